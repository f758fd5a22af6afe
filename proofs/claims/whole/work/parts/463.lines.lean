section LN
variable {ρ ρm : rg} {R n t0 u0 MX : Nat} {T : Nat → Int32}
/-! the lines of a text: class and model side by side -/
def lnO (J : Nat → Nat → sg → sg → Prop) (K : sg → sg → Prop) (ρ : rg) (R : Nat) (T : Nat → Int32) (n k : Nat) (C : Option sg) (M : Option (Int32 × sg)) : Prop :=
  (∃ σ' μ' b' q', C = some σ' ∧ M = some (1, μ') ∧ J (k + 1) b' σ' μ' ∧ cR σ' ρ R T n b' ∧ σ' R 5 = -1 ∧ mS μ' T n q' ∧ bgP T n q' = b') ∨
  (∃ σ' μ' bb, C = some σ' ∧ M = some (0, μ') ∧ K σ' μ' ∧ bb ≤ n ∧ σ' R 5 = Int32.ofNat bb ∧ μ' 105 9 = Int32.ofNat bb)
def alO (J : Nat → Nat → sg → sg → Prop) (K : sg → sg → Prop) (R MX n : Nat) (C : Option sg) (M : Option (Int32 × sg)) : Prop :=
  (∃ L σ' μ', C = some σ' ∧ M = some (Int32.ofNat L, μ') ∧ L ≤ MX ∧ (∃ b', J L b' σ' μ') ∧ σ' R 5 = -1) ∨
  (∃ σ' μ' bb, C = some σ' ∧ M = some (-1, μ') ∧ K σ' μ' ∧ bb ≤ n ∧ σ' R 5 = Int32.ofNat bb ∧ μ' 105 9 = Int32.ofNat bb)
/-- what the model does behind a line -/
def mRest (ρm : rg) (a1 : Int32) (f : Nat) (S : am_S) (k : Int32) (μ : sg) : Option (sg ⊕ (Int32 × sg)) :=
  (f_X12_blanks (μ, ρm) 105).bind (fun σ7 => (if (σ7 105 7) = (σ7 105 8) then some (.inr ((k + 1), σ7)) else ((f_X12_isAt (σ7, ρm) 105 59 59).bind (fun v9 => (if v9 = 0 then some (.inr ((-1), σ7)) else am_loop (f_X12_readAll_b28 S 105 a1) f ((k + 1), (am_u2 σ7 105 7 ((σ7 105 7) + 1))))))))
theorem bnn {α β : Type} {f : α → Option β} : (none : Option α).bind f = none := rfl
theorem mAll_s {a1 : Int32} {f : Nat} {S : am_S} {k : Int32} {μ : sg} (hS : S.2 = ρm) : am_loop (f_X12_readAll_b28 S 105 a1) (f + 1) (k, μ) = (f_X12_readLine (μ, ρm) 105 a1 k).bind (fun y5 => if y5.1 = 0 then some (.inr ((-1), y5.2)) else mRest ρm a1 f S k y5.2) := by
  obtain ⟨s1, s2⟩ := S
  simp only at hS
  subst hS
  have hb : f_X12_readAll_b28 (s1, s2) 105 a1 (k, μ) = (f_X12_readLine (μ, s2) 105 a1 k).bind (fun y5 => (if y5.1 = 0 then some (.inr (.inr ((-1), y5.2))) else ((f_X12_blanks (y5.2, s2) 105).bind (fun σ7 => (if (σ7 105 7) = (σ7 105 8) then some (.inr (.inr ((k + 1), σ7))) else ((f_X12_isAt (σ7, s2) 105 59 59).bind (fun v9 => (if v9 = 0 then some (.inr (.inr ((-1), σ7))) else some (.inl ((k + 1), (am_u2 σ7 105 7 ((σ7 105 7) + 1)))))))))))) := rfl
  rw [am_loop_s, hb]
  unfold mRest
  cases f_X12_readLine (μ, s2) 105 a1 k with
  | none => simp only [bnn]
  | some y =>
    simp only [bnd]
    by_cases c : y.1 = 0
    · simp only [if_pos c, bnd]
    · simp only [if_neg c]
      cases f_X12_blanks (y.2, s2) 105 with
      | none => simp only [bnn]
      | some z =>
        simp only [bnd]
        by_cases d : z 105 7 = z 105 8
        · simp only [if_pos d, bnd]
        · simp only [if_neg d]
          cases f_X12_isAt (z, s2) 105 59 59 with
          | none => simp only [bnn]
          | some v =>
            simp only [bnd]
            by_cases e : v = 0
            · simp only [if_pos e, bnd]
            · simp only [if_neg e, bnd]
def bodyF (ρ : rg) (R MX : Nat) (CL : Nat → sg → Option sg) (body : Int32 × sg → Option ((Int32 × sg) ⊕ sg)) : Prop :=
  ∀ k σ, k ≤ MX → body (Int32.ofNat k, σ) = (f_X4_isAtLine (σ, ρ) R (Int32.ofNat k) (Int32.ofNat MX)).bind (fun y => if y.1 = 0 then some (.inr y.2) else (CL k y.2).bind (fun σ8 => some (.inl (Int32.ofNat (k + 1), σ8))))
section GO
variable {J : Nat → Nat → sg → sg → Prop} {K : sg → sg → Prop} {CL : Nat → sg → Option sg} {body : Int32 × sg → Option ((Int32 × sg) ⊕ sg)} {a1 : Int32} {S : am_S}
theorem bad_line {σ : sg} {bb k : Nat} (h : σ R 5 = Int32.ofNat bb) (hb : bb ≤ 400) {x y : Int32} : f_X4_isAtLine (σ, ρ) R x y = some (0, σ) := by
  unfold f_X4_isAtLine
  simp only
  rw [if_neg (by rw [h]; exact on_m1 (by omega))]
/-- behind a line -/
theorem g_rest (hr : rh ρm t0 u0) (hB : tB T n) (hn : n ≤ 400) (hMX : MX ≤ 14) (hS : S.2 = ρm)
    (hbody : bodyF ρ R MX CL body) (hend : ∀ σ, body (Int32.ofNat (MX + 1), σ) = some (.inr σ))
    (hJ : ∀ k b σ μ b' σ' μ', J k b σ μ → kO R σ σ' → kM μ μ' → b ≤ b' → J k b' σ' μ') (hK : ∀ k b σ μ, J k b σ μ → K σ μ)
    (hover : ∀ μ, f_X12_readLine (μ, ρm) 105 a1 (Int32.ofNat MX) = (f_X12_letters (μ, ρm) 105).bind (fun σ1 => some (0, σ1)))
    (hline : ∀ k σ μ b q, k < MX → J k b σ μ → cR σ ρ R T n b → σ R 5 = -1 → mS μ T n q → bgP T n q = b → lnO J K ρ R T n k (CL k σ) (f_X12_readLine (μ, ρm) 105 a1 (Int32.ofNat k))) :
    ∀ m k, k + m = MX → ∀ f1 f2, m + 3 < f1 → m + 3 < f2 → ∀ σ μ b q, J (k + 1) b σ μ → cR σ ρ R T n b → σ R 5 = -1 → mS μ T n q → bgP T n q = b → k < MX →
      alO J K R MX n (am_loop body f1 (Int32.ofNat (k + 1), σ)) ((mRest ρm a1 f2 S (Int32.ofNat k) μ).bind (fun r => match r with | .inl _ => none | .inr x => some x)) := by
  intro m
  induction m with
  | zero => intro k hk f1 f2 _ _ σ μ b q _ _ _ _ _ hlt; omega
  | succ m ih =>
    intro k hk f1 f2 hf1 hf2 σ μ b q hj hc hok hm hb hlt
    obtain ⟨f1, rfl⟩ : ∃ f, f1 = f + 1 := ⟨f1 - 1, by omega⟩
    obtain ⟨f2, rfl⟩ : ∃ f, f2 = f + 1 := ⟨f2 - 1, by omega⟩
    have hbn := hc.2.2.2.1
    have c1 := hc.2.2.2.2.2.1
    have c2 := hc.2.2.2.2.2.2.1
    obtain ⟨μ1, a2, a3, a4, a5⟩ := rm_bl hr hm
    rw [hb] at a4 a5
    have hm1 := a4
    unfold mRest
    rw [a2, bnd, am_loop_s, hbody (k + 1) σ (by omega)]
    simp only [a4.1, a4.2.1]
    by_cases e : b = n
    · -- the text's end
      rw [if_pos (by rw [e]), bnd]
      left
      refine ⟨k + 1, σ, μ1, ?_, by rw [on_s], by omega, ⟨b, hJ _ _ _ _ _ _ _ hj (fun _ _ => rfl) a3 (Nat.le_refl _)⟩, hok⟩
      unfold f_X4_isAtLine
      simp only
      rw [if_pos hok, c1, c2, e, if_neg (lt_n (by omega)), bnd]
      simp only
      rw [if_pos trivial, bnd]
    · have hlt2 : b < n := by omega
      rw [if_neg (fun z => e ((on_inj (by omega) (by omega)).mp z)), rm_at hr a4, bnd]
      have g0 : gT 0 = true := by decide
      have ch : chS 0 0 = 59 := by decide
      have hT0 := gT_T (T := T) hbn g0
      rw [ch] at hT0
      have hpos : (0 : Int32) < Int32.ofNat (k + 1) := (on_lt (a := 0) (by decide) (by omega)).mpr (by omega)
      by_cases s : T b = 59
      · have hi : isT T n b 0 = true := by rw [hT0]; exact decide_eq_true ⟨hlt2, s⟩
        have en : enP T n b = b + 1 := by
          have k1 : kdP T n b = kdN 59 := by unfold kdP; rw [if_pos hlt2, s]
          exact (en_p (T := T) hbn).2.2.2.2.2 (by rw [k1]; decide) (by rw [k1]; decide) hlt2
        rw [decide_eq_true ⟨hlt2, sg_at.mpr s⟩, if_neg (by decide), on_s, on_s]
        obtain ⟨σ1, t1, t2, t3, t4⟩ := c_took1 hc (by decide) hok hi
        obtain ⟨μ2, hμ2⟩ : ∃ x, x = am_u2 μ1 105 7 (Int32.ofNat (b + 1)) := ⟨_, rfl⟩
        rw [← hμ2]
        have km : kM μ μ2 := by rw [hμ2]; exact kM_tr a3 kM_7
        have m2 : mS μ2 T n (enP T n b) := by rw [hμ2, en]; exact mS_k a4 kM_7 u2_eq (by omega)
        have hbx : b ≤ nx T n b := by have e1 := en_p (T := T) hbn; have e2 := bg_p (T := T) e1.2.1; unfold nx; omega
        have j2 := hJ _ _ _ _ (nx T n b) _ _ hj t3 km hbx
        have r5 : σ1 R 5 = -1 := t4
        by_cases l : k + 1 < MX
        · have hat : f_X4_isAtLine (σ, ρ) R (Int32.ofNat (k + 1)) (Int32.ofNat MX) = some (1, σ1) := by
            unfold f_X4_isAtLine
            simp only
            rw [if_pos hok, c1, c2, if_pos (lt_y hlt2 (by omega)), if_pos hpos, show (1000 + 0 : Nat) = 1000 + 0 from rfl, t1, bnd]
            simp only
            rw [if_neg (by decide), if_pos (lt_y l (by omega)), bnd, if_pos r5]
          rw [hat, bnd]
          simp only
          rw [if_neg (by decide), mAll_s hS]
          have hl := hline (k + 1) σ1 μ2 (nx T n b) (enP T n b) l j2 t2 r5 m2 rfl
          rcases hl with ⟨σ', μ', b', q', h1, h2, h3, h4, h5, h6, h7⟩ | ⟨σ', μ', bb, h1, h2, h3, h4, h5, h6⟩
          · rw [h1, bnd, bnd, h2, bnd]
            simp only
            rw [if_neg (by decide)]
            exact ih (k + 1) (by omega) f1 f2 (by omega) (by omega) σ' μ' b' q' h3 h4 h5 h6 h7 l
          · rw [h1, bnd, bnd, h2, bnd]
            simp only
            rw [if_pos trivial, bnd]
            right
            refine ⟨σ', μ', bb, ?_, rfl, h3, h4, h5, h6⟩
            obtain ⟨f1, rfl⟩ : ∃ f, f1 = f + 1 := ⟨f1 - 1, by omega⟩
            rw [am_loop_s, hbody (k + 1 + 1) σ' (by omega), bad_line (k := 0) h5 (by omega), bnd]
            simp only
            rw [if_pos trivial, bnd]
        · have hkm : k + 1 = MX := by omega
          obtain ⟨σ2, v1, v2, v3, v4⟩ := c_ref1 t2 r5
          have hat : f_X4_isAtLine (σ, ρ) R (Int32.ofNat (k + 1)) (Int32.ofNat MX) = some (0, σ2) := by
            unfold f_X4_isAtLine
            simp only
            rw [if_pos hok, c1, c2, if_pos (lt_y hlt2 (by omega)), if_pos hpos, t1, bnd]
            simp only
            rw [if_neg (by decide), hkm, if_neg (lt_n (by omega)), v1, bnd, bnd, v4, if_neg (on_m1 (by have := t2.2.2.2.1; omega))]
          rw [hat, bnd]
          simp only
          rw [if_pos trivial, bnd, mAll_s hS, hkm, hover]
          obtain ⟨μ3, w1, w2, w3, w4⟩ := rm_let hr hB m2
          rw [w1, bnd, bnd]
          simp only
          rw [if_pos trivial, bnd]
          right
          refine ⟨σ2, μ3, nx T n b, rfl, rfl, hK (k + 1) _ _ _ (hJ _ _ _ _ _ _ _ j2 v3 w2 (Nat.le_refl _)), t2.2.2.2.1, v4, w4⟩
      · have hi : isT T n b 0 = false := by rw [hT0]; exact decide_eq_false (fun z => s z.2)
        rw [decide_eq_false (fun z => s (sg_at.mp z.2)), if_pos (show bi false = 0 from rfl), bnd]
        obtain ⟨σ2, v1, v2, v3, v4⟩ := c_ref1 hc hok
        have hat : f_X4_isAtLine (σ, ρ) R (Int32.ofNat (k + 1)) (Int32.ofNat MX) = some (0, σ2) := by
          unfold f_X4_isAtLine
          simp only
          rw [if_pos hok, c1, c2, if_pos (lt_y hlt2 (by omega)), if_pos hpos, c_took0 hc (by decide) (fun z => by rw [hi] at z; exact absurd z.2 (by decide)), bnd]
          simp only
          rw [if_pos trivial, v1, bnd, bnd, v4, if_neg (on_m1 (by omega))]
        rw [hat, bnd]
        simp only
        rw [if_pos trivial, bnd]
        right
        exact ⟨σ2, μ1, b, rfl, rfl, hK (k + 1) _ _ _ (hJ _ _ _ _ _ _ _ hj v3 a3 (Nat.le_refl _)), hbn, v4, a5⟩
theorem g_all (hr : rh ρm t0 u0) (hB : tB T n) (hn : n ≤ 400) (hMX : MX ≤ 14) (hMX0 : 0 < MX)
    (hbody : bodyF ρ R MX CL body) (hend : ∀ σ, body (Int32.ofNat (MX + 1), σ) = some (.inr σ))
    (hJ : ∀ k b σ μ b' σ' μ', J k b σ μ → kO R σ σ' → kM μ μ' → b ≤ b' → J k b' σ' μ') (hK : ∀ k b σ μ, J k b σ μ → K σ μ)
    (hover : ∀ μ, f_X12_readLine (μ, ρm) 105 a1 (Int32.ofNat MX) = (f_X12_letters (μ, ρm) 105).bind (fun σ1 => some (0, σ1)))
    (hline : ∀ k σ μ b q, k < MX → J k b σ μ → cR σ ρ R T n b → σ R 5 = -1 → mS μ T n q → bgP T n q = b → lnO J K ρ R T n k (CL k σ) (f_X12_readLine (μ, ρm) 105 a1 (Int32.ofNat k)))
    {σ μ0 μ : sg} {b : Nat} (hμ : μ = am_u2 (am_u2 (am_u2 (am_u2 (am_u2 μ0 105 0 0) 105 8 (Int32.ofNat n)) 105 6 0) 105 7 0) 105 13 0) (h6 : μ0 105 6 = Int32.ofNat n) (hj : J 0 b σ μ) (hc : cR σ ρ R T n b) (hok : σ R 5 = -1) (hb : bgP T n 0 = b) (hT : ∀ k, k < n → μ 109 k = T k) :
    alO J K R MX n (am_loop body am_fuel ((0 : Int32), σ)) (f_X12_readAll (μ0, ρm) 105 a1) := by
  have hm : mS μ T n 0 := ⟨by rw [hμ, u2_nj (by decide), u2_eq]; rfl, by rw [hμ, u2_nj (by decide), u2_nj (by decide), u2_nj (by decide), u2_eq], by omega, hn, hT⟩
  have hbn := hc.2.2.2.1
  have c1 := hc.2.2.2.2.2.1
  have c2 := hc.2.2.2.2.2.2.1
  obtain ⟨μ1, a2, a3, a4, a5⟩ := rm_bl hr hm
  rw [hb] at a4 a5
  unfold f_X12_readAll f_X12_uses
  simp only
  rw [u2_nj (by decide), h6, bnd, ← hμ, a2, bnd]
  obtain ⟨F, fu, hF⟩ : ∃ F, am_fuel = F + 1 + 1 ∧ 100 < F := ⟨999999999998, rfl, by omega⟩
  rw [a4.1, a4.2.1, fu, am_loop_s, show (0 : Int32) = Int32.ofNat 0 from rfl, hbody 0 σ (by omega)]
  have j1 := hJ _ _ _ _ _ _ _ hj (fun _ _ => rfl) a3 (Nat.le_refl _)
  by_cases e : b = n
  · rw [if_pos (by rw [e])]
    left
    refine ⟨0, σ, μ1, ?_, rfl, by omega, ⟨b, j1⟩, hok⟩
    unfold f_X4_isAtLine
    simp only
    rw [if_pos hok, c1, c2, e, if_neg (lt_n (by omega)), bnd]
    simp only
    rw [if_pos trivial, bnd]
  · have hlt2 : b < n := by omega
    rw [if_neg (fun z => e ((on_inj (by omega) (by omega)).mp z))]
    have hat : f_X4_isAtLine (σ, ρ) R (Int32.ofNat 0) (Int32.ofNat MX) = some (1, σ) := by
      unfold f_X4_isAtLine
      simp only
      rw [if_pos hok, c1, c2, if_pos (lt_y hlt2 (by omega)), if_neg (by decide), if_pos (lt_y hMX0 (by omega)), bnd, if_pos hok]
    rw [hat, bnd]
    simp only
    rw [if_neg (by decide), mAll_s rfl]
    have bb0 : bgP T n b = b := by rw [← hb]; exact bg_2 (Nat.zero_le _)
    rcases hline 0 σ μ1 b b hMX0 j1 hc hok a4 bb0 with ⟨σ', μ', b', q', h1, h2, h3, h4, h5, h6, h7⟩ | ⟨σ', μ', bb, h1, h2, h3, h4, h5, h6⟩
    · rw [h1, bnd, bnd, h2, bnd]
      simp only
      rw [if_neg (by decide)]
      have := g_rest (S := (μ1, ρm)) hr hB hn hMX rfl hbody hend hJ hK hover hline MX 0 (by omega) (F + 1) (F + 1) (by omega) (by omega) σ' μ' b' q' h3 h4 h5 h6 h7 hMX0
      revert this
      cases mRest ρm a1 (F + 1) (μ1, ρm) (Int32.ofNat 0) μ' with
      | none => intro z; exact z
      | some r =>
        cases r with
        | inl x => intro z; exact z
        | inr x => intro z; exact z
    · rw [h1, bnd, bnd, h2, bnd]
      simp only
      rw [if_pos trivial, bnd]
      right
      refine ⟨σ', μ', bb, ?_, rfl, h3, h4, h5, h6⟩
      rw [am_loop_s, hbody (0 + 1) σ' (by omega), bad_line (k := 0) h5 (by omega), bnd]
      simp only
      rw [if_pos trivial, bnd]
end GO
end LN
