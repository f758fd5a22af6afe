section VB
variable {σ0 μ0 : sg} {ρ ρm : rg} {u d n t0 u0 a0 c0 : Nat} {T : Nat → Int32}
def ckL : List (Nat × Nat) → List Bool → Option (List Bool)
  | [], st => some st
  | x :: r, st => (ck1 st x.1).bind (fun st' => ckL r st')
theorem ckL_app : ∀ (a b : List (Nat × Nat)) (st : List Bool), ckL (a ++ b) st = (ckL a st).bind (fun st' => ckL b st')
  | [], b, st => by show _ = (some st).bind _; rw [bnd]; rfl
  | x :: r, b, st => by
    show (ck1 st x.1).bind (fun st' => ckL (r ++ b) st') = ((ck1 st x.1).bind (fun st' => ckL r st')).bind _
    cases ck1 st x.1 with
    | none => simp only [bnn]
    | some st' => simp only [bnd]; exact ckL_app r b st'
def PN (N : Nat) (k : Bool) (ls : List (Nat × Nat)) : Prop := ∀ st, st.length + N ≤ 40 → ckL ls st = some (k :: st)
def RN (N : Nat) (k : Bool) (ls : List (Nat × Nat)) : Prop := ∀ st, st.length + N ≤ 40 → ckL ls (k :: st) = some (k :: st)
def gmF (r : sg ⊕ (Int32 × sg)) : Option (Int32 × sg) := match r with | .inl _ => none | .inr x => some x
theorem isT_n {b s : Nat} (hb : b ≤ n) (hs : s < 22) (h : isT T n b s = true) : b < n := by
  have := (isT_iff.mp h).1
  have := s_lt hs
  have := en_p (T := T) hb
  omega
theorem nx_gt {b : Nat} (hb : b < n) : b < nx T n b ∧ nx T n b ≤ n := by
  have e := en_p (T := T) (show b ≤ n by omega)
  have g := bg_p (T := T) e.2.1
  unfold nx
  have := e.2.2.1 hb
  omega
def lpK {γ δ : Type} (body : γ → Option (γ ⊕ δ)) (f : Nat) (r : γ ⊕ δ) : Option δ := match r with | .inl y => am_loop body f y | .inr d => some d
theorem am_loop_k {γ δ : Type} {body : γ → Option (γ ⊕ δ)} {f : Nat} {x : γ} : am_loop body (f + 1) x = (body x).bind (lpK body f) := rfl
theorem lpK_inl {γ δ : Type} {body : γ → Option (γ ⊕ δ)} {f : Nat} {y : γ} : lpK body f (.inl y) = am_loop body f y := rfl
theorem lpK_inr {γ δ : Type} {body : γ → Option (γ ⊕ δ)} {f : Nat} {e : δ} : lpK body f (.inr e) = some e := rfl
section GL
variable {IC : sg → Option sg} {IM SM : sg → Option (Int32 × sg)} {s o N : Nat} {kb : Bool} {eo : Int32} {body : Int32 × Int32 × sg → Option ((Int32 × Int32 × sg) ⊕ sg)} {mbody : sg → Option (sg ⊕ (sg ⊕ (Int32 × sg)))}
theorem gl_rest (hr : rh ρ a0 c0) (hrm : rh ρm t0 u0) (hu : tu2 u) (hs : s < 22) (ho : o < 12) (he : eo = enc o 0) (hop : ∀ st, ck1 (kb :: kb :: st) o = some (kb :: st))
    (hb1 : ∀ k σ, k < 400 → body (1, Int32.ofNat k, σ) = (IC σ).bind (fun σ7 => (if 0 < Int32.ofNat k then f_X1_addStep (σ7, ρ) (u + 9) eo else some σ7).bind (fun t8 => (f_X4_took (t8, ρ) 80 (1000 + s)).bind (fun y => some (.inl (y.1, Int32.ofNat (k + 1), y.2))))))
    (hb0 : ∀ k σ, body (0, k, σ) = some (.inr σ))
    (hm : ∀ ν, mbody ν = (SM ν).bind (fun y5 => if y5.1 = 0 then some (.inr (.inr (1, y5.2))) else (IM y5.2).bind (fun y7 => if y7.1 = 0 then some (.inr (.inr (0, y7.2))) else (f_X12_emits (y7.2, ρm) 105 (Int32.ofNat o) 0).bind (fun σ9 => some (.inl σ9)))))
    (hS1 : ∀ μ q b, mS μ T n q → bgP T n q = b → isT T n b s = true → ∃ ν, SM μ = some (1, ν) ∧ kM μ ν ∧ mS ν T n (enP T n b))
    (hS0 : ∀ μ q b, mS μ T n q → bgP T n q = b → isT T n b s = false → ∃ ν, SM μ = some (0, ν) ∧ kM μ ν ∧ mS ν T n b ∧ ν 105 9 = Int32.ofNat b)
    (hI : ∀ σ μ l b q, GD σ0 μ0 u d ρ T n l b q σ μ → l.length < b → gO σ0 μ0 u d ρ T n l b (PN N kb) (IC σ) (IM μ)) :
    ∀ m k l b q σ μ f1 f2, n ≤ b + m → m + 3 < f1 → m + 3 < f2 → k < b → GD σ0 μ0 u d ρ T n l b q σ μ → l.length < b →
      gO σ0 μ0 u d ρ T n l b (RN (N + 1) kb) ((f_X4_took (σ, ρ) 80 (1000 + s)).bind (fun y => am_loop body f1 (y.1, Int32.ofNat (k + 1), y.2))) ((am_loop mbody f2 μ).bind gmF) := by
  intro m
  induction m with
  | zero =>
    intro k l b q σ μ f1 f2 h1 h2 h3 h4 h5 h6
    have hg := h5
    obtain ⟨h7, h8, h9, h10, h11⟩ := h5
    have hbn := h8.2.2.2.1
    have hi : isT T n b s = false := by
      cases z : isT T n b s
      · rfl
      · have := isT_n hbn hs z; omega
    obtain ⟨f1, rfl⟩ : ∃ f, f1 = f + 1 := ⟨f1 - 1, by omega⟩
    obtain ⟨f2, rfl⟩ : ∃ f, f2 = f + 1 := ⟨f2 - 1, by omega⟩
    obtain ⟨ν, m1, m2, m3, m4⟩ := hS0 μ q b h10 h11 hi
    rw [c_took0 h8 hs (fun z => by rw [hi] at z; exact absurd z.2 (by decide)), bnd]
    simp only [lpK_inl, lpK_inr]
    rw [am_loop_k, am_loop_k, hb0, bnd, hm, m1, bnd]
    simp only [lpK_inl, lpK_inr]
    rw [if_pos trivial, bnd]
    simp only [lpK_inl, lpK_inr]
    rw [bnd]
    left
    refine ⟨σ, ν, [], b, b, rfl, rfl, ?_, fun st hst => rfl, by simp⟩
    rw [List.append_nil]
    exact GD_k hu hg (fun _ _ => rfl) m2 h8 h9 m3 (bg_0 hbn h8.2.2.2.2.1)
  | succ m ih =>
    intro k l b q σ μ f1 f2 h1 h2 h3 h4 h5 h6
    have hg := h5
    obtain ⟨h7, h8, h9, h10, h11⟩ := h5
    have hbn := h8.2.2.2.1
    have n4 := h8.2.2.1
    obtain ⟨f1, rfl⟩ : ∃ f, f1 = f + 1 := ⟨f1 - 1, by omega⟩
    obtain ⟨f2, rfl⟩ : ∃ f, f2 = f + 1 := ⟨f2 - 1, by omega⟩
    cases hi : isT T n b s with
    | false =>
      obtain ⟨ν, m1, m2, m3, m4⟩ := hS0 μ q b h10 h11 hi
      rw [c_took0 h8 hs (fun z => by rw [hi] at z; exact absurd z.2 (by decide)), bnd]
      simp only [lpK_inl, lpK_inr]
      rw [am_loop_k, am_loop_k, hb0, bnd, hm, m1, bnd]
      simp only [lpK_inl, lpK_inr]
      rw [if_pos trivial, bnd]
      simp only [lpK_inl, lpK_inr]
      rw [bnd]
      left
      refine ⟨σ, ν, [], b, b, rfl, rfl, ?_, fun st hst => rfl, by simp⟩
      rw [List.append_nil]
      exact GD_k hu hg (fun _ _ => rfl) m2 h8 h9 m3 (bg_0 hbn h8.2.2.2.2.1)
    | true =>
      have hlt := isT_n hbn hs hi
      obtain ⟨x1, x2⟩ := nx_gt (T := T) hlt
      obtain ⟨ν, m1, m2, m3⟩ := hS1 μ q b h10 h11 hi
      obtain ⟨τ, t1, t2, t3, t4⟩ := c_took1 h8 hs h9 hi
      have g1 : GD σ0 μ0 u d ρ T n l (nx T n b) (enP T n b) τ ν := GD_k hu hg t3 m2 t2 t4 m3 rfl
      rw [t1, bnd]
      simp only [lpK_inl, lpK_inr]
      rw [am_loop_k, am_loop_k, hb1 (k + 1) τ (by omega), hm, m1, bnd]
      simp only [lpK_inl, lpK_inr]
      rw [if_neg (show ¬ (1 : Int32) = 0 by decide)]
      have hpos : (0 : Int32) < Int32.ofNat (k + 1) := (on_lt (a := 0) (by decide) (by omega)).mpr (by omega)
      simp only [if_pos hpos]
      rcases hI τ ν l (nx T n b) (enP T n b) g1 (by omega) with ⟨τ1, ν1, ls1, b2, q2, e1, e2, e3, e4, e5⟩ | ⟨τ1, ν1, bb, e1, e2, e3, e4, e5⟩
      · rw [e1, bnd, e2, bnd]
        simp only [lpK_inl, lpK_inr]
        rw [if_neg (show ¬ (1 : Int32) = 0 by decide)]
        have hl2 : (l ++ ls1).length < 400 := by
          have := e3.2.1.2.2.2.1
          rw [List.length_append]; omega
        obtain ⟨τ2, ν2, w1, w2, w3⟩ := em_G hr hrm hu e3 hl2 ho (show 0 < 1000 by decide) he (rfl) (show (0 : Int32) = _ from rfl)
        rw [w1, bnd, w2, bnd, bnd]
        simp only [lpK_inl, lpK_inr]
        have hb2 := e3.2.1.2.2.2.1
        have := ih (k + 1) (l ++ ls1 ++ [(o, 0)]) b2 q2 τ2 ν2 f1 f2 (by omega) (by omega) (by omega) (by omega) w3 (by rw [List.length_append, List.length_append]; simp only [List.length_cons, List.length_nil]; omega)
        have hC : (Option.bind ((f_X4_took (τ2, ρ) 80 (1000 + s)).bind (fun y => some (Sum.inl (y.1, Int32.ofNat (k + 1 + 1), y.2)))) (lpK body f1)) = ((f_X4_took (τ2, ρ) 80 (1000 + s)).bind (fun y => am_loop body f1 (y.1, Int32.ofNat (k + 1 + 1), y.2))) := by
          cases f_X4_took (τ2, ρ) 80 (1000 + s) with
          | none => simp only [bnn]
          | some y => simp only [bnd, lpK_inl]
        rw [hC]
        rcases this with ⟨τ3, ν3, ls2, b3, q3, y1, y2, y3, y4, y5⟩ | ⟨τ3, ν3, bb, y1, y2, y3⟩
        · left
          refine ⟨τ3, ν3, ls1 ++ [(o, 0)] ++ ls2, b3, q3, y1, y2, ?_, fun st hst => ?_, ?_⟩
          · rw [← List.append_assoc, ← List.append_assoc]; exact y3
          · rw [ckL_app, ckL_app, e4 (kb :: st) (by simp only [List.length_cons]; omega), bnd]
            have h1 : ckL [(o, 0)] (kb :: kb :: st) = some (kb :: st) := by
              show (ck1 (kb :: kb :: st) o).bind (fun st' => ckL [] st') = _
              rw [hop st, bnd]; rfl
            rw [h1, bnd]
            exact y4 st hst
          · rw [List.length_append, List.length_append]; simp only [List.length_cons, List.length_nil]; omega
        · right
          exact ⟨τ3, ν3, bb, y1, y2, y3⟩
      · rw [e1, bnd, e2, bnd]
        simp only [lpK_inl, lpK_inr]
        rw [if_pos trivial, bnd]
        simp only [lpK_inl, lpK_inr]
        obtain ⟨τ2, w1, w2⟩ := add_B hr hu e3 eo
        rw [w1, bnd, c_took0 w2.2.2.2.1 hs (fun z => BD_m w2 z.1), bnd, bnd, bnd]
        simp only [lpK_inl, lpK_inr]
        obtain ⟨f1, rfl⟩ : ∃ f, f1 = f + 1 := ⟨f1 - 1, by omega⟩
        rw [am_loop_k, hb0, bnd]
        right
        exact ⟨τ2, ν1, bb, rfl, rfl, w2, e4, e5⟩
theorem gl_all (hr : rh ρ a0 c0) (hrm : rh ρm t0 u0) (hu : tu2 u) (hs : s < 22) (ho : o < 12) (he : eo = enc o 0) (hop : ∀ st, ck1 (kb :: kb :: st) o = some (kb :: st))
    (hb1 : ∀ k σ, k < 400 → body (1, Int32.ofNat k, σ) = (IC σ).bind (fun σ7 => (if 0 < Int32.ofNat k then f_X1_addStep (σ7, ρ) (u + 9) eo else some σ7).bind (fun t8 => (f_X4_took (t8, ρ) 80 (1000 + s)).bind (fun y => some (.inl (y.1, Int32.ofNat (k + 1), y.2))))))
    (hb0 : ∀ k σ, body (0, k, σ) = some (.inr σ))
    (hm : ∀ ν, mbody ν = (SM ν).bind (fun y5 => if y5.1 = 0 then some (.inr (.inr (1, y5.2))) else (IM y5.2).bind (fun y7 => if y7.1 = 0 then some (.inr (.inr (0, y7.2))) else (f_X12_emits (y7.2, ρm) 105 (Int32.ofNat o) 0).bind (fun σ9 => some (.inl σ9)))))
    (hS1 : ∀ μ q b, mS μ T n q → bgP T n q = b → isT T n b s = true → ∃ ν, SM μ = some (1, ν) ∧ kM μ ν ∧ mS ν T n (enP T n b))
    (hS0 : ∀ μ q b, mS μ T n q → bgP T n q = b → isT T n b s = false → ∃ ν, SM μ = some (0, ν) ∧ kM μ ν ∧ mS ν T n b ∧ ν 105 9 = Int32.ofNat b)
    (hI : ∀ σ μ l b q, GD σ0 μ0 u d ρ T n l b q σ μ → l.length < b → gO σ0 μ0 u d ρ T n l b (PN N kb) (IC σ) (IM μ))
    {l : List (Nat × Nat)} {b q : Nat} {σ μ : sg} (hg : GD σ0 μ0 u d ρ T n l b q σ μ) (hl : l.length < b) :
    gO σ0 μ0 u d ρ T n l b (PN (N + 1) kb) (am_loop body am_fuel (1, 0, σ)) ((IM μ).bind (fun y1 => if y1.1 = 0 then some (0, y1.2) else (am_loop mbody am_fuel y1.2).bind gmF)) := by
  obtain ⟨F, fu, hF⟩ : ∃ F, am_fuel = F + 1 ∧ 1000 < F := ⟨999999999999, rfl, by omega⟩
  have hn0 : ¬ (0 : Int32) < Int32.ofNat 0 := by decide
  have hb10 : body (1, 0, σ) = (IC σ).bind (fun σ7 => (f_X4_took (σ7, ρ) 80 (1000 + s)).bind (fun y => some (.inl (y.1, Int32.ofNat (0 + 1), y.2)))) := by
    have h := hb1 0 σ (by decide)
    simp only [if_neg hn0, bnd] at h
    exact h
  rw [fu, am_loop_k, hb10]
  have n4 := hg.2.1.2.2.1
  rcases hI σ μ l b q hg hl with ⟨τ1, ν1, ls1, b2, q2, e1, e2, e3, e4, e5⟩ | ⟨τ1, ν1, bb, e1, e2, e3, e4, e5⟩
  · rw [e1, bnd, e2, bnd]
    simp only [lpK_inl, lpK_inr]
    rw [if_neg (show ¬ (1 : Int32) = 0 by decide)]
    have hC : (Option.bind ((f_X4_took (τ1, ρ) 80 (1000 + s)).bind (fun y => some (Sum.inl (y.1, Int32.ofNat (0 + 1), y.2)))) (lpK body F)) = ((f_X4_took (τ1, ρ) 80 (1000 + s)).bind (fun y => am_loop body F (y.1, Int32.ofNat (0 + 1), y.2))) := by
      cases f_X4_took (τ1, ρ) 80 (1000 + s) with
      | none => simp only [bnn]
      | some y => simp only [bnd, lpK_inl]
    rw [hC]
    have hb2 := e3.2.1.2.2.2.1
    have := gl_rest hr hrm hu hs ho he hop hb1 hb0 hm hS1 hS0 hI n 0 (l ++ ls1) b2 q2 τ1 ν1 F (F + 1) (by omega) (by omega) (by omega) (by omega) e3 (by rw [List.length_append]; omega)
    rcases this with ⟨τ3, ν3, ls2, b3, q3, y1, y2, y3, y4, y5⟩ | ⟨τ3, ν3, bb, y1, y2, y3⟩
    · left
      refine ⟨τ3, ν3, ls1 ++ ls2, b3, q3, y1, y2, by rw [← List.append_assoc]; exact y3, fun st hst => ?_, ?_⟩
      · rw [ckL_app, e4 st (by omega), bnd]
        exact y4 st hst
      · rw [List.length_append]; omega
    · right
      exact ⟨τ3, ν3, bb, y1, y2, y3⟩
  · rw [e1, bnd, e2, bnd]
    simp only [lpK_inl, lpK_inr]
    rw [if_pos trivial, c_took0 e3.2.2.2.1 hs (fun z => BD_m e3 z.1), bnd, bnd]
    simp only [lpK_inl, lpK_inr]
    obtain ⟨F, rfl⟩ : ∃ f, F = f + 1 := ⟨F - 1, by omega⟩
    rw [am_loop_k, hb0, bnd]
    right
    exact ⟨τ1, ν1, bb, rfl, rfl, e3, e4, e5⟩
theorem gl_bad (hr : rh ρ a0 c0) (hu : tu2 u) (hs : s < 22)
    (hb1 : ∀ k σ, k < 400 → body (1, Int32.ofNat k, σ) = (IC σ).bind (fun σ7 => (if 0 < Int32.ofNat k then f_X1_addStep (σ7, ρ) (u + 9) eo else some σ7).bind (fun t8 => (f_X4_took (t8, ρ) 80 (1000 + s)).bind (fun y => some (.inl (y.1, Int32.ofNat (k + 1), y.2))))))
    (hb0 : ∀ k σ, body (0, k, σ) = some (.inr σ)) {bb : Nat}
    (hIB : ∀ σ, BD σ0 u ρ T n bb σ → ∃ τ, IC σ = some τ ∧ BD σ0 u ρ T n bb τ) {σ : sg} (h : BD σ0 u ρ T n bb σ) : ∃ τ, am_loop body am_fuel (1, 0, σ) = some τ ∧ BD σ0 u ρ T n bb τ := by
  obtain ⟨F, fu, hF⟩ : ∃ F, am_fuel = F + 1 + 1 ∧ 1000 < F := ⟨999999999998, rfl, by omega⟩
  have hn0 : ¬ (0 : Int32) < Int32.ofNat 0 := by decide
  obtain ⟨τ, e1, e2⟩ := hIB σ h
  have hb10 : body (1, 0, σ) = (IC σ).bind (fun σ7 => (f_X4_took (σ7, ρ) 80 (1000 + s)).bind (fun y => some (.inl (y.1, Int32.ofNat (0 + 1), y.2)))) := by
    have h := hb1 0 σ (by decide)
    simp only [if_neg hn0, bnd] at h
    exact h
  rw [fu, am_loop_k, hb10, e1, bnd, c_took0 e2.2.2.2.1 hs (fun z => BD_m e2 z.1), bnd, bnd]
  simp only [lpK_inl, lpK_inr]
  rw [am_loop_k, hb0, bnd]
  exact ⟨τ, rfl, e2⟩
end GL
end VB
