section VG
variable {σ μ σs μs τ ν : sg} {ρ ρm : rg} {u d n b q t0 u0 a0 c0 k : Nat} {T : Nat → Int32}
/-! a line of a law -/
def kA (σs μs : sg) (u : Nat) (σ μ : sg) : Prop := (∀ o, o ≠ 80 → ¬ (u + 9 ≤ o ∧ o ≤ u + 12) → σ o = σs o) ∧ (∀ o, o ≠ 105 → o ≠ 106 → μ o = μs o) ∧ (∀ j, j ≠ 7 → j ≠ 9 → j ≠ 10 → j ≠ 13 → μ 105 j = μs 105 j) ∧ (∀ i, i < 1023 → μ 106 i = μs 106 i) ∧ shO u σ
def lnsK (σ μ : sg) (u k : Nat) (l : List (Nat × Nat)) (e : Nat → Nat) : Prop := e 0 = 0 ∧ e k = l.length ∧ ∀ i, i < k → (e i ≤ e (i + 1) ∧ e (i + 1) ≤ l.length) ∧ σ (u + 10) i = μ 106 (1024 + 3 * i) ∧ σ (u + 11) i = Int32.ofNat (e (i + 1)) ∧ μ 106 (1025 + 3 * i) = Int32.ofNat (e i) ∧ μ 106 (1026 + 3 * i) = Int32.ofNat (e (i + 1)) ∧ (e i = e (i + 1) ∨ ckL ((l.drop (e i)).take (e (i + 1) - e i)) [] = some [false])
def LAJ (σs μs : sg) (u k b : Nat) (σ μ : sg) : Prop := kA σs μs u σ μ ∧ σ (u + 9) 0 = Int32.ofNat k ∧ ∃ (l : List (Nat × Nat)) (e : Nat → Nat), lst σ μ u l ∧ l.length ≤ b ∧ lnsK σ μ u k l e
def cLine (ρ : rg) (u : Nat) (σ : sg) : Option sg := (f_X4_took (σ, ρ) 80 (1000 + 8)).bind (fun y11 => (if y11.1 = 0 then f_X4_refuse (y11.2, ρ) 80 else some y11.2).bind (fun t12 => (f_X4_number (t12, ρ) 80 0 999).bind (fun y16 => (f_X4_took (y16.2, ρ) 80 (1000 + 9)).bind (fun y19 => (if y19.1 = 0 then some y19.2 else f_X2_readCondition 60 (y19.2, ρ) 79 (u + 9) 0).bind (fun t20 => f_X1_endLine (t20, ρ) (u + 9) y16.1)))))
theorem kA_k (hu : tu2 u) (h : kA σs μs u σ μ) (k1 : kO 80 σ τ) (k2 : kM μ ν) : kA σs μs u τ ν := by
  have hu' := tu2_n hu
  exact ⟨fun o h1 h2 => (k1 o h1).trans (h.1 o h1 h2), fun o h1 h2 => (k2.1 o h1).trans (h.2.1 o h1 h2), fun j h1 h2 h3 h4 => (k2.2 j h1 h2).trans (h.2.2.1 j h1 h2 h3 h4), fun i hi => (by rw [k2.1 106 (by decide)]; exact h.2.2.2.1 i hi), fun i hi => by rw [k1 _ (by omega)]; exact h.2.2.2.2 i hi⟩
theorem LAJ_k (hu : tu2 u) {b' : Nat} (h : LAJ σs μs u k b σ μ) (k1 : kO 80 σ τ) (k2 : kM μ ν) (hb : b ≤ b') : LAJ σs μs u k b' τ ν := by
  have hu' := tu2_n hu
  obtain ⟨h1, h2, l, e, ⟨s1, s2, s3, s4⟩, h4, h5⟩ := h
  refine ⟨kA_k hu h1 k1 k2, by rw [k1 _ (by omega)]; exact h2, l, e, ⟨s1, by rw [k1 _ (by omega)]; exact s2, by rw [k2.2 13 (by decide) (by decide)]; exact s3, fun i z hz => ?_⟩, by omega, h5.1, h5.2.1, fun i hi => ?_⟩
  · rw [k1 _ (by omega), k2.1 106 (by decide)]; exact s4 i z hz
  · rw [k1 (u + 10) (by omega), k1 (u + 11) (by omega), k2.1 106 (by decide)]; exact h5.2.2 i hi
theorem law_line (hr : rh ρ a0 c0) (hrm : rh ρm t0 u0) (hu : tu2 u) (hB : tB T n) (hk : k < 12) (hj : LAJ σs μs u k b σ μ) (hc : cR σ ρ 80 T n b) (hok : σ 80 5 = -1) (hm : mS μ T n q) (hb : bgP T n q = b) : lnO (LAJ σs μs u) (kA σs μs u) ρ 80 T n k (cLine ρ u σ) (f_X12_readLine (μ, ρm) 105 0 (Int32.ofNat k)) := by
  have hu' := tu2_n hu
  have hbn := hc.2.2.2.1
  have n4 := hc.2.2.1
  obtain ⟨μ1, a1, a2, a3, a4⟩ := rm_let hrm hB hm
  rw [hb] at a3 a4
  obtain ⟨hA, h90, l, e, ⟨s1, s2, s3, s4⟩, hlb, hln⟩ := id hj
  have h999 : (999 : Int32) = Int32.ofNat 1000 - 1 := by decide
  -- the end of a line, where the text was wrong before
  have endB : ∀ (τ ν : sg) (bb : Nat) (v : Int32), (∀ o, o ≠ 80 → ¬ (u + 9 ≤ o ∧ o ≤ u + 12) → τ o = σ o) → shO u τ → τ (u + 9) 0 = Int32.ofNat k → (∃ c, τ (u + 9) 1 = Int32.ofNat c) → τ 80 5 = Int32.ofNat bb → kA σs μs u σ ν → ∃ τ', f_X1_endLine (τ, ρ) (u + 9) v = some τ' ∧ kA σs μs u τ' ν ∧ τ' 80 5 = Int32.ofNat bb := by
    intro τ ν bb v f1 f2 f3 ⟨c, f4⟩ f5 f6
    refine ⟨_, c_endL hr hu hk f3 f4 v, ⟨fun o h1 h2 => ?_, f6.2.1, f6.2.2.1, f6.2.2.2.1, fun i hi => ?_⟩, ?_⟩
    · rw [u2_row (by omega), u2_row (by omega), u2_row (by omega), f1 o h1 h2]; exact f6.1 o h1 h2
    · rw [u2_ne (by omega), u2_ne (by omega), u2_ne (by omega)]; exact f2 i hi
    · rw [u2_ne (by omega), u2_ne (by omega), u2_ne (by omega)]; exact f5
  have kOf : ∀ τ : sg, kO 80 σ τ → (∀ o, o ≠ 80 → ¬ (u + 9 ≤ o ∧ o ≤ u + 12) → τ o = σ o) ∧ shO u τ ∧ τ (u + 9) 0 = Int32.ofNat k ∧ (∃ c, τ (u + 9) 1 = Int32.ofNat c) := fun τ k1 =>
    ⟨fun o h1 _ => k1 o h1, fun i hi => by rw [k1 _ (by omega)]; exact hA.2.2.2.2 i hi, by rw [k1 _ (by omega)]; exact h90, ⟨l.length, by rw [k1 _ (by omega)]; exact s2⟩⟩
  unfold f_X12_readLine
  rw [a1, bnd]
  simp only
  rw [if_pos trivial, bnd, if_pos (show Int32.ofNat k < 12 from (on_lt (b := 12) (by omega) (by decide)).mpr hk), if_pos trivial]
  unfold f_X12_readLawLine cLine
  rw [rm_isW hrm hB a3 a4 hbn (show wT 8 = true by decide), bnd]
  cases p8 : isT T n b 8 with
  | false =>
    obtain ⟨τ, w1, w2, w3, w4⟩ := c_ref1 hc hok
    have nb : τ 80 5 ≠ -1 := by rw [w4]; exact on_m1 (by omega)
    rw [if_pos (show bi false = 0 from rfl), bnd, c_took0 hc (by decide) (fun z => by rw [p8] at z; exact absurd z.2 (by decide)), bnd]
    simp only
    rw [if_pos trivial, if_pos trivial, w1, bnd, c_num0 w2 hB nb, bnd]
    simp only
    rw [c_took0 w2 (by decide) (fun z => nb z.1), bnd]
    simp only
    rw [if_pos trivial, bnd]
    obtain ⟨f1, f2, f3, f4⟩ := kOf τ w3
    obtain ⟨τ', v1, v2, v3⟩ := endB τ μ1 b (-1) f1 f2 f3 f4 w4 (kA_k hu hA (fun _ _ => rfl) a2)
    rw [v1]
    right
    exact ⟨τ', μ1, b, rfl, rfl, v2, hbn, v3, a4⟩
  | true =>
    obtain ⟨τ1, t1, t2, t3, t4⟩ := c_took1 hc (s := 8) (by decide) hok p8
    have le : ltP T n b = enP T n b := by unfold ltP; rw [if_pos (isT_97 hB hbn (by decide) p8)]
    rw [le] at a3
    obtain ⟨x1, x2⟩ := nx_gt (T := T) (isT_n hbn (by decide) p8)
    rw [if_neg (show ¬ bi true = 0 by decide), m_w hrm, bnd, t1, bnd]
    simp only
    rw [if_neg (show ¬ (1 : Int32) = 0 by decide), bnd]
    rcases c_nI (lo := 0) (H := 1000) t2 hB t4 (show (0 : Int32) = _ from rfl) h999 (by decide) (by decide) with ⟨v, τ2, r1, y1, -, y2, e1, c1, k1, o1⟩ | ⟨r1, τ2, e1, c1, k1, o1⟩
    · obtain ⟨μ2, m1, km1, ms1⟩ := (rm_nI (lo := 0) (H := 1000) hrm hB a3 rfl (show (0 : Int32) = _ from rfl) h999 (by decide) (by decide)).1 v r1
      have bn1 := t2.2.2.2.1
      have bn2 := c1.2.2.2.1
      have bb2 : bgP T n (nx T n (nx T n b)) = nx T n (nx T n b) := bg_0 bn2 c1.2.2.2.2.1
      have x3 : nx T n b ≤ nx T n (nx T n b) := by have e1 := en_p (T := T) bn1; have e2 := bg_p (T := T) e1.2.1; unfold nx at *; omega
      obtain ⟨G, hG⟩ : ∃ G, G = am_u2 (am_u2 (am_u2 μ2 106 (1024 + 3 * k) (Int32.ofNat v)) 106 (1025 + 3 * k) (Int32.ofNat l.length)) 105 10 0 := ⟨_, rfl⟩
      have km : kM μ μ2 := kM_tr a2 km1
      have ko : kO 80 σ τ2 := fun o ho => (k1 o ho).trans (t3 o ho)
      have G13 : μ2 105 13 = Int32.ofNat l.length := by rw [km.2 13 (by decide) (by decide)]; exact s3
      have G6 : ∀ i, i ≠ 1024 + 3 * k → i ≠ 1025 + 3 * k → G 106 i = μ 106 i := fun i h1 h2 => by rw [hG, u2_ne (by decide), u2_nj h2, u2_nj h1, km.1 106 (by decide)]
      have G4 : G 106 (1024 + 3 * k) = Int32.ofNat v := by rw [hG, u2_ne (by decide), u2_nj (by omega), u2_eq]
      have G5 : G 106 (1025 + 3 * k) = Int32.ofNat l.length := by rw [hG, u2_ne (by decide), u2_eq]
      have Go : ∀ o, o ≠ 105 → o ≠ 106 → G o = μ o := fun o h1 h2 => by rw [hG, u2_row h1, u2_row h2, u2_row h2, km.1 o h1]
      have Gj : ∀ j, j ≠ 7 → j ≠ 9 → j ≠ 10 → G 105 j = μ 105 j := fun j h1 h2 h3 => by rw [hG, u2_nj h3, u2_ne (by decide), u2_ne (by decide), km.2 j h1 h2]
      have gS : mS G T n (enP T n (nx T n b)) := by
        refine ⟨?_, ?_, ms1.2.2.1, ms1.2.2.2.1, fun i hi => ?_⟩
        · rw [hG, u2_nj (by decide), u2_ne (by decide), u2_ne (by decide)]; exact ms1.1
        · rw [hG, u2_nj (by decide), u2_ne (by decide), u2_ne (by decide)]; exact ms1.2.1
        · rw [hG, u2_ne (by decide), u2_ne (by decide), u2_ne (by decide)]; exact ms1.2.2.2.2 i hi
      have g2 : GD τ2 G u 0 ρ T n l (nx T n (nx T n b)) (enP T n (nx T n b)) τ2 G := by
        refine ⟨⟨⟨fun _ _ _ _ => rfl, fun _ _ => rfl⟩, ⟨fun _ _ _ => rfl, fun _ _ _ _ _ => rfl, fun _ _ => rfl⟩, ⟨s1, by rw [ko _ (by omega)]; exact s2, by rw [Gj 13 (by decide) (by decide) (by decide)]; exact s3, fun i z hz => ?_⟩, fun i hi => by rw [ko _ (by omega)]; exact hA.2.2.2.2 i hi, by rw [hG, u2_eq]; rfl⟩, c1, o1, gS, rfl⟩
        rw [ko _ (by omega), G6 _ (by omega) (by omega), G6 _ (by omega) (by omega)]
        exact s4 i z hz
      -- a good line
      have fin : ∀ (τe νe : sg) (ls : List (Nat × Nat)) (b' q' : Nat), GD τ2 G u 0 ρ T n (l ++ ls) b' q' τe νe → (ls = [] ∨ ckL ls [] = some [false]) → (l ++ ls).length ≤ b' → lnO (LAJ σs μs u) (kA σs μs u) ρ 80 T n k (f_X1_endLine (τe, ρ) (u + 9) (Int32.ofNat v)) (((am_st νe 106 (Int32.ofNat (1024 + 3 * k) + 2) (νe 105 13)).bind (fun σ16 => some ((1 : Int32), σ16))).bind (fun y5 => if y5.1 = 0 then some (0, y5.2) else some (1, y5.2))) := by
        intro τe νe ls b' q' g hls hle
        obtain ⟨⟨⟨p1, p2⟩, ⟨p3, p4, p5⟩, ⟨z1, z2, z3, z4⟩, p6, p7⟩, p8, p9, p10, p11⟩ := g
        have h90e : τe (u + 9) 0 = Int32.ofNat k := by rw [p2 0 (by decide), ko _ (by omega)]; exact h90
        rw [c_endL hr hu hk h90e z2 (Int32.ofNat v), z3, show (2 : Int32) = Int32.ofNat 2 from rfl, on_add, show 1024 + 3 * k + 2 = 1026 + 3 * k by omega, st_on (by rw [ln_106']; omega) (by omega), bnd, bnd]
        simp only
        rw [if_neg (show ¬ (1 : Int32) = 0 by decide)]
        obtain ⟨E, hE⟩ : ∃ E, E = am_u2 (am_u2 (am_u2 τe (u + 10) k (Int32.ofNat v)) (u + 11) k (Int32.ofNat (l ++ ls).length)) (u + 9) 0 (Int32.ofNat (k + 1)) := ⟨_, rfl⟩
        obtain ⟨D, hD⟩ : ∃ D, D = am_u2 νe 106 (1026 + 3 * k) (Int32.ofNat (l ++ ls).length) := ⟨_, rfl⟩
        rw [← hE, ← hD]
        have Eo : ∀ o, o ≠ u + 9 → o ≠ u + 10 → o ≠ u + 11 → E o = τe o := fun o h1 h2 h3 => by rw [hE, u2_row h1, u2_row h3, u2_row h2]
        have D6 : ∀ i, i < 1060 → i ≠ 1026 + 3 * k → D 106 i = G 106 i := fun i h1 h2 => by rw [hD, u2_nj h2, p5 i h1]
        obtain ⟨e', he'⟩ : ∃ e' : Nat → Nat, e' = fun i => if i = k + 1 then (l ++ ls).length else e i := ⟨_, rfl⟩
        have ek : ∀ i, i ≠ k + 1 → e' i = e i := fun i hi => by rw [he']; show (if _ then _ else _) = _; rw [if_neg hi]
        have ek1 : e' (k + 1) = (l ++ ls).length := by rw [he']; show (if _ then _ else _) = _; rw [if_pos rfl]
        left
        refine ⟨E, D, b', q', rfl, rfl, ⟨⟨fun o h1 h2 => ?_, fun o h1 h2 => ?_, fun j h1 h2 h3 h4 => ?_, fun i hi => ?_, fun i hi => ?_⟩, by rw [hE, u2_eq], l ++ ls, e', ⟨z1, ?_, ?_, fun i z hz => ?_⟩, hle, ?_, ?_, fun i hi => ?_⟩, cR_k p8 (fun j _ => by rw [Eo 80 (by omega) (by omega) (by omega)]) (fun i => by rw [Eo 1 (by omega) (by omega) (by omega)]), by rw [Eo 80 (by omega) (by omega) (by omega)]; exact p9, ⟨?_, ?_, p10.2.2.1, p10.2.2.2.1, fun i hi => ?_⟩, p11⟩
        · rw [Eo o (by omega) (by omega) (by omega), p1 o h1 (by omega) (by omega), ko o h1]; exact hA.1 o h1 h2
        · rw [hD, u2_row h2, p3 o h1 h2, Go o h1 h2]; exact hA.2.1 o h1 h2
        · rw [hD, u2_ne (by decide), p4 j h1 h2 h3 h4, Gj j h1 h2 h3]; exact hA.2.2.1 j h1 h2 h3 h4
        · rw [D6 i (by omega) (by omega), G6 i (by omega) (by omega)]; exact hA.2.2.2.1 i hi
        · rw [Eo _ (by omega) (by omega) (by omega)]; exact p6 i hi
        · rw [hE, u2_nj (by decide), u2_ne (by omega), u2_ne (by omega)]; exact z2
        · rw [hD, u2_ne (by decide)]; exact z3
        · rw [Eo _ (by omega) (by omega) (by omega), hD, u2_nj (by omega), u2_nj (by omega)]; exact z4 i z hz
        · rw [ek 0 (by omega)]; exact hln.1
        · exact ek1
        · by_cases c : i = k
          · subst c
            rw [ek i (by omega), ek1, hln.2.1]
            refine ⟨⟨by rw [List.length_append]; omega, Nat.le_refl _⟩, ?_, ?_, ?_, ?_, ?_⟩
            · rw [hE, u2_ne (by omega), u2_ne (by omega), u2_eq, D6 _ (by omega) (by omega), G4]
            · rw [hE, u2_ne (by omega), u2_eq]
            · rw [D6 _ (by omega) (by omega), G5]
            · rw [hD, u2_eq]
            · rcases hls with rfl | hls
              · left; rw [List.append_nil]
              · right; rw [seg_b]; exact hls
          · have hi' : i < k := by omega
            obtain ⟨q1, q2, q3, q4, q5, q6⟩ := hln.2.2 i hi'
            rw [ek i (by omega), ek (i + 1) (by omega)]
            have E10 : E (u + 10) i = σ (u + 10) i := by rw [hE, u2_ne (by omega), u2_ne (by omega), u2_nj c, p1 _ (by omega) (by omega) (by omega), ko _ (by omega)]
            have E11 : E (u + 11) i = σ (u + 11) i := by rw [hE, u2_ne (by omega), u2_nj c, u2_ne (by omega), p1 _ (by omega) (by omega) (by omega), ko _ (by omega)]
            refine ⟨⟨q1.1, by rw [List.length_append]; omega⟩, ?_, ?_, ?_, ?_, ?_⟩
            · rw [E10, D6 _ (by omega) (by omega), G6 _ (by omega) (by omega)]; exact q2
            · rw [E11]; exact q3
            · rw [D6 _ (by omega) (by omega), G6 _ (by omega) (by omega)]; exact q4
            · rw [D6 _ (by omega) (by omega), G6 _ (by omega) (by omega)]; exact q5
            · rw [seg_a q1.1 q1.2]; exact q6
        · rw [hD, u2_ne (by decide)]; exact p10.1
        · rw [hD, u2_ne (by decide)]; exact p10.2.1
        · rw [hD, u2_ne (by decide)]; exact p10.2.2.2.2 i hi
      rw [e1, bnd, m1, bnd]
      simp only
      rw [i1024, st_on (by rw [ln_106']; omega) (by omega), bnd, bnd, ld_on (by rw [ln_106']; omega) (by omega), bnd, u2_eq, if_neg (on_neg (by omega)), bnd, u2_ne (show (105 : Nat) ≠ 106 by decide), G13, on_s, show 1024 + 3 * k + 1 = 1025 + 3 * k by omega, st_on (by rw [ln_106']; omega) (by omega), bnd, ← hG]
      cases p9 : isT T n (nx T n (nx T n b)) 9 with
      | false =>
        obtain ⟨ν, z1, z2, z3, z4⟩ := rm_pass0 (s := 9) hrm hB gS rfl (by decide) p9
        have g3 : GD τ2 G u 0 ρ T n (l ++ []) (nx T n (nx T n b)) (nx T n (nx T n b)) τ2 ν := by
          rw [List.append_nil]
          exact GD_k hu g2 (fun _ _ => rfl) z2 c1 o1 z3 bb2
        rw [c_took0 c1 (by decide) (fun z => by rw [p9] at z; exact absurd z.2 (by decide)), bnd, z1, bnd]
        simp only
        rw [if_pos trivial, if_pos trivial, bnd, bnd]
        exact fin τ2 ν [] _ _ g3 (Or.inl rfl) (by rw [List.append_nil]; omega)
      | true =>
        obtain ⟨τ3, w1, w2, w3, w4⟩ := c_took1 c1 (s := 9) (by decide) o1 p9
        obtain ⟨ν, z1, z2, z3⟩ := rm_pass1 (s := 9) hrm hB gS rfl (by decide) p9
        have g3 : GD τ2 G u 0 ρ T n l (nx T n (nx T n (nx T n b))) (enP T n (nx T n (nx T n b))) τ3 ν := GD_k hu g2 w3 z2 w2 w4 z3 rfl
        have x4 := nx_gt (T := T) (isT_n bn2 (by decide) p9)
        rw [w1, bnd, z1, bnd]
        simp only
        rw [if_neg (show ¬ (1 : Int32) = 0 by decide), if_neg (show ¬ (1 : Int32) = 0 by decide)]
        have hj := (rec_j (σ0 := τ2) (μ0 := G) (ρm := ρm) (T := T) (n := n) hr hrm hu hB 6 0 rfl).2 60 60 (by decide) (by decide) τ3 ν l _ _ g3 (by omega)
        have hC0 : f_X2_readCondition 60 (τ3, ρ) 79 (u + 9) 0 = f_rec_X2_readAtom 60 1 (τ3, ρ) 79 (u + 9) (Int32.ofNat 0) := rfl
        have hM0 : f_X12_readCond 60 (ν, ρm) 105 = f_rec_X12_readAtom 60 2 (ν, ρm) 105 := rfl
        rw [hC0, hM0]
        rcases hj with ⟨τ4, ν4, ls, b4, q4, f1, f2, f3, f4, f5⟩ | ⟨τ4, ν4, bb, f1, f2, f3, f4, f5⟩
        · rw [f1, bnd, f2, bnd]
          simp only
          rw [if_neg (show ¬ (1 : Int32) = 0 by decide), bnd]
          exact fin τ4 ν4 ls b4 q4 f3 (Or.inr (f4 [] (by decide))) (by rw [List.length_append]; omega)
        · rw [f1, bnd, f2, bnd]
          simp only
          rw [if_pos trivial, bnd]
          simp only
          rw [if_pos trivial]
          obtain ⟨⟨p1, p2⟩, ⟨cc, cc1, cc2⟩, p3, p4, p5⟩ := id f3
          have fr : kA σs μs u σ ν4 := ⟨hA.1, fun o h1 h2 => by rw [f4.1 o h1 h2, Go o h1 h2]; exact hA.2.1 o h1 h2, fun j h1 h2 h3 h4 => by rw [f4.2.1 j h1 h2 h3 h4, Gj j h1 h2 h3]; exact hA.2.2.1 j h1 h2 h3 h4, fun i hi => by rw [f4.2.2 i (by omega), G6 i (by omega) (by omega)]; exact hA.2.2.2.1 i hi, hA.2.2.2.2⟩
          obtain ⟨τ', v1, v2, v3⟩ := endB τ4 ν4 bb (Int32.ofNat v) (fun o h1 h2 => by rw [p1 o h1 (by omega) (by omega), ko o h1]) p3 (by rw [p2 0 (by decide), ko _ (by omega)]; exact h90) ⟨cc, cc2⟩ p5 fr
          rw [v1]
          right
          exact ⟨τ', ν4, bb, rfl, rfl, v2, p4.2.2.2.1, v3, f5⟩
    · obtain ⟨μ2, m1, km1, m9⟩ := (rm_nI (lo := 0) (H := 1000) hrm hB a3 rfl (show (0 : Int32) = _ from rfl) h999 (by decide) (by decide)).2 r1
      have bn1 := t2.2.2.2.1
      have nb : τ2 80 5 ≠ -1 := by rw [o1]; exact on_m1 (by omega)
      have km : kM μ μ2 := kM_tr a2 km1
      have ko : kO 80 σ τ2 := fun o ho => (k1 o ho).trans (t3 o ho)
      rw [e1, bnd, m1, bnd]
      simp only
      rw [i1024, st_on (by rw [ln_106']; omega) (by omega), bnd, bnd, ld_on (by rw [ln_106']; omega) (by omega), bnd, u2_eq, if_pos m1n, bnd]
      simp only
      rw [if_pos trivial, c_took0 c1 (by decide) (fun z => nb z.1), bnd]
      simp only
      rw [if_pos trivial, bnd]
      obtain ⟨f1, f2, f3, f4⟩ := kOf τ2 ko
      have fr : kA σs μs u σ (am_u2 μ2 106 (1024 + 3 * k) (-1)) := by
        have h := kA_k hu hA (fun _ _ => rfl) km
        exact ⟨hA.1, fun o h1 h2 => (u2_row h2).trans (h.2.1 o h1 h2), fun j h1 h2 h3 h4 => (u2_ne (by decide)).trans (h.2.2.1 j h1 h2 h3 h4), fun i hi => (u2_nj (by omega)).trans (h.2.2.2.1 i hi), hA.2.2.2.2⟩
      obtain ⟨τ', v1, v2, v3⟩ := endB τ2 _ (nx T n b) (-1) f1 f2 f3 f4 o1 fr
      rw [v1]
      right
      exact ⟨τ', _, nx T n b, rfl, rfl, v2, bn1, v3, by rw [u2_ne (by decide)]; exact m9⟩
end VG
