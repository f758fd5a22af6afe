/-! image, back: towns are copied -/
theorem tw_cp {σ τ : sg} {t q : Nat} {w : wg} (h : tw σ q w) (hw : wv w) (h0 : ∀ j, j < 6 → τ t j = σ q j) (h1 : ∀ i j, 1 ≤ i → i ≤ 5 → j < 8 → τ (t + i) j = σ (q + i) j) (h6 : ∀ j, j < 10 → τ (t + 6) j = σ (q + 6) j) (h7 : ∀ j, j < 80 → τ (t + 7) j = σ (q + 7) j) (h8 : ∀ j, j < 64 → τ (t + 8) j = σ (q + 8) j) (h9 : τ (t + 9) 0 = σ (q + 9) 0) (h10 : ∀ j, j < 12 → τ (t + 10) j = σ (q + 10) j) (h11 : ∀ j, j < 12 → τ (t + 11) j = σ (q + 11) j) (h12 : ∀ j, j < 400 → τ (t + 12) j = σ (q + 12) j) (h15 : τ (t + 15) 0 = σ (q + 15) 0) (h16 : ∀ i j, 16 ≤ i → i ≤ 19 → j < 12 → τ (t + i) j = σ (q + i) j) : tw τ t w := by
  obtain ⟨⟨f0, f1, f2, f3, f4, f5⟩, th, tv, tww, tc, tr, tl⟩ := h
  have hH := (wv_H hw).2
  have hW := (wv_W hw).2
  have hR := (wv_R hw).2
  refine ⟨⟨?_, ?_, ?_, ?_, ?_, ?_⟩, ?_, ?_, ?_, ?_, ?_, ?_⟩
  · rw [h0 0 (by decide)]; exact f0
  · rw [h0 1 (by decide)]; exact f1
  · rw [h0 2 (by decide)]; exact f2
  · rw [h0 3 (by decide)]; exact f3
  · rw [h0 4 (by decide)]; exact f4
  · rw [h0 5 (by decide)]; exact f5
  · intro a ha
    rw [h1 1 a (by omega) (by omega) (by omega), h1 2 a (by omega) (by omega) (by omega), h1 3 a (by omega) (by omega) (by omega), h1 4 a (by omega) (by omega) (by omega), h1 5 a (by omega) (by omega) (by omega)]
    exact th a ha
  · intro v hv
    rw [h6 v (by omega)]; exact tv v hv
  · intro a ha v hv
    rw [h7 _ (by omega)]; exact tww a ha v hv
  · intro i hi j hj
    rw [h8 _ (by omega)]; exact tc i hi j hj
  · refine ⟨by rw [h15]; exact tr.1, fun r hr => ?_⟩
    rw [h16 16 r (by omega) (by omega) (by omega), h16 17 r (by omega) (by omega) (by omega), h16 18 r (by omega) (by omega) (by omega), h16 19 r (by omega) (by omega) (by omega)]
    exact tr.2 r hr
  · unfold lwR at *
    rw [h9]
    refine tl.imp id (fun ⟨a, L, e, s, n, o, b, c, d⟩ => ⟨a, L, e, s, n, o, b, fun k hk => ?_, fun i hi => ?_⟩)
    · rw [h10 k (by have := o.1; omega), h11 k (by have := o.1; omega)]; exact c k hk
    · rw [h12 i (by have := o.2.2.2.1; omega)]; exact d i hi
section CT
variable {σ : sg} {ρ : rg} {a b T Q : Nat}
theorem c_cpL (hr : rh ρ a b) (hT : tn T) (hQ : tn Q) (hne : T ≠ Q) (hS : ∀ i, i < 400 → (σ (Q + 12) i).toInt16.toInt32 = σ (Q + 12) i) : ∃ τ, f_X1_copyFrom (σ, ρ) (T + 9) (Q + 9) = some τ ∧ τ (T + 9) 0 = σ (Q + 9) 0 ∧ τ (T + 9) 1 = σ (Q + 9) 1 ∧ (∀ j, j < 12 → τ (T + 10) j = σ (Q + 10) j) ∧ (∀ j, j < 12 → τ (T + 11) j = σ (Q + 11) j) ∧ (∀ j, j < 400 → τ (T + 12) j = σ (Q + 12) j) ∧ (∀ o, o < T + 9 ∨ T + 12 < o → τ o = σ o) := by
  have l1 := ln_t hT
  have l2 := ln_t hQ
  have d : Q + 21 < T ∨ T + 21 < Q := by rcases hT with rfl | rfl | rfl <;> rcases hQ with rfl | rfl | rfl <;> omega
  unfold f_X1_copyFrom
  simp only [rd_l hr hT (show (2, 1, 10) ∈ _ by decide), rd_l hr hT (show (3, 1, 11) ∈ _ by decide), rd_l hr hT (show (4, 3, 12) ∈ _ by decide), rd_l hr hQ (show (2, 1, 10) ∈ _ by decide), rd_l hr hQ (show (3, 1, 11) ∈ _ by decide), rd_l hr hQ (show (4, 3, 12) ∈ _ by decide), Option.bind_some]
  rw [cp0 (N := 12) (n := 12) (by omega) (by omega) (by decide) rfl]
  simp only [Option.bind_some]
  rw [cp0 (N := 12) (n := 12) (by omega) (by omega) (by decide) rfl]
  simp only [Option.bind_some]
  unfold am_cpS
  rw [if_pos, cp0 (N := 400) (n := 400) (by omega) (by omega) (by decide) rfl]
  · refine ⟨_, rfl, ?_, ?_, fun j hj => ?_, fun j hj => ?_, fun j hj => ?_, fun o ho => ?_⟩
    · rw [cpF_ne (by omega), cpF_ne (by omega), cpF_ne (by omega), u2_nj (by decide), u2_eq]
    · rw [cpF_ne (by omega), cpF_ne (by omega), cpF_ne (by omega), u2_eq, u2_ne (by omega)]
    · rw [cpF_ne (by omega), cpF_ne (by omega), cpF_lt hj, u2_ne (by omega), u2_ne (by omega)]
    · rw [cpF_ne (by omega), cpF_lt hj, cpF_ne (by omega), u2_ne (by omega), u2_ne (by omega)]
    · rw [cpF_lt hj, cpF_ne (by omega), cpF_ne (by omega), u2_ne (by omega), u2_ne (by omega)]
    · rw [cpF_ne (by omega), cpF_ne (by omega), cpF_ne (by omega), u2_row (by omega), u2_row (by omega)]
  · intro i hi
    have h0 : (0 : Int32).toNatClampNeg = 0 := rfl
    have h4 : (400 : Int32).toNatClampNeg = 400 := rfl
    rw [h4] at hi
    rw [h0, Nat.zero_add, cpF_ne (by omega), cpF_ne (by omega), u2_ne (by omega), u2_ne (by omega)]
    exact hS i hi
theorem c_cpT (hr : rh ρ a b) (hT : tn T) (hQ : tn Q) (hne : T ≠ Q) (hS : ∀ i, i < 400 → (σ (Q + 12) i).toInt16.toInt32 = σ (Q + 12) i) : ∃ τ, f_X9_copyFrom (σ, ρ) T Q = some τ ∧ (∀ j, j < 6 → τ T j = σ Q j) ∧ (∀ i j, 1 ≤ i → i ≤ 5 → j < 8 → τ (T + i) j = σ (Q + i) j) ∧ (∀ j, j < 10 → τ (T + 6) j = σ (Q + 6) j) ∧ (∀ j, j < 80 → τ (T + 7) j = σ (Q + 7) j) ∧ (∀ j, j < 64 → τ (T + 8) j = σ (Q + 8) j) ∧ τ (T + 9) 0 = σ (Q + 9) 0 ∧ (∀ j, j < 12 → τ (T + 10) j = σ (Q + 10) j) ∧ (∀ j, j < 12 → τ (T + 11) j = σ (Q + 11) j) ∧ (∀ j, j < 400 → τ (T + 12) j = σ (Q + 12) j) ∧ τ (T + 15) 0 = σ (Q + 15) 0 ∧ (∀ i j, 16 ≤ i → i ≤ 19 → j < 12 → τ (T + i) j = σ (Q + i) j) ∧ (∀ o, o < T ∨ T + 19 < o → τ o = σ o) := by
  have l1 := ln_t hT
  have l2 := ln_t hQ
  have d : Q + 21 < T ∨ T + 21 < Q := by rcases hT with rfl | rfl | rfl <;> rcases hQ with rfl | rfl | rfl <;> omega
  have roT : ro (T + 15) := by rcases hT with rfl | rfl | rfl <;> (unfold ro; omega)
  have roQ : ro (Q + 15) := by rcases hQ with rfl | rfl | rfl <;> (unfold ro; omega)
  unfold f_X9_copyFrom
  simp only [rd_t hr hT (show (6, 1, 1) ∈ _ by decide), rd_t hr hT (show (7, 1, 2) ∈ _ by decide), rd_t hr hT (show (8, 1, 3) ∈ _ by decide), rd_t hr hT (show (9, 1, 4) ∈ _ by decide), rd_t hr hT (show (10, 1, 5) ∈ _ by decide), rd_t hr hT (show (11, 1, 6) ∈ _ by decide), rd_t hr hT (show (12, 1, 7) ∈ _ by decide), rd_t hr hT (show (13, 1, 8) ∈ _ by decide), rd_t hr hT (show (14, 101, 9) ∈ _ by decide), rd_t hr hT (show (15, 106, 15) ∈ _ by decide), rd_t hr hQ (show (6, 1, 1) ∈ _ by decide), rd_t hr hQ (show (7, 1, 2) ∈ _ by decide), rd_t hr hQ (show (8, 1, 3) ∈ _ by decide), rd_t hr hQ (show (9, 1, 4) ∈ _ by decide), rd_t hr hQ (show (10, 1, 5) ∈ _ by decide), rd_t hr hQ (show (11, 1, 6) ∈ _ by decide), rd_t hr hQ (show (12, 1, 7) ∈ _ by decide), rd_t hr hQ (show (13, 1, 8) ∈ _ by decide), rd_t hr hQ (show (14, 101, 9) ∈ _ by decide), rd_t hr hQ (show (15, 106, 15) ∈ _ by decide), Option.bind_some]
  simp only [u2_ne (show Q ≠ T by omega)]
  generalize hE : am_u2 (am_u2 (am_u2 (am_u2 (am_u2 (am_u2 σ T 0 (σ Q 0)) T 1 (σ Q 1)) T 2 (σ Q 2)) T 3 (σ Q 3)) T 4 (σ Q 4)) T 5 (σ Q 5) = s0
  have e0 : ∀ j, j < 6 → s0 T j = σ Q j := fun j hj => by
    have : j = 0 ∨ j = 1 ∨ j = 2 ∨ j = 3 ∨ j = 4 ∨ j = 5 := by omega
    rw [← hE]
    rcases this with rfl | rfl | rfl | rfl | rfl | rfl
    · rw [u2_nj (by decide), u2_nj (by decide), u2_nj (by decide), u2_nj (by decide), u2_nj (by decide), u2_eq]
    · rw [u2_nj (by decide), u2_nj (by decide), u2_nj (by decide), u2_nj (by decide), u2_eq]
    · rw [u2_nj (by decide), u2_nj (by decide), u2_nj (by decide), u2_eq]
    · rw [u2_nj (by decide), u2_nj (by decide), u2_eq]
    · rw [u2_nj (by decide), u2_eq]
    · rw [u2_eq]
  have eo : ∀ o, o ≠ T → s0 o = σ o := fun o ho => by rw [← hE, u2_row ho, u2_row ho, u2_row ho, u2_row ho, u2_row ho, u2_row ho]
  rw [cp0 (N := 8) (n := 8) (by omega) (by omega) (by decide) rfl]
  simp only [Option.bind_some]
  rw [cp0 (N := 8) (n := 8) (by omega) (by omega) (by decide) rfl]
  simp only [Option.bind_some]
  rw [cp0 (N := 8) (n := 8) (by omega) (by omega) (by decide) rfl]
  simp only [Option.bind_some]
  rw [cp0 (N := 8) (n := 8) (by omega) (by omega) (by decide) rfl]
  simp only [Option.bind_some]
  rw [cp0 (N := 8) (n := 8) (by omega) (by omega) (by decide) rfl]
  simp only [Option.bind_some]
  rw [cp0 (N := 10) (n := 10) (by omega) (by omega) (by decide) rfl]
  simp only [Option.bind_some]
  rw [cp0 (N := 80) (n := 80) (by omega) (by omega) (by decide) rfl]
  simp only [Option.bind_some]
  rw [cp0 (N := 64) (n := 64) (by omega) (by omega) (by decide) rfl]
  simp only [Option.bind_some]
  generalize hF : cpF (cpF (cpF (cpF (cpF (cpF (cpF (cpF s0 (Q + 1) (T + 1) 8) (Q + 2) (T + 2) 8) (Q + 3) (T + 3) 8) (Q + 4) (T + 4) 8) (Q + 5) (T + 5) 8) (Q + 6) (T + 6) 10) (Q + 7) (T + 7) 80) (Q + 8) (T + 8) 64 = s1
  have f0 : ∀ o, o ≤ T ∨ T + 8 < o → s1 o = s0 o := fun o ho => by
    rw [← hF, cpF_ne (by omega), cpF_ne (by omega), cpF_ne (by omega), cpF_ne (by omega), cpF_ne (by omega), cpF_ne (by omega), cpF_ne (by omega), cpF_ne (by omega)]
  have f1 : ∀ i j, 1 ≤ i → i ≤ 5 → j < 8 → s1 (T + i) j = σ (Q + i) j := fun i j h1 h2 h3 => by
    have : i = 1 ∨ i = 2 ∨ i = 3 ∨ i = 4 ∨ i = 5 := by omega
    rw [← hF]
    rcases this with rfl | rfl | rfl | rfl | rfl
    · rw [cpF_ne (by omega), cpF_ne (by omega), cpF_ne (by omega), cpF_ne (by omega), cpF_ne (by omega), cpF_ne (by omega), cpF_ne (by omega), cpF_lt h3, eo _ (by omega)]
    · rw [cpF_ne (by omega), cpF_ne (by omega), cpF_ne (by omega), cpF_ne (by omega), cpF_ne (by omega), cpF_ne (by omega), cpF_lt h3, cpF_ne (by omega), eo _ (by omega)]
    · rw [cpF_ne (by omega), cpF_ne (by omega), cpF_ne (by omega), cpF_ne (by omega), cpF_ne (by omega), cpF_lt h3, cpF_ne (by omega), cpF_ne (by omega), eo _ (by omega)]
    · rw [cpF_ne (by omega), cpF_ne (by omega), cpF_ne (by omega), cpF_ne (by omega), cpF_lt h3, cpF_ne (by omega), cpF_ne (by omega), cpF_ne (by omega), eo _ (by omega)]
    · rw [cpF_ne (by omega), cpF_ne (by omega), cpF_ne (by omega), cpF_lt h3, cpF_ne (by omega), cpF_ne (by omega), cpF_ne (by omega), cpF_ne (by omega), eo _ (by omega)]
  have f6 : ∀ j, j < 10 → s1 (T + 6) j = σ (Q + 6) j := fun j hj => by
    rw [← hF, cpF_ne (by omega), cpF_ne (by omega), cpF_lt hj, cpF_ne (by omega), cpF_ne (by omega), cpF_ne (by omega), cpF_ne (by omega), cpF_ne (by omega), eo _ (by omega)]
  have f7 : ∀ j, j < 80 → s1 (T + 7) j = σ (Q + 7) j := fun j hj => by
    rw [← hF, cpF_ne (by omega), cpF_lt hj, cpF_ne (by omega), cpF_ne (by omega), cpF_ne (by omega), cpF_ne (by omega), cpF_ne (by omega), cpF_ne (by omega), eo _ (by omega)]
  have f8 : ∀ j, j < 64 → s1 (T + 8) j = σ (Q + 8) j := fun j hj => by
    rw [← hF, cpF_lt hj, cpF_ne (by omega), cpF_ne (by omega), cpF_ne (by omega), cpF_ne (by omega), cpF_ne (by omega), cpF_ne (by omega), cpF_ne (by omega), eo _ (by omega)]
  have fq : ∀ k, 9 ≤ k → k ≤ 19 → s1 (Q + k) = σ (Q + k) := fun k h1 h2 => by rw [f0 _ (by omega), eo _ (by omega)]
  obtain ⟨s2, g1, g2, -, g3, g4, g5, g6⟩ := c_cpL (σ := s1) hr hT hQ hne (fun i hi => by rw [fq 12 (by omega) (by omega)]; exact hS i hi)
  rw [g1]
  simp only [Option.bind_some]
  obtain ⟨s3, k1, k2, k3, k4, -⟩ := c_cpR (σ := s2) hr roT roQ (by omega)
  rw [k1]
  refine ⟨s3, rfl, fun j hj => ?_, fun i j h1 h2 h3 => ?_, fun j hj => ?_, fun j hj => ?_, fun j hj => ?_, ?_, fun j hj => ?_, fun j hj => ?_, fun j hj => ?_, ?_, fun i j h1 h2 h3 => ?_, fun o ho => ?_⟩
  · rw [k4 _ (by omega), g6 _ (by omega), f0 _ (by omega), e0 j hj]
  · rw [k4 _ (by omega), g6 _ (by omega), f1 i j h1 h2 h3]
  · rw [k4 _ (by omega), g6 _ (by omega), f6 j hj]
  · rw [k4 _ (by omega), g6 _ (by omega), f7 j hj]
  · rw [k4 _ (by omega), g6 _ (by omega), f8 j hj]
  · rw [k4 _ (by omega), g2, fq 9 (by omega) (by omega)]
  · rw [k4 _ (by omega), g3 j hj, fq 10 (by omega) (by omega)]
  · rw [k4 _ (by omega), g4 j hj, fq 11 (by omega) (by omega)]
  · rw [k4 _ (by omega), g5 j hj, fq 12 (by omega) (by omega)]
  · rw [k2, g6 _ (by omega), fq 15 (by omega) (by omega)]
  · have := k3 (i - 15) j (by omega) (by omega) h3
    rw [show T + 15 + (i - 15) = T + i by omega, show Q + 15 + (i - 15) = Q + i by omega] at this
    rw [this, g6 _ (by omega), fq i (by omega) (by omega)]
  · rw [k4 _ (by omega), g6 _ (by omega), f0 _ (by omega), eo _ (by omega)]
end CT
section IB
variable {σ : sg} {ρ : rg} {t u : Nat} {w wi : wg}
theorem rd_img {a b : Nat} (h : rh ρ a b) : am_rd ρ 105 2 1 = some 107 := rh_rd h (by decide) (by decide) (by decide +kernel)
theorem rd_keptT {a b : Nat} (h : rh ρ a b) : am_rd ρ 0 5 109 = some 46 := rh_rd h (by decide) (by decide) (by decide +kernel)
theorem ln_107 : am_ln 107 = 1023 := by decide
theorem q_image (I : Iv σ ρ t u w wi) : ∃ σ1 σ2, f_X11_image (σ, ρ) 0 = some σ1 ∧ f_X12_image (σ1, ρ) 105 = some σ2 ∧ Inv (σ2, ρ) := by
  have htn := (rh_tn I.1).1
  have t1 : t = 2 ∨ t = 24 := by rcases I.1.2.1 with ⟨h, -⟩ | ⟨h, -⟩ <;> omega
  obtain ⟨s, c1, c2, c3, c4, c5, c6, c7, c8, c9, c10, c11, c12, c13⟩ := c_cpT (σ := σ) I.1 (T := 46) (Q := t) (Or.inr (Or.inr rfl)) htn (by omega) (I.2.2.2.2.2.2.2 t htn)
  obtain ⟨σ1, hσ1⟩ : ∃ σ1, σ1 = am_u2 s 0 6 1 := ⟨_, rfl⟩
  have n1 : ∀ o, o ≠ 0 → o < 46 ∨ 65 < o → σ1 o = σ o := fun o h1 h2 => by rw [hσ1, u2_row h1, c13 o (by omega)]
  have n0 : ∀ j, j ≠ 6 → σ1 0 j = σ 0 j := fun j hj => by rw [hσ1, u2_nj hj, c13 0 (by omega)]
  have n46 : ∀ o, o ≠ 0 → σ1 o = s o := fun o h => by rw [hσ1, u2_row h]
  obtain ⟨d, h1, h2, h3⟩ := lp_rule (body := f_X12_image_b7 (am_u2 σ1 105 0 0, ρ) 105) 1023
    (fun k y => y.1 = Int32.ofNat k ∧ (∀ o, o ≠ 107 → y.2 o = am_u2 σ1 105 0 0 o) ∧ (∀ j, j < k → y.2 107 j = σ1 106 j))
    (fun d => (∀ o, o ≠ 107 → d o = am_u2 σ1 105 0 0 o) ∧ (∀ j, j < 1023 → d 107 j = σ1 106 j))
    (x := (0, am_u2 σ1 105 0 0)) ⟨rfl, fun _ _ => rfl, fun j hj => absurd hj (by omega)⟩ (fun k y hk hy => by
      obtain ⟨i, τ⟩ := y
      obtain ⟨rfl, y1, y2⟩ := hy
      simp only at y1 y2
      unfold f_X12_image_b7
      simp only [rd_img I.1, M_w (Iv_w I), Option.bind_some]
      by_cases e : k < 1023
      · left
        rw [if_pos (show Int32.ofNat k < 1023 from (on_lt (b := 1023) (by omega) (by decide)).mpr e), ld_on (by rw [ln_106]; omega) (by omega), y1 106 (by decide), u2_ne (by decide)]
        simp only [Option.bind_some]
        rw [st_on (by rw [ln_107]; omega) (by omega)]
        simp only [Option.bind_some, on_s]
        refine ⟨_, rfl, e, rfl, fun o ho => ?_, fun j hj => ?_⟩
        · show am_u2 τ 107 k _ o = _
          rw [u2_row ho, y1 o ho]
        · show am_u2 τ 107 k _ 107 j = _
          by_cases q : j = k
          · subst q; rw [u2_eq]
          · rw [u2_nj q, y2 j (by omega)]
      · right
        have : k = 1023 := by omega
        subst this
        rw [if_neg (by decide)]
        exact ⟨_, rfl, y1, y2⟩) (by decide)
  refine ⟨σ1, am_u2 d 105 4 1, ?_, ?_, t, u, w, w, ?_⟩
  · unfold f_X11_image
    simp only [rd_keptT I.1, c_now I, Option.bind_some, c1, hσ1]
  · unfold f_X12_image
    rw [h1]
    rfl
  · show Iv (am_u2 d 105 4 1) ρ t u w w
    have q : ∀ o, o ≠ 105 → o ≠ 107 → am_u2 d 105 4 1 o = σ1 o := fun o a b => by rw [u2_row a, h2 o b, u2_row a]
    have q5 : ∀ j, j ≠ 4 → j ≠ 0 → am_u2 d 105 4 1 105 j = σ 105 j := fun j a b => by
      rw [u2_nj a, h2 105 (by decide), u2_nj b, n1 105 (by decide) (by omega)]
    obtain ⟨a1, a2, a3, a4, ⟨n, m1, m2, m3, m4⟩, a6, a7, a8⟩ := I
    refine ⟨a1, fun k hk => by rw [q 106 (by decide) (by decide), n1 106 (by decide) (by omega)]; exact a2 k hk, a3, ?_, ⟨n, m1, ?_, ?_, fun k hk => ?_⟩, ?_, ⟨?_, Or.inr ⟨?_, fun k hk => ?_, a3, ?_⟩⟩, ?_⟩
    · have g : ∀ k, k ≤ 19 → am_u2 d 105 4 1 (t + k) = σ (t + k) := fun k hk => by rw [q _ (by omega) (by omega), n1 _ (by omega) (by omega)]
      exact tw_cg a4 (g 0 (by omega)) (g 1 (by omega)) (g 2 (by omega)) (g 3 (by omega)) (g 4 (by omega)) (g 5 (by omega)) (g 6 (by omega)) (g 7 (by omega)) (g 8 (by omega)) (by rw [g 9 (by omega)]) (g 10 (by omega)) (g 11 (by omega)) (g 12 (by omega)) (by rw [g 15 (by omega)]) (g 16 (by omega)) (g 17 (by omega)) (g 18 (by omega)) (g 19 (by omega))
    · rw [q 0 (by decide) (by decide), n0 1 (by decide)]; exact m2
    · rw [q5 6 (by decide) (by decide)]; exact m3
    · rw [q 109 (by decide) (by decide), q 1 (by decide) (by decide), n1 109 (by decide) (by omega), n1 1 (by decide) (by omega)]; exact m4 k hk
    · rw [q 0 (by decide) (by decide), n0 2 (by decide), q5 11 (by decide) (by decide)]; exact a6
    · rw [q 0 (by decide) (by decide), hσ1, u2_eq, u2_eq]
    · rw [q 0 (by decide) (by decide), hσ1, u2_eq]
    · rw [u2_ne (by decide), h3 k hk, n1 106 (by decide) (by omega)]; exact a2 k hk
    · have g : ∀ k, k ≤ 19 → am_u2 d 105 4 1 (46 + k) = s (46 + k) := fun k hk => by rw [q _ (by omega) (by omega), n46 _ (by omega)]
      refine tw_cp a4 a3 (fun j hj => by rw [show am_u2 d 105 4 1 46 = s 46 from g 0 (by omega)]; exact c2 j hj) (fun i j x1 x2 x3 => by rw [g i (by omega)]; exact c3 i j x1 x2 x3) (fun j hj => by rw [g 6 (by omega)]; exact c4 j hj) (fun j hj => by rw [g 7 (by omega)]; exact c5 j hj) (fun j hj => by rw [g 8 (by omega)]; exact c6 j hj) (by rw [g 9 (by omega)]; exact c7) (fun j hj => by rw [g 10 (by omega)]; exact c8 j hj) (fun j hj => by rw [g 11 (by omega)]; exact c9 j hj) (fun j hj => by rw [g 12 (by omega)]; exact c10 j hj) (by rw [g 15 (by omega)]; exact c11) (fun i j x1 x2 x3 => by rw [g i (by omega)]; exact c12 i j x1 x2 x3)
    · intro b hb i hi
      by_cases z : b = 46
      · subst z
        rw [q _ (by decide) (by decide), n46 _ (by decide), c10 i hi]
        exact a8 t htn i hi
      · have : am_u2 d 105 4 1 (b + 12) = σ (b + 12) := by
          rcases hb with rfl | rfl | rfl
          · rw [q _ (by decide) (by decide), n1 _ (by decide) (by omega)]
          · rw [q _ (by decide) (by decide), n1 _ (by decide) (by omega)]
          · exact absurd rfl z
        rw [this]
        exact a8 b hb i hi
theorem q_back (I : Iv σ ρ t u w wi) : Rp (f_X11_back (σ, ρ) 0) ρ (fun S => f_X12_back S 105) := by
  have htn := (rh_tn I.1).1
  have t1 : t = 2 ∨ t = 24 := by rcases I.1.2.1 with ⟨h, -⟩ | ⟨h, -⟩ <;> omega
  rcases I.2.2.2.2.2.2.1 with ⟨i1, i2 | ⟨i2, i3, i4, i5⟩⟩
  · refine ⟨0, σ, am_u2 σ 105 0 0, ?_, ?_, t, u, w, wi, Iv_ag I ag2_z.1⟩
    · unfold f_X11_back; rw [if_pos i2]
    · show f_X12_back _ 105 = _
      have hc : am_u2 σ 105 0 0 105 4 = 0 := by rw [u2_nj (by decide), ← i1]; exact i2
      unfold f_X12_back
      simp only
      rw [if_pos hc]
  · obtain ⟨s, c1, c2, c3, c4, c5, c6, c7, c8, c9, c10, c11, c12, c13⟩ := c_cpT (σ := σ) I.1 (T := t) (Q := 46) htn (Or.inr (Or.inr rfl)) (by omega) (I.2.2.2.2.2.2.2 46 (Or.inr (Or.inr rfl)))
    have n1 : ∀ o, o < t ∨ t + 19 < o → s o = σ o := c13
    obtain ⟨d, h1, h2, h3⟩ := lp_rule (body := f_X12_back_b16 (am_u2 s 105 0 0, ρ) 105) 1023
      (fun k y => y.1 = Int32.ofNat k ∧ (∀ o, o ≠ 106 → y.2 o = am_u2 s 105 0 0 o) ∧ (∀ j, j < k → y.2 106 j = σ 107 j))
      (fun d => (∀ o, o ≠ 106 → d o = am_u2 s 105 0 0 o) ∧ (∀ j, j < 1023 → d 106 j = σ 107 j))
      (x := (0, am_u2 s 105 0 0)) ⟨rfl, fun _ _ => rfl, fun j hj => absurd hj (by omega)⟩ (fun k y hk hy => by
        obtain ⟨i, τ⟩ := y
        obtain ⟨rfl, y1, y2⟩ := hy
        simp only at y1 y2
        unfold f_X12_back_b16
        simp only [rd_img I.1, M_w (Iv_w I), Option.bind_some]
        by_cases e : k < 1023
        · left
          rw [if_pos (show Int32.ofNat k < 1023 from (on_lt (b := 1023) (by omega) (by decide)).mpr e), ld_on (by rw [ln_107]; omega) (by omega), y1 107 (by decide), u2_ne (by decide), n1 107 (by omega)]
          simp only [Option.bind_some]
          rw [st_on (by rw [ln_106]; omega) (by omega)]
          simp only [Option.bind_some, on_s]
          refine ⟨_, rfl, e, rfl, fun o ho => ?_, fun j hj => ?_⟩
          · show am_u2 τ 106 k _ o = _
            rw [u2_row ho, y1 o ho]
          · show am_u2 τ 106 k _ 106 j = _
            by_cases q : j = k
            · subst q; rw [u2_eq]
            · rw [u2_nj q, y2 j (by omega)]
        · right
          have : k = 1023 := by omega
          subst this
          rw [if_neg (by decide)]
          exact ⟨_, rfl, y1, y2⟩) (by decide)
    refine ⟨1, s, d, ?_, ?_, t, u, wi, wi, ?_⟩
    · unfold f_X11_back
      simp only [i2]
      rw [if_neg (by decide)]
      simp only [rd_keptT I.1, c_now I, Option.bind_some, c1]
    · show f_X12_back _ 105 = _
      have hc : ¬ am_u2 s 105 0 0 105 4 = 0 := by rw [u2_nj (by decide), n1 105 (by omega), ← i1, i2]; decide
      unfold f_X12_back
      simp only
      rw [if_neg hc, h1, bnd]
    · show Iv d ρ t u wi wi
      have q : ∀ o, o ≠ 105 → o ≠ 106 → d o = s o := fun o a b => by rw [h2 o b, u2_row a]
      have q5 : ∀ j, j ≠ 0 → d 105 j = σ 105 j := fun j b => by rw [h2 105 (by decide), u2_nj b, n1 105 (by omega)]
      obtain ⟨a1, a2, a3, a4, ⟨n, m1, m2, m3, m4⟩, a6, a7, a8⟩ := I
      refine ⟨a1, fun k hk => by rw [h3 k hk]; exact i3 k hk, i4, ?_, ⟨n, m1, ?_, ?_, fun k hk => ?_⟩, ?_, ⟨?_, Or.inr ⟨?_, fun k hk => ?_, i4, ?_⟩⟩, ?_⟩
      · have g : ∀ k, k ≤ 19 → d (t + k) = s (t + k) := fun k hk => q _ (by omega) (by omega)
        exact tw_cp i5 i4 (fun j hj => by rw [show d t = s t from g 0 (by omega)]; exact c2 j hj) (fun i j x1 x2 x3 => by rw [g i (by omega)]; exact c3 i j x1 x2 x3) (fun j hj => by rw [g 6 (by omega)]; exact c4 j hj) (fun j hj => by rw [g 7 (by omega)]; exact c5 j hj) (fun j hj => by rw [g 8 (by omega)]; exact c6 j hj) (by rw [g 9 (by omega)]; exact c7) (fun j hj => by rw [g 10 (by omega)]; exact c8 j hj) (fun j hj => by rw [g 11 (by omega)]; exact c9 j hj) (fun j hj => by rw [g 12 (by omega)]; exact c10 j hj) (by rw [g 15 (by omega)]; exact c11) (fun i j x1 x2 x3 => by rw [g i (by omega)]; exact c12 i j x1 x2 x3)
      · rw [q 0 (by decide) (by decide), n1 0 (by omega)]; exact m2
      · rw [q5 6 (by decide)]; exact m3
      · rw [q 109 (by decide) (by decide), q 1 (by decide) (by decide), n1 109 (by omega), n1 1 (by omega)]; exact m4 k hk
      · rw [q 0 (by decide) (by decide), n1 0 (by omega), q5 11 (by decide)]; exact a6
      · rw [q 0 (by decide) (by decide), n1 0 (by omega), q5 4 (by decide)]; exact i1
      · rw [q 0 (by decide) (by decide), n1 0 (by omega)]; exact i2
      · rw [q 107 (by decide) (by decide), n1 107 (by omega)]; exact i3 k hk
      · have g : ∀ k, k ≤ 19 → d (46 + k) = σ (46 + k) := fun k hk => by rw [q _ (by omega) (by omega), n1 _ (by omega)]
        exact tw_cg i5 (g 0 (by omega)) (g 1 (by omega)) (g 2 (by omega)) (g 3 (by omega)) (g 4 (by omega)) (g 5 (by omega)) (g 6 (by omega)) (g 7 (by omega)) (g 8 (by omega)) (by rw [g 9 (by omega)]) (g 10 (by omega)) (g 11 (by omega)) (g 12 (by omega)) (by rw [g 15 (by omega)]) (g 16 (by omega)) (g 17 (by omega)) (g 18 (by omega)) (g 19 (by omega))
      · intro b hb i hi
        by_cases z : b = t
        · subst z
          rw [q _ (by omega) (by omega), c10 i hi]
          exact a8 46 (Or.inr (Or.inr rfl)) i hi
        · have : d (b + 12) = σ (b + 12) := by
            rcases hb with rfl | rfl | rfl <;> rw [q _ (by decide) (by decide), n1 _ (by omega)]
          rw [this]
          exact a8 b hb i hi
end IB
