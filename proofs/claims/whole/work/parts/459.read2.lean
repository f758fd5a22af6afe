section RE
variable {σ : sg} {ρ : rg} {t u : Nat} {w wi : wg}
def bgP (T : Nat → Int32) (n p : Nat) : Nat := runN (fun k => decide (T k = 32)) n p
def kdP (T : Nat → Int32) (n b : Nat) : Int32 := if b < n then kdN (T b) else -1
def enP (T : Nat → Int32) (n b : Nat) : Nat := if b < n then (if kdN (T b) = 97 ∨ kdN (T b) = 48 then runN (fun k => decide (kdN (T k) = kdN (T b))) n (b + 1) else b + 1) else b
/-- the class's reader goes on -/
theorem c_rstep {R n p : Nat} {T : Nat → Int32} (hrd : am_rd ρ R 0 2 = some 1) (hR : R ≠ 1) (hn : n ≤ 400) (hp : p ≤ n) (h1 : σ R 1 = Int32.ofNat n) (h3 : σ R 3 = Int32.ofNat p) (hT : ∀ k, k < n → σ 1 k = T k) : ∃ τ, f_X4_step (σ, ρ) R = some τ ∧ (∀ o j, ¬ (o = R ∧ (j = 2 ∨ j = 3 ∨ j = 4)) → τ o j = σ o j) ∧ τ R 2 = Int32.ofNat (bgP T n p) ∧ τ R 3 = Int32.ofNat (enP T n (bgP T n p)) ∧ τ R 4 = kdP T n (bgP T n p) := by
  obtain ⟨b1, b2, b3, b4⟩ := run_p (q := fun k => decide (T k = 32)) hp
  obtain ⟨b, hb⟩ : ∃ b, b = bgP T n p := ⟨_, rfl⟩
  have hb' : runN (fun k => decide (T k = 32)) n p = b := hb.symm
  rw [hb'] at b1 b2 b3 b4
  rw [← hb]
  obtain ⟨d, l1, l2, l3⟩ := lp_rule (body := f_X4_step_b8 (am_u2 σ R 2 (σ R 3), ρ) R) (b - p) (fun k y => y R 2 = Int32.ofNat (p + k) ∧ ∀ o j, ¬ (o = R ∧ j = 2) → y o j = σ o j) (fun d => d R 2 = Int32.ofNat b ∧ ∀ o j, ¬ (o = R ∧ j = 2) → d o j = σ o j) (x := am_u2 σ R 2 (σ R 3)) ⟨by rw [u2_eq]; exact h3, fun o j q => by unfold am_u2; rw [if_neg q]⟩ (fun k y hk hy => by
    obtain ⟨y1, y2⟩ := hy
    have e1 : y R 1 = Int32.ofNat n := by rw [y2 R 1 (by omega)]; exact h1
    have row : ∀ k, y 1 k = σ 1 k := fun k => y2 1 k (fun q => hR q.1.symm)
    unfold f_X4_step_b8
    simp only [y1, e1]
    by_cases e : k < b - p
    · left
      have := b3 (p + k) (by omega) (by omega)
      rw [if_pos (lt_y (by omega) (by omega)), hrd, bnd, ld_on (by rw [ln_1]; omega) (by omega), row, hT _ (by omega), bnd, if_pos (of_decide_eq_true this), on_s]
      exact ⟨_, rfl, e, u2_eq, fun o j q => by unfold am_u2; rw [if_neg q]; exact y2 o j q⟩
    · right
      have hk2 : p + k = b := by omega
      rw [hk2] at y1 ⊢
      by_cases c : b < n
      · rw [if_pos (lt_y c (by omega)), hrd, bnd, ld_on (by rw [ln_1]; omega) (by omega), row, hT _ c, bnd, if_neg (of_decide_eq_false (b4 c))]
        exact ⟨_, rfl, y1, y2⟩
      · rw [if_neg (fun z => c ((on_lt (by omega) (by omega)).mp z))]
        exact ⟨_, rfl, y1, y2⟩) (by omega)
  obtain ⟨d1, hd1⟩ : ∃ x, x = am_u2 d R 3 (Int32.ofNat b) := ⟨_, rfl⟩
  have q2 : d1 R 2 = Int32.ofNat b := by rw [hd1, u2_nj (by decide)]; exact l2
  have q3 : d1 R 3 = Int32.ofNat b := by rw [hd1, u2_eq]
  have qo : ∀ o j, ¬ (o = R ∧ (j = 2 ∨ j = 3)) → d1 o j = σ o j := fun o j q => by
    rw [hd1]; unfold am_u2; rw [if_neg (fun z => q ⟨z.1, Or.inr z.2⟩)]; exact l3 o j (fun z => q ⟨z.1, Or.inl z.2⟩)
  have q1 : d1 R 1 = Int32.ofNat n := by rw [qo R 1 (by omega)]; exact h1
  unfold f_X4_step
  simp only [l1, bnd, l2, ← hd1, q2, q1]
  by_cases c : b < n
  · have hk : kdP T n b = kdN (T b) := by unfold kdP; rw [if_pos c]
    rw [if_pos (lt_y c (by omega)), hrd, bnd, ld_on (by rw [ln_1]; omega) (by omega), qo 1 b (fun z => hR z.1.symm), hT b c, bnd, f_kd, bnd, bnd]
    obtain ⟨d2, hd2⟩ : ∃ x, x = am_u2 d1 R 4 (kdN (T b)) := ⟨_, rfl⟩
    rw [← hd2]
    have p1 : d2 R 1 = Int32.ofNat n := by rw [hd2, u2_nj (by decide)]; exact q1
    have p2 : d2 R 2 = Int32.ofNat b := by rw [hd2, u2_nj (by decide)]; exact q2
    have p3 : d2 R 3 = Int32.ofNat b := by rw [hd2, u2_nj (by decide)]; exact q3
    have p4 : d2 R 4 = kdN (T b) := by rw [hd2, u2_eq]
    have po : ∀ o j, ¬ (o = R ∧ (j = 2 ∨ j = 3 ∨ j = 4)) → d2 o j = σ o j := fun o j q => by
      rw [hd2]; unfold am_u2; rw [if_neg (fun z => q ⟨z.1, Or.inr (Or.inr z.2)⟩)]; exact qo o j (fun z => q ⟨z.1, z.2.elim Or.inl (fun y => Or.inr (Or.inl y))⟩)
    rw [p1, p2, p3, if_pos (lt_y c (by omega)), on_s, bnd]
    obtain ⟨d3, hd3⟩ : ∃ x, x = am_u2 d2 R 3 (Int32.ofNat (b + 1)) := ⟨_, rfl⟩
    rw [← hd3]
    obtain ⟨r1, r2, r3, r4⟩ := run_p (q := fun k => decide (kdN (T k) = kdN (T b))) (show b + 1 ≤ n by omega)
    obtain ⟨e, he⟩ : ∃ e, e = enP T n b := ⟨_, rfl⟩
    have hb2 : b + 1 ≤ e ∧ e ≤ n := by rw [he]; unfold enP; rw [if_pos c]; split <;> omega
    obtain ⟨z, z1, z2, z3⟩ := lp_rule (body := f_X4_step_b106 (d3, ρ) R) (e - (b + 1)) (fun k y => y R 3 = Int32.ofNat (b + 1 + k) ∧ ∀ o j, ¬ (o = R ∧ j = 3) → y o j = d2 o j) (fun d => d R 3 = Int32.ofNat e ∧ ∀ o j, ¬ (o = R ∧ j = 3) → d o j = d2 o j) (x := d3) ⟨by rw [hd3, u2_eq], fun o j q => by rw [hd3]; unfold am_u2; rw [if_neg q]⟩ (fun k y hk hy => by
      obtain ⟨y1, y2⟩ := hy
      have e1 : y R 1 = Int32.ofNat n := by rw [y2 R 1 (by omega)]; exact p1
      have e4 : y R 4 = kdN (T b) := by rw [y2 R 4 (by omega)]; exact p4
      have row : ∀ k, k < n → y 1 k = T k := fun k hk => by rw [y2 1 k (fun q => hR q.1.symm), po 1 k (fun q => hR q.1.symm)]; exact hT k hk
      unfold f_X4_step_b106
      simp only [y1, e1, e4, hrd, bnd]
      by_cases kk : kdN (T b) = 97 ∨ kdN (T b) = 48
      · have hee : e = runN (fun k => decide (kdN (T k) = kdN (T b))) n (b + 1) := by rw [he]; unfold enP; rw [if_pos c, if_pos kk]
        rw [← hee] at r3 r4
        by_cases g : k < e - (b + 1)
        · left
          have := of_decide_eq_true (r3 (b + 1 + k) (by omega) (by omega))
          rw [if_pos (lt_y (by omega) (by omega)), ld_on (by rw [ln_1]; omega) (by omega), row _ (by omega)]
          simp only [bnd, f_kd, this, if_true, on_s]
          rcases kk with kk | kk
          · rw [if_pos kk]
            exact ⟨_, rfl, g, u2_eq, fun o j q => by unfold am_u2; rw [if_neg q]; exact y2 o j q⟩
          · rw [if_neg (by rw [kk]; decide), if_pos kk]
            exact ⟨_, rfl, g, u2_eq, fun o j q => by unfold am_u2; rw [if_neg q]; exact y2 o j q⟩
        · right
          have hk2 : b + 1 + k = e := by omega
          rw [hk2] at y1 ⊢
          by_cases cc : e < n
          · have := of_decide_eq_false (r4 cc)
            rw [if_pos (lt_y cc (by omega)), ld_on (by rw [ln_1]; omega) (by omega), row _ cc]
            simp only [bnd, f_kd, this, if_false]
            rcases kk with kk | kk
            · rw [if_pos kk]; exact ⟨_, rfl, y1, y2⟩
            · rw [if_neg (by rw [kk]; decide), if_pos kk]; exact ⟨_, rfl, y1, y2⟩
          · rw [if_neg (fun z => cc ((on_lt (by omega) (by omega)).mp z))]
            exact ⟨_, rfl, y1, y2⟩
      · right
        have hee : e = b + 1 := by rw [he]; unfold enP; rw [if_pos c, if_neg kk]
        have hk2 : b + 1 + k = e := by omega
        rw [hk2] at y1 ⊢
        have k1 : ¬ kdN (T b) = 97 := fun z => kk (Or.inl z)
        have k2 : ¬ kdN (T b) = 48 := fun z => kk (Or.inr z)
        by_cases cc : e < n
        · rw [if_pos (lt_y cc (by omega)), if_neg k1, if_neg k2]
          exact ⟨_, rfl, y1, y2⟩
        · rw [if_neg (fun z => cc ((on_lt (by omega) (by omega)).mp z))]
          exact ⟨_, rfl, y1, y2⟩) (by omega)
    rw [z1, bnd, hk]
    refine ⟨z, rfl, fun o j q => ?_, ?_, ?_, ?_⟩
    · rw [z3 o j (fun y => q ⟨y.1, Or.inr (Or.inl y.2)⟩)]; exact po o j q
    · rw [z3 R 2 (by omega)]; exact p2
    · rw [z2, he]
    · rw [z3 R 4 (by omega)]; exact p4
  · have hk : kdP T n b = -1 := by unfold kdP; rw [if_neg c]
    have hen : enP T n b = b := by unfold enP; rw [if_neg c]
    have nb' : ¬ Int32.ofNat b < Int32.ofNat n := fun z => c ((on_lt (by omega) (by omega)).mp z)
    obtain ⟨d2, hd2⟩ : ∃ x, x = am_u2 d1 R 4 (-1) := ⟨_, rfl⟩
    have p1 : d2 R 1 = Int32.ofNat n := by rw [hd2, u2_nj (by decide)]; exact q1
    have p2 : d2 R 2 = Int32.ofNat b := by rw [hd2, u2_nj (by decide)]; exact q2
    have p3 : d2 R 3 = Int32.ofNat b := by rw [hd2, u2_nj (by decide)]; exact q3
    have p4 : d2 R 4 = -1 := by rw [hd2, u2_eq]
    rw [if_neg nb', bnd, ← hd2, p1, p2, if_neg nb', bnd]
    have hl : am_loop (f_X4_step_b106 (d2, ρ) R) am_fuel d2 = some d2 := by
      refine lp_for 0 (fun _ => d2) rfl (fun j hj => by omega) ?_ (by decide)
      unfold f_X4_step_b106
      simp only [p3, p1]
      rw [if_neg nb']
    rw [hl, bnd, hk, hen]
    refine ⟨d2, rfl, fun o j q => ?_, p2, p3, p4⟩
    rw [hd2]; unfold am_u2; rw [if_neg (fun z => q ⟨z.1, Or.inr (Or.inr z.2)⟩)]; exact qo o j (fun z => q ⟨z.1, z.2.elim Or.inl (fun y => Or.inr (Or.inl y))⟩)
end RE
