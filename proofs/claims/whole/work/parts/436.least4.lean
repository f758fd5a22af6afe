section LV
variable {σ : sg} {ρ : rg} {t u : Nat} {w wi : wg}
theorem andy {a b : Nat} : Int32.ofNat a &&& (Int32.ofNat b ^^^ -1) = Int32.ofNat (a ^^^ (b &&& a)) := by
  apply Int32.toBitVec.inj
  rw [Int32.toBitVec_and, Int32.toBitVec_xor, Int32.toBitVec_ofNat', Int32.toBitVec_ofNat', Int32.toBitVec_ofNat']
  have hm : (-1 : Int32).toBitVec = BitVec.allOnes 32 := by decide
  rw [hm, BitVec.xor_allOnes]
  apply BitVec.eq_of_getLsbD_eq
  intro k hk
  simp only [BitVec.getLsbD_and, BitVec.getLsbD_not, BitVec.getLsbD_ofNat, hk, decide_true, Bool.true_and, Nat.testBit_xor, Nat.testBit_and]
  cases ha : a.testBit k <;> cases hb : b.testBit k <;> rfl
theorem rd_wts {a b : Nat} (h : rh ρ a b) : am_rd ρ 94 0 1 = some 95 := rh_rd h (by decide) (by decide) (by decide +kernel)
theorem rd_sums {a b : Nat} (h : rh ρ a b) : am_rd ρ 94 1 1 = some 96 := rh_rd h (by decide) (by decide) (by decide +kernel)
theorem ln_95 : am_ln 95 = 64 := by decide
theorem ln_96 : am_ln 96 = 64 := by decide
theorem c_part {a b : Nat} (hr : rh ρ a b) {x : Nat} (x0 : 0 < x) (hx : x < 64) {A B : Nat → Nat} (hv : ∀ s, 0 < s → s < x → σ 95 s = Int32.ofNat (A s) ∧ σ 96 s = Int32.ofNat (B s)) (hb : ∀ s, prp x s → cnd A B x s < 1000000 ∧ 0 < cnd A B x s) (h0 : σ 96 x = 0) {a2 : Int32} : ∃ d, am_loop (f_X0_leastOfAll_b62 (σ, ρ) 94 a2 (Int32.ofNat x)) am_fuel (1, σ) = some d ∧ kx σ d 96 x ∧ ∃ v, d 96 x = Int32.ofNat v ∧ (((∀ s, ¬ prp x s) ∧ v = 0) ∨ mnQ (prp x) (cnd A B x) v) := by
  refine lp_rule (x - 1) (fun k y => y.1 = Int32.ofNat (k + 1) ∧ kx σ y.2 96 x ∧ ∃ v, y.2 96 x = Int32.ofNat v ∧ v < 1000000 ∧ ((v = 0 ∧ ∀ s, prp x s → ¬ s < k + 1) ∨ (v ≠ 0 ∧ mnQ (fun s => prp x s ∧ s < k + 1) (cnd A B x) v))) (fun d => kx σ d 96 x ∧ ∃ v, d 96 x = Int32.ofNat v ∧ (((∀ s, ¬ prp x s) ∧ v = 0) ∨ mnQ (prp x) (cnd A B x) v)) (x := (1, σ)) ⟨rfl, fun _ _ _ => rfl, 0, h0, by decide, Or.inl ⟨rfl, fun s hs q => by have := (prp_lt hs).1; omega⟩⟩ (fun k y hk hy => ?_) (by omega)
  obtain ⟨i, τ⟩ := y
  obtain ⟨rfl, y1, v, y2, y3, y4⟩ := hy
  simp only at y1 y2
  unfold f_X0_leastOfAll_b62
  simp only
  by_cases e : k + 1 < x
  · left
    rw [if_pos (lt_y e (by omega)), andy]
    have hrl : x ^^^ ((k + 1) &&& x) ≤ x := sbs_le (sbs_xor sb_and)
    simp only [rd_wts hr, rd_sums hr, bnd]
    rw [ld_on (a := 96) (k := k + 1) (by rw [ln_96]; omega) (by omega), ld_on (a := 95) (k := k + 1) (by rw [ln_95]; omega) (by omega), ld_on (a := 96) (k := x ^^^ ((k + 1) &&& x)) (by rw [ln_96]; omega) (by omega), ld_on (a := 95) (k := x ^^^ ((k + 1) &&& x)) (by rw [ln_95]; omega) (by omega), ld_on (a := 96) (k := x) (by rw [ln_96]; omega) (by omega), on_and]
    simp only [bnd]
    have hal : (k + 1) &&& x ≤ k + 1 := Nat.and_le_left
    by_cases z : (k + 1) &&& x = k + 1
    · have px : prp x (k + 1) := ⟨by omega, by omega, sbs_of z⟩
      obtain ⟨p1, p2, p3, p4, p5⟩ := prp_lt px
      have v1 := hv _ p1 p2
      have v2 := hv _ p3 p4
      have hbx := hb _ px
      rw [z, if_pos rfl, y1 96 (k + 1) (by omega), y1 95 (k + 1) (by omega), y1 96 (x ^^^ (k + 1)) (by omega), y1 95 (x ^^^ (k + 1)) (by omega), v1.1, v1.2, v2.1, v2.2, y2, show (2 : Int32) = Int32.ofNat 2 from rfl, on_add, on_add, on_mul, on_add, show B (k + 1) + A (k + 1) + B (x ^^^ (k + 1)) + 2 * A (x ^^^ (k + 1)) = cnd A B x (k + 1) from rfl, st_on (by rw [ln_96]; omega) (by omega)]
      simp only [bnd, on_s, on_z (show v < 2147483648 by omega), on_lt (show cnd A B x (k + 1) < 2147483648 by omega) (show v < 2147483648 by omega)]
      have hq : ∀ s, s < k + 1 + 1 → s < k + 1 ∨ s = k + 1 := fun s hs => by omega
      have new : ((v = 0 ∧ ∀ s, prp x s → ¬ s < k + 1) ∨ (cnd A B x (k + 1) < v ∧ mnQ (fun s => prp x s ∧ s < k + 1) (cnd A B x) v)) → mnQ (fun s => prp x s ∧ s < k + 1 + 1) (cnd A B x) (cnd A B x (k + 1)) := fun h => by
        refine ⟨⟨k + 1, ⟨px, by omega⟩, rfl⟩, fun s hs => ?_⟩
        rcases hq s hs.2 with r | r
        · rcases h with ⟨_, h⟩ | ⟨h, h'⟩
          · exact absurd r (h s hs.1)
          · have := h'.2 s ⟨hs.1, r⟩; omega
        · rw [r]; exact Nat.le_refl _
      rcases y4 with ⟨c1, c2⟩ | ⟨c1, c2⟩
      · rw [if_pos c1]
        simp only [bnd]
        exact ⟨_, rfl, by omega, rfl, kx_u y1, _, u2_eq, hbx.1, Or.inr ⟨by omega, new (Or.inl ⟨c1, c2⟩)⟩⟩
      · rw [if_neg c1]
        by_cases q : cnd A B x (k + 1) < v
        · rw [if_pos q]
          simp only [bnd]
          exact ⟨_, rfl, by omega, rfl, kx_u y1, _, u2_eq, hbx.1, Or.inr ⟨by omega, new (Or.inr ⟨q, c2⟩)⟩⟩
        · rw [if_neg q]
          simp only [bnd]
          obtain ⟨⟨s0, c3, c4⟩, c5⟩ := c2
          refine ⟨_, rfl, by omega, rfl, y1, v, y2, y3, Or.inr ⟨c1, ⟨s0, ⟨c3.1, by have := c3.2; omega⟩, c4⟩, fun s hs => ?_⟩⟩
          rcases hq s hs.2 with r | r
          · exact c5 s ⟨hs.1, r⟩
          · rw [r]; omega
    · rw [if_neg (fun q => z ((on_inj (by omega) (by omega)).mp q))]
      simp only [bnd, on_s]
      have hq : ∀ s, prp x s → s < k + 1 + 1 → s < k + 1 := fun s hs g => by
        have : s ≠ k + 1 := fun q => z (q ▸ sbs_and hs.2.2)
        omega
      refine ⟨_, rfl, by omega, rfl, y1, v, y2, y3, ?_⟩
      rcases y4 with ⟨c1, c2⟩ | ⟨c1, ⟨s0, c3, c4⟩, c5⟩
      · exact Or.inl ⟨c1, fun s hs g => c2 s hs (hq s hs g)⟩
      · exact Or.inr ⟨c1, ⟨s0, ⟨c3.1, by have := c3.2; omega⟩, c4⟩, fun s hs => c5 s ⟨hs.1, hq s hs.1 hs.2⟩⟩
  · right
    have : k + 1 = x := by omega
    rw [this, if_neg (lt_n (by omega))]
    rw [this] at y4
    refine ⟨_, rfl, y1, v, y2, ?_⟩
    rcases y4 with ⟨c1, c2⟩ | ⟨c1, ⟨s0, c3, c4⟩, c5⟩
    · exact Or.inl ⟨fun s hs => c2 s hs (prp_lt hs).2.1, c1⟩
    · exact Or.inr ⟨⟨s0, c3.1, c4⟩, fun s hs => c5 s ⟨hs, (prp_lt hs).2.1⟩⟩
def lo (x : Nat) : Nat := x ^^^ ((x - 1) &&& x)
theorem lo_x {x : Nat} (h0 : 0 < x) (h : x < 64) : Int32.ofNat x &&& -(Int32.ofNat x) = Int32.ofNat (lo x) ∧ Int32.ofNat x ^^^ Int32.ofNat (lo x) = Int32.ofNat ((x - 1) &&& x) ∧ (∃ j, j < 6 ∧ lo x = 2 ^ j) ∧ lo x ≤ x := by
  have h1 : (List.range 64).all (fun x => decide (x = 0) || (decide (Int32.ofNat x &&& -(Int32.ofNat x) = Int32.ofNat (lo x)) && (decide (Int32.ofNat x ^^^ Int32.ofNat (lo x) = Int32.ofNat ((x - 1) &&& x)) && (anyN (fun j => decide (lo x = 2 ^ j)) 6 && decide (lo x ≤ x))))) = true := by decide +kernel
  have h2 := List.all_eq_true.mp h1 x (List.mem_range.mpr h)
  have hx : x ≠ 0 := by omega
  simp only [Bool.and_eq_true, Bool.or_eq_true, decide_eq_true_eq, hx, false_or] at h2
  obtain ⟨j, a, b⟩ := anyN_iff.mp h2.2.2.1
  exact ⟨h2.1, h2.2.1, ⟨j, a, of_decide_eq_true b⟩, h2.2.2.2⟩
theorem wsm_pow {c : Nat → Nat} {n j : Nat} (h : j < n) : wsm c n (2 ^ j) = c j := by
  have key : ∀ k, su (fun i => if (2 ^ j).testBit i = true then c i else 0) k = if j < k then c j else 0 := by
    intro k
    induction k with
    | zero => rfl
    | succ k ih =>
      show su _ k + (if (2 ^ j).testBit k = true then c k else 0) = _
      rw [ih, Nat.testBit_two_pow]
      rcases Nat.lt_trichotomy j k with a | a | a
      · rw [if_pos a, if_neg (show ¬ decide (j = k) = true by simp; omega), if_pos (show j < k + 1 by omega)]; rfl
      · subst a; simp
      · rw [if_neg (show ¬ j < k by omega), if_neg (show ¬ decide (j = k) = true by simp; omega), if_neg (show ¬ j < k + 1 by omega)]
  unfold wsm
  rw [key, if_pos h]
theorem c_all {a b : Nat} (hr : rh ρ a b) {n : Nat} (hn : n ≤ 6) (hn0 : 0 < n) {c : Nat → Nat} (hc : ∀ j, j < n → 1 ≤ c j ∧ c j ≤ 99 ∧ σ 95 (2 ^ j) = Int32.ofNat (c j)) : ∃ τ B, f_X0_leastOfAll (σ, ρ) 94 (Int32.ofNat n) = some (Int32.ofNat (B (2 ^ n - 1)), τ) ∧ (∀ o, o ≠ 95 → o ≠ 96 → τ o = σ o) ∧ ∀ x, 0 < x → x < 2 ^ n → spc (wsm c n) B x := by
  have hV : 2 ^ n ≤ 2 ^ 6 := Nat.pow_le_pow_right (by decide) hn
  have hV1 : 2 ^ 1 ≤ 2 ^ n := Nat.pow_le_pow_right (by decide) hn0
  have hA : ∀ s m, sbs s m → wsm c n m = wsm c n s + wsm c n (m ^^^ s) := fun s m h => wsm_split h
  have hlt : ∀ s, sbs s (2 ^ n - 1) → s < 2 ^ n := fun s h => by have := sbs_le h; omega
  have hp : ∀ s, s ≠ 0 → sbs s (2 ^ n - 1) → 1 ≤ wsm c n s := fun s h0 hs => wsm_pos (fun i hi => (hc i hi).1) (hlt s hs) h0
  have hsub : ∀ s, s < 2 ^ n → sbs s (2 ^ n - 1) := fun s hs i hi => by rw [Nat.testBit_two_pow_sub_one]; exact decide_eq_true (tb_lt hs hi)
  have hAU : ∀ m, wsm c n m ≤ 594 := fun m => by
    have h1 : wsm c n m ≤ su (fun _ => 99) n := su_mono (fun k hk => by have := (hc k hk).2.1; split <;> omega)
    rw [su_const] at h1
    omega
  have hsh : ((1 : Int32) <<< (Int32.ofNat n &&& 31)) - 1 = Int32.ofNat (2 ^ n - 1) := by
    rw [shl1 (by omega)]; exact on_sub (b := 1) (by omega)
  obtain ⟨d, h1, h2, B, h3⟩ := lp_rule (body := f_X0_leastOfAll_b8 (σ, ρ) 94 (Int32.ofNat (2 ^ n - 1))) (2 ^ n - 1) (fun k y => y.1 = Int32.ofNat (k + 1) ∧ (∀ o, o ≠ 95 → o ≠ 96 → y.2 o = σ o) ∧ (∀ j, j < n → y.2 95 (2 ^ j) = Int32.ofNat (c j)) ∧ ∃ B : Nat → Nat, ∀ x, 0 < x → x < k + 1 → y.2 95 x = Int32.ofNat (wsm c n x) ∧ y.2 96 x = Int32.ofNat (B x) ∧ spc (wsm c n) B x)
    (fun (d : sg) => (∀ o, o ≠ 95 → o ≠ 96 → d o = σ o) ∧ ∃ B : Nat → Nat, ∀ x, 0 < x → x < 2 ^ n → d 95 x = Int32.ofNat (wsm c n x) ∧ d 96 x = Int32.ofNat (B x) ∧ spc (wsm c n) B x) (x := (1, σ)) ⟨rfl, fun _ _ _ => rfl, fun j hj => (hc j hj).2.2, fun _ => 0, fun x h0 h1 => by omega⟩ (fun k y hk hy => by
    obtain ⟨i, τ⟩ := y
    obtain ⟨rfl, y1, y2, B, y3⟩ := hy
    simp only at y1 y2 y3
    unfold f_X0_leastOfAll_b8
    simp only
    by_cases e : 2 ^ n - 1 < k + 1
    · right
      have : k + 1 = 2 ^ n := by omega
      rw [if_pos (lt_y e (by omega))]
      rw [this] at y3
      exact ⟨_, rfl, y1, B, y3⟩
    · left
      have x0 : 0 < k + 1 := by omega
      have x64 : k + 1 < 64 := by omega
      obtain ⟨l1, l2, ⟨j, l3, l4⟩, l5⟩ := lo_x x0 x64
      have hj : j < n := by
        apply Classical.byContradiction
        intro q
        have : 2 ^ n ≤ 2 ^ j := Nat.pow_le_pow_right (by decide) (by omega)
        omega
      have xs := hsub (k + 1) (by omega)
      have hw : wsm c n (k + 1) = wsm c n ((k + 1 - 1) &&& (k + 1)) + c j := by
        rw [hA ((k + 1 - 1) &&& (k + 1)) (k + 1) sb_and, show (k + 1) ^^^ ((k + 1 - 1) &&& (k + 1)) = 2 ^ j from l4, wsm_pow hj]
      have hlow : (k + 1 - 1) &&& (k + 1) ≤ k + 1 - 1 := Nat.and_le_left
      rw [if_neg (fun z => e ((on_lt (by omega) (by omega)).mp z)), l1, l2]
      simp only [rd_wts hr, rd_sums hr, bnd]
      rw [ld_on (a := 95) (k := lo (k + 1)) (by rw [ln_95]; omega) (by omega), l4, y2 j hj, ld_on (a := 95) (by rw [ln_95]; omega) (by omega)]
      simp only [bnd]
      have hq : (if Int32.ofNat (k + 1) = Int32.ofNat (2 ^ j) then some (0 : Int32) else some (τ 95 ((k + 1 - 1) &&& (k + 1)))) = some (Int32.ofNat (wsm c n ((k + 1 - 1) &&& (k + 1)))) := by
        by_cases q : k + 1 = 2 ^ j
        · have : (k + 1 - 1) &&& (k + 1) = 0 := by
            apply xor_y (y := k + 1)
            rw [← l4] at q
            exact q.symm
          rw [if_pos (by rw [q]), this]
          unfold wsm
          rw [su_cg (g := fun _ => 0) (fun k _ => by rw [Nat.zero_testBit]; rfl), su_zero]
          rfl
        · have h0 : (k + 1 - 1) &&& (k + 1) ≠ 0 := fun z => q (by
            rw [← l4]
            unfold lo
            rw [z, Nat.xor_zero])
          rw [if_neg (fun z => q ((on_inj (by omega) (by omega)).mp z)), (y3 _ (by omega) (by omega)).1]
      rw [hq]
      simp only [bnd]
      rw [on_add, show c j + wsm c n ((k + 1 - 1) &&& (k + 1)) = wsm c n (k + 1) by omega, st_on (by rw [ln_95]; omega) (by omega), bnd, st_on (by rw [ln_96]; omega) (by omega), bnd]
      obtain ⟨s1, hs1⟩ : ∃ s1, s1 = am_u2 (am_u2 τ 95 (k + 1) (Int32.ofNat (wsm c n (k + 1)))) 96 (k + 1) 0 := ⟨_, rfl⟩
      rw [← hs1]
      have k95 : ∀ s, s1 95 s = if s = k + 1 then Int32.ofNat (wsm c n (k + 1)) else τ 95 s := fun s => by
        rw [hs1, u2_ne (show 95 ≠ 96 by decide)]
        by_cases q : s = k + 1
        · rw [if_pos q, q, u2_eq]
        · rw [if_neg q, u2_nj q]
      have k96 : ∀ s, s ≠ k + 1 → s1 96 s = τ 96 s := fun s q => by rw [hs1, u2_nj q, u2_nj q]
      have kr : ∀ o, o ≠ 95 → o ≠ 96 → s1 o = σ o := fun o q1 q2 => by rw [hs1, u2_row q2, u2_row q1, y1 o q1 q2]
      have hsq := spc_sq (A := wsm c n) (B := B) (U := 2 ^ n - 1) (K := k + 1) hA hp (fun x a b _ => (y3 x a b).2.2)
      obtain ⟨d, d1, d2, v, d3, d4⟩ := c_part (σ := s1) hr x0 x64 (A := wsm c n) (B := B) (fun s a b => by
        rw [k95, if_neg (by omega), k96 s (by omega)]
        exact ⟨(y3 s a b).1, (y3 s a b).2.1⟩) (fun s hs => by
        have h1 := cnd_le (B := B) hA hp xs (fun x a b cc => hsq x a b cc) hs
        have h2 := hAU (k + 1)
        have h3 : wsm c n (k + 1) * wsm c n (k + 1) ≤ 594 * 594 := Nat.mul_le_mul h2 h2
        have h4 := hp s hs.1 (sbs_tr hs.2.2 xs)
        refine ⟨by omega, ?_⟩
        unfold cnd
        omega) (by rw [hs1]; exact u2_eq) (a2 := Int32.ofNat (2 ^ n - 1))
      rw [d1]
      simp only [bnd, on_s]
      refine ⟨_, rfl, by omega, rfl, fun o q1 q2 => ?_, fun i hi => ?_, up1 B (k + 1) v, fun x a b => ?_⟩
      · show d o = σ o
        rw [← kr o q1 q2]; funext i; exact d2 o i (fun z => q2 z.1)
      · show d 95 (2 ^ i) = _
        rw [d2 95 _ (fun z => by cases z.1), k95]
        by_cases q : 2 ^ i = k + 1
        · rw [if_pos q, ← q, wsm_pow hi]
        · rw [if_neg q, y2 i hi]
      · show d 95 x = _ ∧ d 96 x = _ ∧ _
        rw [d2 95 _ (fun z => by cases z.1), k95]
        by_cases q : x = k + 1
        · subst q
          rw [if_pos rfl, d3, up1_eq]
          refine ⟨rfl, rfl, ?_⟩
          rcases d4 with ⟨c1, c2⟩ | ⟨⟨s, c1, c2⟩, c3⟩
          · exact Or.inl ⟨c1, by rw [up1_eq]; exact c2⟩
          · have hcc : ∀ s, prp (k + 1) s → cnd (wsm c n) B (k + 1) s = cnd (wsm c n) (up1 B (k + 1) v) (k + 1) s := fun s hs => cnd_cg hs (fun x _ hx => by rw [up1_ne (by omega)]) (fun _ _ _ => rfl)
            exact Or.inr ⟨⟨s, c1, by rw [up1_eq, ← hcc s c1]; exact c2⟩, fun s' h' => by rw [up1_eq, ← hcc s' h']; exact c3 s' h'⟩
        · obtain ⟨r1, r2, r3⟩ := y3 x a (by omega)
          rw [if_neg q, r1, d2 96 x (fun z => q z.2), k96 x q, r2, up1_ne q]
          exact ⟨rfl, rfl, spc_cg (fun x hx => by rw [up1_ne (by omega)]) r3⟩) (by omega)
  refine ⟨d, B, ?_, h2, fun x a b => (h3 x a b).2.2⟩
  unfold f_X0_leastOfAll
  rw [hsh, h1]
  simp only [bnd, rd_sums hr]
  rw [ld_on (by rw [ln_96]; omega) (by omega), (h3 (2 ^ n - 1) (by omega) (by omega)).2.1]
  rfl
end LV
