section TX
variable {σ σ0 μ μ0 τ ν : sg} {ρ ρm : rg} {n b q u a0 c0 t0 u0 : Nat} {T : Nat → Int32} {x : wg}
theorem cd_ok (hu : tn u) (hj : JT σ0 μ0 u σ μ) {h v m : Nat} (hh : h < nH (μ 106)) (hv : v < nW (μ 106)) (hm : m < 512) (hm1 : m ≠ 1) : JT σ0 μ0 u (am_u2 σ (u + 7) (10 * h + v) (zw m)) (am_u2 μ 106 (8 + 15 * h + (5 + v)) (Int32.ofNat m)) := by
  obtain ⟨j1, j2, ⟨⟨f0, f1, f2, f3, f4, f5⟩, th, tv, tww⟩, hw⟩ := hj
  have hH := (wv_H hw).2
  have hW := (wv_W hw).2
  have hN := (wv_R hw).2
  obtain ⟨y, hy⟩ : ∃ y, y = am_u2 μ 106 (8 + 15 * h + (5 + v)) (Int32.ofNat m) 106 := ⟨_, rfl⟩
  have yc : y (13 + 15 * h + v) = Int32.ofNat m := by rw [hy, show 13 + 15 * h + v = 8 + 15 * h + (5 + v) by omega, u2_eq]
  have yo : ∀ k, k ≠ 13 + 15 * h + v → y k = μ 106 k := fun k hk => by rw [hy, u2_nj (by omega)]
  obtain ⟨wy, eH, eW, -⟩ := wv_mk (x := y) (H := nH (μ 106)) (W := nW (μ 106)) (N := nR (μ 106)) (by rw [yo 0 (by omega)]; exact (wv_H hw).1) (wv_H hw).2 (by rw [yo 1 (by omega)]; exact (wv_W hw).1) (wv_W hw).2 (by rw [yo 4 (by omega)]; exact (wv_R hw).1) (wv_R hw).2
    (fun a ha w hw1 => by
      by_cases c : a = h ∧ w = v
      · rw [c.1, c.2, yc]; exact ⟨m, hm, hm1, fun z => by omega, rfl⟩
      · rw [yo _ (by omega)]; obtain ⟨q1, q2, q3, q4⟩ := wv_wd hw ha hw1; exact ⟨_, q2, q3, q4, q1⟩)
    (fun g hg => by rw [yo _ (by omega), yo _ (by omega), yo _ (by omega), yo _ (by omega), yo _ (by omega)]; exact wv_at hw hg)
    (fun w hw1 => by rw [yo _ (by omega)]; exact wv_ur hw hw1)
    (by rw [yo _ (by omega)]; exact wv_x hw) (by rw [yo _ (by omega)]; exact wv_y hw)
    (fun r hr => by rw [yo _ (by omega), yo _ (by omega), yo _ (by omega), yo _ (by omega)]; exact wv_r hw hr) (by rw [yo 2 (by omega)]; exact wv_2 hw)
  refine ⟨kT_u j1 (by omega) (by omega), kW_6 j2 (by omega), ?_, by rw [← hy]; exact wy⟩
  rw [← hy]
  refine ⟨⟨?_, ?_, ?_, ?_, ?_, ?_⟩, fun g hg => ?_, fun w hw1 => ?_, fun g hg w hw1 => ?_⟩
  · rw [u2_ne (by omega), yo 0 (by omega)]; exact f0
  · rw [u2_ne (by omega), yo 1 (by omega)]; exact f1
  · rw [u2_ne (by omega), yo 2 (by omega)]; exact f2
  · rw [u2_ne (by omega), yo 5 (by omega)]; exact f3
  · rw [u2_ne (by omega), yo 6 (by omega)]; exact f4
  · rw [u2_ne (by omega), yo 7 (by omega)]; exact f5
  · rw [eH] at hg
    rw [u2_ne (by omega), u2_ne (by omega), u2_ne (by omega), u2_ne (by omega), u2_ne (by omega), yo _ (by omega), yo _ (by omega), yo _ (by omega), yo _ (by omega), yo _ (by omega)]
    exact th g hg
  · rw [eW] at hw1
    rw [u2_ne (by omega), yo _ (by omega)]
    exact tv w hw1
  · rw [eH]
    by_cases c : g = h ∧ w = v
    · rw [c.1, c.2, u2_eq, if_pos hh]
      unfold wd
      rw [yc, on_cl (by omega)]
    · rw [u2_nj (by omega)]
      unfold wd
      rw [yo _ (by omega)]
      exact tww g hg w hw1
theorem wt_ok (hu : tn u) (hj : JT σ0 μ0 u σ μ) {v : Nat} (hW : nW (μ 106) < 10) (h1 : 1 ≤ v) (h2 : v < 100) : JT σ0 μ0 u (am_u2 (am_u2 σ (u + 6) (nW (μ 106)) (Int32.ofNat v)) u 1 (Int32.ofNat (nW (μ 106) + 1))) (am_u2 (am_u2 μ 106 (128 + nW (μ 106)) (Int32.ofNat v)) 106 1 (Int32.ofNat (nW (μ 106) + 1))) := by
  obtain ⟨j1, j2, ⟨⟨f0, f1, f2, f3, f4, f5⟩, th, tv, tww⟩, hw⟩ := hj
  have hH := (wv_H hw).2
  have hN := (wv_R hw).2
  obtain ⟨W, eWW⟩ : ∃ W, W = nW (μ 106) := ⟨_, rfl⟩
  have tv' : ∀ v, v < nW (μ 106) → σ (u + 6) v = μ 106 (128 + v) := tv
  rw [← eWW] at tv' hW ⊢
  obtain ⟨y, hy⟩ : ∃ y, y = am_u2 (am_u2 μ 106 (128 + W) (Int32.ofNat v)) 106 1 (Int32.ofNat (W + 1)) 106 := ⟨_, rfl⟩
  have y1 : y 1 = Int32.ofNat (W + 1) := by rw [hy, u2_eq]
  have yc : y (128 + W) = Int32.ofNat v := by rw [hy, u2_nj (by omega), u2_eq]
  have yo : ∀ k, k ≠ 1 → k ≠ 128 + W → y k = μ 106 k := fun k hk hk2 => by rw [hy, u2_nj (by omega), u2_nj (by omega)]
  obtain ⟨wy, eH, eW, -⟩ := wv_mk (x := y) (H := nH (μ 106)) (W := W + 1) (N := nR (μ 106)) (by rw [yo 0 (by omega) (by omega)]; exact (wv_H hw).1) (wv_H hw).2 y1 (by omega) (by rw [yo 4 (by omega) (by omega)]; exact (wv_R hw).1) (wv_R hw).2
    (fun a ha w hw1 => by rw [yo _ (by omega) (by omega)]; obtain ⟨q1, q2, q3, q4⟩ := wv_wd hw ha hw1; exact ⟨_, q2, q3, fun z => q4 (by omega), q1⟩)
    (fun g hg => by rw [yo _ (by omega) (by omega), yo _ (by omega) (by omega), yo _ (by omega) (by omega), yo _ (by omega) (by omega), yo _ (by omega) (by omega)]; exact wv_at hw hg)
    (fun w hw1 => by
      by_cases c : w = W
      · rw [c, yc]; exact ⟨v, h1, h2, rfl⟩
      · rw [yo _ (by omega) (by omega)]; exact wv_ur hw (by omega))
    (by rw [yo _ (by omega) (by omega)]; exact wv_x hw) (by rw [yo _ (by omega) (by omega)]; exact wv_y hw)
    (fun r hr => by
      rw [yo _ (by omega) (by omega), yo _ (by omega) (by omega), yo _ (by omega) (by omega), yo _ (by omega) (by omega)]
      obtain ⟨r1, r2, ⟨a, a1, a2⟩, r4⟩ := wv_r hw hr
      exact ⟨r1, r2, ⟨a, by omega, a2⟩, r4⟩) (by rw [yo 2 (by omega) (by omega)]; exact wv_2 hw)
  refine ⟨kT_u (kT_u j1 (by omega) (by omega)) (by omega) (by omega), kW_6 (kW_6 j2 (by omega)) (by omega), ?_, by rw [← hy]; exact wy⟩
  rw [← hy]
  refine ⟨⟨?_, ?_, ?_, ?_, ?_, ?_⟩, fun g hg => ?_, fun w hw1 => ?_, fun g hg w hw1 => ?_⟩
  · rw [u2_nj (by omega), u2_ne (by omega), yo 0 (by omega) (by omega)]; exact f0
  · rw [u2_eq, y1]
  · rw [u2_nj (by omega), u2_ne (by omega), yo 2 (by omega) (by omega)]; exact f2
  · rw [u2_nj (by omega), u2_ne (by omega), yo 5 (by omega) (by omega)]; exact f3
  · rw [u2_nj (by omega), u2_ne (by omega), yo 6 (by omega) (by omega)]; exact f4
  · rw [u2_nj (by omega), u2_ne (by omega), yo 7 (by omega) (by omega)]; exact f5
  · rw [eH] at hg
    have r : ∀ i j, 1 ≤ i → i ≤ 5 → am_u2 (am_u2 σ (u + 6) W (Int32.ofNat v)) u 1 (Int32.ofNat (W + 1)) (u + i) j = σ (u + i) j := fun i j h1 h2 => by rw [u2_ne (by omega), u2_ne (by omega)]
    rw [r 1 _ (by omega) (by omega), r 2 _ (by omega) (by omega), r 3 _ (by omega) (by omega), r 4 _ (by omega) (by omega), r 5 _ (by omega) (by omega), yo _ (by omega) (by omega), yo _ (by omega) (by omega), yo _ (by omega) (by omega), yo _ (by omega) (by omega), yo _ (by omega) (by omega)]
    exact th g hg
  · rw [eW] at hw1
    rw [u2_ne (by omega)]
    by_cases c : w = W
    · rw [c, u2_eq, yc]
    · rw [u2_nj c, yo _ (by omega) (by omega)]
      exact tv' w (by omega)
  · rw [eH, u2_ne (by omega), u2_ne (by omega)]
    unfold wd
    rw [yo _ (by omega) (by omega)]
    exact tww g hg w hw1
theorem JT_0 (hj : JT σ0 μ0 u σ μ) : σ u 0 = Int32.ofNat (nH (μ 106)) ∧ σ u 1 = Int32.ofNat (nW (μ 106)) ∧ μ 106 0 = Int32.ofNat (nH (μ 106)) ∧ μ 106 1 = Int32.ofNat (nW (μ 106)) ∧ nH (μ 106) ≤ 8 ∧ nW (μ 106) ≤ 10 :=
  ⟨hj.2.2.1.1.1.trans (wv_H hj.2.2.2).1, hj.2.2.1.1.2.1.trans (wv_W hj.2.2.2).1, (wv_H hj.2.2.2).1, (wv_W hj.2.2.2).1, (wv_H hj.2.2.2).2, (wv_W hj.2.2.2).2⟩
theorem rm_sets (hr : rh ρ t0 u0) {h k : Nat} {v : Int32} (hh : h < 8) (hk : k < 15) : f_X12_sets (μ, ρ) 105 (Int32.ofNat h) (Int32.ofNat k) v = some (am_u2 μ 106 (8 + 15 * h + k) v) := by
  unfold f_X12_sets
  simp only [m_w hr, bnd]
  rw [show (15 : Int32) = Int32.ofNat 15 from rfl, show (8 : Int32) = Int32.ofNat 8 from rfl, on_mul, on_add, on_add, st_on (by rw [ln_106']; omega) (by omega), bnd]
theorem set_b1 {v x : Int32} : f_X9_setWord (σ, ρ) u (-1) v x = some σ := by
  unfold f_X9_setWord f_X9_hasHouse
  rw [if_pos m1n, bnd, if_pos rfl]
theorem set_b2 {p x : Int32} : f_X9_setWord (σ, ρ) u p (-1) x = some σ := by
  unfold f_X9_setWord
  have : ∃ r, f_X9_hasHouse (σ, ρ) u p = some r := by
    unfold f_X9_hasHouse
    split
    · exact ⟨_, rfl⟩
    · split
      · split <;> exact ⟨_, rfl⟩
      · exact ⟨_, rfl⟩
  obtain ⟨r, hr⟩ := this
  rw [hr, bnd]
  split
  · rfl
  · unfold f_X9_hasWant
    rw [if_pos m1n, bnd, if_pos rfl]
theorem l_code (hr : rh ρ a0 c0) (hrm : rh ρm t0 u0) (hu : tn u) (hu2 : u ≠ 46) (hB : tB T n) {s : Int32} (hs : s = 1 ∨ s = 0) (hj : JT σ0 μ0 u σ μ) (hc : cR σ ρ 77 T n b) (hok : σ 77 5 = -1) (hm : mS μ T n q) (hb : bgP T n q = b) : lnT σ0 μ0 u ρ T n (f_X10_readCode (σ, ρ) 76 u s) (f_X12_readCode (μ, ρm) 105 s) := by
  have hu3 : 2 ≤ u ∧ u + 7 < 77 := by rcases hu with rfl | rfl | rfl <;> omega
  have n4 := hc.2.2.1
  obtain ⟨z0, z1, z2, z3, z4, z5⟩ := JT_0 hj
  unfold f_X10_readCode f_X12_readCode
  simp only [rd_in hr, bnd, m_houses hrm]
  have bad2 : ∀ (τ ν : sg) (bb : Nat) (p : Int32), KT σ0 μ0 u τ ν → cR τ ρ 77 T n bb → bb ≤ n → τ 77 5 = Int32.ofNat bb → ν 105 9 = Int32.ofNat bb → lnT σ0 μ0 u ρ T n ((if s = 0 then some (((-1) : Int32), τ) else ((f_X4_word (τ, ρ) 77).bind (fun y7 => some (y7.1, y7.2)))).bind (fun t5 => ((f_X9_setWord (t5.2, ρ) u p (-1) t5.1).bind (fun σ8 => some σ8)))) (some (0, ν)) := by
    intro τ ν bb p k c bn o9 m9
    right
    refine ⟨τ, ν, bb, ?_, rfl, k, bn, o9, m9⟩
    rw [c_word0 c (by rw [o9]; exact on_m1 (by omega)), bnd]
    by_cases z : s = 0
    · rw [if_pos z, bnd, set_b2, bnd]
    · rw [if_neg z, bnd, set_b2, bnd]
  rcases c_nI (lo := 0) (H := nH (μ 106)) hc hB hok (show (0 : Int32) = _ from rfl) (show σ u 0 - 1 = _ by rw [z0]) (by decide) (by omega) with ⟨v1, τ1, r1, g1, -, g2, e1, c1, k1, o1⟩ | ⟨r1, τ1, e1, c1, k1, o1⟩
  · obtain ⟨μ1, m1, km1, ms1⟩ := (rm_nI (lo := 0) (H := nH (μ 106)) hrm hB hm hb (show (0 : Int32) = _ from rfl) (show μ 106 0 - 1 = _ by rw [z2]) (by decide) (by omega)).1 v1 r1
    rw [e1, m1]
    simp only [bnd, m_wants hrm]
    rw [if_neg (show ¬ Int32.ofNat v1 < 0 from on_neg (by omega))]
    have t1 : τ1 u 1 = Int32.ofNat (nW (μ 106)) := by rw [k1 u (by omega)]; exact z1
    have u1 : μ1 106 1 = Int32.ofNat (nW (μ 106)) := by rw [km1.1 106 (by decide)]; exact z3
    have j1 := JT_k (by omega) hj k1 km1
    rcases c_nI (lo := 0) (H := nW (μ 106)) c1 hB o1 (show (0 : Int32) = _ from rfl) (show τ1 u 1 - 1 = _ by rw [t1]) (by decide) (by omega) with ⟨v2, τ2, r2, g3, -, g4, e2, c2, k2, o2⟩ | ⟨r2, τ2, e2, c2, k2, o2⟩
    · obtain ⟨μ2, m2, km2, ms2⟩ := (rm_nI (lo := 0) (H := nW (μ 106)) hrm hB ms1 rfl (show (0 : Int32) = _ from rfl) (show μ1 106 1 - 1 = _ by rw [u1]) (by decide) (by omega)).1 v2 r2
      rw [e2, m2]
      simp only [bnd]
      rw [if_neg (show ¬ Int32.ofNat v2 < 0 from on_neg (by omega))]
      have j2 := JT_k (by omega) j1 k2 km2
      have h106 : μ2 106 = μ 106 := (km2.1 106 (by decide)).trans (km1.1 106 (by decide))
      have i5 : (5 : Int32) + Int32.ofNat v2 = Int32.ofNat (5 + v2) := by rw [show (5 : Int32) = Int32.ofNat 5 from rfl, on_add]
      have hb2 : bgP T n (enP T n (bgP T n (enP T n b))) = nx T n (nx T n b) := rfl
      rcases hs with rfl | rfl
      · rw [if_neg (by decide), if_neg (by decide)]
        rcases c_word1 c2 o2 with ⟨v3, τ3, r3, g5, g6, e3, c3, k3, o3⟩ | ⟨r3, τ3, e3, c3, k3, o3⟩
        · obtain ⟨μ3, m3, km3, ms3⟩ := (rm_told hrm hB ms2 hb2).1 v3 r3
          have j3 := JT_k (by omega) j2 k3 km3
          have w106 : μ3 106 = μ 106 := (km3.1 106 (by decide)).trans h106
          obtain ⟨y0, y1, -⟩ := JT_0 j3
          rw [w106] at y0 y1
          rw [e3, m3]
          simp only [bnd]
          rw [if_neg (show ¬ Int32.ofNat v3 < 0 from on_neg (by omega)), i5, rm_sets hrm (by omega) (by omega), bnd, bnd, if_neg (show ¬ Int32.ofNat v3 < 0 from on_neg (by omega)), c_set hr hu y0 y1 z4 z5 g2 g4, bnd]
          left
          refine ⟨_, _, nx T n (nx T n (nx T n b)), enP T n (nx T n (nx T n b)), rfl, rfl, ?_, cR_u c3 (by omega) (by omega), by rw [u2_ne (by omega)]; exact o3, mS_u ms3, rfl⟩
          have := cd_ok (h := v1) (v := v2) (m := v3) hu j3 (by rw [w106]; exact g2) (by rw [w106]; exact g4) g6 (by omega)
          rw [zw_p (by omega)] at this
          exact this
        · obtain ⟨μ3, m3, km3, m9⟩ := (rm_told hrm hB ms2 hb2).2 r3
          have j3 := JT_k (by omega) j2 k3 km3
          have w106 : μ3 106 = μ 106 := (km3.1 106 (by decide)).trans h106
          obtain ⟨y0, y1, -⟩ := JT_0 j3
          rw [w106] at y0 y1
          rw [e3, m3]
          simp only [bnd]
          rw [if_pos m1n, bnd, if_pos m1n, c_set hr hu y0 y1 z4 z5 g2 g4, bnd]
          right
          exact ⟨_, μ3, nx T n (nx T n b), rfl, rfl, ⟨kT_u j3.1 (by omega) (by omega), j3.2.1⟩, c3.2.2.2.1, by rw [u2_ne (by omega)]; exact o3, m9⟩
      · rw [if_pos rfl, if_pos rfl]
        obtain ⟨y0, y1, -⟩ := JT_0 j2
        rw [h106] at y0 y1
        simp only [bnd]
        rw [if_neg (show ¬ (0 : Int32) < 0 by decide), i5, rm_sets hrm (by omega) (by omega), bnd, bnd, if_neg (show ¬ (0 : Int32) < 0 by decide), c_set hr hu y0 y1 z4 z5 g2 g4, bnd]
        left
        refine ⟨_, _, nx T n (nx T n b), enP T n (nx T n b), rfl, rfl, ?_, cR_u c2 (by omega) (by omega), by rw [u2_ne (by omega)]; exact o2, mS_u ms2, rfl⟩
        have := cd_ok (h := v1) (v := v2) (m := 0) hu j2 (by rw [h106]; exact g2) (by rw [h106]; exact g4) (by decide) (by decide)
        exact this
    · obtain ⟨μ2, m2, km2, m9⟩ := (rm_nI (lo := 0) (H := nW (μ 106)) hrm hB ms1 rfl (show (0 : Int32) = _ from rfl) (show μ1 106 1 - 1 = _ by rw [u1]) (by decide) (by omega)).2 r2
      rw [e2, m2]
      simp only [bnd]
      rw [if_pos m1n]
      simp only [bnd]
      rw [if_pos m1n, bnd, if_pos m1n]
      have j2 := JT_k (by omega) j1 k2 km2
      exact bad2 τ2 μ2 (nx T n b) (Int32.ofNat v1) ⟨j2.1, j2.2.1⟩ c2 c2.2.2.2.1 o2 m9
  · obtain ⟨μ1, m1, km1, m9⟩ := (rm_nI (lo := 0) (H := nH (μ 106)) hrm hB hm hb (show (0 : Int32) = _ from rfl) (show μ 106 0 - 1 = _ by rw [z2]) (by decide) (by omega)).2 r1
    rw [e1, m1]
    simp only [bnd]
    rw [if_pos m1n]
    simp only [bnd]
    rw [if_pos m1n]
    simp only [bnd]
    rw [if_pos m1n, bnd, if_pos m1n]
    have bn := c1.2.2.2.1
    rw [c_num0 c1 hB (by rw [o1]; exact on_m1 (by omega)), bnd]
    have j1 := JT_k (by omega) hj k1 km1
    exact bad2 τ1 μ1 b (-1) ⟨j1.1, j1.2.1⟩ c1 bn o1 m9
theorem l_want (hr : rh ρ a0 c0) (hrm : rh ρm t0 u0) (hu : tn u) (hu2 : u ≠ 46) (hB : tB T n) (hj : JT σ0 μ0 u σ μ) (hc : cR σ ρ 77 T n b) (hok : σ 77 5 = -1) (hm : mS μ T n (enP T n b)) (h9 : μ 105 9 = Int32.ofNat b) : lnT σ0 μ0 u ρ T n (f_X10_readWant (σ, ρ) 76 u) (f_X12_readWant (μ, ρm) 105) := by
  have hu3 : 2 ≤ u ∧ u + 7 < 77 := by rcases hu with rfl | rfl | rfl <;> omega
  have n4 := hc.2.2.1
  obtain ⟨z0, z1, z2, z3, z4, z5⟩ := JT_0 hj
  unfold f_X10_readWant f_X12_readWant
  simp only [rd_in hr, bnd, m_wants hrm, rd_t hr hu (show (11, 1, 6) ∈ _ by decide), z1, z3, m_w hrm]
  rw [if_neg (on_neg (by omega))]
  by_cases c : nW (μ 106) < 10
  · rw [if_pos (show Int32.ofNat (nW (μ 106)) < 10 from (on_lt (b := 10) (by omega) (by decide)).mpr c), if_neg (show ¬ Int32.ofNat (nW (μ 106)) = 10 from fun z => by have := (on_inj (b := 10) (by omega) (by decide)).mp z; omega)]
    obtain ⟨τ0, s1, s2, s3, s4⟩ := c_stp hc
    rw [s1, bnd]
    rcases c_nI (lo := 1) (H := 100) s2 hB (s4.trans hok) (show (1 : Int32) = _ from rfl) (show (99 : Int32) = _ by decide) (by decide) (by omega) with ⟨v1, τ1, r1, g1, g0, g2, e1, c1, k1, o1⟩ | ⟨r1, τ1, e1, c1, k1, o1⟩
    · obtain ⟨μ1, m1, km1, ms1⟩ := (rm_nI (lo := 1) (H := 100) hrm hB hm rfl (show (1 : Int32) = _ from rfl) (show (99 : Int32) = _ by decide) (by decide) (by omega)).1 v1 r1
      have j1 := JT_k (by omega) (JT_k (by omega) hj s3 kM_rf) k1 km1
      have h106 : μ1 106 = μ 106 := km1.1 106 (by decide)
      obtain ⟨y0, y1, y2, y3, -⟩ := JT_0 j1
      rw [h106] at y1 y3
      rw [e1, m1]
      simp only [bnd]
      rw [h106, z3, show (128 : Int32) = Int32.ofNat 128 from rfl, on_add, st_on (by rw [(ln_t hu).2.2.2.2.2.1]; omega) (by omega), st_on (by rw [ln_106']; omega) (by omega), bnd, bnd, if_neg (show ¬ Int32.ofNat v1 < 0 from on_neg (by omega)), show (1 : Int32) = Int32.ofNat 1 from rfl, ld_on (by rw [ln_106']; omega) (by omega), bnd, st_on (by rw [ln_106']; omega) (by omega), bnd, bnd, if_neg (show ¬ Int32.ofNat v1 < 0 from on_neg (by omega)), u2_nj (show (1 : Nat) ≠ 128 + nW (μ 106) by omega), u2_ne (show u ≠ u + 6 by omega), h106, y1, z3, on_add]
      left
      refine ⟨_, _, nx T n (nx T n b), enP T n (nx T n b), rfl, rfl, ?_, cR_u (cR_u c1 (by omega) (by omega)) (by omega) (by omega), by rw [u2_ne (by omega), u2_ne (by omega)]; exact o1, mS_u (mS_u ms1), rfl⟩
      have := wt_ok (v := v1) hu j1 (by rw [h106]; exact c) g0 g2
      rw [h106] at this
      exact this
    · obtain ⟨μ1, m1, km1, m9⟩ := (rm_nI (lo := 1) (H := 100) hrm hB hm rfl (show (1 : Int32) = _ from rfl) (show (99 : Int32) = _ by decide) (by decide) (by omega)).2 r1
      have j1 := JT_k (by omega) (JT_k (by omega) hj s3 kM_rf) k1 km1
      have h106 : μ1 106 = μ 106 := km1.1 106 (by decide)
      rw [e1, m1]
      simp only [bnd]
      rw [h106, z3, show (128 : Int32) = Int32.ofNat 128 from rfl, on_add, st_on (by rw [(ln_t hu).2.2.2.2.2.1]; omega) (by omega), st_on (by rw [ln_106']; omega) (by omega), bnd, bnd, if_pos m1n, bnd, if_pos m1n]
      right
      exact ⟨_, _, nx T n b, rfl, rfl, ⟨kT_u (kT_u j1.1 (by omega) (by omega)) (by omega) (by omega), kW_6 j1.2.1 (by omega)⟩, c1.2.2.2.1, by rw [u2_ne (by omega), u2_ne (by omega)]; exact o1, by rw [u2_ne (by decide)]; exact m9⟩
  · rw [if_neg (show ¬ Int32.ofNat (nW (μ 106)) < 10 from fun z => c ((on_lt (b := 10) (by omega) (by decide)).mp z)), if_pos (show Int32.ofNat (nW (μ 106)) = 10 from by rw [show nW (μ 106) = 10 by omega]; rfl)]
    obtain ⟨τ, v1, v2, v3, v4⟩ := c_ref1 hc hok
    rw [v1, bnd]
    right
    exact ⟨τ, μ, b, rfl, rfl, ⟨kT_O hj.1 v3, hj.2.1⟩, hc.2.2.2.1, v4, h9⟩
end TX
