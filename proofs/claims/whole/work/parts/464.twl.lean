section TW
variable {σ σ0 μ μ0 τ ν : sg} {ρ ρm : rg} {n b q u a0 c0 t0 u0 : Nat} {T : Nat → Int32} {x : wg}
/-! the lines of a town's text -/
theorem wv_mk {H W N : Nat} (h0 : x 0 = Int32.ofNat H) (hH : H ≤ 8) (h1 : x 1 = Int32.ofNat W) (hW : W ≤ 10) (h4 : x 4 = Int32.ofNat N) (hN : N ≤ 12)
    (hwd : ∀ a, a < H → ∀ v, v < 10 → ∃ m, m < 512 ∧ m ≠ 1 ∧ (W ≤ v → m = 0) ∧ x (13 + 15 * a + v) = Int32.ofNat m)
    (hat : ∀ h, h < H → (∃ a, a < 16 ∧ x (8 + 15 * h) = Int32.ofNat a) ∧ (∃ a, a < 16 ∧ x (9 + 15 * h) = Int32.ofNat a) ∧ (∃ a, 1 ≤ a ∧ a < 31 ∧ x (10 + 15 * h) = Int32.ofNat a) ∧ (∃ a, a < 1000 ∧ x (11 + 15 * h) = Int32.ofNat a) ∧ (x (12 + 15 * h) = 0 ∨ x (12 + 15 * h) = 1))
    (hur : ∀ v, v < W → ∃ a, 1 ≤ a ∧ a < 100 ∧ x (128 + v) = Int32.ofNat a) (h6 : ∃ a, a < 19 ∧ x 6 = Int32.ofNat a - 9) (h7 : ∃ a, a < 19 ∧ x 7 = Int32.ofNat a - 9)
    (hr : ∀ r, r < N → (∃ a, a < 1000 ∧ x (138 + 4 * r) = Int32.ofNat a) ∧ (∃ a, a < H ∧ x (139 + 4 * r) = Int32.ofNat a) ∧ (∃ a, a < W ∧ x (140 + 4 * r) = Int32.ofNat a) ∧ (∃ a, 2 ≤ a ∧ a < 512 ∧ x (141 + 4 * r) = Int32.ofNat a)) (h2 : ∃ a, a < 11 ∧ x 2 = Int32.ofNat a) : wv x ∧ nH x = H ∧ nW x = W ∧ nR x = N := by
  have eH : nH x = H := by unfold nH; rw [h0, on_cl (by omega)]
  have eW : nW x = W := by unfold nW; rw [h1, on_cl (by omega)]
  have eN : nR x = N := by unfold nR; rw [h4, on_cl (by omega)]
  refine ⟨?_, eH, eW, eN⟩
  unfold wv
  rw [eH, eW, eN]
  refine ⟨⟨h0, hH⟩, ⟨h1, hW⟩, ⟨h4, hN⟩, fun a ha v hv => ?_, hat, hur, h6, h7, hr, h2⟩
  obtain ⟨m, m1, m2, m3, m4⟩ := hwd a ha v hv
  have : wd x a v = m := by unfold wd; rw [m4, on_cl (by omega)]
  rw [this]
  exact ⟨m4, m1, m2, m3⟩
def TD (σ : sg) (u : Nat) (x : wg) : Prop := tw_f σ u x ∧ tw_h σ u x ∧ tw_v σ u x ∧ tw_w σ u x
def kT (u : Nat) (σ0 σ : sg) : Prop := ∀ o, o ≠ 77 → ¬ (u ≤ o ∧ o ≤ u + 7) → σ o = σ0 o
def kW (μ0 μ : sg) : Prop := (∀ o, o ≠ 105 → o ≠ 106 → μ o = μ0 o) ∧ (∀ j, j ≠ 7 → j ≠ 9 → μ 105 j = μ0 105 j) ∧ (∀ k, (2 ≤ k ∧ k ≤ 5) ∨ 138 ≤ k → μ 106 k = μ0 106 k)
def JT (σ0 μ0 : sg) (u : Nat) (σ μ : sg) : Prop := kT u σ0 σ ∧ kW μ0 μ ∧ TD σ u (μ 106) ∧ wv (μ 106)
def KT (σ0 μ0 : sg) (u : Nat) (σ μ : sg) : Prop := kT u σ0 σ ∧ kW μ0 μ
theorem kT_O (h : kT u σ0 σ) (k : kO 77 σ τ) : kT u σ0 τ := fun o h1 h2 => (k o h1).trans (h o h1 h2)
theorem kT_u (h : kT u σ0 σ) {o j : Nat} {v : Int32} (h1 : u ≤ o) (h2 : o ≤ u + 7) : kT u σ0 (am_u2 σ o j v) := fun p g1 g2 => (u2_row (fun z => g2 (by omega))).trans (h p g1 g2)
theorem kW_M (h : kW μ0 μ) (k : kM μ ν) : kW μ0 ν := ⟨fun o h1 h2 => (k.1 o h1).trans (h.1 o h1 h2), fun j h1 h2 => (k.2 j h1 h2).trans (h.2.1 j h1 h2), fun i hi => (by rw [k.1 106 (by decide)]; exact h.2.2 i hi)⟩
theorem kW_6 (h : kW μ0 μ) {k : Nat} {v : Int32} (hk : k < 2 ∨ (6 ≤ k ∧ k < 138)) : kW μ0 (am_u2 μ 106 k v) := ⟨fun o h1 h2 => (u2_row h2).trans (h.1 o h1 h2), fun j h1 h2 => (u2_ne (by decide)).trans (h.2.1 j h1 h2), fun i hi => (u2_nj (by omega)).trans (h.2.2 i hi)⟩
theorem cR_u {R : Nat} (h : cR σ ρ R T n b) {o j : Nat} {v : Int32} (h1 : o ≠ R) (h2 : o ≠ 1) : cR (am_u2 σ o j v) ρ R T n b := cR_k h (fun i _ => u2_ne (Ne.symm h1)) (fun k => u2_ne (Ne.symm h2))
theorem mS_u (h : mS μ T n q) {k : Nat} {v : Int32} : mS (am_u2 μ 106 k v) T n q := ⟨(u2_ne (by decide)).trans h.1, (u2_ne (by decide)).trans h.2.1, h.2.2.1, h.2.2.2.1, fun i hi => (u2_ne (by decide)).trans (h.2.2.2.2 i hi)⟩
theorem TD_cg (h : TD σ u x) (k : ∀ i, i ≤ 7 → τ (u + i) = σ (u + i)) : TD τ u x := by
  have k0 := k 0 (by decide)
  rw [Nat.add_zero] at k0
  unfold TD tw_f tw_h tw_v tw_w at *
  rw [k0, k 1 (by decide), k 2 (by decide), k 3 (by decide), k 4 (by decide), k 5 (by decide), k 6 (by decide), k 7 (by decide)]
  exact h
theorem JT_k (hu : u + 7 < 77) (h : JT σ0 μ0 u σ μ) (k : kO 77 σ τ) (m : kM μ ν) : JT σ0 μ0 u τ ν := by
  refine ⟨kT_O h.1 k, kW_M h.2.1 m, ?_, ?_⟩
  · rw [m.1 106 (by decide)]; exact TD_cg h.2.2.1 (fun i hi => k _ (by omega))
  · rw [m.1 106 (by decide)]; exact h.2.2.2
theorem c_nI {R : Nat} (h : cR σ ρ R T n b) (hB : tB T n) (hok : σ R 5 = -1) {lo H : Nat} {lo' hi' : Int32} (e1 : lo' = Int32.ofNat lo) (e2 : hi' = Int32.ofNat H - 1) (hlo : lo < 1000) (hH : H < 2000) : (∃ v τ, numR T n b lo H = some v ∧ v < 1000 ∧ lo ≤ v ∧ v < H ∧ f_X4_number (σ, ρ) R lo' hi' = some (Int32.ofNat v, τ) ∧ cR τ ρ R T n (nx T n b) ∧ kO R σ τ ∧ τ R 5 = -1) ∨ (numR T n b lo H = none ∧ ∃ τ, f_X4_number (σ, ρ) R lo' hi' = some (-1, τ) ∧ cR τ ρ R T n b ∧ kO R σ τ ∧ τ R 5 = Int32.ofNat b) := by
  subst e1 e2
  exact c_num1 h hB hok hlo hH
theorem rm_nI (hr : rh ρ t0 u0) (hB : tB T n) (h : mS μ T n q) (hb : bgP T n q = b) {lo H : Nat} {lo' hi' : Int32} (e1 : lo' = Int32.ofNat lo) (e2 : hi' = Int32.ofNat H - 1) (hlo : lo < 1000) (hH : H < 2000) : (∀ v, numR T n b lo H = some v → ∃ ν, f_X12_number (μ, ρ) 105 lo' hi' = some (Int32.ofNat v, ν) ∧ kM μ ν ∧ mS ν T n (enP T n b)) ∧ (numR T n b lo H = none → ∃ ν, f_X12_number (μ, ρ) 105 lo' hi' = some (-1, ν) ∧ kM μ ν ∧ ν 105 9 = Int32.ofNat b) := by
  subst e1 e2
  exact rm_num hr hB h hb hlo hH
theorem rd_in (hr : rh ρ a0 c0) : am_rd ρ 76 0 104 = some 77 := rh_rd hr (by decide) (by decide) (by decide +kernel)
theorem ln_106' : am_ln 106 = 1860 := by decide
def lnT (σ0 μ0 : sg) (u : Nat) (ρ : rg) (T : Nat → Int32) (n : Nat) (C : Option sg) (M : Option (Int32 × sg)) : Prop := lnO (fun _ _ => JT σ0 μ0 u) (KT σ0 μ0 u) ρ 77 T n 0 C M
theorem wnd_s {s : Int32} (hs : s = 1 ∨ s = -1) {v : Nat} (hv : v < 10) : ∃ a, a < 19 ∧ s * Int32.ofNat v = Int32.ofNat a - 9 := by
  have h := List.all_eq_true.mp (show (List.range 10).all (fun v => decide (1 * Int32.ofNat v = Int32.ofNat (9 + v) - 9) && decide (-1 * Int32.ofNat v = Int32.ofNat (9 - v) - 9)) = true by decide +kernel) v (List.mem_range.mpr hv)
  simp only [Bool.and_eq_true, decide_eq_true_eq] at h
  rcases hs with rfl | rfl
  · exact ⟨9 + v, by omega, h.1⟩
  · exact ⟨9 - v, by omega, h.2⟩
theorem m1n : (-1 : Int32) < 0 := by decide
theorem l_wind (hr : rh ρ a0 c0) (hrm : rh ρm t0 u0) (hu : tn u) (hu2 : u ≠ 46) (hB : tB T n) {s : Int32} (hs : s = 1 ∨ s = -1) (hj : JT σ0 μ0 u σ μ) (hc : cR σ ρ 77 T n b) (hok : σ 77 5 = -1) (hm : mS μ T n q) (hb : bgP T n q = b) : lnT σ0 μ0 u ρ T n (f_X10_readWind (σ, ρ) 76 u s) (f_X12_readWind (μ, ρm) 105 s) := by
  have hu3 : 2 ≤ u ∧ u + 7 < 77 := by rcases hu with rfl | rfl | rfl <;> omega
  have n4 := hc.2.2.1
  unfold f_X10_readWind f_X12_readWind
  simp only [rd_in hr, bnd]
  rcases c_nI (lo := 0) (H := 10) hc hB hok (show (0 : Int32) = _ from rfl) (show (9 : Int32) = _ by decide) (by decide) (by decide) with ⟨v1, τ1, r1, g1, -, g2, e1, c1, k1, o1⟩ | ⟨r1, τ1, e1, c1, k1, o1⟩
  · obtain ⟨μ1, m1, km1, ms1⟩ := (rm_nI (lo := 0) (H := 10) hrm hB hm hb (show (0 : Int32) = _ from rfl) (show (9 : Int32) = _ by decide) (by decide) (by decide)).1 v1 r1
    rw [e1, m1]
    simp only [bnd]
    rw [if_neg (show ¬ Int32.ofNat v1 < 0 from on_neg (by omega))]
    have c1' := cR_u c1 (o := u) (j := 4) (v := s * Int32.ofNat v1) (by omega) (by omega)
    have o1' : am_u2 τ1 u 4 (s * Int32.ofNat v1) 77 5 = -1 := by rw [u2_ne (by omega)]; exact o1
    rcases c_nI (lo := 0) (H := 10) c1' hB o1' (show (0 : Int32) = _ from rfl) (show (9 : Int32) = _ by decide) (by decide) (by decide) with ⟨v2, τ2, r2, g3, -, g4, e2, c2, k2, o2⟩ | ⟨r2, τ2, e2, c2, k2, o2⟩
    · obtain ⟨μ2, m2, km2, ms2⟩ := (rm_nI (lo := 0) (H := 10) hrm hB ms1 rfl (show (0 : Int32) = _ from rfl) (show (9 : Int32) = _ by decide) (by decide) (by decide)).1 v2 r2
      rw [e2, m2]
      simp only [bnd, m_w hrm]
      rw [if_neg (show ¬ Int32.ofNat v2 < 0 from on_neg (by omega)), show (6 : Int32) = Int32.ofNat 6 from rfl, st_on (by rw [ln_106']; omega) (by omega), bnd, show (7 : Int32) = Int32.ofNat 7 from rfl, st_on (by rw [ln_106']; omega) (by omega), bnd]
      have h106 : μ2 106 = μ 106 := (km2.1 106 (by decide)).trans (km1.1 106 (by decide))
      obtain ⟨y, hy⟩ : ∃ y, y = am_u2 (am_u2 μ2 106 6 (s * Int32.ofNat v1)) 106 7 (s * Int32.ofNat v2) 106 := ⟨_, rfl⟩
      have y6 : y 6 = s * Int32.ofNat v1 := by rw [hy, u2_nj (by decide), u2_eq]
      have y7 : y 7 = s * Int32.ofNat v2 := by rw [hy, u2_eq]
      have yo : ∀ k, k ≠ 6 → k ≠ 7 → y k = μ 106 k := fun k h1 h2 => by rw [hy, u2_nj h2, u2_nj h1, h106]
      have hw := hj.2.2.2
      obtain ⟨wy, eH, eW, -⟩ := wv_mk (x := y) (H := nH (μ 106)) (W := nW (μ 106)) (N := nR (μ 106)) (by rw [yo 0 (by decide) (by decide)]; exact (wv_H hw).1) (wv_H hw).2 (by rw [yo 1 (by decide) (by decide)]; exact (wv_W hw).1) (wv_W hw).2 (by rw [yo 4 (by decide) (by decide)]; exact (wv_R hw).1) (wv_R hw).2
        (fun a ha v hv => by rw [yo _ (by omega) (by omega)]; obtain ⟨q1, q2, q3, q4⟩ := wv_wd hw ha hv; exact ⟨_, q2, q3, q4, q1⟩)
        (fun h hh => by rw [yo _ (by omega) (by omega), yo _ (by omega) (by omega), yo _ (by omega) (by omega), yo _ (by omega) (by omega), yo _ (by omega) (by omega)]; exact wv_at hw hh)
        (fun v hv => by rw [yo _ (by omega) (by omega)]; exact wv_ur hw hv)
        (by rw [y6]; exact wnd_s hs g2) (by rw [y7]; exact wnd_s hs g4)
        (fun r hr => by rw [yo _ (by omega) (by omega), yo _ (by omega) (by omega), yo _ (by omega) (by omega), yo _ (by omega) (by omega)]; exact wv_r hw hr) (by rw [yo 2 (by omega) (by omega)]; exact wv_2 hw)
      left
      refine ⟨_, _, nx T n (nx T n b), enP T n (nx T n b), rfl, rfl, ⟨?_, ?_, ?_, ?_⟩, cR_u c2 (by omega) (by omega), by rw [u2_ne (by omega)]; exact o2, mS_u (mS_u ms2), rfl⟩
      · exact kT_u (kT_O (kT_u (kT_O hj.1 k1) (by omega) (by omega)) k2) (by omega) (by omega)
      · exact kW_6 (kW_6 (kW_M hj.2.1 (kM_tr km1 km2)) (by omega)) (by omega)
      · rw [← hy]
        obtain ⟨⟨f0, f1, f2, f3, f4, f5⟩, th, tv, tww⟩ := hj.2.2.1
        have row : ∀ i, 1 ≤ i → i ≤ 7 → am_u2 τ2 u 5 (s * Int32.ofNat v2) (u + i) = σ (u + i) := fun i h1 h2 => by
          rw [u2_row (by omega), k2 _ (by omega), u2_row (by omega), k1 _ (by omega)]
        have t0 : ∀ j, j ≠ 4 → j ≠ 5 → am_u2 τ2 u 5 (s * Int32.ofNat v2) u j = σ u j := fun j h1 h2 => by
          rw [u2_nj h2, k2 _ (by omega), u2_nj h1, k1 _ (by omega)]
        refine ⟨⟨?_, ?_, ?_, ?_, ?_, ?_⟩, fun h hh => ?_, fun v hv => ?_, fun h hh v hv => ?_⟩
        · rw [t0 0 (by decide) (by decide), yo 0 (by decide) (by decide)]; exact f0
        · rw [t0 1 (by decide) (by decide), yo 1 (by decide) (by decide)]; exact f1
        · rw [t0 2 (by decide) (by decide), yo 2 (by decide) (by decide)]; exact f2
        · rw [t0 3 (by decide) (by decide), yo 5 (by decide) (by decide)]; exact f3
        · rw [y6, u2_nj (by decide), k2 _ (by omega), u2_eq]
        · rw [y7, u2_eq]
        · rw [eH] at hh
          rw [row 1 (by decide) (by decide), row 2 (by decide) (by decide), row 3 (by decide) (by decide), row 4 (by decide) (by decide), row 5 (by decide) (by decide), yo _ (by omega) (by omega), yo _ (by omega) (by omega), yo _ (by omega) (by omega), yo _ (by omega) (by omega), yo _ (by omega) (by omega)]
          exact th h hh
        · rw [eW] at hv
          rw [row 6 (by decide) (by decide), yo _ (by omega) (by omega)]
          exact tv v hv
        · rw [eH, row 7 (by decide) (by decide)]
          unfold wd
          rw [yo _ (by omega) (by omega)]
          exact tww h hh v hv
      · rw [← hy]; exact wy
    · obtain ⟨μ2, m2, km2, m9⟩ := (rm_nI (lo := 0) (H := 10) hrm hB ms1 rfl (show (0 : Int32) = _ from rfl) (show (9 : Int32) = _ by decide) (by decide) (by decide)).2 r2
      rw [e2, m2]
      simp only [bnd]
      rw [if_pos m1n]
      right
      exact ⟨_, μ2, nx T n b, rfl, rfl, ⟨kT_u (kT_O (kT_u (kT_O hj.1 k1) (by omega) (by omega)) k2) (by omega) (by omega), kW_M hj.2.1 (kM_tr km1 km2)⟩, c2.2.2.2.1, by rw [u2_ne (by omega)]; exact o2, m9⟩
  · obtain ⟨μ1, m1, km1, m9⟩ := (rm_nI (lo := 0) (H := 10) hrm hB hm hb (show (0 : Int32) = _ from rfl) (show (9 : Int32) = _ by decide) (by decide) (by decide)).2 r1
    rw [e1, m1]
    simp only [bnd]
    rw [if_pos m1n, bnd]
    have bn := c1.2.2.2.1
    have c1' := cR_u c1 (o := u) (j := 4) (v := s * -1) (by omega) (by omega)
    have o1' : am_u2 τ1 u 4 (s * -1) 77 5 = Int32.ofNat b := by rw [u2_ne (by omega)]; exact o1
    rw [c_num0 c1' hB (by rw [o1']; exact on_m1 (by omega)), bnd]
    simp only
    rw [if_pos m1n]
    right
    exact ⟨_, μ1, b, rfl, rfl, ⟨kT_u (kT_u (kT_O hj.1 k1) (by omega) (by omega)) (by omega) (by omega), kW_M hj.2.1 km1⟩, bn, by rw [u2_ne (by omega)]; exact o1', m9⟩
end TW
