section UB
variable {σ z : sg} {ρ : rg} {u a0 c0 : Nat} {y : wg}
theorem sb_all : (List.range 31).all (fun l => (List.range 70).all (fun f => decide (Int32.ofNat l - Int32.ofNat f < 0 ↔ l < f))) = true := by decide +kernel
theorem sb_n {l f : Nat} (hl : l < 31) (hf : f < 70) : (Int32.ofNat l - Int32.ofNat f < 0) ↔ l < f := of_decide_eq_true (List.all_eq_true.mp (List.all_eq_true.mp sb_all l (List.mem_range.mpr hl)) f (List.mem_range.mpr hf))
theorem TD_hh (hT : TD σ u y) (hw : wv y) {h : Nat} (hh : h < nH y) : f_X9_hasHouse (σ, ρ) u (Int32.ofNat h) = some 1 := by
  have hb := (wv_H hw).2
  have h0 : σ u 0 = Int32.ofNat (nH y) := hT.1.1.trans (wv_H hw).1
  unfold f_X9_hasHouse
  rw [if_neg (on_neg (by omega))]
  simp only [h0]
  rw [if_pos ((on_lt (by omega) (by omega)).mpr hh), if_pos (show Int32.ofNat h < 8 from (on_lt (b := 8) (by omega) (by decide)).mpr (by omega))]
theorem TD_far (hr : rh ρ a0 c0) (hu : tn u) (hT : TD σ u y) (hw : wv y) {i j : Nat} (hi : i < nH y) (hj : j < nH y) : f_X9_farFrom (σ, ρ) u (Int32.ofNat i) (Int32.ofNat j) = some (far y i j) := by
  have hH := (wv_H hw).2
  have hl := ln_t hu
  have ri := hT.2.1 i hi
  have rj := hT.2.1 j hj
  unfold f_X9_farFrom
  rw [TD_hh hT hw hi, TD_hh hT hw hj]
  simp only [bnd, i10, if_false, rd_t hr hu (show (6, 1, 1) ∈ _ by decide), rd_t hr hu (show (7, 1, 2) ∈ _ by decide)]
  rw [ld_on (a := u + 1) (k := j) (by omega) (by omega), ld_on (a := u + 1) (k := i) (by omega) (by omega), ld_on (a := u + 2) (k := j) (by omega) (by omega), ld_on (a := u + 2) (k := i) (by omega) (by omega)]
  simp only [bnd, j_abs, ri.1, ri.2.1, rj.1, rj.2.1, hT.1.2.2.2.2.1, hT.1.2.2.2.2.2]
  rfl
theorem mw_in (hrr : rh ρ a0 c0) (hu : tn u) (hT : TD σ u y) (hw : wv y) {S : sg} {i : Nat} (hi : i < nH y) (hz : ∀ o, o ≠ u + 8 → z o = σ o) : ∃ z', am_loop (f_X9_measureWays_b18 (S, ρ) u (Int32.ofNat i)) am_fuel (0, z) = some z' ∧ (∀ o, o ≠ u + 8 → z' o = σ o) ∧ (∀ j, j < nH y → z' (u + 8) (8 * i + j) = clr y i j) ∧ (∀ k, k < 8 * i ∨ 8 * i + 8 ≤ k → z' (u + 8) k = z (u + 8) k) := by
  have hH := (wv_H hw).2
  have hl := ln_t hu
  obtain ⟨d, l1, l2⟩ := lp_rule (body := f_X9_measureWays_b18 (S, ρ) u (Int32.ofNat i)) (nH y) (fun k (x : Int32 × sg) => x.1 = Int32.ofNat k ∧ (∀ o, o ≠ u + 8 → x.2 o = σ o) ∧ (∀ j, j < k → x.2 (u + 8) (8 * i + j) = clr y i j) ∧ (∀ k, k < 8 * i ∨ 8 * i + 8 ≤ k → x.2 (u + 8) k = z (u + 8) k)) (fun (z' : sg) => (∀ o, o ≠ u + 8 → z' o = σ o) ∧ (∀ j, j < nH y → z' (u + 8) (8 * i + j) = clr y i j) ∧ (∀ k, k < 8 * i ∨ 8 * i + 8 ≤ k → z' (u + 8) k = z (u + 8) k)) (x := ((0 : Int32), z)) ⟨rfl, hz, fun j hj => by omega, fun _ _ => rfl⟩ (fun k x hk hx => by
    obtain ⟨x1, x2⟩ := x
    obtain ⟨y1, y2, y3, y4⟩ := hx
    simp only at y1 y2 y3 y4
    subst y1
    have T2 : TD x2 u y := TD_cg hT (fun i hi => y2 _ (by omega))
    have h0 : x2 u 0 = Int32.ofNat (nH y) := T2.1.1.trans (wv_H hw).1
    unfold f_X9_measureWays_b18
    simp only [h0]
    by_cases c : k < nH y
    · left
      obtain ⟨f, f1, f2⟩ := far_n hw hi c
      obtain ⟨-, -, ⟨l, l1, l2, l3⟩, -, -⟩ := wv_at hw c
      have rk := T2.2.1 k c
      have ri := T2.2.1 i hi
      rw [if_pos (lt_y c (by omega)), if_pos (show Int32.ofNat k < 8 from (on_lt (b := 8) (by omega) (by decide)).mpr (by omega)), rd_t hrr hu (show (8, 1, 3) ∈ _ by decide), bnd, ld_on (by omega) (by omega), bnd, TD_far hrr hu T2 hw hi c, bnd, rd_t hrr hu (show (10, 1, 5) ∈ _ by decide), bnd, ld_on (by omega) (by omega), bnd, rd_t hrr hu (show (13, 1, 8) ∈ _ by decide), rk.2.2.1, ri.2.2.2.2, f2, l3]
      have hc : ((if Int32.ofNat i = Int32.ofNat k then some (0 : Int32) else (if y (12 + 15 * i) = 0 then (if (Int32.ofNat l - Int32.ofNat f) < 0 then some (0 : Int32) else some (1 : Int32)) else some (0 : Int32))).bind (fun t10 => (if t10 = 0 then some (0 : Int32) else some (((Int32.ofNat l - Int32.ofNat f) / 3) + 1)))) = some (clr y i k) := by
        unfold clr hr
        rw [f2, l3]
        by_cases e : i = k
        · rw [if_pos (by rw [e]), bnd, if_pos rfl, if_neg (by simp [e])]
        · rw [if_neg (on_ne (by omega) (by omega) e)]
          by_cases g : y (12 + 15 * i) = 0
          · rw [if_pos g]
            by_cases m : l < f
            · rw [if_pos ((sb_n l2 f1).mpr m), bnd, if_pos rfl, if_neg]
              simp [lt_y m (show f < 2147483648 by omega)]
            · rw [if_neg (fun q => m ((sb_n l2 f1).mp q)), bnd, if_neg (by decide), if_pos]
              have : ¬ Int32.ofNat l < Int32.ofNat f := fun q => m ((on_lt (by omega) (by omega)).mp q)
              simp [e, g, this]
          · rw [if_neg g, bnd, if_pos rfl, if_neg (by simp [g])]
      have h8 : Int32.ofNat i * 8 + Int32.ofNat k = Int32.ofNat (8 * i + k) := by rw [show (8 : Int32) = Int32.ofNat 8 from rfl, on_mul, on_add, show i * 8 + k = 8 * i + k by omega]
      refine ⟨(Int32.ofNat (k + 1), am_u2 x2 (u + 8) (8 * i + k) (clr y i k)), ?_, c, rfl, fun o ho => (u2_row ho).trans (y2 o ho), fun j hj => ?_, fun m hm => ?_⟩
      · rw [h8, on_s]
        simp only [bnd]
        revert hc
        generalize (if Int32.ofNat i = Int32.ofNat k then some (0 : Int32) else (if y (12 + 15 * i) = 0 then (if (Int32.ofNat l - Int32.ofNat f) < 0 then some (0 : Int32) else some (1 : Int32)) else some (0 : Int32))) = P
        intro hc
        cases P with
        | none => rw [bnn] at hc; cases hc
        | some p =>
          rw [bnd] at hc
          rw [bnd, hc, bnd, st_on (by omega) (by omega), bnd]
      · show am_u2 x2 (u + 8) (8 * i + k) (clr y i k) (u + 8) (8 * i + j) = clr y i j
        by_cases e : j = k
        · rw [e, u2_eq]
        · rw [u2_nj (by omega)]; exact y3 j (by omega)
      · show am_u2 x2 (u + 8) (8 * i + k) (clr y i k) (u + 8) m = _
        rw [u2_nj (by omega)]; exact y4 m hm
    · right
      have : k = nH y := by omega
      rw [this, if_neg (lt_n (by omega))]
      exact ⟨_, rfl, y2, fun j hj => y3 j (by omega), y4⟩) (by omega)
  exact ⟨d, l1, l2⟩
theorem c_mw (hr : rh ρ a0 c0) (hu : tn u) (hT : TD σ u y) (hw : wv y) : ∃ τ, f_X9_measureWays (σ, ρ) u = some τ ∧ (∀ o, o ≠ u + 8 → τ o = σ o) ∧ ∀ i, i < nH y → ∀ j, j < nH y → τ (u + 8) (8 * i + j) = clr y i j := by
  have hH := (wv_H hw).2
  obtain ⟨d, l1, l2⟩ := lp_rule (body := f_X9_measureWays_b2 (σ, ρ) u) (nH y) (fun k (x : Int32 × sg) => x.1 = Int32.ofNat k ∧ (∀ o, o ≠ u + 8 → x.2 o = σ o) ∧ (∀ i, i < k → ∀ j, j < nH y → x.2 (u + 8) (8 * i + j) = clr y i j)) (fun (τ : sg) => (∀ o, o ≠ u + 8 → τ o = σ o) ∧ ∀ i, i < nH y → ∀ j, j < nH y → τ (u + 8) (8 * i + j) = clr y i j) (x := ((0 : Int32), σ)) ⟨rfl, fun _ _ => rfl, fun i hi => by omega⟩ (fun k x hk hx => by
    obtain ⟨x1, x2⟩ := x
    obtain ⟨y1, y2, y3⟩ := hx
    simp only at y1 y2 y3
    subst y1
    have h0 : x2 u 0 = Int32.ofNat (nH y) := by rw [y2 u (by omega)]; exact hT.1.1.trans (wv_H hw).1
    unfold f_X9_measureWays_b2
    simp only [h0]
    by_cases c : k < nH y
    · left
      obtain ⟨z', m1, m2, m3, m4⟩ := mw_in (S := x2) hr hu hT hw c y2
      rw [if_pos (lt_y c (by omega)), if_pos (show Int32.ofNat k < 8 from (on_lt (b := 8) (by omega) (by decide)).mpr (by omega)), m1, bnd, on_s]
      refine ⟨_, rfl, c, rfl, m2, fun i hi j hj => ?_⟩
      show z' (u + 8) (8 * i + j) = clr y i j
      by_cases e : i = k
      · rw [e]; exact m3 j hj
      · rw [m4 _ (by omega)]; exact y3 i (by omega) j hj
    · right
      have : k = nH y := by omega
      rw [this, if_neg (lt_n (by omega))]
      exact ⟨_, rfl, y2, fun i hi => y3 i (by omega)⟩) (by omega)
  refine ⟨d, ?_, l2⟩
  unfold f_X9_measureWays
  simp only
  rw [l1, bnd]
end UB
