section L0
theorem z_106 : (List.range 1023).all (fun k => decide (st_S0.1 106 k = 0)) = true := by decide +kernel
theorem z_9 : (List.range 80).all (fun k => decide (st_S0.1 9 k = -1)) = true := by decide +kernel
theorem z_12 : (List.range 400).all (fun k => decide (st_S0.1 14 k = 0) && (decide (st_S0.1 36 k = 0) && decide (st_S0.1 58 k = 0))) = true := by decide +kernel
theorem z_cells : (st_S0.1 2 0 = 0 ∧ st_S0.1 2 1 = 0 ∧ st_S0.1 2 2 = 0 ∧ st_S0.1 2 3 = 0 ∧ st_S0.1 2 4 = 0 ∧ st_S0.1 2 5 = 0) ∧ st_S0.1 17 0 = 0 ∧ st_S0.1 11 0 = -1 ∧ st_S0.1 0 1 = 0 ∧ st_S0.1 105 6 = 0 ∧ st_S0.1 0 2 = st_S0.1 105 11 ∧ st_S0.1 0 6 = 0 ∧ st_S0.1 105 4 = 0 := by decide +kernel
theorem all_r {n : Nat} {q : Nat → Bool} (h : (List.range n).all q = true) {k : Nat} (hk : k < n) : q k = true := List.all_eq_true.mp h k (List.mem_range.mpr hk)
theorem inv_0 : Inv st_S0 := by
  obtain ⟨⟨c0, c1, c2, c3, c4, c5⟩, c17, c11, c01, c6, cf, c06, c054⟩ := z_cells
  have n0 : nH (fun _ => 0) = 0 := by decide
  have n1 : nW (fun _ => 0) = 0 := by decide
  have n2 : nR (fun _ => 0) = 0 := by decide
  refine ⟨2, 24, fun _ => 0, fun _ => 0, ⟨fun _ _ _ _ => rfl, Or.inl ⟨rfl, rfl⟩, by decide +kernel, by decide +kernel⟩, fun k hk => of_decide_eq_true (all_r z_106 hk), ⟨⟨by rw [n0]; rfl, by rw [n0]; decide⟩, ⟨by rw [n1]; rfl, by rw [n1]; decide⟩, ⟨by rw [n2]; rfl, by rw [n2]; decide⟩, fun h hh => ?_, fun h hh => ?_, fun v hv => ?_, ⟨9, by decide, by decide⟩, ⟨9, by decide, by decide⟩, fun r hr => ?_, ⟨0, by decide, rfl⟩⟩, ⟨⟨c0, c1, c2, c3, c4, c5⟩, fun h hh => ?_, fun v hv => ?_, fun h hh v hv => ?_, fun i hi => ?_, ⟨c17, fun r hr => ?_⟩, Or.inl ⟨rfl, c11⟩⟩, ⟨0, by decide, c01, c6, fun k hk => by omega⟩, cf, ⟨c06.trans c054.symm, Or.inl c06⟩, fun b hb i hi => ?_⟩
  · rw [n0] at hh; omega
  · rw [n0] at hh; omega
  · rw [n1] at hv; omega
  · rw [n2] at hr; omega
  · rw [n0] at hh; omega
  · rw [n1] at hv; omega
  · rw [if_neg (by rw [n0]; omega)]
    exact of_decide_eq_true (all_r z_9 (show 10 * h + v < 80 by omega))
  · rw [n0] at hi; omega
  · rw [n2] at hr; omega
  · have := all_r z_12 hi
    simp only [Bool.and_eq_true, decide_eq_true_eq] at this
    rcases hb with rfl | rfl | rfl
    · show (st_S0.1 14 i).toInt16.toInt32 = st_S0.1 14 i
      rw [this.1]; decide
    · show (st_S0.1 36 i).toInt16.toInt32 = st_S0.1 36 i
      rw [this.2.1]; decide
    · show (st_S0.1 58 i).toInt16.toInt32 = st_S0.1 58 i
      rw [this.2.2]; decide
theorem pure_of (hT : ∀ E : am_E, tlH E) : ∀ E : am_E, E.2.2.2.2.2.1 ≤ 3072 → f_law E 513 st_S0 0 = some () := fun E hE => law_ok (hT E) hE 513 0 st_S0 rfl (Nat.zero_le _) inv_0
end L0
