section LL
variable {E : am_E}
def tlH (E : am_E) : Prop := ∀ (S : am_S) (i : Int32), Inv S → (∃ S', f_case_2 E S i = some S' ∧ Inv S') ∧ (∃ S', f_case_3 E S i = some S' ∧ Inv S')
theorem sw_ok (hT : tlH E) {S : am_S} {i x v1 v2 v3 v4 v5 : Int32} (hI : Inv S) (a1 : am_sx E (i + 1) = some v1) (a2 : am_sx E (i + 2) = some v2) (a3 : am_sx E (i + 3) = some v3) (a4 : am_sx E (i + 4) = some v4) (a5 : am_sx E (i + 5) = some v5) : ∃ S', f_law_sw E S i x = some S' ∧ Inv S' := by
  obtain ⟨σ, ρ⟩ := S
  have hI' := hI
  obtain ⟨t, u, w, wi, I⟩ := hI
  unfold f_law_sw
  by_cases h0 : x = 0
  · rw [if_pos h0]; exact k_0 I a1 a2 a3 a4 a5
  rw [if_neg h0]
  by_cases h1 : x = 1
  · rw [if_pos h1]; exact k_1 I a1
  rw [if_neg h1]
  by_cases h2 : x = 2
  · rw [if_pos h2]; exact (hT (σ, ρ) i hI').1
  rw [if_neg h2]
  by_cases h3 : x = 3
  · rw [if_pos h3]; exact (hT (σ, ρ) i hI').2
  rw [if_neg h3]
  by_cases h4 : x = 4
  · rw [if_pos h4]; exact k_4 I 
  rw [if_neg h4]
  by_cases h5 : x = 5
  · rw [if_pos h5]; exact k_5 I a1 a2
  rw [if_neg h5]
  by_cases h6 : x = 6
  · rw [if_pos h6]; exact k_6 I a1
  rw [if_neg h6]
  by_cases h7 : x = 7
  · rw [if_pos h7]; exact k_7 I a1 a2
  rw [if_neg h7]
  by_cases h8 : x = 8
  · rw [if_pos h8]; exact k_8 I a1
  rw [if_neg h8]
  by_cases h9 : x = 9
  · rw [if_pos h9]; exact k_9 I a1 a2 a3
  rw [if_neg h9]
  by_cases h10 : x = 10
  · rw [if_pos h10]; exact k_10 I a1 a2 a3
  rw [if_neg h10]
  by_cases h11 : x = 11
  · rw [if_pos h11]; exact k_11 I 
  rw [if_neg h11]
  by_cases h12 : x = 12
  · rw [if_pos h12]; exact k_12 I 
  rw [if_neg h12]
  by_cases h13 : x = 13
  · rw [if_pos h13]; exact k_13 I a1 a2
  rw [if_neg h13]
  by_cases h14 : x = 14
  · rw [if_pos h14]; exact k_14 I a1 a2
  rw [if_neg h14]
  by_cases h15 : x = 15
  · rw [if_pos h15]; exact k_15 I a1 a2
  rw [if_neg h15]
  by_cases h16 : x = 16
  · rw [if_pos h16]; exact k_16 I a1
  rw [if_neg h16]
  by_cases h17 : x = 17
  · rw [if_pos h17]; exact k_17 I a1 a2
  rw [if_neg h17]
  by_cases h18 : x = 18
  · rw [if_pos h18]; exact k_18 I a1 a2 a3
  rw [if_neg h18]
  by_cases h19 : x = 19
  · rw [if_pos h19]; exact k_19 I a1 a2 a3
  rw [if_neg h19]
  by_cases h20 : x = 20
  · rw [if_pos h20]; exact k_20 I a1
  rw [if_neg h20]
  by_cases h21 : x = 21
  · rw [if_pos h21]; exact k_21 I a1
  rw [if_neg h21]
  by_cases h22 : x = 22
  · rw [if_pos h22]; exact k_22 I a1 a2 a3
  rw [if_neg h22]
  by_cases h23 : x = 23
  · rw [if_pos h23]; exact k_23 I a1 a2
  rw [if_neg h23]
  by_cases h24 : x = 24
  · rw [if_pos h24]; exact k_24 I a1 a2
  rw [if_neg h24]
  by_cases h25 : x = 25
  · rw [if_pos h25]; exact k_25 I a1 a2 a3
  rw [if_neg h25]
  by_cases h26 : x = 26
  · rw [if_pos h26]; exact k_26 I a1 a2 a3
  rw [if_neg h26]
  by_cases h27 : x = 27
  · rw [if_pos h27]; exact k_27 I a1
  rw [if_neg h27]
  by_cases h28 : x = 28
  · rw [if_pos h28]; exact k_28 I a1 a2 a3
  rw [if_neg h28]
  by_cases h29 : x = 29
  · rw [if_pos h29]; exact k_29 I a1 a2
  rw [if_neg h29]
  by_cases h30 : x = 30
  · rw [if_pos h30]; exact k_30 I a1
  rw [if_neg h30]
  by_cases h31 : x = 31
  · rw [if_pos h31]; exact k_31 I a1 a2 a3 a4
  rw [if_neg h31]
  by_cases h32 : x = 32
  · rw [if_pos h32]; exact k_32 I a1 a2 a3
  rw [if_neg h32]
  by_cases h33 : x = 33
  · rw [if_pos h33]; exact k_33 I a1 a2 a3
  rw [if_neg h33]
  by_cases h34 : x = 34
  · rw [if_pos h34]; exact k_34 I a1 a2 a3
  rw [if_neg h34]
  by_cases h35 : x = 35
  · rw [if_pos h35]; exact k_35 I 
  rw [if_neg h35]
  by_cases h36 : x = 36
  · rw [if_pos h36]; exact k_36 I 
  rw [if_neg h36]
  by_cases h37 : x = 37
  · rw [if_pos h37]; exact k_37 I a1
  rw [if_neg h37]
  exact ⟨_, rfl, hI'⟩
theorem sx_on {k : Nat} (h : k < E.2.2.2.2.2.1) (h2 : k < 2147483648) : am_sx E (Int32.ofNat k) = some (E.2.2.2.2.2.2 k) := by
  unfold am_sx
  rw [on_cl h2, if_neg]
  rintro (z | z)
  · exact on_neg h2 z
  · omega
theorem law_ok (hT : tlH E) (hE : E.2.2.2.2.2.1 ≤ 3072) : ∀ n k S, n + k = 513 → 6 * k ≤ E.2.2.2.2.2.1 → Inv S → f_law E n S (Int32.ofNat (6 * k)) = some ()
  | 0, k, S, h, hk, _ => by omega
  | n + 1, k, S, h, hk, hI => by
    show (if Int32.ofNat E.2.2.2.2.2.1 - 6 < Int32.ofNat (6 * k) then some () else (am_sx E (Int32.ofNat (6 * k))).bind (fun v => (f_law_sw E S (Int32.ofNat (6 * k)) (v &&& 63)).bind (fun S' => f_law E n S' (Int32.ofNat (6 * k) + 6)))) = some ()
    by_cases e : E.2.2.2.2.2.1 - 6 < 6 * k ∨ E.2.2.2.2.2.1 < 6
    · rw [if_pos]
      by_cases z : E.2.2.2.2.2.1 < 6
      · have hk0 : k = 0 := by omega
        subst hk0
        have : E.2.2.2.2.2.1 = 0 ∨ E.2.2.2.2.2.1 = 1 ∨ E.2.2.2.2.2.1 = 2 ∨ E.2.2.2.2.2.1 = 3 ∨ E.2.2.2.2.2.1 = 4 ∨ E.2.2.2.2.2.1 = 5 := by omega
        rcases this with q | q | q | q | q | q <;> rw [q] <;> decide
      · rw [show (6 : Int32) = Int32.ofNat 6 from rfl, on_sub (by omega)]
        exact lt_y (by omega) (by omega)
    · have e1 : ¬ E.2.2.2.2.2.1 - 6 < 6 * k := fun q => e (Or.inl q)
      have e2 : ¬ E.2.2.2.2.2.1 < 6 := fun q => e (Or.inr q)
      have hs : ∀ j, j < 6 → am_sx E (Int32.ofNat (6 * k) + Int32.ofNat j) = some (E.2.2.2.2.2.2 (6 * k + j)) := fun j hj => by
        rw [on_add]; exact sx_on (by omega) (by omega)
      rw [if_neg (fun q => by
        rw [show (6 : Int32) = Int32.ofNat 6 from rfl, on_sub (by omega)] at q
        exact e1 ((on_lt (by omega) (by omega)).mp q)), sx_on (by omega) (by omega), bnd]
      obtain ⟨S', h1, h2⟩ := sw_ok hT hI (x := E.2.2.2.2.2.2 (6 * k) &&& 63) (hs 1 (by decide)) (hs 2 (by decide)) (hs 3 (by decide)) (hs 4 (by decide)) (hs 5 (by decide))
      rw [h1, bnd]
      have e6 : Int32.ofNat (6 * k) + 6 = Int32.ofNat (6 * (k + 1)) := by
        rw [show (6 : Int32) = Int32.ofNat 6 from rfl, on_add]
        congr 1
      rw [e6]
      exact law_ok hT hE n (k + 1) S' (by omega) (by omega) h2
end LL
