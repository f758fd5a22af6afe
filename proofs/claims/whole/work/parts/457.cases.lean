section CS
theorem lg_rf (x : Int64) : lg_cmp x x = 0 := by
  unfold lg_cmp
  simp
theorem ld_122 {σ : sg} : am_ld σ 122 0 = some (σ 122 0) := ld_on (k := 0) (by decide) (by decide)
theorem st_122 {σ : sg} {v : Int32} : am_st σ 122 0 v = some (am_u2 σ 122 0 v) := st_on (k := 0) (by decide) (by decide)
theorem cs_I {tab : List (Nat × Int32)} {C : Option am_R} {M : am_S → Option (Int32 × sg)} (h : Rs tab C M) : ∃ S', am_xI (am_ctI C (fun v1 S1 => ((am_st S1.1 122 0 v1).bind (fun σ2 => some (.inl (some (.int 0)), (σ2, S1.2))))) tab) (fun v1 S1 => ((M S1).bind (fun y2 => ((f_X12_thrown (y2.2, S1.2) 105).bind (fun v3 => (if v3 = v1 then (if v1 = 0 then ((am_ld y2.2 122 0).bind (fun v6 => (if (lg_cmp (v6).toInt64 (y2.1).toInt64) = 0 then some (y2.2, S1.2) else none))) else some (y2.2, S1.2)) else none)))))) = some S' ∧ Inv S' := by
  obtain ⟨o, S1, hC, h⟩ := h
  rw [hC]
  rcases h with ⟨r, σ2, rfl, hM, h0, h1, hI⟩ | ⟨k, b, c, σ2, rfl, hl, hc, hM, h0, hI⟩
  · refine ⟨(σ2, S1.2), ?_, hI⟩
    show am_xI ((am_st S1.1 122 0 r).bind (fun σ2 => some (.inl (some (.int 0)), (σ2, S1.2)))) _ = _
    rw [st_122, bnd]
    show (M (am_u2 S1.1 122 0 r, S1.2)).bind _ = _
    rw [hM, bnd]
    show (some (σ2 105 0)).bind _ = _
    rw [bnd, h0, if_pos rfl, if_pos rfl]
    show (am_ld σ2 122 0).bind _ = _
    rw [ld_122, bnd, h1, lg_rf, if_pos rfl]
  · refine ⟨(σ2, S1.2), ?_, hI⟩
    have e : am_ctI (some ((.inr k, S1) : am_R)) (fun v1 S1 => ((am_st S1.1 122 0 v1).bind (fun σ2 => some (.inl (some (.int 0)), (σ2, S1.2))))) tab = some (.inl (some (.int c)), S1) := by
      show (tab.lookup k).map _ = _
      rw [hl]
      rfl
    rw [e]
    show (M S1).bind _ = _
    rw [hM, bnd]
    show (some (σ2 105 0)).bind _ = _
    rw [bnd, h0, if_pos rfl, if_neg hc]
theorem cs_P {C : Option (Int32 × sg)} {ρ : rg} {M : am_S → Option (Int32 × sg)} (h : Rp C ρ M) : ∃ S', (C.bind (fun y1 => ((M (y1.2, ρ)).bind (fun y2 => (if y1.1 = y2.1 then some (y2.2, ρ) else none))))) = some S' ∧ Inv S' := by
  obtain ⟨r, σ1, σ2, h1, h2, h3⟩ := h
  refine ⟨(σ2, ρ), ?_, h3⟩
  rw [h1, bnd]
  show (M (σ1, ρ)).bind _ = _
  rw [h2, bnd, if_pos rfl]
variable {E : am_E} {σ : sg} {ρ : rg} {t u : Nat} {w wi : wg} {i v1 v2 v3 v4 v5 : Int32}
theorem bl_i {v : Int32} : (if v = 0 then some (0 : Int32) else some 1) = some (bi (!decide (v = 0))) := by
  by_cases h : v = 0 <;> simp [h, bi]
theorem k_5 (I : Iv σ ρ t u w wi) (a1 : am_sx E (i + 1) = some v1) (a2 : am_sx E (i + 2) = some v2) : ∃ S', f_case_5 E (σ, ρ) i = some S' ∧ Inv S' := by
  unfold f_case_5 f_L_house
  simp only [a1, a2, bnd]
  exact cs_I (Rs_q I (q_house I v1 v2))
theorem k_6 (I : Iv σ ρ t u w wi) (a1 : am_sx E (i + 1) = some v1) : ∃ S', f_case_6 E (σ, ρ) i = some S' ∧ Inv S' := by
  unfold f_case_6 f_L_want
  simp only [a1, bnd]
  exact cs_I (Rs_q I (q_want I v1))
theorem k_7 (I : Iv σ ρ t u w wi) (a1 : am_sx E (i + 1) = some v1) (a2 : am_sx E (i + 2) = some v2) : ∃ S', f_case_7 E (σ, ρ) i = some S' ∧ Inv S' := by
  unfold f_case_7 f_L_code
  simp only [a1, a2, bnd]
  exact cs_I (Rs_q I (q_code I v1 v2))
theorem k_8 (I : Iv σ ρ t u w wi) (a1 : am_sx E (i + 1) = some v1) : ∃ S', f_case_8 E (σ, ρ) i = some S' ∧ Inv S' := by
  unfold f_case_8 f_L_cost
  simp only [a1, bnd]
  exact cs_I (Rs_q I (q_cost I v1))
theorem k_9 (I : Iv σ ρ t u w wi) (a1 : am_sx E (i + 1) = some v1) (a2 : am_sx E (i + 2) = some v2) (a3 : am_sx E (i + 3) = some v3) : ∃ S', f_case_9 E (σ, ρ) i = some S' ∧ Inv S' := by
  unfold f_case_9 f_L_way
  simp only [a1, a2, a3, bnd]
  exact cs_I (Rs_q I (q_way I v1 v2 v3))
theorem k_10 (I : Iv σ ρ t u w wi) (a1 : am_sx E (i + 1) = some v1) (a2 : am_sx E (i + 2) = some v2) (a3 : am_sx E (i + 3) = some v3) : ∃ S', f_case_10 E (σ, ρ) i = some S' ∧ Inv S' := by
  unfold f_case_10 f_L_ring
  simp only [a1, a2, a3, bnd]
  exact cs_I (q_ring I v1 v2 v3)
theorem k_13 (I : Iv σ ρ t u w wi) (a1 : am_sx E (i + 1) = some v1) (a2 : am_sx E (i + 2) = some v2) : ∃ S', f_case_13 E (σ, ρ) i = some S' ∧ Inv S' := by
  unfold f_case_13 f_L_heard
  simp only [a1, a2, bnd]
  exact cs_I (Rs_q I (q_heard I v1 v2))
theorem k_14 (I : Iv σ ρ t u w wi) (a1 : am_sx E (i + 1) = some v1) (a2 : am_sx E (i + 2) = some v2) : ∃ S', f_case_14 E (σ, ρ) i = some S' ∧ Inv S' := by
  unfold f_case_14 f_L_taken
  simp only [a1, a2, bnd]
  exact cs_I (Rs_q I (q_taken I v1 v2))
theorem k_16 (I : Iv σ ρ t u w wi) (a1 : am_sx E (i + 1) = some v1) : ∃ S', f_case_16 E (σ, ρ) i = some S' ∧ Inv S' := by
  unfold f_case_16 f_L_begins
  simp only [a1, bnd]
  exact cs_I (Rs_q I (q_begins I v1))
theorem k_18 (I : Iv σ ρ t u w wi) (a1 : am_sx E (i + 1) = some v1) (a2 : am_sx E (i + 2) = some v2) (a3 : am_sx E (i + 3) = some v3) : ∃ S', f_case_18 E (σ, ρ) i = some S' ∧ Inv S' := by
  unfold f_case_18 f_L_buy
  simp only [a1, a2, a3, bnd]
  exact cs_I (q_buy I v1 v2 v3)
theorem k_21 (I : Iv σ ρ t u w wi) (a1 : am_sx E (i + 1) = some v1) : ∃ S', f_case_21 E (σ, ρ) i = some S' ∧ Inv S' := by
  unfold f_case_21 f_L_colours
  simp only [a1, bnd]
  exact cs_I (Rs_q I (q_colours I v1))
theorem k_22 (I : Iv σ ρ t u w wi) (a1 : am_sx E (i + 1) = some v1) (a2 : am_sx E (i + 2) = some v2) (a3 : am_sx E (i + 3) = some v3) : ∃ S', f_case_22 E (σ, ρ) i = some S' ∧ Inv S' := by
  unfold f_case_22 f_L_relay
  simp only [a1, a2, a3, bnd]
  exact cs_I (Rs_q I (q_relay I v1 v2 v3))
theorem k_23 (I : Iv σ ρ t u w wi) (a1 : am_sx E (i + 1) = some v1) (a2 : am_sx E (i + 2) = some v2) : ∃ S', f_case_23 E (σ, ρ) i = some S' ∧ Inv S' := by
  unfold f_case_23 f_L_ringers
  simp only [a1, a2, bnd]
  exact cs_I (Rs_q I (q_ringers I v1 v2))
theorem k_24 (I : Iv σ ρ t u w wi) (a1 : am_sx E (i + 1) = some v1) (a2 : am_sx E (i + 2) = some v2) : ∃ S', f_case_24 E (σ, ρ) i = some S' ∧ Inv S' := by
  unfold f_case_24 f_L_six
  simp only [a1, a2, bnd]
  exact cs_I (Rs_q I (q_six I v1 v2))
theorem k_25 (I : Iv σ ρ t u w wi) (a1 : am_sx E (i + 1) = some v1) (a2 : am_sx E (i + 2) = some v2) (a3 : am_sx E (i + 3) = some v3) : ∃ S', f_case_25 E (σ, ρ) i = some S' ∧ Inv S' := by
  unfold f_case_25 f_L_lot
  simp only [a1, a2, a3, bnd]
  exact cs_I (Rs_q I (q_lot I v1 v2 v3))
theorem k_27 (I : Iv σ ρ t u w wi) (a1 : am_sx E (i + 1) = some v1) : ∃ S', f_case_27 E (σ, ρ) i = some S' ∧ Inv S' := by
  unfold f_case_27 f_L_learn
  simp only [a1, bnd]
  exact cs_I (q_learn I v1)
theorem k_28 (I : Iv σ ρ t u w wi) (a1 : am_sx E (i + 1) = some v1) (a2 : am_sx E (i + 2) = some v2) (a3 : am_sx E (i + 3) = some v3) : ∃ S', f_case_28 E (σ, ρ) i = some S' ∧ Inv S' := by
  unfold f_case_28 f_L_fooled
  simp only [a1, a2, a3, bnd]
  exact cs_I (Rs_q I (q_fooled I v1 v2 v3))
theorem k_29 (I : Iv σ ρ t u w wi) (a1 : am_sx E (i + 1) = some v1) (a2 : am_sx E (i + 2) = some v2) : ∃ S', f_case_29 E (σ, ρ) i = some S' ∧ Inv S' := by
  unfold f_case_29 f_L_could
  simp only [a1, a2, bnd]
  exact cs_I (Rs_q I (q_could I v1 v2))
theorem k_30 (I : Iv σ ρ t u w wi) (a1 : am_sx E (i + 1) = some v1) : ∃ S', f_case_30 E (σ, ρ) i = some S' ∧ Inv S' := by
  unfold f_case_30 f_L_understood
  simp only [a1, bnd]
  exact cs_I (Rs_q I (q_understood I v1))
theorem k_31 (I : Iv σ ρ t u w wi) (a1 : am_sx E (i + 1) = some v1) (a2 : am_sx E (i + 2) = some v2) (a3 : am_sx E (i + 3) = some v3) (a4 : am_sx E (i + 4) = some v4) : ∃ S', f_case_31 E (σ, ρ) i = some S' ∧ Inv S' := by
  unfold f_case_31 f_L_quiet
  simp only [a1, a2, a3, a4, bnd]
  exact cs_I (q_quiet I v1 v2 v3 v4)
theorem k_32 (I : Iv σ ρ t u w wi) (a1 : am_sx E (i + 1) = some v1) (a2 : am_sx E (i + 2) = some v2) (a3 : am_sx E (i + 3) = some v3) : ∃ S', f_case_32 E (σ, ρ) i = some S' ∧ Inv S' := by
  unfold f_case_32 f_L_worth
  simp only [a1, a2, a3, bnd]
  exact cs_I (Rs_q I (q_worth I v1 v2 v3))
theorem k_34 (I : Iv σ ρ t u w wi) (a1 : am_sx E (i + 1) = some v1) (a2 : am_sx E (i + 2) = some v2) (a3 : am_sx E (i + 3) = some v3) : ∃ S', f_case_34 E (σ, ρ) i = some S' ∧ Inv S' := by
  unfold f_case_34 f_L_evening
  simp only [a1, a2, a3, bnd]
  exact cs_I (Rs_q I (q_evening I v1 v2 v3))
theorem k_15 (I : Iv σ ρ t u w wi) (a1 : am_sx E (i + 1) = some v1) (a2 : am_sx E (i + 2) = some v2) : ∃ S', f_case_15 E (σ, ρ) i = some S' ∧ Inv S' := by
  unfold f_case_15 f_L_sure
  simp only [a1, a2, bnd, bl_i]
  exact cs_I (Rs_q I (q_sure I v1 (!decide (v2 = 0))))
theorem k_26 (I : Iv σ ρ t u w wi) (a1 : am_sx E (i + 1) = some v1) (a2 : am_sx E (i + 2) = some v2) (a3 : am_sx E (i + 3) = some v3) : ∃ S', f_case_26 E (σ, ρ) i = some S' ∧ Inv S' := by
  unfold f_case_26 f_L_room
  simp only [a1, a2, a3, bnd, bl_i]
  exact cs_I (Rs_q I (q_room I v1 v2 (!decide (v3 = 0))))
theorem k_33 (I : Iv σ ρ t u w wi) (a1 : am_sx E (i + 1) = some v1) (a2 : am_sx E (i + 2) = some v2) (a3 : am_sx E (i + 3) = some v3) : ∃ S', f_case_33 E (σ, ρ) i = some S' ∧ Inv S' := by
  unfold f_case_33 f_L_sale
  simp only [a1, a2, a3, bnd, bl_i]
  exact cs_I (Rs_q I (q_sale I v1 v2 (bi (!decide (v3 = 0)))))
theorem k_0 (I : Iv σ ρ t u w wi) (a1 : am_sx E (i + 1) = some v1) (a2 : am_sx E (i + 2) = some v2) (a3 : am_sx E (i + 3) = some v3) (a4 : am_sx E (i + 4) = some v4) (a5 : am_sx E (i + 5) = some v5) : ∃ S', f_case_0 E (σ, ρ) i = some S' ∧ Inv S' := by
  unfold f_case_0
  simp only [a1, a2, a3, a4, a5, bnd]
  exact cs_P (q_feed I v1 v2 v3 v4 v5)
theorem k_1 (I : Iv σ ρ t u w wi) (a1 : am_sx E (i + 1) = some v1) : ∃ S', f_case_1 E (σ, ρ) i = some S' ∧ Inv S' := by
  unfold f_case_1
  simp only [a1, bnd]
  exact cs_P (q_end I v1)
theorem k_20 (I : Iv σ ρ t u w wi) (a1 : am_sx E (i + 1) = some v1) : ∃ S', f_case_20 E (σ, ρ) i = some S' ∧ Inv S' := by
  unfold f_case_20
  simp only [a1, bnd]
  exact cs_P (q_least I v1)
theorem k_11 (I : Iv σ ρ t u w wi) : ∃ S', f_case_11 E (σ, ρ) i = some S' ∧ Inv S' := by
  unfold f_case_11
  exact cs_P (q_hush I)
theorem k_12 (I : Iv σ ρ t u w wi) : ∃ S', f_case_12 E (σ, ρ) i = some S' ∧ Inv S' := by
  unfold f_case_12
  exact cs_P (q_undo I)
theorem k_36 (I : Iv σ ρ t u w wi) : ∃ S', f_case_36 E (σ, ρ) i = some S' ∧ Inv S' := by
  obtain ⟨r, σ1, σ2, h1, h2, h3⟩ := q_back I
  have h2' : f_X12_back (σ1, ρ) 105 = some (r, σ2) := h2
  refine ⟨(σ2, ρ), ?_, h3⟩
  unfold f_case_36
  rw [h1, bnd]
  simp only
  rw [h2', bnd, if_pos rfl]
theorem k_4 (I : Iv σ ρ t u w wi) : ∃ S', f_case_4 E (σ, ρ) i = some S' ∧ Inv S' := by
  obtain ⟨v, σ2, h1, h2, h3⟩ := q_fault I
  unfold f_case_4
  rw [h1, bnd, h2, bnd, if_pos rfl]
  exact ⟨_, rfl, h3⟩
theorem k_19 (I : Iv σ ρ t u w wi) (a1 : am_sx E (i + 1) = some v1) (a2 : am_sx E (i + 2) = some v2) (a3 : am_sx E (i + 3) = some v3) : ∃ S', f_case_19 E (σ, ρ) i = some S' ∧ Inv S' := by
  obtain ⟨o, S1, σ2, h1, h2, h3, h4⟩ := q_trade I v1 v2 v3
  have h2' : f_X12_trade S1 105 v1 v2 v3 = some σ2 := h2
  unfold f_case_19 f_L_trade
  simp only [a1, a2, a3, bnd, h1]
  rcases h4 with ⟨rfl, h5⟩ | ⟨k, c, rfl, hl, h5⟩
  · refine ⟨(σ2, S1.2), ?_, h3⟩
    show (f_X12_trade S1 105 v1 v2 v3).bind _ = _
    rw [h2', bnd]
    show (some (σ2 105 0)).bind _ = _
    rw [bnd, h5, if_pos rfl]
  · refine ⟨(σ2, S1.2), ?_, h3⟩
    have e : am_ctV (some ((.inr k, S1) : am_R)) (fun S1 => some (.inl (some (.int 0)), S1)) [(0, 1), (1, 2)] = some (.inl (some (.int c)), S1) := by
      show (([(0, 1), (1, 2)] : List (Nat × Int32)).lookup k).map _ = _
      rw [hl]
      rfl
    rw [e]
    show (f_X12_trade S1 105 v1 v2 v3).bind _ = _
    rw [h2', bnd]
    show (some (σ2 105 0)).bind _ = _
    rw [bnd, h5, if_pos rfl]
theorem k_17 (I : Iv σ ρ t u w wi) (a1 : am_sx E (i + 1) = some v1) (a2 : am_sx E (i + 2) = some v2) : ∃ S', f_case_17 E (σ, ρ) i = some S' ∧ Inv S' := by
  obtain ⟨o, σ1, h1, h2, h3⟩ := q_safe I v1 v2
  have I1 := Iv_ag I h2
  have key : ∀ r : Int32, ∃ b σ2, f_X12_safe (am_u2 σ1 122 0 r, ρ) 105 v1 v2 = some (b, σ2) ∧ σ2 122 0 = r ∧ Inv (σ2, ρ) ∧ ((o = .inl (some (.int b)) ∧ σ2 105 0 = 0) ∨ (∃ k c, o = .inr k ∧ ([(0, 1), (1, 2)] : List (Nat × Int32)).lookup k = some c ∧ c ≠ 0 ∧ σ2 105 0 = c)) := fun r => by
    obtain ⟨b, σ2, g1, g2, g3⟩ := h3 (am_u2 σ1 122 0 r) (Iv_w (Iv_ag I1 ag_122))
    exact ⟨b, σ2, g1, by rw [g2.2]; exact u2_eq, ⟨t, u, w, wi, Iv_ag (Iv_ag I1 ag_122) g2.1⟩, g3⟩
  obtain ⟨b0, σ0, g01, g02, g03⟩ := h3 σ1 (Iv_w I1)
  have g01' : f_X12_safe (σ1, ρ) 105 v1 v2 = some (b0, σ0) := g01
  unfold f_case_17 f_L_safe
  simp only [a1, a2, bnd, h1]
  rcases g03 with ⟨rfl, -⟩ | ⟨k, c, rfl, hl, hc, h0⟩
  · obtain ⟨b, σ2, g1, g2, g3, g4⟩ := key (if b0 = 0 then 0 else 1)
    have hb : b = b0 ∧ σ2 105 0 = 0 := by
      rcases g4 with ⟨e, e0⟩ | ⟨k, c, e, _⟩
      · cases e; exact ⟨rfl, e0⟩
      · cases e
    obtain ⟨rfl, h0⟩ := hb
    refine ⟨(σ2, ρ), ?_, g3⟩
    by_cases z : b = 0
    · rw [if_pos z] at g1 g2
      have e : am_ctI (some ((.inl (some (.int b)), (σ1, ρ)) : am_R)) (fun v1 S1 => (if v1 = 0 then ((am_st S1.1 122 0 (0 : Int32)).bind (fun σ3 => some (.inl (some (.int 0)), (σ3, S1.2)))) else ((am_st S1.1 122 0 (1 : Int32)).bind (fun σ4 => some (.inl (some (.int 0)), (σ4, S1.2)))))) [(0, 1), (1, 2)] = some (.inl (some (.int 0)), (am_u2 σ1 122 0 0, ρ)) := by
        show (if b = 0 then ((am_st σ1 122 0 (0 : Int32)).bind (fun σ3 => (some (.inl (some (.int 0)), (σ3, ρ)) : Option am_R))) else ((am_st σ1 122 0 (1 : Int32)).bind (fun σ4 => (some (.inl (some (.int 0)), (σ4, ρ)) : Option am_R)))) = _
        rw [if_pos z, st_122, bnd]
      rw [e]
      show (f_X12_safe (am_u2 σ1 122 0 0, ρ) 105 v1 v2).bind _ = _
      rw [g1, bnd]
      show (some (σ2 105 0)).bind _ = _
      rw [bnd, h0, if_pos rfl, if_pos rfl]
      show (am_ld σ2 122 0).bind _ = _
      rw [ld_122, bnd, if_pos z, g2, lg_rf, if_pos rfl]
    · rw [if_neg z] at g1 g2
      have e : am_ctI (some ((.inl (some (.int b)), (σ1, ρ)) : am_R)) (fun v1 S1 => (if v1 = 0 then ((am_st S1.1 122 0 (0 : Int32)).bind (fun σ3 => some (.inl (some (.int 0)), (σ3, S1.2)))) else ((am_st S1.1 122 0 (1 : Int32)).bind (fun σ4 => some (.inl (some (.int 0)), (σ4, S1.2)))))) [(0, 1), (1, 2)] = some (.inl (some (.int 0)), (am_u2 σ1 122 0 1, ρ)) := by
        show (if b = 0 then ((am_st σ1 122 0 (0 : Int32)).bind (fun σ3 => (some (.inl (some (.int 0)), (σ3, ρ)) : Option am_R))) else ((am_st σ1 122 0 (1 : Int32)).bind (fun σ4 => (some (.inl (some (.int 0)), (σ4, ρ)) : Option am_R)))) = _
        rw [if_neg z, st_122, bnd]
      rw [e]
      show (f_X12_safe (am_u2 σ1 122 0 1, ρ) 105 v1 v2).bind _ = _
      rw [g1, bnd]
      show (some (σ2 105 0)).bind _ = _
      rw [bnd, h0, if_pos rfl, if_pos rfl]
      show (am_ld σ2 122 0).bind _ = _
      rw [ld_122, bnd, if_neg z, g2, lg_rf, if_pos rfl]
  · refine ⟨(σ0, ρ), ?_, ⟨t, u, w, wi, Iv_ag I1 g02.1⟩⟩
    have e : am_ctI (some ((.inr k, (σ1, ρ)) : am_R)) (fun v1 S1 => (if v1 = 0 then ((am_st S1.1 122 0 (0 : Int32)).bind (fun σ3 => some (.inl (some (.int 0)), (σ3, S1.2)))) else ((am_st S1.1 122 0 (1 : Int32)).bind (fun σ4 => some (.inl (some (.int 0)), (σ4, S1.2)))))) [(0, 1), (1, 2)] = some (.inl (some (.int c)), (σ1, ρ)) := by
      show (([(0, 1), (1, 2)] : List (Nat × Int32)).lookup k).map _ = _
      rw [hl]
      rfl
    rw [e]
    show (f_X12_safe (σ1, ρ) 105 v1 v2).bind _ = _
    rw [g01', bnd]
    show (some (σ0 105 0)).bind _ = _
    rw [bnd, h0, if_pos rfl, if_neg hc]
theorem k_37 (I : Iv σ ρ t u w wi) (a1 : am_sx E (i + 1) = some v1) : ∃ S', f_case_37 E (σ, ρ) i = some S' ∧ Inv S' := by
  obtain ⟨v, σ2, h1, h2, h3⟩ := q_count I v1
  unfold f_case_37
  rw [a1, bnd, h1, bnd, bnd, h2, bnd, if_pos rfl]
  exact ⟨_, rfl, h3⟩
theorem k_35 (I : Iv σ ρ t u w wi) : ∃ S', f_case_35 E (σ, ρ) i = some S' ∧ Inv S' := by
  obtain ⟨σ1, σ2, h1, h2, h3⟩ := q_image I
  unfold f_case_35
  simp only [h1, bnd, h2]
  exact ⟨_, rfl, h3⟩
end CS
