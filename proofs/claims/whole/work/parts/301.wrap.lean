theorem hd_L_town : ∀ k n, List.lookup k [(1, (1 : Int32)), (2, (2 : Int32))] = some n → am_Hd (RL, cL_town, 3, (some .int), [(0, 8, 11, 13), (0, 8, 14, 15)], am_rm 11 1 6) 3 k n := am_lkc (⟨[], ⟨0, 8, 11, 13⟩, [⟨0, 8, 14, 15⟩], 2, 1, 1, rfl, (fun _ h => nomatch h), by decide, by decide, am_G_t (i := 537) (by decide +kernel) rfl, am_nw_t (i := 671) (by decide +kernel) rfl, by decide, Or.inr ⟨2, dL_town_11, rfl, rfl⟩, by decide, dL_town_12, rfl, dL_town_13, rfl⟩) (am_lkc (⟨[⟨0, 8, 11, 13⟩], ⟨0, 8, 14, 15⟩, [], 2, 1, 2, rfl, (List.forall_mem_cons.mpr ⟨⟨by decide, 1, by decide, by decide, am_G_t (i := 537) (by decide +kernel) rfl⟩, (fun _ h => nomatch h)⟩), by decide, by decide, am_G_t (i := 538) (by decide +kernel) rfl, am_nw_t (i := 739) (by decide +kernel) rfl, by decide, Or.inr ⟨2, dL_town_14, rfl, rfl⟩, by decide, dL_town_15, rfl, dL_town_16, rfl⟩) (am_lk0))
def f_L_town (S : am_S) (p0 : Nat) (p1 : Nat) : Option (am_R) :=
  (am_ctI (f_X11_town S p0) (fun v1 S1 => ((am_st S1.1 p1 0 v1).bind (fun σ2 => some (.inl (some (.int 0)), (σ2, S1.2))))) [(1, 1), (2, 2)])
set_option maxRecDepth 20000 in
theorem t_L_town {E : am_E} {l : Launch} (hl : l.stackTraces = false) {S : am_S} {p0 : Nat} {p1 : Nat} (kp0 : am_kd p0 = 111) (kp1 : am_kd p1 = 4) : am_M E l yL_town (.codeWith yL_town cL_town 3 (some .int) [(0, 8, 11, 13), (0, 8, 14, 15)]) 11 1 6 [.ref p0, .ref p1] S (f_L_town S p0 p1) := by
  refine am_M_id (am_MH_of (w := fun x => x) hl (by decide) (am_fc rfl (am_fc rfl am_fn)) (Nat.le_of_ble_eq_true rfl) ?_)
  show am_Ev E l (RL, cL_town, 3, (some .int), [(0, 8, 11, 13), (0, 8, 14, 15)], am_rm 11 1 6) (am_Z E 1 6) 0 0 0 [some (.ref p0), some (.ref p1), none] [] S (f_L_town S p0 p1)
  unfold f_L_town
  refine ev_aload_n dL_town_0 rfl ?_
  refine ev_iconst (v := 0) dL_town_1 (by decide) ?_
  refine ev_aload_n dL_town_2 rfl ?_
  refine ev_callCI (am_callV (as := []) (o := p0) (st := [.int 0, .ref p1]) cv_L_7 dL_town_3 kp0 rfl (am_le rfl) (am_fit (by omega) (by decide) (by decide) (by decide)) (t_X11_town hl kp0)) (by decide) (by decide) hd_L_town (fun v1 S1 h1 => ?_)
  refine ev_i2l dL_town_6 ?_
  refine ev_last dL_town_7 kp1 (fun σ2 h2 => ?_)
  refine ev_goto (tgt := 17) dL_town_8 (by decide) ?_
  refine ev_iconst (v := 0) dL_town_17 (by decide) ?_
  exact ev_iret dL_town_18 rfl rfl (by decide) (by decide) rfl
theorem hd_L_law : ∀ k n, List.lookup k [(1, (1 : Int32))] = some n → am_Hd (RL, cL_law, 3, (some .int), [(0, 8, 11, 13)], am_rm 70 1 6) 3 k n := am_lkc (⟨[], ⟨0, 8, 11, 13⟩, [], 2, 1, 1, rfl, (fun _ h => nomatch h), by decide, by decide, am_G_t (i := 537) (by decide +kernel) rfl, am_nw_t (i := 671) (by decide +kernel) rfl, by decide, Or.inr ⟨2, dL_law_11, rfl, rfl⟩, by decide, dL_law_12, rfl, dL_law_13, rfl⟩) (am_lk0)
def f_L_law (S : am_S) (p0 : Nat) (p1 : Nat) : Option (am_R) :=
  (am_ctI (f_X11_law S p0) (fun v1 S1 => ((am_st S1.1 p1 0 v1).bind (fun σ2 => some (.inl (some (.int 0)), (σ2, S1.2))))) [(1, 1)])
set_option maxRecDepth 20000 in
theorem t_L_law {E : am_E} {l : Launch} (hl : l.stackTraces = false) {S : am_S} {p0 : Nat} {p1 : Nat} (kp0 : am_kd p0 = 111) (kp1 : am_kd p1 = 4) : am_M E l yL_law (.codeWith yL_law cL_law 3 (some .int) [(0, 8, 11, 13)]) 70 1 6 [.ref p0, .ref p1] S (f_L_law S p0 p1) := by
  refine am_M_id (am_MH_of (w := fun x => x) hl (by decide) (am_fc rfl (am_fc rfl am_fn)) (Nat.le_of_ble_eq_true rfl) ?_)
  show am_Ev E l (RL, cL_law, 3, (some .int), [(0, 8, 11, 13)], am_rm 70 1 6) (am_Z E 1 6) 0 0 0 [some (.ref p0), some (.ref p1), none] [] S (f_L_law S p0 p1)
  unfold f_L_law
  refine ev_aload_n dL_law_0 rfl ?_
  refine ev_iconst (v := 0) dL_law_1 (by decide) ?_
  refine ev_aload_n dL_law_2 rfl ?_
  refine ev_callCI (am_callV (as := []) (o := p0) (st := [.int 0, .ref p1]) cv_L_17 dL_law_3 kp0 rfl (am_le rfl) (am_fit (by omega) (by decide) (by decide) (by decide)) (t_X11_law hl kp0)) (by decide) (by decide) hd_L_law (fun v1 S1 h1 => ?_)
  refine ev_i2l dL_law_6 ?_
  refine ev_last dL_law_7 kp1 (fun σ2 h2 => ?_)
  refine ev_goto (tgt := 14) dL_law_8 (by decide) ?_
  refine ev_iconst (v := 0) dL_law_14 (by decide) ?_
  exact ev_iret dL_law_15 rfl rfl (by decide) (by decide) rfl
theorem hd_L_house : ∀ k n, List.lookup k [(0, (1 : Int32)), (3, (2 : Int32))] = some n → am_Hd (RL, cL_house, 5, (some .int), [(0, 10, 13, 24), (0, 10, 17, 26)], am_rm 4 2 12) 5 k n := am_lkc (⟨[], ⟨0, 10, 13, 24⟩, [⟨0, 10, 17, 26⟩], 4, 2, 1, rfl, (fun _ h => nomatch h), by decide, by decide, am_G_t (i := 833) (by decide +kernel) rfl, am_nw_t (i := 846) (by decide +kernel) rfl, by decide, Or.inl ⟨dL_house_13, rfl⟩, by decide, dL_house_15, rfl, dL_house_16, rfl⟩) (am_lkc (⟨[⟨0, 10, 13, 24⟩], ⟨0, 10, 17, 26⟩, [], 4, 2, 2, rfl, (List.forall_mem_cons.mpr ⟨⟨by decide, 0, by decide, by decide, am_G_t (i := 833) (by decide +kernel) rfl⟩, (fun _ h => nomatch h)⟩), by decide, by decide, am_G_t (i := 834) (by decide +kernel) rfl, am_nw_t (i := 863) (by decide +kernel) rfl, by decide, Or.inl ⟨dL_house_17, rfl⟩, by decide, dL_house_19, rfl, dL_house_20, rfl⟩) (am_lk0))
def f_L_house (S : am_S) (p0 : Nat) (p1 : Int32) (p2 : Int32) (p3 : Nat) : Option (am_R) :=
  (am_ctI (f_X11_house S p0 p1 p2) (fun v1 S1 => ((am_st S1.1 p3 0 v1).bind (fun σ2 => some (.inl (some (.int 0)), (σ2, S1.2))))) [(0, 1), (3, 2)])
set_option maxRecDepth 20000 in
theorem t_L_house {E : am_E} {l : Launch} (hl : l.stackTraces = false) {S : am_S} {p0 : Nat} {p1 : Int32} {p2 : Int32} {p3 : Nat} (kp0 : am_kd p0 = 111) (kp3 : am_kd p3 = 4) : am_M E l yL_house (.codeWith yL_house cL_house 5 (some .int) [(0, 10, 13, 24), (0, 10, 17, 26)]) 4 2 12 [.ref p0, .int p1, .int p2, .ref p3] S (f_L_house S p0 p1 p2 p3) := by
  refine am_M_id (am_MH_of (w := fun x => x) hl (by decide) (am_fc rfl (am_fc rfl (am_fc rfl (am_fc rfl am_fn)))) (Nat.le_of_ble_eq_true rfl) ?_)
  show am_Ev E l (RL, cL_house, 5, (some .int), [(0, 10, 13, 24), (0, 10, 17, 26)], am_rm 4 2 12) (am_Z E 2 12) 0 0 0 [some (.ref p0), some (.int p1), some (.int p2), some (.ref p3), none] [] S (f_L_house S p0 p1 p2 p3)
  unfold f_L_house
  refine ev_aload_n dL_house_0 rfl ?_
  refine ev_iconst (v := 0) dL_house_1 (by decide) ?_
  refine ev_aload_n dL_house_2 rfl ?_
  refine ev_iload_n dL_house_3 rfl ?_
  refine ev_iload_n dL_house_4 rfl ?_
  refine ev_callCI (am_callV (as := [.int p1, .int p2]) (o := p0) (st := [.int 0, .ref p3]) cv_L_20 dL_house_5 kp0 rfl (am_le rfl) (am_fit (by omega) (by decide) (by decide) (by decide)) (t_X11_house hl kp0)) (by decide) (by decide) hd_L_house (fun v1 S1 h1 => ?_)
  refine ev_i2l dL_house_8 ?_
  refine ev_last dL_house_9 kp3 (fun σ2 h2 => ?_)
  refine ev_goto (tgt := 21) dL_house_10 (by decide) ?_
  refine ev_iconst (v := 0) dL_house_21 (by decide) ?_
  exact ev_iret dL_house_22 rfl rfl (by decide) (by decide) rfl
theorem hd_L_want : ∀ k n, List.lookup k [(0, (1 : Int32))] = some n → am_Hd (RL, cL_want, 4, (some .int), [(0, 9, 12, 24)], am_rm 3 1 6) 4 k n := am_lkc (⟨[], ⟨0, 9, 12, 24⟩, [], 3, 1, 1, rfl, (fun _ h => nomatch h), by decide, by decide, am_G_t (i := 833) (by decide +kernel) rfl, am_nw_t (i := 846) (by decide +kernel) rfl, by decide, Or.inr ⟨3, dL_want_12, rfl, rfl⟩, by decide, dL_want_13, rfl, dL_want_14, rfl⟩) (am_lk0)
def f_L_want (S : am_S) (p0 : Nat) (p1 : Int32) (p2 : Nat) : Option (am_R) :=
  (am_ctI (f_X11_want S p0 p1) (fun v1 S1 => ((am_st S1.1 p2 0 v1).bind (fun σ2 => some (.inl (some (.int 0)), (σ2, S1.2))))) [(0, 1)])
set_option maxRecDepth 20000 in
theorem t_L_want {E : am_E} {l : Launch} (hl : l.stackTraces = false) {S : am_S} {p0 : Nat} {p1 : Int32} {p2 : Nat} (kp0 : am_kd p0 = 111) (kp2 : am_kd p2 = 4) : am_M E l yL_want (.codeWith yL_want cL_want 4 (some .int) [(0, 9, 12, 24)]) 3 1 6 [.ref p0, .int p1, .ref p2] S (f_L_want S p0 p1 p2) := by
  refine am_M_id (am_MH_of (w := fun x => x) hl (by decide) (am_fc rfl (am_fc rfl (am_fc rfl am_fn))) (Nat.le_of_ble_eq_true rfl) ?_)
  show am_Ev E l (RL, cL_want, 4, (some .int), [(0, 9, 12, 24)], am_rm 3 1 6) (am_Z E 1 6) 0 0 0 [some (.ref p0), some (.int p1), some (.ref p2), none] [] S (f_L_want S p0 p1 p2)
  unfold f_L_want
  refine ev_aload_n dL_want_0 rfl ?_
  refine ev_iconst (v := 0) dL_want_1 (by decide) ?_
  refine ev_aload_n dL_want_2 rfl ?_
  refine ev_iload_n dL_want_3 rfl ?_
  refine ev_callCI (am_callV (as := [.int p1]) (o := p0) (st := [.int 0, .ref p2]) cv_L_28 dL_want_4 kp0 rfl (am_le rfl) (am_fit (by omega) (by decide) (by decide) (by decide)) (t_X11_want hl kp0)) (by decide) (by decide) hd_L_want (fun v1 S1 h1 => ?_)
  refine ev_i2l dL_want_7 ?_
  refine ev_last dL_want_8 kp2 (fun σ2 h2 => ?_)
  refine ev_goto (tgt := 15) dL_want_9 (by decide) ?_
  refine ev_iconst (v := 0) dL_want_15 (by decide) ?_
  exact ev_iret dL_want_16 rfl rfl (by decide) (by decide) rfl
theorem hd_L_code : ∀ k n, List.lookup k [(0, (1 : Int32))] = some n → am_Hd (RL, cL_code, 5, (some .int), [(0, 10, 13, 24)], am_rm 3 2 12) 5 k n := am_lkc (⟨[], ⟨0, 10, 13, 24⟩, [], 4, 2, 1, rfl, (fun _ h => nomatch h), by decide, by decide, am_G_t (i := 833) (by decide +kernel) rfl, am_nw_t (i := 846) (by decide +kernel) rfl, by decide, Or.inl ⟨dL_code_13, rfl⟩, by decide, dL_code_15, rfl, dL_code_16, rfl⟩) (am_lk0)
def f_L_code (S : am_S) (p0 : Nat) (p1 : Int32) (p2 : Int32) (p3 : Nat) : Option (am_R) :=
  (am_ctI (f_X11_code S p0 p1 p2) (fun v1 S1 => ((am_st S1.1 p3 0 v1).bind (fun σ2 => some (.inl (some (.int 0)), (σ2, S1.2))))) [(0, 1)])
set_option maxRecDepth 20000 in
theorem t_L_code {E : am_E} {l : Launch} (hl : l.stackTraces = false) {S : am_S} {p0 : Nat} {p1 : Int32} {p2 : Int32} {p3 : Nat} (kp0 : am_kd p0 = 111) (kp3 : am_kd p3 = 4) : am_M E l yL_code (.codeWith yL_code cL_code 5 (some .int) [(0, 10, 13, 24)]) 3 2 12 [.ref p0, .int p1, .int p2, .ref p3] S (f_L_code S p0 p1 p2 p3) := by
  refine am_M_id (am_MH_of (w := fun x => x) hl (by decide) (am_fc rfl (am_fc rfl (am_fc rfl (am_fc rfl am_fn)))) (Nat.le_of_ble_eq_true rfl) ?_)
  show am_Ev E l (RL, cL_code, 5, (some .int), [(0, 10, 13, 24)], am_rm 3 2 12) (am_Z E 2 12) 0 0 0 [some (.ref p0), some (.int p1), some (.int p2), some (.ref p3), none] [] S (f_L_code S p0 p1 p2 p3)
  unfold f_L_code
  refine ev_aload_n dL_code_0 rfl ?_
  refine ev_iconst (v := 0) dL_code_1 (by decide) ?_
  refine ev_aload_n dL_code_2 rfl ?_
  refine ev_iload_n dL_code_3 rfl ?_
  refine ev_iload_n dL_code_4 rfl ?_
  refine ev_callCI (am_callV (as := [.int p1, .int p2]) (o := p0) (st := [.int 0, .ref p3]) cv_L_32 dL_code_5 kp0 rfl (am_le rfl) (am_fit (by omega) (by decide) (by decide) (by decide)) (t_X11_code hl kp0)) (by decide) (by decide) hd_L_code (fun v1 S1 h1 => ?_)
  refine ev_i2l dL_code_8 ?_
  refine ev_last dL_code_9 kp3 (fun σ2 h2 => ?_)
  refine ev_goto (tgt := 17) dL_code_10 (by decide) ?_
  refine ev_iconst (v := 0) dL_code_17 (by decide) ?_
  exact ev_iret dL_code_18 rfl rfl (by decide) (by decide) rfl
theorem hd_L_cost : ∀ k n, List.lookup k [(1, (1 : Int32))] = some n → am_Hd (RL, cL_cost, 4, (some .int), [(0, 9, 12, 13)], am_rm 3 1 6) 4 k n := am_lkc (⟨[], ⟨0, 9, 12, 13⟩, [], 3, 1, 1, rfl, (fun _ h => nomatch h), by decide, by decide, am_G_t (i := 537) (by decide +kernel) rfl, am_nw_t (i := 671) (by decide +kernel) rfl, by decide, Or.inr ⟨3, dL_cost_12, rfl, rfl⟩, by decide, dL_cost_13, rfl, dL_cost_14, rfl⟩) (am_lk0)
def f_L_cost (S : am_S) (p0 : Nat) (p1 : Int32) (p2 : Nat) : Option (am_R) :=
  (am_ctI (f_X11_cost S p0 p1) (fun v1 S1 => ((am_st S1.1 p2 0 v1).bind (fun σ2 => some (.inl (some (.int 0)), (σ2, S1.2))))) [(1, 1)])
set_option maxRecDepth 20000 in
theorem t_L_cost {E : am_E} {l : Launch} (hl : l.stackTraces = false) {S : am_S} {p0 : Nat} {p1 : Int32} {p2 : Nat} (kp0 : am_kd p0 = 111) (kp2 : am_kd p2 = 4) : am_M E l yL_cost (.codeWith yL_cost cL_cost 4 (some .int) [(0, 9, 12, 13)]) 3 1 6 [.ref p0, .int p1, .ref p2] S (f_L_cost S p0 p1 p2) := by
  refine am_M_id (am_MH_of (w := fun x => x) hl (by decide) (am_fc rfl (am_fc rfl (am_fc rfl am_fn))) (Nat.le_of_ble_eq_true rfl) ?_)
  show am_Ev E l (RL, cL_cost, 4, (some .int), [(0, 9, 12, 13)], am_rm 3 1 6) (am_Z E 1 6) 0 0 0 [some (.ref p0), some (.int p1), some (.ref p2), none] [] S (f_L_cost S p0 p1 p2)
  unfold f_L_cost
  refine ev_aload_n dL_cost_0 rfl ?_
  refine ev_iconst (v := 0) dL_cost_1 (by decide) ?_
  refine ev_aload_n dL_cost_2 rfl ?_
  refine ev_iload_n dL_cost_3 rfl ?_
  refine ev_callCI (am_callV (as := [.int p1]) (o := p0) (st := [.int 0, .ref p2]) cv_L_35 dL_cost_4 kp0 rfl (am_le rfl) (am_fit (by omega) (by decide) (by decide) (by decide)) (t_X11_cost hl kp0)) (by decide) (by decide) hd_L_cost (fun v1 S1 h1 => ?_)
  refine ev_i2l dL_cost_7 ?_
  refine ev_last dL_cost_8 kp2 (fun σ2 h2 => ?_)
  refine ev_goto (tgt := 15) dL_cost_9 (by decide) ?_
  refine ev_iconst (v := 0) dL_cost_15 (by decide) ?_
  exact ev_iret dL_cost_16 rfl rfl (by decide) (by decide) rfl
theorem hd_L_way : ∀ k n, List.lookup k [(0, (1 : Int32)), (3, (2 : Int32))] = some n → am_Hd (RL, cL_way, 6, (some .int), [(0, 12, 15, 24), (0, 12, 19, 26)], am_rm 4 3 18) 7 k n := am_lkc (⟨[], ⟨0, 12, 15, 24⟩, [⟨0, 12, 19, 26⟩], 5, 2, 1, rfl, (fun _ h => nomatch h), by decide, by decide, am_G_t (i := 833) (by decide +kernel) rfl, am_nw_t (i := 846) (by decide +kernel) rfl, by decide, Or.inl ⟨dL_way_15, rfl⟩, by decide, dL_way_17, rfl, dL_way_18, rfl⟩) (am_lkc (⟨[⟨0, 12, 15, 24⟩], ⟨0, 12, 19, 26⟩, [], 5, 2, 2, rfl, (List.forall_mem_cons.mpr ⟨⟨by decide, 0, by decide, by decide, am_G_t (i := 833) (by decide +kernel) rfl⟩, (fun _ h => nomatch h)⟩), by decide, by decide, am_G_t (i := 834) (by decide +kernel) rfl, am_nw_t (i := 863) (by decide +kernel) rfl, by decide, Or.inl ⟨dL_way_19, rfl⟩, by decide, dL_way_21, rfl, dL_way_22, rfl⟩) (am_lk0))
def f_L_way (S : am_S) (p0 : Nat) (p1 : Int32) (p2 : Int32) (p3 : Int32) (p4 : Nat) : Option (am_R) :=
  (am_ctI (f_X11_way S p0 p1 p2 p3) (fun v1 S1 => ((am_st S1.1 p4 0 v1).bind (fun σ2 => some (.inl (some (.int 0)), (σ2, S1.2))))) [(0, 1), (3, 2)])
set_option maxRecDepth 20000 in
theorem t_L_way {E : am_E} {l : Launch} (hl : l.stackTraces = false) {S : am_S} {p0 : Nat} {p1 : Int32} {p2 : Int32} {p3 : Int32} {p4 : Nat} (kp0 : am_kd p0 = 111) (kp4 : am_kd p4 = 4) : am_M E l yL_way (.codeWith yL_way cL_way 6 (some .int) [(0, 12, 15, 24), (0, 12, 19, 26)]) 4 3 18 [.ref p0, .int p1, .int p2, .int p3, .ref p4] S (f_L_way S p0 p1 p2 p3 p4) := by
  refine am_M_id (am_MH_of (w := fun x => x) hl (by decide) (am_fc rfl (am_fc rfl (am_fc rfl (am_fc rfl (am_fc rfl am_fn))))) (Nat.le_of_ble_eq_true rfl) ?_)
  show am_Ev E l (RL, cL_way, 6, (some .int), [(0, 12, 15, 24), (0, 12, 19, 26)], am_rm 4 3 18) (am_Z E 3 18) 0 0 0 [some (.ref p0), some (.int p1), some (.int p2), some (.int p3), some (.ref p4), none] [] S (f_L_way S p0 p1 p2 p3 p4)
  unfold f_L_way
  refine ev_aload dL_way_0 rfl ?_
  refine ev_iconst (v := 0) dL_way_2 (by decide) ?_
  refine ev_aload_n dL_way_3 rfl ?_
  refine ev_iload_n dL_way_4 rfl ?_
  refine ev_iload_n dL_way_5 rfl ?_
  refine ev_iload_n dL_way_6 rfl ?_
  refine ev_callCI (am_callV (as := [.int p1, .int p2, .int p3]) (o := p0) (st := [.int 0, .ref p4]) cv_L_38 dL_way_7 kp0 rfl (am_le rfl) (am_fit (by omega) (by decide) (by decide) (by decide)) (t_X11_way hl kp0)) (by decide) (by decide) hd_L_way (fun v1 S1 h1 => ?_)
  refine ev_i2l dL_way_10 ?_
  refine ev_last dL_way_11 kp4 (fun σ2 h2 => ?_)
  refine ev_goto (tgt := 23) dL_way_12 (by decide) ?_
  refine ev_iconst (v := 0) dL_way_23 (by decide) ?_
  exact ev_iret dL_way_24 rfl rfl (by decide) (by decide) rfl
theorem hd_L_ring : ∀ k n, List.lookup k [(0, (1 : Int32)), (1, (2 : Int32)), (2, (3 : Int32))] = some n → am_Hd (RL, cL_ring, 6, (some .int), [(0, 12, 15, 24), (0, 12, 19, 13), (0, 12, 23, 15)], am_rm 3 5 30) 7 k n := am_lkc (⟨[], ⟨0, 12, 15, 24⟩, [⟨0, 12, 19, 13⟩, ⟨0, 12, 23, 15⟩], 5, 2, 1, rfl, (fun _ h => nomatch h), by decide, by decide, am_G_t (i := 833) (by decide +kernel) rfl, am_nw_t (i := 846) (by decide +kernel) rfl, by decide, Or.inl ⟨dL_ring_15, rfl⟩, by decide, dL_ring_17, rfl, dL_ring_18, rfl⟩) (am_lkc (⟨[⟨0, 12, 15, 24⟩], ⟨0, 12, 19, 13⟩, [⟨0, 12, 23, 15⟩], 5, 2, 2, rfl, (List.forall_mem_cons.mpr ⟨⟨by decide, 0, by decide, by decide, am_G_t (i := 833) (by decide +kernel) rfl⟩, (fun _ h => nomatch h)⟩), by decide, by decide, am_G_t (i := 537) (by decide +kernel) rfl, am_nw_t (i := 671) (by decide +kernel) rfl, by decide, Or.inl ⟨dL_ring_19, rfl⟩, by decide, dL_ring_21, rfl, dL_ring_22, rfl⟩) (am_lkc (⟨[⟨0, 12, 15, 24⟩, ⟨0, 12, 19, 13⟩], ⟨0, 12, 23, 15⟩, [], 5, 2, 3, rfl, (List.forall_mem_cons.mpr ⟨⟨by decide, 0, by decide, by decide, am_G_t (i := 833) (by decide +kernel) rfl⟩, (List.forall_mem_cons.mpr ⟨⟨by decide, 1, by decide, by decide, am_G_t (i := 537) (by decide +kernel) rfl⟩, (fun _ h => nomatch h)⟩)⟩), by decide, by decide, am_G_t (i := 538) (by decide +kernel) rfl, am_nw_t (i := 739) (by decide +kernel) rfl, by decide, Or.inl ⟨dL_ring_23, rfl⟩, by decide, dL_ring_25, rfl, dL_ring_26, rfl⟩) (am_lk0)))
def f_L_ring (S : am_S) (p0 : Nat) (p1 : Int32) (p2 : Int32) (p3 : Int32) (p4 : Nat) : Option (am_R) :=
  (am_ctI (f_X11_ring S p0 p1 p2 p3) (fun v1 S1 => ((am_st S1.1 p4 0 v1).bind (fun σ2 => some (.inl (some (.int 0)), (σ2, S1.2))))) [(0, 1), (1, 2), (2, 3)])
set_option maxRecDepth 20000 in
theorem t_L_ring {E : am_E} {l : Launch} (hl : l.stackTraces = false) {S : am_S} {p0 : Nat} {p1 : Int32} {p2 : Int32} {p3 : Int32} {p4 : Nat} (kp0 : am_kd p0 = 111) (kp4 : am_kd p4 = 4) : am_M E l yL_ring (.codeWith yL_ring cL_ring 6 (some .int) [(0, 12, 15, 24), (0, 12, 19, 13), (0, 12, 23, 15)]) 3 5 30 [.ref p0, .int p1, .int p2, .int p3, .ref p4] S (f_L_ring S p0 p1 p2 p3 p4) := by
  refine am_M_id (am_MH_of (w := fun x => x) hl (by decide) (am_fc rfl (am_fc rfl (am_fc rfl (am_fc rfl (am_fc rfl am_fn))))) (Nat.le_of_ble_eq_true rfl) ?_)
  show am_Ev E l (RL, cL_ring, 6, (some .int), [(0, 12, 15, 24), (0, 12, 19, 13), (0, 12, 23, 15)], am_rm 3 5 30) (am_Z E 5 30) 0 0 0 [some (.ref p0), some (.int p1), some (.int p2), some (.int p3), some (.ref p4), none] [] S (f_L_ring S p0 p1 p2 p3 p4)
  unfold f_L_ring
  refine ev_aload dL_ring_0 rfl ?_
  refine ev_iconst (v := 0) dL_ring_2 (by decide) ?_
  refine ev_aload_n dL_ring_3 rfl ?_
  refine ev_iload_n dL_ring_4 rfl ?_
  refine ev_iload_n dL_ring_5 rfl ?_
  refine ev_iload_n dL_ring_6 rfl ?_
  refine ev_callCI (am_callV (as := [.int p1, .int p2, .int p3]) (o := p0) (st := [.int 0, .ref p4]) cv_L_42 dL_ring_7 kp0 rfl (am_le rfl) (am_fit (by omega) (by decide) (by decide) (by decide)) (t_X11_ring hl kp0)) (by decide) (by decide) hd_L_ring (fun v1 S1 h1 => ?_)
  refine ev_i2l dL_ring_10 ?_
  refine ev_last dL_ring_11 kp4 (fun σ2 h2 => ?_)
  refine ev_goto (tgt := 27) dL_ring_12 (by decide) ?_
  refine ev_iconst (v := 0) dL_ring_27 (by decide) ?_
  exact ev_iret dL_ring_28 rfl rfl (by decide) (by decide) rfl
theorem hd_L_heard : ∀ k n, List.lookup k [(0, (1 : Int32))] = some n → am_Hd (RL, cL_heard, 5, (some .int), [(0, 10, 13, 24)], am_rm 5 2 12) 5 k n := am_lkc (⟨[], ⟨0, 10, 13, 24⟩, [], 4, 2, 1, rfl, (fun _ h => nomatch h), by decide, by decide, am_G_t (i := 833) (by decide +kernel) rfl, am_nw_t (i := 846) (by decide +kernel) rfl, by decide, Or.inl ⟨dL_heard_13, rfl⟩, by decide, dL_heard_15, rfl, dL_heard_16, rfl⟩) (am_lk0)
def f_L_heard (S : am_S) (p0 : Nat) (p1 : Int32) (p2 : Int32) (p3 : Nat) : Option (am_R) :=
  (am_ctI (f_X11_heard S p0 p1 p2) (fun v1 S1 => ((am_st S1.1 p3 0 v1).bind (fun σ2 => some (.inl (some (.int 0)), (σ2, S1.2))))) [(0, 1)])
set_option maxRecDepth 20000 in
theorem t_L_heard {E : am_E} {l : Launch} (hl : l.stackTraces = false) {S : am_S} {p0 : Nat} {p1 : Int32} {p2 : Int32} {p3 : Nat} (kp0 : am_kd p0 = 111) (kp3 : am_kd p3 = 4) : am_M E l yL_heard (.codeWith yL_heard cL_heard 5 (some .int) [(0, 10, 13, 24)]) 5 2 12 [.ref p0, .int p1, .int p2, .ref p3] S (f_L_heard S p0 p1 p2 p3) := by
  refine am_M_id (am_MH_of (w := fun x => x) hl (by decide) (am_fc rfl (am_fc rfl (am_fc rfl (am_fc rfl am_fn)))) (Nat.le_of_ble_eq_true rfl) ?_)
  show am_Ev E l (RL, cL_heard, 5, (some .int), [(0, 10, 13, 24)], am_rm 5 2 12) (am_Z E 2 12) 0 0 0 [some (.ref p0), some (.int p1), some (.int p2), some (.ref p3), none] [] S (f_L_heard S p0 p1 p2 p3)
  unfold f_L_heard
  refine ev_aload_n dL_heard_0 rfl ?_
  refine ev_iconst (v := 0) dL_heard_1 (by decide) ?_
  refine ev_aload_n dL_heard_2 rfl ?_
  refine ev_iload_n dL_heard_3 rfl ?_
  refine ev_iload_n dL_heard_4 rfl ?_
  refine ev_callCI (am_callV (as := [.int p1, .int p2]) (o := p0) (st := [.int 0, .ref p3]) cv_L_45 dL_heard_5 kp0 rfl (am_le rfl) (am_fit (by omega) (by decide) (by decide) (by decide)) (t_X11_heard hl kp0)) (by decide) (by decide) hd_L_heard (fun v1 S1 h1 => ?_)
  refine ev_i2l dL_heard_8 ?_
  refine ev_last dL_heard_9 kp3 (fun σ2 h2 => ?_)
  refine ev_goto (tgt := 17) dL_heard_10 (by decide) ?_
  refine ev_iconst (v := 0) dL_heard_17 (by decide) ?_
  exact ev_iret dL_heard_18 rfl rfl (by decide) (by decide) rfl
theorem hd_L_taken : ∀ k n, List.lookup k [(0, (1 : Int32))] = some n → am_Hd (RL, cL_taken, 5, (some .int), [(0, 10, 13, 24)], am_rm 6 2 12) 5 k n := am_lkc (⟨[], ⟨0, 10, 13, 24⟩, [], 4, 2, 1, rfl, (fun _ h => nomatch h), by decide, by decide, am_G_t (i := 833) (by decide +kernel) rfl, am_nw_t (i := 846) (by decide +kernel) rfl, by decide, Or.inl ⟨dL_taken_13, rfl⟩, by decide, dL_taken_15, rfl, dL_taken_16, rfl⟩) (am_lk0)
def f_L_taken (S : am_S) (p0 : Nat) (p1 : Int32) (p2 : Int32) (p3 : Nat) : Option (am_R) :=
  (am_ctI (f_X11_taken S p0 p1 p2) (fun v1 S1 => ((am_st S1.1 p3 0 v1).bind (fun σ2 => some (.inl (some (.int 0)), (σ2, S1.2))))) [(0, 1)])
set_option maxRecDepth 20000 in
theorem t_L_taken {E : am_E} {l : Launch} (hl : l.stackTraces = false) {S : am_S} {p0 : Nat} {p1 : Int32} {p2 : Int32} {p3 : Nat} (kp0 : am_kd p0 = 111) (kp3 : am_kd p3 = 4) : am_M E l yL_taken (.codeWith yL_taken cL_taken 5 (some .int) [(0, 10, 13, 24)]) 6 2 12 [.ref p0, .int p1, .int p2, .ref p3] S (f_L_taken S p0 p1 p2 p3) := by
  refine am_M_id (am_MH_of (w := fun x => x) hl (by decide) (am_fc rfl (am_fc rfl (am_fc rfl (am_fc rfl am_fn)))) (Nat.le_of_ble_eq_true rfl) ?_)
  show am_Ev E l (RL, cL_taken, 5, (some .int), [(0, 10, 13, 24)], am_rm 6 2 12) (am_Z E 2 12) 0 0 0 [some (.ref p0), some (.int p1), some (.int p2), some (.ref p3), none] [] S (f_L_taken S p0 p1 p2 p3)
  unfold f_L_taken
  refine ev_aload_n dL_taken_0 rfl ?_
  refine ev_iconst (v := 0) dL_taken_1 (by decide) ?_
  refine ev_aload_n dL_taken_2 rfl ?_
  refine ev_iload_n dL_taken_3 rfl ?_
  refine ev_iload_n dL_taken_4 rfl ?_
  refine ev_callCI (am_callV (as := [.int p1, .int p2]) (o := p0) (st := [.int 0, .ref p3]) cv_L_48 dL_taken_5 kp0 rfl (am_le rfl) (am_fit (by omega) (by decide) (by decide) (by decide)) (t_X11_taken hl kp0)) (by decide) (by decide) hd_L_taken (fun v1 S1 h1 => ?_)
  refine ev_i2l dL_taken_8 ?_
  refine ev_last dL_taken_9 kp3 (fun σ2 h2 => ?_)
  refine ev_goto (tgt := 17) dL_taken_10 (by decide) ?_
  refine ev_iconst (v := 0) dL_taken_17 (by decide) ?_
  exact ev_iret dL_taken_18 rfl rfl (by decide) (by decide) rfl
theorem hd_L_sure : ∀ k n, List.lookup k [(0, (1 : Int32))] = some n → am_Hd (RL, cL_sure, 5, (some .int), [(0, 10, 13, 24)], am_rm 7 1 6) 5 k n := am_lkc (⟨[], ⟨0, 10, 13, 24⟩, [], 4, 2, 1, rfl, (fun _ h => nomatch h), by decide, by decide, am_G_t (i := 833) (by decide +kernel) rfl, am_nw_t (i := 846) (by decide +kernel) rfl, by decide, Or.inl ⟨dL_sure_13, rfl⟩, by decide, dL_sure_15, rfl, dL_sure_16, rfl⟩) (am_lk0)
def f_L_sure (S : am_S) (p0 : Nat) (p1 : Int32) (p2 : Int32) (p3 : Nat) : Option (am_R) :=
  (am_ctI (f_X11_sure S p0 p1 p2) (fun v1 S1 => ((am_st S1.1 p3 0 v1).bind (fun σ2 => some (.inl (some (.int 0)), (σ2, S1.2))))) [(0, 1)])
set_option maxRecDepth 20000 in
theorem t_L_sure {E : am_E} {l : Launch} (hl : l.stackTraces = false) {S : am_S} {p0 : Nat} {p1 : Int32} {p2 : Int32} {p3 : Nat} (kp0 : am_kd p0 = 111) (kp3 : am_kd p3 = 4) : am_M E l yL_sure (.codeWith yL_sure cL_sure 5 (some .int) [(0, 10, 13, 24)]) 7 1 6 [.ref p0, .int p1, .int p2, .ref p3] S (f_L_sure S p0 p1 p2 p3) := by
  refine am_M_id (am_MH_of (w := fun x => x) hl (by decide) (am_fc rfl (am_fc rfl (am_fc rfl (am_fc rfl am_fn)))) (Nat.le_of_ble_eq_true rfl) ?_)
  show am_Ev E l (RL, cL_sure, 5, (some .int), [(0, 10, 13, 24)], am_rm 7 1 6) (am_Z E 1 6) 0 0 0 [some (.ref p0), some (.int p1), some (.int p2), some (.ref p3), none] [] S (f_L_sure S p0 p1 p2 p3)
  unfold f_L_sure
  refine ev_aload_n dL_sure_0 rfl ?_
  refine ev_iconst (v := 0) dL_sure_1 (by decide) ?_
  refine ev_aload_n dL_sure_2 rfl ?_
  refine ev_iload_n dL_sure_3 rfl ?_
  refine ev_iload_n dL_sure_4 rfl ?_
  refine ev_callCI (am_callV (as := [.int p1, .int p2]) (o := p0) (st := [.int 0, .ref p3]) cv_L_51 dL_sure_5 kp0 rfl (am_le rfl) (am_fit (by omega) (by decide) (by decide) (by decide)) (t_X11_sure hl kp0)) (by decide) (by decide) hd_L_sure (fun v1 S1 h1 => ?_)
  refine ev_i2l dL_sure_8 ?_
  refine ev_last dL_sure_9 kp3 (fun σ2 h2 => ?_)
  refine ev_goto (tgt := 17) dL_sure_10 (by decide) ?_
  refine ev_iconst (v := 0) dL_sure_17 (by decide) ?_
  exact ev_iret dL_sure_18 rfl rfl (by decide) (by decide) rfl
theorem hd_L_begins : ∀ k n, List.lookup k [(0, (1 : Int32))] = some n → am_Hd (RL, cL_begins, 4, (some .int), [(0, 9, 12, 24)], am_rm 5 1 6) 4 k n := am_lkc (⟨[], ⟨0, 9, 12, 24⟩, [], 3, 1, 1, rfl, (fun _ h => nomatch h), by decide, by decide, am_G_t (i := 833) (by decide +kernel) rfl, am_nw_t (i := 846) (by decide +kernel) rfl, by decide, Or.inr ⟨3, dL_begins_12, rfl, rfl⟩, by decide, dL_begins_13, rfl, dL_begins_14, rfl⟩) (am_lk0)
def f_L_begins (S : am_S) (p0 : Nat) (p1 : Int32) (p2 : Nat) : Option (am_R) :=
  (am_ctI (f_X11_begins S p0 p1) (fun v1 S1 => ((am_st S1.1 p2 0 v1).bind (fun σ2 => some (.inl (some (.int 0)), (σ2, S1.2))))) [(0, 1)])
set_option maxRecDepth 20000 in
theorem t_L_begins {E : am_E} {l : Launch} (hl : l.stackTraces = false) {S : am_S} {p0 : Nat} {p1 : Int32} {p2 : Nat} (kp0 : am_kd p0 = 111) (kp2 : am_kd p2 = 4) : am_M E l yL_begins (.codeWith yL_begins cL_begins 4 (some .int) [(0, 9, 12, 24)]) 5 1 6 [.ref p0, .int p1, .ref p2] S (f_L_begins S p0 p1 p2) := by
  refine am_M_id (am_MH_of (w := fun x => x) hl (by decide) (am_fc rfl (am_fc rfl (am_fc rfl am_fn))) (Nat.le_of_ble_eq_true rfl) ?_)
  show am_Ev E l (RL, cL_begins, 4, (some .int), [(0, 9, 12, 24)], am_rm 5 1 6) (am_Z E 1 6) 0 0 0 [some (.ref p0), some (.int p1), some (.ref p2), none] [] S (f_L_begins S p0 p1 p2)
  unfold f_L_begins
  refine ev_aload_n dL_begins_0 rfl ?_
  refine ev_iconst (v := 0) dL_begins_1 (by decide) ?_
  refine ev_aload_n dL_begins_2 rfl ?_
  refine ev_iload_n dL_begins_3 rfl ?_
  refine ev_callCI (am_callV (as := [.int p1]) (o := p0) (st := [.int 0, .ref p2]) cv_L_55 dL_begins_4 kp0 rfl (am_le rfl) (am_fit (by omega) (by decide) (by decide) (by decide)) (t_X11_begins hl kp0)) (by decide) (by decide) hd_L_begins (fun v1 S1 h1 => ?_)
  refine ev_i2l dL_begins_7 ?_
  refine ev_last dL_begins_8 kp2 (fun σ2 h2 => ?_)
  refine ev_goto (tgt := 15) dL_begins_9 (by decide) ?_
  refine ev_iconst (v := 0) dL_begins_15 (by decide) ?_
  exact ev_iret dL_begins_16 rfl rfl (by decide) (by decide) rfl
theorem hd_L_safe : ∀ k n, List.lookup k [(0, (1 : Int32)), (1, (2 : Int32))] = some n → am_Hd (RL, cL_safe, 5, (some .int), [(0, 17, 20, 24), (0, 17, 24, 13)], am_rm 4 2 12) 5 k n := am_lkc (⟨[], ⟨0, 17, 20, 24⟩, [⟨0, 17, 24, 13⟩], 4, 2, 1, rfl, (fun _ h => nomatch h), by decide, by decide, am_G_t (i := 833) (by decide +kernel) rfl, am_nw_t (i := 846) (by decide +kernel) rfl, by decide, Or.inl ⟨dL_safe_20, rfl⟩, by decide, dL_safe_22, rfl, dL_safe_23, rfl⟩) (am_lkc (⟨[⟨0, 17, 20, 24⟩], ⟨0, 17, 24, 13⟩, [], 4, 2, 2, rfl, (List.forall_mem_cons.mpr ⟨⟨by decide, 0, by decide, by decide, am_G_t (i := 833) (by decide +kernel) rfl⟩, (fun _ h => nomatch h)⟩), by decide, by decide, am_G_t (i := 537) (by decide +kernel) rfl, am_nw_t (i := 671) (by decide +kernel) rfl, by decide, Or.inl ⟨dL_safe_24, rfl⟩, by decide, dL_safe_26, rfl, dL_safe_27, rfl⟩) (am_lk0))
def f_L_safe (S : am_S) (p0 : Nat) (p1 : Int32) (p2 : Int32) (p3 : Nat) : Option (am_R) :=
  (am_ctI (f_X11_safe S p0 p1 p2) (fun v1 S1 => (if v1 = 0 then ((am_st S1.1 p3 0 (0 : Int32)).bind (fun σ3 => some (.inl (some (.int 0)), (σ3, S1.2)))) else ((am_st S1.1 p3 0 (1 : Int32)).bind (fun σ4 => some (.inl (some (.int 0)), (σ4, S1.2)))))) [(0, 1), (1, 2)])
set_option maxRecDepth 20000 in
theorem t_L_safe {E : am_E} {l : Launch} (hl : l.stackTraces = false) {S : am_S} {p0 : Nat} {p1 : Int32} {p2 : Int32} {p3 : Nat} (kp0 : am_kd p0 = 111) (kp3 : am_kd p3 = 4) : am_M E l yL_safe (.codeWith yL_safe cL_safe 5 (some .int) [(0, 17, 20, 24), (0, 17, 24, 13)]) 4 2 12 [.ref p0, .int p1, .int p2, .ref p3] S (f_L_safe S p0 p1 p2 p3) := by
  refine am_M_id (am_MH_of (w := fun x => x) hl (by decide) (am_fc rfl (am_fc rfl (am_fc rfl (am_fc rfl am_fn)))) (Nat.le_of_ble_eq_true rfl) ?_)
  show am_Ev E l (RL, cL_safe, 5, (some .int), [(0, 17, 20, 24), (0, 17, 24, 13)], am_rm 4 2 12) (am_Z E 2 12) 0 0 0 [some (.ref p0), some (.int p1), some (.int p2), some (.ref p3), none] [] S (f_L_safe S p0 p1 p2 p3)
  unfold f_L_safe
  refine ev_aload_n dL_safe_0 rfl ?_
  refine ev_iconst (v := 0) dL_safe_1 (by decide) ?_
  refine ev_aload_n dL_safe_2 rfl ?_
  refine ev_iload_n dL_safe_3 rfl ?_
  refine ev_iload_n dL_safe_4 rfl ?_
  refine ev_callCI (am_callV (as := [.int p1, .int p2]) (o := p0) (st := [.int 0, .ref p3]) cv_L_58 dL_safe_5 kp0 rfl (am_le rfl) (am_fit (by omega) (by decide) (by decide) (by decide)) (t_X11_safe hl kp0)) (by decide) (by decide) hd_L_safe (fun v1 S1 h1 => ?_)
  refine ev_if_eq (tgt := 15) dL_safe_8 (by decide) (fun c2 => ?_) (fun c2 => ?_)
  · refine ev_lconst (v := (0 : Int32).toInt64) dL_safe_15 (by decide) ?_
    refine ev_last dL_safe_16 kp3 (fun σ3 h3 => ?_)
    refine ev_goto (tgt := 28) dL_safe_17 (by decide) ?_
    refine ev_iconst (v := 0) dL_safe_28 (by decide) ?_
    exact ev_iret dL_safe_29 rfl rfl (by decide) (by decide) rfl
  · refine ev_lconst (v := (1 : Int32).toInt64) dL_safe_11 (by decide) ?_
    refine ev_goto (tgt := 16) dL_safe_12 (by decide) ?_
    refine ev_last dL_safe_16 kp3 (fun σ4 h4 => ?_)
    refine ev_goto (tgt := 28) dL_safe_17 (by decide) ?_
    refine ev_iconst (v := 0) dL_safe_28 (by decide) ?_
    exact ev_iret dL_safe_29 rfl rfl (by decide) (by decide) rfl
theorem hd_L_buy : ∀ k n, List.lookup k [(0, (1 : Int32)), (1, (2 : Int32))] = some n → am_Hd (RL, cL_buy, 6, (some .int), [(0, 12, 15, 24), (0, 12, 19, 13)], am_rm 4 3 18) 7 k n := am_lkc (⟨[], ⟨0, 12, 15, 24⟩, [⟨0, 12, 19, 13⟩], 5, 2, 1, rfl, (fun _ h => nomatch h), by decide, by decide, am_G_t (i := 833) (by decide +kernel) rfl, am_nw_t (i := 846) (by decide +kernel) rfl, by decide, Or.inl ⟨dL_buy_15, rfl⟩, by decide, dL_buy_17, rfl, dL_buy_18, rfl⟩) (am_lkc (⟨[⟨0, 12, 15, 24⟩], ⟨0, 12, 19, 13⟩, [], 5, 2, 2, rfl, (List.forall_mem_cons.mpr ⟨⟨by decide, 0, by decide, by decide, am_G_t (i := 833) (by decide +kernel) rfl⟩, (fun _ h => nomatch h)⟩), by decide, by decide, am_G_t (i := 537) (by decide +kernel) rfl, am_nw_t (i := 671) (by decide +kernel) rfl, by decide, Or.inl ⟨dL_buy_19, rfl⟩, by decide, dL_buy_21, rfl, dL_buy_22, rfl⟩) (am_lk0))
def f_L_buy (S : am_S) (p0 : Nat) (p1 : Int32) (p2 : Int32) (p3 : Int32) (p4 : Nat) : Option (am_R) :=
  (am_ctI (f_X11_buy S p0 p1 p2 p3) (fun v1 S1 => ((am_st S1.1 p4 0 v1).bind (fun σ2 => some (.inl (some (.int 0)), (σ2, S1.2))))) [(0, 1), (1, 2)])
set_option maxRecDepth 20000 in
theorem t_L_buy {E : am_E} {l : Launch} (hl : l.stackTraces = false) {S : am_S} {p0 : Nat} {p1 : Int32} {p2 : Int32} {p3 : Int32} {p4 : Nat} (kp0 : am_kd p0 = 111) (kp4 : am_kd p4 = 4) : am_M E l yL_buy (.codeWith yL_buy cL_buy 6 (some .int) [(0, 12, 15, 24), (0, 12, 19, 13)]) 4 3 18 [.ref p0, .int p1, .int p2, .int p3, .ref p4] S (f_L_buy S p0 p1 p2 p3 p4) := by
  refine am_M_id (am_MH_of (w := fun x => x) hl (by decide) (am_fc rfl (am_fc rfl (am_fc rfl (am_fc rfl (am_fc rfl am_fn))))) (Nat.le_of_ble_eq_true rfl) ?_)
  show am_Ev E l (RL, cL_buy, 6, (some .int), [(0, 12, 15, 24), (0, 12, 19, 13)], am_rm 4 3 18) (am_Z E 3 18) 0 0 0 [some (.ref p0), some (.int p1), some (.int p2), some (.int p3), some (.ref p4), none] [] S (f_L_buy S p0 p1 p2 p3 p4)
  unfold f_L_buy
  refine ev_aload dL_buy_0 rfl ?_
  refine ev_iconst (v := 0) dL_buy_2 (by decide) ?_
  refine ev_aload_n dL_buy_3 rfl ?_
  refine ev_iload_n dL_buy_4 rfl ?_
  refine ev_iload_n dL_buy_5 rfl ?_
  refine ev_iload_n dL_buy_6 rfl ?_
  refine ev_callCI (am_callV (as := [.int p1, .int p2, .int p3]) (o := p0) (st := [.int 0, .ref p4]) cv_L_62 dL_buy_7 kp0 rfl (am_le rfl) (am_fit (by omega) (by decide) (by decide) (by decide)) (t_X11_buy hl kp0)) (by decide) (by decide) hd_L_buy (fun v1 S1 h1 => ?_)
  refine ev_i2l dL_buy_10 ?_
  refine ev_last dL_buy_11 kp4 (fun σ2 h2 => ?_)
  refine ev_goto (tgt := 23) dL_buy_12 (by decide) ?_
  refine ev_iconst (v := 0) dL_buy_23 (by decide) ?_
  exact ev_iret dL_buy_24 rfl rfl (by decide) (by decide) rfl
theorem hd_L_trade : ∀ k n, List.lookup k [(0, (1 : Int32)), (1, (2 : Int32))] = some n → am_Hd (RL, cL_trade, 5, (some .int), [(0, 7, 10, 24), (0, 7, 14, 13)], am_rm 3 4 24) 4 k n := am_lkc (⟨[], ⟨0, 7, 10, 24⟩, [⟨0, 7, 14, 13⟩], 4, 2, 1, rfl, (fun _ h => nomatch h), by decide, by decide, am_G_t (i := 833) (by decide +kernel) rfl, am_nw_t (i := 846) (by decide +kernel) rfl, by decide, Or.inl ⟨dL_trade_10, rfl⟩, by decide, dL_trade_12, rfl, dL_trade_13, rfl⟩) (am_lkc (⟨[⟨0, 7, 10, 24⟩], ⟨0, 7, 14, 13⟩, [], 4, 2, 2, rfl, (List.forall_mem_cons.mpr ⟨⟨by decide, 0, by decide, by decide, am_G_t (i := 833) (by decide +kernel) rfl⟩, (fun _ h => nomatch h)⟩), by decide, by decide, am_G_t (i := 537) (by decide +kernel) rfl, am_nw_t (i := 671) (by decide +kernel) rfl, by decide, Or.inl ⟨dL_trade_14, rfl⟩, by decide, dL_trade_16, rfl, dL_trade_17, rfl⟩) (am_lk0))
def f_L_trade (S : am_S) (p0 : Nat) (p1 : Int32) (p2 : Int32) (p3 : Int32) : Option (am_R) :=
  (am_ctV (f_X11_trade S p0 p1 p2 p3) (fun S1 => some (.inl (some (.int 0)), S1)) [(0, 1), (1, 2)])
set_option maxRecDepth 20000 in
theorem t_L_trade {E : am_E} {l : Launch} (hl : l.stackTraces = false) {S : am_S} {p0 : Nat} {p1 : Int32} {p2 : Int32} {p3 : Int32} (kp0 : am_kd p0 = 111) : am_M E l yL_trade (.codeWith yL_trade cL_trade 5 (some .int) [(0, 7, 10, 24), (0, 7, 14, 13)]) 3 4 24 [.ref p0, .int p1, .int p2, .int p3] S (f_L_trade S p0 p1 p2 p3) := by
  refine am_M_id (am_MH_of (w := fun x => x) hl (by decide) (am_fc rfl (am_fc rfl (am_fc rfl (am_fc rfl am_fn)))) (Nat.le_of_ble_eq_true rfl) ?_)
  show am_Ev E l (RL, cL_trade, 5, (some .int), [(0, 7, 10, 24), (0, 7, 14, 13)], am_rm 3 4 24) (am_Z E 4 24) 0 0 0 [some (.ref p0), some (.int p1), some (.int p2), some (.int p3), none] [] S (f_L_trade S p0 p1 p2 p3)
  unfold f_L_trade
  refine ev_aload_n dL_trade_0 rfl ?_
  refine ev_iload_n dL_trade_1 rfl ?_
  refine ev_iload_n dL_trade_2 rfl ?_
  refine ev_iload_n dL_trade_3 rfl ?_
  refine ev_callCV (am_callV (as := [.int p1, .int p2, .int p3]) (o := p0) (st := []) cv_L_65 dL_trade_4 kp0 rfl (am_le rfl) (am_fit (by omega) (by decide) (by decide) (by decide)) (t_X11_trade hl kp0)) (by decide) (by decide) hd_L_trade (fun S1 h1 => ?_)
  refine ev_goto (tgt := 18) dL_trade_7 (by decide) ?_
  refine ev_iconst (v := 0) dL_trade_18 (by decide) ?_
  exact ev_iret dL_trade_19 rfl rfl (by decide) (by decide) rfl
theorem hd_L_colours : ∀ k n, List.lookup k [(0, (1 : Int32))] = some n → am_Hd (RL, cL_colours, 4, (some .int), [(0, 9, 12, 24)], am_rm 63 1 6) 4 k n := am_lkc (⟨[], ⟨0, 9, 12, 24⟩, [], 3, 1, 1, rfl, (fun _ h => nomatch h), by decide, by decide, am_G_t (i := 833) (by decide +kernel) rfl, am_nw_t (i := 846) (by decide +kernel) rfl, by decide, Or.inr ⟨3, dL_colours_12, rfl, rfl⟩, by decide, dL_colours_13, rfl, dL_colours_14, rfl⟩) (am_lk0)
def f_L_colours (S : am_S) (p0 : Nat) (p1 : Int32) (p2 : Nat) : Option (am_R) :=
  (am_ctI (f_X11_colours S p0 p1) (fun v1 S1 => ((am_st S1.1 p2 0 v1).bind (fun σ2 => some (.inl (some (.int 0)), (σ2, S1.2))))) [(0, 1)])
set_option maxRecDepth 20000 in
theorem t_L_colours {E : am_E} {l : Launch} (hl : l.stackTraces = false) {S : am_S} {p0 : Nat} {p1 : Int32} {p2 : Nat} (kp0 : am_kd p0 = 111) (kp2 : am_kd p2 = 4) : am_M E l yL_colours (.codeWith yL_colours cL_colours 4 (some .int) [(0, 9, 12, 24)]) 63 1 6 [.ref p0, .int p1, .ref p2] S (f_L_colours S p0 p1 p2) := by
  refine am_M_id (am_MH_of (w := fun x => x) hl (by decide) (am_fc rfl (am_fc rfl (am_fc rfl am_fn))) (Nat.le_of_ble_eq_true rfl) ?_)
  show am_Ev E l (RL, cL_colours, 4, (some .int), [(0, 9, 12, 24)], am_rm 63 1 6) (am_Z E 1 6) 0 0 0 [some (.ref p0), some (.int p1), some (.ref p2), none] [] S (f_L_colours S p0 p1 p2)
  unfold f_L_colours
  refine ev_aload_n dL_colours_0 rfl ?_
  refine ev_iconst (v := 0) dL_colours_1 (by decide) ?_
  refine ev_aload_n dL_colours_2 rfl ?_
  refine ev_iload_n dL_colours_3 rfl ?_
  refine ev_callCI (am_callV (as := [.int p1]) (o := p0) (st := [.int 0, .ref p2]) cv_L_69 dL_colours_4 kp0 rfl (am_le rfl) (am_fit (by omega) (by decide) (by decide) (by decide)) (t_X11_colours hl kp0)) (by decide) (by decide) hd_L_colours (fun v1 S1 h1 => ?_)
  refine ev_i2l dL_colours_7 ?_
  refine ev_last dL_colours_8 kp2 (fun σ2 h2 => ?_)
  refine ev_goto (tgt := 15) dL_colours_9 (by decide) ?_
  refine ev_iconst (v := 0) dL_colours_15 (by decide) ?_
  exact ev_iret dL_colours_16 rfl rfl (by decide) (by decide) rfl
theorem hd_L_relay : ∀ k n, List.lookup k [(0, (1 : Int32)), (1, (2 : Int32))] = some n → am_Hd (RL, cL_relay, 6, (some .int), [(0, 12, 15, 24), (0, 12, 19, 13)], am_rm 5 4 24) 7 k n := am_lkc (⟨[], ⟨0, 12, 15, 24⟩, [⟨0, 12, 19, 13⟩], 5, 2, 1, rfl, (fun _ h => nomatch h), by decide, by decide, am_G_t (i := 833) (by decide +kernel) rfl, am_nw_t (i := 846) (by decide +kernel) rfl, by decide, Or.inl ⟨dL_relay_15, rfl⟩, by decide, dL_relay_17, rfl, dL_relay_18, rfl⟩) (am_lkc (⟨[⟨0, 12, 15, 24⟩], ⟨0, 12, 19, 13⟩, [], 5, 2, 2, rfl, (List.forall_mem_cons.mpr ⟨⟨by decide, 0, by decide, by decide, am_G_t (i := 833) (by decide +kernel) rfl⟩, (fun _ h => nomatch h)⟩), by decide, by decide, am_G_t (i := 537) (by decide +kernel) rfl, am_nw_t (i := 671) (by decide +kernel) rfl, by decide, Or.inl ⟨dL_relay_19, rfl⟩, by decide, dL_relay_21, rfl, dL_relay_22, rfl⟩) (am_lk0))
def f_L_relay (S : am_S) (p0 : Nat) (p1 : Int32) (p2 : Int32) (p3 : Int32) (p4 : Nat) : Option (am_R) :=
  (am_ctI (f_X11_relay S p0 p1 p2 p3) (fun v1 S1 => ((am_st S1.1 p4 0 v1).bind (fun σ2 => some (.inl (some (.int 0)), (σ2, S1.2))))) [(0, 1), (1, 2)])
set_option maxRecDepth 20000 in
theorem t_L_relay {E : am_E} {l : Launch} (hl : l.stackTraces = false) {S : am_S} {p0 : Nat} {p1 : Int32} {p2 : Int32} {p3 : Int32} {p4 : Nat} (kp0 : am_kd p0 = 111) (kp4 : am_kd p4 = 4) : am_M E l yL_relay (.codeWith yL_relay cL_relay 6 (some .int) [(0, 12, 15, 24), (0, 12, 19, 13)]) 5 4 24 [.ref p0, .int p1, .int p2, .int p3, .ref p4] S (f_L_relay S p0 p1 p2 p3 p4) := by
  refine am_M_id (am_MH_of (w := fun x => x) hl (by decide) (am_fc rfl (am_fc rfl (am_fc rfl (am_fc rfl (am_fc rfl am_fn))))) (Nat.le_of_ble_eq_true rfl) ?_)
  show am_Ev E l (RL, cL_relay, 6, (some .int), [(0, 12, 15, 24), (0, 12, 19, 13)], am_rm 5 4 24) (am_Z E 4 24) 0 0 0 [some (.ref p0), some (.int p1), some (.int p2), some (.int p3), some (.ref p4), none] [] S (f_L_relay S p0 p1 p2 p3 p4)
  unfold f_L_relay
  refine ev_aload dL_relay_0 rfl ?_
  refine ev_iconst (v := 0) dL_relay_2 (by decide) ?_
  refine ev_aload_n dL_relay_3 rfl ?_
  refine ev_iload_n dL_relay_4 rfl ?_
  refine ev_iload_n dL_relay_5 rfl ?_
  refine ev_iload_n dL_relay_6 rfl ?_
  refine ev_callCI (am_callV (as := [.int p1, .int p2, .int p3]) (o := p0) (st := [.int 0, .ref p4]) cv_L_72 dL_relay_7 kp0 rfl (am_le rfl) (am_fit (by omega) (by decide) (by decide) (by decide)) (t_X11_relay hl kp0)) (by decide) (by decide) hd_L_relay (fun v1 S1 h1 => ?_)
  refine ev_i2l dL_relay_10 ?_
  refine ev_last dL_relay_11 kp4 (fun σ2 h2 => ?_)
  refine ev_goto (tgt := 23) dL_relay_12 (by decide) ?_
  refine ev_iconst (v := 0) dL_relay_23 (by decide) ?_
  exact ev_iret dL_relay_24 rfl rfl (by decide) (by decide) rfl
theorem hd_L_ringers : ∀ k n, List.lookup k [(0, (1 : Int32)), (1, (2 : Int32))] = some n → am_Hd (RL, cL_ringers, 5, (some .int), [(0, 10, 13, 24), (0, 10, 17, 13)], am_rm 5 3 18) 5 k n := am_lkc (⟨[], ⟨0, 10, 13, 24⟩, [⟨0, 10, 17, 13⟩], 4, 2, 1, rfl, (fun _ h => nomatch h), by decide, by decide, am_G_t (i := 833) (by decide +kernel) rfl, am_nw_t (i := 846) (by decide +kernel) rfl, by decide, Or.inl ⟨dL_ringers_13, rfl⟩, by decide, dL_ringers_15, rfl, dL_ringers_16, rfl⟩) (am_lkc (⟨[⟨0, 10, 13, 24⟩], ⟨0, 10, 17, 13⟩, [], 4, 2, 2, rfl, (List.forall_mem_cons.mpr ⟨⟨by decide, 0, by decide, by decide, am_G_t (i := 833) (by decide +kernel) rfl⟩, (fun _ h => nomatch h)⟩), by decide, by decide, am_G_t (i := 537) (by decide +kernel) rfl, am_nw_t (i := 671) (by decide +kernel) rfl, by decide, Or.inl ⟨dL_ringers_17, rfl⟩, by decide, dL_ringers_19, rfl, dL_ringers_20, rfl⟩) (am_lk0))
def f_L_ringers (S : am_S) (p0 : Nat) (p1 : Int32) (p2 : Int32) (p3 : Nat) : Option (am_R) :=
  (am_ctI (f_X11_ringers S p0 p1 p2) (fun v1 S1 => ((am_st S1.1 p3 0 v1).bind (fun σ2 => some (.inl (some (.int 0)), (σ2, S1.2))))) [(0, 1), (1, 2)])
set_option maxRecDepth 20000 in
theorem t_L_ringers {E : am_E} {l : Launch} (hl : l.stackTraces = false) {S : am_S} {p0 : Nat} {p1 : Int32} {p2 : Int32} {p3 : Nat} (kp0 : am_kd p0 = 111) (kp3 : am_kd p3 = 4) : am_M E l yL_ringers (.codeWith yL_ringers cL_ringers 5 (some .int) [(0, 10, 13, 24), (0, 10, 17, 13)]) 5 3 18 [.ref p0, .int p1, .int p2, .ref p3] S (f_L_ringers S p0 p1 p2 p3) := by
  refine am_M_id (am_MH_of (w := fun x => x) hl (by decide) (am_fc rfl (am_fc rfl (am_fc rfl (am_fc rfl am_fn)))) (Nat.le_of_ble_eq_true rfl) ?_)
  show am_Ev E l (RL, cL_ringers, 5, (some .int), [(0, 10, 13, 24), (0, 10, 17, 13)], am_rm 5 3 18) (am_Z E 3 18) 0 0 0 [some (.ref p0), some (.int p1), some (.int p2), some (.ref p3), none] [] S (f_L_ringers S p0 p1 p2 p3)
  unfold f_L_ringers
  refine ev_aload_n dL_ringers_0 rfl ?_
  refine ev_iconst (v := 0) dL_ringers_1 (by decide) ?_
  refine ev_aload_n dL_ringers_2 rfl ?_
  refine ev_iload_n dL_ringers_3 rfl ?_
  refine ev_iload_n dL_ringers_4 rfl ?_
  refine ev_callCI (am_callV (as := [.int p1, .int p2]) (o := p0) (st := [.int 0, .ref p3]) cv_L_75 dL_ringers_5 kp0 rfl (am_le rfl) (am_fit (by omega) (by decide) (by decide) (by decide)) (t_X11_ringers hl kp0)) (by decide) (by decide) hd_L_ringers (fun v1 S1 h1 => ?_)
  refine ev_i2l dL_ringers_8 ?_
  refine ev_last dL_ringers_9 kp3 (fun σ2 h2 => ?_)
  refine ev_goto (tgt := 21) dL_ringers_10 (by decide) ?_
  refine ev_iconst (v := 0) dL_ringers_21 (by decide) ?_
  exact ev_iret dL_ringers_22 rfl rfl (by decide) (by decide) rfl
theorem hd_L_six : ∀ k n, List.lookup k [(0, (1 : Int32)), (3, (2 : Int32))] = some n → am_Hd (RL, cL_six, 5, (some .int), [(0, 10, 13, 24), (0, 10, 17, 26)], am_rm 7 2 12) 5 k n := am_lkc (⟨[], ⟨0, 10, 13, 24⟩, [⟨0, 10, 17, 26⟩], 4, 2, 1, rfl, (fun _ h => nomatch h), by decide, by decide, am_G_t (i := 833) (by decide +kernel) rfl, am_nw_t (i := 846) (by decide +kernel) rfl, by decide, Or.inl ⟨dL_six_13, rfl⟩, by decide, dL_six_15, rfl, dL_six_16, rfl⟩) (am_lkc (⟨[⟨0, 10, 13, 24⟩], ⟨0, 10, 17, 26⟩, [], 4, 2, 2, rfl, (List.forall_mem_cons.mpr ⟨⟨by decide, 0, by decide, by decide, am_G_t (i := 833) (by decide +kernel) rfl⟩, (fun _ h => nomatch h)⟩), by decide, by decide, am_G_t (i := 834) (by decide +kernel) rfl, am_nw_t (i := 863) (by decide +kernel) rfl, by decide, Or.inl ⟨dL_six_17, rfl⟩, by decide, dL_six_19, rfl, dL_six_20, rfl⟩) (am_lk0))
def f_L_six (S : am_S) (p0 : Nat) (p1 : Int32) (p2 : Int32) (p3 : Nat) : Option (am_R) :=
  (am_ctI (f_X11_six S p0 p1 p2) (fun v1 S1 => ((am_st S1.1 p3 0 v1).bind (fun σ2 => some (.inl (some (.int 0)), (σ2, S1.2))))) [(0, 1), (3, 2)])
set_option maxRecDepth 20000 in
theorem t_L_six {E : am_E} {l : Launch} (hl : l.stackTraces = false) {S : am_S} {p0 : Nat} {p1 : Int32} {p2 : Int32} {p3 : Nat} (kp0 : am_kd p0 = 111) (kp3 : am_kd p3 = 4) : am_M E l yL_six (.codeWith yL_six cL_six 5 (some .int) [(0, 10, 13, 24), (0, 10, 17, 26)]) 7 2 12 [.ref p0, .int p1, .int p2, .ref p3] S (f_L_six S p0 p1 p2 p3) := by
  refine am_M_id (am_MH_of (w := fun x => x) hl (by decide) (am_fc rfl (am_fc rfl (am_fc rfl (am_fc rfl am_fn)))) (Nat.le_of_ble_eq_true rfl) ?_)
  show am_Ev E l (RL, cL_six, 5, (some .int), [(0, 10, 13, 24), (0, 10, 17, 26)], am_rm 7 2 12) (am_Z E 2 12) 0 0 0 [some (.ref p0), some (.int p1), some (.int p2), some (.ref p3), none] [] S (f_L_six S p0 p1 p2 p3)
  unfold f_L_six
  refine ev_aload_n dL_six_0 rfl ?_
  refine ev_iconst (v := 0) dL_six_1 (by decide) ?_
  refine ev_aload_n dL_six_2 rfl ?_
  refine ev_iload_n dL_six_3 rfl ?_
  refine ev_iload_n dL_six_4 rfl ?_
  refine ev_callCI (am_callV (as := [.int p1, .int p2]) (o := p0) (st := [.int 0, .ref p3]) cv_L_78 dL_six_5 kp0 rfl (am_le rfl) (am_fit (by omega) (by decide) (by decide) (by decide)) (t_X11_six hl kp0)) (by decide) (by decide) hd_L_six (fun v1 S1 h1 => ?_)
  refine ev_i2l dL_six_8 ?_
  refine ev_last dL_six_9 kp3 (fun σ2 h2 => ?_)
  refine ev_goto (tgt := 21) dL_six_10 (by decide) ?_
  refine ev_iconst (v := 0) dL_six_21 (by decide) ?_
  exact ev_iret dL_six_22 rfl rfl (by decide) (by decide) rfl
theorem hd_L_lot : ∀ k n, List.lookup k [(0, (1 : Int32)), (3, (2 : Int32))] = some n → am_Hd (RL, cL_lot, 6, (some .int), [(0, 12, 15, 24), (0, 12, 19, 26)], am_rm 7 2 12) 7 k n := am_lkc (⟨[], ⟨0, 12, 15, 24⟩, [⟨0, 12, 19, 26⟩], 5, 2, 1, rfl, (fun _ h => nomatch h), by decide, by decide, am_G_t (i := 833) (by decide +kernel) rfl, am_nw_t (i := 846) (by decide +kernel) rfl, by decide, Or.inl ⟨dL_lot_15, rfl⟩, by decide, dL_lot_17, rfl, dL_lot_18, rfl⟩) (am_lkc (⟨[⟨0, 12, 15, 24⟩], ⟨0, 12, 19, 26⟩, [], 5, 2, 2, rfl, (List.forall_mem_cons.mpr ⟨⟨by decide, 0, by decide, by decide, am_G_t (i := 833) (by decide +kernel) rfl⟩, (fun _ h => nomatch h)⟩), by decide, by decide, am_G_t (i := 834) (by decide +kernel) rfl, am_nw_t (i := 863) (by decide +kernel) rfl, by decide, Or.inl ⟨dL_lot_19, rfl⟩, by decide, dL_lot_21, rfl, dL_lot_22, rfl⟩) (am_lk0))
def f_L_lot (S : am_S) (p0 : Nat) (p1 : Int32) (p2 : Int32) (p3 : Int32) (p4 : Nat) : Option (am_R) :=
  (am_ctI (f_X11_lot S p0 p1 p2 p3) (fun v1 S1 => ((am_st S1.1 p4 0 v1).bind (fun σ2 => some (.inl (some (.int 0)), (σ2, S1.2))))) [(0, 1), (3, 2)])
set_option maxRecDepth 20000 in
theorem t_L_lot {E : am_E} {l : Launch} (hl : l.stackTraces = false) {S : am_S} {p0 : Nat} {p1 : Int32} {p2 : Int32} {p3 : Int32} {p4 : Nat} (kp0 : am_kd p0 = 111) (kp4 : am_kd p4 = 4) : am_M E l yL_lot (.codeWith yL_lot cL_lot 6 (some .int) [(0, 12, 15, 24), (0, 12, 19, 26)]) 7 2 12 [.ref p0, .int p1, .int p2, .int p3, .ref p4] S (f_L_lot S p0 p1 p2 p3 p4) := by
  refine am_M_id (am_MH_of (w := fun x => x) hl (by decide) (am_fc rfl (am_fc rfl (am_fc rfl (am_fc rfl (am_fc rfl am_fn))))) (Nat.le_of_ble_eq_true rfl) ?_)
  show am_Ev E l (RL, cL_lot, 6, (some .int), [(0, 12, 15, 24), (0, 12, 19, 26)], am_rm 7 2 12) (am_Z E 2 12) 0 0 0 [some (.ref p0), some (.int p1), some (.int p2), some (.int p3), some (.ref p4), none] [] S (f_L_lot S p0 p1 p2 p3 p4)
  unfold f_L_lot
  refine ev_aload dL_lot_0 rfl ?_
  refine ev_iconst (v := 0) dL_lot_2 (by decide) ?_
  refine ev_aload_n dL_lot_3 rfl ?_
  refine ev_iload_n dL_lot_4 rfl ?_
  refine ev_iload_n dL_lot_5 rfl ?_
  refine ev_iload_n dL_lot_6 rfl ?_
  refine ev_callCI (am_callV (as := [.int p1, .int p2, .int p3]) (o := p0) (st := [.int 0, .ref p4]) cv_L_81 dL_lot_7 kp0 rfl (am_le rfl) (am_fit (by omega) (by decide) (by decide) (by decide)) (t_X11_lot hl kp0)) (by decide) (by decide) hd_L_lot (fun v1 S1 h1 => ?_)
  refine ev_i2l dL_lot_10 ?_
  refine ev_last dL_lot_11 kp4 (fun σ2 h2 => ?_)
  refine ev_goto (tgt := 23) dL_lot_12 (by decide) ?_
  refine ev_iconst (v := 0) dL_lot_23 (by decide) ?_
  exact ev_iret dL_lot_24 rfl rfl (by decide) (by decide) rfl
theorem hd_L_room : ∀ k n, List.lookup k [(0, (1 : Int32)), (1, (2 : Int32))] = some n → am_Hd (RL, cL_room, 6, (some .int), [(0, 12, 15, 24), (0, 12, 19, 13)], am_rm 64 3 18) 7 k n := am_lkc (⟨[], ⟨0, 12, 15, 24⟩, [⟨0, 12, 19, 13⟩], 5, 2, 1, rfl, (fun _ h => nomatch h), by decide, by decide, am_G_t (i := 833) (by decide +kernel) rfl, am_nw_t (i := 846) (by decide +kernel) rfl, by decide, Or.inl ⟨dL_room_15, rfl⟩, by decide, dL_room_17, rfl, dL_room_18, rfl⟩) (am_lkc (⟨[⟨0, 12, 15, 24⟩], ⟨0, 12, 19, 13⟩, [], 5, 2, 2, rfl, (List.forall_mem_cons.mpr ⟨⟨by decide, 0, by decide, by decide, am_G_t (i := 833) (by decide +kernel) rfl⟩, (fun _ h => nomatch h)⟩), by decide, by decide, am_G_t (i := 537) (by decide +kernel) rfl, am_nw_t (i := 671) (by decide +kernel) rfl, by decide, Or.inl ⟨dL_room_19, rfl⟩, by decide, dL_room_21, rfl, dL_room_22, rfl⟩) (am_lk0))
def f_L_room (S : am_S) (p0 : Nat) (p1 : Int32) (p2 : Int32) (p3 : Int32) (p4 : Nat) : Option (am_R) :=
  (am_ctI (f_X11_room S p0 p1 p2 p3) (fun v1 S1 => ((am_st S1.1 p4 0 v1).bind (fun σ2 => some (.inl (some (.int 0)), (σ2, S1.2))))) [(0, 1), (1, 2)])
set_option maxRecDepth 20000 in
theorem t_L_room {E : am_E} {l : Launch} (hl : l.stackTraces = false) {S : am_S} {p0 : Nat} {p1 : Int32} {p2 : Int32} {p3 : Int32} {p4 : Nat} (kp0 : am_kd p0 = 111) (kp4 : am_kd p4 = 4) : am_M E l yL_room (.codeWith yL_room cL_room 6 (some .int) [(0, 12, 15, 24), (0, 12, 19, 13)]) 64 3 18 [.ref p0, .int p1, .int p2, .int p3, .ref p4] S (f_L_room S p0 p1 p2 p3 p4) := by
  refine am_M_id (am_MH_of (w := fun x => x) hl (by decide) (am_fc rfl (am_fc rfl (am_fc rfl (am_fc rfl (am_fc rfl am_fn))))) (Nat.le_of_ble_eq_true rfl) ?_)
  show am_Ev E l (RL, cL_room, 6, (some .int), [(0, 12, 15, 24), (0, 12, 19, 13)], am_rm 64 3 18) (am_Z E 3 18) 0 0 0 [some (.ref p0), some (.int p1), some (.int p2), some (.int p3), some (.ref p4), none] [] S (f_L_room S p0 p1 p2 p3 p4)
  unfold f_L_room
  refine ev_aload dL_room_0 rfl ?_
  refine ev_iconst (v := 0) dL_room_2 (by decide) ?_
  refine ev_aload_n dL_room_3 rfl ?_
  refine ev_iload_n dL_room_4 rfl ?_
  refine ev_iload_n dL_room_5 rfl ?_
  refine ev_iload_n dL_room_6 rfl ?_
  refine ev_callCI (am_callV (as := [.int p1, .int p2, .int p3]) (o := p0) (st := [.int 0, .ref p4]) cv_L_84 dL_room_7 kp0 rfl (am_le rfl) (am_fit (by omega) (by decide) (by decide) (by decide)) (t_X11_room hl kp0)) (by decide) (by decide) hd_L_room (fun v1 S1 h1 => ?_)
  refine ev_i2l dL_room_10 ?_
  refine ev_last dL_room_11 kp4 (fun σ2 h2 => ?_)
  refine ev_goto (tgt := 23) dL_room_12 (by decide) ?_
  refine ev_iconst (v := 0) dL_room_23 (by decide) ?_
  exact ev_iret dL_room_24 rfl rfl (by decide) (by decide) rfl
theorem hd_L_learn : ∀ k n, List.lookup k [(1, (1 : Int32))] = some n → am_Hd (RL, cL_learn, 4, (some .int), [(0, 9, 12, 13)], am_rm 64 1 6) 4 k n := am_lkc (⟨[], ⟨0, 9, 12, 13⟩, [], 3, 1, 1, rfl, (fun _ h => nomatch h), by decide, by decide, am_G_t (i := 537) (by decide +kernel) rfl, am_nw_t (i := 671) (by decide +kernel) rfl, by decide, Or.inr ⟨3, dL_learn_12, rfl, rfl⟩, by decide, dL_learn_13, rfl, dL_learn_14, rfl⟩) (am_lk0)
def f_L_learn (S : am_S) (p0 : Nat) (p1 : Int32) (p2 : Nat) : Option (am_R) :=
  (am_ctI (f_X11_learn S p0 p1) (fun v1 S1 => ((am_st S1.1 p2 0 v1).bind (fun σ2 => some (.inl (some (.int 0)), (σ2, S1.2))))) [(1, 1)])
set_option maxRecDepth 20000 in
theorem t_L_learn {E : am_E} {l : Launch} (hl : l.stackTraces = false) {S : am_S} {p0 : Nat} {p1 : Int32} {p2 : Nat} (kp0 : am_kd p0 = 111) (kp2 : am_kd p2 = 4) : am_M E l yL_learn (.codeWith yL_learn cL_learn 4 (some .int) [(0, 9, 12, 13)]) 64 1 6 [.ref p0, .int p1, .ref p2] S (f_L_learn S p0 p1 p2) := by
  refine am_M_id (am_MH_of (w := fun x => x) hl (by decide) (am_fc rfl (am_fc rfl (am_fc rfl am_fn))) (Nat.le_of_ble_eq_true rfl) ?_)
  show am_Ev E l (RL, cL_learn, 4, (some .int), [(0, 9, 12, 13)], am_rm 64 1 6) (am_Z E 1 6) 0 0 0 [some (.ref p0), some (.int p1), some (.ref p2), none] [] S (f_L_learn S p0 p1 p2)
  unfold f_L_learn
  refine ev_aload_n dL_learn_0 rfl ?_
  refine ev_iconst (v := 0) dL_learn_1 (by decide) ?_
  refine ev_aload_n dL_learn_2 rfl ?_
  refine ev_iload_n dL_learn_3 rfl ?_
  refine ev_callCI (am_callV (as := [.int p1]) (o := p0) (st := [.int 0, .ref p2]) cv_L_88 dL_learn_4 kp0 rfl (am_le rfl) (am_fit (by omega) (by decide) (by decide) (by decide)) (t_X11_learn hl kp0)) (by decide) (by decide) hd_L_learn (fun v1 S1 h1 => ?_)
  refine ev_i2l dL_learn_7 ?_
  refine ev_last dL_learn_8 kp2 (fun σ2 h2 => ?_)
  refine ev_goto (tgt := 15) dL_learn_9 (by decide) ?_
  refine ev_iconst (v := 0) dL_learn_15 (by decide) ?_
  exact ev_iret dL_learn_16 rfl rfl (by decide) (by decide) rfl
theorem hd_L_fooled : ∀ k n, List.lookup k [(0, (1 : Int32)), (1, (2 : Int32))] = some n → am_Hd (RL, cL_fooled, 6, (some .int), [(0, 12, 15, 24), (0, 12, 19, 13)], am_rm 5 3 18) 7 k n := am_lkc (⟨[], ⟨0, 12, 15, 24⟩, [⟨0, 12, 19, 13⟩], 5, 2, 1, rfl, (fun _ h => nomatch h), by decide, by decide, am_G_t (i := 833) (by decide +kernel) rfl, am_nw_t (i := 846) (by decide +kernel) rfl, by decide, Or.inl ⟨dL_fooled_15, rfl⟩, by decide, dL_fooled_17, rfl, dL_fooled_18, rfl⟩) (am_lkc (⟨[⟨0, 12, 15, 24⟩], ⟨0, 12, 19, 13⟩, [], 5, 2, 2, rfl, (List.forall_mem_cons.mpr ⟨⟨by decide, 0, by decide, by decide, am_G_t (i := 833) (by decide +kernel) rfl⟩, (fun _ h => nomatch h)⟩), by decide, by decide, am_G_t (i := 537) (by decide +kernel) rfl, am_nw_t (i := 671) (by decide +kernel) rfl, by decide, Or.inl ⟨dL_fooled_19, rfl⟩, by decide, dL_fooled_21, rfl, dL_fooled_22, rfl⟩) (am_lk0))
def f_L_fooled (S : am_S) (p0 : Nat) (p1 : Int32) (p2 : Int32) (p3 : Int32) (p4 : Nat) : Option (am_R) :=
  (am_ctI (f_X11_fooled S p0 p1 p2 p3) (fun v1 S1 => ((am_st S1.1 p4 0 v1).bind (fun σ2 => some (.inl (some (.int 0)), (σ2, S1.2))))) [(0, 1), (1, 2)])
set_option maxRecDepth 20000 in
theorem t_L_fooled {E : am_E} {l : Launch} (hl : l.stackTraces = false) {S : am_S} {p0 : Nat} {p1 : Int32} {p2 : Int32} {p3 : Int32} {p4 : Nat} (kp0 : am_kd p0 = 111) (kp4 : am_kd p4 = 4) : am_M E l yL_fooled (.codeWith yL_fooled cL_fooled 6 (some .int) [(0, 12, 15, 24), (0, 12, 19, 13)]) 5 3 18 [.ref p0, .int p1, .int p2, .int p3, .ref p4] S (f_L_fooled S p0 p1 p2 p3 p4) := by
  refine am_M_id (am_MH_of (w := fun x => x) hl (by decide) (am_fc rfl (am_fc rfl (am_fc rfl (am_fc rfl (am_fc rfl am_fn))))) (Nat.le_of_ble_eq_true rfl) ?_)
  show am_Ev E l (RL, cL_fooled, 6, (some .int), [(0, 12, 15, 24), (0, 12, 19, 13)], am_rm 5 3 18) (am_Z E 3 18) 0 0 0 [some (.ref p0), some (.int p1), some (.int p2), some (.int p3), some (.ref p4), none] [] S (f_L_fooled S p0 p1 p2 p3 p4)
  unfold f_L_fooled
  refine ev_aload dL_fooled_0 rfl ?_
  refine ev_iconst (v := 0) dL_fooled_2 (by decide) ?_
  refine ev_aload_n dL_fooled_3 rfl ?_
  refine ev_iload_n dL_fooled_4 rfl ?_
  refine ev_iload_n dL_fooled_5 rfl ?_
  refine ev_iload_n dL_fooled_6 rfl ?_
  refine ev_callCI (am_callV (as := [.int p1, .int p2, .int p3]) (o := p0) (st := [.int 0, .ref p4]) cv_L_91 dL_fooled_7 kp0 rfl (am_le rfl) (am_fit (by omega) (by decide) (by decide) (by decide)) (t_X11_fooled hl kp0)) (by decide) (by decide) hd_L_fooled (fun v1 S1 h1 => ?_)
  refine ev_i2l dL_fooled_10 ?_
  refine ev_last dL_fooled_11 kp4 (fun σ2 h2 => ?_)
  refine ev_goto (tgt := 23) dL_fooled_12 (by decide) ?_
  refine ev_iconst (v := 0) dL_fooled_23 (by decide) ?_
  exact ev_iret dL_fooled_24 rfl rfl (by decide) (by decide) rfl
theorem hd_L_could : ∀ k n, List.lookup k [(0, (1 : Int32))] = some n → am_Hd (RL, cL_could, 5, (some .int), [(0, 10, 13, 24)], am_rm 6 2 12) 5 k n := am_lkc (⟨[], ⟨0, 10, 13, 24⟩, [], 4, 2, 1, rfl, (fun _ h => nomatch h), by decide, by decide, am_G_t (i := 833) (by decide +kernel) rfl, am_nw_t (i := 846) (by decide +kernel) rfl, by decide, Or.inl ⟨dL_could_13, rfl⟩, by decide, dL_could_15, rfl, dL_could_16, rfl⟩) (am_lk0)
def f_L_could (S : am_S) (p0 : Nat) (p1 : Int32) (p2 : Int32) (p3 : Nat) : Option (am_R) :=
  (am_ctI (f_X11_could S p0 p1 p2) (fun v1 S1 => ((am_st S1.1 p3 0 v1).bind (fun σ2 => some (.inl (some (.int 0)), (σ2, S1.2))))) [(0, 1)])
set_option maxRecDepth 20000 in
theorem t_L_could {E : am_E} {l : Launch} (hl : l.stackTraces = false) {S : am_S} {p0 : Nat} {p1 : Int32} {p2 : Int32} {p3 : Nat} (kp0 : am_kd p0 = 111) (kp3 : am_kd p3 = 4) : am_M E l yL_could (.codeWith yL_could cL_could 5 (some .int) [(0, 10, 13, 24)]) 6 2 12 [.ref p0, .int p1, .int p2, .ref p3] S (f_L_could S p0 p1 p2 p3) := by
  refine am_M_id (am_MH_of (w := fun x => x) hl (by decide) (am_fc rfl (am_fc rfl (am_fc rfl (am_fc rfl am_fn)))) (Nat.le_of_ble_eq_true rfl) ?_)
  show am_Ev E l (RL, cL_could, 5, (some .int), [(0, 10, 13, 24)], am_rm 6 2 12) (am_Z E 2 12) 0 0 0 [some (.ref p0), some (.int p1), some (.int p2), some (.ref p3), none] [] S (f_L_could S p0 p1 p2 p3)
  unfold f_L_could
  refine ev_aload_n dL_could_0 rfl ?_
  refine ev_iconst (v := 0) dL_could_1 (by decide) ?_
  refine ev_aload_n dL_could_2 rfl ?_
  refine ev_iload_n dL_could_3 rfl ?_
  refine ev_iload_n dL_could_4 rfl ?_
  refine ev_callCI (am_callV (as := [.int p1, .int p2]) (o := p0) (st := [.int 0, .ref p3]) cv_L_94 dL_could_5 kp0 rfl (am_le rfl) (am_fit (by omega) (by decide) (by decide) (by decide)) (t_X11_could hl kp0)) (by decide) (by decide) hd_L_could (fun v1 S1 h1 => ?_)
  refine ev_i2l dL_could_8 ?_
  refine ev_last dL_could_9 kp3 (fun σ2 h2 => ?_)
  refine ev_goto (tgt := 17) dL_could_10 (by decide) ?_
  refine ev_iconst (v := 0) dL_could_17 (by decide) ?_
  exact ev_iret dL_could_18 rfl rfl (by decide) (by decide) rfl
theorem hd_L_understood : ∀ k n, List.lookup k [(0, (1 : Int32))] = some n → am_Hd (RL, cL_understood, 4, (some .int), [(0, 9, 12, 24)], am_rm 5 1 6) 4 k n := am_lkc (⟨[], ⟨0, 9, 12, 24⟩, [], 3, 1, 1, rfl, (fun _ h => nomatch h), by decide, by decide, am_G_t (i := 833) (by decide +kernel) rfl, am_nw_t (i := 846) (by decide +kernel) rfl, by decide, Or.inr ⟨3, dL_understood_12, rfl, rfl⟩, by decide, dL_understood_13, rfl, dL_understood_14, rfl⟩) (am_lk0)
def f_L_understood (S : am_S) (p0 : Nat) (p1 : Int32) (p2 : Nat) : Option (am_R) :=
  (am_ctI (f_X11_understood S p0 p1) (fun v1 S1 => ((am_st S1.1 p2 0 v1).bind (fun σ2 => some (.inl (some (.int 0)), (σ2, S1.2))))) [(0, 1)])
set_option maxRecDepth 20000 in
theorem t_L_understood {E : am_E} {l : Launch} (hl : l.stackTraces = false) {S : am_S} {p0 : Nat} {p1 : Int32} {p2 : Nat} (kp0 : am_kd p0 = 111) (kp2 : am_kd p2 = 4) : am_M E l yL_understood (.codeWith yL_understood cL_understood 4 (some .int) [(0, 9, 12, 24)]) 5 1 6 [.ref p0, .int p1, .ref p2] S (f_L_understood S p0 p1 p2) := by
  refine am_M_id (am_MH_of (w := fun x => x) hl (by decide) (am_fc rfl (am_fc rfl (am_fc rfl am_fn))) (Nat.le_of_ble_eq_true rfl) ?_)
  show am_Ev E l (RL, cL_understood, 4, (some .int), [(0, 9, 12, 24)], am_rm 5 1 6) (am_Z E 1 6) 0 0 0 [some (.ref p0), some (.int p1), some (.ref p2), none] [] S (f_L_understood S p0 p1 p2)
  unfold f_L_understood
  refine ev_aload_n dL_understood_0 rfl ?_
  refine ev_iconst (v := 0) dL_understood_1 (by decide) ?_
  refine ev_aload_n dL_understood_2 rfl ?_
  refine ev_iload_n dL_understood_3 rfl ?_
  refine ev_callCI (am_callV (as := [.int p1]) (o := p0) (st := [.int 0, .ref p2]) cv_L_97 dL_understood_4 kp0 rfl (am_le rfl) (am_fit (by omega) (by decide) (by decide) (by decide)) (t_X11_understood hl kp0)) (by decide) (by decide) hd_L_understood (fun v1 S1 h1 => ?_)
  refine ev_i2l dL_understood_7 ?_
  refine ev_last dL_understood_8 kp2 (fun σ2 h2 => ?_)
  refine ev_goto (tgt := 15) dL_understood_9 (by decide) ?_
  refine ev_iconst (v := 0) dL_understood_15 (by decide) ?_
  exact ev_iret dL_understood_16 rfl rfl (by decide) (by decide) rfl
theorem hd_L_quiet : ∀ k n, List.lookup k [(0, (1 : Int32)), (1, (2 : Int32)), (2, (3 : Int32))] = some n → am_Hd (RL, cL_quiet, 7, (some .int), [(0, 14, 17, 24), (0, 14, 21, 13), (0, 14, 25, 15)], am_rm 5 6 36) 9 k n := am_lkc (⟨[], ⟨0, 14, 17, 24⟩, [⟨0, 14, 21, 13⟩, ⟨0, 14, 25, 15⟩], 6, 2, 1, rfl, (fun _ h => nomatch h), by decide, by decide, am_G_t (i := 833) (by decide +kernel) rfl, am_nw_t (i := 846) (by decide +kernel) rfl, by decide, Or.inl ⟨dL_quiet_17, rfl⟩, by decide, dL_quiet_19, rfl, dL_quiet_20, rfl⟩) (am_lkc (⟨[⟨0, 14, 17, 24⟩], ⟨0, 14, 21, 13⟩, [⟨0, 14, 25, 15⟩], 6, 2, 2, rfl, (List.forall_mem_cons.mpr ⟨⟨by decide, 0, by decide, by decide, am_G_t (i := 833) (by decide +kernel) rfl⟩, (fun _ h => nomatch h)⟩), by decide, by decide, am_G_t (i := 537) (by decide +kernel) rfl, am_nw_t (i := 671) (by decide +kernel) rfl, by decide, Or.inl ⟨dL_quiet_21, rfl⟩, by decide, dL_quiet_23, rfl, dL_quiet_24, rfl⟩) (am_lkc (⟨[⟨0, 14, 17, 24⟩, ⟨0, 14, 21, 13⟩], ⟨0, 14, 25, 15⟩, [], 6, 2, 3, rfl, (List.forall_mem_cons.mpr ⟨⟨by decide, 0, by decide, by decide, am_G_t (i := 833) (by decide +kernel) rfl⟩, (List.forall_mem_cons.mpr ⟨⟨by decide, 1, by decide, by decide, am_G_t (i := 537) (by decide +kernel) rfl⟩, (fun _ h => nomatch h)⟩)⟩), by decide, by decide, am_G_t (i := 538) (by decide +kernel) rfl, am_nw_t (i := 739) (by decide +kernel) rfl, by decide, Or.inl ⟨dL_quiet_25, rfl⟩, by decide, dL_quiet_27, rfl, dL_quiet_28, rfl⟩) (am_lk0)))
def f_L_quiet (S : am_S) (p0 : Nat) (p1 : Int32) (p2 : Int32) (p3 : Int32) (p4 : Int32) (p5 : Nat) : Option (am_R) :=
  (am_ctI (f_X11_quiet S p0 p1 p2 p3 p4) (fun v1 S1 => ((am_st S1.1 p5 0 v1).bind (fun σ2 => some (.inl (some (.int 0)), (σ2, S1.2))))) [(0, 1), (1, 2), (2, 3)])
set_option maxRecDepth 20000 in
theorem t_L_quiet {E : am_E} {l : Launch} (hl : l.stackTraces = false) {S : am_S} {p0 : Nat} {p1 : Int32} {p2 : Int32} {p3 : Int32} {p4 : Int32} {p5 : Nat} (kp0 : am_kd p0 = 111) (kp5 : am_kd p5 = 4) : am_M E l yL_quiet (.codeWith yL_quiet cL_quiet 7 (some .int) [(0, 14, 17, 24), (0, 14, 21, 13), (0, 14, 25, 15)]) 5 6 36 [.ref p0, .int p1, .int p2, .int p3, .int p4, .ref p5] S (f_L_quiet S p0 p1 p2 p3 p4 p5) := by
  refine am_M_id (am_MH_of (w := fun x => x) hl (by decide) (am_fc rfl (am_fc rfl (am_fc rfl (am_fc rfl (am_fc rfl (am_fc rfl am_fn)))))) (Nat.le_of_ble_eq_true rfl) ?_)
  show am_Ev E l (RL, cL_quiet, 7, (some .int), [(0, 14, 17, 24), (0, 14, 21, 13), (0, 14, 25, 15)], am_rm 5 6 36) (am_Z E 6 36) 0 0 0 [some (.ref p0), some (.int p1), some (.int p2), some (.int p3), some (.int p4), some (.ref p5), none] [] S (f_L_quiet S p0 p1 p2 p3 p4 p5)
  unfold f_L_quiet
  refine ev_aload dL_quiet_0 rfl ?_
  refine ev_iconst (v := 0) dL_quiet_2 (by decide) ?_
  refine ev_aload_n dL_quiet_3 rfl ?_
  refine ev_iload_n dL_quiet_4 rfl ?_
  refine ev_iload_n dL_quiet_5 rfl ?_
  refine ev_iload_n dL_quiet_6 rfl ?_
  refine ev_iload dL_quiet_7 rfl ?_
  refine ev_callCI (am_callV (as := [.int p1, .int p2, .int p3, .int p4]) (o := p0) (st := [.int 0, .ref p5]) cv_L_100 dL_quiet_9 kp0 rfl (am_le rfl) (am_fit (by omega) (by decide) (by decide) (by decide)) (t_X11_quiet hl kp0)) (by decide) (by decide) hd_L_quiet (fun v1 S1 h1 => ?_)
  refine ev_i2l dL_quiet_12 ?_
  refine ev_last dL_quiet_13 kp5 (fun σ2 h2 => ?_)
  refine ev_goto (tgt := 29) dL_quiet_14 (by decide) ?_
  refine ev_iconst (v := 0) dL_quiet_29 (by decide) ?_
  exact ev_iret dL_quiet_30 rfl rfl (by decide) (by decide) rfl
theorem hd_L_worth : ∀ k n, List.lookup k [(0, (1 : Int32)), (1, (2 : Int32))] = some n → am_Hd (RL, cL_worth, 6, (some .int), [(0, 12, 15, 24), (0, 12, 19, 13)], am_rm 6 3 18) 7 k n := am_lkc (⟨[], ⟨0, 12, 15, 24⟩, [⟨0, 12, 19, 13⟩], 5, 2, 1, rfl, (fun _ h => nomatch h), by decide, by decide, am_G_t (i := 833) (by decide +kernel) rfl, am_nw_t (i := 846) (by decide +kernel) rfl, by decide, Or.inl ⟨dL_worth_15, rfl⟩, by decide, dL_worth_17, rfl, dL_worth_18, rfl⟩) (am_lkc (⟨[⟨0, 12, 15, 24⟩], ⟨0, 12, 19, 13⟩, [], 5, 2, 2, rfl, (List.forall_mem_cons.mpr ⟨⟨by decide, 0, by decide, by decide, am_G_t (i := 833) (by decide +kernel) rfl⟩, (fun _ h => nomatch h)⟩), by decide, by decide, am_G_t (i := 537) (by decide +kernel) rfl, am_nw_t (i := 671) (by decide +kernel) rfl, by decide, Or.inl ⟨dL_worth_19, rfl⟩, by decide, dL_worth_21, rfl, dL_worth_22, rfl⟩) (am_lk0))
def f_L_worth (S : am_S) (p0 : Nat) (p1 : Int32) (p2 : Int32) (p3 : Int32) (p4 : Nat) : Option (am_R) :=
  (am_ctI (f_X11_worth S p0 p1 p2 p3) (fun v1 S1 => ((am_st S1.1 p4 0 v1).bind (fun σ2 => some (.inl (some (.int 0)), (σ2, S1.2))))) [(0, 1), (1, 2)])
set_option maxRecDepth 20000 in
theorem t_L_worth {E : am_E} {l : Launch} (hl : l.stackTraces = false) {S : am_S} {p0 : Nat} {p1 : Int32} {p2 : Int32} {p3 : Int32} {p4 : Nat} (kp0 : am_kd p0 = 111) (kp4 : am_kd p4 = 4) : am_M E l yL_worth (.codeWith yL_worth cL_worth 6 (some .int) [(0, 12, 15, 24), (0, 12, 19, 13)]) 6 3 18 [.ref p0, .int p1, .int p2, .int p3, .ref p4] S (f_L_worth S p0 p1 p2 p3 p4) := by
  refine am_M_id (am_MH_of (w := fun x => x) hl (by decide) (am_fc rfl (am_fc rfl (am_fc rfl (am_fc rfl (am_fc rfl am_fn))))) (Nat.le_of_ble_eq_true rfl) ?_)
  show am_Ev E l (RL, cL_worth, 6, (some .int), [(0, 12, 15, 24), (0, 12, 19, 13)], am_rm 6 3 18) (am_Z E 3 18) 0 0 0 [some (.ref p0), some (.int p1), some (.int p2), some (.int p3), some (.ref p4), none] [] S (f_L_worth S p0 p1 p2 p3 p4)
  unfold f_L_worth
  refine ev_aload dL_worth_0 rfl ?_
  refine ev_iconst (v := 0) dL_worth_2 (by decide) ?_
  refine ev_aload_n dL_worth_3 rfl ?_
  refine ev_iload_n dL_worth_4 rfl ?_
  refine ev_iload_n dL_worth_5 rfl ?_
  refine ev_iload_n dL_worth_6 rfl ?_
  refine ev_callCI (am_callV (as := [.int p1, .int p2, .int p3]) (o := p0) (st := [.int 0, .ref p4]) cv_L_104 dL_worth_7 kp0 rfl (am_le rfl) (am_fit (by omega) (by decide) (by decide) (by decide)) (t_X11_worth hl kp0)) (by decide) (by decide) hd_L_worth (fun v1 S1 h1 => ?_)
  refine ev_i2l dL_worth_10 ?_
  refine ev_last dL_worth_11 kp4 (fun σ2 h2 => ?_)
  refine ev_goto (tgt := 23) dL_worth_12 (by decide) ?_
  refine ev_iconst (v := 0) dL_worth_23 (by decide) ?_
  exact ev_iret dL_worth_24 rfl rfl (by decide) (by decide) rfl
theorem hd_L_sale : ∀ k n, List.lookup k [(0, (1 : Int32)), (1, (2 : Int32))] = some n → am_Hd (RL, cL_sale, 6, (some .int), [(0, 12, 15, 24), (0, 12, 19, 13)], am_rm 6 2 12) 7 k n := am_lkc (⟨[], ⟨0, 12, 15, 24⟩, [⟨0, 12, 19, 13⟩], 5, 2, 1, rfl, (fun _ h => nomatch h), by decide, by decide, am_G_t (i := 833) (by decide +kernel) rfl, am_nw_t (i := 846) (by decide +kernel) rfl, by decide, Or.inl ⟨dL_sale_15, rfl⟩, by decide, dL_sale_17, rfl, dL_sale_18, rfl⟩) (am_lkc (⟨[⟨0, 12, 15, 24⟩], ⟨0, 12, 19, 13⟩, [], 5, 2, 2, rfl, (List.forall_mem_cons.mpr ⟨⟨by decide, 0, by decide, by decide, am_G_t (i := 833) (by decide +kernel) rfl⟩, (fun _ h => nomatch h)⟩), by decide, by decide, am_G_t (i := 537) (by decide +kernel) rfl, am_nw_t (i := 671) (by decide +kernel) rfl, by decide, Or.inl ⟨dL_sale_19, rfl⟩, by decide, dL_sale_21, rfl, dL_sale_22, rfl⟩) (am_lk0))
def f_L_sale (S : am_S) (p0 : Nat) (p1 : Int32) (p2 : Int32) (p3 : Int32) (p4 : Nat) : Option (am_R) :=
  (am_ctI (f_X11_sale S p0 p1 p2 p3) (fun v1 S1 => ((am_st S1.1 p4 0 v1).bind (fun σ2 => some (.inl (some (.int 0)), (σ2, S1.2))))) [(0, 1), (1, 2)])
set_option maxRecDepth 20000 in
theorem t_L_sale {E : am_E} {l : Launch} (hl : l.stackTraces = false) {S : am_S} {p0 : Nat} {p1 : Int32} {p2 : Int32} {p3 : Int32} {p4 : Nat} (kp0 : am_kd p0 = 111) (kp4 : am_kd p4 = 4) : am_M E l yL_sale (.codeWith yL_sale cL_sale 6 (some .int) [(0, 12, 15, 24), (0, 12, 19, 13)]) 6 2 12 [.ref p0, .int p1, .int p2, .int p3, .ref p4] S (f_L_sale S p0 p1 p2 p3 p4) := by
  refine am_M_id (am_MH_of (w := fun x => x) hl (by decide) (am_fc rfl (am_fc rfl (am_fc rfl (am_fc rfl (am_fc rfl am_fn))))) (Nat.le_of_ble_eq_true rfl) ?_)
  show am_Ev E l (RL, cL_sale, 6, (some .int), [(0, 12, 15, 24), (0, 12, 19, 13)], am_rm 6 2 12) (am_Z E 2 12) 0 0 0 [some (.ref p0), some (.int p1), some (.int p2), some (.int p3), some (.ref p4), none] [] S (f_L_sale S p0 p1 p2 p3 p4)
  unfold f_L_sale
  refine ev_aload dL_sale_0 rfl ?_
  refine ev_iconst (v := 0) dL_sale_2 (by decide) ?_
  refine ev_aload_n dL_sale_3 rfl ?_
  refine ev_iload_n dL_sale_4 rfl ?_
  refine ev_iload_n dL_sale_5 rfl ?_
  refine ev_iload_n dL_sale_6 rfl ?_
  refine ev_callCI (am_callV (as := [.int p1, .int p2, .int p3]) (o := p0) (st := [.int 0, .ref p4]) cv_L_107 dL_sale_7 kp0 rfl (am_le rfl) (am_fit (by omega) (by decide) (by decide) (by decide)) (t_X11_sale hl kp0)) (by decide) (by decide) hd_L_sale (fun v1 S1 h1 => ?_)
  refine ev_i2l dL_sale_10 ?_
  refine ev_last dL_sale_11 kp4 (fun σ2 h2 => ?_)
  refine ev_goto (tgt := 23) dL_sale_12 (by decide) ?_
  refine ev_iconst (v := 0) dL_sale_23 (by decide) ?_
  exact ev_iret dL_sale_24 rfl rfl (by decide) (by decide) rfl
theorem hd_L_evening : ∀ k n, List.lookup k [(1, (1 : Int32)), (3, (2 : Int32))] = some n → am_Hd (RL, cL_evening, 6, (some .int), [(0, 12, 15, 13), (0, 12, 19, 26)], am_rm 8 1 6) 7 k n := am_lkc (⟨[], ⟨0, 12, 15, 13⟩, [⟨0, 12, 19, 26⟩], 5, 2, 1, rfl, (fun _ h => nomatch h), by decide, by decide, am_G_t (i := 537) (by decide +kernel) rfl, am_nw_t (i := 671) (by decide +kernel) rfl, by decide, Or.inl ⟨dL_evening_15, rfl⟩, by decide, dL_evening_17, rfl, dL_evening_18, rfl⟩) (am_lkc (⟨[⟨0, 12, 15, 13⟩], ⟨0, 12, 19, 26⟩, [], 5, 2, 2, rfl, (List.forall_mem_cons.mpr ⟨⟨by decide, 1, by decide, by decide, am_G_t (i := 537) (by decide +kernel) rfl⟩, (fun _ h => nomatch h)⟩), by decide, by decide, am_G_t (i := 834) (by decide +kernel) rfl, am_nw_t (i := 863) (by decide +kernel) rfl, by decide, Or.inl ⟨dL_evening_19, rfl⟩, by decide, dL_evening_21, rfl, dL_evening_22, rfl⟩) (am_lk0))
def f_L_evening (S : am_S) (p0 : Nat) (p1 : Int32) (p2 : Int32) (p3 : Int32) (p4 : Nat) : Option (am_R) :=
  (am_ctI (f_X11_evening S p0 p1 p2 p3) (fun v1 S1 => ((am_st S1.1 p4 0 v1).bind (fun σ2 => some (.inl (some (.int 0)), (σ2, S1.2))))) [(1, 1), (3, 2)])
set_option maxRecDepth 20000 in
theorem t_L_evening {E : am_E} {l : Launch} (hl : l.stackTraces = false) {S : am_S} {p0 : Nat} {p1 : Int32} {p2 : Int32} {p3 : Int32} {p4 : Nat} (kp0 : am_kd p0 = 111) (kp4 : am_kd p4 = 4) : am_M E l yL_evening (.codeWith yL_evening cL_evening 6 (some .int) [(0, 12, 15, 13), (0, 12, 19, 26)]) 8 1 6 [.ref p0, .int p1, .int p2, .int p3, .ref p4] S (f_L_evening S p0 p1 p2 p3 p4) := by
  refine am_M_id (am_MH_of (w := fun x => x) hl (by decide) (am_fc rfl (am_fc rfl (am_fc rfl (am_fc rfl (am_fc rfl am_fn))))) (Nat.le_of_ble_eq_true rfl) ?_)
  show am_Ev E l (RL, cL_evening, 6, (some .int), [(0, 12, 15, 13), (0, 12, 19, 26)], am_rm 8 1 6) (am_Z E 1 6) 0 0 0 [some (.ref p0), some (.int p1), some (.int p2), some (.int p3), some (.ref p4), none] [] S (f_L_evening S p0 p1 p2 p3 p4)
  unfold f_L_evening
  refine ev_aload dL_evening_0 rfl ?_
  refine ev_iconst (v := 0) dL_evening_2 (by decide) ?_
  refine ev_aload_n dL_evening_3 rfl ?_
  refine ev_iload_n dL_evening_4 rfl ?_
  refine ev_iload_n dL_evening_5 rfl ?_
  refine ev_iload_n dL_evening_6 rfl ?_
  refine ev_callCI (am_callV (as := [.int p1, .int p2, .int p3]) (o := p0) (st := [.int 0, .ref p4]) cv_L_110 dL_evening_7 kp0 rfl (am_le rfl) (am_fit (by omega) (by decide) (by decide) (by decide)) (t_X11_evening hl kp0)) (by decide) (by decide) hd_L_evening (fun v1 S1 h1 => ?_)
  refine ev_i2l dL_evening_10 ?_
  refine ev_last dL_evening_11 kp4 (fun σ2 h2 => ?_)
  refine ev_goto (tgt := 23) dL_evening_12 (by decide) ?_
  refine ev_iconst (v := 0) dL_evening_23 (by decide) ?_
  exact ev_iret dL_evening_24 rfl rfl (by decide) (by decide) rfl
