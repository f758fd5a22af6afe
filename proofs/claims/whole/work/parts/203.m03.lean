def f_X11_law (S : am_S) (p0 : Nat) : Option (am_R) :=
  ((am_rd S.2 p0 10 102).bind (fun q1 => ((am_rd S.2 p0 4 109).bind (fun q2 => ((am_rd S.2 q2 14 101).bind (fun q3 => ((am_rd S.2 p0 0 2).bind (fun q4 => (am_thI (f_X2_readInto S q1 q3 q4 (S.1 p0 1)) (fun v5 S5 => (if ((am_u2 (am_u2 S5.1 p0 2 v5) p0 1 0) p0 2) = (-1) then ((am_rd S5.2 p0 3 109).bind (fun q7 => ((am_rd S5.2 q7 14 101).bind (fun q8 => ((am_rd S5.2 p0 4 109).bind (fun q9 => ((am_rd S5.2 q9 14 101).bind (fun q10 => ((f_X1_copyFrom ((am_u2 (am_u2 S5.1 p0 2 v5) p0 1 0), S5.2) q8 q10).bind (fun σ11 => ((am_rd S5.2 p0 3 109).bind (fun q12 => ((am_rd S5.2 q12 14 101).bind (fun q13 => some (.inl (some (.int (σ11 q13 0))), (σ11, S5.2)))))))))))))))) else some (.inr 1, ((am_u2 (am_u2 S5.1 p0 2 v5) p0 1 0), S5.2)))))))))))))
set_option maxRecDepth 20000 in
theorem t_X11_law {E : am_E} {l : Launch} (hl : l.stackTraces = false) {S : am_S} {p0 : Nat} (kp0 : am_kd p0 = 111) : am_M E l yX11_law (.code yX11_law cX11_law 1 (some .int)) 69 1 6 [.ref p0] S (f_X11_law S p0) := by
  refine am_M_id (am_M_of (w := fun x => x) hl (by decide) (am_fc rfl am_fn) (Nat.le_of_ble_eq_true rfl) ?_)
  show am_Ev E l (RX11, cX11_law, 1, (some .int), [], am_rm 69 1 6) (am_Z E 1 6) 0 0 0 [some (.ref p0)] [] S (f_X11_law S p0)
  unfold f_X11_law
  refine ev_aload_n dX11_law_0 rfl ?_
  refine ev_aload_n dX11_law_1 rfl ?_
  refine ev_getR fk_X11_51 (by decide) dX11_law_2 kp0 (fun q1 k1 r1 => ?_)
  refine ev_aload_n dX11_law_5 rfl ?_
  refine ev_getR fk_X11_24 (by decide) dX11_law_6 kp0 (fun q2 k2 r2 => ?_)
  refine ev_getRN fk_X11_123 (by decide) dX11_law_9 k2 (fun q3 k3 r3 => ?_)
  refine ev_aload_n dX11_law_12 rfl ?_
  refine ev_getR fk_X11_9 (by decide) dX11_law_13 kp0 (fun q4 k4 r4 => ?_)
  refine ev_aload_n dX11_law_16 rfl ?_
  refine ev_get fk_X11_90 dX11_law_17 kp0 (am_fvI (by decide)) ?_
  refine ev_callGI (am_callVN (as := [.ref q3, .ref q4, .int (S.1 p0 1)]) (o := q1) (st := [.ref p0]) cv_X11_127 dX11_law_20 k1 rfl (am_le rfl) (am_fit (by omega) (by decide) (by decide) (by decide)) nt_X2_readInto (t_X2_readInto hl k1 k3 k4)) rfl (by decide) (by decide) (fun v5 S5 h5 => ?_)
  refine ev_putI fk_X11_13 tyX11 tyX11_ok nmX11 rfl (by decide +kernel) (by decide) dX11_law_23 kp0 ?_
  refine ev_aload_n dX11_law_26 rfl ?_
  refine ev_iconst (v := 0) dX11_law_27 (by decide) ?_
  refine ev_putI fk_X11_90 tyX11 tyX11_ok nmX11 rfl (by decide +kernel) (by decide) dX11_law_28 kp0 ?_
  refine ev_aload_n dX11_law_31 rfl ?_
  refine ev_get fk_X11_13 dX11_law_32 kp0 (am_fvI (by decide)) ?_
  refine ev_iconst (v := (-1)) dX11_law_35 (by decide) ?_
  refine ev_icmp_eq (tgt := 49) dX11_law_36 (by decide) (fun c6 => ?_) (fun c6 => ?_)
  · refine ev_aload_n dX11_law_49 rfl ?_
    refine ev_getR fk_X11_20 (by decide) dX11_law_50 kp0 (fun q7 k7 r7 => ?_)
    refine ev_getRN fk_X11_123 (by decide) dX11_law_53 k7 (fun q8 k8 r8 => ?_)
    refine ev_aload_n dX11_law_56 rfl ?_
    refine ev_getR fk_X11_24 (by decide) dX11_law_57 kp0 (fun q9 k9 r9 => ?_)
    refine ev_getRN fk_X11_123 (by decide) dX11_law_60 k9 (fun q10 k10 r10 => ?_)
    refine ev_callWV (am_callVN (as := [.ref q10]) (o := q8) (st := []) cv_X11_130 dX11_law_63 k8 rfl (am_le rfl) (am_fit (by omega) (by decide) (by decide) (by decide)) (am_no1 (fun _ => ⟨_, rfl⟩)) (t_X1_copyFrom hl k8 k10)) (fun σ11 h11 => ?_)
    refine ev_aload_n dX11_law_66 rfl ?_
    refine ev_getR fk_X11_20 (by decide) dX11_law_67 kp0 (fun q12 k12 r12 => ?_)
    refine ev_getRN fk_X11_123 (by decide) dX11_law_70 k12 (fun q13 k13 r13 => ?_)
    refine ev_getN fk_X11_135 dX11_law_73 k13 (am_fvI (by decide)) ?_
    exact ev_iret dX11_law_76 rfl rfl (by decide) (by decide) rfl
  · exact ev_throw (k := 1) tk_105_109 (tx := "the text is wrong") (t := 22) (by decide +kernel) dX11_law_39 dX11_law_42 dX11_law_43 dX11_law_45 dX11_law_48 rfl (by decide) ⟨by decide, by decide, by decide, by decide⟩ (by decide) (by decide)
def f_X11_fault (S : am_S) (p0 : Nat) : Option (Int32) :=
  some (S.1 p0 2)
set_option maxRecDepth 20000 in
theorem t_X11_fault {E : am_E} {l : Launch} (hl : l.stackTraces = false) {S : am_S} {p0 : Nat} (kp0 : am_kd p0 = 111) : am_M E l yX11_fault (.code yX11_fault cX11_fault 1 (some .int)) 0 0 0 [.ref p0] S ((f_X11_fault S p0).map (fun (v : Int32) => ((.inl (some (.int v)), S) : am_R))) := by
  refine am_M_of (w := fun (v : Int32) => ((.inl (some (.int v)), S) : am_R)) hl (by decide) (am_fc rfl am_fn) (Nat.le_of_ble_eq_true rfl) ?_
  show am_Ev E l (RX11, cX11_fault, 1, (some .int), [], am_rm 0 0 0) (fun b a s x => am_Z E 0 0 b a s ((fun (v : Int32) => ((.inl (some (.int v)), S) : am_R)) x)) 0 0 0 [some (.ref p0)] [] S (f_X11_fault S p0)
  unfold f_X11_fault
  refine ev_aload_n dX11_fault_0 rfl ?_
  refine ev_get fk_X11_13 dX11_fault_1 kp0 (am_fvI (by decide)) ?_
  exact ev_iret dX11_fault_4 rfl rfl (by decide) (by decide) rfl
def f_X11_needHouse (S : am_S) (p0 : Nat) (p1 : Int32) : Option (am_R) :=
  ((am_rd S.2 p0 3 109).bind (fun q1 => ((f_X9_hasHouse S q1 p1).bind (fun v2 => (if v2 = 0 then some (.inr 0, S) else some (.inl none, S))))))
set_option maxRecDepth 20000 in
theorem t_X11_needHouse {E : am_E} {l : Launch} (hl : l.stackTraces = false) {S : am_S} {p0 : Nat} {p1 : Int32} (kp0 : am_kd p0 = 111) : am_M E l yX11_needHouse (.code yX11_needHouse cX11_needHouse 2 none) 1 1 6 [.ref p0, .int p1] S (f_X11_needHouse S p0 p1) := by
  refine am_M_id (am_M_of (w := fun x => x) hl (by decide) (am_fc rfl (am_fc rfl am_fn)) (Nat.le_of_ble_eq_true rfl) ?_)
  show am_Ev E l (RX11, cX11_needHouse, 2, none, [], am_rm 1 1 6) (am_Z E 1 6) 0 0 0 [some (.ref p0), some (.int p1)] [] S (f_X11_needHouse S p0 p1)
  unfold f_X11_needHouse
  refine ev_aload_n dX11_needHouse_0 rfl ?_
  refine ev_getR fk_X11_20 (by decide) dX11_needHouse_1 kp0 (fun q1 k1 r1 => ?_)
  refine ev_iload_n dX11_needHouse_4 rfl ?_
  refine ev_callP (am_callVN (as := [.int p1]) (o := q1) (st := []) cv_X11_381 dX11_needHouse_5 k1 rfl (am_le rfl) (am_fit (by omega) (by decide) (by decide) (by decide)) (am_no1 (fun _ => ⟨_, rfl⟩)) (t_X9_hasHouse hl k1)) (fun v2 h2 => ?_)
  refine ev_if_ne (tgt := 22) dX11_needHouse_8 (by decide) (fun c3 => ?_) (fun c3 => ?_)
  · exact ev_vret dX11_needHouse_22 rfl (by decide) (by decide) rfl
  · exact ev_throwW (k := 0) tk_385_389 (tx := "no such house") (t := 24) (by decide +kernel) dX11_needHouse_11 dX11_needHouse_14 dX11_needHouse_15 dX11_needHouse_18 dX11_needHouse_21 rfl (by decide) ⟨by decide, by decide, by decide, by decide⟩ (by decide) (by decide)
def f_X9_wordFor (S : am_S) (p0 : Nat) (p1 : Int32) (p2 : Int32) : Option (Int32) :=
  ((f_X9_hasHouse S p0 p1).bind (fun v1 => (if v1 = 0 then some (-1) else ((f_X9_hasWant S p0 p2).bind (fun v3 => (if v3 = 0 then some (-1) else ((am_rd S.2 p0 12 1).bind (fun q5 => ((am_ld S.1 q5 ((p1 * 10) + p2)).bind (fun v6 => some v6))))))))))
set_option maxRecDepth 20000 in
theorem t_X9_wordFor {E : am_E} {l : Launch} (hl : l.stackTraces = false) {S : am_S} {p0 : Nat} {p1 : Int32} {p2 : Int32} (kp0 : am_kd p0 = 109) : am_M E l yX9_wordFor (.code yX9_wordFor cX9_wordFor 3 (some .int)) 1 0 0 [.ref p0, .int p1, .int p2] S ((f_X9_wordFor S p0 p1 p2).map (fun (v : Int32) => ((.inl (some (.int v)), S) : am_R))) := by
  refine am_M_of (w := fun (v : Int32) => ((.inl (some (.int v)), S) : am_R)) hl (by decide) (am_fc rfl (am_fc rfl (am_fc rfl am_fn))) (Nat.le_of_ble_eq_true rfl) ?_
  show am_Ev E l (RX9, cX9_wordFor, 3, (some .int), [], am_rm 1 0 0) (fun b a s x => am_Z E 0 0 b a s ((fun (v : Int32) => ((.inl (some (.int v)), S) : am_R)) x)) 0 0 0 [some (.ref p0), some (.int p1), some (.int p2)] [] S (f_X9_wordFor S p0 p1 p2)
  unfold f_X9_wordFor
  refine ev_aload_n dX9_wordFor_0 rfl ?_
  refine ev_iload_n dX9_wordFor_1 rfl ?_
  refine ev_callP (am_callV (as := [.int p1]) (o := p0) (st := []) cv_X9_86 dX9_wordFor_2 kp0 rfl (am_le rfl) (am_fit (by omega) (by decide) (by decide) (by decide)) (t_X9_hasHouse hl kp0)) (fun v1 h1 => ?_)
  refine ev_if_eq (tgt := 30) dX9_wordFor_5 (by decide) (fun c2 => ?_) (fun c2 => ?_)
  · refine ev_iconst (v := (-1)) dX9_wordFor_30 (by decide) ?_
    exact ev_iret dX9_wordFor_31 rfl rfl (by decide) (by decide) rfl
  · refine ev_aload_n dX9_wordFor_8 rfl ?_
    refine ev_iload_n dX9_wordFor_9 rfl ?_
    refine ev_callP (am_callV (as := [.int p2]) (o := p0) (st := []) cv_X9_82 dX9_wordFor_10 kp0 rfl (am_le rfl) (am_fit (by omega) (by decide) (by decide) (by decide)) (t_X9_hasWant hl kp0)) (fun v3 h3 => ?_)
    refine ev_if_eq (tgt := 30) dX9_wordFor_13 (by decide) (fun c4 => ?_) (fun c4 => ?_)
    · refine ev_iconst (v := (-1)) dX9_wordFor_30 (by decide) ?_
      exact ev_iret dX9_wordFor_31 rfl rfl (by decide) (by decide) rfl
    · refine ev_aload_n dX9_wordFor_16 rfl ?_
      refine ev_getR fk_X9_30 (by decide) dX9_wordFor_17 kp0 (fun q5 k5 r5 => ?_)
      refine ev_iload_n dX9_wordFor_20 rfl ?_
      refine ev_bipush (v := 10) dX9_wordFor_21 (by decide) ?_
      refine ev_imul dX9_wordFor_23 ?_
      refine ev_iload_n dX9_wordFor_24 rfl ?_
      refine ev_iadd dX9_wordFor_25 ?_
      refine ev_iald dX9_wordFor_26 k5 (fun v6 h6 => ?_)
      refine ev_goto (tgt := 31) dX9_wordFor_27 (by decide) ?_
      exact ev_iret dX9_wordFor_31 rfl rfl (by decide) (by decide) rfl
def f_X9_wordsOf_b4 (S : am_S) (a0 : Nat) (a1 : Int32) (x1 : Int32 × Int32) : Option ((Int32 × Int32) ⊕ (Int32)) :=
  (if x1.2 < (S.1 a0 1) then ((f_X9_wordFor S a0 a1 x1.2).bind (fun v3 => ((if v3 = (-1) then some x1.1 else some (x1.1 + 1)).bind (fun t4 => some (.inl (t4, (x1.2 + 1))))))) else some (.inr x1.1))
def f_X9_wordsOf (S : am_S) (p0 : Nat) (p1 : Int32) : Option (Int32) :=
  ((am_loop (f_X9_wordsOf_b4 S p0 p1) am_fuel (0, 0)).bind (fun t1 => some t1))
set_option maxRecDepth 20000 in
theorem t_X9_wordsOf {E : am_E} {l : Launch} (hl : l.stackTraces = false) {S : am_S} {p0 : Nat} {p1 : Int32} (kp0 : am_kd p0 = 109) : am_M E l yX9_wordsOf (.code yX9_wordsOf cX9_wordsOf 4 (some .int)) 2 0 0 [.ref p0, .int p1] S ((f_X9_wordsOf S p0 p1).map (fun (v : Int32) => ((.inl (some (.int v)), S) : am_R))) := by
  refine am_M_of (w := fun (v : Int32) => ((.inl (some (.int v)), S) : am_R)) hl (by decide) (am_fc rfl (am_fc rfl am_fn)) (Nat.le_of_ble_eq_true rfl) ?_
  show am_Ev E l (RX9, cX9_wordsOf, 4, (some .int), [], am_rm 2 0 0) (fun b a s x => am_Z E 0 0 b a s ((fun (v : Int32) => ((.inl (some (.int v)), S) : am_R)) x)) 0 0 0 [some (.ref p0), some (.int p1), none, none] [] S (f_X9_wordsOf S p0 p1)
  unfold f_X9_wordsOf
  refine ev_iconst (v := 0) dX9_wordsOf_0 (by decide) ?_
  refine ev_istore_n dX9_wordsOf_1 (am_lt rfl) ?_
  refine ev_iconst (v := 0) dX9_wordsOf_2 (by decide) ?_
  refine ev_istore_n dX9_wordsOf_3 (am_lt rfl) ?_
  refine ev_weak (am_wk (am_wk (am_wk (am_wk am_wn)))) (ev_loop 4 31 (fun x1 : Int32 × Int32 => [some (.ref p0), some (.int p1), some (.int x1.1), some (.int x1.2)]) (fun t1 : Int32 => [none, none, some (.int t1), none]) (fun x1 => S) (fun t1 => S) (fun x1 G1 hB1 hE1 => ?_) (fun t1 => ?_) am_fuel (0, 0))
  · unfold f_X9_wordsOf_b4
    refine ev_iload_n dX9_wordsOf_4 rfl ?_
    refine ev_aload_n dX9_wordsOf_5 rfl ?_
    refine ev_get fk_X9_54 dX9_wordsOf_6 kp0 (am_fvI (by decide)) ?_
    refine ev_eq am_ib ?_
    refine ev_icmp_ge (tgt := 31) dX9_wordsOf_9 (by decide) (fun c5 => ?_) (fun c5 => ?_)
    · exact ev_leaf (am_wf (am_wf (am_wk (am_wf am_wn)))) (hE1 x1.1)
    · refine ev_aload_n dX9_wordsOf_12 rfl ?_
      refine ev_iload_n dX9_wordsOf_13 rfl ?_
      refine ev_iload_n dX9_wordsOf_14 rfl ?_
      refine ev_eq (Option.bind_assoc _ _ _) ?_
      refine ev_callP (am_callV (as := [.int p1, .int x1.2]) (o := p0) (st := []) cv_X9_89 dX9_wordsOf_15 kp0 rfl (am_le rfl) (am_fit (by omega) (by decide) (by decide) (by decide)) (t_X9_wordFor hl kp0)) (fun v6 h6 => ?_)
      refine ev_iconst (v := (-1)) dX9_wordsOf_18 (by decide) ?_
      refine ev_eq (Option.bind_assoc _ _ _) ?_
      refine ev_reg (cs' := 0) (sl' := 0) 25 (fun t7 : Int32 => [some (.ref p0), some (.int p1), some (.int t7), some (.int x1.2)]) (fun t7 => []) (fun t7 => S) (fun hJ7 => ?_) (fun t7 => ?_)
      · refine ev_eq am_ib ?_
        refine ev_icmp_eq (tgt := 25) dX9_wordsOf_19 (by decide) (fun c7 => ?_) (fun c7 => ?_)
        · exact ev_leaf (am_wk (am_wk (am_wk (am_wk am_wn)))) (hJ7 x1.1)
        · refine ev_iinc (v := (x1.1 + 1)) dX9_wordsOf_22 (am_lt rfl) rfl rfl ?_
          exact ev_leaf (am_wk (am_wk (am_wk (am_wk am_wn)))) (hJ7 (x1.1 + 1))
      · refine ev_iinc (v := (x1.2 + 1)) dX9_wordsOf_25 (am_lt rfl) rfl rfl ?_
        refine ev_goto (tgt := 4) dX9_wordsOf_28 (by decide) ?_
        exact ev_leaf (am_wk (am_wk (am_wk (am_wk am_wn)))) (hB1 (t7, (x1.2 + 1)))
  · refine ev_iload_n dX9_wordsOf_31 rfl ?_
    exact ev_iret dX9_wordsOf_32 rfl rfl (by decide) (by decide) rfl
def f_X11_house (S : am_S) (p0 : Nat) (p1 : Int32) (p2 : Int32) : Option (am_R) :=
  (am_thV (f_X11_needHouse S p0 p1) (fun S1 => (if p2 = 0 then ((am_rd S1.2 p0 3 109).bind (fun q3 => ((am_rd S1.2 q3 6 1).bind (fun q4 => ((am_ld S1.1 q4 p1).bind (fun v5 => some (.inl (some (.int v5)), S1))))))) else (if p2 = 1 then ((am_rd S1.2 p0 3 109).bind (fun q6 => ((am_rd S1.2 q6 7 1).bind (fun q7 => ((am_ld S1.1 q7 p1).bind (fun v8 => some (.inl (some (.int v8)), S1))))))) else (if p2 = 2 then ((am_rd S1.2 p0 3 109).bind (fun q9 => ((am_rd S1.2 q9 8 1).bind (fun q10 => ((am_ld S1.1 q10 p1).bind (fun v11 => some (.inl (some (.int v11)), S1))))))) else (if p2 = 3 then ((am_rd S1.2 p0 3 109).bind (fun q12 => ((am_rd S1.2 q12 9 1).bind (fun q13 => ((am_ld S1.1 q13 p1).bind (fun v14 => some (.inl (some (.int v14)), S1))))))) else (if p2 = 4 then ((am_rd S1.2 p0 3 109).bind (fun q15 => ((am_rd S1.2 q15 10 1).bind (fun q16 => ((am_ld S1.1 q16 p1).bind (fun v17 => some (.inl (some (.int v17)), S1))))))) else (if p2 = 5 then ((am_rd S1.2 p0 3 109).bind (fun q18 => ((f_X9_wordsOf S1 q18 p1).bind (fun v19 => some (.inl (some (.int v19)), S1))))) else some (.inr 3, S1)))))))))
set_option maxRecDepth 20000 in
theorem t_X11_house {E : am_E} {l : Launch} (hl : l.stackTraces = false) {S : am_S} {p0 : Nat} {p1 : Int32} {p2 : Int32} (kp0 : am_kd p0 = 111) : am_M E l yX11_house (.code yX11_house cX11_house 3 (some .int)) 3 2 12 [.ref p0, .int p1, .int p2] S (f_X11_house S p0 p1 p2) := by
  refine am_M_id (am_M_of (w := fun x => x) hl (by decide) (am_fc rfl (am_fc rfl (am_fc rfl am_fn))) (Nat.le_of_ble_eq_true rfl) ?_)
  show am_Ev E l (RX11, cX11_house, 3, (some .int), [], am_rm 3 2 12) (am_Z E 2 12) 0 0 0 [some (.ref p0), some (.int p1), some (.int p2)] [] S (f_X11_house S p0 p1 p2)
  unfold f_X11_house
  refine ev_aload_n dX11_house_0 rfl ?_
  refine ev_iload_n dX11_house_1 rfl ?_
  refine ev_callGV (am_callV (as := [.int p1]) (o := p0) (st := []) cv_X11_138 dX11_house_2 kp0 rfl (am_le rfl) (am_fit (by omega) (by decide) (by decide) (by decide)) (t_X11_needHouse hl kp0)) rfl (by decide) (by decide) (fun S1 h1 => ?_)
  refine ev_iload_n dX11_house_5 rfl ?_
  refine ev_split (fun c2_0 => ?_) (fun c2_0 => ?_)
  · refine ev_swI (tgt := 44) dX11_house_6 (by rw [c2_0]; decide) (by rw [c2_0]; decide) (by rw [c2_0]; rfl) (by decide) ?_
    refine ev_aload_n dX11_house_44 rfl ?_
    refine ev_getR fk_X11_20 (by decide) dX11_house_45 kp0 (fun q3 k3 r3 => ?_)
    refine ev_getRN fk_X11_141 (by decide) dX11_house_48 k3 (fun q4 k4 r4 => ?_)
    refine ev_iload_n dX11_house_51 rfl ?_
    refine ev_iald dX11_house_52 k4 (fun v5 h5 => ?_)
    exact ev_iret dX11_house_53 rfl rfl (by decide) (by decide) rfl
  refine ev_split (fun c2_1 => ?_) (fun c2_1 => ?_)
  · refine ev_swI (tgt := 54) dX11_house_6 (by rw [c2_1]; decide) (by rw [c2_1]; decide) (by rw [c2_1]; rfl) (by decide) ?_
    refine ev_aload_n dX11_house_54 rfl ?_
    refine ev_getR fk_X11_20 (by decide) dX11_house_55 kp0 (fun q6 k6 r6 => ?_)
    refine ev_getRN fk_X11_144 (by decide) dX11_house_58 k6 (fun q7 k7 r7 => ?_)
    refine ev_iload_n dX11_house_61 rfl ?_
    refine ev_iald dX11_house_62 k7 (fun v8 h8 => ?_)
    exact ev_iret dX11_house_63 rfl rfl (by decide) (by decide) rfl
  refine ev_split (fun c2_2 => ?_) (fun c2_2 => ?_)
  · refine ev_swI (tgt := 64) dX11_house_6 (by rw [c2_2]; decide) (by rw [c2_2]; decide) (by rw [c2_2]; rfl) (by decide) ?_
    refine ev_aload_n dX11_house_64 rfl ?_
    refine ev_getR fk_X11_20 (by decide) dX11_house_65 kp0 (fun q9 k9 r9 => ?_)
    refine ev_getRN fk_X11_147 (by decide) dX11_house_68 k9 (fun q10 k10 r10 => ?_)
    refine ev_iload_n dX11_house_71 rfl ?_
    refine ev_iald dX11_house_72 k10 (fun v11 h11 => ?_)
    exact ev_iret dX11_house_73 rfl rfl (by decide) (by decide) rfl
  refine ev_split (fun c2_3 => ?_) (fun c2_3 => ?_)
  · refine ev_swI (tgt := 74) dX11_house_6 (by rw [c2_3]; decide) (by rw [c2_3]; decide) (by rw [c2_3]; rfl) (by decide) ?_
    refine ev_aload_n dX11_house_74 rfl ?_
    refine ev_getR fk_X11_20 (by decide) dX11_house_75 kp0 (fun q12 k12 r12 => ?_)
    refine ev_getRN fk_X11_150 (by decide) dX11_house_78 k12 (fun q13 k13 r13 => ?_)
    refine ev_iload_n dX11_house_81 rfl ?_
    refine ev_iald dX11_house_82 k13 (fun v14 h14 => ?_)
    exact ev_iret dX11_house_83 rfl rfl (by decide) (by decide) rfl
  refine ev_split (fun c2_4 => ?_) (fun c2_4 => ?_)
  · refine ev_swI (tgt := 84) dX11_house_6 (by rw [c2_4]; decide) (by rw [c2_4]; decide) (by rw [c2_4]; rfl) (by decide) ?_
    refine ev_aload_n dX11_house_84 rfl ?_
    refine ev_getR fk_X11_20 (by decide) dX11_house_85 kp0 (fun q15 k15 r15 => ?_)
    refine ev_getRN fk_X11_153 (by decide) dX11_house_88 k15 (fun q16 k16 r16 => ?_)
    refine ev_iload_n dX11_house_91 rfl ?_
    refine ev_iald dX11_house_92 k16 (fun v17 h17 => ?_)
    exact ev_iret dX11_house_93 rfl rfl (by decide) (by decide) rfl
  refine ev_split (fun c2_5 => ?_) (fun c2_5 => ?_)
  · refine ev_swI (tgt := 94) dX11_house_6 (by rw [c2_5]; decide) (by rw [c2_5]; decide) (by rw [c2_5]; rfl) (by decide) ?_
    refine ev_aload_n dX11_house_94 rfl ?_
    refine ev_getR fk_X11_20 (by decide) dX11_house_95 kp0 (fun q18 k18 r18 => ?_)
    refine ev_iload_n dX11_house_98 rfl ?_
    refine ev_callP (am_callVN (as := [.int p1]) (o := q18) (st := []) cv_X11_156 dX11_house_99 k18 rfl (am_le rfl) (am_fit (by omega) (by decide) (by decide) (by decide)) (am_no1 (fun _ => ⟨_, rfl⟩)) (t_X9_wordsOf hl k18)) (fun v19 h19 => ?_)
    exact ev_iret dX11_house_102 rfl rfl (by decide) (by decide) rfl
  refine ev_swO (tgt := 103) dX11_house_6 (by have z2_0 := am_neI c2_0 (z := 0) (by decide); have z2_1 := am_neI c2_1 (z := 1) (by decide); have z2_2 := am_neI c2_2 (z := 2) (by decide); have z2_3 := am_neI c2_3 (z := 3) (by decide); have z2_4 := am_neI c2_4 (z := 4) (by decide); have z2_5 := am_neI c2_5 (z := 5) (by decide); omega) (by decide) ?_
  exact ev_throwN (k := 3) tk_160_164 (tx := "a house has what 0 to 5") (t := 25) (by decide +kernel) dX11_house_103 dX11_house_106 dX11_house_107 dX11_house_109 dX11_house_112 rfl (by decide) ⟨by decide, by decide, by decide, by decide⟩ (by decide) (by decide)
def f_X11_needWant (S : am_S) (p0 : Nat) (p1 : Int32) : Option (am_R) :=
  ((am_rd S.2 p0 3 109).bind (fun q1 => ((f_X9_hasWant S q1 p1).bind (fun v2 => (if v2 = 0 then some (.inr 0, S) else some (.inl none, S))))))
set_option maxRecDepth 20000 in
theorem t_X11_needWant {E : am_E} {l : Launch} (hl : l.stackTraces = false) {S : am_S} {p0 : Nat} {p1 : Int32} (kp0 : am_kd p0 = 111) : am_M E l yX11_needWant (.code yX11_needWant cX11_needWant 2 none) 1 1 6 [.ref p0, .int p1] S (f_X11_needWant S p0 p1) := by
  refine am_M_id (am_M_of (w := fun x => x) hl (by decide) (am_fc rfl (am_fc rfl am_fn)) (Nat.le_of_ble_eq_true rfl) ?_)
  show am_Ev E l (RX11, cX11_needWant, 2, none, [], am_rm 1 1 6) (am_Z E 1 6) 0 0 0 [some (.ref p0), some (.int p1)] [] S (f_X11_needWant S p0 p1)
  unfold f_X11_needWant
  refine ev_aload_n dX11_needWant_0 rfl ?_
  refine ev_getR fk_X11_20 (by decide) dX11_needWant_1 kp0 (fun q1 k1 r1 => ?_)
  refine ev_iload_n dX11_needWant_4 rfl ?_
  refine ev_callP (am_callVN (as := [.int p1]) (o := q1) (st := []) cv_X11_390 dX11_needWant_5 k1 rfl (am_le rfl) (am_fit (by omega) (by decide) (by decide) (by decide)) (am_no1 (fun _ => ⟨_, rfl⟩)) (t_X9_hasWant hl k1)) (fun v2 h2 => ?_)
  refine ev_if_ne (tgt := 22) dX11_needWant_8 (by decide) (fun c3 => ?_) (fun c3 => ?_)
  · exact ev_vret dX11_needWant_22 rfl (by decide) (by decide) rfl
  · exact ev_throwW (k := 0) tk_385_389 (tx := "no such want") (t := 26) (by decide +kernel) dX11_needWant_11 dX11_needWant_14 dX11_needWant_15 dX11_needWant_18 dX11_needWant_21 rfl (by decide) ⟨by decide, by decide, by decide, by decide⟩ (by decide) (by decide)
def f_X11_want (S : am_S) (p0 : Nat) (p1 : Int32) : Option (am_R) :=
  (am_thV (f_X11_needWant S p0 p1) (fun S1 => ((am_rd S1.2 p0 3 109).bind (fun q2 => ((am_rd S1.2 q2 11 1).bind (fun q3 => ((am_ld S1.1 q3 p1).bind (fun v4 => some (.inl (some (.int v4)), S1)))))))))
set_option maxRecDepth 20000 in
theorem t_X11_want {E : am_E} {l : Launch} (hl : l.stackTraces = false) {S : am_S} {p0 : Nat} {p1 : Int32} (kp0 : am_kd p0 = 111) : am_M E l yX11_want (.code yX11_want cX11_want 2 (some .int)) 2 1 6 [.ref p0, .int p1] S (f_X11_want S p0 p1) := by
  refine am_M_id (am_M_of (w := fun x => x) hl (by decide) (am_fc rfl (am_fc rfl am_fn)) (Nat.le_of_ble_eq_true rfl) ?_)
  show am_Ev E l (RX11, cX11_want, 2, (some .int), [], am_rm 2 1 6) (am_Z E 1 6) 0 0 0 [some (.ref p0), some (.int p1)] [] S (f_X11_want S p0 p1)
  unfold f_X11_want
  refine ev_aload_n dX11_want_0 rfl ?_
  refine ev_iload_n dX11_want_1 rfl ?_
  refine ev_callGV (am_callV (as := [.int p1]) (o := p0) (st := []) cv_X11_165 dX11_want_2 kp0 rfl (am_le rfl) (am_fit (by omega) (by decide) (by decide) (by decide)) (t_X11_needWant hl kp0)) rfl (by decide) (by decide) (fun S1 h1 => ?_)
  refine ev_aload_n dX11_want_5 rfl ?_
  refine ev_getR fk_X11_20 (by decide) dX11_want_6 kp0 (fun q2 k2 r2 => ?_)
  refine ev_getRN fk_X11_168 (by decide) dX11_want_9 k2 (fun q3 k3 r3 => ?_)
  refine ev_iload_n dX11_want_12 rfl ?_
  refine ev_iald dX11_want_13 k3 (fun v4 h4 => ?_)
  exact ev_iret dX11_want_14 rfl rfl (by decide) (by decide) rfl
def f_X11_code (S : am_S) (p0 : Nat) (p1 : Int32) (p2 : Int32) : Option (am_R) :=
  (am_thV (f_X11_needHouse S p0 p1) (fun S1 => (am_thV (f_X11_needWant S1 p0 p2) (fun S2 => ((am_rd S2.2 p0 3 109).bind (fun q3 => ((f_X9_wordFor S2 q3 p1 p2).bind (fun v4 => some (.inl (some (.int v4)), S2)))))))))
set_option maxRecDepth 20000 in
theorem t_X11_code {E : am_E} {l : Launch} (hl : l.stackTraces = false) {S : am_S} {p0 : Nat} {p1 : Int32} {p2 : Int32} (kp0 : am_kd p0 = 111) : am_M E l yX11_code (.code yX11_code cX11_code 3 (some .int)) 2 2 12 [.ref p0, .int p1, .int p2] S (f_X11_code S p0 p1 p2) := by
  refine am_M_id (am_M_of (w := fun x => x) hl (by decide) (am_fc rfl (am_fc rfl (am_fc rfl am_fn))) (Nat.le_of_ble_eq_true rfl) ?_)
  show am_Ev E l (RX11, cX11_code, 3, (some .int), [], am_rm 2 2 12) (am_Z E 2 12) 0 0 0 [some (.ref p0), some (.int p1), some (.int p2)] [] S (f_X11_code S p0 p1 p2)
  unfold f_X11_code
  refine ev_aload_n dX11_code_0 rfl ?_
  refine ev_iload_n dX11_code_1 rfl ?_
  refine ev_callGV (am_callV (as := [.int p1]) (o := p0) (st := []) cv_X11_138 dX11_code_2 kp0 rfl (am_le rfl) (am_fit (by omega) (by decide) (by decide) (by decide)) (t_X11_needHouse hl kp0)) rfl (by decide) (by decide) (fun S1 h1 => ?_)
  refine ev_aload_n dX11_code_5 rfl ?_
  refine ev_iload_n dX11_code_6 rfl ?_
  refine ev_callGV (am_callV (as := [.int p2]) (o := p0) (st := []) cv_X11_165 dX11_code_7 kp0 rfl (am_le rfl) (am_fit (by omega) (by decide) (by decide) (by decide)) (t_X11_needWant hl kp0)) rfl (by decide) (by decide) (fun S2 h2 => ?_)
  refine ev_aload_n dX11_code_10 rfl ?_
  refine ev_getR fk_X11_20 (by decide) dX11_code_11 kp0 (fun q3 k3 r3 => ?_)
  refine ev_iload_n dX11_code_14 rfl ?_
  refine ev_iload_n dX11_code_15 rfl ?_
  refine ev_callP (am_callVN (as := [.int p1, .int p2]) (o := q3) (st := []) cv_X11_171 dX11_code_16 k3 rfl (am_le rfl) (am_fit (by omega) (by decide) (by decide) (by decide)) (am_no1 (fun _ => ⟨_, rfl⟩)) (t_X9_wordFor hl k3)) (fun v4 h4 => ?_)
  exact ev_iret dX11_code_19 rfl rfl (by decide) (by decide) rfl
def f_X11_needWord (S : am_S) (p0 : Nat) (p1 : Int32) : Option (am_R) :=
  (if p1 < 2 then some (.inr 1, S) else (if 511 < p1 then some (.inr 1, S) else some (.inl none, S)))
set_option maxRecDepth 20000 in
theorem t_X11_needWord {E : am_E} {l : Launch} (hl : l.stackTraces = false) {S : am_S} {p0 : Nat} {p1 : Int32} (kp0 : am_kd p0 = 111) : am_M E l yX11_needWord (.code yX11_needWord cX11_needWord 2 none) 0 1 6 [.ref p0, .int p1] S (f_X11_needWord S p0 p1) := by
  refine am_M_id (am_M_of (w := fun x => x) hl (by decide) (am_fc rfl (am_fc rfl am_fn)) (Nat.le_of_ble_eq_true rfl) ?_)
  show am_Ev E l (RX11, cX11_needWord, 2, none, [], am_rm 0 1 6) (am_Z E 1 6) 0 0 0 [some (.ref p0), some (.int p1)] [] S (f_X11_needWord S p0 p1)
  unfold f_X11_needWord
  refine ev_iload_n dX11_needWord_0 rfl ?_
  refine ev_iconst (v := 2) dX11_needWord_1 (by decide) ?_
  refine ev_icmp_lt (tgt := 12) dX11_needWord_2 (by decide) (fun c1 => ?_) (fun c1 => ?_)
  · exact ev_throwW (k := 1) tk_105_109 (tx := "a word is 2 to 511") (t := 27) (by decide +kernel) dX11_needWord_12 dX11_needWord_15 dX11_needWord_16 dX11_needWord_19 dX11_needWord_22 rfl (by decide) ⟨by decide, by decide, by decide, by decide⟩ (by decide) (by decide)
  · refine ev_iload_n dX11_needWord_5 rfl ?_
    refine ev_sipush (v := 511) dX11_needWord_6 (by decide) ?_
    refine ev_icmp_le (tgt := 23) dX11_needWord_9 (by decide) (fun c2 => ?_) (fun c2 => ?_)
    · exact ev_vret dX11_needWord_23 rfl (by decide) (by decide) rfl
    · exact ev_throwW (k := 1) tk_105_109 (tx := "a word is 2 to 511") (t := 27) (by decide +kernel) dX11_needWord_12 dX11_needWord_15 dX11_needWord_16 dX11_needWord_19 dX11_needWord_22 rfl (by decide) ⟨by decide, by decide, by decide, by decide⟩ (by decide) (by decide)
def f_X11_strokesOf_b4  (x1 : Int32 × Int32) : Option ((Int32 × Int32) ⊕ (Int32)) :=
  (if 1 < x1.2 then (if x1.1 < 31 then some (.inl ((x1.1 + 1), (x1.2 >>> ((1 : Int32) &&& 31)))) else some (.inr x1.1)) else some (.inr x1.1))
def f_X11_strokesOf (p0 : Int32) : Option (Int32) :=
  ((am_loop (f_X11_strokesOf_b4  ) am_fuel (0, p0)).bind (fun t1 => some t1))
set_option maxRecDepth 20000 in
theorem t_X11_strokesOf {E : am_E} {l : Launch} (hl : l.stackTraces = false) {S : am_S} {p0 : Int32}  : am_M E l yX11_strokesOf (.code yX11_strokesOf cX11_strokesOf 3 (some .int)) 0 0 0 [.int p0] S ((f_X11_strokesOf p0).map (fun (v : Int32) => ((.inl (some (.int v)), S) : am_R))) := by
  refine am_M_of (w := fun (v : Int32) => ((.inl (some (.int v)), S) : am_R)) hl (by decide) (am_fc rfl am_fn) (Nat.le_of_ble_eq_true rfl) ?_
  show am_Ev E l (RX11, cX11_strokesOf, 3, (some .int), [], am_rm 0 0 0) (fun b a s x => am_Z E 0 0 b a s ((fun (v : Int32) => ((.inl (some (.int v)), S) : am_R)) x)) 0 0 0 [some (.int p0), none, none] [] S (f_X11_strokesOf p0)
  unfold f_X11_strokesOf
  refine ev_iconst (v := 0) dX11_strokesOf_0 (by decide) ?_
  refine ev_istore_n dX11_strokesOf_1 (am_lt rfl) ?_
  refine ev_iload_n dX11_strokesOf_2 rfl ?_
  refine ev_istore_n dX11_strokesOf_3 (am_lt rfl) ?_
  refine ev_weak (am_wf (am_wk (am_wk am_wn))) (ev_loop 4 25 (fun x1 : Int32 × Int32 => [none, some (.int x1.1), some (.int x1.2)]) (fun t1 : Int32 => [none, some (.int t1), none]) (fun x1 => S) (fun t1 => S) (fun x1 G1 hB1 hE1 => ?_) (fun t1 => ?_) am_fuel (0, p0))
  · unfold f_X11_strokesOf_b4
    refine ev_iload_n dX11_strokesOf_4 rfl ?_
    refine ev_iconst (v := 1) dX11_strokesOf_5 (by decide) ?_
    refine ev_eq am_ib ?_
    refine ev_icmp_le (tgt := 25) dX11_strokesOf_6 (by decide) (fun c4 => ?_) (fun c4 => ?_)
    · exact ev_leaf (am_wf (am_wk (am_wf am_wn))) (hE1 x1.1)
    · refine ev_iload_n dX11_strokesOf_9 rfl ?_
      refine ev_bipush (v := 31) dX11_strokesOf_10 (by decide) ?_
      refine ev_eq am_ib ?_
      refine ev_icmp_ge (tgt := 25) dX11_strokesOf_12 (by decide) (fun c5 => ?_) (fun c5 => ?_)
      · exact ev_leaf (am_wf (am_wk (am_wf am_wn))) (hE1 x1.1)
      · refine ev_iinc (v := (x1.1 + 1)) dX11_strokesOf_15 (am_lt rfl) rfl rfl ?_
        refine ev_iload_n dX11_strokesOf_18 rfl ?_
        refine ev_iconst (v := 1) dX11_strokesOf_19 (by decide) ?_
        refine ev_ishr dX11_strokesOf_20 ?_
        refine ev_istore_n dX11_strokesOf_21 (am_lt rfl) ?_
        refine ev_goto (tgt := 4) dX11_strokesOf_22 (by decide) ?_
        exact ev_leaf (am_wf (am_wk (am_wk am_wn))) (hB1 ((x1.1 + 1), (x1.2 >>> ((1 : Int32) &&& 31))))
  · refine ev_iload_n dX11_strokesOf_25 rfl ?_
    exact ev_iret dX11_strokesOf_26 rfl rfl (by decide) (by decide) rfl
def f_J6_bitCount_0f7a4 (p0 : Int32) : Option (Int32) :=
  some ((((((((p0 - (((p0).toUInt32 >>> ((1 : Int32).toUInt32 &&& Int32.toUInt32 31)).toInt32 &&& 1431655765)) &&& 858993459) + ((((p0 - (((p0).toUInt32 >>> ((1 : Int32).toUInt32 &&& Int32.toUInt32 31)).toInt32 &&& 1431655765))).toUInt32 >>> ((2 : Int32).toUInt32 &&& Int32.toUInt32 31)).toInt32 &&& 858993459)) + (((((p0 - (((p0).toUInt32 >>> ((1 : Int32).toUInt32 &&& Int32.toUInt32 31)).toInt32 &&& 1431655765)) &&& 858993459) + ((((p0 - (((p0).toUInt32 >>> ((1 : Int32).toUInt32 &&& Int32.toUInt32 31)).toInt32 &&& 1431655765))).toUInt32 >>> ((2 : Int32).toUInt32 &&& Int32.toUInt32 31)).toInt32 &&& 858993459))).toUInt32 >>> ((4 : Int32).toUInt32 &&& Int32.toUInt32 31)).toInt32) &&& 252645135) + (((((((p0 - (((p0).toUInt32 >>> ((1 : Int32).toUInt32 &&& Int32.toUInt32 31)).toInt32 &&& 1431655765)) &&& 858993459) + ((((p0 - (((p0).toUInt32 >>> ((1 : Int32).toUInt32 &&& Int32.toUInt32 31)).toInt32 &&& 1431655765))).toUInt32 >>> ((2 : Int32).toUInt32 &&& Int32.toUInt32 31)).toInt32 &&& 858993459)) + (((((p0 - (((p0).toUInt32 >>> ((1 : Int32).toUInt32 &&& Int32.toUInt32 31)).toInt32 &&& 1431655765)) &&& 858993459) + ((((p0 - (((p0).toUInt32 >>> ((1 : Int32).toUInt32 &&& Int32.toUInt32 31)).toInt32 &&& 1431655765))).toUInt32 >>> ((2 : Int32).toUInt32 &&& Int32.toUInt32 31)).toInt32 &&& 858993459))).toUInt32 >>> ((4 : Int32).toUInt32 &&& Int32.toUInt32 31)).toInt32) &&& 252645135)).toUInt32 >>> ((8 : Int32).toUInt32 &&& Int32.toUInt32 31)).toInt32) + ((((((((p0 - (((p0).toUInt32 >>> ((1 : Int32).toUInt32 &&& Int32.toUInt32 31)).toInt32 &&& 1431655765)) &&& 858993459) + ((((p0 - (((p0).toUInt32 >>> ((1 : Int32).toUInt32 &&& Int32.toUInt32 31)).toInt32 &&& 1431655765))).toUInt32 >>> ((2 : Int32).toUInt32 &&& Int32.toUInt32 31)).toInt32 &&& 858993459)) + (((((p0 - (((p0).toUInt32 >>> ((1 : Int32).toUInt32 &&& Int32.toUInt32 31)).toInt32 &&& 1431655765)) &&& 858993459) + ((((p0 - (((p0).toUInt32 >>> ((1 : Int32).toUInt32 &&& Int32.toUInt32 31)).toInt32 &&& 1431655765))).toUInt32 >>> ((2 : Int32).toUInt32 &&& Int32.toUInt32 31)).toInt32 &&& 858993459))).toUInt32 >>> ((4 : Int32).toUInt32 &&& Int32.toUInt32 31)).toInt32) &&& 252645135) + (((((((p0 - (((p0).toUInt32 >>> ((1 : Int32).toUInt32 &&& Int32.toUInt32 31)).toInt32 &&& 1431655765)) &&& 858993459) + ((((p0 - (((p0).toUInt32 >>> ((1 : Int32).toUInt32 &&& Int32.toUInt32 31)).toInt32 &&& 1431655765))).toUInt32 >>> ((2 : Int32).toUInt32 &&& Int32.toUInt32 31)).toInt32 &&& 858993459)) + (((((p0 - (((p0).toUInt32 >>> ((1 : Int32).toUInt32 &&& Int32.toUInt32 31)).toInt32 &&& 1431655765)) &&& 858993459) + ((((p0 - (((p0).toUInt32 >>> ((1 : Int32).toUInt32 &&& Int32.toUInt32 31)).toInt32 &&& 1431655765))).toUInt32 >>> ((2 : Int32).toUInt32 &&& Int32.toUInt32 31)).toInt32 &&& 858993459))).toUInt32 >>> ((4 : Int32).toUInt32 &&& Int32.toUInt32 31)).toInt32) &&& 252645135)).toUInt32 >>> ((8 : Int32).toUInt32 &&& Int32.toUInt32 31)).toInt32)).toUInt32 >>> ((16 : Int32).toUInt32 &&& Int32.toUInt32 31)).toInt32) &&& 63)
set_option maxRecDepth 20000 in
theorem t_J6_bitCount_0f7a4 {E : am_E} {l : Launch} (hl : l.stackTraces = false) {S : am_S} {p0 : Int32}  : am_M E l yJ6_bitCount_0f7a4 (.code yJ6_bitCount_0f7a4 cJ6_bitCount_0f7a4 1 (some .int)) 0 0 0 [.int p0] S ((f_J6_bitCount_0f7a4 p0).map (fun (v : Int32) => ((.inl (some (.int v)), S) : am_R))) := by
  refine am_M_of (w := fun (v : Int32) => ((.inl (some (.int v)), S) : am_R)) hl (by decide) (am_fc rfl am_fn) (Nat.le_of_ble_eq_true rfl) ?_
  show am_Ev E l (RJ6, cJ6_bitCount_0f7a4, 1, (some .int), [], am_rm 0 0 0) (fun b a s x => am_Z E 0 0 b a s ((fun (v : Int32) => ((.inl (some (.int v)), S) : am_R)) x)) 0 0 0 [some (.int p0)] [] S (f_J6_bitCount_0f7a4 p0)
  unfold f_J6_bitCount_0f7a4
  refine ev_iload_n dJ6_bitCount_0f7a4_0 rfl ?_
  refine ev_iload_n dJ6_bitCount_0f7a4_1 rfl ?_
  refine ev_iconst (v := 1) dJ6_bitCount_0f7a4_2 (by decide) ?_
  refine ev_iushr dJ6_bitCount_0f7a4_3 ?_
  refine ev_ldcwI (v := 1431655765) dJ6_bitCount_0f7a4_4 (am_G_t (i := 531) (by decide +kernel) rfl) ?_
  refine ev_iand dJ6_bitCount_0f7a4_7 ?_
  refine ev_isub dJ6_bitCount_0f7a4_8 ?_
  refine ev_istore_n dJ6_bitCount_0f7a4_9 (am_lt rfl) ?_
  refine ev_iload_n dJ6_bitCount_0f7a4_10 rfl ?_
  refine ev_ldcwI (v := 858993459) dJ6_bitCount_0f7a4_11 (am_G_t (i := 532) (by decide +kernel) rfl) ?_
  refine ev_iand dJ6_bitCount_0f7a4_14 ?_
  refine ev_iload_n dJ6_bitCount_0f7a4_15 rfl ?_
  refine ev_iconst (v := 2) dJ6_bitCount_0f7a4_16 (by decide) ?_
  refine ev_iushr dJ6_bitCount_0f7a4_17 ?_
  refine ev_ldcwI (v := 858993459) dJ6_bitCount_0f7a4_18 (am_G_t (i := 532) (by decide +kernel) rfl) ?_
  refine ev_iand dJ6_bitCount_0f7a4_21 ?_
  refine ev_iadd dJ6_bitCount_0f7a4_22 ?_
  refine ev_istore_n dJ6_bitCount_0f7a4_23 (am_lt rfl) ?_
  refine ev_iload_n dJ6_bitCount_0f7a4_24 rfl ?_
  refine ev_iload_n dJ6_bitCount_0f7a4_25 rfl ?_
  refine ev_iconst (v := 4) dJ6_bitCount_0f7a4_26 (by decide) ?_
  refine ev_iushr dJ6_bitCount_0f7a4_27 ?_
  refine ev_iadd dJ6_bitCount_0f7a4_28 ?_
  refine ev_ldcwI (v := 252645135) dJ6_bitCount_0f7a4_29 (am_G_t (i := 533) (by decide +kernel) rfl) ?_
  refine ev_iand dJ6_bitCount_0f7a4_32 ?_
  refine ev_istore_n dJ6_bitCount_0f7a4_33 (am_lt rfl) ?_
  refine ev_iload_n dJ6_bitCount_0f7a4_34 rfl ?_
  refine ev_iload_n dJ6_bitCount_0f7a4_35 rfl ?_
  refine ev_bipush (v := 8) dJ6_bitCount_0f7a4_36 (by decide) ?_
  refine ev_iushr dJ6_bitCount_0f7a4_38 ?_
  refine ev_iadd dJ6_bitCount_0f7a4_39 ?_
  refine ev_istore_n dJ6_bitCount_0f7a4_40 (am_lt rfl) ?_
  refine ev_iload_n dJ6_bitCount_0f7a4_41 rfl ?_
  refine ev_iload_n dJ6_bitCount_0f7a4_42 rfl ?_
  refine ev_bipush (v := 16) dJ6_bitCount_0f7a4_43 (by decide) ?_
  refine ev_iushr dJ6_bitCount_0f7a4_45 ?_
  refine ev_iadd dJ6_bitCount_0f7a4_46 ?_
  refine ev_istore_n dJ6_bitCount_0f7a4_47 (am_lt rfl) ?_
  refine ev_iload_n dJ6_bitCount_0f7a4_48 rfl ?_
  refine ev_bipush (v := 63) dJ6_bitCount_0f7a4_49 (by decide) ?_
  refine ev_iand dJ6_bitCount_0f7a4_51 ?_
  exact ev_iret dJ6_bitCount_0f7a4_52 rfl rfl (by decide) (by decide) rfl
def f_X11_minutesOf (p0 : Int32) : Option (Int32) :=
  (if p0 < 1 then some 0 else ((f_X11_strokesOf p0).bind (fun v2 => ((f_J6_bitCount_0f7a4 p0).bind (fun v3 => some ((v2 + v3) - 1))))))
set_option maxRecDepth 20000 in
theorem t_X11_minutesOf {E : am_E} {l : Launch} (hl : l.stackTraces = false) {S : am_S} {p0 : Int32}  : am_M E l yX11_minutesOf (.code yX11_minutesOf cX11_minutesOf 1 (some .int)) 1 0 0 [.int p0] S ((f_X11_minutesOf p0).map (fun (v : Int32) => ((.inl (some (.int v)), S) : am_R))) := by
  refine am_M_of (w := fun (v : Int32) => ((.inl (some (.int v)), S) : am_R)) hl (by decide) (am_fc rfl am_fn) (Nat.le_of_ble_eq_true rfl) ?_
  show am_Ev E l (RX11, cX11_minutesOf, 1, (some .int), [], am_rm 1 0 0) (fun b a s x => am_Z E 0 0 b a s ((fun (v : Int32) => ((.inl (some (.int v)), S) : am_R)) x)) 0 0 0 [some (.int p0)] [] S (f_X11_minutesOf p0)
  unfold f_X11_minutesOf
  refine ev_iload_n dX11_minutesOf_0 rfl ?_
  refine ev_iconst (v := 1) dX11_minutesOf_1 (by decide) ?_
  refine ev_icmp_ge (tgt := 9) dX11_minutesOf_2 (by decide) (fun c1 => ?_) (fun c1 => ?_)
  · refine ev_iload_n dX11_minutesOf_9 rfl ?_
    refine ev_callP (am_callS (as := [.int p0]) (st := []) ct_X11_440 dX11_minutesOf_10 rfl (am_le rfl) (am_fit (by omega) (by decide) (by decide) (by decide)) (t_X11_strokesOf hl )) (fun v2 h2 => ?_)
    refine ev_iload_n dX11_minutesOf_13 rfl ?_
    refine ev_callP (am_callS (as := [.int p0]) (st := [.int v2]) ct_X11_443 dX11_minutesOf_14 rfl (am_le rfl) (am_fit (by omega) (by decide) (by decide) (by decide)) (t_J6_bitCount_0f7a4 hl )) (fun v3 h3 => ?_)
    refine ev_iadd dX11_minutesOf_17 ?_
    refine ev_iconst (v := 1) dX11_minutesOf_18 (by decide) ?_
    refine ev_isub dX11_minutesOf_19 ?_
    exact ev_iret dX11_minutesOf_20 rfl rfl (by decide) (by decide) rfl
  · refine ev_iconst (v := 0) dX11_minutesOf_5 (by decide) ?_
    refine ev_goto (tgt := 20) dX11_minutesOf_6 (by decide) ?_
    exact ev_iret dX11_minutesOf_20 rfl rfl (by decide) (by decide) rfl
def f_X11_cost (S : am_S) (p0 : Nat) (p1 : Int32) : Option (am_R) :=
  (am_thV (f_X11_needWord S p0 p1) (fun S1 => ((f_X11_minutesOf p1).bind (fun v2 => some (.inl (some (.int v2)), S1)))))
set_option maxRecDepth 20000 in
theorem t_X11_cost {E : am_E} {l : Launch} (hl : l.stackTraces = false) {S : am_S} {p0 : Nat} {p1 : Int32} (kp0 : am_kd p0 = 111) : am_M E l yX11_cost (.code yX11_cost cX11_cost 2 (some .int)) 2 1 6 [.ref p0, .int p1] S (f_X11_cost S p0 p1) := by
  refine am_M_id (am_M_of (w := fun x => x) hl (by decide) (am_fc rfl (am_fc rfl am_fn)) (Nat.le_of_ble_eq_true rfl) ?_)
  show am_Ev E l (RX11, cX11_cost, 2, (some .int), [], am_rm 2 1 6) (am_Z E 1 6) 0 0 0 [some (.ref p0), some (.int p1)] [] S (f_X11_cost S p0 p1)
  unfold f_X11_cost
  refine ev_aload_n dX11_cost_0 rfl ?_
  refine ev_iload_n dX11_cost_1 rfl ?_
  refine ev_callGV (am_callV (as := [.int p1]) (o := p0) (st := []) cv_X11_175 dX11_cost_2 kp0 rfl (am_le rfl) (am_fit (by omega) (by decide) (by decide) (by decide)) (t_X11_needWord hl kp0)) rfl (by decide) (by decide) (fun S1 h1 => ?_)
  refine ev_iload_n dX11_cost_5 rfl ?_
  refine ev_callP (am_callS (as := [.int p1]) (st := []) ct_X11_178 dX11_cost_6 rfl (am_le rfl) (am_fit (by omega) (by decide) (by decide) (by decide)) (t_X11_minutesOf hl )) (fun v2 h2 => ?_)
  exact ev_iret dX11_cost_9 rfl rfl (by decide) (by decide) rfl
def f_X9_clearOf (S : am_S) (p0 : Nat) (p1 : Int32) (p2 : Int32) : Option (Int32) :=
  ((f_X9_hasHouse S p0 p1).bind (fun v1 => (if v1 = 0 then some 0 else ((f_X9_hasHouse S p0 p2).bind (fun v3 => (if v3 = 0 then some 0 else ((am_rd S.2 p0 13 1).bind (fun q5 => ((am_ld S.1 q5 ((p1 * 8) + p2)).bind (fun v6 => some v6))))))))))
set_option maxRecDepth 20000 in
theorem t_X9_clearOf {E : am_E} {l : Launch} (hl : l.stackTraces = false) {S : am_S} {p0 : Nat} {p1 : Int32} {p2 : Int32} (kp0 : am_kd p0 = 109) : am_M E l yX9_clearOf (.code yX9_clearOf cX9_clearOf 3 (some .int)) 1 0 0 [.ref p0, .int p1, .int p2] S ((f_X9_clearOf S p0 p1 p2).map (fun (v : Int32) => ((.inl (some (.int v)), S) : am_R))) := by
  refine am_M_of (w := fun (v : Int32) => ((.inl (some (.int v)), S) : am_R)) hl (by decide) (am_fc rfl (am_fc rfl (am_fc rfl am_fn))) (Nat.le_of_ble_eq_true rfl) ?_
  show am_Ev E l (RX9, cX9_clearOf, 3, (some .int), [], am_rm 1 0 0) (fun b a s x => am_Z E 0 0 b a s ((fun (v : Int32) => ((.inl (some (.int v)), S) : am_R)) x)) 0 0 0 [some (.ref p0), some (.int p1), some (.int p2)] [] S (f_X9_clearOf S p0 p1 p2)
  unfold f_X9_clearOf
  refine ev_aload_n dX9_clearOf_0 rfl ?_
  refine ev_iload_n dX9_clearOf_1 rfl ?_
  refine ev_callP (am_callV (as := [.int p1]) (o := p0) (st := []) cv_X9_86 dX9_clearOf_2 kp0 rfl (am_le rfl) (am_fit (by omega) (by decide) (by decide) (by decide)) (t_X9_hasHouse hl kp0)) (fun v1 h1 => ?_)
  refine ev_if_eq (tgt := 30) dX9_clearOf_5 (by decide) (fun c2 => ?_) (fun c2 => ?_)
  · refine ev_iconst (v := 0) dX9_clearOf_30 (by decide) ?_
    exact ev_iret dX9_clearOf_31 rfl rfl (by decide) (by decide) rfl
  · refine ev_aload_n dX9_clearOf_8 rfl ?_
    refine ev_iload_n dX9_clearOf_9 rfl ?_
    refine ev_callP (am_callV (as := [.int p2]) (o := p0) (st := []) cv_X9_86 dX9_clearOf_10 kp0 rfl (am_le rfl) (am_fit (by omega) (by decide) (by decide) (by decide)) (t_X9_hasHouse hl kp0)) (fun v3 h3 => ?_)
    refine ev_if_eq (tgt := 30) dX9_clearOf_13 (by decide) (fun c4 => ?_) (fun c4 => ?_)
    · refine ev_iconst (v := 0) dX9_clearOf_30 (by decide) ?_
      exact ev_iret dX9_clearOf_31 rfl rfl (by decide) (by decide) rfl
    · refine ev_aload_n dX9_clearOf_16 rfl ?_
      refine ev_getR fk_X9_33 (by decide) dX9_clearOf_17 kp0 (fun q5 k5 r5 => ?_)
      refine ev_iload_n dX9_clearOf_20 rfl ?_
      refine ev_bipush (v := 8) dX9_clearOf_21 (by decide) ?_
      refine ev_imul dX9_clearOf_23 ?_
      refine ev_iload_n dX9_clearOf_24 rfl ?_
      refine ev_iadd dX9_clearOf_25 ?_
      refine ev_iald dX9_clearOf_26 k5 (fun v6 h6 => ?_)
      refine ev_goto (tgt := 31) dX9_clearOf_27 (by decide) ?_
      exact ev_iret dX9_clearOf_31 rfl rfl (by decide) (by decide) rfl
def f_X9_isHarming_b34 (S : am_S) (a0 : Nat) (a1 : Int32) (a2 : Int32) (x6 : Int32 × Int32) : Option ((Int32 × Int32) ⊕ (Int32)) :=
  (if x6.2 < (S.1 a0 0) then (if x6.1 = 0 then ((f_X9_clearOf S a0 x6.2 a1).bind (fun v9 => ((if 0 < v9 then ((f_X9_clearOf S a0 x6.2 a2).bind (fun v11 => (if 0 < v11 then some (1 : Int32) else some (0 : Int32)))) else some (0 : Int32)).bind (fun t10 => some (.inl (t10, (x6.2 + 1))))))) else some (.inr x6.1)) else some (.inr x6.1))
def f_X9_isHarming (S : am_S) (p0 : Nat) (p1 : Int32) (p2 : Int32) : Option (Int32) :=
  (if p1 = p2 then some 0 else ((f_X9_clearOf S p0 p1 p2).bind (fun v2 => ((if 0 < v2 then some (1 : Int32) else ((f_X9_clearOf S p0 p2 p1).bind (fun v4 => (if 0 < v4 then some (1 : Int32) else some (0 : Int32))))).bind (fun t3 => ((am_loop (f_X9_isHarming_b34 S p0 p1 p2) am_fuel (t3, 0)).bind (fun t6 => (if t6 = 0 ∨ t6 = 1 then some t6 else none))))))))
set_option maxRecDepth 20000 in
theorem t_X9_isHarming {E : am_E} {l : Launch} (hl : l.stackTraces = false) {S : am_S} {p0 : Nat} {p1 : Int32} {p2 : Int32} (kp0 : am_kd p0 = 109) : am_M E l yX9_isHarming (.code yX9_isHarming cX9_isHarming 5 (some .boolean)) 2 0 0 [.ref p0, .int p1, .int p2] S ((f_X9_isHarming S p0 p1 p2).map (fun (v : Int32) => ((.inl (some (.int v)), S) : am_R))) := by
  refine am_M_of (w := fun (v : Int32) => ((.inl (some (.int v)), S) : am_R)) hl (by decide) (am_fc rfl (am_fc rfl (am_fc rfl am_fn))) (Nat.le_of_ble_eq_true rfl) ?_
  show am_Ev E l (RX9, cX9_isHarming, 5, (some .boolean), [], am_rm 2 0 0) (fun b a s x => am_Z E 0 0 b a s ((fun (v : Int32) => ((.inl (some (.int v)), S) : am_R)) x)) 0 0 0 [some (.ref p0), some (.int p1), some (.int p2), none, none] [] S (f_X9_isHarming S p0 p1 p2)
  unfold f_X9_isHarming
  refine ev_iload_n dX9_isHarming_0 rfl ?_
  refine ev_iload_n dX9_isHarming_1 rfl ?_
  refine ev_icmp_ne (tgt := 7) dX9_isHarming_2 (by decide) (fun c1 => ?_) (fun c1 => ?_)
  · refine ev_aload_n dX9_isHarming_7 rfl ?_
    refine ev_iload_n dX9_isHarming_8 rfl ?_
    refine ev_iload_n dX9_isHarming_9 rfl ?_
    refine ev_callP (am_callV (as := [.int p1, .int p2]) (o := p0) (st := []) cv_X9_108 dX9_isHarming_10 kp0 rfl (am_le rfl) (am_fit (by omega) (by decide) (by decide) (by decide)) (t_X9_clearOf hl kp0)) (fun v2 h2 => ?_)
    refine ev_reg (cs' := 0) (sl' := 0) 30 (fun t3 : Int32 => [some (.ref p0), some (.int p1), some (.int p2), none, none]) (fun t3 => [.int t3]) (fun t3 => S) (fun hJ3 => ?_) (fun t3 => ?_)
    · refine ev_eq am_ib ?_
      refine ev_if_gt (tgt := 25) dX9_isHarming_13 (by decide) (fun c3 => ?_) (fun c3 => ?_)
      · refine ev_iconst (v := 1) dX9_isHarming_25 (by decide) ?_
        refine ev_goto (tgt := 30) dX9_isHarming_26 (by decide) ?_
        exact ev_leaf (am_wk (am_wk (am_wk (am_wf (am_wf am_wn))))) (hJ3 (1 : Int32))
      · refine ev_aload_n dX9_isHarming_16 rfl ?_
        refine ev_iload_n dX9_isHarming_17 rfl ?_
        refine ev_iload_n dX9_isHarming_18 rfl ?_
        refine ev_eq (Option.bind_assoc _ _ _) ?_
        refine ev_callP (am_callV (as := [.int p2, .int p1]) (o := p0) (st := []) cv_X9_108 dX9_isHarming_19 kp0 rfl (am_le rfl) (am_fit (by omega) (by decide) (by decide) (by decide)) (t_X9_clearOf hl kp0)) (fun v4 h4 => ?_)
        refine ev_eq am_ib ?_
        refine ev_if_le (tgt := 29) dX9_isHarming_22 (by decide) (fun c5 => ?_) (fun c5 => ?_)
        · refine ev_iconst (v := 0) dX9_isHarming_29 (by decide) ?_
          exact ev_leaf (am_wk (am_wk (am_wk (am_wf (am_wf am_wn))))) (hJ3 (0 : Int32))
        · refine ev_iconst (v := 1) dX9_isHarming_25 (by decide) ?_
          refine ev_goto (tgt := 30) dX9_isHarming_26 (by decide) ?_
          exact ev_leaf (am_wk (am_wk (am_wk (am_wf (am_wf am_wn))))) (hJ3 (1 : Int32))
    · refine ev_istore_n dX9_isHarming_30 (am_lt rfl) ?_
      refine ev_iconst (v := 0) dX9_isHarming_31 (by decide) ?_
      refine ev_istore dX9_isHarming_32 (am_lt rfl) ?_
      refine ev_weak (am_wk (am_wk (am_wk (am_wk (am_wk am_wn))))) (ev_loop 34 79 (fun x6 : Int32 × Int32 => [some (.ref p0), some (.int p1), some (.int p2), some (.int x6.1), some (.int x6.2)]) (fun t6 : Int32 => [none, none, none, some (.int t6), none]) (fun x6 => S) (fun t6 => S) (fun x6 G6 hB6 hE6 => ?_) (fun t6 => ?_) am_fuel (t3, 0))
      · unfold f_X9_isHarming_b34
        refine ev_iload dX9_isHarming_34 rfl ?_
        refine ev_aload_n dX9_isHarming_36 rfl ?_
        refine ev_get fk_X9_50 dX9_isHarming_37 kp0 (am_fvI (by decide)) ?_
        refine ev_eq am_ib ?_
        refine ev_icmp_ge (tgt := 79) dX9_isHarming_40 (by decide) (fun c13 => ?_) (fun c13 => ?_)
        · exact ev_leaf (am_wf (am_wf (am_wf (am_wk (am_wf am_wn))))) (hE6 x6.1)
        · refine ev_iload_n dX9_isHarming_43 rfl ?_
          refine ev_eq am_ib ?_
          refine ev_if_ne (tgt := 79) dX9_isHarming_44 (by decide) (fun c14 => ?_) (fun c14 => ?_)
          · exact ev_leaf (am_wf (am_wf (am_wf (am_wk (am_wf am_wn))))) (hE6 x6.1)
          · refine ev_aload_n dX9_isHarming_47 rfl ?_
            refine ev_iload dX9_isHarming_48 rfl ?_
            refine ev_iload_n dX9_isHarming_50 rfl ?_
            refine ev_eq (Option.bind_assoc _ _ _) ?_
            refine ev_callP (am_callV (as := [.int x6.2, .int p1]) (o := p0) (st := []) cv_X9_108 dX9_isHarming_51 kp0 rfl (am_le rfl) (am_fit (by omega) (by decide) (by decide) (by decide)) (t_X9_clearOf hl kp0)) (fun v15 h15 => ?_)
            refine ev_eq (Option.bind_assoc _ _ _) ?_
            refine ev_reg (cs' := 0) (sl' := 0) 72 (fun t16 : Int32 => [some (.ref p0), some (.int p1), some (.int p2), none, some (.int x6.2)]) (fun t16 => [.int t16]) (fun t16 => S) (fun hJ16 => ?_) (fun t16 => ?_)
            · refine ev_eq am_ib ?_
              refine ev_if_le (tgt := 71) dX9_isHarming_54 (by decide) (fun c16 => ?_) (fun c16 => ?_)
              · refine ev_iconst (v := 0) dX9_isHarming_71 (by decide) ?_
                exact ev_leaf (am_wk (am_wk (am_wk (am_wf (am_wk am_wn))))) (hJ16 (0 : Int32))
              · refine ev_aload_n dX9_isHarming_57 rfl ?_
                refine ev_iload dX9_isHarming_58 rfl ?_
                refine ev_iload_n dX9_isHarming_60 rfl ?_
                refine ev_eq (Option.bind_assoc _ _ _) ?_
                refine ev_callP (am_callV (as := [.int x6.2, .int p2]) (o := p0) (st := []) cv_X9_108 dX9_isHarming_61 kp0 rfl (am_le rfl) (am_fit (by omega) (by decide) (by decide) (by decide)) (t_X9_clearOf hl kp0)) (fun v17 h17 => ?_)
                refine ev_eq am_ib ?_
                refine ev_if_le (tgt := 71) dX9_isHarming_64 (by decide) (fun c18 => ?_) (fun c18 => ?_)
                · refine ev_iconst (v := 0) dX9_isHarming_71 (by decide) ?_
                  exact ev_leaf (am_wk (am_wk (am_wk (am_wf (am_wk am_wn))))) (hJ16 (0 : Int32))
                · refine ev_iconst (v := 1) dX9_isHarming_67 (by decide) ?_
                  refine ev_goto (tgt := 72) dX9_isHarming_68 (by decide) ?_
                  exact ev_leaf (am_wk (am_wk (am_wk (am_wf (am_wk am_wn))))) (hJ16 (1 : Int32))
            · refine ev_istore_n dX9_isHarming_72 (am_lt rfl) ?_
              refine ev_iinc (v := (x6.2 + 1)) dX9_isHarming_73 (am_lt rfl) rfl rfl ?_
              refine ev_goto (tgt := 34) dX9_isHarming_76 (by decide) ?_
              exact ev_leaf (am_wk (am_wk (am_wk (am_wk (am_wk am_wn))))) (hB6 (t16, (x6.2 + 1)))
      · refine ev_iload_n dX9_isHarming_79 rfl ?_
        refine ev_split (fun c19 => ?_) (fun _ => ?_)
        · exact ev_iret dX9_isHarming_80 rfl (am_nb c19) (by decide) (by decide) rfl
        · exact ev_none
  · refine ev_iconst (v := 0) dX9_isHarming_5 (by decide) ?_
    exact ev_iret dX9_isHarming_6 rfl (by decide) (by decide) (by decide) rfl
def f_X11_way (S : am_S) (p0 : Nat) (p1 : Int32) (p2 : Int32) (p3 : Int32) : Option (am_R) :=
  (am_thV (f_X11_needHouse S p0 p1) (fun S1 => (am_thV (f_X11_needHouse S1 p0 p2) (fun S2 => (if p3 = 0 then ((am_rd S2.2 p0 3 109).bind (fun q4 => ((f_X9_farFrom S2 q4 p1 p2).bind (fun v5 => some (.inl (some (.int v5)), S2))))) else (if p3 = 1 then ((am_rd S2.2 p0 3 109).bind (fun q6 => ((f_X9_clearOf S2 q6 p1 p2).bind (fun v7 => (if 0 < v7 then some (.inl (some (.int 1)), S2) else some (.inl (some (.int 0)), S2)))))) else (if p3 = 2 then ((am_rd S2.2 p0 3 109).bind (fun q9 => ((f_X9_clearOf S2 q9 p1 p2).bind (fun v10 => some (.inl (some (.int v10)), S2))))) else (if p3 = 3 then ((am_rd S2.2 p0 3 109).bind (fun q11 => ((f_X9_isHarming S2 q11 p1 p2).bind (fun v12 => (if v12 = 0 then some (.inl (some (.int 0)), S2) else some (.inl (some (.int 1)), S2)))))) else some (.inr 3, S2)))))))))
set_option maxRecDepth 20000 in
theorem t_X11_way {E : am_E} {l : Launch} (hl : l.stackTraces = false) {S : am_S} {p0 : Nat} {p1 : Int32} {p2 : Int32} {p3 : Int32} (kp0 : am_kd p0 = 111) : am_M E l yX11_way (.code yX11_way cX11_way 4 (some .int)) 3 3 18 [.ref p0, .int p1, .int p2, .int p3] S (f_X11_way S p0 p1 p2 p3) := by
  refine am_M_id (am_M_of (w := fun x => x) hl (by decide) (am_fc rfl (am_fc rfl (am_fc rfl (am_fc rfl am_fn)))) (Nat.le_of_ble_eq_true rfl) ?_)
  show am_Ev E l (RX11, cX11_way, 4, (some .int), [], am_rm 3 3 18) (am_Z E 3 18) 0 0 0 [some (.ref p0), some (.int p1), some (.int p2), some (.int p3)] [] S (f_X11_way S p0 p1 p2 p3)
  unfold f_X11_way
  refine ev_aload_n dX11_way_0 rfl ?_
  refine ev_iload_n dX11_way_1 rfl ?_
  refine ev_callGV (am_callV (as := [.int p1]) (o := p0) (st := []) cv_X11_138 dX11_way_2 kp0 rfl (am_le rfl) (am_fit (by omega) (by decide) (by decide) (by decide)) (t_X11_needHouse hl kp0)) rfl (by decide) (by decide) (fun S1 h1 => ?_)
  refine ev_aload_n dX11_way_5 rfl ?_
  refine ev_iload_n dX11_way_6 rfl ?_
  refine ev_callGV (am_callV (as := [.int p2]) (o := p0) (st := []) cv_X11_138 dX11_way_7 kp0 rfl (am_le rfl) (am_fit (by omega) (by decide) (by decide) (by decide)) (t_X11_needHouse hl kp0)) rfl (by decide) (by decide) (fun S2 h2 => ?_)
  refine ev_iload_n dX11_way_10 rfl ?_
  refine ev_split (fun c3_0 => ?_) (fun c3_0 => ?_)
  · refine ev_swI (tgt := 40) dX11_way_11 (by rw [c3_0]; decide) (by rw [c3_0]; decide) (by rw [c3_0]; rfl) (by decide) ?_
    refine ev_aload_n dX11_way_40 rfl ?_
    refine ev_getR fk_X11_20 (by decide) dX11_way_41 kp0 (fun q4 k4 r4 => ?_)
    refine ev_iload_n dX11_way_44 rfl ?_
    refine ev_iload_n dX11_way_45 rfl ?_
    refine ev_callP (am_callVN (as := [.int p1, .int p2]) (o := q4) (st := []) cv_X11_181 dX11_way_46 k4 rfl (am_le rfl) (am_fit (by omega) (by decide) (by decide) (by decide)) (am_no1 (fun _ => ⟨_, rfl⟩)) (t_X9_farFrom hl k4)) (fun v5 h5 => ?_)
    exact ev_iret dX11_way_49 rfl rfl (by decide) (by decide) rfl
  refine ev_split (fun c3_1 => ?_) (fun c3_1 => ?_)
  · refine ev_swI (tgt := 50) dX11_way_11 (by rw [c3_1]; decide) (by rw [c3_1]; decide) (by rw [c3_1]; rfl) (by decide) ?_
    refine ev_aload_n dX11_way_50 rfl ?_
    refine ev_getR fk_X11_20 (by decide) dX11_way_51 kp0 (fun q6 k6 r6 => ?_)
    refine ev_iload_n dX11_way_54 rfl ?_
    refine ev_iload_n dX11_way_55 rfl ?_
    refine ev_callP (am_callVN (as := [.int p1, .int p2]) (o := q6) (st := []) cv_X11_184 dX11_way_56 k6 rfl (am_le rfl) (am_fit (by omega) (by decide) (by decide) (by decide)) (am_no1 (fun _ => ⟨_, rfl⟩)) (t_X9_clearOf hl k6)) (fun v7 h7 => ?_)
    refine ev_if_le (tgt := 66) dX11_way_59 (by decide) (fun c8 => ?_) (fun c8 => ?_)
    · refine ev_iconst (v := 0) dX11_way_66 (by decide) ?_
      exact ev_iret dX11_way_67 rfl rfl (by decide) (by decide) rfl
    · refine ev_iconst (v := 1) dX11_way_62 (by decide) ?_
      refine ev_goto (tgt := 67) dX11_way_63 (by decide) ?_
      exact ev_iret dX11_way_67 rfl rfl (by decide) (by decide) rfl
  refine ev_split (fun c3_2 => ?_) (fun c3_2 => ?_)
  · refine ev_swI (tgt := 68) dX11_way_11 (by rw [c3_2]; decide) (by rw [c3_2]; decide) (by rw [c3_2]; rfl) (by decide) ?_
    refine ev_aload_n dX11_way_68 rfl ?_
    refine ev_getR fk_X11_20 (by decide) dX11_way_69 kp0 (fun q9 k9 r9 => ?_)
    refine ev_iload_n dX11_way_72 rfl ?_
    refine ev_iload_n dX11_way_73 rfl ?_
    refine ev_callP (am_callVN (as := [.int p1, .int p2]) (o := q9) (st := []) cv_X11_184 dX11_way_74 k9 rfl (am_le rfl) (am_fit (by omega) (by decide) (by decide) (by decide)) (am_no1 (fun _ => ⟨_, rfl⟩)) (t_X9_clearOf hl k9)) (fun v10 h10 => ?_)
    exact ev_iret dX11_way_77 rfl rfl (by decide) (by decide) rfl
  refine ev_split (fun c3_3 => ?_) (fun c3_3 => ?_)
  · refine ev_swI (tgt := 78) dX11_way_11 (by rw [c3_3]; decide) (by rw [c3_3]; decide) (by rw [c3_3]; rfl) (by decide) ?_
    refine ev_aload_n dX11_way_78 rfl ?_
    refine ev_getR fk_X11_20 (by decide) dX11_way_79 kp0 (fun q11 k11 r11 => ?_)
    refine ev_iload_n dX11_way_82 rfl ?_
    refine ev_iload_n dX11_way_83 rfl ?_
    refine ev_callP (am_callVN (as := [.int p1, .int p2]) (o := q11) (st := []) cv_X11_187 dX11_way_84 k11 rfl (am_le rfl) (am_fit (by omega) (by decide) (by decide) (by decide)) (am_no1 (fun _ => ⟨_, rfl⟩)) (t_X9_isHarming hl k11)) (fun v12 h12 => ?_)
    refine ev_if_eq (tgt := 94) dX11_way_87 (by decide) (fun c13 => ?_) (fun c13 => ?_)
    · refine ev_iconst (v := 0) dX11_way_94 (by decide) ?_
      exact ev_iret dX11_way_95 rfl rfl (by decide) (by decide) rfl
    · refine ev_iconst (v := 1) dX11_way_90 (by decide) ?_
      refine ev_goto (tgt := 95) dX11_way_91 (by decide) ?_
      exact ev_iret dX11_way_95 rfl rfl (by decide) (by decide) rfl
  refine ev_swO (tgt := 96) dX11_way_11 (by have z3_0 := am_neI c3_0 (z := 0) (by decide); have z3_1 := am_neI c3_1 (z := 1) (by decide); have z3_2 := am_neI c3_2 (z := 2) (by decide); have z3_3 := am_neI c3_3 (z := 3) (by decide); omega) (by decide) ?_
  exact ev_throwN (k := 3) tk_160_164 (tx := "a way has what 0 to 3") (t := 28) (by decide +kernel) dX11_way_96 dX11_way_99 dX11_way_100 dX11_way_102 dX11_way_105 rfl (by decide) ⟨by decide, by decide, by decide, by decide⟩ (by decide) (by decide)
def f_X11_needMinute (S : am_S) (p0 : Nat) (p1 : Int32) : Option (am_R) :=
  (if p1 < 0 then some (.inr 1, S) else (if 999 < p1 then some (.inr 1, S) else some (.inl none, S)))
set_option maxRecDepth 20000 in
theorem t_X11_needMinute {E : am_E} {l : Launch} (hl : l.stackTraces = false) {S : am_S} {p0 : Nat} {p1 : Int32} (kp0 : am_kd p0 = 111) : am_M E l yX11_needMinute (.code yX11_needMinute cX11_needMinute 2 none) 0 1 6 [.ref p0, .int p1] S (f_X11_needMinute S p0 p1) := by
  refine am_M_id (am_M_of (w := fun x => x) hl (by decide) (am_fc rfl (am_fc rfl am_fn)) (Nat.le_of_ble_eq_true rfl) ?_)
  show am_Ev E l (RX11, cX11_needMinute, 2, none, [], am_rm 0 1 6) (am_Z E 1 6) 0 0 0 [some (.ref p0), some (.int p1)] [] S (f_X11_needMinute S p0 p1)
  unfold f_X11_needMinute
  refine ev_iload_n dX11_needMinute_0 rfl ?_
  refine ev_if_lt (tgt := 11) dX11_needMinute_1 (by decide) (fun c1 => ?_) (fun c1 => ?_)
  · exact ev_throwW (k := 1) tk_105_109 (tx := "a minute is 0 to 999") (t := 29) (by decide +kernel) dX11_needMinute_11 dX11_needMinute_14 dX11_needMinute_15 dX11_needMinute_18 dX11_needMinute_21 rfl (by decide) ⟨by decide, by decide, by decide, by decide⟩ (by decide) (by decide)
  · refine ev_iload_n dX11_needMinute_4 rfl ?_
    refine ev_sipush (v := 999) dX11_needMinute_5 (by decide) ?_
    refine ev_icmp_le (tgt := 22) dX11_needMinute_8 (by decide) (fun c2 => ?_) (fun c2 => ?_)
    · exact ev_vret dX11_needMinute_22 rfl (by decide) (by decide) rfl
    · exact ev_throwW (k := 1) tk_105_109 (tx := "a minute is 0 to 999") (t := 29) (by decide +kernel) dX11_needMinute_11 dX11_needMinute_14 dX11_needMinute_15 dX11_needMinute_18 dX11_needMinute_21 rfl (by decide) ⟨by decide, by decide, by decide, by decide⟩ (by decide) (by decide)
def f_X11_needRoomForRinging (S : am_S) (p0 : Nat) : Option (am_R) :=
  ((am_rd S.2 p0 3 109).bind (fun q1 => ((am_rd S.2 q1 15 106).bind (fun q2 => (if (S.1 q2 0) < 12 then some (.inl none, S) else some (.inr 2, S))))))
set_option maxRecDepth 20000 in
theorem t_X11_needRoomForRinging {E : am_E} {l : Launch} (hl : l.stackTraces = false) {S : am_S} {p0 : Nat} (kp0 : am_kd p0 = 111) : am_M E l yX11_needRoomForRinging (.code yX11_needRoomForRinging cX11_needRoomForRinging 1 none) 0 1 6 [.ref p0] S (f_X11_needRoomForRinging S p0) := by
  refine am_M_id (am_M_of (w := fun x => x) hl (by decide) (am_fc rfl am_fn) (Nat.le_of_ble_eq_true rfl) ?_)
  show am_Ev E l (RX11, cX11_needRoomForRinging, 1, none, [], am_rm 0 1 6) (am_Z E 1 6) 0 0 0 [some (.ref p0)] [] S (f_X11_needRoomForRinging S p0)
  unfold f_X11_needRoomForRinging
  refine ev_aload_n dX11_needRoomForRinging_0 rfl ?_
  refine ev_getR fk_X11_20 (by decide) dX11_needRoomForRinging_1 kp0 (fun q1 k1 r1 => ?_)
  refine ev_getRN fk_X11_201 (by decide) dX11_needRoomForRinging_4 k1 (fun q2 k2 r2 => ?_)
  refine ev_getN fk_X11_208 dX11_needRoomForRinging_7 k2 (am_fvI (by decide)) ?_
  refine ev_bipush (v := 12) dX11_needRoomForRinging_10 (by decide) ?_
  refine ev_icmp_lt (tgt := 26) dX11_needRoomForRinging_12 (by decide) (fun c3 => ?_) (fun c3 => ?_)
  · exact ev_vret dX11_needRoomForRinging_26 rfl (by decide) (by decide) rfl
  · exact ev_throwW (k := 2) tk_115_119 (tx := "there are 12 ringings") (t := 31) (by decide +kernel) dX11_needRoomForRinging_15 dX11_needRoomForRinging_18 dX11_needRoomForRinging_19 dX11_needRoomForRinging_22 dX11_needRoomForRinging_25 rfl (by decide) ⟨by decide, by decide, by decide, by decide⟩ (by decide) (by decide)
def f_X6_add (S : am_S) (p0 : Nat) (p1 : Int32) (p2 : Int32) (p3 : Int32) (p4 : Int32) : Option (Int32 × (Nat → Nat → Int32)) :=
  (if (S.1 p0 0) < 0 then some ((-1), S.1) else (if (S.1 p0 0) < 12 then ((am_rd S.2 p0 1 1).bind (fun q3 => ((am_st S.1 q3 (S.1 p0 0) p1).bind (fun σ4 => ((am_rd S.2 p0 2 1).bind (fun q5 => ((am_st σ4 q5 (σ4 p0 0) p2).bind (fun σ6 => ((am_rd S.2 p0 3 1).bind (fun q7 => ((am_st σ6 q7 (σ6 p0 0) p3).bind (fun σ8 => ((am_rd S.2 p0 4 1).bind (fun q9 => ((am_st σ8 q9 (σ8 p0 0) p4).bind (fun σ10 => some ((((am_u2 σ10 p0 0 ((σ10 p0 0) + 1)) p0 0) - 1), (am_u2 σ10 p0 0 ((σ10 p0 0) + 1))))))))))))))))))) else some ((-1), S.1)))
set_option maxRecDepth 20000 in
theorem t_X6_add {E : am_E} {l : Launch} (hl : l.stackTraces = false) {S : am_S} {p0 : Nat} {p1 : Int32} {p2 : Int32} {p3 : Int32} {p4 : Int32} (kp0 : am_kd p0 = 106) : am_M E l yX6_add (.code yX6_add cX6_add 5 (some .int)) 0 0 0 [.ref p0, .int p1, .int p2, .int p3, .int p4] S ((f_X6_add S p0 p1 p2 p3 p4).map (fun (x : Int32 × (Nat → Nat → Int32)) => ((.inl (some (.int x.1)), (x.2, S.2)) : am_R))) := by
  refine am_M_of (w := fun (x : Int32 × (Nat → Nat → Int32)) => ((.inl (some (.int x.1)), (x.2, S.2)) : am_R)) hl (by decide) (am_fc rfl (am_fc rfl (am_fc rfl (am_fc rfl (am_fc rfl am_fn))))) (Nat.le_of_ble_eq_true rfl) ?_
  show am_Ev E l (RX6, cX6_add, 5, (some .int), [], am_rm 0 0 0) (fun b a s x => am_Z E 0 0 b a s ((fun (x : Int32 × (Nat → Nat → Int32)) => ((.inl (some (.int x.1)), (x.2, S.2)) : am_R)) x)) 0 0 0 [some (.ref p0), some (.int p1), some (.int p2), some (.int p3), some (.int p4)] [] S (f_X6_add S p0 p1 p2 p3 p4)
  unfold f_X6_add
  refine ev_aload_n dX6_add_0 rfl ?_
  refine ev_get fk_X6_30 dX6_add_1 kp0 (am_fvI (by decide)) ?_
  refine ev_if_lt (tgt := 16) dX6_add_4 (by decide) (fun c1 => ?_) (fun c1 => ?_)
  · refine ev_iconst (v := (-1)) dX6_add_16 (by decide) ?_
    exact ev_iret dX6_add_17 rfl rfl (by decide) (by decide) rfl
  · refine ev_aload_n dX6_add_7 rfl ?_
    refine ev_get fk_X6_30 dX6_add_8 kp0 (am_fvI (by decide)) ?_
    refine ev_bipush (v := 12) dX6_add_11 (by decide) ?_
    refine ev_icmp_lt (tgt := 18) dX6_add_13 (by decide) (fun c2 => ?_) (fun c2 => ?_)
    · refine ev_aload_n dX6_add_18 rfl ?_
      refine ev_getR fk_X6_9 (by decide) dX6_add_19 kp0 (fun q3 k3 r3 => ?_)
      refine ev_aload_n dX6_add_22 rfl ?_
      refine ev_get fk_X6_30 dX6_add_23 kp0 (am_fvI (by decide)) ?_
      refine ev_iload_n dX6_add_26 rfl ?_
      refine ev_iast dX6_add_27 k3 (fun σ4 h4 => ?_)
      refine ev_aload_n dX6_add_28 rfl ?_
      refine ev_getR fk_X6_15 (by decide) dX6_add_29 kp0 (fun q5 k5 r5 => ?_)
      refine ev_aload_n dX6_add_32 rfl ?_
      refine ev_get fk_X6_30 dX6_add_33 kp0 (am_fvI (by decide)) ?_
      refine ev_iload_n dX6_add_36 rfl ?_
      refine ev_iast dX6_add_37 k5 (fun σ6 h6 => ?_)
      refine ev_aload_n dX6_add_38 rfl ?_
      refine ev_getR fk_X6_18 (by decide) dX6_add_39 kp0 (fun q7 k7 r7 => ?_)
      refine ev_aload_n dX6_add_42 rfl ?_
      refine ev_get fk_X6_30 dX6_add_43 kp0 (am_fvI (by decide)) ?_
      refine ev_iload_n dX6_add_46 rfl ?_
      refine ev_iast dX6_add_47 k7 (fun σ8 h8 => ?_)
      refine ev_aload_n dX6_add_48 rfl ?_
      refine ev_getR fk_X6_21 (by decide) dX6_add_49 kp0 (fun q9 k9 r9 => ?_)
      refine ev_aload_n dX6_add_52 rfl ?_
      refine ev_get fk_X6_30 dX6_add_53 kp0 (am_fvI (by decide)) ?_
      refine ev_iload dX6_add_56 rfl ?_
      refine ev_iast dX6_add_58 k9 (fun σ10 h10 => ?_)
      refine ev_aload_n dX6_add_59 rfl ?_
      refine ev_dup dX6_add_60 rfl ?_
      refine ev_get fk_X6_30 dX6_add_61 kp0 (am_fvI (by decide)) ?_
      refine ev_iconst (v := 1) dX6_add_64 (by decide) ?_
      refine ev_iadd dX6_add_65 ?_
      refine ev_putI fk_X6_30 tyX6 tyX6_ok nmX6 rfl (by decide +kernel) (by decide) dX6_add_66 kp0 ?_
      refine ev_aload_n dX6_add_69 rfl ?_
      refine ev_get fk_X6_30 dX6_add_70 kp0 (am_fvI (by decide)) ?_
      refine ev_iconst (v := 1) dX6_add_73 (by decide) ?_
      refine ev_isub dX6_add_74 ?_
      exact ev_iret dX6_add_75 rfl rfl (by decide) (by decide) rfl
    · refine ev_iconst (v := (-1)) dX6_add_16 (by decide) ?_
      exact ev_iret dX6_add_17 rfl rfl (by decide) (by decide) rfl
def f_X11_ring (S : am_S) (p0 : Nat) (p1 : Int32) (p2 : Int32) (p3 : Int32) : Option (am_R) :=
  (am_thV (f_X11_needHouse S p0 p2) (fun S1 => (am_thV (f_X11_needWant S1 p0 p3) (fun S2 => (am_thV (f_X11_needMinute S2 p0 p1) (fun S3 => ((am_rd S3.2 p0 3 109).bind (fun q4 => ((f_X9_wordFor S3 q4 p2 p3).bind (fun v5 => (if v5 = (-1) then some (.inr 1, S3) else (am_thV (f_X11_needRoomForRinging S3 p0) (fun S7 => ((am_rd S7.2 p0 3 109).bind (fun q8 => ((am_rd S7.2 q8 15 106).bind (fun q9 => ((f_X6_add S7 q9 p1 p2 p3 v5).bind (fun y10 => some (.inl (some (.int y10.1)), (y10.2, S7.2)))))))))))))))))))))
set_option maxRecDepth 20000 in
theorem t_X11_ring {E : am_E} {l : Launch} (hl : l.stackTraces = false) {S : am_S} {p0 : Nat} {p1 : Int32} {p2 : Int32} {p3 : Int32} (kp0 : am_kd p0 = 111) : am_M E l yX11_ring (.code yX11_ring cX11_ring 5 (some .int)) 2 5 30 [.ref p0, .int p1, .int p2, .int p3] S (f_X11_ring S p0 p1 p2 p3) := by
  refine am_M_id (am_M_of (w := fun x => x) hl (by decide) (am_fc rfl (am_fc rfl (am_fc rfl (am_fc rfl am_fn)))) (Nat.le_of_ble_eq_true rfl) ?_)
  show am_Ev E l (RX11, cX11_ring, 5, (some .int), [], am_rm 2 5 30) (am_Z E 5 30) 0 0 0 [some (.ref p0), some (.int p1), some (.int p2), some (.int p3), none] [] S (f_X11_ring S p0 p1 p2 p3)
  unfold f_X11_ring
  refine ev_aload_n dX11_ring_0 rfl ?_
  refine ev_iload_n dX11_ring_1 rfl ?_
  refine ev_callGV (am_callV (as := [.int p2]) (o := p0) (st := []) cv_X11_138 dX11_ring_2 kp0 rfl (am_le rfl) (am_fit (by omega) (by decide) (by decide) (by decide)) (t_X11_needHouse hl kp0)) rfl (by decide) (by decide) (fun S1 h1 => ?_)
  refine ev_aload_n dX11_ring_5 rfl ?_
  refine ev_iload_n dX11_ring_6 rfl ?_
  refine ev_callGV (am_callV (as := [.int p3]) (o := p0) (st := []) cv_X11_165 dX11_ring_7 kp0 rfl (am_le rfl) (am_fit (by omega) (by decide) (by decide) (by decide)) (t_X11_needWant hl kp0)) rfl (by decide) (by decide) (fun S2 h2 => ?_)
  refine ev_aload_n dX11_ring_10 rfl ?_
  refine ev_iload_n dX11_ring_11 rfl ?_
  refine ev_callGV (am_callV (as := [.int p1]) (o := p0) (st := []) cv_X11_193 dX11_ring_12 kp0 rfl (am_le rfl) (am_fit (by omega) (by decide) (by decide) (by decide)) (t_X11_needMinute hl kp0)) rfl (by decide) (by decide) (fun S3 h3 => ?_)
  refine ev_aload_n dX11_ring_15 rfl ?_
  refine ev_getR fk_X11_20 (by decide) dX11_ring_16 kp0 (fun q4 k4 r4 => ?_)
  refine ev_iload_n dX11_ring_19 rfl ?_
  refine ev_iload_n dX11_ring_20 rfl ?_
  refine ev_callP (am_callVN (as := [.int p2, .int p3]) (o := q4) (st := []) cv_X11_171 dX11_ring_21 k4 rfl (am_le rfl) (am_fit (by omega) (by decide) (by decide) (by decide)) (am_no1 (fun _ => ⟨_, rfl⟩)) (t_X9_wordFor hl k4)) (fun v5 h5 => ?_)
  refine ev_istore dX11_ring_24 (am_lt rfl) ?_
  refine ev_iload dX11_ring_26 rfl ?_
  refine ev_iconst (v := (-1)) dX11_ring_28 (by decide) ?_
  refine ev_icmp_ne (tgt := 42) dX11_ring_29 (by decide) (fun c6 => ?_) (fun c6 => ?_)
  · refine ev_aload_n dX11_ring_42 rfl ?_
    refine ev_callGV (am_callV (as := []) (o := p0) (st := []) cv_X11_198 dX11_ring_43 kp0 rfl (am_le rfl) (am_fit (by omega) (by decide) (by decide) (by decide)) (t_X11_needRoomForRinging hl kp0)) rfl (by decide) (by decide) (fun S7 h7 => ?_)
    refine ev_aload_n dX11_ring_46 rfl ?_
    refine ev_getR fk_X11_20 (by decide) dX11_ring_47 kp0 (fun q8 k8 r8 => ?_)
    refine ev_getRN fk_X11_201 (by decide) dX11_ring_50 k8 (fun q9 k9 r9 => ?_)
    refine ev_iload_n dX11_ring_53 rfl ?_
    refine ev_iload_n dX11_ring_54 rfl ?_
    refine ev_iload_n dX11_ring_55 rfl ?_
    refine ev_iload dX11_ring_56 rfl ?_
    refine ev_callWI (am_callVN (as := [.int p1, .int p2, .int p3, .int v5]) (o := q9) (st := []) cv_X11_204 dX11_ring_58 k9 rfl (am_le rfl) (am_fit (by omega) (by decide) (by decide) (by decide)) (am_no1 (fun _ => ⟨_, rfl⟩)) (t_X6_add hl k9)) (fun y10 h10 => ?_)
    exact ev_iret dX11_ring_61 rfl rfl (by decide) (by decide) rfl
  · exact ev_throw (k := 1) tk_105_109 (tx := "the house has no word for it") (t := 30) (by decide +kernel) dX11_ring_32 dX11_ring_35 dX11_ring_36 dX11_ring_38 dX11_ring_41 rfl (by decide) ⟨by decide, by decide, by decide, by decide⟩ (by decide) (by decide)
def f_X11_hush (S : am_S) (p0 : Nat) : Option (Int32 × (Nat → Nat → Int32)) :=
  ((am_rd S.2 p0 3 109).bind (fun q1 => ((am_rd S.2 q1 15 106).bind (fun q2 => ((am_rd S.2 p0 3 109).bind (fun q3 => ((am_rd S.2 q3 15 106).bind (fun q4 => some ((S.1 q2 0), (am_u2 S.1 q4 0 0))))))))))
set_option maxRecDepth 20000 in
theorem t_X11_hush {E : am_E} {l : Launch} (hl : l.stackTraces = false) {S : am_S} {p0 : Nat} (kp0 : am_kd p0 = 111) : am_M E l yX11_hush (.code yX11_hush cX11_hush 2 (some .int)) 0 0 0 [.ref p0] S ((f_X11_hush S p0).map (fun (x : Int32 × (Nat → Nat → Int32)) => ((.inl (some (.int x.1)), (x.2, S.2)) : am_R))) := by
  refine am_M_of (w := fun (x : Int32 × (Nat → Nat → Int32)) => ((.inl (some (.int x.1)), (x.2, S.2)) : am_R)) hl (by decide) (am_fc rfl am_fn) (Nat.le_of_ble_eq_true rfl) ?_
  show am_Ev E l (RX11, cX11_hush, 2, (some .int), [], am_rm 0 0 0) (fun b a s x => am_Z E 0 0 b a s ((fun (x : Int32 × (Nat → Nat → Int32)) => ((.inl (some (.int x.1)), (x.2, S.2)) : am_R)) x)) 0 0 0 [some (.ref p0), none] [] S (f_X11_hush S p0)
  unfold f_X11_hush
  refine ev_aload_n dX11_hush_0 rfl ?_
  refine ev_getR fk_X11_20 (by decide) dX11_hush_1 kp0 (fun q1 k1 r1 => ?_)
  refine ev_getRN fk_X11_201 (by decide) dX11_hush_4 k1 (fun q2 k2 r2 => ?_)
  refine ev_getN fk_X11_208 dX11_hush_7 k2 (am_fvI (by decide)) ?_
  refine ev_istore_n dX11_hush_10 (am_lt rfl) ?_
  refine ev_aload_n dX11_hush_11 rfl ?_
  refine ev_getR fk_X11_20 (by decide) dX11_hush_12 kp0 (fun q3 k3 r3 => ?_)
  refine ev_getRN fk_X11_201 (by decide) dX11_hush_15 k3 (fun q4 k4 r4 => ?_)
  refine ev_iconst (v := 0) dX11_hush_18 (by decide) ?_
  refine ev_putIN fk_X11_208 tyX6 tyX6_ok nmX6 rfl (by decide +kernel) (by decide) dX11_hush_19 k4 ?_
  refine ev_iload_n dX11_hush_22 rfl ?_
  exact ev_iret dX11_hush_23 rfl rfl (by decide) (by decide) rfl
def f_X11_undo (S : am_S) (p0 : Nat) : Option (Int32 × (Nat → Nat → Int32)) :=
  ((am_rd S.2 p0 3 109).bind (fun q1 => ((am_rd S.2 q1 15 106).bind (fun q2 => (if 0 < (S.1 q2 0) then ((am_rd S.2 p0 3 109).bind (fun q4 => ((am_rd S.2 q4 15 106).bind (fun q5 => ((am_rd S.2 p0 3 109).bind (fun q6 => ((am_rd S.2 q6 15 106).bind (fun q7 => some (((am_u2 S.1 q5 0 ((S.1 q5 0) - 1)) q7 0), (am_u2 S.1 q5 0 ((S.1 q5 0) - 1))))))))))) else some ((-1), S.1))))))
set_option maxRecDepth 20000 in
theorem t_X11_undo {E : am_E} {l : Launch} (hl : l.stackTraces = false) {S : am_S} {p0 : Nat} (kp0 : am_kd p0 = 111) : am_M E l yX11_undo (.code yX11_undo cX11_undo 1 (some .int)) 0 0 0 [.ref p0] S ((f_X11_undo S p0).map (fun (x : Int32 × (Nat → Nat → Int32)) => ((.inl (some (.int x.1)), (x.2, S.2)) : am_R))) := by
  refine am_M_of (w := fun (x : Int32 × (Nat → Nat → Int32)) => ((.inl (some (.int x.1)), (x.2, S.2)) : am_R)) hl (by decide) (am_fc rfl am_fn) (Nat.le_of_ble_eq_true rfl) ?_
  show am_Ev E l (RX11, cX11_undo, 1, (some .int), [], am_rm 0 0 0) (fun b a s x => am_Z E 0 0 b a s ((fun (x : Int32 × (Nat → Nat → Int32)) => ((.inl (some (.int x.1)), (x.2, S.2)) : am_R)) x)) 0 0 0 [some (.ref p0)] [] S (f_X11_undo S p0)
  unfold f_X11_undo
  refine ev_aload_n dX11_undo_0 rfl ?_
  refine ev_getR fk_X11_20 (by decide) dX11_undo_1 kp0 (fun q1 k1 r1 => ?_)
  refine ev_getRN fk_X11_201 (by decide) dX11_undo_4 k1 (fun q2 k2 r2 => ?_)
  refine ev_getN fk_X11_208 dX11_undo_7 k2 (am_fvI (by decide)) ?_
  refine ev_if_gt (tgt := 15) dX11_undo_10 (by decide) (fun c3 => ?_) (fun c3 => ?_)
  · refine ev_aload_n dX11_undo_15 rfl ?_
    refine ev_getR fk_X11_20 (by decide) dX11_undo_16 kp0 (fun q4 k4 r4 => ?_)
    refine ev_getRN fk_X11_201 (by decide) dX11_undo_19 k4 (fun q5 k5 r5 => ?_)
    refine ev_dup dX11_undo_22 rfl ?_
    refine ev_getN fk_X11_208 dX11_undo_23 k5 (am_fvI (by decide)) ?_
    refine ev_iconst (v := 1) dX11_undo_26 (by decide) ?_
    refine ev_isub dX11_undo_27 ?_
    refine ev_putIN fk_X11_208 tyX6 tyX6_ok nmX6 rfl (by decide +kernel) (by decide) dX11_undo_28 k5 ?_
    refine ev_aload_n dX11_undo_31 rfl ?_
    refine ev_getR fk_X11_20 (by decide) dX11_undo_32 kp0 (fun q6 k6 r6 => ?_)
    refine ev_getRN fk_X11_201 (by decide) dX11_undo_35 k6 (fun q7 k7 r7 => ?_)
    refine ev_getN fk_X11_208 dX11_undo_38 k7 (am_fvI (by decide)) ?_
    exact ev_iret dX11_undo_41 rfl rfl (by decide) (by decide) rfl
  · refine ev_iconst (v := (-1)) dX11_undo_13 (by decide) ?_
    exact ev_iret dX11_undo_14 rfl rfl (by decide) (by decide) rfl
def f_X11_needRinging (S : am_S) (p0 : Nat) (p1 : Int32) : Option (am_R) :=
  (if p1 < 0 then some (.inr 0, S) else ((am_rd S.2 p0 3 109).bind (fun q2 => ((am_rd S.2 q2 15 106).bind (fun q3 => (if p1 < (S.1 q3 0) then some (.inl none, S) else some (.inr 0, S)))))))
set_option maxRecDepth 20000 in
theorem t_X11_needRinging {E : am_E} {l : Launch} (hl : l.stackTraces = false) {S : am_S} {p0 : Nat} {p1 : Int32} (kp0 : am_kd p0 = 111) : am_M E l yX11_needRinging (.code yX11_needRinging cX11_needRinging 2 none) 0 1 6 [.ref p0, .int p1] S (f_X11_needRinging S p0 p1) := by
  refine am_M_id (am_M_of (w := fun x => x) hl (by decide) (am_fc rfl (am_fc rfl am_fn)) (Nat.le_of_ble_eq_true rfl) ?_)
  show am_Ev E l (RX11, cX11_needRinging, 2, none, [], am_rm 0 1 6) (am_Z E 1 6) 0 0 0 [some (.ref p0), some (.int p1)] [] S (f_X11_needRinging S p0 p1)
  unfold f_X11_needRinging
  refine ev_iload_n dX11_needRinging_0 rfl ?_
  refine ev_if_lt (tgt := 18) dX11_needRinging_1 (by decide) (fun c1 => ?_) (fun c1 => ?_)
  · exact ev_throwW (k := 0) tk_385_389 (tx := "no such ringing") (t := 32) (by decide +kernel) dX11_needRinging_18 dX11_needRinging_21 dX11_needRinging_22 dX11_needRinging_25 dX11_needRinging_28 rfl (by decide) ⟨by decide, by decide, by decide, by decide⟩ (by decide) (by decide)
  · refine ev_iload_n dX11_needRinging_4 rfl ?_
    refine ev_aload_n dX11_needRinging_5 rfl ?_
    refine ev_getR fk_X11_20 (by decide) dX11_needRinging_6 kp0 (fun q2 k2 r2 => ?_)
    refine ev_getRN fk_X11_201 (by decide) dX11_needRinging_9 k2 (fun q3 k3 r3 => ?_)
    refine ev_getN fk_X11_208 dX11_needRinging_12 k3 (am_fvI (by decide)) ?_
    refine ev_icmp_lt (tgt := 29) dX11_needRinging_15 (by decide) (fun c4 => ?_) (fun c4 => ?_)
    · exact ev_vret dX11_needRinging_29 rfl (by decide) (by decide) rfl
    · exact ev_throwW (k := 0) tk_385_389 (tx := "no such ringing") (t := 32) (by decide +kernel) dX11_needRinging_18 dX11_needRinging_21 dX11_needRinging_22 dX11_needRinging_25 dX11_needRinging_28 rfl (by decide) ⟨by decide, by decide, by decide, by decide⟩ (by decide) (by decide)
def f_X11_cutTo (p0 : Int32) (p1 : Int32) : Option (Int32) :=
  ((f_X11_strokesOf p0).bind (fun v1 => (if 0 < (v1 - p1) then some (p0 >>> ((v1 - p1) &&& 31)) else some p0)))
set_option maxRecDepth 20000 in
theorem t_X11_cutTo {E : am_E} {l : Launch} (hl : l.stackTraces = false) {S : am_S} {p0 : Int32} {p1 : Int32}  : am_M E l yX11_cutTo (.code yX11_cutTo cX11_cutTo 3 (some .int)) 1 0 0 [.int p0, .int p1] S ((f_X11_cutTo p0 p1).map (fun (v : Int32) => ((.inl (some (.int v)), S) : am_R))) := by
  refine am_M_of (w := fun (v : Int32) => ((.inl (some (.int v)), S) : am_R)) hl (by decide) (am_fc rfl (am_fc rfl am_fn)) (Nat.le_of_ble_eq_true rfl) ?_
  show am_Ev E l (RX11, cX11_cutTo, 3, (some .int), [], am_rm 1 0 0) (fun b a s x => am_Z E 0 0 b a s ((fun (v : Int32) => ((.inl (some (.int v)), S) : am_R)) x)) 0 0 0 [some (.int p0), some (.int p1), none] [] S (f_X11_cutTo p0 p1)
  unfold f_X11_cutTo
  refine ev_iload_n dX11_cutTo_0 rfl ?_
  refine ev_callP (am_callS (as := [.int p0]) (st := []) ct_X11_440 dX11_cutTo_1 rfl (am_le rfl) (am_fit (by omega) (by decide) (by decide) (by decide)) (t_X11_strokesOf hl )) (fun v1 h1 => ?_)
  refine ev_iload_n dX11_cutTo_4 rfl ?_
  refine ev_isub dX11_cutTo_5 ?_
  refine ev_istore_n dX11_cutTo_6 (am_lt rfl) ?_
  refine ev_iload_n dX11_cutTo_7 rfl ?_
  refine ev_if_le (tgt := 17) dX11_cutTo_8 (by decide) (fun c2 => ?_) (fun c2 => ?_)
  · refine ev_iload_n dX11_cutTo_17 rfl ?_
    exact ev_iret dX11_cutTo_18 rfl rfl (by decide) (by decide) rfl
  · refine ev_iload_n dX11_cutTo_11 rfl ?_
    refine ev_iload_n dX11_cutTo_12 rfl ?_
    refine ev_ishr dX11_cutTo_13 ?_
    refine ev_goto (tgt := 18) dX11_cutTo_14 (by decide) ?_
    exact ev_iret dX11_cutTo_18 rfl rfl (by decide) (by decide) rfl
def f_X6_listenAt_b2 (S : am_S) (a0 : Nat) (a1 : Nat) (a2 : Int32) (x1 : Int32 × (Nat → Nat → Int32)) : Option ((Int32 × (Nat → Nat → Int32)) ⊕ ((Nat → Nat → Int32))) :=
  (if x1.1 < (x1.2 a0 0) then (if x1.1 < 12 then ((am_rd S.2 a0 2 1).bind (fun q4 => ((am_ld x1.2 q4 x1.1).bind (fun v5 => ((f_X9_clearOf (x1.2, S.2) a1 a2 v5).bind (fun v6 => ((am_rd S.2 a0 5 1).bind (fun q7 => ((if 0 < v6 then ((am_rd S.2 a0 4 1).bind (fun q9 => ((am_ld x1.2 q9 x1.1).bind (fun v10 => ((f_X11_cutTo v10 v6).bind (fun v11 => some v11)))))) else some (0 : Int32)).bind (fun t8 => ((am_st x1.2 q7 x1.1 t8).bind (fun σ12 => ((am_rd S.2 a0 6 1).bind (fun q13 => ((if 0 < v6 then ((am_rd S.2 a0 1 1).bind (fun q15 => ((am_ld σ12 q15 x1.1).bind (fun v16 => ((am_rd S.2 a0 5 1).bind (fun q17 => ((am_ld σ12 q17 x1.1).bind (fun v18 => ((f_X11_minutesOf v18).bind (fun v19 => some (v16 + v19))))))))))) else some ((-1) : Int32)).bind (fun t14 => ((am_st σ12 q13 x1.1 t14).bind (fun σ20 => some (.inl ((x1.1 + 1), σ20)))))))))))))))))))) else some (.inr x1.2)) else some (.inr x1.2))
def f_X6_listenAt (S : am_S) (p0 : Nat) (p1 : Nat) (p2 : Int32) : Option ((Nat → Nat → Int32)) :=
  ((am_loop (f_X6_listenAt_b2 S p0 p1 p2) am_fuel (0, S.1)).bind (fun t1 => some t1))
set_option maxRecDepth 20000 in
theorem t_X6_listenAt {E : am_E} {l : Launch} (hl : l.stackTraces = false) {S : am_S} {p0 : Nat} {p1 : Nat} {p2 : Int32} (kp0 : am_kd p0 = 106) (kp1 : am_kd p1 = 109) : am_M E l yX6_listenAt (.code yX6_listenAt cX6_listenAt 5 none) 2 0 0 [.ref p0, .ref p1, .int p2] S ((f_X6_listenAt S p0 p1 p2).map (fun (x : Nat → Nat → Int32) => ((.inl none, (x, S.2)) : am_R))) := by
  refine am_M_of (w := fun (x : Nat → Nat → Int32) => ((.inl none, (x, S.2)) : am_R)) hl (by decide) (am_fc rfl (am_fc rfl (am_fc rfl am_fn))) (Nat.le_of_ble_eq_true rfl) ?_
  show am_Ev E l (RX6, cX6_listenAt, 5, none, [], am_rm 2 0 0) (fun b a s x => am_Z E 0 0 b a s ((fun (x : Nat → Nat → Int32) => ((.inl none, (x, S.2)) : am_R)) x)) 0 0 0 [some (.ref p0), some (.ref p1), some (.int p2), none, none] [] S (f_X6_listenAt S p0 p1 p2)
  unfold f_X6_listenAt
  refine ev_iconst (v := 0) dX6_listenAt_0 (by decide) ?_
  refine ev_istore_n dX6_listenAt_1 (am_lt rfl) ?_
  refine ev_weak (am_wk (am_wk (am_wk (am_wk (am_wf am_wn))))) (ev_loop 2 92 (fun x1 : Int32 × (Nat → Nat → Int32) => [some (.ref p0), some (.ref p1), some (.int p2), some (.int x1.1), none]) (fun t1 : (Nat → Nat → Int32) => [none, none, none, none, none]) (fun x1 => (x1.2, S.2)) (fun t1 => (t1, S.2)) (fun x1 G1 hB1 hE1 => ?_) (fun t1 => ?_) am_fuel (0, S.1))
  · unfold f_X6_listenAt_b2
    refine ev_iload_n dX6_listenAt_2 rfl ?_
    refine ev_aload_n dX6_listenAt_3 rfl ?_
    refine ev_get fk_X6_30 dX6_listenAt_4 kp0 (am_fvI (by decide)) ?_
    refine ev_eq am_ib ?_
    refine ev_icmp_ge (tgt := 92) dX6_listenAt_7 (by decide) (fun c21 => ?_) (fun c21 => ?_)
    · exact ev_leaf (am_wf (am_wf (am_wf (am_wf (am_wf am_wn))))) (hE1 x1.2)
    · refine ev_iload_n dX6_listenAt_10 rfl ?_
      refine ev_bipush (v := 12) dX6_listenAt_11 (by decide) ?_
      refine ev_eq am_ib ?_
      refine ev_icmp_ge (tgt := 92) dX6_listenAt_13 (by decide) (fun c22 => ?_) (fun c22 => ?_)
      · exact ev_leaf (am_wf (am_wf (am_wf (am_wf (am_wf am_wn))))) (hE1 x1.2)
      · refine ev_aload_n dX6_listenAt_16 rfl ?_
        refine ev_iload_n dX6_listenAt_17 rfl ?_
        refine ev_aload_n dX6_listenAt_18 rfl ?_
        refine ev_eq (Option.bind_assoc _ _ _) ?_
        refine ev_getR fk_X6_15 (by decide) dX6_listenAt_19 kp0 (fun q23 k23 r23 => ?_)
        refine ev_iload_n dX6_listenAt_22 rfl ?_
        refine ev_eq (Option.bind_assoc _ _ _) ?_
        refine ev_iald dX6_listenAt_23 k23 (fun v24 h24 => ?_)
        refine ev_eq (Option.bind_assoc _ _ _) ?_
        refine ev_callP (am_callVN (as := [.int p2, .int v24]) (o := p1) (st := []) cv_X6_40 dX6_listenAt_24 kp1 rfl (am_le rfl) (am_fit (by omega) (by decide) (by decide) (by decide)) (am_no1 (fun _ => ⟨_, rfl⟩)) (t_X9_clearOf hl kp1)) (fun v25 h25 => ?_)
        refine ev_istore dX6_listenAt_27 (am_lt rfl) ?_
        refine ev_aload_n dX6_listenAt_29 rfl ?_
        refine ev_eq (Option.bind_assoc _ _ _) ?_
        refine ev_getR fk_X6_24 (by decide) dX6_listenAt_30 kp0 (fun q26 k26 r26 => ?_)
        refine ev_iload_n dX6_listenAt_33 rfl ?_
        refine ev_iload dX6_listenAt_34 rfl ?_
        refine ev_eq (Option.bind_assoc _ _ _) ?_
        refine ev_reg (cs' := 0) (sl' := 0) 54 (fun t27 : Int32 => [some (.ref p0), some (.ref p1), some (.int p2), some (.int x1.1), some (.int v25)]) (fun t27 => [.int t27, .int x1.1, .ref q26]) (fun t27 => (x1.2, S.2)) (fun hJ27 => ?_) (fun t27 => ?_)
        · refine ev_eq am_ib ?_
          refine ev_if_le (tgt := 53) dX6_listenAt_36 (by decide) (fun c27 => ?_) (fun c27 => ?_)
          · refine ev_iconst (v := 0) dX6_listenAt_53 (by decide) ?_
            exact ev_leaf (am_wk (am_wk (am_wk (am_wk (am_wk am_wn))))) (hJ27 (0 : Int32))
          · refine ev_aload_n dX6_listenAt_39 rfl ?_
            refine ev_eq (Option.bind_assoc _ _ _) ?_
            refine ev_getR fk_X6_21 (by decide) dX6_listenAt_40 kp0 (fun q28 k28 r28 => ?_)
            refine ev_iload_n dX6_listenAt_43 rfl ?_
            refine ev_eq (Option.bind_assoc _ _ _) ?_
            refine ev_iald dX6_listenAt_44 k28 (fun v29 h29 => ?_)
            refine ev_iload dX6_listenAt_45 rfl ?_
            refine ev_eq (Option.bind_assoc _ _ _) ?_
            refine ev_callP (am_callSN (as := [.int v29, .int v25]) (st := [.int x1.1, .ref q26]) ct_X6_46 dX6_listenAt_47 rfl (am_le rfl) (am_fit (by omega) (by decide) (by decide) (by decide)) (am_no1 (fun _ => ⟨_, rfl⟩)) (t_X11_cutTo hl )) (fun v30 h30 => ?_)
            refine ev_goto (tgt := 54) dX6_listenAt_50 (by decide) ?_
            exact ev_leaf (am_wk (am_wk (am_wk (am_wk (am_wk am_wn))))) (hJ27 v30)
        · refine ev_eq (Option.bind_assoc _ _ _) ?_
          refine ev_iast dX6_listenAt_54 k26 (fun σ31 h31 => ?_)
          refine ev_aload_n dX6_listenAt_55 rfl ?_
          refine ev_eq (Option.bind_assoc _ _ _) ?_
          refine ev_getR fk_X6_27 (by decide) dX6_listenAt_56 kp0 (fun q32 k32 r32 => ?_)
          refine ev_iload_n dX6_listenAt_59 rfl ?_
          refine ev_iload dX6_listenAt_60 rfl ?_
          refine ev_eq (Option.bind_assoc _ _ _) ?_
          refine ev_reg (cs' := 0) (sl' := 0) 85 (fun t33 : Int32 => [some (.ref p0), some (.ref p1), some (.int p2), some (.int x1.1), none]) (fun t33 => [.int t33, .int x1.1, .ref q32]) (fun t33 => (σ31, S.2)) (fun hJ33 => ?_) (fun t33 => ?_)
          · refine ev_eq am_ib ?_
            refine ev_if_le (tgt := 84) dX6_listenAt_62 (by decide) (fun c33 => ?_) (fun c33 => ?_)
            · refine ev_iconst (v := (-1)) dX6_listenAt_84 (by decide) ?_
              exact ev_leaf (am_wk (am_wk (am_wk (am_wk (am_wf am_wn))))) (hJ33 ((-1) : Int32))
            · refine ev_aload_n dX6_listenAt_65 rfl ?_
              refine ev_eq (Option.bind_assoc _ _ _) ?_
              refine ev_getR fk_X6_9 (by decide) dX6_listenAt_66 kp0 (fun q34 k34 r34 => ?_)
              refine ev_iload_n dX6_listenAt_69 rfl ?_
              refine ev_eq (Option.bind_assoc _ _ _) ?_
              refine ev_iald dX6_listenAt_70 k34 (fun v35 h35 => ?_)
              refine ev_aload_n dX6_listenAt_71 rfl ?_
              refine ev_eq (Option.bind_assoc _ _ _) ?_
              refine ev_getR fk_X6_24 (by decide) dX6_listenAt_72 kp0 (fun q36 k36 r36 => ?_)
              refine ev_iload_n dX6_listenAt_75 rfl ?_
              refine ev_eq (Option.bind_assoc _ _ _) ?_
              refine ev_iald dX6_listenAt_76 k36 (fun v37 h37 => ?_)
              refine ev_eq (Option.bind_assoc _ _ _) ?_
              refine ev_callP (am_callSN (as := [.int v37]) (st := [.int v35, .int x1.1, .ref q32]) ct_X6_49 dX6_listenAt_77 rfl (am_le rfl) (am_fit (by omega) (by decide) (by decide) (by decide)) (am_no1 (fun _ => ⟨_, rfl⟩)) (t_X11_minutesOf hl )) (fun v38 h38 => ?_)
              refine ev_iadd dX6_listenAt_80 ?_
              refine ev_goto (tgt := 85) dX6_listenAt_81 (by decide) ?_
              exact ev_leaf (am_wk (am_wk (am_wk (am_wk (am_wf am_wn))))) (hJ33 (v35 + v38))
          · refine ev_eq (Option.bind_assoc _ _ _) ?_
            refine ev_iast dX6_listenAt_85 k32 (fun σ39 h39 => ?_)
            refine ev_iinc (v := (x1.1 + 1)) dX6_listenAt_86 (am_lt rfl) rfl rfl ?_
            refine ev_goto (tgt := 2) dX6_listenAt_89 (by decide) ?_
            exact ev_leaf (am_wk (am_wk (am_wk (am_wk (am_wf am_wn))))) (hB1 ((x1.1 + 1), σ39))
  · exact ev_vret dX6_listenAt_92 rfl (by decide) (by decide) rfl
def f_X6_hasRinging (S : am_S) (p0 : Nat) (p1 : Int32) : Option (Int32) :=
  (if p1 < 0 then some 0 else (if p1 < (S.1 p0 0) then (if p1 < 12 then some 1 else some 0) else some 0))
set_option maxRecDepth 20000 in
theorem t_X6_hasRinging {E : am_E} {l : Launch} (hl : l.stackTraces = false) {S : am_S} {p0 : Nat} {p1 : Int32} (kp0 : am_kd p0 = 106) : am_M E l yX6_hasRinging (.code yX6_hasRinging cX6_hasRinging 2 (some .boolean)) 0 0 0 [.ref p0, .int p1] S ((f_X6_hasRinging S p0 p1).map (fun (v : Int32) => ((.inl (some (.int v)), S) : am_R))) := by
  refine am_M_of (w := fun (v : Int32) => ((.inl (some (.int v)), S) : am_R)) hl (by decide) (am_fc rfl (am_fc rfl am_fn)) (Nat.le_of_ble_eq_true rfl) ?_
  show am_Ev E l (RX6, cX6_hasRinging, 2, (some .boolean), [], am_rm 0 0 0) (fun b a s x => am_Z E 0 0 b a s ((fun (v : Int32) => ((.inl (some (.int v)), S) : am_R)) x)) 0 0 0 [some (.ref p0), some (.int p1)] [] S (f_X6_hasRinging S p0 p1)
  unfold f_X6_hasRinging
  refine ev_iload_n dX6_hasRinging_0 rfl ?_
  refine ev_if_lt (tgt := 22) dX6_hasRinging_1 (by decide) (fun c1 => ?_) (fun c1 => ?_)
  · refine ev_iconst (v := 0) dX6_hasRinging_22 (by decide) ?_
    exact ev_iret dX6_hasRinging_23 rfl (by decide) (by decide) (by decide) rfl
  · refine ev_iload_n dX6_hasRinging_4 rfl ?_
    refine ev_aload_n dX6_hasRinging_5 rfl ?_
    refine ev_get fk_X6_30 dX6_hasRinging_6 kp0 (am_fvI (by decide)) ?_
    refine ev_icmp_ge (tgt := 22) dX6_hasRinging_9 (by decide) (fun c2 => ?_) (fun c2 => ?_)
    · refine ev_iconst (v := 0) dX6_hasRinging_22 (by decide) ?_
      exact ev_iret dX6_hasRinging_23 rfl (by decide) (by decide) (by decide) rfl
    · refine ev_iload_n dX6_hasRinging_12 rfl ?_
      refine ev_bipush (v := 12) dX6_hasRinging_13 (by decide) ?_
      refine ev_icmp_ge (tgt := 22) dX6_hasRinging_15 (by decide) (fun c3 => ?_) (fun c3 => ?_)
      · refine ev_iconst (v := 0) dX6_hasRinging_22 (by decide) ?_
        exact ev_iret dX6_hasRinging_23 rfl (by decide) (by decide) (by decide) rfl
      · refine ev_iconst (v := 1) dX6_hasRinging_18 (by decide) ?_
        refine ev_goto (tgt := 23) dX6_hasRinging_19 (by decide) ?_
        exact ev_iret dX6_hasRinging_23 rfl (by decide) (by decide) (by decide) rfl
def f_X6_isMixed_b3 (S : am_S) (a0 : Nat) (a1 : Int32) (a2 : Int32) (a3 : Int32) (x1 : Int32) : Option ((Int32) ⊕ ((Unit) ⊕ (Int32))) :=
  (if x1 < (S.1 a0 0) then (if x1 < 12 then (if x1 = a1 then some (.inl (x1 + 1)) else ((am_rd S.2 a0 1 1).bind (fun q5 => ((am_ld S.1 q5 x1).bind (fun v6 => (if v6 < a3 then ((am_rd S.2 a0 6 1).bind (fun q8 => ((am_ld S.1 q8 x1).bind (fun v9 => (if a2 < v9 then some (.inr (.inr 1)) else some (.inl (x1 + 1))))))) else some (.inl (x1 + 1)))))))) else some (.inr (.inr 0))) else some (.inr (.inr 0)))
def f_X6_isMixed (S : am_S) (p0 : Nat) (p1 : Int32) (p2 : Int32) (p3 : Int32) : Option (Int32) :=
  ((am_loop (f_X6_isMixed_b3 S p0 p1 p2 p3) am_fuel 0).bind (fun r1 => match r1 with | .inl t1 => none | .inr b1 => some b1))
set_option maxRecDepth 20000 in
theorem t_X6_isMixed {E : am_E} {l : Launch} (hl : l.stackTraces = false) {S : am_S} {p0 : Nat} {p1 : Int32} {p2 : Int32} {p3 : Int32} (kp0 : am_kd p0 = 106) : am_M E l yX6_isMixed (.code yX6_isMixed cX6_isMixed 5 (some .boolean)) 0 0 0 [.ref p0, .int p1, .int p2, .int p3] S ((f_X6_isMixed S p0 p1 p2 p3).map (fun (v : Int32) => ((.inl (some (.int v)), S) : am_R))) := by
  refine am_M_of (w := fun (v : Int32) => ((.inl (some (.int v)), S) : am_R)) hl (by decide) (am_fc rfl (am_fc rfl (am_fc rfl (am_fc rfl am_fn)))) (Nat.le_of_ble_eq_true rfl) ?_
  show am_Ev E l (RX6, cX6_isMixed, 5, (some .boolean), [], am_rm 0 0 0) (fun b a s x => am_Z E 0 0 b a s ((fun (v : Int32) => ((.inl (some (.int v)), S) : am_R)) x)) 0 0 0 [some (.ref p0), some (.int p1), some (.int p2), some (.int p3), none] [] S (f_X6_isMixed S p0 p1 p2 p3)
  unfold f_X6_isMixed
  refine ev_iconst (v := 0) dX6_isMixed_0 (by decide) ?_
  refine ev_istore dX6_isMixed_1 (am_lt rfl) ?_
  refine ev_weak (am_wk (am_wk (am_wk (am_wk (am_wk am_wn))))) (ev_loopR 3 0 (fun x1 : Int32 => [some (.ref p0), some (.int p1), some (.int p2), some (.int p3), some (.int x1)]) (fun t1 : Unit => [none, none, none, none, none]) (fun x1 => S) (fun t1 => S) (fun x1 G1 hB1 hE1 hG1 => ?_) (fun t1 => ?_) am_fuel 0)
  · unfold f_X6_isMixed_b3
    refine ev_iload dX6_isMixed_3 rfl ?_
    refine ev_aload_n dX6_isMixed_5 rfl ?_
    refine ev_get fk_X6_30 dX6_isMixed_6 kp0 (am_fvI (by decide)) ?_
    refine ev_eq am_ib ?_
    refine ev_icmp_ge (tgt := 55) dX6_isMixed_9 (by decide) (fun c11 => ?_) (fun c11 => ?_)
    · refine ev_iconst (v := 0) dX6_isMixed_55 (by decide) ?_
      exact ev_eq (hG1 _) (ev_iret dX6_isMixed_56 rfl (by decide) (by decide) (by decide) rfl)
    · refine ev_iload dX6_isMixed_12 rfl ?_
      refine ev_bipush (v := 12) dX6_isMixed_14 (by decide) ?_
      refine ev_eq am_ib ?_
      refine ev_icmp_ge (tgt := 55) dX6_isMixed_16 (by decide) (fun c12 => ?_) (fun c12 => ?_)
      · refine ev_iconst (v := 0) dX6_isMixed_55 (by decide) ?_
        exact ev_eq (hG1 _) (ev_iret dX6_isMixed_56 rfl (by decide) (by decide) (by decide) rfl)
      · refine ev_iload dX6_isMixed_19 rfl ?_
        refine ev_iload_n dX6_isMixed_21 rfl ?_
        refine ev_eq am_ib ?_
        refine ev_icmp_eq (tgt := 49) dX6_isMixed_22 (by decide) (fun c13 => ?_) (fun c13 => ?_)
        · refine ev_iinc (v := (x1 + 1)) dX6_isMixed_49 (am_lt rfl) rfl rfl ?_
          refine ev_goto (tgt := 3) dX6_isMixed_52 (by decide) ?_
          exact ev_leaf (am_wk (am_wk (am_wk (am_wk (am_wk am_wn))))) (hB1 (x1 + 1))
        · refine ev_aload_n dX6_isMixed_25 rfl ?_
          refine ev_eq (Option.bind_assoc _ _ _) ?_
          refine ev_getR fk_X6_9 (by decide) dX6_isMixed_26 kp0 (fun q14 k14 r14 => ?_)
          refine ev_iload dX6_isMixed_29 rfl ?_
          refine ev_eq (Option.bind_assoc _ _ _) ?_
          refine ev_iald dX6_isMixed_31 k14 (fun v15 h15 => ?_)
          refine ev_iload_n dX6_isMixed_32 rfl ?_
          refine ev_eq am_ib ?_
          refine ev_icmp_ge (tgt := 49) dX6_isMixed_33 (by decide) (fun c16 => ?_) (fun c16 => ?_)
          · refine ev_iinc (v := (x1 + 1)) dX6_isMixed_49 (am_lt rfl) rfl rfl ?_
            refine ev_goto (tgt := 3) dX6_isMixed_52 (by decide) ?_
            exact ev_leaf (am_wk (am_wk (am_wk (am_wk (am_wk am_wn))))) (hB1 (x1 + 1))
          · refine ev_iload_n dX6_isMixed_36 rfl ?_
            refine ev_aload_n dX6_isMixed_37 rfl ?_
            refine ev_eq (Option.bind_assoc _ _ _) ?_
            refine ev_getR fk_X6_27 (by decide) dX6_isMixed_38 kp0 (fun q17 k17 r17 => ?_)
            refine ev_iload dX6_isMixed_41 rfl ?_
            refine ev_eq (Option.bind_assoc _ _ _) ?_
            refine ev_iald dX6_isMixed_43 k17 (fun v18 h18 => ?_)
            refine ev_eq am_ib ?_
            refine ev_icmp_ge (tgt := 49) dX6_isMixed_44 (by decide) (fun c19 => ?_) (fun c19 => ?_)
            · refine ev_iinc (v := (x1 + 1)) dX6_isMixed_49 (am_lt rfl) rfl rfl ?_
              refine ev_goto (tgt := 3) dX6_isMixed_52 (by decide) ?_
              exact ev_leaf (am_wk (am_wk (am_wk (am_wk (am_wk am_wn))))) (hB1 (x1 + 1))
            · refine ev_iconst (v := 1) dX6_isMixed_47 (by decide) ?_
              exact ev_eq (hG1 _) (ev_iret dX6_isMixed_48 rfl (by decide) (by decide) (by decide) rfl)
  · exact ev_none
def f_X6_unmixed_b39 (S : am_S) (a0 : Nat) (a1 : Int32) (a3 : Int32) (x7 : Int32 × Int32 × Int32) : Option ((Int32 × Int32 × Int32) ⊕ (Int32)) :=
  (if x7.2.2 < 0 then some (.inr x7.1) else ((f_X6_isMixed S a0 a1 x7.2.1 ((x7.2.1 + 1) + ((a3 >>> (x7.2.2 &&& 31)) &&& 1))).bind (fun v9 => (if v9 = 0 then some (.inl (((x7.1 * 2) + ((a3 >>> (x7.2.2 &&& 31)) &&& 1)), ((x7.2.1 + 1) + ((a3 >>> (x7.2.2 &&& 31)) &&& 1)), (x7.2.2 + (-1)))) else some (.inr x7.1)))))
def f_X6_unmixed (S : am_S) (p0 : Nat) (p1 : Int32) (p2 : Int32) : Option (Int32) :=
  ((f_X6_hasRinging S p0 p1).bind (fun v1 => ((if v1 = 0 then some (0 : Int32) else ((am_rd S.2 p0 5 1).bind (fun q3 => ((am_ld S.1 q3 p1).bind (fun v4 => some v4))))).bind (fun t2 => (if t2 = 0 then some 0 else ((f_X11_strokesOf t2).bind (fun v6 => ((am_loop (f_X6_unmixed_b39 S p0 p1 t2) am_fuel (1, p2, (v6 - 1))).bind (fun t7 => some t7)))))))))
set_option maxRecDepth 20000 in
theorem t_X6_unmixed {E : am_E} {l : Launch} (hl : l.stackTraces = false) {S : am_S} {p0 : Nat} {p1 : Int32} {p2 : Int32} (kp0 : am_kd p0 = 106) : am_M E l yX6_unmixed (.code yX6_unmixed cX6_unmixed 9 (some .int)) 1 0 0 [.ref p0, .int p1, .int p2] S ((f_X6_unmixed S p0 p1 p2).map (fun (v : Int32) => ((.inl (some (.int v)), S) : am_R))) := by
  refine am_M_of (w := fun (v : Int32) => ((.inl (some (.int v)), S) : am_R)) hl (by decide) (am_fc rfl (am_fc rfl (am_fc rfl am_fn))) (Nat.le_of_ble_eq_true rfl) ?_
  show am_Ev E l (RX6, cX6_unmixed, 9, (some .int), [], am_rm 1 0 0) (fun b a s x => am_Z E 0 0 b a s ((fun (v : Int32) => ((.inl (some (.int v)), S) : am_R)) x)) 0 0 0 [some (.ref p0), some (.int p1), some (.int p2), none, none, none, none, none, none] [] S (f_X6_unmixed S p0 p1 p2)
  unfold f_X6_unmixed
  refine ev_aload_n dX6_unmixed_0 rfl ?_
  refine ev_iload_n dX6_unmixed_1 rfl ?_
  refine ev_callP (am_callV (as := [.int p1]) (o := p0) (st := []) cv_X6_57 dX6_unmixed_2 kp0 rfl (am_le rfl) (am_fit (by omega) (by decide) (by decide) (by decide)) (t_X6_hasRinging hl kp0)) (fun v1 h1 => ?_)
  refine ev_reg (cs' := 0) (sl' := 0) 18 (fun t2 : Int32 => [some (.ref p0), some (.int p1), some (.int p2), none, none, none, none, none, none]) (fun t2 => [.int t2]) (fun t2 => S) (fun hJ2 => ?_) (fun t2 => ?_)
  · refine ev_eq am_ib ?_
    refine ev_if_eq (tgt := 17) dX6_unmixed_5 (by decide) (fun c2 => ?_) (fun c2 => ?_)
    · refine ev_iconst (v := 0) dX6_unmixed_17 (by decide) ?_
      exact ev_leaf (am_wk (am_wk (am_wk (am_wf (am_wf (am_wf (am_wf (am_wf (am_wf am_wn))))))))) (hJ2 (0 : Int32))
    · refine ev_aload_n dX6_unmixed_8 rfl ?_
      refine ev_eq (Option.bind_assoc _ _ _) ?_
      refine ev_getR fk_X6_24 (by decide) dX6_unmixed_9 kp0 (fun q3 k3 r3 => ?_)
      refine ev_iload_n dX6_unmixed_12 rfl ?_
      refine ev_eq (Option.bind_assoc _ _ _) ?_
      refine ev_iald dX6_unmixed_13 k3 (fun v4 h4 => ?_)
      refine ev_goto (tgt := 18) dX6_unmixed_14 (by decide) ?_
      exact ev_leaf (am_wk (am_wk (am_wk (am_wf (am_wf (am_wf (am_wf (am_wf (am_wf am_wn))))))))) (hJ2 v4)
  · refine ev_istore_n dX6_unmixed_18 (am_lt rfl) ?_
    refine ev_iload_n dX6_unmixed_19 rfl ?_
    refine ev_if_ne (tgt := 25) dX6_unmixed_20 (by decide) (fun c5 => ?_) (fun c5 => ?_)
    · refine ev_iconst (v := 1) dX6_unmixed_25 (by decide) ?_
      refine ev_istore dX6_unmixed_26 (am_lt rfl) ?_
      refine ev_iload_n dX6_unmixed_28 rfl ?_
      refine ev_istore dX6_unmixed_29 (am_lt rfl) ?_
      refine ev_iload_n dX6_unmixed_31 rfl ?_
      refine ev_callP (am_callSN (as := [.int t2]) (st := []) ct_X6_64 dX6_unmixed_32 rfl (am_le rfl) (am_fit (by omega) (by decide) (by decide) (by decide)) (am_no1 (fun _ => ⟨_, rfl⟩)) (t_X11_strokesOf hl )) (fun v6 h6 => ?_)
      refine ev_iconst (v := 1) dX6_unmixed_35 (by decide) ?_
      refine ev_isub dX6_unmixed_36 ?_
      refine ev_istore dX6_unmixed_37 (am_lt rfl) ?_
      refine ev_weak (am_wk (am_wk (am_wf (am_wk (am_wk (am_wk (am_wk (am_wf (am_wf am_wn))))))))) (ev_loop 39 95 (fun x7 : Int32 × Int32 × Int32 => [some (.ref p0), some (.int p1), none, some (.int t2), some (.int x7.1), some (.int x7.2.1), some (.int x7.2.2), none, none]) (fun t7 : Int32 => [none, none, none, none, some (.int t7), none, none, none, none]) (fun x7 => S) (fun t7 => S) (fun x7 G7 hB7 hE7 => ?_) (fun t7 => ?_) am_fuel (1, p2, (v6 - 1)))
      · unfold f_X6_unmixed_b39
        refine ev_iload dX6_unmixed_39 rfl ?_
        refine ev_eq am_ib ?_
        refine ev_if_lt (tgt := 95) dX6_unmixed_41 (by decide) (fun c11 => ?_) (fun c11 => ?_)
        · exact ev_leaf (am_wf (am_wf (am_wf (am_wf (am_wk (am_wf (am_wf (am_wf (am_wf am_wn))))))))) (hE7 x7.1)
        · refine ev_iload_n dX6_unmixed_44 rfl ?_
          refine ev_iload dX6_unmixed_45 rfl ?_
          refine ev_ishr dX6_unmixed_47 ?_
          refine ev_iconst (v := 1) dX6_unmixed_48 (by decide) ?_
          refine ev_iand dX6_unmixed_49 ?_
          refine ev_istore dX6_unmixed_50 (am_lt rfl) ?_
          refine ev_iload dX6_unmixed_52 rfl ?_
          refine ev_iconst (v := 1) dX6_unmixed_54 (by decide) ?_
          refine ev_iadd dX6_unmixed_55 ?_
          refine ev_iload dX6_unmixed_56 rfl ?_
          refine ev_iadd dX6_unmixed_58 ?_
          refine ev_istore dX6_unmixed_59 (am_lt rfl) ?_
          refine ev_aload_n dX6_unmixed_61 rfl ?_
          refine ev_iload_n dX6_unmixed_62 rfl ?_
          refine ev_iload dX6_unmixed_63 rfl ?_
          refine ev_iload dX6_unmixed_65 rfl ?_
          refine ev_eq (Option.bind_assoc _ _ _) ?_
          refine ev_callP (am_callV (as := [.int p1, .int x7.2.1, .int ((x7.2.1 + 1) + ((t2 >>> (x7.2.2 &&& 31)) &&& 1))]) (o := p0) (st := []) cv_X6_67 dX6_unmixed_67 kp0 rfl (am_le rfl) (am_fit (by omega) (by decide) (by decide) (by decide)) (t_X6_isMixed hl kp0)) (fun v12 h12 => ?_)
          refine ev_eq am_ib ?_
          refine ev_if_eq (tgt := 76) dX6_unmixed_70 (by decide) (fun c13 => ?_) (fun c13 => ?_)
          · refine ev_iload dX6_unmixed_76 rfl ?_
            refine ev_iconst (v := 2) dX6_unmixed_78 (by decide) ?_
            refine ev_imul dX6_unmixed_79 ?_
            refine ev_iload dX6_unmixed_80 rfl ?_
            refine ev_iadd dX6_unmixed_82 ?_
            refine ev_istore dX6_unmixed_83 (am_lt rfl) ?_
            refine ev_iload dX6_unmixed_85 rfl ?_
            refine ev_istore dX6_unmixed_87 (am_lt rfl) ?_
            refine ev_iinc (v := (x7.2.2 + (-1))) dX6_unmixed_89 (am_lt rfl) rfl rfl ?_
            refine ev_goto (tgt := 39) dX6_unmixed_92 (by decide) ?_
            exact ev_leaf (am_wk (am_wk (am_wf (am_wk (am_wk (am_wk (am_wk (am_wf (am_wf am_wn))))))))) (hB7 (((x7.1 * 2) + ((t2 >>> (x7.2.2 &&& 31)) &&& 1)), ((x7.2.1 + 1) + ((t2 >>> (x7.2.2 &&& 31)) &&& 1)), (x7.2.2 + (-1))))
          · refine ev_goto (tgt := 95) dX6_unmixed_73 (by decide) ?_
            exact ev_leaf (am_wf (am_wf (am_wf (am_wf (am_wk (am_wf (am_wf (am_wf (am_wf am_wn))))))))) (hE7 x7.1)
      · refine ev_iload dX6_unmixed_95 rfl ?_
        exact ev_iret dX6_unmixed_97 rfl rfl (by decide) (by decide) rfl
    · refine ev_iconst (v := 0) dX6_unmixed_23 (by decide) ?_
      exact ev_iret dX6_unmixed_24 rfl rfl (by decide) (by decide) rfl
def f_X6_cameTo (S : am_S) (p0 : Nat) (p1 : Nat) (p2 : Int32) (p3 : Int32) : Option (Int32 × (Nat → Nat → Int32)) :=
  ((f_X6_listenAt S p0 p1 p3).bind (fun σ1 => ((f_X6_hasRinging (σ1, S.2) p0 p2).bind (fun v2 => (if v2 = 0 then some (0, σ1) else ((am_rd S.2 p0 1 1).bind (fun q4 => ((am_ld σ1 q4 p2).bind (fun v5 => ((f_X6_unmixed (σ1, S.2) p0 p2 v5).bind (fun v6 => some (v6, σ1))))))))))))
set_option maxRecDepth 20000 in
theorem t_X6_cameTo {E : am_E} {l : Launch} (hl : l.stackTraces = false) {S : am_S} {p0 : Nat} {p1 : Nat} {p2 : Int32} {p3 : Int32} (kp0 : am_kd p0 = 106) (kp1 : am_kd p1 = 109) : am_M E l yX6_cameTo (.code yX6_cameTo cX6_cameTo 4 (some .int)) 3 0 0 [.ref p0, .ref p1, .int p2, .int p3] S ((f_X6_cameTo S p0 p1 p2 p3).map (fun (x : Int32 × (Nat → Nat → Int32)) => ((.inl (some (.int x.1)), (x.2, S.2)) : am_R))) := by
  refine am_M_of (w := fun (x : Int32 × (Nat → Nat → Int32)) => ((.inl (some (.int x.1)), (x.2, S.2)) : am_R)) hl (by decide) (am_fc rfl (am_fc rfl (am_fc rfl (am_fc rfl am_fn)))) (Nat.le_of_ble_eq_true rfl) ?_
  show am_Ev E l (RX6, cX6_cameTo, 4, (some .int), [], am_rm 3 0 0) (fun b a s x => am_Z E 0 0 b a s ((fun (x : Int32 × (Nat → Nat → Int32)) => ((.inl (some (.int x.1)), (x.2, S.2)) : am_R)) x)) 0 0 0 [some (.ref p0), some (.ref p1), some (.int p2), some (.int p3)] [] S (f_X6_cameTo S p0 p1 p2 p3)
  unfold f_X6_cameTo
  refine ev_aload_n dX6_cameTo_0 rfl ?_
  refine ev_aload_n dX6_cameTo_1 rfl ?_
  refine ev_iload_n dX6_cameTo_2 rfl ?_
  refine ev_callWV (am_callV (as := [.ref p1, .int p3]) (o := p0) (st := []) cv_X6_53 dX6_cameTo_3 kp0 rfl (am_le rfl) (am_fit (by omega) (by decide) (by decide) (by decide)) (t_X6_listenAt hl kp0 kp1)) (fun σ1 h1 => ?_)
  refine ev_aload_n dX6_cameTo_6 rfl ?_
  refine ev_iload_n dX6_cameTo_7 rfl ?_
  refine ev_callP (am_callV (as := [.int p2]) (o := p0) (st := []) cv_X6_57 dX6_cameTo_8 kp0 rfl (am_le rfl) (am_fit (by omega) (by decide) (by decide) (by decide)) (t_X6_hasRinging hl kp0)) (fun v2 h2 => ?_)
  refine ev_if_eq (tgt := 28) dX6_cameTo_11 (by decide) (fun c3 => ?_) (fun c3 => ?_)
  · refine ev_iconst (v := 0) dX6_cameTo_28 (by decide) ?_
    exact ev_iret dX6_cameTo_29 rfl rfl (by decide) (by decide) rfl
  · refine ev_aload_n dX6_cameTo_14 rfl ?_
    refine ev_iload_n dX6_cameTo_15 rfl ?_
    refine ev_aload_n dX6_cameTo_16 rfl ?_
    refine ev_getR fk_X6_9 (by decide) dX6_cameTo_17 kp0 (fun q4 k4 r4 => ?_)
    refine ev_iload_n dX6_cameTo_20 rfl ?_
    refine ev_iald dX6_cameTo_21 k4 (fun v5 h5 => ?_)
    refine ev_callP (am_callV (as := [.int p2, .int v5]) (o := p0) (st := []) cv_X6_61 dX6_cameTo_22 kp0 rfl (am_le rfl) (am_fit (by omega) (by decide) (by decide) (by decide)) (t_X6_unmixed hl kp0)) (fun v6 h6 => ?_)
    refine ev_goto (tgt := 29) dX6_cameTo_25 (by decide) ?_
    exact ev_iret dX6_cameTo_29 rfl rfl (by decide) (by decide) rfl
def f_X11_heard (S : am_S) (p0 : Nat) (p1 : Int32) (p2 : Int32) : Option (am_R) :=
  (am_thV (f_X11_needRinging S p0 p1) (fun S1 => (am_thV (f_X11_needHouse S1 p0 p2) (fun S2 => ((am_rd S2.2 p0 3 109).bind (fun q3 => ((am_rd S2.2 q3 15 106).bind (fun q4 => ((am_rd S2.2 p0 3 109).bind (fun q5 => ((f_X6_cameTo S2 q4 q5 p1 p2).bind (fun y6 => some (.inl (some (.int y6.1)), (y6.2, S2.2))))))))))))))
set_option maxRecDepth 20000 in
theorem t_X11_heard {E : am_E} {l : Launch} (hl : l.stackTraces = false) {S : am_S} {p0 : Nat} {p1 : Int32} {p2 : Int32} (kp0 : am_kd p0 = 111) : am_M E l yX11_heard (.code yX11_heard cX11_heard 3 (some .int)) 4 2 12 [.ref p0, .int p1, .int p2] S (f_X11_heard S p0 p1 p2) := by
  refine am_M_id (am_M_of (w := fun x => x) hl (by decide) (am_fc rfl (am_fc rfl (am_fc rfl am_fn))) (Nat.le_of_ble_eq_true rfl) ?_)
  show am_Ev E l (RX11, cX11_heard, 3, (some .int), [], am_rm 4 2 12) (am_Z E 2 12) 0 0 0 [some (.ref p0), some (.int p1), some (.int p2)] [] S (f_X11_heard S p0 p1 p2)
  unfold f_X11_heard
  refine ev_aload_n dX11_heard_0 rfl ?_
  refine ev_iload_n dX11_heard_1 rfl ?_
  refine ev_callGV (am_callV (as := [.int p1]) (o := p0) (st := []) cv_X11_211 dX11_heard_2 kp0 rfl (am_le rfl) (am_fit (by omega) (by decide) (by decide) (by decide)) (t_X11_needRinging hl kp0)) rfl (by decide) (by decide) (fun S1 h1 => ?_)
  refine ev_aload_n dX11_heard_5 rfl ?_
  refine ev_iload_n dX11_heard_6 rfl ?_
  refine ev_callGV (am_callV (as := [.int p2]) (o := p0) (st := []) cv_X11_138 dX11_heard_7 kp0 rfl (am_le rfl) (am_fit (by omega) (by decide) (by decide) (by decide)) (t_X11_needHouse hl kp0)) rfl (by decide) (by decide) (fun S2 h2 => ?_)
  refine ev_aload_n dX11_heard_10 rfl ?_
  refine ev_getR fk_X11_20 (by decide) dX11_heard_11 kp0 (fun q3 k3 r3 => ?_)
  refine ev_getRN fk_X11_201 (by decide) dX11_heard_14 k3 (fun q4 k4 r4 => ?_)
  refine ev_aload_n dX11_heard_17 rfl ?_
  refine ev_getR fk_X11_20 (by decide) dX11_heard_18 kp0 (fun q5 k5 r5 => ?_)
  refine ev_iload_n dX11_heard_21 rfl ?_
  refine ev_iload_n dX11_heard_22 rfl ?_
  refine ev_callWI (am_callVN (as := [.ref q5, .int p1, .int p2]) (o := q4) (st := []) cv_X11_214 dX11_heard_23 k4 rfl (am_le rfl) (am_fit (by omega) (by decide) (by decide) (by decide)) (am_no1 (fun _ => ⟨_, rfl⟩)) (t_X6_cameTo hl k4 k5)) (fun y6 h6 => ?_)
  exact ev_iret dX11_heard_26 rfl rfl (by decide) (by decide) rfl
def f_X9_takenFor_b2 (S : am_S) (a0 : Nat) (a1 : Int32) (a2 : Int32) (x1 : Int32) : Option ((Int32) ⊕ ((Unit) ⊕ (Int32))) :=
  (if x1 < (S.1 a0 1) then (if a2 < 2 then some (.inr (.inr (-1))) else ((f_X9_wordFor S a0 a1 x1).bind (fun v4 => (if v4 = a2 then some (.inr (.inr x1)) else some (.inl (x1 + 1)))))) else some (.inr (.inr (-1))))
def f_X9_takenFor (S : am_S) (p0 : Nat) (p1 : Int32) (p2 : Int32) : Option (Int32) :=
  ((am_loop (f_X9_takenFor_b2 S p0 p1 p2) am_fuel 0).bind (fun r1 => match r1 with | .inl t1 => none | .inr b1 => some b1))
set_option maxRecDepth 20000 in
theorem t_X9_takenFor {E : am_E} {l : Launch} (hl : l.stackTraces = false) {S : am_S} {p0 : Nat} {p1 : Int32} {p2 : Int32} (kp0 : am_kd p0 = 109) : am_M E l yX9_takenFor (.code yX9_takenFor cX9_takenFor 4 (some .int)) 2 0 0 [.ref p0, .int p1, .int p2] S ((f_X9_takenFor S p0 p1 p2).map (fun (v : Int32) => ((.inl (some (.int v)), S) : am_R))) := by
  refine am_M_of (w := fun (v : Int32) => ((.inl (some (.int v)), S) : am_R)) hl (by decide) (am_fc rfl (am_fc rfl (am_fc rfl am_fn))) (Nat.le_of_ble_eq_true rfl) ?_
  show am_Ev E l (RX9, cX9_takenFor, 4, (some .int), [], am_rm 2 0 0) (fun b a s x => am_Z E 0 0 b a s ((fun (v : Int32) => ((.inl (some (.int v)), S) : am_R)) x)) 0 0 0 [some (.ref p0), some (.int p1), some (.int p2), none] [] S (f_X9_takenFor S p0 p1 p2)
  unfold f_X9_takenFor
  refine ev_iconst (v := 0) dX9_takenFor_0 (by decide) ?_
  refine ev_istore_n dX9_takenFor_1 (am_lt rfl) ?_
  refine ev_weak (am_wk (am_wk (am_wk (am_wk am_wn)))) (ev_loopR 2 0 (fun x1 : Int32 => [some (.ref p0), some (.int p1), some (.int p2), some (.int x1)]) (fun t1 : Unit => [none, none, none, none]) (fun x1 => S) (fun t1 => S) (fun x1 G1 hB1 hE1 hG1 => ?_) (fun t1 => ?_) am_fuel 0)
  · unfold f_X9_takenFor_b2
    refine ev_iload_n dX9_takenFor_2 rfl ?_
    refine ev_aload_n dX9_takenFor_3 rfl ?_
    refine ev_get fk_X9_54 dX9_takenFor_4 kp0 (am_fvI (by decide)) ?_
    refine ev_eq am_ib ?_
    refine ev_icmp_ge (tgt := 33) dX9_takenFor_7 (by decide) (fun c6 => ?_) (fun c6 => ?_)
    · refine ev_iconst (v := (-1)) dX9_takenFor_33 (by decide) ?_
      exact ev_eq (hG1 _) (ev_iret dX9_takenFor_34 rfl rfl (by decide) (by decide) rfl)
    · refine ev_iload_n dX9_takenFor_10 rfl ?_
      refine ev_iconst (v := 2) dX9_takenFor_11 (by decide) ?_
      refine ev_eq am_ib ?_
      refine ev_icmp_lt (tgt := 33) dX9_takenFor_12 (by decide) (fun c7 => ?_) (fun c7 => ?_)
      · refine ev_iconst (v := (-1)) dX9_takenFor_33 (by decide) ?_
        exact ev_eq (hG1 _) (ev_iret dX9_takenFor_34 rfl rfl (by decide) (by decide) rfl)
      · refine ev_aload_n dX9_takenFor_15 rfl ?_
        refine ev_iload_n dX9_takenFor_16 rfl ?_
        refine ev_iload_n dX9_takenFor_17 rfl ?_
        refine ev_eq (Option.bind_assoc _ _ _) ?_
        refine ev_callP (am_callV (as := [.int p1, .int x1]) (o := p0) (st := []) cv_X9_89 dX9_takenFor_18 kp0 rfl (am_le rfl) (am_fit (by omega) (by decide) (by decide) (by decide)) (t_X9_wordFor hl kp0)) (fun v8 h8 => ?_)
        refine ev_iload_n dX9_takenFor_21 rfl ?_
        refine ev_eq am_ib ?_
        refine ev_icmp_ne (tgt := 27) dX9_takenFor_22 (by decide) (fun c9 => ?_) (fun c9 => ?_)
        · refine ev_iinc (v := (x1 + 1)) dX9_takenFor_27 (am_lt rfl) rfl rfl ?_
          refine ev_goto (tgt := 2) dX9_takenFor_30 (by decide) ?_
          exact ev_leaf (am_wk (am_wk (am_wk (am_wk am_wn)))) (hB1 (x1 + 1))
        · refine ev_iload_n dX9_takenFor_25 rfl ?_
          exact ev_eq (hG1 _) (ev_iret dX9_takenFor_26 rfl rfl (by decide) (by decide) rfl)
  · exact ev_none
def f_X6_takenAt (S : am_S) (p0 : Nat) (p1 : Nat) (p2 : Int32) (p3 : Int32) : Option (Int32 × (Nat → Nat → Int32)) :=
  ((f_X6_hasRinging S p0 p2).bind (fun v1 => (if v1 = 0 then some ((-1), S.1) else ((am_rd S.2 p0 2 1).bind (fun q3 => ((am_ld S.1 q3 p2).bind (fun v4 => ((f_X6_cameTo S p0 p1 p2 p3).bind (fun y5 => ((f_X9_takenFor (y5.2, S.2) p1 v4 y5.1).bind (fun v6 => some (v6, y5.2))))))))))))
set_option maxRecDepth 20000 in
theorem t_X6_takenAt {E : am_E} {l : Launch} (hl : l.stackTraces = false) {S : am_S} {p0 : Nat} {p1 : Nat} {p2 : Int32} {p3 : Int32} (kp0 : am_kd p0 = 106) (kp1 : am_kd p1 = 109) : am_M E l yX6_takenAt (.code yX6_takenAt cX6_takenAt 4 (some .int)) 4 0 0 [.ref p0, .ref p1, .int p2, .int p3] S ((f_X6_takenAt S p0 p1 p2 p3).map (fun (x : Int32 × (Nat → Nat → Int32)) => ((.inl (some (.int x.1)), (x.2, S.2)) : am_R))) := by
  refine am_M_of (w := fun (x : Int32 × (Nat → Nat → Int32)) => ((.inl (some (.int x.1)), (x.2, S.2)) : am_R)) hl (by decide) (am_fc rfl (am_fc rfl (am_fc rfl (am_fc rfl am_fn)))) (Nat.le_of_ble_eq_true rfl) ?_
  show am_Ev E l (RX6, cX6_takenAt, 4, (some .int), [], am_rm 4 0 0) (fun b a s x => am_Z E 0 0 b a s ((fun (x : Int32 × (Nat → Nat → Int32)) => ((.inl (some (.int x.1)), (x.2, S.2)) : am_R)) x)) 0 0 0 [some (.ref p0), some (.ref p1), some (.int p2), some (.int p3)] [] S (f_X6_takenAt S p0 p1 p2 p3)
  unfold f_X6_takenAt
  refine ev_aload_n dX6_takenAt_0 rfl ?_
  refine ev_iload_n dX6_takenAt_1 rfl ?_
  refine ev_callP (am_callV (as := [.int p2]) (o := p0) (st := []) cv_X6_57 dX6_takenAt_2 kp0 rfl (am_le rfl) (am_fit (by omega) (by decide) (by decide) (by decide)) (t_X6_hasRinging hl kp0)) (fun v1 h1 => ?_)
  refine ev_if_eq (tgt := 28) dX6_takenAt_5 (by decide) (fun c2 => ?_) (fun c2 => ?_)
  · refine ev_iconst (v := (-1)) dX6_takenAt_28 (by decide) ?_
    exact ev_iret dX6_takenAt_29 rfl rfl (by decide) (by decide) rfl
  · refine ev_aload_n dX6_takenAt_8 rfl ?_
    refine ev_aload_n dX6_takenAt_9 rfl ?_
    refine ev_getR fk_X6_15 (by decide) dX6_takenAt_10 kp0 (fun q3 k3 r3 => ?_)
    refine ev_iload_n dX6_takenAt_13 rfl ?_
    refine ev_iald dX6_takenAt_14 k3 (fun v4 h4 => ?_)
    refine ev_aload_n dX6_takenAt_15 rfl ?_
    refine ev_aload_n dX6_takenAt_16 rfl ?_
    refine ev_iload_n dX6_takenAt_17 rfl ?_
    refine ev_iload_n dX6_takenAt_18 rfl ?_
    refine ev_callWI (am_callV (as := [.ref p1, .int p2, .int p3]) (o := p0) (st := [.int v4, .ref p1]) cv_X6_71 dX6_takenAt_19 kp0 rfl (am_le rfl) (am_fit (by omega) (by decide) (by decide) (by decide)) (t_X6_cameTo hl kp0 kp1)) (fun y5 h5 => ?_)
    refine ev_callP (am_callVN (as := [.int v4, .int y5.1]) (o := p1) (st := []) cv_X6_75 dX6_takenAt_22 kp1 rfl (am_le rfl) (am_fit (by omega) (by decide) (by decide) (by decide)) (am_no1 (fun _ => ⟨_, rfl⟩)) (t_X9_takenFor hl kp1)) (fun v6 h6 => ?_)
    refine ev_goto (tgt := 29) dX6_takenAt_25 (by decide) ?_
    exact ev_iret dX6_takenAt_29 rfl rfl (by decide) (by decide) rfl
def f_X11_taken (S : am_S) (p0 : Nat) (p1 : Int32) (p2 : Int32) : Option (am_R) :=
  (am_thV (f_X11_needRinging S p0 p1) (fun S1 => (am_thV (f_X11_needHouse S1 p0 p2) (fun S2 => ((am_rd S2.2 p0 3 109).bind (fun q3 => ((am_rd S2.2 q3 15 106).bind (fun q4 => ((am_rd S2.2 p0 3 109).bind (fun q5 => ((f_X6_takenAt S2 q4 q5 p1 p2).bind (fun y6 => some (.inl (some (.int y6.1)), (y6.2, S2.2))))))))))))))
set_option maxRecDepth 20000 in
theorem t_X11_taken {E : am_E} {l : Launch} (hl : l.stackTraces = false) {S : am_S} {p0 : Nat} {p1 : Int32} {p2 : Int32} (kp0 : am_kd p0 = 111) : am_M E l yX11_taken (.code yX11_taken cX11_taken 3 (some .int)) 5 2 12 [.ref p0, .int p1, .int p2] S (f_X11_taken S p0 p1 p2) := by
  refine am_M_id (am_M_of (w := fun x => x) hl (by decide) (am_fc rfl (am_fc rfl (am_fc rfl am_fn))) (Nat.le_of_ble_eq_true rfl) ?_)
  show am_Ev E l (RX11, cX11_taken, 3, (some .int), [], am_rm 5 2 12) (am_Z E 2 12) 0 0 0 [some (.ref p0), some (.int p1), some (.int p2)] [] S (f_X11_taken S p0 p1 p2)
  unfold f_X11_taken
  refine ev_aload_n dX11_taken_0 rfl ?_
  refine ev_iload_n dX11_taken_1 rfl ?_
  refine ev_callGV (am_callV (as := [.int p1]) (o := p0) (st := []) cv_X11_211 dX11_taken_2 kp0 rfl (am_le rfl) (am_fit (by omega) (by decide) (by decide) (by decide)) (t_X11_needRinging hl kp0)) rfl (by decide) (by decide) (fun S1 h1 => ?_)
  refine ev_aload_n dX11_taken_5 rfl ?_
  refine ev_iload_n dX11_taken_6 rfl ?_
  refine ev_callGV (am_callV (as := [.int p2]) (o := p0) (st := []) cv_X11_138 dX11_taken_7 kp0 rfl (am_le rfl) (am_fit (by omega) (by decide) (by decide) (by decide)) (t_X11_needHouse hl kp0)) rfl (by decide) (by decide) (fun S2 h2 => ?_)
  refine ev_aload_n dX11_taken_10 rfl ?_
  refine ev_getR fk_X11_20 (by decide) dX11_taken_11 kp0 (fun q3 k3 r3 => ?_)
  refine ev_getRN fk_X11_201 (by decide) dX11_taken_14 k3 (fun q4 k4 r4 => ?_)
  refine ev_aload_n dX11_taken_17 rfl ?_
  refine ev_getR fk_X11_20 (by decide) dX11_taken_18 kp0 (fun q5 k5 r5 => ?_)
  refine ev_iload_n dX11_taken_21 rfl ?_
  refine ev_iload_n dX11_taken_22 rfl ?_
  refine ev_callWI (am_callVN (as := [.ref q5, .int p1, .int p2]) (o := q4) (st := []) cv_X11_218 dX11_taken_23 k4 rfl (am_le rfl) (am_fit (by omega) (by decide) (by decide) (by decide)) (am_no1 (fun _ => ⟨_, rfl⟩)) (t_X6_takenAt hl k4 k5)) (fun y6 h6 => ?_)
  exact ev_iret dX11_taken_26 rfl rfl (by decide) (by decide) rfl
