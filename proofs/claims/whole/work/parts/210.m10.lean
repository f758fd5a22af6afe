def f_X12_wordsOf_b4 (S : am_S) (a0 : Nat) (a1 : Int32) (x1 : Int32 × Int32) : Option ((Int32 × Int32) ⊕ (Int32)) :=
  ((f_X12_wants S a0).bind (fun v2 => (if x1.2 < v2 then ((f_X12_wordOf S a0 a1 x1.2).bind (fun v4 => ((if 0 < v4 then some (1 : Int32) else some (0 : Int32)).bind (fun t5 => some (.inl ((x1.1 + t5), (x1.2 + 1))))))) else some (.inr x1.1))))
def f_X12_wordsOf (S : am_S) (p0 : Nat) (p1 : Int32) : Option (Int32) :=
  ((am_loop (f_X12_wordsOf_b4 S p0 p1) am_fuel (0, 0)).bind (fun t1 => some t1))
set_option maxRecDepth 20000 in
theorem t_X12_wordsOf {E : am_E} {l : Launch} (hl : l.stackTraces = false) {S : am_S} {p0 : Nat} {p1 : Int32} (kp0 : am_kd p0 = 112) : am_M E l yX12_wordsOf (.code yX12_wordsOf cX12_wordsOf 4 (some .int)) 2 0 0 [.ref p0, .int p1] S ((f_X12_wordsOf S p0 p1).map (fun (v : Int32) => ((.inl (some (.int v)), S) : am_R))) := by
  refine am_M_of (w := fun (v : Int32) => ((.inl (some (.int v)), S) : am_R)) hl (by decide) (am_fc rfl (am_fc rfl am_fn)) (Nat.le_of_ble_eq_true rfl) ?_
  show am_Ev E l (RX12, cX12_wordsOf, 4, (some .int), [], am_rm 2 0 0) (fun b a s x => am_Z E 0 0 b a s ((fun (v : Int32) => ((.inl (some (.int v)), S) : am_R)) x)) 0 0 0 [some (.ref p0), some (.int p1), none, none] [] S (f_X12_wordsOf S p0 p1)
  unfold f_X12_wordsOf
  refine ev_iconst (v := 0) dX12_wordsOf_0 (by decide) ?_
  refine ev_istore_n dX12_wordsOf_1 (am_lt rfl) ?_
  refine ev_iconst (v := 0) dX12_wordsOf_2 (by decide) ?_
  refine ev_istore_n dX12_wordsOf_3 (am_lt rfl) ?_
  refine ev_weak (am_wk (am_wk (am_wk (am_wk am_wn)))) (ev_loop 4 35 (fun x1 : Int32 × Int32 => [some (.ref p0), some (.int p1), some (.int x1.1), some (.int x1.2)]) (fun t1 : Int32 => [none, none, some (.int t1), none]) (fun x1 => S) (fun t1 => S) (fun x1 G1 hB1 hE1 => ?_) (fun t1 => ?_) am_fuel (0, 0))
  · unfold f_X12_wordsOf_b4
    refine ev_iload_n dX12_wordsOf_4 rfl ?_
    refine ev_aload_n dX12_wordsOf_5 rfl ?_
    refine ev_eq (Option.bind_assoc _ _ _) ?_
    refine ev_callP (am_callV (as := []) (o := p0) (st := [.int x1.2]) cv_X12_82 dX12_wordsOf_6 kp0 rfl (am_le rfl) (am_fit (by omega) (by decide) (by decide) (by decide)) (t_X12_wants hl kp0)) (fun v6 h6 => ?_)
    refine ev_eq am_ib ?_
    refine ev_icmp_ge (tgt := 35) dX12_wordsOf_9 (by decide) (fun c7 => ?_) (fun c7 => ?_)
    · exact ev_leaf (am_wf (am_wf (am_wk (am_wf am_wn)))) (hE1 x1.1)
    · refine ev_iload_n dX12_wordsOf_12 rfl ?_
      refine ev_aload_n dX12_wordsOf_13 rfl ?_
      refine ev_iload_n dX12_wordsOf_14 rfl ?_
      refine ev_iload_n dX12_wordsOf_15 rfl ?_
      refine ev_eq (Option.bind_assoc _ _ _) ?_
      refine ev_callP (am_callV (as := [.int p1, .int x1.2]) (o := p0) (st := [.int x1.1]) cv_X12_254 dX12_wordsOf_16 kp0 rfl (am_le rfl) (am_fit (by omega) (by decide) (by decide) (by decide)) (t_X12_wordOf hl kp0)) (fun v8 h8 => ?_)
      refine ev_eq (Option.bind_assoc _ _ _) ?_
      refine ev_reg (cs' := 0) (sl' := 0) 27 (fun t9 : Int32 => [some (.ref p0), some (.int p1), none, some (.int x1.2)]) (fun t9 => [.int t9, .int x1.1]) (fun t9 => S) (fun hJ9 => ?_) (fun t9 => ?_)
      · refine ev_eq am_ib ?_
        refine ev_if_le (tgt := 26) dX12_wordsOf_19 (by decide) (fun c9 => ?_) (fun c9 => ?_)
        · refine ev_iconst (v := 0) dX12_wordsOf_26 (by decide) ?_
          exact ev_leaf (am_wk (am_wk (am_wf (am_wk am_wn)))) (hJ9 (0 : Int32))
        · refine ev_iconst (v := 1) dX12_wordsOf_22 (by decide) ?_
          refine ev_goto (tgt := 27) dX12_wordsOf_23 (by decide) ?_
          exact ev_leaf (am_wk (am_wk (am_wf (am_wk am_wn)))) (hJ9 (1 : Int32))
      · refine ev_iadd dX12_wordsOf_27 ?_
        refine ev_istore_n dX12_wordsOf_28 (am_lt rfl) ?_
        refine ev_iinc (v := (x1.2 + 1)) dX12_wordsOf_29 (am_lt rfl) rfl rfl ?_
        refine ev_goto (tgt := 4) dX12_wordsOf_32 (by decide) ?_
        exact ev_leaf (am_wk (am_wk (am_wk (am_wk am_wn)))) (hB1 ((x1.1 + t9), (x1.2 + 1)))
  · refine ev_iload_n dX12_wordsOf_35 rfl ?_
    exact ev_iret dX12_wordsOf_36 rfl rfl (by decide) (by decide) rfl
def f_X12_house (S : am_S) (p0 : Nat) (p1 : Int32) (p2 : Int32) : Option (Int32 × (Nat → Nat → Int32)) :=
  ((f_X12_noHouse ((am_u2 S.1 p0 0 0), S.2) p0 p1).bind (fun v1 => ((f_X12_throwsIf ((am_u2 S.1 p0 0 0), S.2) p0 v1 1).bind (fun y2 => (if y2.1 = 0 then ((f_X12_in p2 0 5).bind (fun v4 => ((if v4 = 0 then some (1 : Int32) else some (0 : Int32)).bind (fun t5 => ((f_X12_throwsIf (y2.2, S.2) p0 t5 2).bind (fun y6 => (if y6.1 = 0 then (if p2 < 5 then ((f_X12_of (y6.2, S.2) p0 p1 p2).bind (fun v10 => some (v10, y6.2))) else ((f_X12_wordsOf (y6.2, S.2) p0 p1).bind (fun v9 => some (v9, y6.2)))) else some (0, y6.2)))))))) else some (0, y2.2))))))
set_option maxRecDepth 20000 in
theorem t_X12_house {E : am_E} {l : Launch} (hl : l.stackTraces = false) {S : am_S} {p0 : Nat} {p1 : Int32} {p2 : Int32} (kp0 : am_kd p0 = 112) : am_M E l yX12_house (.code yX12_house cX12_house 3 (some .int)) 3 0 0 [.ref p0, .int p1, .int p2] S ((f_X12_house S p0 p1 p2).map (fun (x : Int32 × (Nat → Nat → Int32)) => ((.inl (some (.int x.1)), (x.2, S.2)) : am_R))) := by
  refine am_M_of (w := fun (x : Int32 × (Nat → Nat → Int32)) => ((.inl (some (.int x.1)), (x.2, S.2)) : am_R)) hl (by decide) (am_fc rfl (am_fc rfl (am_fc rfl am_fn))) (Nat.le_of_ble_eq_true rfl) ?_
  show am_Ev E l (RX12, cX12_house, 3, (some .int), [], am_rm 3 0 0) (fun b a s x => am_Z E 0 0 b a s ((fun (x : Int32 × (Nat → Nat → Int32)) => ((.inl (some (.int x.1)), (x.2, S.2)) : am_R)) x)) 0 0 0 [some (.ref p0), some (.int p1), some (.int p2)] [] S (f_X12_house S p0 p1 p2)
  unfold f_X12_house
  refine ev_aload_n dX12_house_0 rfl ?_
  refine ev_iconst (v := 0) dX12_house_1 (by decide) ?_
  refine ev_putI fk_X12_3 tyX12 tyX12_ok nmX12 rfl (by decide +kernel) (by decide) dX12_house_2 kp0 ?_
  refine ev_aload_n dX12_house_5 rfl ?_
  refine ev_aload_n dX12_house_6 rfl ?_
  refine ev_iload_n dX12_house_7 rfl ?_
  refine ev_callP (am_callV (as := [.int p1]) (o := p0) (st := [.ref p0]) cv_X12_257 dX12_house_8 kp0 rfl (am_le rfl) (am_fit (by omega) (by decide) (by decide) (by decide)) (t_X12_noHouse hl kp0)) (fun v1 h1 => ?_)
  refine ev_iconst (v := 1) dX12_house_11 (by decide) ?_
  refine ev_callWI (am_callV (as := [.int v1, .int 1]) (o := p0) (st := []) cv_X12_242 dX12_house_12 kp0 rfl (am_le rfl) (am_fit (by omega) (by decide) (by decide) (by decide)) (t_X12_throwsIf hl kp0)) (fun y2 h2 => ?_)
  refine ev_if_ne (tgt := 40) dX12_house_15 (by decide) (fun c3 => ?_) (fun c3 => ?_)
  · refine ev_iconst (v := 0) dX12_house_40 (by decide) ?_
    refine ev_goto (tgt := 63) dX12_house_41 (by decide) ?_
    exact ev_iret dX12_house_63 rfl rfl (by decide) (by decide) rfl
  · refine ev_aload_n dX12_house_18 rfl ?_
    refine ev_iload_n dX12_house_19 rfl ?_
    refine ev_iconst (v := 0) dX12_house_20 (by decide) ?_
    refine ev_iconst (v := 5) dX12_house_21 (by decide) ?_
    refine ev_callP (am_callS (as := [.int p2, .int 0, .int 5]) (st := [.ref p0]) ct_X12_78 dX12_house_22 rfl (am_le rfl) (am_fit (by omega) (by decide) (by decide) (by decide)) (t_X12_in hl )) (fun v4 h4 => ?_)
    refine ev_reg (cs' := 0) (sl' := 0) 33 (fun t5 : Int32 => [some (.ref p0), some (.int p1), some (.int p2)]) (fun t5 => [.int t5, .ref p0]) (fun t5 => (y2.2, S.2)) (fun hJ5 => ?_) (fun t5 => ?_)
    · refine ev_eq am_ib ?_
      refine ev_if_ne (tgt := 32) dX12_house_25 (by decide) (fun c5 => ?_) (fun c5 => ?_)
      · refine ev_iconst (v := 0) dX12_house_32 (by decide) ?_
        exact ev_leaf (am_wk (am_wk (am_wk am_wn))) (hJ5 (0 : Int32))
      · refine ev_iconst (v := 1) dX12_house_28 (by decide) ?_
        refine ev_goto (tgt := 33) dX12_house_29 (by decide) ?_
        exact ev_leaf (am_wk (am_wk (am_wk am_wn))) (hJ5 (1 : Int32))
    · refine ev_iconst (v := 2) dX12_house_33 (by decide) ?_
      refine ev_callWI (am_callV (as := [.int t5, .int 2]) (o := p0) (st := []) cv_X12_242 dX12_house_34 kp0 rfl (am_le rfl) (am_fit (by omega) (by decide) (by decide) (by decide)) (t_X12_throwsIf hl kp0)) (fun y6 h6 => ?_)
      refine ev_if_eq (tgt := 44) dX12_house_37 (by decide) (fun c7 => ?_) (fun c7 => ?_)
      · refine ev_iload_n dX12_house_44 rfl ?_
        refine ev_iconst (v := 5) dX12_house_45 (by decide) ?_
        refine ev_icmp_ge (tgt := 58) dX12_house_46 (by decide) (fun c8 => ?_) (fun c8 => ?_)
        · refine ev_aload_n dX12_house_58 rfl ?_
          refine ev_iload_n dX12_house_59 rfl ?_
          refine ev_callP (am_callV (as := [.int p1]) (o := p0) (st := []) cv_X12_260 dX12_house_60 kp0 rfl (am_le rfl) (am_fit (by omega) (by decide) (by decide) (by decide)) (t_X12_wordsOf hl kp0)) (fun v9 h9 => ?_)
          exact ev_iret dX12_house_63 rfl rfl (by decide) (by decide) rfl
        · refine ev_aload_n dX12_house_49 rfl ?_
          refine ev_iload_n dX12_house_50 rfl ?_
          refine ev_iload_n dX12_house_51 rfl ?_
          refine ev_callP (am_callV (as := [.int p1, .int p2]) (o := p0) (st := []) cv_X12_70 dX12_house_52 kp0 rfl (am_le rfl) (am_fit (by omega) (by decide) (by decide) (by decide)) (t_X12_of hl kp0)) (fun v10 h10 => ?_)
          refine ev_goto (tgt := 63) dX12_house_55 (by decide) ?_
          exact ev_iret dX12_house_63 rfl rfl (by decide) (by decide) rfl
      · refine ev_iconst (v := 0) dX12_house_40 (by decide) ?_
        refine ev_goto (tgt := 63) dX12_house_41 (by decide) ?_
        exact ev_iret dX12_house_63 rfl rfl (by decide) (by decide) rfl
def f_X12_want (S : am_S) (p0 : Nat) (p1 : Int32) : Option (Int32 × (Nat → Nat → Int32)) :=
  ((f_X12_noWant ((am_u2 S.1 p0 0 0), S.2) p0 p1).bind (fun v1 => ((f_X12_throwsIf ((am_u2 S.1 p0 0 0), S.2) p0 v1 1).bind (fun y2 => (if y2.1 = 0 then ((f_X12_urgent (y2.2, S.2) p0 p1).bind (fun v4 => some (v4, y2.2))) else some (0, y2.2))))))
set_option maxRecDepth 20000 in
theorem t_X12_want {E : am_E} {l : Launch} (hl : l.stackTraces = false) {S : am_S} {p0 : Nat} {p1 : Int32} (kp0 : am_kd p0 = 112) : am_M E l yX12_want (.code yX12_want cX12_want 2 (some .int)) 2 0 0 [.ref p0, .int p1] S ((f_X12_want S p0 p1).map (fun (x : Int32 × (Nat → Nat → Int32)) => ((.inl (some (.int x.1)), (x.2, S.2)) : am_R))) := by
  refine am_M_of (w := fun (x : Int32 × (Nat → Nat → Int32)) => ((.inl (some (.int x.1)), (x.2, S.2)) : am_R)) hl (by decide) (am_fc rfl (am_fc rfl am_fn)) (Nat.le_of_ble_eq_true rfl) ?_
  show am_Ev E l (RX12, cX12_want, 2, (some .int), [], am_rm 2 0 0) (fun b a s x => am_Z E 0 0 b a s ((fun (x : Int32 × (Nat → Nat → Int32)) => ((.inl (some (.int x.1)), (x.2, S.2)) : am_R)) x)) 0 0 0 [some (.ref p0), some (.int p1)] [] S (f_X12_want S p0 p1)
  unfold f_X12_want
  refine ev_aload_n dX12_want_0 rfl ?_
  refine ev_iconst (v := 0) dX12_want_1 (by decide) ?_
  refine ev_putI fk_X12_3 tyX12 tyX12_ok nmX12 rfl (by decide +kernel) (by decide) dX12_want_2 kp0 ?_
  refine ev_aload_n dX12_want_5 rfl ?_
  refine ev_aload_n dX12_want_6 rfl ?_
  refine ev_iload_n dX12_want_7 rfl ?_
  refine ev_callP (am_callV (as := [.int p1]) (o := p0) (st := [.ref p0]) cv_X12_263 dX12_want_8 kp0 rfl (am_le rfl) (am_fit (by omega) (by decide) (by decide) (by decide)) (t_X12_noWant hl kp0)) (fun v1 h1 => ?_)
  refine ev_iconst (v := 1) dX12_want_11 (by decide) ?_
  refine ev_callWI (am_callV (as := [.int v1, .int 1]) (o := p0) (st := []) cv_X12_242 dX12_want_12 kp0 rfl (am_le rfl) (am_fit (by omega) (by decide) (by decide) (by decide)) (t_X12_throwsIf hl kp0)) (fun y2 h2 => ?_)
  refine ev_if_eq (tgt := 22) dX12_want_15 (by decide) (fun c3 => ?_) (fun c3 => ?_)
  · refine ev_aload_n dX12_want_22 rfl ?_
    refine ev_iload_n dX12_want_23 rfl ?_
    refine ev_callP (am_callV (as := [.int p1]) (o := p0) (st := []) cv_X12_266 dX12_want_24 kp0 rfl (am_le rfl) (am_fit (by omega) (by decide) (by decide) (by decide)) (t_X12_urgent hl kp0)) (fun v4 h4 => ?_)
    exact ev_iret dX12_want_27 rfl rfl (by decide) (by decide) rfl
  · refine ev_iconst (v := 0) dX12_want_18 (by decide) ?_
    refine ev_goto (tgt := 27) dX12_want_19 (by decide) ?_
    exact ev_iret dX12_want_27 rfl rfl (by decide) (by decide) rfl
def f_X12_code (S : am_S) (p0 : Nat) (p1 : Int32) (p2 : Int32) : Option (Int32 × (Nat → Nat → Int32)) :=
  ((f_X12_noHouse ((am_u2 S.1 p0 0 0), S.2) p0 p1).bind (fun v1 => ((if v1 = 0 then ((f_X12_noWant ((am_u2 S.1 p0 0 0), S.2) p0 p2).bind (fun v3 => (if v3 = 0 then some (0 : Int32) else some (1 : Int32)))) else some (1 : Int32)).bind (fun t2 => ((f_X12_throwsIf ((am_u2 S.1 p0 0 0), S.2) p0 t2 1).bind (fun y5 => (if y5.1 = 0 then ((f_X12_wordOf (y5.2, S.2) p0 p1 p2).bind (fun v7 => (if 0 < v7 then ((f_X12_wordOf (y5.2, S.2) p0 p1 p2).bind (fun v9 => some (v9, y5.2))) else some ((-1), y5.2)))) else some (0, y5.2))))))))
set_option maxRecDepth 20000 in
theorem t_X12_code {E : am_E} {l : Launch} (hl : l.stackTraces = false) {S : am_S} {p0 : Nat} {p1 : Int32} {p2 : Int32} (kp0 : am_kd p0 = 112) : am_M E l yX12_code (.code yX12_code cX12_code 3 (some .int)) 2 0 0 [.ref p0, .int p1, .int p2] S ((f_X12_code S p0 p1 p2).map (fun (x : Int32 × (Nat → Nat → Int32)) => ((.inl (some (.int x.1)), (x.2, S.2)) : am_R))) := by
  refine am_M_of (w := fun (x : Int32 × (Nat → Nat → Int32)) => ((.inl (some (.int x.1)), (x.2, S.2)) : am_R)) hl (by decide) (am_fc rfl (am_fc rfl (am_fc rfl am_fn))) (Nat.le_of_ble_eq_true rfl) ?_
  show am_Ev E l (RX12, cX12_code, 3, (some .int), [], am_rm 2 0 0) (fun b a s x => am_Z E 0 0 b a s ((fun (x : Int32 × (Nat → Nat → Int32)) => ((.inl (some (.int x.1)), (x.2, S.2)) : am_R)) x)) 0 0 0 [some (.ref p0), some (.int p1), some (.int p2)] [] S (f_X12_code S p0 p1 p2)
  unfold f_X12_code
  refine ev_aload_n dX12_code_0 rfl ?_
  refine ev_iconst (v := 0) dX12_code_1 (by decide) ?_
  refine ev_putI fk_X12_3 tyX12 tyX12_ok nmX12 rfl (by decide +kernel) (by decide) dX12_code_2 kp0 ?_
  refine ev_aload_n dX12_code_5 rfl ?_
  refine ev_aload_n dX12_code_6 rfl ?_
  refine ev_iload_n dX12_code_7 rfl ?_
  refine ev_callP (am_callV (as := [.int p1]) (o := p0) (st := [.ref p0]) cv_X12_257 dX12_code_8 kp0 rfl (am_le rfl) (am_fit (by omega) (by decide) (by decide) (by decide)) (t_X12_noHouse hl kp0)) (fun v1 h1 => ?_)
  refine ev_reg (cs' := 0) (sl' := 0) 27 (fun t2 : Int32 => [some (.ref p0), some (.int p1), some (.int p2)]) (fun t2 => [.int t2, .ref p0]) (fun t2 => ((am_u2 S.1 p0 0 0), S.2)) (fun hJ2 => ?_) (fun t2 => ?_)
  · refine ev_eq am_ib ?_
    refine ev_if_ne (tgt := 22) dX12_code_11 (by decide) (fun c2 => ?_) (fun c2 => ?_)
    · refine ev_iconst (v := 1) dX12_code_22 (by decide) ?_
      refine ev_goto (tgt := 27) dX12_code_23 (by decide) ?_
      exact ev_leaf (am_wk (am_wk (am_wk am_wn))) (hJ2 (1 : Int32))
    · refine ev_aload_n dX12_code_14 rfl ?_
      refine ev_iload_n dX12_code_15 rfl ?_
      refine ev_eq (Option.bind_assoc _ _ _) ?_
      refine ev_callP (am_callV (as := [.int p2]) (o := p0) (st := [.ref p0]) cv_X12_263 dX12_code_16 kp0 rfl (am_le rfl) (am_fit (by omega) (by decide) (by decide) (by decide)) (t_X12_noWant hl kp0)) (fun v3 h3 => ?_)
      refine ev_eq am_ib ?_
      refine ev_if_eq (tgt := 26) dX12_code_19 (by decide) (fun c4 => ?_) (fun c4 => ?_)
      · refine ev_iconst (v := 0) dX12_code_26 (by decide) ?_
        exact ev_leaf (am_wk (am_wk (am_wk am_wn))) (hJ2 (0 : Int32))
      · refine ev_iconst (v := 1) dX12_code_22 (by decide) ?_
        refine ev_goto (tgt := 27) dX12_code_23 (by decide) ?_
        exact ev_leaf (am_wk (am_wk (am_wk am_wn))) (hJ2 (1 : Int32))
  · refine ev_iconst (v := 1) dX12_code_27 (by decide) ?_
    refine ev_callWI (am_callV (as := [.int t2, .int 1]) (o := p0) (st := []) cv_X12_242 dX12_code_28 kp0 rfl (am_le rfl) (am_fit (by omega) (by decide) (by decide) (by decide)) (t_X12_throwsIf hl kp0)) (fun y5 h5 => ?_)
    refine ev_if_eq (tgt := 36) dX12_code_31 (by decide) (fun c6 => ?_) (fun c6 => ?_)
    · refine ev_aload_n dX12_code_36 rfl ?_
      refine ev_iload_n dX12_code_37 rfl ?_
      refine ev_iload_n dX12_code_38 rfl ?_
      refine ev_callP (am_callV (as := [.int p1, .int p2]) (o := p0) (st := []) cv_X12_254 dX12_code_39 kp0 rfl (am_le rfl) (am_fit (by omega) (by decide) (by decide) (by decide)) (t_X12_wordOf hl kp0)) (fun v7 h7 => ?_)
      refine ev_if_le (tgt := 54) dX12_code_42 (by decide) (fun c8 => ?_) (fun c8 => ?_)
      · refine ev_iconst (v := (-1)) dX12_code_54 (by decide) ?_
        exact ev_iret dX12_code_55 rfl rfl (by decide) (by decide) rfl
      · refine ev_aload_n dX12_code_45 rfl ?_
        refine ev_iload_n dX12_code_46 rfl ?_
        refine ev_iload_n dX12_code_47 rfl ?_
        refine ev_callP (am_callV (as := [.int p1, .int p2]) (o := p0) (st := []) cv_X12_254 dX12_code_48 kp0 rfl (am_le rfl) (am_fit (by omega) (by decide) (by decide) (by decide)) (t_X12_wordOf hl kp0)) (fun v9 h9 => ?_)
        refine ev_goto (tgt := 55) dX12_code_51 (by decide) ?_
        exact ev_iret dX12_code_55 rfl rfl (by decide) (by decide) rfl
    · refine ev_iconst (v := 0) dX12_code_34 (by decide) ?_
      exact ev_iret dX12_code_35 rfl rfl (by decide) (by decide) rfl
def f_X12_cost (S : am_S) (p0 : Nat) (p1 : Int32) : Option (Int32 × (Nat → Nat → Int32)) :=
  ((f_X12_in p1 2 511).bind (fun v1 => ((if v1 = 0 then some (1 : Int32) else some (0 : Int32)).bind (fun t2 => ((f_X12_throwsIf ((am_u2 S.1 p0 0 0), S.2) p0 t2 1).bind (fun y3 => (if y3.1 = 0 then ((f_X12_costOf p1).bind (fun v5 => some (v5, y3.2))) else some (0, y3.2))))))))
set_option maxRecDepth 20000 in
theorem t_X12_cost {E : am_E} {l : Launch} (hl : l.stackTraces = false) {S : am_S} {p0 : Nat} {p1 : Int32} (kp0 : am_kd p0 = 112) : am_M E l yX12_cost (.code yX12_cost cX12_cost 2 (some .int)) 2 0 0 [.ref p0, .int p1] S ((f_X12_cost S p0 p1).map (fun (x : Int32 × (Nat → Nat → Int32)) => ((.inl (some (.int x.1)), (x.2, S.2)) : am_R))) := by
  refine am_M_of (w := fun (x : Int32 × (Nat → Nat → Int32)) => ((.inl (some (.int x.1)), (x.2, S.2)) : am_R)) hl (by decide) (am_fc rfl (am_fc rfl am_fn)) (Nat.le_of_ble_eq_true rfl) ?_
  show am_Ev E l (RX12, cX12_cost, 2, (some .int), [], am_rm 2 0 0) (fun b a s x => am_Z E 0 0 b a s ((fun (x : Int32 × (Nat → Nat → Int32)) => ((.inl (some (.int x.1)), (x.2, S.2)) : am_R)) x)) 0 0 0 [some (.ref p0), some (.int p1)] [] S (f_X12_cost S p0 p1)
  unfold f_X12_cost
  refine ev_aload_n dX12_cost_0 rfl ?_
  refine ev_iconst (v := 0) dX12_cost_1 (by decide) ?_
  refine ev_putI fk_X12_3 tyX12 tyX12_ok nmX12 rfl (by decide +kernel) (by decide) dX12_cost_2 kp0 ?_
  refine ev_aload_n dX12_cost_5 rfl ?_
  refine ev_iload_n dX12_cost_6 rfl ?_
  refine ev_iconst (v := 2) dX12_cost_7 (by decide) ?_
  refine ev_sipush (v := 511) dX12_cost_8 (by decide) ?_
  refine ev_callP (am_callS (as := [.int p1, .int 2, .int 511]) (st := [.ref p0]) ct_X12_78 dX12_cost_11 rfl (am_le rfl) (am_fit (by omega) (by decide) (by decide) (by decide)) (t_X12_in hl )) (fun v1 h1 => ?_)
  refine ev_reg (cs' := 0) (sl' := 0) 22 (fun t2 : Int32 => [none, some (.int p1)]) (fun t2 => [.int t2, .ref p0]) (fun t2 => ((am_u2 S.1 p0 0 0), S.2)) (fun hJ2 => ?_) (fun t2 => ?_)
  · refine ev_eq am_ib ?_
    refine ev_if_ne (tgt := 21) dX12_cost_14 (by decide) (fun c2 => ?_) (fun c2 => ?_)
    · refine ev_iconst (v := 0) dX12_cost_21 (by decide) ?_
      exact ev_leaf (am_wf (am_wk am_wn)) (hJ2 (0 : Int32))
    · refine ev_iconst (v := 1) dX12_cost_17 (by decide) ?_
      refine ev_goto (tgt := 22) dX12_cost_18 (by decide) ?_
      exact ev_leaf (am_wf (am_wk am_wn)) (hJ2 (1 : Int32))
  · refine ev_iconst (v := 1) dX12_cost_22 (by decide) ?_
    refine ev_callWI (am_callV (as := [.int t2, .int 1]) (o := p0) (st := []) cv_X12_242 dX12_cost_23 kp0 rfl (am_le rfl) (am_fit (by omega) (by decide) (by decide) (by decide)) (t_X12_throwsIf hl kp0)) (fun y3 h3 => ?_)
    refine ev_if_eq (tgt := 33) dX12_cost_26 (by decide) (fun c4 => ?_) (fun c4 => ?_)
    · refine ev_iload_n dX12_cost_33 rfl ?_
      refine ev_callP (am_callS (as := [.int p1]) (st := []) ct_X12_268 dX12_cost_34 rfl (am_le rfl) (am_fit (by omega) (by decide) (by decide) (by decide)) (t_X12_costOf hl )) (fun v5 h5 => ?_)
      exact ev_iret dX12_cost_37 rfl rfl (by decide) (by decide) rfl
    · refine ev_iconst (v := 0) dX12_cost_29 (by decide) ?_
      refine ev_goto (tgt := 37) dX12_cost_30 (by decide) ?_
      exact ev_iret dX12_cost_37 rfl rfl (by decide) (by decide) rfl
def f_X12_way (S : am_S) (p0 : Nat) (p1 : Int32) (p2 : Int32) (p3 : Int32) : Option (Int32 × (Nat → Nat → Int32)) :=
  ((f_X12_noHouse ((am_u2 S.1 p0 0 0), S.2) p0 p1).bind (fun v1 => ((if v1 = 0 then ((f_X12_noHouse ((am_u2 S.1 p0 0 0), S.2) p0 p2).bind (fun v3 => (if v3 = 0 then some (0 : Int32) else some (1 : Int32)))) else some (1 : Int32)).bind (fun t2 => ((f_X12_throwsIf ((am_u2 S.1 p0 0 0), S.2) p0 t2 1).bind (fun y5 => (if y5.1 = 0 then ((f_X12_in p3 0 3).bind (fun v7 => ((if v7 = 0 then some (1 : Int32) else some (0 : Int32)).bind (fun t8 => ((f_X12_throwsIf (y5.2, S.2) p0 t8 2).bind (fun y9 => (if y9.1 = 0 then (if p3 = 0 then ((f_X12_farOf (y9.2, S.2) p0 p1 p2).bind (fun v19 => some (v19, y9.2))) else (if p3 = 2 then ((f_X12_clearOf (y9.2, S.2) p0 p1 p2).bind (fun v18 => some (v18, y9.2))) else (if p3 = 1 then ((f_X12_isHearing (y9.2, S.2) p0 p1 p2).bind (fun v16 => (if v16 = 0 then some (0, y9.2) else some (1, y9.2)))) else ((f_X12_isHarm (y9.2, S.2) p0 p1 p2).bind (fun v14 => (if v14 = 0 then some (0, y9.2) else some (1, y9.2))))))) else some (0, y9.2)))))))) else some (0, y5.2))))))))
set_option maxRecDepth 20000 in
theorem t_X12_way {E : am_E} {l : Launch} (hl : l.stackTraces = false) {S : am_S} {p0 : Nat} {p1 : Int32} {p2 : Int32} {p3 : Int32} (kp0 : am_kd p0 = 112) : am_M E l yX12_way (.code yX12_way cX12_way 4 (some .int)) 4 0 0 [.ref p0, .int p1, .int p2, .int p3] S ((f_X12_way S p0 p1 p2 p3).map (fun (x : Int32 × (Nat → Nat → Int32)) => ((.inl (some (.int x.1)), (x.2, S.2)) : am_R))) := by
  refine am_M_of (w := fun (x : Int32 × (Nat → Nat → Int32)) => ((.inl (some (.int x.1)), (x.2, S.2)) : am_R)) hl (by decide) (am_fc rfl (am_fc rfl (am_fc rfl (am_fc rfl am_fn)))) (Nat.le_of_ble_eq_true rfl) ?_
  show am_Ev E l (RX12, cX12_way, 4, (some .int), [], am_rm 4 0 0) (fun b a s x => am_Z E 0 0 b a s ((fun (x : Int32 × (Nat → Nat → Int32)) => ((.inl (some (.int x.1)), (x.2, S.2)) : am_R)) x)) 0 0 0 [some (.ref p0), some (.int p1), some (.int p2), some (.int p3)] [] S (f_X12_way S p0 p1 p2 p3)
  unfold f_X12_way
  refine ev_aload_n dX12_way_0 rfl ?_
  refine ev_iconst (v := 0) dX12_way_1 (by decide) ?_
  refine ev_putI fk_X12_3 tyX12 tyX12_ok nmX12 rfl (by decide +kernel) (by decide) dX12_way_2 kp0 ?_
  refine ev_aload_n dX12_way_5 rfl ?_
  refine ev_aload_n dX12_way_6 rfl ?_
  refine ev_iload_n dX12_way_7 rfl ?_
  refine ev_callP (am_callV (as := [.int p1]) (o := p0) (st := [.ref p0]) cv_X12_257 dX12_way_8 kp0 rfl (am_le rfl) (am_fit (by omega) (by decide) (by decide) (by decide)) (t_X12_noHouse hl kp0)) (fun v1 h1 => ?_)
  refine ev_reg (cs' := 0) (sl' := 0) 27 (fun t2 : Int32 => [some (.ref p0), some (.int p1), some (.int p2), some (.int p3)]) (fun t2 => [.int t2, .ref p0]) (fun t2 => ((am_u2 S.1 p0 0 0), S.2)) (fun hJ2 => ?_) (fun t2 => ?_)
  · refine ev_eq am_ib ?_
    refine ev_if_ne (tgt := 22) dX12_way_11 (by decide) (fun c2 => ?_) (fun c2 => ?_)
    · refine ev_iconst (v := 1) dX12_way_22 (by decide) ?_
      refine ev_goto (tgt := 27) dX12_way_23 (by decide) ?_
      exact ev_leaf (am_wk (am_wk (am_wk (am_wk am_wn)))) (hJ2 (1 : Int32))
    · refine ev_aload_n dX12_way_14 rfl ?_
      refine ev_iload_n dX12_way_15 rfl ?_
      refine ev_eq (Option.bind_assoc _ _ _) ?_
      refine ev_callP (am_callV (as := [.int p2]) (o := p0) (st := [.ref p0]) cv_X12_257 dX12_way_16 kp0 rfl (am_le rfl) (am_fit (by omega) (by decide) (by decide) (by decide)) (t_X12_noHouse hl kp0)) (fun v3 h3 => ?_)
      refine ev_eq am_ib ?_
      refine ev_if_eq (tgt := 26) dX12_way_19 (by decide) (fun c4 => ?_) (fun c4 => ?_)
      · refine ev_iconst (v := 0) dX12_way_26 (by decide) ?_
        exact ev_leaf (am_wk (am_wk (am_wk (am_wk am_wn)))) (hJ2 (0 : Int32))
      · refine ev_iconst (v := 1) dX12_way_22 (by decide) ?_
        refine ev_goto (tgt := 27) dX12_way_23 (by decide) ?_
        exact ev_leaf (am_wk (am_wk (am_wk (am_wk am_wn)))) (hJ2 (1 : Int32))
  · refine ev_iconst (v := 1) dX12_way_27 (by decide) ?_
    refine ev_callWI (am_callV (as := [.int t2, .int 1]) (o := p0) (st := []) cv_X12_242 dX12_way_28 kp0 rfl (am_le rfl) (am_fit (by omega) (by decide) (by decide) (by decide)) (t_X12_throwsIf hl kp0)) (fun y5 h5 => ?_)
    refine ev_if_ne (tgt := 56) dX12_way_31 (by decide) (fun c6 => ?_) (fun c6 => ?_)
    · refine ev_iconst (v := 0) dX12_way_56 (by decide) ?_
      exact ev_iret dX12_way_57 rfl rfl (by decide) (by decide) rfl
    · refine ev_aload_n dX12_way_34 rfl ?_
      refine ev_iload_n dX12_way_35 rfl ?_
      refine ev_iconst (v := 0) dX12_way_36 (by decide) ?_
      refine ev_iconst (v := 3) dX12_way_37 (by decide) ?_
      refine ev_callP (am_callS (as := [.int p3, .int 0, .int 3]) (st := [.ref p0]) ct_X12_78 dX12_way_38 rfl (am_le rfl) (am_fit (by omega) (by decide) (by decide) (by decide)) (t_X12_in hl )) (fun v7 h7 => ?_)
      refine ev_reg (cs' := 0) (sl' := 0) 49 (fun t8 : Int32 => [some (.ref p0), some (.int p1), some (.int p2), some (.int p3)]) (fun t8 => [.int t8, .ref p0]) (fun t8 => (y5.2, S.2)) (fun hJ8 => ?_) (fun t8 => ?_)
      · refine ev_eq am_ib ?_
        refine ev_if_ne (tgt := 48) dX12_way_41 (by decide) (fun c8 => ?_) (fun c8 => ?_)
        · refine ev_iconst (v := 0) dX12_way_48 (by decide) ?_
          exact ev_leaf (am_wk (am_wk (am_wk (am_wk am_wn)))) (hJ8 (0 : Int32))
        · refine ev_iconst (v := 1) dX12_way_44 (by decide) ?_
          refine ev_goto (tgt := 49) dX12_way_45 (by decide) ?_
          exact ev_leaf (am_wk (am_wk (am_wk (am_wk am_wn)))) (hJ8 (1 : Int32))
      · refine ev_iconst (v := 2) dX12_way_49 (by decide) ?_
        refine ev_callWI (am_callV (as := [.int t8, .int 2]) (o := p0) (st := []) cv_X12_242 dX12_way_50 kp0 rfl (am_le rfl) (am_fit (by omega) (by decide) (by decide) (by decide)) (t_X12_throwsIf hl kp0)) (fun y9 h9 => ?_)
        refine ev_if_eq (tgt := 58) dX12_way_53 (by decide) (fun c10 => ?_) (fun c10 => ?_)
        · refine ev_iload_n dX12_way_58 rfl ?_
          refine ev_if_ne (tgt := 71) dX12_way_59 (by decide) (fun c11 => ?_) (fun c11 => ?_)
          · refine ev_iload_n dX12_way_71 rfl ?_
            refine ev_iconst (v := 2) dX12_way_72 (by decide) ?_
            refine ev_icmp_ne (tgt := 85) dX12_way_73 (by decide) (fun c12 => ?_) (fun c12 => ?_)
            · refine ev_iload_n dX12_way_85 rfl ?_
              refine ev_iconst (v := 1) dX12_way_86 (by decide) ?_
              refine ev_icmp_ne (tgt := 102) dX12_way_87 (by decide) (fun c13 => ?_) (fun c13 => ?_)
              · refine ev_aload_n dX12_way_102 rfl ?_
                refine ev_iload_n dX12_way_103 rfl ?_
                refine ev_iload_n dX12_way_104 rfl ?_
                refine ev_callP (am_callV (as := [.int p1, .int p2]) (o := p0) (st := []) cv_X12_274 dX12_way_105 kp0 rfl (am_le rfl) (am_fit (by omega) (by decide) (by decide) (by decide)) (t_X12_isHarm hl kp0)) (fun v14 h14 => ?_)
                refine ev_if_eq (tgt := 115) dX12_way_108 (by decide) (fun c15 => ?_) (fun c15 => ?_)
                · refine ev_iconst (v := 0) dX12_way_115 (by decide) ?_
                  exact ev_iret dX12_way_116 rfl rfl (by decide) (by decide) rfl
                · refine ev_iconst (v := 1) dX12_way_111 (by decide) ?_
                  refine ev_goto (tgt := 116) dX12_way_112 (by decide) ?_
                  exact ev_iret dX12_way_116 rfl rfl (by decide) (by decide) rfl
              · refine ev_aload_n dX12_way_90 rfl ?_
                refine ev_iload_n dX12_way_91 rfl ?_
                refine ev_iload_n dX12_way_92 rfl ?_
                refine ev_callP (am_callV (as := [.int p1, .int p2]) (o := p0) (st := []) cv_X12_251 dX12_way_93 kp0 rfl (am_le rfl) (am_fit (by omega) (by decide) (by decide) (by decide)) (t_X12_isHearing hl kp0)) (fun v16 h16 => ?_)
                refine ev_if_eq (tgt := 115) dX12_way_96 (by decide) (fun c17 => ?_) (fun c17 => ?_)
                · refine ev_iconst (v := 0) dX12_way_115 (by decide) ?_
                  exact ev_iret dX12_way_116 rfl rfl (by decide) (by decide) rfl
                · refine ev_goto (tgt := 111) dX12_way_99 (by decide) ?_
                  refine ev_iconst (v := 1) dX12_way_111 (by decide) ?_
                  refine ev_goto (tgt := 116) dX12_way_112 (by decide) ?_
                  exact ev_iret dX12_way_116 rfl rfl (by decide) (by decide) rfl
            · refine ev_aload_n dX12_way_76 rfl ?_
              refine ev_iload_n dX12_way_77 rfl ?_
              refine ev_iload_n dX12_way_78 rfl ?_
              refine ev_callP (am_callV (as := [.int p1, .int p2]) (o := p0) (st := []) cv_X12_271 dX12_way_79 kp0 rfl (am_le rfl) (am_fit (by omega) (by decide) (by decide) (by decide)) (t_X12_clearOf hl kp0)) (fun v18 h18 => ?_)
              refine ev_goto (tgt := 116) dX12_way_82 (by decide) ?_
              exact ev_iret dX12_way_116 rfl rfl (by decide) (by decide) rfl
          · refine ev_aload_n dX12_way_62 rfl ?_
            refine ev_iload_n dX12_way_63 rfl ?_
            refine ev_iload_n dX12_way_64 rfl ?_
            refine ev_callP (am_callV (as := [.int p1, .int p2]) (o := p0) (st := []) cv_X12_248 dX12_way_65 kp0 rfl (am_le rfl) (am_fit (by omega) (by decide) (by decide) (by decide)) (t_X12_farOf hl kp0)) (fun v19 h19 => ?_)
            refine ev_goto (tgt := 116) dX12_way_68 (by decide) ?_
            exact ev_iret dX12_way_116 rfl rfl (by decide) (by decide) rfl
        · refine ev_iconst (v := 0) dX12_way_56 (by decide) ?_
          exact ev_iret dX12_way_57 rfl rfl (by decide) (by decide) rfl
def f_X12_lays (S : am_S) (p0 : Nat) (p1 : Int32) (p2 : Int32) (p3 : Int32) : Option ((Nat → Nat → Int32)) :=
  ((am_rd S.2 p0 1 1).bind (fun q1 => ((am_ld S.1 q1 4).bind (fun v2 => ((am_rd S.2 p0 1 1).bind (fun q3 => ((am_st S.1 q3 (138 + (4 * v2)) p1).bind (fun σ4 => ((am_rd S.2 p0 1 1).bind (fun q5 => ((am_st σ4 q5 ((138 + (4 * v2)) + 1) p2).bind (fun σ6 => ((am_rd S.2 p0 1 1).bind (fun q7 => ((am_st σ6 q7 ((138 + (4 * v2)) + 2) p3).bind (fun σ8 => ((am_rd S.2 p0 1 1).bind (fun q9 => ((f_X12_wordOf (σ8, S.2) p0 p2 p3).bind (fun v10 => ((am_st σ8 q9 ((138 + (4 * v2)) + 3) v10).bind (fun σ11 => ((am_rd S.2 p0 1 1).bind (fun q12 => ((am_ld σ11 q12 4).bind (fun v13 => ((am_st σ11 q12 4 (v13 + 1)).bind (fun σ14 => some σ14))))))))))))))))))))))))))))
set_option maxRecDepth 20000 in
theorem t_X12_lays {E : am_E} {l : Launch} (hl : l.stackTraces = false) {S : am_S} {p0 : Nat} {p1 : Int32} {p2 : Int32} {p3 : Int32} (kp0 : am_kd p0 = 112) : am_M E l yX12_lays (.code yX12_lays cX12_lays 5 none) 2 0 0 [.ref p0, .int p1, .int p2, .int p3] S ((f_X12_lays S p0 p1 p2 p3).map (fun (x : Nat → Nat → Int32) => ((.inl none, (x, S.2)) : am_R))) := by
  refine am_M_of (w := fun (x : Nat → Nat → Int32) => ((.inl none, (x, S.2)) : am_R)) hl (by decide) (am_fc rfl (am_fc rfl (am_fc rfl (am_fc rfl am_fn)))) (Nat.le_of_ble_eq_true rfl) ?_
  show am_Ev E l (RX12, cX12_lays, 5, none, [], am_rm 2 0 0) (fun b a s x => am_Z E 0 0 b a s ((fun (x : Nat → Nat → Int32) => ((.inl none, (x, S.2)) : am_R)) x)) 0 0 0 [some (.ref p0), some (.int p1), some (.int p2), some (.int p3), none] [] S (f_X12_lays S p0 p1 p2 p3)
  unfold f_X12_lays
  refine ev_sipush (v := 138) dX12_lays_0 (by decide) ?_
  refine ev_iconst (v := 4) dX12_lays_3 (by decide) ?_
  refine ev_aload_n dX12_lays_4 rfl ?_
  refine ev_getR fk_X12_13 (by decide) dX12_lays_5 kp0 (fun q1 k1 r1 => ?_)
  refine ev_iconst (v := 4) dX12_lays_8 (by decide) ?_
  refine ev_iald dX12_lays_9 k1 (fun v2 h2 => ?_)
  refine ev_imul dX12_lays_10 ?_
  refine ev_iadd dX12_lays_11 ?_
  refine ev_istore dX12_lays_12 (am_lt rfl) ?_
  refine ev_aload_n dX12_lays_14 rfl ?_
  refine ev_getR fk_X12_13 (by decide) dX12_lays_15 kp0 (fun q3 k3 r3 => ?_)
  refine ev_iload dX12_lays_18 rfl ?_
  refine ev_iload_n dX12_lays_20 rfl ?_
  refine ev_iast dX12_lays_21 k3 (fun σ4 h4 => ?_)
  refine ev_aload_n dX12_lays_22 rfl ?_
  refine ev_getR fk_X12_13 (by decide) dX12_lays_23 kp0 (fun q5 k5 r5 => ?_)
  refine ev_iload dX12_lays_26 rfl ?_
  refine ev_iconst (v := 1) dX12_lays_28 (by decide) ?_
  refine ev_iadd dX12_lays_29 ?_
  refine ev_iload_n dX12_lays_30 rfl ?_
  refine ev_iast dX12_lays_31 k5 (fun σ6 h6 => ?_)
  refine ev_aload_n dX12_lays_32 rfl ?_
  refine ev_getR fk_X12_13 (by decide) dX12_lays_33 kp0 (fun q7 k7 r7 => ?_)
  refine ev_iload dX12_lays_36 rfl ?_
  refine ev_iconst (v := 2) dX12_lays_38 (by decide) ?_
  refine ev_iadd dX12_lays_39 ?_
  refine ev_iload_n dX12_lays_40 rfl ?_
  refine ev_iast dX12_lays_41 k7 (fun σ8 h8 => ?_)
  refine ev_aload_n dX12_lays_42 rfl ?_
  refine ev_getR fk_X12_13 (by decide) dX12_lays_43 kp0 (fun q9 k9 r9 => ?_)
  refine ev_iload dX12_lays_46 rfl ?_
  refine ev_iconst (v := 3) dX12_lays_48 (by decide) ?_
  refine ev_iadd dX12_lays_49 ?_
  refine ev_aload_n dX12_lays_50 rfl ?_
  refine ev_iload_n dX12_lays_51 rfl ?_
  refine ev_iload_n dX12_lays_52 rfl ?_
  refine ev_callP (am_callV (as := [.int p2, .int p3]) (o := p0) (st := [.int ((138 + (4 * v2)) + 3), .ref q9]) cv_X12_254 dX12_lays_53 kp0 rfl (am_le rfl) (am_fit (by omega) (by decide) (by decide) (by decide)) (t_X12_wordOf hl kp0)) (fun v10 h10 => ?_)
  refine ev_iast dX12_lays_56 k9 (fun σ11 h11 => ?_)
  refine ev_aload_n dX12_lays_57 rfl ?_
  refine ev_getR fk_X12_13 (by decide) dX12_lays_58 kp0 (fun q12 k12 r12 => ?_)
  refine ev_iconst (v := 4) dX12_lays_61 (by decide) ?_
  refine ev_dup2 dX12_lays_62 rfl rfl ?_
  refine ev_iald dX12_lays_63 k12 (fun v13 h13 => ?_)
  refine ev_iconst (v := 1) dX12_lays_64 (by decide) ?_
  refine ev_iadd dX12_lays_65 ?_
  refine ev_iast dX12_lays_66 k12 (fun σ14 h14 => ?_)
  exact ev_vret dX12_lays_67 rfl (by decide) (by decide) rfl
def f_X12_ring (S : am_S) (p0 : Nat) (p1 : Int32) (p2 : Int32) (p3 : Int32) : Option (Int32 × (Nat → Nat → Int32)) :=
  ((f_X12_noHouse ((am_u2 S.1 p0 0 0), S.2) p0 p2).bind (fun v1 => ((if v1 = 0 then ((f_X12_noWant ((am_u2 S.1 p0 0 0), S.2) p0 p3).bind (fun v3 => (if v3 = 0 then some (0 : Int32) else some (1 : Int32)))) else some (1 : Int32)).bind (fun t2 => ((f_X12_throwsIf ((am_u2 S.1 p0 0 0), S.2) p0 t2 1).bind (fun y5 => (if y5.1 = 0 then ((f_X12_in p1 0 999).bind (fun v7 => ((if v7 = 0 then some (1 : Int32) else ((f_X12_wordOf (y5.2, S.2) p0 p2 p3).bind (fun v9 => (if v9 = 0 then some (1 : Int32) else some (0 : Int32))))).bind (fun t8 => ((f_X12_throwsIf (y5.2, S.2) p0 t8 2).bind (fun y11 => (if y11.1 = 0 then ((am_rd S.2 p0 1 1).bind (fun q13 => ((am_ld y11.2 q13 4).bind (fun v14 => ((if v14 = 12 then some (1 : Int32) else some (0 : Int32)).bind (fun t15 => ((f_X12_throwsIf (y11.2, S.2) p0 t15 3).bind (fun y16 => (if y16.1 = 0 then ((f_X12_lays (y16.2, S.2) p0 p1 p2 p3).bind (fun σ18 => ((am_rd S.2 p0 1 1).bind (fun q19 => ((am_ld σ18 q19 4).bind (fun v20 => some ((v20 - 1), σ18))))))) else some (0, y16.2)))))))))) else some (0, y11.2)))))))) else some (0, y5.2))))))))
set_option maxRecDepth 20000 in
theorem t_X12_ring {E : am_E} {l : Launch} (hl : l.stackTraces = false) {S : am_S} {p0 : Nat} {p1 : Int32} {p2 : Int32} {p3 : Int32} (kp0 : am_kd p0 = 112) : am_M E l yX12_ring (.code yX12_ring cX12_ring 4 (some .int)) 3 0 0 [.ref p0, .int p1, .int p2, .int p3] S ((f_X12_ring S p0 p1 p2 p3).map (fun (x : Int32 × (Nat → Nat → Int32)) => ((.inl (some (.int x.1)), (x.2, S.2)) : am_R))) := by
  refine am_M_of (w := fun (x : Int32 × (Nat → Nat → Int32)) => ((.inl (some (.int x.1)), (x.2, S.2)) : am_R)) hl (by decide) (am_fc rfl (am_fc rfl (am_fc rfl (am_fc rfl am_fn)))) (Nat.le_of_ble_eq_true rfl) ?_
  show am_Ev E l (RX12, cX12_ring, 4, (some .int), [], am_rm 3 0 0) (fun b a s x => am_Z E 0 0 b a s ((fun (x : Int32 × (Nat → Nat → Int32)) => ((.inl (some (.int x.1)), (x.2, S.2)) : am_R)) x)) 0 0 0 [some (.ref p0), some (.int p1), some (.int p2), some (.int p3)] [] S (f_X12_ring S p0 p1 p2 p3)
  unfold f_X12_ring
  refine ev_aload_n dX12_ring_0 rfl ?_
  refine ev_iconst (v := 0) dX12_ring_1 (by decide) ?_
  refine ev_putI fk_X12_3 tyX12 tyX12_ok nmX12 rfl (by decide +kernel) (by decide) dX12_ring_2 kp0 ?_
  refine ev_aload_n dX12_ring_5 rfl ?_
  refine ev_aload_n dX12_ring_6 rfl ?_
  refine ev_iload_n dX12_ring_7 rfl ?_
  refine ev_callP (am_callV (as := [.int p2]) (o := p0) (st := [.ref p0]) cv_X12_257 dX12_ring_8 kp0 rfl (am_le rfl) (am_fit (by omega) (by decide) (by decide) (by decide)) (t_X12_noHouse hl kp0)) (fun v1 h1 => ?_)
  refine ev_reg (cs' := 0) (sl' := 0) 27 (fun t2 : Int32 => [some (.ref p0), some (.int p1), some (.int p2), some (.int p3)]) (fun t2 => [.int t2, .ref p0]) (fun t2 => ((am_u2 S.1 p0 0 0), S.2)) (fun hJ2 => ?_) (fun t2 => ?_)
  · refine ev_eq am_ib ?_
    refine ev_if_ne (tgt := 22) dX12_ring_11 (by decide) (fun c2 => ?_) (fun c2 => ?_)
    · refine ev_iconst (v := 1) dX12_ring_22 (by decide) ?_
      refine ev_goto (tgt := 27) dX12_ring_23 (by decide) ?_
      exact ev_leaf (am_wk (am_wk (am_wk (am_wk am_wn)))) (hJ2 (1 : Int32))
    · refine ev_aload_n dX12_ring_14 rfl ?_
      refine ev_iload_n dX12_ring_15 rfl ?_
      refine ev_eq (Option.bind_assoc _ _ _) ?_
      refine ev_callP (am_callV (as := [.int p3]) (o := p0) (st := [.ref p0]) cv_X12_263 dX12_ring_16 kp0 rfl (am_le rfl) (am_fit (by omega) (by decide) (by decide) (by decide)) (t_X12_noWant hl kp0)) (fun v3 h3 => ?_)
      refine ev_eq am_ib ?_
      refine ev_if_eq (tgt := 26) dX12_ring_19 (by decide) (fun c4 => ?_) (fun c4 => ?_)
      · refine ev_iconst (v := 0) dX12_ring_26 (by decide) ?_
        exact ev_leaf (am_wk (am_wk (am_wk (am_wk am_wn)))) (hJ2 (0 : Int32))
      · refine ev_iconst (v := 1) dX12_ring_22 (by decide) ?_
        refine ev_goto (tgt := 27) dX12_ring_23 (by decide) ?_
        exact ev_leaf (am_wk (am_wk (am_wk (am_wk am_wn)))) (hJ2 (1 : Int32))
  · refine ev_iconst (v := 1) dX12_ring_27 (by decide) ?_
    refine ev_callWI (am_callV (as := [.int t2, .int 1]) (o := p0) (st := []) cv_X12_242 dX12_ring_28 kp0 rfl (am_le rfl) (am_fit (by omega) (by decide) (by decide) (by decide)) (t_X12_throwsIf hl kp0)) (fun y5 h5 => ?_)
    refine ev_if_ne (tgt := 91) dX12_ring_31 (by decide) (fun c6 => ?_) (fun c6 => ?_)
    · refine ev_iconst (v := 0) dX12_ring_91 (by decide) ?_
      exact ev_iret dX12_ring_92 rfl rfl (by decide) (by decide) rfl
    · refine ev_aload_n dX12_ring_34 rfl ?_
      refine ev_iload_n dX12_ring_35 rfl ?_
      refine ev_iconst (v := 0) dX12_ring_36 (by decide) ?_
      refine ev_sipush (v := 999) dX12_ring_37 (by decide) ?_
      refine ev_callP (am_callS (as := [.int p1, .int 0, .int 999]) (st := [.ref p0]) ct_X12_78 dX12_ring_40 rfl (am_le rfl) (am_fit (by omega) (by decide) (by decide) (by decide)) (t_X12_in hl )) (fun v7 h7 => ?_)
      refine ev_reg (cs' := 0) (sl' := 0) 60 (fun t8 : Int32 => [some (.ref p0), some (.int p1), some (.int p2), some (.int p3)]) (fun t8 => [.int t8, .ref p0]) (fun t8 => (y5.2, S.2)) (fun hJ8 => ?_) (fun t8 => ?_)
      · refine ev_eq am_ib ?_
        refine ev_if_eq (tgt := 55) dX12_ring_43 (by decide) (fun c8 => ?_) (fun c8 => ?_)
        · refine ev_iconst (v := 1) dX12_ring_55 (by decide) ?_
          refine ev_goto (tgt := 60) dX12_ring_56 (by decide) ?_
          exact ev_leaf (am_wk (am_wk (am_wk (am_wk am_wn)))) (hJ8 (1 : Int32))
        · refine ev_aload_n dX12_ring_46 rfl ?_
          refine ev_iload_n dX12_ring_47 rfl ?_
          refine ev_iload_n dX12_ring_48 rfl ?_
          refine ev_eq (Option.bind_assoc _ _ _) ?_
          refine ev_callP (am_callV (as := [.int p2, .int p3]) (o := p0) (st := [.ref p0]) cv_X12_254 dX12_ring_49 kp0 rfl (am_le rfl) (am_fit (by omega) (by decide) (by decide) (by decide)) (t_X12_wordOf hl kp0)) (fun v9 h9 => ?_)
          refine ev_eq am_ib ?_
          refine ev_if_ne (tgt := 59) dX12_ring_52 (by decide) (fun c10 => ?_) (fun c10 => ?_)
          · refine ev_iconst (v := 0) dX12_ring_59 (by decide) ?_
            exact ev_leaf (am_wk (am_wk (am_wk (am_wk am_wn)))) (hJ8 (0 : Int32))
          · refine ev_iconst (v := 1) dX12_ring_55 (by decide) ?_
            refine ev_goto (tgt := 60) dX12_ring_56 (by decide) ?_
            exact ev_leaf (am_wk (am_wk (am_wk (am_wk am_wn)))) (hJ8 (1 : Int32))
      · refine ev_iconst (v := 2) dX12_ring_60 (by decide) ?_
        refine ev_callWI (am_callV (as := [.int t8, .int 2]) (o := p0) (st := []) cv_X12_242 dX12_ring_61 kp0 rfl (am_le rfl) (am_fit (by omega) (by decide) (by decide) (by decide)) (t_X12_throwsIf hl kp0)) (fun y11 h11 => ?_)
        refine ev_if_ne (tgt := 91) dX12_ring_64 (by decide) (fun c12 => ?_) (fun c12 => ?_)
        · refine ev_iconst (v := 0) dX12_ring_91 (by decide) ?_
          exact ev_iret dX12_ring_92 rfl rfl (by decide) (by decide) rfl
        · refine ev_aload_n dX12_ring_67 rfl ?_
          refine ev_aload_n dX12_ring_68 rfl ?_
          refine ev_getR fk_X12_13 (by decide) dX12_ring_69 kp0 (fun q13 k13 r13 => ?_)
          refine ev_iconst (v := 4) dX12_ring_72 (by decide) ?_
          refine ev_iald dX12_ring_73 k13 (fun v14 h14 => ?_)
          refine ev_bipush (v := 12) dX12_ring_74 (by decide) ?_
          refine ev_reg (cs' := 0) (sl' := 0) 84 (fun t15 : Int32 => [some (.ref p0), some (.int p1), some (.int p2), some (.int p3)]) (fun t15 => [.int t15, .ref p0]) (fun t15 => (y11.2, S.2)) (fun hJ15 => ?_) (fun t15 => ?_)
          · refine ev_eq am_ib ?_
            refine ev_icmp_ne (tgt := 83) dX12_ring_76 (by decide) (fun c15 => ?_) (fun c15 => ?_)
            · refine ev_iconst (v := 0) dX12_ring_83 (by decide) ?_
              exact ev_leaf (am_wk (am_wk (am_wk (am_wk am_wn)))) (hJ15 (0 : Int32))
            · refine ev_iconst (v := 1) dX12_ring_79 (by decide) ?_
              refine ev_goto (tgt := 84) dX12_ring_80 (by decide) ?_
              exact ev_leaf (am_wk (am_wk (am_wk (am_wk am_wn)))) (hJ15 (1 : Int32))
          · refine ev_iconst (v := 3) dX12_ring_84 (by decide) ?_
            refine ev_callWI (am_callV (as := [.int t15, .int 3]) (o := p0) (st := []) cv_X12_242 dX12_ring_85 kp0 rfl (am_le rfl) (am_fit (by omega) (by decide) (by decide) (by decide)) (t_X12_throwsIf hl kp0)) (fun y16 h16 => ?_)
            refine ev_if_eq (tgt := 93) dX12_ring_88 (by decide) (fun c17 => ?_) (fun c17 => ?_)
            · refine ev_aload_n dX12_ring_93 rfl ?_
              refine ev_iload_n dX12_ring_94 rfl ?_
              refine ev_iload_n dX12_ring_95 rfl ?_
              refine ev_iload_n dX12_ring_96 rfl ?_
              refine ev_callWV (am_callV (as := [.int p1, .int p2, .int p3]) (o := p0) (st := []) cv_X12_277 dX12_ring_97 kp0 rfl (am_le rfl) (am_fit (by omega) (by decide) (by decide) (by decide)) (t_X12_lays hl kp0)) (fun σ18 h18 => ?_)
              refine ev_aload_n dX12_ring_100 rfl ?_
              refine ev_getR fk_X12_13 (by decide) dX12_ring_101 kp0 (fun q19 k19 r19 => ?_)
              refine ev_iconst (v := 4) dX12_ring_104 (by decide) ?_
              refine ev_iald dX12_ring_105 k19 (fun v20 h20 => ?_)
              refine ev_iconst (v := 1) dX12_ring_106 (by decide) ?_
              refine ev_isub dX12_ring_107 ?_
              exact ev_iret dX12_ring_108 rfl rfl (by decide) (by decide) rfl
            · refine ev_iconst (v := 0) dX12_ring_91 (by decide) ?_
              exact ev_iret dX12_ring_92 rfl rfl (by decide) (by decide) rfl
def f_X12_hush (S : am_S) (p0 : Nat) : Option (Int32 × (Nat → Nat → Int32)) :=
  ((am_rd S.2 p0 1 1).bind (fun q1 => ((am_ld (am_u2 S.1 p0 0 0) q1 4).bind (fun v2 => ((am_rd S.2 p0 1 1).bind (fun q3 => ((am_st (am_u2 S.1 p0 0 0) q3 4 0).bind (fun σ4 => some (v2, σ4)))))))))
set_option maxRecDepth 20000 in
theorem t_X12_hush {E : am_E} {l : Launch} (hl : l.stackTraces = false) {S : am_S} {p0 : Nat} (kp0 : am_kd p0 = 112) : am_M E l yX12_hush (.code yX12_hush cX12_hush 2 (some .int)) 0 0 0 [.ref p0] S ((f_X12_hush S p0).map (fun (x : Int32 × (Nat → Nat → Int32)) => ((.inl (some (.int x.1)), (x.2, S.2)) : am_R))) := by
  refine am_M_of (w := fun (x : Int32 × (Nat → Nat → Int32)) => ((.inl (some (.int x.1)), (x.2, S.2)) : am_R)) hl (by decide) (am_fc rfl am_fn) (Nat.le_of_ble_eq_true rfl) ?_
  show am_Ev E l (RX12, cX12_hush, 2, (some .int), [], am_rm 0 0 0) (fun b a s x => am_Z E 0 0 b a s ((fun (x : Int32 × (Nat → Nat → Int32)) => ((.inl (some (.int x.1)), (x.2, S.2)) : am_R)) x)) 0 0 0 [some (.ref p0), none] [] S (f_X12_hush S p0)
  unfold f_X12_hush
  refine ev_aload_n dX12_hush_0 rfl ?_
  refine ev_iconst (v := 0) dX12_hush_1 (by decide) ?_
  refine ev_putI fk_X12_3 tyX12 tyX12_ok nmX12 rfl (by decide +kernel) (by decide) dX12_hush_2 kp0 ?_
  refine ev_aload_n dX12_hush_5 rfl ?_
  refine ev_getR fk_X12_13 (by decide) dX12_hush_6 kp0 (fun q1 k1 r1 => ?_)
  refine ev_iconst (v := 4) dX12_hush_9 (by decide) ?_
  refine ev_iald dX12_hush_10 k1 (fun v2 h2 => ?_)
  refine ev_istore_n dX12_hush_11 (am_lt rfl) ?_
  refine ev_aload_n dX12_hush_12 rfl ?_
  refine ev_getR fk_X12_13 (by decide) dX12_hush_13 kp0 (fun q3 k3 r3 => ?_)
  refine ev_iconst (v := 4) dX12_hush_16 (by decide) ?_
  refine ev_iconst (v := 0) dX12_hush_17 (by decide) ?_
  refine ev_iast dX12_hush_18 k3 (fun σ4 h4 => ?_)
  refine ev_iload_n dX12_hush_19 rfl ?_
  exact ev_iret dX12_hush_20 rfl rfl (by decide) (by decide) rfl
def f_X12_undo (S : am_S) (p0 : Nat) : Option (Int32 × (Nat → Nat → Int32)) :=
  ((am_rd S.2 p0 1 1).bind (fun q1 => ((am_ld (am_u2 S.1 p0 0 0) q1 4).bind (fun v2 => (if v2 = 0 then some ((-1), (am_u2 S.1 p0 0 0)) else ((am_rd S.2 p0 1 1).bind (fun q4 => ((am_ld (am_u2 S.1 p0 0 0) q4 4).bind (fun v5 => ((am_st (am_u2 S.1 p0 0 0) q4 4 (v5 - 1)).bind (fun σ6 => ((am_rd S.2 p0 1 1).bind (fun q7 => ((am_ld σ6 q7 4).bind (fun v8 => some (v8, σ6))))))))))))))))
set_option maxRecDepth 20000 in
theorem t_X12_undo {E : am_E} {l : Launch} (hl : l.stackTraces = false) {S : am_S} {p0 : Nat} (kp0 : am_kd p0 = 112) : am_M E l yX12_undo (.code yX12_undo cX12_undo 1 (some .int)) 0 0 0 [.ref p0] S ((f_X12_undo S p0).map (fun (x : Int32 × (Nat → Nat → Int32)) => ((.inl (some (.int x.1)), (x.2, S.2)) : am_R))) := by
  refine am_M_of (w := fun (x : Int32 × (Nat → Nat → Int32)) => ((.inl (some (.int x.1)), (x.2, S.2)) : am_R)) hl (by decide) (am_fc rfl am_fn) (Nat.le_of_ble_eq_true rfl) ?_
  show am_Ev E l (RX12, cX12_undo, 1, (some .int), [], am_rm 0 0 0) (fun b a s x => am_Z E 0 0 b a s ((fun (x : Int32 × (Nat → Nat → Int32)) => ((.inl (some (.int x.1)), (x.2, S.2)) : am_R)) x)) 0 0 0 [some (.ref p0)] [] S (f_X12_undo S p0)
  unfold f_X12_undo
  refine ev_aload_n dX12_undo_0 rfl ?_
  refine ev_iconst (v := 0) dX12_undo_1 (by decide) ?_
  refine ev_putI fk_X12_3 tyX12 tyX12_ok nmX12 rfl (by decide +kernel) (by decide) dX12_undo_2 kp0 ?_
  refine ev_aload_n dX12_undo_5 rfl ?_
  refine ev_getR fk_X12_13 (by decide) dX12_undo_6 kp0 (fun q1 k1 r1 => ?_)
  refine ev_iconst (v := 4) dX12_undo_9 (by decide) ?_
  refine ev_iald dX12_undo_10 k1 (fun v2 h2 => ?_)
  refine ev_if_ne (tgt := 16) dX12_undo_11 (by decide) (fun c3 => ?_) (fun c3 => ?_)
  · refine ev_aload_n dX12_undo_16 rfl ?_
    refine ev_getR fk_X12_13 (by decide) dX12_undo_17 kp0 (fun q4 k4 r4 => ?_)
    refine ev_iconst (v := 4) dX12_undo_20 (by decide) ?_
    refine ev_dup2 dX12_undo_21 rfl rfl ?_
    refine ev_iald dX12_undo_22 k4 (fun v5 h5 => ?_)
    refine ev_iconst (v := 1) dX12_undo_23 (by decide) ?_
    refine ev_isub dX12_undo_24 ?_
    refine ev_iast dX12_undo_25 k4 (fun σ6 h6 => ?_)
    refine ev_aload_n dX12_undo_26 rfl ?_
    refine ev_getR fk_X12_13 (by decide) dX12_undo_27 kp0 (fun q7 k7 r7 => ?_)
    refine ev_iconst (v := 4) dX12_undo_30 (by decide) ?_
    refine ev_iald dX12_undo_31 k7 (fun v8 h8 => ?_)
    exact ev_iret dX12_undo_32 rfl rfl (by decide) (by decide) rfl
  · refine ev_iconst (v := (-1)) dX12_undo_14 (by decide) ?_
    exact ev_iret dX12_undo_15 rfl rfl (by decide) (by decide) rfl
def f_X12_soundsOf (S : am_S) (p0 : Nat) (p1 : Int32) (p2 : Int32) : Option (Int32) :=
  ((f_X12_ofRing S p0 p1 3).bind (fun v1 => ((f_X12_ofRing S p0 p1 1).bind (fun v2 => ((f_X12_clearOf S p0 p2 v2).bind (fun v3 => ((f_X12_cut v1 v3).bind (fun v4 => ((f_X12_costOf v4).bind (fun v5 => some v5))))))))))
set_option maxRecDepth 20000 in
theorem t_X12_soundsOf {E : am_E} {l : Launch} (hl : l.stackTraces = false) {S : am_S} {p0 : Nat} {p1 : Int32} {p2 : Int32} (kp0 : am_kd p0 = 112) : am_M E l yX12_soundsOf (.code yX12_soundsOf cX12_soundsOf 3 (some .int)) 4 0 0 [.ref p0, .int p1, .int p2] S ((f_X12_soundsOf S p0 p1 p2).map (fun (v : Int32) => ((.inl (some (.int v)), S) : am_R))) := by
  refine am_M_of (w := fun (v : Int32) => ((.inl (some (.int v)), S) : am_R)) hl (by decide) (am_fc rfl (am_fc rfl (am_fc rfl am_fn))) (Nat.le_of_ble_eq_true rfl) ?_
  show am_Ev E l (RX12, cX12_soundsOf, 3, (some .int), [], am_rm 4 0 0) (fun b a s x => am_Z E 0 0 b a s ((fun (v : Int32) => ((.inl (some (.int v)), S) : am_R)) x)) 0 0 0 [some (.ref p0), some (.int p1), some (.int p2)] [] S (f_X12_soundsOf S p0 p1 p2)
  unfold f_X12_soundsOf
  refine ev_aload_n dX12_soundsOf_0 rfl ?_
  refine ev_iload_n dX12_soundsOf_1 rfl ?_
  refine ev_iconst (v := 3) dX12_soundsOf_2 (by decide) ?_
  refine ev_callP (am_callV (as := [.int p1, .int 3]) (o := p0) (st := []) cv_X12_280 dX12_soundsOf_3 kp0 rfl (am_le rfl) (am_fit (by omega) (by decide) (by decide) (by decide)) (t_X12_ofRing hl kp0)) (fun v1 h1 => ?_)
  refine ev_aload_n dX12_soundsOf_6 rfl ?_
  refine ev_iload_n dX12_soundsOf_7 rfl ?_
  refine ev_aload_n dX12_soundsOf_8 rfl ?_
  refine ev_iload_n dX12_soundsOf_9 rfl ?_
  refine ev_iconst (v := 1) dX12_soundsOf_10 (by decide) ?_
  refine ev_callP (am_callV (as := [.int p1, .int 1]) (o := p0) (st := [.int p2, .ref p0, .int v1]) cv_X12_280 dX12_soundsOf_11 kp0 rfl (am_le rfl) (am_fit (by omega) (by decide) (by decide) (by decide)) (t_X12_ofRing hl kp0)) (fun v2 h2 => ?_)
  refine ev_callP (am_callV (as := [.int p2, .int v2]) (o := p0) (st := [.int v1]) cv_X12_271 dX12_soundsOf_14 kp0 rfl (am_le rfl) (am_fit (by omega) (by decide) (by decide) (by decide)) (t_X12_clearOf hl kp0)) (fun v3 h3 => ?_)
  refine ev_callP (am_callS (as := [.int v1, .int v3]) (st := []) ct_X12_99 dX12_soundsOf_17 rfl (am_le rfl) (am_fit (by omega) (by decide) (by decide) (by decide)) (t_X12_cut hl )) (fun v4 h4 => ?_)
  refine ev_callP (am_callS (as := [.int v4]) (st := []) ct_X12_268 dX12_soundsOf_20 rfl (am_le rfl) (am_fit (by omega) (by decide) (by decide) (by decide)) (t_X12_costOf hl )) (fun v5 h5 => ?_)
  exact ev_iret dX12_soundsOf_23 rfl rfl (by decide) (by decide) rfl
def f_X12_isMixed_b6 (S : am_S) (a0 : Nat) (a1 : Int32) (a2 : Int32) (a3 : Int32) (a4 : Int32) (x1 : Int32 × Int32) : Option ((Int32 × Int32) ⊕ (Int32)) :=
  ((am_rd S.2 a0 1 1).bind (fun q2 => ((am_ld S.1 q2 4).bind (fun v3 => (if x1.2 < v3 then ((if x1.1 = 0 then (if x1.2 = a1 then some (0 : Int32) else ((f_X12_ofRing S a0 x1.2 1).bind (fun v7 => ((f_X12_isHearing S a0 a2 v7).bind (fun v8 => (if v8 = 0 then some (0 : Int32) else ((f_X12_ofRing S a0 x1.2 0).bind (fun v10 => (if v10 < (a3 + a4) then ((f_X12_ofRing S a0 x1.2 0).bind (fun v12 => ((f_X12_soundsOf S a0 x1.2 a2).bind (fun v13 => (if a3 < (v12 + v13) then some (1 : Int32) else some (0 : Int32)))))) else some (0 : Int32)))))))))) else some (1 : Int32)).bind (fun t5 => some (.inl (t5, (x1.2 + 1))))) else some (.inr x1.1))))))
def f_X12_isMixed (S : am_S) (p0 : Nat) (p1 : Int32) (p2 : Int32) (p3 : Int32) (p4 : Int32) : Option (Int32) :=
  ((am_loop (f_X12_isMixed_b6 S p0 p1 p2 p3 p4) am_fuel (0, 0)).bind (fun t1 => (if t1 = 0 ∨ t1 = 1 then some t1 else none)))
set_option maxRecDepth 20000 in
theorem t_X12_isMixed {E : am_E} {l : Launch} (hl : l.stackTraces = false) {S : am_S} {p0 : Nat} {p1 : Int32} {p2 : Int32} {p3 : Int32} {p4 : Int32} (kp0 : am_kd p0 = 112) : am_M E l yX12_isMixed (.code yX12_isMixed cX12_isMixed 7 (some .boolean)) 5 0 0 [.ref p0, .int p1, .int p2, .int p3, .int p4] S ((f_X12_isMixed S p0 p1 p2 p3 p4).map (fun (v : Int32) => ((.inl (some (.int v)), S) : am_R))) := by
  refine am_M_of (w := fun (v : Int32) => ((.inl (some (.int v)), S) : am_R)) hl (by decide) (am_fc rfl (am_fc rfl (am_fc rfl (am_fc rfl (am_fc rfl am_fn))))) (Nat.le_of_ble_eq_true rfl) ?_
  show am_Ev E l (RX12, cX12_isMixed, 7, (some .boolean), [], am_rm 5 0 0) (fun b a s x => am_Z E 0 0 b a s ((fun (v : Int32) => ((.inl (some (.int v)), S) : am_R)) x)) 0 0 0 [some (.ref p0), some (.int p1), some (.int p2), some (.int p3), some (.int p4), none, none] [] S (f_X12_isMixed S p0 p1 p2 p3 p4)
  unfold f_X12_isMixed
  refine ev_iconst (v := 0) dX12_isMixed_0 (by decide) ?_
  refine ev_istore dX12_isMixed_1 (am_lt rfl) ?_
  refine ev_iconst (v := 0) dX12_isMixed_3 (by decide) ?_
  refine ev_istore dX12_isMixed_4 (am_lt rfl) ?_
  refine ev_weak (am_wk (am_wk (am_wk (am_wk (am_wk (am_wk (am_wk am_wn))))))) (ev_loop 6 89 (fun x1 : Int32 × Int32 => [some (.ref p0), some (.int p1), some (.int p2), some (.int p3), some (.int p4), some (.int x1.1), some (.int x1.2)]) (fun t1 : Int32 => [none, none, none, none, none, some (.int t1), none]) (fun x1 => S) (fun t1 => S) (fun x1 G1 hB1 hE1 => ?_) (fun t1 => ?_) am_fuel (0, 0))
  · unfold f_X12_isMixed_b6
    refine ev_iload dX12_isMixed_6 rfl ?_
    refine ev_aload_n dX12_isMixed_8 rfl ?_
    refine ev_eq (Option.bind_assoc _ _ _) ?_
    refine ev_getR fk_X12_13 (by decide) dX12_isMixed_9 kp0 (fun q15 k15 r15 => ?_)
    refine ev_iconst (v := 4) dX12_isMixed_12 (by decide) ?_
    refine ev_eq (Option.bind_assoc _ _ _) ?_
    refine ev_iald dX12_isMixed_13 k15 (fun v16 h16 => ?_)
    refine ev_eq am_ib ?_
    refine ev_icmp_ge (tgt := 89) dX12_isMixed_14 (by decide) (fun c17 => ?_) (fun c17 => ?_)
    · exact ev_leaf (am_wf (am_wf (am_wf (am_wf (am_wf (am_wk (am_wf am_wn))))))) (hE1 x1.1)
    · refine ev_iload dX12_isMixed_17 rfl ?_
      refine ev_eq (Option.bind_assoc _ _ _) ?_
      refine ev_reg (cs' := 0) (sl' := 0) 81 (fun t18 : Int32 => [some (.ref p0), some (.int p1), some (.int p2), some (.int p3), some (.int p4), none, some (.int x1.2)]) (fun t18 => [.int t18]) (fun t18 => S) (fun hJ18 => ?_) (fun t18 => ?_)
      · refine ev_eq am_ib ?_
        refine ev_if_ne (tgt := 76) dX12_isMixed_19 (by decide) (fun c18 => ?_) (fun c18 => ?_)
        · refine ev_iconst (v := 1) dX12_isMixed_76 (by decide) ?_
          refine ev_goto (tgt := 81) dX12_isMixed_77 (by decide) ?_
          exact ev_leaf (am_wk (am_wk (am_wk (am_wk (am_wk (am_wf (am_wk am_wn))))))) (hJ18 (1 : Int32))
        · refine ev_iload dX12_isMixed_22 rfl ?_
          refine ev_iload_n dX12_isMixed_24 rfl ?_
          refine ev_eq am_ib ?_
          refine ev_icmp_eq (tgt := 80) dX12_isMixed_25 (by decide) (fun c19 => ?_) (fun c19 => ?_)
          · refine ev_iconst (v := 0) dX12_isMixed_80 (by decide) ?_
            exact ev_leaf (am_wk (am_wk (am_wk (am_wk (am_wk (am_wf (am_wk am_wn))))))) (hJ18 (0 : Int32))
          · refine ev_aload_n dX12_isMixed_28 rfl ?_
            refine ev_iload_n dX12_isMixed_29 rfl ?_
            refine ev_aload_n dX12_isMixed_30 rfl ?_
            refine ev_iload dX12_isMixed_31 rfl ?_
            refine ev_iconst (v := 1) dX12_isMixed_33 (by decide) ?_
            refine ev_eq (Option.bind_assoc _ _ _) ?_
            refine ev_callP (am_callV (as := [.int x1.2, .int 1]) (o := p0) (st := [.int p2, .ref p0]) cv_X12_280 dX12_isMixed_34 kp0 rfl (am_le rfl) (am_fit (by omega) (by decide) (by decide) (by decide)) (t_X12_ofRing hl kp0)) (fun v20 h20 => ?_)
            refine ev_eq (Option.bind_assoc _ _ _) ?_
            refine ev_callP (am_callV (as := [.int p2, .int v20]) (o := p0) (st := []) cv_X12_251 dX12_isMixed_37 kp0 rfl (am_le rfl) (am_fit (by omega) (by decide) (by decide) (by decide)) (t_X12_isHearing hl kp0)) (fun v21 h21 => ?_)
            refine ev_eq am_ib ?_
            refine ev_if_eq (tgt := 80) dX12_isMixed_40 (by decide) (fun c22 => ?_) (fun c22 => ?_)
            · refine ev_iconst (v := 0) dX12_isMixed_80 (by decide) ?_
              exact ev_leaf (am_wk (am_wk (am_wk (am_wk (am_wk (am_wf (am_wk am_wn))))))) (hJ18 (0 : Int32))
            · refine ev_aload_n dX12_isMixed_43 rfl ?_
              refine ev_iload dX12_isMixed_44 rfl ?_
              refine ev_iconst (v := 0) dX12_isMixed_46 (by decide) ?_
              refine ev_eq (Option.bind_assoc _ _ _) ?_
              refine ev_callP (am_callV (as := [.int x1.2, .int 0]) (o := p0) (st := []) cv_X12_280 dX12_isMixed_47 kp0 rfl (am_le rfl) (am_fit (by omega) (by decide) (by decide) (by decide)) (t_X12_ofRing hl kp0)) (fun v23 h23 => ?_)
              refine ev_iload_n dX12_isMixed_50 rfl ?_
              refine ev_iload dX12_isMixed_51 rfl ?_
              refine ev_iadd dX12_isMixed_53 ?_
              refine ev_eq am_ib ?_
              refine ev_icmp_ge (tgt := 80) dX12_isMixed_54 (by decide) (fun c24 => ?_) (fun c24 => ?_)
              · refine ev_iconst (v := 0) dX12_isMixed_80 (by decide) ?_
                exact ev_leaf (am_wk (am_wk (am_wk (am_wk (am_wk (am_wf (am_wk am_wn))))))) (hJ18 (0 : Int32))
              · refine ev_iload_n dX12_isMixed_57 rfl ?_
                refine ev_aload_n dX12_isMixed_58 rfl ?_
                refine ev_iload dX12_isMixed_59 rfl ?_
                refine ev_iconst (v := 0) dX12_isMixed_61 (by decide) ?_
                refine ev_eq (Option.bind_assoc _ _ _) ?_
                refine ev_callP (am_callV (as := [.int x1.2, .int 0]) (o := p0) (st := [.int p3]) cv_X12_280 dX12_isMixed_62 kp0 rfl (am_le rfl) (am_fit (by omega) (by decide) (by decide) (by decide)) (t_X12_ofRing hl kp0)) (fun v25 h25 => ?_)
                refine ev_aload_n dX12_isMixed_65 rfl ?_
                refine ev_iload dX12_isMixed_66 rfl ?_
                refine ev_iload_n dX12_isMixed_68 rfl ?_
                refine ev_eq (Option.bind_assoc _ _ _) ?_
                refine ev_callP (am_callV (as := [.int x1.2, .int p2]) (o := p0) (st := [.int v25, .int p3]) cv_X12_283 dX12_isMixed_69 kp0 rfl (am_le rfl) (am_fit (by omega) (by decide) (by decide) (by decide)) (t_X12_soundsOf hl kp0)) (fun v26 h26 => ?_)
                refine ev_iadd dX12_isMixed_72 ?_
                refine ev_eq am_ib ?_
                refine ev_icmp_ge (tgt := 80) dX12_isMixed_73 (by decide) (fun c27 => ?_) (fun c27 => ?_)
                · refine ev_iconst (v := 0) dX12_isMixed_80 (by decide) ?_
                  exact ev_leaf (am_wk (am_wk (am_wk (am_wk (am_wk (am_wf (am_wk am_wn))))))) (hJ18 (0 : Int32))
                · refine ev_iconst (v := 1) dX12_isMixed_76 (by decide) ?_
                  refine ev_goto (tgt := 81) dX12_isMixed_77 (by decide) ?_
                  exact ev_leaf (am_wk (am_wk (am_wk (am_wk (am_wk (am_wf (am_wk am_wn))))))) (hJ18 (1 : Int32))
      · refine ev_istore dX12_isMixed_81 (am_lt rfl) ?_
        refine ev_iinc (v := (x1.2 + 1)) dX12_isMixed_83 (am_lt rfl) rfl rfl ?_
        refine ev_goto (tgt := 6) dX12_isMixed_86 (by decide) ?_
        exact ev_leaf (am_wk (am_wk (am_wk (am_wk (am_wk (am_wk (am_wk am_wn))))))) (hB1 (t18, (x1.2 + 1)))
  · refine ev_iload dX12_isMixed_89 rfl ?_
    refine ev_split (fun c28 => ?_) (fun _ => ?_)
    · exact ev_iret dX12_isMixed_91 rfl (am_nb c28) (by decide) (by decide) rfl
    · exact ev_none
def f_X12_heardBy_b56 (S : am_S) (a0 : Nat) (a1 : Int32) (a2 : Int32) (a3 : Int32) (x10 : Int32 × Int32 × Int32) : Option ((Int32 × Int32 × Int32) ⊕ ((Unit) ⊕ (Int32))) :=
  (if x10.2.2 < 0 then some (.inr (.inr x10.2.1)) else ((f_X12_isMixed S a0 a1 a2 x10.1 (1 + ((a3 >>> (x10.2.2 &&& 31)) &&& 1))).bind (fun v12 => (if v12 = 0 then some (.inl ((x10.1 + (1 + ((a3 >>> (x10.2.2 &&& 31)) &&& 1))), ((2 * x10.2.1) + ((a3 >>> (x10.2.2 &&& 31)) &&& 1)), (x10.2.2 + (-1)))) else some (.inr (.inr x10.2.1))))))
def f_X12_heardBy (S : am_S) (p0 : Nat) (p1 : Int32) (p2 : Int32) : Option (Int32) :=
  ((f_X12_ofRing S p0 p1 1).bind (fun v1 => ((f_X12_isHearing S p0 p2 v1).bind (fun v2 => (if v2 = 0 then some 0 else ((f_X12_ofRing S p0 p1 3).bind (fun v4 => ((f_X12_ofRing S p0 p1 1).bind (fun v5 => ((f_X12_clearOf S p0 p2 v5).bind (fun v6 => ((f_X12_cut v4 v6).bind (fun v7 => ((f_X12_ofRing S p0 p1 0).bind (fun v8 => ((f_X12_lengthOf v7).bind (fun v9 => ((am_loop (f_X12_heardBy_b56 S p0 p1 p2 v7) am_fuel (v8, 1, (v9 - 1))).bind (fun r10 => match r10 with | .inl t10 => none | .inr b10 => some b10)))))))))))))))))))
set_option maxRecDepth 20000 in
theorem t_X12_heardBy {E : am_E} {l : Launch} (hl : l.stackTraces = false) {S : am_S} {p0 : Nat} {p1 : Int32} {p2 : Int32} (kp0 : am_kd p0 = 112) : am_M E l yX12_heardBy (.code yX12_heardBy cX12_heardBy 8 (some .int)) 6 0 0 [.ref p0, .int p1, .int p2] S ((f_X12_heardBy S p0 p1 p2).map (fun (v : Int32) => ((.inl (some (.int v)), S) : am_R))) := by
  refine am_M_of (w := fun (v : Int32) => ((.inl (some (.int v)), S) : am_R)) hl (by decide) (am_fc rfl (am_fc rfl (am_fc rfl am_fn))) (Nat.le_of_ble_eq_true rfl) ?_
  show am_Ev E l (RX12, cX12_heardBy, 8, (some .int), [], am_rm 6 0 0) (fun b a s x => am_Z E 0 0 b a s ((fun (v : Int32) => ((.inl (some (.int v)), S) : am_R)) x)) 0 0 0 [some (.ref p0), some (.int p1), some (.int p2), none, none, none, none, none] [] S (f_X12_heardBy S p0 p1 p2)
  unfold f_X12_heardBy
  refine ev_aload_n dX12_heardBy_0 rfl ?_
  refine ev_iload_n dX12_heardBy_1 rfl ?_
  refine ev_aload_n dX12_heardBy_2 rfl ?_
  refine ev_iload_n dX12_heardBy_3 rfl ?_
  refine ev_iconst (v := 1) dX12_heardBy_4 (by decide) ?_
  refine ev_callP (am_callV (as := [.int p1, .int 1]) (o := p0) (st := [.int p2, .ref p0]) cv_X12_280 dX12_heardBy_5 kp0 rfl (am_le rfl) (am_fit (by omega) (by decide) (by decide) (by decide)) (t_X12_ofRing hl kp0)) (fun v1 h1 => ?_)
  refine ev_callP (am_callV (as := [.int p2, .int v1]) (o := p0) (st := []) cv_X12_251 dX12_heardBy_8 kp0 rfl (am_le rfl) (am_fit (by omega) (by decide) (by decide) (by decide)) (t_X12_isHearing hl kp0)) (fun v2 h2 => ?_)
  refine ev_if_ne (tgt := 16) dX12_heardBy_11 (by decide) (fun c3 => ?_) (fun c3 => ?_)
  · refine ev_aload_n dX12_heardBy_16 rfl ?_
    refine ev_iload_n dX12_heardBy_17 rfl ?_
    refine ev_iconst (v := 3) dX12_heardBy_18 (by decide) ?_
    refine ev_callP (am_callV (as := [.int p1, .int 3]) (o := p0) (st := []) cv_X12_280 dX12_heardBy_19 kp0 rfl (am_le rfl) (am_fit (by omega) (by decide) (by decide) (by decide)) (t_X12_ofRing hl kp0)) (fun v4 h4 => ?_)
    refine ev_aload_n dX12_heardBy_22 rfl ?_
    refine ev_iload_n dX12_heardBy_23 rfl ?_
    refine ev_aload_n dX12_heardBy_24 rfl ?_
    refine ev_iload_n dX12_heardBy_25 rfl ?_
    refine ev_iconst (v := 1) dX12_heardBy_26 (by decide) ?_
    refine ev_callP (am_callV (as := [.int p1, .int 1]) (o := p0) (st := [.int p2, .ref p0, .int v4]) cv_X12_280 dX12_heardBy_27 kp0 rfl (am_le rfl) (am_fit (by omega) (by decide) (by decide) (by decide)) (t_X12_ofRing hl kp0)) (fun v5 h5 => ?_)
    refine ev_callP (am_callV (as := [.int p2, .int v5]) (o := p0) (st := [.int v4]) cv_X12_271 dX12_heardBy_30 kp0 rfl (am_le rfl) (am_fit (by omega) (by decide) (by decide) (by decide)) (t_X12_clearOf hl kp0)) (fun v6 h6 => ?_)
    refine ev_callP (am_callS (as := [.int v4, .int v6]) (st := []) ct_X12_99 dX12_heardBy_33 rfl (am_le rfl) (am_fit (by omega) (by decide) (by decide) (by decide)) (t_X12_cut hl )) (fun v7 h7 => ?_)
    refine ev_istore_n dX12_heardBy_36 (am_lt rfl) ?_
    refine ev_aload_n dX12_heardBy_37 rfl ?_
    refine ev_iload_n dX12_heardBy_38 rfl ?_
    refine ev_iconst (v := 0) dX12_heardBy_39 (by decide) ?_
    refine ev_callP (am_callV (as := [.int p1, .int 0]) (o := p0) (st := []) cv_X12_280 dX12_heardBy_40 kp0 rfl (am_le rfl) (am_fit (by omega) (by decide) (by decide) (by decide)) (t_X12_ofRing hl kp0)) (fun v8 h8 => ?_)
    refine ev_istore dX12_heardBy_43 (am_lt rfl) ?_
    refine ev_iconst (v := 1) dX12_heardBy_45 (by decide) ?_
    refine ev_istore dX12_heardBy_46 (am_lt rfl) ?_
    refine ev_iload_n dX12_heardBy_48 rfl ?_
    refine ev_callP (am_callS (as := [.int v7]) (st := []) ct_X12_85 dX12_heardBy_49 rfl (am_le rfl) (am_fit (by omega) (by decide) (by decide) (by decide)) (t_X12_lengthOf hl )) (fun v9 h9 => ?_)
    refine ev_iconst (v := 1) dX12_heardBy_52 (by decide) ?_
    refine ev_isub dX12_heardBy_53 ?_
    refine ev_istore dX12_heardBy_54 (am_lt rfl) ?_
    refine ev_weak (am_wk (am_wk (am_wk (am_wk (am_wk (am_wk (am_wk (am_wf am_wn)))))))) (ev_loopR 56 0 (fun x10 : Int32 × Int32 × Int32 => [some (.ref p0), some (.int p1), some (.int p2), some (.int v7), some (.int x10.1), some (.int x10.2.1), some (.int x10.2.2), none]) (fun t10 : Unit => [none, none, none, none, none, none, none, none]) (fun x10 => S) (fun t10 => S) (fun x10 G10 hB10 hE10 hG10 => ?_) (fun t10 => ?_) am_fuel (v8, 1, (v9 - 1)))
    · unfold f_X12_heardBy_b56
      refine ev_iload dX12_heardBy_56 rfl ?_
      refine ev_eq am_ib ?_
      refine ev_if_lt (tgt := 111) dX12_heardBy_58 (by decide) (fun c14 => ?_) (fun c14 => ?_)
      · refine ev_iload dX12_heardBy_111 rfl ?_
        exact ev_eq (hG10 _) (ev_iret dX12_heardBy_113 rfl rfl (by decide) (by decide) rfl)
      · refine ev_iload_n dX12_heardBy_61 rfl ?_
        refine ev_iload dX12_heardBy_62 rfl ?_
        refine ev_ishr dX12_heardBy_64 ?_
        refine ev_iconst (v := 1) dX12_heardBy_65 (by decide) ?_
        refine ev_iand dX12_heardBy_66 ?_
        refine ev_istore dX12_heardBy_67 (am_lt rfl) ?_
        refine ev_aload_n dX12_heardBy_69 rfl ?_
        refine ev_iload_n dX12_heardBy_70 rfl ?_
        refine ev_iload_n dX12_heardBy_71 rfl ?_
        refine ev_iload dX12_heardBy_72 rfl ?_
        refine ev_iconst (v := 1) dX12_heardBy_74 (by decide) ?_
        refine ev_iload dX12_heardBy_75 rfl ?_
        refine ev_iadd dX12_heardBy_77 ?_
        refine ev_eq (Option.bind_assoc _ _ _) ?_
        refine ev_callP (am_callV (as := [.int p1, .int p2, .int x10.1, .int (1 + ((v7 >>> (x10.2.2 &&& 31)) &&& 1))]) (o := p0) (st := []) cv_X12_286 dX12_heardBy_78 kp0 rfl (am_le rfl) (am_fit (by omega) (by decide) (by decide) (by decide)) (t_X12_isMixed hl kp0)) (fun v15 h15 => ?_)
        refine ev_eq am_ib ?_
        refine ev_if_eq (tgt := 87) dX12_heardBy_81 (by decide) (fun c16 => ?_) (fun c16 => ?_)
        · refine ev_iconst (v := 2) dX12_heardBy_87 (by decide) ?_
          refine ev_iload dX12_heardBy_88 rfl ?_
          refine ev_imul dX12_heardBy_90 ?_
          refine ev_iload dX12_heardBy_91 rfl ?_
          refine ev_iadd dX12_heardBy_93 ?_
          refine ev_istore dX12_heardBy_94 (am_lt rfl) ?_
          refine ev_iload dX12_heardBy_96 rfl ?_
          refine ev_iconst (v := 1) dX12_heardBy_98 (by decide) ?_
          refine ev_iload dX12_heardBy_99 rfl ?_
          refine ev_iadd dX12_heardBy_101 ?_
          refine ev_iadd dX12_heardBy_102 ?_
          refine ev_istore dX12_heardBy_103 (am_lt rfl) ?_
          refine ev_iinc (v := (x10.2.2 + (-1))) dX12_heardBy_105 (am_lt rfl) rfl rfl ?_
          refine ev_goto (tgt := 56) dX12_heardBy_108 (by decide) ?_
          exact ev_leaf (am_wk (am_wk (am_wk (am_wk (am_wk (am_wk (am_wk (am_wf am_wn)))))))) (hB10 ((x10.1 + (1 + ((v7 >>> (x10.2.2 &&& 31)) &&& 1))), ((2 * x10.2.1) + ((v7 >>> (x10.2.2 &&& 31)) &&& 1)), (x10.2.2 + (-1))))
        · refine ev_iload dX12_heardBy_84 rfl ?_
          exact ev_eq (hG10 _) (ev_iret dX12_heardBy_86 rfl rfl (by decide) (by decide) rfl)
    · exact ev_none
  · refine ev_iconst (v := 0) dX12_heardBy_14 (by decide) ?_
    exact ev_iret dX12_heardBy_15 rfl rfl (by decide) (by decide) rfl
def f_X12_wantOf_b2 (S : am_S) (a0 : Nat) (a1 : Int32) (a2 : Int32) (x1 : Int32) : Option ((Int32) ⊕ ((Unit) ⊕ (Int32))) :=
  ((f_X12_wants S a0).bind (fun v2 => (if x1 < v2 then (if 1 < a2 then ((f_X12_wordOf S a0 a1 x1).bind (fun v5 => (if v5 = a2 then some (.inr (.inr x1)) else some (.inl (x1 + 1))))) else some (.inl (x1 + 1))) else some (.inr (.inr (-1))))))
def f_X12_wantOf (S : am_S) (p0 : Nat) (p1 : Int32) (p2 : Int32) : Option (Int32) :=
  ((am_loop (f_X12_wantOf_b2 S p0 p1 p2) am_fuel 0).bind (fun r1 => match r1 with | .inl t1 => none | .inr b1 => some b1))
set_option maxRecDepth 20000 in
theorem t_X12_wantOf {E : am_E} {l : Launch} (hl : l.stackTraces = false) {S : am_S} {p0 : Nat} {p1 : Int32} {p2 : Int32} (kp0 : am_kd p0 = 112) : am_M E l yX12_wantOf (.code yX12_wantOf cX12_wantOf 4 (some .int)) 2 0 0 [.ref p0, .int p1, .int p2] S ((f_X12_wantOf S p0 p1 p2).map (fun (v : Int32) => ((.inl (some (.int v)), S) : am_R))) := by
  refine am_M_of (w := fun (v : Int32) => ((.inl (some (.int v)), S) : am_R)) hl (by decide) (am_fc rfl (am_fc rfl (am_fc rfl am_fn))) (Nat.le_of_ble_eq_true rfl) ?_
  show am_Ev E l (RX12, cX12_wantOf, 4, (some .int), [], am_rm 2 0 0) (fun b a s x => am_Z E 0 0 b a s ((fun (v : Int32) => ((.inl (some (.int v)), S) : am_R)) x)) 0 0 0 [some (.ref p0), some (.int p1), some (.int p2), none] [] S (f_X12_wantOf S p0 p1 p2)
  unfold f_X12_wantOf
  refine ev_iconst (v := 0) dX12_wantOf_0 (by decide) ?_
  refine ev_istore_n dX12_wantOf_1 (am_lt rfl) ?_
  refine ev_weak (am_wk (am_wk (am_wk (am_wk am_wn)))) (ev_loopR 2 0 (fun x1 : Int32 => [some (.ref p0), some (.int p1), some (.int p2), some (.int x1)]) (fun t1 : Unit => [none, none, none, none]) (fun x1 => S) (fun t1 => S) (fun x1 G1 hB1 hE1 hG1 => ?_) (fun t1 => ?_) am_fuel 0)
  · unfold f_X12_wantOf_b2
    refine ev_iload_n dX12_wantOf_2 rfl ?_
    refine ev_aload_n dX12_wantOf_3 rfl ?_
    refine ev_eq (Option.bind_assoc _ _ _) ?_
    refine ev_callP (am_callV (as := []) (o := p0) (st := [.int x1]) cv_X12_82 dX12_wantOf_4 kp0 rfl (am_le rfl) (am_fit (by omega) (by decide) (by decide) (by decide)) (t_X12_wants hl kp0)) (fun v7 h7 => ?_)
    refine ev_eq am_ib ?_
    refine ev_icmp_ge (tgt := 33) dX12_wantOf_7 (by decide) (fun c8 => ?_) (fun c8 => ?_)
    · refine ev_iconst (v := (-1)) dX12_wantOf_33 (by decide) ?_
      exact ev_eq (hG1 _) (ev_iret dX12_wantOf_34 rfl rfl (by decide) (by decide) rfl)
    · refine ev_iload_n dX12_wantOf_10 rfl ?_
      refine ev_iconst (v := 1) dX12_wantOf_11 (by decide) ?_
      refine ev_eq am_ib ?_
      refine ev_icmp_le (tgt := 27) dX12_wantOf_12 (by decide) (fun c9 => ?_) (fun c9 => ?_)
      · refine ev_iinc (v := (x1 + 1)) dX12_wantOf_27 (am_lt rfl) rfl rfl ?_
        refine ev_goto (tgt := 2) dX12_wantOf_30 (by decide) ?_
        exact ev_leaf (am_wk (am_wk (am_wk (am_wk am_wn)))) (hB1 (x1 + 1))
      · refine ev_aload_n dX12_wantOf_15 rfl ?_
        refine ev_iload_n dX12_wantOf_16 rfl ?_
        refine ev_iload_n dX12_wantOf_17 rfl ?_
        refine ev_eq (Option.bind_assoc _ _ _) ?_
        refine ev_callP (am_callV (as := [.int p1, .int x1]) (o := p0) (st := []) cv_X12_254 dX12_wantOf_18 kp0 rfl (am_le rfl) (am_fit (by omega) (by decide) (by decide) (by decide)) (t_X12_wordOf hl kp0)) (fun v10 h10 => ?_)
        refine ev_iload_n dX12_wantOf_21 rfl ?_
        refine ev_eq am_ib ?_
        refine ev_icmp_ne (tgt := 27) dX12_wantOf_22 (by decide) (fun c11 => ?_) (fun c11 => ?_)
        · refine ev_iinc (v := (x1 + 1)) dX12_wantOf_27 (am_lt rfl) rfl rfl ?_
          refine ev_goto (tgt := 2) dX12_wantOf_30 (by decide) ?_
          exact ev_leaf (am_wk (am_wk (am_wk (am_wk am_wn)))) (hB1 (x1 + 1))
        · refine ev_iload_n dX12_wantOf_25 rfl ?_
          exact ev_eq (hG1 _) (ev_iret dX12_wantOf_26 rfl rfl (by decide) (by decide) rfl)
  · exact ev_none
def f_X12_heard (S : am_S) (p0 : Nat) (p1 : Int32) (p2 : Int32) : Option (Int32 × (Nat → Nat → Int32)) :=
  ((f_X12_noRing ((am_u2 S.1 p0 0 0), S.2) p0 p1).bind (fun v1 => ((if v1 = 0 then ((f_X12_noHouse ((am_u2 S.1 p0 0 0), S.2) p0 p2).bind (fun v3 => (if v3 = 0 then some (0 : Int32) else some (1 : Int32)))) else some (1 : Int32)).bind (fun t2 => ((f_X12_throwsIf ((am_u2 S.1 p0 0 0), S.2) p0 t2 1).bind (fun y5 => (if y5.1 = 0 then ((f_X12_heardBy (y5.2, S.2) p0 p1 p2).bind (fun v7 => some (v7, y5.2))) else some (0, y5.2))))))))
set_option maxRecDepth 20000 in
theorem t_X12_heard {E : am_E} {l : Launch} (hl : l.stackTraces = false) {S : am_S} {p0 : Nat} {p1 : Int32} {p2 : Int32} (kp0 : am_kd p0 = 112) : am_M E l yX12_heard (.code yX12_heard cX12_heard 3 (some .int)) 7 0 0 [.ref p0, .int p1, .int p2] S ((f_X12_heard S p0 p1 p2).map (fun (x : Int32 × (Nat → Nat → Int32)) => ((.inl (some (.int x.1)), (x.2, S.2)) : am_R))) := by
  refine am_M_of (w := fun (x : Int32 × (Nat → Nat → Int32)) => ((.inl (some (.int x.1)), (x.2, S.2)) : am_R)) hl (by decide) (am_fc rfl (am_fc rfl (am_fc rfl am_fn))) (Nat.le_of_ble_eq_true rfl) ?_
  show am_Ev E l (RX12, cX12_heard, 3, (some .int), [], am_rm 7 0 0) (fun b a s x => am_Z E 0 0 b a s ((fun (x : Int32 × (Nat → Nat → Int32)) => ((.inl (some (.int x.1)), (x.2, S.2)) : am_R)) x)) 0 0 0 [some (.ref p0), some (.int p1), some (.int p2)] [] S (f_X12_heard S p0 p1 p2)
  unfold f_X12_heard
  refine ev_aload_n dX12_heard_0 rfl ?_
  refine ev_iconst (v := 0) dX12_heard_1 (by decide) ?_
  refine ev_putI fk_X12_3 tyX12 tyX12_ok nmX12 rfl (by decide +kernel) (by decide) dX12_heard_2 kp0 ?_
  refine ev_aload_n dX12_heard_5 rfl ?_
  refine ev_aload_n dX12_heard_6 rfl ?_
  refine ev_iload_n dX12_heard_7 rfl ?_
  refine ev_callP (am_callV (as := [.int p1]) (o := p0) (st := [.ref p0]) cv_X12_290 dX12_heard_8 kp0 rfl (am_le rfl) (am_fit (by omega) (by decide) (by decide) (by decide)) (t_X12_noRing hl kp0)) (fun v1 h1 => ?_)
  refine ev_reg (cs' := 0) (sl' := 0) 27 (fun t2 : Int32 => [some (.ref p0), some (.int p1), some (.int p2)]) (fun t2 => [.int t2, .ref p0]) (fun t2 => ((am_u2 S.1 p0 0 0), S.2)) (fun hJ2 => ?_) (fun t2 => ?_)
  · refine ev_eq am_ib ?_
    refine ev_if_ne (tgt := 22) dX12_heard_11 (by decide) (fun c2 => ?_) (fun c2 => ?_)
    · refine ev_iconst (v := 1) dX12_heard_22 (by decide) ?_
      refine ev_goto (tgt := 27) dX12_heard_23 (by decide) ?_
      exact ev_leaf (am_wk (am_wk (am_wk am_wn))) (hJ2 (1 : Int32))
    · refine ev_aload_n dX12_heard_14 rfl ?_
      refine ev_iload_n dX12_heard_15 rfl ?_
      refine ev_eq (Option.bind_assoc _ _ _) ?_
      refine ev_callP (am_callV (as := [.int p2]) (o := p0) (st := [.ref p0]) cv_X12_257 dX12_heard_16 kp0 rfl (am_le rfl) (am_fit (by omega) (by decide) (by decide) (by decide)) (t_X12_noHouse hl kp0)) (fun v3 h3 => ?_)
      refine ev_eq am_ib ?_
      refine ev_if_eq (tgt := 26) dX12_heard_19 (by decide) (fun c4 => ?_) (fun c4 => ?_)
      · refine ev_iconst (v := 0) dX12_heard_26 (by decide) ?_
        exact ev_leaf (am_wk (am_wk (am_wk am_wn))) (hJ2 (0 : Int32))
      · refine ev_iconst (v := 1) dX12_heard_22 (by decide) ?_
        refine ev_goto (tgt := 27) dX12_heard_23 (by decide) ?_
        exact ev_leaf (am_wk (am_wk (am_wk am_wn))) (hJ2 (1 : Int32))
  · refine ev_iconst (v := 1) dX12_heard_27 (by decide) ?_
    refine ev_callWI (am_callV (as := [.int t2, .int 1]) (o := p0) (st := []) cv_X12_242 dX12_heard_28 kp0 rfl (am_le rfl) (am_fit (by omega) (by decide) (by decide) (by decide)) (t_X12_throwsIf hl kp0)) (fun y5 h5 => ?_)
    refine ev_if_eq (tgt := 38) dX12_heard_31 (by decide) (fun c6 => ?_) (fun c6 => ?_)
    · refine ev_aload_n dX12_heard_38 rfl ?_
      refine ev_iload_n dX12_heard_39 rfl ?_
      refine ev_iload_n dX12_heard_40 rfl ?_
      refine ev_callP (am_callV (as := [.int p1, .int p2]) (o := p0) (st := []) cv_X12_293 dX12_heard_41 kp0 rfl (am_le rfl) (am_fit (by omega) (by decide) (by decide) (by decide)) (t_X12_heardBy hl kp0)) (fun v7 h7 => ?_)
      exact ev_iret dX12_heard_44 rfl rfl (by decide) (by decide) rfl
    · refine ev_iconst (v := 0) dX12_heard_34 (by decide) ?_
      refine ev_goto (tgt := 44) dX12_heard_35 (by decide) ?_
      exact ev_iret dX12_heard_44 rfl rfl (by decide) (by decide) rfl
def f_X12_taken (S : am_S) (p0 : Nat) (p1 : Int32) (p2 : Int32) : Option (Int32 × (Nat → Nat → Int32)) :=
  ((f_X12_noRing ((am_u2 S.1 p0 0 0), S.2) p0 p1).bind (fun v1 => ((if v1 = 0 then ((f_X12_noHouse ((am_u2 S.1 p0 0 0), S.2) p0 p2).bind (fun v3 => (if v3 = 0 then some (0 : Int32) else some (1 : Int32)))) else some (1 : Int32)).bind (fun t2 => ((f_X12_throwsIf ((am_u2 S.1 p0 0 0), S.2) p0 t2 1).bind (fun y5 => (if y5.1 = 0 then ((f_X12_ofRing (y5.2, S.2) p0 p1 1).bind (fun v7 => ((f_X12_heardBy (y5.2, S.2) p0 p1 p2).bind (fun v8 => ((f_X12_wantOf (y5.2, S.2) p0 v7 v8).bind (fun v9 => some (v9, y5.2))))))) else some (0, y5.2))))))))
set_option maxRecDepth 20000 in
theorem t_X12_taken {E : am_E} {l : Launch} (hl : l.stackTraces = false) {S : am_S} {p0 : Nat} {p1 : Int32} {p2 : Int32} (kp0 : am_kd p0 = 112) : am_M E l yX12_taken (.code yX12_taken cX12_taken 3 (some .int)) 7 0 0 [.ref p0, .int p1, .int p2] S ((f_X12_taken S p0 p1 p2).map (fun (x : Int32 × (Nat → Nat → Int32)) => ((.inl (some (.int x.1)), (x.2, S.2)) : am_R))) := by
  refine am_M_of (w := fun (x : Int32 × (Nat → Nat → Int32)) => ((.inl (some (.int x.1)), (x.2, S.2)) : am_R)) hl (by decide) (am_fc rfl (am_fc rfl (am_fc rfl am_fn))) (Nat.le_of_ble_eq_true rfl) ?_
  show am_Ev E l (RX12, cX12_taken, 3, (some .int), [], am_rm 7 0 0) (fun b a s x => am_Z E 0 0 b a s ((fun (x : Int32 × (Nat → Nat → Int32)) => ((.inl (some (.int x.1)), (x.2, S.2)) : am_R)) x)) 0 0 0 [some (.ref p0), some (.int p1), some (.int p2)] [] S (f_X12_taken S p0 p1 p2)
  unfold f_X12_taken
  refine ev_aload_n dX12_taken_0 rfl ?_
  refine ev_iconst (v := 0) dX12_taken_1 (by decide) ?_
  refine ev_putI fk_X12_3 tyX12 tyX12_ok nmX12 rfl (by decide +kernel) (by decide) dX12_taken_2 kp0 ?_
  refine ev_aload_n dX12_taken_5 rfl ?_
  refine ev_aload_n dX12_taken_6 rfl ?_
  refine ev_iload_n dX12_taken_7 rfl ?_
  refine ev_callP (am_callV (as := [.int p1]) (o := p0) (st := [.ref p0]) cv_X12_290 dX12_taken_8 kp0 rfl (am_le rfl) (am_fit (by omega) (by decide) (by decide) (by decide)) (t_X12_noRing hl kp0)) (fun v1 h1 => ?_)
  refine ev_reg (cs' := 0) (sl' := 0) 27 (fun t2 : Int32 => [some (.ref p0), some (.int p1), some (.int p2)]) (fun t2 => [.int t2, .ref p0]) (fun t2 => ((am_u2 S.1 p0 0 0), S.2)) (fun hJ2 => ?_) (fun t2 => ?_)
  · refine ev_eq am_ib ?_
    refine ev_if_ne (tgt := 22) dX12_taken_11 (by decide) (fun c2 => ?_) (fun c2 => ?_)
    · refine ev_iconst (v := 1) dX12_taken_22 (by decide) ?_
      refine ev_goto (tgt := 27) dX12_taken_23 (by decide) ?_
      exact ev_leaf (am_wk (am_wk (am_wk am_wn))) (hJ2 (1 : Int32))
    · refine ev_aload_n dX12_taken_14 rfl ?_
      refine ev_iload_n dX12_taken_15 rfl ?_
      refine ev_eq (Option.bind_assoc _ _ _) ?_
      refine ev_callP (am_callV (as := [.int p2]) (o := p0) (st := [.ref p0]) cv_X12_257 dX12_taken_16 kp0 rfl (am_le rfl) (am_fit (by omega) (by decide) (by decide) (by decide)) (t_X12_noHouse hl kp0)) (fun v3 h3 => ?_)
      refine ev_eq am_ib ?_
      refine ev_if_eq (tgt := 26) dX12_taken_19 (by decide) (fun c4 => ?_) (fun c4 => ?_)
      · refine ev_iconst (v := 0) dX12_taken_26 (by decide) ?_
        exact ev_leaf (am_wk (am_wk (am_wk am_wn))) (hJ2 (0 : Int32))
      · refine ev_iconst (v := 1) dX12_taken_22 (by decide) ?_
        refine ev_goto (tgt := 27) dX12_taken_23 (by decide) ?_
        exact ev_leaf (am_wk (am_wk (am_wk am_wn))) (hJ2 (1 : Int32))
  · refine ev_iconst (v := 1) dX12_taken_27 (by decide) ?_
    refine ev_callWI (am_callV (as := [.int t2, .int 1]) (o := p0) (st := []) cv_X12_242 dX12_taken_28 kp0 rfl (am_le rfl) (am_fit (by omega) (by decide) (by decide) (by decide)) (t_X12_throwsIf hl kp0)) (fun y5 h5 => ?_)
    refine ev_if_eq (tgt := 38) dX12_taken_31 (by decide) (fun c6 => ?_) (fun c6 => ?_)
    · refine ev_aload_n dX12_taken_38 rfl ?_
      refine ev_aload_n dX12_taken_39 rfl ?_
      refine ev_iload_n dX12_taken_40 rfl ?_
      refine ev_iconst (v := 1) dX12_taken_41 (by decide) ?_
      refine ev_callP (am_callV (as := [.int p1, .int 1]) (o := p0) (st := [.ref p0]) cv_X12_280 dX12_taken_42 kp0 rfl (am_le rfl) (am_fit (by omega) (by decide) (by decide) (by decide)) (t_X12_ofRing hl kp0)) (fun v7 h7 => ?_)
      refine ev_aload_n dX12_taken_45 rfl ?_
      refine ev_iload_n dX12_taken_46 rfl ?_
      refine ev_iload_n dX12_taken_47 rfl ?_
      refine ev_callP (am_callV (as := [.int p1, .int p2]) (o := p0) (st := [.int v7, .ref p0]) cv_X12_293 dX12_taken_48 kp0 rfl (am_le rfl) (am_fit (by omega) (by decide) (by decide) (by decide)) (t_X12_heardBy hl kp0)) (fun v8 h8 => ?_)
      refine ev_callP (am_callV (as := [.int v7, .int v8]) (o := p0) (st := []) cv_X12_296 dX12_taken_51 kp0 rfl (am_le rfl) (am_fit (by omega) (by decide) (by decide) (by decide)) (t_X12_wantOf hl kp0)) (fun v9 h9 => ?_)
      exact ev_iret dX12_taken_54 rfl rfl (by decide) (by decide) rfl
    · refine ev_iconst (v := 0) dX12_taken_34 (by decide) ?_
      refine ev_goto (tgt := 54) dX12_taken_35 (by decide) ?_
      exact ev_iret dX12_taken_54 rfl rfl (by decide) (by decide) rfl
def f_X12_takers_b5 (S : am_S) (a0 : Nat) (a1 : Int32) (a2 : Int32) (x1 : Int32 × Int32) : Option ((Int32 × Int32) ⊕ (Int32)) :=
  ((f_X12_houses S a0).bind (fun v2 => (if x1.2 < v2 then ((f_X12_ofRing S a0 a1 1).bind (fun v4 => ((f_X12_heardBy S a0 a1 x1.2).bind (fun v5 => ((f_X12_wantOf S a0 v4 v5).bind (fun v6 => ((if v6 < 0 then some (0 : Int32) else ((f_X12_ofRing S a0 a1 2).bind (fun v8 => ((if v6 = v8 then some (1 : Int32) else some (0 : Int32)).bind (fun t9 => (if t9 = a2 then some (0 : Int32) else some (1 : Int32))))))).bind (fun t7 => some (.inl ((x1.1 + t7), (x1.2 + 1))))))))))) else some (.inr x1.1))))
def f_X12_takers (S : am_S) (p0 : Nat) (p1 : Int32) (p2 : Int32) : Option (Int32) :=
  ((am_loop (f_X12_takers_b5 S p0 p1 p2) am_fuel (0, 0)).bind (fun t1 => some t1))
set_option maxRecDepth 20000 in
theorem t_X12_takers {E : am_E} {l : Launch} (hl : l.stackTraces = false) {S : am_S} {p0 : Nat} {p1 : Int32} {p2 : Int32} (kp0 : am_kd p0 = 112) : am_M E l yX12_takers (.code yX12_takers cX12_takers 6 (some .int)) 7 0 0 [.ref p0, .int p1, .int p2] S ((f_X12_takers S p0 p1 p2).map (fun (v : Int32) => ((.inl (some (.int v)), S) : am_R))) := by
  refine am_M_of (w := fun (v : Int32) => ((.inl (some (.int v)), S) : am_R)) hl (by decide) (am_fc rfl (am_fc rfl (am_fc rfl am_fn))) (Nat.le_of_ble_eq_true rfl) ?_
  show am_Ev E l (RX12, cX12_takers, 6, (some .int), [], am_rm 7 0 0) (fun b a s x => am_Z E 0 0 b a s ((fun (v : Int32) => ((.inl (some (.int v)), S) : am_R)) x)) 0 0 0 [some (.ref p0), some (.int p1), some (.int p2), none, none, none] [] S (f_X12_takers S p0 p1 p2)
  unfold f_X12_takers
  refine ev_iconst (v := 0) dX12_takers_0 (by decide) ?_
  refine ev_istore_n dX12_takers_1 (am_lt rfl) ?_
  refine ev_iconst (v := 0) dX12_takers_2 (by decide) ?_
  refine ev_istore dX12_takers_3 (am_lt rfl) ?_
  refine ev_weak (am_wk (am_wk (am_wk (am_wk (am_wk (am_wf am_wn)))))) (ev_loop 5 72 (fun x1 : Int32 × Int32 => [some (.ref p0), some (.int p1), some (.int p2), some (.int x1.1), some (.int x1.2), none]) (fun t1 : Int32 => [none, none, none, some (.int t1), none, none]) (fun x1 => S) (fun t1 => S) (fun x1 G1 hB1 hE1 => ?_) (fun t1 => ?_) am_fuel (0, 0))
  · unfold f_X12_takers_b5
    refine ev_iload dX12_takers_5 rfl ?_
    refine ev_aload_n dX12_takers_7 rfl ?_
    refine ev_eq (Option.bind_assoc _ _ _) ?_
    refine ev_callP (am_callV (as := []) (o := p0) (st := [.int x1.2]) cv_X12_74 dX12_takers_8 kp0 rfl (am_le rfl) (am_fit (by omega) (by decide) (by decide) (by decide)) (t_X12_houses hl kp0)) (fun v11 h11 => ?_)
    refine ev_eq am_ib ?_
    refine ev_icmp_ge (tgt := 72) dX12_takers_11 (by decide) (fun c12 => ?_) (fun c12 => ?_)
    · exact ev_leaf (am_wf (am_wf (am_wf (am_wk (am_wf (am_wf am_wn)))))) (hE1 x1.1)
    · refine ev_aload_n dX12_takers_14 rfl ?_
      refine ev_aload_n dX12_takers_15 rfl ?_
      refine ev_iload_n dX12_takers_16 rfl ?_
      refine ev_iconst (v := 1) dX12_takers_17 (by decide) ?_
      refine ev_eq (Option.bind_assoc _ _ _) ?_
      refine ev_callP (am_callV (as := [.int p1, .int 1]) (o := p0) (st := [.ref p0]) cv_X12_280 dX12_takers_18 kp0 rfl (am_le rfl) (am_fit (by omega) (by decide) (by decide) (by decide)) (t_X12_ofRing hl kp0)) (fun v13 h13 => ?_)
      refine ev_aload_n dX12_takers_21 rfl ?_
      refine ev_iload_n dX12_takers_22 rfl ?_
      refine ev_iload dX12_takers_23 rfl ?_
      refine ev_eq (Option.bind_assoc _ _ _) ?_
      refine ev_callP (am_callV (as := [.int p1, .int x1.2]) (o := p0) (st := [.int v13, .ref p0]) cv_X12_293 dX12_takers_25 kp0 rfl (am_le rfl) (am_fit (by omega) (by decide) (by decide) (by decide)) (t_X12_heardBy hl kp0)) (fun v14 h14 => ?_)
      refine ev_eq (Option.bind_assoc _ _ _) ?_
      refine ev_callP (am_callV (as := [.int v13, .int v14]) (o := p0) (st := []) cv_X12_296 dX12_takers_28 kp0 rfl (am_le rfl) (am_fit (by omega) (by decide) (by decide) (by decide)) (t_X12_wantOf hl kp0)) (fun v15 h15 => ?_)
      refine ev_istore dX12_takers_31 (am_lt rfl) ?_
      refine ev_iload_n dX12_takers_33 rfl ?_
      refine ev_iload dX12_takers_34 rfl ?_
      refine ev_eq (Option.bind_assoc _ _ _) ?_
      refine ev_reg (cs' := 0) (sl' := 0) 64 (fun t16 : Int32 => [some (.ref p0), some (.int p1), some (.int p2), none, some (.int x1.2), none]) (fun t16 => [.int t16, .int x1.1]) (fun t16 => S) (fun hJ16 => ?_) (fun t16 => ?_)
      · refine ev_eq am_ib ?_
        refine ev_if_lt (tgt := 63) dX12_takers_36 (by decide) (fun c16 => ?_) (fun c16 => ?_)
        · refine ev_iconst (v := 0) dX12_takers_63 (by decide) ?_
          exact ev_leaf (am_wk (am_wk (am_wk (am_wf (am_wk (am_wf am_wn)))))) (hJ16 (0 : Int32))
        · refine ev_iload dX12_takers_39 rfl ?_
          refine ev_aload_n dX12_takers_41 rfl ?_
          refine ev_iload_n dX12_takers_42 rfl ?_
          refine ev_iconst (v := 2) dX12_takers_43 (by decide) ?_
          refine ev_eq (Option.bind_assoc _ _ _) ?_
          refine ev_callP (am_callV (as := [.int p1, .int 2]) (o := p0) (st := [.int v15, .int x1.1]) cv_X12_280 dX12_takers_44 kp0 rfl (am_le rfl) (am_fit (by omega) (by decide) (by decide) (by decide)) (t_X12_ofRing hl kp0)) (fun v17 h17 => ?_)
          refine ev_eq (Option.bind_assoc _ _ _) ?_
          refine ev_reg (cs' := 0) (sl' := 0) 55 (fun t18 : Int32 => [some (.ref p0), some (.int p1), some (.int p2), none, some (.int x1.2), none]) (fun t18 => [.int t18, .int x1.1]) (fun t18 => S) (fun hJ18 => ?_) (fun t18 => ?_)
          · refine ev_eq am_ib ?_
            refine ev_icmp_ne (tgt := 54) dX12_takers_47 (by decide) (fun c18 => ?_) (fun c18 => ?_)
            · refine ev_iconst (v := 0) dX12_takers_54 (by decide) ?_
              exact ev_leaf (am_wk (am_wk (am_wk (am_wf (am_wk (am_wf am_wn)))))) (hJ18 (0 : Int32))
            · refine ev_iconst (v := 1) dX12_takers_50 (by decide) ?_
              refine ev_goto (tgt := 55) dX12_takers_51 (by decide) ?_
              exact ev_leaf (am_wk (am_wk (am_wk (am_wf (am_wk (am_wf am_wn)))))) (hJ18 (1 : Int32))
          · refine ev_iload_n dX12_takers_55 rfl ?_
            refine ev_eq am_ib ?_
            refine ev_icmp_eq (tgt := 63) dX12_takers_56 (by decide) (fun c19 => ?_) (fun c19 => ?_)
            · refine ev_iconst (v := 0) dX12_takers_63 (by decide) ?_
              exact ev_leaf (am_wk (am_wk (am_wk (am_wf (am_wk (am_wf am_wn)))))) (hJ16 (0 : Int32))
            · refine ev_iconst (v := 1) dX12_takers_59 (by decide) ?_
              refine ev_goto (tgt := 64) dX12_takers_60 (by decide) ?_
              exact ev_leaf (am_wk (am_wk (am_wk (am_wf (am_wk (am_wf am_wn)))))) (hJ16 (1 : Int32))
      · refine ev_iadd dX12_takers_64 ?_
        refine ev_istore_n dX12_takers_65 (am_lt rfl) ?_
        refine ev_iinc (v := (x1.2 + 1)) dX12_takers_66 (am_lt rfl) rfl rfl ?_
        refine ev_goto (tgt := 5) dX12_takers_69 (by decide) ?_
        exact ev_leaf (am_wk (am_wk (am_wk (am_wk (am_wk (am_wf am_wn)))))) (hB1 ((x1.1 + t16), (x1.2 + 1)))
  · refine ev_iload_n dX12_takers_72 rfl ?_
    exact ev_iret dX12_takers_73 rfl rfl (by decide) (by decide) rfl
def f_X12_sure (S : am_S) (p0 : Nat) (p1 : Int32) (p2 : Int32) : Option (Int32 × (Nat → Nat → Int32)) :=
  ((f_X12_noRing ((am_u2 S.1 p0 0 0), S.2) p0 p1).bind (fun v1 => ((f_X12_throwsIf ((am_u2 S.1 p0 0 0), S.2) p0 v1 1).bind (fun y2 => (if y2.1 = 0 then ((f_X12_takers (y2.2, S.2) p0 p1 p2).bind (fun v4 => some (v4, y2.2))) else some (0, y2.2))))))
set_option maxRecDepth 20000 in
theorem t_X12_sure {E : am_E} {l : Launch} (hl : l.stackTraces = false) {S : am_S} {p0 : Nat} {p1 : Int32} {p2 : Int32} (kp0 : am_kd p0 = 112) : am_M E l yX12_sure (.code yX12_sure cX12_sure 3 (some .int)) 8 0 0 [.ref p0, .int p1, .int p2] S ((f_X12_sure S p0 p1 p2).map (fun (x : Int32 × (Nat → Nat → Int32)) => ((.inl (some (.int x.1)), (x.2, S.2)) : am_R))) := by
  refine am_M_of (w := fun (x : Int32 × (Nat → Nat → Int32)) => ((.inl (some (.int x.1)), (x.2, S.2)) : am_R)) hl (by decide) (am_fc rfl (am_fc rfl (am_fc rfl am_fn))) (Nat.le_of_ble_eq_true rfl) ?_
  show am_Ev E l (RX12, cX12_sure, 3, (some .int), [], am_rm 8 0 0) (fun b a s x => am_Z E 0 0 b a s ((fun (x : Int32 × (Nat → Nat → Int32)) => ((.inl (some (.int x.1)), (x.2, S.2)) : am_R)) x)) 0 0 0 [some (.ref p0), some (.int p1), some (.int p2)] [] S (f_X12_sure S p0 p1 p2)
  unfold f_X12_sure
  refine ev_aload_n dX12_sure_0 rfl ?_
  refine ev_iconst (v := 0) dX12_sure_1 (by decide) ?_
  refine ev_putI fk_X12_3 tyX12 tyX12_ok nmX12 rfl (by decide +kernel) (by decide) dX12_sure_2 kp0 ?_
  refine ev_aload_n dX12_sure_5 rfl ?_
  refine ev_aload_n dX12_sure_6 rfl ?_
  refine ev_iload_n dX12_sure_7 rfl ?_
  refine ev_callP (am_callV (as := [.int p1]) (o := p0) (st := [.ref p0]) cv_X12_290 dX12_sure_8 kp0 rfl (am_le rfl) (am_fit (by omega) (by decide) (by decide) (by decide)) (t_X12_noRing hl kp0)) (fun v1 h1 => ?_)
  refine ev_iconst (v := 1) dX12_sure_11 (by decide) ?_
  refine ev_callWI (am_callV (as := [.int v1, .int 1]) (o := p0) (st := []) cv_X12_242 dX12_sure_12 kp0 rfl (am_le rfl) (am_fit (by omega) (by decide) (by decide) (by decide)) (t_X12_throwsIf hl kp0)) (fun y2 h2 => ?_)
  refine ev_if_eq (tgt := 22) dX12_sure_15 (by decide) (fun c3 => ?_) (fun c3 => ?_)
  · refine ev_aload_n dX12_sure_22 rfl ?_
    refine ev_iload_n dX12_sure_23 rfl ?_
    refine ev_iload_n dX12_sure_24 rfl ?_
    refine ev_callP (am_callV (as := [.int p1, .int p2]) (o := p0) (st := []) cv_X12_299 dX12_sure_25 kp0 rfl (am_le rfl) (am_fit (by omega) (by decide) (by decide) (by decide)) (t_X12_takers hl kp0)) (fun v4 h4 => ?_)
    exact ev_iret dX12_sure_28 rfl rfl (by decide) (by decide) rfl
  · refine ev_iconst (v := 0) dX12_sure_18 (by decide) ?_
    refine ev_goto (tgt := 28) dX12_sure_19 (by decide) ?_
    exact ev_iret dX12_sure_28 rfl rfl (by decide) (by decide) rfl
def f_X12_could_b49 (S : am_S) (a0 : Nat) (a1 : Int32) (a3 : Int32) (x8 : Int32 × Int32) : Option ((Int32 × Int32) ⊕ (Int32)) :=
  ((f_X12_wants S a0).bind (fun v9 => (if x8.2 < v9 then (if 0 < a3 then ((f_X12_ofRing S a0 a1 1).bind (fun v12 => ((f_X12_wordOf S a0 v12 x8.2).bind (fun v13 => ((if 0 < v13 then ((f_X12_isBegin a3 v13).bind (fun v15 => (if v15 = 0 then some (0 : Int32) else some ((1 : Int32) <<< (x8.2 &&& 31))))) else some (0 : Int32)).bind (fun t14 => some (.inl ((x8.1 ||| t14), (x8.2 + 1))))))))) else some (.inr x8.1)) else some (.inr x8.1))))
def f_X12_could (S : am_S) (p0 : Nat) (p1 : Int32) (p2 : Int32) : Option (Int32 × (Nat → Nat → Int32)) :=
  ((f_X12_noRing ((am_u2 S.1 p0 0 0), S.2) p0 p1).bind (fun v1 => ((if v1 = 0 then ((f_X12_noHouse ((am_u2 S.1 p0 0 0), S.2) p0 p2).bind (fun v3 => (if v3 = 0 then some (0 : Int32) else some (1 : Int32)))) else some (1 : Int32)).bind (fun t2 => ((f_X12_throwsIf ((am_u2 S.1 p0 0 0), S.2) p0 t2 1).bind (fun y5 => (if y5.1 = 0 then ((f_X12_heardBy (y5.2, S.2) p0 p1 p2).bind (fun v7 => ((am_loop (f_X12_could_b49 (y5.2, S.2) p0 p1 v7) am_fuel (0, 0)).bind (fun t8 => some (t8, y5.2))))) else some (0, y5.2))))))))
set_option maxRecDepth 20000 in
theorem t_X12_could {E : am_E} {l : Launch} (hl : l.stackTraces = false) {S : am_S} {p0 : Nat} {p1 : Int32} {p2 : Int32} (kp0 : am_kd p0 = 112) : am_M E l yX12_could (.code yX12_could cX12_could 7 (some .int)) 7 0 0 [.ref p0, .int p1, .int p2] S ((f_X12_could S p0 p1 p2).map (fun (x : Int32 × (Nat → Nat → Int32)) => ((.inl (some (.int x.1)), (x.2, S.2)) : am_R))) := by
  refine am_M_of (w := fun (x : Int32 × (Nat → Nat → Int32)) => ((.inl (some (.int x.1)), (x.2, S.2)) : am_R)) hl (by decide) (am_fc rfl (am_fc rfl (am_fc rfl am_fn))) (Nat.le_of_ble_eq_true rfl) ?_
  show am_Ev E l (RX12, cX12_could, 7, (some .int), [], am_rm 7 0 0) (fun b a s x => am_Z E 0 0 b a s ((fun (x : Int32 × (Nat → Nat → Int32)) => ((.inl (some (.int x.1)), (x.2, S.2)) : am_R)) x)) 0 0 0 [some (.ref p0), some (.int p1), some (.int p2), none, none, none, none] [] S (f_X12_could S p0 p1 p2)
  unfold f_X12_could
  refine ev_aload_n dX12_could_0 rfl ?_
  refine ev_iconst (v := 0) dX12_could_1 (by decide) ?_
  refine ev_putI fk_X12_3 tyX12 tyX12_ok nmX12 rfl (by decide +kernel) (by decide) dX12_could_2 kp0 ?_
  refine ev_aload_n dX12_could_5 rfl ?_
  refine ev_aload_n dX12_could_6 rfl ?_
  refine ev_iload_n dX12_could_7 rfl ?_
  refine ev_callP (am_callV (as := [.int p1]) (o := p0) (st := [.ref p0]) cv_X12_290 dX12_could_8 kp0 rfl (am_le rfl) (am_fit (by omega) (by decide) (by decide) (by decide)) (t_X12_noRing hl kp0)) (fun v1 h1 => ?_)
  refine ev_reg (cs' := 0) (sl' := 0) 27 (fun t2 : Int32 => [some (.ref p0), some (.int p1), some (.int p2), none, none, none, none]) (fun t2 => [.int t2, .ref p0]) (fun t2 => ((am_u2 S.1 p0 0 0), S.2)) (fun hJ2 => ?_) (fun t2 => ?_)
  · refine ev_eq am_ib ?_
    refine ev_if_ne (tgt := 22) dX12_could_11 (by decide) (fun c2 => ?_) (fun c2 => ?_)
    · refine ev_iconst (v := 1) dX12_could_22 (by decide) ?_
      refine ev_goto (tgt := 27) dX12_could_23 (by decide) ?_
      exact ev_leaf (am_wk (am_wk (am_wk (am_wf (am_wf (am_wf (am_wf am_wn))))))) (hJ2 (1 : Int32))
    · refine ev_aload_n dX12_could_14 rfl ?_
      refine ev_iload_n dX12_could_15 rfl ?_
      refine ev_eq (Option.bind_assoc _ _ _) ?_
      refine ev_callP (am_callV (as := [.int p2]) (o := p0) (st := [.ref p0]) cv_X12_257 dX12_could_16 kp0 rfl (am_le rfl) (am_fit (by omega) (by decide) (by decide) (by decide)) (t_X12_noHouse hl kp0)) (fun v3 h3 => ?_)
      refine ev_eq am_ib ?_
      refine ev_if_eq (tgt := 26) dX12_could_19 (by decide) (fun c4 => ?_) (fun c4 => ?_)
      · refine ev_iconst (v := 0) dX12_could_26 (by decide) ?_
        exact ev_leaf (am_wk (am_wk (am_wk (am_wf (am_wf (am_wf (am_wf am_wn))))))) (hJ2 (0 : Int32))
      · refine ev_iconst (v := 1) dX12_could_22 (by decide) ?_
        refine ev_goto (tgt := 27) dX12_could_23 (by decide) ?_
        exact ev_leaf (am_wk (am_wk (am_wk (am_wf (am_wf (am_wf (am_wf am_wn))))))) (hJ2 (1 : Int32))
  · refine ev_iconst (v := 1) dX12_could_27 (by decide) ?_
    refine ev_callWI (am_callV (as := [.int t2, .int 1]) (o := p0) (st := []) cv_X12_242 dX12_could_28 kp0 rfl (am_le rfl) (am_fit (by omega) (by decide) (by decide) (by decide)) (t_X12_throwsIf hl kp0)) (fun y5 h5 => ?_)
    refine ev_if_eq (tgt := 36) dX12_could_31 (by decide) (fun c6 => ?_) (fun c6 => ?_)
    · refine ev_aload_n dX12_could_36 rfl ?_
      refine ev_iload_n dX12_could_37 rfl ?_
      refine ev_iload_n dX12_could_38 rfl ?_
      refine ev_callP (am_callV (as := [.int p1, .int p2]) (o := p0) (st := []) cv_X12_293 dX12_could_39 kp0 rfl (am_le rfl) (am_fit (by omega) (by decide) (by decide) (by decide)) (t_X12_heardBy hl kp0)) (fun v7 h7 => ?_)
      refine ev_istore_n dX12_could_42 (am_lt rfl) ?_
      refine ev_iconst (v := 0) dX12_could_43 (by decide) ?_
      refine ev_istore dX12_could_44 (am_lt rfl) ?_
      refine ev_iconst (v := 0) dX12_could_46 (by decide) ?_
      refine ev_istore dX12_could_47 (am_lt rfl) ?_
      refine ev_weak (am_wk (am_wk (am_wf (am_wk (am_wk (am_wk (am_wf am_wn))))))) (ev_loop 49 109 (fun x8 : Int32 × Int32 => [some (.ref p0), some (.int p1), none, some (.int v7), some (.int x8.1), some (.int x8.2), none]) (fun t8 : Int32 => [none, none, none, none, some (.int t8), none, none]) (fun x8 => (y5.2, S.2)) (fun t8 => (y5.2, S.2)) (fun x8 G8 hB8 hE8 => ?_) (fun t8 => ?_) am_fuel (0, 0))
      · unfold f_X12_could_b49
        refine ev_iload dX12_could_49 rfl ?_
        refine ev_aload_n dX12_could_51 rfl ?_
        refine ev_eq (Option.bind_assoc _ _ _) ?_
        refine ev_callP (am_callV (as := []) (o := p0) (st := [.int x8.2]) cv_X12_82 dX12_could_52 kp0 rfl (am_le rfl) (am_fit (by omega) (by decide) (by decide) (by decide)) (t_X12_wants hl kp0)) (fun v17 h17 => ?_)
        refine ev_eq am_ib ?_
        refine ev_icmp_ge (tgt := 109) dX12_could_55 (by decide) (fun c18 => ?_) (fun c18 => ?_)
        · exact ev_leaf (am_wf (am_wf (am_wf (am_wf (am_wk (am_wf (am_wf am_wn))))))) (hE8 x8.1)
        · refine ev_iload_n dX12_could_58 rfl ?_
          refine ev_eq am_ib ?_
          refine ev_if_le (tgt := 109) dX12_could_59 (by decide) (fun c19 => ?_) (fun c19 => ?_)
          · exact ev_leaf (am_wf (am_wf (am_wf (am_wf (am_wk (am_wf (am_wf am_wn))))))) (hE8 x8.1)
          · refine ev_aload_n dX12_could_62 rfl ?_
            refine ev_aload_n dX12_could_63 rfl ?_
            refine ev_iload_n dX12_could_64 rfl ?_
            refine ev_iconst (v := 1) dX12_could_65 (by decide) ?_
            refine ev_eq (Option.bind_assoc _ _ _) ?_
            refine ev_callP (am_callV (as := [.int p1, .int 1]) (o := p0) (st := [.ref p0]) cv_X12_280 dX12_could_66 kp0 rfl (am_le rfl) (am_fit (by omega) (by decide) (by decide) (by decide)) (t_X12_ofRing hl kp0)) (fun v20 h20 => ?_)
            refine ev_iload dX12_could_69 rfl ?_
            refine ev_eq (Option.bind_assoc _ _ _) ?_
            refine ev_callP (am_callV (as := [.int v20, .int x8.2]) (o := p0) (st := []) cv_X12_254 dX12_could_71 kp0 rfl (am_le rfl) (am_fit (by omega) (by decide) (by decide) (by decide)) (t_X12_wordOf hl kp0)) (fun v21 h21 => ?_)
            refine ev_istore dX12_could_74 (am_lt rfl) ?_
            refine ev_iload dX12_could_76 rfl ?_
            refine ev_iload dX12_could_78 rfl ?_
            refine ev_eq (Option.bind_assoc _ _ _) ?_
            refine ev_reg (cs' := 0) (sl' := 0) 100 (fun t22 : Int32 => [some (.ref p0), some (.int p1), none, some (.int v7), none, some (.int x8.2), none]) (fun t22 => [.int t22, .int x8.1]) (fun t22 => (y5.2, S.2)) (fun hJ22 => ?_) (fun t22 => ?_)
            · refine ev_eq am_ib ?_
              refine ev_if_le (tgt := 99) dX12_could_80 (by decide) (fun c22 => ?_) (fun c22 => ?_)
              · refine ev_iconst (v := 0) dX12_could_99 (by decide) ?_
                exact ev_leaf (am_wk (am_wk (am_wf (am_wk (am_wf (am_wk (am_wf am_wn))))))) (hJ22 (0 : Int32))
              · refine ev_iload_n dX12_could_83 rfl ?_
                refine ev_iload dX12_could_84 rfl ?_
                refine ev_eq (Option.bind_assoc _ _ _) ?_
                refine ev_callP (am_callS (as := [.int v7, .int v21]) (st := [.int x8.1]) ct_X12_303 dX12_could_86 rfl (am_le rfl) (am_fit (by omega) (by decide) (by decide) (by decide)) (t_X12_isBegin hl )) (fun v23 h23 => ?_)
                refine ev_eq am_ib ?_
                refine ev_if_eq (tgt := 99) dX12_could_89 (by decide) (fun c24 => ?_) (fun c24 => ?_)
                · refine ev_iconst (v := 0) dX12_could_99 (by decide) ?_
                  exact ev_leaf (am_wk (am_wk (am_wf (am_wk (am_wf (am_wk (am_wf am_wn))))))) (hJ22 (0 : Int32))
                · refine ev_iconst (v := 1) dX12_could_92 (by decide) ?_
                  refine ev_iload dX12_could_93 rfl ?_
                  refine ev_ishl dX12_could_95 ?_
                  refine ev_goto (tgt := 100) dX12_could_96 (by decide) ?_
                  exact ev_leaf (am_wk (am_wk (am_wf (am_wk (am_wf (am_wk (am_wf am_wn))))))) (hJ22 ((1 : Int32) <<< (x8.2 &&& 31)))
            · refine ev_ior dX12_could_100 ?_
              refine ev_istore dX12_could_101 (am_lt rfl) ?_
              refine ev_iinc (v := (x8.2 + 1)) dX12_could_103 (am_lt rfl) rfl rfl ?_
              refine ev_goto (tgt := 49) dX12_could_106 (by decide) ?_
              exact ev_leaf (am_wk (am_wk (am_wf (am_wk (am_wk (am_wk (am_wf am_wn))))))) (hB8 ((x8.1 ||| t22), (x8.2 + 1)))
      · refine ev_iload dX12_could_109 rfl ?_
        exact ev_iret dX12_could_111 rfl rfl (by decide) (by decide) rfl
    · refine ev_iconst (v := 0) dX12_could_34 (by decide) ?_
      exact ev_iret dX12_could_35 rfl rfl (by decide) (by decide) rfl
def f_X12_understood_b35 (S : am_S) (a0 : Nat) (a1 : Int32) (a3 : Int32) (x7 : Int32 × Int32) : Option ((Int32 × Int32) ⊕ (Int32)) :=
  ((f_X12_wants S a0).bind (fun v8 => (if x7.2 < v8 then ((f_X12_wordOf S a0 a1 x7.2).bind (fun v10 => ((if 0 < v10 then ((f_X12_isHearing S a0 a3 a1).bind (fun v12 => (if v12 = 0 then some (0 : Int32) else ((f_X12_clearOf S a0 a3 a1).bind (fun v14 => ((f_X12_cut v10 v14).bind (fun v15 => ((f_X12_wantOf S a0 a1 v15).bind (fun v16 => (if v16 = x7.2 then some (1 : Int32) else some (0 : Int32))))))))))) else some (0 : Int32)).bind (fun t11 => some (.inl ((x7.1 + t11), (x7.2 + 1))))))) else some (.inr x7.1))))
def f_X12_understood_b24 (S : am_S) (a0 : Nat) (a1 : Int32) (x4 : Int32 × Int32) : Option ((Int32 × Int32) ⊕ (Int32)) :=
  ((f_X12_houses S a0).bind (fun v5 => (if x4.2 < v5 then ((am_loop (f_X12_understood_b35 S a0 a1 x4.2) am_fuel (x4.1, 0)).bind (fun t7 => some (.inl (t7, (x4.2 + 1))))) else some (.inr x4.1))))
def f_X12_understood (S : am_S) (p0 : Nat) (p1 : Int32) : Option (Int32 × (Nat → Nat → Int32)) :=
  ((f_X12_noHouse ((am_u2 S.1 p0 0 0), S.2) p0 p1).bind (fun v1 => ((f_X12_throwsIf ((am_u2 S.1 p0 0 0), S.2) p0 v1 1).bind (fun y2 => (if y2.1 = 0 then ((am_loop (f_X12_understood_b24 (y2.2, S.2) p0 p1) am_fuel (0, 0)).bind (fun t4 => some (t4, y2.2))) else some (0, y2.2))))))
set_option maxRecDepth 20000 in
theorem t_X12_understood {E : am_E} {l : Launch} (hl : l.stackTraces = false) {S : am_S} {p0 : Nat} {p1 : Int32} (kp0 : am_kd p0 = 112) : am_M E l yX12_understood (.code yX12_understood cX12_understood 6 (some .int)) 4 0 0 [.ref p0, .int p1] S ((f_X12_understood S p0 p1).map (fun (x : Int32 × (Nat → Nat → Int32)) => ((.inl (some (.int x.1)), (x.2, S.2)) : am_R))) := by
  refine am_M_of (w := fun (x : Int32 × (Nat → Nat → Int32)) => ((.inl (some (.int x.1)), (x.2, S.2)) : am_R)) hl (by decide) (am_fc rfl (am_fc rfl am_fn)) (Nat.le_of_ble_eq_true rfl) ?_
  show am_Ev E l (RX12, cX12_understood, 6, (some .int), [], am_rm 4 0 0) (fun b a s x => am_Z E 0 0 b a s ((fun (x : Int32 × (Nat → Nat → Int32)) => ((.inl (some (.int x.1)), (x.2, S.2)) : am_R)) x)) 0 0 0 [some (.ref p0), some (.int p1), none, none, none, none] [] S (f_X12_understood S p0 p1)
  unfold f_X12_understood
  refine ev_aload_n dX12_understood_0 rfl ?_
  refine ev_iconst (v := 0) dX12_understood_1 (by decide) ?_
  refine ev_putI fk_X12_3 tyX12 tyX12_ok nmX12 rfl (by decide +kernel) (by decide) dX12_understood_2 kp0 ?_
  refine ev_aload_n dX12_understood_5 rfl ?_
  refine ev_aload_n dX12_understood_6 rfl ?_
  refine ev_iload_n dX12_understood_7 rfl ?_
  refine ev_callP (am_callV (as := [.int p1]) (o := p0) (st := [.ref p0]) cv_X12_257 dX12_understood_8 kp0 rfl (am_le rfl) (am_fit (by omega) (by decide) (by decide) (by decide)) (t_X12_noHouse hl kp0)) (fun v1 h1 => ?_)
  refine ev_iconst (v := 1) dX12_understood_11 (by decide) ?_
  refine ev_callWI (am_callV (as := [.int v1, .int 1]) (o := p0) (st := []) cv_X12_242 dX12_understood_12 kp0 rfl (am_le rfl) (am_fit (by omega) (by decide) (by decide) (by decide)) (t_X12_throwsIf hl kp0)) (fun y2 h2 => ?_)
  refine ev_if_eq (tgt := 20) dX12_understood_15 (by decide) (fun c3 => ?_) (fun c3 => ?_)
  · refine ev_iconst (v := 0) dX12_understood_20 (by decide) ?_
    refine ev_istore_n dX12_understood_21 (am_lt rfl) ?_
    refine ev_iconst (v := 0) dX12_understood_22 (by decide) ?_
    refine ev_istore_n dX12_understood_23 (am_lt rfl) ?_
    refine ev_weak (am_wk (am_wk (am_wk (am_wk (am_wf (am_wf am_wn)))))) (ev_loop 24 108 (fun x4 : Int32 × Int32 => [some (.ref p0), some (.int p1), some (.int x4.1), some (.int x4.2), none, none]) (fun t4 : Int32 => [none, none, some (.int t4), none, none, none]) (fun x4 => (y2.2, S.2)) (fun t4 => (y2.2, S.2)) (fun x4 G4 hB4 hE4 => ?_) (fun t4 => ?_) am_fuel (0, 0))
    · unfold f_X12_understood_b24
      refine ev_iload_n dX12_understood_24 rfl ?_
      refine ev_aload_n dX12_understood_25 rfl ?_
      refine ev_eq (Option.bind_assoc _ _ _) ?_
      refine ev_callP (am_callV (as := []) (o := p0) (st := [.int x4.2]) cv_X12_74 dX12_understood_26 kp0 rfl (am_le rfl) (am_fit (by omega) (by decide) (by decide) (by decide)) (t_X12_houses hl kp0)) (fun v28 h28 => ?_)
      refine ev_eq am_ib ?_
      refine ev_icmp_ge (tgt := 108) dX12_understood_29 (by decide) (fun c29 => ?_) (fun c29 => ?_)
      · exact ev_leaf (am_wf (am_wf (am_wk (am_wf (am_wf (am_wf am_wn)))))) (hE4 x4.1)
      · refine ev_iconst (v := 0) dX12_understood_32 (by decide) ?_
        refine ev_istore dX12_understood_33 (am_lt rfl) ?_
        refine ev_eq (Option.bind_assoc _ _ _) ?_
        refine ev_weak (am_wk (am_wk (am_wk (am_wk (am_wk (am_wf am_wn)))))) (ev_loop 35 102 (fun x30 : Int32 × Int32 => [some (.ref p0), some (.int p1), some (.int x30.1), some (.int x4.2), some (.int x30.2), none]) (fun t30 : Int32 => [some (.ref p0), some (.int p1), some (.int t30), some (.int x4.2), none, none]) (fun x30 => (y2.2, S.2)) (fun t30 => (y2.2, S.2)) (fun x30 G30 hB30 hE30 => ?_) (fun t30 => ?_) am_fuel (x4.1, 0))
        · unfold f_X12_understood_b35
          refine ev_iload dX12_understood_35 rfl ?_
          refine ev_aload_n dX12_understood_37 rfl ?_
          refine ev_eq (Option.bind_assoc _ _ _) ?_
          refine ev_callP (am_callV (as := []) (o := p0) (st := [.int x30.2]) cv_X12_82 dX12_understood_38 kp0 rfl (am_le rfl) (am_fit (by omega) (by decide) (by decide) (by decide)) (t_X12_wants hl kp0)) (fun v41 h41 => ?_)
          refine ev_eq am_ib ?_
          refine ev_icmp_ge (tgt := 102) dX12_understood_41 (by decide) (fun c42 => ?_) (fun c42 => ?_)
          · exact ev_leaf (am_wk (am_wk (am_wk (am_wk (am_wf (am_wf am_wn)))))) (hE30 x30.1)
          · refine ev_aload_n dX12_understood_44 rfl ?_
            refine ev_iload_n dX12_understood_45 rfl ?_
            refine ev_iload dX12_understood_46 rfl ?_
            refine ev_eq (Option.bind_assoc _ _ _) ?_
            refine ev_callP (am_callV (as := [.int p1, .int x30.2]) (o := p0) (st := []) cv_X12_254 dX12_understood_48 kp0 rfl (am_le rfl) (am_fit (by omega) (by decide) (by decide) (by decide)) (t_X12_wordOf hl kp0)) (fun v43 h43 => ?_)
            refine ev_istore dX12_understood_51 (am_lt rfl) ?_
            refine ev_iload_n dX12_understood_53 rfl ?_
            refine ev_iload dX12_understood_54 rfl ?_
            refine ev_eq (Option.bind_assoc _ _ _) ?_
            refine ev_reg (cs' := 0) (sl' := 0) 94 (fun t44 : Int32 => [some (.ref p0), some (.int p1), none, some (.int x4.2), some (.int x30.2), none]) (fun t44 => [.int t44, .int x30.1]) (fun t44 => (y2.2, S.2)) (fun hJ44 => ?_) (fun t44 => ?_)
            · refine ev_eq am_ib ?_
              refine ev_if_le (tgt := 93) dX12_understood_56 (by decide) (fun c44 => ?_) (fun c44 => ?_)
              · refine ev_iconst (v := 0) dX12_understood_93 (by decide) ?_
                exact ev_leaf (am_wk (am_wk (am_wf (am_wk (am_wk (am_wf am_wn)))))) (hJ44 (0 : Int32))
              · refine ev_aload_n dX12_understood_59 rfl ?_
                refine ev_iload_n dX12_understood_60 rfl ?_
                refine ev_iload_n dX12_understood_61 rfl ?_
                refine ev_eq (Option.bind_assoc _ _ _) ?_
                refine ev_callP (am_callV (as := [.int x4.2, .int p1]) (o := p0) (st := [.int x30.1]) cv_X12_251 dX12_understood_62 kp0 rfl (am_le rfl) (am_fit (by omega) (by decide) (by decide) (by decide)) (t_X12_isHearing hl kp0)) (fun v45 h45 => ?_)
                refine ev_eq am_ib ?_
                refine ev_if_eq (tgt := 93) dX12_understood_65 (by decide) (fun c46 => ?_) (fun c46 => ?_)
                · refine ev_iconst (v := 0) dX12_understood_93 (by decide) ?_
                  exact ev_leaf (am_wk (am_wk (am_wf (am_wk (am_wk (am_wf am_wn)))))) (hJ44 (0 : Int32))
                · refine ev_aload_n dX12_understood_68 rfl ?_
                  refine ev_iload_n dX12_understood_69 rfl ?_
                  refine ev_iload dX12_understood_70 rfl ?_
                  refine ev_aload_n dX12_understood_72 rfl ?_
                  refine ev_iload_n dX12_understood_73 rfl ?_
                  refine ev_iload_n dX12_understood_74 rfl ?_
                  refine ev_eq (Option.bind_assoc _ _ _) ?_
                  refine ev_callP (am_callV (as := [.int x4.2, .int p1]) (o := p0) (st := [.int v43, .int p1, .ref p0, .int x30.1]) cv_X12_271 dX12_understood_75 kp0 rfl (am_le rfl) (am_fit (by omega) (by decide) (by decide) (by decide)) (t_X12_clearOf hl kp0)) (fun v47 h47 => ?_)
                  refine ev_eq (Option.bind_assoc _ _ _) ?_
                  refine ev_callP (am_callS (as := [.int v43, .int v47]) (st := [.int p1, .ref p0, .int x30.1]) ct_X12_99 dX12_understood_78 rfl (am_le rfl) (am_fit (by omega) (by decide) (by decide) (by decide)) (t_X12_cut hl )) (fun v48 h48 => ?_)
                  refine ev_eq (Option.bind_assoc _ _ _) ?_
                  refine ev_callP (am_callV (as := [.int p1, .int v48]) (o := p0) (st := [.int x30.1]) cv_X12_296 dX12_understood_81 kp0 rfl (am_le rfl) (am_fit (by omega) (by decide) (by decide) (by decide)) (t_X12_wantOf hl kp0)) (fun v49 h49 => ?_)
                  refine ev_iload dX12_understood_84 rfl ?_
                  refine ev_eq am_ib ?_
                  refine ev_icmp_ne (tgt := 93) dX12_understood_86 (by decide) (fun c50 => ?_) (fun c50 => ?_)
                  · refine ev_iconst (v := 0) dX12_understood_93 (by decide) ?_
                    exact ev_leaf (am_wk (am_wk (am_wf (am_wk (am_wk (am_wf am_wn)))))) (hJ44 (0 : Int32))
                  · refine ev_iconst (v := 1) dX12_understood_89 (by decide) ?_
                    refine ev_goto (tgt := 94) dX12_understood_90 (by decide) ?_
                    exact ev_leaf (am_wk (am_wk (am_wf (am_wk (am_wk (am_wf am_wn)))))) (hJ44 (1 : Int32))
            · refine ev_iadd dX12_understood_94 ?_
              refine ev_istore_n dX12_understood_95 (am_lt rfl) ?_
              refine ev_iinc (v := (x30.2 + 1)) dX12_understood_96 (am_lt rfl) rfl rfl ?_
              refine ev_goto (tgt := 35) dX12_understood_99 (by decide) ?_
              exact ev_leaf (am_wk (am_wk (am_wk (am_wk (am_wk (am_wf am_wn)))))) (hB30 ((x30.1 + t44), (x30.2 + 1)))
        · refine ev_iinc (v := (x4.2 + 1)) dX12_understood_102 (am_lt rfl) rfl rfl ?_
          refine ev_goto (tgt := 24) dX12_understood_105 (by decide) ?_
          exact ev_leaf (am_wk (am_wk (am_wk (am_wk (am_wf (am_wf am_wn)))))) (hB4 (t30, (x4.2 + 1)))
    · refine ev_iload_n dX12_understood_108 rfl ?_
      exact ev_iret dX12_understood_109 rfl rfl (by decide) (by decide) rfl
  · refine ev_iconst (v := 0) dX12_understood_18 (by decide) ?_
    exact ev_iret dX12_understood_19 rfl rfl (by decide) (by decide) rfl
