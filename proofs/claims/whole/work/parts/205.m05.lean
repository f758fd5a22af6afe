def f_X5_ringOn_b16 (S : am_S) (a0 : Nat) (a1 : Int32) (a2 : Int32) (x5 : Int32 × (Nat → Nat → Int32)) : Option ((Int32 × (Nat → Nat → Int32)) ⊕ ((Nat → Nat → Int32))) :=
  (if x5.1 < 8 then ((am_rd S.2 a0 0 1).bind (fun q7 => ((am_ld x5.2 q7 a1).bind (fun v8 => ((if ((v8 >>> (x5.1 &&& 31)) &&& 1) = 1 then ((am_rd S.2 a0 2 1).bind (fun q10 => ((am_ld x5.2 q10 x5.1).bind (fun v11 => (if a2 < v11 then ((am_rd S.2 a0 2 1).bind (fun q13 => ((am_st x5.2 q13 x5.1 a2).bind (fun σ14 => some σ14)))) else some x5.2))))) else some x5.2).bind (fun t9 => some (.inl ((x5.1 + 1), t9)))))))) else some (.inr x5.2))
def f_X5_ringOn (S : am_S) (p0 : Nat) (p1 : Int32) : Option ((Nat → Nat → Int32)) :=
  ((am_rd S.2 p0 2 1).bind (fun q1 => ((am_ld S.1 q1 p1).bind (fun v2 => ((am_rd S.2 p0 1 1).bind (fun q3 => ((am_ld S.1 q3 p1).bind (fun v4 => ((am_loop (f_X5_ringOn_b16 S p0 p1 (v2 + v4)) am_fuel (0, S.1)).bind (fun t5 => some t5))))))))))
set_option maxRecDepth 20000 in
theorem t_X5_ringOn {E : am_E} {l : Launch} (hl : l.stackTraces = false) {S : am_S} {p0 : Nat} {p1 : Int32} (kp0 : am_kd p0 = 105) : am_M E l yX5_ringOn (.code yX5_ringOn cX5_ringOn 4 none) 0 0 0 [.ref p0, .int p1] S ((f_X5_ringOn S p0 p1).map (fun (x : Nat → Nat → Int32) => ((.inl none, (x, S.2)) : am_R))) := by
  refine am_M_of (w := fun (x : Nat → Nat → Int32) => ((.inl none, (x, S.2)) : am_R)) hl (by decide) (am_fc rfl (am_fc rfl am_fn)) (Nat.le_of_ble_eq_true rfl) ?_
  show am_Ev E l (RX5, cX5_ringOn, 4, none, [], am_rm 0 0 0) (fun b a s x => am_Z E 0 0 b a s ((fun (x : Nat → Nat → Int32) => ((.inl none, (x, S.2)) : am_R)) x)) 0 0 0 [some (.ref p0), some (.int p1), none, none] [] S (f_X5_ringOn S p0 p1)
  unfold f_X5_ringOn
  refine ev_aload_n dX5_ringOn_0 rfl ?_
  refine ev_getR fk_X5_18 (by decide) dX5_ringOn_1 kp0 (fun q1 k1 r1 => ?_)
  refine ev_iload_n dX5_ringOn_4 rfl ?_
  refine ev_iald dX5_ringOn_5 k1 (fun v2 h2 => ?_)
  refine ev_aload_n dX5_ringOn_6 rfl ?_
  refine ev_getR fk_X5_15 (by decide) dX5_ringOn_7 kp0 (fun q3 k3 r3 => ?_)
  refine ev_iload_n dX5_ringOn_10 rfl ?_
  refine ev_iald dX5_ringOn_11 k3 (fun v4 h4 => ?_)
  refine ev_iadd dX5_ringOn_12 ?_
  refine ev_istore_n dX5_ringOn_13 (am_lt rfl) ?_
  refine ev_iconst (v := 0) dX5_ringOn_14 (by decide) ?_
  refine ev_istore_n dX5_ringOn_15 (am_lt rfl) ?_
  refine ev_weak (am_wk (am_wk (am_wk (am_wk am_wn)))) (ev_loop 16 59 (fun x5 : Int32 × (Nat → Nat → Int32) => [some (.ref p0), some (.int p1), some (.int (v2 + v4)), some (.int x5.1)]) (fun t5 : (Nat → Nat → Int32) => [none, none, none, none]) (fun x5 => (x5.2, S.2)) (fun t5 => (t5, S.2)) (fun x5 G5 hB5 hE5 => ?_) (fun t5 => ?_) am_fuel (0, S.1))
  · unfold f_X5_ringOn_b16
    refine ev_iload_n dX5_ringOn_16 rfl ?_
    refine ev_bipush (v := 8) dX5_ringOn_17 (by decide) ?_
    refine ev_eq am_ib ?_
    refine ev_icmp_ge (tgt := 59) dX5_ringOn_19 (by decide) (fun c15 => ?_) (fun c15 => ?_)
    · exact ev_leaf (am_wf (am_wf (am_wf (am_wf am_wn)))) (hE5 x5.2)
    · refine ev_aload_n dX5_ringOn_22 rfl ?_
      refine ev_eq (Option.bind_assoc _ _ _) ?_
      refine ev_getR fk_X5_9 (by decide) dX5_ringOn_23 kp0 (fun q16 k16 r16 => ?_)
      refine ev_iload_n dX5_ringOn_26 rfl ?_
      refine ev_eq (Option.bind_assoc _ _ _) ?_
      refine ev_iald dX5_ringOn_27 k16 (fun v17 h17 => ?_)
      refine ev_iload_n dX5_ringOn_28 rfl ?_
      refine ev_ishr dX5_ringOn_29 ?_
      refine ev_iconst (v := 1) dX5_ringOn_30 (by decide) ?_
      refine ev_iand dX5_ringOn_31 ?_
      refine ev_iconst (v := 1) dX5_ringOn_32 (by decide) ?_
      refine ev_eq (Option.bind_assoc _ _ _) ?_
      refine ev_reg (cs' := 0) (sl' := 0) 53 (fun t18 : (Nat → Nat → Int32) => [some (.ref p0), some (.int p1), some (.int (v2 + v4)), some (.int x5.1)]) (fun t18 => []) (fun t18 => (t18, S.2)) (fun hJ18 => ?_) (fun t18 => ?_)
      · refine ev_eq am_ib ?_
        refine ev_icmp_ne (tgt := 53) dX5_ringOn_33 (by decide) (fun c18 => ?_) (fun c18 => ?_)
        · exact ev_leaf (am_wk (am_wk (am_wk (am_wk am_wn)))) (hJ18 x5.2)
        · refine ev_iload_n dX5_ringOn_36 rfl ?_
          refine ev_aload_n dX5_ringOn_37 rfl ?_
          refine ev_eq (Option.bind_assoc _ _ _) ?_
          refine ev_getR fk_X5_18 (by decide) dX5_ringOn_38 kp0 (fun q19 k19 r19 => ?_)
          refine ev_iload_n dX5_ringOn_41 rfl ?_
          refine ev_eq (Option.bind_assoc _ _ _) ?_
          refine ev_iald dX5_ringOn_42 k19 (fun v20 h20 => ?_)
          refine ev_eq am_ib ?_
          refine ev_icmp_ge (tgt := 53) dX5_ringOn_43 (by decide) (fun c21 => ?_) (fun c21 => ?_)
          · exact ev_leaf (am_wk (am_wk (am_wk (am_wk am_wn)))) (hJ18 x5.2)
          · refine ev_aload_n dX5_ringOn_46 rfl ?_
            refine ev_eq (Option.bind_assoc _ _ _) ?_
            refine ev_getR fk_X5_18 (by decide) dX5_ringOn_47 kp0 (fun q22 k22 r22 => ?_)
            refine ev_iload_n dX5_ringOn_50 rfl ?_
            refine ev_iload_n dX5_ringOn_51 rfl ?_
            refine ev_eq (Option.bind_assoc _ _ _) ?_
            refine ev_iast dX5_ringOn_52 k22 (fun σ23 h23 => ?_)
            exact ev_leaf (am_wk (am_wk (am_wk (am_wk am_wn)))) (hJ18 σ23)
      · refine ev_iinc (v := (x5.1 + 1)) dX5_ringOn_53 (am_lt rfl) rfl rfl ?_
        refine ev_goto (tgt := 16) dX5_ringOn_56 (by decide) ?_
        exact ev_leaf (am_wk (am_wk (am_wk (am_wk am_wn)))) (hB5 ((x5.1 + 1), t18))
  · exact ev_vret dX5_ringOn_59 rfl (by decide) (by decide) rfl
def f_X5_minutesTill_b54 (S : am_S) (a0 : Nat) (a4 : Int32) (a5 : Int32) (x12 : Int32 × (Nat → Nat → Int32)) : Option ((Int32 × (Nat → Nat → Int32)) ⊕ ((Nat → Nat → Int32))) :=
  (if x12.1 < 8 then ((f_X5_ringOn (x12.2, S.2) a0 x12.1).bind (fun σ14 => some (.inl ((x12.1 + 1), σ14)))) else some (.inr x12.2))
def f_X5_minutesTill_b44 (S : am_S) (a0 : Nat) (a4 : Int32) (x10 : Int32 × (Nat → Nat → Int32)) : Option ((Int32 × (Nat → Nat → Int32)) ⊕ ((Nat → Nat → Int32))) :=
  (if x10.1 < 8 then ((am_loop (f_X5_minutesTill_b54 (x10.2, S.2) a0 a4 x10.1) am_fuel (0, x10.2)).bind (fun t12 => some (.inl ((x10.1 + 1), t12)))) else some (.inr x10.2))
def f_X5_minutesTill (S : am_S) (p0 : Nat) (p1 : Nat) (p2 : Int32) (p3 : Int32) (p4 : Int32) : Option (Int32 × (Nat → Nat → Int32)) :=
  ((f_X5_prepare S p0 p1 p3).bind (fun σ1 => ((am_rd S.2 p0 2 1).bind (fun q2 => ((f_J7_fill_53178 (σ1, S.2) q2 1000000).bind (fun σ3 => ((f_X9_hasHouse (σ3, S.2) p1 p2).bind (fun v4 => (if v4 = 0 then some ((-1), σ3) else ((f_X9_hasHouse (σ3, S.2) p1 p4).bind (fun v6 => (if v6 = 0 then some ((-1), σ3) else ((am_rd S.2 p0 2 1).bind (fun q8 => ((am_st σ3 q8 p2 0).bind (fun σ9 => ((am_loop (f_X5_minutesTill_b44 (σ9, S.2) p0 p4) am_fuel (0, σ9)).bind (fun t10 => ((am_rd S.2 p0 2 1).bind (fun q23 => ((am_ld t10 q23 p4).bind (fun v24 => (if v24 < 1000000 then ((am_rd S.2 p0 2 1).bind (fun q26 => ((am_ld t10 q26 p4).bind (fun v27 => some (v27, t10))))) else some ((-1), t10))))))))))))))))))))))))
set_option maxRecDepth 20000 in
theorem t_X5_minutesTill {E : am_E} {l : Launch} (hl : l.stackTraces = false) {S : am_S} {p0 : Nat} {p1 : Nat} {p2 : Int32} {p3 : Int32} {p4 : Int32} (kp0 : am_kd p0 = 105) (kp1 : am_kd p1 = 109) : am_M E l yX5_minutesTill (.code yX5_minutesTill cX5_minutesTill 7 (some .int)) 3 0 0 [.ref p0, .ref p1, .int p2, .int p3, .int p4] S ((f_X5_minutesTill S p0 p1 p2 p3 p4).map (fun (x : Int32 × (Nat → Nat → Int32)) => ((.inl (some (.int x.1)), (x.2, S.2)) : am_R))) := by
  refine am_M_of (w := fun (x : Int32 × (Nat → Nat → Int32)) => ((.inl (some (.int x.1)), (x.2, S.2)) : am_R)) hl (by decide) (am_fc rfl (am_fc rfl (am_fc rfl (am_fc rfl (am_fc rfl am_fn))))) (Nat.le_of_ble_eq_true rfl) ?_
  show am_Ev E l (RX5, cX5_minutesTill, 7, (some .int), [], am_rm 3 0 0) (fun b a s x => am_Z E 0 0 b a s ((fun (x : Int32 × (Nat → Nat → Int32)) => ((.inl (some (.int x.1)), (x.2, S.2)) : am_R)) x)) 0 0 0 [some (.ref p0), some (.ref p1), some (.int p2), some (.int p3), some (.int p4), none, none] [] S (f_X5_minutesTill S p0 p1 p2 p3 p4)
  unfold f_X5_minutesTill
  refine ev_aload_n dX5_minutesTill_0 rfl ?_
  refine ev_aload_n dX5_minutesTill_1 rfl ?_
  refine ev_iload_n dX5_minutesTill_2 rfl ?_
  refine ev_callWV (am_callV (as := [.ref p1, .int p3]) (o := p0) (st := []) cv_X5_41 dX5_minutesTill_3 kp0 rfl (am_le rfl) (am_fit (by omega) (by decide) (by decide) (by decide)) (t_X5_prepare hl kp0 kp1)) (fun σ1 h1 => ?_)
  refine ev_aload_n dX5_minutesTill_6 rfl ?_
  refine ev_getR fk_X5_18 (by decide) dX5_minutesTill_7 kp0 (fun q2 k2 r2 => ?_)
  refine ev_ldcI (v := 1000000) dX5_minutesTill_10 (am_G_t (i := 1116) (by decide +kernel) rfl) ?_
  refine ev_callWV (am_callS (as := [.ref q2, .int 1000000]) (st := []) ct_X5_46 dX5_minutesTill_12 rfl (am_le rfl) (am_fit (by omega) (by decide) (by decide) (by decide)) (t_J7_fill_53178 hl k2)) (fun σ3 h3 => ?_)
  refine ev_aload_n dX5_minutesTill_15 rfl ?_
  refine ev_iload_n dX5_minutesTill_16 rfl ?_
  refine ev_callP (am_callVN (as := [.int p2]) (o := p1) (st := []) cv_X5_52 dX5_minutesTill_17 kp1 rfl (am_le rfl) (am_fit (by omega) (by decide) (by decide) (by decide)) (am_no1 (fun _ => ⟨_, rfl⟩)) (t_X9_hasHouse hl kp1)) (fun v4 h4 => ?_)
  refine ev_if_eq (tgt := 32) dX5_minutesTill_20 (by decide) (fun c5 => ?_) (fun c5 => ?_)
  · refine ev_iconst (v := (-1)) dX5_minutesTill_32 (by decide) ?_
    exact ev_iret dX5_minutesTill_33 rfl rfl (by decide) (by decide) rfl
  · refine ev_aload_n dX5_minutesTill_23 rfl ?_
    refine ev_iload dX5_minutesTill_24 rfl ?_
    refine ev_callP (am_callVN (as := [.int p4]) (o := p1) (st := []) cv_X5_52 dX5_minutesTill_26 kp1 rfl (am_le rfl) (am_fit (by omega) (by decide) (by decide) (by decide)) (am_no1 (fun _ => ⟨_, rfl⟩)) (t_X9_hasHouse hl kp1)) (fun v6 h6 => ?_)
    refine ev_if_ne (tgt := 34) dX5_minutesTill_29 (by decide) (fun c7 => ?_) (fun c7 => ?_)
    · refine ev_aload_n dX5_minutesTill_34 rfl ?_
      refine ev_getR fk_X5_18 (by decide) dX5_minutesTill_35 kp0 (fun q8 k8 r8 => ?_)
      refine ev_iload_n dX5_minutesTill_38 rfl ?_
      refine ev_iconst (v := 0) dX5_minutesTill_39 (by decide) ?_
      refine ev_iast dX5_minutesTill_40 k8 (fun σ9 h9 => ?_)
      refine ev_iconst (v := 0) dX5_minutesTill_41 (by decide) ?_
      refine ev_istore dX5_minutesTill_42 (am_lt rfl) ?_
      refine ev_weak (am_wk (am_wf (am_wf (am_wf (am_wk (am_wk (am_wf am_wn))))))) (ev_loop 44 79 (fun x10 : Int32 × (Nat → Nat → Int32) => [some (.ref p0), none, none, none, some (.int p4), some (.int x10.1), none]) (fun t10 : (Nat → Nat → Int32) => [some (.ref p0), none, none, none, some (.int p4), none, none]) (fun x10 => (x10.2, S.2)) (fun t10 => (t10, S.2)) (fun x10 G10 hB10 hE10 => ?_) (fun t10 => ?_) am_fuel (0, σ9))
      · unfold f_X5_minutesTill_b44
        refine ev_iload dX5_minutesTill_44 rfl ?_
        refine ev_bipush (v := 8) dX5_minutesTill_46 (by decide) ?_
        refine ev_eq am_ib ?_
        refine ev_icmp_ge (tgt := 79) dX5_minutesTill_48 (by decide) (fun c17 => ?_) (fun c17 => ?_)
        · exact ev_leaf (am_wk (am_wf (am_wf (am_wf (am_wk (am_wf (am_wf am_wn))))))) (hE10 x10.2)
        · refine ev_iconst (v := 0) dX5_minutesTill_51 (by decide) ?_
          refine ev_istore dX5_minutesTill_52 (am_lt rfl) ?_
          refine ev_eq (Option.bind_assoc _ _ _) ?_
          refine ev_weak (am_wk (am_wf (am_wf (am_wf (am_wk (am_wk (am_wk am_wn))))))) (ev_loop 54 73 (fun x18 : Int32 × (Nat → Nat → Int32) => [some (.ref p0), none, none, none, some (.int p4), some (.int x10.1), some (.int x18.1)]) (fun t18 : (Nat → Nat → Int32) => [some (.ref p0), none, none, none, some (.int p4), some (.int x10.1), none]) (fun x18 => (x18.2, S.2)) (fun t18 => (t18, S.2)) (fun x18 G18 hB18 hE18 => ?_) (fun t18 => ?_) am_fuel (0, x10.2))
          · unfold f_X5_minutesTill_b54
            refine ev_iload dX5_minutesTill_54 rfl ?_
            refine ev_bipush (v := 8) dX5_minutesTill_56 (by decide) ?_
            refine ev_eq am_ib ?_
            refine ev_icmp_ge (tgt := 73) dX5_minutesTill_58 (by decide) (fun c21 => ?_) (fun c21 => ?_)
            · exact ev_leaf (am_wk (am_wf (am_wf (am_wf (am_wk (am_wk (am_wf am_wn))))))) (hE18 x18.2)
            · refine ev_aload_n dX5_minutesTill_61 rfl ?_
              refine ev_iload dX5_minutesTill_62 rfl ?_
              refine ev_eq (Option.bind_assoc _ _ _) ?_
              refine ev_callWV (am_callV (as := [.int x18.1]) (o := p0) (st := []) cv_X5_56 dX5_minutesTill_64 kp0 rfl (am_le rfl) (am_fit (by omega) (by decide) (by decide) (by decide)) (t_X5_ringOn hl kp0)) (fun σ22 h22 => ?_)
              refine ev_iinc (v := (x18.1 + 1)) dX5_minutesTill_67 (am_lt rfl) rfl rfl ?_
              refine ev_goto (tgt := 54) dX5_minutesTill_70 (by decide) ?_
              exact ev_leaf (am_wk (am_wf (am_wf (am_wf (am_wk (am_wk (am_wk am_wn))))))) (hB18 ((x18.1 + 1), σ22))
          · refine ev_iinc (v := (x10.1 + 1)) dX5_minutesTill_73 (am_lt rfl) rfl rfl ?_
            refine ev_goto (tgt := 44) dX5_minutesTill_76 (by decide) ?_
            exact ev_leaf (am_wk (am_wf (am_wf (am_wf (am_wk (am_wk (am_wf am_wn))))))) (hB10 ((x10.1 + 1), t18))
      · refine ev_aload_n dX5_minutesTill_79 rfl ?_
        refine ev_getR fk_X5_18 (by decide) dX5_minutesTill_80 kp0 (fun q23 k23 r23 => ?_)
        refine ev_iload dX5_minutesTill_83 rfl ?_
        refine ev_iald dX5_minutesTill_85 k23 (fun v24 h24 => ?_)
        refine ev_ldcI (v := 1000000) dX5_minutesTill_86 (am_G_t (i := 1116) (by decide +kernel) rfl) ?_
        refine ev_icmp_ge (tgt := 101) dX5_minutesTill_88 (by decide) (fun c25 => ?_) (fun c25 => ?_)
        · refine ev_iconst (v := (-1)) dX5_minutesTill_101 (by decide) ?_
          exact ev_iret dX5_minutesTill_102 rfl rfl (by decide) (by decide) rfl
        · refine ev_aload_n dX5_minutesTill_91 rfl ?_
          refine ev_getR fk_X5_18 (by decide) dX5_minutesTill_92 kp0 (fun q26 k26 r26 => ?_)
          refine ev_iload dX5_minutesTill_95 rfl ?_
          refine ev_iald dX5_minutesTill_97 k26 (fun v27 h27 => ?_)
          refine ev_goto (tgt := 102) dX5_minutesTill_98 (by decide) ?_
          exact ev_iret dX5_minutesTill_102 rfl rfl (by decide) (by decide) rfl
    · refine ev_iconst (v := (-1)) dX5_minutesTill_32 (by decide) ?_
      exact ev_iret dX5_minutesTill_33 rfl rfl (by decide) (by decide) rfl
def f_X11_relay (S : am_S) (p0 : Nat) (p1 : Int32) (p2 : Int32) (p3 : Int32) : Option (am_R) :=
  (am_thV (f_X11_needHouse S p0 p1) (fun S1 => (am_thV (f_X11_needWant S1 p0 p2) (fun S2 => (am_thV (f_X11_needHouse S2 p0 p3) (fun S3 => (am_thV (f_X11_needFirstWord S3 p0 p1 p2) (fun S4 => ((am_rd S4.2 p0 12 105).bind (fun q5 => ((am_rd S4.2 p0 3 109).bind (fun q6 => ((f_X5_minutesTill S4 q5 q6 p1 p2 p3).bind (fun y7 => some (.inl (some (.int y7.1)), (y7.2, S4.2))))))))))))))))
set_option maxRecDepth 20000 in
theorem t_X11_relay {E : am_E} {l : Launch} (hl : l.stackTraces = false) {S : am_S} {p0 : Nat} {p1 : Int32} {p2 : Int32} {p3 : Int32} (kp0 : am_kd p0 = 111) : am_M E l yX11_relay (.code yX11_relay cX11_relay 4 (some .int)) 4 4 24 [.ref p0, .int p1, .int p2, .int p3] S (f_X11_relay S p0 p1 p2 p3) := by
  refine am_M_id (am_M_of (w := fun x => x) hl (by decide) (am_fc rfl (am_fc rfl (am_fc rfl (am_fc rfl am_fn)))) (Nat.le_of_ble_eq_true rfl) ?_)
  show am_Ev E l (RX11, cX11_relay, 4, (some .int), [], am_rm 4 4 24) (am_Z E 4 24) 0 0 0 [some (.ref p0), some (.int p1), some (.int p2), some (.int p3)] [] S (f_X11_relay S p0 p1 p2 p3)
  unfold f_X11_relay
  refine ev_aload_n dX11_relay_0 rfl ?_
  refine ev_iload_n dX11_relay_1 rfl ?_
  refine ev_callGV (am_callV (as := [.int p1]) (o := p0) (st := []) cv_X11_138 dX11_relay_2 kp0 rfl (am_le rfl) (am_fit (by omega) (by decide) (by decide) (by decide)) (t_X11_needHouse hl kp0)) rfl (by decide) (by decide) (fun S1 h1 => ?_)
  refine ev_aload_n dX11_relay_5 rfl ?_
  refine ev_iload_n dX11_relay_6 rfl ?_
  refine ev_callGV (am_callV (as := [.int p2]) (o := p0) (st := []) cv_X11_165 dX11_relay_7 kp0 rfl (am_le rfl) (am_fit (by omega) (by decide) (by decide) (by decide)) (t_X11_needWant hl kp0)) rfl (by decide) (by decide) (fun S2 h2 => ?_)
  refine ev_aload_n dX11_relay_10 rfl ?_
  refine ev_iload_n dX11_relay_11 rfl ?_
  refine ev_callGV (am_callV (as := [.int p3]) (o := p0) (st := []) cv_X11_138 dX11_relay_12 kp0 rfl (am_le rfl) (am_fit (by omega) (by decide) (by decide) (by decide)) (t_X11_needHouse hl kp0)) rfl (by decide) (by decide) (fun S3 h3 => ?_)
  refine ev_aload_n dX11_relay_15 rfl ?_
  refine ev_iload_n dX11_relay_16 rfl ?_
  refine ev_iload_n dX11_relay_17 rfl ?_
  refine ev_callGV (am_callV (as := [.int p1, .int p2]) (o := p0) (st := []) cv_X11_262 dX11_relay_18 kp0 rfl (am_le rfl) (am_fit (by omega) (by decide) (by decide) (by decide)) (t_X11_needFirstWord hl kp0)) rfl (by decide) (by decide) (fun S4 h4 => ?_)
  refine ev_aload_n dX11_relay_21 rfl ?_
  refine ev_getR fk_X11_65 (by decide) dX11_relay_22 kp0 (fun q5 k5 r5 => ?_)
  refine ev_aload_n dX11_relay_25 rfl ?_
  refine ev_getR fk_X11_20 (by decide) dX11_relay_26 kp0 (fun q6 k6 r6 => ?_)
  refine ev_iload_n dX11_relay_29 rfl ?_
  refine ev_iload_n dX11_relay_30 rfl ?_
  refine ev_iload_n dX11_relay_31 rfl ?_
  refine ev_callWI (am_callVN (as := [.ref q6, .int p1, .int p2, .int p3]) (o := q5) (st := []) cv_X11_266 dX11_relay_32 k5 rfl (am_le rfl) (am_fit (by omega) (by decide) (by decide) (by decide)) (am_no1 (fun _ => ⟨_, rfl⟩)) (t_X5_minutesTill hl k5 k6)) (fun y7 h7 => ?_)
  exact ev_iret dX11_relay_35 rfl rfl (by decide) (by decide) rfl
def f_X5_knownBy_b17 (S : am_S) (a0 : Nat) (a1 : Int32) (a4 : Int32) (x3 : Int32 × Int32) : Option ((Int32 × Int32) ⊕ (Int32)) :=
  (if x3.2 < 8 then ((if ((x3.1 &&& a1) &&& ((1 : Int32) <<< (x3.2 &&& 31))) = 0 then some x3.1 else ((am_rd S.2 a0 0 1).bind (fun q6 => ((am_ld S.1 q6 x3.2).bind (fun v7 => some (x3.1 ||| v7)))))).bind (fun t5 => some (.inl (t5, (x3.2 + 1))))) else some (.inr x3.1))
def f_X5_knownBy_b7 (S : am_S) (a0 : Nat) (a1 : Int32) (x1 : Int32 × Int32) : Option ((Int32 × Int32) ⊕ (Int32)) :=
  (if x1.2 < 8 then ((am_loop (f_X5_knownBy_b17 S a0 a1 x1.2) am_fuel (x1.1, 0)).bind (fun t3 => some (.inl (t3, (x1.2 + 1))))) else some (.inr x1.1))
def f_X5_knownBy (S : am_S) (p0 : Nat) (p1 : Int32) (p2 : Int32) : Option (Int32) :=
  ((am_loop (f_X5_knownBy_b7 S p0 p1) am_fuel (((1 : Int32) <<< (p2 &&& 31)), 0)).bind (fun t1 => some t1))
set_option maxRecDepth 20000 in
theorem t_X5_knownBy {E : am_E} {l : Launch} (hl : l.stackTraces = false) {S : am_S} {p0 : Nat} {p1 : Int32} {p2 : Int32} (kp0 : am_kd p0 = 105) : am_M E l yX5_knownBy (.code yX5_knownBy cX5_knownBy 6 (some .int)) 0 0 0 [.ref p0, .int p1, .int p2] S ((f_X5_knownBy S p0 p1 p2).map (fun (v : Int32) => ((.inl (some (.int v)), S) : am_R))) := by
  refine am_M_of (w := fun (v : Int32) => ((.inl (some (.int v)), S) : am_R)) hl (by decide) (am_fc rfl (am_fc rfl (am_fc rfl am_fn))) (Nat.le_of_ble_eq_true rfl) ?_
  show am_Ev E l (RX5, cX5_knownBy, 6, (some .int), [], am_rm 0 0 0) (fun b a s x => am_Z E 0 0 b a s ((fun (v : Int32) => ((.inl (some (.int v)), S) : am_R)) x)) 0 0 0 [some (.ref p0), some (.int p1), some (.int p2), none, none, none] [] S (f_X5_knownBy S p0 p1 p2)
  unfold f_X5_knownBy
  refine ev_iconst (v := 1) dX5_knownBy_0 (by decide) ?_
  refine ev_iload_n dX5_knownBy_1 rfl ?_
  refine ev_ishl dX5_knownBy_2 ?_
  refine ev_istore_n dX5_knownBy_3 (am_lt rfl) ?_
  refine ev_iconst (v := 0) dX5_knownBy_4 (by decide) ?_
  refine ev_istore dX5_knownBy_5 (am_lt rfl) ?_
  refine ev_weak (am_wk (am_wk (am_wf (am_wk (am_wk (am_wf am_wn)))))) (ev_loop 7 57 (fun x1 : Int32 × Int32 => [some (.ref p0), some (.int p1), none, some (.int x1.1), some (.int x1.2), none]) (fun t1 : Int32 => [none, none, none, some (.int t1), none, none]) (fun x1 => S) (fun t1 => S) (fun x1 G1 hB1 hE1 => ?_) (fun t1 => ?_) am_fuel (((1 : Int32) <<< (p2 &&& 31)), 0))
  · unfold f_X5_knownBy_b7
    refine ev_iload dX5_knownBy_7 rfl ?_
    refine ev_bipush (v := 8) dX5_knownBy_9 (by decide) ?_
    refine ev_eq am_ib ?_
    refine ev_icmp_ge (tgt := 57) dX5_knownBy_11 (by decide) (fun c12 => ?_) (fun c12 => ?_)
    · exact ev_leaf (am_wf (am_wf (am_wf (am_wk (am_wf (am_wf am_wn)))))) (hE1 x1.1)
    · refine ev_iconst (v := 0) dX5_knownBy_14 (by decide) ?_
      refine ev_istore dX5_knownBy_15 (am_lt rfl) ?_
      refine ev_eq (Option.bind_assoc _ _ _) ?_
      refine ev_weak (am_wk (am_wk (am_wf (am_wk (am_wk (am_wk am_wn)))))) (ev_loop 17 51 (fun x13 : Int32 × Int32 => [some (.ref p0), some (.int p1), none, some (.int x13.1), some (.int x1.2), some (.int x13.2)]) (fun t13 : Int32 => [some (.ref p0), some (.int p1), none, some (.int t13), some (.int x1.2), none]) (fun x13 => S) (fun t13 => S) (fun x13 G13 hB13 hE13 => ?_) (fun t13 => ?_) am_fuel (x1.1, 0))
      · unfold f_X5_knownBy_b17
        refine ev_iload dX5_knownBy_17 rfl ?_
        refine ev_bipush (v := 8) dX5_knownBy_19 (by decide) ?_
        refine ev_eq am_ib ?_
        refine ev_icmp_ge (tgt := 51) dX5_knownBy_21 (by decide) (fun c18 => ?_) (fun c18 => ?_)
        · exact ev_leaf (am_wk (am_wk (am_wf (am_wk (am_wk (am_wf am_wn)))))) (hE13 x13.1)
        · refine ev_iload_n dX5_knownBy_24 rfl ?_
          refine ev_iload_n dX5_knownBy_25 rfl ?_
          refine ev_iand dX5_knownBy_26 ?_
          refine ev_iconst (v := 1) dX5_knownBy_27 (by decide) ?_
          refine ev_iload dX5_knownBy_28 rfl ?_
          refine ev_ishl dX5_knownBy_30 ?_
          refine ev_iand dX5_knownBy_31 ?_
          refine ev_eq (Option.bind_assoc _ _ _) ?_
          refine ev_reg (cs' := 0) (sl' := 0) 45 (fun t19 : Int32 => [some (.ref p0), some (.int p1), none, some (.int t19), some (.int x1.2), some (.int x13.2)]) (fun t19 => []) (fun t19 => S) (fun hJ19 => ?_) (fun t19 => ?_)
          · refine ev_eq am_ib ?_
            refine ev_if_eq (tgt := 45) dX5_knownBy_32 (by decide) (fun c19 => ?_) (fun c19 => ?_)
            · exact ev_leaf (am_wk (am_wk (am_wf (am_wk (am_wk (am_wk am_wn)))))) (hJ19 x13.1)
            · refine ev_iload_n dX5_knownBy_35 rfl ?_
              refine ev_aload_n dX5_knownBy_36 rfl ?_
              refine ev_eq (Option.bind_assoc _ _ _) ?_
              refine ev_getR fk_X5_9 (by decide) dX5_knownBy_37 kp0 (fun q20 k20 r20 => ?_)
              refine ev_iload dX5_knownBy_40 rfl ?_
              refine ev_eq (Option.bind_assoc _ _ _) ?_
              refine ev_iald dX5_knownBy_42 k20 (fun v21 h21 => ?_)
              refine ev_ior dX5_knownBy_43 ?_
              refine ev_istore_n dX5_knownBy_44 (am_lt rfl) ?_
              exact ev_leaf (am_wk (am_wk (am_wf (am_wk (am_wk (am_wk am_wn)))))) (hJ19 (x13.1 ||| v21))
          · refine ev_iinc (v := (x13.2 + 1)) dX5_knownBy_45 (am_lt rfl) rfl rfl ?_
            refine ev_goto (tgt := 17) dX5_knownBy_48 (by decide) ?_
            exact ev_leaf (am_wk (am_wk (am_wf (am_wk (am_wk (am_wk am_wn)))))) (hB13 (t19, (x13.2 + 1)))
      · refine ev_iinc (v := (x1.2 + 1)) dX5_knownBy_51 (am_lt rfl) rfl rfl ?_
        refine ev_goto (tgt := 7) dX5_knownBy_54 (by decide) ?_
        exact ev_leaf (am_wk (am_wk (am_wf (am_wk (am_wk (am_wf am_wn)))))) (hB1 (t13, (x1.2 + 1)))
  · refine ev_iload_n dX5_knownBy_57 rfl ?_
    exact ev_iret dX5_knownBy_58 rfl rfl (by decide) (by decide) rfl
def f_X5_fewestFrom_b12 (S : am_S) (a0 : Nat) (a1 : Nat) (a2 : Int32) (x2 : Int32 × Int32) : Option ((Int32 × Int32) ⊕ (Int32)) :=
  (if x2.2 < (S.1 a1 0) then (if x2.2 < 8 then ((am_rd S.2 a1 10 1).bind (fun q5 => ((am_ld S.1 q5 x2.2).bind (fun v6 => ((if v6 = 0 then some (x2.1 ||| ((1 : Int32) <<< (x2.2 &&& 31))) else some x2.1).bind (fun t7 => some (.inl (t7, (x2.2 + 1))))))))) else some (.inr x2.1)) else some (.inr x2.1))
def f_X5_fewestFrom_b59 (S : am_S) (a0 : Nat) (a1 : Nat) (a2 : Int32) (a4 : Int32) (x13 : Int32 × Int32) : Option ((Int32 × Int32) ⊕ (Int32)) :=
  (if x13.2 < ((1 : Int32) <<< ((S.1 a1 0) &&& 31)) then ((if x13.1 = (-1) then some (1 : Int32) else ((f_J6_bitCount_0f7a4 x13.2).bind (fun v16 => ((f_J6_bitCount_0f7a4 x13.1).bind (fun v17 => (if v16 < v17 then some (1 : Int32) else some (0 : Int32))))))).bind (fun t15 => ((if t15 = 0 then some x13.1 else (if ((x13.2 >>> (a2 &&& 31)) &&& 1) = 1 then ((f_X5_knownBy S a0 x13.2 a2).bind (fun v21 => (if (a4 &&& (v21 ^^^ (-1))) = 0 then some x13.2 else some x13.1))) else some x13.1)).bind (fun t19 => some (.inl (t19, (x13.2 + 1))))))) else some (.inr x13.1))
def f_X5_fewestFrom (S : am_S) (p0 : Nat) (p1 : Nat) (p2 : Int32) (p3 : Int32) : Option (Int32 × (Nat → Nat → Int32)) :=
  ((f_X5_prepare S p0 p1 p3).bind (fun σ1 => ((am_loop (f_X5_fewestFrom_b12 (σ1, S.2) p0 p1 p2) am_fuel (0, 0)).bind (fun t2 => ((am_loop (f_X5_fewestFrom_b59 (σ1, S.2) p0 p1 p2 t2) am_fuel ((-1), 1)).bind (fun t13 => some (t13, σ1)))))))
set_option maxRecDepth 20000 in
theorem t_X5_fewestFrom {E : am_E} {l : Launch} (hl : l.stackTraces = false) {S : am_S} {p0 : Nat} {p1 : Nat} {p2 : Int32} {p3 : Int32} (kp0 : am_kd p0 = 105) (kp1 : am_kd p1 = 109) : am_M E l yX5_fewestFrom (.code yX5_fewestFrom cX5_fewestFrom 8 (some .int)) 3 0 0 [.ref p0, .ref p1, .int p2, .int p3] S ((f_X5_fewestFrom S p0 p1 p2 p3).map (fun (x : Int32 × (Nat → Nat → Int32)) => ((.inl (some (.int x.1)), (x.2, S.2)) : am_R))) := by
  refine am_M_of (w := fun (x : Int32 × (Nat → Nat → Int32)) => ((.inl (some (.int x.1)), (x.2, S.2)) : am_R)) hl (by decide) (am_fc rfl (am_fc rfl (am_fc rfl (am_fc rfl am_fn)))) (Nat.le_of_ble_eq_true rfl) ?_
  show am_Ev E l (RX5, cX5_fewestFrom, 8, (some .int), [], am_rm 3 0 0) (fun b a s x => am_Z E 0 0 b a s ((fun (x : Int32 × (Nat → Nat → Int32)) => ((.inl (some (.int x.1)), (x.2, S.2)) : am_R)) x)) 0 0 0 [some (.ref p0), some (.ref p1), some (.int p2), some (.int p3), none, none, none, none] [] S (f_X5_fewestFrom S p0 p1 p2 p3)
  unfold f_X5_fewestFrom
  refine ev_aload_n dX5_fewestFrom_0 rfl ?_
  refine ev_aload_n dX5_fewestFrom_1 rfl ?_
  refine ev_iload_n dX5_fewestFrom_2 rfl ?_
  refine ev_callWV (am_callV (as := [.ref p1, .int p3]) (o := p0) (st := []) cv_X5_41 dX5_fewestFrom_3 kp0 rfl (am_le rfl) (am_fit (by omega) (by decide) (by decide) (by decide)) (t_X5_prepare hl kp0 kp1)) (fun σ1 h1 => ?_)
  refine ev_iconst (v := 0) dX5_fewestFrom_6 (by decide) ?_
  refine ev_istore dX5_fewestFrom_7 (am_lt rfl) ?_
  refine ev_iconst (v := 0) dX5_fewestFrom_9 (by decide) ?_
  refine ev_istore dX5_fewestFrom_10 (am_lt rfl) ?_
  refine ev_weak (am_wk (am_wk (am_wk (am_wf (am_wk (am_wk (am_wf (am_wf am_wn)))))))) (ev_loop 12 53 (fun x2 : Int32 × Int32 => [some (.ref p0), some (.ref p1), some (.int p2), none, some (.int x2.1), some (.int x2.2), none, none]) (fun t2 : Int32 => [some (.ref p0), some (.ref p1), some (.int p2), none, some (.int t2), none, none, none]) (fun x2 => (σ1, S.2)) (fun t2 => (σ1, S.2)) (fun x2 G2 hB2 hE2 => ?_) (fun t2 => ?_) am_fuel (0, 0))
  · unfold f_X5_fewestFrom_b12
    refine ev_iload dX5_fewestFrom_12 rfl ?_
    refine ev_aload_n dX5_fewestFrom_14 rfl ?_
    refine ev_getN fk_X5_34 dX5_fewestFrom_15 kp1 (am_fvI (by decide)) ?_
    refine ev_eq am_ib ?_
    refine ev_icmp_ge (tgt := 53) dX5_fewestFrom_18 (by decide) (fun c8 => ?_) (fun c8 => ?_)
    · exact ev_leaf (am_wk (am_wk (am_wk (am_wf (am_wk (am_wf (am_wf (am_wf am_wn)))))))) (hE2 x2.1)
    · refine ev_iload dX5_fewestFrom_21 rfl ?_
      refine ev_bipush (v := 8) dX5_fewestFrom_23 (by decide) ?_
      refine ev_eq am_ib ?_
      refine ev_icmp_ge (tgt := 53) dX5_fewestFrom_25 (by decide) (fun c9 => ?_) (fun c9 => ?_)
      · exact ev_leaf (am_wk (am_wk (am_wk (am_wf (am_wk (am_wf (am_wf (am_wf am_wn)))))))) (hE2 x2.1)
      · refine ev_aload_n dX5_fewestFrom_28 rfl ?_
        refine ev_eq (Option.bind_assoc _ _ _) ?_
        refine ev_getRN fk_X5_60 (by decide) dX5_fewestFrom_29 kp1 (fun q10 k10 r10 => ?_)
        refine ev_iload dX5_fewestFrom_32 rfl ?_
        refine ev_eq (Option.bind_assoc _ _ _) ?_
        refine ev_iald dX5_fewestFrom_34 k10 (fun v11 h11 => ?_)
        refine ev_eq (Option.bind_assoc _ _ _) ?_
        refine ev_reg (cs' := 0) (sl' := 0) 47 (fun t12 : Int32 => [some (.ref p0), some (.ref p1), some (.int p2), none, some (.int t12), some (.int x2.2), none, none]) (fun t12 => []) (fun t12 => (σ1, S.2)) (fun hJ12 => ?_) (fun t12 => ?_)
        · refine ev_eq am_ib ?_
          refine ev_if_ne (tgt := 47) dX5_fewestFrom_35 (by decide) (fun c12 => ?_) (fun c12 => ?_)
          · exact ev_leaf (am_wk (am_wk (am_wk (am_wf (am_wk (am_wk (am_wf (am_wf am_wn)))))))) (hJ12 x2.1)
          · refine ev_iload dX5_fewestFrom_38 rfl ?_
            refine ev_iconst (v := 1) dX5_fewestFrom_40 (by decide) ?_
            refine ev_iload dX5_fewestFrom_41 rfl ?_
            refine ev_ishl dX5_fewestFrom_43 ?_
            refine ev_ior dX5_fewestFrom_44 ?_
            refine ev_istore dX5_fewestFrom_45 (am_lt rfl) ?_
            exact ev_leaf (am_wk (am_wk (am_wk (am_wf (am_wk (am_wk (am_wf (am_wf am_wn)))))))) (hJ12 (x2.1 ||| ((1 : Int32) <<< (x2.2 &&& 31))))
        · refine ev_iinc (v := (x2.2 + 1)) dX5_fewestFrom_47 (am_lt rfl) rfl rfl ?_
          refine ev_goto (tgt := 12) dX5_fewestFrom_50 (by decide) ?_
          exact ev_leaf (am_wk (am_wk (am_wk (am_wf (am_wk (am_wk (am_wf (am_wf am_wn)))))))) (hB2 (t12, (x2.2 + 1)))
  · refine ev_iconst (v := (-1)) dX5_fewestFrom_53 (by decide) ?_
    refine ev_istore dX5_fewestFrom_54 (am_lt rfl) ?_
    refine ev_iconst (v := 1) dX5_fewestFrom_56 (by decide) ?_
    refine ev_istore dX5_fewestFrom_57 (am_lt rfl) ?_
    refine ev_weak (am_wk (am_wk (am_wk (am_wf (am_wk (am_wk (am_wk (am_wf am_wn)))))))) (ev_loop 59 136 (fun x13 : Int32 × Int32 => [some (.ref p0), some (.ref p1), some (.int p2), none, some (.int t2), some (.int x13.1), some (.int x13.2), none]) (fun t13 : Int32 => [none, none, none, none, none, some (.int t13), none, none]) (fun x13 => (σ1, S.2)) (fun t13 => (σ1, S.2)) (fun x13 G13 hB13 hE13 => ?_) (fun t13 => ?_) am_fuel ((-1), 1))
    · unfold f_X5_fewestFrom_b59
      refine ev_iload dX5_fewestFrom_59 rfl ?_
      refine ev_iconst (v := 1) dX5_fewestFrom_61 (by decide) ?_
      refine ev_aload_n dX5_fewestFrom_62 rfl ?_
      refine ev_getN fk_X5_34 dX5_fewestFrom_63 kp1 (am_fvI (by decide)) ?_
      refine ev_ishl dX5_fewestFrom_66 ?_
      refine ev_eq am_ib ?_
      refine ev_icmp_ge (tgt := 136) dX5_fewestFrom_67 (by decide) (fun c23 => ?_) (fun c23 => ?_)
      · exact ev_leaf (am_wf (am_wf (am_wf (am_wf (am_wf (am_wk (am_wf (am_wf am_wn)))))))) (hE13 x13.1)
      · refine ev_iload dX5_fewestFrom_70 rfl ?_
        refine ev_iconst (v := (-1)) dX5_fewestFrom_72 (by decide) ?_
        refine ev_eq (Option.bind_assoc _ _ _) ?_
        refine ev_reg (cs' := 0) (sl' := 0) 94 (fun t24 : Int32 => [some (.ref p0), some (.ref p1), some (.int p2), none, some (.int t2), some (.int x13.1), some (.int x13.2), none]) (fun t24 => [.int t24]) (fun t24 => (σ1, S.2)) (fun hJ24 => ?_) (fun t24 => ?_)
        · refine ev_eq am_ib ?_
          refine ev_icmp_eq (tgt := 89) dX5_fewestFrom_73 (by decide) (fun c24 => ?_) (fun c24 => ?_)
          · refine ev_iconst (v := 1) dX5_fewestFrom_89 (by decide) ?_
            refine ev_goto (tgt := 94) dX5_fewestFrom_90 (by decide) ?_
            exact ev_leaf (am_wk (am_wk (am_wk (am_wf (am_wk (am_wk (am_wk (am_wf am_wn)))))))) (hJ24 (1 : Int32))
          · refine ev_iload dX5_fewestFrom_76 rfl ?_
            refine ev_eq (Option.bind_assoc _ _ _) ?_
            refine ev_callP (am_callS (as := [.int x13.2]) (st := []) ct_X5_63 dX5_fewestFrom_78 rfl (am_le rfl) (am_fit (by omega) (by decide) (by decide) (by decide)) (t_J6_bitCount_0f7a4 hl )) (fun v25 h25 => ?_)
            refine ev_iload dX5_fewestFrom_81 rfl ?_
            refine ev_eq (Option.bind_assoc _ _ _) ?_
            refine ev_callP (am_callS (as := [.int x13.1]) (st := [.int v25]) ct_X5_63 dX5_fewestFrom_83 rfl (am_le rfl) (am_fit (by omega) (by decide) (by decide) (by decide)) (t_J6_bitCount_0f7a4 hl )) (fun v26 h26 => ?_)
            refine ev_eq am_ib ?_
            refine ev_icmp_ge (tgt := 93) dX5_fewestFrom_86 (by decide) (fun c27 => ?_) (fun c27 => ?_)
            · refine ev_iconst (v := 0) dX5_fewestFrom_93 (by decide) ?_
              exact ev_leaf (am_wk (am_wk (am_wk (am_wf (am_wk (am_wk (am_wk (am_wf am_wn)))))))) (hJ24 (0 : Int32))
            · refine ev_iconst (v := 1) dX5_fewestFrom_89 (by decide) ?_
              refine ev_goto (tgt := 94) dX5_fewestFrom_90 (by decide) ?_
              exact ev_leaf (am_wk (am_wk (am_wk (am_wf (am_wk (am_wk (am_wk (am_wf am_wn)))))))) (hJ24 (1 : Int32))
        · refine ev_istore dX5_fewestFrom_94 (am_lt rfl) ?_
          refine ev_iload dX5_fewestFrom_96 rfl ?_
          refine ev_eq (Option.bind_assoc _ _ _) ?_
          refine ev_reg (cs' := 0) (sl' := 0) 130 (fun t28 : Int32 => [some (.ref p0), some (.ref p1), some (.int p2), none, some (.int t2), some (.int t28), some (.int x13.2), none]) (fun t28 => []) (fun t28 => (σ1, S.2)) (fun hJ28 => ?_) (fun t28 => ?_)
          · refine ev_eq am_ib ?_
            refine ev_if_eq (tgt := 130) dX5_fewestFrom_98 (by decide) (fun c28 => ?_) (fun c28 => ?_)
            · exact ev_leaf (am_wk (am_wk (am_wk (am_wf (am_wk (am_wk (am_wk (am_wf am_wn)))))))) (hJ28 x13.1)
            · refine ev_iload dX5_fewestFrom_101 rfl ?_
              refine ev_iload_n dX5_fewestFrom_103 rfl ?_
              refine ev_ishr dX5_fewestFrom_104 ?_
              refine ev_iconst (v := 1) dX5_fewestFrom_105 (by decide) ?_
              refine ev_iand dX5_fewestFrom_106 ?_
              refine ev_iconst (v := 1) dX5_fewestFrom_107 (by decide) ?_
              refine ev_eq am_ib ?_
              refine ev_icmp_ne (tgt := 130) dX5_fewestFrom_108 (by decide) (fun c29 => ?_) (fun c29 => ?_)
              · exact ev_leaf (am_wk (am_wk (am_wk (am_wf (am_wk (am_wk (am_wk (am_wf am_wn)))))))) (hJ28 x13.1)
              · refine ev_iload dX5_fewestFrom_111 rfl ?_
                refine ev_aload_n dX5_fewestFrom_113 rfl ?_
                refine ev_iload dX5_fewestFrom_114 rfl ?_
                refine ev_iload_n dX5_fewestFrom_116 rfl ?_
                refine ev_eq (Option.bind_assoc _ _ _) ?_
                refine ev_callP (am_callV (as := [.int x13.2, .int p2]) (o := p0) (st := [.int t2]) cv_X5_68 dX5_fewestFrom_117 kp0 rfl (am_le rfl) (am_fit (by omega) (by decide) (by decide) (by decide)) (t_X5_knownBy hl kp0)) (fun v30 h30 => ?_)
                refine ev_iconst (v := (-1)) dX5_fewestFrom_120 (by decide) ?_
                refine ev_ixor dX5_fewestFrom_121 ?_
                refine ev_iand dX5_fewestFrom_122 ?_
                refine ev_eq am_ib ?_
                refine ev_if_ne (tgt := 130) dX5_fewestFrom_123 (by decide) (fun c31 => ?_) (fun c31 => ?_)
                · exact ev_leaf (am_wk (am_wk (am_wk (am_wf (am_wk (am_wk (am_wk (am_wf am_wn)))))))) (hJ28 x13.1)
                · refine ev_iload dX5_fewestFrom_126 rfl ?_
                  refine ev_istore dX5_fewestFrom_128 (am_lt rfl) ?_
                  exact ev_leaf (am_wk (am_wk (am_wk (am_wf (am_wk (am_wk (am_wk (am_wf am_wn)))))))) (hJ28 x13.2)
          · refine ev_iinc (v := (x13.2 + 1)) dX5_fewestFrom_130 (am_lt rfl) rfl rfl ?_
            refine ev_goto (tgt := 59) dX5_fewestFrom_133 (by decide) ?_
            exact ev_leaf (am_wk (am_wk (am_wk (am_wf (am_wk (am_wk (am_wk (am_wf am_wn)))))))) (hB13 (t28, (x13.2 + 1)))
    · refine ev_iload dX5_fewestFrom_136 rfl ?_
      exact ev_iret dX5_fewestFrom_138 rfl rfl (by decide) (by decide) rfl
def f_X11_ringers (S : am_S) (p0 : Nat) (p1 : Int32) (p2 : Int32) : Option (am_R) :=
  (am_thV (f_X11_needHouse S p0 p1) (fun S1 => (am_thV (f_X11_needWant S1 p0 p2) (fun S2 => (am_thV (f_X11_needFirstWord S2 p0 p1 p2) (fun S3 => ((am_rd S3.2 p0 12 105).bind (fun q4 => ((am_rd S3.2 p0 3 109).bind (fun q5 => ((f_X5_fewestFrom S3 q4 q5 p1 p2).bind (fun y6 => some (.inl (some (.int y6.1)), (y6.2, S3.2))))))))))))))
set_option maxRecDepth 20000 in
theorem t_X11_ringers {E : am_E} {l : Launch} (hl : l.stackTraces = false) {S : am_S} {p0 : Nat} {p1 : Int32} {p2 : Int32} (kp0 : am_kd p0 = 111) : am_M E l yX11_ringers (.code yX11_ringers cX11_ringers 3 (some .int)) 4 3 18 [.ref p0, .int p1, .int p2] S (f_X11_ringers S p0 p1 p2) := by
  refine am_M_id (am_M_of (w := fun x => x) hl (by decide) (am_fc rfl (am_fc rfl (am_fc rfl am_fn))) (Nat.le_of_ble_eq_true rfl) ?_)
  show am_Ev E l (RX11, cX11_ringers, 3, (some .int), [], am_rm 4 3 18) (am_Z E 3 18) 0 0 0 [some (.ref p0), some (.int p1), some (.int p2)] [] S (f_X11_ringers S p0 p1 p2)
  unfold f_X11_ringers
  refine ev_aload_n dX11_ringers_0 rfl ?_
  refine ev_iload_n dX11_ringers_1 rfl ?_
  refine ev_callGV (am_callV (as := [.int p1]) (o := p0) (st := []) cv_X11_138 dX11_ringers_2 kp0 rfl (am_le rfl) (am_fit (by omega) (by decide) (by decide) (by decide)) (t_X11_needHouse hl kp0)) rfl (by decide) (by decide) (fun S1 h1 => ?_)
  refine ev_aload_n dX11_ringers_5 rfl ?_
  refine ev_iload_n dX11_ringers_6 rfl ?_
  refine ev_callGV (am_callV (as := [.int p2]) (o := p0) (st := []) cv_X11_165 dX11_ringers_7 kp0 rfl (am_le rfl) (am_fit (by omega) (by decide) (by decide) (by decide)) (t_X11_needWant hl kp0)) rfl (by decide) (by decide) (fun S2 h2 => ?_)
  refine ev_aload_n dX11_ringers_10 rfl ?_
  refine ev_iload_n dX11_ringers_11 rfl ?_
  refine ev_iload_n dX11_ringers_12 rfl ?_
  refine ev_callGV (am_callV (as := [.int p1, .int p2]) (o := p0) (st := []) cv_X11_262 dX11_ringers_13 kp0 rfl (am_le rfl) (am_fit (by omega) (by decide) (by decide) (by decide)) (t_X11_needFirstWord hl kp0)) rfl (by decide) (by decide) (fun S3 h3 => ?_)
  refine ev_aload_n dX11_ringers_16 rfl ?_
  refine ev_getR fk_X11_65 (by decide) dX11_ringers_17 kp0 (fun q4 k4 r4 => ?_)
  refine ev_aload_n dX11_ringers_20 rfl ?_
  refine ev_getR fk_X11_20 (by decide) dX11_ringers_21 kp0 (fun q5 k5 r5 => ?_)
  refine ev_iload_n dX11_ringers_24 rfl ?_
  refine ev_iload_n dX11_ringers_25 rfl ?_
  refine ev_callWI (am_callVN (as := [.ref q5, .int p1, .int p2]) (o := q4) (st := []) cv_X11_270 dX11_ringers_26 k4 rfl (am_le rfl) (am_fit (by omega) (by decide) (by decide) (by decide)) (am_no1 (fun _ => ⟨_, rfl⟩)) (t_X5_fewestFrom hl k4 k5)) (fun y6 h6 => ?_)
  exact ev_iret dX11_ringers_29 rfl rfl (by decide) (by decide) rfl
def f_X11_needSixWhat (S : am_S) (p0 : Nat) (p1 : Int32) : Option (am_R) :=
  (if p1 = 0 then some (.inl none, S) else (if p1 = 1 then some (.inl none, S) else some (.inr 3, S)))
set_option maxRecDepth 20000 in
theorem t_X11_needSixWhat {E : am_E} {l : Launch} (hl : l.stackTraces = false) {S : am_S} {p0 : Nat} {p1 : Int32} (kp0 : am_kd p0 = 111) : am_M E l yX11_needSixWhat (.code yX11_needSixWhat cX11_needSixWhat 2 none) 0 1 6 [.ref p0, .int p1] S (f_X11_needSixWhat S p0 p1) := by
  refine am_M_id (am_M_of (w := fun x => x) hl (by decide) (am_fc rfl (am_fc rfl am_fn)) (Nat.le_of_ble_eq_true rfl) ?_)
  show am_Ev E l (RX11, cX11_needSixWhat, 2, none, [], am_rm 0 1 6) (am_Z E 1 6) 0 0 0 [some (.ref p0), some (.int p1)] [] S (f_X11_needSixWhat S p0 p1)
  unfold f_X11_needSixWhat
  refine ev_iload_n dX11_needSixWhat_0 rfl ?_
  refine ev_if_eq (tgt := 20) dX11_needSixWhat_1 (by decide) (fun c1 => ?_) (fun c1 => ?_)
  · exact ev_vret dX11_needSixWhat_20 rfl (by decide) (by decide) rfl
  · refine ev_iload_n dX11_needSixWhat_4 rfl ?_
    refine ev_iconst (v := 1) dX11_needSixWhat_5 (by decide) ?_
    refine ev_icmp_eq (tgt := 20) dX11_needSixWhat_6 (by decide) (fun c2 => ?_) (fun c2 => ?_)
    · exact ev_vret dX11_needSixWhat_20 rfl (by decide) (by decide) rfl
    · exact ev_throwWN (k := 3) tk_160_164 (tx := "six o'clock has what 0 and 1") (t := 36) (by decide +kernel) dX11_needSixWhat_9 dX11_needSixWhat_12 dX11_needSixWhat_13 dX11_needSixWhat_16 dX11_needSixWhat_19 rfl (by decide) ⟨by decide, by decide, by decide, by decide⟩ (by decide) (by decide)
def f_X8_prepare_b17 (S : am_S) (a0 : Nat) (a1 : Nat) (a2 : Int32) (x1 : Int32 × (Nat → Nat → Int32)) : Option ((Int32 × (Nat → Nat → Int32)) ⊕ ((Nat → Nat → Int32))) :=
  (if x1.1 < 8 then ((f_X9_wordFor (x1.2, S.2) a1 x1.1 a2).bind (fun v3 => ((am_rd S.2 a0 1 1).bind (fun q4 => ((f_X9_harmedBy (x1.2, S.2) a1 x1.1).bind (fun v5 => ((am_st x1.2 q4 x1.1 v5).bind (fun σ6 => ((am_rd S.2 a0 2 1).bind (fun q7 => ((f_X11_minutesOf v3).bind (fun v8 => ((am_st σ6 q7 x1.1 v8).bind (fun σ9 => ((am_rd S.2 a0 3 1).bind (fun q10 => ((am_st σ9 q10 x1.1 0).bind (fun σ11 => ((am_rd S.2 a0 0 1).bind (fun q12 => ((am_st σ11 q12 x1.1 0).bind (fun σ13 => ((if v3 = (-1) then some σ13 else some (am_u2 σ13 a0 4 ((σ13 a0 4) ||| ((1 : Int32) <<< (x1.1 &&& 31))))).bind (fun t14 => some (.inl ((x1.1 + 1), t14)))))))))))))))))))))))))) else some (.inr x1.2))
def f_X8_prepare (S : am_S) (p0 : Nat) (p1 : Nat) (p2 : Int32) : Option ((Nat → Nat → Int32)) :=
  ((am_loop (f_X8_prepare_b17 ((am_u2 (am_u2 (am_u2 S.1 p0 4 0) p0 5 0) p0 6 0), S.2) p0 p1 p2) am_fuel (0, (am_u2 (am_u2 (am_u2 S.1 p0 4 0) p0 5 0) p0 6 0))).bind (fun t1 => some t1))
set_option maxRecDepth 20000 in
theorem t_X8_prepare {E : am_E} {l : Launch} (hl : l.stackTraces = false) {S : am_S} {p0 : Nat} {p1 : Nat} {p2 : Int32} (kp0 : am_kd p0 = 108) (kp1 : am_kd p1 = 109) : am_M E l yX8_prepare (.code yX8_prepare cX8_prepare 5 none) 4 0 0 [.ref p0, .ref p1, .int p2] S ((f_X8_prepare S p0 p1 p2).map (fun (x : Nat → Nat → Int32) => ((.inl none, (x, S.2)) : am_R))) := by
  refine am_M_of (w := fun (x : Nat → Nat → Int32) => ((.inl none, (x, S.2)) : am_R)) hl (by decide) (am_fc rfl (am_fc rfl (am_fc rfl am_fn))) (Nat.le_of_ble_eq_true rfl) ?_
  show am_Ev E l (RX8, cX8_prepare, 5, none, [], am_rm 4 0 0) (fun b a s x => am_Z E 0 0 b a s ((fun (x : Nat → Nat → Int32) => ((.inl none, (x, S.2)) : am_R)) x)) 0 0 0 [some (.ref p0), some (.ref p1), some (.int p2), none, none] [] S (f_X8_prepare S p0 p1 p2)
  unfold f_X8_prepare
  refine ev_aload_n dX8_prepare_0 rfl ?_
  refine ev_iconst (v := 0) dX8_prepare_1 (by decide) ?_
  refine ev_putI fk_X8_28 tyX8 tyX8_ok nmX8 rfl (by decide +kernel) (by decide) dX8_prepare_2 kp0 ?_
  refine ev_aload_n dX8_prepare_5 rfl ?_
  refine ev_iconst (v := 0) dX8_prepare_6 (by decide) ?_
  refine ev_putI fk_X8_56 tyX8 tyX8_ok nmX8 rfl (by decide +kernel) (by decide) dX8_prepare_7 kp0 ?_
  refine ev_aload_n dX8_prepare_10 rfl ?_
  refine ev_iconst (v := 0) dX8_prepare_11 (by decide) ?_
  refine ev_putI fk_X8_59 tyX8 tyX8_ok nmX8 rfl (by decide +kernel) (by decide) dX8_prepare_12 kp0 ?_
  refine ev_iconst (v := 0) dX8_prepare_15 (by decide) ?_
  refine ev_istore_n dX8_prepare_16 (am_lt rfl) ?_
  refine ev_weak (am_wk (am_wk (am_wk (am_wk (am_wf am_wn))))) (ev_loop 17 91 (fun x1 : Int32 × (Nat → Nat → Int32) => [some (.ref p0), some (.ref p1), some (.int p2), some (.int x1.1), none]) (fun t1 : (Nat → Nat → Int32) => [none, none, none, none, none]) (fun x1 => (x1.2, S.2)) (fun t1 => (t1, S.2)) (fun x1 G1 hB1 hE1 => ?_) (fun t1 => ?_) am_fuel (0, (am_u2 (am_u2 (am_u2 S.1 p0 4 0) p0 5 0) p0 6 0)))
  · unfold f_X8_prepare_b17
    refine ev_iload_n dX8_prepare_17 rfl ?_
    refine ev_bipush (v := 8) dX8_prepare_18 (by decide) ?_
    refine ev_eq am_ib ?_
    refine ev_icmp_ge (tgt := 91) dX8_prepare_20 (by decide) (fun c15 => ?_) (fun c15 => ?_)
    · exact ev_leaf (am_wf (am_wf (am_wf (am_wf (am_wf am_wn))))) (hE1 x1.2)
    · refine ev_aload_n dX8_prepare_23 rfl ?_
      refine ev_iload_n dX8_prepare_24 rfl ?_
      refine ev_iload_n dX8_prepare_25 rfl ?_
      refine ev_eq (Option.bind_assoc _ _ _) ?_
      refine ev_callP (am_callVN (as := [.int x1.1, .int p2]) (o := p1) (st := []) cv_X8_62 dX8_prepare_26 kp1 rfl (am_le rfl) (am_fit (by omega) (by decide) (by decide) (by decide)) (am_no1 (fun _ => ⟨_, rfl⟩)) (t_X9_wordFor hl kp1)) (fun v16 h16 => ?_)
      refine ev_istore dX8_prepare_29 (am_lt rfl) ?_
      refine ev_aload_n dX8_prepare_31 rfl ?_
      refine ev_eq (Option.bind_assoc _ _ _) ?_
      refine ev_getR fk_X8_15 (by decide) dX8_prepare_32 kp0 (fun q17 k17 r17 => ?_)
      refine ev_iload_n dX8_prepare_35 rfl ?_
      refine ev_aload_n dX8_prepare_36 rfl ?_
      refine ev_iload_n dX8_prepare_37 rfl ?_
      refine ev_eq (Option.bind_assoc _ _ _) ?_
      refine ev_callP (am_callVN (as := [.int x1.1]) (o := p1) (st := [.int x1.1, .ref q17]) cv_X8_66 dX8_prepare_38 kp1 rfl (am_le rfl) (am_fit (by omega) (by decide) (by decide) (by decide)) (am_no1 (fun _ => ⟨_, rfl⟩)) (t_X9_harmedBy hl kp1)) (fun v18 h18 => ?_)
      refine ev_eq (Option.bind_assoc _ _ _) ?_
      refine ev_iast dX8_prepare_41 k17 (fun σ19 h19 => ?_)
      refine ev_aload_n dX8_prepare_42 rfl ?_
      refine ev_eq (Option.bind_assoc _ _ _) ?_
      refine ev_getR fk_X8_18 (by decide) dX8_prepare_43 kp0 (fun q20 k20 r20 => ?_)
      refine ev_iload_n dX8_prepare_46 rfl ?_
      refine ev_iload dX8_prepare_47 rfl ?_
      refine ev_eq (Option.bind_assoc _ _ _) ?_
      refine ev_callP (am_callSN (as := [.int v16]) (st := [.int x1.1, .ref q20]) ct_X8_69 dX8_prepare_49 rfl (am_le rfl) (am_fit (by omega) (by decide) (by decide) (by decide)) (am_no1 (fun _ => ⟨_, rfl⟩)) (t_X11_minutesOf hl )) (fun v21 h21 => ?_)
      refine ev_eq (Option.bind_assoc _ _ _) ?_
      refine ev_iast dX8_prepare_52 k20 (fun σ22 h22 => ?_)
      refine ev_aload_n dX8_prepare_53 rfl ?_
      refine ev_eq (Option.bind_assoc _ _ _) ?_
      refine ev_getR fk_X8_21 (by decide) dX8_prepare_54 kp0 (fun q23 k23 r23 => ?_)
      refine ev_iload_n dX8_prepare_57 rfl ?_
      refine ev_iconst (v := 0) dX8_prepare_58 (by decide) ?_
      refine ev_eq (Option.bind_assoc _ _ _) ?_
      refine ev_iast dX8_prepare_59 k23 (fun σ24 h24 => ?_)
      refine ev_aload_n dX8_prepare_60 rfl ?_
      refine ev_eq (Option.bind_assoc _ _ _) ?_
      refine ev_getR fk_X8_9 (by decide) dX8_prepare_61 kp0 (fun q25 k25 r25 => ?_)
      refine ev_iload_n dX8_prepare_64 rfl ?_
      refine ev_iconst (v := 0) dX8_prepare_65 (by decide) ?_
      refine ev_eq (Option.bind_assoc _ _ _) ?_
      refine ev_iast dX8_prepare_66 k25 (fun σ26 h26 => ?_)
      refine ev_iload dX8_prepare_67 rfl ?_
      refine ev_iconst (v := (-1)) dX8_prepare_69 (by decide) ?_
      refine ev_eq (Option.bind_assoc _ _ _) ?_
      refine ev_reg (cs' := 0) (sl' := 0) 85 (fun t27 : (Nat → Nat → Int32) => [some (.ref p0), some (.ref p1), some (.int p2), some (.int x1.1), none]) (fun t27 => []) (fun t27 => (t27, S.2)) (fun hJ27 => ?_) (fun t27 => ?_)
      · refine ev_eq am_ib ?_
        refine ev_icmp_eq (tgt := 85) dX8_prepare_70 (by decide) (fun c27 => ?_) (fun c27 => ?_)
        · exact ev_leaf (am_wk (am_wk (am_wk (am_wk (am_wf am_wn))))) (hJ27 σ26)
        · refine ev_aload_n dX8_prepare_73 rfl ?_
          refine ev_dup dX8_prepare_74 rfl ?_
          refine ev_get fk_X8_28 dX8_prepare_75 kp0 (am_fvI (by decide)) ?_
          refine ev_iconst (v := 1) dX8_prepare_78 (by decide) ?_
          refine ev_iload_n dX8_prepare_79 rfl ?_
          refine ev_ishl dX8_prepare_80 ?_
          refine ev_ior dX8_prepare_81 ?_
          refine ev_putI fk_X8_28 tyX8 tyX8_ok nmX8 rfl (by decide +kernel) (by decide) dX8_prepare_82 kp0 ?_
          exact ev_leaf (am_wk (am_wk (am_wk (am_wk (am_wf am_wn))))) (hJ27 (am_u2 σ26 p0 4 ((σ26 p0 4) ||| ((1 : Int32) <<< (x1.1 &&& 31)))))
      · refine ev_iinc (v := (x1.1 + 1)) dX8_prepare_85 (am_lt rfl) rfl rfl ?_
        refine ev_goto (tgt := 17) dX8_prepare_88 (by decide) ?_
        exact ev_leaf (am_wk (am_wk (am_wk (am_wk (am_wf am_wn))))) (hB1 ((x1.1 + 1), t27))
  · exact ev_vret dX8_prepare_91 rfl (by decide) (by decide) rfl
def f_X8_isUnharmed_b2 (S : am_S) (a0 : Nat) (a1 : Int32) (a2 : Int32) (x1 : Int32) : Option ((Int32) ⊕ ((Unit) ⊕ (Int32))) :=
  (if x1 < 8 then ((am_rd S.2 a0 1 1).bind (fun q3 => ((am_ld S.1 q3 a1).bind (fun v4 => (if ((v4 >>> (x1 &&& 31)) &&& 1) = 1 then ((am_rd S.2 a0 3 1).bind (fun q6 => ((am_ld S.1 q6 x1).bind (fun v7 => (if a2 < v7 then some (.inr (.inr 0)) else some (.inl (x1 + 1))))))) else some (.inl (x1 + 1))))))) else some (.inr (.inr 1)))
def f_X8_isUnharmed (S : am_S) (p0 : Nat) (p1 : Int32) (p2 : Int32) : Option (Int32) :=
  ((am_loop (f_X8_isUnharmed_b2 S p0 p1 p2) am_fuel 0).bind (fun r1 => match r1 with | .inl t1 => none | .inr b1 => some b1))
set_option maxRecDepth 20000 in
theorem t_X8_isUnharmed {E : am_E} {l : Launch} (hl : l.stackTraces = false) {S : am_S} {p0 : Nat} {p1 : Int32} {p2 : Int32} (kp0 : am_kd p0 = 108) : am_M E l yX8_isUnharmed (.code yX8_isUnharmed cX8_isUnharmed 4 (some .boolean)) 0 0 0 [.ref p0, .int p1, .int p2] S ((f_X8_isUnharmed S p0 p1 p2).map (fun (v : Int32) => ((.inl (some (.int v)), S) : am_R))) := by
  refine am_M_of (w := fun (v : Int32) => ((.inl (some (.int v)), S) : am_R)) hl (by decide) (am_fc rfl (am_fc rfl (am_fc rfl am_fn))) (Nat.le_of_ble_eq_true rfl) ?_
  show am_Ev E l (RX8, cX8_isUnharmed, 4, (some .boolean), [], am_rm 0 0 0) (fun b a s x => am_Z E 0 0 b a s ((fun (v : Int32) => ((.inl (some (.int v)), S) : am_R)) x)) 0 0 0 [some (.ref p0), some (.int p1), some (.int p2), none] [] S (f_X8_isUnharmed S p0 p1 p2)
  unfold f_X8_isUnharmed
  refine ev_iconst (v := 0) dX8_isUnharmed_0 (by decide) ?_
  refine ev_istore_n dX8_isUnharmed_1 (am_lt rfl) ?_
  refine ev_weak (am_wk (am_wk (am_wk (am_wk am_wn)))) (ev_loopR 2 0 (fun x1 : Int32 => [some (.ref p0), some (.int p1), some (.int p2), some (.int x1)]) (fun t1 : Unit => [none, none, none, none]) (fun x1 => S) (fun t1 => S) (fun x1 G1 hB1 hE1 hG1 => ?_) (fun t1 => ?_) am_fuel 0)
  · unfold f_X8_isUnharmed_b2
    refine ev_iload_n dX8_isUnharmed_2 rfl ?_
    refine ev_bipush (v := 8) dX8_isUnharmed_3 (by decide) ?_
    refine ev_eq am_ib ?_
    refine ev_icmp_ge (tgt := 40) dX8_isUnharmed_5 (by decide) (fun c9 => ?_) (fun c9 => ?_)
    · refine ev_iconst (v := 1) dX8_isUnharmed_40 (by decide) ?_
      exact ev_eq (hG1 _) (ev_iret dX8_isUnharmed_41 rfl (by decide) (by decide) (by decide) rfl)
    · refine ev_aload_n dX8_isUnharmed_8 rfl ?_
      refine ev_eq (Option.bind_assoc _ _ _) ?_
      refine ev_getR fk_X8_15 (by decide) dX8_isUnharmed_9 kp0 (fun q10 k10 r10 => ?_)
      refine ev_iload_n dX8_isUnharmed_12 rfl ?_
      refine ev_eq (Option.bind_assoc _ _ _) ?_
      refine ev_iald dX8_isUnharmed_13 k10 (fun v11 h11 => ?_)
      refine ev_iload_n dX8_isUnharmed_14 rfl ?_
      refine ev_ishr dX8_isUnharmed_15 ?_
      refine ev_iconst (v := 1) dX8_isUnharmed_16 (by decide) ?_
      refine ev_iand dX8_isUnharmed_17 ?_
      refine ev_iconst (v := 1) dX8_isUnharmed_18 (by decide) ?_
      refine ev_eq am_ib ?_
      refine ev_icmp_ne (tgt := 34) dX8_isUnharmed_19 (by decide) (fun c12 => ?_) (fun c12 => ?_)
      · refine ev_iinc (v := (x1 + 1)) dX8_isUnharmed_34 (am_lt rfl) rfl rfl ?_
        refine ev_goto (tgt := 2) dX8_isUnharmed_37 (by decide) ?_
        exact ev_leaf (am_wk (am_wk (am_wk (am_wk am_wn)))) (hB1 (x1 + 1))
      · refine ev_aload_n dX8_isUnharmed_22 rfl ?_
        refine ev_eq (Option.bind_assoc _ _ _) ?_
        refine ev_getR fk_X8_21 (by decide) dX8_isUnharmed_23 kp0 (fun q13 k13 r13 => ?_)
        refine ev_iload_n dX8_isUnharmed_26 rfl ?_
        refine ev_eq (Option.bind_assoc _ _ _) ?_
        refine ev_iald dX8_isUnharmed_27 k13 (fun v14 h14 => ?_)
        refine ev_iload_n dX8_isUnharmed_28 rfl ?_
        refine ev_eq am_ib ?_
        refine ev_icmp_le (tgt := 34) dX8_isUnharmed_29 (by decide) (fun c15 => ?_) (fun c15 => ?_)
        · refine ev_iinc (v := (x1 + 1)) dX8_isUnharmed_34 (am_lt rfl) rfl rfl ?_
          refine ev_goto (tgt := 2) dX8_isUnharmed_37 (by decide) ?_
          exact ev_leaf (am_wk (am_wk (am_wk (am_wk am_wn)))) (hB1 (x1 + 1))
        · refine ev_iconst (v := 0) dX8_isUnharmed_32 (by decide) ?_
          exact ev_eq (hG1 _) (ev_iret dX8_isUnharmed_33 rfl (by decide) (by decide) (by decide) rfl)
  · exact ev_none
def f_X8_readyAt_b4 (S : am_S) (a0 : Nat) (a1 : Int32) (x1 : Int32 × Int32) : Option ((Int32 × Int32) ⊕ (Int32)) :=
  (if x1.2 < 8 then ((if (((S.1 a0 4) >>> (x1.2 &&& 31)) &&& 1) = 1 then ((f_X8_isUnharmed S a0 x1.2 a1).bind (fun v4 => (if v4 = 0 then some x1.1 else some (x1.1 ||| ((1 : Int32) <<< (x1.2 &&& 31)))))) else some x1.1).bind (fun t3 => some (.inl (t3, (x1.2 + 1))))) else some (.inr x1.1))
def f_X8_readyAt (S : am_S) (p0 : Nat) (p1 : Int32) : Option (Int32) :=
  ((am_loop (f_X8_readyAt_b4 S p0 p1) am_fuel (0, 0)).bind (fun t1 => some t1))
set_option maxRecDepth 20000 in
theorem t_X8_readyAt {E : am_E} {l : Launch} (hl : l.stackTraces = false) {S : am_S} {p0 : Nat} {p1 : Int32} (kp0 : am_kd p0 = 108) : am_M E l yX8_readyAt (.code yX8_readyAt cX8_readyAt 4 (some .int)) 1 0 0 [.ref p0, .int p1] S ((f_X8_readyAt S p0 p1).map (fun (v : Int32) => ((.inl (some (.int v)), S) : am_R))) := by
  refine am_M_of (w := fun (v : Int32) => ((.inl (some (.int v)), S) : am_R)) hl (by decide) (am_fc rfl (am_fc rfl am_fn)) (Nat.le_of_ble_eq_true rfl) ?_
  show am_Ev E l (RX8, cX8_readyAt, 4, (some .int), [], am_rm 1 0 0) (fun b a s x => am_Z E 0 0 b a s ((fun (v : Int32) => ((.inl (some (.int v)), S) : am_R)) x)) 0 0 0 [some (.ref p0), some (.int p1), none, none] [] S (f_X8_readyAt S p0 p1)
  unfold f_X8_readyAt
  refine ev_iconst (v := 0) dX8_readyAt_0 (by decide) ?_
  refine ev_istore_n dX8_readyAt_1 (am_lt rfl) ?_
  refine ev_iconst (v := 0) dX8_readyAt_2 (by decide) ?_
  refine ev_istore_n dX8_readyAt_3 (am_lt rfl) ?_
  refine ev_weak (am_wk (am_wk (am_wk (am_wk am_wn)))) (ev_loop 4 43 (fun x1 : Int32 × Int32 => [some (.ref p0), some (.int p1), some (.int x1.1), some (.int x1.2)]) (fun t1 : Int32 => [none, none, some (.int t1), none]) (fun x1 => S) (fun t1 => S) (fun x1 G1 hB1 hE1 => ?_) (fun t1 => ?_) am_fuel (0, 0))
  · unfold f_X8_readyAt_b4
    refine ev_iload_n dX8_readyAt_4 rfl ?_
    refine ev_bipush (v := 8) dX8_readyAt_5 (by decide) ?_
    refine ev_eq am_ib ?_
    refine ev_icmp_ge (tgt := 43) dX8_readyAt_7 (by decide) (fun c6 => ?_) (fun c6 => ?_)
    · exact ev_leaf (am_wf (am_wf (am_wk (am_wf am_wn)))) (hE1 x1.1)
    · refine ev_aload_n dX8_readyAt_10 rfl ?_
      refine ev_get fk_X8_28 dX8_readyAt_11 kp0 (am_fvI (by decide)) ?_
      refine ev_iload_n dX8_readyAt_14 rfl ?_
      refine ev_ishr dX8_readyAt_15 ?_
      refine ev_iconst (v := 1) dX8_readyAt_16 (by decide) ?_
      refine ev_iand dX8_readyAt_17 ?_
      refine ev_iconst (v := 1) dX8_readyAt_18 (by decide) ?_
      refine ev_eq (Option.bind_assoc _ _ _) ?_
      refine ev_reg (cs' := 0) (sl' := 0) 37 (fun t7 : Int32 => [some (.ref p0), some (.int p1), some (.int t7), some (.int x1.2)]) (fun t7 => []) (fun t7 => S) (fun hJ7 => ?_) (fun t7 => ?_)
      · refine ev_eq am_ib ?_
        refine ev_icmp_ne (tgt := 37) dX8_readyAt_19 (by decide) (fun c7 => ?_) (fun c7 => ?_)
        · exact ev_leaf (am_wk (am_wk (am_wk (am_wk am_wn)))) (hJ7 x1.1)
        · refine ev_aload_n dX8_readyAt_22 rfl ?_
          refine ev_iload_n dX8_readyAt_23 rfl ?_
          refine ev_iload_n dX8_readyAt_24 rfl ?_
          refine ev_eq (Option.bind_assoc _ _ _) ?_
          refine ev_callP (am_callV (as := [.int x1.2, .int p1]) (o := p0) (st := []) cv_X8_86 dX8_readyAt_25 kp0 rfl (am_le rfl) (am_fit (by omega) (by decide) (by decide) (by decide)) (t_X8_isUnharmed hl kp0)) (fun v8 h8 => ?_)
          refine ev_eq am_ib ?_
          refine ev_if_eq (tgt := 37) dX8_readyAt_28 (by decide) (fun c9 => ?_) (fun c9 => ?_)
          · exact ev_leaf (am_wk (am_wk (am_wk (am_wk am_wn)))) (hJ7 x1.1)
          · refine ev_iload_n dX8_readyAt_31 rfl ?_
            refine ev_iconst (v := 1) dX8_readyAt_32 (by decide) ?_
            refine ev_iload_n dX8_readyAt_33 rfl ?_
            refine ev_ishl dX8_readyAt_34 ?_
            refine ev_ior dX8_readyAt_35 ?_
            refine ev_istore_n dX8_readyAt_36 (am_lt rfl) ?_
            exact ev_leaf (am_wk (am_wk (am_wk (am_wk am_wn)))) (hJ7 (x1.1 ||| ((1 : Int32) <<< (x1.2 &&& 31))))
      · refine ev_iinc (v := (x1.2 + 1)) dX8_readyAt_37 (am_lt rfl) rfl rfl ?_
        refine ev_goto (tgt := 4) dX8_readyAt_40 (by decide) ?_
        exact ev_leaf (am_wk (am_wk (am_wk (am_wk am_wn)))) (hB1 (t7, (x1.2 + 1)))
  · refine ev_iload_n dX8_readyAt_43 rfl ?_
    exact ev_iret dX8_readyAt_44 rfl rfl (by decide) (by decide) rfl
def f_X1_push (S : am_S) (p0 : Nat) (p1 : Int32) : Option ((Nat → Nat → Int32)) :=
  (if (S.1 p0 7) < 40 then ((am_rd S.2 p0 6 1).bind (fun q2 => ((am_st S.1 q2 (S.1 p0 7) p1).bind (fun σ3 => some (am_u2 σ3 p0 7 ((σ3 p0 7) + 1)))))) else some S.1)
set_option maxRecDepth 20000 in
theorem t_X1_push {E : am_E} {l : Launch} (hl : l.stackTraces = false) {S : am_S} {p0 : Nat} {p1 : Int32} (kp0 : am_kd p0 = 101) : am_M E l yX1_push (.code yX1_push cX1_push 2 none) 0 0 0 [.ref p0, .int p1] S ((f_X1_push S p0 p1).map (fun (x : Nat → Nat → Int32) => ((.inl none, (x, S.2)) : am_R))) := by
  refine am_M_of (w := fun (x : Nat → Nat → Int32) => ((.inl none, (x, S.2)) : am_R)) hl (by decide) (am_fc rfl (am_fc rfl am_fn)) (Nat.le_of_ble_eq_true rfl) ?_
  show am_Ev E l (RX1, cX1_push, 2, none, [], am_rm 0 0 0) (fun b a s x => am_Z E 0 0 b a s ((fun (x : Nat → Nat → Int32) => ((.inl none, (x, S.2)) : am_R)) x)) 0 0 0 [some (.ref p0), some (.int p1)] [] S (f_X1_push S p0 p1)
  unfold f_X1_push
  refine ev_aload_n dX1_push_0 rfl ?_
  refine ev_get fk_X1_65 dX1_push_1 kp0 (am_fvI (by decide)) ?_
  refine ev_bipush (v := 40) dX1_push_4 (by decide) ?_
  refine ev_icmp_ge (tgt := 29) dX1_push_6 (by decide) (fun c1 => ?_) (fun c1 => ?_)
  · exact ev_vret dX1_push_29 rfl (by decide) (by decide) rfl
  · refine ev_aload_n dX1_push_9 rfl ?_
    refine ev_getR fk_X1_29 (by decide) dX1_push_10 kp0 (fun q2 k2 r2 => ?_)
    refine ev_aload_n dX1_push_13 rfl ?_
    refine ev_get fk_X1_65 dX1_push_14 kp0 (am_fvI (by decide)) ?_
    refine ev_iload_n dX1_push_17 rfl ?_
    refine ev_iast dX1_push_18 k2 (fun σ3 h3 => ?_)
    refine ev_aload_n dX1_push_19 rfl ?_
    refine ev_dup dX1_push_20 rfl ?_
    refine ev_get fk_X1_65 dX1_push_21 kp0 (am_fvI (by decide)) ?_
    refine ev_iconst (v := 1) dX1_push_24 (by decide) ?_
    refine ev_iadd dX1_push_25 ?_
    refine ev_putI fk_X1_65 tyX1 tyX1_ok nmX1 rfl (by decide +kernel) (by decide) dX1_push_26 kp0 ?_
    exact ev_vret dX1_push_29 rfl (by decide) (by decide) rfl
def f_X1_pop (S : am_S) (p0 : Nat) : Option (Int32 × (Nat → Nat → Int32)) :=
  (if 0 < (S.1 p0 7) then ((am_rd S.2 p0 6 1).bind (fun q2 => ((am_ld (am_u2 S.1 p0 7 ((S.1 p0 7) - 1)) q2 ((am_u2 S.1 p0 7 ((S.1 p0 7) - 1)) p0 7)).bind (fun v3 => some (v3, (am_u2 S.1 p0 7 ((S.1 p0 7) - 1))))))) else some (0, S.1))
set_option maxRecDepth 20000 in
theorem t_X1_pop {E : am_E} {l : Launch} (hl : l.stackTraces = false) {S : am_S} {p0 : Nat} (kp0 : am_kd p0 = 101) : am_M E l yX1_pop (.code yX1_pop cX1_pop 1 (some .int)) 0 0 0 [.ref p0] S ((f_X1_pop S p0).map (fun (x : Int32 × (Nat → Nat → Int32)) => ((.inl (some (.int x.1)), (x.2, S.2)) : am_R))) := by
  refine am_M_of (w := fun (x : Int32 × (Nat → Nat → Int32)) => ((.inl (some (.int x.1)), (x.2, S.2)) : am_R)) hl (by decide) (am_fc rfl am_fn) (Nat.le_of_ble_eq_true rfl) ?_
  show am_Ev E l (RX1, cX1_pop, 1, (some .int), [], am_rm 0 0 0) (fun b a s x => am_Z E 0 0 b a s ((fun (x : Int32 × (Nat → Nat → Int32)) => ((.inl (some (.int x.1)), (x.2, S.2)) : am_R)) x)) 0 0 0 [some (.ref p0)] [] S (f_X1_pop S p0)
  unfold f_X1_pop
  refine ev_aload_n dX1_pop_0 rfl ?_
  refine ev_get fk_X1_65 dX1_pop_1 kp0 (am_fvI (by decide)) ?_
  refine ev_if_gt (tgt := 9) dX1_pop_4 (by decide) (fun c1 => ?_) (fun c1 => ?_)
  · refine ev_aload_n dX1_pop_9 rfl ?_
    refine ev_dup dX1_pop_10 rfl ?_
    refine ev_get fk_X1_65 dX1_pop_11 kp0 (am_fvI (by decide)) ?_
    refine ev_iconst (v := 1) dX1_pop_14 (by decide) ?_
    refine ev_isub dX1_pop_15 ?_
    refine ev_putI fk_X1_65 tyX1 tyX1_ok nmX1 rfl (by decide +kernel) (by decide) dX1_pop_16 kp0 ?_
    refine ev_aload_n dX1_pop_19 rfl ?_
    refine ev_getR fk_X1_29 (by decide) dX1_pop_20 kp0 (fun q2 k2 r2 => ?_)
    refine ev_aload_n dX1_pop_23 rfl ?_
    refine ev_get fk_X1_65 dX1_pop_24 kp0 (am_fvI (by decide)) ?_
    refine ev_iald dX1_pop_27 k2 (fun v3 h3 => ?_)
    exact ev_iret dX1_pop_28 rfl rfl (by decide) (by decide) rfl
  · refine ev_iconst (v := 0) dX1_pop_7 (by decide) ?_
    exact ev_iret dX1_pop_8 rfl rfl (by decide) (by decide) rfl
def f_X1_join (S : am_S) (p0 : Nat) (p1 : Int32) : Option ((Nat → Nat → Int32)) :=
  ((f_X1_pop S p0).bind (fun y1 => (if p1 = (-9) then ((if y1.1 = 0 then some (1 : Int32) else some (0 : Int32)).bind (fun t13 => ((f_X1_push (y1.2, S.2) p0 t13).bind (fun σ14 => some σ14)))) else ((f_X1_pop (y1.2, S.2) p0).bind (fun y3 => (if p1 = (-10) then ((f_X1_push (y3.2, S.2) p0 (y3.1 &&& y1.1)).bind (fun σ5 => some σ5)) else (if p1 = (-9) then ((f_X1_push (y3.2, S.2) p0 (y3.1 ||| y1.1)).bind (fun σ6 => some σ6)) else (if p1 = (-8) then ((if y1.1 < y3.1 then some (1 : Int32) else some (0 : Int32)).bind (fun t7 => ((f_X1_push (y3.2, S.2) p0 t7).bind (fun σ8 => some σ8)))) else (if p1 = (-7) then ((if y3.1 < y1.1 then some (1 : Int32) else some (0 : Int32)).bind (fun t9 => ((f_X1_push (y3.2, S.2) p0 t9).bind (fun σ10 => some σ10)))) else (if p1 = (-6) then ((f_X1_push (y3.2, S.2) p0 (y3.1 + y1.1)).bind (fun σ11 => some σ11)) else ((f_X1_push (y3.2, S.2) p0 (y3.1 ||| y1.1)).bind (fun σ12 => some σ12))))))))))))
set_option maxRecDepth 20000 in
theorem t_X1_join {E : am_E} {l : Launch} (hl : l.stackTraces = false) {S : am_S} {p0 : Nat} {p1 : Int32} (kp0 : am_kd p0 = 101) : am_M E l yX1_join (.code yX1_join cX1_join 4 none) 1 0 0 [.ref p0, .int p1] S ((f_X1_join S p0 p1).map (fun (x : Nat → Nat → Int32) => ((.inl none, (x, S.2)) : am_R))) := by
  refine am_M_of (w := fun (x : Nat → Nat → Int32) => ((.inl none, (x, S.2)) : am_R)) hl (by decide) (am_fc rfl (am_fc rfl am_fn)) (Nat.le_of_ble_eq_true rfl) ?_
  show am_Ev E l (RX1, cX1_join, 4, none, [], am_rm 1 0 0) (fun b a s x => am_Z E 0 0 b a s ((fun (x : Nat → Nat → Int32) => ((.inl none, (x, S.2)) : am_R)) x)) 0 0 0 [some (.ref p0), some (.int p1), none, none] [] S (f_X1_join S p0 p1)
  unfold f_X1_join
  refine ev_aload_n dX1_join_0 rfl ?_
  refine ev_callWI (am_callV (as := []) (o := p0) (st := []) cv_X1_75 dX1_join_1 kp0 rfl (am_le rfl) (am_fit (by omega) (by decide) (by decide) (by decide)) (t_X1_pop hl kp0)) (fun y1 h1 => ?_)
  refine ev_istore_n dX1_join_4 (am_lt rfl) ?_
  refine ev_iload_n dX1_join_5 rfl ?_
  refine ev_bipush (v := (-9)) dX1_join_6 (by decide) ?_
  refine ev_icmp_ne (tgt := 25) dX1_join_8 (by decide) (fun c2 => ?_) (fun c2 => ?_)
  · refine ev_aload_n dX1_join_25 rfl ?_
    refine ev_callWI (am_callV (as := []) (o := p0) (st := []) cv_X1_75 dX1_join_26 kp0 rfl (am_le rfl) (am_fit (by omega) (by decide) (by decide) (by decide)) (t_X1_pop hl kp0)) (fun y3 h3 => ?_)
    refine ev_istore_n dX1_join_29 (am_lt rfl) ?_
    refine ev_iload_n dX1_join_30 rfl ?_
    refine ev_split (fun c4_0 => ?_) (fun c4_0 => ?_)
    · refine ev_swI (tgt := 108) dX1_join_31 (by rw [c4_0]; decide) (by rw [c4_0]; decide) (by rw [c4_0]; rfl) (by decide) ?_
      refine ev_aload_n dX1_join_108 rfl ?_
      refine ev_iload_n dX1_join_109 rfl ?_
      refine ev_iload_n dX1_join_110 rfl ?_
      refine ev_iand dX1_join_111 ?_
      refine ev_callWV (am_callV (as := [.int (y3.1 &&& y1.1)]) (o := p0) (st := []) cv_X1_68 dX1_join_112 kp0 rfl (am_le rfl) (am_fit (by omega) (by decide) (by decide) (by decide)) (t_X1_push hl kp0)) (fun σ5 h5 => ?_)
      refine ev_goto (tgt := 125) dX1_join_115 (by decide) ?_
      exact ev_vret dX1_join_125 rfl (by decide) (by decide) rfl
    refine ev_split (fun c4_1 => ?_) (fun c4_1 => ?_)
    · refine ev_swI (tgt := 118) dX1_join_31 (by rw [c4_1]; decide) (by rw [c4_1]; decide) (by rw [c4_1]; rfl) (by decide) ?_
      refine ev_aload_n dX1_join_118 rfl ?_
      refine ev_iload_n dX1_join_119 rfl ?_
      refine ev_iload_n dX1_join_120 rfl ?_
      refine ev_ior dX1_join_121 ?_
      refine ev_callWV (am_callV (as := [.int (y3.1 ||| y1.1)]) (o := p0) (st := []) cv_X1_68 dX1_join_122 kp0 rfl (am_le rfl) (am_fit (by omega) (by decide) (by decide) (by decide)) (t_X1_push hl kp0)) (fun σ6 h6 => ?_)
      exact ev_vret dX1_join_125 rfl (by decide) (by decide) rfl
    refine ev_split (fun c4_2 => ?_) (fun c4_2 => ?_)
    · refine ev_swI (tgt := 91) dX1_join_31 (by rw [c4_2]; decide) (by rw [c4_2]; decide) (by rw [c4_2]; rfl) (by decide) ?_
      refine ev_aload_n dX1_join_91 rfl ?_
      refine ev_iload_n dX1_join_92 rfl ?_
      refine ev_iload_n dX1_join_93 rfl ?_
      refine ev_reg (cs' := 0) (sl' := 0) 102 (fun t7 : Int32 => [none, none, none, none]) (fun t7 => [.int t7, .ref p0]) (fun t7 => (y3.2, S.2)) (fun hJ7 => ?_) (fun t7 => ?_)
      · refine ev_eq am_ib ?_
        refine ev_icmp_le (tgt := 101) dX1_join_94 (by decide) (fun c7 => ?_) (fun c7 => ?_)
        · refine ev_iconst (v := 0) dX1_join_101 (by decide) ?_
          exact ev_leaf (am_wf (am_wf (am_wf (am_wf am_wn)))) (hJ7 (0 : Int32))
        · refine ev_iconst (v := 1) dX1_join_97 (by decide) ?_
          refine ev_goto (tgt := 102) dX1_join_98 (by decide) ?_
          exact ev_leaf (am_wf (am_wf (am_wf (am_wf am_wn)))) (hJ7 (1 : Int32))
      · refine ev_callWV (am_callV (as := [.int t7]) (o := p0) (st := []) cv_X1_68 dX1_join_102 kp0 rfl (am_le rfl) (am_fit (by omega) (by decide) (by decide) (by decide)) (t_X1_push hl kp0)) (fun σ8 h8 => ?_)
        refine ev_goto (tgt := 125) dX1_join_105 (by decide) ?_
        exact ev_vret dX1_join_125 rfl (by decide) (by decide) rfl
    refine ev_split (fun c4_3 => ?_) (fun c4_3 => ?_)
    · refine ev_swI (tgt := 74) dX1_join_31 (by rw [c4_3]; decide) (by rw [c4_3]; decide) (by rw [c4_3]; rfl) (by decide) ?_
      refine ev_aload_n dX1_join_74 rfl ?_
      refine ev_iload_n dX1_join_75 rfl ?_
      refine ev_iload_n dX1_join_76 rfl ?_
      refine ev_reg (cs' := 0) (sl' := 0) 85 (fun t9 : Int32 => [none, none, none, none]) (fun t9 => [.int t9, .ref p0]) (fun t9 => (y3.2, S.2)) (fun hJ9 => ?_) (fun t9 => ?_)
      · refine ev_eq am_ib ?_
        refine ev_icmp_ge (tgt := 84) dX1_join_77 (by decide) (fun c9 => ?_) (fun c9 => ?_)
        · refine ev_iconst (v := 0) dX1_join_84 (by decide) ?_
          exact ev_leaf (am_wf (am_wf (am_wf (am_wf am_wn)))) (hJ9 (0 : Int32))
        · refine ev_iconst (v := 1) dX1_join_80 (by decide) ?_
          refine ev_goto (tgt := 85) dX1_join_81 (by decide) ?_
          exact ev_leaf (am_wf (am_wf (am_wf (am_wf am_wn)))) (hJ9 (1 : Int32))
      · refine ev_callWV (am_callV (as := [.int t9]) (o := p0) (st := []) cv_X1_68 dX1_join_85 kp0 rfl (am_le rfl) (am_fit (by omega) (by decide) (by decide) (by decide)) (t_X1_push hl kp0)) (fun σ10 h10 => ?_)
        refine ev_goto (tgt := 125) dX1_join_88 (by decide) ?_
        exact ev_vret dX1_join_125 rfl (by decide) (by decide) rfl
    refine ev_split (fun c4_4 => ?_) (fun c4_4 => ?_)
    · refine ev_swI (tgt := 64) dX1_join_31 (by rw [c4_4]; decide) (by rw [c4_4]; decide) (by rw [c4_4]; rfl) (by decide) ?_
      refine ev_aload_n dX1_join_64 rfl ?_
      refine ev_iload_n dX1_join_65 rfl ?_
      refine ev_iload_n dX1_join_66 rfl ?_
      refine ev_iadd dX1_join_67 ?_
      refine ev_callWV (am_callV (as := [.int (y3.1 + y1.1)]) (o := p0) (st := []) cv_X1_68 dX1_join_68 kp0 rfl (am_le rfl) (am_fit (by omega) (by decide) (by decide) (by decide)) (t_X1_push hl kp0)) (fun σ11 h11 => ?_)
      refine ev_goto (tgt := 125) dX1_join_71 (by decide) ?_
      exact ev_vret dX1_join_125 rfl (by decide) (by decide) rfl
    refine ev_swO (tgt := 118) dX1_join_31 (by have z4_0 := am_neI c4_0 (z := -10) (by decide); have z4_1 := am_neI c4_1 (z := -9) (by decide); have z4_2 := am_neI c4_2 (z := -8) (by decide); have z4_3 := am_neI c4_3 (z := -7) (by decide); have z4_4 := am_neI c4_4 (z := -6) (by decide); omega) (by decide) ?_
    refine ev_aload_n dX1_join_118 rfl ?_
    refine ev_iload_n dX1_join_119 rfl ?_
    refine ev_iload_n dX1_join_120 rfl ?_
    refine ev_ior dX1_join_121 ?_
    refine ev_callWV (am_callV (as := [.int (y3.1 ||| y1.1)]) (o := p0) (st := []) cv_X1_68 dX1_join_122 kp0 rfl (am_le rfl) (am_fit (by omega) (by decide) (by decide) (by decide)) (t_X1_push hl kp0)) (fun σ12 h12 => ?_)
    exact ev_vret dX1_join_125 rfl (by decide) (by decide) rfl
  · refine ev_aload_n dX1_join_11 rfl ?_
    refine ev_iload_n dX1_join_12 rfl ?_
    refine ev_reg (cs' := 0) (sl' := 0) 21 (fun t13 : Int32 => [none, none, none, none]) (fun t13 => [.int t13, .ref p0]) (fun t13 => (y1.2, S.2)) (fun hJ13 => ?_) (fun t13 => ?_)
    · refine ev_eq am_ib ?_
      refine ev_if_ne (tgt := 20) dX1_join_13 (by decide) (fun c13 => ?_) (fun c13 => ?_)
      · refine ev_iconst (v := 0) dX1_join_20 (by decide) ?_
        exact ev_leaf (am_wf (am_wf (am_wf (am_wf am_wn)))) (hJ13 (0 : Int32))
      · refine ev_iconst (v := 1) dX1_join_16 (by decide) ?_
        refine ev_goto (tgt := 21) dX1_join_17 (by decide) ?_
        exact ev_leaf (am_wf (am_wf (am_wf (am_wf am_wn)))) (hJ13 (1 : Int32))
    · refine ev_callWV (am_callV (as := [.int t13]) (o := p0) (st := []) cv_X1_68 dX1_join_21 kp0 rfl (am_le rfl) (am_fit (by omega) (by decide) (by decide) (by decide)) (t_X1_push hl kp0)) (fun σ14 h14 => ?_)
      exact ev_vret dX1_join_24 rfl (by decide) (by decide) rfl
def f_X1_isHolding_b14 (S : am_S) (a0 : Nat) (a2 : Int32) (x2 : Int32 × (Nat → Nat → Int32)) : Option ((Int32 × (Nat → Nat → Int32)) ⊕ ((Nat → Nat → Int32))) :=
  (if x2.1 < a2 then (if x2.1 < 400 then ((am_rd S.2 a0 4 3).bind (fun q5 => ((am_ld x2.2 q5 x2.1).bind (fun v6 => ((if v6 < 0 then (if v6 < (-5) then ((f_X1_join (x2.2, S.2) a0 v6).bind (fun σ9 => some σ9)) else ((am_rd S.2 a0 5 1).bind (fun q10 => ((am_ld x2.2 q10 ((-1) - v6)).bind (fun v11 => ((f_X1_push (x2.2, S.2) a0 v11).bind (fun σ12 => some σ12))))))) else ((f_X1_push (x2.2, S.2) a0 v6).bind (fun σ13 => some σ13))).bind (fun t7 => some (.inl ((x2.1 + 1), t7)))))))) else some (.inr x2.2)) else some (.inr x2.2))
def f_X1_isHolding (S : am_S) (p0 : Nat) (p1 : Int32) (p2 : Int32) : Option (Int32 × (Nat → Nat → Int32)) :=
  (if p1 = p2 then some (1, S.1) else ((am_loop (f_X1_isHolding_b14 ((am_u2 S.1 p0 7 0), S.2) p0 p2) am_fuel (p1, (am_u2 S.1 p0 7 0))).bind (fun t2 => ((f_X1_pop (t2, S.2) p0).bind (fun y25 => (if y25.1 = 0 then some (0, y25.2) else some (1, y25.2)))))))
set_option maxRecDepth 20000 in
theorem t_X1_isHolding {E : am_E} {l : Launch} (hl : l.stackTraces = false) {S : am_S} {p0 : Nat} {p1 : Int32} {p2 : Int32} (kp0 : am_kd p0 = 101) : am_M E l yX1_isHolding (.code yX1_isHolding cX1_isHolding 5 (some .boolean)) 2 0 0 [.ref p0, .int p1, .int p2] S ((f_X1_isHolding S p0 p1 p2).map (fun (x : Int32 × (Nat → Nat → Int32)) => ((.inl (some (.int x.1)), (x.2, S.2)) : am_R))) := by
  refine am_M_of (w := fun (x : Int32 × (Nat → Nat → Int32)) => ((.inl (some (.int x.1)), (x.2, S.2)) : am_R)) hl (by decide) (am_fc rfl (am_fc rfl (am_fc rfl am_fn))) (Nat.le_of_ble_eq_true rfl) ?_
  show am_Ev E l (RX1, cX1_isHolding, 5, (some .boolean), [], am_rm 2 0 0) (fun b a s x => am_Z E 0 0 b a s ((fun (x : Int32 × (Nat → Nat → Int32)) => ((.inl (some (.int x.1)), (x.2, S.2)) : am_R)) x)) 0 0 0 [some (.ref p0), some (.int p1), some (.int p2), none, none] [] S (f_X1_isHolding S p0 p1 p2)
  unfold f_X1_isHolding
  refine ev_iload_n dX1_isHolding_0 rfl ?_
  refine ev_iload_n dX1_isHolding_1 rfl ?_
  refine ev_icmp_ne (tgt := 7) dX1_isHolding_2 (by decide) (fun c1 => ?_) (fun c1 => ?_)
  · refine ev_aload_n dX1_isHolding_7 rfl ?_
    refine ev_iconst (v := 0) dX1_isHolding_8 (by decide) ?_
    refine ev_putI fk_X1_65 tyX1 tyX1_ok nmX1 rfl (by decide +kernel) (by decide) dX1_isHolding_9 kp0 ?_
    refine ev_iload_n dX1_isHolding_12 rfl ?_
    refine ev_istore_n dX1_isHolding_13 (am_lt rfl) ?_
    refine ev_weak (am_wk (am_wf (am_wk (am_wk (am_wf am_wn))))) (ev_loop 14 83 (fun x2 : Int32 × (Nat → Nat → Int32) => [some (.ref p0), none, some (.int p2), some (.int x2.1), none]) (fun t2 : (Nat → Nat → Int32) => [some (.ref p0), none, none, none, none]) (fun x2 => (x2.2, S.2)) (fun t2 => (t2, S.2)) (fun x2 G2 hB2 hE2 => ?_) (fun t2 => ?_) am_fuel (p1, (am_u2 S.1 p0 7 0)))
    · unfold f_X1_isHolding_b14
      refine ev_iload_n dX1_isHolding_14 rfl ?_
      refine ev_iload_n dX1_isHolding_15 rfl ?_
      refine ev_eq am_ib ?_
      refine ev_icmp_ge (tgt := 83) dX1_isHolding_16 (by decide) (fun c14 => ?_) (fun c14 => ?_)
      · exact ev_leaf (am_wk (am_wf (am_wf (am_wf (am_wf am_wn))))) (hE2 x2.2)
      · refine ev_iload_n dX1_isHolding_19 rfl ?_
        refine ev_sipush (v := 400) dX1_isHolding_20 (by decide) ?_
        refine ev_eq am_ib ?_
        refine ev_icmp_ge (tgt := 83) dX1_isHolding_23 (by decide) (fun c15 => ?_) (fun c15 => ?_)
        · exact ev_leaf (am_wk (am_wf (am_wf (am_wf (am_wf am_wn))))) (hE2 x2.2)
        · refine ev_aload_n dX1_isHolding_26 rfl ?_
          refine ev_eq (Option.bind_assoc _ _ _) ?_
          refine ev_getR fk_X1_22 (by decide) dX1_isHolding_27 kp0 (fun q16 k16 r16 => ?_)
          refine ev_iload_n dX1_isHolding_30 rfl ?_
          refine ev_eq (Option.bind_assoc _ _ _) ?_
          refine ev_sald dX1_isHolding_31 k16 (fun v17 h17 => ?_)
          refine ev_istore dX1_isHolding_32 (am_lt rfl) ?_
          refine ev_iload dX1_isHolding_34 rfl ?_
          refine ev_eq (Option.bind_assoc _ _ _) ?_
          refine ev_reg (cs' := 0) (sl' := 0) 77 (fun t18 : (Nat → Nat → Int32) => [some (.ref p0), none, some (.int p2), some (.int x2.1), none]) (fun t18 => []) (fun t18 => (t18, S.2)) (fun hJ18 => ?_) (fun t18 => ?_)
          · refine ev_eq am_ib ?_
            refine ev_if_lt (tgt := 48) dX1_isHolding_36 (by decide) (fun c18 => ?_) (fun c18 => ?_)
            · refine ev_iload dX1_isHolding_48 rfl ?_
              refine ev_bipush (v := (-5)) dX1_isHolding_50 (by decide) ?_
              refine ev_eq am_ib ?_
              refine ev_icmp_lt (tgt := 71) dX1_isHolding_52 (by decide) (fun c19 => ?_) (fun c19 => ?_)
              · refine ev_aload_n dX1_isHolding_71 rfl ?_
                refine ev_iload dX1_isHolding_72 rfl ?_
                refine ev_eq (Option.bind_assoc _ _ _) ?_
                refine ev_callWV (am_callV (as := [.int v17]) (o := p0) (st := []) cv_X1_72 dX1_isHolding_74 kp0 rfl (am_le rfl) (am_fit (by omega) (by decide) (by decide) (by decide)) (t_X1_join hl kp0)) (fun σ20 h20 => ?_)
                exact ev_leaf (am_wk (am_wf (am_wk (am_wk (am_wf am_wn))))) (hJ18 σ20)
              · refine ev_aload_n dX1_isHolding_55 rfl ?_
                refine ev_aload_n dX1_isHolding_56 rfl ?_
                refine ev_eq (Option.bind_assoc _ _ _) ?_
                refine ev_getR fk_X1_26 (by decide) dX1_isHolding_57 kp0 (fun q21 k21 r21 => ?_)
                refine ev_iconst (v := (-1)) dX1_isHolding_60 (by decide) ?_
                refine ev_iload dX1_isHolding_61 rfl ?_
                refine ev_isub dX1_isHolding_63 ?_
                refine ev_eq (Option.bind_assoc _ _ _) ?_
                refine ev_iald dX1_isHolding_64 k21 (fun v22 h22 => ?_)
                refine ev_eq (Option.bind_assoc _ _ _) ?_
                refine ev_callWV (am_callV (as := [.int v22]) (o := p0) (st := []) cv_X1_68 dX1_isHolding_65 kp0 rfl (am_le rfl) (am_fit (by omega) (by decide) (by decide) (by decide)) (t_X1_push hl kp0)) (fun σ23 h23 => ?_)
                refine ev_goto (tgt := 77) dX1_isHolding_68 (by decide) ?_
                exact ev_leaf (am_wk (am_wf (am_wk (am_wk (am_wf am_wn))))) (hJ18 σ23)
            · refine ev_aload_n dX1_isHolding_39 rfl ?_
              refine ev_iload dX1_isHolding_40 rfl ?_
              refine ev_eq (Option.bind_assoc _ _ _) ?_
              refine ev_callWV (am_callV (as := [.int v17]) (o := p0) (st := []) cv_X1_68 dX1_isHolding_42 kp0 rfl (am_le rfl) (am_fit (by omega) (by decide) (by decide) (by decide)) (t_X1_push hl kp0)) (fun σ24 h24 => ?_)
              refine ev_goto (tgt := 77) dX1_isHolding_45 (by decide) ?_
              exact ev_leaf (am_wk (am_wf (am_wk (am_wk (am_wf am_wn))))) (hJ18 σ24)
          · refine ev_iinc (v := (x2.1 + 1)) dX1_isHolding_77 (am_lt rfl) rfl rfl ?_
            refine ev_goto (tgt := 14) dX1_isHolding_80 (by decide) ?_
            exact ev_leaf (am_wk (am_wf (am_wk (am_wk (am_wf am_wn))))) (hB2 ((x2.1 + 1), t18))
    · refine ev_aload_n dX1_isHolding_83 rfl ?_
      refine ev_callWI (am_callV (as := []) (o := p0) (st := []) cv_X1_75 dX1_isHolding_84 kp0 rfl (am_le rfl) (am_fit (by omega) (by decide) (by decide) (by decide)) (t_X1_pop hl kp0)) (fun y25 h25 => ?_)
      refine ev_if_eq (tgt := 94) dX1_isHolding_87 (by decide) (fun c26 => ?_) (fun c26 => ?_)
      · refine ev_iconst (v := 0) dX1_isHolding_94 (by decide) ?_
        exact ev_iret dX1_isHolding_95 rfl (by decide) (by decide) (by decide) rfl
      · refine ev_iconst (v := 1) dX1_isHolding_90 (by decide) ?_
        refine ev_goto (tgt := 95) dX1_isHolding_91 (by decide) ?_
        exact ev_iret dX1_isHolding_95 rfl (by decide) (by decide) (by decide) rfl
  · refine ev_iconst (v := 1) dX1_isHolding_5 (by decide) ?_
    exact ev_iret dX1_isHolding_6 rfl (by decide) (by decide) (by decide) rfl
def f_X1_turnOf_b74 (S : am_S) (a0 : Nat) (x18 : Int32 × Int32 × Int32 × (Nat → Nat → Int32)) : Option ((Int32 × Int32 × Int32 × (Nat → Nat → Int32)) ⊕ (Int32 × (Nat → Nat → Int32))) :=
  (if x18.2.2.1 < (x18.2.2.2 a0 0) then (if x18.2.2.1 < 12 then ((am_rd S.2 a0 3 1).bind (fun q21 => ((am_ld x18.2.2.2 q21 x18.2.2.1).bind (fun v22 => ((f_X1_isHolding (x18.2.2.2, S.2) a0 x18.2.1 v22).bind (fun y23 => ((if y23.1 = 0 then some x18.1 else ((am_rd S.2 a0 2 1).bind (fun q25 => ((am_ld y23.2 q25 x18.2.2.1).bind (fun v26 => some (x18.1 + v26)))))).bind (fun t24 => ((am_rd S.2 a0 3 1).bind (fun q27 => ((am_ld y23.2 q27 x18.2.2.1).bind (fun v28 => some (.inl (t24, v28, (x18.2.2.1 + 1), y23.2)))))))))))))) else some (.inr (x18.1, x18.2.2.2))) else some (.inr (x18.1, x18.2.2.2)))
def f_X1_turnOf (S : am_S) (p0 : Nat) (p1 : Nat) (p2 : Int32) (p3 : Int32) (p4 : Int32) : Option (Int32 × (Nat → Nat → Int32)) :=
  ((am_rd S.2 p0 5 1).bind (fun q1 => ((am_st S.1 q1 0 p2).bind (fun σ2 => ((am_rd S.2 p0 5 1).bind (fun q3 => ((f_X9_hasHouse (σ2, S.2) p1 p2).bind (fun v4 => ((if v4 = 0 then some (0 : Int32) else ((am_rd S.2 p1 9 1).bind (fun q6 => ((am_ld σ2 q6 p2).bind (fun v7 => some v7))))).bind (fun t5 => ((am_st σ2 q3 1 t5).bind (fun σ8 => ((am_rd S.2 p0 5 1).bind (fun q9 => ((f_X9_urgentOf (σ8, S.2) p1 p3).bind (fun v10 => ((am_st σ8 q9 2 v10).bind (fun σ11 => ((am_rd S.2 p0 5 1).bind (fun q12 => ((f_X9_wordFor (σ11, S.2) p1 p2 p3).bind (fun v13 => ((f_X11_minutesOf v13).bind (fun v14 => ((am_st σ11 q12 3 v14).bind (fun σ15 => ((am_rd S.2 p0 5 1).bind (fun q16 => ((am_st σ15 q16 4 p4).bind (fun σ17 => ((am_loop (f_X1_turnOf_b74 (σ17, S.2) p0) am_fuel (0, 0, 0, σ17)).bind (fun t18 => some (t18.1, t18.2)))))))))))))))))))))))))))))))))
set_option maxRecDepth 20000 in
theorem t_X1_turnOf {E : am_E} {l : Launch} (hl : l.stackTraces = false) {S : am_S} {p0 : Nat} {p1 : Nat} {p2 : Int32} {p3 : Int32} {p4 : Int32} (kp0 : am_kd p0 = 101) (kp1 : am_kd p1 = 109) : am_M E l yX1_turnOf (.code yX1_turnOf cX1_turnOf 8 (some .int)) 3 0 0 [.ref p0, .ref p1, .int p2, .int p3, .int p4] S ((f_X1_turnOf S p0 p1 p2 p3 p4).map (fun (x : Int32 × (Nat → Nat → Int32)) => ((.inl (some (.int x.1)), (x.2, S.2)) : am_R))) := by
  refine am_M_of (w := fun (x : Int32 × (Nat → Nat → Int32)) => ((.inl (some (.int x.1)), (x.2, S.2)) : am_R)) hl (by decide) (am_fc rfl (am_fc rfl (am_fc rfl (am_fc rfl (am_fc rfl am_fn))))) (Nat.le_of_ble_eq_true rfl) ?_
  show am_Ev E l (RX1, cX1_turnOf, 8, (some .int), [], am_rm 3 0 0) (fun b a s x => am_Z E 0 0 b a s ((fun (x : Int32 × (Nat → Nat → Int32)) => ((.inl (some (.int x.1)), (x.2, S.2)) : am_R)) x)) 0 0 0 [some (.ref p0), some (.ref p1), some (.int p2), some (.int p3), some (.int p4), none, none, none] [] S (f_X1_turnOf S p0 p1 p2 p3 p4)
  unfold f_X1_turnOf
  refine ev_aload_n dX1_turnOf_0 rfl ?_
  refine ev_getR fk_X1_26 (by decide) dX1_turnOf_1 kp0 (fun q1 k1 r1 => ?_)
  refine ev_iconst (v := 0) dX1_turnOf_4 (by decide) ?_
  refine ev_iload_n dX1_turnOf_5 rfl ?_
  refine ev_iast dX1_turnOf_6 k1 (fun σ2 h2 => ?_)
  refine ev_aload_n dX1_turnOf_7 rfl ?_
  refine ev_getR fk_X1_26 (by decide) dX1_turnOf_8 kp0 (fun q3 k3 r3 => ?_)
  refine ev_iconst (v := 1) dX1_turnOf_11 (by decide) ?_
  refine ev_aload_n dX1_turnOf_12 rfl ?_
  refine ev_iload_n dX1_turnOf_13 rfl ?_
  refine ev_callP (am_callVN (as := [.int p2]) (o := p1) (st := [.int 1, .ref q3]) cv_X1_41 dX1_turnOf_14 kp1 rfl (am_le rfl) (am_fit (by omega) (by decide) (by decide) (by decide)) (am_no1 (fun _ => ⟨_, rfl⟩)) (t_X9_hasHouse hl kp1)) (fun v4 h4 => ?_)
  refine ev_reg (cs' := 0) (sl' := 0) 30 (fun t5 : Int32 => [some (.ref p0), some (.ref p1), some (.int p2), some (.int p3), some (.int p4), none, none, none]) (fun t5 => [.int t5, .int 1, .ref q3]) (fun t5 => (σ2, S.2)) (fun hJ5 => ?_) (fun t5 => ?_)
  · refine ev_eq am_ib ?_
    refine ev_if_eq (tgt := 29) dX1_turnOf_17 (by decide) (fun c5 => ?_) (fun c5 => ?_)
    · refine ev_iconst (v := 0) dX1_turnOf_29 (by decide) ?_
      exact ev_leaf (am_wk (am_wk (am_wk (am_wk (am_wk (am_wf (am_wf (am_wf am_wn)))))))) (hJ5 (0 : Int32))
    · refine ev_aload_n dX1_turnOf_20 rfl ?_
      refine ev_eq (Option.bind_assoc _ _ _) ?_
      refine ev_getRN fk_X1_47 (by decide) dX1_turnOf_21 kp1 (fun q6 k6 r6 => ?_)
      refine ev_iload_n dX1_turnOf_24 rfl ?_
      refine ev_eq (Option.bind_assoc _ _ _) ?_
      refine ev_iald dX1_turnOf_25 k6 (fun v7 h7 => ?_)
      refine ev_goto (tgt := 30) dX1_turnOf_26 (by decide) ?_
      exact ev_leaf (am_wk (am_wk (am_wk (am_wk (am_wk (am_wf (am_wf (am_wf am_wn)))))))) (hJ5 v7)
  · refine ev_iast dX1_turnOf_30 k3 (fun σ8 h8 => ?_)
    refine ev_aload_n dX1_turnOf_31 rfl ?_
    refine ev_getR fk_X1_26 (by decide) dX1_turnOf_32 kp0 (fun q9 k9 r9 => ?_)
    refine ev_iconst (v := 2) dX1_turnOf_35 (by decide) ?_
    refine ev_aload_n dX1_turnOf_36 rfl ?_
    refine ev_iload_n dX1_turnOf_37 rfl ?_
    refine ev_callP (am_callVN (as := [.int p3]) (o := p1) (st := [.int 2, .ref q9]) cv_X1_50 dX1_turnOf_38 kp1 rfl (am_le rfl) (am_fit (by omega) (by decide) (by decide) (by decide)) (am_no1 (fun _ => ⟨_, rfl⟩)) (t_X9_urgentOf hl kp1)) (fun v10 h10 => ?_)
    refine ev_iast dX1_turnOf_41 k9 (fun σ11 h11 => ?_)
    refine ev_aload_n dX1_turnOf_42 rfl ?_
    refine ev_getR fk_X1_26 (by decide) dX1_turnOf_43 kp0 (fun q12 k12 r12 => ?_)
    refine ev_iconst (v := 3) dX1_turnOf_46 (by decide) ?_
    refine ev_aload_n dX1_turnOf_47 rfl ?_
    refine ev_iload_n dX1_turnOf_48 rfl ?_
    refine ev_iload_n dX1_turnOf_49 rfl ?_
    refine ev_callP (am_callVN (as := [.int p2, .int p3]) (o := p1) (st := [.int 3, .ref q12]) cv_X1_54 dX1_turnOf_50 kp1 rfl (am_le rfl) (am_fit (by omega) (by decide) (by decide) (by decide)) (am_no1 (fun _ => ⟨_, rfl⟩)) (t_X9_wordFor hl kp1)) (fun v13 h13 => ?_)
    refine ev_callP (am_callSN (as := [.int v13]) (st := [.int 3, .ref q12]) ct_X1_58 dX1_turnOf_53 rfl (am_le rfl) (am_fit (by omega) (by decide) (by decide) (by decide)) (am_no1 (fun _ => ⟨_, rfl⟩)) (t_X11_minutesOf hl )) (fun v14 h14 => ?_)
    refine ev_iast dX1_turnOf_56 k12 (fun σ15 h15 => ?_)
    refine ev_aload_n dX1_turnOf_57 rfl ?_
    refine ev_getR fk_X1_26 (by decide) dX1_turnOf_58 kp0 (fun q16 k16 r16 => ?_)
    refine ev_iconst (v := 4) dX1_turnOf_61 (by decide) ?_
    refine ev_iload dX1_turnOf_62 rfl ?_
    refine ev_iast dX1_turnOf_64 k16 (fun σ17 h17 => ?_)
    refine ev_iconst (v := 0) dX1_turnOf_65 (by decide) ?_
    refine ev_istore dX1_turnOf_66 (am_lt rfl) ?_
    refine ev_iconst (v := 0) dX1_turnOf_68 (by decide) ?_
    refine ev_istore dX1_turnOf_69 (am_lt rfl) ?_
    refine ev_iconst (v := 0) dX1_turnOf_71 (by decide) ?_
    refine ev_istore dX1_turnOf_72 (am_lt rfl) ?_
    refine ev_weak (am_wk (am_wf (am_wf (am_wf (am_wf (am_wk (am_wk (am_wk am_wn)))))))) (ev_loop 74 133 (fun x18 : Int32 × Int32 × Int32 × (Nat → Nat → Int32) => [some (.ref p0), none, none, none, none, some (.int x18.1), some (.int x18.2.1), some (.int x18.2.2.1)]) (fun t18 : Int32 × (Nat → Nat → Int32) => [none, none, none, none, none, some (.int t18.1), none, none]) (fun x18 => (x18.2.2.2, S.2)) (fun t18 => (t18.2, S.2)) (fun x18 G18 hB18 hE18 => ?_) (fun t18 => ?_) am_fuel (0, 0, 0, σ17))
    · unfold f_X1_turnOf_b74
      refine ev_iload dX1_turnOf_74 rfl ?_
      refine ev_aload_n dX1_turnOf_76 rfl ?_
      refine ev_get fk_X1_9 dX1_turnOf_77 kp0 (am_fvI (by decide)) ?_
      refine ev_eq am_ib ?_
      refine ev_icmp_ge (tgt := 133) dX1_turnOf_80 (by decide) (fun c29 => ?_) (fun c29 => ?_)
      · exact ev_leaf (am_wf (am_wf (am_wf (am_wf (am_wf (am_wk (am_wf (am_wf am_wn)))))))) (hE18 (x18.1, x18.2.2.2))
      · refine ev_iload dX1_turnOf_83 rfl ?_
        refine ev_bipush (v := 12) dX1_turnOf_85 (by decide) ?_
        refine ev_eq am_ib ?_
        refine ev_icmp_ge (tgt := 133) dX1_turnOf_87 (by decide) (fun c30 => ?_) (fun c30 => ?_)
        · exact ev_leaf (am_wf (am_wf (am_wf (am_wf (am_wf (am_wk (am_wf (am_wf am_wn)))))))) (hE18 (x18.1, x18.2.2.2))
        · refine ev_aload_n dX1_turnOf_90 rfl ?_
          refine ev_iload dX1_turnOf_91 rfl ?_
          refine ev_aload_n dX1_turnOf_93 rfl ?_
          refine ev_eq (Option.bind_assoc _ _ _) ?_
          refine ev_getR fk_X1_19 (by decide) dX1_turnOf_94 kp0 (fun q31 k31 r31 => ?_)
          refine ev_iload dX1_turnOf_97 rfl ?_
          refine ev_eq (Option.bind_assoc _ _ _) ?_
          refine ev_iald dX1_turnOf_99 k31 (fun v32 h32 => ?_)
          refine ev_eq (Option.bind_assoc _ _ _) ?_
          refine ev_callWI (am_callV (as := [.int x18.2.1, .int v32]) (o := p0) (st := []) cv_X1_61 dX1_turnOf_100 kp0 rfl (am_le rfl) (am_fit (by omega) (by decide) (by decide) (by decide)) (t_X1_isHolding hl kp0)) (fun y33 h33 => ?_)
          refine ev_eq (Option.bind_assoc _ _ _) ?_
          refine ev_reg (cs' := 0) (sl' := 0) 118 (fun t34 : Int32 => [some (.ref p0), none, none, none, none, some (.int t34), none, some (.int x18.2.2.1)]) (fun t34 => []) (fun t34 => (y33.2, S.2)) (fun hJ34 => ?_) (fun t34 => ?_)
          · refine ev_eq am_ib ?_
            refine ev_if_eq (tgt := 118) dX1_turnOf_103 (by decide) (fun c34 => ?_) (fun c34 => ?_)
            · exact ev_leaf (am_wk (am_wf (am_wf (am_wf (am_wf (am_wk (am_wf (am_wk am_wn)))))))) (hJ34 x18.1)
            · refine ev_iload dX1_turnOf_106 rfl ?_
              refine ev_aload_n dX1_turnOf_108 rfl ?_
              refine ev_eq (Option.bind_assoc _ _ _) ?_
              refine ev_getR fk_X1_15 (by decide) dX1_turnOf_109 kp0 (fun q35 k35 r35 => ?_)
              refine ev_iload dX1_turnOf_112 rfl ?_
              refine ev_eq (Option.bind_assoc _ _ _) ?_
              refine ev_iald dX1_turnOf_114 k35 (fun v36 h36 => ?_)
              refine ev_iadd dX1_turnOf_115 ?_
              refine ev_istore dX1_turnOf_116 (am_lt rfl) ?_
              exact ev_leaf (am_wk (am_wf (am_wf (am_wf (am_wf (am_wk (am_wf (am_wk am_wn)))))))) (hJ34 (x18.1 + v36))
          · refine ev_aload_n dX1_turnOf_118 rfl ?_
            refine ev_eq (Option.bind_assoc _ _ _) ?_
            refine ev_getR fk_X1_19 (by decide) dX1_turnOf_119 kp0 (fun q37 k37 r37 => ?_)
            refine ev_iload dX1_turnOf_122 rfl ?_
            refine ev_eq (Option.bind_assoc _ _ _) ?_
            refine ev_iald dX1_turnOf_124 k37 (fun v38 h38 => ?_)
            refine ev_istore dX1_turnOf_125 (am_lt rfl) ?_
            refine ev_iinc (v := (x18.2.2.1 + 1)) dX1_turnOf_127 (am_lt rfl) rfl rfl ?_
            refine ev_goto (tgt := 74) dX1_turnOf_130 (by decide) ?_
            exact ev_leaf (am_wk (am_wf (am_wf (am_wf (am_wf (am_wk (am_wk (am_wk am_wn)))))))) (hB18 (t34, v38, (x18.2.2.1 + 1), y33.2))
    · refine ev_iload dX1_turnOf_133 rfl ?_
      exact ev_iret dX1_turnOf_135 rfl rfl (by decide) (by decide) rfl
def f_X8_nextOf_b4 (S : am_S) (a0 : Nat) (a1 : Int32) (x1 : Int32 × Int32) : Option ((Int32 × Int32) ⊕ (Int32)) :=
  (if x1.2 < 8 then ((if ((a1 >>> (x1.2 &&& 31)) &&& 1) = 1 then (if x1.1 = (-1) then some x1.2 else ((am_rd S.2 a0 0 1).bind (fun q5 => ((am_ld S.1 q5 x1.2).bind (fun v6 => ((am_rd S.2 a0 0 1).bind (fun q7 => ((am_ld S.1 q7 x1.1).bind (fun v8 => (if v8 < v6 then some x1.2 else some x1.1)))))))))) else some x1.1).bind (fun t3 => some (.inl (t3, (x1.2 + 1))))) else some (.inr x1.1))
def f_X8_nextOf (S : am_S) (p0 : Nat) (p1 : Int32) : Option (Int32) :=
  ((am_loop (f_X8_nextOf_b4 S p0 p1) am_fuel ((-1), 0)).bind (fun t1 => (if t1 = (-1) then some 0 else some t1)))
set_option maxRecDepth 20000 in
theorem t_X8_nextOf {E : am_E} {l : Launch} (hl : l.stackTraces = false) {S : am_S} {p0 : Nat} {p1 : Int32} (kp0 : am_kd p0 = 108) : am_M E l yX8_nextOf (.code yX8_nextOf cX8_nextOf 4 (some .int)) 0 0 0 [.ref p0, .int p1] S ((f_X8_nextOf S p0 p1).map (fun (v : Int32) => ((.inl (some (.int v)), S) : am_R))) := by
  refine am_M_of (w := fun (v : Int32) => ((.inl (some (.int v)), S) : am_R)) hl (by decide) (am_fc rfl (am_fc rfl am_fn)) (Nat.le_of_ble_eq_true rfl) ?_
  show am_Ev E l (RX8, cX8_nextOf, 4, (some .int), [], am_rm 0 0 0) (fun b a s x => am_Z E 0 0 b a s ((fun (v : Int32) => ((.inl (some (.int v)), S) : am_R)) x)) 0 0 0 [some (.ref p0), some (.int p1), none, none] [] S (f_X8_nextOf S p0 p1)
  unfold f_X8_nextOf
  refine ev_iconst (v := (-1)) dX8_nextOf_0 (by decide) ?_
  refine ev_istore_n dX8_nextOf_1 (am_lt rfl) ?_
  refine ev_iconst (v := 0) dX8_nextOf_2 (by decide) ?_
  refine ev_istore_n dX8_nextOf_3 (am_lt rfl) ?_
  refine ev_weak (am_wk (am_wk (am_wk (am_wk am_wn)))) (ev_loop 4 47 (fun x1 : Int32 × Int32 => [some (.ref p0), some (.int p1), some (.int x1.1), some (.int x1.2)]) (fun t1 : Int32 => [none, none, some (.int t1), none]) (fun x1 => S) (fun t1 => S) (fun x1 G1 hB1 hE1 => ?_) (fun t1 => ?_) am_fuel ((-1), 0))
  · unfold f_X8_nextOf_b4
    refine ev_iload_n dX8_nextOf_4 rfl ?_
    refine ev_bipush (v := 8) dX8_nextOf_5 (by decide) ?_
    refine ev_eq am_ib ?_
    refine ev_icmp_ge (tgt := 47) dX8_nextOf_7 (by decide) (fun c10 => ?_) (fun c10 => ?_)
    · exact ev_leaf (am_wf (am_wf (am_wk (am_wf am_wn)))) (hE1 x1.1)
    · refine ev_iload_n dX8_nextOf_10 rfl ?_
      refine ev_iload_n dX8_nextOf_11 rfl ?_
      refine ev_ishr dX8_nextOf_12 ?_
      refine ev_iconst (v := 1) dX8_nextOf_13 (by decide) ?_
      refine ev_iand dX8_nextOf_14 ?_
      refine ev_iconst (v := 1) dX8_nextOf_15 (by decide) ?_
      refine ev_eq (Option.bind_assoc _ _ _) ?_
      refine ev_reg (cs' := 0) (sl' := 0) 41 (fun t11 : Int32 => [some (.ref p0), some (.int p1), some (.int t11), some (.int x1.2)]) (fun t11 => []) (fun t11 => S) (fun hJ11 => ?_) (fun t11 => ?_)
      · refine ev_eq am_ib ?_
        refine ev_icmp_ne (tgt := 41) dX8_nextOf_16 (by decide) (fun c11 => ?_) (fun c11 => ?_)
        · exact ev_leaf (am_wk (am_wk (am_wk (am_wk am_wn)))) (hJ11 x1.1)
        · refine ev_iload_n dX8_nextOf_19 rfl ?_
          refine ev_iconst (v := (-1)) dX8_nextOf_20 (by decide) ?_
          refine ev_eq am_ib ?_
          refine ev_icmp_eq (tgt := 39) dX8_nextOf_21 (by decide) (fun c12 => ?_) (fun c12 => ?_)
          · refine ev_iload_n dX8_nextOf_39 rfl ?_
            refine ev_istore_n dX8_nextOf_40 (am_lt rfl) ?_
            exact ev_leaf (am_wk (am_wk (am_wk (am_wk am_wn)))) (hJ11 x1.2)
          · refine ev_aload_n dX8_nextOf_24 rfl ?_
            refine ev_eq (Option.bind_assoc _ _ _) ?_
            refine ev_getR fk_X8_9 (by decide) dX8_nextOf_25 kp0 (fun q13 k13 r13 => ?_)
            refine ev_iload_n dX8_nextOf_28 rfl ?_
            refine ev_eq (Option.bind_assoc _ _ _) ?_
            refine ev_iald dX8_nextOf_29 k13 (fun v14 h14 => ?_)
            refine ev_aload_n dX8_nextOf_30 rfl ?_
            refine ev_eq (Option.bind_assoc _ _ _) ?_
            refine ev_getR fk_X8_9 (by decide) dX8_nextOf_31 kp0 (fun q15 k15 r15 => ?_)
            refine ev_iload_n dX8_nextOf_34 rfl ?_
            refine ev_eq (Option.bind_assoc _ _ _) ?_
            refine ev_iald dX8_nextOf_35 k15 (fun v16 h16 => ?_)
            refine ev_eq am_ib ?_
            refine ev_icmp_le (tgt := 41) dX8_nextOf_36 (by decide) (fun c17 => ?_) (fun c17 => ?_)
            · exact ev_leaf (am_wk (am_wk (am_wk (am_wk am_wn)))) (hJ11 x1.1)
            · refine ev_iload_n dX8_nextOf_39 rfl ?_
              refine ev_istore_n dX8_nextOf_40 (am_lt rfl) ?_
              exact ev_leaf (am_wk (am_wk (am_wk (am_wk am_wn)))) (hJ11 x1.2)
      · refine ev_iinc (v := (x1.2 + 1)) dX8_nextOf_41 (am_lt rfl) rfl rfl ?_
        refine ev_goto (tgt := 4) dX8_nextOf_44 (by decide) ?_
        exact ev_leaf (am_wk (am_wk (am_wk (am_wk am_wn)))) (hB1 (t11, (x1.2 + 1)))
  · refine ev_iload_n dX8_nextOf_47 rfl ?_
    refine ev_iconst (v := (-1)) dX8_nextOf_48 (by decide) ?_
    refine ev_icmp_ne (tgt := 56) dX8_nextOf_49 (by decide) (fun c18 => ?_) (fun c18 => ?_)
    · refine ev_iload_n dX8_nextOf_56 rfl ?_
      exact ev_iret dX8_nextOf_57 rfl rfl (by decide) (by decide) rfl
    · refine ev_iconst (v := 0) dX8_nextOf_52 (by decide) ?_
      refine ev_goto (tgt := 57) dX8_nextOf_53 (by decide) ?_
      exact ev_iret dX8_nextOf_57 rfl rfl (by decide) (by decide) rfl
def f_X8_ringReady_b8 (S : am_S) (a0 : Nat) (a2 : Int32) (x2 : Int32 × Int32 × (Nat → Nat → Int32)) : Option ((Int32 × Int32 × (Nat → Nat → Int32)) ⊕ ((Nat → Nat → Int32))) :=
  (if 0 < x2.2.1 then ((f_X8_nextOf (x2.2.2, S.2) a0 x2.1).bind (fun v4 => ((f_X8_isUnharmed (x2.2.2, S.2) a0 v4 a2).bind (fun v5 => ((if v5 = 0 then some x2.2.2 else ((am_rd S.2 a0 3 1).bind (fun q7 => ((am_rd S.2 a0 2 1).bind (fun q8 => ((am_ld (am_u2 x2.2.2 a0 4 ((x2.2.2 a0 4) &&& (((1 : Int32) <<< (v4 &&& 31)) ^^^ (-1)))) q8 v4).bind (fun v9 => ((am_st (am_u2 x2.2.2 a0 4 ((x2.2.2 a0 4) &&& (((1 : Int32) <<< (v4 &&& 31)) ^^^ (-1)))) q7 v4 (a2 + v9)).bind (fun σ10 => ((am_rd S.2 a0 3 1).bind (fun q11 => ((am_ld (am_u2 σ10 a0 5 ((σ10 a0 5) + a2)) q11 v4).bind (fun v12 => ((f_J9_max_7cf53 ((am_u2 σ10 a0 5 ((σ10 a0 5) + a2)) a0 6) v12).bind (fun v13 => some (am_u2 (am_u2 σ10 a0 5 ((σ10 a0 5) + a2)) a0 6 v13)))))))))))))))).bind (fun t6 => some (.inl ((x2.1 &&& (((1 : Int32) <<< (v4 &&& 31)) ^^^ (-1))), (x2.2.1 + (-1)), t6)))))))) else some (.inr x2.2.2))
def f_X8_ringReady (S : am_S) (p0 : Nat) (p1 : Int32) (p2 : Int32) : Option ((Nat → Nat → Int32)) :=
  ((f_J6_bitCount_0f7a4 p1).bind (fun v1 => ((am_loop (f_X8_ringReady_b8 S p0 p2) am_fuel (p1, v1, S.1)).bind (fun t2 => some t2))))
set_option maxRecDepth 20000 in
theorem t_X8_ringReady {E : am_E} {l : Launch} (hl : l.stackTraces = false) {S : am_S} {p0 : Nat} {p1 : Int32} {p2 : Int32} (kp0 : am_kd p0 = 108) : am_M E l yX8_ringReady (.code yX8_ringReady cX8_ringReady 6 none) 1 0 0 [.ref p0, .int p1, .int p2] S ((f_X8_ringReady S p0 p1 p2).map (fun (x : Nat → Nat → Int32) => ((.inl none, (x, S.2)) : am_R))) := by
  refine am_M_of (w := fun (x : Nat → Nat → Int32) => ((.inl none, (x, S.2)) : am_R)) hl (by decide) (am_fc rfl (am_fc rfl (am_fc rfl am_fn))) (Nat.le_of_ble_eq_true rfl) ?_
  show am_Ev E l (RX8, cX8_ringReady, 6, none, [], am_rm 1 0 0) (fun b a s x => am_Z E 0 0 b a s ((fun (x : Nat → Nat → Int32) => ((.inl none, (x, S.2)) : am_R)) x)) 0 0 0 [some (.ref p0), some (.int p1), some (.int p2), none, none, none] [] S (f_X8_ringReady S p0 p1 p2)
  unfold f_X8_ringReady
  refine ev_iload_n dX8_ringReady_0 rfl ?_
  refine ev_istore_n dX8_ringReady_1 (am_lt rfl) ?_
  refine ev_iload_n dX8_ringReady_2 rfl ?_
  refine ev_callP (am_callS (as := [.int p1]) (st := []) ct_X8_72 dX8_ringReady_3 rfl (am_le rfl) (am_fit (by omega) (by decide) (by decide) (by decide)) (t_J6_bitCount_0f7a4 hl )) (fun v1 h1 => ?_)
  refine ev_istore dX8_ringReady_6 (am_lt rfl) ?_
  refine ev_weak (am_wk (am_wf (am_wk (am_wk (am_wk (am_wf am_wn)))))) (ev_loop 8 104 (fun x2 : Int32 × Int32 × (Nat → Nat → Int32) => [some (.ref p0), none, some (.int p2), some (.int x2.1), some (.int x2.2.1), none]) (fun t2 : (Nat → Nat → Int32) => [none, none, none, none, none, none]) (fun x2 => (x2.2.2, S.2)) (fun t2 => (t2, S.2)) (fun x2 G2 hB2 hE2 => ?_) (fun t2 => ?_) am_fuel (p1, v1, S.1))
  · unfold f_X8_ringReady_b8
    refine ev_iload dX8_ringReady_8 rfl ?_
    refine ev_eq am_ib ?_
    refine ev_if_le (tgt := 104) dX8_ringReady_10 (by decide) (fun c14 => ?_) (fun c14 => ?_)
    · exact ev_leaf (am_wf (am_wf (am_wf (am_wf (am_wf (am_wf am_wn)))))) (hE2 x2.2.2)
    · refine ev_aload_n dX8_ringReady_13 rfl ?_
      refine ev_iload_n dX8_ringReady_14 rfl ?_
      refine ev_eq (Option.bind_assoc _ _ _) ?_
      refine ev_callP (am_callV (as := [.int x2.1]) (o := p0) (st := []) cv_X8_90 dX8_ringReady_15 kp0 rfl (am_le rfl) (am_fit (by omega) (by decide) (by decide) (by decide)) (t_X8_nextOf hl kp0)) (fun v15 h15 => ?_)
      refine ev_istore dX8_ringReady_18 (am_lt rfl) ?_
      refine ev_iload_n dX8_ringReady_20 rfl ?_
      refine ev_iconst (v := 1) dX8_ringReady_21 (by decide) ?_
      refine ev_iload dX8_ringReady_22 rfl ?_
      refine ev_ishl dX8_ringReady_24 ?_
      refine ev_iconst (v := (-1)) dX8_ringReady_25 (by decide) ?_
      refine ev_ixor dX8_ringReady_26 ?_
      refine ev_iand dX8_ringReady_27 ?_
      refine ev_istore_n dX8_ringReady_28 (am_lt rfl) ?_
      refine ev_aload_n dX8_ringReady_29 rfl ?_
      refine ev_iload dX8_ringReady_30 rfl ?_
      refine ev_iload_n dX8_ringReady_32 rfl ?_
      refine ev_eq (Option.bind_assoc _ _ _) ?_
      refine ev_callP (am_callV (as := [.int v15, .int p2]) (o := p0) (st := []) cv_X8_86 dX8_ringReady_33 kp0 rfl (am_le rfl) (am_fit (by omega) (by decide) (by decide) (by decide)) (t_X8_isUnharmed hl kp0)) (fun v16 h16 => ?_)
      refine ev_eq (Option.bind_assoc _ _ _) ?_
      refine ev_reg (cs' := 0) (sl' := 0) 98 (fun t17 : (Nat → Nat → Int32) => [some (.ref p0), none, some (.int p2), some (.int (x2.1 &&& (((1 : Int32) <<< (v15 &&& 31)) ^^^ (-1)))), some (.int x2.2.1), none]) (fun t17 => []) (fun t17 => (t17, S.2)) (fun hJ17 => ?_) (fun t17 => ?_)
      · refine ev_eq am_ib ?_
        refine ev_if_eq (tgt := 98) dX8_ringReady_36 (by decide) (fun c17 => ?_) (fun c17 => ?_)
        · exact ev_leaf (am_wk (am_wf (am_wk (am_wk (am_wk (am_wf am_wn)))))) (hJ17 x2.2.2)
        · refine ev_aload_n dX8_ringReady_39 rfl ?_
          refine ev_dup dX8_ringReady_40 rfl ?_
          refine ev_get fk_X8_28 dX8_ringReady_41 kp0 (am_fvI (by decide)) ?_
          refine ev_iconst (v := 1) dX8_ringReady_44 (by decide) ?_
          refine ev_iload dX8_ringReady_45 rfl ?_
          refine ev_ishl dX8_ringReady_47 ?_
          refine ev_iconst (v := (-1)) dX8_ringReady_48 (by decide) ?_
          refine ev_ixor dX8_ringReady_49 ?_
          refine ev_iand dX8_ringReady_50 ?_
          refine ev_putI fk_X8_28 tyX8 tyX8_ok nmX8 rfl (by decide +kernel) (by decide) dX8_ringReady_51 kp0 ?_
          refine ev_aload_n dX8_ringReady_54 rfl ?_
          refine ev_eq (Option.bind_assoc _ _ _) ?_
          refine ev_getR fk_X8_21 (by decide) dX8_ringReady_55 kp0 (fun q18 k18 r18 => ?_)
          refine ev_iload dX8_ringReady_58 rfl ?_
          refine ev_iload_n dX8_ringReady_60 rfl ?_
          refine ev_aload_n dX8_ringReady_61 rfl ?_
          refine ev_eq (Option.bind_assoc _ _ _) ?_
          refine ev_getR fk_X8_18 (by decide) dX8_ringReady_62 kp0 (fun q19 k19 r19 => ?_)
          refine ev_iload dX8_ringReady_65 rfl ?_
          refine ev_eq (Option.bind_assoc _ _ _) ?_
          refine ev_iald dX8_ringReady_67 k19 (fun v20 h20 => ?_)
          refine ev_iadd dX8_ringReady_68 ?_
          refine ev_eq (Option.bind_assoc _ _ _) ?_
          refine ev_iast dX8_ringReady_69 k18 (fun σ21 h21 => ?_)
          refine ev_aload_n dX8_ringReady_70 rfl ?_
          refine ev_dup dX8_ringReady_71 rfl ?_
          refine ev_get fk_X8_56 dX8_ringReady_72 kp0 (am_fvI (by decide)) ?_
          refine ev_iload_n dX8_ringReady_75 rfl ?_
          refine ev_iadd dX8_ringReady_76 ?_
          refine ev_putI fk_X8_56 tyX8 tyX8_ok nmX8 rfl (by decide +kernel) (by decide) dX8_ringReady_77 kp0 ?_
          refine ev_aload_n dX8_ringReady_80 rfl ?_
          refine ev_aload_n dX8_ringReady_81 rfl ?_
          refine ev_get fk_X8_59 dX8_ringReady_82 kp0 (am_fvI (by decide)) ?_
          refine ev_aload_n dX8_ringReady_85 rfl ?_
          refine ev_eq (Option.bind_assoc _ _ _) ?_
          refine ev_getR fk_X8_21 (by decide) dX8_ringReady_86 kp0 (fun q22 k22 r22 => ?_)
          refine ev_iload dX8_ringReady_89 rfl ?_
          refine ev_eq (Option.bind_assoc _ _ _) ?_
          refine ev_iald dX8_ringReady_91 k22 (fun v23 h23 => ?_)
          refine ev_eq (Option.bind_assoc _ _ _) ?_
          refine ev_callP (am_callS (as := [.int ((am_u2 σ21 p0 5 ((σ21 p0 5) + p2)) p0 6), .int v23]) (st := [.ref p0]) ct_X8_93 dX8_ringReady_92 rfl (am_le rfl) (am_fit (by omega) (by decide) (by decide) (by decide)) (t_J9_max_7cf53 hl )) (fun v24 h24 => ?_)
          refine ev_putI fk_X8_59 tyX8 tyX8_ok nmX8 rfl (by decide +kernel) (by decide) dX8_ringReady_95 kp0 ?_
          exact ev_leaf (am_wk (am_wf (am_wk (am_wk (am_wk (am_wf am_wn)))))) (hJ17 (am_u2 (am_u2 σ21 p0 5 ((σ21 p0 5) + p2)) p0 6 v24))
      · refine ev_iinc (v := (x2.2.1 + (-1))) dX8_ringReady_98 (am_lt rfl) rfl rfl ?_
        refine ev_goto (tgt := 8) dX8_ringReady_101 (by decide) ?_
        exact ev_leaf (am_wk (am_wf (am_wk (am_wk (am_wk (am_wf am_wn)))))) (hB2 ((x2.1 &&& (((1 : Int32) <<< (v15 &&& 31)) ^^^ (-1))), (x2.2.1 + (-1)), t17))
  · exact ev_vret dX8_ringReady_104 rfl (by decide) (by decide) rfl
def f_X8_runByLaw_b32 (S : am_S) (a0 : Nat) (a1 : Nat) (a2 : Int32) (a3 : Int32) (a4 : Int32) (x6 : Int32 × (Nat → Nat → Int32)) : Option ((Int32 × (Nat → Nat → Int32)) ⊕ ((Nat → Nat → Int32))) :=
  (if x6.1 < 8 then ((if ((a4 >>> (x6.1 &&& 31)) &&& 1) = 1 then ((am_rd S.2 a0 0 1).bind (fun q9 => ((am_rd S.2 a1 14 101).bind (fun q10 => ((f_X1_turnOf (x6.2, S.2) q10 a1 x6.1 a2 a3).bind (fun y11 => ((am_st y11.2 q9 x6.1 y11.1).bind (fun σ12 => some σ12)))))))) else some x6.2).bind (fun t8 => some (.inl ((x6.1 + 1), t8)))) else some (.inr x6.2))
def f_X8_runByLaw_b8 (S : am_S) (a0 : Nat) (a1 : Nat) (a2 : Int32) (x2 : Int32 × (Nat → Nat → Int32)) : Option ((Int32 × (Nat → Nat → Int32)) ⊕ ((Nat → Nat → Int32))) :=
  (if 128 < x2.1 then some (.inr x2.2) else (if (x2.2 a0 4) = 0 then some (.inr x2.2) else ((f_X8_readyAt (x2.2, S.2) a0 x2.1).bind (fun v5 => ((am_loop (f_X8_runByLaw_b32 (x2.2, S.2) a0 a1 a2 x2.1 v5) am_fuel (0, x2.2)).bind (fun t6 => ((f_X8_ringReady (t6, S.2) a0 v5 x2.1).bind (fun σ19 => some (.inl ((x2.1 + 1), σ19))))))))))
def f_X8_runByLaw (S : am_S) (p0 : Nat) (p1 : Nat) (p2 : Int32) : Option ((Nat → Nat → Int32)) :=
  ((f_X8_prepare S p0 p1 p2).bind (fun σ1 => ((am_loop (f_X8_runByLaw_b8 (σ1, S.2) p0 p1 p2) am_fuel (0, σ1)).bind (fun t2 => some t2))))
set_option maxRecDepth 20000 in
theorem t_X8_runByLaw {E : am_E} {l : Launch} (hl : l.stackTraces = false) {S : am_S} {p0 : Nat} {p1 : Nat} {p2 : Int32} (kp0 : am_kd p0 = 108) (kp1 : am_kd p1 = 109) : am_M E l yX8_runByLaw (.code yX8_runByLaw cX8_runByLaw 6 none) 5 0 0 [.ref p0, .ref p1, .int p2] S ((f_X8_runByLaw S p0 p1 p2).map (fun (x : Nat → Nat → Int32) => ((.inl none, (x, S.2)) : am_R))) := by
  refine am_M_of (w := fun (x : Nat → Nat → Int32) => ((.inl none, (x, S.2)) : am_R)) hl (by decide) (am_fc rfl (am_fc rfl (am_fc rfl am_fn))) (Nat.le_of_ble_eq_true rfl) ?_
  show am_Ev E l (RX8, cX8_runByLaw, 6, none, [], am_rm 5 0 0) (fun b a s x => am_Z E 0 0 b a s ((fun (x : Nat → Nat → Int32) => ((.inl none, (x, S.2)) : am_R)) x)) 0 0 0 [some (.ref p0), some (.ref p1), some (.int p2), none, none, none] [] S (f_X8_runByLaw S p0 p1 p2)
  unfold f_X8_runByLaw
  refine ev_aload_n dX8_runByLaw_0 rfl ?_
  refine ev_aload_n dX8_runByLaw_1 rfl ?_
  refine ev_iload_n dX8_runByLaw_2 rfl ?_
  refine ev_callWV (am_callV (as := [.ref p1, .int p2]) (o := p0) (st := []) cv_X8_24 dX8_runByLaw_3 kp0 rfl (am_le rfl) (am_fit (by omega) (by decide) (by decide) (by decide)) (t_X8_prepare hl kp0 kp1)) (fun σ1 h1 => ?_)
  refine ev_iconst (v := 0) dX8_runByLaw_6 (by decide) ?_
  refine ev_istore_n dX8_runByLaw_7 (am_lt rfl) ?_
  refine ev_weak (am_wk (am_wk (am_wk (am_wk (am_wf (am_wf am_wn)))))) (ev_loop 8 88 (fun x2 : Int32 × (Nat → Nat → Int32) => [some (.ref p0), some (.ref p1), some (.int p2), some (.int x2.1), none, none]) (fun t2 : (Nat → Nat → Int32) => [none, none, none, none, none, none]) (fun x2 => (x2.2, S.2)) (fun t2 => (t2, S.2)) (fun x2 G2 hB2 hE2 => ?_) (fun t2 => ?_) am_fuel (0, σ1))
  · unfold f_X8_runByLaw_b8
    refine ev_iload_n dX8_runByLaw_8 rfl ?_
    refine ev_sipush (v := 128) dX8_runByLaw_9 (by decide) ?_
    refine ev_eq am_ib ?_
    refine ev_icmp_gt (tgt := 88) dX8_runByLaw_12 (by decide) (fun c20 => ?_) (fun c20 => ?_)
    · exact ev_leaf (am_wf (am_wf (am_wf (am_wf (am_wf (am_wf am_wn)))))) (hE2 x2.2)
    · refine ev_aload_n dX8_runByLaw_15 rfl ?_
      refine ev_get fk_X8_28 dX8_runByLaw_16 kp0 (am_fvI (by decide)) ?_
      refine ev_eq am_ib ?_
      refine ev_if_eq (tgt := 88) dX8_runByLaw_19 (by decide) (fun c21 => ?_) (fun c21 => ?_)
      · exact ev_leaf (am_wf (am_wf (am_wf (am_wf (am_wf (am_wf am_wn)))))) (hE2 x2.2)
      · refine ev_aload_n dX8_runByLaw_22 rfl ?_
        refine ev_iload_n dX8_runByLaw_23 rfl ?_
        refine ev_eq (Option.bind_assoc _ _ _) ?_
        refine ev_callP (am_callV (as := [.int x2.1]) (o := p0) (st := []) cv_X8_32 dX8_runByLaw_24 kp0 rfl (am_le rfl) (am_fit (by omega) (by decide) (by decide) (by decide)) (t_X8_readyAt hl kp0)) (fun v22 h22 => ?_)
        refine ev_istore dX8_runByLaw_27 (am_lt rfl) ?_
        refine ev_iconst (v := 0) dX8_runByLaw_29 (by decide) ?_
        refine ev_istore dX8_runByLaw_30 (am_lt rfl) ?_
        refine ev_eq (Option.bind_assoc _ _ _) ?_
        refine ev_weak (am_wk (am_wk (am_wk (am_wk (am_wk (am_wk am_wn)))))) (ev_loop 32 75 (fun x23 : Int32 × (Nat → Nat → Int32) => [some (.ref p0), some (.ref p1), some (.int p2), some (.int x2.1), some (.int v22), some (.int x23.1)]) (fun t23 : (Nat → Nat → Int32) => [some (.ref p0), some (.ref p1), some (.int p2), some (.int x2.1), some (.int v22), none]) (fun x23 => (x23.2, S.2)) (fun t23 => (t23, S.2)) (fun x23 G23 hB23 hE23 => ?_) (fun t23 => ?_) am_fuel (0, x2.2))
        · unfold f_X8_runByLaw_b32
          refine ev_iload dX8_runByLaw_32 rfl ?_
          refine ev_bipush (v := 8) dX8_runByLaw_34 (by decide) ?_
          refine ev_eq am_ib ?_
          refine ev_icmp_ge (tgt := 75) dX8_runByLaw_36 (by decide) (fun c30 => ?_) (fun c30 => ?_)
          · exact ev_leaf (am_wk (am_wk (am_wk (am_wk (am_wk (am_wf am_wn)))))) (hE23 x23.2)
          · refine ev_iload dX8_runByLaw_39 rfl ?_
            refine ev_iload dX8_runByLaw_41 rfl ?_
            refine ev_ishr dX8_runByLaw_43 ?_
            refine ev_iconst (v := 1) dX8_runByLaw_44 (by decide) ?_
            refine ev_iand dX8_runByLaw_45 ?_
            refine ev_iconst (v := 1) dX8_runByLaw_46 (by decide) ?_
            refine ev_eq (Option.bind_assoc _ _ _) ?_
            refine ev_reg (cs' := 0) (sl' := 0) 69 (fun t31 : (Nat → Nat → Int32) => [some (.ref p0), some (.ref p1), some (.int p2), some (.int x2.1), some (.int v22), some (.int x23.1)]) (fun t31 => []) (fun t31 => (t31, S.2)) (fun hJ31 => ?_) (fun t31 => ?_)
            · refine ev_eq am_ib ?_
              refine ev_icmp_ne (tgt := 69) dX8_runByLaw_47 (by decide) (fun c31 => ?_) (fun c31 => ?_)
              · exact ev_leaf (am_wk (am_wk (am_wk (am_wk (am_wk (am_wk am_wn)))))) (hJ31 x23.2)
              · refine ev_aload_n dX8_runByLaw_50 rfl ?_
                refine ev_eq (Option.bind_assoc _ _ _) ?_
                refine ev_getR fk_X8_9 (by decide) dX8_runByLaw_51 kp0 (fun q32 k32 r32 => ?_)
                refine ev_iload dX8_runByLaw_54 rfl ?_
                refine ev_aload_n dX8_runByLaw_56 rfl ?_
                refine ev_eq (Option.bind_assoc _ _ _) ?_
                refine ev_getRN fk_X8_36 (by decide) dX8_runByLaw_57 kp1 (fun q33 k33 r33 => ?_)
                refine ev_aload_n dX8_runByLaw_60 rfl ?_
                refine ev_iload dX8_runByLaw_61 rfl ?_
                refine ev_iload_n dX8_runByLaw_63 rfl ?_
                refine ev_iload_n dX8_runByLaw_64 rfl ?_
                refine ev_eq (Option.bind_assoc _ _ _) ?_
                refine ev_callWI (am_callVN (as := [.ref p1, .int x23.1, .int p2, .int x2.1]) (o := q33) (st := [.int x23.1, .ref q32]) cv_X8_42 dX8_runByLaw_65 k33 rfl (am_le rfl) (am_fit (by omega) (by decide) (by decide) (by decide)) (am_no1 (fun _ => ⟨_, rfl⟩)) (t_X1_turnOf hl k33 kp1)) (fun y34 h34 => ?_)
                refine ev_eq (Option.bind_assoc _ _ _) ?_
                refine ev_iast dX8_runByLaw_68 k32 (fun σ35 h35 => ?_)
                exact ev_leaf (am_wk (am_wk (am_wk (am_wk (am_wk (am_wk am_wn)))))) (hJ31 σ35)
            · refine ev_iinc (v := (x23.1 + 1)) dX8_runByLaw_69 (am_lt rfl) rfl rfl ?_
              refine ev_goto (tgt := 32) dX8_runByLaw_72 (by decide) ?_
              exact ev_leaf (am_wk (am_wk (am_wk (am_wk (am_wk (am_wk am_wn)))))) (hB23 ((x23.1 + 1), t31))
        · refine ev_aload_n dX8_runByLaw_75 rfl ?_
          refine ev_iload dX8_runByLaw_76 rfl ?_
          refine ev_iload_n dX8_runByLaw_78 rfl ?_
          refine ev_eq (Option.bind_assoc _ _ _) ?_
          refine ev_callWV (am_callV (as := [.int v22, .int x2.1]) (o := p0) (st := []) cv_X8_48 dX8_runByLaw_79 kp0 rfl (am_le rfl) (am_fit (by omega) (by decide) (by decide) (by decide)) (t_X8_ringReady hl kp0)) (fun σ36 h36 => ?_)
          refine ev_iinc (v := (x2.1 + 1)) dX8_runByLaw_82 (am_lt rfl) rfl rfl ?_
          refine ev_goto (tgt := 8) dX8_runByLaw_85 (by decide) ?_
          exact ev_leaf (am_wk (am_wk (am_wk (am_wk (am_wf (am_wf am_wn)))))) (hB2 ((x2.1 + 1), σ36))
  · exact ev_vret dX8_runByLaw_88 rfl (by decide) (by decide) rfl
def f_X11_six (S : am_S) (p0 : Nat) (p1 : Int32) (p2 : Int32) : Option (am_R) :=
  (am_thV (f_X11_needWant S p0 p1) (fun S1 => (am_thV (f_X11_needSixWhat S1 p0 p2) (fun S2 => ((am_rd S2.2 p0 13 108).bind (fun q3 => ((am_rd S2.2 p0 3 109).bind (fun q4 => ((f_X8_runByLaw S2 q3 q4 p1).bind (fun σ5 => (if p2 = 0 then ((am_rd S2.2 p0 13 108).bind (fun q8 => some (.inl (some (.int (σ5 q8 5))), (σ5, S2.2)))) else ((am_rd S2.2 p0 13 108).bind (fun q7 => some (.inl (some (.int (σ5 q7 6))), (σ5, S2.2)))))))))))))))
set_option maxRecDepth 20000 in
theorem t_X11_six {E : am_E} {l : Launch} (hl : l.stackTraces = false) {S : am_S} {p0 : Nat} {p1 : Int32} {p2 : Int32} (kp0 : am_kd p0 = 111) : am_M E l yX11_six (.code yX11_six cX11_six 3 (some .int)) 6 2 12 [.ref p0, .int p1, .int p2] S (f_X11_six S p0 p1 p2) := by
  refine am_M_id (am_M_of (w := fun x => x) hl (by decide) (am_fc rfl (am_fc rfl (am_fc rfl am_fn))) (Nat.le_of_ble_eq_true rfl) ?_)
  show am_Ev E l (RX11, cX11_six, 3, (some .int), [], am_rm 6 2 12) (am_Z E 2 12) 0 0 0 [some (.ref p0), some (.int p1), some (.int p2)] [] S (f_X11_six S p0 p1 p2)
  unfold f_X11_six
  refine ev_aload_n dX11_six_0 rfl ?_
  refine ev_iload_n dX11_six_1 rfl ?_
  refine ev_callGV (am_callV (as := [.int p1]) (o := p0) (st := []) cv_X11_165 dX11_six_2 kp0 rfl (am_le rfl) (am_fit (by omega) (by decide) (by decide) (by decide)) (t_X11_needWant hl kp0)) rfl (by decide) (by decide) (fun S1 h1 => ?_)
  refine ev_aload_n dX11_six_5 rfl ?_
  refine ev_iload_n dX11_six_6 rfl ?_
  refine ev_callGV (am_callV (as := [.int p2]) (o := p0) (st := []) cv_X11_273 dX11_six_7 kp0 rfl (am_le rfl) (am_fit (by omega) (by decide) (by decide) (by decide)) (t_X11_needSixWhat hl kp0)) rfl (by decide) (by decide) (fun S2 h2 => ?_)
  refine ev_aload_n dX11_six_10 rfl ?_
  refine ev_getR fk_X11_72 (by decide) dX11_six_11 kp0 (fun q3 k3 r3 => ?_)
  refine ev_aload_n dX11_six_14 rfl ?_
  refine ev_getR fk_X11_20 (by decide) dX11_six_15 kp0 (fun q4 k4 r4 => ?_)
  refine ev_iload_n dX11_six_18 rfl ?_
  refine ev_callWV (am_callVN (as := [.ref q4, .int p1]) (o := q3) (st := []) cv_X11_276 dX11_six_19 k3 rfl (am_le rfl) (am_fit (by omega) (by decide) (by decide) (by decide)) (am_no1 (fun _ => ⟨_, rfl⟩)) (t_X8_runByLaw hl k3 k4)) (fun σ5 h5 => ?_)
  refine ev_iload_n dX11_six_22 rfl ?_
  refine ev_if_ne (tgt := 36) dX11_six_23 (by decide) (fun c6 => ?_) (fun c6 => ?_)
  · refine ev_aload_n dX11_six_36 rfl ?_
    refine ev_getR fk_X11_72 (by decide) dX11_six_37 kp0 (fun q7 k7 r7 => ?_)
    refine ev_getN fk_X11_282 dX11_six_40 k7 (am_fvI (by decide)) ?_
    exact ev_iret dX11_six_43 rfl rfl (by decide) (by decide) rfl
  · refine ev_aload_n dX11_six_26 rfl ?_
    refine ev_getR fk_X11_72 (by decide) dX11_six_27 kp0 (fun q8 k8 r8 => ?_)
    refine ev_getN fk_X11_279 dX11_six_30 k8 (am_fvI (by decide)) ?_
    refine ev_goto (tgt := 43) dX11_six_33 (by decide) ?_
    exact ev_iret dX11_six_43 rfl rfl (by decide) (by decide) rfl
