def f_X11_putOnTape_b3 (S : am_S) (a0 : Nat) (a1 : Int32) (x1 : Int32 × (Nat → Nat → Int32)) : Option ((Int32 × (Nat → Nat → Int32)) ⊕ ((Nat → Nat → Int32))) :=
  (if x1.1 < 0 then some (.inr x1.2) else ((if (x1.2 a0 1) < 400 then ((am_rd S.2 a0 0 2).bind (fun q4 => ((am_st x1.2 q4 (x1.2 a0 1) (((a1 >>> (x1.1 &&& 31))).toInt8.toInt32).toInt8.toInt32).bind (fun σ5 => some (am_u2 σ5 a0 1 ((σ5 a0 1) + 1)))))) else some x1.2).bind (fun t3 => some (.inl ((x1.1 + (-8)), t3)))))
def f_X11_putOnTape (S : am_S) (p0 : Nat) (p1 : Int32) : Option ((Nat → Nat → Int32)) :=
  ((am_loop (f_X11_putOnTape_b3 S p0 p1) am_fuel (24, S.1)).bind (fun t1 => some t1))
set_option maxRecDepth 20000 in
theorem t_X11_putOnTape {E : am_E} {l : Launch} (hl : l.stackTraces = false) {S : am_S} {p0 : Nat} {p1 : Int32} (kp0 : am_kd p0 = 111) : am_M E l yX11_putOnTape (.code yX11_putOnTape cX11_putOnTape 3 none) 0 0 0 [.ref p0, .int p1] S ((f_X11_putOnTape S p0 p1).map (fun (x : Nat → Nat → Int32) => ((.inl none, (x, S.2)) : am_R))) := by
  refine am_M_of (w := fun (x : Nat → Nat → Int32) => ((.inl none, (x, S.2)) : am_R)) hl (by decide) (am_fc rfl (am_fc rfl am_fn)) (Nat.le_of_ble_eq_true rfl) ?_
  show am_Ev E l (RX11, cX11_putOnTape, 3, none, [], am_rm 0 0 0) (fun b a s x => am_Z E 0 0 b a s ((fun (x : Nat → Nat → Int32) => ((.inl none, (x, S.2)) : am_R)) x)) 0 0 0 [some (.ref p0), some (.int p1), none] [] S (f_X11_putOnTape S p0 p1)
  unfold f_X11_putOnTape
  refine ev_bipush (v := 24) dX11_putOnTape_0 (by decide) ?_
  refine ev_istore_n dX11_putOnTape_2 (am_lt rfl) ?_
  refine ev_weak (am_wk (am_wk (am_wk am_wn))) (ev_loop 3 46 (fun x1 : Int32 × (Nat → Nat → Int32) => [some (.ref p0), some (.int p1), some (.int x1.1)]) (fun t1 : (Nat → Nat → Int32) => [none, none, none]) (fun x1 => (x1.2, S.2)) (fun t1 => (t1, S.2)) (fun x1 G1 hB1 hE1 => ?_) (fun t1 => ?_) am_fuel (24, S.1))
  · unfold f_X11_putOnTape_b3
    refine ev_iload_n dX11_putOnTape_3 rfl ?_
    refine ev_eq am_ib ?_
    refine ev_if_lt (tgt := 46) dX11_putOnTape_4 (by decide) (fun c6 => ?_) (fun c6 => ?_)
    · exact ev_leaf (am_wf (am_wf (am_wf am_wn))) (hE1 x1.2)
    · refine ev_aload_n dX11_putOnTape_7 rfl ?_
      refine ev_get fk_X11_90 dX11_putOnTape_8 kp0 (am_fvI (by decide)) ?_
      refine ev_sipush (v := 400) dX11_putOnTape_11 (by decide) ?_
      refine ev_eq (Option.bind_assoc _ _ _) ?_
      refine ev_reg (cs' := 0) (sl' := 0) 40 (fun t7 : (Nat → Nat → Int32) => [some (.ref p0), some (.int p1), some (.int x1.1)]) (fun t7 => []) (fun t7 => (t7, S.2)) (fun hJ7 => ?_) (fun t7 => ?_)
      · refine ev_eq am_ib ?_
        refine ev_icmp_ge (tgt := 40) dX11_putOnTape_14 (by decide) (fun c7 => ?_) (fun c7 => ?_)
        · exact ev_leaf (am_wk (am_wk (am_wk am_wn))) (hJ7 x1.2)
        · refine ev_aload_n dX11_putOnTape_17 rfl ?_
          refine ev_eq (Option.bind_assoc _ _ _) ?_
          refine ev_getR fk_X11_9 (by decide) dX11_putOnTape_18 kp0 (fun q8 k8 r8 => ?_)
          refine ev_aload_n dX11_putOnTape_21 rfl ?_
          refine ev_get fk_X11_90 dX11_putOnTape_22 kp0 (am_fvI (by decide)) ?_
          refine ev_iload_n dX11_putOnTape_25 rfl ?_
          refine ev_iload_n dX11_putOnTape_26 rfl ?_
          refine ev_ishr dX11_putOnTape_27 ?_
          refine ev_i2b dX11_putOnTape_28 ?_
          refine ev_eq (Option.bind_assoc _ _ _) ?_
          refine ev_bast dX11_putOnTape_29 k8 (fun σ9 h9 => ?_)
          refine ev_aload_n dX11_putOnTape_30 rfl ?_
          refine ev_dup dX11_putOnTape_31 rfl ?_
          refine ev_get fk_X11_90 dX11_putOnTape_32 kp0 (am_fvI (by decide)) ?_
          refine ev_iconst (v := 1) dX11_putOnTape_35 (by decide) ?_
          refine ev_iadd dX11_putOnTape_36 ?_
          refine ev_putI fk_X11_90 tyX11 tyX11_ok nmX11 rfl (by decide +kernel) (by decide) dX11_putOnTape_37 kp0 ?_
          exact ev_leaf (am_wk (am_wk (am_wk am_wn))) (hJ7 (am_u2 σ9 p0 1 ((σ9 p0 1) + 1)))
      · refine ev_iinc (v := (x1.1 + (-8))) dX11_putOnTape_40 (am_lt rfl) rfl rfl ?_
        refine ev_goto (tgt := 3) dX11_putOnTape_43 (by decide) ?_
        exact ev_leaf (am_wk (am_wk (am_wk am_wn))) (hB1 ((x1.1 + (-8)), t7))
  · exact ev_vret dX11_putOnTape_46 rfl (by decide) (by decide) rfl
def f_X11_feed (S : am_S) (p0 : Nat) (p1 : Int32) (p2 : Int32) (p3 : Int32) (p4 : Int32) (p5 : Int32) : Option (Int32 × (Nat → Nat → Int32)) :=
  (if 400 < ((S.1 p0 1) + 20) then some ((-1), S.1) else ((f_X11_putOnTape S p0 p1).bind (fun σ2 => ((f_X11_putOnTape (σ2, S.2) p0 p2).bind (fun σ3 => ((f_X11_putOnTape (σ3, S.2) p0 p3).bind (fun σ4 => ((f_X11_putOnTape (σ4, S.2) p0 p4).bind (fun σ5 => ((f_X11_putOnTape (σ5, S.2) p0 p5).bind (fun σ6 => some ((σ6 p0 1), σ6))))))))))))
set_option maxRecDepth 20000 in
theorem t_X11_feed {E : am_E} {l : Launch} (hl : l.stackTraces = false) {S : am_S} {p0 : Nat} {p1 : Int32} {p2 : Int32} {p3 : Int32} {p4 : Int32} {p5 : Int32} (kp0 : am_kd p0 = 111) : am_M E l yX11_feed (.code yX11_feed cX11_feed 6 (some .int)) 1 0 0 [.ref p0, .int p1, .int p2, .int p3, .int p4, .int p5] S ((f_X11_feed S p0 p1 p2 p3 p4 p5).map (fun (x : Int32 × (Nat → Nat → Int32)) => ((.inl (some (.int x.1)), (x.2, S.2)) : am_R))) := by
  refine am_M_of (w := fun (x : Int32 × (Nat → Nat → Int32)) => ((.inl (some (.int x.1)), (x.2, S.2)) : am_R)) hl (by decide) (am_fc rfl (am_fc rfl (am_fc rfl (am_fc rfl (am_fc rfl (am_fc rfl am_fn)))))) (Nat.le_of_ble_eq_true rfl) ?_
  show am_Ev E l (RX11, cX11_feed, 6, (some .int), [], am_rm 1 0 0) (fun b a s x => am_Z E 0 0 b a s ((fun (x : Int32 × (Nat → Nat → Int32)) => ((.inl (some (.int x.1)), (x.2, S.2)) : am_R)) x)) 0 0 0 [some (.ref p0), some (.int p1), some (.int p2), some (.int p3), some (.int p4), some (.int p5)] [] S (f_X11_feed S p0 p1 p2 p3 p4 p5)
  unfold f_X11_feed
  refine ev_aload_n dX11_feed_0 rfl ?_
  refine ev_get fk_X11_90 dX11_feed_1 kp0 (am_fvI (by decide)) ?_
  refine ev_bipush (v := 20) dX11_feed_4 (by decide) ?_
  refine ev_iadd dX11_feed_6 ?_
  refine ev_sipush (v := 400) dX11_feed_7 (by decide) ?_
  refine ev_icmp_le (tgt := 15) dX11_feed_10 (by decide) (fun c1 => ?_) (fun c1 => ?_)
  · refine ev_aload_n dX11_feed_15 rfl ?_
    refine ev_iload_n dX11_feed_16 rfl ?_
    refine ev_callWV (am_callV (as := [.int p1]) (o := p0) (st := []) cv_X11_93 dX11_feed_17 kp0 rfl (am_le rfl) (am_fit (by omega) (by decide) (by decide) (by decide)) (t_X11_putOnTape hl kp0)) (fun σ2 h2 => ?_)
    refine ev_aload_n dX11_feed_20 rfl ?_
    refine ev_iload_n dX11_feed_21 rfl ?_
    refine ev_callWV (am_callV (as := [.int p2]) (o := p0) (st := []) cv_X11_93 dX11_feed_22 kp0 rfl (am_le rfl) (am_fit (by omega) (by decide) (by decide) (by decide)) (t_X11_putOnTape hl kp0)) (fun σ3 h3 => ?_)
    refine ev_aload_n dX11_feed_25 rfl ?_
    refine ev_iload_n dX11_feed_26 rfl ?_
    refine ev_callWV (am_callV (as := [.int p3]) (o := p0) (st := []) cv_X11_93 dX11_feed_27 kp0 rfl (am_le rfl) (am_fit (by omega) (by decide) (by decide) (by decide)) (t_X11_putOnTape hl kp0)) (fun σ4 h4 => ?_)
    refine ev_aload_n dX11_feed_30 rfl ?_
    refine ev_iload dX11_feed_31 rfl ?_
    refine ev_callWV (am_callV (as := [.int p4]) (o := p0) (st := []) cv_X11_93 dX11_feed_33 kp0 rfl (am_le rfl) (am_fit (by omega) (by decide) (by decide) (by decide)) (t_X11_putOnTape hl kp0)) (fun σ5 h5 => ?_)
    refine ev_aload_n dX11_feed_36 rfl ?_
    refine ev_iload dX11_feed_37 rfl ?_
    refine ev_callWV (am_callV (as := [.int p5]) (o := p0) (st := []) cv_X11_93 dX11_feed_39 kp0 rfl (am_le rfl) (am_fit (by omega) (by decide) (by decide) (by decide)) (t_X11_putOnTape hl kp0)) (fun σ6 h6 => ?_)
    refine ev_aload_n dX11_feed_42 rfl ?_
    refine ev_get fk_X11_90 dX11_feed_43 kp0 (am_fvI (by decide)) ?_
    exact ev_iret dX11_feed_46 rfl rfl (by decide) (by decide) rfl
  · refine ev_iconst (v := (-1)) dX11_feed_13 (by decide) ?_
    exact ev_iret dX11_feed_14 rfl rfl (by decide) (by decide) rfl
def f_X11_end (S : am_S) (p0 : Nat) (p1 : Int32) : Option (Int32 × (Nat → Nat → Int32)) :=
  (if p1 < 0 then some (0, S.1) else (if (S.1 p0 1) < p1 then some (0, S.1) else some (1, (am_u2 S.1 p0 1 p1))))
set_option maxRecDepth 20000 in
theorem t_X11_end {E : am_E} {l : Launch} (hl : l.stackTraces = false) {S : am_S} {p0 : Nat} {p1 : Int32} (kp0 : am_kd p0 = 111) : am_M E l yX11_end (.code yX11_end cX11_end 2 (some .boolean)) 0 0 0 [.ref p0, .int p1] S ((f_X11_end S p0 p1).map (fun (x : Int32 × (Nat → Nat → Int32)) => ((.inl (some (.int x.1)), (x.2, S.2)) : am_R))) := by
  refine am_M_of (w := fun (x : Int32 × (Nat → Nat → Int32)) => ((.inl (some (.int x.1)), (x.2, S.2)) : am_R)) hl (by decide) (am_fc rfl (am_fc rfl am_fn)) (Nat.le_of_ble_eq_true rfl) ?_
  show am_Ev E l (RX11, cX11_end, 2, (some .boolean), [], am_rm 0 0 0) (fun b a s x => am_Z E 0 0 b a s ((fun (x : Int32 × (Nat → Nat → Int32)) => ((.inl (some (.int x.1)), (x.2, S.2)) : am_R)) x)) 0 0 0 [some (.ref p0), some (.int p1)] [] S (f_X11_end S p0 p1)
  unfold f_X11_end
  refine ev_iload_n dX11_end_0 rfl ?_
  refine ev_if_lt (tgt := 12) dX11_end_1 (by decide) (fun c1 => ?_) (fun c1 => ?_)
  · refine ev_iconst (v := 0) dX11_end_12 (by decide) ?_
    exact ev_iret dX11_end_13 rfl (by decide) (by decide) (by decide) rfl
  · refine ev_iload_n dX11_end_4 rfl ?_
    refine ev_aload_n dX11_end_5 rfl ?_
    refine ev_get fk_X11_90 dX11_end_6 kp0 (am_fvI (by decide)) ?_
    refine ev_icmp_le (tgt := 14) dX11_end_9 (by decide) (fun c2 => ?_) (fun c2 => ?_)
    · refine ev_aload_n dX11_end_14 rfl ?_
      refine ev_iload_n dX11_end_15 rfl ?_
      refine ev_putI fk_X11_90 tyX11 tyX11_ok nmX11 rfl (by decide +kernel) (by decide) dX11_end_16 kp0 ?_
      refine ev_iconst (v := 1) dX11_end_19 (by decide) ?_
      exact ev_iret dX11_end_20 rfl (by decide) (by decide) (by decide) rfl
    · refine ev_iconst (v := 0) dX11_end_12 (by decide) ?_
      exact ev_iret dX11_end_13 rfl (by decide) (by decide) (by decide) rfl
def f_X1_copyFrom (S : am_S) (p0 : Nat) (p1 : Nat) : Option ((Nat → Nat → Int32)) :=
  ((am_rd S.2 p1 2 1).bind (fun q1 => ((am_rd S.2 p0 2 1).bind (fun q2 => ((am_cp (am_u2 (am_u2 S.1 p0 0 (S.1 p1 0)) p0 1 ((am_u2 S.1 p0 0 (S.1 p1 0)) p1 1)) q1 0 q2 0 12).bind (fun σ3 => ((am_rd S.2 p1 3 1).bind (fun q4 => ((am_rd S.2 p0 3 1).bind (fun q5 => ((am_cp σ3 q4 0 q5 0 12).bind (fun σ6 => ((am_rd S.2 p1 4 3).bind (fun q7 => ((am_rd S.2 p0 4 3).bind (fun q8 => ((am_cpS σ6 q7 0 q8 0 400).bind (fun σ9 => some σ9))))))))))))))))))
set_option maxRecDepth 20000 in
theorem t_X1_copyFrom {E : am_E} {l : Launch} (hl : l.stackTraces = false) {S : am_S} {p0 : Nat} {p1 : Nat} (kp0 : am_kd p0 = 101) (kp1 : am_kd p1 = 101) : am_M E l yX1_copyFrom (.code yX1_copyFrom cX1_copyFrom 2 none) 1 0 0 [.ref p0, .ref p1] S ((f_X1_copyFrom S p0 p1).map (fun (x : Nat → Nat → Int32) => ((.inl none, (x, S.2)) : am_R))) := by
  refine am_M_of (w := fun (x : Nat → Nat → Int32) => ((.inl none, (x, S.2)) : am_R)) hl (by decide) (am_fc rfl (am_fc rfl am_fn)) (Nat.le_of_ble_eq_true rfl) ?_
  show am_Ev E l (RX1, cX1_copyFrom, 2, none, [], am_rm 1 0 0) (fun b a s x => am_Z E 0 0 b a s ((fun (x : Nat → Nat → Int32) => ((.inl none, (x, S.2)) : am_R)) x)) 0 0 0 [some (.ref p0), some (.ref p1)] [] S (f_X1_copyFrom S p0 p1)
  unfold f_X1_copyFrom
  refine ev_aload_n dX1_copyFrom_0 rfl ?_
  refine ev_aload_n dX1_copyFrom_1 rfl ?_
  refine ev_get fk_X1_9 dX1_copyFrom_2 kp1 (am_fvI (by decide)) ?_
  refine ev_putI fk_X1_9 tyX1 tyX1_ok nmX1 rfl (by decide +kernel) (by decide) dX1_copyFrom_5 kp0 ?_
  refine ev_aload_n dX1_copyFrom_8 rfl ?_
  refine ev_aload_n dX1_copyFrom_9 rfl ?_
  refine ev_get fk_X1_32 dX1_copyFrom_10 kp1 (am_fvI (by decide)) ?_
  refine ev_putI fk_X1_32 tyX1 tyX1_ok nmX1 rfl (by decide +kernel) (by decide) dX1_copyFrom_13 kp0 ?_
  refine ev_aload_n dX1_copyFrom_16 rfl ?_
  refine ev_getR fk_X1_15 (by decide) dX1_copyFrom_17 kp1 (fun q1 k1 r1 => ?_)
  refine ev_iconst (v := 0) dX1_copyFrom_20 (by decide) ?_
  refine ev_aload_n dX1_copyFrom_21 rfl ?_
  refine ev_getR fk_X1_15 (by decide) dX1_copyFrom_22 kp0 (fun q2 k2 r2 => ?_)
  refine ev_iconst (v := 0) dX1_copyFrom_25 (by decide) ?_
  refine ev_bipush (v := 12) dX1_copyFrom_26 (by decide) ?_
  refine ev_cpyI dX1_copyFrom_28 (am_G_t (i := 484) (by decide +kernel) rfl) am_acw_in k1 k2 (by decide) (by decide) (by decide) (fun σ3 h3 => ?_)
  refine ev_aload_n dX1_copyFrom_31 rfl ?_
  refine ev_getR fk_X1_19 (by decide) dX1_copyFrom_32 kp1 (fun q4 k4 r4 => ?_)
  refine ev_iconst (v := 0) dX1_copyFrom_35 (by decide) ?_
  refine ev_aload_n dX1_copyFrom_36 rfl ?_
  refine ev_getR fk_X1_19 (by decide) dX1_copyFrom_37 kp0 (fun q5 k5 r5 => ?_)
  refine ev_iconst (v := 0) dX1_copyFrom_40 (by decide) ?_
  refine ev_bipush (v := 12) dX1_copyFrom_41 (by decide) ?_
  refine ev_cpyI dX1_copyFrom_43 (am_G_t (i := 484) (by decide +kernel) rfl) am_acw_in k4 k5 (by decide) (by decide) (by decide) (fun σ6 h6 => ?_)
  refine ev_aload_n dX1_copyFrom_46 rfl ?_
  refine ev_getR fk_X1_22 (by decide) dX1_copyFrom_47 kp1 (fun q7 k7 r7 => ?_)
  refine ev_iconst (v := 0) dX1_copyFrom_50 (by decide) ?_
  refine ev_aload_n dX1_copyFrom_51 rfl ?_
  refine ev_getR fk_X1_22 (by decide) dX1_copyFrom_52 kp0 (fun q8 k8 r8 => ?_)
  refine ev_iconst (v := 0) dX1_copyFrom_55 (by decide) ?_
  refine ev_sipush (v := 400) dX1_copyFrom_56 (by decide) ?_
  refine ev_cpyS dX1_copyFrom_59 (am_G_t (i := 484) (by decide +kernel) rfl) am_acw_in k7 k8 (by decide) (by decide) (by decide) (fun σ9 h9 => ?_)
  exact ev_vret dX1_copyFrom_62 rfl (by decide) (by decide) rfl
def f_X6_copyFrom (S : am_S) (p0 : Nat) (p1 : Nat) : Option ((Nat → Nat → Int32)) :=
  ((am_rd S.2 p1 1 1).bind (fun q1 => ((am_rd S.2 p0 1 1).bind (fun q2 => ((am_cp (am_u2 S.1 p0 0 (S.1 p1 0)) q1 0 q2 0 12).bind (fun σ3 => ((am_rd S.2 p1 2 1).bind (fun q4 => ((am_rd S.2 p0 2 1).bind (fun q5 => ((am_cp σ3 q4 0 q5 0 12).bind (fun σ6 => ((am_rd S.2 p1 3 1).bind (fun q7 => ((am_rd S.2 p0 3 1).bind (fun q8 => ((am_cp σ6 q7 0 q8 0 12).bind (fun σ9 => ((am_rd S.2 p1 4 1).bind (fun q10 => ((am_rd S.2 p0 4 1).bind (fun q11 => ((am_cp σ9 q10 0 q11 0 12).bind (fun σ12 => some σ12))))))))))))))))))))))))
set_option maxRecDepth 20000 in
theorem t_X6_copyFrom {E : am_E} {l : Launch} (hl : l.stackTraces = false) {S : am_S} {p0 : Nat} {p1 : Nat} (kp0 : am_kd p0 = 106) (kp1 : am_kd p1 = 106) : am_M E l yX6_copyFrom (.code yX6_copyFrom cX6_copyFrom 2 none) 1 0 0 [.ref p0, .ref p1] S ((f_X6_copyFrom S p0 p1).map (fun (x : Nat → Nat → Int32) => ((.inl none, (x, S.2)) : am_R))) := by
  refine am_M_of (w := fun (x : Nat → Nat → Int32) => ((.inl none, (x, S.2)) : am_R)) hl (by decide) (am_fc rfl (am_fc rfl am_fn)) (Nat.le_of_ble_eq_true rfl) ?_
  show am_Ev E l (RX6, cX6_copyFrom, 2, none, [], am_rm 1 0 0) (fun b a s x => am_Z E 0 0 b a s ((fun (x : Nat → Nat → Int32) => ((.inl none, (x, S.2)) : am_R)) x)) 0 0 0 [some (.ref p0), some (.ref p1)] [] S (f_X6_copyFrom S p0 p1)
  unfold f_X6_copyFrom
  refine ev_aload_n dX6_copyFrom_0 rfl ?_
  refine ev_aload_n dX6_copyFrom_1 rfl ?_
  refine ev_get fk_X6_30 dX6_copyFrom_2 kp1 (am_fvI (by decide)) ?_
  refine ev_putI fk_X6_30 tyX6 tyX6_ok nmX6 rfl (by decide +kernel) (by decide) dX6_copyFrom_5 kp0 ?_
  refine ev_aload_n dX6_copyFrom_8 rfl ?_
  refine ev_getR fk_X6_9 (by decide) dX6_copyFrom_9 kp1 (fun q1 k1 r1 => ?_)
  refine ev_iconst (v := 0) dX6_copyFrom_12 (by decide) ?_
  refine ev_aload_n dX6_copyFrom_13 rfl ?_
  refine ev_getR fk_X6_9 (by decide) dX6_copyFrom_14 kp0 (fun q2 k2 r2 => ?_)
  refine ev_iconst (v := 0) dX6_copyFrom_17 (by decide) ?_
  refine ev_bipush (v := 12) dX6_copyFrom_18 (by decide) ?_
  refine ev_cpyI dX6_copyFrom_20 (am_G_t (i := 489) (by decide +kernel) rfl) am_acw_in k1 k2 (by decide) (by decide) (by decide) (fun σ3 h3 => ?_)
  refine ev_aload_n dX6_copyFrom_23 rfl ?_
  refine ev_getR fk_X6_15 (by decide) dX6_copyFrom_24 kp1 (fun q4 k4 r4 => ?_)
  refine ev_iconst (v := 0) dX6_copyFrom_27 (by decide) ?_
  refine ev_aload_n dX6_copyFrom_28 rfl ?_
  refine ev_getR fk_X6_15 (by decide) dX6_copyFrom_29 kp0 (fun q5 k5 r5 => ?_)
  refine ev_iconst (v := 0) dX6_copyFrom_32 (by decide) ?_
  refine ev_bipush (v := 12) dX6_copyFrom_33 (by decide) ?_
  refine ev_cpyI dX6_copyFrom_35 (am_G_t (i := 489) (by decide +kernel) rfl) am_acw_in k4 k5 (by decide) (by decide) (by decide) (fun σ6 h6 => ?_)
  refine ev_aload_n dX6_copyFrom_38 rfl ?_
  refine ev_getR fk_X6_18 (by decide) dX6_copyFrom_39 kp1 (fun q7 k7 r7 => ?_)
  refine ev_iconst (v := 0) dX6_copyFrom_42 (by decide) ?_
  refine ev_aload_n dX6_copyFrom_43 rfl ?_
  refine ev_getR fk_X6_18 (by decide) dX6_copyFrom_44 kp0 (fun q8 k8 r8 => ?_)
  refine ev_iconst (v := 0) dX6_copyFrom_47 (by decide) ?_
  refine ev_bipush (v := 12) dX6_copyFrom_48 (by decide) ?_
  refine ev_cpyI dX6_copyFrom_50 (am_G_t (i := 489) (by decide +kernel) rfl) am_acw_in k7 k8 (by decide) (by decide) (by decide) (fun σ9 h9 => ?_)
  refine ev_aload_n dX6_copyFrom_53 rfl ?_
  refine ev_getR fk_X6_21 (by decide) dX6_copyFrom_54 kp1 (fun q10 k10 r10 => ?_)
  refine ev_iconst (v := 0) dX6_copyFrom_57 (by decide) ?_
  refine ev_aload_n dX6_copyFrom_58 rfl ?_
  refine ev_getR fk_X6_21 (by decide) dX6_copyFrom_59 kp0 (fun q11 k11 r11 => ?_)
  refine ev_iconst (v := 0) dX6_copyFrom_62 (by decide) ?_
  refine ev_bipush (v := 12) dX6_copyFrom_63 (by decide) ?_
  refine ev_cpyI dX6_copyFrom_65 (am_G_t (i := 489) (by decide +kernel) rfl) am_acw_in k10 k11 (by decide) (by decide) (by decide) (fun σ12 h12 => ?_)
  exact ev_vret dX6_copyFrom_68 rfl (by decide) (by decide) rfl
def f_X9_copyFrom (S : am_S) (p0 : Nat) (p1 : Nat) : Option ((Nat → Nat → Int32)) :=
  ((am_rd S.2 p1 6 1).bind (fun q1 => ((am_rd S.2 p0 6 1).bind (fun q2 => ((am_cp (am_u2 (am_u2 (am_u2 (am_u2 (am_u2 (am_u2 S.1 p0 0 (S.1 p1 0)) p0 1 ((am_u2 S.1 p0 0 (S.1 p1 0)) p1 1)) p0 2 ((am_u2 (am_u2 S.1 p0 0 (S.1 p1 0)) p0 1 ((am_u2 S.1 p0 0 (S.1 p1 0)) p1 1)) p1 2)) p0 3 ((am_u2 (am_u2 (am_u2 S.1 p0 0 (S.1 p1 0)) p0 1 ((am_u2 S.1 p0 0 (S.1 p1 0)) p1 1)) p0 2 ((am_u2 (am_u2 S.1 p0 0 (S.1 p1 0)) p0 1 ((am_u2 S.1 p0 0 (S.1 p1 0)) p1 1)) p1 2)) p1 3)) p0 4 ((am_u2 (am_u2 (am_u2 (am_u2 S.1 p0 0 (S.1 p1 0)) p0 1 ((am_u2 S.1 p0 0 (S.1 p1 0)) p1 1)) p0 2 ((am_u2 (am_u2 S.1 p0 0 (S.1 p1 0)) p0 1 ((am_u2 S.1 p0 0 (S.1 p1 0)) p1 1)) p1 2)) p0 3 ((am_u2 (am_u2 (am_u2 S.1 p0 0 (S.1 p1 0)) p0 1 ((am_u2 S.1 p0 0 (S.1 p1 0)) p1 1)) p0 2 ((am_u2 (am_u2 S.1 p0 0 (S.1 p1 0)) p0 1 ((am_u2 S.1 p0 0 (S.1 p1 0)) p1 1)) p1 2)) p1 3)) p1 4)) p0 5 ((am_u2 (am_u2 (am_u2 (am_u2 (am_u2 S.1 p0 0 (S.1 p1 0)) p0 1 ((am_u2 S.1 p0 0 (S.1 p1 0)) p1 1)) p0 2 ((am_u2 (am_u2 S.1 p0 0 (S.1 p1 0)) p0 1 ((am_u2 S.1 p0 0 (S.1 p1 0)) p1 1)) p1 2)) p0 3 ((am_u2 (am_u2 (am_u2 S.1 p0 0 (S.1 p1 0)) p0 1 ((am_u2 S.1 p0 0 (S.1 p1 0)) p1 1)) p0 2 ((am_u2 (am_u2 S.1 p0 0 (S.1 p1 0)) p0 1 ((am_u2 S.1 p0 0 (S.1 p1 0)) p1 1)) p1 2)) p1 3)) p0 4 ((am_u2 (am_u2 (am_u2 (am_u2 S.1 p0 0 (S.1 p1 0)) p0 1 ((am_u2 S.1 p0 0 (S.1 p1 0)) p1 1)) p0 2 ((am_u2 (am_u2 S.1 p0 0 (S.1 p1 0)) p0 1 ((am_u2 S.1 p0 0 (S.1 p1 0)) p1 1)) p1 2)) p0 3 ((am_u2 (am_u2 (am_u2 S.1 p0 0 (S.1 p1 0)) p0 1 ((am_u2 S.1 p0 0 (S.1 p1 0)) p1 1)) p0 2 ((am_u2 (am_u2 S.1 p0 0 (S.1 p1 0)) p0 1 ((am_u2 S.1 p0 0 (S.1 p1 0)) p1 1)) p1 2)) p1 3)) p1 4)) p1 5)) q1 0 q2 0 8).bind (fun σ3 => ((am_rd S.2 p1 7 1).bind (fun q4 => ((am_rd S.2 p0 7 1).bind (fun q5 => ((am_cp σ3 q4 0 q5 0 8).bind (fun σ6 => ((am_rd S.2 p1 8 1).bind (fun q7 => ((am_rd S.2 p0 8 1).bind (fun q8 => ((am_cp σ6 q7 0 q8 0 8).bind (fun σ9 => ((am_rd S.2 p1 9 1).bind (fun q10 => ((am_rd S.2 p0 9 1).bind (fun q11 => ((am_cp σ9 q10 0 q11 0 8).bind (fun σ12 => ((am_rd S.2 p1 10 1).bind (fun q13 => ((am_rd S.2 p0 10 1).bind (fun q14 => ((am_cp σ12 q13 0 q14 0 8).bind (fun σ15 => ((am_rd S.2 p1 11 1).bind (fun q16 => ((am_rd S.2 p0 11 1).bind (fun q17 => ((am_cp σ15 q16 0 q17 0 10).bind (fun σ18 => ((am_rd S.2 p1 12 1).bind (fun q19 => ((am_rd S.2 p0 12 1).bind (fun q20 => ((am_cp σ18 q19 0 q20 0 80).bind (fun σ21 => ((am_rd S.2 p1 13 1).bind (fun q22 => ((am_rd S.2 p0 13 1).bind (fun q23 => ((am_cp σ21 q22 0 q23 0 64).bind (fun σ24 => ((am_rd S.2 p0 14 101).bind (fun q25 => ((am_rd S.2 p1 14 101).bind (fun q26 => ((f_X1_copyFrom (σ24, S.2) q25 q26).bind (fun σ27 => ((am_rd S.2 p0 15 106).bind (fun q28 => ((am_rd S.2 p1 15 106).bind (fun q29 => ((f_X6_copyFrom (σ27, S.2) q28 q29).bind (fun σ30 => some σ30))))))))))))))))))))))))))))))))))))))))))))))))))))))))))))
set_option maxRecDepth 20000 in
theorem t_X9_copyFrom {E : am_E} {l : Launch} (hl : l.stackTraces = false) {S : am_S} {p0 : Nat} {p1 : Nat} (kp0 : am_kd p0 = 109) (kp1 : am_kd p1 = 109) : am_M E l yX9_copyFrom (.code yX9_copyFrom cX9_copyFrom 2 none) 2 0 0 [.ref p0, .ref p1] S ((f_X9_copyFrom S p0 p1).map (fun (x : Nat → Nat → Int32) => ((.inl none, (x, S.2)) : am_R))) := by
  refine am_M_of (w := fun (x : Nat → Nat → Int32) => ((.inl none, (x, S.2)) : am_R)) hl (by decide) (am_fc rfl (am_fc rfl am_fn)) (Nat.le_of_ble_eq_true rfl) ?_
  show am_Ev E l (RX9, cX9_copyFrom, 2, none, [], am_rm 2 0 0) (fun b a s x => am_Z E 0 0 b a s ((fun (x : Nat → Nat → Int32) => ((.inl none, (x, S.2)) : am_R)) x)) 0 0 0 [some (.ref p0), some (.ref p1)] [] S (f_X9_copyFrom S p0 p1)
  unfold f_X9_copyFrom
  refine ev_aload_n dX9_copyFrom_0 rfl ?_
  refine ev_aload_n dX9_copyFrom_1 rfl ?_
  refine ev_get fk_X9_50 dX9_copyFrom_2 kp1 (am_fvI (by decide)) ?_
  refine ev_putI fk_X9_50 tyX9 tyX9_ok nmX9 rfl (by decide +kernel) (by decide) dX9_copyFrom_5 kp0 ?_
  refine ev_aload_n dX9_copyFrom_8 rfl ?_
  refine ev_aload_n dX9_copyFrom_9 rfl ?_
  refine ev_get fk_X9_54 dX9_copyFrom_10 kp1 (am_fvI (by decide)) ?_
  refine ev_putI fk_X9_54 tyX9 tyX9_ok nmX9 rfl (by decide +kernel) (by decide) dX9_copyFrom_13 kp0 ?_
  refine ev_aload_n dX9_copyFrom_16 rfl ?_
  refine ev_aload_n dX9_copyFrom_17 rfl ?_
  refine ev_get fk_X9_57 dX9_copyFrom_18 kp1 (am_fvI (by decide)) ?_
  refine ev_putI fk_X9_57 tyX9 tyX9_ok nmX9 rfl (by decide +kernel) (by decide) dX9_copyFrom_21 kp0 ?_
  refine ev_aload_n dX9_copyFrom_24 rfl ?_
  refine ev_aload_n dX9_copyFrom_25 rfl ?_
  refine ev_get fk_X9_60 dX9_copyFrom_26 kp1 (am_fvI (by decide)) ?_
  refine ev_putI fk_X9_60 tyX9 tyX9_ok nmX9 rfl (by decide +kernel) (by decide) dX9_copyFrom_29 kp0 ?_
  refine ev_aload_n dX9_copyFrom_32 rfl ?_
  refine ev_aload_n dX9_copyFrom_33 rfl ?_
  refine ev_get fk_X9_63 dX9_copyFrom_34 kp1 (am_fvI (by decide)) ?_
  refine ev_putI fk_X9_63 tyX9 tyX9_ok nmX9 rfl (by decide +kernel) (by decide) dX9_copyFrom_37 kp0 ?_
  refine ev_aload_n dX9_copyFrom_40 rfl ?_
  refine ev_aload_n dX9_copyFrom_41 rfl ?_
  refine ev_get fk_X9_66 dX9_copyFrom_42 kp1 (am_fvI (by decide)) ?_
  refine ev_putI fk_X9_66 tyX9 tyX9_ok nmX9 rfl (by decide +kernel) (by decide) dX9_copyFrom_45 kp0 ?_
  refine ev_aload_n dX9_copyFrom_48 rfl ?_
  refine ev_getR fk_X9_9 (by decide) dX9_copyFrom_49 kp1 (fun q1 k1 r1 => ?_)
  refine ev_iconst (v := 0) dX9_copyFrom_52 (by decide) ?_
  refine ev_aload_n dX9_copyFrom_53 rfl ?_
  refine ev_getR fk_X9_9 (by decide) dX9_copyFrom_54 kp0 (fun q2 k2 r2 => ?_)
  refine ev_iconst (v := 0) dX9_copyFrom_57 (by decide) ?_
  refine ev_bipush (v := 8) dX9_copyFrom_58 (by decide) ?_
  refine ev_cpyI dX9_copyFrom_60 (am_G_t (i := 477) (by decide +kernel) rfl) am_acw_in k1 k2 (by decide) (by decide) (by decide) (fun σ3 h3 => ?_)
  refine ev_aload_n dX9_copyFrom_63 rfl ?_
  refine ev_getR fk_X9_15 (by decide) dX9_copyFrom_64 kp1 (fun q4 k4 r4 => ?_)
  refine ev_iconst (v := 0) dX9_copyFrom_67 (by decide) ?_
  refine ev_aload_n dX9_copyFrom_68 rfl ?_
  refine ev_getR fk_X9_15 (by decide) dX9_copyFrom_69 kp0 (fun q5 k5 r5 => ?_)
  refine ev_iconst (v := 0) dX9_copyFrom_72 (by decide) ?_
  refine ev_bipush (v := 8) dX9_copyFrom_73 (by decide) ?_
  refine ev_cpyI dX9_copyFrom_75 (am_G_t (i := 477) (by decide +kernel) rfl) am_acw_in k4 k5 (by decide) (by decide) (by decide) (fun σ6 h6 => ?_)
  refine ev_aload_n dX9_copyFrom_78 rfl ?_
  refine ev_getR fk_X9_18 (by decide) dX9_copyFrom_79 kp1 (fun q7 k7 r7 => ?_)
  refine ev_iconst (v := 0) dX9_copyFrom_82 (by decide) ?_
  refine ev_aload_n dX9_copyFrom_83 rfl ?_
  refine ev_getR fk_X9_18 (by decide) dX9_copyFrom_84 kp0 (fun q8 k8 r8 => ?_)
  refine ev_iconst (v := 0) dX9_copyFrom_87 (by decide) ?_
  refine ev_bipush (v := 8) dX9_copyFrom_88 (by decide) ?_
  refine ev_cpyI dX9_copyFrom_90 (am_G_t (i := 477) (by decide +kernel) rfl) am_acw_in k7 k8 (by decide) (by decide) (by decide) (fun σ9 h9 => ?_)
  refine ev_aload_n dX9_copyFrom_93 rfl ?_
  refine ev_getR fk_X9_21 (by decide) dX9_copyFrom_94 kp1 (fun q10 k10 r10 => ?_)
  refine ev_iconst (v := 0) dX9_copyFrom_97 (by decide) ?_
  refine ev_aload_n dX9_copyFrom_98 rfl ?_
  refine ev_getR fk_X9_21 (by decide) dX9_copyFrom_99 kp0 (fun q11 k11 r11 => ?_)
  refine ev_iconst (v := 0) dX9_copyFrom_102 (by decide) ?_
  refine ev_bipush (v := 8) dX9_copyFrom_103 (by decide) ?_
  refine ev_cpyI dX9_copyFrom_105 (am_G_t (i := 477) (by decide +kernel) rfl) am_acw_in k10 k11 (by decide) (by decide) (by decide) (fun σ12 h12 => ?_)
  refine ev_aload_n dX9_copyFrom_108 rfl ?_
  refine ev_getR fk_X9_24 (by decide) dX9_copyFrom_109 kp1 (fun q13 k13 r13 => ?_)
  refine ev_iconst (v := 0) dX9_copyFrom_112 (by decide) ?_
  refine ev_aload_n dX9_copyFrom_113 rfl ?_
  refine ev_getR fk_X9_24 (by decide) dX9_copyFrom_114 kp0 (fun q14 k14 r14 => ?_)
  refine ev_iconst (v := 0) dX9_copyFrom_117 (by decide) ?_
  refine ev_bipush (v := 8) dX9_copyFrom_118 (by decide) ?_
  refine ev_cpyI dX9_copyFrom_120 (am_G_t (i := 477) (by decide +kernel) rfl) am_acw_in k13 k14 (by decide) (by decide) (by decide) (fun σ15 h15 => ?_)
  refine ev_aload_n dX9_copyFrom_123 rfl ?_
  refine ev_getR fk_X9_27 (by decide) dX9_copyFrom_124 kp1 (fun q16 k16 r16 => ?_)
  refine ev_iconst (v := 0) dX9_copyFrom_127 (by decide) ?_
  refine ev_aload_n dX9_copyFrom_128 rfl ?_
  refine ev_getR fk_X9_27 (by decide) dX9_copyFrom_129 kp0 (fun q17 k17 r17 => ?_)
  refine ev_iconst (v := 0) dX9_copyFrom_132 (by decide) ?_
  refine ev_bipush (v := 10) dX9_copyFrom_133 (by decide) ?_
  refine ev_cpyI dX9_copyFrom_135 (am_G_t (i := 477) (by decide +kernel) rfl) am_acw_in k16 k17 (by decide) (by decide) (by decide) (fun σ18 h18 => ?_)
  refine ev_aload_n dX9_copyFrom_138 rfl ?_
  refine ev_getR fk_X9_30 (by decide) dX9_copyFrom_139 kp1 (fun q19 k19 r19 => ?_)
  refine ev_iconst (v := 0) dX9_copyFrom_142 (by decide) ?_
  refine ev_aload_n dX9_copyFrom_143 rfl ?_
  refine ev_getR fk_X9_30 (by decide) dX9_copyFrom_144 kp0 (fun q20 k20 r20 => ?_)
  refine ev_iconst (v := 0) dX9_copyFrom_147 (by decide) ?_
  refine ev_bipush (v := 80) dX9_copyFrom_148 (by decide) ?_
  refine ev_cpyI dX9_copyFrom_150 (am_G_t (i := 477) (by decide +kernel) rfl) am_acw_in k19 k20 (by decide) (by decide) (by decide) (fun σ21 h21 => ?_)
  refine ev_aload_n dX9_copyFrom_153 rfl ?_
  refine ev_getR fk_X9_33 (by decide) dX9_copyFrom_154 kp1 (fun q22 k22 r22 => ?_)
  refine ev_iconst (v := 0) dX9_copyFrom_157 (by decide) ?_
  refine ev_aload_n dX9_copyFrom_158 rfl ?_
  refine ev_getR fk_X9_33 (by decide) dX9_copyFrom_159 kp0 (fun q23 k23 r23 => ?_)
  refine ev_iconst (v := 0) dX9_copyFrom_162 (by decide) ?_
  refine ev_bipush (v := 64) dX9_copyFrom_163 (by decide) ?_
  refine ev_cpyI dX9_copyFrom_165 (am_G_t (i := 477) (by decide +kernel) rfl) am_acw_in k22 k23 (by decide) (by decide) (by decide) (fun σ24 h24 => ?_)
  refine ev_aload_n dX9_copyFrom_168 rfl ?_
  refine ev_getR fk_X9_39 (by decide) dX9_copyFrom_169 kp0 (fun q25 k25 r25 => ?_)
  refine ev_aload_n dX9_copyFrom_172 rfl ?_
  refine ev_getR fk_X9_39 (by decide) dX9_copyFrom_173 kp1 (fun q26 k26 r26 => ?_)
  refine ev_callWV (am_callVN (as := [.ref q26]) (o := q25) (st := []) cv_X9_75 dX9_copyFrom_176 k25 rfl (am_le rfl) (am_fit (by omega) (by decide) (by decide) (by decide)) (am_no1 (fun _ => ⟨_, rfl⟩)) (t_X1_copyFrom hl k25 k26)) (fun σ27 h27 => ?_)
  refine ev_aload_n dX9_copyFrom_179 rfl ?_
  refine ev_getR fk_X9_46 (by decide) dX9_copyFrom_180 kp0 (fun q28 k28 r28 => ?_)
  refine ev_aload_n dX9_copyFrom_183 rfl ?_
  refine ev_getR fk_X9_46 (by decide) dX9_copyFrom_184 kp1 (fun q29 k29 r29 => ?_)
  refine ev_callWV (am_callVN (as := [.ref q29]) (o := q28) (st := []) cv_X9_79 dX9_copyFrom_187 k28 rfl (am_le rfl) (am_fit (by omega) (by decide) (by decide) (by decide)) (am_no1 (fun _ => ⟨_, rfl⟩)) (t_X6_copyFrom hl k28 k29)) (fun σ30 h30 => ?_)
  exact ev_vret dX9_copyFrom_190 rfl (by decide) (by decide) rfl
def f_J9_min_7cf53 (p0 : Int32) (p1 : Int32) : Option (Int32) :=
  (if p1 < p0 then some p1 else some p0)
set_option maxRecDepth 20000 in
theorem t_J9_min_7cf53 {E : am_E} {l : Launch} (hl : l.stackTraces = false) {S : am_S} {p0 : Int32} {p1 : Int32}  : am_M E l yJ9_min_7cf53 (.code yJ9_min_7cf53 cJ9_min_7cf53 2 (some .int)) 0 0 0 [.int p0, .int p1] S ((f_J9_min_7cf53 p0 p1).map (fun (v : Int32) => ((.inl (some (.int v)), S) : am_R))) := by
  refine am_M_ofF (w := fun (v : Int32) => ((.inl (some (.int v)), S) : am_R)) hl (by decide +kernel) (am_fc rfl (am_fc rfl am_fn)) (Nat.le_of_ble_eq_true rfl) ?_
  show am_Ev E l (RJ9, cJ9_min_7cf53, 2, (some .int), [], am_rm 0 0 0) (fun b a s x => am_Z E 0 0 b a s ((fun (v : Int32) => ((.inl (some (.int v)), S) : am_R)) x)) 0 0 0 [some (.int p0), some (.int p1)] [] S (f_J9_min_7cf53 p0 p1)
  unfold f_J9_min_7cf53
  refine ev_iload_n dJ9_min_7cf53_0 rfl ?_
  refine ev_iload_n dJ9_min_7cf53_1 rfl ?_
  refine ev_icmp_gt (tgt := 9) dJ9_min_7cf53_2 (by decide) (fun c1 => ?_) (fun c1 => ?_)
  · refine ev_iload_n dJ9_min_7cf53_9 rfl ?_
    exact ev_iret dJ9_min_7cf53_10 rfl rfl (by decide) (by decide) rfl
  · refine ev_iload_n dJ9_min_7cf53_5 rfl ?_
    refine ev_goto (tgt := 10) dJ9_min_7cf53_6 (by decide) ?_
    exact ev_iret dJ9_min_7cf53_10 rfl rfl (by decide) (by decide) rfl
def f_X4_kindOf (p0 : Int32) : Option (Int32) :=
  (if p0 < 97 then (if p0 < 48 then some (p0 &&& 255) else (if 57 < p0 then some (p0 &&& 255) else some 48)) else (if 122 < p0 then (if p0 < 48 then some (p0 &&& 255) else (if 57 < p0 then some (p0 &&& 255) else some 48)) else some 97))
set_option maxRecDepth 20000 in
theorem t_X4_kindOf {E : am_E} {l : Launch} (hl : l.stackTraces = false) {S : am_S} {p0 : Int32}  : am_M E l yX4_kindOf (.code yX4_kindOf cX4_kindOf 1 (some .int)) 0 0 0 [.int p0] S ((f_X4_kindOf p0).map (fun (v : Int32) => ((.inl (some (.int v)), S) : am_R))) := by
  refine am_M_of (w := fun (v : Int32) => ((.inl (some (.int v)), S) : am_R)) hl (by decide) (am_fc rfl am_fn) (Nat.le_of_ble_eq_true rfl) ?_
  show am_Ev E l (RX4, cX4_kindOf, 1, (some .int), [], am_rm 0 0 0) (fun b a s x => am_Z E 0 0 b a s ((fun (v : Int32) => ((.inl (some (.int v)), S) : am_R)) x)) 0 0 0 [some (.int p0)] [] S (f_X4_kindOf p0)
  unfold f_X4_kindOf
  refine ev_iload_n dX4_kindOf_0 rfl ?_
  refine ev_bipush (v := 97) dX4_kindOf_1 (by decide) ?_
  refine ev_icmp_lt (tgt := 15) dX4_kindOf_3 (by decide) (fun c1 => ?_) (fun c1 => ?_)
  · refine ev_iload_n dX4_kindOf_15 rfl ?_
    refine ev_bipush (v := 48) dX4_kindOf_16 (by decide) ?_
    refine ev_icmp_lt (tgt := 32) dX4_kindOf_18 (by decide) (fun c2 => ?_) (fun c2 => ?_)
    · refine ev_iload_n dX4_kindOf_32 rfl ?_
      refine ev_sipush (v := 255) dX4_kindOf_33 (by decide) ?_
      refine ev_iand dX4_kindOf_36 ?_
      exact ev_iret dX4_kindOf_37 rfl rfl (by decide) (by decide) rfl
    · refine ev_iload_n dX4_kindOf_21 rfl ?_
      refine ev_bipush (v := 57) dX4_kindOf_22 (by decide) ?_
      refine ev_icmp_gt (tgt := 32) dX4_kindOf_24 (by decide) (fun c3 => ?_) (fun c3 => ?_)
      · refine ev_iload_n dX4_kindOf_32 rfl ?_
        refine ev_sipush (v := 255) dX4_kindOf_33 (by decide) ?_
        refine ev_iand dX4_kindOf_36 ?_
        exact ev_iret dX4_kindOf_37 rfl rfl (by decide) (by decide) rfl
      · refine ev_bipush (v := 48) dX4_kindOf_27 (by decide) ?_
        refine ev_goto (tgt := 37) dX4_kindOf_29 (by decide) ?_
        exact ev_iret dX4_kindOf_37 rfl rfl (by decide) (by decide) rfl
  · refine ev_iload_n dX4_kindOf_6 rfl ?_
    refine ev_bipush (v := 122) dX4_kindOf_7 (by decide) ?_
    refine ev_icmp_gt (tgt := 15) dX4_kindOf_9 (by decide) (fun c4 => ?_) (fun c4 => ?_)
    · refine ev_iload_n dX4_kindOf_15 rfl ?_
      refine ev_bipush (v := 48) dX4_kindOf_16 (by decide) ?_
      refine ev_icmp_lt (tgt := 32) dX4_kindOf_18 (by decide) (fun c5 => ?_) (fun c5 => ?_)
      · refine ev_iload_n dX4_kindOf_32 rfl ?_
        refine ev_sipush (v := 255) dX4_kindOf_33 (by decide) ?_
        refine ev_iand dX4_kindOf_36 ?_
        exact ev_iret dX4_kindOf_37 rfl rfl (by decide) (by decide) rfl
      · refine ev_iload_n dX4_kindOf_21 rfl ?_
        refine ev_bipush (v := 57) dX4_kindOf_22 (by decide) ?_
        refine ev_icmp_gt (tgt := 32) dX4_kindOf_24 (by decide) (fun c6 => ?_) (fun c6 => ?_)
        · refine ev_iload_n dX4_kindOf_32 rfl ?_
          refine ev_sipush (v := 255) dX4_kindOf_33 (by decide) ?_
          refine ev_iand dX4_kindOf_36 ?_
          exact ev_iret dX4_kindOf_37 rfl rfl (by decide) (by decide) rfl
        · refine ev_bipush (v := 48) dX4_kindOf_27 (by decide) ?_
          refine ev_goto (tgt := 37) dX4_kindOf_29 (by decide) ?_
          exact ev_iret dX4_kindOf_37 rfl rfl (by decide) (by decide) rfl
    · refine ev_bipush (v := 97) dX4_kindOf_12 (by decide) ?_
      exact ev_iret dX4_kindOf_14 rfl rfl (by decide) (by decide) rfl
def f_X4_step_b8 (S : am_S) (a0 : Nat) (x1 : (Nat → Nat → Int32)) : Option (((Nat → Nat → Int32)) ⊕ ((Nat → Nat → Int32))) :=
  (if (x1 a0 2) < (x1 a0 1) then ((am_rd S.2 a0 0 2).bind (fun q3 => ((am_ld x1 q3 (x1 a0 2)).bind (fun v4 => (if v4 = 32 then some (.inl (am_u2 x1 a0 2 ((x1 a0 2) + 1))) else some (.inr x1)))))) else some (.inr x1))
def f_X4_step_b106 (S : am_S) (a0 : Nat) (x15 : (Nat → Nat → Int32)) : Option (((Nat → Nat → Int32)) ⊕ ((Nat → Nat → Int32))) :=
  (if (x15 a0 3) < (x15 a0 1) then (if (x15 a0 4) = 97 then ((am_rd S.2 a0 0 2).bind (fun q18 => ((am_ld x15 q18 (x15 a0 3)).bind (fun v19 => ((f_X4_kindOf v19).bind (fun v20 => (if v20 = (x15 a0 4) then some (.inl (am_u2 x15 a0 3 ((x15 a0 3) + 1))) else some (.inr x15)))))))) else (if (x15 a0 4) = 48 then ((am_rd S.2 a0 0 2).bind (fun q23 => ((am_ld x15 q23 (x15 a0 3)).bind (fun v24 => ((f_X4_kindOf v24).bind (fun v25 => (if v25 = (x15 a0 4) then some (.inl (am_u2 x15 a0 3 ((x15 a0 3) + 1))) else some (.inr x15)))))))) else some (.inr x15))) else some (.inr x15))
def f_X4_step (S : am_S) (p0 : Nat) : Option ((Nat → Nat → Int32)) :=
  ((am_loop (f_X4_step_b8 ((am_u2 S.1 p0 2 (S.1 p0 3)), S.2) p0) am_fuel (am_u2 S.1 p0 2 (S.1 p0 3))).bind (fun t1 => ((if ((am_u2 t1 p0 3 (t1 p0 2)) p0 2) < ((am_u2 t1 p0 3 (t1 p0 2)) p0 1) then ((am_rd S.2 p0 0 2).bind (fun q11 => ((am_ld (am_u2 t1 p0 3 (t1 p0 2)) q11 ((am_u2 t1 p0 3 (t1 p0 2)) p0 2)).bind (fun v12 => ((f_X4_kindOf v12).bind (fun v13 => some v13)))))) else some ((-1) : Int32)).bind (fun t10 => ((if ((am_u2 (am_u2 t1 p0 3 (t1 p0 2)) p0 4 t10) p0 2) < ((am_u2 (am_u2 t1 p0 3 (t1 p0 2)) p0 4 t10) p0 1) then some (am_u2 (am_u2 (am_u2 t1 p0 3 (t1 p0 2)) p0 4 t10) p0 3 (((am_u2 (am_u2 t1 p0 3 (t1 p0 2)) p0 4 t10) p0 3) + 1)) else some (am_u2 (am_u2 t1 p0 3 (t1 p0 2)) p0 4 t10)).bind (fun t14 => ((am_loop (f_X4_step_b106 (t14, S.2) p0) am_fuel t14).bind (fun t15 => some t15))))))))
set_option maxRecDepth 20000 in
theorem t_X4_step {E : am_E} {l : Launch} (hl : l.stackTraces = false) {S : am_S} {p0 : Nat} (kp0 : am_kd p0 = 104) : am_M E l yX4_step (.code yX4_step cX4_step 1 none) 1 0 0 [.ref p0] S ((f_X4_step S p0).map (fun (x : Nat → Nat → Int32) => ((.inl none, (x, S.2)) : am_R))) := by
  refine am_M_of (w := fun (x : Nat → Nat → Int32) => ((.inl none, (x, S.2)) : am_R)) hl (by decide) (am_fc rfl am_fn) (Nat.le_of_ble_eq_true rfl) ?_
  show am_Ev E l (RX4, cX4_step, 1, none, [], am_rm 1 0 0) (fun b a s x => am_Z E 0 0 b a s ((fun (x : Nat → Nat → Int32) => ((.inl none, (x, S.2)) : am_R)) x)) 0 0 0 [some (.ref p0)] [] S (f_X4_step S p0)
  unfold f_X4_step
  refine ev_aload_n dX4_step_0 rfl ?_
  refine ev_aload_n dX4_step_1 rfl ?_
  refine ev_get fk_X4_25 dX4_step_2 kp0 (am_fvI (by decide)) ?_
  refine ev_putI fk_X4_34 tyX4 tyX4_ok nmX4 rfl (by decide +kernel) (by decide) dX4_step_5 kp0 ?_
  refine ev_weak (am_wk am_wn) (ev_loop 8 46 (fun x1 : (Nat → Nat → Int32) => [some (.ref p0)]) (fun t1 : (Nat → Nat → Int32) => [some (.ref p0)]) (fun x1 => (x1, S.2)) (fun t1 => (t1, S.2)) (fun x1 G1 hB1 hE1 => ?_) (fun t1 => ?_) am_fuel (am_u2 S.1 p0 2 (S.1 p0 3)))
  · unfold f_X4_step_b8
    refine ev_aload_n dX4_step_8 rfl ?_
    refine ev_get fk_X4_34 dX4_step_9 kp0 (am_fvI (by decide)) ?_
    refine ev_aload_n dX4_step_12 rfl ?_
    refine ev_get fk_X4_21 dX4_step_13 kp0 (am_fvI (by decide)) ?_
    refine ev_eq am_ib ?_
    refine ev_icmp_ge (tgt := 46) dX4_step_16 (by decide) (fun c6 => ?_) (fun c6 => ?_)
    · exact ev_leaf (am_wk am_wn) (hE1 x1)
    · refine ev_aload_n dX4_step_19 rfl ?_
      refine ev_eq (Option.bind_assoc _ _ _) ?_
      refine ev_getR fk_X4_9 (by decide) dX4_step_20 kp0 (fun q7 k7 r7 => ?_)
      refine ev_aload_n dX4_step_23 rfl ?_
      refine ev_get fk_X4_34 dX4_step_24 kp0 (am_fvI (by decide)) ?_
      refine ev_eq (Option.bind_assoc _ _ _) ?_
      refine ev_bald dX4_step_27 k7 (fun v8 h8 => ?_)
      refine ev_bipush (v := 32) dX4_step_28 (by decide) ?_
      refine ev_eq am_ib ?_
      refine ev_icmp_ne (tgt := 46) dX4_step_30 (by decide) (fun c9 => ?_) (fun c9 => ?_)
      · exact ev_leaf (am_wk am_wn) (hE1 x1)
      · refine ev_aload_n dX4_step_33 rfl ?_
        refine ev_dup dX4_step_34 rfl ?_
        refine ev_get fk_X4_34 dX4_step_35 kp0 (am_fvI (by decide)) ?_
        refine ev_iconst (v := 1) dX4_step_38 (by decide) ?_
        refine ev_iadd dX4_step_39 ?_
        refine ev_putI fk_X4_34 tyX4 tyX4_ok nmX4 rfl (by decide +kernel) (by decide) dX4_step_40 kp0 ?_
        refine ev_goto (tgt := 8) dX4_step_43 (by decide) ?_
        exact ev_leaf (am_wk am_wn) (hB1 (am_u2 x1 p0 2 ((x1 p0 2) + 1)))
  · refine ev_aload_n dX4_step_46 rfl ?_
    refine ev_aload_n dX4_step_47 rfl ?_
    refine ev_get fk_X4_34 dX4_step_48 kp0 (am_fvI (by decide)) ?_
    refine ev_putI fk_X4_25 tyX4 tyX4_ok nmX4 rfl (by decide +kernel) (by decide) dX4_step_51 kp0 ?_
    refine ev_aload_n dX4_step_54 rfl ?_
    refine ev_aload_n dX4_step_55 rfl ?_
    refine ev_get fk_X4_34 dX4_step_56 kp0 (am_fvI (by decide)) ?_
    refine ev_aload_n dX4_step_59 rfl ?_
    refine ev_get fk_X4_21 dX4_step_60 kp0 (am_fvI (by decide)) ?_
    refine ev_reg (cs' := 0) (sl' := 0) 82 (fun t10 : Int32 => [some (.ref p0)]) (fun t10 => [.int t10, .ref p0]) (fun t10 => ((am_u2 t1 p0 3 (t1 p0 2)), S.2)) (fun hJ10 => ?_) (fun t10 => ?_)
    · refine ev_eq am_ib ?_
      refine ev_icmp_ge (tgt := 81) dX4_step_63 (by decide) (fun c10 => ?_) (fun c10 => ?_)
      · refine ev_iconst (v := (-1)) dX4_step_81 (by decide) ?_
        exact ev_leaf (am_wk am_wn) (hJ10 ((-1) : Int32))
      · refine ev_aload_n dX4_step_66 rfl ?_
        refine ev_eq (Option.bind_assoc _ _ _) ?_
        refine ev_getR fk_X4_9 (by decide) dX4_step_67 kp0 (fun q11 k11 r11 => ?_)
        refine ev_aload_n dX4_step_70 rfl ?_
        refine ev_get fk_X4_34 dX4_step_71 kp0 (am_fvI (by decide)) ?_
        refine ev_eq (Option.bind_assoc _ _ _) ?_
        refine ev_bald dX4_step_74 k11 (fun v12 h12 => ?_)
        refine ev_eq (Option.bind_assoc _ _ _) ?_
        refine ev_callP (am_callS (as := [.int v12]) (st := [.ref p0]) ct_X4_37 dX4_step_75 rfl (am_le rfl) (am_fit (by omega) (by decide) (by decide) (by decide)) (t_X4_kindOf hl )) (fun v13 h13 => ?_)
        refine ev_goto (tgt := 82) dX4_step_78 (by decide) ?_
        exact ev_leaf (am_wk am_wn) (hJ10 v13)
    · refine ev_putI fk_X4_41 tyX4 tyX4_ok nmX4 rfl (by decide +kernel) (by decide) dX4_step_82 kp0 ?_
      refine ev_aload_n dX4_step_85 rfl ?_
      refine ev_get fk_X4_34 dX4_step_86 kp0 (am_fvI (by decide)) ?_
      refine ev_aload_n dX4_step_89 rfl ?_
      refine ev_get fk_X4_21 dX4_step_90 kp0 (am_fvI (by decide)) ?_
      refine ev_reg (cs' := 0) (sl' := 0) 106 (fun t14 : (Nat → Nat → Int32) => [some (.ref p0)]) (fun t14 => []) (fun t14 => (t14, S.2)) (fun hJ14 => ?_) (fun t14 => ?_)
      · refine ev_eq am_ib ?_
        refine ev_icmp_ge (tgt := 106) dX4_step_93 (by decide) (fun c14 => ?_) (fun c14 => ?_)
        · exact ev_leaf (am_wk am_wn) (hJ14 (am_u2 (am_u2 t1 p0 3 (t1 p0 2)) p0 4 t10))
        · refine ev_aload_n dX4_step_96 rfl ?_
          refine ev_dup dX4_step_97 rfl ?_
          refine ev_get fk_X4_25 dX4_step_98 kp0 (am_fvI (by decide)) ?_
          refine ev_iconst (v := 1) dX4_step_101 (by decide) ?_
          refine ev_iadd dX4_step_102 ?_
          refine ev_putI fk_X4_25 tyX4 tyX4_ok nmX4 rfl (by decide +kernel) (by decide) dX4_step_103 kp0 ?_
          exact ev_leaf (am_wk am_wn) (hJ14 (am_u2 (am_u2 (am_u2 t1 p0 3 (t1 p0 2)) p0 4 t10) p0 3 (((am_u2 (am_u2 t1 p0 3 (t1 p0 2)) p0 4 t10) p0 3) + 1)))
      · refine ev_weak (am_wk am_wn) (ev_loop 106 167 (fun x15 : (Nat → Nat → Int32) => [some (.ref p0)]) (fun t15 : (Nat → Nat → Int32) => [none]) (fun x15 => (x15, S.2)) (fun t15 => (t15, S.2)) (fun x15 G15 hB15 hE15 => ?_) (fun t15 => ?_) am_fuel t14)
        · unfold f_X4_step_b106
          refine ev_aload_n dX4_step_106 rfl ?_
          refine ev_get fk_X4_25 dX4_step_107 kp0 (am_fvI (by decide)) ?_
          refine ev_aload_n dX4_step_110 rfl ?_
          refine ev_get fk_X4_21 dX4_step_111 kp0 (am_fvI (by decide)) ?_
          refine ev_eq am_ib ?_
          refine ev_icmp_ge (tgt := 167) dX4_step_114 (by decide) (fun c27 => ?_) (fun c27 => ?_)
          · exact ev_leaf (am_wf am_wn) (hE15 x15)
          · refine ev_aload_n dX4_step_117 rfl ?_
            refine ev_get fk_X4_41 dX4_step_118 kp0 (am_fvI (by decide)) ?_
            refine ev_bipush (v := 97) dX4_step_121 (by decide) ?_
            refine ev_eq am_ib ?_
            refine ev_icmp_eq (tgt := 135) dX4_step_123 (by decide) (fun c28 => ?_) (fun c28 => ?_)
            · refine ev_aload_n dX4_step_135 rfl ?_
              refine ev_eq (Option.bind_assoc _ _ _) ?_
              refine ev_getR fk_X4_9 (by decide) dX4_step_136 kp0 (fun q29 k29 r29 => ?_)
              refine ev_aload_n dX4_step_139 rfl ?_
              refine ev_get fk_X4_25 dX4_step_140 kp0 (am_fvI (by decide)) ?_
              refine ev_eq (Option.bind_assoc _ _ _) ?_
              refine ev_bald dX4_step_143 k29 (fun v30 h30 => ?_)
              refine ev_eq (Option.bind_assoc _ _ _) ?_
              refine ev_callP (am_callS (as := [.int v30]) (st := []) ct_X4_37 dX4_step_144 rfl (am_le rfl) (am_fit (by omega) (by decide) (by decide) (by decide)) (t_X4_kindOf hl )) (fun v31 h31 => ?_)
              refine ev_aload_n dX4_step_147 rfl ?_
              refine ev_get fk_X4_41 dX4_step_148 kp0 (am_fvI (by decide)) ?_
              refine ev_eq am_ib ?_
              refine ev_icmp_ne (tgt := 167) dX4_step_151 (by decide) (fun c32 => ?_) (fun c32 => ?_)
              · exact ev_leaf (am_wf am_wn) (hE15 x15)
              · refine ev_aload_n dX4_step_154 rfl ?_
                refine ev_dup dX4_step_155 rfl ?_
                refine ev_get fk_X4_25 dX4_step_156 kp0 (am_fvI (by decide)) ?_
                refine ev_iconst (v := 1) dX4_step_159 (by decide) ?_
                refine ev_iadd dX4_step_160 ?_
                refine ev_putI fk_X4_25 tyX4 tyX4_ok nmX4 rfl (by decide +kernel) (by decide) dX4_step_161 kp0 ?_
                refine ev_goto (tgt := 106) dX4_step_164 (by decide) ?_
                exact ev_leaf (am_wk am_wn) (hB15 (am_u2 x15 p0 3 ((x15 p0 3) + 1)))
            · refine ev_aload_n dX4_step_126 rfl ?_
              refine ev_get fk_X4_41 dX4_step_127 kp0 (am_fvI (by decide)) ?_
              refine ev_bipush (v := 48) dX4_step_130 (by decide) ?_
              refine ev_eq am_ib ?_
              refine ev_icmp_ne (tgt := 167) dX4_step_132 (by decide) (fun c33 => ?_) (fun c33 => ?_)
              · exact ev_leaf (am_wf am_wn) (hE15 x15)
              · refine ev_aload_n dX4_step_135 rfl ?_
                refine ev_eq (Option.bind_assoc _ _ _) ?_
                refine ev_getR fk_X4_9 (by decide) dX4_step_136 kp0 (fun q34 k34 r34 => ?_)
                refine ev_aload_n dX4_step_139 rfl ?_
                refine ev_get fk_X4_25 dX4_step_140 kp0 (am_fvI (by decide)) ?_
                refine ev_eq (Option.bind_assoc _ _ _) ?_
                refine ev_bald dX4_step_143 k34 (fun v35 h35 => ?_)
                refine ev_eq (Option.bind_assoc _ _ _) ?_
                refine ev_callP (am_callS (as := [.int v35]) (st := []) ct_X4_37 dX4_step_144 rfl (am_le rfl) (am_fit (by omega) (by decide) (by decide) (by decide)) (t_X4_kindOf hl )) (fun v36 h36 => ?_)
                refine ev_aload_n dX4_step_147 rfl ?_
                refine ev_get fk_X4_41 dX4_step_148 kp0 (am_fvI (by decide)) ?_
                refine ev_eq am_ib ?_
                refine ev_icmp_ne (tgt := 167) dX4_step_151 (by decide) (fun c37 => ?_) (fun c37 => ?_)
                · exact ev_leaf (am_wf am_wn) (hE15 x15)
                · refine ev_aload_n dX4_step_154 rfl ?_
                  refine ev_dup dX4_step_155 rfl ?_
                  refine ev_get fk_X4_25 dX4_step_156 kp0 (am_fvI (by decide)) ?_
                  refine ev_iconst (v := 1) dX4_step_159 (by decide) ?_
                  refine ev_iadd dX4_step_160 ?_
                  refine ev_putI fk_X4_25 tyX4 tyX4_ok nmX4 rfl (by decide +kernel) (by decide) dX4_step_161 kp0 ?_
                  refine ev_goto (tgt := 106) dX4_step_164 (by decide) ?_
                  exact ev_leaf (am_wk am_wn) (hB15 (am_u2 x15 p0 3 ((x15 p0 3) + 1)))
        · exact ev_vret dX4_step_167 rfl (by decide) (by decide) rfl
def f_X4_open (S : am_S) (p0 : Nat) (p1 : Nat) (p2 : Int32) : Option (am_R) :=
  ((f_J9_min_7cf53 p2 (Int32.ofNat (am_ln p1))).bind (fun v1 => ((f_X4_step ((am_u2 (am_u2 (am_u2 S.1 p0 1 v1) p0 3 0) p0 5 (-1)), (am_u2 S.2 p0 0 (some p1))) p0).bind (fun σ2 => some (.inl none, (σ2, (am_u2 S.2 p0 0 (some p1))))))))
set_option maxRecDepth 20000 in
theorem t_X4_open {E : am_E} {l : Launch} (hl : l.stackTraces = false) {S : am_S} {p0 : Nat} {p1 : Nat} {p2 : Int32} (kp0 : am_kd p0 = 104) (kp1 : am_kd p1 = 2) : am_M E l yX4_open (.code yX4_open cX4_open 3 none) 2 0 0 [.ref p0, .ref p1, .int p2] S (f_X4_open S p0 p1 p2) := by
  refine am_M_id (am_M_of (w := fun x => x) hl (by decide) (am_fc rfl (am_fc rfl (am_fc rfl am_fn))) (Nat.le_of_ble_eq_true rfl) ?_)
  show am_Ev E l (RX4, cX4_open, 3, none, [], am_rm 2 0 0) (am_Z E 0 0) 0 0 0 [some (.ref p0), some (.ref p1), some (.int p2)] [] S (f_X4_open S p0 p1 p2)
  unfold f_X4_open
  refine ev_aload_n dX4_open_0 rfl ?_
  refine ev_aload_n dX4_open_1 rfl ?_
  refine ev_putR (ty := (.array .byte)) rfl rfl fk_X4_9 tyX4 tyX4_ok nmX4 rfl (by decide +kernel) (by decide) dX4_open_2 kp0 ?_
  refine ev_aload_n dX4_open_5 rfl ?_
  refine ev_iload_n dX4_open_6 rfl ?_
  refine ev_aload_n dX4_open_7 rfl ?_
  refine ev_alen dX4_open_8 kp1 (by decide) (by decide) ?_
  refine ev_callP (am_callS (as := [.int p2, .int (Int32.ofNat (am_ln p1))]) (st := [.ref p0]) ct_X4_15 dX4_open_9 rfl (am_le rfl) (am_fit (by omega) (by decide) (by decide) (by decide)) (t_J9_min_7cf53 hl )) (fun v1 h1 => ?_)
  refine ev_putI fk_X4_21 tyX4 tyX4_ok nmX4 rfl (by decide +kernel) (by decide) dX4_open_12 kp0 ?_
  refine ev_aload_n dX4_open_15 rfl ?_
  refine ev_iconst (v := 0) dX4_open_16 (by decide) ?_
  refine ev_putI fk_X4_25 tyX4 tyX4_ok nmX4 rfl (by decide +kernel) (by decide) dX4_open_17 kp0 ?_
  refine ev_aload_n dX4_open_20 rfl ?_
  refine ev_iconst (v := (-1)) dX4_open_21 (by decide) ?_
  refine ev_putI fk_X4_28 tyX4 tyX4_ok nmX4 rfl (by decide +kernel) (by decide) dX4_open_22 kp0 ?_
  refine ev_aload_n dX4_open_25 rfl ?_
  refine ev_callWV (am_callV (as := []) (o := p0) (st := []) cv_X4_31 dX4_open_26 kp0 rfl (am_le rfl) (am_fit (by omega) (by decide) (by decide) (by decide)) (t_X4_step hl kp0)) (fun σ2 h2 => ?_)
  exact ev_vret dX4_open_29 rfl (by decide) (by decide) rfl
theorem nt_X4_open {S : am_S} {p0 : Nat} {p1 : Nat} {p2 : Int32} : ∀ r, (f_X4_open S p0 p1 p2) = some r → ∃ v, r.1 = .inl v := am_nt_bind (fun _ => am_nt_bind (fun _ => am_nt_some))
def f_X4_isAt_b31 (S : am_S) (a0 : Nat) (a1 : Nat) (x4 : Int32) : Option ((Int32) ⊕ ((Unit) ⊕ (Int32))) :=
  (if x4 < (S.1 a0 3) then (if x4 < (S.1 a0 1) then ((am_rd S.2 a0 0 2).bind (fun q7 => ((am_ld S.1 q7 x4).bind (fun v8 => ((f_J0_charAt_5068e a1 (x4 - (S.1 a0 2))).bind (fun v9 => (if v8 = v9 then some (.inl (x4 + 1)) else some (.inr (.inr 0))))))))) else some (.inr (.inr 1))) else some (.inr (.inr 1)))
def f_X4_isAt (S : am_S) (p0 : Nat) (p1 : Nat) : Option (Int32) :=
  (if (S.1 p0 5) = (-1) then ((f_J0_length_8abf5 p1).bind (fun v2 => (if ((S.1 p0 3) - (S.1 p0 2)) = v2 then ((am_loop (f_X4_isAt_b31 S p0 p1) am_fuel (S.1 p0 2)).bind (fun r4 => match r4 with | .inl t4 => none | .inr b4 => some b4)) else some 0))) else some 0)
set_option maxRecDepth 20000 in
theorem t_X4_isAt {E : am_E} {l : Launch} (hl : l.stackTraces = false) {S : am_S} {p0 : Nat} {p1 : Nat} (kp0 : am_kd p0 = 104) (kp1 : am_kd p1 = 9) : am_M E l yX4_isAt (.code yX4_isAt cX4_isAt 3 (some .boolean)) 5 0 0 [.ref p0, .ref p1] S ((f_X4_isAt S p0 p1).map (fun (v : Int32) => ((.inl (some (.int v)), S) : am_R))) := by
  refine am_M_of (w := fun (v : Int32) => ((.inl (some (.int v)), S) : am_R)) hl (by decide) (am_fc rfl (am_fc rfl am_fn)) (Nat.le_of_ble_eq_true rfl) ?_
  show am_Ev E l (RX4, cX4_isAt, 3, (some .boolean), [], am_rm 5 0 0) (fun b a s x => am_Z E 0 0 b a s ((fun (v : Int32) => ((.inl (some (.int v)), S) : am_R)) x)) 0 0 0 [some (.ref p0), some (.ref p1), none] [] S (f_X4_isAt S p0 p1)
  unfold f_X4_isAt
  refine ev_aload_n dX4_isAt_0 rfl ?_
  refine ev_get fk_X4_28 dX4_isAt_1 kp0 (am_fvI (by decide)) ?_
  refine ev_iconst (v := (-1)) dX4_isAt_4 (by decide) ?_
  refine ev_icmp_ne (tgt := 24) dX4_isAt_5 (by decide) (fun c1 => ?_) (fun c1 => ?_)
  · refine ev_iconst (v := 0) dX4_isAt_24 (by decide) ?_
    exact ev_iret dX4_isAt_25 rfl (by decide) (by decide) (by decide) rfl
  · refine ev_aload_n dX4_isAt_8 rfl ?_
    refine ev_get fk_X4_25 dX4_isAt_9 kp0 (am_fvI (by decide)) ?_
    refine ev_aload_n dX4_isAt_12 rfl ?_
    refine ev_get fk_X4_34 dX4_isAt_13 kp0 (am_fvI (by decide)) ?_
    refine ev_isub dX4_isAt_16 ?_
    refine ev_aload_n dX4_isAt_17 rfl ?_
    refine ev_callP (am_callVS (as := []) (o := p1) (st := [.int ((S.1 p0 3) - (S.1 p0 2))]) cv_X4_53 dX4_isAt_18 rfl (am_le rfl) (am_fit (by omega) (by decide) (by decide) (by decide)) (am_str_in f_J0_length_8abf5_g) (t_J0_length_8abf5 hl)) (fun v2 h2 => ?_)
    refine ev_icmp_eq (tgt := 26) dX4_isAt_21 (by decide) (fun c3 => ?_) (fun c3 => ?_)
    · refine ev_aload_n dX4_isAt_26 rfl ?_
      refine ev_get fk_X4_34 dX4_isAt_27 kp0 (am_fvI (by decide)) ?_
      refine ev_istore_n dX4_isAt_30 (am_lt rfl) ?_
      refine ev_weak (am_wk (am_wk (am_wk am_wn))) (ev_loopR 31 0 (fun x4 : Int32 => [some (.ref p0), some (.ref p1), some (.int x4)]) (fun t4 : Unit => [none, none, none]) (fun x4 => S) (fun t4 => S) (fun x4 G4 hB4 hE4 hG4 => ?_) (fun t4 => ?_) am_fuel (S.1 p0 2))
      · unfold f_X4_isAt_b31
        refine ev_iload_n dX4_isAt_31 rfl ?_
        refine ev_aload_n dX4_isAt_32 rfl ?_
        refine ev_get fk_X4_25 dX4_isAt_33 kp0 (am_fvI (by decide)) ?_
        refine ev_eq am_ib ?_
        refine ev_icmp_ge (tgt := 74) dX4_isAt_36 (by decide) (fun c11 => ?_) (fun c11 => ?_)
        · refine ev_iconst (v := 1) dX4_isAt_74 (by decide) ?_
          exact ev_eq (hG4 _) (ev_iret dX4_isAt_75 rfl (by decide) (by decide) (by decide) rfl)
        · refine ev_iload_n dX4_isAt_39 rfl ?_
          refine ev_aload_n dX4_isAt_40 rfl ?_
          refine ev_get fk_X4_21 dX4_isAt_41 kp0 (am_fvI (by decide)) ?_
          refine ev_eq am_ib ?_
          refine ev_icmp_ge (tgt := 74) dX4_isAt_44 (by decide) (fun c12 => ?_) (fun c12 => ?_)
          · refine ev_iconst (v := 1) dX4_isAt_74 (by decide) ?_
            exact ev_eq (hG4 _) (ev_iret dX4_isAt_75 rfl (by decide) (by decide) (by decide) rfl)
          · refine ev_aload_n dX4_isAt_47 rfl ?_
            refine ev_eq (Option.bind_assoc _ _ _) ?_
            refine ev_getR fk_X4_9 (by decide) dX4_isAt_48 kp0 (fun q13 k13 r13 => ?_)
            refine ev_iload_n dX4_isAt_51 rfl ?_
            refine ev_eq (Option.bind_assoc _ _ _) ?_
            refine ev_bald dX4_isAt_52 k13 (fun v14 h14 => ?_)
            refine ev_aload_n dX4_isAt_53 rfl ?_
            refine ev_iload_n dX4_isAt_54 rfl ?_
            refine ev_aload_n dX4_isAt_55 rfl ?_
            refine ev_get fk_X4_34 dX4_isAt_56 kp0 (am_fvI (by decide)) ?_
            refine ev_isub dX4_isAt_59 ?_
            refine ev_eq (Option.bind_assoc _ _ _) ?_
            refine ev_callP (am_callVS (as := [.int (x4 - (S.1 p0 2))]) (o := p1) (st := [.int v14]) cv_X4_58 dX4_isAt_60 rfl (am_le rfl) (am_fit (by omega) (by decide) (by decide) (by decide)) (am_str_in f_J0_charAt_5068e_g) (t_J0_charAt_5068e hl)) (fun v15 h15 => ?_)
            refine ev_eq am_ib ?_
            refine ev_icmp_eq (tgt := 68) dX4_isAt_63 (by decide) (fun c16 => ?_) (fun c16 => ?_)
            · refine ev_iinc (v := (x4 + 1)) dX4_isAt_68 (am_lt rfl) rfl rfl ?_
              refine ev_goto (tgt := 31) dX4_isAt_71 (by decide) ?_
              exact ev_leaf (am_wk (am_wk (am_wk am_wn))) (hB4 (x4 + 1))
            · refine ev_iconst (v := 0) dX4_isAt_66 (by decide) ?_
              exact ev_eq (hG4 _) (ev_iret dX4_isAt_67 rfl (by decide) (by decide) (by decide) rfl)
      · exact ev_none
    · refine ev_iconst (v := 0) dX4_isAt_24 (by decide) ?_
      exact ev_iret dX4_isAt_25 rfl (by decide) (by decide) (by decide) rfl
def f_X4_took (S : am_S) (p0 : Nat) (p1 : Nat) : Option (Int32 × (Nat → Nat → Int32)) :=
  ((f_X4_isAt S p0 p1).bind (fun v1 => (if v1 = 0 then some (0, S.1) else ((f_X4_step S p0).bind (fun σ3 => some (1, σ3))))))
set_option maxRecDepth 20000 in
theorem t_X4_took {E : am_E} {l : Launch} (hl : l.stackTraces = false) {S : am_S} {p0 : Nat} {p1 : Nat} (kp0 : am_kd p0 = 104) (kp1 : am_kd p1 = 9) : am_M E l yX4_took (.code yX4_took cX4_took 2 (some .boolean)) 6 0 0 [.ref p0, .ref p1] S ((f_X4_took S p0 p1).map (fun (x : Int32 × (Nat → Nat → Int32)) => ((.inl (some (.int x.1)), (x.2, S.2)) : am_R))) := by
  refine am_M_of (w := fun (x : Int32 × (Nat → Nat → Int32)) => ((.inl (some (.int x.1)), (x.2, S.2)) : am_R)) hl (by decide) (am_fc rfl (am_fc rfl am_fn)) (Nat.le_of_ble_eq_true rfl) ?_
  show am_Ev E l (RX4, cX4_took, 2, (some .boolean), [], am_rm 6 0 0) (fun b a s x => am_Z E 0 0 b a s ((fun (x : Int32 × (Nat → Nat → Int32)) => ((.inl (some (.int x.1)), (x.2, S.2)) : am_R)) x)) 0 0 0 [some (.ref p0), some (.ref p1)] [] S (f_X4_took S p0 p1)
  unfold f_X4_took
  refine ev_aload_n dX4_took_0 rfl ?_
  refine ev_aload_n dX4_took_1 rfl ?_
  refine ev_callP (am_callV (as := [.ref p1]) (o := p0) (st := []) cv_X4_62 dX4_took_2 kp0 rfl (am_le rfl) (am_fit (by omega) (by decide) (by decide) (by decide)) (t_X4_isAt hl kp0 kp1)) (fun v1 h1 => ?_)
  refine ev_if_ne (tgt := 10) dX4_took_5 (by decide) (fun c2 => ?_) (fun c2 => ?_)
  · refine ev_aload_n dX4_took_10 rfl ?_
    refine ev_callWV (am_callV (as := []) (o := p0) (st := []) cv_X4_31 dX4_took_11 kp0 rfl (am_le rfl) (am_fit (by omega) (by decide) (by decide) (by decide)) (t_X4_step hl kp0)) (fun σ3 h3 => ?_)
    refine ev_iconst (v := 1) dX4_took_14 (by decide) ?_
    exact ev_iret dX4_took_15 rfl (by decide) (by decide) (by decide) rfl
  · refine ev_iconst (v := 0) dX4_took_8 (by decide) ?_
    exact ev_iret dX4_took_9 rfl (by decide) (by decide) (by decide) rfl
def f_X4_refuse (S : am_S) (p0 : Nat) : Option ((Nat → Nat → Int32)) :=
  (if (S.1 p0 5) = (-1) then some (am_u2 S.1 p0 5 (S.1 p0 2)) else some S.1)
set_option maxRecDepth 20000 in
theorem t_X4_refuse {E : am_E} {l : Launch} (hl : l.stackTraces = false) {S : am_S} {p0 : Nat} (kp0 : am_kd p0 = 104) : am_M E l yX4_refuse (.code yX4_refuse cX4_refuse 1 none) 0 0 0 [.ref p0] S ((f_X4_refuse S p0).map (fun (x : Nat → Nat → Int32) => ((.inl none, (x, S.2)) : am_R))) := by
  refine am_M_of (w := fun (x : Nat → Nat → Int32) => ((.inl none, (x, S.2)) : am_R)) hl (by decide) (am_fc rfl am_fn) (Nat.le_of_ble_eq_true rfl) ?_
  show am_Ev E l (RX4, cX4_refuse, 1, none, [], am_rm 0 0 0) (fun b a s x => am_Z E 0 0 b a s ((fun (x : Nat → Nat → Int32) => ((.inl none, (x, S.2)) : am_R)) x)) 0 0 0 [some (.ref p0)] [] S (f_X4_refuse S p0)
  unfold f_X4_refuse
  refine ev_aload_n dX4_refuse_0 rfl ?_
  refine ev_get fk_X4_28 dX4_refuse_1 kp0 (am_fvI (by decide)) ?_
  refine ev_iconst (v := (-1)) dX4_refuse_4 (by decide) ?_
  refine ev_icmp_ne (tgt := 16) dX4_refuse_5 (by decide) (fun c1 => ?_) (fun c1 => ?_)
  · exact ev_vret dX4_refuse_16 rfl (by decide) (by decide) rfl
  · refine ev_aload_n dX4_refuse_8 rfl ?_
    refine ev_aload_n dX4_refuse_9 rfl ?_
    refine ev_get fk_X4_34 dX4_refuse_10 kp0 (am_fvI (by decide)) ?_
    refine ev_putI fk_X4_28 tyX4 tyX4_ok nmX4 rfl (by decide +kernel) (by decide) dX4_refuse_13 kp0 ?_
    exact ev_vret dX4_refuse_16 rfl (by decide) (by decide) rfl
def f_X4_isAtLine (S : am_S) (p0 : Nat) (p1 : Int32) (p2 : Int32) : Option (Int32 × (Nat → Nat → Int32)) :=
  (if (S.1 p0 5) = (-1) then (if (S.1 p0 2) < (S.1 p0 1) then ((if 0 < p1 then ((f_X4_took S p0 (1000 + 0)).bind (fun y7 => (if y7.1 = 0 then ((f_X4_refuse (y7.2, S.2) p0).bind (fun σ9 => some σ9)) else (if p1 < p2 then some y7.2 else ((f_X4_refuse (y7.2, S.2) p0).bind (fun σ11 => some σ11)))))) else (if p1 < p2 then some S.1 else ((f_X4_refuse S p0).bind (fun σ5 => some σ5)))).bind (fun t3 => (if (t3 p0 5) = (-1) then some (1, t3) else some (0, t3)))) else some (0, S.1)) else some (0, S.1))
set_option maxRecDepth 20000 in
theorem t_X4_isAtLine {E : am_E} {l : Launch} (hl : l.stackTraces = false) {S : am_S} {p0 : Nat} {p1 : Int32} {p2 : Int32} (kp0 : am_kd p0 = 104) : am_M E l yX4_isAtLine (.code yX4_isAtLine cX4_isAtLine 3 (some .boolean)) 7 0 0 [.ref p0, .int p1, .int p2] S ((f_X4_isAtLine S p0 p1 p2).map (fun (x : Int32 × (Nat → Nat → Int32)) => ((.inl (some (.int x.1)), (x.2, S.2)) : am_R))) := by
  refine am_M_of (w := fun (x : Int32 × (Nat → Nat → Int32)) => ((.inl (some (.int x.1)), (x.2, S.2)) : am_R)) hl (by decide) (am_fc rfl (am_fc rfl (am_fc rfl am_fn))) (Nat.le_of_ble_eq_true rfl) ?_
  show am_Ev E l (RX4, cX4_isAtLine, 3, (some .boolean), [], am_rm 7 0 0) (fun b a s x => am_Z E 0 0 b a s ((fun (x : Int32 × (Nat → Nat → Int32)) => ((.inl (some (.int x.1)), (x.2, S.2)) : am_R)) x)) 0 0 0 [some (.ref p0), some (.int p1), some (.int p2)] [] S (f_X4_isAtLine S p0 p1 p2)
  unfold f_X4_isAtLine
  refine ev_aload_n dX4_isAtLine_0 rfl ?_
  refine ev_get fk_X4_28 dX4_isAtLine_1 kp0 (am_fvI (by decide)) ?_
  refine ev_iconst (v := (-1)) dX4_isAtLine_4 (by decide) ?_
  refine ev_icmp_ne (tgt := 19) dX4_isAtLine_5 (by decide) (fun c1 => ?_) (fun c1 => ?_)
  · refine ev_iconst (v := 0) dX4_isAtLine_19 (by decide) ?_
    exact ev_iret dX4_isAtLine_20 rfl (by decide) (by decide) (by decide) rfl
  · refine ev_aload_n dX4_isAtLine_8 rfl ?_
    refine ev_get fk_X4_34 dX4_isAtLine_9 kp0 (am_fvI (by decide)) ?_
    refine ev_aload_n dX4_isAtLine_12 rfl ?_
    refine ev_get fk_X4_21 dX4_isAtLine_13 kp0 (am_fvI (by decide)) ?_
    refine ev_icmp_lt (tgt := 21) dX4_isAtLine_16 (by decide) (fun c2 => ?_) (fun c2 => ?_)
    · refine ev_iload_n dX4_isAtLine_21 rfl ?_
      refine ev_reg (cs' := 0) (sl' := 0) 43 (fun t3 : (Nat → Nat → Int32) => [some (.ref p0), none, none]) (fun t3 => []) (fun t3 => (t3, S.2)) (fun hJ3 => ?_) (fun t3 => ?_)
      · refine ev_eq am_ib ?_
        refine ev_if_le (tgt := 34) dX4_isAtLine_22 (by decide) (fun c3 => ?_) (fun c3 => ?_)
        · refine ev_iload_n dX4_isAtLine_34 rfl ?_
          refine ev_iload_n dX4_isAtLine_35 rfl ?_
          refine ev_eq am_ib ?_
          refine ev_icmp_lt (tgt := 43) dX4_isAtLine_36 (by decide) (fun c4 => ?_) (fun c4 => ?_)
          · exact ev_leaf (am_wk (am_wf (am_wf am_wn))) (hJ3 S.1)
          · refine ev_aload_n dX4_isAtLine_39 rfl ?_
            refine ev_eq (Option.bind_assoc _ _ _) ?_
            refine ev_callWV (am_callV (as := []) (o := p0) (st := []) cv_X4_50 dX4_isAtLine_40 kp0 rfl (am_le rfl) (am_fit (by omega) (by decide) (by decide) (by decide)) (t_X4_refuse hl kp0)) (fun σ5 h5 => ?_)
            exact ev_leaf (am_wk (am_wf (am_wf am_wn))) (hJ3 σ5)
        · refine ev_aload_n dX4_isAtLine_25 rfl ?_
          refine ev_ldcS (k := 0) (tx := ";") dX4_isAtLine_26 (show (RX4, 44, ";", 0) ∈ am_sts by decide +kernel) ?_
          refine ev_eq (Option.bind_assoc _ _ _) ?_
          refine ev_callWI (am_callV (as := [.ref (1000 + 0)]) (o := p0) (st := []) cv_X4_46 dX4_isAtLine_28 kp0 rfl (am_le rfl) (am_fit (by omega) (by decide) (by decide) (by decide)) (t_X4_took hl kp0 (by decide))) (fun y7 h7 => ?_)
          refine ev_eq am_ib ?_
          refine ev_if_eq (tgt := 39) dX4_isAtLine_31 (by decide) (fun c8 => ?_) (fun c8 => ?_)
          · refine ev_aload_n dX4_isAtLine_39 rfl ?_
            refine ev_eq (Option.bind_assoc _ _ _) ?_
            refine ev_callWV (am_callV (as := []) (o := p0) (st := []) cv_X4_50 dX4_isAtLine_40 kp0 rfl (am_le rfl) (am_fit (by omega) (by decide) (by decide) (by decide)) (t_X4_refuse hl kp0)) (fun σ9 h9 => ?_)
            exact ev_leaf (am_wk (am_wf (am_wf am_wn))) (hJ3 σ9)
          · refine ev_iload_n dX4_isAtLine_34 rfl ?_
            refine ev_iload_n dX4_isAtLine_35 rfl ?_
            refine ev_eq am_ib ?_
            refine ev_icmp_lt (tgt := 43) dX4_isAtLine_36 (by decide) (fun c10 => ?_) (fun c10 => ?_)
            · exact ev_leaf (am_wk (am_wf (am_wf am_wn))) (hJ3 y7.2)
            · refine ev_aload_n dX4_isAtLine_39 rfl ?_
              refine ev_eq (Option.bind_assoc _ _ _) ?_
              refine ev_callWV (am_callV (as := []) (o := p0) (st := []) cv_X4_50 dX4_isAtLine_40 kp0 rfl (am_le rfl) (am_fit (by omega) (by decide) (by decide) (by decide)) (t_X4_refuse hl kp0)) (fun σ11 h11 => ?_)
              exact ev_leaf (am_wk (am_wf (am_wf am_wn))) (hJ3 σ11)
      · refine ev_aload_n dX4_isAtLine_43 rfl ?_
        refine ev_get fk_X4_28 dX4_isAtLine_44 kp0 (am_fvI (by decide)) ?_
        refine ev_iconst (v := (-1)) dX4_isAtLine_47 (by decide) ?_
        refine ev_icmp_ne (tgt := 55) dX4_isAtLine_48 (by decide) (fun c12 => ?_) (fun c12 => ?_)
        · refine ev_iconst (v := 0) dX4_isAtLine_55 (by decide) ?_
          exact ev_iret dX4_isAtLine_56 rfl (by decide) (by decide) (by decide) rfl
        · refine ev_iconst (v := 1) dX4_isAtLine_51 (by decide) ?_
          refine ev_goto (tgt := 56) dX4_isAtLine_52 (by decide) ?_
          exact ev_iret dX4_isAtLine_56 rfl (by decide) (by decide) (by decide) rfl
    · refine ev_iconst (v := 0) dX4_isAtLine_19 (by decide) ?_
      exact ev_iret dX4_isAtLine_20 rfl (by decide) (by decide) (by decide) rfl
def f_X4_number_b34 (S : am_S) (a0 : Nat) (a1 : Int32) (a2 : Int32) (x3 : Int32 × Int32) : Option ((Int32 × Int32) ⊕ (Int32)) :=
  (if x3.2 < (S.1 a0 3) then (if x3.2 < (S.1 a0 1) then (if x3.1 = (-1) then some (.inr x3.1) else ((am_rd S.2 a0 0 2).bind (fun q7 => ((am_ld S.1 q7 x3.2).bind (fun v8 => some (.inl ((((x3.1 * 10) + v8) - 48), (x3.2 + 1)))))))) else some (.inr x3.1)) else some (.inr x3.1))
def f_X4_number (S : am_S) (p0 : Nat) (p1 : Int32) (p2 : Int32) : Option (Int32 × (Nat → Nat → Int32)) :=
  ((if (S.1 p0 4) = 48 then (if 3 < ((S.1 p0 3) - (S.1 p0 2)) then some ((-1) : Int32) else some (0 : Int32)) else some ((-1) : Int32)).bind (fun t1 => ((am_loop (f_X4_number_b34 S p0 p1 p2) am_fuel (t1, (S.1 p0 2))).bind (fun t3 => (if (S.1 p0 5) = (-1) then (if t3 < p1 then ((f_X4_refuse S p0).bind (fun σ17 => some ((-1), σ17))) else (if p2 < t3 then ((f_X4_refuse S p0).bind (fun σ20 => some ((-1), σ20))) else ((f_X4_step S p0).bind (fun σ19 => some (t3, σ19))))) else ((f_X4_refuse S p0).bind (fun σ15 => some ((-1), σ15))))))))
set_option maxRecDepth 20000 in
theorem t_X4_number {E : am_E} {l : Launch} (hl : l.stackTraces = false) {S : am_S} {p0 : Nat} {p1 : Int32} {p2 : Int32} (kp0 : am_kd p0 = 104) : am_M E l yX4_number (.code yX4_number cX4_number 5 (some .int)) 2 0 0 [.ref p0, .int p1, .int p2] S ((f_X4_number S p0 p1 p2).map (fun (x : Int32 × (Nat → Nat → Int32)) => ((.inl (some (.int x.1)), (x.2, S.2)) : am_R))) := by
  refine am_M_of (w := fun (x : Int32 × (Nat → Nat → Int32)) => ((.inl (some (.int x.1)), (x.2, S.2)) : am_R)) hl (by decide) (am_fc rfl (am_fc rfl (am_fc rfl am_fn))) (Nat.le_of_ble_eq_true rfl) ?_
  show am_Ev E l (RX4, cX4_number, 5, (some .int), [], am_rm 2 0 0) (fun b a s x => am_Z E 0 0 b a s ((fun (x : Int32 × (Nat → Nat → Int32)) => ((.inl (some (.int x.1)), (x.2, S.2)) : am_R)) x)) 0 0 0 [some (.ref p0), some (.int p1), some (.int p2), none, none] [] S (f_X4_number S p0 p1 p2)
  unfold f_X4_number
  refine ev_aload_n dX4_number_0 rfl ?_
  refine ev_get fk_X4_41 dX4_number_1 kp0 (am_fvI (by decide)) ?_
  refine ev_bipush (v := 48) dX4_number_4 (by decide) ?_
  refine ev_reg (cs' := 0) (sl' := 0) 27 (fun t1 : Int32 => [some (.ref p0), some (.int p1), some (.int p2), none, none]) (fun t1 => [.int t1]) (fun t1 => S) (fun hJ1 => ?_) (fun t1 => ?_)
  · refine ev_eq am_ib ?_
    refine ev_icmp_ne (tgt := 26) dX4_number_6 (by decide) (fun c1 => ?_) (fun c1 => ?_)
    · refine ev_iconst (v := (-1)) dX4_number_26 (by decide) ?_
      exact ev_leaf (am_wk (am_wk (am_wk (am_wf (am_wf am_wn))))) (hJ1 ((-1) : Int32))
    · refine ev_aload_n dX4_number_9 rfl ?_
      refine ev_get fk_X4_25 dX4_number_10 kp0 (am_fvI (by decide)) ?_
      refine ev_aload_n dX4_number_13 rfl ?_
      refine ev_get fk_X4_34 dX4_number_14 kp0 (am_fvI (by decide)) ?_
      refine ev_isub dX4_number_17 ?_
      refine ev_iconst (v := 3) dX4_number_18 (by decide) ?_
      refine ev_eq am_ib ?_
      refine ev_icmp_gt (tgt := 26) dX4_number_19 (by decide) (fun c2 => ?_) (fun c2 => ?_)
      · refine ev_iconst (v := (-1)) dX4_number_26 (by decide) ?_
        exact ev_leaf (am_wk (am_wk (am_wk (am_wf (am_wf am_wn))))) (hJ1 ((-1) : Int32))
      · refine ev_iconst (v := 0) dX4_number_22 (by decide) ?_
        refine ev_goto (tgt := 27) dX4_number_23 (by decide) ?_
        exact ev_leaf (am_wk (am_wk (am_wk (am_wf (am_wf am_wn))))) (hJ1 (0 : Int32))
  · refine ev_istore_n dX4_number_27 (am_lt rfl) ?_
    refine ev_aload_n dX4_number_28 rfl ?_
    refine ev_get fk_X4_34 dX4_number_29 kp0 (am_fvI (by decide)) ?_
    refine ev_istore dX4_number_32 (am_lt rfl) ?_
    refine ev_weak (am_wk (am_wk (am_wk (am_wk (am_wk am_wn))))) (ev_loop 34 79 (fun x3 : Int32 × Int32 => [some (.ref p0), some (.int p1), some (.int p2), some (.int x3.1), some (.int x3.2)]) (fun t3 : Int32 => [some (.ref p0), some (.int p1), some (.int p2), some (.int t3), none]) (fun x3 => S) (fun t3 => S) (fun x3 G3 hB3 hE3 => ?_) (fun t3 => ?_) am_fuel (t1, (S.1 p0 2)))
    · unfold f_X4_number_b34
      refine ev_iload dX4_number_34 rfl ?_
      refine ev_aload_n dX4_number_36 rfl ?_
      refine ev_get fk_X4_25 dX4_number_37 kp0 (am_fvI (by decide)) ?_
      refine ev_eq am_ib ?_
      refine ev_icmp_ge (tgt := 79) dX4_number_40 (by decide) (fun c9 => ?_) (fun c9 => ?_)
      · exact ev_leaf (am_wk (am_wk (am_wk (am_wk (am_wf am_wn))))) (hE3 x3.1)
      · refine ev_iload dX4_number_43 rfl ?_
        refine ev_aload_n dX4_number_45 rfl ?_
        refine ev_get fk_X4_21 dX4_number_46 kp0 (am_fvI (by decide)) ?_
        refine ev_eq am_ib ?_
        refine ev_icmp_ge (tgt := 79) dX4_number_49 (by decide) (fun c10 => ?_) (fun c10 => ?_)
        · exact ev_leaf (am_wk (am_wk (am_wk (am_wk (am_wf am_wn))))) (hE3 x3.1)
        · refine ev_iload_n dX4_number_52 rfl ?_
          refine ev_iconst (v := (-1)) dX4_number_53 (by decide) ?_
          refine ev_eq am_ib ?_
          refine ev_icmp_eq (tgt := 79) dX4_number_54 (by decide) (fun c11 => ?_) (fun c11 => ?_)
          · exact ev_leaf (am_wk (am_wk (am_wk (am_wk (am_wf am_wn))))) (hE3 x3.1)
          · refine ev_iload_n dX4_number_57 rfl ?_
            refine ev_bipush (v := 10) dX4_number_58 (by decide) ?_
            refine ev_imul dX4_number_60 ?_
            refine ev_aload_n dX4_number_61 rfl ?_
            refine ev_eq (Option.bind_assoc _ _ _) ?_
            refine ev_getR fk_X4_9 (by decide) dX4_number_62 kp0 (fun q12 k12 r12 => ?_)
            refine ev_iload dX4_number_65 rfl ?_
            refine ev_eq (Option.bind_assoc _ _ _) ?_
            refine ev_bald dX4_number_67 k12 (fun v13 h13 => ?_)
            refine ev_iadd dX4_number_68 ?_
            refine ev_bipush (v := 48) dX4_number_69 (by decide) ?_
            refine ev_isub dX4_number_71 ?_
            refine ev_istore_n dX4_number_72 (am_lt rfl) ?_
            refine ev_iinc (v := (x3.2 + 1)) dX4_number_73 (am_lt rfl) rfl rfl ?_
            refine ev_goto (tgt := 34) dX4_number_76 (by decide) ?_
            exact ev_leaf (am_wk (am_wk (am_wk (am_wk (am_wk am_wn))))) (hB3 ((((x3.1 * 10) + v13) - 48), (x3.2 + 1)))
    · refine ev_aload_n dX4_number_79 rfl ?_
      refine ev_get fk_X4_28 dX4_number_80 kp0 (am_fvI (by decide)) ?_
      refine ev_iconst (v := (-1)) dX4_number_83 (by decide) ?_
      refine ev_icmp_ne (tgt := 97) dX4_number_84 (by decide) (fun c14 => ?_) (fun c14 => ?_)
      · refine ev_aload_n dX4_number_97 rfl ?_
        refine ev_callWV (am_callV (as := []) (o := p0) (st := []) cv_X4_50 dX4_number_98 kp0 rfl (am_le rfl) (am_fit (by omega) (by decide) (by decide) (by decide)) (t_X4_refuse hl kp0)) (fun σ15 h15 => ?_)
        refine ev_iconst (v := (-1)) dX4_number_101 (by decide) ?_
        exact ev_iret dX4_number_102 rfl rfl (by decide) (by decide) rfl
      · refine ev_iload_n dX4_number_87 rfl ?_
        refine ev_iload_n dX4_number_88 rfl ?_
        refine ev_icmp_lt (tgt := 97) dX4_number_89 (by decide) (fun c16 => ?_) (fun c16 => ?_)
        · refine ev_aload_n dX4_number_97 rfl ?_
          refine ev_callWV (am_callV (as := []) (o := p0) (st := []) cv_X4_50 dX4_number_98 kp0 rfl (am_le rfl) (am_fit (by omega) (by decide) (by decide) (by decide)) (t_X4_refuse hl kp0)) (fun σ17 h17 => ?_)
          refine ev_iconst (v := (-1)) dX4_number_101 (by decide) ?_
          exact ev_iret dX4_number_102 rfl rfl (by decide) (by decide) rfl
        · refine ev_iload_n dX4_number_92 rfl ?_
          refine ev_iload_n dX4_number_93 rfl ?_
          refine ev_icmp_le (tgt := 103) dX4_number_94 (by decide) (fun c18 => ?_) (fun c18 => ?_)
          · refine ev_aload_n dX4_number_103 rfl ?_
            refine ev_callWV (am_callV (as := []) (o := p0) (st := []) cv_X4_31 dX4_number_104 kp0 rfl (am_le rfl) (am_fit (by omega) (by decide) (by decide) (by decide)) (t_X4_step hl kp0)) (fun σ19 h19 => ?_)
            refine ev_iload_n dX4_number_107 rfl ?_
            exact ev_iret dX4_number_108 rfl rfl (by decide) (by decide) rfl
          · refine ev_aload_n dX4_number_97 rfl ?_
            refine ev_callWV (am_callV (as := []) (o := p0) (st := []) cv_X4_50 dX4_number_98 kp0 rfl (am_le rfl) (am_fit (by omega) (by decide) (by decide) (by decide)) (t_X4_refuse hl kp0)) (fun σ20 h20 => ?_)
            refine ev_iconst (v := (-1)) dX4_number_101 (by decide) ?_
            exact ev_iret dX4_number_102 rfl rfl (by decide) (by decide) rfl
def f_X10_readHouse (S : am_S) (p0 : Nat) (p1 : Nat) : Option ((Nat → Nat → Int32)) :=
  (if (S.1 p1 0) < 0 then ((am_rd S.2 p0 0 104).bind (fun q2 => ((f_X4_refuse S q2).bind (fun σ3 => some σ3)))) else (if (S.1 p1 0) < 8 then ((am_rd S.2 p0 0 104).bind (fun q5 => ((f_X4_step S q5).bind (fun σ6 => ((am_rd S.2 p1 6 1).bind (fun q7 => ((am_rd S.2 p0 0 104).bind (fun q8 => ((f_X4_number (σ6, S.2) q8 0 15).bind (fun y9 => ((am_st y9.2 q7 (S.1 p1 0) y9.1).bind (fun σ10 => ((am_rd S.2 p1 7 1).bind (fun q11 => ((am_rd S.2 p0 0 104).bind (fun q12 => ((f_X4_number (σ10, S.2) q12 0 15).bind (fun y13 => ((am_st y13.2 q11 (S.1 p1 0) y13.1).bind (fun σ14 => ((am_rd S.2 p1 8 1).bind (fun q15 => ((am_rd S.2 p0 0 104).bind (fun q16 => ((f_X4_number (σ14, S.2) q16 1 30).bind (fun y17 => ((am_st y17.2 q15 (S.1 p1 0) y17.1).bind (fun σ18 => ((am_rd S.2 p1 9 1).bind (fun q19 => ((am_rd S.2 p0 0 104).bind (fun q20 => ((f_X4_number (σ18, S.2) q20 0 999).bind (fun y21 => ((am_st y21.2 q19 (S.1 p1 0) y21.1).bind (fun σ22 => ((am_rd S.2 p1 10 1).bind (fun q23 => ((am_rd S.2 p0 0 104).bind (fun q24 => ((f_X4_took (σ22, S.2) q24 (1000 + 2)).bind (fun y26 => ((if y26.1 = 0 then some (0 : Int32) else some (1 : Int32)).bind (fun t27 => ((am_st y26.2 q23 (S.1 p1 0) t27).bind (fun σ28 => some (am_u2 σ28 p1 0 ((σ28 p1 0) + 1)))))))))))))))))))))))))))))))))))))))))))))))) else ((am_rd S.2 p0 0 104).bind (fun q29 => ((f_X4_refuse S q29).bind (fun σ30 => some σ30))))))
set_option maxRecDepth 20000 in
theorem t_X10_readHouse {E : am_E} {l : Launch} (hl : l.stackTraces = false) {S : am_S} {p0 : Nat} {p1 : Nat} (kp0 : am_kd p0 = 110) (kp1 : am_kd p1 = 109) : am_M E l yX10_readHouse (.code yX10_readHouse cX10_readHouse 3 none) 7 0 0 [.ref p0, .ref p1] S ((f_X10_readHouse S p0 p1).map (fun (x : Nat → Nat → Int32) => ((.inl none, (x, S.2)) : am_R))) := by
  refine am_M_of (w := fun (x : Nat → Nat → Int32) => ((.inl none, (x, S.2)) : am_R)) hl (by decide) (am_fc rfl (am_fc rfl am_fn)) (Nat.le_of_ble_eq_true rfl) ?_
  show am_Ev E l (RX10, cX10_readHouse, 3, none, [], am_rm 7 0 0) (fun b a s x => am_Z E 0 0 b a s ((fun (x : Nat → Nat → Int32) => ((.inl none, (x, S.2)) : am_R)) x)) 0 0 0 [some (.ref p0), some (.ref p1), none] [] S (f_X10_readHouse S p0 p1)
  unfold f_X10_readHouse
  refine ev_aload_n dX10_readHouse_0 rfl ?_
  refine ev_getN fk_X10_70 dX10_readHouse_1 kp1 (am_fvI (by decide)) ?_
  refine ev_istore_n dX10_readHouse_4 (am_lt rfl) ?_
  refine ev_iload_n dX10_readHouse_5 rfl ?_
  refine ev_if_lt (tgt := 15) dX10_readHouse_6 (by decide) (fun c1 => ?_) (fun c1 => ?_)
  · refine ev_aload_n dX10_readHouse_15 rfl ?_
    refine ev_getR fk_X10_12 (by decide) dX10_readHouse_16 kp0 (fun q2 k2 r2 => ?_)
    refine ev_callWV (am_callVN (as := []) (o := q2) (st := []) cv_X10_67 dX10_readHouse_19 k2 rfl (am_le rfl) (am_fit (by omega) (by decide) (by decide) (by decide)) (am_no1 (fun _ => ⟨_, rfl⟩)) (t_X4_refuse hl k2)) (fun σ3 h3 => ?_)
    exact ev_vret dX10_readHouse_22 rfl (by decide) (by decide) rfl
  · refine ev_iload_n dX10_readHouse_9 rfl ?_
    refine ev_bipush (v := 8) dX10_readHouse_10 (by decide) ?_
    refine ev_icmp_lt (tgt := 23) dX10_readHouse_12 (by decide) (fun c4 => ?_) (fun c4 => ?_)
    · refine ev_aload_n dX10_readHouse_23 rfl ?_
      refine ev_getR fk_X10_12 (by decide) dX10_readHouse_24 kp0 (fun q5 k5 r5 => ?_)
      refine ev_callWV (am_callVN (as := []) (o := q5) (st := []) cv_X10_75 dX10_readHouse_27 k5 rfl (am_le rfl) (am_fit (by omega) (by decide) (by decide) (by decide)) (am_no1 (fun _ => ⟨_, rfl⟩)) (t_X4_step hl k5)) (fun σ6 h6 => ?_)
      refine ev_aload_n dX10_readHouse_30 rfl ?_
      refine ev_getRN fk_X10_78 (by decide) dX10_readHouse_31 kp1 (fun q7 k7 r7 => ?_)
      refine ev_iload_n dX10_readHouse_34 rfl ?_
      refine ev_aload_n dX10_readHouse_35 rfl ?_
      refine ev_getR fk_X10_12 (by decide) dX10_readHouse_36 kp0 (fun q8 k8 r8 => ?_)
      refine ev_iconst (v := 0) dX10_readHouse_39 (by decide) ?_
      refine ev_bipush (v := 15) dX10_readHouse_40 (by decide) ?_
      refine ev_callWI (am_callVN (as := [.int 0, .int 15]) (o := q8) (st := [.int (S.1 p1 0), .ref q7]) cv_X10_82 dX10_readHouse_42 k8 rfl (am_le rfl) (am_fit (by omega) (by decide) (by decide) (by decide)) (am_no1 (fun _ => ⟨_, rfl⟩)) (t_X4_number hl k8)) (fun y9 h9 => ?_)
      refine ev_iast dX10_readHouse_45 k7 (fun σ10 h10 => ?_)
      refine ev_aload_n dX10_readHouse_46 rfl ?_
      refine ev_getRN fk_X10_86 (by decide) dX10_readHouse_47 kp1 (fun q11 k11 r11 => ?_)
      refine ev_iload_n dX10_readHouse_50 rfl ?_
      refine ev_aload_n dX10_readHouse_51 rfl ?_
      refine ev_getR fk_X10_12 (by decide) dX10_readHouse_52 kp0 (fun q12 k12 r12 => ?_)
      refine ev_iconst (v := 0) dX10_readHouse_55 (by decide) ?_
      refine ev_bipush (v := 15) dX10_readHouse_56 (by decide) ?_
      refine ev_callWI (am_callVN (as := [.int 0, .int 15]) (o := q12) (st := [.int (S.1 p1 0), .ref q11]) cv_X10_82 dX10_readHouse_58 k12 rfl (am_le rfl) (am_fit (by omega) (by decide) (by decide) (by decide)) (am_no1 (fun _ => ⟨_, rfl⟩)) (t_X4_number hl k12)) (fun y13 h13 => ?_)
      refine ev_iast dX10_readHouse_61 k11 (fun σ14 h14 => ?_)
      refine ev_aload_n dX10_readHouse_62 rfl ?_
      refine ev_getRN fk_X10_89 (by decide) dX10_readHouse_63 kp1 (fun q15 k15 r15 => ?_)
      refine ev_iload_n dX10_readHouse_66 rfl ?_
      refine ev_aload_n dX10_readHouse_67 rfl ?_
      refine ev_getR fk_X10_12 (by decide) dX10_readHouse_68 kp0 (fun q16 k16 r16 => ?_)
      refine ev_iconst (v := 1) dX10_readHouse_71 (by decide) ?_
      refine ev_bipush (v := 30) dX10_readHouse_72 (by decide) ?_
      refine ev_callWI (am_callVN (as := [.int 1, .int 30]) (o := q16) (st := [.int (S.1 p1 0), .ref q15]) cv_X10_82 dX10_readHouse_74 k16 rfl (am_le rfl) (am_fit (by omega) (by decide) (by decide) (by decide)) (am_no1 (fun _ => ⟨_, rfl⟩)) (t_X4_number hl k16)) (fun y17 h17 => ?_)
      refine ev_iast dX10_readHouse_77 k15 (fun σ18 h18 => ?_)
      refine ev_aload_n dX10_readHouse_78 rfl ?_
      refine ev_getRN fk_X10_92 (by decide) dX10_readHouse_79 kp1 (fun q19 k19 r19 => ?_)
      refine ev_iload_n dX10_readHouse_82 rfl ?_
      refine ev_aload_n dX10_readHouse_83 rfl ?_
      refine ev_getR fk_X10_12 (by decide) dX10_readHouse_84 kp0 (fun q20 k20 r20 => ?_)
      refine ev_iconst (v := 0) dX10_readHouse_87 (by decide) ?_
      refine ev_sipush (v := 999) dX10_readHouse_88 (by decide) ?_
      refine ev_callWI (am_callVN (as := [.int 0, .int 999]) (o := q20) (st := [.int (S.1 p1 0), .ref q19]) cv_X10_82 dX10_readHouse_91 k20 rfl (am_le rfl) (am_fit (by omega) (by decide) (by decide) (by decide)) (am_no1 (fun _ => ⟨_, rfl⟩)) (t_X4_number hl k20)) (fun y21 h21 => ?_)
      refine ev_iast dX10_readHouse_94 k19 (fun σ22 h22 => ?_)
      refine ev_aload_n dX10_readHouse_95 rfl ?_
      refine ev_getRN fk_X10_95 (by decide) dX10_readHouse_96 kp1 (fun q23 k23 r23 => ?_)
      refine ev_iload_n dX10_readHouse_99 rfl ?_
      refine ev_aload_n dX10_readHouse_100 rfl ?_
      refine ev_getR fk_X10_12 (by decide) dX10_readHouse_101 kp0 (fun q24 k24 r24 => ?_)
      refine ev_ldcS (k := 2) (tx := "deaf") dX10_readHouse_104 (show (RX10, 98, "deaf", 2) ∈ am_sts by decide +kernel) ?_
      refine ev_callWI (am_callVN (as := [.ref (1000 + 2)]) (o := q24) (st := [.int (S.1 p1 0), .ref q23]) cv_X10_50 dX10_readHouse_106 k24 rfl (am_le rfl) (am_fit (by omega) (by decide) (by decide) (by decide)) (am_no1 (fun _ => ⟨_, rfl⟩)) (t_X4_took hl k24 (by decide))) (fun y26 h26 => ?_)
      refine ev_reg (cs' := 0) (sl' := 0) 117 (fun t27 : Int32 => [none, some (.ref p1), none]) (fun t27 => [.int t27, .int (S.1 p1 0), .ref q23]) (fun t27 => (y26.2, S.2)) (fun hJ27 => ?_) (fun t27 => ?_)
      · refine ev_eq am_ib ?_
        refine ev_if_eq (tgt := 116) dX10_readHouse_109 (by decide) (fun c27 => ?_) (fun c27 => ?_)
        · refine ev_iconst (v := 0) dX10_readHouse_116 (by decide) ?_
          exact ev_leaf (am_wf (am_wk (am_wf am_wn))) (hJ27 (0 : Int32))
        · refine ev_iconst (v := 1) dX10_readHouse_112 (by decide) ?_
          refine ev_goto (tgt := 117) dX10_readHouse_113 (by decide) ?_
          exact ev_leaf (am_wf (am_wk (am_wf am_wn))) (hJ27 (1 : Int32))
      · refine ev_iast dX10_readHouse_117 k23 (fun σ28 h28 => ?_)
        refine ev_aload_n dX10_readHouse_118 rfl ?_
        refine ev_dup dX10_readHouse_119 rfl ?_
        refine ev_getN fk_X10_70 dX10_readHouse_120 kp1 (am_fvI (by decide)) ?_
        refine ev_iconst (v := 1) dX10_readHouse_123 (by decide) ?_
        refine ev_iadd dX10_readHouse_124 ?_
        refine ev_putIN fk_X10_70 tyX9 tyX9_ok nmX9 rfl (by decide +kernel) (by decide) dX10_readHouse_125 kp1 ?_
        exact ev_vret dX10_readHouse_128 rfl (by decide) (by decide) rfl
    · refine ev_aload_n dX10_readHouse_15 rfl ?_
      refine ev_getR fk_X10_12 (by decide) dX10_readHouse_16 kp0 (fun q29 k29 r29 => ?_)
      refine ev_callWV (am_callVN (as := []) (o := q29) (st := []) cv_X10_67 dX10_readHouse_19 k29 rfl (am_le rfl) (am_fit (by omega) (by decide) (by decide) (by decide)) (am_no1 (fun _ => ⟨_, rfl⟩)) (t_X4_refuse hl k29)) (fun σ30 h30 => ?_)
      exact ev_vret dX10_readHouse_22 rfl (by decide) (by decide) rfl
def f_X10_readWant (S : am_S) (p0 : Nat) (p1 : Nat) : Option ((Nat → Nat → Int32)) :=
  (if (S.1 p1 1) < 0 then ((am_rd S.2 p0 0 104).bind (fun q2 => ((f_X4_refuse S q2).bind (fun σ3 => some σ3)))) else (if (S.1 p1 1) < 10 then ((am_rd S.2 p0 0 104).bind (fun q5 => ((f_X4_step S q5).bind (fun σ6 => ((am_rd S.2 p1 11 1).bind (fun q7 => ((am_rd S.2 p0 0 104).bind (fun q8 => ((f_X4_number (σ6, S.2) q8 1 99).bind (fun y9 => ((am_st y9.2 q7 (S.1 p1 1) y9.1).bind (fun σ10 => some (am_u2 σ10 p1 1 ((σ10 p1 1) + 1)))))))))))))) else ((am_rd S.2 p0 0 104).bind (fun q11 => ((f_X4_refuse S q11).bind (fun σ12 => some σ12))))))
set_option maxRecDepth 20000 in
theorem t_X10_readWant {E : am_E} {l : Launch} (hl : l.stackTraces = false) {S : am_S} {p0 : Nat} {p1 : Nat} (kp0 : am_kd p0 = 110) (kp1 : am_kd p1 = 109) : am_M E l yX10_readWant (.code yX10_readWant cX10_readWant 3 none) 3 0 0 [.ref p0, .ref p1] S ((f_X10_readWant S p0 p1).map (fun (x : Nat → Nat → Int32) => ((.inl none, (x, S.2)) : am_R))) := by
  refine am_M_of (w := fun (x : Nat → Nat → Int32) => ((.inl none, (x, S.2)) : am_R)) hl (by decide) (am_fc rfl (am_fc rfl am_fn)) (Nat.le_of_ble_eq_true rfl) ?_
  show am_Ev E l (RX10, cX10_readWant, 3, none, [], am_rm 3 0 0) (fun b a s x => am_Z E 0 0 b a s ((fun (x : Nat → Nat → Int32) => ((.inl none, (x, S.2)) : am_R)) x)) 0 0 0 [some (.ref p0), some (.ref p1), none] [] S (f_X10_readWant S p0 p1)
  unfold f_X10_readWant
  refine ev_aload_n dX10_readWant_0 rfl ?_
  refine ev_getN fk_X10_99 dX10_readWant_1 kp1 (am_fvI (by decide)) ?_
  refine ev_istore_n dX10_readWant_4 (am_lt rfl) ?_
  refine ev_iload_n dX10_readWant_5 rfl ?_
  refine ev_if_lt (tgt := 15) dX10_readWant_6 (by decide) (fun c1 => ?_) (fun c1 => ?_)
  · refine ev_aload_n dX10_readWant_15 rfl ?_
    refine ev_getR fk_X10_12 (by decide) dX10_readWant_16 kp0 (fun q2 k2 r2 => ?_)
    refine ev_callWV (am_callVN (as := []) (o := q2) (st := []) cv_X10_67 dX10_readWant_19 k2 rfl (am_le rfl) (am_fit (by omega) (by decide) (by decide) (by decide)) (am_no1 (fun _ => ⟨_, rfl⟩)) (t_X4_refuse hl k2)) (fun σ3 h3 => ?_)
    exact ev_vret dX10_readWant_22 rfl (by decide) (by decide) rfl
  · refine ev_iload_n dX10_readWant_9 rfl ?_
    refine ev_bipush (v := 10) dX10_readWant_10 (by decide) ?_
    refine ev_icmp_lt (tgt := 23) dX10_readWant_12 (by decide) (fun c4 => ?_) (fun c4 => ?_)
    · refine ev_aload_n dX10_readWant_23 rfl ?_
      refine ev_getR fk_X10_12 (by decide) dX10_readWant_24 kp0 (fun q5 k5 r5 => ?_)
      refine ev_callWV (am_callVN (as := []) (o := q5) (st := []) cv_X10_75 dX10_readWant_27 k5 rfl (am_le rfl) (am_fit (by omega) (by decide) (by decide) (by decide)) (am_no1 (fun _ => ⟨_, rfl⟩)) (t_X4_step hl k5)) (fun σ6 h6 => ?_)
      refine ev_aload_n dX10_readWant_30 rfl ?_
      refine ev_getRN fk_X10_102 (by decide) dX10_readWant_31 kp1 (fun q7 k7 r7 => ?_)
      refine ev_iload_n dX10_readWant_34 rfl ?_
      refine ev_aload_n dX10_readWant_35 rfl ?_
      refine ev_getR fk_X10_12 (by decide) dX10_readWant_36 kp0 (fun q8 k8 r8 => ?_)
      refine ev_iconst (v := 1) dX10_readWant_39 (by decide) ?_
      refine ev_bipush (v := 99) dX10_readWant_40 (by decide) ?_
      refine ev_callWI (am_callVN (as := [.int 1, .int 99]) (o := q8) (st := [.int (S.1 p1 1), .ref q7]) cv_X10_82 dX10_readWant_42 k8 rfl (am_le rfl) (am_fit (by omega) (by decide) (by decide) (by decide)) (am_no1 (fun _ => ⟨_, rfl⟩)) (t_X4_number hl k8)) (fun y9 h9 => ?_)
      refine ev_iast dX10_readWant_45 k7 (fun σ10 h10 => ?_)
      refine ev_aload_n dX10_readWant_46 rfl ?_
      refine ev_dup dX10_readWant_47 rfl ?_
      refine ev_getN fk_X10_99 dX10_readWant_48 kp1 (am_fvI (by decide)) ?_
      refine ev_iconst (v := 1) dX10_readWant_51 (by decide) ?_
      refine ev_iadd dX10_readWant_52 ?_
      refine ev_putIN fk_X10_99 tyX9 tyX9_ok nmX9 rfl (by decide +kernel) (by decide) dX10_readWant_53 kp1 ?_
      exact ev_vret dX10_readWant_56 rfl (by decide) (by decide) rfl
    · refine ev_aload_n dX10_readWant_15 rfl ?_
      refine ev_getR fk_X10_12 (by decide) dX10_readWant_16 kp0 (fun q11 k11 r11 => ?_)
      refine ev_callWV (am_callVN (as := []) (o := q11) (st := []) cv_X10_67 dX10_readWant_19 k11 rfl (am_le rfl) (am_fit (by omega) (by decide) (by decide) (by decide)) (am_no1 (fun _ => ⟨_, rfl⟩)) (t_X4_refuse hl k11)) (fun σ12 h12 => ?_)
      exact ev_vret dX10_readWant_22 rfl (by decide) (by decide) rfl
def f_X4_word_b34 (S : am_S) (a0 : Nat) (x3 : Int32 × Int32) : Option ((Int32 × Int32) ⊕ (Int32)) :=
  (if x3.2 < (S.1 a0 3) then (if x3.2 < (S.1 a0 1) then (if x3.1 = (-1) then some (.inr x3.1) else ((am_rd S.2 a0 0 2).bind (fun q7 => ((am_ld S.1 q7 x3.2).bind (fun v8 => ((if v8 = 97 then some (x3.1 * 2) else ((am_rd S.2 a0 0 2).bind (fun q10 => ((am_ld S.1 q10 x3.2).bind (fun v11 => (if v11 = 98 then some ((x3.1 * 2) + 1) else some ((-1) : Int32))))))).bind (fun t9 => some (.inl (t9, (x3.2 + 1)))))))))) else some (.inr x3.1)) else some (.inr x3.1))
def f_X4_word (S : am_S) (p0 : Nat) : Option (Int32 × (Nat → Nat → Int32)) :=
  ((if (S.1 p0 4) = 97 then (if 8 < ((S.1 p0 3) - (S.1 p0 2)) then some ((-1) : Int32) else some (1 : Int32)) else some ((-1) : Int32)).bind (fun t1 => ((am_loop (f_X4_word_b34 S p0) am_fuel (t1, (S.1 p0 2))).bind (fun t3 => (if (S.1 p0 5) = (-1) then (if t3 = (-1) then ((f_X4_refuse S p0).bind (fun σ26 => some ((-1), σ26))) else ((f_X4_step S p0).bind (fun σ25 => some (t3, σ25)))) else ((f_X4_refuse S p0).bind (fun σ23 => some ((-1), σ23))))))))
set_option maxRecDepth 20000 in
theorem t_X4_word {E : am_E} {l : Launch} (hl : l.stackTraces = false) {S : am_S} {p0 : Nat} (kp0 : am_kd p0 = 104) : am_M E l yX4_word (.code yX4_word cX4_word 3 (some .int)) 2 0 0 [.ref p0] S ((f_X4_word S p0).map (fun (x : Int32 × (Nat → Nat → Int32)) => ((.inl (some (.int x.1)), (x.2, S.2)) : am_R))) := by
  refine am_M_of (w := fun (x : Int32 × (Nat → Nat → Int32)) => ((.inl (some (.int x.1)), (x.2, S.2)) : am_R)) hl (by decide) (am_fc rfl am_fn) (Nat.le_of_ble_eq_true rfl) ?_
  show am_Ev E l (RX4, cX4_word, 3, (some .int), [], am_rm 2 0 0) (fun b a s x => am_Z E 0 0 b a s ((fun (x : Int32 × (Nat → Nat → Int32)) => ((.inl (some (.int x.1)), (x.2, S.2)) : am_R)) x)) 0 0 0 [some (.ref p0), none, none] [] S (f_X4_word S p0)
  unfold f_X4_word
  refine ev_aload_n dX4_word_0 rfl ?_
  refine ev_get fk_X4_41 dX4_word_1 kp0 (am_fvI (by decide)) ?_
  refine ev_bipush (v := 97) dX4_word_4 (by decide) ?_
  refine ev_reg (cs' := 0) (sl' := 0) 28 (fun t1 : Int32 => [some (.ref p0), none, none]) (fun t1 => [.int t1]) (fun t1 => S) (fun hJ1 => ?_) (fun t1 => ?_)
  · refine ev_eq am_ib ?_
    refine ev_icmp_ne (tgt := 27) dX4_word_6 (by decide) (fun c1 => ?_) (fun c1 => ?_)
    · refine ev_iconst (v := (-1)) dX4_word_27 (by decide) ?_
      exact ev_leaf (am_wk (am_wf (am_wf am_wn))) (hJ1 ((-1) : Int32))
    · refine ev_aload_n dX4_word_9 rfl ?_
      refine ev_get fk_X4_25 dX4_word_10 kp0 (am_fvI (by decide)) ?_
      refine ev_aload_n dX4_word_13 rfl ?_
      refine ev_get fk_X4_34 dX4_word_14 kp0 (am_fvI (by decide)) ?_
      refine ev_isub dX4_word_17 ?_
      refine ev_bipush (v := 8) dX4_word_18 (by decide) ?_
      refine ev_eq am_ib ?_
      refine ev_icmp_gt (tgt := 27) dX4_word_20 (by decide) (fun c2 => ?_) (fun c2 => ?_)
      · refine ev_iconst (v := (-1)) dX4_word_27 (by decide) ?_
        exact ev_leaf (am_wk (am_wf (am_wf am_wn))) (hJ1 ((-1) : Int32))
      · refine ev_iconst (v := 1) dX4_word_23 (by decide) ?_
        refine ev_goto (tgt := 28) dX4_word_24 (by decide) ?_
        exact ev_leaf (am_wk (am_wf (am_wf am_wn))) (hJ1 (1 : Int32))
  · refine ev_istore_n dX4_word_28 (am_lt rfl) ?_
    refine ev_aload_n dX4_word_29 rfl ?_
    refine ev_get fk_X4_34 dX4_word_30 kp0 (am_fvI (by decide)) ?_
    refine ev_istore_n dX4_word_33 (am_lt rfl) ?_
    refine ev_weak (am_wk (am_wk (am_wk am_wn))) (ev_loop 34 99 (fun x3 : Int32 × Int32 => [some (.ref p0), some (.int x3.1), some (.int x3.2)]) (fun t3 : Int32 => [some (.ref p0), some (.int t3), none]) (fun x3 => S) (fun t3 => S) (fun x3 G3 hB3 hE3 => ?_) (fun t3 => ?_) am_fuel (t1, (S.1 p0 2)))
    · unfold f_X4_word_b34
      refine ev_iload_n dX4_word_34 rfl ?_
      refine ev_aload_n dX4_word_35 rfl ?_
      refine ev_get fk_X4_25 dX4_word_36 kp0 (am_fvI (by decide)) ?_
      refine ev_eq am_ib ?_
      refine ev_icmp_ge (tgt := 99) dX4_word_39 (by decide) (fun c13 => ?_) (fun c13 => ?_)
      · exact ev_leaf (am_wk (am_wk (am_wf am_wn))) (hE3 x3.1)
      · refine ev_iload_n dX4_word_42 rfl ?_
        refine ev_aload_n dX4_word_43 rfl ?_
        refine ev_get fk_X4_21 dX4_word_44 kp0 (am_fvI (by decide)) ?_
        refine ev_eq am_ib ?_
        refine ev_icmp_ge (tgt := 99) dX4_word_47 (by decide) (fun c14 => ?_) (fun c14 => ?_)
        · exact ev_leaf (am_wk (am_wk (am_wf am_wn))) (hE3 x3.1)
        · refine ev_iload_n dX4_word_50 rfl ?_
          refine ev_iconst (v := (-1)) dX4_word_51 (by decide) ?_
          refine ev_eq am_ib ?_
          refine ev_icmp_eq (tgt := 99) dX4_word_52 (by decide) (fun c15 => ?_) (fun c15 => ?_)
          · exact ev_leaf (am_wk (am_wk (am_wf am_wn))) (hE3 x3.1)
          · refine ev_aload_n dX4_word_55 rfl ?_
            refine ev_eq (Option.bind_assoc _ _ _) ?_
            refine ev_getR fk_X4_9 (by decide) dX4_word_56 kp0 (fun q16 k16 r16 => ?_)
            refine ev_iload_n dX4_word_59 rfl ?_
            refine ev_eq (Option.bind_assoc _ _ _) ?_
            refine ev_bald dX4_word_60 k16 (fun v17 h17 => ?_)
            refine ev_bipush (v := 97) dX4_word_61 (by decide) ?_
            refine ev_eq (Option.bind_assoc _ _ _) ?_
            refine ev_reg (cs' := 0) (sl' := 0) 92 (fun t18 : Int32 => [some (.ref p0), none, some (.int x3.2)]) (fun t18 => [.int t18]) (fun t18 => S) (fun hJ18 => ?_) (fun t18 => ?_)
            · refine ev_eq am_ib ?_
              refine ev_icmp_ne (tgt := 72) dX4_word_63 (by decide) (fun c18 => ?_) (fun c18 => ?_)
              · refine ev_aload_n dX4_word_72 rfl ?_
                refine ev_eq (Option.bind_assoc _ _ _) ?_
                refine ev_getR fk_X4_9 (by decide) dX4_word_73 kp0 (fun q19 k19 r19 => ?_)
                refine ev_iload_n dX4_word_76 rfl ?_
                refine ev_eq (Option.bind_assoc _ _ _) ?_
                refine ev_bald dX4_word_77 k19 (fun v20 h20 => ?_)
                refine ev_bipush (v := 98) dX4_word_78 (by decide) ?_
                refine ev_eq am_ib ?_
                refine ev_icmp_ne (tgt := 91) dX4_word_80 (by decide) (fun c21 => ?_) (fun c21 => ?_)
                · refine ev_iconst (v := (-1)) dX4_word_91 (by decide) ?_
                  exact ev_leaf (am_wk (am_wf (am_wk am_wn))) (hJ18 ((-1) : Int32))
                · refine ev_iload_n dX4_word_83 rfl ?_
                  refine ev_iconst (v := 2) dX4_word_84 (by decide) ?_
                  refine ev_imul dX4_word_85 ?_
                  refine ev_iconst (v := 1) dX4_word_86 (by decide) ?_
                  refine ev_iadd dX4_word_87 ?_
                  refine ev_goto (tgt := 92) dX4_word_88 (by decide) ?_
                  exact ev_leaf (am_wk (am_wf (am_wk am_wn))) (hJ18 ((x3.1 * 2) + 1))
              · refine ev_iload_n dX4_word_66 rfl ?_
                refine ev_iconst (v := 2) dX4_word_67 (by decide) ?_
                refine ev_imul dX4_word_68 ?_
                refine ev_goto (tgt := 92) dX4_word_69 (by decide) ?_
                exact ev_leaf (am_wk (am_wf (am_wk am_wn))) (hJ18 (x3.1 * 2))
            · refine ev_istore_n dX4_word_92 (am_lt rfl) ?_
              refine ev_iinc (v := (x3.2 + 1)) dX4_word_93 (am_lt rfl) rfl rfl ?_
              refine ev_goto (tgt := 34) dX4_word_96 (by decide) ?_
              exact ev_leaf (am_wk (am_wk (am_wk am_wn))) (hB3 (t18, (x3.2 + 1)))
    · refine ev_aload_n dX4_word_99 rfl ?_
      refine ev_get fk_X4_28 dX4_word_100 kp0 (am_fvI (by decide)) ?_
      refine ev_iconst (v := (-1)) dX4_word_103 (by decide) ?_
      refine ev_icmp_ne (tgt := 112) dX4_word_104 (by decide) (fun c22 => ?_) (fun c22 => ?_)
      · refine ev_aload_n dX4_word_112 rfl ?_
        refine ev_callWV (am_callV (as := []) (o := p0) (st := []) cv_X4_50 dX4_word_113 kp0 rfl (am_le rfl) (am_fit (by omega) (by decide) (by decide) (by decide)) (t_X4_refuse hl kp0)) (fun σ23 h23 => ?_)
        refine ev_iconst (v := (-1)) dX4_word_116 (by decide) ?_
        exact ev_iret dX4_word_117 rfl rfl (by decide) (by decide) rfl
      · refine ev_iload_n dX4_word_107 rfl ?_
        refine ev_iconst (v := (-1)) dX4_word_108 (by decide) ?_
        refine ev_icmp_ne (tgt := 118) dX4_word_109 (by decide) (fun c24 => ?_) (fun c24 => ?_)
        · refine ev_aload_n dX4_word_118 rfl ?_
          refine ev_callWV (am_callV (as := []) (o := p0) (st := []) cv_X4_31 dX4_word_119 kp0 rfl (am_le rfl) (am_fit (by omega) (by decide) (by decide) (by decide)) (t_X4_step hl kp0)) (fun σ25 h25 => ?_)
          refine ev_iload_n dX4_word_122 rfl ?_
          exact ev_iret dX4_word_123 rfl rfl (by decide) (by decide) rfl
        · refine ev_aload_n dX4_word_112 rfl ?_
          refine ev_callWV (am_callV (as := []) (o := p0) (st := []) cv_X4_50 dX4_word_113 kp0 rfl (am_le rfl) (am_fit (by omega) (by decide) (by decide) (by decide)) (t_X4_refuse hl kp0)) (fun σ26 h26 => ?_)
          refine ev_iconst (v := (-1)) dX4_word_116 (by decide) ?_
          exact ev_iret dX4_word_117 rfl rfl (by decide) (by decide) rfl
def f_X9_hasHouse (S : am_S) (p0 : Nat) (p1 : Int32) : Option (Int32) :=
  (if p1 < 0 then some 0 else (if p1 < (S.1 p0 0) then (if p1 < 8 then some 1 else some 0) else some 0))
set_option maxRecDepth 20000 in
theorem t_X9_hasHouse {E : am_E} {l : Launch} (hl : l.stackTraces = false) {S : am_S} {p0 : Nat} {p1 : Int32} (kp0 : am_kd p0 = 109) : am_M E l yX9_hasHouse (.code yX9_hasHouse cX9_hasHouse 2 (some .boolean)) 0 0 0 [.ref p0, .int p1] S ((f_X9_hasHouse S p0 p1).map (fun (v : Int32) => ((.inl (some (.int v)), S) : am_R))) := by
  refine am_M_of (w := fun (v : Int32) => ((.inl (some (.int v)), S) : am_R)) hl (by decide) (am_fc rfl (am_fc rfl am_fn)) (Nat.le_of_ble_eq_true rfl) ?_
  show am_Ev E l (RX9, cX9_hasHouse, 2, (some .boolean), [], am_rm 0 0 0) (fun b a s x => am_Z E 0 0 b a s ((fun (v : Int32) => ((.inl (some (.int v)), S) : am_R)) x)) 0 0 0 [some (.ref p0), some (.int p1)] [] S (f_X9_hasHouse S p0 p1)
  unfold f_X9_hasHouse
  refine ev_iload_n dX9_hasHouse_0 rfl ?_
  refine ev_if_lt (tgt := 22) dX9_hasHouse_1 (by decide) (fun c1 => ?_) (fun c1 => ?_)
  · refine ev_iconst (v := 0) dX9_hasHouse_22 (by decide) ?_
    exact ev_iret dX9_hasHouse_23 rfl (by decide) (by decide) (by decide) rfl
  · refine ev_iload_n dX9_hasHouse_4 rfl ?_
    refine ev_aload_n dX9_hasHouse_5 rfl ?_
    refine ev_get fk_X9_50 dX9_hasHouse_6 kp0 (am_fvI (by decide)) ?_
    refine ev_icmp_ge (tgt := 22) dX9_hasHouse_9 (by decide) (fun c2 => ?_) (fun c2 => ?_)
    · refine ev_iconst (v := 0) dX9_hasHouse_22 (by decide) ?_
      exact ev_iret dX9_hasHouse_23 rfl (by decide) (by decide) (by decide) rfl
    · refine ev_iload_n dX9_hasHouse_12 rfl ?_
      refine ev_bipush (v := 8) dX9_hasHouse_13 (by decide) ?_
      refine ev_icmp_ge (tgt := 22) dX9_hasHouse_15 (by decide) (fun c3 => ?_) (fun c3 => ?_)
      · refine ev_iconst (v := 0) dX9_hasHouse_22 (by decide) ?_
        exact ev_iret dX9_hasHouse_23 rfl (by decide) (by decide) (by decide) rfl
      · refine ev_iconst (v := 1) dX9_hasHouse_18 (by decide) ?_
        refine ev_goto (tgt := 23) dX9_hasHouse_19 (by decide) ?_
        exact ev_iret dX9_hasHouse_23 rfl (by decide) (by decide) (by decide) rfl
def f_X9_hasWant (S : am_S) (p0 : Nat) (p1 : Int32) : Option (Int32) :=
  (if p1 < 0 then some 0 else (if p1 < (S.1 p0 1) then (if p1 < 10 then some 1 else some 0) else some 0))
set_option maxRecDepth 20000 in
theorem t_X9_hasWant {E : am_E} {l : Launch} (hl : l.stackTraces = false) {S : am_S} {p0 : Nat} {p1 : Int32} (kp0 : am_kd p0 = 109) : am_M E l yX9_hasWant (.code yX9_hasWant cX9_hasWant 2 (some .boolean)) 0 0 0 [.ref p0, .int p1] S ((f_X9_hasWant S p0 p1).map (fun (v : Int32) => ((.inl (some (.int v)), S) : am_R))) := by
  refine am_M_of (w := fun (v : Int32) => ((.inl (some (.int v)), S) : am_R)) hl (by decide) (am_fc rfl (am_fc rfl am_fn)) (Nat.le_of_ble_eq_true rfl) ?_
  show am_Ev E l (RX9, cX9_hasWant, 2, (some .boolean), [], am_rm 0 0 0) (fun b a s x => am_Z E 0 0 b a s ((fun (v : Int32) => ((.inl (some (.int v)), S) : am_R)) x)) 0 0 0 [some (.ref p0), some (.int p1)] [] S (f_X9_hasWant S p0 p1)
  unfold f_X9_hasWant
  refine ev_iload_n dX9_hasWant_0 rfl ?_
  refine ev_if_lt (tgt := 22) dX9_hasWant_1 (by decide) (fun c1 => ?_) (fun c1 => ?_)
  · refine ev_iconst (v := 0) dX9_hasWant_22 (by decide) ?_
    exact ev_iret dX9_hasWant_23 rfl (by decide) (by decide) (by decide) rfl
  · refine ev_iload_n dX9_hasWant_4 rfl ?_
    refine ev_aload_n dX9_hasWant_5 rfl ?_
    refine ev_get fk_X9_54 dX9_hasWant_6 kp0 (am_fvI (by decide)) ?_
    refine ev_icmp_ge (tgt := 22) dX9_hasWant_9 (by decide) (fun c2 => ?_) (fun c2 => ?_)
    · refine ev_iconst (v := 0) dX9_hasWant_22 (by decide) ?_
      exact ev_iret dX9_hasWant_23 rfl (by decide) (by decide) (by decide) rfl
    · refine ev_iload_n dX9_hasWant_12 rfl ?_
      refine ev_bipush (v := 10) dX9_hasWant_13 (by decide) ?_
      refine ev_icmp_ge (tgt := 22) dX9_hasWant_15 (by decide) (fun c3 => ?_) (fun c3 => ?_)
      · refine ev_iconst (v := 0) dX9_hasWant_22 (by decide) ?_
        exact ev_iret dX9_hasWant_23 rfl (by decide) (by decide) (by decide) rfl
      · refine ev_iconst (v := 1) dX9_hasWant_18 (by decide) ?_
        refine ev_goto (tgt := 23) dX9_hasWant_19 (by decide) ?_
        exact ev_iret dX9_hasWant_23 rfl (by decide) (by decide) (by decide) rfl
def f_X9_setWord (S : am_S) (p0 : Nat) (p1 : Int32) (p2 : Int32) (p3 : Int32) : Option ((Nat → Nat → Int32)) :=
  ((f_X9_hasHouse S p0 p1).bind (fun v1 => (if v1 = 0 then some S.1 else ((f_X9_hasWant S p0 p2).bind (fun v3 => (if v3 = 0 then some S.1 else ((am_rd S.2 p0 12 1).bind (fun q5 => ((am_st S.1 q5 ((p1 * 10) + p2) p3).bind (fun σ6 => some σ6))))))))))
set_option maxRecDepth 20000 in
theorem t_X9_setWord {E : am_E} {l : Launch} (hl : l.stackTraces = false) {S : am_S} {p0 : Nat} {p1 : Int32} {p2 : Int32} {p3 : Int32} (kp0 : am_kd p0 = 109) : am_M E l yX9_setWord (.code yX9_setWord cX9_setWord 4 none) 1 0 0 [.ref p0, .int p1, .int p2, .int p3] S ((f_X9_setWord S p0 p1 p2 p3).map (fun (x : Nat → Nat → Int32) => ((.inl none, (x, S.2)) : am_R))) := by
  refine am_M_of (w := fun (x : Nat → Nat → Int32) => ((.inl none, (x, S.2)) : am_R)) hl (by decide) (am_fc rfl (am_fc rfl (am_fc rfl (am_fc rfl am_fn)))) (Nat.le_of_ble_eq_true rfl) ?_
  show am_Ev E l (RX9, cX9_setWord, 4, none, [], am_rm 1 0 0) (fun b a s x => am_Z E 0 0 b a s ((fun (x : Nat → Nat → Int32) => ((.inl none, (x, S.2)) : am_R)) x)) 0 0 0 [some (.ref p0), some (.int p1), some (.int p2), some (.int p3)] [] S (f_X9_setWord S p0 p1 p2 p3)
  unfold f_X9_setWord
  refine ev_aload_n dX9_setWord_0 rfl ?_
  refine ev_iload_n dX9_setWord_1 rfl ?_
  refine ev_callP (am_callV (as := [.int p1]) (o := p0) (st := []) cv_X9_86 dX9_setWord_2 kp0 rfl (am_le rfl) (am_fit (by omega) (by decide) (by decide) (by decide)) (t_X9_hasHouse hl kp0)) (fun v1 h1 => ?_)
  refine ev_if_eq (tgt := 28) dX9_setWord_5 (by decide) (fun c2 => ?_) (fun c2 => ?_)
  · exact ev_vret dX9_setWord_28 rfl (by decide) (by decide) rfl
  · refine ev_aload_n dX9_setWord_8 rfl ?_
    refine ev_iload_n dX9_setWord_9 rfl ?_
    refine ev_callP (am_callV (as := [.int p2]) (o := p0) (st := []) cv_X9_82 dX9_setWord_10 kp0 rfl (am_le rfl) (am_fit (by omega) (by decide) (by decide) (by decide)) (t_X9_hasWant hl kp0)) (fun v3 h3 => ?_)
    refine ev_if_eq (tgt := 28) dX9_setWord_13 (by decide) (fun c4 => ?_) (fun c4 => ?_)
    · exact ev_vret dX9_setWord_28 rfl (by decide) (by decide) rfl
    · refine ev_aload_n dX9_setWord_16 rfl ?_
      refine ev_getR fk_X9_30 (by decide) dX9_setWord_17 kp0 (fun q5 k5 r5 => ?_)
      refine ev_iload_n dX9_setWord_20 rfl ?_
      refine ev_bipush (v := 10) dX9_setWord_21 (by decide) ?_
      refine ev_imul dX9_setWord_23 ?_
      refine ev_iload_n dX9_setWord_24 rfl ?_
      refine ev_iadd dX9_setWord_25 ?_
      refine ev_iload_n dX9_setWord_26 rfl ?_
      refine ev_iast dX9_setWord_27 k5 (fun σ6 h6 => ?_)
      exact ev_vret dX9_setWord_28 rfl (by decide) (by decide) rfl
def f_X10_readCode (S : am_S) (p0 : Nat) (p1 : Nat) (p2 : Int32) : Option ((Nat → Nat → Int32)) :=
  ((am_rd S.2 p0 0 104).bind (fun q1 => ((f_X4_number S q1 0 ((S.1 p1 0) - 1)).bind (fun y2 => ((am_rd S.2 p0 0 104).bind (fun q3 => ((f_X4_number (y2.2, S.2) q3 0 ((y2.2 p1 1) - 1)).bind (fun y4 => ((if p2 = 0 then some (((-1) : Int32), y4.2) else ((am_rd S.2 p0 0 104).bind (fun q6 => ((f_X4_word (y4.2, S.2) q6).bind (fun y7 => some (y7.1, y7.2)))))).bind (fun t5 => ((f_X9_setWord (t5.2, S.2) p1 y2.1 y4.1 t5.1).bind (fun σ8 => some σ8))))))))))))
set_option maxRecDepth 20000 in
theorem t_X10_readCode {E : am_E} {l : Launch} (hl : l.stackTraces = false) {S : am_S} {p0 : Nat} {p1 : Nat} {p2 : Int32} (kp0 : am_kd p0 = 110) (kp1 : am_kd p1 = 109) : am_M E l yX10_readCode (.code yX10_readCode cX10_readCode 6 none) 3 0 0 [.ref p0, .ref p1, .int p2] S ((f_X10_readCode S p0 p1 p2).map (fun (x : Nat → Nat → Int32) => ((.inl none, (x, S.2)) : am_R))) := by
  refine am_M_of (w := fun (x : Nat → Nat → Int32) => ((.inl none, (x, S.2)) : am_R)) hl (by decide) (am_fc rfl (am_fc rfl (am_fc rfl am_fn))) (Nat.le_of_ble_eq_true rfl) ?_
  show am_Ev E l (RX10, cX10_readCode, 6, none, [], am_rm 3 0 0) (fun b a s x => am_Z E 0 0 b a s ((fun (x : Nat → Nat → Int32) => ((.inl none, (x, S.2)) : am_R)) x)) 0 0 0 [some (.ref p0), some (.ref p1), some (.int p2), none, none, none] [] S (f_X10_readCode S p0 p1 p2)
  unfold f_X10_readCode
  refine ev_aload_n dX10_readCode_0 rfl ?_
  refine ev_getR fk_X10_12 (by decide) dX10_readCode_1 kp0 (fun q1 k1 r1 => ?_)
  refine ev_iconst (v := 0) dX10_readCode_4 (by decide) ?_
  refine ev_aload_n dX10_readCode_5 rfl ?_
  refine ev_getN fk_X10_70 dX10_readCode_6 kp1 (am_fvI (by decide)) ?_
  refine ev_iconst (v := 1) dX10_readCode_9 (by decide) ?_
  refine ev_isub dX10_readCode_10 ?_
  refine ev_callWI (am_callVN (as := [.int 0, .int ((S.1 p1 0) - 1)]) (o := q1) (st := []) cv_X10_82 dX10_readCode_11 k1 rfl (am_le rfl) (am_fit (by omega) (by decide) (by decide) (by decide)) (am_no1 (fun _ => ⟨_, rfl⟩)) (t_X4_number hl k1)) (fun y2 h2 => ?_)
  refine ev_istore_n dX10_readCode_14 (am_lt rfl) ?_
  refine ev_aload_n dX10_readCode_15 rfl ?_
  refine ev_getR fk_X10_12 (by decide) dX10_readCode_16 kp0 (fun q3 k3 r3 => ?_)
  refine ev_iconst (v := 0) dX10_readCode_19 (by decide) ?_
  refine ev_aload_n dX10_readCode_20 rfl ?_
  refine ev_getN fk_X10_99 dX10_readCode_21 kp1 (am_fvI (by decide)) ?_
  refine ev_iconst (v := 1) dX10_readCode_24 (by decide) ?_
  refine ev_isub dX10_readCode_25 ?_
  refine ev_callWI (am_callVN (as := [.int 0, .int ((y2.2 p1 1) - 1)]) (o := q3) (st := []) cv_X10_82 dX10_readCode_26 k3 rfl (am_le rfl) (am_fit (by omega) (by decide) (by decide) (by decide)) (am_no1 (fun _ => ⟨_, rfl⟩)) (t_X4_number hl k3)) (fun y4 h4 => ?_)
  refine ev_istore dX10_readCode_29 (am_lt rfl) ?_
  refine ev_iload_n dX10_readCode_31 rfl ?_
  refine ev_reg (cs' := 0) (sl' := 0) 46 (fun t5 : Int32 × (Nat → Nat → Int32) => [none, some (.ref p1), none, some (.int y2.1), some (.int y4.1), none]) (fun t5 => [.int t5.1]) (fun t5 => (t5.2, S.2)) (fun hJ5 => ?_) (fun t5 => ?_)
  · refine ev_eq am_ib ?_
    refine ev_if_eq (tgt := 45) dX10_readCode_32 (by decide) (fun c5 => ?_) (fun c5 => ?_)
    · refine ev_iconst (v := (-1)) dX10_readCode_45 (by decide) ?_
      exact ev_leaf (am_wf (am_wk (am_wf (am_wk (am_wk (am_wf am_wn)))))) (hJ5 (((-1) : Int32), y4.2))
    · refine ev_aload_n dX10_readCode_35 rfl ?_
      refine ev_eq (Option.bind_assoc _ _ _) ?_
      refine ev_getR fk_X10_12 (by decide) dX10_readCode_36 kp0 (fun q6 k6 r6 => ?_)
      refine ev_eq (Option.bind_assoc _ _ _) ?_
      refine ev_callWI (am_callVN (as := []) (o := q6) (st := []) cv_X10_105 dX10_readCode_39 k6 rfl (am_le rfl) (am_fit (by omega) (by decide) (by decide) (by decide)) (am_no1 (fun _ => ⟨_, rfl⟩)) (t_X4_word hl k6)) (fun y7 h7 => ?_)
      refine ev_goto (tgt := 46) dX10_readCode_42 (by decide) ?_
      exact ev_leaf (am_wf (am_wk (am_wf (am_wk (am_wk (am_wf am_wn)))))) (hJ5 (y7.1, y7.2))
  · refine ev_istore dX10_readCode_46 (am_lt rfl) ?_
    refine ev_aload_n dX10_readCode_48 rfl ?_
    refine ev_iload_n dX10_readCode_49 rfl ?_
    refine ev_iload dX10_readCode_50 rfl ?_
    refine ev_iload dX10_readCode_52 rfl ?_
    refine ev_callWV (am_callVN (as := [.int y2.1, .int y4.1, .int t5.1]) (o := p1) (st := []) cv_X10_109 dX10_readCode_54 kp1 rfl (am_le rfl) (am_fit (by omega) (by decide) (by decide) (by decide)) (am_no1 (fun _ => ⟨_, rfl⟩)) (t_X9_setWord hl kp1)) (fun σ8 h8 => ?_)
    exact ev_vret dX10_readCode_57 rfl (by decide) (by decide) rfl
def f_X10_readWind (S : am_S) (p0 : Nat) (p1 : Nat) (p2 : Int32) : Option ((Nat → Nat → Int32)) :=
  ((am_rd S.2 p0 0 104).bind (fun q1 => ((f_X4_number S q1 0 9).bind (fun y2 => ((am_rd S.2 p0 0 104).bind (fun q3 => ((f_X4_number ((am_u2 y2.2 p1 4 (p2 * y2.1)), S.2) q3 0 9).bind (fun y4 => some (am_u2 y4.2 p1 5 (p2 * y4.1))))))))))
set_option maxRecDepth 20000 in
theorem t_X10_readWind {E : am_E} {l : Launch} (hl : l.stackTraces = false) {S : am_S} {p0 : Nat} {p1 : Nat} {p2 : Int32} (kp0 : am_kd p0 = 110) (kp1 : am_kd p1 = 109) : am_M E l yX10_readWind (.code yX10_readWind cX10_readWind 3 none) 3 0 0 [.ref p0, .ref p1, .int p2] S ((f_X10_readWind S p0 p1 p2).map (fun (x : Nat → Nat → Int32) => ((.inl none, (x, S.2)) : am_R))) := by
  refine am_M_of (w := fun (x : Nat → Nat → Int32) => ((.inl none, (x, S.2)) : am_R)) hl (by decide) (am_fc rfl (am_fc rfl (am_fc rfl am_fn))) (Nat.le_of_ble_eq_true rfl) ?_
  show am_Ev E l (RX10, cX10_readWind, 3, none, [], am_rm 3 0 0) (fun b a s x => am_Z E 0 0 b a s ((fun (x : Nat → Nat → Int32) => ((.inl none, (x, S.2)) : am_R)) x)) 0 0 0 [some (.ref p0), some (.ref p1), some (.int p2)] [] S (f_X10_readWind S p0 p1 p2)
  unfold f_X10_readWind
  refine ev_aload_n dX10_readWind_0 rfl ?_
  refine ev_iload_n dX10_readWind_1 rfl ?_
  refine ev_aload_n dX10_readWind_2 rfl ?_
  refine ev_getR fk_X10_12 (by decide) dX10_readWind_3 kp0 (fun q1 k1 r1 => ?_)
  refine ev_iconst (v := 0) dX10_readWind_6 (by decide) ?_
  refine ev_bipush (v := 9) dX10_readWind_7 (by decide) ?_
  refine ev_callWI (am_callVN (as := [.int 0, .int 9]) (o := q1) (st := [.int p2, .ref p1]) cv_X10_82 dX10_readWind_9 k1 rfl (am_le rfl) (am_fit (by omega) (by decide) (by decide) (by decide)) (am_no1 (fun _ => ⟨_, rfl⟩)) (t_X4_number hl k1)) (fun y2 h2 => ?_)
  refine ev_imul dX10_readWind_12 ?_
  refine ev_putIN fk_X10_113 tyX9 tyX9_ok nmX9 rfl (by decide +kernel) (by decide) dX10_readWind_13 kp1 ?_
  refine ev_aload_n dX10_readWind_16 rfl ?_
  refine ev_iload_n dX10_readWind_17 rfl ?_
  refine ev_aload_n dX10_readWind_18 rfl ?_
  refine ev_getR fk_X10_12 (by decide) dX10_readWind_19 kp0 (fun q3 k3 r3 => ?_)
  refine ev_iconst (v := 0) dX10_readWind_22 (by decide) ?_
  refine ev_bipush (v := 9) dX10_readWind_23 (by decide) ?_
  refine ev_callWI (am_callVN (as := [.int 0, .int 9]) (o := q3) (st := [.int p2, .ref p1]) cv_X10_82 dX10_readWind_25 k3 rfl (am_le rfl) (am_fit (by omega) (by decide) (by decide) (by decide)) (am_no1 (fun _ => ⟨_, rfl⟩)) (t_X4_number hl k3)) (fun y4 h4 => ?_)
  refine ev_imul dX10_readWind_28 ?_
  refine ev_putIN fk_X10_116 tyX9 tyX9_ok nmX9 rfl (by decide +kernel) (by decide) dX10_readWind_29 kp1 ?_
  exact ev_vret dX10_readWind_32 rfl (by decide) (by decide) rfl
def f_X10_readLine (S : am_S) (p0 : Nat) (p1 : Nat) : Option ((Nat → Nat → Int32)) :=
  ((am_rd S.2 p0 0 104).bind (fun q1 => ((f_X4_isAt S q1 (1000 + 1)).bind (fun v3 => (if v3 = 0 then ((am_rd S.2 p0 0 104).bind (fun q5 => ((f_X4_isAt S q5 (1000 + 3)).bind (fun v7 => (if v7 = 0 then ((am_rd S.2 p0 0 104).bind (fun q9 => ((f_X4_took S q9 (1000 + 4)).bind (fun y11 => (if y11.1 = 0 then ((am_rd S.2 p0 0 104).bind (fun q13 => ((f_X4_took (y11.2, S.2) q13 (1000 + 5)).bind (fun y15 => (if y15.1 = 0 then ((am_rd S.2 p0 0 104).bind (fun q17 => ((f_X4_took (y15.2, S.2) q17 (1000 + 6)).bind (fun y19 => (if y19.1 = 0 then ((am_rd S.2 p0 0 104).bind (fun q21 => ((f_X4_took (y19.2, S.2) q21 (1000 + 7)).bind (fun y23 => (if y23.1 = 0 then ((am_rd S.2 p0 0 104).bind (fun q25 => ((f_X4_refuse (y23.2, S.2) q25).bind (fun σ26 => some σ26)))) else ((f_X10_readWind (y23.2, S.2) p0 p1 (-1)).bind (fun σ27 => some σ27))))))) else ((f_X10_readWind (y19.2, S.2) p0 p1 1).bind (fun σ28 => some σ28))))))) else ((f_X10_readCode (y15.2, S.2) p0 p1 0).bind (fun σ29 => some σ29))))))) else ((f_X10_readCode (y11.2, S.2) p0 p1 1).bind (fun σ30 => some σ30))))))) else ((f_X10_readWant S p0 p1).bind (fun σ31 => some σ31))))))) else ((f_X10_readHouse S p0 p1).bind (fun σ32 => some σ32)))))))
set_option maxRecDepth 20000 in
theorem t_X10_readLine {E : am_E} {l : Launch} (hl : l.stackTraces = false) {S : am_S} {p0 : Nat} {p1 : Nat} (kp0 : am_kd p0 = 110) (kp1 : am_kd p1 = 109) : am_M E l yX10_readLine (.code yX10_readLine cX10_readLine 2 none) 8 0 0 [.ref p0, .ref p1] S ((f_X10_readLine S p0 p1).map (fun (x : Nat → Nat → Int32) => ((.inl none, (x, S.2)) : am_R))) := by
  refine am_M_of (w := fun (x : Nat → Nat → Int32) => ((.inl none, (x, S.2)) : am_R)) hl (by decide) (am_fc rfl (am_fc rfl am_fn)) (Nat.le_of_ble_eq_true rfl) ?_
  show am_Ev E l (RX10, cX10_readLine, 2, none, [], am_rm 8 0 0) (fun b a s x => am_Z E 0 0 b a s ((fun (x : Nat → Nat → Int32) => ((.inl none, (x, S.2)) : am_R)) x)) 0 0 0 [some (.ref p0), some (.ref p1)] [] S (f_X10_readLine S p0 p1)
  unfold f_X10_readLine
  refine ev_aload_n dX10_readLine_0 rfl ?_
  refine ev_getR fk_X10_12 (by decide) dX10_readLine_1 kp0 (fun q1 k1 r1 => ?_)
  refine ev_ldcS (k := 1) (tx := "house") dX10_readLine_4 (show (RX10, 34, "house", 1) ∈ am_sts by decide +kernel) ?_
  refine ev_callP (am_callVN (as := [.ref (1000 + 1)]) (o := q1) (st := []) cv_X10_36 dX10_readLine_6 k1 rfl (am_le rfl) (am_fit (by omega) (by decide) (by decide) (by decide)) (am_no1 (fun _ => ⟨_, rfl⟩)) (t_X4_isAt hl k1 (by decide))) (fun v3 h3 => ?_)
  refine ev_if_eq (tgt := 20) dX10_readLine_9 (by decide) (fun c4 => ?_) (fun c4 => ?_)
  · refine ev_aload_n dX10_readLine_20 rfl ?_
    refine ev_getR fk_X10_12 (by decide) dX10_readLine_21 kp0 (fun q5 k5 r5 => ?_)
    refine ev_ldcS (k := 3) (tx := "want") dX10_readLine_24 (show (RX10, 43, "want", 3) ∈ am_sts by decide +kernel) ?_
    refine ev_callP (am_callVN (as := [.ref (1000 + 3)]) (o := q5) (st := []) cv_X10_36 dX10_readLine_26 k5 rfl (am_le rfl) (am_fit (by omega) (by decide) (by decide) (by decide)) (am_no1 (fun _ => ⟨_, rfl⟩)) (t_X4_isAt hl k5 (by decide))) (fun v7 h7 => ?_)
    refine ev_if_eq (tgt := 40) dX10_readLine_29 (by decide) (fun c8 => ?_) (fun c8 => ?_)
    · refine ev_aload_n dX10_readLine_40 rfl ?_
      refine ev_getR fk_X10_12 (by decide) dX10_readLine_41 kp0 (fun q9 k9 r9 => ?_)
      refine ev_ldcS (k := 4) (tx := "code") dX10_readLine_44 (show (RX10, 48, "code", 4) ∈ am_sts by decide +kernel) ?_
      refine ev_callWI (am_callVN (as := [.ref (1000 + 4)]) (o := q9) (st := []) cv_X10_50 dX10_readLine_46 k9 rfl (am_le rfl) (am_fit (by omega) (by decide) (by decide) (by decide)) (am_no1 (fun _ => ⟨_, rfl⟩)) (t_X4_took hl k9 (by decide))) (fun y11 h11 => ?_)
      refine ev_if_eq (tgt := 61) dX10_readLine_49 (by decide) (fun c12 => ?_) (fun c12 => ?_)
      · refine ev_aload_n dX10_readLine_61 rfl ?_
        refine ev_getR fk_X10_12 (by decide) dX10_readLine_62 kp0 (fun q13 k13 r13 => ?_)
        refine ev_ldcS (k := 5) (tx := "none") dX10_readLine_65 (show (RX10, 57, "none", 5) ∈ am_sts by decide +kernel) ?_
        refine ev_callWI (am_callVN (as := [.ref (1000 + 5)]) (o := q13) (st := []) cv_X10_50 dX10_readLine_67 k13 rfl (am_le rfl) (am_fit (by omega) (by decide) (by decide) (by decide)) (am_no1 (fun _ => ⟨_, rfl⟩)) (t_X4_took hl k13 (by decide))) (fun y15 h15 => ?_)
        refine ev_if_eq (tgt := 82) dX10_readLine_70 (by decide) (fun c16 => ?_) (fun c16 => ?_)
        · refine ev_aload_n dX10_readLine_82 rfl ?_
          refine ev_getR fk_X10_12 (by decide) dX10_readLine_83 kp0 (fun q17 k17 r17 => ?_)
          refine ev_ldcS (k := 6) (tx := "wind") dX10_readLine_86 (show (RX10, 59, "wind", 6) ∈ am_sts by decide +kernel) ?_
          refine ev_callWI (am_callVN (as := [.ref (1000 + 6)]) (o := q17) (st := []) cv_X10_50 dX10_readLine_88 k17 rfl (am_le rfl) (am_fit (by omega) (by decide) (by decide) (by decide)) (am_no1 (fun _ => ⟨_, rfl⟩)) (t_X4_took hl k17 (by decide))) (fun y19 h19 => ?_)
          refine ev_if_eq (tgt := 103) dX10_readLine_91 (by decide) (fun c20 => ?_) (fun c20 => ?_)
          · refine ev_aload_n dX10_readLine_103 rfl ?_
            refine ev_getR fk_X10_12 (by decide) dX10_readLine_104 kp0 (fun q21 k21 r21 => ?_)
            refine ev_ldcS (k := 7) (tx := "gale") dX10_readLine_107 (show (RX10, 65, "gale", 7) ∈ am_sts by decide +kernel) ?_
            refine ev_callWI (am_callVN (as := [.ref (1000 + 7)]) (o := q21) (st := []) cv_X10_50 dX10_readLine_109 k21 rfl (am_le rfl) (am_fit (by omega) (by decide) (by decide) (by decide)) (am_no1 (fun _ => ⟨_, rfl⟩)) (t_X4_took hl k21 (by decide))) (fun y23 h23 => ?_)
            refine ev_if_eq (tgt := 124) dX10_readLine_112 (by decide) (fun c24 => ?_) (fun c24 => ?_)
            · refine ev_aload_n dX10_readLine_124 rfl ?_
              refine ev_getR fk_X10_12 (by decide) dX10_readLine_125 kp0 (fun q25 k25 r25 => ?_)
              refine ev_callWV (am_callVN (as := []) (o := q25) (st := []) cv_X10_67 dX10_readLine_128 k25 rfl (am_le rfl) (am_fit (by omega) (by decide) (by decide) (by decide)) (am_no1 (fun _ => ⟨_, rfl⟩)) (t_X4_refuse hl k25)) (fun σ26 h26 => ?_)
              exact ev_vret dX10_readLine_131 rfl (by decide) (by decide) rfl
            · refine ev_aload_n dX10_readLine_115 rfl ?_
              refine ev_aload_n dX10_readLine_116 rfl ?_
              refine ev_iconst (v := (-1)) dX10_readLine_117 (by decide) ?_
              refine ev_callWV (am_callV (as := [.ref p1, .int (-1)]) (o := p0) (st := []) cv_X10_61 dX10_readLine_118 kp0 rfl (am_le rfl) (am_fit (by omega) (by decide) (by decide) (by decide)) (t_X10_readWind hl kp0 kp1)) (fun σ27 h27 => ?_)
              refine ev_goto (tgt := 131) dX10_readLine_121 (by decide) ?_
              exact ev_vret dX10_readLine_131 rfl (by decide) (by decide) rfl
          · refine ev_aload_n dX10_readLine_94 rfl ?_
            refine ev_aload_n dX10_readLine_95 rfl ?_
            refine ev_iconst (v := 1) dX10_readLine_96 (by decide) ?_
            refine ev_callWV (am_callV (as := [.ref p1, .int 1]) (o := p0) (st := []) cv_X10_61 dX10_readLine_97 kp0 rfl (am_le rfl) (am_fit (by omega) (by decide) (by decide) (by decide)) (t_X10_readWind hl kp0 kp1)) (fun σ28 h28 => ?_)
            refine ev_goto (tgt := 131) dX10_readLine_100 (by decide) ?_
            exact ev_vret dX10_readLine_131 rfl (by decide) (by decide) rfl
        · refine ev_aload_n dX10_readLine_73 rfl ?_
          refine ev_aload_n dX10_readLine_74 rfl ?_
          refine ev_iconst (v := 0) dX10_readLine_75 (by decide) ?_
          refine ev_callWV (am_callV (as := [.ref p1, .int 0]) (o := p0) (st := []) cv_X10_53 dX10_readLine_76 kp0 rfl (am_le rfl) (am_fit (by omega) (by decide) (by decide) (by decide)) (t_X10_readCode hl kp0 kp1)) (fun σ29 h29 => ?_)
          refine ev_goto (tgt := 131) dX10_readLine_79 (by decide) ?_
          exact ev_vret dX10_readLine_131 rfl (by decide) (by decide) rfl
      · refine ev_aload_n dX10_readLine_52 rfl ?_
        refine ev_aload_n dX10_readLine_53 rfl ?_
        refine ev_iconst (v := 1) dX10_readLine_54 (by decide) ?_
        refine ev_callWV (am_callV (as := [.ref p1, .int 1]) (o := p0) (st := []) cv_X10_53 dX10_readLine_55 kp0 rfl (am_le rfl) (am_fit (by omega) (by decide) (by decide) (by decide)) (t_X10_readCode hl kp0 kp1)) (fun σ30 h30 => ?_)
        refine ev_goto (tgt := 131) dX10_readLine_58 (by decide) ?_
        exact ev_vret dX10_readLine_131 rfl (by decide) (by decide) rfl
    · refine ev_aload_n dX10_readLine_32 rfl ?_
      refine ev_aload_n dX10_readLine_33 rfl ?_
      refine ev_callWV (am_callV (as := [.ref p1]) (o := p0) (st := []) cv_X10_45 dX10_readLine_34 kp0 rfl (am_le rfl) (am_fit (by omega) (by decide) (by decide) (by decide)) (t_X10_readWant hl kp0 kp1)) (fun σ31 h31 => ?_)
      refine ev_goto (tgt := 131) dX10_readLine_37 (by decide) ?_
      exact ev_vret dX10_readLine_131 rfl (by decide) (by decide) rfl
  · refine ev_aload_n dX10_readLine_12 rfl ?_
    refine ev_aload_n dX10_readLine_13 rfl ?_
    refine ev_callWV (am_callV (as := [.ref p1]) (o := p0) (st := []) cv_X10_40 dX10_readLine_14 kp0 rfl (am_le rfl) (am_fit (by omega) (by decide) (by decide) (by decide)) (t_X10_readHouse hl kp0 kp1)) (fun σ32 h32 => ?_)
    refine ev_goto (tgt := 131) dX10_readLine_17 (by decide) ?_
    exact ev_vret dX10_readLine_131 rfl (by decide) (by decide) rfl
