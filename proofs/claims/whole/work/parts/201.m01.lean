def f_X11_putOnTape_b3 (S : am_S) (a0 : Nat) (a1 : Int32) (x1 : Int32 × (Nat → Nat → Int32)) : Option ((Int32 × (Nat → Nat → Int32)) ⊕ ((Nat → Nat → Int32))) :=
  (if x1.1 < 0 then some (.inr x1.2) else ((if (x1.2 a0 1) < 400 then ((am_rd S.2 a0 0 2).bind (fun q4 => ((am_st x1.2 q4 (x1.2 a0 1) (((a1 >>> (x1.1 &&& 31))).toInt8.toInt32).toInt8.toInt32).bind (fun σ5 => some (am_u2 σ5 a0 1 ((σ5 a0 1) + 1)))))) else some x1.2).bind (fun t3 => some (.inl ((x1.1 + (-8)), t3)))))
def f_X11_putOnTape (S : am_S) (p0 : Nat) (p1 : Int32) : Option ((Nat → Nat → Int32)) :=
  ((am_loop (f_X11_putOnTape_b3 S p0 p1) am_fuel (24, S.1)).bind (fun t1 => some t1))
set_option maxRecDepth 20000 in
theorem t_X11_putOnTape {E : am_E} {l : Launch} (hl : l.stackTraces = false) {S : am_S} {p0 : Nat} {p1 : Int32} (kp0 : am_kd p0 = 111) : am_M E l yX11_putOnTape (.code yX11_putOnTape cX11_putOnTape 3 none) 0 0 0 [.ref p0, .int p1] S ((f_X11_putOnTape S p0 p1).map (fun (x : Nat → Nat → Int32) => ((.inl none, (x, S.2)) : am_R))) := by
  refine am_M_of (w := fun (x : Nat → Nat → Int32) => ((.inl none, (x, S.2)) : am_R)) hl (by decide) (am_fc rfl (am_fc rfl am_fn)) (Nat.le_of_ble_eq_true rfl) ?_
  show am_Ev E l (RX11, cX11_putOnTape, 3, none, [], am_rm 0 0 0) (fun b a s x => am_Z E 0 0 b a s ((fun (x : Nat → Nat → Int32) => ((.inl none, (x, S.2)) : am_R)) x)) 0 0 0 [some (.ref p0), some (.int p1), none] [] S (f_X11_putOnTape S p0 p1)
  unfold f_X11_putOnTape
  refine ev_bipush (v := 24) dX11_putOnTape_0 (by decide) ?_
  refine ev_istore_n dX11_putOnTape_2 (am_lt rfl) ?_
  refine ev_weak (am_wk (am_wk (am_wk am_wn))) (ev_loop 3 46 (fun x1 : Int32 × (Nat → Nat → Int32) => [some (.ref p0), some (.int p1), some (.int x1.1)]) (fun t1 : (Nat → Nat → Int32) => [none, none, none]) (fun x1 => (x1.2, S.2)) (fun t1 => (t1, S.2)) (fun x1 G1 hB1 hE1 => ?_) (fun t1 => ?_) am_fuel (24, S.1))
  · unfold f_X11_putOnTape_b3
    refine ev_iload_n dX11_putOnTape_3 rfl ?_
    refine ev_eq am_ib ?_
    refine ev_if_lt (tgt := 46) dX11_putOnTape_4 (by decide) (fun c6 => ?_) (fun c6 => ?_)
    · exact ev_leaf (am_wf (am_wf (am_wf am_wn))) (hE1 x1.2)
    · refine ev_aload_n dX11_putOnTape_7 rfl ?_
      refine ev_get fk_X11_90 dX11_putOnTape_8 kp0 (am_fvI (by decide)) ?_
      refine ev_sipush (v := 400) dX11_putOnTape_11 (by decide) ?_
      refine ev_eq (Option.bind_assoc _ _ _) ?_
      refine ev_reg (cs' := 0) (sl' := 0) 40 (fun t7 : (Nat → Nat → Int32) => [some (.ref p0), some (.int p1), some (.int x1.1)]) (fun t7 => []) (fun t7 => (t7, S.2)) (fun hJ7 => ?_) (fun t7 => ?_)
      · refine ev_eq am_ib ?_
        refine ev_icmp_ge (tgt := 40) dX11_putOnTape_14 (by decide) (fun c7 => ?_) (fun c7 => ?_)
        · exact ev_leaf (am_wk (am_wk (am_wk am_wn))) (hJ7 x1.2)
        · refine ev_aload_n dX11_putOnTape_17 rfl ?_
          refine ev_eq (Option.bind_assoc _ _ _) ?_
          refine ev_getR fk_X11_9 (by decide) dX11_putOnTape_18 kp0 (fun q8 k8 r8 => ?_)
          refine ev_aload_n dX11_putOnTape_21 rfl ?_
          refine ev_get fk_X11_90 dX11_putOnTape_22 kp0 (am_fvI (by decide)) ?_
          refine ev_iload_n dX11_putOnTape_25 rfl ?_
          refine ev_iload_n dX11_putOnTape_26 rfl ?_
          refine ev_ishr dX11_putOnTape_27 ?_
          refine ev_i2b dX11_putOnTape_28 ?_
          refine ev_eq (Option.bind_assoc _ _ _) ?_
          refine ev_bast dX11_putOnTape_29 k8 (fun σ9 h9 => ?_)
          refine ev_aload_n dX11_putOnTape_30 rfl ?_
          refine ev_dup dX11_putOnTape_31 rfl ?_
          refine ev_get fk_X11_90 dX11_putOnTape_32 kp0 (am_fvI (by decide)) ?_
          refine ev_iconst (v := 1) dX11_putOnTape_35 (by decide) ?_
          refine ev_iadd dX11_putOnTape_36 ?_
          refine ev_putI fk_X11_90 tyX11 tyX11_ok nmX11 rfl (by decide +kernel) (by decide) dX11_putOnTape_37 kp0 ?_
          exact ev_leaf (am_wk (am_wk (am_wk am_wn))) (hJ7 (am_u2 σ9 p0 1 ((σ9 p0 1) + 1)))
      · refine ev_iinc (v := (x1.1 + (-8))) dX11_putOnTape_40 (am_lt rfl) rfl rfl ?_
        refine ev_goto (tgt := 3) dX11_putOnTape_43 (by decide) ?_
        exact ev_leaf (am_wk (am_wk (am_wk am_wn))) (hB1 ((x1.1 + (-8)), t7))
  · exact ev_vret dX11_putOnTape_46 rfl (by decide) (by decide) rfl
def f_X11_feed (S : am_S) (p0 : Nat) (p1 : Int32) (p2 : Int32) (p3 : Int32) (p4 : Int32) (p5 : Int32) : Option (Int32 × (Nat → Nat → Int32)) :=
  (if 400 < ((S.1 p0 1) + 20) then some ((-1), S.1) else ((f_X11_putOnTape S p0 p1).bind (fun σ2 => ((f_X11_putOnTape (σ2, S.2) p0 p2).bind (fun σ3 => ((f_X11_putOnTape (σ3, S.2) p0 p3).bind (fun σ4 => ((f_X11_putOnTape (σ4, S.2) p0 p4).bind (fun σ5 => ((f_X11_putOnTape (σ5, S.2) p0 p5).bind (fun σ6 => some ((σ6 p0 1), σ6))))))))))))
set_option maxRecDepth 20000 in
theorem t_X11_feed {E : am_E} {l : Launch} (hl : l.stackTraces = false) {S : am_S} {p0 : Nat} {p1 : Int32} {p2 : Int32} {p3 : Int32} {p4 : Int32} {p5 : Int32} (kp0 : am_kd p0 = 111) : am_M E l yX11_feed (.code yX11_feed cX11_feed 6 (some .int)) 1 0 0 [.ref p0, .int p1, .int p2, .int p3, .int p4, .int p5] S ((f_X11_feed S p0 p1 p2 p3 p4 p5).map (fun (x : Int32 × (Nat → Nat → Int32)) => ((.inl (some (.int x.1)), (x.2, S.2)) : am_R))) := by
  refine am_M_of (w := fun (x : Int32 × (Nat → Nat → Int32)) => ((.inl (some (.int x.1)), (x.2, S.2)) : am_R)) hl (by decide) (am_fc rfl (am_fc rfl (am_fc rfl (am_fc rfl (am_fc rfl (am_fc rfl am_fn)))))) (Nat.le_of_ble_eq_true rfl) ?_
  show am_Ev E l (RX11, cX11_feed, 6, (some .int), [], am_rm 1 0 0) (fun b a s x => am_Z E 0 0 b a s ((fun (x : Int32 × (Nat → Nat → Int32)) => ((.inl (some (.int x.1)), (x.2, S.2)) : am_R)) x)) 0 0 0 [some (.ref p0), some (.int p1), some (.int p2), some (.int p3), some (.int p4), some (.int p5)] [] S (f_X11_feed S p0 p1 p2 p3 p4 p5)
  unfold f_X11_feed
  refine ev_aload_n dX11_feed_0 rfl ?_
  refine ev_get fk_X11_90 dX11_feed_1 kp0 (am_fvI (by decide)) ?_
  refine ev_bipush (v := 20) dX11_feed_4 (by decide) ?_
  refine ev_iadd dX11_feed_6 ?_
  refine ev_sipush (v := 400) dX11_feed_7 (by decide) ?_
  refine ev_icmp_le (tgt := 15) dX11_feed_10 (by decide) (fun c1 => ?_) (fun c1 => ?_)
  · refine ev_aload_n dX11_feed_15 rfl ?_
    refine ev_iload_n dX11_feed_16 rfl ?_
    refine ev_callWV (am_callV (as := [.int p1]) (o := p0) (st := []) cv_X11_93 dX11_feed_17 kp0 rfl (am_le rfl) (am_fit (by omega) (by decide) (by decide) (by decide)) (t_X11_putOnTape hl kp0)) (fun σ2 h2 => ?_)
    refine ev_aload_n dX11_feed_20 rfl ?_
    refine ev_iload_n dX11_feed_21 rfl ?_
    refine ev_callWV (am_callV (as := [.int p2]) (o := p0) (st := []) cv_X11_93 dX11_feed_22 kp0 rfl (am_le rfl) (am_fit (by omega) (by decide) (by decide) (by decide)) (t_X11_putOnTape hl kp0)) (fun σ3 h3 => ?_)
    refine ev_aload_n dX11_feed_25 rfl ?_
    refine ev_iload_n dX11_feed_26 rfl ?_
    refine ev_callWV (am_callV (as := [.int p3]) (o := p0) (st := []) cv_X11_93 dX11_feed_27 kp0 rfl (am_le rfl) (am_fit (by omega) (by decide) (by decide) (by decide)) (t_X11_putOnTape hl kp0)) (fun σ4 h4 => ?_)
    refine ev_aload_n dX11_feed_30 rfl ?_
    refine ev_iload dX11_feed_31 rfl ?_
    refine ev_callWV (am_callV (as := [.int p4]) (o := p0) (st := []) cv_X11_93 dX11_feed_33 kp0 rfl (am_le rfl) (am_fit (by omega) (by decide) (by decide) (by decide)) (t_X11_putOnTape hl kp0)) (fun σ5 h5 => ?_)
    refine ev_aload_n dX11_feed_36 rfl ?_
    refine ev_iload dX11_feed_37 rfl ?_
    refine ev_callWV (am_callV (as := [.int p5]) (o := p0) (st := []) cv_X11_93 dX11_feed_39 kp0 rfl (am_le rfl) (am_fit (by omega) (by decide) (by decide) (by decide)) (t_X11_putOnTape hl kp0)) (fun σ6 h6 => ?_)
    refine ev_aload_n dX11_feed_42 rfl ?_
    refine ev_get fk_X11_90 dX11_feed_43 kp0 (am_fvI (by decide)) ?_
    exact ev_iret dX11_feed_46 rfl rfl (by decide) (by decide) rfl
  · refine ev_iconst (v := (-1)) dX11_feed_13 (by decide) ?_
    exact ev_iret dX11_feed_14 rfl rfl (by decide) (by decide) rfl
def f_X11_end (S : am_S) (p0 : Nat) (p1 : Int32) : Option (Int32 × (Nat → Nat → Int32)) :=
  (if p1 < 0 then some (0, S.1) else (if (S.1 p0 1) < p1 then some (0, S.1) else some (1, (am_u2 S.1 p0 1 p1))))
set_option maxRecDepth 20000 in
theorem t_X11_end {E : am_E} {l : Launch} (hl : l.stackTraces = false) {S : am_S} {p0 : Nat} {p1 : Int32} (kp0 : am_kd p0 = 111) : am_M E l yX11_end (.code yX11_end cX11_end 2 (some .boolean)) 0 0 0 [.ref p0, .int p1] S ((f_X11_end S p0 p1).map (fun (x : Int32 × (Nat → Nat → Int32)) => ((.inl (some (.int x.1)), (x.2, S.2)) : am_R))) := by
  refine am_M_of (w := fun (x : Int32 × (Nat → Nat → Int32)) => ((.inl (some (.int x.1)), (x.2, S.2)) : am_R)) hl (by decide) (am_fc rfl (am_fc rfl am_fn)) (Nat.le_of_ble_eq_true rfl) ?_
  show am_Ev E l (RX11, cX11_end, 2, (some .boolean), [], am_rm 0 0 0) (fun b a s x => am_Z E 0 0 b a s ((fun (x : Int32 × (Nat → Nat → Int32)) => ((.inl (some (.int x.1)), (x.2, S.2)) : am_R)) x)) 0 0 0 [some (.ref p0), some (.int p1)] [] S (f_X11_end S p0 p1)
  unfold f_X11_end
  refine ev_iload_n dX11_end_0 rfl ?_
  refine ev_if_lt (tgt := 12) dX11_end_1 (by decide) (fun c1 => ?_) (fun c1 => ?_)
  · refine ev_iconst (v := 0) dX11_end_12 (by decide) ?_
    exact ev_iret dX11_end_13 rfl (by decide) (by decide) (by decide) rfl
  · refine ev_iload_n dX11_end_4 rfl ?_
    refine ev_aload_n dX11_end_5 rfl ?_
    refine ev_get fk_X11_90 dX11_end_6 kp0 (am_fvI (by decide)) ?_
    refine ev_icmp_le (tgt := 14) dX11_end_9 (by decide) (fun c2 => ?_) (fun c2 => ?_)
    · refine ev_aload_n dX11_end_14 rfl ?_
      refine ev_iload_n dX11_end_15 rfl ?_
      refine ev_putI fk_X11_90 tyX11 tyX11_ok nmX11 rfl (by decide +kernel) (by decide) dX11_end_16 kp0 ?_
      refine ev_iconst (v := 1) dX11_end_19 (by decide) ?_
      exact ev_iret dX11_end_20 rfl (by decide) (by decide) (by decide) rfl
    · refine ev_iconst (v := 0) dX11_end_12 (by decide) ?_
      exact ev_iret dX11_end_13 rfl (by decide) (by decide) (by decide) rfl
def f_X1_copyFrom (S : am_S) (p0 : Nat) (p1 : Nat) : Option ((Nat → Nat → Int32)) :=
  ((am_rd S.2 p1 2 1).bind (fun q1 => ((am_rd S.2 p0 2 1).bind (fun q2 => ((am_cp (am_u2 (am_u2 S.1 p0 0 (S.1 p1 0)) p0 1 ((am_u2 S.1 p0 0 (S.1 p1 0)) p1 1)) q1 0 q2 0 12).bind (fun σ3 => ((am_rd S.2 p1 3 1).bind (fun q4 => ((am_rd S.2 p0 3 1).bind (fun q5 => ((am_cp σ3 q4 0 q5 0 12).bind (fun σ6 => ((am_rd S.2 p1 4 3).bind (fun q7 => ((am_rd S.2 p0 4 3).bind (fun q8 => ((am_cpS σ6 q7 0 q8 0 400).bind (fun σ9 => some σ9))))))))))))))))))
set_option maxRecDepth 20000 in
theorem t_X1_copyFrom {E : am_E} {l : Launch} (hl : l.stackTraces = false) {S : am_S} {p0 : Nat} {p1 : Nat} (kp0 : am_kd p0 = 101) (kp1 : am_kd p1 = 101) : am_M E l yX1_copyFrom (.code yX1_copyFrom cX1_copyFrom 2 none) 1 0 0 [.ref p0, .ref p1] S ((f_X1_copyFrom S p0 p1).map (fun (x : Nat → Nat → Int32) => ((.inl none, (x, S.2)) : am_R))) := by
  refine am_M_of (w := fun (x : Nat → Nat → Int32) => ((.inl none, (x, S.2)) : am_R)) hl (by decide) (am_fc rfl (am_fc rfl am_fn)) (Nat.le_of_ble_eq_true rfl) ?_
  show am_Ev E l (RX1, cX1_copyFrom, 2, none, [], am_rm 1 0 0) (fun b a s x => am_Z E 0 0 b a s ((fun (x : Nat → Nat → Int32) => ((.inl none, (x, S.2)) : am_R)) x)) 0 0 0 [some (.ref p0), some (.ref p1)] [] S (f_X1_copyFrom S p0 p1)
  unfold f_X1_copyFrom
  refine ev_aload_n dX1_copyFrom_0 rfl ?_
  refine ev_aload_n dX1_copyFrom_1 rfl ?_
  refine ev_get fk_X1_9 dX1_copyFrom_2 kp1 (am_fvI (by decide)) ?_
  refine ev_putI fk_X1_9 tyX1 tyX1_ok nmX1 rfl (by decide +kernel) (by decide) dX1_copyFrom_5 kp0 ?_
  refine ev_aload_n dX1_copyFrom_8 rfl ?_
  refine ev_aload_n dX1_copyFrom_9 rfl ?_
  refine ev_get fk_X1_32 dX1_copyFrom_10 kp1 (am_fvI (by decide)) ?_
  refine ev_putI fk_X1_32 tyX1 tyX1_ok nmX1 rfl (by decide +kernel) (by decide) dX1_copyFrom_13 kp0 ?_
  refine ev_aload_n dX1_copyFrom_16 rfl ?_
  refine ev_getR fk_X1_15 (by decide) dX1_copyFrom_17 kp1 (fun q1 k1 r1 => ?_)
  refine ev_iconst (v := 0) dX1_copyFrom_20 (by decide) ?_
  refine ev_aload_n dX1_copyFrom_21 rfl ?_
  refine ev_getR fk_X1_15 (by decide) dX1_copyFrom_22 kp0 (fun q2 k2 r2 => ?_)
  refine ev_iconst (v := 0) dX1_copyFrom_25 (by decide) ?_
  refine ev_bipush (v := 12) dX1_copyFrom_26 (by decide) ?_
  refine ev_cpyI dX1_copyFrom_28 (am_G_t (i := 484) (by decide +kernel) rfl) am_acw_in k1 k2 (by decide) (by decide) (by decide) (fun σ3 h3 => ?_)
  refine ev_aload_n dX1_copyFrom_31 rfl ?_
  refine ev_getR fk_X1_19 (by decide) dX1_copyFrom_32 kp1 (fun q4 k4 r4 => ?_)
  refine ev_iconst (v := 0) dX1_copyFrom_35 (by decide) ?_
  refine ev_aload_n dX1_copyFrom_36 rfl ?_
  refine ev_getR fk_X1_19 (by decide) dX1_copyFrom_37 kp0 (fun q5 k5 r5 => ?_)
  refine ev_iconst (v := 0) dX1_copyFrom_40 (by decide) ?_
  refine ev_bipush (v := 12) dX1_copyFrom_41 (by decide) ?_
  refine ev_cpyI dX1_copyFrom_43 (am_G_t (i := 484) (by decide +kernel) rfl) am_acw_in k4 k5 (by decide) (by decide) (by decide) (fun σ6 h6 => ?_)
  refine ev_aload_n dX1_copyFrom_46 rfl ?_
  refine ev_getR fk_X1_22 (by decide) dX1_copyFrom_47 kp1 (fun q7 k7 r7 => ?_)
  refine ev_iconst (v := 0) dX1_copyFrom_50 (by decide) ?_
  refine ev_aload_n dX1_copyFrom_51 rfl ?_
  refine ev_getR fk_X1_22 (by decide) dX1_copyFrom_52 kp0 (fun q8 k8 r8 => ?_)
  refine ev_iconst (v := 0) dX1_copyFrom_55 (by decide) ?_
  refine ev_sipush (v := 400) dX1_copyFrom_56 (by decide) ?_
  refine ev_cpyS dX1_copyFrom_59 (am_G_t (i := 484) (by decide +kernel) rfl) am_acw_in k7 k8 (by decide) (by decide) (by decide) (fun σ9 h9 => ?_)
  exact ev_vret dX1_copyFrom_62 rfl (by decide) (by decide) rfl
def f_X6_copyFrom (S : am_S) (p0 : Nat) (p1 : Nat) : Option ((Nat → Nat → Int32)) :=
  ((am_rd S.2 p1 1 1).bind (fun q1 => ((am_rd S.2 p0 1 1).bind (fun q2 => ((am_cp (am_u2 S.1 p0 0 (S.1 p1 0)) q1 0 q2 0 12).bind (fun σ3 => ((am_rd S.2 p1 2 1).bind (fun q4 => ((am_rd S.2 p0 2 1).bind (fun q5 => ((am_cp σ3 q4 0 q5 0 12).bind (fun σ6 => ((am_rd S.2 p1 3 1).bind (fun q7 => ((am_rd S.2 p0 3 1).bind (fun q8 => ((am_cp σ6 q7 0 q8 0 12).bind (fun σ9 => ((am_rd S.2 p1 4 1).bind (fun q10 => ((am_rd S.2 p0 4 1).bind (fun q11 => ((am_cp σ9 q10 0 q11 0 12).bind (fun σ12 => some σ12))))))))))))))))))))))))
set_option maxRecDepth 20000 in
theorem t_X6_copyFrom {E : am_E} {l : Launch} (hl : l.stackTraces = false) {S : am_S} {p0 : Nat} {p1 : Nat} (kp0 : am_kd p0 = 106) (kp1 : am_kd p1 = 106) : am_M E l yX6_copyFrom (.code yX6_copyFrom cX6_copyFrom 2 none) 1 0 0 [.ref p0, .ref p1] S ((f_X6_copyFrom S p0 p1).map (fun (x : Nat → Nat → Int32) => ((.inl none, (x, S.2)) : am_R))) := by
  refine am_M_of (w := fun (x : Nat → Nat → Int32) => ((.inl none, (x, S.2)) : am_R)) hl (by decide) (am_fc rfl (am_fc rfl am_fn)) (Nat.le_of_ble_eq_true rfl) ?_
  show am_Ev E l (RX6, cX6_copyFrom, 2, none, [], am_rm 1 0 0) (fun b a s x => am_Z E 0 0 b a s ((fun (x : Nat → Nat → Int32) => ((.inl none, (x, S.2)) : am_R)) x)) 0 0 0 [some (.ref p0), some (.ref p1)] [] S (f_X6_copyFrom S p0 p1)
  unfold f_X6_copyFrom
  refine ev_aload_n dX6_copyFrom_0 rfl ?_
  refine ev_aload_n dX6_copyFrom_1 rfl ?_
  refine ev_get fk_X6_30 dX6_copyFrom_2 kp1 (am_fvI (by decide)) ?_
  refine ev_putI fk_X6_30 tyX6 tyX6_ok nmX6 rfl (by decide +kernel) (by decide) dX6_copyFrom_5 kp0 ?_
  refine ev_aload_n dX6_copyFrom_8 rfl ?_
  refine ev_getR fk_X6_9 (by decide) dX6_copyFrom_9 kp1 (fun q1 k1 r1 => ?_)
  refine ev_iconst (v := 0) dX6_copyFrom_12 (by decide) ?_
  refine ev_aload_n dX6_copyFrom_13 rfl ?_
  refine ev_getR fk_X6_9 (by decide) dX6_copyFrom_14 kp0 (fun q2 k2 r2 => ?_)
  refine ev_iconst (v := 0) dX6_copyFrom_17 (by decide) ?_
  refine ev_bipush (v := 12) dX6_copyFrom_18 (by decide) ?_
  refine ev_cpyI dX6_copyFrom_20 (am_G_t (i := 489) (by decide +kernel) rfl) am_acw_in k1 k2 (by decide) (by decide) (by decide) (fun σ3 h3 => ?_)
  refine ev_aload_n dX6_copyFrom_23 rfl ?_
  refine ev_getR fk_X6_15 (by decide) dX6_copyFrom_24 kp1 (fun q4 k4 r4 => ?_)
  refine ev_iconst (v := 0) dX6_copyFrom_27 (by decide) ?_
  refine ev_aload_n dX6_copyFrom_28 rfl ?_
  refine ev_getR fk_X6_15 (by decide) dX6_copyFrom_29 kp0 (fun q5 k5 r5 => ?_)
  refine ev_iconst (v := 0) dX6_copyFrom_32 (by decide) ?_
  refine ev_bipush (v := 12) dX6_copyFrom_33 (by decide) ?_
  refine ev_cpyI dX6_copyFrom_35 (am_G_t (i := 489) (by decide +kernel) rfl) am_acw_in k4 k5 (by decide) (by decide) (by decide) (fun σ6 h6 => ?_)
  refine ev_aload_n dX6_copyFrom_38 rfl ?_
  refine ev_getR fk_X6_18 (by decide) dX6_copyFrom_39 kp1 (fun q7 k7 r7 => ?_)
  refine ev_iconst (v := 0) dX6_copyFrom_42 (by decide) ?_
  refine ev_aload_n dX6_copyFrom_43 rfl ?_
  refine ev_getR fk_X6_18 (by decide) dX6_copyFrom_44 kp0 (fun q8 k8 r8 => ?_)
  refine ev_iconst (v := 0) dX6_copyFrom_47 (by decide) ?_
  refine ev_bipush (v := 12) dX6_copyFrom_48 (by decide) ?_
  refine ev_cpyI dX6_copyFrom_50 (am_G_t (i := 489) (by decide +kernel) rfl) am_acw_in k7 k8 (by decide) (by decide) (by decide) (fun σ9 h9 => ?_)
  refine ev_aload_n dX6_copyFrom_53 rfl ?_
  refine ev_getR fk_X6_21 (by decide) dX6_copyFrom_54 kp1 (fun q10 k10 r10 => ?_)
  refine ev_iconst (v := 0) dX6_copyFrom_57 (by decide) ?_
  refine ev_aload_n dX6_copyFrom_58 rfl ?_
  refine ev_getR fk_X6_21 (by decide) dX6_copyFrom_59 kp0 (fun q11 k11 r11 => ?_)
  refine ev_iconst (v := 0) dX6_copyFrom_62 (by decide) ?_
  refine ev_bipush (v := 12) dX6_copyFrom_63 (by decide) ?_
  refine ev_cpyI dX6_copyFrom_65 (am_G_t (i := 489) (by decide +kernel) rfl) am_acw_in k10 k11 (by decide) (by decide) (by decide) (fun σ12 h12 => ?_)
  exact ev_vret dX6_copyFrom_68 rfl (by decide) (by decide) rfl
def f_X9_copyFrom (S : am_S) (p0 : Nat) (p1 : Nat) : Option ((Nat → Nat → Int32)) :=
  ((am_rd S.2 p1 6 1).bind (fun q1 => ((am_rd S.2 p0 6 1).bind (fun q2 => ((am_cp (am_u2 (am_u2 (am_u2 (am_u2 (am_u2 (am_u2 S.1 p0 0 (S.1 p1 0)) p0 1 ((am_u2 S.1 p0 0 (S.1 p1 0)) p1 1)) p0 2 ((am_u2 (am_u2 S.1 p0 0 (S.1 p1 0)) p0 1 ((am_u2 S.1 p0 0 (S.1 p1 0)) p1 1)) p1 2)) p0 3 ((am_u2 (am_u2 (am_u2 S.1 p0 0 (S.1 p1 0)) p0 1 ((am_u2 S.1 p0 0 (S.1 p1 0)) p1 1)) p0 2 ((am_u2 (am_u2 S.1 p0 0 (S.1 p1 0)) p0 1 ((am_u2 S.1 p0 0 (S.1 p1 0)) p1 1)) p1 2)) p1 3)) p0 4 ((am_u2 (am_u2 (am_u2 (am_u2 S.1 p0 0 (S.1 p1 0)) p0 1 ((am_u2 S.1 p0 0 (S.1 p1 0)) p1 1)) p0 2 ((am_u2 (am_u2 S.1 p0 0 (S.1 p1 0)) p0 1 ((am_u2 S.1 p0 0 (S.1 p1 0)) p1 1)) p1 2)) p0 3 ((am_u2 (am_u2 (am_u2 S.1 p0 0 (S.1 p1 0)) p0 1 ((am_u2 S.1 p0 0 (S.1 p1 0)) p1 1)) p0 2 ((am_u2 (am_u2 S.1 p0 0 (S.1 p1 0)) p0 1 ((am_u2 S.1 p0 0 (S.1 p1 0)) p1 1)) p1 2)) p1 3)) p1 4)) p0 5 ((am_u2 (am_u2 (am_u2 (am_u2 (am_u2 S.1 p0 0 (S.1 p1 0)) p0 1 ((am_u2 S.1 p0 0 (S.1 p1 0)) p1 1)) p0 2 ((am_u2 (am_u2 S.1 p0 0 (S.1 p1 0)) p0 1 ((am_u2 S.1 p0 0 (S.1 p1 0)) p1 1)) p1 2)) p0 3 ((am_u2 (am_u2 (am_u2 S.1 p0 0 (S.1 p1 0)) p0 1 ((am_u2 S.1 p0 0 (S.1 p1 0)) p1 1)) p0 2 ((am_u2 (am_u2 S.1 p0 0 (S.1 p1 0)) p0 1 ((am_u2 S.1 p0 0 (S.1 p1 0)) p1 1)) p1 2)) p1 3)) p0 4 ((am_u2 (am_u2 (am_u2 (am_u2 S.1 p0 0 (S.1 p1 0)) p0 1 ((am_u2 S.1 p0 0 (S.1 p1 0)) p1 1)) p0 2 ((am_u2 (am_u2 S.1 p0 0 (S.1 p1 0)) p0 1 ((am_u2 S.1 p0 0 (S.1 p1 0)) p1 1)) p1 2)) p0 3 ((am_u2 (am_u2 (am_u2 S.1 p0 0 (S.1 p1 0)) p0 1 ((am_u2 S.1 p0 0 (S.1 p1 0)) p1 1)) p0 2 ((am_u2 (am_u2 S.1 p0 0 (S.1 p1 0)) p0 1 ((am_u2 S.1 p0 0 (S.1 p1 0)) p1 1)) p1 2)) p1 3)) p1 4)) p1 5)) q1 0 q2 0 8).bind (fun σ3 => ((am_rd S.2 p1 7 1).bind (fun q4 => ((am_rd S.2 p0 7 1).bind (fun q5 => ((am_cp σ3 q4 0 q5 0 8).bind (fun σ6 => ((am_rd S.2 p1 8 1).bind (fun q7 => ((am_rd S.2 p0 8 1).bind (fun q8 => ((am_cp σ6 q7 0 q8 0 8).bind (fun σ9 => ((am_rd S.2 p1 9 1).bind (fun q10 => ((am_rd S.2 p0 9 1).bind (fun q11 => ((am_cp σ9 q10 0 q11 0 8).bind (fun σ12 => ((am_rd S.2 p1 10 1).bind (fun q13 => ((am_rd S.2 p0 10 1).bind (fun q14 => ((am_cp σ12 q13 0 q14 0 8).bind (fun σ15 => ((am_rd S.2 p1 11 1).bind (fun q16 => ((am_rd S.2 p0 11 1).bind (fun q17 => ((am_cp σ15 q16 0 q17 0 10).bind (fun σ18 => ((am_rd S.2 p1 12 1).bind (fun q19 => ((am_rd S.2 p0 12 1).bind (fun q20 => ((am_cp σ18 q19 0 q20 0 80).bind (fun σ21 => ((am_rd S.2 p1 13 1).bind (fun q22 => ((am_rd S.2 p0 13 1).bind (fun q23 => ((am_cp σ21 q22 0 q23 0 64).bind (fun σ24 => ((am_rd S.2 p0 14 101).bind (fun q25 => ((am_rd S.2 p1 14 101).bind (fun q26 => ((f_X1_copyFrom (σ24, S.2) q25 q26).bind (fun σ27 => ((am_rd S.2 p0 15 106).bind (fun q28 => ((am_rd S.2 p1 15 106).bind (fun q29 => ((f_X6_copyFrom (σ27, S.2) q28 q29).bind (fun σ30 => some σ30))))))))))))))))))))))))))))))))))))))))))))))))))))))))))))
set_option maxRecDepth 20000 in
theorem t_X9_copyFrom {E : am_E} {l : Launch} (hl : l.stackTraces = false) {S : am_S} {p0 : Nat} {p1 : Nat} (kp0 : am_kd p0 = 109) (kp1 : am_kd p1 = 109) : am_M E l yX9_copyFrom (.code yX9_copyFrom cX9_copyFrom 2 none) 2 0 0 [.ref p0, .ref p1] S ((f_X9_copyFrom S p0 p1).map (fun (x : Nat → Nat → Int32) => ((.inl none, (x, S.2)) : am_R))) := by
  refine am_M_of (w := fun (x : Nat → Nat → Int32) => ((.inl none, (x, S.2)) : am_R)) hl (by decide) (am_fc rfl (am_fc rfl am_fn)) (Nat.le_of_ble_eq_true rfl) ?_
  show am_Ev E l (RX9, cX9_copyFrom, 2, none, [], am_rm 2 0 0) (fun b a s x => am_Z E 0 0 b a s ((fun (x : Nat → Nat → Int32) => ((.inl none, (x, S.2)) : am_R)) x)) 0 0 0 [some (.ref p0), some (.ref p1)] [] S (f_X9_copyFrom S p0 p1)
  unfold f_X9_copyFrom
  refine ev_aload_n dX9_copyFrom_0 rfl ?_
  refine ev_aload_n dX9_copyFrom_1 rfl ?_
  refine ev_get fk_X9_50 dX9_copyFrom_2 kp1 (am_fvI (by decide)) ?_
  refine ev_putI fk_X9_50 tyX9 tyX9_ok nmX9 rfl (by decide +kernel) (by decide) dX9_copyFrom_5 kp0 ?_
  refine ev_aload_n dX9_copyFrom_8 rfl ?_
  refine ev_aload_n dX9_copyFrom_9 rfl ?_
  refine ev_get fk_X9_54 dX9_copyFrom_10 kp1 (am_fvI (by decide)) ?_
  refine ev_putI fk_X9_54 tyX9 tyX9_ok nmX9 rfl (by decide +kernel) (by decide) dX9_copyFrom_13 kp0 ?_
  refine ev_aload_n dX9_copyFrom_16 rfl ?_
  refine ev_aload_n dX9_copyFrom_17 rfl ?_
  refine ev_get fk_X9_57 dX9_copyFrom_18 kp1 (am_fvI (by decide)) ?_
  refine ev_putI fk_X9_57 tyX9 tyX9_ok nmX9 rfl (by decide +kernel) (by decide) dX9_copyFrom_21 kp0 ?_
  refine ev_aload_n dX9_copyFrom_24 rfl ?_
  refine ev_aload_n dX9_copyFrom_25 rfl ?_
  refine ev_get fk_X9_60 dX9_copyFrom_26 kp1 (am_fvI (by decide)) ?_
  refine ev_putI fk_X9_60 tyX9 tyX9_ok nmX9 rfl (by decide +kernel) (by decide) dX9_copyFrom_29 kp0 ?_
  refine ev_aload_n dX9_copyFrom_32 rfl ?_
  refine ev_aload_n dX9_copyFrom_33 rfl ?_
  refine ev_get fk_X9_63 dX9_copyFrom_34 kp1 (am_fvI (by decide)) ?_
  refine ev_putI fk_X9_63 tyX9 tyX9_ok nmX9 rfl (by decide +kernel) (by decide) dX9_copyFrom_37 kp0 ?_
  refine ev_aload_n dX9_copyFrom_40 rfl ?_
  refine ev_aload_n dX9_copyFrom_41 rfl ?_
  refine ev_get fk_X9_66 dX9_copyFrom_42 kp1 (am_fvI (by decide)) ?_
  refine ev_putI fk_X9_66 tyX9 tyX9_ok nmX9 rfl (by decide +kernel) (by decide) dX9_copyFrom_45 kp0 ?_
  refine ev_aload_n dX9_copyFrom_48 rfl ?_
  refine ev_getR fk_X9_9 (by decide) dX9_copyFrom_49 kp1 (fun q1 k1 r1 => ?_)
  refine ev_iconst (v := 0) dX9_copyFrom_52 (by decide) ?_
  refine ev_aload_n dX9_copyFrom_53 rfl ?_
  refine ev_getR fk_X9_9 (by decide) dX9_copyFrom_54 kp0 (fun q2 k2 r2 => ?_)
  refine ev_iconst (v := 0) dX9_copyFrom_57 (by decide) ?_
  refine ev_bipush (v := 8) dX9_copyFrom_58 (by decide) ?_
  refine ev_cpyI dX9_copyFrom_60 (am_G_t (i := 477) (by decide +kernel) rfl) am_acw_in k1 k2 (by decide) (by decide) (by decide) (fun σ3 h3 => ?_)
  refine ev_aload_n dX9_copyFrom_63 rfl ?_
  refine ev_getR fk_X9_15 (by decide) dX9_copyFrom_64 kp1 (fun q4 k4 r4 => ?_)
  refine ev_iconst (v := 0) dX9_copyFrom_67 (by decide) ?_
  refine ev_aload_n dX9_copyFrom_68 rfl ?_
  refine ev_getR fk_X9_15 (by decide) dX9_copyFrom_69 kp0 (fun q5 k5 r5 => ?_)
  refine ev_iconst (v := 0) dX9_copyFrom_72 (by decide) ?_
  refine ev_bipush (v := 8) dX9_copyFrom_73 (by decide) ?_
  refine ev_cpyI dX9_copyFrom_75 (am_G_t (i := 477) (by decide +kernel) rfl) am_acw_in k4 k5 (by decide) (by decide) (by decide) (fun σ6 h6 => ?_)
  refine ev_aload_n dX9_copyFrom_78 rfl ?_
  refine ev_getR fk_X9_18 (by decide) dX9_copyFrom_79 kp1 (fun q7 k7 r7 => ?_)
  refine ev_iconst (v := 0) dX9_copyFrom_82 (by decide) ?_
  refine ev_aload_n dX9_copyFrom_83 rfl ?_
  refine ev_getR fk_X9_18 (by decide) dX9_copyFrom_84 kp0 (fun q8 k8 r8 => ?_)
  refine ev_iconst (v := 0) dX9_copyFrom_87 (by decide) ?_
  refine ev_bipush (v := 8) dX9_copyFrom_88 (by decide) ?_
  refine ev_cpyI dX9_copyFrom_90 (am_G_t (i := 477) (by decide +kernel) rfl) am_acw_in k7 k8 (by decide) (by decide) (by decide) (fun σ9 h9 => ?_)
  refine ev_aload_n dX9_copyFrom_93 rfl ?_
  refine ev_getR fk_X9_21 (by decide) dX9_copyFrom_94 kp1 (fun q10 k10 r10 => ?_)
  refine ev_iconst (v := 0) dX9_copyFrom_97 (by decide) ?_
  refine ev_aload_n dX9_copyFrom_98 rfl ?_
  refine ev_getR fk_X9_21 (by decide) dX9_copyFrom_99 kp0 (fun q11 k11 r11 => ?_)
  refine ev_iconst (v := 0) dX9_copyFrom_102 (by decide) ?_
  refine ev_bipush (v := 8) dX9_copyFrom_103 (by decide) ?_
  refine ev_cpyI dX9_copyFrom_105 (am_G_t (i := 477) (by decide +kernel) rfl) am_acw_in k10 k11 (by decide) (by decide) (by decide) (fun σ12 h12 => ?_)
  refine ev_aload_n dX9_copyFrom_108 rfl ?_
  refine ev_getR fk_X9_24 (by decide) dX9_copyFrom_109 kp1 (fun q13 k13 r13 => ?_)
  refine ev_iconst (v := 0) dX9_copyFrom_112 (by decide) ?_
  refine ev_aload_n dX9_copyFrom_113 rfl ?_
  refine ev_getR fk_X9_24 (by decide) dX9_copyFrom_114 kp0 (fun q14 k14 r14 => ?_)
  refine ev_iconst (v := 0) dX9_copyFrom_117 (by decide) ?_
  refine ev_bipush (v := 8) dX9_copyFrom_118 (by decide) ?_
  refine ev_cpyI dX9_copyFrom_120 (am_G_t (i := 477) (by decide +kernel) rfl) am_acw_in k13 k14 (by decide) (by decide) (by decide) (fun σ15 h15 => ?_)
  refine ev_aload_n dX9_copyFrom_123 rfl ?_
  refine ev_getR fk_X9_27 (by decide) dX9_copyFrom_124 kp1 (fun q16 k16 r16 => ?_)
  refine ev_iconst (v := 0) dX9_copyFrom_127 (by decide) ?_
  refine ev_aload_n dX9_copyFrom_128 rfl ?_
  refine ev_getR fk_X9_27 (by decide) dX9_copyFrom_129 kp0 (fun q17 k17 r17 => ?_)
  refine ev_iconst (v := 0) dX9_copyFrom_132 (by decide) ?_
  refine ev_bipush (v := 10) dX9_copyFrom_133 (by decide) ?_
  refine ev_cpyI dX9_copyFrom_135 (am_G_t (i := 477) (by decide +kernel) rfl) am_acw_in k16 k17 (by decide) (by decide) (by decide) (fun σ18 h18 => ?_)
  refine ev_aload_n dX9_copyFrom_138 rfl ?_
  refine ev_getR fk_X9_30 (by decide) dX9_copyFrom_139 kp1 (fun q19 k19 r19 => ?_)
  refine ev_iconst (v := 0) dX9_copyFrom_142 (by decide) ?_
  refine ev_aload_n dX9_copyFrom_143 rfl ?_
  refine ev_getR fk_X9_30 (by decide) dX9_copyFrom_144 kp0 (fun q20 k20 r20 => ?_)
  refine ev_iconst (v := 0) dX9_copyFrom_147 (by decide) ?_
  refine ev_bipush (v := 80) dX9_copyFrom_148 (by decide) ?_
  refine ev_cpyI dX9_copyFrom_150 (am_G_t (i := 477) (by decide +kernel) rfl) am_acw_in k19 k20 (by decide) (by decide) (by decide) (fun σ21 h21 => ?_)
  refine ev_aload_n dX9_copyFrom_153 rfl ?_
  refine ev_getR fk_X9_33 (by decide) dX9_copyFrom_154 kp1 (fun q22 k22 r22 => ?_)
  refine ev_iconst (v := 0) dX9_copyFrom_157 (by decide) ?_
  refine ev_aload_n dX9_copyFrom_158 rfl ?_
  refine ev_getR fk_X9_33 (by decide) dX9_copyFrom_159 kp0 (fun q23 k23 r23 => ?_)
  refine ev_iconst (v := 0) dX9_copyFrom_162 (by decide) ?_
  refine ev_bipush (v := 64) dX9_copyFrom_163 (by decide) ?_
  refine ev_cpyI dX9_copyFrom_165 (am_G_t (i := 477) (by decide +kernel) rfl) am_acw_in k22 k23 (by decide) (by decide) (by decide) (fun σ24 h24 => ?_)
  refine ev_aload_n dX9_copyFrom_168 rfl ?_
  refine ev_getR fk_X9_39 (by decide) dX9_copyFrom_169 kp0 (fun q25 k25 r25 => ?_)
  refine ev_aload_n dX9_copyFrom_172 rfl ?_
  refine ev_getR fk_X9_39 (by decide) dX9_copyFrom_173 kp1 (fun q26 k26 r26 => ?_)
  refine ev_callWV (am_callVN (as := [.ref q26]) (o := q25) (st := []) cv_X9_75 dX9_copyFrom_176 k25 rfl (am_le rfl) (am_fit (by omega) (by decide) (by decide) (by decide)) (am_no1 (fun _ => ⟨_, rfl⟩)) (t_X1_copyFrom hl k25 k26)) (fun σ27 h27 => ?_)
  refine ev_aload_n dX9_copyFrom_179 rfl ?_
  refine ev_getR fk_X9_46 (by decide) dX9_copyFrom_180 kp0 (fun q28 k28 r28 => ?_)
  refine ev_aload_n dX9_copyFrom_183 rfl ?_
  refine ev_getR fk_X9_46 (by decide) dX9_copyFrom_184 kp1 (fun q29 k29 r29 => ?_)
  refine ev_callWV (am_callVN (as := [.ref q29]) (o := q28) (st := []) cv_X9_79 dX9_copyFrom_187 k28 rfl (am_le rfl) (am_fit (by omega) (by decide) (by decide) (by decide)) (am_no1 (fun _ => ⟨_, rfl⟩)) (t_X6_copyFrom hl k28 k29)) (fun σ30 h30 => ?_)
  exact ev_vret dX9_copyFrom_190 rfl (by decide) (by decide) rfl
def f_J9_min_7cf53 (p0 : Int32) (p1 : Int32) : Option (Int32) :=
  (if p1 < p0 then some p1 else some p0)
set_option maxRecDepth 20000 in
theorem t_J9_min_7cf53 {E : am_E} {l : Launch} (hl : l.stackTraces = false) {S : am_S} {p0 : Int32} {p1 : Int32}  : am_M E l yJ9_min_7cf53 (.code yJ9_min_7cf53 cJ9_min_7cf53 2 (some .int)) 0 0 0 [.int p0, .int p1] S ((f_J9_min_7cf53 p0 p1).map (fun (v : Int32) => ((.inl (some (.int v)), S) : am_R))) := by
  refine am_M_ofF (w := fun (v : Int32) => ((.inl (some (.int v)), S) : am_R)) hl (by decide +kernel) (am_fc rfl (am_fc rfl am_fn)) (Nat.le_of_ble_eq_true rfl) ?_
  show am_Ev E l (RJ9, cJ9_min_7cf53, 2, (some .int), [], am_rm 0 0 0) (fun b a s x => am_Z E 0 0 b a s ((fun (v : Int32) => ((.inl (some (.int v)), S) : am_R)) x)) 0 0 0 [some (.int p0), some (.int p1)] [] S (f_J9_min_7cf53 p0 p1)
  unfold f_J9_min_7cf53
  refine ev_iload_n dJ9_min_7cf53_0 rfl ?_
  refine ev_iload_n dJ9_min_7cf53_1 rfl ?_
  refine ev_icmp_gt (tgt := 9) dJ9_min_7cf53_2 (by decide) (fun c1 => ?_) (fun c1 => ?_)
  · refine ev_iload_n dJ9_min_7cf53_9 rfl ?_
    exact ev_iret dJ9_min_7cf53_10 rfl rfl (by decide) (by decide) rfl
  · refine ev_iload_n dJ9_min_7cf53_5 rfl ?_
    refine ev_goto (tgt := 10) dJ9_min_7cf53_6 (by decide) ?_
    exact ev_iret dJ9_min_7cf53_10 rfl rfl (by decide) (by decide) rfl
def f_X4_kindOf (p0 : Int32) : Option (Int32) :=
  (if p0 < 97 then (if p0 < 48 then some (p0 &&& 255) else (if 57 < p0 then some (p0 &&& 255) else some 48)) else (if 122 < p0 then (if p0 < 48 then some (p0 &&& 255) else (if 57 < p0 then some (p0 &&& 255) else some 48)) else some 97))
set_option maxRecDepth 20000 in
theorem t_X4_kindOf {E : am_E} {l : Launch} (hl : l.stackTraces = false) {S : am_S} {p0 : Int32}  : am_M E l yX4_kindOf (.code yX4_kindOf cX4_kindOf 1 (some .int)) 0 0 0 [.int p0] S ((f_X4_kindOf p0).map (fun (v : Int32) => ((.inl (some (.int v)), S) : am_R))) := by
  refine am_M_of (w := fun (v : Int32) => ((.inl (some (.int v)), S) : am_R)) hl (by decide) (am_fc rfl am_fn) (Nat.le_of_ble_eq_true rfl) ?_
  show am_Ev E l (RX4, cX4_kindOf, 1, (some .int), [], am_rm 0 0 0) (fun b a s x => am_Z E 0 0 b a s ((fun (v : Int32) => ((.inl (some (.int v)), S) : am_R)) x)) 0 0 0 [some (.int p0)] [] S (f_X4_kindOf p0)
  unfold f_X4_kindOf
  refine ev_iload_n dX4_kindOf_0 rfl ?_
  refine ev_bipush (v := 97) dX4_kindOf_1 (by decide) ?_
  refine ev_icmp_lt (tgt := 15) dX4_kindOf_3 (by decide) (fun c1 => ?_) (fun c1 => ?_)
  · refine ev_iload_n dX4_kindOf_15 rfl ?_
    refine ev_bipush (v := 48) dX4_kindOf_16 (by decide) ?_
    refine ev_icmp_lt (tgt := 32) dX4_kindOf_18 (by decide) (fun c2 => ?_) (fun c2 => ?_)
    · refine ev_iload_n dX4_kindOf_32 rfl ?_
      refine ev_sipush (v := 255) dX4_kindOf_33 (by decide) ?_
      refine ev_iand dX4_kindOf_36 ?_
      exact ev_iret dX4_kindOf_37 rfl rfl (by decide) (by decide) rfl
    · refine ev_iload_n dX4_kindOf_21 rfl ?_
      refine ev_bipush (v := 57) dX4_kindOf_22 (by decide) ?_
      refine ev_icmp_gt (tgt := 32) dX4_kindOf_24 (by decide) (fun c3 => ?_) (fun c3 => ?_)
      · refine ev_iload_n dX4_kindOf_32 rfl ?_
        refine ev_sipush (v := 255) dX4_kindOf_33 (by decide) ?_
        refine ev_iand dX4_kindOf_36 ?_
        exact ev_iret dX4_kindOf_37 rfl rfl (by decide) (by decide) rfl
      · refine ev_bipush (v := 48) dX4_kindOf_27 (by decide) ?_
        refine ev_goto (tgt := 37) dX4_kindOf_29 (by decide) ?_
        exact ev_iret dX4_kindOf_37 rfl rfl (by decide) (by decide) rfl
  · refine ev_iload_n dX4_kindOf_6 rfl ?_
    refine ev_bipush (v := 122) dX4_kindOf_7 (by decide) ?_
    refine ev_icmp_gt (tgt := 15) dX4_kindOf_9 (by decide) (fun c4 => ?_) (fun c4 => ?_)
    · refine ev_iload_n dX4_kindOf_15 rfl ?_
      refine ev_bipush (v := 48) dX4_kindOf_16 (by decide) ?_
      refine ev_icmp_lt (tgt := 32) dX4_kindOf_18 (by decide) (fun c5 => ?_) (fun c5 => ?_)
      · refine ev_iload_n dX4_kindOf_32 rfl ?_
        refine ev_sipush (v := 255) dX4_kindOf_33 (by decide) ?_
        refine ev_iand dX4_kindOf_36 ?_
        exact ev_iret dX4_kindOf_37 rfl rfl (by decide) (by decide) rfl
      · refine ev_iload_n dX4_kindOf_21 rfl ?_
        refine ev_bipush (v := 57) dX4_kindOf_22 (by decide) ?_
        refine ev_icmp_gt (tgt := 32) dX4_kindOf_24 (by decide) (fun c6 => ?_) (fun c6 => ?_)
        · refine ev_iload_n dX4_kindOf_32 rfl ?_
          refine ev_sipush (v := 255) dX4_kindOf_33 (by decide) ?_
          refine ev_iand dX4_kindOf_36 ?_
          exact ev_iret dX4_kindOf_37 rfl rfl (by decide) (by decide) rfl
        · refine ev_bipush (v := 48) dX4_kindOf_27 (by decide) ?_
          refine ev_goto (tgt := 37) dX4_kindOf_29 (by decide) ?_
          exact ev_iret dX4_kindOf_37 rfl rfl (by decide) (by decide) rfl
    · refine ev_bipush (v := 97) dX4_kindOf_12 (by decide) ?_
      exact ev_iret dX4_kindOf_14 rfl rfl (by decide) (by decide) rfl
def f_X4_step_b8 (S : am_S) (a0 : Nat) (x1 : (Nat → Nat → Int32)) : Option (((Nat → Nat → Int32)) ⊕ ((Nat → Nat → Int32))) :=
  (if (x1 a0 2) < (x1 a0 1) then ((am_rd S.2 a0 0 2).bind (fun q3 => ((am_ld x1 q3 (x1 a0 2)).bind (fun v4 => (if v4 = 32 then some (.inl (am_u2 x1 a0 2 ((x1 a0 2) + 1))) else some (.inr x1)))))) else some (.inr x1))
def f_X4_step_b106 (S : am_S) (a0 : Nat) (x15 : (Nat → Nat → Int32)) : Option (((Nat → Nat → Int32)) ⊕ ((Nat → Nat → Int32))) :=
  (if (x15 a0 3) < (x15 a0 1) then (if (x15 a0 4) = 97 then ((am_rd S.2 a0 0 2).bind (fun q18 => ((am_ld x15 q18 (x15 a0 3)).bind (fun v19 => ((f_X4_kindOf v19).bind (fun v20 => (if v20 = (x15 a0 4) then some (.inl (am_u2 x15 a0 3 ((x15 a0 3) + 1))) else some (.inr x15)))))))) else (if (x15 a0 4) = 48 then ((am_rd S.2 a0 0 2).bind (fun q23 => ((am_ld x15 q23 (x15 a0 3)).bind (fun v24 => ((f_X4_kindOf v24).bind (fun v25 => (if v25 = (x15 a0 4) then some (.inl (am_u2 x15 a0 3 ((x15 a0 3) + 1))) else some (.inr x15)))))))) else some (.inr x15))) else some (.inr x15))
def f_X4_step (S : am_S) (p0 : Nat) : Option ((Nat → Nat → Int32)) :=
  ((am_loop (f_X4_step_b8 ((am_u2 S.1 p0 2 (S.1 p0 3)), S.2) p0) am_fuel (am_u2 S.1 p0 2 (S.1 p0 3))).bind (fun t1 => ((if ((am_u2 t1 p0 3 (t1 p0 2)) p0 2) < ((am_u2 t1 p0 3 (t1 p0 2)) p0 1) then ((am_rd S.2 p0 0 2).bind (fun q11 => ((am_ld (am_u2 t1 p0 3 (t1 p0 2)) q11 ((am_u2 t1 p0 3 (t1 p0 2)) p0 2)).bind (fun v12 => ((f_X4_kindOf v12).bind (fun v13 => some v13)))))) else some ((-1) : Int32)).bind (fun t10 => ((if ((am_u2 (am_u2 t1 p0 3 (t1 p0 2)) p0 4 t10) p0 2) < ((am_u2 (am_u2 t1 p0 3 (t1 p0 2)) p0 4 t10) p0 1) then some (am_u2 (am_u2 (am_u2 t1 p0 3 (t1 p0 2)) p0 4 t10) p0 3 (((am_u2 (am_u2 t1 p0 3 (t1 p0 2)) p0 4 t10) p0 3) + 1)) else some (am_u2 (am_u2 t1 p0 3 (t1 p0 2)) p0 4 t10)).bind (fun t14 => ((am_loop (f_X4_step_b106 (t14, S.2) p0) am_fuel t14).bind (fun t15 => some t15))))))))
set_option maxRecDepth 20000 in
theorem t_X4_step {E : am_E} {l : Launch} (hl : l.stackTraces = false) {S : am_S} {p0 : Nat} (kp0 : am_kd p0 = 104) : am_M E l yX4_step (.code yX4_step cX4_step 1 none) 1 0 0 [.ref p0] S ((f_X4_step S p0).map (fun (x : Nat → Nat → Int32) => ((.inl none, (x, S.2)) : am_R))) := by
  refine am_M_of (w := fun (x : Nat → Nat → Int32) => ((.inl none, (x, S.2)) : am_R)) hl (by decide) (am_fc rfl am_fn) (Nat.le_of_ble_eq_true rfl) ?_
  show am_Ev E l (RX4, cX4_step, 1, none, [], am_rm 1 0 0) (fun b a s x => am_Z E 0 0 b a s ((fun (x : Nat → Nat → Int32) => ((.inl none, (x, S.2)) : am_R)) x)) 0 0 0 [some (.ref p0)] [] S (f_X4_step S p0)
  unfold f_X4_step
  refine ev_aload_n dX4_step_0 rfl ?_
  refine ev_aload_n dX4_step_1 rfl ?_
  refine ev_get fk_X4_25 dX4_step_2 kp0 (am_fvI (by decide)) ?_
  refine ev_putI fk_X4_34 tyX4 tyX4_ok nmX4 rfl (by decide +kernel) (by decide) dX4_step_5 kp0 ?_
  refine ev_weak (am_wk am_wn) (ev_loop 8 46 (fun x1 : (Nat → Nat → Int32) => [some (.ref p0)]) (fun t1 : (Nat → Nat → Int32) => [some (.ref p0)]) (fun x1 => (x1, S.2)) (fun t1 => (t1, S.2)) (fun x1 G1 hB1 hE1 => ?_) (fun t1 => ?_) am_fuel (am_u2 S.1 p0 2 (S.1 p0 3)))
  · unfold f_X4_step_b8
    refine ev_aload_n dX4_step_8 rfl ?_
    refine ev_get fk_X4_34 dX4_step_9 kp0 (am_fvI (by decide)) ?_
    refine ev_aload_n dX4_step_12 rfl ?_
    refine ev_get fk_X4_21 dX4_step_13 kp0 (am_fvI (by decide)) ?_
    refine ev_eq am_ib ?_
    refine ev_icmp_ge (tgt := 46) dX4_step_16 (by decide) (fun c6 => ?_) (fun c6 => ?_)
    · exact ev_leaf (am_wk am_wn) (hE1 x1)
    · refine ev_aload_n dX4_step_19 rfl ?_
      refine ev_eq (Option.bind_assoc _ _ _) ?_
      refine ev_getR fk_X4_9 (by decide) dX4_step_20 kp0 (fun q7 k7 r7 => ?_)
      refine ev_aload_n dX4_step_23 rfl ?_
      refine ev_get fk_X4_34 dX4_step_24 kp0 (am_fvI (by decide)) ?_
      refine ev_eq (Option.bind_assoc _ _ _) ?_
      refine ev_bald dX4_step_27 k7 (fun v8 h8 => ?_)
      refine ev_bipush (v := 32) dX4_step_28 (by decide) ?_
      refine ev_eq am_ib ?_
      refine ev_icmp_ne (tgt := 46) dX4_step_30 (by decide) (fun c9 => ?_) (fun c9 => ?_)
      · exact ev_leaf (am_wk am_wn) (hE1 x1)
      · refine ev_aload_n dX4_step_33 rfl ?_
        refine ev_dup dX4_step_34 rfl ?_
        refine ev_get fk_X4_34 dX4_step_35 kp0 (am_fvI (by decide)) ?_
        refine ev_iconst (v := 1) dX4_step_38 (by decide) ?_
        refine ev_iadd dX4_step_39 ?_
        refine ev_putI fk_X4_34 tyX4 tyX4_ok nmX4 rfl (by decide +kernel) (by decide) dX4_step_40 kp0 ?_
        refine ev_goto (tgt := 8) dX4_step_43 (by decide) ?_
        exact ev_leaf (am_wk am_wn) (hB1 (am_u2 x1 p0 2 ((x1 p0 2) + 1)))
  · refine ev_aload_n dX4_step_46 rfl ?_
    refine ev_aload_n dX4_step_47 rfl ?_
    refine ev_get fk_X4_34 dX4_step_48 kp0 (am_fvI (by decide)) ?_
    refine ev_putI fk_X4_25 tyX4 tyX4_ok nmX4 rfl (by decide +kernel) (by decide) dX4_step_51 kp0 ?_
    refine ev_aload_n dX4_step_54 rfl ?_
    refine ev_aload_n dX4_step_55 rfl ?_
    refine ev_get fk_X4_34 dX4_step_56 kp0 (am_fvI (by decide)) ?_
    refine ev_aload_n dX4_step_59 rfl ?_
    refine ev_get fk_X4_21 dX4_step_60 kp0 (am_fvI (by decide)) ?_
    refine ev_reg (cs' := 0) (sl' := 0) 82 (fun t10 : Int32 => [some (.ref p0)]) (fun t10 => [.int t10, .ref p0]) (fun t10 => ((am_u2 t1 p0 3 (t1 p0 2)), S.2)) (fun hJ10 => ?_) (fun t10 => ?_)
    · refine ev_eq am_ib ?_
      refine ev_icmp_ge (tgt := 81) dX4_step_63 (by decide) (fun c10 => ?_) (fun c10 => ?_)
      · refine ev_iconst (v := (-1)) dX4_step_81 (by decide) ?_
        exact ev_leaf (am_wk am_wn) (hJ10 ((-1) : Int32))
      · refine ev_aload_n dX4_step_66 rfl ?_
        refine ev_eq (Option.bind_assoc _ _ _) ?_
        refine ev_getR fk_X4_9 (by decide) dX4_step_67 kp0 (fun q11 k11 r11 => ?_)
        refine ev_aload_n dX4_step_70 rfl ?_
        refine ev_get fk_X4_34 dX4_step_71 kp0 (am_fvI (by decide)) ?_
        refine ev_eq (Option.bind_assoc _ _ _) ?_
        refine ev_bald dX4_step_74 k11 (fun v12 h12 => ?_)
        refine ev_eq (Option.bind_assoc _ _ _) ?_
        refine ev_callP (am_callS (as := [.int v12]) (st := [.ref p0]) ct_X4_37 dX4_step_75 rfl (am_le rfl) (am_fit (by omega) (by decide) (by decide) (by decide)) (t_X4_kindOf hl )) (fun v13 h13 => ?_)
        refine ev_goto (tgt := 82) dX4_step_78 (by decide) ?_
        exact ev_leaf (am_wk am_wn) (hJ10 v13)
    · refine ev_putI fk_X4_41 tyX4 tyX4_ok nmX4 rfl (by decide +kernel) (by decide) dX4_step_82 kp0 ?_
      refine ev_aload_n dX4_step_85 rfl ?_
      refine ev_get fk_X4_34 dX4_step_86 kp0 (am_fvI (by decide)) ?_
      refine ev_aload_n dX4_step_89 rfl ?_
      refine ev_get fk_X4_21 dX4_step_90 kp0 (am_fvI (by decide)) ?_
      refine ev_reg (cs' := 0) (sl' := 0) 106 (fun t14 : (Nat → Nat → Int32) => [some (.ref p0)]) (fun t14 => []) (fun t14 => (t14, S.2)) (fun hJ14 => ?_) (fun t14 => ?_)
      · refine ev_eq am_ib ?_
        refine ev_icmp_ge (tgt := 106) dX4_step_93 (by decide) (fun c14 => ?_) (fun c14 => ?_)
        · exact ev_leaf (am_wk am_wn) (hJ14 (am_u2 (am_u2 t1 p0 3 (t1 p0 2)) p0 4 t10))
        · refine ev_aload_n dX4_step_96 rfl ?_
          refine ev_dup dX4_step_97 rfl ?_
          refine ev_get fk_X4_25 dX4_step_98 kp0 (am_fvI (by decide)) ?_
          refine ev_iconst (v := 1) dX4_step_101 (by decide) ?_
          refine ev_iadd dX4_step_102 ?_
          refine ev_putI fk_X4_25 tyX4 tyX4_ok nmX4 rfl (by decide +kernel) (by decide) dX4_step_103 kp0 ?_
          exact ev_leaf (am_wk am_wn) (hJ14 (am_u2 (am_u2 (am_u2 t1 p0 3 (t1 p0 2)) p0 4 t10) p0 3 (((am_u2 (am_u2 t1 p0 3 (t1 p0 2)) p0 4 t10) p0 3) + 1)))
      · refine ev_weak (am_wk am_wn) (ev_loop 106 167 (fun x15 : (Nat → Nat → Int32) => [some (.ref p0)]) (fun t15 : (Nat → Nat → Int32) => [none]) (fun x15 => (x15, S.2)) (fun t15 => (t15, S.2)) (fun x15 G15 hB15 hE15 => ?_) (fun t15 => ?_) am_fuel t14)
        · unfold f_X4_step_b106
          refine ev_aload_n dX4_step_106 rfl ?_
          refine ev_get fk_X4_25 dX4_step_107 kp0 (am_fvI (by decide)) ?_
          refine ev_aload_n dX4_step_110 rfl ?_
          refine ev_get fk_X4_21 dX4_step_111 kp0 (am_fvI (by decide)) ?_
          refine ev_eq am_ib ?_
          refine ev_icmp_ge (tgt := 167) dX4_step_114 (by decide) (fun c27 => ?_) (fun c27 => ?_)
          · exact ev_leaf (am_wf am_wn) (hE15 x15)
          · refine ev_aload_n dX4_step_117 rfl ?_
            refine ev_get fk_X4_41 dX4_step_118 kp0 (am_fvI (by decide)) ?_
            refine ev_bipush (v := 97) dX4_step_121 (by decide) ?_
            refine ev_eq am_ib ?_
            refine ev_icmp_eq (tgt := 135) dX4_step_123 (by decide) (fun c28 => ?_) (fun c28 => ?_)
            · refine ev_aload_n dX4_step_135 rfl ?_
              refine ev_eq (Option.bind_assoc _ _ _) ?_
              refine ev_getR fk_X4_9 (by decide) dX4_step_136 kp0 (fun q29 k29 r29 => ?_)
              refine ev_aload_n dX4_step_139 rfl ?_
              refine ev_get fk_X4_25 dX4_step_140 kp0 (am_fvI (by decide)) ?_
              refine ev_eq (Option.bind_assoc _ _ _) ?_
              refine ev_bald dX4_step_143 k29 (fun v30 h30 => ?_)
              refine ev_eq (Option.bind_assoc _ _ _) ?_
              refine ev_callP (am_callS (as := [.int v30]) (st := []) ct_X4_37 dX4_step_144 rfl (am_le rfl) (am_fit (by omega) (by decide) (by decide) (by decide)) (t_X4_kindOf hl )) (fun v31 h31 => ?_)
              refine ev_aload_n dX4_step_147 rfl ?_
              refine ev_get fk_X4_41 dX4_step_148 kp0 (am_fvI (by decide)) ?_
              refine ev_eq am_ib ?_
              refine ev_icmp_ne (tgt := 167) dX4_step_151 (by decide) (fun c32 => ?_) (fun c32 => ?_)
              · exact ev_leaf (am_wf am_wn) (hE15 x15)
              · refine ev_aload_n dX4_step_154 rfl ?_
                refine ev_dup dX4_step_155 rfl ?_
                refine ev_get fk_X4_25 dX4_step_156 kp0 (am_fvI (by decide)) ?_
                refine ev_iconst (v := 1) dX4_step_159 (by decide) ?_
                refine ev_iadd dX4_step_160 ?_
                refine ev_putI fk_X4_25 tyX4 tyX4_ok nmX4 rfl (by decide +kernel) (by decide) dX4_step_161 kp0 ?_
                refine ev_goto (tgt := 106) dX4_step_164 (by decide) ?_
                exact ev_leaf (am_wk am_wn) (hB15 (am_u2 x15 p0 3 ((x15 p0 3) + 1)))
            · refine ev_aload_n dX4_step_126 rfl ?_
              refine ev_get fk_X4_41 dX4_step_127 kp0 (am_fvI (by decide)) ?_
              refine ev_bipush (v := 48) dX4_step_130 (by decide) ?_
              refine ev_eq am_ib ?_
              refine ev_icmp_ne (tgt := 167) dX4_step_132 (by decide) (fun c33 => ?_) (fun c33 => ?_)
              · exact ev_leaf (am_wf am_wn) (hE15 x15)
              · refine ev_aload_n dX4_step_135 rfl ?_
                refine ev_eq (Option.bind_assoc _ _ _) ?_
                refine ev_getR fk_X4_9 (by decide) dX4_step_136 kp0 (fun q34 k34 r34 => ?_)
                refine ev_aload_n dX4_step_139 rfl ?_
                refine ev_get fk_X4_25 dX4_step_140 kp0 (am_fvI (by decide)) ?_
                refine ev_eq (Option.bind_assoc _ _ _) ?_
                refine ev_bald dX4_step_143 k34 (fun v35 h35 => ?_)
                refine ev_eq (Option.bind_assoc _ _ _) ?_
                refine ev_callP (am_callS (as := [.int v35]) (st := []) ct_X4_37 dX4_step_144 rfl (am_le rfl) (am_fit (by omega) (by decide) (by decide) (by decide)) (t_X4_kindOf hl )) (fun v36 h36 => ?_)
                refine ev_aload_n dX4_step_147 rfl ?_
                refine ev_get fk_X4_41 dX4_step_148 kp0 (am_fvI (by decide)) ?_
                refine ev_eq am_ib ?_
                refine ev_icmp_ne (tgt := 167) dX4_step_151 (by decide) (fun c37 => ?_) (fun c37 => ?_)
                · exact ev_leaf (am_wf am_wn) (hE15 x15)
                · refine ev_aload_n dX4_step_154 rfl ?_
                  refine ev_dup dX4_step_155 rfl ?_
                  refine ev_get fk_X4_25 dX4_step_156 kp0 (am_fvI (by decide)) ?_
                  refine ev_iconst (v := 1) dX4_step_159 (by decide) ?_
                  refine ev_iadd dX4_step_160 ?_
                  refine ev_putI fk_X4_25 tyX4 tyX4_ok nmX4 rfl (by decide +kernel) (by decide) dX4_step_161 kp0 ?_
                  refine ev_goto (tgt := 106) dX4_step_164 (by decide) ?_
                  exact ev_leaf (am_wk am_wn) (hB15 (am_u2 x15 p0 3 ((x15 p0 3) + 1)))
        · exact ev_vret dX4_step_167 rfl (by decide) (by decide) rfl
def f_X4_open (S : am_S) (p0 : Nat) (p1 : Nat) (p2 : Int32) : Option (am_R) :=
  ((f_J9_min_7cf53 p2 (Int32.ofNat (am_ln p1))).bind (fun v1 => ((f_X4_step ((am_u2 (am_u2 (am_u2 S.1 p0 1 v1) p0 3 0) p0 5 (-1)), (am_u2 S.2 p0 0 (some p1))) p0).bind (fun σ2 => some (.inl none, (σ2, (am_u2 S.2 p0 0 (some p1))))))))
set_option maxRecDepth 20000 in
theorem t_X4_open {E : am_E} {l : Launch} (hl : l.stackTraces = false) {S : am_S} {p0 : Nat} {p1 : Nat} {p2 : Int32} (kp0 : am_kd p0 = 104) (kp1 : am_kd p1 = 2) : am_M E l yX4_open (.code yX4_open cX4_open 3 none) 2 0 0 [.ref p0, .ref p1, .int p2] S (f_X4_open S p0 p1 p2) := by
  refine am_M_id (am_M_of (w := fun x => x) hl (by decide) (am_fc rfl (am_fc rfl (am_fc rfl am_fn))) (Nat.le_of_ble_eq_true rfl) ?_)
  show am_Ev E l (RX4, cX4_open, 3, none, [], am_rm 2 0 0) (am_Z E 0 0) 0 0 0 [some (.ref p0), some (.ref p1), some (.int p2)] [] S (f_X4_open S p0 p1 p2)
  unfold f_X4_open
  refine ev_aload_n dX4_open_0 rfl ?_
  refine ev_aload_n dX4_open_1 rfl ?_
  refine ev_putR (ty := (.array .byte)) rfl rfl fk_X4_9 tyX4 tyX4_ok nmX4 rfl (by decide +kernel) (by decide) dX4_open_2 kp0 ?_
  refine ev_aload_n dX4_open_5 rfl ?_
  refine ev_iload_n dX4_open_6 rfl ?_
  refine ev_aload_n dX4_open_7 rfl ?_
  refine ev_alen dX4_open_8 kp1 (by decide) (by decide) ?_
  refine ev_callP (am_callS (as := [.int p2, .int (Int32.ofNat (am_ln p1))]) (st := [.ref p0]) ct_X4_15 dX4_open_9 rfl (am_le rfl) (am_fit (by omega) (by decide) (by decide) (by decide)) (t_J9_min_7cf53 hl )) (fun v1 h1 => ?_)
  refine ev_putI fk_X4_21 tyX4 tyX4_ok nmX4 rfl (by decide +kernel) (by decide) dX4_open_12 kp0 ?_
  refine ev_aload_n dX4_open_15 rfl ?_
  refine ev_iconst (v := 0) dX4_open_16 (by decide) ?_
  refine ev_putI fk_X4_25 tyX4 tyX4_ok nmX4 rfl (by decide +kernel) (by decide) dX4_open_17 kp0 ?_
  refine ev_aload_n dX4_open_20 rfl ?_
  refine ev_iconst (v := (-1)) dX4_open_21 (by decide) ?_
  refine ev_putI fk_X4_28 tyX4 tyX4_ok nmX4 rfl (by decide +kernel) (by decide) dX4_open_22 kp0 ?_
  refine ev_aload_n dX4_open_25 rfl ?_
  refine ev_callWV (am_callV (as := []) (o := p0) (st := []) cv_X4_31 dX4_open_26 kp0 rfl (am_le rfl) (am_fit (by omega) (by decide) (by decide) (by decide)) (t_X4_step hl kp0)) (fun σ2 h2 => ?_)
  exact ev_vret dX4_open_29 rfl (by decide) (by decide) rfl
theorem nt_X4_open {S : am_S} {p0 : Nat} {p1 : Nat} {p2 : Int32} : ∀ r, (f_X4_open S p0 p1 p2) = some r → ∃ v, r.1 = .inl v := am_nt_bind (fun _ => am_nt_bind (fun _ => am_nt_some))
def f_X4_refuse (S : am_S) (p0 : Nat) : Option ((Nat → Nat → Int32)) :=
  (if (S.1 p0 5) = (-1) then some (am_u2 S.1 p0 5 (S.1 p0 2)) else some S.1)
set_option maxRecDepth 20000 in
theorem t_X4_refuse {E : am_E} {l : Launch} (hl : l.stackTraces = false) {S : am_S} {p0 : Nat} (kp0 : am_kd p0 = 104) : am_M E l yX4_refuse (.code yX4_refuse cX4_refuse 1 none) 0 0 0 [.ref p0] S ((f_X4_refuse S p0).map (fun (x : Nat → Nat → Int32) => ((.inl none, (x, S.2)) : am_R))) := by
  refine am_M_of (w := fun (x : Nat → Nat → Int32) => ((.inl none, (x, S.2)) : am_R)) hl (by decide) (am_fc rfl am_fn) (Nat.le_of_ble_eq_true rfl) ?_
  show am_Ev E l (RX4, cX4_refuse, 1, none, [], am_rm 0 0 0) (fun b a s x => am_Z E 0 0 b a s ((fun (x : Nat → Nat → Int32) => ((.inl none, (x, S.2)) : am_R)) x)) 0 0 0 [some (.ref p0)] [] S (f_X4_refuse S p0)
  unfold f_X4_refuse
  refine ev_aload_n dX4_refuse_0 rfl ?_
  refine ev_get fk_X4_28 dX4_refuse_1 kp0 (am_fvI (by decide)) ?_
  refine ev_iconst (v := (-1)) dX4_refuse_4 (by decide) ?_
  refine ev_icmp_ne (tgt := 16) dX4_refuse_5 (by decide) (fun c1 => ?_) (fun c1 => ?_)
  · exact ev_vret dX4_refuse_16 rfl (by decide) (by decide) rfl
  · refine ev_aload_n dX4_refuse_8 rfl ?_
    refine ev_aload_n dX4_refuse_9 rfl ?_
    refine ev_get fk_X4_34 dX4_refuse_10 kp0 (am_fvI (by decide)) ?_
    refine ev_putI fk_X4_28 tyX4 tyX4_ok nmX4 rfl (by decide +kernel) (by decide) dX4_refuse_13 kp0 ?_
    exact ev_vret dX4_refuse_16 rfl (by decide) (by decide) rfl
def f_X4_number_b34 (S : am_S) (a0 : Nat) (a1 : Int32) (a2 : Int32) (x3 : Int32 × Int32) : Option ((Int32 × Int32) ⊕ (Int32)) :=
  (if x3.2 < (S.1 a0 3) then (if x3.2 < (S.1 a0 1) then (if x3.1 = (-1) then some (.inr x3.1) else ((am_rd S.2 a0 0 2).bind (fun q7 => ((am_ld S.1 q7 x3.2).bind (fun v8 => some (.inl ((((x3.1 * 10) + v8) - 48), (x3.2 + 1)))))))) else some (.inr x3.1)) else some (.inr x3.1))
def f_X4_number (S : am_S) (p0 : Nat) (p1 : Int32) (p2 : Int32) : Option (Int32 × (Nat → Nat → Int32)) :=
  ((if (S.1 p0 4) = 48 then (if 3 < ((S.1 p0 3) - (S.1 p0 2)) then some ((-1) : Int32) else some (0 : Int32)) else some ((-1) : Int32)).bind (fun t1 => ((am_loop (f_X4_number_b34 S p0 p1 p2) am_fuel (t1, (S.1 p0 2))).bind (fun t3 => (if (S.1 p0 5) = (-1) then (if t3 < p1 then ((f_X4_refuse S p0).bind (fun σ17 => some ((-1), σ17))) else (if p2 < t3 then ((f_X4_refuse S p0).bind (fun σ20 => some ((-1), σ20))) else ((f_X4_step S p0).bind (fun σ19 => some (t3, σ19))))) else ((f_X4_refuse S p0).bind (fun σ15 => some ((-1), σ15))))))))
set_option maxRecDepth 20000 in
theorem t_X4_number {E : am_E} {l : Launch} (hl : l.stackTraces = false) {S : am_S} {p0 : Nat} {p1 : Int32} {p2 : Int32} (kp0 : am_kd p0 = 104) : am_M E l yX4_number (.code yX4_number cX4_number 5 (some .int)) 2 0 0 [.ref p0, .int p1, .int p2] S ((f_X4_number S p0 p1 p2).map (fun (x : Int32 × (Nat → Nat → Int32)) => ((.inl (some (.int x.1)), (x.2, S.2)) : am_R))) := by
  refine am_M_of (w := fun (x : Int32 × (Nat → Nat → Int32)) => ((.inl (some (.int x.1)), (x.2, S.2)) : am_R)) hl (by decide) (am_fc rfl (am_fc rfl (am_fc rfl am_fn))) (Nat.le_of_ble_eq_true rfl) ?_
  show am_Ev E l (RX4, cX4_number, 5, (some .int), [], am_rm 2 0 0) (fun b a s x => am_Z E 0 0 b a s ((fun (x : Int32 × (Nat → Nat → Int32)) => ((.inl (some (.int x.1)), (x.2, S.2)) : am_R)) x)) 0 0 0 [some (.ref p0), some (.int p1), some (.int p2), none, none] [] S (f_X4_number S p0 p1 p2)
  unfold f_X4_number
  refine ev_aload_n dX4_number_0 rfl ?_
  refine ev_get fk_X4_41 dX4_number_1 kp0 (am_fvI (by decide)) ?_
  refine ev_bipush (v := 48) dX4_number_4 (by decide) ?_
  refine ev_reg (cs' := 0) (sl' := 0) 27 (fun t1 : Int32 => [some (.ref p0), some (.int p1), some (.int p2), none, none]) (fun t1 => [.int t1]) (fun t1 => S) (fun hJ1 => ?_) (fun t1 => ?_)
  · refine ev_eq am_ib ?_
    refine ev_icmp_ne (tgt := 26) dX4_number_6 (by decide) (fun c1 => ?_) (fun c1 => ?_)
    · refine ev_iconst (v := (-1)) dX4_number_26 (by decide) ?_
      exact ev_leaf (am_wk (am_wk (am_wk (am_wf (am_wf am_wn))))) (hJ1 ((-1) : Int32))
    · refine ev_aload_n dX4_number_9 rfl ?_
      refine ev_get fk_X4_25 dX4_number_10 kp0 (am_fvI (by decide)) ?_
      refine ev_aload_n dX4_number_13 rfl ?_
      refine ev_get fk_X4_34 dX4_number_14 kp0 (am_fvI (by decide)) ?_
      refine ev_isub dX4_number_17 ?_
      refine ev_iconst (v := 3) dX4_number_18 (by decide) ?_
      refine ev_eq am_ib ?_
      refine ev_icmp_gt (tgt := 26) dX4_number_19 (by decide) (fun c2 => ?_) (fun c2 => ?_)
      · refine ev_iconst (v := (-1)) dX4_number_26 (by decide) ?_
        exact ev_leaf (am_wk (am_wk (am_wk (am_wf (am_wf am_wn))))) (hJ1 ((-1) : Int32))
      · refine ev_iconst (v := 0) dX4_number_22 (by decide) ?_
        refine ev_goto (tgt := 27) dX4_number_23 (by decide) ?_
        exact ev_leaf (am_wk (am_wk (am_wk (am_wf (am_wf am_wn))))) (hJ1 (0 : Int32))
  · refine ev_istore_n dX4_number_27 (am_lt rfl) ?_
    refine ev_aload_n dX4_number_28 rfl ?_
    refine ev_get fk_X4_34 dX4_number_29 kp0 (am_fvI (by decide)) ?_
    refine ev_istore dX4_number_32 (am_lt rfl) ?_
    refine ev_weak (am_wk (am_wk (am_wk (am_wk (am_wk am_wn))))) (ev_loop 34 79 (fun x3 : Int32 × Int32 => [some (.ref p0), some (.int p1), some (.int p2), some (.int x3.1), some (.int x3.2)]) (fun t3 : Int32 => [some (.ref p0), some (.int p1), some (.int p2), some (.int t3), none]) (fun x3 => S) (fun t3 => S) (fun x3 G3 hB3 hE3 => ?_) (fun t3 => ?_) am_fuel (t1, (S.1 p0 2)))
    · unfold f_X4_number_b34
      refine ev_iload dX4_number_34 rfl ?_
      refine ev_aload_n dX4_number_36 rfl ?_
      refine ev_get fk_X4_25 dX4_number_37 kp0 (am_fvI (by decide)) ?_
      refine ev_eq am_ib ?_
      refine ev_icmp_ge (tgt := 79) dX4_number_40 (by decide) (fun c9 => ?_) (fun c9 => ?_)
      · exact ev_leaf (am_wk (am_wk (am_wk (am_wk (am_wf am_wn))))) (hE3 x3.1)
      · refine ev_iload dX4_number_43 rfl ?_
        refine ev_aload_n dX4_number_45 rfl ?_
        refine ev_get fk_X4_21 dX4_number_46 kp0 (am_fvI (by decide)) ?_
        refine ev_eq am_ib ?_
        refine ev_icmp_ge (tgt := 79) dX4_number_49 (by decide) (fun c10 => ?_) (fun c10 => ?_)
        · exact ev_leaf (am_wk (am_wk (am_wk (am_wk (am_wf am_wn))))) (hE3 x3.1)
        · refine ev_iload_n dX4_number_52 rfl ?_
          refine ev_iconst (v := (-1)) dX4_number_53 (by decide) ?_
          refine ev_eq am_ib ?_
          refine ev_icmp_eq (tgt := 79) dX4_number_54 (by decide) (fun c11 => ?_) (fun c11 => ?_)
          · exact ev_leaf (am_wk (am_wk (am_wk (am_wk (am_wf am_wn))))) (hE3 x3.1)
          · refine ev_iload_n dX4_number_57 rfl ?_
            refine ev_bipush (v := 10) dX4_number_58 (by decide) ?_
            refine ev_imul dX4_number_60 ?_
            refine ev_aload_n dX4_number_61 rfl ?_
            refine ev_eq (Option.bind_assoc _ _ _) ?_
            refine ev_getR fk_X4_9 (by decide) dX4_number_62 kp0 (fun q12 k12 r12 => ?_)
            refine ev_iload dX4_number_65 rfl ?_
            refine ev_eq (Option.bind_assoc _ _ _) ?_
            refine ev_bald dX4_number_67 k12 (fun v13 h13 => ?_)
            refine ev_iadd dX4_number_68 ?_
            refine ev_bipush (v := 48) dX4_number_69 (by decide) ?_
            refine ev_isub dX4_number_71 ?_
            refine ev_istore_n dX4_number_72 (am_lt rfl) ?_
            refine ev_iinc (v := (x3.2 + 1)) dX4_number_73 (am_lt rfl) rfl rfl ?_
            refine ev_goto (tgt := 34) dX4_number_76 (by decide) ?_
            exact ev_leaf (am_wk (am_wk (am_wk (am_wk (am_wk am_wn))))) (hB3 ((((x3.1 * 10) + v13) - 48), (x3.2 + 1)))
    · refine ev_aload_n dX4_number_79 rfl ?_
      refine ev_get fk_X4_28 dX4_number_80 kp0 (am_fvI (by decide)) ?_
      refine ev_iconst (v := (-1)) dX4_number_83 (by decide) ?_
      refine ev_icmp_ne (tgt := 97) dX4_number_84 (by decide) (fun c14 => ?_) (fun c14 => ?_)
      · refine ev_aload_n dX4_number_97 rfl ?_
        refine ev_callWV (am_callV (as := []) (o := p0) (st := []) cv_X4_50 dX4_number_98 kp0 rfl (am_le rfl) (am_fit (by omega) (by decide) (by decide) (by decide)) (t_X4_refuse hl kp0)) (fun σ15 h15 => ?_)
        refine ev_iconst (v := (-1)) dX4_number_101 (by decide) ?_
        exact ev_iret dX4_number_102 rfl rfl (by decide) (by decide) rfl
      · refine ev_iload_n dX4_number_87 rfl ?_
        refine ev_iload_n dX4_number_88 rfl ?_
        refine ev_icmp_lt (tgt := 97) dX4_number_89 (by decide) (fun c16 => ?_) (fun c16 => ?_)
        · refine ev_aload_n dX4_number_97 rfl ?_
          refine ev_callWV (am_callV (as := []) (o := p0) (st := []) cv_X4_50 dX4_number_98 kp0 rfl (am_le rfl) (am_fit (by omega) (by decide) (by decide) (by decide)) (t_X4_refuse hl kp0)) (fun σ17 h17 => ?_)
          refine ev_iconst (v := (-1)) dX4_number_101 (by decide) ?_
          exact ev_iret dX4_number_102 rfl rfl (by decide) (by decide) rfl
        · refine ev_iload_n dX4_number_92 rfl ?_
          refine ev_iload_n dX4_number_93 rfl ?_
          refine ev_icmp_le (tgt := 103) dX4_number_94 (by decide) (fun c18 => ?_) (fun c18 => ?_)
          · refine ev_aload_n dX4_number_103 rfl ?_
            refine ev_callWV (am_callV (as := []) (o := p0) (st := []) cv_X4_31 dX4_number_104 kp0 rfl (am_le rfl) (am_fit (by omega) (by decide) (by decide) (by decide)) (t_X4_step hl kp0)) (fun σ19 h19 => ?_)
            refine ev_iload_n dX4_number_107 rfl ?_
            exact ev_iret dX4_number_108 rfl rfl (by decide) (by decide) rfl
          · refine ev_aload_n dX4_number_97 rfl ?_
            refine ev_callWV (am_callV (as := []) (o := p0) (st := []) cv_X4_50 dX4_number_98 kp0 rfl (am_le rfl) (am_fit (by omega) (by decide) (by decide) (by decide)) (t_X4_refuse hl kp0)) (fun σ20 h20 => ?_)
            refine ev_iconst (v := (-1)) dX4_number_101 (by decide) ?_
            exact ev_iret dX4_number_102 rfl rfl (by decide) (by decide) rfl
def f_X10_readWant (S : am_S) (p0 : Nat) (p1 : Nat) : Option ((Nat → Nat → Int32)) :=
  (if (S.1 p1 1) < 0 then ((am_rd S.2 p0 0 104).bind (fun q2 => ((f_X4_refuse S q2).bind (fun σ3 => some σ3)))) else (if (S.1 p1 1) < 10 then ((am_rd S.2 p0 0 104).bind (fun q5 => ((f_X4_step S q5).bind (fun σ6 => ((am_rd S.2 p1 11 1).bind (fun q7 => ((am_rd S.2 p0 0 104).bind (fun q8 => ((f_X4_number (σ6, S.2) q8 1 99).bind (fun y9 => ((am_st y9.2 q7 (S.1 p1 1) y9.1).bind (fun σ10 => some (am_u2 σ10 p1 1 ((σ10 p1 1) + 1)))))))))))))) else ((am_rd S.2 p0 0 104).bind (fun q11 => ((f_X4_refuse S q11).bind (fun σ12 => some σ12))))))
set_option maxRecDepth 20000 in
theorem t_X10_readWant {E : am_E} {l : Launch} (hl : l.stackTraces = false) {S : am_S} {p0 : Nat} {p1 : Nat} (kp0 : am_kd p0 = 110) (kp1 : am_kd p1 = 109) : am_M E l yX10_readWant (.code yX10_readWant cX10_readWant 3 none) 3 0 0 [.ref p0, .ref p1] S ((f_X10_readWant S p0 p1).map (fun (x : Nat → Nat → Int32) => ((.inl none, (x, S.2)) : am_R))) := by
  refine am_M_of (w := fun (x : Nat → Nat → Int32) => ((.inl none, (x, S.2)) : am_R)) hl (by decide) (am_fc rfl (am_fc rfl am_fn)) (Nat.le_of_ble_eq_true rfl) ?_
  show am_Ev E l (RX10, cX10_readWant, 3, none, [], am_rm 3 0 0) (fun b a s x => am_Z E 0 0 b a s ((fun (x : Nat → Nat → Int32) => ((.inl none, (x, S.2)) : am_R)) x)) 0 0 0 [some (.ref p0), some (.ref p1), none] [] S (f_X10_readWant S p0 p1)
  unfold f_X10_readWant
  refine ev_aload_n dX10_readWant_0 rfl ?_
  refine ev_getN fk_X10_99 dX10_readWant_1 kp1 (am_fvI (by decide)) ?_
  refine ev_istore_n dX10_readWant_4 (am_lt rfl) ?_
  refine ev_iload_n dX10_readWant_5 rfl ?_
  refine ev_if_lt (tgt := 15) dX10_readWant_6 (by decide) (fun c1 => ?_) (fun c1 => ?_)
  · refine ev_aload_n dX10_readWant_15 rfl ?_
    refine ev_getR fk_X10_12 (by decide) dX10_readWant_16 kp0 (fun q2 k2 r2 => ?_)
    refine ev_callWV (am_callVN (as := []) (o := q2) (st := []) cv_X10_67 dX10_readWant_19 k2 rfl (am_le rfl) (am_fit (by omega) (by decide) (by decide) (by decide)) (am_no1 (fun _ => ⟨_, rfl⟩)) (t_X4_refuse hl k2)) (fun σ3 h3 => ?_)
    exact ev_vret dX10_readWant_22 rfl (by decide) (by decide) rfl
  · refine ev_iload_n dX10_readWant_9 rfl ?_
    refine ev_bipush (v := 10) dX10_readWant_10 (by decide) ?_
    refine ev_icmp_lt (tgt := 23) dX10_readWant_12 (by decide) (fun c4 => ?_) (fun c4 => ?_)
    · refine ev_aload_n dX10_readWant_23 rfl ?_
      refine ev_getR fk_X10_12 (by decide) dX10_readWant_24 kp0 (fun q5 k5 r5 => ?_)
      refine ev_callWV (am_callVN (as := []) (o := q5) (st := []) cv_X10_75 dX10_readWant_27 k5 rfl (am_le rfl) (am_fit (by omega) (by decide) (by decide) (by decide)) (am_no1 (fun _ => ⟨_, rfl⟩)) (t_X4_step hl k5)) (fun σ6 h6 => ?_)
      refine ev_aload_n dX10_readWant_30 rfl ?_
      refine ev_getRN fk_X10_102 (by decide) dX10_readWant_31 kp1 (fun q7 k7 r7 => ?_)
      refine ev_iload_n dX10_readWant_34 rfl ?_
      refine ev_aload_n dX10_readWant_35 rfl ?_
      refine ev_getR fk_X10_12 (by decide) dX10_readWant_36 kp0 (fun q8 k8 r8 => ?_)
      refine ev_iconst (v := 1) dX10_readWant_39 (by decide) ?_
      refine ev_bipush (v := 99) dX10_readWant_40 (by decide) ?_
      refine ev_callWI (am_callVN (as := [.int 1, .int 99]) (o := q8) (st := [.int (S.1 p1 1), .ref q7]) cv_X10_82 dX10_readWant_42 k8 rfl (am_le rfl) (am_fit (by omega) (by decide) (by decide) (by decide)) (am_no1 (fun _ => ⟨_, rfl⟩)) (t_X4_number hl k8)) (fun y9 h9 => ?_)
      refine ev_iast dX10_readWant_45 k7 (fun σ10 h10 => ?_)
      refine ev_aload_n dX10_readWant_46 rfl ?_
      refine ev_dup dX10_readWant_47 rfl ?_
      refine ev_getN fk_X10_99 dX10_readWant_48 kp1 (am_fvI (by decide)) ?_
      refine ev_iconst (v := 1) dX10_readWant_51 (by decide) ?_
      refine ev_iadd dX10_readWant_52 ?_
      refine ev_putIN fk_X10_99 tyX9 tyX9_ok nmX9 rfl (by decide +kernel) (by decide) dX10_readWant_53 kp1 ?_
      exact ev_vret dX10_readWant_56 rfl (by decide) (by decide) rfl
    · refine ev_aload_n dX10_readWant_15 rfl ?_
      refine ev_getR fk_X10_12 (by decide) dX10_readWant_16 kp0 (fun q11 k11 r11 => ?_)
      refine ev_callWV (am_callVN (as := []) (o := q11) (st := []) cv_X10_67 dX10_readWant_19 k11 rfl (am_le rfl) (am_fit (by omega) (by decide) (by decide) (by decide)) (am_no1 (fun _ => ⟨_, rfl⟩)) (t_X4_refuse hl k11)) (fun σ12 h12 => ?_)
      exact ev_vret dX10_readWant_22 rfl (by decide) (by decide) rfl
def f_X4_word_b34 (S : am_S) (a0 : Nat) (x3 : Int32 × Int32) : Option ((Int32 × Int32) ⊕ (Int32)) :=
  (if x3.2 < (S.1 a0 3) then (if x3.2 < (S.1 a0 1) then (if x3.1 = (-1) then some (.inr x3.1) else ((am_rd S.2 a0 0 2).bind (fun q7 => ((am_ld S.1 q7 x3.2).bind (fun v8 => ((if v8 = 97 then some (x3.1 * 2) else ((am_rd S.2 a0 0 2).bind (fun q10 => ((am_ld S.1 q10 x3.2).bind (fun v11 => (if v11 = 98 then some ((x3.1 * 2) + 1) else some ((-1) : Int32))))))).bind (fun t9 => some (.inl (t9, (x3.2 + 1)))))))))) else some (.inr x3.1)) else some (.inr x3.1))
def f_X4_word (S : am_S) (p0 : Nat) : Option (Int32 × (Nat → Nat → Int32)) :=
  ((if (S.1 p0 4) = 97 then (if 8 < ((S.1 p0 3) - (S.1 p0 2)) then some ((-1) : Int32) else some (1 : Int32)) else some ((-1) : Int32)).bind (fun t1 => ((am_loop (f_X4_word_b34 S p0) am_fuel (t1, (S.1 p0 2))).bind (fun t3 => (if (S.1 p0 5) = (-1) then (if t3 = (-1) then ((f_X4_refuse S p0).bind (fun σ26 => some ((-1), σ26))) else ((f_X4_step S p0).bind (fun σ25 => some (t3, σ25)))) else ((f_X4_refuse S p0).bind (fun σ23 => some ((-1), σ23))))))))
set_option maxRecDepth 20000 in
theorem t_X4_word {E : am_E} {l : Launch} (hl : l.stackTraces = false) {S : am_S} {p0 : Nat} (kp0 : am_kd p0 = 104) : am_M E l yX4_word (.code yX4_word cX4_word 3 (some .int)) 2 0 0 [.ref p0] S ((f_X4_word S p0).map (fun (x : Int32 × (Nat → Nat → Int32)) => ((.inl (some (.int x.1)), (x.2, S.2)) : am_R))) := by
  refine am_M_of (w := fun (x : Int32 × (Nat → Nat → Int32)) => ((.inl (some (.int x.1)), (x.2, S.2)) : am_R)) hl (by decide) (am_fc rfl am_fn) (Nat.le_of_ble_eq_true rfl) ?_
  show am_Ev E l (RX4, cX4_word, 3, (some .int), [], am_rm 2 0 0) (fun b a s x => am_Z E 0 0 b a s ((fun (x : Int32 × (Nat → Nat → Int32)) => ((.inl (some (.int x.1)), (x.2, S.2)) : am_R)) x)) 0 0 0 [some (.ref p0), none, none] [] S (f_X4_word S p0)
  unfold f_X4_word
  refine ev_aload_n dX4_word_0 rfl ?_
  refine ev_get fk_X4_41 dX4_word_1 kp0 (am_fvI (by decide)) ?_
  refine ev_bipush (v := 97) dX4_word_4 (by decide) ?_
  refine ev_reg (cs' := 0) (sl' := 0) 28 (fun t1 : Int32 => [some (.ref p0), none, none]) (fun t1 => [.int t1]) (fun t1 => S) (fun hJ1 => ?_) (fun t1 => ?_)
  · refine ev_eq am_ib ?_
    refine ev_icmp_ne (tgt := 27) dX4_word_6 (by decide) (fun c1 => ?_) (fun c1 => ?_)
    · refine ev_iconst (v := (-1)) dX4_word_27 (by decide) ?_
      exact ev_leaf (am_wk (am_wf (am_wf am_wn))) (hJ1 ((-1) : Int32))
    · refine ev_aload_n dX4_word_9 rfl ?_
      refine ev_get fk_X4_25 dX4_word_10 kp0 (am_fvI (by decide)) ?_
      refine ev_aload_n dX4_word_13 rfl ?_
      refine ev_get fk_X4_34 dX4_word_14 kp0 (am_fvI (by decide)) ?_
      refine ev_isub dX4_word_17 ?_
      refine ev_bipush (v := 8) dX4_word_18 (by decide) ?_
      refine ev_eq am_ib ?_
      refine ev_icmp_gt (tgt := 27) dX4_word_20 (by decide) (fun c2 => ?_) (fun c2 => ?_)
      · refine ev_iconst (v := (-1)) dX4_word_27 (by decide) ?_
        exact ev_leaf (am_wk (am_wf (am_wf am_wn))) (hJ1 ((-1) : Int32))
      · refine ev_iconst (v := 1) dX4_word_23 (by decide) ?_
        refine ev_goto (tgt := 28) dX4_word_24 (by decide) ?_
        exact ev_leaf (am_wk (am_wf (am_wf am_wn))) (hJ1 (1 : Int32))
  · refine ev_istore_n dX4_word_28 (am_lt rfl) ?_
    refine ev_aload_n dX4_word_29 rfl ?_
    refine ev_get fk_X4_34 dX4_word_30 kp0 (am_fvI (by decide)) ?_
    refine ev_istore_n dX4_word_33 (am_lt rfl) ?_
    refine ev_weak (am_wk (am_wk (am_wk am_wn))) (ev_loop 34 99 (fun x3 : Int32 × Int32 => [some (.ref p0), some (.int x3.1), some (.int x3.2)]) (fun t3 : Int32 => [some (.ref p0), some (.int t3), none]) (fun x3 => S) (fun t3 => S) (fun x3 G3 hB3 hE3 => ?_) (fun t3 => ?_) am_fuel (t1, (S.1 p0 2)))
    · unfold f_X4_word_b34
      refine ev_iload_n dX4_word_34 rfl ?_
      refine ev_aload_n dX4_word_35 rfl ?_
      refine ev_get fk_X4_25 dX4_word_36 kp0 (am_fvI (by decide)) ?_
      refine ev_eq am_ib ?_
      refine ev_icmp_ge (tgt := 99) dX4_word_39 (by decide) (fun c13 => ?_) (fun c13 => ?_)
      · exact ev_leaf (am_wk (am_wk (am_wf am_wn))) (hE3 x3.1)
      · refine ev_iload_n dX4_word_42 rfl ?_
        refine ev_aload_n dX4_word_43 rfl ?_
        refine ev_get fk_X4_21 dX4_word_44 kp0 (am_fvI (by decide)) ?_
        refine ev_eq am_ib ?_
        refine ev_icmp_ge (tgt := 99) dX4_word_47 (by decide) (fun c14 => ?_) (fun c14 => ?_)
        · exact ev_leaf (am_wk (am_wk (am_wf am_wn))) (hE3 x3.1)
        · refine ev_iload_n dX4_word_50 rfl ?_
          refine ev_iconst (v := (-1)) dX4_word_51 (by decide) ?_
          refine ev_eq am_ib ?_
          refine ev_icmp_eq (tgt := 99) dX4_word_52 (by decide) (fun c15 => ?_) (fun c15 => ?_)
          · exact ev_leaf (am_wk (am_wk (am_wf am_wn))) (hE3 x3.1)
          · refine ev_aload_n dX4_word_55 rfl ?_
            refine ev_eq (Option.bind_assoc _ _ _) ?_
            refine ev_getR fk_X4_9 (by decide) dX4_word_56 kp0 (fun q16 k16 r16 => ?_)
            refine ev_iload_n dX4_word_59 rfl ?_
            refine ev_eq (Option.bind_assoc _ _ _) ?_
            refine ev_bald dX4_word_60 k16 (fun v17 h17 => ?_)
            refine ev_bipush (v := 97) dX4_word_61 (by decide) ?_
            refine ev_eq (Option.bind_assoc _ _ _) ?_
            refine ev_reg (cs' := 0) (sl' := 0) 92 (fun t18 : Int32 => [some (.ref p0), none, some (.int x3.2)]) (fun t18 => [.int t18]) (fun t18 => S) (fun hJ18 => ?_) (fun t18 => ?_)
            · refine ev_eq am_ib ?_
              refine ev_icmp_ne (tgt := 72) dX4_word_63 (by decide) (fun c18 => ?_) (fun c18 => ?_)
              · refine ev_aload_n dX4_word_72 rfl ?_
                refine ev_eq (Option.bind_assoc _ _ _) ?_
                refine ev_getR fk_X4_9 (by decide) dX4_word_73 kp0 (fun q19 k19 r19 => ?_)
                refine ev_iload_n dX4_word_76 rfl ?_
                refine ev_eq (Option.bind_assoc _ _ _) ?_
                refine ev_bald dX4_word_77 k19 (fun v20 h20 => ?_)
                refine ev_bipush (v := 98) dX4_word_78 (by decide) ?_
                refine ev_eq am_ib ?_
                refine ev_icmp_ne (tgt := 91) dX4_word_80 (by decide) (fun c21 => ?_) (fun c21 => ?_)
                · refine ev_iconst (v := (-1)) dX4_word_91 (by decide) ?_
                  exact ev_leaf (am_wk (am_wf (am_wk am_wn))) (hJ18 ((-1) : Int32))
                · refine ev_iload_n dX4_word_83 rfl ?_
                  refine ev_iconst (v := 2) dX4_word_84 (by decide) ?_
                  refine ev_imul dX4_word_85 ?_
                  refine ev_iconst (v := 1) dX4_word_86 (by decide) ?_
                  refine ev_iadd dX4_word_87 ?_
                  refine ev_goto (tgt := 92) dX4_word_88 (by decide) ?_
                  exact ev_leaf (am_wk (am_wf (am_wk am_wn))) (hJ18 ((x3.1 * 2) + 1))
              · refine ev_iload_n dX4_word_66 rfl ?_
                refine ev_iconst (v := 2) dX4_word_67 (by decide) ?_
                refine ev_imul dX4_word_68 ?_
                refine ev_goto (tgt := 92) dX4_word_69 (by decide) ?_
                exact ev_leaf (am_wk (am_wf (am_wk am_wn))) (hJ18 (x3.1 * 2))
            · refine ev_istore_n dX4_word_92 (am_lt rfl) ?_
              refine ev_iinc (v := (x3.2 + 1)) dX4_word_93 (am_lt rfl) rfl rfl ?_
              refine ev_goto (tgt := 34) dX4_word_96 (by decide) ?_
              exact ev_leaf (am_wk (am_wk (am_wk am_wn))) (hB3 (t18, (x3.2 + 1)))
    · refine ev_aload_n dX4_word_99 rfl ?_
      refine ev_get fk_X4_28 dX4_word_100 kp0 (am_fvI (by decide)) ?_
      refine ev_iconst (v := (-1)) dX4_word_103 (by decide) ?_
      refine ev_icmp_ne (tgt := 112) dX4_word_104 (by decide) (fun c22 => ?_) (fun c22 => ?_)
      · refine ev_aload_n dX4_word_112 rfl ?_
        refine ev_callWV (am_callV (as := []) (o := p0) (st := []) cv_X4_50 dX4_word_113 kp0 rfl (am_le rfl) (am_fit (by omega) (by decide) (by decide) (by decide)) (t_X4_refuse hl kp0)) (fun σ23 h23 => ?_)
        refine ev_iconst (v := (-1)) dX4_word_116 (by decide) ?_
        exact ev_iret dX4_word_117 rfl rfl (by decide) (by decide) rfl
      · refine ev_iload_n dX4_word_107 rfl ?_
        refine ev_iconst (v := (-1)) dX4_word_108 (by decide) ?_
        refine ev_icmp_ne (tgt := 118) dX4_word_109 (by decide) (fun c24 => ?_) (fun c24 => ?_)
        · refine ev_aload_n dX4_word_118 rfl ?_
          refine ev_callWV (am_callV (as := []) (o := p0) (st := []) cv_X4_31 dX4_word_119 kp0 rfl (am_le rfl) (am_fit (by omega) (by decide) (by decide) (by decide)) (t_X4_step hl kp0)) (fun σ25 h25 => ?_)
          refine ev_iload_n dX4_word_122 rfl ?_
          exact ev_iret dX4_word_123 rfl rfl (by decide) (by decide) rfl
        · refine ev_aload_n dX4_word_112 rfl ?_
          refine ev_callWV (am_callV (as := []) (o := p0) (st := []) cv_X4_50 dX4_word_113 kp0 rfl (am_le rfl) (am_fit (by omega) (by decide) (by decide) (by decide)) (t_X4_refuse hl kp0)) (fun σ26 h26 => ?_)
          refine ev_iconst (v := (-1)) dX4_word_116 (by decide) ?_
          exact ev_iret dX4_word_117 rfl rfl (by decide) (by decide) rfl
def f_X9_hasHouse (S : am_S) (p0 : Nat) (p1 : Int32) : Option (Int32) :=
  (if p1 < 0 then some 0 else (if p1 < (S.1 p0 0) then (if p1 < 8 then some 1 else some 0) else some 0))
set_option maxRecDepth 20000 in
theorem t_X9_hasHouse {E : am_E} {l : Launch} (hl : l.stackTraces = false) {S : am_S} {p0 : Nat} {p1 : Int32} (kp0 : am_kd p0 = 109) : am_M E l yX9_hasHouse (.code yX9_hasHouse cX9_hasHouse 2 (some .boolean)) 0 0 0 [.ref p0, .int p1] S ((f_X9_hasHouse S p0 p1).map (fun (v : Int32) => ((.inl (some (.int v)), S) : am_R))) := by
  refine am_M_of (w := fun (v : Int32) => ((.inl (some (.int v)), S) : am_R)) hl (by decide) (am_fc rfl (am_fc rfl am_fn)) (Nat.le_of_ble_eq_true rfl) ?_
  show am_Ev E l (RX9, cX9_hasHouse, 2, (some .boolean), [], am_rm 0 0 0) (fun b a s x => am_Z E 0 0 b a s ((fun (v : Int32) => ((.inl (some (.int v)), S) : am_R)) x)) 0 0 0 [some (.ref p0), some (.int p1)] [] S (f_X9_hasHouse S p0 p1)
  unfold f_X9_hasHouse
  refine ev_iload_n dX9_hasHouse_0 rfl ?_
  refine ev_if_lt (tgt := 22) dX9_hasHouse_1 (by decide) (fun c1 => ?_) (fun c1 => ?_)
  · refine ev_iconst (v := 0) dX9_hasHouse_22 (by decide) ?_
    exact ev_iret dX9_hasHouse_23 rfl (by decide) (by decide) (by decide) rfl
  · refine ev_iload_n dX9_hasHouse_4 rfl ?_
    refine ev_aload_n dX9_hasHouse_5 rfl ?_
    refine ev_get fk_X9_50 dX9_hasHouse_6 kp0 (am_fvI (by decide)) ?_
    refine ev_icmp_ge (tgt := 22) dX9_hasHouse_9 (by decide) (fun c2 => ?_) (fun c2 => ?_)
    · refine ev_iconst (v := 0) dX9_hasHouse_22 (by decide) ?_
      exact ev_iret dX9_hasHouse_23 rfl (by decide) (by decide) (by decide) rfl
    · refine ev_iload_n dX9_hasHouse_12 rfl ?_
      refine ev_bipush (v := 8) dX9_hasHouse_13 (by decide) ?_
      refine ev_icmp_ge (tgt := 22) dX9_hasHouse_15 (by decide) (fun c3 => ?_) (fun c3 => ?_)
      · refine ev_iconst (v := 0) dX9_hasHouse_22 (by decide) ?_
        exact ev_iret dX9_hasHouse_23 rfl (by decide) (by decide) (by decide) rfl
      · refine ev_iconst (v := 1) dX9_hasHouse_18 (by decide) ?_
        refine ev_goto (tgt := 23) dX9_hasHouse_19 (by decide) ?_
        exact ev_iret dX9_hasHouse_23 rfl (by decide) (by decide) (by decide) rfl
def f_X9_hasWant (S : am_S) (p0 : Nat) (p1 : Int32) : Option (Int32) :=
  (if p1 < 0 then some 0 else (if p1 < (S.1 p0 1) then (if p1 < 10 then some 1 else some 0) else some 0))
set_option maxRecDepth 20000 in
theorem t_X9_hasWant {E : am_E} {l : Launch} (hl : l.stackTraces = false) {S : am_S} {p0 : Nat} {p1 : Int32} (kp0 : am_kd p0 = 109) : am_M E l yX9_hasWant (.code yX9_hasWant cX9_hasWant 2 (some .boolean)) 0 0 0 [.ref p0, .int p1] S ((f_X9_hasWant S p0 p1).map (fun (v : Int32) => ((.inl (some (.int v)), S) : am_R))) := by
  refine am_M_of (w := fun (v : Int32) => ((.inl (some (.int v)), S) : am_R)) hl (by decide) (am_fc rfl (am_fc rfl am_fn)) (Nat.le_of_ble_eq_true rfl) ?_
  show am_Ev E l (RX9, cX9_hasWant, 2, (some .boolean), [], am_rm 0 0 0) (fun b a s x => am_Z E 0 0 b a s ((fun (v : Int32) => ((.inl (some (.int v)), S) : am_R)) x)) 0 0 0 [some (.ref p0), some (.int p1)] [] S (f_X9_hasWant S p0 p1)
  unfold f_X9_hasWant
  refine ev_iload_n dX9_hasWant_0 rfl ?_
  refine ev_if_lt (tgt := 22) dX9_hasWant_1 (by decide) (fun c1 => ?_) (fun c1 => ?_)
  · refine ev_iconst (v := 0) dX9_hasWant_22 (by decide) ?_
    exact ev_iret dX9_hasWant_23 rfl (by decide) (by decide) (by decide) rfl
  · refine ev_iload_n dX9_hasWant_4 rfl ?_
    refine ev_aload_n dX9_hasWant_5 rfl ?_
    refine ev_get fk_X9_54 dX9_hasWant_6 kp0 (am_fvI (by decide)) ?_
    refine ev_icmp_ge (tgt := 22) dX9_hasWant_9 (by decide) (fun c2 => ?_) (fun c2 => ?_)
    · refine ev_iconst (v := 0) dX9_hasWant_22 (by decide) ?_
      exact ev_iret dX9_hasWant_23 rfl (by decide) (by decide) (by decide) rfl
    · refine ev_iload_n dX9_hasWant_12 rfl ?_
      refine ev_bipush (v := 10) dX9_hasWant_13 (by decide) ?_
      refine ev_icmp_ge (tgt := 22) dX9_hasWant_15 (by decide) (fun c3 => ?_) (fun c3 => ?_)
      · refine ev_iconst (v := 0) dX9_hasWant_22 (by decide) ?_
        exact ev_iret dX9_hasWant_23 rfl (by decide) (by decide) (by decide) rfl
      · refine ev_iconst (v := 1) dX9_hasWant_18 (by decide) ?_
        refine ev_goto (tgt := 23) dX9_hasWant_19 (by decide) ?_
        exact ev_iret dX9_hasWant_23 rfl (by decide) (by decide) (by decide) rfl
def f_X9_setWord (S : am_S) (p0 : Nat) (p1 : Int32) (p2 : Int32) (p3 : Int32) : Option ((Nat → Nat → Int32)) :=
  ((f_X9_hasHouse S p0 p1).bind (fun v1 => (if v1 = 0 then some S.1 else ((f_X9_hasWant S p0 p2).bind (fun v3 => (if v3 = 0 then some S.1 else ((am_rd S.2 p0 12 1).bind (fun q5 => ((am_st S.1 q5 ((p1 * 10) + p2) p3).bind (fun σ6 => some σ6))))))))))
set_option maxRecDepth 20000 in
theorem t_X9_setWord {E : am_E} {l : Launch} (hl : l.stackTraces = false) {S : am_S} {p0 : Nat} {p1 : Int32} {p2 : Int32} {p3 : Int32} (kp0 : am_kd p0 = 109) : am_M E l yX9_setWord (.code yX9_setWord cX9_setWord 4 none) 1 0 0 [.ref p0, .int p1, .int p2, .int p3] S ((f_X9_setWord S p0 p1 p2 p3).map (fun (x : Nat → Nat → Int32) => ((.inl none, (x, S.2)) : am_R))) := by
  refine am_M_of (w := fun (x : Nat → Nat → Int32) => ((.inl none, (x, S.2)) : am_R)) hl (by decide) (am_fc rfl (am_fc rfl (am_fc rfl (am_fc rfl am_fn)))) (Nat.le_of_ble_eq_true rfl) ?_
  show am_Ev E l (RX9, cX9_setWord, 4, none, [], am_rm 1 0 0) (fun b a s x => am_Z E 0 0 b a s ((fun (x : Nat → Nat → Int32) => ((.inl none, (x, S.2)) : am_R)) x)) 0 0 0 [some (.ref p0), some (.int p1), some (.int p2), some (.int p3)] [] S (f_X9_setWord S p0 p1 p2 p3)
  unfold f_X9_setWord
  refine ev_aload_n dX9_setWord_0 rfl ?_
  refine ev_iload_n dX9_setWord_1 rfl ?_
  refine ev_callP (am_callV (as := [.int p1]) (o := p0) (st := []) cv_X9_86 dX9_setWord_2 kp0 rfl (am_le rfl) (am_fit (by omega) (by decide) (by decide) (by decide)) (t_X9_hasHouse hl kp0)) (fun v1 h1 => ?_)
  refine ev_if_eq (tgt := 28) dX9_setWord_5 (by decide) (fun c2 => ?_) (fun c2 => ?_)
  · exact ev_vret dX9_setWord_28 rfl (by decide) (by decide) rfl
  · refine ev_aload_n dX9_setWord_8 rfl ?_
    refine ev_iload_n dX9_setWord_9 rfl ?_
    refine ev_callP (am_callV (as := [.int p2]) (o := p0) (st := []) cv_X9_82 dX9_setWord_10 kp0 rfl (am_le rfl) (am_fit (by omega) (by decide) (by decide) (by decide)) (t_X9_hasWant hl kp0)) (fun v3 h3 => ?_)
    refine ev_if_eq (tgt := 28) dX9_setWord_13 (by decide) (fun c4 => ?_) (fun c4 => ?_)
    · exact ev_vret dX9_setWord_28 rfl (by decide) (by decide) rfl
    · refine ev_aload_n dX9_setWord_16 rfl ?_
      refine ev_getR fk_X9_30 (by decide) dX9_setWord_17 kp0 (fun q5 k5 r5 => ?_)
      refine ev_iload_n dX9_setWord_20 rfl ?_
      refine ev_bipush (v := 10) dX9_setWord_21 (by decide) ?_
      refine ev_imul dX9_setWord_23 ?_
      refine ev_iload_n dX9_setWord_24 rfl ?_
      refine ev_iadd dX9_setWord_25 ?_
      refine ev_iload_n dX9_setWord_26 rfl ?_
      refine ev_iast dX9_setWord_27 k5 (fun σ6 h6 => ?_)
      exact ev_vret dX9_setWord_28 rfl (by decide) (by decide) rfl
def f_X10_readCode (S : am_S) (p0 : Nat) (p1 : Nat) (p2 : Int32) : Option ((Nat → Nat → Int32)) :=
  ((am_rd S.2 p0 0 104).bind (fun q1 => ((f_X4_number S q1 0 ((S.1 p1 0) - 1)).bind (fun y2 => ((am_rd S.2 p0 0 104).bind (fun q3 => ((f_X4_number (y2.2, S.2) q3 0 ((y2.2 p1 1) - 1)).bind (fun y4 => ((if p2 = 0 then some (((-1) : Int32), y4.2) else ((am_rd S.2 p0 0 104).bind (fun q6 => ((f_X4_word (y4.2, S.2) q6).bind (fun y7 => some (y7.1, y7.2)))))).bind (fun t5 => ((f_X9_setWord (t5.2, S.2) p1 y2.1 y4.1 t5.1).bind (fun σ8 => some σ8))))))))))))
set_option maxRecDepth 20000 in
theorem t_X10_readCode {E : am_E} {l : Launch} (hl : l.stackTraces = false) {S : am_S} {p0 : Nat} {p1 : Nat} {p2 : Int32} (kp0 : am_kd p0 = 110) (kp1 : am_kd p1 = 109) : am_M E l yX10_readCode (.code yX10_readCode cX10_readCode 6 none) 3 0 0 [.ref p0, .ref p1, .int p2] S ((f_X10_readCode S p0 p1 p2).map (fun (x : Nat → Nat → Int32) => ((.inl none, (x, S.2)) : am_R))) := by
  refine am_M_of (w := fun (x : Nat → Nat → Int32) => ((.inl none, (x, S.2)) : am_R)) hl (by decide) (am_fc rfl (am_fc rfl (am_fc rfl am_fn))) (Nat.le_of_ble_eq_true rfl) ?_
  show am_Ev E l (RX10, cX10_readCode, 6, none, [], am_rm 3 0 0) (fun b a s x => am_Z E 0 0 b a s ((fun (x : Nat → Nat → Int32) => ((.inl none, (x, S.2)) : am_R)) x)) 0 0 0 [some (.ref p0), some (.ref p1), some (.int p2), none, none, none] [] S (f_X10_readCode S p0 p1 p2)
  unfold f_X10_readCode
  refine ev_aload_n dX10_readCode_0 rfl ?_
  refine ev_getR fk_X10_12 (by decide) dX10_readCode_1 kp0 (fun q1 k1 r1 => ?_)
  refine ev_iconst (v := 0) dX10_readCode_4 (by decide) ?_
  refine ev_aload_n dX10_readCode_5 rfl ?_
  refine ev_getN fk_X10_70 dX10_readCode_6 kp1 (am_fvI (by decide)) ?_
  refine ev_iconst (v := 1) dX10_readCode_9 (by decide) ?_
  refine ev_isub dX10_readCode_10 ?_
  refine ev_callWI (am_callVN (as := [.int 0, .int ((S.1 p1 0) - 1)]) (o := q1) (st := []) cv_X10_82 dX10_readCode_11 k1 rfl (am_le rfl) (am_fit (by omega) (by decide) (by decide) (by decide)) (am_no1 (fun _ => ⟨_, rfl⟩)) (t_X4_number hl k1)) (fun y2 h2 => ?_)
  refine ev_istore_n dX10_readCode_14 (am_lt rfl) ?_
  refine ev_aload_n dX10_readCode_15 rfl ?_
  refine ev_getR fk_X10_12 (by decide) dX10_readCode_16 kp0 (fun q3 k3 r3 => ?_)
  refine ev_iconst (v := 0) dX10_readCode_19 (by decide) ?_
  refine ev_aload_n dX10_readCode_20 rfl ?_
  refine ev_getN fk_X10_99 dX10_readCode_21 kp1 (am_fvI (by decide)) ?_
  refine ev_iconst (v := 1) dX10_readCode_24 (by decide) ?_
  refine ev_isub dX10_readCode_25 ?_
  refine ev_callWI (am_callVN (as := [.int 0, .int ((y2.2 p1 1) - 1)]) (o := q3) (st := []) cv_X10_82 dX10_readCode_26 k3 rfl (am_le rfl) (am_fit (by omega) (by decide) (by decide) (by decide)) (am_no1 (fun _ => ⟨_, rfl⟩)) (t_X4_number hl k3)) (fun y4 h4 => ?_)
  refine ev_istore dX10_readCode_29 (am_lt rfl) ?_
  refine ev_iload_n dX10_readCode_31 rfl ?_
  refine ev_reg (cs' := 0) (sl' := 0) 46 (fun t5 : Int32 × (Nat → Nat → Int32) => [none, some (.ref p1), none, some (.int y2.1), some (.int y4.1), none]) (fun t5 => [.int t5.1]) (fun t5 => (t5.2, S.2)) (fun hJ5 => ?_) (fun t5 => ?_)
  · refine ev_eq am_ib ?_
    refine ev_if_eq (tgt := 45) dX10_readCode_32 (by decide) (fun c5 => ?_) (fun c5 => ?_)
    · refine ev_iconst (v := (-1)) dX10_readCode_45 (by decide) ?_
      exact ev_leaf (am_wf (am_wk (am_wf (am_wk (am_wk (am_wf am_wn)))))) (hJ5 (((-1) : Int32), y4.2))
    · refine ev_aload_n dX10_readCode_35 rfl ?_
      refine ev_eq (Option.bind_assoc _ _ _) ?_
      refine ev_getR fk_X10_12 (by decide) dX10_readCode_36 kp0 (fun q6 k6 r6 => ?_)
      refine ev_eq (Option.bind_assoc _ _ _) ?_
      refine ev_callWI (am_callVN (as := []) (o := q6) (st := []) cv_X10_105 dX10_readCode_39 k6 rfl (am_le rfl) (am_fit (by omega) (by decide) (by decide) (by decide)) (am_no1 (fun _ => ⟨_, rfl⟩)) (t_X4_word hl k6)) (fun y7 h7 => ?_)
      refine ev_goto (tgt := 46) dX10_readCode_42 (by decide) ?_
      exact ev_leaf (am_wf (am_wk (am_wf (am_wk (am_wk (am_wf am_wn)))))) (hJ5 (y7.1, y7.2))
  · refine ev_istore dX10_readCode_46 (am_lt rfl) ?_
    refine ev_aload_n dX10_readCode_48 rfl ?_
    refine ev_iload_n dX10_readCode_49 rfl ?_
    refine ev_iload dX10_readCode_50 rfl ?_
    refine ev_iload dX10_readCode_52 rfl ?_
    refine ev_callWV (am_callVN (as := [.int y2.1, .int y4.1, .int t5.1]) (o := p1) (st := []) cv_X10_109 dX10_readCode_54 kp1 rfl (am_le rfl) (am_fit (by omega) (by decide) (by decide) (by decide)) (am_no1 (fun _ => ⟨_, rfl⟩)) (t_X9_setWord hl kp1)) (fun σ8 h8 => ?_)
    exact ev_vret dX10_readCode_57 rfl (by decide) (by decide) rfl
def f_X10_readWind (S : am_S) (p0 : Nat) (p1 : Nat) (p2 : Int32) : Option ((Nat → Nat → Int32)) :=
  ((am_rd S.2 p0 0 104).bind (fun q1 => ((f_X4_number S q1 0 9).bind (fun y2 => ((am_rd S.2 p0 0 104).bind (fun q3 => ((f_X4_number ((am_u2 y2.2 p1 4 (p2 * y2.1)), S.2) q3 0 9).bind (fun y4 => some (am_u2 y4.2 p1 5 (p2 * y4.1))))))))))
set_option maxRecDepth 20000 in
theorem t_X10_readWind {E : am_E} {l : Launch} (hl : l.stackTraces = false) {S : am_S} {p0 : Nat} {p1 : Nat} {p2 : Int32} (kp0 : am_kd p0 = 110) (kp1 : am_kd p1 = 109) : am_M E l yX10_readWind (.code yX10_readWind cX10_readWind 3 none) 3 0 0 [.ref p0, .ref p1, .int p2] S ((f_X10_readWind S p0 p1 p2).map (fun (x : Nat → Nat → Int32) => ((.inl none, (x, S.2)) : am_R))) := by
  refine am_M_of (w := fun (x : Nat → Nat → Int32) => ((.inl none, (x, S.2)) : am_R)) hl (by decide) (am_fc rfl (am_fc rfl (am_fc rfl am_fn))) (Nat.le_of_ble_eq_true rfl) ?_
  show am_Ev E l (RX10, cX10_readWind, 3, none, [], am_rm 3 0 0) (fun b a s x => am_Z E 0 0 b a s ((fun (x : Nat → Nat → Int32) => ((.inl none, (x, S.2)) : am_R)) x)) 0 0 0 [some (.ref p0), some (.ref p1), some (.int p2)] [] S (f_X10_readWind S p0 p1 p2)
  unfold f_X10_readWind
  refine ev_aload_n dX10_readWind_0 rfl ?_
  refine ev_iload_n dX10_readWind_1 rfl ?_
  refine ev_aload_n dX10_readWind_2 rfl ?_
  refine ev_getR fk_X10_12 (by decide) dX10_readWind_3 kp0 (fun q1 k1 r1 => ?_)
  refine ev_iconst (v := 0) dX10_readWind_6 (by decide) ?_
  refine ev_bipush (v := 9) dX10_readWind_7 (by decide) ?_
  refine ev_callWI (am_callVN (as := [.int 0, .int 9]) (o := q1) (st := [.int p2, .ref p1]) cv_X10_82 dX10_readWind_9 k1 rfl (am_le rfl) (am_fit (by omega) (by decide) (by decide) (by decide)) (am_no1 (fun _ => ⟨_, rfl⟩)) (t_X4_number hl k1)) (fun y2 h2 => ?_)
  refine ev_imul dX10_readWind_12 ?_
  refine ev_putIN fk_X10_113 tyX9 tyX9_ok nmX9 rfl (by decide +kernel) (by decide) dX10_readWind_13 kp1 ?_
  refine ev_aload_n dX10_readWind_16 rfl ?_
  refine ev_iload_n dX10_readWind_17 rfl ?_
  refine ev_aload_n dX10_readWind_18 rfl ?_
  refine ev_getR fk_X10_12 (by decide) dX10_readWind_19 kp0 (fun q3 k3 r3 => ?_)
  refine ev_iconst (v := 0) dX10_readWind_22 (by decide) ?_
  refine ev_bipush (v := 9) dX10_readWind_23 (by decide) ?_
  refine ev_callWI (am_callVN (as := [.int 0, .int 9]) (o := q3) (st := [.int p2, .ref p1]) cv_X10_82 dX10_readWind_25 k3 rfl (am_le rfl) (am_fit (by omega) (by decide) (by decide) (by decide)) (am_no1 (fun _ => ⟨_, rfl⟩)) (t_X4_number hl k3)) (fun y4 h4 => ?_)
  refine ev_imul dX10_readWind_28 ?_
  refine ev_putIN fk_X10_116 tyX9 tyX9_ok nmX9 rfl (by decide +kernel) (by decide) dX10_readWind_29 kp1 ?_
  exact ev_vret dX10_readWind_32 rfl (by decide) (by decide) rfl
def f_J9_abs_0f7a4 (p0 : Int32) : Option (Int32) :=
  (if p0 < 0 then some (-p0) else some p0)
set_option maxRecDepth 20000 in
theorem t_J9_abs_0f7a4 {E : am_E} {l : Launch} (hl : l.stackTraces = false) {S : am_S} {p0 : Int32}  : am_M E l yJ9_abs_0f7a4 (.code yJ9_abs_0f7a4 cJ9_abs_0f7a4 1 (some .int)) 0 0 0 [.int p0] S ((f_J9_abs_0f7a4 p0).map (fun (v : Int32) => ((.inl (some (.int v)), S) : am_R))) := by
  refine am_M_ofF (w := fun (v : Int32) => ((.inl (some (.int v)), S) : am_R)) hl (by decide +kernel) (am_fc rfl am_fn) (Nat.le_of_ble_eq_true rfl) ?_
  show am_Ev E l (RJ9, cJ9_abs_0f7a4, 1, (some .int), [], am_rm 0 0 0) (fun b a s x => am_Z E 0 0 b a s ((fun (v : Int32) => ((.inl (some (.int v)), S) : am_R)) x)) 0 0 0 [some (.int p0)] [] S (f_J9_abs_0f7a4 p0)
  unfold f_J9_abs_0f7a4
  refine ev_iload_n dJ9_abs_0f7a4_0 rfl ?_
  refine ev_if_ge (tgt := 9) dJ9_abs_0f7a4_1 (by decide) (fun c1 => ?_) (fun c1 => ?_)
  · refine ev_iload_n dJ9_abs_0f7a4_9 rfl ?_
    exact ev_iret dJ9_abs_0f7a4_10 rfl rfl (by decide) (by decide) rfl
  · refine ev_iload_n dJ9_abs_0f7a4_4 rfl ?_
    refine ev_ineg dJ9_abs_0f7a4_5 ?_
    refine ev_goto (tgt := 10) dJ9_abs_0f7a4_6 (by decide) ?_
    exact ev_iret dJ9_abs_0f7a4_10 rfl rfl (by decide) (by decide) rfl
def f_X9_farFrom (S : am_S) (p0 : Nat) (p1 : Int32) (p2 : Int32) : Option (Int32) :=
  ((f_X9_hasHouse S p0 p1).bind (fun v1 => (if v1 = 0 then some 0 else ((f_X9_hasHouse S p0 p2).bind (fun v3 => (if v3 = 0 then some 0 else ((am_rd S.2 p0 6 1).bind (fun q5 => ((am_ld S.1 q5 p2).bind (fun v6 => ((am_rd S.2 p0 6 1).bind (fun q7 => ((am_ld S.1 q7 p1).bind (fun v8 => ((f_J9_abs_0f7a4 ((v6 + (S.1 p0 4)) - v8)).bind (fun v9 => ((am_rd S.2 p0 7 1).bind (fun q10 => ((am_ld S.1 q10 p2).bind (fun v11 => ((am_rd S.2 p0 7 1).bind (fun q12 => ((am_ld S.1 q12 p1).bind (fun v13 => ((f_J9_abs_0f7a4 ((v11 + (S.1 p0 5)) - v13)).bind (fun v14 => some (v9 + v14)))))))))))))))))))))))))))
set_option maxRecDepth 20000 in
theorem t_X9_farFrom {E : am_E} {l : Launch} (hl : l.stackTraces = false) {S : am_S} {p0 : Nat} {p1 : Int32} {p2 : Int32} (kp0 : am_kd p0 = 109) : am_M E l yX9_farFrom (.code yX9_farFrom cX9_farFrom 3 (some .int)) 1 0 0 [.ref p0, .int p1, .int p2] S ((f_X9_farFrom S p0 p1 p2).map (fun (v : Int32) => ((.inl (some (.int v)), S) : am_R))) := by
  refine am_M_of (w := fun (v : Int32) => ((.inl (some (.int v)), S) : am_R)) hl (by decide) (am_fc rfl (am_fc rfl (am_fc rfl am_fn))) (Nat.le_of_ble_eq_true rfl) ?_
  show am_Ev E l (RX9, cX9_farFrom, 3, (some .int), [], am_rm 1 0 0) (fun b a s x => am_Z E 0 0 b a s ((fun (v : Int32) => ((.inl (some (.int v)), S) : am_R)) x)) 0 0 0 [some (.ref p0), some (.int p1), some (.int p2)] [] S (f_X9_farFrom S p0 p1 p2)
  unfold f_X9_farFrom
  refine ev_aload_n dX9_farFrom_0 rfl ?_
  refine ev_iload_n dX9_farFrom_1 rfl ?_
  refine ev_callP (am_callV (as := [.int p1]) (o := p0) (st := []) cv_X9_86 dX9_farFrom_2 kp0 rfl (am_le rfl) (am_fit (by omega) (by decide) (by decide) (by decide)) (t_X9_hasHouse hl kp0)) (fun v1 h1 => ?_)
  refine ev_if_eq (tgt := 16) dX9_farFrom_5 (by decide) (fun c2 => ?_) (fun c2 => ?_)
  · refine ev_iconst (v := 0) dX9_farFrom_16 (by decide) ?_
    exact ev_iret dX9_farFrom_17 rfl rfl (by decide) (by decide) rfl
  · refine ev_aload_n dX9_farFrom_8 rfl ?_
    refine ev_iload_n dX9_farFrom_9 rfl ?_
    refine ev_callP (am_callV (as := [.int p2]) (o := p0) (st := []) cv_X9_86 dX9_farFrom_10 kp0 rfl (am_le rfl) (am_fit (by omega) (by decide) (by decide) (by decide)) (t_X9_hasHouse hl kp0)) (fun v3 h3 => ?_)
    refine ev_if_ne (tgt := 18) dX9_farFrom_13 (by decide) (fun c4 => ?_) (fun c4 => ?_)
    · refine ev_aload_n dX9_farFrom_18 rfl ?_
      refine ev_getR fk_X9_9 (by decide) dX9_farFrom_19 kp0 (fun q5 k5 r5 => ?_)
      refine ev_iload_n dX9_farFrom_22 rfl ?_
      refine ev_iald dX9_farFrom_23 k5 (fun v6 h6 => ?_)
      refine ev_aload_n dX9_farFrom_24 rfl ?_
      refine ev_get fk_X9_63 dX9_farFrom_25 kp0 (am_fvI (by decide)) ?_
      refine ev_iadd dX9_farFrom_28 ?_
      refine ev_aload_n dX9_farFrom_29 rfl ?_
      refine ev_getR fk_X9_9 (by decide) dX9_farFrom_30 kp0 (fun q7 k7 r7 => ?_)
      refine ev_iload_n dX9_farFrom_33 rfl ?_
      refine ev_iald dX9_farFrom_34 k7 (fun v8 h8 => ?_)
      refine ev_isub dX9_farFrom_35 ?_
      refine ev_callP (am_callS (as := [.int ((v6 + (S.1 p0 4)) - v8)]) (st := []) ct_X9_100 dX9_farFrom_36 rfl (am_le rfl) (am_fit (by omega) (by decide) (by decide) (by decide)) (t_J9_abs_0f7a4 hl )) (fun v9 h9 => ?_)
      refine ev_aload_n dX9_farFrom_39 rfl ?_
      refine ev_getR fk_X9_15 (by decide) dX9_farFrom_40 kp0 (fun q10 k10 r10 => ?_)
      refine ev_iload_n dX9_farFrom_43 rfl ?_
      refine ev_iald dX9_farFrom_44 k10 (fun v11 h11 => ?_)
      refine ev_aload_n dX9_farFrom_45 rfl ?_
      refine ev_get fk_X9_66 dX9_farFrom_46 kp0 (am_fvI (by decide)) ?_
      refine ev_iadd dX9_farFrom_49 ?_
      refine ev_aload_n dX9_farFrom_50 rfl ?_
      refine ev_getR fk_X9_15 (by decide) dX9_farFrom_51 kp0 (fun q12 k12 r12 => ?_)
      refine ev_iload_n dX9_farFrom_54 rfl ?_
      refine ev_iald dX9_farFrom_55 k12 (fun v13 h13 => ?_)
      refine ev_isub dX9_farFrom_56 ?_
      refine ev_callP (am_callS (as := [.int ((v11 + (S.1 p0 5)) - v13)]) (st := [.int v9]) ct_X9_100 dX9_farFrom_57 rfl (am_le rfl) (am_fit (by omega) (by decide) (by decide) (by decide)) (t_J9_abs_0f7a4 hl )) (fun v14 h14 => ?_)
      refine ev_iadd dX9_farFrom_60 ?_
      exact ev_iret dX9_farFrom_61 rfl rfl (by decide) (by decide) rfl
    · refine ev_iconst (v := 0) dX9_farFrom_16 (by decide) ?_
      exact ev_iret dX9_farFrom_17 rfl rfl (by decide) (by decide) rfl
def f_X9_measureWays_b18 (S : am_S) (a0 : Nat) (a1 : Int32) (x4 : Int32 × (Nat → Nat → Int32)) : Option ((Int32 × (Nat → Nat → Int32)) ⊕ ((Nat → Nat → Int32))) :=
  (if x4.1 < (x4.2 a0 0) then (if x4.1 < 8 then ((am_rd S.2 a0 8 1).bind (fun q7 => ((am_ld x4.2 q7 x4.1).bind (fun v8 => ((f_X9_farFrom (x4.2, S.2) a0 a1 x4.1).bind (fun v9 => ((if a1 = x4.1 then some (0 : Int32) else ((am_rd S.2 a0 10 1).bind (fun q11 => ((am_ld x4.2 q11 a1).bind (fun v12 => (if v12 = 0 then (if (v8 - v9) < 0 then some (0 : Int32) else some (1 : Int32)) else some (0 : Int32))))))).bind (fun t10 => ((am_rd S.2 a0 13 1).bind (fun q15 => ((if t10 = 0 then some (0 : Int32) else some (((v8 - v9) / 3) + 1)).bind (fun t16 => ((am_st x4.2 q15 ((a1 * 8) + x4.1) t16).bind (fun σ17 => some (.inl ((x4.1 + 1), σ17)))))))))))))))) else some (.inr x4.2)) else some (.inr x4.2))
def f_X9_measureWays_b2 (S : am_S) (a0 : Nat) (x1 : Int32 × (Nat → Nat → Int32)) : Option ((Int32 × (Nat → Nat → Int32)) ⊕ ((Nat → Nat → Int32))) :=
  (if x1.1 < (x1.2 a0 0) then (if x1.1 < 8 then ((am_loop (f_X9_measureWays_b18 (x1.2, S.2) a0 x1.1) am_fuel (0, x1.2)).bind (fun t4 => some (.inl ((x1.1 + 1), t4)))) else some (.inr x1.2)) else some (.inr x1.2))
def f_X9_measureWays (S : am_S) (p0 : Nat) : Option ((Nat → Nat → Int32)) :=
  ((am_loop (f_X9_measureWays_b2 S p0) am_fuel (0, S.1)).bind (fun t1 => some t1))
set_option maxRecDepth 20000 in
theorem t_X9_measureWays {E : am_E} {l : Launch} (hl : l.stackTraces = false) {S : am_S} {p0 : Nat} (kp0 : am_kd p0 = 109) : am_M E l yX9_measureWays (.code yX9_measureWays cX9_measureWays 5 none) 2 0 0 [.ref p0] S ((f_X9_measureWays S p0).map (fun (x : Nat → Nat → Int32) => ((.inl none, (x, S.2)) : am_R))) := by
  refine am_M_of (w := fun (x : Nat → Nat → Int32) => ((.inl none, (x, S.2)) : am_R)) hl (by decide) (am_fc rfl am_fn) (Nat.le_of_ble_eq_true rfl) ?_
  show am_Ev E l (RX9, cX9_measureWays, 5, none, [], am_rm 2 0 0) (fun b a s x => am_Z E 0 0 b a s ((fun (x : Nat → Nat → Int32) => ((.inl none, (x, S.2)) : am_R)) x)) 0 0 0 [some (.ref p0), none, none, none, none] [] S (f_X9_measureWays S p0)
  unfold f_X9_measureWays
  refine ev_iconst (v := 0) dX9_measureWays_0 (by decide) ?_
  refine ev_istore_n dX9_measureWays_1 (am_lt rfl) ?_
  refine ev_weak (am_wk (am_wk (am_wf (am_wf (am_wf am_wn))))) (ev_loop 2 108 (fun x1 : Int32 × (Nat → Nat → Int32) => [some (.ref p0), some (.int x1.1), none, none, none]) (fun t1 : (Nat → Nat → Int32) => [none, none, none, none, none]) (fun x1 => (x1.2, S.2)) (fun t1 => (t1, S.2)) (fun x1 G1 hB1 hE1 => ?_) (fun t1 => ?_) am_fuel (0, S.1))
  · unfold f_X9_measureWays_b2
    refine ev_iload_n dX9_measureWays_2 rfl ?_
    refine ev_aload_n dX9_measureWays_3 rfl ?_
    refine ev_get fk_X9_50 dX9_measureWays_4 kp0 (am_fvI (by decide)) ?_
    refine ev_eq am_ib ?_
    refine ev_icmp_ge (tgt := 108) dX9_measureWays_7 (by decide) (fun c31 => ?_) (fun c31 => ?_)
    · exact ev_leaf (am_wf (am_wf (am_wf (am_wf (am_wf am_wn))))) (hE1 x1.2)
    · refine ev_iload_n dX9_measureWays_10 rfl ?_
      refine ev_bipush (v := 8) dX9_measureWays_11 (by decide) ?_
      refine ev_eq am_ib ?_
      refine ev_icmp_ge (tgt := 108) dX9_measureWays_13 (by decide) (fun c32 => ?_) (fun c32 => ?_)
      · exact ev_leaf (am_wf (am_wf (am_wf (am_wf (am_wf am_wn))))) (hE1 x1.2)
      · refine ev_iconst (v := 0) dX9_measureWays_16 (by decide) ?_
        refine ev_istore_n dX9_measureWays_17 (am_lt rfl) ?_
        refine ev_eq (Option.bind_assoc _ _ _) ?_
        refine ev_weak (am_wk (am_wk (am_wk (am_wf (am_wf am_wn))))) (ev_loop 18 102 (fun x33 : Int32 × (Nat → Nat → Int32) => [some (.ref p0), some (.int x1.1), some (.int x33.1), none, none]) (fun t33 : (Nat → Nat → Int32) => [some (.ref p0), some (.int x1.1), none, none, none]) (fun x33 => (x33.2, S.2)) (fun t33 => (t33, S.2)) (fun x33 G33 hB33 hE33 => ?_) (fun t33 => ?_) am_fuel (0, x1.2))
        · unfold f_X9_measureWays_b18
          refine ev_iload_n dX9_measureWays_18 rfl ?_
          refine ev_aload_n dX9_measureWays_19 rfl ?_
          refine ev_get fk_X9_50 dX9_measureWays_20 kp0 (am_fvI (by decide)) ?_
          refine ev_eq am_ib ?_
          refine ev_icmp_ge (tgt := 102) dX9_measureWays_23 (by decide) (fun c47 => ?_) (fun c47 => ?_)
          · exact ev_leaf (am_wk (am_wk (am_wf (am_wf (am_wf am_wn))))) (hE33 x33.2)
          · refine ev_iload_n dX9_measureWays_26 rfl ?_
            refine ev_bipush (v := 8) dX9_measureWays_27 (by decide) ?_
            refine ev_eq am_ib ?_
            refine ev_icmp_ge (tgt := 102) dX9_measureWays_29 (by decide) (fun c48 => ?_) (fun c48 => ?_)
            · exact ev_leaf (am_wk (am_wk (am_wf (am_wf (am_wf am_wn))))) (hE33 x33.2)
            · refine ev_aload_n dX9_measureWays_32 rfl ?_
              refine ev_eq (Option.bind_assoc _ _ _) ?_
              refine ev_getR fk_X9_18 (by decide) dX9_measureWays_33 kp0 (fun q49 k49 r49 => ?_)
              refine ev_iload_n dX9_measureWays_36 rfl ?_
              refine ev_eq (Option.bind_assoc _ _ _) ?_
              refine ev_iald dX9_measureWays_37 k49 (fun v50 h50 => ?_)
              refine ev_aload_n dX9_measureWays_38 rfl ?_
              refine ev_iload_n dX9_measureWays_39 rfl ?_
              refine ev_iload_n dX9_measureWays_40 rfl ?_
              refine ev_eq (Option.bind_assoc _ _ _) ?_
              refine ev_callP (am_callV (as := [.int x1.1, .int x33.1]) (o := p0) (st := [.int v50]) cv_X9_105 dX9_measureWays_41 kp0 rfl (am_le rfl) (am_fit (by omega) (by decide) (by decide) (by decide)) (t_X9_farFrom hl kp0)) (fun v51 h51 => ?_)
              refine ev_isub dX9_measureWays_44 ?_
              refine ev_istore_n dX9_measureWays_45 (am_lt rfl) ?_
              refine ev_iload_n dX9_measureWays_46 rfl ?_
              refine ev_iload_n dX9_measureWays_47 rfl ?_
              refine ev_eq (Option.bind_assoc _ _ _) ?_
              refine ev_reg (cs' := 0) (sl' := 0) 69 (fun t52 : Int32 => [some (.ref p0), some (.int x1.1), some (.int x33.1), some (.int (v50 - v51)), none]) (fun t52 => [.int t52]) (fun t52 => (x33.2, S.2)) (fun hJ52 => ?_) (fun t52 => ?_)
              · refine ev_eq am_ib ?_
                refine ev_icmp_eq (tgt := 68) dX9_measureWays_48 (by decide) (fun c52 => ?_) (fun c52 => ?_)
                · refine ev_iconst (v := 0) dX9_measureWays_68 (by decide) ?_
                  exact ev_leaf (am_wk (am_wk (am_wk (am_wk (am_wf am_wn))))) (hJ52 (0 : Int32))
                · refine ev_aload_n dX9_measureWays_51 rfl ?_
                  refine ev_eq (Option.bind_assoc _ _ _) ?_
                  refine ev_getR fk_X9_24 (by decide) dX9_measureWays_52 kp0 (fun q53 k53 r53 => ?_)
                  refine ev_iload_n dX9_measureWays_55 rfl ?_
                  refine ev_eq (Option.bind_assoc _ _ _) ?_
                  refine ev_iald dX9_measureWays_56 k53 (fun v54 h54 => ?_)
                  refine ev_eq am_ib ?_
                  refine ev_if_ne (tgt := 68) dX9_measureWays_57 (by decide) (fun c55 => ?_) (fun c55 => ?_)
                  · refine ev_iconst (v := 0) dX9_measureWays_68 (by decide) ?_
                    exact ev_leaf (am_wk (am_wk (am_wk (am_wk (am_wf am_wn))))) (hJ52 (0 : Int32))
                  · refine ev_iload_n dX9_measureWays_60 rfl ?_
                    refine ev_eq am_ib ?_
                    refine ev_if_lt (tgt := 68) dX9_measureWays_61 (by decide) (fun c56 => ?_) (fun c56 => ?_)
                    · refine ev_iconst (v := 0) dX9_measureWays_68 (by decide) ?_
                      exact ev_leaf (am_wk (am_wk (am_wk (am_wk (am_wf am_wn))))) (hJ52 (0 : Int32))
                    · refine ev_iconst (v := 1) dX9_measureWays_64 (by decide) ?_
                      refine ev_goto (tgt := 69) dX9_measureWays_65 (by decide) ?_
                      exact ev_leaf (am_wk (am_wk (am_wk (am_wk (am_wf am_wn))))) (hJ52 (1 : Int32))
              · refine ev_istore dX9_measureWays_69 (am_lt rfl) ?_
                refine ev_aload_n dX9_measureWays_71 rfl ?_
                refine ev_eq (Option.bind_assoc _ _ _) ?_
                refine ev_getR fk_X9_33 (by decide) dX9_measureWays_72 kp0 (fun q57 k57 r57 => ?_)
                refine ev_iload_n dX9_measureWays_75 rfl ?_
                refine ev_bipush (v := 8) dX9_measureWays_76 (by decide) ?_
                refine ev_imul dX9_measureWays_78 ?_
                refine ev_iload_n dX9_measureWays_79 rfl ?_
                refine ev_iadd dX9_measureWays_80 ?_
                refine ev_iload dX9_measureWays_81 rfl ?_
                refine ev_eq (Option.bind_assoc _ _ _) ?_
                refine ev_reg (cs' := 0) (sl' := 0) 95 (fun t58 : Int32 => [some (.ref p0), some (.int x1.1), some (.int x33.1), none, none]) (fun t58 => [.int t58, .int ((x1.1 * 8) + x33.1), .ref q57]) (fun t58 => (x33.2, S.2)) (fun hJ58 => ?_) (fun t58 => ?_)
                · refine ev_eq am_ib ?_
                  refine ev_if_eq (tgt := 94) dX9_measureWays_83 (by decide) (fun c58 => ?_) (fun c58 => ?_)
                  · refine ev_iconst (v := 0) dX9_measureWays_94 (by decide) ?_
                    exact ev_leaf (am_wk (am_wk (am_wk (am_wf (am_wf am_wn))))) (hJ58 (0 : Int32))
                  · refine ev_iload_n dX9_measureWays_86 rfl ?_
                    refine ev_iconst (v := 3) dX9_measureWays_87 (by decide) ?_
                    refine ev_idiv dX9_measureWays_88 (by decide) ?_
                    refine ev_iconst (v := 1) dX9_measureWays_89 (by decide) ?_
                    refine ev_iadd dX9_measureWays_90 ?_
                    refine ev_goto (tgt := 95) dX9_measureWays_91 (by decide) ?_
                    exact ev_leaf (am_wk (am_wk (am_wk (am_wf (am_wf am_wn))))) (hJ58 (((v50 - v51) / 3) + 1))
                · refine ev_eq (Option.bind_assoc _ _ _) ?_
                  refine ev_iast dX9_measureWays_95 k57 (fun σ59 h59 => ?_)
                  refine ev_iinc (v := (x33.1 + 1)) dX9_measureWays_96 (am_lt rfl) rfl rfl ?_
                  refine ev_goto (tgt := 18) dX9_measureWays_99 (by decide) ?_
                  exact ev_leaf (am_wk (am_wk (am_wk (am_wf (am_wf am_wn))))) (hB33 ((x33.1 + 1), σ59))
        · refine ev_iinc (v := (x1.1 + 1)) dX9_measureWays_102 (am_lt rfl) rfl rfl ?_
          refine ev_goto (tgt := 2) dX9_measureWays_105 (by decide) ?_
          exact ev_leaf (am_wk (am_wk (am_wf (am_wf (am_wf am_wn))))) (hB1 ((x1.1 + 1), t33))
  · exact ev_vret dX9_measureWays_108 rfl (by decide) (by decide) rfl
def f_X1_clear (S : am_S) (p0 : Nat) : Option ((Nat → Nat → Int32)) :=
  some (am_u2 (am_u2 S.1 p0 0 0) p0 1 0)
set_option maxRecDepth 20000 in
theorem t_X1_clear {E : am_E} {l : Launch} (hl : l.stackTraces = false) {S : am_S} {p0 : Nat} (kp0 : am_kd p0 = 101) : am_M E l yX1_clear (.code yX1_clear cX1_clear 1 none) 0 0 0 [.ref p0] S ((f_X1_clear S p0).map (fun (x : Nat → Nat → Int32) => ((.inl none, (x, S.2)) : am_R))) := by
  refine am_M_of (w := fun (x : Nat → Nat → Int32) => ((.inl none, (x, S.2)) : am_R)) hl (by decide) (am_fc rfl am_fn) (Nat.le_of_ble_eq_true rfl) ?_
  show am_Ev E l (RX1, cX1_clear, 1, none, [], am_rm 0 0 0) (fun b a s x => am_Z E 0 0 b a s ((fun (x : Nat → Nat → Int32) => ((.inl none, (x, S.2)) : am_R)) x)) 0 0 0 [some (.ref p0)] [] S (f_X1_clear S p0)
  unfold f_X1_clear
  refine ev_aload_n dX1_clear_0 rfl ?_
  refine ev_iconst (v := 0) dX1_clear_1 (by decide) ?_
  refine ev_putI fk_X1_9 tyX1 tyX1_ok nmX1 rfl (by decide +kernel) (by decide) dX1_clear_2 kp0 ?_
  refine ev_aload_n dX1_clear_5 rfl ?_
  refine ev_iconst (v := 0) dX1_clear_6 (by decide) ?_
  refine ev_putI fk_X1_32 tyX1 tyX1_ok nmX1 rfl (by decide +kernel) (by decide) dX1_clear_7 kp0 ?_
  exact ev_vret dX1_clear_10 rfl (by decide) (by decide) rfl
def f_X1_addStep (S : am_S) (p0 : Nat) (p1 : Int32) : Option ((Nat → Nat → Int32)) :=
  (if (S.1 p0 1) < 400 then ((am_rd S.2 p0 4 3).bind (fun q2 => ((am_st S.1 q2 (S.1 p0 1) ((p1).toInt16.toInt32).toInt16.toInt32).bind (fun σ3 => some (am_u2 σ3 p0 1 ((σ3 p0 1) + 1)))))) else some S.1)
set_option maxRecDepth 20000 in
theorem t_X1_addStep {E : am_E} {l : Launch} (hl : l.stackTraces = false) {S : am_S} {p0 : Nat} {p1 : Int32} (kp0 : am_kd p0 = 101) : am_M E l yX1_addStep (.code yX1_addStep cX1_addStep 2 none) 0 0 0 [.ref p0, .int p1] S ((f_X1_addStep S p0 p1).map (fun (x : Nat → Nat → Int32) => ((.inl none, (x, S.2)) : am_R))) := by
  refine am_M_of (w := fun (x : Nat → Nat → Int32) => ((.inl none, (x, S.2)) : am_R)) hl (by decide) (am_fc rfl (am_fc rfl am_fn)) (Nat.le_of_ble_eq_true rfl) ?_
  show am_Ev E l (RX1, cX1_addStep, 2, none, [], am_rm 0 0 0) (fun b a s x => am_Z E 0 0 b a s ((fun (x : Nat → Nat → Int32) => ((.inl none, (x, S.2)) : am_R)) x)) 0 0 0 [some (.ref p0), some (.int p1)] [] S (f_X1_addStep S p0 p1)
  unfold f_X1_addStep
  refine ev_aload_n dX1_addStep_0 rfl ?_
  refine ev_get fk_X1_32 dX1_addStep_1 kp0 (am_fvI (by decide)) ?_
  refine ev_sipush (v := 400) dX1_addStep_4 (by decide) ?_
  refine ev_icmp_ge (tgt := 31) dX1_addStep_7 (by decide) (fun c1 => ?_) (fun c1 => ?_)
  · exact ev_vret dX1_addStep_31 rfl (by decide) (by decide) rfl
  · refine ev_aload_n dX1_addStep_10 rfl ?_
    refine ev_getR fk_X1_22 (by decide) dX1_addStep_11 kp0 (fun q2 k2 r2 => ?_)
    refine ev_aload_n dX1_addStep_14 rfl ?_
    refine ev_get fk_X1_32 dX1_addStep_15 kp0 (am_fvI (by decide)) ?_
    refine ev_iload_n dX1_addStep_18 rfl ?_
    refine ev_i2s dX1_addStep_19 ?_
    refine ev_sast dX1_addStep_20 k2 (fun σ3 h3 => ?_)
    refine ev_aload_n dX1_addStep_21 rfl ?_
    refine ev_dup dX1_addStep_22 rfl ?_
    refine ev_get fk_X1_32 dX1_addStep_23 kp0 (am_fvI (by decide)) ?_
    refine ev_iconst (v := 1) dX1_addStep_26 (by decide) ?_
    refine ev_iadd dX1_addStep_27 ?_
    refine ev_putI fk_X1_32 tyX1 tyX1_ok nmX1 rfl (by decide +kernel) (by decide) dX1_addStep_28 kp0 ?_
    exact ev_vret dX1_addStep_31 rfl (by decide) (by decide) rfl
def f_X4_isAtNumber (S : am_S) (p0 : Nat) : Option (Int32) :=
  (if (S.1 p0 5) = (-1) then (if (S.1 p0 4) = 48 then some 1 else some 0) else some 0)
set_option maxRecDepth 20000 in
theorem t_X4_isAtNumber {E : am_E} {l : Launch} (hl : l.stackTraces = false) {S : am_S} {p0 : Nat} (kp0 : am_kd p0 = 104) : am_M E l yX4_isAtNumber (.code yX4_isAtNumber cX4_isAtNumber 1 (some .boolean)) 0 0 0 [.ref p0] S ((f_X4_isAtNumber S p0).map (fun (v : Int32) => ((.inl (some (.int v)), S) : am_R))) := by
  refine am_M_of (w := fun (v : Int32) => ((.inl (some (.int v)), S) : am_R)) hl (by decide) (am_fc rfl am_fn) (Nat.le_of_ble_eq_true rfl) ?_
  show am_Ev E l (RX4, cX4_isAtNumber, 1, (some .boolean), [], am_rm 0 0 0) (fun b a s x => am_Z E 0 0 b a s ((fun (v : Int32) => ((.inl (some (.int v)), S) : am_R)) x)) 0 0 0 [some (.ref p0)] [] S (f_X4_isAtNumber S p0)
  unfold f_X4_isAtNumber
  refine ev_aload_n dX4_isAtNumber_0 rfl ?_
  refine ev_get fk_X4_28 dX4_isAtNumber_1 kp0 (am_fvI (by decide)) ?_
  refine ev_iconst (v := (-1)) dX4_isAtNumber_4 (by decide) ?_
  refine ev_icmp_ne (tgt := 21) dX4_isAtNumber_5 (by decide) (fun c1 => ?_) (fun c1 => ?_)
  · refine ev_iconst (v := 0) dX4_isAtNumber_21 (by decide) ?_
    exact ev_iret dX4_isAtNumber_22 rfl (by decide) (by decide) (by decide) rfl
  · refine ev_aload_n dX4_isAtNumber_8 rfl ?_
    refine ev_get fk_X4_41 dX4_isAtNumber_9 kp0 (am_fvI (by decide)) ?_
    refine ev_bipush (v := 48) dX4_isAtNumber_12 (by decide) ?_
    refine ev_icmp_ne (tgt := 21) dX4_isAtNumber_14 (by decide) (fun c2 => ?_) (fun c2 => ?_)
    · refine ev_iconst (v := 0) dX4_isAtNumber_21 (by decide) ?_
      exact ev_iret dX4_isAtNumber_22 rfl (by decide) (by decide) (by decide) rfl
    · refine ev_iconst (v := 1) dX4_isAtNumber_17 (by decide) ?_
      refine ev_goto (tgt := 22) dX4_isAtNumber_18 (by decide) ?_
      exact ev_iret dX4_isAtNumber_22 rfl (by decide) (by decide) (by decide) rfl
def f_X1_endLine (S : am_S) (p0 : Nat) (p1 : Int32) : Option ((Nat → Nat → Int32)) :=
  (if (S.1 p0 0) < 12 then ((am_rd S.2 p0 2 1).bind (fun q2 => ((am_st S.1 q2 (S.1 p0 0) p1).bind (fun σ3 => ((am_rd S.2 p0 3 1).bind (fun q4 => ((am_st σ3 q4 (σ3 p0 0) (σ3 p0 1)).bind (fun σ5 => some (am_u2 σ5 p0 0 ((σ5 p0 0) + 1)))))))))) else some S.1)
set_option maxRecDepth 20000 in
theorem t_X1_endLine {E : am_E} {l : Launch} (hl : l.stackTraces = false) {S : am_S} {p0 : Nat} {p1 : Int32} (kp0 : am_kd p0 = 101) : am_M E l yX1_endLine (.code yX1_endLine cX1_endLine 2 none) 0 0 0 [.ref p0, .int p1] S ((f_X1_endLine S p0 p1).map (fun (x : Nat → Nat → Int32) => ((.inl none, (x, S.2)) : am_R))) := by
  refine am_M_of (w := fun (x : Nat → Nat → Int32) => ((.inl none, (x, S.2)) : am_R)) hl (by decide) (am_fc rfl (am_fc rfl am_fn)) (Nat.le_of_ble_eq_true rfl) ?_
  show am_Ev E l (RX1, cX1_endLine, 2, none, [], am_rm 0 0 0) (fun b a s x => am_Z E 0 0 b a s ((fun (x : Nat → Nat → Int32) => ((.inl none, (x, S.2)) : am_R)) x)) 0 0 0 [some (.ref p0), some (.int p1)] [] S (f_X1_endLine S p0 p1)
  unfold f_X1_endLine
  refine ev_aload_n dX1_endLine_0 rfl ?_
  refine ev_get fk_X1_9 dX1_endLine_1 kp0 (am_fvI (by decide)) ?_
  refine ev_bipush (v := 12) dX1_endLine_4 (by decide) ?_
  refine ev_icmp_ge (tgt := 42) dX1_endLine_6 (by decide) (fun c1 => ?_) (fun c1 => ?_)
  · exact ev_vret dX1_endLine_42 rfl (by decide) (by decide) rfl
  · refine ev_aload_n dX1_endLine_9 rfl ?_
    refine ev_getR fk_X1_15 (by decide) dX1_endLine_10 kp0 (fun q2 k2 r2 => ?_)
    refine ev_aload_n dX1_endLine_13 rfl ?_
    refine ev_get fk_X1_9 dX1_endLine_14 kp0 (am_fvI (by decide)) ?_
    refine ev_iload_n dX1_endLine_17 rfl ?_
    refine ev_iast dX1_endLine_18 k2 (fun σ3 h3 => ?_)
    refine ev_aload_n dX1_endLine_19 rfl ?_
    refine ev_getR fk_X1_19 (by decide) dX1_endLine_20 kp0 (fun q4 k4 r4 => ?_)
    refine ev_aload_n dX1_endLine_23 rfl ?_
    refine ev_get fk_X1_9 dX1_endLine_24 kp0 (am_fvI (by decide)) ?_
    refine ev_aload_n dX1_endLine_27 rfl ?_
    refine ev_get fk_X1_32 dX1_endLine_28 kp0 (am_fvI (by decide)) ?_
    refine ev_iast dX1_endLine_31 k4 (fun σ5 h5 => ?_)
    refine ev_aload_n dX1_endLine_32 rfl ?_
    refine ev_dup dX1_endLine_33 rfl ?_
    refine ev_get fk_X1_9 dX1_endLine_34 kp0 (am_fvI (by decide)) ?_
    refine ev_iconst (v := 1) dX1_endLine_37 (by decide) ?_
    refine ev_iadd dX1_endLine_38 ?_
    refine ev_putI fk_X1_9 tyX1 tyX1_ok nmX1 rfl (by decide +kernel) (by decide) dX1_endLine_39 kp0 ?_
    exact ev_vret dX1_endLine_42 rfl (by decide) (by decide) rfl
def f_X11_fault (S : am_S) (p0 : Nat) : Option (Int32) :=
  some (S.1 p0 2)
set_option maxRecDepth 20000 in
theorem t_X11_fault {E : am_E} {l : Launch} (hl : l.stackTraces = false) {S : am_S} {p0 : Nat} (kp0 : am_kd p0 = 111) : am_M E l yX11_fault (.code yX11_fault cX11_fault 1 (some .int)) 0 0 0 [.ref p0] S ((f_X11_fault S p0).map (fun (v : Int32) => ((.inl (some (.int v)), S) : am_R))) := by
  refine am_M_of (w := fun (v : Int32) => ((.inl (some (.int v)), S) : am_R)) hl (by decide) (am_fc rfl am_fn) (Nat.le_of_ble_eq_true rfl) ?_
  show am_Ev E l (RX11, cX11_fault, 1, (some .int), [], am_rm 0 0 0) (fun b a s x => am_Z E 0 0 b a s ((fun (v : Int32) => ((.inl (some (.int v)), S) : am_R)) x)) 0 0 0 [some (.ref p0)] [] S (f_X11_fault S p0)
  unfold f_X11_fault
  refine ev_aload_n dX11_fault_0 rfl ?_
  refine ev_get fk_X11_13 dX11_fault_1 kp0 (am_fvI (by decide)) ?_
  exact ev_iret dX11_fault_4 rfl rfl (by decide) (by decide) rfl
