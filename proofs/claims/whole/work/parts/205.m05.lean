def f_X0_tryWay (S : am_S) (p0 : Nat) (p1 : Int32) (p2 : Int32) : Option ((Nat → Nat → Int32)) :=
  ((f_X0_tryLonger 60 ((am_u2 (am_u2 S.1 p0 6 (-1)) p0 7 (-1)), S.2) p0 1 0 p1 p2).bind (fun σ1 => (if (σ1 p0 6) = (-1) then some σ1 else (if (σ1 p0 4) = (-1) then some (am_u2 (am_u2 σ1 p0 4 (σ1 p0 6)) p0 5 ((am_u2 σ1 p0 4 (σ1 p0 6)) p0 7)) else (if (σ1 p0 6) < (σ1 p0 4) then some (am_u2 (am_u2 σ1 p0 4 (σ1 p0 6)) p0 5 ((am_u2 σ1 p0 4 (σ1 p0 6)) p0 7)) else some σ1)))))
set_option maxRecDepth 20000 in
theorem t_X0_tryWay {E : am_E} {l : Launch} (hl : l.stackTraces = false) {S : am_S} {p0 : Nat} {p1 : Int32} {p2 : Int32} (kp0 : am_kd p0 = 100) : am_M E l yX0_tryWay (.code yX0_tryWay cX0_tryWay 3 none) 61 0 0 [.ref p0, .int p1, .int p2] S ((f_X0_tryWay S p0 p1 p2).map (fun (x : Nat → Nat → Int32) => ((.inl none, (x, S.2)) : am_R))) := by
  refine am_M_of (w := fun (x : Nat → Nat → Int32) => ((.inl none, (x, S.2)) : am_R)) hl (by decide) (am_fc rfl (am_fc rfl (am_fc rfl am_fn))) (Nat.le_of_ble_eq_true rfl) ?_
  show am_Ev E l (RX0, cX0_tryWay, 3, none, [], am_rm 61 0 0) (fun b a s x => am_Z E 0 0 b a s ((fun (x : Nat → Nat → Int32) => ((.inl none, (x, S.2)) : am_R)) x)) 0 0 0 [some (.ref p0), some (.int p1), some (.int p2)] [] S (f_X0_tryWay S p0 p1 p2)
  unfold f_X0_tryWay
  refine ev_aload_n dX0_tryWay_0 rfl ?_
  refine ev_iconst (v := (-1)) dX0_tryWay_1 (by decide) ?_
  refine ev_putI fk_X0_57 tyX0 tyX0_ok nmX0 rfl (by decide +kernel) (by decide) dX0_tryWay_2 kp0 ?_
  refine ev_aload_n dX0_tryWay_5 rfl ?_
  refine ev_iconst (v := (-1)) dX0_tryWay_6 (by decide) ?_
  refine ev_putI fk_X0_60 tyX0 tyX0_ok nmX0 rfl (by decide +kernel) (by decide) dX0_tryWay_7 kp0 ?_
  refine ev_aload_n dX0_tryWay_10 rfl ?_
  refine ev_iconst (v := 1) dX0_tryWay_11 (by decide) ?_
  refine ev_iconst (v := 0) dX0_tryWay_12 (by decide) ?_
  refine ev_iload_n dX0_tryWay_13 rfl ?_
  refine ev_iload_n dX0_tryWay_14 rfl ?_
  refine ev_callWV (am_callV (as := [.int 1, .int 0, .int p1, .int p2]) (o := p0) (st := []) cv_X0_63 dX0_tryWay_15 kp0 rfl (am_le rfl) (am_fit (by omega) (by decide) (by decide) (by decide)) (t_X0_tryLonger hl 60 kp0)) (fun σ1 h1 => ?_)
  refine ev_aload_n dX0_tryWay_18 rfl ?_
  refine ev_get fk_X0_57 dX0_tryWay_19 kp0 (am_fvI (by decide)) ?_
  refine ev_iconst (v := (-1)) dX0_tryWay_22 (by decide) ?_
  refine ev_icmp_eq (tgt := 61) dX0_tryWay_23 (by decide) (fun c2 => ?_) (fun c2 => ?_)
  · exact ev_vret dX0_tryWay_61 rfl (by decide) (by decide) rfl
  · refine ev_aload_n dX0_tryWay_26 rfl ?_
    refine ev_get fk_X0_37 dX0_tryWay_27 kp0 (am_fvI (by decide)) ?_
    refine ev_iconst (v := (-1)) dX0_tryWay_30 (by decide) ?_
    refine ev_icmp_eq (tgt := 45) dX0_tryWay_31 (by decide) (fun c3 => ?_) (fun c3 => ?_)
    · refine ev_aload_n dX0_tryWay_45 rfl ?_
      refine ev_aload_n dX0_tryWay_46 rfl ?_
      refine ev_get fk_X0_57 dX0_tryWay_47 kp0 (am_fvI (by decide)) ?_
      refine ev_putI fk_X0_37 tyX0 tyX0_ok nmX0 rfl (by decide +kernel) (by decide) dX0_tryWay_50 kp0 ?_
      refine ev_aload_n dX0_tryWay_53 rfl ?_
      refine ev_aload_n dX0_tryWay_54 rfl ?_
      refine ev_get fk_X0_60 dX0_tryWay_55 kp0 (am_fvI (by decide)) ?_
      refine ev_putI fk_X0_40 tyX0 tyX0_ok nmX0 rfl (by decide +kernel) (by decide) dX0_tryWay_58 kp0 ?_
      exact ev_vret dX0_tryWay_61 rfl (by decide) (by decide) rfl
    · refine ev_aload_n dX0_tryWay_34 rfl ?_
      refine ev_get fk_X0_57 dX0_tryWay_35 kp0 (am_fvI (by decide)) ?_
      refine ev_aload_n dX0_tryWay_38 rfl ?_
      refine ev_get fk_X0_37 dX0_tryWay_39 kp0 (am_fvI (by decide)) ?_
      refine ev_icmp_ge (tgt := 61) dX0_tryWay_42 (by decide) (fun c4 => ?_) (fun c4 => ?_)
      · exact ev_vret dX0_tryWay_61 rfl (by decide) (by decide) rfl
      · refine ev_aload_n dX0_tryWay_45 rfl ?_
        refine ev_aload_n dX0_tryWay_46 rfl ?_
        refine ev_get fk_X0_57 dX0_tryWay_47 kp0 (am_fvI (by decide)) ?_
        refine ev_putI fk_X0_37 tyX0 tyX0_ok nmX0 rfl (by decide +kernel) (by decide) dX0_tryWay_50 kp0 ?_
        refine ev_aload_n dX0_tryWay_53 rfl ?_
        refine ev_aload_n dX0_tryWay_54 rfl ?_
        refine ev_get fk_X0_60 dX0_tryWay_55 kp0 (am_fvI (by decide)) ?_
        refine ev_putI fk_X0_40 tyX0 tyX0_ok nmX0 rfl (by decide +kernel) (by decide) dX0_tryWay_58 kp0 ?_
        exact ev_vret dX0_tryWay_61 rfl (by decide) (by decide) rfl
def f_X0_makeRoom_b22 (S : am_S) (a0 : Nat) (a1 : Nat) (a2 : Int32) (a3 : Int32) (x3 : Int32 × (Nat → Nat → Int32)) : Option ((Int32 × (Nat → Nat → Int32)) ⊕ ((Nat → Nat → Int32))) :=
  (if x3.1 < 10 then ((am_rd S.2 a0 2 1).bind (fun q5 => ((f_X9_wordFor (x3.2, S.2) a1 a2 x3.1).bind (fun v6 => ((am_st x3.2 q5 x3.1 v6).bind (fun σ7 => ((am_rd S.2 a0 3 1).bind (fun q8 => ((am_rd S.2 a0 2 1).bind (fun q9 => ((am_ld σ7 q9 x3.1).bind (fun v10 => ((f_X11_strokesOf v10).bind (fun v11 => ((am_st σ7 q8 x3.1 v11).bind (fun σ12 => some (.inl ((x3.1 + 1), σ12)))))))))))))))))) else some (.inr x3.2))
def f_X0_makeRoom_b79 (S : am_S) (a0 : Nat) (a1 : Nat) (a3 : Int32) (x24 : Int32 × (Nat → Nat → Int32)) : Option ((Int32 × (Nat → Nat → Int32)) ⊕ ((Nat → Nat → Int32))) :=
  (if x24.1 < 10 then ((am_rd S.2 a0 2 1).bind (fun q26 => ((am_ld x24.2 q26 x24.1).bind (fun v27 => ((if v27 = (-1) then some x24.2 else ((am_rd S.2 a0 3 1).bind (fun q29 => ((am_ld x24.2 q29 x24.1).bind (fun v30 => (if v30 < 8 then ((am_rd S.2 a0 3 1).bind (fun q32 => ((am_ld x24.2 q32 x24.1).bind (fun v33 => ((am_st x24.2 q32 x24.1 (v33 + 1)).bind (fun σ34 => ((am_rd S.2 a0 2 1).bind (fun q35 => ((am_st σ34 q35 x24.1 (v27 * 2)).bind (fun σ36 => ((f_X9_urgentOf (σ36, S.2) a1 a3).bind (fun v37 => ((f_X9_urgentOf (σ36, S.2) a1 x24.1).bind (fun v38 => ((f_X0_tryWay (σ36, S.2) a0 v37 v38).bind (fun σ39 => ((am_rd S.2 a0 2 1).bind (fun q40 => ((am_st σ39 q40 x24.1 ((v27 * 2) + 1)).bind (fun σ41 => ((f_X9_urgentOf (σ41, S.2) a1 a3).bind (fun v42 => ((f_X9_urgentOf (σ41, S.2) a1 x24.1).bind (fun v43 => ((f_X0_tryWay (σ41, S.2) a0 v42 (2 * v43)).bind (fun σ44 => ((am_rd S.2 a0 2 1).bind (fun q45 => ((am_st σ44 q45 x24.1 v27).bind (fun σ46 => ((am_rd S.2 a0 3 1).bind (fun q47 => ((am_ld σ46 q47 x24.1).bind (fun v48 => ((am_st σ46 q47 x24.1 (v48 - 1)).bind (fun σ49 => some σ49)))))))))))))))))))))))))))))))))))) else some x24.2)))))).bind (fun t28 => some (.inl ((x24.1 + 1), t28)))))))) else some (.inr x24.2))
def f_X0_makeRoom (S : am_S) (p0 : Nat) (p1 : Nat) (p2 : Int32) (p3 : Int32) : Option ((Nat → Nat → Int32)) :=
  ((f_X9_clashesOf ((am_u2 (am_u2 S.1 p0 4 (-1)) p0 5 (-1)), S.2) p1 p2).bind (fun v1 => (if 0 < v1 then some (am_u2 (am_u2 S.1 p0 4 (-1)) p0 5 (-1)) else ((am_loop (f_X0_makeRoom_b22 ((am_u2 (am_u2 S.1 p0 4 (-1)) p0 5 (-1)), S.2) p0 p1 p2 p3) am_fuel (0, (am_u2 (am_u2 S.1 p0 4 (-1)) p0 5 (-1)))).bind (fun t3 => ((f_X9_urgentOf (t3, S.2) p1 p3).bind (fun v22 => ((f_X0_tryWay (t3, S.2) p0 v22 0).bind (fun σ23 => ((am_loop (f_X0_makeRoom_b79 (σ23, S.2) p0 p1 p3) am_fuel (0, σ23)).bind (fun t24 => some t24)))))))))))
set_option maxRecDepth 20000 in
theorem t_X0_makeRoom {E : am_E} {l : Launch} (hl : l.stackTraces = false) {S : am_S} {p0 : Nat} {p1 : Nat} {p2 : Int32} {p3 : Int32} (kp0 : am_kd p0 = 100) (kp1 : am_kd p1 = 109) : am_M E l yX0_makeRoom (.code yX0_makeRoom cX0_makeRoom 6 none) 62 0 0 [.ref p0, .ref p1, .int p2, .int p3] S ((f_X0_makeRoom S p0 p1 p2 p3).map (fun (x : Nat → Nat → Int32) => ((.inl none, (x, S.2)) : am_R))) := by
  refine am_M_of (w := fun (x : Nat → Nat → Int32) => ((.inl none, (x, S.2)) : am_R)) hl (by decide) (am_fc rfl (am_fc rfl (am_fc rfl (am_fc rfl am_fn)))) (Nat.le_of_ble_eq_true rfl) ?_
  show am_Ev E l (RX0, cX0_makeRoom, 6, none, [], am_rm 62 0 0) (fun b a s x => am_Z E 0 0 b a s ((fun (x : Nat → Nat → Int32) => ((.inl none, (x, S.2)) : am_R)) x)) 0 0 0 [some (.ref p0), some (.ref p1), some (.int p2), some (.int p3), none, none] [] S (f_X0_makeRoom S p0 p1 p2 p3)
  unfold f_X0_makeRoom
  refine ev_aload_n dX0_makeRoom_0 rfl ?_
  refine ev_iconst (v := (-1)) dX0_makeRoom_1 (by decide) ?_
  refine ev_putI fk_X0_37 tyX0 tyX0_ok nmX0 rfl (by decide +kernel) (by decide) dX0_makeRoom_2 kp0 ?_
  refine ev_aload_n dX0_makeRoom_5 rfl ?_
  refine ev_iconst (v := (-1)) dX0_makeRoom_6 (by decide) ?_
  refine ev_putI fk_X0_40 tyX0 tyX0_ok nmX0 rfl (by decide +kernel) (by decide) dX0_makeRoom_7 kp0 ?_
  refine ev_aload_n dX0_makeRoom_10 rfl ?_
  refine ev_iload_n dX0_makeRoom_11 rfl ?_
  refine ev_callP (am_callVN (as := [.int p2]) (o := p1) (st := []) cv_X0_43 dX0_makeRoom_12 kp1 rfl (am_le rfl) (am_fit (by omega) (by decide) (by decide) (by decide)) (am_no1 (fun _ => ⟨_, rfl⟩)) (t_X9_clashesOf hl kp1)) (fun v1 h1 => ?_)
  refine ev_if_le (tgt := 19) dX0_makeRoom_15 (by decide) (fun c2 => ?_) (fun c2 => ?_)
  · refine ev_iconst (v := 0) dX0_makeRoom_19 (by decide) ?_
    refine ev_istore dX0_makeRoom_20 (am_lt rfl) ?_
    refine ev_weak (am_wk (am_wk (am_wk (am_wk (am_wk (am_wf am_wn)))))) (ev_loop 22 66 (fun x3 : Int32 × (Nat → Nat → Int32) => [some (.ref p0), some (.ref p1), some (.int p2), some (.int p3), some (.int x3.1), none]) (fun t3 : (Nat → Nat → Int32) => [some (.ref p0), some (.ref p1), none, some (.int p3), none, none]) (fun x3 => (x3.2, S.2)) (fun t3 => (t3, S.2)) (fun x3 G3 hB3 hE3 => ?_) (fun t3 => ?_) am_fuel (0, (am_u2 (am_u2 S.1 p0 4 (-1)) p0 5 (-1))))
    · unfold f_X0_makeRoom_b22
      refine ev_iload dX0_makeRoom_22 rfl ?_
      refine ev_bipush (v := 10) dX0_makeRoom_24 (by decide) ?_
      refine ev_eq am_ib ?_
      refine ev_icmp_ge (tgt := 66) dX0_makeRoom_26 (by decide) (fun c13 => ?_) (fun c13 => ?_)
      · exact ev_leaf (am_wk (am_wk (am_wf (am_wk (am_wf (am_wf am_wn)))))) (hE3 x3.2)
      · refine ev_aload_n dX0_makeRoom_29 rfl ?_
        refine ev_eq (Option.bind_assoc _ _ _) ?_
        refine ev_getR fk_X0_18 (by decide) dX0_makeRoom_30 kp0 (fun q14 k14 r14 => ?_)
        refine ev_iload dX0_makeRoom_33 rfl ?_
        refine ev_aload_n dX0_makeRoom_35 rfl ?_
        refine ev_iload_n dX0_makeRoom_36 rfl ?_
        refine ev_iload dX0_makeRoom_37 rfl ?_
        refine ev_eq (Option.bind_assoc _ _ _) ?_
        refine ev_callP (am_callVN (as := [.int p2, .int x3.1]) (o := p1) (st := [.int x3.1, .ref q14]) cv_X0_46 dX0_makeRoom_39 kp1 rfl (am_le rfl) (am_fit (by omega) (by decide) (by decide) (by decide)) (am_no1 (fun _ => ⟨_, rfl⟩)) (t_X9_wordFor hl kp1)) (fun v15 h15 => ?_)
        refine ev_eq (Option.bind_assoc _ _ _) ?_
        refine ev_iast dX0_makeRoom_42 k14 (fun σ16 h16 => ?_)
        refine ev_aload_n dX0_makeRoom_43 rfl ?_
        refine ev_eq (Option.bind_assoc _ _ _) ?_
        refine ev_getR fk_X0_21 (by decide) dX0_makeRoom_44 kp0 (fun q17 k17 r17 => ?_)
        refine ev_iload dX0_makeRoom_47 rfl ?_
        refine ev_aload_n dX0_makeRoom_49 rfl ?_
        refine ev_eq (Option.bind_assoc _ _ _) ?_
        refine ev_getR fk_X0_18 (by decide) dX0_makeRoom_50 kp0 (fun q18 k18 r18 => ?_)
        refine ev_iload dX0_makeRoom_53 rfl ?_
        refine ev_eq (Option.bind_assoc _ _ _) ?_
        refine ev_iald dX0_makeRoom_55 k18 (fun v19 h19 => ?_)
        refine ev_eq (Option.bind_assoc _ _ _) ?_
        refine ev_callP (am_callSN (as := [.int v19]) (st := [.int x3.1, .ref q17]) ct_X0_50 dX0_makeRoom_56 rfl (am_le rfl) (am_fit (by omega) (by decide) (by decide) (by decide)) (am_no1 (fun _ => ⟨_, rfl⟩)) (t_X11_strokesOf hl )) (fun v20 h20 => ?_)
        refine ev_eq (Option.bind_assoc _ _ _) ?_
        refine ev_iast dX0_makeRoom_59 k17 (fun σ21 h21 => ?_)
        refine ev_iinc (v := (x3.1 + 1)) dX0_makeRoom_60 (am_lt rfl) rfl rfl ?_
        refine ev_goto (tgt := 22) dX0_makeRoom_63 (by decide) ?_
        exact ev_leaf (am_wk (am_wk (am_wk (am_wk (am_wk (am_wf am_wn)))))) (hB3 ((x3.1 + 1), σ21))
    · refine ev_aload_n dX0_makeRoom_66 rfl ?_
      refine ev_aload_n dX0_makeRoom_67 rfl ?_
      refine ev_iload_n dX0_makeRoom_68 rfl ?_
      refine ev_callP (am_callVN (as := [.int p3]) (o := p1) (st := [.ref p0]) cv_X0_30 dX0_makeRoom_69 kp1 rfl (am_le rfl) (am_fit (by omega) (by decide) (by decide) (by decide)) (am_no1 (fun _ => ⟨_, rfl⟩)) (t_X9_urgentOf hl kp1)) (fun v22 h22 => ?_)
      refine ev_iconst (v := 0) dX0_makeRoom_72 (by decide) ?_
      refine ev_callWV (am_callV (as := [.int v22, .int 0]) (o := p0) (st := []) cv_X0_53 dX0_makeRoom_73 kp0 rfl (am_le rfl) (am_fit (by omega) (by decide) (by decide) (by decide)) (t_X0_tryWay hl kp0)) (fun σ23 h23 => ?_)
      refine ev_iconst (v := 0) dX0_makeRoom_76 (by decide) ?_
      refine ev_istore dX0_makeRoom_77 (am_lt rfl) ?_
      refine ev_weak (am_wk (am_wk (am_wf (am_wk (am_wk (am_wf am_wn)))))) (ev_loop 79 206 (fun x24 : Int32 × (Nat → Nat → Int32) => [some (.ref p0), some (.ref p1), none, some (.int p3), some (.int x24.1), none]) (fun t24 : (Nat → Nat → Int32) => [none, none, none, none, none, none]) (fun x24 => (x24.2, S.2)) (fun t24 => (t24, S.2)) (fun x24 G24 hB24 hE24 => ?_) (fun t24 => ?_) am_fuel (0, σ23))
      · unfold f_X0_makeRoom_b79
        refine ev_iload dX0_makeRoom_79 rfl ?_
        refine ev_bipush (v := 10) dX0_makeRoom_81 (by decide) ?_
        refine ev_eq am_ib ?_
        refine ev_icmp_ge (tgt := 206) dX0_makeRoom_83 (by decide) (fun c50 => ?_) (fun c50 => ?_)
        · exact ev_leaf (am_wf (am_wf (am_wf (am_wf (am_wf (am_wf am_wn)))))) (hE24 x24.2)
        · refine ev_aload_n dX0_makeRoom_86 rfl ?_
          refine ev_eq (Option.bind_assoc _ _ _) ?_
          refine ev_getR fk_X0_18 (by decide) dX0_makeRoom_87 kp0 (fun q51 k51 r51 => ?_)
          refine ev_iload dX0_makeRoom_90 rfl ?_
          refine ev_eq (Option.bind_assoc _ _ _) ?_
          refine ev_iald dX0_makeRoom_92 k51 (fun v52 h52 => ?_)
          refine ev_istore dX0_makeRoom_93 (am_lt rfl) ?_
          refine ev_iload dX0_makeRoom_95 rfl ?_
          refine ev_iconst (v := (-1)) dX0_makeRoom_97 (by decide) ?_
          refine ev_eq (Option.bind_assoc _ _ _) ?_
          refine ev_reg (cs' := 0) (sl' := 0) 200 (fun t53 : (Nat → Nat → Int32) => [some (.ref p0), some (.ref p1), none, some (.int p3), some (.int x24.1), none]) (fun t53 => []) (fun t53 => (t53, S.2)) (fun hJ53 => ?_) (fun t53 => ?_)
          · refine ev_eq am_ib ?_
            refine ev_icmp_eq (tgt := 200) dX0_makeRoom_98 (by decide) (fun c53 => ?_) (fun c53 => ?_)
            · exact ev_leaf (am_wk (am_wk (am_wf (am_wk (am_wk (am_wf am_wn)))))) (hJ53 x24.2)
            · refine ev_aload_n dX0_makeRoom_101 rfl ?_
              refine ev_eq (Option.bind_assoc _ _ _) ?_
              refine ev_getR fk_X0_21 (by decide) dX0_makeRoom_102 kp0 (fun q54 k54 r54 => ?_)
              refine ev_iload dX0_makeRoom_105 rfl ?_
              refine ev_eq (Option.bind_assoc _ _ _) ?_
              refine ev_iald dX0_makeRoom_107 k54 (fun v55 h55 => ?_)
              refine ev_bipush (v := 8) dX0_makeRoom_108 (by decide) ?_
              refine ev_eq am_ib ?_
              refine ev_icmp_ge (tgt := 200) dX0_makeRoom_110 (by decide) (fun c56 => ?_) (fun c56 => ?_)
              · exact ev_leaf (am_wk (am_wk (am_wf (am_wk (am_wk (am_wf am_wn)))))) (hJ53 x24.2)
              · refine ev_aload_n dX0_makeRoom_113 rfl ?_
                refine ev_eq (Option.bind_assoc _ _ _) ?_
                refine ev_getR fk_X0_21 (by decide) dX0_makeRoom_114 kp0 (fun q57 k57 r57 => ?_)
                refine ev_iload dX0_makeRoom_117 rfl ?_
                refine ev_dup2 dX0_makeRoom_119 rfl rfl ?_
                refine ev_eq (Option.bind_assoc _ _ _) ?_
                refine ev_iald dX0_makeRoom_120 k57 (fun v58 h58 => ?_)
                refine ev_iconst (v := 1) dX0_makeRoom_121 (by decide) ?_
                refine ev_iadd dX0_makeRoom_122 ?_
                refine ev_eq (Option.bind_assoc _ _ _) ?_
                refine ev_iast dX0_makeRoom_123 k57 (fun σ59 h59 => ?_)
                refine ev_aload_n dX0_makeRoom_124 rfl ?_
                refine ev_eq (Option.bind_assoc _ _ _) ?_
                refine ev_getR fk_X0_18 (by decide) dX0_makeRoom_125 kp0 (fun q60 k60 r60 => ?_)
                refine ev_iload dX0_makeRoom_128 rfl ?_
                refine ev_iload dX0_makeRoom_130 rfl ?_
                refine ev_iconst (v := 2) dX0_makeRoom_132 (by decide) ?_
                refine ev_imul dX0_makeRoom_133 ?_
                refine ev_eq (Option.bind_assoc _ _ _) ?_
                refine ev_iast dX0_makeRoom_134 k60 (fun σ61 h61 => ?_)
                refine ev_aload_n dX0_makeRoom_135 rfl ?_
                refine ev_aload_n dX0_makeRoom_136 rfl ?_
                refine ev_iload_n dX0_makeRoom_137 rfl ?_
                refine ev_eq (Option.bind_assoc _ _ _) ?_
                refine ev_callP (am_callVN (as := [.int p3]) (o := p1) (st := [.ref p0]) cv_X0_30 dX0_makeRoom_138 kp1 rfl (am_le rfl) (am_fit (by omega) (by decide) (by decide) (by decide)) (am_no1 (fun _ => ⟨_, rfl⟩)) (t_X9_urgentOf hl kp1)) (fun v62 h62 => ?_)
                refine ev_aload_n dX0_makeRoom_141 rfl ?_
                refine ev_iload dX0_makeRoom_142 rfl ?_
                refine ev_eq (Option.bind_assoc _ _ _) ?_
                refine ev_callP (am_callVN (as := [.int x24.1]) (o := p1) (st := [.int v62, .ref p0]) cv_X0_30 dX0_makeRoom_144 kp1 rfl (am_le rfl) (am_fit (by omega) (by decide) (by decide) (by decide)) (am_no1 (fun _ => ⟨_, rfl⟩)) (t_X9_urgentOf hl kp1)) (fun v63 h63 => ?_)
                refine ev_eq (Option.bind_assoc _ _ _) ?_
                refine ev_callWV (am_callV (as := [.int v62, .int v63]) (o := p0) (st := []) cv_X0_53 dX0_makeRoom_147 kp0 rfl (am_le rfl) (am_fit (by omega) (by decide) (by decide) (by decide)) (t_X0_tryWay hl kp0)) (fun σ64 h64 => ?_)
                refine ev_aload_n dX0_makeRoom_150 rfl ?_
                refine ev_eq (Option.bind_assoc _ _ _) ?_
                refine ev_getR fk_X0_18 (by decide) dX0_makeRoom_151 kp0 (fun q65 k65 r65 => ?_)
                refine ev_iload dX0_makeRoom_154 rfl ?_
                refine ev_iload dX0_makeRoom_156 rfl ?_
                refine ev_iconst (v := 2) dX0_makeRoom_158 (by decide) ?_
                refine ev_imul dX0_makeRoom_159 ?_
                refine ev_iconst (v := 1) dX0_makeRoom_160 (by decide) ?_
                refine ev_iadd dX0_makeRoom_161 ?_
                refine ev_eq (Option.bind_assoc _ _ _) ?_
                refine ev_iast dX0_makeRoom_162 k65 (fun σ66 h66 => ?_)
                refine ev_aload_n dX0_makeRoom_163 rfl ?_
                refine ev_aload_n dX0_makeRoom_164 rfl ?_
                refine ev_iload_n dX0_makeRoom_165 rfl ?_
                refine ev_eq (Option.bind_assoc _ _ _) ?_
                refine ev_callP (am_callVN (as := [.int p3]) (o := p1) (st := [.ref p0]) cv_X0_30 dX0_makeRoom_166 kp1 rfl (am_le rfl) (am_fit (by omega) (by decide) (by decide) (by decide)) (am_no1 (fun _ => ⟨_, rfl⟩)) (t_X9_urgentOf hl kp1)) (fun v67 h67 => ?_)
                refine ev_iconst (v := 2) dX0_makeRoom_169 (by decide) ?_
                refine ev_aload_n dX0_makeRoom_170 rfl ?_
                refine ev_iload dX0_makeRoom_171 rfl ?_
                refine ev_eq (Option.bind_assoc _ _ _) ?_
                refine ev_callP (am_callVN (as := [.int x24.1]) (o := p1) (st := [.int 2, .int v67, .ref p0]) cv_X0_30 dX0_makeRoom_173 kp1 rfl (am_le rfl) (am_fit (by omega) (by decide) (by decide) (by decide)) (am_no1 (fun _ => ⟨_, rfl⟩)) (t_X9_urgentOf hl kp1)) (fun v68 h68 => ?_)
                refine ev_imul dX0_makeRoom_176 ?_
                refine ev_eq (Option.bind_assoc _ _ _) ?_
                refine ev_callWV (am_callV (as := [.int v67, .int (2 * v68)]) (o := p0) (st := []) cv_X0_53 dX0_makeRoom_177 kp0 rfl (am_le rfl) (am_fit (by omega) (by decide) (by decide) (by decide)) (t_X0_tryWay hl kp0)) (fun σ69 h69 => ?_)
                refine ev_aload_n dX0_makeRoom_180 rfl ?_
                refine ev_eq (Option.bind_assoc _ _ _) ?_
                refine ev_getR fk_X0_18 (by decide) dX0_makeRoom_181 kp0 (fun q70 k70 r70 => ?_)
                refine ev_iload dX0_makeRoom_184 rfl ?_
                refine ev_iload dX0_makeRoom_186 rfl ?_
                refine ev_eq (Option.bind_assoc _ _ _) ?_
                refine ev_iast dX0_makeRoom_188 k70 (fun σ71 h71 => ?_)
                refine ev_aload_n dX0_makeRoom_189 rfl ?_
                refine ev_eq (Option.bind_assoc _ _ _) ?_
                refine ev_getR fk_X0_21 (by decide) dX0_makeRoom_190 kp0 (fun q72 k72 r72 => ?_)
                refine ev_iload dX0_makeRoom_193 rfl ?_
                refine ev_dup2 dX0_makeRoom_195 rfl rfl ?_
                refine ev_eq (Option.bind_assoc _ _ _) ?_
                refine ev_iald dX0_makeRoom_196 k72 (fun v73 h73 => ?_)
                refine ev_iconst (v := 1) dX0_makeRoom_197 (by decide) ?_
                refine ev_isub dX0_makeRoom_198 ?_
                refine ev_eq (Option.bind_assoc _ _ _) ?_
                refine ev_iast dX0_makeRoom_199 k72 (fun σ74 h74 => ?_)
                exact ev_leaf (am_wk (am_wk (am_wf (am_wk (am_wk (am_wf am_wn)))))) (hJ53 σ74)
          · refine ev_iinc (v := (x24.1 + 1)) dX0_makeRoom_200 (am_lt rfl) rfl rfl ?_
            refine ev_goto (tgt := 79) dX0_makeRoom_203 (by decide) ?_
            exact ev_leaf (am_wk (am_wk (am_wf (am_wk (am_wk (am_wf am_wn)))))) (hB24 ((x24.1 + 1), t53))
      · exact ev_vret dX0_makeRoom_206 rfl (by decide) (by decide) rfl
  · exact ev_vret dX0_makeRoom_18 rfl (by decide) (by decide) rfl
def f_X11_room (S : am_S) (p0 : Nat) (p1 : Int32) (p2 : Int32) (p3 : Int32) : Option (am_R) :=
  (am_thV (f_X11_needHouse S p0 p1) (fun S1 => (am_thV (f_X11_needWant S1 p0 p2) (fun S2 => ((am_rd S2.2 p0 3 109).bind (fun q3 => ((f_X9_wordFor S2 q3 p1 p2).bind (fun v4 => (if v4 = (-1) then ((am_rd S2.2 p0 14 100).bind (fun q6 => ((am_rd S2.2 p0 3 109).bind (fun q7 => ((f_X0_makeRoom S2 q6 q7 p1 p2).bind (fun σ8 => (if p3 = 0 then ((am_rd S2.2 p0 14 100).bind (fun q10 => some (.inl (some (.int (σ8 q10 4))), (σ8, S2.2)))) else ((am_rd S2.2 p0 14 100).bind (fun q11 => some (.inl (some (.int (σ8 q11 5))), (σ8, S2.2))))))))))) else some (.inr 1, S2))))))))))
set_option maxRecDepth 20000 in
theorem t_X11_room {E : am_E} {l : Launch} (hl : l.stackTraces = false) {S : am_S} {p0 : Nat} {p1 : Int32} {p2 : Int32} {p3 : Int32} (kp0 : am_kd p0 = 111) : am_M E l yX11_room (.code yX11_room cX11_room 4 (some .int)) 63 3 18 [.ref p0, .int p1, .int p2, .int p3] S (f_X11_room S p0 p1 p2 p3) := by
  refine am_M_id (am_M_of (w := fun x => x) hl (by decide) (am_fc rfl (am_fc rfl (am_fc rfl (am_fc rfl am_fn)))) (Nat.le_of_ble_eq_true rfl) ?_)
  show am_Ev E l (RX11, cX11_room, 4, (some .int), [], am_rm 63 3 18) (am_Z E 3 18) 0 0 0 [some (.ref p0), some (.int p1), some (.int p2), some (.int p3)] [] S (f_X11_room S p0 p1 p2 p3)
  unfold f_X11_room
  refine ev_aload_n dX11_room_0 rfl ?_
  refine ev_iload_n dX11_room_1 rfl ?_
  refine ev_callGV (am_callV (as := [.int p1]) (o := p0) (st := []) cv_X11_138 dX11_room_2 kp0 rfl (am_le rfl) (am_fit (by omega) (by decide) (by decide) (by decide)) (t_X11_needHouse hl kp0)) rfl (by decide) (by decide) (fun S1 h1 => ?_)
  refine ev_aload_n dX11_room_5 rfl ?_
  refine ev_iload_n dX11_room_6 rfl ?_
  refine ev_callGV (am_callV (as := [.int p2]) (o := p0) (st := []) cv_X11_165 dX11_room_7 kp0 rfl (am_le rfl) (am_fit (by omega) (by decide) (by decide) (by decide)) (t_X11_needWant hl kp0)) rfl (by decide) (by decide) (fun S2 h2 => ?_)
  refine ev_aload_n dX11_room_10 rfl ?_
  refine ev_getR fk_X11_20 (by decide) dX11_room_11 kp0 (fun q3 k3 r3 => ?_)
  refine ev_iload_n dX11_room_14 rfl ?_
  refine ev_iload_n dX11_room_15 rfl ?_
  refine ev_callP (am_callVN (as := [.int p1, .int p2]) (o := q3) (st := []) cv_X11_171 dX11_room_16 k3 rfl (am_le rfl) (am_fit (by omega) (by decide) (by decide) (by decide)) (am_no1 (fun _ => ⟨_, rfl⟩)) (t_X9_wordFor hl k3)) (fun v4 h4 => ?_)
  refine ev_iconst (v := (-1)) dX11_room_19 (by decide) ?_
  refine ev_icmp_eq (tgt := 34) dX11_room_20 (by decide) (fun c5 => ?_) (fun c5 => ?_)
  · refine ev_aload_n dX11_room_34 rfl ?_
    refine ev_getR fk_X11_79 (by decide) dX11_room_35 kp0 (fun q6 k6 r6 => ?_)
    refine ev_aload_n dX11_room_38 rfl ?_
    refine ev_getR fk_X11_20 (by decide) dX11_room_39 kp0 (fun q7 k7 r7 => ?_)
    refine ev_iload_n dX11_room_42 rfl ?_
    refine ev_iload_n dX11_room_43 rfl ?_
    refine ev_callWV (am_callVN (as := [.ref q7, .int p1, .int p2]) (o := q6) (st := []) cv_X11_291 dX11_room_44 k6 rfl (am_le rfl) (am_fit (by omega) (by decide) (by decide) (by decide)) (am_no1 (fun _ => ⟨_, rfl⟩)) (t_X0_makeRoom hl k6 k7)) (fun σ8 h8 => ?_)
    refine ev_iload_n dX11_room_47 rfl ?_
    refine ev_if_eq (tgt := 61) dX11_room_48 (by decide) (fun c9 => ?_) (fun c9 => ?_)
    · refine ev_aload_n dX11_room_61 rfl ?_
      refine ev_getR fk_X11_79 (by decide) dX11_room_62 kp0 (fun q10 k10 r10 => ?_)
      refine ev_getN fk_X11_297 dX11_room_65 k10 (am_fvI (by decide)) ?_
      exact ev_iret dX11_room_68 rfl rfl (by decide) (by decide) rfl
    · refine ev_aload_n dX11_room_51 rfl ?_
      refine ev_getR fk_X11_79 (by decide) dX11_room_52 kp0 (fun q11 k11 r11 => ?_)
      refine ev_getN fk_X11_294 dX11_room_55 k11 (am_fvI (by decide)) ?_
      refine ev_goto (tgt := 68) dX11_room_58 (by decide) ?_
      exact ev_iret dX11_room_68 rfl rfl (by decide) (by decide) rfl
  · exact ev_throwW (k := 1) tk_105_109 (tx := "the house has a word for it") (t := 37) (by decide +kernel) dX11_room_23 dX11_room_26 dX11_room_27 dX11_room_30 dX11_room_33 rfl (by decide) ⟨by decide, by decide, by decide, by decide⟩ (by decide) (by decide)
def f_X3_isWantRead_b25 (S : am_S) (a0 : Nat) (a1 : Int32) (x4 : Int32) : Option ((Int32) ⊕ (Int32)) :=
  (if x4 < (S.1 a0 7) then ((am_rd S.2 a0 2 1).bind (fun q6 => ((am_ld S.1 q6 x4).bind (fun v7 => (if v7 = a1 then some (.inr x4) else some (.inl (x4 + 1))))))) else some (.inr x4))
def f_X3_isWantRead (S : am_S) (p0 : Nat) (p1 : Int32) : Option (Int32 × (Nat → Nat → Int32)) :=
  (if p1 < 65 then some (0, S.1) else (if 90 < p1 then some (0, S.1) else (if (S.1 p0 6) < 6 then ((am_loop (f_X3_isWantRead_b25 S p0 p1) am_fuel 0).bind (fun t4 => (if t4 < 3 then ((am_rd S.2 p0 2 1).bind (fun q14 => ((am_st S.1 q14 t4 p1).bind (fun σ15 => ((f_J9_max_7cf53 (σ15 p0 7) (t4 + 1)).bind (fun v16 => ((am_rd S.2 p0 1 1).bind (fun q17 => ((am_st (am_u2 σ15 p0 7 v16) q17 ((am_u2 σ15 p0 7 v16) p0 6) t4).bind (fun σ18 => some (1, (am_u2 σ18 p0 6 ((σ18 p0 6) + 1))))))))))))) else some (0, S.1)))) else some (0, S.1))))
set_option maxRecDepth 20000 in
theorem t_X3_isWantRead {E : am_E} {l : Launch} (hl : l.stackTraces = false) {S : am_S} {p0 : Nat} {p1 : Int32} (kp0 : am_kd p0 = 103) : am_M E l yX3_isWantRead (.code yX3_isWantRead cX3_isWantRead 3 (some .boolean)) 1 0 0 [.ref p0, .int p1] S ((f_X3_isWantRead S p0 p1).map (fun (x : Int32 × (Nat → Nat → Int32)) => ((.inl (some (.int x.1)), (x.2, S.2)) : am_R))) := by
  refine am_M_of (w := fun (x : Int32 × (Nat → Nat → Int32)) => ((.inl (some (.int x.1)), (x.2, S.2)) : am_R)) hl (by decide) (am_fc rfl (am_fc rfl am_fn)) (Nat.le_of_ble_eq_true rfl) ?_
  show am_Ev E l (RX3, cX3_isWantRead, 3, (some .boolean), [], am_rm 1 0 0) (fun b a s x => am_Z E 0 0 b a s ((fun (x : Int32 × (Nat → Nat → Int32)) => ((.inl (some (.int x.1)), (x.2, S.2)) : am_R)) x)) 0 0 0 [some (.ref p0), some (.int p1), none] [] S (f_X3_isWantRead S p0 p1)
  unfold f_X3_isWantRead
  refine ev_iload_n dX3_isWantRead_0 rfl ?_
  refine ev_bipush (v := 65) dX3_isWantRead_1 (by decide) ?_
  refine ev_icmp_lt (tgt := 21) dX3_isWantRead_3 (by decide) (fun c1 => ?_) (fun c1 => ?_)
  · refine ev_iconst (v := 0) dX3_isWantRead_21 (by decide) ?_
    exact ev_iret dX3_isWantRead_22 rfl (by decide) (by decide) (by decide) rfl
  · refine ev_iload_n dX3_isWantRead_6 rfl ?_
    refine ev_bipush (v := 90) dX3_isWantRead_7 (by decide) ?_
    refine ev_icmp_gt (tgt := 21) dX3_isWantRead_9 (by decide) (fun c2 => ?_) (fun c2 => ?_)
    · refine ev_iconst (v := 0) dX3_isWantRead_21 (by decide) ?_
      exact ev_iret dX3_isWantRead_22 rfl (by decide) (by decide) (by decide) rfl
    · refine ev_aload_n dX3_isWantRead_12 rfl ?_
      refine ev_get fk_X3_31 dX3_isWantRead_13 kp0 (am_fvI (by decide)) ?_
      refine ev_bipush (v := 6) dX3_isWantRead_16 (by decide) ?_
      refine ev_icmp_lt (tgt := 23) dX3_isWantRead_18 (by decide) (fun c3 => ?_) (fun c3 => ?_)
      · refine ev_iconst (v := 0) dX3_isWantRead_23 (by decide) ?_
        refine ev_istore_n dX3_isWantRead_24 (am_lt rfl) ?_
        refine ev_weak (am_wk (am_wk (am_wk am_wn))) (ev_loop 25 49 (fun x4 : Int32 => [some (.ref p0), some (.int p1), some (.int x4)]) (fun t4 : Int32 => [some (.ref p0), some (.int p1), some (.int t4)]) (fun x4 => S) (fun t4 => S) (fun x4 G4 hB4 hE4 => ?_) (fun t4 => ?_) am_fuel 0)
        · unfold f_X3_isWantRead_b25
          refine ev_iload_n dX3_isWantRead_25 rfl ?_
          refine ev_aload_n dX3_isWantRead_26 rfl ?_
          refine ev_get fk_X3_34 dX3_isWantRead_27 kp0 (am_fvI (by decide)) ?_
          refine ev_eq am_ib ?_
          refine ev_icmp_ge (tgt := 49) dX3_isWantRead_30 (by decide) (fun c9 => ?_) (fun c9 => ?_)
          · exact ev_leaf (am_wk (am_wk (am_wk am_wn))) (hE4 x4)
          · refine ev_aload_n dX3_isWantRead_33 rfl ?_
            refine ev_eq (Option.bind_assoc _ _ _) ?_
            refine ev_getR fk_X3_18 (by decide) dX3_isWantRead_34 kp0 (fun q10 k10 r10 => ?_)
            refine ev_iload_n dX3_isWantRead_37 rfl ?_
            refine ev_eq (Option.bind_assoc _ _ _) ?_
            refine ev_iald dX3_isWantRead_38 k10 (fun v11 h11 => ?_)
            refine ev_iload_n dX3_isWantRead_39 rfl ?_
            refine ev_eq am_ib ?_
            refine ev_icmp_eq (tgt := 49) dX3_isWantRead_40 (by decide) (fun c12 => ?_) (fun c12 => ?_)
            · exact ev_leaf (am_wk (am_wk (am_wk am_wn))) (hE4 x4)
            · refine ev_iinc (v := (x4 + 1)) dX3_isWantRead_43 (am_lt rfl) rfl rfl ?_
              refine ev_goto (tgt := 25) dX3_isWantRead_46 (by decide) ?_
              exact ev_leaf (am_wk (am_wk (am_wk am_wn))) (hB4 (x4 + 1))
        · refine ev_iload_n dX3_isWantRead_49 rfl ?_
          refine ev_iconst (v := 3) dX3_isWantRead_50 (by decide) ?_
          refine ev_icmp_lt (tgt := 56) dX3_isWantRead_51 (by decide) (fun c13 => ?_) (fun c13 => ?_)
          · refine ev_aload_n dX3_isWantRead_56 rfl ?_
            refine ev_getR fk_X3_18 (by decide) dX3_isWantRead_57 kp0 (fun q14 k14 r14 => ?_)
            refine ev_iload_n dX3_isWantRead_60 rfl ?_
            refine ev_iload_n dX3_isWantRead_61 rfl ?_
            refine ev_iast dX3_isWantRead_62 k14 (fun σ15 h15 => ?_)
            refine ev_aload_n dX3_isWantRead_63 rfl ?_
            refine ev_aload_n dX3_isWantRead_64 rfl ?_
            refine ev_get fk_X3_34 dX3_isWantRead_65 kp0 (am_fvI (by decide)) ?_
            refine ev_iload_n dX3_isWantRead_68 rfl ?_
            refine ev_iconst (v := 1) dX3_isWantRead_69 (by decide) ?_
            refine ev_iadd dX3_isWantRead_70 ?_
            refine ev_callP (am_callS (as := [.int (σ15 p0 7), .int (t4 + 1)]) (st := [.ref p0]) ct_X3_47 dX3_isWantRead_71 rfl (am_le rfl) (am_fit (by omega) (by decide) (by decide) (by decide)) (t_J9_max_7cf53 hl )) (fun v16 h16 => ?_)
            refine ev_putI fk_X3_34 tyX3 tyX3_ok nmX3 rfl (by decide +kernel) (by decide) dX3_isWantRead_74 kp0 ?_
            refine ev_aload_n dX3_isWantRead_77 rfl ?_
            refine ev_getR fk_X3_15 (by decide) dX3_isWantRead_78 kp0 (fun q17 k17 r17 => ?_)
            refine ev_aload_n dX3_isWantRead_81 rfl ?_
            refine ev_get fk_X3_31 dX3_isWantRead_82 kp0 (am_fvI (by decide)) ?_
            refine ev_iload_n dX3_isWantRead_85 rfl ?_
            refine ev_iast dX3_isWantRead_86 k17 (fun σ18 h18 => ?_)
            refine ev_aload_n dX3_isWantRead_87 rfl ?_
            refine ev_dup dX3_isWantRead_88 rfl ?_
            refine ev_get fk_X3_31 dX3_isWantRead_89 kp0 (am_fvI (by decide)) ?_
            refine ev_iconst (v := 1) dX3_isWantRead_92 (by decide) ?_
            refine ev_iadd dX3_isWantRead_93 ?_
            refine ev_putI fk_X3_31 tyX3 tyX3_ok nmX3 rfl (by decide +kernel) (by decide) dX3_isWantRead_94 kp0 ?_
            refine ev_iconst (v := 1) dX3_isWantRead_97 (by decide) ?_
            exact ev_iret dX3_isWantRead_98 rfl (by decide) (by decide) (by decide) rfl
          · refine ev_iconst (v := 0) dX3_isWantRead_54 (by decide) ?_
            exact ev_iret dX3_isWantRead_55 rfl (by decide) (by decide) (by decide) rfl
      · refine ev_iconst (v := 0) dX3_isWantRead_21 (by decide) ?_
        exact ev_iret dX3_isWantRead_22 rfl (by decide) (by decide) (by decide) rfl
def f_X3_readRows_b22 (S : am_S) (a0 : Nat) (a1 : Nat) (a3 : Int32) (x2 : (Nat → Nat → Int32)) : Option (((Nat → Nat → Int32)) ⊕ ((Nat → Nat → Int32))) :=
  (if (x2 a0 5) < a3 then (if (x2 a0 5) < 20 then ((am_ld x2 a1 (x2 a0 5)).bind (fun v5 => (if v5 = 97 then ((am_rd S.2 a0 0 1).bind (fun q7 => ((am_ld x2 a1 (x2 a0 5)).bind (fun v8 => ((am_st x2 q7 (x2 a0 5) (v8 - 97)).bind (fun σ9 => some (.inl (am_u2 σ9 a0 5 ((σ9 a0 5) + 1))))))))) else ((am_ld x2 a1 (x2 a0 5)).bind (fun v10 => (if v10 = 98 then ((am_rd S.2 a0 0 1).bind (fun q12 => ((am_ld x2 a1 (x2 a0 5)).bind (fun v13 => ((am_st x2 q12 (x2 a0 5) (v13 - 97)).bind (fun σ14 => some (.inl (am_u2 σ14 a0 5 ((σ14 a0 5) + 1))))))))) else some (.inr x2))))))) else some (.inr x2)) else some (.inr x2))
def f_X3_readRows_b128 (S : am_S) (a0 : Nat) (a1 : Nat) (a3 : Int32) (x31 : Int32 × (Nat → Nat → Int32)) : Option ((Int32 × (Nat → Nat → Int32)) ⊕ (((Nat → Nat → Int32)) ⊕ (Int32 × (Nat → Nat → Int32)))) :=
  (if x31.1 < a3 then ((am_ld x31.2 a1 x31.1).bind (fun v33 => ((f_X3_isWantRead (x31.2, S.2) a0 v33).bind (fun y34 => (if y34.1 = 0 then some (.inr (.inr (0, y34.2))) else some (.inl ((x31.1 + 1), y34.2))))))) else some (.inr (.inl x31.2)))
def f_X3_readRows (S : am_S) (p0 : Nat) (p1 : Nat) (p2 : Int32) : Option (Int32 × (Nat → Nat → Int32)) :=
  ((f_J9_min_7cf53 p2 (Int32.ofNat (am_ln p1))).bind (fun v1 => ((am_loop (f_X3_readRows_b22 ((am_u2 (am_u2 (am_u2 S.1 p0 5 0) p0 6 0) p0 7 0), S.2) p0 p1 v1) am_fuel (am_u2 (am_u2 (am_u2 S.1 p0 5 0) p0 6 0) p0 7 0)).bind (fun t2 => (if (t2 p0 5) = 0 then some (0, t2) else (if (t2 p0 5) < v1 then ((am_ld t2 p1 (t2 p0 5)).bind (fun v29 => (if v29 = 32 then ((am_loop (f_X3_readRows_b128 (t2, S.2) p0 p1 v1) am_fuel (((t2 p0 5) + 1), t2)).bind (fun r31 => match r31 with | .inl t31 => (if 0 < (t31 p0 6) then some (1, t31) else some (0, t31)) | .inr b31 => some b31)) else some (0, t2)))) else some (0, t2)))))))
set_option maxRecDepth 20000 in
theorem t_X3_readRows {E : am_E} {l : Launch} (hl : l.stackTraces = false) {S : am_S} {p0 : Nat} {p1 : Nat} {p2 : Int32} (kp0 : am_kd p0 = 103) (kp1 : am_kd p1 = 2) : am_M E l yX3_readRows (.code yX3_readRows cX3_readRows 5 (some .boolean)) 2 0 0 [.ref p0, .ref p1, .int p2] S ((f_X3_readRows S p0 p1 p2).map (fun (x : Int32 × (Nat → Nat → Int32)) => ((.inl (some (.int x.1)), (x.2, S.2)) : am_R))) := by
  refine am_M_of (w := fun (x : Int32 × (Nat → Nat → Int32)) => ((.inl (some (.int x.1)), (x.2, S.2)) : am_R)) hl (by decide) (am_fc rfl (am_fc rfl (am_fc rfl am_fn))) (Nat.le_of_ble_eq_true rfl) ?_
  show am_Ev E l (RX3, cX3_readRows, 5, (some .boolean), [], am_rm 2 0 0) (fun b a s x => am_Z E 0 0 b a s ((fun (x : Int32 × (Nat → Nat → Int32)) => ((.inl (some (.int x.1)), (x.2, S.2)) : am_R)) x)) 0 0 0 [some (.ref p0), some (.ref p1), some (.int p2), none, none] [] S (f_X3_readRows S p0 p1 p2)
  unfold f_X3_readRows
  refine ev_aload_n dX3_readRows_0 rfl ?_
  refine ev_iconst (v := 0) dX3_readRows_1 (by decide) ?_
  refine ev_putI fk_X3_27 tyX3 tyX3_ok nmX3 rfl (by decide +kernel) (by decide) dX3_readRows_2 kp0 ?_
  refine ev_aload_n dX3_readRows_5 rfl ?_
  refine ev_iconst (v := 0) dX3_readRows_6 (by decide) ?_
  refine ev_putI fk_X3_31 tyX3 tyX3_ok nmX3 rfl (by decide +kernel) (by decide) dX3_readRows_7 kp0 ?_
  refine ev_aload_n dX3_readRows_10 rfl ?_
  refine ev_iconst (v := 0) dX3_readRows_11 (by decide) ?_
  refine ev_putI fk_X3_34 tyX3 tyX3_ok nmX3 rfl (by decide +kernel) (by decide) dX3_readRows_12 kp0 ?_
  refine ev_iload_n dX3_readRows_15 rfl ?_
  refine ev_aload_n dX3_readRows_16 rfl ?_
  refine ev_alen dX3_readRows_17 kp1 (by decide) (by decide) ?_
  refine ev_callP (am_callS (as := [.int p2, .int (Int32.ofNat (am_ln p1))]) (st := []) ct_X3_37 dX3_readRows_18 rfl (am_le rfl) (am_fit (by omega) (by decide) (by decide) (by decide)) (t_J9_min_7cf53 hl )) (fun v1 h1 => ?_)
  refine ev_istore_n dX3_readRows_21 (am_lt rfl) ?_
  refine ev_weak (am_wk (am_wk (am_wf (am_wk (am_wf am_wn))))) (ev_loop 22 92 (fun x2 : (Nat → Nat → Int32) => [some (.ref p0), some (.ref p1), none, some (.int v1), none]) (fun t2 : (Nat → Nat → Int32) => [some (.ref p0), some (.ref p1), none, some (.int v1), none]) (fun x2 => (x2, S.2)) (fun t2 => (t2, S.2)) (fun x2 G2 hB2 hE2 => ?_) (fun t2 => ?_) am_fuel (am_u2 (am_u2 (am_u2 S.1 p0 5 0) p0 6 0) p0 7 0))
  · unfold f_X3_readRows_b22
    refine ev_aload_n dX3_readRows_22 rfl ?_
    refine ev_get fk_X3_27 dX3_readRows_23 kp0 (am_fvI (by decide)) ?_
    refine ev_iload_n dX3_readRows_26 rfl ?_
    refine ev_eq am_ib ?_
    refine ev_icmp_ge (tgt := 92) dX3_readRows_27 (by decide) (fun c15 => ?_) (fun c15 => ?_)
    · exact ev_leaf (am_wk (am_wk (am_wf (am_wk (am_wf am_wn))))) (hE2 x2)
    · refine ev_aload_n dX3_readRows_30 rfl ?_
      refine ev_get fk_X3_27 dX3_readRows_31 kp0 (am_fvI (by decide)) ?_
      refine ev_bipush (v := 20) dX3_readRows_34 (by decide) ?_
      refine ev_eq am_ib ?_
      refine ev_icmp_ge (tgt := 92) dX3_readRows_36 (by decide) (fun c16 => ?_) (fun c16 => ?_)
      · exact ev_leaf (am_wk (am_wk (am_wf (am_wk (am_wf am_wn))))) (hE2 x2)
      · refine ev_aload_n dX3_readRows_39 rfl ?_
        refine ev_aload_n dX3_readRows_40 rfl ?_
        refine ev_get fk_X3_27 dX3_readRows_41 kp0 (am_fvI (by decide)) ?_
        refine ev_eq (Option.bind_assoc _ _ _) ?_
        refine ev_bald dX3_readRows_44 kp1 (fun v17 h17 => ?_)
        refine ev_bipush (v := 97) dX3_readRows_45 (by decide) ?_
        refine ev_eq am_ib ?_
        refine ev_icmp_eq (tgt := 61) dX3_readRows_47 (by decide) (fun c18 => ?_) (fun c18 => ?_)
        · refine ev_aload_n dX3_readRows_61 rfl ?_
          refine ev_eq (Option.bind_assoc _ _ _) ?_
          refine ev_getR fk_X3_11 (by decide) dX3_readRows_62 kp0 (fun q19 k19 r19 => ?_)
          refine ev_aload_n dX3_readRows_65 rfl ?_
          refine ev_get fk_X3_27 dX3_readRows_66 kp0 (am_fvI (by decide)) ?_
          refine ev_aload_n dX3_readRows_69 rfl ?_
          refine ev_aload_n dX3_readRows_70 rfl ?_
          refine ev_get fk_X3_27 dX3_readRows_71 kp0 (am_fvI (by decide)) ?_
          refine ev_eq (Option.bind_assoc _ _ _) ?_
          refine ev_bald dX3_readRows_74 kp1 (fun v20 h20 => ?_)
          refine ev_bipush (v := 97) dX3_readRows_75 (by decide) ?_
          refine ev_isub dX3_readRows_77 ?_
          refine ev_eq (Option.bind_assoc _ _ _) ?_
          refine ev_iast dX3_readRows_78 k19 (fun σ21 h21 => ?_)
          refine ev_aload_n dX3_readRows_79 rfl ?_
          refine ev_dup dX3_readRows_80 rfl ?_
          refine ev_get fk_X3_27 dX3_readRows_81 kp0 (am_fvI (by decide)) ?_
          refine ev_iconst (v := 1) dX3_readRows_84 (by decide) ?_
          refine ev_iadd dX3_readRows_85 ?_
          refine ev_putI fk_X3_27 tyX3 tyX3_ok nmX3 rfl (by decide +kernel) (by decide) dX3_readRows_86 kp0 ?_
          refine ev_goto (tgt := 22) dX3_readRows_89 (by decide) ?_
          exact ev_leaf (am_wk (am_wk (am_wf (am_wk (am_wf am_wn))))) (hB2 (am_u2 σ21 p0 5 ((σ21 p0 5) + 1)))
        · refine ev_aload_n dX3_readRows_50 rfl ?_
          refine ev_aload_n dX3_readRows_51 rfl ?_
          refine ev_get fk_X3_27 dX3_readRows_52 kp0 (am_fvI (by decide)) ?_
          refine ev_eq (Option.bind_assoc _ _ _) ?_
          refine ev_bald dX3_readRows_55 kp1 (fun v22 h22 => ?_)
          refine ev_bipush (v := 98) dX3_readRows_56 (by decide) ?_
          refine ev_eq am_ib ?_
          refine ev_icmp_ne (tgt := 92) dX3_readRows_58 (by decide) (fun c23 => ?_) (fun c23 => ?_)
          · exact ev_leaf (am_wk (am_wk (am_wf (am_wk (am_wf am_wn))))) (hE2 x2)
          · refine ev_aload_n dX3_readRows_61 rfl ?_
            refine ev_eq (Option.bind_assoc _ _ _) ?_
            refine ev_getR fk_X3_11 (by decide) dX3_readRows_62 kp0 (fun q24 k24 r24 => ?_)
            refine ev_aload_n dX3_readRows_65 rfl ?_
            refine ev_get fk_X3_27 dX3_readRows_66 kp0 (am_fvI (by decide)) ?_
            refine ev_aload_n dX3_readRows_69 rfl ?_
            refine ev_aload_n dX3_readRows_70 rfl ?_
            refine ev_get fk_X3_27 dX3_readRows_71 kp0 (am_fvI (by decide)) ?_
            refine ev_eq (Option.bind_assoc _ _ _) ?_
            refine ev_bald dX3_readRows_74 kp1 (fun v25 h25 => ?_)
            refine ev_bipush (v := 97) dX3_readRows_75 (by decide) ?_
            refine ev_isub dX3_readRows_77 ?_
            refine ev_eq (Option.bind_assoc _ _ _) ?_
            refine ev_iast dX3_readRows_78 k24 (fun σ26 h26 => ?_)
            refine ev_aload_n dX3_readRows_79 rfl ?_
            refine ev_dup dX3_readRows_80 rfl ?_
            refine ev_get fk_X3_27 dX3_readRows_81 kp0 (am_fvI (by decide)) ?_
            refine ev_iconst (v := 1) dX3_readRows_84 (by decide) ?_
            refine ev_iadd dX3_readRows_85 ?_
            refine ev_putI fk_X3_27 tyX3 tyX3_ok nmX3 rfl (by decide +kernel) (by decide) dX3_readRows_86 kp0 ?_
            refine ev_goto (tgt := 22) dX3_readRows_89 (by decide) ?_
            exact ev_leaf (am_wk (am_wk (am_wf (am_wk (am_wf am_wn))))) (hB2 (am_u2 σ26 p0 5 ((σ26 p0 5) + 1)))
  · refine ev_aload_n dX3_readRows_92 rfl ?_
    refine ev_get fk_X3_27 dX3_readRows_93 kp0 (am_fvI (by decide)) ?_
    refine ev_if_eq (tgt := 118) dX3_readRows_96 (by decide) (fun c27 => ?_) (fun c27 => ?_)
    · refine ev_iconst (v := 0) dX3_readRows_118 (by decide) ?_
      exact ev_iret dX3_readRows_119 rfl (by decide) (by decide) (by decide) rfl
    · refine ev_aload_n dX3_readRows_99 rfl ?_
      refine ev_get fk_X3_27 dX3_readRows_100 kp0 (am_fvI (by decide)) ?_
      refine ev_iload_n dX3_readRows_103 rfl ?_
      refine ev_icmp_ge (tgt := 118) dX3_readRows_104 (by decide) (fun c28 => ?_) (fun c28 => ?_)
      · refine ev_iconst (v := 0) dX3_readRows_118 (by decide) ?_
        exact ev_iret dX3_readRows_119 rfl (by decide) (by decide) (by decide) rfl
      · refine ev_aload_n dX3_readRows_107 rfl ?_
        refine ev_aload_n dX3_readRows_108 rfl ?_
        refine ev_get fk_X3_27 dX3_readRows_109 kp0 (am_fvI (by decide)) ?_
        refine ev_bald dX3_readRows_112 kp1 (fun v29 h29 => ?_)
        refine ev_bipush (v := 32) dX3_readRows_113 (by decide) ?_
        refine ev_icmp_eq (tgt := 120) dX3_readRows_115 (by decide) (fun c30 => ?_) (fun c30 => ?_)
        · refine ev_aload_n dX3_readRows_120 rfl ?_
          refine ev_get fk_X3_27 dX3_readRows_121 kp0 (am_fvI (by decide)) ?_
          refine ev_iconst (v := 1) dX3_readRows_124 (by decide) ?_
          refine ev_iadd dX3_readRows_125 ?_
          refine ev_istore dX3_readRows_126 (am_lt rfl) ?_
          refine ev_weak (am_wk (am_wk (am_wf (am_wk (am_wk am_wn))))) (ev_loopR 128 153 (fun x31 : Int32 × (Nat → Nat → Int32) => [some (.ref p0), some (.ref p1), none, some (.int v1), some (.int x31.1)]) (fun t31 : (Nat → Nat → Int32) => [some (.ref p0), none, none, none, none]) (fun x31 => (x31.2, S.2)) (fun t31 => (t31, S.2)) (fun x31 G31 hB31 hE31 hG31 => ?_) (fun t31 => ?_) am_fuel (((t2 p0 5) + 1), t2))
          · unfold f_X3_readRows_b128
            refine ev_iload dX3_readRows_128 rfl ?_
            refine ev_iload_n dX3_readRows_130 rfl ?_
            refine ev_eq am_ib ?_
            refine ev_icmp_ge (tgt := 153) dX3_readRows_131 (by decide) (fun c36 => ?_) (fun c36 => ?_)
            · exact ev_leaf (am_wk (am_wf (am_wf (am_wf (am_wf am_wn))))) (hE31 x31.2)
            · refine ev_aload_n dX3_readRows_134 rfl ?_
              refine ev_aload_n dX3_readRows_135 rfl ?_
              refine ev_iload dX3_readRows_136 rfl ?_
              refine ev_eq (Option.bind_assoc _ _ _) ?_
              refine ev_bald dX3_readRows_138 kp1 (fun v37 h37 => ?_)
              refine ev_eq (Option.bind_assoc _ _ _) ?_
              refine ev_callWI (am_callV (as := [.int v37]) (o := p0) (st := []) cv_X3_43 dX3_readRows_139 kp0 rfl (am_le rfl) (am_fit (by omega) (by decide) (by decide) (by decide)) (t_X3_isWantRead hl kp0)) (fun y38 h38 => ?_)
              refine ev_eq am_ib ?_
              refine ev_if_ne (tgt := 147) dX3_readRows_142 (by decide) (fun c39 => ?_) (fun c39 => ?_)
              · refine ev_iinc (v := (x31.1 + 1)) dX3_readRows_147 (am_lt rfl) rfl rfl ?_
                refine ev_goto (tgt := 128) dX3_readRows_150 (by decide) ?_
                exact ev_leaf (am_wk (am_wk (am_wf (am_wk (am_wk am_wn))))) (hB31 ((x31.1 + 1), y38.2))
              · refine ev_iconst (v := 0) dX3_readRows_145 (by decide) ?_
                exact ev_eq (hG31 _) (ev_iret dX3_readRows_146 rfl (by decide) (by decide) (by decide) rfl)
          · refine ev_aload_n dX3_readRows_153 rfl ?_
            refine ev_get fk_X3_31 dX3_readRows_154 kp0 (am_fvI (by decide)) ?_
            refine ev_if_le (tgt := 164) dX3_readRows_157 (by decide) (fun c40 => ?_) (fun c40 => ?_)
            · refine ev_iconst (v := 0) dX3_readRows_164 (by decide) ?_
              exact ev_iret dX3_readRows_165 rfl (by decide) (by decide) (by decide) rfl
            · refine ev_iconst (v := 1) dX3_readRows_160 (by decide) ?_
              refine ev_goto (tgt := 165) dX3_readRows_161 (by decide) ?_
              exact ev_iret dX3_readRows_165 rfl (by decide) (by decide) (by decide) rfl
        · refine ev_iconst (v := 0) dX3_readRows_118 (by decide) ?_
          exact ev_iret dX3_readRows_119 rfl (by decide) (by decide) (by decide) rfl
def f_X3_keepWay (S : am_S) (p0 : Nat) : Option ((Nat → Nat → Int32)) :=
  ((if (S.1 p0 8) = 0 then ((am_rd S.2 p0 3 1).bind (fun q2 => ((am_rd S.2 p0 4 1).bind (fun q3 => ((am_cp S.1 q2 0 q3 0 3).bind (fun σ4 => some σ4)))))) else some S.1).bind (fun t1 => some (am_u2 t1 p0 8 ((t1 p0 8) + 1))))
set_option maxRecDepth 20000 in
theorem t_X3_keepWay {E : am_E} {l : Launch} (hl : l.stackTraces = false) {S : am_S} {p0 : Nat} (kp0 : am_kd p0 = 103) : am_M E l yX3_keepWay (.code yX3_keepWay cX3_keepWay 1 none) 1 0 0 [.ref p0] S ((f_X3_keepWay S p0).map (fun (x : Nat → Nat → Int32) => ((.inl none, (x, S.2)) : am_R))) := by
  refine am_M_of (w := fun (x : Nat → Nat → Int32) => ((.inl none, (x, S.2)) : am_R)) hl (by decide) (am_fc rfl am_fn) (Nat.le_of_ble_eq_true rfl) ?_
  show am_Ev E l (RX3, cX3_keepWay, 1, none, [], am_rm 1 0 0) (fun b a s x => am_Z E 0 0 b a s ((fun (x : Nat → Nat → Int32) => ((.inl none, (x, S.2)) : am_R)) x)) 0 0 0 [some (.ref p0)] [] S (f_X3_keepWay S p0)
  unfold f_X3_keepWay
  refine ev_aload_n dX3_keepWay_0 rfl ?_
  refine ev_get fk_X3_50 dX3_keepWay_1 kp0 (am_fvI (by decide)) ?_
  refine ev_reg (cs' := 0) (sl' := 0) 21 (fun t1 : (Nat → Nat → Int32) => [some (.ref p0)]) (fun t1 => []) (fun t1 => (t1, S.2)) (fun hJ1 => ?_) (fun t1 => ?_)
  · refine ev_eq am_ib ?_
    refine ev_if_ne (tgt := 21) dX3_keepWay_4 (by decide) (fun c1 => ?_) (fun c1 => ?_)
    · exact ev_leaf (am_wk am_wn) (hJ1 S.1)
    · refine ev_aload_n dX3_keepWay_7 rfl ?_
      refine ev_eq (Option.bind_assoc _ _ _) ?_
      refine ev_getR fk_X3_21 (by decide) dX3_keepWay_8 kp0 (fun q2 k2 r2 => ?_)
      refine ev_iconst (v := 0) dX3_keepWay_11 (by decide) ?_
      refine ev_aload_n dX3_keepWay_12 rfl ?_
      refine ev_eq (Option.bind_assoc _ _ _) ?_
      refine ev_getR fk_X3_24 (by decide) dX3_keepWay_13 kp0 (fun q3 k3 r3 => ?_)
      refine ev_iconst (v := 0) dX3_keepWay_16 (by decide) ?_
      refine ev_iconst (v := 3) dX3_keepWay_17 (by decide) ?_
      refine ev_eq (Option.bind_assoc _ _ _) ?_
      refine ev_cpyI dX3_keepWay_18 (am_G_t (i := 1293) (by decide +kernel) rfl) am_acw_in k2 k3 (by decide) (by decide) (by decide) (fun σ4 h4 => ?_)
      exact ev_leaf (am_wk am_wn) (hJ1 σ4)
  · refine ev_aload_n dX3_keepWay_21 rfl ?_
    refine ev_dup dX3_keepWay_22 rfl ?_
    refine ev_get fk_X3_50 dX3_keepWay_23 kp0 (am_fvI (by decide)) ?_
    refine ev_iconst (v := 1) dX3_keepWay_26 (by decide) ?_
    refine ev_iadd dX3_keepWay_27 ?_
    refine ev_putI fk_X3_50 tyX3 tyX3_ok nmX3 rfl (by decide +kernel) (by decide) dX3_keepWay_28 kp0 ?_
    exact ev_vret dX3_keepWay_31 rfl (by decide) (by decide) rfl
def f_X3_isNew_b2 (S : am_S) (a0 : Nat) (a1 : Int32) (a2 : Int32) (x1 : Int32) : Option ((Int32) ⊕ ((Unit) ⊕ (Int32))) :=
  (if x1 < a2 then ((am_rd S.2 a0 3 1).bind (fun q3 => ((am_ld S.1 q3 x1).bind (fun v4 => (if v4 = a1 then some (.inr (.inr 0)) else some (.inl (x1 + 1))))))) else some (.inr (.inr 1)))
def f_X3_isNew (S : am_S) (p0 : Nat) (p1 : Int32) (p2 : Int32) : Option (Int32) :=
  ((am_loop (f_X3_isNew_b2 S p0 p1 p2) am_fuel 0).bind (fun r1 => match r1 with | .inl t1 => none | .inr b1 => some b1))
set_option maxRecDepth 20000 in
theorem t_X3_isNew {E : am_E} {l : Launch} (hl : l.stackTraces = false) {S : am_S} {p0 : Nat} {p1 : Int32} {p2 : Int32} (kp0 : am_kd p0 = 103) : am_M E l yX3_isNew (.code yX3_isNew cX3_isNew 4 (some .boolean)) 0 0 0 [.ref p0, .int p1, .int p2] S ((f_X3_isNew S p0 p1 p2).map (fun (v : Int32) => ((.inl (some (.int v)), S) : am_R))) := by
  refine am_M_of (w := fun (v : Int32) => ((.inl (some (.int v)), S) : am_R)) hl (by decide) (am_fc rfl (am_fc rfl (am_fc rfl am_fn))) (Nat.le_of_ble_eq_true rfl) ?_
  show am_Ev E l (RX3, cX3_isNew, 4, (some .boolean), [], am_rm 0 0 0) (fun b a s x => am_Z E 0 0 b a s ((fun (v : Int32) => ((.inl (some (.int v)), S) : am_R)) x)) 0 0 0 [some (.ref p0), some (.int p1), some (.int p2), none] [] S (f_X3_isNew S p0 p1 p2)
  unfold f_X3_isNew
  refine ev_iconst (v := 0) dX3_isNew_0 (by decide) ?_
  refine ev_istore_n dX3_isNew_1 (am_lt rfl) ?_
  refine ev_weak (am_wk (am_wk (am_wk (am_wk am_wn)))) (ev_loopR 2 0 (fun x1 : Int32 => [some (.ref p0), some (.int p1), some (.int p2), some (.int x1)]) (fun t1 : Unit => [none, none, none, none]) (fun x1 => S) (fun t1 => S) (fun x1 G1 hB1 hE1 hG1 => ?_) (fun t1 => ?_) am_fuel 0)
  · unfold f_X3_isNew_b2
    refine ev_iload_n dX3_isNew_2 rfl ?_
    refine ev_iload_n dX3_isNew_3 rfl ?_
    refine ev_eq am_ib ?_
    refine ev_icmp_ge (tgt := 25) dX3_isNew_4 (by decide) (fun c6 => ?_) (fun c6 => ?_)
    · refine ev_iconst (v := 1) dX3_isNew_25 (by decide) ?_
      exact ev_eq (hG1 _) (ev_iret dX3_isNew_26 rfl (by decide) (by decide) (by decide) rfl)
    · refine ev_aload_n dX3_isNew_7 rfl ?_
      refine ev_eq (Option.bind_assoc _ _ _) ?_
      refine ev_getR fk_X3_21 (by decide) dX3_isNew_8 kp0 (fun q7 k7 r7 => ?_)
      refine ev_iload_n dX3_isNew_11 rfl ?_
      refine ev_eq (Option.bind_assoc _ _ _) ?_
      refine ev_iald dX3_isNew_12 k7 (fun v8 h8 => ?_)
      refine ev_iload_n dX3_isNew_13 rfl ?_
      refine ev_eq am_ib ?_
      refine ev_icmp_ne (tgt := 19) dX3_isNew_14 (by decide) (fun c9 => ?_) (fun c9 => ?_)
      · refine ev_iinc (v := (x1 + 1)) dX3_isNew_19 (am_lt rfl) rfl rfl ?_
        refine ev_goto (tgt := 2) dX3_isNew_22 (by decide) ?_
        exact ev_leaf (am_wk (am_wk (am_wk (am_wk am_wn)))) (hB1 (x1 + 1))
      · refine ev_iconst (v := 0) dX3_isNew_17 (by decide) ?_
        exact ev_eq (hG1 _) (ev_iret dX3_isNew_18 rfl (by decide) (by decide) (by decide) rfl)
  · exact ev_none
def f_X3_isFitting_b46 (S : am_S) (a0 : Nat) (a1 : Int32) (a3 : Int32) (a4 : Int32) (x11 : Int32 × Int32) : Option ((Int32 × Int32) ⊕ ((Int32) ⊕ (Int32))) :=
  (if x11.2 < 0 then some (.inr (.inl x11.1)) else (if x11.1 < (S.1 a0 5) then ((am_rd S.2 a0 0 1).bind (fun q14 => ((am_ld S.1 q14 x11.1).bind (fun v15 => (if v15 = ((a4 >>> (x11.2 &&& 31)) &&& 1) then some (.inl ((x11.1 + 1), (x11.2 + (-1)))) else some (.inr (.inr 0))))))) else some (.inr (.inr 0))))
def f_X3_isFitting_b4 (S : am_S) (a0 : Nat) (a1 : Int32) (x1 : Int32 × Int32) : Option ((Int32 × Int32) ⊕ ((Int32) ⊕ (Int32))) :=
  (if x1.2 < (S.1 a0 6) then ((am_rd S.2 a0 1 1).bind (fun q3 => ((am_ld S.1 q3 x1.2).bind (fun v4 => (if a1 < v4 then some (.inr (.inr 1)) else ((am_rd S.2 a0 3 1).bind (fun q6 => ((am_rd S.2 a0 1 1).bind (fun q7 => ((am_ld S.1 q7 x1.2).bind (fun v8 => ((am_ld S.1 q6 v8).bind (fun v9 => ((f_X11_strokesOf v9).bind (fun v10 => ((am_loop (f_X3_isFitting_b46 S a0 a1 x1.2 v9) am_fuel (x1.1, (v10 - 1))).bind (fun r11 => match r11 with | .inl t11 => some (.inl (t11, (x1.2 + 1))) | .inr b11 => some (.inr (.inr b11))))))))))))))))))) else some (.inr (.inl x1.1)))
def f_X3_isFitting (S : am_S) (p0 : Nat) (p1 : Int32) : Option (Int32) :=
  ((am_loop (f_X3_isFitting_b4 S p0 p1) am_fuel (0, 0)).bind (fun r1 => match r1 with | .inl t1 => (if t1 = (S.1 p0 5) then some 1 else some 0) | .inr b1 => some b1))
set_option maxRecDepth 20000 in
theorem t_X3_isFitting {E : am_E} {l : Launch} (hl : l.stackTraces = false) {S : am_S} {p0 : Nat} {p1 : Int32} (kp0 : am_kd p0 = 103) : am_M E l yX3_isFitting (.code yX3_isFitting cX3_isFitting 6 (some .boolean)) 1 0 0 [.ref p0, .int p1] S ((f_X3_isFitting S p0 p1).map (fun (v : Int32) => ((.inl (some (.int v)), S) : am_R))) := by
  refine am_M_of (w := fun (v : Int32) => ((.inl (some (.int v)), S) : am_R)) hl (by decide) (am_fc rfl (am_fc rfl am_fn)) (Nat.le_of_ble_eq_true rfl) ?_
  show am_Ev E l (RX3, cX3_isFitting, 6, (some .boolean), [], am_rm 1 0 0) (fun b a s x => am_Z E 0 0 b a s ((fun (v : Int32) => ((.inl (some (.int v)), S) : am_R)) x)) 0 0 0 [some (.ref p0), some (.int p1), none, none, none, none] [] S (f_X3_isFitting S p0 p1)
  unfold f_X3_isFitting
  refine ev_iconst (v := 0) dX3_isFitting_0 (by decide) ?_
  refine ev_istore_n dX3_isFitting_1 (am_lt rfl) ?_
  refine ev_iconst (v := 0) dX3_isFitting_2 (by decide) ?_
  refine ev_istore_n dX3_isFitting_3 (am_lt rfl) ?_
  refine ev_weak (am_wk (am_wk (am_wk (am_wk (am_wf (am_wf am_wn)))))) (ev_loopR 4 92 (fun x1 : Int32 × Int32 => [some (.ref p0), some (.int p1), some (.int x1.1), some (.int x1.2), none, none]) (fun t1 : Int32 => [some (.ref p0), none, some (.int t1), none, none, none]) (fun x1 => S) (fun t1 => S) (fun x1 G1 hB1 hE1 hG1 => ?_) (fun t1 => ?_) am_fuel (0, 0))
  · unfold f_X3_isFitting_b4
    refine ev_iload_n dX3_isFitting_4 rfl ?_
    refine ev_aload_n dX3_isFitting_5 rfl ?_
    refine ev_get fk_X3_31 dX3_isFitting_6 kp0 (am_fvI (by decide)) ?_
    refine ev_eq am_ib ?_
    refine ev_icmp_ge (tgt := 92) dX3_isFitting_9 (by decide) (fun c22 => ?_) (fun c22 => ?_)
    · exact ev_leaf (am_wk (am_wf (am_wk (am_wf (am_wf (am_wf am_wn)))))) (hE1 x1.1)
    · refine ev_aload_n dX3_isFitting_12 rfl ?_
      refine ev_eq (Option.bind_assoc _ _ _) ?_
      refine ev_getR fk_X3_15 (by decide) dX3_isFitting_13 kp0 (fun q23 k23 r23 => ?_)
      refine ev_iload_n dX3_isFitting_16 rfl ?_
      refine ev_eq (Option.bind_assoc _ _ _) ?_
      refine ev_iald dX3_isFitting_17 k23 (fun v24 h24 => ?_)
      refine ev_iload_n dX3_isFitting_18 rfl ?_
      refine ev_eq am_ib ?_
      refine ev_icmp_le (tgt := 24) dX3_isFitting_19 (by decide) (fun c25 => ?_) (fun c25 => ?_)
      · refine ev_aload_n dX3_isFitting_24 rfl ?_
        refine ev_eq (Option.bind_assoc _ _ _) ?_
        refine ev_getR fk_X3_21 (by decide) dX3_isFitting_25 kp0 (fun q26 k26 r26 => ?_)
        refine ev_aload_n dX3_isFitting_28 rfl ?_
        refine ev_eq (Option.bind_assoc _ _ _) ?_
        refine ev_getR fk_X3_15 (by decide) dX3_isFitting_29 kp0 (fun q27 k27 r27 => ?_)
        refine ev_iload_n dX3_isFitting_32 rfl ?_
        refine ev_eq (Option.bind_assoc _ _ _) ?_
        refine ev_iald dX3_isFitting_33 k27 (fun v28 h28 => ?_)
        refine ev_eq (Option.bind_assoc _ _ _) ?_
        refine ev_iald dX3_isFitting_34 k26 (fun v29 h29 => ?_)
        refine ev_istore dX3_isFitting_35 (am_lt rfl) ?_
        refine ev_iload dX3_isFitting_37 rfl ?_
        refine ev_eq (Option.bind_assoc _ _ _) ?_
        refine ev_callP (am_callSN (as := [.int v29]) (st := []) ct_X3_73 dX3_isFitting_39 rfl (am_le rfl) (am_fit (by omega) (by decide) (by decide) (by decide)) (am_no1 (fun _ => ⟨_, rfl⟩)) (t_X11_strokesOf hl )) (fun v30 h30 => ?_)
        refine ev_iconst (v := 1) dX3_isFitting_42 (by decide) ?_
        refine ev_isub dX3_isFitting_43 ?_
        refine ev_istore dX3_isFitting_44 (am_lt rfl) ?_
        refine ev_eq (Option.bind_assoc _ _ _) ?_
        refine ev_weak (am_wk (am_wk (am_wk (am_wk (am_wk (am_wk am_wn)))))) (ev_loopR 46 86 (fun x31 : Int32 × Int32 => [some (.ref p0), some (.int p1), some (.int x31.1), some (.int x1.2), some (.int v29), some (.int x31.2)]) (fun t31 : Int32 => [some (.ref p0), some (.int p1), some (.int t31), some (.int x1.2), none, none]) (fun x31 => S) (fun t31 => S) (fun x31 G31 hB31 hE31 hG31 => ?_) (fun t31 => ?_) am_fuel (x1.1, (v30 - 1)))
        · unfold f_X3_isFitting_b46
          refine ev_iload dX3_isFitting_46 rfl ?_
          refine ev_eq am_ib ?_
          refine ev_if_lt (tgt := 86) dX3_isFitting_48 (by decide) (fun c37 => ?_) (fun c37 => ?_)
          · exact ev_leaf (am_wk (am_wk (am_wk (am_wk (am_wf (am_wf am_wn)))))) (hE31 x31.1)
          · refine ev_iload_n dX3_isFitting_51 rfl ?_
            refine ev_aload_n dX3_isFitting_52 rfl ?_
            refine ev_get fk_X3_27 dX3_isFitting_53 kp0 (am_fvI (by decide)) ?_
            refine ev_eq am_ib ?_
            refine ev_icmp_ge (tgt := 75) dX3_isFitting_56 (by decide) (fun c38 => ?_) (fun c38 => ?_)
            · refine ev_iconst (v := 0) dX3_isFitting_75 (by decide) ?_
              exact ev_eq ((hG31 _).trans (hG1 _)) (ev_iret dX3_isFitting_76 rfl (by decide) (by decide) (by decide) rfl)
            · refine ev_aload_n dX3_isFitting_59 rfl ?_
              refine ev_eq (Option.bind_assoc _ _ _) ?_
              refine ev_getR fk_X3_11 (by decide) dX3_isFitting_60 kp0 (fun q39 k39 r39 => ?_)
              refine ev_iload_n dX3_isFitting_63 rfl ?_
              refine ev_eq (Option.bind_assoc _ _ _) ?_
              refine ev_iald dX3_isFitting_64 k39 (fun v40 h40 => ?_)
              refine ev_iload dX3_isFitting_65 rfl ?_
              refine ev_iload dX3_isFitting_67 rfl ?_
              refine ev_ishr dX3_isFitting_69 ?_
              refine ev_iconst (v := 1) dX3_isFitting_70 (by decide) ?_
              refine ev_iand dX3_isFitting_71 ?_
              refine ev_eq am_ib ?_
              refine ev_icmp_eq (tgt := 77) dX3_isFitting_72 (by decide) (fun c41 => ?_) (fun c41 => ?_)
              · refine ev_iinc (v := (x31.1 + 1)) dX3_isFitting_77 (am_lt rfl) rfl rfl ?_
                refine ev_iinc (v := (x31.2 + (-1))) dX3_isFitting_80 (am_lt rfl) rfl rfl ?_
                refine ev_goto (tgt := 46) dX3_isFitting_83 (by decide) ?_
                exact ev_leaf (am_wk (am_wk (am_wk (am_wk (am_wk (am_wk am_wn)))))) (hB31 ((x31.1 + 1), (x31.2 + (-1))))
              · refine ev_iconst (v := 0) dX3_isFitting_75 (by decide) ?_
                exact ev_eq ((hG31 _).trans (hG1 _)) (ev_iret dX3_isFitting_76 rfl (by decide) (by decide) (by decide) rfl)
        · refine ev_iinc (v := (x1.2 + 1)) dX3_isFitting_86 (am_lt rfl) rfl rfl ?_
          refine ev_goto (tgt := 4) dX3_isFitting_89 (by decide) ?_
          exact ev_leaf (am_wk (am_wk (am_wk (am_wk (am_wf (am_wf am_wn)))))) (hB1 (t31, (x1.2 + 1)))
      · refine ev_iconst (v := 1) dX3_isFitting_22 (by decide) ?_
        exact ev_eq (hG1 _) (ev_iret dX3_isFitting_23 rfl (by decide) (by decide) (by decide) rfl)
  · refine ev_iload_n dX3_isFitting_92 rfl ?_
    refine ev_aload_n dX3_isFitting_93 rfl ?_
    refine ev_get fk_X3_27 dX3_isFitting_94 kp0 (am_fvI (by decide)) ?_
    refine ev_icmp_ne (tgt := 104) dX3_isFitting_97 (by decide) (fun c42 => ?_) (fun c42 => ?_)
    · refine ev_iconst (v := 0) dX3_isFitting_104 (by decide) ?_
      exact ev_iret dX3_isFitting_105 rfl (by decide) (by decide) (by decide) rfl
    · refine ev_iconst (v := 1) dX3_isFitting_100 (by decide) ?_
      refine ev_goto (tgt := 105) dX3_isFitting_101 (by decide) ?_
      exact ev_iret dX3_isFitting_105 rfl (by decide) (by decide) (by decide) rfl
def f_X3_tryWords_b20 (rc_X3_tryWords : am_S → Nat → Int32 → Option ((Nat → Nat → Int32))) (S : am_S) (a0 : Nat) (a1 : Int32) (x4 : Int32 × (Nat → Nat → Int32)) : Option ((Int32 × (Nat → Nat → Int32)) ⊕ ((Nat → Nat → Int32))) :=
  (if 15 < x4.1 then some (.inr x4.2) else ((am_rd S.2 a0 3 1).bind (fun q6 => ((am_st x4.2 q6 a1 x4.1).bind (fun σ7 => ((f_X3_isNew (σ7, S.2) a0 x4.1 a1).bind (fun v8 => ((if v8 = 0 then some σ7 else ((f_X3_isFitting (σ7, S.2) a0 a1).bind (fun v10 => (if v10 = 0 then some σ7 else ((rc_X3_tryWords (σ7, S.2) a0 (a1 + 1)).bind (fun σ12 => some σ12)))))).bind (fun t9 => some (.inl ((x4.1 + 1), t9)))))))))))
def f_X3_tryWords_o (rc_X3_tryWords : am_S → Nat → Int32 → Option ((Nat → Nat → Int32))) (S : am_S) (p0 : Nat) (p1 : Int32) : Option ((Nat → Nat → Int32)) :=
  (if p1 < (S.1 p0 7) then (if p1 < 3 then ((am_loop (f_X3_tryWords_b20 rc_X3_tryWords S p0 p1) am_fuel (2, S.1)).bind (fun t4 => some t4)) else ((f_X3_keepWay S p0).bind (fun σ21 => some σ21))) else ((f_X3_keepWay S p0).bind (fun σ2 => some σ2)))
set_option maxRecDepth 20000 in
theorem to_X3_tryWords {E : am_E} {l : Launch} (hl : l.stackTraces = false) {d : Nat} (hD : 1 ≤ d) {rc_X3_tryWords : am_S → Nat → Int32 → Option ((Nat → Nat → Int32))}  (ht_X3_tryWords : ∀ {S : am_S} {p0 : Nat} {p1 : Int32} (kp0 : am_kd p0 = 103), am_M E l yX3_tryWords (.code yX3_tryWords cX3_tryWords 3 none) (d) 0 0 [.ref p0, .int p1] S ((rc_X3_tryWords S p0 p1).map (fun (x : Nat → Nat → Int32) => ((.inl none, (x, S.2)) : am_R)))) {S : am_S} {p0 : Nat} {p1 : Int32} (kp0 : am_kd p0 = 103) : am_M E l yX3_tryWords (.code yX3_tryWords cX3_tryWords 3 none) (d + 1) 0 0 [.ref p0, .int p1] S ((f_X3_tryWords_o rc_X3_tryWords S p0 p1).map (fun (x : Nat → Nat → Int32) => ((.inl none, (x, S.2)) : am_R))) := by
  refine am_M_of (w := fun (x : Nat → Nat → Int32) => ((.inl none, (x, S.2)) : am_R)) hl (by decide) (am_fc rfl (am_fc rfl am_fn)) (Nat.le_of_ble_eq_true rfl) ?_
  show am_Ev E l (RX3, cX3_tryWords, 3, none, [], am_rm (d + 1) 0 0) (fun b a s x => am_Z E 0 0 b a s ((fun (x : Nat → Nat → Int32) => ((.inl none, (x, S.2)) : am_R)) x)) 0 0 0 [some (.ref p0), some (.int p1), none] [] S (f_X3_tryWords_o rc_X3_tryWords S p0 p1)
  unfold f_X3_tryWords_o
  refine ev_iload_n dX3_tryWords_0 rfl ?_
  refine ev_aload_n dX3_tryWords_1 rfl ?_
  refine ev_get fk_X3_34 dX3_tryWords_2 kp0 (am_fvI (by decide)) ?_
  refine ev_icmp_ge (tgt := 13) dX3_tryWords_5 (by decide) (fun c1 => ?_) (fun c1 => ?_)
  · refine ev_aload_n dX3_tryWords_13 rfl ?_
    refine ev_callWV (am_callV (as := []) (o := p0) (st := []) cv_X3_57 dX3_tryWords_14 kp0 rfl (am_le rfl) (am_fit (by omega) (by decide) (by decide) (by decide)) (t_X3_keepWay hl kp0)) (fun σ2 h2 => ?_)
    exact ev_vret dX3_tryWords_17 rfl (by decide) (by decide) rfl
  · refine ev_iload_n dX3_tryWords_8 rfl ?_
    refine ev_iconst (v := 3) dX3_tryWords_9 (by decide) ?_
    refine ev_icmp_lt (tgt := 18) dX3_tryWords_10 (by decide) (fun c3 => ?_) (fun c3 => ?_)
    · refine ev_iconst (v := 2) dX3_tryWords_18 (by decide) ?_
      refine ev_istore_n dX3_tryWords_19 (am_lt rfl) ?_
      refine ev_weak (am_wk (am_wk (am_wk am_wn))) (ev_loop 20 63 (fun x4 : Int32 × (Nat → Nat → Int32) => [some (.ref p0), some (.int p1), some (.int x4.1)]) (fun t4 : (Nat → Nat → Int32) => [none, none, none]) (fun x4 => (x4.2, S.2)) (fun t4 => (t4, S.2)) (fun x4 G4 hB4 hE4 => ?_) (fun t4 => ?_) am_fuel (2, S.1))
      · unfold f_X3_tryWords_b20
        refine ev_iload_n dX3_tryWords_20 rfl ?_
        refine ev_bipush (v := 15) dX3_tryWords_21 (by decide) ?_
        refine ev_eq am_ib ?_
        refine ev_icmp_gt (tgt := 63) dX3_tryWords_23 (by decide) (fun c13 => ?_) (fun c13 => ?_)
        · exact ev_leaf (am_wf (am_wf (am_wf am_wn))) (hE4 x4.2)
        · refine ev_aload_n dX3_tryWords_26 rfl ?_
          refine ev_eq (Option.bind_assoc _ _ _) ?_
          refine ev_getR fk_X3_21 (by decide) dX3_tryWords_27 kp0 (fun q14 k14 r14 => ?_)
          refine ev_iload_n dX3_tryWords_30 rfl ?_
          refine ev_iload_n dX3_tryWords_31 rfl ?_
          refine ev_eq (Option.bind_assoc _ _ _) ?_
          refine ev_iast dX3_tryWords_32 k14 (fun σ15 h15 => ?_)
          refine ev_aload_n dX3_tryWords_33 rfl ?_
          refine ev_iload_n dX3_tryWords_34 rfl ?_
          refine ev_iload_n dX3_tryWords_35 rfl ?_
          refine ev_eq (Option.bind_assoc _ _ _) ?_
          refine ev_callP (am_callV (as := [.int x4.1, .int p1]) (o := p0) (st := []) cv_X3_60 dX3_tryWords_36 kp0 rfl (am_le rfl) (am_fit (by omega) (by decide) (by decide) (by decide)) (t_X3_isNew hl kp0)) (fun v16 h16 => ?_)
          refine ev_eq (Option.bind_assoc _ _ _) ?_
          refine ev_reg (cs' := 0) (sl' := 0) 57 (fun t17 : (Nat → Nat → Int32) => [some (.ref p0), some (.int p1), some (.int x4.1)]) (fun t17 => []) (fun t17 => (t17, S.2)) (fun hJ17 => ?_) (fun t17 => ?_)
          · refine ev_eq am_ib ?_
            refine ev_if_eq (tgt := 57) dX3_tryWords_39 (by decide) (fun c17 => ?_) (fun c17 => ?_)
            · exact ev_leaf (am_wk (am_wk (am_wk am_wn))) (hJ17 σ15)
            · refine ev_aload_n dX3_tryWords_42 rfl ?_
              refine ev_iload_n dX3_tryWords_43 rfl ?_
              refine ev_eq (Option.bind_assoc _ _ _) ?_
              refine ev_callP (am_callV (as := [.int p1]) (o := p0) (st := []) cv_X3_64 dX3_tryWords_44 kp0 rfl (am_le rfl) (am_fit (by omega) (by decide) (by decide) (by decide)) (t_X3_isFitting hl kp0)) (fun v18 h18 => ?_)
              refine ev_eq am_ib ?_
              refine ev_if_eq (tgt := 57) dX3_tryWords_47 (by decide) (fun c19 => ?_) (fun c19 => ?_)
              · exact ev_leaf (am_wk (am_wk (am_wk am_wn))) (hJ17 σ15)
              · refine ev_aload_n dX3_tryWords_50 rfl ?_
                refine ev_iload_n dX3_tryWords_51 rfl ?_
                refine ev_iconst (v := 1) dX3_tryWords_52 (by decide) ?_
                refine ev_iadd dX3_tryWords_53 ?_
                refine ev_eq (Option.bind_assoc _ _ _) ?_
                refine ev_callWV (am_callV (as := [.int (p1 + 1)]) (o := p0) (st := []) cv_X3_53 dX3_tryWords_54 kp0 rfl (am_le rfl) (am_fit (by omega) (by decide) (by decide) (by decide)) (ht_X3_tryWords kp0)) (fun σ20 h20 => ?_)
                exact ev_leaf (am_wk (am_wk (am_wk am_wn))) (hJ17 σ20)
          · refine ev_iinc (v := (x4.1 + 1)) dX3_tryWords_57 (am_lt rfl) rfl rfl ?_
            refine ev_goto (tgt := 20) dX3_tryWords_60 (by decide) ?_
            exact ev_leaf (am_wk (am_wk (am_wk am_wn))) (hB4 ((x4.1 + 1), t17))
      · exact ev_vret dX3_tryWords_63 rfl (by decide) (by decide) rfl
    · refine ev_aload_n dX3_tryWords_13 rfl ?_
      refine ev_callWV (am_callV (as := []) (o := p0) (st := []) cv_X3_57 dX3_tryWords_14 kp0 rfl (am_le rfl) (am_fit (by omega) (by decide) (by decide) (by decide)) (t_X3_keepWay hl kp0)) (fun σ21 h21 => ?_)
      exact ev_vret dX3_tryWords_17 rfl (by decide) (by decide) rfl
def f_rec_X3_tryWords : Nat → Nat → am_S → Nat → Int32 → Option ((Nat → Nat → Int32))
  | 0, _ => fun _ _ _ => none
  | n + 1, _ => f_X3_tryWords_o (f_rec_X3_tryWords n 0)
def f_X3_tryWords (n : Nat) : am_S → Nat → Int32 → Option ((Nat → Nat → Int32)) := f_rec_X3_tryWords n 0
theorem t_rec_X3_tryWords {E : am_E} {l : Launch} (hl : l.stackTraces = false) : ∀ n : Nat, (∀ {S : am_S} {p0 : Nat} {p1 : Int32} (kp0 : am_kd p0 = 103), am_M E l yX3_tryWords (.code yX3_tryWords cX3_tryWords 3 none) (1 + n) 0 0 [.ref p0, .int p1] S ((f_X3_tryWords n S p0 p1).map (fun (x : Nat → Nat → Int32) => ((.inl none, (x, S.2)) : am_R)))) := by
  intro n
  induction n with
  | zero => exact (by intros; intro r hr; cases hr)
  | succ n ih => exact (by intros; exact to_X3_tryWords hl (by omega) (fun z0 => ih z0) (by assumption))
theorem t_X3_tryWords {E : am_E} {l : Launch} (hl : l.stackTraces = false) (n : Nat) {S : am_S} {p0 : Nat} {p1 : Int32} (kp0 : am_kd p0 = 103) : am_M E l yX3_tryWords (.code yX3_tryWords cX3_tryWords 3 none) (1 + n) 0 0 [.ref p0, .int p1] S ((f_X3_tryWords n S p0 p1).map (fun (x : Nat → Nat → Int32) => ((.inl none, (x, S.2)) : am_R))) := (t_rec_X3_tryWords hl n) kp0
def f_X3_findWays (S : am_S) (p0 : Nat) : Option ((Nat → Nat → Int32)) :=
  ((f_X3_tryWords 60 ((am_u2 S.1 p0 8 0), S.2) p0 0).bind (fun σ1 => some σ1))
set_option maxRecDepth 20000 in
theorem t_X3_findWays {E : am_E} {l : Launch} (hl : l.stackTraces = false) {S : am_S} {p0 : Nat} (kp0 : am_kd p0 = 103) : am_M E l yX3_findWays (.code yX3_findWays cX3_findWays 1 none) 62 0 0 [.ref p0] S ((f_X3_findWays S p0).map (fun (x : Nat → Nat → Int32) => ((.inl none, (x, S.2)) : am_R))) := by
  refine am_M_of (w := fun (x : Nat → Nat → Int32) => ((.inl none, (x, S.2)) : am_R)) hl (by decide) (am_fc rfl am_fn) (Nat.le_of_ble_eq_true rfl) ?_
  show am_Ev E l (RX3, cX3_findWays, 1, none, [], am_rm 62 0 0) (fun b a s x => am_Z E 0 0 b a s ((fun (x : Nat → Nat → Int32) => ((.inl none, (x, S.2)) : am_R)) x)) 0 0 0 [some (.ref p0)] [] S (f_X3_findWays S p0)
  unfold f_X3_findWays
  refine ev_aload_n dX3_findWays_0 rfl ?_
  refine ev_iconst (v := 0) dX3_findWays_1 (by decide) ?_
  refine ev_putI fk_X3_50 tyX3 tyX3_ok nmX3 rfl (by decide +kernel) (by decide) dX3_findWays_2 kp0 ?_
  refine ev_aload_n dX3_findWays_5 rfl ?_
  refine ev_iconst (v := 0) dX3_findWays_6 (by decide) ?_
  refine ev_callWV (am_callV (as := [.int 0]) (o := p0) (st := []) cv_X3_53 dX3_findWays_7 kp0 rfl (am_le rfl) (am_fit (by omega) (by decide) (by decide) (by decide)) (t_X3_tryWords hl 60 kp0)) (fun σ1 h1 => ?_)
  exact ev_vret dX3_findWays_10 rfl (by decide) (by decide) rfl
def f_X3_firstWordOf (S : am_S) (p0 : Nat) (p1 : Int32) : Option (Int32) :=
  (if 0 < (S.1 p0 8) then (if p1 < 0 then some (-1) else (if p1 < (S.1 p0 7) then ((am_rd S.2 p0 4 1).bind (fun q4 => ((am_ld S.1 q4 p1).bind (fun v5 => some v5)))) else some (-1))) else some (-1))
set_option maxRecDepth 20000 in
theorem t_X3_firstWordOf {E : am_E} {l : Launch} (hl : l.stackTraces = false) {S : am_S} {p0 : Nat} {p1 : Int32} (kp0 : am_kd p0 = 103) : am_M E l yX3_firstWordOf (.code yX3_firstWordOf cX3_firstWordOf 2 (some .int)) 0 0 0 [.ref p0, .int p1] S ((f_X3_firstWordOf S p0 p1).map (fun (v : Int32) => ((.inl (some (.int v)), S) : am_R))) := by
  refine am_M_of (w := fun (v : Int32) => ((.inl (some (.int v)), S) : am_R)) hl (by decide) (am_fc rfl (am_fc rfl am_fn)) (Nat.le_of_ble_eq_true rfl) ?_
  show am_Ev E l (RX3, cX3_firstWordOf, 2, (some .int), [], am_rm 0 0 0) (fun b a s x => am_Z E 0 0 b a s ((fun (v : Int32) => ((.inl (some (.int v)), S) : am_R)) x)) 0 0 0 [some (.ref p0), some (.int p1)] [] S (f_X3_firstWordOf S p0 p1)
  unfold f_X3_firstWordOf
  refine ev_aload_n dX3_firstWordOf_0 rfl ?_
  refine ev_get fk_X3_50 dX3_firstWordOf_1 kp0 (am_fvI (by decide)) ?_
  refine ev_if_le (tgt := 28) dX3_firstWordOf_4 (by decide) (fun c1 => ?_) (fun c1 => ?_)
  · refine ev_iconst (v := (-1)) dX3_firstWordOf_28 (by decide) ?_
    exact ev_iret dX3_firstWordOf_29 rfl rfl (by decide) (by decide) rfl
  · refine ev_iload_n dX3_firstWordOf_7 rfl ?_
    refine ev_if_lt (tgt := 28) dX3_firstWordOf_8 (by decide) (fun c2 => ?_) (fun c2 => ?_)
    · refine ev_iconst (v := (-1)) dX3_firstWordOf_28 (by decide) ?_
      exact ev_iret dX3_firstWordOf_29 rfl rfl (by decide) (by decide) rfl
    · refine ev_iload_n dX3_firstWordOf_11 rfl ?_
      refine ev_aload_n dX3_firstWordOf_12 rfl ?_
      refine ev_get fk_X3_34 dX3_firstWordOf_13 kp0 (am_fvI (by decide)) ?_
      refine ev_icmp_ge (tgt := 28) dX3_firstWordOf_16 (by decide) (fun c3 => ?_) (fun c3 => ?_)
      · refine ev_iconst (v := (-1)) dX3_firstWordOf_28 (by decide) ?_
        exact ev_iret dX3_firstWordOf_29 rfl rfl (by decide) (by decide) rfl
      · refine ev_aload_n dX3_firstWordOf_19 rfl ?_
        refine ev_getR fk_X3_24 (by decide) dX3_firstWordOf_20 kp0 (fun q4 k4 r4 => ?_)
        refine ev_iload_n dX3_firstWordOf_23 rfl ?_
        refine ev_iald dX3_firstWordOf_24 k4 (fun v5 h5 => ?_)
        refine ev_goto (tgt := 29) dX3_firstWordOf_25 (by decide) ?_
        exact ev_iret dX3_firstWordOf_29 rfl rfl (by decide) (by decide) rfl
def f_X11_learn (S : am_S) (p0 : Nat) (p1 : Int32) : Option (am_R) :=
  ((am_rd S.2 p0 15 103).bind (fun q1 => ((am_rd S.2 p0 0 2).bind (fun q2 => ((f_X3_readRows S q1 q2 (S.1 p0 1)).bind (fun y3 => (if y3.1 = 0 then some (.inr 1, ((am_u2 y3.2 p0 1 0), S.2)) else (if p1 < (-1) then some (.inr 1, ((am_u2 y3.2 p0 1 0), S.2)) else ((am_rd S.2 p0 15 103).bind (fun q6 => (if p1 < ((am_u2 y3.2 p0 1 0) q6 7) then ((am_rd S.2 p0 15 103).bind (fun q8 => ((f_X3_findWays ((am_u2 y3.2 p0 1 0), S.2) q8).bind (fun σ9 => (if p1 = (-1) then ((am_rd S.2 p0 15 103).bind (fun q13 => some (.inl (some (.int (σ9 q13 8))), (σ9, S.2)))) else ((am_rd S.2 p0 15 103).bind (fun q11 => ((f_X3_firstWordOf (σ9, S.2) q11 p1).bind (fun v12 => some (.inl (some (.int v12)), (σ9, S.2))))))))))) else some (.inr 1, ((am_u2 y3.2 p0 1 0), S.2)))))))))))))
set_option maxRecDepth 20000 in
theorem t_X11_learn {E : am_E} {l : Launch} (hl : l.stackTraces = false) {S : am_S} {p0 : Nat} {p1 : Int32} (kp0 : am_kd p0 = 111) : am_M E l yX11_learn (.code yX11_learn cX11_learn 3 (some .int)) 63 1 6 [.ref p0, .int p1] S (f_X11_learn S p0 p1) := by
  refine am_M_id (am_M_of (w := fun x => x) hl (by decide) (am_fc rfl (am_fc rfl am_fn)) (Nat.le_of_ble_eq_true rfl) ?_)
  show am_Ev E l (RX11, cX11_learn, 3, (some .int), [], am_rm 63 1 6) (am_Z E 1 6) 0 0 0 [some (.ref p0), some (.int p1), none] [] S (f_X11_learn S p0 p1)
  unfold f_X11_learn
  refine ev_aload_n dX11_learn_0 rfl ?_
  refine ev_getR fk_X11_86 (by decide) dX11_learn_1 kp0 (fun q1 k1 r1 => ?_)
  refine ev_aload_n dX11_learn_4 rfl ?_
  refine ev_getR fk_X11_9 (by decide) dX11_learn_5 kp0 (fun q2 k2 r2 => ?_)
  refine ev_aload_n dX11_learn_8 rfl ?_
  refine ev_get fk_X11_90 dX11_learn_9 kp0 (am_fvI (by decide)) ?_
  refine ev_callWI (am_callVN (as := [.ref q2, .int (S.1 p0 1)]) (o := q1) (st := []) cv_X11_300 dX11_learn_12 k1 rfl (am_le rfl) (am_fit (by omega) (by decide) (by decide) (by decide)) (am_no1 (fun _ => ⟨_, rfl⟩)) (t_X3_readRows hl k1 k2)) (fun y3 h3 => ?_)
  refine ev_istore_n dX11_learn_15 (am_lt rfl) ?_
  refine ev_aload_n dX11_learn_16 rfl ?_
  refine ev_iconst (v := 0) dX11_learn_17 (by decide) ?_
  refine ev_putI fk_X11_90 tyX11 tyX11_ok nmX11 rfl (by decide +kernel) (by decide) dX11_learn_18 kp0 ?_
  refine ev_iload_n dX11_learn_21 rfl ?_
  refine ev_if_ne (tgt := 36) dX11_learn_22 (by decide) (fun c4 => ?_) (fun c4 => ?_)
  · refine ev_iload_n dX11_learn_36 rfl ?_
    refine ev_iconst (v := (-1)) dX11_learn_37 (by decide) ?_
    refine ev_icmp_lt (tgt := 52) dX11_learn_38 (by decide) (fun c5 => ?_) (fun c5 => ?_)
    · exact ev_throwW (k := 1) tk_105_109 (tx := "no such kind came") (t := 39) (by decide +kernel) dX11_learn_52 dX11_learn_55 dX11_learn_56 dX11_learn_59 dX11_learn_62 rfl (by decide) ⟨by decide, by decide, by decide, by decide⟩ (by decide) (by decide)
    · refine ev_iload_n dX11_learn_41 rfl ?_
      refine ev_aload_n dX11_learn_42 rfl ?_
      refine ev_getR fk_X11_86 (by decide) dX11_learn_43 kp0 (fun q6 k6 r6 => ?_)
      refine ev_getN fk_X11_306 dX11_learn_46 k6 (am_fvI (by decide)) ?_
      refine ev_icmp_lt (tgt := 63) dX11_learn_49 (by decide) (fun c7 => ?_) (fun c7 => ?_)
      · refine ev_aload_n dX11_learn_63 rfl ?_
        refine ev_getR fk_X11_86 (by decide) dX11_learn_64 kp0 (fun q8 k8 r8 => ?_)
        refine ev_callWV (am_callVN (as := []) (o := q8) (st := []) cv_X11_311 dX11_learn_67 k8 rfl (am_le rfl) (am_fit (by omega) (by decide) (by decide) (by decide)) (am_no1 (fun _ => ⟨_, rfl⟩)) (t_X3_findWays hl k8)) (fun σ9 h9 => ?_)
        refine ev_iload_n dX11_learn_70 rfl ?_
        refine ev_iconst (v := (-1)) dX11_learn_71 (by decide) ?_
        refine ev_icmp_ne (tgt := 85) dX11_learn_72 (by decide) (fun c10 => ?_) (fun c10 => ?_)
        · refine ev_aload_n dX11_learn_85 rfl ?_
          refine ev_getR fk_X11_86 (by decide) dX11_learn_86 kp0 (fun q11 k11 r11 => ?_)
          refine ev_iload_n dX11_learn_89 rfl ?_
          refine ev_callP (am_callVN (as := [.int p1]) (o := q11) (st := []) cv_X11_317 dX11_learn_90 k11 rfl (am_le rfl) (am_fit (by omega) (by decide) (by decide) (by decide)) (am_no1 (fun _ => ⟨_, rfl⟩)) (t_X3_firstWordOf hl k11)) (fun v12 h12 => ?_)
          exact ev_iret dX11_learn_93 rfl rfl (by decide) (by decide) rfl
        · refine ev_aload_n dX11_learn_75 rfl ?_
          refine ev_getR fk_X11_86 (by decide) dX11_learn_76 kp0 (fun q13 k13 r13 => ?_)
          refine ev_getN fk_X11_314 dX11_learn_79 k13 (am_fvI (by decide)) ?_
          refine ev_goto (tgt := 93) dX11_learn_82 (by decide) ?_
          exact ev_iret dX11_learn_93 rfl rfl (by decide) (by decide) rfl
      · exact ev_throwW (k := 1) tk_105_109 (tx := "no such kind came") (t := 39) (by decide +kernel) dX11_learn_52 dX11_learn_55 dX11_learn_56 dX11_learn_59 dX11_learn_62 rfl (by decide) ⟨by decide, by decide, by decide, by decide⟩ (by decide) (by decide)
  · exact ev_throwW (k := 1) tk_105_109 (tx := "the tape is not strokes, a blank and wants") (t := 38) (by decide +kernel) dX11_learn_25 dX11_learn_28 dX11_learn_29 dX11_learn_32 dX11_learn_35 rfl (by decide) ⟨by decide, by decide, by decide, by decide⟩ (by decide) (by decide)
def f_X9_wordsOfLength_b5 (S : am_S) (a0 : Nat) (a1 : Int32) (a2 : Int32) (x1 : Int32 × Int32) : Option ((Int32 × Int32) ⊕ (Int32)) :=
  (if x1.2 < (S.1 a0 1) then ((f_X9_wordFor S a0 a1 x1.2).bind (fun v3 => ((f_X11_strokesOf v3).bind (fun v4 => ((if v4 = a2 then ((f_X9_takenFor S a0 a1 v3).bind (fun v6 => (if v6 = x1.2 then some (x1.1 + 1) else some x1.1))) else some x1.1).bind (fun t5 => some (.inl (t5, (x1.2 + 1))))))))) else some (.inr x1.1))
def f_X9_wordsOfLength (S : am_S) (p0 : Nat) (p1 : Int32) (p2 : Int32) : Option (Int32) :=
  ((am_loop (f_X9_wordsOfLength_b5 S p0 p1 p2) am_fuel (0, 0)).bind (fun t1 => some t1))
set_option maxRecDepth 20000 in
theorem t_X9_wordsOfLength {E : am_E} {l : Launch} (hl : l.stackTraces = false) {S : am_S} {p0 : Nat} {p1 : Int32} {p2 : Int32} (kp0 : am_kd p0 = 109) : am_M E l yX9_wordsOfLength (.code yX9_wordsOfLength cX9_wordsOfLength 6 (some .int)) 3 0 0 [.ref p0, .int p1, .int p2] S ((f_X9_wordsOfLength S p0 p1 p2).map (fun (v : Int32) => ((.inl (some (.int v)), S) : am_R))) := by
  refine am_M_of (w := fun (v : Int32) => ((.inl (some (.int v)), S) : am_R)) hl (by decide) (am_fc rfl (am_fc rfl (am_fc rfl am_fn))) (Nat.le_of_ble_eq_true rfl) ?_
  show am_Ev E l (RX9, cX9_wordsOfLength, 6, (some .int), [], am_rm 3 0 0) (fun b a s x => am_Z E 0 0 b a s ((fun (v : Int32) => ((.inl (some (.int v)), S) : am_R)) x)) 0 0 0 [some (.ref p0), some (.int p1), some (.int p2), none, none, none] [] S (f_X9_wordsOfLength S p0 p1 p2)
  unfold f_X9_wordsOfLength
  refine ev_iconst (v := 0) dX9_wordsOfLength_0 (by decide) ?_
  refine ev_istore_n dX9_wordsOfLength_1 (am_lt rfl) ?_
  refine ev_iconst (v := 0) dX9_wordsOfLength_2 (by decide) ?_
  refine ev_istore dX9_wordsOfLength_3 (am_lt rfl) ?_
  refine ev_weak (am_wk (am_wk (am_wk (am_wk (am_wk (am_wf am_wn)))))) (ev_loop 5 53 (fun x1 : Int32 × Int32 => [some (.ref p0), some (.int p1), some (.int p2), some (.int x1.1), some (.int x1.2), none]) (fun t1 : Int32 => [none, none, none, some (.int t1), none, none]) (fun x1 => S) (fun t1 => S) (fun x1 G1 hB1 hE1 => ?_) (fun t1 => ?_) am_fuel (0, 0))
  · unfold f_X9_wordsOfLength_b5
    refine ev_iload dX9_wordsOfLength_5 rfl ?_
    refine ev_aload_n dX9_wordsOfLength_7 rfl ?_
    refine ev_get fk_X9_54 dX9_wordsOfLength_8 kp0 (am_fvI (by decide)) ?_
    refine ev_eq am_ib ?_
    refine ev_icmp_ge (tgt := 53) dX9_wordsOfLength_11 (by decide) (fun c8 => ?_) (fun c8 => ?_)
    · exact ev_leaf (am_wf (am_wf (am_wf (am_wk (am_wf (am_wf am_wn)))))) (hE1 x1.1)
    · refine ev_aload_n dX9_wordsOfLength_14 rfl ?_
      refine ev_iload_n dX9_wordsOfLength_15 rfl ?_
      refine ev_iload dX9_wordsOfLength_16 rfl ?_
      refine ev_eq (Option.bind_assoc _ _ _) ?_
      refine ev_callP (am_callV (as := [.int p1, .int x1.2]) (o := p0) (st := []) cv_X9_89 dX9_wordsOfLength_18 kp0 rfl (am_le rfl) (am_fit (by omega) (by decide) (by decide) (by decide)) (t_X9_wordFor hl kp0)) (fun v9 h9 => ?_)
      refine ev_istore dX9_wordsOfLength_21 (am_lt rfl) ?_
      refine ev_iload dX9_wordsOfLength_23 rfl ?_
      refine ev_eq (Option.bind_assoc _ _ _) ?_
      refine ev_callP (am_callSN (as := [.int v9]) (st := []) ct_X9_121 dX9_wordsOfLength_25 rfl (am_le rfl) (am_fit (by omega) (by decide) (by decide) (by decide)) (am_no1 (fun _ => ⟨_, rfl⟩)) (t_X11_strokesOf hl )) (fun v10 h10 => ?_)
      refine ev_iload_n dX9_wordsOfLength_28 rfl ?_
      refine ev_eq (Option.bind_assoc _ _ _) ?_
      refine ev_reg (cs' := 0) (sl' := 0) 47 (fun t11 : Int32 => [some (.ref p0), some (.int p1), some (.int p2), some (.int t11), some (.int x1.2), none]) (fun t11 => []) (fun t11 => S) (fun hJ11 => ?_) (fun t11 => ?_)
      · refine ev_eq am_ib ?_
        refine ev_icmp_ne (tgt := 47) dX9_wordsOfLength_29 (by decide) (fun c11 => ?_) (fun c11 => ?_)
        · exact ev_leaf (am_wk (am_wk (am_wk (am_wk (am_wk (am_wf am_wn)))))) (hJ11 x1.1)
        · refine ev_aload_n dX9_wordsOfLength_32 rfl ?_
          refine ev_iload_n dX9_wordsOfLength_33 rfl ?_
          refine ev_iload dX9_wordsOfLength_34 rfl ?_
          refine ev_eq (Option.bind_assoc _ _ _) ?_
          refine ev_callP (am_callV (as := [.int p1, .int v9]) (o := p0) (st := []) cv_X9_118 dX9_wordsOfLength_36 kp0 rfl (am_le rfl) (am_fit (by omega) (by decide) (by decide) (by decide)) (t_X9_takenFor hl kp0)) (fun v12 h12 => ?_)
          refine ev_iload dX9_wordsOfLength_39 rfl ?_
          refine ev_eq am_ib ?_
          refine ev_icmp_ne (tgt := 47) dX9_wordsOfLength_41 (by decide) (fun c13 => ?_) (fun c13 => ?_)
          · exact ev_leaf (am_wk (am_wk (am_wk (am_wk (am_wk (am_wf am_wn)))))) (hJ11 x1.1)
          · refine ev_iinc (v := (x1.1 + 1)) dX9_wordsOfLength_44 (am_lt rfl) rfl rfl ?_
            exact ev_leaf (am_wk (am_wk (am_wk (am_wk (am_wk (am_wf am_wn)))))) (hJ11 (x1.1 + 1))
      · refine ev_iinc (v := (x1.2 + 1)) dX9_wordsOfLength_47 (am_lt rfl) rfl rfl ?_
        refine ev_goto (tgt := 5) dX9_wordsOfLength_50 (by decide) ?_
        exact ev_leaf (am_wk (am_wk (am_wk (am_wk (am_wk (am_wf am_wn)))))) (hB1 (t11, (x1.2 + 1)))
  · refine ev_iload_n dX9_wordsOfLength_53 rfl ?_
    exact ev_iret dX9_wordsOfLength_54 rfl rfl (by decide) (by decide) rfl
def f_X11_fooled (S : am_S) (p0 : Nat) (p1 : Int32) (p2 : Int32) (p3 : Int32) : Option (am_R) :=
  (am_thV (f_X11_needHouse S p0 p1) (fun S1 => (am_thV (f_X11_needHouse S1 p0 p2) (fun S2 => (if p3 < 1 then some (.inr 1, S2) else (if 8 < p3 then some (.inr 1, S2) else ((am_rd S2.2 p0 3 109).bind (fun q5 => ((f_X9_clearOf S2 q5 p2 p1).bind (fun v6 => ((f_J9_min_7cf53 p3 v6).bind (fun v7 => (if v7 = 0 then some (.inl (some (.int 0)), S2) else ((am_rd S2.2 p0 3 109).bind (fun q9 => ((f_X9_wordsOfLength S2 q9 p1 v7).bind (fun v10 => some (.inl (some (.int (v10 <<< ((p3 - v7) &&& 31)))), S2))))))))))))))))))
set_option maxRecDepth 20000 in
theorem t_X11_fooled {E : am_E} {l : Launch} (hl : l.stackTraces = false) {S : am_S} {p0 : Nat} {p1 : Int32} {p2 : Int32} {p3 : Int32} (kp0 : am_kd p0 = 111) : am_M E l yX11_fooled (.code yX11_fooled cX11_fooled 5 (some .int)) 4 3 18 [.ref p0, .int p1, .int p2, .int p3] S (f_X11_fooled S p0 p1 p2 p3) := by
  refine am_M_id (am_M_of (w := fun x => x) hl (by decide) (am_fc rfl (am_fc rfl (am_fc rfl (am_fc rfl am_fn)))) (Nat.le_of_ble_eq_true rfl) ?_)
  show am_Ev E l (RX11, cX11_fooled, 5, (some .int), [], am_rm 4 3 18) (am_Z E 3 18) 0 0 0 [some (.ref p0), some (.int p1), some (.int p2), some (.int p3), none] [] S (f_X11_fooled S p0 p1 p2 p3)
  unfold f_X11_fooled
  refine ev_aload_n dX11_fooled_0 rfl ?_
  refine ev_iload_n dX11_fooled_1 rfl ?_
  refine ev_callGV (am_callV (as := [.int p1]) (o := p0) (st := []) cv_X11_138 dX11_fooled_2 kp0 rfl (am_le rfl) (am_fit (by omega) (by decide) (by decide) (by decide)) (t_X11_needHouse hl kp0)) rfl (by decide) (by decide) (fun S1 h1 => ?_)
  refine ev_aload_n dX11_fooled_5 rfl ?_
  refine ev_iload_n dX11_fooled_6 rfl ?_
  refine ev_callGV (am_callV (as := [.int p2]) (o := p0) (st := []) cv_X11_138 dX11_fooled_7 kp0 rfl (am_le rfl) (am_fit (by omega) (by decide) (by decide) (by decide)) (t_X11_needHouse hl kp0)) rfl (by decide) (by decide) (fun S2 h2 => ?_)
  refine ev_iload_n dX11_fooled_10 rfl ?_
  refine ev_iconst (v := 1) dX11_fooled_11 (by decide) ?_
  refine ev_icmp_lt (tgt := 21) dX11_fooled_12 (by decide) (fun c3 => ?_) (fun c3 => ?_)
  · exact ev_throwW (k := 1) tk_105_109 (tx := "a word has 1 to 8 strokes") (t := 40) (by decide +kernel) dX11_fooled_21 dX11_fooled_24 dX11_fooled_25 dX11_fooled_28 dX11_fooled_31 rfl (by decide) ⟨by decide, by decide, by decide, by decide⟩ (by decide) (by decide)
  · refine ev_iload_n dX11_fooled_15 rfl ?_
    refine ev_bipush (v := 8) dX11_fooled_16 (by decide) ?_
    refine ev_icmp_le (tgt := 32) dX11_fooled_18 (by decide) (fun c4 => ?_) (fun c4 => ?_)
    · refine ev_iload_n dX11_fooled_32 rfl ?_
      refine ev_aload_n dX11_fooled_33 rfl ?_
      refine ev_getR fk_X11_20 (by decide) dX11_fooled_34 kp0 (fun q5 k5 r5 => ?_)
      refine ev_iload_n dX11_fooled_37 rfl ?_
      refine ev_iload_n dX11_fooled_38 rfl ?_
      refine ev_callP (am_callVN (as := [.int p2, .int p1]) (o := q5) (st := [.int p3]) cv_X11_184 dX11_fooled_39 k5 rfl (am_le rfl) (am_fit (by omega) (by decide) (by decide) (by decide)) (am_no1 (fun _ => ⟨_, rfl⟩)) (t_X9_clearOf hl k5)) (fun v6 h6 => ?_)
      refine ev_callP (am_callS (as := [.int p3, .int v6]) (st := []) ct_X11_322 dX11_fooled_42 rfl (am_le rfl) (am_fit (by omega) (by decide) (by decide) (by decide)) (t_J9_min_7cf53 hl )) (fun v7 h7 => ?_)
      refine ev_istore dX11_fooled_45 (am_lt rfl) ?_
      refine ev_iload dX11_fooled_47 rfl ?_
      refine ev_if_ne (tgt := 56) dX11_fooled_49 (by decide) (fun c8 => ?_) (fun c8 => ?_)
      · refine ev_aload_n dX11_fooled_56 rfl ?_
        refine ev_getR fk_X11_20 (by decide) dX11_fooled_57 kp0 (fun q9 k9 r9 => ?_)
        refine ev_iload_n dX11_fooled_60 rfl ?_
        refine ev_iload dX11_fooled_61 rfl ?_
        refine ev_callP (am_callVN (as := [.int p1, .int v7]) (o := q9) (st := []) cv_X11_327 dX11_fooled_63 k9 rfl (am_le rfl) (am_fit (by omega) (by decide) (by decide) (by decide)) (am_no1 (fun _ => ⟨_, rfl⟩)) (t_X9_wordsOfLength hl k9)) (fun v10 h10 => ?_)
        refine ev_iload_n dX11_fooled_66 rfl ?_
        refine ev_iload dX11_fooled_67 rfl ?_
        refine ev_isub dX11_fooled_69 ?_
        refine ev_ishl dX11_fooled_70 ?_
        exact ev_iret dX11_fooled_71 rfl rfl (by decide) (by decide) rfl
      · refine ev_iconst (v := 0) dX11_fooled_52 (by decide) ?_
        refine ev_goto (tgt := 71) dX11_fooled_53 (by decide) ?_
        exact ev_iret dX11_fooled_71 rfl rfl (by decide) (by decide) rfl
    · exact ev_throwW (k := 1) tk_105_109 (tx := "a word has 1 to 8 strokes") (t := 40) (by decide +kernel) dX11_fooled_21 dX11_fooled_24 dX11_fooled_25 dX11_fooled_28 dX11_fooled_31 rfl (by decide) ⟨by decide, by decide, by decide, by decide⟩ (by decide) (by decide)
def f_X6_possibleAt_b38 (S : am_S) (a0 : Nat) (a1 : Nat) (a2 : Int32) (a4 : Int32) (a6 : Int32) (x6 : Int32 × Int32) : Option ((Int32 × Int32) ⊕ (Int32)) :=
  (if x6.2 < (S.1 a1 1) then ((am_rd S.2 a0 2 1).bind (fun q8 => ((am_ld S.1 q8 a2).bind (fun v9 => ((f_X9_wordFor S a1 v9 x6.2).bind (fun v10 => ((if v10 = (-1) then some x6.1 else ((f_X11_strokesOf v10).bind (fun v12 => (if v12 < a6 then some x6.1 else ((f_X11_cutTo v10 a6).bind (fun v14 => (if v14 = a4 then some (x6.1 ||| ((1 : Int32) <<< (x6.2 &&& 31))) else some x6.1))))))).bind (fun t11 => some (.inl (t11, (x6.2 + 1))))))))))) else some (.inr x6.1))
def f_X6_possibleAt (S : am_S) (p0 : Nat) (p1 : Nat) (p2 : Int32) (p3 : Int32) : Option (Int32 × (Nat → Nat → Int32)) :=
  ((f_X6_cameTo S p0 p1 p2 p3).bind (fun y1 => (if y1.1 = 0 then some (0, y1.2) else ((f_X6_hasRinging (y1.2, S.2) p0 p2).bind (fun v3 => (if v3 = 0 then some (0, y1.2) else ((f_X11_strokesOf y1.1).bind (fun v5 => ((am_loop (f_X6_possibleAt_b38 (y1.2, S.2) p0 p1 p2 y1.1 v5) am_fuel (0, 0)).bind (fun t6 => some (t6, y1.2)))))))))))
set_option maxRecDepth 20000 in
theorem t_X6_possibleAt {E : am_E} {l : Launch} (hl : l.stackTraces = false) {S : am_S} {p0 : Nat} {p1 : Nat} {p2 : Int32} {p3 : Int32} (kp0 : am_kd p0 = 106) (kp1 : am_kd p1 = 109) : am_M E l yX6_possibleAt (.code yX6_possibleAt cX6_possibleAt 9 (some .int)) 4 0 0 [.ref p0, .ref p1, .int p2, .int p3] S ((f_X6_possibleAt S p0 p1 p2 p3).map (fun (x : Int32 × (Nat → Nat → Int32)) => ((.inl (some (.int x.1)), (x.2, S.2)) : am_R))) := by
  refine am_M_of (w := fun (x : Int32 × (Nat → Nat → Int32)) => ((.inl (some (.int x.1)), (x.2, S.2)) : am_R)) hl (by decide) (am_fc rfl (am_fc rfl (am_fc rfl (am_fc rfl am_fn)))) (Nat.le_of_ble_eq_true rfl) ?_
  show am_Ev E l (RX6, cX6_possibleAt, 9, (some .int), [], am_rm 4 0 0) (fun b a s x => am_Z E 0 0 b a s ((fun (x : Int32 × (Nat → Nat → Int32)) => ((.inl (some (.int x.1)), (x.2, S.2)) : am_R)) x)) 0 0 0 [some (.ref p0), some (.ref p1), some (.int p2), some (.int p3), none, none, none, none, none] [] S (f_X6_possibleAt S p0 p1 p2 p3)
  unfold f_X6_possibleAt
  refine ev_aload_n dX6_possibleAt_0 rfl ?_
  refine ev_aload_n dX6_possibleAt_1 rfl ?_
  refine ev_iload_n dX6_possibleAt_2 rfl ?_
  refine ev_iload_n dX6_possibleAt_3 rfl ?_
  refine ev_callWI (am_callV (as := [.ref p1, .int p2, .int p3]) (o := p0) (st := []) cv_X6_71 dX6_possibleAt_4 kp0 rfl (am_le rfl) (am_fit (by omega) (by decide) (by decide) (by decide)) (t_X6_cameTo hl kp0 kp1)) (fun y1 h1 => ?_)
  refine ev_istore dX6_possibleAt_7 (am_lt rfl) ?_
  refine ev_iconst (v := 0) dX6_possibleAt_9 (by decide) ?_
  refine ev_istore dX6_possibleAt_10 (am_lt rfl) ?_
  refine ev_iload dX6_possibleAt_12 rfl ?_
  refine ev_if_eq (tgt := 25) dX6_possibleAt_14 (by decide) (fun c2 => ?_) (fun c2 => ?_)
  · refine ev_iload dX6_possibleAt_25 rfl ?_
    exact ev_iret dX6_possibleAt_27 rfl rfl (by decide) (by decide) rfl
  · refine ev_aload_n dX6_possibleAt_17 rfl ?_
    refine ev_iload_n dX6_possibleAt_18 rfl ?_
    refine ev_callP (am_callV (as := [.int p2]) (o := p0) (st := []) cv_X6_57 dX6_possibleAt_19 kp0 rfl (am_le rfl) (am_fit (by omega) (by decide) (by decide) (by decide)) (t_X6_hasRinging hl kp0)) (fun v3 h3 => ?_)
    refine ev_if_ne (tgt := 28) dX6_possibleAt_22 (by decide) (fun c4 => ?_) (fun c4 => ?_)
    · refine ev_iload dX6_possibleAt_28 rfl ?_
      refine ev_callP (am_callSN (as := [.int y1.1]) (st := []) ct_X6_64 dX6_possibleAt_30 rfl (am_le rfl) (am_fit (by omega) (by decide) (by decide) (by decide)) (am_no1 (fun _ => ⟨_, rfl⟩)) (t_X11_strokesOf hl )) (fun v5 h5 => ?_)
      refine ev_istore dX6_possibleAt_33 (am_lt rfl) ?_
      refine ev_iconst (v := 0) dX6_possibleAt_35 (by decide) ?_
      refine ev_istore dX6_possibleAt_36 (am_lt rfl) ?_
      refine ev_weak (am_wk (am_wk (am_wk (am_wf (am_wk (am_wk (am_wk (am_wk (am_wf am_wn))))))))) (ev_loop 38 104 (fun x6 : Int32 × Int32 => [some (.ref p0), some (.ref p1), some (.int p2), none, some (.int y1.1), some (.int x6.1), some (.int v5), some (.int x6.2), none]) (fun t6 : Int32 => [none, none, none, none, none, some (.int t6), none, none, none]) (fun x6 => (y1.2, S.2)) (fun t6 => (y1.2, S.2)) (fun x6 G6 hB6 hE6 => ?_) (fun t6 => ?_) am_fuel (0, 0))
      · unfold f_X6_possibleAt_b38
        refine ev_iload dX6_possibleAt_38 rfl ?_
        refine ev_aload_n dX6_possibleAt_40 rfl ?_
        refine ev_getN fk_X6_78 dX6_possibleAt_41 kp1 (am_fvI (by decide)) ?_
        refine ev_eq am_ib ?_
        refine ev_icmp_ge (tgt := 104) dX6_possibleAt_44 (by decide) (fun c16 => ?_) (fun c16 => ?_)
        · exact ev_leaf (am_wf (am_wf (am_wf (am_wf (am_wf (am_wk (am_wf (am_wf (am_wf am_wn))))))))) (hE6 x6.1)
        · refine ev_aload_n dX6_possibleAt_47 rfl ?_
          refine ev_aload_n dX6_possibleAt_48 rfl ?_
          refine ev_eq (Option.bind_assoc _ _ _) ?_
          refine ev_getR fk_X6_15 (by decide) dX6_possibleAt_49 kp0 (fun q17 k17 r17 => ?_)
          refine ev_iload_n dX6_possibleAt_52 rfl ?_
          refine ev_eq (Option.bind_assoc _ _ _) ?_
          refine ev_iald dX6_possibleAt_53 k17 (fun v18 h18 => ?_)
          refine ev_iload dX6_possibleAt_54 rfl ?_
          refine ev_eq (Option.bind_assoc _ _ _) ?_
          refine ev_callP (am_callVN (as := [.int v18, .int x6.2]) (o := p1) (st := []) cv_X6_81 dX6_possibleAt_56 kp1 rfl (am_le rfl) (am_fit (by omega) (by decide) (by decide) (by decide)) (am_no1 (fun _ => ⟨_, rfl⟩)) (t_X9_wordFor hl kp1)) (fun v19 h19 => ?_)
          refine ev_istore dX6_possibleAt_59 (am_lt rfl) ?_
          refine ev_iload dX6_possibleAt_61 rfl ?_
          refine ev_iconst (v := (-1)) dX6_possibleAt_63 (by decide) ?_
          refine ev_eq (Option.bind_assoc _ _ _) ?_
          refine ev_reg (cs' := 0) (sl' := 0) 98 (fun t20 : Int32 => [some (.ref p0), some (.ref p1), some (.int p2), none, some (.int y1.1), some (.int t20), some (.int v5), some (.int x6.2), none]) (fun t20 => []) (fun t20 => (y1.2, S.2)) (fun hJ20 => ?_) (fun t20 => ?_)
          · refine ev_eq am_ib ?_
            refine ev_icmp_eq (tgt := 98) dX6_possibleAt_64 (by decide) (fun c20 => ?_) (fun c20 => ?_)
            · exact ev_leaf (am_wk (am_wk (am_wk (am_wf (am_wk (am_wk (am_wk (am_wk (am_wf am_wn))))))))) (hJ20 x6.1)
            · refine ev_iload dX6_possibleAt_67 rfl ?_
              refine ev_eq (Option.bind_assoc _ _ _) ?_
              refine ev_callP (am_callSN (as := [.int v19]) (st := []) ct_X6_64 dX6_possibleAt_69 rfl (am_le rfl) (am_fit (by omega) (by decide) (by decide) (by decide)) (am_no1 (fun _ => ⟨_, rfl⟩)) (t_X11_strokesOf hl )) (fun v21 h21 => ?_)
              refine ev_iload dX6_possibleAt_72 rfl ?_
              refine ev_eq am_ib ?_
              refine ev_icmp_lt (tgt := 98) dX6_possibleAt_74 (by decide) (fun c22 => ?_) (fun c22 => ?_)
              · exact ev_leaf (am_wk (am_wk (am_wk (am_wf (am_wk (am_wk (am_wk (am_wk (am_wf am_wn))))))))) (hJ20 x6.1)
              · refine ev_iload dX6_possibleAt_77 rfl ?_
                refine ev_iload dX6_possibleAt_79 rfl ?_
                refine ev_eq (Option.bind_assoc _ _ _) ?_
                refine ev_callP (am_callSN (as := [.int v19, .int v5]) (st := []) ct_X6_46 dX6_possibleAt_81 rfl (am_le rfl) (am_fit (by omega) (by decide) (by decide) (by decide)) (am_no1 (fun _ => ⟨_, rfl⟩)) (t_X11_cutTo hl )) (fun v23 h23 => ?_)
                refine ev_iload dX6_possibleAt_84 rfl ?_
                refine ev_eq am_ib ?_
                refine ev_icmp_ne (tgt := 98) dX6_possibleAt_86 (by decide) (fun c24 => ?_) (fun c24 => ?_)
                · exact ev_leaf (am_wk (am_wk (am_wk (am_wf (am_wk (am_wk (am_wk (am_wk (am_wf am_wn))))))))) (hJ20 x6.1)
                · refine ev_iload dX6_possibleAt_89 rfl ?_
                  refine ev_iconst (v := 1) dX6_possibleAt_91 (by decide) ?_
                  refine ev_iload dX6_possibleAt_92 rfl ?_
                  refine ev_ishl dX6_possibleAt_94 ?_
                  refine ev_ior dX6_possibleAt_95 ?_
                  refine ev_istore dX6_possibleAt_96 (am_lt rfl) ?_
                  exact ev_leaf (am_wk (am_wk (am_wk (am_wf (am_wk (am_wk (am_wk (am_wk (am_wf am_wn))))))))) (hJ20 (x6.1 ||| ((1 : Int32) <<< (x6.2 &&& 31))))
          · refine ev_iinc (v := (x6.2 + 1)) dX6_possibleAt_98 (am_lt rfl) rfl rfl ?_
            refine ev_goto (tgt := 38) dX6_possibleAt_101 (by decide) ?_
            exact ev_leaf (am_wk (am_wk (am_wk (am_wf (am_wk (am_wk (am_wk (am_wk (am_wf am_wn))))))))) (hB6 (t20, (x6.2 + 1)))
      · refine ev_iload dX6_possibleAt_104 rfl ?_
        exact ev_iret dX6_possibleAt_106 rfl rfl (by decide) (by decide) rfl
    · refine ev_iload dX6_possibleAt_25 rfl ?_
      exact ev_iret dX6_possibleAt_27 rfl rfl (by decide) (by decide) rfl
def f_X11_could (S : am_S) (p0 : Nat) (p1 : Int32) (p2 : Int32) : Option (am_R) :=
  (am_thV (f_X11_needRinging S p0 p1) (fun S1 => (am_thV (f_X11_needHouse S1 p0 p2) (fun S2 => ((am_rd S2.2 p0 3 109).bind (fun q3 => ((am_rd S2.2 q3 15 106).bind (fun q4 => ((am_rd S2.2 p0 3 109).bind (fun q5 => ((f_X6_possibleAt S2 q4 q5 p1 p2).bind (fun y6 => some (.inl (some (.int y6.1)), (y6.2, S2.2))))))))))))))
set_option maxRecDepth 20000 in
theorem t_X11_could {E : am_E} {l : Launch} (hl : l.stackTraces = false) {S : am_S} {p0 : Nat} {p1 : Int32} {p2 : Int32} (kp0 : am_kd p0 = 111) : am_M E l yX11_could (.code yX11_could cX11_could 3 (some .int)) 5 2 12 [.ref p0, .int p1, .int p2] S (f_X11_could S p0 p1 p2) := by
  refine am_M_id (am_M_of (w := fun x => x) hl (by decide) (am_fc rfl (am_fc rfl (am_fc rfl am_fn))) (Nat.le_of_ble_eq_true rfl) ?_)
  show am_Ev E l (RX11, cX11_could, 3, (some .int), [], am_rm 5 2 12) (am_Z E 2 12) 0 0 0 [some (.ref p0), some (.int p1), some (.int p2)] [] S (f_X11_could S p0 p1 p2)
  unfold f_X11_could
  refine ev_aload_n dX11_could_0 rfl ?_
  refine ev_iload_n dX11_could_1 rfl ?_
  refine ev_callGV (am_callV (as := [.int p1]) (o := p0) (st := []) cv_X11_211 dX11_could_2 kp0 rfl (am_le rfl) (am_fit (by omega) (by decide) (by decide) (by decide)) (t_X11_needRinging hl kp0)) rfl (by decide) (by decide) (fun S1 h1 => ?_)
  refine ev_aload_n dX11_could_5 rfl ?_
  refine ev_iload_n dX11_could_6 rfl ?_
  refine ev_callGV (am_callV (as := [.int p2]) (o := p0) (st := []) cv_X11_138 dX11_could_7 kp0 rfl (am_le rfl) (am_fit (by omega) (by decide) (by decide) (by decide)) (t_X11_needHouse hl kp0)) rfl (by decide) (by decide) (fun S2 h2 => ?_)
  refine ev_aload_n dX11_could_10 rfl ?_
  refine ev_getR fk_X11_20 (by decide) dX11_could_11 kp0 (fun q3 k3 r3 => ?_)
  refine ev_getRN fk_X11_201 (by decide) dX11_could_14 k3 (fun q4 k4 r4 => ?_)
  refine ev_aload_n dX11_could_17 rfl ?_
  refine ev_getR fk_X11_20 (by decide) dX11_could_18 kp0 (fun q5 k5 r5 => ?_)
  refine ev_iload_n dX11_could_21 rfl ?_
  refine ev_iload_n dX11_could_22 rfl ?_
  refine ev_callWI (am_callVN (as := [.ref q5, .int p1, .int p2]) (o := q4) (st := []) cv_X11_330 dX11_could_23 k4 rfl (am_le rfl) (am_fit (by omega) (by decide) (by decide) (by decide)) (am_no1 (fun _ => ⟨_, rfl⟩)) (t_X6_possibleAt hl k4 k5)) (fun y6 h6 => ?_)
  exact ev_iret dX11_could_26 rfl rfl (by decide) (by decide) rfl
def f_X9_understoodAt_b13 (S : am_S) (a0 : Nat) (a2 : Int32) (a3 : Int32) (x2 : Int32 × Int32) : Option ((Int32 × Int32) ⊕ (Int32)) :=
  (if x2.2 < (S.1 a0 1) then (if 0 < a3 then ((f_X9_wordFor S a0 a2 x2.2).bind (fun v5 => ((if v5 = (-1) then some x2.1 else ((f_X11_cutTo v5 a3).bind (fun v7 => ((f_X9_takenFor S a0 a2 v7).bind (fun v8 => (if v8 = x2.2 then some (x2.1 + 1) else some x2.1)))))).bind (fun t6 => some (.inl (t6, (x2.2 + 1))))))) else some (.inr x2.1)) else some (.inr x2.1))
def f_X9_understoodAt (S : am_S) (p0 : Nat) (p1 : Int32) (p2 : Int32) : Option (Int32) :=
  ((f_X9_clearOf S p0 p1 p2).bind (fun v1 => ((am_loop (f_X9_understoodAt_b13 S p0 p2 v1) am_fuel (0, 0)).bind (fun t2 => some t2))))
set_option maxRecDepth 20000 in
theorem t_X9_understoodAt {E : am_E} {l : Launch} (hl : l.stackTraces = false) {S : am_S} {p0 : Nat} {p1 : Int32} {p2 : Int32} (kp0 : am_kd p0 = 109) : am_M E l yX9_understoodAt (.code yX9_understoodAt cX9_understoodAt 7 (some .int)) 3 0 0 [.ref p0, .int p1, .int p2] S ((f_X9_understoodAt S p0 p1 p2).map (fun (v : Int32) => ((.inl (some (.int v)), S) : am_R))) := by
  refine am_M_of (w := fun (v : Int32) => ((.inl (some (.int v)), S) : am_R)) hl (by decide) (am_fc rfl (am_fc rfl (am_fc rfl am_fn))) (Nat.le_of_ble_eq_true rfl) ?_
  show am_Ev E l (RX9, cX9_understoodAt, 7, (some .int), [], am_rm 3 0 0) (fun b a s x => am_Z E 0 0 b a s ((fun (v : Int32) => ((.inl (some (.int v)), S) : am_R)) x)) 0 0 0 [some (.ref p0), some (.int p1), some (.int p2), none, none, none, none] [] S (f_X9_understoodAt S p0 p1 p2)
  unfold f_X9_understoodAt
  refine ev_aload_n dX9_understoodAt_0 rfl ?_
  refine ev_iload_n dX9_understoodAt_1 rfl ?_
  refine ev_iload_n dX9_understoodAt_2 rfl ?_
  refine ev_callP (am_callV (as := [.int p1, .int p2]) (o := p0) (st := []) cv_X9_108 dX9_understoodAt_3 kp0 rfl (am_le rfl) (am_fit (by omega) (by decide) (by decide) (by decide)) (t_X9_clearOf hl kp0)) (fun v1 h1 => ?_)
  refine ev_istore_n dX9_understoodAt_6 (am_lt rfl) ?_
  refine ev_iconst (v := 0) dX9_understoodAt_7 (by decide) ?_
  refine ev_istore dX9_understoodAt_8 (am_lt rfl) ?_
  refine ev_iconst (v := 0) dX9_understoodAt_10 (by decide) ?_
  refine ev_istore dX9_understoodAt_11 (am_lt rfl) ?_
  refine ev_weak (am_wk (am_wf (am_wk (am_wk (am_wk (am_wk (am_wf am_wn))))))) (ev_loop 13 66 (fun x2 : Int32 × Int32 => [some (.ref p0), none, some (.int p2), some (.int v1), some (.int x2.1), some (.int x2.2), none]) (fun t2 : Int32 => [none, none, none, none, some (.int t2), none, none]) (fun x2 => S) (fun t2 => S) (fun x2 G2 hB2 hE2 => ?_) (fun t2 => ?_) am_fuel (0, 0))
  · unfold f_X9_understoodAt_b13
    refine ev_iload dX9_understoodAt_13 rfl ?_
    refine ev_aload_n dX9_understoodAt_15 rfl ?_
    refine ev_get fk_X9_54 dX9_understoodAt_16 kp0 (am_fvI (by decide)) ?_
    refine ev_eq am_ib ?_
    refine ev_icmp_ge (tgt := 66) dX9_understoodAt_19 (by decide) (fun c10 => ?_) (fun c10 => ?_)
    · exact ev_leaf (am_wf (am_wf (am_wf (am_wf (am_wk (am_wf (am_wf am_wn))))))) (hE2 x2.1)
    · refine ev_iload_n dX9_understoodAt_22 rfl ?_
      refine ev_eq am_ib ?_
      refine ev_if_le (tgt := 66) dX9_understoodAt_23 (by decide) (fun c11 => ?_) (fun c11 => ?_)
      · exact ev_leaf (am_wf (am_wf (am_wf (am_wf (am_wk (am_wf (am_wf am_wn))))))) (hE2 x2.1)
      · refine ev_aload_n dX9_understoodAt_26 rfl ?_
        refine ev_iload_n dX9_understoodAt_27 rfl ?_
        refine ev_iload dX9_understoodAt_28 rfl ?_
        refine ev_eq (Option.bind_assoc _ _ _) ?_
        refine ev_callP (am_callV (as := [.int p2, .int x2.2]) (o := p0) (st := []) cv_X9_89 dX9_understoodAt_30 kp0 rfl (am_le rfl) (am_fit (by omega) (by decide) (by decide) (by decide)) (t_X9_wordFor hl kp0)) (fun v12 h12 => ?_)
        refine ev_istore dX9_understoodAt_33 (am_lt rfl) ?_
        refine ev_iload dX9_understoodAt_35 rfl ?_
        refine ev_iconst (v := (-1)) dX9_understoodAt_37 (by decide) ?_
        refine ev_eq (Option.bind_assoc _ _ _) ?_
        refine ev_reg (cs' := 0) (sl' := 0) 60 (fun t13 : Int32 => [some (.ref p0), none, some (.int p2), some (.int v1), some (.int t13), some (.int x2.2), none]) (fun t13 => []) (fun t13 => S) (fun hJ13 => ?_) (fun t13 => ?_)
        · refine ev_eq am_ib ?_
          refine ev_icmp_eq (tgt := 60) dX9_understoodAt_38 (by decide) (fun c13 => ?_) (fun c13 => ?_)
          · exact ev_leaf (am_wk (am_wf (am_wk (am_wk (am_wk (am_wk (am_wf am_wn))))))) (hJ13 x2.1)
          · refine ev_aload_n dX9_understoodAt_41 rfl ?_
            refine ev_iload_n dX9_understoodAt_42 rfl ?_
            refine ev_iload dX9_understoodAt_43 rfl ?_
            refine ev_iload_n dX9_understoodAt_45 rfl ?_
            refine ev_eq (Option.bind_assoc _ _ _) ?_
            refine ev_callP (am_callSN (as := [.int v12, .int v1]) (st := [.int p2, .ref p0]) ct_X9_115 dX9_understoodAt_46 rfl (am_le rfl) (am_fit (by omega) (by decide) (by decide) (by decide)) (am_no1 (fun _ => ⟨_, rfl⟩)) (t_X11_cutTo hl )) (fun v14 h14 => ?_)
            refine ev_eq (Option.bind_assoc _ _ _) ?_
            refine ev_callP (am_callV (as := [.int p2, .int v14]) (o := p0) (st := []) cv_X9_118 dX9_understoodAt_49 kp0 rfl (am_le rfl) (am_fit (by omega) (by decide) (by decide) (by decide)) (t_X9_takenFor hl kp0)) (fun v15 h15 => ?_)
            refine ev_iload dX9_understoodAt_52 rfl ?_
            refine ev_eq am_ib ?_
            refine ev_icmp_ne (tgt := 60) dX9_understoodAt_54 (by decide) (fun c16 => ?_) (fun c16 => ?_)
            · exact ev_leaf (am_wk (am_wf (am_wk (am_wk (am_wk (am_wk (am_wf am_wn))))))) (hJ13 x2.1)
            · refine ev_iinc (v := (x2.1 + 1)) dX9_understoodAt_57 (am_lt rfl) rfl rfl ?_
              exact ev_leaf (am_wk (am_wf (am_wk (am_wk (am_wk (am_wk (am_wf am_wn))))))) (hJ13 (x2.1 + 1))
        · refine ev_iinc (v := (x2.2 + 1)) dX9_understoodAt_60 (am_lt rfl) rfl rfl ?_
          refine ev_goto (tgt := 13) dX9_understoodAt_63 (by decide) ?_
          exact ev_leaf (am_wk (am_wf (am_wk (am_wk (am_wk (am_wk (am_wf am_wn))))))) (hB2 (t13, (x2.2 + 1)))
  · refine ev_iload dX9_understoodAt_66 rfl ?_
    exact ev_iret dX9_understoodAt_68 rfl rfl (by decide) (by decide) rfl
def f_X11_understood_b9 (S : am_S) (a0 : Nat) (a1 : Int32) (x2 : Int32 × Int32) : Option ((Int32 × Int32) ⊕ (Int32)) :=
  ((am_rd S.2 a0 3 109).bind (fun q3 => (if x2.2 < (S.1 q3 0) then ((am_rd S.2 a0 3 109).bind (fun q5 => ((f_X9_understoodAt S q5 x2.2 a1).bind (fun v6 => some (.inl ((x2.1 + v6), (x2.2 + 1))))))) else some (.inr x2.1))))
def f_X11_understood (S : am_S) (p0 : Nat) (p1 : Int32) : Option (am_R) :=
  (am_thV (f_X11_needHouse S p0 p1) (fun S1 => ((am_loop (f_X11_understood_b9 S1 p0 p1) am_fuel (0, 0)).bind (fun t2 => some (.inl (some (.int t2)), S1)))))
set_option maxRecDepth 20000 in
theorem t_X11_understood {E : am_E} {l : Launch} (hl : l.stackTraces = false) {S : am_S} {p0 : Nat} {p1 : Int32} (kp0 : am_kd p0 = 111) : am_M E l yX11_understood (.code yX11_understood cX11_understood 4 (some .int)) 4 1 6 [.ref p0, .int p1] S (f_X11_understood S p0 p1) := by
  refine am_M_id (am_M_of (w := fun x => x) hl (by decide) (am_fc rfl (am_fc rfl am_fn)) (Nat.le_of_ble_eq_true rfl) ?_)
  show am_Ev E l (RX11, cX11_understood, 4, (some .int), [], am_rm 4 1 6) (am_Z E 1 6) 0 0 0 [some (.ref p0), some (.int p1), none, none] [] S (f_X11_understood S p0 p1)
  unfold f_X11_understood
  refine ev_aload_n dX11_understood_0 rfl ?_
  refine ev_iload_n dX11_understood_1 rfl ?_
  refine ev_callGV (am_callV (as := [.int p1]) (o := p0) (st := []) cv_X11_138 dX11_understood_2 kp0 rfl (am_le rfl) (am_fit (by omega) (by decide) (by decide) (by decide)) (t_X11_needHouse hl kp0)) rfl (by decide) (by decide) (fun S1 h1 => ?_)
  refine ev_iconst (v := 0) dX11_understood_5 (by decide) ?_
  refine ev_istore_n dX11_understood_6 (am_lt rfl) ?_
  refine ev_iconst (v := 0) dX11_understood_7 (by decide) ?_
  refine ev_istore_n dX11_understood_8 (am_lt rfl) ?_
  refine ev_weak (am_wk (am_wk (am_wk (am_wk am_wn)))) (ev_loop 9 38 (fun x2 : Int32 × Int32 => [some (.ref p0), some (.int p1), some (.int x2.1), some (.int x2.2)]) (fun t2 : Int32 => [none, none, some (.int t2), none]) (fun x2 => S1) (fun t2 => S1) (fun x2 G2 hB2 hE2 => ?_) (fun t2 => ?_) am_fuel (0, 0))
  · unfold f_X11_understood_b9
    refine ev_iload_n dX11_understood_9 rfl ?_
    refine ev_aload_n dX11_understood_10 rfl ?_
    refine ev_eq (Option.bind_assoc _ _ _) ?_
    refine ev_getR fk_X11_20 (by decide) dX11_understood_11 kp0 (fun q7 k7 r7 => ?_)
    refine ev_getN fk_X11_333 dX11_understood_14 k7 (am_fvI (by decide)) ?_
    refine ev_eq am_ib ?_
    refine ev_icmp_ge (tgt := 38) dX11_understood_17 (by decide) (fun c8 => ?_) (fun c8 => ?_)
    · exact ev_leaf (am_wf (am_wf (am_wk (am_wf am_wn)))) (hE2 x2.1)
    · refine ev_iload_n dX11_understood_20 rfl ?_
      refine ev_aload_n dX11_understood_21 rfl ?_
      refine ev_eq (Option.bind_assoc _ _ _) ?_
      refine ev_getR fk_X11_20 (by decide) dX11_understood_22 kp0 (fun q9 k9 r9 => ?_)
      refine ev_iload_n dX11_understood_25 rfl ?_
      refine ev_iload_n dX11_understood_26 rfl ?_
      refine ev_eq (Option.bind_assoc _ _ _) ?_
      refine ev_callP (am_callVN (as := [.int x2.2, .int p1]) (o := q9) (st := [.int x2.1]) cv_X11_336 dX11_understood_27 k9 rfl (am_le rfl) (am_fit (by omega) (by decide) (by decide) (by decide)) (am_no1 (fun _ => ⟨_, rfl⟩)) (t_X9_understoodAt hl k9)) (fun v10 h10 => ?_)
      refine ev_iadd dX11_understood_30 ?_
      refine ev_istore_n dX11_understood_31 (am_lt rfl) ?_
      refine ev_iinc (v := (x2.2 + 1)) dX11_understood_32 (am_lt rfl) rfl rfl ?_
      refine ev_goto (tgt := 9) dX11_understood_35 (by decide) ?_
      exact ev_leaf (am_wk (am_wk (am_wk (am_wk am_wn)))) (hB2 ((x2.1 + v10), (x2.2 + 1)))
  · refine ev_iload_n dX11_understood_38 rfl ?_
    exact ev_iret dX11_understood_39 rfl rfl (by decide) (by decide) rfl
def f_X11_quietest_b74 (S : am_S) (a0 : Nat) (a1 : Int32) (a2 : Int32) (a3 : Int32) (a4 : Int32) (a5 : Int32) (a6 : Int32) (x17 : Int32 × (Nat → Nat → Int32)) : Option ((Int32 × (Nat → Nat → Int32)) ⊕ ((Nat → Nat → Int32))) :=
  (if (a4 - a3) < x17.1 then some (.inr x17.2) else ((am_rd S.2 a0 8 1).bind (fun q19 => (if x17.1 < (Int32.ofNat (am_ln q19)) then ((am_rd S.2 a0 3 109).bind (fun q21 => ((am_rd S.2 a0 7 106).bind (fun q22 => ((f_X6_unmixed (x17.2, S.2) q22 a5 (a3 + x17.1)).bind (fun v23 => ((f_X9_takenFor (x17.2, S.2) q21 a1 v23).bind (fun v24 => ((if v24 = a2 then ((am_rd S.2 a0 8 1).bind (fun q26 => ((am_ld x17.2 q26 x17.1).bind (fun v27 => ((am_st x17.2 q26 x17.1 (v27 + 1)).bind (fun σ28 => some σ28)))))) else some x17.2).bind (fun t25 => some (.inl ((x17.1 + 1), t25)))))))))))) else some (.inr x17.2)))))
def f_X11_quietest_b46 (S : am_S) (a0 : Nat) (a1 : Int32) (a2 : Int32) (a3 : Int32) (a4 : Int32) (a5 : Int32) (x11 : Int32 × (Nat → Nat → Int32)) : Option ((Int32 × (Nat → Nat → Int32)) ⊕ ((Nat → Nat → Int32))) :=
  ((am_rd S.2 a0 3 109).bind (fun q12 => (if x11.1 < (x11.2 q12 0) then ((am_rd S.2 a0 7 106).bind (fun q14 => ((am_rd S.2 a0 3 109).bind (fun q15 => ((f_X6_listenAt (x11.2, S.2) q14 q15 x11.1).bind (fun σ16 => ((am_loop (f_X11_quietest_b74 (σ16, S.2) a0 a1 a2 a3 a4 a5 x11.1) am_fuel (0, σ16)).bind (fun t17 => some (.inl ((x11.1 + 1), t17)))))))))) else some (.inr x11.2))))
def f_X11_quietest_b147 (S : am_S) (a0 : Nat) (a3 : Int32) (a4 : Int32) (x68 : Int32 × Int32) : Option ((Int32 × Int32) ⊕ (Int32)) :=
  (if (a4 - a3) < x68.2 then some (.inr x68.1) else ((am_rd S.2 a0 8 1).bind (fun q70 => (if x68.2 < (Int32.ofNat (am_ln q70)) then ((am_rd S.2 a0 8 1).bind (fun q72 => ((am_ld S.1 q72 x68.2).bind (fun v73 => ((am_rd S.2 a0 8 1).bind (fun q74 => ((am_ld S.1 q74 x68.1).bind (fun v75 => ((if v75 < v73 then some x68.2 else some x68.1).bind (fun t76 => some (.inl (t76, (x68.2 + 1))))))))))))) else some (.inr x68.1)))))
def f_X11_quietest (S : am_S) (p0 : Nat) (p1 : Int32) (p2 : Int32) (p3 : Int32) (p4 : Int32) : Option (Int32 × (Nat → Nat → Int32)) :=
  ((am_rd S.2 p0 7 106).bind (fun q1 => ((am_rd S.2 p0 3 109).bind (fun q2 => ((am_rd S.2 q2 15 106).bind (fun q3 => ((f_X6_copyFrom S q1 q3).bind (fun σ4 => ((am_rd S.2 p0 7 106).bind (fun q5 => ((am_rd S.2 p0 3 109).bind (fun q6 => ((f_X9_wordFor (σ4, S.2) q6 p1 p2).bind (fun v7 => ((f_X6_add (σ4, S.2) q5 p3 p1 p2 v7).bind (fun y8 => ((am_rd S.2 p0 8 1).bind (fun q9 => ((f_J7_fill_53178 (y8.2, S.2) q9 0).bind (fun σ10 => ((am_loop (f_X11_quietest_b46 (σ10, S.2) p0 p1 p2 p3 p4 y8.1) am_fuel (0, σ10)).bind (fun t11 => ((am_loop (f_X11_quietest_b147 (t11, S.2) p0 p3 p4) am_fuel (0, 0)).bind (fun t68 => some ((p3 + t68), t11)))))))))))))))))))))))))
set_option maxRecDepth 20000 in
theorem t_X11_quietest {E : am_E} {l : Launch} (hl : l.stackTraces = false) {S : am_S} {p0 : Nat} {p1 : Int32} {p2 : Int32} {p3 : Int32} {p4 : Int32} (kp0 : am_kd p0 = 111) : am_M E l yX11_quietest (.code yX11_quietest cX11_quietest 8 (some .int)) 3 0 0 [.ref p0, .int p1, .int p2, .int p3, .int p4] S ((f_X11_quietest S p0 p1 p2 p3 p4).map (fun (x : Int32 × (Nat → Nat → Int32)) => ((.inl (some (.int x.1)), (x.2, S.2)) : am_R))) := by
  refine am_M_of (w := fun (x : Int32 × (Nat → Nat → Int32)) => ((.inl (some (.int x.1)), (x.2, S.2)) : am_R)) hl (by decide) (am_fc rfl (am_fc rfl (am_fc rfl (am_fc rfl (am_fc rfl am_fn))))) (Nat.le_of_ble_eq_true rfl) ?_
  show am_Ev E l (RX11, cX11_quietest, 8, (some .int), [], am_rm 3 0 0) (fun b a s x => am_Z E 0 0 b a s ((fun (x : Int32 × (Nat → Nat → Int32)) => ((.inl (some (.int x.1)), (x.2, S.2)) : am_R)) x)) 0 0 0 [some (.ref p0), some (.int p1), some (.int p2), some (.int p3), some (.int p4), none, none, none] [] S (f_X11_quietest S p0 p1 p2 p3 p4)
  unfold f_X11_quietest
  refine ev_aload_n dX11_quietest_0 rfl ?_
  refine ev_getR fk_X11_33 (by decide) dX11_quietest_1 kp0 (fun q1 k1 r1 => ?_)
  refine ev_aload_n dX11_quietest_4 rfl ?_
  refine ev_getR fk_X11_20 (by decide) dX11_quietest_5 kp0 (fun q2 k2 r2 => ?_)
  refine ev_getRN fk_X11_201 (by decide) dX11_quietest_8 k2 (fun q3 k3 r3 => ?_)
  refine ev_callWV (am_callVN (as := [.ref q3]) (o := q1) (st := []) cv_X11_407 dX11_quietest_11 k1 rfl (am_le rfl) (am_fit (by omega) (by decide) (by decide) (by decide)) (am_no1 (fun _ => ⟨_, rfl⟩)) (t_X6_copyFrom hl k1 k3)) (fun σ4 h4 => ?_)
  refine ev_aload_n dX11_quietest_14 rfl ?_
  refine ev_getR fk_X11_33 (by decide) dX11_quietest_15 kp0 (fun q5 k5 r5 => ?_)
  refine ev_iload_n dX11_quietest_18 rfl ?_
  refine ev_iload_n dX11_quietest_19 rfl ?_
  refine ev_iload_n dX11_quietest_20 rfl ?_
  refine ev_aload_n dX11_quietest_21 rfl ?_
  refine ev_getR fk_X11_20 (by decide) dX11_quietest_22 kp0 (fun q6 k6 r6 => ?_)
  refine ev_iload_n dX11_quietest_25 rfl ?_
  refine ev_iload_n dX11_quietest_26 rfl ?_
  refine ev_callP (am_callVN (as := [.int p1, .int p2]) (o := q6) (st := [.int p2, .int p1, .int p3, .ref q5]) cv_X11_171 dX11_quietest_27 k6 rfl (am_le rfl) (am_fit (by omega) (by decide) (by decide) (by decide)) (am_no1 (fun _ => ⟨_, rfl⟩)) (t_X9_wordFor hl k6)) (fun v7 h7 => ?_)
  refine ev_callWI (am_callVN (as := [.int p3, .int p1, .int p2, .int v7]) (o := q5) (st := []) cv_X11_204 dX11_quietest_30 k5 rfl (am_le rfl) (am_fit (by omega) (by decide) (by decide) (by decide)) (am_no1 (fun _ => ⟨_, rfl⟩)) (t_X6_add hl k5)) (fun y8 h8 => ?_)
  refine ev_istore dX11_quietest_33 (am_lt rfl) ?_
  refine ev_aload_n dX11_quietest_35 rfl ?_
  refine ev_getR fk_X11_37 (by decide) dX11_quietest_36 kp0 (fun q9 k9 r9 => ?_)
  refine ev_iconst (v := 0) dX11_quietest_39 (by decide) ?_
  refine ev_callWV (am_callS (as := [.ref q9, .int 0]) (st := []) ct_X11_410 dX11_quietest_40 rfl (am_le rfl) (am_fit (by omega) (by decide) (by decide) (by decide)) (t_J7_fill_53178 hl k9)) (fun σ10 h10 => ?_)
  refine ev_iconst (v := 0) dX11_quietest_43 (by decide) ?_
  refine ev_istore dX11_quietest_44 (am_lt rfl) ?_
  refine ev_weak (am_wk (am_wk (am_wk (am_wk (am_wk (am_wk (am_wk (am_wf am_wn)))))))) (ev_loop 46 141 (fun x11 : Int32 × (Nat → Nat → Int32) => [some (.ref p0), some (.int p1), some (.int p2), some (.int p3), some (.int p4), some (.int y8.1), some (.int x11.1), none]) (fun t11 : (Nat → Nat → Int32) => [some (.ref p0), none, none, some (.int p3), some (.int p4), none, none, none]) (fun x11 => (x11.2, S.2)) (fun t11 => (t11, S.2)) (fun x11 G11 hB11 hE11 => ?_) (fun t11 => ?_) am_fuel (0, σ10))
  · unfold f_X11_quietest_b46
    refine ev_iload dX11_quietest_46 rfl ?_
    refine ev_aload_n dX11_quietest_48 rfl ?_
    refine ev_eq (Option.bind_assoc _ _ _) ?_
    refine ev_getR fk_X11_20 (by decide) dX11_quietest_49 kp0 (fun q40 k40 r40 => ?_)
    refine ev_getN fk_X11_333 dX11_quietest_52 k40 (am_fvI (by decide)) ?_
    refine ev_eq am_ib ?_
    refine ev_icmp_ge (tgt := 141) dX11_quietest_55 (by decide) (fun c41 => ?_) (fun c41 => ?_)
    · exact ev_leaf (am_wk (am_wf (am_wf (am_wk (am_wk (am_wf (am_wf (am_wf am_wn)))))))) (hE11 x11.2)
    · refine ev_aload_n dX11_quietest_58 rfl ?_
      refine ev_eq (Option.bind_assoc _ _ _) ?_
      refine ev_getR fk_X11_33 (by decide) dX11_quietest_59 kp0 (fun q42 k42 r42 => ?_)
      refine ev_aload_n dX11_quietest_62 rfl ?_
      refine ev_eq (Option.bind_assoc _ _ _) ?_
      refine ev_getR fk_X11_20 (by decide) dX11_quietest_63 kp0 (fun q43 k43 r43 => ?_)
      refine ev_iload dX11_quietest_66 rfl ?_
      refine ev_eq (Option.bind_assoc _ _ _) ?_
      refine ev_callWV (am_callVN (as := [.ref q43, .int x11.1]) (o := q42) (st := []) cv_X11_416 dX11_quietest_68 k42 rfl (am_le rfl) (am_fit (by omega) (by decide) (by decide) (by decide)) (am_no1 (fun _ => ⟨_, rfl⟩)) (t_X6_listenAt hl k42 k43)) (fun σ44 h44 => ?_)
      refine ev_iconst (v := 0) dX11_quietest_71 (by decide) ?_
      refine ev_istore dX11_quietest_72 (am_lt rfl) ?_
      refine ev_eq (Option.bind_assoc _ _ _) ?_
      refine ev_weak (am_wk (am_wk (am_wk (am_wk (am_wk (am_wk (am_wk (am_wk am_wn)))))))) (ev_loop 74 135 (fun x45 : Int32 × (Nat → Nat → Int32) => [some (.ref p0), some (.int p1), some (.int p2), some (.int p3), some (.int p4), some (.int y8.1), some (.int x11.1), some (.int x45.1)]) (fun t45 : (Nat → Nat → Int32) => [some (.ref p0), some (.int p1), some (.int p2), some (.int p3), some (.int p4), some (.int y8.1), some (.int x11.1), none]) (fun x45 => (x45.2, S.2)) (fun t45 => (t45, S.2)) (fun x45 G45 hB45 hE45 => ?_) (fun t45 => ?_) am_fuel (0, σ44))
      · unfold f_X11_quietest_b74
        refine ev_iload dX11_quietest_74 rfl ?_
        refine ev_iload dX11_quietest_76 rfl ?_
        refine ev_iload_n dX11_quietest_78 rfl ?_
        refine ev_isub dX11_quietest_79 ?_
        refine ev_eq am_ib ?_
        refine ev_icmp_gt (tgt := 135) dX11_quietest_80 (by decide) (fun c57 => ?_) (fun c57 => ?_)
        · exact ev_leaf (am_wk (am_wk (am_wk (am_wk (am_wk (am_wk (am_wk (am_wf am_wn)))))))) (hE45 x45.2)
        · refine ev_iload dX11_quietest_83 rfl ?_
          refine ev_aload_n dX11_quietest_85 rfl ?_
          refine ev_eq (Option.bind_assoc _ _ _) ?_
          refine ev_getR fk_X11_37 (by decide) dX11_quietest_86 kp0 (fun q58 k58 r58 => ?_)
          refine ev_alen dX11_quietest_89 k58 (by decide) (by decide) ?_
          refine ev_eq am_ib ?_
          refine ev_icmp_ge (tgt := 135) dX11_quietest_90 (by decide) (fun c59 => ?_) (fun c59 => ?_)
          · exact ev_leaf (am_wk (am_wk (am_wk (am_wk (am_wk (am_wk (am_wk (am_wf am_wn)))))))) (hE45 x45.2)
          · refine ev_aload_n dX11_quietest_93 rfl ?_
            refine ev_eq (Option.bind_assoc _ _ _) ?_
            refine ev_getR fk_X11_20 (by decide) dX11_quietest_94 kp0 (fun q60 k60 r60 => ?_)
            refine ev_iload_n dX11_quietest_97 rfl ?_
            refine ev_aload_n dX11_quietest_98 rfl ?_
            refine ev_eq (Option.bind_assoc _ _ _) ?_
            refine ev_getR fk_X11_33 (by decide) dX11_quietest_99 kp0 (fun q61 k61 r61 => ?_)
            refine ev_iload dX11_quietest_102 rfl ?_
            refine ev_iload_n dX11_quietest_104 rfl ?_
            refine ev_iload dX11_quietest_105 rfl ?_
            refine ev_iadd dX11_quietest_107 ?_
            refine ev_eq (Option.bind_assoc _ _ _) ?_
            refine ev_callP (am_callVN (as := [.int y8.1, .int (p3 + x45.1)]) (o := q61) (st := [.int p1, .ref q60]) cv_X11_419 dX11_quietest_108 k61 rfl (am_le rfl) (am_fit (by omega) (by decide) (by decide) (by decide)) (am_no1 (fun _ => ⟨_, rfl⟩)) (t_X6_unmixed hl k61)) (fun v62 h62 => ?_)
            refine ev_eq (Option.bind_assoc _ _ _) ?_
            refine ev_callP (am_callVN (as := [.int p1, .int v62]) (o := q60) (st := []) cv_X11_422 dX11_quietest_111 k60 rfl (am_le rfl) (am_fit (by omega) (by decide) (by decide) (by decide)) (am_no1 (fun _ => ⟨_, rfl⟩)) (t_X9_takenFor hl k60)) (fun v63 h63 => ?_)
            refine ev_iload_n dX11_quietest_114 rfl ?_
            refine ev_eq (Option.bind_assoc _ _ _) ?_
            refine ev_reg (cs' := 0) (sl' := 0) 129 (fun t64 : (Nat → Nat → Int32) => [some (.ref p0), some (.int p1), some (.int p2), some (.int p3), some (.int p4), some (.int y8.1), some (.int x11.1), some (.int x45.1)]) (fun t64 => []) (fun t64 => (t64, S.2)) (fun hJ64 => ?_) (fun t64 => ?_)
            · refine ev_eq am_ib ?_
              refine ev_icmp_ne (tgt := 129) dX11_quietest_115 (by decide) (fun c64 => ?_) (fun c64 => ?_)
              · exact ev_leaf (am_wk (am_wk (am_wk (am_wk (am_wk (am_wk (am_wk (am_wk am_wn)))))))) (hJ64 x45.2)
              · refine ev_aload_n dX11_quietest_118 rfl ?_
                refine ev_eq (Option.bind_assoc _ _ _) ?_
                refine ev_getR fk_X11_37 (by decide) dX11_quietest_119 kp0 (fun q65 k65 r65 => ?_)
                refine ev_iload dX11_quietest_122 rfl ?_
                refine ev_dup2 dX11_quietest_124 rfl rfl ?_
                refine ev_eq (Option.bind_assoc _ _ _) ?_
                refine ev_iald dX11_quietest_125 k65 (fun v66 h66 => ?_)
                refine ev_iconst (v := 1) dX11_quietest_126 (by decide) ?_
                refine ev_iadd dX11_quietest_127 ?_
                refine ev_eq (Option.bind_assoc _ _ _) ?_
                refine ev_iast dX11_quietest_128 k65 (fun σ67 h67 => ?_)
                exact ev_leaf (am_wk (am_wk (am_wk (am_wk (am_wk (am_wk (am_wk (am_wk am_wn)))))))) (hJ64 σ67)
            · refine ev_iinc (v := (x45.1 + 1)) dX11_quietest_129 (am_lt rfl) rfl rfl ?_
              refine ev_goto (tgt := 74) dX11_quietest_132 (by decide) ?_
              exact ev_leaf (am_wk (am_wk (am_wk (am_wk (am_wk (am_wk (am_wk (am_wk am_wn)))))))) (hB45 ((x45.1 + 1), t64))
      · refine ev_iinc (v := (x11.1 + 1)) dX11_quietest_135 (am_lt rfl) rfl rfl ?_
        refine ev_goto (tgt := 46) dX11_quietest_138 (by decide) ?_
        exact ev_leaf (am_wk (am_wk (am_wk (am_wk (am_wk (am_wk (am_wk (am_wf am_wn)))))))) (hB11 ((x11.1 + 1), t45))
  · refine ev_iconst (v := 0) dX11_quietest_141 (by decide) ?_
    refine ev_istore dX11_quietest_142 (am_lt rfl) ?_
    refine ev_iconst (v := 0) dX11_quietest_144 (by decide) ?_
    refine ev_istore dX11_quietest_145 (am_lt rfl) ?_
    refine ev_weak (am_wk (am_wf (am_wf (am_wk (am_wk (am_wf (am_wk (am_wk am_wn)))))))) (ev_loop 147 193 (fun x68 : Int32 × Int32 => [some (.ref p0), none, none, some (.int p3), some (.int p4), none, some (.int x68.1), some (.int x68.2)]) (fun t68 : Int32 => [none, none, none, some (.int p3), none, none, some (.int t68), none]) (fun x68 => (t11, S.2)) (fun t68 => (t11, S.2)) (fun x68 G68 hB68 hE68 => ?_) (fun t68 => ?_) am_fuel (0, 0))
    · unfold f_X11_quietest_b147
      refine ev_iload dX11_quietest_147 rfl ?_
      refine ev_iload dX11_quietest_149 rfl ?_
      refine ev_iload_n dX11_quietest_151 rfl ?_
      refine ev_isub dX11_quietest_152 ?_
      refine ev_eq am_ib ?_
      refine ev_icmp_gt (tgt := 193) dX11_quietest_153 (by decide) (fun c77 => ?_) (fun c77 => ?_)
      · exact ev_leaf (am_wf (am_wf (am_wf (am_wk (am_wf (am_wf (am_wk (am_wf am_wn)))))))) (hE68 x68.1)
      · refine ev_iload dX11_quietest_156 rfl ?_
        refine ev_aload_n dX11_quietest_158 rfl ?_
        refine ev_eq (Option.bind_assoc _ _ _) ?_
        refine ev_getR fk_X11_37 (by decide) dX11_quietest_159 kp0 (fun q78 k78 r78 => ?_)
        refine ev_alen dX11_quietest_162 k78 (by decide) (by decide) ?_
        refine ev_eq am_ib ?_
        refine ev_icmp_ge (tgt := 193) dX11_quietest_163 (by decide) (fun c79 => ?_) (fun c79 => ?_)
        · exact ev_leaf (am_wf (am_wf (am_wf (am_wk (am_wf (am_wf (am_wk (am_wf am_wn)))))))) (hE68 x68.1)
        · refine ev_aload_n dX11_quietest_166 rfl ?_
          refine ev_eq (Option.bind_assoc _ _ _) ?_
          refine ev_getR fk_X11_37 (by decide) dX11_quietest_167 kp0 (fun q80 k80 r80 => ?_)
          refine ev_iload dX11_quietest_170 rfl ?_
          refine ev_eq (Option.bind_assoc _ _ _) ?_
          refine ev_iald dX11_quietest_172 k80 (fun v81 h81 => ?_)
          refine ev_aload_n dX11_quietest_173 rfl ?_
          refine ev_eq (Option.bind_assoc _ _ _) ?_
          refine ev_getR fk_X11_37 (by decide) dX11_quietest_174 kp0 (fun q82 k82 r82 => ?_)
          refine ev_iload dX11_quietest_177 rfl ?_
          refine ev_eq (Option.bind_assoc _ _ _) ?_
          refine ev_iald dX11_quietest_179 k82 (fun v83 h83 => ?_)
          refine ev_eq (Option.bind_assoc _ _ _) ?_
          refine ev_reg (cs' := 0) (sl' := 0) 187 (fun t84 : Int32 => [some (.ref p0), none, none, some (.int p3), some (.int p4), none, some (.int t84), some (.int x68.2)]) (fun t84 => []) (fun t84 => (t11, S.2)) (fun hJ84 => ?_) (fun t84 => ?_)
          · refine ev_eq am_ib ?_
            refine ev_icmp_le (tgt := 187) dX11_quietest_180 (by decide) (fun c84 => ?_) (fun c84 => ?_)
            · exact ev_leaf (am_wk (am_wf (am_wf (am_wk (am_wk (am_wf (am_wk (am_wk am_wn)))))))) (hJ84 x68.1)
            · refine ev_iload dX11_quietest_183 rfl ?_
              refine ev_istore dX11_quietest_185 (am_lt rfl) ?_
              exact ev_leaf (am_wk (am_wf (am_wf (am_wk (am_wk (am_wf (am_wk (am_wk am_wn)))))))) (hJ84 x68.2)
          · refine ev_iinc (v := (x68.2 + 1)) dX11_quietest_187 (am_lt rfl) rfl rfl ?_
            refine ev_goto (tgt := 147) dX11_quietest_190 (by decide) ?_
            exact ev_leaf (am_wk (am_wf (am_wf (am_wk (am_wk (am_wf (am_wk (am_wk am_wn)))))))) (hB68 (t84, (x68.2 + 1)))
    · refine ev_iload_n dX11_quietest_193 rfl ?_
      refine ev_iload dX11_quietest_194 rfl ?_
      refine ev_iadd dX11_quietest_196 ?_
      exact ev_iret dX11_quietest_197 rfl rfl (by decide) (by decide) rfl
