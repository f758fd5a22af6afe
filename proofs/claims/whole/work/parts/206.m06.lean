def f_X11_quiet (S : am_S) (p0 : Nat) (p1 : Int32) (p2 : Int32) (p3 : Int32) (p4 : Int32) : Option (am_R) :=
  (am_thV (f_X11_needHouse S p0 p1) (fun S1 => (am_thV (f_X11_needWant S1 p0 p2) (fun S2 => (am_thV (f_X11_needMinute S2 p0 p3) (fun S3 => (am_thV (f_X11_needMinute S3 p0 p4) (fun S4 => (if p4 < p3 then some (.inr 1, S4) else (if 60 < (p4 - p3) then some (.inr 1, S4) else (am_thV (f_X11_needRoomForRinging S4 p0) (fun S7 => ((am_rd S7.2 p0 3 109).bind (fun q8 => ((f_X9_wordFor S7 q8 p1 p2).bind (fun v9 => (if v9 = (-1) then some (.inl (some (.int (-1))), S7) else ((f_X11_quietest S7 p0 p1 p2 p3 p4).bind (fun y11 => some (.inl (some (.int y11.1)), (y11.2, S7.2)))))))))))))))))))))
set_option maxRecDepth 20000 in
theorem t_X11_quiet {E : am_E} {l : Launch} (hl : l.stackTraces = false) {S : am_S} {p0 : Nat} {p1 : Int32} {p2 : Int32} {p3 : Int32} {p4 : Int32} (kp0 : am_kd p0 = 111) : am_M E l yX11_quiet (.code yX11_quiet cX11_quiet 6 (some .int)) 4 6 36 [.ref p0, .int p1, .int p2, .int p3, .int p4] S (f_X11_quiet S p0 p1 p2 p3 p4) := by
  refine am_M_id (am_M_of (w := fun x => x) hl (by decide) (am_fc rfl (am_fc rfl (am_fc rfl (am_fc rfl (am_fc rfl am_fn))))) (Nat.le_of_ble_eq_true rfl) ?_)
  show am_Ev E l (RX11, cX11_quiet, 6, (some .int), [], am_rm 4 6 36) (am_Z E 6 36) 0 0 0 [some (.ref p0), some (.int p1), some (.int p2), some (.int p3), some (.int p4), none] [] S (f_X11_quiet S p0 p1 p2 p3 p4)
  unfold f_X11_quiet
  refine ev_aload_n dX11_quiet_0 rfl ?_
  refine ev_iload_n dX11_quiet_1 rfl ?_
  refine ev_callGV (am_callV (as := [.int p1]) (o := p0) (st := []) cv_X11_138 dX11_quiet_2 kp0 rfl (am_le rfl) (am_fit (by omega) (by decide) (by decide) (by decide)) (t_X11_needHouse hl kp0)) rfl (by decide) (by decide) (fun S1 h1 => ?_)
  refine ev_aload_n dX11_quiet_5 rfl ?_
  refine ev_iload_n dX11_quiet_6 rfl ?_
  refine ev_callGV (am_callV (as := [.int p2]) (o := p0) (st := []) cv_X11_165 dX11_quiet_7 kp0 rfl (am_le rfl) (am_fit (by omega) (by decide) (by decide) (by decide)) (t_X11_needWant hl kp0)) rfl (by decide) (by decide) (fun S2 h2 => ?_)
  refine ev_aload_n dX11_quiet_10 rfl ?_
  refine ev_iload_n dX11_quiet_11 rfl ?_
  refine ev_callGV (am_callV (as := [.int p3]) (o := p0) (st := []) cv_X11_193 dX11_quiet_12 kp0 rfl (am_le rfl) (am_fit (by omega) (by decide) (by decide) (by decide)) (t_X11_needMinute hl kp0)) rfl (by decide) (by decide) (fun S3 h3 => ?_)
  refine ev_aload_n dX11_quiet_15 rfl ?_
  refine ev_iload dX11_quiet_16 rfl ?_
  refine ev_callGV (am_callV (as := [.int p4]) (o := p0) (st := []) cv_X11_193 dX11_quiet_18 kp0 rfl (am_le rfl) (am_fit (by omega) (by decide) (by decide) (by decide)) (t_X11_needMinute hl kp0)) rfl (by decide) (by decide) (fun S4 h4 => ?_)
  refine ev_iload dX11_quiet_21 rfl ?_
  refine ev_iload_n dX11_quiet_23 rfl ?_
  refine ev_icmp_lt (tgt := 36) dX11_quiet_24 (by decide) (fun c5 => ?_) (fun c5 => ?_)
  · exact ev_throwW (k := 1) tk_105_109 (tx := "the minutes are not 0 to 60 apart") (t := 41) (by decide +kernel) dX11_quiet_36 dX11_quiet_39 dX11_quiet_40 dX11_quiet_43 dX11_quiet_46 rfl (by decide) ⟨by decide, by decide, by decide, by decide⟩ (by decide) (by decide)
  · refine ev_iload dX11_quiet_27 rfl ?_
    refine ev_iload_n dX11_quiet_29 rfl ?_
    refine ev_isub dX11_quiet_30 ?_
    refine ev_bipush (v := 60) dX11_quiet_31 (by decide) ?_
    refine ev_icmp_le (tgt := 47) dX11_quiet_33 (by decide) (fun c6 => ?_) (fun c6 => ?_)
    · refine ev_aload_n dX11_quiet_47 rfl ?_
      refine ev_callGV (am_callV (as := []) (o := p0) (st := []) cv_X11_198 dX11_quiet_48 kp0 rfl (am_le rfl) (am_fit (by omega) (by decide) (by decide) (by decide)) (t_X11_needRoomForRinging hl kp0)) rfl (by decide) (by decide) (fun S7 h7 => ?_)
      refine ev_aload_n dX11_quiet_51 rfl ?_
      refine ev_getR fk_X11_20 (by decide) dX11_quiet_52 kp0 (fun q8 k8 r8 => ?_)
      refine ev_iload_n dX11_quiet_55 rfl ?_
      refine ev_iload_n dX11_quiet_56 rfl ?_
      refine ev_callP (am_callVN (as := [.int p1, .int p2]) (o := q8) (st := []) cv_X11_171 dX11_quiet_57 k8 rfl (am_le rfl) (am_fit (by omega) (by decide) (by decide) (by decide)) (am_no1 (fun _ => ⟨_, rfl⟩)) (t_X9_wordFor hl k8)) (fun v9 h9 => ?_)
      refine ev_istore dX11_quiet_60 (am_lt rfl) ?_
      refine ev_iload dX11_quiet_62 rfl ?_
      refine ev_iconst (v := (-1)) dX11_quiet_64 (by decide) ?_
      refine ev_icmp_ne (tgt := 72) dX11_quiet_65 (by decide) (fun c10 => ?_) (fun c10 => ?_)
      · refine ev_aload_n dX11_quiet_72 rfl ?_
        refine ev_iload_n dX11_quiet_73 rfl ?_
        refine ev_iload_n dX11_quiet_74 rfl ?_
        refine ev_iload_n dX11_quiet_75 rfl ?_
        refine ev_iload dX11_quiet_76 rfl ?_
        refine ev_callWI (am_callV (as := [.int p1, .int p2, .int p3, .int p4]) (o := p0) (st := []) cv_X11_341 dX11_quiet_78 kp0 rfl (am_le rfl) (am_fit (by omega) (by decide) (by decide) (by decide)) (t_X11_quietest hl kp0)) (fun y11 h11 => ?_)
        exact ev_iret dX11_quiet_81 rfl rfl (by decide) (by decide) rfl
      · refine ev_iconst (v := (-1)) dX11_quiet_68 (by decide) ?_
        refine ev_goto (tgt := 81) dX11_quiet_69 (by decide) ?_
        exact ev_iret dX11_quiet_81 rfl rfl (by decide) (by decide) rfl
    · exact ev_throwW (k := 1) tk_105_109 (tx := "the minutes are not 0 to 60 apart") (t := 41) (by decide +kernel) dX11_quiet_36 dX11_quiet_39 dX11_quiet_40 dX11_quiet_43 dX11_quiet_46 rfl (by decide) ⟨by decide, by decide, by decide, by decide⟩ (by decide) (by decide)
def f_X9_isClashing_b3 (S : am_S) (a0 : Nat) (a1 : Int32) (a2 : Int32) (a3 : Int32) (x1 : Int32) : Option ((Int32) ⊕ ((Unit) ⊕ (Int32))) :=
  (if x1 < (S.1 a0 1) then ((f_X9_wordFor S a0 a1 x1).bind (fun v3 => (if x1 = a2 then some (.inl (x1 + 1)) else (if v3 = (-1) then some (.inl (x1 + 1)) else ((f_X11_isOneBegin a3 v3).bind (fun v6 => (if v6 = 0 then some (.inl (x1 + 1)) else some (.inr (.inr 1))))))))) else some (.inr (.inr 0)))
def f_X9_isClashing (S : am_S) (p0 : Nat) (p1 : Int32) (p2 : Int32) (p3 : Int32) : Option (Int32) :=
  ((am_loop (f_X9_isClashing_b3 S p0 p1 p2 p3) am_fuel 0).bind (fun r1 => match r1 with | .inl t1 => none | .inr b1 => some b1))
set_option maxRecDepth 20000 in
theorem t_X9_isClashing {E : am_E} {l : Launch} (hl : l.stackTraces = false) {S : am_S} {p0 : Nat} {p1 : Int32} {p2 : Int32} {p3 : Int32} (kp0 : am_kd p0 = 109) : am_M E l yX9_isClashing (.code yX9_isClashing cX9_isClashing 6 (some .boolean)) 3 0 0 [.ref p0, .int p1, .int p2, .int p3] S ((f_X9_isClashing S p0 p1 p2 p3).map (fun (v : Int32) => ((.inl (some (.int v)), S) : am_R))) := by
  refine am_M_of (w := fun (v : Int32) => ((.inl (some (.int v)), S) : am_R)) hl (by decide) (am_fc rfl (am_fc rfl (am_fc rfl (am_fc rfl am_fn)))) (Nat.le_of_ble_eq_true rfl) ?_
  show am_Ev E l (RX9, cX9_isClashing, 6, (some .boolean), [], am_rm 3 0 0) (fun b a s x => am_Z E 0 0 b a s ((fun (v : Int32) => ((.inl (some (.int v)), S) : am_R)) x)) 0 0 0 [some (.ref p0), some (.int p1), some (.int p2), some (.int p3), none, none] [] S (f_X9_isClashing S p0 p1 p2 p3)
  unfold f_X9_isClashing
  refine ev_iconst (v := 0) dX9_isClashing_0 (by decide) ?_
  refine ev_istore dX9_isClashing_1 (am_lt rfl) ?_
  refine ev_weak (am_wk (am_wk (am_wk (am_wk (am_wk (am_wf am_wn)))))) (ev_loopR 3 0 (fun x1 : Int32 => [some (.ref p0), some (.int p1), some (.int p2), some (.int p3), some (.int x1), none]) (fun t1 : Unit => [none, none, none, none, none, none]) (fun x1 => S) (fun t1 => S) (fun x1 G1 hB1 hE1 hG1 => ?_) (fun t1 => ?_) am_fuel 0)
  · unfold f_X9_isClashing_b3
    refine ev_iload dX9_isClashing_3 rfl ?_
    refine ev_aload_n dX9_isClashing_5 rfl ?_
    refine ev_get fk_X9_54 dX9_isClashing_6 kp0 (am_fvI (by decide)) ?_
    refine ev_eq am_ib ?_
    refine ev_icmp_ge (tgt := 50) dX9_isClashing_9 (by decide) (fun c8 => ?_) (fun c8 => ?_)
    · refine ev_iconst (v := 0) dX9_isClashing_50 (by decide) ?_
      exact ev_eq (hG1 _) (ev_iret dX9_isClashing_51 rfl (by decide) (by decide) (by decide) rfl)
    · refine ev_aload_n dX9_isClashing_12 rfl ?_
      refine ev_iload_n dX9_isClashing_13 rfl ?_
      refine ev_iload dX9_isClashing_14 rfl ?_
      refine ev_eq (Option.bind_assoc _ _ _) ?_
      refine ev_callP (am_callV (as := [.int p1, .int x1]) (o := p0) (st := []) cv_X9_89 dX9_isClashing_16 kp0 rfl (am_le rfl) (am_fit (by omega) (by decide) (by decide) (by decide)) (t_X9_wordFor hl kp0)) (fun v9 h9 => ?_)
      refine ev_istore dX9_isClashing_19 (am_lt rfl) ?_
      refine ev_iload dX9_isClashing_21 rfl ?_
      refine ev_iload_n dX9_isClashing_23 rfl ?_
      refine ev_eq am_ib ?_
      refine ev_icmp_eq (tgt := 44) dX9_isClashing_24 (by decide) (fun c10 => ?_) (fun c10 => ?_)
      · refine ev_iinc (v := (x1 + 1)) dX9_isClashing_44 (am_lt rfl) rfl rfl ?_
        refine ev_goto (tgt := 3) dX9_isClashing_47 (by decide) ?_
        exact ev_leaf (am_wk (am_wk (am_wk (am_wk (am_wk (am_wf am_wn)))))) (hB1 (x1 + 1))
      · refine ev_iload dX9_isClashing_27 rfl ?_
        refine ev_iconst (v := (-1)) dX9_isClashing_29 (by decide) ?_
        refine ev_eq am_ib ?_
        refine ev_icmp_eq (tgt := 44) dX9_isClashing_30 (by decide) (fun c11 => ?_) (fun c11 => ?_)
        · refine ev_iinc (v := (x1 + 1)) dX9_isClashing_44 (am_lt rfl) rfl rfl ?_
          refine ev_goto (tgt := 3) dX9_isClashing_47 (by decide) ?_
          exact ev_leaf (am_wk (am_wk (am_wk (am_wk (am_wk (am_wf am_wn)))))) (hB1 (x1 + 1))
        · refine ev_iload_n dX9_isClashing_33 rfl ?_
          refine ev_iload dX9_isClashing_34 rfl ?_
          refine ev_eq (Option.bind_assoc _ _ _) ?_
          refine ev_callP (am_callSN (as := [.int p3, .int v9]) (st := []) ct_X9_124 dX9_isClashing_36 rfl (am_le rfl) (am_fit (by omega) (by decide) (by decide) (by decide)) (am_no1 (fun _ => ⟨_, rfl⟩)) (t_X11_isOneBegin hl )) (fun v12 h12 => ?_)
          refine ev_eq am_ib ?_
          refine ev_if_eq (tgt := 44) dX9_isClashing_39 (by decide) (fun c13 => ?_) (fun c13 => ?_)
          · refine ev_iinc (v := (x1 + 1)) dX9_isClashing_44 (am_lt rfl) rfl rfl ?_
            refine ev_goto (tgt := 3) dX9_isClashing_47 (by decide) ?_
            exact ev_leaf (am_wk (am_wk (am_wk (am_wk (am_wk (am_wf am_wn)))))) (hB1 (x1 + 1))
          · refine ev_iconst (v := 1) dX9_isClashing_42 (by decide) ?_
            exact ev_eq (hG1 _) (ev_iret dX9_isClashing_43 rfl (by decide) (by decide) (by decide) rfl)
  · exact ev_none
def f_X11_worthTo (S : am_S) (p0 : Nat) (p1 : Int32) (p2 : Int32) (p3 : Int32) : Option (Int32) :=
  ((am_rd S.2 p0 3 109).bind (fun q1 => ((f_X9_isClashing S q1 p1 p2 p3).bind (fun v2 => (if v2 = 0 then ((am_rd S.2 p0 3 109).bind (fun q4 => ((f_X9_wordFor S q4 p1 p2).bind (fun v5 => ((if v5 = (-1) then some (17 : Int32) else ((f_X11_minutesOf v5).bind (fun v7 => some v7))).bind (fun t6 => ((am_rd S.2 p0 3 109).bind (fun q8 => ((f_X9_urgentOf S q8 p2).bind (fun v9 => ((f_X11_minutesOf p3).bind (fun v10 => some (v9 * (t6 - v10)))))))))))))) else some (-1000000))))))
set_option maxRecDepth 20000 in
theorem t_X11_worthTo {E : am_E} {l : Launch} (hl : l.stackTraces = false) {S : am_S} {p0 : Nat} {p1 : Int32} {p2 : Int32} {p3 : Int32} (kp0 : am_kd p0 = 111) : am_M E l yX11_worthTo (.code yX11_worthTo cX11_worthTo 6 (some .int)) 4 0 0 [.ref p0, .int p1, .int p2, .int p3] S ((f_X11_worthTo S p0 p1 p2 p3).map (fun (v : Int32) => ((.inl (some (.int v)), S) : am_R))) := by
  refine am_M_of (w := fun (v : Int32) => ((.inl (some (.int v)), S) : am_R)) hl (by decide) (am_fc rfl (am_fc rfl (am_fc rfl (am_fc rfl am_fn)))) (Nat.le_of_ble_eq_true rfl) ?_
  show am_Ev E l (RX11, cX11_worthTo, 6, (some .int), [], am_rm 4 0 0) (fun b a s x => am_Z E 0 0 b a s ((fun (v : Int32) => ((.inl (some (.int v)), S) : am_R)) x)) 0 0 0 [some (.ref p0), some (.int p1), some (.int p2), some (.int p3), none, none] [] S (f_X11_worthTo S p0 p1 p2 p3)
  unfold f_X11_worthTo
  refine ev_aload_n dX11_worthTo_0 rfl ?_
  refine ev_getR fk_X11_20 (by decide) dX11_worthTo_1 kp0 (fun q1 k1 r1 => ?_)
  refine ev_iload_n dX11_worthTo_4 rfl ?_
  refine ev_iload_n dX11_worthTo_5 rfl ?_
  refine ev_iload_n dX11_worthTo_6 rfl ?_
  refine ev_callP (am_callVN (as := [.int p1, .int p2, .int p3]) (o := q1) (st := []) cv_X11_425 dX11_worthTo_7 k1 rfl (am_le rfl) (am_fit (by omega) (by decide) (by decide) (by decide)) (am_no1 (fun _ => ⟨_, rfl⟩)) (t_X9_isClashing hl k1)) (fun v2 h2 => ?_)
  refine ev_if_eq (tgt := 17) dX11_worthTo_10 (by decide) (fun c3 => ?_) (fun c3 => ?_)
  · refine ev_aload_n dX11_worthTo_17 rfl ?_
    refine ev_getR fk_X11_20 (by decide) dX11_worthTo_18 kp0 (fun q4 k4 r4 => ?_)
    refine ev_iload_n dX11_worthTo_21 rfl ?_
    refine ev_iload_n dX11_worthTo_22 rfl ?_
    refine ev_callP (am_callVN (as := [.int p1, .int p2]) (o := q4) (st := []) cv_X11_171 dX11_worthTo_23 k4 rfl (am_le rfl) (am_fit (by omega) (by decide) (by decide) (by decide)) (am_no1 (fun _ => ⟨_, rfl⟩)) (t_X9_wordFor hl k4)) (fun v5 h5 => ?_)
    refine ev_istore dX11_worthTo_26 (am_lt rfl) ?_
    refine ev_iload dX11_worthTo_28 rfl ?_
    refine ev_iconst (v := (-1)) dX11_worthTo_30 (by decide) ?_
    refine ev_reg (cs' := 0) (sl' := 0) 44 (fun t6 : Int32 => [some (.ref p0), none, some (.int p2), some (.int p3), none, none]) (fun t6 => [.int t6]) (fun t6 => S) (fun hJ6 => ?_) (fun t6 => ?_)
    · refine ev_eq am_ib ?_
      refine ev_icmp_ne (tgt := 39) dX11_worthTo_31 (by decide) (fun c6 => ?_) (fun c6 => ?_)
      · refine ev_iload dX11_worthTo_39 rfl ?_
        refine ev_eq (Option.bind_assoc _ _ _) ?_
        refine ev_callP (am_callS (as := [.int v5]) (st := []) ct_X11_178 dX11_worthTo_41 rfl (am_le rfl) (am_fit (by omega) (by decide) (by decide) (by decide)) (t_X11_minutesOf hl )) (fun v7 h7 => ?_)
        exact ev_leaf (am_wk (am_wf (am_wk (am_wk (am_wf (am_wf am_wn)))))) (hJ6 v7)
      · refine ev_bipush (v := 17) dX11_worthTo_34 (by decide) ?_
        refine ev_goto (tgt := 44) dX11_worthTo_36 (by decide) ?_
        exact ev_leaf (am_wk (am_wf (am_wk (am_wk (am_wf (am_wf am_wn)))))) (hJ6 (17 : Int32))
    · refine ev_istore dX11_worthTo_44 (am_lt rfl) ?_
      refine ev_aload_n dX11_worthTo_46 rfl ?_
      refine ev_getR fk_X11_20 (by decide) dX11_worthTo_47 kp0 (fun q8 k8 r8 => ?_)
      refine ev_iload_n dX11_worthTo_50 rfl ?_
      refine ev_callP (am_callVN (as := [.int p2]) (o := q8) (st := []) cv_X11_430 dX11_worthTo_51 k8 rfl (am_le rfl) (am_fit (by omega) (by decide) (by decide) (by decide)) (am_no1 (fun _ => ⟨_, rfl⟩)) (t_X9_urgentOf hl k8)) (fun v9 h9 => ?_)
      refine ev_iload dX11_worthTo_54 rfl ?_
      refine ev_iload_n dX11_worthTo_56 rfl ?_
      refine ev_callP (am_callS (as := [.int p3]) (st := [.int t6, .int v9]) ct_X11_178 dX11_worthTo_57 rfl (am_le rfl) (am_fit (by omega) (by decide) (by decide) (by decide)) (t_X11_minutesOf hl )) (fun v10 h10 => ?_)
      refine ev_isub dX11_worthTo_60 ?_
      refine ev_imul dX11_worthTo_61 ?_
      exact ev_iret dX11_worthTo_62 rfl rfl (by decide) (by decide) rfl
  · refine ev_ldcwI (v := (-1000000)) dX11_worthTo_13 (am_G_t (i := 1376) (by decide +kernel) rfl) ?_
    exact ev_iret dX11_worthTo_16 rfl rfl (by decide) (by decide) rfl
def f_X11_worth (S : am_S) (p0 : Nat) (p1 : Int32) (p2 : Int32) (p3 : Int32) : Option (am_R) :=
  (am_thV (f_X11_needHouse S p0 p1) (fun S1 => (am_thV (f_X11_needWant S1 p0 p2) (fun S2 => (am_thV (f_X11_needWord S2 p0 p3) (fun S3 => ((f_X11_worthTo S3 p0 p1 p2 p3).bind (fun v4 => some (.inl (some (.int v4)), S3)))))))))
set_option maxRecDepth 20000 in
theorem t_X11_worth {E : am_E} {l : Launch} (hl : l.stackTraces = false) {S : am_S} {p0 : Nat} {p1 : Int32} {p2 : Int32} {p3 : Int32} (kp0 : am_kd p0 = 111) : am_M E l yX11_worth (.code yX11_worth cX11_worth 4 (some .int)) 5 3 18 [.ref p0, .int p1, .int p2, .int p3] S (f_X11_worth S p0 p1 p2 p3) := by
  refine am_M_id (am_M_of (w := fun x => x) hl (by decide) (am_fc rfl (am_fc rfl (am_fc rfl (am_fc rfl am_fn)))) (Nat.le_of_ble_eq_true rfl) ?_)
  show am_Ev E l (RX11, cX11_worth, 4, (some .int), [], am_rm 5 3 18) (am_Z E 3 18) 0 0 0 [some (.ref p0), some (.int p1), some (.int p2), some (.int p3)] [] S (f_X11_worth S p0 p1 p2 p3)
  unfold f_X11_worth
  refine ev_aload_n dX11_worth_0 rfl ?_
  refine ev_iload_n dX11_worth_1 rfl ?_
  refine ev_callGV (am_callV (as := [.int p1]) (o := p0) (st := []) cv_X11_138 dX11_worth_2 kp0 rfl (am_le rfl) (am_fit (by omega) (by decide) (by decide) (by decide)) (t_X11_needHouse hl kp0)) rfl (by decide) (by decide) (fun S1 h1 => ?_)
  refine ev_aload_n dX11_worth_5 rfl ?_
  refine ev_iload_n dX11_worth_6 rfl ?_
  refine ev_callGV (am_callV (as := [.int p2]) (o := p0) (st := []) cv_X11_165 dX11_worth_7 kp0 rfl (am_le rfl) (am_fit (by omega) (by decide) (by decide) (by decide)) (t_X11_needWant hl kp0)) rfl (by decide) (by decide) (fun S2 h2 => ?_)
  refine ev_aload_n dX11_worth_10 rfl ?_
  refine ev_iload_n dX11_worth_11 rfl ?_
  refine ev_callGV (am_callV (as := [.int p3]) (o := p0) (st := []) cv_X11_175 dX11_worth_12 kp0 rfl (am_le rfl) (am_fit (by omega) (by decide) (by decide) (by decide)) (t_X11_needWord hl kp0)) rfl (by decide) (by decide) (fun S3 h3 => ?_)
  refine ev_aload_n dX11_worth_15 rfl ?_
  refine ev_iload_n dX11_worth_16 rfl ?_
  refine ev_iload_n dX11_worth_17 rfl ?_
  refine ev_iload_n dX11_worth_18 rfl ?_
  refine ev_callP (am_callV (as := [.int p1, .int p2, .int p3]) (o := p0) (st := []) cv_X11_344 dX11_worth_19 kp0 rfl (am_le rfl) (am_fit (by omega) (by decide) (by decide) (by decide)) (t_X11_worthTo hl kp0)) (fun v4 h4 => ?_)
  exact ev_iret dX11_worth_22 rfl rfl (by decide) (by decide) rfl
def f_X11_sale_b22 (S : am_S) (a0 : Nat) (a1 : Int32) (a2 : Int32) (a3 : Int32) (x3 : Int32 × Int32 × Int32 × Int32) : Option ((Int32 × Int32 × Int32 × Int32) ⊕ (Int32 × Int32)) :=
  ((am_rd S.2 a0 3 109).bind (fun q4 => (if x3.2.2.2 < (S.1 q4 0) then ((f_X11_worthTo S a0 x3.2.2.2 a1 a2).bind (fun v6 => ((if x3.2.1 < v6 then some (x3.2.2.2, v6, x3.2.1) else (if x3.2.2.1 < v6 then some (x3.1, x3.2.1, v6) else some (x3.1, x3.2.1, x3.2.2.1))).bind (fun t7 => some (.inl (t7.1, t7.2.1, t7.2.2, (x3.2.2.2 + 1))))))) else some (.inr (x3.1, x3.2.2.1)))))
def f_X11_sale (S : am_S) (p0 : Nat) (p1 : Int32) (p2 : Int32) (p3 : Int32) : Option (am_R) :=
  (am_thV (f_X11_needWant S p0 p1) (fun S1 => (am_thV (f_X11_needWord S1 p0 p2) (fun S2 => ((am_loop (f_X11_sale_b22 S2 p0 p1 p2 p3) am_fuel ((-1), 0, 0, 0)).bind (fun t3 => (if p3 = 0 then some (.inl (some (.int t3.1)), S2) else (if t3.1 = (-1) then some (.inl (some (.int t3.1)), S2) else some (.inl (some (.int t3.2)), S2)))))))))
set_option maxRecDepth 20000 in
theorem t_X11_sale {E : am_E} {l : Launch} (hl : l.stackTraces = false) {S : am_S} {p0 : Nat} {p1 : Int32} {p2 : Int32} {p3 : Int32} (kp0 : am_kd p0 = 111) : am_M E l yX11_sale (.code yX11_sale cX11_sale 9 (some .int)) 5 2 12 [.ref p0, .int p1, .int p2, .int p3] S (f_X11_sale S p0 p1 p2 p3) := by
  refine am_M_id (am_M_of (w := fun x => x) hl (by decide) (am_fc rfl (am_fc rfl (am_fc rfl (am_fc rfl am_fn)))) (Nat.le_of_ble_eq_true rfl) ?_)
  show am_Ev E l (RX11, cX11_sale, 9, (some .int), [], am_rm 5 2 12) (am_Z E 2 12) 0 0 0 [some (.ref p0), some (.int p1), some (.int p2), some (.int p3), none, none, none, none, none] [] S (f_X11_sale S p0 p1 p2 p3)
  unfold f_X11_sale
  refine ev_aload_n dX11_sale_0 rfl ?_
  refine ev_iload_n dX11_sale_1 rfl ?_
  refine ev_callGV (am_callV (as := [.int p1]) (o := p0) (st := []) cv_X11_165 dX11_sale_2 kp0 rfl (am_le rfl) (am_fit (by omega) (by decide) (by decide) (by decide)) (t_X11_needWant hl kp0)) rfl (by decide) (by decide) (fun S1 h1 => ?_)
  refine ev_aload_n dX11_sale_5 rfl ?_
  refine ev_iload_n dX11_sale_6 rfl ?_
  refine ev_callGV (am_callV (as := [.int p2]) (o := p0) (st := []) cv_X11_175 dX11_sale_7 kp0 rfl (am_le rfl) (am_fit (by omega) (by decide) (by decide) (by decide)) (t_X11_needWord hl kp0)) rfl (by decide) (by decide) (fun S2 h2 => ?_)
  refine ev_iconst (v := (-1)) dX11_sale_10 (by decide) ?_
  refine ev_istore dX11_sale_11 (am_lt rfl) ?_
  refine ev_iconst (v := 0) dX11_sale_13 (by decide) ?_
  refine ev_istore dX11_sale_14 (am_lt rfl) ?_
  refine ev_iconst (v := 0) dX11_sale_16 (by decide) ?_
  refine ev_istore dX11_sale_17 (am_lt rfl) ?_
  refine ev_iconst (v := 0) dX11_sale_19 (by decide) ?_
  refine ev_istore dX11_sale_20 (am_lt rfl) ?_
  refine ev_weak (am_wk (am_wk (am_wk (am_wk (am_wk (am_wk (am_wk (am_wk (am_wf am_wn))))))))) (ev_loop 22 83 (fun x3 : Int32 × Int32 × Int32 × Int32 => [some (.ref p0), some (.int p1), some (.int p2), some (.int p3), some (.int x3.1), some (.int x3.2.1), some (.int x3.2.2.1), some (.int x3.2.2.2), none]) (fun t3 : Int32 × Int32 => [none, none, none, some (.int p3), some (.int t3.1), none, some (.int t3.2), none, none]) (fun x3 => S2) (fun t3 => S2) (fun x3 G3 hB3 hE3 => ?_) (fun t3 => ?_) am_fuel ((-1), 0, 0, 0))
  · unfold f_X11_sale_b22
    refine ev_iload dX11_sale_22 rfl ?_
    refine ev_aload_n dX11_sale_24 rfl ?_
    refine ev_eq (Option.bind_assoc _ _ _) ?_
    refine ev_getR fk_X11_20 (by decide) dX11_sale_25 kp0 (fun q9 k9 r9 => ?_)
    refine ev_getN fk_X11_333 dX11_sale_28 k9 (am_fvI (by decide)) ?_
    refine ev_eq am_ib ?_
    refine ev_icmp_ge (tgt := 83) dX11_sale_31 (by decide) (fun c10 => ?_) (fun c10 => ?_)
    · exact ev_leaf (am_wf (am_wf (am_wf (am_wk (am_wk (am_wf (am_wk (am_wf (am_wf am_wn))))))))) (hE3 (x3.1, x3.2.2.1))
    · refine ev_aload_n dX11_sale_34 rfl ?_
      refine ev_iload dX11_sale_35 rfl ?_
      refine ev_iload_n dX11_sale_37 rfl ?_
      refine ev_iload_n dX11_sale_38 rfl ?_
      refine ev_eq (Option.bind_assoc _ _ _) ?_
      refine ev_callP (am_callV (as := [.int x3.2.2.2, .int p1, .int p2]) (o := p0) (st := []) cv_X11_344 dX11_sale_39 kp0 rfl (am_le rfl) (am_fit (by omega) (by decide) (by decide) (by decide)) (t_X11_worthTo hl kp0)) (fun v11 h11 => ?_)
      refine ev_istore dX11_sale_42 (am_lt rfl) ?_
      refine ev_iload dX11_sale_44 rfl ?_
      refine ev_iload dX11_sale_46 rfl ?_
      refine ev_eq (Option.bind_assoc _ _ _) ?_
      refine ev_reg (cs' := 2) (sl' := 12) 77 (fun t12 : Int32 × Int32 × Int32 => [some (.ref p0), some (.int p1), some (.int p2), some (.int p3), some (.int t12.1), some (.int t12.2.1), some (.int t12.2.2), some (.int x3.2.2.2), none]) (fun t12 => []) (fun t12 => S2) (fun hJ12 => ?_) (fun t12 => ?_)
      · refine ev_eq am_ib ?_
        refine ev_icmp_le (tgt := 66) dX11_sale_48 (by decide) (fun c12 => ?_) (fun c12 => ?_)
        · refine ev_iload dX11_sale_66 rfl ?_
          refine ev_iload dX11_sale_68 rfl ?_
          refine ev_eq am_ib ?_
          refine ev_icmp_le (tgt := 77) dX11_sale_70 (by decide) (fun c13 => ?_) (fun c13 => ?_)
          · exact ev_leaf (am_wk (am_wk (am_wk (am_wk (am_wk (am_wk (am_wk (am_wk (am_wf am_wn))))))))) (hJ12 (x3.1, x3.2.1, x3.2.2.1))
          · refine ev_iload dX11_sale_73 rfl ?_
            refine ev_istore dX11_sale_75 (am_lt rfl) ?_
            exact ev_leaf (am_wk (am_wk (am_wk (am_wk (am_wk (am_wk (am_wk (am_wk (am_wf am_wn))))))))) (hJ12 (x3.1, x3.2.1, v11))
        · refine ev_iload dX11_sale_51 rfl ?_
          refine ev_istore dX11_sale_53 (am_lt rfl) ?_
          refine ev_iload dX11_sale_55 rfl ?_
          refine ev_istore dX11_sale_57 (am_lt rfl) ?_
          refine ev_iload dX11_sale_59 rfl ?_
          refine ev_istore dX11_sale_61 (am_lt rfl) ?_
          refine ev_goto (tgt := 77) dX11_sale_63 (by decide) ?_
          exact ev_leaf (am_wk (am_wk (am_wk (am_wk (am_wk (am_wk (am_wk (am_wk (am_wf am_wn))))))))) (hJ12 (x3.2.2.2, v11, x3.2.1))
      · refine ev_iinc (v := (x3.2.2.2 + 1)) dX11_sale_77 (am_lt rfl) rfl rfl ?_
        refine ev_goto (tgt := 22) dX11_sale_80 (by decide) ?_
        exact ev_leaf (am_wk (am_wk (am_wk (am_wk (am_wk (am_wk (am_wk (am_wk (am_wf am_wn))))))))) (hB3 (t12.1, t12.2.1, t12.2.2, (x3.2.2.2 + 1)))
  · refine ev_iload_n dX11_sale_83 rfl ?_
    refine ev_if_eq (tgt := 98) dX11_sale_84 (by decide) (fun c14 => ?_) (fun c14 => ?_)
    · refine ev_iload dX11_sale_98 rfl ?_
      exact ev_iret dX11_sale_100 rfl rfl (by decide) (by decide) rfl
    · refine ev_iload dX11_sale_87 rfl ?_
      refine ev_iconst (v := (-1)) dX11_sale_89 (by decide) ?_
      refine ev_icmp_eq (tgt := 98) dX11_sale_90 (by decide) (fun c15 => ?_) (fun c15 => ?_)
      · refine ev_iload dX11_sale_98 rfl ?_
        exact ev_iret dX11_sale_100 rfl rfl (by decide) (by decide) rfl
      · refine ev_iload dX11_sale_93 rfl ?_
        refine ev_goto (tgt := 100) dX11_sale_95 (by decide) ?_
        exact ev_iret dX11_sale_100 rfl rfl (by decide) (by decide) rfl
def f_X11_drawEvening_b34 (S : am_S) (a0 : Nat) (a2 : Int32) (x6 : Int32 × Int32 × (Nat → Nat → Int32)) : Option ((Int32 × Int32 × (Nat → Nat → Int32)) ⊕ ((Nat → Nat → Int32))) :=
  (if x6.2.1 < a2 then ((f_X11_seedBehind x6.1).bind (fun v8 => ((f_X11_drawOf v8).bind (fun v9 => ((f_X11_seedBehind v8).bind (fun v10 => ((f_X11_drawOf v10).bind (fun v11 => ((am_rd S.2 a0 3 109).bind (fun q12 => (if (x6.2.2 q12 0) = 0 then none else ((f_X11_seedBehind v10).bind (fun v14 => ((f_X11_drawOf v14).bind (fun v15 => ((am_rd S.2 a0 3 109).bind (fun q16 => (if (x6.2.2 q16 1) = 0 then none else ((am_rd S.2 a0 3 109).bind (fun q18 => ((f_X9_wordFor (x6.2.2, S.2) q18 (v11 - v11 / (x6.2.2 q12 0) * (x6.2.2 q12 0)) (v15 - v15 / (x6.2.2 q16 1) * (x6.2.2 q16 1))).bind (fun v19 => ((if v19 = (-1) then some x6.2.2 else ((am_rd S.2 a0 7 106).bind (fun q21 => ((f_X6_add (x6.2.2, S.2) q21 (v9 - v9 / 20 * 20) (v11 - v11 / (x6.2.2 q12 0) * (x6.2.2 q12 0)) (v15 - v15 / (x6.2.2 q16 1) * (x6.2.2 q16 1)) v19).bind (fun y22 => some y22.2))))).bind (fun t20 => some (.inl (v14, (x6.2.1 + 1), t20)))))))))))))))))))))))))) else some (.inr x6.2.2))
def f_X11_drawEvening (S : am_S) (p0 : Nat) (p1 : Int32) (p2 : Int32) : Option ((Nat → Nat → Int32)) :=
  ((am_rd S.2 p0 7 106).bind (fun q1 => ((am_rd S.2 p0 3 109).bind (fun q2 => (if 0 < ((am_u2 S.1 q1 0 0) q2 0) then ((am_rd S.2 p0 3 109).bind (fun q4 => (if 0 < ((am_u2 S.1 q1 0 0) q4 1) then ((am_loop (f_X11_drawEvening_b34 ((am_u2 S.1 q1 0 0), S.2) p0 p2) am_fuel (p1, 0, (am_u2 S.1 q1 0 0))).bind (fun t6 => some t6)) else some (am_u2 S.1 q1 0 0)))) else some (am_u2 S.1 q1 0 0))))))
set_option maxRecDepth 20000 in
theorem t_X11_drawEvening {E : am_E} {l : Launch} (hl : l.stackTraces = false) {S : am_S} {p0 : Nat} {p1 : Int32} {p2 : Int32} (kp0 : am_kd p0 = 111) : am_M E l yX11_drawEvening (.code yX11_drawEvening cX11_drawEvening 9 none) 2 0 0 [.ref p0, .int p1, .int p2] S ((f_X11_drawEvening S p0 p1 p2).map (fun (x : Nat → Nat → Int32) => ((.inl none, (x, S.2)) : am_R))) := by
  refine am_M_of (w := fun (x : Nat → Nat → Int32) => ((.inl none, (x, S.2)) : am_R)) hl (by decide) (am_fc rfl (am_fc rfl (am_fc rfl am_fn))) (Nat.le_of_ble_eq_true rfl) ?_
  show am_Ev E l (RX11, cX11_drawEvening, 9, none, [], am_rm 2 0 0) (fun b a s x => am_Z E 0 0 b a s ((fun (x : Nat → Nat → Int32) => ((.inl none, (x, S.2)) : am_R)) x)) 0 0 0 [some (.ref p0), some (.int p1), some (.int p2), none, none, none, none, none, none] [] S (f_X11_drawEvening S p0 p1 p2)
  unfold f_X11_drawEvening
  refine ev_aload_n dX11_drawEvening_0 rfl ?_
  refine ev_getR fk_X11_33 (by decide) dX11_drawEvening_1 kp0 (fun q1 k1 r1 => ?_)
  refine ev_iconst (v := 0) dX11_drawEvening_4 (by decide) ?_
  refine ev_putIN fk_X11_208 tyX6 tyX6_ok nmX6 rfl (by decide +kernel) (by decide) dX11_drawEvening_5 k1 ?_
  refine ev_iload_n dX11_drawEvening_8 rfl ?_
  refine ev_istore_n dX11_drawEvening_9 (am_lt rfl) ?_
  refine ev_aload_n dX11_drawEvening_10 rfl ?_
  refine ev_getR fk_X11_20 (by decide) dX11_drawEvening_11 kp0 (fun q2 k2 r2 => ?_)
  refine ev_getN fk_X11_333 dX11_drawEvening_14 k2 (am_fvI (by decide)) ?_
  refine ev_if_le (tgt := 30) dX11_drawEvening_17 (by decide) (fun c3 => ?_) (fun c3 => ?_)
  · exact ev_vret dX11_drawEvening_30 rfl (by decide) (by decide) rfl
  · refine ev_aload_n dX11_drawEvening_20 rfl ?_
    refine ev_getR fk_X11_20 (by decide) dX11_drawEvening_21 kp0 (fun q4 k4 r4 => ?_)
    refine ev_getN fk_X11_362 dX11_drawEvening_24 k4 (am_fvI (by decide)) ?_
    refine ev_if_gt (tgt := 31) dX11_drawEvening_27 (by decide) (fun c5 => ?_) (fun c5 => ?_)
    · refine ev_iconst (v := 0) dX11_drawEvening_31 (by decide) ?_
      refine ev_istore dX11_drawEvening_32 (am_lt rfl) ?_
      refine ev_weak (am_wk (am_wf (am_wk (am_wk (am_wk (am_wf (am_wf (am_wf (am_wf am_wn))))))))) (ev_loop 34 133 (fun x6 : Int32 × Int32 × (Nat → Nat → Int32) => [some (.ref p0), none, some (.int p2), some (.int x6.1), some (.int x6.2.1), none, none, none, none]) (fun t6 : (Nat → Nat → Int32) => [none, none, none, none, none, none, none, none, none]) (fun x6 => (x6.2.2, S.2)) (fun t6 => (t6, S.2)) (fun x6 G6 hB6 hE6 => ?_) (fun t6 => ?_) am_fuel (p1, 0, (am_u2 S.1 q1 0 0)))
      · unfold f_X11_drawEvening_b34
        refine ev_iload dX11_drawEvening_34 rfl ?_
        refine ev_iload_n dX11_drawEvening_36 rfl ?_
        refine ev_eq am_ib ?_
        refine ev_icmp_ge (tgt := 133) dX11_drawEvening_37 (by decide) (fun c23 => ?_) (fun c23 => ?_)
        · exact ev_leaf (am_wf (am_wf (am_wf (am_wf (am_wf (am_wf (am_wf (am_wf (am_wf am_wn))))))))) (hE6 x6.2.2)
        · refine ev_iload_n dX11_drawEvening_40 rfl ?_
          refine ev_eq (Option.bind_assoc _ _ _) ?_
          refine ev_callP (am_callS (as := [.int x6.1]) (st := []) ct_X11_433 dX11_drawEvening_41 rfl (am_le rfl) (am_fit (by omega) (by decide) (by decide) (by decide)) (t_X11_seedBehind hl )) (fun v24 h24 => ?_)
          refine ev_istore_n dX11_drawEvening_44 (am_lt rfl) ?_
          refine ev_iload_n dX11_drawEvening_45 rfl ?_
          refine ev_eq (Option.bind_assoc _ _ _) ?_
          refine ev_callP (am_callS (as := [.int v24]) (st := []) ct_X11_436 dX11_drawEvening_46 rfl (am_le rfl) (am_fit (by omega) (by decide) (by decide) (by decide)) (t_X11_drawOf hl )) (fun v25 h25 => ?_)
          refine ev_bipush (v := 20) dX11_drawEvening_49 (by decide) ?_
          refine ev_irem dX11_drawEvening_51 (by decide) ?_
          refine ev_istore dX11_drawEvening_52 (am_lt rfl) ?_
          refine ev_iload_n dX11_drawEvening_54 rfl ?_
          refine ev_eq (Option.bind_assoc _ _ _) ?_
          refine ev_callP (am_callS (as := [.int v24]) (st := []) ct_X11_433 dX11_drawEvening_55 rfl (am_le rfl) (am_fit (by omega) (by decide) (by decide) (by decide)) (t_X11_seedBehind hl )) (fun v26 h26 => ?_)
          refine ev_istore_n dX11_drawEvening_58 (am_lt rfl) ?_
          refine ev_iload_n dX11_drawEvening_59 rfl ?_
          refine ev_eq (Option.bind_assoc _ _ _) ?_
          refine ev_callP (am_callS (as := [.int v26]) (st := []) ct_X11_436 dX11_drawEvening_60 rfl (am_le rfl) (am_fit (by omega) (by decide) (by decide) (by decide)) (t_X11_drawOf hl )) (fun v27 h27 => ?_)
          refine ev_aload_n dX11_drawEvening_63 rfl ?_
          refine ev_eq (Option.bind_assoc _ _ _) ?_
          refine ev_getR fk_X11_20 (by decide) dX11_drawEvening_64 kp0 (fun q28 k28 r28 => ?_)
          refine ev_getN fk_X11_333 dX11_drawEvening_67 k28 (am_fvI (by decide)) ?_
          refine ev_eq am_ib ?_
          refine ev_split (fun _ => ?_) (fun c29 => ?_)
          · exact ev_none
          · refine ev_irem dX11_drawEvening_70 c29 ?_
            refine ev_istore dX11_drawEvening_71 (am_lt rfl) ?_
            refine ev_iload_n dX11_drawEvening_73 rfl ?_
            refine ev_eq (Option.bind_assoc _ _ _) ?_
            refine ev_callP (am_callS (as := [.int v26]) (st := []) ct_X11_433 dX11_drawEvening_74 rfl (am_le rfl) (am_fit (by omega) (by decide) (by decide) (by decide)) (t_X11_seedBehind hl )) (fun v30 h30 => ?_)
            refine ev_istore_n dX11_drawEvening_77 (am_lt rfl) ?_
            refine ev_iload_n dX11_drawEvening_78 rfl ?_
            refine ev_eq (Option.bind_assoc _ _ _) ?_
            refine ev_callP (am_callS (as := [.int v30]) (st := []) ct_X11_436 dX11_drawEvening_79 rfl (am_le rfl) (am_fit (by omega) (by decide) (by decide) (by decide)) (t_X11_drawOf hl )) (fun v31 h31 => ?_)
            refine ev_aload_n dX11_drawEvening_82 rfl ?_
            refine ev_eq (Option.bind_assoc _ _ _) ?_
            refine ev_getR fk_X11_20 (by decide) dX11_drawEvening_83 kp0 (fun q32 k32 r32 => ?_)
            refine ev_getN fk_X11_362 dX11_drawEvening_86 k32 (am_fvI (by decide)) ?_
            refine ev_eq am_ib ?_
            refine ev_split (fun _ => ?_) (fun c33 => ?_)
            · exact ev_none
            · refine ev_irem dX11_drawEvening_89 c33 ?_
              refine ev_istore dX11_drawEvening_90 (am_lt rfl) ?_
              refine ev_aload_n dX11_drawEvening_92 rfl ?_
              refine ev_eq (Option.bind_assoc _ _ _) ?_
              refine ev_getR fk_X11_20 (by decide) dX11_drawEvening_93 kp0 (fun q34 k34 r34 => ?_)
              refine ev_iload dX11_drawEvening_96 rfl ?_
              refine ev_iload dX11_drawEvening_98 rfl ?_
              refine ev_eq (Option.bind_assoc _ _ _) ?_
              refine ev_callP (am_callVN (as := [.int (v27 - v27 / (x6.2.2 q28 0) * (x6.2.2 q28 0)), .int (v31 - v31 / (x6.2.2 q32 1) * (x6.2.2 q32 1))]) (o := q34) (st := []) cv_X11_171 dX11_drawEvening_100 k34 rfl (am_le rfl) (am_fit (by omega) (by decide) (by decide) (by decide)) (am_no1 (fun _ => ⟨_, rfl⟩)) (t_X9_wordFor hl k34)) (fun v35 h35 => ?_)
              refine ev_istore dX11_drawEvening_103 (am_lt rfl) ?_
              refine ev_iload dX11_drawEvening_105 rfl ?_
              refine ev_iconst (v := (-1)) dX11_drawEvening_107 (by decide) ?_
              refine ev_eq (Option.bind_assoc _ _ _) ?_
              refine ev_reg (cs' := 0) (sl' := 0) 127 (fun t36 : (Nat → Nat → Int32) => [some (.ref p0), none, some (.int p2), some (.int v30), some (.int x6.2.1), none, none, none, none]) (fun t36 => []) (fun t36 => (t36, S.2)) (fun hJ36 => ?_) (fun t36 => ?_)
              · refine ev_eq am_ib ?_
                refine ev_icmp_eq (tgt := 127) dX11_drawEvening_108 (by decide) (fun c36 => ?_) (fun c36 => ?_)
                · exact ev_leaf (am_wk (am_wf (am_wk (am_wk (am_wk (am_wf (am_wf (am_wf (am_wf am_wn))))))))) (hJ36 x6.2.2)
                · refine ev_aload_n dX11_drawEvening_111 rfl ?_
                  refine ev_eq (Option.bind_assoc _ _ _) ?_
                  refine ev_getR fk_X11_33 (by decide) dX11_drawEvening_112 kp0 (fun q37 k37 r37 => ?_)
                  refine ev_iload dX11_drawEvening_115 rfl ?_
                  refine ev_iload dX11_drawEvening_117 rfl ?_
                  refine ev_iload dX11_drawEvening_119 rfl ?_
                  refine ev_iload dX11_drawEvening_121 rfl ?_
                  refine ev_eq (Option.bind_assoc _ _ _) ?_
                  refine ev_callWI (am_callVN (as := [.int (v25 - v25 / 20 * 20), .int (v27 - v27 / (x6.2.2 q28 0) * (x6.2.2 q28 0)), .int (v31 - v31 / (x6.2.2 q32 1) * (x6.2.2 q32 1)), .int v35]) (o := q37) (st := []) cv_X11_204 dX11_drawEvening_123 k37 rfl (am_le rfl) (am_fit (by omega) (by decide) (by decide) (by decide)) (am_no1 (fun _ => ⟨_, rfl⟩)) (t_X6_add hl k37)) (fun y38 h38 => ?_)
                  refine ev_pop dX11_drawEvening_126 rfl ?_
                  exact ev_leaf (am_wk (am_wf (am_wk (am_wk (am_wk (am_wf (am_wf (am_wf (am_wf am_wn))))))))) (hJ36 y38.2)
              · refine ev_iinc (v := (x6.2.1 + 1)) dX11_drawEvening_127 (am_lt rfl) rfl rfl ?_
                refine ev_goto (tgt := 34) dX11_drawEvening_130 (by decide) ?_
                exact ev_leaf (am_wk (am_wf (am_wk (am_wk (am_wk (am_wf (am_wf (am_wf (am_wf am_wn))))))))) (hB6 (v30, (x6.2.1 + 1), t36))
      · exact ev_vret dX11_drawEvening_133 rfl (by decide) (by decide) rfl
    · exact ev_vret dX11_drawEvening_30 rfl (by decide) (by decide) rfl
def f_X11_judgedOfTrial_b4 (S : am_S) (a0 : Nat) (a1 : Int32) (x1 : Int32 × Int32 × (Nat → Nat → Int32)) : Option ((Int32 × Int32 × (Nat → Nat → Int32)) ⊕ (Int32 × (Nat → Nat → Int32))) :=
  ((am_rd S.2 a0 7 106).bind (fun q2 => (if x1.2.1 < (x1.2.2 q2 0) then ((am_rd S.2 a0 7 106).bind (fun q4 => ((am_rd S.2 a0 3 109).bind (fun q5 => ((f_X6_judge (x1.2.2, S.2) q4 q5 x1.2.1).bind (fun σ6 => ((if a1 = 0 then ((am_rd S.2 a0 7 106).bind (fun q13 => some (x1.1 + (σ6 q13 7)))) else (if a1 = 1 then ((am_rd S.2 a0 7 106).bind (fun q12 => some (x1.1 + (σ6 q12 8)))) else ((am_rd S.2 a0 7 106).bind (fun q9 => ((am_rd S.2 a0 7 106).bind (fun q10 => (if ((σ6 q9 7) + (σ6 q10 8)) = 0 then some (x1.1 + 1) else some x1.1))))))).bind (fun t7 => some (.inl (t7, (x1.2.1 + 1), σ6)))))))))) else some (.inr (x1.1, x1.2.2)))))
def f_X11_judgedOfTrial (S : am_S) (p0 : Nat) (p1 : Int32) : Option (Int32 × (Nat → Nat → Int32)) :=
  ((am_loop (f_X11_judgedOfTrial_b4 S p0 p1) am_fuel (0, 0, S.1)).bind (fun t1 => some (t1.1, t1.2)))
set_option maxRecDepth 20000 in
theorem t_X11_judgedOfTrial {E : am_E} {l : Launch} (hl : l.stackTraces = false) {S : am_S} {p0 : Nat} {p1 : Int32} (kp0 : am_kd p0 = 111) : am_M E l yX11_judgedOfTrial (.code yX11_judgedOfTrial cX11_judgedOfTrial 4 (some .int)) 6 0 0 [.ref p0, .int p1] S ((f_X11_judgedOfTrial S p0 p1).map (fun (x : Int32 × (Nat → Nat → Int32)) => ((.inl (some (.int x.1)), (x.2, S.2)) : am_R))) := by
  refine am_M_of (w := fun (x : Int32 × (Nat → Nat → Int32)) => ((.inl (some (.int x.1)), (x.2, S.2)) : am_R)) hl (by decide) (am_fc rfl (am_fc rfl am_fn)) (Nat.le_of_ble_eq_true rfl) ?_
  show am_Ev E l (RX11, cX11_judgedOfTrial, 4, (some .int), [], am_rm 6 0 0) (fun b a s x => am_Z E 0 0 b a s ((fun (x : Int32 × (Nat → Nat → Int32)) => ((.inl (some (.int x.1)), (x.2, S.2)) : am_R)) x)) 0 0 0 [some (.ref p0), some (.int p1), none, none] [] S (f_X11_judgedOfTrial S p0 p1)
  unfold f_X11_judgedOfTrial
  refine ev_iconst (v := 0) dX11_judgedOfTrial_0 (by decide) ?_
  refine ev_istore_n dX11_judgedOfTrial_1 (am_lt rfl) ?_
  refine ev_iconst (v := 0) dX11_judgedOfTrial_2 (by decide) ?_
  refine ev_istore_n dX11_judgedOfTrial_3 (am_lt rfl) ?_
  refine ev_weak (am_wk (am_wk (am_wk (am_wk am_wn)))) (ev_loop 4 89 (fun x1 : Int32 × Int32 × (Nat → Nat → Int32) => [some (.ref p0), some (.int p1), some (.int x1.1), some (.int x1.2.1)]) (fun t1 : Int32 × (Nat → Nat → Int32) => [none, none, some (.int t1.1), none]) (fun x1 => (x1.2.2, S.2)) (fun t1 => (t1.2, S.2)) (fun x1 G1 hB1 hE1 => ?_) (fun t1 => ?_) am_fuel (0, 0, S.1))
  · unfold f_X11_judgedOfTrial_b4
    refine ev_iload_n dX11_judgedOfTrial_4 rfl ?_
    refine ev_aload_n dX11_judgedOfTrial_5 rfl ?_
    refine ev_eq (Option.bind_assoc _ _ _) ?_
    refine ev_getR fk_X11_33 (by decide) dX11_judgedOfTrial_6 kp0 (fun q14 k14 r14 => ?_)
    refine ev_getN fk_X11_208 dX11_judgedOfTrial_9 k14 (am_fvI (by decide)) ?_
    refine ev_eq am_ib ?_
    refine ev_icmp_ge (tgt := 89) dX11_judgedOfTrial_12 (by decide) (fun c15 => ?_) (fun c15 => ?_)
    · exact ev_leaf (am_wf (am_wf (am_wk (am_wf am_wn)))) (hE1 (x1.1, x1.2.2))
    · refine ev_aload_n dX11_judgedOfTrial_15 rfl ?_
      refine ev_eq (Option.bind_assoc _ _ _) ?_
      refine ev_getR fk_X11_33 (by decide) dX11_judgedOfTrial_16 kp0 (fun q16 k16 r16 => ?_)
      refine ev_aload_n dX11_judgedOfTrial_19 rfl ?_
      refine ev_eq (Option.bind_assoc _ _ _) ?_
      refine ev_getR fk_X11_20 (by decide) dX11_judgedOfTrial_20 kp0 (fun q17 k17 r17 => ?_)
      refine ev_iload_n dX11_judgedOfTrial_23 rfl ?_
      refine ev_eq (Option.bind_assoc _ _ _) ?_
      refine ev_callWV (am_callVN (as := [.ref q17, .int x1.2.1]) (o := q16) (st := []) cv_X11_221 dX11_judgedOfTrial_24 k16 rfl (am_le rfl) (am_fit (by omega) (by decide) (by decide) (by decide)) (am_no1 (fun _ => ⟨_, rfl⟩)) (t_X6_judge hl k16 k17)) (fun σ18 h18 => ?_)
      refine ev_iload_n dX11_judgedOfTrial_27 rfl ?_
      refine ev_eq (Option.bind_assoc _ _ _) ?_
      refine ev_reg (cs' := 0) (sl' := 0) 83 (fun t19 : Int32 => [some (.ref p0), some (.int p1), some (.int t19), some (.int x1.2.1)]) (fun t19 => []) (fun t19 => (σ18, S.2)) (fun hJ19 => ?_) (fun t19 => ?_)
      · refine ev_eq am_ib ?_
        refine ev_if_ne (tgt := 44) dX11_judgedOfTrial_28 (by decide) (fun c19 => ?_) (fun c19 => ?_)
        · refine ev_iload_n dX11_judgedOfTrial_44 rfl ?_
          refine ev_iconst (v := 1) dX11_judgedOfTrial_45 (by decide) ?_
          refine ev_eq am_ib ?_
          refine ev_icmp_ne (tgt := 62) dX11_judgedOfTrial_46 (by decide) (fun c20 => ?_) (fun c20 => ?_)
          · refine ev_aload_n dX11_judgedOfTrial_62 rfl ?_
            refine ev_eq (Option.bind_assoc _ _ _) ?_
            refine ev_getR fk_X11_33 (by decide) dX11_judgedOfTrial_63 kp0 (fun q21 k21 r21 => ?_)
            refine ev_getN fk_X11_228 dX11_judgedOfTrial_66 k21 (am_fvI (by decide)) ?_
            refine ev_aload_n dX11_judgedOfTrial_69 rfl ?_
            refine ev_eq (Option.bind_assoc _ _ _) ?_
            refine ev_getR fk_X11_33 (by decide) dX11_judgedOfTrial_70 kp0 (fun q22 k22 r22 => ?_)
            refine ev_getN fk_X11_225 dX11_judgedOfTrial_73 k22 (am_fvI (by decide)) ?_
            refine ev_iadd dX11_judgedOfTrial_76 ?_
            refine ev_eq am_ib ?_
            refine ev_if_ne (tgt := 83) dX11_judgedOfTrial_77 (by decide) (fun c23 => ?_) (fun c23 => ?_)
            · exact ev_leaf (am_wk (am_wk (am_wk (am_wk am_wn)))) (hJ19 x1.1)
            · refine ev_iinc (v := (x1.1 + 1)) dX11_judgedOfTrial_80 (am_lt rfl) rfl rfl ?_
              exact ev_leaf (am_wk (am_wk (am_wk (am_wk am_wn)))) (hJ19 (x1.1 + 1))
          · refine ev_iload_n dX11_judgedOfTrial_49 rfl ?_
            refine ev_aload_n dX11_judgedOfTrial_50 rfl ?_
            refine ev_eq (Option.bind_assoc _ _ _) ?_
            refine ev_getR fk_X11_33 (by decide) dX11_judgedOfTrial_51 kp0 (fun q24 k24 r24 => ?_)
            refine ev_getN fk_X11_225 dX11_judgedOfTrial_54 k24 (am_fvI (by decide)) ?_
            refine ev_iadd dX11_judgedOfTrial_57 ?_
            refine ev_istore_n dX11_judgedOfTrial_58 (am_lt rfl) ?_
            refine ev_goto (tgt := 83) dX11_judgedOfTrial_59 (by decide) ?_
            exact ev_leaf (am_wk (am_wk (am_wk (am_wk am_wn)))) (hJ19 (x1.1 + (σ18 q24 8)))
        · refine ev_iload_n dX11_judgedOfTrial_31 rfl ?_
          refine ev_aload_n dX11_judgedOfTrial_32 rfl ?_
          refine ev_eq (Option.bind_assoc _ _ _) ?_
          refine ev_getR fk_X11_33 (by decide) dX11_judgedOfTrial_33 kp0 (fun q25 k25 r25 => ?_)
          refine ev_getN fk_X11_228 dX11_judgedOfTrial_36 k25 (am_fvI (by decide)) ?_
          refine ev_iadd dX11_judgedOfTrial_39 ?_
          refine ev_istore_n dX11_judgedOfTrial_40 (am_lt rfl) ?_
          refine ev_goto (tgt := 83) dX11_judgedOfTrial_41 (by decide) ?_
          exact ev_leaf (am_wk (am_wk (am_wk (am_wk am_wn)))) (hJ19 (x1.1 + (σ18 q25 7)))
      · refine ev_iinc (v := (x1.2.1 + 1)) dX11_judgedOfTrial_83 (am_lt rfl) rfl rfl ?_
        refine ev_goto (tgt := 4) dX11_judgedOfTrial_86 (by decide) ?_
        exact ev_leaf (am_wk (am_wk (am_wk (am_wk am_wn)))) (hB1 (t19, (x1.2.1 + 1), σ18))
  · refine ev_iload_n dX11_judgedOfTrial_89 rfl ?_
    exact ev_iret dX11_judgedOfTrial_90 rfl rfl (by decide) (by decide) rfl
def f_X11_image (S : am_S) (p0 : Nat) : Option ((Nat → Nat → Int32)) :=
  ((am_rd S.2 p0 5 109).bind (fun q1 => ((am_rd S.2 p0 3 109).bind (fun q2 => ((f_X9_copyFrom S q1 q2).bind (fun σ3 => some (am_u2 σ3 p0 6 1)))))))
set_option maxRecDepth 20000 in
theorem t_X11_image {E : am_E} {l : Launch} (hl : l.stackTraces = false) {S : am_S} {p0 : Nat} (kp0 : am_kd p0 = 111) : am_M E l yX11_image (.code yX11_image cX11_image 1 none) 3 0 0 [.ref p0] S ((f_X11_image S p0).map (fun (x : Nat → Nat → Int32) => ((.inl none, (x, S.2)) : am_R))) := by
  refine am_M_of (w := fun (x : Nat → Nat → Int32) => ((.inl none, (x, S.2)) : am_R)) hl (by decide) (am_fc rfl am_fn) (Nat.le_of_ble_eq_true rfl) ?_
  show am_Ev E l (RX11, cX11_image, 1, none, [], am_rm 3 0 0) (fun b a s x => am_Z E 0 0 b a s ((fun (x : Nat → Nat → Int32) => ((.inl none, (x, S.2)) : am_R)) x)) 0 0 0 [some (.ref p0)] [] S (f_X11_image S p0)
  unfold f_X11_image
  refine ev_aload_n dX11_image_0 rfl ?_
  refine ev_getR fk_X11_27 (by decide) dX11_image_1 kp0 (fun q1 k1 r1 => ?_)
  refine ev_aload_n dX11_image_4 rfl ?_
  refine ev_getR fk_X11_20 (by decide) dX11_image_5 kp0 (fun q2 k2 r2 => ?_)
  refine ev_callWV (am_callVN (as := [.ref q2]) (o := q1) (st := []) cv_X11_97 dX11_image_8 k1 rfl (am_le rfl) (am_fit (by omega) (by decide) (by decide) (by decide)) (am_no1 (fun _ => ⟨_, rfl⟩)) (t_X9_copyFrom hl k1 k2)) (fun σ3 h3 => ?_)
  refine ev_aload_n dX11_image_11 rfl ?_
  refine ev_iconst (v := 1) dX11_image_12 (by decide) ?_
  refine ev_putB (by decide) (by decide) fk_X11_358 tyX11 tyX11_ok nmX11 rfl (by decide +kernel) (by decide) dX11_image_13 kp0 ?_
  exact ev_vret dX11_image_16 rfl (by decide) (by decide) rfl
def f_X11_back (S : am_S) (p0 : Nat) : Option (Int32 × (Nat → Nat → Int32)) :=
  (if (S.1 p0 6) = 0 then some (0, S.1) else ((am_rd S.2 p0 3 109).bind (fun q2 => ((am_rd S.2 p0 5 109).bind (fun q3 => ((f_X9_copyFrom S q2 q3).bind (fun σ4 => some (1, σ4))))))))
set_option maxRecDepth 20000 in
theorem t_X11_back {E : am_E} {l : Launch} (hl : l.stackTraces = false) {S : am_S} {p0 : Nat} (kp0 : am_kd p0 = 111) : am_M E l yX11_back (.code yX11_back cX11_back 1 (some .boolean)) 3 0 0 [.ref p0] S ((f_X11_back S p0).map (fun (x : Int32 × (Nat → Nat → Int32)) => ((.inl (some (.int x.1)), (x.2, S.2)) : am_R))) := by
  refine am_M_of (w := fun (x : Int32 × (Nat → Nat → Int32)) => ((.inl (some (.int x.1)), (x.2, S.2)) : am_R)) hl (by decide) (am_fc rfl am_fn) (Nat.le_of_ble_eq_true rfl) ?_
  show am_Ev E l (RX11, cX11_back, 1, (some .boolean), [], am_rm 3 0 0) (fun b a s x => am_Z E 0 0 b a s ((fun (x : Int32 × (Nat → Nat → Int32)) => ((.inl (some (.int x.1)), (x.2, S.2)) : am_R)) x)) 0 0 0 [some (.ref p0)] [] S (f_X11_back S p0)
  unfold f_X11_back
  refine ev_aload_n dX11_back_0 rfl ?_
  refine ev_get fk_X11_358 dX11_back_1 kp0 (am_fvI (by decide)) ?_
  refine ev_if_ne (tgt := 9) dX11_back_4 (by decide) (fun c1 => ?_) (fun c1 => ?_)
  · refine ev_aload_n dX11_back_9 rfl ?_
    refine ev_getR fk_X11_20 (by decide) dX11_back_10 kp0 (fun q2 k2 r2 => ?_)
    refine ev_aload_n dX11_back_13 rfl ?_
    refine ev_getR fk_X11_27 (by decide) dX11_back_14 kp0 (fun q3 k3 r3 => ?_)
    refine ev_callWV (am_callVN (as := [.ref q3]) (o := q2) (st := []) cv_X11_97 dX11_back_17 k2 rfl (am_le rfl) (am_fit (by omega) (by decide) (by decide) (by decide)) (am_no1 (fun _ => ⟨_, rfl⟩)) (t_X9_copyFrom hl k2 k3)) (fun σ4 h4 => ?_)
    refine ev_iconst (v := 1) dX11_back_20 (by decide) ?_
    exact ev_iret dX11_back_21 rfl (by decide) (by decide) (by decide) rfl
  · refine ev_iconst (v := 0) dX11_back_7 (by decide) ?_
    exact ev_iret dX11_back_8 rfl (by decide) (by decide) (by decide) rfl
def f_X9_wordsOfAll_b4 (S : am_S) (a0 : Nat) (x1 : Int32 × Int32) : Option ((Int32 × Int32) ⊕ (Int32)) :=
  (if x1.2 < (S.1 a0 0) then ((f_X9_wordsOf S a0 x1.2).bind (fun v3 => some (.inl ((x1.1 + v3), (x1.2 + 1))))) else some (.inr x1.1))
def f_X9_wordsOfAll (S : am_S) (p0 : Nat) : Option (Int32) :=
  ((am_loop (f_X9_wordsOfAll_b4 S p0) am_fuel (0, 0)).bind (fun t1 => some t1))
set_option maxRecDepth 20000 in
theorem t_X9_wordsOfAll {E : am_E} {l : Launch} (hl : l.stackTraces = false) {S : am_S} {p0 : Nat} (kp0 : am_kd p0 = 109) : am_M E l yX9_wordsOfAll (.code yX9_wordsOfAll cX9_wordsOfAll 3 (some .int)) 3 0 0 [.ref p0] S ((f_X9_wordsOfAll S p0).map (fun (v : Int32) => ((.inl (some (.int v)), S) : am_R))) := by
  refine am_M_of (w := fun (v : Int32) => ((.inl (some (.int v)), S) : am_R)) hl (by decide) (am_fc rfl am_fn) (Nat.le_of_ble_eq_true rfl) ?_
  show am_Ev E l (RX9, cX9_wordsOfAll, 3, (some .int), [], am_rm 3 0 0) (fun b a s x => am_Z E 0 0 b a s ((fun (v : Int32) => ((.inl (some (.int v)), S) : am_R)) x)) 0 0 0 [some (.ref p0), none, none] [] S (f_X9_wordsOfAll S p0)
  unfold f_X9_wordsOfAll
  refine ev_iconst (v := 0) dX9_wordsOfAll_0 (by decide) ?_
  refine ev_istore_n dX9_wordsOfAll_1 (am_lt rfl) ?_
  refine ev_iconst (v := 0) dX9_wordsOfAll_2 (by decide) ?_
  refine ev_istore_n dX9_wordsOfAll_3 (am_lt rfl) ?_
  refine ev_weak (am_wk (am_wk (am_wk am_wn))) (ev_loop 4 26 (fun x1 : Int32 × Int32 => [some (.ref p0), some (.int x1.1), some (.int x1.2)]) (fun t1 : Int32 => [none, some (.int t1), none]) (fun x1 => S) (fun t1 => S) (fun x1 G1 hB1 hE1 => ?_) (fun t1 => ?_) am_fuel (0, 0))
  · unfold f_X9_wordsOfAll_b4
    refine ev_iload_n dX9_wordsOfAll_4 rfl ?_
    refine ev_aload_n dX9_wordsOfAll_5 rfl ?_
    refine ev_get fk_X9_50 dX9_wordsOfAll_6 kp0 (am_fvI (by decide)) ?_
    refine ev_eq am_ib ?_
    refine ev_icmp_ge (tgt := 26) dX9_wordsOfAll_9 (by decide) (fun c4 => ?_) (fun c4 => ?_)
    · exact ev_leaf (am_wf (am_wk (am_wf am_wn))) (hE1 x1.1)
    · refine ev_iload_n dX9_wordsOfAll_12 rfl ?_
      refine ev_aload_n dX9_wordsOfAll_13 rfl ?_
      refine ev_iload_n dX9_wordsOfAll_14 rfl ?_
      refine ev_eq (Option.bind_assoc _ _ _) ?_
      refine ev_callP (am_callV (as := [.int x1.2]) (o := p0) (st := [.int x1.1]) cv_X9_93 dX9_wordsOfAll_15 kp0 rfl (am_le rfl) (am_fit (by omega) (by decide) (by decide) (by decide)) (t_X9_wordsOf hl kp0)) (fun v5 h5 => ?_)
      refine ev_iadd dX9_wordsOfAll_18 ?_
      refine ev_istore_n dX9_wordsOfAll_19 (am_lt rfl) ?_
      refine ev_iinc (v := (x1.2 + 1)) dX9_wordsOfAll_20 (am_lt rfl) rfl rfl ?_
      refine ev_goto (tgt := 4) dX9_wordsOfAll_23 (by decide) ?_
      exact ev_leaf (am_wk (am_wk (am_wk am_wn))) (hB1 ((x1.1 + v5), (x1.2 + 1)))
  · refine ev_iload_n dX9_wordsOfAll_26 rfl ?_
    exact ev_iret dX9_wordsOfAll_27 rfl rfl (by decide) (by decide) rfl
def f_X9_coinsOfAll_b4 (S : am_S) (a0 : Nat) (x1 : Int32 × Int32) : Option ((Int32 × Int32) ⊕ (Int32)) :=
  (if x1.2 < (S.1 a0 0) then (if x1.2 < 8 then ((am_rd S.2 a0 9 1).bind (fun q4 => ((am_ld S.1 q4 x1.2).bind (fun v5 => some (.inl ((x1.1 + v5), (x1.2 + 1))))))) else some (.inr x1.1)) else some (.inr x1.1))
def f_X9_coinsOfAll (S : am_S) (p0 : Nat) : Option (Int32) :=
  ((am_loop (f_X9_coinsOfAll_b4 S p0) am_fuel (0, 0)).bind (fun t1 => some t1))
set_option maxRecDepth 20000 in
theorem t_X9_coinsOfAll {E : am_E} {l : Launch} (hl : l.stackTraces = false) {S : am_S} {p0 : Nat} (kp0 : am_kd p0 = 109) : am_M E l yX9_coinsOfAll (.code yX9_coinsOfAll cX9_coinsOfAll 3 (some .int)) 0 0 0 [.ref p0] S ((f_X9_coinsOfAll S p0).map (fun (v : Int32) => ((.inl (some (.int v)), S) : am_R))) := by
  refine am_M_of (w := fun (v : Int32) => ((.inl (some (.int v)), S) : am_R)) hl (by decide) (am_fc rfl am_fn) (Nat.le_of_ble_eq_true rfl) ?_
  show am_Ev E l (RX9, cX9_coinsOfAll, 3, (some .int), [], am_rm 0 0 0) (fun b a s x => am_Z E 0 0 b a s ((fun (v : Int32) => ((.inl (some (.int v)), S) : am_R)) x)) 0 0 0 [some (.ref p0), none, none] [] S (f_X9_coinsOfAll S p0)
  unfold f_X9_coinsOfAll
  refine ev_iconst (v := 0) dX9_coinsOfAll_0 (by decide) ?_
  refine ev_istore_n dX9_coinsOfAll_1 (am_lt rfl) ?_
  refine ev_iconst (v := 0) dX9_coinsOfAll_2 (by decide) ?_
  refine ev_istore_n dX9_coinsOfAll_3 (am_lt rfl) ?_
  refine ev_weak (am_wk (am_wk (am_wk am_wn))) (ev_loop 4 33 (fun x1 : Int32 × Int32 => [some (.ref p0), some (.int x1.1), some (.int x1.2)]) (fun t1 : Int32 => [none, some (.int t1), none]) (fun x1 => S) (fun t1 => S) (fun x1 G1 hB1 hE1 => ?_) (fun t1 => ?_) am_fuel (0, 0))
  · unfold f_X9_coinsOfAll_b4
    refine ev_iload_n dX9_coinsOfAll_4 rfl ?_
    refine ev_aload_n dX9_coinsOfAll_5 rfl ?_
    refine ev_get fk_X9_50 dX9_coinsOfAll_6 kp0 (am_fvI (by decide)) ?_
    refine ev_eq am_ib ?_
    refine ev_icmp_ge (tgt := 33) dX9_coinsOfAll_9 (by decide) (fun c6 => ?_) (fun c6 => ?_)
    · exact ev_leaf (am_wf (am_wk (am_wf am_wn))) (hE1 x1.1)
    · refine ev_iload_n dX9_coinsOfAll_12 rfl ?_
      refine ev_bipush (v := 8) dX9_coinsOfAll_13 (by decide) ?_
      refine ev_eq am_ib ?_
      refine ev_icmp_ge (tgt := 33) dX9_coinsOfAll_15 (by decide) (fun c7 => ?_) (fun c7 => ?_)
      · exact ev_leaf (am_wf (am_wk (am_wf am_wn))) (hE1 x1.1)
      · refine ev_iload_n dX9_coinsOfAll_18 rfl ?_
        refine ev_aload_n dX9_coinsOfAll_19 rfl ?_
        refine ev_eq (Option.bind_assoc _ _ _) ?_
        refine ev_getR fk_X9_21 (by decide) dX9_coinsOfAll_20 kp0 (fun q8 k8 r8 => ?_)
        refine ev_iload_n dX9_coinsOfAll_23 rfl ?_
        refine ev_eq (Option.bind_assoc _ _ _) ?_
        refine ev_iald dX9_coinsOfAll_24 k8 (fun v9 h9 => ?_)
        refine ev_iadd dX9_coinsOfAll_25 ?_
        refine ev_istore_n dX9_coinsOfAll_26 (am_lt rfl) ?_
        refine ev_iinc (v := (x1.2 + 1)) dX9_coinsOfAll_27 (am_lt rfl) rfl rfl ?_
        refine ev_goto (tgt := 4) dX9_coinsOfAll_30 (by decide) ?_
        exact ev_leaf (am_wk (am_wk (am_wk am_wn))) (hB1 ((x1.1 + v9), (x1.2 + 1)))
  · refine ev_iload_n dX9_coinsOfAll_33 rfl ?_
    exact ev_iret dX9_coinsOfAll_34 rfl rfl (by decide) (by decide) rfl
def f_X9_minutesOfAll_b14 (S : am_S) (a0 : Nat) (a2 : Int32) (x3 : Int32 × Int32) : Option ((Int32 × Int32) ⊕ (Int32)) :=
  (if x3.2 < (S.1 a0 1) then ((f_X9_wordFor S a0 a2 x3.2).bind (fun v5 => ((f_X11_minutesOf v5).bind (fun v6 => some (.inl ((x3.1 + v6), (x3.2 + 1))))))) else some (.inr x3.1))
def f_X9_minutesOfAll_b4 (S : am_S) (a0 : Nat) (x1 : Int32 × Int32) : Option ((Int32 × Int32) ⊕ (Int32)) :=
  (if x1.2 < (S.1 a0 0) then ((am_loop (f_X9_minutesOfAll_b14 S a0 x1.2) am_fuel (x1.1, 0)).bind (fun t3 => some (.inl (t3, (x1.2 + 1))))) else some (.inr x1.1))
def f_X9_minutesOfAll (S : am_S) (p0 : Nat) : Option (Int32) :=
  ((am_loop (f_X9_minutesOfAll_b4 S p0) am_fuel (0, 0)).bind (fun t1 => some t1))
set_option maxRecDepth 20000 in
theorem t_X9_minutesOfAll {E : am_E} {l : Launch} (hl : l.stackTraces = false) {S : am_S} {p0 : Nat} (kp0 : am_kd p0 = 109) : am_M E l yX9_minutesOfAll (.code yX9_minutesOfAll cX9_minutesOfAll 4 (some .int)) 2 0 0 [.ref p0] S ((f_X9_minutesOfAll S p0).map (fun (v : Int32) => ((.inl (some (.int v)), S) : am_R))) := by
  refine am_M_of (w := fun (v : Int32) => ((.inl (some (.int v)), S) : am_R)) hl (by decide) (am_fc rfl am_fn) (Nat.le_of_ble_eq_true rfl) ?_
  show am_Ev E l (RX9, cX9_minutesOfAll, 4, (some .int), [], am_rm 2 0 0) (fun b a s x => am_Z E 0 0 b a s ((fun (v : Int32) => ((.inl (some (.int v)), S) : am_R)) x)) 0 0 0 [some (.ref p0), none, none, none] [] S (f_X9_minutesOfAll S p0)
  unfold f_X9_minutesOfAll
  refine ev_iconst (v := 0) dX9_minutesOfAll_0 (by decide) ?_
  refine ev_istore_n dX9_minutesOfAll_1 (am_lt rfl) ?_
  refine ev_iconst (v := 0) dX9_minutesOfAll_2 (by decide) ?_
  refine ev_istore_n dX9_minutesOfAll_3 (am_lt rfl) ?_
  refine ev_weak (am_wk (am_wk (am_wk (am_wf am_wn)))) (ev_loop 4 46 (fun x1 : Int32 × Int32 => [some (.ref p0), some (.int x1.1), some (.int x1.2), none]) (fun t1 : Int32 => [none, some (.int t1), none, none]) (fun x1 => S) (fun t1 => S) (fun x1 G1 hB1 hE1 => ?_) (fun t1 => ?_) am_fuel (0, 0))
  · unfold f_X9_minutesOfAll_b4
    refine ev_iload_n dX9_minutesOfAll_4 rfl ?_
    refine ev_aload_n dX9_minutesOfAll_5 rfl ?_
    refine ev_get fk_X9_50 dX9_minutesOfAll_6 kp0 (am_fvI (by decide)) ?_
    refine ev_eq am_ib ?_
    refine ev_icmp_ge (tgt := 46) dX9_minutesOfAll_9 (by decide) (fun c10 => ?_) (fun c10 => ?_)
    · exact ev_leaf (am_wf (am_wk (am_wf (am_wf am_wn)))) (hE1 x1.1)
    · refine ev_iconst (v := 0) dX9_minutesOfAll_12 (by decide) ?_
      refine ev_istore_n dX9_minutesOfAll_13 (am_lt rfl) ?_
      refine ev_eq (Option.bind_assoc _ _ _) ?_
      refine ev_weak (am_wk (am_wk (am_wk (am_wk am_wn)))) (ev_loop 14 40 (fun x11 : Int32 × Int32 => [some (.ref p0), some (.int x11.1), some (.int x1.2), some (.int x11.2)]) (fun t11 : Int32 => [some (.ref p0), some (.int t11), some (.int x1.2), none]) (fun x11 => S) (fun t11 => S) (fun x11 G11 hB11 hE11 => ?_) (fun t11 => ?_) am_fuel (x1.1, 0))
      · unfold f_X9_minutesOfAll_b14
        refine ev_iload_n dX9_minutesOfAll_14 rfl ?_
        refine ev_aload_n dX9_minutesOfAll_15 rfl ?_
        refine ev_get fk_X9_54 dX9_minutesOfAll_16 kp0 (am_fvI (by decide)) ?_
        refine ev_eq am_ib ?_
        refine ev_icmp_ge (tgt := 40) dX9_minutesOfAll_19 (by decide) (fun c15 => ?_) (fun c15 => ?_)
        · exact ev_leaf (am_wk (am_wk (am_wk (am_wf am_wn)))) (hE11 x11.1)
        · refine ev_iload_n dX9_minutesOfAll_22 rfl ?_
          refine ev_aload_n dX9_minutesOfAll_23 rfl ?_
          refine ev_iload_n dX9_minutesOfAll_24 rfl ?_
          refine ev_iload_n dX9_minutesOfAll_25 rfl ?_
          refine ev_eq (Option.bind_assoc _ _ _) ?_
          refine ev_callP (am_callV (as := [.int x1.2, .int x11.2]) (o := p0) (st := [.int x11.1]) cv_X9_89 dX9_minutesOfAll_26 kp0 rfl (am_le rfl) (am_fit (by omega) (by decide) (by decide) (by decide)) (t_X9_wordFor hl kp0)) (fun v16 h16 => ?_)
          refine ev_eq (Option.bind_assoc _ _ _) ?_
          refine ev_callP (am_callSN (as := [.int v16]) (st := [.int x11.1]) ct_X9_97 dX9_minutesOfAll_29 rfl (am_le rfl) (am_fit (by omega) (by decide) (by decide) (by decide)) (am_no1 (fun _ => ⟨_, rfl⟩)) (t_X11_minutesOf hl )) (fun v17 h17 => ?_)
          refine ev_iadd dX9_minutesOfAll_32 ?_
          refine ev_istore_n dX9_minutesOfAll_33 (am_lt rfl) ?_
          refine ev_iinc (v := (x11.2 + 1)) dX9_minutesOfAll_34 (am_lt rfl) rfl rfl ?_
          refine ev_goto (tgt := 14) dX9_minutesOfAll_37 (by decide) ?_
          exact ev_leaf (am_wk (am_wk (am_wk (am_wk am_wn)))) (hB11 ((x11.1 + v17), (x11.2 + 1)))
      · refine ev_iinc (v := (x1.2 + 1)) dX9_minutesOfAll_40 (am_lt rfl) rfl rfl ?_
        refine ev_goto (tgt := 4) dX9_minutesOfAll_43 (by decide) ?_
        exact ev_leaf (am_wk (am_wk (am_wk (am_wf am_wn)))) (hB1 (t11, (x1.2 + 1)))
  · refine ev_iload_n dX9_minutesOfAll_46 rfl ?_
    exact ev_iret dX9_minutesOfAll_47 rfl rfl (by decide) (by decide) rfl
def f_X11_count (S : am_S) (p0 : Nat) (p1 : Int32) : Option (Int32) :=
  (if p1 = 0 then ((am_rd S.2 p0 3 109).bind (fun q2 => some (S.1 q2 0))) else (if p1 = 1 then ((am_rd S.2 p0 3 109).bind (fun q3 => some (S.1 q3 1))) else (if p1 = 2 then ((am_rd S.2 p0 3 109).bind (fun q4 => some (S.1 q4 2))) else (if p1 = 3 then ((am_rd S.2 p0 3 109).bind (fun q5 => ((am_rd S.2 q5 14 101).bind (fun q6 => some (S.1 q6 0))))) else (if p1 = 4 then ((am_rd S.2 p0 3 109).bind (fun q7 => ((am_rd S.2 q7 15 106).bind (fun q8 => some (S.1 q8 0))))) else (if p1 = 5 then ((am_rd S.2 p0 3 109).bind (fun q9 => ((f_X9_wordsOfAll S q9).bind (fun v10 => some v10)))) else (if p1 = 6 then ((am_rd S.2 p0 3 109).bind (fun q11 => ((f_X9_coinsOfAll S q11).bind (fun v12 => some v12)))) else (if p1 = 7 then ((am_rd S.2 p0 3 109).bind (fun q13 => some (S.1 q13 3))) else (if p1 = 8 then ((am_rd S.2 p0 3 109).bind (fun q14 => some (S.1 q14 4))) else (if p1 = 9 then ((am_rd S.2 p0 3 109).bind (fun q15 => some (S.1 q15 5))) else (if p1 = 10 then ((am_rd S.2 p0 3 109).bind (fun q16 => ((f_X9_minutesOfAll S q16).bind (fun v17 => some v17)))) else some (-1))))))))))))
set_option maxRecDepth 20000 in
theorem t_X11_count {E : am_E} {l : Launch} (hl : l.stackTraces = false) {S : am_S} {p0 : Nat} {p1 : Int32} (kp0 : am_kd p0 = 111) : am_M E l yX11_count (.code yX11_count cX11_count 2 (some .int)) 4 0 0 [.ref p0, .int p1] S ((f_X11_count S p0 p1).map (fun (v : Int32) => ((.inl (some (.int v)), S) : am_R))) := by
  refine am_M_of (w := fun (v : Int32) => ((.inl (some (.int v)), S) : am_R)) hl (by decide) (am_fc rfl (am_fc rfl am_fn)) (Nat.le_of_ble_eq_true rfl) ?_
  show am_Ev E l (RX11, cX11_count, 2, (some .int), [], am_rm 4 0 0) (fun b a s x => am_Z E 0 0 b a s ((fun (v : Int32) => ((.inl (some (.int v)), S) : am_R)) x)) 0 0 0 [some (.ref p0), some (.int p1)] [] S (f_X11_count S p0 p1)
  unfold f_X11_count
  refine ev_iload_n dX11_count_0 rfl ?_
  refine ev_split (fun c1_0 => ?_) (fun c1_0 => ?_)
  · refine ev_swI (tgt := 60) dX11_count_1 (by rw [c1_0]; decide) (by rw [c1_0]; decide) (by rw [c1_0]; rfl) (by decide) ?_
    refine ev_aload_n dX11_count_60 rfl ?_
    refine ev_getR fk_X11_20 (by decide) dX11_count_61 kp0 (fun q2 k2 r2 => ?_)
    refine ev_getN fk_X11_333 dX11_count_64 k2 (am_fvI (by decide)) ?_
    exact ev_iret dX11_count_67 rfl rfl (by decide) (by decide) rfl
  refine ev_split (fun c1_1 => ?_) (fun c1_1 => ?_)
  · refine ev_swI (tgt := 68) dX11_count_1 (by rw [c1_1]; decide) (by rw [c1_1]; decide) (by rw [c1_1]; rfl) (by decide) ?_
    refine ev_aload_n dX11_count_68 rfl ?_
    refine ev_getR fk_X11_20 (by decide) dX11_count_69 kp0 (fun q3 k3 r3 => ?_)
    refine ev_getN fk_X11_362 dX11_count_72 k3 (am_fvI (by decide)) ?_
    exact ev_iret dX11_count_75 rfl rfl (by decide) (by decide) rfl
  refine ev_split (fun c1_2 => ?_) (fun c1_2 => ?_)
  · refine ev_swI (tgt := 76) dX11_count_1 (by rw [c1_2]; decide) (by rw [c1_2]; decide) (by rw [c1_2]; rfl) (by decide) ?_
    refine ev_aload_n dX11_count_76 rfl ?_
    refine ev_getR fk_X11_20 (by decide) dX11_count_77 kp0 (fun q4 k4 r4 => ?_)
    refine ev_getN fk_X11_112 dX11_count_80 k4 (am_fvI (by decide)) ?_
    exact ev_iret dX11_count_83 rfl rfl (by decide) (by decide) rfl
  refine ev_split (fun c1_3 => ?_) (fun c1_3 => ?_)
  · refine ev_swI (tgt := 84) dX11_count_1 (by rw [c1_3]; decide) (by rw [c1_3]; decide) (by rw [c1_3]; rfl) (by decide) ?_
    refine ev_aload_n dX11_count_84 rfl ?_
    refine ev_getR fk_X11_20 (by decide) dX11_count_85 kp0 (fun q5 k5 r5 => ?_)
    refine ev_getRN fk_X11_123 (by decide) dX11_count_88 k5 (fun q6 k6 r6 => ?_)
    refine ev_getN fk_X11_135 dX11_count_91 k6 (am_fvI (by decide)) ?_
    exact ev_iret dX11_count_94 rfl rfl (by decide) (by decide) rfl
  refine ev_split (fun c1_4 => ?_) (fun c1_4 => ?_)
  · refine ev_swI (tgt := 95) dX11_count_1 (by rw [c1_4]; decide) (by rw [c1_4]; decide) (by rw [c1_4]; rfl) (by decide) ?_
    refine ev_aload_n dX11_count_95 rfl ?_
    refine ev_getR fk_X11_20 (by decide) dX11_count_96 kp0 (fun q7 k7 r7 => ?_)
    refine ev_getRN fk_X11_201 (by decide) dX11_count_99 k7 (fun q8 k8 r8 => ?_)
    refine ev_getN fk_X11_208 dX11_count_102 k8 (am_fvI (by decide)) ?_
    exact ev_iret dX11_count_105 rfl rfl (by decide) (by decide) rfl
  refine ev_split (fun c1_5 => ?_) (fun c1_5 => ?_)
  · refine ev_swI (tgt := 106) dX11_count_1 (by rw [c1_5]; decide) (by rw [c1_5]; decide) (by rw [c1_5]; rfl) (by decide) ?_
    refine ev_aload_n dX11_count_106 rfl ?_
    refine ev_getR fk_X11_20 (by decide) dX11_count_107 kp0 (fun q9 k9 r9 => ?_)
    refine ev_callP (am_callVN (as := []) (o := q9) (st := []) cv_X11_365 dX11_count_110 k9 rfl (am_le rfl) (am_fit (by omega) (by decide) (by decide) (by decide)) (am_no1 (fun _ => ⟨_, rfl⟩)) (t_X9_wordsOfAll hl k9)) (fun v10 h10 => ?_)
    exact ev_iret dX11_count_113 rfl rfl (by decide) (by decide) rfl
  refine ev_split (fun c1_6 => ?_) (fun c1_6 => ?_)
  · refine ev_swI (tgt := 114) dX11_count_1 (by rw [c1_6]; decide) (by rw [c1_6]; decide) (by rw [c1_6]; rfl) (by decide) ?_
    refine ev_aload_n dX11_count_114 rfl ?_
    refine ev_getR fk_X11_20 (by decide) dX11_count_115 kp0 (fun q11 k11 r11 => ?_)
    refine ev_callP (am_callVN (as := []) (o := q11) (st := []) cv_X11_369 dX11_count_118 k11 rfl (am_le rfl) (am_fit (by omega) (by decide) (by decide) (by decide)) (am_no1 (fun _ => ⟨_, rfl⟩)) (t_X9_coinsOfAll hl k11)) (fun v12 h12 => ?_)
    exact ev_iret dX11_count_121 rfl rfl (by decide) (by decide) rfl
  refine ev_split (fun c1_7 => ?_) (fun c1_7 => ?_)
  · refine ev_swI (tgt := 122) dX11_count_1 (by rw [c1_7]; decide) (by rw [c1_7]; decide) (by rw [c1_7]; rfl) (by decide) ?_
    refine ev_aload_n dX11_count_122 rfl ?_
    refine ev_getR fk_X11_20 (by decide) dX11_count_123 kp0 (fun q13 k13 r13 => ?_)
    refine ev_getN fk_X11_242 dX11_count_126 k13 (am_fvI (by decide)) ?_
    exact ev_iret dX11_count_129 rfl rfl (by decide) (by decide) rfl
  refine ev_split (fun c1_8 => ?_) (fun c1_8 => ?_)
  · refine ev_swI (tgt := 130) dX11_count_1 (by rw [c1_8]; decide) (by rw [c1_8]; decide) (by rw [c1_8]; rfl) (by decide) ?_
    refine ev_aload_n dX11_count_130 rfl ?_
    refine ev_getR fk_X11_20 (by decide) dX11_count_131 kp0 (fun q14 k14 r14 => ?_)
    refine ev_getN fk_X11_372 dX11_count_134 k14 (am_fvI (by decide)) ?_
    exact ev_iret dX11_count_137 rfl rfl (by decide) (by decide) rfl
  refine ev_split (fun c1_9 => ?_) (fun c1_9 => ?_)
  · refine ev_swI (tgt := 138) dX11_count_1 (by rw [c1_9]; decide) (by rw [c1_9]; decide) (by rw [c1_9]; rfl) (by decide) ?_
    refine ev_aload_n dX11_count_138 rfl ?_
    refine ev_getR fk_X11_20 (by decide) dX11_count_139 kp0 (fun q15 k15 r15 => ?_)
    refine ev_getN fk_X11_375 dX11_count_142 k15 (am_fvI (by decide)) ?_
    exact ev_iret dX11_count_145 rfl rfl (by decide) (by decide) rfl
  refine ev_split (fun c1_10 => ?_) (fun c1_10 => ?_)
  · refine ev_swI (tgt := 146) dX11_count_1 (by rw [c1_10]; decide) (by rw [c1_10]; decide) (by rw [c1_10]; rfl) (by decide) ?_
    refine ev_aload_n dX11_count_146 rfl ?_
    refine ev_getR fk_X11_20 (by decide) dX11_count_147 kp0 (fun q16 k16 r16 => ?_)
    refine ev_callP (am_callVN (as := []) (o := q16) (st := []) cv_X11_378 dX11_count_150 k16 rfl (am_le rfl) (am_fit (by omega) (by decide) (by decide) (by decide)) (am_no1 (fun _ => ⟨_, rfl⟩)) (t_X9_minutesOfAll hl k16)) (fun v17 h17 => ?_)
    exact ev_iret dX11_count_153 rfl rfl (by decide) (by decide) rfl
  refine ev_swO (tgt := 154) dX11_count_1 (by have z1_0 := am_neI c1_0 (z := 0) (by decide); have z1_1 := am_neI c1_1 (z := 1) (by decide); have z1_2 := am_neI c1_2 (z := 2) (by decide); have z1_3 := am_neI c1_3 (z := 3) (by decide); have z1_4 := am_neI c1_4 (z := 4) (by decide); have z1_5 := am_neI c1_5 (z := 5) (by decide); have z1_6 := am_neI c1_6 (z := 6) (by decide); have z1_7 := am_neI c1_7 (z := 7) (by decide); have z1_8 := am_neI c1_8 (z := 8) (by decide); have z1_9 := am_neI c1_9 (z := 9) (by decide); have z1_10 := am_neI c1_10 (z := 10) (by decide); omega) (by decide) ?_
  refine ev_iconst (v := (-1)) dX11_count_154 (by decide) ?_
  exact ev_iret dX11_count_155 rfl rfl (by decide) (by decide) rfl
def f_X12_thrown (S : am_S) (p0 : Nat) : Option (Int32) :=
  some (S.1 p0 0)
set_option maxRecDepth 20000 in
theorem t_X12_thrown {E : am_E} {l : Launch} (hl : l.stackTraces = false) {S : am_S} {p0 : Nat} (kp0 : am_kd p0 = 112) : am_M E l yX12_thrown (.code yX12_thrown cX12_thrown 1 (some .int)) 0 0 0 [.ref p0] S ((f_X12_thrown S p0).map (fun (v : Int32) => ((.inl (some (.int v)), S) : am_R))) := by
  refine am_M_of (w := fun (v : Int32) => ((.inl (some (.int v)), S) : am_R)) hl (by decide) (am_fc rfl am_fn) (Nat.le_of_ble_eq_true rfl) ?_
  show am_Ev E l (RX12, cX12_thrown, 1, (some .int), [], am_rm 0 0 0) (fun b a s x => am_Z E 0 0 b a s ((fun (v : Int32) => ((.inl (some (.int v)), S) : am_R)) x)) 0 0 0 [some (.ref p0)] [] S (f_X12_thrown S p0)
  unfold f_X12_thrown
  refine ev_aload_n dX12_thrown_0 rfl ?_
  refine ev_get fk_X12_3 dX12_thrown_1 kp0 (am_fvI (by decide)) ?_
  exact ev_iret dX12_thrown_4 rfl rfl (by decide) (by decide) rfl
def f_X12_throwsIf (S : am_S) (p0 : Nat) (p1 : Int32) (p2 : Int32) : Option (Int32 × (Nat → Nat → Int32)) :=
  ((if p1 = 0 then some S.1 else some (am_u2 S.1 p0 0 p2)).bind (fun t1 => (if p1 = 0 ∨ p1 = 1 then some (p1, t1) else none)))
set_option maxRecDepth 20000 in
theorem t_X12_throwsIf {E : am_E} {l : Launch} (hl : l.stackTraces = false) {S : am_S} {p0 : Nat} {p1 : Int32} {p2 : Int32} (kp0 : am_kd p0 = 112) : am_M E l yX12_throwsIf (.code yX12_throwsIf cX12_throwsIf 3 (some .boolean)) 0 0 0 [.ref p0, .int p1, .int p2] S ((f_X12_throwsIf S p0 p1 p2).map (fun (x : Int32 × (Nat → Nat → Int32)) => ((.inl (some (.int x.1)), (x.2, S.2)) : am_R))) := by
  refine am_M_of (w := fun (x : Int32 × (Nat → Nat → Int32)) => ((.inl (some (.int x.1)), (x.2, S.2)) : am_R)) hl (by decide) (am_fc rfl (am_fc rfl (am_fc rfl am_fn))) (Nat.le_of_ble_eq_true rfl) ?_
  show am_Ev E l (RX12, cX12_throwsIf, 3, (some .boolean), [], am_rm 0 0 0) (fun b a s x => am_Z E 0 0 b a s ((fun (x : Int32 × (Nat → Nat → Int32)) => ((.inl (some (.int x.1)), (x.2, S.2)) : am_R)) x)) 0 0 0 [some (.ref p0), some (.int p1), some (.int p2)] [] S (f_X12_throwsIf S p0 p1 p2)
  unfold f_X12_throwsIf
  refine ev_iload_n dX12_throwsIf_0 rfl ?_
  refine ev_reg (cs' := 0) (sl' := 0) 9 (fun t1 : (Nat → Nat → Int32) => [none, some (.int p1), none]) (fun t1 => []) (fun t1 => (t1, S.2)) (fun hJ1 => ?_) (fun t1 => ?_)
  · refine ev_eq am_ib ?_
    refine ev_if_eq (tgt := 9) dX12_throwsIf_1 (by decide) (fun c1 => ?_) (fun c1 => ?_)
    · exact ev_leaf (am_wf (am_wk (am_wf am_wn))) (hJ1 S.1)
    · refine ev_aload_n dX12_throwsIf_4 rfl ?_
      refine ev_iload_n dX12_throwsIf_5 rfl ?_
      refine ev_putI fk_X12_3 tyX12 tyX12_ok nmX12 rfl (by decide +kernel) (by decide) dX12_throwsIf_6 kp0 ?_
      exact ev_leaf (am_wf (am_wk (am_wf am_wn))) (hJ1 (am_u2 S.1 p0 0 p2))
  · refine ev_iload_n dX12_throwsIf_9 rfl ?_
    refine ev_split (fun c2 => ?_) (fun _ => ?_)
    · exact ev_iret dX12_throwsIf_10 rfl (am_nb c2) (by decide) (by decide) rfl
    · exact ev_none
def f_X12_in (p0 : Int32) (p1 : Int32) (p2 : Int32) : Option (Int32) :=
  (if p0 < p1 then some 0 else (if p2 < p0 then some 0 else some 1))
set_option maxRecDepth 20000 in
theorem t_X12_in {E : am_E} {l : Launch} (hl : l.stackTraces = false) {S : am_S} {p0 : Int32} {p1 : Int32} {p2 : Int32}  : am_M E l yX12_in (.code yX12_in cX12_in 3 (some .boolean)) 0 0 0 [.int p0, .int p1, .int p2] S ((f_X12_in p0 p1 p2).map (fun (v : Int32) => ((.inl (some (.int v)), S) : am_R))) := by
  refine am_M_of (w := fun (v : Int32) => ((.inl (some (.int v)), S) : am_R)) hl (by decide) (am_fc rfl (am_fc rfl (am_fc rfl am_fn))) (Nat.le_of_ble_eq_true rfl) ?_
  show am_Ev E l (RX12, cX12_in, 3, (some .boolean), [], am_rm 0 0 0) (fun b a s x => am_Z E 0 0 b a s ((fun (v : Int32) => ((.inl (some (.int v)), S) : am_R)) x)) 0 0 0 [some (.int p0), some (.int p1), some (.int p2)] [] S (f_X12_in p0 p1 p2)
  unfold f_X12_in
  refine ev_iload_n dX12_in_0 rfl ?_
  refine ev_iload_n dX12_in_1 rfl ?_
  refine ev_icmp_lt (tgt := 14) dX12_in_2 (by decide) (fun c1 => ?_) (fun c1 => ?_)
  · refine ev_iconst (v := 0) dX12_in_14 (by decide) ?_
    exact ev_iret dX12_in_15 rfl (by decide) (by decide) (by decide) rfl
  · refine ev_iload_n dX12_in_5 rfl ?_
    refine ev_iload_n dX12_in_6 rfl ?_
    refine ev_icmp_gt (tgt := 14) dX12_in_7 (by decide) (fun c2 => ?_) (fun c2 => ?_)
    · refine ev_iconst (v := 0) dX12_in_14 (by decide) ?_
      exact ev_iret dX12_in_15 rfl (by decide) (by decide) (by decide) rfl
    · refine ev_iconst (v := 1) dX12_in_10 (by decide) ?_
      refine ev_goto (tgt := 15) dX12_in_11 (by decide) ?_
      exact ev_iret dX12_in_15 rfl (by decide) (by decide) (by decide) rfl
def f_X12_has (p0 : Int32) (p1 : Int32) : Option (Int32) :=
  (if ((p0 >>> (p1 &&& 31)) &&& 1) = 1 then some 1 else some 0)
set_option maxRecDepth 20000 in
theorem t_X12_has {E : am_E} {l : Launch} (hl : l.stackTraces = false) {S : am_S} {p0 : Int32} {p1 : Int32}  : am_M E l yX12_has (.code yX12_has cX12_has 2 (some .boolean)) 0 0 0 [.int p0, .int p1] S ((f_X12_has p0 p1).map (fun (v : Int32) => ((.inl (some (.int v)), S) : am_R))) := by
  refine am_M_of (w := fun (v : Int32) => ((.inl (some (.int v)), S) : am_R)) hl (by decide) (am_fc rfl (am_fc rfl am_fn)) (Nat.le_of_ble_eq_true rfl) ?_
  show am_Ev E l (RX12, cX12_has, 2, (some .boolean), [], am_rm 0 0 0) (fun b a s x => am_Z E 0 0 b a s ((fun (v : Int32) => ((.inl (some (.int v)), S) : am_R)) x)) 0 0 0 [some (.int p0), some (.int p1)] [] S (f_X12_has p0 p1)
  unfold f_X12_has
  refine ev_iload_n dX12_has_0 rfl ?_
  refine ev_iload_n dX12_has_1 rfl ?_
  refine ev_ishr dX12_has_2 ?_
  refine ev_iconst (v := 1) dX12_has_3 (by decide) ?_
  refine ev_iand dX12_has_4 ?_
  refine ev_iconst (v := 1) dX12_has_5 (by decide) ?_
  refine ev_icmp_ne (tgt := 13) dX12_has_6 (by decide) (fun c1 => ?_) (fun c1 => ?_)
  · refine ev_iconst (v := 0) dX12_has_13 (by decide) ?_
    exact ev_iret dX12_has_14 rfl (by decide) (by decide) (by decide) rfl
  · refine ev_iconst (v := 1) dX12_has_9 (by decide) ?_
    refine ev_goto (tgt := 14) dX12_has_10 (by decide) ?_
    exact ev_iret dX12_has_14 rfl (by decide) (by decide) (by decide) rfl
def f_X12_image_b7 (S : am_S) (a0 : Nat) (x1 : Int32 × (Nat → Nat → Int32)) : Option ((Int32 × (Nat → Nat → Int32)) ⊕ ((Nat → Nat → Int32))) :=
  (if x1.1 < 1023 then ((am_rd S.2 a0 2 1).bind (fun q3 => ((am_rd S.2 a0 1 1).bind (fun q4 => ((am_ld x1.2 q4 x1.1).bind (fun v5 => ((am_st x1.2 q3 x1.1 v5).bind (fun σ6 => some (.inl ((x1.1 + 1), σ6)))))))))) else some (.inr x1.2))
def f_X12_image (S : am_S) (p0 : Nat) : Option ((Nat → Nat → Int32)) :=
  ((am_loop (f_X12_image_b7 ((am_u2 S.1 p0 0 0), S.2) p0) am_fuel (0, (am_u2 S.1 p0 0 0))).bind (fun t1 => some (am_u2 t1 p0 4 1)))
set_option maxRecDepth 20000 in
theorem t_X12_image {E : am_E} {l : Launch} (hl : l.stackTraces = false) {S : am_S} {p0 : Nat} (kp0 : am_kd p0 = 112) : am_M E l yX12_image (.code yX12_image cX12_image 2 none) 0 0 0 [.ref p0] S ((f_X12_image S p0).map (fun (x : Nat → Nat → Int32) => ((.inl none, (x, S.2)) : am_R))) := by
  refine am_M_of (w := fun (x : Nat → Nat → Int32) => ((.inl none, (x, S.2)) : am_R)) hl (by decide) (am_fc rfl am_fn) (Nat.le_of_ble_eq_true rfl) ?_
  show am_Ev E l (RX12, cX12_image, 2, none, [], am_rm 0 0 0) (fun b a s x => am_Z E 0 0 b a s ((fun (x : Nat → Nat → Int32) => ((.inl none, (x, S.2)) : am_R)) x)) 0 0 0 [some (.ref p0), none] [] S (f_X12_image S p0)
  unfold f_X12_image
  refine ev_aload_n dX12_image_0 rfl ?_
  refine ev_iconst (v := 0) dX12_image_1 (by decide) ?_
  refine ev_putI fk_X12_3 tyX12 tyX12_ok nmX12 rfl (by decide +kernel) (by decide) dX12_image_2 kp0 ?_
  refine ev_iconst (v := 0) dX12_image_5 (by decide) ?_
  refine ev_istore_n dX12_image_6 (am_lt rfl) ?_
  refine ev_weak (am_wk (am_wk am_wn)) (ev_loop 7 32 (fun x1 : Int32 × (Nat → Nat → Int32) => [some (.ref p0), some (.int x1.1)]) (fun t1 : (Nat → Nat → Int32) => [some (.ref p0), none]) (fun x1 => (x1.2, S.2)) (fun t1 => (t1, S.2)) (fun x1 G1 hB1 hE1 => ?_) (fun t1 => ?_) am_fuel (0, (am_u2 S.1 p0 0 0)))
  · unfold f_X12_image_b7
    refine ev_iload_n dX12_image_7 rfl ?_
    refine ev_sipush (v := 1023) dX12_image_8 (by decide) ?_
    refine ev_eq am_ib ?_
    refine ev_icmp_ge (tgt := 32) dX12_image_11 (by decide) (fun c7 => ?_) (fun c7 => ?_)
    · exact ev_leaf (am_wk (am_wf am_wn)) (hE1 x1.2)
    · refine ev_aload_n dX12_image_14 rfl ?_
      refine ev_eq (Option.bind_assoc _ _ _) ?_
      refine ev_getR fk_X12_17 (by decide) dX12_image_15 kp0 (fun q8 k8 r8 => ?_)
      refine ev_iload_n dX12_image_18 rfl ?_
      refine ev_aload_n dX12_image_19 rfl ?_
      refine ev_eq (Option.bind_assoc _ _ _) ?_
      refine ev_getR fk_X12_13 (by decide) dX12_image_20 kp0 (fun q9 k9 r9 => ?_)
      refine ev_iload_n dX12_image_23 rfl ?_
      refine ev_eq (Option.bind_assoc _ _ _) ?_
      refine ev_iald dX12_image_24 k9 (fun v10 h10 => ?_)
      refine ev_eq (Option.bind_assoc _ _ _) ?_
      refine ev_iast dX12_image_25 k8 (fun σ11 h11 => ?_)
      refine ev_iinc (v := (x1.1 + 1)) dX12_image_26 (am_lt rfl) rfl rfl ?_
      refine ev_goto (tgt := 7) dX12_image_29 (by decide) ?_
      exact ev_leaf (am_wk (am_wk am_wn)) (hB1 ((x1.1 + 1), σ11))
  · refine ev_aload_n dX12_image_32 rfl ?_
    refine ev_iconst (v := 1) dX12_image_33 (by decide) ?_
    refine ev_putB (by decide) (by decide) fk_X12_66 tyX12 tyX12_ok nmX12 rfl (by decide +kernel) (by decide) dX12_image_34 kp0 ?_
    exact ev_vret dX12_image_37 rfl (by decide) (by decide) rfl
def f_X12_back_b16 (S : am_S) (a0 : Nat) (x2 : Int32 × (Nat → Nat → Int32)) : Option ((Int32 × (Nat → Nat → Int32)) ⊕ ((Nat → Nat → Int32))) :=
  (if x2.1 < 1023 then ((am_rd S.2 a0 1 1).bind (fun q4 => ((am_rd S.2 a0 2 1).bind (fun q5 => ((am_ld x2.2 q5 x2.1).bind (fun v6 => ((am_st x2.2 q4 x2.1 v6).bind (fun σ7 => some (.inl ((x2.1 + 1), σ7)))))))))) else some (.inr x2.2))
def f_X12_back (S : am_S) (p0 : Nat) : Option (Int32 × (Nat → Nat → Int32)) :=
  (if ((am_u2 S.1 p0 0 0) p0 4) = 0 then some (0, (am_u2 S.1 p0 0 0)) else ((am_loop (f_X12_back_b16 ((am_u2 S.1 p0 0 0), S.2) p0) am_fuel (0, (am_u2 S.1 p0 0 0))).bind (fun t2 => some (1, t2))))
set_option maxRecDepth 20000 in
theorem t_X12_back {E : am_E} {l : Launch} (hl : l.stackTraces = false) {S : am_S} {p0 : Nat} (kp0 : am_kd p0 = 112) : am_M E l yX12_back (.code yX12_back cX12_back 2 (some .boolean)) 0 0 0 [.ref p0] S ((f_X12_back S p0).map (fun (x : Int32 × (Nat → Nat → Int32)) => ((.inl (some (.int x.1)), (x.2, S.2)) : am_R))) := by
  refine am_M_of (w := fun (x : Int32 × (Nat → Nat → Int32)) => ((.inl (some (.int x.1)), (x.2, S.2)) : am_R)) hl (by decide) (am_fc rfl am_fn) (Nat.le_of_ble_eq_true rfl) ?_
  show am_Ev E l (RX12, cX12_back, 2, (some .boolean), [], am_rm 0 0 0) (fun b a s x => am_Z E 0 0 b a s ((fun (x : Int32 × (Nat → Nat → Int32)) => ((.inl (some (.int x.1)), (x.2, S.2)) : am_R)) x)) 0 0 0 [some (.ref p0), none] [] S (f_X12_back S p0)
  unfold f_X12_back
  refine ev_aload_n dX12_back_0 rfl ?_
  refine ev_iconst (v := 0) dX12_back_1 (by decide) ?_
  refine ev_putI fk_X12_3 tyX12 tyX12_ok nmX12 rfl (by decide +kernel) (by decide) dX12_back_2 kp0 ?_
  refine ev_aload_n dX12_back_5 rfl ?_
  refine ev_get fk_X12_66 dX12_back_6 kp0 (am_fvI (by decide)) ?_
  refine ev_if_ne (tgt := 14) dX12_back_9 (by decide) (fun c1 => ?_) (fun c1 => ?_)
  · refine ev_iconst (v := 0) dX12_back_14 (by decide) ?_
    refine ev_istore_n dX12_back_15 (am_lt rfl) ?_
    refine ev_weak (am_wk (am_wk am_wn)) (ev_loop 16 41 (fun x2 : Int32 × (Nat → Nat → Int32) => [some (.ref p0), some (.int x2.1)]) (fun t2 : (Nat → Nat → Int32) => [none, none]) (fun x2 => (x2.2, S.2)) (fun t2 => (t2, S.2)) (fun x2 G2 hB2 hE2 => ?_) (fun t2 => ?_) am_fuel (0, (am_u2 S.1 p0 0 0)))
    · unfold f_X12_back_b16
      refine ev_iload_n dX12_back_16 rfl ?_
      refine ev_sipush (v := 1023) dX12_back_17 (by decide) ?_
      refine ev_eq am_ib ?_
      refine ev_icmp_ge (tgt := 41) dX12_back_20 (by decide) (fun c8 => ?_) (fun c8 => ?_)
      · exact ev_leaf (am_wf (am_wf am_wn)) (hE2 x2.2)
      · refine ev_aload_n dX12_back_23 rfl ?_
        refine ev_eq (Option.bind_assoc _ _ _) ?_
        refine ev_getR fk_X12_13 (by decide) dX12_back_24 kp0 (fun q9 k9 r9 => ?_)
        refine ev_iload_n dX12_back_27 rfl ?_
        refine ev_aload_n dX12_back_28 rfl ?_
        refine ev_eq (Option.bind_assoc _ _ _) ?_
        refine ev_getR fk_X12_17 (by decide) dX12_back_29 kp0 (fun q10 k10 r10 => ?_)
        refine ev_iload_n dX12_back_32 rfl ?_
        refine ev_eq (Option.bind_assoc _ _ _) ?_
        refine ev_iald dX12_back_33 k10 (fun v11 h11 => ?_)
        refine ev_eq (Option.bind_assoc _ _ _) ?_
        refine ev_iast dX12_back_34 k9 (fun σ12 h12 => ?_)
        refine ev_iinc (v := (x2.1 + 1)) dX12_back_35 (am_lt rfl) rfl rfl ?_
        refine ev_goto (tgt := 16) dX12_back_38 (by decide) ?_
        exact ev_leaf (am_wk (am_wk am_wn)) (hB2 ((x2.1 + 1), σ12))
    · refine ev_iconst (v := 1) dX12_back_41 (by decide) ?_
      exact ev_iret dX12_back_42 rfl (by decide) (by decide) (by decide) rfl
  · refine ev_iconst (v := 0) dX12_back_12 (by decide) ?_
    exact ev_iret dX12_back_13 rfl (by decide) (by decide) (by decide) rfl
def f_X12_houses (S : am_S) (p0 : Nat) : Option (Int32) :=
  ((am_rd S.2 p0 1 1).bind (fun q1 => ((am_ld S.1 q1 0).bind (fun v2 => some v2))))
set_option maxRecDepth 20000 in
theorem t_X12_houses {E : am_E} {l : Launch} (hl : l.stackTraces = false) {S : am_S} {p0 : Nat} (kp0 : am_kd p0 = 112) : am_M E l yX12_houses (.code yX12_houses cX12_houses 1 (some .int)) 0 0 0 [.ref p0] S ((f_X12_houses S p0).map (fun (v : Int32) => ((.inl (some (.int v)), S) : am_R))) := by
  refine am_M_of (w := fun (v : Int32) => ((.inl (some (.int v)), S) : am_R)) hl (by decide) (am_fc rfl am_fn) (Nat.le_of_ble_eq_true rfl) ?_
  show am_Ev E l (RX12, cX12_houses, 1, (some .int), [], am_rm 0 0 0) (fun b a s x => am_Z E 0 0 b a s ((fun (v : Int32) => ((.inl (some (.int v)), S) : am_R)) x)) 0 0 0 [some (.ref p0)] [] S (f_X12_houses S p0)
  unfold f_X12_houses
  refine ev_aload_n dX12_houses_0 rfl ?_
  refine ev_getR fk_X12_13 (by decide) dX12_houses_1 kp0 (fun q1 k1 r1 => ?_)
  refine ev_iconst (v := 0) dX12_houses_4 (by decide) ?_
  refine ev_iald dX12_houses_5 k1 (fun v2 h2 => ?_)
  exact ev_iret dX12_houses_6 rfl rfl (by decide) (by decide) rfl
def f_X12_wants (S : am_S) (p0 : Nat) : Option (Int32) :=
  ((am_rd S.2 p0 1 1).bind (fun q1 => ((am_ld S.1 q1 1).bind (fun v2 => some v2))))
set_option maxRecDepth 20000 in
theorem t_X12_wants {E : am_E} {l : Launch} (hl : l.stackTraces = false) {S : am_S} {p0 : Nat} (kp0 : am_kd p0 = 112) : am_M E l yX12_wants (.code yX12_wants cX12_wants 1 (some .int)) 0 0 0 [.ref p0] S ((f_X12_wants S p0).map (fun (v : Int32) => ((.inl (some (.int v)), S) : am_R))) := by
  refine am_M_of (w := fun (v : Int32) => ((.inl (some (.int v)), S) : am_R)) hl (by decide) (am_fc rfl am_fn) (Nat.le_of_ble_eq_true rfl) ?_
  show am_Ev E l (RX12, cX12_wants, 1, (some .int), [], am_rm 0 0 0) (fun b a s x => am_Z E 0 0 b a s ((fun (v : Int32) => ((.inl (some (.int v)), S) : am_R)) x)) 0 0 0 [some (.ref p0)] [] S (f_X12_wants S p0)
  unfold f_X12_wants
  refine ev_aload_n dX12_wants_0 rfl ?_
  refine ev_getR fk_X12_13 (by decide) dX12_wants_1 kp0 (fun q1 k1 r1 => ?_)
  refine ev_iconst (v := 1) dX12_wants_4 (by decide) ?_
  refine ev_iald dX12_wants_5 k1 (fun v2 h2 => ?_)
  exact ev_iret dX12_wants_6 rfl rfl (by decide) (by decide) rfl
def f_X12_of (S : am_S) (p0 : Nat) (p1 : Int32) (p2 : Int32) : Option (Int32) :=
  ((am_rd S.2 p0 1 1).bind (fun q1 => ((am_ld S.1 q1 ((8 + (15 * p1)) + p2)).bind (fun v2 => some v2))))
set_option maxRecDepth 20000 in
theorem t_X12_of {E : am_E} {l : Launch} (hl : l.stackTraces = false) {S : am_S} {p0 : Nat} {p1 : Int32} {p2 : Int32} (kp0 : am_kd p0 = 112) : am_M E l yX12_of (.code yX12_of cX12_of 3 (some .int)) 0 0 0 [.ref p0, .int p1, .int p2] S ((f_X12_of S p0 p1 p2).map (fun (v : Int32) => ((.inl (some (.int v)), S) : am_R))) := by
  refine am_M_of (w := fun (v : Int32) => ((.inl (some (.int v)), S) : am_R)) hl (by decide) (am_fc rfl (am_fc rfl (am_fc rfl am_fn))) (Nat.le_of_ble_eq_true rfl) ?_
  show am_Ev E l (RX12, cX12_of, 3, (some .int), [], am_rm 0 0 0) (fun b a s x => am_Z E 0 0 b a s ((fun (v : Int32) => ((.inl (some (.int v)), S) : am_R)) x)) 0 0 0 [some (.ref p0), some (.int p1), some (.int p2)] [] S (f_X12_of S p0 p1 p2)
  unfold f_X12_of
  refine ev_aload_n dX12_of_0 rfl ?_
  refine ev_getR fk_X12_13 (by decide) dX12_of_1 kp0 (fun q1 k1 r1 => ?_)
  refine ev_bipush (v := 8) dX12_of_4 (by decide) ?_
  refine ev_bipush (v := 15) dX12_of_6 (by decide) ?_
  refine ev_iload_n dX12_of_8 rfl ?_
  refine ev_imul dX12_of_9 ?_
  refine ev_iadd dX12_of_10 ?_
  refine ev_iload_n dX12_of_11 rfl ?_
  refine ev_iadd dX12_of_12 ?_
  refine ev_iald dX12_of_13 k1 (fun v2 h2 => ?_)
  exact ev_iret dX12_of_14 rfl rfl (by decide) (by decide) rfl
def f_X12_sets (S : am_S) (p0 : Nat) (p1 : Int32) (p2 : Int32) (p3 : Int32) : Option ((Nat → Nat → Int32)) :=
  ((am_rd S.2 p0 1 1).bind (fun q1 => ((am_st S.1 q1 ((8 + (15 * p1)) + p2) p3).bind (fun σ2 => some σ2))))
set_option maxRecDepth 20000 in
theorem t_X12_sets {E : am_E} {l : Launch} (hl : l.stackTraces = false) {S : am_S} {p0 : Nat} {p1 : Int32} {p2 : Int32} {p3 : Int32} (kp0 : am_kd p0 = 112) : am_M E l yX12_sets (.code yX12_sets cX12_sets 4 none) 0 0 0 [.ref p0, .int p1, .int p2, .int p3] S ((f_X12_sets S p0 p1 p2 p3).map (fun (x : Nat → Nat → Int32) => ((.inl none, (x, S.2)) : am_R))) := by
  refine am_M_of (w := fun (x : Nat → Nat → Int32) => ((.inl none, (x, S.2)) : am_R)) hl (by decide) (am_fc rfl (am_fc rfl (am_fc rfl (am_fc rfl am_fn)))) (Nat.le_of_ble_eq_true rfl) ?_
  show am_Ev E l (RX12, cX12_sets, 4, none, [], am_rm 0 0 0) (fun b a s x => am_Z E 0 0 b a s ((fun (x : Nat → Nat → Int32) => ((.inl none, (x, S.2)) : am_R)) x)) 0 0 0 [some (.ref p0), some (.int p1), some (.int p2), some (.int p3)] [] S (f_X12_sets S p0 p1 p2 p3)
  unfold f_X12_sets
  refine ev_aload_n dX12_sets_0 rfl ?_
  refine ev_getR fk_X12_13 (by decide) dX12_sets_1 kp0 (fun q1 k1 r1 => ?_)
  refine ev_bipush (v := 8) dX12_sets_4 (by decide) ?_
  refine ev_bipush (v := 15) dX12_sets_6 (by decide) ?_
  refine ev_iload_n dX12_sets_8 rfl ?_
  refine ev_imul dX12_sets_9 ?_
  refine ev_iadd dX12_sets_10 ?_
  refine ev_iload_n dX12_sets_11 rfl ?_
  refine ev_iadd dX12_sets_12 ?_
  refine ev_iload_n dX12_sets_13 rfl ?_
  refine ev_iast dX12_sets_14 k1 (fun σ2 h2 => ?_)
  exact ev_vret dX12_sets_15 rfl (by decide) (by decide) rfl
def f_X12_wordOf (S : am_S) (p0 : Nat) (p1 : Int32) (p2 : Int32) : Option (Int32) :=
  ((f_X12_of S p0 p1 (5 + p2)).bind (fun v1 => some v1))
set_option maxRecDepth 20000 in
theorem t_X12_wordOf {E : am_E} {l : Launch} (hl : l.stackTraces = false) {S : am_S} {p0 : Nat} {p1 : Int32} {p2 : Int32} (kp0 : am_kd p0 = 112) : am_M E l yX12_wordOf (.code yX12_wordOf cX12_wordOf 3 (some .int)) 1 0 0 [.ref p0, .int p1, .int p2] S ((f_X12_wordOf S p0 p1 p2).map (fun (v : Int32) => ((.inl (some (.int v)), S) : am_R))) := by
  refine am_M_of (w := fun (v : Int32) => ((.inl (some (.int v)), S) : am_R)) hl (by decide) (am_fc rfl (am_fc rfl (am_fc rfl am_fn))) (Nat.le_of_ble_eq_true rfl) ?_
  show am_Ev E l (RX12, cX12_wordOf, 3, (some .int), [], am_rm 1 0 0) (fun b a s x => am_Z E 0 0 b a s ((fun (v : Int32) => ((.inl (some (.int v)), S) : am_R)) x)) 0 0 0 [some (.ref p0), some (.int p1), some (.int p2)] [] S (f_X12_wordOf S p0 p1 p2)
  unfold f_X12_wordOf
  refine ev_aload_n dX12_wordOf_0 rfl ?_
  refine ev_iload_n dX12_wordOf_1 rfl ?_
  refine ev_iconst (v := 5) dX12_wordOf_2 (by decide) ?_
  refine ev_iload_n dX12_wordOf_3 rfl ?_
  refine ev_iadd dX12_wordOf_4 ?_
  refine ev_callP (am_callV (as := [.int p1, .int (5 + p2)]) (o := p0) (st := []) cv_X12_70 dX12_wordOf_5 kp0 rfl (am_le rfl) (am_fit (by omega) (by decide) (by decide) (by decide)) (t_X12_of hl kp0)) (fun v1 h1 => ?_)
  exact ev_iret dX12_wordOf_8 rfl rfl (by decide) (by decide) rfl
def f_X12_urgent (S : am_S) (p0 : Nat) (p1 : Int32) : Option (Int32) :=
  ((am_rd S.2 p0 1 1).bind (fun q1 => ((am_ld S.1 q1 (128 + p1)).bind (fun v2 => some v2))))
set_option maxRecDepth 20000 in
theorem t_X12_urgent {E : am_E} {l : Launch} (hl : l.stackTraces = false) {S : am_S} {p0 : Nat} {p1 : Int32} (kp0 : am_kd p0 = 112) : am_M E l yX12_urgent (.code yX12_urgent cX12_urgent 2 (some .int)) 0 0 0 [.ref p0, .int p1] S ((f_X12_urgent S p0 p1).map (fun (v : Int32) => ((.inl (some (.int v)), S) : am_R))) := by
  refine am_M_of (w := fun (v : Int32) => ((.inl (some (.int v)), S) : am_R)) hl (by decide) (am_fc rfl (am_fc rfl am_fn)) (Nat.le_of_ble_eq_true rfl) ?_
  show am_Ev E l (RX12, cX12_urgent, 2, (some .int), [], am_rm 0 0 0) (fun b a s x => am_Z E 0 0 b a s ((fun (v : Int32) => ((.inl (some (.int v)), S) : am_R)) x)) 0 0 0 [some (.ref p0), some (.int p1)] [] S (f_X12_urgent S p0 p1)
  unfold f_X12_urgent
  refine ev_aload_n dX12_urgent_0 rfl ?_
  refine ev_getR fk_X12_13 (by decide) dX12_urgent_1 kp0 (fun q1 k1 r1 => ?_)
  refine ev_sipush (v := 128) dX12_urgent_4 (by decide) ?_
  refine ev_iload_n dX12_urgent_7 rfl ?_
  refine ev_iadd dX12_urgent_8 ?_
  refine ev_iald dX12_urgent_9 k1 (fun v2 h2 => ?_)
  exact ev_iret dX12_urgent_10 rfl rfl (by decide) (by decide) rfl
def f_X12_ofRing (S : am_S) (p0 : Nat) (p1 : Int32) (p2 : Int32) : Option (Int32) :=
  ((am_rd S.2 p0 1 1).bind (fun q1 => ((am_ld S.1 q1 ((138 + (4 * p1)) + p2)).bind (fun v2 => some v2))))
set_option maxRecDepth 20000 in
theorem t_X12_ofRing {E : am_E} {l : Launch} (hl : l.stackTraces = false) {S : am_S} {p0 : Nat} {p1 : Int32} {p2 : Int32} (kp0 : am_kd p0 = 112) : am_M E l yX12_ofRing (.code yX12_ofRing cX12_ofRing 3 (some .int)) 0 0 0 [.ref p0, .int p1, .int p2] S ((f_X12_ofRing S p0 p1 p2).map (fun (v : Int32) => ((.inl (some (.int v)), S) : am_R))) := by
  refine am_M_of (w := fun (v : Int32) => ((.inl (some (.int v)), S) : am_R)) hl (by decide) (am_fc rfl (am_fc rfl (am_fc rfl am_fn))) (Nat.le_of_ble_eq_true rfl) ?_
  show am_Ev E l (RX12, cX12_ofRing, 3, (some .int), [], am_rm 0 0 0) (fun b a s x => am_Z E 0 0 b a s ((fun (v : Int32) => ((.inl (some (.int v)), S) : am_R)) x)) 0 0 0 [some (.ref p0), some (.int p1), some (.int p2)] [] S (f_X12_ofRing S p0 p1 p2)
  unfold f_X12_ofRing
  refine ev_aload_n dX12_ofRing_0 rfl ?_
  refine ev_getR fk_X12_13 (by decide) dX12_ofRing_1 kp0 (fun q1 k1 r1 => ?_)
  refine ev_sipush (v := 138) dX12_ofRing_4 (by decide) ?_
  refine ev_iconst (v := 4) dX12_ofRing_7 (by decide) ?_
  refine ev_iload_n dX12_ofRing_8 rfl ?_
  refine ev_imul dX12_ofRing_9 ?_
  refine ev_iadd dX12_ofRing_10 ?_
  refine ev_iload_n dX12_ofRing_11 rfl ?_
  refine ev_iadd dX12_ofRing_12 ?_
  refine ev_iald dX12_ofRing_13 k1 (fun v2 h2 => ?_)
  exact ev_iret dX12_ofRing_14 rfl rfl (by decide) (by decide) rfl
def f_X12_noHouse (S : am_S) (p0 : Nat) (p1 : Int32) : Option (Int32) :=
  ((f_X12_houses S p0).bind (fun v1 => ((f_X12_in p1 0 (v1 - 1)).bind (fun v2 => (if v2 = 0 then some 1 else some 0)))))
set_option maxRecDepth 20000 in
theorem t_X12_noHouse {E : am_E} {l : Launch} (hl : l.stackTraces = false) {S : am_S} {p0 : Nat} {p1 : Int32} (kp0 : am_kd p0 = 112) : am_M E l yX12_noHouse (.code yX12_noHouse cX12_noHouse 2 (some .boolean)) 1 0 0 [.ref p0, .int p1] S ((f_X12_noHouse S p0 p1).map (fun (v : Int32) => ((.inl (some (.int v)), S) : am_R))) := by
  refine am_M_of (w := fun (v : Int32) => ((.inl (some (.int v)), S) : am_R)) hl (by decide) (am_fc rfl (am_fc rfl am_fn)) (Nat.le_of_ble_eq_true rfl) ?_
  show am_Ev E l (RX12, cX12_noHouse, 2, (some .boolean), [], am_rm 1 0 0) (fun b a s x => am_Z E 0 0 b a s ((fun (v : Int32) => ((.inl (some (.int v)), S) : am_R)) x)) 0 0 0 [some (.ref p0), some (.int p1)] [] S (f_X12_noHouse S p0 p1)
  unfold f_X12_noHouse
  refine ev_iload_n dX12_noHouse_0 rfl ?_
  refine ev_iconst (v := 0) dX12_noHouse_1 (by decide) ?_
  refine ev_aload_n dX12_noHouse_2 rfl ?_
  refine ev_callP (am_callV (as := []) (o := p0) (st := [.int 0, .int p1]) cv_X12_74 dX12_noHouse_3 kp0 rfl (am_le rfl) (am_fit (by omega) (by decide) (by decide) (by decide)) (t_X12_houses hl kp0)) (fun v1 h1 => ?_)
  refine ev_iconst (v := 1) dX12_noHouse_6 (by decide) ?_
  refine ev_isub dX12_noHouse_7 ?_
  refine ev_callP (am_callS (as := [.int p1, .int 0, .int (v1 - 1)]) (st := []) ct_X12_78 dX12_noHouse_8 rfl (am_le rfl) (am_fit (by omega) (by decide) (by decide) (by decide)) (t_X12_in hl )) (fun v2 h2 => ?_)
  refine ev_if_ne (tgt := 18) dX12_noHouse_11 (by decide) (fun c3 => ?_) (fun c3 => ?_)
  · refine ev_iconst (v := 0) dX12_noHouse_18 (by decide) ?_
    exact ev_iret dX12_noHouse_19 rfl (by decide) (by decide) (by decide) rfl
  · refine ev_iconst (v := 1) dX12_noHouse_14 (by decide) ?_
    refine ev_goto (tgt := 19) dX12_noHouse_15 (by decide) ?_
    exact ev_iret dX12_noHouse_19 rfl (by decide) (by decide) (by decide) rfl
def f_X12_noWant (S : am_S) (p0 : Nat) (p1 : Int32) : Option (Int32) :=
  ((f_X12_wants S p0).bind (fun v1 => ((f_X12_in p1 0 (v1 - 1)).bind (fun v2 => (if v2 = 0 then some 1 else some 0)))))
set_option maxRecDepth 20000 in
theorem t_X12_noWant {E : am_E} {l : Launch} (hl : l.stackTraces = false) {S : am_S} {p0 : Nat} {p1 : Int32} (kp0 : am_kd p0 = 112) : am_M E l yX12_noWant (.code yX12_noWant cX12_noWant 2 (some .boolean)) 1 0 0 [.ref p0, .int p1] S ((f_X12_noWant S p0 p1).map (fun (v : Int32) => ((.inl (some (.int v)), S) : am_R))) := by
  refine am_M_of (w := fun (v : Int32) => ((.inl (some (.int v)), S) : am_R)) hl (by decide) (am_fc rfl (am_fc rfl am_fn)) (Nat.le_of_ble_eq_true rfl) ?_
  show am_Ev E l (RX12, cX12_noWant, 2, (some .boolean), [], am_rm 1 0 0) (fun b a s x => am_Z E 0 0 b a s ((fun (v : Int32) => ((.inl (some (.int v)), S) : am_R)) x)) 0 0 0 [some (.ref p0), some (.int p1)] [] S (f_X12_noWant S p0 p1)
  unfold f_X12_noWant
  refine ev_iload_n dX12_noWant_0 rfl ?_
  refine ev_iconst (v := 0) dX12_noWant_1 (by decide) ?_
  refine ev_aload_n dX12_noWant_2 rfl ?_
  refine ev_callP (am_callV (as := []) (o := p0) (st := [.int 0, .int p1]) cv_X12_82 dX12_noWant_3 kp0 rfl (am_le rfl) (am_fit (by omega) (by decide) (by decide) (by decide)) (t_X12_wants hl kp0)) (fun v1 h1 => ?_)
  refine ev_iconst (v := 1) dX12_noWant_6 (by decide) ?_
  refine ev_isub dX12_noWant_7 ?_
  refine ev_callP (am_callS (as := [.int p1, .int 0, .int (v1 - 1)]) (st := []) ct_X12_78 dX12_noWant_8 rfl (am_le rfl) (am_fit (by omega) (by decide) (by decide) (by decide)) (t_X12_in hl )) (fun v2 h2 => ?_)
  refine ev_if_ne (tgt := 18) dX12_noWant_11 (by decide) (fun c3 => ?_) (fun c3 => ?_)
  · refine ev_iconst (v := 0) dX12_noWant_18 (by decide) ?_
    exact ev_iret dX12_noWant_19 rfl (by decide) (by decide) (by decide) rfl
  · refine ev_iconst (v := 1) dX12_noWant_14 (by decide) ?_
    refine ev_goto (tgt := 19) dX12_noWant_15 (by decide) ?_
    exact ev_iret dX12_noWant_19 rfl (by decide) (by decide) (by decide) rfl
def f_X12_noRing (S : am_S) (p0 : Nat) (p1 : Int32) : Option (Int32) :=
  ((am_rd S.2 p0 1 1).bind (fun q1 => ((am_ld S.1 q1 4).bind (fun v2 => ((f_X12_in p1 0 (v2 - 1)).bind (fun v3 => (if v3 = 0 then some 1 else some 0)))))))
set_option maxRecDepth 20000 in
theorem t_X12_noRing {E : am_E} {l : Launch} (hl : l.stackTraces = false) {S : am_S} {p0 : Nat} {p1 : Int32} (kp0 : am_kd p0 = 112) : am_M E l yX12_noRing (.code yX12_noRing cX12_noRing 2 (some .boolean)) 1 0 0 [.ref p0, .int p1] S ((f_X12_noRing S p0 p1).map (fun (v : Int32) => ((.inl (some (.int v)), S) : am_R))) := by
  refine am_M_of (w := fun (v : Int32) => ((.inl (some (.int v)), S) : am_R)) hl (by decide) (am_fc rfl (am_fc rfl am_fn)) (Nat.le_of_ble_eq_true rfl) ?_
  show am_Ev E l (RX12, cX12_noRing, 2, (some .boolean), [], am_rm 1 0 0) (fun b a s x => am_Z E 0 0 b a s ((fun (v : Int32) => ((.inl (some (.int v)), S) : am_R)) x)) 0 0 0 [some (.ref p0), some (.int p1)] [] S (f_X12_noRing S p0 p1)
  unfold f_X12_noRing
  refine ev_iload_n dX12_noRing_0 rfl ?_
  refine ev_iconst (v := 0) dX12_noRing_1 (by decide) ?_
  refine ev_aload_n dX12_noRing_2 rfl ?_
  refine ev_getR fk_X12_13 (by decide) dX12_noRing_3 kp0 (fun q1 k1 r1 => ?_)
  refine ev_iconst (v := 4) dX12_noRing_6 (by decide) ?_
  refine ev_iald dX12_noRing_7 k1 (fun v2 h2 => ?_)
  refine ev_iconst (v := 1) dX12_noRing_8 (by decide) ?_
  refine ev_isub dX12_noRing_9 ?_
  refine ev_callP (am_callS (as := [.int p1, .int 0, .int (v2 - 1)]) (st := []) ct_X12_78 dX12_noRing_10 rfl (am_le rfl) (am_fit (by omega) (by decide) (by decide) (by decide)) (t_X12_in hl )) (fun v3 h3 => ?_)
  refine ev_if_ne (tgt := 20) dX12_noRing_13 (by decide) (fun c4 => ?_) (fun c4 => ?_)
  · refine ev_iconst (v := 0) dX12_noRing_20 (by decide) ?_
    exact ev_iret dX12_noRing_21 rfl (by decide) (by decide) (by decide) rfl
  · refine ev_iconst (v := 1) dX12_noRing_16 (by decide) ?_
    refine ev_goto (tgt := 21) dX12_noRing_17 (by decide) ?_
    exact ev_iret dX12_noRing_21 rfl (by decide) (by decide) (by decide) rfl
def f_X12_lengthOf_b4  (x1 : Int32 × Int32) : Option ((Int32 × Int32) ⊕ (Int32)) :=
  (if 1 < x1.2 then some (.inl ((x1.1 + 1), (x1.2 >>> ((1 : Int32) &&& 31)))) else some (.inr x1.1))
def f_X12_lengthOf (p0 : Int32) : Option (Int32) :=
  ((am_loop (f_X12_lengthOf_b4  ) am_fuel (0, p0)).bind (fun t1 => some t1))
set_option maxRecDepth 20000 in
theorem t_X12_lengthOf {E : am_E} {l : Launch} (hl : l.stackTraces = false) {S : am_S} {p0 : Int32}  : am_M E l yX12_lengthOf (.code yX12_lengthOf cX12_lengthOf 3 (some .int)) 0 0 0 [.int p0] S ((f_X12_lengthOf p0).map (fun (v : Int32) => ((.inl (some (.int v)), S) : am_R))) := by
  refine am_M_of (w := fun (v : Int32) => ((.inl (some (.int v)), S) : am_R)) hl (by decide) (am_fc rfl am_fn) (Nat.le_of_ble_eq_true rfl) ?_
  show am_Ev E l (RX12, cX12_lengthOf, 3, (some .int), [], am_rm 0 0 0) (fun b a s x => am_Z E 0 0 b a s ((fun (v : Int32) => ((.inl (some (.int v)), S) : am_R)) x)) 0 0 0 [some (.int p0), none, none] [] S (f_X12_lengthOf p0)
  unfold f_X12_lengthOf
  refine ev_iconst (v := 0) dX12_lengthOf_0 (by decide) ?_
  refine ev_istore_n dX12_lengthOf_1 (am_lt rfl) ?_
  refine ev_iload_n dX12_lengthOf_2 rfl ?_
  refine ev_istore_n dX12_lengthOf_3 (am_lt rfl) ?_
  refine ev_weak (am_wf (am_wk (am_wk am_wn))) (ev_loop 4 19 (fun x1 : Int32 × Int32 => [none, some (.int x1.1), some (.int x1.2)]) (fun t1 : Int32 => [none, some (.int t1), none]) (fun x1 => S) (fun t1 => S) (fun x1 G1 hB1 hE1 => ?_) (fun t1 => ?_) am_fuel (0, p0))
  · unfold f_X12_lengthOf_b4
    refine ev_iload_n dX12_lengthOf_4 rfl ?_
    refine ev_iconst (v := 1) dX12_lengthOf_5 (by decide) ?_
    refine ev_eq am_ib ?_
    refine ev_icmp_le (tgt := 19) dX12_lengthOf_6 (by decide) (fun c3 => ?_) (fun c3 => ?_)
    · exact ev_leaf (am_wf (am_wk (am_wf am_wn))) (hE1 x1.1)
    · refine ev_iinc (v := (x1.1 + 1)) dX12_lengthOf_9 (am_lt rfl) rfl rfl ?_
      refine ev_iload_n dX12_lengthOf_12 rfl ?_
      refine ev_iconst (v := 1) dX12_lengthOf_13 (by decide) ?_
      refine ev_ishr dX12_lengthOf_14 ?_
      refine ev_istore_n dX12_lengthOf_15 (am_lt rfl) ?_
      refine ev_goto (tgt := 4) dX12_lengthOf_16 (by decide) ?_
      exact ev_leaf (am_wf (am_wk (am_wk am_wn))) (hB1 ((x1.1 + 1), (x1.2 >>> ((1 : Int32) &&& 31))))
  · refine ev_iload_n dX12_lengthOf_19 rfl ?_
    exact ev_iret dX12_lengthOf_20 rfl rfl (by decide) (by decide) rfl
def f_X12_costOf (p0 : Int32) : Option (Int32) :=
  (if p0 < 2 then some 0 else ((f_X12_lengthOf p0).bind (fun v2 => ((f_J6_bitCount_0f7a4 p0).bind (fun v3 => some ((v2 + v3) - 1))))))
set_option maxRecDepth 20000 in
theorem t_X12_costOf {E : am_E} {l : Launch} (hl : l.stackTraces = false) {S : am_S} {p0 : Int32}  : am_M E l yX12_costOf (.code yX12_costOf cX12_costOf 1 (some .int)) 1 0 0 [.int p0] S ((f_X12_costOf p0).map (fun (v : Int32) => ((.inl (some (.int v)), S) : am_R))) := by
  refine am_M_of (w := fun (v : Int32) => ((.inl (some (.int v)), S) : am_R)) hl (by decide) (am_fc rfl am_fn) (Nat.le_of_ble_eq_true rfl) ?_
  show am_Ev E l (RX12, cX12_costOf, 1, (some .int), [], am_rm 1 0 0) (fun b a s x => am_Z E 0 0 b a s ((fun (v : Int32) => ((.inl (some (.int v)), S) : am_R)) x)) 0 0 0 [some (.int p0)] [] S (f_X12_costOf p0)
  unfold f_X12_costOf
  refine ev_iload_n dX12_costOf_0 rfl ?_
  refine ev_iconst (v := 2) dX12_costOf_1 (by decide) ?_
  refine ev_icmp_ge (tgt := 9) dX12_costOf_2 (by decide) (fun c1 => ?_) (fun c1 => ?_)
  · refine ev_iload_n dX12_costOf_9 rfl ?_
    refine ev_callP (am_callS (as := [.int p0]) (st := []) ct_X12_85 dX12_costOf_10 rfl (am_le rfl) (am_fit (by omega) (by decide) (by decide) (by decide)) (t_X12_lengthOf hl )) (fun v2 h2 => ?_)
    refine ev_iload_n dX12_costOf_13 rfl ?_
    refine ev_callP (am_callS (as := [.int p0]) (st := [.int v2]) ct_X12_89 dX12_costOf_14 rfl (am_le rfl) (am_fit (by omega) (by decide) (by decide) (by decide)) (t_J6_bitCount_0f7a4 hl )) (fun v3 h3 => ?_)
    refine ev_iadd dX12_costOf_17 ?_
    refine ev_iconst (v := 1) dX12_costOf_18 (by decide) ?_
    refine ev_isub dX12_costOf_19 ?_
    exact ev_iret dX12_costOf_20 rfl rfl (by decide) (by decide) rfl
  · refine ev_iconst (v := 0) dX12_costOf_5 (by decide) ?_
    refine ev_goto (tgt := 20) dX12_costOf_6 (by decide) ?_
    exact ev_iret dX12_costOf_20 rfl rfl (by decide) (by decide) rfl
def f_X12_cut (p0 : Int32) (p1 : Int32) : Option (Int32) :=
  ((f_X12_lengthOf p0).bind (fun v1 => ((f_J9_max_7cf53 0 (v1 - p1)).bind (fun v2 => some (p0 >>> (v2 &&& 31))))))
set_option maxRecDepth 20000 in
theorem t_X12_cut {E : am_E} {l : Launch} (hl : l.stackTraces = false) {S : am_S} {p0 : Int32} {p1 : Int32}  : am_M E l yX12_cut (.code yX12_cut cX12_cut 2 (some .int)) 1 0 0 [.int p0, .int p1] S ((f_X12_cut p0 p1).map (fun (v : Int32) => ((.inl (some (.int v)), S) : am_R))) := by
  refine am_M_of (w := fun (v : Int32) => ((.inl (some (.int v)), S) : am_R)) hl (by decide) (am_fc rfl (am_fc rfl am_fn)) (Nat.le_of_ble_eq_true rfl) ?_
  show am_Ev E l (RX12, cX12_cut, 2, (some .int), [], am_rm 1 0 0) (fun b a s x => am_Z E 0 0 b a s ((fun (v : Int32) => ((.inl (some (.int v)), S) : am_R)) x)) 0 0 0 [some (.int p0), some (.int p1)] [] S (f_X12_cut p0 p1)
  unfold f_X12_cut
  refine ev_iload_n dX12_cut_0 rfl ?_
  refine ev_iconst (v := 0) dX12_cut_1 (by decide) ?_
  refine ev_iload_n dX12_cut_2 rfl ?_
  refine ev_callP (am_callS (as := [.int p0]) (st := [.int 0, .int p0]) ct_X12_85 dX12_cut_3 rfl (am_le rfl) (am_fit (by omega) (by decide) (by decide) (by decide)) (t_X12_lengthOf hl )) (fun v1 h1 => ?_)
  refine ev_iload_n dX12_cut_6 rfl ?_
  refine ev_isub dX12_cut_7 ?_
  refine ev_callP (am_callS (as := [.int 0, .int (v1 - p1)]) (st := [.int p0]) ct_X12_94 dX12_cut_8 rfl (am_le rfl) (am_fit (by omega) (by decide) (by decide) (by decide)) (t_J9_max_7cf53 hl )) (fun v2 h2 => ?_)
  refine ev_ishr dX12_cut_11 ?_
  exact ev_iret dX12_cut_12 rfl rfl (by decide) (by decide) rfl
def f_X12_isBegin (p0 : Int32) (p1 : Int32) : Option (Int32) :=
  ((f_X12_lengthOf p0).bind (fun v1 => ((f_X12_lengthOf p1).bind (fun v2 => (if v2 < v1 then some 0 else ((f_X12_lengthOf p0).bind (fun v4 => ((f_X12_cut p1 v4).bind (fun v5 => (if v5 = p0 then some 1 else some 0))))))))))
set_option maxRecDepth 20000 in
theorem t_X12_isBegin {E : am_E} {l : Launch} (hl : l.stackTraces = false) {S : am_S} {p0 : Int32} {p1 : Int32}  : am_M E l yX12_isBegin (.code yX12_isBegin cX12_isBegin 2 (some .boolean)) 2 0 0 [.int p0, .int p1] S ((f_X12_isBegin p0 p1).map (fun (v : Int32) => ((.inl (some (.int v)), S) : am_R))) := by
  refine am_M_of (w := fun (v : Int32) => ((.inl (some (.int v)), S) : am_R)) hl (by decide) (am_fc rfl (am_fc rfl am_fn)) (Nat.le_of_ble_eq_true rfl) ?_
  show am_Ev E l (RX12, cX12_isBegin, 2, (some .boolean), [], am_rm 2 0 0) (fun b a s x => am_Z E 0 0 b a s ((fun (v : Int32) => ((.inl (some (.int v)), S) : am_R)) x)) 0 0 0 [some (.int p0), some (.int p1)] [] S (f_X12_isBegin p0 p1)
  unfold f_X12_isBegin
  refine ev_iload_n dX12_isBegin_0 rfl ?_
  refine ev_callP (am_callS (as := [.int p0]) (st := []) ct_X12_85 dX12_isBegin_1 rfl (am_le rfl) (am_fit (by omega) (by decide) (by decide) (by decide)) (t_X12_lengthOf hl )) (fun v1 h1 => ?_)
  refine ev_iload_n dX12_isBegin_4 rfl ?_
  refine ev_callP (am_callS (as := [.int p1]) (st := [.int v1]) ct_X12_85 dX12_isBegin_5 rfl (am_le rfl) (am_fit (by omega) (by decide) (by decide) (by decide)) (t_X12_lengthOf hl )) (fun v2 h2 => ?_)
  refine ev_icmp_gt (tgt := 27) dX12_isBegin_8 (by decide) (fun c3 => ?_) (fun c3 => ?_)
  · refine ev_iconst (v := 0) dX12_isBegin_27 (by decide) ?_
    exact ev_iret dX12_isBegin_28 rfl (by decide) (by decide) (by decide) rfl
  · refine ev_iload_n dX12_isBegin_11 rfl ?_
    refine ev_iload_n dX12_isBegin_12 rfl ?_
    refine ev_callP (am_callS (as := [.int p0]) (st := [.int p1]) ct_X12_85 dX12_isBegin_13 rfl (am_le rfl) (am_fit (by omega) (by decide) (by decide) (by decide)) (t_X12_lengthOf hl )) (fun v4 h4 => ?_)
    refine ev_callP (am_callS (as := [.int p1, .int v4]) (st := []) ct_X12_99 dX12_isBegin_16 rfl (am_le rfl) (am_fit (by omega) (by decide) (by decide) (by decide)) (t_X12_cut hl )) (fun v5 h5 => ?_)
    refine ev_iload_n dX12_isBegin_19 rfl ?_
    refine ev_icmp_ne (tgt := 27) dX12_isBegin_20 (by decide) (fun c6 => ?_) (fun c6 => ?_)
    · refine ev_iconst (v := 0) dX12_isBegin_27 (by decide) ?_
      exact ev_iret dX12_isBegin_28 rfl (by decide) (by decide) (by decide) rfl
    · refine ev_iconst (v := 1) dX12_isBegin_23 (by decide) ?_
      refine ev_goto (tgt := 28) dX12_isBegin_24 (by decide) ?_
      exact ev_iret dX12_isBegin_28 rfl (by decide) (by decide) (by decide) rfl
def f_X12_feed_b60 (S : am_S) (a0 : Nat) (x12 : Int32 × (Nat → Nat → Int32)) : Option ((Int32 × (Nat → Nat → Int32)) ⊕ ((Nat → Nat → Int32))) :=
  (if x12.1 < 20 then ((am_rd S.2 a0 5 2).bind (fun q14 => ((am_rd S.2 a0 12 1).bind (fun q15 => ((am_ld x12.2 q15 (x12.1 / 4)).bind (fun v16 => ((am_st x12.2 q14 ((x12.2 a0 6) + x12.1) (((v16 >>> ((24 - (8 * (x12.1 - x12.1 / 4 * 4))) &&& 31))).toInt8.toInt32).toInt8.toInt32).bind (fun σ17 => some (.inl ((x12.1 + 1), σ17)))))))))) else some (.inr x12.2))
def f_X12_feed (S : am_S) (p0 : Nat) (p1 : Int32) (p2 : Int32) (p3 : Int32) (p4 : Int32) (p5 : Int32) : Option (Int32 × (Nat → Nat → Int32)) :=
  (if 400 < (((am_u2 S.1 p0 0 0) p0 6) + 20) then some ((-1), (am_u2 S.1 p0 0 0)) else ((am_rd S.2 p0 12 1).bind (fun q2 => ((am_st (am_u2 S.1 p0 0 0) q2 0 p1).bind (fun σ3 => ((am_rd S.2 p0 12 1).bind (fun q4 => ((am_st σ3 q4 1 p2).bind (fun σ5 => ((am_rd S.2 p0 12 1).bind (fun q6 => ((am_st σ5 q6 2 p3).bind (fun σ7 => ((am_rd S.2 p0 12 1).bind (fun q8 => ((am_st σ7 q8 3 p4).bind (fun σ9 => ((am_rd S.2 p0 12 1).bind (fun q10 => ((am_st σ9 q10 4 p5).bind (fun σ11 => ((am_loop (f_X12_feed_b60 (σ11, S.2) p0) am_fuel (0, σ11)).bind (fun t12 => some (((am_u2 t12 p0 6 ((t12 p0 6) + 20)) p0 6), (am_u2 t12 p0 6 ((t12 p0 6) + 20))))))))))))))))))))))))))
set_option maxRecDepth 20000 in
theorem t_X12_feed {E : am_E} {l : Launch} (hl : l.stackTraces = false) {S : am_S} {p0 : Nat} {p1 : Int32} {p2 : Int32} {p3 : Int32} {p4 : Int32} {p5 : Int32} (kp0 : am_kd p0 = 112) : am_M E l yX12_feed (.code yX12_feed cX12_feed 7 (some .int)) 0 0 0 [.ref p0, .int p1, .int p2, .int p3, .int p4, .int p5] S ((f_X12_feed S p0 p1 p2 p3 p4 p5).map (fun (x : Int32 × (Nat → Nat → Int32)) => ((.inl (some (.int x.1)), (x.2, S.2)) : am_R))) := by
  refine am_M_of (w := fun (x : Int32 × (Nat → Nat → Int32)) => ((.inl (some (.int x.1)), (x.2, S.2)) : am_R)) hl (by decide) (am_fc rfl (am_fc rfl (am_fc rfl (am_fc rfl (am_fc rfl (am_fc rfl am_fn)))))) (Nat.le_of_ble_eq_true rfl) ?_
  show am_Ev E l (RX12, cX12_feed, 7, (some .int), [], am_rm 0 0 0) (fun b a s x => am_Z E 0 0 b a s ((fun (x : Int32 × (Nat → Nat → Int32)) => ((.inl (some (.int x.1)), (x.2, S.2)) : am_R)) x)) 0 0 0 [some (.ref p0), some (.int p1), some (.int p2), some (.int p3), some (.int p4), some (.int p5), none] [] S (f_X12_feed S p0 p1 p2 p3 p4 p5)
  unfold f_X12_feed
  refine ev_aload_n dX12_feed_0 rfl ?_
  refine ev_iconst (v := 0) dX12_feed_1 (by decide) ?_
  refine ev_putI fk_X12_3 tyX12 tyX12_ok nmX12 rfl (by decide +kernel) (by decide) dX12_feed_2 kp0 ?_
  refine ev_aload_n dX12_feed_5 rfl ?_
  refine ev_get fk_X12_102 dX12_feed_6 kp0 (am_fvI (by decide)) ?_
  refine ev_bipush (v := 20) dX12_feed_9 (by decide) ?_
  refine ev_iadd dX12_feed_11 ?_
  refine ev_sipush (v := 400) dX12_feed_12 (by decide) ?_
  refine ev_icmp_le (tgt := 20) dX12_feed_15 (by decide) (fun c1 => ?_) (fun c1 => ?_)
  · refine ev_aload_n dX12_feed_20 rfl ?_
    refine ev_getR fk_X12_30 (by decide) dX12_feed_21 kp0 (fun q2 k2 r2 => ?_)
    refine ev_iconst (v := 0) dX12_feed_24 (by decide) ?_
    refine ev_iload_n dX12_feed_25 rfl ?_
    refine ev_iast dX12_feed_26 k2 (fun σ3 h3 => ?_)
    refine ev_aload_n dX12_feed_27 rfl ?_
    refine ev_getR fk_X12_30 (by decide) dX12_feed_28 kp0 (fun q4 k4 r4 => ?_)
    refine ev_iconst (v := 1) dX12_feed_31 (by decide) ?_
    refine ev_iload_n dX12_feed_32 rfl ?_
    refine ev_iast dX12_feed_33 k4 (fun σ5 h5 => ?_)
    refine ev_aload_n dX12_feed_34 rfl ?_
    refine ev_getR fk_X12_30 (by decide) dX12_feed_35 kp0 (fun q6 k6 r6 => ?_)
    refine ev_iconst (v := 2) dX12_feed_38 (by decide) ?_
    refine ev_iload_n dX12_feed_39 rfl ?_
    refine ev_iast dX12_feed_40 k6 (fun σ7 h7 => ?_)
    refine ev_aload_n dX12_feed_41 rfl ?_
    refine ev_getR fk_X12_30 (by decide) dX12_feed_42 kp0 (fun q8 k8 r8 => ?_)
    refine ev_iconst (v := 3) dX12_feed_45 (by decide) ?_
    refine ev_iload dX12_feed_46 rfl ?_
    refine ev_iast dX12_feed_48 k8 (fun σ9 h9 => ?_)
    refine ev_aload_n dX12_feed_49 rfl ?_
    refine ev_getR fk_X12_30 (by decide) dX12_feed_50 kp0 (fun q10 k10 r10 => ?_)
    refine ev_iconst (v := 4) dX12_feed_53 (by decide) ?_
    refine ev_iload dX12_feed_54 rfl ?_
    refine ev_iast dX12_feed_56 k10 (fun σ11 h11 => ?_)
    refine ev_iconst (v := 0) dX12_feed_57 (by decide) ?_
    refine ev_istore dX12_feed_58 (am_lt rfl) ?_
    refine ev_weak (am_wk (am_wf (am_wf (am_wf (am_wf (am_wf (am_wk am_wn))))))) (ev_loop 60 106 (fun x12 : Int32 × (Nat → Nat → Int32) => [some (.ref p0), none, none, none, none, none, some (.int x12.1)]) (fun t12 : (Nat → Nat → Int32) => [some (.ref p0), none, none, none, none, none, none]) (fun x12 => (x12.2, S.2)) (fun t12 => (t12, S.2)) (fun x12 G12 hB12 hE12 => ?_) (fun t12 => ?_) am_fuel (0, σ11))
    · unfold f_X12_feed_b60
      refine ev_iload dX12_feed_60 rfl ?_
      refine ev_bipush (v := 20) dX12_feed_62 (by decide) ?_
      refine ev_eq am_ib ?_
      refine ev_icmp_ge (tgt := 106) dX12_feed_64 (by decide) (fun c18 => ?_) (fun c18 => ?_)
      · exact ev_leaf (am_wk (am_wf (am_wf (am_wf (am_wf (am_wf (am_wf am_wn))))))) (hE12 x12.2)
      · refine ev_aload_n dX12_feed_67 rfl ?_
        refine ev_eq (Option.bind_assoc _ _ _) ?_
        refine ev_getR fk_X12_23 (by decide) dX12_feed_68 kp0 (fun q19 k19 r19 => ?_)
        refine ev_aload_n dX12_feed_71 rfl ?_
        refine ev_get fk_X12_102 dX12_feed_72 kp0 (am_fvI (by decide)) ?_
        refine ev_iload dX12_feed_75 rfl ?_
        refine ev_iadd dX12_feed_77 ?_
        refine ev_aload_n dX12_feed_78 rfl ?_
        refine ev_eq (Option.bind_assoc _ _ _) ?_
        refine ev_getR fk_X12_30 (by decide) dX12_feed_79 kp0 (fun q20 k20 r20 => ?_)
        refine ev_iload dX12_feed_82 rfl ?_
        refine ev_iconst (v := 4) dX12_feed_84 (by decide) ?_
        refine ev_idiv dX12_feed_85 (by decide) ?_
        refine ev_eq (Option.bind_assoc _ _ _) ?_
        refine ev_iald dX12_feed_86 k20 (fun v21 h21 => ?_)
        refine ev_bipush (v := 24) dX12_feed_87 (by decide) ?_
        refine ev_bipush (v := 8) dX12_feed_89 (by decide) ?_
        refine ev_iload dX12_feed_91 rfl ?_
        refine ev_iconst (v := 4) dX12_feed_93 (by decide) ?_
        refine ev_irem dX12_feed_94 (by decide) ?_
        refine ev_imul dX12_feed_95 ?_
        refine ev_isub dX12_feed_96 ?_
        refine ev_ishr dX12_feed_97 ?_
        refine ev_i2b dX12_feed_98 ?_
        refine ev_eq (Option.bind_assoc _ _ _) ?_
        refine ev_bast dX12_feed_99 k19 (fun σ22 h22 => ?_)
        refine ev_iinc (v := (x12.1 + 1)) dX12_feed_100 (am_lt rfl) rfl rfl ?_
        refine ev_goto (tgt := 60) dX12_feed_103 (by decide) ?_
        exact ev_leaf (am_wk (am_wf (am_wf (am_wf (am_wf (am_wf (am_wk am_wn))))))) (hB12 ((x12.1 + 1), σ22))
    · refine ev_aload_n dX12_feed_106 rfl ?_
      refine ev_dup dX12_feed_107 rfl ?_
      refine ev_get fk_X12_102 dX12_feed_108 kp0 (am_fvI (by decide)) ?_
      refine ev_bipush (v := 20) dX12_feed_111 (by decide) ?_
      refine ev_iadd dX12_feed_113 ?_
      refine ev_putI fk_X12_102 tyX12 tyX12_ok nmX12 rfl (by decide +kernel) (by decide) dX12_feed_114 kp0 ?_
      refine ev_aload_n dX12_feed_117 rfl ?_
      refine ev_get fk_X12_102 dX12_feed_118 kp0 (am_fvI (by decide)) ?_
      exact ev_iret dX12_feed_121 rfl rfl (by decide) (by decide) rfl
  · refine ev_iconst (v := (-1)) dX12_feed_18 (by decide) ?_
    exact ev_iret dX12_feed_19 rfl rfl (by decide) (by decide) rfl
