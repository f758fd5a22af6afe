def f_X6_judge_b12 (S : am_S) (a0 : Nat) (a1 : Nat) (a2 : Int32) (x1 : Int32 × (Nat → Nat → Int32)) : Option ((Int32 × (Nat → Nat → Int32)) ⊕ ((Nat → Nat → Int32))) :=
  (if x1.1 < (x1.2 a1 0) then ((f_X6_hasRinging (x1.2, S.2) a0 a2).bind (fun v3 => (if v3 = 0 then some (.inr x1.2) else ((f_X6_takenAt (x1.2, S.2) a0 a1 a2 x1.1).bind (fun y5 => ((am_rd S.2 a0 3 1).bind (fun q6 => ((am_ld y5.2 q6 a2).bind (fun v7 => ((if y5.1 = v7 then some (am_u2 y5.2 a0 7 ((y5.2 a0 7) + 1)) else (if y5.1 = (-1) then some y5.2 else some (am_u2 y5.2 a0 8 ((y5.2 a0 8) + 1)))).bind (fun t8 => some (.inl ((x1.1 + 1), t8))))))))))))) else some (.inr x1.2))
def f_X6_judge (S : am_S) (p0 : Nat) (p1 : Nat) (p2 : Int32) : Option ((Nat → Nat → Int32)) :=
  ((am_loop (f_X6_judge_b12 ((am_u2 (am_u2 S.1 p0 7 0) p0 8 0), S.2) p0 p1 p2) am_fuel (0, (am_u2 (am_u2 S.1 p0 7 0) p0 8 0))).bind (fun t1 => some t1))
set_option maxRecDepth 20000 in
theorem t_X6_judge {E : am_E} {l : Launch} (hl : l.stackTraces = false) {S : am_S} {p0 : Nat} {p1 : Nat} {p2 : Int32} (kp0 : am_kd p0 = 106) (kp1 : am_kd p1 = 109) : am_M E l yX6_judge (.code yX6_judge cX6_judge 5 none) 5 0 0 [.ref p0, .ref p1, .int p2] S ((f_X6_judge S p0 p1 p2).map (fun (x : Nat → Nat → Int32) => ((.inl none, (x, S.2)) : am_R))) := by
  refine am_M_of (w := fun (x : Nat → Nat → Int32) => ((.inl none, (x, S.2)) : am_R)) hl (by decide) (am_fc rfl (am_fc rfl (am_fc rfl am_fn))) (Nat.le_of_ble_eq_true rfl) ?_
  show am_Ev E l (RX6, cX6_judge, 5, none, [], am_rm 5 0 0) (fun b a s x => am_Z E 0 0 b a s ((fun (x : Nat → Nat → Int32) => ((.inl none, (x, S.2)) : am_R)) x)) 0 0 0 [some (.ref p0), some (.ref p1), some (.int p2), none, none] [] S (f_X6_judge S p0 p1 p2)
  unfold f_X6_judge
  refine ev_aload_n dX6_judge_0 rfl ?_
  refine ev_iconst (v := 0) dX6_judge_1 (by decide) ?_
  refine ev_putI fk_X6_84 tyX6 tyX6_ok nmX6 rfl (by decide +kernel) (by decide) dX6_judge_2 kp0 ?_
  refine ev_aload_n dX6_judge_5 rfl ?_
  refine ev_iconst (v := 0) dX6_judge_6 (by decide) ?_
  refine ev_putI fk_X6_87 tyX6 tyX6_ok nmX6 rfl (by decide +kernel) (by decide) dX6_judge_7 kp0 ?_
  refine ev_iconst (v := 0) dX6_judge_10 (by decide) ?_
  refine ev_istore_n dX6_judge_11 (am_lt rfl) ?_
  refine ev_weak (am_wk (am_wk (am_wk (am_wk (am_wf am_wn))))) (ev_loop 12 83 (fun x1 : Int32 × (Nat → Nat → Int32) => [some (.ref p0), some (.ref p1), some (.int p2), some (.int x1.1), none]) (fun t1 : (Nat → Nat → Int32) => [none, none, none, none, none]) (fun x1 => (x1.2, S.2)) (fun t1 => (t1, S.2)) (fun x1 G1 hB1 hE1 => ?_) (fun t1 => ?_) am_fuel (0, (am_u2 (am_u2 S.1 p0 7 0) p0 8 0)))
  · unfold f_X6_judge_b12
    refine ev_iload_n dX6_judge_12 rfl ?_
    refine ev_aload_n dX6_judge_13 rfl ?_
    refine ev_getN fk_X6_90 dX6_judge_14 kp1 (am_fvI (by decide)) ?_
    refine ev_eq am_ib ?_
    refine ev_icmp_ge (tgt := 83) dX6_judge_17 (by decide) (fun c10 => ?_) (fun c10 => ?_)
    · exact ev_leaf (am_wf (am_wf (am_wf (am_wf (am_wf am_wn))))) (hE1 x1.2)
    · refine ev_aload_n dX6_judge_20 rfl ?_
      refine ev_iload_n dX6_judge_21 rfl ?_
      refine ev_eq (Option.bind_assoc _ _ _) ?_
      refine ev_callP (am_callV (as := [.int p2]) (o := p0) (st := []) cv_X6_57 dX6_judge_22 kp0 rfl (am_le rfl) (am_fit (by omega) (by decide) (by decide) (by decide)) (t_X6_hasRinging hl kp0)) (fun v11 h11 => ?_)
      refine ev_eq am_ib ?_
      refine ev_if_eq (tgt := 83) dX6_judge_25 (by decide) (fun c12 => ?_) (fun c12 => ?_)
      · exact ev_leaf (am_wf (am_wf (am_wf (am_wf (am_wf am_wn))))) (hE1 x1.2)
      · refine ev_aload_n dX6_judge_28 rfl ?_
        refine ev_aload_n dX6_judge_29 rfl ?_
        refine ev_iload_n dX6_judge_30 rfl ?_
        refine ev_iload_n dX6_judge_31 rfl ?_
        refine ev_eq (Option.bind_assoc _ _ _) ?_
        refine ev_callWI (am_callV (as := [.ref p1, .int p2, .int x1.1]) (o := p0) (st := []) cv_X6_93 dX6_judge_32 kp0 rfl (am_le rfl) (am_fit (by omega) (by decide) (by decide) (by decide)) (t_X6_takenAt hl kp0 kp1)) (fun y13 h13 => ?_)
        refine ev_istore dX6_judge_35 (am_lt rfl) ?_
        refine ev_iload dX6_judge_37 rfl ?_
        refine ev_aload_n dX6_judge_39 rfl ?_
        refine ev_eq (Option.bind_assoc _ _ _) ?_
        refine ev_getR fk_X6_18 (by decide) dX6_judge_40 kp0 (fun q14 k14 r14 => ?_)
        refine ev_iload_n dX6_judge_43 rfl ?_
        refine ev_eq (Option.bind_assoc _ _ _) ?_
        refine ev_iald dX6_judge_44 k14 (fun v15 h15 => ?_)
        refine ev_eq (Option.bind_assoc _ _ _) ?_
        refine ev_reg (cs' := 0) (sl' := 0) 77 (fun t16 : (Nat → Nat → Int32) => [some (.ref p0), some (.ref p1), some (.int p2), some (.int x1.1), none]) (fun t16 => []) (fun t16 => (t16, S.2)) (fun hJ16 => ?_) (fun t16 => ?_)
        · refine ev_eq am_ib ?_
          refine ev_icmp_ne (tgt := 61) dX6_judge_45 (by decide) (fun c16 => ?_) (fun c16 => ?_)
          · refine ev_iload dX6_judge_61 rfl ?_
            refine ev_iconst (v := (-1)) dX6_judge_63 (by decide) ?_
            refine ev_eq am_ib ?_
            refine ev_icmp_eq (tgt := 77) dX6_judge_64 (by decide) (fun c17 => ?_) (fun c17 => ?_)
            · exact ev_leaf (am_wk (am_wk (am_wk (am_wk (am_wf am_wn))))) (hJ16 y13.2)
            · refine ev_aload_n dX6_judge_67 rfl ?_
              refine ev_dup dX6_judge_68 rfl ?_
              refine ev_get fk_X6_87 dX6_judge_69 kp0 (am_fvI (by decide)) ?_
              refine ev_iconst (v := 1) dX6_judge_72 (by decide) ?_
              refine ev_iadd dX6_judge_73 ?_
              refine ev_putI fk_X6_87 tyX6 tyX6_ok nmX6 rfl (by decide +kernel) (by decide) dX6_judge_74 kp0 ?_
              exact ev_leaf (am_wk (am_wk (am_wk (am_wk (am_wf am_wn))))) (hJ16 (am_u2 y13.2 p0 8 ((y13.2 p0 8) + 1)))
          · refine ev_aload_n dX6_judge_48 rfl ?_
            refine ev_dup dX6_judge_49 rfl ?_
            refine ev_get fk_X6_84 dX6_judge_50 kp0 (am_fvI (by decide)) ?_
            refine ev_iconst (v := 1) dX6_judge_53 (by decide) ?_
            refine ev_iadd dX6_judge_54 ?_
            refine ev_putI fk_X6_84 tyX6 tyX6_ok nmX6 rfl (by decide +kernel) (by decide) dX6_judge_55 kp0 ?_
            refine ev_goto (tgt := 77) dX6_judge_58 (by decide) ?_
            exact ev_leaf (am_wk (am_wk (am_wk (am_wk (am_wf am_wn))))) (hJ16 (am_u2 y13.2 p0 7 ((y13.2 p0 7) + 1)))
        · refine ev_iinc (v := (x1.1 + 1)) dX6_judge_77 (am_lt rfl) rfl rfl ?_
          refine ev_goto (tgt := 12) dX6_judge_80 (by decide) ?_
          exact ev_leaf (am_wk (am_wk (am_wk (am_wk (am_wf am_wn))))) (hB1 ((x1.1 + 1), t16))
  · exact ev_vret dX6_judge_83 rfl (by decide) (by decide) rfl
def f_X11_sure (S : am_S) (p0 : Nat) (p1 : Int32) (p2 : Int32) : Option (am_R) :=
  (am_thV (f_X11_needRinging S p0 p1) (fun S1 => ((am_rd S1.2 p0 3 109).bind (fun q2 => ((am_rd S1.2 q2 15 106).bind (fun q3 => ((am_rd S1.2 p0 3 109).bind (fun q4 => ((f_X6_judge S1 q3 q4 p1).bind (fun σ5 => (if p2 = 0 then ((am_rd S1.2 p0 3 109).bind (fun q7 => ((am_rd S1.2 q7 15 106).bind (fun q8 => some (.inl (some (.int (σ5 q8 7))), (σ5, S1.2)))))) else ((am_rd S1.2 p0 3 109).bind (fun q9 => ((am_rd S1.2 q9 15 106).bind (fun q10 => some (.inl (some (.int (σ5 q10 8))), (σ5, S1.2)))))))))))))))))
set_option maxRecDepth 20000 in
theorem t_X11_sure {E : am_E} {l : Launch} (hl : l.stackTraces = false) {S : am_S} {p0 : Nat} {p1 : Int32} {p2 : Int32} (kp0 : am_kd p0 = 111) : am_M E l yX11_sure (.code yX11_sure cX11_sure 3 (some .int)) 6 1 6 [.ref p0, .int p1, .int p2] S (f_X11_sure S p0 p1 p2) := by
  refine am_M_id (am_M_of (w := fun x => x) hl (by decide) (am_fc rfl (am_fc rfl (am_fc rfl am_fn))) (Nat.le_of_ble_eq_true rfl) ?_)
  show am_Ev E l (RX11, cX11_sure, 3, (some .int), [], am_rm 6 1 6) (am_Z E 1 6) 0 0 0 [some (.ref p0), some (.int p1), some (.int p2)] [] S (f_X11_sure S p0 p1 p2)
  unfold f_X11_sure
  refine ev_aload_n dX11_sure_0 rfl ?_
  refine ev_iload_n dX11_sure_1 rfl ?_
  refine ev_callGV (am_callV (as := [.int p1]) (o := p0) (st := []) cv_X11_211 dX11_sure_2 kp0 rfl (am_le rfl) (am_fit (by omega) (by decide) (by decide) (by decide)) (t_X11_needRinging hl kp0)) rfl (by decide) (by decide) (fun S1 h1 => ?_)
  refine ev_aload_n dX11_sure_5 rfl ?_
  refine ev_getR fk_X11_20 (by decide) dX11_sure_6 kp0 (fun q2 k2 r2 => ?_)
  refine ev_getRN fk_X11_201 (by decide) dX11_sure_9 k2 (fun q3 k3 r3 => ?_)
  refine ev_aload_n dX11_sure_12 rfl ?_
  refine ev_getR fk_X11_20 (by decide) dX11_sure_13 kp0 (fun q4 k4 r4 => ?_)
  refine ev_iload_n dX11_sure_16 rfl ?_
  refine ev_callWV (am_callVN (as := [.ref q4, .int p1]) (o := q3) (st := []) cv_X11_221 dX11_sure_17 k3 rfl (am_le rfl) (am_fit (by omega) (by decide) (by decide) (by decide)) (am_no1 (fun _ => ⟨_, rfl⟩)) (t_X6_judge hl k3 k4)) (fun σ5 h5 => ?_)
  refine ev_iload_n dX11_sure_20 rfl ?_
  refine ev_if_eq (tgt := 37) dX11_sure_21 (by decide) (fun c6 => ?_) (fun c6 => ?_)
  · refine ev_aload_n dX11_sure_37 rfl ?_
    refine ev_getR fk_X11_20 (by decide) dX11_sure_38 kp0 (fun q7 k7 r7 => ?_)
    refine ev_getRN fk_X11_201 (by decide) dX11_sure_41 k7 (fun q8 k8 r8 => ?_)
    refine ev_getN fk_X11_228 dX11_sure_44 k8 (am_fvI (by decide)) ?_
    exact ev_iret dX11_sure_47 rfl rfl (by decide) (by decide) rfl
  · refine ev_aload_n dX11_sure_24 rfl ?_
    refine ev_getR fk_X11_20 (by decide) dX11_sure_25 kp0 (fun q9 k9 r9 => ?_)
    refine ev_getRN fk_X11_201 (by decide) dX11_sure_28 k9 (fun q10 k10 r10 => ?_)
    refine ev_getN fk_X11_225 dX11_sure_31 k10 (am_fvI (by decide)) ?_
    refine ev_goto (tgt := 47) dX11_sure_34 (by decide) ?_
    exact ev_iret dX11_sure_47 rfl rfl (by decide) (by decide) rfl
def f_X11_isOneBegin (p0 : Int32) (p1 : Int32) : Option (Int32) :=
  ((f_X11_strokesOf p0).bind (fun v1 => ((f_X11_strokesOf p1).bind (fun v2 => ((f_J9_min_7cf53 v1 v2).bind (fun v3 => ((f_X11_cutTo p0 v3).bind (fun v4 => ((f_X11_cutTo p1 v3).bind (fun v5 => (if v4 = v5 then some 1 else some 0)))))))))))
set_option maxRecDepth 20000 in
theorem t_X11_isOneBegin {E : am_E} {l : Launch} (hl : l.stackTraces = false) {S : am_S} {p0 : Int32} {p1 : Int32}  : am_M E l yX11_isOneBegin (.code yX11_isOneBegin cX11_isOneBegin 3 (some .boolean)) 2 0 0 [.int p0, .int p1] S ((f_X11_isOneBegin p0 p1).map (fun (v : Int32) => ((.inl (some (.int v)), S) : am_R))) := by
  refine am_M_of (w := fun (v : Int32) => ((.inl (some (.int v)), S) : am_R)) hl (by decide) (am_fc rfl (am_fc rfl am_fn)) (Nat.le_of_ble_eq_true rfl) ?_
  show am_Ev E l (RX11, cX11_isOneBegin, 3, (some .boolean), [], am_rm 2 0 0) (fun b a s x => am_Z E 0 0 b a s ((fun (v : Int32) => ((.inl (some (.int v)), S) : am_R)) x)) 0 0 0 [some (.int p0), some (.int p1), none] [] S (f_X11_isOneBegin p0 p1)
  unfold f_X11_isOneBegin
  refine ev_iload_n dX11_isOneBegin_0 rfl ?_
  refine ev_callP (am_callS (as := [.int p0]) (st := []) ct_X11_440 dX11_isOneBegin_1 rfl (am_le rfl) (am_fit (by omega) (by decide) (by decide) (by decide)) (t_X11_strokesOf hl )) (fun v1 h1 => ?_)
  refine ev_iload_n dX11_isOneBegin_4 rfl ?_
  refine ev_callP (am_callS (as := [.int p1]) (st := [.int v1]) ct_X11_440 dX11_isOneBegin_5 rfl (am_le rfl) (am_fit (by omega) (by decide) (by decide) (by decide)) (t_X11_strokesOf hl )) (fun v2 h2 => ?_)
  refine ev_callP (am_callS (as := [.int v1, .int v2]) (st := []) ct_X11_322 dX11_isOneBegin_8 rfl (am_le rfl) (am_fit (by omega) (by decide) (by decide) (by decide)) (t_J9_min_7cf53 hl )) (fun v3 h3 => ?_)
  refine ev_istore_n dX11_isOneBegin_11 (am_lt rfl) ?_
  refine ev_iload_n dX11_isOneBegin_12 rfl ?_
  refine ev_iload_n dX11_isOneBegin_13 rfl ?_
  refine ev_callP (am_callS (as := [.int p0, .int v3]) (st := []) ct_X11_448 dX11_isOneBegin_14 rfl (am_le rfl) (am_fit (by omega) (by decide) (by decide) (by decide)) (t_X11_cutTo hl )) (fun v4 h4 => ?_)
  refine ev_iload_n dX11_isOneBegin_17 rfl ?_
  refine ev_iload_n dX11_isOneBegin_18 rfl ?_
  refine ev_callP (am_callS (as := [.int p1, .int v3]) (st := [.int v4]) ct_X11_448 dX11_isOneBegin_19 rfl (am_le rfl) (am_fit (by omega) (by decide) (by decide) (by decide)) (t_X11_cutTo hl )) (fun v5 h5 => ?_)
  refine ev_icmp_ne (tgt := 29) dX11_isOneBegin_22 (by decide) (fun c6 => ?_) (fun c6 => ?_)
  · refine ev_iconst (v := 0) dX11_isOneBegin_29 (by decide) ?_
    exact ev_iret dX11_isOneBegin_30 rfl (by decide) (by decide) (by decide) rfl
  · refine ev_iconst (v := 1) dX11_isOneBegin_25 (by decide) ?_
    refine ev_goto (tgt := 30) dX11_isOneBegin_26 (by decide) ?_
    exact ev_iret dX11_isOneBegin_30 rfl (by decide) (by decide) (by decide) rfl
def f_X9_clashesOf_b23 (S : am_S) (a0 : Nat) (a1 : Int32) (a3 : Int32) (a4 : Int32) (x4 : Int32 × Int32) : Option ((Int32 × Int32) ⊕ (Int32)) :=
  (if x4.2 < a3 then (if a4 = (-1) then some (.inr x4.1) else ((f_X9_wordFor S a0 a1 x4.2).bind (fun v7 => ((if v7 = (-1) then some x4.1 else ((f_X11_isOneBegin a4 v7).bind (fun v9 => (if v9 = 0 then some x4.1 else some (x4.1 + 1))))).bind (fun t8 => some (.inl (t8, (x4.2 + 1)))))))) else some (.inr x4.1))
def f_X9_clashesOf_b4 (S : am_S) (a0 : Nat) (a1 : Int32) (x1 : Int32 × Int32) : Option ((Int32 × Int32) ⊕ (Int32)) :=
  (if x1.2 < (S.1 a0 1) then ((f_X9_wordFor S a0 a1 x1.2).bind (fun v3 => ((am_loop (f_X9_clashesOf_b23 S a0 a1 x1.2 v3) am_fuel (x1.1, 0)).bind (fun t4 => some (.inl (t4, (x1.2 + 1))))))) else some (.inr x1.1))
def f_X9_clashesOf (S : am_S) (p0 : Nat) (p1 : Int32) : Option (Int32) :=
  ((am_loop (f_X9_clashesOf_b4 S p0 p1) am_fuel (0, 0)).bind (fun t1 => some t1))
set_option maxRecDepth 20000 in
theorem t_X9_clashesOf {E : am_E} {l : Launch} (hl : l.stackTraces = false) {S : am_S} {p0 : Nat} {p1 : Int32} (kp0 : am_kd p0 = 109) : am_M E l yX9_clashesOf (.code yX9_clashesOf cX9_clashesOf 7 (some .int)) 3 0 0 [.ref p0, .int p1] S ((f_X9_clashesOf S p0 p1).map (fun (v : Int32) => ((.inl (some (.int v)), S) : am_R))) := by
  refine am_M_of (w := fun (v : Int32) => ((.inl (some (.int v)), S) : am_R)) hl (by decide) (am_fc rfl (am_fc rfl am_fn)) (Nat.le_of_ble_eq_true rfl) ?_
  show am_Ev E l (RX9, cX9_clashesOf, 7, (some .int), [], am_rm 3 0 0) (fun b a s x => am_Z E 0 0 b a s ((fun (v : Int32) => ((.inl (some (.int v)), S) : am_R)) x)) 0 0 0 [some (.ref p0), some (.int p1), none, none, none, none, none] [] S (f_X9_clashesOf S p0 p1)
  unfold f_X9_clashesOf
  refine ev_iconst (v := 0) dX9_clashesOf_0 (by decide) ?_
  refine ev_istore_n dX9_clashesOf_1 (am_lt rfl) ?_
  refine ev_iconst (v := 0) dX9_clashesOf_2 (by decide) ?_
  refine ev_istore_n dX9_clashesOf_3 (am_lt rfl) ?_
  refine ev_weak (am_wk (am_wk (am_wk (am_wk (am_wf (am_wf (am_wf am_wn))))))) (ev_loop 4 75 (fun x1 : Int32 × Int32 => [some (.ref p0), some (.int p1), some (.int x1.1), some (.int x1.2), none, none, none]) (fun t1 : Int32 => [none, none, some (.int t1), none, none, none, none]) (fun x1 => S) (fun t1 => S) (fun x1 G1 hB1 hE1 => ?_) (fun t1 => ?_) am_fuel (0, 0))
  · unfold f_X9_clashesOf_b4
    refine ev_iload_n dX9_clashesOf_4 rfl ?_
    refine ev_aload_n dX9_clashesOf_5 rfl ?_
    refine ev_get fk_X9_54 dX9_clashesOf_6 kp0 (am_fvI (by decide)) ?_
    refine ev_eq am_ib ?_
    refine ev_icmp_ge (tgt := 75) dX9_clashesOf_9 (by decide) (fun c17 => ?_) (fun c17 => ?_)
    · exact ev_leaf (am_wf (am_wf (am_wk (am_wf (am_wf (am_wf (am_wf am_wn))))))) (hE1 x1.1)
    · refine ev_aload_n dX9_clashesOf_12 rfl ?_
      refine ev_iload_n dX9_clashesOf_13 rfl ?_
      refine ev_iload_n dX9_clashesOf_14 rfl ?_
      refine ev_eq (Option.bind_assoc _ _ _) ?_
      refine ev_callP (am_callV (as := [.int p1, .int x1.2]) (o := p0) (st := []) cv_X9_89 dX9_clashesOf_15 kp0 rfl (am_le rfl) (am_fit (by omega) (by decide) (by decide) (by decide)) (t_X9_wordFor hl kp0)) (fun v18 h18 => ?_)
      refine ev_istore dX9_clashesOf_18 (am_lt rfl) ?_
      refine ev_iconst (v := 0) dX9_clashesOf_20 (by decide) ?_
      refine ev_istore dX9_clashesOf_21 (am_lt rfl) ?_
      refine ev_eq (Option.bind_assoc _ _ _) ?_
      refine ev_weak (am_wk (am_wk (am_wk (am_wk (am_wk (am_wk (am_wf am_wn))))))) (ev_loop 23 69 (fun x19 : Int32 × Int32 => [some (.ref p0), some (.int p1), some (.int x19.1), some (.int x1.2), some (.int v18), some (.int x19.2), none]) (fun t19 : Int32 => [some (.ref p0), some (.int p1), some (.int t19), some (.int x1.2), none, none, none]) (fun x19 => S) (fun t19 => S) (fun x19 G19 hB19 hE19 => ?_) (fun t19 => ?_) am_fuel (x1.1, 0))
      · unfold f_X9_clashesOf_b23
        refine ev_iload dX9_clashesOf_23 rfl ?_
        refine ev_iload_n dX9_clashesOf_25 rfl ?_
        refine ev_eq am_ib ?_
        refine ev_icmp_ge (tgt := 69) dX9_clashesOf_26 (by decide) (fun c26 => ?_) (fun c26 => ?_)
        · exact ev_leaf (am_wk (am_wk (am_wk (am_wk (am_wf (am_wf (am_wf am_wn))))))) (hE19 x19.1)
        · refine ev_iload dX9_clashesOf_29 rfl ?_
          refine ev_iconst (v := (-1)) dX9_clashesOf_31 (by decide) ?_
          refine ev_eq am_ib ?_
          refine ev_icmp_eq (tgt := 69) dX9_clashesOf_32 (by decide) (fun c27 => ?_) (fun c27 => ?_)
          · exact ev_leaf (am_wk (am_wk (am_wk (am_wk (am_wf (am_wf (am_wf am_wn))))))) (hE19 x19.1)
          · refine ev_aload_n dX9_clashesOf_35 rfl ?_
            refine ev_iload_n dX9_clashesOf_36 rfl ?_
            refine ev_iload dX9_clashesOf_37 rfl ?_
            refine ev_eq (Option.bind_assoc _ _ _) ?_
            refine ev_callP (am_callV (as := [.int p1, .int x19.2]) (o := p0) (st := []) cv_X9_89 dX9_clashesOf_39 kp0 rfl (am_le rfl) (am_fit (by omega) (by decide) (by decide) (by decide)) (t_X9_wordFor hl kp0)) (fun v28 h28 => ?_)
            refine ev_istore dX9_clashesOf_42 (am_lt rfl) ?_
            refine ev_iload dX9_clashesOf_44 rfl ?_
            refine ev_iconst (v := (-1)) dX9_clashesOf_46 (by decide) ?_
            refine ev_eq (Option.bind_assoc _ _ _) ?_
            refine ev_reg (cs' := 0) (sl' := 0) 63 (fun t29 : Int32 => [some (.ref p0), some (.int p1), some (.int t29), some (.int x1.2), some (.int v18), some (.int x19.2), none]) (fun t29 => []) (fun t29 => S) (fun hJ29 => ?_) (fun t29 => ?_)
            · refine ev_eq am_ib ?_
              refine ev_icmp_eq (tgt := 63) dX9_clashesOf_47 (by decide) (fun c29 => ?_) (fun c29 => ?_)
              · exact ev_leaf (am_wk (am_wk (am_wk (am_wk (am_wk (am_wk (am_wf am_wn))))))) (hJ29 x19.1)
              · refine ev_iload dX9_clashesOf_50 rfl ?_
                refine ev_iload dX9_clashesOf_52 rfl ?_
                refine ev_eq (Option.bind_assoc _ _ _) ?_
                refine ev_callP (am_callSN (as := [.int v18, .int v28]) (st := []) ct_X9_124 dX9_clashesOf_54 rfl (am_le rfl) (am_fit (by omega) (by decide) (by decide) (by decide)) (am_no1 (fun _ => ⟨_, rfl⟩)) (t_X11_isOneBegin hl )) (fun v30 h30 => ?_)
                refine ev_eq am_ib ?_
                refine ev_if_eq (tgt := 63) dX9_clashesOf_57 (by decide) (fun c31 => ?_) (fun c31 => ?_)
                · exact ev_leaf (am_wk (am_wk (am_wk (am_wk (am_wk (am_wk (am_wf am_wn))))))) (hJ29 x19.1)
                · refine ev_iinc (v := (x19.1 + 1)) dX9_clashesOf_60 (am_lt rfl) rfl rfl ?_
                  exact ev_leaf (am_wk (am_wk (am_wk (am_wk (am_wk (am_wk (am_wf am_wn))))))) (hJ29 (x19.1 + 1))
            · refine ev_iinc (v := (x19.2 + 1)) dX9_clashesOf_63 (am_lt rfl) rfl rfl ?_
              refine ev_goto (tgt := 23) dX9_clashesOf_66 (by decide) ?_
              exact ev_leaf (am_wk (am_wk (am_wk (am_wk (am_wk (am_wk (am_wf am_wn))))))) (hB19 (t29, (x19.2 + 1)))
      · refine ev_iinc (v := (x1.2 + 1)) dX9_clashesOf_69 (am_lt rfl) rfl rfl ?_
        refine ev_goto (tgt := 4) dX9_clashesOf_72 (by decide) ?_
        exact ev_leaf (am_wk (am_wk (am_wk (am_wk (am_wf (am_wf (am_wf am_wn))))))) (hB1 (t19, (x1.2 + 1)))
  · refine ev_iload_n dX9_clashesOf_75 rfl ?_
    exact ev_iret dX9_clashesOf_76 rfl rfl (by decide) (by decide) rfl
def f_X11_begins (S : am_S) (p0 : Nat) (p1 : Int32) : Option (am_R) :=
  (am_thV (f_X11_needHouse S p0 p1) (fun S1 => ((am_rd S1.2 p0 3 109).bind (fun q2 => ((f_X9_clashesOf S1 q2 p1).bind (fun v3 => some (.inl (some (.int v3)), S1)))))))
set_option maxRecDepth 20000 in
theorem t_X11_begins {E : am_E} {l : Launch} (hl : l.stackTraces = false) {S : am_S} {p0 : Nat} {p1 : Int32} (kp0 : am_kd p0 = 111) : am_M E l yX11_begins (.code yX11_begins cX11_begins 2 (some .int)) 4 1 6 [.ref p0, .int p1] S (f_X11_begins S p0 p1) := by
  refine am_M_id (am_M_of (w := fun x => x) hl (by decide) (am_fc rfl (am_fc rfl am_fn)) (Nat.le_of_ble_eq_true rfl) ?_)
  show am_Ev E l (RX11, cX11_begins, 2, (some .int), [], am_rm 4 1 6) (am_Z E 1 6) 0 0 0 [some (.ref p0), some (.int p1)] [] S (f_X11_begins S p0 p1)
  unfold f_X11_begins
  refine ev_aload_n dX11_begins_0 rfl ?_
  refine ev_iload_n dX11_begins_1 rfl ?_
  refine ev_callGV (am_callV (as := [.int p1]) (o := p0) (st := []) cv_X11_138 dX11_begins_2 kp0 rfl (am_le rfl) (am_fit (by omega) (by decide) (by decide) (by decide)) (t_X11_needHouse hl kp0)) rfl (by decide) (by decide) (fun S1 h1 => ?_)
  refine ev_aload_n dX11_begins_5 rfl ?_
  refine ev_getR fk_X11_20 (by decide) dX11_begins_6 kp0 (fun q2 k2 r2 => ?_)
  refine ev_iload_n dX11_begins_9 rfl ?_
  refine ev_callP (am_callVN (as := [.int p1]) (o := q2) (st := []) cv_X11_231 dX11_begins_10 k2 rfl (am_le rfl) (am_fit (by omega) (by decide) (by decide) (by decide)) (am_no1 (fun _ => ⟨_, rfl⟩)) (t_X9_clashesOf hl k2)) (fun v3 h3 => ?_)
  exact ev_iret dX11_begins_13 rfl rfl (by decide) (by decide) rfl
def f_X9_isSafe_b21 (S : am_S) (a0 : Nat) (a1 : Int32) (a2 : Int32) (a3 : Int32) (a4 : Int32) (x4 : Int32) : Option ((Int32) ⊕ ((Unit) ⊕ (Int32))) :=
  (if x4 < a3 then (if a4 = (-1) then some (.inr (.inl ())) else ((f_X9_wordFor S a0 a1 x4).bind (fun v7 => (if v7 = (-1) then some (.inl (x4 + 1)) else ((f_X11_cutTo a4 a2).bind (fun v9 => ((f_X11_cutTo v7 a2).bind (fun v10 => (if v9 = v10 then some (.inr (.inr 0)) else some (.inl (x4 + 1))))))))))) else some (.inr (.inl ())))
def f_X9_isSafe_b2 (S : am_S) (a0 : Nat) (a1 : Int32) (a2 : Int32) (x1 : Int32) : Option ((Int32) ⊕ ((Unit) ⊕ (Int32))) :=
  (if x1 < (S.1 a0 1) then ((f_X9_wordFor S a0 a1 x1).bind (fun v3 => ((am_loop (f_X9_isSafe_b21 S a0 a1 a2 x1 v3) am_fuel 0).bind (fun r4 => match r4 with | .inl t4 => some (.inl (x1 + 1)) | .inr b4 => some (.inr (.inr b4)))))) else some (.inr (.inr 1)))
def f_X9_isSafe (S : am_S) (p0 : Nat) (p1 : Int32) (p2 : Int32) : Option (Int32) :=
  ((am_loop (f_X9_isSafe_b2 S p0 p1 p2) am_fuel 0).bind (fun r1 => match r1 with | .inl t1 => none | .inr b1 => some b1))
set_option maxRecDepth 20000 in
theorem t_X9_isSafe {E : am_E} {l : Launch} (hl : l.stackTraces = false) {S : am_S} {p0 : Nat} {p1 : Int32} {p2 : Int32} (kp0 : am_kd p0 = 109) : am_M E l yX9_isSafe (.code yX9_isSafe cX9_isSafe 7 (some .boolean)) 2 0 0 [.ref p0, .int p1, .int p2] S ((f_X9_isSafe S p0 p1 p2).map (fun (v : Int32) => ((.inl (some (.int v)), S) : am_R))) := by
  refine am_M_of (w := fun (v : Int32) => ((.inl (some (.int v)), S) : am_R)) hl (by decide) (am_fc rfl (am_fc rfl (am_fc rfl am_fn))) (Nat.le_of_ble_eq_true rfl) ?_
  show am_Ev E l (RX9, cX9_isSafe, 7, (some .boolean), [], am_rm 2 0 0) (fun b a s x => am_Z E 0 0 b a s ((fun (v : Int32) => ((.inl (some (.int v)), S) : am_R)) x)) 0 0 0 [some (.ref p0), some (.int p1), some (.int p2), none, none, none, none] [] S (f_X9_isSafe S p0 p1 p2)
  unfold f_X9_isSafe
  refine ev_iconst (v := 0) dX9_isSafe_0 (by decide) ?_
  refine ev_istore_n dX9_isSafe_1 (am_lt rfl) ?_
  refine ev_weak (am_wk (am_wk (am_wk (am_wk (am_wf (am_wf (am_wf am_wn))))))) (ev_loopR 2 0 (fun x1 : Int32 => [some (.ref p0), some (.int p1), some (.int p2), some (.int x1), none, none, none]) (fun t1 : Unit => [none, none, none, none, none, none, none]) (fun x1 => S) (fun t1 => S) (fun x1 G1 hB1 hE1 hG1 => ?_) (fun t1 => ?_) am_fuel 0)
  · unfold f_X9_isSafe_b2
    refine ev_iload_n dX9_isSafe_2 rfl ?_
    refine ev_aload_n dX9_isSafe_3 rfl ?_
    refine ev_get fk_X9_54 dX9_isSafe_4 kp0 (am_fvI (by decide)) ?_
    refine ev_eq am_ib ?_
    refine ev_icmp_ge (tgt := 77) dX9_isSafe_7 (by decide) (fun c19 => ?_) (fun c19 => ?_)
    · refine ev_iconst (v := 1) dX9_isSafe_77 (by decide) ?_
      exact ev_eq (hG1 _) (ev_iret dX9_isSafe_78 rfl (by decide) (by decide) (by decide) rfl)
    · refine ev_aload_n dX9_isSafe_10 rfl ?_
      refine ev_iload_n dX9_isSafe_11 rfl ?_
      refine ev_iload_n dX9_isSafe_12 rfl ?_
      refine ev_eq (Option.bind_assoc _ _ _) ?_
      refine ev_callP (am_callV (as := [.int p1, .int x1]) (o := p0) (st := []) cv_X9_89 dX9_isSafe_13 kp0 rfl (am_le rfl) (am_fit (by omega) (by decide) (by decide) (by decide)) (t_X9_wordFor hl kp0)) (fun v20 h20 => ?_)
      refine ev_istore dX9_isSafe_16 (am_lt rfl) ?_
      refine ev_iconst (v := 0) dX9_isSafe_18 (by decide) ?_
      refine ev_istore dX9_isSafe_19 (am_lt rfl) ?_
      refine ev_eq (Option.bind_assoc _ _ _) ?_
      refine ev_weak (am_wk (am_wk (am_wk (am_wk (am_wk (am_wk (am_wf am_wn))))))) (ev_loopR 21 71 (fun x21 : Int32 => [some (.ref p0), some (.int p1), some (.int p2), some (.int x1), some (.int v20), some (.int x21), none]) (fun t21 : Unit => [some (.ref p0), some (.int p1), some (.int p2), some (.int x1), none, none, none]) (fun x21 => S) (fun t21 => S) (fun x21 G21 hB21 hE21 hG21 => ?_) (fun t21 => ?_) am_fuel 0)
      · unfold f_X9_isSafe_b21
        refine ev_iload dX9_isSafe_21 rfl ?_
        refine ev_iload_n dX9_isSafe_23 rfl ?_
        refine ev_eq am_ib ?_
        refine ev_icmp_ge (tgt := 71) dX9_isSafe_24 (by decide) (fun c29 => ?_) (fun c29 => ?_)
        · exact ev_leaf (am_wk (am_wk (am_wk (am_wk (am_wf (am_wf (am_wf am_wn))))))) (hE21 ())
        · refine ev_iload dX9_isSafe_27 rfl ?_
          refine ev_iconst (v := (-1)) dX9_isSafe_29 (by decide) ?_
          refine ev_eq am_ib ?_
          refine ev_icmp_eq (tgt := 71) dX9_isSafe_30 (by decide) (fun c30 => ?_) (fun c30 => ?_)
          · exact ev_leaf (am_wk (am_wk (am_wk (am_wk (am_wf (am_wf (am_wf am_wn))))))) (hE21 ())
          · refine ev_aload_n dX9_isSafe_33 rfl ?_
            refine ev_iload_n dX9_isSafe_34 rfl ?_
            refine ev_iload dX9_isSafe_35 rfl ?_
            refine ev_eq (Option.bind_assoc _ _ _) ?_
            refine ev_callP (am_callV (as := [.int p1, .int x21]) (o := p0) (st := []) cv_X9_89 dX9_isSafe_37 kp0 rfl (am_le rfl) (am_fit (by omega) (by decide) (by decide) (by decide)) (t_X9_wordFor hl kp0)) (fun v31 h31 => ?_)
            refine ev_istore dX9_isSafe_40 (am_lt rfl) ?_
            refine ev_iload dX9_isSafe_42 rfl ?_
            refine ev_iconst (v := (-1)) dX9_isSafe_44 (by decide) ?_
            refine ev_eq am_ib ?_
            refine ev_icmp_eq (tgt := 65) dX9_isSafe_45 (by decide) (fun c32 => ?_) (fun c32 => ?_)
            · refine ev_iinc (v := (x21 + 1)) dX9_isSafe_65 (am_lt rfl) rfl rfl ?_
              refine ev_goto (tgt := 21) dX9_isSafe_68 (by decide) ?_
              exact ev_leaf (am_wk (am_wk (am_wk (am_wk (am_wk (am_wk (am_wf am_wn))))))) (hB21 (x21 + 1))
            · refine ev_iload dX9_isSafe_48 rfl ?_
              refine ev_iload_n dX9_isSafe_50 rfl ?_
              refine ev_eq (Option.bind_assoc _ _ _) ?_
              refine ev_callP (am_callSN (as := [.int v20, .int p2]) (st := []) ct_X9_115 dX9_isSafe_51 rfl (am_le rfl) (am_fit (by omega) (by decide) (by decide) (by decide)) (am_no1 (fun _ => ⟨_, rfl⟩)) (t_X11_cutTo hl )) (fun v33 h33 => ?_)
              refine ev_iload dX9_isSafe_54 rfl ?_
              refine ev_iload_n dX9_isSafe_56 rfl ?_
              refine ev_eq (Option.bind_assoc _ _ _) ?_
              refine ev_callP (am_callSN (as := [.int v31, .int p2]) (st := [.int v33]) ct_X9_115 dX9_isSafe_57 rfl (am_le rfl) (am_fit (by omega) (by decide) (by decide) (by decide)) (am_no1 (fun _ => ⟨_, rfl⟩)) (t_X11_cutTo hl )) (fun v34 h34 => ?_)
              refine ev_eq am_ib ?_
              refine ev_icmp_ne (tgt := 65) dX9_isSafe_60 (by decide) (fun c35 => ?_) (fun c35 => ?_)
              · refine ev_iinc (v := (x21 + 1)) dX9_isSafe_65 (am_lt rfl) rfl rfl ?_
                refine ev_goto (tgt := 21) dX9_isSafe_68 (by decide) ?_
                exact ev_leaf (am_wk (am_wk (am_wk (am_wk (am_wk (am_wk (am_wf am_wn))))))) (hB21 (x21 + 1))
              · refine ev_iconst (v := 0) dX9_isSafe_63 (by decide) ?_
                exact ev_eq ((hG21 _).trans (hG1 _)) (ev_iret dX9_isSafe_64 rfl (by decide) (by decide) (by decide) rfl)
      · refine ev_iinc (v := (x1 + 1)) dX9_isSafe_71 (am_lt rfl) rfl rfl ?_
        refine ev_goto (tgt := 2) dX9_isSafe_74 (by decide) ?_
        exact ev_leaf (am_wk (am_wk (am_wk (am_wk (am_wf (am_wf (am_wf am_wn))))))) (hB1 (x1 + 1))
  · exact ev_none
def f_X11_safe (S : am_S) (p0 : Nat) (p1 : Int32) (p2 : Int32) : Option (am_R) :=
  (am_thV (f_X11_needHouse S p0 p1) (fun S1 => (if p2 < 0 then some (.inr 1, S1) else (if 8 < p2 then some (.inr 1, S1) else ((am_rd S1.2 p0 3 109).bind (fun q4 => ((f_X9_isSafe S1 q4 p1 p2).bind (fun v5 => (if v5 = 0 ∨ v5 = 1 then some (.inl (some (.int v5)), S1) else none)))))))))
set_option maxRecDepth 20000 in
theorem t_X11_safe {E : am_E} {l : Launch} (hl : l.stackTraces = false) {S : am_S} {p0 : Nat} {p1 : Int32} {p2 : Int32} (kp0 : am_kd p0 = 111) : am_M E l yX11_safe (.code yX11_safe cX11_safe 3 (some .boolean)) 3 2 12 [.ref p0, .int p1, .int p2] S (f_X11_safe S p0 p1 p2) := by
  refine am_M_id (am_M_of (w := fun x => x) hl (by decide) (am_fc rfl (am_fc rfl (am_fc rfl am_fn))) (Nat.le_of_ble_eq_true rfl) ?_)
  show am_Ev E l (RX11, cX11_safe, 3, (some .boolean), [], am_rm 3 2 12) (am_Z E 2 12) 0 0 0 [some (.ref p0), some (.int p1), some (.int p2)] [] S (f_X11_safe S p0 p1 p2)
  unfold f_X11_safe
  refine ev_aload_n dX11_safe_0 rfl ?_
  refine ev_iload_n dX11_safe_1 rfl ?_
  refine ev_callGV (am_callV (as := [.int p1]) (o := p0) (st := []) cv_X11_138 dX11_safe_2 kp0 rfl (am_le rfl) (am_fit (by omega) (by decide) (by decide) (by decide)) (t_X11_needHouse hl kp0)) rfl (by decide) (by decide) (fun S1 h1 => ?_)
  refine ev_iload_n dX11_safe_5 rfl ?_
  refine ev_if_lt (tgt := 15) dX11_safe_6 (by decide) (fun c2 => ?_) (fun c2 => ?_)
  · exact ev_throw (k := 1) tk_105_109 (tx := "a distance is 0 to 8") (t := 33) (by decide +kernel) dX11_safe_15 dX11_safe_18 dX11_safe_19 dX11_safe_21 dX11_safe_24 rfl (by decide) ⟨by decide, by decide, by decide, by decide⟩ (by decide) (by decide)
  · refine ev_iload_n dX11_safe_9 rfl ?_
    refine ev_bipush (v := 8) dX11_safe_10 (by decide) ?_
    refine ev_icmp_le (tgt := 25) dX11_safe_12 (by decide) (fun c3 => ?_) (fun c3 => ?_)
    · refine ev_aload_n dX11_safe_25 rfl ?_
      refine ev_getR fk_X11_20 (by decide) dX11_safe_26 kp0 (fun q4 k4 r4 => ?_)
      refine ev_iload_n dX11_safe_29 rfl ?_
      refine ev_iload_n dX11_safe_30 rfl ?_
      refine ev_callP (am_callVN (as := [.int p1, .int p2]) (o := q4) (st := []) cv_X11_236 dX11_safe_31 k4 rfl (am_le rfl) (am_fit (by omega) (by decide) (by decide) (by decide)) (am_no1 (fun _ => ⟨_, rfl⟩)) (t_X9_isSafe hl k4)) (fun v5 h5 => ?_)
      refine ev_split (fun c6 => ?_) (fun _ => ?_)
      · exact ev_iret dX11_safe_34 rfl (am_nb c6) (by decide) (by decide) rfl
      · exact ev_none
    · exact ev_throw (k := 1) tk_105_109 (tx := "a distance is 0 to 8") (t := 33) (by decide +kernel) dX11_safe_15 dX11_safe_18 dX11_safe_19 dX11_safe_21 dX11_safe_24 rfl (by decide) ⟨by decide, by decide, by decide, by decide⟩ (by decide) (by decide)
def f_X11_priceOf (p0 : Int32) : Option (Int32) :=
  ((f_X11_minutesOf p0).bind (fun v1 => (if 0 < v1 then (if v1 = 0 then none else some ((40 / v1) + 1)) else some 1)))
set_option maxRecDepth 20000 in
theorem t_X11_priceOf {E : am_E} {l : Launch} (hl : l.stackTraces = false) {S : am_S} {p0 : Int32}  : am_M E l yX11_priceOf (.code yX11_priceOf cX11_priceOf 2 (some .int)) 2 0 0 [.int p0] S ((f_X11_priceOf p0).map (fun (v : Int32) => ((.inl (some (.int v)), S) : am_R))) := by
  refine am_M_of (w := fun (v : Int32) => ((.inl (some (.int v)), S) : am_R)) hl (by decide) (am_fc rfl am_fn) (Nat.le_of_ble_eq_true rfl) ?_
  show am_Ev E l (RX11, cX11_priceOf, 2, (some .int), [], am_rm 2 0 0) (fun b a s x => am_Z E 0 0 b a s ((fun (v : Int32) => ((.inl (some (.int v)), S) : am_R)) x)) 0 0 0 [some (.int p0), none] [] S (f_X11_priceOf p0)
  unfold f_X11_priceOf
  refine ev_iload_n dX11_priceOf_0 rfl ?_
  refine ev_callP (am_callS (as := [.int p0]) (st := []) ct_X11_178 dX11_priceOf_1 rfl (am_le rfl) (am_fit (by omega) (by decide) (by decide) (by decide)) (t_X11_minutesOf hl )) (fun v1 h1 => ?_)
  refine ev_istore_n dX11_priceOf_4 (am_lt rfl) ?_
  refine ev_iload_n dX11_priceOf_5 rfl ?_
  refine ev_if_gt (tgt := 13) dX11_priceOf_6 (by decide) (fun c2 => ?_) (fun c2 => ?_)
  · refine ev_bipush (v := 40) dX11_priceOf_13 (by decide) ?_
    refine ev_iload_n dX11_priceOf_15 rfl ?_
    refine ev_split (fun _ => ?_) (fun c3 => ?_)
    · exact ev_none
    · refine ev_idiv dX11_priceOf_16 c3 ?_
      refine ev_iconst (v := 1) dX11_priceOf_17 (by decide) ?_
      refine ev_iadd dX11_priceOf_18 ?_
      exact ev_iret dX11_priceOf_19 rfl rfl (by decide) (by decide) rfl
  · refine ev_iconst (v := 1) dX11_priceOf_9 (by decide) ?_
    refine ev_goto (tgt := 19) dX11_priceOf_10 (by decide) ?_
    exact ev_iret dX11_priceOf_19 rfl rfl (by decide) (by decide) rfl
def f_X11_buy (S : am_S) (p0 : Nat) (p1 : Int32) (p2 : Int32) (p3 : Int32) : Option (am_R) :=
  (am_thV (f_X11_needHouse S p0 p1) (fun S1 => (am_thV (f_X11_needWant S1 p0 p2) (fun S2 => (am_thV (f_X11_needWord S2 p0 p3) (fun S3 => ((f_X11_priceOf p3).bind (fun v4 => ((am_rd S3.2 p0 3 109).bind (fun q5 => ((am_rd S3.2 q5 9 1).bind (fun q6 => ((am_ld S3.1 q6 p1).bind (fun v7 => (if v7 < v4 then some (.inl (some (.int (-1))), S3) else ((am_rd S3.2 p0 3 109).bind (fun q9 => ((am_rd S3.2 q9 9 1).bind (fun q10 => ((am_ld S3.1 q10 p1).bind (fun v11 => ((am_st S3.1 q10 p1 (v11 - v4)).bind (fun σ12 => ((am_rd S3.2 p0 3 109).bind (fun q13 => ((am_rd S3.2 p0 3 109).bind (fun q14 => ((f_X9_setWord ((am_u2 σ12 q13 3 ((σ12 q13 3) + v4)), S3.2) q14 p1 p2 p3).bind (fun σ15 => some (.inl (some (.int v4)), (σ15, S3.2)))))))))))))))))))))))))))))))
set_option maxRecDepth 20000 in
theorem t_X11_buy {E : am_E} {l : Launch} (hl : l.stackTraces = false) {S : am_S} {p0 : Nat} {p1 : Int32} {p2 : Int32} {p3 : Int32} (kp0 : am_kd p0 = 111) : am_M E l yX11_buy (.code yX11_buy cX11_buy 5 (some .int)) 3 3 18 [.ref p0, .int p1, .int p2, .int p3] S (f_X11_buy S p0 p1 p2 p3) := by
  refine am_M_id (am_M_of (w := fun x => x) hl (by decide) (am_fc rfl (am_fc rfl (am_fc rfl (am_fc rfl am_fn)))) (Nat.le_of_ble_eq_true rfl) ?_)
  show am_Ev E l (RX11, cX11_buy, 5, (some .int), [], am_rm 3 3 18) (am_Z E 3 18) 0 0 0 [some (.ref p0), some (.int p1), some (.int p2), some (.int p3), none] [] S (f_X11_buy S p0 p1 p2 p3)
  unfold f_X11_buy
  refine ev_aload_n dX11_buy_0 rfl ?_
  refine ev_iload_n dX11_buy_1 rfl ?_
  refine ev_callGV (am_callV (as := [.int p1]) (o := p0) (st := []) cv_X11_138 dX11_buy_2 kp0 rfl (am_le rfl) (am_fit (by omega) (by decide) (by decide) (by decide)) (t_X11_needHouse hl kp0)) rfl (by decide) (by decide) (fun S1 h1 => ?_)
  refine ev_aload_n dX11_buy_5 rfl ?_
  refine ev_iload_n dX11_buy_6 rfl ?_
  refine ev_callGV (am_callV (as := [.int p2]) (o := p0) (st := []) cv_X11_165 dX11_buy_7 kp0 rfl (am_le rfl) (am_fit (by omega) (by decide) (by decide) (by decide)) (t_X11_needWant hl kp0)) rfl (by decide) (by decide) (fun S2 h2 => ?_)
  refine ev_aload_n dX11_buy_10 rfl ?_
  refine ev_iload_n dX11_buy_11 rfl ?_
  refine ev_callGV (am_callV (as := [.int p3]) (o := p0) (st := []) cv_X11_175 dX11_buy_12 kp0 rfl (am_le rfl) (am_fit (by omega) (by decide) (by decide) (by decide)) (t_X11_needWord hl kp0)) rfl (by decide) (by decide) (fun S3 h3 => ?_)
  refine ev_iload_n dX11_buy_15 rfl ?_
  refine ev_callP (am_callS (as := [.int p3]) (st := []) ct_X11_239 dX11_buy_16 rfl (am_le rfl) (am_fit (by omega) (by decide) (by decide) (by decide)) (t_X11_priceOf hl )) (fun v4 h4 => ?_)
  refine ev_istore dX11_buy_19 (am_lt rfl) ?_
  refine ev_aload_n dX11_buy_21 rfl ?_
  refine ev_getR fk_X11_20 (by decide) dX11_buy_22 kp0 (fun q5 k5 r5 => ?_)
  refine ev_getRN fk_X11_150 (by decide) dX11_buy_25 k5 (fun q6 k6 r6 => ?_)
  refine ev_iload_n dX11_buy_28 rfl ?_
  refine ev_iald dX11_buy_29 k6 (fun v7 h7 => ?_)
  refine ev_iload dX11_buy_30 rfl ?_
  refine ev_icmp_ge (tgt := 37) dX11_buy_32 (by decide) (fun c8 => ?_) (fun c8 => ?_)
  · refine ev_aload_n dX11_buy_37 rfl ?_
    refine ev_getR fk_X11_20 (by decide) dX11_buy_38 kp0 (fun q9 k9 r9 => ?_)
    refine ev_getRN fk_X11_150 (by decide) dX11_buy_41 k9 (fun q10 k10 r10 => ?_)
    refine ev_iload_n dX11_buy_44 rfl ?_
    refine ev_dup2 dX11_buy_45 rfl rfl ?_
    refine ev_iald dX11_buy_46 k10 (fun v11 h11 => ?_)
    refine ev_iload dX11_buy_47 rfl ?_
    refine ev_isub dX11_buy_49 ?_
    refine ev_iast dX11_buy_50 k10 (fun σ12 h12 => ?_)
    refine ev_aload_n dX11_buy_51 rfl ?_
    refine ev_getR fk_X11_20 (by decide) dX11_buy_52 kp0 (fun q13 k13 r13 => ?_)
    refine ev_dup dX11_buy_55 rfl ?_
    refine ev_getN fk_X11_242 dX11_buy_56 k13 (am_fvI (by decide)) ?_
    refine ev_iload dX11_buy_59 rfl ?_
    refine ev_iadd dX11_buy_61 ?_
    refine ev_putIN fk_X11_242 tyX9 tyX9_ok nmX9 rfl (by decide +kernel) (by decide) dX11_buy_62 k13 ?_
    refine ev_aload_n dX11_buy_65 rfl ?_
    refine ev_getR fk_X11_20 (by decide) dX11_buy_66 kp0 (fun q14 k14 r14 => ?_)
    refine ev_iload_n dX11_buy_69 rfl ?_
    refine ev_iload_n dX11_buy_70 rfl ?_
    refine ev_iload_n dX11_buy_71 rfl ?_
    refine ev_callWV (am_callVN (as := [.int p1, .int p2, .int p3]) (o := q14) (st := []) cv_X11_245 dX11_buy_72 k14 rfl (am_le rfl) (am_fit (by omega) (by decide) (by decide) (by decide)) (am_no1 (fun _ => ⟨_, rfl⟩)) (t_X9_setWord hl k14)) (fun σ15 h15 => ?_)
    refine ev_iload dX11_buy_75 rfl ?_
    exact ev_iret dX11_buy_77 rfl rfl (by decide) (by decide) rfl
  · refine ev_iconst (v := (-1)) dX11_buy_35 (by decide) ?_
    exact ev_iret dX11_buy_36 rfl rfl (by decide) (by decide) rfl
def f_X11_trade (S : am_S) (p0 : Nat) (p1 : Int32) (p2 : Int32) (p3 : Int32) : Option (am_R) :=
  (am_thV (f_X11_needHouse S p0 p1) (fun S1 => (am_thV (f_X11_needHouse S1 p0 p2) (fun S2 => (am_thV (f_X11_needWant S2 p0 p3) (fun S3 => (if p1 = p2 then some (.inr 1, S3) else ((am_rd S3.2 p0 3 109).bind (fun q5 => ((f_X9_wordFor S3 q5 p1 p3).bind (fun v6 => ((am_rd S3.2 p0 3 109).bind (fun q7 => ((am_rd S3.2 p0 3 109).bind (fun q8 => ((f_X9_wordFor S3 q8 p2 p3).bind (fun v9 => ((f_X9_setWord S3 q7 p1 p3 v9).bind (fun σ10 => ((am_rd S3.2 p0 3 109).bind (fun q11 => ((f_X9_setWord (σ10, S3.2) q11 p2 p3 v6).bind (fun σ12 => some (.inl none, (σ12, S3.2)))))))))))))))))))))))))
set_option maxRecDepth 20000 in
theorem t_X11_trade {E : am_E} {l : Launch} (hl : l.stackTraces = false) {S : am_S} {p0 : Nat} {p1 : Int32} {p2 : Int32} {p3 : Int32} (kp0 : am_kd p0 = 111) : am_M E l yX11_trade (.code yX11_trade cX11_trade 5 none) 2 4 24 [.ref p0, .int p1, .int p2, .int p3] S (f_X11_trade S p0 p1 p2 p3) := by
  refine am_M_id (am_M_of (w := fun x => x) hl (by decide) (am_fc rfl (am_fc rfl (am_fc rfl (am_fc rfl am_fn)))) (Nat.le_of_ble_eq_true rfl) ?_)
  show am_Ev E l (RX11, cX11_trade, 5, none, [], am_rm 2 4 24) (am_Z E 4 24) 0 0 0 [some (.ref p0), some (.int p1), some (.int p2), some (.int p3), none] [] S (f_X11_trade S p0 p1 p2 p3)
  unfold f_X11_trade
  refine ev_aload_n dX11_trade_0 rfl ?_
  refine ev_iload_n dX11_trade_1 rfl ?_
  refine ev_callGV (am_callV (as := [.int p1]) (o := p0) (st := []) cv_X11_138 dX11_trade_2 kp0 rfl (am_le rfl) (am_fit (by omega) (by decide) (by decide) (by decide)) (t_X11_needHouse hl kp0)) rfl (by decide) (by decide) (fun S1 h1 => ?_)
  refine ev_aload_n dX11_trade_5 rfl ?_
  refine ev_iload_n dX11_trade_6 rfl ?_
  refine ev_callGV (am_callV (as := [.int p2]) (o := p0) (st := []) cv_X11_138 dX11_trade_7 kp0 rfl (am_le rfl) (am_fit (by omega) (by decide) (by decide) (by decide)) (t_X11_needHouse hl kp0)) rfl (by decide) (by decide) (fun S2 h2 => ?_)
  refine ev_aload_n dX11_trade_10 rfl ?_
  refine ev_iload_n dX11_trade_11 rfl ?_
  refine ev_callGV (am_callV (as := [.int p3]) (o := p0) (st := []) cv_X11_165 dX11_trade_12 kp0 rfl (am_le rfl) (am_fit (by omega) (by decide) (by decide) (by decide)) (t_X11_needWant hl kp0)) rfl (by decide) (by decide) (fun S3 h3 => ?_)
  refine ev_iload_n dX11_trade_15 rfl ?_
  refine ev_iload_n dX11_trade_16 rfl ?_
  refine ev_icmp_ne (tgt := 30) dX11_trade_17 (by decide) (fun c4 => ?_) (fun c4 => ?_)
  · refine ev_aload_n dX11_trade_30 rfl ?_
    refine ev_getR fk_X11_20 (by decide) dX11_trade_31 kp0 (fun q5 k5 r5 => ?_)
    refine ev_iload_n dX11_trade_34 rfl ?_
    refine ev_iload_n dX11_trade_35 rfl ?_
    refine ev_callP (am_callVN (as := [.int p1, .int p3]) (o := q5) (st := []) cv_X11_171 dX11_trade_36 k5 rfl (am_le rfl) (am_fit (by omega) (by decide) (by decide) (by decide)) (am_no1 (fun _ => ⟨_, rfl⟩)) (t_X9_wordFor hl k5)) (fun v6 h6 => ?_)
    refine ev_istore dX11_trade_39 (am_lt rfl) ?_
    refine ev_aload_n dX11_trade_41 rfl ?_
    refine ev_getR fk_X11_20 (by decide) dX11_trade_42 kp0 (fun q7 k7 r7 => ?_)
    refine ev_iload_n dX11_trade_45 rfl ?_
    refine ev_iload_n dX11_trade_46 rfl ?_
    refine ev_aload_n dX11_trade_47 rfl ?_
    refine ev_getR fk_X11_20 (by decide) dX11_trade_48 kp0 (fun q8 k8 r8 => ?_)
    refine ev_iload_n dX11_trade_51 rfl ?_
    refine ev_iload_n dX11_trade_52 rfl ?_
    refine ev_callP (am_callVN (as := [.int p2, .int p3]) (o := q8) (st := [.int p3, .int p1, .ref q7]) cv_X11_171 dX11_trade_53 k8 rfl (am_le rfl) (am_fit (by omega) (by decide) (by decide) (by decide)) (am_no1 (fun _ => ⟨_, rfl⟩)) (t_X9_wordFor hl k8)) (fun v9 h9 => ?_)
    refine ev_callWV (am_callVN (as := [.int p1, .int p3, .int v9]) (o := q7) (st := []) cv_X11_245 dX11_trade_56 k7 rfl (am_le rfl) (am_fit (by omega) (by decide) (by decide) (by decide)) (am_no1 (fun _ => ⟨_, rfl⟩)) (t_X9_setWord hl k7)) (fun σ10 h10 => ?_)
    refine ev_aload_n dX11_trade_59 rfl ?_
    refine ev_getR fk_X11_20 (by decide) dX11_trade_60 kp0 (fun q11 k11 r11 => ?_)
    refine ev_iload_n dX11_trade_63 rfl ?_
    refine ev_iload_n dX11_trade_64 rfl ?_
    refine ev_iload dX11_trade_65 rfl ?_
    refine ev_callWV (am_callVN (as := [.int p2, .int p3, .int v6]) (o := q11) (st := []) cv_X11_245 dX11_trade_67 k11 rfl (am_le rfl) (am_fit (by omega) (by decide) (by decide) (by decide)) (am_no1 (fun _ => ⟨_, rfl⟩)) (t_X9_setWord hl k11)) (fun σ12 h12 => ?_)
    exact ev_vret dX11_trade_70 rfl (by decide) (by decide) rfl
  · exact ev_throw (k := 1) tk_105_109 (tx := "both houses are one") (t := 34) (by decide +kernel) dX11_trade_20 dX11_trade_23 dX11_trade_24 dX11_trade_26 dX11_trade_29 rfl (by decide) ⟨by decide, by decide, by decide, by decide⟩ (by decide) (by decide)
def f_X9_urgentOf (S : am_S) (p0 : Nat) (p1 : Int32) : Option (Int32) :=
  ((f_X9_hasWant S p0 p1).bind (fun v1 => (if v1 = 0 then some 0 else ((am_rd S.2 p0 11 1).bind (fun q3 => ((am_ld S.1 q3 p1).bind (fun v4 => some v4)))))))
set_option maxRecDepth 20000 in
theorem t_X9_urgentOf {E : am_E} {l : Launch} (hl : l.stackTraces = false) {S : am_S} {p0 : Nat} {p1 : Int32} (kp0 : am_kd p0 = 109) : am_M E l yX9_urgentOf (.code yX9_urgentOf cX9_urgentOf 2 (some .int)) 1 0 0 [.ref p0, .int p1] S ((f_X9_urgentOf S p0 p1).map (fun (v : Int32) => ((.inl (some (.int v)), S) : am_R))) := by
  refine am_M_of (w := fun (v : Int32) => ((.inl (some (.int v)), S) : am_R)) hl (by decide) (am_fc rfl (am_fc rfl am_fn)) (Nat.le_of_ble_eq_true rfl) ?_
  show am_Ev E l (RX9, cX9_urgentOf, 2, (some .int), [], am_rm 1 0 0) (fun b a s x => am_Z E 0 0 b a s ((fun (v : Int32) => ((.inl (some (.int v)), S) : am_R)) x)) 0 0 0 [some (.ref p0), some (.int p1)] [] S (f_X9_urgentOf S p0 p1)
  unfold f_X9_urgentOf
  refine ev_aload_n dX9_urgentOf_0 rfl ?_
  refine ev_iload_n dX9_urgentOf_1 rfl ?_
  refine ev_callP (am_callV (as := [.int p1]) (o := p0) (st := []) cv_X9_82 dX9_urgentOf_2 kp0 rfl (am_le rfl) (am_fit (by omega) (by decide) (by decide) (by decide)) (t_X9_hasWant hl kp0)) (fun v1 h1 => ?_)
  refine ev_if_eq (tgt := 17) dX9_urgentOf_5 (by decide) (fun c2 => ?_) (fun c2 => ?_)
  · refine ev_iconst (v := 0) dX9_urgentOf_17 (by decide) ?_
    exact ev_iret dX9_urgentOf_18 rfl rfl (by decide) (by decide) rfl
  · refine ev_aload_n dX9_urgentOf_8 rfl ?_
    refine ev_getR fk_X9_27 (by decide) dX9_urgentOf_9 kp0 (fun q3 k3 r3 => ?_)
    refine ev_iload_n dX9_urgentOf_12 rfl ?_
    refine ev_iald dX9_urgentOf_13 k3 (fun v4 h4 => ?_)
    refine ev_goto (tgt := 18) dX9_urgentOf_14 (by decide) ?_
    exact ev_iret dX9_urgentOf_18 rfl rfl (by decide) (by decide) rfl
def f_X0_leastOfAll_b62 (S : am_S) (a0 : Nat) (a2 : Int32) (a3 : Int32) (x12 : Int32 × (Nat → Nat → Int32)) : Option ((Int32 × (Nat → Nat → Int32)) ⊕ ((Nat → Nat → Int32))) :=
  (if x12.1 < a3 then ((am_rd S.2 a0 1 1).bind (fun q14 => ((am_ld x12.2 q14 x12.1).bind (fun v15 => ((am_rd S.2 a0 0 1).bind (fun q16 => ((am_ld x12.2 q16 x12.1).bind (fun v17 => ((am_rd S.2 a0 1 1).bind (fun q18 => ((am_ld x12.2 q18 (a3 &&& (x12.1 ^^^ (-1)))).bind (fun v19 => ((am_rd S.2 a0 0 1).bind (fun q20 => ((am_ld x12.2 q20 (a3 &&& (x12.1 ^^^ (-1)))).bind (fun v21 => ((if (x12.1 &&& a3) = x12.1 then ((am_rd S.2 a0 1 1).bind (fun q23 => ((am_ld x12.2 q23 a3).bind (fun v24 => (if v24 = 0 then ((am_rd S.2 a0 1 1).bind (fun q26 => ((am_st x12.2 q26 a3 (((v15 + v17) + v19) + (2 * v21))).bind (fun σ27 => some σ27)))) else ((am_rd S.2 a0 1 1).bind (fun q28 => ((am_ld x12.2 q28 a3).bind (fun v29 => (if (((v15 + v17) + v19) + (2 * v21)) < v29 then ((am_rd S.2 a0 1 1).bind (fun q31 => ((am_st x12.2 q31 a3 (((v15 + v17) + v19) + (2 * v21))).bind (fun σ32 => some σ32)))) else some x12.2)))))))))) else some x12.2).bind (fun t22 => some (.inl ((x12.1 + 1), t22)))))))))))))))))))) else some (.inr x12.2))
def f_X0_leastOfAll_b8 (S : am_S) (a0 : Nat) (a2 : Int32) (x1 : Int32 × (Nat → Nat → Int32)) : Option ((Int32 × (Nat → Nat → Int32)) ⊕ ((Nat → Nat → Int32))) :=
  (if a2 < x1.1 then some (.inr x1.2) else ((am_rd S.2 a0 0 1).bind (fun q3 => ((am_rd S.2 a0 0 1).bind (fun q4 => ((am_ld x1.2 q4 (x1.1 &&& (-x1.1))).bind (fun v5 => ((if x1.1 = (x1.1 &&& (-x1.1)) then some (0 : Int32) else ((am_rd S.2 a0 0 1).bind (fun q7 => ((am_ld x1.2 q7 (x1.1 ^^^ (x1.1 &&& (-x1.1)))).bind (fun v8 => some v8))))).bind (fun t6 => ((am_st x1.2 q3 x1.1 (v5 + t6)).bind (fun σ9 => ((am_rd S.2 a0 1 1).bind (fun q10 => ((am_st σ9 q10 x1.1 0).bind (fun σ11 => ((am_loop (f_X0_leastOfAll_b62 (σ11, S.2) a0 a2 x1.1) am_fuel (1, σ11)).bind (fun t12 => some (.inl ((x1.1 + 1), t12)))))))))))))))))))
def f_X0_leastOfAll (S : am_S) (p0 : Nat) (p1 : Int32) : Option (Int32 × (Nat → Nat → Int32)) :=
  ((am_loop (f_X0_leastOfAll_b8 S p0 (((1 : Int32) <<< (p1 &&& 31)) - 1)) am_fuel (1, S.1)).bind (fun t1 => ((am_rd S.2 p0 1 1).bind (fun q104 => ((am_ld t1 q104 (((1 : Int32) <<< (p1 &&& 31)) - 1)).bind (fun v105 => some (v105, t1)))))))
set_option maxRecDepth 20000 in
theorem t_X0_leastOfAll {E : am_E} {l : Launch} (hl : l.stackTraces = false) {S : am_S} {p0 : Nat} {p1 : Int32} (kp0 : am_kd p0 = 100) : am_M E l yX0_leastOfAll (.code yX0_leastOfAll cX0_leastOfAll 8 (some .int)) 0 0 0 [.ref p0, .int p1] S ((f_X0_leastOfAll S p0 p1).map (fun (x : Int32 × (Nat → Nat → Int32)) => ((.inl (some (.int x.1)), (x.2, S.2)) : am_R))) := by
  refine am_M_of (w := fun (x : Int32 × (Nat → Nat → Int32)) => ((.inl (some (.int x.1)), (x.2, S.2)) : am_R)) hl (by decide) (am_fc rfl (am_fc rfl am_fn)) (Nat.le_of_ble_eq_true rfl) ?_
  show am_Ev E l (RX0, cX0_leastOfAll, 8, (some .int), [], am_rm 0 0 0) (fun b a s x => am_Z E 0 0 b a s ((fun (x : Int32 × (Nat → Nat → Int32)) => ((.inl (some (.int x.1)), (x.2, S.2)) : am_R)) x)) 0 0 0 [some (.ref p0), some (.int p1), none, none, none, none, none, none] [] S (f_X0_leastOfAll S p0 p1)
  unfold f_X0_leastOfAll
  refine ev_iconst (v := 1) dX0_leastOfAll_0 (by decide) ?_
  refine ev_iload_n dX0_leastOfAll_1 rfl ?_
  refine ev_ishl dX0_leastOfAll_2 ?_
  refine ev_iconst (v := 1) dX0_leastOfAll_3 (by decide) ?_
  refine ev_isub dX0_leastOfAll_4 ?_
  refine ev_istore_n dX0_leastOfAll_5 (am_lt rfl) ?_
  refine ev_iconst (v := 1) dX0_leastOfAll_6 (by decide) ?_
  refine ev_istore_n dX0_leastOfAll_7 (am_lt rfl) ?_
  refine ev_weak (am_wk (am_wf (am_wk (am_wk (am_wf (am_wf (am_wf (am_wf am_wn)))))))) (ev_loop 8 160 (fun x1 : Int32 × (Nat → Nat → Int32) => [some (.ref p0), none, some (.int (((1 : Int32) <<< (p1 &&& 31)) - 1)), some (.int x1.1), none, none, none, none]) (fun t1 : (Nat → Nat → Int32) => [some (.ref p0), none, some (.int (((1 : Int32) <<< (p1 &&& 31)) - 1)), none, none, none, none, none]) (fun x1 => (x1.2, S.2)) (fun t1 => (t1, S.2)) (fun x1 G1 hB1 hE1 => ?_) (fun t1 => ?_) am_fuel (1, S.1))
  · unfold f_X0_leastOfAll_b8
    refine ev_iload_n dX0_leastOfAll_8 rfl ?_
    refine ev_iload_n dX0_leastOfAll_9 rfl ?_
    refine ev_eq am_ib ?_
    refine ev_icmp_gt (tgt := 160) dX0_leastOfAll_10 (by decide) (fun c53 => ?_) (fun c53 => ?_)
    · exact ev_leaf (am_wk (am_wf (am_wk (am_wf (am_wf (am_wf (am_wf (am_wf am_wn)))))))) (hE1 x1.2)
    · refine ev_iload_n dX0_leastOfAll_13 rfl ?_
      refine ev_iload_n dX0_leastOfAll_14 rfl ?_
      refine ev_ineg dX0_leastOfAll_15 ?_
      refine ev_iand dX0_leastOfAll_16 ?_
      refine ev_istore dX0_leastOfAll_17 (am_lt rfl) ?_
      refine ev_aload_n dX0_leastOfAll_19 rfl ?_
      refine ev_eq (Option.bind_assoc _ _ _) ?_
      refine ev_getR fk_X0_11 (by decide) dX0_leastOfAll_20 kp0 (fun q54 k54 r54 => ?_)
      refine ev_iload_n dX0_leastOfAll_23 rfl ?_
      refine ev_aload_n dX0_leastOfAll_24 rfl ?_
      refine ev_eq (Option.bind_assoc _ _ _) ?_
      refine ev_getR fk_X0_11 (by decide) dX0_leastOfAll_25 kp0 (fun q55 k55 r55 => ?_)
      refine ev_iload dX0_leastOfAll_28 rfl ?_
      refine ev_eq (Option.bind_assoc _ _ _) ?_
      refine ev_iald dX0_leastOfAll_30 k55 (fun v56 h56 => ?_)
      refine ev_iload_n dX0_leastOfAll_31 rfl ?_
      refine ev_iload dX0_leastOfAll_32 rfl ?_
      refine ev_eq (Option.bind_assoc _ _ _) ?_
      refine ev_reg (cs' := 0) (sl' := 0) 50 (fun t57 : Int32 => [some (.ref p0), none, some (.int (((1 : Int32) <<< (p1 &&& 31)) - 1)), some (.int x1.1), none, none, none, none]) (fun t57 => [.int t57, .int v56, .int x1.1, .ref q54]) (fun t57 => (x1.2, S.2)) (fun hJ57 => ?_) (fun t57 => ?_)
      · refine ev_eq am_ib ?_
        refine ev_icmp_ne (tgt := 41) dX0_leastOfAll_34 (by decide) (fun c57 => ?_) (fun c57 => ?_)
        · refine ev_aload_n dX0_leastOfAll_41 rfl ?_
          refine ev_eq (Option.bind_assoc _ _ _) ?_
          refine ev_getR fk_X0_11 (by decide) dX0_leastOfAll_42 kp0 (fun q58 k58 r58 => ?_)
          refine ev_iload_n dX0_leastOfAll_45 rfl ?_
          refine ev_iload dX0_leastOfAll_46 rfl ?_
          refine ev_ixor dX0_leastOfAll_48 ?_
          refine ev_eq (Option.bind_assoc _ _ _) ?_
          refine ev_iald dX0_leastOfAll_49 k58 (fun v59 h59 => ?_)
          exact ev_leaf (am_wk (am_wf (am_wk (am_wk (am_wf (am_wf (am_wf (am_wf am_wn)))))))) (hJ57 v59)
        · refine ev_iconst (v := 0) dX0_leastOfAll_37 (by decide) ?_
          refine ev_goto (tgt := 50) dX0_leastOfAll_38 (by decide) ?_
          exact ev_leaf (am_wk (am_wf (am_wk (am_wk (am_wf (am_wf (am_wf (am_wf am_wn)))))))) (hJ57 (0 : Int32))
      · refine ev_iadd dX0_leastOfAll_50 ?_
        refine ev_eq (Option.bind_assoc _ _ _) ?_
        refine ev_iast dX0_leastOfAll_51 k54 (fun σ60 h60 => ?_)
        refine ev_aload_n dX0_leastOfAll_52 rfl ?_
        refine ev_eq (Option.bind_assoc _ _ _) ?_
        refine ev_getR fk_X0_15 (by decide) dX0_leastOfAll_53 kp0 (fun q61 k61 r61 => ?_)
        refine ev_iload_n dX0_leastOfAll_56 rfl ?_
        refine ev_iconst (v := 0) dX0_leastOfAll_57 (by decide) ?_
        refine ev_eq (Option.bind_assoc _ _ _) ?_
        refine ev_iast dX0_leastOfAll_58 k61 (fun σ62 h62 => ?_)
        refine ev_iconst (v := 1) dX0_leastOfAll_59 (by decide) ?_
        refine ev_istore dX0_leastOfAll_60 (am_lt rfl) ?_
        refine ev_eq (Option.bind_assoc _ _ _) ?_
        refine ev_weak (am_wk (am_wf (am_wk (am_wk (am_wf (am_wk (am_wf (am_wf am_wn)))))))) (ev_loop 62 154 (fun x63 : Int32 × (Nat → Nat → Int32) => [some (.ref p0), none, some (.int (((1 : Int32) <<< (p1 &&& 31)) - 1)), some (.int x1.1), none, some (.int x63.1), none, none]) (fun t63 : (Nat → Nat → Int32) => [some (.ref p0), none, some (.int (((1 : Int32) <<< (p1 &&& 31)) - 1)), some (.int x1.1), none, none, none, none]) (fun x63 => (x63.2, S.2)) (fun t63 => (t63, S.2)) (fun x63 G63 hB63 hE63 => ?_) (fun t63 => ?_) am_fuel (1, σ62))
        · unfold f_X0_leastOfAll_b62
          refine ev_iload dX0_leastOfAll_62 rfl ?_
          refine ev_iload_n dX0_leastOfAll_64 rfl ?_
          refine ev_eq am_ib ?_
          refine ev_icmp_ge (tgt := 154) dX0_leastOfAll_65 (by decide) (fun c84 => ?_) (fun c84 => ?_)
          · exact ev_leaf (am_wk (am_wf (am_wk (am_wk (am_wf (am_wf (am_wf (am_wf am_wn)))))))) (hE63 x63.2)
          · refine ev_iload_n dX0_leastOfAll_68 rfl ?_
            refine ev_iload dX0_leastOfAll_69 rfl ?_
            refine ev_iconst (v := (-1)) dX0_leastOfAll_71 (by decide) ?_
            refine ev_ixor dX0_leastOfAll_72 ?_
            refine ev_iand dX0_leastOfAll_73 ?_
            refine ev_istore dX0_leastOfAll_74 (am_lt rfl) ?_
            refine ev_aload_n dX0_leastOfAll_76 rfl ?_
            refine ev_eq (Option.bind_assoc _ _ _) ?_
            refine ev_getR fk_X0_15 (by decide) dX0_leastOfAll_77 kp0 (fun q85 k85 r85 => ?_)
            refine ev_iload dX0_leastOfAll_80 rfl ?_
            refine ev_eq (Option.bind_assoc _ _ _) ?_
            refine ev_iald dX0_leastOfAll_82 k85 (fun v86 h86 => ?_)
            refine ev_aload_n dX0_leastOfAll_83 rfl ?_
            refine ev_eq (Option.bind_assoc _ _ _) ?_
            refine ev_getR fk_X0_11 (by decide) dX0_leastOfAll_84 kp0 (fun q87 k87 r87 => ?_)
            refine ev_iload dX0_leastOfAll_87 rfl ?_
            refine ev_eq (Option.bind_assoc _ _ _) ?_
            refine ev_iald dX0_leastOfAll_89 k87 (fun v88 h88 => ?_)
            refine ev_iadd dX0_leastOfAll_90 ?_
            refine ev_aload_n dX0_leastOfAll_91 rfl ?_
            refine ev_eq (Option.bind_assoc _ _ _) ?_
            refine ev_getR fk_X0_15 (by decide) dX0_leastOfAll_92 kp0 (fun q89 k89 r89 => ?_)
            refine ev_iload dX0_leastOfAll_95 rfl ?_
            refine ev_eq (Option.bind_assoc _ _ _) ?_
            refine ev_iald dX0_leastOfAll_97 k89 (fun v90 h90 => ?_)
            refine ev_iadd dX0_leastOfAll_98 ?_
            refine ev_iconst (v := 2) dX0_leastOfAll_99 (by decide) ?_
            refine ev_aload_n dX0_leastOfAll_100 rfl ?_
            refine ev_eq (Option.bind_assoc _ _ _) ?_
            refine ev_getR fk_X0_11 (by decide) dX0_leastOfAll_101 kp0 (fun q91 k91 r91 => ?_)
            refine ev_iload dX0_leastOfAll_104 rfl ?_
            refine ev_eq (Option.bind_assoc _ _ _) ?_
            refine ev_iald dX0_leastOfAll_106 k91 (fun v92 h92 => ?_)
            refine ev_imul dX0_leastOfAll_107 ?_
            refine ev_iadd dX0_leastOfAll_108 ?_
            refine ev_istore dX0_leastOfAll_109 (am_lt rfl) ?_
            refine ev_iload dX0_leastOfAll_111 rfl ?_
            refine ev_iload_n dX0_leastOfAll_113 rfl ?_
            refine ev_iand dX0_leastOfAll_114 ?_
            refine ev_iload dX0_leastOfAll_115 rfl ?_
            refine ev_eq (Option.bind_assoc _ _ _) ?_
            refine ev_reg (cs' := 0) (sl' := 0) 148 (fun t93 : (Nat → Nat → Int32) => [some (.ref p0), none, some (.int (((1 : Int32) <<< (p1 &&& 31)) - 1)), some (.int x1.1), none, some (.int x63.1), none, none]) (fun t93 => []) (fun t93 => (t93, S.2)) (fun hJ93 => ?_) (fun t93 => ?_)
            · refine ev_eq am_ib ?_
              refine ev_icmp_ne (tgt := 148) dX0_leastOfAll_117 (by decide) (fun c93 => ?_) (fun c93 => ?_)
              · exact ev_leaf (am_wk (am_wf (am_wk (am_wk (am_wf (am_wk (am_wf (am_wf am_wn)))))))) (hJ93 x63.2)
              · refine ev_aload_n dX0_leastOfAll_120 rfl ?_
                refine ev_eq (Option.bind_assoc _ _ _) ?_
                refine ev_getR fk_X0_15 (by decide) dX0_leastOfAll_121 kp0 (fun q94 k94 r94 => ?_)
                refine ev_iload_n dX0_leastOfAll_124 rfl ?_
                refine ev_eq (Option.bind_assoc _ _ _) ?_
                refine ev_iald dX0_leastOfAll_125 k94 (fun v95 h95 => ?_)
                refine ev_eq am_ib ?_
                refine ev_if_eq (tgt := 140) dX0_leastOfAll_126 (by decide) (fun c96 => ?_) (fun c96 => ?_)
                · refine ev_aload_n dX0_leastOfAll_140 rfl ?_
                  refine ev_eq (Option.bind_assoc _ _ _) ?_
                  refine ev_getR fk_X0_15 (by decide) dX0_leastOfAll_141 kp0 (fun q97 k97 r97 => ?_)
                  refine ev_iload_n dX0_leastOfAll_144 rfl ?_
                  refine ev_iload dX0_leastOfAll_145 rfl ?_
                  refine ev_eq (Option.bind_assoc _ _ _) ?_
                  refine ev_iast dX0_leastOfAll_147 k97 (fun σ98 h98 => ?_)
                  exact ev_leaf (am_wk (am_wf (am_wk (am_wk (am_wf (am_wk (am_wf (am_wf am_wn)))))))) (hJ93 σ98)
                · refine ev_iload dX0_leastOfAll_129 rfl ?_
                  refine ev_aload_n dX0_leastOfAll_131 rfl ?_
                  refine ev_eq (Option.bind_assoc _ _ _) ?_
                  refine ev_getR fk_X0_15 (by decide) dX0_leastOfAll_132 kp0 (fun q99 k99 r99 => ?_)
                  refine ev_iload_n dX0_leastOfAll_135 rfl ?_
                  refine ev_eq (Option.bind_assoc _ _ _) ?_
                  refine ev_iald dX0_leastOfAll_136 k99 (fun v100 h100 => ?_)
                  refine ev_eq am_ib ?_
                  refine ev_icmp_ge (tgt := 148) dX0_leastOfAll_137 (by decide) (fun c101 => ?_) (fun c101 => ?_)
                  · exact ev_leaf (am_wk (am_wf (am_wk (am_wk (am_wf (am_wk (am_wf (am_wf am_wn)))))))) (hJ93 x63.2)
                  · refine ev_aload_n dX0_leastOfAll_140 rfl ?_
                    refine ev_eq (Option.bind_assoc _ _ _) ?_
                    refine ev_getR fk_X0_15 (by decide) dX0_leastOfAll_141 kp0 (fun q102 k102 r102 => ?_)
                    refine ev_iload_n dX0_leastOfAll_144 rfl ?_
                    refine ev_iload dX0_leastOfAll_145 rfl ?_
                    refine ev_eq (Option.bind_assoc _ _ _) ?_
                    refine ev_iast dX0_leastOfAll_147 k102 (fun σ103 h103 => ?_)
                    exact ev_leaf (am_wk (am_wf (am_wk (am_wk (am_wf (am_wk (am_wf (am_wf am_wn)))))))) (hJ93 σ103)
            · refine ev_iinc (v := (x63.1 + 1)) dX0_leastOfAll_148 (am_lt rfl) rfl rfl ?_
              refine ev_goto (tgt := 62) dX0_leastOfAll_151 (by decide) ?_
              exact ev_leaf (am_wk (am_wf (am_wk (am_wk (am_wf (am_wk (am_wf (am_wf am_wn)))))))) (hB63 ((x63.1 + 1), t93))
        · refine ev_iinc (v := (x1.1 + 1)) dX0_leastOfAll_154 (am_lt rfl) rfl rfl ?_
          refine ev_goto (tgt := 8) dX0_leastOfAll_157 (by decide) ?_
          exact ev_leaf (am_wk (am_wf (am_wk (am_wk (am_wf (am_wf (am_wf (am_wf am_wn)))))))) (hB1 ((x1.1 + 1), t63))
  · refine ev_aload_n dX0_leastOfAll_160 rfl ?_
    refine ev_getR fk_X0_15 (by decide) dX0_leastOfAll_161 kp0 (fun q104 k104 r104 => ?_)
    refine ev_iload_n dX0_leastOfAll_164 rfl ?_
    refine ev_iald dX0_leastOfAll_165 k104 (fun v105 h105 => ?_)
    exact ev_iret dX0_leastOfAll_166 rfl rfl (by decide) (by decide) rfl
def f_X0_leastFor_b5 (S : am_S) (a0 : Nat) (a1 : Nat) (a2 : Int32) (x1 : Int32 × Int32 × (Nat → Nat → Int32)) : Option ((Int32 × Int32 × (Nat → Nat → Int32)) ⊕ ((Int32 × (Nat → Nat → Int32)) ⊕ (Int32 × (Nat → Nat → Int32)))) :=
  (if x1.2.1 < (x1.2.2 a1 1) then (if ((a2 >>> (x1.2.1 &&& 31)) &&& 1) = 1 then (if x1.1 < 6 then ((am_rd S.2 a0 0 1).bind (fun q5 => ((f_X9_urgentOf (x1.2.2, S.2) a1 x1.2.1).bind (fun v6 => ((am_st x1.2.2 q5 ((1 : Int32) <<< (x1.1 &&& 31)) v6).bind (fun σ7 => some (.inl ((x1.1 + 1), (x1.2.1 + 1), σ7)))))))) else some (.inr (.inr ((-3), x1.2.2)))) else some (.inl (x1.1, (x1.2.1 + 1), x1.2.2))) else some (.inr (.inl (x1.1, x1.2.2))))
def f_X0_leastFor (S : am_S) (p0 : Nat) (p1 : Nat) (p2 : Int32) : Option (Int32 × (Nat → Nat → Int32)) :=
  ((am_loop (f_X0_leastFor_b5 S p0 p1 p2) am_fuel (0, 0, S.1)).bind (fun r1 => match r1 with | .inl t1 => (if t1.1 = 0 then some (0, t1.2) else (if t1.1 = 1 then ((am_rd S.2 p0 0 1).bind (fun q17 => ((am_ld t1.2 q17 1).bind (fun v18 => some (v18, t1.2))))) else ((f_X0_leastOfAll (t1.2, S.2) p0 t1.1).bind (fun y16 => some (y16.1, y16.2))))) | .inr b1 => some b1))
set_option maxRecDepth 20000 in
theorem t_X0_leastFor {E : am_E} {l : Launch} (hl : l.stackTraces = false) {S : am_S} {p0 : Nat} {p1 : Nat} {p2 : Int32} (kp0 : am_kd p0 = 100) (kp1 : am_kd p1 = 109) : am_M E l yX0_leastFor (.code yX0_leastFor cX0_leastFor 5 (some .int)) 2 0 0 [.ref p0, .ref p1, .int p2] S ((f_X0_leastFor S p0 p1 p2).map (fun (x : Int32 × (Nat → Nat → Int32)) => ((.inl (some (.int x.1)), (x.2, S.2)) : am_R))) := by
  refine am_M_of (w := fun (x : Int32 × (Nat → Nat → Int32)) => ((.inl (some (.int x.1)), (x.2, S.2)) : am_R)) hl (by decide) (am_fc rfl (am_fc rfl (am_fc rfl am_fn))) (Nat.le_of_ble_eq_true rfl) ?_
  show am_Ev E l (RX0, cX0_leastFor, 5, (some .int), [], am_rm 2 0 0) (fun b a s x => am_Z E 0 0 b a s ((fun (x : Int32 × (Nat → Nat → Int32)) => ((.inl (some (.int x.1)), (x.2, S.2)) : am_R)) x)) 0 0 0 [some (.ref p0), some (.ref p1), some (.int p2), none, none] [] S (f_X0_leastFor S p0 p1 p2)
  unfold f_X0_leastFor
  refine ev_iconst (v := 0) dX0_leastFor_0 (by decide) ?_
  refine ev_istore_n dX0_leastFor_1 (am_lt rfl) ?_
  refine ev_iconst (v := 0) dX0_leastFor_2 (by decide) ?_
  refine ev_istore dX0_leastFor_3 (am_lt rfl) ?_
  refine ev_weak (am_wk (am_wk (am_wk (am_wk (am_wk am_wn))))) (ev_loopR 5 56 (fun x1 : Int32 × Int32 × (Nat → Nat → Int32) => [some (.ref p0), some (.ref p1), some (.int p2), some (.int x1.1), some (.int x1.2.1)]) (fun t1 : Int32 × (Nat → Nat → Int32) => [some (.ref p0), none, none, some (.int t1.1), none]) (fun x1 => (x1.2.2, S.2)) (fun t1 => (t1.2, S.2)) (fun x1 G1 hB1 hE1 hG1 => ?_) (fun t1 => ?_) am_fuel (0, 0, S.1))
  · unfold f_X0_leastFor_b5
    refine ev_iload dX0_leastFor_5 rfl ?_
    refine ev_aload_n dX0_leastFor_7 rfl ?_
    refine ev_getN fk_X0_24 dX0_leastFor_8 kp1 (am_fvI (by decide)) ?_
    refine ev_eq am_ib ?_
    refine ev_icmp_ge (tgt := 56) dX0_leastFor_11 (by decide) (fun c8 => ?_) (fun c8 => ?_)
    · exact ev_leaf (am_wk (am_wf (am_wf (am_wk (am_wf am_wn))))) (hE1 (x1.1, x1.2.2))
    · refine ev_iload_n dX0_leastFor_14 rfl ?_
      refine ev_iload dX0_leastFor_15 rfl ?_
      refine ev_ishr dX0_leastFor_17 ?_
      refine ev_iconst (v := 1) dX0_leastFor_18 (by decide) ?_
      refine ev_iand dX0_leastFor_19 ?_
      refine ev_iconst (v := 1) dX0_leastFor_20 (by decide) ?_
      refine ev_eq am_ib ?_
      refine ev_icmp_ne (tgt := 50) dX0_leastFor_21 (by decide) (fun c9 => ?_) (fun c9 => ?_)
      · refine ev_iinc (v := (x1.2.1 + 1)) dX0_leastFor_50 (am_lt rfl) rfl rfl ?_
        refine ev_goto (tgt := 5) dX0_leastFor_53 (by decide) ?_
        exact ev_leaf (am_wk (am_wk (am_wk (am_wk (am_wk am_wn))))) (hB1 (x1.1, (x1.2.1 + 1), x1.2.2))
      · refine ev_iload_n dX0_leastFor_24 rfl ?_
        refine ev_bipush (v := 6) dX0_leastFor_25 (by decide) ?_
        refine ev_eq am_ib ?_
        refine ev_icmp_lt (tgt := 33) dX0_leastFor_27 (by decide) (fun c10 => ?_) (fun c10 => ?_)
        · refine ev_aload_n dX0_leastFor_33 rfl ?_
          refine ev_eq (Option.bind_assoc _ _ _) ?_
          refine ev_getR fk_X0_11 (by decide) dX0_leastFor_34 kp0 (fun q11 k11 r11 => ?_)
          refine ev_iconst (v := 1) dX0_leastFor_37 (by decide) ?_
          refine ev_iload_n dX0_leastFor_38 rfl ?_
          refine ev_ishl dX0_leastFor_39 ?_
          refine ev_aload_n dX0_leastFor_40 rfl ?_
          refine ev_iload dX0_leastFor_41 rfl ?_
          refine ev_eq (Option.bind_assoc _ _ _) ?_
          refine ev_callP (am_callVN (as := [.int x1.2.1]) (o := p1) (st := [.int ((1 : Int32) <<< (x1.1 &&& 31)), .ref q11]) cv_X0_30 dX0_leastFor_43 kp1 rfl (am_le rfl) (am_fit (by omega) (by decide) (by decide) (by decide)) (am_no1 (fun _ => ⟨_, rfl⟩)) (t_X9_urgentOf hl kp1)) (fun v12 h12 => ?_)
          refine ev_eq (Option.bind_assoc _ _ _) ?_
          refine ev_iast dX0_leastFor_46 k11 (fun σ13 h13 => ?_)
          refine ev_iinc (v := (x1.1 + 1)) dX0_leastFor_47 (am_lt rfl) rfl rfl ?_
          refine ev_iinc (v := (x1.2.1 + 1)) dX0_leastFor_50 (am_lt rfl) rfl rfl ?_
          refine ev_goto (tgt := 5) dX0_leastFor_53 (by decide) ?_
          exact ev_leaf (am_wk (am_wk (am_wk (am_wk (am_wk am_wn))))) (hB1 ((x1.1 + 1), (x1.2.1 + 1), σ13))
        · refine ev_bipush (v := (-3)) dX0_leastFor_30 (by decide) ?_
          exact ev_eq (hG1 _) (ev_iret dX0_leastFor_32 rfl rfl (by decide) (by decide) rfl)
  · refine ev_iload_n dX0_leastFor_56 rfl ?_
    refine ev_if_ne (tgt := 62) dX0_leastFor_57 (by decide) (fun c14 => ?_) (fun c14 => ?_)
    · refine ev_iload_n dX0_leastFor_62 rfl ?_
      refine ev_iconst (v := 1) dX0_leastFor_63 (by decide) ?_
      refine ev_icmp_ne (tgt := 76) dX0_leastFor_64 (by decide) (fun c15 => ?_) (fun c15 => ?_)
      · refine ev_aload_n dX0_leastFor_76 rfl ?_
        refine ev_iload_n dX0_leastFor_77 rfl ?_
        refine ev_callWI (am_callV (as := [.int t1.1]) (o := p0) (st := []) cv_X0_34 dX0_leastFor_78 kp0 rfl (am_le rfl) (am_fit (by omega) (by decide) (by decide) (by decide)) (t_X0_leastOfAll hl kp0)) (fun y16 h16 => ?_)
        exact ev_iret dX0_leastFor_81 rfl rfl (by decide) (by decide) rfl
      · refine ev_aload_n dX0_leastFor_67 rfl ?_
        refine ev_getR fk_X0_11 (by decide) dX0_leastFor_68 kp0 (fun q17 k17 r17 => ?_)
        refine ev_iconst (v := 1) dX0_leastFor_71 (by decide) ?_
        refine ev_iald dX0_leastFor_72 k17 (fun v18 h18 => ?_)
        refine ev_goto (tgt := 81) dX0_leastFor_73 (by decide) ?_
        exact ev_iret dX0_leastFor_81 rfl rfl (by decide) (by decide) rfl
    · refine ev_iconst (v := 0) dX0_leastFor_60 (by decide) ?_
      exact ev_iret dX0_leastFor_61 rfl rfl (by decide) (by decide) rfl
def f_X11_least (S : am_S) (p0 : Nat) (p1 : Int32) : Option (Int32 × (Nat → Nat → Int32)) :=
  ((am_rd S.2 p0 14 100).bind (fun q1 => ((am_rd S.2 p0 3 109).bind (fun q2 => ((f_X0_leastFor S q1 q2 p1).bind (fun y3 => some (y3.1, y3.2)))))))
set_option maxRecDepth 20000 in
theorem t_X11_least {E : am_E} {l : Launch} (hl : l.stackTraces = false) {S : am_S} {p0 : Nat} {p1 : Int32} (kp0 : am_kd p0 = 111) : am_M E l yX11_least (.code yX11_least cX11_least 2 (some .int)) 3 0 0 [.ref p0, .int p1] S ((f_X11_least S p0 p1).map (fun (x : Int32 × (Nat → Nat → Int32)) => ((.inl (some (.int x.1)), (x.2, S.2)) : am_R))) := by
  refine am_M_of (w := fun (x : Int32 × (Nat → Nat → Int32)) => ((.inl (some (.int x.1)), (x.2, S.2)) : am_R)) hl (by decide) (am_fc rfl (am_fc rfl am_fn)) (Nat.le_of_ble_eq_true rfl) ?_
  show am_Ev E l (RX11, cX11_least, 2, (some .int), [], am_rm 3 0 0) (fun b a s x => am_Z E 0 0 b a s ((fun (x : Int32 × (Nat → Nat → Int32)) => ((.inl (some (.int x.1)), (x.2, S.2)) : am_R)) x)) 0 0 0 [some (.ref p0), some (.int p1)] [] S (f_X11_least S p0 p1)
  unfold f_X11_least
  refine ev_aload_n dX11_least_0 rfl ?_
  refine ev_getR fk_X11_79 (by decide) dX11_least_1 kp0 (fun q1 k1 r1 => ?_)
  refine ev_aload_n dX11_least_4 rfl ?_
  refine ev_getR fk_X11_20 (by decide) dX11_least_5 kp0 (fun q2 k2 r2 => ?_)
  refine ev_iload_n dX11_least_8 rfl ?_
  refine ev_callWI (am_callVN (as := [.ref q2, .int p1]) (o := q1) (st := []) cv_X11_251 dX11_least_9 k1 rfl (am_le rfl) (am_fit (by omega) (by decide) (by decide) (by decide)) (am_no1 (fun _ => ⟨_, rfl⟩)) (t_X0_leastFor hl k1 k2)) (fun y3 h3 => ?_)
  exact ev_iret dX11_least_12 rfl rfl (by decide) (by decide) rfl
def f_X9_harmedBy_b4 (S : am_S) (a0 : Nat) (a1 : Int32) (x1 : Int32 × Int32) : Option ((Int32 × Int32) ⊕ (Int32)) :=
  (if x1.2 < (S.1 a0 0) then ((f_X9_isHarming S a0 a1 x1.2).bind (fun v3 => ((if v3 = 0 then some x1.1 else some (x1.1 ||| ((1 : Int32) <<< (x1.2 &&& 31)))).bind (fun t4 => some (.inl (t4, (x1.2 + 1))))))) else some (.inr x1.1))
def f_X9_harmedBy (S : am_S) (p0 : Nat) (p1 : Int32) : Option (Int32) :=
  ((am_loop (f_X9_harmedBy_b4 S p0 p1) am_fuel (0, 0)).bind (fun t1 => some t1))
set_option maxRecDepth 20000 in
theorem t_X9_harmedBy {E : am_E} {l : Launch} (hl : l.stackTraces = false) {S : am_S} {p0 : Nat} {p1 : Int32} (kp0 : am_kd p0 = 109) : am_M E l yX9_harmedBy (.code yX9_harmedBy cX9_harmedBy 4 (some .int)) 3 0 0 [.ref p0, .int p1] S ((f_X9_harmedBy S p0 p1).map (fun (v : Int32) => ((.inl (some (.int v)), S) : am_R))) := by
  refine am_M_of (w := fun (v : Int32) => ((.inl (some (.int v)), S) : am_R)) hl (by decide) (am_fc rfl (am_fc rfl am_fn)) (Nat.le_of_ble_eq_true rfl) ?_
  show am_Ev E l (RX9, cX9_harmedBy, 4, (some .int), [], am_rm 3 0 0) (fun b a s x => am_Z E 0 0 b a s ((fun (v : Int32) => ((.inl (some (.int v)), S) : am_R)) x)) 0 0 0 [some (.ref p0), some (.int p1), none, none] [] S (f_X9_harmedBy S p0 p1)
  unfold f_X9_harmedBy
  refine ev_iconst (v := 0) dX9_harmedBy_0 (by decide) ?_
  refine ev_istore_n dX9_harmedBy_1 (am_lt rfl) ?_
  refine ev_iconst (v := 0) dX9_harmedBy_2 (by decide) ?_
  refine ev_istore_n dX9_harmedBy_3 (am_lt rfl) ?_
  refine ev_weak (am_wk (am_wk (am_wk (am_wk am_wn)))) (ev_loop 4 33 (fun x1 : Int32 × Int32 => [some (.ref p0), some (.int p1), some (.int x1.1), some (.int x1.2)]) (fun t1 : Int32 => [none, none, some (.int t1), none]) (fun x1 => S) (fun t1 => S) (fun x1 G1 hB1 hE1 => ?_) (fun t1 => ?_) am_fuel (0, 0))
  · unfold f_X9_harmedBy_b4
    refine ev_iload_n dX9_harmedBy_4 rfl ?_
    refine ev_aload_n dX9_harmedBy_5 rfl ?_
    refine ev_get fk_X9_50 dX9_harmedBy_6 kp0 (am_fvI (by decide)) ?_
    refine ev_eq am_ib ?_
    refine ev_icmp_ge (tgt := 33) dX9_harmedBy_9 (by decide) (fun c5 => ?_) (fun c5 => ?_)
    · exact ev_leaf (am_wf (am_wf (am_wk (am_wf am_wn)))) (hE1 x1.1)
    · refine ev_aload_n dX9_harmedBy_12 rfl ?_
      refine ev_iload_n dX9_harmedBy_13 rfl ?_
      refine ev_iload_n dX9_harmedBy_14 rfl ?_
      refine ev_eq (Option.bind_assoc _ _ _) ?_
      refine ev_callP (am_callV (as := [.int p1, .int x1.2]) (o := p0) (st := []) cv_X9_111 dX9_harmedBy_15 kp0 rfl (am_le rfl) (am_fit (by omega) (by decide) (by decide) (by decide)) (t_X9_isHarming hl kp0)) (fun v6 h6 => ?_)
      refine ev_eq (Option.bind_assoc _ _ _) ?_
      refine ev_reg (cs' := 0) (sl' := 0) 27 (fun t7 : Int32 => [some (.ref p0), some (.int p1), some (.int t7), some (.int x1.2)]) (fun t7 => []) (fun t7 => S) (fun hJ7 => ?_) (fun t7 => ?_)
      · refine ev_eq am_ib ?_
        refine ev_if_eq (tgt := 27) dX9_harmedBy_18 (by decide) (fun c7 => ?_) (fun c7 => ?_)
        · exact ev_leaf (am_wk (am_wk (am_wk (am_wk am_wn)))) (hJ7 x1.1)
        · refine ev_iload_n dX9_harmedBy_21 rfl ?_
          refine ev_iconst (v := 1) dX9_harmedBy_22 (by decide) ?_
          refine ev_iload_n dX9_harmedBy_23 rfl ?_
          refine ev_ishl dX9_harmedBy_24 ?_
          refine ev_ior dX9_harmedBy_25 ?_
          refine ev_istore_n dX9_harmedBy_26 (am_lt rfl) ?_
          exact ev_leaf (am_wk (am_wk (am_wk (am_wk am_wn)))) (hJ7 (x1.1 ||| ((1 : Int32) <<< (x1.2 &&& 31))))
      · refine ev_iinc (v := (x1.2 + 1)) dX9_harmedBy_27 (am_lt rfl) rfl rfl ?_
        refine ev_goto (tgt := 4) dX9_harmedBy_30 (by decide) ?_
        exact ev_leaf (am_wk (am_wk (am_wk (am_wk am_wn)))) (hB1 (t7, (x1.2 + 1)))
  · refine ev_iload_n dX9_harmedBy_33 rfl ?_
    exact ev_iret dX9_harmedBy_34 rfl rfl (by decide) (by decide) rfl
def f_X7_isFree_b2 (S : am_S) (a0 : Nat) (a1 : Int32) (a2 : Int32) (x1 : Int32) : Option ((Int32) ⊕ ((Unit) ⊕ (Int32))) :=
  (if x1 < a1 then ((am_rd S.2 a0 0 1).bind (fun q3 => ((am_ld S.1 q3 x1).bind (fun v4 => (if v4 = a2 then ((am_rd S.2 a0 1 1).bind (fun q6 => ((am_ld S.1 q6 a1).bind (fun v7 => (if ((v7 >>> (x1 &&& 31)) &&& 1) = 1 then some (.inr (.inr 0)) else some (.inl (x1 + 1))))))) else some (.inl (x1 + 1))))))) else some (.inr (.inr 1)))
def f_X7_isFree (S : am_S) (p0 : Nat) (p1 : Int32) (p2 : Int32) : Option (Int32) :=
  ((am_loop (f_X7_isFree_b2 S p0 p1 p2) am_fuel 0).bind (fun r1 => match r1 with | .inl t1 => none | .inr b1 => some b1))
set_option maxRecDepth 20000 in
theorem t_X7_isFree {E : am_E} {l : Launch} (hl : l.stackTraces = false) {S : am_S} {p0 : Nat} {p1 : Int32} {p2 : Int32} (kp0 : am_kd p0 = 107) : am_M E l yX7_isFree (.code yX7_isFree cX7_isFree 4 (some .boolean)) 0 0 0 [.ref p0, .int p1, .int p2] S ((f_X7_isFree S p0 p1 p2).map (fun (v : Int32) => ((.inl (some (.int v)), S) : am_R))) := by
  refine am_M_of (w := fun (v : Int32) => ((.inl (some (.int v)), S) : am_R)) hl (by decide) (am_fc rfl (am_fc rfl (am_fc rfl am_fn))) (Nat.le_of_ble_eq_true rfl) ?_
  show am_Ev E l (RX7, cX7_isFree, 4, (some .boolean), [], am_rm 0 0 0) (fun b a s x => am_Z E 0 0 b a s ((fun (v : Int32) => ((.inl (some (.int v)), S) : am_R)) x)) 0 0 0 [some (.ref p0), some (.int p1), some (.int p2), none] [] S (f_X7_isFree S p0 p1 p2)
  unfold f_X7_isFree
  refine ev_iconst (v := 0) dX7_isFree_0 (by decide) ?_
  refine ev_istore_n dX7_isFree_1 (am_lt rfl) ?_
  refine ev_weak (am_wk (am_wk (am_wk (am_wk am_wn)))) (ev_loopR 2 0 (fun x1 : Int32 => [some (.ref p0), some (.int p1), some (.int p2), some (.int x1)]) (fun t1 : Unit => [none, none, none, none]) (fun x1 => S) (fun t1 => S) (fun x1 G1 hB1 hE1 hG1 => ?_) (fun t1 => ?_) am_fuel 0)
  · unfold f_X7_isFree_b2
    refine ev_iload_n dX7_isFree_2 rfl ?_
    refine ev_iload_n dX7_isFree_3 rfl ?_
    refine ev_eq am_ib ?_
    refine ev_icmp_ge (tgt := 39) dX7_isFree_4 (by decide) (fun c9 => ?_) (fun c9 => ?_)
    · refine ev_iconst (v := 1) dX7_isFree_39 (by decide) ?_
      exact ev_eq (hG1 _) (ev_iret dX7_isFree_40 rfl (by decide) (by decide) (by decide) rfl)
    · refine ev_aload_n dX7_isFree_7 rfl ?_
      refine ev_eq (Option.bind_assoc _ _ _) ?_
      refine ev_getR fk_X7_9 (by decide) dX7_isFree_8 kp0 (fun q10 k10 r10 => ?_)
      refine ev_iload_n dX7_isFree_11 rfl ?_
      refine ev_eq (Option.bind_assoc _ _ _) ?_
      refine ev_iald dX7_isFree_12 k10 (fun v11 h11 => ?_)
      refine ev_iload_n dX7_isFree_13 rfl ?_
      refine ev_eq am_ib ?_
      refine ev_icmp_ne (tgt := 33) dX7_isFree_14 (by decide) (fun c12 => ?_) (fun c12 => ?_)
      · refine ev_iinc (v := (x1 + 1)) dX7_isFree_33 (am_lt rfl) rfl rfl ?_
        refine ev_goto (tgt := 2) dX7_isFree_36 (by decide) ?_
        exact ev_leaf (am_wk (am_wk (am_wk (am_wk am_wn)))) (hB1 (x1 + 1))
      · refine ev_aload_n dX7_isFree_17 rfl ?_
        refine ev_eq (Option.bind_assoc _ _ _) ?_
        refine ev_getR fk_X7_15 (by decide) dX7_isFree_18 kp0 (fun q13 k13 r13 => ?_)
        refine ev_iload_n dX7_isFree_21 rfl ?_
        refine ev_eq (Option.bind_assoc _ _ _) ?_
        refine ev_iald dX7_isFree_22 k13 (fun v14 h14 => ?_)
        refine ev_iload_n dX7_isFree_23 rfl ?_
        refine ev_ishr dX7_isFree_24 ?_
        refine ev_iconst (v := 1) dX7_isFree_25 (by decide) ?_
        refine ev_iand dX7_isFree_26 ?_
        refine ev_iconst (v := 1) dX7_isFree_27 (by decide) ?_
        refine ev_eq am_ib ?_
        refine ev_icmp_ne (tgt := 33) dX7_isFree_28 (by decide) (fun c15 => ?_) (fun c15 => ?_)
        · refine ev_iinc (v := (x1 + 1)) dX7_isFree_33 (am_lt rfl) rfl rfl ?_
          refine ev_goto (tgt := 2) dX7_isFree_36 (by decide) ?_
          exact ev_leaf (am_wk (am_wk (am_wk (am_wk am_wn)))) (hB1 (x1 + 1))
        · refine ev_iconst (v := 0) dX7_isFree_31 (by decide) ?_
          exact ev_eq (hG1 _) (ev_iret dX7_isFree_32 rfl (by decide) (by decide) (by decide) rfl)
  · exact ev_none
def f_J9_max_7cf53 (p0 : Int32) (p1 : Int32) : Option (Int32) :=
  (if p0 < p1 then some p1 else some p0)
set_option maxRecDepth 20000 in
theorem t_J9_max_7cf53 {E : am_E} {l : Launch} (hl : l.stackTraces = false) {S : am_S} {p0 : Int32} {p1 : Int32}  : am_M E l yJ9_max_7cf53 (.code yJ9_max_7cf53 cJ9_max_7cf53 2 (some .int)) 0 0 0 [.int p0, .int p1] S ((f_J9_max_7cf53 p0 p1).map (fun (v : Int32) => ((.inl (some (.int v)), S) : am_R))) := by
  refine am_M_ofF (w := fun (v : Int32) => ((.inl (some (.int v)), S) : am_R)) hl (by decide +kernel) (am_fc rfl (am_fc rfl am_fn)) (Nat.le_of_ble_eq_true rfl) ?_
  show am_Ev E l (RJ9, cJ9_max_7cf53, 2, (some .int), [], am_rm 0 0 0) (fun b a s x => am_Z E 0 0 b a s ((fun (v : Int32) => ((.inl (some (.int v)), S) : am_R)) x)) 0 0 0 [some (.int p0), some (.int p1)] [] S (f_J9_max_7cf53 p0 p1)
  unfold f_J9_max_7cf53
  refine ev_iload_n dJ9_max_7cf53_0 rfl ?_
  refine ev_iload_n dJ9_max_7cf53_1 rfl ?_
  refine ev_icmp_lt (tgt := 9) dJ9_max_7cf53_2 (by decide) (fun c1 => ?_) (fun c1 => ?_)
  · refine ev_iload_n dJ9_max_7cf53_9 rfl ?_
    exact ev_iret dJ9_max_7cf53_10 rfl rfl (by decide) (by decide) rfl
  · refine ev_iload_n dJ9_max_7cf53_5 rfl ?_
    refine ev_goto (tgt := 10) dJ9_max_7cf53_6 (by decide) ?_
    exact ev_iret dJ9_max_7cf53_10 rfl rfl (by decide) (by decide) rfl
def f_X7_isPainted_b17 (rc_X7_isPainted : am_S → Nat → Int32 → Int32 → Int32 → Int32 → Option (Int32 × (Nat → Nat → Int32))) (S : am_S) (a0 : Nat) (a1 : Int32) (a2 : Int32) (a3 : Int32) (a4 : Int32) (x3 : Int32 × (Nat → Nat → Int32)) : Option ((Int32 × (Nat → Nat → Int32)) ⊕ (((Nat → Nat → Int32)) ⊕ (Int32 × (Nat → Nat → Int32)))) :=
  (if x3.1 < a3 then (if a2 < x3.1 then some (.inr (.inr (0, x3.2))) else ((f_X7_isFree (x3.2, S.2) a0 a1 x3.1).bind (fun v6 => (if v6 = 0 then some (.inl ((x3.1 + 1), x3.2)) else ((am_rd S.2 a0 0 1).bind (fun q8 => ((am_st x3.2 q8 a1 x3.1).bind (fun σ9 => ((f_J9_max_7cf53 a2 (x3.1 + 1)).bind (fun v10 => ((rc_X7_isPainted (σ9, S.2) a0 (a1 + 1) v10 a3 a4).bind (fun y11 => (if y11.1 = 0 then some (.inl ((x3.1 + 1), y11.2)) else some (.inr (.inr (1, y11.2)))))))))))))))) else some (.inr (.inr (0, x3.2))))
def f_X7_isPainted_o (rc_X7_isPainted : am_S → Nat → Int32 → Int32 → Int32 → Int32 → Option (Int32 × (Nat → Nat → Int32))) (S : am_S) (p0 : Nat) (p1 : Int32) (p2 : Int32) (p3 : Int32) (p4 : Int32) : Option (Int32 × (Nat → Nat → Int32)) :=
  (if p1 < p4 then (if p1 < 8 then ((am_loop (f_X7_isPainted_b17 rc_X7_isPainted S p0 p1 p2 p3 p4) am_fuel (0, S.1)).bind (fun r3 => match r3 with | .inl t3 => none | .inr b3 => some b3)) else some (1, S.1)) else some (1, S.1))
set_option maxRecDepth 20000 in
theorem to_X7_isPainted {E : am_E} {l : Launch} (hl : l.stackTraces = false) {d : Nat} (hD : 0 ≤ d) {rc_X7_isPainted : am_S → Nat → Int32 → Int32 → Int32 → Int32 → Option (Int32 × (Nat → Nat → Int32))}  (ht_X7_isPainted : ∀ {S : am_S} {p0 : Nat} {p1 : Int32} {p2 : Int32} {p3 : Int32} {p4 : Int32} (kp0 : am_kd p0 = 107), am_M E l yX7_isPainted (.code yX7_isPainted cX7_isPainted 6 (some .boolean)) (d) 0 0 [.ref p0, .int p1, .int p2, .int p3, .int p4] S ((rc_X7_isPainted S p0 p1 p2 p3 p4).map (fun (x : Int32 × (Nat → Nat → Int32)) => ((.inl (some (.int x.1)), (x.2, S.2)) : am_R)))) {S : am_S} {p0 : Nat} {p1 : Int32} {p2 : Int32} {p3 : Int32} {p4 : Int32} (kp0 : am_kd p0 = 107) : am_M E l yX7_isPainted (.code yX7_isPainted cX7_isPainted 6 (some .boolean)) (d + 1) 0 0 [.ref p0, .int p1, .int p2, .int p3, .int p4] S ((f_X7_isPainted_o rc_X7_isPainted S p0 p1 p2 p3 p4).map (fun (x : Int32 × (Nat → Nat → Int32)) => ((.inl (some (.int x.1)), (x.2, S.2)) : am_R))) := by
  refine am_M_of (w := fun (x : Int32 × (Nat → Nat → Int32)) => ((.inl (some (.int x.1)), (x.2, S.2)) : am_R)) hl (by decide) (am_fc rfl (am_fc rfl (am_fc rfl (am_fc rfl (am_fc rfl am_fn))))) (Nat.le_of_ble_eq_true rfl) ?_
  show am_Ev E l (RX7, cX7_isPainted, 6, (some .boolean), [], am_rm (d + 1) 0 0) (fun b a s x => am_Z E 0 0 b a s ((fun (x : Int32 × (Nat → Nat → Int32)) => ((.inl (some (.int x.1)), (x.2, S.2)) : am_R)) x)) 0 0 0 [some (.ref p0), some (.int p1), some (.int p2), some (.int p3), some (.int p4), none] [] S (f_X7_isPainted_o rc_X7_isPainted S p0 p1 p2 p3 p4)
  unfold f_X7_isPainted_o
  refine ev_iload_n dX7_isPainted_0 rfl ?_
  refine ev_iload dX7_isPainted_1 rfl ?_
  refine ev_icmp_ge (tgt := 12) dX7_isPainted_3 (by decide) (fun c1 => ?_) (fun c1 => ?_)
  · refine ev_iconst (v := 1) dX7_isPainted_12 (by decide) ?_
    exact ev_iret dX7_isPainted_13 rfl (by decide) (by decide) (by decide) rfl
  · refine ev_iload_n dX7_isPainted_6 rfl ?_
    refine ev_bipush (v := 8) dX7_isPainted_7 (by decide) ?_
    refine ev_icmp_lt (tgt := 14) dX7_isPainted_9 (by decide) (fun c2 => ?_) (fun c2 => ?_)
    · refine ev_iconst (v := 0) dX7_isPainted_14 (by decide) ?_
      refine ev_istore dX7_isPainted_15 (am_lt rfl) ?_
      refine ev_weak (am_wk (am_wk (am_wk (am_wk (am_wk (am_wk am_wn)))))) (ev_loopR 17 0 (fun x3 : Int32 × (Nat → Nat → Int32) => [some (.ref p0), some (.int p1), some (.int p2), some (.int p3), some (.int p4), some (.int x3.1)]) (fun t3 : (Nat → Nat → Int32) => [none, none, none, none, none, none]) (fun x3 => (x3.2, S.2)) (fun t3 => (t3, S.2)) (fun x3 G3 hB3 hE3 hG3 => ?_) (fun t3 => ?_) am_fuel (0, S.1))
      · unfold f_X7_isPainted_b17
        refine ev_iload dX7_isPainted_17 rfl ?_
        refine ev_iload_n dX7_isPainted_19 rfl ?_
        refine ev_eq am_ib ?_
        refine ev_icmp_ge (tgt := 76) dX7_isPainted_20 (by decide) (fun c13 => ?_) (fun c13 => ?_)
        · refine ev_iconst (v := 0) dX7_isPainted_76 (by decide) ?_
          exact ev_eq (hG3 _) (ev_iret dX7_isPainted_77 rfl (by decide) (by decide) (by decide) rfl)
        · refine ev_iload dX7_isPainted_23 rfl ?_
          refine ev_iload_n dX7_isPainted_25 rfl ?_
          refine ev_eq am_ib ?_
          refine ev_icmp_gt (tgt := 76) dX7_isPainted_26 (by decide) (fun c14 => ?_) (fun c14 => ?_)
          · refine ev_iconst (v := 0) dX7_isPainted_76 (by decide) ?_
            exact ev_eq (hG3 _) (ev_iret dX7_isPainted_77 rfl (by decide) (by decide) (by decide) rfl)
          · refine ev_aload_n dX7_isPainted_29 rfl ?_
            refine ev_iload_n dX7_isPainted_30 rfl ?_
            refine ev_iload dX7_isPainted_31 rfl ?_
            refine ev_eq (Option.bind_assoc _ _ _) ?_
            refine ev_callP (am_callV (as := [.int p1, .int x3.1]) (o := p0) (st := []) cv_X7_32 dX7_isPainted_33 kp0 rfl (am_le rfl) (am_fit (by omega) (by decide) (by decide) (by decide)) (t_X7_isFree hl kp0)) (fun v15 h15 => ?_)
            refine ev_eq am_ib ?_
            refine ev_if_eq (tgt := 70) dX7_isPainted_36 (by decide) (fun c16 => ?_) (fun c16 => ?_)
            · refine ev_iinc (v := (x3.1 + 1)) dX7_isPainted_70 (am_lt rfl) rfl rfl ?_
              refine ev_goto (tgt := 17) dX7_isPainted_73 (by decide) ?_
              exact ev_leaf (am_wk (am_wk (am_wk (am_wk (am_wk (am_wk am_wn)))))) (hB3 ((x3.1 + 1), x3.2))
            · refine ev_aload_n dX7_isPainted_39 rfl ?_
              refine ev_eq (Option.bind_assoc _ _ _) ?_
              refine ev_getR fk_X7_9 (by decide) dX7_isPainted_40 kp0 (fun q17 k17 r17 => ?_)
              refine ev_iload_n dX7_isPainted_43 rfl ?_
              refine ev_iload dX7_isPainted_44 rfl ?_
              refine ev_eq (Option.bind_assoc _ _ _) ?_
              refine ev_iast dX7_isPainted_46 k17 (fun σ18 h18 => ?_)
              refine ev_aload_n dX7_isPainted_47 rfl ?_
              refine ev_iload_n dX7_isPainted_48 rfl ?_
              refine ev_iconst (v := 1) dX7_isPainted_49 (by decide) ?_
              refine ev_iadd dX7_isPainted_50 ?_
              refine ev_iload_n dX7_isPainted_51 rfl ?_
              refine ev_iload dX7_isPainted_52 rfl ?_
              refine ev_iconst (v := 1) dX7_isPainted_54 (by decide) ?_
              refine ev_iadd dX7_isPainted_55 ?_
              refine ev_eq (Option.bind_assoc _ _ _) ?_
              refine ev_callP (am_callS (as := [.int p2, .int (x3.1 + 1)]) (st := [.int (p1 + 1), .ref p0]) ct_X7_36 dX7_isPainted_56 rfl (am_le rfl) (am_fit (by omega) (by decide) (by decide) (by decide)) (t_J9_max_7cf53 hl )) (fun v19 h19 => ?_)
              refine ev_iload_n dX7_isPainted_59 rfl ?_
              refine ev_iload dX7_isPainted_60 rfl ?_
              refine ev_eq (Option.bind_assoc _ _ _) ?_
              refine ev_callWI (am_callV (as := [.int (p1 + 1), .int v19, .int p3, .int p4]) (o := p0) (st := []) cv_X7_28 dX7_isPainted_62 kp0 rfl (am_le rfl) (am_fit (by omega) (by decide) (by decide) (by decide)) (ht_X7_isPainted kp0)) (fun y20 h20 => ?_)
              refine ev_eq am_ib ?_
              refine ev_if_eq (tgt := 70) dX7_isPainted_65 (by decide) (fun c21 => ?_) (fun c21 => ?_)
              · refine ev_iinc (v := (x3.1 + 1)) dX7_isPainted_70 (am_lt rfl) rfl rfl ?_
                refine ev_goto (tgt := 17) dX7_isPainted_73 (by decide) ?_
                exact ev_leaf (am_wk (am_wk (am_wk (am_wk (am_wk (am_wk am_wn)))))) (hB3 ((x3.1 + 1), y20.2))
              · refine ev_iconst (v := 1) dX7_isPainted_68 (by decide) ?_
                exact ev_eq (hG3 _) (ev_iret dX7_isPainted_69 rfl (by decide) (by decide) (by decide) rfl)
      · exact ev_none
    · refine ev_iconst (v := 1) dX7_isPainted_12 (by decide) ?_
      exact ev_iret dX7_isPainted_13 rfl (by decide) (by decide) (by decide) rfl
def f_rec_X7_isPainted : Nat → Nat → am_S → Nat → Int32 → Int32 → Int32 → Int32 → Option (Int32 × (Nat → Nat → Int32))
  | 0, _ => fun _ _ _ _ _ _ => none
  | n + 1, _ => f_X7_isPainted_o (f_rec_X7_isPainted n 0)
def f_X7_isPainted (n : Nat) : am_S → Nat → Int32 → Int32 → Int32 → Int32 → Option (Int32 × (Nat → Nat → Int32)) := f_rec_X7_isPainted n 0
theorem t_rec_X7_isPainted {E : am_E} {l : Launch} (hl : l.stackTraces = false) : ∀ n : Nat, (∀ {S : am_S} {p0 : Nat} {p1 : Int32} {p2 : Int32} {p3 : Int32} {p4 : Int32} (kp0 : am_kd p0 = 107), am_M E l yX7_isPainted (.code yX7_isPainted cX7_isPainted 6 (some .boolean)) (0 + n) 0 0 [.ref p0, .int p1, .int p2, .int p3, .int p4] S ((f_X7_isPainted n S p0 p1 p2 p3 p4).map (fun (x : Int32 × (Nat → Nat → Int32)) => ((.inl (some (.int x.1)), (x.2, S.2)) : am_R)))) := by
  intro n
  induction n with
  | zero => exact (by intros; intro r hr; cases hr)
  | succ n ih => exact (by intros; exact to_X7_isPainted hl (by omega) (fun z0 => ih z0) (by assumption))
theorem t_X7_isPainted {E : am_E} {l : Launch} (hl : l.stackTraces = false) (n : Nat) {S : am_S} {p0 : Nat} {p1 : Int32} {p2 : Int32} {p3 : Int32} {p4 : Int32} (kp0 : am_kd p0 = 107) : am_M E l yX7_isPainted (.code yX7_isPainted cX7_isPainted 6 (some .boolean)) (0 + n) 0 0 [.ref p0, .int p1, .int p2, .int p3, .int p4] S ((f_X7_isPainted n S p0 p1 p2 p3 p4).map (fun (x : Int32 × (Nat → Nat → Int32)) => ((.inl (some (.int x.1)), (x.2, S.2)) : am_R))) := (t_rec_X7_isPainted hl n) kp0
def f_X7_paint_b2 (S : am_S) (a0 : Nat) (a1 : Nat) (x1 : Int32 × (Nat → Nat → Int32)) : Option ((Int32 × (Nat → Nat → Int32)) ⊕ ((Nat → Nat → Int32))) :=
  (if x1.1 < (x1.2 a1 0) then (if x1.1 < 8 then ((am_rd S.2 a0 1 1).bind (fun q4 => ((f_X9_harmedBy (x1.2, S.2) a1 x1.1).bind (fun v5 => ((am_st x1.2 q4 x1.1 v5).bind (fun σ6 => some (.inl ((x1.1 + 1), σ6)))))))) else some (.inr x1.2)) else some (.inr x1.2))
def f_X7_paint_b35 (S : am_S) (a0 : Nat) (a1 : Nat) (x12 : Int32 × (Nat → Nat → Int32)) : Option ((Int32 × (Nat → Nat → Int32)) ⊕ (((Nat → Nat → Int32)) ⊕ (Int32 × (Nat → Nat → Int32)))) :=
  (if x12.1 < (x12.2 a1 0) then ((f_X7_isPainted 60 (x12.2, S.2) a0 0 0 x12.1 (x12.2 a1 0)).bind (fun y14 => (if y14.1 = 0 then some (.inl ((x12.1 + 1), y14.2)) else some (.inr (.inr (x12.1, y14.2)))))) else some (.inr (.inl x12.2)))
def f_X7_paint (S : am_S) (p0 : Nat) (p1 : Nat) : Option (Int32 × (Nat → Nat → Int32)) :=
  ((am_loop (f_X7_paint_b2 S p0 p1) am_fuel (0, S.1)).bind (fun t1 => ((am_loop (f_X7_paint_b35 (t1, S.2) p0 p1) am_fuel (0, t1)).bind (fun r12 => match r12 with | .inl t12 => ((f_X7_isPainted 60 (t12, S.2) p0 0 0 (t12 p1 0) (t12 p1 0)).bind (fun y19 => some ((y19.2 p1 0), y19.2))) | .inr b12 => some b12))))
set_option maxRecDepth 20000 in
theorem t_X7_paint {E : am_E} {l : Launch} (hl : l.stackTraces = false) {S : am_S} {p0 : Nat} {p1 : Nat} (kp0 : am_kd p0 = 107) (kp1 : am_kd p1 = 109) : am_M E l yX7_paint (.code yX7_paint cX7_paint 3 (some .int)) 61 0 0 [.ref p0, .ref p1] S ((f_X7_paint S p0 p1).map (fun (x : Int32 × (Nat → Nat → Int32)) => ((.inl (some (.int x.1)), (x.2, S.2)) : am_R))) := by
  refine am_M_of (w := fun (x : Int32 × (Nat → Nat → Int32)) => ((.inl (some (.int x.1)), (x.2, S.2)) : am_R)) hl (by decide) (am_fc rfl (am_fc rfl am_fn)) (Nat.le_of_ble_eq_true rfl) ?_
  show am_Ev E l (RX7, cX7_paint, 3, (some .int), [], am_rm 61 0 0) (fun b a s x => am_Z E 0 0 b a s ((fun (x : Int32 × (Nat → Nat → Int32)) => ((.inl (some (.int x.1)), (x.2, S.2)) : am_R)) x)) 0 0 0 [some (.ref p0), some (.ref p1), none] [] S (f_X7_paint S p0 p1)
  unfold f_X7_paint
  refine ev_iconst (v := 0) dX7_paint_0 (by decide) ?_
  refine ev_istore_n dX7_paint_1 (am_lt rfl) ?_
  refine ev_weak (am_wk (am_wk (am_wk am_wn))) (ev_loop 2 33 (fun x1 : Int32 × (Nat → Nat → Int32) => [some (.ref p0), some (.ref p1), some (.int x1.1)]) (fun t1 : (Nat → Nat → Int32) => [some (.ref p0), some (.ref p1), none]) (fun x1 => (x1.2, S.2)) (fun t1 => (t1, S.2)) (fun x1 G1 hB1 hE1 => ?_) (fun t1 => ?_) am_fuel (0, S.1))
  · unfold f_X7_paint_b2
    refine ev_iload_n dX7_paint_2 rfl ?_
    refine ev_aload_n dX7_paint_3 rfl ?_
    refine ev_getN fk_X7_18 dX7_paint_4 kp1 (am_fvI (by decide)) ?_
    refine ev_eq am_ib ?_
    refine ev_icmp_ge (tgt := 33) dX7_paint_7 (by decide) (fun c7 => ?_) (fun c7 => ?_)
    · exact ev_leaf (am_wk (am_wk (am_wf am_wn))) (hE1 x1.2)
    · refine ev_iload_n dX7_paint_10 rfl ?_
      refine ev_bipush (v := 8) dX7_paint_11 (by decide) ?_
      refine ev_eq am_ib ?_
      refine ev_icmp_ge (tgt := 33) dX7_paint_13 (by decide) (fun c8 => ?_) (fun c8 => ?_)
      · exact ev_leaf (am_wk (am_wk (am_wf am_wn))) (hE1 x1.2)
      · refine ev_aload_n dX7_paint_16 rfl ?_
        refine ev_eq (Option.bind_assoc _ _ _) ?_
        refine ev_getR fk_X7_15 (by decide) dX7_paint_17 kp0 (fun q9 k9 r9 => ?_)
        refine ev_iload_n dX7_paint_20 rfl ?_
        refine ev_aload_n dX7_paint_21 rfl ?_
        refine ev_iload_n dX7_paint_22 rfl ?_
        refine ev_eq (Option.bind_assoc _ _ _) ?_
        refine ev_callP (am_callVN (as := [.int x1.1]) (o := p1) (st := [.int x1.1, .ref q9]) cv_X7_24 dX7_paint_23 kp1 rfl (am_le rfl) (am_fit (by omega) (by decide) (by decide) (by decide)) (am_no1 (fun _ => ⟨_, rfl⟩)) (t_X9_harmedBy hl kp1)) (fun v10 h10 => ?_)
        refine ev_eq (Option.bind_assoc _ _ _) ?_
        refine ev_iast dX7_paint_26 k9 (fun σ11 h11 => ?_)
        refine ev_iinc (v := (x1.1 + 1)) dX7_paint_27 (am_lt rfl) rfl rfl ?_
        refine ev_goto (tgt := 2) dX7_paint_30 (by decide) ?_
        exact ev_leaf (am_wk (am_wk (am_wk am_wn))) (hB1 ((x1.1 + 1), σ11))
  · refine ev_iconst (v := 0) dX7_paint_33 (by decide) ?_
    refine ev_istore_n dX7_paint_34 (am_lt rfl) ?_
    refine ev_weak (am_wk (am_wk (am_wk am_wn))) (ev_loopR 35 65 (fun x12 : Int32 × (Nat → Nat → Int32) => [some (.ref p0), some (.ref p1), some (.int x12.1)]) (fun t12 : (Nat → Nat → Int32) => [some (.ref p0), some (.ref p1), none]) (fun x12 => (x12.2, S.2)) (fun t12 => (t12, S.2)) (fun x12 G12 hB12 hE12 hG12 => ?_) (fun t12 => ?_) am_fuel (0, t1))
    · unfold f_X7_paint_b35
      refine ev_iload_n dX7_paint_35 rfl ?_
      refine ev_aload_n dX7_paint_36 rfl ?_
      refine ev_getN fk_X7_18 dX7_paint_37 kp1 (am_fvI (by decide)) ?_
      refine ev_eq am_ib ?_
      refine ev_icmp_ge (tgt := 65) dX7_paint_40 (by decide) (fun c16 => ?_) (fun c16 => ?_)
      · exact ev_leaf (am_wk (am_wk (am_wf am_wn))) (hE12 x12.2)
      · refine ev_aload_n dX7_paint_43 rfl ?_
        refine ev_iconst (v := 0) dX7_paint_44 (by decide) ?_
        refine ev_iconst (v := 0) dX7_paint_45 (by decide) ?_
        refine ev_iload_n dX7_paint_46 rfl ?_
        refine ev_aload_n dX7_paint_47 rfl ?_
        refine ev_getN fk_X7_18 dX7_paint_48 kp1 (am_fvI (by decide)) ?_
        refine ev_eq (Option.bind_assoc _ _ _) ?_
        refine ev_callWI (am_callV (as := [.int 0, .int 0, .int x12.1, .int (x12.2 p1 0)]) (o := p0) (st := []) cv_X7_28 dX7_paint_51 kp0 rfl (am_le rfl) (am_fit (by omega) (by decide) (by decide) (by decide)) (t_X7_isPainted hl 60 kp0)) (fun y17 h17 => ?_)
        refine ev_eq am_ib ?_
        refine ev_if_eq (tgt := 59) dX7_paint_54 (by decide) (fun c18 => ?_) (fun c18 => ?_)
        · refine ev_iinc (v := (x12.1 + 1)) dX7_paint_59 (am_lt rfl) rfl rfl ?_
          refine ev_goto (tgt := 35) dX7_paint_62 (by decide) ?_
          exact ev_leaf (am_wk (am_wk (am_wk am_wn))) (hB12 ((x12.1 + 1), y17.2))
        · refine ev_iload_n dX7_paint_57 rfl ?_
          exact ev_eq (hG12 _) (ev_iret dX7_paint_58 rfl rfl (by decide) (by decide) rfl)
    · refine ev_aload_n dX7_paint_65 rfl ?_
      refine ev_iconst (v := 0) dX7_paint_66 (by decide) ?_
      refine ev_iconst (v := 0) dX7_paint_67 (by decide) ?_
      refine ev_aload_n dX7_paint_68 rfl ?_
      refine ev_getN fk_X7_18 dX7_paint_69 kp1 (am_fvI (by decide)) ?_
      refine ev_aload_n dX7_paint_72 rfl ?_
      refine ev_getN fk_X7_18 dX7_paint_73 kp1 (am_fvI (by decide)) ?_
      refine ev_callWI (am_callV (as := [.int 0, .int 0, .int (t12 p1 0), .int (t12 p1 0)]) (o := p0) (st := []) cv_X7_28 dX7_paint_76 kp0 rfl (am_le rfl) (am_fit (by omega) (by decide) (by decide) (by decide)) (t_X7_isPainted hl 60 kp0)) (fun y19 h19 => ?_)
      refine ev_pop dX7_paint_79 rfl ?_
      refine ev_aload_n dX7_paint_80 rfl ?_
      refine ev_getN fk_X7_18 dX7_paint_81 kp1 (am_fvI (by decide)) ?_
      exact ev_iret dX7_paint_84 rfl rfl (by decide) (by decide) rfl
def f_X11_colours (S : am_S) (p0 : Nat) (p1 : Int32) : Option (am_R) :=
  (if p1 = (-1) then ((am_rd S.2 p0 11 107).bind (fun q2 => ((am_rd S.2 p0 3 109).bind (fun q3 => ((f_X7_paint S q2 q3).bind (fun y4 => (if p1 = (-1) then some (.inl (some (.int y4.1)), (y4.2, S.2)) else ((am_rd S.2 p0 11 107).bind (fun q6 => ((am_rd S.2 q6 0 1).bind (fun q7 => ((am_ld y4.2 q7 p1).bind (fun v8 => some (.inl (some (.int v8)), (y4.2, S.2))))))))))))))) else (am_thV (f_X11_needHouse S p0 p1) (fun S9 => ((am_rd S9.2 p0 11 107).bind (fun q10 => ((am_rd S9.2 p0 3 109).bind (fun q11 => ((f_X7_paint S9 q10 q11).bind (fun y12 => (if p1 = (-1) then some (.inl (some (.int y12.1)), (y12.2, S9.2)) else ((am_rd S9.2 p0 11 107).bind (fun q14 => ((am_rd S9.2 q14 0 1).bind (fun q15 => ((am_ld y12.2 q15 p1).bind (fun v16 => some (.inl (some (.int v16)), (y12.2, S9.2))))))))))))))))))
set_option maxRecDepth 20000 in
theorem t_X11_colours {E : am_E} {l : Launch} (hl : l.stackTraces = false) {S : am_S} {p0 : Nat} {p1 : Int32} (kp0 : am_kd p0 = 111) : am_M E l yX11_colours (.code yX11_colours cX11_colours 3 (some .int)) 62 1 6 [.ref p0, .int p1] S (f_X11_colours S p0 p1) := by
  refine am_M_id (am_M_of (w := fun x => x) hl (by decide) (am_fc rfl (am_fc rfl am_fn)) (Nat.le_of_ble_eq_true rfl) ?_)
  show am_Ev E l (RX11, cX11_colours, 3, (some .int), [], am_rm 62 1 6) (am_Z E 1 6) 0 0 0 [some (.ref p0), some (.int p1), none] [] S (f_X11_colours S p0 p1)
  unfold f_X11_colours
  refine ev_iload_n dX11_colours_0 rfl ?_
  refine ev_iconst (v := (-1)) dX11_colours_1 (by decide) ?_
  refine ev_icmp_eq (tgt := 10) dX11_colours_2 (by decide) (fun c1 => ?_) (fun c1 => ?_)
  · refine ev_aload_n dX11_colours_10 rfl ?_
    refine ev_getR fk_X11_58 (by decide) dX11_colours_11 kp0 (fun q2 k2 r2 => ?_)
    refine ev_aload_n dX11_colours_14 rfl ?_
    refine ev_getR fk_X11_20 (by decide) dX11_colours_15 kp0 (fun q3 k3 r3 => ?_)
    refine ev_callWI (am_callVN (as := [.ref q3]) (o := q2) (st := []) cv_X11_255 dX11_colours_18 k2 rfl (am_le rfl) (am_fit (by omega) (by decide) (by decide) (by decide)) (am_no1 (fun _ => ⟨_, rfl⟩)) (t_X7_paint hl k2 k3)) (fun y4 h4 => ?_)
    refine ev_istore_n dX11_colours_21 (am_lt rfl) ?_
    refine ev_iload_n dX11_colours_22 rfl ?_
    refine ev_iconst (v := (-1)) dX11_colours_23 (by decide) ?_
    refine ev_icmp_ne (tgt := 31) dX11_colours_24 (by decide) (fun c5 => ?_) (fun c5 => ?_)
    · refine ev_aload_n dX11_colours_31 rfl ?_
      refine ev_getR fk_X11_58 (by decide) dX11_colours_32 kp0 (fun q6 k6 r6 => ?_)
      refine ev_getRN fk_X11_259 (by decide) dX11_colours_35 k6 (fun q7 k7 r7 => ?_)
      refine ev_iload_n dX11_colours_38 rfl ?_
      refine ev_iald dX11_colours_39 k7 (fun v8 h8 => ?_)
      exact ev_iret dX11_colours_40 rfl rfl (by decide) (by decide) rfl
    · refine ev_iload_n dX11_colours_27 rfl ?_
      refine ev_goto (tgt := 40) dX11_colours_28 (by decide) ?_
      exact ev_iret dX11_colours_40 rfl rfl (by decide) (by decide) rfl
  · refine ev_aload_n dX11_colours_5 rfl ?_
    refine ev_iload_n dX11_colours_6 rfl ?_
    refine ev_callGV (am_callV (as := [.int p1]) (o := p0) (st := []) cv_X11_138 dX11_colours_7 kp0 rfl (am_le rfl) (am_fit (by omega) (by decide) (by decide) (by decide)) (t_X11_needHouse hl kp0)) rfl (by decide) (by decide) (fun S9 h9 => ?_)
    refine ev_aload_n dX11_colours_10 rfl ?_
    refine ev_getR fk_X11_58 (by decide) dX11_colours_11 kp0 (fun q10 k10 r10 => ?_)
    refine ev_aload_n dX11_colours_14 rfl ?_
    refine ev_getR fk_X11_20 (by decide) dX11_colours_15 kp0 (fun q11 k11 r11 => ?_)
    refine ev_callWI (am_callVN (as := [.ref q11]) (o := q10) (st := []) cv_X11_255 dX11_colours_18 k10 rfl (am_le rfl) (am_fit (by omega) (by decide) (by decide) (by decide)) (am_no1 (fun _ => ⟨_, rfl⟩)) (t_X7_paint hl k10 k11)) (fun y12 h12 => ?_)
    refine ev_istore_n dX11_colours_21 (am_lt rfl) ?_
    refine ev_iload_n dX11_colours_22 rfl ?_
    refine ev_iconst (v := (-1)) dX11_colours_23 (by decide) ?_
    refine ev_icmp_ne (tgt := 31) dX11_colours_24 (by decide) (fun c13 => ?_) (fun c13 => ?_)
    · refine ev_aload_n dX11_colours_31 rfl ?_
      refine ev_getR fk_X11_58 (by decide) dX11_colours_32 kp0 (fun q14 k14 r14 => ?_)
      refine ev_getRN fk_X11_259 (by decide) dX11_colours_35 k14 (fun q15 k15 r15 => ?_)
      refine ev_iload_n dX11_colours_38 rfl ?_
      refine ev_iald dX11_colours_39 k15 (fun v16 h16 => ?_)
      exact ev_iret dX11_colours_40 rfl rfl (by decide) (by decide) rfl
    · refine ev_iload_n dX11_colours_27 rfl ?_
      refine ev_goto (tgt := 40) dX11_colours_28 (by decide) ?_
      exact ev_iret dX11_colours_40 rfl rfl (by decide) (by decide) rfl
def f_X11_needFirstWord (S : am_S) (p0 : Nat) (p1 : Int32) (p2 : Int32) : Option (am_R) :=
  ((am_rd S.2 p0 3 109).bind (fun q1 => ((f_X9_wordFor S q1 p1 p2).bind (fun v2 => (if v2 = (-1) then some (.inr 1, S) else some (.inl none, S))))))
set_option maxRecDepth 20000 in
theorem t_X11_needFirstWord {E : am_E} {l : Launch} (hl : l.stackTraces = false) {S : am_S} {p0 : Nat} {p1 : Int32} {p2 : Int32} (kp0 : am_kd p0 = 111) : am_M E l yX11_needFirstWord (.code yX11_needFirstWord cX11_needFirstWord 3 none) 2 1 6 [.ref p0, .int p1, .int p2] S (f_X11_needFirstWord S p0 p1 p2) := by
  refine am_M_id (am_M_of (w := fun x => x) hl (by decide) (am_fc rfl (am_fc rfl (am_fc rfl am_fn))) (Nat.le_of_ble_eq_true rfl) ?_)
  show am_Ev E l (RX11, cX11_needFirstWord, 3, none, [], am_rm 2 1 6) (am_Z E 1 6) 0 0 0 [some (.ref p0), some (.int p1), some (.int p2)] [] S (f_X11_needFirstWord S p0 p1 p2)
  unfold f_X11_needFirstWord
  refine ev_aload_n dX11_needFirstWord_0 rfl ?_
  refine ev_getR fk_X11_20 (by decide) dX11_needFirstWord_1 kp0 (fun q1 k1 r1 => ?_)
  refine ev_iload_n dX11_needFirstWord_4 rfl ?_
  refine ev_iload_n dX11_needFirstWord_5 rfl ?_
  refine ev_callP (am_callVN (as := [.int p1, .int p2]) (o := q1) (st := []) cv_X11_171 dX11_needFirstWord_6 k1 rfl (am_le rfl) (am_fit (by omega) (by decide) (by decide) (by decide)) (am_no1 (fun _ => ⟨_, rfl⟩)) (t_X9_wordFor hl k1)) (fun v2 h2 => ?_)
  refine ev_iconst (v := (-1)) dX11_needFirstWord_9 (by decide) ?_
  refine ev_icmp_ne (tgt := 24) dX11_needFirstWord_10 (by decide) (fun c3 => ?_) (fun c3 => ?_)
  · exact ev_vret dX11_needFirstWord_24 rfl (by decide) (by decide) rfl
  · exact ev_throwW (k := 1) tk_105_109 (tx := "the first house has no word for it") (t := 35) (by decide +kernel) dX11_needFirstWord_13 dX11_needFirstWord_16 dX11_needFirstWord_17 dX11_needFirstWord_20 dX11_needFirstWord_23 rfl (by decide) ⟨by decide, by decide, by decide, by decide⟩ (by decide) (by decide)
def f_X5_prepare_b44 (S : am_S) (a0 : Nat) (a1 : Nat) (a2 : Int32) (a3 : Int32) (a4 : Int32) (a5 : Int32) (x10 : Int32 × (Nat → Nat → Int32)) : Option ((Int32 × (Nat → Nat → Int32)) ⊕ ((Nat → Nat → Int32))) :=
  (if x10.1 < (x10.2 a1 0) then (if a4 = (-1) then some (.inr x10.2) else ((f_X9_clearOf (x10.2, S.2) a1 x10.1 a3).bind (fun v13 => ((if v13 < a5 then some x10.2 else ((am_rd S.2 a0 0 1).bind (fun q15 => ((am_ld x10.2 q15 a3).bind (fun v16 => ((am_st x10.2 q15 a3 (v16 ||| ((1 : Int32) <<< (x10.1 &&& 31)))).bind (fun σ17 => some σ17))))))).bind (fun t14 => some (.inl ((x10.1 + 1), t14))))))) else some (.inr x10.2))
def f_X5_prepare_b2 (S : am_S) (a0 : Nat) (a1 : Nat) (a2 : Int32) (x1 : Int32 × (Nat → Nat → Int32)) : Option ((Int32 × (Nat → Nat → Int32)) ⊕ ((Nat → Nat → Int32))) :=
  (if x1.1 < 8 then ((f_X9_wordFor (x1.2, S.2) a1 x1.1 a2).bind (fun v3 => ((f_X11_strokesOf v3).bind (fun v4 => ((am_rd S.2 a0 0 1).bind (fun q5 => ((am_st x1.2 q5 x1.1 0).bind (fun σ6 => ((am_rd S.2 a0 1 1).bind (fun q7 => ((f_X11_minutesOf v3).bind (fun v8 => ((am_st σ6 q7 x1.1 v8).bind (fun σ9 => ((am_loop (f_X5_prepare_b44 (σ9, S.2) a0 a1 a2 x1.1 v3 v4) am_fuel (0, σ9)).bind (fun t10 => some (.inl ((x1.1 + 1), t10)))))))))))))))))) else some (.inr x1.2))
def f_X5_prepare (S : am_S) (p0 : Nat) (p1 : Nat) (p2 : Int32) : Option ((Nat → Nat → Int32)) :=
  ((am_loop (f_X5_prepare_b2 S p0 p1 p2) am_fuel (0, S.1)).bind (fun t1 => some t1))
set_option maxRecDepth 20000 in
theorem t_X5_prepare {E : am_E} {l : Launch} (hl : l.stackTraces = false) {S : am_S} {p0 : Nat} {p1 : Nat} {p2 : Int32} (kp0 : am_kd p0 = 105) (kp1 : am_kd p1 = 109) : am_M E l yX5_prepare (.code yX5_prepare cX5_prepare 7 none) 2 0 0 [.ref p0, .ref p1, .int p2] S ((f_X5_prepare S p0 p1 p2).map (fun (x : Nat → Nat → Int32) => ((.inl none, (x, S.2)) : am_R))) := by
  refine am_M_of (w := fun (x : Nat → Nat → Int32) => ((.inl none, (x, S.2)) : am_R)) hl (by decide) (am_fc rfl (am_fc rfl (am_fc rfl am_fn))) (Nat.le_of_ble_eq_true rfl) ?_
  show am_Ev E l (RX5, cX5_prepare, 7, none, [], am_rm 2 0 0) (fun b a s x => am_Z E 0 0 b a s ((fun (x : Nat → Nat → Int32) => ((.inl none, (x, S.2)) : am_R)) x)) 0 0 0 [some (.ref p0), some (.ref p1), some (.int p2), none, none, none, none] [] S (f_X5_prepare S p0 p1 p2)
  unfold f_X5_prepare
  refine ev_iconst (v := 0) dX5_prepare_0 (by decide) ?_
  refine ev_istore_n dX5_prepare_1 (am_lt rfl) ?_
  refine ev_weak (am_wk (am_wk (am_wk (am_wk (am_wf (am_wf (am_wf am_wn))))))) (ev_loop 2 96 (fun x1 : Int32 × (Nat → Nat → Int32) => [some (.ref p0), some (.ref p1), some (.int p2), some (.int x1.1), none, none, none]) (fun t1 : (Nat → Nat → Int32) => [none, none, none, none, none, none, none]) (fun x1 => (x1.2, S.2)) (fun t1 => (t1, S.2)) (fun x1 G1 hB1 hE1 => ?_) (fun t1 => ?_) am_fuel (0, S.1))
  · unfold f_X5_prepare_b2
    refine ev_iload_n dX5_prepare_2 rfl ?_
    refine ev_bipush (v := 8) dX5_prepare_3 (by decide) ?_
    refine ev_eq am_ib ?_
    refine ev_icmp_ge (tgt := 96) dX5_prepare_5 (by decide) (fun c25 => ?_) (fun c25 => ?_)
    · exact ev_leaf (am_wf (am_wf (am_wf (am_wf (am_wf (am_wf (am_wf am_wn))))))) (hE1 x1.2)
    · refine ev_aload_n dX5_prepare_8 rfl ?_
      refine ev_iload_n dX5_prepare_9 rfl ?_
      refine ev_iload_n dX5_prepare_10 rfl ?_
      refine ev_eq (Option.bind_assoc _ _ _) ?_
      refine ev_callP (am_callVN (as := [.int x1.1, .int p2]) (o := p1) (st := []) cv_X5_21 dX5_prepare_11 kp1 rfl (am_le rfl) (am_fit (by omega) (by decide) (by decide) (by decide)) (am_no1 (fun _ => ⟨_, rfl⟩)) (t_X9_wordFor hl kp1)) (fun v26 h26 => ?_)
      refine ev_istore dX5_prepare_14 (am_lt rfl) ?_
      refine ev_iload dX5_prepare_16 rfl ?_
      refine ev_eq (Option.bind_assoc _ _ _) ?_
      refine ev_callP (am_callSN (as := [.int v26]) (st := []) ct_X5_27 dX5_prepare_18 rfl (am_le rfl) (am_fit (by omega) (by decide) (by decide) (by decide)) (am_no1 (fun _ => ⟨_, rfl⟩)) (t_X11_strokesOf hl )) (fun v27 h27 => ?_)
      refine ev_istore dX5_prepare_21 (am_lt rfl) ?_
      refine ev_aload_n dX5_prepare_23 rfl ?_
      refine ev_eq (Option.bind_assoc _ _ _) ?_
      refine ev_getR fk_X5_9 (by decide) dX5_prepare_24 kp0 (fun q28 k28 r28 => ?_)
      refine ev_iload_n dX5_prepare_27 rfl ?_
      refine ev_iconst (v := 0) dX5_prepare_28 (by decide) ?_
      refine ev_eq (Option.bind_assoc _ _ _) ?_
      refine ev_iast dX5_prepare_29 k28 (fun σ29 h29 => ?_)
      refine ev_aload_n dX5_prepare_30 rfl ?_
      refine ev_eq (Option.bind_assoc _ _ _) ?_
      refine ev_getR fk_X5_15 (by decide) dX5_prepare_31 kp0 (fun q30 k30 r30 => ?_)
      refine ev_iload_n dX5_prepare_34 rfl ?_
      refine ev_iload dX5_prepare_35 rfl ?_
      refine ev_eq (Option.bind_assoc _ _ _) ?_
      refine ev_callP (am_callSN (as := [.int v26]) (st := [.int x1.1, .ref q30]) ct_X5_31 dX5_prepare_37 rfl (am_le rfl) (am_fit (by omega) (by decide) (by decide) (by decide)) (am_no1 (fun _ => ⟨_, rfl⟩)) (t_X11_minutesOf hl )) (fun v31 h31 => ?_)
      refine ev_eq (Option.bind_assoc _ _ _) ?_
      refine ev_iast dX5_prepare_40 k30 (fun σ32 h32 => ?_)
      refine ev_iconst (v := 0) dX5_prepare_41 (by decide) ?_
      refine ev_istore dX5_prepare_42 (am_lt rfl) ?_
      refine ev_eq (Option.bind_assoc _ _ _) ?_
      refine ev_weak (am_wk (am_wk (am_wk (am_wk (am_wk (am_wk (am_wk am_wn))))))) (ev_loop 44 90 (fun x33 : Int32 × (Nat → Nat → Int32) => [some (.ref p0), some (.ref p1), some (.int p2), some (.int x1.1), some (.int v26), some (.int v27), some (.int x33.1)]) (fun t33 : (Nat → Nat → Int32) => [some (.ref p0), some (.ref p1), some (.int p2), some (.int x1.1), none, none, none]) (fun x33 => (x33.2, S.2)) (fun t33 => (t33, S.2)) (fun x33 G33 hB33 hE33 => ?_) (fun t33 => ?_) am_fuel (0, σ32))
      · unfold f_X5_prepare_b44
        refine ev_iload dX5_prepare_44 rfl ?_
        refine ev_aload_n dX5_prepare_46 rfl ?_
        refine ev_getN fk_X5_34 dX5_prepare_47 kp1 (am_fvI (by decide)) ?_
        refine ev_eq am_ib ?_
        refine ev_icmp_ge (tgt := 90) dX5_prepare_50 (by decide) (fun c41 => ?_) (fun c41 => ?_)
        · exact ev_leaf (am_wk (am_wk (am_wk (am_wk (am_wf (am_wf (am_wf am_wn))))))) (hE33 x33.2)
        · refine ev_iload dX5_prepare_53 rfl ?_
          refine ev_iconst (v := (-1)) dX5_prepare_55 (by decide) ?_
          refine ev_eq am_ib ?_
          refine ev_icmp_eq (tgt := 90) dX5_prepare_56 (by decide) (fun c42 => ?_) (fun c42 => ?_)
          · exact ev_leaf (am_wk (am_wk (am_wk (am_wk (am_wf (am_wf (am_wf am_wn))))))) (hE33 x33.2)
          · refine ev_aload_n dX5_prepare_59 rfl ?_
            refine ev_iload dX5_prepare_60 rfl ?_
            refine ev_iload_n dX5_prepare_62 rfl ?_
            refine ev_eq (Option.bind_assoc _ _ _) ?_
            refine ev_callP (am_callVN (as := [.int x33.1, .int x1.1]) (o := p1) (st := []) cv_X5_38 dX5_prepare_63 kp1 rfl (am_le rfl) (am_fit (by omega) (by decide) (by decide) (by decide)) (am_no1 (fun _ => ⟨_, rfl⟩)) (t_X9_clearOf hl kp1)) (fun v43 h43 => ?_)
            refine ev_iload dX5_prepare_66 rfl ?_
            refine ev_eq (Option.bind_assoc _ _ _) ?_
            refine ev_reg (cs' := 0) (sl' := 0) 84 (fun t44 : (Nat → Nat → Int32) => [some (.ref p0), some (.ref p1), some (.int p2), some (.int x1.1), some (.int v26), some (.int v27), some (.int x33.1)]) (fun t44 => []) (fun t44 => (t44, S.2)) (fun hJ44 => ?_) (fun t44 => ?_)
            · refine ev_eq am_ib ?_
              refine ev_icmp_lt (tgt := 84) dX5_prepare_68 (by decide) (fun c44 => ?_) (fun c44 => ?_)
              · exact ev_leaf (am_wk (am_wk (am_wk (am_wk (am_wk (am_wk (am_wk am_wn))))))) (hJ44 x33.2)
              · refine ev_aload_n dX5_prepare_71 rfl ?_
                refine ev_eq (Option.bind_assoc _ _ _) ?_
                refine ev_getR fk_X5_9 (by decide) dX5_prepare_72 kp0 (fun q45 k45 r45 => ?_)
                refine ev_iload_n dX5_prepare_75 rfl ?_
                refine ev_dup2 dX5_prepare_76 rfl rfl ?_
                refine ev_eq (Option.bind_assoc _ _ _) ?_
                refine ev_iald dX5_prepare_77 k45 (fun v46 h46 => ?_)
                refine ev_iconst (v := 1) dX5_prepare_78 (by decide) ?_
                refine ev_iload dX5_prepare_79 rfl ?_
                refine ev_ishl dX5_prepare_81 ?_
                refine ev_ior dX5_prepare_82 ?_
                refine ev_eq (Option.bind_assoc _ _ _) ?_
                refine ev_iast dX5_prepare_83 k45 (fun σ47 h47 => ?_)
                exact ev_leaf (am_wk (am_wk (am_wk (am_wk (am_wk (am_wk (am_wk am_wn))))))) (hJ44 σ47)
            · refine ev_iinc (v := (x33.1 + 1)) dX5_prepare_84 (am_lt rfl) rfl rfl ?_
              refine ev_goto (tgt := 44) dX5_prepare_87 (by decide) ?_
              exact ev_leaf (am_wk (am_wk (am_wk (am_wk (am_wk (am_wk (am_wk am_wn))))))) (hB33 ((x33.1 + 1), t44))
      · refine ev_iinc (v := (x1.1 + 1)) dX5_prepare_90 (am_lt rfl) rfl rfl ?_
        refine ev_goto (tgt := 2) dX5_prepare_93 (by decide) ?_
        exact ev_leaf (am_wk (am_wk (am_wk (am_wk (am_wf (am_wf (am_wf am_wn))))))) (hB1 ((x1.1 + 1), t33))
  · exact ev_vret dX5_prepare_96 rfl (by decide) (by decide) rfl
def f_J7_fill_53178_b5 (S : am_S) (a0 : Nat) (a1 : Int32) (a3 : Int32) (x1 : Int32 × (Nat → Nat → Int32)) : Option ((Int32 × (Nat → Nat → Int32)) ⊕ ((Nat → Nat → Int32))) :=
  (if x1.1 < a3 then ((am_st x1.2 a0 x1.1 a1).bind (fun σ3 => some (.inl ((x1.1 + 1), σ3)))) else some (.inr x1.2))
def f_J7_fill_53178 (S : am_S) (p0 : Nat) (p1 : Int32) : Option ((Nat → Nat → Int32)) :=
  ((am_loop (f_J7_fill_53178_b5 S p0 p1 (Int32.ofNat (am_ln p0))) am_fuel (0, S.1)).bind (fun t1 => some t1))
set_option maxRecDepth 20000 in
theorem t_J7_fill_53178 {E : am_E} {l : Launch} (hl : l.stackTraces = false) {S : am_S} {p0 : Nat} {p1 : Int32} (kp0 : am_kd p0 = 1) : am_M E l yJ7_fill_53178 (.code yJ7_fill_53178 cJ7_fill_53178 4 none) 0 0 0 [.ref p0, .int p1] S ((f_J7_fill_53178 S p0 p1).map (fun (x : Nat → Nat → Int32) => ((.inl none, (x, S.2)) : am_R))) := by
  refine am_M_of (w := fun (x : Nat → Nat → Int32) => ((.inl none, (x, S.2)) : am_R)) hl (by decide) (am_fc rfl (am_fc rfl am_fn)) (Nat.le_of_ble_eq_true rfl) ?_
  show am_Ev E l (RJ7, cJ7_fill_53178, 4, none, [], am_rm 0 0 0) (fun b a s x => am_Z E 0 0 b a s ((fun (x : Nat → Nat → Int32) => ((.inl none, (x, S.2)) : am_R)) x)) 0 0 0 [some (.ref p0), some (.int p1), none, none] [] S (f_J7_fill_53178 S p0 p1)
  unfold f_J7_fill_53178
  refine ev_iconst (v := 0) dJ7_fill_53178_0 (by decide) ?_
  refine ev_istore_n dJ7_fill_53178_1 (am_lt rfl) ?_
  refine ev_aload_n dJ7_fill_53178_2 rfl ?_
  refine ev_alen dJ7_fill_53178_3 kp0 (by decide) (by decide) ?_
  refine ev_istore_n dJ7_fill_53178_4 (am_lt rfl) ?_
  refine ev_weak (am_wk (am_wk (am_wk (am_wk am_wn)))) (ev_loop 5 20 (fun x1 : Int32 × (Nat → Nat → Int32) => [some (.ref p0), some (.int p1), some (.int x1.1), some (.int (Int32.ofNat (am_ln p0)))]) (fun t1 : (Nat → Nat → Int32) => [none, none, none, none]) (fun x1 => (x1.2, S.2)) (fun t1 => (t1, S.2)) (fun x1 G1 hB1 hE1 => ?_) (fun t1 => ?_) am_fuel (0, S.1))
  · unfold f_J7_fill_53178_b5
    refine ev_iload_n dJ7_fill_53178_5 rfl ?_
    refine ev_iload_n dJ7_fill_53178_6 rfl ?_
    refine ev_eq am_ib ?_
    refine ev_icmp_ge (tgt := 20) dJ7_fill_53178_7 (by decide) (fun c4 => ?_) (fun c4 => ?_)
    · exact ev_leaf (am_wf (am_wf (am_wf (am_wf am_wn)))) (hE1 x1.2)
    · refine ev_aload_n dJ7_fill_53178_10 rfl ?_
      refine ev_iload_n dJ7_fill_53178_11 rfl ?_
      refine ev_iload_n dJ7_fill_53178_12 rfl ?_
      refine ev_eq (Option.bind_assoc _ _ _) ?_
      refine ev_iast dJ7_fill_53178_13 kp0 (fun σ5 h5 => ?_)
      refine ev_iinc (v := (x1.1 + 1)) dJ7_fill_53178_14 (am_lt rfl) rfl rfl ?_
      refine ev_goto (tgt := 5) dJ7_fill_53178_17 (by decide) ?_
      exact ev_leaf (am_wk (am_wk (am_wk (am_wk am_wn)))) (hB1 ((x1.1 + 1), σ5))
  · exact ev_vret dJ7_fill_53178_20 rfl (by decide) (by decide) rfl
