def f_X11_seedBehind (p0 : Int32) : Option (Int32) :=
  some ((1103515245 * p0) + 12345)
set_option maxRecDepth 20000 in
theorem t_X11_seedBehind {E : am_E} {l : Launch} (hl : l.stackTraces = false) {S : am_S} {p0 : Int32}  : am_M E l yX11_seedBehind (.code yX11_seedBehind cX11_seedBehind 1 (some .int)) 0 0 0 [.int p0] S ((f_X11_seedBehind p0).map (fun (v : Int32) => ((.inl (some (.int v)), S) : am_R))) := by
  refine am_M_of (w := fun (v : Int32) => ((.inl (some (.int v)), S) : am_R)) hl (by decide) (am_fc rfl am_fn) (Nat.le_of_ble_eq_true rfl) ?_
  show am_Ev E l (RX11, cX11_seedBehind, 1, (some .int), [], am_rm 0 0 0) (fun b a s x => am_Z E 0 0 b a s ((fun (v : Int32) => ((.inl (some (.int v)), S) : am_R)) x)) 0 0 0 [some (.int p0)] [] S (f_X11_seedBehind p0)
  unfold f_X11_seedBehind
  refine ev_ldcwI (v := 1103515245) dX11_seedBehind_0 (am_G_t (i := 1224) (by decide +kernel) rfl) ?_
  refine ev_iload_n dX11_seedBehind_3 rfl ?_
  refine ev_imul dX11_seedBehind_4 ?_
  refine ev_sipush (v := 12345) dX11_seedBehind_5 (by decide) ?_
  refine ev_iadd dX11_seedBehind_8 ?_
  exact ev_iret dX11_seedBehind_9 rfl rfl (by decide) (by decide) rfl
def f_X11_drawOf (p0 : Int32) : Option (Int32) :=
  some ((p0 >>> ((16 : Int32) &&& 31)) &&& 32767)
set_option maxRecDepth 20000 in
theorem t_X11_drawOf {E : am_E} {l : Launch} (hl : l.stackTraces = false) {S : am_S} {p0 : Int32}  : am_M E l yX11_drawOf (.code yX11_drawOf cX11_drawOf 1 (some .int)) 0 0 0 [.int p0] S ((f_X11_drawOf p0).map (fun (v : Int32) => ((.inl (some (.int v)), S) : am_R))) := by
  refine am_M_of (w := fun (v : Int32) => ((.inl (some (.int v)), S) : am_R)) hl (by decide) (am_fc rfl am_fn) (Nat.le_of_ble_eq_true rfl) ?_
  show am_Ev E l (RX11, cX11_drawOf, 1, (some .int), [], am_rm 0 0 0) (fun b a s x => am_Z E 0 0 b a s ((fun (v : Int32) => ((.inl (some (.int v)), S) : am_R)) x)) 0 0 0 [some (.int p0)] [] S (f_X11_drawOf p0)
  unfold f_X11_drawOf
  refine ev_iload_n dX11_drawOf_0 rfl ?_
  refine ev_bipush (v := 16) dX11_drawOf_1 (by decide) ?_
  refine ev_ishr dX11_drawOf_3 ?_
  refine ev_sipush (v := 32767) dX11_drawOf_4 (by decide) ?_
  refine ev_iand dX11_drawOf_7 ?_
  exact ev_iret dX11_drawOf_8 rfl rfl (by decide) (by decide) rfl
def f_X8_houseAt_b4 (a0 : Int32) (a1 : Int32) (x1 : Int32 × Int32) : Option ((Int32 × Int32) ⊕ ((Unit) ⊕ (Int32))) :=
  (if x1.2 < 8 then (if ((a0 >>> (x1.2 &&& 31)) &&& 1) = 1 then (if x1.1 = a1 then some (.inr (.inr x1.2)) else some (.inl ((x1.1 + 1), (x1.2 + 1)))) else some (.inl (x1.1, (x1.2 + 1)))) else some (.inr (.inr 0)))
def f_X8_houseAt (p0 : Int32) (p1 : Int32) : Option (Int32) :=
  ((am_loop (f_X8_houseAt_b4  p0 p1) am_fuel (0, 0)).bind (fun r1 => match r1 with | .inl t1 => none | .inr b1 => some b1))
set_option maxRecDepth 20000 in
theorem t_X8_houseAt {E : am_E} {l : Launch} (hl : l.stackTraces = false) {S : am_S} {p0 : Int32} {p1 : Int32}  : am_M E l yX8_houseAt (.code yX8_houseAt cX8_houseAt 4 (some .int)) 0 0 0 [.int p0, .int p1] S ((f_X8_houseAt p0 p1).map (fun (v : Int32) => ((.inl (some (.int v)), S) : am_R))) := by
  refine am_M_of (w := fun (v : Int32) => ((.inl (some (.int v)), S) : am_R)) hl (by decide) (am_fc rfl (am_fc rfl am_fn)) (Nat.le_of_ble_eq_true rfl) ?_
  show am_Ev E l (RX8, cX8_houseAt, 4, (some .int), [], am_rm 0 0 0) (fun b a s x => am_Z E 0 0 b a s ((fun (v : Int32) => ((.inl (some (.int v)), S) : am_R)) x)) 0 0 0 [some (.int p0), some (.int p1), none, none] [] S (f_X8_houseAt p0 p1)
  unfold f_X8_houseAt
  refine ev_iconst (v := 0) dX8_houseAt_0 (by decide) ?_
  refine ev_istore_n dX8_houseAt_1 (am_lt rfl) ?_
  refine ev_iconst (v := 0) dX8_houseAt_2 (by decide) ?_
  refine ev_istore_n dX8_houseAt_3 (am_lt rfl) ?_
  refine ev_weak (am_wk (am_wk (am_wk (am_wk am_wn)))) (ev_loopR 4 0 (fun x1 : Int32 × Int32 => [some (.int p0), some (.int p1), some (.int x1.1), some (.int x1.2)]) (fun t1 : Unit => [none, none, none, none]) (fun x1 => S) (fun t1 => S) (fun x1 G1 hB1 hE1 hG1 => ?_) (fun t1 => ?_) am_fuel (0, 0))
  · unfold f_X8_houseAt_b4
    refine ev_iload_n dX8_houseAt_4 rfl ?_
    refine ev_bipush (v := 8) dX8_houseAt_5 (by decide) ?_
    refine ev_eq am_ib ?_
    refine ev_icmp_ge (tgt := 35) dX8_houseAt_7 (by decide) (fun c5 => ?_) (fun c5 => ?_)
    · refine ev_iconst (v := 0) dX8_houseAt_35 (by decide) ?_
      exact ev_eq (hG1 _) (ev_iret dX8_houseAt_36 rfl rfl (by decide) (by decide) rfl)
    · refine ev_iload_n dX8_houseAt_10 rfl ?_
      refine ev_iload_n dX8_houseAt_11 rfl ?_
      refine ev_ishr dX8_houseAt_12 ?_
      refine ev_iconst (v := 1) dX8_houseAt_13 (by decide) ?_
      refine ev_iand dX8_houseAt_14 ?_
      refine ev_iconst (v := 1) dX8_houseAt_15 (by decide) ?_
      refine ev_eq am_ib ?_
      refine ev_icmp_ne (tgt := 29) dX8_houseAt_16 (by decide) (fun c6 => ?_) (fun c6 => ?_)
      · refine ev_iinc (v := (x1.2 + 1)) dX8_houseAt_29 (am_lt rfl) rfl rfl ?_
        refine ev_goto (tgt := 4) dX8_houseAt_32 (by decide) ?_
        exact ev_leaf (am_wk (am_wk (am_wk (am_wk am_wn)))) (hB1 (x1.1, (x1.2 + 1)))
      · refine ev_iload_n dX8_houseAt_19 rfl ?_
        refine ev_iload_n dX8_houseAt_20 rfl ?_
        refine ev_eq am_ib ?_
        refine ev_icmp_ne (tgt := 26) dX8_houseAt_21 (by decide) (fun c7 => ?_) (fun c7 => ?_)
        · refine ev_iinc (v := (x1.1 + 1)) dX8_houseAt_26 (am_lt rfl) rfl rfl ?_
          refine ev_iinc (v := (x1.2 + 1)) dX8_houseAt_29 (am_lt rfl) rfl rfl ?_
          refine ev_goto (tgt := 4) dX8_houseAt_32 (by decide) ?_
          exact ev_leaf (am_wk (am_wk (am_wk (am_wk am_wn)))) (hB1 ((x1.1 + 1), (x1.2 + 1)))
        · refine ev_iload_n dX8_houseAt_24 rfl ?_
          exact ev_eq (hG1 _) (ev_iret dX8_houseAt_25 rfl rfl (by decide) (by decide) rfl)
  · exact ev_none
def f_X8_drawTurns_b16 (S : am_S) (a0 : Nat) (x2 : Int32 × Int32 × Int32 × (Nat → Nat → Int32)) : Option ((Int32 × Int32 × Int32 × (Nat → Nat → Int32)) ⊕ ((Nat → Nat → Int32))) :=
  (if 0 < x2.2.2.1 then ((f_X11_seedBehind x2.1).bind (fun v4 => ((f_X11_drawOf v4).bind (fun v5 => (if x2.2.2.1 = 0 then none else ((f_X8_houseAt x2.2.1 (v5 - v5 / x2.2.2.1 * x2.2.2.1)).bind (fun v7 => ((am_rd S.2 a0 0 1).bind (fun q8 => ((am_st x2.2.2.2 q8 v7 x2.2.2.1).bind (fun σ9 => some (.inl (v4, (x2.2.1 &&& (((1 : Int32) <<< (v7 &&& 31)) ^^^ (-1))), (x2.2.2.1 + (-1)), σ9))))))))))))) else some (.inr x2.2.2.2))
def f_X8_drawTurns (S : am_S) (p0 : Nat) (p1 : Int32) : Option ((Nat → Nat → Int32)) :=
  ((f_J6_bitCount_0f7a4 (S.1 p0 4)).bind (fun v1 => ((am_loop (f_X8_drawTurns_b16 S p0) am_fuel (p1, (S.1 p0 4), v1, S.1)).bind (fun t2 => some t2))))
set_option maxRecDepth 20000 in
theorem t_X8_drawTurns {E : am_E} {l : Launch} (hl : l.stackTraces = false) {S : am_S} {p0 : Nat} {p1 : Int32} (kp0 : am_kd p0 = 108) : am_M E l yX8_drawTurns (.code yX8_drawTurns cX8_drawTurns 6 none) 1 0 0 [.ref p0, .int p1] S ((f_X8_drawTurns S p0 p1).map (fun (x : Nat → Nat → Int32) => ((.inl none, (x, S.2)) : am_R))) := by
  refine am_M_of (w := fun (x : Nat → Nat → Int32) => ((.inl none, (x, S.2)) : am_R)) hl (by decide) (am_fc rfl (am_fc rfl am_fn)) (Nat.le_of_ble_eq_true rfl) ?_
  show am_Ev E l (RX8, cX8_drawTurns, 6, none, [], am_rm 1 0 0) (fun b a s x => am_Z E 0 0 b a s ((fun (x : Nat → Nat → Int32) => ((.inl none, (x, S.2)) : am_R)) x)) 0 0 0 [some (.ref p0), some (.int p1), none, none, none, none] [] S (f_X8_drawTurns S p0 p1)
  unfold f_X8_drawTurns
  refine ev_iload_n dX8_drawTurns_0 rfl ?_
  refine ev_istore_n dX8_drawTurns_1 (am_lt rfl) ?_
  refine ev_aload_n dX8_drawTurns_2 rfl ?_
  refine ev_get fk_X8_28 dX8_drawTurns_3 kp0 (am_fvI (by decide)) ?_
  refine ev_istore_n dX8_drawTurns_6 (am_lt rfl) ?_
  refine ev_aload_n dX8_drawTurns_7 rfl ?_
  refine ev_get fk_X8_28 dX8_drawTurns_8 kp0 (am_fvI (by decide)) ?_
  refine ev_callP (am_callS (as := [.int (S.1 p0 4)]) (st := []) ct_X8_72 dX8_drawTurns_11 rfl (am_le rfl) (am_fit (by omega) (by decide) (by decide) (by decide)) (t_J6_bitCount_0f7a4 hl )) (fun v1 h1 => ?_)
  refine ev_istore dX8_drawTurns_14 (am_lt rfl) ?_
  refine ev_weak (am_wk (am_wf (am_wk (am_wk (am_wk (am_wf am_wn)))))) (ev_loop 16 63 (fun x2 : Int32 × Int32 × Int32 × (Nat → Nat → Int32) => [some (.ref p0), none, some (.int x2.1), some (.int x2.2.1), some (.int x2.2.2.1), none]) (fun t2 : (Nat → Nat → Int32) => [none, none, none, none, none, none]) (fun x2 => (x2.2.2.2, S.2)) (fun t2 => (t2, S.2)) (fun x2 G2 hB2 hE2 => ?_) (fun t2 => ?_) am_fuel (p1, (S.1 p0 4), v1, S.1))
  · unfold f_X8_drawTurns_b16
    refine ev_iload dX8_drawTurns_16 rfl ?_
    refine ev_eq am_ib ?_
    refine ev_if_le (tgt := 63) dX8_drawTurns_18 (by decide) (fun c10 => ?_) (fun c10 => ?_)
    · exact ev_leaf (am_wf (am_wf (am_wf (am_wf (am_wf (am_wf am_wn)))))) (hE2 x2.2.2.2)
    · refine ev_iload_n dX8_drawTurns_21 rfl ?_
      refine ev_eq (Option.bind_assoc _ _ _) ?_
      refine ev_callP (am_callSN (as := [.int x2.1]) (st := []) ct_X8_77 dX8_drawTurns_22 rfl (am_le rfl) (am_fit (by omega) (by decide) (by decide) (by decide)) (am_no1 (fun _ => ⟨_, rfl⟩)) (t_X11_seedBehind hl )) (fun v11 h11 => ?_)
      refine ev_istore_n dX8_drawTurns_25 (am_lt rfl) ?_
      refine ev_iload_n dX8_drawTurns_26 rfl ?_
      refine ev_iload_n dX8_drawTurns_27 rfl ?_
      refine ev_eq (Option.bind_assoc _ _ _) ?_
      refine ev_callP (am_callSN (as := [.int v11]) (st := [.int x2.2.1]) ct_X8_80 dX8_drawTurns_28 rfl (am_le rfl) (am_fit (by omega) (by decide) (by decide) (by decide)) (am_no1 (fun _ => ⟨_, rfl⟩)) (t_X11_drawOf hl )) (fun v12 h12 => ?_)
      refine ev_iload dX8_drawTurns_31 rfl ?_
      refine ev_eq am_ib ?_
      refine ev_split (fun _ => ?_) (fun c13 => ?_)
      · exact ev_none
      · refine ev_irem dX8_drawTurns_33 c13 ?_
        refine ev_eq (Option.bind_assoc _ _ _) ?_
        refine ev_callP (am_callS (as := [.int x2.2.1, .int (v12 - v12 / x2.2.2.1 * x2.2.2.1)]) (st := []) ct_X8_83 dX8_drawTurns_34 rfl (am_le rfl) (am_fit (by omega) (by decide) (by decide) (by decide)) (t_X8_houseAt hl )) (fun v14 h14 => ?_)
        refine ev_istore dX8_drawTurns_37 (am_lt rfl) ?_
        refine ev_aload_n dX8_drawTurns_39 rfl ?_
        refine ev_eq (Option.bind_assoc _ _ _) ?_
        refine ev_getR fk_X8_9 (by decide) dX8_drawTurns_40 kp0 (fun q15 k15 r15 => ?_)
        refine ev_iload dX8_drawTurns_43 rfl ?_
        refine ev_iload dX8_drawTurns_45 rfl ?_
        refine ev_eq (Option.bind_assoc _ _ _) ?_
        refine ev_iast dX8_drawTurns_47 k15 (fun σ16 h16 => ?_)
        refine ev_iload_n dX8_drawTurns_48 rfl ?_
        refine ev_iconst (v := 1) dX8_drawTurns_49 (by decide) ?_
        refine ev_iload dX8_drawTurns_50 rfl ?_
        refine ev_ishl dX8_drawTurns_52 ?_
        refine ev_iconst (v := (-1)) dX8_drawTurns_53 (by decide) ?_
        refine ev_ixor dX8_drawTurns_54 ?_
        refine ev_iand dX8_drawTurns_55 ?_
        refine ev_istore_n dX8_drawTurns_56 (am_lt rfl) ?_
        refine ev_iinc (v := (x2.2.2.1 + (-1))) dX8_drawTurns_57 (am_lt rfl) rfl rfl ?_
        refine ev_goto (tgt := 16) dX8_drawTurns_60 (by decide) ?_
        exact ev_leaf (am_wk (am_wf (am_wk (am_wk (am_wk (am_wf am_wn)))))) (hB2 (v11, (x2.2.1 &&& (((1 : Int32) <<< (v14 &&& 31)) ^^^ (-1))), (x2.2.2.1 + (-1)), σ16))
  · exact ev_vret dX8_drawTurns_63 rfl (by decide) (by decide) rfl
def f_X8_runByLot_b14 (S : am_S) (a0 : Nat) (x3 : Int32 × (Nat → Nat → Int32)) : Option ((Int32 × (Nat → Nat → Int32)) ⊕ ((Nat → Nat → Int32))) :=
  (if 128 < x3.1 then some (.inr x3.2) else (if (x3.2 a0 4) = 0 then some (.inr x3.2) else ((f_X8_readyAt (x3.2, S.2) a0 x3.1).bind (fun v6 => ((f_X8_ringReady (x3.2, S.2) a0 v6 x3.1).bind (fun σ7 => some (.inl ((x3.1 + 1), σ7))))))))
def f_X8_runByLot (S : am_S) (p0 : Nat) (p1 : Nat) (p2 : Int32) (p3 : Int32) : Option ((Nat → Nat → Int32)) :=
  ((f_X8_prepare S p0 p1 p2).bind (fun σ1 => ((f_X8_drawTurns (σ1, S.2) p0 p3).bind (fun σ2 => ((am_loop (f_X8_runByLot_b14 (σ2, S.2) p0) am_fuel (0, σ2)).bind (fun t3 => some t3))))))
set_option maxRecDepth 20000 in
theorem t_X8_runByLot {E : am_E} {l : Launch} (hl : l.stackTraces = false) {S : am_S} {p0 : Nat} {p1 : Nat} {p2 : Int32} {p3 : Int32} (kp0 : am_kd p0 = 108) (kp1 : am_kd p1 = 109) : am_M E l yX8_runByLot (.code yX8_runByLot cX8_runByLot 5 none) 5 0 0 [.ref p0, .ref p1, .int p2, .int p3] S ((f_X8_runByLot S p0 p1 p2 p3).map (fun (x : Nat → Nat → Int32) => ((.inl none, (x, S.2)) : am_R))) := by
  refine am_M_of (w := fun (x : Nat → Nat → Int32) => ((.inl none, (x, S.2)) : am_R)) hl (by decide) (am_fc rfl (am_fc rfl (am_fc rfl (am_fc rfl am_fn)))) (Nat.le_of_ble_eq_true rfl) ?_
  show am_Ev E l (RX8, cX8_runByLot, 5, none, [], am_rm 5 0 0) (fun b a s x => am_Z E 0 0 b a s ((fun (x : Nat → Nat → Int32) => ((.inl none, (x, S.2)) : am_R)) x)) 0 0 0 [some (.ref p0), some (.ref p1), some (.int p2), some (.int p3), none] [] S (f_X8_runByLot S p0 p1 p2 p3)
  unfold f_X8_runByLot
  refine ev_aload_n dX8_runByLot_0 rfl ?_
  refine ev_aload_n dX8_runByLot_1 rfl ?_
  refine ev_iload_n dX8_runByLot_2 rfl ?_
  refine ev_callWV (am_callV (as := [.ref p1, .int p2]) (o := p0) (st := []) cv_X8_24 dX8_runByLot_3 kp0 rfl (am_le rfl) (am_fit (by omega) (by decide) (by decide) (by decide)) (t_X8_prepare hl kp0 kp1)) (fun σ1 h1 => ?_)
  refine ev_aload_n dX8_runByLot_6 rfl ?_
  refine ev_iload_n dX8_runByLot_7 rfl ?_
  refine ev_callWV (am_callV (as := [.int p3]) (o := p0) (st := []) cv_X8_52 dX8_runByLot_8 kp0 rfl (am_le rfl) (am_fit (by omega) (by decide) (by decide) (by decide)) (t_X8_drawTurns hl kp0)) (fun σ2 h2 => ?_)
  refine ev_iconst (v := 0) dX8_runByLot_11 (by decide) ?_
  refine ev_istore dX8_runByLot_12 (am_lt rfl) ?_
  refine ev_weak (am_wk (am_wf (am_wf (am_wf (am_wk am_wn))))) (ev_loop 14 47 (fun x3 : Int32 × (Nat → Nat → Int32) => [some (.ref p0), none, none, none, some (.int x3.1)]) (fun t3 : (Nat → Nat → Int32) => [none, none, none, none, none]) (fun x3 => (x3.2, S.2)) (fun t3 => (t3, S.2)) (fun x3 G3 hB3 hE3 => ?_) (fun t3 => ?_) am_fuel (0, σ2))
  · unfold f_X8_runByLot_b14
    refine ev_iload dX8_runByLot_14 rfl ?_
    refine ev_sipush (v := 128) dX8_runByLot_16 (by decide) ?_
    refine ev_eq am_ib ?_
    refine ev_icmp_gt (tgt := 47) dX8_runByLot_19 (by decide) (fun c8 => ?_) (fun c8 => ?_)
    · exact ev_leaf (am_wf (am_wf (am_wf (am_wf (am_wf am_wn))))) (hE3 x3.2)
    · refine ev_aload_n dX8_runByLot_22 rfl ?_
      refine ev_get fk_X8_28 dX8_runByLot_23 kp0 (am_fvI (by decide)) ?_
      refine ev_eq am_ib ?_
      refine ev_if_eq (tgt := 47) dX8_runByLot_26 (by decide) (fun c9 => ?_) (fun c9 => ?_)
      · exact ev_leaf (am_wf (am_wf (am_wf (am_wf (am_wf am_wn))))) (hE3 x3.2)
      · refine ev_aload_n dX8_runByLot_29 rfl ?_
        refine ev_aload_n dX8_runByLot_30 rfl ?_
        refine ev_iload dX8_runByLot_31 rfl ?_
        refine ev_eq (Option.bind_assoc _ _ _) ?_
        refine ev_callP (am_callV (as := [.int x3.1]) (o := p0) (st := [.ref p0]) cv_X8_32 dX8_runByLot_33 kp0 rfl (am_le rfl) (am_fit (by omega) (by decide) (by decide) (by decide)) (t_X8_readyAt hl kp0)) (fun v10 h10 => ?_)
        refine ev_iload dX8_runByLot_36 rfl ?_
        refine ev_eq (Option.bind_assoc _ _ _) ?_
        refine ev_callWV (am_callV (as := [.int v10, .int x3.1]) (o := p0) (st := []) cv_X8_48 dX8_runByLot_38 kp0 rfl (am_le rfl) (am_fit (by omega) (by decide) (by decide) (by decide)) (t_X8_ringReady hl kp0)) (fun σ11 h11 => ?_)
        refine ev_iinc (v := (x3.1 + 1)) dX8_runByLot_41 (am_lt rfl) rfl rfl ?_
        refine ev_goto (tgt := 14) dX8_runByLot_44 (by decide) ?_
        exact ev_leaf (am_wk (am_wf (am_wf (am_wf (am_wk am_wn))))) (hB3 ((x3.1 + 1), σ11))
  · exact ev_vret dX8_runByLot_47 rfl (by decide) (by decide) rfl
def f_X11_lot (S : am_S) (p0 : Nat) (p1 : Int32) (p2 : Int32) (p3 : Int32) : Option (am_R) :=
  (am_thV (f_X11_needWant S p0 p1) (fun S1 => (am_thV (f_X11_needSixWhat S1 p0 p3) (fun S2 => ((am_rd S2.2 p0 13 108).bind (fun q3 => ((am_rd S2.2 p0 3 109).bind (fun q4 => ((f_X8_runByLot S2 q3 q4 p1 p2).bind (fun σ5 => (if p3 = 0 then ((am_rd S2.2 p0 13 108).bind (fun q8 => some (.inl (some (.int (σ5 q8 5))), (σ5, S2.2)))) else ((am_rd S2.2 p0 13 108).bind (fun q7 => some (.inl (some (.int (σ5 q7 6))), (σ5, S2.2)))))))))))))))
set_option maxRecDepth 20000 in
theorem t_X11_lot {E : am_E} {l : Launch} (hl : l.stackTraces = false) {S : am_S} {p0 : Nat} {p1 : Int32} {p2 : Int32} {p3 : Int32} (kp0 : am_kd p0 = 111) : am_M E l yX11_lot (.code yX11_lot cX11_lot 4 (some .int)) 6 2 12 [.ref p0, .int p1, .int p2, .int p3] S (f_X11_lot S p0 p1 p2 p3) := by
  refine am_M_id (am_M_of (w := fun x => x) hl (by decide) (am_fc rfl (am_fc rfl (am_fc rfl (am_fc rfl am_fn)))) (Nat.le_of_ble_eq_true rfl) ?_)
  show am_Ev E l (RX11, cX11_lot, 4, (some .int), [], am_rm 6 2 12) (am_Z E 2 12) 0 0 0 [some (.ref p0), some (.int p1), some (.int p2), some (.int p3)] [] S (f_X11_lot S p0 p1 p2 p3)
  unfold f_X11_lot
  refine ev_aload_n dX11_lot_0 rfl ?_
  refine ev_iload_n dX11_lot_1 rfl ?_
  refine ev_callGV (am_callV (as := [.int p1]) (o := p0) (st := []) cv_X11_165 dX11_lot_2 kp0 rfl (am_le rfl) (am_fit (by omega) (by decide) (by decide) (by decide)) (t_X11_needWant hl kp0)) rfl (by decide) (by decide) (fun S1 h1 => ?_)
  refine ev_aload_n dX11_lot_5 rfl ?_
  refine ev_iload_n dX11_lot_6 rfl ?_
  refine ev_callGV (am_callV (as := [.int p3]) (o := p0) (st := []) cv_X11_273 dX11_lot_7 kp0 rfl (am_le rfl) (am_fit (by omega) (by decide) (by decide) (by decide)) (t_X11_needSixWhat hl kp0)) rfl (by decide) (by decide) (fun S2 h2 => ?_)
  refine ev_aload_n dX11_lot_10 rfl ?_
  refine ev_getR fk_X11_72 (by decide) dX11_lot_11 kp0 (fun q3 k3 r3 => ?_)
  refine ev_aload_n dX11_lot_14 rfl ?_
  refine ev_getR fk_X11_20 (by decide) dX11_lot_15 kp0 (fun q4 k4 r4 => ?_)
  refine ev_iload_n dX11_lot_18 rfl ?_
  refine ev_iload_n dX11_lot_19 rfl ?_
  refine ev_callWV (am_callVN (as := [.ref q4, .int p1, .int p2]) (o := q3) (st := []) cv_X11_285 dX11_lot_20 k3 rfl (am_le rfl) (am_fit (by omega) (by decide) (by decide) (by decide)) (am_no1 (fun _ => ⟨_, rfl⟩)) (t_X8_runByLot hl k3 k4)) (fun σ5 h5 => ?_)
  refine ev_iload_n dX11_lot_23 rfl ?_
  refine ev_if_ne (tgt := 37) dX11_lot_24 (by decide) (fun c6 => ?_) (fun c6 => ?_)
  · refine ev_aload_n dX11_lot_37 rfl ?_
    refine ev_getR fk_X11_72 (by decide) dX11_lot_38 kp0 (fun q7 k7 r7 => ?_)
    refine ev_getN fk_X11_282 dX11_lot_41 k7 (am_fvI (by decide)) ?_
    exact ev_iret dX11_lot_44 rfl rfl (by decide) (by decide) rfl
  · refine ev_aload_n dX11_lot_27 rfl ?_
    refine ev_getR fk_X11_72 (by decide) dX11_lot_28 kp0 (fun q8 k8 r8 => ?_)
    refine ev_getN fk_X11_279 dX11_lot_31 k8 (am_fvI (by decide)) ?_
    refine ev_goto (tgt := 44) dX11_lot_34 (by decide) ?_
    exact ev_iret dX11_lot_44 rfl rfl (by decide) (by decide) rfl
def f_X0_lengthBehind_b2 (S : am_S) (a0 : Nat) (a1 : Int32) (a2 : Int32) (x1 : Int32) : Option ((Int32) ⊕ ((Int32) ⊕ (Int32))) :=
  (if x1 < 10 then ((am_rd S.2 a0 3 1).bind (fun q3 => ((am_ld S.1 q3 x1).bind (fun v4 => ((am_rd S.2 a0 2 1).bind (fun q5 => ((am_ld S.1 q5 x1).bind (fun v6 => (if v6 = (-1) then some (.inl (x1 + 1)) else (if (v4 - a2) < 0 then some (.inl (x1 + 1)) else ((am_rd S.2 a0 2 1).bind (fun q9 => ((am_ld S.1 q9 x1).bind (fun v10 => (if (v10 >>> ((v4 - a2) &&& 31)) = a1 then some (.inr (.inl x1)) else some (.inl (x1 + 1))))))))))))))))) else some (.inr (.inr 0)))
def f_X0_lengthBehind (S : am_S) (p0 : Nat) (p1 : Int32) (p2 : Int32) : Option (Int32) :=
  ((am_loop (f_X0_lengthBehind_b2 S p0 p1 p2) am_fuel 0).bind (fun r1 => match r1 with | .inl t1 => ((am_rd S.2 p0 3 1).bind (fun q22 => ((am_ld S.1 q22 t1).bind (fun v23 => some v23)))) | .inr b1 => some b1))
set_option maxRecDepth 20000 in
theorem t_X0_lengthBehind {E : am_E} {l : Launch} (hl : l.stackTraces = false) {S : am_S} {p0 : Nat} {p1 : Int32} {p2 : Int32} (kp0 : am_kd p0 = 100) : am_M E l yX0_lengthBehind (.code yX0_lengthBehind cX0_lengthBehind 5 (some .int)) 0 0 0 [.ref p0, .int p1, .int p2] S ((f_X0_lengthBehind S p0 p1 p2).map (fun (v : Int32) => ((.inl (some (.int v)), S) : am_R))) := by
  refine am_M_of (w := fun (v : Int32) => ((.inl (some (.int v)), S) : am_R)) hl (by decide) (am_fc rfl (am_fc rfl (am_fc rfl am_fn))) (Nat.le_of_ble_eq_true rfl) ?_
  show am_Ev E l (RX0, cX0_lengthBehind, 5, (some .int), [], am_rm 0 0 0) (fun b a s x => am_Z E 0 0 b a s ((fun (v : Int32) => ((.inl (some (.int v)), S) : am_R)) x)) 0 0 0 [some (.ref p0), some (.int p1), some (.int p2), none, none] [] S (f_X0_lengthBehind S p0 p1 p2)
  unfold f_X0_lengthBehind
  refine ev_iconst (v := 0) dX0_lengthBehind_0 (by decide) ?_
  refine ev_istore_n dX0_lengthBehind_1 (am_lt rfl) ?_
  refine ev_weak (am_wk (am_wk (am_wk (am_wk (am_wf am_wn))))) (ev_loopR 2 46 (fun x1 : Int32 => [some (.ref p0), some (.int p1), some (.int p2), some (.int x1), none]) (fun t1 : Int32 => [some (.ref p0), none, none, some (.int t1), none]) (fun x1 => S) (fun t1 => S) (fun x1 G1 hB1 hE1 hG1 => ?_) (fun t1 => ?_) am_fuel 0)
  · unfold f_X0_lengthBehind_b2
    refine ev_iload_n dX0_lengthBehind_2 rfl ?_
    refine ev_bipush (v := 10) dX0_lengthBehind_3 (by decide) ?_
    refine ev_eq am_ib ?_
    refine ev_icmp_ge (tgt := 59) dX0_lengthBehind_5 (by decide) (fun c12 => ?_) (fun c12 => ?_)
    · refine ev_iconst (v := 0) dX0_lengthBehind_59 (by decide) ?_
      exact ev_eq (hG1 _) (ev_iret dX0_lengthBehind_60 rfl rfl (by decide) (by decide) rfl)
    · refine ev_aload_n dX0_lengthBehind_8 rfl ?_
      refine ev_eq (Option.bind_assoc _ _ _) ?_
      refine ev_getR fk_X0_21 (by decide) dX0_lengthBehind_9 kp0 (fun q13 k13 r13 => ?_)
      refine ev_iload_n dX0_lengthBehind_12 rfl ?_
      refine ev_eq (Option.bind_assoc _ _ _) ?_
      refine ev_iald dX0_lengthBehind_13 k13 (fun v14 h14 => ?_)
      refine ev_iload_n dX0_lengthBehind_14 rfl ?_
      refine ev_isub dX0_lengthBehind_15 ?_
      refine ev_istore dX0_lengthBehind_16 (am_lt rfl) ?_
      refine ev_aload_n dX0_lengthBehind_18 rfl ?_
      refine ev_eq (Option.bind_assoc _ _ _) ?_
      refine ev_getR fk_X0_18 (by decide) dX0_lengthBehind_19 kp0 (fun q15 k15 r15 => ?_)
      refine ev_iload_n dX0_lengthBehind_22 rfl ?_
      refine ev_eq (Option.bind_assoc _ _ _) ?_
      refine ev_iald dX0_lengthBehind_23 k15 (fun v16 h16 => ?_)
      refine ev_iconst (v := (-1)) dX0_lengthBehind_24 (by decide) ?_
      refine ev_eq am_ib ?_
      refine ev_icmp_eq (tgt := 53) dX0_lengthBehind_25 (by decide) (fun c17 => ?_) (fun c17 => ?_)
      · refine ev_iinc (v := (x1 + 1)) dX0_lengthBehind_53 (am_lt rfl) rfl rfl ?_
        refine ev_goto (tgt := 2) dX0_lengthBehind_56 (by decide) ?_
        exact ev_leaf (am_wk (am_wk (am_wk (am_wk (am_wf am_wn))))) (hB1 (x1 + 1))
      · refine ev_iload dX0_lengthBehind_28 rfl ?_
        refine ev_eq am_ib ?_
        refine ev_if_lt (tgt := 53) dX0_lengthBehind_30 (by decide) (fun c18 => ?_) (fun c18 => ?_)
        · refine ev_iinc (v := (x1 + 1)) dX0_lengthBehind_53 (am_lt rfl) rfl rfl ?_
          refine ev_goto (tgt := 2) dX0_lengthBehind_56 (by decide) ?_
          exact ev_leaf (am_wk (am_wk (am_wk (am_wk (am_wf am_wn))))) (hB1 (x1 + 1))
        · refine ev_aload_n dX0_lengthBehind_33 rfl ?_
          refine ev_eq (Option.bind_assoc _ _ _) ?_
          refine ev_getR fk_X0_18 (by decide) dX0_lengthBehind_34 kp0 (fun q19 k19 r19 => ?_)
          refine ev_iload_n dX0_lengthBehind_37 rfl ?_
          refine ev_eq (Option.bind_assoc _ _ _) ?_
          refine ev_iald dX0_lengthBehind_38 k19 (fun v20 h20 => ?_)
          refine ev_iload dX0_lengthBehind_39 rfl ?_
          refine ev_ishr dX0_lengthBehind_41 ?_
          refine ev_iload_n dX0_lengthBehind_42 rfl ?_
          refine ev_eq am_ib ?_
          refine ev_icmp_ne (tgt := 53) dX0_lengthBehind_43 (by decide) (fun c21 => ?_) (fun c21 => ?_)
          · refine ev_iinc (v := (x1 + 1)) dX0_lengthBehind_53 (am_lt rfl) rfl rfl ?_
            refine ev_goto (tgt := 2) dX0_lengthBehind_56 (by decide) ?_
            exact ev_leaf (am_wk (am_wk (am_wk (am_wk (am_wf am_wn))))) (hB1 (x1 + 1))
          · exact ev_leaf (am_wk (am_wf (am_wf (am_wk (am_wf am_wn))))) (hE1 x1)
  · refine ev_aload_n dX0_lengthBehind_46 rfl ?_
    refine ev_getR fk_X0_21 (by decide) dX0_lengthBehind_47 kp0 (fun q22 k22 r22 => ?_)
    refine ev_iload_n dX0_lengthBehind_50 rfl ?_
    refine ev_iald dX0_lengthBehind_51 k22 (fun v23 h23 => ?_)
    exact ev_iret dX0_lengthBehind_52 rfl rfl (by decide) (by decide) rfl
def f_X0_keepIfLess (S : am_S) (p0 : Nat) (p1 : Int32) (p2 : Int32) : Option ((Nat → Nat → Int32)) :=
  (if (S.1 p0 6) = (-1) then some (am_u2 (am_u2 S.1 p0 6 p2) p0 7 p1) else (if p2 < (S.1 p0 6) then some (am_u2 (am_u2 S.1 p0 6 p2) p0 7 p1) else (if p2 = (S.1 p0 6) then (if p1 < (S.1 p0 7) then some (am_u2 (am_u2 S.1 p0 6 p2) p0 7 p1) else some S.1) else some S.1)))
set_option maxRecDepth 20000 in
theorem t_X0_keepIfLess {E : am_E} {l : Launch} (hl : l.stackTraces = false) {S : am_S} {p0 : Nat} {p1 : Int32} {p2 : Int32} (kp0 : am_kd p0 = 100) : am_M E l yX0_keepIfLess (.code yX0_keepIfLess cX0_keepIfLess 3 none) 0 0 0 [.ref p0, .int p1, .int p2] S ((f_X0_keepIfLess S p0 p1 p2).map (fun (x : Nat → Nat → Int32) => ((.inl none, (x, S.2)) : am_R))) := by
  refine am_M_of (w := fun (x : Nat → Nat → Int32) => ((.inl none, (x, S.2)) : am_R)) hl (by decide) (am_fc rfl (am_fc rfl (am_fc rfl am_fn))) (Nat.le_of_ble_eq_true rfl) ?_
  show am_Ev E l (RX0, cX0_keepIfLess, 3, none, [], am_rm 0 0 0) (fun b a s x => am_Z E 0 0 b a s ((fun (x : Nat → Nat → Int32) => ((.inl none, (x, S.2)) : am_R)) x)) 0 0 0 [some (.ref p0), some (.int p1), some (.int p2)] [] S (f_X0_keepIfLess S p0 p1 p2)
  unfold f_X0_keepIfLess
  refine ev_aload_n dX0_keepIfLess_0 rfl ?_
  refine ev_get fk_X0_57 dX0_keepIfLess_1 kp0 (am_fvI (by decide)) ?_
  refine ev_iconst (v := (-1)) dX0_keepIfLess_4 (by decide) ?_
  refine ev_icmp_eq (tgt := 32) dX0_keepIfLess_5 (by decide) (fun c1 => ?_) (fun c1 => ?_)
  · refine ev_aload_n dX0_keepIfLess_32 rfl ?_
    refine ev_iload_n dX0_keepIfLess_33 rfl ?_
    refine ev_putI fk_X0_57 tyX0 tyX0_ok nmX0 rfl (by decide +kernel) (by decide) dX0_keepIfLess_34 kp0 ?_
    refine ev_aload_n dX0_keepIfLess_37 rfl ?_
    refine ev_iload_n dX0_keepIfLess_38 rfl ?_
    refine ev_putI fk_X0_60 tyX0 tyX0_ok nmX0 rfl (by decide +kernel) (by decide) dX0_keepIfLess_39 kp0 ?_
    exact ev_vret dX0_keepIfLess_42 rfl (by decide) (by decide) rfl
  · refine ev_iload_n dX0_keepIfLess_8 rfl ?_
    refine ev_aload_n dX0_keepIfLess_9 rfl ?_
    refine ev_get fk_X0_57 dX0_keepIfLess_10 kp0 (am_fvI (by decide)) ?_
    refine ev_icmp_lt (tgt := 32) dX0_keepIfLess_13 (by decide) (fun c2 => ?_) (fun c2 => ?_)
    · refine ev_aload_n dX0_keepIfLess_32 rfl ?_
      refine ev_iload_n dX0_keepIfLess_33 rfl ?_
      refine ev_putI fk_X0_57 tyX0 tyX0_ok nmX0 rfl (by decide +kernel) (by decide) dX0_keepIfLess_34 kp0 ?_
      refine ev_aload_n dX0_keepIfLess_37 rfl ?_
      refine ev_iload_n dX0_keepIfLess_38 rfl ?_
      refine ev_putI fk_X0_60 tyX0 tyX0_ok nmX0 rfl (by decide +kernel) (by decide) dX0_keepIfLess_39 kp0 ?_
      exact ev_vret dX0_keepIfLess_42 rfl (by decide) (by decide) rfl
    · refine ev_iload_n dX0_keepIfLess_16 rfl ?_
      refine ev_aload_n dX0_keepIfLess_17 rfl ?_
      refine ev_get fk_X0_57 dX0_keepIfLess_18 kp0 (am_fvI (by decide)) ?_
      refine ev_icmp_ne (tgt := 42) dX0_keepIfLess_21 (by decide) (fun c3 => ?_) (fun c3 => ?_)
      · exact ev_vret dX0_keepIfLess_42 rfl (by decide) (by decide) rfl
      · refine ev_iload_n dX0_keepIfLess_24 rfl ?_
        refine ev_aload_n dX0_keepIfLess_25 rfl ?_
        refine ev_get fk_X0_60 dX0_keepIfLess_26 kp0 (am_fvI (by decide)) ?_
        refine ev_icmp_ge (tgt := 42) dX0_keepIfLess_29 (by decide) (fun c4 => ?_) (fun c4 => ?_)
        · exact ev_vret dX0_keepIfLess_42 rfl (by decide) (by decide) rfl
        · refine ev_aload_n dX0_keepIfLess_32 rfl ?_
          refine ev_iload_n dX0_keepIfLess_33 rfl ?_
          refine ev_putI fk_X0_57 tyX0 tyX0_ok nmX0 rfl (by decide +kernel) (by decide) dX0_keepIfLess_34 kp0 ?_
          refine ev_aload_n dX0_keepIfLess_37 rfl ?_
          refine ev_iload_n dX0_keepIfLess_38 rfl ?_
          refine ev_putI fk_X0_60 tyX0 tyX0_ok nmX0 rfl (by decide +kernel) (by decide) dX0_keepIfLess_39 kp0 ?_
          exact ev_vret dX0_keepIfLess_42 rfl (by decide) (by decide) rfl
def f_X0_tryLonger_b3 (rc_X0_tryLonger : am_S → Nat → Int32 → Int32 → Int32 → Int32 → Option ((Nat → Nat → Int32))) (S : am_S) (a0 : Nat) (a1 : Int32) (a2 : Int32) (a3 : Int32) (a4 : Int32) (x1 : Int32 × (Nat → Nat → Int32)) : Option ((Int32 × (Nat → Nat → Int32)) ⊕ ((Nat → Nat → Int32))) :=
  (if x1.1 < 2 then (if a2 < 8 then ((f_X0_lengthBehind (x1.2, S.2) a0 ((a1 * 2) + x1.1) (a2 + 1)).bind (fun v4 => ((if v4 = 0 then ((f_X0_keepIfLess (x1.2, S.2) a0 ((a1 * 2) + x1.1) (a4 + (a3 * (x1.1 + 1)))).bind (fun σ8 => some σ8)) else (if (a2 + 1) < v4 then ((rc_X0_tryLonger (x1.2, S.2) a0 ((a1 * 2) + x1.1) (a2 + 1) a3 (a4 + (a3 * (x1.1 + 1)))).bind (fun σ7 => some σ7)) else some x1.2)).bind (fun t5 => some (.inl ((x1.1 + 1), t5)))))) else some (.inr x1.2)) else some (.inr x1.2))
def f_X0_tryLonger_o (rc_X0_tryLonger : am_S → Nat → Int32 → Int32 → Int32 → Int32 → Option ((Nat → Nat → Int32))) (S : am_S) (p0 : Nat) (p1 : Int32) (p2 : Int32) (p3 : Int32) (p4 : Int32) : Option ((Nat → Nat → Int32)) :=
  ((am_loop (f_X0_tryLonger_b3 rc_X0_tryLonger S p0 p1 p2 p3 p4) am_fuel (0, S.1)).bind (fun t1 => some t1))
set_option maxRecDepth 20000 in
theorem to_X0_tryLonger {E : am_E} {l : Launch} (hl : l.stackTraces = false) {d : Nat} (hD : 0 ≤ d) {rc_X0_tryLonger : am_S → Nat → Int32 → Int32 → Int32 → Int32 → Option ((Nat → Nat → Int32))}  (ht_X0_tryLonger : ∀ {S : am_S} {p0 : Nat} {p1 : Int32} {p2 : Int32} {p3 : Int32} {p4 : Int32} (kp0 : am_kd p0 = 100), am_M E l yX0_tryLonger (.code yX0_tryLonger cX0_tryLonger 9 none) (d) 0 0 [.ref p0, .int p1, .int p2, .int p3, .int p4] S ((rc_X0_tryLonger S p0 p1 p2 p3 p4).map (fun (x : Nat → Nat → Int32) => ((.inl none, (x, S.2)) : am_R)))) {S : am_S} {p0 : Nat} {p1 : Int32} {p2 : Int32} {p3 : Int32} {p4 : Int32} (kp0 : am_kd p0 = 100) : am_M E l yX0_tryLonger (.code yX0_tryLonger cX0_tryLonger 9 none) (d + 1) 0 0 [.ref p0, .int p1, .int p2, .int p3, .int p4] S ((f_X0_tryLonger_o rc_X0_tryLonger S p0 p1 p2 p3 p4).map (fun (x : Nat → Nat → Int32) => ((.inl none, (x, S.2)) : am_R))) := by
  refine am_M_of (w := fun (x : Nat → Nat → Int32) => ((.inl none, (x, S.2)) : am_R)) hl (by decide) (am_fc rfl (am_fc rfl (am_fc rfl (am_fc rfl (am_fc rfl am_fn))))) (Nat.le_of_ble_eq_true rfl) ?_
  show am_Ev E l (RX0, cX0_tryLonger, 9, none, [], am_rm (d + 1) 0 0) (fun b a s x => am_Z E 0 0 b a s ((fun (x : Nat → Nat → Int32) => ((.inl none, (x, S.2)) : am_R)) x)) 0 0 0 [some (.ref p0), some (.int p1), some (.int p2), some (.int p3), some (.int p4), none, none, none, none] [] S (f_X0_tryLonger_o rc_X0_tryLonger S p0 p1 p2 p3 p4)
  unfold f_X0_tryLonger_o
  refine ev_iconst (v := 0) dX0_tryLonger_0 (by decide) ?_
  refine ev_istore dX0_tryLonger_1 (am_lt rfl) ?_
  refine ev_weak (am_wk (am_wk (am_wk (am_wk (am_wk (am_wk (am_wf (am_wf (am_wf am_wn))))))))) (ev_loop 3 87 (fun x1 : Int32 × (Nat → Nat → Int32) => [some (.ref p0), some (.int p1), some (.int p2), some (.int p3), some (.int p4), some (.int x1.1), none, none, none]) (fun t1 : (Nat → Nat → Int32) => [none, none, none, none, none, none, none, none, none]) (fun x1 => (x1.2, S.2)) (fun t1 => (t1, S.2)) (fun x1 G1 hB1 hE1 => ?_) (fun t1 => ?_) am_fuel (0, S.1))
  · unfold f_X0_tryLonger_b3
    refine ev_iload dX0_tryLonger_3 rfl ?_
    refine ev_iconst (v := 2) dX0_tryLonger_5 (by decide) ?_
    refine ev_eq am_ib ?_
    refine ev_icmp_ge (tgt := 87) dX0_tryLonger_6 (by decide) (fun c9 => ?_) (fun c9 => ?_)
    · exact ev_leaf (am_wf (am_wf (am_wf (am_wf (am_wf (am_wf (am_wf (am_wf (am_wf am_wn))))))))) (hE1 x1.2)
    · refine ev_iload_n dX0_tryLonger_9 rfl ?_
      refine ev_bipush (v := 8) dX0_tryLonger_10 (by decide) ?_
      refine ev_eq am_ib ?_
      refine ev_icmp_ge (tgt := 87) dX0_tryLonger_12 (by decide) (fun c10 => ?_) (fun c10 => ?_)
      · exact ev_leaf (am_wf (am_wf (am_wf (am_wf (am_wf (am_wf (am_wf (am_wf (am_wf am_wn))))))))) (hE1 x1.2)
      · refine ev_iload_n dX0_tryLonger_15 rfl ?_
        refine ev_iconst (v := 2) dX0_tryLonger_16 (by decide) ?_
        refine ev_imul dX0_tryLonger_17 ?_
        refine ev_iload dX0_tryLonger_18 rfl ?_
        refine ev_iadd dX0_tryLonger_20 ?_
        refine ev_istore dX0_tryLonger_21 (am_lt rfl) ?_
        refine ev_iload dX0_tryLonger_23 rfl ?_
        refine ev_iload_n dX0_tryLonger_25 rfl ?_
        refine ev_iload dX0_tryLonger_26 rfl ?_
        refine ev_iconst (v := 1) dX0_tryLonger_28 (by decide) ?_
        refine ev_iadd dX0_tryLonger_29 ?_
        refine ev_imul dX0_tryLonger_30 ?_
        refine ev_iadd dX0_tryLonger_31 ?_
        refine ev_istore dX0_tryLonger_32 (am_lt rfl) ?_
        refine ev_aload_n dX0_tryLonger_34 rfl ?_
        refine ev_iload dX0_tryLonger_35 rfl ?_
        refine ev_iload_n dX0_tryLonger_37 rfl ?_
        refine ev_iconst (v := 1) dX0_tryLonger_38 (by decide) ?_
        refine ev_iadd dX0_tryLonger_39 ?_
        refine ev_eq (Option.bind_assoc _ _ _) ?_
        refine ev_callP (am_callV (as := [.int ((p1 * 2) + x1.1), .int (p2 + 1)]) (o := p0) (st := []) cv_X0_67 dX0_tryLonger_40 kp0 rfl (am_le rfl) (am_fit (by omega) (by decide) (by decide) (by decide)) (t_X0_lengthBehind hl kp0)) (fun v11 h11 => ?_)
        refine ev_istore dX0_tryLonger_43 (am_lt rfl) ?_
        refine ev_iload dX0_tryLonger_45 rfl ?_
        refine ev_eq (Option.bind_assoc _ _ _) ?_
        refine ev_reg (cs' := 0) (sl' := 0) 81 (fun t12 : (Nat → Nat → Int32) => [some (.ref p0), some (.int p1), some (.int p2), some (.int p3), some (.int p4), some (.int x1.1), none, none, none]) (fun t12 => []) (fun t12 => (t12, S.2)) (fun hJ12 => ?_) (fun t12 => ?_)
        · refine ev_eq am_ib ?_
          refine ev_if_ne (tgt := 61) dX0_tryLonger_47 (by decide) (fun c12 => ?_) (fun c12 => ?_)
          · refine ev_iload dX0_tryLonger_61 rfl ?_
            refine ev_iload_n dX0_tryLonger_63 rfl ?_
            refine ev_iconst (v := 1) dX0_tryLonger_64 (by decide) ?_
            refine ev_iadd dX0_tryLonger_65 ?_
            refine ev_eq am_ib ?_
            refine ev_icmp_le (tgt := 81) dX0_tryLonger_66 (by decide) (fun c13 => ?_) (fun c13 => ?_)
            · exact ev_leaf (am_wk (am_wk (am_wk (am_wk (am_wk (am_wk (am_wf (am_wf (am_wf am_wn))))))))) (hJ12 x1.2)
            · refine ev_aload_n dX0_tryLonger_69 rfl ?_
              refine ev_iload dX0_tryLonger_70 rfl ?_
              refine ev_iload_n dX0_tryLonger_72 rfl ?_
              refine ev_iconst (v := 1) dX0_tryLonger_73 (by decide) ?_
              refine ev_iadd dX0_tryLonger_74 ?_
              refine ev_iload_n dX0_tryLonger_75 rfl ?_
              refine ev_iload dX0_tryLonger_76 rfl ?_
              refine ev_eq (Option.bind_assoc _ _ _) ?_
              refine ev_callWV (am_callV (as := [.int ((p1 * 2) + x1.1), .int (p2 + 1), .int p3, .int (p4 + (p3 * (x1.1 + 1)))]) (o := p0) (st := []) cv_X0_63 dX0_tryLonger_78 kp0 rfl (am_le rfl) (am_fit (by omega) (by decide) (by decide) (by decide)) (ht_X0_tryLonger kp0)) (fun σ14 h14 => ?_)
              exact ev_leaf (am_wk (am_wk (am_wk (am_wk (am_wk (am_wk (am_wf (am_wf (am_wf am_wn))))))))) (hJ12 σ14)
          · refine ev_aload_n dX0_tryLonger_50 rfl ?_
            refine ev_iload dX0_tryLonger_51 rfl ?_
            refine ev_iload dX0_tryLonger_53 rfl ?_
            refine ev_eq (Option.bind_assoc _ _ _) ?_
            refine ev_callWV (am_callV (as := [.int ((p1 * 2) + x1.1), .int (p4 + (p3 * (x1.1 + 1)))]) (o := p0) (st := []) cv_X0_70 dX0_tryLonger_55 kp0 rfl (am_le rfl) (am_fit (by omega) (by decide) (by decide) (by decide)) (t_X0_keepIfLess hl kp0)) (fun σ15 h15 => ?_)
            refine ev_goto (tgt := 81) dX0_tryLonger_58 (by decide) ?_
            exact ev_leaf (am_wk (am_wk (am_wk (am_wk (am_wk (am_wk (am_wf (am_wf (am_wf am_wn))))))))) (hJ12 σ15)
        · refine ev_iinc (v := (x1.1 + 1)) dX0_tryLonger_81 (am_lt rfl) rfl rfl ?_
          refine ev_goto (tgt := 3) dX0_tryLonger_84 (by decide) ?_
          exact ev_leaf (am_wk (am_wk (am_wk (am_wk (am_wk (am_wk (am_wf (am_wf (am_wf am_wn))))))))) (hB1 ((x1.1 + 1), t12))
  · exact ev_vret dX0_tryLonger_87 rfl (by decide) (by decide) rfl
def f_rec_X0_tryLonger : Nat → Nat → am_S → Nat → Int32 → Int32 → Int32 → Int32 → Option ((Nat → Nat → Int32))
  | 0, _ => fun _ _ _ _ _ _ => none
  | n + 1, _ => f_X0_tryLonger_o (f_rec_X0_tryLonger n 0)
def f_X0_tryLonger (n : Nat) : am_S → Nat → Int32 → Int32 → Int32 → Int32 → Option ((Nat → Nat → Int32)) := f_rec_X0_tryLonger n 0
theorem t_rec_X0_tryLonger {E : am_E} {l : Launch} (hl : l.stackTraces = false) : ∀ n : Nat, (∀ {S : am_S} {p0 : Nat} {p1 : Int32} {p2 : Int32} {p3 : Int32} {p4 : Int32} (kp0 : am_kd p0 = 100), am_M E l yX0_tryLonger (.code yX0_tryLonger cX0_tryLonger 9 none) (0 + n) 0 0 [.ref p0, .int p1, .int p2, .int p3, .int p4] S ((f_X0_tryLonger n S p0 p1 p2 p3 p4).map (fun (x : Nat → Nat → Int32) => ((.inl none, (x, S.2)) : am_R)))) := by
  intro n
  induction n with
  | zero => exact (by intros; intro r hr; cases hr)
  | succ n ih => exact (by intros; exact to_X0_tryLonger hl (by omega) (fun z0 => ih z0) (by assumption))
theorem t_X0_tryLonger {E : am_E} {l : Launch} (hl : l.stackTraces = false) (n : Nat) {S : am_S} {p0 : Nat} {p1 : Int32} {p2 : Int32} {p3 : Int32} {p4 : Int32} (kp0 : am_kd p0 = 100) : am_M E l yX0_tryLonger (.code yX0_tryLonger cX0_tryLonger 9 none) (0 + n) 0 0 [.ref p0, .int p1, .int p2, .int p3, .int p4] S ((f_X0_tryLonger n S p0 p1 p2 p3 p4).map (fun (x : Nat → Nat → Int32) => ((.inl none, (x, S.2)) : am_R))) := (t_rec_X0_tryLonger hl n) kp0
def f_X0_tryWay (S : am_S) (p0 : Nat) (p1 : Int32) (p2 : Int32) : Option ((Nat → Nat → Int32)) :=
  ((f_X0_tryLonger 60 ((am_u2 (am_u2 S.1 p0 6 (-1)) p0 7 (-1)), S.2) p0 1 0 p1 p2).bind (fun σ1 => (if (σ1 p0 6) = (-1) then some σ1 else (if (σ1 p0 4) = (-1) then some (am_u2 (am_u2 σ1 p0 4 (σ1 p0 6)) p0 5 ((am_u2 σ1 p0 4 (σ1 p0 6)) p0 7)) else (if (σ1 p0 6) < (σ1 p0 4) then some (am_u2 (am_u2 σ1 p0 4 (σ1 p0 6)) p0 5 ((am_u2 σ1 p0 4 (σ1 p0 6)) p0 7)) else some σ1)))))
set_option maxRecDepth 20000 in
theorem t_X0_tryWay {E : am_E} {l : Launch} (hl : l.stackTraces = false) {S : am_S} {p0 : Nat} {p1 : Int32} {p2 : Int32} (kp0 : am_kd p0 = 100) : am_M E l yX0_tryWay (.code yX0_tryWay cX0_tryWay 3 none) 61 0 0 [.ref p0, .int p1, .int p2] S ((f_X0_tryWay S p0 p1 p2).map (fun (x : Nat → Nat → Int32) => ((.inl none, (x, S.2)) : am_R))) := by
  refine am_M_of (w := fun (x : Nat → Nat → Int32) => ((.inl none, (x, S.2)) : am_R)) hl (by decide) (am_fc rfl (am_fc rfl (am_fc rfl am_fn))) (Nat.le_of_ble_eq_true rfl) ?_
  show am_Ev E l (RX0, cX0_tryWay, 3, none, [], am_rm 61 0 0) (fun b a s x => am_Z E 0 0 b a s ((fun (x : Nat → Nat → Int32) => ((.inl none, (x, S.2)) : am_R)) x)) 0 0 0 [some (.ref p0), some (.int p1), some (.int p2)] [] S (f_X0_tryWay S p0 p1 p2)
  unfold f_X0_tryWay
  refine ev_aload_n dX0_tryWay_0 rfl ?_
  refine ev_iconst (v := (-1)) dX0_tryWay_1 (by decide) ?_
  refine ev_putI fk_X0_57 tyX0 tyX0_ok nmX0 rfl (by decide +kernel) (by decide) dX0_tryWay_2 kp0 ?_
  refine ev_aload_n dX0_tryWay_5 rfl ?_
  refine ev_iconst (v := (-1)) dX0_tryWay_6 (by decide) ?_
  refine ev_putI fk_X0_60 tyX0 tyX0_ok nmX0 rfl (by decide +kernel) (by decide) dX0_tryWay_7 kp0 ?_
  refine ev_aload_n dX0_tryWay_10 rfl ?_
  refine ev_iconst (v := 1) dX0_tryWay_11 (by decide) ?_
  refine ev_iconst (v := 0) dX0_tryWay_12 (by decide) ?_
  refine ev_iload_n dX0_tryWay_13 rfl ?_
  refine ev_iload_n dX0_tryWay_14 rfl ?_
  refine ev_callWV (am_callV (as := [.int 1, .int 0, .int p1, .int p2]) (o := p0) (st := []) cv_X0_63 dX0_tryWay_15 kp0 rfl (am_le rfl) (am_fit (by omega) (by decide) (by decide) (by decide)) (t_X0_tryLonger hl 60 kp0)) (fun σ1 h1 => ?_)
  refine ev_aload_n dX0_tryWay_18 rfl ?_
  refine ev_get fk_X0_57 dX0_tryWay_19 kp0 (am_fvI (by decide)) ?_
  refine ev_iconst (v := (-1)) dX0_tryWay_22 (by decide) ?_
  refine ev_icmp_eq (tgt := 61) dX0_tryWay_23 (by decide) (fun c2 => ?_) (fun c2 => ?_)
  · exact ev_vret dX0_tryWay_61 rfl (by decide) (by decide) rfl
  · refine ev_aload_n dX0_tryWay_26 rfl ?_
    refine ev_get fk_X0_37 dX0_tryWay_27 kp0 (am_fvI (by decide)) ?_
    refine ev_iconst (v := (-1)) dX0_tryWay_30 (by decide) ?_
    refine ev_icmp_eq (tgt := 45) dX0_tryWay_31 (by decide) (fun c3 => ?_) (fun c3 => ?_)
    · refine ev_aload_n dX0_tryWay_45 rfl ?_
      refine ev_aload_n dX0_tryWay_46 rfl ?_
      refine ev_get fk_X0_57 dX0_tryWay_47 kp0 (am_fvI (by decide)) ?_
      refine ev_putI fk_X0_37 tyX0 tyX0_ok nmX0 rfl (by decide +kernel) (by decide) dX0_tryWay_50 kp0 ?_
      refine ev_aload_n dX0_tryWay_53 rfl ?_
      refine ev_aload_n dX0_tryWay_54 rfl ?_
      refine ev_get fk_X0_60 dX0_tryWay_55 kp0 (am_fvI (by decide)) ?_
      refine ev_putI fk_X0_40 tyX0 tyX0_ok nmX0 rfl (by decide +kernel) (by decide) dX0_tryWay_58 kp0 ?_
      exact ev_vret dX0_tryWay_61 rfl (by decide) (by decide) rfl
    · refine ev_aload_n dX0_tryWay_34 rfl ?_
      refine ev_get fk_X0_57 dX0_tryWay_35 kp0 (am_fvI (by decide)) ?_
      refine ev_aload_n dX0_tryWay_38 rfl ?_
      refine ev_get fk_X0_37 dX0_tryWay_39 kp0 (am_fvI (by decide)) ?_
      refine ev_icmp_ge (tgt := 61) dX0_tryWay_42 (by decide) (fun c4 => ?_) (fun c4 => ?_)
      · exact ev_vret dX0_tryWay_61 rfl (by decide) (by decide) rfl
      · refine ev_aload_n dX0_tryWay_45 rfl ?_
        refine ev_aload_n dX0_tryWay_46 rfl ?_
        refine ev_get fk_X0_57 dX0_tryWay_47 kp0 (am_fvI (by decide)) ?_
        refine ev_putI fk_X0_37 tyX0 tyX0_ok nmX0 rfl (by decide +kernel) (by decide) dX0_tryWay_50 kp0 ?_
        refine ev_aload_n dX0_tryWay_53 rfl ?_
        refine ev_aload_n dX0_tryWay_54 rfl ?_
        refine ev_get fk_X0_60 dX0_tryWay_55 kp0 (am_fvI (by decide)) ?_
        refine ev_putI fk_X0_40 tyX0 tyX0_ok nmX0 rfl (by decide +kernel) (by decide) dX0_tryWay_58 kp0 ?_
        exact ev_vret dX0_tryWay_61 rfl (by decide) (by decide) rfl
def f_X0_makeRoom_b22 (S : am_S) (a0 : Nat) (a1 : Nat) (a2 : Int32) (a3 : Int32) (x3 : Int32 × (Nat → Nat → Int32)) : Option ((Int32 × (Nat → Nat → Int32)) ⊕ ((Nat → Nat → Int32))) :=
  (if x3.1 < 10 then ((am_rd S.2 a0 2 1).bind (fun q5 => ((f_X9_wordFor (x3.2, S.2) a1 a2 x3.1).bind (fun v6 => ((am_st x3.2 q5 x3.1 v6).bind (fun σ7 => ((am_rd S.2 a0 3 1).bind (fun q8 => ((am_rd S.2 a0 2 1).bind (fun q9 => ((am_ld σ7 q9 x3.1).bind (fun v10 => ((f_X11_strokesOf v10).bind (fun v11 => ((am_st σ7 q8 x3.1 v11).bind (fun σ12 => some (.inl ((x3.1 + 1), σ12)))))))))))))))))) else some (.inr x3.2))
def f_X0_makeRoom_b79 (S : am_S) (a0 : Nat) (a1 : Nat) (a3 : Int32) (x24 : Int32 × (Nat → Nat → Int32)) : Option ((Int32 × (Nat → Nat → Int32)) ⊕ ((Nat → Nat → Int32))) :=
  (if x24.1 < 10 then ((am_rd S.2 a0 2 1).bind (fun q26 => ((am_ld x24.2 q26 x24.1).bind (fun v27 => ((if v27 = (-1) then some x24.2 else ((am_rd S.2 a0 3 1).bind (fun q29 => ((am_ld x24.2 q29 x24.1).bind (fun v30 => (if v30 < 8 then ((am_rd S.2 a0 3 1).bind (fun q32 => ((am_ld x24.2 q32 x24.1).bind (fun v33 => ((am_st x24.2 q32 x24.1 (v33 + 1)).bind (fun σ34 => ((am_rd S.2 a0 2 1).bind (fun q35 => ((am_st σ34 q35 x24.1 (v27 * 2)).bind (fun σ36 => ((f_X9_urgentOf (σ36, S.2) a1 a3).bind (fun v37 => ((f_X9_urgentOf (σ36, S.2) a1 x24.1).bind (fun v38 => ((f_X0_tryWay (σ36, S.2) a0 v37 v38).bind (fun σ39 => ((am_rd S.2 a0 2 1).bind (fun q40 => ((am_st σ39 q40 x24.1 ((v27 * 2) + 1)).bind (fun σ41 => ((f_X9_urgentOf (σ41, S.2) a1 a3).bind (fun v42 => ((f_X9_urgentOf (σ41, S.2) a1 x24.1).bind (fun v43 => ((f_X0_tryWay (σ41, S.2) a0 v42 (2 * v43)).bind (fun σ44 => ((am_rd S.2 a0 2 1).bind (fun q45 => ((am_st σ44 q45 x24.1 v27).bind (fun σ46 => ((am_rd S.2 a0 3 1).bind (fun q47 => ((am_ld σ46 q47 x24.1).bind (fun v48 => ((am_st σ46 q47 x24.1 (v48 - 1)).bind (fun σ49 => some σ49)))))))))))))))))))))))))))))))))))) else some x24.2)))))).bind (fun t28 => some (.inl ((x24.1 + 1), t28)))))))) else some (.inr x24.2))
def f_X0_makeRoom (S : am_S) (p0 : Nat) (p1 : Nat) (p2 : Int32) (p3 : Int32) : Option ((Nat → Nat → Int32)) :=
  ((f_X9_clashesOf ((am_u2 (am_u2 S.1 p0 4 (-1)) p0 5 (-1)), S.2) p1 p2).bind (fun v1 => (if 0 < v1 then some (am_u2 (am_u2 S.1 p0 4 (-1)) p0 5 (-1)) else ((am_loop (f_X0_makeRoom_b22 ((am_u2 (am_u2 S.1 p0 4 (-1)) p0 5 (-1)), S.2) p0 p1 p2 p3) am_fuel (0, (am_u2 (am_u2 S.1 p0 4 (-1)) p0 5 (-1)))).bind (fun t3 => ((f_X9_urgentOf (t3, S.2) p1 p3).bind (fun v22 => ((f_X0_tryWay (t3, S.2) p0 v22 0).bind (fun σ23 => ((am_loop (f_X0_makeRoom_b79 (σ23, S.2) p0 p1 p3) am_fuel (0, σ23)).bind (fun t24 => some t24)))))))))))
set_option maxRecDepth 20000 in
theorem t_X0_makeRoom {E : am_E} {l : Launch} (hl : l.stackTraces = false) {S : am_S} {p0 : Nat} {p1 : Nat} {p2 : Int32} {p3 : Int32} (kp0 : am_kd p0 = 100) (kp1 : am_kd p1 = 109) : am_M E l yX0_makeRoom (.code yX0_makeRoom cX0_makeRoom 6 none) 62 0 0 [.ref p0, .ref p1, .int p2, .int p3] S ((f_X0_makeRoom S p0 p1 p2 p3).map (fun (x : Nat → Nat → Int32) => ((.inl none, (x, S.2)) : am_R))) := by
  refine am_M_of (w := fun (x : Nat → Nat → Int32) => ((.inl none, (x, S.2)) : am_R)) hl (by decide) (am_fc rfl (am_fc rfl (am_fc rfl (am_fc rfl am_fn)))) (Nat.le_of_ble_eq_true rfl) ?_
  show am_Ev E l (RX0, cX0_makeRoom, 6, none, [], am_rm 62 0 0) (fun b a s x => am_Z E 0 0 b a s ((fun (x : Nat → Nat → Int32) => ((.inl none, (x, S.2)) : am_R)) x)) 0 0 0 [some (.ref p0), some (.ref p1), some (.int p2), some (.int p3), none, none] [] S (f_X0_makeRoom S p0 p1 p2 p3)
  unfold f_X0_makeRoom
  refine ev_aload_n dX0_makeRoom_0 rfl ?_
  refine ev_iconst (v := (-1)) dX0_makeRoom_1 (by decide) ?_
  refine ev_putI fk_X0_37 tyX0 tyX0_ok nmX0 rfl (by decide +kernel) (by decide) dX0_makeRoom_2 kp0 ?_
  refine ev_aload_n dX0_makeRoom_5 rfl ?_
  refine ev_iconst (v := (-1)) dX0_makeRoom_6 (by decide) ?_
  refine ev_putI fk_X0_40 tyX0 tyX0_ok nmX0 rfl (by decide +kernel) (by decide) dX0_makeRoom_7 kp0 ?_
  refine ev_aload_n dX0_makeRoom_10 rfl ?_
  refine ev_iload_n dX0_makeRoom_11 rfl ?_
  refine ev_callP (am_callVN (as := [.int p2]) (o := p1) (st := []) cv_X0_43 dX0_makeRoom_12 kp1 rfl (am_le rfl) (am_fit (by omega) (by decide) (by decide) (by decide)) (am_no1 (fun _ => ⟨_, rfl⟩)) (t_X9_clashesOf hl kp1)) (fun v1 h1 => ?_)
  refine ev_if_le (tgt := 19) dX0_makeRoom_15 (by decide) (fun c2 => ?_) (fun c2 => ?_)
  · refine ev_iconst (v := 0) dX0_makeRoom_19 (by decide) ?_
    refine ev_istore dX0_makeRoom_20 (am_lt rfl) ?_
    refine ev_weak (am_wk (am_wk (am_wk (am_wk (am_wk (am_wf am_wn)))))) (ev_loop 22 66 (fun x3 : Int32 × (Nat → Nat → Int32) => [some (.ref p0), some (.ref p1), some (.int p2), some (.int p3), some (.int x3.1), none]) (fun t3 : (Nat → Nat → Int32) => [some (.ref p0), some (.ref p1), none, some (.int p3), none, none]) (fun x3 => (x3.2, S.2)) (fun t3 => (t3, S.2)) (fun x3 G3 hB3 hE3 => ?_) (fun t3 => ?_) am_fuel (0, (am_u2 (am_u2 S.1 p0 4 (-1)) p0 5 (-1))))
    · unfold f_X0_makeRoom_b22
      refine ev_iload dX0_makeRoom_22 rfl ?_
      refine ev_bipush (v := 10) dX0_makeRoom_24 (by decide) ?_
      refine ev_eq am_ib ?_
      refine ev_icmp_ge (tgt := 66) dX0_makeRoom_26 (by decide) (fun c13 => ?_) (fun c13 => ?_)
      · exact ev_leaf (am_wk (am_wk (am_wf (am_wk (am_wf (am_wf am_wn)))))) (hE3 x3.2)
      · refine ev_aload_n dX0_makeRoom_29 rfl ?_
        refine ev_eq (Option.bind_assoc _ _ _) ?_
        refine ev_getR fk_X0_18 (by decide) dX0_makeRoom_30 kp0 (fun q14 k14 r14 => ?_)
        refine ev_iload dX0_makeRoom_33 rfl ?_
        refine ev_aload_n dX0_makeRoom_35 rfl ?_
        refine ev_iload_n dX0_makeRoom_36 rfl ?_
        refine ev_iload dX0_makeRoom_37 rfl ?_
        refine ev_eq (Option.bind_assoc _ _ _) ?_
        refine ev_callP (am_callVN (as := [.int p2, .int x3.1]) (o := p1) (st := [.int x3.1, .ref q14]) cv_X0_46 dX0_makeRoom_39 kp1 rfl (am_le rfl) (am_fit (by omega) (by decide) (by decide) (by decide)) (am_no1 (fun _ => ⟨_, rfl⟩)) (t_X9_wordFor hl kp1)) (fun v15 h15 => ?_)
        refine ev_eq (Option.bind_assoc _ _ _) ?_
        refine ev_iast dX0_makeRoom_42 k14 (fun σ16 h16 => ?_)
        refine ev_aload_n dX0_makeRoom_43 rfl ?_
        refine ev_eq (Option.bind_assoc _ _ _) ?_
        refine ev_getR fk_X0_21 (by decide) dX0_makeRoom_44 kp0 (fun q17 k17 r17 => ?_)
        refine ev_iload dX0_makeRoom_47 rfl ?_
        refine ev_aload_n dX0_makeRoom_49 rfl ?_
        refine ev_eq (Option.bind_assoc _ _ _) ?_
        refine ev_getR fk_X0_18 (by decide) dX0_makeRoom_50 kp0 (fun q18 k18 r18 => ?_)
        refine ev_iload dX0_makeRoom_53 rfl ?_
        refine ev_eq (Option.bind_assoc _ _ _) ?_
        refine ev_iald dX0_makeRoom_55 k18 (fun v19 h19 => ?_)
        refine ev_eq (Option.bind_assoc _ _ _) ?_
        refine ev_callP (am_callSN (as := [.int v19]) (st := [.int x3.1, .ref q17]) ct_X0_50 dX0_makeRoom_56 rfl (am_le rfl) (am_fit (by omega) (by decide) (by decide) (by decide)) (am_no1 (fun _ => ⟨_, rfl⟩)) (t_X11_strokesOf hl )) (fun v20 h20 => ?_)
        refine ev_eq (Option.bind_assoc _ _ _) ?_
        refine ev_iast dX0_makeRoom_59 k17 (fun σ21 h21 => ?_)
        refine ev_iinc (v := (x3.1 + 1)) dX0_makeRoom_60 (am_lt rfl) rfl rfl ?_
        refine ev_goto (tgt := 22) dX0_makeRoom_63 (by decide) ?_
        exact ev_leaf (am_wk (am_wk (am_wk (am_wk (am_wk (am_wf am_wn)))))) (hB3 ((x3.1 + 1), σ21))
    · refine ev_aload_n dX0_makeRoom_66 rfl ?_
      refine ev_aload_n dX0_makeRoom_67 rfl ?_
      refine ev_iload_n dX0_makeRoom_68 rfl ?_
      refine ev_callP (am_callVN (as := [.int p3]) (o := p1) (st := [.ref p0]) cv_X0_30 dX0_makeRoom_69 kp1 rfl (am_le rfl) (am_fit (by omega) (by decide) (by decide) (by decide)) (am_no1 (fun _ => ⟨_, rfl⟩)) (t_X9_urgentOf hl kp1)) (fun v22 h22 => ?_)
      refine ev_iconst (v := 0) dX0_makeRoom_72 (by decide) ?_
      refine ev_callWV (am_callV (as := [.int v22, .int 0]) (o := p0) (st := []) cv_X0_53 dX0_makeRoom_73 kp0 rfl (am_le rfl) (am_fit (by omega) (by decide) (by decide) (by decide)) (t_X0_tryWay hl kp0)) (fun σ23 h23 => ?_)
      refine ev_iconst (v := 0) dX0_makeRoom_76 (by decide) ?_
      refine ev_istore dX0_makeRoom_77 (am_lt rfl) ?_
      refine ev_weak (am_wk (am_wk (am_wf (am_wk (am_wk (am_wf am_wn)))))) (ev_loop 79 206 (fun x24 : Int32 × (Nat → Nat → Int32) => [some (.ref p0), some (.ref p1), none, some (.int p3), some (.int x24.1), none]) (fun t24 : (Nat → Nat → Int32) => [none, none, none, none, none, none]) (fun x24 => (x24.2, S.2)) (fun t24 => (t24, S.2)) (fun x24 G24 hB24 hE24 => ?_) (fun t24 => ?_) am_fuel (0, σ23))
      · unfold f_X0_makeRoom_b79
        refine ev_iload dX0_makeRoom_79 rfl ?_
        refine ev_bipush (v := 10) dX0_makeRoom_81 (by decide) ?_
        refine ev_eq am_ib ?_
        refine ev_icmp_ge (tgt := 206) dX0_makeRoom_83 (by decide) (fun c50 => ?_) (fun c50 => ?_)
        · exact ev_leaf (am_wf (am_wf (am_wf (am_wf (am_wf (am_wf am_wn)))))) (hE24 x24.2)
        · refine ev_aload_n dX0_makeRoom_86 rfl ?_
          refine ev_eq (Option.bind_assoc _ _ _) ?_
          refine ev_getR fk_X0_18 (by decide) dX0_makeRoom_87 kp0 (fun q51 k51 r51 => ?_)
          refine ev_iload dX0_makeRoom_90 rfl ?_
          refine ev_eq (Option.bind_assoc _ _ _) ?_
          refine ev_iald dX0_makeRoom_92 k51 (fun v52 h52 => ?_)
          refine ev_istore dX0_makeRoom_93 (am_lt rfl) ?_
          refine ev_iload dX0_makeRoom_95 rfl ?_
          refine ev_iconst (v := (-1)) dX0_makeRoom_97 (by decide) ?_
          refine ev_eq (Option.bind_assoc _ _ _) ?_
          refine ev_reg (cs' := 0) (sl' := 0) 200 (fun t53 : (Nat → Nat → Int32) => [some (.ref p0), some (.ref p1), none, some (.int p3), some (.int x24.1), none]) (fun t53 => []) (fun t53 => (t53, S.2)) (fun hJ53 => ?_) (fun t53 => ?_)
          · refine ev_eq am_ib ?_
            refine ev_icmp_eq (tgt := 200) dX0_makeRoom_98 (by decide) (fun c53 => ?_) (fun c53 => ?_)
            · exact ev_leaf (am_wk (am_wk (am_wf (am_wk (am_wk (am_wf am_wn)))))) (hJ53 x24.2)
            · refine ev_aload_n dX0_makeRoom_101 rfl ?_
              refine ev_eq (Option.bind_assoc _ _ _) ?_
              refine ev_getR fk_X0_21 (by decide) dX0_makeRoom_102 kp0 (fun q54 k54 r54 => ?_)
              refine ev_iload dX0_makeRoom_105 rfl ?_
              refine ev_eq (Option.bind_assoc _ _ _) ?_
              refine ev_iald dX0_makeRoom_107 k54 (fun v55 h55 => ?_)
              refine ev_bipush (v := 8) dX0_makeRoom_108 (by decide) ?_
              refine ev_eq am_ib ?_
              refine ev_icmp_ge (tgt := 200) dX0_makeRoom_110 (by decide) (fun c56 => ?_) (fun c56 => ?_)
              · exact ev_leaf (am_wk (am_wk (am_wf (am_wk (am_wk (am_wf am_wn)))))) (hJ53 x24.2)
              · refine ev_aload_n dX0_makeRoom_113 rfl ?_
                refine ev_eq (Option.bind_assoc _ _ _) ?_
                refine ev_getR fk_X0_21 (by decide) dX0_makeRoom_114 kp0 (fun q57 k57 r57 => ?_)
                refine ev_iload dX0_makeRoom_117 rfl ?_
                refine ev_dup2 dX0_makeRoom_119 rfl rfl ?_
                refine ev_eq (Option.bind_assoc _ _ _) ?_
                refine ev_iald dX0_makeRoom_120 k57 (fun v58 h58 => ?_)
                refine ev_iconst (v := 1) dX0_makeRoom_121 (by decide) ?_
                refine ev_iadd dX0_makeRoom_122 ?_
                refine ev_eq (Option.bind_assoc _ _ _) ?_
                refine ev_iast dX0_makeRoom_123 k57 (fun σ59 h59 => ?_)
                refine ev_aload_n dX0_makeRoom_124 rfl ?_
                refine ev_eq (Option.bind_assoc _ _ _) ?_
                refine ev_getR fk_X0_18 (by decide) dX0_makeRoom_125 kp0 (fun q60 k60 r60 => ?_)
                refine ev_iload dX0_makeRoom_128 rfl ?_
                refine ev_iload dX0_makeRoom_130 rfl ?_
                refine ev_iconst (v := 2) dX0_makeRoom_132 (by decide) ?_
                refine ev_imul dX0_makeRoom_133 ?_
                refine ev_eq (Option.bind_assoc _ _ _) ?_
                refine ev_iast dX0_makeRoom_134 k60 (fun σ61 h61 => ?_)
                refine ev_aload_n dX0_makeRoom_135 rfl ?_
                refine ev_aload_n dX0_makeRoom_136 rfl ?_
                refine ev_iload_n dX0_makeRoom_137 rfl ?_
                refine ev_eq (Option.bind_assoc _ _ _) ?_
                refine ev_callP (am_callVN (as := [.int p3]) (o := p1) (st := [.ref p0]) cv_X0_30 dX0_makeRoom_138 kp1 rfl (am_le rfl) (am_fit (by omega) (by decide) (by decide) (by decide)) (am_no1 (fun _ => ⟨_, rfl⟩)) (t_X9_urgentOf hl kp1)) (fun v62 h62 => ?_)
                refine ev_aload_n dX0_makeRoom_141 rfl ?_
                refine ev_iload dX0_makeRoom_142 rfl ?_
                refine ev_eq (Option.bind_assoc _ _ _) ?_
                refine ev_callP (am_callVN (as := [.int x24.1]) (o := p1) (st := [.int v62, .ref p0]) cv_X0_30 dX0_makeRoom_144 kp1 rfl (am_le rfl) (am_fit (by omega) (by decide) (by decide) (by decide)) (am_no1 (fun _ => ⟨_, rfl⟩)) (t_X9_urgentOf hl kp1)) (fun v63 h63 => ?_)
                refine ev_eq (Option.bind_assoc _ _ _) ?_
                refine ev_callWV (am_callV (as := [.int v62, .int v63]) (o := p0) (st := []) cv_X0_53 dX0_makeRoom_147 kp0 rfl (am_le rfl) (am_fit (by omega) (by decide) (by decide) (by decide)) (t_X0_tryWay hl kp0)) (fun σ64 h64 => ?_)
                refine ev_aload_n dX0_makeRoom_150 rfl ?_
                refine ev_eq (Option.bind_assoc _ _ _) ?_
                refine ev_getR fk_X0_18 (by decide) dX0_makeRoom_151 kp0 (fun q65 k65 r65 => ?_)
                refine ev_iload dX0_makeRoom_154 rfl ?_
                refine ev_iload dX0_makeRoom_156 rfl ?_
                refine ev_iconst (v := 2) dX0_makeRoom_158 (by decide) ?_
                refine ev_imul dX0_makeRoom_159 ?_
                refine ev_iconst (v := 1) dX0_makeRoom_160 (by decide) ?_
                refine ev_iadd dX0_makeRoom_161 ?_
                refine ev_eq (Option.bind_assoc _ _ _) ?_
                refine ev_iast dX0_makeRoom_162 k65 (fun σ66 h66 => ?_)
                refine ev_aload_n dX0_makeRoom_163 rfl ?_
                refine ev_aload_n dX0_makeRoom_164 rfl ?_
                refine ev_iload_n dX0_makeRoom_165 rfl ?_
                refine ev_eq (Option.bind_assoc _ _ _) ?_
                refine ev_callP (am_callVN (as := [.int p3]) (o := p1) (st := [.ref p0]) cv_X0_30 dX0_makeRoom_166 kp1 rfl (am_le rfl) (am_fit (by omega) (by decide) (by decide) (by decide)) (am_no1 (fun _ => ⟨_, rfl⟩)) (t_X9_urgentOf hl kp1)) (fun v67 h67 => ?_)
                refine ev_iconst (v := 2) dX0_makeRoom_169 (by decide) ?_
                refine ev_aload_n dX0_makeRoom_170 rfl ?_
                refine ev_iload dX0_makeRoom_171 rfl ?_
                refine ev_eq (Option.bind_assoc _ _ _) ?_
                refine ev_callP (am_callVN (as := [.int x24.1]) (o := p1) (st := [.int 2, .int v67, .ref p0]) cv_X0_30 dX0_makeRoom_173 kp1 rfl (am_le rfl) (am_fit (by omega) (by decide) (by decide) (by decide)) (am_no1 (fun _ => ⟨_, rfl⟩)) (t_X9_urgentOf hl kp1)) (fun v68 h68 => ?_)
                refine ev_imul dX0_makeRoom_176 ?_
                refine ev_eq (Option.bind_assoc _ _ _) ?_
                refine ev_callWV (am_callV (as := [.int v67, .int (2 * v68)]) (o := p0) (st := []) cv_X0_53 dX0_makeRoom_177 kp0 rfl (am_le rfl) (am_fit (by omega) (by decide) (by decide) (by decide)) (t_X0_tryWay hl kp0)) (fun σ69 h69 => ?_)
                refine ev_aload_n dX0_makeRoom_180 rfl ?_
                refine ev_eq (Option.bind_assoc _ _ _) ?_
                refine ev_getR fk_X0_18 (by decide) dX0_makeRoom_181 kp0 (fun q70 k70 r70 => ?_)
                refine ev_iload dX0_makeRoom_184 rfl ?_
                refine ev_iload dX0_makeRoom_186 rfl ?_
                refine ev_eq (Option.bind_assoc _ _ _) ?_
                refine ev_iast dX0_makeRoom_188 k70 (fun σ71 h71 => ?_)
                refine ev_aload_n dX0_makeRoom_189 rfl ?_
                refine ev_eq (Option.bind_assoc _ _ _) ?_
                refine ev_getR fk_X0_21 (by decide) dX0_makeRoom_190 kp0 (fun q72 k72 r72 => ?_)
                refine ev_iload dX0_makeRoom_193 rfl ?_
                refine ev_dup2 dX0_makeRoom_195 rfl rfl ?_
                refine ev_eq (Option.bind_assoc _ _ _) ?_
                refine ev_iald dX0_makeRoom_196 k72 (fun v73 h73 => ?_)
                refine ev_iconst (v := 1) dX0_makeRoom_197 (by decide) ?_
                refine ev_isub dX0_makeRoom_198 ?_
                refine ev_eq (Option.bind_assoc _ _ _) ?_
                refine ev_iast dX0_makeRoom_199 k72 (fun σ74 h74 => ?_)
                exact ev_leaf (am_wk (am_wk (am_wf (am_wk (am_wk (am_wf am_wn)))))) (hJ53 σ74)
          · refine ev_iinc (v := (x24.1 + 1)) dX0_makeRoom_200 (am_lt rfl) rfl rfl ?_
            refine ev_goto (tgt := 79) dX0_makeRoom_203 (by decide) ?_
            exact ev_leaf (am_wk (am_wk (am_wf (am_wk (am_wk (am_wf am_wn)))))) (hB24 ((x24.1 + 1), t53))
      · exact ev_vret dX0_makeRoom_206 rfl (by decide) (by decide) rfl
  · exact ev_vret dX0_makeRoom_18 rfl (by decide) (by decide) rfl
def f_X11_room (S : am_S) (p0 : Nat) (p1 : Int32) (p2 : Int32) (p3 : Int32) : Option (am_R) :=
  (am_thV (f_X11_needHouse S p0 p1) (fun S1 => (am_thV (f_X11_needWant S1 p0 p2) (fun S2 => ((am_rd S2.2 p0 3 109).bind (fun q3 => ((f_X9_wordFor S2 q3 p1 p2).bind (fun v4 => (if v4 = (-1) then ((am_rd S2.2 p0 14 100).bind (fun q6 => ((am_rd S2.2 p0 3 109).bind (fun q7 => ((f_X0_makeRoom S2 q6 q7 p1 p2).bind (fun σ8 => (if p3 = 0 then ((am_rd S2.2 p0 14 100).bind (fun q10 => some (.inl (some (.int (σ8 q10 4))), (σ8, S2.2)))) else ((am_rd S2.2 p0 14 100).bind (fun q11 => some (.inl (some (.int (σ8 q11 5))), (σ8, S2.2))))))))))) else some (.inr 1, S2))))))))))
set_option maxRecDepth 20000 in
theorem t_X11_room {E : am_E} {l : Launch} (hl : l.stackTraces = false) {S : am_S} {p0 : Nat} {p1 : Int32} {p2 : Int32} {p3 : Int32} (kp0 : am_kd p0 = 111) : am_M E l yX11_room (.code yX11_room cX11_room 4 (some .int)) 63 3 18 [.ref p0, .int p1, .int p2, .int p3] S (f_X11_room S p0 p1 p2 p3) := by
  refine am_M_id (am_M_of (w := fun x => x) hl (by decide) (am_fc rfl (am_fc rfl (am_fc rfl (am_fc rfl am_fn)))) (Nat.le_of_ble_eq_true rfl) ?_)
  show am_Ev E l (RX11, cX11_room, 4, (some .int), [], am_rm 63 3 18) (am_Z E 3 18) 0 0 0 [some (.ref p0), some (.int p1), some (.int p2), some (.int p3)] [] S (f_X11_room S p0 p1 p2 p3)
  unfold f_X11_room
  refine ev_aload_n dX11_room_0 rfl ?_
  refine ev_iload_n dX11_room_1 rfl ?_
  refine ev_callGV (am_callV (as := [.int p1]) (o := p0) (st := []) cv_X11_138 dX11_room_2 kp0 rfl (am_le rfl) (am_fit (by omega) (by decide) (by decide) (by decide)) (t_X11_needHouse hl kp0)) rfl (by decide) (by decide) (fun S1 h1 => ?_)
  refine ev_aload_n dX11_room_5 rfl ?_
  refine ev_iload_n dX11_room_6 rfl ?_
  refine ev_callGV (am_callV (as := [.int p2]) (o := p0) (st := []) cv_X11_165 dX11_room_7 kp0 rfl (am_le rfl) (am_fit (by omega) (by decide) (by decide) (by decide)) (t_X11_needWant hl kp0)) rfl (by decide) (by decide) (fun S2 h2 => ?_)
  refine ev_aload_n dX11_room_10 rfl ?_
  refine ev_getR fk_X11_20 (by decide) dX11_room_11 kp0 (fun q3 k3 r3 => ?_)
  refine ev_iload_n dX11_room_14 rfl ?_
  refine ev_iload_n dX11_room_15 rfl ?_
  refine ev_callP (am_callVN (as := [.int p1, .int p2]) (o := q3) (st := []) cv_X11_171 dX11_room_16 k3 rfl (am_le rfl) (am_fit (by omega) (by decide) (by decide) (by decide)) (am_no1 (fun _ => ⟨_, rfl⟩)) (t_X9_wordFor hl k3)) (fun v4 h4 => ?_)
  refine ev_iconst (v := (-1)) dX11_room_19 (by decide) ?_
  refine ev_icmp_eq (tgt := 34) dX11_room_20 (by decide) (fun c5 => ?_) (fun c5 => ?_)
  · refine ev_aload_n dX11_room_34 rfl ?_
    refine ev_getR fk_X11_79 (by decide) dX11_room_35 kp0 (fun q6 k6 r6 => ?_)
    refine ev_aload_n dX11_room_38 rfl ?_
    refine ev_getR fk_X11_20 (by decide) dX11_room_39 kp0 (fun q7 k7 r7 => ?_)
    refine ev_iload_n dX11_room_42 rfl ?_
    refine ev_iload_n dX11_room_43 rfl ?_
    refine ev_callWV (am_callVN (as := [.ref q7, .int p1, .int p2]) (o := q6) (st := []) cv_X11_291 dX11_room_44 k6 rfl (am_le rfl) (am_fit (by omega) (by decide) (by decide) (by decide)) (am_no1 (fun _ => ⟨_, rfl⟩)) (t_X0_makeRoom hl k6 k7)) (fun σ8 h8 => ?_)
    refine ev_iload_n dX11_room_47 rfl ?_
    refine ev_if_eq (tgt := 61) dX11_room_48 (by decide) (fun c9 => ?_) (fun c9 => ?_)
    · refine ev_aload_n dX11_room_61 rfl ?_
      refine ev_getR fk_X11_79 (by decide) dX11_room_62 kp0 (fun q10 k10 r10 => ?_)
      refine ev_getN fk_X11_297 dX11_room_65 k10 (am_fvI (by decide)) ?_
      exact ev_iret dX11_room_68 rfl rfl (by decide) (by decide) rfl
    · refine ev_aload_n dX11_room_51 rfl ?_
      refine ev_getR fk_X11_79 (by decide) dX11_room_52 kp0 (fun q11 k11 r11 => ?_)
      refine ev_getN fk_X11_294 dX11_room_55 k11 (am_fvI (by decide)) ?_
      refine ev_goto (tgt := 68) dX11_room_58 (by decide) ?_
      exact ev_iret dX11_room_68 rfl rfl (by decide) (by decide) rfl
  · exact ev_throwW (k := 1) tk_105_109 (tx := "the house has a word for it") (t := 37) (by decide +kernel) dX11_room_23 dX11_room_26 dX11_room_27 dX11_room_30 dX11_room_33 rfl (by decide) ⟨by decide, by decide, by decide, by decide⟩ (by decide) (by decide)
def f_X3_isWantRead_b25 (S : am_S) (a0 : Nat) (a1 : Int32) (x4 : Int32) : Option ((Int32) ⊕ (Int32)) :=
  (if x4 < (S.1 a0 7) then (if x4 < 3 then ((am_rd S.2 a0 2 1).bind (fun q7 => ((am_ld S.1 q7 x4).bind (fun v8 => (if v8 = a1 then some (.inr x4) else some (.inl (x4 + 1))))))) else some (.inr x4)) else some (.inr x4))
def f_X3_isWantRead (S : am_S) (p0 : Nat) (p1 : Int32) : Option (Int32 × (Nat → Nat → Int32)) :=
  (if p1 < 65 then some (0, S.1) else (if 90 < p1 then some (0, S.1) else (if (S.1 p0 6) < 6 then ((am_loop (f_X3_isWantRead_b25 S p0 p1) am_fuel 0).bind (fun t4 => (if t4 < 3 then ((am_rd S.2 p0 2 1).bind (fun q16 => ((am_st S.1 q16 t4 p1).bind (fun σ17 => ((f_J9_max_7cf53 (σ17 p0 7) (t4 + 1)).bind (fun v18 => ((am_rd S.2 p0 1 1).bind (fun q19 => ((am_st (am_u2 σ17 p0 7 v18) q19 ((am_u2 σ17 p0 7 v18) p0 6) t4).bind (fun σ20 => some (1, (am_u2 σ20 p0 6 ((σ20 p0 6) + 1))))))))))))) else some (0, S.1)))) else some (0, S.1))))
set_option maxRecDepth 20000 in
theorem t_X3_isWantRead {E : am_E} {l : Launch} (hl : l.stackTraces = false) {S : am_S} {p0 : Nat} {p1 : Int32} (kp0 : am_kd p0 = 103) : am_M E l yX3_isWantRead (.code yX3_isWantRead cX3_isWantRead 3 (some .boolean)) 1 0 0 [.ref p0, .int p1] S ((f_X3_isWantRead S p0 p1).map (fun (x : Int32 × (Nat → Nat → Int32)) => ((.inl (some (.int x.1)), (x.2, S.2)) : am_R))) := by
  refine am_M_of (w := fun (x : Int32 × (Nat → Nat → Int32)) => ((.inl (some (.int x.1)), (x.2, S.2)) : am_R)) hl (by decide) (am_fc rfl (am_fc rfl am_fn)) (Nat.le_of_ble_eq_true rfl) ?_
  show am_Ev E l (RX3, cX3_isWantRead, 3, (some .boolean), [], am_rm 1 0 0) (fun b a s x => am_Z E 0 0 b a s ((fun (x : Int32 × (Nat → Nat → Int32)) => ((.inl (some (.int x.1)), (x.2, S.2)) : am_R)) x)) 0 0 0 [some (.ref p0), some (.int p1), none] [] S (f_X3_isWantRead S p0 p1)
  unfold f_X3_isWantRead
  refine ev_iload_n dX3_isWantRead_0 rfl ?_
  refine ev_bipush (v := 65) dX3_isWantRead_1 (by decide) ?_
  refine ev_icmp_lt (tgt := 21) dX3_isWantRead_3 (by decide) (fun c1 => ?_) (fun c1 => ?_)
  · refine ev_iconst (v := 0) dX3_isWantRead_21 (by decide) ?_
    exact ev_iret dX3_isWantRead_22 rfl (by decide) (by decide) (by decide) rfl
  · refine ev_iload_n dX3_isWantRead_6 rfl ?_
    refine ev_bipush (v := 90) dX3_isWantRead_7 (by decide) ?_
    refine ev_icmp_gt (tgt := 21) dX3_isWantRead_9 (by decide) (fun c2 => ?_) (fun c2 => ?_)
    · refine ev_iconst (v := 0) dX3_isWantRead_21 (by decide) ?_
      exact ev_iret dX3_isWantRead_22 rfl (by decide) (by decide) (by decide) rfl
    · refine ev_aload_n dX3_isWantRead_12 rfl ?_
      refine ev_get fk_X3_31 dX3_isWantRead_13 kp0 (am_fvI (by decide)) ?_
      refine ev_bipush (v := 6) dX3_isWantRead_16 (by decide) ?_
      refine ev_icmp_lt (tgt := 23) dX3_isWantRead_18 (by decide) (fun c3 => ?_) (fun c3 => ?_)
      · refine ev_iconst (v := 0) dX3_isWantRead_23 (by decide) ?_
        refine ev_istore_n dX3_isWantRead_24 (am_lt rfl) ?_
        refine ev_weak (am_wk (am_wk (am_wk am_wn))) (ev_loop 25 54 (fun x4 : Int32 => [some (.ref p0), some (.int p1), some (.int x4)]) (fun t4 : Int32 => [some (.ref p0), some (.int p1), some (.int t4)]) (fun x4 => S) (fun t4 => S) (fun x4 G4 hB4 hE4 => ?_) (fun t4 => ?_) am_fuel 0)
        · unfold f_X3_isWantRead_b25
          refine ev_iload_n dX3_isWantRead_25 rfl ?_
          refine ev_aload_n dX3_isWantRead_26 rfl ?_
          refine ev_get fk_X3_34 dX3_isWantRead_27 kp0 (am_fvI (by decide)) ?_
          refine ev_eq am_ib ?_
          refine ev_icmp_ge (tgt := 54) dX3_isWantRead_30 (by decide) (fun c10 => ?_) (fun c10 => ?_)
          · exact ev_leaf (am_wk (am_wk (am_wk am_wn))) (hE4 x4)
          · refine ev_iload_n dX3_isWantRead_33 rfl ?_
            refine ev_iconst (v := 3) dX3_isWantRead_34 (by decide) ?_
            refine ev_eq am_ib ?_
            refine ev_icmp_ge (tgt := 54) dX3_isWantRead_35 (by decide) (fun c11 => ?_) (fun c11 => ?_)
            · exact ev_leaf (am_wk (am_wk (am_wk am_wn))) (hE4 x4)
            · refine ev_aload_n dX3_isWantRead_38 rfl ?_
              refine ev_eq (Option.bind_assoc _ _ _) ?_
              refine ev_getR fk_X3_18 (by decide) dX3_isWantRead_39 kp0 (fun q12 k12 r12 => ?_)
              refine ev_iload_n dX3_isWantRead_42 rfl ?_
              refine ev_eq (Option.bind_assoc _ _ _) ?_
              refine ev_iald dX3_isWantRead_43 k12 (fun v13 h13 => ?_)
              refine ev_iload_n dX3_isWantRead_44 rfl ?_
              refine ev_eq am_ib ?_
              refine ev_icmp_eq (tgt := 54) dX3_isWantRead_45 (by decide) (fun c14 => ?_) (fun c14 => ?_)
              · exact ev_leaf (am_wk (am_wk (am_wk am_wn))) (hE4 x4)
              · refine ev_iinc (v := (x4 + 1)) dX3_isWantRead_48 (am_lt rfl) rfl rfl ?_
                refine ev_goto (tgt := 25) dX3_isWantRead_51 (by decide) ?_
                exact ev_leaf (am_wk (am_wk (am_wk am_wn))) (hB4 (x4 + 1))
        · refine ev_iload_n dX3_isWantRead_54 rfl ?_
          refine ev_iconst (v := 3) dX3_isWantRead_55 (by decide) ?_
          refine ev_icmp_lt (tgt := 61) dX3_isWantRead_56 (by decide) (fun c15 => ?_) (fun c15 => ?_)
          · refine ev_aload_n dX3_isWantRead_61 rfl ?_
            refine ev_getR fk_X3_18 (by decide) dX3_isWantRead_62 kp0 (fun q16 k16 r16 => ?_)
            refine ev_iload_n dX3_isWantRead_65 rfl ?_
            refine ev_iload_n dX3_isWantRead_66 rfl ?_
            refine ev_iast dX3_isWantRead_67 k16 (fun σ17 h17 => ?_)
            refine ev_aload_n dX3_isWantRead_68 rfl ?_
            refine ev_aload_n dX3_isWantRead_69 rfl ?_
            refine ev_get fk_X3_34 dX3_isWantRead_70 kp0 (am_fvI (by decide)) ?_
            refine ev_iload_n dX3_isWantRead_73 rfl ?_
            refine ev_iconst (v := 1) dX3_isWantRead_74 (by decide) ?_
            refine ev_iadd dX3_isWantRead_75 ?_
            refine ev_callP (am_callS (as := [.int (σ17 p0 7), .int (t4 + 1)]) (st := [.ref p0]) ct_X3_47 dX3_isWantRead_76 rfl (am_le rfl) (am_fit (by omega) (by decide) (by decide) (by decide)) (t_J9_max_7cf53 hl )) (fun v18 h18 => ?_)
            refine ev_putI fk_X3_34 tyX3 tyX3_ok nmX3 rfl (by decide +kernel) (by decide) dX3_isWantRead_79 kp0 ?_
            refine ev_aload_n dX3_isWantRead_82 rfl ?_
            refine ev_getR fk_X3_15 (by decide) dX3_isWantRead_83 kp0 (fun q19 k19 r19 => ?_)
            refine ev_aload_n dX3_isWantRead_86 rfl ?_
            refine ev_get fk_X3_31 dX3_isWantRead_87 kp0 (am_fvI (by decide)) ?_
            refine ev_iload_n dX3_isWantRead_90 rfl ?_
            refine ev_iast dX3_isWantRead_91 k19 (fun σ20 h20 => ?_)
            refine ev_aload_n dX3_isWantRead_92 rfl ?_
            refine ev_dup dX3_isWantRead_93 rfl ?_
            refine ev_get fk_X3_31 dX3_isWantRead_94 kp0 (am_fvI (by decide)) ?_
            refine ev_iconst (v := 1) dX3_isWantRead_97 (by decide) ?_
            refine ev_iadd dX3_isWantRead_98 ?_
            refine ev_putI fk_X3_31 tyX3 tyX3_ok nmX3 rfl (by decide +kernel) (by decide) dX3_isWantRead_99 kp0 ?_
            refine ev_iconst (v := 1) dX3_isWantRead_102 (by decide) ?_
            exact ev_iret dX3_isWantRead_103 rfl (by decide) (by decide) (by decide) rfl
          · refine ev_iconst (v := 0) dX3_isWantRead_59 (by decide) ?_
            exact ev_iret dX3_isWantRead_60 rfl (by decide) (by decide) (by decide) rfl
      · refine ev_iconst (v := 0) dX3_isWantRead_21 (by decide) ?_
        exact ev_iret dX3_isWantRead_22 rfl (by decide) (by decide) (by decide) rfl
def f_X3_readRows_b22 (S : am_S) (a0 : Nat) (a1 : Nat) (a3 : Int32) (x2 : (Nat → Nat → Int32)) : Option (((Nat → Nat → Int32)) ⊕ ((Nat → Nat → Int32))) :=
  (if (x2 a0 5) < a3 then (if (x2 a0 5) < 20 then ((am_ld x2 a1 (x2 a0 5)).bind (fun v5 => (if v5 = 97 then ((am_rd S.2 a0 0 1).bind (fun q7 => ((am_ld x2 a1 (x2 a0 5)).bind (fun v8 => ((am_st x2 q7 (x2 a0 5) (v8 - 97)).bind (fun σ9 => some (.inl (am_u2 σ9 a0 5 ((σ9 a0 5) + 1))))))))) else ((am_ld x2 a1 (x2 a0 5)).bind (fun v10 => (if v10 = 98 then ((am_rd S.2 a0 0 1).bind (fun q12 => ((am_ld x2 a1 (x2 a0 5)).bind (fun v13 => ((am_st x2 q12 (x2 a0 5) (v13 - 97)).bind (fun σ14 => some (.inl (am_u2 σ14 a0 5 ((σ14 a0 5) + 1))))))))) else some (.inr x2))))))) else some (.inr x2)) else some (.inr x2))
def f_X3_readRows_b128 (S : am_S) (a0 : Nat) (a1 : Nat) (a3 : Int32) (x31 : Int32 × (Nat → Nat → Int32)) : Option ((Int32 × (Nat → Nat → Int32)) ⊕ (((Nat → Nat → Int32)) ⊕ (Int32 × (Nat → Nat → Int32)))) :=
  (if x31.1 < a3 then ((am_ld x31.2 a1 x31.1).bind (fun v33 => ((f_X3_isWantRead (x31.2, S.2) a0 v33).bind (fun y34 => (if y34.1 = 0 then some (.inr (.inr (0, y34.2))) else some (.inl ((x31.1 + 1), y34.2))))))) else some (.inr (.inl x31.2)))
def f_X3_readRows (S : am_S) (p0 : Nat) (p1 : Nat) (p2 : Int32) : Option (Int32 × (Nat → Nat → Int32)) :=
  ((f_J9_min_7cf53 p2 (Int32.ofNat (am_ln p1))).bind (fun v1 => ((am_loop (f_X3_readRows_b22 ((am_u2 (am_u2 (am_u2 S.1 p0 5 0) p0 6 0) p0 7 0), S.2) p0 p1 v1) am_fuel (am_u2 (am_u2 (am_u2 S.1 p0 5 0) p0 6 0) p0 7 0)).bind (fun t2 => (if (t2 p0 5) = 0 then some (0, t2) else (if (t2 p0 5) < v1 then ((am_ld t2 p1 (t2 p0 5)).bind (fun v29 => (if v29 = 32 then ((am_loop (f_X3_readRows_b128 (t2, S.2) p0 p1 v1) am_fuel (((t2 p0 5) + 1), t2)).bind (fun r31 => match r31 with | .inl t31 => (if 0 < (t31 p0 6) then some (1, t31) else some (0, t31)) | .inr b31 => some b31)) else some (0, t2)))) else some (0, t2)))))))
set_option maxRecDepth 20000 in
theorem t_X3_readRows {E : am_E} {l : Launch} (hl : l.stackTraces = false) {S : am_S} {p0 : Nat} {p1 : Nat} {p2 : Int32} (kp0 : am_kd p0 = 103) (kp1 : am_kd p1 = 2) : am_M E l yX3_readRows (.code yX3_readRows cX3_readRows 5 (some .boolean)) 2 0 0 [.ref p0, .ref p1, .int p2] S ((f_X3_readRows S p0 p1 p2).map (fun (x : Int32 × (Nat → Nat → Int32)) => ((.inl (some (.int x.1)), (x.2, S.2)) : am_R))) := by
  refine am_M_of (w := fun (x : Int32 × (Nat → Nat → Int32)) => ((.inl (some (.int x.1)), (x.2, S.2)) : am_R)) hl (by decide) (am_fc rfl (am_fc rfl (am_fc rfl am_fn))) (Nat.le_of_ble_eq_true rfl) ?_
  show am_Ev E l (RX3, cX3_readRows, 5, (some .boolean), [], am_rm 2 0 0) (fun b a s x => am_Z E 0 0 b a s ((fun (x : Int32 × (Nat → Nat → Int32)) => ((.inl (some (.int x.1)), (x.2, S.2)) : am_R)) x)) 0 0 0 [some (.ref p0), some (.ref p1), some (.int p2), none, none] [] S (f_X3_readRows S p0 p1 p2)
  unfold f_X3_readRows
  refine ev_aload_n dX3_readRows_0 rfl ?_
  refine ev_iconst (v := 0) dX3_readRows_1 (by decide) ?_
  refine ev_putI fk_X3_27 tyX3 tyX3_ok nmX3 rfl (by decide +kernel) (by decide) dX3_readRows_2 kp0 ?_
  refine ev_aload_n dX3_readRows_5 rfl ?_
  refine ev_iconst (v := 0) dX3_readRows_6 (by decide) ?_
  refine ev_putI fk_X3_31 tyX3 tyX3_ok nmX3 rfl (by decide +kernel) (by decide) dX3_readRows_7 kp0 ?_
  refine ev_aload_n dX3_readRows_10 rfl ?_
  refine ev_iconst (v := 0) dX3_readRows_11 (by decide) ?_
  refine ev_putI fk_X3_34 tyX3 tyX3_ok nmX3 rfl (by decide +kernel) (by decide) dX3_readRows_12 kp0 ?_
  refine ev_iload_n dX3_readRows_15 rfl ?_
  refine ev_aload_n dX3_readRows_16 rfl ?_
  refine ev_alen dX3_readRows_17 kp1 (by decide) (by decide) ?_
  refine ev_callP (am_callS (as := [.int p2, .int (Int32.ofNat (am_ln p1))]) (st := []) ct_X3_37 dX3_readRows_18 rfl (am_le rfl) (am_fit (by omega) (by decide) (by decide) (by decide)) (t_J9_min_7cf53 hl )) (fun v1 h1 => ?_)
  refine ev_istore_n dX3_readRows_21 (am_lt rfl) ?_
  refine ev_weak (am_wk (am_wk (am_wf (am_wk (am_wf am_wn))))) (ev_loop 22 92 (fun x2 : (Nat → Nat → Int32) => [some (.ref p0), some (.ref p1), none, some (.int v1), none]) (fun t2 : (Nat → Nat → Int32) => [some (.ref p0), some (.ref p1), none, some (.int v1), none]) (fun x2 => (x2, S.2)) (fun t2 => (t2, S.2)) (fun x2 G2 hB2 hE2 => ?_) (fun t2 => ?_) am_fuel (am_u2 (am_u2 (am_u2 S.1 p0 5 0) p0 6 0) p0 7 0))
  · unfold f_X3_readRows_b22
    refine ev_aload_n dX3_readRows_22 rfl ?_
    refine ev_get fk_X3_27 dX3_readRows_23 kp0 (am_fvI (by decide)) ?_
    refine ev_iload_n dX3_readRows_26 rfl ?_
    refine ev_eq am_ib ?_
    refine ev_icmp_ge (tgt := 92) dX3_readRows_27 (by decide) (fun c15 => ?_) (fun c15 => ?_)
    · exact ev_leaf (am_wk (am_wk (am_wf (am_wk (am_wf am_wn))))) (hE2 x2)
    · refine ev_aload_n dX3_readRows_30 rfl ?_
      refine ev_get fk_X3_27 dX3_readRows_31 kp0 (am_fvI (by decide)) ?_
      refine ev_bipush (v := 20) dX3_readRows_34 (by decide) ?_
      refine ev_eq am_ib ?_
      refine ev_icmp_ge (tgt := 92) dX3_readRows_36 (by decide) (fun c16 => ?_) (fun c16 => ?_)
      · exact ev_leaf (am_wk (am_wk (am_wf (am_wk (am_wf am_wn))))) (hE2 x2)
      · refine ev_aload_n dX3_readRows_39 rfl ?_
        refine ev_aload_n dX3_readRows_40 rfl ?_
        refine ev_get fk_X3_27 dX3_readRows_41 kp0 (am_fvI (by decide)) ?_
        refine ev_eq (Option.bind_assoc _ _ _) ?_
        refine ev_bald dX3_readRows_44 kp1 (fun v17 h17 => ?_)
        refine ev_bipush (v := 97) dX3_readRows_45 (by decide) ?_
        refine ev_eq am_ib ?_
        refine ev_icmp_eq (tgt := 61) dX3_readRows_47 (by decide) (fun c18 => ?_) (fun c18 => ?_)
        · refine ev_aload_n dX3_readRows_61 rfl ?_
          refine ev_eq (Option.bind_assoc _ _ _) ?_
          refine ev_getR fk_X3_11 (by decide) dX3_readRows_62 kp0 (fun q19 k19 r19 => ?_)
          refine ev_aload_n dX3_readRows_65 rfl ?_
          refine ev_get fk_X3_27 dX3_readRows_66 kp0 (am_fvI (by decide)) ?_
          refine ev_aload_n dX3_readRows_69 rfl ?_
          refine ev_aload_n dX3_readRows_70 rfl ?_
          refine ev_get fk_X3_27 dX3_readRows_71 kp0 (am_fvI (by decide)) ?_
          refine ev_eq (Option.bind_assoc _ _ _) ?_
          refine ev_bald dX3_readRows_74 kp1 (fun v20 h20 => ?_)
          refine ev_bipush (v := 97) dX3_readRows_75 (by decide) ?_
          refine ev_isub dX3_readRows_77 ?_
          refine ev_eq (Option.bind_assoc _ _ _) ?_
          refine ev_iast dX3_readRows_78 k19 (fun σ21 h21 => ?_)
          refine ev_aload_n dX3_readRows_79 rfl ?_
          refine ev_dup dX3_readRows_80 rfl ?_
          refine ev_get fk_X3_27 dX3_readRows_81 kp0 (am_fvI (by decide)) ?_
          refine ev_iconst (v := 1) dX3_readRows_84 (by decide) ?_
          refine ev_iadd dX3_readRows_85 ?_
          refine ev_putI fk_X3_27 tyX3 tyX3_ok nmX3 rfl (by decide +kernel) (by decide) dX3_readRows_86 kp0 ?_
          refine ev_goto (tgt := 22) dX3_readRows_89 (by decide) ?_
          exact ev_leaf (am_wk (am_wk (am_wf (am_wk (am_wf am_wn))))) (hB2 (am_u2 σ21 p0 5 ((σ21 p0 5) + 1)))
        · refine ev_aload_n dX3_readRows_50 rfl ?_
          refine ev_aload_n dX3_readRows_51 rfl ?_
          refine ev_get fk_X3_27 dX3_readRows_52 kp0 (am_fvI (by decide)) ?_
          refine ev_eq (Option.bind_assoc _ _ _) ?_
          refine ev_bald dX3_readRows_55 kp1 (fun v22 h22 => ?_)
          refine ev_bipush (v := 98) dX3_readRows_56 (by decide) ?_
          refine ev_eq am_ib ?_
          refine ev_icmp_ne (tgt := 92) dX3_readRows_58 (by decide) (fun c23 => ?_) (fun c23 => ?_)
          · exact ev_leaf (am_wk (am_wk (am_wf (am_wk (am_wf am_wn))))) (hE2 x2)
          · refine ev_aload_n dX3_readRows_61 rfl ?_
            refine ev_eq (Option.bind_assoc _ _ _) ?_
            refine ev_getR fk_X3_11 (by decide) dX3_readRows_62 kp0 (fun q24 k24 r24 => ?_)
            refine ev_aload_n dX3_readRows_65 rfl ?_
            refine ev_get fk_X3_27 dX3_readRows_66 kp0 (am_fvI (by decide)) ?_
            refine ev_aload_n dX3_readRows_69 rfl ?_
            refine ev_aload_n dX3_readRows_70 rfl ?_
            refine ev_get fk_X3_27 dX3_readRows_71 kp0 (am_fvI (by decide)) ?_
            refine ev_eq (Option.bind_assoc _ _ _) ?_
            refine ev_bald dX3_readRows_74 kp1 (fun v25 h25 => ?_)
            refine ev_bipush (v := 97) dX3_readRows_75 (by decide) ?_
            refine ev_isub dX3_readRows_77 ?_
            refine ev_eq (Option.bind_assoc _ _ _) ?_
            refine ev_iast dX3_readRows_78 k24 (fun σ26 h26 => ?_)
            refine ev_aload_n dX3_readRows_79 rfl ?_
            refine ev_dup dX3_readRows_80 rfl ?_
            refine ev_get fk_X3_27 dX3_readRows_81 kp0 (am_fvI (by decide)) ?_
            refine ev_iconst (v := 1) dX3_readRows_84 (by decide) ?_
            refine ev_iadd dX3_readRows_85 ?_
            refine ev_putI fk_X3_27 tyX3 tyX3_ok nmX3 rfl (by decide +kernel) (by decide) dX3_readRows_86 kp0 ?_
            refine ev_goto (tgt := 22) dX3_readRows_89 (by decide) ?_
            exact ev_leaf (am_wk (am_wk (am_wf (am_wk (am_wf am_wn))))) (hB2 (am_u2 σ26 p0 5 ((σ26 p0 5) + 1)))
  · refine ev_aload_n dX3_readRows_92 rfl ?_
    refine ev_get fk_X3_27 dX3_readRows_93 kp0 (am_fvI (by decide)) ?_
    refine ev_if_eq (tgt := 118) dX3_readRows_96 (by decide) (fun c27 => ?_) (fun c27 => ?_)
    · refine ev_iconst (v := 0) dX3_readRows_118 (by decide) ?_
      exact ev_iret dX3_readRows_119 rfl (by decide) (by decide) (by decide) rfl
    · refine ev_aload_n dX3_readRows_99 rfl ?_
      refine ev_get fk_X3_27 dX3_readRows_100 kp0 (am_fvI (by decide)) ?_
      refine ev_iload_n dX3_readRows_103 rfl ?_
      refine ev_icmp_ge (tgt := 118) dX3_readRows_104 (by decide) (fun c28 => ?_) (fun c28 => ?_)
      · refine ev_iconst (v := 0) dX3_readRows_118 (by decide) ?_
        exact ev_iret dX3_readRows_119 rfl (by decide) (by decide) (by decide) rfl
      · refine ev_aload_n dX3_readRows_107 rfl ?_
        refine ev_aload_n dX3_readRows_108 rfl ?_
        refine ev_get fk_X3_27 dX3_readRows_109 kp0 (am_fvI (by decide)) ?_
        refine ev_bald dX3_readRows_112 kp1 (fun v29 h29 => ?_)
        refine ev_bipush (v := 32) dX3_readRows_113 (by decide) ?_
        refine ev_icmp_eq (tgt := 120) dX3_readRows_115 (by decide) (fun c30 => ?_) (fun c30 => ?_)
        · refine ev_aload_n dX3_readRows_120 rfl ?_
          refine ev_get fk_X3_27 dX3_readRows_121 kp0 (am_fvI (by decide)) ?_
          refine ev_iconst (v := 1) dX3_readRows_124 (by decide) ?_
          refine ev_iadd dX3_readRows_125 ?_
          refine ev_istore dX3_readRows_126 (am_lt rfl) ?_
          refine ev_weak (am_wk (am_wk (am_wf (am_wk (am_wk am_wn))))) (ev_loopR 128 153 (fun x31 : Int32 × (Nat → Nat → Int32) => [some (.ref p0), some (.ref p1), none, some (.int v1), some (.int x31.1)]) (fun t31 : (Nat → Nat → Int32) => [some (.ref p0), none, none, none, none]) (fun x31 => (x31.2, S.2)) (fun t31 => (t31, S.2)) (fun x31 G31 hB31 hE31 hG31 => ?_) (fun t31 => ?_) am_fuel (((t2 p0 5) + 1), t2))
          · unfold f_X3_readRows_b128
            refine ev_iload dX3_readRows_128 rfl ?_
            refine ev_iload_n dX3_readRows_130 rfl ?_
            refine ev_eq am_ib ?_
            refine ev_icmp_ge (tgt := 153) dX3_readRows_131 (by decide) (fun c36 => ?_) (fun c36 => ?_)
            · exact ev_leaf (am_wk (am_wf (am_wf (am_wf (am_wf am_wn))))) (hE31 x31.2)
            · refine ev_aload_n dX3_readRows_134 rfl ?_
              refine ev_aload_n dX3_readRows_135 rfl ?_
              refine ev_iload dX3_readRows_136 rfl ?_
              refine ev_eq (Option.bind_assoc _ _ _) ?_
              refine ev_bald dX3_readRows_138 kp1 (fun v37 h37 => ?_)
              refine ev_eq (Option.bind_assoc _ _ _) ?_
              refine ev_callWI (am_callV (as := [.int v37]) (o := p0) (st := []) cv_X3_43 dX3_readRows_139 kp0 rfl (am_le rfl) (am_fit (by omega) (by decide) (by decide) (by decide)) (t_X3_isWantRead hl kp0)) (fun y38 h38 => ?_)
              refine ev_eq am_ib ?_
              refine ev_if_ne (tgt := 147) dX3_readRows_142 (by decide) (fun c39 => ?_) (fun c39 => ?_)
              · refine ev_iinc (v := (x31.1 + 1)) dX3_readRows_147 (am_lt rfl) rfl rfl ?_
                refine ev_goto (tgt := 128) dX3_readRows_150 (by decide) ?_
                exact ev_leaf (am_wk (am_wk (am_wf (am_wk (am_wk am_wn))))) (hB31 ((x31.1 + 1), y38.2))
              · refine ev_iconst (v := 0) dX3_readRows_145 (by decide) ?_
                exact ev_eq (hG31 _) (ev_iret dX3_readRows_146 rfl (by decide) (by decide) (by decide) rfl)
          · refine ev_aload_n dX3_readRows_153 rfl ?_
            refine ev_get fk_X3_31 dX3_readRows_154 kp0 (am_fvI (by decide)) ?_
            refine ev_if_le (tgt := 164) dX3_readRows_157 (by decide) (fun c40 => ?_) (fun c40 => ?_)
            · refine ev_iconst (v := 0) dX3_readRows_164 (by decide) ?_
              exact ev_iret dX3_readRows_165 rfl (by decide) (by decide) (by decide) rfl
            · refine ev_iconst (v := 1) dX3_readRows_160 (by decide) ?_
              refine ev_goto (tgt := 165) dX3_readRows_161 (by decide) ?_
              exact ev_iret dX3_readRows_165 rfl (by decide) (by decide) (by decide) rfl
        · refine ev_iconst (v := 0) dX3_readRows_118 (by decide) ?_
          exact ev_iret dX3_readRows_119 rfl (by decide) (by decide) (by decide) rfl
def f_X3_keepWay (S : am_S) (p0 : Nat) : Option ((Nat → Nat → Int32)) :=
  ((if (S.1 p0 8) = 0 then ((am_rd S.2 p0 3 1).bind (fun q2 => ((am_rd S.2 p0 4 1).bind (fun q3 => ((am_cp S.1 q2 0 q3 0 3).bind (fun σ4 => some σ4)))))) else some S.1).bind (fun t1 => some (am_u2 t1 p0 8 ((t1 p0 8) + 1))))
set_option maxRecDepth 20000 in
theorem t_X3_keepWay {E : am_E} {l : Launch} (hl : l.stackTraces = false) {S : am_S} {p0 : Nat} (kp0 : am_kd p0 = 103) : am_M E l yX3_keepWay (.code yX3_keepWay cX3_keepWay 1 none) 1 0 0 [.ref p0] S ((f_X3_keepWay S p0).map (fun (x : Nat → Nat → Int32) => ((.inl none, (x, S.2)) : am_R))) := by
  refine am_M_of (w := fun (x : Nat → Nat → Int32) => ((.inl none, (x, S.2)) : am_R)) hl (by decide) (am_fc rfl am_fn) (Nat.le_of_ble_eq_true rfl) ?_
  show am_Ev E l (RX3, cX3_keepWay, 1, none, [], am_rm 1 0 0) (fun b a s x => am_Z E 0 0 b a s ((fun (x : Nat → Nat → Int32) => ((.inl none, (x, S.2)) : am_R)) x)) 0 0 0 [some (.ref p0)] [] S (f_X3_keepWay S p0)
  unfold f_X3_keepWay
  refine ev_aload_n dX3_keepWay_0 rfl ?_
  refine ev_get fk_X3_50 dX3_keepWay_1 kp0 (am_fvI (by decide)) ?_
  refine ev_reg (cs' := 0) (sl' := 0) 21 (fun t1 : (Nat → Nat → Int32) => [some (.ref p0)]) (fun t1 => []) (fun t1 => (t1, S.2)) (fun hJ1 => ?_) (fun t1 => ?_)
  · refine ev_eq am_ib ?_
    refine ev_if_ne (tgt := 21) dX3_keepWay_4 (by decide) (fun c1 => ?_) (fun c1 => ?_)
    · exact ev_leaf (am_wk am_wn) (hJ1 S.1)
    · refine ev_aload_n dX3_keepWay_7 rfl ?_
      refine ev_eq (Option.bind_assoc _ _ _) ?_
      refine ev_getR fk_X3_21 (by decide) dX3_keepWay_8 kp0 (fun q2 k2 r2 => ?_)
      refine ev_iconst (v := 0) dX3_keepWay_11 (by decide) ?_
      refine ev_aload_n dX3_keepWay_12 rfl ?_
      refine ev_eq (Option.bind_assoc _ _ _) ?_
      refine ev_getR fk_X3_24 (by decide) dX3_keepWay_13 kp0 (fun q3 k3 r3 => ?_)
      refine ev_iconst (v := 0) dX3_keepWay_16 (by decide) ?_
      refine ev_iconst (v := 3) dX3_keepWay_17 (by decide) ?_
      refine ev_eq (Option.bind_assoc _ _ _) ?_
      refine ev_cpyI dX3_keepWay_18 (am_G_t (i := 1293) (by decide +kernel) rfl) am_acw_in k2 k3 (by decide) (by decide) (by decide) (fun σ4 h4 => ?_)
      exact ev_leaf (am_wk am_wn) (hJ1 σ4)
  · refine ev_aload_n dX3_keepWay_21 rfl ?_
    refine ev_dup dX3_keepWay_22 rfl ?_
    refine ev_get fk_X3_50 dX3_keepWay_23 kp0 (am_fvI (by decide)) ?_
    refine ev_iconst (v := 1) dX3_keepWay_26 (by decide) ?_
    refine ev_iadd dX3_keepWay_27 ?_
    refine ev_putI fk_X3_50 tyX3 tyX3_ok nmX3 rfl (by decide +kernel) (by decide) dX3_keepWay_28 kp0 ?_
    exact ev_vret dX3_keepWay_31 rfl (by decide) (by decide) rfl
def f_X3_isNew_b2 (S : am_S) (a0 : Nat) (a1 : Int32) (a2 : Int32) (x1 : Int32) : Option ((Int32) ⊕ ((Unit) ⊕ (Int32))) :=
  (if x1 < a2 then ((am_rd S.2 a0 3 1).bind (fun q3 => ((am_ld S.1 q3 x1).bind (fun v4 => (if v4 = a1 then some (.inr (.inr 0)) else some (.inl (x1 + 1))))))) else some (.inr (.inr 1)))
def f_X3_isNew (S : am_S) (p0 : Nat) (p1 : Int32) (p2 : Int32) : Option (Int32) :=
  ((am_loop (f_X3_isNew_b2 S p0 p1 p2) am_fuel 0).bind (fun r1 => match r1 with | .inl t1 => none | .inr b1 => some b1))
set_option maxRecDepth 20000 in
theorem t_X3_isNew {E : am_E} {l : Launch} (hl : l.stackTraces = false) {S : am_S} {p0 : Nat} {p1 : Int32} {p2 : Int32} (kp0 : am_kd p0 = 103) : am_M E l yX3_isNew (.code yX3_isNew cX3_isNew 4 (some .boolean)) 0 0 0 [.ref p0, .int p1, .int p2] S ((f_X3_isNew S p0 p1 p2).map (fun (v : Int32) => ((.inl (some (.int v)), S) : am_R))) := by
  refine am_M_of (w := fun (v : Int32) => ((.inl (some (.int v)), S) : am_R)) hl (by decide) (am_fc rfl (am_fc rfl (am_fc rfl am_fn))) (Nat.le_of_ble_eq_true rfl) ?_
  show am_Ev E l (RX3, cX3_isNew, 4, (some .boolean), [], am_rm 0 0 0) (fun b a s x => am_Z E 0 0 b a s ((fun (v : Int32) => ((.inl (some (.int v)), S) : am_R)) x)) 0 0 0 [some (.ref p0), some (.int p1), some (.int p2), none] [] S (f_X3_isNew S p0 p1 p2)
  unfold f_X3_isNew
  refine ev_iconst (v := 0) dX3_isNew_0 (by decide) ?_
  refine ev_istore_n dX3_isNew_1 (am_lt rfl) ?_
  refine ev_weak (am_wk (am_wk (am_wk (am_wk am_wn)))) (ev_loopR 2 0 (fun x1 : Int32 => [some (.ref p0), some (.int p1), some (.int p2), some (.int x1)]) (fun t1 : Unit => [none, none, none, none]) (fun x1 => S) (fun t1 => S) (fun x1 G1 hB1 hE1 hG1 => ?_) (fun t1 => ?_) am_fuel 0)
  · unfold f_X3_isNew_b2
    refine ev_iload_n dX3_isNew_2 rfl ?_
    refine ev_iload_n dX3_isNew_3 rfl ?_
    refine ev_eq am_ib ?_
    refine ev_icmp_ge (tgt := 25) dX3_isNew_4 (by decide) (fun c6 => ?_) (fun c6 => ?_)
    · refine ev_iconst (v := 1) dX3_isNew_25 (by decide) ?_
      exact ev_eq (hG1 _) (ev_iret dX3_isNew_26 rfl (by decide) (by decide) (by decide) rfl)
    · refine ev_aload_n dX3_isNew_7 rfl ?_
      refine ev_eq (Option.bind_assoc _ _ _) ?_
      refine ev_getR fk_X3_21 (by decide) dX3_isNew_8 kp0 (fun q7 k7 r7 => ?_)
      refine ev_iload_n dX3_isNew_11 rfl ?_
      refine ev_eq (Option.bind_assoc _ _ _) ?_
      refine ev_iald dX3_isNew_12 k7 (fun v8 h8 => ?_)
      refine ev_iload_n dX3_isNew_13 rfl ?_
      refine ev_eq am_ib ?_
      refine ev_icmp_ne (tgt := 19) dX3_isNew_14 (by decide) (fun c9 => ?_) (fun c9 => ?_)
      · refine ev_iinc (v := (x1 + 1)) dX3_isNew_19 (am_lt rfl) rfl rfl ?_
        refine ev_goto (tgt := 2) dX3_isNew_22 (by decide) ?_
        exact ev_leaf (am_wk (am_wk (am_wk (am_wk am_wn)))) (hB1 (x1 + 1))
      · refine ev_iconst (v := 0) dX3_isNew_17 (by decide) ?_
        exact ev_eq (hG1 _) (ev_iret dX3_isNew_18 rfl (by decide) (by decide) (by decide) rfl)
  · exact ev_none
def f_X3_isFitting_b52 (S : am_S) (a0 : Nat) (a1 : Int32) (a3 : Int32) (a4 : Int32) (x12 : Int32 × Int32) : Option ((Int32 × Int32) ⊕ ((Int32) ⊕ (Int32))) :=
  (if x12.2 < 0 then some (.inr (.inl x12.1)) else (if x12.1 < (S.1 a0 5) then (if x12.1 < 20 then ((am_rd S.2 a0 0 1).bind (fun q16 => ((am_ld S.1 q16 x12.1).bind (fun v17 => (if v17 = ((a4 >>> (x12.2 &&& 31)) &&& 1) then some (.inl ((x12.1 + 1), (x12.2 + (-1)))) else some (.inr (.inr 0))))))) else some (.inr (.inr 0))) else some (.inr (.inr 0))))
def f_X3_isFitting_b4 (S : am_S) (a0 : Nat) (a1 : Int32) (x1 : Int32 × Int32) : Option ((Int32 × Int32) ⊕ ((Int32) ⊕ (Int32))) :=
  (if x1.2 < (S.1 a0 6) then (if x1.2 < 6 then ((am_rd S.2 a0 1 1).bind (fun q4 => ((am_ld S.1 q4 x1.2).bind (fun v5 => (if a1 < v5 then some (.inr (.inr 1)) else ((am_rd S.2 a0 3 1).bind (fun q7 => ((am_rd S.2 a0 1 1).bind (fun q8 => ((am_ld S.1 q8 x1.2).bind (fun v9 => ((am_ld S.1 q7 v9).bind (fun v10 => ((f_X11_strokesOf v10).bind (fun v11 => ((am_loop (f_X3_isFitting_b52 S a0 a1 x1.2 v10) am_fuel (x1.1, (v11 - 1))).bind (fun r12 => match r12 with | .inl t12 => some (.inl (t12, (x1.2 + 1))) | .inr b12 => some (.inr (.inr b12))))))))))))))))))) else some (.inr (.inl x1.1))) else some (.inr (.inl x1.1)))
def f_X3_isFitting (S : am_S) (p0 : Nat) (p1 : Int32) : Option (Int32) :=
  ((am_loop (f_X3_isFitting_b4 S p0 p1) am_fuel (0, 0)).bind (fun r1 => match r1 with | .inl t1 => (if t1 = (S.1 p0 5) then some 1 else some 0) | .inr b1 => some b1))
set_option maxRecDepth 20000 in
theorem t_X3_isFitting {E : am_E} {l : Launch} (hl : l.stackTraces = false) {S : am_S} {p0 : Nat} {p1 : Int32} (kp0 : am_kd p0 = 103) : am_M E l yX3_isFitting (.code yX3_isFitting cX3_isFitting 6 (some .boolean)) 1 0 0 [.ref p0, .int p1] S ((f_X3_isFitting S p0 p1).map (fun (v : Int32) => ((.inl (some (.int v)), S) : am_R))) := by
  refine am_M_of (w := fun (v : Int32) => ((.inl (some (.int v)), S) : am_R)) hl (by decide) (am_fc rfl (am_fc rfl am_fn)) (Nat.le_of_ble_eq_true rfl) ?_
  show am_Ev E l (RX3, cX3_isFitting, 6, (some .boolean), [], am_rm 1 0 0) (fun b a s x => am_Z E 0 0 b a s ((fun (v : Int32) => ((.inl (some (.int v)), S) : am_R)) x)) 0 0 0 [some (.ref p0), some (.int p1), none, none, none, none] [] S (f_X3_isFitting S p0 p1)
  unfold f_X3_isFitting
  refine ev_iconst (v := 0) dX3_isFitting_0 (by decide) ?_
  refine ev_istore_n dX3_isFitting_1 (am_lt rfl) ?_
  refine ev_iconst (v := 0) dX3_isFitting_2 (by decide) ?_
  refine ev_istore_n dX3_isFitting_3 (am_lt rfl) ?_
  refine ev_weak (am_wk (am_wk (am_wk (am_wk (am_wf (am_wf am_wn)))))) (ev_loopR 4 104 (fun x1 : Int32 × Int32 => [some (.ref p0), some (.int p1), some (.int x1.1), some (.int x1.2), none, none]) (fun t1 : Int32 => [some (.ref p0), none, some (.int t1), none, none, none]) (fun x1 => S) (fun t1 => S) (fun x1 G1 hB1 hE1 hG1 => ?_) (fun t1 => ?_) am_fuel (0, 0))
  · unfold f_X3_isFitting_b4
    refine ev_iload_n dX3_isFitting_4 rfl ?_
    refine ev_aload_n dX3_isFitting_5 rfl ?_
    refine ev_get fk_X3_31 dX3_isFitting_6 kp0 (am_fvI (by decide)) ?_
    refine ev_eq am_ib ?_
    refine ev_icmp_ge (tgt := 104) dX3_isFitting_9 (by decide) (fun c25 => ?_) (fun c25 => ?_)
    · exact ev_leaf (am_wk (am_wf (am_wk (am_wf (am_wf (am_wf am_wn)))))) (hE1 x1.1)
    · refine ev_iload_n dX3_isFitting_12 rfl ?_
      refine ev_bipush (v := 6) dX3_isFitting_13 (by decide) ?_
      refine ev_eq am_ib ?_
      refine ev_icmp_ge (tgt := 104) dX3_isFitting_15 (by decide) (fun c26 => ?_) (fun c26 => ?_)
      · exact ev_leaf (am_wk (am_wf (am_wk (am_wf (am_wf (am_wf am_wn)))))) (hE1 x1.1)
      · refine ev_aload_n dX3_isFitting_18 rfl ?_
        refine ev_eq (Option.bind_assoc _ _ _) ?_
        refine ev_getR fk_X3_15 (by decide) dX3_isFitting_19 kp0 (fun q27 k27 r27 => ?_)
        refine ev_iload_n dX3_isFitting_22 rfl ?_
        refine ev_eq (Option.bind_assoc _ _ _) ?_
        refine ev_iald dX3_isFitting_23 k27 (fun v28 h28 => ?_)
        refine ev_iload_n dX3_isFitting_24 rfl ?_
        refine ev_eq am_ib ?_
        refine ev_icmp_le (tgt := 30) dX3_isFitting_25 (by decide) (fun c29 => ?_) (fun c29 => ?_)
        · refine ev_aload_n dX3_isFitting_30 rfl ?_
          refine ev_eq (Option.bind_assoc _ _ _) ?_
          refine ev_getR fk_X3_21 (by decide) dX3_isFitting_31 kp0 (fun q30 k30 r30 => ?_)
          refine ev_aload_n dX3_isFitting_34 rfl ?_
          refine ev_eq (Option.bind_assoc _ _ _) ?_
          refine ev_getR fk_X3_15 (by decide) dX3_isFitting_35 kp0 (fun q31 k31 r31 => ?_)
          refine ev_iload_n dX3_isFitting_38 rfl ?_
          refine ev_eq (Option.bind_assoc _ _ _) ?_
          refine ev_iald dX3_isFitting_39 k31 (fun v32 h32 => ?_)
          refine ev_eq (Option.bind_assoc _ _ _) ?_
          refine ev_iald dX3_isFitting_40 k30 (fun v33 h33 => ?_)
          refine ev_istore dX3_isFitting_41 (am_lt rfl) ?_
          refine ev_iload dX3_isFitting_43 rfl ?_
          refine ev_eq (Option.bind_assoc _ _ _) ?_
          refine ev_callP (am_callSN (as := [.int v33]) (st := []) ct_X3_73 dX3_isFitting_45 rfl (am_le rfl) (am_fit (by omega) (by decide) (by decide) (by decide)) (am_no1 (fun _ => ⟨_, rfl⟩)) (t_X11_strokesOf hl )) (fun v34 h34 => ?_)
          refine ev_iconst (v := 1) dX3_isFitting_48 (by decide) ?_
          refine ev_isub dX3_isFitting_49 ?_
          refine ev_istore dX3_isFitting_50 (am_lt rfl) ?_
          refine ev_eq (Option.bind_assoc _ _ _) ?_
          refine ev_weak (am_wk (am_wk (am_wk (am_wk (am_wk (am_wk am_wn)))))) (ev_loopR 52 98 (fun x35 : Int32 × Int32 => [some (.ref p0), some (.int p1), some (.int x35.1), some (.int x1.2), some (.int v33), some (.int x35.2)]) (fun t35 : Int32 => [some (.ref p0), some (.int p1), some (.int t35), some (.int x1.2), none, none]) (fun x35 => S) (fun t35 => S) (fun x35 G35 hB35 hE35 hG35 => ?_) (fun t35 => ?_) am_fuel (x1.1, (v34 - 1)))
          · unfold f_X3_isFitting_b52
            refine ev_iload dX3_isFitting_52 rfl ?_
            refine ev_eq am_ib ?_
            refine ev_if_lt (tgt := 98) dX3_isFitting_54 (by decide) (fun c42 => ?_) (fun c42 => ?_)
            · exact ev_leaf (am_wk (am_wk (am_wk (am_wk (am_wf (am_wf am_wn)))))) (hE35 x35.1)
            · refine ev_iload_n dX3_isFitting_57 rfl ?_
              refine ev_aload_n dX3_isFitting_58 rfl ?_
              refine ev_get fk_X3_27 dX3_isFitting_59 kp0 (am_fvI (by decide)) ?_
              refine ev_eq am_ib ?_
              refine ev_icmp_ge (tgt := 87) dX3_isFitting_62 (by decide) (fun c43 => ?_) (fun c43 => ?_)
              · refine ev_iconst (v := 0) dX3_isFitting_87 (by decide) ?_
                exact ev_eq ((hG35 _).trans (hG1 _)) (ev_iret dX3_isFitting_88 rfl (by decide) (by decide) (by decide) rfl)
              · refine ev_iload_n dX3_isFitting_65 rfl ?_
                refine ev_bipush (v := 20) dX3_isFitting_66 (by decide) ?_
                refine ev_eq am_ib ?_
                refine ev_icmp_ge (tgt := 87) dX3_isFitting_68 (by decide) (fun c44 => ?_) (fun c44 => ?_)
                · refine ev_iconst (v := 0) dX3_isFitting_87 (by decide) ?_
                  exact ev_eq ((hG35 _).trans (hG1 _)) (ev_iret dX3_isFitting_88 rfl (by decide) (by decide) (by decide) rfl)
                · refine ev_aload_n dX3_isFitting_71 rfl ?_
                  refine ev_eq (Option.bind_assoc _ _ _) ?_
                  refine ev_getR fk_X3_11 (by decide) dX3_isFitting_72 kp0 (fun q45 k45 r45 => ?_)
                  refine ev_iload_n dX3_isFitting_75 rfl ?_
                  refine ev_eq (Option.bind_assoc _ _ _) ?_
                  refine ev_iald dX3_isFitting_76 k45 (fun v46 h46 => ?_)
                  refine ev_iload dX3_isFitting_77 rfl ?_
                  refine ev_iload dX3_isFitting_79 rfl ?_
                  refine ev_ishr dX3_isFitting_81 ?_
                  refine ev_iconst (v := 1) dX3_isFitting_82 (by decide) ?_
                  refine ev_iand dX3_isFitting_83 ?_
                  refine ev_eq am_ib ?_
                  refine ev_icmp_eq (tgt := 89) dX3_isFitting_84 (by decide) (fun c47 => ?_) (fun c47 => ?_)
                  · refine ev_iinc (v := (x35.1 + 1)) dX3_isFitting_89 (am_lt rfl) rfl rfl ?_
                    refine ev_iinc (v := (x35.2 + (-1))) dX3_isFitting_92 (am_lt rfl) rfl rfl ?_
                    refine ev_goto (tgt := 52) dX3_isFitting_95 (by decide) ?_
                    exact ev_leaf (am_wk (am_wk (am_wk (am_wk (am_wk (am_wk am_wn)))))) (hB35 ((x35.1 + 1), (x35.2 + (-1))))
                  · refine ev_iconst (v := 0) dX3_isFitting_87 (by decide) ?_
                    exact ev_eq ((hG35 _).trans (hG1 _)) (ev_iret dX3_isFitting_88 rfl (by decide) (by decide) (by decide) rfl)
          · refine ev_iinc (v := (x1.2 + 1)) dX3_isFitting_98 (am_lt rfl) rfl rfl ?_
            refine ev_goto (tgt := 4) dX3_isFitting_101 (by decide) ?_
            exact ev_leaf (am_wk (am_wk (am_wk (am_wk (am_wf (am_wf am_wn)))))) (hB1 (t35, (x1.2 + 1)))
        · refine ev_iconst (v := 1) dX3_isFitting_28 (by decide) ?_
          exact ev_eq (hG1 _) (ev_iret dX3_isFitting_29 rfl (by decide) (by decide) (by decide) rfl)
  · refine ev_iload_n dX3_isFitting_104 rfl ?_
    refine ev_aload_n dX3_isFitting_105 rfl ?_
    refine ev_get fk_X3_27 dX3_isFitting_106 kp0 (am_fvI (by decide)) ?_
    refine ev_icmp_ne (tgt := 116) dX3_isFitting_109 (by decide) (fun c48 => ?_) (fun c48 => ?_)
    · refine ev_iconst (v := 0) dX3_isFitting_116 (by decide) ?_
      exact ev_iret dX3_isFitting_117 rfl (by decide) (by decide) (by decide) rfl
    · refine ev_iconst (v := 1) dX3_isFitting_112 (by decide) ?_
      refine ev_goto (tgt := 117) dX3_isFitting_113 (by decide) ?_
      exact ev_iret dX3_isFitting_117 rfl (by decide) (by decide) (by decide) rfl
def f_X3_tryWords_b20 (rc_X3_tryWords : am_S → Nat → Int32 → Option ((Nat → Nat → Int32))) (S : am_S) (a0 : Nat) (a1 : Int32) (x4 : Int32 × (Nat → Nat → Int32)) : Option ((Int32 × (Nat → Nat → Int32)) ⊕ ((Nat → Nat → Int32))) :=
  (if 15 < x4.1 then some (.inr x4.2) else ((am_rd S.2 a0 3 1).bind (fun q6 => ((am_st x4.2 q6 a1 x4.1).bind (fun σ7 => ((f_X3_isNew (σ7, S.2) a0 x4.1 a1).bind (fun v8 => ((if v8 = 0 then some σ7 else ((f_X3_isFitting (σ7, S.2) a0 a1).bind (fun v10 => (if v10 = 0 then some σ7 else ((rc_X3_tryWords (σ7, S.2) a0 (a1 + 1)).bind (fun σ12 => some σ12)))))).bind (fun t9 => some (.inl ((x4.1 + 1), t9)))))))))))
def f_X3_tryWords_o (rc_X3_tryWords : am_S → Nat → Int32 → Option ((Nat → Nat → Int32))) (S : am_S) (p0 : Nat) (p1 : Int32) : Option ((Nat → Nat → Int32)) :=
  (if p1 < (S.1 p0 7) then (if p1 < 3 then ((am_loop (f_X3_tryWords_b20 rc_X3_tryWords S p0 p1) am_fuel (2, S.1)).bind (fun t4 => some t4)) else ((f_X3_keepWay S p0).bind (fun σ21 => some σ21))) else ((f_X3_keepWay S p0).bind (fun σ2 => some σ2)))
set_option maxRecDepth 20000 in
theorem to_X3_tryWords {E : am_E} {l : Launch} (hl : l.stackTraces = false) {d : Nat} (hD : 1 ≤ d) {rc_X3_tryWords : am_S → Nat → Int32 → Option ((Nat → Nat → Int32))}  (ht_X3_tryWords : ∀ {S : am_S} {p0 : Nat} {p1 : Int32} (kp0 : am_kd p0 = 103), am_M E l yX3_tryWords (.code yX3_tryWords cX3_tryWords 3 none) (d) 0 0 [.ref p0, .int p1] S ((rc_X3_tryWords S p0 p1).map (fun (x : Nat → Nat → Int32) => ((.inl none, (x, S.2)) : am_R)))) {S : am_S} {p0 : Nat} {p1 : Int32} (kp0 : am_kd p0 = 103) : am_M E l yX3_tryWords (.code yX3_tryWords cX3_tryWords 3 none) (d + 1) 0 0 [.ref p0, .int p1] S ((f_X3_tryWords_o rc_X3_tryWords S p0 p1).map (fun (x : Nat → Nat → Int32) => ((.inl none, (x, S.2)) : am_R))) := by
  refine am_M_of (w := fun (x : Nat → Nat → Int32) => ((.inl none, (x, S.2)) : am_R)) hl (by decide) (am_fc rfl (am_fc rfl am_fn)) (Nat.le_of_ble_eq_true rfl) ?_
  show am_Ev E l (RX3, cX3_tryWords, 3, none, [], am_rm (d + 1) 0 0) (fun b a s x => am_Z E 0 0 b a s ((fun (x : Nat → Nat → Int32) => ((.inl none, (x, S.2)) : am_R)) x)) 0 0 0 [some (.ref p0), some (.int p1), none] [] S (f_X3_tryWords_o rc_X3_tryWords S p0 p1)
  unfold f_X3_tryWords_o
  refine ev_iload_n dX3_tryWords_0 rfl ?_
  refine ev_aload_n dX3_tryWords_1 rfl ?_
  refine ev_get fk_X3_34 dX3_tryWords_2 kp0 (am_fvI (by decide)) ?_
  refine ev_icmp_ge (tgt := 13) dX3_tryWords_5 (by decide) (fun c1 => ?_) (fun c1 => ?_)
  · refine ev_aload_n dX3_tryWords_13 rfl ?_
    refine ev_callWV (am_callV (as := []) (o := p0) (st := []) cv_X3_57 dX3_tryWords_14 kp0 rfl (am_le rfl) (am_fit (by omega) (by decide) (by decide) (by decide)) (t_X3_keepWay hl kp0)) (fun σ2 h2 => ?_)
    exact ev_vret dX3_tryWords_17 rfl (by decide) (by decide) rfl
  · refine ev_iload_n dX3_tryWords_8 rfl ?_
    refine ev_iconst (v := 3) dX3_tryWords_9 (by decide) ?_
    refine ev_icmp_lt (tgt := 18) dX3_tryWords_10 (by decide) (fun c3 => ?_) (fun c3 => ?_)
    · refine ev_iconst (v := 2) dX3_tryWords_18 (by decide) ?_
      refine ev_istore_n dX3_tryWords_19 (am_lt rfl) ?_
      refine ev_weak (am_wk (am_wk (am_wk am_wn))) (ev_loop 20 63 (fun x4 : Int32 × (Nat → Nat → Int32) => [some (.ref p0), some (.int p1), some (.int x4.1)]) (fun t4 : (Nat → Nat → Int32) => [none, none, none]) (fun x4 => (x4.2, S.2)) (fun t4 => (t4, S.2)) (fun x4 G4 hB4 hE4 => ?_) (fun t4 => ?_) am_fuel (2, S.1))
      · unfold f_X3_tryWords_b20
        refine ev_iload_n dX3_tryWords_20 rfl ?_
        refine ev_bipush (v := 15) dX3_tryWords_21 (by decide) ?_
        refine ev_eq am_ib ?_
        refine ev_icmp_gt (tgt := 63) dX3_tryWords_23 (by decide) (fun c13 => ?_) (fun c13 => ?_)
        · exact ev_leaf (am_wf (am_wf (am_wf am_wn))) (hE4 x4.2)
        · refine ev_aload_n dX3_tryWords_26 rfl ?_
          refine ev_eq (Option.bind_assoc _ _ _) ?_
          refine ev_getR fk_X3_21 (by decide) dX3_tryWords_27 kp0 (fun q14 k14 r14 => ?_)
          refine ev_iload_n dX3_tryWords_30 rfl ?_
          refine ev_iload_n dX3_tryWords_31 rfl ?_
          refine ev_eq (Option.bind_assoc _ _ _) ?_
          refine ev_iast dX3_tryWords_32 k14 (fun σ15 h15 => ?_)
          refine ev_aload_n dX3_tryWords_33 rfl ?_
          refine ev_iload_n dX3_tryWords_34 rfl ?_
          refine ev_iload_n dX3_tryWords_35 rfl ?_
          refine ev_eq (Option.bind_assoc _ _ _) ?_
          refine ev_callP (am_callV (as := [.int x4.1, .int p1]) (o := p0) (st := []) cv_X3_60 dX3_tryWords_36 kp0 rfl (am_le rfl) (am_fit (by omega) (by decide) (by decide) (by decide)) (t_X3_isNew hl kp0)) (fun v16 h16 => ?_)
          refine ev_eq (Option.bind_assoc _ _ _) ?_
          refine ev_reg (cs' := 0) (sl' := 0) 57 (fun t17 : (Nat → Nat → Int32) => [some (.ref p0), some (.int p1), some (.int x4.1)]) (fun t17 => []) (fun t17 => (t17, S.2)) (fun hJ17 => ?_) (fun t17 => ?_)
          · refine ev_eq am_ib ?_
            refine ev_if_eq (tgt := 57) dX3_tryWords_39 (by decide) (fun c17 => ?_) (fun c17 => ?_)
            · exact ev_leaf (am_wk (am_wk (am_wk am_wn))) (hJ17 σ15)
            · refine ev_aload_n dX3_tryWords_42 rfl ?_
              refine ev_iload_n dX3_tryWords_43 rfl ?_
              refine ev_eq (Option.bind_assoc _ _ _) ?_
              refine ev_callP (am_callV (as := [.int p1]) (o := p0) (st := []) cv_X3_64 dX3_tryWords_44 kp0 rfl (am_le rfl) (am_fit (by omega) (by decide) (by decide) (by decide)) (t_X3_isFitting hl kp0)) (fun v18 h18 => ?_)
              refine ev_eq am_ib ?_
              refine ev_if_eq (tgt := 57) dX3_tryWords_47 (by decide) (fun c19 => ?_) (fun c19 => ?_)
              · exact ev_leaf (am_wk (am_wk (am_wk am_wn))) (hJ17 σ15)
              · refine ev_aload_n dX3_tryWords_50 rfl ?_
                refine ev_iload_n dX3_tryWords_51 rfl ?_
                refine ev_iconst (v := 1) dX3_tryWords_52 (by decide) ?_
                refine ev_iadd dX3_tryWords_53 ?_
                refine ev_eq (Option.bind_assoc _ _ _) ?_
                refine ev_callWV (am_callV (as := [.int (p1 + 1)]) (o := p0) (st := []) cv_X3_53 dX3_tryWords_54 kp0 rfl (am_le rfl) (am_fit (by omega) (by decide) (by decide) (by decide)) (ht_X3_tryWords kp0)) (fun σ20 h20 => ?_)
                exact ev_leaf (am_wk (am_wk (am_wk am_wn))) (hJ17 σ20)
          · refine ev_iinc (v := (x4.1 + 1)) dX3_tryWords_57 (am_lt rfl) rfl rfl ?_
            refine ev_goto (tgt := 20) dX3_tryWords_60 (by decide) ?_
            exact ev_leaf (am_wk (am_wk (am_wk am_wn))) (hB4 ((x4.1 + 1), t17))
      · exact ev_vret dX3_tryWords_63 rfl (by decide) (by decide) rfl
    · refine ev_aload_n dX3_tryWords_13 rfl ?_
      refine ev_callWV (am_callV (as := []) (o := p0) (st := []) cv_X3_57 dX3_tryWords_14 kp0 rfl (am_le rfl) (am_fit (by omega) (by decide) (by decide) (by decide)) (t_X3_keepWay hl kp0)) (fun σ21 h21 => ?_)
      exact ev_vret dX3_tryWords_17 rfl (by decide) (by decide) rfl
def f_rec_X3_tryWords : Nat → Nat → am_S → Nat → Int32 → Option ((Nat → Nat → Int32))
  | 0, _ => fun _ _ _ => none
  | n + 1, _ => f_X3_tryWords_o (f_rec_X3_tryWords n 0)
def f_X3_tryWords (n : Nat) : am_S → Nat → Int32 → Option ((Nat → Nat → Int32)) := f_rec_X3_tryWords n 0
theorem t_rec_X3_tryWords {E : am_E} {l : Launch} (hl : l.stackTraces = false) : ∀ n : Nat, (∀ {S : am_S} {p0 : Nat} {p1 : Int32} (kp0 : am_kd p0 = 103), am_M E l yX3_tryWords (.code yX3_tryWords cX3_tryWords 3 none) (1 + n) 0 0 [.ref p0, .int p1] S ((f_X3_tryWords n S p0 p1).map (fun (x : Nat → Nat → Int32) => ((.inl none, (x, S.2)) : am_R)))) := by
  intro n
  induction n with
  | zero => exact (by intros; intro r hr; cases hr)
  | succ n ih => exact (by intros; exact to_X3_tryWords hl (by omega) (fun z0 => ih z0) (by assumption))
theorem t_X3_tryWords {E : am_E} {l : Launch} (hl : l.stackTraces = false) (n : Nat) {S : am_S} {p0 : Nat} {p1 : Int32} (kp0 : am_kd p0 = 103) : am_M E l yX3_tryWords (.code yX3_tryWords cX3_tryWords 3 none) (1 + n) 0 0 [.ref p0, .int p1] S ((f_X3_tryWords n S p0 p1).map (fun (x : Nat → Nat → Int32) => ((.inl none, (x, S.2)) : am_R))) := (t_rec_X3_tryWords hl n) kp0
def f_X3_findWays (S : am_S) (p0 : Nat) : Option ((Nat → Nat → Int32)) :=
  ((f_X3_tryWords 60 ((am_u2 S.1 p0 8 0), S.2) p0 0).bind (fun σ1 => some σ1))
set_option maxRecDepth 20000 in
theorem t_X3_findWays {E : am_E} {l : Launch} (hl : l.stackTraces = false) {S : am_S} {p0 : Nat} (kp0 : am_kd p0 = 103) : am_M E l yX3_findWays (.code yX3_findWays cX3_findWays 1 none) 62 0 0 [.ref p0] S ((f_X3_findWays S p0).map (fun (x : Nat → Nat → Int32) => ((.inl none, (x, S.2)) : am_R))) := by
  refine am_M_of (w := fun (x : Nat → Nat → Int32) => ((.inl none, (x, S.2)) : am_R)) hl (by decide) (am_fc rfl am_fn) (Nat.le_of_ble_eq_true rfl) ?_
  show am_Ev E l (RX3, cX3_findWays, 1, none, [], am_rm 62 0 0) (fun b a s x => am_Z E 0 0 b a s ((fun (x : Nat → Nat → Int32) => ((.inl none, (x, S.2)) : am_R)) x)) 0 0 0 [some (.ref p0)] [] S (f_X3_findWays S p0)
  unfold f_X3_findWays
  refine ev_aload_n dX3_findWays_0 rfl ?_
  refine ev_iconst (v := 0) dX3_findWays_1 (by decide) ?_
  refine ev_putI fk_X3_50 tyX3 tyX3_ok nmX3 rfl (by decide +kernel) (by decide) dX3_findWays_2 kp0 ?_
  refine ev_aload_n dX3_findWays_5 rfl ?_
  refine ev_iconst (v := 0) dX3_findWays_6 (by decide) ?_
  refine ev_callWV (am_callV (as := [.int 0]) (o := p0) (st := []) cv_X3_53 dX3_findWays_7 kp0 rfl (am_le rfl) (am_fit (by omega) (by decide) (by decide) (by decide)) (t_X3_tryWords hl 60 kp0)) (fun σ1 h1 => ?_)
  exact ev_vret dX3_findWays_10 rfl (by decide) (by decide) rfl
def f_X3_firstWordOf (S : am_S) (p0 : Nat) (p1 : Int32) : Option (Int32) :=
  (if 0 < (S.1 p0 8) then (if p1 < 0 then some (-1) else (if p1 < 3 then ((am_rd S.2 p0 4 1).bind (fun q4 => ((am_ld S.1 q4 p1).bind (fun v5 => some v5)))) else some (-1))) else some (-1))
set_option maxRecDepth 20000 in
theorem t_X3_firstWordOf {E : am_E} {l : Launch} (hl : l.stackTraces = false) {S : am_S} {p0 : Nat} {p1 : Int32} (kp0 : am_kd p0 = 103) : am_M E l yX3_firstWordOf (.code yX3_firstWordOf cX3_firstWordOf 2 (some .int)) 0 0 0 [.ref p0, .int p1] S ((f_X3_firstWordOf S p0 p1).map (fun (v : Int32) => ((.inl (some (.int v)), S) : am_R))) := by
  refine am_M_of (w := fun (v : Int32) => ((.inl (some (.int v)), S) : am_R)) hl (by decide) (am_fc rfl (am_fc rfl am_fn)) (Nat.le_of_ble_eq_true rfl) ?_
  show am_Ev E l (RX3, cX3_firstWordOf, 2, (some .int), [], am_rm 0 0 0) (fun b a s x => am_Z E 0 0 b a s ((fun (v : Int32) => ((.inl (some (.int v)), S) : am_R)) x)) 0 0 0 [some (.ref p0), some (.int p1)] [] S (f_X3_firstWordOf S p0 p1)
  unfold f_X3_firstWordOf
  refine ev_aload_n dX3_firstWordOf_0 rfl ?_
  refine ev_get fk_X3_50 dX3_firstWordOf_1 kp0 (am_fvI (by decide)) ?_
  refine ev_if_le (tgt := 25) dX3_firstWordOf_4 (by decide) (fun c1 => ?_) (fun c1 => ?_)
  · refine ev_iconst (v := (-1)) dX3_firstWordOf_25 (by decide) ?_
    exact ev_iret dX3_firstWordOf_26 rfl rfl (by decide) (by decide) rfl
  · refine ev_iload_n dX3_firstWordOf_7 rfl ?_
    refine ev_if_lt (tgt := 25) dX3_firstWordOf_8 (by decide) (fun c2 => ?_) (fun c2 => ?_)
    · refine ev_iconst (v := (-1)) dX3_firstWordOf_25 (by decide) ?_
      exact ev_iret dX3_firstWordOf_26 rfl rfl (by decide) (by decide) rfl
    · refine ev_iload_n dX3_firstWordOf_11 rfl ?_
      refine ev_iconst (v := 3) dX3_firstWordOf_12 (by decide) ?_
      refine ev_icmp_ge (tgt := 25) dX3_firstWordOf_13 (by decide) (fun c3 => ?_) (fun c3 => ?_)
      · refine ev_iconst (v := (-1)) dX3_firstWordOf_25 (by decide) ?_
        exact ev_iret dX3_firstWordOf_26 rfl rfl (by decide) (by decide) rfl
      · refine ev_aload_n dX3_firstWordOf_16 rfl ?_
        refine ev_getR fk_X3_24 (by decide) dX3_firstWordOf_17 kp0 (fun q4 k4 r4 => ?_)
        refine ev_iload_n dX3_firstWordOf_20 rfl ?_
        refine ev_iald dX3_firstWordOf_21 k4 (fun v5 h5 => ?_)
        refine ev_goto (tgt := 26) dX3_firstWordOf_22 (by decide) ?_
        exact ev_iret dX3_firstWordOf_26 rfl rfl (by decide) (by decide) rfl
