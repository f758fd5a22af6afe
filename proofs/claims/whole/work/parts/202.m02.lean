def f_X10_readInto_b12 (S : am_S) (a0 : Nat) (a1 : Nat) (x3 : Int32 × (Nat → Nat → Int32)) : Option ((Int32 × (Nat → Nat → Int32)) ⊕ ((Nat → Nat → Int32))) :=
  (if 14 < x3.1 then some (.inr x3.2) else ((am_rd S.2 a0 0 104).bind (fun q5 => ((f_X4_isAtLine (x3.2, S.2) q5 x3.1 14).bind (fun y6 => (if y6.1 = 0 then some (.inr y6.2) else ((f_X10_readLine (y6.2, S.2) a0 a1).bind (fun σ8 => some (.inl ((x3.1 + 1), σ8))))))))))
def f_X10_readInto (S : am_S) (p0 : Nat) (p1 : Nat) (p2 : Nat) (p3 : Int32) : Option (am_R) :=
  ((am_rd S.2 p0 0 104).bind (fun q1 => (am_thV (f_X4_open S q1 p2 p3) (fun S2 => ((am_loop (f_X10_readInto_b12 S2 p0 p1) am_fuel (0, S2.1)).bind (fun t3 => ((am_rd S2.2 p0 0 104).bind (fun q14 => some (.inl (some (.int (t3 q14 5))), (t3, S2.2))))))))))
set_option maxRecDepth 20000 in
theorem t_X10_readInto {E : am_E} {l : Launch} (hl : l.stackTraces = false) {S : am_S} {p0 : Nat} {p1 : Nat} {p2 : Nat} {p3 : Int32} (kp0 : am_kd p0 = 110) (kp1 : am_kd p1 = 109) (kp2 : am_kd p2 = 2) : am_M E l yX10_readInto (.code yX10_readInto cX10_readInto 5 (some .int)) 9 0 0 [.ref p0, .ref p1, .ref p2, .int p3] S (f_X10_readInto S p0 p1 p2 p3) := by
  refine am_M_id (am_M_of (w := fun x => x) hl (by decide) (am_fc rfl (am_fc rfl (am_fc rfl (am_fc rfl am_fn)))) (Nat.le_of_ble_eq_true rfl) ?_)
  show am_Ev E l (RX10, cX10_readInto, 5, (some .int), [], am_rm 9 0 0) (am_Z E 0 0) 0 0 0 [some (.ref p0), some (.ref p1), some (.ref p2), some (.int p3), none] [] S (f_X10_readInto S p0 p1 p2 p3)
  unfold f_X10_readInto
  refine ev_aload_n dX10_readInto_0 rfl ?_
  refine ev_getR fk_X10_12 (by decide) dX10_readInto_1 kp0 (fun q1 k1 r1 => ?_)
  refine ev_aload_n dX10_readInto_4 rfl ?_
  refine ev_iload_n dX10_readInto_5 rfl ?_
  refine ev_callGV (am_callVN (as := [.ref p2, .int p3]) (o := q1) (st := []) cv_X10_18 dX10_readInto_6 k1 rfl (am_le rfl) (am_fit (by omega) (by decide) (by decide) (by decide)) nt_X4_open (t_X4_open hl k1 kp2)) rfl (by decide) (by decide) (fun S2 h2 => ?_)
  refine ev_iconst (v := 0) dX10_readInto_9 (by decide) ?_
  refine ev_istore dX10_readInto_10 (am_lt rfl) ?_
  refine ev_weak (am_wk (am_wk (am_wf (am_wf (am_wk am_wn))))) (ev_loop 12 44 (fun x3 : Int32 × (Nat → Nat → Int32) => [some (.ref p0), some (.ref p1), none, none, some (.int x3.1)]) (fun t3 : (Nat → Nat → Int32) => [some (.ref p0), none, none, none, none]) (fun x3 => (x3.2, S2.2)) (fun t3 => (t3, S2.2)) (fun x3 G3 hB3 hE3 => ?_) (fun t3 => ?_) am_fuel (0, S2.1))
  · unfold f_X10_readInto_b12
    refine ev_iload dX10_readInto_12 rfl ?_
    refine ev_bipush (v := 14) dX10_readInto_14 (by decide) ?_
    refine ev_eq am_ib ?_
    refine ev_icmp_gt (tgt := 44) dX10_readInto_16 (by decide) (fun c9 => ?_) (fun c9 => ?_)
    · exact ev_leaf (am_wk (am_wf (am_wf (am_wf (am_wf am_wn))))) (hE3 x3.2)
    · refine ev_aload_n dX10_readInto_19 rfl ?_
      refine ev_eq (Option.bind_assoc _ _ _) ?_
      refine ev_getR fk_X10_12 (by decide) dX10_readInto_20 kp0 (fun q10 k10 r10 => ?_)
      refine ev_iload dX10_readInto_23 rfl ?_
      refine ev_bipush (v := 14) dX10_readInto_25 (by decide) ?_
      refine ev_eq (Option.bind_assoc _ _ _) ?_
      refine ev_callWI (am_callVN (as := [.int x3.1, .int 14]) (o := q10) (st := []) cv_X10_22 dX10_readInto_27 k10 rfl (am_le rfl) (am_fit (by omega) (by decide) (by decide) (by decide)) (am_no1 (fun _ => ⟨_, rfl⟩)) (t_X4_isAtLine hl k10)) (fun y11 h11 => ?_)
      refine ev_eq am_ib ?_
      refine ev_if_eq (tgt := 44) dX10_readInto_30 (by decide) (fun c12 => ?_) (fun c12 => ?_)
      · exact ev_leaf (am_wk (am_wf (am_wf (am_wf (am_wf am_wn))))) (hE3 y11.2)
      · refine ev_aload_n dX10_readInto_33 rfl ?_
        refine ev_aload_n dX10_readInto_34 rfl ?_
        refine ev_eq (Option.bind_assoc _ _ _) ?_
        refine ev_callWV (am_callV (as := [.ref p1]) (o := p0) (st := []) cv_X10_26 dX10_readInto_35 kp0 rfl (am_le rfl) (am_fit (by omega) (by decide) (by decide) (by decide)) (t_X10_readLine hl kp0 kp1)) (fun σ13 h13 => ?_)
        refine ev_iinc (v := (x3.1 + 1)) dX10_readInto_38 (am_lt rfl) rfl rfl ?_
        refine ev_goto (tgt := 12) dX10_readInto_41 (by decide) ?_
        exact ev_leaf (am_wk (am_wk (am_wf (am_wf (am_wk am_wn))))) (hB3 ((x3.1 + 1), σ13))
  · refine ev_aload_n dX10_readInto_44 rfl ?_
    refine ev_getR fk_X10_12 (by decide) dX10_readInto_45 kp0 (fun q14 k14 r14 => ?_)
    refine ev_getN fk_X10_30 dX10_readInto_48 k14 (am_fvI (by decide)) ?_
    exact ev_iret dX10_readInto_51 rfl rfl (by decide) (by decide) rfl
theorem nt_X10_readInto {S : am_S} {p0 : Nat} {p1 : Nat} {p2 : Nat} {p3 : Int32} : ∀ r, (f_X10_readInto S p0 p1 p2 p3) = some r → ∃ v, r.1 = .inl v := am_nt_bind (fun _ => am_nt_thV nt_X4_open (fun _ => am_nt_bind (fun _ => am_nt_bind (fun _ => am_nt_some))))
def f_J9_abs_0f7a4 (p0 : Int32) : Option (Int32) :=
  (if p0 < 0 then some (-p0) else some p0)
set_option maxRecDepth 20000 in
theorem t_J9_abs_0f7a4 {E : am_E} {l : Launch} (hl : l.stackTraces = false) {S : am_S} {p0 : Int32}  : am_M E l yJ9_abs_0f7a4 (.code yJ9_abs_0f7a4 cJ9_abs_0f7a4 1 (some .int)) 0 0 0 [.int p0] S ((f_J9_abs_0f7a4 p0).map (fun (v : Int32) => ((.inl (some (.int v)), S) : am_R))) := by
  refine am_M_ofF (w := fun (v : Int32) => ((.inl (some (.int v)), S) : am_R)) hl (by decide +kernel) (am_fc rfl am_fn) (Nat.le_of_ble_eq_true rfl) ?_
  show am_Ev E l (RJ9, cJ9_abs_0f7a4, 1, (some .int), [], am_rm 0 0 0) (fun b a s x => am_Z E 0 0 b a s ((fun (v : Int32) => ((.inl (some (.int v)), S) : am_R)) x)) 0 0 0 [some (.int p0)] [] S (f_J9_abs_0f7a4 p0)
  unfold f_J9_abs_0f7a4
  refine ev_iload_n dJ9_abs_0f7a4_0 rfl ?_
  refine ev_if_ge (tgt := 9) dJ9_abs_0f7a4_1 (by decide) (fun c1 => ?_) (fun c1 => ?_)
  · refine ev_iload_n dJ9_abs_0f7a4_9 rfl ?_
    exact ev_iret dJ9_abs_0f7a4_10 rfl rfl (by decide) (by decide) rfl
  · refine ev_iload_n dJ9_abs_0f7a4_4 rfl ?_
    refine ev_ineg dJ9_abs_0f7a4_5 ?_
    refine ev_goto (tgt := 10) dJ9_abs_0f7a4_6 (by decide) ?_
    exact ev_iret dJ9_abs_0f7a4_10 rfl rfl (by decide) (by decide) rfl
def f_X9_farFrom (S : am_S) (p0 : Nat) (p1 : Int32) (p2 : Int32) : Option (Int32) :=
  ((f_X9_hasHouse S p0 p1).bind (fun v1 => (if v1 = 0 then some 0 else ((f_X9_hasHouse S p0 p2).bind (fun v3 => (if v3 = 0 then some 0 else ((am_rd S.2 p0 6 1).bind (fun q5 => ((am_ld S.1 q5 p2).bind (fun v6 => ((am_rd S.2 p0 6 1).bind (fun q7 => ((am_ld S.1 q7 p1).bind (fun v8 => ((f_J9_abs_0f7a4 ((v6 + (S.1 p0 4)) - v8)).bind (fun v9 => ((am_rd S.2 p0 7 1).bind (fun q10 => ((am_ld S.1 q10 p2).bind (fun v11 => ((am_rd S.2 p0 7 1).bind (fun q12 => ((am_ld S.1 q12 p1).bind (fun v13 => ((f_J9_abs_0f7a4 ((v11 + (S.1 p0 5)) - v13)).bind (fun v14 => some (v9 + v14)))))))))))))))))))))))))))
set_option maxRecDepth 20000 in
theorem t_X9_farFrom {E : am_E} {l : Launch} (hl : l.stackTraces = false) {S : am_S} {p0 : Nat} {p1 : Int32} {p2 : Int32} (kp0 : am_kd p0 = 109) : am_M E l yX9_farFrom (.code yX9_farFrom cX9_farFrom 3 (some .int)) 1 0 0 [.ref p0, .int p1, .int p2] S ((f_X9_farFrom S p0 p1 p2).map (fun (v : Int32) => ((.inl (some (.int v)), S) : am_R))) := by
  refine am_M_of (w := fun (v : Int32) => ((.inl (some (.int v)), S) : am_R)) hl (by decide) (am_fc rfl (am_fc rfl (am_fc rfl am_fn))) (Nat.le_of_ble_eq_true rfl) ?_
  show am_Ev E l (RX9, cX9_farFrom, 3, (some .int), [], am_rm 1 0 0) (fun b a s x => am_Z E 0 0 b a s ((fun (v : Int32) => ((.inl (some (.int v)), S) : am_R)) x)) 0 0 0 [some (.ref p0), some (.int p1), some (.int p2)] [] S (f_X9_farFrom S p0 p1 p2)
  unfold f_X9_farFrom
  refine ev_aload_n dX9_farFrom_0 rfl ?_
  refine ev_iload_n dX9_farFrom_1 rfl ?_
  refine ev_callP (am_callV (as := [.int p1]) (o := p0) (st := []) cv_X9_86 dX9_farFrom_2 kp0 rfl (am_le rfl) (am_fit (by omega) (by decide) (by decide) (by decide)) (t_X9_hasHouse hl kp0)) (fun v1 h1 => ?_)
  refine ev_if_eq (tgt := 16) dX9_farFrom_5 (by decide) (fun c2 => ?_) (fun c2 => ?_)
  · refine ev_iconst (v := 0) dX9_farFrom_16 (by decide) ?_
    exact ev_iret dX9_farFrom_17 rfl rfl (by decide) (by decide) rfl
  · refine ev_aload_n dX9_farFrom_8 rfl ?_
    refine ev_iload_n dX9_farFrom_9 rfl ?_
    refine ev_callP (am_callV (as := [.int p2]) (o := p0) (st := []) cv_X9_86 dX9_farFrom_10 kp0 rfl (am_le rfl) (am_fit (by omega) (by decide) (by decide) (by decide)) (t_X9_hasHouse hl kp0)) (fun v3 h3 => ?_)
    refine ev_if_ne (tgt := 18) dX9_farFrom_13 (by decide) (fun c4 => ?_) (fun c4 => ?_)
    · refine ev_aload_n dX9_farFrom_18 rfl ?_
      refine ev_getR fk_X9_9 (by decide) dX9_farFrom_19 kp0 (fun q5 k5 r5 => ?_)
      refine ev_iload_n dX9_farFrom_22 rfl ?_
      refine ev_iald dX9_farFrom_23 k5 (fun v6 h6 => ?_)
      refine ev_aload_n dX9_farFrom_24 rfl ?_
      refine ev_get fk_X9_63 dX9_farFrom_25 kp0 (am_fvI (by decide)) ?_
      refine ev_iadd dX9_farFrom_28 ?_
      refine ev_aload_n dX9_farFrom_29 rfl ?_
      refine ev_getR fk_X9_9 (by decide) dX9_farFrom_30 kp0 (fun q7 k7 r7 => ?_)
      refine ev_iload_n dX9_farFrom_33 rfl ?_
      refine ev_iald dX9_farFrom_34 k7 (fun v8 h8 => ?_)
      refine ev_isub dX9_farFrom_35 ?_
      refine ev_callP (am_callS (as := [.int ((v6 + (S.1 p0 4)) - v8)]) (st := []) ct_X9_100 dX9_farFrom_36 rfl (am_le rfl) (am_fit (by omega) (by decide) (by decide) (by decide)) (t_J9_abs_0f7a4 hl )) (fun v9 h9 => ?_)
      refine ev_aload_n dX9_farFrom_39 rfl ?_
      refine ev_getR fk_X9_15 (by decide) dX9_farFrom_40 kp0 (fun q10 k10 r10 => ?_)
      refine ev_iload_n dX9_farFrom_43 rfl ?_
      refine ev_iald dX9_farFrom_44 k10 (fun v11 h11 => ?_)
      refine ev_aload_n dX9_farFrom_45 rfl ?_
      refine ev_get fk_X9_66 dX9_farFrom_46 kp0 (am_fvI (by decide)) ?_
      refine ev_iadd dX9_farFrom_49 ?_
      refine ev_aload_n dX9_farFrom_50 rfl ?_
      refine ev_getR fk_X9_15 (by decide) dX9_farFrom_51 kp0 (fun q12 k12 r12 => ?_)
      refine ev_iload_n dX9_farFrom_54 rfl ?_
      refine ev_iald dX9_farFrom_55 k12 (fun v13 h13 => ?_)
      refine ev_isub dX9_farFrom_56 ?_
      refine ev_callP (am_callS (as := [.int ((v11 + (S.1 p0 5)) - v13)]) (st := [.int v9]) ct_X9_100 dX9_farFrom_57 rfl (am_le rfl) (am_fit (by omega) (by decide) (by decide) (by decide)) (t_J9_abs_0f7a4 hl )) (fun v14 h14 => ?_)
      refine ev_iadd dX9_farFrom_60 ?_
      exact ev_iret dX9_farFrom_61 rfl rfl (by decide) (by decide) rfl
    · refine ev_iconst (v := 0) dX9_farFrom_16 (by decide) ?_
      exact ev_iret dX9_farFrom_17 rfl rfl (by decide) (by decide) rfl
def f_X9_measureWays_b18 (S : am_S) (a0 : Nat) (a1 : Int32) (x4 : Int32 × (Nat → Nat → Int32)) : Option ((Int32 × (Nat → Nat → Int32)) ⊕ ((Nat → Nat → Int32))) :=
  (if x4.1 < (x4.2 a0 0) then (if x4.1 < 8 then ((am_rd S.2 a0 8 1).bind (fun q7 => ((am_ld x4.2 q7 x4.1).bind (fun v8 => ((f_X9_farFrom (x4.2, S.2) a0 a1 x4.1).bind (fun v9 => ((if a1 = x4.1 then some (0 : Int32) else ((am_rd S.2 a0 10 1).bind (fun q11 => ((am_ld x4.2 q11 a1).bind (fun v12 => (if v12 = 0 then (if (v8 - v9) < 0 then some (0 : Int32) else some (1 : Int32)) else some (0 : Int32))))))).bind (fun t10 => ((am_rd S.2 a0 13 1).bind (fun q15 => ((if t10 = 0 then some (0 : Int32) else some (((v8 - v9) / 3) + 1)).bind (fun t16 => ((am_st x4.2 q15 ((a1 * 8) + x4.1) t16).bind (fun σ17 => some (.inl ((x4.1 + 1), σ17)))))))))))))))) else some (.inr x4.2)) else some (.inr x4.2))
def f_X9_measureWays_b2 (S : am_S) (a0 : Nat) (x1 : Int32 × (Nat → Nat → Int32)) : Option ((Int32 × (Nat → Nat → Int32)) ⊕ ((Nat → Nat → Int32))) :=
  (if x1.1 < (x1.2 a0 0) then (if x1.1 < 8 then ((am_loop (f_X9_measureWays_b18 (x1.2, S.2) a0 x1.1) am_fuel (0, x1.2)).bind (fun t4 => some (.inl ((x1.1 + 1), t4)))) else some (.inr x1.2)) else some (.inr x1.2))
def f_X9_measureWays (S : am_S) (p0 : Nat) : Option ((Nat → Nat → Int32)) :=
  ((am_loop (f_X9_measureWays_b2 S p0) am_fuel (0, S.1)).bind (fun t1 => some t1))
set_option maxRecDepth 20000 in
theorem t_X9_measureWays {E : am_E} {l : Launch} (hl : l.stackTraces = false) {S : am_S} {p0 : Nat} (kp0 : am_kd p0 = 109) : am_M E l yX9_measureWays (.code yX9_measureWays cX9_measureWays 5 none) 2 0 0 [.ref p0] S ((f_X9_measureWays S p0).map (fun (x : Nat → Nat → Int32) => ((.inl none, (x, S.2)) : am_R))) := by
  refine am_M_of (w := fun (x : Nat → Nat → Int32) => ((.inl none, (x, S.2)) : am_R)) hl (by decide) (am_fc rfl am_fn) (Nat.le_of_ble_eq_true rfl) ?_
  show am_Ev E l (RX9, cX9_measureWays, 5, none, [], am_rm 2 0 0) (fun b a s x => am_Z E 0 0 b a s ((fun (x : Nat → Nat → Int32) => ((.inl none, (x, S.2)) : am_R)) x)) 0 0 0 [some (.ref p0), none, none, none, none] [] S (f_X9_measureWays S p0)
  unfold f_X9_measureWays
  refine ev_iconst (v := 0) dX9_measureWays_0 (by decide) ?_
  refine ev_istore_n dX9_measureWays_1 (am_lt rfl) ?_
  refine ev_weak (am_wk (am_wk (am_wf (am_wf (am_wf am_wn))))) (ev_loop 2 108 (fun x1 : Int32 × (Nat → Nat → Int32) => [some (.ref p0), some (.int x1.1), none, none, none]) (fun t1 : (Nat → Nat → Int32) => [none, none, none, none, none]) (fun x1 => (x1.2, S.2)) (fun t1 => (t1, S.2)) (fun x1 G1 hB1 hE1 => ?_) (fun t1 => ?_) am_fuel (0, S.1))
  · unfold f_X9_measureWays_b2
    refine ev_iload_n dX9_measureWays_2 rfl ?_
    refine ev_aload_n dX9_measureWays_3 rfl ?_
    refine ev_get fk_X9_50 dX9_measureWays_4 kp0 (am_fvI (by decide)) ?_
    refine ev_eq am_ib ?_
    refine ev_icmp_ge (tgt := 108) dX9_measureWays_7 (by decide) (fun c31 => ?_) (fun c31 => ?_)
    · exact ev_leaf (am_wf (am_wf (am_wf (am_wf (am_wf am_wn))))) (hE1 x1.2)
    · refine ev_iload_n dX9_measureWays_10 rfl ?_
      refine ev_bipush (v := 8) dX9_measureWays_11 (by decide) ?_
      refine ev_eq am_ib ?_
      refine ev_icmp_ge (tgt := 108) dX9_measureWays_13 (by decide) (fun c32 => ?_) (fun c32 => ?_)
      · exact ev_leaf (am_wf (am_wf (am_wf (am_wf (am_wf am_wn))))) (hE1 x1.2)
      · refine ev_iconst (v := 0) dX9_measureWays_16 (by decide) ?_
        refine ev_istore_n dX9_measureWays_17 (am_lt rfl) ?_
        refine ev_eq (Option.bind_assoc _ _ _) ?_
        refine ev_weak (am_wk (am_wk (am_wk (am_wf (am_wf am_wn))))) (ev_loop 18 102 (fun x33 : Int32 × (Nat → Nat → Int32) => [some (.ref p0), some (.int x1.1), some (.int x33.1), none, none]) (fun t33 : (Nat → Nat → Int32) => [some (.ref p0), some (.int x1.1), none, none, none]) (fun x33 => (x33.2, S.2)) (fun t33 => (t33, S.2)) (fun x33 G33 hB33 hE33 => ?_) (fun t33 => ?_) am_fuel (0, x1.2))
        · unfold f_X9_measureWays_b18
          refine ev_iload_n dX9_measureWays_18 rfl ?_
          refine ev_aload_n dX9_measureWays_19 rfl ?_
          refine ev_get fk_X9_50 dX9_measureWays_20 kp0 (am_fvI (by decide)) ?_
          refine ev_eq am_ib ?_
          refine ev_icmp_ge (tgt := 102) dX9_measureWays_23 (by decide) (fun c47 => ?_) (fun c47 => ?_)
          · exact ev_leaf (am_wk (am_wk (am_wf (am_wf (am_wf am_wn))))) (hE33 x33.2)
          · refine ev_iload_n dX9_measureWays_26 rfl ?_
            refine ev_bipush (v := 8) dX9_measureWays_27 (by decide) ?_
            refine ev_eq am_ib ?_
            refine ev_icmp_ge (tgt := 102) dX9_measureWays_29 (by decide) (fun c48 => ?_) (fun c48 => ?_)
            · exact ev_leaf (am_wk (am_wk (am_wf (am_wf (am_wf am_wn))))) (hE33 x33.2)
            · refine ev_aload_n dX9_measureWays_32 rfl ?_
              refine ev_eq (Option.bind_assoc _ _ _) ?_
              refine ev_getR fk_X9_18 (by decide) dX9_measureWays_33 kp0 (fun q49 k49 r49 => ?_)
              refine ev_iload_n dX9_measureWays_36 rfl ?_
              refine ev_eq (Option.bind_assoc _ _ _) ?_
              refine ev_iald dX9_measureWays_37 k49 (fun v50 h50 => ?_)
              refine ev_aload_n dX9_measureWays_38 rfl ?_
              refine ev_iload_n dX9_measureWays_39 rfl ?_
              refine ev_iload_n dX9_measureWays_40 rfl ?_
              refine ev_eq (Option.bind_assoc _ _ _) ?_
              refine ev_callP (am_callV (as := [.int x1.1, .int x33.1]) (o := p0) (st := [.int v50]) cv_X9_105 dX9_measureWays_41 kp0 rfl (am_le rfl) (am_fit (by omega) (by decide) (by decide) (by decide)) (t_X9_farFrom hl kp0)) (fun v51 h51 => ?_)
              refine ev_isub dX9_measureWays_44 ?_
              refine ev_istore_n dX9_measureWays_45 (am_lt rfl) ?_
              refine ev_iload_n dX9_measureWays_46 rfl ?_
              refine ev_iload_n dX9_measureWays_47 rfl ?_
              refine ev_eq (Option.bind_assoc _ _ _) ?_
              refine ev_reg (cs' := 0) (sl' := 0) 69 (fun t52 : Int32 => [some (.ref p0), some (.int x1.1), some (.int x33.1), some (.int (v50 - v51)), none]) (fun t52 => [.int t52]) (fun t52 => (x33.2, S.2)) (fun hJ52 => ?_) (fun t52 => ?_)
              · refine ev_eq am_ib ?_
                refine ev_icmp_eq (tgt := 68) dX9_measureWays_48 (by decide) (fun c52 => ?_) (fun c52 => ?_)
                · refine ev_iconst (v := 0) dX9_measureWays_68 (by decide) ?_
                  exact ev_leaf (am_wk (am_wk (am_wk (am_wk (am_wf am_wn))))) (hJ52 (0 : Int32))
                · refine ev_aload_n dX9_measureWays_51 rfl ?_
                  refine ev_eq (Option.bind_assoc _ _ _) ?_
                  refine ev_getR fk_X9_24 (by decide) dX9_measureWays_52 kp0 (fun q53 k53 r53 => ?_)
                  refine ev_iload_n dX9_measureWays_55 rfl ?_
                  refine ev_eq (Option.bind_assoc _ _ _) ?_
                  refine ev_iald dX9_measureWays_56 k53 (fun v54 h54 => ?_)
                  refine ev_eq am_ib ?_
                  refine ev_if_ne (tgt := 68) dX9_measureWays_57 (by decide) (fun c55 => ?_) (fun c55 => ?_)
                  · refine ev_iconst (v := 0) dX9_measureWays_68 (by decide) ?_
                    exact ev_leaf (am_wk (am_wk (am_wk (am_wk (am_wf am_wn))))) (hJ52 (0 : Int32))
                  · refine ev_iload_n dX9_measureWays_60 rfl ?_
                    refine ev_eq am_ib ?_
                    refine ev_if_lt (tgt := 68) dX9_measureWays_61 (by decide) (fun c56 => ?_) (fun c56 => ?_)
                    · refine ev_iconst (v := 0) dX9_measureWays_68 (by decide) ?_
                      exact ev_leaf (am_wk (am_wk (am_wk (am_wk (am_wf am_wn))))) (hJ52 (0 : Int32))
                    · refine ev_iconst (v := 1) dX9_measureWays_64 (by decide) ?_
                      refine ev_goto (tgt := 69) dX9_measureWays_65 (by decide) ?_
                      exact ev_leaf (am_wk (am_wk (am_wk (am_wk (am_wf am_wn))))) (hJ52 (1 : Int32))
              · refine ev_istore dX9_measureWays_69 (am_lt rfl) ?_
                refine ev_aload_n dX9_measureWays_71 rfl ?_
                refine ev_eq (Option.bind_assoc _ _ _) ?_
                refine ev_getR fk_X9_33 (by decide) dX9_measureWays_72 kp0 (fun q57 k57 r57 => ?_)
                refine ev_iload_n dX9_measureWays_75 rfl ?_
                refine ev_bipush (v := 8) dX9_measureWays_76 (by decide) ?_
                refine ev_imul dX9_measureWays_78 ?_
                refine ev_iload_n dX9_measureWays_79 rfl ?_
                refine ev_iadd dX9_measureWays_80 ?_
                refine ev_iload dX9_measureWays_81 rfl ?_
                refine ev_eq (Option.bind_assoc _ _ _) ?_
                refine ev_reg (cs' := 0) (sl' := 0) 95 (fun t58 : Int32 => [some (.ref p0), some (.int x1.1), some (.int x33.1), none, none]) (fun t58 => [.int t58, .int ((x1.1 * 8) + x33.1), .ref q57]) (fun t58 => (x33.2, S.2)) (fun hJ58 => ?_) (fun t58 => ?_)
                · refine ev_eq am_ib ?_
                  refine ev_if_eq (tgt := 94) dX9_measureWays_83 (by decide) (fun c58 => ?_) (fun c58 => ?_)
                  · refine ev_iconst (v := 0) dX9_measureWays_94 (by decide) ?_
                    exact ev_leaf (am_wk (am_wk (am_wk (am_wf (am_wf am_wn))))) (hJ58 (0 : Int32))
                  · refine ev_iload_n dX9_measureWays_86 rfl ?_
                    refine ev_iconst (v := 3) dX9_measureWays_87 (by decide) ?_
                    refine ev_idiv dX9_measureWays_88 (by decide) ?_
                    refine ev_iconst (v := 1) dX9_measureWays_89 (by decide) ?_
                    refine ev_iadd dX9_measureWays_90 ?_
                    refine ev_goto (tgt := 95) dX9_measureWays_91 (by decide) ?_
                    exact ev_leaf (am_wk (am_wk (am_wk (am_wf (am_wf am_wn))))) (hJ58 (((v50 - v51) / 3) + 1))
                · refine ev_eq (Option.bind_assoc _ _ _) ?_
                  refine ev_iast dX9_measureWays_95 k57 (fun σ59 h59 => ?_)
                  refine ev_iinc (v := (x33.1 + 1)) dX9_measureWays_96 (am_lt rfl) rfl rfl ?_
                  refine ev_goto (tgt := 18) dX9_measureWays_99 (by decide) ?_
                  exact ev_leaf (am_wk (am_wk (am_wk (am_wf (am_wf am_wn))))) (hB33 ((x33.1 + 1), σ59))
        · refine ev_iinc (v := (x1.1 + 1)) dX9_measureWays_102 (am_lt rfl) rfl rfl ?_
          refine ev_goto (tgt := 2) dX9_measureWays_105 (by decide) ?_
          exact ev_leaf (am_wk (am_wk (am_wf (am_wf (am_wf am_wn))))) (hB1 ((x1.1 + 1), t33))
  · exact ev_vret dX9_measureWays_108 rfl (by decide) (by decide) rfl
def f_X11_town (S : am_S) (p0 : Nat) : Option (am_R) :=
  ((am_rd S.2 p0 4 109).bind (fun q1 => ((am_rd S.2 p0 3 109).bind (fun q2 => ((f_X9_copyFrom S q1 q2).bind (fun σ3 => ((am_rd S.2 p0 9 110).bind (fun q4 => ((am_rd S.2 p0 4 109).bind (fun q5 => ((am_rd S.2 p0 0 2).bind (fun q6 => (am_thI (f_X10_readInto (σ3, S.2) q4 q5 q6 (σ3 p0 1)) (fun v7 S7 => (if ((am_u2 (am_u2 S7.1 p0 2 v7) p0 1 0) p0 2) = (-1) then ((am_rd S7.2 p0 3 109).bind (fun q9 => (if ((am_u2 (am_u2 S7.1 p0 2 v7) p0 1 0) q9 2) < 10 then ((am_rd S7.2 p0 3 109).bind (fun q11 => ((am_rd S7.2 p0 4 109).bind (fun q12 => ((am_rd (am_u2 (am_u2 S7.2 p0 3 (some q12)) p0 4 (some q11)) p0 3 109).bind (fun q13 => ((am_rd (am_u2 (am_u2 S7.2 p0 3 (some q12)) p0 4 (some q11)) p0 3 109).bind (fun q14 => ((f_X9_measureWays ((am_u2 (am_u2 (am_u2 S7.1 p0 2 v7) p0 1 0) q13 2 (((am_u2 (am_u2 S7.1 p0 2 v7) p0 1 0) q13 2) + 1)), (am_u2 (am_u2 S7.2 p0 3 (some q12)) p0 4 (some q11))) q14).bind (fun σ15 => ((am_rd (am_u2 (am_u2 S7.2 p0 3 (some q12)) p0 4 (some q11)) p0 3 109).bind (fun q16 => some (.inl (some (.int (σ15 q16 2))), (σ15, (am_u2 (am_u2 S7.2 p0 3 (some q12)) p0 4 (some q11)))))))))))))))) else some (.inr 2, ((am_u2 (am_u2 S7.1 p0 2 v7) p0 1 0), S7.2))))) else some (.inr 1, ((am_u2 (am_u2 S7.1 p0 2 v7) p0 1 0), S7.2)))))))))))))))))
set_option maxRecDepth 20000 in
theorem t_X11_town {E : am_E} {l : Launch} (hl : l.stackTraces = false) {S : am_S} {p0 : Nat} (kp0 : am_kd p0 = 111) : am_M E l yX11_town (.code yX11_town cX11_town 2 (some .int)) 10 1 6 [.ref p0] S (f_X11_town S p0) := by
  refine am_M_id (am_M_of (w := fun x => x) hl (by decide) (am_fc rfl am_fn) (Nat.le_of_ble_eq_true rfl) ?_)
  show am_Ev E l (RX11, cX11_town, 2, (some .int), [], am_rm 10 1 6) (am_Z E 1 6) 0 0 0 [some (.ref p0), none] [] S (f_X11_town S p0)
  unfold f_X11_town
  refine ev_aload_n dX11_town_0 rfl ?_
  refine ev_getR fk_X11_24 (by decide) dX11_town_1 kp0 (fun q1 k1 r1 => ?_)
  refine ev_aload_n dX11_town_4 rfl ?_
  refine ev_getR fk_X11_20 (by decide) dX11_town_5 kp0 (fun q2 k2 r2 => ?_)
  refine ev_callWV (am_callVN (as := [.ref q2]) (o := q1) (st := []) cv_X11_97 dX11_town_8 k1 rfl (am_le rfl) (am_fit (by omega) (by decide) (by decide) (by decide)) (am_no1 (fun _ => ⟨_, rfl⟩)) (t_X9_copyFrom hl k1 k2)) (fun σ3 h3 => ?_)
  refine ev_aload_n dX11_town_11 rfl ?_
  refine ev_aload_n dX11_town_12 rfl ?_
  refine ev_getR fk_X11_44 (by decide) dX11_town_13 kp0 (fun q4 k4 r4 => ?_)
  refine ev_aload_n dX11_town_16 rfl ?_
  refine ev_getR fk_X11_24 (by decide) dX11_town_17 kp0 (fun q5 k5 r5 => ?_)
  refine ev_aload_n dX11_town_20 rfl ?_
  refine ev_getR fk_X11_9 (by decide) dX11_town_21 kp0 (fun q6 k6 r6 => ?_)
  refine ev_aload_n dX11_town_24 rfl ?_
  refine ev_get fk_X11_90 dX11_town_25 kp0 (am_fvI (by decide)) ?_
  refine ev_callGI (am_callVN (as := [.ref q5, .ref q6, .int (σ3 p0 1)]) (o := q4) (st := [.ref p0]) cv_X11_101 dX11_town_28 k4 rfl (am_le rfl) (am_fit (by omega) (by decide) (by decide) (by decide)) nt_X10_readInto (t_X10_readInto hl k4 k5 k6)) rfl (by decide) (by decide) (fun v7 S7 h7 => ?_)
  refine ev_putI fk_X11_13 tyX11 tyX11_ok nmX11 rfl (by decide +kernel) (by decide) dX11_town_31 kp0 ?_
  refine ev_aload_n dX11_town_34 rfl ?_
  refine ev_iconst (v := 0) dX11_town_35 (by decide) ?_
  refine ev_putI fk_X11_90 tyX11 tyX11_ok nmX11 rfl (by decide +kernel) (by decide) dX11_town_36 kp0 ?_
  refine ev_aload_n dX11_town_39 rfl ?_
  refine ev_get fk_X11_13 dX11_town_40 kp0 (am_fvI (by decide)) ?_
  refine ev_iconst (v := (-1)) dX11_town_43 (by decide) ?_
  refine ev_icmp_eq (tgt := 57) dX11_town_44 (by decide) (fun c8 => ?_) (fun c8 => ?_)
  · refine ev_aload_n dX11_town_57 rfl ?_
    refine ev_getR fk_X11_20 (by decide) dX11_town_58 kp0 (fun q9 k9 r9 => ?_)
    refine ev_getN fk_X11_112 dX11_town_61 k9 (am_fvI (by decide)) ?_
    refine ev_bipush (v := 10) dX11_town_64 (by decide) ?_
    refine ev_icmp_lt (tgt := 79) dX11_town_66 (by decide) (fun c10 => ?_) (fun c10 => ?_)
    · refine ev_aload_n dX11_town_79 rfl ?_
      refine ev_getR fk_X11_20 (by decide) dX11_town_80 kp0 (fun q11 k11 r11 => ?_)
      refine ev_astore_n dX11_town_83 (am_lt rfl) ?_
      refine ev_aload_n dX11_town_84 rfl ?_
      refine ev_aload_n dX11_town_85 rfl ?_
      refine ev_getR fk_X11_24 (by decide) dX11_town_86 kp0 (fun q12 k12 r12 => ?_)
      refine ev_putR (ty := (.object "BellTown$Town")) rfl rfl fk_X11_20 tyX11 tyX11_ok nmX11 rfl (by decide +kernel) (by decide) dX11_town_89 kp0 ?_
      refine ev_aload_n dX11_town_92 rfl ?_
      refine ev_aload_n dX11_town_93 rfl ?_
      refine ev_putR (ty := (.object "BellTown$Town")) rfl rfl fk_X11_24 tyX11 tyX11_ok nmX11 rfl (by decide +kernel) (by decide) dX11_town_94 kp0 ?_
      refine ev_aload_n dX11_town_97 rfl ?_
      refine ev_getR fk_X11_20 (by decide) dX11_town_98 kp0 (fun q13 k13 r13 => ?_)
      refine ev_dup dX11_town_101 rfl ?_
      refine ev_getN fk_X11_112 dX11_town_102 k13 (am_fvI (by decide)) ?_
      refine ev_iconst (v := 1) dX11_town_105 (by decide) ?_
      refine ev_iadd dX11_town_106 ?_
      refine ev_putIN fk_X11_112 tyX9 tyX9_ok nmX9 rfl (by decide +kernel) (by decide) dX11_town_107 k13 ?_
      refine ev_aload_n dX11_town_110 rfl ?_
      refine ev_getR fk_X11_20 (by decide) dX11_town_111 kp0 (fun q14 k14 r14 => ?_)
      refine ev_callWV (am_callVN (as := []) (o := q14) (st := []) cv_X11_120 dX11_town_114 k14 rfl (am_le rfl) (am_fit (by omega) (by decide) (by decide) (by decide)) (am_no1 (fun _ => ⟨_, rfl⟩)) (t_X9_measureWays hl k14)) (fun σ15 h15 => ?_)
      refine ev_aload_n dX11_town_117 rfl ?_
      refine ev_getR fk_X11_20 (by decide) dX11_town_118 kp0 (fun q16 k16 r16 => ?_)
      refine ev_getN fk_X11_112 dX11_town_121 k16 (am_fvI (by decide)) ?_
      exact ev_iret dX11_town_124 rfl rfl (by decide) (by decide) rfl
    · exact ev_throw (k := 2) tk_115_119 (tx := "there are 10 texts") (t := 23) (by decide +kernel) dX11_town_69 dX11_town_72 dX11_town_73 dX11_town_75 dX11_town_78 rfl (by decide) ⟨by decide, by decide, by decide, by decide⟩ (by decide) (by decide)
  · exact ev_throw (k := 1) tk_105_109 (tx := "the text is wrong") (t := 22) (by decide +kernel) dX11_town_47 dX11_town_50 dX11_town_51 dX11_town_53 dX11_town_56 rfl (by decide) ⟨by decide, by decide, by decide, by decide⟩ (by decide) (by decide)
def f_X1_clear (S : am_S) (p0 : Nat) : Option ((Nat → Nat → Int32)) :=
  some (am_u2 (am_u2 S.1 p0 0 0) p0 1 0)
set_option maxRecDepth 20000 in
theorem t_X1_clear {E : am_E} {l : Launch} (hl : l.stackTraces = false) {S : am_S} {p0 : Nat} (kp0 : am_kd p0 = 101) : am_M E l yX1_clear (.code yX1_clear cX1_clear 1 none) 0 0 0 [.ref p0] S ((f_X1_clear S p0).map (fun (x : Nat → Nat → Int32) => ((.inl none, (x, S.2)) : am_R))) := by
  refine am_M_of (w := fun (x : Nat → Nat → Int32) => ((.inl none, (x, S.2)) : am_R)) hl (by decide) (am_fc rfl am_fn) (Nat.le_of_ble_eq_true rfl) ?_
  show am_Ev E l (RX1, cX1_clear, 1, none, [], am_rm 0 0 0) (fun b a s x => am_Z E 0 0 b a s ((fun (x : Nat → Nat → Int32) => ((.inl none, (x, S.2)) : am_R)) x)) 0 0 0 [some (.ref p0)] [] S (f_X1_clear S p0)
  unfold f_X1_clear
  refine ev_aload_n dX1_clear_0 rfl ?_
  refine ev_iconst (v := 0) dX1_clear_1 (by decide) ?_
  refine ev_putI fk_X1_9 tyX1 tyX1_ok nmX1 rfl (by decide +kernel) (by decide) dX1_clear_2 kp0 ?_
  refine ev_aload_n dX1_clear_5 rfl ?_
  refine ev_iconst (v := 0) dX1_clear_6 (by decide) ?_
  refine ev_putI fk_X1_32 tyX1 tyX1_ok nmX1 rfl (by decide +kernel) (by decide) dX1_clear_7 kp0 ?_
  exact ev_vret dX1_clear_10 rfl (by decide) (by decide) rfl
def f_X1_addStep (S : am_S) (p0 : Nat) (p1 : Int32) : Option ((Nat → Nat → Int32)) :=
  (if (S.1 p0 1) < 400 then ((am_rd S.2 p0 4 3).bind (fun q2 => ((am_st S.1 q2 (S.1 p0 1) ((p1).toInt16.toInt32).toInt16.toInt32).bind (fun σ3 => some (am_u2 σ3 p0 1 ((σ3 p0 1) + 1)))))) else some S.1)
set_option maxRecDepth 20000 in
theorem t_X1_addStep {E : am_E} {l : Launch} (hl : l.stackTraces = false) {S : am_S} {p0 : Nat} {p1 : Int32} (kp0 : am_kd p0 = 101) : am_M E l yX1_addStep (.code yX1_addStep cX1_addStep 2 none) 0 0 0 [.ref p0, .int p1] S ((f_X1_addStep S p0 p1).map (fun (x : Nat → Nat → Int32) => ((.inl none, (x, S.2)) : am_R))) := by
  refine am_M_of (w := fun (x : Nat → Nat → Int32) => ((.inl none, (x, S.2)) : am_R)) hl (by decide) (am_fc rfl (am_fc rfl am_fn)) (Nat.le_of_ble_eq_true rfl) ?_
  show am_Ev E l (RX1, cX1_addStep, 2, none, [], am_rm 0 0 0) (fun b a s x => am_Z E 0 0 b a s ((fun (x : Nat → Nat → Int32) => ((.inl none, (x, S.2)) : am_R)) x)) 0 0 0 [some (.ref p0), some (.int p1)] [] S (f_X1_addStep S p0 p1)
  unfold f_X1_addStep
  refine ev_aload_n dX1_addStep_0 rfl ?_
  refine ev_get fk_X1_32 dX1_addStep_1 kp0 (am_fvI (by decide)) ?_
  refine ev_sipush (v := 400) dX1_addStep_4 (by decide) ?_
  refine ev_icmp_ge (tgt := 31) dX1_addStep_7 (by decide) (fun c1 => ?_) (fun c1 => ?_)
  · exact ev_vret dX1_addStep_31 rfl (by decide) (by decide) rfl
  · refine ev_aload_n dX1_addStep_10 rfl ?_
    refine ev_getR fk_X1_22 (by decide) dX1_addStep_11 kp0 (fun q2 k2 r2 => ?_)
    refine ev_aload_n dX1_addStep_14 rfl ?_
    refine ev_get fk_X1_32 dX1_addStep_15 kp0 (am_fvI (by decide)) ?_
    refine ev_iload_n dX1_addStep_18 rfl ?_
    refine ev_i2s dX1_addStep_19 ?_
    refine ev_sast dX1_addStep_20 k2 (fun σ3 h3 => ?_)
    refine ev_aload_n dX1_addStep_21 rfl ?_
    refine ev_dup dX1_addStep_22 rfl ?_
    refine ev_get fk_X1_32 dX1_addStep_23 kp0 (am_fvI (by decide)) ?_
    refine ev_iconst (v := 1) dX1_addStep_26 (by decide) ?_
    refine ev_iadd dX1_addStep_27 ?_
    refine ev_putI fk_X1_32 tyX1 tyX1_ok nmX1 rfl (by decide +kernel) (by decide) dX1_addStep_28 kp0 ?_
    exact ev_vret dX1_addStep_31 rfl (by decide) (by decide) rfl
def f_X4_isAtNumber (S : am_S) (p0 : Nat) : Option (Int32) :=
  (if (S.1 p0 5) = (-1) then (if (S.1 p0 4) = 48 then some 1 else some 0) else some 0)
set_option maxRecDepth 20000 in
theorem t_X4_isAtNumber {E : am_E} {l : Launch} (hl : l.stackTraces = false) {S : am_S} {p0 : Nat} (kp0 : am_kd p0 = 104) : am_M E l yX4_isAtNumber (.code yX4_isAtNumber cX4_isAtNumber 1 (some .boolean)) 0 0 0 [.ref p0] S ((f_X4_isAtNumber S p0).map (fun (v : Int32) => ((.inl (some (.int v)), S) : am_R))) := by
  refine am_M_of (w := fun (v : Int32) => ((.inl (some (.int v)), S) : am_R)) hl (by decide) (am_fc rfl am_fn) (Nat.le_of_ble_eq_true rfl) ?_
  show am_Ev E l (RX4, cX4_isAtNumber, 1, (some .boolean), [], am_rm 0 0 0) (fun b a s x => am_Z E 0 0 b a s ((fun (v : Int32) => ((.inl (some (.int v)), S) : am_R)) x)) 0 0 0 [some (.ref p0)] [] S (f_X4_isAtNumber S p0)
  unfold f_X4_isAtNumber
  refine ev_aload_n dX4_isAtNumber_0 rfl ?_
  refine ev_get fk_X4_28 dX4_isAtNumber_1 kp0 (am_fvI (by decide)) ?_
  refine ev_iconst (v := (-1)) dX4_isAtNumber_4 (by decide) ?_
  refine ev_icmp_ne (tgt := 21) dX4_isAtNumber_5 (by decide) (fun c1 => ?_) (fun c1 => ?_)
  · refine ev_iconst (v := 0) dX4_isAtNumber_21 (by decide) ?_
    exact ev_iret dX4_isAtNumber_22 rfl (by decide) (by decide) (by decide) rfl
  · refine ev_aload_n dX4_isAtNumber_8 rfl ?_
    refine ev_get fk_X4_41 dX4_isAtNumber_9 kp0 (am_fvI (by decide)) ?_
    refine ev_bipush (v := 48) dX4_isAtNumber_12 (by decide) ?_
    refine ev_icmp_ne (tgt := 21) dX4_isAtNumber_14 (by decide) (fun c2 => ?_) (fun c2 => ?_)
    · refine ev_iconst (v := 0) dX4_isAtNumber_21 (by decide) ?_
      exact ev_iret dX4_isAtNumber_22 rfl (by decide) (by decide) (by decide) rfl
    · refine ev_iconst (v := 1) dX4_isAtNumber_17 (by decide) ?_
      refine ev_goto (tgt := 22) dX4_isAtNumber_18 (by decide) ?_
      exact ev_iret dX4_isAtNumber_22 rfl (by decide) (by decide) (by decide) rfl
def f_X2_readFact (S : am_S) (p0 : Nat) : Option (Int32 × (Nat → Nat → Int32)) :=
  ((am_rd S.2 p0 0 104).bind (fun q1 => ((f_X4_isAt S q1 (1000 + 1)).bind (fun v3 => ((if v3 = 0 then ((am_rd S.2 p0 0 104).bind (fun q5 => ((f_X4_isAt S q5 (1000 + 13)).bind (fun v7 => (if v7 = 0 then ((am_rd S.2 p0 0 104).bind (fun q9 => ((f_X4_isAt S q9 (1000 + 14)).bind (fun v11 => (if v11 = 0 then ((am_rd S.2 p0 0 104).bind (fun q13 => ((f_X4_isAt S q13 (1000 + 15)).bind (fun v15 => (if v15 = 0 then ((am_rd S.2 p0 0 104).bind (fun q17 => ((f_X4_isAt S q17 (1000 + 16)).bind (fun v19 => (if v19 = 0 then some (0 : Int32) else some ((-5) : Int32)))))) else some ((-4) : Int32)))))) else some ((-3) : Int32)))))) else some ((-2) : Int32)))))) else some ((-1) : Int32)).bind (fun t4 => ((if t4 = 0 then ((am_rd S.2 p0 0 104).bind (fun q24 => ((f_X4_refuse S q24).bind (fun σ25 => some σ25)))) else ((am_rd S.2 p0 0 104).bind (fun q22 => ((f_X4_step S q22).bind (fun σ23 => some σ23))))).bind (fun t21 => some (t4, t21)))))))))
set_option maxRecDepth 20000 in
theorem t_X2_readFact {E : am_E} {l : Launch} (hl : l.stackTraces = false) {S : am_S} {p0 : Nat} (kp0 : am_kd p0 = 102) : am_M E l yX2_readFact (.code yX2_readFact cX2_readFact 2 (some .int)) 6 0 0 [.ref p0] S ((f_X2_readFact S p0).map (fun (x : Int32 × (Nat → Nat → Int32)) => ((.inl (some (.int x.1)), (x.2, S.2)) : am_R))) := by
  refine am_M_of (w := fun (x : Int32 × (Nat → Nat → Int32)) => ((.inl (some (.int x.1)), (x.2, S.2)) : am_R)) hl (by decide) (am_fc rfl am_fn) (Nat.le_of_ble_eq_true rfl) ?_
  show am_Ev E l (RX2, cX2_readFact, 2, (some .int), [], am_rm 6 0 0) (fun b a s x => am_Z E 0 0 b a s ((fun (x : Int32 × (Nat → Nat → Int32)) => ((.inl (some (.int x.1)), (x.2, S.2)) : am_R)) x)) 0 0 0 [some (.ref p0), none] [] S (f_X2_readFact S p0)
  unfold f_X2_readFact
  refine ev_aload_n dX2_readFact_0 rfl ?_
  refine ev_getR fk_X2_12 (by decide) dX2_readFact_1 kp0 (fun q1 k1 r1 => ?_)
  refine ev_ldcS (k := 1) (tx := "house") dX2_readFact_4 (show (RX2, 98, "house", 1) ∈ am_sts by decide +kernel) ?_
  refine ev_callP (am_callVN (as := [.ref (1000 + 1)]) (o := q1) (st := []) cv_X2_70 dX2_readFact_6 k1 rfl (am_le rfl) (am_fit (by omega) (by decide) (by decide) (by decide)) (am_no1 (fun _ => ⟨_, rfl⟩)) (t_X4_isAt hl k1 (by decide))) (fun v3 h3 => ?_)
  refine ev_reg (cs' := 0) (sl' := 0) 85 (fun t4 : Int32 => [some (.ref p0), none]) (fun t4 => [.int t4]) (fun t4 => S) (fun hJ4 => ?_) (fun t4 => ?_)
  · refine ev_eq am_ib ?_
    refine ev_if_eq (tgt := 16) dX2_readFact_9 (by decide) (fun c4 => ?_) (fun c4 => ?_)
    · refine ev_aload_n dX2_readFact_16 rfl ?_
      refine ev_eq (Option.bind_assoc _ _ _) ?_
      refine ev_getR fk_X2_12 (by decide) dX2_readFact_17 kp0 (fun q5 k5 r5 => ?_)
      refine ev_ldcS (k := 13) (tx := "coins") dX2_readFact_20 (show (RX2, 100, "coins", 13) ∈ am_sts by decide +kernel) ?_
      refine ev_eq (Option.bind_assoc _ _ _) ?_
      refine ev_callP (am_callVN (as := [.ref (1000 + 13)]) (o := q5) (st := []) cv_X2_70 dX2_readFact_22 k5 rfl (am_le rfl) (am_fit (by omega) (by decide) (by decide) (by decide)) (am_no1 (fun _ => ⟨_, rfl⟩)) (t_X4_isAt hl k5 (by decide))) (fun v7 h7 => ?_)
      refine ev_eq am_ib ?_
      refine ev_if_eq (tgt := 33) dX2_readFact_25 (by decide) (fun c8 => ?_) (fun c8 => ?_)
      · refine ev_aload_n dX2_readFact_33 rfl ?_
        refine ev_eq (Option.bind_assoc _ _ _) ?_
        refine ev_getR fk_X2_12 (by decide) dX2_readFact_34 kp0 (fun q9 k9 r9 => ?_)
        refine ev_ldcS (k := 14) (tx := "urgent") dX2_readFact_37 (show (RX2, 102, "urgent", 14) ∈ am_sts by decide +kernel) ?_
        refine ev_eq (Option.bind_assoc _ _ _) ?_
        refine ev_callP (am_callVN (as := [.ref (1000 + 14)]) (o := q9) (st := []) cv_X2_70 dX2_readFact_39 k9 rfl (am_le rfl) (am_fit (by omega) (by decide) (by decide) (by decide)) (am_no1 (fun _ => ⟨_, rfl⟩)) (t_X4_isAt hl k9 (by decide))) (fun v11 h11 => ?_)
        refine ev_eq am_ib ?_
        refine ev_if_eq (tgt := 50) dX2_readFact_42 (by decide) (fun c12 => ?_) (fun c12 => ?_)
        · refine ev_aload_n dX2_readFact_50 rfl ?_
          refine ev_eq (Option.bind_assoc _ _ _) ?_
          refine ev_getR fk_X2_12 (by decide) dX2_readFact_51 kp0 (fun q13 k13 r13 => ?_)
          refine ev_ldcS (k := 15) (tx := "cost") dX2_readFact_54 (show (RX2, 104, "cost", 15) ∈ am_sts by decide +kernel) ?_
          refine ev_eq (Option.bind_assoc _ _ _) ?_
          refine ev_callP (am_callVN (as := [.ref (1000 + 15)]) (o := q13) (st := []) cv_X2_70 dX2_readFact_56 k13 rfl (am_le rfl) (am_fit (by omega) (by decide) (by decide) (by decide)) (am_no1 (fun _ => ⟨_, rfl⟩)) (t_X4_isAt hl k13 (by decide))) (fun v15 h15 => ?_)
          refine ev_eq am_ib ?_
          refine ev_if_eq (tgt := 67) dX2_readFact_59 (by decide) (fun c16 => ?_) (fun c16 => ?_)
          · refine ev_aload_n dX2_readFact_67 rfl ?_
            refine ev_eq (Option.bind_assoc _ _ _) ?_
            refine ev_getR fk_X2_12 (by decide) dX2_readFact_68 kp0 (fun q17 k17 r17 => ?_)
            refine ev_ldcS (k := 16) (tx := "waited") dX2_readFact_71 (show (RX2, 106, "waited", 16) ∈ am_sts by decide +kernel) ?_
            refine ev_eq (Option.bind_assoc _ _ _) ?_
            refine ev_callP (am_callVN (as := [.ref (1000 + 16)]) (o := q17) (st := []) cv_X2_70 dX2_readFact_73 k17 rfl (am_le rfl) (am_fit (by omega) (by decide) (by decide) (by decide)) (am_no1 (fun _ => ⟨_, rfl⟩)) (t_X4_isAt hl k17 (by decide))) (fun v19 h19 => ?_)
            refine ev_eq am_ib ?_
            refine ev_if_eq (tgt := 84) dX2_readFact_76 (by decide) (fun c20 => ?_) (fun c20 => ?_)
            · refine ev_iconst (v := 0) dX2_readFact_84 (by decide) ?_
              exact ev_leaf (am_wk (am_wf am_wn)) (hJ4 (0 : Int32))
            · refine ev_bipush (v := (-5)) dX2_readFact_79 (by decide) ?_
              refine ev_goto (tgt := 85) dX2_readFact_81 (by decide) ?_
              exact ev_leaf (am_wk (am_wf am_wn)) (hJ4 ((-5) : Int32))
          · refine ev_bipush (v := (-4)) dX2_readFact_62 (by decide) ?_
            refine ev_goto (tgt := 85) dX2_readFact_64 (by decide) ?_
            exact ev_leaf (am_wk (am_wf am_wn)) (hJ4 ((-4) : Int32))
        · refine ev_bipush (v := (-3)) dX2_readFact_45 (by decide) ?_
          refine ev_goto (tgt := 85) dX2_readFact_47 (by decide) ?_
          exact ev_leaf (am_wk (am_wf am_wn)) (hJ4 ((-3) : Int32))
      · refine ev_bipush (v := (-2)) dX2_readFact_28 (by decide) ?_
        refine ev_goto (tgt := 85) dX2_readFact_30 (by decide) ?_
        exact ev_leaf (am_wk (am_wf am_wn)) (hJ4 ((-2) : Int32))
    · refine ev_iconst (v := (-1)) dX2_readFact_12 (by decide) ?_
      refine ev_goto (tgt := 85) dX2_readFact_13 (by decide) ?_
      exact ev_leaf (am_wk (am_wf am_wn)) (hJ4 ((-1) : Int32))
  · refine ev_istore_n dX2_readFact_85 (am_lt rfl) ?_
    refine ev_iload_n dX2_readFact_86 rfl ?_
    refine ev_reg (cs' := 0) (sl' := 0) 107 (fun t21 : (Nat → Nat → Int32) => [none, some (.int t4)]) (fun t21 => []) (fun t21 => (t21, S.2)) (fun hJ21 => ?_) (fun t21 => ?_)
    · refine ev_eq am_ib ?_
      refine ev_if_ne (tgt := 100) dX2_readFact_87 (by decide) (fun c21 => ?_) (fun c21 => ?_)
      · refine ev_aload_n dX2_readFact_100 rfl ?_
        refine ev_eq (Option.bind_assoc _ _ _) ?_
        refine ev_getR fk_X2_12 (by decide) dX2_readFact_101 kp0 (fun q22 k22 r22 => ?_)
        refine ev_eq (Option.bind_assoc _ _ _) ?_
        refine ev_callWV (am_callVN (as := []) (o := q22) (st := []) cv_X2_75 dX2_readFact_104 k22 rfl (am_le rfl) (am_fit (by omega) (by decide) (by decide) (by decide)) (am_no1 (fun _ => ⟨_, rfl⟩)) (t_X4_step hl k22)) (fun σ23 h23 => ?_)
        exact ev_leaf (am_wf (am_wk am_wn)) (hJ21 σ23)
      · refine ev_aload_n dX2_readFact_90 rfl ?_
        refine ev_eq (Option.bind_assoc _ _ _) ?_
        refine ev_getR fk_X2_12 (by decide) dX2_readFact_91 kp0 (fun q24 k24 r24 => ?_)
        refine ev_eq (Option.bind_assoc _ _ _) ?_
        refine ev_callWV (am_callVN (as := []) (o := q24) (st := []) cv_X2_37 dX2_readFact_94 k24 rfl (am_le rfl) (am_fit (by omega) (by decide) (by decide) (by decide)) (am_no1 (fun _ => ⟨_, rfl⟩)) (t_X4_refuse hl k24)) (fun σ25 h25 => ?_)
        refine ev_goto (tgt := 107) dX2_readFact_97 (by decide) ?_
        exact ev_leaf (am_wf (am_wk am_wn)) (hJ21 σ25)
    · refine ev_iload_n dX2_readFact_107 rfl ?_
      exact ev_iret dX2_readFact_108 rfl rfl (by decide) (by decide) rfl
def f_X2_readSum_b4 (S : am_S) (a0 : Nat) (a1 : Nat) (x1 : Int32 × Int32 × (Nat → Nat → Int32)) : Option ((Int32 × Int32 × (Nat → Nat → Int32)) ⊕ ((Nat → Nat → Int32))) :=
  (if x1.2.1 < 400 then (if x1.1 = 0 then some (.inr x1.2.2) else ((am_rd S.2 a0 0 104).bind (fun q4 => ((f_X4_isAtNumber (x1.2.2, S.2) q4).bind (fun v5 => ((if v5 = 0 then ((f_X2_readFact (x1.2.2, S.2) a0).bind (fun y7 => some (y7.1, y7.2))) else ((am_rd S.2 a0 0 104).bind (fun q8 => ((f_X4_number (x1.2.2, S.2) q8 0 999).bind (fun y9 => some (y9.1, y9.2)))))).bind (fun t6 => ((f_X1_addStep (t6.2, S.2) a1 t6.1).bind (fun σ10 => ((if 0 < x1.2.1 then ((f_X1_addStep (σ10, S.2) a1 (-6)).bind (fun σ12 => some σ12)) else some σ10).bind (fun t11 => ((am_rd S.2 a0 0 104).bind (fun q13 => ((f_X4_took (t11, S.2) q13 (1000 + 17)).bind (fun y15 => some (.inl (y15.1, (x1.2.1 + 1), y15.2))))))))))))))))) else some (.inr x1.2.2))
def f_X2_readSum (S : am_S) (p0 : Nat) (p1 : Nat) : Option ((Nat → Nat → Int32)) :=
  ((am_loop (f_X2_readSum_b4 S p0 p1) am_fuel (1, 0, S.1)).bind (fun t1 => some t1))
set_option maxRecDepth 20000 in
theorem t_X2_readSum {E : am_E} {l : Launch} (hl : l.stackTraces = false) {S : am_S} {p0 : Nat} {p1 : Nat} (kp0 : am_kd p0 = 102) (kp1 : am_kd p1 = 101) : am_M E l yX2_readSum (.code yX2_readSum cX2_readSum 4 none) 7 0 0 [.ref p0, .ref p1] S ((f_X2_readSum S p0 p1).map (fun (x : Nat → Nat → Int32) => ((.inl none, (x, S.2)) : am_R))) := by
  refine am_M_of (w := fun (x : Nat → Nat → Int32) => ((.inl none, (x, S.2)) : am_R)) hl (by decide) (am_fc rfl (am_fc rfl am_fn)) (Nat.le_of_ble_eq_true rfl) ?_
  show am_Ev E l (RX2, cX2_readSum, 4, none, [], am_rm 7 0 0) (fun b a s x => am_Z E 0 0 b a s ((fun (x : Nat → Nat → Int32) => ((.inl none, (x, S.2)) : am_R)) x)) 0 0 0 [some (.ref p0), some (.ref p1), none, none] [] S (f_X2_readSum S p0 p1)
  unfold f_X2_readSum
  refine ev_iconst (v := 1) dX2_readSum_0 (by decide) ?_
  refine ev_istore_n dX2_readSum_1 (am_lt rfl) ?_
  refine ev_iconst (v := 0) dX2_readSum_2 (by decide) ?_
  refine ev_istore_n dX2_readSum_3 (am_lt rfl) ?_
  refine ev_weak (am_wk (am_wk (am_wk (am_wk am_wn)))) (ev_loop 4 73 (fun x1 : Int32 × Int32 × (Nat → Nat → Int32) => [some (.ref p0), some (.ref p1), some (.int x1.1), some (.int x1.2.1)]) (fun t1 : (Nat → Nat → Int32) => [none, none, none, none]) (fun x1 => (x1.2.2, S.2)) (fun t1 => (t1, S.2)) (fun x1 G1 hB1 hE1 => ?_) (fun t1 => ?_) am_fuel (1, 0, S.1))
  · unfold f_X2_readSum_b4
    refine ev_iload_n dX2_readSum_4 rfl ?_
    refine ev_sipush (v := 400) dX2_readSum_5 (by decide) ?_
    refine ev_eq am_ib ?_
    refine ev_icmp_ge (tgt := 73) dX2_readSum_8 (by decide) (fun c16 => ?_) (fun c16 => ?_)
    · exact ev_leaf (am_wf (am_wf (am_wf (am_wf am_wn)))) (hE1 x1.2.2)
    · refine ev_iload_n dX2_readSum_11 rfl ?_
      refine ev_eq am_ib ?_
      refine ev_if_eq (tgt := 73) dX2_readSum_12 (by decide) (fun c17 => ?_) (fun c17 => ?_)
      · exact ev_leaf (am_wf (am_wf (am_wf (am_wf am_wn)))) (hE1 x1.2.2)
      · refine ev_aload_n dX2_readSum_15 rfl ?_
        refine ev_aload_n dX2_readSum_16 rfl ?_
        refine ev_eq (Option.bind_assoc _ _ _) ?_
        refine ev_getR fk_X2_12 (by decide) dX2_readSum_17 kp0 (fun q18 k18 r18 => ?_)
        refine ev_eq (Option.bind_assoc _ _ _) ?_
        refine ev_callP (am_callVN (as := []) (o := q18) (st := [.ref p1]) cv_X2_88 dX2_readSum_20 k18 rfl (am_le rfl) (am_fit (by omega) (by decide) (by decide) (by decide)) (am_no1 (fun _ => ⟨_, rfl⟩)) (t_X4_isAtNumber hl k18)) (fun v19 h19 => ?_)
        refine ev_eq (Option.bind_assoc _ _ _) ?_
        refine ev_reg (cs' := 0) (sl' := 0) 44 (fun t20 : Int32 × (Nat → Nat → Int32) => [some (.ref p0), some (.ref p1), none, some (.int x1.2.1)]) (fun t20 => [.int t20.1, .ref p1]) (fun t20 => (t20.2, S.2)) (fun hJ20 => ?_) (fun t20 => ?_)
        · refine ev_eq am_ib ?_
          refine ev_if_eq (tgt := 40) dX2_readSum_23 (by decide) (fun c20 => ?_) (fun c20 => ?_)
          · refine ev_aload_n dX2_readSum_40 rfl ?_
            refine ev_eq (Option.bind_assoc _ _ _) ?_
            refine ev_callWI (am_callV (as := []) (o := p0) (st := [.ref p1]) cv_X2_92 dX2_readSum_41 kp0 rfl (am_le rfl) (am_fit (by omega) (by decide) (by decide) (by decide)) (t_X2_readFact hl kp0)) (fun y21 h21 => ?_)
            exact ev_leaf (am_wk (am_wk (am_wf (am_wk am_wn)))) (hJ20 (y21.1, y21.2))
          · refine ev_aload_n dX2_readSum_26 rfl ?_
            refine ev_eq (Option.bind_assoc _ _ _) ?_
            refine ev_getR fk_X2_12 (by decide) dX2_readSum_27 kp0 (fun q22 k22 r22 => ?_)
            refine ev_iconst (v := 0) dX2_readSum_30 (by decide) ?_
            refine ev_sipush (v := 999) dX2_readSum_31 (by decide) ?_
            refine ev_eq (Option.bind_assoc _ _ _) ?_
            refine ev_callWI (am_callVN (as := [.int 0, .int 999]) (o := q22) (st := [.ref p1]) cv_X2_40 dX2_readSum_34 k22 rfl (am_le rfl) (am_fit (by omega) (by decide) (by decide) (by decide)) (am_no1 (fun _ => ⟨_, rfl⟩)) (t_X4_number hl k22)) (fun y23 h23 => ?_)
            refine ev_goto (tgt := 44) dX2_readSum_37 (by decide) ?_
            exact ev_leaf (am_wk (am_wk (am_wf (am_wk am_wn)))) (hJ20 (y23.1, y23.2))
        · refine ev_eq (Option.bind_assoc _ _ _) ?_
          refine ev_callWV (am_callVN (as := [.int t20.1]) (o := p1) (st := []) cv_X2_61 dX2_readSum_44 kp1 rfl (am_le rfl) (am_fit (by omega) (by decide) (by decide) (by decide)) (am_no1 (fun _ => ⟨_, rfl⟩)) (t_X1_addStep hl kp1)) (fun σ24 h24 => ?_)
          refine ev_iload_n dX2_readSum_47 rfl ?_
          refine ev_eq (Option.bind_assoc _ _ _) ?_
          refine ev_reg (cs' := 0) (sl' := 0) 57 (fun t25 : (Nat → Nat → Int32) => [some (.ref p0), some (.ref p1), none, some (.int x1.2.1)]) (fun t25 => []) (fun t25 => (t25, S.2)) (fun hJ25 => ?_) (fun t25 => ?_)
          · refine ev_eq am_ib ?_
            refine ev_if_le (tgt := 57) dX2_readSum_48 (by decide) (fun c25 => ?_) (fun c25 => ?_)
            · exact ev_leaf (am_wk (am_wk (am_wf (am_wk am_wn)))) (hJ25 σ24)
            · refine ev_aload_n dX2_readSum_51 rfl ?_
              refine ev_bipush (v := (-6)) dX2_readSum_52 (by decide) ?_
              refine ev_eq (Option.bind_assoc _ _ _) ?_
              refine ev_callWV (am_callVN (as := [.int (-6)]) (o := p1) (st := []) cv_X2_61 dX2_readSum_54 kp1 rfl (am_le rfl) (am_fit (by omega) (by decide) (by decide) (by decide)) (am_no1 (fun _ => ⟨_, rfl⟩)) (t_X1_addStep hl kp1)) (fun σ26 h26 => ?_)
              exact ev_leaf (am_wk (am_wk (am_wf (am_wk am_wn)))) (hJ25 σ26)
          · refine ev_aload_n dX2_readSum_57 rfl ?_
            refine ev_eq (Option.bind_assoc _ _ _) ?_
            refine ev_getR fk_X2_12 (by decide) dX2_readSum_58 kp0 (fun q27 k27 r27 => ?_)
            refine ev_ldcS (k := 17) (tx := "+") dX2_readSum_61 (show (RX2, 96, "+", 17) ∈ am_sts by decide +kernel) ?_
            refine ev_eq (Option.bind_assoc _ _ _) ?_
            refine ev_callWI (am_callVN (as := [.ref (1000 + 17)]) (o := q27) (st := []) cv_X2_33 dX2_readSum_63 k27 rfl (am_le rfl) (am_fit (by omega) (by decide) (by decide) (by decide)) (am_no1 (fun _ => ⟨_, rfl⟩)) (t_X4_took hl k27 (by decide))) (fun y29 h29 => ?_)
            refine ev_istore_n dX2_readSum_66 (am_lt rfl) ?_
            refine ev_iinc (v := (x1.2.1 + 1)) dX2_readSum_67 (am_lt rfl) rfl rfl ?_
            refine ev_goto (tgt := 4) dX2_readSum_70 (by decide) ?_
            exact ev_leaf (am_wk (am_wk (am_wk (am_wk am_wn)))) (hB1 (y29.1, (x1.2.1 + 1), y29.2))
  · exact ev_vret dX2_readSum_73 rfl (by decide) (by decide) rfl
def f_X2_readAtom_o (rc_X2_readAtom : am_S → Nat → Nat → Int32 → Option ((Nat → Nat → Int32))) (rc_X2_readCondition : am_S → Nat → Nat → Int32 → Option ((Nat → Nat → Int32))) (S : am_S) (p0 : Nat) (p1 : Nat) (p2 : Int32) : Option ((Nat → Nat → Int32)) :=
  ((am_rd S.2 p0 0 104).bind (fun q1 => ((f_X4_isAt S q1 (1000 + 10)).bind (fun v3 => ((am_rd S.2 p0 0 104).bind (fun q4 => ((f_X4_isAt S q4 (1000 + 11)).bind (fun v6 => (if v3 = 0 then (if v6 = 0 then (if v3 = 0 then (if v6 = 0 then ((f_X2_readSum S p0 p1).bind (fun σ46 => ((am_rd S.2 p0 0 104).bind (fun q47 => ((f_X4_isAt (σ46, S.2) q47 (1000 + 18)).bind (fun v49 => ((if v49 = 0 then some ((-8) : Int32) else some ((-7) : Int32)).bind (fun t50 => ((am_rd S.2 p0 0 104).bind (fun q51 => ((f_X4_took (σ46, S.2) q51 (1000 + 18)).bind (fun y53 => ((if y53.1 = 0 then ((am_rd S.2 p0 0 104).bind (fun q55 => ((f_X4_took (y53.2, S.2) q55 (1000 + 19)).bind (fun y57 => (if y57.1 = 0 then ((am_rd S.2 p0 0 104).bind (fun q59 => ((f_X4_refuse (y57.2, S.2) q59).bind (fun σ60 => some σ60)))) else some y57.2))))) else some y53.2).bind (fun t54 => ((f_X2_readSum (t54, S.2) p0 p1).bind (fun σ61 => ((f_X1_addStep (σ61, S.2) p1 t50).bind (fun σ62 => some σ62)))))))))))))))))) else ((am_rd S.2 p0 0 104).bind (fun q63 => ((f_X4_step S q63).bind (fun σ64 => ((rc_X2_readCondition (σ64, S.2) p0 p1 (p2 + 1)).bind (fun σ65 => ((am_rd S.2 p0 0 104).bind (fun q66 => ((f_X4_took (σ65, S.2) q66 (1000 + 12)).bind (fun y68 => (if y68.1 = 0 then ((am_rd S.2 p0 0 104).bind (fun q70 => ((f_X4_refuse (y68.2, S.2) q70).bind (fun σ71 => some σ71)))) else some y68.2)))))))))))) else ((am_rd S.2 p0 0 104).bind (fun q72 => ((f_X4_step S q72).bind (fun σ73 => ((rc_X2_readAtom (σ73, S.2) p0 p1 (p2 + 1)).bind (fun σ74 => ((f_X1_addStep (σ74, S.2) p1 (-9)).bind (fun σ75 => some σ75))))))))) else (if p2 < 6 then (if v3 = 0 then (if v6 = 0 then ((f_X2_readSum S p0 p1).bind (fun σ79 => ((am_rd S.2 p0 0 104).bind (fun q80 => ((f_X4_isAt (σ79, S.2) q80 (1000 + 18)).bind (fun v82 => ((if v82 = 0 then some ((-8) : Int32) else some ((-7) : Int32)).bind (fun t83 => ((am_rd S.2 p0 0 104).bind (fun q84 => ((f_X4_took (σ79, S.2) q84 (1000 + 18)).bind (fun y86 => ((if y86.1 = 0 then ((am_rd S.2 p0 0 104).bind (fun q88 => ((f_X4_took (y86.2, S.2) q88 (1000 + 19)).bind (fun y90 => (if y90.1 = 0 then ((am_rd S.2 p0 0 104).bind (fun q92 => ((f_X4_refuse (y90.2, S.2) q92).bind (fun σ93 => some σ93)))) else some y90.2))))) else some y86.2).bind (fun t87 => ((f_X2_readSum (t87, S.2) p0 p1).bind (fun σ94 => ((f_X1_addStep (σ94, S.2) p1 t83).bind (fun σ95 => some σ95)))))))))))))))))) else ((am_rd S.2 p0 0 104).bind (fun q96 => ((f_X4_step S q96).bind (fun σ97 => ((rc_X2_readCondition (σ97, S.2) p0 p1 (p2 + 1)).bind (fun σ98 => ((am_rd S.2 p0 0 104).bind (fun q99 => ((f_X4_took (σ98, S.2) q99 (1000 + 12)).bind (fun y101 => (if y101.1 = 0 then ((am_rd S.2 p0 0 104).bind (fun q103 => ((f_X4_refuse (y101.2, S.2) q103).bind (fun σ104 => some σ104)))) else some y101.2)))))))))))) else ((am_rd S.2 p0 0 104).bind (fun q105 => ((f_X4_step S q105).bind (fun σ106 => ((rc_X2_readAtom (σ106, S.2) p0 p1 (p2 + 1)).bind (fun σ107 => ((f_X1_addStep (σ107, S.2) p1 (-9)).bind (fun σ108 => some σ108))))))))) else ((am_rd S.2 p0 0 104).bind (fun q109 => ((f_X4_refuse S q109).bind (fun σ110 => some σ110)))))) else (if p2 < 6 then (if v3 = 0 then (if v6 = 0 then ((f_X2_readSum S p0 p1).bind (fun σ11 => ((am_rd S.2 p0 0 104).bind (fun q12 => ((f_X4_isAt (σ11, S.2) q12 (1000 + 18)).bind (fun v14 => ((if v14 = 0 then some ((-8) : Int32) else some ((-7) : Int32)).bind (fun t15 => ((am_rd S.2 p0 0 104).bind (fun q16 => ((f_X4_took (σ11, S.2) q16 (1000 + 18)).bind (fun y18 => ((if y18.1 = 0 then ((am_rd S.2 p0 0 104).bind (fun q20 => ((f_X4_took (y18.2, S.2) q20 (1000 + 19)).bind (fun y22 => (if y22.1 = 0 then ((am_rd S.2 p0 0 104).bind (fun q24 => ((f_X4_refuse (y22.2, S.2) q24).bind (fun σ25 => some σ25)))) else some y22.2))))) else some y18.2).bind (fun t19 => ((f_X2_readSum (t19, S.2) p0 p1).bind (fun σ26 => ((f_X1_addStep (σ26, S.2) p1 t15).bind (fun σ27 => some σ27)))))))))))))))))) else ((am_rd S.2 p0 0 104).bind (fun q28 => ((f_X4_step S q28).bind (fun σ29 => ((rc_X2_readCondition (σ29, S.2) p0 p1 (p2 + 1)).bind (fun σ30 => ((am_rd S.2 p0 0 104).bind (fun q31 => ((f_X4_took (σ30, S.2) q31 (1000 + 12)).bind (fun y33 => (if y33.1 = 0 then ((am_rd S.2 p0 0 104).bind (fun q35 => ((f_X4_refuse (y33.2, S.2) q35).bind (fun σ36 => some σ36)))) else some y33.2)))))))))))) else ((am_rd S.2 p0 0 104).bind (fun q37 => ((f_X4_step S q37).bind (fun σ38 => ((rc_X2_readAtom (σ38, S.2) p0 p1 (p2 + 1)).bind (fun σ39 => ((f_X1_addStep (σ39, S.2) p1 (-9)).bind (fun σ40 => some σ40))))))))) else ((am_rd S.2 p0 0 104).bind (fun q41 => ((f_X4_refuse S q41).bind (fun σ42 => some σ42))))))))))))))
set_option maxRecDepth 20000 in
theorem to_X2_readAtom {E : am_E} {l : Launch} (hl : l.stackTraces = false) {d : Nat} (hD : 7 ≤ d) {rc_X2_readAtom : am_S → Nat → Nat → Int32 → Option ((Nat → Nat → Int32))} {rc_X2_readCondition : am_S → Nat → Nat → Int32 → Option ((Nat → Nat → Int32))}  (ht_X2_readAtom : ∀ {S : am_S} {p0 : Nat} {p1 : Nat} {p2 : Int32} (kp0 : am_kd p0 = 102) (kp1 : am_kd p1 = 101), am_M E l yX2_readAtom (.code yX2_readAtom cX2_readAtom 6 none) (d) 0 0 [.ref p0, .ref p1, .int p2] S ((rc_X2_readAtom S p0 p1 p2).map (fun (x : Nat → Nat → Int32) => ((.inl none, (x, S.2)) : am_R)))) (ht_X2_readCondition : ∀ {S : am_S} {p0 : Nat} {p1 : Nat} {p2 : Int32} (kp0 : am_kd p0 = 102) (kp1 : am_kd p1 = 101), am_M E l yX2_readCondition (.code yX2_readCondition cX2_readCondition 7 none) (d) 0 0 [.ref p0, .ref p1, .int p2] S ((rc_X2_readCondition S p0 p1 p2).map (fun (x : Nat → Nat → Int32) => ((.inl none, (x, S.2)) : am_R)))) {S : am_S} {p0 : Nat} {p1 : Nat} {p2 : Int32} (kp0 : am_kd p0 = 102) (kp1 : am_kd p1 = 101) : am_M E l yX2_readAtom (.code yX2_readAtom cX2_readAtom 6 none) (d + 1) 0 0 [.ref p0, .ref p1, .int p2] S ((f_X2_readAtom_o rc_X2_readAtom rc_X2_readCondition S p0 p1 p2).map (fun (x : Nat → Nat → Int32) => ((.inl none, (x, S.2)) : am_R))) := by
  refine am_M_of (w := fun (x : Nat → Nat → Int32) => ((.inl none, (x, S.2)) : am_R)) hl (by decide) (am_fc rfl (am_fc rfl (am_fc rfl am_fn))) (Nat.le_of_ble_eq_true rfl) ?_
  show am_Ev E l (RX2, cX2_readAtom, 6, none, [], am_rm (d + 1) 0 0) (fun b a s x => am_Z E 0 0 b a s ((fun (x : Nat → Nat → Int32) => ((.inl none, (x, S.2)) : am_R)) x)) 0 0 0 [some (.ref p0), some (.ref p1), some (.int p2), none, none, none] [] S (f_X2_readAtom_o rc_X2_readAtom rc_X2_readCondition S p0 p1 p2)
  unfold f_X2_readAtom_o
  refine ev_aload_n dX2_readAtom_0 rfl ?_
  refine ev_getR fk_X2_12 (by decide) dX2_readAtom_1 kp0 (fun q1 k1 r1 => ?_)
  refine ev_ldcS (k := 10) (tx := "not") dX2_readAtom_4 (show (RX2, 68, "not", 10) ∈ am_sts by decide +kernel) ?_
  refine ev_callP (am_callVN (as := [.ref (1000 + 10)]) (o := q1) (st := []) cv_X2_70 dX2_readAtom_6 k1 rfl (am_le rfl) (am_fit (by omega) (by decide) (by decide) (by decide)) (am_no1 (fun _ => ⟨_, rfl⟩)) (t_X4_isAt hl k1 (by decide))) (fun v3 h3 => ?_)
  refine ev_istore_n dX2_readAtom_9 (am_lt rfl) ?_
  refine ev_aload_n dX2_readAtom_10 rfl ?_
  refine ev_getR fk_X2_12 (by decide) dX2_readAtom_11 kp0 (fun q4 k4 r4 => ?_)
  refine ev_ldcS (k := 11) (tx := "(") dX2_readAtom_14 (show (RX2, 73, "(", 11) ∈ am_sts by decide +kernel) ?_
  refine ev_callP (am_callVN (as := [.ref (1000 + 11)]) (o := q4) (st := []) cv_X2_70 dX2_readAtom_16 k4 rfl (am_le rfl) (am_fit (by omega) (by decide) (by decide) (by decide)) (am_no1 (fun _ => ⟨_, rfl⟩)) (t_X4_isAt hl k4 (by decide))) (fun v6 h6 => ?_)
  refine ev_istore dX2_readAtom_19 (am_lt rfl) ?_
  refine ev_iload_n dX2_readAtom_21 rfl ?_
  refine ev_if_ne (tgt := 30) dX2_readAtom_22 (by decide) (fun c7 => ?_) (fun c7 => ?_)
  · refine ev_iload_n dX2_readAtom_30 rfl ?_
    refine ev_bipush (v := 6) dX2_readAtom_31 (by decide) ?_
    refine ev_icmp_lt (tgt := 44) dX2_readAtom_33 (by decide) (fun c8 => ?_) (fun c8 => ?_)
    · refine ev_iload_n dX2_readAtom_44 rfl ?_
      refine ev_if_eq (tgt := 72) dX2_readAtom_45 (by decide) (fun c9 => ?_) (fun c9 => ?_)
      · refine ev_iload dX2_readAtom_72 rfl ?_
        refine ev_if_eq (tgt := 114) dX2_readAtom_74 (by decide) (fun c10 => ?_) (fun c10 => ?_)
        · refine ev_aload_n dX2_readAtom_114 rfl ?_
          refine ev_aload_n dX2_readAtom_115 rfl ?_
          refine ev_callWV (am_callV (as := [.ref p1]) (o := p0) (st := []) cv_X2_80 dX2_readAtom_116 kp0 rfl (am_le rfl) (am_fit (by omega) (by decide) (by decide) (by decide)) (t_X2_readSum hl kp0 kp1)) (fun σ11 h11 => ?_)
          refine ev_aload_n dX2_readAtom_119 rfl ?_
          refine ev_getR fk_X2_12 (by decide) dX2_readAtom_120 kp0 (fun q12 k12 r12 => ?_)
          refine ev_ldcS (k := 18) (tx := "<") dX2_readAtom_123 (show (RX2, 84, "<", 18) ∈ am_sts by decide +kernel) ?_
          refine ev_callP (am_callVN (as := [.ref (1000 + 18)]) (o := q12) (st := []) cv_X2_70 dX2_readAtom_125 k12 rfl (am_le rfl) (am_fit (by omega) (by decide) (by decide) (by decide)) (am_no1 (fun _ => ⟨_, rfl⟩)) (t_X4_isAt hl k12 (by decide))) (fun v14 h14 => ?_)
          refine ev_reg (cs' := 0) (sl' := 0) 138 (fun t15 : Int32 => [some (.ref p0), some (.ref p1), none, none, none, none]) (fun t15 => [.int t15]) (fun t15 => (σ11, S.2)) (fun hJ15 => ?_) (fun t15 => ?_)
          · refine ev_eq am_ib ?_
            refine ev_if_eq (tgt := 136) dX2_readAtom_128 (by decide) (fun c15 => ?_) (fun c15 => ?_)
            · refine ev_bipush (v := (-8)) dX2_readAtom_136 (by decide) ?_
              exact ev_leaf (am_wk (am_wk (am_wf (am_wf (am_wf (am_wf am_wn)))))) (hJ15 ((-8) : Int32))
            · refine ev_bipush (v := (-7)) dX2_readAtom_131 (by decide) ?_
              refine ev_goto (tgt := 138) dX2_readAtom_133 (by decide) ?_
              exact ev_leaf (am_wk (am_wk (am_wf (am_wf (am_wf (am_wf am_wn)))))) (hJ15 ((-7) : Int32))
          · refine ev_istore dX2_readAtom_138 (am_lt rfl) ?_
            refine ev_aload_n dX2_readAtom_140 rfl ?_
            refine ev_getR fk_X2_12 (by decide) dX2_readAtom_141 kp0 (fun q16 k16 r16 => ?_)
            refine ev_ldcS (k := 18) (tx := "<") dX2_readAtom_144 (show (RX2, 84, "<", 18) ∈ am_sts by decide +kernel) ?_
            refine ev_callWI (am_callVN (as := [.ref (1000 + 18)]) (o := q16) (st := []) cv_X2_33 dX2_readAtom_146 k16 rfl (am_le rfl) (am_fit (by omega) (by decide) (by decide) (by decide)) (am_no1 (fun _ => ⟨_, rfl⟩)) (t_X4_took hl k16 (by decide))) (fun y18 h18 => ?_)
            refine ev_reg (cs' := 0) (sl' := 0) 171 (fun t19 : (Nat → Nat → Int32) => [some (.ref p0), some (.ref p1), none, none, none, some (.int t15)]) (fun t19 => []) (fun t19 => (t19, S.2)) (fun hJ19 => ?_) (fun t19 => ?_)
            · refine ev_eq am_ib ?_
              refine ev_if_ne (tgt := 171) dX2_readAtom_149 (by decide) (fun c19 => ?_) (fun c19 => ?_)
              · exact ev_leaf (am_wk (am_wk (am_wf (am_wf (am_wf (am_wk am_wn)))))) (hJ19 y18.2)
              · refine ev_aload_n dX2_readAtom_152 rfl ?_
                refine ev_eq (Option.bind_assoc _ _ _) ?_
                refine ev_getR fk_X2_12 (by decide) dX2_readAtom_153 kp0 (fun q20 k20 r20 => ?_)
                refine ev_ldcS (k := 19) (tx := ">") dX2_readAtom_156 (show (RX2, 86, ">", 19) ∈ am_sts by decide +kernel) ?_
                refine ev_eq (Option.bind_assoc _ _ _) ?_
                refine ev_callWI (am_callVN (as := [.ref (1000 + 19)]) (o := q20) (st := []) cv_X2_33 dX2_readAtom_158 k20 rfl (am_le rfl) (am_fit (by omega) (by decide) (by decide) (by decide)) (am_no1 (fun _ => ⟨_, rfl⟩)) (t_X4_took hl k20 (by decide))) (fun y22 h22 => ?_)
                refine ev_eq am_ib ?_
                refine ev_if_ne (tgt := 171) dX2_readAtom_161 (by decide) (fun c23 => ?_) (fun c23 => ?_)
                · exact ev_leaf (am_wk (am_wk (am_wf (am_wf (am_wf (am_wk am_wn)))))) (hJ19 y22.2)
                · refine ev_aload_n dX2_readAtom_164 rfl ?_
                  refine ev_eq (Option.bind_assoc _ _ _) ?_
                  refine ev_getR fk_X2_12 (by decide) dX2_readAtom_165 kp0 (fun q24 k24 r24 => ?_)
                  refine ev_eq (Option.bind_assoc _ _ _) ?_
                  refine ev_callWV (am_callVN (as := []) (o := q24) (st := []) cv_X2_37 dX2_readAtom_168 k24 rfl (am_le rfl) (am_fit (by omega) (by decide) (by decide) (by decide)) (am_no1 (fun _ => ⟨_, rfl⟩)) (t_X4_refuse hl k24)) (fun σ25 h25 => ?_)
                  exact ev_leaf (am_wk (am_wk (am_wf (am_wf (am_wf (am_wk am_wn)))))) (hJ19 σ25)
            · refine ev_aload_n dX2_readAtom_171 rfl ?_
              refine ev_aload_n dX2_readAtom_172 rfl ?_
              refine ev_callWV (am_callV (as := [.ref p1]) (o := p0) (st := []) cv_X2_80 dX2_readAtom_173 kp0 rfl (am_le rfl) (am_fit (by omega) (by decide) (by decide) (by decide)) (t_X2_readSum hl kp0 kp1)) (fun σ26 h26 => ?_)
              refine ev_aload_n dX2_readAtom_176 rfl ?_
              refine ev_iload dX2_readAtom_177 rfl ?_
              refine ev_callWV (am_callVN (as := [.int t15]) (o := p1) (st := []) cv_X2_61 dX2_readAtom_179 kp1 rfl (am_le rfl) (am_fit (by omega) (by decide) (by decide) (by decide)) (am_no1 (fun _ => ⟨_, rfl⟩)) (t_X1_addStep hl kp1)) (fun σ27 h27 => ?_)
              exact ev_vret dX2_readAtom_182 rfl (by decide) (by decide) rfl
        · refine ev_aload_n dX2_readAtom_77 rfl ?_
          refine ev_getR fk_X2_12 (by decide) dX2_readAtom_78 kp0 (fun q28 k28 r28 => ?_)
          refine ev_callWV (am_callVN (as := []) (o := q28) (st := []) cv_X2_75 dX2_readAtom_81 k28 rfl (am_le rfl) (am_fit (by omega) (by decide) (by decide) (by decide)) (am_no1 (fun _ => ⟨_, rfl⟩)) (t_X4_step hl k28)) (fun σ29 h29 => ?_)
          refine ev_aload_n dX2_readAtom_84 rfl ?_
          refine ev_aload_n dX2_readAtom_85 rfl ?_
          refine ev_iload_n dX2_readAtom_86 rfl ?_
          refine ev_iconst (v := 1) dX2_readAtom_87 (by decide) ?_
          refine ev_iadd dX2_readAtom_88 ?_
          refine ev_callWV (am_callV (as := [.ref p1, .int (p2 + 1)]) (o := p0) (st := []) cv_X2_46 dX2_readAtom_89 kp0 rfl (am_le rfl) (am_fit (by omega) (by decide) (by decide) (by decide)) (ht_X2_readCondition kp0 kp1)) (fun σ30 h30 => ?_)
          refine ev_aload_n dX2_readAtom_92 rfl ?_
          refine ev_getR fk_X2_12 (by decide) dX2_readAtom_93 kp0 (fun q31 k31 r31 => ?_)
          refine ev_ldcS (k := 12) (tx := ")") dX2_readAtom_96 (show (RX2, 78, ")", 12) ∈ am_sts by decide +kernel) ?_
          refine ev_callWI (am_callVN (as := [.ref (1000 + 12)]) (o := q31) (st := []) cv_X2_33 dX2_readAtom_98 k31 rfl (am_le rfl) (am_fit (by omega) (by decide) (by decide) (by decide)) (am_no1 (fun _ => ⟨_, rfl⟩)) (t_X4_took hl k31 (by decide))) (fun y33 h33 => ?_)
          refine ev_if_ne (tgt := 182) dX2_readAtom_101 (by decide) (fun c34 => ?_) (fun c34 => ?_)
          · exact ev_vret dX2_readAtom_182 rfl (by decide) (by decide) rfl
          · refine ev_aload_n dX2_readAtom_104 rfl ?_
            refine ev_getR fk_X2_12 (by decide) dX2_readAtom_105 kp0 (fun q35 k35 r35 => ?_)
            refine ev_callWV (am_callVN (as := []) (o := q35) (st := []) cv_X2_37 dX2_readAtom_108 k35 rfl (am_le rfl) (am_fit (by omega) (by decide) (by decide) (by decide)) (am_no1 (fun _ => ⟨_, rfl⟩)) (t_X4_refuse hl k35)) (fun σ36 h36 => ?_)
            refine ev_goto (tgt := 182) dX2_readAtom_111 (by decide) ?_
            exact ev_vret dX2_readAtom_182 rfl (by decide) (by decide) rfl
      · refine ev_aload_n dX2_readAtom_48 rfl ?_
        refine ev_getR fk_X2_12 (by decide) dX2_readAtom_49 kp0 (fun q37 k37 r37 => ?_)
        refine ev_callWV (am_callVN (as := []) (o := q37) (st := []) cv_X2_75 dX2_readAtom_52 k37 rfl (am_le rfl) (am_fit (by omega) (by decide) (by decide) (by decide)) (am_no1 (fun _ => ⟨_, rfl⟩)) (t_X4_step hl k37)) (fun σ38 h38 => ?_)
        refine ev_aload_n dX2_readAtom_55 rfl ?_
        refine ev_aload_n dX2_readAtom_56 rfl ?_
        refine ev_iload_n dX2_readAtom_57 rfl ?_
        refine ev_iconst (v := 1) dX2_readAtom_58 (by decide) ?_
        refine ev_iadd dX2_readAtom_59 ?_
        refine ev_callWV (am_callV (as := [.ref p1, .int (p2 + 1)]) (o := p0) (st := []) cv_X2_58 dX2_readAtom_60 kp0 rfl (am_le rfl) (am_fit (by omega) (by decide) (by decide) (by decide)) (ht_X2_readAtom kp0 kp1)) (fun σ39 h39 => ?_)
        refine ev_aload_n dX2_readAtom_63 rfl ?_
        refine ev_bipush (v := (-9)) dX2_readAtom_64 (by decide) ?_
        refine ev_callWV (am_callVN (as := [.int (-9)]) (o := p1) (st := []) cv_X2_61 dX2_readAtom_66 kp1 rfl (am_le rfl) (am_fit (by omega) (by decide) (by decide) (by decide)) (am_no1 (fun _ => ⟨_, rfl⟩)) (t_X1_addStep hl kp1)) (fun σ40 h40 => ?_)
        refine ev_goto (tgt := 182) dX2_readAtom_69 (by decide) ?_
        exact ev_vret dX2_readAtom_182 rfl (by decide) (by decide) rfl
    · refine ev_aload_n dX2_readAtom_36 rfl ?_
      refine ev_getR fk_X2_12 (by decide) dX2_readAtom_37 kp0 (fun q41 k41 r41 => ?_)
      refine ev_callWV (am_callVN (as := []) (o := q41) (st := []) cv_X2_37 dX2_readAtom_40 k41 rfl (am_le rfl) (am_fit (by omega) (by decide) (by decide) (by decide)) (am_no1 (fun _ => ⟨_, rfl⟩)) (t_X4_refuse hl k41)) (fun σ42 h42 => ?_)
      exact ev_vret dX2_readAtom_43 rfl (by decide) (by decide) rfl
  · refine ev_iload dX2_readAtom_25 rfl ?_
    refine ev_if_eq (tgt := 44) dX2_readAtom_27 (by decide) (fun c43 => ?_) (fun c43 => ?_)
    · refine ev_iload_n dX2_readAtom_44 rfl ?_
      refine ev_if_eq (tgt := 72) dX2_readAtom_45 (by decide) (fun c44 => ?_) (fun c44 => ?_)
      · refine ev_iload dX2_readAtom_72 rfl ?_
        refine ev_if_eq (tgt := 114) dX2_readAtom_74 (by decide) (fun c45 => ?_) (fun c45 => ?_)
        · refine ev_aload_n dX2_readAtom_114 rfl ?_
          refine ev_aload_n dX2_readAtom_115 rfl ?_
          refine ev_callWV (am_callV (as := [.ref p1]) (o := p0) (st := []) cv_X2_80 dX2_readAtom_116 kp0 rfl (am_le rfl) (am_fit (by omega) (by decide) (by decide) (by decide)) (t_X2_readSum hl kp0 kp1)) (fun σ46 h46 => ?_)
          refine ev_aload_n dX2_readAtom_119 rfl ?_
          refine ev_getR fk_X2_12 (by decide) dX2_readAtom_120 kp0 (fun q47 k47 r47 => ?_)
          refine ev_ldcS (k := 18) (tx := "<") dX2_readAtom_123 (show (RX2, 84, "<", 18) ∈ am_sts by decide +kernel) ?_
          refine ev_callP (am_callVN (as := [.ref (1000 + 18)]) (o := q47) (st := []) cv_X2_70 dX2_readAtom_125 k47 rfl (am_le rfl) (am_fit (by omega) (by decide) (by decide) (by decide)) (am_no1 (fun _ => ⟨_, rfl⟩)) (t_X4_isAt hl k47 (by decide))) (fun v49 h49 => ?_)
          refine ev_reg (cs' := 0) (sl' := 0) 138 (fun t50 : Int32 => [some (.ref p0), some (.ref p1), none, none, none, none]) (fun t50 => [.int t50]) (fun t50 => (σ46, S.2)) (fun hJ50 => ?_) (fun t50 => ?_)
          · refine ev_eq am_ib ?_
            refine ev_if_eq (tgt := 136) dX2_readAtom_128 (by decide) (fun c50 => ?_) (fun c50 => ?_)
            · refine ev_bipush (v := (-8)) dX2_readAtom_136 (by decide) ?_
              exact ev_leaf (am_wk (am_wk (am_wf (am_wf (am_wf (am_wf am_wn)))))) (hJ50 ((-8) : Int32))
            · refine ev_bipush (v := (-7)) dX2_readAtom_131 (by decide) ?_
              refine ev_goto (tgt := 138) dX2_readAtom_133 (by decide) ?_
              exact ev_leaf (am_wk (am_wk (am_wf (am_wf (am_wf (am_wf am_wn)))))) (hJ50 ((-7) : Int32))
          · refine ev_istore dX2_readAtom_138 (am_lt rfl) ?_
            refine ev_aload_n dX2_readAtom_140 rfl ?_
            refine ev_getR fk_X2_12 (by decide) dX2_readAtom_141 kp0 (fun q51 k51 r51 => ?_)
            refine ev_ldcS (k := 18) (tx := "<") dX2_readAtom_144 (show (RX2, 84, "<", 18) ∈ am_sts by decide +kernel) ?_
            refine ev_callWI (am_callVN (as := [.ref (1000 + 18)]) (o := q51) (st := []) cv_X2_33 dX2_readAtom_146 k51 rfl (am_le rfl) (am_fit (by omega) (by decide) (by decide) (by decide)) (am_no1 (fun _ => ⟨_, rfl⟩)) (t_X4_took hl k51 (by decide))) (fun y53 h53 => ?_)
            refine ev_reg (cs' := 0) (sl' := 0) 171 (fun t54 : (Nat → Nat → Int32) => [some (.ref p0), some (.ref p1), none, none, none, some (.int t50)]) (fun t54 => []) (fun t54 => (t54, S.2)) (fun hJ54 => ?_) (fun t54 => ?_)
            · refine ev_eq am_ib ?_
              refine ev_if_ne (tgt := 171) dX2_readAtom_149 (by decide) (fun c54 => ?_) (fun c54 => ?_)
              · exact ev_leaf (am_wk (am_wk (am_wf (am_wf (am_wf (am_wk am_wn)))))) (hJ54 y53.2)
              · refine ev_aload_n dX2_readAtom_152 rfl ?_
                refine ev_eq (Option.bind_assoc _ _ _) ?_
                refine ev_getR fk_X2_12 (by decide) dX2_readAtom_153 kp0 (fun q55 k55 r55 => ?_)
                refine ev_ldcS (k := 19) (tx := ">") dX2_readAtom_156 (show (RX2, 86, ">", 19) ∈ am_sts by decide +kernel) ?_
                refine ev_eq (Option.bind_assoc _ _ _) ?_
                refine ev_callWI (am_callVN (as := [.ref (1000 + 19)]) (o := q55) (st := []) cv_X2_33 dX2_readAtom_158 k55 rfl (am_le rfl) (am_fit (by omega) (by decide) (by decide) (by decide)) (am_no1 (fun _ => ⟨_, rfl⟩)) (t_X4_took hl k55 (by decide))) (fun y57 h57 => ?_)
                refine ev_eq am_ib ?_
                refine ev_if_ne (tgt := 171) dX2_readAtom_161 (by decide) (fun c58 => ?_) (fun c58 => ?_)
                · exact ev_leaf (am_wk (am_wk (am_wf (am_wf (am_wf (am_wk am_wn)))))) (hJ54 y57.2)
                · refine ev_aload_n dX2_readAtom_164 rfl ?_
                  refine ev_eq (Option.bind_assoc _ _ _) ?_
                  refine ev_getR fk_X2_12 (by decide) dX2_readAtom_165 kp0 (fun q59 k59 r59 => ?_)
                  refine ev_eq (Option.bind_assoc _ _ _) ?_
                  refine ev_callWV (am_callVN (as := []) (o := q59) (st := []) cv_X2_37 dX2_readAtom_168 k59 rfl (am_le rfl) (am_fit (by omega) (by decide) (by decide) (by decide)) (am_no1 (fun _ => ⟨_, rfl⟩)) (t_X4_refuse hl k59)) (fun σ60 h60 => ?_)
                  exact ev_leaf (am_wk (am_wk (am_wf (am_wf (am_wf (am_wk am_wn)))))) (hJ54 σ60)
            · refine ev_aload_n dX2_readAtom_171 rfl ?_
              refine ev_aload_n dX2_readAtom_172 rfl ?_
              refine ev_callWV (am_callV (as := [.ref p1]) (o := p0) (st := []) cv_X2_80 dX2_readAtom_173 kp0 rfl (am_le rfl) (am_fit (by omega) (by decide) (by decide) (by decide)) (t_X2_readSum hl kp0 kp1)) (fun σ61 h61 => ?_)
              refine ev_aload_n dX2_readAtom_176 rfl ?_
              refine ev_iload dX2_readAtom_177 rfl ?_
              refine ev_callWV (am_callVN (as := [.int t50]) (o := p1) (st := []) cv_X2_61 dX2_readAtom_179 kp1 rfl (am_le rfl) (am_fit (by omega) (by decide) (by decide) (by decide)) (am_no1 (fun _ => ⟨_, rfl⟩)) (t_X1_addStep hl kp1)) (fun σ62 h62 => ?_)
              exact ev_vret dX2_readAtom_182 rfl (by decide) (by decide) rfl
        · refine ev_aload_n dX2_readAtom_77 rfl ?_
          refine ev_getR fk_X2_12 (by decide) dX2_readAtom_78 kp0 (fun q63 k63 r63 => ?_)
          refine ev_callWV (am_callVN (as := []) (o := q63) (st := []) cv_X2_75 dX2_readAtom_81 k63 rfl (am_le rfl) (am_fit (by omega) (by decide) (by decide) (by decide)) (am_no1 (fun _ => ⟨_, rfl⟩)) (t_X4_step hl k63)) (fun σ64 h64 => ?_)
          refine ev_aload_n dX2_readAtom_84 rfl ?_
          refine ev_aload_n dX2_readAtom_85 rfl ?_
          refine ev_iload_n dX2_readAtom_86 rfl ?_
          refine ev_iconst (v := 1) dX2_readAtom_87 (by decide) ?_
          refine ev_iadd dX2_readAtom_88 ?_
          refine ev_callWV (am_callV (as := [.ref p1, .int (p2 + 1)]) (o := p0) (st := []) cv_X2_46 dX2_readAtom_89 kp0 rfl (am_le rfl) (am_fit (by omega) (by decide) (by decide) (by decide)) (ht_X2_readCondition kp0 kp1)) (fun σ65 h65 => ?_)
          refine ev_aload_n dX2_readAtom_92 rfl ?_
          refine ev_getR fk_X2_12 (by decide) dX2_readAtom_93 kp0 (fun q66 k66 r66 => ?_)
          refine ev_ldcS (k := 12) (tx := ")") dX2_readAtom_96 (show (RX2, 78, ")", 12) ∈ am_sts by decide +kernel) ?_
          refine ev_callWI (am_callVN (as := [.ref (1000 + 12)]) (o := q66) (st := []) cv_X2_33 dX2_readAtom_98 k66 rfl (am_le rfl) (am_fit (by omega) (by decide) (by decide) (by decide)) (am_no1 (fun _ => ⟨_, rfl⟩)) (t_X4_took hl k66 (by decide))) (fun y68 h68 => ?_)
          refine ev_if_ne (tgt := 182) dX2_readAtom_101 (by decide) (fun c69 => ?_) (fun c69 => ?_)
          · exact ev_vret dX2_readAtom_182 rfl (by decide) (by decide) rfl
          · refine ev_aload_n dX2_readAtom_104 rfl ?_
            refine ev_getR fk_X2_12 (by decide) dX2_readAtom_105 kp0 (fun q70 k70 r70 => ?_)
            refine ev_callWV (am_callVN (as := []) (o := q70) (st := []) cv_X2_37 dX2_readAtom_108 k70 rfl (am_le rfl) (am_fit (by omega) (by decide) (by decide) (by decide)) (am_no1 (fun _ => ⟨_, rfl⟩)) (t_X4_refuse hl k70)) (fun σ71 h71 => ?_)
            refine ev_goto (tgt := 182) dX2_readAtom_111 (by decide) ?_
            exact ev_vret dX2_readAtom_182 rfl (by decide) (by decide) rfl
      · refine ev_aload_n dX2_readAtom_48 rfl ?_
        refine ev_getR fk_X2_12 (by decide) dX2_readAtom_49 kp0 (fun q72 k72 r72 => ?_)
        refine ev_callWV (am_callVN (as := []) (o := q72) (st := []) cv_X2_75 dX2_readAtom_52 k72 rfl (am_le rfl) (am_fit (by omega) (by decide) (by decide) (by decide)) (am_no1 (fun _ => ⟨_, rfl⟩)) (t_X4_step hl k72)) (fun σ73 h73 => ?_)
        refine ev_aload_n dX2_readAtom_55 rfl ?_
        refine ev_aload_n dX2_readAtom_56 rfl ?_
        refine ev_iload_n dX2_readAtom_57 rfl ?_
        refine ev_iconst (v := 1) dX2_readAtom_58 (by decide) ?_
        refine ev_iadd dX2_readAtom_59 ?_
        refine ev_callWV (am_callV (as := [.ref p1, .int (p2 + 1)]) (o := p0) (st := []) cv_X2_58 dX2_readAtom_60 kp0 rfl (am_le rfl) (am_fit (by omega) (by decide) (by decide) (by decide)) (ht_X2_readAtom kp0 kp1)) (fun σ74 h74 => ?_)
        refine ev_aload_n dX2_readAtom_63 rfl ?_
        refine ev_bipush (v := (-9)) dX2_readAtom_64 (by decide) ?_
        refine ev_callWV (am_callVN (as := [.int (-9)]) (o := p1) (st := []) cv_X2_61 dX2_readAtom_66 kp1 rfl (am_le rfl) (am_fit (by omega) (by decide) (by decide) (by decide)) (am_no1 (fun _ => ⟨_, rfl⟩)) (t_X1_addStep hl kp1)) (fun σ75 h75 => ?_)
        refine ev_goto (tgt := 182) dX2_readAtom_69 (by decide) ?_
        exact ev_vret dX2_readAtom_182 rfl (by decide) (by decide) rfl
    · refine ev_iload_n dX2_readAtom_30 rfl ?_
      refine ev_bipush (v := 6) dX2_readAtom_31 (by decide) ?_
      refine ev_icmp_lt (tgt := 44) dX2_readAtom_33 (by decide) (fun c76 => ?_) (fun c76 => ?_)
      · refine ev_iload_n dX2_readAtom_44 rfl ?_
        refine ev_if_eq (tgt := 72) dX2_readAtom_45 (by decide) (fun c77 => ?_) (fun c77 => ?_)
        · refine ev_iload dX2_readAtom_72 rfl ?_
          refine ev_if_eq (tgt := 114) dX2_readAtom_74 (by decide) (fun c78 => ?_) (fun c78 => ?_)
          · refine ev_aload_n dX2_readAtom_114 rfl ?_
            refine ev_aload_n dX2_readAtom_115 rfl ?_
            refine ev_callWV (am_callV (as := [.ref p1]) (o := p0) (st := []) cv_X2_80 dX2_readAtom_116 kp0 rfl (am_le rfl) (am_fit (by omega) (by decide) (by decide) (by decide)) (t_X2_readSum hl kp0 kp1)) (fun σ79 h79 => ?_)
            refine ev_aload_n dX2_readAtom_119 rfl ?_
            refine ev_getR fk_X2_12 (by decide) dX2_readAtom_120 kp0 (fun q80 k80 r80 => ?_)
            refine ev_ldcS (k := 18) (tx := "<") dX2_readAtom_123 (show (RX2, 84, "<", 18) ∈ am_sts by decide +kernel) ?_
            refine ev_callP (am_callVN (as := [.ref (1000 + 18)]) (o := q80) (st := []) cv_X2_70 dX2_readAtom_125 k80 rfl (am_le rfl) (am_fit (by omega) (by decide) (by decide) (by decide)) (am_no1 (fun _ => ⟨_, rfl⟩)) (t_X4_isAt hl k80 (by decide))) (fun v82 h82 => ?_)
            refine ev_reg (cs' := 0) (sl' := 0) 138 (fun t83 : Int32 => [some (.ref p0), some (.ref p1), none, none, none, none]) (fun t83 => [.int t83]) (fun t83 => (σ79, S.2)) (fun hJ83 => ?_) (fun t83 => ?_)
            · refine ev_eq am_ib ?_
              refine ev_if_eq (tgt := 136) dX2_readAtom_128 (by decide) (fun c83 => ?_) (fun c83 => ?_)
              · refine ev_bipush (v := (-8)) dX2_readAtom_136 (by decide) ?_
                exact ev_leaf (am_wk (am_wk (am_wf (am_wf (am_wf (am_wf am_wn)))))) (hJ83 ((-8) : Int32))
              · refine ev_bipush (v := (-7)) dX2_readAtom_131 (by decide) ?_
                refine ev_goto (tgt := 138) dX2_readAtom_133 (by decide) ?_
                exact ev_leaf (am_wk (am_wk (am_wf (am_wf (am_wf (am_wf am_wn)))))) (hJ83 ((-7) : Int32))
            · refine ev_istore dX2_readAtom_138 (am_lt rfl) ?_
              refine ev_aload_n dX2_readAtom_140 rfl ?_
              refine ev_getR fk_X2_12 (by decide) dX2_readAtom_141 kp0 (fun q84 k84 r84 => ?_)
              refine ev_ldcS (k := 18) (tx := "<") dX2_readAtom_144 (show (RX2, 84, "<", 18) ∈ am_sts by decide +kernel) ?_
              refine ev_callWI (am_callVN (as := [.ref (1000 + 18)]) (o := q84) (st := []) cv_X2_33 dX2_readAtom_146 k84 rfl (am_le rfl) (am_fit (by omega) (by decide) (by decide) (by decide)) (am_no1 (fun _ => ⟨_, rfl⟩)) (t_X4_took hl k84 (by decide))) (fun y86 h86 => ?_)
              refine ev_reg (cs' := 0) (sl' := 0) 171 (fun t87 : (Nat → Nat → Int32) => [some (.ref p0), some (.ref p1), none, none, none, some (.int t83)]) (fun t87 => []) (fun t87 => (t87, S.2)) (fun hJ87 => ?_) (fun t87 => ?_)
              · refine ev_eq am_ib ?_
                refine ev_if_ne (tgt := 171) dX2_readAtom_149 (by decide) (fun c87 => ?_) (fun c87 => ?_)
                · exact ev_leaf (am_wk (am_wk (am_wf (am_wf (am_wf (am_wk am_wn)))))) (hJ87 y86.2)
                · refine ev_aload_n dX2_readAtom_152 rfl ?_
                  refine ev_eq (Option.bind_assoc _ _ _) ?_
                  refine ev_getR fk_X2_12 (by decide) dX2_readAtom_153 kp0 (fun q88 k88 r88 => ?_)
                  refine ev_ldcS (k := 19) (tx := ">") dX2_readAtom_156 (show (RX2, 86, ">", 19) ∈ am_sts by decide +kernel) ?_
                  refine ev_eq (Option.bind_assoc _ _ _) ?_
                  refine ev_callWI (am_callVN (as := [.ref (1000 + 19)]) (o := q88) (st := []) cv_X2_33 dX2_readAtom_158 k88 rfl (am_le rfl) (am_fit (by omega) (by decide) (by decide) (by decide)) (am_no1 (fun _ => ⟨_, rfl⟩)) (t_X4_took hl k88 (by decide))) (fun y90 h90 => ?_)
                  refine ev_eq am_ib ?_
                  refine ev_if_ne (tgt := 171) dX2_readAtom_161 (by decide) (fun c91 => ?_) (fun c91 => ?_)
                  · exact ev_leaf (am_wk (am_wk (am_wf (am_wf (am_wf (am_wk am_wn)))))) (hJ87 y90.2)
                  · refine ev_aload_n dX2_readAtom_164 rfl ?_
                    refine ev_eq (Option.bind_assoc _ _ _) ?_
                    refine ev_getR fk_X2_12 (by decide) dX2_readAtom_165 kp0 (fun q92 k92 r92 => ?_)
                    refine ev_eq (Option.bind_assoc _ _ _) ?_
                    refine ev_callWV (am_callVN (as := []) (o := q92) (st := []) cv_X2_37 dX2_readAtom_168 k92 rfl (am_le rfl) (am_fit (by omega) (by decide) (by decide) (by decide)) (am_no1 (fun _ => ⟨_, rfl⟩)) (t_X4_refuse hl k92)) (fun σ93 h93 => ?_)
                    exact ev_leaf (am_wk (am_wk (am_wf (am_wf (am_wf (am_wk am_wn)))))) (hJ87 σ93)
              · refine ev_aload_n dX2_readAtom_171 rfl ?_
                refine ev_aload_n dX2_readAtom_172 rfl ?_
                refine ev_callWV (am_callV (as := [.ref p1]) (o := p0) (st := []) cv_X2_80 dX2_readAtom_173 kp0 rfl (am_le rfl) (am_fit (by omega) (by decide) (by decide) (by decide)) (t_X2_readSum hl kp0 kp1)) (fun σ94 h94 => ?_)
                refine ev_aload_n dX2_readAtom_176 rfl ?_
                refine ev_iload dX2_readAtom_177 rfl ?_
                refine ev_callWV (am_callVN (as := [.int t83]) (o := p1) (st := []) cv_X2_61 dX2_readAtom_179 kp1 rfl (am_le rfl) (am_fit (by omega) (by decide) (by decide) (by decide)) (am_no1 (fun _ => ⟨_, rfl⟩)) (t_X1_addStep hl kp1)) (fun σ95 h95 => ?_)
                exact ev_vret dX2_readAtom_182 rfl (by decide) (by decide) rfl
          · refine ev_aload_n dX2_readAtom_77 rfl ?_
            refine ev_getR fk_X2_12 (by decide) dX2_readAtom_78 kp0 (fun q96 k96 r96 => ?_)
            refine ev_callWV (am_callVN (as := []) (o := q96) (st := []) cv_X2_75 dX2_readAtom_81 k96 rfl (am_le rfl) (am_fit (by omega) (by decide) (by decide) (by decide)) (am_no1 (fun _ => ⟨_, rfl⟩)) (t_X4_step hl k96)) (fun σ97 h97 => ?_)
            refine ev_aload_n dX2_readAtom_84 rfl ?_
            refine ev_aload_n dX2_readAtom_85 rfl ?_
            refine ev_iload_n dX2_readAtom_86 rfl ?_
            refine ev_iconst (v := 1) dX2_readAtom_87 (by decide) ?_
            refine ev_iadd dX2_readAtom_88 ?_
            refine ev_callWV (am_callV (as := [.ref p1, .int (p2 + 1)]) (o := p0) (st := []) cv_X2_46 dX2_readAtom_89 kp0 rfl (am_le rfl) (am_fit (by omega) (by decide) (by decide) (by decide)) (ht_X2_readCondition kp0 kp1)) (fun σ98 h98 => ?_)
            refine ev_aload_n dX2_readAtom_92 rfl ?_
            refine ev_getR fk_X2_12 (by decide) dX2_readAtom_93 kp0 (fun q99 k99 r99 => ?_)
            refine ev_ldcS (k := 12) (tx := ")") dX2_readAtom_96 (show (RX2, 78, ")", 12) ∈ am_sts by decide +kernel) ?_
            refine ev_callWI (am_callVN (as := [.ref (1000 + 12)]) (o := q99) (st := []) cv_X2_33 dX2_readAtom_98 k99 rfl (am_le rfl) (am_fit (by omega) (by decide) (by decide) (by decide)) (am_no1 (fun _ => ⟨_, rfl⟩)) (t_X4_took hl k99 (by decide))) (fun y101 h101 => ?_)
            refine ev_if_ne (tgt := 182) dX2_readAtom_101 (by decide) (fun c102 => ?_) (fun c102 => ?_)
            · exact ev_vret dX2_readAtom_182 rfl (by decide) (by decide) rfl
            · refine ev_aload_n dX2_readAtom_104 rfl ?_
              refine ev_getR fk_X2_12 (by decide) dX2_readAtom_105 kp0 (fun q103 k103 r103 => ?_)
              refine ev_callWV (am_callVN (as := []) (o := q103) (st := []) cv_X2_37 dX2_readAtom_108 k103 rfl (am_le rfl) (am_fit (by omega) (by decide) (by decide) (by decide)) (am_no1 (fun _ => ⟨_, rfl⟩)) (t_X4_refuse hl k103)) (fun σ104 h104 => ?_)
              refine ev_goto (tgt := 182) dX2_readAtom_111 (by decide) ?_
              exact ev_vret dX2_readAtom_182 rfl (by decide) (by decide) rfl
        · refine ev_aload_n dX2_readAtom_48 rfl ?_
          refine ev_getR fk_X2_12 (by decide) dX2_readAtom_49 kp0 (fun q105 k105 r105 => ?_)
          refine ev_callWV (am_callVN (as := []) (o := q105) (st := []) cv_X2_75 dX2_readAtom_52 k105 rfl (am_le rfl) (am_fit (by omega) (by decide) (by decide) (by decide)) (am_no1 (fun _ => ⟨_, rfl⟩)) (t_X4_step hl k105)) (fun σ106 h106 => ?_)
          refine ev_aload_n dX2_readAtom_55 rfl ?_
          refine ev_aload_n dX2_readAtom_56 rfl ?_
          refine ev_iload_n dX2_readAtom_57 rfl ?_
          refine ev_iconst (v := 1) dX2_readAtom_58 (by decide) ?_
          refine ev_iadd dX2_readAtom_59 ?_
          refine ev_callWV (am_callV (as := [.ref p1, .int (p2 + 1)]) (o := p0) (st := []) cv_X2_58 dX2_readAtom_60 kp0 rfl (am_le rfl) (am_fit (by omega) (by decide) (by decide) (by decide)) (ht_X2_readAtom kp0 kp1)) (fun σ107 h107 => ?_)
          refine ev_aload_n dX2_readAtom_63 rfl ?_
          refine ev_bipush (v := (-9)) dX2_readAtom_64 (by decide) ?_
          refine ev_callWV (am_callVN (as := [.int (-9)]) (o := p1) (st := []) cv_X2_61 dX2_readAtom_66 kp1 rfl (am_le rfl) (am_fit (by omega) (by decide) (by decide) (by decide)) (am_no1 (fun _ => ⟨_, rfl⟩)) (t_X1_addStep hl kp1)) (fun σ108 h108 => ?_)
          refine ev_goto (tgt := 182) dX2_readAtom_69 (by decide) ?_
          exact ev_vret dX2_readAtom_182 rfl (by decide) (by decide) rfl
      · refine ev_aload_n dX2_readAtom_36 rfl ?_
        refine ev_getR fk_X2_12 (by decide) dX2_readAtom_37 kp0 (fun q109 k109 r109 => ?_)
        refine ev_callWV (am_callVN (as := []) (o := q109) (st := []) cv_X2_37 dX2_readAtom_40 k109 rfl (am_le rfl) (am_fit (by omega) (by decide) (by decide) (by decide)) (am_no1 (fun _ => ⟨_, rfl⟩)) (t_X4_refuse hl k109)) (fun σ110 h110 => ?_)
        exact ev_vret dX2_readAtom_43 rfl (by decide) (by decide) rfl
def f_X2_readCondition_b23 (rc_X2_readAtom : am_S → Nat → Nat → Int32 → Option ((Nat → Nat → Int32))) (S : am_S) (a0 : Nat) (a1 : Nat) (a2 : Int32) (a4 : Int32) (x4 : Int32 × Int32 × (Nat → Nat → Int32)) : Option ((Int32 × Int32 × (Nat → Nat → Int32)) ⊕ ((Nat → Nat → Int32))) :=
  (if x4.2.1 < 400 then (if x4.1 = 0 then some (.inr x4.2.2) else ((rc_X2_readAtom (x4.2.2, S.2) a0 a1 a2).bind (fun σ7 => ((if 0 < x4.2.1 then ((f_X1_addStep (σ7, S.2) a1 (-10)).bind (fun σ9 => some σ9)) else some σ7).bind (fun t8 => ((am_rd S.2 a0 0 104).bind (fun q10 => ((f_X4_took (t8, S.2) q10 (1000 + 20)).bind (fun y12 => some (.inl (y12.1, (x4.2.1 + 1), y12.2))))))))))) else some (.inr x4.2.2))
def f_X2_readCondition_b5 (rc_X2_readAtom : am_S → Nat → Nat → Int32 → Option ((Nat → Nat → Int32))) (S : am_S) (a0 : Nat) (a1 : Nat) (a2 : Int32) (x1 : Int32 × Int32 × (Nat → Nat → Int32)) : Option ((Int32 × Int32 × (Nat → Nat → Int32)) ⊕ ((Nat → Nat → Int32))) :=
  (if x1.2.1 < 400 then (if x1.1 = 0 then some (.inr x1.2.2) else ((am_loop (f_X2_readCondition_b23 rc_X2_readAtom (x1.2.2, S.2) a0 a1 a2 x1.2.1) am_fuel (1, 0, x1.2.2)).bind (fun t4 => ((if 0 < x1.2.1 then ((f_X1_addStep (t4, S.2) a1 (-11)).bind (fun σ22 => some σ22)) else some t4).bind (fun t21 => ((am_rd S.2 a0 0 104).bind (fun q23 => ((f_X4_took (t21, S.2) q23 (1000 + 21)).bind (fun y25 => some (.inl (y25.1, (x1.2.1 + 1), y25.2))))))))))) else some (.inr x1.2.2))
def f_X2_readCondition_o (rc_X2_readAtom : am_S → Nat → Nat → Int32 → Option ((Nat → Nat → Int32))) (S : am_S) (p0 : Nat) (p1 : Nat) (p2 : Int32) : Option ((Nat → Nat → Int32)) :=
  ((am_loop (f_X2_readCondition_b5 rc_X2_readAtom S p0 p1 p2) am_fuel (1, 0, S.1)).bind (fun t1 => some t1))
set_option maxRecDepth 20000 in
theorem to_X2_readCondition {E : am_E} {l : Launch} (hl : l.stackTraces = false) {d : Nat} (hD : 6 ≤ d) {rc_X2_readAtom : am_S → Nat → Nat → Int32 → Option ((Nat → Nat → Int32))}  (ht_X2_readAtom : ∀ {S : am_S} {p0 : Nat} {p1 : Nat} {p2 : Int32} (kp0 : am_kd p0 = 102) (kp1 : am_kd p1 = 101), am_M E l yX2_readAtom (.code yX2_readAtom cX2_readAtom 6 none) (d) 0 0 [.ref p0, .ref p1, .int p2] S ((rc_X2_readAtom S p0 p1 p2).map (fun (x : Nat → Nat → Int32) => ((.inl none, (x, S.2)) : am_R)))) {S : am_S} {p0 : Nat} {p1 : Nat} {p2 : Int32} (kp0 : am_kd p0 = 102) (kp1 : am_kd p1 = 101) : am_M E l yX2_readCondition (.code yX2_readCondition cX2_readCondition 7 none) (d + 1) 0 0 [.ref p0, .ref p1, .int p2] S ((f_X2_readCondition_o rc_X2_readAtom S p0 p1 p2).map (fun (x : Nat → Nat → Int32) => ((.inl none, (x, S.2)) : am_R))) := by
  refine am_M_of (w := fun (x : Nat → Nat → Int32) => ((.inl none, (x, S.2)) : am_R)) hl (by decide) (am_fc rfl (am_fc rfl (am_fc rfl am_fn))) (Nat.le_of_ble_eq_true rfl) ?_
  show am_Ev E l (RX2, cX2_readCondition, 7, none, [], am_rm (d + 1) 0 0) (fun b a s x => am_Z E 0 0 b a s ((fun (x : Nat → Nat → Int32) => ((.inl none, (x, S.2)) : am_R)) x)) 0 0 0 [some (.ref p0), some (.ref p1), some (.int p2), none, none, none, none] [] S (f_X2_readCondition_o rc_X2_readAtom S p0 p1 p2)
  unfold f_X2_readCondition_o
  refine ev_iconst (v := 1) dX2_readCondition_0 (by decide) ?_
  refine ev_istore_n dX2_readCondition_1 (am_lt rfl) ?_
  refine ev_iconst (v := 0) dX2_readCondition_2 (by decide) ?_
  refine ev_istore dX2_readCondition_3 (am_lt rfl) ?_
  refine ev_weak (am_wk (am_wk (am_wk (am_wk (am_wk (am_wf (am_wf am_wn))))))) (ev_loop 5 97 (fun x1 : Int32 × Int32 × (Nat → Nat → Int32) => [some (.ref p0), some (.ref p1), some (.int p2), some (.int x1.1), some (.int x1.2.1), none, none]) (fun t1 : (Nat → Nat → Int32) => [none, none, none, none, none, none, none]) (fun x1 => (x1.2.2, S.2)) (fun t1 => (t1, S.2)) (fun x1 G1 hB1 hE1 => ?_) (fun t1 => ?_) am_fuel (1, 0, S.1))
  · unfold f_X2_readCondition_b5
    refine ev_iload dX2_readCondition_5 rfl ?_
    refine ev_sipush (v := 400) dX2_readCondition_7 (by decide) ?_
    refine ev_eq am_ib ?_
    refine ev_icmp_ge (tgt := 97) dX2_readCondition_10 (by decide) (fun c26 => ?_) (fun c26 => ?_)
    · exact ev_leaf (am_wf (am_wf (am_wf (am_wf (am_wf (am_wf (am_wf am_wn))))))) (hE1 x1.2.2)
    · refine ev_iload_n dX2_readCondition_13 rfl ?_
      refine ev_eq am_ib ?_
      refine ev_if_eq (tgt := 97) dX2_readCondition_14 (by decide) (fun c27 => ?_) (fun c27 => ?_)
      · exact ev_leaf (am_wf (am_wf (am_wf (am_wf (am_wf (am_wf (am_wf am_wn))))))) (hE1 x1.2.2)
      · refine ev_iconst (v := 1) dX2_readCondition_17 (by decide) ?_
        refine ev_istore dX2_readCondition_18 (am_lt rfl) ?_
        refine ev_iconst (v := 0) dX2_readCondition_20 (by decide) ?_
        refine ev_istore dX2_readCondition_21 (am_lt rfl) ?_
        refine ev_eq (Option.bind_assoc _ _ _) ?_
        refine ev_weak (am_wk (am_wk (am_wk (am_wf (am_wk (am_wk (am_wk am_wn))))))) (ev_loop 23 70 (fun x28 : Int32 × Int32 × (Nat → Nat → Int32) => [some (.ref p0), some (.ref p1), some (.int p2), none, some (.int x1.2.1), some (.int x28.1), some (.int x28.2.1)]) (fun t28 : (Nat → Nat → Int32) => [some (.ref p0), some (.ref p1), some (.int p2), none, some (.int x1.2.1), none, none]) (fun x28 => (x28.2.2, S.2)) (fun t28 => (t28, S.2)) (fun x28 G28 hB28 hE28 => ?_) (fun t28 => ?_) am_fuel (1, 0, x1.2.2))
        · unfold f_X2_readCondition_b23
          refine ev_iload dX2_readCondition_23 rfl ?_
          refine ev_sipush (v := 400) dX2_readCondition_25 (by decide) ?_
          refine ev_eq am_ib ?_
          refine ev_icmp_ge (tgt := 70) dX2_readCondition_28 (by decide) (fun c37 => ?_) (fun c37 => ?_)
          · exact ev_leaf (am_wk (am_wk (am_wk (am_wf (am_wk (am_wf (am_wf am_wn))))))) (hE28 x28.2.2)
          · refine ev_iload dX2_readCondition_31 rfl ?_
            refine ev_eq am_ib ?_
            refine ev_if_eq (tgt := 70) dX2_readCondition_33 (by decide) (fun c38 => ?_) (fun c38 => ?_)
            · exact ev_leaf (am_wk (am_wk (am_wk (am_wf (am_wk (am_wf (am_wf am_wn))))))) (hE28 x28.2.2)
            · refine ev_aload_n dX2_readCondition_36 rfl ?_
              refine ev_aload_n dX2_readCondition_37 rfl ?_
              refine ev_iload_n dX2_readCondition_38 rfl ?_
              refine ev_eq (Option.bind_assoc _ _ _) ?_
              refine ev_callWV (am_callV (as := [.ref p1, .int p2]) (o := p0) (st := []) cv_X2_58 dX2_readCondition_39 kp0 rfl (am_le rfl) (am_fit (by omega) (by decide) (by decide) (by decide)) (ht_X2_readAtom kp0 kp1)) (fun σ39 h39 => ?_)
              refine ev_iload dX2_readCondition_42 rfl ?_
              refine ev_eq (Option.bind_assoc _ _ _) ?_
              refine ev_reg (cs' := 0) (sl' := 0) 53 (fun t40 : (Nat → Nat → Int32) => [some (.ref p0), some (.ref p1), some (.int p2), none, some (.int x1.2.1), none, some (.int x28.2.1)]) (fun t40 => []) (fun t40 => (t40, S.2)) (fun hJ40 => ?_) (fun t40 => ?_)
              · refine ev_eq am_ib ?_
                refine ev_if_le (tgt := 53) dX2_readCondition_44 (by decide) (fun c40 => ?_) (fun c40 => ?_)
                · exact ev_leaf (am_wk (am_wk (am_wk (am_wf (am_wk (am_wf (am_wk am_wn))))))) (hJ40 σ39)
                · refine ev_aload_n dX2_readCondition_47 rfl ?_
                  refine ev_bipush (v := (-10)) dX2_readCondition_48 (by decide) ?_
                  refine ev_eq (Option.bind_assoc _ _ _) ?_
                  refine ev_callWV (am_callVN (as := [.int (-10)]) (o := p1) (st := []) cv_X2_61 dX2_readCondition_50 kp1 rfl (am_le rfl) (am_fit (by omega) (by decide) (by decide) (by decide)) (am_no1 (fun _ => ⟨_, rfl⟩)) (t_X1_addStep hl kp1)) (fun σ41 h41 => ?_)
                  exact ev_leaf (am_wk (am_wk (am_wk (am_wf (am_wk (am_wf (am_wk am_wn))))))) (hJ40 σ41)
              · refine ev_aload_n dX2_readCondition_53 rfl ?_
                refine ev_eq (Option.bind_assoc _ _ _) ?_
                refine ev_getR fk_X2_12 (by decide) dX2_readCondition_54 kp0 (fun q42 k42 r42 => ?_)
                refine ev_ldcS (k := 20) (tx := "and") dX2_readCondition_57 (show (RX2, 64, "and", 20) ∈ am_sts by decide +kernel) ?_
                refine ev_eq (Option.bind_assoc _ _ _) ?_
                refine ev_callWI (am_callVN (as := [.ref (1000 + 20)]) (o := q42) (st := []) cv_X2_33 dX2_readCondition_59 k42 rfl (am_le rfl) (am_fit (by omega) (by decide) (by decide) (by decide)) (am_no1 (fun _ => ⟨_, rfl⟩)) (t_X4_took hl k42 (by decide))) (fun y44 h44 => ?_)
                refine ev_istore dX2_readCondition_62 (am_lt rfl) ?_
                refine ev_iinc (v := (x28.2.1 + 1)) dX2_readCondition_64 (am_lt rfl) rfl rfl ?_
                refine ev_goto (tgt := 23) dX2_readCondition_67 (by decide) ?_
                exact ev_leaf (am_wk (am_wk (am_wk (am_wf (am_wk (am_wk (am_wk am_wn))))))) (hB28 (y44.1, (x28.2.1 + 1), y44.2))
        · refine ev_iload dX2_readCondition_70 rfl ?_
          refine ev_eq (Option.bind_assoc _ _ _) ?_
          refine ev_reg (cs' := 0) (sl' := 0) 81 (fun t45 : (Nat → Nat → Int32) => [some (.ref p0), some (.ref p1), some (.int p2), none, some (.int x1.2.1), none, none]) (fun t45 => []) (fun t45 => (t45, S.2)) (fun hJ45 => ?_) (fun t45 => ?_)
          · refine ev_eq am_ib ?_
            refine ev_if_le (tgt := 81) dX2_readCondition_72 (by decide) (fun c45 => ?_) (fun c45 => ?_)
            · exact ev_leaf (am_wk (am_wk (am_wk (am_wf (am_wk (am_wf (am_wf am_wn))))))) (hJ45 t28)
            · refine ev_aload_n dX2_readCondition_75 rfl ?_
              refine ev_bipush (v := (-11)) dX2_readCondition_76 (by decide) ?_
              refine ev_eq (Option.bind_assoc _ _ _) ?_
              refine ev_callWV (am_callVN (as := [.int (-11)]) (o := p1) (st := []) cv_X2_61 dX2_readCondition_78 kp1 rfl (am_le rfl) (am_fit (by omega) (by decide) (by decide) (by decide)) (am_no1 (fun _ => ⟨_, rfl⟩)) (t_X1_addStep hl kp1)) (fun σ46 h46 => ?_)
              exact ev_leaf (am_wk (am_wk (am_wk (am_wf (am_wk (am_wf (am_wf am_wn))))))) (hJ45 σ46)
          · refine ev_aload_n dX2_readCondition_81 rfl ?_
            refine ev_eq (Option.bind_assoc _ _ _) ?_
            refine ev_getR fk_X2_12 (by decide) dX2_readCondition_82 kp0 (fun q47 k47 r47 => ?_)
            refine ev_ldcS (k := 21) (tx := "or") dX2_readCondition_85 (show (RX2, 66, "or", 21) ∈ am_sts by decide +kernel) ?_
            refine ev_eq (Option.bind_assoc _ _ _) ?_
            refine ev_callWI (am_callVN (as := [.ref (1000 + 21)]) (o := q47) (st := []) cv_X2_33 dX2_readCondition_87 k47 rfl (am_le rfl) (am_fit (by omega) (by decide) (by decide) (by decide)) (am_no1 (fun _ => ⟨_, rfl⟩)) (t_X4_took hl k47 (by decide))) (fun y49 h49 => ?_)
            refine ev_istore_n dX2_readCondition_90 (am_lt rfl) ?_
            refine ev_iinc (v := (x1.2.1 + 1)) dX2_readCondition_91 (am_lt rfl) rfl rfl ?_
            refine ev_goto (tgt := 5) dX2_readCondition_94 (by decide) ?_
            exact ev_leaf (am_wk (am_wk (am_wk (am_wk (am_wk (am_wf (am_wf am_wn))))))) (hB1 (y49.1, (x1.2.1 + 1), y49.2))
  · exact ev_vret dX2_readCondition_97 rfl (by decide) (by decide) rfl
def f_rec_X2_readAtom : Nat → Nat → am_S → Nat → Nat → Int32 → Option ((Nat → Nat → Int32))
  | 0, _ => fun _ _ _ _ => none
  | n + 1, 0 => f_X2_readAtom_o (f_rec_X2_readAtom n 0) (f_rec_X2_readAtom n 1)
  | n + 1, _ => f_X2_readCondition_o (f_rec_X2_readAtom n 0)
def f_X2_readAtom (n : Nat) : am_S → Nat → Nat → Int32 → Option ((Nat → Nat → Int32)) := f_rec_X2_readAtom n 0
def f_X2_readCondition (n : Nat) : am_S → Nat → Nat → Int32 → Option ((Nat → Nat → Int32)) := f_rec_X2_readAtom n 1
theorem t_rec_X2_readAtom {E : am_E} {l : Launch} (hl : l.stackTraces = false) : ∀ n : Nat, (∀ {S : am_S} {p0 : Nat} {p1 : Nat} {p2 : Int32} (kp0 : am_kd p0 = 102) (kp1 : am_kd p1 = 101), am_M E l yX2_readAtom (.code yX2_readAtom cX2_readAtom 6 none) (7 + n) 0 0 [.ref p0, .ref p1, .int p2] S ((f_X2_readAtom n S p0 p1 p2).map (fun (x : Nat → Nat → Int32) => ((.inl none, (x, S.2)) : am_R)))) ∧ (∀ {S : am_S} {p0 : Nat} {p1 : Nat} {p2 : Int32} (kp0 : am_kd p0 = 102) (kp1 : am_kd p1 = 101), am_M E l yX2_readCondition (.code yX2_readCondition cX2_readCondition 7 none) (7 + n) 0 0 [.ref p0, .ref p1, .int p2] S ((f_X2_readCondition n S p0 p1 p2).map (fun (x : Nat → Nat → Int32) => ((.inl none, (x, S.2)) : am_R)))) := by
  intro n
  induction n with
  | zero => exact ⟨(by intros; intro r hr; cases hr), (by intros; intro r hr; cases hr)⟩
  | succ n ih => exact ⟨(by intros; exact to_X2_readAtom hl (by omega) (fun z0 z1 => ih.1 z0 z1) (fun z0 z1 => ih.2 z0 z1) (by assumption) (by assumption)), (by intros; exact to_X2_readCondition hl (by omega) (fun z0 z1 => ih.1 z0 z1) (by assumption) (by assumption))⟩
theorem t_X2_readAtom {E : am_E} {l : Launch} (hl : l.stackTraces = false) (n : Nat) {S : am_S} {p0 : Nat} {p1 : Nat} {p2 : Int32} (kp0 : am_kd p0 = 102) (kp1 : am_kd p1 = 101) : am_M E l yX2_readAtom (.code yX2_readAtom cX2_readAtom 6 none) (7 + n) 0 0 [.ref p0, .ref p1, .int p2] S ((f_X2_readAtom n S p0 p1 p2).map (fun (x : Nat → Nat → Int32) => ((.inl none, (x, S.2)) : am_R))) := (t_rec_X2_readAtom hl n).1 kp0 kp1
theorem t_X2_readCondition {E : am_E} {l : Launch} (hl : l.stackTraces = false) (n : Nat) {S : am_S} {p0 : Nat} {p1 : Nat} {p2 : Int32} (kp0 : am_kd p0 = 102) (kp1 : am_kd p1 = 101) : am_M E l yX2_readCondition (.code yX2_readCondition cX2_readCondition 7 none) (7 + n) 0 0 [.ref p0, .ref p1, .int p2] S ((f_X2_readCondition n S p0 p1 p2).map (fun (x : Nat → Nat → Int32) => ((.inl none, (x, S.2)) : am_R))) := (t_rec_X2_readAtom hl n).2 kp0 kp1

def f_X1_endLine (S : am_S) (p0 : Nat) (p1 : Int32) : Option ((Nat → Nat → Int32)) :=
  (if (S.1 p0 0) < 12 then ((am_rd S.2 p0 2 1).bind (fun q2 => ((am_st S.1 q2 (S.1 p0 0) p1).bind (fun σ3 => ((am_rd S.2 p0 3 1).bind (fun q4 => ((am_st σ3 q4 (σ3 p0 0) (σ3 p0 1)).bind (fun σ5 => some (am_u2 σ5 p0 0 ((σ5 p0 0) + 1)))))))))) else some S.1)
set_option maxRecDepth 20000 in
theorem t_X1_endLine {E : am_E} {l : Launch} (hl : l.stackTraces = false) {S : am_S} {p0 : Nat} {p1 : Int32} (kp0 : am_kd p0 = 101) : am_M E l yX1_endLine (.code yX1_endLine cX1_endLine 2 none) 0 0 0 [.ref p0, .int p1] S ((f_X1_endLine S p0 p1).map (fun (x : Nat → Nat → Int32) => ((.inl none, (x, S.2)) : am_R))) := by
  refine am_M_of (w := fun (x : Nat → Nat → Int32) => ((.inl none, (x, S.2)) : am_R)) hl (by decide) (am_fc rfl (am_fc rfl am_fn)) (Nat.le_of_ble_eq_true rfl) ?_
  show am_Ev E l (RX1, cX1_endLine, 2, none, [], am_rm 0 0 0) (fun b a s x => am_Z E 0 0 b a s ((fun (x : Nat → Nat → Int32) => ((.inl none, (x, S.2)) : am_R)) x)) 0 0 0 [some (.ref p0), some (.int p1)] [] S (f_X1_endLine S p0 p1)
  unfold f_X1_endLine
  refine ev_aload_n dX1_endLine_0 rfl ?_
  refine ev_get fk_X1_9 dX1_endLine_1 kp0 (am_fvI (by decide)) ?_
  refine ev_bipush (v := 12) dX1_endLine_4 (by decide) ?_
  refine ev_icmp_ge (tgt := 42) dX1_endLine_6 (by decide) (fun c1 => ?_) (fun c1 => ?_)
  · exact ev_vret dX1_endLine_42 rfl (by decide) (by decide) rfl
  · refine ev_aload_n dX1_endLine_9 rfl ?_
    refine ev_getR fk_X1_15 (by decide) dX1_endLine_10 kp0 (fun q2 k2 r2 => ?_)
    refine ev_aload_n dX1_endLine_13 rfl ?_
    refine ev_get fk_X1_9 dX1_endLine_14 kp0 (am_fvI (by decide)) ?_
    refine ev_iload_n dX1_endLine_17 rfl ?_
    refine ev_iast dX1_endLine_18 k2 (fun σ3 h3 => ?_)
    refine ev_aload_n dX1_endLine_19 rfl ?_
    refine ev_getR fk_X1_19 (by decide) dX1_endLine_20 kp0 (fun q4 k4 r4 => ?_)
    refine ev_aload_n dX1_endLine_23 rfl ?_
    refine ev_get fk_X1_9 dX1_endLine_24 kp0 (am_fvI (by decide)) ?_
    refine ev_aload_n dX1_endLine_27 rfl ?_
    refine ev_get fk_X1_32 dX1_endLine_28 kp0 (am_fvI (by decide)) ?_
    refine ev_iast dX1_endLine_31 k4 (fun σ5 h5 => ?_)
    refine ev_aload_n dX1_endLine_32 rfl ?_
    refine ev_dup dX1_endLine_33 rfl ?_
    refine ev_get fk_X1_9 dX1_endLine_34 kp0 (am_fvI (by decide)) ?_
    refine ev_iconst (v := 1) dX1_endLine_37 (by decide) ?_
    refine ev_iadd dX1_endLine_38 ?_
    refine ev_putI fk_X1_9 tyX1 tyX1_ok nmX1 rfl (by decide +kernel) (by decide) dX1_endLine_39 kp0 ?_
    exact ev_vret dX1_endLine_42 rfl (by decide) (by decide) rfl
def f_X2_readInto_b16 (S : am_S) (a0 : Nat) (a1 : Nat) (x4 : Int32 × (Nat → Nat → Int32)) : Option ((Int32 × (Nat → Nat → Int32)) ⊕ ((Nat → Nat → Int32))) :=
  (if 12 < x4.1 then some (.inr x4.2) else ((am_rd S.2 a0 0 104).bind (fun q6 => ((f_X4_isAtLine (x4.2, S.2) q6 x4.1 12).bind (fun y7 => (if y7.1 = 0 then some (.inr y7.2) else ((am_rd S.2 a0 0 104).bind (fun q9 => ((f_X4_took (y7.2, S.2) q9 (1000 + 8)).bind (fun y11 => ((if y11.1 = 0 then ((am_rd S.2 a0 0 104).bind (fun q13 => ((f_X4_refuse (y11.2, S.2) q13).bind (fun σ14 => some σ14)))) else some y11.2).bind (fun t12 => ((am_rd S.2 a0 0 104).bind (fun q15 => ((f_X4_number (t12, S.2) q15 0 999).bind (fun y16 => ((am_rd S.2 a0 0 104).bind (fun q17 => ((f_X4_took (y16.2, S.2) q17 (1000 + 9)).bind (fun y19 => ((if y19.1 = 0 then some y19.2 else ((f_X2_readCondition 60 (y19.2, S.2) a0 a1 0).bind (fun σ21 => some σ21))).bind (fun t20 => ((f_X1_endLine (t20, S.2) a1 y16.1).bind (fun σ22 => some (.inl ((x4.1 + 1), σ22))))))))))))))))))))))))))
def f_X2_readInto (S : am_S) (p0 : Nat) (p1 : Nat) (p2 : Nat) (p3 : Int32) : Option (am_R) :=
  ((f_X1_clear S p1).bind (fun σ1 => ((am_rd S.2 p0 0 104).bind (fun q2 => (am_thV (f_X4_open (σ1, S.2) q2 p2 p3) (fun S3 => ((am_loop (f_X2_readInto_b16 S3 p0 p1) am_fuel (0, S3.1)).bind (fun t4 => ((am_rd S3.2 p0 0 104).bind (fun q41 => some (.inl (some (.int (t4 q41 5))), (t4, S3.2))))))))))))
set_option maxRecDepth 20000 in
theorem t_X2_readInto {E : am_E} {l : Launch} (hl : l.stackTraces = false) {S : am_S} {p0 : Nat} {p1 : Nat} {p2 : Nat} {p3 : Int32} (kp0 : am_kd p0 = 102) (kp1 : am_kd p1 = 101) (kp2 : am_kd p2 = 2) : am_M E l yX2_readInto (.code yX2_readInto cX2_readInto 6 (some .int)) 68 0 0 [.ref p0, .ref p1, .ref p2, .int p3] S (f_X2_readInto S p0 p1 p2 p3) := by
  refine am_M_id (am_M_of (w := fun x => x) hl (by decide) (am_fc rfl (am_fc rfl (am_fc rfl (am_fc rfl am_fn)))) (Nat.le_of_ble_eq_true rfl) ?_)
  show am_Ev E l (RX2, cX2_readInto, 6, (some .int), [], am_rm 68 0 0) (am_Z E 0 0) 0 0 0 [some (.ref p0), some (.ref p1), some (.ref p2), some (.int p3), none, none] [] S (f_X2_readInto S p0 p1 p2 p3)
  unfold f_X2_readInto
  refine ev_aload_n dX2_readInto_0 rfl ?_
  refine ev_callWV (am_callVN (as := []) (o := p1) (st := []) cv_X2_18 dX2_readInto_1 kp1 rfl (am_le rfl) (am_fit (by omega) (by decide) (by decide) (by decide)) (am_no1 (fun _ => ⟨_, rfl⟩)) (t_X1_clear hl kp1)) (fun σ1 h1 => ?_)
  refine ev_aload_n dX2_readInto_4 rfl ?_
  refine ev_getR fk_X2_12 (by decide) dX2_readInto_5 kp0 (fun q2 k2 r2 => ?_)
  refine ev_aload_n dX2_readInto_8 rfl ?_
  refine ev_iload_n dX2_readInto_9 rfl ?_
  refine ev_callGV (am_callVN (as := [.ref p2, .int p3]) (o := q2) (st := []) cv_X2_23 dX2_readInto_10 k2 rfl (am_le rfl) (am_fit (by omega) (by decide) (by decide) (by decide)) nt_X4_open (t_X4_open hl k2 kp2)) rfl (by decide) (by decide) (fun S3 h3 => ?_)
  refine ev_iconst (v := 0) dX2_readInto_13 (by decide) ?_
  refine ev_istore dX2_readInto_14 (am_lt rfl) ?_
  refine ev_weak (am_wk (am_wk (am_wf (am_wf (am_wk (am_wf am_wn)))))) (ev_loop 16 99 (fun x4 : Int32 × (Nat → Nat → Int32) => [some (.ref p0), some (.ref p1), none, none, some (.int x4.1), none]) (fun t4 : (Nat → Nat → Int32) => [some (.ref p0), none, none, none, none, none]) (fun x4 => (x4.2, S3.2)) (fun t4 => (t4, S3.2)) (fun x4 G4 hB4 hE4 => ?_) (fun t4 => ?_) am_fuel (0, S3.1))
  · unfold f_X2_readInto_b16
    refine ev_iload dX2_readInto_16 rfl ?_
    refine ev_bipush (v := 12) dX2_readInto_18 (by decide) ?_
    refine ev_eq am_ib ?_
    refine ev_icmp_gt (tgt := 99) dX2_readInto_20 (by decide) (fun c23 => ?_) (fun c23 => ?_)
    · exact ev_leaf (am_wk (am_wf (am_wf (am_wf (am_wf (am_wf am_wn)))))) (hE4 x4.2)
    · refine ev_aload_n dX2_readInto_23 rfl ?_
      refine ev_eq (Option.bind_assoc _ _ _) ?_
      refine ev_getR fk_X2_12 (by decide) dX2_readInto_24 kp0 (fun q24 k24 r24 => ?_)
      refine ev_iload dX2_readInto_27 rfl ?_
      refine ev_bipush (v := 12) dX2_readInto_29 (by decide) ?_
      refine ev_eq (Option.bind_assoc _ _ _) ?_
      refine ev_callWI (am_callVN (as := [.int x4.1, .int 12]) (o := q24) (st := []) cv_X2_27 dX2_readInto_31 k24 rfl (am_le rfl) (am_fit (by omega) (by decide) (by decide) (by decide)) (am_no1 (fun _ => ⟨_, rfl⟩)) (t_X4_isAtLine hl k24)) (fun y25 h25 => ?_)
      refine ev_eq am_ib ?_
      refine ev_if_eq (tgt := 99) dX2_readInto_34 (by decide) (fun c26 => ?_) (fun c26 => ?_)
      · exact ev_leaf (am_wk (am_wf (am_wf (am_wf (am_wf (am_wf am_wn)))))) (hE4 y25.2)
      · refine ev_aload_n dX2_readInto_37 rfl ?_
        refine ev_eq (Option.bind_assoc _ _ _) ?_
        refine ev_getR fk_X2_12 (by decide) dX2_readInto_38 kp0 (fun q27 k27 r27 => ?_)
        refine ev_ldcS (k := 8) (tx := "first") dX2_readInto_41 (show (RX2, 31, "first", 8) ∈ am_sts by decide +kernel) ?_
        refine ev_eq (Option.bind_assoc _ _ _) ?_
        refine ev_callWI (am_callVN (as := [.ref (1000 + 8)]) (o := q27) (st := []) cv_X2_33 dX2_readInto_43 k27 rfl (am_le rfl) (am_fit (by omega) (by decide) (by decide) (by decide)) (am_no1 (fun _ => ⟨_, rfl⟩)) (t_X4_took hl k27 (by decide))) (fun y29 h29 => ?_)
        refine ev_eq (Option.bind_assoc _ _ _) ?_
        refine ev_reg (cs' := 0) (sl' := 0) 56 (fun t30 : (Nat → Nat → Int32) => [some (.ref p0), some (.ref p1), none, none, some (.int x4.1), none]) (fun t30 => []) (fun t30 => (t30, S3.2)) (fun hJ30 => ?_) (fun t30 => ?_)
        · refine ev_eq am_ib ?_
          refine ev_if_ne (tgt := 56) dX2_readInto_46 (by decide) (fun c30 => ?_) (fun c30 => ?_)
          · exact ev_leaf (am_wk (am_wk (am_wf (am_wf (am_wk (am_wf am_wn)))))) (hJ30 y29.2)
          · refine ev_aload_n dX2_readInto_49 rfl ?_
            refine ev_eq (Option.bind_assoc _ _ _) ?_
            refine ev_getR fk_X2_12 (by decide) dX2_readInto_50 kp0 (fun q31 k31 r31 => ?_)
            refine ev_eq (Option.bind_assoc _ _ _) ?_
            refine ev_callWV (am_callVN (as := []) (o := q31) (st := []) cv_X2_37 dX2_readInto_53 k31 rfl (am_le rfl) (am_fit (by omega) (by decide) (by decide) (by decide)) (am_no1 (fun _ => ⟨_, rfl⟩)) (t_X4_refuse hl k31)) (fun σ32 h32 => ?_)
            exact ev_leaf (am_wk (am_wk (am_wf (am_wf (am_wk (am_wf am_wn)))))) (hJ30 σ32)
        · refine ev_aload_n dX2_readInto_56 rfl ?_
          refine ev_eq (Option.bind_assoc _ _ _) ?_
          refine ev_getR fk_X2_12 (by decide) dX2_readInto_57 kp0 (fun q33 k33 r33 => ?_)
          refine ev_iconst (v := 0) dX2_readInto_60 (by decide) ?_
          refine ev_sipush (v := 999) dX2_readInto_61 (by decide) ?_
          refine ev_eq (Option.bind_assoc _ _ _) ?_
          refine ev_callWI (am_callVN (as := [.int 0, .int 999]) (o := q33) (st := []) cv_X2_40 dX2_readInto_64 k33 rfl (am_le rfl) (am_fit (by omega) (by decide) (by decide) (by decide)) (am_no1 (fun _ => ⟨_, rfl⟩)) (t_X4_number hl k33)) (fun y34 h34 => ?_)
          refine ev_istore dX2_readInto_67 (am_lt rfl) ?_
          refine ev_aload_n dX2_readInto_69 rfl ?_
          refine ev_eq (Option.bind_assoc _ _ _) ?_
          refine ev_getR fk_X2_12 (by decide) dX2_readInto_70 kp0 (fun q35 k35 r35 => ?_)
          refine ev_ldcS (k := 9) (tx := "if") dX2_readInto_73 (show (RX2, 44, "if", 9) ∈ am_sts by decide +kernel) ?_
          refine ev_eq (Option.bind_assoc _ _ _) ?_
          refine ev_callWI (am_callVN (as := [.ref (1000 + 9)]) (o := q35) (st := []) cv_X2_33 dX2_readInto_75 k35 rfl (am_le rfl) (am_fit (by omega) (by decide) (by decide) (by decide)) (am_no1 (fun _ => ⟨_, rfl⟩)) (t_X4_took hl k35 (by decide))) (fun y37 h37 => ?_)
          refine ev_eq (Option.bind_assoc _ _ _) ?_
          refine ev_reg (cs' := 0) (sl' := 0) 87 (fun t38 : (Nat → Nat → Int32) => [some (.ref p0), some (.ref p1), none, none, some (.int x4.1), some (.int y34.1)]) (fun t38 => []) (fun t38 => (t38, S3.2)) (fun hJ38 => ?_) (fun t38 => ?_)
          · refine ev_eq am_ib ?_
            refine ev_if_eq (tgt := 87) dX2_readInto_78 (by decide) (fun c38 => ?_) (fun c38 => ?_)
            · exact ev_leaf (am_wk (am_wk (am_wf (am_wf (am_wk (am_wk am_wn)))))) (hJ38 y37.2)
            · refine ev_aload_n dX2_readInto_81 rfl ?_
              refine ev_aload_n dX2_readInto_82 rfl ?_
              refine ev_iconst (v := 0) dX2_readInto_83 (by decide) ?_
              refine ev_eq (Option.bind_assoc _ _ _) ?_
              refine ev_callWV (am_callV (as := [.ref p1, .int 0]) (o := p0) (st := []) cv_X2_46 dX2_readInto_84 kp0 rfl (am_le rfl) (am_fit (by omega) (by decide) (by decide) (by decide)) (t_X2_readCondition hl 60 kp0 kp1)) (fun σ39 h39 => ?_)
              exact ev_leaf (am_wk (am_wk (am_wf (am_wf (am_wk (am_wk am_wn)))))) (hJ38 σ39)
          · refine ev_aload_n dX2_readInto_87 rfl ?_
            refine ev_iload dX2_readInto_88 rfl ?_
            refine ev_eq (Option.bind_assoc _ _ _) ?_
            refine ev_callWV (am_callVN (as := [.int y34.1]) (o := p1) (st := []) cv_X2_50 dX2_readInto_90 kp1 rfl (am_le rfl) (am_fit (by omega) (by decide) (by decide) (by decide)) (am_no1 (fun _ => ⟨_, rfl⟩)) (t_X1_endLine hl kp1)) (fun σ40 h40 => ?_)
            refine ev_iinc (v := (x4.1 + 1)) dX2_readInto_93 (am_lt rfl) rfl rfl ?_
            refine ev_goto (tgt := 16) dX2_readInto_96 (by decide) ?_
            exact ev_leaf (am_wk (am_wk (am_wf (am_wf (am_wk (am_wf am_wn)))))) (hB4 ((x4.1 + 1), σ40))
  · refine ev_aload_n dX2_readInto_99 rfl ?_
    refine ev_getR fk_X2_12 (by decide) dX2_readInto_100 kp0 (fun q41 k41 r41 => ?_)
    refine ev_getN fk_X2_54 dX2_readInto_103 k41 (am_fvI (by decide)) ?_
    exact ev_iret dX2_readInto_106 rfl rfl (by decide) (by decide) rfl
theorem nt_X2_readInto {S : am_S} {p0 : Nat} {p1 : Nat} {p2 : Nat} {p3 : Int32} : ∀ r, (f_X2_readInto S p0 p1 p2 p3) = some r → ∃ v, r.1 = .inl v := am_nt_bind (fun _ => am_nt_bind (fun _ => am_nt_thV nt_X4_open (fun _ => am_nt_bind (fun _ => am_nt_bind (fun _ => am_nt_some)))))
