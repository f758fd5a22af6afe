def f_X11_learn (S : am_S) (p0 : Nat) (p1 : Int32) : Option (am_R) :=
  ((am_rd S.2 p0 15 103).bind (fun q1 => ((am_rd S.2 p0 0 2).bind (fun q2 => ((f_X3_readRows S q1 q2 (S.1 p0 1)).bind (fun y3 => (if y3.1 = 0 then some (.inr 1, ((am_u2 y3.2 p0 1 0), S.2)) else (if p1 < (-1) then some (.inr 1, ((am_u2 y3.2 p0 1 0), S.2)) else ((am_rd S.2 p0 15 103).bind (fun q6 => (if p1 < ((am_u2 y3.2 p0 1 0) q6 7) then ((am_rd S.2 p0 15 103).bind (fun q8 => ((f_X3_findWays ((am_u2 y3.2 p0 1 0), S.2) q8).bind (fun σ9 => (if p1 = (-1) then ((am_rd S.2 p0 15 103).bind (fun q13 => some (.inl (some (.int (σ9 q13 8))), (σ9, S.2)))) else ((am_rd S.2 p0 15 103).bind (fun q11 => ((f_X3_firstWordOf (σ9, S.2) q11 p1).bind (fun v12 => some (.inl (some (.int v12)), (σ9, S.2))))))))))) else some (.inr 1, ((am_u2 y3.2 p0 1 0), S.2)))))))))))))
set_option maxRecDepth 20000 in
theorem t_X11_learn {E : am_E} {l : Launch} (hl : l.stackTraces = false) {S : am_S} {p0 : Nat} {p1 : Int32} (kp0 : am_kd p0 = 111) : am_M E l yX11_learn (.code yX11_learn cX11_learn 3 (some .int)) 63 1 6 [.ref p0, .int p1] S (f_X11_learn S p0 p1) := by
  refine am_M_id (am_M_of (w := fun x => x) hl (by decide) (am_fc rfl (am_fc rfl am_fn)) (Nat.le_of_ble_eq_true rfl) ?_)
  show am_Ev E l (RX11, cX11_learn, 3, (some .int), [], am_rm 63 1 6) (am_Z E 1 6) 0 0 0 [some (.ref p0), some (.int p1), none] [] S (f_X11_learn S p0 p1)
  unfold f_X11_learn
  refine ev_aload_n dX11_learn_0 rfl ?_
  refine ev_getR fk_X11_86 (by decide) dX11_learn_1 kp0 (fun q1 k1 r1 => ?_)
  refine ev_aload_n dX11_learn_4 rfl ?_
  refine ev_getR fk_X11_9 (by decide) dX11_learn_5 kp0 (fun q2 k2 r2 => ?_)
  refine ev_aload_n dX11_learn_8 rfl ?_
  refine ev_get fk_X11_90 dX11_learn_9 kp0 (am_fvI (by decide)) ?_
  refine ev_callWI (am_callVN (as := [.ref q2, .int (S.1 p0 1)]) (o := q1) (st := []) cv_X11_300 dX11_learn_12 k1 rfl (am_le rfl) (am_fit (by omega) (by decide) (by decide) (by decide)) (am_no1 (fun _ => ⟨_, rfl⟩)) (t_X3_readRows hl k1 k2)) (fun y3 h3 => ?_)
  refine ev_istore_n dX11_learn_15 (am_lt rfl) ?_
  refine ev_aload_n dX11_learn_16 rfl ?_
  refine ev_iconst (v := 0) dX11_learn_17 (by decide) ?_
  refine ev_putI fk_X11_90 tyX11 tyX11_ok nmX11 rfl (by decide +kernel) (by decide) dX11_learn_18 kp0 ?_
  refine ev_iload_n dX11_learn_21 rfl ?_
  refine ev_if_ne (tgt := 36) dX11_learn_22 (by decide) (fun c4 => ?_) (fun c4 => ?_)
  · refine ev_iload_n dX11_learn_36 rfl ?_
    refine ev_iconst (v := (-1)) dX11_learn_37 (by decide) ?_
    refine ev_icmp_lt (tgt := 52) dX11_learn_38 (by decide) (fun c5 => ?_) (fun c5 => ?_)
    · exact ev_throwW (k := 1) tk_105_109 (tx := "no such kind came") (t := 39) (by decide +kernel) dX11_learn_52 dX11_learn_55 dX11_learn_56 dX11_learn_59 dX11_learn_62 rfl (by decide) ⟨by decide, by decide, by decide, by decide⟩ (by decide) (by decide)
    · refine ev_iload_n dX11_learn_41 rfl ?_
      refine ev_aload_n dX11_learn_42 rfl ?_
      refine ev_getR fk_X11_86 (by decide) dX11_learn_43 kp0 (fun q6 k6 r6 => ?_)
      refine ev_getN fk_X11_306 dX11_learn_46 k6 (am_fvI (by decide)) ?_
      refine ev_icmp_lt (tgt := 63) dX11_learn_49 (by decide) (fun c7 => ?_) (fun c7 => ?_)
      · refine ev_aload_n dX11_learn_63 rfl ?_
        refine ev_getR fk_X11_86 (by decide) dX11_learn_64 kp0 (fun q8 k8 r8 => ?_)
        refine ev_callWV (am_callVN (as := []) (o := q8) (st := []) cv_X11_311 dX11_learn_67 k8 rfl (am_le rfl) (am_fit (by omega) (by decide) (by decide) (by decide)) (am_no1 (fun _ => ⟨_, rfl⟩)) (t_X3_findWays hl k8)) (fun σ9 h9 => ?_)
        refine ev_iload_n dX11_learn_70 rfl ?_
        refine ev_iconst (v := (-1)) dX11_learn_71 (by decide) ?_
        refine ev_icmp_ne (tgt := 85) dX11_learn_72 (by decide) (fun c10 => ?_) (fun c10 => ?_)
        · refine ev_aload_n dX11_learn_85 rfl ?_
          refine ev_getR fk_X11_86 (by decide) dX11_learn_86 kp0 (fun q11 k11 r11 => ?_)
          refine ev_iload_n dX11_learn_89 rfl ?_
          refine ev_callP (am_callVN (as := [.int p1]) (o := q11) (st := []) cv_X11_317 dX11_learn_90 k11 rfl (am_le rfl) (am_fit (by omega) (by decide) (by decide) (by decide)) (am_no1 (fun _ => ⟨_, rfl⟩)) (t_X3_firstWordOf hl k11)) (fun v12 h12 => ?_)
          exact ev_iret dX11_learn_93 rfl rfl (by decide) (by decide) rfl
        · refine ev_aload_n dX11_learn_75 rfl ?_
          refine ev_getR fk_X11_86 (by decide) dX11_learn_76 kp0 (fun q13 k13 r13 => ?_)
          refine ev_getN fk_X11_314 dX11_learn_79 k13 (am_fvI (by decide)) ?_
          refine ev_goto (tgt := 93) dX11_learn_82 (by decide) ?_
          exact ev_iret dX11_learn_93 rfl rfl (by decide) (by decide) rfl
      · exact ev_throwW (k := 1) tk_105_109 (tx := "no such kind came") (t := 39) (by decide +kernel) dX11_learn_52 dX11_learn_55 dX11_learn_56 dX11_learn_59 dX11_learn_62 rfl (by decide) ⟨by decide, by decide, by decide, by decide⟩ (by decide) (by decide)
  · exact ev_throwW (k := 1) tk_105_109 (tx := "the tape is not strokes, a blank and wants") (t := 38) (by decide +kernel) dX11_learn_25 dX11_learn_28 dX11_learn_29 dX11_learn_32 dX11_learn_35 rfl (by decide) ⟨by decide, by decide, by decide, by decide⟩ (by decide) (by decide)
def f_X9_wordsOfLength_b5 (S : am_S) (a0 : Nat) (a1 : Int32) (a2 : Int32) (x1 : Int32 × Int32) : Option ((Int32 × Int32) ⊕ (Int32)) :=
  (if x1.2 < (S.1 a0 1) then ((f_X9_wordFor S a0 a1 x1.2).bind (fun v3 => ((f_X11_strokesOf v3).bind (fun v4 => ((if v4 = a2 then ((f_X9_takenFor S a0 a1 v3).bind (fun v6 => (if v6 = x1.2 then some (x1.1 + 1) else some x1.1))) else some x1.1).bind (fun t5 => some (.inl (t5, (x1.2 + 1))))))))) else some (.inr x1.1))
def f_X9_wordsOfLength (S : am_S) (p0 : Nat) (p1 : Int32) (p2 : Int32) : Option (Int32) :=
  ((am_loop (f_X9_wordsOfLength_b5 S p0 p1 p2) am_fuel (0, 0)).bind (fun t1 => some t1))
set_option maxRecDepth 20000 in
theorem t_X9_wordsOfLength {E : am_E} {l : Launch} (hl : l.stackTraces = false) {S : am_S} {p0 : Nat} {p1 : Int32} {p2 : Int32} (kp0 : am_kd p0 = 109) : am_M E l yX9_wordsOfLength (.code yX9_wordsOfLength cX9_wordsOfLength 6 (some .int)) 3 0 0 [.ref p0, .int p1, .int p2] S ((f_X9_wordsOfLength S p0 p1 p2).map (fun (v : Int32) => ((.inl (some (.int v)), S) : am_R))) := by
  refine am_M_of (w := fun (v : Int32) => ((.inl (some (.int v)), S) : am_R)) hl (by decide) (am_fc rfl (am_fc rfl (am_fc rfl am_fn))) (Nat.le_of_ble_eq_true rfl) ?_
  show am_Ev E l (RX9, cX9_wordsOfLength, 6, (some .int), [], am_rm 3 0 0) (fun b a s x => am_Z E 0 0 b a s ((fun (v : Int32) => ((.inl (some (.int v)), S) : am_R)) x)) 0 0 0 [some (.ref p0), some (.int p1), some (.int p2), none, none, none] [] S (f_X9_wordsOfLength S p0 p1 p2)
  unfold f_X9_wordsOfLength
  refine ev_iconst (v := 0) dX9_wordsOfLength_0 (by decide) ?_
  refine ev_istore_n dX9_wordsOfLength_1 (am_lt rfl) ?_
  refine ev_iconst (v := 0) dX9_wordsOfLength_2 (by decide) ?_
  refine ev_istore dX9_wordsOfLength_3 (am_lt rfl) ?_
  refine ev_weak (am_wk (am_wk (am_wk (am_wk (am_wk (am_wf am_wn)))))) (ev_loop 5 53 (fun x1 : Int32 × Int32 => [some (.ref p0), some (.int p1), some (.int p2), some (.int x1.1), some (.int x1.2), none]) (fun t1 : Int32 => [none, none, none, some (.int t1), none, none]) (fun x1 => S) (fun t1 => S) (fun x1 G1 hB1 hE1 => ?_) (fun t1 => ?_) am_fuel (0, 0))
  · unfold f_X9_wordsOfLength_b5
    refine ev_iload dX9_wordsOfLength_5 rfl ?_
    refine ev_aload_n dX9_wordsOfLength_7 rfl ?_
    refine ev_get fk_X9_54 dX9_wordsOfLength_8 kp0 (am_fvI (by decide)) ?_
    refine ev_eq am_ib ?_
    refine ev_icmp_ge (tgt := 53) dX9_wordsOfLength_11 (by decide) (fun c8 => ?_) (fun c8 => ?_)
    · exact ev_leaf (am_wf (am_wf (am_wf (am_wk (am_wf (am_wf am_wn)))))) (hE1 x1.1)
    · refine ev_aload_n dX9_wordsOfLength_14 rfl ?_
      refine ev_iload_n dX9_wordsOfLength_15 rfl ?_
      refine ev_iload dX9_wordsOfLength_16 rfl ?_
      refine ev_eq (Option.bind_assoc _ _ _) ?_
      refine ev_callP (am_callV (as := [.int p1, .int x1.2]) (o := p0) (st := []) cv_X9_89 dX9_wordsOfLength_18 kp0 rfl (am_le rfl) (am_fit (by omega) (by decide) (by decide) (by decide)) (t_X9_wordFor hl kp0)) (fun v9 h9 => ?_)
      refine ev_istore dX9_wordsOfLength_21 (am_lt rfl) ?_
      refine ev_iload dX9_wordsOfLength_23 rfl ?_
      refine ev_eq (Option.bind_assoc _ _ _) ?_
      refine ev_callP (am_callSN (as := [.int v9]) (st := []) ct_X9_121 dX9_wordsOfLength_25 rfl (am_le rfl) (am_fit (by omega) (by decide) (by decide) (by decide)) (am_no1 (fun _ => ⟨_, rfl⟩)) (t_X11_strokesOf hl )) (fun v10 h10 => ?_)
      refine ev_iload_n dX9_wordsOfLength_28 rfl ?_
      refine ev_eq (Option.bind_assoc _ _ _) ?_
      refine ev_reg (cs' := 0) (sl' := 0) 47 (fun t11 : Int32 => [some (.ref p0), some (.int p1), some (.int p2), some (.int t11), some (.int x1.2), none]) (fun t11 => []) (fun t11 => S) (fun hJ11 => ?_) (fun t11 => ?_)
      · refine ev_eq am_ib ?_
        refine ev_icmp_ne (tgt := 47) dX9_wordsOfLength_29 (by decide) (fun c11 => ?_) (fun c11 => ?_)
        · exact ev_leaf (am_wk (am_wk (am_wk (am_wk (am_wk (am_wf am_wn)))))) (hJ11 x1.1)
        · refine ev_aload_n dX9_wordsOfLength_32 rfl ?_
          refine ev_iload_n dX9_wordsOfLength_33 rfl ?_
          refine ev_iload dX9_wordsOfLength_34 rfl ?_
          refine ev_eq (Option.bind_assoc _ _ _) ?_
          refine ev_callP (am_callV (as := [.int p1, .int v9]) (o := p0) (st := []) cv_X9_118 dX9_wordsOfLength_36 kp0 rfl (am_le rfl) (am_fit (by omega) (by decide) (by decide) (by decide)) (t_X9_takenFor hl kp0)) (fun v12 h12 => ?_)
          refine ev_iload dX9_wordsOfLength_39 rfl ?_
          refine ev_eq am_ib ?_
          refine ev_icmp_ne (tgt := 47) dX9_wordsOfLength_41 (by decide) (fun c13 => ?_) (fun c13 => ?_)
          · exact ev_leaf (am_wk (am_wk (am_wk (am_wk (am_wk (am_wf am_wn)))))) (hJ11 x1.1)
          · refine ev_iinc (v := (x1.1 + 1)) dX9_wordsOfLength_44 (am_lt rfl) rfl rfl ?_
            exact ev_leaf (am_wk (am_wk (am_wk (am_wk (am_wk (am_wf am_wn)))))) (hJ11 (x1.1 + 1))
      · refine ev_iinc (v := (x1.2 + 1)) dX9_wordsOfLength_47 (am_lt rfl) rfl rfl ?_
        refine ev_goto (tgt := 5) dX9_wordsOfLength_50 (by decide) ?_
        exact ev_leaf (am_wk (am_wk (am_wk (am_wk (am_wk (am_wf am_wn)))))) (hB1 (t11, (x1.2 + 1)))
  · refine ev_iload_n dX9_wordsOfLength_53 rfl ?_
    exact ev_iret dX9_wordsOfLength_54 rfl rfl (by decide) (by decide) rfl
def f_X11_fooled (S : am_S) (p0 : Nat) (p1 : Int32) (p2 : Int32) (p3 : Int32) : Option (am_R) :=
  (am_thV (f_X11_needHouse S p0 p1) (fun S1 => (am_thV (f_X11_needHouse S1 p0 p2) (fun S2 => (if p3 < 1 then some (.inr 1, S2) else (if 8 < p3 then some (.inr 1, S2) else ((am_rd S2.2 p0 3 109).bind (fun q5 => ((f_X9_clearOf S2 q5 p2 p1).bind (fun v6 => ((f_J9_min_7cf53 p3 v6).bind (fun v7 => (if v7 = 0 then some (.inl (some (.int 0)), S2) else ((am_rd S2.2 p0 3 109).bind (fun q9 => ((f_X9_wordsOfLength S2 q9 p1 v7).bind (fun v10 => some (.inl (some (.int (v10 <<< ((p3 - v7) &&& 31)))), S2))))))))))))))))))
set_option maxRecDepth 20000 in
theorem t_X11_fooled {E : am_E} {l : Launch} (hl : l.stackTraces = false) {S : am_S} {p0 : Nat} {p1 : Int32} {p2 : Int32} {p3 : Int32} (kp0 : am_kd p0 = 111) : am_M E l yX11_fooled (.code yX11_fooled cX11_fooled 5 (some .int)) 4 3 18 [.ref p0, .int p1, .int p2, .int p3] S (f_X11_fooled S p0 p1 p2 p3) := by
  refine am_M_id (am_M_of (w := fun x => x) hl (by decide) (am_fc rfl (am_fc rfl (am_fc rfl (am_fc rfl am_fn)))) (Nat.le_of_ble_eq_true rfl) ?_)
  show am_Ev E l (RX11, cX11_fooled, 5, (some .int), [], am_rm 4 3 18) (am_Z E 3 18) 0 0 0 [some (.ref p0), some (.int p1), some (.int p2), some (.int p3), none] [] S (f_X11_fooled S p0 p1 p2 p3)
  unfold f_X11_fooled
  refine ev_aload_n dX11_fooled_0 rfl ?_
  refine ev_iload_n dX11_fooled_1 rfl ?_
  refine ev_callGV (am_callV (as := [.int p1]) (o := p0) (st := []) cv_X11_138 dX11_fooled_2 kp0 rfl (am_le rfl) (am_fit (by omega) (by decide) (by decide) (by decide)) (t_X11_needHouse hl kp0)) rfl (by decide) (by decide) (fun S1 h1 => ?_)
  refine ev_aload_n dX11_fooled_5 rfl ?_
  refine ev_iload_n dX11_fooled_6 rfl ?_
  refine ev_callGV (am_callV (as := [.int p2]) (o := p0) (st := []) cv_X11_138 dX11_fooled_7 kp0 rfl (am_le rfl) (am_fit (by omega) (by decide) (by decide) (by decide)) (t_X11_needHouse hl kp0)) rfl (by decide) (by decide) (fun S2 h2 => ?_)
  refine ev_iload_n dX11_fooled_10 rfl ?_
  refine ev_iconst (v := 1) dX11_fooled_11 (by decide) ?_
  refine ev_icmp_lt (tgt := 21) dX11_fooled_12 (by decide) (fun c3 => ?_) (fun c3 => ?_)
  · exact ev_throwW (k := 1) tk_105_109 (tx := "a word has 1 to 8 strokes") (t := 40) (by decide +kernel) dX11_fooled_21 dX11_fooled_24 dX11_fooled_25 dX11_fooled_28 dX11_fooled_31 rfl (by decide) ⟨by decide, by decide, by decide, by decide⟩ (by decide) (by decide)
  · refine ev_iload_n dX11_fooled_15 rfl ?_
    refine ev_bipush (v := 8) dX11_fooled_16 (by decide) ?_
    refine ev_icmp_le (tgt := 32) dX11_fooled_18 (by decide) (fun c4 => ?_) (fun c4 => ?_)
    · refine ev_iload_n dX11_fooled_32 rfl ?_
      refine ev_aload_n dX11_fooled_33 rfl ?_
      refine ev_getR fk_X11_20 (by decide) dX11_fooled_34 kp0 (fun q5 k5 r5 => ?_)
      refine ev_iload_n dX11_fooled_37 rfl ?_
      refine ev_iload_n dX11_fooled_38 rfl ?_
      refine ev_callP (am_callVN (as := [.int p2, .int p1]) (o := q5) (st := [.int p3]) cv_X11_184 dX11_fooled_39 k5 rfl (am_le rfl) (am_fit (by omega) (by decide) (by decide) (by decide)) (am_no1 (fun _ => ⟨_, rfl⟩)) (t_X9_clearOf hl k5)) (fun v6 h6 => ?_)
      refine ev_callP (am_callS (as := [.int p3, .int v6]) (st := []) ct_X11_322 dX11_fooled_42 rfl (am_le rfl) (am_fit (by omega) (by decide) (by decide) (by decide)) (t_J9_min_7cf53 hl )) (fun v7 h7 => ?_)
      refine ev_istore dX11_fooled_45 (am_lt rfl) ?_
      refine ev_iload dX11_fooled_47 rfl ?_
      refine ev_if_ne (tgt := 56) dX11_fooled_49 (by decide) (fun c8 => ?_) (fun c8 => ?_)
      · refine ev_aload_n dX11_fooled_56 rfl ?_
        refine ev_getR fk_X11_20 (by decide) dX11_fooled_57 kp0 (fun q9 k9 r9 => ?_)
        refine ev_iload_n dX11_fooled_60 rfl ?_
        refine ev_iload dX11_fooled_61 rfl ?_
        refine ev_callP (am_callVN (as := [.int p1, .int v7]) (o := q9) (st := []) cv_X11_327 dX11_fooled_63 k9 rfl (am_le rfl) (am_fit (by omega) (by decide) (by decide) (by decide)) (am_no1 (fun _ => ⟨_, rfl⟩)) (t_X9_wordsOfLength hl k9)) (fun v10 h10 => ?_)
        refine ev_iload_n dX11_fooled_66 rfl ?_
        refine ev_iload dX11_fooled_67 rfl ?_
        refine ev_isub dX11_fooled_69 ?_
        refine ev_ishl dX11_fooled_70 ?_
        exact ev_iret dX11_fooled_71 rfl rfl (by decide) (by decide) rfl
      · refine ev_iconst (v := 0) dX11_fooled_52 (by decide) ?_
        refine ev_goto (tgt := 71) dX11_fooled_53 (by decide) ?_
        exact ev_iret dX11_fooled_71 rfl rfl (by decide) (by decide) rfl
    · exact ev_throwW (k := 1) tk_105_109 (tx := "a word has 1 to 8 strokes") (t := 40) (by decide +kernel) dX11_fooled_21 dX11_fooled_24 dX11_fooled_25 dX11_fooled_28 dX11_fooled_31 rfl (by decide) ⟨by decide, by decide, by decide, by decide⟩ (by decide) (by decide)
def f_X6_possibleAt_b38 (S : am_S) (a0 : Nat) (a1 : Nat) (a2 : Int32) (a4 : Int32) (a6 : Int32) (x6 : Int32 × Int32) : Option ((Int32 × Int32) ⊕ (Int32)) :=
  (if x6.2 < (S.1 a1 1) then ((am_rd S.2 a0 2 1).bind (fun q8 => ((am_ld S.1 q8 a2).bind (fun v9 => ((f_X9_wordFor S a1 v9 x6.2).bind (fun v10 => ((if v10 = (-1) then some x6.1 else ((f_X11_strokesOf v10).bind (fun v12 => (if v12 < a6 then some x6.1 else ((f_X11_cutTo v10 a6).bind (fun v14 => (if v14 = a4 then some (x6.1 ||| ((1 : Int32) <<< (x6.2 &&& 31))) else some x6.1))))))).bind (fun t11 => some (.inl (t11, (x6.2 + 1))))))))))) else some (.inr x6.1))
def f_X6_possibleAt (S : am_S) (p0 : Nat) (p1 : Nat) (p2 : Int32) (p3 : Int32) : Option (Int32 × (Nat → Nat → Int32)) :=
  ((f_X6_cameTo S p0 p1 p2 p3).bind (fun y1 => (if y1.1 = 0 then some (0, y1.2) else ((f_X6_hasRinging (y1.2, S.2) p0 p2).bind (fun v3 => (if v3 = 0 then some (0, y1.2) else ((f_X11_strokesOf y1.1).bind (fun v5 => ((am_loop (f_X6_possibleAt_b38 (y1.2, S.2) p0 p1 p2 y1.1 v5) am_fuel (0, 0)).bind (fun t6 => some (t6, y1.2)))))))))))
set_option maxRecDepth 20000 in
theorem t_X6_possibleAt {E : am_E} {l : Launch} (hl : l.stackTraces = false) {S : am_S} {p0 : Nat} {p1 : Nat} {p2 : Int32} {p3 : Int32} (kp0 : am_kd p0 = 106) (kp1 : am_kd p1 = 109) : am_M E l yX6_possibleAt (.code yX6_possibleAt cX6_possibleAt 9 (some .int)) 4 0 0 [.ref p0, .ref p1, .int p2, .int p3] S ((f_X6_possibleAt S p0 p1 p2 p3).map (fun (x : Int32 × (Nat → Nat → Int32)) => ((.inl (some (.int x.1)), (x.2, S.2)) : am_R))) := by
  refine am_M_of (w := fun (x : Int32 × (Nat → Nat → Int32)) => ((.inl (some (.int x.1)), (x.2, S.2)) : am_R)) hl (by decide) (am_fc rfl (am_fc rfl (am_fc rfl (am_fc rfl am_fn)))) (Nat.le_of_ble_eq_true rfl) ?_
  show am_Ev E l (RX6, cX6_possibleAt, 9, (some .int), [], am_rm 4 0 0) (fun b a s x => am_Z E 0 0 b a s ((fun (x : Int32 × (Nat → Nat → Int32)) => ((.inl (some (.int x.1)), (x.2, S.2)) : am_R)) x)) 0 0 0 [some (.ref p0), some (.ref p1), some (.int p2), some (.int p3), none, none, none, none, none] [] S (f_X6_possibleAt S p0 p1 p2 p3)
  unfold f_X6_possibleAt
  refine ev_aload_n dX6_possibleAt_0 rfl ?_
  refine ev_aload_n dX6_possibleAt_1 rfl ?_
  refine ev_iload_n dX6_possibleAt_2 rfl ?_
  refine ev_iload_n dX6_possibleAt_3 rfl ?_
  refine ev_callWI (am_callV (as := [.ref p1, .int p2, .int p3]) (o := p0) (st := []) cv_X6_71 dX6_possibleAt_4 kp0 rfl (am_le rfl) (am_fit (by omega) (by decide) (by decide) (by decide)) (t_X6_cameTo hl kp0 kp1)) (fun y1 h1 => ?_)
  refine ev_istore dX6_possibleAt_7 (am_lt rfl) ?_
  refine ev_iconst (v := 0) dX6_possibleAt_9 (by decide) ?_
  refine ev_istore dX6_possibleAt_10 (am_lt rfl) ?_
  refine ev_iload dX6_possibleAt_12 rfl ?_
  refine ev_if_eq (tgt := 25) dX6_possibleAt_14 (by decide) (fun c2 => ?_) (fun c2 => ?_)
  · refine ev_iload dX6_possibleAt_25 rfl ?_
    exact ev_iret dX6_possibleAt_27 rfl rfl (by decide) (by decide) rfl
  · refine ev_aload_n dX6_possibleAt_17 rfl ?_
    refine ev_iload_n dX6_possibleAt_18 rfl ?_
    refine ev_callP (am_callV (as := [.int p2]) (o := p0) (st := []) cv_X6_57 dX6_possibleAt_19 kp0 rfl (am_le rfl) (am_fit (by omega) (by decide) (by decide) (by decide)) (t_X6_hasRinging hl kp0)) (fun v3 h3 => ?_)
    refine ev_if_ne (tgt := 28) dX6_possibleAt_22 (by decide) (fun c4 => ?_) (fun c4 => ?_)
    · refine ev_iload dX6_possibleAt_28 rfl ?_
      refine ev_callP (am_callSN (as := [.int y1.1]) (st := []) ct_X6_64 dX6_possibleAt_30 rfl (am_le rfl) (am_fit (by omega) (by decide) (by decide) (by decide)) (am_no1 (fun _ => ⟨_, rfl⟩)) (t_X11_strokesOf hl )) (fun v5 h5 => ?_)
      refine ev_istore dX6_possibleAt_33 (am_lt rfl) ?_
      refine ev_iconst (v := 0) dX6_possibleAt_35 (by decide) ?_
      refine ev_istore dX6_possibleAt_36 (am_lt rfl) ?_
      refine ev_weak (am_wk (am_wk (am_wk (am_wf (am_wk (am_wk (am_wk (am_wk (am_wf am_wn))))))))) (ev_loop 38 104 (fun x6 : Int32 × Int32 => [some (.ref p0), some (.ref p1), some (.int p2), none, some (.int y1.1), some (.int x6.1), some (.int v5), some (.int x6.2), none]) (fun t6 : Int32 => [none, none, none, none, none, some (.int t6), none, none, none]) (fun x6 => (y1.2, S.2)) (fun t6 => (y1.2, S.2)) (fun x6 G6 hB6 hE6 => ?_) (fun t6 => ?_) am_fuel (0, 0))
      · unfold f_X6_possibleAt_b38
        refine ev_iload dX6_possibleAt_38 rfl ?_
        refine ev_aload_n dX6_possibleAt_40 rfl ?_
        refine ev_getN fk_X6_78 dX6_possibleAt_41 kp1 (am_fvI (by decide)) ?_
        refine ev_eq am_ib ?_
        refine ev_icmp_ge (tgt := 104) dX6_possibleAt_44 (by decide) (fun c16 => ?_) (fun c16 => ?_)
        · exact ev_leaf (am_wf (am_wf (am_wf (am_wf (am_wf (am_wk (am_wf (am_wf (am_wf am_wn))))))))) (hE6 x6.1)
        · refine ev_aload_n dX6_possibleAt_47 rfl ?_
          refine ev_aload_n dX6_possibleAt_48 rfl ?_
          refine ev_eq (Option.bind_assoc _ _ _) ?_
          refine ev_getR fk_X6_15 (by decide) dX6_possibleAt_49 kp0 (fun q17 k17 r17 => ?_)
          refine ev_iload_n dX6_possibleAt_52 rfl ?_
          refine ev_eq (Option.bind_assoc _ _ _) ?_
          refine ev_iald dX6_possibleAt_53 k17 (fun v18 h18 => ?_)
          refine ev_iload dX6_possibleAt_54 rfl ?_
          refine ev_eq (Option.bind_assoc _ _ _) ?_
          refine ev_callP (am_callVN (as := [.int v18, .int x6.2]) (o := p1) (st := []) cv_X6_81 dX6_possibleAt_56 kp1 rfl (am_le rfl) (am_fit (by omega) (by decide) (by decide) (by decide)) (am_no1 (fun _ => ⟨_, rfl⟩)) (t_X9_wordFor hl kp1)) (fun v19 h19 => ?_)
          refine ev_istore dX6_possibleAt_59 (am_lt rfl) ?_
          refine ev_iload dX6_possibleAt_61 rfl ?_
          refine ev_iconst (v := (-1)) dX6_possibleAt_63 (by decide) ?_
          refine ev_eq (Option.bind_assoc _ _ _) ?_
          refine ev_reg (cs' := 0) (sl' := 0) 98 (fun t20 : Int32 => [some (.ref p0), some (.ref p1), some (.int p2), none, some (.int y1.1), some (.int t20), some (.int v5), some (.int x6.2), none]) (fun t20 => []) (fun t20 => (y1.2, S.2)) (fun hJ20 => ?_) (fun t20 => ?_)
          · refine ev_eq am_ib ?_
            refine ev_icmp_eq (tgt := 98) dX6_possibleAt_64 (by decide) (fun c20 => ?_) (fun c20 => ?_)
            · exact ev_leaf (am_wk (am_wk (am_wk (am_wf (am_wk (am_wk (am_wk (am_wk (am_wf am_wn))))))))) (hJ20 x6.1)
            · refine ev_iload dX6_possibleAt_67 rfl ?_
              refine ev_eq (Option.bind_assoc _ _ _) ?_
              refine ev_callP (am_callSN (as := [.int v19]) (st := []) ct_X6_64 dX6_possibleAt_69 rfl (am_le rfl) (am_fit (by omega) (by decide) (by decide) (by decide)) (am_no1 (fun _ => ⟨_, rfl⟩)) (t_X11_strokesOf hl )) (fun v21 h21 => ?_)
              refine ev_iload dX6_possibleAt_72 rfl ?_
              refine ev_eq am_ib ?_
              refine ev_icmp_lt (tgt := 98) dX6_possibleAt_74 (by decide) (fun c22 => ?_) (fun c22 => ?_)
              · exact ev_leaf (am_wk (am_wk (am_wk (am_wf (am_wk (am_wk (am_wk (am_wk (am_wf am_wn))))))))) (hJ20 x6.1)
              · refine ev_iload dX6_possibleAt_77 rfl ?_
                refine ev_iload dX6_possibleAt_79 rfl ?_
                refine ev_eq (Option.bind_assoc _ _ _) ?_
                refine ev_callP (am_callSN (as := [.int v19, .int v5]) (st := []) ct_X6_46 dX6_possibleAt_81 rfl (am_le rfl) (am_fit (by omega) (by decide) (by decide) (by decide)) (am_no1 (fun _ => ⟨_, rfl⟩)) (t_X11_cutTo hl )) (fun v23 h23 => ?_)
                refine ev_iload dX6_possibleAt_84 rfl ?_
                refine ev_eq am_ib ?_
                refine ev_icmp_ne (tgt := 98) dX6_possibleAt_86 (by decide) (fun c24 => ?_) (fun c24 => ?_)
                · exact ev_leaf (am_wk (am_wk (am_wk (am_wf (am_wk (am_wk (am_wk (am_wk (am_wf am_wn))))))))) (hJ20 x6.1)
                · refine ev_iload dX6_possibleAt_89 rfl ?_
                  refine ev_iconst (v := 1) dX6_possibleAt_91 (by decide) ?_
                  refine ev_iload dX6_possibleAt_92 rfl ?_
                  refine ev_ishl dX6_possibleAt_94 ?_
                  refine ev_ior dX6_possibleAt_95 ?_
                  refine ev_istore dX6_possibleAt_96 (am_lt rfl) ?_
                  exact ev_leaf (am_wk (am_wk (am_wk (am_wf (am_wk (am_wk (am_wk (am_wk (am_wf am_wn))))))))) (hJ20 (x6.1 ||| ((1 : Int32) <<< (x6.2 &&& 31))))
          · refine ev_iinc (v := (x6.2 + 1)) dX6_possibleAt_98 (am_lt rfl) rfl rfl ?_
            refine ev_goto (tgt := 38) dX6_possibleAt_101 (by decide) ?_
            exact ev_leaf (am_wk (am_wk (am_wk (am_wf (am_wk (am_wk (am_wk (am_wk (am_wf am_wn))))))))) (hB6 (t20, (x6.2 + 1)))
      · refine ev_iload dX6_possibleAt_104 rfl ?_
        exact ev_iret dX6_possibleAt_106 rfl rfl (by decide) (by decide) rfl
    · refine ev_iload dX6_possibleAt_25 rfl ?_
      exact ev_iret dX6_possibleAt_27 rfl rfl (by decide) (by decide) rfl
def f_X11_could (S : am_S) (p0 : Nat) (p1 : Int32) (p2 : Int32) : Option (am_R) :=
  (am_thV (f_X11_needRinging S p0 p1) (fun S1 => (am_thV (f_X11_needHouse S1 p0 p2) (fun S2 => ((am_rd S2.2 p0 3 109).bind (fun q3 => ((am_rd S2.2 q3 15 106).bind (fun q4 => ((am_rd S2.2 p0 3 109).bind (fun q5 => ((f_X6_possibleAt S2 q4 q5 p1 p2).bind (fun y6 => some (.inl (some (.int y6.1)), (y6.2, S2.2))))))))))))))
set_option maxRecDepth 20000 in
theorem t_X11_could {E : am_E} {l : Launch} (hl : l.stackTraces = false) {S : am_S} {p0 : Nat} {p1 : Int32} {p2 : Int32} (kp0 : am_kd p0 = 111) : am_M E l yX11_could (.code yX11_could cX11_could 3 (some .int)) 5 2 12 [.ref p0, .int p1, .int p2] S (f_X11_could S p0 p1 p2) := by
  refine am_M_id (am_M_of (w := fun x => x) hl (by decide) (am_fc rfl (am_fc rfl (am_fc rfl am_fn))) (Nat.le_of_ble_eq_true rfl) ?_)
  show am_Ev E l (RX11, cX11_could, 3, (some .int), [], am_rm 5 2 12) (am_Z E 2 12) 0 0 0 [some (.ref p0), some (.int p1), some (.int p2)] [] S (f_X11_could S p0 p1 p2)
  unfold f_X11_could
  refine ev_aload_n dX11_could_0 rfl ?_
  refine ev_iload_n dX11_could_1 rfl ?_
  refine ev_callGV (am_callV (as := [.int p1]) (o := p0) (st := []) cv_X11_211 dX11_could_2 kp0 rfl (am_le rfl) (am_fit (by omega) (by decide) (by decide) (by decide)) (t_X11_needRinging hl kp0)) rfl (by decide) (by decide) (fun S1 h1 => ?_)
  refine ev_aload_n dX11_could_5 rfl ?_
  refine ev_iload_n dX11_could_6 rfl ?_
  refine ev_callGV (am_callV (as := [.int p2]) (o := p0) (st := []) cv_X11_138 dX11_could_7 kp0 rfl (am_le rfl) (am_fit (by omega) (by decide) (by decide) (by decide)) (t_X11_needHouse hl kp0)) rfl (by decide) (by decide) (fun S2 h2 => ?_)
  refine ev_aload_n dX11_could_10 rfl ?_
  refine ev_getR fk_X11_20 (by decide) dX11_could_11 kp0 (fun q3 k3 r3 => ?_)
  refine ev_getRN fk_X11_201 (by decide) dX11_could_14 k3 (fun q4 k4 r4 => ?_)
  refine ev_aload_n dX11_could_17 rfl ?_
  refine ev_getR fk_X11_20 (by decide) dX11_could_18 kp0 (fun q5 k5 r5 => ?_)
  refine ev_iload_n dX11_could_21 rfl ?_
  refine ev_iload_n dX11_could_22 rfl ?_
  refine ev_callWI (am_callVN (as := [.ref q5, .int p1, .int p2]) (o := q4) (st := []) cv_X11_330 dX11_could_23 k4 rfl (am_le rfl) (am_fit (by omega) (by decide) (by decide) (by decide)) (am_no1 (fun _ => ⟨_, rfl⟩)) (t_X6_possibleAt hl k4 k5)) (fun y6 h6 => ?_)
  exact ev_iret dX11_could_26 rfl rfl (by decide) (by decide) rfl
def f_X9_understoodAt_b13 (S : am_S) (a0 : Nat) (a2 : Int32) (a3 : Int32) (x2 : Int32 × Int32) : Option ((Int32 × Int32) ⊕ (Int32)) :=
  (if x2.2 < (S.1 a0 1) then (if 0 < a3 then ((f_X9_wordFor S a0 a2 x2.2).bind (fun v5 => ((if v5 = (-1) then some x2.1 else ((f_X11_cutTo v5 a3).bind (fun v7 => ((f_X9_takenFor S a0 a2 v7).bind (fun v8 => (if v8 = x2.2 then some (x2.1 + 1) else some x2.1)))))).bind (fun t6 => some (.inl (t6, (x2.2 + 1))))))) else some (.inr x2.1)) else some (.inr x2.1))
def f_X9_understoodAt (S : am_S) (p0 : Nat) (p1 : Int32) (p2 : Int32) : Option (Int32) :=
  ((f_X9_clearOf S p0 p1 p2).bind (fun v1 => ((am_loop (f_X9_understoodAt_b13 S p0 p2 v1) am_fuel (0, 0)).bind (fun t2 => some t2))))
set_option maxRecDepth 20000 in
theorem t_X9_understoodAt {E : am_E} {l : Launch} (hl : l.stackTraces = false) {S : am_S} {p0 : Nat} {p1 : Int32} {p2 : Int32} (kp0 : am_kd p0 = 109) : am_M E l yX9_understoodAt (.code yX9_understoodAt cX9_understoodAt 7 (some .int)) 3 0 0 [.ref p0, .int p1, .int p2] S ((f_X9_understoodAt S p0 p1 p2).map (fun (v : Int32) => ((.inl (some (.int v)), S) : am_R))) := by
  refine am_M_of (w := fun (v : Int32) => ((.inl (some (.int v)), S) : am_R)) hl (by decide) (am_fc rfl (am_fc rfl (am_fc rfl am_fn))) (Nat.le_of_ble_eq_true rfl) ?_
  show am_Ev E l (RX9, cX9_understoodAt, 7, (some .int), [], am_rm 3 0 0) (fun b a s x => am_Z E 0 0 b a s ((fun (v : Int32) => ((.inl (some (.int v)), S) : am_R)) x)) 0 0 0 [some (.ref p0), some (.int p1), some (.int p2), none, none, none, none] [] S (f_X9_understoodAt S p0 p1 p2)
  unfold f_X9_understoodAt
  refine ev_aload_n dX9_understoodAt_0 rfl ?_
  refine ev_iload_n dX9_understoodAt_1 rfl ?_
  refine ev_iload_n dX9_understoodAt_2 rfl ?_
  refine ev_callP (am_callV (as := [.int p1, .int p2]) (o := p0) (st := []) cv_X9_108 dX9_understoodAt_3 kp0 rfl (am_le rfl) (am_fit (by omega) (by decide) (by decide) (by decide)) (t_X9_clearOf hl kp0)) (fun v1 h1 => ?_)
  refine ev_istore_n dX9_understoodAt_6 (am_lt rfl) ?_
  refine ev_iconst (v := 0) dX9_understoodAt_7 (by decide) ?_
  refine ev_istore dX9_understoodAt_8 (am_lt rfl) ?_
  refine ev_iconst (v := 0) dX9_understoodAt_10 (by decide) ?_
  refine ev_istore dX9_understoodAt_11 (am_lt rfl) ?_
  refine ev_weak (am_wk (am_wf (am_wk (am_wk (am_wk (am_wk (am_wf am_wn))))))) (ev_loop 13 66 (fun x2 : Int32 × Int32 => [some (.ref p0), none, some (.int p2), some (.int v1), some (.int x2.1), some (.int x2.2), none]) (fun t2 : Int32 => [none, none, none, none, some (.int t2), none, none]) (fun x2 => S) (fun t2 => S) (fun x2 G2 hB2 hE2 => ?_) (fun t2 => ?_) am_fuel (0, 0))
  · unfold f_X9_understoodAt_b13
    refine ev_iload dX9_understoodAt_13 rfl ?_
    refine ev_aload_n dX9_understoodAt_15 rfl ?_
    refine ev_get fk_X9_54 dX9_understoodAt_16 kp0 (am_fvI (by decide)) ?_
    refine ev_eq am_ib ?_
    refine ev_icmp_ge (tgt := 66) dX9_understoodAt_19 (by decide) (fun c10 => ?_) (fun c10 => ?_)
    · exact ev_leaf (am_wf (am_wf (am_wf (am_wf (am_wk (am_wf (am_wf am_wn))))))) (hE2 x2.1)
    · refine ev_iload_n dX9_understoodAt_22 rfl ?_
      refine ev_eq am_ib ?_
      refine ev_if_le (tgt := 66) dX9_understoodAt_23 (by decide) (fun c11 => ?_) (fun c11 => ?_)
      · exact ev_leaf (am_wf (am_wf (am_wf (am_wf (am_wk (am_wf (am_wf am_wn))))))) (hE2 x2.1)
      · refine ev_aload_n dX9_understoodAt_26 rfl ?_
        refine ev_iload_n dX9_understoodAt_27 rfl ?_
        refine ev_iload dX9_understoodAt_28 rfl ?_
        refine ev_eq (Option.bind_assoc _ _ _) ?_
        refine ev_callP (am_callV (as := [.int p2, .int x2.2]) (o := p0) (st := []) cv_X9_89 dX9_understoodAt_30 kp0 rfl (am_le rfl) (am_fit (by omega) (by decide) (by decide) (by decide)) (t_X9_wordFor hl kp0)) (fun v12 h12 => ?_)
        refine ev_istore dX9_understoodAt_33 (am_lt rfl) ?_
        refine ev_iload dX9_understoodAt_35 rfl ?_
        refine ev_iconst (v := (-1)) dX9_understoodAt_37 (by decide) ?_
        refine ev_eq (Option.bind_assoc _ _ _) ?_
        refine ev_reg (cs' := 0) (sl' := 0) 60 (fun t13 : Int32 => [some (.ref p0), none, some (.int p2), some (.int v1), some (.int t13), some (.int x2.2), none]) (fun t13 => []) (fun t13 => S) (fun hJ13 => ?_) (fun t13 => ?_)
        · refine ev_eq am_ib ?_
          refine ev_icmp_eq (tgt := 60) dX9_understoodAt_38 (by decide) (fun c13 => ?_) (fun c13 => ?_)
          · exact ev_leaf (am_wk (am_wf (am_wk (am_wk (am_wk (am_wk (am_wf am_wn))))))) (hJ13 x2.1)
          · refine ev_aload_n dX9_understoodAt_41 rfl ?_
            refine ev_iload_n dX9_understoodAt_42 rfl ?_
            refine ev_iload dX9_understoodAt_43 rfl ?_
            refine ev_iload_n dX9_understoodAt_45 rfl ?_
            refine ev_eq (Option.bind_assoc _ _ _) ?_
            refine ev_callP (am_callSN (as := [.int v12, .int v1]) (st := [.int p2, .ref p0]) ct_X9_115 dX9_understoodAt_46 rfl (am_le rfl) (am_fit (by omega) (by decide) (by decide) (by decide)) (am_no1 (fun _ => ⟨_, rfl⟩)) (t_X11_cutTo hl )) (fun v14 h14 => ?_)
            refine ev_eq (Option.bind_assoc _ _ _) ?_
            refine ev_callP (am_callV (as := [.int p2, .int v14]) (o := p0) (st := []) cv_X9_118 dX9_understoodAt_49 kp0 rfl (am_le rfl) (am_fit (by omega) (by decide) (by decide) (by decide)) (t_X9_takenFor hl kp0)) (fun v15 h15 => ?_)
            refine ev_iload dX9_understoodAt_52 rfl ?_
            refine ev_eq am_ib ?_
            refine ev_icmp_ne (tgt := 60) dX9_understoodAt_54 (by decide) (fun c16 => ?_) (fun c16 => ?_)
            · exact ev_leaf (am_wk (am_wf (am_wk (am_wk (am_wk (am_wk (am_wf am_wn))))))) (hJ13 x2.1)
            · refine ev_iinc (v := (x2.1 + 1)) dX9_understoodAt_57 (am_lt rfl) rfl rfl ?_
              exact ev_leaf (am_wk (am_wf (am_wk (am_wk (am_wk (am_wk (am_wf am_wn))))))) (hJ13 (x2.1 + 1))
        · refine ev_iinc (v := (x2.2 + 1)) dX9_understoodAt_60 (am_lt rfl) rfl rfl ?_
          refine ev_goto (tgt := 13) dX9_understoodAt_63 (by decide) ?_
          exact ev_leaf (am_wk (am_wf (am_wk (am_wk (am_wk (am_wk (am_wf am_wn))))))) (hB2 (t13, (x2.2 + 1)))
  · refine ev_iload dX9_understoodAt_66 rfl ?_
    exact ev_iret dX9_understoodAt_68 rfl rfl (by decide) (by decide) rfl
def f_X11_understood_b9 (S : am_S) (a0 : Nat) (a1 : Int32) (x2 : Int32 × Int32) : Option ((Int32 × Int32) ⊕ (Int32)) :=
  ((am_rd S.2 a0 3 109).bind (fun q3 => (if x2.2 < (S.1 q3 0) then ((am_rd S.2 a0 3 109).bind (fun q5 => ((f_X9_understoodAt S q5 x2.2 a1).bind (fun v6 => some (.inl ((x2.1 + v6), (x2.2 + 1))))))) else some (.inr x2.1))))
def f_X11_understood (S : am_S) (p0 : Nat) (p1 : Int32) : Option (am_R) :=
  (am_thV (f_X11_needHouse S p0 p1) (fun S1 => ((am_loop (f_X11_understood_b9 S1 p0 p1) am_fuel (0, 0)).bind (fun t2 => some (.inl (some (.int t2)), S1)))))
set_option maxRecDepth 20000 in
theorem t_X11_understood {E : am_E} {l : Launch} (hl : l.stackTraces = false) {S : am_S} {p0 : Nat} {p1 : Int32} (kp0 : am_kd p0 = 111) : am_M E l yX11_understood (.code yX11_understood cX11_understood 4 (some .int)) 4 1 6 [.ref p0, .int p1] S (f_X11_understood S p0 p1) := by
  refine am_M_id (am_M_of (w := fun x => x) hl (by decide) (am_fc rfl (am_fc rfl am_fn)) (Nat.le_of_ble_eq_true rfl) ?_)
  show am_Ev E l (RX11, cX11_understood, 4, (some .int), [], am_rm 4 1 6) (am_Z E 1 6) 0 0 0 [some (.ref p0), some (.int p1), none, none] [] S (f_X11_understood S p0 p1)
  unfold f_X11_understood
  refine ev_aload_n dX11_understood_0 rfl ?_
  refine ev_iload_n dX11_understood_1 rfl ?_
  refine ev_callGV (am_callV (as := [.int p1]) (o := p0) (st := []) cv_X11_138 dX11_understood_2 kp0 rfl (am_le rfl) (am_fit (by omega) (by decide) (by decide) (by decide)) (t_X11_needHouse hl kp0)) rfl (by decide) (by decide) (fun S1 h1 => ?_)
  refine ev_iconst (v := 0) dX11_understood_5 (by decide) ?_
  refine ev_istore_n dX11_understood_6 (am_lt rfl) ?_
  refine ev_iconst (v := 0) dX11_understood_7 (by decide) ?_
  refine ev_istore_n dX11_understood_8 (am_lt rfl) ?_
  refine ev_weak (am_wk (am_wk (am_wk (am_wk am_wn)))) (ev_loop 9 38 (fun x2 : Int32 × Int32 => [some (.ref p0), some (.int p1), some (.int x2.1), some (.int x2.2)]) (fun t2 : Int32 => [none, none, some (.int t2), none]) (fun x2 => S1) (fun t2 => S1) (fun x2 G2 hB2 hE2 => ?_) (fun t2 => ?_) am_fuel (0, 0))
  · unfold f_X11_understood_b9
    refine ev_iload_n dX11_understood_9 rfl ?_
    refine ev_aload_n dX11_understood_10 rfl ?_
    refine ev_eq (Option.bind_assoc _ _ _) ?_
    refine ev_getR fk_X11_20 (by decide) dX11_understood_11 kp0 (fun q7 k7 r7 => ?_)
    refine ev_getN fk_X11_333 dX11_understood_14 k7 (am_fvI (by decide)) ?_
    refine ev_eq am_ib ?_
    refine ev_icmp_ge (tgt := 38) dX11_understood_17 (by decide) (fun c8 => ?_) (fun c8 => ?_)
    · exact ev_leaf (am_wf (am_wf (am_wk (am_wf am_wn)))) (hE2 x2.1)
    · refine ev_iload_n dX11_understood_20 rfl ?_
      refine ev_aload_n dX11_understood_21 rfl ?_
      refine ev_eq (Option.bind_assoc _ _ _) ?_
      refine ev_getR fk_X11_20 (by decide) dX11_understood_22 kp0 (fun q9 k9 r9 => ?_)
      refine ev_iload_n dX11_understood_25 rfl ?_
      refine ev_iload_n dX11_understood_26 rfl ?_
      refine ev_eq (Option.bind_assoc _ _ _) ?_
      refine ev_callP (am_callVN (as := [.int x2.2, .int p1]) (o := q9) (st := [.int x2.1]) cv_X11_336 dX11_understood_27 k9 rfl (am_le rfl) (am_fit (by omega) (by decide) (by decide) (by decide)) (am_no1 (fun _ => ⟨_, rfl⟩)) (t_X9_understoodAt hl k9)) (fun v10 h10 => ?_)
      refine ev_iadd dX11_understood_30 ?_
      refine ev_istore_n dX11_understood_31 (am_lt rfl) ?_
      refine ev_iinc (v := (x2.2 + 1)) dX11_understood_32 (am_lt rfl) rfl rfl ?_
      refine ev_goto (tgt := 9) dX11_understood_35 (by decide) ?_
      exact ev_leaf (am_wk (am_wk (am_wk (am_wk am_wn)))) (hB2 ((x2.1 + v10), (x2.2 + 1)))
  · refine ev_iload_n dX11_understood_38 rfl ?_
    exact ev_iret dX11_understood_39 rfl rfl (by decide) (by decide) rfl
def f_X11_quietest_b74 (S : am_S) (a0 : Nat) (a1 : Int32) (a2 : Int32) (a3 : Int32) (a4 : Int32) (a5 : Int32) (a6 : Int32) (x17 : Int32 × (Nat → Nat → Int32)) : Option ((Int32 × (Nat → Nat → Int32)) ⊕ ((Nat → Nat → Int32))) :=
  (if (a4 - a3) < x17.1 then some (.inr x17.2) else ((am_rd S.2 a0 8 1).bind (fun q19 => (if x17.1 < (Int32.ofNat (am_ln q19)) then ((am_rd S.2 a0 3 109).bind (fun q21 => ((am_rd S.2 a0 7 106).bind (fun q22 => ((f_X6_unmixed (x17.2, S.2) q22 a5 (a3 + x17.1)).bind (fun v23 => ((f_X9_takenFor (x17.2, S.2) q21 a1 v23).bind (fun v24 => ((if v24 = a2 then ((am_rd S.2 a0 8 1).bind (fun q26 => ((am_ld x17.2 q26 x17.1).bind (fun v27 => ((am_st x17.2 q26 x17.1 (v27 + 1)).bind (fun σ28 => some σ28)))))) else some x17.2).bind (fun t25 => some (.inl ((x17.1 + 1), t25)))))))))))) else some (.inr x17.2)))))
def f_X11_quietest_b46 (S : am_S) (a0 : Nat) (a1 : Int32) (a2 : Int32) (a3 : Int32) (a4 : Int32) (a5 : Int32) (x11 : Int32 × (Nat → Nat → Int32)) : Option ((Int32 × (Nat → Nat → Int32)) ⊕ ((Nat → Nat → Int32))) :=
  ((am_rd S.2 a0 3 109).bind (fun q12 => (if x11.1 < (x11.2 q12 0) then ((am_rd S.2 a0 7 106).bind (fun q14 => ((am_rd S.2 a0 3 109).bind (fun q15 => ((f_X6_listenAt (x11.2, S.2) q14 q15 x11.1).bind (fun σ16 => ((am_loop (f_X11_quietest_b74 (σ16, S.2) a0 a1 a2 a3 a4 a5 x11.1) am_fuel (0, σ16)).bind (fun t17 => some (.inl ((x11.1 + 1), t17)))))))))) else some (.inr x11.2))))
def f_X11_quietest_b147 (S : am_S) (a0 : Nat) (a3 : Int32) (a4 : Int32) (x68 : Int32 × Int32) : Option ((Int32 × Int32) ⊕ (Int32)) :=
  (if (a4 - a3) < x68.2 then some (.inr x68.1) else ((am_rd S.2 a0 8 1).bind (fun q70 => (if x68.2 < (Int32.ofNat (am_ln q70)) then ((am_rd S.2 a0 8 1).bind (fun q72 => ((am_ld S.1 q72 x68.2).bind (fun v73 => ((am_rd S.2 a0 8 1).bind (fun q74 => ((am_ld S.1 q74 x68.1).bind (fun v75 => ((if v75 < v73 then some x68.2 else some x68.1).bind (fun t76 => some (.inl (t76, (x68.2 + 1))))))))))))) else some (.inr x68.1)))))
def f_X11_quietest (S : am_S) (p0 : Nat) (p1 : Int32) (p2 : Int32) (p3 : Int32) (p4 : Int32) : Option (Int32 × (Nat → Nat → Int32)) :=
  ((am_rd S.2 p0 7 106).bind (fun q1 => ((am_rd S.2 p0 3 109).bind (fun q2 => ((am_rd S.2 q2 15 106).bind (fun q3 => ((f_X6_copyFrom S q1 q3).bind (fun σ4 => ((am_rd S.2 p0 7 106).bind (fun q5 => ((am_rd S.2 p0 3 109).bind (fun q6 => ((f_X9_wordFor (σ4, S.2) q6 p1 p2).bind (fun v7 => ((f_X6_add (σ4, S.2) q5 p3 p1 p2 v7).bind (fun y8 => ((am_rd S.2 p0 8 1).bind (fun q9 => ((f_J7_fill_53178 (y8.2, S.2) q9 0).bind (fun σ10 => ((am_loop (f_X11_quietest_b46 (σ10, S.2) p0 p1 p2 p3 p4 y8.1) am_fuel (0, σ10)).bind (fun t11 => ((am_loop (f_X11_quietest_b147 (t11, S.2) p0 p3 p4) am_fuel (0, 0)).bind (fun t68 => some ((p3 + t68), t11)))))))))))))))))))))))))
set_option maxRecDepth 20000 in
theorem t_X11_quietest {E : am_E} {l : Launch} (hl : l.stackTraces = false) {S : am_S} {p0 : Nat} {p1 : Int32} {p2 : Int32} {p3 : Int32} {p4 : Int32} (kp0 : am_kd p0 = 111) : am_M E l yX11_quietest (.code yX11_quietest cX11_quietest 8 (some .int)) 3 0 0 [.ref p0, .int p1, .int p2, .int p3, .int p4] S ((f_X11_quietest S p0 p1 p2 p3 p4).map (fun (x : Int32 × (Nat → Nat → Int32)) => ((.inl (some (.int x.1)), (x.2, S.2)) : am_R))) := by
  refine am_M_of (w := fun (x : Int32 × (Nat → Nat → Int32)) => ((.inl (some (.int x.1)), (x.2, S.2)) : am_R)) hl (by decide) (am_fc rfl (am_fc rfl (am_fc rfl (am_fc rfl (am_fc rfl am_fn))))) (Nat.le_of_ble_eq_true rfl) ?_
  show am_Ev E l (RX11, cX11_quietest, 8, (some .int), [], am_rm 3 0 0) (fun b a s x => am_Z E 0 0 b a s ((fun (x : Int32 × (Nat → Nat → Int32)) => ((.inl (some (.int x.1)), (x.2, S.2)) : am_R)) x)) 0 0 0 [some (.ref p0), some (.int p1), some (.int p2), some (.int p3), some (.int p4), none, none, none] [] S (f_X11_quietest S p0 p1 p2 p3 p4)
  unfold f_X11_quietest
  refine ev_aload_n dX11_quietest_0 rfl ?_
  refine ev_getR fk_X11_33 (by decide) dX11_quietest_1 kp0 (fun q1 k1 r1 => ?_)
  refine ev_aload_n dX11_quietest_4 rfl ?_
  refine ev_getR fk_X11_20 (by decide) dX11_quietest_5 kp0 (fun q2 k2 r2 => ?_)
  refine ev_getRN fk_X11_201 (by decide) dX11_quietest_8 k2 (fun q3 k3 r3 => ?_)
  refine ev_callWV (am_callVN (as := [.ref q3]) (o := q1) (st := []) cv_X11_407 dX11_quietest_11 k1 rfl (am_le rfl) (am_fit (by omega) (by decide) (by decide) (by decide)) (am_no1 (fun _ => ⟨_, rfl⟩)) (t_X6_copyFrom hl k1 k3)) (fun σ4 h4 => ?_)
  refine ev_aload_n dX11_quietest_14 rfl ?_
  refine ev_getR fk_X11_33 (by decide) dX11_quietest_15 kp0 (fun q5 k5 r5 => ?_)
  refine ev_iload_n dX11_quietest_18 rfl ?_
  refine ev_iload_n dX11_quietest_19 rfl ?_
  refine ev_iload_n dX11_quietest_20 rfl ?_
  refine ev_aload_n dX11_quietest_21 rfl ?_
  refine ev_getR fk_X11_20 (by decide) dX11_quietest_22 kp0 (fun q6 k6 r6 => ?_)
  refine ev_iload_n dX11_quietest_25 rfl ?_
  refine ev_iload_n dX11_quietest_26 rfl ?_
  refine ev_callP (am_callVN (as := [.int p1, .int p2]) (o := q6) (st := [.int p2, .int p1, .int p3, .ref q5]) cv_X11_171 dX11_quietest_27 k6 rfl (am_le rfl) (am_fit (by omega) (by decide) (by decide) (by decide)) (am_no1 (fun _ => ⟨_, rfl⟩)) (t_X9_wordFor hl k6)) (fun v7 h7 => ?_)
  refine ev_callWI (am_callVN (as := [.int p3, .int p1, .int p2, .int v7]) (o := q5) (st := []) cv_X11_204 dX11_quietest_30 k5 rfl (am_le rfl) (am_fit (by omega) (by decide) (by decide) (by decide)) (am_no1 (fun _ => ⟨_, rfl⟩)) (t_X6_add hl k5)) (fun y8 h8 => ?_)
  refine ev_istore dX11_quietest_33 (am_lt rfl) ?_
  refine ev_aload_n dX11_quietest_35 rfl ?_
  refine ev_getR fk_X11_37 (by decide) dX11_quietest_36 kp0 (fun q9 k9 r9 => ?_)
  refine ev_iconst (v := 0) dX11_quietest_39 (by decide) ?_
  refine ev_callWV (am_callS (as := [.ref q9, .int 0]) (st := []) ct_X11_410 dX11_quietest_40 rfl (am_le rfl) (am_fit (by omega) (by decide) (by decide) (by decide)) (t_J7_fill_53178 hl k9)) (fun σ10 h10 => ?_)
  refine ev_iconst (v := 0) dX11_quietest_43 (by decide) ?_
  refine ev_istore dX11_quietest_44 (am_lt rfl) ?_
  refine ev_weak (am_wk (am_wk (am_wk (am_wk (am_wk (am_wk (am_wk (am_wf am_wn)))))))) (ev_loop 46 141 (fun x11 : Int32 × (Nat → Nat → Int32) => [some (.ref p0), some (.int p1), some (.int p2), some (.int p3), some (.int p4), some (.int y8.1), some (.int x11.1), none]) (fun t11 : (Nat → Nat → Int32) => [some (.ref p0), none, none, some (.int p3), some (.int p4), none, none, none]) (fun x11 => (x11.2, S.2)) (fun t11 => (t11, S.2)) (fun x11 G11 hB11 hE11 => ?_) (fun t11 => ?_) am_fuel (0, σ10))
  · unfold f_X11_quietest_b46
    refine ev_iload dX11_quietest_46 rfl ?_
    refine ev_aload_n dX11_quietest_48 rfl ?_
    refine ev_eq (Option.bind_assoc _ _ _) ?_
    refine ev_getR fk_X11_20 (by decide) dX11_quietest_49 kp0 (fun q40 k40 r40 => ?_)
    refine ev_getN fk_X11_333 dX11_quietest_52 k40 (am_fvI (by decide)) ?_
    refine ev_eq am_ib ?_
    refine ev_icmp_ge (tgt := 141) dX11_quietest_55 (by decide) (fun c41 => ?_) (fun c41 => ?_)
    · exact ev_leaf (am_wk (am_wf (am_wf (am_wk (am_wk (am_wf (am_wf (am_wf am_wn)))))))) (hE11 x11.2)
    · refine ev_aload_n dX11_quietest_58 rfl ?_
      refine ev_eq (Option.bind_assoc _ _ _) ?_
      refine ev_getR fk_X11_33 (by decide) dX11_quietest_59 kp0 (fun q42 k42 r42 => ?_)
      refine ev_aload_n dX11_quietest_62 rfl ?_
      refine ev_eq (Option.bind_assoc _ _ _) ?_
      refine ev_getR fk_X11_20 (by decide) dX11_quietest_63 kp0 (fun q43 k43 r43 => ?_)
      refine ev_iload dX11_quietest_66 rfl ?_
      refine ev_eq (Option.bind_assoc _ _ _) ?_
      refine ev_callWV (am_callVN (as := [.ref q43, .int x11.1]) (o := q42) (st := []) cv_X11_416 dX11_quietest_68 k42 rfl (am_le rfl) (am_fit (by omega) (by decide) (by decide) (by decide)) (am_no1 (fun _ => ⟨_, rfl⟩)) (t_X6_listenAt hl k42 k43)) (fun σ44 h44 => ?_)
      refine ev_iconst (v := 0) dX11_quietest_71 (by decide) ?_
      refine ev_istore dX11_quietest_72 (am_lt rfl) ?_
      refine ev_eq (Option.bind_assoc _ _ _) ?_
      refine ev_weak (am_wk (am_wk (am_wk (am_wk (am_wk (am_wk (am_wk (am_wk am_wn)))))))) (ev_loop 74 135 (fun x45 : Int32 × (Nat → Nat → Int32) => [some (.ref p0), some (.int p1), some (.int p2), some (.int p3), some (.int p4), some (.int y8.1), some (.int x11.1), some (.int x45.1)]) (fun t45 : (Nat → Nat → Int32) => [some (.ref p0), some (.int p1), some (.int p2), some (.int p3), some (.int p4), some (.int y8.1), some (.int x11.1), none]) (fun x45 => (x45.2, S.2)) (fun t45 => (t45, S.2)) (fun x45 G45 hB45 hE45 => ?_) (fun t45 => ?_) am_fuel (0, σ44))
      · unfold f_X11_quietest_b74
        refine ev_iload dX11_quietest_74 rfl ?_
        refine ev_iload dX11_quietest_76 rfl ?_
        refine ev_iload_n dX11_quietest_78 rfl ?_
        refine ev_isub dX11_quietest_79 ?_
        refine ev_eq am_ib ?_
        refine ev_icmp_gt (tgt := 135) dX11_quietest_80 (by decide) (fun c57 => ?_) (fun c57 => ?_)
        · exact ev_leaf (am_wk (am_wk (am_wk (am_wk (am_wk (am_wk (am_wk (am_wf am_wn)))))))) (hE45 x45.2)
        · refine ev_iload dX11_quietest_83 rfl ?_
          refine ev_aload_n dX11_quietest_85 rfl ?_
          refine ev_eq (Option.bind_assoc _ _ _) ?_
          refine ev_getR fk_X11_37 (by decide) dX11_quietest_86 kp0 (fun q58 k58 r58 => ?_)
          refine ev_alen dX11_quietest_89 k58 (by decide) (by decide) ?_
          refine ev_eq am_ib ?_
          refine ev_icmp_ge (tgt := 135) dX11_quietest_90 (by decide) (fun c59 => ?_) (fun c59 => ?_)
          · exact ev_leaf (am_wk (am_wk (am_wk (am_wk (am_wk (am_wk (am_wk (am_wf am_wn)))))))) (hE45 x45.2)
          · refine ev_aload_n dX11_quietest_93 rfl ?_
            refine ev_eq (Option.bind_assoc _ _ _) ?_
            refine ev_getR fk_X11_20 (by decide) dX11_quietest_94 kp0 (fun q60 k60 r60 => ?_)
            refine ev_iload_n dX11_quietest_97 rfl ?_
            refine ev_aload_n dX11_quietest_98 rfl ?_
            refine ev_eq (Option.bind_assoc _ _ _) ?_
            refine ev_getR fk_X11_33 (by decide) dX11_quietest_99 kp0 (fun q61 k61 r61 => ?_)
            refine ev_iload dX11_quietest_102 rfl ?_
            refine ev_iload_n dX11_quietest_104 rfl ?_
            refine ev_iload dX11_quietest_105 rfl ?_
            refine ev_iadd dX11_quietest_107 ?_
            refine ev_eq (Option.bind_assoc _ _ _) ?_
            refine ev_callP (am_callVN (as := [.int y8.1, .int (p3 + x45.1)]) (o := q61) (st := [.int p1, .ref q60]) cv_X11_419 dX11_quietest_108 k61 rfl (am_le rfl) (am_fit (by omega) (by decide) (by decide) (by decide)) (am_no1 (fun _ => ⟨_, rfl⟩)) (t_X6_unmixed hl k61)) (fun v62 h62 => ?_)
            refine ev_eq (Option.bind_assoc _ _ _) ?_
            refine ev_callP (am_callVN (as := [.int p1, .int v62]) (o := q60) (st := []) cv_X11_422 dX11_quietest_111 k60 rfl (am_le rfl) (am_fit (by omega) (by decide) (by decide) (by decide)) (am_no1 (fun _ => ⟨_, rfl⟩)) (t_X9_takenFor hl k60)) (fun v63 h63 => ?_)
            refine ev_iload_n dX11_quietest_114 rfl ?_
            refine ev_eq (Option.bind_assoc _ _ _) ?_
            refine ev_reg (cs' := 0) (sl' := 0) 129 (fun t64 : (Nat → Nat → Int32) => [some (.ref p0), some (.int p1), some (.int p2), some (.int p3), some (.int p4), some (.int y8.1), some (.int x11.1), some (.int x45.1)]) (fun t64 => []) (fun t64 => (t64, S.2)) (fun hJ64 => ?_) (fun t64 => ?_)
            · refine ev_eq am_ib ?_
              refine ev_icmp_ne (tgt := 129) dX11_quietest_115 (by decide) (fun c64 => ?_) (fun c64 => ?_)
              · exact ev_leaf (am_wk (am_wk (am_wk (am_wk (am_wk (am_wk (am_wk (am_wk am_wn)))))))) (hJ64 x45.2)
              · refine ev_aload_n dX11_quietest_118 rfl ?_
                refine ev_eq (Option.bind_assoc _ _ _) ?_
                refine ev_getR fk_X11_37 (by decide) dX11_quietest_119 kp0 (fun q65 k65 r65 => ?_)
                refine ev_iload dX11_quietest_122 rfl ?_
                refine ev_dup2 dX11_quietest_124 rfl rfl ?_
                refine ev_eq (Option.bind_assoc _ _ _) ?_
                refine ev_iald dX11_quietest_125 k65 (fun v66 h66 => ?_)
                refine ev_iconst (v := 1) dX11_quietest_126 (by decide) ?_
                refine ev_iadd dX11_quietest_127 ?_
                refine ev_eq (Option.bind_assoc _ _ _) ?_
                refine ev_iast dX11_quietest_128 k65 (fun σ67 h67 => ?_)
                exact ev_leaf (am_wk (am_wk (am_wk (am_wk (am_wk (am_wk (am_wk (am_wk am_wn)))))))) (hJ64 σ67)
            · refine ev_iinc (v := (x45.1 + 1)) dX11_quietest_129 (am_lt rfl) rfl rfl ?_
              refine ev_goto (tgt := 74) dX11_quietest_132 (by decide) ?_
              exact ev_leaf (am_wk (am_wk (am_wk (am_wk (am_wk (am_wk (am_wk (am_wk am_wn)))))))) (hB45 ((x45.1 + 1), t64))
      · refine ev_iinc (v := (x11.1 + 1)) dX11_quietest_135 (am_lt rfl) rfl rfl ?_
        refine ev_goto (tgt := 46) dX11_quietest_138 (by decide) ?_
        exact ev_leaf (am_wk (am_wk (am_wk (am_wk (am_wk (am_wk (am_wk (am_wf am_wn)))))))) (hB11 ((x11.1 + 1), t45))
  · refine ev_iconst (v := 0) dX11_quietest_141 (by decide) ?_
    refine ev_istore dX11_quietest_142 (am_lt rfl) ?_
    refine ev_iconst (v := 0) dX11_quietest_144 (by decide) ?_
    refine ev_istore dX11_quietest_145 (am_lt rfl) ?_
    refine ev_weak (am_wk (am_wf (am_wf (am_wk (am_wk (am_wf (am_wk (am_wk am_wn)))))))) (ev_loop 147 193 (fun x68 : Int32 × Int32 => [some (.ref p0), none, none, some (.int p3), some (.int p4), none, some (.int x68.1), some (.int x68.2)]) (fun t68 : Int32 => [none, none, none, some (.int p3), none, none, some (.int t68), none]) (fun x68 => (t11, S.2)) (fun t68 => (t11, S.2)) (fun x68 G68 hB68 hE68 => ?_) (fun t68 => ?_) am_fuel (0, 0))
    · unfold f_X11_quietest_b147
      refine ev_iload dX11_quietest_147 rfl ?_
      refine ev_iload dX11_quietest_149 rfl ?_
      refine ev_iload_n dX11_quietest_151 rfl ?_
      refine ev_isub dX11_quietest_152 ?_
      refine ev_eq am_ib ?_
      refine ev_icmp_gt (tgt := 193) dX11_quietest_153 (by decide) (fun c77 => ?_) (fun c77 => ?_)
      · exact ev_leaf (am_wf (am_wf (am_wf (am_wk (am_wf (am_wf (am_wk (am_wf am_wn)))))))) (hE68 x68.1)
      · refine ev_iload dX11_quietest_156 rfl ?_
        refine ev_aload_n dX11_quietest_158 rfl ?_
        refine ev_eq (Option.bind_assoc _ _ _) ?_
        refine ev_getR fk_X11_37 (by decide) dX11_quietest_159 kp0 (fun q78 k78 r78 => ?_)
        refine ev_alen dX11_quietest_162 k78 (by decide) (by decide) ?_
        refine ev_eq am_ib ?_
        refine ev_icmp_ge (tgt := 193) dX11_quietest_163 (by decide) (fun c79 => ?_) (fun c79 => ?_)
        · exact ev_leaf (am_wf (am_wf (am_wf (am_wk (am_wf (am_wf (am_wk (am_wf am_wn)))))))) (hE68 x68.1)
        · refine ev_aload_n dX11_quietest_166 rfl ?_
          refine ev_eq (Option.bind_assoc _ _ _) ?_
          refine ev_getR fk_X11_37 (by decide) dX11_quietest_167 kp0 (fun q80 k80 r80 => ?_)
          refine ev_iload dX11_quietest_170 rfl ?_
          refine ev_eq (Option.bind_assoc _ _ _) ?_
          refine ev_iald dX11_quietest_172 k80 (fun v81 h81 => ?_)
          refine ev_aload_n dX11_quietest_173 rfl ?_
          refine ev_eq (Option.bind_assoc _ _ _) ?_
          refine ev_getR fk_X11_37 (by decide) dX11_quietest_174 kp0 (fun q82 k82 r82 => ?_)
          refine ev_iload dX11_quietest_177 rfl ?_
          refine ev_eq (Option.bind_assoc _ _ _) ?_
          refine ev_iald dX11_quietest_179 k82 (fun v83 h83 => ?_)
          refine ev_eq (Option.bind_assoc _ _ _) ?_
          refine ev_reg (cs' := 0) (sl' := 0) 187 (fun t84 : Int32 => [some (.ref p0), none, none, some (.int p3), some (.int p4), none, some (.int t84), some (.int x68.2)]) (fun t84 => []) (fun t84 => (t11, S.2)) (fun hJ84 => ?_) (fun t84 => ?_)
          · refine ev_eq am_ib ?_
            refine ev_icmp_le (tgt := 187) dX11_quietest_180 (by decide) (fun c84 => ?_) (fun c84 => ?_)
            · exact ev_leaf (am_wk (am_wf (am_wf (am_wk (am_wk (am_wf (am_wk (am_wk am_wn)))))))) (hJ84 x68.1)
            · refine ev_iload dX11_quietest_183 rfl ?_
              refine ev_istore dX11_quietest_185 (am_lt rfl) ?_
              exact ev_leaf (am_wk (am_wf (am_wf (am_wk (am_wk (am_wf (am_wk (am_wk am_wn)))))))) (hJ84 x68.2)
          · refine ev_iinc (v := (x68.2 + 1)) dX11_quietest_187 (am_lt rfl) rfl rfl ?_
            refine ev_goto (tgt := 147) dX11_quietest_190 (by decide) ?_
            exact ev_leaf (am_wk (am_wf (am_wf (am_wk (am_wk (am_wf (am_wk (am_wk am_wn)))))))) (hB68 (t84, (x68.2 + 1)))
    · refine ev_iload_n dX11_quietest_193 rfl ?_
      refine ev_iload dX11_quietest_194 rfl ?_
      refine ev_iadd dX11_quietest_196 ?_
      exact ev_iret dX11_quietest_197 rfl rfl (by decide) (by decide) rfl
def f_X11_quiet (S : am_S) (p0 : Nat) (p1 : Int32) (p2 : Int32) (p3 : Int32) (p4 : Int32) : Option (am_R) :=
  (am_thV (f_X11_needHouse S p0 p1) (fun S1 => (am_thV (f_X11_needWant S1 p0 p2) (fun S2 => (am_thV (f_X11_needMinute S2 p0 p3) (fun S3 => (am_thV (f_X11_needMinute S3 p0 p4) (fun S4 => (if p4 < p3 then some (.inr 1, S4) else (if 60 < (p4 - p3) then some (.inr 1, S4) else (am_thV (f_X11_needRoomForRinging S4 p0) (fun S7 => ((am_rd S7.2 p0 3 109).bind (fun q8 => ((f_X9_wordFor S7 q8 p1 p2).bind (fun v9 => (if v9 = (-1) then some (.inl (some (.int (-1))), S7) else ((f_X11_quietest S7 p0 p1 p2 p3 p4).bind (fun y11 => some (.inl (some (.int y11.1)), (y11.2, S7.2)))))))))))))))))))))
set_option maxRecDepth 20000 in
theorem t_X11_quiet {E : am_E} {l : Launch} (hl : l.stackTraces = false) {S : am_S} {p0 : Nat} {p1 : Int32} {p2 : Int32} {p3 : Int32} {p4 : Int32} (kp0 : am_kd p0 = 111) : am_M E l yX11_quiet (.code yX11_quiet cX11_quiet 6 (some .int)) 4 6 36 [.ref p0, .int p1, .int p2, .int p3, .int p4] S (f_X11_quiet S p0 p1 p2 p3 p4) := by
  refine am_M_id (am_M_of (w := fun x => x) hl (by decide) (am_fc rfl (am_fc rfl (am_fc rfl (am_fc rfl (am_fc rfl am_fn))))) (Nat.le_of_ble_eq_true rfl) ?_)
  show am_Ev E l (RX11, cX11_quiet, 6, (some .int), [], am_rm 4 6 36) (am_Z E 6 36) 0 0 0 [some (.ref p0), some (.int p1), some (.int p2), some (.int p3), some (.int p4), none] [] S (f_X11_quiet S p0 p1 p2 p3 p4)
  unfold f_X11_quiet
  refine ev_aload_n dX11_quiet_0 rfl ?_
  refine ev_iload_n dX11_quiet_1 rfl ?_
  refine ev_callGV (am_callV (as := [.int p1]) (o := p0) (st := []) cv_X11_138 dX11_quiet_2 kp0 rfl (am_le rfl) (am_fit (by omega) (by decide) (by decide) (by decide)) (t_X11_needHouse hl kp0)) rfl (by decide) (by decide) (fun S1 h1 => ?_)
  refine ev_aload_n dX11_quiet_5 rfl ?_
  refine ev_iload_n dX11_quiet_6 rfl ?_
  refine ev_callGV (am_callV (as := [.int p2]) (o := p0) (st := []) cv_X11_165 dX11_quiet_7 kp0 rfl (am_le rfl) (am_fit (by omega) (by decide) (by decide) (by decide)) (t_X11_needWant hl kp0)) rfl (by decide) (by decide) (fun S2 h2 => ?_)
  refine ev_aload_n dX11_quiet_10 rfl ?_
  refine ev_iload_n dX11_quiet_11 rfl ?_
  refine ev_callGV (am_callV (as := [.int p3]) (o := p0) (st := []) cv_X11_193 dX11_quiet_12 kp0 rfl (am_le rfl) (am_fit (by omega) (by decide) (by decide) (by decide)) (t_X11_needMinute hl kp0)) rfl (by decide) (by decide) (fun S3 h3 => ?_)
  refine ev_aload_n dX11_quiet_15 rfl ?_
  refine ev_iload dX11_quiet_16 rfl ?_
  refine ev_callGV (am_callV (as := [.int p4]) (o := p0) (st := []) cv_X11_193 dX11_quiet_18 kp0 rfl (am_le rfl) (am_fit (by omega) (by decide) (by decide) (by decide)) (t_X11_needMinute hl kp0)) rfl (by decide) (by decide) (fun S4 h4 => ?_)
  refine ev_iload dX11_quiet_21 rfl ?_
  refine ev_iload_n dX11_quiet_23 rfl ?_
  refine ev_icmp_lt (tgt := 36) dX11_quiet_24 (by decide) (fun c5 => ?_) (fun c5 => ?_)
  · exact ev_throwW (k := 1) tk_105_109 (tx := "the minutes are not 0 to 60 apart") (t := 41) (by decide +kernel) dX11_quiet_36 dX11_quiet_39 dX11_quiet_40 dX11_quiet_43 dX11_quiet_46 rfl (by decide) ⟨by decide, by decide, by decide, by decide⟩ (by decide) (by decide)
  · refine ev_iload dX11_quiet_27 rfl ?_
    refine ev_iload_n dX11_quiet_29 rfl ?_
    refine ev_isub dX11_quiet_30 ?_
    refine ev_bipush (v := 60) dX11_quiet_31 (by decide) ?_
    refine ev_icmp_le (tgt := 47) dX11_quiet_33 (by decide) (fun c6 => ?_) (fun c6 => ?_)
    · refine ev_aload_n dX11_quiet_47 rfl ?_
      refine ev_callGV (am_callV (as := []) (o := p0) (st := []) cv_X11_198 dX11_quiet_48 kp0 rfl (am_le rfl) (am_fit (by omega) (by decide) (by decide) (by decide)) (t_X11_needRoomForRinging hl kp0)) rfl (by decide) (by decide) (fun S7 h7 => ?_)
      refine ev_aload_n dX11_quiet_51 rfl ?_
      refine ev_getR fk_X11_20 (by decide) dX11_quiet_52 kp0 (fun q8 k8 r8 => ?_)
      refine ev_iload_n dX11_quiet_55 rfl ?_
      refine ev_iload_n dX11_quiet_56 rfl ?_
      refine ev_callP (am_callVN (as := [.int p1, .int p2]) (o := q8) (st := []) cv_X11_171 dX11_quiet_57 k8 rfl (am_le rfl) (am_fit (by omega) (by decide) (by decide) (by decide)) (am_no1 (fun _ => ⟨_, rfl⟩)) (t_X9_wordFor hl k8)) (fun v9 h9 => ?_)
      refine ev_istore dX11_quiet_60 (am_lt rfl) ?_
      refine ev_iload dX11_quiet_62 rfl ?_
      refine ev_iconst (v := (-1)) dX11_quiet_64 (by decide) ?_
      refine ev_icmp_ne (tgt := 72) dX11_quiet_65 (by decide) (fun c10 => ?_) (fun c10 => ?_)
      · refine ev_aload_n dX11_quiet_72 rfl ?_
        refine ev_iload_n dX11_quiet_73 rfl ?_
        refine ev_iload_n dX11_quiet_74 rfl ?_
        refine ev_iload_n dX11_quiet_75 rfl ?_
        refine ev_iload dX11_quiet_76 rfl ?_
        refine ev_callWI (am_callV (as := [.int p1, .int p2, .int p3, .int p4]) (o := p0) (st := []) cv_X11_341 dX11_quiet_78 kp0 rfl (am_le rfl) (am_fit (by omega) (by decide) (by decide) (by decide)) (t_X11_quietest hl kp0)) (fun y11 h11 => ?_)
        exact ev_iret dX11_quiet_81 rfl rfl (by decide) (by decide) rfl
      · refine ev_iconst (v := (-1)) dX11_quiet_68 (by decide) ?_
        refine ev_goto (tgt := 81) dX11_quiet_69 (by decide) ?_
        exact ev_iret dX11_quiet_81 rfl rfl (by decide) (by decide) rfl
    · exact ev_throwW (k := 1) tk_105_109 (tx := "the minutes are not 0 to 60 apart") (t := 41) (by decide +kernel) dX11_quiet_36 dX11_quiet_39 dX11_quiet_40 dX11_quiet_43 dX11_quiet_46 rfl (by decide) ⟨by decide, by decide, by decide, by decide⟩ (by decide) (by decide)
def f_X9_isClashing_b3 (S : am_S) (a0 : Nat) (a1 : Int32) (a2 : Int32) (a3 : Int32) (x1 : Int32) : Option ((Int32) ⊕ ((Unit) ⊕ (Int32))) :=
  (if x1 < (S.1 a0 1) then ((f_X9_wordFor S a0 a1 x1).bind (fun v3 => (if x1 = a2 then some (.inl (x1 + 1)) else (if v3 = (-1) then some (.inl (x1 + 1)) else ((f_X11_isOneBegin a3 v3).bind (fun v6 => (if v6 = 0 then some (.inl (x1 + 1)) else some (.inr (.inr 1))))))))) else some (.inr (.inr 0)))
def f_X9_isClashing (S : am_S) (p0 : Nat) (p1 : Int32) (p2 : Int32) (p3 : Int32) : Option (Int32) :=
  ((am_loop (f_X9_isClashing_b3 S p0 p1 p2 p3) am_fuel 0).bind (fun r1 => match r1 with | .inl t1 => none | .inr b1 => some b1))
set_option maxRecDepth 20000 in
theorem t_X9_isClashing {E : am_E} {l : Launch} (hl : l.stackTraces = false) {S : am_S} {p0 : Nat} {p1 : Int32} {p2 : Int32} {p3 : Int32} (kp0 : am_kd p0 = 109) : am_M E l yX9_isClashing (.code yX9_isClashing cX9_isClashing 6 (some .boolean)) 3 0 0 [.ref p0, .int p1, .int p2, .int p3] S ((f_X9_isClashing S p0 p1 p2 p3).map (fun (v : Int32) => ((.inl (some (.int v)), S) : am_R))) := by
  refine am_M_of (w := fun (v : Int32) => ((.inl (some (.int v)), S) : am_R)) hl (by decide) (am_fc rfl (am_fc rfl (am_fc rfl (am_fc rfl am_fn)))) (Nat.le_of_ble_eq_true rfl) ?_
  show am_Ev E l (RX9, cX9_isClashing, 6, (some .boolean), [], am_rm 3 0 0) (fun b a s x => am_Z E 0 0 b a s ((fun (v : Int32) => ((.inl (some (.int v)), S) : am_R)) x)) 0 0 0 [some (.ref p0), some (.int p1), some (.int p2), some (.int p3), none, none] [] S (f_X9_isClashing S p0 p1 p2 p3)
  unfold f_X9_isClashing
  refine ev_iconst (v := 0) dX9_isClashing_0 (by decide) ?_
  refine ev_istore dX9_isClashing_1 (am_lt rfl) ?_
  refine ev_weak (am_wk (am_wk (am_wk (am_wk (am_wk (am_wf am_wn)))))) (ev_loopR 3 0 (fun x1 : Int32 => [some (.ref p0), some (.int p1), some (.int p2), some (.int p3), some (.int x1), none]) (fun t1 : Unit => [none, none, none, none, none, none]) (fun x1 => S) (fun t1 => S) (fun x1 G1 hB1 hE1 hG1 => ?_) (fun t1 => ?_) am_fuel 0)
  · unfold f_X9_isClashing_b3
    refine ev_iload dX9_isClashing_3 rfl ?_
    refine ev_aload_n dX9_isClashing_5 rfl ?_
    refine ev_get fk_X9_54 dX9_isClashing_6 kp0 (am_fvI (by decide)) ?_
    refine ev_eq am_ib ?_
    refine ev_icmp_ge (tgt := 50) dX9_isClashing_9 (by decide) (fun c8 => ?_) (fun c8 => ?_)
    · refine ev_iconst (v := 0) dX9_isClashing_50 (by decide) ?_
      exact ev_eq (hG1 _) (ev_iret dX9_isClashing_51 rfl (by decide) (by decide) (by decide) rfl)
    · refine ev_aload_n dX9_isClashing_12 rfl ?_
      refine ev_iload_n dX9_isClashing_13 rfl ?_
      refine ev_iload dX9_isClashing_14 rfl ?_
      refine ev_eq (Option.bind_assoc _ _ _) ?_
      refine ev_callP (am_callV (as := [.int p1, .int x1]) (o := p0) (st := []) cv_X9_89 dX9_isClashing_16 kp0 rfl (am_le rfl) (am_fit (by omega) (by decide) (by decide) (by decide)) (t_X9_wordFor hl kp0)) (fun v9 h9 => ?_)
      refine ev_istore dX9_isClashing_19 (am_lt rfl) ?_
      refine ev_iload dX9_isClashing_21 rfl ?_
      refine ev_iload_n dX9_isClashing_23 rfl ?_
      refine ev_eq am_ib ?_
      refine ev_icmp_eq (tgt := 44) dX9_isClashing_24 (by decide) (fun c10 => ?_) (fun c10 => ?_)
      · refine ev_iinc (v := (x1 + 1)) dX9_isClashing_44 (am_lt rfl) rfl rfl ?_
        refine ev_goto (tgt := 3) dX9_isClashing_47 (by decide) ?_
        exact ev_leaf (am_wk (am_wk (am_wk (am_wk (am_wk (am_wf am_wn)))))) (hB1 (x1 + 1))
      · refine ev_iload dX9_isClashing_27 rfl ?_
        refine ev_iconst (v := (-1)) dX9_isClashing_29 (by decide) ?_
        refine ev_eq am_ib ?_
        refine ev_icmp_eq (tgt := 44) dX9_isClashing_30 (by decide) (fun c11 => ?_) (fun c11 => ?_)
        · refine ev_iinc (v := (x1 + 1)) dX9_isClashing_44 (am_lt rfl) rfl rfl ?_
          refine ev_goto (tgt := 3) dX9_isClashing_47 (by decide) ?_
          exact ev_leaf (am_wk (am_wk (am_wk (am_wk (am_wk (am_wf am_wn)))))) (hB1 (x1 + 1))
        · refine ev_iload_n dX9_isClashing_33 rfl ?_
          refine ev_iload dX9_isClashing_34 rfl ?_
          refine ev_eq (Option.bind_assoc _ _ _) ?_
          refine ev_callP (am_callSN (as := [.int p3, .int v9]) (st := []) ct_X9_124 dX9_isClashing_36 rfl (am_le rfl) (am_fit (by omega) (by decide) (by decide) (by decide)) (am_no1 (fun _ => ⟨_, rfl⟩)) (t_X11_isOneBegin hl )) (fun v12 h12 => ?_)
          refine ev_eq am_ib ?_
          refine ev_if_eq (tgt := 44) dX9_isClashing_39 (by decide) (fun c13 => ?_) (fun c13 => ?_)
          · refine ev_iinc (v := (x1 + 1)) dX9_isClashing_44 (am_lt rfl) rfl rfl ?_
            refine ev_goto (tgt := 3) dX9_isClashing_47 (by decide) ?_
            exact ev_leaf (am_wk (am_wk (am_wk (am_wk (am_wk (am_wf am_wn)))))) (hB1 (x1 + 1))
          · refine ev_iconst (v := 1) dX9_isClashing_42 (by decide) ?_
            exact ev_eq (hG1 _) (ev_iret dX9_isClashing_43 rfl (by decide) (by decide) (by decide) rfl)
  · exact ev_none
def f_X11_worthTo (S : am_S) (p0 : Nat) (p1 : Int32) (p2 : Int32) (p3 : Int32) : Option (Int32) :=
  ((am_rd S.2 p0 3 109).bind (fun q1 => ((f_X9_isClashing S q1 p1 p2 p3).bind (fun v2 => (if v2 = 0 then ((am_rd S.2 p0 3 109).bind (fun q4 => ((f_X9_wordFor S q4 p1 p2).bind (fun v5 => ((if v5 = (-1) then some (17 : Int32) else ((f_X11_minutesOf v5).bind (fun v7 => some v7))).bind (fun t6 => ((am_rd S.2 p0 3 109).bind (fun q8 => ((f_X9_urgentOf S q8 p2).bind (fun v9 => ((f_X11_minutesOf p3).bind (fun v10 => some (v9 * (t6 - v10)))))))))))))) else some (-1000000))))))
set_option maxRecDepth 20000 in
theorem t_X11_worthTo {E : am_E} {l : Launch} (hl : l.stackTraces = false) {S : am_S} {p0 : Nat} {p1 : Int32} {p2 : Int32} {p3 : Int32} (kp0 : am_kd p0 = 111) : am_M E l yX11_worthTo (.code yX11_worthTo cX11_worthTo 6 (some .int)) 4 0 0 [.ref p0, .int p1, .int p2, .int p3] S ((f_X11_worthTo S p0 p1 p2 p3).map (fun (v : Int32) => ((.inl (some (.int v)), S) : am_R))) := by
  refine am_M_of (w := fun (v : Int32) => ((.inl (some (.int v)), S) : am_R)) hl (by decide) (am_fc rfl (am_fc rfl (am_fc rfl (am_fc rfl am_fn)))) (Nat.le_of_ble_eq_true rfl) ?_
  show am_Ev E l (RX11, cX11_worthTo, 6, (some .int), [], am_rm 4 0 0) (fun b a s x => am_Z E 0 0 b a s ((fun (v : Int32) => ((.inl (some (.int v)), S) : am_R)) x)) 0 0 0 [some (.ref p0), some (.int p1), some (.int p2), some (.int p3), none, none] [] S (f_X11_worthTo S p0 p1 p2 p3)
  unfold f_X11_worthTo
  refine ev_aload_n dX11_worthTo_0 rfl ?_
  refine ev_getR fk_X11_20 (by decide) dX11_worthTo_1 kp0 (fun q1 k1 r1 => ?_)
  refine ev_iload_n dX11_worthTo_4 rfl ?_
  refine ev_iload_n dX11_worthTo_5 rfl ?_
  refine ev_iload_n dX11_worthTo_6 rfl ?_
  refine ev_callP (am_callVN (as := [.int p1, .int p2, .int p3]) (o := q1) (st := []) cv_X11_425 dX11_worthTo_7 k1 rfl (am_le rfl) (am_fit (by omega) (by decide) (by decide) (by decide)) (am_no1 (fun _ => ⟨_, rfl⟩)) (t_X9_isClashing hl k1)) (fun v2 h2 => ?_)
  refine ev_if_eq (tgt := 17) dX11_worthTo_10 (by decide) (fun c3 => ?_) (fun c3 => ?_)
  · refine ev_aload_n dX11_worthTo_17 rfl ?_
    refine ev_getR fk_X11_20 (by decide) dX11_worthTo_18 kp0 (fun q4 k4 r4 => ?_)
    refine ev_iload_n dX11_worthTo_21 rfl ?_
    refine ev_iload_n dX11_worthTo_22 rfl ?_
    refine ev_callP (am_callVN (as := [.int p1, .int p2]) (o := q4) (st := []) cv_X11_171 dX11_worthTo_23 k4 rfl (am_le rfl) (am_fit (by omega) (by decide) (by decide) (by decide)) (am_no1 (fun _ => ⟨_, rfl⟩)) (t_X9_wordFor hl k4)) (fun v5 h5 => ?_)
    refine ev_istore dX11_worthTo_26 (am_lt rfl) ?_
    refine ev_iload dX11_worthTo_28 rfl ?_
    refine ev_iconst (v := (-1)) dX11_worthTo_30 (by decide) ?_
    refine ev_reg (cs' := 0) (sl' := 0) 44 (fun t6 : Int32 => [some (.ref p0), none, some (.int p2), some (.int p3), none, none]) (fun t6 => [.int t6]) (fun t6 => S) (fun hJ6 => ?_) (fun t6 => ?_)
    · refine ev_eq am_ib ?_
      refine ev_icmp_ne (tgt := 39) dX11_worthTo_31 (by decide) (fun c6 => ?_) (fun c6 => ?_)
      · refine ev_iload dX11_worthTo_39 rfl ?_
        refine ev_eq (Option.bind_assoc _ _ _) ?_
        refine ev_callP (am_callS (as := [.int v5]) (st := []) ct_X11_178 dX11_worthTo_41 rfl (am_le rfl) (am_fit (by omega) (by decide) (by decide) (by decide)) (t_X11_minutesOf hl )) (fun v7 h7 => ?_)
        exact ev_leaf (am_wk (am_wf (am_wk (am_wk (am_wf (am_wf am_wn)))))) (hJ6 v7)
      · refine ev_bipush (v := 17) dX11_worthTo_34 (by decide) ?_
        refine ev_goto (tgt := 44) dX11_worthTo_36 (by decide) ?_
        exact ev_leaf (am_wk (am_wf (am_wk (am_wk (am_wf (am_wf am_wn)))))) (hJ6 (17 : Int32))
    · refine ev_istore dX11_worthTo_44 (am_lt rfl) ?_
      refine ev_aload_n dX11_worthTo_46 rfl ?_
      refine ev_getR fk_X11_20 (by decide) dX11_worthTo_47 kp0 (fun q8 k8 r8 => ?_)
      refine ev_iload_n dX11_worthTo_50 rfl ?_
      refine ev_callP (am_callVN (as := [.int p2]) (o := q8) (st := []) cv_X11_430 dX11_worthTo_51 k8 rfl (am_le rfl) (am_fit (by omega) (by decide) (by decide) (by decide)) (am_no1 (fun _ => ⟨_, rfl⟩)) (t_X9_urgentOf hl k8)) (fun v9 h9 => ?_)
      refine ev_iload dX11_worthTo_54 rfl ?_
      refine ev_iload_n dX11_worthTo_56 rfl ?_
      refine ev_callP (am_callS (as := [.int p3]) (st := [.int t6, .int v9]) ct_X11_178 dX11_worthTo_57 rfl (am_le rfl) (am_fit (by omega) (by decide) (by decide) (by decide)) (t_X11_minutesOf hl )) (fun v10 h10 => ?_)
      refine ev_isub dX11_worthTo_60 ?_
      refine ev_imul dX11_worthTo_61 ?_
      exact ev_iret dX11_worthTo_62 rfl rfl (by decide) (by decide) rfl
  · refine ev_ldcwI (v := (-1000000)) dX11_worthTo_13 (am_G_t (i := 1376) (by decide +kernel) rfl) ?_
    exact ev_iret dX11_worthTo_16 rfl rfl (by decide) (by decide) rfl
def f_X11_worth (S : am_S) (p0 : Nat) (p1 : Int32) (p2 : Int32) (p3 : Int32) : Option (am_R) :=
  (am_thV (f_X11_needHouse S p0 p1) (fun S1 => (am_thV (f_X11_needWant S1 p0 p2) (fun S2 => (am_thV (f_X11_needWord S2 p0 p3) (fun S3 => ((f_X11_worthTo S3 p0 p1 p2 p3).bind (fun v4 => some (.inl (some (.int v4)), S3)))))))))
set_option maxRecDepth 20000 in
theorem t_X11_worth {E : am_E} {l : Launch} (hl : l.stackTraces = false) {S : am_S} {p0 : Nat} {p1 : Int32} {p2 : Int32} {p3 : Int32} (kp0 : am_kd p0 = 111) : am_M E l yX11_worth (.code yX11_worth cX11_worth 4 (some .int)) 5 3 18 [.ref p0, .int p1, .int p2, .int p3] S (f_X11_worth S p0 p1 p2 p3) := by
  refine am_M_id (am_M_of (w := fun x => x) hl (by decide) (am_fc rfl (am_fc rfl (am_fc rfl (am_fc rfl am_fn)))) (Nat.le_of_ble_eq_true rfl) ?_)
  show am_Ev E l (RX11, cX11_worth, 4, (some .int), [], am_rm 5 3 18) (am_Z E 3 18) 0 0 0 [some (.ref p0), some (.int p1), some (.int p2), some (.int p3)] [] S (f_X11_worth S p0 p1 p2 p3)
  unfold f_X11_worth
  refine ev_aload_n dX11_worth_0 rfl ?_
  refine ev_iload_n dX11_worth_1 rfl ?_
  refine ev_callGV (am_callV (as := [.int p1]) (o := p0) (st := []) cv_X11_138 dX11_worth_2 kp0 rfl (am_le rfl) (am_fit (by omega) (by decide) (by decide) (by decide)) (t_X11_needHouse hl kp0)) rfl (by decide) (by decide) (fun S1 h1 => ?_)
  refine ev_aload_n dX11_worth_5 rfl ?_
  refine ev_iload_n dX11_worth_6 rfl ?_
  refine ev_callGV (am_callV (as := [.int p2]) (o := p0) (st := []) cv_X11_165 dX11_worth_7 kp0 rfl (am_le rfl) (am_fit (by omega) (by decide) (by decide) (by decide)) (t_X11_needWant hl kp0)) rfl (by decide) (by decide) (fun S2 h2 => ?_)
  refine ev_aload_n dX11_worth_10 rfl ?_
  refine ev_iload_n dX11_worth_11 rfl ?_
  refine ev_callGV (am_callV (as := [.int p3]) (o := p0) (st := []) cv_X11_175 dX11_worth_12 kp0 rfl (am_le rfl) (am_fit (by omega) (by decide) (by decide) (by decide)) (t_X11_needWord hl kp0)) rfl (by decide) (by decide) (fun S3 h3 => ?_)
  refine ev_aload_n dX11_worth_15 rfl ?_
  refine ev_iload_n dX11_worth_16 rfl ?_
  refine ev_iload_n dX11_worth_17 rfl ?_
  refine ev_iload_n dX11_worth_18 rfl ?_
  refine ev_callP (am_callV (as := [.int p1, .int p2, .int p3]) (o := p0) (st := []) cv_X11_344 dX11_worth_19 kp0 rfl (am_le rfl) (am_fit (by omega) (by decide) (by decide) (by decide)) (t_X11_worthTo hl kp0)) (fun v4 h4 => ?_)
  exact ev_iret dX11_worth_22 rfl rfl (by decide) (by decide) rfl
def f_X11_sale_b22 (S : am_S) (a0 : Nat) (a1 : Int32) (a2 : Int32) (a3 : Int32) (x3 : Int32 × Int32 × Int32 × Int32) : Option ((Int32 × Int32 × Int32 × Int32) ⊕ (Int32 × Int32)) :=
  ((am_rd S.2 a0 3 109).bind (fun q4 => (if x3.2.2.2 < (S.1 q4 0) then ((f_X11_worthTo S a0 x3.2.2.2 a1 a2).bind (fun v6 => ((if x3.2.1 < v6 then some (x3.2.2.2, v6, x3.2.1) else (if x3.2.2.1 < v6 then some (x3.1, x3.2.1, v6) else some (x3.1, x3.2.1, x3.2.2.1))).bind (fun t7 => some (.inl (t7.1, t7.2.1, t7.2.2, (x3.2.2.2 + 1))))))) else some (.inr (x3.1, x3.2.2.1)))))
def f_X11_sale (S : am_S) (p0 : Nat) (p1 : Int32) (p2 : Int32) (p3 : Int32) : Option (am_R) :=
  (am_thV (f_X11_needWant S p0 p1) (fun S1 => (am_thV (f_X11_needWord S1 p0 p2) (fun S2 => ((am_loop (f_X11_sale_b22 S2 p0 p1 p2 p3) am_fuel ((-1), 0, 0, 0)).bind (fun t3 => (if p3 = 0 then some (.inl (some (.int t3.1)), S2) else (if t3.1 = (-1) then some (.inl (some (.int t3.1)), S2) else some (.inl (some (.int t3.2)), S2)))))))))
set_option maxRecDepth 20000 in
theorem t_X11_sale {E : am_E} {l : Launch} (hl : l.stackTraces = false) {S : am_S} {p0 : Nat} {p1 : Int32} {p2 : Int32} {p3 : Int32} (kp0 : am_kd p0 = 111) : am_M E l yX11_sale (.code yX11_sale cX11_sale 9 (some .int)) 5 2 12 [.ref p0, .int p1, .int p2, .int p3] S (f_X11_sale S p0 p1 p2 p3) := by
  refine am_M_id (am_M_of (w := fun x => x) hl (by decide) (am_fc rfl (am_fc rfl (am_fc rfl (am_fc rfl am_fn)))) (Nat.le_of_ble_eq_true rfl) ?_)
  show am_Ev E l (RX11, cX11_sale, 9, (some .int), [], am_rm 5 2 12) (am_Z E 2 12) 0 0 0 [some (.ref p0), some (.int p1), some (.int p2), some (.int p3), none, none, none, none, none] [] S (f_X11_sale S p0 p1 p2 p3)
  unfold f_X11_sale
  refine ev_aload_n dX11_sale_0 rfl ?_
  refine ev_iload_n dX11_sale_1 rfl ?_
  refine ev_callGV (am_callV (as := [.int p1]) (o := p0) (st := []) cv_X11_165 dX11_sale_2 kp0 rfl (am_le rfl) (am_fit (by omega) (by decide) (by decide) (by decide)) (t_X11_needWant hl kp0)) rfl (by decide) (by decide) (fun S1 h1 => ?_)
  refine ev_aload_n dX11_sale_5 rfl ?_
  refine ev_iload_n dX11_sale_6 rfl ?_
  refine ev_callGV (am_callV (as := [.int p2]) (o := p0) (st := []) cv_X11_175 dX11_sale_7 kp0 rfl (am_le rfl) (am_fit (by omega) (by decide) (by decide) (by decide)) (t_X11_needWord hl kp0)) rfl (by decide) (by decide) (fun S2 h2 => ?_)
  refine ev_iconst (v := (-1)) dX11_sale_10 (by decide) ?_
  refine ev_istore dX11_sale_11 (am_lt rfl) ?_
  refine ev_iconst (v := 0) dX11_sale_13 (by decide) ?_
  refine ev_istore dX11_sale_14 (am_lt rfl) ?_
  refine ev_iconst (v := 0) dX11_sale_16 (by decide) ?_
  refine ev_istore dX11_sale_17 (am_lt rfl) ?_
  refine ev_iconst (v := 0) dX11_sale_19 (by decide) ?_
  refine ev_istore dX11_sale_20 (am_lt rfl) ?_
  refine ev_weak (am_wk (am_wk (am_wk (am_wk (am_wk (am_wk (am_wk (am_wk (am_wf am_wn))))))))) (ev_loop 22 83 (fun x3 : Int32 × Int32 × Int32 × Int32 => [some (.ref p0), some (.int p1), some (.int p2), some (.int p3), some (.int x3.1), some (.int x3.2.1), some (.int x3.2.2.1), some (.int x3.2.2.2), none]) (fun t3 : Int32 × Int32 => [none, none, none, some (.int p3), some (.int t3.1), none, some (.int t3.2), none, none]) (fun x3 => S2) (fun t3 => S2) (fun x3 G3 hB3 hE3 => ?_) (fun t3 => ?_) am_fuel ((-1), 0, 0, 0))
  · unfold f_X11_sale_b22
    refine ev_iload dX11_sale_22 rfl ?_
    refine ev_aload_n dX11_sale_24 rfl ?_
    refine ev_eq (Option.bind_assoc _ _ _) ?_
    refine ev_getR fk_X11_20 (by decide) dX11_sale_25 kp0 (fun q9 k9 r9 => ?_)
    refine ev_getN fk_X11_333 dX11_sale_28 k9 (am_fvI (by decide)) ?_
    refine ev_eq am_ib ?_
    refine ev_icmp_ge (tgt := 83) dX11_sale_31 (by decide) (fun c10 => ?_) (fun c10 => ?_)
    · exact ev_leaf (am_wf (am_wf (am_wf (am_wk (am_wk (am_wf (am_wk (am_wf (am_wf am_wn))))))))) (hE3 (x3.1, x3.2.2.1))
    · refine ev_aload_n dX11_sale_34 rfl ?_
      refine ev_iload dX11_sale_35 rfl ?_
      refine ev_iload_n dX11_sale_37 rfl ?_
      refine ev_iload_n dX11_sale_38 rfl ?_
      refine ev_eq (Option.bind_assoc _ _ _) ?_
      refine ev_callP (am_callV (as := [.int x3.2.2.2, .int p1, .int p2]) (o := p0) (st := []) cv_X11_344 dX11_sale_39 kp0 rfl (am_le rfl) (am_fit (by omega) (by decide) (by decide) (by decide)) (t_X11_worthTo hl kp0)) (fun v11 h11 => ?_)
      refine ev_istore dX11_sale_42 (am_lt rfl) ?_
      refine ev_iload dX11_sale_44 rfl ?_
      refine ev_iload dX11_sale_46 rfl ?_
      refine ev_eq (Option.bind_assoc _ _ _) ?_
      refine ev_reg (cs' := 2) (sl' := 12) 77 (fun t12 : Int32 × Int32 × Int32 => [some (.ref p0), some (.int p1), some (.int p2), some (.int p3), some (.int t12.1), some (.int t12.2.1), some (.int t12.2.2), some (.int x3.2.2.2), none]) (fun t12 => []) (fun t12 => S2) (fun hJ12 => ?_) (fun t12 => ?_)
      · refine ev_eq am_ib ?_
        refine ev_icmp_le (tgt := 66) dX11_sale_48 (by decide) (fun c12 => ?_) (fun c12 => ?_)
        · refine ev_iload dX11_sale_66 rfl ?_
          refine ev_iload dX11_sale_68 rfl ?_
          refine ev_eq am_ib ?_
          refine ev_icmp_le (tgt := 77) dX11_sale_70 (by decide) (fun c13 => ?_) (fun c13 => ?_)
          · exact ev_leaf (am_wk (am_wk (am_wk (am_wk (am_wk (am_wk (am_wk (am_wk (am_wf am_wn))))))))) (hJ12 (x3.1, x3.2.1, x3.2.2.1))
          · refine ev_iload dX11_sale_73 rfl ?_
            refine ev_istore dX11_sale_75 (am_lt rfl) ?_
            exact ev_leaf (am_wk (am_wk (am_wk (am_wk (am_wk (am_wk (am_wk (am_wk (am_wf am_wn))))))))) (hJ12 (x3.1, x3.2.1, v11))
        · refine ev_iload dX11_sale_51 rfl ?_
          refine ev_istore dX11_sale_53 (am_lt rfl) ?_
          refine ev_iload dX11_sale_55 rfl ?_
          refine ev_istore dX11_sale_57 (am_lt rfl) ?_
          refine ev_iload dX11_sale_59 rfl ?_
          refine ev_istore dX11_sale_61 (am_lt rfl) ?_
          refine ev_goto (tgt := 77) dX11_sale_63 (by decide) ?_
          exact ev_leaf (am_wk (am_wk (am_wk (am_wk (am_wk (am_wk (am_wk (am_wk (am_wf am_wn))))))))) (hJ12 (x3.2.2.2, v11, x3.2.1))
      · refine ev_iinc (v := (x3.2.2.2 + 1)) dX11_sale_77 (am_lt rfl) rfl rfl ?_
        refine ev_goto (tgt := 22) dX11_sale_80 (by decide) ?_
        exact ev_leaf (am_wk (am_wk (am_wk (am_wk (am_wk (am_wk (am_wk (am_wk (am_wf am_wn))))))))) (hB3 (t12.1, t12.2.1, t12.2.2, (x3.2.2.2 + 1)))
  · refine ev_iload_n dX11_sale_83 rfl ?_
    refine ev_if_eq (tgt := 98) dX11_sale_84 (by decide) (fun c14 => ?_) (fun c14 => ?_)
    · refine ev_iload dX11_sale_98 rfl ?_
      exact ev_iret dX11_sale_100 rfl rfl (by decide) (by decide) rfl
    · refine ev_iload dX11_sale_87 rfl ?_
      refine ev_iconst (v := (-1)) dX11_sale_89 (by decide) ?_
      refine ev_icmp_eq (tgt := 98) dX11_sale_90 (by decide) (fun c15 => ?_) (fun c15 => ?_)
      · refine ev_iload dX11_sale_98 rfl ?_
        exact ev_iret dX11_sale_100 rfl rfl (by decide) (by decide) rfl
      · refine ev_iload dX11_sale_93 rfl ?_
        refine ev_goto (tgt := 100) dX11_sale_95 (by decide) ?_
        exact ev_iret dX11_sale_100 rfl rfl (by decide) (by decide) rfl
def f_X11_drawEvening_b34 (S : am_S) (a0 : Nat) (a2 : Int32) (x6 : Int32 × Int32 × (Nat → Nat → Int32)) : Option ((Int32 × Int32 × (Nat → Nat → Int32)) ⊕ ((Nat → Nat → Int32))) :=
  (if x6.2.1 < a2 then ((f_X11_seedBehind x6.1).bind (fun v8 => ((f_X11_drawOf v8).bind (fun v9 => ((f_X11_seedBehind v8).bind (fun v10 => ((f_X11_drawOf v10).bind (fun v11 => ((am_rd S.2 a0 3 109).bind (fun q12 => (if (x6.2.2 q12 0) = 0 then none else ((f_X11_seedBehind v10).bind (fun v14 => ((f_X11_drawOf v14).bind (fun v15 => ((am_rd S.2 a0 3 109).bind (fun q16 => (if (x6.2.2 q16 1) = 0 then none else ((am_rd S.2 a0 3 109).bind (fun q18 => ((f_X9_wordFor (x6.2.2, S.2) q18 (v11 - v11 / (x6.2.2 q12 0) * (x6.2.2 q12 0)) (v15 - v15 / (x6.2.2 q16 1) * (x6.2.2 q16 1))).bind (fun v19 => ((if v19 = (-1) then some x6.2.2 else ((am_rd S.2 a0 7 106).bind (fun q21 => ((f_X6_add (x6.2.2, S.2) q21 (v9 - v9 / 20 * 20) (v11 - v11 / (x6.2.2 q12 0) * (x6.2.2 q12 0)) (v15 - v15 / (x6.2.2 q16 1) * (x6.2.2 q16 1)) v19).bind (fun y22 => some y22.2))))).bind (fun t20 => some (.inl (v14, (x6.2.1 + 1), t20)))))))))))))))))))))))))) else some (.inr x6.2.2))
def f_X11_drawEvening (S : am_S) (p0 : Nat) (p1 : Int32) (p2 : Int32) : Option ((Nat → Nat → Int32)) :=
  ((am_rd S.2 p0 7 106).bind (fun q1 => ((am_rd S.2 p0 3 109).bind (fun q2 => (if 0 < ((am_u2 S.1 q1 0 0) q2 0) then ((am_rd S.2 p0 3 109).bind (fun q4 => (if 0 < ((am_u2 S.1 q1 0 0) q4 1) then ((am_loop (f_X11_drawEvening_b34 ((am_u2 S.1 q1 0 0), S.2) p0 p2) am_fuel (p1, 0, (am_u2 S.1 q1 0 0))).bind (fun t6 => some t6)) else some (am_u2 S.1 q1 0 0)))) else some (am_u2 S.1 q1 0 0))))))
set_option maxRecDepth 20000 in
theorem t_X11_drawEvening {E : am_E} {l : Launch} (hl : l.stackTraces = false) {S : am_S} {p0 : Nat} {p1 : Int32} {p2 : Int32} (kp0 : am_kd p0 = 111) : am_M E l yX11_drawEvening (.code yX11_drawEvening cX11_drawEvening 9 none) 2 0 0 [.ref p0, .int p1, .int p2] S ((f_X11_drawEvening S p0 p1 p2).map (fun (x : Nat → Nat → Int32) => ((.inl none, (x, S.2)) : am_R))) := by
  refine am_M_of (w := fun (x : Nat → Nat → Int32) => ((.inl none, (x, S.2)) : am_R)) hl (by decide) (am_fc rfl (am_fc rfl (am_fc rfl am_fn))) (Nat.le_of_ble_eq_true rfl) ?_
  show am_Ev E l (RX11, cX11_drawEvening, 9, none, [], am_rm 2 0 0) (fun b a s x => am_Z E 0 0 b a s ((fun (x : Nat → Nat → Int32) => ((.inl none, (x, S.2)) : am_R)) x)) 0 0 0 [some (.ref p0), some (.int p1), some (.int p2), none, none, none, none, none, none] [] S (f_X11_drawEvening S p0 p1 p2)
  unfold f_X11_drawEvening
  refine ev_aload_n dX11_drawEvening_0 rfl ?_
  refine ev_getR fk_X11_33 (by decide) dX11_drawEvening_1 kp0 (fun q1 k1 r1 => ?_)
  refine ev_iconst (v := 0) dX11_drawEvening_4 (by decide) ?_
  refine ev_putIN fk_X11_208 tyX6 tyX6_ok nmX6 rfl (by decide +kernel) (by decide) dX11_drawEvening_5 k1 ?_
  refine ev_iload_n dX11_drawEvening_8 rfl ?_
  refine ev_istore_n dX11_drawEvening_9 (am_lt rfl) ?_
  refine ev_aload_n dX11_drawEvening_10 rfl ?_
  refine ev_getR fk_X11_20 (by decide) dX11_drawEvening_11 kp0 (fun q2 k2 r2 => ?_)
  refine ev_getN fk_X11_333 dX11_drawEvening_14 k2 (am_fvI (by decide)) ?_
  refine ev_if_le (tgt := 30) dX11_drawEvening_17 (by decide) (fun c3 => ?_) (fun c3 => ?_)
  · exact ev_vret dX11_drawEvening_30 rfl (by decide) (by decide) rfl
  · refine ev_aload_n dX11_drawEvening_20 rfl ?_
    refine ev_getR fk_X11_20 (by decide) dX11_drawEvening_21 kp0 (fun q4 k4 r4 => ?_)
    refine ev_getN fk_X11_362 dX11_drawEvening_24 k4 (am_fvI (by decide)) ?_
    refine ev_if_gt (tgt := 31) dX11_drawEvening_27 (by decide) (fun c5 => ?_) (fun c5 => ?_)
    · refine ev_iconst (v := 0) dX11_drawEvening_31 (by decide) ?_
      refine ev_istore dX11_drawEvening_32 (am_lt rfl) ?_
      refine ev_weak (am_wk (am_wf (am_wk (am_wk (am_wk (am_wf (am_wf (am_wf (am_wf am_wn))))))))) (ev_loop 34 133 (fun x6 : Int32 × Int32 × (Nat → Nat → Int32) => [some (.ref p0), none, some (.int p2), some (.int x6.1), some (.int x6.2.1), none, none, none, none]) (fun t6 : (Nat → Nat → Int32) => [none, none, none, none, none, none, none, none, none]) (fun x6 => (x6.2.2, S.2)) (fun t6 => (t6, S.2)) (fun x6 G6 hB6 hE6 => ?_) (fun t6 => ?_) am_fuel (p1, 0, (am_u2 S.1 q1 0 0)))
      · unfold f_X11_drawEvening_b34
        refine ev_iload dX11_drawEvening_34 rfl ?_
        refine ev_iload_n dX11_drawEvening_36 rfl ?_
        refine ev_eq am_ib ?_
        refine ev_icmp_ge (tgt := 133) dX11_drawEvening_37 (by decide) (fun c23 => ?_) (fun c23 => ?_)
        · exact ev_leaf (am_wf (am_wf (am_wf (am_wf (am_wf (am_wf (am_wf (am_wf (am_wf am_wn))))))))) (hE6 x6.2.2)
        · refine ev_iload_n dX11_drawEvening_40 rfl ?_
          refine ev_eq (Option.bind_assoc _ _ _) ?_
          refine ev_callP (am_callS (as := [.int x6.1]) (st := []) ct_X11_433 dX11_drawEvening_41 rfl (am_le rfl) (am_fit (by omega) (by decide) (by decide) (by decide)) (t_X11_seedBehind hl )) (fun v24 h24 => ?_)
          refine ev_istore_n dX11_drawEvening_44 (am_lt rfl) ?_
          refine ev_iload_n dX11_drawEvening_45 rfl ?_
          refine ev_eq (Option.bind_assoc _ _ _) ?_
          refine ev_callP (am_callS (as := [.int v24]) (st := []) ct_X11_436 dX11_drawEvening_46 rfl (am_le rfl) (am_fit (by omega) (by decide) (by decide) (by decide)) (t_X11_drawOf hl )) (fun v25 h25 => ?_)
          refine ev_bipush (v := 20) dX11_drawEvening_49 (by decide) ?_
          refine ev_irem dX11_drawEvening_51 (by decide) ?_
          refine ev_istore dX11_drawEvening_52 (am_lt rfl) ?_
          refine ev_iload_n dX11_drawEvening_54 rfl ?_
          refine ev_eq (Option.bind_assoc _ _ _) ?_
          refine ev_callP (am_callS (as := [.int v24]) (st := []) ct_X11_433 dX11_drawEvening_55 rfl (am_le rfl) (am_fit (by omega) (by decide) (by decide) (by decide)) (t_X11_seedBehind hl )) (fun v26 h26 => ?_)
          refine ev_istore_n dX11_drawEvening_58 (am_lt rfl) ?_
          refine ev_iload_n dX11_drawEvening_59 rfl ?_
          refine ev_eq (Option.bind_assoc _ _ _) ?_
          refine ev_callP (am_callS (as := [.int v26]) (st := []) ct_X11_436 dX11_drawEvening_60 rfl (am_le rfl) (am_fit (by omega) (by decide) (by decide) (by decide)) (t_X11_drawOf hl )) (fun v27 h27 => ?_)
          refine ev_aload_n dX11_drawEvening_63 rfl ?_
          refine ev_eq (Option.bind_assoc _ _ _) ?_
          refine ev_getR fk_X11_20 (by decide) dX11_drawEvening_64 kp0 (fun q28 k28 r28 => ?_)
          refine ev_getN fk_X11_333 dX11_drawEvening_67 k28 (am_fvI (by decide)) ?_
          refine ev_eq am_ib ?_
          refine ev_split (fun _ => ?_) (fun c29 => ?_)
          · exact ev_none
          · refine ev_irem dX11_drawEvening_70 c29 ?_
            refine ev_istore dX11_drawEvening_71 (am_lt rfl) ?_
            refine ev_iload_n dX11_drawEvening_73 rfl ?_
            refine ev_eq (Option.bind_assoc _ _ _) ?_
            refine ev_callP (am_callS (as := [.int v26]) (st := []) ct_X11_433 dX11_drawEvening_74 rfl (am_le rfl) (am_fit (by omega) (by decide) (by decide) (by decide)) (t_X11_seedBehind hl )) (fun v30 h30 => ?_)
            refine ev_istore_n dX11_drawEvening_77 (am_lt rfl) ?_
            refine ev_iload_n dX11_drawEvening_78 rfl ?_
            refine ev_eq (Option.bind_assoc _ _ _) ?_
            refine ev_callP (am_callS (as := [.int v30]) (st := []) ct_X11_436 dX11_drawEvening_79 rfl (am_le rfl) (am_fit (by omega) (by decide) (by decide) (by decide)) (t_X11_drawOf hl )) (fun v31 h31 => ?_)
            refine ev_aload_n dX11_drawEvening_82 rfl ?_
            refine ev_eq (Option.bind_assoc _ _ _) ?_
            refine ev_getR fk_X11_20 (by decide) dX11_drawEvening_83 kp0 (fun q32 k32 r32 => ?_)
            refine ev_getN fk_X11_362 dX11_drawEvening_86 k32 (am_fvI (by decide)) ?_
            refine ev_eq am_ib ?_
            refine ev_split (fun _ => ?_) (fun c33 => ?_)
            · exact ev_none
            · refine ev_irem dX11_drawEvening_89 c33 ?_
              refine ev_istore dX11_drawEvening_90 (am_lt rfl) ?_
              refine ev_aload_n dX11_drawEvening_92 rfl ?_
              refine ev_eq (Option.bind_assoc _ _ _) ?_
              refine ev_getR fk_X11_20 (by decide) dX11_drawEvening_93 kp0 (fun q34 k34 r34 => ?_)
              refine ev_iload dX11_drawEvening_96 rfl ?_
              refine ev_iload dX11_drawEvening_98 rfl ?_
              refine ev_eq (Option.bind_assoc _ _ _) ?_
              refine ev_callP (am_callVN (as := [.int (v27 - v27 / (x6.2.2 q28 0) * (x6.2.2 q28 0)), .int (v31 - v31 / (x6.2.2 q32 1) * (x6.2.2 q32 1))]) (o := q34) (st := []) cv_X11_171 dX11_drawEvening_100 k34 rfl (am_le rfl) (am_fit (by omega) (by decide) (by decide) (by decide)) (am_no1 (fun _ => ⟨_, rfl⟩)) (t_X9_wordFor hl k34)) (fun v35 h35 => ?_)
              refine ev_istore dX11_drawEvening_103 (am_lt rfl) ?_
              refine ev_iload dX11_drawEvening_105 rfl ?_
              refine ev_iconst (v := (-1)) dX11_drawEvening_107 (by decide) ?_
              refine ev_eq (Option.bind_assoc _ _ _) ?_
              refine ev_reg (cs' := 0) (sl' := 0) 127 (fun t36 : (Nat → Nat → Int32) => [some (.ref p0), none, some (.int p2), some (.int v30), some (.int x6.2.1), none, none, none, none]) (fun t36 => []) (fun t36 => (t36, S.2)) (fun hJ36 => ?_) (fun t36 => ?_)
              · refine ev_eq am_ib ?_
                refine ev_icmp_eq (tgt := 127) dX11_drawEvening_108 (by decide) (fun c36 => ?_) (fun c36 => ?_)
                · exact ev_leaf (am_wk (am_wf (am_wk (am_wk (am_wk (am_wf (am_wf (am_wf (am_wf am_wn))))))))) (hJ36 x6.2.2)
                · refine ev_aload_n dX11_drawEvening_111 rfl ?_
                  refine ev_eq (Option.bind_assoc _ _ _) ?_
                  refine ev_getR fk_X11_33 (by decide) dX11_drawEvening_112 kp0 (fun q37 k37 r37 => ?_)
                  refine ev_iload dX11_drawEvening_115 rfl ?_
                  refine ev_iload dX11_drawEvening_117 rfl ?_
                  refine ev_iload dX11_drawEvening_119 rfl ?_
                  refine ev_iload dX11_drawEvening_121 rfl ?_
                  refine ev_eq (Option.bind_assoc _ _ _) ?_
                  refine ev_callWI (am_callVN (as := [.int (v25 - v25 / 20 * 20), .int (v27 - v27 / (x6.2.2 q28 0) * (x6.2.2 q28 0)), .int (v31 - v31 / (x6.2.2 q32 1) * (x6.2.2 q32 1)), .int v35]) (o := q37) (st := []) cv_X11_204 dX11_drawEvening_123 k37 rfl (am_le rfl) (am_fit (by omega) (by decide) (by decide) (by decide)) (am_no1 (fun _ => ⟨_, rfl⟩)) (t_X6_add hl k37)) (fun y38 h38 => ?_)
                  refine ev_pop dX11_drawEvening_126 rfl ?_
                  exact ev_leaf (am_wk (am_wf (am_wk (am_wk (am_wk (am_wf (am_wf (am_wf (am_wf am_wn))))))))) (hJ36 y38.2)
              · refine ev_iinc (v := (x6.2.1 + 1)) dX11_drawEvening_127 (am_lt rfl) rfl rfl ?_
                refine ev_goto (tgt := 34) dX11_drawEvening_130 (by decide) ?_
                exact ev_leaf (am_wk (am_wf (am_wk (am_wk (am_wk (am_wf (am_wf (am_wf (am_wf am_wn))))))))) (hB6 (v30, (x6.2.1 + 1), t36))
      · exact ev_vret dX11_drawEvening_133 rfl (by decide) (by decide) rfl
    · exact ev_vret dX11_drawEvening_30 rfl (by decide) (by decide) rfl
def f_X11_judgedOfTrial_b4 (S : am_S) (a0 : Nat) (a1 : Int32) (x1 : Int32 × Int32 × (Nat → Nat → Int32)) : Option ((Int32 × Int32 × (Nat → Nat → Int32)) ⊕ (Int32 × (Nat → Nat → Int32))) :=
  ((am_rd S.2 a0 7 106).bind (fun q2 => (if x1.2.1 < (x1.2.2 q2 0) then ((am_rd S.2 a0 7 106).bind (fun q4 => ((am_rd S.2 a0 3 109).bind (fun q5 => ((f_X6_judge (x1.2.2, S.2) q4 q5 x1.2.1).bind (fun σ6 => ((if a1 = 0 then ((am_rd S.2 a0 7 106).bind (fun q13 => some (x1.1 + (σ6 q13 7)))) else (if a1 = 1 then ((am_rd S.2 a0 7 106).bind (fun q12 => some (x1.1 + (σ6 q12 8)))) else ((am_rd S.2 a0 7 106).bind (fun q9 => ((am_rd S.2 a0 7 106).bind (fun q10 => (if ((σ6 q9 7) + (σ6 q10 8)) = 0 then some (x1.1 + 1) else some x1.1))))))).bind (fun t7 => some (.inl (t7, (x1.2.1 + 1), σ6)))))))))) else some (.inr (x1.1, x1.2.2)))))
def f_X11_judgedOfTrial (S : am_S) (p0 : Nat) (p1 : Int32) : Option (Int32 × (Nat → Nat → Int32)) :=
  ((am_loop (f_X11_judgedOfTrial_b4 S p0 p1) am_fuel (0, 0, S.1)).bind (fun t1 => some (t1.1, t1.2)))
set_option maxRecDepth 20000 in
theorem t_X11_judgedOfTrial {E : am_E} {l : Launch} (hl : l.stackTraces = false) {S : am_S} {p0 : Nat} {p1 : Int32} (kp0 : am_kd p0 = 111) : am_M E l yX11_judgedOfTrial (.code yX11_judgedOfTrial cX11_judgedOfTrial 4 (some .int)) 6 0 0 [.ref p0, .int p1] S ((f_X11_judgedOfTrial S p0 p1).map (fun (x : Int32 × (Nat → Nat → Int32)) => ((.inl (some (.int x.1)), (x.2, S.2)) : am_R))) := by
  refine am_M_of (w := fun (x : Int32 × (Nat → Nat → Int32)) => ((.inl (some (.int x.1)), (x.2, S.2)) : am_R)) hl (by decide) (am_fc rfl (am_fc rfl am_fn)) (Nat.le_of_ble_eq_true rfl) ?_
  show am_Ev E l (RX11, cX11_judgedOfTrial, 4, (some .int), [], am_rm 6 0 0) (fun b a s x => am_Z E 0 0 b a s ((fun (x : Int32 × (Nat → Nat → Int32)) => ((.inl (some (.int x.1)), (x.2, S.2)) : am_R)) x)) 0 0 0 [some (.ref p0), some (.int p1), none, none] [] S (f_X11_judgedOfTrial S p0 p1)
  unfold f_X11_judgedOfTrial
  refine ev_iconst (v := 0) dX11_judgedOfTrial_0 (by decide) ?_
  refine ev_istore_n dX11_judgedOfTrial_1 (am_lt rfl) ?_
  refine ev_iconst (v := 0) dX11_judgedOfTrial_2 (by decide) ?_
  refine ev_istore_n dX11_judgedOfTrial_3 (am_lt rfl) ?_
  refine ev_weak (am_wk (am_wk (am_wk (am_wk am_wn)))) (ev_loop 4 89 (fun x1 : Int32 × Int32 × (Nat → Nat → Int32) => [some (.ref p0), some (.int p1), some (.int x1.1), some (.int x1.2.1)]) (fun t1 : Int32 × (Nat → Nat → Int32) => [none, none, some (.int t1.1), none]) (fun x1 => (x1.2.2, S.2)) (fun t1 => (t1.2, S.2)) (fun x1 G1 hB1 hE1 => ?_) (fun t1 => ?_) am_fuel (0, 0, S.1))
  · unfold f_X11_judgedOfTrial_b4
    refine ev_iload_n dX11_judgedOfTrial_4 rfl ?_
    refine ev_aload_n dX11_judgedOfTrial_5 rfl ?_
    refine ev_eq (Option.bind_assoc _ _ _) ?_
    refine ev_getR fk_X11_33 (by decide) dX11_judgedOfTrial_6 kp0 (fun q14 k14 r14 => ?_)
    refine ev_getN fk_X11_208 dX11_judgedOfTrial_9 k14 (am_fvI (by decide)) ?_
    refine ev_eq am_ib ?_
    refine ev_icmp_ge (tgt := 89) dX11_judgedOfTrial_12 (by decide) (fun c15 => ?_) (fun c15 => ?_)
    · exact ev_leaf (am_wf (am_wf (am_wk (am_wf am_wn)))) (hE1 (x1.1, x1.2.2))
    · refine ev_aload_n dX11_judgedOfTrial_15 rfl ?_
      refine ev_eq (Option.bind_assoc _ _ _) ?_
      refine ev_getR fk_X11_33 (by decide) dX11_judgedOfTrial_16 kp0 (fun q16 k16 r16 => ?_)
      refine ev_aload_n dX11_judgedOfTrial_19 rfl ?_
      refine ev_eq (Option.bind_assoc _ _ _) ?_
      refine ev_getR fk_X11_20 (by decide) dX11_judgedOfTrial_20 kp0 (fun q17 k17 r17 => ?_)
      refine ev_iload_n dX11_judgedOfTrial_23 rfl ?_
      refine ev_eq (Option.bind_assoc _ _ _) ?_
      refine ev_callWV (am_callVN (as := [.ref q17, .int x1.2.1]) (o := q16) (st := []) cv_X11_221 dX11_judgedOfTrial_24 k16 rfl (am_le rfl) (am_fit (by omega) (by decide) (by decide) (by decide)) (am_no1 (fun _ => ⟨_, rfl⟩)) (t_X6_judge hl k16 k17)) (fun σ18 h18 => ?_)
      refine ev_iload_n dX11_judgedOfTrial_27 rfl ?_
      refine ev_eq (Option.bind_assoc _ _ _) ?_
      refine ev_reg (cs' := 0) (sl' := 0) 83 (fun t19 : Int32 => [some (.ref p0), some (.int p1), some (.int t19), some (.int x1.2.1)]) (fun t19 => []) (fun t19 => (σ18, S.2)) (fun hJ19 => ?_) (fun t19 => ?_)
      · refine ev_eq am_ib ?_
        refine ev_if_ne (tgt := 44) dX11_judgedOfTrial_28 (by decide) (fun c19 => ?_) (fun c19 => ?_)
        · refine ev_iload_n dX11_judgedOfTrial_44 rfl ?_
          refine ev_iconst (v := 1) dX11_judgedOfTrial_45 (by decide) ?_
          refine ev_eq am_ib ?_
          refine ev_icmp_ne (tgt := 62) dX11_judgedOfTrial_46 (by decide) (fun c20 => ?_) (fun c20 => ?_)
          · refine ev_aload_n dX11_judgedOfTrial_62 rfl ?_
            refine ev_eq (Option.bind_assoc _ _ _) ?_
            refine ev_getR fk_X11_33 (by decide) dX11_judgedOfTrial_63 kp0 (fun q21 k21 r21 => ?_)
            refine ev_getN fk_X11_228 dX11_judgedOfTrial_66 k21 (am_fvI (by decide)) ?_
            refine ev_aload_n dX11_judgedOfTrial_69 rfl ?_
            refine ev_eq (Option.bind_assoc _ _ _) ?_
            refine ev_getR fk_X11_33 (by decide) dX11_judgedOfTrial_70 kp0 (fun q22 k22 r22 => ?_)
            refine ev_getN fk_X11_225 dX11_judgedOfTrial_73 k22 (am_fvI (by decide)) ?_
            refine ev_iadd dX11_judgedOfTrial_76 ?_
            refine ev_eq am_ib ?_
            refine ev_if_ne (tgt := 83) dX11_judgedOfTrial_77 (by decide) (fun c23 => ?_) (fun c23 => ?_)
            · exact ev_leaf (am_wk (am_wk (am_wk (am_wk am_wn)))) (hJ19 x1.1)
            · refine ev_iinc (v := (x1.1 + 1)) dX11_judgedOfTrial_80 (am_lt rfl) rfl rfl ?_
              exact ev_leaf (am_wk (am_wk (am_wk (am_wk am_wn)))) (hJ19 (x1.1 + 1))
          · refine ev_iload_n dX11_judgedOfTrial_49 rfl ?_
            refine ev_aload_n dX11_judgedOfTrial_50 rfl ?_
            refine ev_eq (Option.bind_assoc _ _ _) ?_
            refine ev_getR fk_X11_33 (by decide) dX11_judgedOfTrial_51 kp0 (fun q24 k24 r24 => ?_)
            refine ev_getN fk_X11_225 dX11_judgedOfTrial_54 k24 (am_fvI (by decide)) ?_
            refine ev_iadd dX11_judgedOfTrial_57 ?_
            refine ev_istore_n dX11_judgedOfTrial_58 (am_lt rfl) ?_
            refine ev_goto (tgt := 83) dX11_judgedOfTrial_59 (by decide) ?_
            exact ev_leaf (am_wk (am_wk (am_wk (am_wk am_wn)))) (hJ19 (x1.1 + (σ18 q24 8)))
        · refine ev_iload_n dX11_judgedOfTrial_31 rfl ?_
          refine ev_aload_n dX11_judgedOfTrial_32 rfl ?_
          refine ev_eq (Option.bind_assoc _ _ _) ?_
          refine ev_getR fk_X11_33 (by decide) dX11_judgedOfTrial_33 kp0 (fun q25 k25 r25 => ?_)
          refine ev_getN fk_X11_228 dX11_judgedOfTrial_36 k25 (am_fvI (by decide)) ?_
          refine ev_iadd dX11_judgedOfTrial_39 ?_
          refine ev_istore_n dX11_judgedOfTrial_40 (am_lt rfl) ?_
          refine ev_goto (tgt := 83) dX11_judgedOfTrial_41 (by decide) ?_
          exact ev_leaf (am_wk (am_wk (am_wk (am_wk am_wn)))) (hJ19 (x1.1 + (σ18 q25 7)))
      · refine ev_iinc (v := (x1.2.1 + 1)) dX11_judgedOfTrial_83 (am_lt rfl) rfl rfl ?_
        refine ev_goto (tgt := 4) dX11_judgedOfTrial_86 (by decide) ?_
        exact ev_leaf (am_wk (am_wk (am_wk (am_wk am_wn)))) (hB1 (t19, (x1.2.1 + 1), σ18))
  · refine ev_iload_n dX11_judgedOfTrial_89 rfl ?_
    exact ev_iret dX11_judgedOfTrial_90 rfl rfl (by decide) (by decide) rfl
def f_X11_evening (S : am_S) (p0 : Nat) (p1 : Int32) (p2 : Int32) (p3 : Int32) : Option (am_R) :=
  (if p2 < 1 then some (.inr 1, S) else (if 12 < p2 then some (.inr 1, S) else (if p3 < 0 then some (.inr 3, S) else (if 3 < p3 then some (.inr 3, S) else ((f_X11_drawEvening S p0 p1 p2).bind (fun σ5 => (if p3 = 3 then ((am_rd S.2 p0 7 106).bind (fun q8 => some (.inl (some (.int (σ5 q8 0))), (σ5, S.2)))) else ((f_X11_judgedOfTrial (σ5, S.2) p0 p3).bind (fun y7 => some (.inl (some (.int y7.1)), (y7.2, S.2)))))))))))
set_option maxRecDepth 20000 in
theorem t_X11_evening {E : am_E} {l : Launch} (hl : l.stackTraces = false) {S : am_S} {p0 : Nat} {p1 : Int32} {p2 : Int32} {p3 : Int32} (kp0 : am_kd p0 = 111) : am_M E l yX11_evening (.code yX11_evening cX11_evening 4 (some .int)) 7 1 6 [.ref p0, .int p1, .int p2, .int p3] S (f_X11_evening S p0 p1 p2 p3) := by
  refine am_M_id (am_M_of (w := fun x => x) hl (by decide) (am_fc rfl (am_fc rfl (am_fc rfl (am_fc rfl am_fn)))) (Nat.le_of_ble_eq_true rfl) ?_)
  show am_Ev E l (RX11, cX11_evening, 4, (some .int), [], am_rm 7 1 6) (am_Z E 1 6) 0 0 0 [some (.ref p0), some (.int p1), some (.int p2), some (.int p3)] [] S (f_X11_evening S p0 p1 p2 p3)
  unfold f_X11_evening
  refine ev_iload_n dX11_evening_0 rfl ?_
  refine ev_iconst (v := 1) dX11_evening_1 (by decide) ?_
  refine ev_icmp_lt (tgt := 11) dX11_evening_2 (by decide) (fun c1 => ?_) (fun c1 => ?_)
  · exact ev_throwW (k := 1) tk_105_109 (tx := "an evening has 1 to 12 ringings") (t := 42) (by decide +kernel) dX11_evening_11 dX11_evening_14 dX11_evening_15 dX11_evening_18 dX11_evening_21 rfl (by decide) ⟨by decide, by decide, by decide, by decide⟩ (by decide) (by decide)
  · refine ev_iload_n dX11_evening_5 rfl ?_
    refine ev_bipush (v := 12) dX11_evening_6 (by decide) ?_
    refine ev_icmp_le (tgt := 22) dX11_evening_8 (by decide) (fun c2 => ?_) (fun c2 => ?_)
    · refine ev_iload_n dX11_evening_22 rfl ?_
      refine ev_if_lt (tgt := 31) dX11_evening_23 (by decide) (fun c3 => ?_) (fun c3 => ?_)
      · exact ev_throwWN (k := 3) tk_160_164 (tx := "an evening has what 0 to 3") (t := 43) (by decide +kernel) dX11_evening_31 dX11_evening_34 dX11_evening_35 dX11_evening_38 dX11_evening_41 rfl (by decide) ⟨by decide, by decide, by decide, by decide⟩ (by decide) (by decide)
      · refine ev_iload_n dX11_evening_26 rfl ?_
        refine ev_iconst (v := 3) dX11_evening_27 (by decide) ?_
        refine ev_icmp_le (tgt := 42) dX11_evening_28 (by decide) (fun c4 => ?_) (fun c4 => ?_)
        · refine ev_aload_n dX11_evening_42 rfl ?_
          refine ev_iload_n dX11_evening_43 rfl ?_
          refine ev_iload_n dX11_evening_44 rfl ?_
          refine ev_callWV (am_callV (as := [.int p1, .int p2]) (o := p0) (st := []) cv_X11_352 dX11_evening_45 kp0 rfl (am_le rfl) (am_fit (by omega) (by decide) (by decide) (by decide)) (t_X11_drawEvening hl kp0)) (fun σ5 h5 => ?_)
          refine ev_iload_n dX11_evening_48 rfl ?_
          refine ev_iconst (v := 3) dX11_evening_49 (by decide) ?_
          refine ev_icmp_ne (tgt := 63) dX11_evening_50 (by decide) (fun c6 => ?_) (fun c6 => ?_)
          · refine ev_aload_n dX11_evening_63 rfl ?_
            refine ev_iload_n dX11_evening_64 rfl ?_
            refine ev_callWI (am_callV (as := [.int p3]) (o := p0) (st := []) cv_X11_355 dX11_evening_65 kp0 rfl (am_le rfl) (am_fit (by omega) (by decide) (by decide) (by decide)) (t_X11_judgedOfTrial hl kp0)) (fun y7 h7 => ?_)
            exact ev_iret dX11_evening_68 rfl rfl (by decide) (by decide) rfl
          · refine ev_aload_n dX11_evening_53 rfl ?_
            refine ev_getR fk_X11_33 (by decide) dX11_evening_54 kp0 (fun q8 k8 r8 => ?_)
            refine ev_getN fk_X11_208 dX11_evening_57 k8 (am_fvI (by decide)) ?_
            refine ev_goto (tgt := 68) dX11_evening_60 (by decide) ?_
            exact ev_iret dX11_evening_68 rfl rfl (by decide) (by decide) rfl
        · exact ev_throwWN (k := 3) tk_160_164 (tx := "an evening has what 0 to 3") (t := 43) (by decide +kernel) dX11_evening_31 dX11_evening_34 dX11_evening_35 dX11_evening_38 dX11_evening_41 rfl (by decide) ⟨by decide, by decide, by decide, by decide⟩ (by decide) (by decide)
    · exact ev_throwW (k := 1) tk_105_109 (tx := "an evening has 1 to 12 ringings") (t := 42) (by decide +kernel) dX11_evening_11 dX11_evening_14 dX11_evening_15 dX11_evening_18 dX11_evening_21 rfl (by decide) ⟨by decide, by decide, by decide, by decide⟩ (by decide) (by decide)
def f_X11_image (S : am_S) (p0 : Nat) : Option ((Nat → Nat → Int32)) :=
  ((am_rd S.2 p0 5 109).bind (fun q1 => ((am_rd S.2 p0 3 109).bind (fun q2 => ((f_X9_copyFrom S q1 q2).bind (fun σ3 => some (am_u2 σ3 p0 6 1)))))))
set_option maxRecDepth 20000 in
theorem t_X11_image {E : am_E} {l : Launch} (hl : l.stackTraces = false) {S : am_S} {p0 : Nat} (kp0 : am_kd p0 = 111) : am_M E l yX11_image (.code yX11_image cX11_image 1 none) 3 0 0 [.ref p0] S ((f_X11_image S p0).map (fun (x : Nat → Nat → Int32) => ((.inl none, (x, S.2)) : am_R))) := by
  refine am_M_of (w := fun (x : Nat → Nat → Int32) => ((.inl none, (x, S.2)) : am_R)) hl (by decide) (am_fc rfl am_fn) (Nat.le_of_ble_eq_true rfl) ?_
  show am_Ev E l (RX11, cX11_image, 1, none, [], am_rm 3 0 0) (fun b a s x => am_Z E 0 0 b a s ((fun (x : Nat → Nat → Int32) => ((.inl none, (x, S.2)) : am_R)) x)) 0 0 0 [some (.ref p0)] [] S (f_X11_image S p0)
  unfold f_X11_image
  refine ev_aload_n dX11_image_0 rfl ?_
  refine ev_getR fk_X11_27 (by decide) dX11_image_1 kp0 (fun q1 k1 r1 => ?_)
  refine ev_aload_n dX11_image_4 rfl ?_
  refine ev_getR fk_X11_20 (by decide) dX11_image_5 kp0 (fun q2 k2 r2 => ?_)
  refine ev_callWV (am_callVN (as := [.ref q2]) (o := q1) (st := []) cv_X11_97 dX11_image_8 k1 rfl (am_le rfl) (am_fit (by omega) (by decide) (by decide) (by decide)) (am_no1 (fun _ => ⟨_, rfl⟩)) (t_X9_copyFrom hl k1 k2)) (fun σ3 h3 => ?_)
  refine ev_aload_n dX11_image_11 rfl ?_
  refine ev_iconst (v := 1) dX11_image_12 (by decide) ?_
  refine ev_putB (by decide) (by decide) fk_X11_358 tyX11 tyX11_ok nmX11 rfl (by decide +kernel) (by decide) dX11_image_13 kp0 ?_
  exact ev_vret dX11_image_16 rfl (by decide) (by decide) rfl
def f_X11_back (S : am_S) (p0 : Nat) : Option (Int32 × (Nat → Nat → Int32)) :=
  (if (S.1 p0 6) = 0 then some (0, S.1) else ((am_rd S.2 p0 3 109).bind (fun q2 => ((am_rd S.2 p0 5 109).bind (fun q3 => ((f_X9_copyFrom S q2 q3).bind (fun σ4 => some (1, σ4))))))))
set_option maxRecDepth 20000 in
theorem t_X11_back {E : am_E} {l : Launch} (hl : l.stackTraces = false) {S : am_S} {p0 : Nat} (kp0 : am_kd p0 = 111) : am_M E l yX11_back (.code yX11_back cX11_back 1 (some .boolean)) 3 0 0 [.ref p0] S ((f_X11_back S p0).map (fun (x : Int32 × (Nat → Nat → Int32)) => ((.inl (some (.int x.1)), (x.2, S.2)) : am_R))) := by
  refine am_M_of (w := fun (x : Int32 × (Nat → Nat → Int32)) => ((.inl (some (.int x.1)), (x.2, S.2)) : am_R)) hl (by decide) (am_fc rfl am_fn) (Nat.le_of_ble_eq_true rfl) ?_
  show am_Ev E l (RX11, cX11_back, 1, (some .boolean), [], am_rm 3 0 0) (fun b a s x => am_Z E 0 0 b a s ((fun (x : Int32 × (Nat → Nat → Int32)) => ((.inl (some (.int x.1)), (x.2, S.2)) : am_R)) x)) 0 0 0 [some (.ref p0)] [] S (f_X11_back S p0)
  unfold f_X11_back
  refine ev_aload_n dX11_back_0 rfl ?_
  refine ev_get fk_X11_358 dX11_back_1 kp0 (am_fvI (by decide)) ?_
  refine ev_if_ne (tgt := 9) dX11_back_4 (by decide) (fun c1 => ?_) (fun c1 => ?_)
  · refine ev_aload_n dX11_back_9 rfl ?_
    refine ev_getR fk_X11_20 (by decide) dX11_back_10 kp0 (fun q2 k2 r2 => ?_)
    refine ev_aload_n dX11_back_13 rfl ?_
    refine ev_getR fk_X11_27 (by decide) dX11_back_14 kp0 (fun q3 k3 r3 => ?_)
    refine ev_callWV (am_callVN (as := [.ref q3]) (o := q2) (st := []) cv_X11_97 dX11_back_17 k2 rfl (am_le rfl) (am_fit (by omega) (by decide) (by decide) (by decide)) (am_no1 (fun _ => ⟨_, rfl⟩)) (t_X9_copyFrom hl k2 k3)) (fun σ4 h4 => ?_)
    refine ev_iconst (v := 1) dX11_back_20 (by decide) ?_
    exact ev_iret dX11_back_21 rfl (by decide) (by decide) (by decide) rfl
  · refine ev_iconst (v := 0) dX11_back_7 (by decide) ?_
    exact ev_iret dX11_back_8 rfl (by decide) (by decide) (by decide) rfl
def f_X9_wordsOfAll_b4 (S : am_S) (a0 : Nat) (x1 : Int32 × Int32) : Option ((Int32 × Int32) ⊕ (Int32)) :=
  (if x1.2 < (S.1 a0 0) then ((f_X9_wordsOf S a0 x1.2).bind (fun v3 => some (.inl ((x1.1 + v3), (x1.2 + 1))))) else some (.inr x1.1))
def f_X9_wordsOfAll (S : am_S) (p0 : Nat) : Option (Int32) :=
  ((am_loop (f_X9_wordsOfAll_b4 S p0) am_fuel (0, 0)).bind (fun t1 => some t1))
set_option maxRecDepth 20000 in
theorem t_X9_wordsOfAll {E : am_E} {l : Launch} (hl : l.stackTraces = false) {S : am_S} {p0 : Nat} (kp0 : am_kd p0 = 109) : am_M E l yX9_wordsOfAll (.code yX9_wordsOfAll cX9_wordsOfAll 3 (some .int)) 3 0 0 [.ref p0] S ((f_X9_wordsOfAll S p0).map (fun (v : Int32) => ((.inl (some (.int v)), S) : am_R))) := by
  refine am_M_of (w := fun (v : Int32) => ((.inl (some (.int v)), S) : am_R)) hl (by decide) (am_fc rfl am_fn) (Nat.le_of_ble_eq_true rfl) ?_
  show am_Ev E l (RX9, cX9_wordsOfAll, 3, (some .int), [], am_rm 3 0 0) (fun b a s x => am_Z E 0 0 b a s ((fun (v : Int32) => ((.inl (some (.int v)), S) : am_R)) x)) 0 0 0 [some (.ref p0), none, none] [] S (f_X9_wordsOfAll S p0)
  unfold f_X9_wordsOfAll
  refine ev_iconst (v := 0) dX9_wordsOfAll_0 (by decide) ?_
  refine ev_istore_n dX9_wordsOfAll_1 (am_lt rfl) ?_
  refine ev_iconst (v := 0) dX9_wordsOfAll_2 (by decide) ?_
  refine ev_istore_n dX9_wordsOfAll_3 (am_lt rfl) ?_
  refine ev_weak (am_wk (am_wk (am_wk am_wn))) (ev_loop 4 26 (fun x1 : Int32 × Int32 => [some (.ref p0), some (.int x1.1), some (.int x1.2)]) (fun t1 : Int32 => [none, some (.int t1), none]) (fun x1 => S) (fun t1 => S) (fun x1 G1 hB1 hE1 => ?_) (fun t1 => ?_) am_fuel (0, 0))
  · unfold f_X9_wordsOfAll_b4
    refine ev_iload_n dX9_wordsOfAll_4 rfl ?_
    refine ev_aload_n dX9_wordsOfAll_5 rfl ?_
    refine ev_get fk_X9_50 dX9_wordsOfAll_6 kp0 (am_fvI (by decide)) ?_
    refine ev_eq am_ib ?_
    refine ev_icmp_ge (tgt := 26) dX9_wordsOfAll_9 (by decide) (fun c4 => ?_) (fun c4 => ?_)
    · exact ev_leaf (am_wf (am_wk (am_wf am_wn))) (hE1 x1.1)
    · refine ev_iload_n dX9_wordsOfAll_12 rfl ?_
      refine ev_aload_n dX9_wordsOfAll_13 rfl ?_
      refine ev_iload_n dX9_wordsOfAll_14 rfl ?_
      refine ev_eq (Option.bind_assoc _ _ _) ?_
      refine ev_callP (am_callV (as := [.int x1.2]) (o := p0) (st := [.int x1.1]) cv_X9_93 dX9_wordsOfAll_15 kp0 rfl (am_le rfl) (am_fit (by omega) (by decide) (by decide) (by decide)) (t_X9_wordsOf hl kp0)) (fun v5 h5 => ?_)
      refine ev_iadd dX9_wordsOfAll_18 ?_
      refine ev_istore_n dX9_wordsOfAll_19 (am_lt rfl) ?_
      refine ev_iinc (v := (x1.2 + 1)) dX9_wordsOfAll_20 (am_lt rfl) rfl rfl ?_
      refine ev_goto (tgt := 4) dX9_wordsOfAll_23 (by decide) ?_
      exact ev_leaf (am_wk (am_wk (am_wk am_wn))) (hB1 ((x1.1 + v5), (x1.2 + 1)))
  · refine ev_iload_n dX9_wordsOfAll_26 rfl ?_
    exact ev_iret dX9_wordsOfAll_27 rfl rfl (by decide) (by decide) rfl
def f_X9_coinsOfAll_b4 (S : am_S) (a0 : Nat) (x1 : Int32 × Int32) : Option ((Int32 × Int32) ⊕ (Int32)) :=
  (if x1.2 < (S.1 a0 0) then (if x1.2 < 8 then ((am_rd S.2 a0 9 1).bind (fun q4 => ((am_ld S.1 q4 x1.2).bind (fun v5 => some (.inl ((x1.1 + v5), (x1.2 + 1))))))) else some (.inr x1.1)) else some (.inr x1.1))
def f_X9_coinsOfAll (S : am_S) (p0 : Nat) : Option (Int32) :=
  ((am_loop (f_X9_coinsOfAll_b4 S p0) am_fuel (0, 0)).bind (fun t1 => some t1))
set_option maxRecDepth 20000 in
theorem t_X9_coinsOfAll {E : am_E} {l : Launch} (hl : l.stackTraces = false) {S : am_S} {p0 : Nat} (kp0 : am_kd p0 = 109) : am_M E l yX9_coinsOfAll (.code yX9_coinsOfAll cX9_coinsOfAll 3 (some .int)) 0 0 0 [.ref p0] S ((f_X9_coinsOfAll S p0).map (fun (v : Int32) => ((.inl (some (.int v)), S) : am_R))) := by
  refine am_M_of (w := fun (v : Int32) => ((.inl (some (.int v)), S) : am_R)) hl (by decide) (am_fc rfl am_fn) (Nat.le_of_ble_eq_true rfl) ?_
  show am_Ev E l (RX9, cX9_coinsOfAll, 3, (some .int), [], am_rm 0 0 0) (fun b a s x => am_Z E 0 0 b a s ((fun (v : Int32) => ((.inl (some (.int v)), S) : am_R)) x)) 0 0 0 [some (.ref p0), none, none] [] S (f_X9_coinsOfAll S p0)
  unfold f_X9_coinsOfAll
  refine ev_iconst (v := 0) dX9_coinsOfAll_0 (by decide) ?_
  refine ev_istore_n dX9_coinsOfAll_1 (am_lt rfl) ?_
  refine ev_iconst (v := 0) dX9_coinsOfAll_2 (by decide) ?_
  refine ev_istore_n dX9_coinsOfAll_3 (am_lt rfl) ?_
  refine ev_weak (am_wk (am_wk (am_wk am_wn))) (ev_loop 4 33 (fun x1 : Int32 × Int32 => [some (.ref p0), some (.int x1.1), some (.int x1.2)]) (fun t1 : Int32 => [none, some (.int t1), none]) (fun x1 => S) (fun t1 => S) (fun x1 G1 hB1 hE1 => ?_) (fun t1 => ?_) am_fuel (0, 0))
  · unfold f_X9_coinsOfAll_b4
    refine ev_iload_n dX9_coinsOfAll_4 rfl ?_
    refine ev_aload_n dX9_coinsOfAll_5 rfl ?_
    refine ev_get fk_X9_50 dX9_coinsOfAll_6 kp0 (am_fvI (by decide)) ?_
    refine ev_eq am_ib ?_
    refine ev_icmp_ge (tgt := 33) dX9_coinsOfAll_9 (by decide) (fun c6 => ?_) (fun c6 => ?_)
    · exact ev_leaf (am_wf (am_wk (am_wf am_wn))) (hE1 x1.1)
    · refine ev_iload_n dX9_coinsOfAll_12 rfl ?_
      refine ev_bipush (v := 8) dX9_coinsOfAll_13 (by decide) ?_
      refine ev_eq am_ib ?_
      refine ev_icmp_ge (tgt := 33) dX9_coinsOfAll_15 (by decide) (fun c7 => ?_) (fun c7 => ?_)
      · exact ev_leaf (am_wf (am_wk (am_wf am_wn))) (hE1 x1.1)
      · refine ev_iload_n dX9_coinsOfAll_18 rfl ?_
        refine ev_aload_n dX9_coinsOfAll_19 rfl ?_
        refine ev_eq (Option.bind_assoc _ _ _) ?_
        refine ev_getR fk_X9_21 (by decide) dX9_coinsOfAll_20 kp0 (fun q8 k8 r8 => ?_)
        refine ev_iload_n dX9_coinsOfAll_23 rfl ?_
        refine ev_eq (Option.bind_assoc _ _ _) ?_
        refine ev_iald dX9_coinsOfAll_24 k8 (fun v9 h9 => ?_)
        refine ev_iadd dX9_coinsOfAll_25 ?_
        refine ev_istore_n dX9_coinsOfAll_26 (am_lt rfl) ?_
        refine ev_iinc (v := (x1.2 + 1)) dX9_coinsOfAll_27 (am_lt rfl) rfl rfl ?_
        refine ev_goto (tgt := 4) dX9_coinsOfAll_30 (by decide) ?_
        exact ev_leaf (am_wk (am_wk (am_wk am_wn))) (hB1 ((x1.1 + v9), (x1.2 + 1)))
  · refine ev_iload_n dX9_coinsOfAll_33 rfl ?_
    exact ev_iret dX9_coinsOfAll_34 rfl rfl (by decide) (by decide) rfl
def f_X9_minutesOfAll_b14 (S : am_S) (a0 : Nat) (a2 : Int32) (x3 : Int32 × Int32) : Option ((Int32 × Int32) ⊕ (Int32)) :=
  (if x3.2 < (S.1 a0 1) then ((f_X9_wordFor S a0 a2 x3.2).bind (fun v5 => ((f_X11_minutesOf v5).bind (fun v6 => some (.inl ((x3.1 + v6), (x3.2 + 1))))))) else some (.inr x3.1))
def f_X9_minutesOfAll_b4 (S : am_S) (a0 : Nat) (x1 : Int32 × Int32) : Option ((Int32 × Int32) ⊕ (Int32)) :=
  (if x1.2 < (S.1 a0 0) then ((am_loop (f_X9_minutesOfAll_b14 S a0 x1.2) am_fuel (x1.1, 0)).bind (fun t3 => some (.inl (t3, (x1.2 + 1))))) else some (.inr x1.1))
def f_X9_minutesOfAll (S : am_S) (p0 : Nat) : Option (Int32) :=
  ((am_loop (f_X9_minutesOfAll_b4 S p0) am_fuel (0, 0)).bind (fun t1 => some t1))
set_option maxRecDepth 20000 in
theorem t_X9_minutesOfAll {E : am_E} {l : Launch} (hl : l.stackTraces = false) {S : am_S} {p0 : Nat} (kp0 : am_kd p0 = 109) : am_M E l yX9_minutesOfAll (.code yX9_minutesOfAll cX9_minutesOfAll 4 (some .int)) 2 0 0 [.ref p0] S ((f_X9_minutesOfAll S p0).map (fun (v : Int32) => ((.inl (some (.int v)), S) : am_R))) := by
  refine am_M_of (w := fun (v : Int32) => ((.inl (some (.int v)), S) : am_R)) hl (by decide) (am_fc rfl am_fn) (Nat.le_of_ble_eq_true rfl) ?_
  show am_Ev E l (RX9, cX9_minutesOfAll, 4, (some .int), [], am_rm 2 0 0) (fun b a s x => am_Z E 0 0 b a s ((fun (v : Int32) => ((.inl (some (.int v)), S) : am_R)) x)) 0 0 0 [some (.ref p0), none, none, none] [] S (f_X9_minutesOfAll S p0)
  unfold f_X9_minutesOfAll
  refine ev_iconst (v := 0) dX9_minutesOfAll_0 (by decide) ?_
  refine ev_istore_n dX9_minutesOfAll_1 (am_lt rfl) ?_
  refine ev_iconst (v := 0) dX9_minutesOfAll_2 (by decide) ?_
  refine ev_istore_n dX9_minutesOfAll_3 (am_lt rfl) ?_
  refine ev_weak (am_wk (am_wk (am_wk (am_wf am_wn)))) (ev_loop 4 46 (fun x1 : Int32 × Int32 => [some (.ref p0), some (.int x1.1), some (.int x1.2), none]) (fun t1 : Int32 => [none, some (.int t1), none, none]) (fun x1 => S) (fun t1 => S) (fun x1 G1 hB1 hE1 => ?_) (fun t1 => ?_) am_fuel (0, 0))
  · unfold f_X9_minutesOfAll_b4
    refine ev_iload_n dX9_minutesOfAll_4 rfl ?_
    refine ev_aload_n dX9_minutesOfAll_5 rfl ?_
    refine ev_get fk_X9_50 dX9_minutesOfAll_6 kp0 (am_fvI (by decide)) ?_
    refine ev_eq am_ib ?_
    refine ev_icmp_ge (tgt := 46) dX9_minutesOfAll_9 (by decide) (fun c10 => ?_) (fun c10 => ?_)
    · exact ev_leaf (am_wf (am_wk (am_wf (am_wf am_wn)))) (hE1 x1.1)
    · refine ev_iconst (v := 0) dX9_minutesOfAll_12 (by decide) ?_
      refine ev_istore_n dX9_minutesOfAll_13 (am_lt rfl) ?_
      refine ev_eq (Option.bind_assoc _ _ _) ?_
      refine ev_weak (am_wk (am_wk (am_wk (am_wk am_wn)))) (ev_loop 14 40 (fun x11 : Int32 × Int32 => [some (.ref p0), some (.int x11.1), some (.int x1.2), some (.int x11.2)]) (fun t11 : Int32 => [some (.ref p0), some (.int t11), some (.int x1.2), none]) (fun x11 => S) (fun t11 => S) (fun x11 G11 hB11 hE11 => ?_) (fun t11 => ?_) am_fuel (x1.1, 0))
      · unfold f_X9_minutesOfAll_b14
        refine ev_iload_n dX9_minutesOfAll_14 rfl ?_
        refine ev_aload_n dX9_minutesOfAll_15 rfl ?_
        refine ev_get fk_X9_54 dX9_minutesOfAll_16 kp0 (am_fvI (by decide)) ?_
        refine ev_eq am_ib ?_
        refine ev_icmp_ge (tgt := 40) dX9_minutesOfAll_19 (by decide) (fun c15 => ?_) (fun c15 => ?_)
        · exact ev_leaf (am_wk (am_wk (am_wk (am_wf am_wn)))) (hE11 x11.1)
        · refine ev_iload_n dX9_minutesOfAll_22 rfl ?_
          refine ev_aload_n dX9_minutesOfAll_23 rfl ?_
          refine ev_iload_n dX9_minutesOfAll_24 rfl ?_
          refine ev_iload_n dX9_minutesOfAll_25 rfl ?_
          refine ev_eq (Option.bind_assoc _ _ _) ?_
          refine ev_callP (am_callV (as := [.int x1.2, .int x11.2]) (o := p0) (st := [.int x11.1]) cv_X9_89 dX9_minutesOfAll_26 kp0 rfl (am_le rfl) (am_fit (by omega) (by decide) (by decide) (by decide)) (t_X9_wordFor hl kp0)) (fun v16 h16 => ?_)
          refine ev_eq (Option.bind_assoc _ _ _) ?_
          refine ev_callP (am_callSN (as := [.int v16]) (st := [.int x11.1]) ct_X9_97 dX9_minutesOfAll_29 rfl (am_le rfl) (am_fit (by omega) (by decide) (by decide) (by decide)) (am_no1 (fun _ => ⟨_, rfl⟩)) (t_X11_minutesOf hl )) (fun v17 h17 => ?_)
          refine ev_iadd dX9_minutesOfAll_32 ?_
          refine ev_istore_n dX9_minutesOfAll_33 (am_lt rfl) ?_
          refine ev_iinc (v := (x11.2 + 1)) dX9_minutesOfAll_34 (am_lt rfl) rfl rfl ?_
          refine ev_goto (tgt := 14) dX9_minutesOfAll_37 (by decide) ?_
          exact ev_leaf (am_wk (am_wk (am_wk (am_wk am_wn)))) (hB11 ((x11.1 + v17), (x11.2 + 1)))
      · refine ev_iinc (v := (x1.2 + 1)) dX9_minutesOfAll_40 (am_lt rfl) rfl rfl ?_
        refine ev_goto (tgt := 4) dX9_minutesOfAll_43 (by decide) ?_
        exact ev_leaf (am_wk (am_wk (am_wk (am_wf am_wn)))) (hB1 (t11, (x1.2 + 1)))
  · refine ev_iload_n dX9_minutesOfAll_46 rfl ?_
    exact ev_iret dX9_minutesOfAll_47 rfl rfl (by decide) (by decide) rfl
