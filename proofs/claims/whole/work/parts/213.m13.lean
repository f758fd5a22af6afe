def f_X12_ringing_b4 (S : am_S) (a0 : Nat) (a1 : Int32) (x1 : Int32 × Int32) : Option ((Int32 × Int32) ⊕ (Int32)) :=
  ((f_X12_houses S a0).bind (fun v2 => (if x1.2 < v2 then ((f_X12_wordOf S a0 x1.2 a1).bind (fun v4 => ((if 0 < v4 then some ((1 : Int32) <<< (x1.2 &&& 31)) else some (0 : Int32)).bind (fun t5 => some (.inl ((x1.1 ||| t5), (x1.2 + 1))))))) else some (.inr x1.1))))
def f_X12_ringing (S : am_S) (p0 : Nat) (p1 : Int32) : Option (Int32) :=
  ((am_loop (f_X12_ringing_b4 S p0 p1) am_fuel (0, 0)).bind (fun t1 => some t1))
set_option maxRecDepth 20000 in
theorem t_X12_ringing {E : am_E} {l : Launch} (hl : l.stackTraces = false) {S : am_S} {p0 : Nat} {p1 : Int32} (kp0 : am_kd p0 = 112) : am_M E l yX12_ringing (.code yX12_ringing cX12_ringing 4 (some .int)) 2 0 0 [.ref p0, .int p1] S ((f_X12_ringing S p0 p1).map (fun (v : Int32) => ((.inl (some (.int v)), S) : am_R))) := by
  refine am_M_of (w := fun (v : Int32) => ((.inl (some (.int v)), S) : am_R)) hl (by decide) (am_fc rfl (am_fc rfl am_fn)) (Nat.le_of_ble_eq_true rfl) ?_
  show am_Ev E l (RX12, cX12_ringing, 4, (some .int), [], am_rm 2 0 0) (fun b a s x => am_Z E 0 0 b a s ((fun (v : Int32) => ((.inl (some (.int v)), S) : am_R)) x)) 0 0 0 [some (.ref p0), some (.int p1), none, none] [] S (f_X12_ringing S p0 p1)
  unfold f_X12_ringing
  refine ev_iconst (v := 0) dX12_ringing_0 (by decide) ?_
  refine ev_istore_n dX12_ringing_1 (am_lt rfl) ?_
  refine ev_iconst (v := 0) dX12_ringing_2 (by decide) ?_
  refine ev_istore_n dX12_ringing_3 (am_lt rfl) ?_
  refine ev_weak (am_wk (am_wk (am_wk (am_wk am_wn)))) (ev_loop 4 37 (fun x1 : Int32 × Int32 => [some (.ref p0), some (.int p1), some (.int x1.1), some (.int x1.2)]) (fun t1 : Int32 => [none, none, some (.int t1), none]) (fun x1 => S) (fun t1 => S) (fun x1 G1 hB1 hE1 => ?_) (fun t1 => ?_) am_fuel (0, 0))
  · unfold f_X12_ringing_b4
    refine ev_iload_n dX12_ringing_4 rfl ?_
    refine ev_aload_n dX12_ringing_5 rfl ?_
    refine ev_eq (Option.bind_assoc _ _ _) ?_
    refine ev_callP (am_callV (as := []) (o := p0) (st := [.int x1.2]) cv_X12_74 dX12_ringing_6 kp0 rfl (am_le rfl) (am_fit (by omega) (by decide) (by decide) (by decide)) (t_X12_houses hl kp0)) (fun v6 h6 => ?_)
    refine ev_eq am_ib ?_
    refine ev_icmp_ge (tgt := 37) dX12_ringing_9 (by decide) (fun c7 => ?_) (fun c7 => ?_)
    · exact ev_leaf (am_wf (am_wf (am_wk (am_wf am_wn)))) (hE1 x1.1)
    · refine ev_iload_n dX12_ringing_12 rfl ?_
      refine ev_aload_n dX12_ringing_13 rfl ?_
      refine ev_iload_n dX12_ringing_14 rfl ?_
      refine ev_iload_n dX12_ringing_15 rfl ?_
      refine ev_eq (Option.bind_assoc _ _ _) ?_
      refine ev_callP (am_callV (as := [.int x1.2, .int p1]) (o := p0) (st := [.int x1.1]) cv_X12_254 dX12_ringing_16 kp0 rfl (am_le rfl) (am_fit (by omega) (by decide) (by decide) (by decide)) (t_X12_wordOf hl kp0)) (fun v8 h8 => ?_)
      refine ev_eq (Option.bind_assoc _ _ _) ?_
      refine ev_reg (cs' := 0) (sl' := 0) 29 (fun t9 : Int32 => [some (.ref p0), some (.int p1), none, some (.int x1.2)]) (fun t9 => [.int t9, .int x1.1]) (fun t9 => S) (fun hJ9 => ?_) (fun t9 => ?_)
      · refine ev_eq am_ib ?_
        refine ev_if_le (tgt := 28) dX12_ringing_19 (by decide) (fun c9 => ?_) (fun c9 => ?_)
        · refine ev_iconst (v := 0) dX12_ringing_28 (by decide) ?_
          exact ev_leaf (am_wk (am_wk (am_wf (am_wk am_wn)))) (hJ9 (0 : Int32))
        · refine ev_iconst (v := 1) dX12_ringing_22 (by decide) ?_
          refine ev_iload_n dX12_ringing_23 rfl ?_
          refine ev_ishl dX12_ringing_24 ?_
          refine ev_goto (tgt := 29) dX12_ringing_25 (by decide) ?_
          exact ev_leaf (am_wk (am_wk (am_wf (am_wk am_wn)))) (hJ9 ((1 : Int32) <<< (x1.2 &&& 31)))
      · refine ev_ior dX12_ringing_29 ?_
        refine ev_istore_n dX12_ringing_30 (am_lt rfl) ?_
        refine ev_iinc (v := (x1.2 + 1)) dX12_ringing_31 (am_lt rfl) rfl rfl ?_
        refine ev_goto (tgt := 4) dX12_ringing_34 (by decide) ?_
        exact ev_leaf (am_wk (am_wk (am_wk (am_wk am_wn)))) (hB1 ((x1.1 ||| t9), (x1.2 + 1)))
  · refine ev_iload_n dX12_ringing_37 rfl ?_
    exact ev_iret dX12_ringing_38 rfl rfl (by decide) (by decide) rfl
def f_X12_rings_b3 (S : am_S) (a0 : Nat) (a1 : Int32) (a2 : Int32) (a3 : Int32) (x1 : Int32 × (Nat → Nat → Int32)) : Option ((Int32 × (Nat → Nat → Int32)) ⊕ ((Nat → Nat → Int32))) :=
  (if x1.1 < 8 then ((am_rd S.2 a0 21 1).bind (fun q3 => ((am_st x1.2 q3 x1.1 (-1)).bind (fun σ4 => some (.inl ((x1.1 + 1), σ4)))))) else some (.inr x1.2))
def f_X12_rings_b49 (S : am_S) (a0 : Nat) (a1 : Int32) (a2 : Int32) (a3 : Int32) (a7 : Int32) (x11 : Int32 × Int32 × Int32 × Int32 × (Nat → Nat → Int32)) : Option ((Int32 × Int32 × Int32 × Int32 × (Nat → Nat → Int32)) ⊕ (Int32 × Int32 × Int32 × (Nat → Nat → Int32))) :=
  (if x11.2.2.2.1 = 0 then some (.inr (x11.1, x11.2.1, x11.2.2.1, x11.2.2.2.2)) else ((f_X12_turnOf (x11.2.2.2.2, S.2) a0 x11.2.2.2.1 a1 a7 a2).bind (fun y13 => ((f_X12_isStill (y13.2, S.2) a0 y13.1 a1 a7).bind (fun v14 => (if v14 = 0 then some (.inl (x11.1, x11.2.1, x11.2.2.1, (x11.2.2.2.1 &&& (((1 : Int32) <<< (y13.1 &&& 31)) ^^^ (-1))), y13.2)) else ((am_rd S.2 a0 21 1).bind (fun q16 => ((am_st y13.2 q16 y13.1 a7).bind (fun σ17 => ((f_X12_wordOf (σ17, S.2) a0 y13.1 a1).bind (fun v18 => ((f_X12_costOf v18).bind (fun v19 => ((f_J9_max_7cf53 x11.2.2.1 (a7 + v19)).bind (fun v20 => some (.inl ((x11.1 &&& (((1 : Int32) <<< (y13.1 &&& 31)) ^^^ (-1))), (x11.2.1 + a7), v20, (x11.2.2.2.1 &&& (((1 : Int32) <<< (y13.1 &&& 31)) ^^^ (-1))), σ17))))))))))))))))))
def f_X12_rings_b40 (S : am_S) (a0 : Nat) (a1 : Int32) (a2 : Int32) (a3 : Int32) (x9 : Int32 × Int32 × Int32 × Int32 × (Nat → Nat → Int32)) : Option ((Int32 × Int32 × Int32 × Int32 × (Nat → Nat → Int32)) ⊕ (Int32 × Int32 × (Nat → Nat → Int32))) :=
  (if x9.1 = 0 then some (.inr (x9.2.1, x9.2.2.1, x9.2.2.2.2)) else ((am_loop (f_X12_rings_b49 (x9.2.2.2.2, S.2) a0 a1 a2 a3 x9.2.2.2.1) am_fuel (x9.1, x9.2.1, x9.2.2.1, x9.1, x9.2.2.2.2)).bind (fun t11 => some (.inl (t11.1, t11.2.1, t11.2.2.1, (x9.2.2.2.1 + 1), t11.2.2.2)))))
def f_X12_rings (S : am_S) (p0 : Nat) (p1 : Int32) (p2 : Int32) (p3 : Int32) : Option (Int32 × (Nat → Nat → Int32)) :=
  ((am_loop (f_X12_rings_b3 S p0 p1 p2 p3) am_fuel (0, S.1)).bind (fun t1 => ((f_X12_ringing (t1, S.2) p0 p1).bind (fun v8 => ((am_loop (f_X12_rings_b40 (t1, S.2) p0 p1 p2 p3) am_fuel (v8, 0, 0, 0, t1)).bind (fun t9 => (if p3 = 0 then some (t9.1, t9.2.2) else some (t9.2.1, t9.2.2))))))))
set_option maxRecDepth 20000 in
theorem t_X12_rings {E : am_E} {l : Launch} (hl : l.stackTraces = false) {S : am_S} {p0 : Nat} {p1 : Int32} {p2 : Int32} {p3 : Int32} (kp0 : am_kd p0 = 112) : am_M E l yX12_rings (.code yX12_rings cX12_rings 10 (some .int)) 6 0 0 [.ref p0, .int p1, .int p2, .int p3] S ((f_X12_rings S p0 p1 p2 p3).map (fun (x : Int32 × (Nat → Nat → Int32)) => ((.inl (some (.int x.1)), (x.2, S.2)) : am_R))) := by
  refine am_M_of (w := fun (x : Int32 × (Nat → Nat → Int32)) => ((.inl (some (.int x.1)), (x.2, S.2)) : am_R)) hl (by decide) (am_fc rfl (am_fc rfl (am_fc rfl (am_fc rfl am_fn)))) (Nat.le_of_ble_eq_true rfl) ?_
  show am_Ev E l (RX12, cX12_rings, 10, (some .int), [], am_rm 6 0 0) (fun b a s x => am_Z E 0 0 b a s ((fun (x : Int32 × (Nat → Nat → Int32)) => ((.inl (some (.int x.1)), (x.2, S.2)) : am_R)) x)) 0 0 0 [some (.ref p0), some (.int p1), some (.int p2), some (.int p3), none, none, none, none, none, none] [] S (f_X12_rings S p0 p1 p2 p3)
  unfold f_X12_rings
  refine ev_iconst (v := 0) dX12_rings_0 (by decide) ?_
  refine ev_istore dX12_rings_1 (am_lt rfl) ?_
  refine ev_weak (am_wk (am_wk (am_wk (am_wk (am_wk (am_wf (am_wf (am_wf (am_wf (am_wf am_wn)))))))))) (ev_loop 3 24 (fun x1 : Int32 × (Nat → Nat → Int32) => [some (.ref p0), some (.int p1), some (.int p2), some (.int p3), some (.int x1.1), none, none, none, none, none]) (fun t1 : (Nat → Nat → Int32) => [some (.ref p0), some (.int p1), some (.int p2), some (.int p3), none, none, none, none, none, none]) (fun x1 => (x1.2, S.2)) (fun t1 => (t1, S.2)) (fun x1 G1 hB1 hE1 => ?_) (fun t1 => ?_) am_fuel (0, S.1))
  · unfold f_X12_rings_b3
    refine ev_iload dX12_rings_3 rfl ?_
    refine ev_bipush (v := 8) dX12_rings_5 (by decide) ?_
    refine ev_eq am_ib ?_
    refine ev_icmp_ge (tgt := 24) dX12_rings_7 (by decide) (fun c5 => ?_) (fun c5 => ?_)
    · exact ev_leaf (am_wk (am_wk (am_wk (am_wk (am_wf (am_wf (am_wf (am_wf (am_wf (am_wf am_wn)))))))))) (hE1 x1.2)
    · refine ev_aload_n dX12_rings_10 rfl ?_
      refine ev_eq (Option.bind_assoc _ _ _) ?_
      refine ev_getR fk_X12_51 (by decide) dX12_rings_11 kp0 (fun q6 k6 r6 => ?_)
      refine ev_iload dX12_rings_14 rfl ?_
      refine ev_iconst (v := (-1)) dX12_rings_16 (by decide) ?_
      refine ev_eq (Option.bind_assoc _ _ _) ?_
      refine ev_iast dX12_rings_17 k6 (fun σ7 h7 => ?_)
      refine ev_iinc (v := (x1.1 + 1)) dX12_rings_18 (am_lt rfl) rfl rfl ?_
      refine ev_goto (tgt := 3) dX12_rings_21 (by decide) ?_
      exact ev_leaf (am_wk (am_wk (am_wk (am_wk (am_wk (am_wf (am_wf (am_wf (am_wf (am_wf am_wn)))))))))) (hB1 ((x1.1 + 1), σ7))
  · refine ev_aload_n dX12_rings_24 rfl ?_
    refine ev_iload_n dX12_rings_25 rfl ?_
    refine ev_callP (am_callV (as := [.int p1]) (o := p0) (st := []) cv_X12_343 dX12_rings_26 kp0 rfl (am_le rfl) (am_fit (by omega) (by decide) (by decide) (by decide)) (t_X12_ringing hl kp0)) (fun v8 h8 => ?_)
    refine ev_istore dX12_rings_29 (am_lt rfl) ?_
    refine ev_iconst (v := 0) dX12_rings_31 (by decide) ?_
    refine ev_istore dX12_rings_32 (am_lt rfl) ?_
    refine ev_iconst (v := 0) dX12_rings_34 (by decide) ?_
    refine ev_istore dX12_rings_35 (am_lt rfl) ?_
    refine ev_iconst (v := 0) dX12_rings_37 (by decide) ?_
    refine ev_istore dX12_rings_38 (am_lt rfl) ?_
    refine ev_weak (am_wk (am_wk (am_wk (am_wk (am_wk (am_wk (am_wk (am_wk (am_wf (am_wf am_wn)))))))))) (ev_loop 40 148 (fun x9 : Int32 × Int32 × Int32 × Int32 × (Nat → Nat → Int32) => [some (.ref p0), some (.int p1), some (.int p2), some (.int p3), some (.int x9.1), some (.int x9.2.1), some (.int x9.2.2.1), some (.int x9.2.2.2.1), none, none]) (fun t9 : Int32 × Int32 × (Nat → Nat → Int32) => [none, none, none, some (.int p3), none, some (.int t9.1), some (.int t9.2.1), none, none, none]) (fun x9 => (x9.2.2.2.2, S.2)) (fun t9 => (t9.2.2, S.2)) (fun x9 G9 hB9 hE9 => ?_) (fun t9 => ?_) am_fuel (v8, 0, 0, 0, t1))
    · unfold f_X12_rings_b40
      refine ev_iload dX12_rings_40 rfl ?_
      refine ev_eq am_ib ?_
      refine ev_if_eq (tgt := 148) dX12_rings_42 (by decide) (fun c30 => ?_) (fun c30 => ?_)
      · exact ev_leaf (am_wf (am_wf (am_wf (am_wk (am_wf (am_wk (am_wk (am_wf (am_wf (am_wf am_wn)))))))))) (hE9 (x9.2.1, x9.2.2.1, x9.2.2.2.2))
      · refine ev_iload dX12_rings_45 rfl ?_
        refine ev_istore dX12_rings_47 (am_lt rfl) ?_
        refine ev_eq (Option.bind_assoc _ _ _) ?_
        refine ev_weak (am_wk (am_wk (am_wk (am_wk (am_wk (am_wk (am_wk (am_wk (am_wk (am_wf am_wn)))))))))) (ev_loop 49 142 (fun x31 : Int32 × Int32 × Int32 × Int32 × (Nat → Nat → Int32) => [some (.ref p0), some (.int p1), some (.int p2), some (.int p3), some (.int x31.1), some (.int x31.2.1), some (.int x31.2.2.1), some (.int x9.2.2.2.1), some (.int x31.2.2.2.1), none]) (fun t31 : Int32 × Int32 × Int32 × (Nat → Nat → Int32) => [some (.ref p0), some (.int p1), some (.int p2), some (.int p3), some (.int t31.1), some (.int t31.2.1), some (.int t31.2.2.1), some (.int x9.2.2.2.1), none, none]) (fun x31 => (x31.2.2.2.2, S.2)) (fun t31 => (t31.2.2.2, S.2)) (fun x31 G31 hB31 hE31 => ?_) (fun t31 => ?_) am_fuel (x9.1, x9.2.1, x9.2.2.1, x9.1, x9.2.2.2.2))
        · unfold f_X12_rings_b49
          refine ev_iload dX12_rings_49 rfl ?_
          refine ev_eq am_ib ?_
          refine ev_if_eq (tgt := 142) dX12_rings_51 (by decide) (fun c41 => ?_) (fun c41 => ?_)
          · exact ev_leaf (am_wk (am_wk (am_wk (am_wk (am_wk (am_wk (am_wk (am_wk (am_wf (am_wf am_wn)))))))))) (hE31 (x31.1, x31.2.1, x31.2.2.1, x31.2.2.2.2))
          · refine ev_aload_n dX12_rings_54 rfl ?_
            refine ev_iload dX12_rings_55 rfl ?_
            refine ev_iload_n dX12_rings_57 rfl ?_
            refine ev_iload dX12_rings_58 rfl ?_
            refine ev_iload_n dX12_rings_60 rfl ?_
            refine ev_eq (Option.bind_assoc _ _ _) ?_
            refine ev_callWI (am_callV (as := [.int x31.2.2.2.1, .int p1, .int x9.2.2.2.1, .int p2]) (o := p0) (st := []) cv_X12_346 dX12_rings_61 kp0 rfl (am_le rfl) (am_fit (by omega) (by decide) (by decide) (by decide)) (t_X12_turnOf hl kp0)) (fun y42 h42 => ?_)
            refine ev_istore dX12_rings_64 (am_lt rfl) ?_
            refine ev_iload dX12_rings_66 rfl ?_
            refine ev_iconst (v := 1) dX12_rings_68 (by decide) ?_
            refine ev_iload dX12_rings_69 rfl ?_
            refine ev_ishl dX12_rings_71 ?_
            refine ev_iconst (v := (-1)) dX12_rings_72 (by decide) ?_
            refine ev_ixor dX12_rings_73 ?_
            refine ev_iand dX12_rings_74 ?_
            refine ev_istore dX12_rings_75 (am_lt rfl) ?_
            refine ev_aload_n dX12_rings_77 rfl ?_
            refine ev_iload dX12_rings_78 rfl ?_
            refine ev_iload_n dX12_rings_80 rfl ?_
            refine ev_iload dX12_rings_81 rfl ?_
            refine ev_eq (Option.bind_assoc _ _ _) ?_
            refine ev_callP (am_callV (as := [.int y42.1, .int p1, .int x9.2.2.2.1]) (o := p0) (st := []) cv_X12_350 dX12_rings_83 kp0 rfl (am_le rfl) (am_fit (by omega) (by decide) (by decide) (by decide)) (t_X12_isStill hl kp0)) (fun v43 h43 => ?_)
            refine ev_eq am_ib ?_
            refine ev_if_ne (tgt := 92) dX12_rings_86 (by decide) (fun c44 => ?_) (fun c44 => ?_)
            · refine ev_iload dX12_rings_92 rfl ?_
              refine ev_iconst (v := 1) dX12_rings_94 (by decide) ?_
              refine ev_iload dX12_rings_95 rfl ?_
              refine ev_ishl dX12_rings_97 ?_
              refine ev_iconst (v := (-1)) dX12_rings_98 (by decide) ?_
              refine ev_ixor dX12_rings_99 ?_
              refine ev_iand dX12_rings_100 ?_
              refine ev_istore dX12_rings_101 (am_lt rfl) ?_
              refine ev_aload_n dX12_rings_103 rfl ?_
              refine ev_eq (Option.bind_assoc _ _ _) ?_
              refine ev_getR fk_X12_51 (by decide) dX12_rings_104 kp0 (fun q45 k45 r45 => ?_)
              refine ev_iload dX12_rings_107 rfl ?_
              refine ev_iload dX12_rings_109 rfl ?_
              refine ev_eq (Option.bind_assoc _ _ _) ?_
              refine ev_iast dX12_rings_111 k45 (fun σ46 h46 => ?_)
              refine ev_iload dX12_rings_112 rfl ?_
              refine ev_iload dX12_rings_114 rfl ?_
              refine ev_iadd dX12_rings_116 ?_
              refine ev_istore dX12_rings_117 (am_lt rfl) ?_
              refine ev_iload dX12_rings_119 rfl ?_
              refine ev_iload dX12_rings_121 rfl ?_
              refine ev_aload_n dX12_rings_123 rfl ?_
              refine ev_iload dX12_rings_124 rfl ?_
              refine ev_iload_n dX12_rings_126 rfl ?_
              refine ev_eq (Option.bind_assoc _ _ _) ?_
              refine ev_callP (am_callV (as := [.int y42.1, .int p1]) (o := p0) (st := [.int x9.2.2.2.1, .int x31.2.2.1]) cv_X12_254 dX12_rings_127 kp0 rfl (am_le rfl) (am_fit (by omega) (by decide) (by decide) (by decide)) (t_X12_wordOf hl kp0)) (fun v47 h47 => ?_)
              refine ev_eq (Option.bind_assoc _ _ _) ?_
              refine ev_callP (am_callS (as := [.int v47]) (st := [.int x9.2.2.2.1, .int x31.2.2.1]) ct_X12_268 dX12_rings_130 rfl (am_le rfl) (am_fit (by omega) (by decide) (by decide) (by decide)) (t_X12_costOf hl )) (fun v48 h48 => ?_)
              refine ev_iadd dX12_rings_133 ?_
              refine ev_eq (Option.bind_assoc _ _ _) ?_
              refine ev_callP (am_callS (as := [.int x31.2.2.1, .int (x9.2.2.2.1 + v48)]) (st := []) ct_X12_94 dX12_rings_134 rfl (am_le rfl) (am_fit (by omega) (by decide) (by decide) (by decide)) (t_J9_max_7cf53 hl )) (fun v49 h49 => ?_)
              refine ev_istore dX12_rings_137 (am_lt rfl) ?_
              refine ev_goto (tgt := 49) dX12_rings_139 (by decide) ?_
              exact ev_leaf (am_wk (am_wk (am_wk (am_wk (am_wk (am_wk (am_wk (am_wk (am_wk (am_wf am_wn)))))))))) (hB31 ((x31.1 &&& (((1 : Int32) <<< (y42.1 &&& 31)) ^^^ (-1))), (x31.2.1 + x9.2.2.2.1), v49, (x31.2.2.2.1 &&& (((1 : Int32) <<< (y42.1 &&& 31)) ^^^ (-1))), σ46))
            · refine ev_goto (tgt := 49) dX12_rings_89 (by decide) ?_
              exact ev_leaf (am_wk (am_wk (am_wk (am_wk (am_wk (am_wk (am_wk (am_wk (am_wk (am_wf am_wn)))))))))) (hB31 (x31.1, x31.2.1, x31.2.2.1, (x31.2.2.2.1 &&& (((1 : Int32) <<< (y42.1 &&& 31)) ^^^ (-1))), y42.2))
        · refine ev_iinc (v := (x9.2.2.2.1 + 1)) dX12_rings_142 (am_lt rfl) rfl rfl ?_
          refine ev_goto (tgt := 40) dX12_rings_145 (by decide) ?_
          exact ev_leaf (am_wk (am_wk (am_wk (am_wk (am_wk (am_wk (am_wk (am_wk (am_wf (am_wf am_wn)))))))))) (hB9 (t31.1, t31.2.1, t31.2.2.1, (x9.2.2.2.1 + 1), t31.2.2.2))
    · refine ev_iload_n dX12_rings_148 rfl ?_
      refine ev_if_ne (tgt := 157) dX12_rings_149 (by decide) (fun c50 => ?_) (fun c50 => ?_)
      · refine ev_iload dX12_rings_157 rfl ?_
        exact ev_iret dX12_rings_159 rfl rfl (by decide) (by decide) rfl
      · refine ev_iload dX12_rings_152 rfl ?_
        refine ev_goto (tgt := 159) dX12_rings_154 (by decide) ?_
        exact ev_iret dX12_rings_159 rfl rfl (by decide) (by decide) rfl
def f_X12_six (S : am_S) (p0 : Nat) (p1 : Int32) (p2 : Int32) : Option (Int32 × (Nat → Nat → Int32)) :=
  ((f_X12_noWant ((am_u2 S.1 p0 0 0), S.2) p0 p1).bind (fun v1 => ((f_X12_throwsIf ((am_u2 S.1 p0 0 0), S.2) p0 v1 1).bind (fun y2 => (if y2.1 = 0 then ((f_X12_in p2 0 1).bind (fun v4 => ((if v4 = 0 then some (1 : Int32) else some (0 : Int32)).bind (fun t5 => ((f_X12_throwsIf (y2.2, S.2) p0 t5 2).bind (fun y6 => (if y6.1 = 0 then ((f_X12_rings (y6.2, S.2) p0 p1 0 p2).bind (fun y8 => some (y8.1, y8.2))) else some (0, y6.2)))))))) else some (0, y2.2))))))
set_option maxRecDepth 20000 in
theorem t_X12_six {E : am_E} {l : Launch} (hl : l.stackTraces = false) {S : am_S} {p0 : Nat} {p1 : Int32} {p2 : Int32} (kp0 : am_kd p0 = 112) : am_M E l yX12_six (.code yX12_six cX12_six 3 (some .int)) 7 0 0 [.ref p0, .int p1, .int p2] S ((f_X12_six S p0 p1 p2).map (fun (x : Int32 × (Nat → Nat → Int32)) => ((.inl (some (.int x.1)), (x.2, S.2)) : am_R))) := by
  refine am_M_of (w := fun (x : Int32 × (Nat → Nat → Int32)) => ((.inl (some (.int x.1)), (x.2, S.2)) : am_R)) hl (by decide) (am_fc rfl (am_fc rfl (am_fc rfl am_fn))) (Nat.le_of_ble_eq_true rfl) ?_
  show am_Ev E l (RX12, cX12_six, 3, (some .int), [], am_rm 7 0 0) (fun b a s x => am_Z E 0 0 b a s ((fun (x : Int32 × (Nat → Nat → Int32)) => ((.inl (some (.int x.1)), (x.2, S.2)) : am_R)) x)) 0 0 0 [some (.ref p0), some (.int p1), some (.int p2)] [] S (f_X12_six S p0 p1 p2)
  unfold f_X12_six
  refine ev_aload_n dX12_six_0 rfl ?_
  refine ev_iconst (v := 0) dX12_six_1 (by decide) ?_
  refine ev_putI fk_X12_3 tyX12 tyX12_ok nmX12 rfl (by decide +kernel) (by decide) dX12_six_2 kp0 ?_
  refine ev_aload_n dX12_six_5 rfl ?_
  refine ev_aload_n dX12_six_6 rfl ?_
  refine ev_iload_n dX12_six_7 rfl ?_
  refine ev_callP (am_callV (as := [.int p1]) (o := p0) (st := [.ref p0]) cv_X12_263 dX12_six_8 kp0 rfl (am_le rfl) (am_fit (by omega) (by decide) (by decide) (by decide)) (t_X12_noWant hl kp0)) (fun v1 h1 => ?_)
  refine ev_iconst (v := 1) dX12_six_11 (by decide) ?_
  refine ev_callWI (am_callV (as := [.int v1, .int 1]) (o := p0) (st := []) cv_X12_242 dX12_six_12 kp0 rfl (am_le rfl) (am_fit (by omega) (by decide) (by decide) (by decide)) (t_X12_throwsIf hl kp0)) (fun y2 h2 => ?_)
  refine ev_if_ne (tgt := 40) dX12_six_15 (by decide) (fun c3 => ?_) (fun c3 => ?_)
  · refine ev_iconst (v := 0) dX12_six_40 (by decide) ?_
    refine ev_goto (tgt := 51) dX12_six_41 (by decide) ?_
    exact ev_iret dX12_six_51 rfl rfl (by decide) (by decide) rfl
  · refine ev_aload_n dX12_six_18 rfl ?_
    refine ev_iload_n dX12_six_19 rfl ?_
    refine ev_iconst (v := 0) dX12_six_20 (by decide) ?_
    refine ev_iconst (v := 1) dX12_six_21 (by decide) ?_
    refine ev_callP (am_callS (as := [.int p2, .int 0, .int 1]) (st := [.ref p0]) ct_X12_78 dX12_six_22 rfl (am_le rfl) (am_fit (by omega) (by decide) (by decide) (by decide)) (t_X12_in hl )) (fun v4 h4 => ?_)
    refine ev_reg (cs' := 0) (sl' := 0) 33 (fun t5 : Int32 => [some (.ref p0), some (.int p1), some (.int p2)]) (fun t5 => [.int t5, .ref p0]) (fun t5 => (y2.2, S.2)) (fun hJ5 => ?_) (fun t5 => ?_)
    · refine ev_eq am_ib ?_
      refine ev_if_ne (tgt := 32) dX12_six_25 (by decide) (fun c5 => ?_) (fun c5 => ?_)
      · refine ev_iconst (v := 0) dX12_six_32 (by decide) ?_
        exact ev_leaf (am_wk (am_wk (am_wk am_wn))) (hJ5 (0 : Int32))
      · refine ev_iconst (v := 1) dX12_six_28 (by decide) ?_
        refine ev_goto (tgt := 33) dX12_six_29 (by decide) ?_
        exact ev_leaf (am_wk (am_wk (am_wk am_wn))) (hJ5 (1 : Int32))
    · refine ev_iconst (v := 2) dX12_six_33 (by decide) ?_
      refine ev_callWI (am_callV (as := [.int t5, .int 2]) (o := p0) (st := []) cv_X12_242 dX12_six_34 kp0 rfl (am_le rfl) (am_fit (by omega) (by decide) (by decide) (by decide)) (t_X12_throwsIf hl kp0)) (fun y6 h6 => ?_)
      refine ev_if_eq (tgt := 44) dX12_six_37 (by decide) (fun c7 => ?_) (fun c7 => ?_)
      · refine ev_aload_n dX12_six_44 rfl ?_
        refine ev_iload_n dX12_six_45 rfl ?_
        refine ev_iconst (v := 0) dX12_six_46 (by decide) ?_
        refine ev_iload_n dX12_six_47 rfl ?_
        refine ev_callWI (am_callV (as := [.int p1, .int 0, .int p2]) (o := p0) (st := []) cv_X12_353 dX12_six_48 kp0 rfl (am_le rfl) (am_fit (by omega) (by decide) (by decide) (by decide)) (t_X12_rings hl kp0)) (fun y8 h8 => ?_)
        exact ev_iret dX12_six_51 rfl rfl (by decide) (by decide) rfl
      · refine ev_iconst (v := 0) dX12_six_40 (by decide) ?_
        refine ev_goto (tgt := 51) dX12_six_41 (by decide) ?_
        exact ev_iret dX12_six_51 rfl rfl (by decide) (by decide) rfl
def f_X12_lot_b76 (S : am_S) (a0 : Nat) (a1 : Int32) (a3 : Int32) (a4 : Int32) (a5 : Int32) (x13 : Int32 × Int32) : Option ((Int32 × Int32) ⊕ (Int32)) :=
  ((f_X12_has a4 x13.2).bind (fun v14 => (if v14 = 0 then ((f_X12_has a4 x13.2).bind (fun v16 => ((if v16 = 0 then some (0 : Int32) else some (1 : Int32)).bind (fun t17 => some (.inl ((x13.1 - t17), (x13.2 + 1))))))) else (if 0 < x13.1 then ((f_X12_has a4 x13.2).bind (fun v19 => ((if v19 = 0 then some (0 : Int32) else some (1 : Int32)).bind (fun t20 => some (.inl ((x13.1 - t20), (x13.2 + 1))))))) else some (.inr x13.2)))))
def f_X12_lot_b57 (S : am_S) (a0 : Nat) (a1 : Int32) (a3 : Int32) (x9 : Int32 × Int32 × (Nat → Nat → Int32)) : Option ((Int32 × Int32 × (Nat → Nat → Int32)) ⊕ ((Nat → Nat → Int32))) :=
  (if x9.1 = 0 then some (.inr x9.2.2) else ((f_J6_bitCount_0f7a4 x9.1).bind (fun v11 => ((f_X12_draw (x9.2.2, S.2) a0 v11).bind (fun y12 => ((am_loop (f_X12_lot_b76 (y12.2, S.2) a0 a1 a3 x9.1 x9.2.1) am_fuel (y12.1, 0)).bind (fun t13 => ((am_rd S.2 a0 22 1).bind (fun q28 => ((am_st y12.2 q28 t13 x9.2.1).bind (fun σ29 => some (.inl ((x9.1 &&& (((1 : Int32) <<< (t13 &&& 31)) ^^^ (-1))), (x9.2.1 + 1), σ29)))))))))))))
def f_X12_lot (S : am_S) (p0 : Nat) (p1 : Int32) (p2 : Int32) (p3 : Int32) : Option (Int32 × (Nat → Nat → Int32)) :=
  ((f_X12_noWant ((am_u2 S.1 p0 0 0), S.2) p0 p1).bind (fun v1 => ((f_X12_throwsIf ((am_u2 S.1 p0 0 0), S.2) p0 v1 1).bind (fun y2 => (if y2.1 = 0 then ((f_X12_in p3 0 1).bind (fun v4 => ((if v4 = 0 then some (1 : Int32) else some (0 : Int32)).bind (fun t5 => ((f_X12_throwsIf (y2.2, S.2) p0 t5 2).bind (fun y6 => (if y6.1 = 0 then ((f_X12_ringing (y6.2, S.2) p0 p1).bind (fun v8 => ((am_loop (f_X12_lot_b57 ((am_u2 y6.2 p0 15 p2), S.2) p0 p1 p3) am_fuel (v8, 0, (am_u2 y6.2 p0 15 p2))).bind (fun t9 => ((f_X12_rings (t9, S.2) p0 p1 1 p3).bind (fun y50 => some (y50.1, y50.2))))))) else some (0, y6.2)))))))) else some (0, y2.2))))))
set_option maxRecDepth 20000 in
theorem t_X12_lot {E : am_E} {l : Launch} (hl : l.stackTraces = false) {S : am_S} {p0 : Nat} {p1 : Int32} {p2 : Int32} {p3 : Int32} (kp0 : am_kd p0 = 112) : am_M E l yX12_lot (.code yX12_lot cX12_lot 8 (some .int)) 7 0 0 [.ref p0, .int p1, .int p2, .int p3] S ((f_X12_lot S p0 p1 p2 p3).map (fun (x : Int32 × (Nat → Nat → Int32)) => ((.inl (some (.int x.1)), (x.2, S.2)) : am_R))) := by
  refine am_M_of (w := fun (x : Int32 × (Nat → Nat → Int32)) => ((.inl (some (.int x.1)), (x.2, S.2)) : am_R)) hl (by decide) (am_fc rfl (am_fc rfl (am_fc rfl (am_fc rfl am_fn)))) (Nat.le_of_ble_eq_true rfl) ?_
  show am_Ev E l (RX12, cX12_lot, 8, (some .int), [], am_rm 7 0 0) (fun b a s x => am_Z E 0 0 b a s ((fun (x : Int32 × (Nat → Nat → Int32)) => ((.inl (some (.int x.1)), (x.2, S.2)) : am_R)) x)) 0 0 0 [some (.ref p0), some (.int p1), some (.int p2), some (.int p3), none, none, none, none] [] S (f_X12_lot S p0 p1 p2 p3)
  unfold f_X12_lot
  refine ev_aload_n dX12_lot_0 rfl ?_
  refine ev_iconst (v := 0) dX12_lot_1 (by decide) ?_
  refine ev_putI fk_X12_3 tyX12 tyX12_ok nmX12 rfl (by decide +kernel) (by decide) dX12_lot_2 kp0 ?_
  refine ev_aload_n dX12_lot_5 rfl ?_
  refine ev_aload_n dX12_lot_6 rfl ?_
  refine ev_iload_n dX12_lot_7 rfl ?_
  refine ev_callP (am_callV (as := [.int p1]) (o := p0) (st := [.ref p0]) cv_X12_263 dX12_lot_8 kp0 rfl (am_le rfl) (am_fit (by omega) (by decide) (by decide) (by decide)) (t_X12_noWant hl kp0)) (fun v1 h1 => ?_)
  refine ev_iconst (v := 1) dX12_lot_11 (by decide) ?_
  refine ev_callWI (am_callV (as := [.int v1, .int 1]) (o := p0) (st := []) cv_X12_242 dX12_lot_12 kp0 rfl (am_le rfl) (am_fit (by omega) (by decide) (by decide) (by decide)) (t_X12_throwsIf hl kp0)) (fun y2 h2 => ?_)
  refine ev_if_ne (tgt := 40) dX12_lot_15 (by decide) (fun c3 => ?_) (fun c3 => ?_)
  · refine ev_iconst (v := 0) dX12_lot_40 (by decide) ?_
    exact ev_iret dX12_lot_41 rfl rfl (by decide) (by decide) rfl
  · refine ev_aload_n dX12_lot_18 rfl ?_
    refine ev_iload_n dX12_lot_19 rfl ?_
    refine ev_iconst (v := 0) dX12_lot_20 (by decide) ?_
    refine ev_iconst (v := 1) dX12_lot_21 (by decide) ?_
    refine ev_callP (am_callS (as := [.int p3, .int 0, .int 1]) (st := [.ref p0]) ct_X12_78 dX12_lot_22 rfl (am_le rfl) (am_fit (by omega) (by decide) (by decide) (by decide)) (t_X12_in hl )) (fun v4 h4 => ?_)
    refine ev_reg (cs' := 0) (sl' := 0) 33 (fun t5 : Int32 => [some (.ref p0), some (.int p1), some (.int p2), some (.int p3), none, none, none, none]) (fun t5 => [.int t5, .ref p0]) (fun t5 => (y2.2, S.2)) (fun hJ5 => ?_) (fun t5 => ?_)
    · refine ev_eq am_ib ?_
      refine ev_if_ne (tgt := 32) dX12_lot_25 (by decide) (fun c5 => ?_) (fun c5 => ?_)
      · refine ev_iconst (v := 0) dX12_lot_32 (by decide) ?_
        exact ev_leaf (am_wk (am_wk (am_wk (am_wk (am_wf (am_wf (am_wf (am_wf am_wn)))))))) (hJ5 (0 : Int32))
      · refine ev_iconst (v := 1) dX12_lot_28 (by decide) ?_
        refine ev_goto (tgt := 33) dX12_lot_29 (by decide) ?_
        exact ev_leaf (am_wk (am_wk (am_wk (am_wk (am_wf (am_wf (am_wf (am_wf am_wn)))))))) (hJ5 (1 : Int32))
    · refine ev_iconst (v := 2) dX12_lot_33 (by decide) ?_
      refine ev_callWI (am_callV (as := [.int t5, .int 2]) (o := p0) (st := []) cv_X12_242 dX12_lot_34 kp0 rfl (am_le rfl) (am_fit (by omega) (by decide) (by decide) (by decide)) (t_X12_throwsIf hl kp0)) (fun y6 h6 => ?_)
      refine ev_if_eq (tgt := 42) dX12_lot_37 (by decide) (fun c7 => ?_) (fun c7 => ?_)
      · refine ev_aload_n dX12_lot_42 rfl ?_
        refine ev_iload_n dX12_lot_43 rfl ?_
        refine ev_callP (am_callV (as := [.int p1]) (o := p0) (st := []) cv_X12_343 dX12_lot_44 kp0 rfl (am_le rfl) (am_fit (by omega) (by decide) (by decide) (by decide)) (t_X12_ringing hl kp0)) (fun v8 h8 => ?_)
        refine ev_istore dX12_lot_47 (am_lt rfl) ?_
        refine ev_aload_n dX12_lot_49 rfl ?_
        refine ev_iload_n dX12_lot_50 rfl ?_
        refine ev_putI fk_X12_309 tyX12 tyX12_ok nmX12 rfl (by decide +kernel) (by decide) dX12_lot_51 kp0 ?_
        refine ev_iconst (v := 0) dX12_lot_54 (by decide) ?_
        refine ev_istore dX12_lot_55 (am_lt rfl) ?_
        refine ev_weak (am_wk (am_wk (am_wf (am_wk (am_wk (am_wk (am_wf (am_wf am_wn)))))))) (ev_loop 57 143 (fun x9 : Int32 × Int32 × (Nat → Nat → Int32) => [some (.ref p0), some (.int p1), none, some (.int p3), some (.int x9.1), some (.int x9.2.1), none, none]) (fun t9 : (Nat → Nat → Int32) => [some (.ref p0), some (.int p1), none, some (.int p3), none, none, none, none]) (fun x9 => (x9.2.2, S.2)) (fun t9 => (t9, S.2)) (fun x9 G9 hB9 hE9 => ?_) (fun t9 => ?_) am_fuel (v8, 0, (am_u2 y6.2 p0 15 p2)))
        · unfold f_X12_lot_b57
          refine ev_iload dX12_lot_57 rfl ?_
          refine ev_eq am_ib ?_
          refine ev_if_eq (tgt := 143) dX12_lot_59 (by decide) (fun c30 => ?_) (fun c30 => ?_)
          · exact ev_leaf (am_wk (am_wk (am_wf (am_wk (am_wf (am_wf (am_wf (am_wf am_wn)))))))) (hE9 x9.2.2)
          · refine ev_aload_n dX12_lot_62 rfl ?_
            refine ev_iload dX12_lot_63 rfl ?_
            refine ev_eq (Option.bind_assoc _ _ _) ?_
            refine ev_callP (am_callS (as := [.int x9.1]) (st := [.ref p0]) ct_X12_89 dX12_lot_65 rfl (am_le rfl) (am_fit (by omega) (by decide) (by decide) (by decide)) (t_J6_bitCount_0f7a4 hl )) (fun v31 h31 => ?_)
            refine ev_eq (Option.bind_assoc _ _ _) ?_
            refine ev_callWI (am_callV (as := [.int v31]) (o := p0) (st := []) cv_X12_312 dX12_lot_68 kp0 rfl (am_le rfl) (am_fit (by omega) (by decide) (by decide) (by decide)) (t_X12_draw hl kp0)) (fun y32 h32 => ?_)
            refine ev_istore dX12_lot_71 (am_lt rfl) ?_
            refine ev_iconst (v := 0) dX12_lot_73 (by decide) ?_
            refine ev_istore dX12_lot_74 (am_lt rfl) ?_
            refine ev_eq (Option.bind_assoc _ _ _) ?_
            refine ev_weak (am_wk (am_wk (am_wf (am_wk (am_wk (am_wk (am_wk (am_wk am_wn)))))))) (ev_loop 76 117 (fun x33 : Int32 × Int32 => [some (.ref p0), some (.int p1), none, some (.int p3), some (.int x9.1), some (.int x9.2.1), some (.int x33.1), some (.int x33.2)]) (fun t33 : Int32 => [some (.ref p0), some (.int p1), none, some (.int p3), some (.int x9.1), some (.int x9.2.1), none, some (.int t33)]) (fun x33 => (y32.2, S.2)) (fun t33 => (y32.2, S.2)) (fun x33 G33 hB33 hE33 => ?_) (fun t33 => ?_) am_fuel (y32.1, 0))
            · unfold f_X12_lot_b76
              refine ev_iload dX12_lot_76 rfl ?_
              refine ev_iload dX12_lot_78 rfl ?_
              refine ev_eq (Option.bind_assoc _ _ _) ?_
              refine ev_callP (am_callS (as := [.int x9.1, .int x33.2]) (st := []) ct_X12_319 dX12_lot_80 rfl (am_le rfl) (am_fit (by omega) (by decide) (by decide) (by decide)) (t_X12_has hl )) (fun v41 h41 => ?_)
              refine ev_eq am_ib ?_
              refine ev_if_eq (tgt := 91) dX12_lot_83 (by decide) (fun c42 => ?_) (fun c42 => ?_)
              · refine ev_iload dX12_lot_91 rfl ?_
                refine ev_iload dX12_lot_93 rfl ?_
                refine ev_iload dX12_lot_95 rfl ?_
                refine ev_eq (Option.bind_assoc _ _ _) ?_
                refine ev_callP (am_callS (as := [.int x9.1, .int x33.2]) (st := [.int x33.1]) ct_X12_319 dX12_lot_97 rfl (am_le rfl) (am_fit (by omega) (by decide) (by decide) (by decide)) (t_X12_has hl )) (fun v43 h43 => ?_)
                refine ev_eq (Option.bind_assoc _ _ _) ?_
                refine ev_reg (cs' := 0) (sl' := 0) 108 (fun t44 : Int32 => [some (.ref p0), some (.int p1), none, some (.int p3), some (.int x9.1), some (.int x9.2.1), none, some (.int x33.2)]) (fun t44 => [.int t44, .int x33.1]) (fun t44 => (y32.2, S.2)) (fun hJ44 => ?_) (fun t44 => ?_)
                · refine ev_eq am_ib ?_
                  refine ev_if_eq (tgt := 107) dX12_lot_100 (by decide) (fun c44 => ?_) (fun c44 => ?_)
                  · refine ev_iconst (v := 0) dX12_lot_107 (by decide) ?_
                    exact ev_leaf (am_wk (am_wk (am_wf (am_wk (am_wk (am_wk (am_wf (am_wk am_wn)))))))) (hJ44 (0 : Int32))
                  · refine ev_iconst (v := 1) dX12_lot_103 (by decide) ?_
                    refine ev_goto (tgt := 108) dX12_lot_104 (by decide) ?_
                    exact ev_leaf (am_wk (am_wk (am_wf (am_wk (am_wk (am_wk (am_wf (am_wk am_wn)))))))) (hJ44 (1 : Int32))
                · refine ev_isub dX12_lot_108 ?_
                  refine ev_istore dX12_lot_109 (am_lt rfl) ?_
                  refine ev_iinc (v := (x33.2 + 1)) dX12_lot_111 (am_lt rfl) rfl rfl ?_
                  refine ev_goto (tgt := 76) dX12_lot_114 (by decide) ?_
                  exact ev_leaf (am_wk (am_wk (am_wf (am_wk (am_wk (am_wk (am_wk (am_wk am_wn)))))))) (hB33 ((x33.1 - t44), (x33.2 + 1)))
              · refine ev_iload dX12_lot_86 rfl ?_
                refine ev_eq am_ib ?_
                refine ev_if_le (tgt := 117) dX12_lot_88 (by decide) (fun c45 => ?_) (fun c45 => ?_)
                · exact ev_leaf (am_wk (am_wk (am_wf (am_wk (am_wk (am_wk (am_wf (am_wk am_wn)))))))) (hE33 x33.2)
                · refine ev_iload dX12_lot_91 rfl ?_
                  refine ev_iload dX12_lot_93 rfl ?_
                  refine ev_iload dX12_lot_95 rfl ?_
                  refine ev_eq (Option.bind_assoc _ _ _) ?_
                  refine ev_callP (am_callS (as := [.int x9.1, .int x33.2]) (st := [.int x33.1]) ct_X12_319 dX12_lot_97 rfl (am_le rfl) (am_fit (by omega) (by decide) (by decide) (by decide)) (t_X12_has hl )) (fun v46 h46 => ?_)
                  refine ev_eq (Option.bind_assoc _ _ _) ?_
                  refine ev_reg (cs' := 0) (sl' := 0) 108 (fun t47 : Int32 => [some (.ref p0), some (.int p1), none, some (.int p3), some (.int x9.1), some (.int x9.2.1), none, some (.int x33.2)]) (fun t47 => [.int t47, .int x33.1]) (fun t47 => (y32.2, S.2)) (fun hJ47 => ?_) (fun t47 => ?_)
                  · refine ev_eq am_ib ?_
                    refine ev_if_eq (tgt := 107) dX12_lot_100 (by decide) (fun c47 => ?_) (fun c47 => ?_)
                    · refine ev_iconst (v := 0) dX12_lot_107 (by decide) ?_
                      exact ev_leaf (am_wk (am_wk (am_wf (am_wk (am_wk (am_wk (am_wf (am_wk am_wn)))))))) (hJ47 (0 : Int32))
                    · refine ev_iconst (v := 1) dX12_lot_103 (by decide) ?_
                      refine ev_goto (tgt := 108) dX12_lot_104 (by decide) ?_
                      exact ev_leaf (am_wk (am_wk (am_wf (am_wk (am_wk (am_wk (am_wf (am_wk am_wn)))))))) (hJ47 (1 : Int32))
                  · refine ev_isub dX12_lot_108 ?_
                    refine ev_istore dX12_lot_109 (am_lt rfl) ?_
                    refine ev_iinc (v := (x33.2 + 1)) dX12_lot_111 (am_lt rfl) rfl rfl ?_
                    refine ev_goto (tgt := 76) dX12_lot_114 (by decide) ?_
                    exact ev_leaf (am_wk (am_wk (am_wf (am_wk (am_wk (am_wk (am_wk (am_wk am_wn)))))))) (hB33 ((x33.1 - t47), (x33.2 + 1)))
            · refine ev_aload_n dX12_lot_117 rfl ?_
              refine ev_eq (Option.bind_assoc _ _ _) ?_
              refine ev_getR fk_X12_54 (by decide) dX12_lot_118 kp0 (fun q48 k48 r48 => ?_)
              refine ev_iload dX12_lot_121 rfl ?_
              refine ev_iload dX12_lot_123 rfl ?_
              refine ev_eq (Option.bind_assoc _ _ _) ?_
              refine ev_iast dX12_lot_125 k48 (fun σ49 h49 => ?_)
              refine ev_iload dX12_lot_126 rfl ?_
              refine ev_iconst (v := 1) dX12_lot_128 (by decide) ?_
              refine ev_iload dX12_lot_129 rfl ?_
              refine ev_ishl dX12_lot_131 ?_
              refine ev_iconst (v := (-1)) dX12_lot_132 (by decide) ?_
              refine ev_ixor dX12_lot_133 ?_
              refine ev_iand dX12_lot_134 ?_
              refine ev_istore dX12_lot_135 (am_lt rfl) ?_
              refine ev_iinc (v := (x9.2.1 + 1)) dX12_lot_137 (am_lt rfl) rfl rfl ?_
              refine ev_goto (tgt := 57) dX12_lot_140 (by decide) ?_
              exact ev_leaf (am_wk (am_wk (am_wf (am_wk (am_wk (am_wk (am_wf (am_wf am_wn)))))))) (hB9 ((x9.1 &&& (((1 : Int32) <<< (t33 &&& 31)) ^^^ (-1))), (x9.2.1 + 1), σ49))
        · refine ev_aload_n dX12_lot_143 rfl ?_
          refine ev_iload_n dX12_lot_144 rfl ?_
          refine ev_iconst (v := 1) dX12_lot_145 (by decide) ?_
          refine ev_iload_n dX12_lot_146 rfl ?_
          refine ev_callWI (am_callV (as := [.int p1, .int 1, .int p3]) (o := p0) (st := []) cv_X12_353 dX12_lot_147 kp0 rfl (am_le rfl) (am_fit (by omega) (by decide) (by decide) (by decide)) (t_X12_rings hl kp0)) (fun y50 h50 => ?_)
          exact ev_iret dX12_lot_150 rfl rfl (by decide) (by decide) rfl
      · refine ev_iconst (v := 0) dX12_lot_40 (by decide) ?_
        exact ev_iret dX12_lot_41 rfl rfl (by decide) (by decide) rfl
def f_X12_isRoom_b6 (S : am_S) (a0 : Nat) (a1 : Int32) (a2 : Int32) (a3 : Int32) (x1 : Int32 × Int32) : Option ((Int32 × Int32) ⊕ (Int32)) :=
  ((f_X12_wants S a0).bind (fun v2 => (if x1.2 < v2 then ((f_X12_wordOf S a0 a1 x1.2).bind (fun v4 => ((if x1.1 = 0 then some (0 : Int32) else (if x1.2 = a3 then some (1 : Int32) else (if v4 = 0 then some (1 : Int32) else ((f_X12_isBegin v4 a2).bind (fun v8 => (if v8 = 0 then ((f_X12_isBegin a2 v4).bind (fun v10 => (if v10 = 0 then some (1 : Int32) else some (0 : Int32)))) else some (0 : Int32))))))).bind (fun t5 => some (.inl (t5, (x1.2 + 1))))))) else some (.inr x1.1))))
def f_X12_isRoom (S : am_S) (p0 : Nat) (p1 : Int32) (p2 : Int32) (p3 : Int32) : Option (Int32) :=
  ((am_loop (f_X12_isRoom_b6 S p0 p1 p2 p3) am_fuel (1, 0)).bind (fun t1 => (if t1 = 0 ∨ t1 = 1 then some t1 else none)))
set_option maxRecDepth 20000 in
theorem t_X12_isRoom {E : am_E} {l : Launch} (hl : l.stackTraces = false) {S : am_S} {p0 : Nat} {p1 : Int32} {p2 : Int32} {p3 : Int32} (kp0 : am_kd p0 = 112) : am_M E l yX12_isRoom (.code yX12_isRoom cX12_isRoom 7 (some .boolean)) 3 0 0 [.ref p0, .int p1, .int p2, .int p3] S ((f_X12_isRoom S p0 p1 p2 p3).map (fun (v : Int32) => ((.inl (some (.int v)), S) : am_R))) := by
  refine am_M_of (w := fun (v : Int32) => ((.inl (some (.int v)), S) : am_R)) hl (by decide) (am_fc rfl (am_fc rfl (am_fc rfl (am_fc rfl am_fn)))) (Nat.le_of_ble_eq_true rfl) ?_
  show am_Ev E l (RX12, cX12_isRoom, 7, (some .boolean), [], am_rm 3 0 0) (fun b a s x => am_Z E 0 0 b a s ((fun (v : Int32) => ((.inl (some (.int v)), S) : am_R)) x)) 0 0 0 [some (.ref p0), some (.int p1), some (.int p2), some (.int p3), none, none, none] [] S (f_X12_isRoom S p0 p1 p2 p3)
  unfold f_X12_isRoom
  refine ev_iconst (v := 1) dX12_isRoom_0 (by decide) ?_
  refine ev_istore dX12_isRoom_1 (am_lt rfl) ?_
  refine ev_iconst (v := 0) dX12_isRoom_3 (by decide) ?_
  refine ev_istore dX12_isRoom_4 (am_lt rfl) ?_
  refine ev_weak (am_wk (am_wk (am_wk (am_wk (am_wk (am_wk (am_wf am_wn))))))) (ev_loop 6 71 (fun x1 : Int32 × Int32 => [some (.ref p0), some (.int p1), some (.int p2), some (.int p3), some (.int x1.1), some (.int x1.2), none]) (fun t1 : Int32 => [none, none, none, none, some (.int t1), none, none]) (fun x1 => S) (fun t1 => S) (fun x1 G1 hB1 hE1 => ?_) (fun t1 => ?_) am_fuel (1, 0))
  · unfold f_X12_isRoom_b6
    refine ev_iload dX12_isRoom_6 rfl ?_
    refine ev_aload_n dX12_isRoom_8 rfl ?_
    refine ev_eq (Option.bind_assoc _ _ _) ?_
    refine ev_callP (am_callV (as := []) (o := p0) (st := [.int x1.2]) cv_X12_82 dX12_isRoom_9 kp0 rfl (am_le rfl) (am_fit (by omega) (by decide) (by decide) (by decide)) (t_X12_wants hl kp0)) (fun v12 h12 => ?_)
    refine ev_eq am_ib ?_
    refine ev_icmp_ge (tgt := 71) dX12_isRoom_12 (by decide) (fun c13 => ?_) (fun c13 => ?_)
    · exact ev_leaf (am_wf (am_wf (am_wf (am_wf (am_wk (am_wf (am_wf am_wn))))))) (hE1 x1.1)
    · refine ev_aload_n dX12_isRoom_15 rfl ?_
      refine ev_iload_n dX12_isRoom_16 rfl ?_
      refine ev_iload dX12_isRoom_17 rfl ?_
      refine ev_eq (Option.bind_assoc _ _ _) ?_
      refine ev_callP (am_callV (as := [.int p1, .int x1.2]) (o := p0) (st := []) cv_X12_254 dX12_isRoom_19 kp0 rfl (am_le rfl) (am_fit (by omega) (by decide) (by decide) (by decide)) (t_X12_wordOf hl kp0)) (fun v14 h14 => ?_)
      refine ev_istore dX12_isRoom_22 (am_lt rfl) ?_
      refine ev_iload dX12_isRoom_24 rfl ?_
      refine ev_eq (Option.bind_assoc _ _ _) ?_
      refine ev_reg (cs' := 0) (sl' := 0) 63 (fun t15 : Int32 => [some (.ref p0), some (.int p1), some (.int p2), some (.int p3), none, some (.int x1.2), none]) (fun t15 => [.int t15]) (fun t15 => S) (fun hJ15 => ?_) (fun t15 => ?_)
      · refine ev_eq am_ib ?_
        refine ev_if_eq (tgt := 62) dX12_isRoom_26 (by decide) (fun c15 => ?_) (fun c15 => ?_)
        · refine ev_iconst (v := 0) dX12_isRoom_62 (by decide) ?_
          exact ev_leaf (am_wk (am_wk (am_wk (am_wk (am_wf (am_wk (am_wf am_wn))))))) (hJ15 (0 : Int32))
        · refine ev_iload dX12_isRoom_29 rfl ?_
          refine ev_iload_n dX12_isRoom_31 rfl ?_
          refine ev_eq am_ib ?_
          refine ev_icmp_eq (tgt := 58) dX12_isRoom_32 (by decide) (fun c16 => ?_) (fun c16 => ?_)
          · refine ev_iconst (v := 1) dX12_isRoom_58 (by decide) ?_
            refine ev_goto (tgt := 63) dX12_isRoom_59 (by decide) ?_
            exact ev_leaf (am_wk (am_wk (am_wk (am_wk (am_wf (am_wk (am_wf am_wn))))))) (hJ15 (1 : Int32))
          · refine ev_iload dX12_isRoom_35 rfl ?_
            refine ev_eq am_ib ?_
            refine ev_if_eq (tgt := 58) dX12_isRoom_37 (by decide) (fun c17 => ?_) (fun c17 => ?_)
            · refine ev_iconst (v := 1) dX12_isRoom_58 (by decide) ?_
              refine ev_goto (tgt := 63) dX12_isRoom_59 (by decide) ?_
              exact ev_leaf (am_wk (am_wk (am_wk (am_wk (am_wf (am_wk (am_wf am_wn))))))) (hJ15 (1 : Int32))
            · refine ev_iload dX12_isRoom_40 rfl ?_
              refine ev_iload_n dX12_isRoom_42 rfl ?_
              refine ev_eq (Option.bind_assoc _ _ _) ?_
              refine ev_callP (am_callS (as := [.int v14, .int p2]) (st := []) ct_X12_303 dX12_isRoom_43 rfl (am_le rfl) (am_fit (by omega) (by decide) (by decide) (by decide)) (t_X12_isBegin hl )) (fun v18 h18 => ?_)
              refine ev_eq am_ib ?_
              refine ev_if_ne (tgt := 62) dX12_isRoom_46 (by decide) (fun c19 => ?_) (fun c19 => ?_)
              · refine ev_iconst (v := 0) dX12_isRoom_62 (by decide) ?_
                exact ev_leaf (am_wk (am_wk (am_wk (am_wk (am_wf (am_wk (am_wf am_wn))))))) (hJ15 (0 : Int32))
              · refine ev_iload_n dX12_isRoom_49 rfl ?_
                refine ev_iload dX12_isRoom_50 rfl ?_
                refine ev_eq (Option.bind_assoc _ _ _) ?_
                refine ev_callP (am_callS (as := [.int p2, .int v14]) (st := []) ct_X12_303 dX12_isRoom_52 rfl (am_le rfl) (am_fit (by omega) (by decide) (by decide) (by decide)) (t_X12_isBegin hl )) (fun v20 h20 => ?_)
                refine ev_eq am_ib ?_
                refine ev_if_ne (tgt := 62) dX12_isRoom_55 (by decide) (fun c21 => ?_) (fun c21 => ?_)
                · refine ev_iconst (v := 0) dX12_isRoom_62 (by decide) ?_
                  exact ev_leaf (am_wk (am_wk (am_wk (am_wk (am_wf (am_wk (am_wf am_wn))))))) (hJ15 (0 : Int32))
                · refine ev_iconst (v := 1) dX12_isRoom_58 (by decide) ?_
                  refine ev_goto (tgt := 63) dX12_isRoom_59 (by decide) ?_
                  exact ev_leaf (am_wk (am_wk (am_wk (am_wk (am_wf (am_wk (am_wf am_wn))))))) (hJ15 (1 : Int32))
      · refine ev_istore dX12_isRoom_63 (am_lt rfl) ?_
        refine ev_iinc (v := (x1.2 + 1)) dX12_isRoom_65 (am_lt rfl) rfl rfl ?_
        refine ev_goto (tgt := 6) dX12_isRoom_68 (by decide) ?_
        exact ev_leaf (am_wk (am_wk (am_wk (am_wk (am_wk (am_wk (am_wf am_wn))))))) (hB1 (t15, (x1.2 + 1)))
  · refine ev_iload dX12_isRoom_71 rfl ?_
    refine ev_split (fun c22 => ?_) (fun _ => ?_)
    · exact ev_iret dX12_isRoom_73 rfl (am_nb c22) (by decide) (by decide) rfl
    · exact ev_none
def f_X12_fits_b6 (S : am_S) (a0 : Nat) (a1 : Int32) (a2 : Int32) (a3 : Int32) (x1 : Int32 × Int32) : Option ((Int32 × Int32) ⊕ (Int32)) :=
  (if 511 < x1.2 then some (.inr x1.1) else ((f_X12_isRoom S a0 a1 x1.2 a3).bind (fun v3 => ((if v3 = 0 then some x1.1 else (if 0 < a2 then ((f_X12_isBegin a2 x1.2).bind (fun v10 => (if v10 = 0 then ((f_X12_isBegin x1.2 a2).bind (fun v12 => (if v12 = 0 then (if x1.1 = 0 then some x1.2 else ((f_X12_costOf x1.2).bind (fun v15 => ((f_X12_costOf x1.1).bind (fun v16 => (if v15 < v16 then some x1.2 else some x1.1)))))) else some x1.1))) else some x1.1))) else (if x1.1 = 0 then some x1.2 else ((f_X12_costOf x1.2).bind (fun v7 => ((f_X12_costOf x1.1).bind (fun v8 => (if v7 < v8 then some x1.2 else some x1.1)))))))).bind (fun t4 => some (.inl (t4, (x1.2 + 1))))))))
def f_X12_fits (S : am_S) (p0 : Nat) (p1 : Int32) (p2 : Int32) (p3 : Int32) : Option (Int32) :=
  ((am_loop (f_X12_fits_b6 S p0 p1 p2 p3) am_fuel (0, 2)).bind (fun t1 => some t1))
set_option maxRecDepth 20000 in
theorem t_X12_fits {E : am_E} {l : Launch} (hl : l.stackTraces = false) {S : am_S} {p0 : Nat} {p1 : Int32} {p2 : Int32} {p3 : Int32} (kp0 : am_kd p0 = 112) : am_M E l yX12_fits (.code yX12_fits cX12_fits 6 (some .int)) 4 0 0 [.ref p0, .int p1, .int p2, .int p3] S ((f_X12_fits S p0 p1 p2 p3).map (fun (v : Int32) => ((.inl (some (.int v)), S) : am_R))) := by
  refine am_M_of (w := fun (v : Int32) => ((.inl (some (.int v)), S) : am_R)) hl (by decide) (am_fc rfl (am_fc rfl (am_fc rfl (am_fc rfl am_fn)))) (Nat.le_of_ble_eq_true rfl) ?_
  show am_Ev E l (RX12, cX12_fits, 6, (some .int), [], am_rm 4 0 0) (fun b a s x => am_Z E 0 0 b a s ((fun (v : Int32) => ((.inl (some (.int v)), S) : am_R)) x)) 0 0 0 [some (.ref p0), some (.int p1), some (.int p2), some (.int p3), none, none] [] S (f_X12_fits S p0 p1 p2 p3)
  unfold f_X12_fits
  refine ev_iconst (v := 0) dX12_fits_0 (by decide) ?_
  refine ev_istore dX12_fits_1 (am_lt rfl) ?_
  refine ev_iconst (v := 2) dX12_fits_3 (by decide) ?_
  refine ev_istore dX12_fits_4 (am_lt rfl) ?_
  refine ev_weak (am_wk (am_wk (am_wk (am_wk (am_wk (am_wk am_wn)))))) (ev_loop 6 78 (fun x1 : Int32 × Int32 => [some (.ref p0), some (.int p1), some (.int p2), some (.int p3), some (.int x1.1), some (.int x1.2)]) (fun t1 : Int32 => [none, none, none, none, some (.int t1), none]) (fun x1 => S) (fun t1 => S) (fun x1 G1 hB1 hE1 => ?_) (fun t1 => ?_) am_fuel (0, 2))
  · unfold f_X12_fits_b6
    refine ev_iload dX12_fits_6 rfl ?_
    refine ev_sipush (v := 511) dX12_fits_8 (by decide) ?_
    refine ev_eq am_ib ?_
    refine ev_icmp_gt (tgt := 78) dX12_fits_11 (by decide) (fun c18 => ?_) (fun c18 => ?_)
    · exact ev_leaf (am_wf (am_wf (am_wf (am_wf (am_wk (am_wf am_wn)))))) (hE1 x1.1)
    · refine ev_aload_n dX12_fits_14 rfl ?_
      refine ev_iload_n dX12_fits_15 rfl ?_
      refine ev_iload dX12_fits_16 rfl ?_
      refine ev_iload_n dX12_fits_18 rfl ?_
      refine ev_eq (Option.bind_assoc _ _ _) ?_
      refine ev_callP (am_callV (as := [.int p1, .int x1.2, .int p3]) (o := p0) (st := []) cv_X12_357 dX12_fits_19 kp0 rfl (am_le rfl) (am_fit (by omega) (by decide) (by decide) (by decide)) (t_X12_isRoom hl kp0)) (fun v19 h19 => ?_)
      refine ev_eq (Option.bind_assoc _ _ _) ?_
      refine ev_reg (cs' := 0) (sl' := 0) 72 (fun t20 : Int32 => [some (.ref p0), some (.int p1), some (.int p2), some (.int p3), some (.int t20), some (.int x1.2)]) (fun t20 => []) (fun t20 => S) (fun hJ20 => ?_) (fun t20 => ?_)
      · refine ev_eq am_ib ?_
        refine ev_if_eq (tgt := 72) dX12_fits_22 (by decide) (fun c20 => ?_) (fun c20 => ?_)
        · exact ev_leaf (am_wk (am_wk (am_wk (am_wk (am_wk (am_wk am_wn)))))) (hJ20 x1.1)
        · refine ev_iload_n dX12_fits_25 rfl ?_
          refine ev_eq am_ib ?_
          refine ev_if_le (tgt := 50) dX12_fits_26 (by decide) (fun c21 => ?_) (fun c21 => ?_)
          · refine ev_iload dX12_fits_50 rfl ?_
            refine ev_eq am_ib ?_
            refine ev_if_eq (tgt := 68) dX12_fits_52 (by decide) (fun c22 => ?_) (fun c22 => ?_)
            · refine ev_iload dX12_fits_68 rfl ?_
              refine ev_istore dX12_fits_70 (am_lt rfl) ?_
              exact ev_leaf (am_wk (am_wk (am_wk (am_wk (am_wk (am_wk am_wn)))))) (hJ20 x1.2)
            · refine ev_iload dX12_fits_55 rfl ?_
              refine ev_eq (Option.bind_assoc _ _ _) ?_
              refine ev_callP (am_callS (as := [.int x1.2]) (st := []) ct_X12_268 dX12_fits_57 rfl (am_le rfl) (am_fit (by omega) (by decide) (by decide) (by decide)) (t_X12_costOf hl )) (fun v23 h23 => ?_)
              refine ev_iload dX12_fits_60 rfl ?_
              refine ev_eq (Option.bind_assoc _ _ _) ?_
              refine ev_callP (am_callS (as := [.int x1.1]) (st := [.int v23]) ct_X12_268 dX12_fits_62 rfl (am_le rfl) (am_fit (by omega) (by decide) (by decide) (by decide)) (t_X12_costOf hl )) (fun v24 h24 => ?_)
              refine ev_eq am_ib ?_
              refine ev_icmp_ge (tgt := 72) dX12_fits_65 (by decide) (fun c25 => ?_) (fun c25 => ?_)
              · exact ev_leaf (am_wk (am_wk (am_wk (am_wk (am_wk (am_wk am_wn)))))) (hJ20 x1.1)
              · refine ev_iload dX12_fits_68 rfl ?_
                refine ev_istore dX12_fits_70 (am_lt rfl) ?_
                exact ev_leaf (am_wk (am_wk (am_wk (am_wk (am_wk (am_wk am_wn)))))) (hJ20 x1.2)
          · refine ev_iload_n dX12_fits_29 rfl ?_
            refine ev_iload dX12_fits_30 rfl ?_
            refine ev_eq (Option.bind_assoc _ _ _) ?_
            refine ev_callP (am_callS (as := [.int p2, .int x1.2]) (st := []) ct_X12_303 dX12_fits_32 rfl (am_le rfl) (am_fit (by omega) (by decide) (by decide) (by decide)) (t_X12_isBegin hl )) (fun v26 h26 => ?_)
            refine ev_eq am_ib ?_
            refine ev_if_ne (tgt := 72) dX12_fits_35 (by decide) (fun c27 => ?_) (fun c27 => ?_)
            · exact ev_leaf (am_wk (am_wk (am_wk (am_wk (am_wk (am_wk am_wn)))))) (hJ20 x1.1)
            · refine ev_iload dX12_fits_38 rfl ?_
              refine ev_iload_n dX12_fits_40 rfl ?_
              refine ev_eq (Option.bind_assoc _ _ _) ?_
              refine ev_callP (am_callS (as := [.int x1.2, .int p2]) (st := []) ct_X12_303 dX12_fits_41 rfl (am_le rfl) (am_fit (by omega) (by decide) (by decide) (by decide)) (t_X12_isBegin hl )) (fun v28 h28 => ?_)
              refine ev_eq am_ib ?_
              refine ev_if_eq (tgt := 50) dX12_fits_44 (by decide) (fun c29 => ?_) (fun c29 => ?_)
              · refine ev_iload dX12_fits_50 rfl ?_
                refine ev_eq am_ib ?_
                refine ev_if_eq (tgt := 68) dX12_fits_52 (by decide) (fun c30 => ?_) (fun c30 => ?_)
                · refine ev_iload dX12_fits_68 rfl ?_
                  refine ev_istore dX12_fits_70 (am_lt rfl) ?_
                  exact ev_leaf (am_wk (am_wk (am_wk (am_wk (am_wk (am_wk am_wn)))))) (hJ20 x1.2)
                · refine ev_iload dX12_fits_55 rfl ?_
                  refine ev_eq (Option.bind_assoc _ _ _) ?_
                  refine ev_callP (am_callS (as := [.int x1.2]) (st := []) ct_X12_268 dX12_fits_57 rfl (am_le rfl) (am_fit (by omega) (by decide) (by decide) (by decide)) (t_X12_costOf hl )) (fun v31 h31 => ?_)
                  refine ev_iload dX12_fits_60 rfl ?_
                  refine ev_eq (Option.bind_assoc _ _ _) ?_
                  refine ev_callP (am_callS (as := [.int x1.1]) (st := [.int v31]) ct_X12_268 dX12_fits_62 rfl (am_le rfl) (am_fit (by omega) (by decide) (by decide) (by decide)) (t_X12_costOf hl )) (fun v32 h32 => ?_)
                  refine ev_eq am_ib ?_
                  refine ev_icmp_ge (tgt := 72) dX12_fits_65 (by decide) (fun c33 => ?_) (fun c33 => ?_)
                  · exact ev_leaf (am_wk (am_wk (am_wk (am_wk (am_wk (am_wk am_wn)))))) (hJ20 x1.1)
                  · refine ev_iload dX12_fits_68 rfl ?_
                    refine ev_istore dX12_fits_70 (am_lt rfl) ?_
                    exact ev_leaf (am_wk (am_wk (am_wk (am_wk (am_wk (am_wk am_wn)))))) (hJ20 x1.2)
              · refine ev_goto (tgt := 72) dX12_fits_47 (by decide) ?_
                exact ev_leaf (am_wk (am_wk (am_wk (am_wk (am_wk (am_wk am_wn)))))) (hJ20 x1.1)
      · refine ev_iinc (v := (x1.2 + 1)) dX12_fits_72 (am_lt rfl) rfl rfl ?_
        refine ev_goto (tgt := 6) dX12_fits_75 (by decide) ?_
        exact ev_leaf (am_wk (am_wk (am_wk (am_wk (am_wk (am_wk am_wn)))))) (hB1 (t20, (x1.2 + 1)))
  · refine ev_iload dX12_fits_78 rfl ?_
    exact ev_iret dX12_fits_80 rfl rfl (by decide) (by decide) rfl
def f_X12_room_b116 (S : am_S) (a0 : Nat) (a1 : Int32) (a2 : Int32) (a3 : Int32) (a6 : Int32) (x20 : Int32 × Int32 × Int32) : Option ((Int32 × Int32 × Int32) ⊕ (Int32 × Int32)) :=
  (if x20.2.2 < 2 then ((f_X12_wordOf S a0 a1 a6).bind (fun v22 => ((if v22 = 0 then some (x20.1, x20.2.1) else ((f_X12_lengthOf v22).bind (fun v24 => (if v24 = 8 then some (x20.1, x20.2.1) else ((f_X12_fits S a0 a1 ((2 * v22) + x20.2.2) a6).bind (fun v26 => ((if v26 = 0 then some (1000000 : Int32) else ((f_X12_urgent S a0 a2).bind (fun v28 => ((f_X12_costOf v26).bind (fun v29 => ((f_X12_urgent S a0 a6).bind (fun v30 => some ((v28 * v29) + (v30 * (1 + x20.2.2)))))))))).bind (fun t27 => (if t27 < x20.2.1 then some (v26, t27) else some (x20.1, x20.2.1)))))))))).bind (fun t23 => some (.inl (t23.1, t23.2, (x20.2.2 + 1))))))) else some (.inr (x20.1, x20.2.1)))
def f_X12_room_b104 (S : am_S) (a0 : Nat) (a1 : Int32) (a2 : Int32) (a3 : Int32) (x17 : Int32 × Int32 × Int32) : Option ((Int32 × Int32 × Int32) ⊕ (Int32 × Int32)) :=
  ((f_X12_wants S a0).bind (fun v18 => (if x17.2.2 < v18 then ((am_loop (f_X12_room_b116 S a0 a1 a2 a3 x17.2.2) am_fuel (x17.1, x17.2.1, 0)).bind (fun t20 => some (.inl (t20.1, t20.2, (x17.2.2 + 1))))) else some (.inr (x17.1, x17.2.1)))))
def f_X12_room (S : am_S) (p0 : Nat) (p1 : Int32) (p2 : Int32) (p3 : Int32) : Option (Int32 × (Nat → Nat → Int32)) :=
  ((f_X12_noHouse ((am_u2 S.1 p0 0 0), S.2) p0 p1).bind (fun v1 => ((if v1 = 0 then ((f_X12_noWant ((am_u2 S.1 p0 0 0), S.2) p0 p2).bind (fun v3 => (if v3 = 0 then some (0 : Int32) else some (1 : Int32)))) else some (1 : Int32)).bind (fun t2 => ((f_X12_throwsIf ((am_u2 S.1 p0 0 0), S.2) p0 t2 1).bind (fun y5 => (if y5.1 = 0 then ((f_X12_wordOf (y5.2, S.2) p0 p1 p2).bind (fun v7 => ((if 0 < v7 then some (1 : Int32) else some (0 : Int32)).bind (fun t8 => ((f_X12_throwsIf (y5.2, S.2) p0 t8 2).bind (fun y9 => (if y9.1 = 0 then ((f_X12_beginsOf (y9.2, S.2) p0 p1).bind (fun v11 => (if 0 < v11 then some ((-1), y9.2) else ((f_X12_fits (y9.2, S.2) p0 p1 0 (-1)).bind (fun v13 => ((if 0 < v13 then ((f_X12_urgent (y9.2, S.2) p0 p2).bind (fun v15 => ((f_X12_costOf v13).bind (fun v16 => some (v15 * v16))))) else some (1000000 : Int32)).bind (fun t14 => ((am_loop (f_X12_room_b104 (y9.2, S.2) p0 p1 p2 p3) am_fuel (v13, t14, 0)).bind (fun t17 => (if t17.1 = 0 then some ((-1), y9.2) else (if p3 = 0 then some (t17.2, y9.2) else some (t17.1, y9.2)))))))))))) else some (0, y9.2)))))))) else some (0, y5.2))))))))
set_option maxRecDepth 20000 in
theorem t_X12_room {E : am_E} {l : Launch} (hl : l.stackTraces = false) {S : am_S} {p0 : Nat} {p1 : Int32} {p2 : Int32} {p3 : Int32} (kp0 : am_kd p0 = 112) : am_M E l yX12_room (.code yX12_room cX12_room 11 (some .int)) 5 0 0 [.ref p0, .int p1, .int p2, .int p3] S ((f_X12_room S p0 p1 p2 p3).map (fun (x : Int32 × (Nat → Nat → Int32)) => ((.inl (some (.int x.1)), (x.2, S.2)) : am_R))) := by
  refine am_M_of (w := fun (x : Int32 × (Nat → Nat → Int32)) => ((.inl (some (.int x.1)), (x.2, S.2)) : am_R)) hl (by decide) (am_fc rfl (am_fc rfl (am_fc rfl (am_fc rfl am_fn)))) (Nat.le_of_ble_eq_true rfl) ?_
  show am_Ev E l (RX12, cX12_room, 11, (some .int), [], am_rm 5 0 0) (fun b a s x => am_Z E 0 0 b a s ((fun (x : Int32 × (Nat → Nat → Int32)) => ((.inl (some (.int x.1)), (x.2, S.2)) : am_R)) x)) 0 0 0 [some (.ref p0), some (.int p1), some (.int p2), some (.int p3), none, none, none, none, none, none, none] [] S (f_X12_room S p0 p1 p2 p3)
  unfold f_X12_room
  refine ev_aload_n dX12_room_0 rfl ?_
  refine ev_iconst (v := 0) dX12_room_1 (by decide) ?_
  refine ev_putI fk_X12_3 tyX12 tyX12_ok nmX12 rfl (by decide +kernel) (by decide) dX12_room_2 kp0 ?_
  refine ev_aload_n dX12_room_5 rfl ?_
  refine ev_aload_n dX12_room_6 rfl ?_
  refine ev_iload_n dX12_room_7 rfl ?_
  refine ev_callP (am_callV (as := [.int p1]) (o := p0) (st := [.ref p0]) cv_X12_257 dX12_room_8 kp0 rfl (am_le rfl) (am_fit (by omega) (by decide) (by decide) (by decide)) (t_X12_noHouse hl kp0)) (fun v1 h1 => ?_)
  refine ev_reg (cs' := 0) (sl' := 0) 27 (fun t2 : Int32 => [some (.ref p0), some (.int p1), some (.int p2), some (.int p3), none, none, none, none, none, none, none]) (fun t2 => [.int t2, .ref p0]) (fun t2 => ((am_u2 S.1 p0 0 0), S.2)) (fun hJ2 => ?_) (fun t2 => ?_)
  · refine ev_eq am_ib ?_
    refine ev_if_ne (tgt := 22) dX12_room_11 (by decide) (fun c2 => ?_) (fun c2 => ?_)
    · refine ev_iconst (v := 1) dX12_room_22 (by decide) ?_
      refine ev_goto (tgt := 27) dX12_room_23 (by decide) ?_
      exact ev_leaf (am_wk (am_wk (am_wk (am_wk (am_wf (am_wf (am_wf (am_wf (am_wf (am_wf (am_wf am_wn))))))))))) (hJ2 (1 : Int32))
    · refine ev_aload_n dX12_room_14 rfl ?_
      refine ev_iload_n dX12_room_15 rfl ?_
      refine ev_eq (Option.bind_assoc _ _ _) ?_
      refine ev_callP (am_callV (as := [.int p2]) (o := p0) (st := [.ref p0]) cv_X12_263 dX12_room_16 kp0 rfl (am_le rfl) (am_fit (by omega) (by decide) (by decide) (by decide)) (t_X12_noWant hl kp0)) (fun v3 h3 => ?_)
      refine ev_eq am_ib ?_
      refine ev_if_eq (tgt := 26) dX12_room_19 (by decide) (fun c4 => ?_) (fun c4 => ?_)
      · refine ev_iconst (v := 0) dX12_room_26 (by decide) ?_
        exact ev_leaf (am_wk (am_wk (am_wk (am_wk (am_wf (am_wf (am_wf (am_wf (am_wf (am_wf (am_wf am_wn))))))))))) (hJ2 (0 : Int32))
      · refine ev_iconst (v := 1) dX12_room_22 (by decide) ?_
        refine ev_goto (tgt := 27) dX12_room_23 (by decide) ?_
        exact ev_leaf (am_wk (am_wk (am_wk (am_wk (am_wf (am_wf (am_wf (am_wf (am_wf (am_wf (am_wf am_wn))))))))))) (hJ2 (1 : Int32))
  · refine ev_iconst (v := 1) dX12_room_27 (by decide) ?_
    refine ev_callWI (am_callV (as := [.int t2, .int 1]) (o := p0) (st := []) cv_X12_242 dX12_room_28 kp0 rfl (am_le rfl) (am_fit (by omega) (by decide) (by decide) (by decide)) (t_X12_throwsIf hl kp0)) (fun y5 h5 => ?_)
    refine ev_if_ne (tgt := 56) dX12_room_31 (by decide) (fun c6 => ?_) (fun c6 => ?_)
    · refine ev_iconst (v := 0) dX12_room_56 (by decide) ?_
      exact ev_iret dX12_room_57 rfl rfl (by decide) (by decide) rfl
    · refine ev_aload_n dX12_room_34 rfl ?_
      refine ev_aload_n dX12_room_35 rfl ?_
      refine ev_iload_n dX12_room_36 rfl ?_
      refine ev_iload_n dX12_room_37 rfl ?_
      refine ev_callP (am_callV (as := [.int p1, .int p2]) (o := p0) (st := [.ref p0]) cv_X12_254 dX12_room_38 kp0 rfl (am_le rfl) (am_fit (by omega) (by decide) (by decide) (by decide)) (t_X12_wordOf hl kp0)) (fun v7 h7 => ?_)
      refine ev_reg (cs' := 0) (sl' := 0) 49 (fun t8 : Int32 => [some (.ref p0), some (.int p1), some (.int p2), some (.int p3), none, none, none, none, none, none, none]) (fun t8 => [.int t8, .ref p0]) (fun t8 => (y5.2, S.2)) (fun hJ8 => ?_) (fun t8 => ?_)
      · refine ev_eq am_ib ?_
        refine ev_if_le (tgt := 48) dX12_room_41 (by decide) (fun c8 => ?_) (fun c8 => ?_)
        · refine ev_iconst (v := 0) dX12_room_48 (by decide) ?_
          exact ev_leaf (am_wk (am_wk (am_wk (am_wk (am_wf (am_wf (am_wf (am_wf (am_wf (am_wf (am_wf am_wn))))))))))) (hJ8 (0 : Int32))
        · refine ev_iconst (v := 1) dX12_room_44 (by decide) ?_
          refine ev_goto (tgt := 49) dX12_room_45 (by decide) ?_
          exact ev_leaf (am_wk (am_wk (am_wk (am_wk (am_wf (am_wf (am_wf (am_wf (am_wf (am_wf (am_wf am_wn))))))))))) (hJ8 (1 : Int32))
      · refine ev_iconst (v := 2) dX12_room_49 (by decide) ?_
        refine ev_callWI (am_callV (as := [.int t8, .int 2]) (o := p0) (st := []) cv_X12_242 dX12_room_50 kp0 rfl (am_le rfl) (am_fit (by omega) (by decide) (by decide) (by decide)) (t_X12_throwsIf hl kp0)) (fun y9 h9 => ?_)
        refine ev_if_eq (tgt := 58) dX12_room_53 (by decide) (fun c10 => ?_) (fun c10 => ?_)
        · refine ev_aload_n dX12_room_58 rfl ?_
          refine ev_iload_n dX12_room_59 rfl ?_
          refine ev_callP (am_callV (as := [.int p1]) (o := p0) (st := []) cv_X12_316 dX12_room_60 kp0 rfl (am_le rfl) (am_fit (by omega) (by decide) (by decide) (by decide)) (t_X12_beginsOf hl kp0)) (fun v11 h11 => ?_)
          refine ev_if_le (tgt := 68) dX12_room_63 (by decide) (fun c12 => ?_) (fun c12 => ?_)
          · refine ev_aload_n dX12_room_68 rfl ?_
            refine ev_iload_n dX12_room_69 rfl ?_
            refine ev_iconst (v := 0) dX12_room_70 (by decide) ?_
            refine ev_iconst (v := (-1)) dX12_room_71 (by decide) ?_
            refine ev_callP (am_callV (as := [.int p1, .int 0, .int (-1)]) (o := p0) (st := []) cv_X12_360 dX12_room_72 kp0 rfl (am_le rfl) (am_fit (by omega) (by decide) (by decide) (by decide)) (t_X12_fits hl kp0)) (fun v13 h13 => ?_)
            refine ev_istore dX12_room_75 (am_lt rfl) ?_
            refine ev_iload dX12_room_77 rfl ?_
            refine ev_reg (cs' := 0) (sl' := 0) 99 (fun t14 : Int32 => [some (.ref p0), some (.int p1), some (.int p2), some (.int p3), some (.int v13), none, none, none, none, none, none]) (fun t14 => [.int t14]) (fun t14 => (y9.2, S.2)) (fun hJ14 => ?_) (fun t14 => ?_)
            · refine ev_eq am_ib ?_
              refine ev_if_le (tgt := 96) dX12_room_79 (by decide) (fun c14 => ?_) (fun c14 => ?_)
              · refine ev_ldcwI (v := 1000000) dX12_room_96 (am_G_t (i := 1836) (by decide +kernel) rfl) ?_
                exact ev_leaf (am_wk (am_wk (am_wk (am_wk (am_wk (am_wf (am_wf (am_wf (am_wf (am_wf (am_wf am_wn))))))))))) (hJ14 (1000000 : Int32))
              · refine ev_aload_n dX12_room_82 rfl ?_
                refine ev_iload_n dX12_room_83 rfl ?_
                refine ev_eq (Option.bind_assoc _ _ _) ?_
                refine ev_callP (am_callV (as := [.int p2]) (o := p0) (st := []) cv_X12_266 dX12_room_84 kp0 rfl (am_le rfl) (am_fit (by omega) (by decide) (by decide) (by decide)) (t_X12_urgent hl kp0)) (fun v15 h15 => ?_)
                refine ev_iload dX12_room_87 rfl ?_
                refine ev_eq (Option.bind_assoc _ _ _) ?_
                refine ev_callP (am_callS (as := [.int v13]) (st := [.int v15]) ct_X12_268 dX12_room_89 rfl (am_le rfl) (am_fit (by omega) (by decide) (by decide) (by decide)) (t_X12_costOf hl )) (fun v16 h16 => ?_)
                refine ev_imul dX12_room_92 ?_
                refine ev_goto (tgt := 99) dX12_room_93 (by decide) ?_
                exact ev_leaf (am_wk (am_wk (am_wk (am_wk (am_wk (am_wf (am_wf (am_wf (am_wf (am_wf (am_wf am_wn))))))))))) (hJ14 (v15 * v16))
            · refine ev_istore dX12_room_99 (am_lt rfl) ?_
              refine ev_iconst (v := 0) dX12_room_101 (by decide) ?_
              refine ev_istore dX12_room_102 (am_lt rfl) ?_
              refine ev_weak (am_wk (am_wk (am_wk (am_wk (am_wk (am_wk (am_wk (am_wf (am_wf (am_wf (am_wf am_wn))))))))))) (ev_loop 104 231 (fun x17 : Int32 × Int32 × Int32 => [some (.ref p0), some (.int p1), some (.int p2), some (.int p3), some (.int x17.1), some (.int x17.2.1), some (.int x17.2.2), none, none, none, none]) (fun t17 : Int32 × Int32 => [none, none, none, some (.int p3), some (.int t17.1), some (.int t17.2), none, none, none, none, none]) (fun x17 => (y9.2, S.2)) (fun t17 => (y9.2, S.2)) (fun x17 G17 hB17 hE17 => ?_) (fun t17 => ?_) am_fuel (v13, t14, 0))
              · unfold f_X12_room_b104
                refine ev_iload dX12_room_104 rfl ?_
                refine ev_aload_n dX12_room_106 rfl ?_
                refine ev_eq (Option.bind_assoc _ _ _) ?_
                refine ev_callP (am_callV (as := []) (o := p0) (st := [.int x17.2.2]) cv_X12_82 dX12_room_107 kp0 rfl (am_le rfl) (am_fit (by omega) (by decide) (by decide) (by decide)) (t_X12_wants hl kp0)) (fun v43 h43 => ?_)
                refine ev_eq am_ib ?_
                refine ev_icmp_ge (tgt := 231) dX12_room_110 (by decide) (fun c44 => ?_) (fun c44 => ?_)
                · exact ev_leaf (am_wf (am_wf (am_wf (am_wk (am_wk (am_wk (am_wf (am_wf (am_wf (am_wf (am_wf am_wn))))))))))) (hE17 (x17.1, x17.2.1))
                · refine ev_iconst (v := 0) dX12_room_113 (by decide) ?_
                  refine ev_istore dX12_room_114 (am_lt rfl) ?_
                  refine ev_eq (Option.bind_assoc _ _ _) ?_
                  refine ev_weak (am_wk (am_wk (am_wk (am_wk (am_wk (am_wk (am_wk (am_wk (am_wf (am_wf (am_wf am_wn))))))))))) (ev_loop 116 225 (fun x45 : Int32 × Int32 × Int32 => [some (.ref p0), some (.int p1), some (.int p2), some (.int p3), some (.int x45.1), some (.int x45.2.1), some (.int x17.2.2), some (.int x45.2.2), none, none, none]) (fun t45 : Int32 × Int32 => [some (.ref p0), some (.int p1), some (.int p2), some (.int p3), some (.int t45.1), some (.int t45.2), some (.int x17.2.2), none, none, none, none]) (fun x45 => (y9.2, S.2)) (fun t45 => (y9.2, S.2)) (fun x45 G45 hB45 hE45 => ?_) (fun t45 => ?_) am_fuel (x17.1, x17.2.1, 0))
                  · unfold f_X12_room_b116
                    refine ev_iload dX12_room_116 rfl ?_
                    refine ev_iconst (v := 2) dX12_room_118 (by decide) ?_
                    refine ev_eq am_ib ?_
                    refine ev_icmp_ge (tgt := 225) dX12_room_119 (by decide) (fun c57 => ?_) (fun c57 => ?_)
                    · exact ev_leaf (am_wk (am_wk (am_wk (am_wk (am_wk (am_wk (am_wk (am_wf (am_wf (am_wf (am_wf am_wn))))))))))) (hE45 (x45.1, x45.2.1))
                    · refine ev_aload_n dX12_room_122 rfl ?_
                      refine ev_iload_n dX12_room_123 rfl ?_
                      refine ev_iload dX12_room_124 rfl ?_
                      refine ev_eq (Option.bind_assoc _ _ _) ?_
                      refine ev_callP (am_callV (as := [.int p1, .int x17.2.2]) (o := p0) (st := []) cv_X12_254 dX12_room_126 kp0 rfl (am_le rfl) (am_fit (by omega) (by decide) (by decide) (by decide)) (t_X12_wordOf hl kp0)) (fun v58 h58 => ?_)
                      refine ev_istore dX12_room_129 (am_lt rfl) ?_
                      refine ev_iload dX12_room_131 rfl ?_
                      refine ev_eq (Option.bind_assoc _ _ _) ?_
                      refine ev_reg (cs' := 0) (sl' := 0) 219 (fun t59 : Int32 × Int32 => [some (.ref p0), some (.int p1), some (.int p2), some (.int p3), some (.int t59.1), some (.int t59.2), some (.int x17.2.2), some (.int x45.2.2), none, none, none]) (fun t59 => []) (fun t59 => (y9.2, S.2)) (fun hJ59 => ?_) (fun t59 => ?_)
                      · refine ev_eq am_ib ?_
                        refine ev_if_eq (tgt := 219) dX12_room_133 (by decide) (fun c59 => ?_) (fun c59 => ?_)
                        · exact ev_leaf (am_wk (am_wk (am_wk (am_wk (am_wk (am_wk (am_wk (am_wk (am_wf (am_wf (am_wf am_wn))))))))))) (hJ59 (x45.1, x45.2.1))
                        · refine ev_iload dX12_room_136 rfl ?_
                          refine ev_eq (Option.bind_assoc _ _ _) ?_
                          refine ev_callP (am_callS (as := [.int v58]) (st := []) ct_X12_85 dX12_room_138 rfl (am_le rfl) (am_fit (by omega) (by decide) (by decide) (by decide)) (t_X12_lengthOf hl )) (fun v60 h60 => ?_)
                          refine ev_bipush (v := 8) dX12_room_141 (by decide) ?_
                          refine ev_eq am_ib ?_
                          refine ev_icmp_ne (tgt := 149) dX12_room_143 (by decide) (fun c61 => ?_) (fun c61 => ?_)
                          · refine ev_aload_n dX12_room_149 rfl ?_
                            refine ev_iload_n dX12_room_150 rfl ?_
                            refine ev_iconst (v := 2) dX12_room_151 (by decide) ?_
                            refine ev_iload dX12_room_152 rfl ?_
                            refine ev_imul dX12_room_154 ?_
                            refine ev_iload dX12_room_155 rfl ?_
                            refine ev_iadd dX12_room_157 ?_
                            refine ev_iload dX12_room_158 rfl ?_
                            refine ev_eq (Option.bind_assoc _ _ _) ?_
                            refine ev_callP (am_callV (as := [.int p1, .int ((2 * v58) + x45.2.2), .int x17.2.2]) (o := p0) (st := []) cv_X12_360 dX12_room_160 kp0 rfl (am_le rfl) (am_fit (by omega) (by decide) (by decide) (by decide)) (t_X12_fits hl kp0)) (fun v62 h62 => ?_)
                            refine ev_istore dX12_room_163 (am_lt rfl) ?_
                            refine ev_iload dX12_room_165 rfl ?_
                            refine ev_eq (Option.bind_assoc _ _ _) ?_
                            refine ev_reg (cs' := 0) (sl' := 0) 199 (fun t63 : Int32 => [some (.ref p0), some (.int p1), some (.int p2), some (.int p3), some (.int x45.1), some (.int x45.2.1), some (.int x17.2.2), some (.int x45.2.2), none, some (.int v62), none]) (fun t63 => [.int t63]) (fun t63 => (y9.2, S.2)) (fun hJ63 => ?_) (fun t63 => ?_)
                            · refine ev_eq am_ib ?_
                              refine ev_if_ne (tgt := 176) dX12_room_167 (by decide) (fun c63 => ?_) (fun c63 => ?_)
                              · refine ev_aload_n dX12_room_176 rfl ?_
                                refine ev_iload_n dX12_room_177 rfl ?_
                                refine ev_eq (Option.bind_assoc _ _ _) ?_
                                refine ev_callP (am_callV (as := [.int p2]) (o := p0) (st := []) cv_X12_266 dX12_room_178 kp0 rfl (am_le rfl) (am_fit (by omega) (by decide) (by decide) (by decide)) (t_X12_urgent hl kp0)) (fun v64 h64 => ?_)
                                refine ev_iload dX12_room_181 rfl ?_
                                refine ev_eq (Option.bind_assoc _ _ _) ?_
                                refine ev_callP (am_callS (as := [.int v62]) (st := [.int v64]) ct_X12_268 dX12_room_183 rfl (am_le rfl) (am_fit (by omega) (by decide) (by decide) (by decide)) (t_X12_costOf hl )) (fun v65 h65 => ?_)
                                refine ev_imul dX12_room_186 ?_
                                refine ev_aload_n dX12_room_187 rfl ?_
                                refine ev_iload dX12_room_188 rfl ?_
                                refine ev_eq (Option.bind_assoc _ _ _) ?_
                                refine ev_callP (am_callV (as := [.int x17.2.2]) (o := p0) (st := [.int (v64 * v65)]) cv_X12_266 dX12_room_190 kp0 rfl (am_le rfl) (am_fit (by omega) (by decide) (by decide) (by decide)) (t_X12_urgent hl kp0)) (fun v66 h66 => ?_)
                                refine ev_iconst (v := 1) dX12_room_193 (by decide) ?_
                                refine ev_iload dX12_room_194 rfl ?_
                                refine ev_iadd dX12_room_196 ?_
                                refine ev_imul dX12_room_197 ?_
                                refine ev_iadd dX12_room_198 ?_
                                exact ev_leaf (am_wk (am_wk (am_wk (am_wk (am_wk (am_wk (am_wk (am_wk (am_wf (am_wk (am_wf am_wn))))))))))) (hJ63 ((v64 * v65) + (v66 * (1 + x45.2.2))))
                              · refine ev_ldcwI (v := 1000000) dX12_room_170 (am_G_t (i := 1836) (by decide +kernel) rfl) ?_
                                refine ev_goto (tgt := 199) dX12_room_173 (by decide) ?_
                                exact ev_leaf (am_wk (am_wk (am_wk (am_wk (am_wk (am_wk (am_wk (am_wk (am_wf (am_wk (am_wf am_wn))))))))))) (hJ63 (1000000 : Int32))
                            · refine ev_istore dX12_room_199 (am_lt rfl) ?_
                              refine ev_iload dX12_room_201 rfl ?_
                              refine ev_iload dX12_room_203 rfl ?_
                              refine ev_eq am_ib ?_
                              refine ev_icmp_lt (tgt := 211) dX12_room_205 (by decide) (fun c67 => ?_) (fun c67 => ?_)
                              · refine ev_iload dX12_room_211 rfl ?_
                                refine ev_istore dX12_room_213 (am_lt rfl) ?_
                                refine ev_iload dX12_room_215 rfl ?_
                                refine ev_istore dX12_room_217 (am_lt rfl) ?_
                                exact ev_leaf (am_wk (am_wk (am_wk (am_wk (am_wk (am_wk (am_wk (am_wk (am_wf (am_wf (am_wf am_wn))))))))))) (hJ59 (v62, t63))
                              · refine ev_goto (tgt := 219) dX12_room_208 (by decide) ?_
                                exact ev_leaf (am_wk (am_wk (am_wk (am_wk (am_wk (am_wk (am_wk (am_wk (am_wf (am_wf (am_wf am_wn))))))))))) (hJ59 (x45.1, x45.2.1))
                          · refine ev_goto (tgt := 219) dX12_room_146 (by decide) ?_
                            exact ev_leaf (am_wk (am_wk (am_wk (am_wk (am_wk (am_wk (am_wk (am_wk (am_wf (am_wf (am_wf am_wn))))))))))) (hJ59 (x45.1, x45.2.1))
                      · refine ev_iinc (v := (x45.2.2 + 1)) dX12_room_219 (am_lt rfl) rfl rfl ?_
                        refine ev_goto (tgt := 116) dX12_room_222 (by decide) ?_
                        exact ev_leaf (am_wk (am_wk (am_wk (am_wk (am_wk (am_wk (am_wk (am_wk (am_wf (am_wf (am_wf am_wn))))))))))) (hB45 (t59.1, t59.2, (x45.2.2 + 1)))
                  · refine ev_iinc (v := (x17.2.2 + 1)) dX12_room_225 (am_lt rfl) rfl rfl ?_
                    refine ev_goto (tgt := 104) dX12_room_228 (by decide) ?_
                    exact ev_leaf (am_wk (am_wk (am_wk (am_wk (am_wk (am_wk (am_wk (am_wf (am_wf (am_wf (am_wf am_wn))))))))))) (hB17 (t45.1, t45.2, (x17.2.2 + 1)))
              · refine ev_iload dX12_room_231 rfl ?_
                refine ev_if_ne (tgt := 240) dX12_room_233 (by decide) (fun c68 => ?_) (fun c68 => ?_)
                · refine ev_iload_n dX12_room_240 rfl ?_
                  refine ev_if_eq (tgt := 249) dX12_room_241 (by decide) (fun c69 => ?_) (fun c69 => ?_)
                  · refine ev_iload dX12_room_249 rfl ?_
                    exact ev_iret dX12_room_251 rfl rfl (by decide) (by decide) rfl
                  · refine ev_iload dX12_room_244 rfl ?_
                    refine ev_goto (tgt := 251) dX12_room_246 (by decide) ?_
                    exact ev_iret dX12_room_251 rfl rfl (by decide) (by decide) rfl
                · refine ev_iconst (v := (-1)) dX12_room_236 (by decide) ?_
                  refine ev_goto (tgt := 251) dX12_room_237 (by decide) ?_
                  exact ev_iret dX12_room_251 rfl rfl (by decide) (by decide) rfl
          · refine ev_iconst (v := (-1)) dX12_room_66 (by decide) ?_
            exact ev_iret dX12_room_67 rfl rfl (by decide) (by decide) rfl
        · refine ev_iconst (v := 0) dX12_room_56 (by decide) ?_
          exact ev_iret dX12_room_57 rfl rfl (by decide) (by decide) rfl
def f_X12_worthOf (S : am_S) (p0 : Nat) (p1 : Int32) (p2 : Int32) (p3 : Int32) : Option (Int32) :=
  ((f_X12_isRoom S p0 p1 p3 p2).bind (fun v1 => (if v1 = 0 then some (-1000000) else ((f_X12_urgent S p0 p2).bind (fun v3 => ((f_X12_wordOf S p0 p1 p2).bind (fun v4 => ((if v4 = 0 then some (17 : Int32) else ((f_X12_wordOf S p0 p1 p2).bind (fun v6 => ((f_X12_costOf v6).bind (fun v7 => some v7))))).bind (fun t5 => ((f_X12_costOf p3).bind (fun v8 => some (v3 * (t5 - v8)))))))))))))
set_option maxRecDepth 20000 in
theorem t_X12_worthOf {E : am_E} {l : Launch} (hl : l.stackTraces = false) {S : am_S} {p0 : Nat} {p1 : Int32} {p2 : Int32} {p3 : Int32} (kp0 : am_kd p0 = 112) : am_M E l yX12_worthOf (.code yX12_worthOf cX12_worthOf 4 (some .int)) 4 0 0 [.ref p0, .int p1, .int p2, .int p3] S ((f_X12_worthOf S p0 p1 p2 p3).map (fun (v : Int32) => ((.inl (some (.int v)), S) : am_R))) := by
  refine am_M_of (w := fun (v : Int32) => ((.inl (some (.int v)), S) : am_R)) hl (by decide) (am_fc rfl (am_fc rfl (am_fc rfl (am_fc rfl am_fn)))) (Nat.le_of_ble_eq_true rfl) ?_
  show am_Ev E l (RX12, cX12_worthOf, 4, (some .int), [], am_rm 4 0 0) (fun b a s x => am_Z E 0 0 b a s ((fun (v : Int32) => ((.inl (some (.int v)), S) : am_R)) x)) 0 0 0 [some (.ref p0), some (.int p1), some (.int p2), some (.int p3)] [] S (f_X12_worthOf S p0 p1 p2 p3)
  unfold f_X12_worthOf
  refine ev_aload_n dX12_worthOf_0 rfl ?_
  refine ev_iload_n dX12_worthOf_1 rfl ?_
  refine ev_iload_n dX12_worthOf_2 rfl ?_
  refine ev_iload_n dX12_worthOf_3 rfl ?_
  refine ev_callP (am_callV (as := [.int p1, .int p3, .int p2]) (o := p0) (st := []) cv_X12_357 dX12_worthOf_4 kp0 rfl (am_le rfl) (am_fit (by omega) (by decide) (by decide) (by decide)) (t_X12_isRoom hl kp0)) (fun v1 h1 => ?_)
  refine ev_if_eq (tgt := 47) dX12_worthOf_7 (by decide) (fun c2 => ?_) (fun c2 => ?_)
  · refine ev_ldcwI (v := (-1000000)) dX12_worthOf_47 (am_G_t (i := 1917) (by decide +kernel) rfl) ?_
    exact ev_iret dX12_worthOf_50 rfl rfl (by decide) (by decide) rfl
  · refine ev_aload_n dX12_worthOf_10 rfl ?_
    refine ev_iload_n dX12_worthOf_11 rfl ?_
    refine ev_callP (am_callV (as := [.int p2]) (o := p0) (st := []) cv_X12_266 dX12_worthOf_12 kp0 rfl (am_le rfl) (am_fit (by omega) (by decide) (by decide) (by decide)) (t_X12_urgent hl kp0)) (fun v3 h3 => ?_)
    refine ev_aload_n dX12_worthOf_15 rfl ?_
    refine ev_iload_n dX12_worthOf_16 rfl ?_
    refine ev_iload_n dX12_worthOf_17 rfl ?_
    refine ev_callP (am_callV (as := [.int p1, .int p2]) (o := p0) (st := [.int v3]) cv_X12_254 dX12_worthOf_18 kp0 rfl (am_le rfl) (am_fit (by omega) (by decide) (by decide) (by decide)) (t_X12_wordOf hl kp0)) (fun v4 h4 => ?_)
    refine ev_reg (cs' := 0) (sl' := 0) 38 (fun t5 : Int32 => [none, none, none, some (.int p3)]) (fun t5 => [.int t5, .int v3]) (fun t5 => S) (fun hJ5 => ?_) (fun t5 => ?_)
    · refine ev_eq am_ib ?_
      refine ev_if_ne (tgt := 29) dX12_worthOf_21 (by decide) (fun c5 => ?_) (fun c5 => ?_)
      · refine ev_aload_n dX12_worthOf_29 rfl ?_
        refine ev_iload_n dX12_worthOf_30 rfl ?_
        refine ev_iload_n dX12_worthOf_31 rfl ?_
        refine ev_eq (Option.bind_assoc _ _ _) ?_
        refine ev_callP (am_callV (as := [.int p1, .int p2]) (o := p0) (st := [.int v3]) cv_X12_254 dX12_worthOf_32 kp0 rfl (am_le rfl) (am_fit (by omega) (by decide) (by decide) (by decide)) (t_X12_wordOf hl kp0)) (fun v6 h6 => ?_)
        refine ev_eq (Option.bind_assoc _ _ _) ?_
        refine ev_callP (am_callS (as := [.int v6]) (st := [.int v3]) ct_X12_268 dX12_worthOf_35 rfl (am_le rfl) (am_fit (by omega) (by decide) (by decide) (by decide)) (t_X12_costOf hl )) (fun v7 h7 => ?_)
        exact ev_leaf (am_wf (am_wf (am_wf (am_wk am_wn)))) (hJ5 v7)
      · refine ev_bipush (v := 17) dX12_worthOf_24 (by decide) ?_
        refine ev_goto (tgt := 38) dX12_worthOf_26 (by decide) ?_
        exact ev_leaf (am_wf (am_wf (am_wf (am_wk am_wn)))) (hJ5 (17 : Int32))
    · refine ev_iload_n dX12_worthOf_38 rfl ?_
      refine ev_callP (am_callS (as := [.int p3]) (st := [.int t5, .int v3]) ct_X12_268 dX12_worthOf_39 rfl (am_le rfl) (am_fit (by omega) (by decide) (by decide) (by decide)) (t_X12_costOf hl )) (fun v8 h8 => ?_)
      refine ev_isub dX12_worthOf_42 ?_
      refine ev_imul dX12_worthOf_43 ?_
      refine ev_goto (tgt := 50) dX12_worthOf_44 (by decide) ?_
      exact ev_iret dX12_worthOf_50 rfl rfl (by decide) (by decide) rfl
def f_X12_worth (S : am_S) (p0 : Nat) (p1 : Int32) (p2 : Int32) (p3 : Int32) : Option (Int32 × (Nat → Nat → Int32)) :=
  ((f_X12_noHouse ((am_u2 S.1 p0 0 0), S.2) p0 p1).bind (fun v1 => ((if v1 = 0 then ((f_X12_noWant ((am_u2 S.1 p0 0 0), S.2) p0 p2).bind (fun v3 => (if v3 = 0 then some (0 : Int32) else some (1 : Int32)))) else some (1 : Int32)).bind (fun t2 => ((f_X12_throwsIf ((am_u2 S.1 p0 0 0), S.2) p0 t2 1).bind (fun y5 => (if y5.1 = 0 then ((f_X12_in p3 2 511).bind (fun v7 => ((if v7 = 0 then some (1 : Int32) else some (0 : Int32)).bind (fun t8 => ((f_X12_throwsIf (y5.2, S.2) p0 t8 2).bind (fun y9 => (if y9.1 = 0 then ((f_X12_worthOf (y9.2, S.2) p0 p1 p2 p3).bind (fun v11 => some (v11, y9.2))) else some (0, y9.2)))))))) else some (0, y5.2))))))))
set_option maxRecDepth 20000 in
theorem t_X12_worth {E : am_E} {l : Launch} (hl : l.stackTraces = false) {S : am_S} {p0 : Nat} {p1 : Int32} {p2 : Int32} {p3 : Int32} (kp0 : am_kd p0 = 112) : am_M E l yX12_worth (.code yX12_worth cX12_worth 4 (some .int)) 5 0 0 [.ref p0, .int p1, .int p2, .int p3] S ((f_X12_worth S p0 p1 p2 p3).map (fun (x : Int32 × (Nat → Nat → Int32)) => ((.inl (some (.int x.1)), (x.2, S.2)) : am_R))) := by
  refine am_M_of (w := fun (x : Int32 × (Nat → Nat → Int32)) => ((.inl (some (.int x.1)), (x.2, S.2)) : am_R)) hl (by decide) (am_fc rfl (am_fc rfl (am_fc rfl (am_fc rfl am_fn)))) (Nat.le_of_ble_eq_true rfl) ?_
  show am_Ev E l (RX12, cX12_worth, 4, (some .int), [], am_rm 5 0 0) (fun b a s x => am_Z E 0 0 b a s ((fun (x : Int32 × (Nat → Nat → Int32)) => ((.inl (some (.int x.1)), (x.2, S.2)) : am_R)) x)) 0 0 0 [some (.ref p0), some (.int p1), some (.int p2), some (.int p3)] [] S (f_X12_worth S p0 p1 p2 p3)
  unfold f_X12_worth
  refine ev_aload_n dX12_worth_0 rfl ?_
  refine ev_iconst (v := 0) dX12_worth_1 (by decide) ?_
  refine ev_putI fk_X12_3 tyX12 tyX12_ok nmX12 rfl (by decide +kernel) (by decide) dX12_worth_2 kp0 ?_
  refine ev_aload_n dX12_worth_5 rfl ?_
  refine ev_aload_n dX12_worth_6 rfl ?_
  refine ev_iload_n dX12_worth_7 rfl ?_
  refine ev_callP (am_callV (as := [.int p1]) (o := p0) (st := [.ref p0]) cv_X12_257 dX12_worth_8 kp0 rfl (am_le rfl) (am_fit (by omega) (by decide) (by decide) (by decide)) (t_X12_noHouse hl kp0)) (fun v1 h1 => ?_)
  refine ev_reg (cs' := 0) (sl' := 0) 27 (fun t2 : Int32 => [some (.ref p0), some (.int p1), some (.int p2), some (.int p3)]) (fun t2 => [.int t2, .ref p0]) (fun t2 => ((am_u2 S.1 p0 0 0), S.2)) (fun hJ2 => ?_) (fun t2 => ?_)
  · refine ev_eq am_ib ?_
    refine ev_if_ne (tgt := 22) dX12_worth_11 (by decide) (fun c2 => ?_) (fun c2 => ?_)
    · refine ev_iconst (v := 1) dX12_worth_22 (by decide) ?_
      refine ev_goto (tgt := 27) dX12_worth_23 (by decide) ?_
      exact ev_leaf (am_wk (am_wk (am_wk (am_wk am_wn)))) (hJ2 (1 : Int32))
    · refine ev_aload_n dX12_worth_14 rfl ?_
      refine ev_iload_n dX12_worth_15 rfl ?_
      refine ev_eq (Option.bind_assoc _ _ _) ?_
      refine ev_callP (am_callV (as := [.int p2]) (o := p0) (st := [.ref p0]) cv_X12_263 dX12_worth_16 kp0 rfl (am_le rfl) (am_fit (by omega) (by decide) (by decide) (by decide)) (t_X12_noWant hl kp0)) (fun v3 h3 => ?_)
      refine ev_eq am_ib ?_
      refine ev_if_eq (tgt := 26) dX12_worth_19 (by decide) (fun c4 => ?_) (fun c4 => ?_)
      · refine ev_iconst (v := 0) dX12_worth_26 (by decide) ?_
        exact ev_leaf (am_wk (am_wk (am_wk (am_wk am_wn)))) (hJ2 (0 : Int32))
      · refine ev_iconst (v := 1) dX12_worth_22 (by decide) ?_
        refine ev_goto (tgt := 27) dX12_worth_23 (by decide) ?_
        exact ev_leaf (am_wk (am_wk (am_wk (am_wk am_wn)))) (hJ2 (1 : Int32))
  · refine ev_iconst (v := 1) dX12_worth_27 (by decide) ?_
    refine ev_callWI (am_callV (as := [.int t2, .int 1]) (o := p0) (st := []) cv_X12_242 dX12_worth_28 kp0 rfl (am_le rfl) (am_fit (by omega) (by decide) (by decide) (by decide)) (t_X12_throwsIf hl kp0)) (fun y5 h5 => ?_)
    refine ev_if_ne (tgt := 58) dX12_worth_31 (by decide) (fun c6 => ?_) (fun c6 => ?_)
    · refine ev_iconst (v := 0) dX12_worth_58 (by decide) ?_
      refine ev_goto (tgt := 69) dX12_worth_59 (by decide) ?_
      exact ev_iret dX12_worth_69 rfl rfl (by decide) (by decide) rfl
    · refine ev_aload_n dX12_worth_34 rfl ?_
      refine ev_iload_n dX12_worth_35 rfl ?_
      refine ev_iconst (v := 2) dX12_worth_36 (by decide) ?_
      refine ev_sipush (v := 511) dX12_worth_37 (by decide) ?_
      refine ev_callP (am_callS (as := [.int p3, .int 2, .int 511]) (st := [.ref p0]) ct_X12_78 dX12_worth_40 rfl (am_le rfl) (am_fit (by omega) (by decide) (by decide) (by decide)) (t_X12_in hl )) (fun v7 h7 => ?_)
      refine ev_reg (cs' := 0) (sl' := 0) 51 (fun t8 : Int32 => [some (.ref p0), some (.int p1), some (.int p2), some (.int p3)]) (fun t8 => [.int t8, .ref p0]) (fun t8 => (y5.2, S.2)) (fun hJ8 => ?_) (fun t8 => ?_)
      · refine ev_eq am_ib ?_
        refine ev_if_ne (tgt := 50) dX12_worth_43 (by decide) (fun c8 => ?_) (fun c8 => ?_)
        · refine ev_iconst (v := 0) dX12_worth_50 (by decide) ?_
          exact ev_leaf (am_wk (am_wk (am_wk (am_wk am_wn)))) (hJ8 (0 : Int32))
        · refine ev_iconst (v := 1) dX12_worth_46 (by decide) ?_
          refine ev_goto (tgt := 51) dX12_worth_47 (by decide) ?_
          exact ev_leaf (am_wk (am_wk (am_wk (am_wk am_wn)))) (hJ8 (1 : Int32))
      · refine ev_iconst (v := 2) dX12_worth_51 (by decide) ?_
        refine ev_callWI (am_callV (as := [.int t8, .int 2]) (o := p0) (st := []) cv_X12_242 dX12_worth_52 kp0 rfl (am_le rfl) (am_fit (by omega) (by decide) (by decide) (by decide)) (t_X12_throwsIf hl kp0)) (fun y9 h9 => ?_)
        refine ev_if_eq (tgt := 62) dX12_worth_55 (by decide) (fun c10 => ?_) (fun c10 => ?_)
        · refine ev_aload_n dX12_worth_62 rfl ?_
          refine ev_iload_n dX12_worth_63 rfl ?_
          refine ev_iload_n dX12_worth_64 rfl ?_
          refine ev_iload_n dX12_worth_65 rfl ?_
          refine ev_callP (am_callV (as := [.int p1, .int p2, .int p3]) (o := p0) (st := []) cv_X12_364 dX12_worth_66 kp0 rfl (am_le rfl) (am_fit (by omega) (by decide) (by decide) (by decide)) (t_X12_worthOf hl kp0)) (fun v11 h11 => ?_)
          exact ev_iret dX12_worth_69 rfl rfl (by decide) (by decide) rfl
        · refine ev_iconst (v := 0) dX12_worth_58 (by decide) ?_
          refine ev_goto (tgt := 69) dX12_worth_59 (by decide) ?_
          exact ev_iret dX12_worth_69 rfl rfl (by decide) (by decide) rfl
def f_X12_sale_b53 (S : am_S) (a0 : Nat) (a1 : Int32) (a2 : Int32) (a3 : Int32) (x8 : Int32 × Int32 × Int32) : Option ((Int32 × Int32 × Int32) ⊕ (Int32)) :=
  ((f_X12_houses S a0).bind (fun v9 => (if x8.2.2 < v9 then ((f_X12_worthOf S a0 x8.2.2 a1 a2).bind (fun v11 => ((if x8.2.1 < v11 then some x8.2.2 else some x8.1).bind (fun t12 => ((f_J9_max_7cf53 x8.2.1 v11).bind (fun v13 => some (.inl (t12, v13, (x8.2.2 + 1))))))))) else some (.inr x8.1))))
def f_X12_sale_b109 (S : am_S) (a0 : Nat) (a1 : Int32) (a2 : Int32) (a3 : Int32) (a4 : Int32) (x19 : Int32 × Int32) : Option ((Int32 × Int32) ⊕ (Int32)) :=
  ((f_X12_houses S a0).bind (fun v20 => (if x19.2 < v20 then ((if x19.2 = a4 then some x19.1 else ((f_X12_worthOf S a0 x19.2 a1 a2).bind (fun v23 => ((f_J9_max_7cf53 x19.1 v23).bind (fun v24 => some v24))))).bind (fun t22 => some (.inl (t22, (x19.2 + 1))))) else some (.inr x19.1))))
def f_X12_sale (S : am_S) (p0 : Nat) (p1 : Int32) (p2 : Int32) (p3 : Int32) : Option (Int32 × (Nat → Nat → Int32)) :=
  ((f_X12_noWant ((am_u2 S.1 p0 0 0), S.2) p0 p1).bind (fun v1 => ((f_X12_throwsIf ((am_u2 S.1 p0 0 0), S.2) p0 v1 1).bind (fun y2 => (if y2.1 = 0 then ((f_X12_in p2 2 511).bind (fun v4 => ((if v4 = 0 then some (1 : Int32) else some (0 : Int32)).bind (fun t5 => ((f_X12_throwsIf (y2.2, S.2) p0 t5 2).bind (fun y6 => (if y6.1 = 0 then ((am_loop (f_X12_sale_b53 (y6.2, S.2) p0 p1 p2 p3) am_fuel ((-1), 0, 0)).bind (fun t8 => ((am_loop (f_X12_sale_b109 (y6.2, S.2) p0 p1 p2 p3 t8) am_fuel (0, 0)).bind (fun t19 => (if t8 < 0 then some (t8, y6.2) else (if p3 = 0 then some (t8, y6.2) else some (t19, y6.2))))))) else some (0, y6.2)))))))) else some (0, y2.2))))))
set_option maxRecDepth 20000 in
theorem t_X12_sale {E : am_E} {l : Launch} (hl : l.stackTraces = false) {S : am_S} {p0 : Nat} {p1 : Int32} {p2 : Int32} {p3 : Int32} (kp0 : am_kd p0 = 112) : am_M E l yX12_sale (.code yX12_sale cX12_sale 8 (some .int)) 5 0 0 [.ref p0, .int p1, .int p2, .int p3] S ((f_X12_sale S p0 p1 p2 p3).map (fun (x : Int32 × (Nat → Nat → Int32)) => ((.inl (some (.int x.1)), (x.2, S.2)) : am_R))) := by
  refine am_M_of (w := fun (x : Int32 × (Nat → Nat → Int32)) => ((.inl (some (.int x.1)), (x.2, S.2)) : am_R)) hl (by decide) (am_fc rfl (am_fc rfl (am_fc rfl (am_fc rfl am_fn)))) (Nat.le_of_ble_eq_true rfl) ?_
  show am_Ev E l (RX12, cX12_sale, 8, (some .int), [], am_rm 5 0 0) (fun b a s x => am_Z E 0 0 b a s ((fun (x : Int32 × (Nat → Nat → Int32)) => ((.inl (some (.int x.1)), (x.2, S.2)) : am_R)) x)) 0 0 0 [some (.ref p0), some (.int p1), some (.int p2), some (.int p3), none, none, none, none] [] S (f_X12_sale S p0 p1 p2 p3)
  unfold f_X12_sale
  refine ev_aload_n dX12_sale_0 rfl ?_
  refine ev_iconst (v := 0) dX12_sale_1 (by decide) ?_
  refine ev_putI fk_X12_3 tyX12 tyX12_ok nmX12 rfl (by decide +kernel) (by decide) dX12_sale_2 kp0 ?_
  refine ev_aload_n dX12_sale_5 rfl ?_
  refine ev_aload_n dX12_sale_6 rfl ?_
  refine ev_iload_n dX12_sale_7 rfl ?_
  refine ev_callP (am_callV (as := [.int p1]) (o := p0) (st := [.ref p0]) cv_X12_263 dX12_sale_8 kp0 rfl (am_le rfl) (am_fit (by omega) (by decide) (by decide) (by decide)) (t_X12_noWant hl kp0)) (fun v1 h1 => ?_)
  refine ev_iconst (v := 1) dX12_sale_11 (by decide) ?_
  refine ev_callWI (am_callV (as := [.int v1, .int 1]) (o := p0) (st := []) cv_X12_242 dX12_sale_12 kp0 rfl (am_le rfl) (am_fit (by omega) (by decide) (by decide) (by decide)) (t_X12_throwsIf hl kp0)) (fun y2 h2 => ?_)
  refine ev_if_ne (tgt := 42) dX12_sale_15 (by decide) (fun c3 => ?_) (fun c3 => ?_)
  · refine ev_iconst (v := 0) dX12_sale_42 (by decide) ?_
    exact ev_iret dX12_sale_43 rfl rfl (by decide) (by decide) rfl
  · refine ev_aload_n dX12_sale_18 rfl ?_
    refine ev_iload_n dX12_sale_19 rfl ?_
    refine ev_iconst (v := 2) dX12_sale_20 (by decide) ?_
    refine ev_sipush (v := 511) dX12_sale_21 (by decide) ?_
    refine ev_callP (am_callS (as := [.int p2, .int 2, .int 511]) (st := [.ref p0]) ct_X12_78 dX12_sale_24 rfl (am_le rfl) (am_fit (by omega) (by decide) (by decide) (by decide)) (t_X12_in hl )) (fun v4 h4 => ?_)
    refine ev_reg (cs' := 0) (sl' := 0) 35 (fun t5 : Int32 => [some (.ref p0), some (.int p1), some (.int p2), some (.int p3), none, none, none, none]) (fun t5 => [.int t5, .ref p0]) (fun t5 => (y2.2, S.2)) (fun hJ5 => ?_) (fun t5 => ?_)
    · refine ev_eq am_ib ?_
      refine ev_if_ne (tgt := 34) dX12_sale_27 (by decide) (fun c5 => ?_) (fun c5 => ?_)
      · refine ev_iconst (v := 0) dX12_sale_34 (by decide) ?_
        exact ev_leaf (am_wk (am_wk (am_wk (am_wk (am_wf (am_wf (am_wf (am_wf am_wn)))))))) (hJ5 (0 : Int32))
      · refine ev_iconst (v := 1) dX12_sale_30 (by decide) ?_
        refine ev_goto (tgt := 35) dX12_sale_31 (by decide) ?_
        exact ev_leaf (am_wk (am_wk (am_wk (am_wk (am_wf (am_wf (am_wf (am_wf am_wn)))))))) (hJ5 (1 : Int32))
    · refine ev_iconst (v := 2) dX12_sale_35 (by decide) ?_
      refine ev_callWI (am_callV (as := [.int t5, .int 2]) (o := p0) (st := []) cv_X12_242 dX12_sale_36 kp0 rfl (am_le rfl) (am_fit (by omega) (by decide) (by decide) (by decide)) (t_X12_throwsIf hl kp0)) (fun y6 h6 => ?_)
      refine ev_if_eq (tgt := 44) dX12_sale_39 (by decide) (fun c7 => ?_) (fun c7 => ?_)
      · refine ev_iconst (v := (-1)) dX12_sale_44 (by decide) ?_
        refine ev_istore dX12_sale_45 (am_lt rfl) ?_
        refine ev_iconst (v := 0) dX12_sale_47 (by decide) ?_
        refine ev_istore dX12_sale_48 (am_lt rfl) ?_
        refine ev_iconst (v := 0) dX12_sale_50 (by decide) ?_
        refine ev_istore dX12_sale_51 (am_lt rfl) ?_
        refine ev_weak (am_wk (am_wk (am_wk (am_wk (am_wk (am_wk (am_wk (am_wf am_wn)))))))) (ev_loop 53 103 (fun x8 : Int32 × Int32 × Int32 => [some (.ref p0), some (.int p1), some (.int p2), some (.int p3), some (.int x8.1), some (.int x8.2.1), some (.int x8.2.2), none]) (fun t8 : Int32 => [some (.ref p0), some (.int p1), some (.int p2), some (.int p3), some (.int t8), none, none, none]) (fun x8 => (y6.2, S.2)) (fun t8 => (y6.2, S.2)) (fun x8 G8 hB8 hE8 => ?_) (fun t8 => ?_) am_fuel ((-1), 0, 0))
        · unfold f_X12_sale_b53
          refine ev_iload dX12_sale_53 rfl ?_
          refine ev_aload_n dX12_sale_55 rfl ?_
          refine ev_eq (Option.bind_assoc _ _ _) ?_
          refine ev_callP (am_callV (as := []) (o := p0) (st := [.int x8.2.2]) cv_X12_74 dX12_sale_56 kp0 rfl (am_le rfl) (am_fit (by omega) (by decide) (by decide) (by decide)) (t_X12_houses hl kp0)) (fun v14 h14 => ?_)
          refine ev_eq am_ib ?_
          refine ev_icmp_ge (tgt := 103) dX12_sale_59 (by decide) (fun c15 => ?_) (fun c15 => ?_)
          · exact ev_leaf (am_wk (am_wk (am_wk (am_wk (am_wk (am_wf (am_wf (am_wf am_wn)))))))) (hE8 x8.1)
          · refine ev_aload_n dX12_sale_62 rfl ?_
            refine ev_iload dX12_sale_63 rfl ?_
            refine ev_iload_n dX12_sale_65 rfl ?_
            refine ev_iload_n dX12_sale_66 rfl ?_
            refine ev_eq (Option.bind_assoc _ _ _) ?_
            refine ev_callP (am_callV (as := [.int x8.2.2, .int p1, .int p2]) (o := p0) (st := []) cv_X12_364 dX12_sale_67 kp0 rfl (am_le rfl) (am_fit (by omega) (by decide) (by decide) (by decide)) (t_X12_worthOf hl kp0)) (fun v16 h16 => ?_)
            refine ev_istore dX12_sale_70 (am_lt rfl) ?_
            refine ev_iload dX12_sale_72 rfl ?_
            refine ev_iload dX12_sale_74 rfl ?_
            refine ev_eq (Option.bind_assoc _ _ _) ?_
            refine ev_reg (cs' := 0) (sl' := 0) 86 (fun t17 : Int32 => [some (.ref p0), some (.int p1), some (.int p2), some (.int p3), none, some (.int x8.2.1), some (.int x8.2.2), some (.int v16)]) (fun t17 => [.int t17]) (fun t17 => (y6.2, S.2)) (fun hJ17 => ?_) (fun t17 => ?_)
            · refine ev_eq am_ib ?_
              refine ev_icmp_le (tgt := 84) dX12_sale_76 (by decide) (fun c17 => ?_) (fun c17 => ?_)
              · refine ev_iload dX12_sale_84 rfl ?_
                exact ev_leaf (am_wk (am_wk (am_wk (am_wk (am_wf (am_wk (am_wk (am_wk am_wn)))))))) (hJ17 x8.1)
              · refine ev_iload dX12_sale_79 rfl ?_
                refine ev_goto (tgt := 86) dX12_sale_81 (by decide) ?_
                exact ev_leaf (am_wk (am_wk (am_wk (am_wk (am_wf (am_wk (am_wk (am_wk am_wn)))))))) (hJ17 x8.2.2)
            · refine ev_istore dX12_sale_86 (am_lt rfl) ?_
              refine ev_iload dX12_sale_88 rfl ?_
              refine ev_iload dX12_sale_90 rfl ?_
              refine ev_eq (Option.bind_assoc _ _ _) ?_
              refine ev_callP (am_callS (as := [.int x8.2.1, .int v16]) (st := []) ct_X12_94 dX12_sale_92 rfl (am_le rfl) (am_fit (by omega) (by decide) (by decide) (by decide)) (t_J9_max_7cf53 hl )) (fun v18 h18 => ?_)
              refine ev_istore dX12_sale_95 (am_lt rfl) ?_
              refine ev_iinc (v := (x8.2.2 + 1)) dX12_sale_97 (am_lt rfl) rfl rfl ?_
              refine ev_goto (tgt := 53) dX12_sale_100 (by decide) ?_
              exact ev_leaf (am_wk (am_wk (am_wk (am_wk (am_wk (am_wk (am_wk (am_wf am_wn)))))))) (hB8 (t17, v18, (x8.2.2 + 1)))
        · refine ev_iconst (v := 0) dX12_sale_103 (by decide) ?_
          refine ev_istore dX12_sale_104 (am_lt rfl) ?_
          refine ev_iconst (v := 0) dX12_sale_106 (by decide) ?_
          refine ev_istore dX12_sale_107 (am_lt rfl) ?_
          refine ev_weak (am_wk (am_wk (am_wk (am_wk (am_wk (am_wf (am_wk (am_wk am_wn)))))))) (ev_loop 109 151 (fun x19 : Int32 × Int32 => [some (.ref p0), some (.int p1), some (.int p2), some (.int p3), some (.int t8), none, some (.int x19.1), some (.int x19.2)]) (fun t19 : Int32 => [none, none, none, some (.int p3), some (.int t8), none, some (.int t19), none]) (fun x19 => (y6.2, S.2)) (fun t19 => (y6.2, S.2)) (fun x19 G19 hB19 hE19 => ?_) (fun t19 => ?_) am_fuel (0, 0))
          · unfold f_X12_sale_b109
            refine ev_iload dX12_sale_109 rfl ?_
            refine ev_aload_n dX12_sale_111 rfl ?_
            refine ev_eq (Option.bind_assoc _ _ _) ?_
            refine ev_callP (am_callV (as := []) (o := p0) (st := [.int x19.2]) cv_X12_74 dX12_sale_112 kp0 rfl (am_le rfl) (am_fit (by omega) (by decide) (by decide) (by decide)) (t_X12_houses hl kp0)) (fun v25 h25 => ?_)
            refine ev_eq am_ib ?_
            refine ev_icmp_ge (tgt := 151) dX12_sale_115 (by decide) (fun c26 => ?_) (fun c26 => ?_)
            · exact ev_leaf (am_wf (am_wf (am_wf (am_wk (am_wk (am_wf (am_wk (am_wf am_wn)))))))) (hE19 x19.1)
            · refine ev_iload dX12_sale_118 rfl ?_
              refine ev_iload dX12_sale_120 rfl ?_
              refine ev_eq (Option.bind_assoc _ _ _) ?_
              refine ev_reg (cs' := 0) (sl' := 0) 143 (fun t27 : Int32 => [some (.ref p0), some (.int p1), some (.int p2), some (.int p3), some (.int t8), none, none, some (.int x19.2)]) (fun t27 => [.int t27]) (fun t27 => (y6.2, S.2)) (fun hJ27 => ?_) (fun t27 => ?_)
              · refine ev_eq am_ib ?_
                refine ev_icmp_ne (tgt := 130) dX12_sale_122 (by decide) (fun c27 => ?_) (fun c27 => ?_)
                · refine ev_iload dX12_sale_130 rfl ?_
                  refine ev_aload_n dX12_sale_132 rfl ?_
                  refine ev_iload dX12_sale_133 rfl ?_
                  refine ev_iload_n dX12_sale_135 rfl ?_
                  refine ev_iload_n dX12_sale_136 rfl ?_
                  refine ev_eq (Option.bind_assoc _ _ _) ?_
                  refine ev_callP (am_callV (as := [.int x19.2, .int p1, .int p2]) (o := p0) (st := [.int x19.1]) cv_X12_364 dX12_sale_137 kp0 rfl (am_le rfl) (am_fit (by omega) (by decide) (by decide) (by decide)) (t_X12_worthOf hl kp0)) (fun v28 h28 => ?_)
                  refine ev_eq (Option.bind_assoc _ _ _) ?_
                  refine ev_callP (am_callS (as := [.int x19.1, .int v28]) (st := []) ct_X12_94 dX12_sale_140 rfl (am_le rfl) (am_fit (by omega) (by decide) (by decide) (by decide)) (t_J9_max_7cf53 hl )) (fun v29 h29 => ?_)
                  exact ev_leaf (am_wk (am_wk (am_wk (am_wk (am_wk (am_wf (am_wf (am_wk am_wn)))))))) (hJ27 v29)
                · refine ev_iload dX12_sale_125 rfl ?_
                  refine ev_goto (tgt := 143) dX12_sale_127 (by decide) ?_
                  exact ev_leaf (am_wk (am_wk (am_wk (am_wk (am_wk (am_wf (am_wf (am_wk am_wn)))))))) (hJ27 x19.1)
              · refine ev_istore dX12_sale_143 (am_lt rfl) ?_
                refine ev_iinc (v := (x19.2 + 1)) dX12_sale_145 (am_lt rfl) rfl rfl ?_
                refine ev_goto (tgt := 109) dX12_sale_148 (by decide) ?_
                exact ev_leaf (am_wk (am_wk (am_wk (am_wk (am_wk (am_wf (am_wk (am_wk am_wn)))))))) (hB19 (t27, (x19.2 + 1)))
          · refine ev_iload dX12_sale_151 rfl ?_
            refine ev_if_lt (tgt := 160) dX12_sale_153 (by decide) (fun c30 => ?_) (fun c30 => ?_)
            · refine ev_iload dX12_sale_160 rfl ?_
              refine ev_goto (tgt := 167) dX12_sale_162 (by decide) ?_
              exact ev_iret dX12_sale_167 rfl rfl (by decide) (by decide) rfl
            · refine ev_iload_n dX12_sale_156 rfl ?_
              refine ev_if_ne (tgt := 165) dX12_sale_157 (by decide) (fun c31 => ?_) (fun c31 => ?_)
              · refine ev_iload dX12_sale_165 rfl ?_
                exact ev_iret dX12_sale_167 rfl rfl (by decide) (by decide) rfl
              · refine ev_iload dX12_sale_160 rfl ?_
                refine ev_goto (tgt := 167) dX12_sale_162 (by decide) ?_
                exact ev_iret dX12_sale_167 rfl rfl (by decide) (by decide) rfl
      · refine ev_iconst (v := 0) dX12_sale_42 (by decide) ?_
        exact ev_iret dX12_sale_43 rfl rfl (by decide) (by decide) rfl
def f_X12_kindOf_b2 (S : am_S) (a0 : Nat) (a1 : Int32) (x1 : Int32) : Option ((Int32) ⊕ ((Unit) ⊕ (Int32))) :=
  (if x1 < (S.1 a0 26) then ((am_rd S.2 a0 23 1).bind (fun q3 => ((am_ld S.1 q3 x1).bind (fun v4 => (if v4 = a1 then some (.inr (.inr x1)) else some (.inl (x1 + 1))))))) else some (.inr (.inr (-1))))
def f_X12_kindOf (S : am_S) (p0 : Nat) (p1 : Int32) : Option (Int32) :=
  ((am_loop (f_X12_kindOf_b2 S p0 p1) am_fuel 0).bind (fun r1 => match r1 with | .inl t1 => none | .inr b1 => some b1))
set_option maxRecDepth 20000 in
theorem t_X12_kindOf {E : am_E} {l : Launch} (hl : l.stackTraces = false) {S : am_S} {p0 : Nat} {p1 : Int32} (kp0 : am_kd p0 = 112) : am_M E l yX12_kindOf (.code yX12_kindOf cX12_kindOf 3 (some .int)) 0 0 0 [.ref p0, .int p1] S ((f_X12_kindOf S p0 p1).map (fun (v : Int32) => ((.inl (some (.int v)), S) : am_R))) := by
  refine am_M_of (w := fun (v : Int32) => ((.inl (some (.int v)), S) : am_R)) hl (by decide) (am_fc rfl (am_fc rfl am_fn)) (Nat.le_of_ble_eq_true rfl) ?_
  show am_Ev E l (RX12, cX12_kindOf, 3, (some .int), [], am_rm 0 0 0) (fun b a s x => am_Z E 0 0 b a s ((fun (v : Int32) => ((.inl (some (.int v)), S) : am_R)) x)) 0 0 0 [some (.ref p0), some (.int p1), none] [] S (f_X12_kindOf S p0 p1)
  unfold f_X12_kindOf
  refine ev_iconst (v := 0) dX12_kindOf_0 (by decide) ?_
  refine ev_istore_n dX12_kindOf_1 (am_lt rfl) ?_
  refine ev_weak (am_wk (am_wk (am_wk am_wn))) (ev_loopR 2 0 (fun x1 : Int32 => [some (.ref p0), some (.int p1), some (.int x1)]) (fun t1 : Unit => [none, none, none]) (fun x1 => S) (fun t1 => S) (fun x1 G1 hB1 hE1 hG1 => ?_) (fun t1 => ?_) am_fuel 0)
  · unfold f_X12_kindOf_b2
    refine ev_iload_n dX12_kindOf_2 rfl ?_
    refine ev_aload_n dX12_kindOf_3 rfl ?_
    refine ev_get fk_X12_370 dX12_kindOf_4 kp0 (am_fvI (by decide)) ?_
    refine ev_eq am_ib ?_
    refine ev_icmp_ge (tgt := 28) dX12_kindOf_7 (by decide) (fun c6 => ?_) (fun c6 => ?_)
    · refine ev_iconst (v := (-1)) dX12_kindOf_28 (by decide) ?_
      exact ev_eq (hG1 _) (ev_iret dX12_kindOf_29 rfl rfl (by decide) (by decide) rfl)
    · refine ev_aload_n dX12_kindOf_10 rfl ?_
      refine ev_eq (Option.bind_assoc _ _ _) ?_
      refine ev_getR fk_X12_57 (by decide) dX12_kindOf_11 kp0 (fun q7 k7 r7 => ?_)
      refine ev_iload_n dX12_kindOf_14 rfl ?_
      refine ev_eq (Option.bind_assoc _ _ _) ?_
      refine ev_iald dX12_kindOf_15 k7 (fun v8 h8 => ?_)
      refine ev_iload_n dX12_kindOf_16 rfl ?_
      refine ev_eq am_ib ?_
      refine ev_icmp_ne (tgt := 22) dX12_kindOf_17 (by decide) (fun c9 => ?_) (fun c9 => ?_)
      · refine ev_iinc (v := (x1 + 1)) dX12_kindOf_22 (am_lt rfl) rfl rfl ?_
        refine ev_goto (tgt := 2) dX12_kindOf_25 (by decide) ?_
        exact ev_leaf (am_wk (am_wk (am_wk am_wn))) (hB1 (x1 + 1))
      · refine ev_iload_n dX12_kindOf_20 rfl ?_
        exact ev_eq (hG1 _) (ev_iret dX12_kindOf_21 rfl rfl (by decide) (by decide) rfl)
  · exact ev_none
def f_X12_isRow_b5 (S : am_S) (a0 : Nat) (x1 : (Nat → Nat → Int32)) : Option (((Nat → Nat → Int32)) ⊕ ((Nat → Nat → Int32))) :=
  (if (x1 a0 27) < (x1 a0 8) then ((am_rd S.2 a0 5 2).bind (fun q3 => ((am_ld x1 q3 (x1 a0 27)).bind (fun v4 => (if v4 = 97 then some (.inl (am_u2 x1 a0 27 ((x1 a0 27) + 1))) else ((am_rd S.2 a0 5 2).bind (fun q6 => ((am_ld x1 q6 (x1 a0 27)).bind (fun v7 => (if v7 = 98 then some (.inl (am_u2 x1 a0 27 ((x1 a0 27) + 1))) else some (.inr x1))))))))))) else some (.inr x1))
def f_X12_isRow_b120 (S : am_S) (a0 : Nat) (x23 : Int32 × (Nat → Nat → Int32)) : Option ((Int32 × (Nat → Nat → Int32)) ⊕ (((Nat → Nat → Int32)) ⊕ (Int32 × (Nat → Nat → Int32)))) :=
  (if x23.1 < (x23.2 a0 8) then ((am_rd S.2 a0 5 2).bind (fun q25 => ((am_ld x23.2 q25 x23.1).bind (fun v26 => (if v26 < 65 then some (.inr (.inr (0, x23.2))) else ((am_rd S.2 a0 5 2).bind (fun q28 => ((am_ld x23.2 q28 x23.1).bind (fun v29 => (if 90 < v29 then some (.inr (.inr (0, x23.2))) else ((am_rd S.2 a0 5 2).bind (fun q31 => ((am_ld x23.2 q31 x23.1).bind (fun v32 => ((f_X12_kindOf (x23.2, S.2) a0 v32).bind (fun v33 => (if v33 < 0 then (if (x23.2 a0 26) = 3 then some (.inr (.inr (0, x23.2))) else ((am_rd S.2 a0 23 1).bind (fun q36 => ((am_rd S.2 a0 5 2).bind (fun q37 => ((am_ld x23.2 q37 x23.1).bind (fun v38 => ((am_st x23.2 q36 (x23.2 a0 26) v38).bind (fun σ39 => some (.inl ((x23.1 + 1), (am_u2 σ39 a0 26 ((σ39 a0 26) + 1))))))))))))) else some (.inl ((x23.1 + 1), x23.2))))))))))))))))))) else some (.inr (.inr (1, x23.2))))
def f_X12_isRow (S : am_S) (p0 : Nat) : Option (Int32 × (Nat → Nat → Int32)) :=
  ((am_loop (f_X12_isRow_b5 ((am_u2 S.1 p0 27 0), S.2) p0) am_fuel (am_u2 S.1 p0 27 0)).bind (fun t1 => ((f_X12_in (t1 p0 27) 1 20).bind (fun v16 => (if v16 = 0 then some (0, t1) else ((f_X12_in (((t1 p0 8) - (t1 p0 27)) - 1) 1 6).bind (fun v18 => (if v18 = 0 then some (0, t1) else ((am_rd S.2 p0 5 2).bind (fun q20 => ((am_ld t1 q20 (t1 p0 27)).bind (fun v21 => (if v21 = 32 then ((am_loop (f_X12_isRow_b120 ((am_u2 t1 p0 26 0), S.2) p0) am_fuel ((((am_u2 t1 p0 26 0) p0 27) + 1), (am_u2 t1 p0 26 0))).bind (fun r23 => match r23 with | .inl t23 => none | .inr b23 => some b23)) else some (0, t1))))))))))))))
set_option maxRecDepth 20000 in
theorem t_X12_isRow {E : am_E} {l : Launch} (hl : l.stackTraces = false) {S : am_S} {p0 : Nat} (kp0 : am_kd p0 = 112) : am_M E l yX12_isRow (.code yX12_isRow cX12_isRow 3 (some .boolean)) 1 0 0 [.ref p0] S ((f_X12_isRow S p0).map (fun (x : Int32 × (Nat → Nat → Int32)) => ((.inl (some (.int x.1)), (x.2, S.2)) : am_R))) := by
  refine am_M_of (w := fun (x : Int32 × (Nat → Nat → Int32)) => ((.inl (some (.int x.1)), (x.2, S.2)) : am_R)) hl (by decide) (am_fc rfl am_fn) (Nat.le_of_ble_eq_true rfl) ?_
  show am_Ev E l (RX12, cX12_isRow, 3, (some .boolean), [], am_rm 1 0 0) (fun b a s x => am_Z E 0 0 b a s ((fun (x : Int32 × (Nat → Nat → Int32)) => ((.inl (some (.int x.1)), (x.2, S.2)) : am_R)) x)) 0 0 0 [some (.ref p0), none, none] [] S (f_X12_isRow S p0)
  unfold f_X12_isRow
  refine ev_aload_n dX12_isRow_0 rfl ?_
  refine ev_iconst (v := 0) dX12_isRow_1 (by decide) ?_
  refine ev_putI fk_X12_367 tyX12 tyX12_ok nmX12 rfl (by decide +kernel) (by decide) dX12_isRow_2 kp0 ?_
  refine ev_weak (am_wk (am_wf (am_wf am_wn))) (ev_loop 5 57 (fun x1 : (Nat → Nat → Int32) => [some (.ref p0), none, none]) (fun t1 : (Nat → Nat → Int32) => [some (.ref p0), none, none]) (fun x1 => (x1, S.2)) (fun t1 => (t1, S.2)) (fun x1 G1 hB1 hE1 => ?_) (fun t1 => ?_) am_fuel (am_u2 S.1 p0 27 0))
  · unfold f_X12_isRow_b5
    refine ev_aload_n dX12_isRow_5 rfl ?_
    refine ev_get fk_X12_367 dX12_isRow_6 kp0 (am_fvI (by decide)) ?_
    refine ev_aload_n dX12_isRow_9 rfl ?_
    refine ev_get fk_X12_108 dX12_isRow_10 kp0 (am_fvI (by decide)) ?_
    refine ev_eq am_ib ?_
    refine ev_icmp_ge (tgt := 57) dX12_isRow_13 (by decide) (fun c9 => ?_) (fun c9 => ?_)
    · exact ev_leaf (am_wk (am_wf (am_wf am_wn))) (hE1 x1)
    · refine ev_aload_n dX12_isRow_16 rfl ?_
      refine ev_eq (Option.bind_assoc _ _ _) ?_
      refine ev_getR fk_X12_23 (by decide) dX12_isRow_17 kp0 (fun q10 k10 r10 => ?_)
      refine ev_aload_n dX12_isRow_20 rfl ?_
      refine ev_get fk_X12_367 dX12_isRow_21 kp0 (am_fvI (by decide)) ?_
      refine ev_eq (Option.bind_assoc _ _ _) ?_
      refine ev_bald dX12_isRow_24 k10 (fun v11 h11 => ?_)
      refine ev_bipush (v := 97) dX12_isRow_25 (by decide) ?_
      refine ev_eq am_ib ?_
      refine ev_icmp_eq (tgt := 44) dX12_isRow_27 (by decide) (fun c12 => ?_) (fun c12 => ?_)
      · refine ev_aload_n dX12_isRow_44 rfl ?_
        refine ev_dup dX12_isRow_45 rfl ?_
        refine ev_get fk_X12_367 dX12_isRow_46 kp0 (am_fvI (by decide)) ?_
        refine ev_iconst (v := 1) dX12_isRow_49 (by decide) ?_
        refine ev_iadd dX12_isRow_50 ?_
        refine ev_putI fk_X12_367 tyX12 tyX12_ok nmX12 rfl (by decide +kernel) (by decide) dX12_isRow_51 kp0 ?_
        refine ev_goto (tgt := 5) dX12_isRow_54 (by decide) ?_
        exact ev_leaf (am_wk (am_wf (am_wf am_wn))) (hB1 (am_u2 x1 p0 27 ((x1 p0 27) + 1)))
      · refine ev_aload_n dX12_isRow_30 rfl ?_
        refine ev_eq (Option.bind_assoc _ _ _) ?_
        refine ev_getR fk_X12_23 (by decide) dX12_isRow_31 kp0 (fun q13 k13 r13 => ?_)
        refine ev_aload_n dX12_isRow_34 rfl ?_
        refine ev_get fk_X12_367 dX12_isRow_35 kp0 (am_fvI (by decide)) ?_
        refine ev_eq (Option.bind_assoc _ _ _) ?_
        refine ev_bald dX12_isRow_38 k13 (fun v14 h14 => ?_)
        refine ev_bipush (v := 98) dX12_isRow_39 (by decide) ?_
        refine ev_eq am_ib ?_
        refine ev_icmp_ne (tgt := 57) dX12_isRow_41 (by decide) (fun c15 => ?_) (fun c15 => ?_)
        · exact ev_leaf (am_wk (am_wf (am_wf am_wn))) (hE1 x1)
        · refine ev_aload_n dX12_isRow_44 rfl ?_
          refine ev_dup dX12_isRow_45 rfl ?_
          refine ev_get fk_X12_367 dX12_isRow_46 kp0 (am_fvI (by decide)) ?_
          refine ev_iconst (v := 1) dX12_isRow_49 (by decide) ?_
          refine ev_iadd dX12_isRow_50 ?_
          refine ev_putI fk_X12_367 tyX12 tyX12_ok nmX12 rfl (by decide +kernel) (by decide) dX12_isRow_51 kp0 ?_
          refine ev_goto (tgt := 5) dX12_isRow_54 (by decide) ?_
          exact ev_leaf (am_wk (am_wf (am_wf am_wn))) (hB1 (am_u2 x1 p0 27 ((x1 p0 27) + 1)))
  · refine ev_aload_n dX12_isRow_57 rfl ?_
    refine ev_get fk_X12_108 dX12_isRow_58 kp0 (am_fvI (by decide)) ?_
    refine ev_aload_n dX12_isRow_61 rfl ?_
    refine ev_get fk_X12_367 dX12_isRow_62 kp0 (am_fvI (by decide)) ?_
    refine ev_isub dX12_isRow_65 ?_
    refine ev_iconst (v := 1) dX12_isRow_66 (by decide) ?_
    refine ev_isub dX12_isRow_67 ?_
    refine ev_istore_n dX12_isRow_68 (am_lt rfl) ?_
    refine ev_aload_n dX12_isRow_69 rfl ?_
    refine ev_get fk_X12_367 dX12_isRow_70 kp0 (am_fvI (by decide)) ?_
    refine ev_iconst (v := 1) dX12_isRow_73 (by decide) ?_
    refine ev_bipush (v := 20) dX12_isRow_74 (by decide) ?_
    refine ev_callP (am_callS (as := [.int (t1 p0 27), .int 1, .int 20]) (st := []) ct_X12_78 dX12_isRow_76 rfl (am_le rfl) (am_fit (by omega) (by decide) (by decide) (by decide)) (t_X12_in hl )) (fun v16 h16 => ?_)
    refine ev_if_eq (tgt := 106) dX12_isRow_79 (by decide) (fun c17 => ?_) (fun c17 => ?_)
    · refine ev_iconst (v := 0) dX12_isRow_106 (by decide) ?_
      exact ev_iret dX12_isRow_107 rfl (by decide) (by decide) (by decide) rfl
    · refine ev_iload_n dX12_isRow_82 rfl ?_
      refine ev_iconst (v := 1) dX12_isRow_83 (by decide) ?_
      refine ev_bipush (v := 6) dX12_isRow_84 (by decide) ?_
      refine ev_callP (am_callS (as := [.int (((t1 p0 8) - (t1 p0 27)) - 1), .int 1, .int 6]) (st := []) ct_X12_78 dX12_isRow_86 rfl (am_le rfl) (am_fit (by omega) (by decide) (by decide) (by decide)) (t_X12_in hl )) (fun v18 h18 => ?_)
      refine ev_if_eq (tgt := 106) dX12_isRow_89 (by decide) (fun c19 => ?_) (fun c19 => ?_)
      · refine ev_iconst (v := 0) dX12_isRow_106 (by decide) ?_
        exact ev_iret dX12_isRow_107 rfl (by decide) (by decide) (by decide) rfl
      · refine ev_aload_n dX12_isRow_92 rfl ?_
        refine ev_getR fk_X12_23 (by decide) dX12_isRow_93 kp0 (fun q20 k20 r20 => ?_)
        refine ev_aload_n dX12_isRow_96 rfl ?_
        refine ev_get fk_X12_367 dX12_isRow_97 kp0 (am_fvI (by decide)) ?_
        refine ev_bald dX12_isRow_100 k20 (fun v21 h21 => ?_)
        refine ev_bipush (v := 32) dX12_isRow_101 (by decide) ?_
        refine ev_icmp_eq (tgt := 108) dX12_isRow_103 (by decide) (fun c22 => ?_) (fun c22 => ?_)
        · refine ev_aload_n dX12_isRow_108 rfl ?_
          refine ev_iconst (v := 0) dX12_isRow_109 (by decide) ?_
          refine ev_putI fk_X12_370 tyX12 tyX12_ok nmX12 rfl (by decide +kernel) (by decide) dX12_isRow_110 kp0 ?_
          refine ev_aload_n dX12_isRow_113 rfl ?_
          refine ev_get fk_X12_367 dX12_isRow_114 kp0 (am_fvI (by decide)) ?_
          refine ev_iconst (v := 1) dX12_isRow_117 (by decide) ?_
          refine ev_iadd dX12_isRow_118 ?_
          refine ev_istore_n dX12_isRow_119 (am_lt rfl) ?_
          refine ev_weak (am_wk (am_wf (am_wk am_wn))) (ev_loopR 120 0 (fun x23 : Int32 × (Nat → Nat → Int32) => [some (.ref p0), none, some (.int x23.1)]) (fun t23 : (Nat → Nat → Int32) => [none, none, none]) (fun x23 => (x23.2, S.2)) (fun t23 => (t23, S.2)) (fun x23 G23 hB23 hE23 hG23 => ?_) (fun t23 => ?_) am_fuel ((((am_u2 t1 p0 26 0) p0 27) + 1), (am_u2 t1 p0 26 0)))
          · unfold f_X12_isRow_b120
            refine ev_iload_n dX12_isRow_120 rfl ?_
            refine ev_aload_n dX12_isRow_121 rfl ?_
            refine ev_get fk_X12_108 dX12_isRow_122 kp0 (am_fvI (by decide)) ?_
            refine ev_eq am_ib ?_
            refine ev_icmp_ge (tgt := 209) dX12_isRow_125 (by decide) (fun c40 => ?_) (fun c40 => ?_)
            · refine ev_iconst (v := 1) dX12_isRow_209 (by decide) ?_
              exact ev_eq (hG23 _) (ev_iret dX12_isRow_210 rfl (by decide) (by decide) (by decide) rfl)
            · refine ev_aload_n dX12_isRow_128 rfl ?_
              refine ev_eq (Option.bind_assoc _ _ _) ?_
              refine ev_getR fk_X12_23 (by decide) dX12_isRow_129 kp0 (fun q41 k41 r41 => ?_)
              refine ev_iload_n dX12_isRow_132 rfl ?_
              refine ev_eq (Option.bind_assoc _ _ _) ?_
              refine ev_bald dX12_isRow_133 k41 (fun v42 h42 => ?_)
              refine ev_bipush (v := 65) dX12_isRow_134 (by decide) ?_
              refine ev_eq am_ib ?_
              refine ev_icmp_lt (tgt := 150) dX12_isRow_136 (by decide) (fun c43 => ?_) (fun c43 => ?_)
              · refine ev_iconst (v := 0) dX12_isRow_150 (by decide) ?_
                exact ev_eq (hG23 _) (ev_iret dX12_isRow_151 rfl (by decide) (by decide) (by decide) rfl)
              · refine ev_aload_n dX12_isRow_139 rfl ?_
                refine ev_eq (Option.bind_assoc _ _ _) ?_
                refine ev_getR fk_X12_23 (by decide) dX12_isRow_140 kp0 (fun q44 k44 r44 => ?_)
                refine ev_iload_n dX12_isRow_143 rfl ?_
                refine ev_eq (Option.bind_assoc _ _ _) ?_
                refine ev_bald dX12_isRow_144 k44 (fun v45 h45 => ?_)
                refine ev_bipush (v := 90) dX12_isRow_145 (by decide) ?_
                refine ev_eq am_ib ?_
                refine ev_icmp_le (tgt := 152) dX12_isRow_147 (by decide) (fun c46 => ?_) (fun c46 => ?_)
                · refine ev_aload_n dX12_isRow_152 rfl ?_
                  refine ev_aload_n dX12_isRow_153 rfl ?_
                  refine ev_eq (Option.bind_assoc _ _ _) ?_
                  refine ev_getR fk_X12_23 (by decide) dX12_isRow_154 kp0 (fun q47 k47 r47 => ?_)
                  refine ev_iload_n dX12_isRow_157 rfl ?_
                  refine ev_eq (Option.bind_assoc _ _ _) ?_
                  refine ev_bald dX12_isRow_158 k47 (fun v48 h48 => ?_)
                  refine ev_eq (Option.bind_assoc _ _ _) ?_
                  refine ev_callP (am_callV (as := [.int v48]) (o := p0) (st := []) cv_X12_373 dX12_isRow_159 kp0 rfl (am_le rfl) (am_fit (by omega) (by decide) (by decide) (by decide)) (t_X12_kindOf hl kp0)) (fun v49 h49 => ?_)
                  refine ev_eq am_ib ?_
                  refine ev_if_lt (tgt := 168) dX12_isRow_162 (by decide) (fun c50 => ?_) (fun c50 => ?_)
                  · refine ev_aload_n dX12_isRow_168 rfl ?_
                    refine ev_get fk_X12_370 dX12_isRow_169 kp0 (am_fvI (by decide)) ?_
                    refine ev_iconst (v := 3) dX12_isRow_172 (by decide) ?_
                    refine ev_eq am_ib ?_
                    refine ev_icmp_ne (tgt := 178) dX12_isRow_173 (by decide) (fun c51 => ?_) (fun c51 => ?_)
                    · refine ev_aload_n dX12_isRow_178 rfl ?_
                      refine ev_eq (Option.bind_assoc _ _ _) ?_
                      refine ev_getR fk_X12_57 (by decide) dX12_isRow_179 kp0 (fun q52 k52 r52 => ?_)
                      refine ev_aload_n dX12_isRow_182 rfl ?_
                      refine ev_get fk_X12_370 dX12_isRow_183 kp0 (am_fvI (by decide)) ?_
                      refine ev_aload_n dX12_isRow_186 rfl ?_
                      refine ev_eq (Option.bind_assoc _ _ _) ?_
                      refine ev_getR fk_X12_23 (by decide) dX12_isRow_187 kp0 (fun q53 k53 r53 => ?_)
                      refine ev_iload_n dX12_isRow_190 rfl ?_
                      refine ev_eq (Option.bind_assoc _ _ _) ?_
                      refine ev_bald dX12_isRow_191 k53 (fun v54 h54 => ?_)
                      refine ev_eq (Option.bind_assoc _ _ _) ?_
                      refine ev_iast dX12_isRow_192 k52 (fun σ55 h55 => ?_)
                      refine ev_aload_n dX12_isRow_193 rfl ?_
                      refine ev_dup dX12_isRow_194 rfl ?_
                      refine ev_get fk_X12_370 dX12_isRow_195 kp0 (am_fvI (by decide)) ?_
                      refine ev_iconst (v := 1) dX12_isRow_198 (by decide) ?_
                      refine ev_iadd dX12_isRow_199 ?_
                      refine ev_putI fk_X12_370 tyX12 tyX12_ok nmX12 rfl (by decide +kernel) (by decide) dX12_isRow_200 kp0 ?_
                      refine ev_iinc (v := (x23.1 + 1)) dX12_isRow_203 (am_lt rfl) rfl rfl ?_
                      refine ev_goto (tgt := 120) dX12_isRow_206 (by decide) ?_
                      exact ev_leaf (am_wk (am_wf (am_wk am_wn))) (hB23 ((x23.1 + 1), (am_u2 σ55 p0 26 ((σ55 p0 26) + 1))))
                    · refine ev_iconst (v := 0) dX12_isRow_176 (by decide) ?_
                      exact ev_eq (hG23 _) (ev_iret dX12_isRow_177 rfl (by decide) (by decide) (by decide) rfl)
                  · refine ev_goto (tgt := 203) dX12_isRow_165 (by decide) ?_
                    refine ev_iinc (v := (x23.1 + 1)) dX12_isRow_203 (am_lt rfl) rfl rfl ?_
                    refine ev_goto (tgt := 120) dX12_isRow_206 (by decide) ?_
                    exact ev_leaf (am_wk (am_wf (am_wk am_wn))) (hB23 ((x23.1 + 1), x23.2))
                · refine ev_iconst (v := 0) dX12_isRow_150 (by decide) ?_
                  exact ev_eq (hG23 _) (ev_iret dX12_isRow_151 rfl (by decide) (by decide) (by decide) rfl)
          · exact ev_none
        · refine ev_iconst (v := 0) dX12_isRow_106 (by decide) ?_
          exact ev_iret dX12_isRow_107 rfl (by decide) (by decide) (by decide) rfl
