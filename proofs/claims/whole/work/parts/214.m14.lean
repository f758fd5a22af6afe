def f_X12_isTold_b12 (S : am_S) (a0 : Nat) (a1 : Int32) (x3 : Int32) : Option ((Int32) ⊕ ((Unit) ⊕ (Int32))) :=
  (if x3 < a1 then ((am_rd S.2 a0 24 1).bind (fun q5 => ((am_ld S.1 q5 a1).bind (fun v6 => ((am_rd S.2 a0 24 1).bind (fun q7 => ((am_ld S.1 q7 x3).bind (fun v8 => (if v6 = v8 then some (.inr (.inr 0)) else some (.inl (x3 + 1))))))))))) else some (.inr (.inl ())))
def f_X12_isTold_b2 (S : am_S) (a0 : Nat) (x1 : Int32) : Option ((Int32) ⊕ ((Unit) ⊕ (Int32))) :=
  (if x1 < (S.1 a0 26) then ((am_loop (f_X12_isTold_b12 S a0 x1) am_fuel 0).bind (fun r3 => match r3 with | .inl t3 => some (.inl (x1 + 1)) | .inr b3 => some (.inr (.inr b3)))) else some (.inr (.inl ())))
def f_X12_isTold_b87 (S : am_S) (a0 : Nat) (a2 : Int32) (a3 : Int32) (x38 : Int32 × Int32) : Option ((Int32 × Int32) ⊕ ((Int32) ⊕ (Int32))) :=
  (if x38.2 < 0 then some (.inr (.inl x38.1)) else (if x38.1 = (S.1 a0 27) then some (.inr (.inr 0)) else ((am_rd S.2 a0 5 2).bind (fun q41 => ((am_ld S.1 q41 x38.1).bind (fun v42 => (if (v42 - 97) = ((a3 >>> (x38.2 &&& 31)) &&& 1) then some (.inl ((x38.1 + 1), (x38.2 + (-1)))) else some (.inr (.inr 0)))))))))
def f_X12_isTold_b55 (S : am_S) (a0 : Nat) (x30 : Int32 × Int32) : Option ((Int32 × Int32) ⊕ ((Int32) ⊕ (Int32))) :=
  (if x30.2 < (S.1 a0 8) then ((am_rd S.2 a0 24 1).bind (fun q32 => ((am_rd S.2 a0 5 2).bind (fun q33 => ((am_ld S.1 q33 x30.2).bind (fun v34 => ((f_X12_kindOf S a0 v34).bind (fun v35 => ((am_ld S.1 q32 v35).bind (fun v36 => ((f_X12_lengthOf v36).bind (fun v37 => ((am_loop (f_X12_isTold_b87 S a0 x30.2 v36) am_fuel (x30.1, (v37 - 1))).bind (fun r38 => match r38 with | .inl t38 => some (.inl (t38, (x30.2 + 1))) | .inr b38 => some (.inr (.inr b38)))))))))))))))) else some (.inr (.inl x30.1)))
def f_X12_isTold (S : am_S) (p0 : Nat) : Option (Int32) :=
  ((am_loop (f_X12_isTold_b2 S p0) am_fuel 0).bind (fun r1 => match r1 with | .inl t1 => ((am_loop (f_X12_isTold_b55 S p0) am_fuel (0, ((S.1 p0 27) + 1))).bind (fun r30 => match r30 with | .inl t30 => (if t30 = (S.1 p0 27) then some 1 else some 0) | .inr b30 => some b30)) | .inr b1 => some b1))
set_option maxRecDepth 20000 in
theorem t_X12_isTold {E : am_E} {l : Launch} (hl : l.stackTraces = false) {S : am_S} {p0 : Nat} (kp0 : am_kd p0 = 112) : am_M E l yX12_isTold (.code yX12_isTold cX12_isTold 5 (some .boolean)) 1 0 0 [.ref p0] S ((f_X12_isTold S p0).map (fun (v : Int32) => ((.inl (some (.int v)), S) : am_R))) := by
  refine am_M_of (w := fun (v : Int32) => ((.inl (some (.int v)), S) : am_R)) hl (by decide) (am_fc rfl am_fn) (Nat.le_of_ble_eq_true rfl) ?_
  show am_Ev E l (RX12, cX12_isTold, 5, (some .boolean), [], am_rm 1 0 0) (fun b a s x => am_Z E 0 0 b a s ((fun (v : Int32) => ((.inl (some (.int v)), S) : am_R)) x)) 0 0 0 [some (.ref p0), none, none, none, none] [] S (f_X12_isTold S p0)
  unfold f_X12_isTold
  refine ev_iconst (v := 0) dX12_isTold_0 (by decide) ?_
  refine ev_istore_n dX12_isTold_1 (am_lt rfl) ?_
  refine ev_weak (am_wk (am_wk (am_wf (am_wf (am_wf am_wn))))) (ev_loopR 2 46 (fun x1 : Int32 => [some (.ref p0), some (.int x1), none, none, none]) (fun t1 : Unit => [some (.ref p0), none, none, none, none]) (fun x1 => S) (fun t1 => S) (fun x1 G1 hB1 hE1 hG1 => ?_) (fun t1 => ?_) am_fuel 0)
  · unfold f_X12_isTold_b2
    refine ev_iload_n dX12_isTold_2 rfl ?_
    refine ev_aload_n dX12_isTold_3 rfl ?_
    refine ev_get fk_X12_370 dX12_isTold_4 kp0 (am_fvI (by decide)) ?_
    refine ev_eq am_ib ?_
    refine ev_icmp_ge (tgt := 46) dX12_isTold_7 (by decide) (fun c16 => ?_) (fun c16 => ?_)
    · exact ev_leaf (am_wk (am_wf (am_wf (am_wf (am_wf am_wn))))) (hE1 ())
    · refine ev_iconst (v := 0) dX12_isTold_10 (by decide) ?_
      refine ev_istore_n dX12_isTold_11 (am_lt rfl) ?_
      refine ev_eq (Option.bind_assoc _ _ _) ?_
      refine ev_weak (am_wk (am_wk (am_wk (am_wf (am_wf am_wn))))) (ev_loopR 12 40 (fun x17 : Int32 => [some (.ref p0), some (.int x1), some (.int x17), none, none]) (fun t17 : Unit => [some (.ref p0), some (.int x1), none, none, none]) (fun x17 => S) (fun t17 => S) (fun x17 G17 hB17 hE17 hG17 => ?_) (fun t17 => ?_) am_fuel 0)
      · unfold f_X12_isTold_b12
        refine ev_iload_n dX12_isTold_12 rfl ?_
        refine ev_iload_n dX12_isTold_13 rfl ?_
        refine ev_eq am_ib ?_
        refine ev_icmp_ge (tgt := 40) dX12_isTold_14 (by decide) (fun c24 => ?_) (fun c24 => ?_)
        · exact ev_leaf (am_wk (am_wk (am_wf (am_wf (am_wf am_wn))))) (hE17 ())
        · refine ev_aload_n dX12_isTold_17 rfl ?_
          refine ev_eq (Option.bind_assoc _ _ _) ?_
          refine ev_getR fk_X12_60 (by decide) dX12_isTold_18 kp0 (fun q25 k25 r25 => ?_)
          refine ev_iload_n dX12_isTold_21 rfl ?_
          refine ev_eq (Option.bind_assoc _ _ _) ?_
          refine ev_iald dX12_isTold_22 k25 (fun v26 h26 => ?_)
          refine ev_aload_n dX12_isTold_23 rfl ?_
          refine ev_eq (Option.bind_assoc _ _ _) ?_
          refine ev_getR fk_X12_60 (by decide) dX12_isTold_24 kp0 (fun q27 k27 r27 => ?_)
          refine ev_iload_n dX12_isTold_27 rfl ?_
          refine ev_eq (Option.bind_assoc _ _ _) ?_
          refine ev_iald dX12_isTold_28 k27 (fun v28 h28 => ?_)
          refine ev_eq am_ib ?_
          refine ev_icmp_ne (tgt := 34) dX12_isTold_29 (by decide) (fun c29 => ?_) (fun c29 => ?_)
          · refine ev_iinc (v := (x17 + 1)) dX12_isTold_34 (am_lt rfl) rfl rfl ?_
            refine ev_goto (tgt := 12) dX12_isTold_37 (by decide) ?_
            exact ev_leaf (am_wk (am_wk (am_wk (am_wf (am_wf am_wn))))) (hB17 (x17 + 1))
          · refine ev_iconst (v := 0) dX12_isTold_32 (by decide) ?_
            exact ev_eq ((hG17 _).trans (hG1 _)) (ev_iret dX12_isTold_33 rfl (by decide) (by decide) (by decide) rfl)
      · refine ev_iinc (v := (x1 + 1)) dX12_isTold_40 (am_lt rfl) rfl rfl ?_
        refine ev_goto (tgt := 2) dX12_isTold_43 (by decide) ?_
        exact ev_leaf (am_wk (am_wk (am_wf (am_wf (am_wf am_wn))))) (hB1 (x1 + 1))
  · refine ev_iconst (v := 0) dX12_isTold_46 (by decide) ?_
    refine ev_istore_n dX12_isTold_47 (am_lt rfl) ?_
    refine ev_aload_n dX12_isTold_48 rfl ?_
    refine ev_get fk_X12_367 dX12_isTold_49 kp0 (am_fvI (by decide)) ?_
    refine ev_iconst (v := 1) dX12_isTold_52 (by decide) ?_
    refine ev_iadd dX12_isTold_53 ?_
    refine ev_istore_n dX12_isTold_54 (am_lt rfl) ?_
    refine ev_weak (am_wk (am_wk (am_wk (am_wf (am_wf am_wn))))) (ev_loopR 55 135 (fun x30 : Int32 × Int32 => [some (.ref p0), some (.int x30.1), some (.int x30.2), none, none]) (fun t30 : Int32 => [some (.ref p0), some (.int t30), none, none, none]) (fun x30 => S) (fun t30 => S) (fun x30 G30 hB30 hE30 hG30 => ?_) (fun t30 => ?_) am_fuel (0, ((S.1 p0 27) + 1)))
    · unfold f_X12_isTold_b55
      refine ev_iload_n dX12_isTold_55 rfl ?_
      refine ev_aload_n dX12_isTold_56 rfl ?_
      refine ev_get fk_X12_108 dX12_isTold_57 kp0 (am_fvI (by decide)) ?_
      refine ev_eq am_ib ?_
      refine ev_icmp_ge (tgt := 135) dX12_isTold_60 (by decide) (fun c49 => ?_) (fun c49 => ?_)
      · exact ev_leaf (am_wk (am_wk (am_wf (am_wf (am_wf am_wn))))) (hE30 x30.1)
      · refine ev_aload_n dX12_isTold_63 rfl ?_
        refine ev_eq (Option.bind_assoc _ _ _) ?_
        refine ev_getR fk_X12_60 (by decide) dX12_isTold_64 kp0 (fun q50 k50 r50 => ?_)
        refine ev_aload_n dX12_isTold_67 rfl ?_
        refine ev_aload_n dX12_isTold_68 rfl ?_
        refine ev_eq (Option.bind_assoc _ _ _) ?_
        refine ev_getR fk_X12_23 (by decide) dX12_isTold_69 kp0 (fun q51 k51 r51 => ?_)
        refine ev_iload_n dX12_isTold_72 rfl ?_
        refine ev_eq (Option.bind_assoc _ _ _) ?_
        refine ev_bald dX12_isTold_73 k51 (fun v52 h52 => ?_)
        refine ev_eq (Option.bind_assoc _ _ _) ?_
        refine ev_callP (am_callV (as := [.int v52]) (o := p0) (st := [.ref q50]) cv_X12_373 dX12_isTold_74 kp0 rfl (am_le rfl) (am_fit (by omega) (by decide) (by decide) (by decide)) (t_X12_kindOf hl kp0)) (fun v53 h53 => ?_)
        refine ev_eq (Option.bind_assoc _ _ _) ?_
        refine ev_iald dX12_isTold_77 k50 (fun v54 h54 => ?_)
        refine ev_istore_n dX12_isTold_78 (am_lt rfl) ?_
        refine ev_iload_n dX12_isTold_79 rfl ?_
        refine ev_eq (Option.bind_assoc _ _ _) ?_
        refine ev_callP (am_callS (as := [.int v54]) (st := []) ct_X12_85 dX12_isTold_80 rfl (am_le rfl) (am_fit (by omega) (by decide) (by decide) (by decide)) (t_X12_lengthOf hl )) (fun v55 h55 => ?_)
        refine ev_iconst (v := 1) dX12_isTold_83 (by decide) ?_
        refine ev_isub dX12_isTold_84 ?_
        refine ev_istore dX12_isTold_85 (am_lt rfl) ?_
        refine ev_eq (Option.bind_assoc _ _ _) ?_
        refine ev_weak (am_wk (am_wk (am_wk (am_wk (am_wk am_wn))))) (ev_loopR 87 129 (fun x56 : Int32 × Int32 => [some (.ref p0), some (.int x56.1), some (.int x30.2), some (.int v54), some (.int x56.2)]) (fun t56 : Int32 => [some (.ref p0), some (.int t56), some (.int x30.2), none, none]) (fun x56 => S) (fun t56 => S) (fun x56 G56 hB56 hE56 hG56 => ?_) (fun t56 => ?_) am_fuel (x30.1, (v55 - 1)))
        · unfold f_X12_isTold_b87
          refine ev_iload dX12_isTold_87 rfl ?_
          refine ev_eq am_ib ?_
          refine ev_if_lt (tgt := 129) dX12_isTold_89 (by decide) (fun c62 => ?_) (fun c62 => ?_)
          · exact ev_leaf (am_wk (am_wk (am_wk (am_wf (am_wf am_wn))))) (hE56 x56.1)
          · refine ev_iload_n dX12_isTold_92 rfl ?_
            refine ev_aload_n dX12_isTold_93 rfl ?_
            refine ev_get fk_X12_367 dX12_isTold_94 kp0 (am_fvI (by decide)) ?_
            refine ev_eq am_ib ?_
            refine ev_icmp_eq (tgt := 118) dX12_isTold_97 (by decide) (fun c63 => ?_) (fun c63 => ?_)
            · refine ev_iconst (v := 0) dX12_isTold_118 (by decide) ?_
              exact ev_eq ((hG56 _).trans (hG30 _)) (ev_iret dX12_isTold_119 rfl (by decide) (by decide) (by decide) rfl)
            · refine ev_aload_n dX12_isTold_100 rfl ?_
              refine ev_eq (Option.bind_assoc _ _ _) ?_
              refine ev_getR fk_X12_23 (by decide) dX12_isTold_101 kp0 (fun q64 k64 r64 => ?_)
              refine ev_iload_n dX12_isTold_104 rfl ?_
              refine ev_eq (Option.bind_assoc _ _ _) ?_
              refine ev_bald dX12_isTold_105 k64 (fun v65 h65 => ?_)
              refine ev_bipush (v := 97) dX12_isTold_106 (by decide) ?_
              refine ev_isub dX12_isTold_108 ?_
              refine ev_iload_n dX12_isTold_109 rfl ?_
              refine ev_iload dX12_isTold_110 rfl ?_
              refine ev_ishr dX12_isTold_112 ?_
              refine ev_iconst (v := 1) dX12_isTold_113 (by decide) ?_
              refine ev_iand dX12_isTold_114 ?_
              refine ev_eq am_ib ?_
              refine ev_icmp_eq (tgt := 120) dX12_isTold_115 (by decide) (fun c66 => ?_) (fun c66 => ?_)
              · refine ev_iinc (v := (x56.1 + 1)) dX12_isTold_120 (am_lt rfl) rfl rfl ?_
                refine ev_iinc (v := (x56.2 + (-1))) dX12_isTold_123 (am_lt rfl) rfl rfl ?_
                refine ev_goto (tgt := 87) dX12_isTold_126 (by decide) ?_
                exact ev_leaf (am_wk (am_wk (am_wk (am_wk (am_wk am_wn))))) (hB56 ((x56.1 + 1), (x56.2 + (-1))))
              · refine ev_iconst (v := 0) dX12_isTold_118 (by decide) ?_
                exact ev_eq ((hG56 _).trans (hG30 _)) (ev_iret dX12_isTold_119 rfl (by decide) (by decide) (by decide) rfl)
        · refine ev_iinc (v := (x30.2 + 1)) dX12_isTold_129 (am_lt rfl) rfl rfl ?_
          refine ev_goto (tgt := 55) dX12_isTold_132 (by decide) ?_
          exact ev_leaf (am_wk (am_wk (am_wk (am_wf (am_wf am_wn))))) (hB30 (t56, (x30.2 + 1)))
    · refine ev_iload_n dX12_isTold_135 rfl ?_
      refine ev_aload_n dX12_isTold_136 rfl ?_
      refine ev_get fk_X12_367 dX12_isTold_137 kp0 (am_fvI (by decide)) ?_
      refine ev_icmp_ne (tgt := 147) dX12_isTold_140 (by decide) (fun c67 => ?_) (fun c67 => ?_)
      · refine ev_iconst (v := 0) dX12_isTold_147 (by decide) ?_
        exact ev_iret dX12_isTold_148 rfl (by decide) (by decide) (by decide) rfl
      · refine ev_iconst (v := 1) dX12_isTold_143 (by decide) ?_
        refine ev_goto (tgt := 148) dX12_isTold_144 (by decide) ?_
        exact ev_iret dX12_isTold_148 rfl (by decide) (by decide) (by decide) rfl
def f_X12_learn_b52 (S : am_S) (a0 : Nat) (a1 : Int32) (x9 : Int32 × Int32) : Option ((Int32 × Int32) ⊕ (Int32)) :=
  (if x9.2 < (S.1 a0 26) then some (.inl ((x9.1 * 16), (x9.2 + 1))) else some (.inr x9.1))
def f_X12_learn_b99 (S : am_S) (a0 : Nat) (a1 : Int32) (a3 : Int32) (a4 : Int32) (a5 : Int32) (x14 : Int32 × Int32 × Int32 × (Nat → Nat → Int32)) : Option ((Int32 × Int32 × Int32 × (Nat → Nat → Int32)) ⊕ (Int32 × (Nat → Nat → Int32))) :=
  (if x14.2.2.1 < 0 then some (.inr (x14.2.1, x14.2.2.2)) else ((am_rd S.2 a0 24 1).bind (fun q16 => ((am_st x14.2.2.2 q16 x14.2.2.1 (x14.1 - x14.1 / 16 * 16)).bind (fun σ17 => ((if x14.2.1 = 0 then some (0 : Int32) else ((am_rd S.2 a0 24 1).bind (fun q19 => ((am_ld σ17 q19 x14.2.2.1).bind (fun v20 => (if 1 < v20 then some (1 : Int32) else some (0 : Int32))))))).bind (fun t18 => some (.inl ((x14.1 / 16), t18, (x14.2.2.1 + (-1)), σ17)))))))))
def f_X12_learn_b170 (S : am_S) (a0 : Nat) (a1 : Int32) (a3 : Int32) (a4 : Int32) (a5 : Int32) (x32 : Int32 × (Nat → Nat → Int32)) : Option ((Int32 × (Nat → Nat → Int32)) ⊕ ((Nat → Nat → Int32))) :=
  (if x32.1 < (x32.2 a0 26) then (if a4 = 0 then ((am_rd S.2 a0 25 1).bind (fun q35 => ((am_rd S.2 a0 24 1).bind (fun q36 => ((am_ld x32.2 q36 x32.1).bind (fun v37 => ((am_st x32.2 q35 x32.1 v37).bind (fun σ38 => some (.inl ((x32.1 + 1), σ38)))))))))) else some (.inr x32.2)) else some (.inr x32.2))
def f_X12_learn_b78 (S : am_S) (a0 : Nat) (a1 : Int32) (a3 : Int32) (x12 : Int32 × Int32 × (Nat → Nat → Int32)) : Option ((Int32 × Int32 × (Nat → Nat → Int32)) ⊕ (Int32 × (Nat → Nat → Int32))) :=
  (if x12.2.1 < a3 then ((am_loop (f_X12_learn_b99 (x12.2.2, S.2) a0 a1 a3 x12.1 x12.2.1) am_fuel (x12.2.1, 1, ((x12.2.2 a0 26) - 1), x12.2.2)).bind (fun t14 => ((if t14.1 = 0 then some (x12.1, t14.2) else ((f_X12_isTold (t14.2, S.2) a0).bind (fun v30 => (if v30 = 0 then some (x12.1, t14.2) else ((am_loop (f_X12_learn_b170 (t14.2, S.2) a0 a1 a3 x12.1 x12.2.1) am_fuel (0, t14.2)).bind (fun t32 => some ((x12.1 + 1), t32))))))).bind (fun t29 => some (.inl (t29.1, (x12.2.1 + 1), t29.2)))))) else some (.inr (x12.1, x12.2.2)))
def f_X12_learn (S : am_S) (p0 : Nat) (p1 : Int32) : Option (Int32 × (Nat → Nat → Int32)) :=
  ((f_X12_uses S p0).bind (fun σ1 => ((f_X12_isRow (σ1, S.2) p0).bind (fun y2 => ((if y2.1 = 0 then some (1 : Int32) else (if p1 = (-1) then some (0 : Int32) else ((f_X12_in p1 0 ((y2.2 p0 26) - 1)).bind (fun v5 => (if v5 = 0 then some (1 : Int32) else some (0 : Int32)))))).bind (fun t3 => ((f_X12_throwsIf (y2.2, S.2) p0 t3 1).bind (fun y7 => (if y7.1 = 0 then ((am_loop (f_X12_learn_b52 (y7.2, S.2) p0 p1) am_fuel (1, 0)).bind (fun t9 => ((am_loop (f_X12_learn_b78 (y7.2, S.2) p0 p1 t9) am_fuel (0, 0, y7.2)).bind (fun t12 => (if p1 = (-1) then some (t12.1, t12.2) else (if t12.1 = 0 then some ((-1), t12.2) else ((am_rd S.2 p0 25 1).bind (fun q79 => ((am_ld t12.2 q79 p1).bind (fun v80 => some (v80, t12.2))))))))))) else some (0, y7.2))))))))))
set_option maxRecDepth 20000 in
theorem t_X12_learn {E : am_E} {l : Launch} (hl : l.stackTraces = false) {S : am_S} {p0 : Nat} {p1 : Int32} (kp0 : am_kd p0 = 112) : am_M E l yX12_learn (.code yX12_learn cX12_learn 9 (some .int)) 2 0 0 [.ref p0, .int p1] S ((f_X12_learn S p0 p1).map (fun (x : Int32 × (Nat → Nat → Int32)) => ((.inl (some (.int x.1)), (x.2, S.2)) : am_R))) := by
  refine am_M_of (w := fun (x : Int32 × (Nat → Nat → Int32)) => ((.inl (some (.int x.1)), (x.2, S.2)) : am_R)) hl (by decide) (am_fc rfl (am_fc rfl am_fn)) (Nat.le_of_ble_eq_true rfl) ?_
  show am_Ev E l (RX12, cX12_learn, 9, (some .int), [], am_rm 2 0 0) (fun b a s x => am_Z E 0 0 b a s ((fun (x : Int32 × (Nat → Nat → Int32)) => ((.inl (some (.int x.1)), (x.2, S.2)) : am_R)) x)) 0 0 0 [some (.ref p0), some (.int p1), none, none, none, none, none, none, none] [] S (f_X12_learn S p0 p1)
  unfold f_X12_learn
  refine ev_aload_n dX12_learn_0 rfl ?_
  refine ev_callWV (am_callV (as := []) (o := p0) (st := []) cv_X12_231 dX12_learn_1 kp0 rfl (am_le rfl) (am_fit (by omega) (by decide) (by decide) (by decide)) (t_X12_uses hl kp0)) (fun σ1 h1 => ?_)
  refine ev_aload_n dX12_learn_4 rfl ?_
  refine ev_callWI (am_callV (as := []) (o := p0) (st := []) cv_X12_376 dX12_learn_5 kp0 rfl (am_le rfl) (am_fit (by omega) (by decide) (by decide) (by decide)) (t_X12_isRow hl kp0)) (fun y2 h2 => ?_)
  refine ev_istore_n dX12_learn_8 (am_lt rfl) ?_
  refine ev_aload_n dX12_learn_9 rfl ?_
  refine ev_iload_n dX12_learn_10 rfl ?_
  refine ev_reg (cs' := 0) (sl' := 0) 38 (fun t3 : Int32 => [some (.ref p0), some (.int p1), none, none, none, none, none, none, none]) (fun t3 => [.int t3, .ref p0]) (fun t3 => (y2.2, S.2)) (fun hJ3 => ?_) (fun t3 => ?_)
  · refine ev_eq am_ib ?_
    refine ev_if_eq (tgt := 33) dX12_learn_11 (by decide) (fun c3 => ?_) (fun c3 => ?_)
    · refine ev_iconst (v := 1) dX12_learn_33 (by decide) ?_
      refine ev_goto (tgt := 38) dX12_learn_34 (by decide) ?_
      exact ev_leaf (am_wk (am_wk (am_wf (am_wf (am_wf (am_wf (am_wf (am_wf (am_wf am_wn))))))))) (hJ3 (1 : Int32))
    · refine ev_iload_n dX12_learn_14 rfl ?_
      refine ev_iconst (v := (-1)) dX12_learn_15 (by decide) ?_
      refine ev_eq am_ib ?_
      refine ev_icmp_eq (tgt := 37) dX12_learn_16 (by decide) (fun c4 => ?_) (fun c4 => ?_)
      · refine ev_iconst (v := 0) dX12_learn_37 (by decide) ?_
        exact ev_leaf (am_wk (am_wk (am_wf (am_wf (am_wf (am_wf (am_wf (am_wf (am_wf am_wn))))))))) (hJ3 (0 : Int32))
      · refine ev_iload_n dX12_learn_19 rfl ?_
        refine ev_iconst (v := 0) dX12_learn_20 (by decide) ?_
        refine ev_aload_n dX12_learn_21 rfl ?_
        refine ev_get fk_X12_370 dX12_learn_22 kp0 (am_fvI (by decide)) ?_
        refine ev_iconst (v := 1) dX12_learn_25 (by decide) ?_
        refine ev_isub dX12_learn_26 ?_
        refine ev_eq (Option.bind_assoc _ _ _) ?_
        refine ev_callP (am_callS (as := [.int p1, .int 0, .int ((y2.2 p0 26) - 1)]) (st := [.ref p0]) ct_X12_78 dX12_learn_27 rfl (am_le rfl) (am_fit (by omega) (by decide) (by decide) (by decide)) (t_X12_in hl )) (fun v5 h5 => ?_)
        refine ev_eq am_ib ?_
        refine ev_if_ne (tgt := 37) dX12_learn_30 (by decide) (fun c6 => ?_) (fun c6 => ?_)
        · refine ev_iconst (v := 0) dX12_learn_37 (by decide) ?_
          exact ev_leaf (am_wk (am_wk (am_wf (am_wf (am_wf (am_wf (am_wf (am_wf (am_wf am_wn))))))))) (hJ3 (0 : Int32))
        · refine ev_iconst (v := 1) dX12_learn_33 (by decide) ?_
          refine ev_goto (tgt := 38) dX12_learn_34 (by decide) ?_
          exact ev_leaf (am_wk (am_wk (am_wf (am_wf (am_wf (am_wf (am_wf (am_wf (am_wf am_wn))))))))) (hJ3 (1 : Int32))
  · refine ev_iconst (v := 1) dX12_learn_38 (by decide) ?_
    refine ev_callWI (am_callV (as := [.int t3, .int 1]) (o := p0) (st := []) cv_X12_242 dX12_learn_39 kp0 rfl (am_le rfl) (am_fit (by omega) (by decide) (by decide) (by decide)) (t_X12_throwsIf hl kp0)) (fun y7 h7 => ?_)
    refine ev_if_eq (tgt := 47) dX12_learn_42 (by decide) (fun c8 => ?_) (fun c8 => ?_)
    · refine ev_iconst (v := 1) dX12_learn_47 (by decide) ?_
      refine ev_istore_n dX12_learn_48 (am_lt rfl) ?_
      refine ev_iconst (v := 0) dX12_learn_49 (by decide) ?_
      refine ev_istore dX12_learn_50 (am_lt rfl) ?_
      refine ev_weak (am_wk (am_wk (am_wf (am_wk (am_wk (am_wf (am_wf (am_wf (am_wf am_wn))))))))) (ev_loop 52 72 (fun x9 : Int32 × Int32 => [some (.ref p0), some (.int p1), none, some (.int x9.1), some (.int x9.2), none, none, none, none]) (fun t9 : Int32 => [some (.ref p0), some (.int p1), none, some (.int t9), none, none, none, none, none]) (fun x9 => (y7.2, S.2)) (fun t9 => (y7.2, S.2)) (fun x9 G9 hB9 hE9 => ?_) (fun t9 => ?_) am_fuel (1, 0))
      · unfold f_X12_learn_b52
        refine ev_iload dX12_learn_52 rfl ?_
        refine ev_aload_n dX12_learn_54 rfl ?_
        refine ev_get fk_X12_370 dX12_learn_55 kp0 (am_fvI (by decide)) ?_
        refine ev_eq am_ib ?_
        refine ev_icmp_ge (tgt := 72) dX12_learn_58 (by decide) (fun c11 => ?_) (fun c11 => ?_)
        · exact ev_leaf (am_wk (am_wk (am_wf (am_wk (am_wf (am_wf (am_wf (am_wf (am_wf am_wn))))))))) (hE9 x9.1)
        · refine ev_iload_n dX12_learn_61 rfl ?_
          refine ev_bipush (v := 16) dX12_learn_62 (by decide) ?_
          refine ev_imul dX12_learn_64 ?_
          refine ev_istore_n dX12_learn_65 (am_lt rfl) ?_
          refine ev_iinc (v := (x9.2 + 1)) dX12_learn_66 (am_lt rfl) rfl rfl ?_
          refine ev_goto (tgt := 52) dX12_learn_69 (by decide) ?_
          exact ev_leaf (am_wk (am_wk (am_wf (am_wk (am_wk (am_wf (am_wf (am_wf (am_wf am_wn))))))))) (hB9 ((x9.1 * 16), (x9.2 + 1)))
      · refine ev_iconst (v := 0) dX12_learn_72 (by decide) ?_
        refine ev_istore dX12_learn_73 (am_lt rfl) ?_
        refine ev_iconst (v := 0) dX12_learn_75 (by decide) ?_
        refine ev_istore dX12_learn_76 (am_lt rfl) ?_
        refine ev_weak (am_wk (am_wk (am_wf (am_wk (am_wk (am_wk (am_wf (am_wf (am_wf am_wn))))))))) (ev_loop 78 213 (fun x12 : Int32 × Int32 × (Nat → Nat → Int32) => [some (.ref p0), some (.int p1), none, some (.int t9), some (.int x12.1), some (.int x12.2.1), none, none, none]) (fun t12 : Int32 × (Nat → Nat → Int32) => [some (.ref p0), some (.int p1), none, none, some (.int t12.1), none, none, none, none]) (fun x12 => (x12.2.2, S.2)) (fun t12 => (t12.2, S.2)) (fun x12 G12 hB12 hE12 => ?_) (fun t12 => ?_) am_fuel (0, 0, y7.2))
        · unfold f_X12_learn_b78
          refine ev_iload dX12_learn_78 rfl ?_
          refine ev_iload_n dX12_learn_80 rfl ?_
          refine ev_eq am_ib ?_
          refine ev_icmp_ge (tgt := 213) dX12_learn_81 (by decide) (fun c45 => ?_) (fun c45 => ?_)
          · exact ev_leaf (am_wk (am_wk (am_wf (am_wf (am_wk (am_wf (am_wf (am_wf (am_wf am_wn))))))))) (hE12 (x12.1, x12.2.2))
          · refine ev_iload dX12_learn_84 rfl ?_
            refine ev_istore dX12_learn_86 (am_lt rfl) ?_
            refine ev_iconst (v := 1) dX12_learn_88 (by decide) ?_
            refine ev_istore dX12_learn_89 (am_lt rfl) ?_
            refine ev_aload_n dX12_learn_91 rfl ?_
            refine ev_get fk_X12_370 dX12_learn_92 kp0 (am_fvI (by decide)) ?_
            refine ev_iconst (v := 1) dX12_learn_95 (by decide) ?_
            refine ev_isub dX12_learn_96 ?_
            refine ev_istore dX12_learn_97 (am_lt rfl) ?_
            refine ev_eq (Option.bind_assoc _ _ _) ?_
            refine ev_weak (am_wk (am_wk (am_wf (am_wk (am_wk (am_wk (am_wk (am_wk (am_wk am_wn))))))))) (ev_loop 99 152 (fun x46 : Int32 × Int32 × Int32 × (Nat → Nat → Int32) => [some (.ref p0), some (.int p1), none, some (.int t9), some (.int x12.1), some (.int x12.2.1), some (.int x46.1), some (.int x46.2.1), some (.int x46.2.2.1)]) (fun t46 : Int32 × (Nat → Nat → Int32) => [some (.ref p0), some (.int p1), none, some (.int t9), some (.int x12.1), some (.int x12.2.1), none, some (.int t46.1), none]) (fun x46 => (x46.2.2.2, S.2)) (fun t46 => (t46.2, S.2)) (fun x46 G46 hB46 hE46 => ?_) (fun t46 => ?_) am_fuel (x12.2.1, 1, ((x12.2.2 p0 26) - 1), x12.2.2))
            · unfold f_X12_learn_b99
              refine ev_iload dX12_learn_99 rfl ?_
              refine ev_eq am_ib ?_
              refine ev_if_lt (tgt := 152) dX12_learn_101 (by decide) (fun c54 => ?_) (fun c54 => ?_)
              · exact ev_leaf (am_wk (am_wk (am_wf (am_wk (am_wk (am_wk (am_wf (am_wk (am_wf am_wn))))))))) (hE46 (x46.2.1, x46.2.2.2))
              · refine ev_aload_n dX12_learn_104 rfl ?_
                refine ev_eq (Option.bind_assoc _ _ _) ?_
                refine ev_getR fk_X12_60 (by decide) dX12_learn_105 kp0 (fun q55 k55 r55 => ?_)
                refine ev_iload dX12_learn_108 rfl ?_
                refine ev_iload dX12_learn_110 rfl ?_
                refine ev_bipush (v := 16) dX12_learn_112 (by decide) ?_
                refine ev_irem dX12_learn_114 (by decide) ?_
                refine ev_eq (Option.bind_assoc _ _ _) ?_
                refine ev_iast dX12_learn_115 k55 (fun σ56 h56 => ?_)
                refine ev_iload dX12_learn_116 rfl ?_
                refine ev_eq (Option.bind_assoc _ _ _) ?_
                refine ev_reg (cs' := 0) (sl' := 0) 137 (fun t57 : Int32 => [some (.ref p0), some (.int p1), none, some (.int t9), some (.int x12.1), some (.int x12.2.1), some (.int x46.1), none, some (.int x46.2.2.1)]) (fun t57 => [.int t57]) (fun t57 => (σ56, S.2)) (fun hJ57 => ?_) (fun t57 => ?_)
                · refine ev_eq am_ib ?_
                  refine ev_if_eq (tgt := 136) dX12_learn_118 (by decide) (fun c57 => ?_) (fun c57 => ?_)
                  · refine ev_iconst (v := 0) dX12_learn_136 (by decide) ?_
                    exact ev_leaf (am_wk (am_wk (am_wf (am_wk (am_wk (am_wk (am_wk (am_wf (am_wk am_wn))))))))) (hJ57 (0 : Int32))
                  · refine ev_aload_n dX12_learn_121 rfl ?_
                    refine ev_eq (Option.bind_assoc _ _ _) ?_
                    refine ev_getR fk_X12_60 (by decide) dX12_learn_122 kp0 (fun q58 k58 r58 => ?_)
                    refine ev_iload dX12_learn_125 rfl ?_
                    refine ev_eq (Option.bind_assoc _ _ _) ?_
                    refine ev_iald dX12_learn_127 k58 (fun v59 h59 => ?_)
                    refine ev_iconst (v := 1) dX12_learn_128 (by decide) ?_
                    refine ev_eq am_ib ?_
                    refine ev_icmp_le (tgt := 136) dX12_learn_129 (by decide) (fun c60 => ?_) (fun c60 => ?_)
                    · refine ev_iconst (v := 0) dX12_learn_136 (by decide) ?_
                      exact ev_leaf (am_wk (am_wk (am_wf (am_wk (am_wk (am_wk (am_wk (am_wf (am_wk am_wn))))))))) (hJ57 (0 : Int32))
                    · refine ev_iconst (v := 1) dX12_learn_132 (by decide) ?_
                      refine ev_goto (tgt := 137) dX12_learn_133 (by decide) ?_
                      exact ev_leaf (am_wk (am_wk (am_wf (am_wk (am_wk (am_wk (am_wk (am_wf (am_wk am_wn))))))))) (hJ57 (1 : Int32))
                · refine ev_istore dX12_learn_137 (am_lt rfl) ?_
                  refine ev_iload dX12_learn_139 rfl ?_
                  refine ev_bipush (v := 16) dX12_learn_141 (by decide) ?_
                  refine ev_idiv dX12_learn_143 (by decide) ?_
                  refine ev_istore dX12_learn_144 (am_lt rfl) ?_
                  refine ev_iinc (v := (x46.2.2.1 + (-1))) dX12_learn_146 (am_lt rfl) rfl rfl ?_
                  refine ev_goto (tgt := 99) dX12_learn_149 (by decide) ?_
                  exact ev_leaf (am_wk (am_wk (am_wf (am_wk (am_wk (am_wk (am_wk (am_wk (am_wk am_wn))))))))) (hB46 ((x46.1 / 16), t57, (x46.2.2.1 + (-1)), σ56))
            · refine ev_iload dX12_learn_152 rfl ?_
              refine ev_eq (Option.bind_assoc _ _ _) ?_
              refine ev_reg (cs' := 0) (sl' := 0) 207 (fun t61 : Int32 × (Nat → Nat → Int32) => [some (.ref p0), some (.int p1), none, some (.int t9), some (.int t61.1), some (.int x12.2.1), none, none, none]) (fun t61 => []) (fun t61 => (t61.2, S.2)) (fun hJ61 => ?_) (fun t61 => ?_)
              · refine ev_eq am_ib ?_
                refine ev_if_eq (tgt := 207) dX12_learn_154 (by decide) (fun c61 => ?_) (fun c61 => ?_)
                · exact ev_leaf (am_wk (am_wk (am_wf (am_wk (am_wk (am_wk (am_wf (am_wf (am_wf am_wn))))))))) (hJ61 (x12.1, t46.2))
                · refine ev_aload_n dX12_learn_157 rfl ?_
                  refine ev_eq (Option.bind_assoc _ _ _) ?_
                  refine ev_callP (am_callV (as := []) (o := p0) (st := []) cv_X12_379 dX12_learn_158 kp0 rfl (am_le rfl) (am_fit (by omega) (by decide) (by decide) (by decide)) (t_X12_isTold hl kp0)) (fun v62 h62 => ?_)
                  refine ev_eq am_ib ?_
                  refine ev_if_ne (tgt := 167) dX12_learn_161 (by decide) (fun c63 => ?_) (fun c63 => ?_)
                  · refine ev_iconst (v := 0) dX12_learn_167 (by decide) ?_
                    refine ev_istore dX12_learn_168 (am_lt rfl) ?_
                    refine ev_eq (Option.bind_assoc _ _ _) ?_
                    refine ev_weak (am_wk (am_wk (am_wf (am_wk (am_wk (am_wk (am_wf (am_wf (am_wk am_wn))))))))) (ev_loop 170 204 (fun x64 : Int32 × (Nat → Nat → Int32) => [some (.ref p0), some (.int p1), none, some (.int t9), some (.int x12.1), some (.int x12.2.1), none, none, some (.int x64.1)]) (fun t64 : (Nat → Nat → Int32) => [some (.ref p0), some (.int p1), none, some (.int t9), some (.int x12.1), some (.int x12.2.1), none, none, none]) (fun x64 => (x64.2, S.2)) (fun t64 => (t64, S.2)) (fun x64 G64 hB64 hE64 => ?_) (fun t64 => ?_) am_fuel (0, t46.2))
                    · unfold f_X12_learn_b170
                      refine ev_iload dX12_learn_170 rfl ?_
                      refine ev_aload_n dX12_learn_172 rfl ?_
                      refine ev_get fk_X12_370 dX12_learn_173 kp0 (am_fvI (by decide)) ?_
                      refine ev_eq am_ib ?_
                      refine ev_icmp_ge (tgt := 204) dX12_learn_176 (by decide) (fun c71 => ?_) (fun c71 => ?_)
                      · exact ev_leaf (am_wk (am_wk (am_wf (am_wk (am_wk (am_wk (am_wf (am_wf (am_wf am_wn))))))))) (hE64 x64.2)
                      · refine ev_iload dX12_learn_179 rfl ?_
                        refine ev_eq am_ib ?_
                        refine ev_if_ne (tgt := 204) dX12_learn_181 (by decide) (fun c72 => ?_) (fun c72 => ?_)
                        · exact ev_leaf (am_wk (am_wk (am_wf (am_wk (am_wk (am_wk (am_wf (am_wf (am_wf am_wn))))))))) (hE64 x64.2)
                        · refine ev_aload_n dX12_learn_184 rfl ?_
                          refine ev_eq (Option.bind_assoc _ _ _) ?_
                          refine ev_getR fk_X12_63 (by decide) dX12_learn_185 kp0 (fun q73 k73 r73 => ?_)
                          refine ev_iload dX12_learn_188 rfl ?_
                          refine ev_aload_n dX12_learn_190 rfl ?_
                          refine ev_eq (Option.bind_assoc _ _ _) ?_
                          refine ev_getR fk_X12_60 (by decide) dX12_learn_191 kp0 (fun q74 k74 r74 => ?_)
                          refine ev_iload dX12_learn_194 rfl ?_
                          refine ev_eq (Option.bind_assoc _ _ _) ?_
                          refine ev_iald dX12_learn_196 k74 (fun v75 h75 => ?_)
                          refine ev_eq (Option.bind_assoc _ _ _) ?_
                          refine ev_iast dX12_learn_197 k73 (fun σ76 h76 => ?_)
                          refine ev_iinc (v := (x64.1 + 1)) dX12_learn_198 (am_lt rfl) rfl rfl ?_
                          refine ev_goto (tgt := 170) dX12_learn_201 (by decide) ?_
                          exact ev_leaf (am_wk (am_wk (am_wf (am_wk (am_wk (am_wk (am_wf (am_wf (am_wk am_wn))))))))) (hB64 ((x64.1 + 1), σ76))
                    · refine ev_iinc (v := (x12.1 + 1)) dX12_learn_204 (am_lt rfl) rfl rfl ?_
                      exact ev_leaf (am_wk (am_wk (am_wf (am_wk (am_wk (am_wk (am_wf (am_wf (am_wf am_wn))))))))) (hJ61 ((x12.1 + 1), t64))
                  · refine ev_goto (tgt := 207) dX12_learn_164 (by decide) ?_
                    exact ev_leaf (am_wk (am_wk (am_wf (am_wk (am_wk (am_wk (am_wf (am_wf (am_wf am_wn))))))))) (hJ61 (x12.1, t46.2))
              · refine ev_iinc (v := (x12.2.1 + 1)) dX12_learn_207 (am_lt rfl) rfl rfl ?_
                refine ev_goto (tgt := 78) dX12_learn_210 (by decide) ?_
                exact ev_leaf (am_wk (am_wk (am_wf (am_wk (am_wk (am_wk (am_wf (am_wf (am_wf am_wn))))))))) (hB12 (t61.1, (x12.2.1 + 1), t61.2))
        · refine ev_iload_n dX12_learn_213 rfl ?_
          refine ev_iconst (v := (-1)) dX12_learn_214 (by decide) ?_
          refine ev_icmp_ne (tgt := 223) dX12_learn_215 (by decide) (fun c77 => ?_) (fun c77 => ?_)
          · refine ev_iload dX12_learn_223 rfl ?_
            refine ev_if_ne (tgt := 232) dX12_learn_225 (by decide) (fun c78 => ?_) (fun c78 => ?_)
            · refine ev_aload_n dX12_learn_232 rfl ?_
              refine ev_getR fk_X12_63 (by decide) dX12_learn_233 kp0 (fun q79 k79 r79 => ?_)
              refine ev_iload_n dX12_learn_236 rfl ?_
              refine ev_iald dX12_learn_237 k79 (fun v80 h80 => ?_)
              exact ev_iret dX12_learn_238 rfl rfl (by decide) (by decide) rfl
            · refine ev_iconst (v := (-1)) dX12_learn_228 (by decide) ?_
              refine ev_goto (tgt := 238) dX12_learn_229 (by decide) ?_
              exact ev_iret dX12_learn_238 rfl rfl (by decide) (by decide) rfl
          · refine ev_iload dX12_learn_218 rfl ?_
            refine ev_goto (tgt := 238) dX12_learn_220 (by decide) ?_
            exact ev_iret dX12_learn_238 rfl rfl (by decide) (by decide) rfl
    · refine ev_iconst (v := 0) dX12_learn_45 (by decide) ?_
      exact ev_iret dX12_learn_46 rfl rfl (by decide) (by decide) rfl
def f_X12_fooled_b67 (S : am_S) (a0 : Nat) (a1 : Int32) (a2 : Int32) (a3 : Int32) (x11 : Int32 × Int32) : Option ((Int32 × Int32) ⊕ (Int32)) :=
  (if x11.2 < ((2 : Int32) <<< (a3 &&& 31)) then ((f_X12_isHearing S a0 a2 a1).bind (fun v13 => (if v13 = 0 then some (.inr x11.1) else ((f_X12_clearOf S a0 a2 a1).bind (fun v15 => ((f_X12_cut x11.2 v15).bind (fun v16 => ((f_X12_wantOf S a0 a1 v16).bind (fun v17 => ((if v17 < 0 then some (0 : Int32) else some (1 : Int32)).bind (fun t18 => some (.inl ((x11.1 + t18), (x11.2 + 1)))))))))))))) else some (.inr x11.1))
def f_X12_fooled (S : am_S) (p0 : Nat) (p1 : Int32) (p2 : Int32) (p3 : Int32) : Option (Int32 × (Nat → Nat → Int32)) :=
  ((f_X12_noHouse ((am_u2 S.1 p0 0 0), S.2) p0 p1).bind (fun v1 => ((if v1 = 0 then ((f_X12_noHouse ((am_u2 S.1 p0 0 0), S.2) p0 p2).bind (fun v3 => (if v3 = 0 then some (0 : Int32) else some (1 : Int32)))) else some (1 : Int32)).bind (fun t2 => ((f_X12_throwsIf ((am_u2 S.1 p0 0 0), S.2) p0 t2 1).bind (fun y5 => (if y5.1 = 0 then ((f_X12_in p3 1 8).bind (fun v7 => ((if v7 = 0 then some (1 : Int32) else some (0 : Int32)).bind (fun t8 => ((f_X12_throwsIf (y5.2, S.2) p0 t8 2).bind (fun y9 => (if y9.1 = 0 then ((am_loop (f_X12_fooled_b67 (y9.2, S.2) p0 p1 p2 p3) am_fuel (0, ((1 : Int32) <<< (p3 &&& 31)))).bind (fun t11 => some (t11, y9.2))) else some (0, y9.2)))))))) else some (0, y5.2))))))))
set_option maxRecDepth 20000 in
theorem t_X12_fooled {E : am_E} {l : Launch} (hl : l.stackTraces = false) {S : am_S} {p0 : Nat} {p1 : Int32} {p2 : Int32} {p3 : Int32} (kp0 : am_kd p0 = 112) : am_M E l yX12_fooled (.code yX12_fooled cX12_fooled 6 (some .int)) 4 0 0 [.ref p0, .int p1, .int p2, .int p3] S ((f_X12_fooled S p0 p1 p2 p3).map (fun (x : Int32 × (Nat → Nat → Int32)) => ((.inl (some (.int x.1)), (x.2, S.2)) : am_R))) := by
  refine am_M_of (w := fun (x : Int32 × (Nat → Nat → Int32)) => ((.inl (some (.int x.1)), (x.2, S.2)) : am_R)) hl (by decide) (am_fc rfl (am_fc rfl (am_fc rfl (am_fc rfl am_fn)))) (Nat.le_of_ble_eq_true rfl) ?_
  show am_Ev E l (RX12, cX12_fooled, 6, (some .int), [], am_rm 4 0 0) (fun b a s x => am_Z E 0 0 b a s ((fun (x : Int32 × (Nat → Nat → Int32)) => ((.inl (some (.int x.1)), (x.2, S.2)) : am_R)) x)) 0 0 0 [some (.ref p0), some (.int p1), some (.int p2), some (.int p3), none, none] [] S (f_X12_fooled S p0 p1 p2 p3)
  unfold f_X12_fooled
  refine ev_aload_n dX12_fooled_0 rfl ?_
  refine ev_iconst (v := 0) dX12_fooled_1 (by decide) ?_
  refine ev_putI fk_X12_3 tyX12 tyX12_ok nmX12 rfl (by decide +kernel) (by decide) dX12_fooled_2 kp0 ?_
  refine ev_aload_n dX12_fooled_5 rfl ?_
  refine ev_aload_n dX12_fooled_6 rfl ?_
  refine ev_iload_n dX12_fooled_7 rfl ?_
  refine ev_callP (am_callV (as := [.int p1]) (o := p0) (st := [.ref p0]) cv_X12_257 dX12_fooled_8 kp0 rfl (am_le rfl) (am_fit (by omega) (by decide) (by decide) (by decide)) (t_X12_noHouse hl kp0)) (fun v1 h1 => ?_)
  refine ev_reg (cs' := 0) (sl' := 0) 27 (fun t2 : Int32 => [some (.ref p0), some (.int p1), some (.int p2), some (.int p3), none, none]) (fun t2 => [.int t2, .ref p0]) (fun t2 => ((am_u2 S.1 p0 0 0), S.2)) (fun hJ2 => ?_) (fun t2 => ?_)
  · refine ev_eq am_ib ?_
    refine ev_if_ne (tgt := 22) dX12_fooled_11 (by decide) (fun c2 => ?_) (fun c2 => ?_)
    · refine ev_iconst (v := 1) dX12_fooled_22 (by decide) ?_
      refine ev_goto (tgt := 27) dX12_fooled_23 (by decide) ?_
      exact ev_leaf (am_wk (am_wk (am_wk (am_wk (am_wf (am_wf am_wn)))))) (hJ2 (1 : Int32))
    · refine ev_aload_n dX12_fooled_14 rfl ?_
      refine ev_iload_n dX12_fooled_15 rfl ?_
      refine ev_eq (Option.bind_assoc _ _ _) ?_
      refine ev_callP (am_callV (as := [.int p2]) (o := p0) (st := [.ref p0]) cv_X12_257 dX12_fooled_16 kp0 rfl (am_le rfl) (am_fit (by omega) (by decide) (by decide) (by decide)) (t_X12_noHouse hl kp0)) (fun v3 h3 => ?_)
      refine ev_eq am_ib ?_
      refine ev_if_eq (tgt := 26) dX12_fooled_19 (by decide) (fun c4 => ?_) (fun c4 => ?_)
      · refine ev_iconst (v := 0) dX12_fooled_26 (by decide) ?_
        exact ev_leaf (am_wk (am_wk (am_wk (am_wk (am_wf (am_wf am_wn)))))) (hJ2 (0 : Int32))
      · refine ev_iconst (v := 1) dX12_fooled_22 (by decide) ?_
        refine ev_goto (tgt := 27) dX12_fooled_23 (by decide) ?_
        exact ev_leaf (am_wk (am_wk (am_wk (am_wk (am_wf (am_wf am_wn)))))) (hJ2 (1 : Int32))
  · refine ev_iconst (v := 1) dX12_fooled_27 (by decide) ?_
    refine ev_callWI (am_callV (as := [.int t2, .int 1]) (o := p0) (st := []) cv_X12_242 dX12_fooled_28 kp0 rfl (am_le rfl) (am_fit (by omega) (by decide) (by decide) (by decide)) (t_X12_throwsIf hl kp0)) (fun y5 h5 => ?_)
    refine ev_if_ne (tgt := 57) dX12_fooled_31 (by decide) (fun c6 => ?_) (fun c6 => ?_)
    · refine ev_iconst (v := 0) dX12_fooled_57 (by decide) ?_
      exact ev_iret dX12_fooled_58 rfl rfl (by decide) (by decide) rfl
    · refine ev_aload_n dX12_fooled_34 rfl ?_
      refine ev_iload_n dX12_fooled_35 rfl ?_
      refine ev_iconst (v := 1) dX12_fooled_36 (by decide) ?_
      refine ev_bipush (v := 8) dX12_fooled_37 (by decide) ?_
      refine ev_callP (am_callS (as := [.int p3, .int 1, .int 8]) (st := [.ref p0]) ct_X12_78 dX12_fooled_39 rfl (am_le rfl) (am_fit (by omega) (by decide) (by decide) (by decide)) (t_X12_in hl )) (fun v7 h7 => ?_)
      refine ev_reg (cs' := 0) (sl' := 0) 50 (fun t8 : Int32 => [some (.ref p0), some (.int p1), some (.int p2), some (.int p3), none, none]) (fun t8 => [.int t8, .ref p0]) (fun t8 => (y5.2, S.2)) (fun hJ8 => ?_) (fun t8 => ?_)
      · refine ev_eq am_ib ?_
        refine ev_if_ne (tgt := 49) dX12_fooled_42 (by decide) (fun c8 => ?_) (fun c8 => ?_)
        · refine ev_iconst (v := 0) dX12_fooled_49 (by decide) ?_
          exact ev_leaf (am_wk (am_wk (am_wk (am_wk (am_wf (am_wf am_wn)))))) (hJ8 (0 : Int32))
        · refine ev_iconst (v := 1) dX12_fooled_45 (by decide) ?_
          refine ev_goto (tgt := 50) dX12_fooled_46 (by decide) ?_
          exact ev_leaf (am_wk (am_wk (am_wk (am_wk (am_wf (am_wf am_wn)))))) (hJ8 (1 : Int32))
      · refine ev_iconst (v := 2) dX12_fooled_50 (by decide) ?_
        refine ev_callWI (am_callV (as := [.int t8, .int 2]) (o := p0) (st := []) cv_X12_242 dX12_fooled_51 kp0 rfl (am_le rfl) (am_fit (by omega) (by decide) (by decide) (by decide)) (t_X12_throwsIf hl kp0)) (fun y9 h9 => ?_)
        refine ev_if_eq (tgt := 59) dX12_fooled_54 (by decide) (fun c10 => ?_) (fun c10 => ?_)
        · refine ev_iconst (v := 0) dX12_fooled_59 (by decide) ?_
          refine ev_istore dX12_fooled_60 (am_lt rfl) ?_
          refine ev_iconst (v := 1) dX12_fooled_62 (by decide) ?_
          refine ev_iload_n dX12_fooled_63 rfl ?_
          refine ev_ishl dX12_fooled_64 ?_
          refine ev_istore dX12_fooled_65 (am_lt rfl) ?_
          refine ev_weak (am_wk (am_wk (am_wk (am_wk (am_wk (am_wk am_wn)))))) (ev_loop 67 119 (fun x11 : Int32 × Int32 => [some (.ref p0), some (.int p1), some (.int p2), some (.int p3), some (.int x11.1), some (.int x11.2)]) (fun t11 : Int32 => [none, none, none, none, some (.int t11), none]) (fun x11 => (y9.2, S.2)) (fun t11 => (y9.2, S.2)) (fun x11 G11 hB11 hE11 => ?_) (fun t11 => ?_) am_fuel (0, ((1 : Int32) <<< (p3 &&& 31))))
          · unfold f_X12_fooled_b67
            refine ev_iload dX12_fooled_67 rfl ?_
            refine ev_iconst (v := 2) dX12_fooled_69 (by decide) ?_
            refine ev_iload_n dX12_fooled_70 rfl ?_
            refine ev_ishl dX12_fooled_71 ?_
            refine ev_eq am_ib ?_
            refine ev_icmp_ge (tgt := 119) dX12_fooled_72 (by decide) (fun c19 => ?_) (fun c19 => ?_)
            · exact ev_leaf (am_wf (am_wf (am_wf (am_wf (am_wk (am_wf am_wn)))))) (hE11 x11.1)
            · refine ev_aload_n dX12_fooled_75 rfl ?_
              refine ev_iload_n dX12_fooled_76 rfl ?_
              refine ev_iload_n dX12_fooled_77 rfl ?_
              refine ev_eq (Option.bind_assoc _ _ _) ?_
              refine ev_callP (am_callV (as := [.int p2, .int p1]) (o := p0) (st := []) cv_X12_251 dX12_fooled_78 kp0 rfl (am_le rfl) (am_fit (by omega) (by decide) (by decide) (by decide)) (t_X12_isHearing hl kp0)) (fun v20 h20 => ?_)
              refine ev_eq am_ib ?_
              refine ev_if_eq (tgt := 119) dX12_fooled_81 (by decide) (fun c21 => ?_) (fun c21 => ?_)
              · exact ev_leaf (am_wf (am_wf (am_wf (am_wf (am_wk (am_wf am_wn)))))) (hE11 x11.1)
              · refine ev_iload dX12_fooled_84 rfl ?_
                refine ev_aload_n dX12_fooled_86 rfl ?_
                refine ev_iload_n dX12_fooled_87 rfl ?_
                refine ev_iload dX12_fooled_88 rfl ?_
                refine ev_aload_n dX12_fooled_90 rfl ?_
                refine ev_iload_n dX12_fooled_91 rfl ?_
                refine ev_iload_n dX12_fooled_92 rfl ?_
                refine ev_eq (Option.bind_assoc _ _ _) ?_
                refine ev_callP (am_callV (as := [.int p2, .int p1]) (o := p0) (st := [.int x11.2, .int p1, .ref p0, .int x11.1]) cv_X12_271 dX12_fooled_93 kp0 rfl (am_le rfl) (am_fit (by omega) (by decide) (by decide) (by decide)) (t_X12_clearOf hl kp0)) (fun v22 h22 => ?_)
                refine ev_eq (Option.bind_assoc _ _ _) ?_
                refine ev_callP (am_callS (as := [.int x11.2, .int v22]) (st := [.int p1, .ref p0, .int x11.1]) ct_X12_99 dX12_fooled_96 rfl (am_le rfl) (am_fit (by omega) (by decide) (by decide) (by decide)) (t_X12_cut hl )) (fun v23 h23 => ?_)
                refine ev_eq (Option.bind_assoc _ _ _) ?_
                refine ev_callP (am_callV (as := [.int p1, .int v23]) (o := p0) (st := [.int x11.1]) cv_X12_296 dX12_fooled_99 kp0 rfl (am_le rfl) (am_fit (by omega) (by decide) (by decide) (by decide)) (t_X12_wantOf hl kp0)) (fun v24 h24 => ?_)
                refine ev_eq (Option.bind_assoc _ _ _) ?_
                refine ev_reg (cs' := 0) (sl' := 0) 110 (fun t25 : Int32 => [some (.ref p0), some (.int p1), some (.int p2), some (.int p3), none, some (.int x11.2)]) (fun t25 => [.int t25, .int x11.1]) (fun t25 => (y9.2, S.2)) (fun hJ25 => ?_) (fun t25 => ?_)
                · refine ev_eq am_ib ?_
                  refine ev_if_lt (tgt := 109) dX12_fooled_102 (by decide) (fun c25 => ?_) (fun c25 => ?_)
                  · refine ev_iconst (v := 0) dX12_fooled_109 (by decide) ?_
                    exact ev_leaf (am_wk (am_wk (am_wk (am_wk (am_wf (am_wk am_wn)))))) (hJ25 (0 : Int32))
                  · refine ev_iconst (v := 1) dX12_fooled_105 (by decide) ?_
                    refine ev_goto (tgt := 110) dX12_fooled_106 (by decide) ?_
                    exact ev_leaf (am_wk (am_wk (am_wk (am_wk (am_wf (am_wk am_wn)))))) (hJ25 (1 : Int32))
                · refine ev_iadd dX12_fooled_110 ?_
                  refine ev_istore dX12_fooled_111 (am_lt rfl) ?_
                  refine ev_iinc (v := (x11.2 + 1)) dX12_fooled_113 (am_lt rfl) rfl rfl ?_
                  refine ev_goto (tgt := 67) dX12_fooled_116 (by decide) ?_
                  exact ev_leaf (am_wk (am_wk (am_wk (am_wk (am_wk (am_wk am_wn)))))) (hB11 ((x11.1 + t25), (x11.2 + 1)))
          · refine ev_iload dX12_fooled_119 rfl ?_
            exact ev_iret dX12_fooled_121 rfl rfl (by decide) (by decide) rfl
        · refine ev_iconst (v := 0) dX12_fooled_57 (by decide) ?_
          exact ev_iret dX12_fooled_58 rfl rfl (by decide) (by decide) rfl
def f_X12_count_b117 (S : am_S) (a0 : Nat) (x13 : Int32 × Int32) : Option ((Int32 × Int32) ⊕ (Int32)) :=
  ((f_X12_houses S a0).bind (fun v14 => (if x13.2 < v14 then ((f_X12_wordsOf S a0 x13.2).bind (fun v16 => some (.inl ((x13.1 + v16), (x13.2 + 1))))) else some (.inr x13.1))))
def f_X12_count_b143 (S : am_S) (a0 : Nat) (x20 : Int32 × Int32) : Option ((Int32 × Int32) ⊕ (Int32)) :=
  ((f_X12_houses S a0).bind (fun v21 => (if x20.2 < v21 then ((f_X12_of S a0 x20.2 3).bind (fun v23 => some (.inl ((x20.1 + v23), (x20.2 + 1))))) else some (.inr x20.1))))
def f_X12_count_b204 (S : am_S) (a0 : Nat) (a3 : Int32) (x36 : Int32 × Int32) : Option ((Int32 × Int32) ⊕ (Int32)) :=
  ((f_X12_wants S a0).bind (fun v37 => (if x36.2 < v37 then ((f_X12_wordOf S a0 a3 x36.2).bind (fun v39 => ((f_X12_costOf v39).bind (fun v40 => some (.inl ((x36.1 + v40), (x36.2 + 1))))))) else some (.inr x36.1))))
def f_X12_count_b193 (S : am_S) (a0 : Nat) (x33 : Int32 × Int32) : Option ((Int32 × Int32) ⊕ (Int32)) :=
  ((f_X12_houses S a0).bind (fun v34 => (if x33.2 < v34 then ((am_loop (f_X12_count_b204 S a0 x33.2) am_fuel (x33.1, 0)).bind (fun t36 => some (.inl (t36, (x33.2 + 1))))) else some (.inr x33.1))))
def f_X12_count (S : am_S) (p0 : Nat) (p1 : Int32) : Option (Int32 × (Nat → Nat → Int32)) :=
  (if p1 = 0 then ((f_X12_houses ((am_u2 S.1 p0 0 0), S.2) p0).bind (fun v2 => some (v2, (am_u2 S.1 p0 0 0)))) else (if p1 = 1 then ((f_X12_wants ((am_u2 S.1 p0 0 0), S.2) p0).bind (fun v3 => some (v3, (am_u2 S.1 p0 0 0)))) else (if p1 = 2 then ((am_rd S.2 p0 1 1).bind (fun q4 => ((am_ld (am_u2 S.1 p0 0 0) q4 2).bind (fun v5 => some (v5, (am_u2 S.1 p0 0 0)))))) else (if p1 = 3 then ((am_rd S.2 p0 1 1).bind (fun q6 => ((am_ld (am_u2 S.1 p0 0 0) q6 3).bind (fun v7 => (if v7 = 1 then ((am_rd S.2 p0 1 1).bind (fun q9 => ((am_ld (am_u2 S.1 p0 0 0) q9 186).bind (fun v10 => some (v10, (am_u2 S.1 p0 0 0)))))) else some ((-1), (am_u2 S.1 p0 0 0))))))) else (if p1 = 4 then ((am_rd S.2 p0 1 1).bind (fun q11 => ((am_ld (am_u2 S.1 p0 0 0) q11 4).bind (fun v12 => some (v12, (am_u2 S.1 p0 0 0)))))) else (if p1 = 5 then ((am_loop (f_X12_count_b117 ((am_u2 S.1 p0 0 0), S.2) p0) am_fuel (0, 0)).bind (fun t13 => some (t13, (am_u2 S.1 p0 0 0)))) else (if p1 = 6 then ((am_loop (f_X12_count_b143 ((am_u2 S.1 p0 0 0), S.2) p0) am_fuel (0, 0)).bind (fun t20 => some (t20, (am_u2 S.1 p0 0 0)))) else (if p1 = 7 then ((am_rd S.2 p0 1 1).bind (fun q27 => ((am_ld (am_u2 S.1 p0 0 0) q27 5).bind (fun v28 => some (v28, (am_u2 S.1 p0 0 0)))))) else (if p1 = 8 then ((am_rd S.2 p0 1 1).bind (fun q29 => ((am_ld (am_u2 S.1 p0 0 0) q29 6).bind (fun v30 => some (v30, (am_u2 S.1 p0 0 0)))))) else (if p1 = 9 then ((am_rd S.2 p0 1 1).bind (fun q31 => ((am_ld (am_u2 S.1 p0 0 0) q31 7).bind (fun v32 => some (v32, (am_u2 S.1 p0 0 0)))))) else (if p1 = 10 then ((am_loop (f_X12_count_b193 ((am_u2 S.1 p0 0 0), S.2) p0) am_fuel (0, 0)).bind (fun t33 => some (t33, (am_u2 S.1 p0 0 0)))) else some ((-1), (am_u2 S.1 p0 0 0)))))))))))))
set_option maxRecDepth 20000 in
theorem t_X12_count {E : am_E} {l : Launch} (hl : l.stackTraces = false) {S : am_S} {p0 : Nat} {p1 : Int32} (kp0 : am_kd p0 = 112) : am_M E l yX12_count (.code yX12_count cX12_count 5 (some .int)) 3 0 0 [.ref p0, .int p1] S ((f_X12_count S p0 p1).map (fun (x : Int32 × (Nat → Nat → Int32)) => ((.inl (some (.int x.1)), (x.2, S.2)) : am_R))) := by
  refine am_M_of (w := fun (x : Int32 × (Nat → Nat → Int32)) => ((.inl (some (.int x.1)), (x.2, S.2)) : am_R)) hl (by decide) (am_fc rfl (am_fc rfl am_fn)) (Nat.le_of_ble_eq_true rfl) ?_
  show am_Ev E l (RX12, cX12_count, 5, (some .int), [], am_rm 3 0 0) (fun b a s x => am_Z E 0 0 b a s ((fun (x : Int32 × (Nat → Nat → Int32)) => ((.inl (some (.int x.1)), (x.2, S.2)) : am_R)) x)) 0 0 0 [some (.ref p0), some (.int p1), none, none, none] [] S (f_X12_count S p0 p1)
  unfold f_X12_count
  refine ev_aload_n dX12_count_0 rfl ?_
  refine ev_iconst (v := 0) dX12_count_1 (by decide) ?_
  refine ev_putI fk_X12_3 tyX12 tyX12_ok nmX12 rfl (by decide +kernel) (by decide) dX12_count_2 kp0 ?_
  refine ev_iconst (v := 0) dX12_count_5 (by decide) ?_
  refine ev_istore_n dX12_count_6 (am_lt rfl) ?_
  refine ev_iload_n dX12_count_7 rfl ?_
  refine ev_split (fun c1_0 => ?_) (fun c1_0 => ?_)
  · refine ev_swI (tgt := 68) dX12_count_8 (by rw [c1_0]; decide) (by rw [c1_0]; decide) (by rw [c1_0]; rfl) (by decide) ?_
    refine ev_aload_n dX12_count_68 rfl ?_
    refine ev_callP (am_callV (as := []) (o := p0) (st := []) cv_X12_74 dX12_count_69 kp0 rfl (am_le rfl) (am_fit (by omega) (by decide) (by decide) (by decide)) (t_X12_houses hl kp0)) (fun v2 h2 => ?_)
    exact ev_iret dX12_count_72 rfl rfl (by decide) (by decide) rfl
  refine ev_split (fun c1_1 => ?_) (fun c1_1 => ?_)
  · refine ev_swI (tgt := 73) dX12_count_8 (by rw [c1_1]; decide) (by rw [c1_1]; decide) (by rw [c1_1]; rfl) (by decide) ?_
    refine ev_aload_n dX12_count_73 rfl ?_
    refine ev_callP (am_callV (as := []) (o := p0) (st := []) cv_X12_82 dX12_count_74 kp0 rfl (am_le rfl) (am_fit (by omega) (by decide) (by decide) (by decide)) (t_X12_wants hl kp0)) (fun v3 h3 => ?_)
    exact ev_iret dX12_count_77 rfl rfl (by decide) (by decide) rfl
  refine ev_split (fun c1_2 => ?_) (fun c1_2 => ?_)
  · refine ev_swI (tgt := 78) dX12_count_8 (by rw [c1_2]; decide) (by rw [c1_2]; decide) (by rw [c1_2]; rfl) (by decide) ?_
    refine ev_aload_n dX12_count_78 rfl ?_
    refine ev_getR fk_X12_13 (by decide) dX12_count_79 kp0 (fun q4 k4 r4 => ?_)
    refine ev_iconst (v := 2) dX12_count_82 (by decide) ?_
    refine ev_iald dX12_count_83 k4 (fun v5 h5 => ?_)
    exact ev_iret dX12_count_84 rfl rfl (by decide) (by decide) rfl
  refine ev_split (fun c1_3 => ?_) (fun c1_3 => ?_)
  · refine ev_swI (tgt := 85) dX12_count_8 (by rw [c1_3]; decide) (by rw [c1_3]; decide) (by rw [c1_3]; rfl) (by decide) ?_
    refine ev_aload_n dX12_count_85 rfl ?_
    refine ev_getR fk_X12_13 (by decide) dX12_count_86 kp0 (fun q6 k6 r6 => ?_)
    refine ev_iconst (v := 3) dX12_count_89 (by decide) ?_
    refine ev_iald dX12_count_90 k6 (fun v7 h7 => ?_)
    refine ev_iconst (v := 1) dX12_count_91 (by decide) ?_
    refine ev_icmp_ne (tgt := 106) dX12_count_92 (by decide) (fun c8 => ?_) (fun c8 => ?_)
    · refine ev_iconst (v := (-1)) dX12_count_106 (by decide) ?_
      exact ev_iret dX12_count_107 rfl rfl (by decide) (by decide) rfl
    · refine ev_aload_n dX12_count_95 rfl ?_
      refine ev_getR fk_X12_13 (by decide) dX12_count_96 kp0 (fun q9 k9 r9 => ?_)
      refine ev_sipush (v := 186) dX12_count_99 (by decide) ?_
      refine ev_iald dX12_count_102 k9 (fun v10 h10 => ?_)
      refine ev_goto (tgt := 107) dX12_count_103 (by decide) ?_
      exact ev_iret dX12_count_107 rfl rfl (by decide) (by decide) rfl
  refine ev_split (fun c1_4 => ?_) (fun c1_4 => ?_)
  · refine ev_swI (tgt := 108) dX12_count_8 (by rw [c1_4]; decide) (by rw [c1_4]; decide) (by rw [c1_4]; rfl) (by decide) ?_
    refine ev_aload_n dX12_count_108 rfl ?_
    refine ev_getR fk_X12_13 (by decide) dX12_count_109 kp0 (fun q11 k11 r11 => ?_)
    refine ev_iconst (v := 4) dX12_count_112 (by decide) ?_
    refine ev_iald dX12_count_113 k11 (fun v12 h12 => ?_)
    exact ev_iret dX12_count_114 rfl rfl (by decide) (by decide) rfl
  refine ev_split (fun c1_5 => ?_) (fun c1_5 => ?_)
  · refine ev_swI (tgt := 115) dX12_count_8 (by rw [c1_5]; decide) (by rw [c1_5]; decide) (by rw [c1_5]; rfl) (by decide) ?_
    refine ev_iconst (v := 0) dX12_count_115 (by decide) ?_
    refine ev_istore_n dX12_count_116 (am_lt rfl) ?_
    refine ev_weak (am_wk (am_wf (am_wk (am_wk (am_wf am_wn))))) (ev_loop 117 139 (fun x13 : Int32 × Int32 => [some (.ref p0), none, some (.int x13.1), some (.int x13.2), none]) (fun t13 : Int32 => [none, none, some (.int t13), none, none]) (fun x13 => ((am_u2 S.1 p0 0 0), S.2)) (fun t13 => ((am_u2 S.1 p0 0 0), S.2)) (fun x13 G13 hB13 hE13 => ?_) (fun t13 => ?_) am_fuel (0, 0))
    · unfold f_X12_count_b117
      refine ev_iload_n dX12_count_117 rfl ?_
      refine ev_aload_n dX12_count_118 rfl ?_
      refine ev_eq (Option.bind_assoc _ _ _) ?_
      refine ev_callP (am_callV (as := []) (o := p0) (st := [.int x13.2]) cv_X12_74 dX12_count_119 kp0 rfl (am_le rfl) (am_fit (by omega) (by decide) (by decide) (by decide)) (t_X12_houses hl kp0)) (fun v17 h17 => ?_)
      refine ev_eq am_ib ?_
      refine ev_icmp_ge (tgt := 139) dX12_count_122 (by decide) (fun c18 => ?_) (fun c18 => ?_)
      · exact ev_leaf (am_wf (am_wf (am_wk (am_wf (am_wf am_wn))))) (hE13 x13.1)
      · refine ev_iload_n dX12_count_125 rfl ?_
        refine ev_aload_n dX12_count_126 rfl ?_
        refine ev_iload_n dX12_count_127 rfl ?_
        refine ev_eq (Option.bind_assoc _ _ _) ?_
        refine ev_callP (am_callV (as := [.int x13.2]) (o := p0) (st := [.int x13.1]) cv_X12_260 dX12_count_128 kp0 rfl (am_le rfl) (am_fit (by omega) (by decide) (by decide) (by decide)) (t_X12_wordsOf hl kp0)) (fun v19 h19 => ?_)
        refine ev_iadd dX12_count_131 ?_
        refine ev_istore_n dX12_count_132 (am_lt rfl) ?_
        refine ev_iinc (v := (x13.2 + 1)) dX12_count_133 (am_lt rfl) rfl rfl ?_
        refine ev_goto (tgt := 117) dX12_count_136 (by decide) ?_
        exact ev_leaf (am_wk (am_wf (am_wk (am_wk (am_wf am_wn))))) (hB13 ((x13.1 + v19), (x13.2 + 1)))
    · refine ev_iload_n dX12_count_139 rfl ?_
      exact ev_iret dX12_count_140 rfl rfl (by decide) (by decide) rfl
  refine ev_split (fun c1_6 => ?_) (fun c1_6 => ?_)
  · refine ev_swI (tgt := 141) dX12_count_8 (by rw [c1_6]; decide) (by rw [c1_6]; decide) (by rw [c1_6]; rfl) (by decide) ?_
    refine ev_iconst (v := 0) dX12_count_141 (by decide) ?_
    refine ev_istore_n dX12_count_142 (am_lt rfl) ?_
    refine ev_weak (am_wk (am_wf (am_wk (am_wk (am_wf am_wn))))) (ev_loop 143 166 (fun x20 : Int32 × Int32 => [some (.ref p0), none, some (.int x20.1), some (.int x20.2), none]) (fun t20 : Int32 => [none, none, some (.int t20), none, none]) (fun x20 => ((am_u2 S.1 p0 0 0), S.2)) (fun t20 => ((am_u2 S.1 p0 0 0), S.2)) (fun x20 G20 hB20 hE20 => ?_) (fun t20 => ?_) am_fuel (0, 0))
    · unfold f_X12_count_b143
      refine ev_iload_n dX12_count_143 rfl ?_
      refine ev_aload_n dX12_count_144 rfl ?_
      refine ev_eq (Option.bind_assoc _ _ _) ?_
      refine ev_callP (am_callV (as := []) (o := p0) (st := [.int x20.2]) cv_X12_74 dX12_count_145 kp0 rfl (am_le rfl) (am_fit (by omega) (by decide) (by decide) (by decide)) (t_X12_houses hl kp0)) (fun v24 h24 => ?_)
      refine ev_eq am_ib ?_
      refine ev_icmp_ge (tgt := 166) dX12_count_148 (by decide) (fun c25 => ?_) (fun c25 => ?_)
      · exact ev_leaf (am_wf (am_wf (am_wk (am_wf (am_wf am_wn))))) (hE20 x20.1)
      · refine ev_iload_n dX12_count_151 rfl ?_
        refine ev_aload_n dX12_count_152 rfl ?_
        refine ev_iload_n dX12_count_153 rfl ?_
        refine ev_iconst (v := 3) dX12_count_154 (by decide) ?_
        refine ev_eq (Option.bind_assoc _ _ _) ?_
        refine ev_callP (am_callV (as := [.int x20.2, .int 3]) (o := p0) (st := [.int x20.1]) cv_X12_70 dX12_count_155 kp0 rfl (am_le rfl) (am_fit (by omega) (by decide) (by decide) (by decide)) (t_X12_of hl kp0)) (fun v26 h26 => ?_)
        refine ev_iadd dX12_count_158 ?_
        refine ev_istore_n dX12_count_159 (am_lt rfl) ?_
        refine ev_iinc (v := (x20.2 + 1)) dX12_count_160 (am_lt rfl) rfl rfl ?_
        refine ev_goto (tgt := 143) dX12_count_163 (by decide) ?_
        exact ev_leaf (am_wk (am_wf (am_wk (am_wk (am_wf am_wn))))) (hB20 ((x20.1 + v26), (x20.2 + 1)))
    · refine ev_iload_n dX12_count_166 rfl ?_
      exact ev_iret dX12_count_167 rfl rfl (by decide) (by decide) rfl
  refine ev_split (fun c1_7 => ?_) (fun c1_7 => ?_)
  · refine ev_swI (tgt := 168) dX12_count_8 (by rw [c1_7]; decide) (by rw [c1_7]; decide) (by rw [c1_7]; rfl) (by decide) ?_
    refine ev_aload_n dX12_count_168 rfl ?_
    refine ev_getR fk_X12_13 (by decide) dX12_count_169 kp0 (fun q27 k27 r27 => ?_)
    refine ev_iconst (v := 5) dX12_count_172 (by decide) ?_
    refine ev_iald dX12_count_173 k27 (fun v28 h28 => ?_)
    exact ev_iret dX12_count_174 rfl rfl (by decide) (by decide) rfl
  refine ev_split (fun c1_8 => ?_) (fun c1_8 => ?_)
  · refine ev_swI (tgt := 175) dX12_count_8 (by rw [c1_8]; decide) (by rw [c1_8]; decide) (by rw [c1_8]; rfl) (by decide) ?_
    refine ev_aload_n dX12_count_175 rfl ?_
    refine ev_getR fk_X12_13 (by decide) dX12_count_176 kp0 (fun q29 k29 r29 => ?_)
    refine ev_bipush (v := 6) dX12_count_179 (by decide) ?_
    refine ev_iald dX12_count_181 k29 (fun v30 h30 => ?_)
    exact ev_iret dX12_count_182 rfl rfl (by decide) (by decide) rfl
  refine ev_split (fun c1_9 => ?_) (fun c1_9 => ?_)
  · refine ev_swI (tgt := 183) dX12_count_8 (by rw [c1_9]; decide) (by rw [c1_9]; decide) (by rw [c1_9]; rfl) (by decide) ?_
    refine ev_aload_n dX12_count_183 rfl ?_
    refine ev_getR fk_X12_13 (by decide) dX12_count_184 kp0 (fun q31 k31 r31 => ?_)
    refine ev_bipush (v := 7) dX12_count_187 (by decide) ?_
    refine ev_iald dX12_count_189 k31 (fun v32 h32 => ?_)
    exact ev_iret dX12_count_190 rfl rfl (by decide) (by decide) rfl
  refine ev_split (fun c1_10 => ?_) (fun c1_10 => ?_)
  · refine ev_swI (tgt := 191) dX12_count_8 (by rw [c1_10]; decide) (by rw [c1_10]; decide) (by rw [c1_10]; rfl) (by decide) ?_
    refine ev_iconst (v := 0) dX12_count_191 (by decide) ?_
    refine ev_istore_n dX12_count_192 (am_lt rfl) ?_
    refine ev_weak (am_wk (am_wf (am_wk (am_wk (am_wf am_wn))))) (ev_loop 193 238 (fun x33 : Int32 × Int32 => [some (.ref p0), none, some (.int x33.1), some (.int x33.2), none]) (fun t33 : Int32 => [none, none, some (.int t33), none, none]) (fun x33 => ((am_u2 S.1 p0 0 0), S.2)) (fun t33 => ((am_u2 S.1 p0 0 0), S.2)) (fun x33 G33 hB33 hE33 => ?_) (fun t33 => ?_) am_fuel (0, 0))
    · unfold f_X12_count_b193
      refine ev_iload_n dX12_count_193 rfl ?_
      refine ev_aload_n dX12_count_194 rfl ?_
      refine ev_eq (Option.bind_assoc _ _ _) ?_
      refine ev_callP (am_callV (as := []) (o := p0) (st := [.int x33.2]) cv_X12_74 dX12_count_195 kp0 rfl (am_le rfl) (am_fit (by omega) (by decide) (by decide) (by decide)) (t_X12_houses hl kp0)) (fun v45 h45 => ?_)
      refine ev_eq am_ib ?_
      refine ev_icmp_ge (tgt := 238) dX12_count_198 (by decide) (fun c46 => ?_) (fun c46 => ?_)
      · exact ev_leaf (am_wf (am_wf (am_wk (am_wf (am_wf am_wn))))) (hE33 x33.1)
      · refine ev_iconst (v := 0) dX12_count_201 (by decide) ?_
        refine ev_istore dX12_count_202 (am_lt rfl) ?_
        refine ev_eq (Option.bind_assoc _ _ _) ?_
        refine ev_weak (am_wk (am_wf (am_wk (am_wk (am_wk am_wn))))) (ev_loop 204 232 (fun x47 : Int32 × Int32 => [some (.ref p0), none, some (.int x47.1), some (.int x33.2), some (.int x47.2)]) (fun t47 : Int32 => [some (.ref p0), none, some (.int t47), some (.int x33.2), none]) (fun x47 => ((am_u2 S.1 p0 0 0), S.2)) (fun t47 => ((am_u2 S.1 p0 0 0), S.2)) (fun x47 G47 hB47 hE47 => ?_) (fun t47 => ?_) am_fuel (x33.1, 0))
        · unfold f_X12_count_b204
          refine ev_iload dX12_count_204 rfl ?_
          refine ev_aload_n dX12_count_206 rfl ?_
          refine ev_eq (Option.bind_assoc _ _ _) ?_
          refine ev_callP (am_callV (as := []) (o := p0) (st := [.int x47.2]) cv_X12_82 dX12_count_207 kp0 rfl (am_le rfl) (am_fit (by omega) (by decide) (by decide) (by decide)) (t_X12_wants hl kp0)) (fun v52 h52 => ?_)
          refine ev_eq am_ib ?_
          refine ev_icmp_ge (tgt := 232) dX12_count_210 (by decide) (fun c53 => ?_) (fun c53 => ?_)
          · exact ev_leaf (am_wk (am_wf (am_wk (am_wk (am_wf am_wn))))) (hE47 x47.1)
          · refine ev_iload_n dX12_count_213 rfl ?_
            refine ev_aload_n dX12_count_214 rfl ?_
            refine ev_iload_n dX12_count_215 rfl ?_
            refine ev_iload dX12_count_216 rfl ?_
            refine ev_eq (Option.bind_assoc _ _ _) ?_
            refine ev_callP (am_callV (as := [.int x33.2, .int x47.2]) (o := p0) (st := [.int x47.1]) cv_X12_254 dX12_count_218 kp0 rfl (am_le rfl) (am_fit (by omega) (by decide) (by decide) (by decide)) (t_X12_wordOf hl kp0)) (fun v54 h54 => ?_)
            refine ev_eq (Option.bind_assoc _ _ _) ?_
            refine ev_callP (am_callS (as := [.int v54]) (st := [.int x47.1]) ct_X12_268 dX12_count_221 rfl (am_le rfl) (am_fit (by omega) (by decide) (by decide) (by decide)) (t_X12_costOf hl )) (fun v55 h55 => ?_)
            refine ev_iadd dX12_count_224 ?_
            refine ev_istore_n dX12_count_225 (am_lt rfl) ?_
            refine ev_iinc (v := (x47.2 + 1)) dX12_count_226 (am_lt rfl) rfl rfl ?_
            refine ev_goto (tgt := 204) dX12_count_229 (by decide) ?_
            exact ev_leaf (am_wk (am_wf (am_wk (am_wk (am_wk am_wn))))) (hB47 ((x47.1 + v55), (x47.2 + 1)))
        · refine ev_iinc (v := (x33.2 + 1)) dX12_count_232 (am_lt rfl) rfl rfl ?_
          refine ev_goto (tgt := 193) dX12_count_235 (by decide) ?_
          exact ev_leaf (am_wk (am_wf (am_wk (am_wk (am_wf am_wn))))) (hB33 (t47, (x33.2 + 1)))
    · refine ev_iload_n dX12_count_238 rfl ?_
      exact ev_iret dX12_count_239 rfl rfl (by decide) (by decide) rfl
  refine ev_swO (tgt := 240) dX12_count_8 (by have z1_0 := am_neI c1_0 (z := 0) (by decide); have z1_1 := am_neI c1_1 (z := 1) (by decide); have z1_2 := am_neI c1_2 (z := 2) (by decide); have z1_3 := am_neI c1_3 (z := 3) (by decide); have z1_4 := am_neI c1_4 (z := 4) (by decide); have z1_5 := am_neI c1_5 (z := 5) (by decide); have z1_6 := am_neI c1_6 (z := 6) (by decide); have z1_7 := am_neI c1_7 (z := 7) (by decide); have z1_8 := am_neI c1_8 (z := 8) (by decide); have z1_9 := am_neI c1_9 (z := 9) (by decide); have z1_10 := am_neI c1_10 (z := 10) (by decide); omega) (by decide) ?_
  refine ev_iconst (v := (-1)) dX12_count_240 (by decide) ?_
  exact ev_iret dX12_count_241 rfl rfl (by decide) (by decide) rfl
