def f_X12_readWind (S : am_S) (p0 : Nat) (p1 : Int32) : Option (Int32 × (Nat → Nat → Int32)) :=
  ((f_X12_number S p0 0 9).bind (fun y1 => ((if y1.1 < 0 then some (((-1) : Int32), y1.2) else ((f_X12_number (y1.2, S.2) p0 0 9).bind (fun y3 => some (y3.1, y3.2)))).bind (fun t2 => (if t2.1 < 0 then some (0, t2.2) else ((am_rd S.2 p0 1 1).bind (fun q5 => ((am_st t2.2 q5 6 (p1 * y1.1)).bind (fun σ6 => ((am_rd S.2 p0 1 1).bind (fun q7 => ((am_st σ6 q7 7 (p1 * t2.1)).bind (fun σ8 => some (1, σ8))))))))))))))
set_option maxRecDepth 20000 in
theorem t_X12_readWind {E : am_E} {l : Launch} (hl : l.stackTraces = false) {S : am_S} {p0 : Nat} {p1 : Int32} (kp0 : am_kd p0 = 112) : am_M E l yX12_readWind (.code yX12_readWind cX12_readWind 4 (some .boolean)) 3 0 0 [.ref p0, .int p1] S ((f_X12_readWind S p0 p1).map (fun (x : Int32 × (Nat → Nat → Int32)) => ((.inl (some (.int x.1)), (x.2, S.2)) : am_R))) := by
  refine am_M_of (w := fun (x : Int32 × (Nat → Nat → Int32)) => ((.inl (some (.int x.1)), (x.2, S.2)) : am_R)) hl (by decide) (am_fc rfl (am_fc rfl am_fn)) (Nat.le_of_ble_eq_true rfl) ?_
  show am_Ev E l (RX12, cX12_readWind, 4, (some .boolean), [], am_rm 3 0 0) (fun b a s x => am_Z E 0 0 b a s ((fun (x : Int32 × (Nat → Nat → Int32)) => ((.inl (some (.int x.1)), (x.2, S.2)) : am_R)) x)) 0 0 0 [some (.ref p0), some (.int p1), none, none] [] S (f_X12_readWind S p0 p1)
  unfold f_X12_readWind
  refine ev_aload_n dX12_readWind_0 rfl ?_
  refine ev_iconst (v := 0) dX12_readWind_1 (by decide) ?_
  refine ev_bipush (v := 9) dX12_readWind_2 (by decide) ?_
  refine ev_callWI (am_callV (as := [.int 0, .int 9]) (o := p0) (st := []) cv_X12_141 dX12_readWind_4 kp0 rfl (am_le rfl) (am_fit (by omega) (by decide) (by decide) (by decide)) (t_X12_number hl kp0)) (fun y1 h1 => ?_)
  refine ev_istore_n dX12_readWind_7 (am_lt rfl) ?_
  refine ev_iload_n dX12_readWind_8 rfl ?_
  refine ev_reg (cs' := 0) (sl' := 0) 23 (fun t2 : Int32 × (Nat → Nat → Int32) => [some (.ref p0), some (.int p1), some (.int y1.1), none]) (fun t2 => [.int t2.1]) (fun t2 => (t2.2, S.2)) (fun hJ2 => ?_) (fun t2 => ?_)
  · refine ev_eq am_ib ?_
    refine ev_if_ge (tgt := 16) dX12_readWind_9 (by decide) (fun c2 => ?_) (fun c2 => ?_)
    · refine ev_aload_n dX12_readWind_16 rfl ?_
      refine ev_iconst (v := 0) dX12_readWind_17 (by decide) ?_
      refine ev_bipush (v := 9) dX12_readWind_18 (by decide) ?_
      refine ev_eq (Option.bind_assoc _ _ _) ?_
      refine ev_callWI (am_callV (as := [.int 0, .int 9]) (o := p0) (st := []) cv_X12_141 dX12_readWind_20 kp0 rfl (am_le rfl) (am_fit (by omega) (by decide) (by decide) (by decide)) (t_X12_number hl kp0)) (fun y3 h3 => ?_)
      exact ev_leaf (am_wk (am_wk (am_wk (am_wf am_wn)))) (hJ2 (y3.1, y3.2))
    · refine ev_iconst (v := (-1)) dX12_readWind_12 (by decide) ?_
      refine ev_goto (tgt := 23) dX12_readWind_13 (by decide) ?_
      exact ev_leaf (am_wk (am_wk (am_wk (am_wf am_wn)))) (hJ2 (((-1) : Int32), y1.2))
  · refine ev_istore_n dX12_readWind_23 (am_lt rfl) ?_
    refine ev_iload_n dX12_readWind_24 rfl ?_
    refine ev_if_ge (tgt := 30) dX12_readWind_25 (by decide) (fun c4 => ?_) (fun c4 => ?_)
    · refine ev_aload_n dX12_readWind_30 rfl ?_
      refine ev_getR fk_X12_13 (by decide) dX12_readWind_31 kp0 (fun q5 k5 r5 => ?_)
      refine ev_bipush (v := 6) dX12_readWind_34 (by decide) ?_
      refine ev_iload_n dX12_readWind_36 rfl ?_
      refine ev_iload_n dX12_readWind_37 rfl ?_
      refine ev_imul dX12_readWind_38 ?_
      refine ev_iast dX12_readWind_39 k5 (fun σ6 h6 => ?_)
      refine ev_aload_n dX12_readWind_40 rfl ?_
      refine ev_getR fk_X12_13 (by decide) dX12_readWind_41 kp0 (fun q7 k7 r7 => ?_)
      refine ev_bipush (v := 7) dX12_readWind_44 (by decide) ?_
      refine ev_iload_n dX12_readWind_46 rfl ?_
      refine ev_iload_n dX12_readWind_47 rfl ?_
      refine ev_imul dX12_readWind_48 ?_
      refine ev_iast dX12_readWind_49 k7 (fun σ8 h8 => ?_)
      refine ev_iconst (v := 1) dX12_readWind_50 (by decide) ?_
      exact ev_iret dX12_readWind_51 rfl (by decide) (by decide) (by decide) rfl
    · refine ev_iconst (v := 0) dX12_readWind_28 (by decide) ?_
      exact ev_iret dX12_readWind_29 rfl (by decide) (by decide) (by decide) rfl
def f_X12_readTownLine (S : am_S) (p0 : Nat) : Option (Int32 × (Nat → Nat → Int32)) :=
  ((f_X12_isWord S p0 (1000 + 1)).bind (fun v2 => (if v2 = 0 then ((f_X12_isWord S p0 (1000 + 3)).bind (fun v5 => (if v5 = 0 then ((f_X12_isWord S p0 (1000 + 4)).bind (fun v8 => (if v8 = 0 then ((f_X12_isWord S p0 (1000 + 5)).bind (fun v11 => (if v11 = 0 then ((f_X12_isWord S p0 (1000 + 6)).bind (fun v14 => (if v14 = 0 then ((f_X12_isWord S p0 (1000 + 7)).bind (fun v17 => (if v17 = 0 then some (0, S.1) else ((f_X12_readWind S p0 (-1)).bind (fun y19 => (if y19.1 = 0 then some (0, y19.2) else some (1, y19.2))))))) else ((f_X12_readWind S p0 1).bind (fun y21 => (if y21.1 = 0 ∨ y21.1 = 1 then some (y21.1, y21.2) else none)))))) else ((f_X12_readCode S p0 0).bind (fun y23 => (if y23.1 = 0 ∨ y23.1 = 1 then some (y23.1, y23.2) else none)))))) else ((f_X12_readCode S p0 1).bind (fun y25 => (if y25.1 = 0 ∨ y25.1 = 1 then some (y25.1, y25.2) else none)))))) else ((f_X12_readWant S p0).bind (fun y27 => (if y27.1 = 0 ∨ y27.1 = 1 then some (y27.1, y27.2) else none)))))) else ((f_X12_readHouse S p0).bind (fun y29 => (if y29.1 = 0 ∨ y29.1 = 1 then some (y29.1, y29.2) else none))))))
set_option maxRecDepth 20000 in
theorem t_X12_readTownLine {E : am_E} {l : Launch} (hl : l.stackTraces = false) {S : am_S} {p0 : Nat} (kp0 : am_kd p0 = 112) : am_M E l yX12_readTownLine (.code yX12_readTownLine cX12_readTownLine 1 (some .boolean)) 8 0 0 [.ref p0] S ((f_X12_readTownLine S p0).map (fun (x : Int32 × (Nat → Nat → Int32)) => ((.inl (some (.int x.1)), (x.2, S.2)) : am_R))) := by
  refine am_M_of (w := fun (x : Int32 × (Nat → Nat → Int32)) => ((.inl (some (.int x.1)), (x.2, S.2)) : am_R)) hl (by decide) (am_fc rfl am_fn) (Nat.le_of_ble_eq_true rfl) ?_
  show am_Ev E l (RX12, cX12_readTownLine, 1, (some .boolean), [], am_rm 8 0 0) (fun b a s x => am_Z E 0 0 b a s ((fun (x : Int32 × (Nat → Nat → Int32)) => ((.inl (some (.int x.1)), (x.2, S.2)) : am_R)) x)) 0 0 0 [some (.ref p0)] [] S (f_X12_readTownLine S p0)
  unfold f_X12_readTownLine
  refine ev_aload_n dX12_readTownLine_0 rfl ?_
  refine ev_ldcS (k := 1) (tx := "house") dX12_readTownLine_1 (show (RX12, 152, "house", 1) ∈ am_sts by decide +kernel) ?_
  refine ev_callP (am_callV (as := [.ref (1000 + 1)]) (o := p0) (st := []) cv_X12_133 dX12_readTownLine_3 kp0 rfl (am_le rfl) (am_fit (by omega) (by decide) (by decide) (by decide)) (t_X12_isWord hl kp0 (by decide))) (fun v2 h2 => ?_)
  refine ev_if_eq (tgt := 14) dX12_readTownLine_6 (by decide) (fun c3 => ?_) (fun c3 => ?_)
  · refine ev_aload_n dX12_readTownLine_14 rfl ?_
    refine ev_ldcS (k := 3) (tx := "want") dX12_readTownLine_15 (show (RX12, 158, "want", 3) ∈ am_sts by decide +kernel) ?_
    refine ev_callP (am_callV (as := [.ref (1000 + 3)]) (o := p0) (st := []) cv_X12_133 dX12_readTownLine_17 kp0 rfl (am_le rfl) (am_fit (by omega) (by decide) (by decide) (by decide)) (t_X12_isWord hl kp0 (by decide))) (fun v5 h5 => ?_)
    refine ev_if_eq (tgt := 28) dX12_readTownLine_20 (by decide) (fun c6 => ?_) (fun c6 => ?_)
    · refine ev_aload_n dX12_readTownLine_28 rfl ?_
      refine ev_ldcS (k := 4) (tx := "code") dX12_readTownLine_29 (show (RX12, 163, "code", 4) ∈ am_sts by decide +kernel) ?_
      refine ev_callP (am_callV (as := [.ref (1000 + 4)]) (o := p0) (st := []) cv_X12_133 dX12_readTownLine_31 kp0 rfl (am_le rfl) (am_fit (by omega) (by decide) (by decide) (by decide)) (t_X12_isWord hl kp0 (by decide))) (fun v8 h8 => ?_)
      refine ev_if_eq (tgt := 43) dX12_readTownLine_34 (by decide) (fun c9 => ?_) (fun c9 => ?_)
      · refine ev_aload_n dX12_readTownLine_43 rfl ?_
        refine ev_ldcS (k := 5) (tx := "none") dX12_readTownLine_44 (show (RX12, 169, "none", 5) ∈ am_sts by decide +kernel) ?_
        refine ev_callP (am_callV (as := [.ref (1000 + 5)]) (o := p0) (st := []) cv_X12_133 dX12_readTownLine_46 kp0 rfl (am_le rfl) (am_fit (by omega) (by decide) (by decide) (by decide)) (t_X12_isWord hl kp0 (by decide))) (fun v11 h11 => ?_)
        refine ev_if_eq (tgt := 58) dX12_readTownLine_49 (by decide) (fun c12 => ?_) (fun c12 => ?_)
        · refine ev_aload_n dX12_readTownLine_58 rfl ?_
          refine ev_ldcS (k := 6) (tx := "wind") dX12_readTownLine_59 (show (RX12, 171, "wind", 6) ∈ am_sts by decide +kernel) ?_
          refine ev_callP (am_callV (as := [.ref (1000 + 6)]) (o := p0) (st := []) cv_X12_133 dX12_readTownLine_61 kp0 rfl (am_le rfl) (am_fit (by omega) (by decide) (by decide) (by decide)) (t_X12_isWord hl kp0 (by decide))) (fun v14 h14 => ?_)
          refine ev_if_eq (tgt := 73) dX12_readTownLine_64 (by decide) (fun c15 => ?_) (fun c15 => ?_)
          · refine ev_aload_n dX12_readTownLine_73 rfl ?_
            refine ev_ldcS (k := 7) (tx := "gale") dX12_readTownLine_74 (show (RX12, 177, "gale", 7) ∈ am_sts by decide +kernel) ?_
            refine ev_callP (am_callV (as := [.ref (1000 + 7)]) (o := p0) (st := []) cv_X12_133 dX12_readTownLine_76 kp0 rfl (am_le rfl) (am_fit (by omega) (by decide) (by decide) (by decide)) (t_X12_isWord hl kp0 (by decide))) (fun v17 h17 => ?_)
            refine ev_if_eq (tgt := 94) dX12_readTownLine_79 (by decide) (fun c18 => ?_) (fun c18 => ?_)
            · refine ev_iconst (v := 0) dX12_readTownLine_94 (by decide) ?_
              exact ev_iret dX12_readTownLine_95 rfl (by decide) (by decide) (by decide) rfl
            · refine ev_aload_n dX12_readTownLine_82 rfl ?_
              refine ev_iconst (v := (-1)) dX12_readTownLine_83 (by decide) ?_
              refine ev_callWI (am_callV (as := [.int (-1)]) (o := p0) (st := []) cv_X12_173 dX12_readTownLine_84 kp0 rfl (am_le rfl) (am_fit (by omega) (by decide) (by decide) (by decide)) (t_X12_readWind hl kp0)) (fun y19 h19 => ?_)
              refine ev_if_eq (tgt := 94) dX12_readTownLine_87 (by decide) (fun c20 => ?_) (fun c20 => ?_)
              · refine ev_iconst (v := 0) dX12_readTownLine_94 (by decide) ?_
                exact ev_iret dX12_readTownLine_95 rfl (by decide) (by decide) (by decide) rfl
              · refine ev_iconst (v := 1) dX12_readTownLine_90 (by decide) ?_
                refine ev_goto (tgt := 95) dX12_readTownLine_91 (by decide) ?_
                exact ev_iret dX12_readTownLine_95 rfl (by decide) (by decide) (by decide) rfl
          · refine ev_aload_n dX12_readTownLine_67 rfl ?_
            refine ev_iconst (v := 1) dX12_readTownLine_68 (by decide) ?_
            refine ev_callWI (am_callV (as := [.int 1]) (o := p0) (st := []) cv_X12_173 dX12_readTownLine_69 kp0 rfl (am_le rfl) (am_fit (by omega) (by decide) (by decide) (by decide)) (t_X12_readWind hl kp0)) (fun y21 h21 => ?_)
            refine ev_split (fun c22 => ?_) (fun _ => ?_)
            · exact ev_iret dX12_readTownLine_72 rfl (am_nb c22) (by decide) (by decide) rfl
            · exact ev_none
        · refine ev_aload_n dX12_readTownLine_52 rfl ?_
          refine ev_iconst (v := 0) dX12_readTownLine_53 (by decide) ?_
          refine ev_callWI (am_callV (as := [.int 0]) (o := p0) (st := []) cv_X12_165 dX12_readTownLine_54 kp0 rfl (am_le rfl) (am_fit (by omega) (by decide) (by decide) (by decide)) (t_X12_readCode hl kp0)) (fun y23 h23 => ?_)
          refine ev_split (fun c24 => ?_) (fun _ => ?_)
          · exact ev_iret dX12_readTownLine_57 rfl (am_nb c24) (by decide) (by decide) rfl
          · exact ev_none
      · refine ev_aload_n dX12_readTownLine_37 rfl ?_
        refine ev_iconst (v := 1) dX12_readTownLine_38 (by decide) ?_
        refine ev_callWI (am_callV (as := [.int 1]) (o := p0) (st := []) cv_X12_165 dX12_readTownLine_39 kp0 rfl (am_le rfl) (am_fit (by omega) (by decide) (by decide) (by decide)) (t_X12_readCode hl kp0)) (fun y25 h25 => ?_)
        refine ev_split (fun c26 => ?_) (fun _ => ?_)
        · exact ev_iret dX12_readTownLine_42 rfl (am_nb c26) (by decide) (by decide) rfl
        · exact ev_none
    · refine ev_aload_n dX12_readTownLine_23 rfl ?_
      refine ev_callWI (am_callV (as := []) (o := p0) (st := []) cv_X12_160 dX12_readTownLine_24 kp0 rfl (am_le rfl) (am_fit (by omega) (by decide) (by decide) (by decide)) (t_X12_readWant hl kp0)) (fun y27 h27 => ?_)
      refine ev_split (fun c28 => ?_) (fun _ => ?_)
      · exact ev_iret dX12_readTownLine_27 rfl (am_nb c28) (by decide) (by decide) rfl
      · exact ev_none
  · refine ev_aload_n dX12_readTownLine_9 rfl ?_
    refine ev_callWI (am_callV (as := []) (o := p0) (st := []) cv_X12_154 dX12_readTownLine_10 kp0 rfl (am_le rfl) (am_fit (by omega) (by decide) (by decide) (by decide)) (t_X12_readHouse hl kp0)) (fun y29 h29 => ?_)
    refine ev_split (fun c30 => ?_) (fun _ => ?_)
    · exact ev_iret dX12_readTownLine_13 rfl (am_nb c30) (by decide) (by decide) rfl
    · exact ev_none
def f_X12_emits (S : am_S) (p0 : Nat) (p1 : Int32) (p2 : Int32) : Option ((Nat → Nat → Int32)) :=
  ((am_rd S.2 p0 1 1).bind (fun q1 => ((am_st S.1 q1 (1060 + (2 * (S.1 p0 13))) p1).bind (fun σ2 => ((am_rd S.2 p0 1 1).bind (fun q3 => ((am_st σ2 q3 ((1060 + (2 * (σ2 p0 13))) + 1) p2).bind (fun σ4 => some (am_u2 σ4 p0 13 ((σ4 p0 13) + 1))))))))))
set_option maxRecDepth 20000 in
theorem t_X12_emits {E : am_E} {l : Launch} (hl : l.stackTraces = false) {S : am_S} {p0 : Nat} {p1 : Int32} {p2 : Int32} (kp0 : am_kd p0 = 112) : am_M E l yX12_emits (.code yX12_emits cX12_emits 3 none) 0 0 0 [.ref p0, .int p1, .int p2] S ((f_X12_emits S p0 p1 p2).map (fun (x : Nat → Nat → Int32) => ((.inl none, (x, S.2)) : am_R))) := by
  refine am_M_of (w := fun (x : Nat → Nat → Int32) => ((.inl none, (x, S.2)) : am_R)) hl (by decide) (am_fc rfl (am_fc rfl (am_fc rfl am_fn))) (Nat.le_of_ble_eq_true rfl) ?_
  show am_Ev E l (RX12, cX12_emits, 3, none, [], am_rm 0 0 0) (fun b a s x => am_Z E 0 0 b a s ((fun (x : Nat → Nat → Int32) => ((.inl none, (x, S.2)) : am_R)) x)) 0 0 0 [some (.ref p0), some (.int p1), some (.int p2)] [] S (f_X12_emits S p0 p1 p2)
  unfold f_X12_emits
  refine ev_aload_n dX12_emits_0 rfl ?_
  refine ev_getR fk_X12_13 (by decide) dX12_emits_1 kp0 (fun q1 k1 r1 => ?_)
  refine ev_sipush (v := 1060) dX12_emits_4 (by decide) ?_
  refine ev_iconst (v := 2) dX12_emits_7 (by decide) ?_
  refine ev_aload_n dX12_emits_8 rfl ?_
  refine ev_get fk_X12_179 dX12_emits_9 kp0 (am_fvI (by decide)) ?_
  refine ev_imul dX12_emits_12 ?_
  refine ev_iadd dX12_emits_13 ?_
  refine ev_iload_n dX12_emits_14 rfl ?_
  refine ev_iast dX12_emits_15 k1 (fun σ2 h2 => ?_)
  refine ev_aload_n dX12_emits_16 rfl ?_
  refine ev_getR fk_X12_13 (by decide) dX12_emits_17 kp0 (fun q3 k3 r3 => ?_)
  refine ev_sipush (v := 1060) dX12_emits_20 (by decide) ?_
  refine ev_iconst (v := 2) dX12_emits_23 (by decide) ?_
  refine ev_aload_n dX12_emits_24 rfl ?_
  refine ev_get fk_X12_179 dX12_emits_25 kp0 (am_fvI (by decide)) ?_
  refine ev_imul dX12_emits_28 ?_
  refine ev_iadd dX12_emits_29 ?_
  refine ev_iconst (v := 1) dX12_emits_30 (by decide) ?_
  refine ev_iadd dX12_emits_31 ?_
  refine ev_iload_n dX12_emits_32 rfl ?_
  refine ev_iast dX12_emits_33 k3 (fun σ4 h4 => ?_)
  refine ev_aload_n dX12_emits_34 rfl ?_
  refine ev_dup dX12_emits_35 rfl ?_
  refine ev_get fk_X12_179 dX12_emits_36 kp0 (am_fvI (by decide)) ?_
  refine ev_iconst (v := 1) dX12_emits_39 (by decide) ?_
  refine ev_iadd dX12_emits_40 ?_
  refine ev_putI fk_X12_179 tyX12 tyX12_ok nmX12 rfl (by decide +kernel) (by decide) dX12_emits_41 kp0 ?_
  exact ev_vret dX12_emits_44 rfl (by decide) (by decide) rfl
def f_X12_readPart (S : am_S) (p0 : Nat) : Option (Int32 × (Nat → Nat → Int32)) :=
  ((f_X12_letters S p0).bind (fun σ1 => ((if (σ1 p0 7) = (σ1 p0 9) then ((f_X12_number (σ1, S.2) p0 0 999).bind (fun y19 => ((f_X12_emits (y19.2, S.2) p0 5 y19.1).bind (fun σ20 => some (y19.1, σ20))))) else ((f_X12_isWord (σ1, S.2) p0 (1000 + 1)).bind (fun v4 => ((if v4 = 0 then ((f_X12_isWord (σ1, S.2) p0 (1000 + 13)).bind (fun v7 => (if v7 = 0 then ((f_X12_isWord (σ1, S.2) p0 (1000 + 14)).bind (fun v10 => (if v10 = 0 then ((f_X12_isWord (σ1, S.2) p0 (1000 + 15)).bind (fun v13 => (if v13 = 0 then ((f_X12_isWord (σ1, S.2) p0 (1000 + 16)).bind (fun v16 => (if v16 = 0 then some ((-1) : Int32) else some (4 : Int32)))) else some (3 : Int32)))) else some (2 : Int32)))) else some (1 : Int32)))) else some (0 : Int32)).bind (fun t5 => ((f_X12_emits (σ1, S.2) p0 t5 0).bind (fun σ18 => some (t5, σ18)))))))).bind (fun t2 => (if t2.1 < 0 then some (0, t2.2) else some (1, t2.2))))))
set_option maxRecDepth 20000 in
theorem t_X12_readPart {E : am_E} {l : Launch} (hl : l.stackTraces = false) {S : am_S} {p0 : Nat} (kp0 : am_kd p0 = 112) : am_M E l yX12_readPart (.code yX12_readPart cX12_readPart 2 (some .boolean)) 6 0 0 [.ref p0] S ((f_X12_readPart S p0).map (fun (x : Int32 × (Nat → Nat → Int32)) => ((.inl (some (.int x.1)), (x.2, S.2)) : am_R))) := by
  refine am_M_of (w := fun (x : Int32 × (Nat → Nat → Int32)) => ((.inl (some (.int x.1)), (x.2, S.2)) : am_R)) hl (by decide) (am_fc rfl am_fn) (Nat.le_of_ble_eq_true rfl) ?_
  show am_Ev E l (RX12, cX12_readPart, 2, (some .boolean), [], am_rm 6 0 0) (fun b a s x => am_Z E 0 0 b a s ((fun (x : Int32 × (Nat → Nat → Int32)) => ((.inl (some (.int x.1)), (x.2, S.2)) : am_R)) x)) 0 0 0 [some (.ref p0), none] [] S (f_X12_readPart S p0)
  unfold f_X12_readPart
  refine ev_aload_n dX12_readPart_0 rfl ?_
  refine ev_callWV (am_callV (as := []) (o := p0) (st := []) cv_X12_130 dX12_readPart_1 kp0 rfl (am_le rfl) (am_fit (by omega) (by decide) (by decide) (by decide)) (t_X12_letters hl kp0)) (fun σ1 h1 => ?_)
  refine ev_aload_n dX12_readPart_4 rfl ?_
  refine ev_get fk_X12_105 dX12_readPart_5 kp0 (am_fvI (by decide)) ?_
  refine ev_aload_n dX12_readPart_8 rfl ?_
  refine ev_get fk_X12_115 dX12_readPart_9 kp0 (am_fvI (by decide)) ?_
  refine ev_reg (cs' := 0) (sl' := 0) 106 (fun t2 : Int32 × (Nat → Nat → Int32) => [none, some (.int t2.1)]) (fun t2 => []) (fun t2 => (t2.2, S.2)) (fun hJ2 => ?_) (fun t2 => ?_)
  · refine ev_eq am_ib ?_
    refine ev_icmp_ne (tgt := 33) dX12_readPart_12 (by decide) (fun c2 => ?_) (fun c2 => ?_)
    · refine ev_aload_n dX12_readPart_33 rfl ?_
      refine ev_ldcS (k := 1) (tx := "house") dX12_readPart_34 (show (RX12, 152, "house", 1) ∈ am_sts by decide +kernel) ?_
      refine ev_eq (Option.bind_assoc _ _ _) ?_
      refine ev_callP (am_callV (as := [.ref (1000 + 1)]) (o := p0) (st := []) cv_X12_133 dX12_readPart_36 kp0 rfl (am_le rfl) (am_fit (by omega) (by decide) (by decide) (by decide)) (t_X12_isWord hl kp0 (by decide))) (fun v4 h4 => ?_)
      refine ev_eq (Option.bind_assoc _ _ _) ?_
      refine ev_reg (cs' := 0) (sl' := 0) 99 (fun t5 : Int32 => [some (.ref p0), none]) (fun t5 => [.int t5]) (fun t5 => (σ1, S.2)) (fun hJ5 => ?_) (fun t5 => ?_)
      · refine ev_eq am_ib ?_
        refine ev_if_eq (tgt := 46) dX12_readPart_39 (by decide) (fun c5 => ?_) (fun c5 => ?_)
        · refine ev_aload_n dX12_readPart_46 rfl ?_
          refine ev_ldcS (k := 13) (tx := "coins") dX12_readPart_47 (show (RX12, 186, "coins", 13) ∈ am_sts by decide +kernel) ?_
          refine ev_eq (Option.bind_assoc _ _ _) ?_
          refine ev_callP (am_callV (as := [.ref (1000 + 13)]) (o := p0) (st := []) cv_X12_133 dX12_readPart_49 kp0 rfl (am_le rfl) (am_fit (by omega) (by decide) (by decide) (by decide)) (t_X12_isWord hl kp0 (by decide))) (fun v7 h7 => ?_)
          refine ev_eq am_ib ?_
          refine ev_if_eq (tgt := 59) dX12_readPart_52 (by decide) (fun c8 => ?_) (fun c8 => ?_)
          · refine ev_aload_n dX12_readPart_59 rfl ?_
            refine ev_ldcS (k := 14) (tx := "urgent") dX12_readPart_60 (show (RX12, 188, "urgent", 14) ∈ am_sts by decide +kernel) ?_
            refine ev_eq (Option.bind_assoc _ _ _) ?_
            refine ev_callP (am_callV (as := [.ref (1000 + 14)]) (o := p0) (st := []) cv_X12_133 dX12_readPart_62 kp0 rfl (am_le rfl) (am_fit (by omega) (by decide) (by decide) (by decide)) (t_X12_isWord hl kp0 (by decide))) (fun v10 h10 => ?_)
            refine ev_eq am_ib ?_
            refine ev_if_eq (tgt := 72) dX12_readPart_65 (by decide) (fun c11 => ?_) (fun c11 => ?_)
            · refine ev_aload_n dX12_readPart_72 rfl ?_
              refine ev_ldcS (k := 15) (tx := "cost") dX12_readPart_73 (show (RX12, 190, "cost", 15) ∈ am_sts by decide +kernel) ?_
              refine ev_eq (Option.bind_assoc _ _ _) ?_
              refine ev_callP (am_callV (as := [.ref (1000 + 15)]) (o := p0) (st := []) cv_X12_133 dX12_readPart_75 kp0 rfl (am_le rfl) (am_fit (by omega) (by decide) (by decide) (by decide)) (t_X12_isWord hl kp0 (by decide))) (fun v13 h13 => ?_)
              refine ev_eq am_ib ?_
              refine ev_if_eq (tgt := 85) dX12_readPart_78 (by decide) (fun c14 => ?_) (fun c14 => ?_)
              · refine ev_aload_n dX12_readPart_85 rfl ?_
                refine ev_ldcS (k := 16) (tx := "waited") dX12_readPart_86 (show (RX12, 192, "waited", 16) ∈ am_sts by decide +kernel) ?_
                refine ev_eq (Option.bind_assoc _ _ _) ?_
                refine ev_callP (am_callV (as := [.ref (1000 + 16)]) (o := p0) (st := []) cv_X12_133 dX12_readPart_88 kp0 rfl (am_le rfl) (am_fit (by omega) (by decide) (by decide) (by decide)) (t_X12_isWord hl kp0 (by decide))) (fun v16 h16 => ?_)
                refine ev_eq am_ib ?_
                refine ev_if_eq (tgt := 98) dX12_readPart_91 (by decide) (fun c17 => ?_) (fun c17 => ?_)
                · refine ev_iconst (v := (-1)) dX12_readPart_98 (by decide) ?_
                  exact ev_leaf (am_wk (am_wf am_wn)) (hJ5 ((-1) : Int32))
                · refine ev_iconst (v := 4) dX12_readPart_94 (by decide) ?_
                  refine ev_goto (tgt := 99) dX12_readPart_95 (by decide) ?_
                  exact ev_leaf (am_wk (am_wf am_wn)) (hJ5 (4 : Int32))
              · refine ev_iconst (v := 3) dX12_readPart_81 (by decide) ?_
                refine ev_goto (tgt := 99) dX12_readPart_82 (by decide) ?_
                exact ev_leaf (am_wk (am_wf am_wn)) (hJ5 (3 : Int32))
            · refine ev_iconst (v := 2) dX12_readPart_68 (by decide) ?_
              refine ev_goto (tgt := 99) dX12_readPart_69 (by decide) ?_
              exact ev_leaf (am_wk (am_wf am_wn)) (hJ5 (2 : Int32))
          · refine ev_iconst (v := 1) dX12_readPart_55 (by decide) ?_
            refine ev_goto (tgt := 99) dX12_readPart_56 (by decide) ?_
            exact ev_leaf (am_wk (am_wf am_wn)) (hJ5 (1 : Int32))
        · refine ev_iconst (v := 0) dX12_readPart_42 (by decide) ?_
          refine ev_goto (tgt := 99) dX12_readPart_43 (by decide) ?_
          exact ev_leaf (am_wk (am_wf am_wn)) (hJ5 (0 : Int32))
      · refine ev_istore_n dX12_readPart_99 (am_lt rfl) ?_
        refine ev_aload_n dX12_readPart_100 rfl ?_
        refine ev_iload_n dX12_readPart_101 rfl ?_
        refine ev_iconst (v := 0) dX12_readPart_102 (by decide) ?_
        refine ev_eq (Option.bind_assoc _ _ _) ?_
        refine ev_callWV (am_callV (as := [.int t5, .int 0]) (o := p0) (st := []) cv_X12_182 dX12_readPart_103 kp0 rfl (am_le rfl) (am_fit (by omega) (by decide) (by decide) (by decide)) (t_X12_emits hl kp0)) (fun σ18 h18 => ?_)
        exact ev_leaf (am_wf (am_wk am_wn)) (hJ2 (t5, σ18))
    · refine ev_aload_n dX12_readPart_15 rfl ?_
      refine ev_iconst (v := 0) dX12_readPart_16 (by decide) ?_
      refine ev_sipush (v := 999) dX12_readPart_17 (by decide) ?_
      refine ev_eq (Option.bind_assoc _ _ _) ?_
      refine ev_callWI (am_callV (as := [.int 0, .int 999]) (o := p0) (st := []) cv_X12_141 dX12_readPart_20 kp0 rfl (am_le rfl) (am_fit (by omega) (by decide) (by decide) (by decide)) (t_X12_number hl kp0)) (fun y19 h19 => ?_)
      refine ev_istore_n dX12_readPart_23 (am_lt rfl) ?_
      refine ev_aload_n dX12_readPart_24 rfl ?_
      refine ev_iconst (v := 5) dX12_readPart_25 (by decide) ?_
      refine ev_iload_n dX12_readPart_26 rfl ?_
      refine ev_eq (Option.bind_assoc _ _ _) ?_
      refine ev_callWV (am_callV (as := [.int 5, .int y19.1]) (o := p0) (st := []) cv_X12_182 dX12_readPart_27 kp0 rfl (am_le rfl) (am_fit (by omega) (by decide) (by decide) (by decide)) (t_X12_emits hl kp0)) (fun σ20 h20 => ?_)
      refine ev_goto (tgt := 106) dX12_readPart_30 (by decide) ?_
      exact ev_leaf (am_wf (am_wk am_wn)) (hJ2 (y19.1, σ20))
  · refine ev_iload_n dX12_readPart_106 rfl ?_
    refine ev_if_lt (tgt := 114) dX12_readPart_107 (by decide) (fun c21 => ?_) (fun c21 => ?_)
    · refine ev_iconst (v := 0) dX12_readPart_114 (by decide) ?_
      exact ev_iret dX12_readPart_115 rfl (by decide) (by decide) (by decide) rfl
    · refine ev_iconst (v := 1) dX12_readPart_110 (by decide) ?_
      refine ev_goto (tgt := 115) dX12_readPart_111 (by decide) ?_
      exact ev_iret dX12_readPart_115 rfl (by decide) (by decide) (by decide) rfl
def f_X12_readSum_b9 (S : am_S) (a0 : Nat) (x3 : (Nat → Nat → Int32)) : Option (((Nat → Nat → Int32)) ⊕ (((Nat → Nat → Int32)) ⊕ (Int32 × (Nat → Nat → Int32)))) :=
  ((f_X12_sign (x3, S.2) a0 43).bind (fun y4 => (if y4.1 = 0 then some (.inr (.inr (1, y4.2))) else ((f_X12_readPart (y4.2, S.2) a0).bind (fun y6 => (if y6.1 = 0 then some (.inr (.inr (0, y6.2))) else ((f_X12_emits (y6.2, S.2) a0 6 0).bind (fun σ8 => some (.inl σ8)))))))))
def f_X12_readSum (S : am_S) (p0 : Nat) : Option (Int32 × (Nat → Nat → Int32)) :=
  ((f_X12_readPart S p0).bind (fun y1 => (if y1.1 = 0 then some (0, y1.2) else ((am_loop (f_X12_readSum_b9 (y1.2, S.2) p0) am_fuel y1.2).bind (fun r3 => match r3 with | .inl t3 => none | .inr b3 => some b3)))))
set_option maxRecDepth 20000 in
theorem t_X12_readSum {E : am_E} {l : Launch} (hl : l.stackTraces = false) {S : am_S} {p0 : Nat} (kp0 : am_kd p0 = 112) : am_M E l yX12_readSum (.code yX12_readSum cX12_readSum 1 (some .boolean)) 7 0 0 [.ref p0] S ((f_X12_readSum S p0).map (fun (x : Int32 × (Nat → Nat → Int32)) => ((.inl (some (.int x.1)), (x.2, S.2)) : am_R))) := by
  refine am_M_of (w := fun (x : Int32 × (Nat → Nat → Int32)) => ((.inl (some (.int x.1)), (x.2, S.2)) : am_R)) hl (by decide) (am_fc rfl am_fn) (Nat.le_of_ble_eq_true rfl) ?_
  show am_Ev E l (RX12, cX12_readSum, 1, (some .boolean), [], am_rm 7 0 0) (fun b a s x => am_Z E 0 0 b a s ((fun (x : Int32 × (Nat → Nat → Int32)) => ((.inl (some (.int x.1)), (x.2, S.2)) : am_R)) x)) 0 0 0 [some (.ref p0)] [] S (f_X12_readSum S p0)
  unfold f_X12_readSum
  refine ev_aload_n dX12_readSum_0 rfl ?_
  refine ev_callWI (am_callV (as := []) (o := p0) (st := []) cv_X12_194 dX12_readSum_1 kp0 rfl (am_le rfl) (am_fit (by omega) (by decide) (by decide) (by decide)) (t_X12_readPart hl kp0)) (fun y1 h1 => ?_)
  refine ev_if_ne (tgt := 9) dX12_readSum_4 (by decide) (fun c2 => ?_) (fun c2 => ?_)
  · refine ev_weak (am_wk am_wn) (ev_loopR 9 0 (fun x3 : (Nat → Nat → Int32) => [some (.ref p0)]) (fun t3 : (Nat → Nat → Int32) => [none]) (fun x3 => (x3, S.2)) (fun t3 => (t3, S.2)) (fun x3 G3 hB3 hE3 hG3 => ?_) (fun t3 => ?_) am_fuel y1.2)
    · unfold f_X12_readSum_b9
      refine ev_aload_n dX12_readSum_9 rfl ?_
      refine ev_bipush (v := 43) dX12_readSum_10 (by decide) ?_
      refine ev_eq (Option.bind_assoc _ _ _) ?_
      refine ev_callWI (am_callV (as := [.int 43]) (o := p0) (st := []) cv_X12_197 dX12_readSum_12 kp0 rfl (am_le rfl) (am_fit (by omega) (by decide) (by decide) (by decide)) (t_X12_sign hl kp0)) (fun y9 h9 => ?_)
      refine ev_eq am_ib ?_
      refine ev_if_eq (tgt := 37) dX12_readSum_15 (by decide) (fun c10 => ?_) (fun c10 => ?_)
      · refine ev_iconst (v := 1) dX12_readSum_37 (by decide) ?_
        exact ev_eq (hG3 _) (ev_iret dX12_readSum_38 rfl (by decide) (by decide) (by decide) rfl)
      · refine ev_aload_n dX12_readSum_18 rfl ?_
        refine ev_eq (Option.bind_assoc _ _ _) ?_
        refine ev_callWI (am_callV (as := []) (o := p0) (st := []) cv_X12_194 dX12_readSum_19 kp0 rfl (am_le rfl) (am_fit (by omega) (by decide) (by decide) (by decide)) (t_X12_readPart hl kp0)) (fun y11 h11 => ?_)
        refine ev_eq am_ib ?_
        refine ev_if_ne (tgt := 27) dX12_readSum_22 (by decide) (fun c12 => ?_) (fun c12 => ?_)
        · refine ev_aload_n dX12_readSum_27 rfl ?_
          refine ev_bipush (v := 6) dX12_readSum_28 (by decide) ?_
          refine ev_iconst (v := 0) dX12_readSum_30 (by decide) ?_
          refine ev_eq (Option.bind_assoc _ _ _) ?_
          refine ev_callWV (am_callV (as := [.int 6, .int 0]) (o := p0) (st := []) cv_X12_182 dX12_readSum_31 kp0 rfl (am_le rfl) (am_fit (by omega) (by decide) (by decide) (by decide)) (t_X12_emits hl kp0)) (fun σ13 h13 => ?_)
          refine ev_goto (tgt := 9) dX12_readSum_34 (by decide) ?_
          exact ev_leaf (am_wk am_wn) (hB3 σ13)
        · refine ev_iconst (v := 0) dX12_readSum_25 (by decide) ?_
          exact ev_eq (hG3 _) (ev_iret dX12_readSum_26 rfl (by decide) (by decide) (by decide) rfl)
    · exact ev_none
  · refine ev_iconst (v := 0) dX12_readSum_7 (by decide) ?_
    exact ev_iret dX12_readSum_8 rfl (by decide) (by decide) (by decide) rfl
def f_X12_readAtom_o (rc_X12_readAtom : am_S → Nat → Option (Int32 × (Nat → Nat → Int32))) (rc_X12_readCond : am_S → Nat → Option (Int32 × (Nat → Nat → Int32))) (S : am_S) (p0 : Nat) : Option (Int32 × (Nat → Nat → Int32)) :=
  ((f_X12_sign S p0 40).bind (fun y1 => (if y1.1 = 0 then ((f_X12_passes (y1.2, S.2) p0 (1000 + 10)).bind (fun y4 => (if y4.1 = 0 then ((f_X12_readSum (y4.2, S.2) p0).bind (fun y6 => (if y6.1 = 0 then some (0, y6.2) else ((f_X12_sign (y6.2, S.2) p0 60).bind (fun y8 => (if y8.1 = 0 then ((f_X12_sign (y8.2, S.2) p0 62).bind (fun y14 => (if y14.1 = 0 then some (0, y14.2) else ((f_X12_readSum (y14.2, S.2) p0).bind (fun y16 => (if y16.1 = 0 then some (0, y16.2) else ((if y8.1 = 0 then some (8 : Int32) else some (7 : Int32)).bind (fun t18 => ((f_X12_emits (y16.2, S.2) p0 t18 0).bind (fun σ19 => some (1, σ19))))))))))) else ((f_X12_readSum (y8.2, S.2) p0).bind (fun y10 => (if y10.1 = 0 then some (0, y10.2) else ((if y8.1 = 0 then some (8 : Int32) else some (7 : Int32)).bind (fun t12 => ((f_X12_emits (y10.2, S.2) p0 t12 0).bind (fun σ13 => some (1, σ13)))))))))))))) else (if (y4.2 p0 10) = 6 then some (0, y4.2) else ((rc_X12_readAtom ((am_u2 y4.2 p0 10 ((y4.2 p0 10) + 1)), S.2) p0).bind (fun y21 => (if y21.1 = 0 then some (0, y21.2) else ((f_X12_emits ((am_u2 y21.2 p0 10 ((y21.2 p0 10) - 1)), S.2) p0 9 0).bind (fun σ23 => some (1, σ23)))))))))) else (if (y1.2 p0 10) = 6 then some (0, y1.2) else ((rc_X12_readCond ((am_u2 y1.2 p0 10 ((y1.2 p0 10) + 1)), S.2) p0).bind (fun y25 => (if y25.1 = 0 then some (0, y25.2) else ((f_X12_sign ((am_u2 y25.2 p0 10 ((y25.2 p0 10) - 1)), S.2) p0 41).bind (fun y27 => (if y27.1 = 0 ∨ y27.1 = 1 then some (y27.1, y27.2) else none))))))))))
set_option maxRecDepth 20000 in
theorem to_X12_readAtom {E : am_E} {l : Launch} (hl : l.stackTraces = false) {d : Nat} (hD : 7 ≤ d) {rc_X12_readAtom : am_S → Nat → Option (Int32 × (Nat → Nat → Int32))} {rc_X12_readCond : am_S → Nat → Option (Int32 × (Nat → Nat → Int32))}  (ht_X12_readAtom : ∀ {S : am_S} {p0 : Nat} (kp0 : am_kd p0 = 112), am_M E l yX12_readAtom (.code yX12_readAtom cX12_readAtom 2 (some .boolean)) (d) 0 0 [.ref p0] S ((rc_X12_readAtom S p0).map (fun (x : Int32 × (Nat → Nat → Int32)) => ((.inl (some (.int x.1)), (x.2, S.2)) : am_R)))) (ht_X12_readCond : ∀ {S : am_S} {p0 : Nat} (kp0 : am_kd p0 = 112), am_M E l yX12_readCond (.code yX12_readCond cX12_readCond 1 (some .boolean)) (d) 0 0 [.ref p0] S ((rc_X12_readCond S p0).map (fun (x : Int32 × (Nat → Nat → Int32)) => ((.inl (some (.int x.1)), (x.2, S.2)) : am_R)))) {S : am_S} {p0 : Nat} (kp0 : am_kd p0 = 112) : am_M E l yX12_readAtom (.code yX12_readAtom cX12_readAtom 2 (some .boolean)) (d + 1) 0 0 [.ref p0] S ((f_X12_readAtom_o rc_X12_readAtom rc_X12_readCond S p0).map (fun (x : Int32 × (Nat → Nat → Int32)) => ((.inl (some (.int x.1)), (x.2, S.2)) : am_R))) := by
  refine am_M_of (w := fun (x : Int32 × (Nat → Nat → Int32)) => ((.inl (some (.int x.1)), (x.2, S.2)) : am_R)) hl (by decide) (am_fc rfl am_fn) (Nat.le_of_ble_eq_true rfl) ?_
  show am_Ev E l (RX12, cX12_readAtom, 2, (some .boolean), [], am_rm (d + 1) 0 0) (fun b a s x => am_Z E 0 0 b a s ((fun (x : Int32 × (Nat → Nat → Int32)) => ((.inl (some (.int x.1)), (x.2, S.2)) : am_R)) x)) 0 0 0 [some (.ref p0), none] [] S (f_X12_readAtom_o rc_X12_readAtom rc_X12_readCond S p0)
  unfold f_X12_readAtom_o
  refine ev_aload_n dX12_readAtom_0 rfl ?_
  refine ev_bipush (v := 40) dX12_readAtom_1 (by decide) ?_
  refine ev_callWI (am_callV (as := [.int 40]) (o := p0) (st := []) cv_X12_197 dX12_readAtom_3 kp0 rfl (am_le rfl) (am_fit (by omega) (by decide) (by decide) (by decide)) (t_X12_sign hl kp0)) (fun y1 h1 => ?_)
  refine ev_if_eq (tgt := 56) dX12_readAtom_6 (by decide) (fun c2 => ?_) (fun c2 => ?_)
  · refine ev_aload_n dX12_readAtom_56 rfl ?_
    refine ev_ldcS (k := 10) (tx := "not") dX12_readAtom_57 (show (RX12, 206, "not", 10) ∈ am_sts by decide +kernel) ?_
    refine ev_callWI (am_callV (as := [.ref (1000 + 10)]) (o := p0) (st := []) cv_X12_146 dX12_readAtom_59 kp0 rfl (am_le rfl) (am_fit (by omega) (by decide) (by decide) (by decide)) (t_X12_passes hl kp0 (by decide))) (fun y4 h4 => ?_)
    refine ev_if_eq (tgt := 114) dX12_readAtom_62 (by decide) (fun c5 => ?_) (fun c5 => ?_)
    · refine ev_aload_n dX12_readAtom_114 rfl ?_
      refine ev_callWI (am_callV (as := []) (o := p0) (st := []) cv_X12_211 dX12_readAtom_115 kp0 rfl (am_le rfl) (am_fit (by omega) (by decide) (by decide) (by decide)) (t_X12_readSum hl kp0)) (fun y6 h6 => ?_)
      refine ev_if_ne (tgt := 123) dX12_readAtom_118 (by decide) (fun c7 => ?_) (fun c7 => ?_)
      · refine ev_aload_n dX12_readAtom_123 rfl ?_
        refine ev_bipush (v := 60) dX12_readAtom_124 (by decide) ?_
        refine ev_callWI (am_callV (as := [.int 60]) (o := p0) (st := []) cv_X12_197 dX12_readAtom_126 kp0 rfl (am_le rfl) (am_fit (by omega) (by decide) (by decide) (by decide)) (t_X12_sign hl kp0)) (fun y8 h8 => ?_)
        refine ev_istore_n dX12_readAtom_129 (am_lt rfl) ?_
        refine ev_iload_n dX12_readAtom_130 rfl ?_
        refine ev_if_ne (tgt := 143) dX12_readAtom_131 (by decide) (fun c9 => ?_) (fun c9 => ?_)
        · refine ev_aload_n dX12_readAtom_143 rfl ?_
          refine ev_callWI (am_callV (as := []) (o := p0) (st := []) cv_X12_211 dX12_readAtom_144 kp0 rfl (am_le rfl) (am_fit (by omega) (by decide) (by decide) (by decide)) (t_X12_readSum hl kp0)) (fun y10 h10 => ?_)
          refine ev_if_ne (tgt := 152) dX12_readAtom_147 (by decide) (fun c11 => ?_) (fun c11 => ?_)
          · refine ev_aload_n dX12_readAtom_152 rfl ?_
            refine ev_iload_n dX12_readAtom_153 rfl ?_
            refine ev_reg (cs' := 0) (sl' := 0) 164 (fun t12 : Int32 => [none, none]) (fun t12 => [.int t12, .ref p0]) (fun t12 => (y10.2, S.2)) (fun hJ12 => ?_) (fun t12 => ?_)
            · refine ev_eq am_ib ?_
              refine ev_if_eq (tgt := 162) dX12_readAtom_154 (by decide) (fun c12 => ?_) (fun c12 => ?_)
              · refine ev_bipush (v := 8) dX12_readAtom_162 (by decide) ?_
                exact ev_leaf (am_wf (am_wf am_wn)) (hJ12 (8 : Int32))
              · refine ev_bipush (v := 7) dX12_readAtom_157 (by decide) ?_
                refine ev_goto (tgt := 164) dX12_readAtom_159 (by decide) ?_
                exact ev_leaf (am_wf (am_wf am_wn)) (hJ12 (7 : Int32))
            · refine ev_iconst (v := 0) dX12_readAtom_164 (by decide) ?_
              refine ev_callWV (am_callV (as := [.int t12, .int 0]) (o := p0) (st := []) cv_X12_182 dX12_readAtom_165 kp0 rfl (am_le rfl) (am_fit (by omega) (by decide) (by decide) (by decide)) (t_X12_emits hl kp0)) (fun σ13 h13 => ?_)
              refine ev_iconst (v := 1) dX12_readAtom_168 (by decide) ?_
              exact ev_iret dX12_readAtom_169 rfl (by decide) (by decide) (by decide) rfl
          · refine ev_iconst (v := 0) dX12_readAtom_150 (by decide) ?_
            exact ev_iret dX12_readAtom_151 rfl (by decide) (by decide) (by decide) rfl
        · refine ev_aload_n dX12_readAtom_134 rfl ?_
          refine ev_bipush (v := 62) dX12_readAtom_135 (by decide) ?_
          refine ev_callWI (am_callV (as := [.int 62]) (o := p0) (st := []) cv_X12_197 dX12_readAtom_137 kp0 rfl (am_le rfl) (am_fit (by omega) (by decide) (by decide) (by decide)) (t_X12_sign hl kp0)) (fun y14 h14 => ?_)
          refine ev_if_eq (tgt := 150) dX12_readAtom_140 (by decide) (fun c15 => ?_) (fun c15 => ?_)
          · refine ev_iconst (v := 0) dX12_readAtom_150 (by decide) ?_
            exact ev_iret dX12_readAtom_151 rfl (by decide) (by decide) (by decide) rfl
          · refine ev_aload_n dX12_readAtom_143 rfl ?_
            refine ev_callWI (am_callV (as := []) (o := p0) (st := []) cv_X12_211 dX12_readAtom_144 kp0 rfl (am_le rfl) (am_fit (by omega) (by decide) (by decide) (by decide)) (t_X12_readSum hl kp0)) (fun y16 h16 => ?_)
            refine ev_if_ne (tgt := 152) dX12_readAtom_147 (by decide) (fun c17 => ?_) (fun c17 => ?_)
            · refine ev_aload_n dX12_readAtom_152 rfl ?_
              refine ev_iload_n dX12_readAtom_153 rfl ?_
              refine ev_reg (cs' := 0) (sl' := 0) 164 (fun t18 : Int32 => [none, none]) (fun t18 => [.int t18, .ref p0]) (fun t18 => (y16.2, S.2)) (fun hJ18 => ?_) (fun t18 => ?_)
              · refine ev_eq am_ib ?_
                refine ev_if_eq (tgt := 162) dX12_readAtom_154 (by decide) (fun c18 => ?_) (fun c18 => ?_)
                · refine ev_bipush (v := 8) dX12_readAtom_162 (by decide) ?_
                  exact ev_leaf (am_wf (am_wf am_wn)) (hJ18 (8 : Int32))
                · refine ev_bipush (v := 7) dX12_readAtom_157 (by decide) ?_
                  refine ev_goto (tgt := 164) dX12_readAtom_159 (by decide) ?_
                  exact ev_leaf (am_wf (am_wf am_wn)) (hJ18 (7 : Int32))
              · refine ev_iconst (v := 0) dX12_readAtom_164 (by decide) ?_
                refine ev_callWV (am_callV (as := [.int t18, .int 0]) (o := p0) (st := []) cv_X12_182 dX12_readAtom_165 kp0 rfl (am_le rfl) (am_fit (by omega) (by decide) (by decide) (by decide)) (t_X12_emits hl kp0)) (fun σ19 h19 => ?_)
                refine ev_iconst (v := 1) dX12_readAtom_168 (by decide) ?_
                exact ev_iret dX12_readAtom_169 rfl (by decide) (by decide) (by decide) rfl
            · refine ev_iconst (v := 0) dX12_readAtom_150 (by decide) ?_
              exact ev_iret dX12_readAtom_151 rfl (by decide) (by decide) (by decide) rfl
      · refine ev_iconst (v := 0) dX12_readAtom_121 (by decide) ?_
        exact ev_iret dX12_readAtom_122 rfl (by decide) (by decide) (by decide) rfl
    · refine ev_aload_n dX12_readAtom_65 rfl ?_
      refine ev_get fk_X12_200 dX12_readAtom_66 kp0 (am_fvI (by decide)) ?_
      refine ev_bipush (v := 6) dX12_readAtom_69 (by decide) ?_
      refine ev_icmp_ne (tgt := 76) dX12_readAtom_71 (by decide) (fun c20 => ?_) (fun c20 => ?_)
      · refine ev_aload_n dX12_readAtom_76 rfl ?_
        refine ev_dup dX12_readAtom_77 rfl ?_
        refine ev_get fk_X12_200 dX12_readAtom_78 kp0 (am_fvI (by decide)) ?_
        refine ev_iconst (v := 1) dX12_readAtom_81 (by decide) ?_
        refine ev_iadd dX12_readAtom_82 ?_
        refine ev_putI fk_X12_200 tyX12 tyX12_ok nmX12 rfl (by decide +kernel) (by decide) dX12_readAtom_83 kp0 ?_
        refine ev_aload_n dX12_readAtom_86 rfl ?_
        refine ev_callWI (am_callV (as := []) (o := p0) (st := []) cv_X12_208 dX12_readAtom_87 kp0 rfl (am_le rfl) (am_fit (by omega) (by decide) (by decide) (by decide)) (ht_X12_readAtom kp0)) (fun y21 h21 => ?_)
        refine ev_if_ne (tgt := 95) dX12_readAtom_90 (by decide) (fun c22 => ?_) (fun c22 => ?_)
        · refine ev_aload_n dX12_readAtom_95 rfl ?_
          refine ev_dup dX12_readAtom_96 rfl ?_
          refine ev_get fk_X12_200 dX12_readAtom_97 kp0 (am_fvI (by decide)) ?_
          refine ev_iconst (v := 1) dX12_readAtom_100 (by decide) ?_
          refine ev_isub dX12_readAtom_101 ?_
          refine ev_putI fk_X12_200 tyX12 tyX12_ok nmX12 rfl (by decide +kernel) (by decide) dX12_readAtom_102 kp0 ?_
          refine ev_aload_n dX12_readAtom_105 rfl ?_
          refine ev_bipush (v := 9) dX12_readAtom_106 (by decide) ?_
          refine ev_iconst (v := 0) dX12_readAtom_108 (by decide) ?_
          refine ev_callWV (am_callV (as := [.int 9, .int 0]) (o := p0) (st := []) cv_X12_182 dX12_readAtom_109 kp0 rfl (am_le rfl) (am_fit (by omega) (by decide) (by decide) (by decide)) (t_X12_emits hl kp0)) (fun σ23 h23 => ?_)
          refine ev_iconst (v := 1) dX12_readAtom_112 (by decide) ?_
          exact ev_iret dX12_readAtom_113 rfl (by decide) (by decide) (by decide) rfl
        · refine ev_iconst (v := 0) dX12_readAtom_93 (by decide) ?_
          exact ev_iret dX12_readAtom_94 rfl (by decide) (by decide) (by decide) rfl
      · refine ev_iconst (v := 0) dX12_readAtom_74 (by decide) ?_
        exact ev_iret dX12_readAtom_75 rfl (by decide) (by decide) (by decide) rfl
  · refine ev_aload_n dX12_readAtom_9 rfl ?_
    refine ev_get fk_X12_200 dX12_readAtom_10 kp0 (am_fvI (by decide)) ?_
    refine ev_bipush (v := 6) dX12_readAtom_13 (by decide) ?_
    refine ev_icmp_ne (tgt := 20) dX12_readAtom_15 (by decide) (fun c24 => ?_) (fun c24 => ?_)
    · refine ev_aload_n dX12_readAtom_20 rfl ?_
      refine ev_dup dX12_readAtom_21 rfl ?_
      refine ev_get fk_X12_200 dX12_readAtom_22 kp0 (am_fvI (by decide)) ?_
      refine ev_iconst (v := 1) dX12_readAtom_25 (by decide) ?_
      refine ev_iadd dX12_readAtom_26 ?_
      refine ev_putI fk_X12_200 tyX12 tyX12_ok nmX12 rfl (by decide +kernel) (by decide) dX12_readAtom_27 kp0 ?_
      refine ev_aload_n dX12_readAtom_30 rfl ?_
      refine ev_callWI (am_callV (as := []) (o := p0) (st := []) cv_X12_203 dX12_readAtom_31 kp0 rfl (am_le rfl) (am_fit (by omega) (by decide) (by decide) (by decide)) (ht_X12_readCond kp0)) (fun y25 h25 => ?_)
      refine ev_if_ne (tgt := 39) dX12_readAtom_34 (by decide) (fun c26 => ?_) (fun c26 => ?_)
      · refine ev_aload_n dX12_readAtom_39 rfl ?_
        refine ev_dup dX12_readAtom_40 rfl ?_
        refine ev_get fk_X12_200 dX12_readAtom_41 kp0 (am_fvI (by decide)) ?_
        refine ev_iconst (v := 1) dX12_readAtom_44 (by decide) ?_
        refine ev_isub dX12_readAtom_45 ?_
        refine ev_putI fk_X12_200 tyX12 tyX12_ok nmX12 rfl (by decide +kernel) (by decide) dX12_readAtom_46 kp0 ?_
        refine ev_aload_n dX12_readAtom_49 rfl ?_
        refine ev_bipush (v := 41) dX12_readAtom_50 (by decide) ?_
        refine ev_callWI (am_callV (as := [.int 41]) (o := p0) (st := []) cv_X12_197 dX12_readAtom_52 kp0 rfl (am_le rfl) (am_fit (by omega) (by decide) (by decide) (by decide)) (t_X12_sign hl kp0)) (fun y27 h27 => ?_)
        refine ev_split (fun c28 => ?_) (fun _ => ?_)
        · exact ev_iret dX12_readAtom_55 rfl (am_nb c28) (by decide) (by decide) rfl
        · exact ev_none
      · refine ev_iconst (v := 0) dX12_readAtom_37 (by decide) ?_
        exact ev_iret dX12_readAtom_38 rfl (by decide) (by decide) (by decide) rfl
    · refine ev_iconst (v := 0) dX12_readAtom_18 (by decide) ?_
      exact ev_iret dX12_readAtom_19 rfl (by decide) (by decide) (by decide) rfl
def f_X12_readAllOf_b9 (rc_X12_readAtom : am_S → Nat → Option (Int32 × (Nat → Nat → Int32))) (S : am_S) (a0 : Nat) (x3 : (Nat → Nat → Int32)) : Option (((Nat → Nat → Int32)) ⊕ (((Nat → Nat → Int32)) ⊕ (Int32 × (Nat → Nat → Int32)))) :=
  ((f_X12_passes (x3, S.2) a0 (1000 + 20)).bind (fun y5 => (if y5.1 = 0 then some (.inr (.inr (1, y5.2))) else ((rc_X12_readAtom (y5.2, S.2) a0).bind (fun y7 => (if y7.1 = 0 then some (.inr (.inr (0, y7.2))) else ((f_X12_emits (y7.2, S.2) a0 10 0).bind (fun σ9 => some (.inl σ9)))))))))
def f_X12_readAllOf_o (rc_X12_readAtom : am_S → Nat → Option (Int32 × (Nat → Nat → Int32))) (S : am_S) (p0 : Nat) : Option (Int32 × (Nat → Nat → Int32)) :=
  ((rc_X12_readAtom S p0).bind (fun y1 => (if y1.1 = 0 then some (0, y1.2) else ((am_loop (f_X12_readAllOf_b9 rc_X12_readAtom (y1.2, S.2) p0) am_fuel y1.2).bind (fun r3 => match r3 with | .inl t3 => none | .inr b3 => some b3)))))
set_option maxRecDepth 20000 in
theorem to_X12_readAllOf {E : am_E} {l : Launch} (hl : l.stackTraces = false) {d : Nat} (hD : 6 ≤ d) {rc_X12_readAtom : am_S → Nat → Option (Int32 × (Nat → Nat → Int32))}  (ht_X12_readAtom : ∀ {S : am_S} {p0 : Nat} (kp0 : am_kd p0 = 112), am_M E l yX12_readAtom (.code yX12_readAtom cX12_readAtom 2 (some .boolean)) (d) 0 0 [.ref p0] S ((rc_X12_readAtom S p0).map (fun (x : Int32 × (Nat → Nat → Int32)) => ((.inl (some (.int x.1)), (x.2, S.2)) : am_R)))) {S : am_S} {p0 : Nat} (kp0 : am_kd p0 = 112) : am_M E l yX12_readAllOf (.code yX12_readAllOf cX12_readAllOf 1 (some .boolean)) (d + 1) 0 0 [.ref p0] S ((f_X12_readAllOf_o rc_X12_readAtom S p0).map (fun (x : Int32 × (Nat → Nat → Int32)) => ((.inl (some (.int x.1)), (x.2, S.2)) : am_R))) := by
  refine am_M_of (w := fun (x : Int32 × (Nat → Nat → Int32)) => ((.inl (some (.int x.1)), (x.2, S.2)) : am_R)) hl (by decide) (am_fc rfl am_fn) (Nat.le_of_ble_eq_true rfl) ?_
  show am_Ev E l (RX12, cX12_readAllOf, 1, (some .boolean), [], am_rm (d + 1) 0 0) (fun b a s x => am_Z E 0 0 b a s ((fun (x : Int32 × (Nat → Nat → Int32)) => ((.inl (some (.int x.1)), (x.2, S.2)) : am_R)) x)) 0 0 0 [some (.ref p0)] [] S (f_X12_readAllOf_o rc_X12_readAtom S p0)
  unfold f_X12_readAllOf_o
  refine ev_aload_n dX12_readAllOf_0 rfl ?_
  refine ev_callWI (am_callV (as := []) (o := p0) (st := []) cv_X12_208 dX12_readAllOf_1 kp0 rfl (am_le rfl) (am_fit (by omega) (by decide) (by decide) (by decide)) (ht_X12_readAtom kp0)) (fun y1 h1 => ?_)
  refine ev_if_ne (tgt := 9) dX12_readAllOf_4 (by decide) (fun c2 => ?_) (fun c2 => ?_)
  · refine ev_weak (am_wk am_wn) (ev_loopR 9 0 (fun x3 : (Nat → Nat → Int32) => [some (.ref p0)]) (fun t3 : (Nat → Nat → Int32) => [none]) (fun x3 => (x3, S.2)) (fun t3 => (t3, S.2)) (fun x3 G3 hB3 hE3 hG3 => ?_) (fun t3 => ?_) am_fuel y1.2)
    · unfold f_X12_readAllOf_b9
      refine ev_aload_n dX12_readAllOf_9 rfl ?_
      refine ev_ldcS (k := 20) (tx := "and") dX12_readAllOf_10 (show (RX12, 214, "and", 20) ∈ am_sts by decide +kernel) ?_
      refine ev_eq (Option.bind_assoc _ _ _) ?_
      refine ev_callWI (am_callV (as := [.ref (1000 + 20)]) (o := p0) (st := []) cv_X12_146 dX12_readAllOf_12 kp0 rfl (am_le rfl) (am_fit (by omega) (by decide) (by decide) (by decide)) (t_X12_passes hl kp0 (by decide))) (fun y11 h11 => ?_)
      refine ev_eq am_ib ?_
      refine ev_if_eq (tgt := 37) dX12_readAllOf_15 (by decide) (fun c12 => ?_) (fun c12 => ?_)
      · refine ev_iconst (v := 1) dX12_readAllOf_37 (by decide) ?_
        exact ev_eq (hG3 _) (ev_iret dX12_readAllOf_38 rfl (by decide) (by decide) (by decide) rfl)
      · refine ev_aload_n dX12_readAllOf_18 rfl ?_
        refine ev_eq (Option.bind_assoc _ _ _) ?_
        refine ev_callWI (am_callV (as := []) (o := p0) (st := []) cv_X12_208 dX12_readAllOf_19 kp0 rfl (am_le rfl) (am_fit (by omega) (by decide) (by decide) (by decide)) (ht_X12_readAtom kp0)) (fun y13 h13 => ?_)
        refine ev_eq am_ib ?_
        refine ev_if_ne (tgt := 27) dX12_readAllOf_22 (by decide) (fun c14 => ?_) (fun c14 => ?_)
        · refine ev_aload_n dX12_readAllOf_27 rfl ?_
          refine ev_bipush (v := 10) dX12_readAllOf_28 (by decide) ?_
          refine ev_iconst (v := 0) dX12_readAllOf_30 (by decide) ?_
          refine ev_eq (Option.bind_assoc _ _ _) ?_
          refine ev_callWV (am_callV (as := [.int 10, .int 0]) (o := p0) (st := []) cv_X12_182 dX12_readAllOf_31 kp0 rfl (am_le rfl) (am_fit (by omega) (by decide) (by decide) (by decide)) (t_X12_emits hl kp0)) (fun σ15 h15 => ?_)
          refine ev_goto (tgt := 9) dX12_readAllOf_34 (by decide) ?_
          exact ev_leaf (am_wk am_wn) (hB3 σ15)
        · refine ev_iconst (v := 0) dX12_readAllOf_25 (by decide) ?_
          exact ev_eq (hG3 _) (ev_iret dX12_readAllOf_26 rfl (by decide) (by decide) (by decide) rfl)
    · exact ev_none
  · refine ev_iconst (v := 0) dX12_readAllOf_7 (by decide) ?_
    exact ev_iret dX12_readAllOf_8 rfl (by decide) (by decide) (by decide) rfl
def f_X12_readCond_b9 (rc_X12_readAllOf : am_S → Nat → Option (Int32 × (Nat → Nat → Int32))) (S : am_S) (a0 : Nat) (x3 : (Nat → Nat → Int32)) : Option (((Nat → Nat → Int32)) ⊕ (((Nat → Nat → Int32)) ⊕ (Int32 × (Nat → Nat → Int32)))) :=
  ((f_X12_passes (x3, S.2) a0 (1000 + 21)).bind (fun y5 => (if y5.1 = 0 then some (.inr (.inr (1, y5.2))) else ((rc_X12_readAllOf (y5.2, S.2) a0).bind (fun y7 => (if y7.1 = 0 then some (.inr (.inr (0, y7.2))) else ((f_X12_emits (y7.2, S.2) a0 11 0).bind (fun σ9 => some (.inl σ9)))))))))
def f_X12_readCond_o (rc_X12_readAllOf : am_S → Nat → Option (Int32 × (Nat → Nat → Int32))) (S : am_S) (p0 : Nat) : Option (Int32 × (Nat → Nat → Int32)) :=
  ((rc_X12_readAllOf S p0).bind (fun y1 => (if y1.1 = 0 then some (0, y1.2) else ((am_loop (f_X12_readCond_b9 rc_X12_readAllOf (y1.2, S.2) p0) am_fuel y1.2).bind (fun r3 => match r3 with | .inl t3 => none | .inr b3 => some b3)))))
set_option maxRecDepth 20000 in
theorem to_X12_readCond {E : am_E} {l : Launch} (hl : l.stackTraces = false) {d : Nat} (hD : 6 ≤ d) {rc_X12_readAllOf : am_S → Nat → Option (Int32 × (Nat → Nat → Int32))}  (ht_X12_readAllOf : ∀ {S : am_S} {p0 : Nat} (kp0 : am_kd p0 = 112), am_M E l yX12_readAllOf (.code yX12_readAllOf cX12_readAllOf 1 (some .boolean)) (d) 0 0 [.ref p0] S ((rc_X12_readAllOf S p0).map (fun (x : Int32 × (Nat → Nat → Int32)) => ((.inl (some (.int x.1)), (x.2, S.2)) : am_R)))) {S : am_S} {p0 : Nat} (kp0 : am_kd p0 = 112) : am_M E l yX12_readCond (.code yX12_readCond cX12_readCond 1 (some .boolean)) (d + 1) 0 0 [.ref p0] S ((f_X12_readCond_o rc_X12_readAllOf S p0).map (fun (x : Int32 × (Nat → Nat → Int32)) => ((.inl (some (.int x.1)), (x.2, S.2)) : am_R))) := by
  refine am_M_of (w := fun (x : Int32 × (Nat → Nat → Int32)) => ((.inl (some (.int x.1)), (x.2, S.2)) : am_R)) hl (by decide) (am_fc rfl am_fn) (Nat.le_of_ble_eq_true rfl) ?_
  show am_Ev E l (RX12, cX12_readCond, 1, (some .boolean), [], am_rm (d + 1) 0 0) (fun b a s x => am_Z E 0 0 b a s ((fun (x : Int32 × (Nat → Nat → Int32)) => ((.inl (some (.int x.1)), (x.2, S.2)) : am_R)) x)) 0 0 0 [some (.ref p0)] [] S (f_X12_readCond_o rc_X12_readAllOf S p0)
  unfold f_X12_readCond_o
  refine ev_aload_n dX12_readCond_0 rfl ?_
  refine ev_callWI (am_callV (as := []) (o := p0) (st := []) cv_X12_216 dX12_readCond_1 kp0 rfl (am_le rfl) (am_fit (by omega) (by decide) (by decide) (by decide)) (ht_X12_readAllOf kp0)) (fun y1 h1 => ?_)
  refine ev_if_ne (tgt := 9) dX12_readCond_4 (by decide) (fun c2 => ?_) (fun c2 => ?_)
  · refine ev_weak (am_wk am_wn) (ev_loopR 9 0 (fun x3 : (Nat → Nat → Int32) => [some (.ref p0)]) (fun t3 : (Nat → Nat → Int32) => [none]) (fun x3 => (x3, S.2)) (fun t3 => (t3, S.2)) (fun x3 G3 hB3 hE3 hG3 => ?_) (fun t3 => ?_) am_fuel y1.2)
    · unfold f_X12_readCond_b9
      refine ev_aload_n dX12_readCond_9 rfl ?_
      refine ev_ldcS (k := 21) (tx := "or") dX12_readCond_10 (show (RX12, 219, "or", 21) ∈ am_sts by decide +kernel) ?_
      refine ev_eq (Option.bind_assoc _ _ _) ?_
      refine ev_callWI (am_callV (as := [.ref (1000 + 21)]) (o := p0) (st := []) cv_X12_146 dX12_readCond_12 kp0 rfl (am_le rfl) (am_fit (by omega) (by decide) (by decide) (by decide)) (t_X12_passes hl kp0 (by decide))) (fun y11 h11 => ?_)
      refine ev_eq am_ib ?_
      refine ev_if_eq (tgt := 37) dX12_readCond_15 (by decide) (fun c12 => ?_) (fun c12 => ?_)
      · refine ev_iconst (v := 1) dX12_readCond_37 (by decide) ?_
        exact ev_eq (hG3 _) (ev_iret dX12_readCond_38 rfl (by decide) (by decide) (by decide) rfl)
      · refine ev_aload_n dX12_readCond_18 rfl ?_
        refine ev_eq (Option.bind_assoc _ _ _) ?_
        refine ev_callWI (am_callV (as := []) (o := p0) (st := []) cv_X12_216 dX12_readCond_19 kp0 rfl (am_le rfl) (am_fit (by omega) (by decide) (by decide) (by decide)) (ht_X12_readAllOf kp0)) (fun y13 h13 => ?_)
        refine ev_eq am_ib ?_
        refine ev_if_ne (tgt := 27) dX12_readCond_22 (by decide) (fun c14 => ?_) (fun c14 => ?_)
        · refine ev_aload_n dX12_readCond_27 rfl ?_
          refine ev_bipush (v := 11) dX12_readCond_28 (by decide) ?_
          refine ev_iconst (v := 0) dX12_readCond_30 (by decide) ?_
          refine ev_eq (Option.bind_assoc _ _ _) ?_
          refine ev_callWV (am_callV (as := [.int 11, .int 0]) (o := p0) (st := []) cv_X12_182 dX12_readCond_31 kp0 rfl (am_le rfl) (am_fit (by omega) (by decide) (by decide) (by decide)) (t_X12_emits hl kp0)) (fun σ15 h15 => ?_)
          refine ev_goto (tgt := 9) dX12_readCond_34 (by decide) ?_
          exact ev_leaf (am_wk am_wn) (hB3 σ15)
        · refine ev_iconst (v := 0) dX12_readCond_25 (by decide) ?_
          exact ev_eq (hG3 _) (ev_iret dX12_readCond_26 rfl (by decide) (by decide) (by decide) rfl)
    · exact ev_none
  · refine ev_iconst (v := 0) dX12_readCond_7 (by decide) ?_
    exact ev_iret dX12_readCond_8 rfl (by decide) (by decide) (by decide) rfl
def f_rec_X12_readAtom : Nat → Nat → am_S → Nat → Option (Int32 × (Nat → Nat → Int32))
  | 0, _ => fun _ _ => none
  | n + 1, 0 => f_X12_readAtom_o (f_rec_X12_readAtom n 0) (f_rec_X12_readAtom n 2)
  | n + 1, 1 => f_X12_readAllOf_o (f_rec_X12_readAtom n 0)
  | n + 1, _ => f_X12_readCond_o (f_rec_X12_readAtom n 1)
def f_X12_readAtom (n : Nat) : am_S → Nat → Option (Int32 × (Nat → Nat → Int32)) := f_rec_X12_readAtom n 0
def f_X12_readAllOf (n : Nat) : am_S → Nat → Option (Int32 × (Nat → Nat → Int32)) := f_rec_X12_readAtom n 1
def f_X12_readCond (n : Nat) : am_S → Nat → Option (Int32 × (Nat → Nat → Int32)) := f_rec_X12_readAtom n 2
theorem t_rec_X12_readAtom {E : am_E} {l : Launch} (hl : l.stackTraces = false) : ∀ n : Nat, (∀ {S : am_S} {p0 : Nat} (kp0 : am_kd p0 = 112), am_M E l yX12_readAtom (.code yX12_readAtom cX12_readAtom 2 (some .boolean)) (7 + n) 0 0 [.ref p0] S ((f_X12_readAtom n S p0).map (fun (x : Int32 × (Nat → Nat → Int32)) => ((.inl (some (.int x.1)), (x.2, S.2)) : am_R)))) ∧ (∀ {S : am_S} {p0 : Nat} (kp0 : am_kd p0 = 112), am_M E l yX12_readAllOf (.code yX12_readAllOf cX12_readAllOf 1 (some .boolean)) (7 + n) 0 0 [.ref p0] S ((f_X12_readAllOf n S p0).map (fun (x : Int32 × (Nat → Nat → Int32)) => ((.inl (some (.int x.1)), (x.2, S.2)) : am_R)))) ∧ (∀ {S : am_S} {p0 : Nat} (kp0 : am_kd p0 = 112), am_M E l yX12_readCond (.code yX12_readCond cX12_readCond 1 (some .boolean)) (7 + n) 0 0 [.ref p0] S ((f_X12_readCond n S p0).map (fun (x : Int32 × (Nat → Nat → Int32)) => ((.inl (some (.int x.1)), (x.2, S.2)) : am_R)))) := by
  intro n
  induction n with
  | zero => exact ⟨(by intros; intro r hr; cases hr), (by intros; intro r hr; cases hr), (by intros; intro r hr; cases hr)⟩
  | succ n ih => exact ⟨(by intros; exact to_X12_readAtom hl (by omega) (fun z0 => ih.1 z0) (fun z0 => ih.2.2 z0) (by assumption)), (by intros; exact to_X12_readAllOf hl (by omega) (fun z0 => ih.1 z0) (by assumption)), (by intros; exact to_X12_readCond hl (by omega) (fun z0 => ih.2.1 z0) (by assumption))⟩
theorem t_X12_readAtom {E : am_E} {l : Launch} (hl : l.stackTraces = false) (n : Nat) {S : am_S} {p0 : Nat} (kp0 : am_kd p0 = 112) : am_M E l yX12_readAtom (.code yX12_readAtom cX12_readAtom 2 (some .boolean)) (7 + n) 0 0 [.ref p0] S ((f_X12_readAtom n S p0).map (fun (x : Int32 × (Nat → Nat → Int32)) => ((.inl (some (.int x.1)), (x.2, S.2)) : am_R))) := (t_rec_X12_readAtom hl n).1 kp0
theorem t_X12_readAllOf {E : am_E} {l : Launch} (hl : l.stackTraces = false) (n : Nat) {S : am_S} {p0 : Nat} (kp0 : am_kd p0 = 112) : am_M E l yX12_readAllOf (.code yX12_readAllOf cX12_readAllOf 1 (some .boolean)) (7 + n) 0 0 [.ref p0] S ((f_X12_readAllOf n S p0).map (fun (x : Int32 × (Nat → Nat → Int32)) => ((.inl (some (.int x.1)), (x.2, S.2)) : am_R))) := (t_rec_X12_readAtom hl n).2.1 kp0
theorem t_X12_readCond {E : am_E} {l : Launch} (hl : l.stackTraces = false) (n : Nat) {S : am_S} {p0 : Nat} (kp0 : am_kd p0 = 112) : am_M E l yX12_readCond (.code yX12_readCond cX12_readCond 1 (some .boolean)) (7 + n) 0 0 [.ref p0] S ((f_X12_readCond n S p0).map (fun (x : Int32 × (Nat → Nat → Int32)) => ((.inl (some (.int x.1)), (x.2, S.2)) : am_R))) := (t_rec_X12_readAtom hl n).2.2 kp0


def f_X12_readLawLine (S : am_S) (p0 : Nat) (p1 : Int32) : Option (Int32 × (Nat → Nat → Int32)) :=
  ((f_X12_isWord S p0 (1000 + 8)).bind (fun v2 => (if v2 = 0 then some (0, S.1) else ((am_rd S.2 p0 1 1).bind (fun q4 => ((f_X12_number S p0 0 999).bind (fun y5 => ((am_st y5.2 q4 (1024 + (3 * p1)) y5.1).bind (fun σ6 => ((am_rd S.2 p0 1 1).bind (fun q7 => ((am_ld σ6 q7 (1024 + (3 * p1))).bind (fun v8 => (if v8 < 0 then some (0, σ6) else ((am_rd S.2 p0 1 1).bind (fun q10 => ((am_st σ6 q10 ((1024 + (3 * p1)) + 1) (σ6 p0 13)).bind (fun σ11 => ((f_X12_passes ((am_u2 σ11 p0 10 0), S.2) p0 (1000 + 9)).bind (fun y13 => (if y13.1 = 0 then ((am_rd S.2 p0 1 1).bind (fun q15 => ((am_st y13.2 q15 ((1024 + (3 * p1)) + 2) (y13.2 p0 13)).bind (fun σ16 => some (1, σ16))))) else ((f_X12_readCond 60 (y13.2, S.2) p0).bind (fun y17 => (if y17.1 = 0 then some (0, y17.2) else ((am_rd S.2 p0 1 1).bind (fun q19 => ((am_st y17.2 q19 ((1024 + (3 * p1)) + 2) (y17.2 p0 13)).bind (fun σ20 => some (1, σ20)))))))))))))))))))))))))))))
set_option maxRecDepth 20000 in
theorem t_X12_readLawLine {E : am_E} {l : Launch} (hl : l.stackTraces = false) {S : am_S} {p0 : Nat} {p1 : Int32} (kp0 : am_kd p0 = 112) : am_M E l yX12_readLawLine (.code yX12_readLawLine cX12_readLawLine 3 (some .boolean)) 68 0 0 [.ref p0, .int p1] S ((f_X12_readLawLine S p0 p1).map (fun (x : Int32 × (Nat → Nat → Int32)) => ((.inl (some (.int x.1)), (x.2, S.2)) : am_R))) := by
  refine am_M_of (w := fun (x : Int32 × (Nat → Nat → Int32)) => ((.inl (some (.int x.1)), (x.2, S.2)) : am_R)) hl (by decide) (am_fc rfl (am_fc rfl am_fn)) (Nat.le_of_ble_eq_true rfl) ?_
  show am_Ev E l (RX12, cX12_readLawLine, 3, (some .boolean), [], am_rm 68 0 0) (fun b a s x => am_Z E 0 0 b a s ((fun (x : Int32 × (Nat → Nat → Int32)) => ((.inl (some (.int x.1)), (x.2, S.2)) : am_R)) x)) 0 0 0 [some (.ref p0), some (.int p1), none] [] S (f_X12_readLawLine S p0 p1)
  unfold f_X12_readLawLine
  refine ev_sipush (v := 1024) dX12_readLawLine_0 (by decide) ?_
  refine ev_iconst (v := 3) dX12_readLawLine_3 (by decide) ?_
  refine ev_iload_n dX12_readLawLine_4 rfl ?_
  refine ev_imul dX12_readLawLine_5 ?_
  refine ev_iadd dX12_readLawLine_6 ?_
  refine ev_istore_n dX12_readLawLine_7 (am_lt rfl) ?_
  refine ev_aload_n dX12_readLawLine_8 rfl ?_
  refine ev_ldcS (k := 8) (tx := "first") dX12_readLawLine_9 (show (RX12, 221, "first", 8) ∈ am_sts by decide +kernel) ?_
  refine ev_callP (am_callV (as := [.ref (1000 + 8)]) (o := p0) (st := []) cv_X12_133 dX12_readLawLine_11 kp0 rfl (am_le rfl) (am_fit (by omega) (by decide) (by decide) (by decide)) (t_X12_isWord hl kp0 (by decide))) (fun v2 h2 => ?_)
  refine ev_if_ne (tgt := 19) dX12_readLawLine_14 (by decide) (fun c3 => ?_) (fun c3 => ?_)
  · refine ev_aload_n dX12_readLawLine_19 rfl ?_
    refine ev_getR fk_X12_13 (by decide) dX12_readLawLine_20 kp0 (fun q4 k4 r4 => ?_)
    refine ev_iload_n dX12_readLawLine_23 rfl ?_
    refine ev_aload_n dX12_readLawLine_24 rfl ?_
    refine ev_iconst (v := 0) dX12_readLawLine_25 (by decide) ?_
    refine ev_sipush (v := 999) dX12_readLawLine_26 (by decide) ?_
    refine ev_callWI (am_callV (as := [.int 0, .int 999]) (o := p0) (st := [.int (1024 + (3 * p1)), .ref q4]) cv_X12_141 dX12_readLawLine_29 kp0 rfl (am_le rfl) (am_fit (by omega) (by decide) (by decide) (by decide)) (t_X12_number hl kp0)) (fun y5 h5 => ?_)
    refine ev_iast dX12_readLawLine_32 k4 (fun σ6 h6 => ?_)
    refine ev_aload_n dX12_readLawLine_33 rfl ?_
    refine ev_getR fk_X12_13 (by decide) dX12_readLawLine_34 kp0 (fun q7 k7 r7 => ?_)
    refine ev_iload_n dX12_readLawLine_37 rfl ?_
    refine ev_iald dX12_readLawLine_38 k7 (fun v8 h8 => ?_)
    refine ev_if_ge (tgt := 44) dX12_readLawLine_39 (by decide) (fun c9 => ?_) (fun c9 => ?_)
    · refine ev_aload_n dX12_readLawLine_44 rfl ?_
      refine ev_getR fk_X12_13 (by decide) dX12_readLawLine_45 kp0 (fun q10 k10 r10 => ?_)
      refine ev_iload_n dX12_readLawLine_48 rfl ?_
      refine ev_iconst (v := 1) dX12_readLawLine_49 (by decide) ?_
      refine ev_iadd dX12_readLawLine_50 ?_
      refine ev_aload_n dX12_readLawLine_51 rfl ?_
      refine ev_get fk_X12_179 dX12_readLawLine_52 kp0 (am_fvI (by decide)) ?_
      refine ev_iast dX12_readLawLine_55 k10 (fun σ11 h11 => ?_)
      refine ev_aload_n dX12_readLawLine_56 rfl ?_
      refine ev_iconst (v := 0) dX12_readLawLine_57 (by decide) ?_
      refine ev_putI fk_X12_200 tyX12 tyX12_ok nmX12 rfl (by decide +kernel) (by decide) dX12_readLawLine_58 kp0 ?_
      refine ev_aload_n dX12_readLawLine_61 rfl ?_
      refine ev_ldcS (k := 9) (tx := "if") dX12_readLawLine_62 (show (RX12, 223, "if", 9) ∈ am_sts by decide +kernel) ?_
      refine ev_callWI (am_callV (as := [.ref (1000 + 9)]) (o := p0) (st := []) cv_X12_146 dX12_readLawLine_64 kp0 rfl (am_le rfl) (am_fit (by omega) (by decide) (by decide) (by decide)) (t_X12_passes hl kp0 (by decide))) (fun y13 h13 => ?_)
      refine ev_if_eq (tgt := 79) dX12_readLawLine_67 (by decide) (fun c14 => ?_) (fun c14 => ?_)
      · refine ev_aload_n dX12_readLawLine_79 rfl ?_
        refine ev_getR fk_X12_13 (by decide) dX12_readLawLine_80 kp0 (fun q15 k15 r15 => ?_)
        refine ev_iload_n dX12_readLawLine_83 rfl ?_
        refine ev_iconst (v := 2) dX12_readLawLine_84 (by decide) ?_
        refine ev_iadd dX12_readLawLine_85 ?_
        refine ev_aload_n dX12_readLawLine_86 rfl ?_
        refine ev_get fk_X12_179 dX12_readLawLine_87 kp0 (am_fvI (by decide)) ?_
        refine ev_iast dX12_readLawLine_90 k15 (fun σ16 h16 => ?_)
        refine ev_iconst (v := 1) dX12_readLawLine_91 (by decide) ?_
        exact ev_iret dX12_readLawLine_92 rfl (by decide) (by decide) (by decide) rfl
      · refine ev_aload_n dX12_readLawLine_70 rfl ?_
        refine ev_callWI (am_callV (as := []) (o := p0) (st := []) cv_X12_203 dX12_readLawLine_71 kp0 rfl (am_le rfl) (am_fit (by omega) (by decide) (by decide) (by decide)) (t_X12_readCond hl 60 kp0)) (fun y17 h17 => ?_)
        refine ev_if_ne (tgt := 79) dX12_readLawLine_74 (by decide) (fun c18 => ?_) (fun c18 => ?_)
        · refine ev_aload_n dX12_readLawLine_79 rfl ?_
          refine ev_getR fk_X12_13 (by decide) dX12_readLawLine_80 kp0 (fun q19 k19 r19 => ?_)
          refine ev_iload_n dX12_readLawLine_83 rfl ?_
          refine ev_iconst (v := 2) dX12_readLawLine_84 (by decide) ?_
          refine ev_iadd dX12_readLawLine_85 ?_
          refine ev_aload_n dX12_readLawLine_86 rfl ?_
          refine ev_get fk_X12_179 dX12_readLawLine_87 kp0 (am_fvI (by decide)) ?_
          refine ev_iast dX12_readLawLine_90 k19 (fun σ20 h20 => ?_)
          refine ev_iconst (v := 1) dX12_readLawLine_91 (by decide) ?_
          exact ev_iret dX12_readLawLine_92 rfl (by decide) (by decide) (by decide) rfl
        · refine ev_iconst (v := 0) dX12_readLawLine_77 (by decide) ?_
          exact ev_iret dX12_readLawLine_78 rfl (by decide) (by decide) (by decide) rfl
    · refine ev_iconst (v := 0) dX12_readLawLine_42 (by decide) ?_
      exact ev_iret dX12_readLawLine_43 rfl (by decide) (by decide) (by decide) rfl
  · refine ev_iconst (v := 0) dX12_readLawLine_17 (by decide) ?_
    exact ev_iret dX12_readLawLine_18 rfl (by decide) (by decide) (by decide) rfl
def f_X12_readLine (S : am_S) (p0 : Nat) (p1 : Int32) (p2 : Int32) : Option (Int32 × (Nat → Nat → Int32)) :=
  ((f_X12_letters S p0).bind (fun σ1 => ((if p1 = 0 then some (12 : Int32) else some (14 : Int32)).bind (fun t2 => (if p2 < t2 then (if p1 = 0 then ((f_X12_readLawLine (σ1, S.2) p0 p2).bind (fun y5 => (if y5.1 = 0 then some (0, y5.2) else some (1, y5.2)))) else ((f_X12_readTownLine (σ1, S.2) p0).bind (fun y7 => (if y7.1 = 0 then some (0, y7.2) else some (1, y7.2))))) else some (0, σ1))))))
set_option maxRecDepth 20000 in
theorem t_X12_readLine {E : am_E} {l : Launch} (hl : l.stackTraces = false) {S : am_S} {p0 : Nat} {p1 : Int32} {p2 : Int32} (kp0 : am_kd p0 = 112) : am_M E l yX12_readLine (.code yX12_readLine cX12_readLine 3 (some .boolean)) 69 0 0 [.ref p0, .int p1, .int p2] S ((f_X12_readLine S p0 p1 p2).map (fun (x : Int32 × (Nat → Nat → Int32)) => ((.inl (some (.int x.1)), (x.2, S.2)) : am_R))) := by
  refine am_M_of (w := fun (x : Int32 × (Nat → Nat → Int32)) => ((.inl (some (.int x.1)), (x.2, S.2)) : am_R)) hl (by decide) (am_fc rfl (am_fc rfl (am_fc rfl am_fn))) (Nat.le_of_ble_eq_true rfl) ?_
  show am_Ev E l (RX12, cX12_readLine, 3, (some .boolean), [], am_rm 69 0 0) (fun b a s x => am_Z E 0 0 b a s ((fun (x : Int32 × (Nat → Nat → Int32)) => ((.inl (some (.int x.1)), (x.2, S.2)) : am_R)) x)) 0 0 0 [some (.ref p0), some (.int p1), some (.int p2)] [] S (f_X12_readLine S p0 p1 p2)
  unfold f_X12_readLine
  refine ev_aload_n dX12_readLine_0 rfl ?_
  refine ev_callWV (am_callV (as := []) (o := p0) (st := []) cv_X12_130 dX12_readLine_1 kp0 rfl (am_le rfl) (am_fit (by omega) (by decide) (by decide) (by decide)) (t_X12_letters hl kp0)) (fun σ1 h1 => ?_)
  refine ev_iload_n dX12_readLine_4 rfl ?_
  refine ev_iload_n dX12_readLine_5 rfl ?_
  refine ev_reg (cs' := 0) (sl' := 0) 16 (fun t2 : Int32 => [some (.ref p0), some (.int p1), some (.int p2)]) (fun t2 => [.int t2, .int p2]) (fun t2 => (σ1, S.2)) (fun hJ2 => ?_) (fun t2 => ?_)
  · refine ev_eq am_ib ?_
    refine ev_if_eq (tgt := 14) dX12_readLine_6 (by decide) (fun c2 => ?_) (fun c2 => ?_)
    · refine ev_bipush (v := 12) dX12_readLine_14 (by decide) ?_
      exact ev_leaf (am_wk (am_wk (am_wk am_wn))) (hJ2 (12 : Int32))
    · refine ev_bipush (v := 14) dX12_readLine_9 (by decide) ?_
      refine ev_goto (tgt := 16) dX12_readLine_11 (by decide) ?_
      exact ev_leaf (am_wk (am_wk (am_wk am_wn))) (hJ2 (14 : Int32))
  · refine ev_icmp_ge (tgt := 45) dX12_readLine_16 (by decide) (fun c3 => ?_) (fun c3 => ?_)
    · refine ev_iconst (v := 0) dX12_readLine_45 (by decide) ?_
      exact ev_iret dX12_readLine_46 rfl (by decide) (by decide) (by decide) rfl
    · refine ev_iload_n dX12_readLine_19 rfl ?_
      refine ev_if_eq (tgt := 33) dX12_readLine_20 (by decide) (fun c4 => ?_) (fun c4 => ?_)
      · refine ev_aload_n dX12_readLine_33 rfl ?_
        refine ev_iload_n dX12_readLine_34 rfl ?_
        refine ev_callWI (am_callV (as := [.int p2]) (o := p0) (st := []) cv_X12_228 dX12_readLine_35 kp0 rfl (am_le rfl) (am_fit (by omega) (by decide) (by decide) (by decide)) (t_X12_readLawLine hl kp0)) (fun y5 h5 => ?_)
        refine ev_if_eq (tgt := 45) dX12_readLine_38 (by decide) (fun c6 => ?_) (fun c6 => ?_)
        · refine ev_iconst (v := 0) dX12_readLine_45 (by decide) ?_
          exact ev_iret dX12_readLine_46 rfl (by decide) (by decide) (by decide) rfl
        · refine ev_iconst (v := 1) dX12_readLine_41 (by decide) ?_
          refine ev_goto (tgt := 46) dX12_readLine_42 (by decide) ?_
          exact ev_iret dX12_readLine_46 rfl (by decide) (by decide) (by decide) rfl
      · refine ev_aload_n dX12_readLine_23 rfl ?_
        refine ev_callWI (am_callV (as := []) (o := p0) (st := []) cv_X12_225 dX12_readLine_24 kp0 rfl (am_le rfl) (am_fit (by omega) (by decide) (by decide) (by decide)) (t_X12_readTownLine hl kp0)) (fun y7 h7 => ?_)
        refine ev_if_eq (tgt := 45) dX12_readLine_27 (by decide) (fun c8 => ?_) (fun c8 => ?_)
        · refine ev_iconst (v := 0) dX12_readLine_45 (by decide) ?_
          exact ev_iret dX12_readLine_46 rfl (by decide) (by decide) (by decide) rfl
        · refine ev_goto (tgt := 41) dX12_readLine_30 (by decide) ?_
          refine ev_iconst (v := 1) dX12_readLine_41 (by decide) ?_
          refine ev_goto (tgt := 46) dX12_readLine_42 (by decide) ?_
          exact ev_iret dX12_readLine_46 rfl (by decide) (by decide) (by decide) rfl
def f_X12_readAll_b28 (S : am_S) (a0 : Nat) (a1 : Int32) (x4 : Int32 × (Nat → Nat → Int32)) : Option ((Int32 × (Nat → Nat → Int32)) ⊕ (((Nat → Nat → Int32)) ⊕ (Int32 × (Nat → Nat → Int32)))) :=
  ((f_X12_readLine (x4.2, S.2) a0 a1 x4.1).bind (fun y5 => (if y5.1 = 0 then some (.inr (.inr ((-1), y5.2))) else ((f_X12_blanks (y5.2, S.2) a0).bind (fun σ7 => (if (σ7 a0 7) = (σ7 a0 8) then some (.inr (.inr ((x4.1 + 1), σ7))) else ((f_X12_isAt (σ7, S.2) a0 59 59).bind (fun v9 => (if v9 = 0 then some (.inr (.inr ((-1), σ7))) else some (.inl ((x4.1 + 1), (am_u2 σ7 a0 7 ((σ7 a0 7) + 1)))))))))))))
def f_X12_readAll (S : am_S) (p0 : Nat) (p1 : Int32) : Option (Int32 × (Nat → Nat → Int32)) :=
  ((f_X12_uses S p0).bind (fun σ1 => ((f_X12_blanks ((am_u2 σ1 p0 13 0), S.2) p0).bind (fun σ2 => (if (σ2 p0 7) = (σ2 p0 8) then some (0, σ2) else ((am_loop (f_X12_readAll_b28 (σ2, S.2) p0 p1) am_fuel (0, σ2)).bind (fun r4 => match r4 with | .inl t4 => none | .inr b4 => some b4)))))))
set_option maxRecDepth 20000 in
theorem t_X12_readAll {E : am_E} {l : Launch} (hl : l.stackTraces = false) {S : am_S} {p0 : Nat} {p1 : Int32} (kp0 : am_kd p0 = 112) : am_M E l yX12_readAll (.code yX12_readAll cX12_readAll 3 (some .int)) 70 0 0 [.ref p0, .int p1] S ((f_X12_readAll S p0 p1).map (fun (x : Int32 × (Nat → Nat → Int32)) => ((.inl (some (.int x.1)), (x.2, S.2)) : am_R))) := by
  refine am_M_of (w := fun (x : Int32 × (Nat → Nat → Int32)) => ((.inl (some (.int x.1)), (x.2, S.2)) : am_R)) hl (by decide) (am_fc rfl (am_fc rfl am_fn)) (Nat.le_of_ble_eq_true rfl) ?_
  show am_Ev E l (RX12, cX12_readAll, 3, (some .int), [], am_rm 70 0 0) (fun b a s x => am_Z E 0 0 b a s ((fun (x : Int32 × (Nat → Nat → Int32)) => ((.inl (some (.int x.1)), (x.2, S.2)) : am_R)) x)) 0 0 0 [some (.ref p0), some (.int p1), none] [] S (f_X12_readAll S p0 p1)
  unfold f_X12_readAll
  refine ev_aload_n dX12_readAll_0 rfl ?_
  refine ev_callWV (am_callV (as := []) (o := p0) (st := []) cv_X12_231 dX12_readAll_1 kp0 rfl (am_le rfl) (am_fit (by omega) (by decide) (by decide) (by decide)) (t_X12_uses hl kp0)) (fun σ1 h1 => ?_)
  refine ev_aload_n dX12_readAll_4 rfl ?_
  refine ev_iconst (v := 0) dX12_readAll_5 (by decide) ?_
  refine ev_putI fk_X12_179 tyX12 tyX12_ok nmX12 rfl (by decide +kernel) (by decide) dX12_readAll_6 kp0 ?_
  refine ev_aload_n dX12_readAll_9 rfl ?_
  refine ev_callWV (am_callV (as := []) (o := p0) (st := []) cv_X12_118 dX12_readAll_10 kp0 rfl (am_le rfl) (am_fit (by omega) (by decide) (by decide) (by decide)) (t_X12_blanks hl kp0)) (fun σ2 h2 => ?_)
  refine ev_aload_n dX12_readAll_13 rfl ?_
  refine ev_get fk_X12_105 dX12_readAll_14 kp0 (am_fvI (by decide)) ?_
  refine ev_aload_n dX12_readAll_17 rfl ?_
  refine ev_get fk_X12_108 dX12_readAll_18 kp0 (am_fvI (by decide)) ?_
  refine ev_icmp_ne (tgt := 26) dX12_readAll_21 (by decide) (fun c3 => ?_) (fun c3 => ?_)
  · refine ev_iconst (v := 0) dX12_readAll_26 (by decide) ?_
    refine ev_istore_n dX12_readAll_27 (am_lt rfl) ?_
    refine ev_weak (am_wk (am_wk (am_wk am_wn))) (ev_loopR 28 0 (fun x4 : Int32 × (Nat → Nat → Int32) => [some (.ref p0), some (.int p1), some (.int x4.1)]) (fun t4 : (Nat → Nat → Int32) => [none, none, none]) (fun x4 => (x4.2, S.2)) (fun t4 => (t4, S.2)) (fun x4 G4 hB4 hE4 hG4 => ?_) (fun t4 => ?_) am_fuel (0, σ2))
    · unfold f_X12_readAll_b28
      refine ev_aload_n dX12_readAll_28 rfl ?_
      refine ev_iload_n dX12_readAll_29 rfl ?_
      refine ev_iload_n dX12_readAll_30 rfl ?_
      refine ev_eq (Option.bind_assoc _ _ _) ?_
      refine ev_callWI (am_callV (as := [.int p1, .int x4.1]) (o := p0) (st := []) cv_X12_234 dX12_readAll_31 kp0 rfl (am_le rfl) (am_fit (by omega) (by decide) (by decide) (by decide)) (t_X12_readLine hl kp0)) (fun y11 h11 => ?_)
      refine ev_eq am_ib ?_
      refine ev_if_ne (tgt := 39) dX12_readAll_34 (by decide) (fun c12 => ?_) (fun c12 => ?_)
      · refine ev_aload_n dX12_readAll_39 rfl ?_
        refine ev_eq (Option.bind_assoc _ _ _) ?_
        refine ev_callWV (am_callV (as := []) (o := p0) (st := []) cv_X12_118 dX12_readAll_40 kp0 rfl (am_le rfl) (am_fit (by omega) (by decide) (by decide) (by decide)) (t_X12_blanks hl kp0)) (fun σ13 h13 => ?_)
        refine ev_aload_n dX12_readAll_43 rfl ?_
        refine ev_get fk_X12_105 dX12_readAll_44 kp0 (am_fvI (by decide)) ?_
        refine ev_aload_n dX12_readAll_47 rfl ?_
        refine ev_get fk_X12_108 dX12_readAll_48 kp0 (am_fvI (by decide)) ?_
        refine ev_eq am_ib ?_
        refine ev_icmp_ne (tgt := 58) dX12_readAll_51 (by decide) (fun c14 => ?_) (fun c14 => ?_)
        · refine ev_aload_n dX12_readAll_58 rfl ?_
          refine ev_bipush (v := 59) dX12_readAll_59 (by decide) ?_
          refine ev_bipush (v := 59) dX12_readAll_61 (by decide) ?_
          refine ev_eq (Option.bind_assoc _ _ _) ?_
          refine ev_callP (am_callV (as := [.int 59, .int 59]) (o := p0) (st := []) cv_X12_111 dX12_readAll_63 kp0 rfl (am_le rfl) (am_fit (by omega) (by decide) (by decide) (by decide)) (t_X12_isAt hl kp0)) (fun v15 h15 => ?_)
          refine ev_eq am_ib ?_
          refine ev_if_ne (tgt := 71) dX12_readAll_66 (by decide) (fun c16 => ?_) (fun c16 => ?_)
          · refine ev_aload_n dX12_readAll_71 rfl ?_
            refine ev_dup dX12_readAll_72 rfl ?_
            refine ev_get fk_X12_105 dX12_readAll_73 kp0 (am_fvI (by decide)) ?_
            refine ev_iconst (v := 1) dX12_readAll_76 (by decide) ?_
            refine ev_iadd dX12_readAll_77 ?_
            refine ev_putI fk_X12_105 tyX12 tyX12_ok nmX12 rfl (by decide +kernel) (by decide) dX12_readAll_78 kp0 ?_
            refine ev_iinc (v := (x4.1 + 1)) dX12_readAll_81 (am_lt rfl) rfl rfl ?_
            refine ev_goto (tgt := 28) dX12_readAll_84 (by decide) ?_
            exact ev_leaf (am_wk (am_wk (am_wk am_wn))) (hB4 ((x4.1 + 1), (am_u2 σ13 p0 7 ((σ13 p0 7) + 1))))
          · refine ev_iconst (v := (-1)) dX12_readAll_69 (by decide) ?_
            exact ev_eq (hG4 _) (ev_iret dX12_readAll_70 rfl rfl (by decide) (by decide) rfl)
        · refine ev_iload_n dX12_readAll_54 rfl ?_
          refine ev_iconst (v := 1) dX12_readAll_55 (by decide) ?_
          refine ev_iadd dX12_readAll_56 ?_
          exact ev_eq (hG4 _) (ev_iret dX12_readAll_57 rfl rfl (by decide) (by decide) rfl)
      · refine ev_iconst (v := (-1)) dX12_readAll_37 (by decide) ?_
        exact ev_eq (hG4 _) (ev_iret dX12_readAll_38 rfl rfl (by decide) (by decide) rfl)
    · exact ev_none
  · refine ev_iconst (v := 0) dX12_readAll_24 (by decide) ?_
    exact ev_iret dX12_readAll_25 rfl rfl (by decide) (by decide) rfl
def f_X12_town_b2 (S : am_S) (a0 : Nat) (x1 : Int32 × (Nat → Nat → Int32)) : Option ((Int32 × (Nat → Nat → Int32)) ⊕ ((Nat → Nat → Int32))) :=
  (if x1.1 < 1023 then ((am_rd S.2 a0 3 1).bind (fun q3 => ((am_rd S.2 a0 1 1).bind (fun q4 => ((am_ld x1.2 q4 x1.1).bind (fun v5 => ((am_st x1.2 q3 x1.1 v5).bind (fun σ6 => some (.inl ((x1.1 + 1), σ6)))))))))) else some (.inr x1.2))
def f_X12_town_b92 (S : am_S) (a0 : Nat) (x17 : Int32 × (Nat → Nat → Int32)) : Option ((Int32 × (Nat → Nat → Int32)) ⊕ ((Nat → Nat → Int32))) :=
  (if x17.1 < 1023 then ((am_rd S.2 a0 1 1).bind (fun q19 => ((am_rd S.2 a0 3 1).bind (fun q20 => ((am_ld x17.2 q20 x17.1).bind (fun v21 => ((am_st x17.2 q19 x17.1 v21).bind (fun σ22 => some (.inl ((x17.1 + 1), σ22)))))))))) else some (.inr x17.2))
def f_X12_town (S : am_S) (p0 : Nat) : Option (Int32 × (Nat → Nat → Int32)) :=
  ((am_loop (f_X12_town_b2 S p0) am_fuel (0, S.1)).bind (fun t1 => ((f_X12_readAll (t1, S.2) p0 1).bind (fun y12 => ((if y12.1 < 0 then some (y12.2 p0 9) else some ((-1) : Int32)).bind (fun t13 => ((if y12.1 < 0 then some (1 : Int32) else some (0 : Int32)).bind (fun t14 => ((f_X12_throwsIf ((am_u2 y12.2 p0 11 t13), S.2) p0 t14 1).bind (fun y15 => (if y15.1 = 0 then ((am_rd S.2 p0 1 1).bind (fun q28 => ((am_ld y15.2 q28 2).bind (fun v29 => ((if v29 = 10 then some (1 : Int32) else some (0 : Int32)).bind (fun t30 => ((f_X12_throwsIf (y15.2, S.2) p0 t30 2).bind (fun y31 => (if y31.1 = 0 then ((am_rd S.2 p0 1 1).bind (fun q33 => ((am_ld y31.2 q33 2).bind (fun v34 => ((am_st y31.2 q33 2 (v34 + 1)).bind (fun σ35 => ((am_rd S.2 p0 1 1).bind (fun q36 => ((am_ld σ35 q36 2).bind (fun v37 => some (v37, σ35))))))))))) else ((am_loop (f_X12_town_b92 (y31.2, S.2) p0) am_fuel (0, y31.2)).bind (fun t38 => some (0, t38)))))))))))) else ((am_loop (f_X12_town_b92 (y15.2, S.2) p0) am_fuel (0, y15.2)).bind (fun t17 => some (0, t17))))))))))))))
set_option maxRecDepth 20000 in
theorem t_X12_town {E : am_E} {l : Launch} (hl : l.stackTraces = false) {S : am_S} {p0 : Nat} (kp0 : am_kd p0 = 112) : am_M E l yX12_town (.code yX12_town cX12_town 3 (some .int)) 71 0 0 [.ref p0] S ((f_X12_town S p0).map (fun (x : Int32 × (Nat → Nat → Int32)) => ((.inl (some (.int x.1)), (x.2, S.2)) : am_R))) := by
  refine am_M_of (w := fun (x : Int32 × (Nat → Nat → Int32)) => ((.inl (some (.int x.1)), (x.2, S.2)) : am_R)) hl (by decide) (am_fc rfl am_fn) (Nat.le_of_ble_eq_true rfl) ?_
  show am_Ev E l (RX12, cX12_town, 3, (some .int), [], am_rm 71 0 0) (fun b a s x => am_Z E 0 0 b a s ((fun (x : Int32 × (Nat → Nat → Int32)) => ((.inl (some (.int x.1)), (x.2, S.2)) : am_R)) x)) 0 0 0 [some (.ref p0), none, none] [] S (f_X12_town S p0)
  unfold f_X12_town
  refine ev_iconst (v := 0) dX12_town_0 (by decide) ?_
  refine ev_istore_n dX12_town_1 (am_lt rfl) ?_
  refine ev_weak (am_wk (am_wk (am_wf am_wn))) (ev_loop 2 27 (fun x1 : Int32 × (Nat → Nat → Int32) => [some (.ref p0), some (.int x1.1), none]) (fun t1 : (Nat → Nat → Int32) => [some (.ref p0), none, none]) (fun x1 => (x1.2, S.2)) (fun t1 => (t1, S.2)) (fun x1 G1 hB1 hE1 => ?_) (fun t1 => ?_) am_fuel (0, S.1))
  · unfold f_X12_town_b2
    refine ev_iload_n dX12_town_2 rfl ?_
    refine ev_sipush (v := 1023) dX12_town_3 (by decide) ?_
    refine ev_eq am_ib ?_
    refine ev_icmp_ge (tgt := 27) dX12_town_6 (by decide) (fun c7 => ?_) (fun c7 => ?_)
    · exact ev_leaf (am_wk (am_wf (am_wf am_wn))) (hE1 x1.2)
    · refine ev_aload_n dX12_town_9 rfl ?_
      refine ev_eq (Option.bind_assoc _ _ _) ?_
      refine ev_getR fk_X12_20 (by decide) dX12_town_10 kp0 (fun q8 k8 r8 => ?_)
      refine ev_iload_n dX12_town_13 rfl ?_
      refine ev_aload_n dX12_town_14 rfl ?_
      refine ev_eq (Option.bind_assoc _ _ _) ?_
      refine ev_getR fk_X12_13 (by decide) dX12_town_15 kp0 (fun q9 k9 r9 => ?_)
      refine ev_iload_n dX12_town_18 rfl ?_
      refine ev_eq (Option.bind_assoc _ _ _) ?_
      refine ev_iald dX12_town_19 k9 (fun v10 h10 => ?_)
      refine ev_eq (Option.bind_assoc _ _ _) ?_
      refine ev_iast dX12_town_20 k8 (fun σ11 h11 => ?_)
      refine ev_iinc (v := (x1.1 + 1)) dX12_town_21 (am_lt rfl) rfl rfl ?_
      refine ev_goto (tgt := 2) dX12_town_24 (by decide) ?_
      exact ev_leaf (am_wk (am_wk (am_wf am_wn))) (hB1 ((x1.1 + 1), σ11))
  · refine ev_aload_n dX12_town_27 rfl ?_
    refine ev_iconst (v := 1) dX12_town_28 (by decide) ?_
    refine ev_callWI (am_callV (as := [.int 1]) (o := p0) (st := []) cv_X12_238 dX12_town_29 kp0 rfl (am_le rfl) (am_fit (by omega) (by decide) (by decide) (by decide)) (t_X12_readAll hl kp0)) (fun y12 h12 => ?_)
    refine ev_istore_n dX12_town_32 (am_lt rfl) ?_
    refine ev_aload_n dX12_town_33 rfl ?_
    refine ev_iload_n dX12_town_34 rfl ?_
    refine ev_reg (cs' := 0) (sl' := 0) 46 (fun t13 : Int32 => [some (.ref p0), some (.int y12.1), none]) (fun t13 => [.int t13, .ref p0]) (fun t13 => (y12.2, S.2)) (fun hJ13 => ?_) (fun t13 => ?_)
    · refine ev_eq am_ib ?_
      refine ev_if_ge (tgt := 45) dX12_town_35 (by decide) (fun c13 => ?_) (fun c13 => ?_)
      · refine ev_iconst (v := (-1)) dX12_town_45 (by decide) ?_
        exact ev_leaf (am_wk (am_wk (am_wf am_wn))) (hJ13 ((-1) : Int32))
      · refine ev_aload_n dX12_town_38 rfl ?_
        refine ev_get fk_X12_115 dX12_town_39 kp0 (am_fvI (by decide)) ?_
        refine ev_goto (tgt := 46) dX12_town_42 (by decide) ?_
        exact ev_leaf (am_wk (am_wk (am_wf am_wn))) (hJ13 (y12.2 p0 9))
    · refine ev_putI fk_X12_27 tyX12 tyX12_ok nmX12 rfl (by decide +kernel) (by decide) dX12_town_46 kp0 ?_
      refine ev_aload_n dX12_town_49 rfl ?_
      refine ev_iload_n dX12_town_50 rfl ?_
      refine ev_reg (cs' := 0) (sl' := 0) 59 (fun t14 : Int32 => [some (.ref p0), none, none]) (fun t14 => [.int t14, .ref p0]) (fun t14 => ((am_u2 y12.2 p0 11 t13), S.2)) (fun hJ14 => ?_) (fun t14 => ?_)
      · refine ev_eq am_ib ?_
        refine ev_if_ge (tgt := 58) dX12_town_51 (by decide) (fun c14 => ?_) (fun c14 => ?_)
        · refine ev_iconst (v := 0) dX12_town_58 (by decide) ?_
          exact ev_leaf (am_wk (am_wf (am_wf am_wn))) (hJ14 (0 : Int32))
        · refine ev_iconst (v := 1) dX12_town_54 (by decide) ?_
          refine ev_goto (tgt := 59) dX12_town_55 (by decide) ?_
          exact ev_leaf (am_wk (am_wf (am_wf am_wn))) (hJ14 (1 : Int32))
      · refine ev_iconst (v := 1) dX12_town_59 (by decide) ?_
        refine ev_callWI (am_callV (as := [.int t14, .int 1]) (o := p0) (st := []) cv_X12_242 dX12_town_60 kp0 rfl (am_le rfl) (am_fit (by omega) (by decide) (by decide) (by decide)) (t_X12_throwsIf hl kp0)) (fun y15 h15 => ?_)
        refine ev_if_ne (tgt := 90) dX12_town_63 (by decide) (fun c16 => ?_) (fun c16 => ?_)
        · refine ev_iconst (v := 0) dX12_town_90 (by decide) ?_
          refine ev_istore_n dX12_town_91 (am_lt rfl) ?_
          refine ev_weak (am_wk (am_wf (am_wk am_wn))) (ev_loop 92 117 (fun x17 : Int32 × (Nat → Nat → Int32) => [some (.ref p0), none, some (.int x17.1)]) (fun t17 : (Nat → Nat → Int32) => [none, none, none]) (fun x17 => (x17.2, S.2)) (fun t17 => (t17, S.2)) (fun x17 G17 hB17 hE17 => ?_) (fun t17 => ?_) am_fuel (0, y15.2))
          · unfold f_X12_town_b92
            refine ev_iload_n dX12_town_92 rfl ?_
            refine ev_sipush (v := 1023) dX12_town_93 (by decide) ?_
            refine ev_eq am_ib ?_
            refine ev_icmp_ge (tgt := 117) dX12_town_96 (by decide) (fun c23 => ?_) (fun c23 => ?_)
            · exact ev_leaf (am_wf (am_wf (am_wf am_wn))) (hE17 x17.2)
            · refine ev_aload_n dX12_town_99 rfl ?_
              refine ev_eq (Option.bind_assoc _ _ _) ?_
              refine ev_getR fk_X12_13 (by decide) dX12_town_100 kp0 (fun q24 k24 r24 => ?_)
              refine ev_iload_n dX12_town_103 rfl ?_
              refine ev_aload_n dX12_town_104 rfl ?_
              refine ev_eq (Option.bind_assoc _ _ _) ?_
              refine ev_getR fk_X12_20 (by decide) dX12_town_105 kp0 (fun q25 k25 r25 => ?_)
              refine ev_iload_n dX12_town_108 rfl ?_
              refine ev_eq (Option.bind_assoc _ _ _) ?_
              refine ev_iald dX12_town_109 k25 (fun v26 h26 => ?_)
              refine ev_eq (Option.bind_assoc _ _ _) ?_
              refine ev_iast dX12_town_110 k24 (fun σ27 h27 => ?_)
              refine ev_iinc (v := (x17.1 + 1)) dX12_town_111 (am_lt rfl) rfl rfl ?_
              refine ev_goto (tgt := 92) dX12_town_114 (by decide) ?_
              exact ev_leaf (am_wk (am_wf (am_wk am_wn))) (hB17 ((x17.1 + 1), σ27))
          · refine ev_iconst (v := 0) dX12_town_117 (by decide) ?_
            exact ev_iret dX12_town_118 rfl rfl (by decide) (by decide) rfl
        · refine ev_aload_n dX12_town_66 rfl ?_
          refine ev_aload_n dX12_town_67 rfl ?_
          refine ev_getR fk_X12_13 (by decide) dX12_town_68 kp0 (fun q28 k28 r28 => ?_)
          refine ev_iconst (v := 2) dX12_town_71 (by decide) ?_
          refine ev_iald dX12_town_72 k28 (fun v29 h29 => ?_)
          refine ev_bipush (v := 10) dX12_town_73 (by decide) ?_
          refine ev_reg (cs' := 0) (sl' := 0) 83 (fun t30 : Int32 => [some (.ref p0), none, none]) (fun t30 => [.int t30, .ref p0]) (fun t30 => (y15.2, S.2)) (fun hJ30 => ?_) (fun t30 => ?_)
          · refine ev_eq am_ib ?_
            refine ev_icmp_ne (tgt := 82) dX12_town_75 (by decide) (fun c30 => ?_) (fun c30 => ?_)
            · refine ev_iconst (v := 0) dX12_town_82 (by decide) ?_
              exact ev_leaf (am_wk (am_wf (am_wf am_wn))) (hJ30 (0 : Int32))
            · refine ev_iconst (v := 1) dX12_town_78 (by decide) ?_
              refine ev_goto (tgt := 83) dX12_town_79 (by decide) ?_
              exact ev_leaf (am_wk (am_wf (am_wf am_wn))) (hJ30 (1 : Int32))
          · refine ev_iconst (v := 2) dX12_town_83 (by decide) ?_
            refine ev_callWI (am_callV (as := [.int t30, .int 2]) (o := p0) (st := []) cv_X12_242 dX12_town_84 kp0 rfl (am_le rfl) (am_fit (by omega) (by decide) (by decide) (by decide)) (t_X12_throwsIf hl kp0)) (fun y31 h31 => ?_)
            refine ev_if_eq (tgt := 119) dX12_town_87 (by decide) (fun c32 => ?_) (fun c32 => ?_)
            · refine ev_aload_n dX12_town_119 rfl ?_
              refine ev_getR fk_X12_13 (by decide) dX12_town_120 kp0 (fun q33 k33 r33 => ?_)
              refine ev_iconst (v := 2) dX12_town_123 (by decide) ?_
              refine ev_dup2 dX12_town_124 rfl rfl ?_
              refine ev_iald dX12_town_125 k33 (fun v34 h34 => ?_)
              refine ev_iconst (v := 1) dX12_town_126 (by decide) ?_
              refine ev_iadd dX12_town_127 ?_
              refine ev_iast dX12_town_128 k33 (fun σ35 h35 => ?_)
              refine ev_aload_n dX12_town_129 rfl ?_
              refine ev_getR fk_X12_13 (by decide) dX12_town_130 kp0 (fun q36 k36 r36 => ?_)
              refine ev_iconst (v := 2) dX12_town_133 (by decide) ?_
              refine ev_iald dX12_town_134 k36 (fun v37 h37 => ?_)
              exact ev_iret dX12_town_135 rfl rfl (by decide) (by decide) rfl
            · refine ev_iconst (v := 0) dX12_town_90 (by decide) ?_
              refine ev_istore_n dX12_town_91 (am_lt rfl) ?_
              refine ev_weak (am_wk (am_wf (am_wk am_wn))) (ev_loop 92 117 (fun x38 : Int32 × (Nat → Nat → Int32) => [some (.ref p0), none, some (.int x38.1)]) (fun t38 : (Nat → Nat → Int32) => [none, none, none]) (fun x38 => (x38.2, S.2)) (fun t38 => (t38, S.2)) (fun x38 G38 hB38 hE38 => ?_) (fun t38 => ?_) am_fuel (0, y31.2))
              · unfold f_X12_town_b92
                refine ev_iload_n dX12_town_92 rfl ?_
                refine ev_sipush (v := 1023) dX12_town_93 (by decide) ?_
                refine ev_eq am_ib ?_
                refine ev_icmp_ge (tgt := 117) dX12_town_96 (by decide) (fun c44 => ?_) (fun c44 => ?_)
                · exact ev_leaf (am_wf (am_wf (am_wf am_wn))) (hE38 x38.2)
                · refine ev_aload_n dX12_town_99 rfl ?_
                  refine ev_eq (Option.bind_assoc _ _ _) ?_
                  refine ev_getR fk_X12_13 (by decide) dX12_town_100 kp0 (fun q45 k45 r45 => ?_)
                  refine ev_iload_n dX12_town_103 rfl ?_
                  refine ev_aload_n dX12_town_104 rfl ?_
                  refine ev_eq (Option.bind_assoc _ _ _) ?_
                  refine ev_getR fk_X12_20 (by decide) dX12_town_105 kp0 (fun q46 k46 r46 => ?_)
                  refine ev_iload_n dX12_town_108 rfl ?_
                  refine ev_eq (Option.bind_assoc _ _ _) ?_
                  refine ev_iald dX12_town_109 k46 (fun v47 h47 => ?_)
                  refine ev_eq (Option.bind_assoc _ _ _) ?_
                  refine ev_iast dX12_town_110 k45 (fun σ48 h48 => ?_)
                  refine ev_iinc (v := (x38.1 + 1)) dX12_town_111 (am_lt rfl) rfl rfl ?_
                  refine ev_goto (tgt := 92) dX12_town_114 (by decide) ?_
                  exact ev_leaf (am_wk (am_wf (am_wk am_wn))) (hB38 ((x38.1 + 1), σ48))
              · refine ev_iconst (v := 0) dX12_town_117 (by decide) ?_
                exact ev_iret dX12_town_118 rfl rfl (by decide) (by decide) rfl
def f_X12_law_b52 (S : am_S) (a0 : Nat) (a1 : Int32) (x8 : Int32 × (Nat → Nat → Int32)) : Option ((Int32 × (Nat → Nat → Int32)) ⊕ ((Nat → Nat → Int32))) :=
  (if x8.1 < 837 then ((am_rd S.2 a0 1 1).bind (fun q10 => ((am_rd S.2 a0 1 1).bind (fun q11 => ((am_ld x8.2 q11 (1023 + x8.1)).bind (fun v12 => ((am_st x8.2 q10 (186 + x8.1) v12).bind (fun σ13 => some (.inl ((x8.1 + 1), σ13)))))))))) else some (.inr x8.2))
def f_X12_law (S : am_S) (p0 : Nat) : Option (Int32 × (Nat → Nat → Int32)) :=
  ((f_X12_readAll S p0 0).bind (fun y1 => ((if y1.1 < 0 then some (y1.2 p0 9) else some ((-1) : Int32)).bind (fun t2 => ((if y1.1 < 0 then some (1 : Int32) else some (0 : Int32)).bind (fun t3 => ((f_X12_throwsIf ((am_u2 y1.2 p0 11 t2), S.2) p0 t3 1).bind (fun y4 => (if y4.1 = 0 then ((am_rd S.2 p0 1 1).bind (fun q6 => ((am_st y4.2 q6 1023 y1.1).bind (fun σ7 => ((am_loop (f_X12_law_b52 (σ7, S.2) p0 y1.1) am_fuel (0, σ7)).bind (fun t8 => ((am_rd S.2 p0 1 1).bind (fun q19 => ((am_st t8 q19 3 1).bind (fun σ20 => some (y1.1, σ20))))))))))) else some (0, y4.2))))))))))
set_option maxRecDepth 20000 in
theorem t_X12_law {E : am_E} {l : Launch} (hl : l.stackTraces = false) {S : am_S} {p0 : Nat} (kp0 : am_kd p0 = 112) : am_M E l yX12_law (.code yX12_law cX12_law 3 (some .int)) 71 0 0 [.ref p0] S ((f_X12_law S p0).map (fun (x : Int32 × (Nat → Nat → Int32)) => ((.inl (some (.int x.1)), (x.2, S.2)) : am_R))) := by
  refine am_M_of (w := fun (x : Int32 × (Nat → Nat → Int32)) => ((.inl (some (.int x.1)), (x.2, S.2)) : am_R)) hl (by decide) (am_fc rfl am_fn) (Nat.le_of_ble_eq_true rfl) ?_
  show am_Ev E l (RX12, cX12_law, 3, (some .int), [], am_rm 71 0 0) (fun b a s x => am_Z E 0 0 b a s ((fun (x : Int32 × (Nat → Nat → Int32)) => ((.inl (some (.int x.1)), (x.2, S.2)) : am_R)) x)) 0 0 0 [some (.ref p0), none, none] [] S (f_X12_law S p0)
  unfold f_X12_law
  refine ev_aload_n dX12_law_0 rfl ?_
  refine ev_iconst (v := 0) dX12_law_1 (by decide) ?_
  refine ev_callWI (am_callV (as := [.int 0]) (o := p0) (st := []) cv_X12_238 dX12_law_2 kp0 rfl (am_le rfl) (am_fit (by omega) (by decide) (by decide) (by decide)) (t_X12_readAll hl kp0)) (fun y1 h1 => ?_)
  refine ev_istore_n dX12_law_5 (am_lt rfl) ?_
  refine ev_aload_n dX12_law_6 rfl ?_
  refine ev_iload_n dX12_law_7 rfl ?_
  refine ev_reg (cs' := 0) (sl' := 0) 19 (fun t2 : Int32 => [some (.ref p0), some (.int y1.1), none]) (fun t2 => [.int t2, .ref p0]) (fun t2 => (y1.2, S.2)) (fun hJ2 => ?_) (fun t2 => ?_)
  · refine ev_eq am_ib ?_
    refine ev_if_ge (tgt := 18) dX12_law_8 (by decide) (fun c2 => ?_) (fun c2 => ?_)
    · refine ev_iconst (v := (-1)) dX12_law_18 (by decide) ?_
      exact ev_leaf (am_wk (am_wk (am_wf am_wn))) (hJ2 ((-1) : Int32))
    · refine ev_aload_n dX12_law_11 rfl ?_
      refine ev_get fk_X12_115 dX12_law_12 kp0 (am_fvI (by decide)) ?_
      refine ev_goto (tgt := 19) dX12_law_15 (by decide) ?_
      exact ev_leaf (am_wk (am_wk (am_wf am_wn))) (hJ2 (y1.2 p0 9))
  · refine ev_putI fk_X12_27 tyX12 tyX12_ok nmX12 rfl (by decide +kernel) (by decide) dX12_law_19 kp0 ?_
    refine ev_aload_n dX12_law_22 rfl ?_
    refine ev_iload_n dX12_law_23 rfl ?_
    refine ev_reg (cs' := 0) (sl' := 0) 32 (fun t3 : Int32 => [some (.ref p0), some (.int y1.1), none]) (fun t3 => [.int t3, .ref p0]) (fun t3 => ((am_u2 y1.2 p0 11 t2), S.2)) (fun hJ3 => ?_) (fun t3 => ?_)
    · refine ev_eq am_ib ?_
      refine ev_if_ge (tgt := 31) dX12_law_24 (by decide) (fun c3 => ?_) (fun c3 => ?_)
      · refine ev_iconst (v := 0) dX12_law_31 (by decide) ?_
        exact ev_leaf (am_wk (am_wk (am_wf am_wn))) (hJ3 (0 : Int32))
      · refine ev_iconst (v := 1) dX12_law_27 (by decide) ?_
        refine ev_goto (tgt := 32) dX12_law_28 (by decide) ?_
        exact ev_leaf (am_wk (am_wk (am_wf am_wn))) (hJ3 (1 : Int32))
    · refine ev_iconst (v := 1) dX12_law_32 (by decide) ?_
      refine ev_callWI (am_callV (as := [.int t3, .int 1]) (o := p0) (st := []) cv_X12_242 dX12_law_33 kp0 rfl (am_le rfl) (am_fit (by omega) (by decide) (by decide) (by decide)) (t_X12_throwsIf hl kp0)) (fun y4 h4 => ?_)
      refine ev_if_eq (tgt := 41) dX12_law_36 (by decide) (fun c5 => ?_) (fun c5 => ?_)
      · refine ev_aload_n dX12_law_41 rfl ?_
        refine ev_getR fk_X12_13 (by decide) dX12_law_42 kp0 (fun q6 k6 r6 => ?_)
        refine ev_sipush (v := 1023) dX12_law_45 (by decide) ?_
        refine ev_iload_n dX12_law_48 rfl ?_
        refine ev_iast dX12_law_49 k6 (fun σ7 h7 => ?_)
        refine ev_iconst (v := 0) dX12_law_50 (by decide) ?_
        refine ev_istore_n dX12_law_51 (am_lt rfl) ?_
        refine ev_weak (am_wk (am_wk (am_wk am_wn))) (ev_loop 52 85 (fun x8 : Int32 × (Nat → Nat → Int32) => [some (.ref p0), some (.int y1.1), some (.int x8.1)]) (fun t8 : (Nat → Nat → Int32) => [some (.ref p0), some (.int y1.1), none]) (fun x8 => (x8.2, S.2)) (fun t8 => (t8, S.2)) (fun x8 G8 hB8 hE8 => ?_) (fun t8 => ?_) am_fuel (0, σ7))
        · unfold f_X12_law_b52
          refine ev_iload_n dX12_law_52 rfl ?_
          refine ev_sipush (v := 837) dX12_law_53 (by decide) ?_
          refine ev_eq am_ib ?_
          refine ev_icmp_ge (tgt := 85) dX12_law_56 (by decide) (fun c14 => ?_) (fun c14 => ?_)
          · exact ev_leaf (am_wk (am_wk (am_wf am_wn))) (hE8 x8.2)
          · refine ev_aload_n dX12_law_59 rfl ?_
            refine ev_eq (Option.bind_assoc _ _ _) ?_
            refine ev_getR fk_X12_13 (by decide) dX12_law_60 kp0 (fun q15 k15 r15 => ?_)
            refine ev_sipush (v := 186) dX12_law_63 (by decide) ?_
            refine ev_iload_n dX12_law_66 rfl ?_
            refine ev_iadd dX12_law_67 ?_
            refine ev_aload_n dX12_law_68 rfl ?_
            refine ev_eq (Option.bind_assoc _ _ _) ?_
            refine ev_getR fk_X12_13 (by decide) dX12_law_69 kp0 (fun q16 k16 r16 => ?_)
            refine ev_sipush (v := 1023) dX12_law_72 (by decide) ?_
            refine ev_iload_n dX12_law_75 rfl ?_
            refine ev_iadd dX12_law_76 ?_
            refine ev_eq (Option.bind_assoc _ _ _) ?_
            refine ev_iald dX12_law_77 k16 (fun v17 h17 => ?_)
            refine ev_eq (Option.bind_assoc _ _ _) ?_
            refine ev_iast dX12_law_78 k15 (fun σ18 h18 => ?_)
            refine ev_iinc (v := (x8.1 + 1)) dX12_law_79 (am_lt rfl) rfl rfl ?_
            refine ev_goto (tgt := 52) dX12_law_82 (by decide) ?_
            exact ev_leaf (am_wk (am_wk (am_wk am_wn))) (hB8 ((x8.1 + 1), σ18))
        · refine ev_aload_n dX12_law_85 rfl ?_
          refine ev_getR fk_X12_13 (by decide) dX12_law_86 kp0 (fun q19 k19 r19 => ?_)
          refine ev_iconst (v := 3) dX12_law_89 (by decide) ?_
          refine ev_iconst (v := 1) dX12_law_90 (by decide) ?_
          refine ev_iast dX12_law_91 k19 (fun σ20 h20 => ?_)
          refine ev_iload_n dX12_law_92 rfl ?_
          exact ev_iret dX12_law_93 rfl rfl (by decide) (by decide) rfl
      · refine ev_iconst (v := 0) dX12_law_39 (by decide) ?_
        exact ev_iret dX12_law_40 rfl rfl (by decide) (by decide) rfl
def f_X12_farOf (S : am_S) (p0 : Nat) (p1 : Int32) (p2 : Int32) : Option (Int32) :=
  ((f_X12_of S p0 p2 0).bind (fun v1 => ((am_rd S.2 p0 1 1).bind (fun q2 => ((am_ld S.1 q2 6).bind (fun v3 => ((f_X12_of S p0 p1 0).bind (fun v4 => ((f_J9_abs_0f7a4 ((v1 + v3) - v4)).bind (fun v5 => ((f_X12_of S p0 p2 1).bind (fun v6 => ((am_rd S.2 p0 1 1).bind (fun q7 => ((am_ld S.1 q7 7).bind (fun v8 => ((f_X12_of S p0 p1 1).bind (fun v9 => ((f_J9_abs_0f7a4 ((v6 + v8) - v9)).bind (fun v10 => some (v5 + v10)))))))))))))))))))))
set_option maxRecDepth 20000 in
theorem t_X12_farOf {E : am_E} {l : Launch} (hl : l.stackTraces = false) {S : am_S} {p0 : Nat} {p1 : Int32} {p2 : Int32} (kp0 : am_kd p0 = 112) : am_M E l yX12_farOf (.code yX12_farOf cX12_farOf 3 (some .int)) 1 0 0 [.ref p0, .int p1, .int p2] S ((f_X12_farOf S p0 p1 p2).map (fun (v : Int32) => ((.inl (some (.int v)), S) : am_R))) := by
  refine am_M_of (w := fun (v : Int32) => ((.inl (some (.int v)), S) : am_R)) hl (by decide) (am_fc rfl (am_fc rfl (am_fc rfl am_fn))) (Nat.le_of_ble_eq_true rfl) ?_
  show am_Ev E l (RX12, cX12_farOf, 3, (some .int), [], am_rm 1 0 0) (fun b a s x => am_Z E 0 0 b a s ((fun (v : Int32) => ((.inl (some (.int v)), S) : am_R)) x)) 0 0 0 [some (.ref p0), some (.int p1), some (.int p2)] [] S (f_X12_farOf S p0 p1 p2)
  unfold f_X12_farOf
  refine ev_aload_n dX12_farOf_0 rfl ?_
  refine ev_iload_n dX12_farOf_1 rfl ?_
  refine ev_iconst (v := 0) dX12_farOf_2 (by decide) ?_
  refine ev_callP (am_callV (as := [.int p2, .int 0]) (o := p0) (st := []) cv_X12_70 dX12_farOf_3 kp0 rfl (am_le rfl) (am_fit (by omega) (by decide) (by decide) (by decide)) (t_X12_of hl kp0)) (fun v1 h1 => ?_)
  refine ev_aload_n dX12_farOf_6 rfl ?_
  refine ev_getR fk_X12_13 (by decide) dX12_farOf_7 kp0 (fun q2 k2 r2 => ?_)
  refine ev_bipush (v := 6) dX12_farOf_10 (by decide) ?_
  refine ev_iald dX12_farOf_12 k2 (fun v3 h3 => ?_)
  refine ev_iadd dX12_farOf_13 ?_
  refine ev_aload_n dX12_farOf_14 rfl ?_
  refine ev_iload_n dX12_farOf_15 rfl ?_
  refine ev_iconst (v := 0) dX12_farOf_16 (by decide) ?_
  refine ev_callP (am_callV (as := [.int p1, .int 0]) (o := p0) (st := [.int (v1 + v3)]) cv_X12_70 dX12_farOf_17 kp0 rfl (am_le rfl) (am_fit (by omega) (by decide) (by decide) (by decide)) (t_X12_of hl kp0)) (fun v4 h4 => ?_)
  refine ev_isub dX12_farOf_20 ?_
  refine ev_callP (am_callS (as := [.int ((v1 + v3) - v4)]) (st := []) ct_X12_245 dX12_farOf_21 rfl (am_le rfl) (am_fit (by omega) (by decide) (by decide) (by decide)) (t_J9_abs_0f7a4 hl )) (fun v5 h5 => ?_)
  refine ev_aload_n dX12_farOf_24 rfl ?_
  refine ev_iload_n dX12_farOf_25 rfl ?_
  refine ev_iconst (v := 1) dX12_farOf_26 (by decide) ?_
  refine ev_callP (am_callV (as := [.int p2, .int 1]) (o := p0) (st := [.int v5]) cv_X12_70 dX12_farOf_27 kp0 rfl (am_le rfl) (am_fit (by omega) (by decide) (by decide) (by decide)) (t_X12_of hl kp0)) (fun v6 h6 => ?_)
  refine ev_aload_n dX12_farOf_30 rfl ?_
  refine ev_getR fk_X12_13 (by decide) dX12_farOf_31 kp0 (fun q7 k7 r7 => ?_)
  refine ev_bipush (v := 7) dX12_farOf_34 (by decide) ?_
  refine ev_iald dX12_farOf_36 k7 (fun v8 h8 => ?_)
  refine ev_iadd dX12_farOf_37 ?_
  refine ev_aload_n dX12_farOf_38 rfl ?_
  refine ev_iload_n dX12_farOf_39 rfl ?_
  refine ev_iconst (v := 1) dX12_farOf_40 (by decide) ?_
  refine ev_callP (am_callV (as := [.int p1, .int 1]) (o := p0) (st := [.int (v6 + v8), .int v5]) cv_X12_70 dX12_farOf_41 kp0 rfl (am_le rfl) (am_fit (by omega) (by decide) (by decide) (by decide)) (t_X12_of hl kp0)) (fun v9 h9 => ?_)
  refine ev_isub dX12_farOf_44 ?_
  refine ev_callP (am_callS (as := [.int ((v6 + v8) - v9)]) (st := [.int v5]) ct_X12_245 dX12_farOf_45 rfl (am_le rfl) (am_fit (by omega) (by decide) (by decide) (by decide)) (t_J9_abs_0f7a4 hl )) (fun v10 h10 => ?_)
  refine ev_iadd dX12_farOf_48 ?_
  exact ev_iret dX12_farOf_49 rfl rfl (by decide) (by decide) rfl
def f_X12_isHearing (S : am_S) (p0 : Nat) (p1 : Int32) (p2 : Int32) : Option (Int32) :=
  (if p1 = p2 then some 0 else ((f_X12_of S p0 p1 4).bind (fun v2 => (if v2 = 0 then ((f_X12_farOf S p0 p1 p2).bind (fun v4 => ((f_X12_of S p0 p2 2).bind (fun v5 => (if v5 < v4 then some 0 else some 1))))) else some 0))))
set_option maxRecDepth 20000 in
theorem t_X12_isHearing {E : am_E} {l : Launch} (hl : l.stackTraces = false) {S : am_S} {p0 : Nat} {p1 : Int32} {p2 : Int32} (kp0 : am_kd p0 = 112) : am_M E l yX12_isHearing (.code yX12_isHearing cX12_isHearing 3 (some .boolean)) 2 0 0 [.ref p0, .int p1, .int p2] S ((f_X12_isHearing S p0 p1 p2).map (fun (v : Int32) => ((.inl (some (.int v)), S) : am_R))) := by
  refine am_M_of (w := fun (v : Int32) => ((.inl (some (.int v)), S) : am_R)) hl (by decide) (am_fc rfl (am_fc rfl (am_fc rfl am_fn))) (Nat.le_of_ble_eq_true rfl) ?_
  show am_Ev E l (RX12, cX12_isHearing, 3, (some .boolean), [], am_rm 2 0 0) (fun b a s x => am_Z E 0 0 b a s ((fun (v : Int32) => ((.inl (some (.int v)), S) : am_R)) x)) 0 0 0 [some (.ref p0), some (.int p1), some (.int p2)] [] S (f_X12_isHearing S p0 p1 p2)
  unfold f_X12_isHearing
  refine ev_iload_n dX12_isHearing_0 rfl ?_
  refine ev_iload_n dX12_isHearing_1 rfl ?_
  refine ev_icmp_eq (tgt := 33) dX12_isHearing_2 (by decide) (fun c1 => ?_) (fun c1 => ?_)
  · refine ev_iconst (v := 0) dX12_isHearing_33 (by decide) ?_
    exact ev_iret dX12_isHearing_34 rfl (by decide) (by decide) (by decide) rfl
  · refine ev_aload_n dX12_isHearing_5 rfl ?_
    refine ev_iload_n dX12_isHearing_6 rfl ?_
    refine ev_iconst (v := 4) dX12_isHearing_7 (by decide) ?_
    refine ev_callP (am_callV (as := [.int p1, .int 4]) (o := p0) (st := []) cv_X12_70 dX12_isHearing_8 kp0 rfl (am_le rfl) (am_fit (by omega) (by decide) (by decide) (by decide)) (t_X12_of hl kp0)) (fun v2 h2 => ?_)
    refine ev_if_ne (tgt := 33) dX12_isHearing_11 (by decide) (fun c3 => ?_) (fun c3 => ?_)
    · refine ev_iconst (v := 0) dX12_isHearing_33 (by decide) ?_
      exact ev_iret dX12_isHearing_34 rfl (by decide) (by decide) (by decide) rfl
    · refine ev_aload_n dX12_isHearing_14 rfl ?_
      refine ev_iload_n dX12_isHearing_15 rfl ?_
      refine ev_iload_n dX12_isHearing_16 rfl ?_
      refine ev_callP (am_callV (as := [.int p1, .int p2]) (o := p0) (st := []) cv_X12_248 dX12_isHearing_17 kp0 rfl (am_le rfl) (am_fit (by omega) (by decide) (by decide) (by decide)) (t_X12_farOf hl kp0)) (fun v4 h4 => ?_)
      refine ev_aload_n dX12_isHearing_20 rfl ?_
      refine ev_iload_n dX12_isHearing_21 rfl ?_
      refine ev_iconst (v := 2) dX12_isHearing_22 (by decide) ?_
      refine ev_callP (am_callV (as := [.int p2, .int 2]) (o := p0) (st := [.int v4]) cv_X12_70 dX12_isHearing_23 kp0 rfl (am_le rfl) (am_fit (by omega) (by decide) (by decide) (by decide)) (t_X12_of hl kp0)) (fun v5 h5 => ?_)
      refine ev_icmp_gt (tgt := 33) dX12_isHearing_26 (by decide) (fun c6 => ?_) (fun c6 => ?_)
      · refine ev_iconst (v := 0) dX12_isHearing_33 (by decide) ?_
        exact ev_iret dX12_isHearing_34 rfl (by decide) (by decide) (by decide) rfl
      · refine ev_iconst (v := 1) dX12_isHearing_29 (by decide) ?_
        refine ev_goto (tgt := 34) dX12_isHearing_30 (by decide) ?_
        exact ev_iret dX12_isHearing_34 rfl (by decide) (by decide) (by decide) rfl
def f_X12_clearOf (S : am_S) (p0 : Nat) (p1 : Int32) (p2 : Int32) : Option (Int32) :=
  ((f_X12_isHearing S p0 p1 p2).bind (fun v1 => (if v1 = 0 then some 0 else ((f_X12_of S p0 p2 2).bind (fun v3 => ((f_X12_farOf S p0 p1 p2).bind (fun v4 => some (((v3 - v4) / 3) + 1))))))))
set_option maxRecDepth 20000 in
theorem t_X12_clearOf {E : am_E} {l : Launch} (hl : l.stackTraces = false) {S : am_S} {p0 : Nat} {p1 : Int32} {p2 : Int32} (kp0 : am_kd p0 = 112) : am_M E l yX12_clearOf (.code yX12_clearOf cX12_clearOf 3 (some .int)) 3 0 0 [.ref p0, .int p1, .int p2] S ((f_X12_clearOf S p0 p1 p2).map (fun (v : Int32) => ((.inl (some (.int v)), S) : am_R))) := by
  refine am_M_of (w := fun (v : Int32) => ((.inl (some (.int v)), S) : am_R)) hl (by decide) (am_fc rfl (am_fc rfl (am_fc rfl am_fn))) (Nat.le_of_ble_eq_true rfl) ?_
  show am_Ev E l (RX12, cX12_clearOf, 3, (some .int), [], am_rm 3 0 0) (fun b a s x => am_Z E 0 0 b a s ((fun (v : Int32) => ((.inl (some (.int v)), S) : am_R)) x)) 0 0 0 [some (.ref p0), some (.int p1), some (.int p2)] [] S (f_X12_clearOf S p0 p1 p2)
  unfold f_X12_clearOf
  refine ev_aload_n dX12_clearOf_0 rfl ?_
  refine ev_iload_n dX12_clearOf_1 rfl ?_
  refine ev_iload_n dX12_clearOf_2 rfl ?_
  refine ev_callP (am_callV (as := [.int p1, .int p2]) (o := p0) (st := []) cv_X12_251 dX12_clearOf_3 kp0 rfl (am_le rfl) (am_fit (by omega) (by decide) (by decide) (by decide)) (t_X12_isHearing hl kp0)) (fun v1 h1 => ?_)
  refine ev_if_eq (tgt := 29) dX12_clearOf_6 (by decide) (fun c2 => ?_) (fun c2 => ?_)
  · refine ev_iconst (v := 0) dX12_clearOf_29 (by decide) ?_
    exact ev_iret dX12_clearOf_30 rfl rfl (by decide) (by decide) rfl
  · refine ev_aload_n dX12_clearOf_9 rfl ?_
    refine ev_iload_n dX12_clearOf_10 rfl ?_
    refine ev_iconst (v := 2) dX12_clearOf_11 (by decide) ?_
    refine ev_callP (am_callV (as := [.int p2, .int 2]) (o := p0) (st := []) cv_X12_70 dX12_clearOf_12 kp0 rfl (am_le rfl) (am_fit (by omega) (by decide) (by decide) (by decide)) (t_X12_of hl kp0)) (fun v3 h3 => ?_)
    refine ev_aload_n dX12_clearOf_15 rfl ?_
    refine ev_iload_n dX12_clearOf_16 rfl ?_
    refine ev_iload_n dX12_clearOf_17 rfl ?_
    refine ev_callP (am_callV (as := [.int p1, .int p2]) (o := p0) (st := [.int v3]) cv_X12_248 dX12_clearOf_18 kp0 rfl (am_le rfl) (am_fit (by omega) (by decide) (by decide) (by decide)) (t_X12_farOf hl kp0)) (fun v4 h4 => ?_)
    refine ev_isub dX12_clearOf_21 ?_
    refine ev_iconst (v := 3) dX12_clearOf_22 (by decide) ?_
    refine ev_idiv dX12_clearOf_23 (by decide) ?_
    refine ev_iconst (v := 1) dX12_clearOf_24 (by decide) ?_
    refine ev_iadd dX12_clearOf_25 ?_
    refine ev_goto (tgt := 30) dX12_clearOf_26 (by decide) ?_
    exact ev_iret dX12_clearOf_30 rfl rfl (by decide) (by decide) rfl
def f_X12_isHarm_b27 (S : am_S) (a0 : Nat) (a1 : Int32) (a2 : Int32) (x5 : Int32 × Int32) : Option ((Int32 × Int32) ⊕ (Int32)) :=
  ((f_X12_houses S a0).bind (fun v6 => (if x5.2 < v6 then ((if x5.1 = 0 then (if a1 = a2 then some (0 : Int32) else ((f_X12_isHearing S a0 x5.2 a1).bind (fun v10 => (if v10 = 0 then some (0 : Int32) else ((f_X12_isHearing S a0 x5.2 a2).bind (fun v12 => (if v12 = 0 then some (0 : Int32) else some (1 : Int32)))))))) else some (1 : Int32)).bind (fun t8 => some (.inl (t8, (x5.2 + 1))))) else some (.inr x5.1))))
def f_X12_isHarm (S : am_S) (p0 : Nat) (p1 : Int32) (p2 : Int32) : Option (Int32) :=
  ((f_X12_isHearing S p0 p1 p2).bind (fun v1 => ((if v1 = 0 then ((f_X12_isHearing S p0 p2 p1).bind (fun v3 => (if v3 = 0 then some (0 : Int32) else some (1 : Int32)))) else some (1 : Int32)).bind (fun t2 => ((am_loop (f_X12_isHarm_b27 S p0 p1 p2) am_fuel (t2, 0)).bind (fun t5 => (if t5 = 0 ∨ t5 = 1 then some t5 else none)))))))
set_option maxRecDepth 20000 in
theorem t_X12_isHarm {E : am_E} {l : Launch} (hl : l.stackTraces = false) {S : am_S} {p0 : Nat} {p1 : Int32} {p2 : Int32} (kp0 : am_kd p0 = 112) : am_M E l yX12_isHarm (.code yX12_isHarm cX12_isHarm 5 (some .boolean)) 3 0 0 [.ref p0, .int p1, .int p2] S ((f_X12_isHarm S p0 p1 p2).map (fun (v : Int32) => ((.inl (some (.int v)), S) : am_R))) := by
  refine am_M_of (w := fun (v : Int32) => ((.inl (some (.int v)), S) : am_R)) hl (by decide) (am_fc rfl (am_fc rfl (am_fc rfl am_fn))) (Nat.le_of_ble_eq_true rfl) ?_
  show am_Ev E l (RX12, cX12_isHarm, 5, (some .boolean), [], am_rm 3 0 0) (fun b a s x => am_Z E 0 0 b a s ((fun (v : Int32) => ((.inl (some (.int v)), S) : am_R)) x)) 0 0 0 [some (.ref p0), some (.int p1), some (.int p2), none, none] [] S (f_X12_isHarm S p0 p1 p2)
  unfold f_X12_isHarm
  refine ev_aload_n dX12_isHarm_0 rfl ?_
  refine ev_iload_n dX12_isHarm_1 rfl ?_
  refine ev_iload_n dX12_isHarm_2 rfl ?_
  refine ev_callP (am_callV (as := [.int p1, .int p2]) (o := p0) (st := []) cv_X12_251 dX12_isHarm_3 kp0 rfl (am_le rfl) (am_fit (by omega) (by decide) (by decide) (by decide)) (t_X12_isHearing hl kp0)) (fun v1 h1 => ?_)
  refine ev_reg (cs' := 0) (sl' := 0) 23 (fun t2 : Int32 => [some (.ref p0), some (.int p1), some (.int p2), none, none]) (fun t2 => [.int t2]) (fun t2 => S) (fun hJ2 => ?_) (fun t2 => ?_)
  · refine ev_eq am_ib ?_
    refine ev_if_ne (tgt := 18) dX12_isHarm_6 (by decide) (fun c2 => ?_) (fun c2 => ?_)
    · refine ev_iconst (v := 1) dX12_isHarm_18 (by decide) ?_
      refine ev_goto (tgt := 23) dX12_isHarm_19 (by decide) ?_
      exact ev_leaf (am_wk (am_wk (am_wk (am_wf (am_wf am_wn))))) (hJ2 (1 : Int32))
    · refine ev_aload_n dX12_isHarm_9 rfl ?_
      refine ev_iload_n dX12_isHarm_10 rfl ?_
      refine ev_iload_n dX12_isHarm_11 rfl ?_
      refine ev_eq (Option.bind_assoc _ _ _) ?_
      refine ev_callP (am_callV (as := [.int p2, .int p1]) (o := p0) (st := []) cv_X12_251 dX12_isHarm_12 kp0 rfl (am_le rfl) (am_fit (by omega) (by decide) (by decide) (by decide)) (t_X12_isHearing hl kp0)) (fun v3 h3 => ?_)
      refine ev_eq am_ib ?_
      refine ev_if_eq (tgt := 22) dX12_isHarm_15 (by decide) (fun c4 => ?_) (fun c4 => ?_)
      · refine ev_iconst (v := 0) dX12_isHarm_22 (by decide) ?_
        exact ev_leaf (am_wk (am_wk (am_wk (am_wf (am_wf am_wn))))) (hJ2 (0 : Int32))
      · refine ev_iconst (v := 1) dX12_isHarm_18 (by decide) ?_
        refine ev_goto (tgt := 23) dX12_isHarm_19 (by decide) ?_
        exact ev_leaf (am_wk (am_wk (am_wk (am_wf (am_wf am_wn))))) (hJ2 (1 : Int32))
  · refine ev_istore_n dX12_isHarm_23 (am_lt rfl) ?_
    refine ev_iconst (v := 0) dX12_isHarm_24 (by decide) ?_
    refine ev_istore dX12_isHarm_25 (am_lt rfl) ?_
    refine ev_weak (am_wk (am_wk (am_wk (am_wk (am_wk am_wn))))) (ev_loop 27 77 (fun x5 : Int32 × Int32 => [some (.ref p0), some (.int p1), some (.int p2), some (.int x5.1), some (.int x5.2)]) (fun t5 : Int32 => [none, none, none, some (.int t5), none]) (fun x5 => S) (fun t5 => S) (fun x5 G5 hB5 hE5 => ?_) (fun t5 => ?_) am_fuel (t2, 0))
    · unfold f_X12_isHarm_b27
      refine ev_iload dX12_isHarm_27 rfl ?_
      refine ev_aload_n dX12_isHarm_29 rfl ?_
      refine ev_eq (Option.bind_assoc _ _ _) ?_
      refine ev_callP (am_callV (as := []) (o := p0) (st := [.int x5.2]) cv_X12_74 dX12_isHarm_30 kp0 rfl (am_le rfl) (am_fit (by omega) (by decide) (by decide) (by decide)) (t_X12_houses hl kp0)) (fun v14 h14 => ?_)
      refine ev_eq am_ib ?_
      refine ev_icmp_ge (tgt := 77) dX12_isHarm_33 (by decide) (fun c15 => ?_) (fun c15 => ?_)
      · exact ev_leaf (am_wf (am_wf (am_wf (am_wk (am_wf am_wn))))) (hE5 x5.1)
      · refine ev_iload_n dX12_isHarm_36 rfl ?_
        refine ev_eq (Option.bind_assoc _ _ _) ?_
        refine ev_reg (cs' := 0) (sl' := 0) 70 (fun t16 : Int32 => [some (.ref p0), some (.int p1), some (.int p2), none, some (.int x5.2)]) (fun t16 => [.int t16]) (fun t16 => S) (fun hJ16 => ?_) (fun t16 => ?_)
        · refine ev_eq am_ib ?_
          refine ev_if_ne (tgt := 65) dX12_isHarm_37 (by decide) (fun c16 => ?_) (fun c16 => ?_)
          · refine ev_iconst (v := 1) dX12_isHarm_65 (by decide) ?_
            refine ev_goto (tgt := 70) dX12_isHarm_66 (by decide) ?_
            exact ev_leaf (am_wk (am_wk (am_wk (am_wf (am_wk am_wn))))) (hJ16 (1 : Int32))
          · refine ev_iload_n dX12_isHarm_40 rfl ?_
            refine ev_iload_n dX12_isHarm_41 rfl ?_
            refine ev_eq am_ib ?_
            refine ev_icmp_eq (tgt := 69) dX12_isHarm_42 (by decide) (fun c17 => ?_) (fun c17 => ?_)
            · refine ev_iconst (v := 0) dX12_isHarm_69 (by decide) ?_
              exact ev_leaf (am_wk (am_wk (am_wk (am_wf (am_wk am_wn))))) (hJ16 (0 : Int32))
            · refine ev_aload_n dX12_isHarm_45 rfl ?_
              refine ev_iload dX12_isHarm_46 rfl ?_
              refine ev_iload_n dX12_isHarm_48 rfl ?_
              refine ev_eq (Option.bind_assoc _ _ _) ?_
              refine ev_callP (am_callV (as := [.int x5.2, .int p1]) (o := p0) (st := []) cv_X12_251 dX12_isHarm_49 kp0 rfl (am_le rfl) (am_fit (by omega) (by decide) (by decide) (by decide)) (t_X12_isHearing hl kp0)) (fun v18 h18 => ?_)
              refine ev_eq am_ib ?_
              refine ev_if_eq (tgt := 69) dX12_isHarm_52 (by decide) (fun c19 => ?_) (fun c19 => ?_)
              · refine ev_iconst (v := 0) dX12_isHarm_69 (by decide) ?_
                exact ev_leaf (am_wk (am_wk (am_wk (am_wf (am_wk am_wn))))) (hJ16 (0 : Int32))
              · refine ev_aload_n dX12_isHarm_55 rfl ?_
                refine ev_iload dX12_isHarm_56 rfl ?_
                refine ev_iload_n dX12_isHarm_58 rfl ?_
                refine ev_eq (Option.bind_assoc _ _ _) ?_
                refine ev_callP (am_callV (as := [.int x5.2, .int p2]) (o := p0) (st := []) cv_X12_251 dX12_isHarm_59 kp0 rfl (am_le rfl) (am_fit (by omega) (by decide) (by decide) (by decide)) (t_X12_isHearing hl kp0)) (fun v20 h20 => ?_)
                refine ev_eq am_ib ?_
                refine ev_if_eq (tgt := 69) dX12_isHarm_62 (by decide) (fun c21 => ?_) (fun c21 => ?_)
                · refine ev_iconst (v := 0) dX12_isHarm_69 (by decide) ?_
                  exact ev_leaf (am_wk (am_wk (am_wk (am_wf (am_wk am_wn))))) (hJ16 (0 : Int32))
                · refine ev_iconst (v := 1) dX12_isHarm_65 (by decide) ?_
                  refine ev_goto (tgt := 70) dX12_isHarm_66 (by decide) ?_
                  exact ev_leaf (am_wk (am_wk (am_wk (am_wf (am_wk am_wn))))) (hJ16 (1 : Int32))
        · refine ev_istore_n dX12_isHarm_70 (am_lt rfl) ?_
          refine ev_iinc (v := (x5.2 + 1)) dX12_isHarm_71 (am_lt rfl) rfl rfl ?_
          refine ev_goto (tgt := 27) dX12_isHarm_74 (by decide) ?_
          exact ev_leaf (am_wk (am_wk (am_wk (am_wk (am_wk am_wn))))) (hB5 (t16, (x5.2 + 1)))
    · refine ev_iload_n dX12_isHarm_77 rfl ?_
      refine ev_split (fun c22 => ?_) (fun _ => ?_)
      · exact ev_iret dX12_isHarm_78 rfl (am_nb c22) (by decide) (by decide) rfl
      · exact ev_none
