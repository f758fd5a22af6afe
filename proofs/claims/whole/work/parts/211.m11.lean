def f_X12_quiet_b123 (S : am_S) (a0 : Nat) (a1 : Int32) (a2 : Int32) (a4 : Int32) (x21 : Int32 × Int32 × Int32 × (Nat → Nat → Int32)) : Option ((Int32 × Int32 × Int32 × (Nat → Nat → Int32)) ⊕ (Int32 × (Nat → Nat → Int32))) :=
  (if a4 < x21.2.2.1 then some (.inr (x21.1, x21.2.2.2)) else ((f_X12_lays (x21.2.2.2, S.2) a0 x21.2.2.1 a1 a2).bind (fun σ23 => ((am_rd S.2 a0 1 1).bind (fun q24 => ((am_ld σ23 q24 4).bind (fun v25 => ((f_X12_takers (σ23, S.2) a0 (v25 - 1) 0).bind (fun v26 => ((am_rd S.2 a0 1 1).bind (fun q27 => ((am_ld σ23 q27 4).bind (fun v28 => ((am_st σ23 q27 4 (v28 - 1)).bind (fun σ29 => ((if x21.2.1 < v26 then some x21.2.2.1 else some x21.1).bind (fun t30 => ((f_J9_max_7cf53 x21.2.1 v26).bind (fun v31 => some (.inl (t30, v31, (x21.2.2.1 + 1), σ29)))))))))))))))))))))
def f_X12_quiet (S : am_S) (p0 : Nat) (p1 : Int32) (p2 : Int32) (p3 : Int32) (p4 : Int32) : Option (Int32 × (Nat → Nat → Int32)) :=
  ((f_X12_noHouse ((am_u2 S.1 p0 0 0), S.2) p0 p1).bind (fun v1 => ((if v1 = 0 then ((f_X12_noWant ((am_u2 S.1 p0 0 0), S.2) p0 p2).bind (fun v3 => (if v3 = 0 then some (0 : Int32) else some (1 : Int32)))) else some (1 : Int32)).bind (fun t2 => ((f_X12_throwsIf ((am_u2 S.1 p0 0 0), S.2) p0 t2 1).bind (fun y5 => (if y5.1 = 0 then ((f_X12_in p3 0 999).bind (fun v7 => ((if v7 = 0 then some (1 : Int32) else ((f_J9_min_7cf53 999 (p3 + 60)).bind (fun v9 => ((f_X12_in p4 p3 v9).bind (fun v10 => (if v10 = 0 then some (1 : Int32) else some (0 : Int32))))))).bind (fun t8 => ((f_X12_throwsIf (y5.2, S.2) p0 t8 2).bind (fun y12 => (if y12.1 = 0 then ((am_rd S.2 p0 1 1).bind (fun q14 => ((am_ld y12.2 q14 4).bind (fun v15 => ((if v15 = 12 then some (1 : Int32) else some (0 : Int32)).bind (fun t16 => ((f_X12_throwsIf (y12.2, S.2) p0 t16 3).bind (fun y17 => (if y17.1 = 0 then ((f_X12_wordOf (y17.2, S.2) p0 p1 p2).bind (fun v19 => (if v19 = 0 then some ((-1), y17.2) else ((am_loop (f_X12_quiet_b123 (y17.2, S.2) p0 p1 p2 p4) am_fuel ((-1), (-1), p3, y17.2)).bind (fun t21 => some (t21.1, t21.2)))))) else some (0, y17.2)))))))))) else some (0, y12.2)))))))) else some (0, y5.2))))))))
set_option maxRecDepth 20000 in
theorem t_X12_quiet {E : am_E} {l : Launch} (hl : l.stackTraces = false) {S : am_S} {p0 : Nat} {p1 : Int32} {p2 : Int32} {p3 : Int32} {p4 : Int32} (kp0 : am_kd p0 = 112) : am_M E l yX12_quiet (.code yX12_quiet cX12_quiet 9 (some .int)) 8 0 0 [.ref p0, .int p1, .int p2, .int p3, .int p4] S ((f_X12_quiet S p0 p1 p2 p3 p4).map (fun (x : Int32 × (Nat → Nat → Int32)) => ((.inl (some (.int x.1)), (x.2, S.2)) : am_R))) := by
  refine am_M_of (w := fun (x : Int32 × (Nat → Nat → Int32)) => ((.inl (some (.int x.1)), (x.2, S.2)) : am_R)) hl (by decide) (am_fc rfl (am_fc rfl (am_fc rfl (am_fc rfl (am_fc rfl am_fn))))) (Nat.le_of_ble_eq_true rfl) ?_
  show am_Ev E l (RX12, cX12_quiet, 9, (some .int), [], am_rm 8 0 0) (fun b a s x => am_Z E 0 0 b a s ((fun (x : Int32 × (Nat → Nat → Int32)) => ((.inl (some (.int x.1)), (x.2, S.2)) : am_R)) x)) 0 0 0 [some (.ref p0), some (.int p1), some (.int p2), some (.int p3), some (.int p4), none, none, none, none] [] S (f_X12_quiet S p0 p1 p2 p3 p4)
  unfold f_X12_quiet
  refine ev_aload_n dX12_quiet_0 rfl ?_
  refine ev_iconst (v := 0) dX12_quiet_1 (by decide) ?_
  refine ev_putI fk_X12_3 tyX12 tyX12_ok nmX12 rfl (by decide +kernel) (by decide) dX12_quiet_2 kp0 ?_
  refine ev_aload_n dX12_quiet_5 rfl ?_
  refine ev_aload_n dX12_quiet_6 rfl ?_
  refine ev_iload_n dX12_quiet_7 rfl ?_
  refine ev_callP (am_callV (as := [.int p1]) (o := p0) (st := [.ref p0]) cv_X12_257 dX12_quiet_8 kp0 rfl (am_le rfl) (am_fit (by omega) (by decide) (by decide) (by decide)) (t_X12_noHouse hl kp0)) (fun v1 h1 => ?_)
  refine ev_reg (cs' := 0) (sl' := 0) 27 (fun t2 : Int32 => [some (.ref p0), some (.int p1), some (.int p2), some (.int p3), some (.int p4), none, none, none, none]) (fun t2 => [.int t2, .ref p0]) (fun t2 => ((am_u2 S.1 p0 0 0), S.2)) (fun hJ2 => ?_) (fun t2 => ?_)
  · refine ev_eq am_ib ?_
    refine ev_if_ne (tgt := 22) dX12_quiet_11 (by decide) (fun c2 => ?_) (fun c2 => ?_)
    · refine ev_iconst (v := 1) dX12_quiet_22 (by decide) ?_
      refine ev_goto (tgt := 27) dX12_quiet_23 (by decide) ?_
      exact ev_leaf (am_wk (am_wk (am_wk (am_wk (am_wk (am_wf (am_wf (am_wf (am_wf am_wn))))))))) (hJ2 (1 : Int32))
    · refine ev_aload_n dX12_quiet_14 rfl ?_
      refine ev_iload_n dX12_quiet_15 rfl ?_
      refine ev_eq (Option.bind_assoc _ _ _) ?_
      refine ev_callP (am_callV (as := [.int p2]) (o := p0) (st := [.ref p0]) cv_X12_263 dX12_quiet_16 kp0 rfl (am_le rfl) (am_fit (by omega) (by decide) (by decide) (by decide)) (t_X12_noWant hl kp0)) (fun v3 h3 => ?_)
      refine ev_eq am_ib ?_
      refine ev_if_eq (tgt := 26) dX12_quiet_19 (by decide) (fun c4 => ?_) (fun c4 => ?_)
      · refine ev_iconst (v := 0) dX12_quiet_26 (by decide) ?_
        exact ev_leaf (am_wk (am_wk (am_wk (am_wk (am_wk (am_wf (am_wf (am_wf (am_wf am_wn))))))))) (hJ2 (0 : Int32))
      · refine ev_iconst (v := 1) dX12_quiet_22 (by decide) ?_
        refine ev_goto (tgt := 27) dX12_quiet_23 (by decide) ?_
        exact ev_leaf (am_wk (am_wk (am_wk (am_wk (am_wk (am_wf (am_wf (am_wf (am_wf am_wn))))))))) (hJ2 (1 : Int32))
  · refine ev_iconst (v := 1) dX12_quiet_27 (by decide) ?_
    refine ev_callWI (am_callV (as := [.int t2, .int 1]) (o := p0) (st := []) cv_X12_242 dX12_quiet_28 kp0 rfl (am_le rfl) (am_fit (by omega) (by decide) (by decide) (by decide)) (t_X12_throwsIf hl kp0)) (fun y5 h5 => ?_)
    refine ev_if_ne (tgt := 101) dX12_quiet_31 (by decide) (fun c6 => ?_) (fun c6 => ?_)
    · refine ev_iconst (v := 0) dX12_quiet_101 (by decide) ?_
      exact ev_iret dX12_quiet_102 rfl rfl (by decide) (by decide) rfl
    · refine ev_aload_n dX12_quiet_34 rfl ?_
      refine ev_iload_n dX12_quiet_35 rfl ?_
      refine ev_iconst (v := 0) dX12_quiet_36 (by decide) ?_
      refine ev_sipush (v := 999) dX12_quiet_37 (by decide) ?_
      refine ev_callP (am_callS (as := [.int p3, .int 0, .int 999]) (st := [.ref p0]) ct_X12_78 dX12_quiet_40 rfl (am_le rfl) (am_fit (by omega) (by decide) (by decide) (by decide)) (t_X12_in hl )) (fun v7 h7 => ?_)
      refine ev_reg (cs' := 0) (sl' := 0) 70 (fun t8 : Int32 => [some (.ref p0), some (.int p1), some (.int p2), some (.int p3), some (.int p4), none, none, none, none]) (fun t8 => [.int t8, .ref p0]) (fun t8 => (y5.2, S.2)) (fun hJ8 => ?_) (fun t8 => ?_)
      · refine ev_eq am_ib ?_
        refine ev_if_eq (tgt := 65) dX12_quiet_43 (by decide) (fun c8 => ?_) (fun c8 => ?_)
        · refine ev_iconst (v := 1) dX12_quiet_65 (by decide) ?_
          refine ev_goto (tgt := 70) dX12_quiet_66 (by decide) ?_
          exact ev_leaf (am_wk (am_wk (am_wk (am_wk (am_wk (am_wf (am_wf (am_wf (am_wf am_wn))))))))) (hJ8 (1 : Int32))
        · refine ev_iload dX12_quiet_46 rfl ?_
          refine ev_iload_n dX12_quiet_48 rfl ?_
          refine ev_sipush (v := 999) dX12_quiet_49 (by decide) ?_
          refine ev_iload_n dX12_quiet_52 rfl ?_
          refine ev_bipush (v := 60) dX12_quiet_53 (by decide) ?_
          refine ev_iadd dX12_quiet_55 ?_
          refine ev_eq (Option.bind_assoc _ _ _) ?_
          refine ev_callP (am_callS (as := [.int 999, .int (p3 + 60)]) (st := [.int p3, .int p4, .ref p0]) ct_X12_306 dX12_quiet_56 rfl (am_le rfl) (am_fit (by omega) (by decide) (by decide) (by decide)) (t_J9_min_7cf53 hl )) (fun v9 h9 => ?_)
          refine ev_eq (Option.bind_assoc _ _ _) ?_
          refine ev_callP (am_callS (as := [.int p4, .int p3, .int v9]) (st := [.ref p0]) ct_X12_78 dX12_quiet_59 rfl (am_le rfl) (am_fit (by omega) (by decide) (by decide) (by decide)) (t_X12_in hl )) (fun v10 h10 => ?_)
          refine ev_eq am_ib ?_
          refine ev_if_ne (tgt := 69) dX12_quiet_62 (by decide) (fun c11 => ?_) (fun c11 => ?_)
          · refine ev_iconst (v := 0) dX12_quiet_69 (by decide) ?_
            exact ev_leaf (am_wk (am_wk (am_wk (am_wk (am_wk (am_wf (am_wf (am_wf (am_wf am_wn))))))))) (hJ8 (0 : Int32))
          · refine ev_iconst (v := 1) dX12_quiet_65 (by decide) ?_
            refine ev_goto (tgt := 70) dX12_quiet_66 (by decide) ?_
            exact ev_leaf (am_wk (am_wk (am_wk (am_wk (am_wk (am_wf (am_wf (am_wf (am_wf am_wn))))))))) (hJ8 (1 : Int32))
      · refine ev_iconst (v := 2) dX12_quiet_70 (by decide) ?_
        refine ev_callWI (am_callV (as := [.int t8, .int 2]) (o := p0) (st := []) cv_X12_242 dX12_quiet_71 kp0 rfl (am_le rfl) (am_fit (by omega) (by decide) (by decide) (by decide)) (t_X12_throwsIf hl kp0)) (fun y12 h12 => ?_)
        refine ev_if_ne (tgt := 101) dX12_quiet_74 (by decide) (fun c13 => ?_) (fun c13 => ?_)
        · refine ev_iconst (v := 0) dX12_quiet_101 (by decide) ?_
          exact ev_iret dX12_quiet_102 rfl rfl (by decide) (by decide) rfl
        · refine ev_aload_n dX12_quiet_77 rfl ?_
          refine ev_aload_n dX12_quiet_78 rfl ?_
          refine ev_getR fk_X12_13 (by decide) dX12_quiet_79 kp0 (fun q14 k14 r14 => ?_)
          refine ev_iconst (v := 4) dX12_quiet_82 (by decide) ?_
          refine ev_iald dX12_quiet_83 k14 (fun v15 h15 => ?_)
          refine ev_bipush (v := 12) dX12_quiet_84 (by decide) ?_
          refine ev_reg (cs' := 0) (sl' := 0) 94 (fun t16 : Int32 => [some (.ref p0), some (.int p1), some (.int p2), some (.int p3), some (.int p4), none, none, none, none]) (fun t16 => [.int t16, .ref p0]) (fun t16 => (y12.2, S.2)) (fun hJ16 => ?_) (fun t16 => ?_)
          · refine ev_eq am_ib ?_
            refine ev_icmp_ne (tgt := 93) dX12_quiet_86 (by decide) (fun c16 => ?_) (fun c16 => ?_)
            · refine ev_iconst (v := 0) dX12_quiet_93 (by decide) ?_
              exact ev_leaf (am_wk (am_wk (am_wk (am_wk (am_wk (am_wf (am_wf (am_wf (am_wf am_wn))))))))) (hJ16 (0 : Int32))
            · refine ev_iconst (v := 1) dX12_quiet_89 (by decide) ?_
              refine ev_goto (tgt := 94) dX12_quiet_90 (by decide) ?_
              exact ev_leaf (am_wk (am_wk (am_wk (am_wk (am_wk (am_wf (am_wf (am_wf (am_wf am_wn))))))))) (hJ16 (1 : Int32))
          · refine ev_iconst (v := 3) dX12_quiet_94 (by decide) ?_
            refine ev_callWI (am_callV (as := [.int t16, .int 3]) (o := p0) (st := []) cv_X12_242 dX12_quiet_95 kp0 rfl (am_le rfl) (am_fit (by omega) (by decide) (by decide) (by decide)) (t_X12_throwsIf hl kp0)) (fun y17 h17 => ?_)
            refine ev_if_eq (tgt := 103) dX12_quiet_98 (by decide) (fun c18 => ?_) (fun c18 => ?_)
            · refine ev_aload_n dX12_quiet_103 rfl ?_
              refine ev_iload_n dX12_quiet_104 rfl ?_
              refine ev_iload_n dX12_quiet_105 rfl ?_
              refine ev_callP (am_callV (as := [.int p1, .int p2]) (o := p0) (st := []) cv_X12_254 dX12_quiet_106 kp0 rfl (am_le rfl) (am_fit (by omega) (by decide) (by decide) (by decide)) (t_X12_wordOf hl kp0)) (fun v19 h19 => ?_)
              refine ev_if_ne (tgt := 114) dX12_quiet_109 (by decide) (fun c20 => ?_) (fun c20 => ?_)
              · refine ev_iconst (v := (-1)) dX12_quiet_114 (by decide) ?_
                refine ev_istore dX12_quiet_115 (am_lt rfl) ?_
                refine ev_iconst (v := (-1)) dX12_quiet_117 (by decide) ?_
                refine ev_istore dX12_quiet_118 (am_lt rfl) ?_
                refine ev_iload_n dX12_quiet_120 rfl ?_
                refine ev_istore dX12_quiet_121 (am_lt rfl) ?_
                refine ev_weak (am_wk (am_wk (am_wk (am_wf (am_wk (am_wk (am_wk (am_wk (am_wf am_wn))))))))) (ev_loop 123 194 (fun x21 : Int32 × Int32 × Int32 × (Nat → Nat → Int32) => [some (.ref p0), some (.int p1), some (.int p2), none, some (.int p4), some (.int x21.1), some (.int x21.2.1), some (.int x21.2.2.1), none]) (fun t21 : Int32 × (Nat → Nat → Int32) => [none, none, none, none, none, some (.int t21.1), none, none, none]) (fun x21 => (x21.2.2.2, S.2)) (fun t21 => (t21.2, S.2)) (fun x21 G21 hB21 hE21 => ?_) (fun t21 => ?_) am_fuel ((-1), (-1), p3, y17.2))
                · unfold f_X12_quiet_b123
                  refine ev_iload dX12_quiet_123 rfl ?_
                  refine ev_iload dX12_quiet_125 rfl ?_
                  refine ev_eq am_ib ?_
                  refine ev_icmp_gt (tgt := 194) dX12_quiet_127 (by decide) (fun c32 => ?_) (fun c32 => ?_)
                  · exact ev_leaf (am_wf (am_wf (am_wf (am_wf (am_wf (am_wk (am_wf (am_wf (am_wf am_wn))))))))) (hE21 (x21.1, x21.2.2.2))
                  · refine ev_aload_n dX12_quiet_130 rfl ?_
                    refine ev_iload dX12_quiet_131 rfl ?_
                    refine ev_iload_n dX12_quiet_133 rfl ?_
                    refine ev_iload_n dX12_quiet_134 rfl ?_
                    refine ev_eq (Option.bind_assoc _ _ _) ?_
                    refine ev_callWV (am_callV (as := [.int x21.2.2.1, .int p1, .int p2]) (o := p0) (st := []) cv_X12_277 dX12_quiet_135 kp0 rfl (am_le rfl) (am_fit (by omega) (by decide) (by decide) (by decide)) (t_X12_lays hl kp0)) (fun σ33 h33 => ?_)
                    refine ev_aload_n dX12_quiet_138 rfl ?_
                    refine ev_aload_n dX12_quiet_139 rfl ?_
                    refine ev_eq (Option.bind_assoc _ _ _) ?_
                    refine ev_getR fk_X12_13 (by decide) dX12_quiet_140 kp0 (fun q34 k34 r34 => ?_)
                    refine ev_iconst (v := 4) dX12_quiet_143 (by decide) ?_
                    refine ev_eq (Option.bind_assoc _ _ _) ?_
                    refine ev_iald dX12_quiet_144 k34 (fun v35 h35 => ?_)
                    refine ev_iconst (v := 1) dX12_quiet_145 (by decide) ?_
                    refine ev_isub dX12_quiet_146 ?_
                    refine ev_iconst (v := 0) dX12_quiet_147 (by decide) ?_
                    refine ev_eq (Option.bind_assoc _ _ _) ?_
                    refine ev_callP (am_callV (as := [.int (v35 - 1), .int 0]) (o := p0) (st := []) cv_X12_299 dX12_quiet_148 kp0 rfl (am_le rfl) (am_fit (by omega) (by decide) (by decide) (by decide)) (t_X12_takers hl kp0)) (fun v36 h36 => ?_)
                    refine ev_istore dX12_quiet_151 (am_lt rfl) ?_
                    refine ev_aload_n dX12_quiet_153 rfl ?_
                    refine ev_eq (Option.bind_assoc _ _ _) ?_
                    refine ev_getR fk_X12_13 (by decide) dX12_quiet_154 kp0 (fun q37 k37 r37 => ?_)
                    refine ev_iconst (v := 4) dX12_quiet_157 (by decide) ?_
                    refine ev_dup2 dX12_quiet_158 rfl rfl ?_
                    refine ev_eq (Option.bind_assoc _ _ _) ?_
                    refine ev_iald dX12_quiet_159 k37 (fun v38 h38 => ?_)
                    refine ev_iconst (v := 1) dX12_quiet_160 (by decide) ?_
                    refine ev_isub dX12_quiet_161 ?_
                    refine ev_eq (Option.bind_assoc _ _ _) ?_
                    refine ev_iast dX12_quiet_162 k37 (fun σ39 h39 => ?_)
                    refine ev_iload dX12_quiet_163 rfl ?_
                    refine ev_iload dX12_quiet_165 rfl ?_
                    refine ev_eq (Option.bind_assoc _ _ _) ?_
                    refine ev_reg (cs' := 0) (sl' := 0) 177 (fun t40 : Int32 => [some (.ref p0), some (.int p1), some (.int p2), none, some (.int p4), none, some (.int x21.2.1), some (.int x21.2.2.1), some (.int v36)]) (fun t40 => [.int t40]) (fun t40 => (σ39, S.2)) (fun hJ40 => ?_) (fun t40 => ?_)
                    · refine ev_eq am_ib ?_
                      refine ev_icmp_le (tgt := 175) dX12_quiet_167 (by decide) (fun c40 => ?_) (fun c40 => ?_)
                      · refine ev_iload dX12_quiet_175 rfl ?_
                        exact ev_leaf (am_wk (am_wk (am_wk (am_wf (am_wk (am_wf (am_wk (am_wk (am_wk am_wn))))))))) (hJ40 x21.1)
                      · refine ev_iload dX12_quiet_170 rfl ?_
                        refine ev_goto (tgt := 177) dX12_quiet_172 (by decide) ?_
                        exact ev_leaf (am_wk (am_wk (am_wk (am_wf (am_wk (am_wf (am_wk (am_wk (am_wk am_wn))))))))) (hJ40 x21.2.2.1)
                    · refine ev_istore dX12_quiet_177 (am_lt rfl) ?_
                      refine ev_iload dX12_quiet_179 rfl ?_
                      refine ev_iload dX12_quiet_181 rfl ?_
                      refine ev_eq (Option.bind_assoc _ _ _) ?_
                      refine ev_callP (am_callS (as := [.int x21.2.1, .int v36]) (st := []) ct_X12_94 dX12_quiet_183 rfl (am_le rfl) (am_fit (by omega) (by decide) (by decide) (by decide)) (t_J9_max_7cf53 hl )) (fun v41 h41 => ?_)
                      refine ev_istore dX12_quiet_186 (am_lt rfl) ?_
                      refine ev_iinc (v := (x21.2.2.1 + 1)) dX12_quiet_188 (am_lt rfl) rfl rfl ?_
                      refine ev_goto (tgt := 123) dX12_quiet_191 (by decide) ?_
                      exact ev_leaf (am_wk (am_wk (am_wk (am_wf (am_wk (am_wk (am_wk (am_wk (am_wf am_wn))))))))) (hB21 (t40, v41, (x21.2.2.1 + 1), σ39))
                · refine ev_iload dX12_quiet_194 rfl ?_
                  exact ev_iret dX12_quiet_196 rfl rfl (by decide) (by decide) rfl
              · refine ev_iconst (v := (-1)) dX12_quiet_112 (by decide) ?_
                exact ev_iret dX12_quiet_113 rfl rfl (by decide) (by decide) rfl
            · refine ev_iconst (v := 0) dX12_quiet_101 (by decide) ?_
              exact ev_iret dX12_quiet_102 rfl rfl (by decide) (by decide) rfl
def f_X12_draw (S : am_S) (p0 : Nat) (p1 : Int32) : Option (Int32 × (Nat → Nat → Int32)) :=
  (if p1 = 0 then none else some ((((((am_u2 S.1 p0 15 ((1103515245 * (S.1 p0 15)) + 12345)) p0 15) >>> ((16 : Int32) &&& 31)) &&& 32767) - ((((am_u2 S.1 p0 15 ((1103515245 * (S.1 p0 15)) + 12345)) p0 15) >>> ((16 : Int32) &&& 31)) &&& 32767) / p1 * p1), (am_u2 S.1 p0 15 ((1103515245 * (S.1 p0 15)) + 12345))))
set_option maxRecDepth 20000 in
theorem t_X12_draw {E : am_E} {l : Launch} (hl : l.stackTraces = false) {S : am_S} {p0 : Nat} {p1 : Int32} (kp0 : am_kd p0 = 112) : am_M E l yX12_draw (.code yX12_draw cX12_draw 2 (some .int)) 0 0 0 [.ref p0, .int p1] S ((f_X12_draw S p0 p1).map (fun (x : Int32 × (Nat → Nat → Int32)) => ((.inl (some (.int x.1)), (x.2, S.2)) : am_R))) := by
  refine am_M_of (w := fun (x : Int32 × (Nat → Nat → Int32)) => ((.inl (some (.int x.1)), (x.2, S.2)) : am_R)) hl (by decide) (am_fc rfl (am_fc rfl am_fn)) (Nat.le_of_ble_eq_true rfl) ?_
  show am_Ev E l (RX12, cX12_draw, 2, (some .int), [], am_rm 0 0 0) (fun b a s x => am_Z E 0 0 b a s ((fun (x : Int32 × (Nat → Nat → Int32)) => ((.inl (some (.int x.1)), (x.2, S.2)) : am_R)) x)) 0 0 0 [some (.ref p0), some (.int p1)] [] S (f_X12_draw S p0 p1)
  unfold f_X12_draw
  refine ev_aload_n dX12_draw_0 rfl ?_
  refine ev_ldcwI (v := 1103515245) dX12_draw_1 (am_G_t (i := 1808) (by decide +kernel) rfl) ?_
  refine ev_aload_n dX12_draw_4 rfl ?_
  refine ev_get fk_X12_309 dX12_draw_5 kp0 (am_fvI (by decide)) ?_
  refine ev_imul dX12_draw_8 ?_
  refine ev_sipush (v := 12345) dX12_draw_9 (by decide) ?_
  refine ev_iadd dX12_draw_12 ?_
  refine ev_putI fk_X12_309 tyX12 tyX12_ok nmX12 rfl (by decide +kernel) (by decide) dX12_draw_13 kp0 ?_
  refine ev_aload_n dX12_draw_16 rfl ?_
  refine ev_get fk_X12_309 dX12_draw_17 kp0 (am_fvI (by decide)) ?_
  refine ev_bipush (v := 16) dX12_draw_20 (by decide) ?_
  refine ev_ishr dX12_draw_22 ?_
  refine ev_sipush (v := 32767) dX12_draw_23 (by decide) ?_
  refine ev_iand dX12_draw_26 ?_
  refine ev_iload_n dX12_draw_27 rfl ?_
  refine ev_split (fun _ => ?_) (fun c1 => ?_)
  · exact ev_none
  · refine ev_irem dX12_draw_28 c1 ?_
    exact ev_iret dX12_draw_29 rfl rfl (by decide) (by decide) rfl
def f_X12_evening_b71 (S : am_S) (a0 : Nat) (a1 : Int32) (a2 : Int32) (a3 : Int32) (x13 : Int32 × (Nat → Nat → Int32)) : Option ((Int32 × (Nat → Nat → Int32)) ⊕ ((Nat → Nat → Int32))) :=
  (if x13.1 < 48 then ((am_rd S.2 a0 14 1).bind (fun q15 => ((am_rd S.2 a0 1 1).bind (fun q16 => ((am_ld x13.2 q16 (138 + x13.1)).bind (fun v17 => ((am_st x13.2 q15 x13.1 v17).bind (fun σ18 => some (.inl ((x13.1 + 1), σ18)))))))))) else some (.inr x13.2))
def f_X12_evening_b125 (S : am_S) (a0 : Nat) (a2 : Int32) (a3 : Int32) (a4 : Int32) (x28 : Int32 × (Nat → Nat → Int32)) : Option ((Int32 × (Nat → Nat → Int32)) ⊕ ((Nat → Nat → Int32))) :=
  (if x28.1 < a2 then ((f_X12_draw (x28.2, S.2) a0 20).bind (fun y30 => ((f_X12_houses (y30.2, S.2) a0).bind (fun v31 => ((f_X12_draw (y30.2, S.2) a0 v31).bind (fun y32 => ((f_X12_wants (y32.2, S.2) a0).bind (fun v33 => ((f_X12_draw (y32.2, S.2) a0 v33).bind (fun y34 => ((f_X12_wordOf (y34.2, S.2) a0 y32.1 y34.1).bind (fun v35 => ((if 0 < v35 then ((f_X12_lays (y34.2, S.2) a0 y30.1 y32.1 y34.1).bind (fun σ37 => some σ37)) else some y34.2).bind (fun t36 => some (.inl ((x28.1 + 1), t36)))))))))))))))) else some (.inr x28.2))
def f_X12_evening_b192 (S : am_S) (a0 : Nat) (a3 : Int32) (a4 : Int32) (x47 : Int32 × Int32) : Option ((Int32 × Int32) ⊕ (Int32)) :=
  ((am_rd S.2 a0 1 1).bind (fun q48 => ((am_ld S.1 q48 4).bind (fun v49 => (if x47.2 < v49 then ((f_X12_takers S a0 x47.2 0).bind (fun v51 => ((f_X12_takers S a0 x47.2 1).bind (fun v52 => ((if a3 = 0 then some v51 else (if a3 = 1 then some v52 else (if a3 = 3 then some (1 : Int32) else (if (v51 + v52) = 0 then some (1 : Int32) else some (0 : Int32))))).bind (fun t53 => some (.inl ((x47.1 + t53), (x47.2 + 1))))))))) else some (.inr x47.1))))))
def f_X12_evening_b272 (S : am_S) (a0 : Nat) (a4 : Int32) (a5 : Int32) (x66 : Int32 × (Nat → Nat → Int32)) : Option ((Int32 × (Nat → Nat → Int32)) ⊕ ((Nat → Nat → Int32))) :=
  (if x66.1 < 48 then ((am_rd S.2 a0 1 1).bind (fun q68 => ((am_rd S.2 a0 14 1).bind (fun q69 => ((am_ld x66.2 q69 x66.1).bind (fun v70 => ((am_st x66.2 q68 (138 + x66.1) v70).bind (fun σ71 => some (.inl ((x66.1 + 1), σ71)))))))))) else some (.inr x66.2))
def f_X12_evening (S : am_S) (p0 : Nat) (p1 : Int32) (p2 : Int32) (p3 : Int32) : Option (Int32 × (Nat → Nat → Int32)) :=
  ((f_X12_in p2 1 12).bind (fun v1 => ((if v1 = 0 then some (1 : Int32) else some (0 : Int32)).bind (fun t2 => ((f_X12_throwsIf ((am_u2 S.1 p0 0 0), S.2) p0 t2 1).bind (fun y3 => (if y3.1 = 0 then ((f_X12_in p3 0 3).bind (fun v5 => ((if v5 = 0 then some (1 : Int32) else some (0 : Int32)).bind (fun t6 => ((f_X12_throwsIf (y3.2, S.2) p0 t6 2).bind (fun y7 => (if y7.1 = 0 then ((f_X12_houses (y7.2, S.2) p0).bind (fun v9 => (if v9 = 0 then some (0, y7.2) else ((f_X12_wants (y7.2, S.2) p0).bind (fun v11 => (if v11 = 0 then some (0, y7.2) else ((am_loop (f_X12_evening_b71 (y7.2, S.2) p0 p1 p2 p3) am_fuel (0, y7.2)).bind (fun t13 => ((am_rd S.2 p0 1 1).bind (fun q24 => ((am_ld t13 q24 4).bind (fun v25 => ((am_rd S.2 p0 1 1).bind (fun q26 => ((am_st t13 q26 4 0).bind (fun σ27 => ((am_loop (f_X12_evening_b125 ((am_u2 σ27 p0 15 p1), S.2) p0 p2 p3 v25) am_fuel (0, (am_u2 σ27 p0 15 p1))).bind (fun t28 => ((am_loop (f_X12_evening_b192 (t28, S.2) p0 p3 v25) am_fuel (0, 0)).bind (fun t47 => ((am_loop (f_X12_evening_b272 (t28, S.2) p0 v25 t47) am_fuel (0, t28)).bind (fun t66 => ((am_rd S.2 p0 1 1).bind (fun q77 => ((am_st t66 q77 4 v25).bind (fun σ78 => some (t47, σ78))))))))))))))))))))))))))) else some (0, y7.2)))))))) else some (0, y3.2))))))))
set_option maxRecDepth 20000 in
theorem t_X12_evening {E : am_E} {l : Launch} (hl : l.stackTraces = false) {S : am_S} {p0 : Nat} {p1 : Int32} {p2 : Int32} {p3 : Int32} (kp0 : am_kd p0 = 112) : am_M E l yX12_evening (.code yX12_evening cX12_evening 9 (some .int)) 8 0 0 [.ref p0, .int p1, .int p2, .int p3] S ((f_X12_evening S p0 p1 p2 p3).map (fun (x : Int32 × (Nat → Nat → Int32)) => ((.inl (some (.int x.1)), (x.2, S.2)) : am_R))) := by
  refine am_M_of (w := fun (x : Int32 × (Nat → Nat → Int32)) => ((.inl (some (.int x.1)), (x.2, S.2)) : am_R)) hl (by decide) (am_fc rfl (am_fc rfl (am_fc rfl (am_fc rfl am_fn)))) (Nat.le_of_ble_eq_true rfl) ?_
  show am_Ev E l (RX12, cX12_evening, 9, (some .int), [], am_rm 8 0 0) (fun b a s x => am_Z E 0 0 b a s ((fun (x : Int32 × (Nat → Nat → Int32)) => ((.inl (some (.int x.1)), (x.2, S.2)) : am_R)) x)) 0 0 0 [some (.ref p0), some (.int p1), some (.int p2), some (.int p3), none, none, none, none, none] [] S (f_X12_evening S p0 p1 p2 p3)
  unfold f_X12_evening
  refine ev_aload_n dX12_evening_0 rfl ?_
  refine ev_iconst (v := 0) dX12_evening_1 (by decide) ?_
  refine ev_putI fk_X12_3 tyX12 tyX12_ok nmX12 rfl (by decide +kernel) (by decide) dX12_evening_2 kp0 ?_
  refine ev_aload_n dX12_evening_5 rfl ?_
  refine ev_iload_n dX12_evening_6 rfl ?_
  refine ev_iconst (v := 1) dX12_evening_7 (by decide) ?_
  refine ev_bipush (v := 12) dX12_evening_8 (by decide) ?_
  refine ev_callP (am_callS (as := [.int p2, .int 1, .int 12]) (st := [.ref p0]) ct_X12_78 dX12_evening_10 rfl (am_le rfl) (am_fit (by omega) (by decide) (by decide) (by decide)) (t_X12_in hl )) (fun v1 h1 => ?_)
  refine ev_reg (cs' := 0) (sl' := 0) 21 (fun t2 : Int32 => [some (.ref p0), some (.int p1), some (.int p2), some (.int p3), none, none, none, none, none]) (fun t2 => [.int t2, .ref p0]) (fun t2 => ((am_u2 S.1 p0 0 0), S.2)) (fun hJ2 => ?_) (fun t2 => ?_)
  · refine ev_eq am_ib ?_
    refine ev_if_ne (tgt := 20) dX12_evening_13 (by decide) (fun c2 => ?_) (fun c2 => ?_)
    · refine ev_iconst (v := 0) dX12_evening_20 (by decide) ?_
      exact ev_leaf (am_wk (am_wk (am_wk (am_wk (am_wf (am_wf (am_wf (am_wf (am_wf am_wn))))))))) (hJ2 (0 : Int32))
    · refine ev_iconst (v := 1) dX12_evening_16 (by decide) ?_
      refine ev_goto (tgt := 21) dX12_evening_17 (by decide) ?_
      exact ev_leaf (am_wk (am_wk (am_wk (am_wk (am_wf (am_wf (am_wf (am_wf (am_wf am_wn))))))))) (hJ2 (1 : Int32))
  · refine ev_iconst (v := 1) dX12_evening_21 (by decide) ?_
    refine ev_callWI (am_callV (as := [.int t2, .int 1]) (o := p0) (st := []) cv_X12_242 dX12_evening_22 kp0 rfl (am_le rfl) (am_fit (by omega) (by decide) (by decide) (by decide)) (t_X12_throwsIf hl kp0)) (fun y3 h3 => ?_)
    refine ev_if_ne (tgt := 50) dX12_evening_25 (by decide) (fun c4 => ?_) (fun c4 => ?_)
    · refine ev_iconst (v := 0) dX12_evening_50 (by decide) ?_
      exact ev_iret dX12_evening_51 rfl rfl (by decide) (by decide) rfl
    · refine ev_aload_n dX12_evening_28 rfl ?_
      refine ev_iload_n dX12_evening_29 rfl ?_
      refine ev_iconst (v := 0) dX12_evening_30 (by decide) ?_
      refine ev_iconst (v := 3) dX12_evening_31 (by decide) ?_
      refine ev_callP (am_callS (as := [.int p3, .int 0, .int 3]) (st := [.ref p0]) ct_X12_78 dX12_evening_32 rfl (am_le rfl) (am_fit (by omega) (by decide) (by decide) (by decide)) (t_X12_in hl )) (fun v5 h5 => ?_)
      refine ev_reg (cs' := 0) (sl' := 0) 43 (fun t6 : Int32 => [some (.ref p0), some (.int p1), some (.int p2), some (.int p3), none, none, none, none, none]) (fun t6 => [.int t6, .ref p0]) (fun t6 => (y3.2, S.2)) (fun hJ6 => ?_) (fun t6 => ?_)
      · refine ev_eq am_ib ?_
        refine ev_if_ne (tgt := 42) dX12_evening_35 (by decide) (fun c6 => ?_) (fun c6 => ?_)
        · refine ev_iconst (v := 0) dX12_evening_42 (by decide) ?_
          exact ev_leaf (am_wk (am_wk (am_wk (am_wk (am_wf (am_wf (am_wf (am_wf (am_wf am_wn))))))))) (hJ6 (0 : Int32))
        · refine ev_iconst (v := 1) dX12_evening_38 (by decide) ?_
          refine ev_goto (tgt := 43) dX12_evening_39 (by decide) ?_
          exact ev_leaf (am_wk (am_wk (am_wk (am_wk (am_wf (am_wf (am_wf (am_wf (am_wf am_wn))))))))) (hJ6 (1 : Int32))
      · refine ev_iconst (v := 2) dX12_evening_43 (by decide) ?_
        refine ev_callWI (am_callV (as := [.int t6, .int 2]) (o := p0) (st := []) cv_X12_242 dX12_evening_44 kp0 rfl (am_le rfl) (am_fit (by omega) (by decide) (by decide) (by decide)) (t_X12_throwsIf hl kp0)) (fun y7 h7 => ?_)
        refine ev_if_eq (tgt := 52) dX12_evening_47 (by decide) (fun c8 => ?_) (fun c8 => ?_)
        · refine ev_aload_n dX12_evening_52 rfl ?_
          refine ev_callP (am_callV (as := []) (o := p0) (st := []) cv_X12_74 dX12_evening_53 kp0 rfl (am_le rfl) (am_fit (by omega) (by decide) (by decide) (by decide)) (t_X12_houses hl kp0)) (fun v9 h9 => ?_)
          refine ev_if_eq (tgt := 66) dX12_evening_56 (by decide) (fun c10 => ?_) (fun c10 => ?_)
          · refine ev_iconst (v := 0) dX12_evening_66 (by decide) ?_
            exact ev_iret dX12_evening_67 rfl rfl (by decide) (by decide) rfl
          · refine ev_aload_n dX12_evening_59 rfl ?_
            refine ev_callP (am_callV (as := []) (o := p0) (st := []) cv_X12_82 dX12_evening_60 kp0 rfl (am_le rfl) (am_fit (by omega) (by decide) (by decide) (by decide)) (t_X12_wants hl kp0)) (fun v11 h11 => ?_)
            refine ev_if_ne (tgt := 68) dX12_evening_63 (by decide) (fun c12 => ?_) (fun c12 => ?_)
            · refine ev_iconst (v := 0) dX12_evening_68 (by decide) ?_
              refine ev_istore dX12_evening_69 (am_lt rfl) ?_
              refine ev_weak (am_wk (am_wk (am_wk (am_wk (am_wk (am_wf (am_wf (am_wf (am_wf am_wn))))))))) (ev_loop 71 102 (fun x13 : Int32 × (Nat → Nat → Int32) => [some (.ref p0), some (.int p1), some (.int p2), some (.int p3), some (.int x13.1), none, none, none, none]) (fun t13 : (Nat → Nat → Int32) => [some (.ref p0), some (.int p1), some (.int p2), some (.int p3), none, none, none, none, none]) (fun x13 => (x13.2, S.2)) (fun t13 => (t13, S.2)) (fun x13 G13 hB13 hE13 => ?_) (fun t13 => ?_) am_fuel (0, y7.2))
              · unfold f_X12_evening_b71
                refine ev_iload dX12_evening_71 rfl ?_
                refine ev_bipush (v := 48) dX12_evening_73 (by decide) ?_
                refine ev_eq am_ib ?_
                refine ev_icmp_ge (tgt := 102) dX12_evening_75 (by decide) (fun c19 => ?_) (fun c19 => ?_)
                · exact ev_leaf (am_wk (am_wk (am_wk (am_wk (am_wf (am_wf (am_wf (am_wf (am_wf am_wn))))))))) (hE13 x13.2)
                · refine ev_aload_n dX12_evening_78 rfl ?_
                  refine ev_eq (Option.bind_assoc _ _ _) ?_
                  refine ev_getR fk_X12_33 (by decide) dX12_evening_79 kp0 (fun q20 k20 r20 => ?_)
                  refine ev_iload dX12_evening_82 rfl ?_
                  refine ev_aload_n dX12_evening_84 rfl ?_
                  refine ev_eq (Option.bind_assoc _ _ _) ?_
                  refine ev_getR fk_X12_13 (by decide) dX12_evening_85 kp0 (fun q21 k21 r21 => ?_)
                  refine ev_sipush (v := 138) dX12_evening_88 (by decide) ?_
                  refine ev_iload dX12_evening_91 rfl ?_
                  refine ev_iadd dX12_evening_93 ?_
                  refine ev_eq (Option.bind_assoc _ _ _) ?_
                  refine ev_iald dX12_evening_94 k21 (fun v22 h22 => ?_)
                  refine ev_eq (Option.bind_assoc _ _ _) ?_
                  refine ev_iast dX12_evening_95 k20 (fun σ23 h23 => ?_)
                  refine ev_iinc (v := (x13.1 + 1)) dX12_evening_96 (am_lt rfl) rfl rfl ?_
                  refine ev_goto (tgt := 71) dX12_evening_99 (by decide) ?_
                  exact ev_leaf (am_wk (am_wk (am_wk (am_wk (am_wk (am_wf (am_wf (am_wf (am_wf am_wn))))))))) (hB13 ((x13.1 + 1), σ23))
              · refine ev_aload_n dX12_evening_102 rfl ?_
                refine ev_getR fk_X12_13 (by decide) dX12_evening_103 kp0 (fun q24 k24 r24 => ?_)
                refine ev_iconst (v := 4) dX12_evening_106 (by decide) ?_
                refine ev_iald dX12_evening_107 k24 (fun v25 h25 => ?_)
                refine ev_istore dX12_evening_108 (am_lt rfl) ?_
                refine ev_aload_n dX12_evening_110 rfl ?_
                refine ev_getR fk_X12_13 (by decide) dX12_evening_111 kp0 (fun q26 k26 r26 => ?_)
                refine ev_iconst (v := 4) dX12_evening_114 (by decide) ?_
                refine ev_iconst (v := 0) dX12_evening_115 (by decide) ?_
                refine ev_iast dX12_evening_116 k26 (fun σ27 h27 => ?_)
                refine ev_aload_n dX12_evening_117 rfl ?_
                refine ev_iload_n dX12_evening_118 rfl ?_
                refine ev_putI fk_X12_309 tyX12 tyX12_ok nmX12 rfl (by decide +kernel) (by decide) dX12_evening_119 kp0 ?_
                refine ev_iconst (v := 0) dX12_evening_122 (by decide) ?_
                refine ev_istore dX12_evening_123 (am_lt rfl) ?_
                refine ev_weak (am_wk (am_wf (am_wk (am_wk (am_wk (am_wk (am_wf (am_wf (am_wf am_wn))))))))) (ev_loop 125 186 (fun x28 : Int32 × (Nat → Nat → Int32) => [some (.ref p0), none, some (.int p2), some (.int p3), some (.int v25), some (.int x28.1), none, none, none]) (fun t28 : (Nat → Nat → Int32) => [some (.ref p0), none, none, some (.int p3), some (.int v25), none, none, none, none]) (fun x28 => (x28.2, S.2)) (fun t28 => (t28, S.2)) (fun x28 G28 hB28 hE28 => ?_) (fun t28 => ?_) am_fuel (0, (am_u2 σ27 p0 15 p1)))
                · unfold f_X12_evening_b125
                  refine ev_iload dX12_evening_125 rfl ?_
                  refine ev_iload_n dX12_evening_127 rfl ?_
                  refine ev_eq am_ib ?_
                  refine ev_icmp_ge (tgt := 186) dX12_evening_128 (by decide) (fun c38 => ?_) (fun c38 => ?_)
                  · exact ev_leaf (am_wk (am_wf (am_wf (am_wk (am_wk (am_wf (am_wf (am_wf (am_wf am_wn))))))))) (hE28 x28.2)
                  · refine ev_aload_n dX12_evening_131 rfl ?_
                    refine ev_bipush (v := 20) dX12_evening_132 (by decide) ?_
                    refine ev_eq (Option.bind_assoc _ _ _) ?_
                    refine ev_callWI (am_callV (as := [.int 20]) (o := p0) (st := []) cv_X12_312 dX12_evening_134 kp0 rfl (am_le rfl) (am_fit (by omega) (by decide) (by decide) (by decide)) (t_X12_draw hl kp0)) (fun y39 h39 => ?_)
                    refine ev_istore dX12_evening_137 (am_lt rfl) ?_
                    refine ev_aload_n dX12_evening_139 rfl ?_
                    refine ev_aload_n dX12_evening_140 rfl ?_
                    refine ev_eq (Option.bind_assoc _ _ _) ?_
                    refine ev_callP (am_callV (as := []) (o := p0) (st := [.ref p0]) cv_X12_74 dX12_evening_141 kp0 rfl (am_le rfl) (am_fit (by omega) (by decide) (by decide) (by decide)) (t_X12_houses hl kp0)) (fun v40 h40 => ?_)
                    refine ev_eq (Option.bind_assoc _ _ _) ?_
                    refine ev_callWI (am_callV (as := [.int v40]) (o := p0) (st := []) cv_X12_312 dX12_evening_144 kp0 rfl (am_le rfl) (am_fit (by omega) (by decide) (by decide) (by decide)) (t_X12_draw hl kp0)) (fun y41 h41 => ?_)
                    refine ev_istore dX12_evening_147 (am_lt rfl) ?_
                    refine ev_aload_n dX12_evening_149 rfl ?_
                    refine ev_aload_n dX12_evening_150 rfl ?_
                    refine ev_eq (Option.bind_assoc _ _ _) ?_
                    refine ev_callP (am_callV (as := []) (o := p0) (st := [.ref p0]) cv_X12_82 dX12_evening_151 kp0 rfl (am_le rfl) (am_fit (by omega) (by decide) (by decide) (by decide)) (t_X12_wants hl kp0)) (fun v42 h42 => ?_)
                    refine ev_eq (Option.bind_assoc _ _ _) ?_
                    refine ev_callWI (am_callV (as := [.int v42]) (o := p0) (st := []) cv_X12_312 dX12_evening_154 kp0 rfl (am_le rfl) (am_fit (by omega) (by decide) (by decide) (by decide)) (t_X12_draw hl kp0)) (fun y43 h43 => ?_)
                    refine ev_istore dX12_evening_157 (am_lt rfl) ?_
                    refine ev_aload_n dX12_evening_159 rfl ?_
                    refine ev_iload dX12_evening_160 rfl ?_
                    refine ev_iload dX12_evening_162 rfl ?_
                    refine ev_eq (Option.bind_assoc _ _ _) ?_
                    refine ev_callP (am_callV (as := [.int y41.1, .int y43.1]) (o := p0) (st := []) cv_X12_254 dX12_evening_164 kp0 rfl (am_le rfl) (am_fit (by omega) (by decide) (by decide) (by decide)) (t_X12_wordOf hl kp0)) (fun v44 h44 => ?_)
                    refine ev_eq (Option.bind_assoc _ _ _) ?_
                    refine ev_reg (cs' := 0) (sl' := 0) 180 (fun t45 : (Nat → Nat → Int32) => [some (.ref p0), none, some (.int p2), some (.int p3), some (.int v25), some (.int x28.1), none, none, none]) (fun t45 => []) (fun t45 => (t45, S.2)) (fun hJ45 => ?_) (fun t45 => ?_)
                    · refine ev_eq am_ib ?_
                      refine ev_if_le (tgt := 180) dX12_evening_167 (by decide) (fun c45 => ?_) (fun c45 => ?_)
                      · exact ev_leaf (am_wk (am_wf (am_wk (am_wk (am_wk (am_wk (am_wf (am_wf (am_wf am_wn))))))))) (hJ45 y43.2)
                      · refine ev_aload_n dX12_evening_170 rfl ?_
                        refine ev_iload dX12_evening_171 rfl ?_
                        refine ev_iload dX12_evening_173 rfl ?_
                        refine ev_iload dX12_evening_175 rfl ?_
                        refine ev_eq (Option.bind_assoc _ _ _) ?_
                        refine ev_callWV (am_callV (as := [.int y39.1, .int y41.1, .int y43.1]) (o := p0) (st := []) cv_X12_277 dX12_evening_177 kp0 rfl (am_le rfl) (am_fit (by omega) (by decide) (by decide) (by decide)) (t_X12_lays hl kp0)) (fun σ46 h46 => ?_)
                        exact ev_leaf (am_wk (am_wf (am_wk (am_wk (am_wk (am_wk (am_wf (am_wf (am_wf am_wn))))))))) (hJ45 σ46)
                    · refine ev_iinc (v := (x28.1 + 1)) dX12_evening_180 (am_lt rfl) rfl rfl ?_
                      refine ev_goto (tgt := 125) dX12_evening_183 (by decide) ?_
                      exact ev_leaf (am_wk (am_wf (am_wk (am_wk (am_wk (am_wk (am_wf (am_wf (am_wf am_wn))))))))) (hB28 ((x28.1 + 1), t45))
                · refine ev_iconst (v := 0) dX12_evening_186 (by decide) ?_
                  refine ev_istore dX12_evening_187 (am_lt rfl) ?_
                  refine ev_iconst (v := 0) dX12_evening_189 (by decide) ?_
                  refine ev_istore dX12_evening_190 (am_lt rfl) ?_
                  refine ev_weak (am_wk (am_wf (am_wf (am_wk (am_wk (am_wk (am_wk (am_wf (am_wf am_wn))))))))) (ev_loop 192 269 (fun x47 : Int32 × Int32 => [some (.ref p0), none, none, some (.int p3), some (.int v25), some (.int x47.1), some (.int x47.2), none, none]) (fun t47 : Int32 => [some (.ref p0), none, none, none, some (.int v25), some (.int t47), none, none, none]) (fun x47 => (t28, S.2)) (fun t47 => (t28, S.2)) (fun x47 G47 hB47 hE47 => ?_) (fun t47 => ?_) am_fuel (0, 0))
                  · unfold f_X12_evening_b192
                    refine ev_iload dX12_evening_192 rfl ?_
                    refine ev_aload_n dX12_evening_194 rfl ?_
                    refine ev_eq (Option.bind_assoc _ _ _) ?_
                    refine ev_getR fk_X12_13 (by decide) dX12_evening_195 kp0 (fun q57 k57 r57 => ?_)
                    refine ev_iconst (v := 4) dX12_evening_198 (by decide) ?_
                    refine ev_eq (Option.bind_assoc _ _ _) ?_
                    refine ev_iald dX12_evening_199 k57 (fun v58 h58 => ?_)
                    refine ev_eq am_ib ?_
                    refine ev_icmp_ge (tgt := 269) dX12_evening_200 (by decide) (fun c59 => ?_) (fun c59 => ?_)
                    · exact ev_leaf (am_wk (am_wf (am_wf (am_wf (am_wk (am_wk (am_wf (am_wf (am_wf am_wn))))))))) (hE47 x47.1)
                    · refine ev_aload_n dX12_evening_203 rfl ?_
                      refine ev_iload dX12_evening_204 rfl ?_
                      refine ev_iconst (v := 0) dX12_evening_206 (by decide) ?_
                      refine ev_eq (Option.bind_assoc _ _ _) ?_
                      refine ev_callP (am_callV (as := [.int x47.2, .int 0]) (o := p0) (st := []) cv_X12_299 dX12_evening_207 kp0 rfl (am_le rfl) (am_fit (by omega) (by decide) (by decide) (by decide)) (t_X12_takers hl kp0)) (fun v60 h60 => ?_)
                      refine ev_istore dX12_evening_210 (am_lt rfl) ?_
                      refine ev_aload_n dX12_evening_212 rfl ?_
                      refine ev_iload dX12_evening_213 rfl ?_
                      refine ev_iconst (v := 1) dX12_evening_215 (by decide) ?_
                      refine ev_eq (Option.bind_assoc _ _ _) ?_
                      refine ev_callP (am_callV (as := [.int x47.2, .int 1]) (o := p0) (st := []) cv_X12_299 dX12_evening_216 kp0 rfl (am_le rfl) (am_fit (by omega) (by decide) (by decide) (by decide)) (t_X12_takers hl kp0)) (fun v61 h61 => ?_)
                      refine ev_istore dX12_evening_219 (am_lt rfl) ?_
                      refine ev_iload dX12_evening_221 rfl ?_
                      refine ev_iload_n dX12_evening_223 rfl ?_
                      refine ev_eq (Option.bind_assoc _ _ _) ?_
                      refine ev_reg (cs' := 0) (sl' := 0) 260 (fun t62 : Int32 => [some (.ref p0), none, none, some (.int p3), some (.int v25), none, some (.int x47.2), none, none]) (fun t62 => [.int t62, .int x47.1]) (fun t62 => (t28, S.2)) (fun hJ62 => ?_) (fun t62 => ?_)
                      · refine ev_eq am_ib ?_
                        refine ev_if_ne (tgt := 232) dX12_evening_224 (by decide) (fun c62 => ?_) (fun c62 => ?_)
                        · refine ev_iload_n dX12_evening_232 rfl ?_
                          refine ev_iconst (v := 1) dX12_evening_233 (by decide) ?_
                          refine ev_eq am_ib ?_
                          refine ev_icmp_ne (tgt := 242) dX12_evening_234 (by decide) (fun c63 => ?_) (fun c63 => ?_)
                          · refine ev_iload_n dX12_evening_242 rfl ?_
                            refine ev_iconst (v := 3) dX12_evening_243 (by decide) ?_
                            refine ev_eq am_ib ?_
                            refine ev_icmp_eq (tgt := 255) dX12_evening_244 (by decide) (fun c64 => ?_) (fun c64 => ?_)
                            · refine ev_iconst (v := 1) dX12_evening_255 (by decide) ?_
                              refine ev_goto (tgt := 260) dX12_evening_256 (by decide) ?_
                              exact ev_leaf (am_wk (am_wf (am_wf (am_wk (am_wk (am_wf (am_wk (am_wf (am_wf am_wn))))))))) (hJ62 (1 : Int32))
                            · refine ev_iload dX12_evening_247 rfl ?_
                              refine ev_iload dX12_evening_249 rfl ?_
                              refine ev_iadd dX12_evening_251 ?_
                              refine ev_eq am_ib ?_
                              refine ev_if_ne (tgt := 259) dX12_evening_252 (by decide) (fun c65 => ?_) (fun c65 => ?_)
                              · refine ev_iconst (v := 0) dX12_evening_259 (by decide) ?_
                                exact ev_leaf (am_wk (am_wf (am_wf (am_wk (am_wk (am_wf (am_wk (am_wf (am_wf am_wn))))))))) (hJ62 (0 : Int32))
                              · refine ev_iconst (v := 1) dX12_evening_255 (by decide) ?_
                                refine ev_goto (tgt := 260) dX12_evening_256 (by decide) ?_
                                exact ev_leaf (am_wk (am_wf (am_wf (am_wk (am_wk (am_wf (am_wk (am_wf (am_wf am_wn))))))))) (hJ62 (1 : Int32))
                          · refine ev_iload dX12_evening_237 rfl ?_
                            refine ev_goto (tgt := 260) dX12_evening_239 (by decide) ?_
                            exact ev_leaf (am_wk (am_wf (am_wf (am_wk (am_wk (am_wf (am_wk (am_wf (am_wf am_wn))))))))) (hJ62 v61)
                        · refine ev_iload dX12_evening_227 rfl ?_
                          refine ev_goto (tgt := 260) dX12_evening_229 (by decide) ?_
                          exact ev_leaf (am_wk (am_wf (am_wf (am_wk (am_wk (am_wf (am_wk (am_wf (am_wf am_wn))))))))) (hJ62 v60)
                      · refine ev_iadd dX12_evening_260 ?_
                        refine ev_istore dX12_evening_261 (am_lt rfl) ?_
                        refine ev_iinc (v := (x47.2 + 1)) dX12_evening_263 (am_lt rfl) rfl rfl ?_
                        refine ev_goto (tgt := 192) dX12_evening_266 (by decide) ?_
                        exact ev_leaf (am_wk (am_wf (am_wf (am_wk (am_wk (am_wk (am_wk (am_wf (am_wf am_wn))))))))) (hB47 ((x47.1 + t62), (x47.2 + 1)))
                  · refine ev_iconst (v := 0) dX12_evening_269 (by decide) ?_
                    refine ev_istore dX12_evening_270 (am_lt rfl) ?_
                    refine ev_weak (am_wk (am_wf (am_wf (am_wf (am_wk (am_wk (am_wk (am_wf (am_wf am_wn))))))))) (ev_loop 272 303 (fun x66 : Int32 × (Nat → Nat → Int32) => [some (.ref p0), none, none, none, some (.int v25), some (.int t47), some (.int x66.1), none, none]) (fun t66 : (Nat → Nat → Int32) => [some (.ref p0), none, none, none, some (.int v25), some (.int t47), none, none, none]) (fun x66 => (x66.2, S.2)) (fun t66 => (t66, S.2)) (fun x66 G66 hB66 hE66 => ?_) (fun t66 => ?_) am_fuel (0, t28))
                    · unfold f_X12_evening_b272
                      refine ev_iload dX12_evening_272 rfl ?_
                      refine ev_bipush (v := 48) dX12_evening_274 (by decide) ?_
                      refine ev_eq am_ib ?_
                      refine ev_icmp_ge (tgt := 303) dX12_evening_276 (by decide) (fun c72 => ?_) (fun c72 => ?_)
                      · exact ev_leaf (am_wk (am_wf (am_wf (am_wf (am_wk (am_wk (am_wf (am_wf (am_wf am_wn))))))))) (hE66 x66.2)
                      · refine ev_aload_n dX12_evening_279 rfl ?_
                        refine ev_eq (Option.bind_assoc _ _ _) ?_
                        refine ev_getR fk_X12_13 (by decide) dX12_evening_280 kp0 (fun q73 k73 r73 => ?_)
                        refine ev_sipush (v := 138) dX12_evening_283 (by decide) ?_
                        refine ev_iload dX12_evening_286 rfl ?_
                        refine ev_iadd dX12_evening_288 ?_
                        refine ev_aload_n dX12_evening_289 rfl ?_
                        refine ev_eq (Option.bind_assoc _ _ _) ?_
                        refine ev_getR fk_X12_33 (by decide) dX12_evening_290 kp0 (fun q74 k74 r74 => ?_)
                        refine ev_iload dX12_evening_293 rfl ?_
                        refine ev_eq (Option.bind_assoc _ _ _) ?_
                        refine ev_iald dX12_evening_295 k74 (fun v75 h75 => ?_)
                        refine ev_eq (Option.bind_assoc _ _ _) ?_
                        refine ev_iast dX12_evening_296 k73 (fun σ76 h76 => ?_)
                        refine ev_iinc (v := (x66.1 + 1)) dX12_evening_297 (am_lt rfl) rfl rfl ?_
                        refine ev_goto (tgt := 272) dX12_evening_300 (by decide) ?_
                        exact ev_leaf (am_wk (am_wf (am_wf (am_wf (am_wk (am_wk (am_wk (am_wf (am_wf am_wn))))))))) (hB66 ((x66.1 + 1), σ76))
                    · refine ev_aload_n dX12_evening_303 rfl ?_
                      refine ev_getR fk_X12_13 (by decide) dX12_evening_304 kp0 (fun q77 k77 r77 => ?_)
                      refine ev_iconst (v := 4) dX12_evening_307 (by decide) ?_
                      refine ev_iload dX12_evening_308 rfl ?_
                      refine ev_iast dX12_evening_310 k77 (fun σ78 h78 => ?_)
                      refine ev_iload dX12_evening_311 rfl ?_
                      exact ev_iret dX12_evening_313 rfl rfl (by decide) (by decide) rfl
            · refine ev_iconst (v := 0) dX12_evening_66 (by decide) ?_
              exact ev_iret dX12_evening_67 rfl rfl (by decide) (by decide) rfl
        · refine ev_iconst (v := 0) dX12_evening_50 (by decide) ?_
          exact ev_iret dX12_evening_51 rfl rfl (by decide) (by decide) rfl
def f_X12_beginsOf_b15 (S : am_S) (a0 : Nat) (a1 : Int32) (a3 : Int32) (x4 : Int32 × Int32) : Option ((Int32 × Int32) ⊕ (Int32)) :=
  (if x4.2 < a3 then ((f_X12_wordOf S a0 a1 a3).bind (fun v6 => ((f_X12_wordOf S a0 a1 x4.2).bind (fun v7 => ((if 0 < v6 then (if 0 < v7 then ((f_X12_isBegin v6 v7).bind (fun v10 => (if v10 = 0 then ((f_X12_isBegin v7 v6).bind (fun v12 => (if v12 = 0 then some (0 : Int32) else some (1 : Int32)))) else some (1 : Int32)))) else some (0 : Int32)) else some (0 : Int32)).bind (fun t8 => some (.inl ((x4.1 + t8), (x4.2 + 1))))))))) else some (.inr x4.1))
def f_X12_beginsOf_b4 (S : am_S) (a0 : Nat) (a1 : Int32) (x1 : Int32 × Int32) : Option ((Int32 × Int32) ⊕ (Int32)) :=
  ((f_X12_wants S a0).bind (fun v2 => (if x1.2 < v2 then ((am_loop (f_X12_beginsOf_b15 S a0 a1 x1.2) am_fuel (x1.1, 0)).bind (fun t4 => some (.inl (t4, (x1.2 + 1))))) else some (.inr x1.1))))
def f_X12_beginsOf (S : am_S) (p0 : Nat) (p1 : Int32) : Option (Int32) :=
  ((am_loop (f_X12_beginsOf_b4 S p0 p1) am_fuel (0, 0)).bind (fun t1 => some t1))
set_option maxRecDepth 20000 in
theorem t_X12_beginsOf {E : am_E} {l : Launch} (hl : l.stackTraces = false) {S : am_S} {p0 : Nat} {p1 : Int32} (kp0 : am_kd p0 = 112) : am_M E l yX12_beginsOf (.code yX12_beginsOf cX12_beginsOf 7 (some .int)) 3 0 0 [.ref p0, .int p1] S ((f_X12_beginsOf S p0 p1).map (fun (v : Int32) => ((.inl (some (.int v)), S) : am_R))) := by
  refine am_M_of (w := fun (v : Int32) => ((.inl (some (.int v)), S) : am_R)) hl (by decide) (am_fc rfl (am_fc rfl am_fn)) (Nat.le_of_ble_eq_true rfl) ?_
  show am_Ev E l (RX12, cX12_beginsOf, 7, (some .int), [], am_rm 3 0 0) (fun b a s x => am_Z E 0 0 b a s ((fun (v : Int32) => ((.inl (some (.int v)), S) : am_R)) x)) 0 0 0 [some (.ref p0), some (.int p1), none, none, none, none, none] [] S (f_X12_beginsOf S p0 p1)
  unfold f_X12_beginsOf
  refine ev_iconst (v := 0) dX12_beginsOf_0 (by decide) ?_
  refine ev_istore_n dX12_beginsOf_1 (am_lt rfl) ?_
  refine ev_iconst (v := 0) dX12_beginsOf_2 (by decide) ?_
  refine ev_istore_n dX12_beginsOf_3 (am_lt rfl) ?_
  refine ev_weak (am_wk (am_wk (am_wk (am_wk (am_wf (am_wf (am_wf am_wn))))))) (ev_loop 4 88 (fun x1 : Int32 × Int32 => [some (.ref p0), some (.int p1), some (.int x1.1), some (.int x1.2), none, none, none]) (fun t1 : Int32 => [none, none, some (.int t1), none, none, none, none]) (fun x1 => S) (fun t1 => S) (fun x1 G1 hB1 hE1 => ?_) (fun t1 => ?_) am_fuel (0, 0))
  · unfold f_X12_beginsOf_b4
    refine ev_iload_n dX12_beginsOf_4 rfl ?_
    refine ev_aload_n dX12_beginsOf_5 rfl ?_
    refine ev_eq (Option.bind_assoc _ _ _) ?_
    refine ev_callP (am_callV (as := []) (o := p0) (st := [.int x1.2]) cv_X12_82 dX12_beginsOf_6 kp0 rfl (am_le rfl) (am_fit (by omega) (by decide) (by decide) (by decide)) (t_X12_wants hl kp0)) (fun v23 h23 => ?_)
    refine ev_eq am_ib ?_
    refine ev_icmp_ge (tgt := 88) dX12_beginsOf_9 (by decide) (fun c24 => ?_) (fun c24 => ?_)
    · exact ev_leaf (am_wf (am_wf (am_wk (am_wf (am_wf (am_wf (am_wf am_wn))))))) (hE1 x1.1)
    · refine ev_iconst (v := 0) dX12_beginsOf_12 (by decide) ?_
      refine ev_istore dX12_beginsOf_13 (am_lt rfl) ?_
      refine ev_eq (Option.bind_assoc _ _ _) ?_
      refine ev_weak (am_wk (am_wk (am_wk (am_wk (am_wk (am_wf (am_wf am_wn))))))) (ev_loop 15 82 (fun x25 : Int32 × Int32 => [some (.ref p0), some (.int p1), some (.int x25.1), some (.int x1.2), some (.int x25.2), none, none]) (fun t25 : Int32 => [some (.ref p0), some (.int p1), some (.int t25), some (.int x1.2), none, none, none]) (fun x25 => S) (fun t25 => S) (fun x25 G25 hB25 hE25 => ?_) (fun t25 => ?_) am_fuel (x1.1, 0))
      · unfold f_X12_beginsOf_b15
        refine ev_iload dX12_beginsOf_15 rfl ?_
        refine ev_iload_n dX12_beginsOf_17 rfl ?_
        refine ev_eq am_ib ?_
        refine ev_icmp_ge (tgt := 82) dX12_beginsOf_18 (by decide) (fun c35 => ?_) (fun c35 => ?_)
        · exact ev_leaf (am_wk (am_wk (am_wk (am_wk (am_wf (am_wf (am_wf am_wn))))))) (hE25 x25.1)
        · refine ev_aload_n dX12_beginsOf_21 rfl ?_
          refine ev_iload_n dX12_beginsOf_22 rfl ?_
          refine ev_iload_n dX12_beginsOf_23 rfl ?_
          refine ev_eq (Option.bind_assoc _ _ _) ?_
          refine ev_callP (am_callV (as := [.int p1, .int x1.2]) (o := p0) (st := []) cv_X12_254 dX12_beginsOf_24 kp0 rfl (am_le rfl) (am_fit (by omega) (by decide) (by decide) (by decide)) (t_X12_wordOf hl kp0)) (fun v36 h36 => ?_)
          refine ev_istore dX12_beginsOf_27 (am_lt rfl) ?_
          refine ev_aload_n dX12_beginsOf_29 rfl ?_
          refine ev_iload_n dX12_beginsOf_30 rfl ?_
          refine ev_iload dX12_beginsOf_31 rfl ?_
          refine ev_eq (Option.bind_assoc _ _ _) ?_
          refine ev_callP (am_callV (as := [.int p1, .int x25.2]) (o := p0) (st := []) cv_X12_254 dX12_beginsOf_33 kp0 rfl (am_le rfl) (am_fit (by omega) (by decide) (by decide) (by decide)) (t_X12_wordOf hl kp0)) (fun v37 h37 => ?_)
          refine ev_istore dX12_beginsOf_36 (am_lt rfl) ?_
          refine ev_iload_n dX12_beginsOf_38 rfl ?_
          refine ev_iload dX12_beginsOf_39 rfl ?_
          refine ev_eq (Option.bind_assoc _ _ _) ?_
          refine ev_reg (cs' := 0) (sl' := 0) 74 (fun t38 : Int32 => [some (.ref p0), some (.int p1), none, some (.int x1.2), some (.int x25.2), none, none]) (fun t38 => [.int t38, .int x25.1]) (fun t38 => S) (fun hJ38 => ?_) (fun t38 => ?_)
          · refine ev_eq am_ib ?_
            refine ev_if_le (tgt := 73) dX12_beginsOf_41 (by decide) (fun c38 => ?_) (fun c38 => ?_)
            · refine ev_iconst (v := 0) dX12_beginsOf_73 (by decide) ?_
              exact ev_leaf (am_wk (am_wk (am_wf (am_wk (am_wk (am_wf (am_wf am_wn))))))) (hJ38 (0 : Int32))
            · refine ev_iload dX12_beginsOf_44 rfl ?_
              refine ev_eq am_ib ?_
              refine ev_if_le (tgt := 73) dX12_beginsOf_46 (by decide) (fun c39 => ?_) (fun c39 => ?_)
              · refine ev_iconst (v := 0) dX12_beginsOf_73 (by decide) ?_
                exact ev_leaf (am_wk (am_wk (am_wf (am_wk (am_wk (am_wf (am_wf am_wn))))))) (hJ38 (0 : Int32))
              · refine ev_iload dX12_beginsOf_49 rfl ?_
                refine ev_iload dX12_beginsOf_51 rfl ?_
                refine ev_eq (Option.bind_assoc _ _ _) ?_
                refine ev_callP (am_callS (as := [.int v36, .int v37]) (st := [.int x25.1]) ct_X12_303 dX12_beginsOf_53 rfl (am_le rfl) (am_fit (by omega) (by decide) (by decide) (by decide)) (t_X12_isBegin hl )) (fun v40 h40 => ?_)
                refine ev_eq am_ib ?_
                refine ev_if_ne (tgt := 69) dX12_beginsOf_56 (by decide) (fun c41 => ?_) (fun c41 => ?_)
                · refine ev_iconst (v := 1) dX12_beginsOf_69 (by decide) ?_
                  refine ev_goto (tgt := 74) dX12_beginsOf_70 (by decide) ?_
                  exact ev_leaf (am_wk (am_wk (am_wf (am_wk (am_wk (am_wf (am_wf am_wn))))))) (hJ38 (1 : Int32))
                · refine ev_iload dX12_beginsOf_59 rfl ?_
                  refine ev_iload dX12_beginsOf_61 rfl ?_
                  refine ev_eq (Option.bind_assoc _ _ _) ?_
                  refine ev_callP (am_callS (as := [.int v37, .int v36]) (st := [.int x25.1]) ct_X12_303 dX12_beginsOf_63 rfl (am_le rfl) (am_fit (by omega) (by decide) (by decide) (by decide)) (t_X12_isBegin hl )) (fun v42 h42 => ?_)
                  refine ev_eq am_ib ?_
                  refine ev_if_eq (tgt := 73) dX12_beginsOf_66 (by decide) (fun c43 => ?_) (fun c43 => ?_)
                  · refine ev_iconst (v := 0) dX12_beginsOf_73 (by decide) ?_
                    exact ev_leaf (am_wk (am_wk (am_wf (am_wk (am_wk (am_wf (am_wf am_wn))))))) (hJ38 (0 : Int32))
                  · refine ev_iconst (v := 1) dX12_beginsOf_69 (by decide) ?_
                    refine ev_goto (tgt := 74) dX12_beginsOf_70 (by decide) ?_
                    exact ev_leaf (am_wk (am_wk (am_wf (am_wk (am_wk (am_wf (am_wf am_wn))))))) (hJ38 (1 : Int32))
          · refine ev_iadd dX12_beginsOf_74 ?_
            refine ev_istore_n dX12_beginsOf_75 (am_lt rfl) ?_
            refine ev_iinc (v := (x25.2 + 1)) dX12_beginsOf_76 (am_lt rfl) rfl rfl ?_
            refine ev_goto (tgt := 15) dX12_beginsOf_79 (by decide) ?_
            exact ev_leaf (am_wk (am_wk (am_wk (am_wk (am_wk (am_wf (am_wf am_wn))))))) (hB25 ((x25.1 + t38), (x25.2 + 1)))
      · refine ev_iinc (v := (x1.2 + 1)) dX12_beginsOf_82 (am_lt rfl) rfl rfl ?_
        refine ev_goto (tgt := 4) dX12_beginsOf_85 (by decide) ?_
        exact ev_leaf (am_wk (am_wk (am_wk (am_wk (am_wf (am_wf (am_wf am_wn))))))) (hB1 (t25, (x1.2 + 1)))
  · refine ev_iload_n dX12_beginsOf_88 rfl ?_
    exact ev_iret dX12_beginsOf_89 rfl rfl (by decide) (by decide) rfl
def f_X12_begins (S : am_S) (p0 : Nat) (p1 : Int32) : Option (Int32 × (Nat → Nat → Int32)) :=
  ((f_X12_noHouse ((am_u2 S.1 p0 0 0), S.2) p0 p1).bind (fun v1 => ((f_X12_throwsIf ((am_u2 S.1 p0 0 0), S.2) p0 v1 1).bind (fun y2 => (if y2.1 = 0 then ((f_X12_beginsOf (y2.2, S.2) p0 p1).bind (fun v4 => some (v4, y2.2))) else some (0, y2.2))))))
set_option maxRecDepth 20000 in
theorem t_X12_begins {E : am_E} {l : Launch} (hl : l.stackTraces = false) {S : am_S} {p0 : Nat} {p1 : Int32} (kp0 : am_kd p0 = 112) : am_M E l yX12_begins (.code yX12_begins cX12_begins 2 (some .int)) 4 0 0 [.ref p0, .int p1] S ((f_X12_begins S p0 p1).map (fun (x : Int32 × (Nat → Nat → Int32)) => ((.inl (some (.int x.1)), (x.2, S.2)) : am_R))) := by
  refine am_M_of (w := fun (x : Int32 × (Nat → Nat → Int32)) => ((.inl (some (.int x.1)), (x.2, S.2)) : am_R)) hl (by decide) (am_fc rfl (am_fc rfl am_fn)) (Nat.le_of_ble_eq_true rfl) ?_
  show am_Ev E l (RX12, cX12_begins, 2, (some .int), [], am_rm 4 0 0) (fun b a s x => am_Z E 0 0 b a s ((fun (x : Int32 × (Nat → Nat → Int32)) => ((.inl (some (.int x.1)), (x.2, S.2)) : am_R)) x)) 0 0 0 [some (.ref p0), some (.int p1)] [] S (f_X12_begins S p0 p1)
  unfold f_X12_begins
  refine ev_aload_n dX12_begins_0 rfl ?_
  refine ev_iconst (v := 0) dX12_begins_1 (by decide) ?_
  refine ev_putI fk_X12_3 tyX12 tyX12_ok nmX12 rfl (by decide +kernel) (by decide) dX12_begins_2 kp0 ?_
  refine ev_aload_n dX12_begins_5 rfl ?_
  refine ev_aload_n dX12_begins_6 rfl ?_
  refine ev_iload_n dX12_begins_7 rfl ?_
  refine ev_callP (am_callV (as := [.int p1]) (o := p0) (st := [.ref p0]) cv_X12_257 dX12_begins_8 kp0 rfl (am_le rfl) (am_fit (by omega) (by decide) (by decide) (by decide)) (t_X12_noHouse hl kp0)) (fun v1 h1 => ?_)
  refine ev_iconst (v := 1) dX12_begins_11 (by decide) ?_
  refine ev_callWI (am_callV (as := [.int v1, .int 1]) (o := p0) (st := []) cv_X12_242 dX12_begins_12 kp0 rfl (am_le rfl) (am_fit (by omega) (by decide) (by decide) (by decide)) (t_X12_throwsIf hl kp0)) (fun y2 h2 => ?_)
  refine ev_if_eq (tgt := 22) dX12_begins_15 (by decide) (fun c3 => ?_) (fun c3 => ?_)
  · refine ev_aload_n dX12_begins_22 rfl ?_
    refine ev_iload_n dX12_begins_23 rfl ?_
    refine ev_callP (am_callV (as := [.int p1]) (o := p0) (st := []) cv_X12_316 dX12_begins_24 kp0 rfl (am_le rfl) (am_fit (by omega) (by decide) (by decide) (by decide)) (t_X12_beginsOf hl kp0)) (fun v4 h4 => ?_)
    exact ev_iret dX12_begins_27 rfl rfl (by decide) (by decide) rfl
  · refine ev_iconst (v := 0) dX12_begins_18 (by decide) ?_
    refine ev_goto (tgt := 27) dX12_begins_19 (by decide) ?_
    exact ev_iret dX12_begins_27 rfl rfl (by decide) (by decide) rfl
def f_X12_safe_b60 (S : am_S) (a0 : Nat) (a1 : Int32) (a2 : Int32) (a4 : Int32) (x11 : Int32 × Int32) : Option ((Int32 × Int32) ⊕ (Int32)) :=
  (if x11.2 < a4 then ((if x11.1 = 0 then some (0 : Int32) else ((f_X12_wordOf S a0 a1 a4).bind (fun v14 => (if v14 = 0 then some (1 : Int32) else ((f_X12_wordOf S a0 a1 x11.2).bind (fun v16 => (if v16 = 0 then some (1 : Int32) else ((f_X12_wordOf S a0 a1 a4).bind (fun v18 => ((f_X12_cut v18 a2).bind (fun v19 => ((f_X12_wordOf S a0 a1 x11.2).bind (fun v20 => ((f_X12_cut v20 a2).bind (fun v21 => (if v19 = v21 then some (0 : Int32) else some (1 : Int32))))))))))))))))).bind (fun t13 => some (.inl (t13, (x11.2 + 1))))) else some (.inr x11.1))
def f_X12_safe_b48 (S : am_S) (a0 : Nat) (a1 : Int32) (a2 : Int32) (x8 : Int32 × Int32) : Option ((Int32 × Int32) ⊕ (Int32)) :=
  ((f_X12_wants S a0).bind (fun v9 => (if x8.2 < v9 then ((am_loop (f_X12_safe_b60 S a0 a1 a2 x8.2) am_fuel (x8.1, 0)).bind (fun t11 => some (.inl (t11, (x8.2 + 1))))) else some (.inr x8.1))))
def f_X12_safe (S : am_S) (p0 : Nat) (p1 : Int32) (p2 : Int32) : Option (Int32 × (Nat → Nat → Int32)) :=
  ((f_X12_noHouse ((am_u2 S.1 p0 0 0), S.2) p0 p1).bind (fun v1 => ((f_X12_throwsIf ((am_u2 S.1 p0 0 0), S.2) p0 v1 1).bind (fun y2 => (if y2.1 = 0 then ((f_X12_in p2 0 8).bind (fun v4 => ((if v4 = 0 then some (1 : Int32) else some (0 : Int32)).bind (fun t5 => ((f_X12_throwsIf (y2.2, S.2) p0 t5 2).bind (fun y6 => (if y6.1 = 0 then ((am_loop (f_X12_safe_b48 (y6.2, S.2) p0 p1 p2) am_fuel (1, 0)).bind (fun t8 => (if t8 = 0 ∨ t8 = 1 then some (t8, y6.2) else none))) else some (0, y6.2)))))))) else some (0, y2.2))))))
set_option maxRecDepth 20000 in
theorem t_X12_safe {E : am_E} {l : Launch} (hl : l.stackTraces = false) {S : am_S} {p0 : Nat} {p1 : Int32} {p2 : Int32} (kp0 : am_kd p0 = 112) : am_M E l yX12_safe (.code yX12_safe cX12_safe 6 (some .boolean)) 2 0 0 [.ref p0, .int p1, .int p2] S ((f_X12_safe S p0 p1 p2).map (fun (x : Int32 × (Nat → Nat → Int32)) => ((.inl (some (.int x.1)), (x.2, S.2)) : am_R))) := by
  refine am_M_of (w := fun (x : Int32 × (Nat → Nat → Int32)) => ((.inl (some (.int x.1)), (x.2, S.2)) : am_R)) hl (by decide) (am_fc rfl (am_fc rfl (am_fc rfl am_fn))) (Nat.le_of_ble_eq_true rfl) ?_
  show am_Ev E l (RX12, cX12_safe, 6, (some .boolean), [], am_rm 2 0 0) (fun b a s x => am_Z E 0 0 b a s ((fun (x : Int32 × (Nat → Nat → Int32)) => ((.inl (some (.int x.1)), (x.2, S.2)) : am_R)) x)) 0 0 0 [some (.ref p0), some (.int p1), some (.int p2), none, none, none] [] S (f_X12_safe S p0 p1 p2)
  unfold f_X12_safe
  refine ev_aload_n dX12_safe_0 rfl ?_
  refine ev_iconst (v := 0) dX12_safe_1 (by decide) ?_
  refine ev_putI fk_X12_3 tyX12 tyX12_ok nmX12 rfl (by decide +kernel) (by decide) dX12_safe_2 kp0 ?_
  refine ev_aload_n dX12_safe_5 rfl ?_
  refine ev_aload_n dX12_safe_6 rfl ?_
  refine ev_iload_n dX12_safe_7 rfl ?_
  refine ev_callP (am_callV (as := [.int p1]) (o := p0) (st := [.ref p0]) cv_X12_257 dX12_safe_8 kp0 rfl (am_le rfl) (am_fit (by omega) (by decide) (by decide) (by decide)) (t_X12_noHouse hl kp0)) (fun v1 h1 => ?_)
  refine ev_iconst (v := 1) dX12_safe_11 (by decide) ?_
  refine ev_callWI (am_callV (as := [.int v1, .int 1]) (o := p0) (st := []) cv_X12_242 dX12_safe_12 kp0 rfl (am_le rfl) (am_fit (by omega) (by decide) (by decide) (by decide)) (t_X12_throwsIf hl kp0)) (fun y2 h2 => ?_)
  refine ev_if_ne (tgt := 41) dX12_safe_15 (by decide) (fun c3 => ?_) (fun c3 => ?_)
  · refine ev_iconst (v := 0) dX12_safe_41 (by decide) ?_
    exact ev_iret dX12_safe_42 rfl (by decide) (by decide) (by decide) rfl
  · refine ev_aload_n dX12_safe_18 rfl ?_
    refine ev_iload_n dX12_safe_19 rfl ?_
    refine ev_iconst (v := 0) dX12_safe_20 (by decide) ?_
    refine ev_bipush (v := 8) dX12_safe_21 (by decide) ?_
    refine ev_callP (am_callS (as := [.int p2, .int 0, .int 8]) (st := [.ref p0]) ct_X12_78 dX12_safe_23 rfl (am_le rfl) (am_fit (by omega) (by decide) (by decide) (by decide)) (t_X12_in hl )) (fun v4 h4 => ?_)
    refine ev_reg (cs' := 0) (sl' := 0) 34 (fun t5 : Int32 => [some (.ref p0), some (.int p1), some (.int p2), none, none, none]) (fun t5 => [.int t5, .ref p0]) (fun t5 => (y2.2, S.2)) (fun hJ5 => ?_) (fun t5 => ?_)
    · refine ev_eq am_ib ?_
      refine ev_if_ne (tgt := 33) dX12_safe_26 (by decide) (fun c5 => ?_) (fun c5 => ?_)
      · refine ev_iconst (v := 0) dX12_safe_33 (by decide) ?_
        exact ev_leaf (am_wk (am_wk (am_wk (am_wf (am_wf (am_wf am_wn)))))) (hJ5 (0 : Int32))
      · refine ev_iconst (v := 1) dX12_safe_29 (by decide) ?_
        refine ev_goto (tgt := 34) dX12_safe_30 (by decide) ?_
        exact ev_leaf (am_wk (am_wk (am_wk (am_wf (am_wf (am_wf am_wn)))))) (hJ5 (1 : Int32))
    · refine ev_iconst (v := 2) dX12_safe_34 (by decide) ?_
      refine ev_callWI (am_callV (as := [.int t5, .int 2]) (o := p0) (st := []) cv_X12_242 dX12_safe_35 kp0 rfl (am_le rfl) (am_fit (by omega) (by decide) (by decide) (by decide)) (t_X12_throwsIf hl kp0)) (fun y6 h6 => ?_)
      refine ev_if_eq (tgt := 43) dX12_safe_38 (by decide) (fun c7 => ?_) (fun c7 => ?_)
      · refine ev_iconst (v := 1) dX12_safe_43 (by decide) ?_
        refine ev_istore_n dX12_safe_44 (am_lt rfl) ?_
        refine ev_iconst (v := 0) dX12_safe_45 (by decide) ?_
        refine ev_istore dX12_safe_46 (am_lt rfl) ?_
        refine ev_weak (am_wk (am_wk (am_wk (am_wk (am_wk (am_wf am_wn)))))) (ev_loop 48 134 (fun x8 : Int32 × Int32 => [some (.ref p0), some (.int p1), some (.int p2), some (.int x8.1), some (.int x8.2), none]) (fun t8 : Int32 => [none, none, none, some (.int t8), none, none]) (fun x8 => (y6.2, S.2)) (fun t8 => (y6.2, S.2)) (fun x8 G8 hB8 hE8 => ?_) (fun t8 => ?_) am_fuel (1, 0))
        · unfold f_X12_safe_b48
          refine ev_iload dX12_safe_48 rfl ?_
          refine ev_aload_n dX12_safe_50 rfl ?_
          refine ev_eq (Option.bind_assoc _ _ _) ?_
          refine ev_callP (am_callV (as := []) (o := p0) (st := [.int x8.2]) cv_X12_82 dX12_safe_51 kp0 rfl (am_le rfl) (am_fit (by omega) (by decide) (by decide) (by decide)) (t_X12_wants hl kp0)) (fun v34 h34 => ?_)
          refine ev_eq am_ib ?_
          refine ev_icmp_ge (tgt := 134) dX12_safe_54 (by decide) (fun c35 => ?_) (fun c35 => ?_)
          · exact ev_leaf (am_wf (am_wf (am_wf (am_wk (am_wf (am_wf am_wn)))))) (hE8 x8.1)
          · refine ev_iconst (v := 0) dX12_safe_57 (by decide) ?_
            refine ev_istore dX12_safe_58 (am_lt rfl) ?_
            refine ev_eq (Option.bind_assoc _ _ _) ?_
            refine ev_weak (am_wk (am_wk (am_wk (am_wk (am_wk (am_wk am_wn)))))) (ev_loop 60 128 (fun x36 : Int32 × Int32 => [some (.ref p0), some (.int p1), some (.int p2), some (.int x36.1), some (.int x8.2), some (.int x36.2)]) (fun t36 : Int32 => [some (.ref p0), some (.int p1), some (.int p2), some (.int t36), some (.int x8.2), none]) (fun x36 => (y6.2, S.2)) (fun t36 => (y6.2, S.2)) (fun x36 G36 hB36 hE36 => ?_) (fun t36 => ?_) am_fuel (x8.1, 0))
            · unfold f_X12_safe_b60
              refine ev_iload dX12_safe_60 rfl ?_
              refine ev_iload dX12_safe_62 rfl ?_
              refine ev_eq am_ib ?_
              refine ev_icmp_ge (tgt := 128) dX12_safe_64 (by decide) (fun c48 => ?_) (fun c48 => ?_)
              · exact ev_leaf (am_wk (am_wk (am_wk (am_wk (am_wk (am_wf am_wn)))))) (hE36 x36.1)
              · refine ev_iload_n dX12_safe_67 rfl ?_
                refine ev_eq (Option.bind_assoc _ _ _) ?_
                refine ev_reg (cs' := 0) (sl' := 0) 121 (fun t49 : Int32 => [some (.ref p0), some (.int p1), some (.int p2), none, some (.int x8.2), some (.int x36.2)]) (fun t49 => [.int t49]) (fun t49 => (y6.2, S.2)) (fun hJ49 => ?_) (fun t49 => ?_)
                · refine ev_eq am_ib ?_
                  refine ev_if_eq (tgt := 120) dX12_safe_68 (by decide) (fun c49 => ?_) (fun c49 => ?_)
                  · refine ev_iconst (v := 0) dX12_safe_120 (by decide) ?_
                    exact ev_leaf (am_wk (am_wk (am_wk (am_wf (am_wk (am_wk am_wn)))))) (hJ49 (0 : Int32))
                  · refine ev_aload_n dX12_safe_71 rfl ?_
                    refine ev_iload_n dX12_safe_72 rfl ?_
                    refine ev_iload dX12_safe_73 rfl ?_
                    refine ev_eq (Option.bind_assoc _ _ _) ?_
                    refine ev_callP (am_callV (as := [.int p1, .int x8.2]) (o := p0) (st := []) cv_X12_254 dX12_safe_75 kp0 rfl (am_le rfl) (am_fit (by omega) (by decide) (by decide) (by decide)) (t_X12_wordOf hl kp0)) (fun v50 h50 => ?_)
                    refine ev_eq am_ib ?_
                    refine ev_if_eq (tgt := 116) dX12_safe_78 (by decide) (fun c51 => ?_) (fun c51 => ?_)
                    · refine ev_iconst (v := 1) dX12_safe_116 (by decide) ?_
                      refine ev_goto (tgt := 121) dX12_safe_117 (by decide) ?_
                      exact ev_leaf (am_wk (am_wk (am_wk (am_wf (am_wk (am_wk am_wn)))))) (hJ49 (1 : Int32))
                    · refine ev_aload_n dX12_safe_81 rfl ?_
                      refine ev_iload_n dX12_safe_82 rfl ?_
                      refine ev_iload dX12_safe_83 rfl ?_
                      refine ev_eq (Option.bind_assoc _ _ _) ?_
                      refine ev_callP (am_callV (as := [.int p1, .int x36.2]) (o := p0) (st := []) cv_X12_254 dX12_safe_85 kp0 rfl (am_le rfl) (am_fit (by omega) (by decide) (by decide) (by decide)) (t_X12_wordOf hl kp0)) (fun v52 h52 => ?_)
                      refine ev_eq am_ib ?_
                      refine ev_if_eq (tgt := 116) dX12_safe_88 (by decide) (fun c53 => ?_) (fun c53 => ?_)
                      · refine ev_iconst (v := 1) dX12_safe_116 (by decide) ?_
                        refine ev_goto (tgt := 121) dX12_safe_117 (by decide) ?_
                        exact ev_leaf (am_wk (am_wk (am_wk (am_wf (am_wk (am_wk am_wn)))))) (hJ49 (1 : Int32))
                      · refine ev_aload_n dX12_safe_91 rfl ?_
                        refine ev_iload_n dX12_safe_92 rfl ?_
                        refine ev_iload dX12_safe_93 rfl ?_
                        refine ev_eq (Option.bind_assoc _ _ _) ?_
                        refine ev_callP (am_callV (as := [.int p1, .int x8.2]) (o := p0) (st := []) cv_X12_254 dX12_safe_95 kp0 rfl (am_le rfl) (am_fit (by omega) (by decide) (by decide) (by decide)) (t_X12_wordOf hl kp0)) (fun v54 h54 => ?_)
                        refine ev_iload_n dX12_safe_98 rfl ?_
                        refine ev_eq (Option.bind_assoc _ _ _) ?_
                        refine ev_callP (am_callS (as := [.int v54, .int p2]) (st := []) ct_X12_99 dX12_safe_99 rfl (am_le rfl) (am_fit (by omega) (by decide) (by decide) (by decide)) (t_X12_cut hl )) (fun v55 h55 => ?_)
                        refine ev_aload_n dX12_safe_102 rfl ?_
                        refine ev_iload_n dX12_safe_103 rfl ?_
                        refine ev_iload dX12_safe_104 rfl ?_
                        refine ev_eq (Option.bind_assoc _ _ _) ?_
                        refine ev_callP (am_callV (as := [.int p1, .int x36.2]) (o := p0) (st := [.int v55]) cv_X12_254 dX12_safe_106 kp0 rfl (am_le rfl) (am_fit (by omega) (by decide) (by decide) (by decide)) (t_X12_wordOf hl kp0)) (fun v56 h56 => ?_)
                        refine ev_iload_n dX12_safe_109 rfl ?_
                        refine ev_eq (Option.bind_assoc _ _ _) ?_
                        refine ev_callP (am_callS (as := [.int v56, .int p2]) (st := [.int v55]) ct_X12_99 dX12_safe_110 rfl (am_le rfl) (am_fit (by omega) (by decide) (by decide) (by decide)) (t_X12_cut hl )) (fun v57 h57 => ?_)
                        refine ev_eq am_ib ?_
                        refine ev_icmp_eq (tgt := 120) dX12_safe_113 (by decide) (fun c58 => ?_) (fun c58 => ?_)
                        · refine ev_iconst (v := 0) dX12_safe_120 (by decide) ?_
                          exact ev_leaf (am_wk (am_wk (am_wk (am_wf (am_wk (am_wk am_wn)))))) (hJ49 (0 : Int32))
                        · refine ev_iconst (v := 1) dX12_safe_116 (by decide) ?_
                          refine ev_goto (tgt := 121) dX12_safe_117 (by decide) ?_
                          exact ev_leaf (am_wk (am_wk (am_wk (am_wf (am_wk (am_wk am_wn)))))) (hJ49 (1 : Int32))
                · refine ev_istore_n dX12_safe_121 (am_lt rfl) ?_
                  refine ev_iinc (v := (x36.2 + 1)) dX12_safe_122 (am_lt rfl) rfl rfl ?_
                  refine ev_goto (tgt := 60) dX12_safe_125 (by decide) ?_
                  exact ev_leaf (am_wk (am_wk (am_wk (am_wk (am_wk (am_wk am_wn)))))) (hB36 (t49, (x36.2 + 1)))
            · refine ev_iinc (v := (x8.2 + 1)) dX12_safe_128 (am_lt rfl) rfl rfl ?_
              refine ev_goto (tgt := 48) dX12_safe_131 (by decide) ?_
              exact ev_leaf (am_wk (am_wk (am_wk (am_wk (am_wk (am_wf am_wn)))))) (hB8 (t36, (x8.2 + 1)))
        · refine ev_iload_n dX12_safe_134 rfl ?_
          refine ev_split (fun c59 => ?_) (fun _ => ?_)
          · exact ev_iret dX12_safe_135 rfl (am_nb c59) (by decide) (by decide) rfl
          · exact ev_none
      · refine ev_iconst (v := 0) dX12_safe_41 (by decide) ?_
        exact ev_iret dX12_safe_42 rfl (by decide) (by decide) (by decide) rfl
def f_X12_buy (S : am_S) (p0 : Nat) (p1 : Int32) (p2 : Int32) (p3 : Int32) : Option (Int32 × (Nat → Nat → Int32)) :=
  ((f_X12_noHouse ((am_u2 S.1 p0 0 0), S.2) p0 p1).bind (fun v1 => ((if v1 = 0 then ((f_X12_noWant ((am_u2 S.1 p0 0 0), S.2) p0 p2).bind (fun v3 => (if v3 = 0 then some (0 : Int32) else some (1 : Int32)))) else some (1 : Int32)).bind (fun t2 => ((f_X12_throwsIf ((am_u2 S.1 p0 0 0), S.2) p0 t2 1).bind (fun y5 => (if y5.1 = 0 then ((f_X12_in p3 2 511).bind (fun v7 => ((if v7 = 0 then some (1 : Int32) else some (0 : Int32)).bind (fun t8 => ((f_X12_throwsIf (y5.2, S.2) p0 t8 2).bind (fun y9 => (if y9.1 = 0 then ((f_X12_costOf p3).bind (fun v11 => (if v11 = 0 then none else ((f_X12_of (y9.2, S.2) p0 p1 3).bind (fun v13 => (if v13 < ((40 / v11) + 1) then some ((-1), y9.2) else ((f_X12_of (y9.2, S.2) p0 p1 3).bind (fun v15 => ((f_X12_sets (y9.2, S.2) p0 p1 3 (v15 - ((40 / v11) + 1))).bind (fun σ16 => ((am_rd S.2 p0 1 1).bind (fun q17 => ((am_ld σ16 q17 5).bind (fun v18 => ((am_st σ16 q17 5 (v18 + ((40 / v11) + 1))).bind (fun σ19 => ((f_X12_sets (σ19, S.2) p0 p1 (5 + p2) p3).bind (fun σ20 => some (((40 / v11) + 1), σ20))))))))))))))))))) else some (0, y9.2)))))))) else some (0, y5.2))))))))
set_option maxRecDepth 20000 in
theorem t_X12_buy {E : am_E} {l : Launch} (hl : l.stackTraces = false) {S : am_S} {p0 : Nat} {p1 : Int32} {p2 : Int32} {p3 : Int32} (kp0 : am_kd p0 = 112) : am_M E l yX12_buy (.code yX12_buy cX12_buy 5 (some .int)) 2 0 0 [.ref p0, .int p1, .int p2, .int p3] S ((f_X12_buy S p0 p1 p2 p3).map (fun (x : Int32 × (Nat → Nat → Int32)) => ((.inl (some (.int x.1)), (x.2, S.2)) : am_R))) := by
  refine am_M_of (w := fun (x : Int32 × (Nat → Nat → Int32)) => ((.inl (some (.int x.1)), (x.2, S.2)) : am_R)) hl (by decide) (am_fc rfl (am_fc rfl (am_fc rfl (am_fc rfl am_fn)))) (Nat.le_of_ble_eq_true rfl) ?_
  show am_Ev E l (RX12, cX12_buy, 5, (some .int), [], am_rm 2 0 0) (fun b a s x => am_Z E 0 0 b a s ((fun (x : Int32 × (Nat → Nat → Int32)) => ((.inl (some (.int x.1)), (x.2, S.2)) : am_R)) x)) 0 0 0 [some (.ref p0), some (.int p1), some (.int p2), some (.int p3), none] [] S (f_X12_buy S p0 p1 p2 p3)
  unfold f_X12_buy
  refine ev_aload_n dX12_buy_0 rfl ?_
  refine ev_iconst (v := 0) dX12_buy_1 (by decide) ?_
  refine ev_putI fk_X12_3 tyX12 tyX12_ok nmX12 rfl (by decide +kernel) (by decide) dX12_buy_2 kp0 ?_
  refine ev_aload_n dX12_buy_5 rfl ?_
  refine ev_aload_n dX12_buy_6 rfl ?_
  refine ev_iload_n dX12_buy_7 rfl ?_
  refine ev_callP (am_callV (as := [.int p1]) (o := p0) (st := [.ref p0]) cv_X12_257 dX12_buy_8 kp0 rfl (am_le rfl) (am_fit (by omega) (by decide) (by decide) (by decide)) (t_X12_noHouse hl kp0)) (fun v1 h1 => ?_)
  refine ev_reg (cs' := 0) (sl' := 0) 27 (fun t2 : Int32 => [some (.ref p0), some (.int p1), some (.int p2), some (.int p3), none]) (fun t2 => [.int t2, .ref p0]) (fun t2 => ((am_u2 S.1 p0 0 0), S.2)) (fun hJ2 => ?_) (fun t2 => ?_)
  · refine ev_eq am_ib ?_
    refine ev_if_ne (tgt := 22) dX12_buy_11 (by decide) (fun c2 => ?_) (fun c2 => ?_)
    · refine ev_iconst (v := 1) dX12_buy_22 (by decide) ?_
      refine ev_goto (tgt := 27) dX12_buy_23 (by decide) ?_
      exact ev_leaf (am_wk (am_wk (am_wk (am_wk (am_wf am_wn))))) (hJ2 (1 : Int32))
    · refine ev_aload_n dX12_buy_14 rfl ?_
      refine ev_iload_n dX12_buy_15 rfl ?_
      refine ev_eq (Option.bind_assoc _ _ _) ?_
      refine ev_callP (am_callV (as := [.int p2]) (o := p0) (st := [.ref p0]) cv_X12_263 dX12_buy_16 kp0 rfl (am_le rfl) (am_fit (by omega) (by decide) (by decide) (by decide)) (t_X12_noWant hl kp0)) (fun v3 h3 => ?_)
      refine ev_eq am_ib ?_
      refine ev_if_eq (tgt := 26) dX12_buy_19 (by decide) (fun c4 => ?_) (fun c4 => ?_)
      · refine ev_iconst (v := 0) dX12_buy_26 (by decide) ?_
        exact ev_leaf (am_wk (am_wk (am_wk (am_wk (am_wf am_wn))))) (hJ2 (0 : Int32))
      · refine ev_iconst (v := 1) dX12_buy_22 (by decide) ?_
        refine ev_goto (tgt := 27) dX12_buy_23 (by decide) ?_
        exact ev_leaf (am_wk (am_wk (am_wk (am_wk (am_wf am_wn))))) (hJ2 (1 : Int32))
  · refine ev_iconst (v := 1) dX12_buy_27 (by decide) ?_
    refine ev_callWI (am_callV (as := [.int t2, .int 1]) (o := p0) (st := []) cv_X12_242 dX12_buy_28 kp0 rfl (am_le rfl) (am_fit (by omega) (by decide) (by decide) (by decide)) (t_X12_throwsIf hl kp0)) (fun y5 h5 => ?_)
    refine ev_if_ne (tgt := 58) dX12_buy_31 (by decide) (fun c6 => ?_) (fun c6 => ?_)
    · refine ev_iconst (v := 0) dX12_buy_58 (by decide) ?_
      exact ev_iret dX12_buy_59 rfl rfl (by decide) (by decide) rfl
    · refine ev_aload_n dX12_buy_34 rfl ?_
      refine ev_iload_n dX12_buy_35 rfl ?_
      refine ev_iconst (v := 2) dX12_buy_36 (by decide) ?_
      refine ev_sipush (v := 511) dX12_buy_37 (by decide) ?_
      refine ev_callP (am_callS (as := [.int p3, .int 2, .int 511]) (st := [.ref p0]) ct_X12_78 dX12_buy_40 rfl (am_le rfl) (am_fit (by omega) (by decide) (by decide) (by decide)) (t_X12_in hl )) (fun v7 h7 => ?_)
      refine ev_reg (cs' := 0) (sl' := 0) 51 (fun t8 : Int32 => [some (.ref p0), some (.int p1), some (.int p2), some (.int p3), none]) (fun t8 => [.int t8, .ref p0]) (fun t8 => (y5.2, S.2)) (fun hJ8 => ?_) (fun t8 => ?_)
      · refine ev_eq am_ib ?_
        refine ev_if_ne (tgt := 50) dX12_buy_43 (by decide) (fun c8 => ?_) (fun c8 => ?_)
        · refine ev_iconst (v := 0) dX12_buy_50 (by decide) ?_
          exact ev_leaf (am_wk (am_wk (am_wk (am_wk (am_wf am_wn))))) (hJ8 (0 : Int32))
        · refine ev_iconst (v := 1) dX12_buy_46 (by decide) ?_
          refine ev_goto (tgt := 51) dX12_buy_47 (by decide) ?_
          exact ev_leaf (am_wk (am_wk (am_wk (am_wk (am_wf am_wn))))) (hJ8 (1 : Int32))
      · refine ev_iconst (v := 2) dX12_buy_51 (by decide) ?_
        refine ev_callWI (am_callV (as := [.int t8, .int 2]) (o := p0) (st := []) cv_X12_242 dX12_buy_52 kp0 rfl (am_le rfl) (am_fit (by omega) (by decide) (by decide) (by decide)) (t_X12_throwsIf hl kp0)) (fun y9 h9 => ?_)
        refine ev_if_eq (tgt := 60) dX12_buy_55 (by decide) (fun c10 => ?_) (fun c10 => ?_)
        · refine ev_bipush (v := 40) dX12_buy_60 (by decide) ?_
          refine ev_iload_n dX12_buy_62 rfl ?_
          refine ev_callP (am_callS (as := [.int p3]) (st := [.int 40]) ct_X12_268 dX12_buy_63 rfl (am_le rfl) (am_fit (by omega) (by decide) (by decide) (by decide)) (t_X12_costOf hl )) (fun v11 h11 => ?_)
          refine ev_split (fun _ => ?_) (fun c12 => ?_)
          · exact ev_none
          · refine ev_idiv dX12_buy_66 c12 ?_
            refine ev_iconst (v := 1) dX12_buy_67 (by decide) ?_
            refine ev_iadd dX12_buy_68 ?_
            refine ev_istore dX12_buy_69 (am_lt rfl) ?_
            refine ev_aload_n dX12_buy_71 rfl ?_
            refine ev_iload_n dX12_buy_72 rfl ?_
            refine ev_iconst (v := 3) dX12_buy_73 (by decide) ?_
            refine ev_callP (am_callV (as := [.int p1, .int 3]) (o := p0) (st := []) cv_X12_70 dX12_buy_74 kp0 rfl (am_le rfl) (am_fit (by omega) (by decide) (by decide) (by decide)) (t_X12_of hl kp0)) (fun v13 h13 => ?_)
            refine ev_iload dX12_buy_77 rfl ?_
            refine ev_icmp_ge (tgt := 84) dX12_buy_79 (by decide) (fun c14 => ?_) (fun c14 => ?_)
            · refine ev_aload_n dX12_buy_84 rfl ?_
              refine ev_iload_n dX12_buy_85 rfl ?_
              refine ev_iconst (v := 3) dX12_buy_86 (by decide) ?_
              refine ev_aload_n dX12_buy_87 rfl ?_
              refine ev_iload_n dX12_buy_88 rfl ?_
              refine ev_iconst (v := 3) dX12_buy_89 (by decide) ?_
              refine ev_callP (am_callV (as := [.int p1, .int 3]) (o := p0) (st := [.int 3, .int p1, .ref p0]) cv_X12_70 dX12_buy_90 kp0 rfl (am_le rfl) (am_fit (by omega) (by decide) (by decide) (by decide)) (t_X12_of hl kp0)) (fun v15 h15 => ?_)
              refine ev_iload dX12_buy_93 rfl ?_
              refine ev_isub dX12_buy_95 ?_
              refine ev_callWV (am_callV (as := [.int p1, .int 3, .int (v15 - ((40 / v11) + 1))]) (o := p0) (st := []) cv_X12_137 dX12_buy_96 kp0 rfl (am_le rfl) (am_fit (by omega) (by decide) (by decide) (by decide)) (t_X12_sets hl kp0)) (fun σ16 h16 => ?_)
              refine ev_aload_n dX12_buy_99 rfl ?_
              refine ev_getR fk_X12_13 (by decide) dX12_buy_100 kp0 (fun q17 k17 r17 => ?_)
              refine ev_iconst (v := 5) dX12_buy_103 (by decide) ?_
              refine ev_dup2 dX12_buy_104 rfl rfl ?_
              refine ev_iald dX12_buy_105 k17 (fun v18 h18 => ?_)
              refine ev_iload dX12_buy_106 rfl ?_
              refine ev_iadd dX12_buy_108 ?_
              refine ev_iast dX12_buy_109 k17 (fun σ19 h19 => ?_)
              refine ev_aload_n dX12_buy_110 rfl ?_
              refine ev_iload_n dX12_buy_111 rfl ?_
              refine ev_iconst (v := 5) dX12_buy_112 (by decide) ?_
              refine ev_iload_n dX12_buy_113 rfl ?_
              refine ev_iadd dX12_buy_114 ?_
              refine ev_iload_n dX12_buy_115 rfl ?_
              refine ev_callWV (am_callV (as := [.int p1, .int (5 + p2), .int p3]) (o := p0) (st := []) cv_X12_137 dX12_buy_116 kp0 rfl (am_le rfl) (am_fit (by omega) (by decide) (by decide) (by decide)) (t_X12_sets hl kp0)) (fun σ20 h20 => ?_)
              refine ev_iload dX12_buy_119 rfl ?_
              exact ev_iret dX12_buy_121 rfl rfl (by decide) (by decide) rfl
            · refine ev_iconst (v := (-1)) dX12_buy_82 (by decide) ?_
              exact ev_iret dX12_buy_83 rfl rfl (by decide) (by decide) rfl
        · refine ev_iconst (v := 0) dX12_buy_58 (by decide) ?_
          exact ev_iret dX12_buy_59 rfl rfl (by decide) (by decide) rfl
def f_X12_trade (S : am_S) (p0 : Nat) (p1 : Int32) (p2 : Int32) (p3 : Int32) : Option ((Nat → Nat → Int32)) :=
  ((f_X12_noHouse ((am_u2 S.1 p0 0 0), S.2) p0 p1).bind (fun v1 => ((if v1 = 0 then ((f_X12_noHouse ((am_u2 S.1 p0 0 0), S.2) p0 p2).bind (fun v3 => (if v3 = 0 then ((f_X12_noWant ((am_u2 S.1 p0 0 0), S.2) p0 p3).bind (fun v5 => (if v5 = 0 then some (0 : Int32) else some (1 : Int32)))) else some (1 : Int32)))) else some (1 : Int32)).bind (fun t2 => ((f_X12_throwsIf ((am_u2 S.1 p0 0 0), S.2) p0 t2 1).bind (fun y7 => (if y7.1 = 0 then ((if p1 = p2 then some (1 : Int32) else some (0 : Int32)).bind (fun t9 => ((f_X12_throwsIf (y7.2, S.2) p0 t9 2).bind (fun y10 => (if y10.1 = 0 then ((f_X12_wordOf (y10.2, S.2) p0 p1 p3).bind (fun v12 => ((f_X12_wordOf (y10.2, S.2) p0 p2 p3).bind (fun v13 => ((f_X12_sets (y10.2, S.2) p0 p1 (5 + p3) v13).bind (fun σ14 => ((f_X12_sets (σ14, S.2) p0 p2 (5 + p3) v12).bind (fun σ15 => some σ15)))))))) else some y10.2))))) else some y7.2)))))))
set_option maxRecDepth 20000 in
theorem t_X12_trade {E : am_E} {l : Launch} (hl : l.stackTraces = false) {S : am_S} {p0 : Nat} {p1 : Int32} {p2 : Int32} {p3 : Int32} (kp0 : am_kd p0 = 112) : am_M E l yX12_trade (.code yX12_trade cX12_trade 5 none) 2 0 0 [.ref p0, .int p1, .int p2, .int p3] S ((f_X12_trade S p0 p1 p2 p3).map (fun (x : Nat → Nat → Int32) => ((.inl none, (x, S.2)) : am_R))) := by
  refine am_M_of (w := fun (x : Nat → Nat → Int32) => ((.inl none, (x, S.2)) : am_R)) hl (by decide) (am_fc rfl (am_fc rfl (am_fc rfl (am_fc rfl am_fn)))) (Nat.le_of_ble_eq_true rfl) ?_
  show am_Ev E l (RX12, cX12_trade, 5, none, [], am_rm 2 0 0) (fun b a s x => am_Z E 0 0 b a s ((fun (x : Nat → Nat → Int32) => ((.inl none, (x, S.2)) : am_R)) x)) 0 0 0 [some (.ref p0), some (.int p1), some (.int p2), some (.int p3), none] [] S (f_X12_trade S p0 p1 p2 p3)
  unfold f_X12_trade
  refine ev_aload_n dX12_trade_0 rfl ?_
  refine ev_iconst (v := 0) dX12_trade_1 (by decide) ?_
  refine ev_putI fk_X12_3 tyX12 tyX12_ok nmX12 rfl (by decide +kernel) (by decide) dX12_trade_2 kp0 ?_
  refine ev_aload_n dX12_trade_5 rfl ?_
  refine ev_aload_n dX12_trade_6 rfl ?_
  refine ev_iload_n dX12_trade_7 rfl ?_
  refine ev_callP (am_callV (as := [.int p1]) (o := p0) (st := [.ref p0]) cv_X12_257 dX12_trade_8 kp0 rfl (am_le rfl) (am_fit (by omega) (by decide) (by decide) (by decide)) (t_X12_noHouse hl kp0)) (fun v1 h1 => ?_)
  refine ev_reg (cs' := 0) (sl' := 0) 35 (fun t2 : Int32 => [some (.ref p0), some (.int p1), some (.int p2), some (.int p3), none]) (fun t2 => [.int t2, .ref p0]) (fun t2 => ((am_u2 S.1 p0 0 0), S.2)) (fun hJ2 => ?_) (fun t2 => ?_)
  · refine ev_eq am_ib ?_
    refine ev_if_ne (tgt := 30) dX12_trade_11 (by decide) (fun c2 => ?_) (fun c2 => ?_)
    · refine ev_iconst (v := 1) dX12_trade_30 (by decide) ?_
      refine ev_goto (tgt := 35) dX12_trade_31 (by decide) ?_
      exact ev_leaf (am_wk (am_wk (am_wk (am_wk (am_wf am_wn))))) (hJ2 (1 : Int32))
    · refine ev_aload_n dX12_trade_14 rfl ?_
      refine ev_iload_n dX12_trade_15 rfl ?_
      refine ev_eq (Option.bind_assoc _ _ _) ?_
      refine ev_callP (am_callV (as := [.int p2]) (o := p0) (st := [.ref p0]) cv_X12_257 dX12_trade_16 kp0 rfl (am_le rfl) (am_fit (by omega) (by decide) (by decide) (by decide)) (t_X12_noHouse hl kp0)) (fun v3 h3 => ?_)
      refine ev_eq am_ib ?_
      refine ev_if_ne (tgt := 30) dX12_trade_19 (by decide) (fun c4 => ?_) (fun c4 => ?_)
      · refine ev_iconst (v := 1) dX12_trade_30 (by decide) ?_
        refine ev_goto (tgt := 35) dX12_trade_31 (by decide) ?_
        exact ev_leaf (am_wk (am_wk (am_wk (am_wk (am_wf am_wn))))) (hJ2 (1 : Int32))
      · refine ev_aload_n dX12_trade_22 rfl ?_
        refine ev_iload_n dX12_trade_23 rfl ?_
        refine ev_eq (Option.bind_assoc _ _ _) ?_
        refine ev_callP (am_callV (as := [.int p3]) (o := p0) (st := [.ref p0]) cv_X12_263 dX12_trade_24 kp0 rfl (am_le rfl) (am_fit (by omega) (by decide) (by decide) (by decide)) (t_X12_noWant hl kp0)) (fun v5 h5 => ?_)
        refine ev_eq am_ib ?_
        refine ev_if_eq (tgt := 34) dX12_trade_27 (by decide) (fun c6 => ?_) (fun c6 => ?_)
        · refine ev_iconst (v := 0) dX12_trade_34 (by decide) ?_
          exact ev_leaf (am_wk (am_wk (am_wk (am_wk (am_wf am_wn))))) (hJ2 (0 : Int32))
        · refine ev_iconst (v := 1) dX12_trade_30 (by decide) ?_
          refine ev_goto (tgt := 35) dX12_trade_31 (by decide) ?_
          exact ev_leaf (am_wk (am_wk (am_wk (am_wk (am_wf am_wn))))) (hJ2 (1 : Int32))
  · refine ev_iconst (v := 1) dX12_trade_35 (by decide) ?_
    refine ev_callWI (am_callV (as := [.int t2, .int 1]) (o := p0) (st := []) cv_X12_242 dX12_trade_36 kp0 rfl (am_le rfl) (am_fit (by omega) (by decide) (by decide) (by decide)) (t_X12_throwsIf hl kp0)) (fun y7 h7 => ?_)
    refine ev_if_ne (tgt := 60) dX12_trade_39 (by decide) (fun c8 => ?_) (fun c8 => ?_)
    · exact ev_vret dX12_trade_60 rfl (by decide) (by decide) rfl
    · refine ev_aload_n dX12_trade_42 rfl ?_
      refine ev_iload_n dX12_trade_43 rfl ?_
      refine ev_iload_n dX12_trade_44 rfl ?_
      refine ev_reg (cs' := 0) (sl' := 0) 53 (fun t9 : Int32 => [some (.ref p0), some (.int p1), some (.int p2), some (.int p3), none]) (fun t9 => [.int t9, .ref p0]) (fun t9 => (y7.2, S.2)) (fun hJ9 => ?_) (fun t9 => ?_)
      · refine ev_eq am_ib ?_
        refine ev_icmp_ne (tgt := 52) dX12_trade_45 (by decide) (fun c9 => ?_) (fun c9 => ?_)
        · refine ev_iconst (v := 0) dX12_trade_52 (by decide) ?_
          exact ev_leaf (am_wk (am_wk (am_wk (am_wk (am_wf am_wn))))) (hJ9 (0 : Int32))
        · refine ev_iconst (v := 1) dX12_trade_48 (by decide) ?_
          refine ev_goto (tgt := 53) dX12_trade_49 (by decide) ?_
          exact ev_leaf (am_wk (am_wk (am_wk (am_wk (am_wf am_wn))))) (hJ9 (1 : Int32))
      · refine ev_iconst (v := 2) dX12_trade_53 (by decide) ?_
        refine ev_callWI (am_callV (as := [.int t9, .int 2]) (o := p0) (st := []) cv_X12_242 dX12_trade_54 kp0 rfl (am_le rfl) (am_fit (by omega) (by decide) (by decide) (by decide)) (t_X12_throwsIf hl kp0)) (fun y10 h10 => ?_)
        refine ev_if_eq (tgt := 61) dX12_trade_57 (by decide) (fun c11 => ?_) (fun c11 => ?_)
        · refine ev_aload_n dX12_trade_61 rfl ?_
          refine ev_iload_n dX12_trade_62 rfl ?_
          refine ev_iload_n dX12_trade_63 rfl ?_
          refine ev_callP (am_callV (as := [.int p1, .int p3]) (o := p0) (st := []) cv_X12_254 dX12_trade_64 kp0 rfl (am_le rfl) (am_fit (by omega) (by decide) (by decide) (by decide)) (t_X12_wordOf hl kp0)) (fun v12 h12 => ?_)
          refine ev_istore dX12_trade_67 (am_lt rfl) ?_
          refine ev_aload_n dX12_trade_69 rfl ?_
          refine ev_iload_n dX12_trade_70 rfl ?_
          refine ev_iconst (v := 5) dX12_trade_71 (by decide) ?_
          refine ev_iload_n dX12_trade_72 rfl ?_
          refine ev_iadd dX12_trade_73 ?_
          refine ev_aload_n dX12_trade_74 rfl ?_
          refine ev_iload_n dX12_trade_75 rfl ?_
          refine ev_iload_n dX12_trade_76 rfl ?_
          refine ev_callP (am_callV (as := [.int p2, .int p3]) (o := p0) (st := [.int (5 + p3), .int p1, .ref p0]) cv_X12_254 dX12_trade_77 kp0 rfl (am_le rfl) (am_fit (by omega) (by decide) (by decide) (by decide)) (t_X12_wordOf hl kp0)) (fun v13 h13 => ?_)
          refine ev_callWV (am_callV (as := [.int p1, .int (5 + p3), .int v13]) (o := p0) (st := []) cv_X12_137 dX12_trade_80 kp0 rfl (am_le rfl) (am_fit (by omega) (by decide) (by decide) (by decide)) (t_X12_sets hl kp0)) (fun σ14 h14 => ?_)
          refine ev_aload_n dX12_trade_83 rfl ?_
          refine ev_iload_n dX12_trade_84 rfl ?_
          refine ev_iconst (v := 5) dX12_trade_85 (by decide) ?_
          refine ev_iload_n dX12_trade_86 rfl ?_
          refine ev_iadd dX12_trade_87 ?_
          refine ev_iload dX12_trade_88 rfl ?_
          refine ev_callWV (am_callV (as := [.int p2, .int (5 + p3), .int v12]) (o := p0) (st := []) cv_X12_137 dX12_trade_90 kp0 rfl (am_le rfl) (am_fit (by omega) (by decide) (by decide) (by decide)) (t_X12_sets hl kp0)) (fun σ15 h15 => ?_)
          exact ev_vret dX12_trade_93 rfl (by decide) (by decide) rfl
        · exact ev_vret dX12_trade_60 rfl (by decide) (by decide) rfl
def f_X12_least_b56 (S : am_S) (a0 : Nat) (a2 : Int32) (a3 : Int32) (x9 : Int32 × (Nat → Nat → Int32)) : Option ((Int32 × (Nat → Nat → Int32)) ⊕ ((Nat → Nat → Int32))) :=
  ((f_X12_wants (x9.2, S.2) a0).bind (fun v10 => (if x9.1 < v10 then ((am_rd S.2 a0 17 1).bind (fun q12 => ((am_ld x9.2 q12 a3).bind (fun v13 => ((f_X12_has a3 x9.1).bind (fun v14 => ((if v14 = 0 then some (0 : Int32) else ((f_X12_urgent (x9.2, S.2) a0 x9.1).bind (fun v16 => some v16))).bind (fun t15 => ((am_st x9.2 q12 a3 (v13 + t15)).bind (fun σ17 => some (.inl ((x9.1 + 1), σ17)))))))))))) else some (.inr x9.2))))
def f_X12_least_b127 (S : am_S) (a0 : Nat) (a2 : Int32) (a3 : Int32) (x30 : Int32 × (Nat → Nat → Int32)) : Option ((Int32 × (Nat → Nat → Int32)) ⊕ ((Nat → Nat → Int32))) :=
  (if 0 < x30.1 then ((am_rd S.2 a0 16 1).bind (fun q32 => ((am_rd S.2 a0 16 1).bind (fun q33 => ((am_ld x30.2 q33 a3).bind (fun v34 => ((am_rd S.2 a0 16 1).bind (fun q35 => ((am_ld x30.2 q35 x30.1).bind (fun v36 => ((am_rd S.2 a0 16 1).bind (fun q37 => ((am_ld x30.2 q37 (a3 &&& (x30.1 ^^^ (-1)))).bind (fun v38 => ((am_rd S.2 a0 17 1).bind (fun q39 => ((am_ld x30.2 q39 x30.1).bind (fun v40 => ((am_rd S.2 a0 17 1).bind (fun q41 => ((am_ld x30.2 q41 (a3 &&& (x30.1 ^^^ (-1)))).bind (fun v42 => ((f_J9_min_7cf53 v34 (((v36 + v38) + v40) + (2 * v42))).bind (fun v43 => ((am_st x30.2 q32 a3 v43).bind (fun σ44 => some (.inl (((x30.1 - 1) &&& a3), σ44)))))))))))))))))))))))))))) else some (.inr x30.2))
def f_X12_least_b30 (S : am_S) (a0 : Nat) (a2 : Int32) (x4 : Int32 × (Nat → Nat → Int32)) : Option ((Int32 × (Nat → Nat → Int32)) ⊕ ((Nat → Nat → Int32))) :=
  (if a2 < x4.1 then some (.inr x4.2) else ((if (x4.1 &&& (a2 ^^^ (-1))) = 0 then ((am_rd S.2 a0 17 1).bind (fun q7 => ((am_st x4.2 q7 x4.1 0).bind (fun σ8 => ((am_loop (f_X12_least_b56 (σ8, S.2) a0 a2 x4.1) am_fuel (0, σ8)).bind (fun t9 => ((am_rd S.2 a0 16 1).bind (fun q26 => ((f_J6_bitCount_0f7a4 x4.1).bind (fun v27 => ((if v27 < 2 then some (0 : Int32) else some (1000000 : Int32)).bind (fun t28 => ((am_st t9 q26 x4.1 t28).bind (fun σ29 => ((am_loop (f_X12_least_b127 (σ29, S.2) a0 a2 x4.1) am_fuel (((x4.1 - 1) &&& x4.1), σ29)).bind (fun t30 => some t30)))))))))))))))) else some x4.2).bind (fun t6 => some (.inl ((x4.1 + 1), t6)))))
def f_X12_least (S : am_S) (p0 : Nat) (p1 : Int32) : Option (Int32 × (Nat → Nat → Int32)) :=
  ((f_X12_wants ((am_u2 S.1 p0 0 0), S.2) p0).bind (fun v1 => ((f_J6_bitCount_0f7a4 (p1 &&& (((1 : Int32) <<< (v1 &&& 31)) - 1))).bind (fun v2 => (if 6 < v2 then some ((-3), (am_u2 S.1 p0 0 0)) else ((am_loop (f_X12_least_b30 ((am_u2 S.1 p0 0 0), S.2) p0 (p1 &&& (((1 : Int32) <<< (v1 &&& 31)) - 1))) am_fuel (0, (am_u2 S.1 p0 0 0))).bind (fun t4 => ((f_J6_bitCount_0f7a4 (p1 &&& (((1 : Int32) <<< (v1 &&& 31)) - 1))).bind (fun v113 => (if v113 = 1 then ((am_rd S.2 p0 17 1).bind (fun q117 => ((am_ld t4 q117 (p1 &&& (((1 : Int32) <<< (v1 &&& 31)) - 1))).bind (fun v118 => some (v118, t4))))) else ((am_rd S.2 p0 16 1).bind (fun q115 => ((am_ld t4 q115 (p1 &&& (((1 : Int32) <<< (v1 &&& 31)) - 1))).bind (fun v116 => some (v116, t4)))))))))))))))
set_option maxRecDepth 20000 in
theorem t_X12_least {E : am_E} {l : Launch} (hl : l.stackTraces = false) {S : am_S} {p0 : Nat} {p1 : Int32} (kp0 : am_kd p0 = 112) : am_M E l yX12_least (.code yX12_least cX12_least 5 (some .int)) 1 0 0 [.ref p0, .int p1] S ((f_X12_least S p0 p1).map (fun (x : Int32 × (Nat → Nat → Int32)) => ((.inl (some (.int x.1)), (x.2, S.2)) : am_R))) := by
  refine am_M_of (w := fun (x : Int32 × (Nat → Nat → Int32)) => ((.inl (some (.int x.1)), (x.2, S.2)) : am_R)) hl (by decide) (am_fc rfl (am_fc rfl am_fn)) (Nat.le_of_ble_eq_true rfl) ?_
  show am_Ev E l (RX12, cX12_least, 5, (some .int), [], am_rm 1 0 0) (fun b a s x => am_Z E 0 0 b a s ((fun (x : Int32 × (Nat → Nat → Int32)) => ((.inl (some (.int x.1)), (x.2, S.2)) : am_R)) x)) 0 0 0 [some (.ref p0), some (.int p1), none, none, none] [] S (f_X12_least S p0 p1)
  unfold f_X12_least
  refine ev_aload_n dX12_least_0 rfl ?_
  refine ev_iconst (v := 0) dX12_least_1 (by decide) ?_
  refine ev_putI fk_X12_3 tyX12 tyX12_ok nmX12 rfl (by decide +kernel) (by decide) dX12_least_2 kp0 ?_
  refine ev_iload_n dX12_least_5 rfl ?_
  refine ev_iconst (v := 1) dX12_least_6 (by decide) ?_
  refine ev_aload_n dX12_least_7 rfl ?_
  refine ev_callP (am_callV (as := []) (o := p0) (st := [.int 1, .int p1]) cv_X12_82 dX12_least_8 kp0 rfl (am_le rfl) (am_fit (by omega) (by decide) (by decide) (by decide)) (t_X12_wants hl kp0)) (fun v1 h1 => ?_)
  refine ev_ishl dX12_least_11 ?_
  refine ev_iconst (v := 1) dX12_least_12 (by decide) ?_
  refine ev_isub dX12_least_13 ?_
  refine ev_iand dX12_least_14 ?_
  refine ev_istore_n dX12_least_15 (am_lt rfl) ?_
  refine ev_iload_n dX12_least_16 rfl ?_
  refine ev_callP (am_callS (as := [.int (p1 &&& (((1 : Int32) <<< (v1 &&& 31)) - 1))]) (st := []) ct_X12_89 dX12_least_17 rfl (am_le rfl) (am_fit (by omega) (by decide) (by decide) (by decide)) (t_J6_bitCount_0f7a4 hl )) (fun v2 h2 => ?_)
  refine ev_bipush (v := 6) dX12_least_20 (by decide) ?_
  refine ev_icmp_le (tgt := 28) dX12_least_22 (by decide) (fun c3 => ?_) (fun c3 => ?_)
  · refine ev_iconst (v := 0) dX12_least_28 (by decide) ?_
    refine ev_istore_n dX12_least_29 (am_lt rfl) ?_
    refine ev_weak (am_wk (am_wf (am_wk (am_wk (am_wf am_wn))))) (ev_loop 30 205 (fun x4 : Int32 × (Nat → Nat → Int32) => [some (.ref p0), none, some (.int (p1 &&& (((1 : Int32) <<< (v1 &&& 31)) - 1))), some (.int x4.1), none]) (fun t4 : (Nat → Nat → Int32) => [some (.ref p0), none, some (.int (p1 &&& (((1 : Int32) <<< (v1 &&& 31)) - 1))), none, none]) (fun x4 => (x4.2, S.2)) (fun t4 => (t4, S.2)) (fun x4 G4 hB4 hE4 => ?_) (fun t4 => ?_) am_fuel (0, (am_u2 S.1 p0 0 0)))
    · unfold f_X12_least_b30
      refine ev_iload_n dX12_least_30 rfl ?_
      refine ev_iload_n dX12_least_31 rfl ?_
      refine ev_eq am_ib ?_
      refine ev_icmp_gt (tgt := 205) dX12_least_32 (by decide) (fun c59 => ?_) (fun c59 => ?_)
      · exact ev_leaf (am_wk (am_wf (am_wk (am_wf (am_wf am_wn))))) (hE4 x4.2)
      · refine ev_iload_n dX12_least_35 rfl ?_
        refine ev_iload_n dX12_least_36 rfl ?_
        refine ev_iconst (v := (-1)) dX12_least_37 (by decide) ?_
        refine ev_ixor dX12_least_38 ?_
        refine ev_iand dX12_least_39 ?_
        refine ev_eq (Option.bind_assoc _ _ _) ?_
        refine ev_reg (cs' := 0) (sl' := 0) 199 (fun t60 : (Nat → Nat → Int32) => [some (.ref p0), none, some (.int (p1 &&& (((1 : Int32) <<< (v1 &&& 31)) - 1))), some (.int x4.1), none]) (fun t60 => []) (fun t60 => (t60, S.2)) (fun hJ60 => ?_) (fun t60 => ?_)
        · refine ev_eq am_ib ?_
          refine ev_if_eq (tgt := 46) dX12_least_40 (by decide) (fun c60 => ?_) (fun c60 => ?_)
          · refine ev_aload_n dX12_least_46 rfl ?_
            refine ev_eq (Option.bind_assoc _ _ _) ?_
            refine ev_getR fk_X12_39 (by decide) dX12_least_47 kp0 (fun q61 k61 r61 => ?_)
            refine ev_iload_n dX12_least_50 rfl ?_
            refine ev_iconst (v := 0) dX12_least_51 (by decide) ?_
            refine ev_eq (Option.bind_assoc _ _ _) ?_
            refine ev_iast dX12_least_52 k61 (fun σ62 h62 => ?_)
            refine ev_iconst (v := 0) dX12_least_53 (by decide) ?_
            refine ev_istore dX12_least_54 (am_lt rfl) ?_
            refine ev_eq (Option.bind_assoc _ _ _) ?_
            refine ev_weak (am_wk (am_wf (am_wk (am_wk (am_wk am_wn))))) (ev_loop 56 99 (fun x63 : Int32 × (Nat → Nat → Int32) => [some (.ref p0), none, some (.int (p1 &&& (((1 : Int32) <<< (v1 &&& 31)) - 1))), some (.int x4.1), some (.int x63.1)]) (fun t63 : (Nat → Nat → Int32) => [some (.ref p0), none, some (.int (p1 &&& (((1 : Int32) <<< (v1 &&& 31)) - 1))), some (.int x4.1), none]) (fun x63 => (x63.2, S.2)) (fun t63 => (t63, S.2)) (fun x63 G63 hB63 hE63 => ?_) (fun t63 => ?_) am_fuel (0, σ62))
            · unfold f_X12_least_b56
              refine ev_iload dX12_least_56 rfl ?_
              refine ev_aload_n dX12_least_58 rfl ?_
              refine ev_eq (Option.bind_assoc _ _ _) ?_
              refine ev_callP (am_callV (as := []) (o := p0) (st := [.int x63.1]) cv_X12_82 dX12_least_59 kp0 rfl (am_le rfl) (am_fit (by omega) (by decide) (by decide) (by decide)) (t_X12_wants hl kp0)) (fun v72 h72 => ?_)
              refine ev_eq am_ib ?_
              refine ev_icmp_ge (tgt := 99) dX12_least_62 (by decide) (fun c73 => ?_) (fun c73 => ?_)
              · exact ev_leaf (am_wk (am_wf (am_wk (am_wk (am_wf am_wn))))) (hE63 x63.2)
              · refine ev_aload_n dX12_least_65 rfl ?_
                refine ev_eq (Option.bind_assoc _ _ _) ?_
                refine ev_getR fk_X12_39 (by decide) dX12_least_66 kp0 (fun q74 k74 r74 => ?_)
                refine ev_iload_n dX12_least_69 rfl ?_
                refine ev_dup2 dX12_least_70 rfl rfl ?_
                refine ev_eq (Option.bind_assoc _ _ _) ?_
                refine ev_iald dX12_least_71 k74 (fun v75 h75 => ?_)
                refine ev_iload_n dX12_least_72 rfl ?_
                refine ev_iload dX12_least_73 rfl ?_
                refine ev_eq (Option.bind_assoc _ _ _) ?_
                refine ev_callP (am_callS (as := [.int x4.1, .int x63.1]) (st := [.int v75, .int x4.1, .ref q74]) ct_X12_319 dX12_least_75 rfl (am_le rfl) (am_fit (by omega) (by decide) (by decide) (by decide)) (t_X12_has hl )) (fun v76 h76 => ?_)
                refine ev_eq (Option.bind_assoc _ _ _) ?_
                refine ev_reg (cs' := 0) (sl' := 0) 91 (fun t77 : Int32 => [some (.ref p0), none, some (.int (p1 &&& (((1 : Int32) <<< (v1 &&& 31)) - 1))), some (.int x4.1), some (.int x63.1)]) (fun t77 => [.int t77, .int v75, .int x4.1, .ref q74]) (fun t77 => (x63.2, S.2)) (fun hJ77 => ?_) (fun t77 => ?_)
                · refine ev_eq am_ib ?_
                  refine ev_if_eq (tgt := 90) dX12_least_78 (by decide) (fun c77 => ?_) (fun c77 => ?_)
                  · refine ev_iconst (v := 0) dX12_least_90 (by decide) ?_
                    exact ev_leaf (am_wk (am_wf (am_wk (am_wk (am_wk am_wn))))) (hJ77 (0 : Int32))
                  · refine ev_aload_n dX12_least_81 rfl ?_
                    refine ev_iload dX12_least_82 rfl ?_
                    refine ev_eq (Option.bind_assoc _ _ _) ?_
                    refine ev_callP (am_callV (as := [.int x63.1]) (o := p0) (st := [.int v75, .int x4.1, .ref q74]) cv_X12_266 dX12_least_84 kp0 rfl (am_le rfl) (am_fit (by omega) (by decide) (by decide) (by decide)) (t_X12_urgent hl kp0)) (fun v78 h78 => ?_)
                    refine ev_goto (tgt := 91) dX12_least_87 (by decide) ?_
                    exact ev_leaf (am_wk (am_wf (am_wk (am_wk (am_wk am_wn))))) (hJ77 v78)
                · refine ev_iadd dX12_least_91 ?_
                  refine ev_eq (Option.bind_assoc _ _ _) ?_
                  refine ev_iast dX12_least_92 k74 (fun σ79 h79 => ?_)
                  refine ev_iinc (v := (x63.1 + 1)) dX12_least_93 (am_lt rfl) rfl rfl ?_
                  refine ev_goto (tgt := 56) dX12_least_96 (by decide) ?_
                  exact ev_leaf (am_wk (am_wf (am_wk (am_wk (am_wk am_wn))))) (hB63 ((x63.1 + 1), σ79))
            · refine ev_aload_n dX12_least_99 rfl ?_
              refine ev_eq (Option.bind_assoc _ _ _) ?_
              refine ev_getR fk_X12_36 (by decide) dX12_least_100 kp0 (fun q80 k80 r80 => ?_)
              refine ev_iload_n dX12_least_103 rfl ?_
              refine ev_iload_n dX12_least_104 rfl ?_
              refine ev_eq (Option.bind_assoc _ _ _) ?_
              refine ev_callP (am_callS (as := [.int x4.1]) (st := [.int x4.1, .ref q80]) ct_X12_89 dX12_least_105 rfl (am_le rfl) (am_fit (by omega) (by decide) (by decide) (by decide)) (t_J6_bitCount_0f7a4 hl )) (fun v81 h81 => ?_)
              refine ev_iconst (v := 2) dX12_least_108 (by decide) ?_
              refine ev_eq (Option.bind_assoc _ _ _) ?_
              refine ev_reg (cs' := 0) (sl' := 0) 119 (fun t82 : Int32 => [some (.ref p0), none, some (.int (p1 &&& (((1 : Int32) <<< (v1 &&& 31)) - 1))), some (.int x4.1), none]) (fun t82 => [.int t82, .int x4.1, .ref q80]) (fun t82 => (t63, S.2)) (fun hJ82 => ?_) (fun t82 => ?_)
              · refine ev_eq am_ib ?_
                refine ev_icmp_ge (tgt := 116) dX12_least_109 (by decide) (fun c82 => ?_) (fun c82 => ?_)
                · refine ev_ldcwI (v := 1000000) dX12_least_116 (am_G_t (i := 1836) (by decide +kernel) rfl) ?_
                  exact ev_leaf (am_wk (am_wf (am_wk (am_wk (am_wf am_wn))))) (hJ82 (1000000 : Int32))
                · refine ev_iconst (v := 0) dX12_least_112 (by decide) ?_
                  refine ev_goto (tgt := 119) dX12_least_113 (by decide) ?_
                  exact ev_leaf (am_wk (am_wf (am_wk (am_wk (am_wf am_wn))))) (hJ82 (0 : Int32))
              · refine ev_eq (Option.bind_assoc _ _ _) ?_
                refine ev_iast dX12_least_119 k80 (fun σ83 h83 => ?_)
                refine ev_iload_n dX12_least_120 rfl ?_
                refine ev_iconst (v := 1) dX12_least_121 (by decide) ?_
                refine ev_isub dX12_least_122 ?_
                refine ev_iload_n dX12_least_123 rfl ?_
                refine ev_iand dX12_least_124 ?_
                refine ev_istore dX12_least_125 (am_lt rfl) ?_
                refine ev_eq (Option.bind_assoc _ _ _) ?_
                refine ev_weak (am_wk (am_wf (am_wk (am_wk (am_wk am_wn))))) (ev_loop 127 199 (fun x84 : Int32 × (Nat → Nat → Int32) => [some (.ref p0), none, some (.int (p1 &&& (((1 : Int32) <<< (v1 &&& 31)) - 1))), some (.int x4.1), some (.int x84.1)]) (fun t84 : (Nat → Nat → Int32) => [some (.ref p0), none, some (.int (p1 &&& (((1 : Int32) <<< (v1 &&& 31)) - 1))), some (.int x4.1), none]) (fun x84 => (x84.2, S.2)) (fun t84 => (t84, S.2)) (fun x84 G84 hB84 hE84 => ?_) (fun t84 => ?_) am_fuel (((x4.1 - 1) &&& x4.1), σ83))
                · unfold f_X12_least_b127
                  refine ev_iload dX12_least_127 rfl ?_
                  refine ev_eq am_ib ?_
                  refine ev_if_le (tgt := 199) dX12_least_129 (by decide) (fun c99 => ?_) (fun c99 => ?_)
                  · exact ev_leaf (am_wk (am_wf (am_wk (am_wk (am_wf am_wn))))) (hE84 x84.2)
                  · refine ev_aload_n dX12_least_132 rfl ?_
                    refine ev_eq (Option.bind_assoc _ _ _) ?_
                    refine ev_getR fk_X12_36 (by decide) dX12_least_133 kp0 (fun q100 k100 r100 => ?_)
                    refine ev_iload_n dX12_least_136 rfl ?_
                    refine ev_aload_n dX12_least_137 rfl ?_
                    refine ev_eq (Option.bind_assoc _ _ _) ?_
                    refine ev_getR fk_X12_36 (by decide) dX12_least_138 kp0 (fun q101 k101 r101 => ?_)
                    refine ev_iload_n dX12_least_141 rfl ?_
                    refine ev_eq (Option.bind_assoc _ _ _) ?_
                    refine ev_iald dX12_least_142 k101 (fun v102 h102 => ?_)
                    refine ev_aload_n dX12_least_143 rfl ?_
                    refine ev_eq (Option.bind_assoc _ _ _) ?_
                    refine ev_getR fk_X12_36 (by decide) dX12_least_144 kp0 (fun q103 k103 r103 => ?_)
                    refine ev_iload dX12_least_147 rfl ?_
                    refine ev_eq (Option.bind_assoc _ _ _) ?_
                    refine ev_iald dX12_least_149 k103 (fun v104 h104 => ?_)
                    refine ev_aload_n dX12_least_150 rfl ?_
                    refine ev_eq (Option.bind_assoc _ _ _) ?_
                    refine ev_getR fk_X12_36 (by decide) dX12_least_151 kp0 (fun q105 k105 r105 => ?_)
                    refine ev_iload_n dX12_least_154 rfl ?_
                    refine ev_iload dX12_least_155 rfl ?_
                    refine ev_iconst (v := (-1)) dX12_least_157 (by decide) ?_
                    refine ev_ixor dX12_least_158 ?_
                    refine ev_iand dX12_least_159 ?_
                    refine ev_eq (Option.bind_assoc _ _ _) ?_
                    refine ev_iald dX12_least_160 k105 (fun v106 h106 => ?_)
                    refine ev_iadd dX12_least_161 ?_
                    refine ev_aload_n dX12_least_162 rfl ?_
                    refine ev_eq (Option.bind_assoc _ _ _) ?_
                    refine ev_getR fk_X12_39 (by decide) dX12_least_163 kp0 (fun q107 k107 r107 => ?_)
                    refine ev_iload dX12_least_166 rfl ?_
                    refine ev_eq (Option.bind_assoc _ _ _) ?_
                    refine ev_iald dX12_least_168 k107 (fun v108 h108 => ?_)
                    refine ev_iadd dX12_least_169 ?_
                    refine ev_iconst (v := 2) dX12_least_170 (by decide) ?_
                    refine ev_aload_n dX12_least_171 rfl ?_
                    refine ev_eq (Option.bind_assoc _ _ _) ?_
                    refine ev_getR fk_X12_39 (by decide) dX12_least_172 kp0 (fun q109 k109 r109 => ?_)
                    refine ev_iload_n dX12_least_175 rfl ?_
                    refine ev_iload dX12_least_176 rfl ?_
                    refine ev_iconst (v := (-1)) dX12_least_178 (by decide) ?_
                    refine ev_ixor dX12_least_179 ?_
                    refine ev_iand dX12_least_180 ?_
                    refine ev_eq (Option.bind_assoc _ _ _) ?_
                    refine ev_iald dX12_least_181 k109 (fun v110 h110 => ?_)
                    refine ev_imul dX12_least_182 ?_
                    refine ev_iadd dX12_least_183 ?_
                    refine ev_eq (Option.bind_assoc _ _ _) ?_
                    refine ev_callP (am_callS (as := [.int v102, .int (((v104 + v106) + v108) + (2 * v110))]) (st := [.int x4.1, .ref q100]) ct_X12_306 dX12_least_184 rfl (am_le rfl) (am_fit (by omega) (by decide) (by decide) (by decide)) (t_J9_min_7cf53 hl )) (fun v111 h111 => ?_)
                    refine ev_eq (Option.bind_assoc _ _ _) ?_
                    refine ev_iast dX12_least_187 k100 (fun σ112 h112 => ?_)
                    refine ev_iload dX12_least_188 rfl ?_
                    refine ev_iconst (v := 1) dX12_least_190 (by decide) ?_
                    refine ev_isub dX12_least_191 ?_
                    refine ev_iload_n dX12_least_192 rfl ?_
                    refine ev_iand dX12_least_193 ?_
                    refine ev_istore dX12_least_194 (am_lt rfl) ?_
                    refine ev_goto (tgt := 127) dX12_least_196 (by decide) ?_
                    exact ev_leaf (am_wk (am_wf (am_wk (am_wk (am_wk am_wn))))) (hB84 (((x84.1 - 1) &&& x4.1), σ112))
                · exact ev_leaf (am_wk (am_wf (am_wk (am_wk (am_wf am_wn))))) (hJ60 t84)
          · refine ev_goto (tgt := 199) dX12_least_43 (by decide) ?_
            exact ev_leaf (am_wk (am_wf (am_wk (am_wk (am_wf am_wn))))) (hJ60 x4.2)
        · refine ev_iinc (v := (x4.1 + 1)) dX12_least_199 (am_lt rfl) rfl rfl ?_
          refine ev_goto (tgt := 30) dX12_least_202 (by decide) ?_
          exact ev_leaf (am_wk (am_wf (am_wk (am_wk (am_wf am_wn))))) (hB4 ((x4.1 + 1), t60))
    · refine ev_iload_n dX12_least_205 rfl ?_
      refine ev_callP (am_callS (as := [.int (p1 &&& (((1 : Int32) <<< (v1 &&& 31)) - 1))]) (st := []) ct_X12_89 dX12_least_206 rfl (am_le rfl) (am_fit (by omega) (by decide) (by decide) (by decide)) (t_J6_bitCount_0f7a4 hl )) (fun v113 h113 => ?_)
      refine ev_iconst (v := 1) dX12_least_209 (by decide) ?_
      refine ev_icmp_ne (tgt := 222) dX12_least_210 (by decide) (fun c114 => ?_) (fun c114 => ?_)
      · refine ev_aload_n dX12_least_222 rfl ?_
        refine ev_getR fk_X12_36 (by decide) dX12_least_223 kp0 (fun q115 k115 r115 => ?_)
        refine ev_iload_n dX12_least_226 rfl ?_
        refine ev_iald dX12_least_227 k115 (fun v116 h116 => ?_)
        exact ev_iret dX12_least_228 rfl rfl (by decide) (by decide) rfl
      · refine ev_aload_n dX12_least_213 rfl ?_
        refine ev_getR fk_X12_39 (by decide) dX12_least_214 kp0 (fun q117 k117 r117 => ?_)
        refine ev_iload_n dX12_least_217 rfl ?_
        refine ev_iald dX12_least_218 k117 (fun v118 h118 => ?_)
        refine ev_goto (tgt := 228) dX12_least_219 (by decide) ?_
        exact ev_iret dX12_least_228 rfl rfl (by decide) (by decide) rfl
  · refine ev_bipush (v := (-3)) dX12_least_25 (by decide) ?_
    exact ev_iret dX12_least_27 rfl rfl (by decide) (by decide) rfl
def f_X12_isFree_b5 (S : am_S) (a0 : Nat) (a1 : Int32) (a2 : Int32) (x1 : Int32 × Int32) : Option ((Int32 × Int32) ⊕ (Int32)) :=
  (if x1.2 < a1 then ((if x1.1 = 0 then some (0 : Int32) else ((am_rd S.2 a0 18 1).bind (fun q4 => ((am_ld S.1 q4 x1.2).bind (fun v5 => (if v5 = a2 then ((f_X12_isHarm S a0 x1.2 a1).bind (fun v7 => (if v7 = 0 then some (1 : Int32) else some (0 : Int32)))) else some (1 : Int32))))))).bind (fun t3 => some (.inl (t3, (x1.2 + 1))))) else some (.inr x1.1))
def f_X12_isFree (S : am_S) (p0 : Nat) (p1 : Int32) (p2 : Int32) : Option (Int32) :=
  ((am_loop (f_X12_isFree_b5 S p0 p1 p2) am_fuel (1, 0)).bind (fun t1 => (if t1 = 0 ∨ t1 = 1 then some t1 else none)))
set_option maxRecDepth 20000 in
theorem t_X12_isFree {E : am_E} {l : Launch} (hl : l.stackTraces = false) {S : am_S} {p0 : Nat} {p1 : Int32} {p2 : Int32} (kp0 : am_kd p0 = 112) : am_M E l yX12_isFree (.code yX12_isFree cX12_isFree 5 (some .boolean)) 4 0 0 [.ref p0, .int p1, .int p2] S ((f_X12_isFree S p0 p1 p2).map (fun (v : Int32) => ((.inl (some (.int v)), S) : am_R))) := by
  refine am_M_of (w := fun (v : Int32) => ((.inl (some (.int v)), S) : am_R)) hl (by decide) (am_fc rfl (am_fc rfl (am_fc rfl am_fn))) (Nat.le_of_ble_eq_true rfl) ?_
  show am_Ev E l (RX12, cX12_isFree, 5, (some .boolean), [], am_rm 4 0 0) (fun b a s x => am_Z E 0 0 b a s ((fun (v : Int32) => ((.inl (some (.int v)), S) : am_R)) x)) 0 0 0 [some (.ref p0), some (.int p1), some (.int p2), none, none] [] S (f_X12_isFree S p0 p1 p2)
  unfold f_X12_isFree
  refine ev_iconst (v := 1) dX12_isFree_0 (by decide) ?_
  refine ev_istore_n dX12_isFree_1 (am_lt rfl) ?_
  refine ev_iconst (v := 0) dX12_isFree_2 (by decide) ?_
  refine ev_istore dX12_isFree_3 (am_lt rfl) ?_
  refine ev_weak (am_wk (am_wk (am_wk (am_wk (am_wk am_wn))))) (ev_loop 5 48 (fun x1 : Int32 × Int32 => [some (.ref p0), some (.int p1), some (.int p2), some (.int x1.1), some (.int x1.2)]) (fun t1 : Int32 => [none, none, none, some (.int t1), none]) (fun x1 => S) (fun t1 => S) (fun x1 G1 hB1 hE1 => ?_) (fun t1 => ?_) am_fuel (1, 0))
  · unfold f_X12_isFree_b5
    refine ev_iload dX12_isFree_5 rfl ?_
    refine ev_iload_n dX12_isFree_7 rfl ?_
    refine ev_eq am_ib ?_
    refine ev_icmp_ge (tgt := 48) dX12_isFree_8 (by decide) (fun c9 => ?_) (fun c9 => ?_)
    · exact ev_leaf (am_wf (am_wf (am_wf (am_wk (am_wf am_wn))))) (hE1 x1.1)
    · refine ev_iload_n dX12_isFree_11 rfl ?_
      refine ev_eq (Option.bind_assoc _ _ _) ?_
      refine ev_reg (cs' := 0) (sl' := 0) 41 (fun t10 : Int32 => [some (.ref p0), some (.int p1), some (.int p2), none, some (.int x1.2)]) (fun t10 => [.int t10]) (fun t10 => S) (fun hJ10 => ?_) (fun t10 => ?_)
      · refine ev_eq am_ib ?_
        refine ev_if_eq (tgt := 40) dX12_isFree_12 (by decide) (fun c10 => ?_) (fun c10 => ?_)
        · refine ev_iconst (v := 0) dX12_isFree_40 (by decide) ?_
          exact ev_leaf (am_wk (am_wk (am_wk (am_wf (am_wk am_wn))))) (hJ10 (0 : Int32))
        · refine ev_aload_n dX12_isFree_15 rfl ?_
          refine ev_eq (Option.bind_assoc _ _ _) ?_
          refine ev_getR fk_X12_42 (by decide) dX12_isFree_16 kp0 (fun q11 k11 r11 => ?_)
          refine ev_iload dX12_isFree_19 rfl ?_
          refine ev_eq (Option.bind_assoc _ _ _) ?_
          refine ev_iald dX12_isFree_21 k11 (fun v12 h12 => ?_)
          refine ev_iload_n dX12_isFree_22 rfl ?_
          refine ev_eq am_ib ?_
          refine ev_icmp_ne (tgt := 36) dX12_isFree_23 (by decide) (fun c13 => ?_) (fun c13 => ?_)
          · refine ev_iconst (v := 1) dX12_isFree_36 (by decide) ?_
            refine ev_goto (tgt := 41) dX12_isFree_37 (by decide) ?_
            exact ev_leaf (am_wk (am_wk (am_wk (am_wf (am_wk am_wn))))) (hJ10 (1 : Int32))
          · refine ev_aload_n dX12_isFree_26 rfl ?_
            refine ev_iload dX12_isFree_27 rfl ?_
            refine ev_iload_n dX12_isFree_29 rfl ?_
            refine ev_eq (Option.bind_assoc _ _ _) ?_
            refine ev_callP (am_callV (as := [.int x1.2, .int p1]) (o := p0) (st := []) cv_X12_274 dX12_isFree_30 kp0 rfl (am_le rfl) (am_fit (by omega) (by decide) (by decide) (by decide)) (t_X12_isHarm hl kp0)) (fun v14 h14 => ?_)
            refine ev_eq am_ib ?_
            refine ev_if_ne (tgt := 40) dX12_isFree_33 (by decide) (fun c15 => ?_) (fun c15 => ?_)
            · refine ev_iconst (v := 0) dX12_isFree_40 (by decide) ?_
              exact ev_leaf (am_wk (am_wk (am_wk (am_wf (am_wk am_wn))))) (hJ10 (0 : Int32))
            · refine ev_iconst (v := 1) dX12_isFree_36 (by decide) ?_
              refine ev_goto (tgt := 41) dX12_isFree_37 (by decide) ?_
              exact ev_leaf (am_wk (am_wk (am_wk (am_wf (am_wk am_wn))))) (hJ10 (1 : Int32))
      · refine ev_istore_n dX12_isFree_41 (am_lt rfl) ?_
        refine ev_iinc (v := (x1.2 + 1)) dX12_isFree_42 (am_lt rfl) rfl rfl ?_
        refine ev_goto (tgt := 5) dX12_isFree_45 (by decide) ?_
        exact ev_leaf (am_wk (am_wk (am_wk (am_wk (am_wk am_wn))))) (hB1 (t10, (x1.2 + 1)))
  · refine ev_iload_n dX12_isFree_48 rfl ?_
    refine ev_split (fun c16 => ?_) (fun _ => ?_)
    · exact ev_iret dX12_isFree_49 rfl (am_nb c16) (by decide) (by decide) rfl
    · exact ev_none
