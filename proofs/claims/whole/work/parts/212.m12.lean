def f_X12_paints_b4 (S : am_S) (a0 : Nat) (a1 : Int32) (a2 : Int32) (x1 : Int32 × (Nat → Nat → Int32)) : Option ((Int32 × (Nat → Nat → Int32)) ⊕ ((Nat → Nat → Int32))) :=
  (if x1.1 < 8 then ((am_rd S.2 a0 18 1).bind (fun q3 => ((am_st x1.2 q3 x1.1 (-1)).bind (fun σ4 => some (.inl ((x1.1 + 1), σ4)))))) else some (.inr x1.2))
def f_X12_paints_b44 (S : am_S) (a0 : Nat) (a1 : Int32) (a2 : Int32) (x14 : Int32) : Option ((Int32) ⊕ (Int32)) :=
  (if x14 < a1 then ((f_X12_isFree S a0 a2 x14).bind (fun v16 => (if v16 = 0 then some (.inl (x14 + 1)) else some (.inr x14)))) else some (.inr x14))
def f_X12_paints_b23 (S : am_S) (a0 : Nat) (a1 : Int32) (x8 : Int32 × (Nat → Nat → Int32)) : Option ((Int32 × (Nat → Nat → Int32)) ⊕ (Int32 × (Nat → Nat → Int32))) :=
  (if x8.1 < 0 then some (.inr (x8.1, x8.2)) else ((f_X12_houses (x8.2, S.2) a0).bind (fun v10 => (if x8.1 < v10 then ((am_rd S.2 a0 18 1).bind (fun q12 => ((am_ld x8.2 q12 x8.1).bind (fun v13 => ((am_loop (f_X12_paints_b44 (x8.2, S.2) a0 a1 x8.1) am_fuel (v13 + 1)).bind (fun t14 => ((am_rd S.2 a0 18 1).bind (fun q21 => ((if t14 < a1 then some t14 else some ((-1) : Int32)).bind (fun t22 => ((am_st x8.2 q21 x8.1 t22).bind (fun σ23 => ((if t14 < a1 then some (1 : Int32) else some ((-1) : Int32)).bind (fun t24 => some (.inl ((x8.1 + t24), σ23)))))))))))))))) else some (.inr (x8.1, x8.2))))))
def f_X12_paints (S : am_S) (p0 : Nat) (p1 : Int32) : Option (Int32 × (Nat → Nat → Int32)) :=
  ((am_loop (f_X12_paints_b4 S p0 p1 0) am_fuel (0, S.1)).bind (fun t1 => ((am_loop (f_X12_paints_b23 (t1, S.2) p0 p1) am_fuel (0, t1)).bind (fun t8 => (if t8.1 < 0 then some (0, t8.2) else some (1, t8.2))))))
set_option maxRecDepth 20000 in
theorem t_X12_paints {E : am_E} {l : Launch} (hl : l.stackTraces = false) {S : am_S} {p0 : Nat} {p1 : Int32} (kp0 : am_kd p0 = 112) : am_M E l yX12_paints (.code yX12_paints cX12_paints 4 (some .boolean)) 5 0 0 [.ref p0, .int p1] S ((f_X12_paints S p0 p1).map (fun (x : Int32 × (Nat → Nat → Int32)) => ((.inl (some (.int x.1)), (x.2, S.2)) : am_R))) := by
  refine am_M_of (w := fun (x : Int32 × (Nat → Nat → Int32)) => ((.inl (some (.int x.1)), (x.2, S.2)) : am_R)) hl (by decide) (am_fc rfl (am_fc rfl am_fn)) (Nat.le_of_ble_eq_true rfl) ?_
  show am_Ev E l (RX12, cX12_paints, 4, (some .boolean), [], am_rm 5 0 0) (fun b a s x => am_Z E 0 0 b a s ((fun (x : Int32 × (Nat → Nat → Int32)) => ((.inl (some (.int x.1)), (x.2, S.2)) : am_R)) x)) 0 0 0 [some (.ref p0), some (.int p1), none, none] [] S (f_X12_paints S p0 p1)
  unfold f_X12_paints
  refine ev_iconst (v := 0) dX12_paints_0 (by decide) ?_
  refine ev_istore_n dX12_paints_1 (am_lt rfl) ?_
  refine ev_iconst (v := 0) dX12_paints_2 (by decide) ?_
  refine ev_istore_n dX12_paints_3 (am_lt rfl) ?_
  refine ev_weak (am_wk (am_wk (am_wk (am_wk am_wn)))) (ev_loop 4 23 (fun x1 : Int32 × (Nat → Nat → Int32) => [some (.ref p0), some (.int p1), some (.int 0), some (.int x1.1)]) (fun t1 : (Nat → Nat → Int32) => [some (.ref p0), some (.int p1), some (.int 0), none]) (fun x1 => (x1.2, S.2)) (fun t1 => (t1, S.2)) (fun x1 G1 hB1 hE1 => ?_) (fun t1 => ?_) am_fuel (0, S.1))
  · unfold f_X12_paints_b4
    refine ev_iload_n dX12_paints_4 rfl ?_
    refine ev_bipush (v := 8) dX12_paints_5 (by decide) ?_
    refine ev_eq am_ib ?_
    refine ev_icmp_ge (tgt := 23) dX12_paints_7 (by decide) (fun c5 => ?_) (fun c5 => ?_)
    · exact ev_leaf (am_wk (am_wk (am_wk (am_wf am_wn)))) (hE1 x1.2)
    · refine ev_aload_n dX12_paints_10 rfl ?_
      refine ev_eq (Option.bind_assoc _ _ _) ?_
      refine ev_getR fk_X12_42 (by decide) dX12_paints_11 kp0 (fun q6 k6 r6 => ?_)
      refine ev_iload_n dX12_paints_14 rfl ?_
      refine ev_iconst (v := (-1)) dX12_paints_15 (by decide) ?_
      refine ev_eq (Option.bind_assoc _ _ _) ?_
      refine ev_iast dX12_paints_16 k6 (fun σ7 h7 => ?_)
      refine ev_iinc (v := (x1.1 + 1)) dX12_paints_17 (am_lt rfl) rfl rfl ?_
      refine ev_goto (tgt := 4) dX12_paints_20 (by decide) ?_
      exact ev_leaf (am_wk (am_wk (am_wk (am_wk am_wn)))) (hB1 ((x1.1 + 1), σ7))
  · refine ev_weak (am_wk (am_wk (am_wk (am_wf am_wn)))) (ev_loop 23 96 (fun x8 : Int32 × (Nat → Nat → Int32) => [some (.ref p0), some (.int p1), some (.int x8.1), none]) (fun t8 : Int32 × (Nat → Nat → Int32) => [none, none, some (.int t8.1), none]) (fun x8 => (x8.2, S.2)) (fun t8 => (t8.2, S.2)) (fun x8 G8 hB8 hE8 => ?_) (fun t8 => ?_) am_fuel (0, t1))
    · unfold f_X12_paints_b23
      refine ev_iload_n dX12_paints_23 rfl ?_
      refine ev_eq am_ib ?_
      refine ev_if_lt (tgt := 96) dX12_paints_24 (by decide) (fun c25 => ?_) (fun c25 => ?_)
      · exact ev_leaf (am_wf (am_wf (am_wk (am_wf am_wn)))) (hE8 (x8.1, x8.2))
      · refine ev_iload_n dX12_paints_27 rfl ?_
        refine ev_aload_n dX12_paints_28 rfl ?_
        refine ev_eq (Option.bind_assoc _ _ _) ?_
        refine ev_callP (am_callV (as := []) (o := p0) (st := [.int x8.1]) cv_X12_74 dX12_paints_29 kp0 rfl (am_le rfl) (am_fit (by omega) (by decide) (by decide) (by decide)) (t_X12_houses hl kp0)) (fun v26 h26 => ?_)
        refine ev_eq am_ib ?_
        refine ev_icmp_ge (tgt := 96) dX12_paints_32 (by decide) (fun c27 => ?_) (fun c27 => ?_)
        · exact ev_leaf (am_wf (am_wf (am_wk (am_wf am_wn)))) (hE8 (x8.1, x8.2))
        · refine ev_aload_n dX12_paints_35 rfl ?_
          refine ev_eq (Option.bind_assoc _ _ _) ?_
          refine ev_getR fk_X12_42 (by decide) dX12_paints_36 kp0 (fun q28 k28 r28 => ?_)
          refine ev_iload_n dX12_paints_39 rfl ?_
          refine ev_eq (Option.bind_assoc _ _ _) ?_
          refine ev_iald dX12_paints_40 k28 (fun v29 h29 => ?_)
          refine ev_iconst (v := 1) dX12_paints_41 (by decide) ?_
          refine ev_iadd dX12_paints_42 ?_
          refine ev_istore_n dX12_paints_43 (am_lt rfl) ?_
          refine ev_eq (Option.bind_assoc _ _ _) ?_
          refine ev_weak (am_wk (am_wk (am_wk (am_wk am_wn)))) (ev_loop 44 64 (fun x30 : Int32 => [some (.ref p0), some (.int p1), some (.int x8.1), some (.int x30)]) (fun t30 : Int32 => [some (.ref p0), some (.int p1), some (.int x8.1), some (.int t30)]) (fun x30 => (x8.2, S.2)) (fun t30 => (x8.2, S.2)) (fun x30 G30 hB30 hE30 => ?_) (fun t30 => ?_) am_fuel (v29 + 1))
          · unfold f_X12_paints_b44
            refine ev_iload_n dX12_paints_44 rfl ?_
            refine ev_iload_n dX12_paints_45 rfl ?_
            refine ev_eq am_ib ?_
            refine ev_icmp_ge (tgt := 64) dX12_paints_46 (by decide) (fun c34 => ?_) (fun c34 => ?_)
            · exact ev_leaf (am_wk (am_wk (am_wk (am_wk am_wn)))) (hE30 x30)
            · refine ev_aload_n dX12_paints_49 rfl ?_
              refine ev_iload_n dX12_paints_50 rfl ?_
              refine ev_iload_n dX12_paints_51 rfl ?_
              refine ev_eq (Option.bind_assoc _ _ _) ?_
              refine ev_callP (am_callV (as := [.int x8.1, .int x30]) (o := p0) (st := []) cv_X12_323 dX12_paints_52 kp0 rfl (am_le rfl) (am_fit (by omega) (by decide) (by decide) (by decide)) (t_X12_isFree hl kp0)) (fun v35 h35 => ?_)
              refine ev_eq am_ib ?_
              refine ev_if_ne (tgt := 64) dX12_paints_55 (by decide) (fun c36 => ?_) (fun c36 => ?_)
              · exact ev_leaf (am_wk (am_wk (am_wk (am_wk am_wn)))) (hE30 x30)
              · refine ev_iinc (v := (x30 + 1)) dX12_paints_58 (am_lt rfl) rfl rfl ?_
                refine ev_goto (tgt := 44) dX12_paints_61 (by decide) ?_
                exact ev_leaf (am_wk (am_wk (am_wk (am_wk am_wn)))) (hB30 (x30 + 1))
          · refine ev_aload_n dX12_paints_64 rfl ?_
            refine ev_eq (Option.bind_assoc _ _ _) ?_
            refine ev_getR fk_X12_42 (by decide) dX12_paints_65 kp0 (fun q37 k37 r37 => ?_)
            refine ev_iload_n dX12_paints_68 rfl ?_
            refine ev_iload_n dX12_paints_69 rfl ?_
            refine ev_iload_n dX12_paints_70 rfl ?_
            refine ev_eq (Option.bind_assoc _ _ _) ?_
            refine ev_reg (cs' := 0) (sl' := 0) 79 (fun t38 : Int32 => [some (.ref p0), some (.int p1), some (.int x8.1), some (.int t30)]) (fun t38 => [.int t38, .int x8.1, .ref q37]) (fun t38 => (x8.2, S.2)) (fun hJ38 => ?_) (fun t38 => ?_)
            · refine ev_eq am_ib ?_
              refine ev_icmp_ge (tgt := 78) dX12_paints_71 (by decide) (fun c38 => ?_) (fun c38 => ?_)
              · refine ev_iconst (v := (-1)) dX12_paints_78 (by decide) ?_
                exact ev_leaf (am_wk (am_wk (am_wk (am_wk am_wn)))) (hJ38 ((-1) : Int32))
              · refine ev_iload_n dX12_paints_74 rfl ?_
                refine ev_goto (tgt := 79) dX12_paints_75 (by decide) ?_
                exact ev_leaf (am_wk (am_wk (am_wk (am_wk am_wn)))) (hJ38 t30)
            · refine ev_eq (Option.bind_assoc _ _ _) ?_
              refine ev_iast dX12_paints_79 k37 (fun σ39 h39 => ?_)
              refine ev_iload_n dX12_paints_80 rfl ?_
              refine ev_iload_n dX12_paints_81 rfl ?_
              refine ev_iload_n dX12_paints_82 rfl ?_
              refine ev_eq (Option.bind_assoc _ _ _) ?_
              refine ev_reg (cs' := 0) (sl' := 0) 91 (fun t40 : Int32 => [some (.ref p0), some (.int p1), none, none]) (fun t40 => [.int t40, .int x8.1]) (fun t40 => (σ39, S.2)) (fun hJ40 => ?_) (fun t40 => ?_)
              · refine ev_eq am_ib ?_
                refine ev_icmp_ge (tgt := 90) dX12_paints_83 (by decide) (fun c40 => ?_) (fun c40 => ?_)
                · refine ev_iconst (v := (-1)) dX12_paints_90 (by decide) ?_
                  exact ev_leaf (am_wk (am_wk (am_wf (am_wf am_wn)))) (hJ40 ((-1) : Int32))
                · refine ev_iconst (v := 1) dX12_paints_86 (by decide) ?_
                  refine ev_goto (tgt := 91) dX12_paints_87 (by decide) ?_
                  exact ev_leaf (am_wk (am_wk (am_wf (am_wf am_wn)))) (hJ40 (1 : Int32))
              · refine ev_iadd dX12_paints_91 ?_
                refine ev_istore_n dX12_paints_92 (am_lt rfl) ?_
                refine ev_goto (tgt := 23) dX12_paints_93 (by decide) ?_
                exact ev_leaf (am_wk (am_wk (am_wk (am_wf am_wn)))) (hB8 ((x8.1 + t40), σ39))
    · refine ev_iload_n dX12_paints_96 rfl ?_
      refine ev_if_lt (tgt := 104) dX12_paints_97 (by decide) (fun c41 => ?_) (fun c41 => ?_)
      · refine ev_iconst (v := 0) dX12_paints_104 (by decide) ?_
        exact ev_iret dX12_paints_105 rfl (by decide) (by decide) (by decide) rfl
      · refine ev_iconst (v := 1) dX12_paints_100 (by decide) ?_
        refine ev_goto (tgt := 105) dX12_paints_101 (by decide) ?_
        exact ev_iret dX12_paints_105 rfl (by decide) (by decide) (by decide) rfl
def f_X12_colours_b35 (S : am_S) (a0 : Nat) (a1 : Int32) (x6 : Int32 × (Nat → Nat → Int32)) : Option ((Int32 × (Nat → Nat → Int32)) ⊕ (Int32 × (Nat → Nat → Int32))) :=
  ((f_X12_paints (x6.2, S.2) a0 x6.1).bind (fun y7 => (if y7.1 = 0 then some (.inl ((x6.1 + 1), y7.2)) else some (.inr (x6.1, y7.2)))))
def f_X12_colours (S : am_S) (p0 : Nat) (p1 : Int32) : Option (Int32 × (Nat → Nat → Int32)) :=
  ((if p1 = (-1) then some (0 : Int32) else ((f_X12_noHouse ((am_u2 S.1 p0 0 0), S.2) p0 p1).bind (fun v2 => (if v2 = 0 then some (0 : Int32) else some (1 : Int32))))).bind (fun t1 => ((f_X12_throwsIf ((am_u2 S.1 p0 0 0), S.2) p0 t1 1).bind (fun y4 => (if y4.1 = 0 then ((am_loop (f_X12_colours_b35 (y4.2, S.2) p0 p1) am_fuel (0, y4.2)).bind (fun t6 => (if p1 = (-1) then some (t6.1, t6.2) else ((am_rd S.2 p0 18 1).bind (fun q12 => ((am_ld t6.2 q12 p1).bind (fun v13 => some (v13, t6.2)))))))) else some (0, y4.2))))))
set_option maxRecDepth 20000 in
theorem t_X12_colours {E : am_E} {l : Launch} (hl : l.stackTraces = false) {S : am_S} {p0 : Nat} {p1 : Int32} (kp0 : am_kd p0 = 112) : am_M E l yX12_colours (.code yX12_colours cX12_colours 3 (some .int)) 6 0 0 [.ref p0, .int p1] S ((f_X12_colours S p0 p1).map (fun (x : Int32 × (Nat → Nat → Int32)) => ((.inl (some (.int x.1)), (x.2, S.2)) : am_R))) := by
  refine am_M_of (w := fun (x : Int32 × (Nat → Nat → Int32)) => ((.inl (some (.int x.1)), (x.2, S.2)) : am_R)) hl (by decide) (am_fc rfl (am_fc rfl am_fn)) (Nat.le_of_ble_eq_true rfl) ?_
  show am_Ev E l (RX12, cX12_colours, 3, (some .int), [], am_rm 6 0 0) (fun b a s x => am_Z E 0 0 b a s ((fun (x : Int32 × (Nat → Nat → Int32)) => ((.inl (some (.int x.1)), (x.2, S.2)) : am_R)) x)) 0 0 0 [some (.ref p0), some (.int p1), none] [] S (f_X12_colours S p0 p1)
  unfold f_X12_colours
  refine ev_aload_n dX12_colours_0 rfl ?_
  refine ev_iconst (v := 0) dX12_colours_1 (by decide) ?_
  refine ev_putI fk_X12_3 tyX12 tyX12_ok nmX12 rfl (by decide +kernel) (by decide) dX12_colours_2 kp0 ?_
  refine ev_aload_n dX12_colours_5 rfl ?_
  refine ev_iload_n dX12_colours_6 rfl ?_
  refine ev_iconst (v := (-1)) dX12_colours_7 (by decide) ?_
  refine ev_reg (cs' := 0) (sl' := 0) 24 (fun t1 : Int32 => [some (.ref p0), some (.int p1), none]) (fun t1 => [.int t1, .ref p0]) (fun t1 => ((am_u2 S.1 p0 0 0), S.2)) (fun hJ1 => ?_) (fun t1 => ?_)
  · refine ev_eq am_ib ?_
    refine ev_icmp_eq (tgt := 23) dX12_colours_8 (by decide) (fun c1 => ?_) (fun c1 => ?_)
    · refine ev_iconst (v := 0) dX12_colours_23 (by decide) ?_
      exact ev_leaf (am_wk (am_wk (am_wf am_wn))) (hJ1 (0 : Int32))
    · refine ev_aload_n dX12_colours_11 rfl ?_
      refine ev_iload_n dX12_colours_12 rfl ?_
      refine ev_eq (Option.bind_assoc _ _ _) ?_
      refine ev_callP (am_callV (as := [.int p1]) (o := p0) (st := [.ref p0]) cv_X12_257 dX12_colours_13 kp0 rfl (am_le rfl) (am_fit (by omega) (by decide) (by decide) (by decide)) (t_X12_noHouse hl kp0)) (fun v2 h2 => ?_)
      refine ev_eq am_ib ?_
      refine ev_if_eq (tgt := 23) dX12_colours_16 (by decide) (fun c3 => ?_) (fun c3 => ?_)
      · refine ev_iconst (v := 0) dX12_colours_23 (by decide) ?_
        exact ev_leaf (am_wk (am_wk (am_wf am_wn))) (hJ1 (0 : Int32))
      · refine ev_iconst (v := 1) dX12_colours_19 (by decide) ?_
        refine ev_goto (tgt := 24) dX12_colours_20 (by decide) ?_
        exact ev_leaf (am_wk (am_wk (am_wf am_wn))) (hJ1 (1 : Int32))
  · refine ev_iconst (v := 1) dX12_colours_24 (by decide) ?_
    refine ev_callWI (am_callV (as := [.int t1, .int 1]) (o := p0) (st := []) cv_X12_242 dX12_colours_25 kp0 rfl (am_le rfl) (am_fit (by omega) (by decide) (by decide) (by decide)) (t_X12_throwsIf hl kp0)) (fun y4 h4 => ?_)
    refine ev_if_eq (tgt := 33) dX12_colours_28 (by decide) (fun c5 => ?_) (fun c5 => ?_)
    · refine ev_iconst (v := 0) dX12_colours_33 (by decide) ?_
      refine ev_istore_n dX12_colours_34 (am_lt rfl) ?_
      refine ev_weak (am_wk (am_wk (am_wk am_wn))) (ev_loop 35 49 (fun x6 : Int32 × (Nat → Nat → Int32) => [some (.ref p0), some (.int p1), some (.int x6.1)]) (fun t6 : Int32 × (Nat → Nat → Int32) => [some (.ref p0), some (.int p1), some (.int t6.1)]) (fun x6 => (x6.2, S.2)) (fun t6 => (t6.2, S.2)) (fun x6 G6 hB6 hE6 => ?_) (fun t6 => ?_) am_fuel (0, y4.2))
      · unfold f_X12_colours_b35
        refine ev_aload_n dX12_colours_35 rfl ?_
        refine ev_iload_n dX12_colours_36 rfl ?_
        refine ev_eq (Option.bind_assoc _ _ _) ?_
        refine ev_callWI (am_callV (as := [.int x6.1]) (o := p0) (st := []) cv_X12_326 dX12_colours_37 kp0 rfl (am_le rfl) (am_fit (by omega) (by decide) (by decide) (by decide)) (t_X12_paints hl kp0)) (fun y9 h9 => ?_)
        refine ev_eq am_ib ?_
        refine ev_if_ne (tgt := 49) dX12_colours_40 (by decide) (fun c10 => ?_) (fun c10 => ?_)
        · exact ev_leaf (am_wk (am_wk (am_wk am_wn))) (hE6 (x6.1, y9.2))
        · refine ev_iinc (v := (x6.1 + 1)) dX12_colours_43 (am_lt rfl) rfl rfl ?_
          refine ev_goto (tgt := 35) dX12_colours_46 (by decide) ?_
          exact ev_leaf (am_wk (am_wk (am_wk am_wn))) (hB6 ((x6.1 + 1), y9.2))
      · refine ev_iload_n dX12_colours_49 rfl ?_
        refine ev_iconst (v := (-1)) dX12_colours_50 (by decide) ?_
        refine ev_icmp_ne (tgt := 58) dX12_colours_51 (by decide) (fun c11 => ?_) (fun c11 => ?_)
        · refine ev_aload_n dX12_colours_58 rfl ?_
          refine ev_getR fk_X12_42 (by decide) dX12_colours_59 kp0 (fun q12 k12 r12 => ?_)
          refine ev_iload_n dX12_colours_62 rfl ?_
          refine ev_iald dX12_colours_63 k12 (fun v13 h13 => ?_)
          exact ev_iret dX12_colours_64 rfl rfl (by decide) (by decide) rfl
        · refine ev_iload_n dX12_colours_54 rfl ?_
          refine ev_goto (tgt := 64) dX12_colours_55 (by decide) ?_
          exact ev_iret dX12_colours_64 rfl rfl (by decide) (by decide) rfl
    · refine ev_iconst (v := 0) dX12_colours_31 (by decide) ?_
      exact ev_iret dX12_colours_32 rfl rfl (by decide) (by decide) rfl
def f_X12_spreads_b3 (S : am_S) (a0 : Nat) (a1 : Int32) (a2 : Int32) (a3 : Int32) (x1 : Int32 × (Nat → Nat → Int32)) : Option ((Int32 × (Nat → Nat → Int32)) ⊕ ((Nat → Nat → Int32))) :=
  (if x1.1 < 8 then ((am_rd S.2 a0 19 1).bind (fun q3 => ((am_st x1.2 q3 x1.1 1000000).bind (fun σ4 => some (.inl ((x1.1 + 1), σ4)))))) else some (.inr x1.2))
def f_X12_spreads_b98 (S : am_S) (a0 : Nat) (a2 : Int32) (a3 : Int32) (a5 : Int32) (a6 : Int32) (x22 : Int32 × Int32 × (Nat → Nat → Int32)) : Option ((Int32 × Int32 × (Nat → Nat → Int32)) ⊕ (Int32 × (Nat → Nat → Int32))) :=
  ((f_X12_houses (x22.2.2, S.2) a0).bind (fun v23 => (if x22.2.1 < v23 then ((f_X12_clearOf (x22.2.2, S.2) a0 x22.2.1 a5).bind (fun v25 => ((f_X12_lengthOf a6).bind (fun v26 => ((if v25 < v26 then some (x22.1, x22.2.2) else ((am_rd S.2 a0 19 1).bind (fun q28 => ((am_ld x22.2.2 q28 a5).bind (fun v29 => ((f_X12_costOf a6).bind (fun v30 => ((am_rd S.2 a0 19 1).bind (fun q31 => ((am_ld x22.2.2 q31 x22.2.1).bind (fun v32 => (if (v29 + v30) < v32 then ((am_rd S.2 a0 19 1).bind (fun q34 => ((am_rd S.2 a0 19 1).bind (fun q35 => ((am_ld x22.2.2 q35 a5).bind (fun v36 => ((f_X12_costOf a6).bind (fun v37 => ((am_st x22.2.2 q34 x22.2.1 (v36 + v37)).bind (fun σ38 => some ((1 : Int32), σ38))))))))))) else some (x22.1, x22.2.2))))))))))))).bind (fun t27 => some (.inl (t27.1, (x22.2.1 + 1), t27.2)))))))) else some (.inr (x22.1, x22.2.2)))))
def f_X12_spreads_b47 (S : am_S) (a0 : Nat) (a2 : Int32) (a3 : Int32) (x12 : Int32 × Int32 × (Nat → Nat → Int32)) : Option ((Int32 × Int32 × (Nat → Nat → Int32)) ⊕ (Int32 × (Nat → Nat → Int32))) :=
  ((f_X12_houses (x12.2.2, S.2) a0).bind (fun v13 => (if x12.2.1 < v13 then ((f_X12_wordOf (x12.2.2, S.2) a0 x12.2.1 a2).bind (fun v15 => ((am_rd S.2 a0 19 1).bind (fun q16 => ((am_ld x12.2.2 q16 x12.2.1).bind (fun v17 => ((if v17 = 1000000 then some (x12.1, x12.2.2) else ((f_X12_has a3 x12.2.1).bind (fun v19 => (if v19 = 0 then some (x12.1, x12.2.2) else (if v15 = 0 then some (x12.1, x12.2.2) else ((am_loop (f_X12_spreads_b98 (x12.2.2, S.2) a0 a2 a3 x12.2.1 v15) am_fuel (x12.1, 0, x12.2.2)).bind (fun t22 => some (t22.1, t22.2)))))))).bind (fun t18 => some (.inl (t18.1, (x12.2.1 + 1), t18.2)))))))))) else some (.inr (x12.1, x12.2.2)))))
def f_X12_spreads_b36 (S : am_S) (a0 : Nat) (a2 : Int32) (a3 : Int32) (x10 : Int32 × (Nat → Nat → Int32)) : Option ((Int32 × (Nat → Nat → Int32)) ⊕ ((Nat → Nat → Int32))) :=
  (if x10.1 = 0 then some (.inr x10.2) else ((am_loop (f_X12_spreads_b47 (x10.2, S.2) a0 a2 a3) am_fuel (0, 0, x10.2)).bind (fun t12 => some (.inl (t12.1, t12.2)))))
def f_X12_spreads (S : am_S) (p0 : Nat) (p1 : Int32) (p2 : Int32) (p3 : Int32) : Option ((Nat → Nat → Int32)) :=
  ((am_loop (f_X12_spreads_b3 S p0 p1 p2 p3) am_fuel (0, S.1)).bind (fun t1 => ((am_rd S.2 p0 19 1).bind (fun q8 => ((am_st t1 q8 p1 0).bind (fun σ9 => ((am_loop (f_X12_spreads_b36 (σ9, S.2) p0 p2 p3) am_fuel (1, σ9)).bind (fun t10 => some t10))))))))
set_option maxRecDepth 20000 in
theorem t_X12_spreads {E : am_E} {l : Launch} (hl : l.stackTraces = false) {S : am_S} {p0 : Nat} {p1 : Int32} {p2 : Int32} {p3 : Int32} (kp0 : am_kd p0 = 112) : am_M E l yX12_spreads (.code yX12_spreads cX12_spreads 8 none) 4 0 0 [.ref p0, .int p1, .int p2, .int p3] S ((f_X12_spreads S p0 p1 p2 p3).map (fun (x : Nat → Nat → Int32) => ((.inl none, (x, S.2)) : am_R))) := by
  refine am_M_of (w := fun (x : Nat → Nat → Int32) => ((.inl none, (x, S.2)) : am_R)) hl (by decide) (am_fc rfl (am_fc rfl (am_fc rfl (am_fc rfl am_fn)))) (Nat.le_of_ble_eq_true rfl) ?_
  show am_Ev E l (RX12, cX12_spreads, 8, none, [], am_rm 4 0 0) (fun b a s x => am_Z E 0 0 b a s ((fun (x : Nat → Nat → Int32) => ((.inl none, (x, S.2)) : am_R)) x)) 0 0 0 [some (.ref p0), some (.int p1), some (.int p2), some (.int p3), none, none, none, none] [] S (f_X12_spreads S p0 p1 p2 p3)
  unfold f_X12_spreads
  refine ev_iconst (v := 0) dX12_spreads_0 (by decide) ?_
  refine ev_istore dX12_spreads_1 (am_lt rfl) ?_
  refine ev_weak (am_wk (am_wk (am_wk (am_wk (am_wk (am_wf (am_wf (am_wf am_wn)))))))) (ev_loop 3 26 (fun x1 : Int32 × (Nat → Nat → Int32) => [some (.ref p0), some (.int p1), some (.int p2), some (.int p3), some (.int x1.1), none, none, none]) (fun t1 : (Nat → Nat → Int32) => [some (.ref p0), some (.int p1), some (.int p2), some (.int p3), none, none, none, none]) (fun x1 => (x1.2, S.2)) (fun t1 => (t1, S.2)) (fun x1 G1 hB1 hE1 => ?_) (fun t1 => ?_) am_fuel (0, S.1))
  · unfold f_X12_spreads_b3
    refine ev_iload dX12_spreads_3 rfl ?_
    refine ev_bipush (v := 8) dX12_spreads_5 (by decide) ?_
    refine ev_eq am_ib ?_
    refine ev_icmp_ge (tgt := 26) dX12_spreads_7 (by decide) (fun c5 => ?_) (fun c5 => ?_)
    · exact ev_leaf (am_wk (am_wk (am_wk (am_wk (am_wf (am_wf (am_wf (am_wf am_wn)))))))) (hE1 x1.2)
    · refine ev_aload_n dX12_spreads_10 rfl ?_
      refine ev_eq (Option.bind_assoc _ _ _) ?_
      refine ev_getR fk_X12_45 (by decide) dX12_spreads_11 kp0 (fun q6 k6 r6 => ?_)
      refine ev_iload dX12_spreads_14 rfl ?_
      refine ev_ldcwI (v := 1000000) dX12_spreads_16 (am_G_t (i := 1836) (by decide +kernel) rfl) ?_
      refine ev_eq (Option.bind_assoc _ _ _) ?_
      refine ev_iast dX12_spreads_19 k6 (fun σ7 h7 => ?_)
      refine ev_iinc (v := (x1.1 + 1)) dX12_spreads_20 (am_lt rfl) rfl rfl ?_
      refine ev_goto (tgt := 3) dX12_spreads_23 (by decide) ?_
      exact ev_leaf (am_wk (am_wk (am_wk (am_wk (am_wk (am_wf (am_wf (am_wf am_wn)))))))) (hB1 ((x1.1 + 1), σ7))
  · refine ev_aload_n dX12_spreads_26 rfl ?_
    refine ev_getR fk_X12_45 (by decide) dX12_spreads_27 kp0 (fun q8 k8 r8 => ?_)
    refine ev_iload_n dX12_spreads_30 rfl ?_
    refine ev_iconst (v := 0) dX12_spreads_31 (by decide) ?_
    refine ev_iast dX12_spreads_32 k8 (fun σ9 h9 => ?_)
    refine ev_iconst (v := 1) dX12_spreads_33 (by decide) ?_
    refine ev_istore dX12_spreads_34 (am_lt rfl) ?_
    refine ev_weak (am_wk (am_wf (am_wk (am_wk (am_wk (am_wf (am_wf (am_wf am_wn)))))))) (ev_loop 36 187 (fun x10 : Int32 × (Nat → Nat → Int32) => [some (.ref p0), none, some (.int p2), some (.int p3), some (.int x10.1), none, none, none]) (fun t10 : (Nat → Nat → Int32) => [none, none, none, none, none, none, none, none]) (fun x10 => (x10.2, S.2)) (fun t10 => (t10, S.2)) (fun x10 G10 hB10 hE10 => ?_) (fun t10 => ?_) am_fuel (1, σ9))
    · unfold f_X12_spreads_b36
      refine ev_iload dX12_spreads_36 rfl ?_
      refine ev_eq am_ib ?_
      refine ev_if_eq (tgt := 187) dX12_spreads_38 (by decide) (fun c97 => ?_) (fun c97 => ?_)
      · exact ev_leaf (am_wf (am_wf (am_wf (am_wf (am_wf (am_wf (am_wf (am_wf am_wn)))))))) (hE10 x10.2)
      · refine ev_iconst (v := 0) dX12_spreads_41 (by decide) ?_
        refine ev_istore dX12_spreads_42 (am_lt rfl) ?_
        refine ev_iconst (v := 0) dX12_spreads_44 (by decide) ?_
        refine ev_istore dX12_spreads_45 (am_lt rfl) ?_
        refine ev_eq (Option.bind_assoc _ _ _) ?_
        refine ev_weak (am_wk (am_wf (am_wk (am_wk (am_wk (am_wk (am_wf (am_wf am_wn)))))))) (ev_loop 47 184 (fun x98 : Int32 × Int32 × (Nat → Nat → Int32) => [some (.ref p0), none, some (.int p2), some (.int p3), some (.int x98.1), some (.int x98.2.1), none, none]) (fun t98 : Int32 × (Nat → Nat → Int32) => [some (.ref p0), none, some (.int p2), some (.int p3), some (.int t98.1), none, none, none]) (fun x98 => (x98.2.2, S.2)) (fun t98 => (t98.2, S.2)) (fun x98 G98 hB98 hE98 => ?_) (fun t98 => ?_) am_fuel (0, 0, x10.2))
        · unfold f_X12_spreads_b47
          refine ev_iload dX12_spreads_47 rfl ?_
          refine ev_aload_n dX12_spreads_49 rfl ?_
          refine ev_eq (Option.bind_assoc _ _ _) ?_
          refine ev_callP (am_callV (as := []) (o := p0) (st := [.int x98.2.1]) cv_X12_74 dX12_spreads_50 kp0 rfl (am_le rfl) (am_fit (by omega) (by decide) (by decide) (by decide)) (t_X12_houses hl kp0)) (fun v141 h141 => ?_)
          refine ev_eq am_ib ?_
          refine ev_icmp_ge (tgt := 184) dX12_spreads_53 (by decide) (fun c142 => ?_) (fun c142 => ?_)
          · exact ev_leaf (am_wk (am_wf (am_wk (am_wk (am_wk (am_wf (am_wf (am_wf am_wn)))))))) (hE98 (x98.1, x98.2.2))
          · refine ev_aload_n dX12_spreads_56 rfl ?_
            refine ev_iload dX12_spreads_57 rfl ?_
            refine ev_iload_n dX12_spreads_59 rfl ?_
            refine ev_eq (Option.bind_assoc _ _ _) ?_
            refine ev_callP (am_callV (as := [.int x98.2.1, .int p2]) (o := p0) (st := []) cv_X12_254 dX12_spreads_60 kp0 rfl (am_le rfl) (am_fit (by omega) (by decide) (by decide) (by decide)) (t_X12_wordOf hl kp0)) (fun v143 h143 => ?_)
            refine ev_istore dX12_spreads_63 (am_lt rfl) ?_
            refine ev_aload_n dX12_spreads_65 rfl ?_
            refine ev_eq (Option.bind_assoc _ _ _) ?_
            refine ev_getR fk_X12_45 (by decide) dX12_spreads_66 kp0 (fun q144 k144 r144 => ?_)
            refine ev_iload dX12_spreads_69 rfl ?_
            refine ev_eq (Option.bind_assoc _ _ _) ?_
            refine ev_iald dX12_spreads_71 k144 (fun v145 h145 => ?_)
            refine ev_ldcwI (v := 1000000) dX12_spreads_72 (am_G_t (i := 1836) (by decide +kernel) rfl) ?_
            refine ev_eq (Option.bind_assoc _ _ _) ?_
            refine ev_reg (cs' := 0) (sl' := 0) 178 (fun t146 : Int32 × (Nat → Nat → Int32) => [some (.ref p0), none, some (.int p2), some (.int p3), some (.int t146.1), some (.int x98.2.1), none, none]) (fun t146 => []) (fun t146 => (t146.2, S.2)) (fun hJ146 => ?_) (fun t146 => ?_)
            · refine ev_eq am_ib ?_
              refine ev_icmp_eq (tgt := 178) dX12_spreads_75 (by decide) (fun c146 => ?_) (fun c146 => ?_)
              · exact ev_leaf (am_wk (am_wf (am_wk (am_wk (am_wk (am_wk (am_wf (am_wf am_wn)))))))) (hJ146 (x98.1, x98.2.2))
              · refine ev_iload_n dX12_spreads_78 rfl ?_
                refine ev_iload dX12_spreads_79 rfl ?_
                refine ev_eq (Option.bind_assoc _ _ _) ?_
                refine ev_callP (am_callS (as := [.int p3, .int x98.2.1]) (st := []) ct_X12_319 dX12_spreads_81 rfl (am_le rfl) (am_fit (by omega) (by decide) (by decide) (by decide)) (t_X12_has hl )) (fun v147 h147 => ?_)
                refine ev_eq am_ib ?_
                refine ev_if_eq (tgt := 178) dX12_spreads_84 (by decide) (fun c148 => ?_) (fun c148 => ?_)
                · exact ev_leaf (am_wk (am_wf (am_wk (am_wk (am_wk (am_wk (am_wf (am_wf am_wn)))))))) (hJ146 (x98.1, x98.2.2))
                · refine ev_iload dX12_spreads_87 rfl ?_
                  refine ev_eq am_ib ?_
                  refine ev_if_ne (tgt := 95) dX12_spreads_89 (by decide) (fun c149 => ?_) (fun c149 => ?_)
                  · refine ev_iconst (v := 0) dX12_spreads_95 (by decide) ?_
                    refine ev_istore dX12_spreads_96 (am_lt rfl) ?_
                    refine ev_eq (Option.bind_assoc _ _ _) ?_
                    refine ev_weak (am_wk (am_wf (am_wk (am_wk (am_wk (am_wk (am_wk (am_wk am_wn)))))))) (ev_loop 98 178 (fun x150 : Int32 × Int32 × (Nat → Nat → Int32) => [some (.ref p0), none, some (.int p2), some (.int p3), some (.int x150.1), some (.int x98.2.1), some (.int v143), some (.int x150.2.1)]) (fun t150 : Int32 × (Nat → Nat → Int32) => [some (.ref p0), none, some (.int p2), some (.int p3), some (.int t150.1), some (.int x98.2.1), none, none]) (fun x150 => (x150.2.2, S.2)) (fun t150 => (t150.2, S.2)) (fun x150 G150 hB150 hE150 => ?_) (fun t150 => ?_) am_fuel (x98.1, 0, x98.2.2))
                    · unfold f_X12_spreads_b98
                      refine ev_iload dX12_spreads_98 rfl ?_
                      refine ev_aload_n dX12_spreads_100 rfl ?_
                      refine ev_eq (Option.bind_assoc _ _ _) ?_
                      refine ev_callP (am_callV (as := []) (o := p0) (st := [.int x150.2.1]) cv_X12_74 dX12_spreads_101 kp0 rfl (am_le rfl) (am_fit (by omega) (by decide) (by decide) (by decide)) (t_X12_houses hl kp0)) (fun v167 h167 => ?_)
                      refine ev_eq am_ib ?_
                      refine ev_icmp_ge (tgt := 178) dX12_spreads_104 (by decide) (fun c168 => ?_) (fun c168 => ?_)
                      · exact ev_leaf (am_wk (am_wf (am_wk (am_wk (am_wk (am_wk (am_wf (am_wf am_wn)))))))) (hE150 (x150.1, x150.2.2))
                      · refine ev_aload_n dX12_spreads_107 rfl ?_
                        refine ev_iload dX12_spreads_108 rfl ?_
                        refine ev_iload dX12_spreads_110 rfl ?_
                        refine ev_eq (Option.bind_assoc _ _ _) ?_
                        refine ev_callP (am_callV (as := [.int x150.2.1, .int x98.2.1]) (o := p0) (st := []) cv_X12_271 dX12_spreads_112 kp0 rfl (am_le rfl) (am_fit (by omega) (by decide) (by decide) (by decide)) (t_X12_clearOf hl kp0)) (fun v169 h169 => ?_)
                        refine ev_iload dX12_spreads_115 rfl ?_
                        refine ev_eq (Option.bind_assoc _ _ _) ?_
                        refine ev_callP (am_callS (as := [.int v143]) (st := [.int v169]) ct_X12_85 dX12_spreads_117 rfl (am_le rfl) (am_fit (by omega) (by decide) (by decide) (by decide)) (t_X12_lengthOf hl )) (fun v170 h170 => ?_)
                        refine ev_eq (Option.bind_assoc _ _ _) ?_
                        refine ev_reg (cs' := 0) (sl' := 0) 172 (fun t171 : Int32 × (Nat → Nat → Int32) => [some (.ref p0), none, some (.int p2), some (.int p3), some (.int t171.1), some (.int x98.2.1), some (.int v143), some (.int x150.2.1)]) (fun t171 => []) (fun t171 => (t171.2, S.2)) (fun hJ171 => ?_) (fun t171 => ?_)
                        · refine ev_eq am_ib ?_
                          refine ev_icmp_lt (tgt := 172) dX12_spreads_120 (by decide) (fun c171 => ?_) (fun c171 => ?_)
                          · exact ev_leaf (am_wk (am_wf (am_wk (am_wk (am_wk (am_wk (am_wk (am_wk am_wn)))))))) (hJ171 (x150.1, x150.2.2))
                          · refine ev_aload_n dX12_spreads_123 rfl ?_
                            refine ev_eq (Option.bind_assoc _ _ _) ?_
                            refine ev_getR fk_X12_45 (by decide) dX12_spreads_124 kp0 (fun q172 k172 r172 => ?_)
                            refine ev_iload dX12_spreads_127 rfl ?_
                            refine ev_eq (Option.bind_assoc _ _ _) ?_
                            refine ev_iald dX12_spreads_129 k172 (fun v173 h173 => ?_)
                            refine ev_iload dX12_spreads_130 rfl ?_
                            refine ev_eq (Option.bind_assoc _ _ _) ?_
                            refine ev_callP (am_callS (as := [.int v143]) (st := [.int v173]) ct_X12_268 dX12_spreads_132 rfl (am_le rfl) (am_fit (by omega) (by decide) (by decide) (by decide)) (t_X12_costOf hl )) (fun v174 h174 => ?_)
                            refine ev_iadd dX12_spreads_135 ?_
                            refine ev_aload_n dX12_spreads_136 rfl ?_
                            refine ev_eq (Option.bind_assoc _ _ _) ?_
                            refine ev_getR fk_X12_45 (by decide) dX12_spreads_137 kp0 (fun q175 k175 r175 => ?_)
                            refine ev_iload dX12_spreads_140 rfl ?_
                            refine ev_eq (Option.bind_assoc _ _ _) ?_
                            refine ev_iald dX12_spreads_142 k175 (fun v176 h176 => ?_)
                            refine ev_eq am_ib ?_
                            refine ev_icmp_lt (tgt := 149) dX12_spreads_143 (by decide) (fun c177 => ?_) (fun c177 => ?_)
                            · refine ev_aload_n dX12_spreads_149 rfl ?_
                              refine ev_eq (Option.bind_assoc _ _ _) ?_
                              refine ev_getR fk_X12_45 (by decide) dX12_spreads_150 kp0 (fun q178 k178 r178 => ?_)
                              refine ev_iload dX12_spreads_153 rfl ?_
                              refine ev_aload_n dX12_spreads_155 rfl ?_
                              refine ev_eq (Option.bind_assoc _ _ _) ?_
                              refine ev_getR fk_X12_45 (by decide) dX12_spreads_156 kp0 (fun q179 k179 r179 => ?_)
                              refine ev_iload dX12_spreads_159 rfl ?_
                              refine ev_eq (Option.bind_assoc _ _ _) ?_
                              refine ev_iald dX12_spreads_161 k179 (fun v180 h180 => ?_)
                              refine ev_iload dX12_spreads_162 rfl ?_
                              refine ev_eq (Option.bind_assoc _ _ _) ?_
                              refine ev_callP (am_callS (as := [.int v143]) (st := [.int v180, .int x150.2.1, .ref q178]) ct_X12_268 dX12_spreads_164 rfl (am_le rfl) (am_fit (by omega) (by decide) (by decide) (by decide)) (t_X12_costOf hl )) (fun v181 h181 => ?_)
                              refine ev_iadd dX12_spreads_167 ?_
                              refine ev_eq (Option.bind_assoc _ _ _) ?_
                              refine ev_iast dX12_spreads_168 k178 (fun σ182 h182 => ?_)
                              refine ev_iconst (v := 1) dX12_spreads_169 (by decide) ?_
                              refine ev_istore dX12_spreads_170 (am_lt rfl) ?_
                              exact ev_leaf (am_wk (am_wf (am_wk (am_wk (am_wk (am_wk (am_wk (am_wk am_wn)))))))) (hJ171 ((1 : Int32), σ182))
                            · refine ev_goto (tgt := 172) dX12_spreads_146 (by decide) ?_
                              exact ev_leaf (am_wk (am_wf (am_wk (am_wk (am_wk (am_wk (am_wk (am_wk am_wn)))))))) (hJ171 (x150.1, x150.2.2))
                        · refine ev_iinc (v := (x150.2.1 + 1)) dX12_spreads_172 (am_lt rfl) rfl rfl ?_
                          refine ev_goto (tgt := 98) dX12_spreads_175 (by decide) ?_
                          exact ev_leaf (am_wk (am_wf (am_wk (am_wk (am_wk (am_wk (am_wk (am_wk am_wn)))))))) (hB150 (t171.1, (x150.2.1 + 1), t171.2))
                    · exact ev_leaf (am_wk (am_wf (am_wk (am_wk (am_wk (am_wk (am_wf (am_wf am_wn)))))))) (hJ146 (t150.1, t150.2))
                  · refine ev_goto (tgt := 178) dX12_spreads_92 (by decide) ?_
                    exact ev_leaf (am_wk (am_wf (am_wk (am_wk (am_wk (am_wk (am_wf (am_wf am_wn)))))))) (hJ146 (x98.1, x98.2.2))
            · refine ev_iinc (v := (x98.2.1 + 1)) dX12_spreads_178 (am_lt rfl) rfl rfl ?_
              refine ev_goto (tgt := 47) dX12_spreads_181 (by decide) ?_
              exact ev_leaf (am_wk (am_wf (am_wk (am_wk (am_wk (am_wk (am_wf (am_wf am_wn)))))))) (hB98 (t146.1, (x98.2.1 + 1), t146.2))
        · refine ev_goto (tgt := 36) dX12_spreads_184 (by decide) ?_
          exact ev_leaf (am_wk (am_wf (am_wk (am_wk (am_wk (am_wf (am_wf (am_wf am_wn)))))))) (hB10 (t98.1, t98.2))
    · exact ev_vret dX12_spreads_187 rfl (by decide) (by decide) rfl
def f_X12_relay (S : am_S) (p0 : Nat) (p1 : Int32) (p2 : Int32) (p3 : Int32) : Option (Int32 × (Nat → Nat → Int32)) :=
  ((f_X12_noHouse ((am_u2 S.1 p0 0 0), S.2) p0 p1).bind (fun v1 => ((if v1 = 0 then ((f_X12_noWant ((am_u2 S.1 p0 0 0), S.2) p0 p2).bind (fun v3 => (if v3 = 0 then ((f_X12_noHouse ((am_u2 S.1 p0 0 0), S.2) p0 p3).bind (fun v5 => (if v5 = 0 then some (0 : Int32) else some (1 : Int32)))) else some (1 : Int32)))) else some (1 : Int32)).bind (fun t2 => ((f_X12_throwsIf ((am_u2 S.1 p0 0 0), S.2) p0 t2 1).bind (fun y7 => (if y7.1 = 0 then ((f_X12_wordOf (y7.2, S.2) p0 p1 p2).bind (fun v9 => ((if v9 = 0 then some (1 : Int32) else some (0 : Int32)).bind (fun t10 => ((f_X12_throwsIf (y7.2, S.2) p0 t10 2).bind (fun y11 => (if y11.1 = 0 then ((f_X12_spreads (y11.2, S.2) p0 p1 p2 255).bind (fun σ13 => ((am_rd S.2 p0 19 1).bind (fun q14 => ((am_ld σ13 q14 p3).bind (fun v15 => (if v15 = 1000000 then some ((-1), σ13) else ((am_rd S.2 p0 19 1).bind (fun q17 => ((am_ld σ13 q17 p3).bind (fun v18 => some (v18, σ13)))))))))))) else some (0, y11.2)))))))) else some (0, y7.2))))))))
set_option maxRecDepth 20000 in
theorem t_X12_relay {E : am_E} {l : Launch} (hl : l.stackTraces = false) {S : am_S} {p0 : Nat} {p1 : Int32} {p2 : Int32} {p3 : Int32} (kp0 : am_kd p0 = 112) : am_M E l yX12_relay (.code yX12_relay cX12_relay 4 (some .int)) 5 0 0 [.ref p0, .int p1, .int p2, .int p3] S ((f_X12_relay S p0 p1 p2 p3).map (fun (x : Int32 × (Nat → Nat → Int32)) => ((.inl (some (.int x.1)), (x.2, S.2)) : am_R))) := by
  refine am_M_of (w := fun (x : Int32 × (Nat → Nat → Int32)) => ((.inl (some (.int x.1)), (x.2, S.2)) : am_R)) hl (by decide) (am_fc rfl (am_fc rfl (am_fc rfl (am_fc rfl am_fn)))) (Nat.le_of_ble_eq_true rfl) ?_
  show am_Ev E l (RX12, cX12_relay, 4, (some .int), [], am_rm 5 0 0) (fun b a s x => am_Z E 0 0 b a s ((fun (x : Int32 × (Nat → Nat → Int32)) => ((.inl (some (.int x.1)), (x.2, S.2)) : am_R)) x)) 0 0 0 [some (.ref p0), some (.int p1), some (.int p2), some (.int p3)] [] S (f_X12_relay S p0 p1 p2 p3)
  unfold f_X12_relay
  refine ev_aload_n dX12_relay_0 rfl ?_
  refine ev_iconst (v := 0) dX12_relay_1 (by decide) ?_
  refine ev_putI fk_X12_3 tyX12 tyX12_ok nmX12 rfl (by decide +kernel) (by decide) dX12_relay_2 kp0 ?_
  refine ev_aload_n dX12_relay_5 rfl ?_
  refine ev_aload_n dX12_relay_6 rfl ?_
  refine ev_iload_n dX12_relay_7 rfl ?_
  refine ev_callP (am_callV (as := [.int p1]) (o := p0) (st := [.ref p0]) cv_X12_257 dX12_relay_8 kp0 rfl (am_le rfl) (am_fit (by omega) (by decide) (by decide) (by decide)) (t_X12_noHouse hl kp0)) (fun v1 h1 => ?_)
  refine ev_reg (cs' := 0) (sl' := 0) 35 (fun t2 : Int32 => [some (.ref p0), some (.int p1), some (.int p2), some (.int p3)]) (fun t2 => [.int t2, .ref p0]) (fun t2 => ((am_u2 S.1 p0 0 0), S.2)) (fun hJ2 => ?_) (fun t2 => ?_)
  · refine ev_eq am_ib ?_
    refine ev_if_ne (tgt := 30) dX12_relay_11 (by decide) (fun c2 => ?_) (fun c2 => ?_)
    · refine ev_iconst (v := 1) dX12_relay_30 (by decide) ?_
      refine ev_goto (tgt := 35) dX12_relay_31 (by decide) ?_
      exact ev_leaf (am_wk (am_wk (am_wk (am_wk am_wn)))) (hJ2 (1 : Int32))
    · refine ev_aload_n dX12_relay_14 rfl ?_
      refine ev_iload_n dX12_relay_15 rfl ?_
      refine ev_eq (Option.bind_assoc _ _ _) ?_
      refine ev_callP (am_callV (as := [.int p2]) (o := p0) (st := [.ref p0]) cv_X12_263 dX12_relay_16 kp0 rfl (am_le rfl) (am_fit (by omega) (by decide) (by decide) (by decide)) (t_X12_noWant hl kp0)) (fun v3 h3 => ?_)
      refine ev_eq am_ib ?_
      refine ev_if_ne (tgt := 30) dX12_relay_19 (by decide) (fun c4 => ?_) (fun c4 => ?_)
      · refine ev_iconst (v := 1) dX12_relay_30 (by decide) ?_
        refine ev_goto (tgt := 35) dX12_relay_31 (by decide) ?_
        exact ev_leaf (am_wk (am_wk (am_wk (am_wk am_wn)))) (hJ2 (1 : Int32))
      · refine ev_aload_n dX12_relay_22 rfl ?_
        refine ev_iload_n dX12_relay_23 rfl ?_
        refine ev_eq (Option.bind_assoc _ _ _) ?_
        refine ev_callP (am_callV (as := [.int p3]) (o := p0) (st := [.ref p0]) cv_X12_257 dX12_relay_24 kp0 rfl (am_le rfl) (am_fit (by omega) (by decide) (by decide) (by decide)) (t_X12_noHouse hl kp0)) (fun v5 h5 => ?_)
        refine ev_eq am_ib ?_
        refine ev_if_eq (tgt := 34) dX12_relay_27 (by decide) (fun c6 => ?_) (fun c6 => ?_)
        · refine ev_iconst (v := 0) dX12_relay_34 (by decide) ?_
          exact ev_leaf (am_wk (am_wk (am_wk (am_wk am_wn)))) (hJ2 (0 : Int32))
        · refine ev_iconst (v := 1) dX12_relay_30 (by decide) ?_
          refine ev_goto (tgt := 35) dX12_relay_31 (by decide) ?_
          exact ev_leaf (am_wk (am_wk (am_wk (am_wk am_wn)))) (hJ2 (1 : Int32))
  · refine ev_iconst (v := 1) dX12_relay_35 (by decide) ?_
    refine ev_callWI (am_callV (as := [.int t2, .int 1]) (o := p0) (st := []) cv_X12_242 dX12_relay_36 kp0 rfl (am_le rfl) (am_fit (by omega) (by decide) (by decide) (by decide)) (t_X12_throwsIf hl kp0)) (fun y7 h7 => ?_)
    refine ev_if_ne (tgt := 64) dX12_relay_39 (by decide) (fun c8 => ?_) (fun c8 => ?_)
    · refine ev_iconst (v := 0) dX12_relay_64 (by decide) ?_
      exact ev_iret dX12_relay_65 rfl rfl (by decide) (by decide) rfl
    · refine ev_aload_n dX12_relay_42 rfl ?_
      refine ev_aload_n dX12_relay_43 rfl ?_
      refine ev_iload_n dX12_relay_44 rfl ?_
      refine ev_iload_n dX12_relay_45 rfl ?_
      refine ev_callP (am_callV (as := [.int p1, .int p2]) (o := p0) (st := [.ref p0]) cv_X12_254 dX12_relay_46 kp0 rfl (am_le rfl) (am_fit (by omega) (by decide) (by decide) (by decide)) (t_X12_wordOf hl kp0)) (fun v9 h9 => ?_)
      refine ev_reg (cs' := 0) (sl' := 0) 57 (fun t10 : Int32 => [some (.ref p0), some (.int p1), some (.int p2), some (.int p3)]) (fun t10 => [.int t10, .ref p0]) (fun t10 => (y7.2, S.2)) (fun hJ10 => ?_) (fun t10 => ?_)
      · refine ev_eq am_ib ?_
        refine ev_if_ne (tgt := 56) dX12_relay_49 (by decide) (fun c10 => ?_) (fun c10 => ?_)
        · refine ev_iconst (v := 0) dX12_relay_56 (by decide) ?_
          exact ev_leaf (am_wk (am_wk (am_wk (am_wk am_wn)))) (hJ10 (0 : Int32))
        · refine ev_iconst (v := 1) dX12_relay_52 (by decide) ?_
          refine ev_goto (tgt := 57) dX12_relay_53 (by decide) ?_
          exact ev_leaf (am_wk (am_wk (am_wk (am_wk am_wn)))) (hJ10 (1 : Int32))
      · refine ev_iconst (v := 2) dX12_relay_57 (by decide) ?_
        refine ev_callWI (am_callV (as := [.int t10, .int 2]) (o := p0) (st := []) cv_X12_242 dX12_relay_58 kp0 rfl (am_le rfl) (am_fit (by omega) (by decide) (by decide) (by decide)) (t_X12_throwsIf hl kp0)) (fun y11 h11 => ?_)
        refine ev_if_eq (tgt := 66) dX12_relay_61 (by decide) (fun c12 => ?_) (fun c12 => ?_)
        · refine ev_aload_n dX12_relay_66 rfl ?_
          refine ev_iload_n dX12_relay_67 rfl ?_
          refine ev_iload_n dX12_relay_68 rfl ?_
          refine ev_sipush (v := 255) dX12_relay_69 (by decide) ?_
          refine ev_callWV (am_callV (as := [.int p1, .int p2, .int 255]) (o := p0) (st := []) cv_X12_329 dX12_relay_72 kp0 rfl (am_le rfl) (am_fit (by omega) (by decide) (by decide) (by decide)) (t_X12_spreads hl kp0)) (fun σ13 h13 => ?_)
          refine ev_aload_n dX12_relay_75 rfl ?_
          refine ev_getR fk_X12_45 (by decide) dX12_relay_76 kp0 (fun q14 k14 r14 => ?_)
          refine ev_iload_n dX12_relay_79 rfl ?_
          refine ev_iald dX12_relay_80 k14 (fun v15 h15 => ?_)
          refine ev_ldcwI (v := 1000000) dX12_relay_81 (am_G_t (i := 1836) (by decide +kernel) rfl) ?_
          refine ev_icmp_ne (tgt := 91) dX12_relay_84 (by decide) (fun c16 => ?_) (fun c16 => ?_)
          · refine ev_aload_n dX12_relay_91 rfl ?_
            refine ev_getR fk_X12_45 (by decide) dX12_relay_92 kp0 (fun q17 k17 r17 => ?_)
            refine ev_iload_n dX12_relay_95 rfl ?_
            refine ev_iald dX12_relay_96 k17 (fun v18 h18 => ?_)
            exact ev_iret dX12_relay_97 rfl rfl (by decide) (by decide) rfl
          · refine ev_iconst (v := (-1)) dX12_relay_87 (by decide) ?_
            refine ev_goto (tgt := 97) dX12_relay_88 (by decide) ?_
            exact ev_iret dX12_relay_97 rfl rfl (by decide) (by decide) rfl
        · refine ev_iconst (v := 0) dX12_relay_64 (by decide) ?_
          exact ev_iret dX12_relay_65 rfl rfl (by decide) (by decide) rfl
def f_X12_ringers_b116 (S : am_S) (a0 : Nat) (a1 : Int32) (a2 : Int32) (a3 : Int32) (a4 : Int32) (x18 : Int32 × Int32) : Option ((Int32 × Int32) ⊕ (Int32)) :=
  ((f_X12_houses S a0).bind (fun v19 => (if x18.2 < v19 then ((if x18.1 = 0 then some (0 : Int32) else ((f_X12_of S a0 x18.2 4).bind (fun v22 => (if v22 = 1 then some (1 : Int32) else ((am_rd S.2 a0 19 1).bind (fun q24 => ((am_ld S.1 q24 x18.2).bind (fun v25 => (if v25 < 1000000 then some (1 : Int32) else some (0 : Int32)))))))))).bind (fun t21 => some (.inl (t21, (x18.2 + 1))))) else some (.inr x18.1))))
def f_X12_ringers_b63 (S : am_S) (a0 : Nat) (a1 : Int32) (a2 : Int32) (x11 : Int32 × Int32 × (Nat → Nat → Int32)) : Option ((Int32 × Int32 × (Nat → Nat → Int32)) ⊕ (Int32 × (Nat → Nat → Int32))) :=
  ((f_X12_houses (x11.2.2, S.2) a0).bind (fun v12 => (if x11.2.1 < ((1 : Int32) <<< (v12 &&& 31)) then ((f_X12_has x11.2.1 a1).bind (fun v14 => ((if v14 = 0 then some (x11.1, x11.2.2) else (if x11.1 < 0 then ((f_X12_spreads (x11.2.2, S.2) a0 a1 a2 x11.2.1).bind (fun σ17 => ((am_loop (f_X12_ringers_b116 (σ17, S.2) a0 a1 a2 x11.1 x11.2.1) am_fuel (1, 0)).bind (fun t18 => (if t18 = 0 then some (x11.1, σ17) else some (x11.2.1, σ17)))))) else ((f_J6_bitCount_0f7a4 x11.2.1).bind (fun v36 => ((f_J6_bitCount_0f7a4 x11.1).bind (fun v37 => (if v36 < v37 then ((f_X12_spreads (x11.2.2, S.2) a0 a1 a2 x11.2.1).bind (fun σ39 => ((am_loop (f_X12_ringers_b116 (σ39, S.2) a0 a1 a2 x11.1 x11.2.1) am_fuel (1, 0)).bind (fun t40 => (if t40 = 0 then some (x11.1, σ39) else some (x11.2.1, σ39)))))) else some (x11.1, x11.2.2)))))))).bind (fun t15 => some (.inl (t15.1, (x11.2.1 + 1), t15.2)))))) else some (.inr (x11.1, x11.2.2)))))
def f_X12_ringers (S : am_S) (p0 : Nat) (p1 : Int32) (p2 : Int32) : Option (Int32 × (Nat → Nat → Int32)) :=
  ((f_X12_noHouse ((am_u2 S.1 p0 0 0), S.2) p0 p1).bind (fun v1 => ((if v1 = 0 then ((f_X12_noWant ((am_u2 S.1 p0 0 0), S.2) p0 p2).bind (fun v3 => (if v3 = 0 then some (0 : Int32) else some (1 : Int32)))) else some (1 : Int32)).bind (fun t2 => ((f_X12_throwsIf ((am_u2 S.1 p0 0 0), S.2) p0 t2 1).bind (fun y5 => (if y5.1 = 0 then ((f_X12_wordOf (y5.2, S.2) p0 p1 p2).bind (fun v7 => ((if v7 = 0 then some (1 : Int32) else some (0 : Int32)).bind (fun t8 => ((f_X12_throwsIf (y5.2, S.2) p0 t8 2).bind (fun y9 => (if y9.1 = 0 then ((am_loop (f_X12_ringers_b63 (y9.2, S.2) p0 p1 p2) am_fuel ((-1), 0, y9.2)).bind (fun t11 => some (t11.1, t11.2))) else some (0, y9.2)))))))) else some (0, y5.2))))))))
set_option maxRecDepth 20000 in
theorem t_X12_ringers {E : am_E} {l : Launch} (hl : l.stackTraces = false) {S : am_S} {p0 : Nat} {p1 : Int32} {p2 : Int32} (kp0 : am_kd p0 = 112) : am_M E l yX12_ringers (.code yX12_ringers cX12_ringers 7 (some .int)) 5 0 0 [.ref p0, .int p1, .int p2] S ((f_X12_ringers S p0 p1 p2).map (fun (x : Int32 × (Nat → Nat → Int32)) => ((.inl (some (.int x.1)), (x.2, S.2)) : am_R))) := by
  refine am_M_of (w := fun (x : Int32 × (Nat → Nat → Int32)) => ((.inl (some (.int x.1)), (x.2, S.2)) : am_R)) hl (by decide) (am_fc rfl (am_fc rfl (am_fc rfl am_fn))) (Nat.le_of_ble_eq_true rfl) ?_
  show am_Ev E l (RX12, cX12_ringers, 7, (some .int), [], am_rm 5 0 0) (fun b a s x => am_Z E 0 0 b a s ((fun (x : Int32 × (Nat → Nat → Int32)) => ((.inl (some (.int x.1)), (x.2, S.2)) : am_R)) x)) 0 0 0 [some (.ref p0), some (.int p1), some (.int p2), none, none, none, none] [] S (f_X12_ringers S p0 p1 p2)
  unfold f_X12_ringers
  refine ev_aload_n dX12_ringers_0 rfl ?_
  refine ev_iconst (v := 0) dX12_ringers_1 (by decide) ?_
  refine ev_putI fk_X12_3 tyX12 tyX12_ok nmX12 rfl (by decide +kernel) (by decide) dX12_ringers_2 kp0 ?_
  refine ev_aload_n dX12_ringers_5 rfl ?_
  refine ev_aload_n dX12_ringers_6 rfl ?_
  refine ev_iload_n dX12_ringers_7 rfl ?_
  refine ev_callP (am_callV (as := [.int p1]) (o := p0) (st := [.ref p0]) cv_X12_257 dX12_ringers_8 kp0 rfl (am_le rfl) (am_fit (by omega) (by decide) (by decide) (by decide)) (t_X12_noHouse hl kp0)) (fun v1 h1 => ?_)
  refine ev_reg (cs' := 0) (sl' := 0) 27 (fun t2 : Int32 => [some (.ref p0), some (.int p1), some (.int p2), none, none, none, none]) (fun t2 => [.int t2, .ref p0]) (fun t2 => ((am_u2 S.1 p0 0 0), S.2)) (fun hJ2 => ?_) (fun t2 => ?_)
  · refine ev_eq am_ib ?_
    refine ev_if_ne (tgt := 22) dX12_ringers_11 (by decide) (fun c2 => ?_) (fun c2 => ?_)
    · refine ev_iconst (v := 1) dX12_ringers_22 (by decide) ?_
      refine ev_goto (tgt := 27) dX12_ringers_23 (by decide) ?_
      exact ev_leaf (am_wk (am_wk (am_wk (am_wf (am_wf (am_wf (am_wf am_wn))))))) (hJ2 (1 : Int32))
    · refine ev_aload_n dX12_ringers_14 rfl ?_
      refine ev_iload_n dX12_ringers_15 rfl ?_
      refine ev_eq (Option.bind_assoc _ _ _) ?_
      refine ev_callP (am_callV (as := [.int p2]) (o := p0) (st := [.ref p0]) cv_X12_263 dX12_ringers_16 kp0 rfl (am_le rfl) (am_fit (by omega) (by decide) (by decide) (by decide)) (t_X12_noWant hl kp0)) (fun v3 h3 => ?_)
      refine ev_eq am_ib ?_
      refine ev_if_eq (tgt := 26) dX12_ringers_19 (by decide) (fun c4 => ?_) (fun c4 => ?_)
      · refine ev_iconst (v := 0) dX12_ringers_26 (by decide) ?_
        exact ev_leaf (am_wk (am_wk (am_wk (am_wf (am_wf (am_wf (am_wf am_wn))))))) (hJ2 (0 : Int32))
      · refine ev_iconst (v := 1) dX12_ringers_22 (by decide) ?_
        refine ev_goto (tgt := 27) dX12_ringers_23 (by decide) ?_
        exact ev_leaf (am_wk (am_wk (am_wk (am_wf (am_wf (am_wf (am_wf am_wn))))))) (hJ2 (1 : Int32))
  · refine ev_iconst (v := 1) dX12_ringers_27 (by decide) ?_
    refine ev_callWI (am_callV (as := [.int t2, .int 1]) (o := p0) (st := []) cv_X12_242 dX12_ringers_28 kp0 rfl (am_le rfl) (am_fit (by omega) (by decide) (by decide) (by decide)) (t_X12_throwsIf hl kp0)) (fun y5 h5 => ?_)
    refine ev_if_ne (tgt := 56) dX12_ringers_31 (by decide) (fun c6 => ?_) (fun c6 => ?_)
    · refine ev_iconst (v := 0) dX12_ringers_56 (by decide) ?_
      exact ev_iret dX12_ringers_57 rfl rfl (by decide) (by decide) rfl
    · refine ev_aload_n dX12_ringers_34 rfl ?_
      refine ev_aload_n dX12_ringers_35 rfl ?_
      refine ev_iload_n dX12_ringers_36 rfl ?_
      refine ev_iload_n dX12_ringers_37 rfl ?_
      refine ev_callP (am_callV (as := [.int p1, .int p2]) (o := p0) (st := [.ref p0]) cv_X12_254 dX12_ringers_38 kp0 rfl (am_le rfl) (am_fit (by omega) (by decide) (by decide) (by decide)) (t_X12_wordOf hl kp0)) (fun v7 h7 => ?_)
      refine ev_reg (cs' := 0) (sl' := 0) 49 (fun t8 : Int32 => [some (.ref p0), some (.int p1), some (.int p2), none, none, none, none]) (fun t8 => [.int t8, .ref p0]) (fun t8 => (y5.2, S.2)) (fun hJ8 => ?_) (fun t8 => ?_)
      · refine ev_eq am_ib ?_
        refine ev_if_ne (tgt := 48) dX12_ringers_41 (by decide) (fun c8 => ?_) (fun c8 => ?_)
        · refine ev_iconst (v := 0) dX12_ringers_48 (by decide) ?_
          exact ev_leaf (am_wk (am_wk (am_wk (am_wf (am_wf (am_wf (am_wf am_wn))))))) (hJ8 (0 : Int32))
        · refine ev_iconst (v := 1) dX12_ringers_44 (by decide) ?_
          refine ev_goto (tgt := 49) dX12_ringers_45 (by decide) ?_
          exact ev_leaf (am_wk (am_wk (am_wk (am_wf (am_wf (am_wf (am_wf am_wn))))))) (hJ8 (1 : Int32))
      · refine ev_iconst (v := 2) dX12_ringers_49 (by decide) ?_
        refine ev_callWI (am_callV (as := [.int t8, .int 2]) (o := p0) (st := []) cv_X12_242 dX12_ringers_50 kp0 rfl (am_le rfl) (am_fit (by omega) (by decide) (by decide) (by decide)) (t_X12_throwsIf hl kp0)) (fun y9 h9 => ?_)
        refine ev_if_eq (tgt := 58) dX12_ringers_53 (by decide) (fun c10 => ?_) (fun c10 => ?_)
        · refine ev_iconst (v := (-1)) dX12_ringers_58 (by decide) ?_
          refine ev_istore_n dX12_ringers_59 (am_lt rfl) ?_
          refine ev_iconst (v := 0) dX12_ringers_60 (by decide) ?_
          refine ev_istore dX12_ringers_61 (am_lt rfl) ?_
          refine ev_weak (am_wk (am_wk (am_wk (am_wk (am_wk (am_wf (am_wf am_wn))))))) (ev_loop 63 181 (fun x11 : Int32 × Int32 × (Nat → Nat → Int32) => [some (.ref p0), some (.int p1), some (.int p2), some (.int x11.1), some (.int x11.2.1), none, none]) (fun t11 : Int32 × (Nat → Nat → Int32) => [none, none, none, some (.int t11.1), none, none, none]) (fun x11 => (x11.2.2, S.2)) (fun t11 => (t11.2, S.2)) (fun x11 G11 hB11 hE11 => ?_) (fun t11 => ?_) am_fuel ((-1), 0, y9.2))
          · unfold f_X12_ringers_b63
            refine ev_iload dX12_ringers_63 rfl ?_
            refine ev_iconst (v := 1) dX12_ringers_65 (by decide) ?_
            refine ev_aload_n dX12_ringers_66 rfl ?_
            refine ev_eq (Option.bind_assoc _ _ _) ?_
            refine ev_callP (am_callV (as := []) (o := p0) (st := [.int 1, .int x11.2.1]) cv_X12_74 dX12_ringers_67 kp0 rfl (am_le rfl) (am_fit (by omega) (by decide) (by decide) (by decide)) (t_X12_houses hl kp0)) (fun v58 h58 => ?_)
            refine ev_ishl dX12_ringers_70 ?_
            refine ev_eq am_ib ?_
            refine ev_icmp_ge (tgt := 181) dX12_ringers_71 (by decide) (fun c59 => ?_) (fun c59 => ?_)
            · exact ev_leaf (am_wf (am_wf (am_wf (am_wk (am_wf (am_wf (am_wf am_wn))))))) (hE11 (x11.1, x11.2.2))
            · refine ev_iload dX12_ringers_74 rfl ?_
              refine ev_iload_n dX12_ringers_76 rfl ?_
              refine ev_eq (Option.bind_assoc _ _ _) ?_
              refine ev_callP (am_callS (as := [.int x11.2.1, .int p1]) (st := []) ct_X12_319 dX12_ringers_77 rfl (am_le rfl) (am_fit (by omega) (by decide) (by decide) (by decide)) (t_X12_has hl )) (fun v60 h60 => ?_)
              refine ev_eq (Option.bind_assoc _ _ _) ?_
              refine ev_reg (cs' := 0) (sl' := 0) 175 (fun t61 : Int32 × (Nat → Nat → Int32) => [some (.ref p0), some (.int p1), some (.int p2), some (.int t61.1), some (.int x11.2.1), none, none]) (fun t61 => []) (fun t61 => (t61.2, S.2)) (fun hJ61 => ?_) (fun t61 => ?_)
              · refine ev_eq am_ib ?_
                refine ev_if_eq (tgt := 175) dX12_ringers_80 (by decide) (fun c61 => ?_) (fun c61 => ?_)
                · exact ev_leaf (am_wk (am_wk (am_wk (am_wk (am_wk (am_wf (am_wf am_wn))))))) (hJ61 (x11.1, x11.2.2))
                · refine ev_iload_n dX12_ringers_83 rfl ?_
                  refine ev_eq am_ib ?_
                  refine ev_if_lt (tgt := 102) dX12_ringers_84 (by decide) (fun c62 => ?_) (fun c62 => ?_)
                  · refine ev_aload_n dX12_ringers_102 rfl ?_
                    refine ev_iload_n dX12_ringers_103 rfl ?_
                    refine ev_iload_n dX12_ringers_104 rfl ?_
                    refine ev_iload dX12_ringers_105 rfl ?_
                    refine ev_eq (Option.bind_assoc _ _ _) ?_
                    refine ev_callWV (am_callV (as := [.int p1, .int p2, .int x11.2.1]) (o := p0) (st := []) cv_X12_329 dX12_ringers_107 kp0 rfl (am_le rfl) (am_fit (by omega) (by decide) (by decide) (by decide)) (t_X12_spreads hl kp0)) (fun σ63 h63 => ?_)
                    refine ev_iconst (v := 1) dX12_ringers_110 (by decide) ?_
                    refine ev_istore dX12_ringers_111 (am_lt rfl) ?_
                    refine ev_iconst (v := 0) dX12_ringers_113 (by decide) ?_
                    refine ev_istore dX12_ringers_114 (am_lt rfl) ?_
                    refine ev_eq (Option.bind_assoc _ _ _) ?_
                    refine ev_weak (am_wk (am_wk (am_wk (am_wk (am_wk (am_wk (am_wk am_wn))))))) (ev_loop 116 167 (fun x64 : Int32 × Int32 => [some (.ref p0), some (.int p1), some (.int p2), some (.int x11.1), some (.int x11.2.1), some (.int x64.1), some (.int x64.2)]) (fun t64 : Int32 => [some (.ref p0), some (.int p1), some (.int p2), some (.int x11.1), some (.int x11.2.1), some (.int t64), none]) (fun x64 => (σ63, S.2)) (fun t64 => (σ63, S.2)) (fun x64 G64 hB64 hE64 => ?_) (fun t64 => ?_) am_fuel (1, 0))
                    · unfold f_X12_ringers_b116
                      refine ev_iload dX12_ringers_116 rfl ?_
                      refine ev_aload_n dX12_ringers_118 rfl ?_
                      refine ev_eq (Option.bind_assoc _ _ _) ?_
                      refine ev_callP (am_callV (as := []) (o := p0) (st := [.int x64.2]) cv_X12_74 dX12_ringers_119 kp0 rfl (am_le rfl) (am_fit (by omega) (by decide) (by decide) (by decide)) (t_X12_houses hl kp0)) (fun v73 h73 => ?_)
                      refine ev_eq am_ib ?_
                      refine ev_icmp_ge (tgt := 167) dX12_ringers_122 (by decide) (fun c74 => ?_) (fun c74 => ?_)
                      · exact ev_leaf (am_wk (am_wk (am_wk (am_wk (am_wk (am_wk (am_wf am_wn))))))) (hE64 x64.1)
                      · refine ev_iload dX12_ringers_125 rfl ?_
                        refine ev_eq (Option.bind_assoc _ _ _) ?_
                        refine ev_reg (cs' := 0) (sl' := 0) 159 (fun t75 : Int32 => [some (.ref p0), some (.int p1), some (.int p2), some (.int x11.1), some (.int x11.2.1), none, some (.int x64.2)]) (fun t75 => [.int t75]) (fun t75 => (σ63, S.2)) (fun hJ75 => ?_) (fun t75 => ?_)
                        · refine ev_eq am_ib ?_
                          refine ev_if_eq (tgt := 158) dX12_ringers_127 (by decide) (fun c75 => ?_) (fun c75 => ?_)
                          · refine ev_iconst (v := 0) dX12_ringers_158 (by decide) ?_
                            exact ev_leaf (am_wk (am_wk (am_wk (am_wk (am_wk (am_wf (am_wk am_wn))))))) (hJ75 (0 : Int32))
                          · refine ev_aload_n dX12_ringers_130 rfl ?_
                            refine ev_iload dX12_ringers_131 rfl ?_
                            refine ev_iconst (v := 4) dX12_ringers_133 (by decide) ?_
                            refine ev_eq (Option.bind_assoc _ _ _) ?_
                            refine ev_callP (am_callV (as := [.int x64.2, .int 4]) (o := p0) (st := []) cv_X12_70 dX12_ringers_134 kp0 rfl (am_le rfl) (am_fit (by omega) (by decide) (by decide) (by decide)) (t_X12_of hl kp0)) (fun v76 h76 => ?_)
                            refine ev_iconst (v := 1) dX12_ringers_137 (by decide) ?_
                            refine ev_eq am_ib ?_
                            refine ev_icmp_eq (tgt := 154) dX12_ringers_138 (by decide) (fun c77 => ?_) (fun c77 => ?_)
                            · refine ev_iconst (v := 1) dX12_ringers_154 (by decide) ?_
                              refine ev_goto (tgt := 159) dX12_ringers_155 (by decide) ?_
                              exact ev_leaf (am_wk (am_wk (am_wk (am_wk (am_wk (am_wf (am_wk am_wn))))))) (hJ75 (1 : Int32))
                            · refine ev_aload_n dX12_ringers_141 rfl ?_
                              refine ev_eq (Option.bind_assoc _ _ _) ?_
                              refine ev_getR fk_X12_45 (by decide) dX12_ringers_142 kp0 (fun q78 k78 r78 => ?_)
                              refine ev_iload dX12_ringers_145 rfl ?_
                              refine ev_eq (Option.bind_assoc _ _ _) ?_
                              refine ev_iald dX12_ringers_147 k78 (fun v79 h79 => ?_)
                              refine ev_ldcwI (v := 1000000) dX12_ringers_148 (am_G_t (i := 1836) (by decide +kernel) rfl) ?_
                              refine ev_eq am_ib ?_
                              refine ev_icmp_ge (tgt := 158) dX12_ringers_151 (by decide) (fun c80 => ?_) (fun c80 => ?_)
                              · refine ev_iconst (v := 0) dX12_ringers_158 (by decide) ?_
                                exact ev_leaf (am_wk (am_wk (am_wk (am_wk (am_wk (am_wf (am_wk am_wn))))))) (hJ75 (0 : Int32))
                              · refine ev_iconst (v := 1) dX12_ringers_154 (by decide) ?_
                                refine ev_goto (tgt := 159) dX12_ringers_155 (by decide) ?_
                                exact ev_leaf (am_wk (am_wk (am_wk (am_wk (am_wk (am_wf (am_wk am_wn))))))) (hJ75 (1 : Int32))
                        · refine ev_istore dX12_ringers_159 (am_lt rfl) ?_
                          refine ev_iinc (v := (x64.2 + 1)) dX12_ringers_161 (am_lt rfl) rfl rfl ?_
                          refine ev_goto (tgt := 116) dX12_ringers_164 (by decide) ?_
                          exact ev_leaf (am_wk (am_wk (am_wk (am_wk (am_wk (am_wk (am_wk am_wn))))))) (hB64 (t75, (x64.2 + 1)))
                    · refine ev_iload dX12_ringers_167 rfl ?_
                      refine ev_eq am_ib ?_
                      refine ev_if_eq (tgt := 175) dX12_ringers_169 (by decide) (fun c81 => ?_) (fun c81 => ?_)
                      · exact ev_leaf (am_wk (am_wk (am_wk (am_wk (am_wk (am_wf (am_wf am_wn))))))) (hJ61 (x11.1, σ63))
                      · refine ev_iload dX12_ringers_172 rfl ?_
                        refine ev_istore_n dX12_ringers_174 (am_lt rfl) ?_
                        exact ev_leaf (am_wk (am_wk (am_wk (am_wk (am_wk (am_wf (am_wf am_wn))))))) (hJ61 (x11.2.1, σ63))
                  · refine ev_iload dX12_ringers_87 rfl ?_
                    refine ev_eq (Option.bind_assoc _ _ _) ?_
                    refine ev_callP (am_callS (as := [.int x11.2.1]) (st := []) ct_X12_89 dX12_ringers_89 rfl (am_le rfl) (am_fit (by omega) (by decide) (by decide) (by decide)) (t_J6_bitCount_0f7a4 hl )) (fun v82 h82 => ?_)
                    refine ev_iload_n dX12_ringers_92 rfl ?_
                    refine ev_eq (Option.bind_assoc _ _ _) ?_
                    refine ev_callP (am_callS (as := [.int x11.1]) (st := [.int v82]) ct_X12_89 dX12_ringers_93 rfl (am_le rfl) (am_fit (by omega) (by decide) (by decide) (by decide)) (t_J6_bitCount_0f7a4 hl )) (fun v83 h83 => ?_)
                    refine ev_eq am_ib ?_
                    refine ev_icmp_lt (tgt := 102) dX12_ringers_96 (by decide) (fun c84 => ?_) (fun c84 => ?_)
                    · refine ev_aload_n dX12_ringers_102 rfl ?_
                      refine ev_iload_n dX12_ringers_103 rfl ?_
                      refine ev_iload_n dX12_ringers_104 rfl ?_
                      refine ev_iload dX12_ringers_105 rfl ?_
                      refine ev_eq (Option.bind_assoc _ _ _) ?_
                      refine ev_callWV (am_callV (as := [.int p1, .int p2, .int x11.2.1]) (o := p0) (st := []) cv_X12_329 dX12_ringers_107 kp0 rfl (am_le rfl) (am_fit (by omega) (by decide) (by decide) (by decide)) (t_X12_spreads hl kp0)) (fun σ85 h85 => ?_)
                      refine ev_iconst (v := 1) dX12_ringers_110 (by decide) ?_
                      refine ev_istore dX12_ringers_111 (am_lt rfl) ?_
                      refine ev_iconst (v := 0) dX12_ringers_113 (by decide) ?_
                      refine ev_istore dX12_ringers_114 (am_lt rfl) ?_
                      refine ev_eq (Option.bind_assoc _ _ _) ?_
                      refine ev_weak (am_wk (am_wk (am_wk (am_wk (am_wk (am_wk (am_wk am_wn))))))) (ev_loop 116 167 (fun x86 : Int32 × Int32 => [some (.ref p0), some (.int p1), some (.int p2), some (.int x11.1), some (.int x11.2.1), some (.int x86.1), some (.int x86.2)]) (fun t86 : Int32 => [some (.ref p0), some (.int p1), some (.int p2), some (.int x11.1), some (.int x11.2.1), some (.int t86), none]) (fun x86 => (σ85, S.2)) (fun t86 => (σ85, S.2)) (fun x86 G86 hB86 hE86 => ?_) (fun t86 => ?_) am_fuel (1, 0))
                      · unfold f_X12_ringers_b116
                        refine ev_iload dX12_ringers_116 rfl ?_
                        refine ev_aload_n dX12_ringers_118 rfl ?_
                        refine ev_eq (Option.bind_assoc _ _ _) ?_
                        refine ev_callP (am_callV (as := []) (o := p0) (st := [.int x86.2]) cv_X12_74 dX12_ringers_119 kp0 rfl (am_le rfl) (am_fit (by omega) (by decide) (by decide) (by decide)) (t_X12_houses hl kp0)) (fun v95 h95 => ?_)
                        refine ev_eq am_ib ?_
                        refine ev_icmp_ge (tgt := 167) dX12_ringers_122 (by decide) (fun c96 => ?_) (fun c96 => ?_)
                        · exact ev_leaf (am_wk (am_wk (am_wk (am_wk (am_wk (am_wk (am_wf am_wn))))))) (hE86 x86.1)
                        · refine ev_iload dX12_ringers_125 rfl ?_
                          refine ev_eq (Option.bind_assoc _ _ _) ?_
                          refine ev_reg (cs' := 0) (sl' := 0) 159 (fun t97 : Int32 => [some (.ref p0), some (.int p1), some (.int p2), some (.int x11.1), some (.int x11.2.1), none, some (.int x86.2)]) (fun t97 => [.int t97]) (fun t97 => (σ85, S.2)) (fun hJ97 => ?_) (fun t97 => ?_)
                          · refine ev_eq am_ib ?_
                            refine ev_if_eq (tgt := 158) dX12_ringers_127 (by decide) (fun c97 => ?_) (fun c97 => ?_)
                            · refine ev_iconst (v := 0) dX12_ringers_158 (by decide) ?_
                              exact ev_leaf (am_wk (am_wk (am_wk (am_wk (am_wk (am_wf (am_wk am_wn))))))) (hJ97 (0 : Int32))
                            · refine ev_aload_n dX12_ringers_130 rfl ?_
                              refine ev_iload dX12_ringers_131 rfl ?_
                              refine ev_iconst (v := 4) dX12_ringers_133 (by decide) ?_
                              refine ev_eq (Option.bind_assoc _ _ _) ?_
                              refine ev_callP (am_callV (as := [.int x86.2, .int 4]) (o := p0) (st := []) cv_X12_70 dX12_ringers_134 kp0 rfl (am_le rfl) (am_fit (by omega) (by decide) (by decide) (by decide)) (t_X12_of hl kp0)) (fun v98 h98 => ?_)
                              refine ev_iconst (v := 1) dX12_ringers_137 (by decide) ?_
                              refine ev_eq am_ib ?_
                              refine ev_icmp_eq (tgt := 154) dX12_ringers_138 (by decide) (fun c99 => ?_) (fun c99 => ?_)
                              · refine ev_iconst (v := 1) dX12_ringers_154 (by decide) ?_
                                refine ev_goto (tgt := 159) dX12_ringers_155 (by decide) ?_
                                exact ev_leaf (am_wk (am_wk (am_wk (am_wk (am_wk (am_wf (am_wk am_wn))))))) (hJ97 (1 : Int32))
                              · refine ev_aload_n dX12_ringers_141 rfl ?_
                                refine ev_eq (Option.bind_assoc _ _ _) ?_
                                refine ev_getR fk_X12_45 (by decide) dX12_ringers_142 kp0 (fun q100 k100 r100 => ?_)
                                refine ev_iload dX12_ringers_145 rfl ?_
                                refine ev_eq (Option.bind_assoc _ _ _) ?_
                                refine ev_iald dX12_ringers_147 k100 (fun v101 h101 => ?_)
                                refine ev_ldcwI (v := 1000000) dX12_ringers_148 (am_G_t (i := 1836) (by decide +kernel) rfl) ?_
                                refine ev_eq am_ib ?_
                                refine ev_icmp_ge (tgt := 158) dX12_ringers_151 (by decide) (fun c102 => ?_) (fun c102 => ?_)
                                · refine ev_iconst (v := 0) dX12_ringers_158 (by decide) ?_
                                  exact ev_leaf (am_wk (am_wk (am_wk (am_wk (am_wk (am_wf (am_wk am_wn))))))) (hJ97 (0 : Int32))
                                · refine ev_iconst (v := 1) dX12_ringers_154 (by decide) ?_
                                  refine ev_goto (tgt := 159) dX12_ringers_155 (by decide) ?_
                                  exact ev_leaf (am_wk (am_wk (am_wk (am_wk (am_wk (am_wf (am_wk am_wn))))))) (hJ97 (1 : Int32))
                          · refine ev_istore dX12_ringers_159 (am_lt rfl) ?_
                            refine ev_iinc (v := (x86.2 + 1)) dX12_ringers_161 (am_lt rfl) rfl rfl ?_
                            refine ev_goto (tgt := 116) dX12_ringers_164 (by decide) ?_
                            exact ev_leaf (am_wk (am_wk (am_wk (am_wk (am_wk (am_wk (am_wk am_wn))))))) (hB86 (t97, (x86.2 + 1)))
                      · refine ev_iload dX12_ringers_167 rfl ?_
                        refine ev_eq am_ib ?_
                        refine ev_if_eq (tgt := 175) dX12_ringers_169 (by decide) (fun c103 => ?_) (fun c103 => ?_)
                        · exact ev_leaf (am_wk (am_wk (am_wk (am_wk (am_wk (am_wf (am_wf am_wn))))))) (hJ61 (x11.1, σ85))
                        · refine ev_iload dX12_ringers_172 rfl ?_
                          refine ev_istore_n dX12_ringers_174 (am_lt rfl) ?_
                          exact ev_leaf (am_wk (am_wk (am_wk (am_wk (am_wk (am_wf (am_wf am_wn))))))) (hJ61 (x11.2.1, σ85))
                    · refine ev_goto (tgt := 175) dX12_ringers_99 (by decide) ?_
                      exact ev_leaf (am_wk (am_wk (am_wk (am_wk (am_wk (am_wf (am_wf am_wn))))))) (hJ61 (x11.1, x11.2.2))
              · refine ev_iinc (v := (x11.2.1 + 1)) dX12_ringers_175 (am_lt rfl) rfl rfl ?_
                refine ev_goto (tgt := 63) dX12_ringers_178 (by decide) ?_
                exact ev_leaf (am_wk (am_wk (am_wk (am_wk (am_wk (am_wf (am_wf am_wn))))))) (hB11 (t61.1, (x11.2.1 + 1), t61.2))
          · refine ev_iload_n dX12_ringers_181 rfl ?_
            exact ev_iret dX12_ringers_182 rfl rfl (by decide) (by decide) rfl
        · refine ev_iconst (v := 0) dX12_ringers_56 (by decide) ?_
          exact ev_iret dX12_ringers_57 rfl rfl (by decide) (by decide) rfl
def f_X12_factOf (S : am_S) (p0 : Nat) (p1 : Int32) (p2 : Int32) (p3 : Int32) (p4 : Int32) (p5 : Int32) : Option (Int32) :=
  (if p1 = 0 then some p3 else (if p1 = 1 then ((f_X12_of S p0 p3 3).bind (fun v2 => some v2)) else (if p1 = 2 then ((f_X12_urgent S p0 p4).bind (fun v3 => some v3)) else (if p1 = 3 then ((f_X12_wordOf S p0 p3 p4).bind (fun v4 => ((f_X12_costOf v4).bind (fun v5 => some v5)))) else (if p1 = 4 then some p5 else some p2)))))
set_option maxRecDepth 20000 in
theorem t_X12_factOf {E : am_E} {l : Launch} (hl : l.stackTraces = false) {S : am_S} {p0 : Nat} {p1 : Int32} {p2 : Int32} {p3 : Int32} {p4 : Int32} {p5 : Int32} (kp0 : am_kd p0 = 112) : am_M E l yX12_factOf (.code yX12_factOf cX12_factOf 6 (some .int)) 2 0 0 [.ref p0, .int p1, .int p2, .int p3, .int p4, .int p5] S ((f_X12_factOf S p0 p1 p2 p3 p4 p5).map (fun (v : Int32) => ((.inl (some (.int v)), S) : am_R))) := by
  refine am_M_of (w := fun (v : Int32) => ((.inl (some (.int v)), S) : am_R)) hl (by decide) (am_fc rfl (am_fc rfl (am_fc rfl (am_fc rfl (am_fc rfl (am_fc rfl am_fn)))))) (Nat.le_of_ble_eq_true rfl) ?_
  show am_Ev E l (RX12, cX12_factOf, 6, (some .int), [], am_rm 2 0 0) (fun b a s x => am_Z E 0 0 b a s ((fun (v : Int32) => ((.inl (some (.int v)), S) : am_R)) x)) 0 0 0 [some (.ref p0), some (.int p1), some (.int p2), some (.int p3), some (.int p4), some (.int p5)] [] S (f_X12_factOf S p0 p1 p2 p3 p4 p5)
  unfold f_X12_factOf
  refine ev_iload_n dX12_factOf_0 rfl ?_
  refine ev_split (fun c1_0 => ?_) (fun c1_0 => ?_)
  · refine ev_swI (tgt := 36) dX12_factOf_1 (by rw [c1_0]; decide) (by rw [c1_0]; decide) (by rw [c1_0]; rfl) (by decide) ?_
    refine ev_iload_n dX12_factOf_36 rfl ?_
    exact ev_iret dX12_factOf_37 rfl rfl (by decide) (by decide) rfl
  refine ev_split (fun c1_1 => ?_) (fun c1_1 => ?_)
  · refine ev_swI (tgt := 38) dX12_factOf_1 (by rw [c1_1]; decide) (by rw [c1_1]; decide) (by rw [c1_1]; rfl) (by decide) ?_
    refine ev_aload_n dX12_factOf_38 rfl ?_
    refine ev_iload_n dX12_factOf_39 rfl ?_
    refine ev_iconst (v := 3) dX12_factOf_40 (by decide) ?_
    refine ev_callP (am_callV (as := [.int p3, .int 3]) (o := p0) (st := []) cv_X12_70 dX12_factOf_41 kp0 rfl (am_le rfl) (am_fit (by omega) (by decide) (by decide) (by decide)) (t_X12_of hl kp0)) (fun v2 h2 => ?_)
    exact ev_iret dX12_factOf_44 rfl rfl (by decide) (by decide) rfl
  refine ev_split (fun c1_2 => ?_) (fun c1_2 => ?_)
  · refine ev_swI (tgt := 45) dX12_factOf_1 (by rw [c1_2]; decide) (by rw [c1_2]; decide) (by rw [c1_2]; rfl) (by decide) ?_
    refine ev_aload_n dX12_factOf_45 rfl ?_
    refine ev_iload dX12_factOf_46 rfl ?_
    refine ev_callP (am_callV (as := [.int p4]) (o := p0) (st := []) cv_X12_266 dX12_factOf_48 kp0 rfl (am_le rfl) (am_fit (by omega) (by decide) (by decide) (by decide)) (t_X12_urgent hl kp0)) (fun v3 h3 => ?_)
    exact ev_iret dX12_factOf_51 rfl rfl (by decide) (by decide) rfl
  refine ev_split (fun c1_3 => ?_) (fun c1_3 => ?_)
  · refine ev_swI (tgt := 52) dX12_factOf_1 (by rw [c1_3]; decide) (by rw [c1_3]; decide) (by rw [c1_3]; rfl) (by decide) ?_
    refine ev_aload_n dX12_factOf_52 rfl ?_
    refine ev_iload_n dX12_factOf_53 rfl ?_
    refine ev_iload dX12_factOf_54 rfl ?_
    refine ev_callP (am_callV (as := [.int p3, .int p4]) (o := p0) (st := []) cv_X12_254 dX12_factOf_56 kp0 rfl (am_le rfl) (am_fit (by omega) (by decide) (by decide) (by decide)) (t_X12_wordOf hl kp0)) (fun v4 h4 => ?_)
    refine ev_callP (am_callS (as := [.int v4]) (st := []) ct_X12_268 dX12_factOf_59 rfl (am_le rfl) (am_fit (by omega) (by decide) (by decide) (by decide)) (t_X12_costOf hl )) (fun v5 h5 => ?_)
    exact ev_iret dX12_factOf_62 rfl rfl (by decide) (by decide) rfl
  refine ev_split (fun c1_4 => ?_) (fun c1_4 => ?_)
  · refine ev_swI (tgt := 63) dX12_factOf_1 (by rw [c1_4]; decide) (by rw [c1_4]; decide) (by rw [c1_4]; rfl) (by decide) ?_
    refine ev_iload dX12_factOf_63 rfl ?_
    exact ev_iret dX12_factOf_65 rfl rfl (by decide) (by decide) rfl
  refine ev_swO (tgt := 66) dX12_factOf_1 (by have z1_0 := am_neI c1_0 (z := 0) (by decide); have z1_1 := am_neI c1_1 (z := 1) (by decide); have z1_2 := am_neI c1_2 (z := 2) (by decide); have z1_3 := am_neI c1_3 (z := 3) (by decide); have z1_4 := am_neI c1_4 (z := 4) (by decide); omega) (by decide) ?_
  refine ev_iload_n dX12_factOf_66 rfl ?_
  exact ev_iret dX12_factOf_67 rfl rfl (by decide) (by decide) rfl
def f_X12_holdsLine_b23 (S : am_S) (a0 : Nat) (a2 : Int32) (a3 : Int32) (a4 : Int32) (a6 : Int32) (x3 : Int32 × Int32 × (Nat → Nat → Int32)) : Option ((Int32 × Int32 × (Nat → Nat → Int32)) ⊕ (Int32 × (Nat → Nat → Int32))) :=
  ((am_rd S.2 a0 1 1).bind (fun q4 => ((am_ld x3.2.2 q4 (a6 + 2)).bind (fun v5 => (if x3.2.1 < v5 then ((am_rd S.2 a0 1 1).bind (fun q7 => ((am_ld x3.2.2 q7 (223 + (2 * x3.2.1))).bind (fun v8 => ((if 5 < v8 then (if v8 = 9 then ((am_rd S.2 a0 20 1).bind (fun q26 => ((am_rd S.2 a0 20 1).bind (fun q27 => ((am_ld x3.2.2 q27 (x3.1 - 1)).bind (fun v28 => ((am_st x3.2.2 q26 (x3.1 - 1) (1 - v28)).bind (fun σ29 => some (x3.1, σ29))))))))) else ((am_rd S.2 a0 20 1).bind (fun q11 => ((am_ld x3.2.2 q11 ((x3.1 + (-1)) - 1)).bind (fun v12 => ((am_rd S.2 a0 20 1).bind (fun q13 => ((am_ld x3.2.2 q13 (x3.1 + (-1))).bind (fun v14 => ((if v8 = 7 then (if v12 < v14 then some (1 : Int32) else some (0 : Int32)) else (if v8 = 8 then (if v14 < v12 then some (1 : Int32) else some (0 : Int32)) else (if v8 = 10 then (if (v12 + v14) = 2 then some (1 : Int32) else some (0 : Int32)) else (if 0 < (v12 + v14) then some (1 : Int32) else some (0 : Int32))))).bind (fun t15 => ((am_rd S.2 a0 20 1).bind (fun q22 => ((if v8 = 6 then some (v12 + v14) else (if t15 = 0 then some (0 : Int32) else some (1 : Int32))).bind (fun t23 => ((am_st x3.2.2 q22 ((x3.1 + (-1)) - 1) t23).bind (fun σ25 => some ((x3.1 + (-1)), σ25)))))))))))))))))) else ((am_rd S.2 a0 20 1).bind (fun q30 => ((am_rd S.2 a0 1 1).bind (fun q31 => ((am_ld x3.2.2 q31 ((223 + (2 * x3.2.1)) + 1)).bind (fun v32 => ((f_X12_factOf (x3.2.2, S.2) a0 v8 v32 a2 a3 a4).bind (fun v33 => ((am_st x3.2.2 q30 x3.1 v33).bind (fun σ34 => some ((x3.1 + 1), σ34)))))))))))).bind (fun t9 => some (.inl (t9.1, (x3.2.1 + 1), t9.2)))))))) else some (.inr (x3.1, x3.2.2)))))))
def f_X12_holdsLine (S : am_S) (p0 : Nat) (p1 : Int32) (p2 : Int32) (p3 : Int32) (p4 : Int32) : Option (Int32 × (Nat → Nat → Int32)) :=
  ((am_rd S.2 p0 1 1).bind (fun q1 => ((am_ld S.1 q1 ((187 + (3 * p1)) + 1)).bind (fun v2 => ((am_loop (f_X12_holdsLine_b23 S p0 p2 p3 p4 (187 + (3 * p1))) am_fuel (0, v2, S.1)).bind (fun t3 => (if t3.1 = 0 then some (1, t3.2) else ((am_rd S.2 p0 20 1).bind (fun q67 => ((am_ld t3.2 q67 0).bind (fun v68 => (if v68 = 1 then some (1, t3.2) else some (0, t3.2)))))))))))))
set_option maxRecDepth 20000 in
theorem t_X12_holdsLine {E : am_E} {l : Launch} (hl : l.stackTraces = false) {S : am_S} {p0 : Nat} {p1 : Int32} {p2 : Int32} {p3 : Int32} {p4 : Int32} (kp0 : am_kd p0 = 112) : am_M E l yX12_holdsLine (.code yX12_holdsLine cX12_holdsLine 12 (some .boolean)) 3 0 0 [.ref p0, .int p1, .int p2, .int p3, .int p4] S ((f_X12_holdsLine S p0 p1 p2 p3 p4).map (fun (x : Int32 × (Nat → Nat → Int32)) => ((.inl (some (.int x.1)), (x.2, S.2)) : am_R))) := by
  refine am_M_of (w := fun (x : Int32 × (Nat → Nat → Int32)) => ((.inl (some (.int x.1)), (x.2, S.2)) : am_R)) hl (by decide) (am_fc rfl (am_fc rfl (am_fc rfl (am_fc rfl (am_fc rfl am_fn))))) (Nat.le_of_ble_eq_true rfl) ?_
  show am_Ev E l (RX12, cX12_holdsLine, 12, (some .boolean), [], am_rm 3 0 0) (fun b a s x => am_Z E 0 0 b a s ((fun (x : Int32 × (Nat → Nat → Int32)) => ((.inl (some (.int x.1)), (x.2, S.2)) : am_R)) x)) 0 0 0 [some (.ref p0), some (.int p1), some (.int p2), some (.int p3), some (.int p4), none, none, none, none, none, none, none] [] S (f_X12_holdsLine S p0 p1 p2 p3 p4)
  unfold f_X12_holdsLine
  refine ev_iconst (v := 0) dX12_holdsLine_0 (by decide) ?_
  refine ev_istore dX12_holdsLine_1 (am_lt rfl) ?_
  refine ev_sipush (v := 187) dX12_holdsLine_3 (by decide) ?_
  refine ev_iconst (v := 3) dX12_holdsLine_6 (by decide) ?_
  refine ev_iload_n dX12_holdsLine_7 rfl ?_
  refine ev_imul dX12_holdsLine_8 ?_
  refine ev_iadd dX12_holdsLine_9 ?_
  refine ev_istore dX12_holdsLine_10 (am_lt rfl) ?_
  refine ev_aload_n dX12_holdsLine_12 rfl ?_
  refine ev_getR fk_X12_13 (by decide) dX12_holdsLine_13 kp0 (fun q1 k1 r1 => ?_)
  refine ev_iload dX12_holdsLine_16 rfl ?_
  refine ev_iconst (v := 1) dX12_holdsLine_18 (by decide) ?_
  refine ev_iadd dX12_holdsLine_19 ?_
  refine ev_iald dX12_holdsLine_20 k1 (fun v2 h2 => ?_)
  refine ev_istore dX12_holdsLine_21 (am_lt rfl) ?_
  refine ev_weak (am_wk (am_wf (am_wk (am_wk (am_wk (am_wk (am_wk (am_wk (am_wf (am_wf (am_wf (am_wf am_wn)))))))))))) (ev_loop 23 272 (fun x3 : Int32 × Int32 × (Nat → Nat → Int32) => [some (.ref p0), none, some (.int p2), some (.int p3), some (.int p4), some (.int x3.1), some (.int (187 + (3 * p1))), some (.int x3.2.1), none, none, none, none]) (fun t3 : Int32 × (Nat → Nat → Int32) => [some (.ref p0), none, none, none, none, some (.int t3.1), none, none, none, none, none, none]) (fun x3 => (x3.2.2, S.2)) (fun t3 => (t3.2, S.2)) (fun x3 G3 hB3 hE3 => ?_) (fun t3 => ?_) am_fuel (0, v2, S.1))
  · unfold f_X12_holdsLine_b23
    refine ev_iload dX12_holdsLine_23 rfl ?_
    refine ev_aload_n dX12_holdsLine_25 rfl ?_
    refine ev_eq (Option.bind_assoc _ _ _) ?_
    refine ev_getR fk_X12_13 (by decide) dX12_holdsLine_26 kp0 (fun q35 k35 r35 => ?_)
    refine ev_iload dX12_holdsLine_29 rfl ?_
    refine ev_iconst (v := 2) dX12_holdsLine_31 (by decide) ?_
    refine ev_iadd dX12_holdsLine_32 ?_
    refine ev_eq (Option.bind_assoc _ _ _) ?_
    refine ev_iald dX12_holdsLine_33 k35 (fun v36 h36 => ?_)
    refine ev_eq am_ib ?_
    refine ev_icmp_ge (tgt := 272) dX12_holdsLine_34 (by decide) (fun c37 => ?_) (fun c37 => ?_)
    · exact ev_leaf (am_wk (am_wf (am_wf (am_wf (am_wf (am_wk (am_wf (am_wf (am_wf (am_wf (am_wf (am_wf am_wn)))))))))))) (hE3 (x3.1, x3.2.2))
    · refine ev_aload_n dX12_holdsLine_37 rfl ?_
      refine ev_eq (Option.bind_assoc _ _ _) ?_
      refine ev_getR fk_X12_13 (by decide) dX12_holdsLine_38 kp0 (fun q38 k38 r38 => ?_)
      refine ev_sipush (v := 223) dX12_holdsLine_41 (by decide) ?_
      refine ev_iconst (v := 2) dX12_holdsLine_44 (by decide) ?_
      refine ev_iload dX12_holdsLine_45 rfl ?_
      refine ev_imul dX12_holdsLine_47 ?_
      refine ev_iadd dX12_holdsLine_48 ?_
      refine ev_eq (Option.bind_assoc _ _ _) ?_
      refine ev_iald dX12_holdsLine_49 k38 (fun v39 h39 => ?_)
      refine ev_istore dX12_holdsLine_50 (am_lt rfl) ?_
      refine ev_iload dX12_holdsLine_52 rfl ?_
      refine ev_iconst (v := 5) dX12_holdsLine_54 (by decide) ?_
      refine ev_eq (Option.bind_assoc _ _ _) ?_
      refine ev_reg (cs' := 0) (sl' := 0) 266 (fun t40 : Int32 × (Nat → Nat → Int32) => [some (.ref p0), none, some (.int p2), some (.int p3), some (.int p4), some (.int t40.1), some (.int (187 + (3 * p1))), some (.int x3.2.1), none, none, none, none]) (fun t40 => []) (fun t40 => (t40.2, S.2)) (fun hJ40 => ?_) (fun t40 => ?_)
      · refine ev_eq am_ib ?_
        refine ev_icmp_gt (tgt := 96) dX12_holdsLine_55 (by decide) (fun c40 => ?_) (fun c40 => ?_)
        · refine ev_iload dX12_holdsLine_96 rfl ?_
          refine ev_bipush (v := 9) dX12_holdsLine_98 (by decide) ?_
          refine ev_eq am_ib ?_
          refine ev_icmp_ne (tgt := 126) dX12_holdsLine_100 (by decide) (fun c41 => ?_) (fun c41 => ?_)
          · refine ev_iinc (v := (x3.1 + (-1))) dX12_holdsLine_126 (am_lt rfl) rfl rfl ?_
            refine ev_aload_n dX12_holdsLine_129 rfl ?_
            refine ev_eq (Option.bind_assoc _ _ _) ?_
            refine ev_getR fk_X12_48 (by decide) dX12_holdsLine_130 kp0 (fun q42 k42 r42 => ?_)
            refine ev_iload dX12_holdsLine_133 rfl ?_
            refine ev_iconst (v := 1) dX12_holdsLine_135 (by decide) ?_
            refine ev_isub dX12_holdsLine_136 ?_
            refine ev_eq (Option.bind_assoc _ _ _) ?_
            refine ev_iald dX12_holdsLine_137 k42 (fun v43 h43 => ?_)
            refine ev_istore dX12_holdsLine_138 (am_lt rfl) ?_
            refine ev_aload_n dX12_holdsLine_140 rfl ?_
            refine ev_eq (Option.bind_assoc _ _ _) ?_
            refine ev_getR fk_X12_48 (by decide) dX12_holdsLine_141 kp0 (fun q44 k44 r44 => ?_)
            refine ev_iload dX12_holdsLine_144 rfl ?_
            refine ev_eq (Option.bind_assoc _ _ _) ?_
            refine ev_iald dX12_holdsLine_146 k44 (fun v45 h45 => ?_)
            refine ev_istore dX12_holdsLine_147 (am_lt rfl) ?_
            refine ev_iload dX12_holdsLine_149 rfl ?_
            refine ev_bipush (v := 7) dX12_holdsLine_151 (by decide) ?_
            refine ev_eq (Option.bind_assoc _ _ _) ?_
            refine ev_reg (cs' := 0) (sl' := 0) 230 (fun t46 : Int32 => [some (.ref p0), none, some (.int p2), some (.int p3), some (.int p4), some (.int (x3.1 + (-1))), some (.int (187 + (3 * p1))), some (.int x3.2.1), some (.int v39), some (.int v43), some (.int v45), none]) (fun t46 => [.int t46]) (fun t46 => (x3.2.2, S.2)) (fun hJ46 => ?_) (fun t46 => ?_)
            · refine ev_eq am_ib ?_
              refine ev_icmp_ne (tgt := 171) dX12_holdsLine_153 (by decide) (fun c46 => ?_) (fun c46 => ?_)
              · refine ev_iload dX12_holdsLine_171 rfl ?_
                refine ev_bipush (v := 8) dX12_holdsLine_173 (by decide) ?_
                refine ev_eq am_ib ?_
                refine ev_icmp_ne (tgt := 193) dX12_holdsLine_175 (by decide) (fun c47 => ?_) (fun c47 => ?_)
                · refine ev_iload dX12_holdsLine_193 rfl ?_
                  refine ev_bipush (v := 10) dX12_holdsLine_195 (by decide) ?_
                  refine ev_eq am_ib ?_
                  refine ev_icmp_ne (tgt := 217) dX12_holdsLine_197 (by decide) (fun c48 => ?_) (fun c48 => ?_)
                  · refine ev_iload dX12_holdsLine_217 rfl ?_
                    refine ev_iload dX12_holdsLine_219 rfl ?_
                    refine ev_iadd dX12_holdsLine_221 ?_
                    refine ev_eq am_ib ?_
                    refine ev_if_le (tgt := 229) dX12_holdsLine_222 (by decide) (fun c49 => ?_) (fun c49 => ?_)
                    · refine ev_iconst (v := 0) dX12_holdsLine_229 (by decide) ?_
                      exact ev_leaf (am_wk (am_wf (am_wk (am_wk (am_wk (am_wk (am_wk (am_wk (am_wk (am_wk (am_wk (am_wf am_wn)))))))))))) (hJ46 (0 : Int32))
                    · refine ev_iconst (v := 1) dX12_holdsLine_225 (by decide) ?_
                      refine ev_goto (tgt := 230) dX12_holdsLine_226 (by decide) ?_
                      exact ev_leaf (am_wk (am_wf (am_wk (am_wk (am_wk (am_wk (am_wk (am_wk (am_wk (am_wk (am_wk (am_wf am_wn)))))))))))) (hJ46 (1 : Int32))
                  · refine ev_iload dX12_holdsLine_200 rfl ?_
                    refine ev_iload dX12_holdsLine_202 rfl ?_
                    refine ev_iadd dX12_holdsLine_204 ?_
                    refine ev_iconst (v := 2) dX12_holdsLine_205 (by decide) ?_
                    refine ev_eq am_ib ?_
                    refine ev_icmp_ne (tgt := 213) dX12_holdsLine_206 (by decide) (fun c50 => ?_) (fun c50 => ?_)
                    · refine ev_iconst (v := 0) dX12_holdsLine_213 (by decide) ?_
                      refine ev_goto (tgt := 230) dX12_holdsLine_214 (by decide) ?_
                      exact ev_leaf (am_wk (am_wf (am_wk (am_wk (am_wk (am_wk (am_wk (am_wk (am_wk (am_wk (am_wk (am_wf am_wn)))))))))))) (hJ46 (0 : Int32))
                    · refine ev_iconst (v := 1) dX12_holdsLine_209 (by decide) ?_
                      refine ev_goto (tgt := 230) dX12_holdsLine_210 (by decide) ?_
                      exact ev_leaf (am_wk (am_wf (am_wk (am_wk (am_wk (am_wk (am_wk (am_wk (am_wk (am_wk (am_wk (am_wf am_wn)))))))))))) (hJ46 (1 : Int32))
                · refine ev_iload dX12_holdsLine_178 rfl ?_
                  refine ev_iload dX12_holdsLine_180 rfl ?_
                  refine ev_eq am_ib ?_
                  refine ev_icmp_le (tgt := 189) dX12_holdsLine_182 (by decide) (fun c51 => ?_) (fun c51 => ?_)
                  · refine ev_iconst (v := 0) dX12_holdsLine_189 (by decide) ?_
                    refine ev_goto (tgt := 230) dX12_holdsLine_190 (by decide) ?_
                    exact ev_leaf (am_wk (am_wf (am_wk (am_wk (am_wk (am_wk (am_wk (am_wk (am_wk (am_wk (am_wk (am_wf am_wn)))))))))))) (hJ46 (0 : Int32))
                  · refine ev_iconst (v := 1) dX12_holdsLine_185 (by decide) ?_
                    refine ev_goto (tgt := 230) dX12_holdsLine_186 (by decide) ?_
                    exact ev_leaf (am_wk (am_wf (am_wk (am_wk (am_wk (am_wk (am_wk (am_wk (am_wk (am_wk (am_wk (am_wf am_wn)))))))))))) (hJ46 (1 : Int32))
              · refine ev_iload dX12_holdsLine_156 rfl ?_
                refine ev_iload dX12_holdsLine_158 rfl ?_
                refine ev_eq am_ib ?_
                refine ev_icmp_ge (tgt := 167) dX12_holdsLine_160 (by decide) (fun c52 => ?_) (fun c52 => ?_)
                · refine ev_iconst (v := 0) dX12_holdsLine_167 (by decide) ?_
                  refine ev_goto (tgt := 230) dX12_holdsLine_168 (by decide) ?_
                  exact ev_leaf (am_wk (am_wf (am_wk (am_wk (am_wk (am_wk (am_wk (am_wk (am_wk (am_wk (am_wk (am_wf am_wn)))))))))))) (hJ46 (0 : Int32))
                · refine ev_iconst (v := 1) dX12_holdsLine_163 (by decide) ?_
                  refine ev_goto (tgt := 230) dX12_holdsLine_164 (by decide) ?_
                  exact ev_leaf (am_wk (am_wf (am_wk (am_wk (am_wk (am_wk (am_wk (am_wk (am_wk (am_wk (am_wk (am_wf am_wn)))))))))))) (hJ46 (1 : Int32))
            · refine ev_istore dX12_holdsLine_230 (am_lt rfl) ?_
              refine ev_aload_n dX12_holdsLine_232 rfl ?_
              refine ev_eq (Option.bind_assoc _ _ _) ?_
              refine ev_getR fk_X12_48 (by decide) dX12_holdsLine_233 kp0 (fun q53 k53 r53 => ?_)
              refine ev_iload dX12_holdsLine_236 rfl ?_
              refine ev_iconst (v := 1) dX12_holdsLine_238 (by decide) ?_
              refine ev_isub dX12_holdsLine_239 ?_
              refine ev_iload dX12_holdsLine_240 rfl ?_
              refine ev_bipush (v := 6) dX12_holdsLine_242 (by decide) ?_
              refine ev_eq (Option.bind_assoc _ _ _) ?_
              refine ev_reg (cs' := 0) (sl' := 0) 265 (fun t54 : Int32 => [some (.ref p0), none, some (.int p2), some (.int p3), some (.int p4), some (.int (x3.1 + (-1))), some (.int (187 + (3 * p1))), some (.int x3.2.1), none, none, none, none]) (fun t54 => [.int t54, .int ((x3.1 + (-1)) - 1), .ref q53]) (fun t54 => (x3.2.2, S.2)) (fun hJ54 => ?_) (fun t54 => ?_)
              · refine ev_eq am_ib ?_
                refine ev_icmp_ne (tgt := 255) dX12_holdsLine_244 (by decide) (fun c54 => ?_) (fun c54 => ?_)
                · refine ev_iload dX12_holdsLine_255 rfl ?_
                  refine ev_eq am_ib ?_
                  refine ev_if_eq (tgt := 264) dX12_holdsLine_257 (by decide) (fun c55 => ?_) (fun c55 => ?_)
                  · refine ev_iconst (v := 0) dX12_holdsLine_264 (by decide) ?_
                    exact ev_leaf (am_wk (am_wf (am_wk (am_wk (am_wk (am_wk (am_wk (am_wk (am_wf (am_wf (am_wf (am_wf am_wn)))))))))))) (hJ54 (0 : Int32))
                  · refine ev_iconst (v := 1) dX12_holdsLine_260 (by decide) ?_
                    refine ev_goto (tgt := 265) dX12_holdsLine_261 (by decide) ?_
                    exact ev_leaf (am_wk (am_wf (am_wk (am_wk (am_wk (am_wk (am_wk (am_wk (am_wf (am_wf (am_wf (am_wf am_wn)))))))))))) (hJ54 (1 : Int32))
                · refine ev_iload dX12_holdsLine_247 rfl ?_
                  refine ev_iload dX12_holdsLine_249 rfl ?_
                  refine ev_iadd dX12_holdsLine_251 ?_
                  refine ev_goto (tgt := 265) dX12_holdsLine_252 (by decide) ?_
                  exact ev_leaf (am_wk (am_wf (am_wk (am_wk (am_wk (am_wk (am_wk (am_wk (am_wf (am_wf (am_wf (am_wf am_wn)))))))))))) (hJ54 (v43 + v45))
              · refine ev_eq (Option.bind_assoc _ _ _) ?_
                refine ev_iast dX12_holdsLine_265 k53 (fun σ56 h56 => ?_)
                exact ev_leaf (am_wk (am_wf (am_wk (am_wk (am_wk (am_wk (am_wk (am_wk (am_wf (am_wf (am_wf (am_wf am_wn)))))))))))) (hJ40 ((x3.1 + (-1)), σ56))
          · refine ev_aload_n dX12_holdsLine_103 rfl ?_
            refine ev_eq (Option.bind_assoc _ _ _) ?_
            refine ev_getR fk_X12_48 (by decide) dX12_holdsLine_104 kp0 (fun q57 k57 r57 => ?_)
            refine ev_iload dX12_holdsLine_107 rfl ?_
            refine ev_iconst (v := 1) dX12_holdsLine_109 (by decide) ?_
            refine ev_isub dX12_holdsLine_110 ?_
            refine ev_iconst (v := 1) dX12_holdsLine_111 (by decide) ?_
            refine ev_aload_n dX12_holdsLine_112 rfl ?_
            refine ev_eq (Option.bind_assoc _ _ _) ?_
            refine ev_getR fk_X12_48 (by decide) dX12_holdsLine_113 kp0 (fun q58 k58 r58 => ?_)
            refine ev_iload dX12_holdsLine_116 rfl ?_
            refine ev_iconst (v := 1) dX12_holdsLine_118 (by decide) ?_
            refine ev_isub dX12_holdsLine_119 ?_
            refine ev_eq (Option.bind_assoc _ _ _) ?_
            refine ev_iald dX12_holdsLine_120 k58 (fun v59 h59 => ?_)
            refine ev_isub dX12_holdsLine_121 ?_
            refine ev_eq (Option.bind_assoc _ _ _) ?_
            refine ev_iast dX12_holdsLine_122 k57 (fun σ60 h60 => ?_)
            refine ev_goto (tgt := 266) dX12_holdsLine_123 (by decide) ?_
            exact ev_leaf (am_wk (am_wf (am_wk (am_wk (am_wk (am_wk (am_wk (am_wk (am_wf (am_wf (am_wf (am_wf am_wn)))))))))))) (hJ40 (x3.1, σ60))
        · refine ev_aload_n dX12_holdsLine_58 rfl ?_
          refine ev_eq (Option.bind_assoc _ _ _) ?_
          refine ev_getR fk_X12_48 (by decide) dX12_holdsLine_59 kp0 (fun q61 k61 r61 => ?_)
          refine ev_iload dX12_holdsLine_62 rfl ?_
          refine ev_aload_n dX12_holdsLine_64 rfl ?_
          refine ev_iload dX12_holdsLine_65 rfl ?_
          refine ev_aload_n dX12_holdsLine_67 rfl ?_
          refine ev_eq (Option.bind_assoc _ _ _) ?_
          refine ev_getR fk_X12_13 (by decide) dX12_holdsLine_68 kp0 (fun q62 k62 r62 => ?_)
          refine ev_sipush (v := 223) dX12_holdsLine_71 (by decide) ?_
          refine ev_iconst (v := 2) dX12_holdsLine_74 (by decide) ?_
          refine ev_iload dX12_holdsLine_75 rfl ?_
          refine ev_imul dX12_holdsLine_77 ?_
          refine ev_iadd dX12_holdsLine_78 ?_
          refine ev_iconst (v := 1) dX12_holdsLine_79 (by decide) ?_
          refine ev_iadd dX12_holdsLine_80 ?_
          refine ev_eq (Option.bind_assoc _ _ _) ?_
          refine ev_iald dX12_holdsLine_81 k62 (fun v63 h63 => ?_)
          refine ev_iload_n dX12_holdsLine_82 rfl ?_
          refine ev_iload_n dX12_holdsLine_83 rfl ?_
          refine ev_iload dX12_holdsLine_84 rfl ?_
          refine ev_eq (Option.bind_assoc _ _ _) ?_
          refine ev_callP (am_callV (as := [.int v39, .int v63, .int p2, .int p3, .int p4]) (o := p0) (st := [.int x3.1, .ref q61]) cv_X12_332 dX12_holdsLine_86 kp0 rfl (am_le rfl) (am_fit (by omega) (by decide) (by decide) (by decide)) (t_X12_factOf hl kp0)) (fun v64 h64 => ?_)
          refine ev_eq (Option.bind_assoc _ _ _) ?_
          refine ev_iast dX12_holdsLine_89 k61 (fun σ65 h65 => ?_)
          refine ev_iinc (v := (x3.1 + 1)) dX12_holdsLine_90 (am_lt rfl) rfl rfl ?_
          refine ev_goto (tgt := 266) dX12_holdsLine_93 (by decide) ?_
          exact ev_leaf (am_wk (am_wf (am_wk (am_wk (am_wk (am_wk (am_wk (am_wk (am_wf (am_wf (am_wf (am_wf am_wn)))))))))))) (hJ40 ((x3.1 + 1), σ65))
      · refine ev_iinc (v := (x3.2.1 + 1)) dX12_holdsLine_266 (am_lt rfl) rfl rfl ?_
        refine ev_goto (tgt := 23) dX12_holdsLine_269 (by decide) ?_
        exact ev_leaf (am_wk (am_wf (am_wk (am_wk (am_wk (am_wk (am_wk (am_wk (am_wf (am_wf (am_wf (am_wf am_wn)))))))))))) (hB3 (t40.1, (x3.2.1 + 1), t40.2))
  · refine ev_iload dX12_holdsLine_272 rfl ?_
    refine ev_if_eq (tgt := 287) dX12_holdsLine_274 (by decide) (fun c66 => ?_) (fun c66 => ?_)
    · refine ev_iconst (v := 1) dX12_holdsLine_287 (by decide) ?_
      refine ev_goto (tgt := 292) dX12_holdsLine_288 (by decide) ?_
      exact ev_iret dX12_holdsLine_292 rfl (by decide) (by decide) (by decide) rfl
    · refine ev_aload_n dX12_holdsLine_277 rfl ?_
      refine ev_getR fk_X12_48 (by decide) dX12_holdsLine_278 kp0 (fun q67 k67 r67 => ?_)
      refine ev_iconst (v := 0) dX12_holdsLine_281 (by decide) ?_
      refine ev_iald dX12_holdsLine_282 k67 (fun v68 h68 => ?_)
      refine ev_iconst (v := 1) dX12_holdsLine_283 (by decide) ?_
      refine ev_icmp_ne (tgt := 291) dX12_holdsLine_284 (by decide) (fun c69 => ?_) (fun c69 => ?_)
      · refine ev_iconst (v := 0) dX12_holdsLine_291 (by decide) ?_
        exact ev_iret dX12_holdsLine_292 rfl (by decide) (by decide) (by decide) rfl
      · refine ev_iconst (v := 1) dX12_holdsLine_287 (by decide) ?_
        refine ev_goto (tgt := 292) dX12_holdsLine_288 (by decide) ?_
        exact ev_iret dX12_holdsLine_292 rfl (by decide) (by decide) (by decide) rfl
def f_X12_turn_b6 (S : am_S) (a0 : Nat) (a1 : Int32) (a2 : Int32) (a3 : Int32) (x1 : Int32 × Int32 × (Nat → Nat → Int32)) : Option ((Int32 × Int32 × (Nat → Nat → Int32)) ⊕ (Int32 × (Nat → Nat → Int32))) :=
  ((am_rd S.2 a0 1 1).bind (fun q2 => ((am_ld x1.2.2 q2 3).bind (fun v3 => (if v3 = 1 then ((am_rd S.2 a0 1 1).bind (fun q5 => ((am_ld x1.2.2 q5 186).bind (fun v6 => (if x1.2.1 < v6 then ((f_X12_holdsLine (x1.2.2, S.2) a0 x1.2.1 a1 a2 a3).bind (fun y8 => ((if y8.1 = 0 then some (0 : Int32) else ((am_rd S.2 a0 1 1).bind (fun q10 => ((am_ld y8.2 q10 (187 + (3 * x1.2.1))).bind (fun v11 => some v11))))).bind (fun t9 => some (.inl ((x1.1 + t9), (x1.2.1 + 1), y8.2)))))) else some (.inr (x1.1, x1.2.2))))))) else some (.inr (x1.1, x1.2.2)))))))
def f_X12_turn (S : am_S) (p0 : Nat) (p1 : Int32) (p2 : Int32) (p3 : Int32) : Option (Int32 × (Nat → Nat → Int32)) :=
  ((am_loop (f_X12_turn_b6 S p0 p1 p2 p3) am_fuel (0, 0, S.1)).bind (fun t1 => some (t1.1, t1.2)))
set_option maxRecDepth 20000 in
theorem t_X12_turn {E : am_E} {l : Launch} (hl : l.stackTraces = false) {S : am_S} {p0 : Nat} {p1 : Int32} {p2 : Int32} {p3 : Int32} (kp0 : am_kd p0 = 112) : am_M E l yX12_turn (.code yX12_turn cX12_turn 6 (some .int)) 4 0 0 [.ref p0, .int p1, .int p2, .int p3] S ((f_X12_turn S p0 p1 p2 p3).map (fun (x : Int32 × (Nat → Nat → Int32)) => ((.inl (some (.int x.1)), (x.2, S.2)) : am_R))) := by
  refine am_M_of (w := fun (x : Int32 × (Nat → Nat → Int32)) => ((.inl (some (.int x.1)), (x.2, S.2)) : am_R)) hl (by decide) (am_fc rfl (am_fc rfl (am_fc rfl (am_fc rfl am_fn)))) (Nat.le_of_ble_eq_true rfl) ?_
  show am_Ev E l (RX12, cX12_turn, 6, (some .int), [], am_rm 4 0 0) (fun b a s x => am_Z E 0 0 b a s ((fun (x : Int32 × (Nat → Nat → Int32)) => ((.inl (some (.int x.1)), (x.2, S.2)) : am_R)) x)) 0 0 0 [some (.ref p0), some (.int p1), some (.int p2), some (.int p3), none, none] [] S (f_X12_turn S p0 p1 p2 p3)
  unfold f_X12_turn
  refine ev_iconst (v := 0) dX12_turn_0 (by decide) ?_
  refine ev_istore dX12_turn_1 (am_lt rfl) ?_
  refine ev_iconst (v := 0) dX12_turn_3 (by decide) ?_
  refine ev_istore dX12_turn_4 (am_lt rfl) ?_
  refine ev_weak (am_wk (am_wk (am_wk (am_wk (am_wk (am_wk am_wn)))))) (ev_loop 6 69 (fun x1 : Int32 × Int32 × (Nat → Nat → Int32) => [some (.ref p0), some (.int p1), some (.int p2), some (.int p3), some (.int x1.1), some (.int x1.2.1)]) (fun t1 : Int32 × (Nat → Nat → Int32) => [none, none, none, none, some (.int t1.1), none]) (fun x1 => (x1.2.2, S.2)) (fun t1 => (t1.2, S.2)) (fun x1 G1 hB1 hE1 => ?_) (fun t1 => ?_) am_fuel (0, 0, S.1))
  · unfold f_X12_turn_b6
    refine ev_aload_n dX12_turn_6 rfl ?_
    refine ev_eq (Option.bind_assoc _ _ _) ?_
    refine ev_getR fk_X12_13 (by decide) dX12_turn_7 kp0 (fun q12 k12 r12 => ?_)
    refine ev_iconst (v := 3) dX12_turn_10 (by decide) ?_
    refine ev_eq (Option.bind_assoc _ _ _) ?_
    refine ev_iald dX12_turn_11 k12 (fun v13 h13 => ?_)
    refine ev_iconst (v := 1) dX12_turn_12 (by decide) ?_
    refine ev_eq am_ib ?_
    refine ev_icmp_ne (tgt := 69) dX12_turn_13 (by decide) (fun c14 => ?_) (fun c14 => ?_)
    · exact ev_leaf (am_wf (am_wf (am_wf (am_wf (am_wk (am_wf am_wn)))))) (hE1 (x1.1, x1.2.2))
    · refine ev_iload dX12_turn_16 rfl ?_
      refine ev_aload_n dX12_turn_18 rfl ?_
      refine ev_eq (Option.bind_assoc _ _ _) ?_
      refine ev_getR fk_X12_13 (by decide) dX12_turn_19 kp0 (fun q15 k15 r15 => ?_)
      refine ev_sipush (v := 186) dX12_turn_22 (by decide) ?_
      refine ev_eq (Option.bind_assoc _ _ _) ?_
      refine ev_iald dX12_turn_25 k15 (fun v16 h16 => ?_)
      refine ev_eq am_ib ?_
      refine ev_icmp_ge (tgt := 69) dX12_turn_26 (by decide) (fun c17 => ?_) (fun c17 => ?_)
      · exact ev_leaf (am_wf (am_wf (am_wf (am_wf (am_wk (am_wf am_wn)))))) (hE1 (x1.1, x1.2.2))
      · refine ev_iload dX12_turn_29 rfl ?_
        refine ev_aload_n dX12_turn_31 rfl ?_
        refine ev_iload dX12_turn_32 rfl ?_
        refine ev_iload_n dX12_turn_34 rfl ?_
        refine ev_iload_n dX12_turn_35 rfl ?_
        refine ev_iload_n dX12_turn_36 rfl ?_
        refine ev_eq (Option.bind_assoc _ _ _) ?_
        refine ev_callWI (am_callV (as := [.int x1.2.1, .int p1, .int p2, .int p3]) (o := p0) (st := [.int x1.1]) cv_X12_336 dX12_turn_37 kp0 rfl (am_le rfl) (am_fit (by omega) (by decide) (by decide) (by decide)) (t_X12_holdsLine hl kp0)) (fun y18 h18 => ?_)
        refine ev_eq (Option.bind_assoc _ _ _) ?_
        refine ev_reg (cs' := 0) (sl' := 0) 60 (fun t19 : Int32 => [some (.ref p0), some (.int p1), some (.int p2), some (.int p3), none, some (.int x1.2.1)]) (fun t19 => [.int t19, .int x1.1]) (fun t19 => (y18.2, S.2)) (fun hJ19 => ?_) (fun t19 => ?_)
        · refine ev_eq am_ib ?_
          refine ev_if_eq (tgt := 59) dX12_turn_40 (by decide) (fun c19 => ?_) (fun c19 => ?_)
          · refine ev_iconst (v := 0) dX12_turn_59 (by decide) ?_
            exact ev_leaf (am_wk (am_wk (am_wk (am_wk (am_wf (am_wk am_wn)))))) (hJ19 (0 : Int32))
          · refine ev_aload_n dX12_turn_43 rfl ?_
            refine ev_eq (Option.bind_assoc _ _ _) ?_
            refine ev_getR fk_X12_13 (by decide) dX12_turn_44 kp0 (fun q20 k20 r20 => ?_)
            refine ev_sipush (v := 187) dX12_turn_47 (by decide) ?_
            refine ev_iconst (v := 3) dX12_turn_50 (by decide) ?_
            refine ev_iload dX12_turn_51 rfl ?_
            refine ev_imul dX12_turn_53 ?_
            refine ev_iadd dX12_turn_54 ?_
            refine ev_eq (Option.bind_assoc _ _ _) ?_
            refine ev_iald dX12_turn_55 k20 (fun v21 h21 => ?_)
            refine ev_goto (tgt := 60) dX12_turn_56 (by decide) ?_
            exact ev_leaf (am_wk (am_wk (am_wk (am_wk (am_wf (am_wk am_wn)))))) (hJ19 v21)
        · refine ev_iadd dX12_turn_60 ?_
          refine ev_istore dX12_turn_61 (am_lt rfl) ?_
          refine ev_iinc (v := (x1.2.1 + 1)) dX12_turn_63 (am_lt rfl) rfl rfl ?_
          refine ev_goto (tgt := 6) dX12_turn_66 (by decide) ?_
          exact ev_leaf (am_wk (am_wk (am_wk (am_wk (am_wk (am_wk am_wn)))))) (hB1 ((x1.1 + t19), (x1.2.1 + 1), y18.2))
  · refine ev_iload dX12_turn_69 rfl ?_
    exact ev_iret dX12_turn_71 rfl rfl (by decide) (by decide) rfl
def f_X12_isStill_b6 (S : am_S) (a0 : Nat) (a1 : Int32) (a2 : Int32) (a3 : Int32) (x1 : Int32 × Int32) : Option ((Int32 × Int32) ⊕ (Int32)) :=
  ((f_X12_houses S a0).bind (fun v2 => (if x1.2 < v2 then ((if x1.1 = 0 then some (0 : Int32) else ((am_rd S.2 a0 21 1).bind (fun q5 => ((am_ld S.1 q5 x1.2).bind (fun v6 => (if v6 < 0 then some (1 : Int32) else ((am_rd S.2 a0 21 1).bind (fun q8 => ((am_ld S.1 q8 x1.2).bind (fun v9 => ((f_X12_wordOf S a0 x1.2 a2).bind (fun v10 => ((f_X12_costOf v10).bind (fun v11 => (if a3 < (v9 + v11) then ((f_X12_isHarm S a0 x1.2 a1).bind (fun v13 => (if v13 = 0 then some (1 : Int32) else some (0 : Int32)))) else some (1 : Int32)))))))))))))))).bind (fun t4 => some (.inl (t4, (x1.2 + 1))))) else some (.inr x1.1))))
def f_X12_isStill (S : am_S) (p0 : Nat) (p1 : Int32) (p2 : Int32) (p3 : Int32) : Option (Int32) :=
  ((am_loop (f_X12_isStill_b6 S p0 p1 p2 p3) am_fuel (1, 0)).bind (fun t1 => (if t1 = 0 ∨ t1 = 1 then some t1 else none)))
set_option maxRecDepth 20000 in
theorem t_X12_isStill {E : am_E} {l : Launch} (hl : l.stackTraces = false) {S : am_S} {p0 : Nat} {p1 : Int32} {p2 : Int32} {p3 : Int32} (kp0 : am_kd p0 = 112) : am_M E l yX12_isStill (.code yX12_isStill cX12_isStill 6 (some .boolean)) 4 0 0 [.ref p0, .int p1, .int p2, .int p3] S ((f_X12_isStill S p0 p1 p2 p3).map (fun (v : Int32) => ((.inl (some (.int v)), S) : am_R))) := by
  refine am_M_of (w := fun (v : Int32) => ((.inl (some (.int v)), S) : am_R)) hl (by decide) (am_fc rfl (am_fc rfl (am_fc rfl (am_fc rfl am_fn)))) (Nat.le_of_ble_eq_true rfl) ?_
  show am_Ev E l (RX12, cX12_isStill, 6, (some .boolean), [], am_rm 4 0 0) (fun b a s x => am_Z E 0 0 b a s ((fun (v : Int32) => ((.inl (some (.int v)), S) : am_R)) x)) 0 0 0 [some (.ref p0), some (.int p1), some (.int p2), some (.int p3), none, none] [] S (f_X12_isStill S p0 p1 p2 p3)
  unfold f_X12_isStill
  refine ev_iconst (v := 1) dX12_isStill_0 (by decide) ?_
  refine ev_istore dX12_isStill_1 (am_lt rfl) ?_
  refine ev_iconst (v := 0) dX12_isStill_3 (by decide) ?_
  refine ev_istore dX12_isStill_4 (am_lt rfl) ?_
  refine ev_weak (am_wk (am_wk (am_wk (am_wk (am_wk (am_wk am_wn)))))) (ev_loop 6 75 (fun x1 : Int32 × Int32 => [some (.ref p0), some (.int p1), some (.int p2), some (.int p3), some (.int x1.1), some (.int x1.2)]) (fun t1 : Int32 => [none, none, none, none, some (.int t1), none]) (fun x1 => S) (fun t1 => S) (fun x1 G1 hB1 hE1 => ?_) (fun t1 => ?_) am_fuel (1, 0))
  · unfold f_X12_isStill_b6
    refine ev_iload dX12_isStill_6 rfl ?_
    refine ev_aload_n dX12_isStill_8 rfl ?_
    refine ev_eq (Option.bind_assoc _ _ _) ?_
    refine ev_callP (am_callV (as := []) (o := p0) (st := [.int x1.2]) cv_X12_74 dX12_isStill_9 kp0 rfl (am_le rfl) (am_fit (by omega) (by decide) (by decide) (by decide)) (t_X12_houses hl kp0)) (fun v15 h15 => ?_)
    refine ev_eq am_ib ?_
    refine ev_icmp_ge (tgt := 75) dX12_isStill_12 (by decide) (fun c16 => ?_) (fun c16 => ?_)
    · exact ev_leaf (am_wf (am_wf (am_wf (am_wf (am_wk (am_wf am_wn)))))) (hE1 x1.1)
    · refine ev_iload dX12_isStill_15 rfl ?_
      refine ev_eq (Option.bind_assoc _ _ _) ?_
      refine ev_reg (cs' := 0) (sl' := 0) 67 (fun t17 : Int32 => [some (.ref p0), some (.int p1), some (.int p2), some (.int p3), none, some (.int x1.2)]) (fun t17 => [.int t17]) (fun t17 => S) (fun hJ17 => ?_) (fun t17 => ?_)
      · refine ev_eq am_ib ?_
        refine ev_if_eq (tgt := 66) dX12_isStill_17 (by decide) (fun c17 => ?_) (fun c17 => ?_)
        · refine ev_iconst (v := 0) dX12_isStill_66 (by decide) ?_
          exact ev_leaf (am_wk (am_wk (am_wk (am_wk (am_wf (am_wk am_wn)))))) (hJ17 (0 : Int32))
        · refine ev_aload_n dX12_isStill_20 rfl ?_
          refine ev_eq (Option.bind_assoc _ _ _) ?_
          refine ev_getR fk_X12_51 (by decide) dX12_isStill_21 kp0 (fun q18 k18 r18 => ?_)
          refine ev_iload dX12_isStill_24 rfl ?_
          refine ev_eq (Option.bind_assoc _ _ _) ?_
          refine ev_iald dX12_isStill_26 k18 (fun v19 h19 => ?_)
          refine ev_eq am_ib ?_
          refine ev_if_lt (tgt := 62) dX12_isStill_27 (by decide) (fun c20 => ?_) (fun c20 => ?_)
          · refine ev_iconst (v := 1) dX12_isStill_62 (by decide) ?_
            refine ev_goto (tgt := 67) dX12_isStill_63 (by decide) ?_
            exact ev_leaf (am_wk (am_wk (am_wk (am_wk (am_wf (am_wk am_wn)))))) (hJ17 (1 : Int32))
          · refine ev_iload_n dX12_isStill_30 rfl ?_
            refine ev_aload_n dX12_isStill_31 rfl ?_
            refine ev_eq (Option.bind_assoc _ _ _) ?_
            refine ev_getR fk_X12_51 (by decide) dX12_isStill_32 kp0 (fun q21 k21 r21 => ?_)
            refine ev_iload dX12_isStill_35 rfl ?_
            refine ev_eq (Option.bind_assoc _ _ _) ?_
            refine ev_iald dX12_isStill_37 k21 (fun v22 h22 => ?_)
            refine ev_aload_n dX12_isStill_38 rfl ?_
            refine ev_iload dX12_isStill_39 rfl ?_
            refine ev_iload_n dX12_isStill_41 rfl ?_
            refine ev_eq (Option.bind_assoc _ _ _) ?_
            refine ev_callP (am_callV (as := [.int x1.2, .int p2]) (o := p0) (st := [.int v22, .int p3]) cv_X12_254 dX12_isStill_42 kp0 rfl (am_le rfl) (am_fit (by omega) (by decide) (by decide) (by decide)) (t_X12_wordOf hl kp0)) (fun v23 h23 => ?_)
            refine ev_eq (Option.bind_assoc _ _ _) ?_
            refine ev_callP (am_callS (as := [.int v23]) (st := [.int v22, .int p3]) ct_X12_268 dX12_isStill_45 rfl (am_le rfl) (am_fit (by omega) (by decide) (by decide) (by decide)) (t_X12_costOf hl )) (fun v24 h24 => ?_)
            refine ev_iadd dX12_isStill_48 ?_
            refine ev_eq am_ib ?_
            refine ev_icmp_ge (tgt := 62) dX12_isStill_49 (by decide) (fun c25 => ?_) (fun c25 => ?_)
            · refine ev_iconst (v := 1) dX12_isStill_62 (by decide) ?_
              refine ev_goto (tgt := 67) dX12_isStill_63 (by decide) ?_
              exact ev_leaf (am_wk (am_wk (am_wk (am_wk (am_wf (am_wk am_wn)))))) (hJ17 (1 : Int32))
            · refine ev_aload_n dX12_isStill_52 rfl ?_
              refine ev_iload dX12_isStill_53 rfl ?_
              refine ev_iload_n dX12_isStill_55 rfl ?_
              refine ev_eq (Option.bind_assoc _ _ _) ?_
              refine ev_callP (am_callV (as := [.int x1.2, .int p1]) (o := p0) (st := []) cv_X12_274 dX12_isStill_56 kp0 rfl (am_le rfl) (am_fit (by omega) (by decide) (by decide) (by decide)) (t_X12_isHarm hl kp0)) (fun v26 h26 => ?_)
              refine ev_eq am_ib ?_
              refine ev_if_ne (tgt := 66) dX12_isStill_59 (by decide) (fun c27 => ?_) (fun c27 => ?_)
              · refine ev_iconst (v := 0) dX12_isStill_66 (by decide) ?_
                exact ev_leaf (am_wk (am_wk (am_wk (am_wk (am_wf (am_wk am_wn)))))) (hJ17 (0 : Int32))
              · refine ev_iconst (v := 1) dX12_isStill_62 (by decide) ?_
                refine ev_goto (tgt := 67) dX12_isStill_63 (by decide) ?_
                exact ev_leaf (am_wk (am_wk (am_wk (am_wk (am_wf (am_wk am_wn)))))) (hJ17 (1 : Int32))
      · refine ev_istore dX12_isStill_67 (am_lt rfl) ?_
        refine ev_iinc (v := (x1.2 + 1)) dX12_isStill_69 (am_lt rfl) rfl rfl ?_
        refine ev_goto (tgt := 6) dX12_isStill_72 (by decide) ?_
        exact ev_leaf (am_wk (am_wk (am_wk (am_wk (am_wk (am_wk am_wn)))))) (hB1 (t17, (x1.2 + 1)))
  · refine ev_iload dX12_isStill_75 rfl ?_
    refine ev_split (fun c28 => ?_) (fun _ => ?_)
    · exact ev_iret dX12_isStill_77 rfl (am_nb c28) (by decide) (by decide) rfl
    · exact ev_none
def f_X12_turnOf_b6 (S : am_S) (a0 : Nat) (a1 : Int32) (a2 : Int32) (a3 : Int32) (a4 : Int32) (x1 : Int32 × Int32 × (Nat → Nat → Int32)) : Option ((Int32 × Int32 × (Nat → Nat → Int32)) ⊕ (Int32 × (Nat → Nat → Int32))) :=
  ((f_X12_houses (x1.2.2, S.2) a0).bind (fun v2 => (if x1.2.1 < v2 then ((f_X12_has a1 x1.2.1).bind (fun v4 => ((if v4 = 0 then some (x1.1, x1.2.2) else ((if x1.1 < 0 then some ((1 : Int32), x1.2.2) else (if a4 = 0 then ((f_X12_turn (x1.2.2, S.2) a0 x1.2.1 a2 a3).bind (fun y8 => ((f_X12_turn (y8.2, S.2) a0 x1.1 a2 a3).bind (fun y9 => (if y9.1 < y8.1 then some ((1 : Int32), y9.2) else some ((0 : Int32), y9.2)))))) else ((am_rd S.2 a0 22 1).bind (fun q11 => ((am_ld x1.2.2 q11 x1.2.1).bind (fun v12 => ((am_rd S.2 a0 22 1).bind (fun q13 => ((am_ld x1.2.2 q13 x1.1).bind (fun v14 => (if v12 < v14 then some ((1 : Int32), x1.2.2) else some ((0 : Int32), x1.2.2)))))))))))).bind (fun t6 => ((if t6.1 = 0 then some x1.1 else some x1.2.1).bind (fun t16 => some (t16, t6.2)))))).bind (fun t5 => some (.inl (t5.1, (x1.2.1 + 1), t5.2)))))) else some (.inr (x1.1, x1.2.2)))))
def f_X12_turnOf (S : am_S) (p0 : Nat) (p1 : Int32) (p2 : Int32) (p3 : Int32) (p4 : Int32) : Option (Int32 × (Nat → Nat → Int32)) :=
  ((am_loop (f_X12_turnOf_b6 S p0 p1 p2 p3 p4) am_fuel ((-1), 0, S.1)).bind (fun t1 => some (t1.1, t1.2)))
set_option maxRecDepth 20000 in
theorem t_X12_turnOf {E : am_E} {l : Launch} (hl : l.stackTraces = false) {S : am_S} {p0 : Nat} {p1 : Int32} {p2 : Int32} {p3 : Int32} {p4 : Int32} (kp0 : am_kd p0 = 112) : am_M E l yX12_turnOf (.code yX12_turnOf cX12_turnOf 8 (some .int)) 5 0 0 [.ref p0, .int p1, .int p2, .int p3, .int p4] S ((f_X12_turnOf S p0 p1 p2 p3 p4).map (fun (x : Int32 × (Nat → Nat → Int32)) => ((.inl (some (.int x.1)), (x.2, S.2)) : am_R))) := by
  refine am_M_of (w := fun (x : Int32 × (Nat → Nat → Int32)) => ((.inl (some (.int x.1)), (x.2, S.2)) : am_R)) hl (by decide) (am_fc rfl (am_fc rfl (am_fc rfl (am_fc rfl (am_fc rfl am_fn))))) (Nat.le_of_ble_eq_true rfl) ?_
  show am_Ev E l (RX12, cX12_turnOf, 8, (some .int), [], am_rm 5 0 0) (fun b a s x => am_Z E 0 0 b a s ((fun (x : Int32 × (Nat → Nat → Int32)) => ((.inl (some (.int x.1)), (x.2, S.2)) : am_R)) x)) 0 0 0 [some (.ref p0), some (.int p1), some (.int p2), some (.int p3), some (.int p4), none, none, none] [] S (f_X12_turnOf S p0 p1 p2 p3 p4)
  unfold f_X12_turnOf
  refine ev_iconst (v := (-1)) dX12_turnOf_0 (by decide) ?_
  refine ev_istore dX12_turnOf_1 (am_lt rfl) ?_
  refine ev_iconst (v := 0) dX12_turnOf_3 (by decide) ?_
  refine ev_istore dX12_turnOf_4 (am_lt rfl) ?_
  refine ev_weak (am_wk (am_wk (am_wk (am_wk (am_wk (am_wk (am_wk (am_wf am_wn)))))))) (ev_loop 6 103 (fun x1 : Int32 × Int32 × (Nat → Nat → Int32) => [some (.ref p0), some (.int p1), some (.int p2), some (.int p3), some (.int p4), some (.int x1.1), some (.int x1.2.1), none]) (fun t1 : Int32 × (Nat → Nat → Int32) => [none, none, none, none, none, some (.int t1.1), none, none]) (fun x1 => (x1.2.2, S.2)) (fun t1 => (t1.2, S.2)) (fun x1 G1 hB1 hE1 => ?_) (fun t1 => ?_) am_fuel ((-1), 0, S.1))
  · unfold f_X12_turnOf_b6
    refine ev_iload dX12_turnOf_6 rfl ?_
    refine ev_aload_n dX12_turnOf_8 rfl ?_
    refine ev_eq (Option.bind_assoc _ _ _) ?_
    refine ev_callP (am_callV (as := []) (o := p0) (st := [.int x1.2.1]) cv_X12_74 dX12_turnOf_9 kp0 rfl (am_le rfl) (am_fit (by omega) (by decide) (by decide) (by decide)) (t_X12_houses hl kp0)) (fun v17 h17 => ?_)
    refine ev_eq am_ib ?_
    refine ev_icmp_ge (tgt := 103) dX12_turnOf_12 (by decide) (fun c18 => ?_) (fun c18 => ?_)
    · exact ev_leaf (am_wf (am_wf (am_wf (am_wf (am_wf (am_wk (am_wf (am_wf am_wn)))))))) (hE1 (x1.1, x1.2.2))
    · refine ev_iload_n dX12_turnOf_15 rfl ?_
      refine ev_iload dX12_turnOf_16 rfl ?_
      refine ev_eq (Option.bind_assoc _ _ _) ?_
      refine ev_callP (am_callS (as := [.int p1, .int x1.2.1]) (st := []) ct_X12_319 dX12_turnOf_18 rfl (am_le rfl) (am_fit (by omega) (by decide) (by decide) (by decide)) (t_X12_has hl )) (fun v19 h19 => ?_)
      refine ev_eq (Option.bind_assoc _ _ _) ?_
      refine ev_reg (cs' := 0) (sl' := 0) 97 (fun t20 : Int32 × (Nat → Nat → Int32) => [some (.ref p0), some (.int p1), some (.int p2), some (.int p3), some (.int p4), some (.int t20.1), some (.int x1.2.1), none]) (fun t20 => []) (fun t20 => (t20.2, S.2)) (fun hJ20 => ?_) (fun t20 => ?_)
      · refine ev_eq am_ib ?_
        refine ev_if_ne (tgt := 27) dX12_turnOf_21 (by decide) (fun c20 => ?_) (fun c20 => ?_)
        · refine ev_iload dX12_turnOf_27 rfl ?_
          refine ev_eq (Option.bind_assoc _ _ _) ?_
          refine ev_reg (cs' := 0) (sl' := 0) 81 (fun t21 : Int32 × (Nat → Nat → Int32) => [some (.ref p0), some (.int p1), some (.int p2), some (.int p3), some (.int p4), some (.int x1.1), some (.int x1.2.1), none]) (fun t21 => [.int t21.1]) (fun t21 => (t21.2, S.2)) (fun hJ21 => ?_) (fun t21 => ?_)
          · refine ev_eq am_ib ?_
            refine ev_if_lt (tgt := 76) dX12_turnOf_29 (by decide) (fun c21 => ?_) (fun c21 => ?_)
            · refine ev_iconst (v := 1) dX12_turnOf_76 (by decide) ?_
              refine ev_goto (tgt := 81) dX12_turnOf_77 (by decide) ?_
              exact ev_leaf (am_wk (am_wk (am_wk (am_wk (am_wk (am_wk (am_wk (am_wf am_wn)))))))) (hJ21 ((1 : Int32), x1.2.2))
            · refine ev_iload dX12_turnOf_32 rfl ?_
              refine ev_eq am_ib ?_
              refine ev_if_eq (tgt := 57) dX12_turnOf_34 (by decide) (fun c22 => ?_) (fun c22 => ?_)
              · refine ev_aload_n dX12_turnOf_57 rfl ?_
                refine ev_iload dX12_turnOf_58 rfl ?_
                refine ev_iload_n dX12_turnOf_60 rfl ?_
                refine ev_iload_n dX12_turnOf_61 rfl ?_
                refine ev_eq (Option.bind_assoc _ _ _) ?_
                refine ev_callWI (am_callV (as := [.int x1.2.1, .int p2, .int p3]) (o := p0) (st := []) cv_X12_339 dX12_turnOf_62 kp0 rfl (am_le rfl) (am_fit (by omega) (by decide) (by decide) (by decide)) (t_X12_turn hl kp0)) (fun y23 h23 => ?_)
                refine ev_aload_n dX12_turnOf_65 rfl ?_
                refine ev_iload dX12_turnOf_66 rfl ?_
                refine ev_iload_n dX12_turnOf_68 rfl ?_
                refine ev_iload_n dX12_turnOf_69 rfl ?_
                refine ev_eq (Option.bind_assoc _ _ _) ?_
                refine ev_callWI (am_callV (as := [.int x1.1, .int p2, .int p3]) (o := p0) (st := [.int y23.1]) cv_X12_339 dX12_turnOf_70 kp0 rfl (am_le rfl) (am_fit (by omega) (by decide) (by decide) (by decide)) (t_X12_turn hl kp0)) (fun y24 h24 => ?_)
                refine ev_eq am_ib ?_
                refine ev_icmp_le (tgt := 80) dX12_turnOf_73 (by decide) (fun c25 => ?_) (fun c25 => ?_)
                · refine ev_iconst (v := 0) dX12_turnOf_80 (by decide) ?_
                  exact ev_leaf (am_wk (am_wk (am_wk (am_wk (am_wk (am_wk (am_wk (am_wf am_wn)))))))) (hJ21 ((0 : Int32), y24.2))
                · refine ev_iconst (v := 1) dX12_turnOf_76 (by decide) ?_
                  refine ev_goto (tgt := 81) dX12_turnOf_77 (by decide) ?_
                  exact ev_leaf (am_wk (am_wk (am_wk (am_wk (am_wk (am_wk (am_wk (am_wf am_wn)))))))) (hJ21 ((1 : Int32), y24.2))
              · refine ev_aload_n dX12_turnOf_37 rfl ?_
                refine ev_eq (Option.bind_assoc _ _ _) ?_
                refine ev_getR fk_X12_54 (by decide) dX12_turnOf_38 kp0 (fun q26 k26 r26 => ?_)
                refine ev_iload dX12_turnOf_41 rfl ?_
                refine ev_eq (Option.bind_assoc _ _ _) ?_
                refine ev_iald dX12_turnOf_43 k26 (fun v27 h27 => ?_)
                refine ev_aload_n dX12_turnOf_44 rfl ?_
                refine ev_eq (Option.bind_assoc _ _ _) ?_
                refine ev_getR fk_X12_54 (by decide) dX12_turnOf_45 kp0 (fun q28 k28 r28 => ?_)
                refine ev_iload dX12_turnOf_48 rfl ?_
                refine ev_eq (Option.bind_assoc _ _ _) ?_
                refine ev_iald dX12_turnOf_50 k28 (fun v29 h29 => ?_)
                refine ev_eq am_ib ?_
                refine ev_icmp_ge (tgt := 80) dX12_turnOf_51 (by decide) (fun c30 => ?_) (fun c30 => ?_)
                · refine ev_iconst (v := 0) dX12_turnOf_80 (by decide) ?_
                  exact ev_leaf (am_wk (am_wk (am_wk (am_wk (am_wk (am_wk (am_wk (am_wf am_wn)))))))) (hJ21 ((0 : Int32), x1.2.2))
                · refine ev_goto (tgt := 76) dX12_turnOf_54 (by decide) ?_
                  refine ev_iconst (v := 1) dX12_turnOf_76 (by decide) ?_
                  refine ev_goto (tgt := 81) dX12_turnOf_77 (by decide) ?_
                  exact ev_leaf (am_wk (am_wk (am_wk (am_wk (am_wk (am_wk (am_wk (am_wf am_wn)))))))) (hJ21 ((1 : Int32), x1.2.2))
          · refine ev_istore dX12_turnOf_81 (am_lt rfl) ?_
            refine ev_iload dX12_turnOf_83 rfl ?_
            refine ev_eq (Option.bind_assoc _ _ _) ?_
            refine ev_reg (cs' := 0) (sl' := 0) 95 (fun t31 : Int32 => [some (.ref p0), some (.int p1), some (.int p2), some (.int p3), some (.int p4), none, some (.int x1.2.1), none]) (fun t31 => [.int t31]) (fun t31 => (t21.2, S.2)) (fun hJ31 => ?_) (fun t31 => ?_)
            · refine ev_eq am_ib ?_
              refine ev_if_eq (tgt := 93) dX12_turnOf_85 (by decide) (fun c31 => ?_) (fun c31 => ?_)
              · refine ev_iload dX12_turnOf_93 rfl ?_
                exact ev_leaf (am_wk (am_wk (am_wk (am_wk (am_wk (am_wf (am_wk (am_wf am_wn)))))))) (hJ31 x1.1)
              · refine ev_iload dX12_turnOf_88 rfl ?_
                refine ev_goto (tgt := 95) dX12_turnOf_90 (by decide) ?_
                exact ev_leaf (am_wk (am_wk (am_wk (am_wk (am_wk (am_wf (am_wk (am_wf am_wn)))))))) (hJ31 x1.2.1)
            · refine ev_istore dX12_turnOf_95 (am_lt rfl) ?_
              exact ev_leaf (am_wk (am_wk (am_wk (am_wk (am_wk (am_wk (am_wk (am_wf am_wn)))))))) (hJ20 (t31, t21.2))
        · refine ev_goto (tgt := 97) dX12_turnOf_24 (by decide) ?_
          exact ev_leaf (am_wk (am_wk (am_wk (am_wk (am_wk (am_wk (am_wk (am_wf am_wn)))))))) (hJ20 (x1.1, x1.2.2))
      · refine ev_iinc (v := (x1.2.1 + 1)) dX12_turnOf_97 (am_lt rfl) rfl rfl ?_
        refine ev_goto (tgt := 6) dX12_turnOf_100 (by decide) ?_
        exact ev_leaf (am_wk (am_wk (am_wk (am_wk (am_wk (am_wk (am_wk (am_wf am_wn)))))))) (hB1 (t20.1, (x1.2.1 + 1), t20.2))
  · refine ev_iload dX12_turnOf_103 rfl ?_
    exact ev_iret dX12_turnOf_105 rfl rfl (by decide) (by decide) rfl
