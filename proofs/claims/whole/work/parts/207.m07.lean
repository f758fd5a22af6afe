def f_X12_end (S : am_S) (p0 : Nat) (p1 : Int32) : Option (Int32 × (Nat → Nat → Int32)) :=
  (if p1 < 0 then some (0, (am_u2 S.1 p0 0 0)) else (if ((am_u2 S.1 p0 0 0) p0 6) < p1 then some (0, (am_u2 S.1 p0 0 0)) else some (1, (am_u2 (am_u2 S.1 p0 0 0) p0 6 p1))))
set_option maxRecDepth 20000 in
theorem t_X12_end {E : am_E} {l : Launch} (hl : l.stackTraces = false) {S : am_S} {p0 : Nat} {p1 : Int32} (kp0 : am_kd p0 = 112) : am_M E l yX12_end (.code yX12_end cX12_end 2 (some .boolean)) 0 0 0 [.ref p0, .int p1] S ((f_X12_end S p0 p1).map (fun (x : Int32 × (Nat → Nat → Int32)) => ((.inl (some (.int x.1)), (x.2, S.2)) : am_R))) := by
  refine am_M_of (w := fun (x : Int32 × (Nat → Nat → Int32)) => ((.inl (some (.int x.1)), (x.2, S.2)) : am_R)) hl (by decide) (am_fc rfl (am_fc rfl am_fn)) (Nat.le_of_ble_eq_true rfl) ?_
  show am_Ev E l (RX12, cX12_end, 2, (some .boolean), [], am_rm 0 0 0) (fun b a s x => am_Z E 0 0 b a s ((fun (x : Int32 × (Nat → Nat → Int32)) => ((.inl (some (.int x.1)), (x.2, S.2)) : am_R)) x)) 0 0 0 [some (.ref p0), some (.int p1)] [] S (f_X12_end S p0 p1)
  unfold f_X12_end
  refine ev_aload_n dX12_end_0 rfl ?_
  refine ev_iconst (v := 0) dX12_end_1 (by decide) ?_
  refine ev_putI fk_X12_3 tyX12 tyX12_ok nmX12 rfl (by decide +kernel) (by decide) dX12_end_2 kp0 ?_
  refine ev_iload_n dX12_end_5 rfl ?_
  refine ev_if_lt (tgt := 17) dX12_end_6 (by decide) (fun c1 => ?_) (fun c1 => ?_)
  · refine ev_iconst (v := 0) dX12_end_17 (by decide) ?_
    exact ev_iret dX12_end_18 rfl (by decide) (by decide) (by decide) rfl
  · refine ev_iload_n dX12_end_9 rfl ?_
    refine ev_aload_n dX12_end_10 rfl ?_
    refine ev_get fk_X12_102 dX12_end_11 kp0 (am_fvI (by decide)) ?_
    refine ev_icmp_le (tgt := 19) dX12_end_14 (by decide) (fun c2 => ?_) (fun c2 => ?_)
    · refine ev_aload_n dX12_end_19 rfl ?_
      refine ev_iload_n dX12_end_20 rfl ?_
      refine ev_putI fk_X12_102 tyX12 tyX12_ok nmX12 rfl (by decide +kernel) (by decide) dX12_end_21 kp0 ?_
      refine ev_iconst (v := 1) dX12_end_24 (by decide) ?_
      exact ev_iret dX12_end_25 rfl (by decide) (by decide) (by decide) rfl
    · refine ev_iconst (v := 0) dX12_end_17 (by decide) ?_
      exact ev_iret dX12_end_18 rfl (by decide) (by decide) (by decide) rfl
def f_X12_isAt (S : am_S) (p0 : Nat) (p1 : Int32) (p2 : Int32) : Option (Int32) :=
  (if (S.1 p0 7) < (S.1 p0 8) then ((am_rd S.2 p0 5 2).bind (fun q2 => ((am_ld S.1 q2 (S.1 p0 7)).bind (fun v3 => (if v3 < p1 then some 0 else ((am_rd S.2 p0 5 2).bind (fun q5 => ((am_ld S.1 q5 (S.1 p0 7)).bind (fun v6 => (if p2 < v6 then some 0 else some 1)))))))))) else some 0)
set_option maxRecDepth 20000 in
theorem t_X12_isAt {E : am_E} {l : Launch} (hl : l.stackTraces = false) {S : am_S} {p0 : Nat} {p1 : Int32} {p2 : Int32} (kp0 : am_kd p0 = 112) : am_M E l yX12_isAt (.code yX12_isAt cX12_isAt 3 (some .boolean)) 0 0 0 [.ref p0, .int p1, .int p2] S ((f_X12_isAt S p0 p1 p2).map (fun (v : Int32) => ((.inl (some (.int v)), S) : am_R))) := by
  refine am_M_of (w := fun (v : Int32) => ((.inl (some (.int v)), S) : am_R)) hl (by decide) (am_fc rfl (am_fc rfl (am_fc rfl am_fn))) (Nat.le_of_ble_eq_true rfl) ?_
  show am_Ev E l (RX12, cX12_isAt, 3, (some .boolean), [], am_rm 0 0 0) (fun b a s x => am_Z E 0 0 b a s ((fun (v : Int32) => ((.inl (some (.int v)), S) : am_R)) x)) 0 0 0 [some (.ref p0), some (.int p1), some (.int p2)] [] S (f_X12_isAt S p0 p1 p2)
  unfold f_X12_isAt
  refine ev_aload_n dX12_isAt_0 rfl ?_
  refine ev_get fk_X12_105 dX12_isAt_1 kp0 (am_fvI (by decide)) ?_
  refine ev_aload_n dX12_isAt_4 rfl ?_
  refine ev_get fk_X12_108 dX12_isAt_5 kp0 (am_fvI (by decide)) ?_
  refine ev_icmp_ge (tgt := 41) dX12_isAt_8 (by decide) (fun c1 => ?_) (fun c1 => ?_)
  · refine ev_iconst (v := 0) dX12_isAt_41 (by decide) ?_
    exact ev_iret dX12_isAt_42 rfl (by decide) (by decide) (by decide) rfl
  · refine ev_aload_n dX12_isAt_11 rfl ?_
    refine ev_getR fk_X12_23 (by decide) dX12_isAt_12 kp0 (fun q2 k2 r2 => ?_)
    refine ev_aload_n dX12_isAt_15 rfl ?_
    refine ev_get fk_X12_105 dX12_isAt_16 kp0 (am_fvI (by decide)) ?_
    refine ev_bald dX12_isAt_19 k2 (fun v3 h3 => ?_)
    refine ev_iload_n dX12_isAt_20 rfl ?_
    refine ev_icmp_lt (tgt := 41) dX12_isAt_21 (by decide) (fun c4 => ?_) (fun c4 => ?_)
    · refine ev_iconst (v := 0) dX12_isAt_41 (by decide) ?_
      exact ev_iret dX12_isAt_42 rfl (by decide) (by decide) (by decide) rfl
    · refine ev_aload_n dX12_isAt_24 rfl ?_
      refine ev_getR fk_X12_23 (by decide) dX12_isAt_25 kp0 (fun q5 k5 r5 => ?_)
      refine ev_aload_n dX12_isAt_28 rfl ?_
      refine ev_get fk_X12_105 dX12_isAt_29 kp0 (am_fvI (by decide)) ?_
      refine ev_bald dX12_isAt_32 k5 (fun v6 h6 => ?_)
      refine ev_iload_n dX12_isAt_33 rfl ?_
      refine ev_icmp_gt (tgt := 41) dX12_isAt_34 (by decide) (fun c7 => ?_) (fun c7 => ?_)
      · refine ev_iconst (v := 0) dX12_isAt_41 (by decide) ?_
        exact ev_iret dX12_isAt_42 rfl (by decide) (by decide) (by decide) rfl
      · refine ev_iconst (v := 1) dX12_isAt_37 (by decide) ?_
        refine ev_goto (tgt := 42) dX12_isAt_38 (by decide) ?_
        exact ev_iret dX12_isAt_42 rfl (by decide) (by decide) (by decide) rfl
def f_X12_blanks_b0 (S : am_S) (a0 : Nat) (x1 : (Nat → Nat → Int32)) : Option (((Nat → Nat → Int32)) ⊕ ((Nat → Nat → Int32))) :=
  ((f_X12_isAt (x1, S.2) a0 32 32).bind (fun v2 => (if v2 = 0 then some (.inr x1) else some (.inl (am_u2 x1 a0 7 ((x1 a0 7) + 1))))))
def f_X12_blanks (S : am_S) (p0 : Nat) : Option ((Nat → Nat → Int32)) :=
  ((am_loop (f_X12_blanks_b0 S p0) am_fuel S.1).bind (fun t1 => some (am_u2 t1 p0 9 (t1 p0 7))))
set_option maxRecDepth 20000 in
theorem t_X12_blanks {E : am_E} {l : Launch} (hl : l.stackTraces = false) {S : am_S} {p0 : Nat} (kp0 : am_kd p0 = 112) : am_M E l yX12_blanks (.code yX12_blanks cX12_blanks 1 none) 1 0 0 [.ref p0] S ((f_X12_blanks S p0).map (fun (x : Nat → Nat → Int32) => ((.inl none, (x, S.2)) : am_R))) := by
  refine am_M_of (w := fun (x : Nat → Nat → Int32) => ((.inl none, (x, S.2)) : am_R)) hl (by decide) (am_fc rfl am_fn) (Nat.le_of_ble_eq_true rfl) ?_
  show am_Ev E l (RX12, cX12_blanks, 1, none, [], am_rm 1 0 0) (fun b a s x => am_Z E 0 0 b a s ((fun (x : Nat → Nat → Int32) => ((.inl none, (x, S.2)) : am_R)) x)) 0 0 0 [some (.ref p0)] [] S (f_X12_blanks S p0)
  unfold f_X12_blanks
  refine ev_weak (am_wk am_wn) (ev_loop 0 24 (fun x1 : (Nat → Nat → Int32) => [some (.ref p0)]) (fun t1 : (Nat → Nat → Int32) => [some (.ref p0)]) (fun x1 => (x1, S.2)) (fun t1 => (t1, S.2)) (fun x1 G1 hB1 hE1 => ?_) (fun t1 => ?_) am_fuel S.1)
  · unfold f_X12_blanks_b0
    refine ev_aload_n dX12_blanks_0 rfl ?_
    refine ev_bipush (v := 32) dX12_blanks_1 (by decide) ?_
    refine ev_bipush (v := 32) dX12_blanks_3 (by decide) ?_
    refine ev_eq (Option.bind_assoc _ _ _) ?_
    refine ev_callP (am_callV (as := [.int 32, .int 32]) (o := p0) (st := []) cv_X12_111 dX12_blanks_5 kp0 rfl (am_le rfl) (am_fit (by omega) (by decide) (by decide) (by decide)) (t_X12_isAt hl kp0)) (fun v4 h4 => ?_)
    refine ev_eq am_ib ?_
    refine ev_if_eq (tgt := 24) dX12_blanks_8 (by decide) (fun c5 => ?_) (fun c5 => ?_)
    · exact ev_leaf (am_wk am_wn) (hE1 x1)
    · refine ev_aload_n dX12_blanks_11 rfl ?_
      refine ev_dup dX12_blanks_12 rfl ?_
      refine ev_get fk_X12_105 dX12_blanks_13 kp0 (am_fvI (by decide)) ?_
      refine ev_iconst (v := 1) dX12_blanks_16 (by decide) ?_
      refine ev_iadd dX12_blanks_17 ?_
      refine ev_putI fk_X12_105 tyX12 tyX12_ok nmX12 rfl (by decide +kernel) (by decide) dX12_blanks_18 kp0 ?_
      refine ev_goto (tgt := 0) dX12_blanks_21 (by decide) ?_
      exact ev_leaf (am_wk am_wn) (hB1 (am_u2 x1 p0 7 ((x1 p0 7) + 1)))
  · refine ev_aload_n dX12_blanks_24 rfl ?_
    refine ev_aload_n dX12_blanks_25 rfl ?_
    refine ev_get fk_X12_105 dX12_blanks_26 kp0 (am_fvI (by decide)) ?_
    refine ev_putI fk_X12_115 tyX12 tyX12_ok nmX12 rfl (by decide +kernel) (by decide) dX12_blanks_29 kp0 ?_
    exact ev_vret dX12_blanks_32 rfl (by decide) (by decide) rfl
def f_X12_letters_b4 (S : am_S) (a0 : Nat) (x2 : (Nat → Nat → Int32)) : Option (((Nat → Nat → Int32)) ⊕ ((Nat → Nat → Int32))) :=
  ((f_X12_isAt (x2, S.2) a0 97 122).bind (fun v3 => (if v3 = 0 then some (.inr x2) else some (.inl (am_u2 x2 a0 7 ((x2 a0 7) + 1))))))
def f_X12_letters (S : am_S) (p0 : Nat) : Option ((Nat → Nat → Int32)) :=
  ((f_X12_blanks S p0).bind (fun σ1 => ((am_loop (f_X12_letters_b4 (σ1, S.2) p0) am_fuel σ1).bind (fun t2 => some t2))))
set_option maxRecDepth 20000 in
theorem t_X12_letters {E : am_E} {l : Launch} (hl : l.stackTraces = false) {S : am_S} {p0 : Nat} (kp0 : am_kd p0 = 112) : am_M E l yX12_letters (.code yX12_letters cX12_letters 1 none) 2 0 0 [.ref p0] S ((f_X12_letters S p0).map (fun (x : Nat → Nat → Int32) => ((.inl none, (x, S.2)) : am_R))) := by
  refine am_M_of (w := fun (x : Nat → Nat → Int32) => ((.inl none, (x, S.2)) : am_R)) hl (by decide) (am_fc rfl am_fn) (Nat.le_of_ble_eq_true rfl) ?_
  show am_Ev E l (RX12, cX12_letters, 1, none, [], am_rm 2 0 0) (fun b a s x => am_Z E 0 0 b a s ((fun (x : Nat → Nat → Int32) => ((.inl none, (x, S.2)) : am_R)) x)) 0 0 0 [some (.ref p0)] [] S (f_X12_letters S p0)
  unfold f_X12_letters
  refine ev_aload_n dX12_letters_0 rfl ?_
  refine ev_callWV (am_callV (as := []) (o := p0) (st := []) cv_X12_118 dX12_letters_1 kp0 rfl (am_le rfl) (am_fit (by omega) (by decide) (by decide) (by decide)) (t_X12_blanks hl kp0)) (fun σ1 h1 => ?_)
  refine ev_weak (am_wk am_wn) (ev_loop 4 28 (fun x2 : (Nat → Nat → Int32) => [some (.ref p0)]) (fun t2 : (Nat → Nat → Int32) => [none]) (fun x2 => (x2, S.2)) (fun t2 => (t2, S.2)) (fun x2 G2 hB2 hE2 => ?_) (fun t2 => ?_) am_fuel σ1)
  · unfold f_X12_letters_b4
    refine ev_aload_n dX12_letters_4 rfl ?_
    refine ev_bipush (v := 97) dX12_letters_5 (by decide) ?_
    refine ev_bipush (v := 122) dX12_letters_7 (by decide) ?_
    refine ev_eq (Option.bind_assoc _ _ _) ?_
    refine ev_callP (am_callV (as := [.int 97, .int 122]) (o := p0) (st := []) cv_X12_111 dX12_letters_9 kp0 rfl (am_le rfl) (am_fit (by omega) (by decide) (by decide) (by decide)) (t_X12_isAt hl kp0)) (fun v5 h5 => ?_)
    refine ev_eq am_ib ?_
    refine ev_if_eq (tgt := 28) dX12_letters_12 (by decide) (fun c6 => ?_) (fun c6 => ?_)
    · exact ev_leaf (am_wf am_wn) (hE2 x2)
    · refine ev_aload_n dX12_letters_15 rfl ?_
      refine ev_dup dX12_letters_16 rfl ?_
      refine ev_get fk_X12_105 dX12_letters_17 kp0 (am_fvI (by decide)) ?_
      refine ev_iconst (v := 1) dX12_letters_20 (by decide) ?_
      refine ev_iadd dX12_letters_21 ?_
      refine ev_putI fk_X12_105 tyX12 tyX12_ok nmX12 rfl (by decide +kernel) (by decide) dX12_letters_22 kp0 ?_
      refine ev_goto (tgt := 4) dX12_letters_25 (by decide) ?_
      exact ev_leaf (am_wk am_wn) (hB2 (am_u2 x2 p0 7 ((x2 p0 7) + 1)))
  · exact ev_vret dX12_letters_28 rfl (by decide) (by decide) rfl
def f_X12_sign (S : am_S) (p0 : Nat) (p1 : Int32) : Option (Int32 × (Nat → Nat → Int32)) :=
  ((f_X12_blanks S p0).bind (fun σ1 => ((f_X12_isAt (σ1, S.2) p0 p1 p1).bind (fun v2 => (if v2 = 0 then some (0, σ1) else some (1, (am_u2 σ1 p0 7 ((σ1 p0 7) + 1))))))))
set_option maxRecDepth 20000 in
theorem t_X12_sign {E : am_E} {l : Launch} (hl : l.stackTraces = false) {S : am_S} {p0 : Nat} {p1 : Int32} (kp0 : am_kd p0 = 112) : am_M E l yX12_sign (.code yX12_sign cX12_sign 2 (some .boolean)) 2 0 0 [.ref p0, .int p1] S ((f_X12_sign S p0 p1).map (fun (x : Int32 × (Nat → Nat → Int32)) => ((.inl (some (.int x.1)), (x.2, S.2)) : am_R))) := by
  refine am_M_of (w := fun (x : Int32 × (Nat → Nat → Int32)) => ((.inl (some (.int x.1)), (x.2, S.2)) : am_R)) hl (by decide) (am_fc rfl (am_fc rfl am_fn)) (Nat.le_of_ble_eq_true rfl) ?_
  show am_Ev E l (RX12, cX12_sign, 2, (some .boolean), [], am_rm 2 0 0) (fun b a s x => am_Z E 0 0 b a s ((fun (x : Int32 × (Nat → Nat → Int32)) => ((.inl (some (.int x.1)), (x.2, S.2)) : am_R)) x)) 0 0 0 [some (.ref p0), some (.int p1)] [] S (f_X12_sign S p0 p1)
  unfold f_X12_sign
  refine ev_aload_n dX12_sign_0 rfl ?_
  refine ev_callWV (am_callV (as := []) (o := p0) (st := []) cv_X12_118 dX12_sign_1 kp0 rfl (am_le rfl) (am_fit (by omega) (by decide) (by decide) (by decide)) (t_X12_blanks hl kp0)) (fun σ1 h1 => ?_)
  refine ev_aload_n dX12_sign_4 rfl ?_
  refine ev_iload_n dX12_sign_5 rfl ?_
  refine ev_iload_n dX12_sign_6 rfl ?_
  refine ev_callP (am_callV (as := [.int p1, .int p1]) (o := p0) (st := []) cv_X12_111 dX12_sign_7 kp0 rfl (am_le rfl) (am_fit (by omega) (by decide) (by decide) (by decide)) (t_X12_isAt hl kp0)) (fun v2 h2 => ?_)
  refine ev_if_ne (tgt := 15) dX12_sign_10 (by decide) (fun c3 => ?_) (fun c3 => ?_)
  · refine ev_aload_n dX12_sign_15 rfl ?_
    refine ev_dup dX12_sign_16 rfl ?_
    refine ev_get fk_X12_105 dX12_sign_17 kp0 (am_fvI (by decide)) ?_
    refine ev_iconst (v := 1) dX12_sign_20 (by decide) ?_
    refine ev_iadd dX12_sign_21 ?_
    refine ev_putI fk_X12_105 tyX12 tyX12_ok nmX12 rfl (by decide +kernel) (by decide) dX12_sign_22 kp0 ?_
    refine ev_iconst (v := 1) dX12_sign_25 (by decide) ?_
    exact ev_iret dX12_sign_26 rfl (by decide) (by decide) (by decide) rfl
  · refine ev_iconst (v := 0) dX12_sign_13 (by decide) ?_
    exact ev_iret dX12_sign_14 rfl (by decide) (by decide) (by decide) rfl
def f_X12_number_b6 (S : am_S) (a0 : Nat) (a1 : Int32) (a2 : Int32) (x2 : Int32 × (Nat → Nat → Int32)) : Option ((Int32 × (Nat → Nat → Int32)) ⊕ (Int32 × (Nat → Nat → Int32))) :=
  ((f_X12_isAt (x2.2, S.2) a0 48 57).bind (fun v3 => (if v3 = 0 then some (.inr (x2.1, x2.2)) else ((if ((x2.2 a0 7) - (x2.2 a0 9)) < 3 then ((am_rd S.2 a0 5 2).bind (fun q6 => ((am_ld x2.2 q6 (x2.2 a0 7)).bind (fun v7 => some (((10 * x2.1) + v7) - 48))))) else some x2.1).bind (fun t5 => some (.inl (t5, (am_u2 x2.2 a0 7 ((x2.2 a0 7) + 1)))))))))
def f_X12_number (S : am_S) (p0 : Nat) (p1 : Int32) (p2 : Int32) : Option (Int32 × (Nat → Nat → Int32)) :=
  ((f_X12_blanks S p0).bind (fun σ1 => ((am_loop (f_X12_number_b6 (σ1, S.2) p0 p1 p2) am_fuel (0, σ1)).bind (fun t2 => (if (t2.2 p0 7) = (t2.2 p0 9) then some ((-1), t2.2) else (if 3 < ((t2.2 p0 7) - (t2.2 p0 9)) then some ((-1), t2.2) else (if t2.1 < p1 then some ((-1), t2.2) else (if p2 < t2.1 then some ((-1), t2.2) else some (t2.1, t2.2)))))))))
set_option maxRecDepth 20000 in
theorem t_X12_number {E : am_E} {l : Launch} (hl : l.stackTraces = false) {S : am_S} {p0 : Nat} {p1 : Int32} {p2 : Int32} (kp0 : am_kd p0 = 112) : am_M E l yX12_number (.code yX12_number cX12_number 4 (some .int)) 2 0 0 [.ref p0, .int p1, .int p2] S ((f_X12_number S p0 p1 p2).map (fun (x : Int32 × (Nat → Nat → Int32)) => ((.inl (some (.int x.1)), (x.2, S.2)) : am_R))) := by
  refine am_M_of (w := fun (x : Int32 × (Nat → Nat → Int32)) => ((.inl (some (.int x.1)), (x.2, S.2)) : am_R)) hl (by decide) (am_fc rfl (am_fc rfl (am_fc rfl am_fn))) (Nat.le_of_ble_eq_true rfl) ?_
  show am_Ev E l (RX12, cX12_number, 4, (some .int), [], am_rm 2 0 0) (fun b a s x => am_Z E 0 0 b a s ((fun (x : Int32 × (Nat → Nat → Int32)) => ((.inl (some (.int x.1)), (x.2, S.2)) : am_R)) x)) 0 0 0 [some (.ref p0), some (.int p1), some (.int p2), none] [] S (f_X12_number S p0 p1 p2)
  unfold f_X12_number
  refine ev_aload_n dX12_number_0 rfl ?_
  refine ev_callWV (am_callV (as := []) (o := p0) (st := []) cv_X12_118 dX12_number_1 kp0 rfl (am_le rfl) (am_fit (by omega) (by decide) (by decide) (by decide)) (t_X12_blanks hl kp0)) (fun σ1 h1 => ?_)
  refine ev_iconst (v := 0) dX12_number_4 (by decide) ?_
  refine ev_istore_n dX12_number_5 (am_lt rfl) ?_
  refine ev_weak (am_wk (am_wk (am_wk (am_wk am_wn)))) (ev_loop 6 65 (fun x2 : Int32 × (Nat → Nat → Int32) => [some (.ref p0), some (.int p1), some (.int p2), some (.int x2.1)]) (fun t2 : Int32 × (Nat → Nat → Int32) => [some (.ref p0), some (.int p1), some (.int p2), some (.int t2.1)]) (fun x2 => (x2.2, S.2)) (fun t2 => (t2.2, S.2)) (fun x2 G2 hB2 hE2 => ?_) (fun t2 => ?_) am_fuel (0, σ1))
  · unfold f_X12_number_b6
    refine ev_aload_n dX12_number_6 rfl ?_
    refine ev_bipush (v := 48) dX12_number_7 (by decide) ?_
    refine ev_bipush (v := 57) dX12_number_9 (by decide) ?_
    refine ev_eq (Option.bind_assoc _ _ _) ?_
    refine ev_callP (am_callV (as := [.int 48, .int 57]) (o := p0) (st := []) cv_X12_111 dX12_number_11 kp0 rfl (am_le rfl) (am_fit (by omega) (by decide) (by decide) (by decide)) (t_X12_isAt hl kp0)) (fun v8 h8 => ?_)
    refine ev_eq am_ib ?_
    refine ev_if_eq (tgt := 65) dX12_number_14 (by decide) (fun c9 => ?_) (fun c9 => ?_)
    · exact ev_leaf (am_wk (am_wk (am_wk (am_wk am_wn)))) (hE2 (x2.1, x2.2))
    · refine ev_aload_n dX12_number_17 rfl ?_
      refine ev_get fk_X12_105 dX12_number_18 kp0 (am_fvI (by decide)) ?_
      refine ev_aload_n dX12_number_21 rfl ?_
      refine ev_get fk_X12_115 dX12_number_22 kp0 (am_fvI (by decide)) ?_
      refine ev_isub dX12_number_25 ?_
      refine ev_iconst (v := 3) dX12_number_26 (by decide) ?_
      refine ev_eq (Option.bind_assoc _ _ _) ?_
      refine ev_reg (cs' := 0) (sl' := 0) 51 (fun t10 : Int32 => [some (.ref p0), some (.int p1), some (.int p2), none]) (fun t10 => [.int t10]) (fun t10 => (x2.2, S.2)) (fun hJ10 => ?_) (fun t10 => ?_)
      · refine ev_eq am_ib ?_
        refine ev_icmp_ge (tgt := 50) dX12_number_27 (by decide) (fun c10 => ?_) (fun c10 => ?_)
        · refine ev_iload_n dX12_number_50 rfl ?_
          exact ev_leaf (am_wk (am_wk (am_wk (am_wf am_wn)))) (hJ10 x2.1)
        · refine ev_bipush (v := 10) dX12_number_30 (by decide) ?_
          refine ev_iload_n dX12_number_32 rfl ?_
          refine ev_imul dX12_number_33 ?_
          refine ev_aload_n dX12_number_34 rfl ?_
          refine ev_eq (Option.bind_assoc _ _ _) ?_
          refine ev_getR fk_X12_23 (by decide) dX12_number_35 kp0 (fun q11 k11 r11 => ?_)
          refine ev_aload_n dX12_number_38 rfl ?_
          refine ev_get fk_X12_105 dX12_number_39 kp0 (am_fvI (by decide)) ?_
          refine ev_eq (Option.bind_assoc _ _ _) ?_
          refine ev_bald dX12_number_42 k11 (fun v12 h12 => ?_)
          refine ev_iadd dX12_number_43 ?_
          refine ev_bipush (v := 48) dX12_number_44 (by decide) ?_
          refine ev_isub dX12_number_46 ?_
          refine ev_goto (tgt := 51) dX12_number_47 (by decide) ?_
          exact ev_leaf (am_wk (am_wk (am_wk (am_wf am_wn)))) (hJ10 (((10 * x2.1) + v12) - 48))
      · refine ev_istore_n dX12_number_51 (am_lt rfl) ?_
        refine ev_aload_n dX12_number_52 rfl ?_
        refine ev_dup dX12_number_53 rfl ?_
        refine ev_get fk_X12_105 dX12_number_54 kp0 (am_fvI (by decide)) ?_
        refine ev_iconst (v := 1) dX12_number_57 (by decide) ?_
        refine ev_iadd dX12_number_58 ?_
        refine ev_putI fk_X12_105 tyX12 tyX12_ok nmX12 rfl (by decide +kernel) (by decide) dX12_number_59 kp0 ?_
        refine ev_goto (tgt := 6) dX12_number_62 (by decide) ?_
        exact ev_leaf (am_wk (am_wk (am_wk (am_wk am_wn)))) (hB2 (t10, (am_u2 x2.2 p0 7 ((x2.2 p0 7) + 1))))
  · refine ev_aload_n dX12_number_65 rfl ?_
    refine ev_get fk_X12_105 dX12_number_66 kp0 (am_fvI (by decide)) ?_
    refine ev_aload_n dX12_number_69 rfl ?_
    refine ev_get fk_X12_115 dX12_number_70 kp0 (am_fvI (by decide)) ?_
    refine ev_icmp_eq (tgt := 99) dX12_number_73 (by decide) (fun c13 => ?_) (fun c13 => ?_)
    · refine ev_iconst (v := (-1)) dX12_number_99 (by decide) ?_
      refine ev_goto (tgt := 104) dX12_number_100 (by decide) ?_
      exact ev_iret dX12_number_104 rfl rfl (by decide) (by decide) rfl
    · refine ev_aload_n dX12_number_76 rfl ?_
      refine ev_get fk_X12_105 dX12_number_77 kp0 (am_fvI (by decide)) ?_
      refine ev_aload_n dX12_number_80 rfl ?_
      refine ev_get fk_X12_115 dX12_number_81 kp0 (am_fvI (by decide)) ?_
      refine ev_isub dX12_number_84 ?_
      refine ev_iconst (v := 3) dX12_number_85 (by decide) ?_
      refine ev_icmp_gt (tgt := 99) dX12_number_86 (by decide) (fun c14 => ?_) (fun c14 => ?_)
      · refine ev_iconst (v := (-1)) dX12_number_99 (by decide) ?_
        refine ev_goto (tgt := 104) dX12_number_100 (by decide) ?_
        exact ev_iret dX12_number_104 rfl rfl (by decide) (by decide) rfl
      · refine ev_iload_n dX12_number_89 rfl ?_
        refine ev_iload_n dX12_number_90 rfl ?_
        refine ev_icmp_lt (tgt := 99) dX12_number_91 (by decide) (fun c15 => ?_) (fun c15 => ?_)
        · refine ev_iconst (v := (-1)) dX12_number_99 (by decide) ?_
          refine ev_goto (tgt := 104) dX12_number_100 (by decide) ?_
          exact ev_iret dX12_number_104 rfl rfl (by decide) (by decide) rfl
        · refine ev_iload_n dX12_number_94 rfl ?_
          refine ev_iload_n dX12_number_95 rfl ?_
          refine ev_icmp_le (tgt := 103) dX12_number_96 (by decide) (fun c16 => ?_) (fun c16 => ?_)
          · refine ev_iload_n dX12_number_103 rfl ?_
            exact ev_iret dX12_number_104 rfl rfl (by decide) (by decide) rfl
          · refine ev_iconst (v := (-1)) dX12_number_99 (by decide) ?_
            refine ev_goto (tgt := 104) dX12_number_100 (by decide) ?_
            exact ev_iret dX12_number_104 rfl rfl (by decide) (by decide) rfl
def f_X12_fault (S : am_S) (p0 : Nat) : Option (Int32 × (Nat → Nat → Int32)) :=
  some (((am_u2 S.1 p0 0 0) p0 11), (am_u2 S.1 p0 0 0))
set_option maxRecDepth 20000 in
theorem t_X12_fault {E : am_E} {l : Launch} (hl : l.stackTraces = false) {S : am_S} {p0 : Nat} (kp0 : am_kd p0 = 112) : am_M E l yX12_fault (.code yX12_fault cX12_fault 1 (some .int)) 0 0 0 [.ref p0] S ((f_X12_fault S p0).map (fun (x : Int32 × (Nat → Nat → Int32)) => ((.inl (some (.int x.1)), (x.2, S.2)) : am_R))) := by
  refine am_M_of (w := fun (x : Int32 × (Nat → Nat → Int32)) => ((.inl (some (.int x.1)), (x.2, S.2)) : am_R)) hl (by decide) (am_fc rfl am_fn) (Nat.le_of_ble_eq_true rfl) ?_
  show am_Ev E l (RX12, cX12_fault, 1, (some .int), [], am_rm 0 0 0) (fun b a s x => am_Z E 0 0 b a s ((fun (x : Int32 × (Nat → Nat → Int32)) => ((.inl (some (.int x.1)), (x.2, S.2)) : am_R)) x)) 0 0 0 [some (.ref p0)] [] S (f_X12_fault S p0)
  unfold f_X12_fault
  refine ev_aload_n dX12_fault_0 rfl ?_
  refine ev_iconst (v := 0) dX12_fault_1 (by decide) ?_
  refine ev_putI fk_X12_3 tyX12 tyX12_ok nmX12 rfl (by decide +kernel) (by decide) dX12_fault_2 kp0 ?_
  refine ev_aload_n dX12_fault_5 rfl ?_
  refine ev_get fk_X12_27 dX12_fault_6 kp0 (am_fvI (by decide)) ?_
  exact ev_iret dX12_fault_9 rfl rfl (by decide) (by decide) rfl
def f_X12_uses (S : am_S) (p0 : Nat) : Option ((Nat → Nat → Int32)) :=
  some (am_u2 (am_u2 (am_u2 (am_u2 S.1 p0 0 0) p0 8 ((am_u2 S.1 p0 0 0) p0 6)) p0 6 0) p0 7 0)
set_option maxRecDepth 20000 in
theorem t_X12_uses {E : am_E} {l : Launch} (hl : l.stackTraces = false) {S : am_S} {p0 : Nat} (kp0 : am_kd p0 = 112) : am_M E l yX12_uses (.code yX12_uses cX12_uses 1 none) 0 0 0 [.ref p0] S ((f_X12_uses S p0).map (fun (x : Nat → Nat → Int32) => ((.inl none, (x, S.2)) : am_R))) := by
  refine am_M_of (w := fun (x : Nat → Nat → Int32) => ((.inl none, (x, S.2)) : am_R)) hl (by decide) (am_fc rfl am_fn) (Nat.le_of_ble_eq_true rfl) ?_
  show am_Ev E l (RX12, cX12_uses, 1, none, [], am_rm 0 0 0) (fun b a s x => am_Z E 0 0 b a s ((fun (x : Nat → Nat → Int32) => ((.inl none, (x, S.2)) : am_R)) x)) 0 0 0 [some (.ref p0)] [] S (f_X12_uses S p0)
  unfold f_X12_uses
  refine ev_aload_n dX12_uses_0 rfl ?_
  refine ev_iconst (v := 0) dX12_uses_1 (by decide) ?_
  refine ev_putI fk_X12_3 tyX12 tyX12_ok nmX12 rfl (by decide +kernel) (by decide) dX12_uses_2 kp0 ?_
  refine ev_aload_n dX12_uses_5 rfl ?_
  refine ev_aload_n dX12_uses_6 rfl ?_
  refine ev_get fk_X12_102 dX12_uses_7 kp0 (am_fvI (by decide)) ?_
  refine ev_putI fk_X12_108 tyX12 tyX12_ok nmX12 rfl (by decide +kernel) (by decide) dX12_uses_10 kp0 ?_
  refine ev_aload_n dX12_uses_13 rfl ?_
  refine ev_iconst (v := 0) dX12_uses_14 (by decide) ?_
  refine ev_putI fk_X12_102 tyX12 tyX12_ok nmX12 rfl (by decide +kernel) (by decide) dX12_uses_15 kp0 ?_
  refine ev_aload_n dX12_uses_18 rfl ?_
  refine ev_iconst (v := 0) dX12_uses_19 (by decide) ?_
  refine ev_putI fk_X12_105 tyX12 tyX12_ok nmX12 rfl (by decide +kernel) (by decide) dX12_uses_20 kp0 ?_
  exact ev_vret dX12_uses_23 rfl (by decide) (by decide) rfl
def f_X12_readWant (S : am_S) (p0 : Nat) : Option (Int32 × (Nat → Nat → Int32)) :=
  ((f_X12_wants S p0).bind (fun v1 => (if v1 = 10 then some (0, S.1) else ((f_X12_number S p0 1 99).bind (fun y3 => ((am_rd S.2 p0 1 1).bind (fun q4 => ((f_X12_wants (y3.2, S.2) p0).bind (fun v5 => ((am_st y3.2 q4 (128 + v5) y3.1).bind (fun σ6 => ((if y3.1 < 0 then some σ6 else ((am_rd S.2 p0 1 1).bind (fun q8 => ((am_ld σ6 q8 1).bind (fun v9 => ((am_st σ6 q8 1 (v9 + 1)).bind (fun σ10 => some σ10))))))).bind (fun t7 => (if y3.1 < 0 then some (0, t7) else some (1, t7)))))))))))))))
set_option maxRecDepth 20000 in
theorem t_X12_readWant {E : am_E} {l : Launch} (hl : l.stackTraces = false) {S : am_S} {p0 : Nat} (kp0 : am_kd p0 = 112) : am_M E l yX12_readWant (.code yX12_readWant cX12_readWant 2 (some .boolean)) 3 0 0 [.ref p0] S ((f_X12_readWant S p0).map (fun (x : Int32 × (Nat → Nat → Int32)) => ((.inl (some (.int x.1)), (x.2, S.2)) : am_R))) := by
  refine am_M_of (w := fun (x : Int32 × (Nat → Nat → Int32)) => ((.inl (some (.int x.1)), (x.2, S.2)) : am_R)) hl (by decide) (am_fc rfl am_fn) (Nat.le_of_ble_eq_true rfl) ?_
  show am_Ev E l (RX12, cX12_readWant, 2, (some .boolean), [], am_rm 3 0 0) (fun b a s x => am_Z E 0 0 b a s ((fun (x : Int32 × (Nat → Nat → Int32)) => ((.inl (some (.int x.1)), (x.2, S.2)) : am_R)) x)) 0 0 0 [some (.ref p0), none] [] S (f_X12_readWant S p0)
  unfold f_X12_readWant
  refine ev_aload_n dX12_readWant_0 rfl ?_
  refine ev_callP (am_callV (as := []) (o := p0) (st := []) cv_X12_82 dX12_readWant_1 kp0 rfl (am_le rfl) (am_fit (by omega) (by decide) (by decide) (by decide)) (t_X12_wants hl kp0)) (fun v1 h1 => ?_)
  refine ev_bipush (v := 10) dX12_readWant_4 (by decide) ?_
  refine ev_icmp_ne (tgt := 11) dX12_readWant_6 (by decide) (fun c2 => ?_) (fun c2 => ?_)
  · refine ev_aload_n dX12_readWant_11 rfl ?_
    refine ev_iconst (v := 1) dX12_readWant_12 (by decide) ?_
    refine ev_bipush (v := 99) dX12_readWant_13 (by decide) ?_
    refine ev_callWI (am_callV (as := [.int 1, .int 99]) (o := p0) (st := []) cv_X12_141 dX12_readWant_15 kp0 rfl (am_le rfl) (am_fit (by omega) (by decide) (by decide) (by decide)) (t_X12_number hl kp0)) (fun y3 h3 => ?_)
    refine ev_istore_n dX12_readWant_18 (am_lt rfl) ?_
    refine ev_aload_n dX12_readWant_19 rfl ?_
    refine ev_getR fk_X12_13 (by decide) dX12_readWant_20 kp0 (fun q4 k4 r4 => ?_)
    refine ev_sipush (v := 128) dX12_readWant_23 (by decide) ?_
    refine ev_aload_n dX12_readWant_26 rfl ?_
    refine ev_callP (am_callV (as := []) (o := p0) (st := [.int 128, .ref q4]) cv_X12_82 dX12_readWant_27 kp0 rfl (am_le rfl) (am_fit (by omega) (by decide) (by decide) (by decide)) (t_X12_wants hl kp0)) (fun v5 h5 => ?_)
    refine ev_iadd dX12_readWant_30 ?_
    refine ev_iload_n dX12_readWant_31 rfl ?_
    refine ev_iast dX12_readWant_32 k4 (fun σ6 h6 => ?_)
    refine ev_iload_n dX12_readWant_33 rfl ?_
    refine ev_reg (cs' := 0) (sl' := 0) 47 (fun t7 : (Nat → Nat → Int32) => [none, some (.int y3.1)]) (fun t7 => []) (fun t7 => (t7, S.2)) (fun hJ7 => ?_) (fun t7 => ?_)
    · refine ev_eq am_ib ?_
      refine ev_if_lt (tgt := 47) dX12_readWant_34 (by decide) (fun c7 => ?_) (fun c7 => ?_)
      · exact ev_leaf (am_wf (am_wk am_wn)) (hJ7 σ6)
      · refine ev_aload_n dX12_readWant_37 rfl ?_
        refine ev_eq (Option.bind_assoc _ _ _) ?_
        refine ev_getR fk_X12_13 (by decide) dX12_readWant_38 kp0 (fun q8 k8 r8 => ?_)
        refine ev_iconst (v := 1) dX12_readWant_41 (by decide) ?_
        refine ev_dup2 dX12_readWant_42 rfl rfl ?_
        refine ev_eq (Option.bind_assoc _ _ _) ?_
        refine ev_iald dX12_readWant_43 k8 (fun v9 h9 => ?_)
        refine ev_iconst (v := 1) dX12_readWant_44 (by decide) ?_
        refine ev_iadd dX12_readWant_45 ?_
        refine ev_eq (Option.bind_assoc _ _ _) ?_
        refine ev_iast dX12_readWant_46 k8 (fun σ10 h10 => ?_)
        exact ev_leaf (am_wf (am_wk am_wn)) (hJ7 σ10)
    · refine ev_iload_n dX12_readWant_47 rfl ?_
      refine ev_if_lt (tgt := 55) dX12_readWant_48 (by decide) (fun c11 => ?_) (fun c11 => ?_)
      · refine ev_iconst (v := 0) dX12_readWant_55 (by decide) ?_
        exact ev_iret dX12_readWant_56 rfl (by decide) (by decide) (by decide) rfl
      · refine ev_iconst (v := 1) dX12_readWant_51 (by decide) ?_
        refine ev_goto (tgt := 56) dX12_readWant_52 (by decide) ?_
        exact ev_iret dX12_readWant_56 rfl (by decide) (by decide) (by decide) rfl
  · refine ev_iconst (v := 0) dX12_readWant_9 (by decide) ?_
    exact ev_iret dX12_readWant_10 rfl (by decide) (by decide) (by decide) rfl
def f_X12_strokesTold_b31 (S : am_S) (a0 : Nat) (x4 : Int32 × Int32) : Option ((Int32 × Int32) ⊕ ((Unit) ⊕ (Int32 × (Nat → Nat → Int32)))) :=
  (if x4.2 < (S.1 a0 7) then ((am_rd S.2 a0 5 2).bind (fun q6 => ((am_ld S.1 q6 x4.2).bind (fun v7 => (if 98 < v7 then some (.inr (.inr ((-1), S.1))) else ((am_rd S.2 a0 5 2).bind (fun q9 => ((am_ld S.1 q9 x4.2).bind (fun v10 => some (.inl ((((2 * x4.1) + v10) - 97), (x4.2 + 1)))))))))))) else some (.inr (.inr (x4.1, S.1))))
def f_X12_strokesTold (S : am_S) (p0 : Nat) : Option (Int32 × (Nat → Nat → Int32)) :=
  ((f_X12_letters S p0).bind (fun σ1 => ((f_X12_in ((σ1 p0 7) - (σ1 p0 9)) 1 8).bind (fun v2 => (if v2 = 0 then some ((-1), σ1) else ((am_loop (f_X12_strokesTold_b31 (σ1, S.2) p0) am_fuel (1, (σ1 p0 9))).bind (fun r4 => match r4 with | .inl t4 => none | .inr b4 => some b4)))))))
set_option maxRecDepth 20000 in
theorem t_X12_strokesTold {E : am_E} {l : Launch} (hl : l.stackTraces = false) {S : am_S} {p0 : Nat} (kp0 : am_kd p0 = 112) : am_M E l yX12_strokesTold (.code yX12_strokesTold cX12_strokesTold 3 (some .int)) 3 0 0 [.ref p0] S ((f_X12_strokesTold S p0).map (fun (x : Int32 × (Nat → Nat → Int32)) => ((.inl (some (.int x.1)), (x.2, S.2)) : am_R))) := by
  refine am_M_of (w := fun (x : Int32 × (Nat → Nat → Int32)) => ((.inl (some (.int x.1)), (x.2, S.2)) : am_R)) hl (by decide) (am_fc rfl am_fn) (Nat.le_of_ble_eq_true rfl) ?_
  show am_Ev E l (RX12, cX12_strokesTold, 3, (some .int), [], am_rm 3 0 0) (fun b a s x => am_Z E 0 0 b a s ((fun (x : Int32 × (Nat → Nat → Int32)) => ((.inl (some (.int x.1)), (x.2, S.2)) : am_R)) x)) 0 0 0 [some (.ref p0), none, none] [] S (f_X12_strokesTold S p0)
  unfold f_X12_strokesTold
  refine ev_aload_n dX12_strokesTold_0 rfl ?_
  refine ev_callWV (am_callV (as := []) (o := p0) (st := []) cv_X12_130 dX12_strokesTold_1 kp0 rfl (am_le rfl) (am_fit (by omega) (by decide) (by decide) (by decide)) (t_X12_letters hl kp0)) (fun σ1 h1 => ?_)
  refine ev_aload_n dX12_strokesTold_4 rfl ?_
  refine ev_get fk_X12_105 dX12_strokesTold_5 kp0 (am_fvI (by decide)) ?_
  refine ev_aload_n dX12_strokesTold_8 rfl ?_
  refine ev_get fk_X12_115 dX12_strokesTold_9 kp0 (am_fvI (by decide)) ?_
  refine ev_isub dX12_strokesTold_12 ?_
  refine ev_iconst (v := 1) dX12_strokesTold_13 (by decide) ?_
  refine ev_bipush (v := 8) dX12_strokesTold_14 (by decide) ?_
  refine ev_callP (am_callS (as := [.int ((σ1 p0 7) - (σ1 p0 9)), .int 1, .int 8]) (st := []) ct_X12_78 dX12_strokesTold_16 rfl (am_le rfl) (am_fit (by omega) (by decide) (by decide) (by decide)) (t_X12_in hl )) (fun v2 h2 => ?_)
  refine ev_if_ne (tgt := 24) dX12_strokesTold_19 (by decide) (fun c3 => ?_) (fun c3 => ?_)
  · refine ev_iconst (v := 1) dX12_strokesTold_24 (by decide) ?_
    refine ev_istore_n dX12_strokesTold_25 (am_lt rfl) ?_
    refine ev_aload_n dX12_strokesTold_26 rfl ?_
    refine ev_get fk_X12_115 dX12_strokesTold_27 kp0 (am_fvI (by decide)) ?_
    refine ev_istore_n dX12_strokesTold_30 (am_lt rfl) ?_
    refine ev_weak (am_wk (am_wk (am_wk am_wn))) (ev_loopR 31 0 (fun x4 : Int32 × Int32 => [some (.ref p0), some (.int x4.1), some (.int x4.2)]) (fun t4 : Unit => [none, none, none]) (fun x4 => (σ1, S.2)) (fun t4 => (σ1, S.2)) (fun x4 G4 hB4 hE4 hG4 => ?_) (fun t4 => ?_) am_fuel (1, (σ1 p0 9)))
    · unfold f_X12_strokesTold_b31
      refine ev_iload_n dX12_strokesTold_31 rfl ?_
      refine ev_aload_n dX12_strokesTold_32 rfl ?_
      refine ev_get fk_X12_105 dX12_strokesTold_33 kp0 (am_fvI (by decide)) ?_
      refine ev_eq am_ib ?_
      refine ev_icmp_ge (tgt := 72) dX12_strokesTold_36 (by decide) (fun c11 => ?_) (fun c11 => ?_)
      · refine ev_iload_n dX12_strokesTold_72 rfl ?_
        exact ev_eq (hG4 _) (ev_iret dX12_strokesTold_73 rfl rfl (by decide) (by decide) rfl)
      · refine ev_aload_n dX12_strokesTold_39 rfl ?_
        refine ev_eq (Option.bind_assoc _ _ _) ?_
        refine ev_getR fk_X12_23 (by decide) dX12_strokesTold_40 kp0 (fun q12 k12 r12 => ?_)
        refine ev_iload_n dX12_strokesTold_43 rfl ?_
        refine ev_eq (Option.bind_assoc _ _ _) ?_
        refine ev_bald dX12_strokesTold_44 k12 (fun v13 h13 => ?_)
        refine ev_bipush (v := 98) dX12_strokesTold_45 (by decide) ?_
        refine ev_eq am_ib ?_
        refine ev_icmp_le (tgt := 52) dX12_strokesTold_47 (by decide) (fun c14 => ?_) (fun c14 => ?_)
        · refine ev_iconst (v := 2) dX12_strokesTold_52 (by decide) ?_
          refine ev_iload_n dX12_strokesTold_53 rfl ?_
          refine ev_imul dX12_strokesTold_54 ?_
          refine ev_aload_n dX12_strokesTold_55 rfl ?_
          refine ev_eq (Option.bind_assoc _ _ _) ?_
          refine ev_getR fk_X12_23 (by decide) dX12_strokesTold_56 kp0 (fun q15 k15 r15 => ?_)
          refine ev_iload_n dX12_strokesTold_59 rfl ?_
          refine ev_eq (Option.bind_assoc _ _ _) ?_
          refine ev_bald dX12_strokesTold_60 k15 (fun v16 h16 => ?_)
          refine ev_iadd dX12_strokesTold_61 ?_
          refine ev_bipush (v := 97) dX12_strokesTold_62 (by decide) ?_
          refine ev_isub dX12_strokesTold_64 ?_
          refine ev_istore_n dX12_strokesTold_65 (am_lt rfl) ?_
          refine ev_iinc (v := (x4.2 + 1)) dX12_strokesTold_66 (am_lt rfl) rfl rfl ?_
          refine ev_goto (tgt := 31) dX12_strokesTold_69 (by decide) ?_
          exact ev_leaf (am_wk (am_wk (am_wk am_wn))) (hB4 ((((2 * x4.1) + v16) - 97), (x4.2 + 1)))
        · refine ev_iconst (v := (-1)) dX12_strokesTold_50 (by decide) ?_
          exact ev_eq (hG4 _) (ev_iret dX12_strokesTold_51 rfl rfl (by decide) (by decide) rfl)
    · exact ev_none
  · refine ev_iconst (v := (-1)) dX12_strokesTold_22 (by decide) ?_
    exact ev_iret dX12_strokesTold_23 rfl rfl (by decide) (by decide) rfl
def f_X12_readCode (S : am_S) (p0 : Nat) (p1 : Int32) : Option (Int32 × (Nat → Nat → Int32)) :=
  ((f_X12_houses S p0).bind (fun v1 => ((f_X12_number S p0 0 (v1 - 1)).bind (fun y2 => ((if y2.1 < 0 then some (((-1) : Int32), y2.2) else ((f_X12_wants (y2.2, S.2) p0).bind (fun v4 => ((f_X12_number (y2.2, S.2) p0 0 (v4 - 1)).bind (fun y5 => some (y5.1, y5.2)))))).bind (fun t3 => ((if t3.1 < 0 then some (((-1) : Int32), t3.2) else (if p1 = 0 then some ((0 : Int32), t3.2) else ((f_X12_strokesTold (t3.2, S.2) p0).bind (fun y8 => some (y8.1, y8.2))))).bind (fun t6 => ((if t6.1 < 0 then some t6.2 else ((f_X12_sets (t6.2, S.2) p0 y2.1 (5 + t3.1) t6.1).bind (fun σ10 => some σ10))).bind (fun t9 => (if t6.1 < 0 then some (0, t9) else some (1, t9))))))))))))
set_option maxRecDepth 20000 in
theorem t_X12_readCode {E : am_E} {l : Launch} (hl : l.stackTraces = false) {S : am_S} {p0 : Nat} {p1 : Int32} (kp0 : am_kd p0 = 112) : am_M E l yX12_readCode (.code yX12_readCode cX12_readCode 5 (some .boolean)) 4 0 0 [.ref p0, .int p1] S ((f_X12_readCode S p0 p1).map (fun (x : Int32 × (Nat → Nat → Int32)) => ((.inl (some (.int x.1)), (x.2, S.2)) : am_R))) := by
  refine am_M_of (w := fun (x : Int32 × (Nat → Nat → Int32)) => ((.inl (some (.int x.1)), (x.2, S.2)) : am_R)) hl (by decide) (am_fc rfl (am_fc rfl am_fn)) (Nat.le_of_ble_eq_true rfl) ?_
  show am_Ev E l (RX12, cX12_readCode, 5, (some .boolean), [], am_rm 4 0 0) (fun b a s x => am_Z E 0 0 b a s ((fun (x : Int32 × (Nat → Nat → Int32)) => ((.inl (some (.int x.1)), (x.2, S.2)) : am_R)) x)) 0 0 0 [some (.ref p0), some (.int p1), none, none, none] [] S (f_X12_readCode S p0 p1)
  unfold f_X12_readCode
  refine ev_aload_n dX12_readCode_0 rfl ?_
  refine ev_iconst (v := 0) dX12_readCode_1 (by decide) ?_
  refine ev_aload_n dX12_readCode_2 rfl ?_
  refine ev_callP (am_callV (as := []) (o := p0) (st := [.int 0, .ref p0]) cv_X12_74 dX12_readCode_3 kp0 rfl (am_le rfl) (am_fit (by omega) (by decide) (by decide) (by decide)) (t_X12_houses hl kp0)) (fun v1 h1 => ?_)
  refine ev_iconst (v := 1) dX12_readCode_6 (by decide) ?_
  refine ev_isub dX12_readCode_7 ?_
  refine ev_callWI (am_callV (as := [.int 0, .int (v1 - 1)]) (o := p0) (st := []) cv_X12_141 dX12_readCode_8 kp0 rfl (am_le rfl) (am_fit (by omega) (by decide) (by decide) (by decide)) (t_X12_number hl kp0)) (fun y2 h2 => ?_)
  refine ev_istore_n dX12_readCode_11 (am_lt rfl) ?_
  refine ev_iload_n dX12_readCode_12 rfl ?_
  refine ev_reg (cs' := 0) (sl' := 0) 31 (fun t3 : Int32 × (Nat → Nat → Int32) => [some (.ref p0), some (.int p1), some (.int y2.1), none, none]) (fun t3 => [.int t3.1]) (fun t3 => (t3.2, S.2)) (fun hJ3 => ?_) (fun t3 => ?_)
  · refine ev_eq am_ib ?_
    refine ev_if_ge (tgt := 20) dX12_readCode_13 (by decide) (fun c3 => ?_) (fun c3 => ?_)
    · refine ev_aload_n dX12_readCode_20 rfl ?_
      refine ev_iconst (v := 0) dX12_readCode_21 (by decide) ?_
      refine ev_aload_n dX12_readCode_22 rfl ?_
      refine ev_eq (Option.bind_assoc _ _ _) ?_
      refine ev_callP (am_callV (as := []) (o := p0) (st := [.int 0, .ref p0]) cv_X12_82 dX12_readCode_23 kp0 rfl (am_le rfl) (am_fit (by omega) (by decide) (by decide) (by decide)) (t_X12_wants hl kp0)) (fun v4 h4 => ?_)
      refine ev_iconst (v := 1) dX12_readCode_26 (by decide) ?_
      refine ev_isub dX12_readCode_27 ?_
      refine ev_eq (Option.bind_assoc _ _ _) ?_
      refine ev_callWI (am_callV (as := [.int 0, .int (v4 - 1)]) (o := p0) (st := []) cv_X12_141 dX12_readCode_28 kp0 rfl (am_le rfl) (am_fit (by omega) (by decide) (by decide) (by decide)) (t_X12_number hl kp0)) (fun y5 h5 => ?_)
      exact ev_leaf (am_wk (am_wk (am_wk (am_wf (am_wf am_wn))))) (hJ3 (y5.1, y5.2))
    · refine ev_iconst (v := (-1)) dX12_readCode_16 (by decide) ?_
      refine ev_goto (tgt := 31) dX12_readCode_17 (by decide) ?_
      exact ev_leaf (am_wk (am_wk (am_wk (am_wf (am_wf am_wn))))) (hJ3 (((-1) : Int32), y2.2))
  · refine ev_istore_n dX12_readCode_31 (am_lt rfl) ?_
    refine ev_iload_n dX12_readCode_32 rfl ?_
    refine ev_reg (cs' := 0) (sl' := 0) 52 (fun t6 : Int32 × (Nat → Nat → Int32) => [some (.ref p0), none, some (.int y2.1), some (.int t3.1), none]) (fun t6 => [.int t6.1]) (fun t6 => (t6.2, S.2)) (fun hJ6 => ?_) (fun t6 => ?_)
    · refine ev_eq am_ib ?_
      refine ev_if_ge (tgt := 40) dX12_readCode_33 (by decide) (fun c6 => ?_) (fun c6 => ?_)
      · refine ev_iload_n dX12_readCode_40 rfl ?_
        refine ev_eq am_ib ?_
        refine ev_if_eq (tgt := 51) dX12_readCode_41 (by decide) (fun c7 => ?_) (fun c7 => ?_)
        · refine ev_iconst (v := 0) dX12_readCode_51 (by decide) ?_
          exact ev_leaf (am_wk (am_wf (am_wk (am_wk (am_wf am_wn))))) (hJ6 ((0 : Int32), t3.2))
        · refine ev_aload_n dX12_readCode_44 rfl ?_
          refine ev_eq (Option.bind_assoc _ _ _) ?_
          refine ev_callWI (am_callV (as := []) (o := p0) (st := []) cv_X12_149 dX12_readCode_45 kp0 rfl (am_le rfl) (am_fit (by omega) (by decide) (by decide) (by decide)) (t_X12_strokesTold hl kp0)) (fun y8 h8 => ?_)
          refine ev_goto (tgt := 52) dX12_readCode_48 (by decide) ?_
          exact ev_leaf (am_wk (am_wf (am_wk (am_wk (am_wf am_wn))))) (hJ6 (y8.1, y8.2))
      · refine ev_iconst (v := (-1)) dX12_readCode_36 (by decide) ?_
        refine ev_goto (tgt := 52) dX12_readCode_37 (by decide) ?_
        exact ev_leaf (am_wk (am_wf (am_wk (am_wk (am_wf am_wn))))) (hJ6 (((-1) : Int32), t3.2))
    · refine ev_istore dX12_readCode_52 (am_lt rfl) ?_
      refine ev_iload dX12_readCode_54 rfl ?_
      refine ev_reg (cs' := 0) (sl' := 0) 69 (fun t9 : (Nat → Nat → Int32) => [none, none, none, none, some (.int t6.1)]) (fun t9 => []) (fun t9 => (t9, S.2)) (fun hJ9 => ?_) (fun t9 => ?_)
      · refine ev_eq am_ib ?_
        refine ev_if_lt (tgt := 69) dX12_readCode_56 (by decide) (fun c9 => ?_) (fun c9 => ?_)
        · exact ev_leaf (am_wf (am_wf (am_wf (am_wf (am_wk am_wn))))) (hJ9 t6.2)
        · refine ev_aload_n dX12_readCode_59 rfl ?_
          refine ev_iload_n dX12_readCode_60 rfl ?_
          refine ev_iconst (v := 5) dX12_readCode_61 (by decide) ?_
          refine ev_iload_n dX12_readCode_62 rfl ?_
          refine ev_iadd dX12_readCode_63 ?_
          refine ev_iload dX12_readCode_64 rfl ?_
          refine ev_eq (Option.bind_assoc _ _ _) ?_
          refine ev_callWV (am_callV (as := [.int y2.1, .int (5 + t3.1), .int t6.1]) (o := p0) (st := []) cv_X12_137 dX12_readCode_66 kp0 rfl (am_le rfl) (am_fit (by omega) (by decide) (by decide) (by decide)) (t_X12_sets hl kp0)) (fun σ10 h10 => ?_)
          exact ev_leaf (am_wf (am_wf (am_wf (am_wf (am_wk am_wn))))) (hJ9 σ10)
      · refine ev_iload dX12_readCode_69 rfl ?_
        refine ev_if_lt (tgt := 78) dX12_readCode_71 (by decide) (fun c11 => ?_) (fun c11 => ?_)
        · refine ev_iconst (v := 0) dX12_readCode_78 (by decide) ?_
          exact ev_iret dX12_readCode_79 rfl (by decide) (by decide) (by decide) rfl
        · refine ev_iconst (v := 1) dX12_readCode_74 (by decide) ?_
          refine ev_goto (tgt := 79) dX12_readCode_75 (by decide) ?_
          exact ev_iret dX12_readCode_79 rfl (by decide) (by decide) (by decide) rfl
def f_X12_readWind (S : am_S) (p0 : Nat) (p1 : Int32) : Option (Int32 × (Nat → Nat → Int32)) :=
  ((f_X12_number S p0 0 9).bind (fun y1 => ((if y1.1 < 0 then some (((-1) : Int32), y1.2) else ((f_X12_number (y1.2, S.2) p0 0 9).bind (fun y3 => some (y3.1, y3.2)))).bind (fun t2 => (if t2.1 < 0 then some (0, t2.2) else ((am_rd S.2 p0 1 1).bind (fun q5 => ((am_st t2.2 q5 6 (p1 * y1.1)).bind (fun σ6 => ((am_rd S.2 p0 1 1).bind (fun q7 => ((am_st σ6 q7 7 (p1 * t2.1)).bind (fun σ8 => some (1, σ8))))))))))))))
set_option maxRecDepth 20000 in
theorem t_X12_readWind {E : am_E} {l : Launch} (hl : l.stackTraces = false) {S : am_S} {p0 : Nat} {p1 : Int32} (kp0 : am_kd p0 = 112) : am_M E l yX12_readWind (.code yX12_readWind cX12_readWind 4 (some .boolean)) 3 0 0 [.ref p0, .int p1] S ((f_X12_readWind S p0 p1).map (fun (x : Int32 × (Nat → Nat → Int32)) => ((.inl (some (.int x.1)), (x.2, S.2)) : am_R))) := by
  refine am_M_of (w := fun (x : Int32 × (Nat → Nat → Int32)) => ((.inl (some (.int x.1)), (x.2, S.2)) : am_R)) hl (by decide) (am_fc rfl (am_fc rfl am_fn)) (Nat.le_of_ble_eq_true rfl) ?_
  show am_Ev E l (RX12, cX12_readWind, 4, (some .boolean), [], am_rm 3 0 0) (fun b a s x => am_Z E 0 0 b a s ((fun (x : Int32 × (Nat → Nat → Int32)) => ((.inl (some (.int x.1)), (x.2, S.2)) : am_R)) x)) 0 0 0 [some (.ref p0), some (.int p1), none, none] [] S (f_X12_readWind S p0 p1)
  unfold f_X12_readWind
  refine ev_aload_n dX12_readWind_0 rfl ?_
  refine ev_iconst (v := 0) dX12_readWind_1 (by decide) ?_
  refine ev_bipush (v := 9) dX12_readWind_2 (by decide) ?_
  refine ev_callWI (am_callV (as := [.int 0, .int 9]) (o := p0) (st := []) cv_X12_141 dX12_readWind_4 kp0 rfl (am_le rfl) (am_fit (by omega) (by decide) (by decide) (by decide)) (t_X12_number hl kp0)) (fun y1 h1 => ?_)
  refine ev_istore_n dX12_readWind_7 (am_lt rfl) ?_
  refine ev_iload_n dX12_readWind_8 rfl ?_
  refine ev_reg (cs' := 0) (sl' := 0) 23 (fun t2 : Int32 × (Nat → Nat → Int32) => [some (.ref p0), some (.int p1), some (.int y1.1), none]) (fun t2 => [.int t2.1]) (fun t2 => (t2.2, S.2)) (fun hJ2 => ?_) (fun t2 => ?_)
  · refine ev_eq am_ib ?_
    refine ev_if_ge (tgt := 16) dX12_readWind_9 (by decide) (fun c2 => ?_) (fun c2 => ?_)
    · refine ev_aload_n dX12_readWind_16 rfl ?_
      refine ev_iconst (v := 0) dX12_readWind_17 (by decide) ?_
      refine ev_bipush (v := 9) dX12_readWind_18 (by decide) ?_
      refine ev_eq (Option.bind_assoc _ _ _) ?_
      refine ev_callWI (am_callV (as := [.int 0, .int 9]) (o := p0) (st := []) cv_X12_141 dX12_readWind_20 kp0 rfl (am_le rfl) (am_fit (by omega) (by decide) (by decide) (by decide)) (t_X12_number hl kp0)) (fun y3 h3 => ?_)
      exact ev_leaf (am_wk (am_wk (am_wk (am_wf am_wn)))) (hJ2 (y3.1, y3.2))
    · refine ev_iconst (v := (-1)) dX12_readWind_12 (by decide) ?_
      refine ev_goto (tgt := 23) dX12_readWind_13 (by decide) ?_
      exact ev_leaf (am_wk (am_wk (am_wk (am_wf am_wn)))) (hJ2 (((-1) : Int32), y1.2))
  · refine ev_istore_n dX12_readWind_23 (am_lt rfl) ?_
    refine ev_iload_n dX12_readWind_24 rfl ?_
    refine ev_if_ge (tgt := 30) dX12_readWind_25 (by decide) (fun c4 => ?_) (fun c4 => ?_)
    · refine ev_aload_n dX12_readWind_30 rfl ?_
      refine ev_getR fk_X12_13 (by decide) dX12_readWind_31 kp0 (fun q5 k5 r5 => ?_)
      refine ev_bipush (v := 6) dX12_readWind_34 (by decide) ?_
      refine ev_iload_n dX12_readWind_36 rfl ?_
      refine ev_iload_n dX12_readWind_37 rfl ?_
      refine ev_imul dX12_readWind_38 ?_
      refine ev_iast dX12_readWind_39 k5 (fun σ6 h6 => ?_)
      refine ev_aload_n dX12_readWind_40 rfl ?_
      refine ev_getR fk_X12_13 (by decide) dX12_readWind_41 kp0 (fun q7 k7 r7 => ?_)
      refine ev_bipush (v := 7) dX12_readWind_44 (by decide) ?_
      refine ev_iload_n dX12_readWind_46 rfl ?_
      refine ev_iload_n dX12_readWind_47 rfl ?_
      refine ev_imul dX12_readWind_48 ?_
      refine ev_iast dX12_readWind_49 k7 (fun σ8 h8 => ?_)
      refine ev_iconst (v := 1) dX12_readWind_50 (by decide) ?_
      exact ev_iret dX12_readWind_51 rfl (by decide) (by decide) (by decide) rfl
    · refine ev_iconst (v := 0) dX12_readWind_28 (by decide) ?_
      exact ev_iret dX12_readWind_29 rfl (by decide) (by decide) (by decide) rfl
def f_X12_emits (S : am_S) (p0 : Nat) (p1 : Int32) (p2 : Int32) : Option ((Nat → Nat → Int32)) :=
  ((am_rd S.2 p0 1 1).bind (fun q1 => ((am_st S.1 q1 (1060 + (2 * (S.1 p0 13))) p1).bind (fun σ2 => ((am_rd S.2 p0 1 1).bind (fun q3 => ((am_st σ2 q3 ((1060 + (2 * (σ2 p0 13))) + 1) p2).bind (fun σ4 => some (am_u2 σ4 p0 13 ((σ4 p0 13) + 1))))))))))
set_option maxRecDepth 20000 in
theorem t_X12_emits {E : am_E} {l : Launch} (hl : l.stackTraces = false) {S : am_S} {p0 : Nat} {p1 : Int32} {p2 : Int32} (kp0 : am_kd p0 = 112) : am_M E l yX12_emits (.code yX12_emits cX12_emits 3 none) 0 0 0 [.ref p0, .int p1, .int p2] S ((f_X12_emits S p0 p1 p2).map (fun (x : Nat → Nat → Int32) => ((.inl none, (x, S.2)) : am_R))) := by
  refine am_M_of (w := fun (x : Nat → Nat → Int32) => ((.inl none, (x, S.2)) : am_R)) hl (by decide) (am_fc rfl (am_fc rfl (am_fc rfl am_fn))) (Nat.le_of_ble_eq_true rfl) ?_
  show am_Ev E l (RX12, cX12_emits, 3, none, [], am_rm 0 0 0) (fun b a s x => am_Z E 0 0 b a s ((fun (x : Nat → Nat → Int32) => ((.inl none, (x, S.2)) : am_R)) x)) 0 0 0 [some (.ref p0), some (.int p1), some (.int p2)] [] S (f_X12_emits S p0 p1 p2)
  unfold f_X12_emits
  refine ev_aload_n dX12_emits_0 rfl ?_
  refine ev_getR fk_X12_13 (by decide) dX12_emits_1 kp0 (fun q1 k1 r1 => ?_)
  refine ev_sipush (v := 1060) dX12_emits_4 (by decide) ?_
  refine ev_iconst (v := 2) dX12_emits_7 (by decide) ?_
  refine ev_aload_n dX12_emits_8 rfl ?_
  refine ev_get fk_X12_179 dX12_emits_9 kp0 (am_fvI (by decide)) ?_
  refine ev_imul dX12_emits_12 ?_
  refine ev_iadd dX12_emits_13 ?_
  refine ev_iload_n dX12_emits_14 rfl ?_
  refine ev_iast dX12_emits_15 k1 (fun σ2 h2 => ?_)
  refine ev_aload_n dX12_emits_16 rfl ?_
  refine ev_getR fk_X12_13 (by decide) dX12_emits_17 kp0 (fun q3 k3 r3 => ?_)
  refine ev_sipush (v := 1060) dX12_emits_20 (by decide) ?_
  refine ev_iconst (v := 2) dX12_emits_23 (by decide) ?_
  refine ev_aload_n dX12_emits_24 rfl ?_
  refine ev_get fk_X12_179 dX12_emits_25 kp0 (am_fvI (by decide)) ?_
  refine ev_imul dX12_emits_28 ?_
  refine ev_iadd dX12_emits_29 ?_
  refine ev_iconst (v := 1) dX12_emits_30 (by decide) ?_
  refine ev_iadd dX12_emits_31 ?_
  refine ev_iload_n dX12_emits_32 rfl ?_
  refine ev_iast dX12_emits_33 k3 (fun σ4 h4 => ?_)
  refine ev_aload_n dX12_emits_34 rfl ?_
  refine ev_dup dX12_emits_35 rfl ?_
  refine ev_get fk_X12_179 dX12_emits_36 kp0 (am_fvI (by decide)) ?_
  refine ev_iconst (v := 1) dX12_emits_39 (by decide) ?_
  refine ev_iadd dX12_emits_40 ?_
  refine ev_putI fk_X12_179 tyX12 tyX12_ok nmX12 rfl (by decide +kernel) (by decide) dX12_emits_41 kp0 ?_
  exact ev_vret dX12_emits_44 rfl (by decide) (by decide) rfl
def f_X12_farOf (S : am_S) (p0 : Nat) (p1 : Int32) (p2 : Int32) : Option (Int32) :=
  ((f_X12_of S p0 p2 0).bind (fun v1 => ((am_rd S.2 p0 1 1).bind (fun q2 => ((am_ld S.1 q2 6).bind (fun v3 => ((f_X12_of S p0 p1 0).bind (fun v4 => ((f_J9_abs_0f7a4 ((v1 + v3) - v4)).bind (fun v5 => ((f_X12_of S p0 p2 1).bind (fun v6 => ((am_rd S.2 p0 1 1).bind (fun q7 => ((am_ld S.1 q7 7).bind (fun v8 => ((f_X12_of S p0 p1 1).bind (fun v9 => ((f_J9_abs_0f7a4 ((v6 + v8) - v9)).bind (fun v10 => some (v5 + v10)))))))))))))))))))))
set_option maxRecDepth 20000 in
theorem t_X12_farOf {E : am_E} {l : Launch} (hl : l.stackTraces = false) {S : am_S} {p0 : Nat} {p1 : Int32} {p2 : Int32} (kp0 : am_kd p0 = 112) : am_M E l yX12_farOf (.code yX12_farOf cX12_farOf 3 (some .int)) 1 0 0 [.ref p0, .int p1, .int p2] S ((f_X12_farOf S p0 p1 p2).map (fun (v : Int32) => ((.inl (some (.int v)), S) : am_R))) := by
  refine am_M_of (w := fun (v : Int32) => ((.inl (some (.int v)), S) : am_R)) hl (by decide) (am_fc rfl (am_fc rfl (am_fc rfl am_fn))) (Nat.le_of_ble_eq_true rfl) ?_
  show am_Ev E l (RX12, cX12_farOf, 3, (some .int), [], am_rm 1 0 0) (fun b a s x => am_Z E 0 0 b a s ((fun (v : Int32) => ((.inl (some (.int v)), S) : am_R)) x)) 0 0 0 [some (.ref p0), some (.int p1), some (.int p2)] [] S (f_X12_farOf S p0 p1 p2)
  unfold f_X12_farOf
  refine ev_aload_n dX12_farOf_0 rfl ?_
  refine ev_iload_n dX12_farOf_1 rfl ?_
  refine ev_iconst (v := 0) dX12_farOf_2 (by decide) ?_
  refine ev_callP (am_callV (as := [.int p2, .int 0]) (o := p0) (st := []) cv_X12_70 dX12_farOf_3 kp0 rfl (am_le rfl) (am_fit (by omega) (by decide) (by decide) (by decide)) (t_X12_of hl kp0)) (fun v1 h1 => ?_)
  refine ev_aload_n dX12_farOf_6 rfl ?_
  refine ev_getR fk_X12_13 (by decide) dX12_farOf_7 kp0 (fun q2 k2 r2 => ?_)
  refine ev_bipush (v := 6) dX12_farOf_10 (by decide) ?_
  refine ev_iald dX12_farOf_12 k2 (fun v3 h3 => ?_)
  refine ev_iadd dX12_farOf_13 ?_
  refine ev_aload_n dX12_farOf_14 rfl ?_
  refine ev_iload_n dX12_farOf_15 rfl ?_
  refine ev_iconst (v := 0) dX12_farOf_16 (by decide) ?_
  refine ev_callP (am_callV (as := [.int p1, .int 0]) (o := p0) (st := [.int (v1 + v3)]) cv_X12_70 dX12_farOf_17 kp0 rfl (am_le rfl) (am_fit (by omega) (by decide) (by decide) (by decide)) (t_X12_of hl kp0)) (fun v4 h4 => ?_)
  refine ev_isub dX12_farOf_20 ?_
  refine ev_callP (am_callS (as := [.int ((v1 + v3) - v4)]) (st := []) ct_X12_245 dX12_farOf_21 rfl (am_le rfl) (am_fit (by omega) (by decide) (by decide) (by decide)) (t_J9_abs_0f7a4 hl )) (fun v5 h5 => ?_)
  refine ev_aload_n dX12_farOf_24 rfl ?_
  refine ev_iload_n dX12_farOf_25 rfl ?_
  refine ev_iconst (v := 1) dX12_farOf_26 (by decide) ?_
  refine ev_callP (am_callV (as := [.int p2, .int 1]) (o := p0) (st := [.int v5]) cv_X12_70 dX12_farOf_27 kp0 rfl (am_le rfl) (am_fit (by omega) (by decide) (by decide) (by decide)) (t_X12_of hl kp0)) (fun v6 h6 => ?_)
  refine ev_aload_n dX12_farOf_30 rfl ?_
  refine ev_getR fk_X12_13 (by decide) dX12_farOf_31 kp0 (fun q7 k7 r7 => ?_)
  refine ev_bipush (v := 7) dX12_farOf_34 (by decide) ?_
  refine ev_iald dX12_farOf_36 k7 (fun v8 h8 => ?_)
  refine ev_iadd dX12_farOf_37 ?_
  refine ev_aload_n dX12_farOf_38 rfl ?_
  refine ev_iload_n dX12_farOf_39 rfl ?_
  refine ev_iconst (v := 1) dX12_farOf_40 (by decide) ?_
  refine ev_callP (am_callV (as := [.int p1, .int 1]) (o := p0) (st := [.int (v6 + v8), .int v5]) cv_X12_70 dX12_farOf_41 kp0 rfl (am_le rfl) (am_fit (by omega) (by decide) (by decide) (by decide)) (t_X12_of hl kp0)) (fun v9 h9 => ?_)
  refine ev_isub dX12_farOf_44 ?_
  refine ev_callP (am_callS (as := [.int ((v6 + v8) - v9)]) (st := [.int v5]) ct_X12_245 dX12_farOf_45 rfl (am_le rfl) (am_fit (by omega) (by decide) (by decide) (by decide)) (t_J9_abs_0f7a4 hl )) (fun v10 h10 => ?_)
  refine ev_iadd dX12_farOf_48 ?_
  exact ev_iret dX12_farOf_49 rfl rfl (by decide) (by decide) rfl
def f_X12_isHearing (S : am_S) (p0 : Nat) (p1 : Int32) (p2 : Int32) : Option (Int32) :=
  (if p1 = p2 then some 0 else ((f_X12_of S p0 p1 4).bind (fun v2 => (if v2 = 0 then ((f_X12_farOf S p0 p1 p2).bind (fun v4 => ((f_X12_of S p0 p2 2).bind (fun v5 => (if v5 < v4 then some 0 else some 1))))) else some 0))))
set_option maxRecDepth 20000 in
theorem t_X12_isHearing {E : am_E} {l : Launch} (hl : l.stackTraces = false) {S : am_S} {p0 : Nat} {p1 : Int32} {p2 : Int32} (kp0 : am_kd p0 = 112) : am_M E l yX12_isHearing (.code yX12_isHearing cX12_isHearing 3 (some .boolean)) 2 0 0 [.ref p0, .int p1, .int p2] S ((f_X12_isHearing S p0 p1 p2).map (fun (v : Int32) => ((.inl (some (.int v)), S) : am_R))) := by
  refine am_M_of (w := fun (v : Int32) => ((.inl (some (.int v)), S) : am_R)) hl (by decide) (am_fc rfl (am_fc rfl (am_fc rfl am_fn))) (Nat.le_of_ble_eq_true rfl) ?_
  show am_Ev E l (RX12, cX12_isHearing, 3, (some .boolean), [], am_rm 2 0 0) (fun b a s x => am_Z E 0 0 b a s ((fun (v : Int32) => ((.inl (some (.int v)), S) : am_R)) x)) 0 0 0 [some (.ref p0), some (.int p1), some (.int p2)] [] S (f_X12_isHearing S p0 p1 p2)
  unfold f_X12_isHearing
  refine ev_iload_n dX12_isHearing_0 rfl ?_
  refine ev_iload_n dX12_isHearing_1 rfl ?_
  refine ev_icmp_eq (tgt := 33) dX12_isHearing_2 (by decide) (fun c1 => ?_) (fun c1 => ?_)
  · refine ev_iconst (v := 0) dX12_isHearing_33 (by decide) ?_
    exact ev_iret dX12_isHearing_34 rfl (by decide) (by decide) (by decide) rfl
  · refine ev_aload_n dX12_isHearing_5 rfl ?_
    refine ev_iload_n dX12_isHearing_6 rfl ?_
    refine ev_iconst (v := 4) dX12_isHearing_7 (by decide) ?_
    refine ev_callP (am_callV (as := [.int p1, .int 4]) (o := p0) (st := []) cv_X12_70 dX12_isHearing_8 kp0 rfl (am_le rfl) (am_fit (by omega) (by decide) (by decide) (by decide)) (t_X12_of hl kp0)) (fun v2 h2 => ?_)
    refine ev_if_ne (tgt := 33) dX12_isHearing_11 (by decide) (fun c3 => ?_) (fun c3 => ?_)
    · refine ev_iconst (v := 0) dX12_isHearing_33 (by decide) ?_
      exact ev_iret dX12_isHearing_34 rfl (by decide) (by decide) (by decide) rfl
    · refine ev_aload_n dX12_isHearing_14 rfl ?_
      refine ev_iload_n dX12_isHearing_15 rfl ?_
      refine ev_iload_n dX12_isHearing_16 rfl ?_
      refine ev_callP (am_callV (as := [.int p1, .int p2]) (o := p0) (st := []) cv_X12_248 dX12_isHearing_17 kp0 rfl (am_le rfl) (am_fit (by omega) (by decide) (by decide) (by decide)) (t_X12_farOf hl kp0)) (fun v4 h4 => ?_)
      refine ev_aload_n dX12_isHearing_20 rfl ?_
      refine ev_iload_n dX12_isHearing_21 rfl ?_
      refine ev_iconst (v := 2) dX12_isHearing_22 (by decide) ?_
      refine ev_callP (am_callV (as := [.int p2, .int 2]) (o := p0) (st := [.int v4]) cv_X12_70 dX12_isHearing_23 kp0 rfl (am_le rfl) (am_fit (by omega) (by decide) (by decide) (by decide)) (t_X12_of hl kp0)) (fun v5 h5 => ?_)
      refine ev_icmp_gt (tgt := 33) dX12_isHearing_26 (by decide) (fun c6 => ?_) (fun c6 => ?_)
      · refine ev_iconst (v := 0) dX12_isHearing_33 (by decide) ?_
        exact ev_iret dX12_isHearing_34 rfl (by decide) (by decide) (by decide) rfl
      · refine ev_iconst (v := 1) dX12_isHearing_29 (by decide) ?_
        refine ev_goto (tgt := 34) dX12_isHearing_30 (by decide) ?_
        exact ev_iret dX12_isHearing_34 rfl (by decide) (by decide) (by decide) rfl
def f_X12_clearOf (S : am_S) (p0 : Nat) (p1 : Int32) (p2 : Int32) : Option (Int32) :=
  ((f_X12_isHearing S p0 p1 p2).bind (fun v1 => (if v1 = 0 then some 0 else ((f_X12_of S p0 p2 2).bind (fun v3 => ((f_X12_farOf S p0 p1 p2).bind (fun v4 => some (((v3 - v4) / 3) + 1))))))))
set_option maxRecDepth 20000 in
theorem t_X12_clearOf {E : am_E} {l : Launch} (hl : l.stackTraces = false) {S : am_S} {p0 : Nat} {p1 : Int32} {p2 : Int32} (kp0 : am_kd p0 = 112) : am_M E l yX12_clearOf (.code yX12_clearOf cX12_clearOf 3 (some .int)) 3 0 0 [.ref p0, .int p1, .int p2] S ((f_X12_clearOf S p0 p1 p2).map (fun (v : Int32) => ((.inl (some (.int v)), S) : am_R))) := by
  refine am_M_of (w := fun (v : Int32) => ((.inl (some (.int v)), S) : am_R)) hl (by decide) (am_fc rfl (am_fc rfl (am_fc rfl am_fn))) (Nat.le_of_ble_eq_true rfl) ?_
  show am_Ev E l (RX12, cX12_clearOf, 3, (some .int), [], am_rm 3 0 0) (fun b a s x => am_Z E 0 0 b a s ((fun (v : Int32) => ((.inl (some (.int v)), S) : am_R)) x)) 0 0 0 [some (.ref p0), some (.int p1), some (.int p2)] [] S (f_X12_clearOf S p0 p1 p2)
  unfold f_X12_clearOf
  refine ev_aload_n dX12_clearOf_0 rfl ?_
  refine ev_iload_n dX12_clearOf_1 rfl ?_
  refine ev_iload_n dX12_clearOf_2 rfl ?_
  refine ev_callP (am_callV (as := [.int p1, .int p2]) (o := p0) (st := []) cv_X12_251 dX12_clearOf_3 kp0 rfl (am_le rfl) (am_fit (by omega) (by decide) (by decide) (by decide)) (t_X12_isHearing hl kp0)) (fun v1 h1 => ?_)
  refine ev_if_eq (tgt := 29) dX12_clearOf_6 (by decide) (fun c2 => ?_) (fun c2 => ?_)
  · refine ev_iconst (v := 0) dX12_clearOf_29 (by decide) ?_
    exact ev_iret dX12_clearOf_30 rfl rfl (by decide) (by decide) rfl
  · refine ev_aload_n dX12_clearOf_9 rfl ?_
    refine ev_iload_n dX12_clearOf_10 rfl ?_
    refine ev_iconst (v := 2) dX12_clearOf_11 (by decide) ?_
    refine ev_callP (am_callV (as := [.int p2, .int 2]) (o := p0) (st := []) cv_X12_70 dX12_clearOf_12 kp0 rfl (am_le rfl) (am_fit (by omega) (by decide) (by decide) (by decide)) (t_X12_of hl kp0)) (fun v3 h3 => ?_)
    refine ev_aload_n dX12_clearOf_15 rfl ?_
    refine ev_iload_n dX12_clearOf_16 rfl ?_
    refine ev_iload_n dX12_clearOf_17 rfl ?_
    refine ev_callP (am_callV (as := [.int p1, .int p2]) (o := p0) (st := [.int v3]) cv_X12_248 dX12_clearOf_18 kp0 rfl (am_le rfl) (am_fit (by omega) (by decide) (by decide) (by decide)) (t_X12_farOf hl kp0)) (fun v4 h4 => ?_)
    refine ev_isub dX12_clearOf_21 ?_
    refine ev_iconst (v := 3) dX12_clearOf_22 (by decide) ?_
    refine ev_idiv dX12_clearOf_23 (by decide) ?_
    refine ev_iconst (v := 1) dX12_clearOf_24 (by decide) ?_
    refine ev_iadd dX12_clearOf_25 ?_
    refine ev_goto (tgt := 30) dX12_clearOf_26 (by decide) ?_
    exact ev_iret dX12_clearOf_30 rfl rfl (by decide) (by decide) rfl
def f_X12_isHarm_b27 (S : am_S) (a0 : Nat) (a1 : Int32) (a2 : Int32) (x5 : Int32 × Int32) : Option ((Int32 × Int32) ⊕ (Int32)) :=
  ((f_X12_houses S a0).bind (fun v6 => (if x5.2 < v6 then ((if x5.1 = 0 then (if a1 = a2 then some (0 : Int32) else ((f_X12_isHearing S a0 x5.2 a1).bind (fun v10 => (if v10 = 0 then some (0 : Int32) else ((f_X12_isHearing S a0 x5.2 a2).bind (fun v12 => (if v12 = 0 then some (0 : Int32) else some (1 : Int32)))))))) else some (1 : Int32)).bind (fun t8 => some (.inl (t8, (x5.2 + 1))))) else some (.inr x5.1))))
def f_X12_isHarm (S : am_S) (p0 : Nat) (p1 : Int32) (p2 : Int32) : Option (Int32) :=
  ((f_X12_isHearing S p0 p1 p2).bind (fun v1 => ((if v1 = 0 then ((f_X12_isHearing S p0 p2 p1).bind (fun v3 => (if v3 = 0 then some (0 : Int32) else some (1 : Int32)))) else some (1 : Int32)).bind (fun t2 => ((am_loop (f_X12_isHarm_b27 S p0 p1 p2) am_fuel (t2, 0)).bind (fun t5 => (if t5 = 0 ∨ t5 = 1 then some t5 else none)))))))
set_option maxRecDepth 20000 in
theorem t_X12_isHarm {E : am_E} {l : Launch} (hl : l.stackTraces = false) {S : am_S} {p0 : Nat} {p1 : Int32} {p2 : Int32} (kp0 : am_kd p0 = 112) : am_M E l yX12_isHarm (.code yX12_isHarm cX12_isHarm 5 (some .boolean)) 3 0 0 [.ref p0, .int p1, .int p2] S ((f_X12_isHarm S p0 p1 p2).map (fun (v : Int32) => ((.inl (some (.int v)), S) : am_R))) := by
  refine am_M_of (w := fun (v : Int32) => ((.inl (some (.int v)), S) : am_R)) hl (by decide) (am_fc rfl (am_fc rfl (am_fc rfl am_fn))) (Nat.le_of_ble_eq_true rfl) ?_
  show am_Ev E l (RX12, cX12_isHarm, 5, (some .boolean), [], am_rm 3 0 0) (fun b a s x => am_Z E 0 0 b a s ((fun (v : Int32) => ((.inl (some (.int v)), S) : am_R)) x)) 0 0 0 [some (.ref p0), some (.int p1), some (.int p2), none, none] [] S (f_X12_isHarm S p0 p1 p2)
  unfold f_X12_isHarm
  refine ev_aload_n dX12_isHarm_0 rfl ?_
  refine ev_iload_n dX12_isHarm_1 rfl ?_
  refine ev_iload_n dX12_isHarm_2 rfl ?_
  refine ev_callP (am_callV (as := [.int p1, .int p2]) (o := p0) (st := []) cv_X12_251 dX12_isHarm_3 kp0 rfl (am_le rfl) (am_fit (by omega) (by decide) (by decide) (by decide)) (t_X12_isHearing hl kp0)) (fun v1 h1 => ?_)
  refine ev_reg (cs' := 0) (sl' := 0) 23 (fun t2 : Int32 => [some (.ref p0), some (.int p1), some (.int p2), none, none]) (fun t2 => [.int t2]) (fun t2 => S) (fun hJ2 => ?_) (fun t2 => ?_)
  · refine ev_eq am_ib ?_
    refine ev_if_ne (tgt := 18) dX12_isHarm_6 (by decide) (fun c2 => ?_) (fun c2 => ?_)
    · refine ev_iconst (v := 1) dX12_isHarm_18 (by decide) ?_
      refine ev_goto (tgt := 23) dX12_isHarm_19 (by decide) ?_
      exact ev_leaf (am_wk (am_wk (am_wk (am_wf (am_wf am_wn))))) (hJ2 (1 : Int32))
    · refine ev_aload_n dX12_isHarm_9 rfl ?_
      refine ev_iload_n dX12_isHarm_10 rfl ?_
      refine ev_iload_n dX12_isHarm_11 rfl ?_
      refine ev_eq (Option.bind_assoc _ _ _) ?_
      refine ev_callP (am_callV (as := [.int p2, .int p1]) (o := p0) (st := []) cv_X12_251 dX12_isHarm_12 kp0 rfl (am_le rfl) (am_fit (by omega) (by decide) (by decide) (by decide)) (t_X12_isHearing hl kp0)) (fun v3 h3 => ?_)
      refine ev_eq am_ib ?_
      refine ev_if_eq (tgt := 22) dX12_isHarm_15 (by decide) (fun c4 => ?_) (fun c4 => ?_)
      · refine ev_iconst (v := 0) dX12_isHarm_22 (by decide) ?_
        exact ev_leaf (am_wk (am_wk (am_wk (am_wf (am_wf am_wn))))) (hJ2 (0 : Int32))
      · refine ev_iconst (v := 1) dX12_isHarm_18 (by decide) ?_
        refine ev_goto (tgt := 23) dX12_isHarm_19 (by decide) ?_
        exact ev_leaf (am_wk (am_wk (am_wk (am_wf (am_wf am_wn))))) (hJ2 (1 : Int32))
  · refine ev_istore_n dX12_isHarm_23 (am_lt rfl) ?_
    refine ev_iconst (v := 0) dX12_isHarm_24 (by decide) ?_
    refine ev_istore dX12_isHarm_25 (am_lt rfl) ?_
    refine ev_weak (am_wk (am_wk (am_wk (am_wk (am_wk am_wn))))) (ev_loop 27 77 (fun x5 : Int32 × Int32 => [some (.ref p0), some (.int p1), some (.int p2), some (.int x5.1), some (.int x5.2)]) (fun t5 : Int32 => [none, none, none, some (.int t5), none]) (fun x5 => S) (fun t5 => S) (fun x5 G5 hB5 hE5 => ?_) (fun t5 => ?_) am_fuel (t2, 0))
    · unfold f_X12_isHarm_b27
      refine ev_iload dX12_isHarm_27 rfl ?_
      refine ev_aload_n dX12_isHarm_29 rfl ?_
      refine ev_eq (Option.bind_assoc _ _ _) ?_
      refine ev_callP (am_callV (as := []) (o := p0) (st := [.int x5.2]) cv_X12_74 dX12_isHarm_30 kp0 rfl (am_le rfl) (am_fit (by omega) (by decide) (by decide) (by decide)) (t_X12_houses hl kp0)) (fun v14 h14 => ?_)
      refine ev_eq am_ib ?_
      refine ev_icmp_ge (tgt := 77) dX12_isHarm_33 (by decide) (fun c15 => ?_) (fun c15 => ?_)
      · exact ev_leaf (am_wf (am_wf (am_wf (am_wk (am_wf am_wn))))) (hE5 x5.1)
      · refine ev_iload_n dX12_isHarm_36 rfl ?_
        refine ev_eq (Option.bind_assoc _ _ _) ?_
        refine ev_reg (cs' := 0) (sl' := 0) 70 (fun t16 : Int32 => [some (.ref p0), some (.int p1), some (.int p2), none, some (.int x5.2)]) (fun t16 => [.int t16]) (fun t16 => S) (fun hJ16 => ?_) (fun t16 => ?_)
        · refine ev_eq am_ib ?_
          refine ev_if_ne (tgt := 65) dX12_isHarm_37 (by decide) (fun c16 => ?_) (fun c16 => ?_)
          · refine ev_iconst (v := 1) dX12_isHarm_65 (by decide) ?_
            refine ev_goto (tgt := 70) dX12_isHarm_66 (by decide) ?_
            exact ev_leaf (am_wk (am_wk (am_wk (am_wf (am_wk am_wn))))) (hJ16 (1 : Int32))
          · refine ev_iload_n dX12_isHarm_40 rfl ?_
            refine ev_iload_n dX12_isHarm_41 rfl ?_
            refine ev_eq am_ib ?_
            refine ev_icmp_eq (tgt := 69) dX12_isHarm_42 (by decide) (fun c17 => ?_) (fun c17 => ?_)
            · refine ev_iconst (v := 0) dX12_isHarm_69 (by decide) ?_
              exact ev_leaf (am_wk (am_wk (am_wk (am_wf (am_wk am_wn))))) (hJ16 (0 : Int32))
            · refine ev_aload_n dX12_isHarm_45 rfl ?_
              refine ev_iload dX12_isHarm_46 rfl ?_
              refine ev_iload_n dX12_isHarm_48 rfl ?_
              refine ev_eq (Option.bind_assoc _ _ _) ?_
              refine ev_callP (am_callV (as := [.int x5.2, .int p1]) (o := p0) (st := []) cv_X12_251 dX12_isHarm_49 kp0 rfl (am_le rfl) (am_fit (by omega) (by decide) (by decide) (by decide)) (t_X12_isHearing hl kp0)) (fun v18 h18 => ?_)
              refine ev_eq am_ib ?_
              refine ev_if_eq (tgt := 69) dX12_isHarm_52 (by decide) (fun c19 => ?_) (fun c19 => ?_)
              · refine ev_iconst (v := 0) dX12_isHarm_69 (by decide) ?_
                exact ev_leaf (am_wk (am_wk (am_wk (am_wf (am_wk am_wn))))) (hJ16 (0 : Int32))
              · refine ev_aload_n dX12_isHarm_55 rfl ?_
                refine ev_iload dX12_isHarm_56 rfl ?_
                refine ev_iload_n dX12_isHarm_58 rfl ?_
                refine ev_eq (Option.bind_assoc _ _ _) ?_
                refine ev_callP (am_callV (as := [.int x5.2, .int p2]) (o := p0) (st := []) cv_X12_251 dX12_isHarm_59 kp0 rfl (am_le rfl) (am_fit (by omega) (by decide) (by decide) (by decide)) (t_X12_isHearing hl kp0)) (fun v20 h20 => ?_)
                refine ev_eq am_ib ?_
                refine ev_if_eq (tgt := 69) dX12_isHarm_62 (by decide) (fun c21 => ?_) (fun c21 => ?_)
                · refine ev_iconst (v := 0) dX12_isHarm_69 (by decide) ?_
                  exact ev_leaf (am_wk (am_wk (am_wk (am_wf (am_wk am_wn))))) (hJ16 (0 : Int32))
                · refine ev_iconst (v := 1) dX12_isHarm_65 (by decide) ?_
                  refine ev_goto (tgt := 70) dX12_isHarm_66 (by decide) ?_
                  exact ev_leaf (am_wk (am_wk (am_wk (am_wf (am_wk am_wn))))) (hJ16 (1 : Int32))
        · refine ev_istore_n dX12_isHarm_70 (am_lt rfl) ?_
          refine ev_iinc (v := (x5.2 + 1)) dX12_isHarm_71 (am_lt rfl) rfl rfl ?_
          refine ev_goto (tgt := 27) dX12_isHarm_74 (by decide) ?_
          exact ev_leaf (am_wk (am_wk (am_wk (am_wk (am_wk am_wn))))) (hB5 (t16, (x5.2 + 1)))
    · refine ev_iload_n dX12_isHarm_77 rfl ?_
      refine ev_split (fun c22 => ?_) (fun _ => ?_)
      · exact ev_iret dX12_isHarm_78 rfl (am_nb c22) (by decide) (by decide) rfl
      · exact ev_none
def f_X12_wordsOf_b4 (S : am_S) (a0 : Nat) (a1 : Int32) (x1 : Int32 × Int32) : Option ((Int32 × Int32) ⊕ (Int32)) :=
  ((f_X12_wants S a0).bind (fun v2 => (if x1.2 < v2 then ((f_X12_wordOf S a0 a1 x1.2).bind (fun v4 => ((if 0 < v4 then some (1 : Int32) else some (0 : Int32)).bind (fun t5 => some (.inl ((x1.1 + t5), (x1.2 + 1))))))) else some (.inr x1.1))))
def f_X12_wordsOf (S : am_S) (p0 : Nat) (p1 : Int32) : Option (Int32) :=
  ((am_loop (f_X12_wordsOf_b4 S p0 p1) am_fuel (0, 0)).bind (fun t1 => some t1))
set_option maxRecDepth 20000 in
theorem t_X12_wordsOf {E : am_E} {l : Launch} (hl : l.stackTraces = false) {S : am_S} {p0 : Nat} {p1 : Int32} (kp0 : am_kd p0 = 112) : am_M E l yX12_wordsOf (.code yX12_wordsOf cX12_wordsOf 4 (some .int)) 2 0 0 [.ref p0, .int p1] S ((f_X12_wordsOf S p0 p1).map (fun (v : Int32) => ((.inl (some (.int v)), S) : am_R))) := by
  refine am_M_of (w := fun (v : Int32) => ((.inl (some (.int v)), S) : am_R)) hl (by decide) (am_fc rfl (am_fc rfl am_fn)) (Nat.le_of_ble_eq_true rfl) ?_
  show am_Ev E l (RX12, cX12_wordsOf, 4, (some .int), [], am_rm 2 0 0) (fun b a s x => am_Z E 0 0 b a s ((fun (v : Int32) => ((.inl (some (.int v)), S) : am_R)) x)) 0 0 0 [some (.ref p0), some (.int p1), none, none] [] S (f_X12_wordsOf S p0 p1)
  unfold f_X12_wordsOf
  refine ev_iconst (v := 0) dX12_wordsOf_0 (by decide) ?_
  refine ev_istore_n dX12_wordsOf_1 (am_lt rfl) ?_
  refine ev_iconst (v := 0) dX12_wordsOf_2 (by decide) ?_
  refine ev_istore_n dX12_wordsOf_3 (am_lt rfl) ?_
  refine ev_weak (am_wk (am_wk (am_wk (am_wk am_wn)))) (ev_loop 4 35 (fun x1 : Int32 × Int32 => [some (.ref p0), some (.int p1), some (.int x1.1), some (.int x1.2)]) (fun t1 : Int32 => [none, none, some (.int t1), none]) (fun x1 => S) (fun t1 => S) (fun x1 G1 hB1 hE1 => ?_) (fun t1 => ?_) am_fuel (0, 0))
  · unfold f_X12_wordsOf_b4
    refine ev_iload_n dX12_wordsOf_4 rfl ?_
    refine ev_aload_n dX12_wordsOf_5 rfl ?_
    refine ev_eq (Option.bind_assoc _ _ _) ?_
    refine ev_callP (am_callV (as := []) (o := p0) (st := [.int x1.2]) cv_X12_82 dX12_wordsOf_6 kp0 rfl (am_le rfl) (am_fit (by omega) (by decide) (by decide) (by decide)) (t_X12_wants hl kp0)) (fun v6 h6 => ?_)
    refine ev_eq am_ib ?_
    refine ev_icmp_ge (tgt := 35) dX12_wordsOf_9 (by decide) (fun c7 => ?_) (fun c7 => ?_)
    · exact ev_leaf (am_wf (am_wf (am_wk (am_wf am_wn)))) (hE1 x1.1)
    · refine ev_iload_n dX12_wordsOf_12 rfl ?_
      refine ev_aload_n dX12_wordsOf_13 rfl ?_
      refine ev_iload_n dX12_wordsOf_14 rfl ?_
      refine ev_iload_n dX12_wordsOf_15 rfl ?_
      refine ev_eq (Option.bind_assoc _ _ _) ?_
      refine ev_callP (am_callV (as := [.int p1, .int x1.2]) (o := p0) (st := [.int x1.1]) cv_X12_254 dX12_wordsOf_16 kp0 rfl (am_le rfl) (am_fit (by omega) (by decide) (by decide) (by decide)) (t_X12_wordOf hl kp0)) (fun v8 h8 => ?_)
      refine ev_eq (Option.bind_assoc _ _ _) ?_
      refine ev_reg (cs' := 0) (sl' := 0) 27 (fun t9 : Int32 => [some (.ref p0), some (.int p1), none, some (.int x1.2)]) (fun t9 => [.int t9, .int x1.1]) (fun t9 => S) (fun hJ9 => ?_) (fun t9 => ?_)
      · refine ev_eq am_ib ?_
        refine ev_if_le (tgt := 26) dX12_wordsOf_19 (by decide) (fun c9 => ?_) (fun c9 => ?_)
        · refine ev_iconst (v := 0) dX12_wordsOf_26 (by decide) ?_
          exact ev_leaf (am_wk (am_wk (am_wf (am_wk am_wn)))) (hJ9 (0 : Int32))
        · refine ev_iconst (v := 1) dX12_wordsOf_22 (by decide) ?_
          refine ev_goto (tgt := 27) dX12_wordsOf_23 (by decide) ?_
          exact ev_leaf (am_wk (am_wk (am_wf (am_wk am_wn)))) (hJ9 (1 : Int32))
      · refine ev_iadd dX12_wordsOf_27 ?_
        refine ev_istore_n dX12_wordsOf_28 (am_lt rfl) ?_
        refine ev_iinc (v := (x1.2 + 1)) dX12_wordsOf_29 (am_lt rfl) rfl rfl ?_
        refine ev_goto (tgt := 4) dX12_wordsOf_32 (by decide) ?_
        exact ev_leaf (am_wk (am_wk (am_wk (am_wk am_wn)))) (hB1 ((x1.1 + t9), (x1.2 + 1)))
  · refine ev_iload_n dX12_wordsOf_35 rfl ?_
    exact ev_iret dX12_wordsOf_36 rfl rfl (by decide) (by decide) rfl
def f_X12_house (S : am_S) (p0 : Nat) (p1 : Int32) (p2 : Int32) : Option (Int32 × (Nat → Nat → Int32)) :=
  ((f_X12_noHouse ((am_u2 S.1 p0 0 0), S.2) p0 p1).bind (fun v1 => ((f_X12_throwsIf ((am_u2 S.1 p0 0 0), S.2) p0 v1 1).bind (fun y2 => (if y2.1 = 0 then ((f_X12_in p2 0 5).bind (fun v4 => ((if v4 = 0 then some (1 : Int32) else some (0 : Int32)).bind (fun t5 => ((f_X12_throwsIf (y2.2, S.2) p0 t5 2).bind (fun y6 => (if y6.1 = 0 then (if p2 < 5 then ((f_X12_of (y6.2, S.2) p0 p1 p2).bind (fun v10 => some (v10, y6.2))) else ((f_X12_wordsOf (y6.2, S.2) p0 p1).bind (fun v9 => some (v9, y6.2)))) else some (0, y6.2)))))))) else some (0, y2.2))))))
set_option maxRecDepth 20000 in
theorem t_X12_house {E : am_E} {l : Launch} (hl : l.stackTraces = false) {S : am_S} {p0 : Nat} {p1 : Int32} {p2 : Int32} (kp0 : am_kd p0 = 112) : am_M E l yX12_house (.code yX12_house cX12_house 3 (some .int)) 3 0 0 [.ref p0, .int p1, .int p2] S ((f_X12_house S p0 p1 p2).map (fun (x : Int32 × (Nat → Nat → Int32)) => ((.inl (some (.int x.1)), (x.2, S.2)) : am_R))) := by
  refine am_M_of (w := fun (x : Int32 × (Nat → Nat → Int32)) => ((.inl (some (.int x.1)), (x.2, S.2)) : am_R)) hl (by decide) (am_fc rfl (am_fc rfl (am_fc rfl am_fn))) (Nat.le_of_ble_eq_true rfl) ?_
  show am_Ev E l (RX12, cX12_house, 3, (some .int), [], am_rm 3 0 0) (fun b a s x => am_Z E 0 0 b a s ((fun (x : Int32 × (Nat → Nat → Int32)) => ((.inl (some (.int x.1)), (x.2, S.2)) : am_R)) x)) 0 0 0 [some (.ref p0), some (.int p1), some (.int p2)] [] S (f_X12_house S p0 p1 p2)
  unfold f_X12_house
  refine ev_aload_n dX12_house_0 rfl ?_
  refine ev_iconst (v := 0) dX12_house_1 (by decide) ?_
  refine ev_putI fk_X12_3 tyX12 tyX12_ok nmX12 rfl (by decide +kernel) (by decide) dX12_house_2 kp0 ?_
  refine ev_aload_n dX12_house_5 rfl ?_
  refine ev_aload_n dX12_house_6 rfl ?_
  refine ev_iload_n dX12_house_7 rfl ?_
  refine ev_callP (am_callV (as := [.int p1]) (o := p0) (st := [.ref p0]) cv_X12_257 dX12_house_8 kp0 rfl (am_le rfl) (am_fit (by omega) (by decide) (by decide) (by decide)) (t_X12_noHouse hl kp0)) (fun v1 h1 => ?_)
  refine ev_iconst (v := 1) dX12_house_11 (by decide) ?_
  refine ev_callWI (am_callV (as := [.int v1, .int 1]) (o := p0) (st := []) cv_X12_242 dX12_house_12 kp0 rfl (am_le rfl) (am_fit (by omega) (by decide) (by decide) (by decide)) (t_X12_throwsIf hl kp0)) (fun y2 h2 => ?_)
  refine ev_if_ne (tgt := 40) dX12_house_15 (by decide) (fun c3 => ?_) (fun c3 => ?_)
  · refine ev_iconst (v := 0) dX12_house_40 (by decide) ?_
    refine ev_goto (tgt := 63) dX12_house_41 (by decide) ?_
    exact ev_iret dX12_house_63 rfl rfl (by decide) (by decide) rfl
  · refine ev_aload_n dX12_house_18 rfl ?_
    refine ev_iload_n dX12_house_19 rfl ?_
    refine ev_iconst (v := 0) dX12_house_20 (by decide) ?_
    refine ev_iconst (v := 5) dX12_house_21 (by decide) ?_
    refine ev_callP (am_callS (as := [.int p2, .int 0, .int 5]) (st := [.ref p0]) ct_X12_78 dX12_house_22 rfl (am_le rfl) (am_fit (by omega) (by decide) (by decide) (by decide)) (t_X12_in hl )) (fun v4 h4 => ?_)
    refine ev_reg (cs' := 0) (sl' := 0) 33 (fun t5 : Int32 => [some (.ref p0), some (.int p1), some (.int p2)]) (fun t5 => [.int t5, .ref p0]) (fun t5 => (y2.2, S.2)) (fun hJ5 => ?_) (fun t5 => ?_)
    · refine ev_eq am_ib ?_
      refine ev_if_ne (tgt := 32) dX12_house_25 (by decide) (fun c5 => ?_) (fun c5 => ?_)
      · refine ev_iconst (v := 0) dX12_house_32 (by decide) ?_
        exact ev_leaf (am_wk (am_wk (am_wk am_wn))) (hJ5 (0 : Int32))
      · refine ev_iconst (v := 1) dX12_house_28 (by decide) ?_
        refine ev_goto (tgt := 33) dX12_house_29 (by decide) ?_
        exact ev_leaf (am_wk (am_wk (am_wk am_wn))) (hJ5 (1 : Int32))
    · refine ev_iconst (v := 2) dX12_house_33 (by decide) ?_
      refine ev_callWI (am_callV (as := [.int t5, .int 2]) (o := p0) (st := []) cv_X12_242 dX12_house_34 kp0 rfl (am_le rfl) (am_fit (by omega) (by decide) (by decide) (by decide)) (t_X12_throwsIf hl kp0)) (fun y6 h6 => ?_)
      refine ev_if_eq (tgt := 44) dX12_house_37 (by decide) (fun c7 => ?_) (fun c7 => ?_)
      · refine ev_iload_n dX12_house_44 rfl ?_
        refine ev_iconst (v := 5) dX12_house_45 (by decide) ?_
        refine ev_icmp_ge (tgt := 58) dX12_house_46 (by decide) (fun c8 => ?_) (fun c8 => ?_)
        · refine ev_aload_n dX12_house_58 rfl ?_
          refine ev_iload_n dX12_house_59 rfl ?_
          refine ev_callP (am_callV (as := [.int p1]) (o := p0) (st := []) cv_X12_260 dX12_house_60 kp0 rfl (am_le rfl) (am_fit (by omega) (by decide) (by decide) (by decide)) (t_X12_wordsOf hl kp0)) (fun v9 h9 => ?_)
          exact ev_iret dX12_house_63 rfl rfl (by decide) (by decide) rfl
        · refine ev_aload_n dX12_house_49 rfl ?_
          refine ev_iload_n dX12_house_50 rfl ?_
          refine ev_iload_n dX12_house_51 rfl ?_
          refine ev_callP (am_callV (as := [.int p1, .int p2]) (o := p0) (st := []) cv_X12_70 dX12_house_52 kp0 rfl (am_le rfl) (am_fit (by omega) (by decide) (by decide) (by decide)) (t_X12_of hl kp0)) (fun v10 h10 => ?_)
          refine ev_goto (tgt := 63) dX12_house_55 (by decide) ?_
          exact ev_iret dX12_house_63 rfl rfl (by decide) (by decide) rfl
      · refine ev_iconst (v := 0) dX12_house_40 (by decide) ?_
        refine ev_goto (tgt := 63) dX12_house_41 (by decide) ?_
        exact ev_iret dX12_house_63 rfl rfl (by decide) (by decide) rfl
def f_X12_want (S : am_S) (p0 : Nat) (p1 : Int32) : Option (Int32 × (Nat → Nat → Int32)) :=
  ((f_X12_noWant ((am_u2 S.1 p0 0 0), S.2) p0 p1).bind (fun v1 => ((f_X12_throwsIf ((am_u2 S.1 p0 0 0), S.2) p0 v1 1).bind (fun y2 => (if y2.1 = 0 then ((f_X12_urgent (y2.2, S.2) p0 p1).bind (fun v4 => some (v4, y2.2))) else some (0, y2.2))))))
set_option maxRecDepth 20000 in
theorem t_X12_want {E : am_E} {l : Launch} (hl : l.stackTraces = false) {S : am_S} {p0 : Nat} {p1 : Int32} (kp0 : am_kd p0 = 112) : am_M E l yX12_want (.code yX12_want cX12_want 2 (some .int)) 2 0 0 [.ref p0, .int p1] S ((f_X12_want S p0 p1).map (fun (x : Int32 × (Nat → Nat → Int32)) => ((.inl (some (.int x.1)), (x.2, S.2)) : am_R))) := by
  refine am_M_of (w := fun (x : Int32 × (Nat → Nat → Int32)) => ((.inl (some (.int x.1)), (x.2, S.2)) : am_R)) hl (by decide) (am_fc rfl (am_fc rfl am_fn)) (Nat.le_of_ble_eq_true rfl) ?_
  show am_Ev E l (RX12, cX12_want, 2, (some .int), [], am_rm 2 0 0) (fun b a s x => am_Z E 0 0 b a s ((fun (x : Int32 × (Nat → Nat → Int32)) => ((.inl (some (.int x.1)), (x.2, S.2)) : am_R)) x)) 0 0 0 [some (.ref p0), some (.int p1)] [] S (f_X12_want S p0 p1)
  unfold f_X12_want
  refine ev_aload_n dX12_want_0 rfl ?_
  refine ev_iconst (v := 0) dX12_want_1 (by decide) ?_
  refine ev_putI fk_X12_3 tyX12 tyX12_ok nmX12 rfl (by decide +kernel) (by decide) dX12_want_2 kp0 ?_
  refine ev_aload_n dX12_want_5 rfl ?_
  refine ev_aload_n dX12_want_6 rfl ?_
  refine ev_iload_n dX12_want_7 rfl ?_
  refine ev_callP (am_callV (as := [.int p1]) (o := p0) (st := [.ref p0]) cv_X12_263 dX12_want_8 kp0 rfl (am_le rfl) (am_fit (by omega) (by decide) (by decide) (by decide)) (t_X12_noWant hl kp0)) (fun v1 h1 => ?_)
  refine ev_iconst (v := 1) dX12_want_11 (by decide) ?_
  refine ev_callWI (am_callV (as := [.int v1, .int 1]) (o := p0) (st := []) cv_X12_242 dX12_want_12 kp0 rfl (am_le rfl) (am_fit (by omega) (by decide) (by decide) (by decide)) (t_X12_throwsIf hl kp0)) (fun y2 h2 => ?_)
  refine ev_if_eq (tgt := 22) dX12_want_15 (by decide) (fun c3 => ?_) (fun c3 => ?_)
  · refine ev_aload_n dX12_want_22 rfl ?_
    refine ev_iload_n dX12_want_23 rfl ?_
    refine ev_callP (am_callV (as := [.int p1]) (o := p0) (st := []) cv_X12_266 dX12_want_24 kp0 rfl (am_le rfl) (am_fit (by omega) (by decide) (by decide) (by decide)) (t_X12_urgent hl kp0)) (fun v4 h4 => ?_)
    exact ev_iret dX12_want_27 rfl rfl (by decide) (by decide) rfl
  · refine ev_iconst (v := 0) dX12_want_18 (by decide) ?_
    refine ev_goto (tgt := 27) dX12_want_19 (by decide) ?_
    exact ev_iret dX12_want_27 rfl rfl (by decide) (by decide) rfl
def f_X12_code (S : am_S) (p0 : Nat) (p1 : Int32) (p2 : Int32) : Option (Int32 × (Nat → Nat → Int32)) :=
  ((f_X12_noHouse ((am_u2 S.1 p0 0 0), S.2) p0 p1).bind (fun v1 => ((if v1 = 0 then ((f_X12_noWant ((am_u2 S.1 p0 0 0), S.2) p0 p2).bind (fun v3 => (if v3 = 0 then some (0 : Int32) else some (1 : Int32)))) else some (1 : Int32)).bind (fun t2 => ((f_X12_throwsIf ((am_u2 S.1 p0 0 0), S.2) p0 t2 1).bind (fun y5 => (if y5.1 = 0 then ((f_X12_wordOf (y5.2, S.2) p0 p1 p2).bind (fun v7 => (if 0 < v7 then ((f_X12_wordOf (y5.2, S.2) p0 p1 p2).bind (fun v9 => some (v9, y5.2))) else some ((-1), y5.2)))) else some (0, y5.2))))))))
set_option maxRecDepth 20000 in
theorem t_X12_code {E : am_E} {l : Launch} (hl : l.stackTraces = false) {S : am_S} {p0 : Nat} {p1 : Int32} {p2 : Int32} (kp0 : am_kd p0 = 112) : am_M E l yX12_code (.code yX12_code cX12_code 3 (some .int)) 2 0 0 [.ref p0, .int p1, .int p2] S ((f_X12_code S p0 p1 p2).map (fun (x : Int32 × (Nat → Nat → Int32)) => ((.inl (some (.int x.1)), (x.2, S.2)) : am_R))) := by
  refine am_M_of (w := fun (x : Int32 × (Nat → Nat → Int32)) => ((.inl (some (.int x.1)), (x.2, S.2)) : am_R)) hl (by decide) (am_fc rfl (am_fc rfl (am_fc rfl am_fn))) (Nat.le_of_ble_eq_true rfl) ?_
  show am_Ev E l (RX12, cX12_code, 3, (some .int), [], am_rm 2 0 0) (fun b a s x => am_Z E 0 0 b a s ((fun (x : Int32 × (Nat → Nat → Int32)) => ((.inl (some (.int x.1)), (x.2, S.2)) : am_R)) x)) 0 0 0 [some (.ref p0), some (.int p1), some (.int p2)] [] S (f_X12_code S p0 p1 p2)
  unfold f_X12_code
  refine ev_aload_n dX12_code_0 rfl ?_
  refine ev_iconst (v := 0) dX12_code_1 (by decide) ?_
  refine ev_putI fk_X12_3 tyX12 tyX12_ok nmX12 rfl (by decide +kernel) (by decide) dX12_code_2 kp0 ?_
  refine ev_aload_n dX12_code_5 rfl ?_
  refine ev_aload_n dX12_code_6 rfl ?_
  refine ev_iload_n dX12_code_7 rfl ?_
  refine ev_callP (am_callV (as := [.int p1]) (o := p0) (st := [.ref p0]) cv_X12_257 dX12_code_8 kp0 rfl (am_le rfl) (am_fit (by omega) (by decide) (by decide) (by decide)) (t_X12_noHouse hl kp0)) (fun v1 h1 => ?_)
  refine ev_reg (cs' := 0) (sl' := 0) 27 (fun t2 : Int32 => [some (.ref p0), some (.int p1), some (.int p2)]) (fun t2 => [.int t2, .ref p0]) (fun t2 => ((am_u2 S.1 p0 0 0), S.2)) (fun hJ2 => ?_) (fun t2 => ?_)
  · refine ev_eq am_ib ?_
    refine ev_if_ne (tgt := 22) dX12_code_11 (by decide) (fun c2 => ?_) (fun c2 => ?_)
    · refine ev_iconst (v := 1) dX12_code_22 (by decide) ?_
      refine ev_goto (tgt := 27) dX12_code_23 (by decide) ?_
      exact ev_leaf (am_wk (am_wk (am_wk am_wn))) (hJ2 (1 : Int32))
    · refine ev_aload_n dX12_code_14 rfl ?_
      refine ev_iload_n dX12_code_15 rfl ?_
      refine ev_eq (Option.bind_assoc _ _ _) ?_
      refine ev_callP (am_callV (as := [.int p2]) (o := p0) (st := [.ref p0]) cv_X12_263 dX12_code_16 kp0 rfl (am_le rfl) (am_fit (by omega) (by decide) (by decide) (by decide)) (t_X12_noWant hl kp0)) (fun v3 h3 => ?_)
      refine ev_eq am_ib ?_
      refine ev_if_eq (tgt := 26) dX12_code_19 (by decide) (fun c4 => ?_) (fun c4 => ?_)
      · refine ev_iconst (v := 0) dX12_code_26 (by decide) ?_
        exact ev_leaf (am_wk (am_wk (am_wk am_wn))) (hJ2 (0 : Int32))
      · refine ev_iconst (v := 1) dX12_code_22 (by decide) ?_
        refine ev_goto (tgt := 27) dX12_code_23 (by decide) ?_
        exact ev_leaf (am_wk (am_wk (am_wk am_wn))) (hJ2 (1 : Int32))
  · refine ev_iconst (v := 1) dX12_code_27 (by decide) ?_
    refine ev_callWI (am_callV (as := [.int t2, .int 1]) (o := p0) (st := []) cv_X12_242 dX12_code_28 kp0 rfl (am_le rfl) (am_fit (by omega) (by decide) (by decide) (by decide)) (t_X12_throwsIf hl kp0)) (fun y5 h5 => ?_)
    refine ev_if_eq (tgt := 36) dX12_code_31 (by decide) (fun c6 => ?_) (fun c6 => ?_)
    · refine ev_aload_n dX12_code_36 rfl ?_
      refine ev_iload_n dX12_code_37 rfl ?_
      refine ev_iload_n dX12_code_38 rfl ?_
      refine ev_callP (am_callV (as := [.int p1, .int p2]) (o := p0) (st := []) cv_X12_254 dX12_code_39 kp0 rfl (am_le rfl) (am_fit (by omega) (by decide) (by decide) (by decide)) (t_X12_wordOf hl kp0)) (fun v7 h7 => ?_)
      refine ev_if_le (tgt := 54) dX12_code_42 (by decide) (fun c8 => ?_) (fun c8 => ?_)
      · refine ev_iconst (v := (-1)) dX12_code_54 (by decide) ?_
        exact ev_iret dX12_code_55 rfl rfl (by decide) (by decide) rfl
      · refine ev_aload_n dX12_code_45 rfl ?_
        refine ev_iload_n dX12_code_46 rfl ?_
        refine ev_iload_n dX12_code_47 rfl ?_
        refine ev_callP (am_callV (as := [.int p1, .int p2]) (o := p0) (st := []) cv_X12_254 dX12_code_48 kp0 rfl (am_le rfl) (am_fit (by omega) (by decide) (by decide) (by decide)) (t_X12_wordOf hl kp0)) (fun v9 h9 => ?_)
        refine ev_goto (tgt := 55) dX12_code_51 (by decide) ?_
        exact ev_iret dX12_code_55 rfl rfl (by decide) (by decide) rfl
    · refine ev_iconst (v := 0) dX12_code_34 (by decide) ?_
      exact ev_iret dX12_code_35 rfl rfl (by decide) (by decide) rfl
def f_X12_cost (S : am_S) (p0 : Nat) (p1 : Int32) : Option (Int32 × (Nat → Nat → Int32)) :=
  ((f_X12_in p1 2 511).bind (fun v1 => ((if v1 = 0 then some (1 : Int32) else some (0 : Int32)).bind (fun t2 => ((f_X12_throwsIf ((am_u2 S.1 p0 0 0), S.2) p0 t2 1).bind (fun y3 => (if y3.1 = 0 then ((f_X12_costOf p1).bind (fun v5 => some (v5, y3.2))) else some (0, y3.2))))))))
set_option maxRecDepth 20000 in
theorem t_X12_cost {E : am_E} {l : Launch} (hl : l.stackTraces = false) {S : am_S} {p0 : Nat} {p1 : Int32} (kp0 : am_kd p0 = 112) : am_M E l yX12_cost (.code yX12_cost cX12_cost 2 (some .int)) 2 0 0 [.ref p0, .int p1] S ((f_X12_cost S p0 p1).map (fun (x : Int32 × (Nat → Nat → Int32)) => ((.inl (some (.int x.1)), (x.2, S.2)) : am_R))) := by
  refine am_M_of (w := fun (x : Int32 × (Nat → Nat → Int32)) => ((.inl (some (.int x.1)), (x.2, S.2)) : am_R)) hl (by decide) (am_fc rfl (am_fc rfl am_fn)) (Nat.le_of_ble_eq_true rfl) ?_
  show am_Ev E l (RX12, cX12_cost, 2, (some .int), [], am_rm 2 0 0) (fun b a s x => am_Z E 0 0 b a s ((fun (x : Int32 × (Nat → Nat → Int32)) => ((.inl (some (.int x.1)), (x.2, S.2)) : am_R)) x)) 0 0 0 [some (.ref p0), some (.int p1)] [] S (f_X12_cost S p0 p1)
  unfold f_X12_cost
  refine ev_aload_n dX12_cost_0 rfl ?_
  refine ev_iconst (v := 0) dX12_cost_1 (by decide) ?_
  refine ev_putI fk_X12_3 tyX12 tyX12_ok nmX12 rfl (by decide +kernel) (by decide) dX12_cost_2 kp0 ?_
  refine ev_aload_n dX12_cost_5 rfl ?_
  refine ev_iload_n dX12_cost_6 rfl ?_
  refine ev_iconst (v := 2) dX12_cost_7 (by decide) ?_
  refine ev_sipush (v := 511) dX12_cost_8 (by decide) ?_
  refine ev_callP (am_callS (as := [.int p1, .int 2, .int 511]) (st := [.ref p0]) ct_X12_78 dX12_cost_11 rfl (am_le rfl) (am_fit (by omega) (by decide) (by decide) (by decide)) (t_X12_in hl )) (fun v1 h1 => ?_)
  refine ev_reg (cs' := 0) (sl' := 0) 22 (fun t2 : Int32 => [none, some (.int p1)]) (fun t2 => [.int t2, .ref p0]) (fun t2 => ((am_u2 S.1 p0 0 0), S.2)) (fun hJ2 => ?_) (fun t2 => ?_)
  · refine ev_eq am_ib ?_
    refine ev_if_ne (tgt := 21) dX12_cost_14 (by decide) (fun c2 => ?_) (fun c2 => ?_)
    · refine ev_iconst (v := 0) dX12_cost_21 (by decide) ?_
      exact ev_leaf (am_wf (am_wk am_wn)) (hJ2 (0 : Int32))
    · refine ev_iconst (v := 1) dX12_cost_17 (by decide) ?_
      refine ev_goto (tgt := 22) dX12_cost_18 (by decide) ?_
      exact ev_leaf (am_wf (am_wk am_wn)) (hJ2 (1 : Int32))
  · refine ev_iconst (v := 1) dX12_cost_22 (by decide) ?_
    refine ev_callWI (am_callV (as := [.int t2, .int 1]) (o := p0) (st := []) cv_X12_242 dX12_cost_23 kp0 rfl (am_le rfl) (am_fit (by omega) (by decide) (by decide) (by decide)) (t_X12_throwsIf hl kp0)) (fun y3 h3 => ?_)
    refine ev_if_eq (tgt := 33) dX12_cost_26 (by decide) (fun c4 => ?_) (fun c4 => ?_)
    · refine ev_iload_n dX12_cost_33 rfl ?_
      refine ev_callP (am_callS (as := [.int p1]) (st := []) ct_X12_268 dX12_cost_34 rfl (am_le rfl) (am_fit (by omega) (by decide) (by decide) (by decide)) (t_X12_costOf hl )) (fun v5 h5 => ?_)
      exact ev_iret dX12_cost_37 rfl rfl (by decide) (by decide) rfl
    · refine ev_iconst (v := 0) dX12_cost_29 (by decide) ?_
      refine ev_goto (tgt := 37) dX12_cost_30 (by decide) ?_
      exact ev_iret dX12_cost_37 rfl rfl (by decide) (by decide) rfl
def f_X12_way (S : am_S) (p0 : Nat) (p1 : Int32) (p2 : Int32) (p3 : Int32) : Option (Int32 × (Nat → Nat → Int32)) :=
  ((f_X12_noHouse ((am_u2 S.1 p0 0 0), S.2) p0 p1).bind (fun v1 => ((if v1 = 0 then ((f_X12_noHouse ((am_u2 S.1 p0 0 0), S.2) p0 p2).bind (fun v3 => (if v3 = 0 then some (0 : Int32) else some (1 : Int32)))) else some (1 : Int32)).bind (fun t2 => ((f_X12_throwsIf ((am_u2 S.1 p0 0 0), S.2) p0 t2 1).bind (fun y5 => (if y5.1 = 0 then ((f_X12_in p3 0 3).bind (fun v7 => ((if v7 = 0 then some (1 : Int32) else some (0 : Int32)).bind (fun t8 => ((f_X12_throwsIf (y5.2, S.2) p0 t8 2).bind (fun y9 => (if y9.1 = 0 then (if p3 = 0 then ((f_X12_farOf (y9.2, S.2) p0 p1 p2).bind (fun v19 => some (v19, y9.2))) else (if p3 = 2 then ((f_X12_clearOf (y9.2, S.2) p0 p1 p2).bind (fun v18 => some (v18, y9.2))) else (if p3 = 1 then ((f_X12_isHearing (y9.2, S.2) p0 p1 p2).bind (fun v16 => (if v16 = 0 then some (0, y9.2) else some (1, y9.2)))) else ((f_X12_isHarm (y9.2, S.2) p0 p1 p2).bind (fun v14 => (if v14 = 0 then some (0, y9.2) else some (1, y9.2))))))) else some (0, y9.2)))))))) else some (0, y5.2))))))))
set_option maxRecDepth 20000 in
theorem t_X12_way {E : am_E} {l : Launch} (hl : l.stackTraces = false) {S : am_S} {p0 : Nat} {p1 : Int32} {p2 : Int32} {p3 : Int32} (kp0 : am_kd p0 = 112) : am_M E l yX12_way (.code yX12_way cX12_way 4 (some .int)) 4 0 0 [.ref p0, .int p1, .int p2, .int p3] S ((f_X12_way S p0 p1 p2 p3).map (fun (x : Int32 × (Nat → Nat → Int32)) => ((.inl (some (.int x.1)), (x.2, S.2)) : am_R))) := by
  refine am_M_of (w := fun (x : Int32 × (Nat → Nat → Int32)) => ((.inl (some (.int x.1)), (x.2, S.2)) : am_R)) hl (by decide) (am_fc rfl (am_fc rfl (am_fc rfl (am_fc rfl am_fn)))) (Nat.le_of_ble_eq_true rfl) ?_
  show am_Ev E l (RX12, cX12_way, 4, (some .int), [], am_rm 4 0 0) (fun b a s x => am_Z E 0 0 b a s ((fun (x : Int32 × (Nat → Nat → Int32)) => ((.inl (some (.int x.1)), (x.2, S.2)) : am_R)) x)) 0 0 0 [some (.ref p0), some (.int p1), some (.int p2), some (.int p3)] [] S (f_X12_way S p0 p1 p2 p3)
  unfold f_X12_way
  refine ev_aload_n dX12_way_0 rfl ?_
  refine ev_iconst (v := 0) dX12_way_1 (by decide) ?_
  refine ev_putI fk_X12_3 tyX12 tyX12_ok nmX12 rfl (by decide +kernel) (by decide) dX12_way_2 kp0 ?_
  refine ev_aload_n dX12_way_5 rfl ?_
  refine ev_aload_n dX12_way_6 rfl ?_
  refine ev_iload_n dX12_way_7 rfl ?_
  refine ev_callP (am_callV (as := [.int p1]) (o := p0) (st := [.ref p0]) cv_X12_257 dX12_way_8 kp0 rfl (am_le rfl) (am_fit (by omega) (by decide) (by decide) (by decide)) (t_X12_noHouse hl kp0)) (fun v1 h1 => ?_)
  refine ev_reg (cs' := 0) (sl' := 0) 27 (fun t2 : Int32 => [some (.ref p0), some (.int p1), some (.int p2), some (.int p3)]) (fun t2 => [.int t2, .ref p0]) (fun t2 => ((am_u2 S.1 p0 0 0), S.2)) (fun hJ2 => ?_) (fun t2 => ?_)
  · refine ev_eq am_ib ?_
    refine ev_if_ne (tgt := 22) dX12_way_11 (by decide) (fun c2 => ?_) (fun c2 => ?_)
    · refine ev_iconst (v := 1) dX12_way_22 (by decide) ?_
      refine ev_goto (tgt := 27) dX12_way_23 (by decide) ?_
      exact ev_leaf (am_wk (am_wk (am_wk (am_wk am_wn)))) (hJ2 (1 : Int32))
    · refine ev_aload_n dX12_way_14 rfl ?_
      refine ev_iload_n dX12_way_15 rfl ?_
      refine ev_eq (Option.bind_assoc _ _ _) ?_
      refine ev_callP (am_callV (as := [.int p2]) (o := p0) (st := [.ref p0]) cv_X12_257 dX12_way_16 kp0 rfl (am_le rfl) (am_fit (by omega) (by decide) (by decide) (by decide)) (t_X12_noHouse hl kp0)) (fun v3 h3 => ?_)
      refine ev_eq am_ib ?_
      refine ev_if_eq (tgt := 26) dX12_way_19 (by decide) (fun c4 => ?_) (fun c4 => ?_)
      · refine ev_iconst (v := 0) dX12_way_26 (by decide) ?_
        exact ev_leaf (am_wk (am_wk (am_wk (am_wk am_wn)))) (hJ2 (0 : Int32))
      · refine ev_iconst (v := 1) dX12_way_22 (by decide) ?_
        refine ev_goto (tgt := 27) dX12_way_23 (by decide) ?_
        exact ev_leaf (am_wk (am_wk (am_wk (am_wk am_wn)))) (hJ2 (1 : Int32))
  · refine ev_iconst (v := 1) dX12_way_27 (by decide) ?_
    refine ev_callWI (am_callV (as := [.int t2, .int 1]) (o := p0) (st := []) cv_X12_242 dX12_way_28 kp0 rfl (am_le rfl) (am_fit (by omega) (by decide) (by decide) (by decide)) (t_X12_throwsIf hl kp0)) (fun y5 h5 => ?_)
    refine ev_if_ne (tgt := 56) dX12_way_31 (by decide) (fun c6 => ?_) (fun c6 => ?_)
    · refine ev_iconst (v := 0) dX12_way_56 (by decide) ?_
      exact ev_iret dX12_way_57 rfl rfl (by decide) (by decide) rfl
    · refine ev_aload_n dX12_way_34 rfl ?_
      refine ev_iload_n dX12_way_35 rfl ?_
      refine ev_iconst (v := 0) dX12_way_36 (by decide) ?_
      refine ev_iconst (v := 3) dX12_way_37 (by decide) ?_
      refine ev_callP (am_callS (as := [.int p3, .int 0, .int 3]) (st := [.ref p0]) ct_X12_78 dX12_way_38 rfl (am_le rfl) (am_fit (by omega) (by decide) (by decide) (by decide)) (t_X12_in hl )) (fun v7 h7 => ?_)
      refine ev_reg (cs' := 0) (sl' := 0) 49 (fun t8 : Int32 => [some (.ref p0), some (.int p1), some (.int p2), some (.int p3)]) (fun t8 => [.int t8, .ref p0]) (fun t8 => (y5.2, S.2)) (fun hJ8 => ?_) (fun t8 => ?_)
      · refine ev_eq am_ib ?_
        refine ev_if_ne (tgt := 48) dX12_way_41 (by decide) (fun c8 => ?_) (fun c8 => ?_)
        · refine ev_iconst (v := 0) dX12_way_48 (by decide) ?_
          exact ev_leaf (am_wk (am_wk (am_wk (am_wk am_wn)))) (hJ8 (0 : Int32))
        · refine ev_iconst (v := 1) dX12_way_44 (by decide) ?_
          refine ev_goto (tgt := 49) dX12_way_45 (by decide) ?_
          exact ev_leaf (am_wk (am_wk (am_wk (am_wk am_wn)))) (hJ8 (1 : Int32))
      · refine ev_iconst (v := 2) dX12_way_49 (by decide) ?_
        refine ev_callWI (am_callV (as := [.int t8, .int 2]) (o := p0) (st := []) cv_X12_242 dX12_way_50 kp0 rfl (am_le rfl) (am_fit (by omega) (by decide) (by decide) (by decide)) (t_X12_throwsIf hl kp0)) (fun y9 h9 => ?_)
        refine ev_if_eq (tgt := 58) dX12_way_53 (by decide) (fun c10 => ?_) (fun c10 => ?_)
        · refine ev_iload_n dX12_way_58 rfl ?_
          refine ev_if_ne (tgt := 71) dX12_way_59 (by decide) (fun c11 => ?_) (fun c11 => ?_)
          · refine ev_iload_n dX12_way_71 rfl ?_
            refine ev_iconst (v := 2) dX12_way_72 (by decide) ?_
            refine ev_icmp_ne (tgt := 85) dX12_way_73 (by decide) (fun c12 => ?_) (fun c12 => ?_)
            · refine ev_iload_n dX12_way_85 rfl ?_
              refine ev_iconst (v := 1) dX12_way_86 (by decide) ?_
              refine ev_icmp_ne (tgt := 102) dX12_way_87 (by decide) (fun c13 => ?_) (fun c13 => ?_)
              · refine ev_aload_n dX12_way_102 rfl ?_
                refine ev_iload_n dX12_way_103 rfl ?_
                refine ev_iload_n dX12_way_104 rfl ?_
                refine ev_callP (am_callV (as := [.int p1, .int p2]) (o := p0) (st := []) cv_X12_274 dX12_way_105 kp0 rfl (am_le rfl) (am_fit (by omega) (by decide) (by decide) (by decide)) (t_X12_isHarm hl kp0)) (fun v14 h14 => ?_)
                refine ev_if_eq (tgt := 115) dX12_way_108 (by decide) (fun c15 => ?_) (fun c15 => ?_)
                · refine ev_iconst (v := 0) dX12_way_115 (by decide) ?_
                  exact ev_iret dX12_way_116 rfl rfl (by decide) (by decide) rfl
                · refine ev_iconst (v := 1) dX12_way_111 (by decide) ?_
                  refine ev_goto (tgt := 116) dX12_way_112 (by decide) ?_
                  exact ev_iret dX12_way_116 rfl rfl (by decide) (by decide) rfl
              · refine ev_aload_n dX12_way_90 rfl ?_
                refine ev_iload_n dX12_way_91 rfl ?_
                refine ev_iload_n dX12_way_92 rfl ?_
                refine ev_callP (am_callV (as := [.int p1, .int p2]) (o := p0) (st := []) cv_X12_251 dX12_way_93 kp0 rfl (am_le rfl) (am_fit (by omega) (by decide) (by decide) (by decide)) (t_X12_isHearing hl kp0)) (fun v16 h16 => ?_)
                refine ev_if_eq (tgt := 115) dX12_way_96 (by decide) (fun c17 => ?_) (fun c17 => ?_)
                · refine ev_iconst (v := 0) dX12_way_115 (by decide) ?_
                  exact ev_iret dX12_way_116 rfl rfl (by decide) (by decide) rfl
                · refine ev_goto (tgt := 111) dX12_way_99 (by decide) ?_
                  refine ev_iconst (v := 1) dX12_way_111 (by decide) ?_
                  refine ev_goto (tgt := 116) dX12_way_112 (by decide) ?_
                  exact ev_iret dX12_way_116 rfl rfl (by decide) (by decide) rfl
            · refine ev_aload_n dX12_way_76 rfl ?_
              refine ev_iload_n dX12_way_77 rfl ?_
              refine ev_iload_n dX12_way_78 rfl ?_
              refine ev_callP (am_callV (as := [.int p1, .int p2]) (o := p0) (st := []) cv_X12_271 dX12_way_79 kp0 rfl (am_le rfl) (am_fit (by omega) (by decide) (by decide) (by decide)) (t_X12_clearOf hl kp0)) (fun v18 h18 => ?_)
              refine ev_goto (tgt := 116) dX12_way_82 (by decide) ?_
              exact ev_iret dX12_way_116 rfl rfl (by decide) (by decide) rfl
          · refine ev_aload_n dX12_way_62 rfl ?_
            refine ev_iload_n dX12_way_63 rfl ?_
            refine ev_iload_n dX12_way_64 rfl ?_
            refine ev_callP (am_callV (as := [.int p1, .int p2]) (o := p0) (st := []) cv_X12_248 dX12_way_65 kp0 rfl (am_le rfl) (am_fit (by omega) (by decide) (by decide) (by decide)) (t_X12_farOf hl kp0)) (fun v19 h19 => ?_)
            refine ev_goto (tgt := 116) dX12_way_68 (by decide) ?_
            exact ev_iret dX12_way_116 rfl rfl (by decide) (by decide) rfl
        · refine ev_iconst (v := 0) dX12_way_56 (by decide) ?_
          exact ev_iret dX12_way_57 rfl rfl (by decide) (by decide) rfl
def f_X12_lays (S : am_S) (p0 : Nat) (p1 : Int32) (p2 : Int32) (p3 : Int32) : Option ((Nat → Nat → Int32)) :=
  ((am_rd S.2 p0 1 1).bind (fun q1 => ((am_ld S.1 q1 4).bind (fun v2 => ((am_rd S.2 p0 1 1).bind (fun q3 => ((am_st S.1 q3 (138 + (4 * v2)) p1).bind (fun σ4 => ((am_rd S.2 p0 1 1).bind (fun q5 => ((am_st σ4 q5 ((138 + (4 * v2)) + 1) p2).bind (fun σ6 => ((am_rd S.2 p0 1 1).bind (fun q7 => ((am_st σ6 q7 ((138 + (4 * v2)) + 2) p3).bind (fun σ8 => ((am_rd S.2 p0 1 1).bind (fun q9 => ((f_X12_wordOf (σ8, S.2) p0 p2 p3).bind (fun v10 => ((am_st σ8 q9 ((138 + (4 * v2)) + 3) v10).bind (fun σ11 => ((am_rd S.2 p0 1 1).bind (fun q12 => ((am_ld σ11 q12 4).bind (fun v13 => ((am_st σ11 q12 4 (v13 + 1)).bind (fun σ14 => some σ14))))))))))))))))))))))))))))
set_option maxRecDepth 20000 in
theorem t_X12_lays {E : am_E} {l : Launch} (hl : l.stackTraces = false) {S : am_S} {p0 : Nat} {p1 : Int32} {p2 : Int32} {p3 : Int32} (kp0 : am_kd p0 = 112) : am_M E l yX12_lays (.code yX12_lays cX12_lays 5 none) 2 0 0 [.ref p0, .int p1, .int p2, .int p3] S ((f_X12_lays S p0 p1 p2 p3).map (fun (x : Nat → Nat → Int32) => ((.inl none, (x, S.2)) : am_R))) := by
  refine am_M_of (w := fun (x : Nat → Nat → Int32) => ((.inl none, (x, S.2)) : am_R)) hl (by decide) (am_fc rfl (am_fc rfl (am_fc rfl (am_fc rfl am_fn)))) (Nat.le_of_ble_eq_true rfl) ?_
  show am_Ev E l (RX12, cX12_lays, 5, none, [], am_rm 2 0 0) (fun b a s x => am_Z E 0 0 b a s ((fun (x : Nat → Nat → Int32) => ((.inl none, (x, S.2)) : am_R)) x)) 0 0 0 [some (.ref p0), some (.int p1), some (.int p2), some (.int p3), none] [] S (f_X12_lays S p0 p1 p2 p3)
  unfold f_X12_lays
  refine ev_sipush (v := 138) dX12_lays_0 (by decide) ?_
  refine ev_iconst (v := 4) dX12_lays_3 (by decide) ?_
  refine ev_aload_n dX12_lays_4 rfl ?_
  refine ev_getR fk_X12_13 (by decide) dX12_lays_5 kp0 (fun q1 k1 r1 => ?_)
  refine ev_iconst (v := 4) dX12_lays_8 (by decide) ?_
  refine ev_iald dX12_lays_9 k1 (fun v2 h2 => ?_)
  refine ev_imul dX12_lays_10 ?_
  refine ev_iadd dX12_lays_11 ?_
  refine ev_istore dX12_lays_12 (am_lt rfl) ?_
  refine ev_aload_n dX12_lays_14 rfl ?_
  refine ev_getR fk_X12_13 (by decide) dX12_lays_15 kp0 (fun q3 k3 r3 => ?_)
  refine ev_iload dX12_lays_18 rfl ?_
  refine ev_iload_n dX12_lays_20 rfl ?_
  refine ev_iast dX12_lays_21 k3 (fun σ4 h4 => ?_)
  refine ev_aload_n dX12_lays_22 rfl ?_
  refine ev_getR fk_X12_13 (by decide) dX12_lays_23 kp0 (fun q5 k5 r5 => ?_)
  refine ev_iload dX12_lays_26 rfl ?_
  refine ev_iconst (v := 1) dX12_lays_28 (by decide) ?_
  refine ev_iadd dX12_lays_29 ?_
  refine ev_iload_n dX12_lays_30 rfl ?_
  refine ev_iast dX12_lays_31 k5 (fun σ6 h6 => ?_)
  refine ev_aload_n dX12_lays_32 rfl ?_
  refine ev_getR fk_X12_13 (by decide) dX12_lays_33 kp0 (fun q7 k7 r7 => ?_)
  refine ev_iload dX12_lays_36 rfl ?_
  refine ev_iconst (v := 2) dX12_lays_38 (by decide) ?_
  refine ev_iadd dX12_lays_39 ?_
  refine ev_iload_n dX12_lays_40 rfl ?_
  refine ev_iast dX12_lays_41 k7 (fun σ8 h8 => ?_)
  refine ev_aload_n dX12_lays_42 rfl ?_
  refine ev_getR fk_X12_13 (by decide) dX12_lays_43 kp0 (fun q9 k9 r9 => ?_)
  refine ev_iload dX12_lays_46 rfl ?_
  refine ev_iconst (v := 3) dX12_lays_48 (by decide) ?_
  refine ev_iadd dX12_lays_49 ?_
  refine ev_aload_n dX12_lays_50 rfl ?_
  refine ev_iload_n dX12_lays_51 rfl ?_
  refine ev_iload_n dX12_lays_52 rfl ?_
  refine ev_callP (am_callV (as := [.int p2, .int p3]) (o := p0) (st := [.int ((138 + (4 * v2)) + 3), .ref q9]) cv_X12_254 dX12_lays_53 kp0 rfl (am_le rfl) (am_fit (by omega) (by decide) (by decide) (by decide)) (t_X12_wordOf hl kp0)) (fun v10 h10 => ?_)
  refine ev_iast dX12_lays_56 k9 (fun σ11 h11 => ?_)
  refine ev_aload_n dX12_lays_57 rfl ?_
  refine ev_getR fk_X12_13 (by decide) dX12_lays_58 kp0 (fun q12 k12 r12 => ?_)
  refine ev_iconst (v := 4) dX12_lays_61 (by decide) ?_
  refine ev_dup2 dX12_lays_62 rfl rfl ?_
  refine ev_iald dX12_lays_63 k12 (fun v13 h13 => ?_)
  refine ev_iconst (v := 1) dX12_lays_64 (by decide) ?_
  refine ev_iadd dX12_lays_65 ?_
  refine ev_iast dX12_lays_66 k12 (fun σ14 h14 => ?_)
  exact ev_vret dX12_lays_67 rfl (by decide) (by decide) rfl
def f_X12_ring (S : am_S) (p0 : Nat) (p1 : Int32) (p2 : Int32) (p3 : Int32) : Option (Int32 × (Nat → Nat → Int32)) :=
  ((f_X12_noHouse ((am_u2 S.1 p0 0 0), S.2) p0 p2).bind (fun v1 => ((if v1 = 0 then ((f_X12_noWant ((am_u2 S.1 p0 0 0), S.2) p0 p3).bind (fun v3 => (if v3 = 0 then some (0 : Int32) else some (1 : Int32)))) else some (1 : Int32)).bind (fun t2 => ((f_X12_throwsIf ((am_u2 S.1 p0 0 0), S.2) p0 t2 1).bind (fun y5 => (if y5.1 = 0 then ((f_X12_in p1 0 999).bind (fun v7 => ((if v7 = 0 then some (1 : Int32) else ((f_X12_wordOf (y5.2, S.2) p0 p2 p3).bind (fun v9 => (if v9 = 0 then some (1 : Int32) else some (0 : Int32))))).bind (fun t8 => ((f_X12_throwsIf (y5.2, S.2) p0 t8 2).bind (fun y11 => (if y11.1 = 0 then ((am_rd S.2 p0 1 1).bind (fun q13 => ((am_ld y11.2 q13 4).bind (fun v14 => ((if v14 = 12 then some (1 : Int32) else some (0 : Int32)).bind (fun t15 => ((f_X12_throwsIf (y11.2, S.2) p0 t15 3).bind (fun y16 => (if y16.1 = 0 then ((f_X12_lays (y16.2, S.2) p0 p1 p2 p3).bind (fun σ18 => ((am_rd S.2 p0 1 1).bind (fun q19 => ((am_ld σ18 q19 4).bind (fun v20 => some ((v20 - 1), σ18))))))) else some (0, y16.2)))))))))) else some (0, y11.2)))))))) else some (0, y5.2))))))))
set_option maxRecDepth 20000 in
theorem t_X12_ring {E : am_E} {l : Launch} (hl : l.stackTraces = false) {S : am_S} {p0 : Nat} {p1 : Int32} {p2 : Int32} {p3 : Int32} (kp0 : am_kd p0 = 112) : am_M E l yX12_ring (.code yX12_ring cX12_ring 4 (some .int)) 3 0 0 [.ref p0, .int p1, .int p2, .int p3] S ((f_X12_ring S p0 p1 p2 p3).map (fun (x : Int32 × (Nat → Nat → Int32)) => ((.inl (some (.int x.1)), (x.2, S.2)) : am_R))) := by
  refine am_M_of (w := fun (x : Int32 × (Nat → Nat → Int32)) => ((.inl (some (.int x.1)), (x.2, S.2)) : am_R)) hl (by decide) (am_fc rfl (am_fc rfl (am_fc rfl (am_fc rfl am_fn)))) (Nat.le_of_ble_eq_true rfl) ?_
  show am_Ev E l (RX12, cX12_ring, 4, (some .int), [], am_rm 3 0 0) (fun b a s x => am_Z E 0 0 b a s ((fun (x : Int32 × (Nat → Nat → Int32)) => ((.inl (some (.int x.1)), (x.2, S.2)) : am_R)) x)) 0 0 0 [some (.ref p0), some (.int p1), some (.int p2), some (.int p3)] [] S (f_X12_ring S p0 p1 p2 p3)
  unfold f_X12_ring
  refine ev_aload_n dX12_ring_0 rfl ?_
  refine ev_iconst (v := 0) dX12_ring_1 (by decide) ?_
  refine ev_putI fk_X12_3 tyX12 tyX12_ok nmX12 rfl (by decide +kernel) (by decide) dX12_ring_2 kp0 ?_
  refine ev_aload_n dX12_ring_5 rfl ?_
  refine ev_aload_n dX12_ring_6 rfl ?_
  refine ev_iload_n dX12_ring_7 rfl ?_
  refine ev_callP (am_callV (as := [.int p2]) (o := p0) (st := [.ref p0]) cv_X12_257 dX12_ring_8 kp0 rfl (am_le rfl) (am_fit (by omega) (by decide) (by decide) (by decide)) (t_X12_noHouse hl kp0)) (fun v1 h1 => ?_)
  refine ev_reg (cs' := 0) (sl' := 0) 27 (fun t2 : Int32 => [some (.ref p0), some (.int p1), some (.int p2), some (.int p3)]) (fun t2 => [.int t2, .ref p0]) (fun t2 => ((am_u2 S.1 p0 0 0), S.2)) (fun hJ2 => ?_) (fun t2 => ?_)
  · refine ev_eq am_ib ?_
    refine ev_if_ne (tgt := 22) dX12_ring_11 (by decide) (fun c2 => ?_) (fun c2 => ?_)
    · refine ev_iconst (v := 1) dX12_ring_22 (by decide) ?_
      refine ev_goto (tgt := 27) dX12_ring_23 (by decide) ?_
      exact ev_leaf (am_wk (am_wk (am_wk (am_wk am_wn)))) (hJ2 (1 : Int32))
    · refine ev_aload_n dX12_ring_14 rfl ?_
      refine ev_iload_n dX12_ring_15 rfl ?_
      refine ev_eq (Option.bind_assoc _ _ _) ?_
      refine ev_callP (am_callV (as := [.int p3]) (o := p0) (st := [.ref p0]) cv_X12_263 dX12_ring_16 kp0 rfl (am_le rfl) (am_fit (by omega) (by decide) (by decide) (by decide)) (t_X12_noWant hl kp0)) (fun v3 h3 => ?_)
      refine ev_eq am_ib ?_
      refine ev_if_eq (tgt := 26) dX12_ring_19 (by decide) (fun c4 => ?_) (fun c4 => ?_)
      · refine ev_iconst (v := 0) dX12_ring_26 (by decide) ?_
        exact ev_leaf (am_wk (am_wk (am_wk (am_wk am_wn)))) (hJ2 (0 : Int32))
      · refine ev_iconst (v := 1) dX12_ring_22 (by decide) ?_
        refine ev_goto (tgt := 27) dX12_ring_23 (by decide) ?_
        exact ev_leaf (am_wk (am_wk (am_wk (am_wk am_wn)))) (hJ2 (1 : Int32))
  · refine ev_iconst (v := 1) dX12_ring_27 (by decide) ?_
    refine ev_callWI (am_callV (as := [.int t2, .int 1]) (o := p0) (st := []) cv_X12_242 dX12_ring_28 kp0 rfl (am_le rfl) (am_fit (by omega) (by decide) (by decide) (by decide)) (t_X12_throwsIf hl kp0)) (fun y5 h5 => ?_)
    refine ev_if_ne (tgt := 91) dX12_ring_31 (by decide) (fun c6 => ?_) (fun c6 => ?_)
    · refine ev_iconst (v := 0) dX12_ring_91 (by decide) ?_
      exact ev_iret dX12_ring_92 rfl rfl (by decide) (by decide) rfl
    · refine ev_aload_n dX12_ring_34 rfl ?_
      refine ev_iload_n dX12_ring_35 rfl ?_
      refine ev_iconst (v := 0) dX12_ring_36 (by decide) ?_
      refine ev_sipush (v := 999) dX12_ring_37 (by decide) ?_
      refine ev_callP (am_callS (as := [.int p1, .int 0, .int 999]) (st := [.ref p0]) ct_X12_78 dX12_ring_40 rfl (am_le rfl) (am_fit (by omega) (by decide) (by decide) (by decide)) (t_X12_in hl )) (fun v7 h7 => ?_)
      refine ev_reg (cs' := 0) (sl' := 0) 60 (fun t8 : Int32 => [some (.ref p0), some (.int p1), some (.int p2), some (.int p3)]) (fun t8 => [.int t8, .ref p0]) (fun t8 => (y5.2, S.2)) (fun hJ8 => ?_) (fun t8 => ?_)
      · refine ev_eq am_ib ?_
        refine ev_if_eq (tgt := 55) dX12_ring_43 (by decide) (fun c8 => ?_) (fun c8 => ?_)
        · refine ev_iconst (v := 1) dX12_ring_55 (by decide) ?_
          refine ev_goto (tgt := 60) dX12_ring_56 (by decide) ?_
          exact ev_leaf (am_wk (am_wk (am_wk (am_wk am_wn)))) (hJ8 (1 : Int32))
        · refine ev_aload_n dX12_ring_46 rfl ?_
          refine ev_iload_n dX12_ring_47 rfl ?_
          refine ev_iload_n dX12_ring_48 rfl ?_
          refine ev_eq (Option.bind_assoc _ _ _) ?_
          refine ev_callP (am_callV (as := [.int p2, .int p3]) (o := p0) (st := [.ref p0]) cv_X12_254 dX12_ring_49 kp0 rfl (am_le rfl) (am_fit (by omega) (by decide) (by decide) (by decide)) (t_X12_wordOf hl kp0)) (fun v9 h9 => ?_)
          refine ev_eq am_ib ?_
          refine ev_if_ne (tgt := 59) dX12_ring_52 (by decide) (fun c10 => ?_) (fun c10 => ?_)
          · refine ev_iconst (v := 0) dX12_ring_59 (by decide) ?_
            exact ev_leaf (am_wk (am_wk (am_wk (am_wk am_wn)))) (hJ8 (0 : Int32))
          · refine ev_iconst (v := 1) dX12_ring_55 (by decide) ?_
            refine ev_goto (tgt := 60) dX12_ring_56 (by decide) ?_
            exact ev_leaf (am_wk (am_wk (am_wk (am_wk am_wn)))) (hJ8 (1 : Int32))
      · refine ev_iconst (v := 2) dX12_ring_60 (by decide) ?_
        refine ev_callWI (am_callV (as := [.int t8, .int 2]) (o := p0) (st := []) cv_X12_242 dX12_ring_61 kp0 rfl (am_le rfl) (am_fit (by omega) (by decide) (by decide) (by decide)) (t_X12_throwsIf hl kp0)) (fun y11 h11 => ?_)
        refine ev_if_ne (tgt := 91) dX12_ring_64 (by decide) (fun c12 => ?_) (fun c12 => ?_)
        · refine ev_iconst (v := 0) dX12_ring_91 (by decide) ?_
          exact ev_iret dX12_ring_92 rfl rfl (by decide) (by decide) rfl
        · refine ev_aload_n dX12_ring_67 rfl ?_
          refine ev_aload_n dX12_ring_68 rfl ?_
          refine ev_getR fk_X12_13 (by decide) dX12_ring_69 kp0 (fun q13 k13 r13 => ?_)
          refine ev_iconst (v := 4) dX12_ring_72 (by decide) ?_
          refine ev_iald dX12_ring_73 k13 (fun v14 h14 => ?_)
          refine ev_bipush (v := 12) dX12_ring_74 (by decide) ?_
          refine ev_reg (cs' := 0) (sl' := 0) 84 (fun t15 : Int32 => [some (.ref p0), some (.int p1), some (.int p2), some (.int p3)]) (fun t15 => [.int t15, .ref p0]) (fun t15 => (y11.2, S.2)) (fun hJ15 => ?_) (fun t15 => ?_)
          · refine ev_eq am_ib ?_
            refine ev_icmp_ne (tgt := 83) dX12_ring_76 (by decide) (fun c15 => ?_) (fun c15 => ?_)
            · refine ev_iconst (v := 0) dX12_ring_83 (by decide) ?_
              exact ev_leaf (am_wk (am_wk (am_wk (am_wk am_wn)))) (hJ15 (0 : Int32))
            · refine ev_iconst (v := 1) dX12_ring_79 (by decide) ?_
              refine ev_goto (tgt := 84) dX12_ring_80 (by decide) ?_
              exact ev_leaf (am_wk (am_wk (am_wk (am_wk am_wn)))) (hJ15 (1 : Int32))
          · refine ev_iconst (v := 3) dX12_ring_84 (by decide) ?_
            refine ev_callWI (am_callV (as := [.int t15, .int 3]) (o := p0) (st := []) cv_X12_242 dX12_ring_85 kp0 rfl (am_le rfl) (am_fit (by omega) (by decide) (by decide) (by decide)) (t_X12_throwsIf hl kp0)) (fun y16 h16 => ?_)
            refine ev_if_eq (tgt := 93) dX12_ring_88 (by decide) (fun c17 => ?_) (fun c17 => ?_)
            · refine ev_aload_n dX12_ring_93 rfl ?_
              refine ev_iload_n dX12_ring_94 rfl ?_
              refine ev_iload_n dX12_ring_95 rfl ?_
              refine ev_iload_n dX12_ring_96 rfl ?_
              refine ev_callWV (am_callV (as := [.int p1, .int p2, .int p3]) (o := p0) (st := []) cv_X12_277 dX12_ring_97 kp0 rfl (am_le rfl) (am_fit (by omega) (by decide) (by decide) (by decide)) (t_X12_lays hl kp0)) (fun σ18 h18 => ?_)
              refine ev_aload_n dX12_ring_100 rfl ?_
              refine ev_getR fk_X12_13 (by decide) dX12_ring_101 kp0 (fun q19 k19 r19 => ?_)
              refine ev_iconst (v := 4) dX12_ring_104 (by decide) ?_
              refine ev_iald dX12_ring_105 k19 (fun v20 h20 => ?_)
              refine ev_iconst (v := 1) dX12_ring_106 (by decide) ?_
              refine ev_isub dX12_ring_107 ?_
              exact ev_iret dX12_ring_108 rfl rfl (by decide) (by decide) rfl
            · refine ev_iconst (v := 0) dX12_ring_91 (by decide) ?_
              exact ev_iret dX12_ring_92 rfl rfl (by decide) (by decide) rfl
def f_X12_hush (S : am_S) (p0 : Nat) : Option (Int32 × (Nat → Nat → Int32)) :=
  ((am_rd S.2 p0 1 1).bind (fun q1 => ((am_ld (am_u2 S.1 p0 0 0) q1 4).bind (fun v2 => ((am_rd S.2 p0 1 1).bind (fun q3 => ((am_st (am_u2 S.1 p0 0 0) q3 4 0).bind (fun σ4 => some (v2, σ4)))))))))
set_option maxRecDepth 20000 in
theorem t_X12_hush {E : am_E} {l : Launch} (hl : l.stackTraces = false) {S : am_S} {p0 : Nat} (kp0 : am_kd p0 = 112) : am_M E l yX12_hush (.code yX12_hush cX12_hush 2 (some .int)) 0 0 0 [.ref p0] S ((f_X12_hush S p0).map (fun (x : Int32 × (Nat → Nat → Int32)) => ((.inl (some (.int x.1)), (x.2, S.2)) : am_R))) := by
  refine am_M_of (w := fun (x : Int32 × (Nat → Nat → Int32)) => ((.inl (some (.int x.1)), (x.2, S.2)) : am_R)) hl (by decide) (am_fc rfl am_fn) (Nat.le_of_ble_eq_true rfl) ?_
  show am_Ev E l (RX12, cX12_hush, 2, (some .int), [], am_rm 0 0 0) (fun b a s x => am_Z E 0 0 b a s ((fun (x : Int32 × (Nat → Nat → Int32)) => ((.inl (some (.int x.1)), (x.2, S.2)) : am_R)) x)) 0 0 0 [some (.ref p0), none] [] S (f_X12_hush S p0)
  unfold f_X12_hush
  refine ev_aload_n dX12_hush_0 rfl ?_
  refine ev_iconst (v := 0) dX12_hush_1 (by decide) ?_
  refine ev_putI fk_X12_3 tyX12 tyX12_ok nmX12 rfl (by decide +kernel) (by decide) dX12_hush_2 kp0 ?_
  refine ev_aload_n dX12_hush_5 rfl ?_
  refine ev_getR fk_X12_13 (by decide) dX12_hush_6 kp0 (fun q1 k1 r1 => ?_)
  refine ev_iconst (v := 4) dX12_hush_9 (by decide) ?_
  refine ev_iald dX12_hush_10 k1 (fun v2 h2 => ?_)
  refine ev_istore_n dX12_hush_11 (am_lt rfl) ?_
  refine ev_aload_n dX12_hush_12 rfl ?_
  refine ev_getR fk_X12_13 (by decide) dX12_hush_13 kp0 (fun q3 k3 r3 => ?_)
  refine ev_iconst (v := 4) dX12_hush_16 (by decide) ?_
  refine ev_iconst (v := 0) dX12_hush_17 (by decide) ?_
  refine ev_iast dX12_hush_18 k3 (fun σ4 h4 => ?_)
  refine ev_iload_n dX12_hush_19 rfl ?_
  exact ev_iret dX12_hush_20 rfl rfl (by decide) (by decide) rfl
