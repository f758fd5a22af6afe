def f_X11_count (S : am_S) (p0 : Nat) (p1 : Int32) : Option (Int32) :=
  (if p1 = 0 then ((am_rd S.2 p0 3 109).bind (fun q2 => some (S.1 q2 0))) else (if p1 = 1 then ((am_rd S.2 p0 3 109).bind (fun q3 => some (S.1 q3 1))) else (if p1 = 2 then ((am_rd S.2 p0 3 109).bind (fun q4 => some (S.1 q4 2))) else (if p1 = 3 then ((am_rd S.2 p0 3 109).bind (fun q5 => ((am_rd S.2 q5 14 101).bind (fun q6 => some (S.1 q6 0))))) else (if p1 = 4 then ((am_rd S.2 p0 3 109).bind (fun q7 => ((am_rd S.2 q7 15 106).bind (fun q8 => some (S.1 q8 0))))) else (if p1 = 5 then ((am_rd S.2 p0 3 109).bind (fun q9 => ((f_X9_wordsOfAll S q9).bind (fun v10 => some v10)))) else (if p1 = 6 then ((am_rd S.2 p0 3 109).bind (fun q11 => ((f_X9_coinsOfAll S q11).bind (fun v12 => some v12)))) else (if p1 = 7 then ((am_rd S.2 p0 3 109).bind (fun q13 => some (S.1 q13 3))) else (if p1 = 8 then ((am_rd S.2 p0 3 109).bind (fun q14 => some (S.1 q14 4))) else (if p1 = 9 then ((am_rd S.2 p0 3 109).bind (fun q15 => some (S.1 q15 5))) else (if p1 = 10 then ((am_rd S.2 p0 3 109).bind (fun q16 => ((f_X9_minutesOfAll S q16).bind (fun v17 => some v17)))) else some (-1))))))))))))
set_option maxRecDepth 20000 in
theorem t_X11_count {E : am_E} {l : Launch} (hl : l.stackTraces = false) {S : am_S} {p0 : Nat} {p1 : Int32} (kp0 : am_kd p0 = 111) : am_M E l yX11_count (.code yX11_count cX11_count 2 (some .int)) 4 0 0 [.ref p0, .int p1] S ((f_X11_count S p0 p1).map (fun (v : Int32) => ((.inl (some (.int v)), S) : am_R))) := by
  refine am_M_of (w := fun (v : Int32) => ((.inl (some (.int v)), S) : am_R)) hl (by decide) (am_fc rfl (am_fc rfl am_fn)) (Nat.le_of_ble_eq_true rfl) ?_
  show am_Ev E l (RX11, cX11_count, 2, (some .int), [], am_rm 4 0 0) (fun b a s x => am_Z E 0 0 b a s ((fun (v : Int32) => ((.inl (some (.int v)), S) : am_R)) x)) 0 0 0 [some (.ref p0), some (.int p1)] [] S (f_X11_count S p0 p1)
  unfold f_X11_count
  refine ev_iload_n dX11_count_0 rfl ?_
  refine ev_split (fun c1_0 => ?_) (fun c1_0 => ?_)
  · refine ev_swI (tgt := 60) dX11_count_1 (by rw [c1_0]; decide) (by rw [c1_0]; decide) (by rw [c1_0]; rfl) (by decide) ?_
    refine ev_aload_n dX11_count_60 rfl ?_
    refine ev_getR fk_X11_20 (by decide) dX11_count_61 kp0 (fun q2 k2 r2 => ?_)
    refine ev_getN fk_X11_333 dX11_count_64 k2 (am_fvI (by decide)) ?_
    exact ev_iret dX11_count_67 rfl rfl (by decide) (by decide) rfl
  refine ev_split (fun c1_1 => ?_) (fun c1_1 => ?_)
  · refine ev_swI (tgt := 68) dX11_count_1 (by rw [c1_1]; decide) (by rw [c1_1]; decide) (by rw [c1_1]; rfl) (by decide) ?_
    refine ev_aload_n dX11_count_68 rfl ?_
    refine ev_getR fk_X11_20 (by decide) dX11_count_69 kp0 (fun q3 k3 r3 => ?_)
    refine ev_getN fk_X11_362 dX11_count_72 k3 (am_fvI (by decide)) ?_
    exact ev_iret dX11_count_75 rfl rfl (by decide) (by decide) rfl
  refine ev_split (fun c1_2 => ?_) (fun c1_2 => ?_)
  · refine ev_swI (tgt := 76) dX11_count_1 (by rw [c1_2]; decide) (by rw [c1_2]; decide) (by rw [c1_2]; rfl) (by decide) ?_
    refine ev_aload_n dX11_count_76 rfl ?_
    refine ev_getR fk_X11_20 (by decide) dX11_count_77 kp0 (fun q4 k4 r4 => ?_)
    refine ev_getN fk_X11_112 dX11_count_80 k4 (am_fvI (by decide)) ?_
    exact ev_iret dX11_count_83 rfl rfl (by decide) (by decide) rfl
  refine ev_split (fun c1_3 => ?_) (fun c1_3 => ?_)
  · refine ev_swI (tgt := 84) dX11_count_1 (by rw [c1_3]; decide) (by rw [c1_3]; decide) (by rw [c1_3]; rfl) (by decide) ?_
    refine ev_aload_n dX11_count_84 rfl ?_
    refine ev_getR fk_X11_20 (by decide) dX11_count_85 kp0 (fun q5 k5 r5 => ?_)
    refine ev_getRN fk_X11_123 (by decide) dX11_count_88 k5 (fun q6 k6 r6 => ?_)
    refine ev_getN fk_X11_135 dX11_count_91 k6 (am_fvI (by decide)) ?_
    exact ev_iret dX11_count_94 rfl rfl (by decide) (by decide) rfl
  refine ev_split (fun c1_4 => ?_) (fun c1_4 => ?_)
  · refine ev_swI (tgt := 95) dX11_count_1 (by rw [c1_4]; decide) (by rw [c1_4]; decide) (by rw [c1_4]; rfl) (by decide) ?_
    refine ev_aload_n dX11_count_95 rfl ?_
    refine ev_getR fk_X11_20 (by decide) dX11_count_96 kp0 (fun q7 k7 r7 => ?_)
    refine ev_getRN fk_X11_201 (by decide) dX11_count_99 k7 (fun q8 k8 r8 => ?_)
    refine ev_getN fk_X11_208 dX11_count_102 k8 (am_fvI (by decide)) ?_
    exact ev_iret dX11_count_105 rfl rfl (by decide) (by decide) rfl
  refine ev_split (fun c1_5 => ?_) (fun c1_5 => ?_)
  · refine ev_swI (tgt := 106) dX11_count_1 (by rw [c1_5]; decide) (by rw [c1_5]; decide) (by rw [c1_5]; rfl) (by decide) ?_
    refine ev_aload_n dX11_count_106 rfl ?_
    refine ev_getR fk_X11_20 (by decide) dX11_count_107 kp0 (fun q9 k9 r9 => ?_)
    refine ev_callP (am_callVN (as := []) (o := q9) (st := []) cv_X11_365 dX11_count_110 k9 rfl (am_le rfl) (am_fit (by omega) (by decide) (by decide) (by decide)) (am_no1 (fun _ => ⟨_, rfl⟩)) (t_X9_wordsOfAll hl k9)) (fun v10 h10 => ?_)
    exact ev_iret dX11_count_113 rfl rfl (by decide) (by decide) rfl
  refine ev_split (fun c1_6 => ?_) (fun c1_6 => ?_)
  · refine ev_swI (tgt := 114) dX11_count_1 (by rw [c1_6]; decide) (by rw [c1_6]; decide) (by rw [c1_6]; rfl) (by decide) ?_
    refine ev_aload_n dX11_count_114 rfl ?_
    refine ev_getR fk_X11_20 (by decide) dX11_count_115 kp0 (fun q11 k11 r11 => ?_)
    refine ev_callP (am_callVN (as := []) (o := q11) (st := []) cv_X11_369 dX11_count_118 k11 rfl (am_le rfl) (am_fit (by omega) (by decide) (by decide) (by decide)) (am_no1 (fun _ => ⟨_, rfl⟩)) (t_X9_coinsOfAll hl k11)) (fun v12 h12 => ?_)
    exact ev_iret dX11_count_121 rfl rfl (by decide) (by decide) rfl
  refine ev_split (fun c1_7 => ?_) (fun c1_7 => ?_)
  · refine ev_swI (tgt := 122) dX11_count_1 (by rw [c1_7]; decide) (by rw [c1_7]; decide) (by rw [c1_7]; rfl) (by decide) ?_
    refine ev_aload_n dX11_count_122 rfl ?_
    refine ev_getR fk_X11_20 (by decide) dX11_count_123 kp0 (fun q13 k13 r13 => ?_)
    refine ev_getN fk_X11_242 dX11_count_126 k13 (am_fvI (by decide)) ?_
    exact ev_iret dX11_count_129 rfl rfl (by decide) (by decide) rfl
  refine ev_split (fun c1_8 => ?_) (fun c1_8 => ?_)
  · refine ev_swI (tgt := 130) dX11_count_1 (by rw [c1_8]; decide) (by rw [c1_8]; decide) (by rw [c1_8]; rfl) (by decide) ?_
    refine ev_aload_n dX11_count_130 rfl ?_
    refine ev_getR fk_X11_20 (by decide) dX11_count_131 kp0 (fun q14 k14 r14 => ?_)
    refine ev_getN fk_X11_372 dX11_count_134 k14 (am_fvI (by decide)) ?_
    exact ev_iret dX11_count_137 rfl rfl (by decide) (by decide) rfl
  refine ev_split (fun c1_9 => ?_) (fun c1_9 => ?_)
  · refine ev_swI (tgt := 138) dX11_count_1 (by rw [c1_9]; decide) (by rw [c1_9]; decide) (by rw [c1_9]; rfl) (by decide) ?_
    refine ev_aload_n dX11_count_138 rfl ?_
    refine ev_getR fk_X11_20 (by decide) dX11_count_139 kp0 (fun q15 k15 r15 => ?_)
    refine ev_getN fk_X11_375 dX11_count_142 k15 (am_fvI (by decide)) ?_
    exact ev_iret dX11_count_145 rfl rfl (by decide) (by decide) rfl
  refine ev_split (fun c1_10 => ?_) (fun c1_10 => ?_)
  · refine ev_swI (tgt := 146) dX11_count_1 (by rw [c1_10]; decide) (by rw [c1_10]; decide) (by rw [c1_10]; rfl) (by decide) ?_
    refine ev_aload_n dX11_count_146 rfl ?_
    refine ev_getR fk_X11_20 (by decide) dX11_count_147 kp0 (fun q16 k16 r16 => ?_)
    refine ev_callP (am_callVN (as := []) (o := q16) (st := []) cv_X11_378 dX11_count_150 k16 rfl (am_le rfl) (am_fit (by omega) (by decide) (by decide) (by decide)) (am_no1 (fun _ => ⟨_, rfl⟩)) (t_X9_minutesOfAll hl k16)) (fun v17 h17 => ?_)
    exact ev_iret dX11_count_153 rfl rfl (by decide) (by decide) rfl
  refine ev_swO (tgt := 154) dX11_count_1 (by have z1_0 := am_neI c1_0 (z := 0) (by decide); have z1_1 := am_neI c1_1 (z := 1) (by decide); have z1_2 := am_neI c1_2 (z := 2) (by decide); have z1_3 := am_neI c1_3 (z := 3) (by decide); have z1_4 := am_neI c1_4 (z := 4) (by decide); have z1_5 := am_neI c1_5 (z := 5) (by decide); have z1_6 := am_neI c1_6 (z := 6) (by decide); have z1_7 := am_neI c1_7 (z := 7) (by decide); have z1_8 := am_neI c1_8 (z := 8) (by decide); have z1_9 := am_neI c1_9 (z := 9) (by decide); have z1_10 := am_neI c1_10 (z := 10) (by decide); omega) (by decide) ?_
  refine ev_iconst (v := (-1)) dX11_count_154 (by decide) ?_
  exact ev_iret dX11_count_155 rfl rfl (by decide) (by decide) rfl
def f_X12_thrown (S : am_S) (p0 : Nat) : Option (Int32) :=
  some (S.1 p0 0)
set_option maxRecDepth 20000 in
theorem t_X12_thrown {E : am_E} {l : Launch} (hl : l.stackTraces = false) {S : am_S} {p0 : Nat} (kp0 : am_kd p0 = 112) : am_M E l yX12_thrown (.code yX12_thrown cX12_thrown 1 (some .int)) 0 0 0 [.ref p0] S ((f_X12_thrown S p0).map (fun (v : Int32) => ((.inl (some (.int v)), S) : am_R))) := by
  refine am_M_of (w := fun (v : Int32) => ((.inl (some (.int v)), S) : am_R)) hl (by decide) (am_fc rfl am_fn) (Nat.le_of_ble_eq_true rfl) ?_
  show am_Ev E l (RX12, cX12_thrown, 1, (some .int), [], am_rm 0 0 0) (fun b a s x => am_Z E 0 0 b a s ((fun (v : Int32) => ((.inl (some (.int v)), S) : am_R)) x)) 0 0 0 [some (.ref p0)] [] S (f_X12_thrown S p0)
  unfold f_X12_thrown
  refine ev_aload_n dX12_thrown_0 rfl ?_
  refine ev_get fk_X12_3 dX12_thrown_1 kp0 (am_fvI (by decide)) ?_
  exact ev_iret dX12_thrown_4 rfl rfl (by decide) (by decide) rfl
def f_X12_throwsIf (S : am_S) (p0 : Nat) (p1 : Int32) (p2 : Int32) : Option (Int32 × (Nat → Nat → Int32)) :=
  ((if p1 = 0 then some S.1 else some (am_u2 S.1 p0 0 p2)).bind (fun t1 => (if p1 = 0 ∨ p1 = 1 then some (p1, t1) else none)))
set_option maxRecDepth 20000 in
theorem t_X12_throwsIf {E : am_E} {l : Launch} (hl : l.stackTraces = false) {S : am_S} {p0 : Nat} {p1 : Int32} {p2 : Int32} (kp0 : am_kd p0 = 112) : am_M E l yX12_throwsIf (.code yX12_throwsIf cX12_throwsIf 3 (some .boolean)) 0 0 0 [.ref p0, .int p1, .int p2] S ((f_X12_throwsIf S p0 p1 p2).map (fun (x : Int32 × (Nat → Nat → Int32)) => ((.inl (some (.int x.1)), (x.2, S.2)) : am_R))) := by
  refine am_M_of (w := fun (x : Int32 × (Nat → Nat → Int32)) => ((.inl (some (.int x.1)), (x.2, S.2)) : am_R)) hl (by decide) (am_fc rfl (am_fc rfl (am_fc rfl am_fn))) (Nat.le_of_ble_eq_true rfl) ?_
  show am_Ev E l (RX12, cX12_throwsIf, 3, (some .boolean), [], am_rm 0 0 0) (fun b a s x => am_Z E 0 0 b a s ((fun (x : Int32 × (Nat → Nat → Int32)) => ((.inl (some (.int x.1)), (x.2, S.2)) : am_R)) x)) 0 0 0 [some (.ref p0), some (.int p1), some (.int p2)] [] S (f_X12_throwsIf S p0 p1 p2)
  unfold f_X12_throwsIf
  refine ev_iload_n dX12_throwsIf_0 rfl ?_
  refine ev_reg (cs' := 0) (sl' := 0) 9 (fun t1 : (Nat → Nat → Int32) => [none, some (.int p1), none]) (fun t1 => []) (fun t1 => (t1, S.2)) (fun hJ1 => ?_) (fun t1 => ?_)
  · refine ev_eq am_ib ?_
    refine ev_if_eq (tgt := 9) dX12_throwsIf_1 (by decide) (fun c1 => ?_) (fun c1 => ?_)
    · exact ev_leaf (am_wf (am_wk (am_wf am_wn))) (hJ1 S.1)
    · refine ev_aload_n dX12_throwsIf_4 rfl ?_
      refine ev_iload_n dX12_throwsIf_5 rfl ?_
      refine ev_putI fk_X12_3 tyX12 tyX12_ok nmX12 rfl (by decide +kernel) (by decide) dX12_throwsIf_6 kp0 ?_
      exact ev_leaf (am_wf (am_wk (am_wf am_wn))) (hJ1 (am_u2 S.1 p0 0 p2))
  · refine ev_iload_n dX12_throwsIf_9 rfl ?_
    refine ev_split (fun c2 => ?_) (fun _ => ?_)
    · exact ev_iret dX12_throwsIf_10 rfl (am_nb c2) (by decide) (by decide) rfl
    · exact ev_none
def f_X12_in (p0 : Int32) (p1 : Int32) (p2 : Int32) : Option (Int32) :=
  (if p0 < p1 then some 0 else (if p2 < p0 then some 0 else some 1))
set_option maxRecDepth 20000 in
theorem t_X12_in {E : am_E} {l : Launch} (hl : l.stackTraces = false) {S : am_S} {p0 : Int32} {p1 : Int32} {p2 : Int32}  : am_M E l yX12_in (.code yX12_in cX12_in 3 (some .boolean)) 0 0 0 [.int p0, .int p1, .int p2] S ((f_X12_in p0 p1 p2).map (fun (v : Int32) => ((.inl (some (.int v)), S) : am_R))) := by
  refine am_M_of (w := fun (v : Int32) => ((.inl (some (.int v)), S) : am_R)) hl (by decide) (am_fc rfl (am_fc rfl (am_fc rfl am_fn))) (Nat.le_of_ble_eq_true rfl) ?_
  show am_Ev E l (RX12, cX12_in, 3, (some .boolean), [], am_rm 0 0 0) (fun b a s x => am_Z E 0 0 b a s ((fun (v : Int32) => ((.inl (some (.int v)), S) : am_R)) x)) 0 0 0 [some (.int p0), some (.int p1), some (.int p2)] [] S (f_X12_in p0 p1 p2)
  unfold f_X12_in
  refine ev_iload_n dX12_in_0 rfl ?_
  refine ev_iload_n dX12_in_1 rfl ?_
  refine ev_icmp_lt (tgt := 14) dX12_in_2 (by decide) (fun c1 => ?_) (fun c1 => ?_)
  · refine ev_iconst (v := 0) dX12_in_14 (by decide) ?_
    exact ev_iret dX12_in_15 rfl (by decide) (by decide) (by decide) rfl
  · refine ev_iload_n dX12_in_5 rfl ?_
    refine ev_iload_n dX12_in_6 rfl ?_
    refine ev_icmp_gt (tgt := 14) dX12_in_7 (by decide) (fun c2 => ?_) (fun c2 => ?_)
    · refine ev_iconst (v := 0) dX12_in_14 (by decide) ?_
      exact ev_iret dX12_in_15 rfl (by decide) (by decide) (by decide) rfl
    · refine ev_iconst (v := 1) dX12_in_10 (by decide) ?_
      refine ev_goto (tgt := 15) dX12_in_11 (by decide) ?_
      exact ev_iret dX12_in_15 rfl (by decide) (by decide) (by decide) rfl
def f_X12_has (p0 : Int32) (p1 : Int32) : Option (Int32) :=
  (if ((p0 >>> (p1 &&& 31)) &&& 1) = 1 then some 1 else some 0)
set_option maxRecDepth 20000 in
theorem t_X12_has {E : am_E} {l : Launch} (hl : l.stackTraces = false) {S : am_S} {p0 : Int32} {p1 : Int32}  : am_M E l yX12_has (.code yX12_has cX12_has 2 (some .boolean)) 0 0 0 [.int p0, .int p1] S ((f_X12_has p0 p1).map (fun (v : Int32) => ((.inl (some (.int v)), S) : am_R))) := by
  refine am_M_of (w := fun (v : Int32) => ((.inl (some (.int v)), S) : am_R)) hl (by decide) (am_fc rfl (am_fc rfl am_fn)) (Nat.le_of_ble_eq_true rfl) ?_
  show am_Ev E l (RX12, cX12_has, 2, (some .boolean), [], am_rm 0 0 0) (fun b a s x => am_Z E 0 0 b a s ((fun (v : Int32) => ((.inl (some (.int v)), S) : am_R)) x)) 0 0 0 [some (.int p0), some (.int p1)] [] S (f_X12_has p0 p1)
  unfold f_X12_has
  refine ev_iload_n dX12_has_0 rfl ?_
  refine ev_iload_n dX12_has_1 rfl ?_
  refine ev_ishr dX12_has_2 ?_
  refine ev_iconst (v := 1) dX12_has_3 (by decide) ?_
  refine ev_iand dX12_has_4 ?_
  refine ev_iconst (v := 1) dX12_has_5 (by decide) ?_
  refine ev_icmp_ne (tgt := 13) dX12_has_6 (by decide) (fun c1 => ?_) (fun c1 => ?_)
  · refine ev_iconst (v := 0) dX12_has_13 (by decide) ?_
    exact ev_iret dX12_has_14 rfl (by decide) (by decide) (by decide) rfl
  · refine ev_iconst (v := 1) dX12_has_9 (by decide) ?_
    refine ev_goto (tgt := 14) dX12_has_10 (by decide) ?_
    exact ev_iret dX12_has_14 rfl (by decide) (by decide) (by decide) rfl
def f_X12_image_b7 (S : am_S) (a0 : Nat) (x1 : Int32 × (Nat → Nat → Int32)) : Option ((Int32 × (Nat → Nat → Int32)) ⊕ ((Nat → Nat → Int32))) :=
  (if x1.1 < 1023 then ((am_rd S.2 a0 2 1).bind (fun q3 => ((am_rd S.2 a0 1 1).bind (fun q4 => ((am_ld x1.2 q4 x1.1).bind (fun v5 => ((am_st x1.2 q3 x1.1 v5).bind (fun σ6 => some (.inl ((x1.1 + 1), σ6)))))))))) else some (.inr x1.2))
def f_X12_image (S : am_S) (p0 : Nat) : Option ((Nat → Nat → Int32)) :=
  ((am_loop (f_X12_image_b7 ((am_u2 S.1 p0 0 0), S.2) p0) am_fuel (0, (am_u2 S.1 p0 0 0))).bind (fun t1 => some (am_u2 t1 p0 4 1)))
set_option maxRecDepth 20000 in
theorem t_X12_image {E : am_E} {l : Launch} (hl : l.stackTraces = false) {S : am_S} {p0 : Nat} (kp0 : am_kd p0 = 112) : am_M E l yX12_image (.code yX12_image cX12_image 2 none) 0 0 0 [.ref p0] S ((f_X12_image S p0).map (fun (x : Nat → Nat → Int32) => ((.inl none, (x, S.2)) : am_R))) := by
  refine am_M_of (w := fun (x : Nat → Nat → Int32) => ((.inl none, (x, S.2)) : am_R)) hl (by decide) (am_fc rfl am_fn) (Nat.le_of_ble_eq_true rfl) ?_
  show am_Ev E l (RX12, cX12_image, 2, none, [], am_rm 0 0 0) (fun b a s x => am_Z E 0 0 b a s ((fun (x : Nat → Nat → Int32) => ((.inl none, (x, S.2)) : am_R)) x)) 0 0 0 [some (.ref p0), none] [] S (f_X12_image S p0)
  unfold f_X12_image
  refine ev_aload_n dX12_image_0 rfl ?_
  refine ev_iconst (v := 0) dX12_image_1 (by decide) ?_
  refine ev_putI fk_X12_3 tyX12 tyX12_ok nmX12 rfl (by decide +kernel) (by decide) dX12_image_2 kp0 ?_
  refine ev_iconst (v := 0) dX12_image_5 (by decide) ?_
  refine ev_istore_n dX12_image_6 (am_lt rfl) ?_
  refine ev_weak (am_wk (am_wk am_wn)) (ev_loop 7 32 (fun x1 : Int32 × (Nat → Nat → Int32) => [some (.ref p0), some (.int x1.1)]) (fun t1 : (Nat → Nat → Int32) => [some (.ref p0), none]) (fun x1 => (x1.2, S.2)) (fun t1 => (t1, S.2)) (fun x1 G1 hB1 hE1 => ?_) (fun t1 => ?_) am_fuel (0, (am_u2 S.1 p0 0 0)))
  · unfold f_X12_image_b7
    refine ev_iload_n dX12_image_7 rfl ?_
    refine ev_sipush (v := 1023) dX12_image_8 (by decide) ?_
    refine ev_eq am_ib ?_
    refine ev_icmp_ge (tgt := 32) dX12_image_11 (by decide) (fun c7 => ?_) (fun c7 => ?_)
    · exact ev_leaf (am_wk (am_wf am_wn)) (hE1 x1.2)
    · refine ev_aload_n dX12_image_14 rfl ?_
      refine ev_eq (Option.bind_assoc _ _ _) ?_
      refine ev_getR fk_X12_17 (by decide) dX12_image_15 kp0 (fun q8 k8 r8 => ?_)
      refine ev_iload_n dX12_image_18 rfl ?_
      refine ev_aload_n dX12_image_19 rfl ?_
      refine ev_eq (Option.bind_assoc _ _ _) ?_
      refine ev_getR fk_X12_13 (by decide) dX12_image_20 kp0 (fun q9 k9 r9 => ?_)
      refine ev_iload_n dX12_image_23 rfl ?_
      refine ev_eq (Option.bind_assoc _ _ _) ?_
      refine ev_iald dX12_image_24 k9 (fun v10 h10 => ?_)
      refine ev_eq (Option.bind_assoc _ _ _) ?_
      refine ev_iast dX12_image_25 k8 (fun σ11 h11 => ?_)
      refine ev_iinc (v := (x1.1 + 1)) dX12_image_26 (am_lt rfl) rfl rfl ?_
      refine ev_goto (tgt := 7) dX12_image_29 (by decide) ?_
      exact ev_leaf (am_wk (am_wk am_wn)) (hB1 ((x1.1 + 1), σ11))
  · refine ev_aload_n dX12_image_32 rfl ?_
    refine ev_iconst (v := 1) dX12_image_33 (by decide) ?_
    refine ev_putB (by decide) (by decide) fk_X12_66 tyX12 tyX12_ok nmX12 rfl (by decide +kernel) (by decide) dX12_image_34 kp0 ?_
    exact ev_vret dX12_image_37 rfl (by decide) (by decide) rfl
def f_X12_back_b16 (S : am_S) (a0 : Nat) (x2 : Int32 × (Nat → Nat → Int32)) : Option ((Int32 × (Nat → Nat → Int32)) ⊕ ((Nat → Nat → Int32))) :=
  (if x2.1 < 1023 then ((am_rd S.2 a0 1 1).bind (fun q4 => ((am_rd S.2 a0 2 1).bind (fun q5 => ((am_ld x2.2 q5 x2.1).bind (fun v6 => ((am_st x2.2 q4 x2.1 v6).bind (fun σ7 => some (.inl ((x2.1 + 1), σ7)))))))))) else some (.inr x2.2))
def f_X12_back (S : am_S) (p0 : Nat) : Option (Int32 × (Nat → Nat → Int32)) :=
  (if ((am_u2 S.1 p0 0 0) p0 4) = 0 then some (0, (am_u2 S.1 p0 0 0)) else ((am_loop (f_X12_back_b16 ((am_u2 S.1 p0 0 0), S.2) p0) am_fuel (0, (am_u2 S.1 p0 0 0))).bind (fun t2 => some (1, t2))))
set_option maxRecDepth 20000 in
theorem t_X12_back {E : am_E} {l : Launch} (hl : l.stackTraces = false) {S : am_S} {p0 : Nat} (kp0 : am_kd p0 = 112) : am_M E l yX12_back (.code yX12_back cX12_back 2 (some .boolean)) 0 0 0 [.ref p0] S ((f_X12_back S p0).map (fun (x : Int32 × (Nat → Nat → Int32)) => ((.inl (some (.int x.1)), (x.2, S.2)) : am_R))) := by
  refine am_M_of (w := fun (x : Int32 × (Nat → Nat → Int32)) => ((.inl (some (.int x.1)), (x.2, S.2)) : am_R)) hl (by decide) (am_fc rfl am_fn) (Nat.le_of_ble_eq_true rfl) ?_
  show am_Ev E l (RX12, cX12_back, 2, (some .boolean), [], am_rm 0 0 0) (fun b a s x => am_Z E 0 0 b a s ((fun (x : Int32 × (Nat → Nat → Int32)) => ((.inl (some (.int x.1)), (x.2, S.2)) : am_R)) x)) 0 0 0 [some (.ref p0), none] [] S (f_X12_back S p0)
  unfold f_X12_back
  refine ev_aload_n dX12_back_0 rfl ?_
  refine ev_iconst (v := 0) dX12_back_1 (by decide) ?_
  refine ev_putI fk_X12_3 tyX12 tyX12_ok nmX12 rfl (by decide +kernel) (by decide) dX12_back_2 kp0 ?_
  refine ev_aload_n dX12_back_5 rfl ?_
  refine ev_get fk_X12_66 dX12_back_6 kp0 (am_fvI (by decide)) ?_
  refine ev_if_ne (tgt := 14) dX12_back_9 (by decide) (fun c1 => ?_) (fun c1 => ?_)
  · refine ev_iconst (v := 0) dX12_back_14 (by decide) ?_
    refine ev_istore_n dX12_back_15 (am_lt rfl) ?_
    refine ev_weak (am_wk (am_wk am_wn)) (ev_loop 16 41 (fun x2 : Int32 × (Nat → Nat → Int32) => [some (.ref p0), some (.int x2.1)]) (fun t2 : (Nat → Nat → Int32) => [none, none]) (fun x2 => (x2.2, S.2)) (fun t2 => (t2, S.2)) (fun x2 G2 hB2 hE2 => ?_) (fun t2 => ?_) am_fuel (0, (am_u2 S.1 p0 0 0)))
    · unfold f_X12_back_b16
      refine ev_iload_n dX12_back_16 rfl ?_
      refine ev_sipush (v := 1023) dX12_back_17 (by decide) ?_
      refine ev_eq am_ib ?_
      refine ev_icmp_ge (tgt := 41) dX12_back_20 (by decide) (fun c8 => ?_) (fun c8 => ?_)
      · exact ev_leaf (am_wf (am_wf am_wn)) (hE2 x2.2)
      · refine ev_aload_n dX12_back_23 rfl ?_
        refine ev_eq (Option.bind_assoc _ _ _) ?_
        refine ev_getR fk_X12_13 (by decide) dX12_back_24 kp0 (fun q9 k9 r9 => ?_)
        refine ev_iload_n dX12_back_27 rfl ?_
        refine ev_aload_n dX12_back_28 rfl ?_
        refine ev_eq (Option.bind_assoc _ _ _) ?_
        refine ev_getR fk_X12_17 (by decide) dX12_back_29 kp0 (fun q10 k10 r10 => ?_)
        refine ev_iload_n dX12_back_32 rfl ?_
        refine ev_eq (Option.bind_assoc _ _ _) ?_
        refine ev_iald dX12_back_33 k10 (fun v11 h11 => ?_)
        refine ev_eq (Option.bind_assoc _ _ _) ?_
        refine ev_iast dX12_back_34 k9 (fun σ12 h12 => ?_)
        refine ev_iinc (v := (x2.1 + 1)) dX12_back_35 (am_lt rfl) rfl rfl ?_
        refine ev_goto (tgt := 16) dX12_back_38 (by decide) ?_
        exact ev_leaf (am_wk (am_wk am_wn)) (hB2 ((x2.1 + 1), σ12))
    · refine ev_iconst (v := 1) dX12_back_41 (by decide) ?_
      exact ev_iret dX12_back_42 rfl (by decide) (by decide) (by decide) rfl
  · refine ev_iconst (v := 0) dX12_back_12 (by decide) ?_
    exact ev_iret dX12_back_13 rfl (by decide) (by decide) (by decide) rfl
def f_X12_houses (S : am_S) (p0 : Nat) : Option (Int32) :=
  ((am_rd S.2 p0 1 1).bind (fun q1 => ((am_ld S.1 q1 0).bind (fun v2 => some v2))))
set_option maxRecDepth 20000 in
theorem t_X12_houses {E : am_E} {l : Launch} (hl : l.stackTraces = false) {S : am_S} {p0 : Nat} (kp0 : am_kd p0 = 112) : am_M E l yX12_houses (.code yX12_houses cX12_houses 1 (some .int)) 0 0 0 [.ref p0] S ((f_X12_houses S p0).map (fun (v : Int32) => ((.inl (some (.int v)), S) : am_R))) := by
  refine am_M_of (w := fun (v : Int32) => ((.inl (some (.int v)), S) : am_R)) hl (by decide) (am_fc rfl am_fn) (Nat.le_of_ble_eq_true rfl) ?_
  show am_Ev E l (RX12, cX12_houses, 1, (some .int), [], am_rm 0 0 0) (fun b a s x => am_Z E 0 0 b a s ((fun (v : Int32) => ((.inl (some (.int v)), S) : am_R)) x)) 0 0 0 [some (.ref p0)] [] S (f_X12_houses S p0)
  unfold f_X12_houses
  refine ev_aload_n dX12_houses_0 rfl ?_
  refine ev_getR fk_X12_13 (by decide) dX12_houses_1 kp0 (fun q1 k1 r1 => ?_)
  refine ev_iconst (v := 0) dX12_houses_4 (by decide) ?_
  refine ev_iald dX12_houses_5 k1 (fun v2 h2 => ?_)
  exact ev_iret dX12_houses_6 rfl rfl (by decide) (by decide) rfl
def f_X12_wants (S : am_S) (p0 : Nat) : Option (Int32) :=
  ((am_rd S.2 p0 1 1).bind (fun q1 => ((am_ld S.1 q1 1).bind (fun v2 => some v2))))
set_option maxRecDepth 20000 in
theorem t_X12_wants {E : am_E} {l : Launch} (hl : l.stackTraces = false) {S : am_S} {p0 : Nat} (kp0 : am_kd p0 = 112) : am_M E l yX12_wants (.code yX12_wants cX12_wants 1 (some .int)) 0 0 0 [.ref p0] S ((f_X12_wants S p0).map (fun (v : Int32) => ((.inl (some (.int v)), S) : am_R))) := by
  refine am_M_of (w := fun (v : Int32) => ((.inl (some (.int v)), S) : am_R)) hl (by decide) (am_fc rfl am_fn) (Nat.le_of_ble_eq_true rfl) ?_
  show am_Ev E l (RX12, cX12_wants, 1, (some .int), [], am_rm 0 0 0) (fun b a s x => am_Z E 0 0 b a s ((fun (v : Int32) => ((.inl (some (.int v)), S) : am_R)) x)) 0 0 0 [some (.ref p0)] [] S (f_X12_wants S p0)
  unfold f_X12_wants
  refine ev_aload_n dX12_wants_0 rfl ?_
  refine ev_getR fk_X12_13 (by decide) dX12_wants_1 kp0 (fun q1 k1 r1 => ?_)
  refine ev_iconst (v := 1) dX12_wants_4 (by decide) ?_
  refine ev_iald dX12_wants_5 k1 (fun v2 h2 => ?_)
  exact ev_iret dX12_wants_6 rfl rfl (by decide) (by decide) rfl
def f_X12_of (S : am_S) (p0 : Nat) (p1 : Int32) (p2 : Int32) : Option (Int32) :=
  ((am_rd S.2 p0 1 1).bind (fun q1 => ((am_ld S.1 q1 ((8 + (15 * p1)) + p2)).bind (fun v2 => some v2))))
set_option maxRecDepth 20000 in
theorem t_X12_of {E : am_E} {l : Launch} (hl : l.stackTraces = false) {S : am_S} {p0 : Nat} {p1 : Int32} {p2 : Int32} (kp0 : am_kd p0 = 112) : am_M E l yX12_of (.code yX12_of cX12_of 3 (some .int)) 0 0 0 [.ref p0, .int p1, .int p2] S ((f_X12_of S p0 p1 p2).map (fun (v : Int32) => ((.inl (some (.int v)), S) : am_R))) := by
  refine am_M_of (w := fun (v : Int32) => ((.inl (some (.int v)), S) : am_R)) hl (by decide) (am_fc rfl (am_fc rfl (am_fc rfl am_fn))) (Nat.le_of_ble_eq_true rfl) ?_
  show am_Ev E l (RX12, cX12_of, 3, (some .int), [], am_rm 0 0 0) (fun b a s x => am_Z E 0 0 b a s ((fun (v : Int32) => ((.inl (some (.int v)), S) : am_R)) x)) 0 0 0 [some (.ref p0), some (.int p1), some (.int p2)] [] S (f_X12_of S p0 p1 p2)
  unfold f_X12_of
  refine ev_aload_n dX12_of_0 rfl ?_
  refine ev_getR fk_X12_13 (by decide) dX12_of_1 kp0 (fun q1 k1 r1 => ?_)
  refine ev_bipush (v := 8) dX12_of_4 (by decide) ?_
  refine ev_bipush (v := 15) dX12_of_6 (by decide) ?_
  refine ev_iload_n dX12_of_8 rfl ?_
  refine ev_imul dX12_of_9 ?_
  refine ev_iadd dX12_of_10 ?_
  refine ev_iload_n dX12_of_11 rfl ?_
  refine ev_iadd dX12_of_12 ?_
  refine ev_iald dX12_of_13 k1 (fun v2 h2 => ?_)
  exact ev_iret dX12_of_14 rfl rfl (by decide) (by decide) rfl
def f_X12_sets (S : am_S) (p0 : Nat) (p1 : Int32) (p2 : Int32) (p3 : Int32) : Option ((Nat → Nat → Int32)) :=
  ((am_rd S.2 p0 1 1).bind (fun q1 => ((am_st S.1 q1 ((8 + (15 * p1)) + p2) p3).bind (fun σ2 => some σ2))))
set_option maxRecDepth 20000 in
theorem t_X12_sets {E : am_E} {l : Launch} (hl : l.stackTraces = false) {S : am_S} {p0 : Nat} {p1 : Int32} {p2 : Int32} {p3 : Int32} (kp0 : am_kd p0 = 112) : am_M E l yX12_sets (.code yX12_sets cX12_sets 4 none) 0 0 0 [.ref p0, .int p1, .int p2, .int p3] S ((f_X12_sets S p0 p1 p2 p3).map (fun (x : Nat → Nat → Int32) => ((.inl none, (x, S.2)) : am_R))) := by
  refine am_M_of (w := fun (x : Nat → Nat → Int32) => ((.inl none, (x, S.2)) : am_R)) hl (by decide) (am_fc rfl (am_fc rfl (am_fc rfl (am_fc rfl am_fn)))) (Nat.le_of_ble_eq_true rfl) ?_
  show am_Ev E l (RX12, cX12_sets, 4, none, [], am_rm 0 0 0) (fun b a s x => am_Z E 0 0 b a s ((fun (x : Nat → Nat → Int32) => ((.inl none, (x, S.2)) : am_R)) x)) 0 0 0 [some (.ref p0), some (.int p1), some (.int p2), some (.int p3)] [] S (f_X12_sets S p0 p1 p2 p3)
  unfold f_X12_sets
  refine ev_aload_n dX12_sets_0 rfl ?_
  refine ev_getR fk_X12_13 (by decide) dX12_sets_1 kp0 (fun q1 k1 r1 => ?_)
  refine ev_bipush (v := 8) dX12_sets_4 (by decide) ?_
  refine ev_bipush (v := 15) dX12_sets_6 (by decide) ?_
  refine ev_iload_n dX12_sets_8 rfl ?_
  refine ev_imul dX12_sets_9 ?_
  refine ev_iadd dX12_sets_10 ?_
  refine ev_iload_n dX12_sets_11 rfl ?_
  refine ev_iadd dX12_sets_12 ?_
  refine ev_iload_n dX12_sets_13 rfl ?_
  refine ev_iast dX12_sets_14 k1 (fun σ2 h2 => ?_)
  exact ev_vret dX12_sets_15 rfl (by decide) (by decide) rfl
def f_X12_wordOf (S : am_S) (p0 : Nat) (p1 : Int32) (p2 : Int32) : Option (Int32) :=
  ((f_X12_of S p0 p1 (5 + p2)).bind (fun v1 => some v1))
set_option maxRecDepth 20000 in
theorem t_X12_wordOf {E : am_E} {l : Launch} (hl : l.stackTraces = false) {S : am_S} {p0 : Nat} {p1 : Int32} {p2 : Int32} (kp0 : am_kd p0 = 112) : am_M E l yX12_wordOf (.code yX12_wordOf cX12_wordOf 3 (some .int)) 1 0 0 [.ref p0, .int p1, .int p2] S ((f_X12_wordOf S p0 p1 p2).map (fun (v : Int32) => ((.inl (some (.int v)), S) : am_R))) := by
  refine am_M_of (w := fun (v : Int32) => ((.inl (some (.int v)), S) : am_R)) hl (by decide) (am_fc rfl (am_fc rfl (am_fc rfl am_fn))) (Nat.le_of_ble_eq_true rfl) ?_
  show am_Ev E l (RX12, cX12_wordOf, 3, (some .int), [], am_rm 1 0 0) (fun b a s x => am_Z E 0 0 b a s ((fun (v : Int32) => ((.inl (some (.int v)), S) : am_R)) x)) 0 0 0 [some (.ref p0), some (.int p1), some (.int p2)] [] S (f_X12_wordOf S p0 p1 p2)
  unfold f_X12_wordOf
  refine ev_aload_n dX12_wordOf_0 rfl ?_
  refine ev_iload_n dX12_wordOf_1 rfl ?_
  refine ev_iconst (v := 5) dX12_wordOf_2 (by decide) ?_
  refine ev_iload_n dX12_wordOf_3 rfl ?_
  refine ev_iadd dX12_wordOf_4 ?_
  refine ev_callP (am_callV (as := [.int p1, .int (5 + p2)]) (o := p0) (st := []) cv_X12_70 dX12_wordOf_5 kp0 rfl (am_le rfl) (am_fit (by omega) (by decide) (by decide) (by decide)) (t_X12_of hl kp0)) (fun v1 h1 => ?_)
  exact ev_iret dX12_wordOf_8 rfl rfl (by decide) (by decide) rfl
def f_X12_urgent (S : am_S) (p0 : Nat) (p1 : Int32) : Option (Int32) :=
  ((am_rd S.2 p0 1 1).bind (fun q1 => ((am_ld S.1 q1 (128 + p1)).bind (fun v2 => some v2))))
set_option maxRecDepth 20000 in
theorem t_X12_urgent {E : am_E} {l : Launch} (hl : l.stackTraces = false) {S : am_S} {p0 : Nat} {p1 : Int32} (kp0 : am_kd p0 = 112) : am_M E l yX12_urgent (.code yX12_urgent cX12_urgent 2 (some .int)) 0 0 0 [.ref p0, .int p1] S ((f_X12_urgent S p0 p1).map (fun (v : Int32) => ((.inl (some (.int v)), S) : am_R))) := by
  refine am_M_of (w := fun (v : Int32) => ((.inl (some (.int v)), S) : am_R)) hl (by decide) (am_fc rfl (am_fc rfl am_fn)) (Nat.le_of_ble_eq_true rfl) ?_
  show am_Ev E l (RX12, cX12_urgent, 2, (some .int), [], am_rm 0 0 0) (fun b a s x => am_Z E 0 0 b a s ((fun (v : Int32) => ((.inl (some (.int v)), S) : am_R)) x)) 0 0 0 [some (.ref p0), some (.int p1)] [] S (f_X12_urgent S p0 p1)
  unfold f_X12_urgent
  refine ev_aload_n dX12_urgent_0 rfl ?_
  refine ev_getR fk_X12_13 (by decide) dX12_urgent_1 kp0 (fun q1 k1 r1 => ?_)
  refine ev_sipush (v := 128) dX12_urgent_4 (by decide) ?_
  refine ev_iload_n dX12_urgent_7 rfl ?_
  refine ev_iadd dX12_urgent_8 ?_
  refine ev_iald dX12_urgent_9 k1 (fun v2 h2 => ?_)
  exact ev_iret dX12_urgent_10 rfl rfl (by decide) (by decide) rfl
def f_X12_ofRing (S : am_S) (p0 : Nat) (p1 : Int32) (p2 : Int32) : Option (Int32) :=
  ((am_rd S.2 p0 1 1).bind (fun q1 => ((am_ld S.1 q1 ((138 + (4 * p1)) + p2)).bind (fun v2 => some v2))))
set_option maxRecDepth 20000 in
theorem t_X12_ofRing {E : am_E} {l : Launch} (hl : l.stackTraces = false) {S : am_S} {p0 : Nat} {p1 : Int32} {p2 : Int32} (kp0 : am_kd p0 = 112) : am_M E l yX12_ofRing (.code yX12_ofRing cX12_ofRing 3 (some .int)) 0 0 0 [.ref p0, .int p1, .int p2] S ((f_X12_ofRing S p0 p1 p2).map (fun (v : Int32) => ((.inl (some (.int v)), S) : am_R))) := by
  refine am_M_of (w := fun (v : Int32) => ((.inl (some (.int v)), S) : am_R)) hl (by decide) (am_fc rfl (am_fc rfl (am_fc rfl am_fn))) (Nat.le_of_ble_eq_true rfl) ?_
  show am_Ev E l (RX12, cX12_ofRing, 3, (some .int), [], am_rm 0 0 0) (fun b a s x => am_Z E 0 0 b a s ((fun (v : Int32) => ((.inl (some (.int v)), S) : am_R)) x)) 0 0 0 [some (.ref p0), some (.int p1), some (.int p2)] [] S (f_X12_ofRing S p0 p1 p2)
  unfold f_X12_ofRing
  refine ev_aload_n dX12_ofRing_0 rfl ?_
  refine ev_getR fk_X12_13 (by decide) dX12_ofRing_1 kp0 (fun q1 k1 r1 => ?_)
  refine ev_sipush (v := 138) dX12_ofRing_4 (by decide) ?_
  refine ev_iconst (v := 4) dX12_ofRing_7 (by decide) ?_
  refine ev_iload_n dX12_ofRing_8 rfl ?_
  refine ev_imul dX12_ofRing_9 ?_
  refine ev_iadd dX12_ofRing_10 ?_
  refine ev_iload_n dX12_ofRing_11 rfl ?_
  refine ev_iadd dX12_ofRing_12 ?_
  refine ev_iald dX12_ofRing_13 k1 (fun v2 h2 => ?_)
  exact ev_iret dX12_ofRing_14 rfl rfl (by decide) (by decide) rfl
def f_X12_noHouse (S : am_S) (p0 : Nat) (p1 : Int32) : Option (Int32) :=
  ((f_X12_houses S p0).bind (fun v1 => ((f_X12_in p1 0 (v1 - 1)).bind (fun v2 => (if v2 = 0 then some 1 else some 0)))))
set_option maxRecDepth 20000 in
theorem t_X12_noHouse {E : am_E} {l : Launch} (hl : l.stackTraces = false) {S : am_S} {p0 : Nat} {p1 : Int32} (kp0 : am_kd p0 = 112) : am_M E l yX12_noHouse (.code yX12_noHouse cX12_noHouse 2 (some .boolean)) 1 0 0 [.ref p0, .int p1] S ((f_X12_noHouse S p0 p1).map (fun (v : Int32) => ((.inl (some (.int v)), S) : am_R))) := by
  refine am_M_of (w := fun (v : Int32) => ((.inl (some (.int v)), S) : am_R)) hl (by decide) (am_fc rfl (am_fc rfl am_fn)) (Nat.le_of_ble_eq_true rfl) ?_
  show am_Ev E l (RX12, cX12_noHouse, 2, (some .boolean), [], am_rm 1 0 0) (fun b a s x => am_Z E 0 0 b a s ((fun (v : Int32) => ((.inl (some (.int v)), S) : am_R)) x)) 0 0 0 [some (.ref p0), some (.int p1)] [] S (f_X12_noHouse S p0 p1)
  unfold f_X12_noHouse
  refine ev_iload_n dX12_noHouse_0 rfl ?_
  refine ev_iconst (v := 0) dX12_noHouse_1 (by decide) ?_
  refine ev_aload_n dX12_noHouse_2 rfl ?_
  refine ev_callP (am_callV (as := []) (o := p0) (st := [.int 0, .int p1]) cv_X12_74 dX12_noHouse_3 kp0 rfl (am_le rfl) (am_fit (by omega) (by decide) (by decide) (by decide)) (t_X12_houses hl kp0)) (fun v1 h1 => ?_)
  refine ev_iconst (v := 1) dX12_noHouse_6 (by decide) ?_
  refine ev_isub dX12_noHouse_7 ?_
  refine ev_callP (am_callS (as := [.int p1, .int 0, .int (v1 - 1)]) (st := []) ct_X12_78 dX12_noHouse_8 rfl (am_le rfl) (am_fit (by omega) (by decide) (by decide) (by decide)) (t_X12_in hl )) (fun v2 h2 => ?_)
  refine ev_if_ne (tgt := 18) dX12_noHouse_11 (by decide) (fun c3 => ?_) (fun c3 => ?_)
  · refine ev_iconst (v := 0) dX12_noHouse_18 (by decide) ?_
    exact ev_iret dX12_noHouse_19 rfl (by decide) (by decide) (by decide) rfl
  · refine ev_iconst (v := 1) dX12_noHouse_14 (by decide) ?_
    refine ev_goto (tgt := 19) dX12_noHouse_15 (by decide) ?_
    exact ev_iret dX12_noHouse_19 rfl (by decide) (by decide) (by decide) rfl
def f_X12_noWant (S : am_S) (p0 : Nat) (p1 : Int32) : Option (Int32) :=
  ((f_X12_wants S p0).bind (fun v1 => ((f_X12_in p1 0 (v1 - 1)).bind (fun v2 => (if v2 = 0 then some 1 else some 0)))))
set_option maxRecDepth 20000 in
theorem t_X12_noWant {E : am_E} {l : Launch} (hl : l.stackTraces = false) {S : am_S} {p0 : Nat} {p1 : Int32} (kp0 : am_kd p0 = 112) : am_M E l yX12_noWant (.code yX12_noWant cX12_noWant 2 (some .boolean)) 1 0 0 [.ref p0, .int p1] S ((f_X12_noWant S p0 p1).map (fun (v : Int32) => ((.inl (some (.int v)), S) : am_R))) := by
  refine am_M_of (w := fun (v : Int32) => ((.inl (some (.int v)), S) : am_R)) hl (by decide) (am_fc rfl (am_fc rfl am_fn)) (Nat.le_of_ble_eq_true rfl) ?_
  show am_Ev E l (RX12, cX12_noWant, 2, (some .boolean), [], am_rm 1 0 0) (fun b a s x => am_Z E 0 0 b a s ((fun (v : Int32) => ((.inl (some (.int v)), S) : am_R)) x)) 0 0 0 [some (.ref p0), some (.int p1)] [] S (f_X12_noWant S p0 p1)
  unfold f_X12_noWant
  refine ev_iload_n dX12_noWant_0 rfl ?_
  refine ev_iconst (v := 0) dX12_noWant_1 (by decide) ?_
  refine ev_aload_n dX12_noWant_2 rfl ?_
  refine ev_callP (am_callV (as := []) (o := p0) (st := [.int 0, .int p1]) cv_X12_82 dX12_noWant_3 kp0 rfl (am_le rfl) (am_fit (by omega) (by decide) (by decide) (by decide)) (t_X12_wants hl kp0)) (fun v1 h1 => ?_)
  refine ev_iconst (v := 1) dX12_noWant_6 (by decide) ?_
  refine ev_isub dX12_noWant_7 ?_
  refine ev_callP (am_callS (as := [.int p1, .int 0, .int (v1 - 1)]) (st := []) ct_X12_78 dX12_noWant_8 rfl (am_le rfl) (am_fit (by omega) (by decide) (by decide) (by decide)) (t_X12_in hl )) (fun v2 h2 => ?_)
  refine ev_if_ne (tgt := 18) dX12_noWant_11 (by decide) (fun c3 => ?_) (fun c3 => ?_)
  · refine ev_iconst (v := 0) dX12_noWant_18 (by decide) ?_
    exact ev_iret dX12_noWant_19 rfl (by decide) (by decide) (by decide) rfl
  · refine ev_iconst (v := 1) dX12_noWant_14 (by decide) ?_
    refine ev_goto (tgt := 19) dX12_noWant_15 (by decide) ?_
    exact ev_iret dX12_noWant_19 rfl (by decide) (by decide) (by decide) rfl
def f_X12_noRing (S : am_S) (p0 : Nat) (p1 : Int32) : Option (Int32) :=
  ((am_rd S.2 p0 1 1).bind (fun q1 => ((am_ld S.1 q1 4).bind (fun v2 => ((f_X12_in p1 0 (v2 - 1)).bind (fun v3 => (if v3 = 0 then some 1 else some 0)))))))
set_option maxRecDepth 20000 in
theorem t_X12_noRing {E : am_E} {l : Launch} (hl : l.stackTraces = false) {S : am_S} {p0 : Nat} {p1 : Int32} (kp0 : am_kd p0 = 112) : am_M E l yX12_noRing (.code yX12_noRing cX12_noRing 2 (some .boolean)) 1 0 0 [.ref p0, .int p1] S ((f_X12_noRing S p0 p1).map (fun (v : Int32) => ((.inl (some (.int v)), S) : am_R))) := by
  refine am_M_of (w := fun (v : Int32) => ((.inl (some (.int v)), S) : am_R)) hl (by decide) (am_fc rfl (am_fc rfl am_fn)) (Nat.le_of_ble_eq_true rfl) ?_
  show am_Ev E l (RX12, cX12_noRing, 2, (some .boolean), [], am_rm 1 0 0) (fun b a s x => am_Z E 0 0 b a s ((fun (v : Int32) => ((.inl (some (.int v)), S) : am_R)) x)) 0 0 0 [some (.ref p0), some (.int p1)] [] S (f_X12_noRing S p0 p1)
  unfold f_X12_noRing
  refine ev_iload_n dX12_noRing_0 rfl ?_
  refine ev_iconst (v := 0) dX12_noRing_1 (by decide) ?_
  refine ev_aload_n dX12_noRing_2 rfl ?_
  refine ev_getR fk_X12_13 (by decide) dX12_noRing_3 kp0 (fun q1 k1 r1 => ?_)
  refine ev_iconst (v := 4) dX12_noRing_6 (by decide) ?_
  refine ev_iald dX12_noRing_7 k1 (fun v2 h2 => ?_)
  refine ev_iconst (v := 1) dX12_noRing_8 (by decide) ?_
  refine ev_isub dX12_noRing_9 ?_
  refine ev_callP (am_callS (as := [.int p1, .int 0, .int (v2 - 1)]) (st := []) ct_X12_78 dX12_noRing_10 rfl (am_le rfl) (am_fit (by omega) (by decide) (by decide) (by decide)) (t_X12_in hl )) (fun v3 h3 => ?_)
  refine ev_if_ne (tgt := 20) dX12_noRing_13 (by decide) (fun c4 => ?_) (fun c4 => ?_)
  · refine ev_iconst (v := 0) dX12_noRing_20 (by decide) ?_
    exact ev_iret dX12_noRing_21 rfl (by decide) (by decide) (by decide) rfl
  · refine ev_iconst (v := 1) dX12_noRing_16 (by decide) ?_
    refine ev_goto (tgt := 21) dX12_noRing_17 (by decide) ?_
    exact ev_iret dX12_noRing_21 rfl (by decide) (by decide) (by decide) rfl
def f_X12_lengthOf_b4  (x1 : Int32 × Int32) : Option ((Int32 × Int32) ⊕ (Int32)) :=
  (if 1 < x1.2 then some (.inl ((x1.1 + 1), (x1.2 >>> ((1 : Int32) &&& 31)))) else some (.inr x1.1))
def f_X12_lengthOf (p0 : Int32) : Option (Int32) :=
  ((am_loop (f_X12_lengthOf_b4  ) am_fuel (0, p0)).bind (fun t1 => some t1))
set_option maxRecDepth 20000 in
theorem t_X12_lengthOf {E : am_E} {l : Launch} (hl : l.stackTraces = false) {S : am_S} {p0 : Int32}  : am_M E l yX12_lengthOf (.code yX12_lengthOf cX12_lengthOf 3 (some .int)) 0 0 0 [.int p0] S ((f_X12_lengthOf p0).map (fun (v : Int32) => ((.inl (some (.int v)), S) : am_R))) := by
  refine am_M_of (w := fun (v : Int32) => ((.inl (some (.int v)), S) : am_R)) hl (by decide) (am_fc rfl am_fn) (Nat.le_of_ble_eq_true rfl) ?_
  show am_Ev E l (RX12, cX12_lengthOf, 3, (some .int), [], am_rm 0 0 0) (fun b a s x => am_Z E 0 0 b a s ((fun (v : Int32) => ((.inl (some (.int v)), S) : am_R)) x)) 0 0 0 [some (.int p0), none, none] [] S (f_X12_lengthOf p0)
  unfold f_X12_lengthOf
  refine ev_iconst (v := 0) dX12_lengthOf_0 (by decide) ?_
  refine ev_istore_n dX12_lengthOf_1 (am_lt rfl) ?_
  refine ev_iload_n dX12_lengthOf_2 rfl ?_
  refine ev_istore_n dX12_lengthOf_3 (am_lt rfl) ?_
  refine ev_weak (am_wf (am_wk (am_wk am_wn))) (ev_loop 4 19 (fun x1 : Int32 × Int32 => [none, some (.int x1.1), some (.int x1.2)]) (fun t1 : Int32 => [none, some (.int t1), none]) (fun x1 => S) (fun t1 => S) (fun x1 G1 hB1 hE1 => ?_) (fun t1 => ?_) am_fuel (0, p0))
  · unfold f_X12_lengthOf_b4
    refine ev_iload_n dX12_lengthOf_4 rfl ?_
    refine ev_iconst (v := 1) dX12_lengthOf_5 (by decide) ?_
    refine ev_eq am_ib ?_
    refine ev_icmp_le (tgt := 19) dX12_lengthOf_6 (by decide) (fun c3 => ?_) (fun c3 => ?_)
    · exact ev_leaf (am_wf (am_wk (am_wf am_wn))) (hE1 x1.1)
    · refine ev_iinc (v := (x1.1 + 1)) dX12_lengthOf_9 (am_lt rfl) rfl rfl ?_
      refine ev_iload_n dX12_lengthOf_12 rfl ?_
      refine ev_iconst (v := 1) dX12_lengthOf_13 (by decide) ?_
      refine ev_ishr dX12_lengthOf_14 ?_
      refine ev_istore_n dX12_lengthOf_15 (am_lt rfl) ?_
      refine ev_goto (tgt := 4) dX12_lengthOf_16 (by decide) ?_
      exact ev_leaf (am_wf (am_wk (am_wk am_wn))) (hB1 ((x1.1 + 1), (x1.2 >>> ((1 : Int32) &&& 31))))
  · refine ev_iload_n dX12_lengthOf_19 rfl ?_
    exact ev_iret dX12_lengthOf_20 rfl rfl (by decide) (by decide) rfl
def f_X12_costOf (p0 : Int32) : Option (Int32) :=
  (if p0 < 2 then some 0 else ((f_X12_lengthOf p0).bind (fun v2 => ((f_J6_bitCount_0f7a4 p0).bind (fun v3 => some ((v2 + v3) - 1))))))
set_option maxRecDepth 20000 in
theorem t_X12_costOf {E : am_E} {l : Launch} (hl : l.stackTraces = false) {S : am_S} {p0 : Int32}  : am_M E l yX12_costOf (.code yX12_costOf cX12_costOf 1 (some .int)) 1 0 0 [.int p0] S ((f_X12_costOf p0).map (fun (v : Int32) => ((.inl (some (.int v)), S) : am_R))) := by
  refine am_M_of (w := fun (v : Int32) => ((.inl (some (.int v)), S) : am_R)) hl (by decide) (am_fc rfl am_fn) (Nat.le_of_ble_eq_true rfl) ?_
  show am_Ev E l (RX12, cX12_costOf, 1, (some .int), [], am_rm 1 0 0) (fun b a s x => am_Z E 0 0 b a s ((fun (v : Int32) => ((.inl (some (.int v)), S) : am_R)) x)) 0 0 0 [some (.int p0)] [] S (f_X12_costOf p0)
  unfold f_X12_costOf
  refine ev_iload_n dX12_costOf_0 rfl ?_
  refine ev_iconst (v := 2) dX12_costOf_1 (by decide) ?_
  refine ev_icmp_ge (tgt := 9) dX12_costOf_2 (by decide) (fun c1 => ?_) (fun c1 => ?_)
  · refine ev_iload_n dX12_costOf_9 rfl ?_
    refine ev_callP (am_callS (as := [.int p0]) (st := []) ct_X12_85 dX12_costOf_10 rfl (am_le rfl) (am_fit (by omega) (by decide) (by decide) (by decide)) (t_X12_lengthOf hl )) (fun v2 h2 => ?_)
    refine ev_iload_n dX12_costOf_13 rfl ?_
    refine ev_callP (am_callS (as := [.int p0]) (st := [.int v2]) ct_X12_89 dX12_costOf_14 rfl (am_le rfl) (am_fit (by omega) (by decide) (by decide) (by decide)) (t_J6_bitCount_0f7a4 hl )) (fun v3 h3 => ?_)
    refine ev_iadd dX12_costOf_17 ?_
    refine ev_iconst (v := 1) dX12_costOf_18 (by decide) ?_
    refine ev_isub dX12_costOf_19 ?_
    exact ev_iret dX12_costOf_20 rfl rfl (by decide) (by decide) rfl
  · refine ev_iconst (v := 0) dX12_costOf_5 (by decide) ?_
    refine ev_goto (tgt := 20) dX12_costOf_6 (by decide) ?_
    exact ev_iret dX12_costOf_20 rfl rfl (by decide) (by decide) rfl
def f_X12_cut (p0 : Int32) (p1 : Int32) : Option (Int32) :=
  ((f_X12_lengthOf p0).bind (fun v1 => ((f_J9_max_7cf53 0 (v1 - p1)).bind (fun v2 => some (p0 >>> (v2 &&& 31))))))
set_option maxRecDepth 20000 in
theorem t_X12_cut {E : am_E} {l : Launch} (hl : l.stackTraces = false) {S : am_S} {p0 : Int32} {p1 : Int32}  : am_M E l yX12_cut (.code yX12_cut cX12_cut 2 (some .int)) 1 0 0 [.int p0, .int p1] S ((f_X12_cut p0 p1).map (fun (v : Int32) => ((.inl (some (.int v)), S) : am_R))) := by
  refine am_M_of (w := fun (v : Int32) => ((.inl (some (.int v)), S) : am_R)) hl (by decide) (am_fc rfl (am_fc rfl am_fn)) (Nat.le_of_ble_eq_true rfl) ?_
  show am_Ev E l (RX12, cX12_cut, 2, (some .int), [], am_rm 1 0 0) (fun b a s x => am_Z E 0 0 b a s ((fun (v : Int32) => ((.inl (some (.int v)), S) : am_R)) x)) 0 0 0 [some (.int p0), some (.int p1)] [] S (f_X12_cut p0 p1)
  unfold f_X12_cut
  refine ev_iload_n dX12_cut_0 rfl ?_
  refine ev_iconst (v := 0) dX12_cut_1 (by decide) ?_
  refine ev_iload_n dX12_cut_2 rfl ?_
  refine ev_callP (am_callS (as := [.int p0]) (st := [.int 0, .int p0]) ct_X12_85 dX12_cut_3 rfl (am_le rfl) (am_fit (by omega) (by decide) (by decide) (by decide)) (t_X12_lengthOf hl )) (fun v1 h1 => ?_)
  refine ev_iload_n dX12_cut_6 rfl ?_
  refine ev_isub dX12_cut_7 ?_
  refine ev_callP (am_callS (as := [.int 0, .int (v1 - p1)]) (st := [.int p0]) ct_X12_94 dX12_cut_8 rfl (am_le rfl) (am_fit (by omega) (by decide) (by decide) (by decide)) (t_J9_max_7cf53 hl )) (fun v2 h2 => ?_)
  refine ev_ishr dX12_cut_11 ?_
  exact ev_iret dX12_cut_12 rfl rfl (by decide) (by decide) rfl
def f_X12_isBegin (p0 : Int32) (p1 : Int32) : Option (Int32) :=
  ((f_X12_lengthOf p0).bind (fun v1 => ((f_X12_lengthOf p1).bind (fun v2 => (if v2 < v1 then some 0 else ((f_X12_lengthOf p0).bind (fun v4 => ((f_X12_cut p1 v4).bind (fun v5 => (if v5 = p0 then some 1 else some 0))))))))))
set_option maxRecDepth 20000 in
theorem t_X12_isBegin {E : am_E} {l : Launch} (hl : l.stackTraces = false) {S : am_S} {p0 : Int32} {p1 : Int32}  : am_M E l yX12_isBegin (.code yX12_isBegin cX12_isBegin 2 (some .boolean)) 2 0 0 [.int p0, .int p1] S ((f_X12_isBegin p0 p1).map (fun (v : Int32) => ((.inl (some (.int v)), S) : am_R))) := by
  refine am_M_of (w := fun (v : Int32) => ((.inl (some (.int v)), S) : am_R)) hl (by decide) (am_fc rfl (am_fc rfl am_fn)) (Nat.le_of_ble_eq_true rfl) ?_
  show am_Ev E l (RX12, cX12_isBegin, 2, (some .boolean), [], am_rm 2 0 0) (fun b a s x => am_Z E 0 0 b a s ((fun (v : Int32) => ((.inl (some (.int v)), S) : am_R)) x)) 0 0 0 [some (.int p0), some (.int p1)] [] S (f_X12_isBegin p0 p1)
  unfold f_X12_isBegin
  refine ev_iload_n dX12_isBegin_0 rfl ?_
  refine ev_callP (am_callS (as := [.int p0]) (st := []) ct_X12_85 dX12_isBegin_1 rfl (am_le rfl) (am_fit (by omega) (by decide) (by decide) (by decide)) (t_X12_lengthOf hl )) (fun v1 h1 => ?_)
  refine ev_iload_n dX12_isBegin_4 rfl ?_
  refine ev_callP (am_callS (as := [.int p1]) (st := [.int v1]) ct_X12_85 dX12_isBegin_5 rfl (am_le rfl) (am_fit (by omega) (by decide) (by decide) (by decide)) (t_X12_lengthOf hl )) (fun v2 h2 => ?_)
  refine ev_icmp_gt (tgt := 27) dX12_isBegin_8 (by decide) (fun c3 => ?_) (fun c3 => ?_)
  · refine ev_iconst (v := 0) dX12_isBegin_27 (by decide) ?_
    exact ev_iret dX12_isBegin_28 rfl (by decide) (by decide) (by decide) rfl
  · refine ev_iload_n dX12_isBegin_11 rfl ?_
    refine ev_iload_n dX12_isBegin_12 rfl ?_
    refine ev_callP (am_callS (as := [.int p0]) (st := [.int p1]) ct_X12_85 dX12_isBegin_13 rfl (am_le rfl) (am_fit (by omega) (by decide) (by decide) (by decide)) (t_X12_lengthOf hl )) (fun v4 h4 => ?_)
    refine ev_callP (am_callS (as := [.int p1, .int v4]) (st := []) ct_X12_99 dX12_isBegin_16 rfl (am_le rfl) (am_fit (by omega) (by decide) (by decide) (by decide)) (t_X12_cut hl )) (fun v5 h5 => ?_)
    refine ev_iload_n dX12_isBegin_19 rfl ?_
    refine ev_icmp_ne (tgt := 27) dX12_isBegin_20 (by decide) (fun c6 => ?_) (fun c6 => ?_)
    · refine ev_iconst (v := 0) dX12_isBegin_27 (by decide) ?_
      exact ev_iret dX12_isBegin_28 rfl (by decide) (by decide) (by decide) rfl
    · refine ev_iconst (v := 1) dX12_isBegin_23 (by decide) ?_
      refine ev_goto (tgt := 28) dX12_isBegin_24 (by decide) ?_
      exact ev_iret dX12_isBegin_28 rfl (by decide) (by decide) (by decide) rfl
def f_X12_feed_b60 (S : am_S) (a0 : Nat) (x12 : Int32 × (Nat → Nat → Int32)) : Option ((Int32 × (Nat → Nat → Int32)) ⊕ ((Nat → Nat → Int32))) :=
  (if x12.1 < 20 then ((am_rd S.2 a0 5 2).bind (fun q14 => ((am_rd S.2 a0 12 1).bind (fun q15 => ((am_ld x12.2 q15 (x12.1 / 4)).bind (fun v16 => ((am_st x12.2 q14 ((x12.2 a0 6) + x12.1) (((v16 >>> ((24 - (8 * (x12.1 - x12.1 / 4 * 4))) &&& 31))).toInt8.toInt32).toInt8.toInt32).bind (fun σ17 => some (.inl ((x12.1 + 1), σ17)))))))))) else some (.inr x12.2))
def f_X12_feed (S : am_S) (p0 : Nat) (p1 : Int32) (p2 : Int32) (p3 : Int32) (p4 : Int32) (p5 : Int32) : Option (Int32 × (Nat → Nat → Int32)) :=
  (if 400 < (((am_u2 S.1 p0 0 0) p0 6) + 20) then some ((-1), (am_u2 S.1 p0 0 0)) else ((am_rd S.2 p0 12 1).bind (fun q2 => ((am_st (am_u2 S.1 p0 0 0) q2 0 p1).bind (fun σ3 => ((am_rd S.2 p0 12 1).bind (fun q4 => ((am_st σ3 q4 1 p2).bind (fun σ5 => ((am_rd S.2 p0 12 1).bind (fun q6 => ((am_st σ5 q6 2 p3).bind (fun σ7 => ((am_rd S.2 p0 12 1).bind (fun q8 => ((am_st σ7 q8 3 p4).bind (fun σ9 => ((am_rd S.2 p0 12 1).bind (fun q10 => ((am_st σ9 q10 4 p5).bind (fun σ11 => ((am_loop (f_X12_feed_b60 (σ11, S.2) p0) am_fuel (0, σ11)).bind (fun t12 => some (((am_u2 t12 p0 6 ((t12 p0 6) + 20)) p0 6), (am_u2 t12 p0 6 ((t12 p0 6) + 20))))))))))))))))))))))))))
set_option maxRecDepth 20000 in
theorem t_X12_feed {E : am_E} {l : Launch} (hl : l.stackTraces = false) {S : am_S} {p0 : Nat} {p1 : Int32} {p2 : Int32} {p3 : Int32} {p4 : Int32} {p5 : Int32} (kp0 : am_kd p0 = 112) : am_M E l yX12_feed (.code yX12_feed cX12_feed 7 (some .int)) 0 0 0 [.ref p0, .int p1, .int p2, .int p3, .int p4, .int p5] S ((f_X12_feed S p0 p1 p2 p3 p4 p5).map (fun (x : Int32 × (Nat → Nat → Int32)) => ((.inl (some (.int x.1)), (x.2, S.2)) : am_R))) := by
  refine am_M_of (w := fun (x : Int32 × (Nat → Nat → Int32)) => ((.inl (some (.int x.1)), (x.2, S.2)) : am_R)) hl (by decide) (am_fc rfl (am_fc rfl (am_fc rfl (am_fc rfl (am_fc rfl (am_fc rfl am_fn)))))) (Nat.le_of_ble_eq_true rfl) ?_
  show am_Ev E l (RX12, cX12_feed, 7, (some .int), [], am_rm 0 0 0) (fun b a s x => am_Z E 0 0 b a s ((fun (x : Int32 × (Nat → Nat → Int32)) => ((.inl (some (.int x.1)), (x.2, S.2)) : am_R)) x)) 0 0 0 [some (.ref p0), some (.int p1), some (.int p2), some (.int p3), some (.int p4), some (.int p5), none] [] S (f_X12_feed S p0 p1 p2 p3 p4 p5)
  unfold f_X12_feed
  refine ev_aload_n dX12_feed_0 rfl ?_
  refine ev_iconst (v := 0) dX12_feed_1 (by decide) ?_
  refine ev_putI fk_X12_3 tyX12 tyX12_ok nmX12 rfl (by decide +kernel) (by decide) dX12_feed_2 kp0 ?_
  refine ev_aload_n dX12_feed_5 rfl ?_
  refine ev_get fk_X12_102 dX12_feed_6 kp0 (am_fvI (by decide)) ?_
  refine ev_bipush (v := 20) dX12_feed_9 (by decide) ?_
  refine ev_iadd dX12_feed_11 ?_
  refine ev_sipush (v := 400) dX12_feed_12 (by decide) ?_
  refine ev_icmp_le (tgt := 20) dX12_feed_15 (by decide) (fun c1 => ?_) (fun c1 => ?_)
  · refine ev_aload_n dX12_feed_20 rfl ?_
    refine ev_getR fk_X12_30 (by decide) dX12_feed_21 kp0 (fun q2 k2 r2 => ?_)
    refine ev_iconst (v := 0) dX12_feed_24 (by decide) ?_
    refine ev_iload_n dX12_feed_25 rfl ?_
    refine ev_iast dX12_feed_26 k2 (fun σ3 h3 => ?_)
    refine ev_aload_n dX12_feed_27 rfl ?_
    refine ev_getR fk_X12_30 (by decide) dX12_feed_28 kp0 (fun q4 k4 r4 => ?_)
    refine ev_iconst (v := 1) dX12_feed_31 (by decide) ?_
    refine ev_iload_n dX12_feed_32 rfl ?_
    refine ev_iast dX12_feed_33 k4 (fun σ5 h5 => ?_)
    refine ev_aload_n dX12_feed_34 rfl ?_
    refine ev_getR fk_X12_30 (by decide) dX12_feed_35 kp0 (fun q6 k6 r6 => ?_)
    refine ev_iconst (v := 2) dX12_feed_38 (by decide) ?_
    refine ev_iload_n dX12_feed_39 rfl ?_
    refine ev_iast dX12_feed_40 k6 (fun σ7 h7 => ?_)
    refine ev_aload_n dX12_feed_41 rfl ?_
    refine ev_getR fk_X12_30 (by decide) dX12_feed_42 kp0 (fun q8 k8 r8 => ?_)
    refine ev_iconst (v := 3) dX12_feed_45 (by decide) ?_
    refine ev_iload dX12_feed_46 rfl ?_
    refine ev_iast dX12_feed_48 k8 (fun σ9 h9 => ?_)
    refine ev_aload_n dX12_feed_49 rfl ?_
    refine ev_getR fk_X12_30 (by decide) dX12_feed_50 kp0 (fun q10 k10 r10 => ?_)
    refine ev_iconst (v := 4) dX12_feed_53 (by decide) ?_
    refine ev_iload dX12_feed_54 rfl ?_
    refine ev_iast dX12_feed_56 k10 (fun σ11 h11 => ?_)
    refine ev_iconst (v := 0) dX12_feed_57 (by decide) ?_
    refine ev_istore dX12_feed_58 (am_lt rfl) ?_
    refine ev_weak (am_wk (am_wf (am_wf (am_wf (am_wf (am_wf (am_wk am_wn))))))) (ev_loop 60 106 (fun x12 : Int32 × (Nat → Nat → Int32) => [some (.ref p0), none, none, none, none, none, some (.int x12.1)]) (fun t12 : (Nat → Nat → Int32) => [some (.ref p0), none, none, none, none, none, none]) (fun x12 => (x12.2, S.2)) (fun t12 => (t12, S.2)) (fun x12 G12 hB12 hE12 => ?_) (fun t12 => ?_) am_fuel (0, σ11))
    · unfold f_X12_feed_b60
      refine ev_iload dX12_feed_60 rfl ?_
      refine ev_bipush (v := 20) dX12_feed_62 (by decide) ?_
      refine ev_eq am_ib ?_
      refine ev_icmp_ge (tgt := 106) dX12_feed_64 (by decide) (fun c18 => ?_) (fun c18 => ?_)
      · exact ev_leaf (am_wk (am_wf (am_wf (am_wf (am_wf (am_wf (am_wf am_wn))))))) (hE12 x12.2)
      · refine ev_aload_n dX12_feed_67 rfl ?_
        refine ev_eq (Option.bind_assoc _ _ _) ?_
        refine ev_getR fk_X12_23 (by decide) dX12_feed_68 kp0 (fun q19 k19 r19 => ?_)
        refine ev_aload_n dX12_feed_71 rfl ?_
        refine ev_get fk_X12_102 dX12_feed_72 kp0 (am_fvI (by decide)) ?_
        refine ev_iload dX12_feed_75 rfl ?_
        refine ev_iadd dX12_feed_77 ?_
        refine ev_aload_n dX12_feed_78 rfl ?_
        refine ev_eq (Option.bind_assoc _ _ _) ?_
        refine ev_getR fk_X12_30 (by decide) dX12_feed_79 kp0 (fun q20 k20 r20 => ?_)
        refine ev_iload dX12_feed_82 rfl ?_
        refine ev_iconst (v := 4) dX12_feed_84 (by decide) ?_
        refine ev_idiv dX12_feed_85 (by decide) ?_
        refine ev_eq (Option.bind_assoc _ _ _) ?_
        refine ev_iald dX12_feed_86 k20 (fun v21 h21 => ?_)
        refine ev_bipush (v := 24) dX12_feed_87 (by decide) ?_
        refine ev_bipush (v := 8) dX12_feed_89 (by decide) ?_
        refine ev_iload dX12_feed_91 rfl ?_
        refine ev_iconst (v := 4) dX12_feed_93 (by decide) ?_
        refine ev_irem dX12_feed_94 (by decide) ?_
        refine ev_imul dX12_feed_95 ?_
        refine ev_isub dX12_feed_96 ?_
        refine ev_ishr dX12_feed_97 ?_
        refine ev_i2b dX12_feed_98 ?_
        refine ev_eq (Option.bind_assoc _ _ _) ?_
        refine ev_bast dX12_feed_99 k19 (fun σ22 h22 => ?_)
        refine ev_iinc (v := (x12.1 + 1)) dX12_feed_100 (am_lt rfl) rfl rfl ?_
        refine ev_goto (tgt := 60) dX12_feed_103 (by decide) ?_
        exact ev_leaf (am_wk (am_wf (am_wf (am_wf (am_wf (am_wf (am_wk am_wn))))))) (hB12 ((x12.1 + 1), σ22))
    · refine ev_aload_n dX12_feed_106 rfl ?_
      refine ev_dup dX12_feed_107 rfl ?_
      refine ev_get fk_X12_102 dX12_feed_108 kp0 (am_fvI (by decide)) ?_
      refine ev_bipush (v := 20) dX12_feed_111 (by decide) ?_
      refine ev_iadd dX12_feed_113 ?_
      refine ev_putI fk_X12_102 tyX12 tyX12_ok nmX12 rfl (by decide +kernel) (by decide) dX12_feed_114 kp0 ?_
      refine ev_aload_n dX12_feed_117 rfl ?_
      refine ev_get fk_X12_102 dX12_feed_118 kp0 (am_fvI (by decide)) ?_
      exact ev_iret dX12_feed_121 rfl rfl (by decide) (by decide) rfl
  · refine ev_iconst (v := (-1)) dX12_feed_18 (by decide) ?_
    exact ev_iret dX12_feed_19 rfl rfl (by decide) (by decide) rfl
def f_X12_end (S : am_S) (p0 : Nat) (p1 : Int32) : Option (Int32 × (Nat → Nat → Int32)) :=
  (if p1 < 0 then some (0, (am_u2 S.1 p0 0 0)) else (if ((am_u2 S.1 p0 0 0) p0 6) < p1 then some (0, (am_u2 S.1 p0 0 0)) else some (1, (am_u2 (am_u2 S.1 p0 0 0) p0 6 p1))))
set_option maxRecDepth 20000 in
theorem t_X12_end {E : am_E} {l : Launch} (hl : l.stackTraces = false) {S : am_S} {p0 : Nat} {p1 : Int32} (kp0 : am_kd p0 = 112) : am_M E l yX12_end (.code yX12_end cX12_end 2 (some .boolean)) 0 0 0 [.ref p0, .int p1] S ((f_X12_end S p0 p1).map (fun (x : Int32 × (Nat → Nat → Int32)) => ((.inl (some (.int x.1)), (x.2, S.2)) : am_R))) := by
  refine am_M_of (w := fun (x : Int32 × (Nat → Nat → Int32)) => ((.inl (some (.int x.1)), (x.2, S.2)) : am_R)) hl (by decide) (am_fc rfl (am_fc rfl am_fn)) (Nat.le_of_ble_eq_true rfl) ?_
  show am_Ev E l (RX12, cX12_end, 2, (some .boolean), [], am_rm 0 0 0) (fun b a s x => am_Z E 0 0 b a s ((fun (x : Int32 × (Nat → Nat → Int32)) => ((.inl (some (.int x.1)), (x.2, S.2)) : am_R)) x)) 0 0 0 [some (.ref p0), some (.int p1)] [] S (f_X12_end S p0 p1)
  unfold f_X12_end
  refine ev_aload_n dX12_end_0 rfl ?_
  refine ev_iconst (v := 0) dX12_end_1 (by decide) ?_
  refine ev_putI fk_X12_3 tyX12 tyX12_ok nmX12 rfl (by decide +kernel) (by decide) dX12_end_2 kp0 ?_
  refine ev_iload_n dX12_end_5 rfl ?_
  refine ev_if_lt (tgt := 17) dX12_end_6 (by decide) (fun c1 => ?_) (fun c1 => ?_)
  · refine ev_iconst (v := 0) dX12_end_17 (by decide) ?_
    exact ev_iret dX12_end_18 rfl (by decide) (by decide) (by decide) rfl
  · refine ev_iload_n dX12_end_9 rfl ?_
    refine ev_aload_n dX12_end_10 rfl ?_
    refine ev_get fk_X12_102 dX12_end_11 kp0 (am_fvI (by decide)) ?_
    refine ev_icmp_le (tgt := 19) dX12_end_14 (by decide) (fun c2 => ?_) (fun c2 => ?_)
    · refine ev_aload_n dX12_end_19 rfl ?_
      refine ev_iload_n dX12_end_20 rfl ?_
      refine ev_putI fk_X12_102 tyX12 tyX12_ok nmX12 rfl (by decide +kernel) (by decide) dX12_end_21 kp0 ?_
      refine ev_iconst (v := 1) dX12_end_24 (by decide) ?_
      exact ev_iret dX12_end_25 rfl (by decide) (by decide) (by decide) rfl
    · refine ev_iconst (v := 0) dX12_end_17 (by decide) ?_
      exact ev_iret dX12_end_18 rfl (by decide) (by decide) (by decide) rfl
def f_X12_isAt (S : am_S) (p0 : Nat) (p1 : Int32) (p2 : Int32) : Option (Int32) :=
  (if (S.1 p0 7) < (S.1 p0 8) then ((am_rd S.2 p0 5 2).bind (fun q2 => ((am_ld S.1 q2 (S.1 p0 7)).bind (fun v3 => (if v3 < p1 then some 0 else ((am_rd S.2 p0 5 2).bind (fun q5 => ((am_ld S.1 q5 (S.1 p0 7)).bind (fun v6 => (if p2 < v6 then some 0 else some 1)))))))))) else some 0)
set_option maxRecDepth 20000 in
theorem t_X12_isAt {E : am_E} {l : Launch} (hl : l.stackTraces = false) {S : am_S} {p0 : Nat} {p1 : Int32} {p2 : Int32} (kp0 : am_kd p0 = 112) : am_M E l yX12_isAt (.code yX12_isAt cX12_isAt 3 (some .boolean)) 0 0 0 [.ref p0, .int p1, .int p2] S ((f_X12_isAt S p0 p1 p2).map (fun (v : Int32) => ((.inl (some (.int v)), S) : am_R))) := by
  refine am_M_of (w := fun (v : Int32) => ((.inl (some (.int v)), S) : am_R)) hl (by decide) (am_fc rfl (am_fc rfl (am_fc rfl am_fn))) (Nat.le_of_ble_eq_true rfl) ?_
  show am_Ev E l (RX12, cX12_isAt, 3, (some .boolean), [], am_rm 0 0 0) (fun b a s x => am_Z E 0 0 b a s ((fun (v : Int32) => ((.inl (some (.int v)), S) : am_R)) x)) 0 0 0 [some (.ref p0), some (.int p1), some (.int p2)] [] S (f_X12_isAt S p0 p1 p2)
  unfold f_X12_isAt
  refine ev_aload_n dX12_isAt_0 rfl ?_
  refine ev_get fk_X12_105 dX12_isAt_1 kp0 (am_fvI (by decide)) ?_
  refine ev_aload_n dX12_isAt_4 rfl ?_
  refine ev_get fk_X12_108 dX12_isAt_5 kp0 (am_fvI (by decide)) ?_
  refine ev_icmp_ge (tgt := 41) dX12_isAt_8 (by decide) (fun c1 => ?_) (fun c1 => ?_)
  · refine ev_iconst (v := 0) dX12_isAt_41 (by decide) ?_
    exact ev_iret dX12_isAt_42 rfl (by decide) (by decide) (by decide) rfl
  · refine ev_aload_n dX12_isAt_11 rfl ?_
    refine ev_getR fk_X12_23 (by decide) dX12_isAt_12 kp0 (fun q2 k2 r2 => ?_)
    refine ev_aload_n dX12_isAt_15 rfl ?_
    refine ev_get fk_X12_105 dX12_isAt_16 kp0 (am_fvI (by decide)) ?_
    refine ev_bald dX12_isAt_19 k2 (fun v3 h3 => ?_)
    refine ev_iload_n dX12_isAt_20 rfl ?_
    refine ev_icmp_lt (tgt := 41) dX12_isAt_21 (by decide) (fun c4 => ?_) (fun c4 => ?_)
    · refine ev_iconst (v := 0) dX12_isAt_41 (by decide) ?_
      exact ev_iret dX12_isAt_42 rfl (by decide) (by decide) (by decide) rfl
    · refine ev_aload_n dX12_isAt_24 rfl ?_
      refine ev_getR fk_X12_23 (by decide) dX12_isAt_25 kp0 (fun q5 k5 r5 => ?_)
      refine ev_aload_n dX12_isAt_28 rfl ?_
      refine ev_get fk_X12_105 dX12_isAt_29 kp0 (am_fvI (by decide)) ?_
      refine ev_bald dX12_isAt_32 k5 (fun v6 h6 => ?_)
      refine ev_iload_n dX12_isAt_33 rfl ?_
      refine ev_icmp_gt (tgt := 41) dX12_isAt_34 (by decide) (fun c7 => ?_) (fun c7 => ?_)
      · refine ev_iconst (v := 0) dX12_isAt_41 (by decide) ?_
        exact ev_iret dX12_isAt_42 rfl (by decide) (by decide) (by decide) rfl
      · refine ev_iconst (v := 1) dX12_isAt_37 (by decide) ?_
        refine ev_goto (tgt := 42) dX12_isAt_38 (by decide) ?_
        exact ev_iret dX12_isAt_42 rfl (by decide) (by decide) (by decide) rfl
def f_X12_blanks_b0 (S : am_S) (a0 : Nat) (x1 : (Nat → Nat → Int32)) : Option (((Nat → Nat → Int32)) ⊕ ((Nat → Nat → Int32))) :=
  ((f_X12_isAt (x1, S.2) a0 32 32).bind (fun v2 => (if v2 = 0 then some (.inr x1) else some (.inl (am_u2 x1 a0 7 ((x1 a0 7) + 1))))))
def f_X12_blanks (S : am_S) (p0 : Nat) : Option ((Nat → Nat → Int32)) :=
  ((am_loop (f_X12_blanks_b0 S p0) am_fuel S.1).bind (fun t1 => some (am_u2 t1 p0 9 (t1 p0 7))))
set_option maxRecDepth 20000 in
theorem t_X12_blanks {E : am_E} {l : Launch} (hl : l.stackTraces = false) {S : am_S} {p0 : Nat} (kp0 : am_kd p0 = 112) : am_M E l yX12_blanks (.code yX12_blanks cX12_blanks 1 none) 1 0 0 [.ref p0] S ((f_X12_blanks S p0).map (fun (x : Nat → Nat → Int32) => ((.inl none, (x, S.2)) : am_R))) := by
  refine am_M_of (w := fun (x : Nat → Nat → Int32) => ((.inl none, (x, S.2)) : am_R)) hl (by decide) (am_fc rfl am_fn) (Nat.le_of_ble_eq_true rfl) ?_
  show am_Ev E l (RX12, cX12_blanks, 1, none, [], am_rm 1 0 0) (fun b a s x => am_Z E 0 0 b a s ((fun (x : Nat → Nat → Int32) => ((.inl none, (x, S.2)) : am_R)) x)) 0 0 0 [some (.ref p0)] [] S (f_X12_blanks S p0)
  unfold f_X12_blanks
  refine ev_weak (am_wk am_wn) (ev_loop 0 24 (fun x1 : (Nat → Nat → Int32) => [some (.ref p0)]) (fun t1 : (Nat → Nat → Int32) => [some (.ref p0)]) (fun x1 => (x1, S.2)) (fun t1 => (t1, S.2)) (fun x1 G1 hB1 hE1 => ?_) (fun t1 => ?_) am_fuel S.1)
  · unfold f_X12_blanks_b0
    refine ev_aload_n dX12_blanks_0 rfl ?_
    refine ev_bipush (v := 32) dX12_blanks_1 (by decide) ?_
    refine ev_bipush (v := 32) dX12_blanks_3 (by decide) ?_
    refine ev_eq (Option.bind_assoc _ _ _) ?_
    refine ev_callP (am_callV (as := [.int 32, .int 32]) (o := p0) (st := []) cv_X12_111 dX12_blanks_5 kp0 rfl (am_le rfl) (am_fit (by omega) (by decide) (by decide) (by decide)) (t_X12_isAt hl kp0)) (fun v4 h4 => ?_)
    refine ev_eq am_ib ?_
    refine ev_if_eq (tgt := 24) dX12_blanks_8 (by decide) (fun c5 => ?_) (fun c5 => ?_)
    · exact ev_leaf (am_wk am_wn) (hE1 x1)
    · refine ev_aload_n dX12_blanks_11 rfl ?_
      refine ev_dup dX12_blanks_12 rfl ?_
      refine ev_get fk_X12_105 dX12_blanks_13 kp0 (am_fvI (by decide)) ?_
      refine ev_iconst (v := 1) dX12_blanks_16 (by decide) ?_
      refine ev_iadd dX12_blanks_17 ?_
      refine ev_putI fk_X12_105 tyX12 tyX12_ok nmX12 rfl (by decide +kernel) (by decide) dX12_blanks_18 kp0 ?_
      refine ev_goto (tgt := 0) dX12_blanks_21 (by decide) ?_
      exact ev_leaf (am_wk am_wn) (hB1 (am_u2 x1 p0 7 ((x1 p0 7) + 1)))
  · refine ev_aload_n dX12_blanks_24 rfl ?_
    refine ev_aload_n dX12_blanks_25 rfl ?_
    refine ev_get fk_X12_105 dX12_blanks_26 kp0 (am_fvI (by decide)) ?_
    refine ev_putI fk_X12_115 tyX12 tyX12_ok nmX12 rfl (by decide +kernel) (by decide) dX12_blanks_29 kp0 ?_
    exact ev_vret dX12_blanks_32 rfl (by decide) (by decide) rfl
def f_X12_letters_b4 (S : am_S) (a0 : Nat) (x2 : (Nat → Nat → Int32)) : Option (((Nat → Nat → Int32)) ⊕ ((Nat → Nat → Int32))) :=
  ((f_X12_isAt (x2, S.2) a0 97 122).bind (fun v3 => (if v3 = 0 then some (.inr x2) else some (.inl (am_u2 x2 a0 7 ((x2 a0 7) + 1))))))
def f_X12_letters (S : am_S) (p0 : Nat) : Option ((Nat → Nat → Int32)) :=
  ((f_X12_blanks S p0).bind (fun σ1 => ((am_loop (f_X12_letters_b4 (σ1, S.2) p0) am_fuel σ1).bind (fun t2 => some t2))))
set_option maxRecDepth 20000 in
theorem t_X12_letters {E : am_E} {l : Launch} (hl : l.stackTraces = false) {S : am_S} {p0 : Nat} (kp0 : am_kd p0 = 112) : am_M E l yX12_letters (.code yX12_letters cX12_letters 1 none) 2 0 0 [.ref p0] S ((f_X12_letters S p0).map (fun (x : Nat → Nat → Int32) => ((.inl none, (x, S.2)) : am_R))) := by
  refine am_M_of (w := fun (x : Nat → Nat → Int32) => ((.inl none, (x, S.2)) : am_R)) hl (by decide) (am_fc rfl am_fn) (Nat.le_of_ble_eq_true rfl) ?_
  show am_Ev E l (RX12, cX12_letters, 1, none, [], am_rm 2 0 0) (fun b a s x => am_Z E 0 0 b a s ((fun (x : Nat → Nat → Int32) => ((.inl none, (x, S.2)) : am_R)) x)) 0 0 0 [some (.ref p0)] [] S (f_X12_letters S p0)
  unfold f_X12_letters
  refine ev_aload_n dX12_letters_0 rfl ?_
  refine ev_callWV (am_callV (as := []) (o := p0) (st := []) cv_X12_118 dX12_letters_1 kp0 rfl (am_le rfl) (am_fit (by omega) (by decide) (by decide) (by decide)) (t_X12_blanks hl kp0)) (fun σ1 h1 => ?_)
  refine ev_weak (am_wk am_wn) (ev_loop 4 28 (fun x2 : (Nat → Nat → Int32) => [some (.ref p0)]) (fun t2 : (Nat → Nat → Int32) => [none]) (fun x2 => (x2, S.2)) (fun t2 => (t2, S.2)) (fun x2 G2 hB2 hE2 => ?_) (fun t2 => ?_) am_fuel σ1)
  · unfold f_X12_letters_b4
    refine ev_aload_n dX12_letters_4 rfl ?_
    refine ev_bipush (v := 97) dX12_letters_5 (by decide) ?_
    refine ev_bipush (v := 122) dX12_letters_7 (by decide) ?_
    refine ev_eq (Option.bind_assoc _ _ _) ?_
    refine ev_callP (am_callV (as := [.int 97, .int 122]) (o := p0) (st := []) cv_X12_111 dX12_letters_9 kp0 rfl (am_le rfl) (am_fit (by omega) (by decide) (by decide) (by decide)) (t_X12_isAt hl kp0)) (fun v5 h5 => ?_)
    refine ev_eq am_ib ?_
    refine ev_if_eq (tgt := 28) dX12_letters_12 (by decide) (fun c6 => ?_) (fun c6 => ?_)
    · exact ev_leaf (am_wf am_wn) (hE2 x2)
    · refine ev_aload_n dX12_letters_15 rfl ?_
      refine ev_dup dX12_letters_16 rfl ?_
      refine ev_get fk_X12_105 dX12_letters_17 kp0 (am_fvI (by decide)) ?_
      refine ev_iconst (v := 1) dX12_letters_20 (by decide) ?_
      refine ev_iadd dX12_letters_21 ?_
      refine ev_putI fk_X12_105 tyX12 tyX12_ok nmX12 rfl (by decide +kernel) (by decide) dX12_letters_22 kp0 ?_
      refine ev_goto (tgt := 4) dX12_letters_25 (by decide) ?_
      exact ev_leaf (am_wk am_wn) (hB2 (am_u2 x2 p0 7 ((x2 p0 7) + 1)))
  · exact ev_vret dX12_letters_28 rfl (by decide) (by decide) rfl
def f_X12_isWord_b24 (S : am_S) (a0 : Nat) (a1 : Nat) (x3 : Int32 × Int32) : Option ((Int32 × Int32) ⊕ (Int32)) :=
  (if x3.1 = 0 then some (.inr x3.1) else ((f_J0_length_8abf5 a1).bind (fun v5 => (if x3.2 < v5 then ((am_rd S.2 a0 5 2).bind (fun q7 => ((am_ld S.1 q7 ((S.1 a0 9) + x3.2)).bind (fun v8 => ((f_J0_charAt_5068e a1 x3.2).bind (fun v9 => ((if v8 = v9 then some (1 : Int32) else some (0 : Int32)).bind (fun t10 => some (.inl (t10, (x3.2 + 1))))))))))) else some (.inr x3.1)))))
def f_X12_isWord (S : am_S) (p0 : Nat) (p1 : Nat) : Option (Int32) :=
  ((f_J0_length_8abf5 p1).bind (fun v1 => ((if ((S.1 p0 7) - (S.1 p0 9)) = v1 then some (1 : Int32) else some (0 : Int32)).bind (fun t2 => ((am_loop (f_X12_isWord_b24 S p0 p1) am_fuel (t2, 0)).bind (fun t3 => (if t3 = 0 ∨ t3 = 1 then some t3 else none)))))))
set_option maxRecDepth 20000 in
theorem t_X12_isWord {E : am_E} {l : Launch} (hl : l.stackTraces = false) {S : am_S} {p0 : Nat} {p1 : Nat} (kp0 : am_kd p0 = 112) (kp1 : am_kd p1 = 9) : am_M E l yX12_isWord (.code yX12_isWord cX12_isWord 4 (some .boolean)) 5 0 0 [.ref p0, .ref p1] S ((f_X12_isWord S p0 p1).map (fun (v : Int32) => ((.inl (some (.int v)), S) : am_R))) := by
  refine am_M_of (w := fun (v : Int32) => ((.inl (some (.int v)), S) : am_R)) hl (by decide) (am_fc rfl (am_fc rfl am_fn)) (Nat.le_of_ble_eq_true rfl) ?_
  show am_Ev E l (RX12, cX12_isWord, 4, (some .boolean), [], am_rm 5 0 0) (fun b a s x => am_Z E 0 0 b a s ((fun (v : Int32) => ((.inl (some (.int v)), S) : am_R)) x)) 0 0 0 [some (.ref p0), some (.ref p1), none, none] [] S (f_X12_isWord S p0 p1)
  unfold f_X12_isWord
  refine ev_aload_n dX12_isWord_0 rfl ?_
  refine ev_get fk_X12_105 dX12_isWord_1 kp0 (am_fvI (by decide)) ?_
  refine ev_aload_n dX12_isWord_4 rfl ?_
  refine ev_get fk_X12_115 dX12_isWord_5 kp0 (am_fvI (by decide)) ?_
  refine ev_isub dX12_isWord_8 ?_
  refine ev_aload_n dX12_isWord_9 rfl ?_
  refine ev_callP (am_callVS (as := []) (o := p1) (st := [.int ((S.1 p0 7) - (S.1 p0 9))]) cv_X12_121 dX12_isWord_10 rfl (am_le rfl) (am_fit (by omega) (by decide) (by decide) (by decide)) (am_str_in f_J0_length_8abf5_g) (t_J0_length_8abf5 hl)) (fun v1 h1 => ?_)
  refine ev_reg (cs' := 0) (sl' := 0) 21 (fun t2 : Int32 => [some (.ref p0), some (.ref p1), none, none]) (fun t2 => [.int t2]) (fun t2 => S) (fun hJ2 => ?_) (fun t2 => ?_)
  · refine ev_eq am_ib ?_
    refine ev_icmp_ne (tgt := 20) dX12_isWord_13 (by decide) (fun c2 => ?_) (fun c2 => ?_)
    · refine ev_iconst (v := 0) dX12_isWord_20 (by decide) ?_
      exact ev_leaf (am_wk (am_wk (am_wf (am_wf am_wn)))) (hJ2 (0 : Int32))
    · refine ev_iconst (v := 1) dX12_isWord_16 (by decide) ?_
      refine ev_goto (tgt := 21) dX12_isWord_17 (by decide) ?_
      exact ev_leaf (am_wk (am_wk (am_wf (am_wf am_wn)))) (hJ2 (1 : Int32))
  · refine ev_istore_n dX12_isWord_21 (am_lt rfl) ?_
    refine ev_iconst (v := 0) dX12_isWord_22 (by decide) ?_
    refine ev_istore_n dX12_isWord_23 (am_lt rfl) ?_
    refine ev_weak (am_wk (am_wk (am_wk (am_wk am_wn)))) (ev_loop 24 67 (fun x3 : Int32 × Int32 => [some (.ref p0), some (.ref p1), some (.int x3.1), some (.int x3.2)]) (fun t3 : Int32 => [none, none, some (.int t3), none]) (fun x3 => S) (fun t3 => S) (fun x3 G3 hB3 hE3 => ?_) (fun t3 => ?_) am_fuel (t2, 0))
    · unfold f_X12_isWord_b24
      refine ev_iload_n dX12_isWord_24 rfl ?_
      refine ev_eq am_ib ?_
      refine ev_if_eq (tgt := 67) dX12_isWord_25 (by decide) (fun c11 => ?_) (fun c11 => ?_)
      · exact ev_leaf (am_wf (am_wf (am_wk (am_wf am_wn)))) (hE3 x3.1)
      · refine ev_iload_n dX12_isWord_28 rfl ?_
        refine ev_aload_n dX12_isWord_29 rfl ?_
        refine ev_eq (Option.bind_assoc _ _ _) ?_
        refine ev_callP (am_callVS (as := []) (o := p1) (st := [.int x3.2]) cv_X12_121 dX12_isWord_30 rfl (am_le rfl) (am_fit (by omega) (by decide) (by decide) (by decide)) (am_str_in f_J0_length_8abf5_g) (t_J0_length_8abf5 hl)) (fun v12 h12 => ?_)
        refine ev_eq am_ib ?_
        refine ev_icmp_ge (tgt := 67) dX12_isWord_33 (by decide) (fun c13 => ?_) (fun c13 => ?_)
        · exact ev_leaf (am_wf (am_wf (am_wk (am_wf am_wn)))) (hE3 x3.1)
        · refine ev_aload_n dX12_isWord_36 rfl ?_
          refine ev_eq (Option.bind_assoc _ _ _) ?_
          refine ev_getR fk_X12_23 (by decide) dX12_isWord_37 kp0 (fun q14 k14 r14 => ?_)
          refine ev_aload_n dX12_isWord_40 rfl ?_
          refine ev_get fk_X12_115 dX12_isWord_41 kp0 (am_fvI (by decide)) ?_
          refine ev_iload_n dX12_isWord_44 rfl ?_
          refine ev_iadd dX12_isWord_45 ?_
          refine ev_eq (Option.bind_assoc _ _ _) ?_
          refine ev_bald dX12_isWord_46 k14 (fun v15 h15 => ?_)
          refine ev_aload_n dX12_isWord_47 rfl ?_
          refine ev_iload_n dX12_isWord_48 rfl ?_
          refine ev_eq (Option.bind_assoc _ _ _) ?_
          refine ev_callP (am_callVS (as := [.int x3.2]) (o := p1) (st := [.int v15]) cv_X12_126 dX12_isWord_49 rfl (am_le rfl) (am_fit (by omega) (by decide) (by decide) (by decide)) (am_str_in f_J0_charAt_5068e_g) (t_J0_charAt_5068e hl)) (fun v16 h16 => ?_)
          refine ev_eq (Option.bind_assoc _ _ _) ?_
          refine ev_reg (cs' := 0) (sl' := 0) 60 (fun t17 : Int32 => [some (.ref p0), some (.ref p1), none, some (.int x3.2)]) (fun t17 => [.int t17]) (fun t17 => S) (fun hJ17 => ?_) (fun t17 => ?_)
          · refine ev_eq am_ib ?_
            refine ev_icmp_ne (tgt := 59) dX12_isWord_52 (by decide) (fun c17 => ?_) (fun c17 => ?_)
            · refine ev_iconst (v := 0) dX12_isWord_59 (by decide) ?_
              exact ev_leaf (am_wk (am_wk (am_wf (am_wk am_wn)))) (hJ17 (0 : Int32))
            · refine ev_iconst (v := 1) dX12_isWord_55 (by decide) ?_
              refine ev_goto (tgt := 60) dX12_isWord_56 (by decide) ?_
              exact ev_leaf (am_wk (am_wk (am_wf (am_wk am_wn)))) (hJ17 (1 : Int32))
          · refine ev_istore_n dX12_isWord_60 (am_lt rfl) ?_
            refine ev_iinc (v := (x3.2 + 1)) dX12_isWord_61 (am_lt rfl) rfl rfl ?_
            refine ev_goto (tgt := 24) dX12_isWord_64 (by decide) ?_
            exact ev_leaf (am_wk (am_wk (am_wk (am_wk am_wn)))) (hB3 (t17, (x3.2 + 1)))
    · refine ev_iload_n dX12_isWord_67 rfl ?_
      refine ev_split (fun c18 => ?_) (fun _ => ?_)
      · exact ev_iret dX12_isWord_68 rfl (am_nb c18) (by decide) (by decide) rfl
      · exact ev_none
def f_X12_passes (S : am_S) (p0 : Nat) (p1 : Nat) : Option (Int32 × (Nat → Nat → Int32)) :=
  ((f_X12_letters S p0).bind (fun σ1 => ((f_X12_isWord (σ1, S.2) p0 p1).bind (fun v2 => (if v2 = 0 then some (0, (am_u2 σ1 p0 7 (σ1 p0 9))) else some (1, σ1))))))
set_option maxRecDepth 20000 in
theorem t_X12_passes {E : am_E} {l : Launch} (hl : l.stackTraces = false) {S : am_S} {p0 : Nat} {p1 : Nat} (kp0 : am_kd p0 = 112) (kp1 : am_kd p1 = 9) : am_M E l yX12_passes (.code yX12_passes cX12_passes 2 (some .boolean)) 6 0 0 [.ref p0, .ref p1] S ((f_X12_passes S p0 p1).map (fun (x : Int32 × (Nat → Nat → Int32)) => ((.inl (some (.int x.1)), (x.2, S.2)) : am_R))) := by
  refine am_M_of (w := fun (x : Int32 × (Nat → Nat → Int32)) => ((.inl (some (.int x.1)), (x.2, S.2)) : am_R)) hl (by decide) (am_fc rfl (am_fc rfl am_fn)) (Nat.le_of_ble_eq_true rfl) ?_
  show am_Ev E l (RX12, cX12_passes, 2, (some .boolean), [], am_rm 6 0 0) (fun b a s x => am_Z E 0 0 b a s ((fun (x : Int32 × (Nat → Nat → Int32)) => ((.inl (some (.int x.1)), (x.2, S.2)) : am_R)) x)) 0 0 0 [some (.ref p0), some (.ref p1)] [] S (f_X12_passes S p0 p1)
  unfold f_X12_passes
  refine ev_aload_n dX12_passes_0 rfl ?_
  refine ev_callWV (am_callV (as := []) (o := p0) (st := []) cv_X12_130 dX12_passes_1 kp0 rfl (am_le rfl) (am_fit (by omega) (by decide) (by decide) (by decide)) (t_X12_letters hl kp0)) (fun σ1 h1 => ?_)
  refine ev_aload_n dX12_passes_4 rfl ?_
  refine ev_aload_n dX12_passes_5 rfl ?_
  refine ev_callP (am_callV (as := [.ref p1]) (o := p0) (st := []) cv_X12_133 dX12_passes_6 kp0 rfl (am_le rfl) (am_fit (by omega) (by decide) (by decide) (by decide)) (t_X12_isWord hl kp0 kp1)) (fun v2 h2 => ?_)
  refine ev_if_eq (tgt := 14) dX12_passes_9 (by decide) (fun c3 => ?_) (fun c3 => ?_)
  · refine ev_aload_n dX12_passes_14 rfl ?_
    refine ev_aload_n dX12_passes_15 rfl ?_
    refine ev_get fk_X12_115 dX12_passes_16 kp0 (am_fvI (by decide)) ?_
    refine ev_putI fk_X12_105 tyX12 tyX12_ok nmX12 rfl (by decide +kernel) (by decide) dX12_passes_19 kp0 ?_
    refine ev_iconst (v := 0) dX12_passes_22 (by decide) ?_
    exact ev_iret dX12_passes_23 rfl (by decide) (by decide) (by decide) rfl
  · refine ev_iconst (v := 1) dX12_passes_12 (by decide) ?_
    exact ev_iret dX12_passes_13 rfl (by decide) (by decide) (by decide) rfl
def f_X12_sign (S : am_S) (p0 : Nat) (p1 : Int32) : Option (Int32 × (Nat → Nat → Int32)) :=
  ((f_X12_blanks S p0).bind (fun σ1 => ((f_X12_isAt (σ1, S.2) p0 p1 p1).bind (fun v2 => (if v2 = 0 then some (0, σ1) else some (1, (am_u2 σ1 p0 7 ((σ1 p0 7) + 1))))))))
set_option maxRecDepth 20000 in
theorem t_X12_sign {E : am_E} {l : Launch} (hl : l.stackTraces = false) {S : am_S} {p0 : Nat} {p1 : Int32} (kp0 : am_kd p0 = 112) : am_M E l yX12_sign (.code yX12_sign cX12_sign 2 (some .boolean)) 2 0 0 [.ref p0, .int p1] S ((f_X12_sign S p0 p1).map (fun (x : Int32 × (Nat → Nat → Int32)) => ((.inl (some (.int x.1)), (x.2, S.2)) : am_R))) := by
  refine am_M_of (w := fun (x : Int32 × (Nat → Nat → Int32)) => ((.inl (some (.int x.1)), (x.2, S.2)) : am_R)) hl (by decide) (am_fc rfl (am_fc rfl am_fn)) (Nat.le_of_ble_eq_true rfl) ?_
  show am_Ev E l (RX12, cX12_sign, 2, (some .boolean), [], am_rm 2 0 0) (fun b a s x => am_Z E 0 0 b a s ((fun (x : Int32 × (Nat → Nat → Int32)) => ((.inl (some (.int x.1)), (x.2, S.2)) : am_R)) x)) 0 0 0 [some (.ref p0), some (.int p1)] [] S (f_X12_sign S p0 p1)
  unfold f_X12_sign
  refine ev_aload_n dX12_sign_0 rfl ?_
  refine ev_callWV (am_callV (as := []) (o := p0) (st := []) cv_X12_118 dX12_sign_1 kp0 rfl (am_le rfl) (am_fit (by omega) (by decide) (by decide) (by decide)) (t_X12_blanks hl kp0)) (fun σ1 h1 => ?_)
  refine ev_aload_n dX12_sign_4 rfl ?_
  refine ev_iload_n dX12_sign_5 rfl ?_
  refine ev_iload_n dX12_sign_6 rfl ?_
  refine ev_callP (am_callV (as := [.int p1, .int p1]) (o := p0) (st := []) cv_X12_111 dX12_sign_7 kp0 rfl (am_le rfl) (am_fit (by omega) (by decide) (by decide) (by decide)) (t_X12_isAt hl kp0)) (fun v2 h2 => ?_)
  refine ev_if_ne (tgt := 15) dX12_sign_10 (by decide) (fun c3 => ?_) (fun c3 => ?_)
  · refine ev_aload_n dX12_sign_15 rfl ?_
    refine ev_dup dX12_sign_16 rfl ?_
    refine ev_get fk_X12_105 dX12_sign_17 kp0 (am_fvI (by decide)) ?_
    refine ev_iconst (v := 1) dX12_sign_20 (by decide) ?_
    refine ev_iadd dX12_sign_21 ?_
    refine ev_putI fk_X12_105 tyX12 tyX12_ok nmX12 rfl (by decide +kernel) (by decide) dX12_sign_22 kp0 ?_
    refine ev_iconst (v := 1) dX12_sign_25 (by decide) ?_
    exact ev_iret dX12_sign_26 rfl (by decide) (by decide) (by decide) rfl
  · refine ev_iconst (v := 0) dX12_sign_13 (by decide) ?_
    exact ev_iret dX12_sign_14 rfl (by decide) (by decide) (by decide) rfl
def f_X12_number_b6 (S : am_S) (a0 : Nat) (a1 : Int32) (a2 : Int32) (x2 : Int32 × (Nat → Nat → Int32)) : Option ((Int32 × (Nat → Nat → Int32)) ⊕ (Int32 × (Nat → Nat → Int32))) :=
  ((f_X12_isAt (x2.2, S.2) a0 48 57).bind (fun v3 => (if v3 = 0 then some (.inr (x2.1, x2.2)) else ((if ((x2.2 a0 7) - (x2.2 a0 9)) < 3 then ((am_rd S.2 a0 5 2).bind (fun q6 => ((am_ld x2.2 q6 (x2.2 a0 7)).bind (fun v7 => some (((10 * x2.1) + v7) - 48))))) else some x2.1).bind (fun t5 => some (.inl (t5, (am_u2 x2.2 a0 7 ((x2.2 a0 7) + 1)))))))))
def f_X12_number (S : am_S) (p0 : Nat) (p1 : Int32) (p2 : Int32) : Option (Int32 × (Nat → Nat → Int32)) :=
  ((f_X12_blanks S p0).bind (fun σ1 => ((am_loop (f_X12_number_b6 (σ1, S.2) p0 p1 p2) am_fuel (0, σ1)).bind (fun t2 => (if (t2.2 p0 7) = (t2.2 p0 9) then some ((-1), t2.2) else (if 3 < ((t2.2 p0 7) - (t2.2 p0 9)) then some ((-1), t2.2) else (if t2.1 < p1 then some ((-1), t2.2) else (if p2 < t2.1 then some ((-1), t2.2) else some (t2.1, t2.2)))))))))
set_option maxRecDepth 20000 in
theorem t_X12_number {E : am_E} {l : Launch} (hl : l.stackTraces = false) {S : am_S} {p0 : Nat} {p1 : Int32} {p2 : Int32} (kp0 : am_kd p0 = 112) : am_M E l yX12_number (.code yX12_number cX12_number 4 (some .int)) 2 0 0 [.ref p0, .int p1, .int p2] S ((f_X12_number S p0 p1 p2).map (fun (x : Int32 × (Nat → Nat → Int32)) => ((.inl (some (.int x.1)), (x.2, S.2)) : am_R))) := by
  refine am_M_of (w := fun (x : Int32 × (Nat → Nat → Int32)) => ((.inl (some (.int x.1)), (x.2, S.2)) : am_R)) hl (by decide) (am_fc rfl (am_fc rfl (am_fc rfl am_fn))) (Nat.le_of_ble_eq_true rfl) ?_
  show am_Ev E l (RX12, cX12_number, 4, (some .int), [], am_rm 2 0 0) (fun b a s x => am_Z E 0 0 b a s ((fun (x : Int32 × (Nat → Nat → Int32)) => ((.inl (some (.int x.1)), (x.2, S.2)) : am_R)) x)) 0 0 0 [some (.ref p0), some (.int p1), some (.int p2), none] [] S (f_X12_number S p0 p1 p2)
  unfold f_X12_number
  refine ev_aload_n dX12_number_0 rfl ?_
  refine ev_callWV (am_callV (as := []) (o := p0) (st := []) cv_X12_118 dX12_number_1 kp0 rfl (am_le rfl) (am_fit (by omega) (by decide) (by decide) (by decide)) (t_X12_blanks hl kp0)) (fun σ1 h1 => ?_)
  refine ev_iconst (v := 0) dX12_number_4 (by decide) ?_
  refine ev_istore_n dX12_number_5 (am_lt rfl) ?_
  refine ev_weak (am_wk (am_wk (am_wk (am_wk am_wn)))) (ev_loop 6 65 (fun x2 : Int32 × (Nat → Nat → Int32) => [some (.ref p0), some (.int p1), some (.int p2), some (.int x2.1)]) (fun t2 : Int32 × (Nat → Nat → Int32) => [some (.ref p0), some (.int p1), some (.int p2), some (.int t2.1)]) (fun x2 => (x2.2, S.2)) (fun t2 => (t2.2, S.2)) (fun x2 G2 hB2 hE2 => ?_) (fun t2 => ?_) am_fuel (0, σ1))
  · unfold f_X12_number_b6
    refine ev_aload_n dX12_number_6 rfl ?_
    refine ev_bipush (v := 48) dX12_number_7 (by decide) ?_
    refine ev_bipush (v := 57) dX12_number_9 (by decide) ?_
    refine ev_eq (Option.bind_assoc _ _ _) ?_
    refine ev_callP (am_callV (as := [.int 48, .int 57]) (o := p0) (st := []) cv_X12_111 dX12_number_11 kp0 rfl (am_le rfl) (am_fit (by omega) (by decide) (by decide) (by decide)) (t_X12_isAt hl kp0)) (fun v8 h8 => ?_)
    refine ev_eq am_ib ?_
    refine ev_if_eq (tgt := 65) dX12_number_14 (by decide) (fun c9 => ?_) (fun c9 => ?_)
    · exact ev_leaf (am_wk (am_wk (am_wk (am_wk am_wn)))) (hE2 (x2.1, x2.2))
    · refine ev_aload_n dX12_number_17 rfl ?_
      refine ev_get fk_X12_105 dX12_number_18 kp0 (am_fvI (by decide)) ?_
      refine ev_aload_n dX12_number_21 rfl ?_
      refine ev_get fk_X12_115 dX12_number_22 kp0 (am_fvI (by decide)) ?_
      refine ev_isub dX12_number_25 ?_
      refine ev_iconst (v := 3) dX12_number_26 (by decide) ?_
      refine ev_eq (Option.bind_assoc _ _ _) ?_
      refine ev_reg (cs' := 0) (sl' := 0) 51 (fun t10 : Int32 => [some (.ref p0), some (.int p1), some (.int p2), none]) (fun t10 => [.int t10]) (fun t10 => (x2.2, S.2)) (fun hJ10 => ?_) (fun t10 => ?_)
      · refine ev_eq am_ib ?_
        refine ev_icmp_ge (tgt := 50) dX12_number_27 (by decide) (fun c10 => ?_) (fun c10 => ?_)
        · refine ev_iload_n dX12_number_50 rfl ?_
          exact ev_leaf (am_wk (am_wk (am_wk (am_wf am_wn)))) (hJ10 x2.1)
        · refine ev_bipush (v := 10) dX12_number_30 (by decide) ?_
          refine ev_iload_n dX12_number_32 rfl ?_
          refine ev_imul dX12_number_33 ?_
          refine ev_aload_n dX12_number_34 rfl ?_
          refine ev_eq (Option.bind_assoc _ _ _) ?_
          refine ev_getR fk_X12_23 (by decide) dX12_number_35 kp0 (fun q11 k11 r11 => ?_)
          refine ev_aload_n dX12_number_38 rfl ?_
          refine ev_get fk_X12_105 dX12_number_39 kp0 (am_fvI (by decide)) ?_
          refine ev_eq (Option.bind_assoc _ _ _) ?_
          refine ev_bald dX12_number_42 k11 (fun v12 h12 => ?_)
          refine ev_iadd dX12_number_43 ?_
          refine ev_bipush (v := 48) dX12_number_44 (by decide) ?_
          refine ev_isub dX12_number_46 ?_
          refine ev_goto (tgt := 51) dX12_number_47 (by decide) ?_
          exact ev_leaf (am_wk (am_wk (am_wk (am_wf am_wn)))) (hJ10 (((10 * x2.1) + v12) - 48))
      · refine ev_istore_n dX12_number_51 (am_lt rfl) ?_
        refine ev_aload_n dX12_number_52 rfl ?_
        refine ev_dup dX12_number_53 rfl ?_
        refine ev_get fk_X12_105 dX12_number_54 kp0 (am_fvI (by decide)) ?_
        refine ev_iconst (v := 1) dX12_number_57 (by decide) ?_
        refine ev_iadd dX12_number_58 ?_
        refine ev_putI fk_X12_105 tyX12 tyX12_ok nmX12 rfl (by decide +kernel) (by decide) dX12_number_59 kp0 ?_
        refine ev_goto (tgt := 6) dX12_number_62 (by decide) ?_
        exact ev_leaf (am_wk (am_wk (am_wk (am_wk am_wn)))) (hB2 (t10, (am_u2 x2.2 p0 7 ((x2.2 p0 7) + 1))))
  · refine ev_aload_n dX12_number_65 rfl ?_
    refine ev_get fk_X12_105 dX12_number_66 kp0 (am_fvI (by decide)) ?_
    refine ev_aload_n dX12_number_69 rfl ?_
    refine ev_get fk_X12_115 dX12_number_70 kp0 (am_fvI (by decide)) ?_
    refine ev_icmp_eq (tgt := 99) dX12_number_73 (by decide) (fun c13 => ?_) (fun c13 => ?_)
    · refine ev_iconst (v := (-1)) dX12_number_99 (by decide) ?_
      refine ev_goto (tgt := 104) dX12_number_100 (by decide) ?_
      exact ev_iret dX12_number_104 rfl rfl (by decide) (by decide) rfl
    · refine ev_aload_n dX12_number_76 rfl ?_
      refine ev_get fk_X12_105 dX12_number_77 kp0 (am_fvI (by decide)) ?_
      refine ev_aload_n dX12_number_80 rfl ?_
      refine ev_get fk_X12_115 dX12_number_81 kp0 (am_fvI (by decide)) ?_
      refine ev_isub dX12_number_84 ?_
      refine ev_iconst (v := 3) dX12_number_85 (by decide) ?_
      refine ev_icmp_gt (tgt := 99) dX12_number_86 (by decide) (fun c14 => ?_) (fun c14 => ?_)
      · refine ev_iconst (v := (-1)) dX12_number_99 (by decide) ?_
        refine ev_goto (tgt := 104) dX12_number_100 (by decide) ?_
        exact ev_iret dX12_number_104 rfl rfl (by decide) (by decide) rfl
      · refine ev_iload_n dX12_number_89 rfl ?_
        refine ev_iload_n dX12_number_90 rfl ?_
        refine ev_icmp_lt (tgt := 99) dX12_number_91 (by decide) (fun c15 => ?_) (fun c15 => ?_)
        · refine ev_iconst (v := (-1)) dX12_number_99 (by decide) ?_
          refine ev_goto (tgt := 104) dX12_number_100 (by decide) ?_
          exact ev_iret dX12_number_104 rfl rfl (by decide) (by decide) rfl
        · refine ev_iload_n dX12_number_94 rfl ?_
          refine ev_iload_n dX12_number_95 rfl ?_
          refine ev_icmp_le (tgt := 103) dX12_number_96 (by decide) (fun c16 => ?_) (fun c16 => ?_)
          · refine ev_iload_n dX12_number_103 rfl ?_
            exact ev_iret dX12_number_104 rfl rfl (by decide) (by decide) rfl
          · refine ev_iconst (v := (-1)) dX12_number_99 (by decide) ?_
            refine ev_goto (tgt := 104) dX12_number_100 (by decide) ?_
            exact ev_iret dX12_number_104 rfl rfl (by decide) (by decide) rfl
def f_X12_fault (S : am_S) (p0 : Nat) : Option (Int32 × (Nat → Nat → Int32)) :=
  some (((am_u2 S.1 p0 0 0) p0 11), (am_u2 S.1 p0 0 0))
set_option maxRecDepth 20000 in
theorem t_X12_fault {E : am_E} {l : Launch} (hl : l.stackTraces = false) {S : am_S} {p0 : Nat} (kp0 : am_kd p0 = 112) : am_M E l yX12_fault (.code yX12_fault cX12_fault 1 (some .int)) 0 0 0 [.ref p0] S ((f_X12_fault S p0).map (fun (x : Int32 × (Nat → Nat → Int32)) => ((.inl (some (.int x.1)), (x.2, S.2)) : am_R))) := by
  refine am_M_of (w := fun (x : Int32 × (Nat → Nat → Int32)) => ((.inl (some (.int x.1)), (x.2, S.2)) : am_R)) hl (by decide) (am_fc rfl am_fn) (Nat.le_of_ble_eq_true rfl) ?_
  show am_Ev E l (RX12, cX12_fault, 1, (some .int), [], am_rm 0 0 0) (fun b a s x => am_Z E 0 0 b a s ((fun (x : Int32 × (Nat → Nat → Int32)) => ((.inl (some (.int x.1)), (x.2, S.2)) : am_R)) x)) 0 0 0 [some (.ref p0)] [] S (f_X12_fault S p0)
  unfold f_X12_fault
  refine ev_aload_n dX12_fault_0 rfl ?_
  refine ev_iconst (v := 0) dX12_fault_1 (by decide) ?_
  refine ev_putI fk_X12_3 tyX12 tyX12_ok nmX12 rfl (by decide +kernel) (by decide) dX12_fault_2 kp0 ?_
  refine ev_aload_n dX12_fault_5 rfl ?_
  refine ev_get fk_X12_27 dX12_fault_6 kp0 (am_fvI (by decide)) ?_
  exact ev_iret dX12_fault_9 rfl rfl (by decide) (by decide) rfl
def f_X12_uses (S : am_S) (p0 : Nat) : Option ((Nat → Nat → Int32)) :=
  some (am_u2 (am_u2 (am_u2 (am_u2 S.1 p0 0 0) p0 8 ((am_u2 S.1 p0 0 0) p0 6)) p0 6 0) p0 7 0)
set_option maxRecDepth 20000 in
theorem t_X12_uses {E : am_E} {l : Launch} (hl : l.stackTraces = false) {S : am_S} {p0 : Nat} (kp0 : am_kd p0 = 112) : am_M E l yX12_uses (.code yX12_uses cX12_uses 1 none) 0 0 0 [.ref p0] S ((f_X12_uses S p0).map (fun (x : Nat → Nat → Int32) => ((.inl none, (x, S.2)) : am_R))) := by
  refine am_M_of (w := fun (x : Nat → Nat → Int32) => ((.inl none, (x, S.2)) : am_R)) hl (by decide) (am_fc rfl am_fn) (Nat.le_of_ble_eq_true rfl) ?_
  show am_Ev E l (RX12, cX12_uses, 1, none, [], am_rm 0 0 0) (fun b a s x => am_Z E 0 0 b a s ((fun (x : Nat → Nat → Int32) => ((.inl none, (x, S.2)) : am_R)) x)) 0 0 0 [some (.ref p0)] [] S (f_X12_uses S p0)
  unfold f_X12_uses
  refine ev_aload_n dX12_uses_0 rfl ?_
  refine ev_iconst (v := 0) dX12_uses_1 (by decide) ?_
  refine ev_putI fk_X12_3 tyX12 tyX12_ok nmX12 rfl (by decide +kernel) (by decide) dX12_uses_2 kp0 ?_
  refine ev_aload_n dX12_uses_5 rfl ?_
  refine ev_aload_n dX12_uses_6 rfl ?_
  refine ev_get fk_X12_102 dX12_uses_7 kp0 (am_fvI (by decide)) ?_
  refine ev_putI fk_X12_108 tyX12 tyX12_ok nmX12 rfl (by decide +kernel) (by decide) dX12_uses_10 kp0 ?_
  refine ev_aload_n dX12_uses_13 rfl ?_
  refine ev_iconst (v := 0) dX12_uses_14 (by decide) ?_
  refine ev_putI fk_X12_102 tyX12 tyX12_ok nmX12 rfl (by decide +kernel) (by decide) dX12_uses_15 kp0 ?_
  refine ev_aload_n dX12_uses_18 rfl ?_
  refine ev_iconst (v := 0) dX12_uses_19 (by decide) ?_
  refine ev_putI fk_X12_105 tyX12 tyX12_ok nmX12 rfl (by decide +kernel) (by decide) dX12_uses_20 kp0 ?_
  exact ev_vret dX12_uses_23 rfl (by decide) (by decide) rfl
def f_X12_readHouse_b15 (S : am_S) (a0 : Nat) (a1 : Int32) (x3 : Int32 × (Nat → Nat → Int32)) : Option ((Int32 × (Nat → Nat → Int32)) ⊕ ((Nat → Nat → Int32))) :=
  (if x3.1 < 15 then ((f_X12_sets (x3.2, S.2) a0 a1 x3.1 0).bind (fun σ5 => some (.inl ((x3.1 + 1), σ5)))) else some (.inr x3.2))
def f_X12_readHouse_b36 (S : am_S) (a0 : Nat) (a1 : Int32) (x8 : Int32 × (Nat → Nat → Int32)) : Option ((Int32 × (Nat → Nat → Int32)) ⊕ (((Nat → Nat → Int32)) ⊕ (Int32 × (Nat → Nat → Int32)))) :=
  (if 3 < x8.1 then some (.inr (.inl x8.2)) else ((if x8.1 < 2 then ((f_X12_number (x8.2, S.2) a0 0 15).bind (fun y14 => some (y14.1, y14.2))) else (if x8.1 = 2 then ((f_X12_number (x8.2, S.2) a0 1 30).bind (fun y13 => some (y13.1, y13.2))) else ((f_X12_number (x8.2, S.2) a0 0 999).bind (fun y12 => some (y12.1, y12.2))))).bind (fun t10 => (if t10.1 < 0 then some (.inr (.inr (0, t10.2))) else ((f_X12_sets (t10.2, S.2) a0 a1 x8.1 t10.1).bind (fun σ16 => some (.inl ((x8.1 + 1), σ16))))))))
def f_X12_readHouse (S : am_S) (p0 : Nat) : Option (Int32 × (Nat → Nat → Int32)) :=
  ((f_X12_houses S p0).bind (fun v1 => (if v1 = 8 then some (0, S.1) else ((am_loop (f_X12_readHouse_b15 S p0 v1) am_fuel (0, S.1)).bind (fun t3 => ((am_loop (f_X12_readHouse_b36 (t3, S.2) p0 v1) am_fuel (0, t3)).bind (fun r8 => match r8 with | .inl t8 => ((f_X12_passes (t8, S.2) p0 (1000 + 2)).bind (fun y26 => ((if y26.1 = 0 then some y26.2 else ((f_X12_sets (y26.2, S.2) p0 v1 4 1).bind (fun σ28 => some σ28))).bind (fun t27 => ((am_rd S.2 p0 1 1).bind (fun q29 => ((am_ld t27 q29 0).bind (fun v30 => ((am_st t27 q29 0 (v30 + 1)).bind (fun σ31 => some (1, σ31))))))))))) | .inr b8 => some b8)))))))
set_option maxRecDepth 20000 in
theorem t_X12_readHouse {E : am_E} {l : Launch} (hl : l.stackTraces = false) {S : am_S} {p0 : Nat} (kp0 : am_kd p0 = 112) : am_M E l yX12_readHouse (.code yX12_readHouse cX12_readHouse 4 (some .boolean)) 7 0 0 [.ref p0] S ((f_X12_readHouse S p0).map (fun (x : Int32 × (Nat → Nat → Int32)) => ((.inl (some (.int x.1)), (x.2, S.2)) : am_R))) := by
  refine am_M_of (w := fun (x : Int32 × (Nat → Nat → Int32)) => ((.inl (some (.int x.1)), (x.2, S.2)) : am_R)) hl (by decide) (am_fc rfl am_fn) (Nat.le_of_ble_eq_true rfl) ?_
  show am_Ev E l (RX12, cX12_readHouse, 4, (some .boolean), [], am_rm 7 0 0) (fun b a s x => am_Z E 0 0 b a s ((fun (x : Int32 × (Nat → Nat → Int32)) => ((.inl (some (.int x.1)), (x.2, S.2)) : am_R)) x)) 0 0 0 [some (.ref p0), none, none, none] [] S (f_X12_readHouse S p0)
  unfold f_X12_readHouse
  refine ev_aload_n dX12_readHouse_0 rfl ?_
  refine ev_callP (am_callV (as := []) (o := p0) (st := []) cv_X12_74 dX12_readHouse_1 kp0 rfl (am_le rfl) (am_fit (by omega) (by decide) (by decide) (by decide)) (t_X12_houses hl kp0)) (fun v1 h1 => ?_)
  refine ev_istore_n dX12_readHouse_4 (am_lt rfl) ?_
  refine ev_iload_n dX12_readHouse_5 rfl ?_
  refine ev_bipush (v := 8) dX12_readHouse_6 (by decide) ?_
  refine ev_icmp_ne (tgt := 13) dX12_readHouse_8 (by decide) (fun c2 => ?_) (fun c2 => ?_)
  · refine ev_iconst (v := 0) dX12_readHouse_13 (by decide) ?_
    refine ev_istore_n dX12_readHouse_14 (am_lt rfl) ?_
    refine ev_weak (am_wk (am_wk (am_wk (am_wf am_wn)))) (ev_loop 15 34 (fun x3 : Int32 × (Nat → Nat → Int32) => [some (.ref p0), some (.int v1), some (.int x3.1), none]) (fun t3 : (Nat → Nat → Int32) => [some (.ref p0), some (.int v1), none, none]) (fun x3 => (x3.2, S.2)) (fun t3 => (t3, S.2)) (fun x3 G3 hB3 hE3 => ?_) (fun t3 => ?_) am_fuel (0, S.1))
    · unfold f_X12_readHouse_b15
      refine ev_iload_n dX12_readHouse_15 rfl ?_
      refine ev_bipush (v := 15) dX12_readHouse_16 (by decide) ?_
      refine ev_eq am_ib ?_
      refine ev_icmp_ge (tgt := 34) dX12_readHouse_18 (by decide) (fun c6 => ?_) (fun c6 => ?_)
      · exact ev_leaf (am_wk (am_wk (am_wf (am_wf am_wn)))) (hE3 x3.2)
      · refine ev_aload_n dX12_readHouse_21 rfl ?_
        refine ev_iload_n dX12_readHouse_22 rfl ?_
        refine ev_iload_n dX12_readHouse_23 rfl ?_
        refine ev_iconst (v := 0) dX12_readHouse_24 (by decide) ?_
        refine ev_eq (Option.bind_assoc _ _ _) ?_
        refine ev_callWV (am_callV (as := [.int v1, .int x3.1, .int 0]) (o := p0) (st := []) cv_X12_137 dX12_readHouse_25 kp0 rfl (am_le rfl) (am_fit (by omega) (by decide) (by decide) (by decide)) (t_X12_sets hl kp0)) (fun σ7 h7 => ?_)
        refine ev_iinc (v := (x3.1 + 1)) dX12_readHouse_28 (am_lt rfl) rfl rfl ?_
        refine ev_goto (tgt := 15) dX12_readHouse_31 (by decide) ?_
        exact ev_leaf (am_wk (am_wk (am_wk (am_wf am_wn)))) (hB3 ((x3.1 + 1), σ7))
    · refine ev_iconst (v := 0) dX12_readHouse_34 (by decide) ?_
      refine ev_istore_n dX12_readHouse_35 (am_lt rfl) ?_
      refine ev_weak (am_wk (am_wk (am_wk (am_wf am_wn)))) (ev_loopR 36 99 (fun x8 : Int32 × (Nat → Nat → Int32) => [some (.ref p0), some (.int v1), some (.int x8.1), none]) (fun t8 : (Nat → Nat → Int32) => [some (.ref p0), some (.int v1), none, none]) (fun x8 => (x8.2, S.2)) (fun t8 => (t8, S.2)) (fun x8 G8 hB8 hE8 hG8 => ?_) (fun t8 => ?_) am_fuel (0, t3))
      · unfold f_X12_readHouse_b36
        refine ev_iload_n dX12_readHouse_36 rfl ?_
        refine ev_iconst (v := 3) dX12_readHouse_37 (by decide) ?_
        refine ev_eq am_ib ?_
        refine ev_icmp_gt (tgt := 99) dX12_readHouse_38 (by decide) (fun c17 => ?_) (fun c17 => ?_)
        · exact ev_leaf (am_wk (am_wk (am_wf (am_wf am_wn)))) (hE8 x8.2)
        · refine ev_iload_n dX12_readHouse_41 rfl ?_
          refine ev_iconst (v := 2) dX12_readHouse_42 (by decide) ?_
          refine ev_eq (Option.bind_assoc _ _ _) ?_
          refine ev_reg (cs' := 0) (sl' := 0) 79 (fun t18 : Int32 × (Nat → Nat → Int32) => [some (.ref p0), some (.int v1), some (.int x8.1), none]) (fun t18 => [.int t18.1]) (fun t18 => (t18.2, S.2)) (fun hJ18 => ?_) (fun t18 => ?_)
          · refine ev_eq am_ib ?_
            refine ev_icmp_ge (tgt := 56) dX12_readHouse_43 (by decide) (fun c18 => ?_) (fun c18 => ?_)
            · refine ev_iload_n dX12_readHouse_56 rfl ?_
              refine ev_iconst (v := 2) dX12_readHouse_57 (by decide) ?_
              refine ev_eq am_ib ?_
              refine ev_icmp_ne (tgt := 71) dX12_readHouse_58 (by decide) (fun c19 => ?_) (fun c19 => ?_)
              · refine ev_aload_n dX12_readHouse_71 rfl ?_
                refine ev_iconst (v := 0) dX12_readHouse_72 (by decide) ?_
                refine ev_sipush (v := 999) dX12_readHouse_73 (by decide) ?_
                refine ev_eq (Option.bind_assoc _ _ _) ?_
                refine ev_callWI (am_callV (as := [.int 0, .int 999]) (o := p0) (st := []) cv_X12_141 dX12_readHouse_76 kp0 rfl (am_le rfl) (am_fit (by omega) (by decide) (by decide) (by decide)) (t_X12_number hl kp0)) (fun y20 h20 => ?_)
                exact ev_leaf (am_wk (am_wk (am_wk (am_wf am_wn)))) (hJ18 (y20.1, y20.2))
              · refine ev_aload_n dX12_readHouse_61 rfl ?_
                refine ev_iconst (v := 1) dX12_readHouse_62 (by decide) ?_
                refine ev_bipush (v := 30) dX12_readHouse_63 (by decide) ?_
                refine ev_eq (Option.bind_assoc _ _ _) ?_
                refine ev_callWI (am_callV (as := [.int 1, .int 30]) (o := p0) (st := []) cv_X12_141 dX12_readHouse_65 kp0 rfl (am_le rfl) (am_fit (by omega) (by decide) (by decide) (by decide)) (t_X12_number hl kp0)) (fun y21 h21 => ?_)
                refine ev_goto (tgt := 79) dX12_readHouse_68 (by decide) ?_
                exact ev_leaf (am_wk (am_wk (am_wk (am_wf am_wn)))) (hJ18 (y21.1, y21.2))
            · refine ev_aload_n dX12_readHouse_46 rfl ?_
              refine ev_iconst (v := 0) dX12_readHouse_47 (by decide) ?_
              refine ev_bipush (v := 15) dX12_readHouse_48 (by decide) ?_
              refine ev_eq (Option.bind_assoc _ _ _) ?_
              refine ev_callWI (am_callV (as := [.int 0, .int 15]) (o := p0) (st := []) cv_X12_141 dX12_readHouse_50 kp0 rfl (am_le rfl) (am_fit (by omega) (by decide) (by decide) (by decide)) (t_X12_number hl kp0)) (fun y22 h22 => ?_)
              refine ev_goto (tgt := 79) dX12_readHouse_53 (by decide) ?_
              exact ev_leaf (am_wk (am_wk (am_wk (am_wf am_wn)))) (hJ18 (y22.1, y22.2))
          · refine ev_istore_n dX12_readHouse_79 (am_lt rfl) ?_
            refine ev_iload_n dX12_readHouse_80 rfl ?_
            refine ev_eq am_ib ?_
            refine ev_if_ge (tgt := 86) dX12_readHouse_81 (by decide) (fun c23 => ?_) (fun c23 => ?_)
            · refine ev_aload_n dX12_readHouse_86 rfl ?_
              refine ev_iload_n dX12_readHouse_87 rfl ?_
              refine ev_iload_n dX12_readHouse_88 rfl ?_
              refine ev_iload_n dX12_readHouse_89 rfl ?_
              refine ev_eq (Option.bind_assoc _ _ _) ?_
              refine ev_callWV (am_callV (as := [.int v1, .int x8.1, .int t18.1]) (o := p0) (st := []) cv_X12_137 dX12_readHouse_90 kp0 rfl (am_le rfl) (am_fit (by omega) (by decide) (by decide) (by decide)) (t_X12_sets hl kp0)) (fun σ24 h24 => ?_)
              refine ev_iinc (v := (x8.1 + 1)) dX12_readHouse_93 (am_lt rfl) rfl rfl ?_
              refine ev_goto (tgt := 36) dX12_readHouse_96 (by decide) ?_
              exact ev_leaf (am_wk (am_wk (am_wk (am_wf am_wn)))) (hB8 ((x8.1 + 1), σ24))
            · refine ev_iconst (v := 0) dX12_readHouse_84 (by decide) ?_
              exact ev_eq (hG8 _) (ev_iret dX12_readHouse_85 rfl (by decide) (by decide) (by decide) rfl)
      · refine ev_aload_n dX12_readHouse_99 rfl ?_
        refine ev_ldcS (k := 2) (tx := "deaf") dX12_readHouse_100 (show (RX12, 144, "deaf", 2) ∈ am_sts by decide +kernel) ?_
        refine ev_callWI (am_callV (as := [.ref (1000 + 2)]) (o := p0) (st := []) cv_X12_146 dX12_readHouse_102 kp0 rfl (am_le rfl) (am_fit (by omega) (by decide) (by decide) (by decide)) (t_X12_passes hl kp0 (by decide))) (fun y26 h26 => ?_)
        refine ev_reg (cs' := 0) (sl' := 0) 115 (fun t27 : (Nat → Nat → Int32) => [some (.ref p0), none, none, none]) (fun t27 => []) (fun t27 => (t27, S.2)) (fun hJ27 => ?_) (fun t27 => ?_)
        · refine ev_eq am_ib ?_
          refine ev_if_eq (tgt := 115) dX12_readHouse_105 (by decide) (fun c27 => ?_) (fun c27 => ?_)
          · exact ev_leaf (am_wk (am_wf (am_wf (am_wf am_wn)))) (hJ27 y26.2)
          · refine ev_aload_n dX12_readHouse_108 rfl ?_
            refine ev_iload_n dX12_readHouse_109 rfl ?_
            refine ev_iconst (v := 4) dX12_readHouse_110 (by decide) ?_
            refine ev_iconst (v := 1) dX12_readHouse_111 (by decide) ?_
            refine ev_eq (Option.bind_assoc _ _ _) ?_
            refine ev_callWV (am_callV (as := [.int v1, .int 4, .int 1]) (o := p0) (st := []) cv_X12_137 dX12_readHouse_112 kp0 rfl (am_le rfl) (am_fit (by omega) (by decide) (by decide) (by decide)) (t_X12_sets hl kp0)) (fun σ28 h28 => ?_)
            exact ev_leaf (am_wk (am_wf (am_wf (am_wf am_wn)))) (hJ27 σ28)
        · refine ev_aload_n dX12_readHouse_115 rfl ?_
          refine ev_getR fk_X12_13 (by decide) dX12_readHouse_116 kp0 (fun q29 k29 r29 => ?_)
          refine ev_iconst (v := 0) dX12_readHouse_119 (by decide) ?_
          refine ev_dup2 dX12_readHouse_120 rfl rfl ?_
          refine ev_iald dX12_readHouse_121 k29 (fun v30 h30 => ?_)
          refine ev_iconst (v := 1) dX12_readHouse_122 (by decide) ?_
          refine ev_iadd dX12_readHouse_123 ?_
          refine ev_iast dX12_readHouse_124 k29 (fun σ31 h31 => ?_)
          refine ev_iconst (v := 1) dX12_readHouse_125 (by decide) ?_
          exact ev_iret dX12_readHouse_126 rfl (by decide) (by decide) (by decide) rfl
  · refine ev_iconst (v := 0) dX12_readHouse_11 (by decide) ?_
    exact ev_iret dX12_readHouse_12 rfl (by decide) (by decide) (by decide) rfl
def f_X12_readWant (S : am_S) (p0 : Nat) : Option (Int32 × (Nat → Nat → Int32)) :=
  ((f_X12_wants S p0).bind (fun v1 => (if v1 = 10 then some (0, S.1) else ((f_X12_number S p0 1 99).bind (fun y3 => ((am_rd S.2 p0 1 1).bind (fun q4 => ((f_X12_wants (y3.2, S.2) p0).bind (fun v5 => ((am_st y3.2 q4 (128 + v5) y3.1).bind (fun σ6 => ((if y3.1 < 0 then some σ6 else ((am_rd S.2 p0 1 1).bind (fun q8 => ((am_ld σ6 q8 1).bind (fun v9 => ((am_st σ6 q8 1 (v9 + 1)).bind (fun σ10 => some σ10))))))).bind (fun t7 => (if y3.1 < 0 then some (0, t7) else some (1, t7)))))))))))))))
set_option maxRecDepth 20000 in
theorem t_X12_readWant {E : am_E} {l : Launch} (hl : l.stackTraces = false) {S : am_S} {p0 : Nat} (kp0 : am_kd p0 = 112) : am_M E l yX12_readWant (.code yX12_readWant cX12_readWant 2 (some .boolean)) 3 0 0 [.ref p0] S ((f_X12_readWant S p0).map (fun (x : Int32 × (Nat → Nat → Int32)) => ((.inl (some (.int x.1)), (x.2, S.2)) : am_R))) := by
  refine am_M_of (w := fun (x : Int32 × (Nat → Nat → Int32)) => ((.inl (some (.int x.1)), (x.2, S.2)) : am_R)) hl (by decide) (am_fc rfl am_fn) (Nat.le_of_ble_eq_true rfl) ?_
  show am_Ev E l (RX12, cX12_readWant, 2, (some .boolean), [], am_rm 3 0 0) (fun b a s x => am_Z E 0 0 b a s ((fun (x : Int32 × (Nat → Nat → Int32)) => ((.inl (some (.int x.1)), (x.2, S.2)) : am_R)) x)) 0 0 0 [some (.ref p0), none] [] S (f_X12_readWant S p0)
  unfold f_X12_readWant
  refine ev_aload_n dX12_readWant_0 rfl ?_
  refine ev_callP (am_callV (as := []) (o := p0) (st := []) cv_X12_82 dX12_readWant_1 kp0 rfl (am_le rfl) (am_fit (by omega) (by decide) (by decide) (by decide)) (t_X12_wants hl kp0)) (fun v1 h1 => ?_)
  refine ev_bipush (v := 10) dX12_readWant_4 (by decide) ?_
  refine ev_icmp_ne (tgt := 11) dX12_readWant_6 (by decide) (fun c2 => ?_) (fun c2 => ?_)
  · refine ev_aload_n dX12_readWant_11 rfl ?_
    refine ev_iconst (v := 1) dX12_readWant_12 (by decide) ?_
    refine ev_bipush (v := 99) dX12_readWant_13 (by decide) ?_
    refine ev_callWI (am_callV (as := [.int 1, .int 99]) (o := p0) (st := []) cv_X12_141 dX12_readWant_15 kp0 rfl (am_le rfl) (am_fit (by omega) (by decide) (by decide) (by decide)) (t_X12_number hl kp0)) (fun y3 h3 => ?_)
    refine ev_istore_n dX12_readWant_18 (am_lt rfl) ?_
    refine ev_aload_n dX12_readWant_19 rfl ?_
    refine ev_getR fk_X12_13 (by decide) dX12_readWant_20 kp0 (fun q4 k4 r4 => ?_)
    refine ev_sipush (v := 128) dX12_readWant_23 (by decide) ?_
    refine ev_aload_n dX12_readWant_26 rfl ?_
    refine ev_callP (am_callV (as := []) (o := p0) (st := [.int 128, .ref q4]) cv_X12_82 dX12_readWant_27 kp0 rfl (am_le rfl) (am_fit (by omega) (by decide) (by decide) (by decide)) (t_X12_wants hl kp0)) (fun v5 h5 => ?_)
    refine ev_iadd dX12_readWant_30 ?_
    refine ev_iload_n dX12_readWant_31 rfl ?_
    refine ev_iast dX12_readWant_32 k4 (fun σ6 h6 => ?_)
    refine ev_iload_n dX12_readWant_33 rfl ?_
    refine ev_reg (cs' := 0) (sl' := 0) 47 (fun t7 : (Nat → Nat → Int32) => [none, some (.int y3.1)]) (fun t7 => []) (fun t7 => (t7, S.2)) (fun hJ7 => ?_) (fun t7 => ?_)
    · refine ev_eq am_ib ?_
      refine ev_if_lt (tgt := 47) dX12_readWant_34 (by decide) (fun c7 => ?_) (fun c7 => ?_)
      · exact ev_leaf (am_wf (am_wk am_wn)) (hJ7 σ6)
      · refine ev_aload_n dX12_readWant_37 rfl ?_
        refine ev_eq (Option.bind_assoc _ _ _) ?_
        refine ev_getR fk_X12_13 (by decide) dX12_readWant_38 kp0 (fun q8 k8 r8 => ?_)
        refine ev_iconst (v := 1) dX12_readWant_41 (by decide) ?_
        refine ev_dup2 dX12_readWant_42 rfl rfl ?_
        refine ev_eq (Option.bind_assoc _ _ _) ?_
        refine ev_iald dX12_readWant_43 k8 (fun v9 h9 => ?_)
        refine ev_iconst (v := 1) dX12_readWant_44 (by decide) ?_
        refine ev_iadd dX12_readWant_45 ?_
        refine ev_eq (Option.bind_assoc _ _ _) ?_
        refine ev_iast dX12_readWant_46 k8 (fun σ10 h10 => ?_)
        exact ev_leaf (am_wf (am_wk am_wn)) (hJ7 σ10)
    · refine ev_iload_n dX12_readWant_47 rfl ?_
      refine ev_if_lt (tgt := 55) dX12_readWant_48 (by decide) (fun c11 => ?_) (fun c11 => ?_)
      · refine ev_iconst (v := 0) dX12_readWant_55 (by decide) ?_
        exact ev_iret dX12_readWant_56 rfl (by decide) (by decide) (by decide) rfl
      · refine ev_iconst (v := 1) dX12_readWant_51 (by decide) ?_
        refine ev_goto (tgt := 56) dX12_readWant_52 (by decide) ?_
        exact ev_iret dX12_readWant_56 rfl (by decide) (by decide) (by decide) rfl
  · refine ev_iconst (v := 0) dX12_readWant_9 (by decide) ?_
    exact ev_iret dX12_readWant_10 rfl (by decide) (by decide) (by decide) rfl
def f_X12_strokesTold_b31 (S : am_S) (a0 : Nat) (x4 : Int32 × Int32) : Option ((Int32 × Int32) ⊕ ((Unit) ⊕ (Int32 × (Nat → Nat → Int32)))) :=
  (if x4.2 < (S.1 a0 7) then ((am_rd S.2 a0 5 2).bind (fun q6 => ((am_ld S.1 q6 x4.2).bind (fun v7 => (if 98 < v7 then some (.inr (.inr ((-1), S.1))) else ((am_rd S.2 a0 5 2).bind (fun q9 => ((am_ld S.1 q9 x4.2).bind (fun v10 => some (.inl ((((2 * x4.1) + v10) - 97), (x4.2 + 1)))))))))))) else some (.inr (.inr (x4.1, S.1))))
def f_X12_strokesTold (S : am_S) (p0 : Nat) : Option (Int32 × (Nat → Nat → Int32)) :=
  ((f_X12_letters S p0).bind (fun σ1 => ((f_X12_in ((σ1 p0 7) - (σ1 p0 9)) 1 8).bind (fun v2 => (if v2 = 0 then some ((-1), σ1) else ((am_loop (f_X12_strokesTold_b31 (σ1, S.2) p0) am_fuel (1, (σ1 p0 9))).bind (fun r4 => match r4 with | .inl t4 => none | .inr b4 => some b4)))))))
set_option maxRecDepth 20000 in
theorem t_X12_strokesTold {E : am_E} {l : Launch} (hl : l.stackTraces = false) {S : am_S} {p0 : Nat} (kp0 : am_kd p0 = 112) : am_M E l yX12_strokesTold (.code yX12_strokesTold cX12_strokesTold 3 (some .int)) 3 0 0 [.ref p0] S ((f_X12_strokesTold S p0).map (fun (x : Int32 × (Nat → Nat → Int32)) => ((.inl (some (.int x.1)), (x.2, S.2)) : am_R))) := by
  refine am_M_of (w := fun (x : Int32 × (Nat → Nat → Int32)) => ((.inl (some (.int x.1)), (x.2, S.2)) : am_R)) hl (by decide) (am_fc rfl am_fn) (Nat.le_of_ble_eq_true rfl) ?_
  show am_Ev E l (RX12, cX12_strokesTold, 3, (some .int), [], am_rm 3 0 0) (fun b a s x => am_Z E 0 0 b a s ((fun (x : Int32 × (Nat → Nat → Int32)) => ((.inl (some (.int x.1)), (x.2, S.2)) : am_R)) x)) 0 0 0 [some (.ref p0), none, none] [] S (f_X12_strokesTold S p0)
  unfold f_X12_strokesTold
  refine ev_aload_n dX12_strokesTold_0 rfl ?_
  refine ev_callWV (am_callV (as := []) (o := p0) (st := []) cv_X12_130 dX12_strokesTold_1 kp0 rfl (am_le rfl) (am_fit (by omega) (by decide) (by decide) (by decide)) (t_X12_letters hl kp0)) (fun σ1 h1 => ?_)
  refine ev_aload_n dX12_strokesTold_4 rfl ?_
  refine ev_get fk_X12_105 dX12_strokesTold_5 kp0 (am_fvI (by decide)) ?_
  refine ev_aload_n dX12_strokesTold_8 rfl ?_
  refine ev_get fk_X12_115 dX12_strokesTold_9 kp0 (am_fvI (by decide)) ?_
  refine ev_isub dX12_strokesTold_12 ?_
  refine ev_iconst (v := 1) dX12_strokesTold_13 (by decide) ?_
  refine ev_bipush (v := 8) dX12_strokesTold_14 (by decide) ?_
  refine ev_callP (am_callS (as := [.int ((σ1 p0 7) - (σ1 p0 9)), .int 1, .int 8]) (st := []) ct_X12_78 dX12_strokesTold_16 rfl (am_le rfl) (am_fit (by omega) (by decide) (by decide) (by decide)) (t_X12_in hl )) (fun v2 h2 => ?_)
  refine ev_if_ne (tgt := 24) dX12_strokesTold_19 (by decide) (fun c3 => ?_) (fun c3 => ?_)
  · refine ev_iconst (v := 1) dX12_strokesTold_24 (by decide) ?_
    refine ev_istore_n dX12_strokesTold_25 (am_lt rfl) ?_
    refine ev_aload_n dX12_strokesTold_26 rfl ?_
    refine ev_get fk_X12_115 dX12_strokesTold_27 kp0 (am_fvI (by decide)) ?_
    refine ev_istore_n dX12_strokesTold_30 (am_lt rfl) ?_
    refine ev_weak (am_wk (am_wk (am_wk am_wn))) (ev_loopR 31 0 (fun x4 : Int32 × Int32 => [some (.ref p0), some (.int x4.1), some (.int x4.2)]) (fun t4 : Unit => [none, none, none]) (fun x4 => (σ1, S.2)) (fun t4 => (σ1, S.2)) (fun x4 G4 hB4 hE4 hG4 => ?_) (fun t4 => ?_) am_fuel (1, (σ1 p0 9)))
    · unfold f_X12_strokesTold_b31
      refine ev_iload_n dX12_strokesTold_31 rfl ?_
      refine ev_aload_n dX12_strokesTold_32 rfl ?_
      refine ev_get fk_X12_105 dX12_strokesTold_33 kp0 (am_fvI (by decide)) ?_
      refine ev_eq am_ib ?_
      refine ev_icmp_ge (tgt := 72) dX12_strokesTold_36 (by decide) (fun c11 => ?_) (fun c11 => ?_)
      · refine ev_iload_n dX12_strokesTold_72 rfl ?_
        exact ev_eq (hG4 _) (ev_iret dX12_strokesTold_73 rfl rfl (by decide) (by decide) rfl)
      · refine ev_aload_n dX12_strokesTold_39 rfl ?_
        refine ev_eq (Option.bind_assoc _ _ _) ?_
        refine ev_getR fk_X12_23 (by decide) dX12_strokesTold_40 kp0 (fun q12 k12 r12 => ?_)
        refine ev_iload_n dX12_strokesTold_43 rfl ?_
        refine ev_eq (Option.bind_assoc _ _ _) ?_
        refine ev_bald dX12_strokesTold_44 k12 (fun v13 h13 => ?_)
        refine ev_bipush (v := 98) dX12_strokesTold_45 (by decide) ?_
        refine ev_eq am_ib ?_
        refine ev_icmp_le (tgt := 52) dX12_strokesTold_47 (by decide) (fun c14 => ?_) (fun c14 => ?_)
        · refine ev_iconst (v := 2) dX12_strokesTold_52 (by decide) ?_
          refine ev_iload_n dX12_strokesTold_53 rfl ?_
          refine ev_imul dX12_strokesTold_54 ?_
          refine ev_aload_n dX12_strokesTold_55 rfl ?_
          refine ev_eq (Option.bind_assoc _ _ _) ?_
          refine ev_getR fk_X12_23 (by decide) dX12_strokesTold_56 kp0 (fun q15 k15 r15 => ?_)
          refine ev_iload_n dX12_strokesTold_59 rfl ?_
          refine ev_eq (Option.bind_assoc _ _ _) ?_
          refine ev_bald dX12_strokesTold_60 k15 (fun v16 h16 => ?_)
          refine ev_iadd dX12_strokesTold_61 ?_
          refine ev_bipush (v := 97) dX12_strokesTold_62 (by decide) ?_
          refine ev_isub dX12_strokesTold_64 ?_
          refine ev_istore_n dX12_strokesTold_65 (am_lt rfl) ?_
          refine ev_iinc (v := (x4.2 + 1)) dX12_strokesTold_66 (am_lt rfl) rfl rfl ?_
          refine ev_goto (tgt := 31) dX12_strokesTold_69 (by decide) ?_
          exact ev_leaf (am_wk (am_wk (am_wk am_wn))) (hB4 ((((2 * x4.1) + v16) - 97), (x4.2 + 1)))
        · refine ev_iconst (v := (-1)) dX12_strokesTold_50 (by decide) ?_
          exact ev_eq (hG4 _) (ev_iret dX12_strokesTold_51 rfl rfl (by decide) (by decide) rfl)
    · exact ev_none
  · refine ev_iconst (v := (-1)) dX12_strokesTold_22 (by decide) ?_
    exact ev_iret dX12_strokesTold_23 rfl rfl (by decide) (by decide) rfl
def f_X12_readCode (S : am_S) (p0 : Nat) (p1 : Int32) : Option (Int32 × (Nat → Nat → Int32)) :=
  ((f_X12_houses S p0).bind (fun v1 => ((f_X12_number S p0 0 (v1 - 1)).bind (fun y2 => ((if y2.1 < 0 then some (((-1) : Int32), y2.2) else ((f_X12_wants (y2.2, S.2) p0).bind (fun v4 => ((f_X12_number (y2.2, S.2) p0 0 (v4 - 1)).bind (fun y5 => some (y5.1, y5.2)))))).bind (fun t3 => ((if t3.1 < 0 then some (((-1) : Int32), t3.2) else (if p1 = 0 then some ((0 : Int32), t3.2) else ((f_X12_strokesTold (t3.2, S.2) p0).bind (fun y8 => some (y8.1, y8.2))))).bind (fun t6 => ((if t6.1 < 0 then some t6.2 else ((f_X12_sets (t6.2, S.2) p0 y2.1 (5 + t3.1) t6.1).bind (fun σ10 => some σ10))).bind (fun t9 => (if t6.1 < 0 then some (0, t9) else some (1, t9))))))))))))
set_option maxRecDepth 20000 in
theorem t_X12_readCode {E : am_E} {l : Launch} (hl : l.stackTraces = false) {S : am_S} {p0 : Nat} {p1 : Int32} (kp0 : am_kd p0 = 112) : am_M E l yX12_readCode (.code yX12_readCode cX12_readCode 5 (some .boolean)) 4 0 0 [.ref p0, .int p1] S ((f_X12_readCode S p0 p1).map (fun (x : Int32 × (Nat → Nat → Int32)) => ((.inl (some (.int x.1)), (x.2, S.2)) : am_R))) := by
  refine am_M_of (w := fun (x : Int32 × (Nat → Nat → Int32)) => ((.inl (some (.int x.1)), (x.2, S.2)) : am_R)) hl (by decide) (am_fc rfl (am_fc rfl am_fn)) (Nat.le_of_ble_eq_true rfl) ?_
  show am_Ev E l (RX12, cX12_readCode, 5, (some .boolean), [], am_rm 4 0 0) (fun b a s x => am_Z E 0 0 b a s ((fun (x : Int32 × (Nat → Nat → Int32)) => ((.inl (some (.int x.1)), (x.2, S.2)) : am_R)) x)) 0 0 0 [some (.ref p0), some (.int p1), none, none, none] [] S (f_X12_readCode S p0 p1)
  unfold f_X12_readCode
  refine ev_aload_n dX12_readCode_0 rfl ?_
  refine ev_iconst (v := 0) dX12_readCode_1 (by decide) ?_
  refine ev_aload_n dX12_readCode_2 rfl ?_
  refine ev_callP (am_callV (as := []) (o := p0) (st := [.int 0, .ref p0]) cv_X12_74 dX12_readCode_3 kp0 rfl (am_le rfl) (am_fit (by omega) (by decide) (by decide) (by decide)) (t_X12_houses hl kp0)) (fun v1 h1 => ?_)
  refine ev_iconst (v := 1) dX12_readCode_6 (by decide) ?_
  refine ev_isub dX12_readCode_7 ?_
  refine ev_callWI (am_callV (as := [.int 0, .int (v1 - 1)]) (o := p0) (st := []) cv_X12_141 dX12_readCode_8 kp0 rfl (am_le rfl) (am_fit (by omega) (by decide) (by decide) (by decide)) (t_X12_number hl kp0)) (fun y2 h2 => ?_)
  refine ev_istore_n dX12_readCode_11 (am_lt rfl) ?_
  refine ev_iload_n dX12_readCode_12 rfl ?_
  refine ev_reg (cs' := 0) (sl' := 0) 31 (fun t3 : Int32 × (Nat → Nat → Int32) => [some (.ref p0), some (.int p1), some (.int y2.1), none, none]) (fun t3 => [.int t3.1]) (fun t3 => (t3.2, S.2)) (fun hJ3 => ?_) (fun t3 => ?_)
  · refine ev_eq am_ib ?_
    refine ev_if_ge (tgt := 20) dX12_readCode_13 (by decide) (fun c3 => ?_) (fun c3 => ?_)
    · refine ev_aload_n dX12_readCode_20 rfl ?_
      refine ev_iconst (v := 0) dX12_readCode_21 (by decide) ?_
      refine ev_aload_n dX12_readCode_22 rfl ?_
      refine ev_eq (Option.bind_assoc _ _ _) ?_
      refine ev_callP (am_callV (as := []) (o := p0) (st := [.int 0, .ref p0]) cv_X12_82 dX12_readCode_23 kp0 rfl (am_le rfl) (am_fit (by omega) (by decide) (by decide) (by decide)) (t_X12_wants hl kp0)) (fun v4 h4 => ?_)
      refine ev_iconst (v := 1) dX12_readCode_26 (by decide) ?_
      refine ev_isub dX12_readCode_27 ?_
      refine ev_eq (Option.bind_assoc _ _ _) ?_
      refine ev_callWI (am_callV (as := [.int 0, .int (v4 - 1)]) (o := p0) (st := []) cv_X12_141 dX12_readCode_28 kp0 rfl (am_le rfl) (am_fit (by omega) (by decide) (by decide) (by decide)) (t_X12_number hl kp0)) (fun y5 h5 => ?_)
      exact ev_leaf (am_wk (am_wk (am_wk (am_wf (am_wf am_wn))))) (hJ3 (y5.1, y5.2))
    · refine ev_iconst (v := (-1)) dX12_readCode_16 (by decide) ?_
      refine ev_goto (tgt := 31) dX12_readCode_17 (by decide) ?_
      exact ev_leaf (am_wk (am_wk (am_wk (am_wf (am_wf am_wn))))) (hJ3 (((-1) : Int32), y2.2))
  · refine ev_istore_n dX12_readCode_31 (am_lt rfl) ?_
    refine ev_iload_n dX12_readCode_32 rfl ?_
    refine ev_reg (cs' := 0) (sl' := 0) 52 (fun t6 : Int32 × (Nat → Nat → Int32) => [some (.ref p0), none, some (.int y2.1), some (.int t3.1), none]) (fun t6 => [.int t6.1]) (fun t6 => (t6.2, S.2)) (fun hJ6 => ?_) (fun t6 => ?_)
    · refine ev_eq am_ib ?_
      refine ev_if_ge (tgt := 40) dX12_readCode_33 (by decide) (fun c6 => ?_) (fun c6 => ?_)
      · refine ev_iload_n dX12_readCode_40 rfl ?_
        refine ev_eq am_ib ?_
        refine ev_if_eq (tgt := 51) dX12_readCode_41 (by decide) (fun c7 => ?_) (fun c7 => ?_)
        · refine ev_iconst (v := 0) dX12_readCode_51 (by decide) ?_
          exact ev_leaf (am_wk (am_wf (am_wk (am_wk (am_wf am_wn))))) (hJ6 ((0 : Int32), t3.2))
        · refine ev_aload_n dX12_readCode_44 rfl ?_
          refine ev_eq (Option.bind_assoc _ _ _) ?_
          refine ev_callWI (am_callV (as := []) (o := p0) (st := []) cv_X12_149 dX12_readCode_45 kp0 rfl (am_le rfl) (am_fit (by omega) (by decide) (by decide) (by decide)) (t_X12_strokesTold hl kp0)) (fun y8 h8 => ?_)
          refine ev_goto (tgt := 52) dX12_readCode_48 (by decide) ?_
          exact ev_leaf (am_wk (am_wf (am_wk (am_wk (am_wf am_wn))))) (hJ6 (y8.1, y8.2))
      · refine ev_iconst (v := (-1)) dX12_readCode_36 (by decide) ?_
        refine ev_goto (tgt := 52) dX12_readCode_37 (by decide) ?_
        exact ev_leaf (am_wk (am_wf (am_wk (am_wk (am_wf am_wn))))) (hJ6 (((-1) : Int32), t3.2))
    · refine ev_istore dX12_readCode_52 (am_lt rfl) ?_
      refine ev_iload dX12_readCode_54 rfl ?_
      refine ev_reg (cs' := 0) (sl' := 0) 69 (fun t9 : (Nat → Nat → Int32) => [none, none, none, none, some (.int t6.1)]) (fun t9 => []) (fun t9 => (t9, S.2)) (fun hJ9 => ?_) (fun t9 => ?_)
      · refine ev_eq am_ib ?_
        refine ev_if_lt (tgt := 69) dX12_readCode_56 (by decide) (fun c9 => ?_) (fun c9 => ?_)
        · exact ev_leaf (am_wf (am_wf (am_wf (am_wf (am_wk am_wn))))) (hJ9 t6.2)
        · refine ev_aload_n dX12_readCode_59 rfl ?_
          refine ev_iload_n dX12_readCode_60 rfl ?_
          refine ev_iconst (v := 5) dX12_readCode_61 (by decide) ?_
          refine ev_iload_n dX12_readCode_62 rfl ?_
          refine ev_iadd dX12_readCode_63 ?_
          refine ev_iload dX12_readCode_64 rfl ?_
          refine ev_eq (Option.bind_assoc _ _ _) ?_
          refine ev_callWV (am_callV (as := [.int y2.1, .int (5 + t3.1), .int t6.1]) (o := p0) (st := []) cv_X12_137 dX12_readCode_66 kp0 rfl (am_le rfl) (am_fit (by omega) (by decide) (by decide) (by decide)) (t_X12_sets hl kp0)) (fun σ10 h10 => ?_)
          exact ev_leaf (am_wf (am_wf (am_wf (am_wf (am_wk am_wn))))) (hJ9 σ10)
      · refine ev_iload dX12_readCode_69 rfl ?_
        refine ev_if_lt (tgt := 78) dX12_readCode_71 (by decide) (fun c11 => ?_) (fun c11 => ?_)
        · refine ev_iconst (v := 0) dX12_readCode_78 (by decide) ?_
          exact ev_iret dX12_readCode_79 rfl (by decide) (by decide) (by decide) rfl
        · refine ev_iconst (v := 1) dX12_readCode_74 (by decide) ?_
          refine ev_goto (tgt := 79) dX12_readCode_75 (by decide) ?_
          exact ev_iret dX12_readCode_79 rfl (by decide) (by decide) (by decide) rfl
