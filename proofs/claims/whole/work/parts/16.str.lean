/-! length and charAt of the texts that the code reads -/
theorem cm_J0_coder : Cond.code yJ0_coder_7d493 cJ0_coder_7d493 1 (some .byte) ∈ am_G := am_G_t (i := 581) (by decide +kernel) rfl
theorem im_J0_coder : Cond.instanceMethod yJ0_coder_7d493 ∈ am_G := am_G_t (i := 579) (by decide +kernel) rfl
theorem se_J0_coder : Cond.selects yJ0_coder_7d493.cls yJ0_coder_7d493 yJ0_coder_7d493 ∈ am_G := am_G_t (i := 580) (by decide +kernel) rfl
theorem cv_J0_335 : am_cvS RJ0 335 yJ0_coder_7d493 cJ0_coder_7d493 1 (some .byte) 0 := ⟨rfl, cm_J0_coder, am_G_t (i := 578) (by decide +kernel) rfl, im_J0_coder, se_J0_coder, in_J0, ⟨by decide, by decide, by decide +kernel⟩⟩
theorem cm_J0_isLatin1 : Cond.code yJ0_isLatin1_aae02 cJ0_isLatin1_aae02 1 (some .boolean) ∈ am_G := am_G_t (i := 591) (by decide +kernel) rfl
theorem im_J0_isLatin1 : Cond.instanceMethod yJ0_isLatin1_aae02 ∈ am_G := am_G_t (i := 589) (by decide +kernel) rfl
theorem se_J0_isLatin1 : Cond.selects yJ0_isLatin1_aae02.cls yJ0_isLatin1_aae02 yJ0_isLatin1_aae02 ∈ am_G := am_G_t (i := 590) (by decide +kernel) rfl
theorem cv_J0_492 : am_cvS RJ0 492 yJ0_isLatin1_aae02 cJ0_isLatin1_aae02 1 (some .boolean) 0 := ⟨rfl, cm_J0_isLatin1, am_G_t (i := 588) (by decide +kernel) rfl, im_J0_isLatin1, se_J0_isLatin1, in_J0, ⟨by decide, by decide, by decide +kernel⟩⟩
theorem ct_J0_495 : am_cs RJ0 495 yJ1_charAt_3b067 cJ1_charAt_3b067 2 (some .char) 2 := ⟨am_G_t (i := 594) (by decide +kernel) rfl, am_G_t (i := 592) (by decide +kernel) rfl, am_G_t (i := 593) (by decide +kernel) rfl, am_G_t (i := 17) (by decide +kernel) rfl, ⟨by decide, by decide, by decide +kernel⟩⟩
theorem ct_J1_9 : am_cs RJ1 9 yJ0_checkIndex_df160 cJ0_checkIndex_df160 2 none 2 := ⟨am_G_t (i := 597) (by decide +kernel) rfl, am_G_t (i := 595) (by decide +kernel) rfl, am_G_t (i := 596) (by decide +kernel) rfl, in_J0, ⟨by decide, by decide, by decide +kernel⟩⟩
theorem ct_J0_1059 : am_cs RJ0 1059 yJ3_checkIndex_8e157 cJ3_checkIndex_8e157 3 (some .int) 3 := ⟨am_G_t (i := 602) (by decide +kernel) rfl, am_G_t (i := 600) (by decide +kernel) rfl, am_G_t (i := 601) (by decide +kernel) rfl, am_G_t (i := 18) (by decide +kernel) rfl, ⟨by decide, by decide, by decide +kernel⟩⟩
theorem t_J0_coder {E : am_E} {l : Launch} (hl : l.stackTraces = false) {S : am_S} {i : Nat} (hi : i < am_nS) : am_M E l yJ0_coder_7d493 (.code yJ0_coder_7d493 cJ0_coder_7d493 1 (some .byte)) 0 0 0 [.ref (1000 + i)] S ((some (0 : Int32)).map (fun (v : Int32) => ((.inl (some (.int v)), S) : am_R))) := by
  refine am_M_of (w := fun (v : Int32) => ((.inl (some (.int v)), S) : am_R)) hl (by decide) (am_fc rfl am_fn) (Nat.le_of_ble_eq_true rfl) ?_
  show am_Ev E l (RJ0, cJ0_coder_7d493, 1, some .byte, [], am_rm 0 0 0) (fun b a s x => am_Z E 0 0 b a s ((fun (v : Int32) => ((.inl (some (.int v)), S) : am_R)) x)) 0 0 0 [some (.ref (1000 + i))] [] S (some (0 : Int32))
  refine ev_sgetK dJ0_coder_7d493_0 (am_G_t (i := 582) (by decide +kernel) rfl) ?_
  refine ev_eq (show (some (0 : Int32)) = if (1 : Int32) = 0 then some (0 : Int32) else some (0 : Int32) by rfl) ?_
  refine ev_if_eq (tgt := 13) dJ0_coder_7d493_3 (by decide) (fun c => absurd c (by decide)) (fun _ => ?_)
  refine ev_aload_n dJ0_coder_7d493_6 rfl ?_
  refine ev_sgetC hi dJ0_coder_7d493_7 (am_G_t (i := 1968) (by decide +kernel) rfl) ?_
  refine ev_goto (tgt := 14) dJ0_coder_7d493_10 (by decide) ?_
  exact ev_iret dJ0_coder_7d493_14 rfl (by decide) (by decide) (by decide) rfl
theorem t_J0_isLatin1 {E : am_E} {l : Launch} (hl : l.stackTraces = false) {S : am_S} {i : Nat} (hi : i < am_nS) : am_M E l yJ0_isLatin1_aae02 (.code yJ0_isLatin1_aae02 cJ0_isLatin1_aae02 1 (some .boolean)) 0 0 0 [.ref (1000 + i)] S ((some (1 : Int32)).map (fun (v : Int32) => ((.inl (some (.int v)), S) : am_R))) := by
  refine am_M_of (w := fun (v : Int32) => ((.inl (some (.int v)), S) : am_R)) hl (by decide) (am_fc rfl am_fn) (Nat.le_of_ble_eq_true rfl) ?_
  show am_Ev E l (RJ0, cJ0_isLatin1_aae02, 1, some .boolean, [], am_rm 0 0 0) (fun b a s x => am_Z E 0 0 b a s ((fun (v : Int32) => ((.inl (some (.int v)), S) : am_R)) x)) 0 0 0 [some (.ref (1000 + i))] [] S (some (1 : Int32))
  refine ev_sgetK dJ0_isLatin1_aae02_0 (am_G_t (i := 582) (by decide +kernel) rfl) ?_
  refine ev_eq (show (some (1 : Int32)) = if (1 : Int32) = 0 then some (1 : Int32) else some (1 : Int32) by rfl) ?_
  refine ev_if_eq (tgt := 17) dJ0_isLatin1_aae02_3 (by decide) (fun c => absurd c (by decide)) (fun _ => ?_)
  refine ev_aload_n dJ0_isLatin1_aae02_6 rfl ?_
  refine ev_sgetC hi dJ0_isLatin1_aae02_7 (am_G_t (i := 1968) (by decide +kernel) rfl) ?_
  refine ev_eq (show (some (1 : Int32)) = if (0 : Int32) = 0 then some (1 : Int32) else some (1 : Int32) by rfl) ?_
  refine ev_if_ne (tgt := 17) dJ0_isLatin1_aae02_10 (by decide) (fun c => absurd rfl c) (fun _ => ?_)
  refine ev_iconst (v := 1) dJ0_isLatin1_aae02_13 (by decide) ?_
  refine ev_goto (tgt := 18) dJ0_isLatin1_aae02_14 (by decide) ?_
  exact ev_iret dJ0_isLatin1_aae02_18 rfl (by decide) (by decide) (by decide) rfl
def f_J3_checkIndex (i n : Int32) : Option Int32 := if i < 0 then none else if i < n then some i else none
theorem t_J3_checkIndex {E : am_E} {l : Launch} (hl : l.stackTraces = false) {S : am_S} {i n : Int32} {v : Value} (hv : v = .null ∨ v = .ref 950) : am_M E l yJ3_checkIndex_8e157 (.code yJ3_checkIndex_8e157 cJ3_checkIndex_8e157 3 (some .int)) 0 0 0 [.int i, .int n, v] S ((f_J3_checkIndex i n).map (fun (v : Int32) => ((.inl (some (.int v)), S) : am_R))) := by
  refine am_M_of (w := fun (v : Int32) => ((.inl (some (.int v)), S) : am_R)) hl (by decide) (am_fc rfl (am_fc rfl (am_fc (by rcases hv with h | h <;> rw [h] <;> rfl) am_fn))) (Nat.le_of_ble_eq_true rfl) ?_
  show am_Ev E l (RJ3, cJ3_checkIndex_8e157, 3, some .int, [], am_rm 0 0 0) (fun b a s x => am_Z E 0 0 b a s ((fun (v : Int32) => ((.inl (some (.int v)), S) : am_R)) x)) 0 0 0 [some (.int i), some (.int n), some v] [] S (f_J3_checkIndex i n)
  unfold f_J3_checkIndex
  refine ev_iload_n dJ3_checkIndex_8e157_0 rfl ?_
  refine ev_if_lt (tgt := 9) dJ3_checkIndex_8e157_1 (by decide) (fun _ => ev_none) (fun _ => ?_)
  refine ev_iload_n dJ3_checkIndex_8e157_4 rfl ?_
  refine ev_iload_n dJ3_checkIndex_8e157_5 rfl ?_
  refine ev_icmp_lt (tgt := 16) dJ3_checkIndex_8e157_6 (by decide) (fun _ => ?_) (fun _ => ev_none)
  refine ev_iload_n dJ3_checkIndex_8e157_16 rfl ?_
  exact ev_iret dJ3_checkIndex_8e157_17 rfl rfl (by decide) (by decide) rfl
def f_J0_checkIndex (S : am_S) (i n : Int32) : Option (Nat → Nat → Int32) := (f_J3_checkIndex i n).bind (fun _ => some S.1)
theorem t_J0_checkIndex {E : am_E} {l : Launch} (hl : l.stackTraces = false) {S : am_S} {i n : Int32} : am_M E l yJ0_checkIndex_df160 (.code yJ0_checkIndex_df160 cJ0_checkIndex_df160 2 none) 1 0 0 [.int i, .int n] S ((f_J0_checkIndex S i n).map (fun (x : Nat → Nat → Int32) => ((.inl none, (x, S.2)) : am_R))) := by
  refine am_M_of (w := fun (x : Nat → Nat → Int32) => ((.inl none, (x, S.2)) : am_R)) hl (by decide) (am_fc rfl (am_fc rfl am_fn)) (Nat.le_of_ble_eq_true rfl) ?_
  show am_Ev E l (RJ0, cJ0_checkIndex_df160, 2, none, [], am_rm 1 0 0) (fun b a s x => am_Z E 0 0 b a s ((fun (x : Nat → Nat → Int32) => ((.inl none, (x, S.2)) : am_R)) x)) 0 0 0 [some (.int i), some (.int n)] [] S (f_J0_checkIndex S i n)
  unfold f_J0_checkIndex
  refine ev_iload_n dJ0_checkIndex_df160_0 rfl ?_
  refine ev_iload_n dJ0_checkIndex_df160_1 rfl ?_
  refine ev_sgetF dJ0_checkIndex_df160_2 (am_G_t (i := 598) (by decide +kernel) rfl) (fun v hv => ?_)
  refine ev_callP (am_callS (as := [.int i, .int n, v]) (st := []) ct_J0_1059 dJ0_checkIndex_df160_5 rfl (am_le rfl) (am_fit (by omega) (by decide) (by decide) (by decide)) (t_J3_checkIndex hl hv)) (fun x hx => ?_)
  refine ev_pop dJ0_checkIndex_df160_8 rfl ?_
  exact ev_vret dJ0_checkIndex_df160_9 rfl (by decide) (by decide) rfl
theorem am_ascii : ∀ k, k < am_nS → ∀ j, j < am_lens.getD k 0 → ((((am_byts.getD k []).getD j 0) &&& 255).toUInt32 % 65536).toInt32 = (am_byts.getD k []).getD j 0 := by decide +kernel
theorem am_asc_c : ∀ k, k < am_nS → ∀ j, j < am_lens.getD k 0 → narrow .char (.int ((am_byts.getD k []).getD j 0)) = .int ((am_byts.getD k []).getD j 0) := by decide +kernel
theorem am_len_sh : ∀ k, k < am_nS → Int32.ofNat (am_lens.getD k 0) >>> ((0 : Int32) &&& 31) = Int32.ofNat (am_lens.getD k 0) := by decide +kernel
theorem am_len_lt : ∀ k, k < am_nS → am_lens.getD k 0 < 100 := by decide +kernel
theorem am_chk {i : Int32} {n : Nat} (hn : n < 100) (h : ¬ (i < 0 ∨ n ≤ i.toNatClampNeg)) : f_J3_checkIndex i (Int32.ofNat n) = some i := by
  unfold f_J3_checkIndex
  have h1 : ¬ i < 0 := fun q => h (Or.inl q)
  have h2 : i.toNatClampNeg < n := Nat.not_le.mp (fun q => h (Or.inr q))
  rw [if_neg h1, if_pos]
  rw [Int32.lt_iff_toInt_lt] at h1 ⊢
  rw [Int32.toInt_ofNat_of_lt (by omega)]
  have h3 : (0 : Int32).toInt = 0 := rfl
  rw [h3] at h1
  have h4 : i.toNatClampNeg = i.toInt.toNat := rfl
  omega
/-- charAt of the bytes -/
def f_J1_charAt (o : Nat) (i : Int32) : Option Int32 := if ¬ (i < 0 ∨ am_lens.getD o 0 ≤ i.toNatClampNeg) then some ((am_byts.getD o []).getD i.toNatClampNeg 0) else none
theorem t_J1_charAt {E : am_E} {l : Launch} (hl : l.stackTraces = false) {S : am_S} {k : Nat} {i : Int32} (hk : k < am_nS) : am_M E l yJ1_charAt_3b067 (.code yJ1_charAt_3b067 cJ1_charAt_3b067 2 (some .char)) 2 0 0 [.ref (2000 + k), .int i] S ((f_J1_charAt k i).map (fun (v : Int32) => ((.inl (some (.int v)), S) : am_R))) := by
  refine am_M_of (w := fun (v : Int32) => ((.inl (some (.int v)), S) : am_R)) hl (by decide) (am_fc rfl (am_fc rfl am_fn)) (Nat.le_of_ble_eq_true rfl) ?_
  show am_Ev E l (RJ1, cJ1_charAt_3b067, 2, some .char, [], am_rm 2 0 0) (fun b a s x => am_Z E 0 0 b a s ((fun (v : Int32) => ((.inl (some (.int v)), S) : am_R)) x)) 0 0 0 [some (.ref (2000 + k)), some (.int i)] [] S (f_J1_charAt k i)
  unfold f_J1_charAt
  by_cases hin : ¬ (i < 0 ∨ am_lens.getD k 0 ≤ i.toNatClampNeg)
  · rw [if_pos hin]
    have hlt : i.toNatClampNeg < am_lens.getD k 0 := Nat.not_le.mp fun q => hin (Or.inr q)
    refine ev_iload_n dJ1_charAt_3b067_0 rfl ?_
    refine ev_aload_n dJ1_charAt_3b067_1 rfl ?_
    refine ev_sblen hk dJ1_charAt_3b067_2 ?_
    refine ev_eq (show some ((am_byts.getD k []).getD i.toNatClampNeg 0) = (f_J0_checkIndex S i (Int32.ofNat (am_lens.getD k 0))).bind (fun _ => some ((am_byts.getD k []).getD i.toNatClampNeg 0)) by unfold f_J0_checkIndex; rw [am_chk (am_len_lt k hk) hin]; rfl) ?_
    refine ev_callWV (am_callS (as := [.int i, .int (Int32.ofNat (am_lens.getD k 0))]) (st := []) ct_J1_9 dJ1_charAt_3b067_3 rfl (am_le rfl) (am_fit (by omega) (by decide) (by decide) (by decide)) (t_J0_checkIndex hl)) (fun x hx => ?_)
    have hx2 : x = S.1 := by
      unfold f_J0_checkIndex at hx
      rw [am_chk (am_len_lt k hk) hin] at hx
      exact (Option.some.inj hx).symm
    subst hx2
    refine ev_aload_n dJ1_charAt_3b067_6 rfl ?_
    refine ev_iload_n dJ1_charAt_3b067_7 rfl ?_
    refine ev_sbald hk hin dJ1_charAt_3b067_8 ?_
    refine ev_sipush (v := 255) dJ1_charAt_3b067_9 (by decide) ?_
    refine ev_iand dJ1_charAt_3b067_12 ?_
    refine ev_i2c dJ1_charAt_3b067_13 ?_
    rw [am_ascii k hk _ hlt]
    exact ev_iret dJ1_charAt_3b067_14 rfl (am_asc_c k hk _ hlt) (by decide) (by decide) rfl
  · rw [if_neg hin]; exact ev_none
theorem t_J0_length_8abf5 {E : am_E} {l : Launch} (hl : l.stackTraces = false) {S : am_S} {o : Nat} : am_M E l yJ0_length_8abf5 (.code yJ0_length_8abf5 cJ0_length_8abf5 1 (some .int)) 4 0 0 [.ref o] S ((f_J0_length_8abf5 o).map (fun (v : Int32) => ((.inl (some (.int v)), S) : am_R))) := by
  refine am_M_of (w := fun (v : Int32) => ((.inl (some (.int v)), S) : am_R)) hl (by decide) (am_fc rfl am_fn) (Nat.le_of_ble_eq_true rfl) ?_
  show am_Ev E l (RJ0, cJ0_length_8abf5, 1, some .int, [], am_rm 4 0 0) (fun b a s x => am_Z E 0 0 b a s ((fun (v : Int32) => ((.inl (some (.int v)), S) : am_R)) x)) 0 0 0 [some (.ref o)] [] S (f_J0_length_8abf5 o)
  unfold f_J0_length_8abf5
  by_cases hin : 1000 ≤ o ∧ o < 1000 + am_nS
  · rw [if_pos hin]
    obtain ⟨i, hi, rfl⟩ : ∃ i, i < am_nS ∧ o = 1000 + i := ⟨o - 1000, by omega, by omega⟩
    rw [Nat.add_sub_cancel_left]
    refine ev_aload_n dJ0_length_8abf5_0 rfl ?_
    refine ev_sgetV hi dJ0_length_8abf5_1 (am_G_t (i := 1967) (by decide +kernel) rfl) ?_
    refine ev_sblen hi dJ0_length_8abf5_4 ?_
    refine ev_aload_n dJ0_length_8abf5_5 rfl ?_
    refine ev_eq (show some (Int32.ofNat (am_lens.getD i 0)) = (some (0 : Int32)).bind (fun _ => some (Int32.ofNat (am_lens.getD i 0))) from rfl) ?_
    refine ev_callP (am_callVS (as := []) (o := 1000 + i) (st := [.int (Int32.ofNat (am_lens.getD i 0))]) cv_J0_335 dJ0_length_8abf5_6 rfl (am_le rfl) (am_fit (by omega) (by decide) (by decide) (by decide)) (fun _ _ => ⟨i, hi, rfl⟩) (t_J0_coder hl hi)) (fun x hx => ?_)
    cases hx
    refine ev_ishr dJ0_length_8abf5_9 ?_
    rw [am_len_sh i hi]
    exact ev_iret dJ0_length_8abf5_10 rfl rfl (by decide) (by decide) rfl
  · rw [if_neg hin]; exact ev_none
theorem t_J0_charAt_5068e {E : am_E} {l : Launch} (hl : l.stackTraces = false) {S : am_S} {o : Nat} {j : Int32} : am_M E l yJ0_charAt_5068e (.code yJ0_charAt_5068e cJ0_charAt_5068e 2 (some .char)) 4 0 0 [.ref o, .int j] S ((f_J0_charAt_5068e o j).map (fun (v : Int32) => ((.inl (some (.int v)), S) : am_R))) := by
  refine am_M_of (w := fun (v : Int32) => ((.inl (some (.int v)), S) : am_R)) hl (by decide) (am_fc rfl (am_fc rfl am_fn)) (Nat.le_of_ble_eq_true rfl) ?_
  show am_Ev E l (RJ0, cJ0_charAt_5068e, 2, some .char, [], am_rm 4 0 0) (fun b a s x => am_Z E 0 0 b a s ((fun (v : Int32) => ((.inl (some (.int v)), S) : am_R)) x)) 0 0 0 [some (.ref o), some (.int j)] [] S (f_J0_charAt_5068e o j)
  unfold f_J0_charAt_5068e
  by_cases hin : 1000 ≤ o ∧ o < 1000 + am_nS ∧ ¬ (j < 0 ∨ am_lens.getD (o - 1000) 0 ≤ j.toNatClampNeg)
  · rw [if_pos hin]
    obtain ⟨i, hi, rfl⟩ : ∃ i, i < am_nS ∧ o = 1000 + i := ⟨o - 1000, by omega, by omega⟩
    rw [Nat.add_sub_cancel_left] at hin ⊢
    have hlt : j.toNatClampNeg < am_lens.getD i 0 := Nat.not_le.mp fun q => hin.2.2 (Or.inr q)
    refine ev_aload_n dJ0_charAt_5068e_0 rfl ?_
    refine ev_eq (show some ((am_byts.getD i []).getD j.toNatClampNeg 0) = (some (1 : Int32)).bind (fun _ => some ((am_byts.getD i []).getD j.toNatClampNeg 0)) from rfl) ?_
    refine ev_callP (am_callVS (as := []) (o := 1000 + i) (st := []) cv_J0_492 dJ0_charAt_5068e_1 rfl (am_le rfl) (am_fit (by omega) (by decide) (by decide) (by decide)) (fun _ _ => ⟨i, hi, rfl⟩) (t_J0_isLatin1 hl hi)) (fun x hx => ?_)
    cases hx
    refine ev_eq (show some ((am_byts.getD i []).getD j.toNatClampNeg 0) = if (1 : Int32) = 0 then some ((am_byts.getD i []).getD j.toNatClampNeg 0) else some ((am_byts.getD i []).getD j.toNatClampNeg 0) from rfl) ?_
    refine ev_if_eq (tgt := 16) dJ0_charAt_5068e_4 (by decide) (fun c => absurd c (by decide)) (fun _ => ?_)
    refine ev_aload_n dJ0_charAt_5068e_7 rfl ?_
    refine ev_sgetV hi dJ0_charAt_5068e_8 (am_G_t (i := 1967) (by decide +kernel) rfl) ?_
    refine ev_iload_n dJ0_charAt_5068e_11 rfl ?_
    have hf : f_J1_charAt i j = some ((am_byts.getD i []).getD j.toNatClampNeg 0) := by unfold f_J1_charAt; rw [if_pos hin.2.2]
    refine ev_eq (show some ((am_byts.getD i []).getD j.toNatClampNeg 0) = (f_J1_charAt i j).bind (fun v => some v) by rw [hf]; rfl) ?_
    refine ev_callP (am_callS (as := [.ref (2000 + i), .int j]) (st := []) ct_J0_495 dJ0_charAt_5068e_12 rfl (am_le rfl) (am_fit (by omega) (by decide) (by decide) (by decide)) (t_J1_charAt hl hi)) (fun x hx => ?_)
    have hx2 : (am_byts.getD i []).getD j.toNatClampNeg 0 = x := Option.some.inj (hf.symm.trans hx)
    exact ev_iret dJ0_charAt_5068e_15 rfl (by rw [← hx2]; exact am_asc_c i hi _ hlt) (by decide) (by decide) rfl
  · rw [if_neg hin]; exact ev_none
