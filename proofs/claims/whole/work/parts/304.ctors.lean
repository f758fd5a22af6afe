theorem it_X11 : Cond.instantiable RX11 16 ∈ am_G := am_G_t (i := 30) (by decide +kernel) rfl
theorem dv_X11 : ∀ j, j < 16 → defaultValue (tyX11 j) = if am_rf 11 j = true then Value.null else Value.int 0 := by decide +kernel
theorem it_X9 : Cond.instantiable RX9 16 ∈ am_G := am_G_t (i := 38) (by decide +kernel) rfl
theorem dv_X9 : ∀ j, j < 16 → defaultValue (tyX9 j) = if am_rf 9 j = true then Value.null else Value.int 0 := by decide +kernel
theorem it_X1 : Cond.instantiable RX1 8 ∈ am_G := am_G_t (i := 44) (by decide +kernel) rfl
theorem dv_X1 : ∀ j, j < 8 → defaultValue (tyX1 j) = if am_rf 1 j = true then Value.null else Value.int 0 := by decide +kernel
theorem cm_X1_init : Cond.code yX1_init cX1_init 1 none ∈ am_G := am_G_t (i := 47) (by decide +kernel) rfl
theorem im_X1_init : Cond.instanceMethod yX1_init ∈ am_G := am_G_t (i := 46) (by decide +kernel) rfl
theorem it_X6 : Cond.instantiable RX6 9 ∈ am_G := am_G_t (i := 79) (by decide +kernel) rfl
theorem dv_X6 : ∀ j, j < 9 → defaultValue (tyX6 j) = if am_rf 6 j = true then Value.null else Value.int 0 := by decide +kernel
theorem cm_X6_init : Cond.code yX6_init cX6_init 1 none ∈ am_G := am_G_t (i := 82) (by decide +kernel) rfl
theorem im_X6_init : Cond.instanceMethod yX6_init ∈ am_G := am_G_t (i := 81) (by decide +kernel) rfl
theorem cm_X9_init : Cond.code yX9_init cX9_init 2 none ∈ am_G := am_G_t (i := 41) (by decide +kernel) rfl
theorem im_X9_init : Cond.instanceMethod yX9_init ∈ am_G := am_G_t (i := 40) (by decide +kernel) rfl
theorem it_X10 : Cond.instantiable RX10 1 ∈ am_G := am_G_t (i := 199) (by decide +kernel) rfl
theorem dv_X10 : ∀ j, j < 1 → defaultValue (tyX10 j) = if am_rf 10 j = true then Value.null else Value.int 0 := by decide +kernel
theorem it_X4 : Cond.instantiable RX4 6 ∈ am_G := am_G_t (i := 205) (by decide +kernel) rfl
theorem dv_X4 : ∀ j, j < 6 → defaultValue (tyX4 j) = if am_rf 4 j = true then Value.null else Value.int 0 := by decide +kernel
theorem cm_X4_init : Cond.code yX4_init cX4_init 1 none ∈ am_G := am_G_t (i := 208) (by decide +kernel) rfl
theorem im_X4_init : Cond.instanceMethod yX4_init ∈ am_G := am_G_t (i := 207) (by decide +kernel) rfl
theorem cm_X10_init : Cond.code yX10_init cX10_init 1 none ∈ am_G := am_G_t (i := 202) (by decide +kernel) rfl
theorem im_X10_init : Cond.instanceMethod yX10_init ∈ am_G := am_G_t (i := 201) (by decide +kernel) rfl
theorem it_X2 : Cond.instantiable RX2 1 ∈ am_G := am_G_t (i := 236) (by decide +kernel) rfl
theorem dv_X2 : ∀ j, j < 1 → defaultValue (tyX2 j) = if am_rf 2 j = true then Value.null else Value.int 0 := by decide +kernel
theorem cm_X2_init : Cond.code yX2_init cX2_init 1 none ∈ am_G := am_G_t (i := 239) (by decide +kernel) rfl
theorem im_X2_init : Cond.instanceMethod yX2_init ∈ am_G := am_G_t (i := 238) (by decide +kernel) rfl
theorem it_X7 : Cond.instantiable RX7 2 ∈ am_G := am_G_t (i := 248) (by decide +kernel) rfl
theorem dv_X7 : ∀ j, j < 2 → defaultValue (tyX7 j) = if am_rf 7 j = true then Value.null else Value.int 0 := by decide +kernel
theorem cm_X7_init : Cond.code yX7_init cX7_init 1 none ∈ am_G := am_G_t (i := 251) (by decide +kernel) rfl
theorem im_X7_init : Cond.instanceMethod yX7_init ∈ am_G := am_G_t (i := 250) (by decide +kernel) rfl
theorem it_X5 : Cond.instantiable RX5 3 ∈ am_G := am_G_t (i := 262) (by decide +kernel) rfl
theorem dv_X5 : ∀ j, j < 3 → defaultValue (tyX5 j) = if am_rf 5 j = true then Value.null else Value.int 0 := by decide +kernel
theorem cm_X5_init : Cond.code yX5_init cX5_init 1 none ∈ am_G := am_G_t (i := 265) (by decide +kernel) rfl
theorem im_X5_init : Cond.instanceMethod yX5_init ∈ am_G := am_G_t (i := 264) (by decide +kernel) rfl
theorem it_X8 : Cond.instantiable RX8 7 ∈ am_G := am_G_t (i := 278) (by decide +kernel) rfl
theorem dv_X8 : ∀ j, j < 7 → defaultValue (tyX8 j) = if am_rf 8 j = true then Value.null else Value.int 0 := by decide +kernel
theorem cm_X8_init : Cond.code yX8_init cX8_init 1 none ∈ am_G := am_G_t (i := 281) (by decide +kernel) rfl
theorem im_X8_init : Cond.instanceMethod yX8_init ∈ am_G := am_G_t (i := 280) (by decide +kernel) rfl
theorem it_X0 : Cond.instantiable RX0 8 ∈ am_G := am_G_t (i := 308) (by decide +kernel) rfl
theorem dv_X0 : ∀ j, j < 8 → defaultValue (tyX0 j) = if am_rf 0 j = true then Value.null else Value.int 0 := by decide +kernel
theorem cm_X0_init : Cond.code yX0_init cX0_init 1 none ∈ am_G := am_G_t (i := 311) (by decide +kernel) rfl
theorem im_X0_init : Cond.instanceMethod yX0_init ∈ am_G := am_G_t (i := 310) (by decide +kernel) rfl
theorem it_X3 : Cond.instantiable RX3 9 ∈ am_G := am_G_t (i := 341) (by decide +kernel) rfl
theorem dv_X3 : ∀ j, j < 9 → defaultValue (tyX3 j) = if am_rf 3 j = true then Value.null else Value.int 0 := by decide +kernel
theorem cm_X3_init : Cond.code yX3_init cX3_init 1 none ∈ am_G := am_G_t (i := 344) (by decide +kernel) rfl
theorem im_X3_init : Cond.instanceMethod yX3_init ∈ am_G := am_G_t (i := 343) (by decide +kernel) rfl
theorem it_X12 : Cond.instantiable RX12 28 ∈ am_G := am_G_t (i := 1409) (by decide +kernel) rfl
theorem dv_X12 : ∀ j, j < 28 → defaultValue (tyX12 j) = if am_rf 12 j = true then Value.null else Value.int 0 := by decide +kernel
theorem cm_X11_init : Cond.code yX11_init cX11_init 1 none ∈ am_G := am_G_t (i := 33) (by decide +kernel) rfl
theorem im_X11_init : Cond.instanceMethod yX11_init ∈ am_G := am_G_t (i := 32) (by decide +kernel) rfl
theorem cm_X12_init : Cond.code yX12_init cX12_init 1 none ∈ am_G := am_G_t (i := 1412) (by decide +kernel) rfl
theorem im_X12_init : Cond.instanceMethod yX12_init ∈ am_G := am_G_t (i := 1411) (by decide +kernel) rfl
def cu_X1_11 : List cn_U := (((((([] ++ [(11, 0, .inl (-1))]) ++ [(11, 2, .inr 12)]) ++ [(11, 3, .inr 13)]) ++ [(11, 4, .inr 14)]) ++ [(11, 5, .inr 15)]) ++ [(11, 6, .inr 16)])
set_option maxRecDepth 20000 in
theorem tn_X1_11 {E : am_E} {l : Launch} (hl : l.stackTraces = false) {S : am_S} (hdf : cn_df S 11) : cn_M E l yX1_init (.code yX1_init cX1_init 1 none) 0 5 469 11 12 S 17 (cn_ups S cu_X1_11) := by
  refine cn_M_of (by decide) rfl (by decide) ?_
  show cn_Ev E l cn_K0 (RX1, cX1_init, 1, none, [], am_rm 0 5 469) (fun below args s => MQ below (cn_Q E 17 (cn_ups S cu_X1_11)) args s 5 469 (am_A E)) 0 0 0 [some (.ref 11)] [] 12 (cn_ups S [])
  refine cn_aload_n dX1_init_0 rfl ?_
  refine cn_obj dX1_init_1 (am_G_t (i := 48) (by decide +kernel) rfl) ⟨by decide, by decide⟩ (am_le rfl) ?_
  refine cn_aload_n dX1_init_4 rfl ?_
  refine cn_iconst (v := (-1)) dX1_init_5 (by decide) ?_
  refine cn_putI fk_X1_9 tyX1 tyX1_ok nmX1 (fun _ => ⟨fun _ _ _ h => h, rfl⟩) (by decide +kernel) (by decide) dX1_init_6 (by decide) (by decide) (by decide) ?_
  rw [cn_ups_I]
  refine cn_aload_n dX1_init_9 rfl ?_
  refine cn_bipush (v := 12) dX1_init_10 (by decide) ?_
  refine cn_newa (t := 1) (N := 12) (ty := .int) rfl (am_G_t (i := 76) (by decide +kernel) rfl) (fun _ => rfl) (fun _ _ h => h) (by decide) (by decide) (fun E S h0 H h => cn_ent_i (by decide) (by decide) h0 h) (by decide) (by decide) (by decide) (fun j => ((cn_df_ups _ S hdf (by decide) (by decide +kernel)) 12 (Nat.le_refl _) j).1) ⟨by decide, by decide⟩ dX1_init_12 ?_
  refine cn_putR (ty := (.array .int)) rfl rfl fk_X1_15 tyX1 tyX1_ok nmX1 (fun _ => ⟨fun _ _ _ h => h, rfl⟩) (by decide +kernel) (by decide) dX1_init_14 (by decide) (by decide) (by decide) ?_
  rw [cn_ups_R]
  refine cn_aload_n dX1_init_17 rfl ?_
  refine cn_bipush (v := 12) dX1_init_18 (by decide) ?_
  refine cn_newa (t := 1) (N := 12) (ty := .int) rfl (am_G_t (i := 76) (by decide +kernel) rfl) (fun _ => rfl) (fun _ _ h => h) (by decide) (by decide) (fun E S h0 H h => cn_ent_i (by decide) (by decide) h0 h) (by decide) (by decide) (by decide) (fun j => ((cn_df_ups _ S hdf (by decide) (by decide +kernel)) 13 (Nat.le_refl _) j).1) ⟨by decide, by decide⟩ dX1_init_20 ?_
  refine cn_putR (ty := (.array .int)) rfl rfl fk_X1_19 tyX1 tyX1_ok nmX1 (fun _ => ⟨fun _ _ _ h => h, rfl⟩) (by decide +kernel) (by decide) dX1_init_22 (by decide) (by decide) (by decide) ?_
  rw [cn_ups_R]
  refine cn_aload_n dX1_init_25 rfl ?_
  refine cn_sipush (v := 400) dX1_init_26 (by decide) ?_
  refine cn_newa (t := 3) (N := 400) (ty := .short) rfl (am_G_t (i := 77) (by decide +kernel) rfl) (fun _ => rfl) (fun _ _ h => h) (by decide) (by decide) (fun E S h0 H h => cn_ent_s (by decide) (by decide) h0 h) (by decide) (by decide) (by decide) (fun j => ((cn_df_ups _ S hdf (by decide) (by decide +kernel)) 14 (Nat.le_refl _) j).1) ⟨by decide, by decide⟩ dX1_init_29 ?_
  refine cn_putR (ty := (.array .short)) rfl rfl fk_X1_22 tyX1 tyX1_ok nmX1 (fun _ => ⟨fun _ _ _ h => h, rfl⟩) (by decide +kernel) (by decide) dX1_init_31 (by decide) (by decide) (by decide) ?_
  rw [cn_ups_R]
  refine cn_aload_n dX1_init_34 rfl ?_
  refine cn_iconst (v := 5) dX1_init_35 (by decide) ?_
  refine cn_newa (t := 1) (N := 5) (ty := .int) rfl (am_G_t (i := 76) (by decide +kernel) rfl) (fun _ => rfl) (fun _ _ h => h) (by decide) (by decide) (fun E S h0 H h => cn_ent_i (by decide) (by decide) h0 h) (by decide) (by decide) (by decide) (fun j => ((cn_df_ups _ S hdf (by decide) (by decide +kernel)) 15 (Nat.le_refl _) j).1) ⟨by decide, by decide⟩ dX1_init_36 ?_
  refine cn_putR (ty := (.array .int)) rfl rfl fk_X1_26 tyX1 tyX1_ok nmX1 (fun _ => ⟨fun _ _ _ h => h, rfl⟩) (by decide +kernel) (by decide) dX1_init_38 (by decide) (by decide) (by decide) ?_
  rw [cn_ups_R]
  refine cn_aload_n dX1_init_41 rfl ?_
  refine cn_bipush (v := 40) dX1_init_42 (by decide) ?_
  refine cn_newa (t := 1) (N := 40) (ty := .int) rfl (am_G_t (i := 76) (by decide +kernel) rfl) (fun _ => rfl) (fun _ _ h => h) (by decide) (by decide) (fun E S h0 H h => cn_ent_i (by decide) (by decide) h0 h) (by decide) (by decide) (by decide) (fun j => ((cn_df_ups _ S hdf (by decide) (by decide +kernel)) 16 (Nat.le_refl _) j).1) ⟨by decide, by decide⟩ dX1_init_44 ?_
  refine cn_putR (ty := (.array .int)) rfl rfl fk_X1_29 tyX1 tyX1_ok nmX1 (fun _ => ⟨fun _ _ _ h => h, rfl⟩) (by decide +kernel) (by decide) dX1_init_46 (by decide) (by decide) (by decide) ?_
  rw [cn_ups_R]
  exact cn_vret dX1_init_49 rfl
def cu_X6_17 : List cn_U := (((((([] ++ [(17, 1, .inr 18)]) ++ [(17, 2, .inr 19)]) ++ [(17, 3, .inr 20)]) ++ [(17, 4, .inr 21)]) ++ [(17, 5, .inr 22)]) ++ [(17, 6, .inr 23)])
set_option maxRecDepth 20000 in
theorem tn_X6_17 {E : am_E} {l : Launch} (hl : l.stackTraces = false) {S : am_S} (hdf : cn_df S 17) : cn_M E l yX6_init (.code yX6_init cX6_init 1 none) 0 6 72 17 18 S 24 (cn_ups S cu_X6_17) := by
  refine cn_M_of (by decide) rfl (by decide) ?_
  show cn_Ev E l cn_K0 (RX6, cX6_init, 1, none, [], am_rm 0 6 72) (fun below args s => MQ below (cn_Q E 24 (cn_ups S cu_X6_17)) args s 6 72 (am_A E)) 0 0 0 [some (.ref 17)] [] 18 (cn_ups S [])
  refine cn_aload_n dX6_init_0 rfl ?_
  refine cn_obj dX6_init_1 (am_G_t (i := 83) (by decide +kernel) rfl) ⟨by decide, by decide⟩ (am_le rfl) ?_
  refine cn_aload_n dX6_init_4 rfl ?_
  refine cn_bipush (v := 12) dX6_init_5 (by decide) ?_
  refine cn_newa (t := 1) (N := 12) (ty := .int) rfl (am_G_t (i := 76) (by decide +kernel) rfl) (fun _ => rfl) (fun _ _ h => h) (by decide) (by decide) (fun E S h0 H h => cn_ent_i (by decide) (by decide) h0 h) (by decide) (by decide) (by decide) (fun j => ((cn_df_ups _ S hdf (by decide) (by decide +kernel)) 18 (Nat.le_refl _) j).1) ⟨by decide, by decide⟩ dX6_init_7 ?_
  refine cn_putR (ty := (.array .int)) rfl rfl fk_X6_9 tyX6 tyX6_ok nmX6 (fun _ => ⟨fun _ _ _ h => h, rfl⟩) (by decide +kernel) (by decide) dX6_init_9 (by decide) (by decide) (by decide) ?_
  rw [cn_ups_R]
  refine cn_aload_n dX6_init_12 rfl ?_
  refine cn_bipush (v := 12) dX6_init_13 (by decide) ?_
  refine cn_newa (t := 1) (N := 12) (ty := .int) rfl (am_G_t (i := 76) (by decide +kernel) rfl) (fun _ => rfl) (fun _ _ h => h) (by decide) (by decide) (fun E S h0 H h => cn_ent_i (by decide) (by decide) h0 h) (by decide) (by decide) (by decide) (fun j => ((cn_df_ups _ S hdf (by decide) (by decide +kernel)) 19 (Nat.le_refl _) j).1) ⟨by decide, by decide⟩ dX6_init_15 ?_
  refine cn_putR (ty := (.array .int)) rfl rfl fk_X6_15 tyX6 tyX6_ok nmX6 (fun _ => ⟨fun _ _ _ h => h, rfl⟩) (by decide +kernel) (by decide) dX6_init_17 (by decide) (by decide) (by decide) ?_
  rw [cn_ups_R]
  refine cn_aload_n dX6_init_20 rfl ?_
  refine cn_bipush (v := 12) dX6_init_21 (by decide) ?_
  refine cn_newa (t := 1) (N := 12) (ty := .int) rfl (am_G_t (i := 76) (by decide +kernel) rfl) (fun _ => rfl) (fun _ _ h => h) (by decide) (by decide) (fun E S h0 H h => cn_ent_i (by decide) (by decide) h0 h) (by decide) (by decide) (by decide) (fun j => ((cn_df_ups _ S hdf (by decide) (by decide +kernel)) 20 (Nat.le_refl _) j).1) ⟨by decide, by decide⟩ dX6_init_23 ?_
  refine cn_putR (ty := (.array .int)) rfl rfl fk_X6_18 tyX6 tyX6_ok nmX6 (fun _ => ⟨fun _ _ _ h => h, rfl⟩) (by decide +kernel) (by decide) dX6_init_25 (by decide) (by decide) (by decide) ?_
  rw [cn_ups_R]
  refine cn_aload_n dX6_init_28 rfl ?_
  refine cn_bipush (v := 12) dX6_init_29 (by decide) ?_
  refine cn_newa (t := 1) (N := 12) (ty := .int) rfl (am_G_t (i := 76) (by decide +kernel) rfl) (fun _ => rfl) (fun _ _ h => h) (by decide) (by decide) (fun E S h0 H h => cn_ent_i (by decide) (by decide) h0 h) (by decide) (by decide) (by decide) (fun j => ((cn_df_ups _ S hdf (by decide) (by decide +kernel)) 21 (Nat.le_refl _) j).1) ⟨by decide, by decide⟩ dX6_init_31 ?_
  refine cn_putR (ty := (.array .int)) rfl rfl fk_X6_21 tyX6 tyX6_ok nmX6 (fun _ => ⟨fun _ _ _ h => h, rfl⟩) (by decide +kernel) (by decide) dX6_init_33 (by decide) (by decide) (by decide) ?_
  rw [cn_ups_R]
  refine cn_aload_n dX6_init_36 rfl ?_
  refine cn_bipush (v := 12) dX6_init_37 (by decide) ?_
  refine cn_newa (t := 1) (N := 12) (ty := .int) rfl (am_G_t (i := 76) (by decide +kernel) rfl) (fun _ => rfl) (fun _ _ h => h) (by decide) (by decide) (fun E S h0 H h => cn_ent_i (by decide) (by decide) h0 h) (by decide) (by decide) (by decide) (fun j => ((cn_df_ups _ S hdf (by decide) (by decide +kernel)) 22 (Nat.le_refl _) j).1) ⟨by decide, by decide⟩ dX6_init_39 ?_
  refine cn_putR (ty := (.array .int)) rfl rfl fk_X6_24 tyX6 tyX6_ok nmX6 (fun _ => ⟨fun _ _ _ h => h, rfl⟩) (by decide +kernel) (by decide) dX6_init_41 (by decide) (by decide) (by decide) ?_
  rw [cn_ups_R]
  refine cn_aload_n dX6_init_44 rfl ?_
  refine cn_bipush (v := 12) dX6_init_45 (by decide) ?_
  refine cn_newa (t := 1) (N := 12) (ty := .int) rfl (am_G_t (i := 76) (by decide +kernel) rfl) (fun _ => rfl) (fun _ _ h => h) (by decide) (by decide) (fun E S h0 H h => cn_ent_i (by decide) (by decide) h0 h) (by decide) (by decide) (by decide) (fun j => ((cn_df_ups _ S hdf (by decide) (by decide +kernel)) 23 (Nat.le_refl _) j).1) ⟨by decide, by decide⟩ dX6_init_47 ?_
  refine cn_putR (ty := (.array .int)) rfl rfl fk_X6_27 tyX6 tyX6_ok nmX6 (fun _ => ⟨fun _ _ _ h => h, rfl⟩) (by decide +kernel) (by decide) dX6_init_49 (by decide) (by decide) (by decide) ?_
  rw [cn_ups_R]
  exact cn_vret dX6_init_52 rfl
def cu_X9_2 : List cn_U := ((((((((((((([] ++ [(2, 6, .inr 3)]) ++ [(2, 7, .inr 4)]) ++ [(2, 8, .inr 5)]) ++ [(2, 9, .inr 6)]) ++ [(2, 10, .inr 7)]) ++ [(2, 11, .inr 8)]) ++ [(2, 12, .inr 9)]) ++ [(2, 13, .inr 10)]) ++ cu_X1_11) ++ [(2, 14, .inr 11)]) ++ cu_X6_17) ++ [(2, 15, .inr 17)]) ++ cn_fill 9 80)
theorem tl_X9_2 {E : am_E} {l : Launch} {S : am_S} : ∀ m k, k + m = 80 → cn_Ev E l cn_K0 (RX9, cX9_init, 2, none, [], am_rm 1 21 752) (fun below args s => MQ below (cn_Q E 24 (cn_ups S cu_X9_2)) args s 21 752 (am_A E)) 21 752 92 [some (.ref 2), some (.int (Int32.ofNat k))] [] 24 (cn_ups S ((((((((((((([] ++ [(2, 6, .inr 3)]) ++ [(2, 7, .inr 4)]) ++ [(2, 8, .inr 5)]) ++ [(2, 9, .inr 6)]) ++ [(2, 10, .inr 7)]) ++ [(2, 11, .inr 8)]) ++ [(2, 12, .inr 9)]) ++ [(2, 13, .inr 10)]) ++ cu_X1_11) ++ [(2, 14, .inr 11)]) ++ cu_X6_17) ++ [(2, 15, .inr 17)]) ++ cn_fill 9 k))
  | 0, k, h => by
    obtain rfl : k = 80 := by omega
    refine cn_iload_n dX9_init_92 rfl ?_
    refine cn_bipush (v := 80) dX9_init_93 (by decide) ?_
    refine cn_icmp_ge (tgt := 111) dX9_init_95 (by decide) (fun _ => ?_) (fun q => absurd q (by decide))
    exact cn_vret dX9_init_111 rfl
  | m + 1, k, h => by
    have hk : Int32.ofNat k < 80 := (on_lt (b := 80) (by omega) (by decide)).mpr (by omega)
    refine cn_iload_n dX9_init_92 rfl ?_
    refine cn_bipush (v := 80) dX9_init_93 (by decide) ?_
    refine cn_icmp_ge (tgt := 111) dX9_init_95 (by decide) (fun q => absurd hk q) (fun _ => ?_)
    refine cn_aload_n dX9_init_98 rfl ?_
    refine cn_getR (q := 9) fk_X9_30 (by decide) dX9_init_99 (by decide) (by decide) (by rw [← cn_ups_app, cn_fill_2]; rfl) ?_
    refine cn_iload_n dX9_init_102 rfl ?_
    refine cn_iconst (v := (-1)) dX9_init_103 (by decide) ?_
    refine cn_iast dX9_init_104 (by decide) (by decide) (by decide) (fun q => q.elim (on_neg (by omega)) (fun q => by rw [on_cl (by omega)] at q; have : am_ln 9 = 80 := by decide
                                                                                                                      omega)) ?_
    rw [on_cl (by omega), cn_ups_I, List.append_assoc, ← cn_fill_s]
    refine cn_iinc (v := Int32.ofNat (k + 1)) dX9_init_105 (am_lt rfl) rfl on_s ?_
    refine cn_goto (tgt := 92) dX9_init_108 (by decide) ?_
    exact tl_X9_2 m (k + 1) (by omega)
set_option maxRecDepth 20000 in
theorem tn_X9_2 {E : am_E} {l : Launch} (hl : l.stackTraces = false) {S : am_S} (hdf : cn_df S 2) : cn_M E l yX9_init (.code yX9_init cX9_init 2 none) 1 21 752 2 3 S 24 (cn_ups S cu_X9_2) := by
  refine cn_M_of (by decide) rfl (by decide) ?_
  show cn_Ev E l cn_K0 (RX9, cX9_init, 2, none, [], am_rm 1 21 752) (fun below args s => MQ below (cn_Q E 24 (cn_ups S cu_X9_2)) args s 21 752 (am_A E)) 0 0 0 [some (.ref 2), none] [] 3 (cn_ups S [])
  refine cn_aload_n dX9_init_0 rfl ?_
  refine cn_obj dX9_init_1 (am_G_t (i := 42) (by decide +kernel) rfl) ⟨by decide, by decide⟩ (am_le rfl) ?_
  refine cn_aload_n dX9_init_4 rfl ?_
  refine cn_bipush (v := 8) dX9_init_5 (by decide) ?_
  refine cn_newa (t := 1) (N := 8) (ty := .int) rfl (am_G_t (i := 76) (by decide +kernel) rfl) (fun _ => rfl) (fun _ _ h => h) (by decide) (by decide) (fun E S h0 H h => cn_ent_i (by decide) (by decide) h0 h) (by decide) (by decide) (by decide) (fun j => ((cn_df_ups _ S hdf (by decide) (by decide +kernel)) 3 (Nat.le_refl _) j).1) ⟨by decide, by decide⟩ dX9_init_7 ?_
  refine cn_putR (ty := (.array .int)) rfl rfl fk_X9_9 tyX9 tyX9_ok nmX9 (fun _ => ⟨fun _ _ _ h => h, rfl⟩) (by decide +kernel) (by decide) dX9_init_9 (by decide) (by decide) (by decide) ?_
  rw [cn_ups_R]
  refine cn_aload_n dX9_init_12 rfl ?_
  refine cn_bipush (v := 8) dX9_init_13 (by decide) ?_
  refine cn_newa (t := 1) (N := 8) (ty := .int) rfl (am_G_t (i := 76) (by decide +kernel) rfl) (fun _ => rfl) (fun _ _ h => h) (by decide) (by decide) (fun E S h0 H h => cn_ent_i (by decide) (by decide) h0 h) (by decide) (by decide) (by decide) (fun j => ((cn_df_ups _ S hdf (by decide) (by decide +kernel)) 4 (Nat.le_refl _) j).1) ⟨by decide, by decide⟩ dX9_init_15 ?_
  refine cn_putR (ty := (.array .int)) rfl rfl fk_X9_15 tyX9 tyX9_ok nmX9 (fun _ => ⟨fun _ _ _ h => h, rfl⟩) (by decide +kernel) (by decide) dX9_init_17 (by decide) (by decide) (by decide) ?_
  rw [cn_ups_R]
  refine cn_aload_n dX9_init_20 rfl ?_
  refine cn_bipush (v := 8) dX9_init_21 (by decide) ?_
  refine cn_newa (t := 1) (N := 8) (ty := .int) rfl (am_G_t (i := 76) (by decide +kernel) rfl) (fun _ => rfl) (fun _ _ h => h) (by decide) (by decide) (fun E S h0 H h => cn_ent_i (by decide) (by decide) h0 h) (by decide) (by decide) (by decide) (fun j => ((cn_df_ups _ S hdf (by decide) (by decide +kernel)) 5 (Nat.le_refl _) j).1) ⟨by decide, by decide⟩ dX9_init_23 ?_
  refine cn_putR (ty := (.array .int)) rfl rfl fk_X9_18 tyX9 tyX9_ok nmX9 (fun _ => ⟨fun _ _ _ h => h, rfl⟩) (by decide +kernel) (by decide) dX9_init_25 (by decide) (by decide) (by decide) ?_
  rw [cn_ups_R]
  refine cn_aload_n dX9_init_28 rfl ?_
  refine cn_bipush (v := 8) dX9_init_29 (by decide) ?_
  refine cn_newa (t := 1) (N := 8) (ty := .int) rfl (am_G_t (i := 76) (by decide +kernel) rfl) (fun _ => rfl) (fun _ _ h => h) (by decide) (by decide) (fun E S h0 H h => cn_ent_i (by decide) (by decide) h0 h) (by decide) (by decide) (by decide) (fun j => ((cn_df_ups _ S hdf (by decide) (by decide +kernel)) 6 (Nat.le_refl _) j).1) ⟨by decide, by decide⟩ dX9_init_31 ?_
  refine cn_putR (ty := (.array .int)) rfl rfl fk_X9_21 tyX9 tyX9_ok nmX9 (fun _ => ⟨fun _ _ _ h => h, rfl⟩) (by decide +kernel) (by decide) dX9_init_33 (by decide) (by decide) (by decide) ?_
  rw [cn_ups_R]
  refine cn_aload_n dX9_init_36 rfl ?_
  refine cn_bipush (v := 8) dX9_init_37 (by decide) ?_
  refine cn_newa (t := 1) (N := 8) (ty := .int) rfl (am_G_t (i := 76) (by decide +kernel) rfl) (fun _ => rfl) (fun _ _ h => h) (by decide) (by decide) (fun E S h0 H h => cn_ent_i (by decide) (by decide) h0 h) (by decide) (by decide) (by decide) (fun j => ((cn_df_ups _ S hdf (by decide) (by decide +kernel)) 7 (Nat.le_refl _) j).1) ⟨by decide, by decide⟩ dX9_init_39 ?_
  refine cn_putR (ty := (.array .int)) rfl rfl fk_X9_24 tyX9 tyX9_ok nmX9 (fun _ => ⟨fun _ _ _ h => h, rfl⟩) (by decide +kernel) (by decide) dX9_init_41 (by decide) (by decide) (by decide) ?_
  rw [cn_ups_R]
  refine cn_aload_n dX9_init_44 rfl ?_
  refine cn_bipush (v := 10) dX9_init_45 (by decide) ?_
  refine cn_newa (t := 1) (N := 10) (ty := .int) rfl (am_G_t (i := 76) (by decide +kernel) rfl) (fun _ => rfl) (fun _ _ h => h) (by decide) (by decide) (fun E S h0 H h => cn_ent_i (by decide) (by decide) h0 h) (by decide) (by decide) (by decide) (fun j => ((cn_df_ups _ S hdf (by decide) (by decide +kernel)) 8 (Nat.le_refl _) j).1) ⟨by decide, by decide⟩ dX9_init_47 ?_
  refine cn_putR (ty := (.array .int)) rfl rfl fk_X9_27 tyX9 tyX9_ok nmX9 (fun _ => ⟨fun _ _ _ h => h, rfl⟩) (by decide +kernel) (by decide) dX9_init_49 (by decide) (by decide) (by decide) ?_
  rw [cn_ups_R]
  refine cn_aload_n dX9_init_52 rfl ?_
  refine cn_bipush (v := 80) dX9_init_53 (by decide) ?_
  refine cn_newa (t := 1) (N := 80) (ty := .int) rfl (am_G_t (i := 76) (by decide +kernel) rfl) (fun _ => rfl) (fun _ _ h => h) (by decide) (by decide) (fun E S h0 H h => cn_ent_i (by decide) (by decide) h0 h) (by decide) (by decide) (by decide) (fun j => ((cn_df_ups _ S hdf (by decide) (by decide +kernel)) 9 (Nat.le_refl _) j).1) ⟨by decide, by decide⟩ dX9_init_55 ?_
  refine cn_putR (ty := (.array .int)) rfl rfl fk_X9_30 tyX9 tyX9_ok nmX9 (fun _ => ⟨fun _ _ _ h => h, rfl⟩) (by decide +kernel) (by decide) dX9_init_57 (by decide) (by decide) (by decide) ?_
  rw [cn_ups_R]
  refine cn_aload_n dX9_init_60 rfl ?_
  refine cn_bipush (v := 64) dX9_init_61 (by decide) ?_
  refine cn_newa (t := 1) (N := 64) (ty := .int) rfl (am_G_t (i := 76) (by decide +kernel) rfl) (fun _ => rfl) (fun _ _ h => h) (by decide) (by decide) (fun E S h0 H h => cn_ent_i (by decide) (by decide) h0 h) (by decide) (by decide) (by decide) (fun j => ((cn_df_ups _ S hdf (by decide) (by decide +kernel)) 10 (Nat.le_refl _) j).1) ⟨by decide, by decide⟩ dX9_init_63 ?_
  refine cn_putR (ty := (.array .int)) rfl rfl fk_X9_33 tyX9 tyX9_ok nmX9 (fun _ => ⟨fun _ _ _ h => h, rfl⟩) (by decide +kernel) (by decide) dX9_init_65 (by decide) (by decide) (by decide) ?_
  rw [cn_ups_R]
  refine cn_aload_n dX9_init_68 rfl ?_
  refine cn_new uw_X1 rfl tyX1 tyX1_ok (am_G_t (i := 43) (by decide +kernel) rfl) it_X1 in_X1 (by decide) (by decide) (by decide) dv_X1 (fun j => (cn_df_ups _ S hdf (by decide) (by decide +kernel)) 11 (Nat.le_refl _) j) ⟨by decide, by decide⟩ dX9_init_69 ?_
  refine cn_dup dX9_init_72 rfl ?_
  refine cn_callIN (host := "BellTown") cm_X1_init (am_nw_t (i := 45) (by decide +kernel) rfl) im_X1_init in_X1 rfl ⟨by decide, by decide, by decide +kernel⟩ dX9_init_73 (am_le rfl) (am_fit (by omega) (by decide) (by decide) (by decide)) (tn_X1_11 hl (cn_df_ups _ S hdf (by decide) (by decide +kernel))) ?_
  rw [cn_ups_app]
  refine cn_putR (ty := (.object "BellTown$Law")) rfl rfl fk_X9_39 tyX9 tyX9_ok nmX9 (fun _ => ⟨fun _ _ _ h => h, rfl⟩) (by decide +kernel) (by decide) dX9_init_76 (by decide) (by decide) (by decide) ?_
  rw [cn_ups_R]
  refine cn_aload_n dX9_init_79 rfl ?_
  refine cn_new uw_X6 rfl tyX6 tyX6_ok (am_G_t (i := 78) (by decide +kernel) rfl) it_X6 in_X6 (by decide) (by decide) (by decide) dv_X6 (fun j => (cn_df_ups _ S hdf (by decide) (by decide +kernel)) 17 (Nat.le_refl _) j) ⟨by decide, by decide⟩ dX9_init_80 ?_
  refine cn_dup dX9_init_83 rfl ?_
  refine cn_callIN (host := "BellTown") cm_X6_init (am_nw_t (i := 80) (by decide +kernel) rfl) im_X6_init in_X6 rfl ⟨by decide, by decide, by decide +kernel⟩ dX9_init_84 (am_le rfl) (am_fit (by omega) (by decide) (by decide) (by decide)) (tn_X6_17 hl (cn_df_ups _ S hdf (by decide) (by decide +kernel))) ?_
  rw [cn_ups_app]
  refine cn_putR (ty := (.object "BellTown$Ringings")) rfl rfl fk_X9_46 tyX9 tyX9_ok nmX9 (fun _ => ⟨fun _ _ _ h => h, rfl⟩) (by decide +kernel) (by decide) dX9_init_87 (by decide) (by decide) (by decide) ?_
  rw [cn_ups_R]
  refine cn_iconst (v := 0) dX9_init_90 (by decide) ?_
  refine cn_istore_n dX9_init_91 (am_lt rfl) ?_
  have h0 := tl_X9_2 (E := E) (l := l) (S := S) 80 0 rfl
  rw [show cn_fill 9 0 = [] from rfl, List.append_nil] at h0
  exact h0
def cu_X1_33 : List cn_U := (((((([] ++ [(33, 0, .inl (-1))]) ++ [(33, 2, .inr 34)]) ++ [(33, 3, .inr 35)]) ++ [(33, 4, .inr 36)]) ++ [(33, 5, .inr 37)]) ++ [(33, 6, .inr 38)])
set_option maxRecDepth 20000 in
theorem tn_X1_33 {E : am_E} {l : Launch} (hl : l.stackTraces = false) {S : am_S} (hdf : cn_df S 33) : cn_M E l yX1_init (.code yX1_init cX1_init 1 none) 0 5 469 33 34 S 39 (cn_ups S cu_X1_33) := by
  refine cn_M_of (by decide) rfl (by decide) ?_
  show cn_Ev E l cn_K0 (RX1, cX1_init, 1, none, [], am_rm 0 5 469) (fun below args s => MQ below (cn_Q E 39 (cn_ups S cu_X1_33)) args s 5 469 (am_A E)) 0 0 0 [some (.ref 33)] [] 34 (cn_ups S [])
  refine cn_aload_n dX1_init_0 rfl ?_
  refine cn_obj dX1_init_1 (am_G_t (i := 48) (by decide +kernel) rfl) ⟨by decide, by decide⟩ (am_le rfl) ?_
  refine cn_aload_n dX1_init_4 rfl ?_
  refine cn_iconst (v := (-1)) dX1_init_5 (by decide) ?_
  refine cn_putI fk_X1_9 tyX1 tyX1_ok nmX1 (fun _ => ⟨fun _ _ _ h => h, rfl⟩) (by decide +kernel) (by decide) dX1_init_6 (by decide) (by decide) (by decide) ?_
  rw [cn_ups_I]
  refine cn_aload_n dX1_init_9 rfl ?_
  refine cn_bipush (v := 12) dX1_init_10 (by decide) ?_
  refine cn_newa (t := 1) (N := 12) (ty := .int) rfl (am_G_t (i := 76) (by decide +kernel) rfl) (fun _ => rfl) (fun _ _ h => h) (by decide) (by decide) (fun E S h0 H h => cn_ent_i (by decide) (by decide) h0 h) (by decide) (by decide) (by decide) (fun j => ((cn_df_ups _ S hdf (by decide) (by decide +kernel)) 34 (Nat.le_refl _) j).1) ⟨by decide, by decide⟩ dX1_init_12 ?_
  refine cn_putR (ty := (.array .int)) rfl rfl fk_X1_15 tyX1 tyX1_ok nmX1 (fun _ => ⟨fun _ _ _ h => h, rfl⟩) (by decide +kernel) (by decide) dX1_init_14 (by decide) (by decide) (by decide) ?_
  rw [cn_ups_R]
  refine cn_aload_n dX1_init_17 rfl ?_
  refine cn_bipush (v := 12) dX1_init_18 (by decide) ?_
  refine cn_newa (t := 1) (N := 12) (ty := .int) rfl (am_G_t (i := 76) (by decide +kernel) rfl) (fun _ => rfl) (fun _ _ h => h) (by decide) (by decide) (fun E S h0 H h => cn_ent_i (by decide) (by decide) h0 h) (by decide) (by decide) (by decide) (fun j => ((cn_df_ups _ S hdf (by decide) (by decide +kernel)) 35 (Nat.le_refl _) j).1) ⟨by decide, by decide⟩ dX1_init_20 ?_
  refine cn_putR (ty := (.array .int)) rfl rfl fk_X1_19 tyX1 tyX1_ok nmX1 (fun _ => ⟨fun _ _ _ h => h, rfl⟩) (by decide +kernel) (by decide) dX1_init_22 (by decide) (by decide) (by decide) ?_
  rw [cn_ups_R]
  refine cn_aload_n dX1_init_25 rfl ?_
  refine cn_sipush (v := 400) dX1_init_26 (by decide) ?_
  refine cn_newa (t := 3) (N := 400) (ty := .short) rfl (am_G_t (i := 77) (by decide +kernel) rfl) (fun _ => rfl) (fun _ _ h => h) (by decide) (by decide) (fun E S h0 H h => cn_ent_s (by decide) (by decide) h0 h) (by decide) (by decide) (by decide) (fun j => ((cn_df_ups _ S hdf (by decide) (by decide +kernel)) 36 (Nat.le_refl _) j).1) ⟨by decide, by decide⟩ dX1_init_29 ?_
  refine cn_putR (ty := (.array .short)) rfl rfl fk_X1_22 tyX1 tyX1_ok nmX1 (fun _ => ⟨fun _ _ _ h => h, rfl⟩) (by decide +kernel) (by decide) dX1_init_31 (by decide) (by decide) (by decide) ?_
  rw [cn_ups_R]
  refine cn_aload_n dX1_init_34 rfl ?_
  refine cn_iconst (v := 5) dX1_init_35 (by decide) ?_
  refine cn_newa (t := 1) (N := 5) (ty := .int) rfl (am_G_t (i := 76) (by decide +kernel) rfl) (fun _ => rfl) (fun _ _ h => h) (by decide) (by decide) (fun E S h0 H h => cn_ent_i (by decide) (by decide) h0 h) (by decide) (by decide) (by decide) (fun j => ((cn_df_ups _ S hdf (by decide) (by decide +kernel)) 37 (Nat.le_refl _) j).1) ⟨by decide, by decide⟩ dX1_init_36 ?_
  refine cn_putR (ty := (.array .int)) rfl rfl fk_X1_26 tyX1 tyX1_ok nmX1 (fun _ => ⟨fun _ _ _ h => h, rfl⟩) (by decide +kernel) (by decide) dX1_init_38 (by decide) (by decide) (by decide) ?_
  rw [cn_ups_R]
  refine cn_aload_n dX1_init_41 rfl ?_
  refine cn_bipush (v := 40) dX1_init_42 (by decide) ?_
  refine cn_newa (t := 1) (N := 40) (ty := .int) rfl (am_G_t (i := 76) (by decide +kernel) rfl) (fun _ => rfl) (fun _ _ h => h) (by decide) (by decide) (fun E S h0 H h => cn_ent_i (by decide) (by decide) h0 h) (by decide) (by decide) (by decide) (fun j => ((cn_df_ups _ S hdf (by decide) (by decide +kernel)) 38 (Nat.le_refl _) j).1) ⟨by decide, by decide⟩ dX1_init_44 ?_
  refine cn_putR (ty := (.array .int)) rfl rfl fk_X1_29 tyX1 tyX1_ok nmX1 (fun _ => ⟨fun _ _ _ h => h, rfl⟩) (by decide +kernel) (by decide) dX1_init_46 (by decide) (by decide) (by decide) ?_
  rw [cn_ups_R]
  exact cn_vret dX1_init_49 rfl
def cu_X6_39 : List cn_U := (((((([] ++ [(39, 1, .inr 40)]) ++ [(39, 2, .inr 41)]) ++ [(39, 3, .inr 42)]) ++ [(39, 4, .inr 43)]) ++ [(39, 5, .inr 44)]) ++ [(39, 6, .inr 45)])
set_option maxRecDepth 20000 in
theorem tn_X6_39 {E : am_E} {l : Launch} (hl : l.stackTraces = false) {S : am_S} (hdf : cn_df S 39) : cn_M E l yX6_init (.code yX6_init cX6_init 1 none) 0 6 72 39 40 S 46 (cn_ups S cu_X6_39) := by
  refine cn_M_of (by decide) rfl (by decide) ?_
  show cn_Ev E l cn_K0 (RX6, cX6_init, 1, none, [], am_rm 0 6 72) (fun below args s => MQ below (cn_Q E 46 (cn_ups S cu_X6_39)) args s 6 72 (am_A E)) 0 0 0 [some (.ref 39)] [] 40 (cn_ups S [])
  refine cn_aload_n dX6_init_0 rfl ?_
  refine cn_obj dX6_init_1 (am_G_t (i := 83) (by decide +kernel) rfl) ⟨by decide, by decide⟩ (am_le rfl) ?_
  refine cn_aload_n dX6_init_4 rfl ?_
  refine cn_bipush (v := 12) dX6_init_5 (by decide) ?_
  refine cn_newa (t := 1) (N := 12) (ty := .int) rfl (am_G_t (i := 76) (by decide +kernel) rfl) (fun _ => rfl) (fun _ _ h => h) (by decide) (by decide) (fun E S h0 H h => cn_ent_i (by decide) (by decide) h0 h) (by decide) (by decide) (by decide) (fun j => ((cn_df_ups _ S hdf (by decide) (by decide +kernel)) 40 (Nat.le_refl _) j).1) ⟨by decide, by decide⟩ dX6_init_7 ?_
  refine cn_putR (ty := (.array .int)) rfl rfl fk_X6_9 tyX6 tyX6_ok nmX6 (fun _ => ⟨fun _ _ _ h => h, rfl⟩) (by decide +kernel) (by decide) dX6_init_9 (by decide) (by decide) (by decide) ?_
  rw [cn_ups_R]
  refine cn_aload_n dX6_init_12 rfl ?_
  refine cn_bipush (v := 12) dX6_init_13 (by decide) ?_
  refine cn_newa (t := 1) (N := 12) (ty := .int) rfl (am_G_t (i := 76) (by decide +kernel) rfl) (fun _ => rfl) (fun _ _ h => h) (by decide) (by decide) (fun E S h0 H h => cn_ent_i (by decide) (by decide) h0 h) (by decide) (by decide) (by decide) (fun j => ((cn_df_ups _ S hdf (by decide) (by decide +kernel)) 41 (Nat.le_refl _) j).1) ⟨by decide, by decide⟩ dX6_init_15 ?_
  refine cn_putR (ty := (.array .int)) rfl rfl fk_X6_15 tyX6 tyX6_ok nmX6 (fun _ => ⟨fun _ _ _ h => h, rfl⟩) (by decide +kernel) (by decide) dX6_init_17 (by decide) (by decide) (by decide) ?_
  rw [cn_ups_R]
  refine cn_aload_n dX6_init_20 rfl ?_
  refine cn_bipush (v := 12) dX6_init_21 (by decide) ?_
  refine cn_newa (t := 1) (N := 12) (ty := .int) rfl (am_G_t (i := 76) (by decide +kernel) rfl) (fun _ => rfl) (fun _ _ h => h) (by decide) (by decide) (fun E S h0 H h => cn_ent_i (by decide) (by decide) h0 h) (by decide) (by decide) (by decide) (fun j => ((cn_df_ups _ S hdf (by decide) (by decide +kernel)) 42 (Nat.le_refl _) j).1) ⟨by decide, by decide⟩ dX6_init_23 ?_
  refine cn_putR (ty := (.array .int)) rfl rfl fk_X6_18 tyX6 tyX6_ok nmX6 (fun _ => ⟨fun _ _ _ h => h, rfl⟩) (by decide +kernel) (by decide) dX6_init_25 (by decide) (by decide) (by decide) ?_
  rw [cn_ups_R]
  refine cn_aload_n dX6_init_28 rfl ?_
  refine cn_bipush (v := 12) dX6_init_29 (by decide) ?_
  refine cn_newa (t := 1) (N := 12) (ty := .int) rfl (am_G_t (i := 76) (by decide +kernel) rfl) (fun _ => rfl) (fun _ _ h => h) (by decide) (by decide) (fun E S h0 H h => cn_ent_i (by decide) (by decide) h0 h) (by decide) (by decide) (by decide) (fun j => ((cn_df_ups _ S hdf (by decide) (by decide +kernel)) 43 (Nat.le_refl _) j).1) ⟨by decide, by decide⟩ dX6_init_31 ?_
  refine cn_putR (ty := (.array .int)) rfl rfl fk_X6_21 tyX6 tyX6_ok nmX6 (fun _ => ⟨fun _ _ _ h => h, rfl⟩) (by decide +kernel) (by decide) dX6_init_33 (by decide) (by decide) (by decide) ?_
  rw [cn_ups_R]
  refine cn_aload_n dX6_init_36 rfl ?_
  refine cn_bipush (v := 12) dX6_init_37 (by decide) ?_
  refine cn_newa (t := 1) (N := 12) (ty := .int) rfl (am_G_t (i := 76) (by decide +kernel) rfl) (fun _ => rfl) (fun _ _ h => h) (by decide) (by decide) (fun E S h0 H h => cn_ent_i (by decide) (by decide) h0 h) (by decide) (by decide) (by decide) (fun j => ((cn_df_ups _ S hdf (by decide) (by decide +kernel)) 44 (Nat.le_refl _) j).1) ⟨by decide, by decide⟩ dX6_init_39 ?_
  refine cn_putR (ty := (.array .int)) rfl rfl fk_X6_24 tyX6 tyX6_ok nmX6 (fun _ => ⟨fun _ _ _ h => h, rfl⟩) (by decide +kernel) (by decide) dX6_init_41 (by decide) (by decide) (by decide) ?_
  rw [cn_ups_R]
  refine cn_aload_n dX6_init_44 rfl ?_
  refine cn_bipush (v := 12) dX6_init_45 (by decide) ?_
  refine cn_newa (t := 1) (N := 12) (ty := .int) rfl (am_G_t (i := 76) (by decide +kernel) rfl) (fun _ => rfl) (fun _ _ h => h) (by decide) (by decide) (fun E S h0 H h => cn_ent_i (by decide) (by decide) h0 h) (by decide) (by decide) (by decide) (fun j => ((cn_df_ups _ S hdf (by decide) (by decide +kernel)) 45 (Nat.le_refl _) j).1) ⟨by decide, by decide⟩ dX6_init_47 ?_
  refine cn_putR (ty := (.array .int)) rfl rfl fk_X6_27 tyX6 tyX6_ok nmX6 (fun _ => ⟨fun _ _ _ h => h, rfl⟩) (by decide +kernel) (by decide) dX6_init_49 (by decide) (by decide) (by decide) ?_
  rw [cn_ups_R]
  exact cn_vret dX6_init_52 rfl
def cu_X9_24 : List cn_U := ((((((((((((([] ++ [(24, 6, .inr 25)]) ++ [(24, 7, .inr 26)]) ++ [(24, 8, .inr 27)]) ++ [(24, 9, .inr 28)]) ++ [(24, 10, .inr 29)]) ++ [(24, 11, .inr 30)]) ++ [(24, 12, .inr 31)]) ++ [(24, 13, .inr 32)]) ++ cu_X1_33) ++ [(24, 14, .inr 33)]) ++ cu_X6_39) ++ [(24, 15, .inr 39)]) ++ cn_fill 31 80)
theorem tl_X9_24 {E : am_E} {l : Launch} {S : am_S} : ∀ m k, k + m = 80 → cn_Ev E l cn_K0 (RX9, cX9_init, 2, none, [], am_rm 1 21 752) (fun below args s => MQ below (cn_Q E 46 (cn_ups S cu_X9_24)) args s 21 752 (am_A E)) 21 752 92 [some (.ref 24), some (.int (Int32.ofNat k))] [] 46 (cn_ups S ((((((((((((([] ++ [(24, 6, .inr 25)]) ++ [(24, 7, .inr 26)]) ++ [(24, 8, .inr 27)]) ++ [(24, 9, .inr 28)]) ++ [(24, 10, .inr 29)]) ++ [(24, 11, .inr 30)]) ++ [(24, 12, .inr 31)]) ++ [(24, 13, .inr 32)]) ++ cu_X1_33) ++ [(24, 14, .inr 33)]) ++ cu_X6_39) ++ [(24, 15, .inr 39)]) ++ cn_fill 31 k))
  | 0, k, h => by
    obtain rfl : k = 80 := by omega
    refine cn_iload_n dX9_init_92 rfl ?_
    refine cn_bipush (v := 80) dX9_init_93 (by decide) ?_
    refine cn_icmp_ge (tgt := 111) dX9_init_95 (by decide) (fun _ => ?_) (fun q => absurd q (by decide))
    exact cn_vret dX9_init_111 rfl
  | m + 1, k, h => by
    have hk : Int32.ofNat k < 80 := (on_lt (b := 80) (by omega) (by decide)).mpr (by omega)
    refine cn_iload_n dX9_init_92 rfl ?_
    refine cn_bipush (v := 80) dX9_init_93 (by decide) ?_
    refine cn_icmp_ge (tgt := 111) dX9_init_95 (by decide) (fun q => absurd hk q) (fun _ => ?_)
    refine cn_aload_n dX9_init_98 rfl ?_
    refine cn_getR (q := 31) fk_X9_30 (by decide) dX9_init_99 (by decide) (by decide) (by rw [← cn_ups_app, cn_fill_2]; rfl) ?_
    refine cn_iload_n dX9_init_102 rfl ?_
    refine cn_iconst (v := (-1)) dX9_init_103 (by decide) ?_
    refine cn_iast dX9_init_104 (by decide) (by decide) (by decide) (fun q => q.elim (on_neg (by omega)) (fun q => by rw [on_cl (by omega)] at q; have : am_ln 31 = 80 := by decide
                                                                                                                      omega)) ?_
    rw [on_cl (by omega), cn_ups_I, List.append_assoc, ← cn_fill_s]
    refine cn_iinc (v := Int32.ofNat (k + 1)) dX9_init_105 (am_lt rfl) rfl on_s ?_
    refine cn_goto (tgt := 92) dX9_init_108 (by decide) ?_
    exact tl_X9_24 m (k + 1) (by omega)
set_option maxRecDepth 20000 in
theorem tn_X9_24 {E : am_E} {l : Launch} (hl : l.stackTraces = false) {S : am_S} (hdf : cn_df S 24) : cn_M E l yX9_init (.code yX9_init cX9_init 2 none) 1 21 752 24 25 S 46 (cn_ups S cu_X9_24) := by
  refine cn_M_of (by decide) rfl (by decide) ?_
  show cn_Ev E l cn_K0 (RX9, cX9_init, 2, none, [], am_rm 1 21 752) (fun below args s => MQ below (cn_Q E 46 (cn_ups S cu_X9_24)) args s 21 752 (am_A E)) 0 0 0 [some (.ref 24), none] [] 25 (cn_ups S [])
  refine cn_aload_n dX9_init_0 rfl ?_
  refine cn_obj dX9_init_1 (am_G_t (i := 42) (by decide +kernel) rfl) ⟨by decide, by decide⟩ (am_le rfl) ?_
  refine cn_aload_n dX9_init_4 rfl ?_
  refine cn_bipush (v := 8) dX9_init_5 (by decide) ?_
  refine cn_newa (t := 1) (N := 8) (ty := .int) rfl (am_G_t (i := 76) (by decide +kernel) rfl) (fun _ => rfl) (fun _ _ h => h) (by decide) (by decide) (fun E S h0 H h => cn_ent_i (by decide) (by decide) h0 h) (by decide) (by decide) (by decide) (fun j => ((cn_df_ups _ S hdf (by decide) (by decide +kernel)) 25 (Nat.le_refl _) j).1) ⟨by decide, by decide⟩ dX9_init_7 ?_
  refine cn_putR (ty := (.array .int)) rfl rfl fk_X9_9 tyX9 tyX9_ok nmX9 (fun _ => ⟨fun _ _ _ h => h, rfl⟩) (by decide +kernel) (by decide) dX9_init_9 (by decide) (by decide) (by decide) ?_
  rw [cn_ups_R]
  refine cn_aload_n dX9_init_12 rfl ?_
  refine cn_bipush (v := 8) dX9_init_13 (by decide) ?_
  refine cn_newa (t := 1) (N := 8) (ty := .int) rfl (am_G_t (i := 76) (by decide +kernel) rfl) (fun _ => rfl) (fun _ _ h => h) (by decide) (by decide) (fun E S h0 H h => cn_ent_i (by decide) (by decide) h0 h) (by decide) (by decide) (by decide) (fun j => ((cn_df_ups _ S hdf (by decide) (by decide +kernel)) 26 (Nat.le_refl _) j).1) ⟨by decide, by decide⟩ dX9_init_15 ?_
  refine cn_putR (ty := (.array .int)) rfl rfl fk_X9_15 tyX9 tyX9_ok nmX9 (fun _ => ⟨fun _ _ _ h => h, rfl⟩) (by decide +kernel) (by decide) dX9_init_17 (by decide) (by decide) (by decide) ?_
  rw [cn_ups_R]
  refine cn_aload_n dX9_init_20 rfl ?_
  refine cn_bipush (v := 8) dX9_init_21 (by decide) ?_
  refine cn_newa (t := 1) (N := 8) (ty := .int) rfl (am_G_t (i := 76) (by decide +kernel) rfl) (fun _ => rfl) (fun _ _ h => h) (by decide) (by decide) (fun E S h0 H h => cn_ent_i (by decide) (by decide) h0 h) (by decide) (by decide) (by decide) (fun j => ((cn_df_ups _ S hdf (by decide) (by decide +kernel)) 27 (Nat.le_refl _) j).1) ⟨by decide, by decide⟩ dX9_init_23 ?_
  refine cn_putR (ty := (.array .int)) rfl rfl fk_X9_18 tyX9 tyX9_ok nmX9 (fun _ => ⟨fun _ _ _ h => h, rfl⟩) (by decide +kernel) (by decide) dX9_init_25 (by decide) (by decide) (by decide) ?_
  rw [cn_ups_R]
  refine cn_aload_n dX9_init_28 rfl ?_
  refine cn_bipush (v := 8) dX9_init_29 (by decide) ?_
  refine cn_newa (t := 1) (N := 8) (ty := .int) rfl (am_G_t (i := 76) (by decide +kernel) rfl) (fun _ => rfl) (fun _ _ h => h) (by decide) (by decide) (fun E S h0 H h => cn_ent_i (by decide) (by decide) h0 h) (by decide) (by decide) (by decide) (fun j => ((cn_df_ups _ S hdf (by decide) (by decide +kernel)) 28 (Nat.le_refl _) j).1) ⟨by decide, by decide⟩ dX9_init_31 ?_
  refine cn_putR (ty := (.array .int)) rfl rfl fk_X9_21 tyX9 tyX9_ok nmX9 (fun _ => ⟨fun _ _ _ h => h, rfl⟩) (by decide +kernel) (by decide) dX9_init_33 (by decide) (by decide) (by decide) ?_
  rw [cn_ups_R]
  refine cn_aload_n dX9_init_36 rfl ?_
  refine cn_bipush (v := 8) dX9_init_37 (by decide) ?_
  refine cn_newa (t := 1) (N := 8) (ty := .int) rfl (am_G_t (i := 76) (by decide +kernel) rfl) (fun _ => rfl) (fun _ _ h => h) (by decide) (by decide) (fun E S h0 H h => cn_ent_i (by decide) (by decide) h0 h) (by decide) (by decide) (by decide) (fun j => ((cn_df_ups _ S hdf (by decide) (by decide +kernel)) 29 (Nat.le_refl _) j).1) ⟨by decide, by decide⟩ dX9_init_39 ?_
  refine cn_putR (ty := (.array .int)) rfl rfl fk_X9_24 tyX9 tyX9_ok nmX9 (fun _ => ⟨fun _ _ _ h => h, rfl⟩) (by decide +kernel) (by decide) dX9_init_41 (by decide) (by decide) (by decide) ?_
  rw [cn_ups_R]
  refine cn_aload_n dX9_init_44 rfl ?_
  refine cn_bipush (v := 10) dX9_init_45 (by decide) ?_
  refine cn_newa (t := 1) (N := 10) (ty := .int) rfl (am_G_t (i := 76) (by decide +kernel) rfl) (fun _ => rfl) (fun _ _ h => h) (by decide) (by decide) (fun E S h0 H h => cn_ent_i (by decide) (by decide) h0 h) (by decide) (by decide) (by decide) (fun j => ((cn_df_ups _ S hdf (by decide) (by decide +kernel)) 30 (Nat.le_refl _) j).1) ⟨by decide, by decide⟩ dX9_init_47 ?_
  refine cn_putR (ty := (.array .int)) rfl rfl fk_X9_27 tyX9 tyX9_ok nmX9 (fun _ => ⟨fun _ _ _ h => h, rfl⟩) (by decide +kernel) (by decide) dX9_init_49 (by decide) (by decide) (by decide) ?_
  rw [cn_ups_R]
  refine cn_aload_n dX9_init_52 rfl ?_
  refine cn_bipush (v := 80) dX9_init_53 (by decide) ?_
  refine cn_newa (t := 1) (N := 80) (ty := .int) rfl (am_G_t (i := 76) (by decide +kernel) rfl) (fun _ => rfl) (fun _ _ h => h) (by decide) (by decide) (fun E S h0 H h => cn_ent_i (by decide) (by decide) h0 h) (by decide) (by decide) (by decide) (fun j => ((cn_df_ups _ S hdf (by decide) (by decide +kernel)) 31 (Nat.le_refl _) j).1) ⟨by decide, by decide⟩ dX9_init_55 ?_
  refine cn_putR (ty := (.array .int)) rfl rfl fk_X9_30 tyX9 tyX9_ok nmX9 (fun _ => ⟨fun _ _ _ h => h, rfl⟩) (by decide +kernel) (by decide) dX9_init_57 (by decide) (by decide) (by decide) ?_
  rw [cn_ups_R]
  refine cn_aload_n dX9_init_60 rfl ?_
  refine cn_bipush (v := 64) dX9_init_61 (by decide) ?_
  refine cn_newa (t := 1) (N := 64) (ty := .int) rfl (am_G_t (i := 76) (by decide +kernel) rfl) (fun _ => rfl) (fun _ _ h => h) (by decide) (by decide) (fun E S h0 H h => cn_ent_i (by decide) (by decide) h0 h) (by decide) (by decide) (by decide) (fun j => ((cn_df_ups _ S hdf (by decide) (by decide +kernel)) 32 (Nat.le_refl _) j).1) ⟨by decide, by decide⟩ dX9_init_63 ?_
  refine cn_putR (ty := (.array .int)) rfl rfl fk_X9_33 tyX9 tyX9_ok nmX9 (fun _ => ⟨fun _ _ _ h => h, rfl⟩) (by decide +kernel) (by decide) dX9_init_65 (by decide) (by decide) (by decide) ?_
  rw [cn_ups_R]
  refine cn_aload_n dX9_init_68 rfl ?_
  refine cn_new uw_X1 rfl tyX1 tyX1_ok (am_G_t (i := 43) (by decide +kernel) rfl) it_X1 in_X1 (by decide) (by decide) (by decide) dv_X1 (fun j => (cn_df_ups _ S hdf (by decide) (by decide +kernel)) 33 (Nat.le_refl _) j) ⟨by decide, by decide⟩ dX9_init_69 ?_
  refine cn_dup dX9_init_72 rfl ?_
  refine cn_callIN (host := "BellTown") cm_X1_init (am_nw_t (i := 45) (by decide +kernel) rfl) im_X1_init in_X1 rfl ⟨by decide, by decide, by decide +kernel⟩ dX9_init_73 (am_le rfl) (am_fit (by omega) (by decide) (by decide) (by decide)) (tn_X1_33 hl (cn_df_ups _ S hdf (by decide) (by decide +kernel))) ?_
  rw [cn_ups_app]
  refine cn_putR (ty := (.object "BellTown$Law")) rfl rfl fk_X9_39 tyX9 tyX9_ok nmX9 (fun _ => ⟨fun _ _ _ h => h, rfl⟩) (by decide +kernel) (by decide) dX9_init_76 (by decide) (by decide) (by decide) ?_
  rw [cn_ups_R]
  refine cn_aload_n dX9_init_79 rfl ?_
  refine cn_new uw_X6 rfl tyX6 tyX6_ok (am_G_t (i := 78) (by decide +kernel) rfl) it_X6 in_X6 (by decide) (by decide) (by decide) dv_X6 (fun j => (cn_df_ups _ S hdf (by decide) (by decide +kernel)) 39 (Nat.le_refl _) j) ⟨by decide, by decide⟩ dX9_init_80 ?_
  refine cn_dup dX9_init_83 rfl ?_
  refine cn_callIN (host := "BellTown") cm_X6_init (am_nw_t (i := 80) (by decide +kernel) rfl) im_X6_init in_X6 rfl ⟨by decide, by decide, by decide +kernel⟩ dX9_init_84 (am_le rfl) (am_fit (by omega) (by decide) (by decide) (by decide)) (tn_X6_39 hl (cn_df_ups _ S hdf (by decide) (by decide +kernel))) ?_
  rw [cn_ups_app]
  refine cn_putR (ty := (.object "BellTown$Ringings")) rfl rfl fk_X9_46 tyX9 tyX9_ok nmX9 (fun _ => ⟨fun _ _ _ h => h, rfl⟩) (by decide +kernel) (by decide) dX9_init_87 (by decide) (by decide) (by decide) ?_
  rw [cn_ups_R]
  refine cn_iconst (v := 0) dX9_init_90 (by decide) ?_
  refine cn_istore_n dX9_init_91 (am_lt rfl) ?_
  have h0 := tl_X9_24 (E := E) (l := l) (S := S) 80 0 rfl
  rw [show cn_fill 31 0 = [] from rfl, List.append_nil] at h0
  exact h0
def cu_X1_55 : List cn_U := (((((([] ++ [(55, 0, .inl (-1))]) ++ [(55, 2, .inr 56)]) ++ [(55, 3, .inr 57)]) ++ [(55, 4, .inr 58)]) ++ [(55, 5, .inr 59)]) ++ [(55, 6, .inr 60)])
set_option maxRecDepth 20000 in
theorem tn_X1_55 {E : am_E} {l : Launch} (hl : l.stackTraces = false) {S : am_S} (hdf : cn_df S 55) : cn_M E l yX1_init (.code yX1_init cX1_init 1 none) 0 5 469 55 56 S 61 (cn_ups S cu_X1_55) := by
  refine cn_M_of (by decide) rfl (by decide) ?_
  show cn_Ev E l cn_K0 (RX1, cX1_init, 1, none, [], am_rm 0 5 469) (fun below args s => MQ below (cn_Q E 61 (cn_ups S cu_X1_55)) args s 5 469 (am_A E)) 0 0 0 [some (.ref 55)] [] 56 (cn_ups S [])
  refine cn_aload_n dX1_init_0 rfl ?_
  refine cn_obj dX1_init_1 (am_G_t (i := 48) (by decide +kernel) rfl) ⟨by decide, by decide⟩ (am_le rfl) ?_
  refine cn_aload_n dX1_init_4 rfl ?_
  refine cn_iconst (v := (-1)) dX1_init_5 (by decide) ?_
  refine cn_putI fk_X1_9 tyX1 tyX1_ok nmX1 (fun _ => ⟨fun _ _ _ h => h, rfl⟩) (by decide +kernel) (by decide) dX1_init_6 (by decide) (by decide) (by decide) ?_
  rw [cn_ups_I]
  refine cn_aload_n dX1_init_9 rfl ?_
  refine cn_bipush (v := 12) dX1_init_10 (by decide) ?_
  refine cn_newa (t := 1) (N := 12) (ty := .int) rfl (am_G_t (i := 76) (by decide +kernel) rfl) (fun _ => rfl) (fun _ _ h => h) (by decide) (by decide) (fun E S h0 H h => cn_ent_i (by decide) (by decide) h0 h) (by decide) (by decide) (by decide) (fun j => ((cn_df_ups _ S hdf (by decide) (by decide +kernel)) 56 (Nat.le_refl _) j).1) ⟨by decide, by decide⟩ dX1_init_12 ?_
  refine cn_putR (ty := (.array .int)) rfl rfl fk_X1_15 tyX1 tyX1_ok nmX1 (fun _ => ⟨fun _ _ _ h => h, rfl⟩) (by decide +kernel) (by decide) dX1_init_14 (by decide) (by decide) (by decide) ?_
  rw [cn_ups_R]
  refine cn_aload_n dX1_init_17 rfl ?_
  refine cn_bipush (v := 12) dX1_init_18 (by decide) ?_
  refine cn_newa (t := 1) (N := 12) (ty := .int) rfl (am_G_t (i := 76) (by decide +kernel) rfl) (fun _ => rfl) (fun _ _ h => h) (by decide) (by decide) (fun E S h0 H h => cn_ent_i (by decide) (by decide) h0 h) (by decide) (by decide) (by decide) (fun j => ((cn_df_ups _ S hdf (by decide) (by decide +kernel)) 57 (Nat.le_refl _) j).1) ⟨by decide, by decide⟩ dX1_init_20 ?_
  refine cn_putR (ty := (.array .int)) rfl rfl fk_X1_19 tyX1 tyX1_ok nmX1 (fun _ => ⟨fun _ _ _ h => h, rfl⟩) (by decide +kernel) (by decide) dX1_init_22 (by decide) (by decide) (by decide) ?_
  rw [cn_ups_R]
  refine cn_aload_n dX1_init_25 rfl ?_
  refine cn_sipush (v := 400) dX1_init_26 (by decide) ?_
  refine cn_newa (t := 3) (N := 400) (ty := .short) rfl (am_G_t (i := 77) (by decide +kernel) rfl) (fun _ => rfl) (fun _ _ h => h) (by decide) (by decide) (fun E S h0 H h => cn_ent_s (by decide) (by decide) h0 h) (by decide) (by decide) (by decide) (fun j => ((cn_df_ups _ S hdf (by decide) (by decide +kernel)) 58 (Nat.le_refl _) j).1) ⟨by decide, by decide⟩ dX1_init_29 ?_
  refine cn_putR (ty := (.array .short)) rfl rfl fk_X1_22 tyX1 tyX1_ok nmX1 (fun _ => ⟨fun _ _ _ h => h, rfl⟩) (by decide +kernel) (by decide) dX1_init_31 (by decide) (by decide) (by decide) ?_
  rw [cn_ups_R]
  refine cn_aload_n dX1_init_34 rfl ?_
  refine cn_iconst (v := 5) dX1_init_35 (by decide) ?_
  refine cn_newa (t := 1) (N := 5) (ty := .int) rfl (am_G_t (i := 76) (by decide +kernel) rfl) (fun _ => rfl) (fun _ _ h => h) (by decide) (by decide) (fun E S h0 H h => cn_ent_i (by decide) (by decide) h0 h) (by decide) (by decide) (by decide) (fun j => ((cn_df_ups _ S hdf (by decide) (by decide +kernel)) 59 (Nat.le_refl _) j).1) ⟨by decide, by decide⟩ dX1_init_36 ?_
  refine cn_putR (ty := (.array .int)) rfl rfl fk_X1_26 tyX1 tyX1_ok nmX1 (fun _ => ⟨fun _ _ _ h => h, rfl⟩) (by decide +kernel) (by decide) dX1_init_38 (by decide) (by decide) (by decide) ?_
  rw [cn_ups_R]
  refine cn_aload_n dX1_init_41 rfl ?_
  refine cn_bipush (v := 40) dX1_init_42 (by decide) ?_
  refine cn_newa (t := 1) (N := 40) (ty := .int) rfl (am_G_t (i := 76) (by decide +kernel) rfl) (fun _ => rfl) (fun _ _ h => h) (by decide) (by decide) (fun E S h0 H h => cn_ent_i (by decide) (by decide) h0 h) (by decide) (by decide) (by decide) (fun j => ((cn_df_ups _ S hdf (by decide) (by decide +kernel)) 60 (Nat.le_refl _) j).1) ⟨by decide, by decide⟩ dX1_init_44 ?_
  refine cn_putR (ty := (.array .int)) rfl rfl fk_X1_29 tyX1 tyX1_ok nmX1 (fun _ => ⟨fun _ _ _ h => h, rfl⟩) (by decide +kernel) (by decide) dX1_init_46 (by decide) (by decide) (by decide) ?_
  rw [cn_ups_R]
  exact cn_vret dX1_init_49 rfl
def cu_X6_61 : List cn_U := (((((([] ++ [(61, 1, .inr 62)]) ++ [(61, 2, .inr 63)]) ++ [(61, 3, .inr 64)]) ++ [(61, 4, .inr 65)]) ++ [(61, 5, .inr 66)]) ++ [(61, 6, .inr 67)])
set_option maxRecDepth 20000 in
theorem tn_X6_61 {E : am_E} {l : Launch} (hl : l.stackTraces = false) {S : am_S} (hdf : cn_df S 61) : cn_M E l yX6_init (.code yX6_init cX6_init 1 none) 0 6 72 61 62 S 68 (cn_ups S cu_X6_61) := by
  refine cn_M_of (by decide) rfl (by decide) ?_
  show cn_Ev E l cn_K0 (RX6, cX6_init, 1, none, [], am_rm 0 6 72) (fun below args s => MQ below (cn_Q E 68 (cn_ups S cu_X6_61)) args s 6 72 (am_A E)) 0 0 0 [some (.ref 61)] [] 62 (cn_ups S [])
  refine cn_aload_n dX6_init_0 rfl ?_
  refine cn_obj dX6_init_1 (am_G_t (i := 83) (by decide +kernel) rfl) ⟨by decide, by decide⟩ (am_le rfl) ?_
  refine cn_aload_n dX6_init_4 rfl ?_
  refine cn_bipush (v := 12) dX6_init_5 (by decide) ?_
  refine cn_newa (t := 1) (N := 12) (ty := .int) rfl (am_G_t (i := 76) (by decide +kernel) rfl) (fun _ => rfl) (fun _ _ h => h) (by decide) (by decide) (fun E S h0 H h => cn_ent_i (by decide) (by decide) h0 h) (by decide) (by decide) (by decide) (fun j => ((cn_df_ups _ S hdf (by decide) (by decide +kernel)) 62 (Nat.le_refl _) j).1) ⟨by decide, by decide⟩ dX6_init_7 ?_
  refine cn_putR (ty := (.array .int)) rfl rfl fk_X6_9 tyX6 tyX6_ok nmX6 (fun _ => ⟨fun _ _ _ h => h, rfl⟩) (by decide +kernel) (by decide) dX6_init_9 (by decide) (by decide) (by decide) ?_
  rw [cn_ups_R]
  refine cn_aload_n dX6_init_12 rfl ?_
  refine cn_bipush (v := 12) dX6_init_13 (by decide) ?_
  refine cn_newa (t := 1) (N := 12) (ty := .int) rfl (am_G_t (i := 76) (by decide +kernel) rfl) (fun _ => rfl) (fun _ _ h => h) (by decide) (by decide) (fun E S h0 H h => cn_ent_i (by decide) (by decide) h0 h) (by decide) (by decide) (by decide) (fun j => ((cn_df_ups _ S hdf (by decide) (by decide +kernel)) 63 (Nat.le_refl _) j).1) ⟨by decide, by decide⟩ dX6_init_15 ?_
  refine cn_putR (ty := (.array .int)) rfl rfl fk_X6_15 tyX6 tyX6_ok nmX6 (fun _ => ⟨fun _ _ _ h => h, rfl⟩) (by decide +kernel) (by decide) dX6_init_17 (by decide) (by decide) (by decide) ?_
  rw [cn_ups_R]
  refine cn_aload_n dX6_init_20 rfl ?_
  refine cn_bipush (v := 12) dX6_init_21 (by decide) ?_
  refine cn_newa (t := 1) (N := 12) (ty := .int) rfl (am_G_t (i := 76) (by decide +kernel) rfl) (fun _ => rfl) (fun _ _ h => h) (by decide) (by decide) (fun E S h0 H h => cn_ent_i (by decide) (by decide) h0 h) (by decide) (by decide) (by decide) (fun j => ((cn_df_ups _ S hdf (by decide) (by decide +kernel)) 64 (Nat.le_refl _) j).1) ⟨by decide, by decide⟩ dX6_init_23 ?_
  refine cn_putR (ty := (.array .int)) rfl rfl fk_X6_18 tyX6 tyX6_ok nmX6 (fun _ => ⟨fun _ _ _ h => h, rfl⟩) (by decide +kernel) (by decide) dX6_init_25 (by decide) (by decide) (by decide) ?_
  rw [cn_ups_R]
  refine cn_aload_n dX6_init_28 rfl ?_
  refine cn_bipush (v := 12) dX6_init_29 (by decide) ?_
  refine cn_newa (t := 1) (N := 12) (ty := .int) rfl (am_G_t (i := 76) (by decide +kernel) rfl) (fun _ => rfl) (fun _ _ h => h) (by decide) (by decide) (fun E S h0 H h => cn_ent_i (by decide) (by decide) h0 h) (by decide) (by decide) (by decide) (fun j => ((cn_df_ups _ S hdf (by decide) (by decide +kernel)) 65 (Nat.le_refl _) j).1) ⟨by decide, by decide⟩ dX6_init_31 ?_
  refine cn_putR (ty := (.array .int)) rfl rfl fk_X6_21 tyX6 tyX6_ok nmX6 (fun _ => ⟨fun _ _ _ h => h, rfl⟩) (by decide +kernel) (by decide) dX6_init_33 (by decide) (by decide) (by decide) ?_
  rw [cn_ups_R]
  refine cn_aload_n dX6_init_36 rfl ?_
  refine cn_bipush (v := 12) dX6_init_37 (by decide) ?_
  refine cn_newa (t := 1) (N := 12) (ty := .int) rfl (am_G_t (i := 76) (by decide +kernel) rfl) (fun _ => rfl) (fun _ _ h => h) (by decide) (by decide) (fun E S h0 H h => cn_ent_i (by decide) (by decide) h0 h) (by decide) (by decide) (by decide) (fun j => ((cn_df_ups _ S hdf (by decide) (by decide +kernel)) 66 (Nat.le_refl _) j).1) ⟨by decide, by decide⟩ dX6_init_39 ?_
  refine cn_putR (ty := (.array .int)) rfl rfl fk_X6_24 tyX6 tyX6_ok nmX6 (fun _ => ⟨fun _ _ _ h => h, rfl⟩) (by decide +kernel) (by decide) dX6_init_41 (by decide) (by decide) (by decide) ?_
  rw [cn_ups_R]
  refine cn_aload_n dX6_init_44 rfl ?_
  refine cn_bipush (v := 12) dX6_init_45 (by decide) ?_
  refine cn_newa (t := 1) (N := 12) (ty := .int) rfl (am_G_t (i := 76) (by decide +kernel) rfl) (fun _ => rfl) (fun _ _ h => h) (by decide) (by decide) (fun E S h0 H h => cn_ent_i (by decide) (by decide) h0 h) (by decide) (by decide) (by decide) (fun j => ((cn_df_ups _ S hdf (by decide) (by decide +kernel)) 67 (Nat.le_refl _) j).1) ⟨by decide, by decide⟩ dX6_init_47 ?_
  refine cn_putR (ty := (.array .int)) rfl rfl fk_X6_27 tyX6 tyX6_ok nmX6 (fun _ => ⟨fun _ _ _ h => h, rfl⟩) (by decide +kernel) (by decide) dX6_init_49 (by decide) (by decide) (by decide) ?_
  rw [cn_ups_R]
  exact cn_vret dX6_init_52 rfl
def cu_X9_46 : List cn_U := ((((((((((((([] ++ [(46, 6, .inr 47)]) ++ [(46, 7, .inr 48)]) ++ [(46, 8, .inr 49)]) ++ [(46, 9, .inr 50)]) ++ [(46, 10, .inr 51)]) ++ [(46, 11, .inr 52)]) ++ [(46, 12, .inr 53)]) ++ [(46, 13, .inr 54)]) ++ cu_X1_55) ++ [(46, 14, .inr 55)]) ++ cu_X6_61) ++ [(46, 15, .inr 61)]) ++ cn_fill 53 80)
theorem tl_X9_46 {E : am_E} {l : Launch} {S : am_S} : ∀ m k, k + m = 80 → cn_Ev E l cn_K0 (RX9, cX9_init, 2, none, [], am_rm 1 21 752) (fun below args s => MQ below (cn_Q E 68 (cn_ups S cu_X9_46)) args s 21 752 (am_A E)) 21 752 92 [some (.ref 46), some (.int (Int32.ofNat k))] [] 68 (cn_ups S ((((((((((((([] ++ [(46, 6, .inr 47)]) ++ [(46, 7, .inr 48)]) ++ [(46, 8, .inr 49)]) ++ [(46, 9, .inr 50)]) ++ [(46, 10, .inr 51)]) ++ [(46, 11, .inr 52)]) ++ [(46, 12, .inr 53)]) ++ [(46, 13, .inr 54)]) ++ cu_X1_55) ++ [(46, 14, .inr 55)]) ++ cu_X6_61) ++ [(46, 15, .inr 61)]) ++ cn_fill 53 k))
  | 0, k, h => by
    obtain rfl : k = 80 := by omega
    refine cn_iload_n dX9_init_92 rfl ?_
    refine cn_bipush (v := 80) dX9_init_93 (by decide) ?_
    refine cn_icmp_ge (tgt := 111) dX9_init_95 (by decide) (fun _ => ?_) (fun q => absurd q (by decide))
    exact cn_vret dX9_init_111 rfl
  | m + 1, k, h => by
    have hk : Int32.ofNat k < 80 := (on_lt (b := 80) (by omega) (by decide)).mpr (by omega)
    refine cn_iload_n dX9_init_92 rfl ?_
    refine cn_bipush (v := 80) dX9_init_93 (by decide) ?_
    refine cn_icmp_ge (tgt := 111) dX9_init_95 (by decide) (fun q => absurd hk q) (fun _ => ?_)
    refine cn_aload_n dX9_init_98 rfl ?_
    refine cn_getR (q := 53) fk_X9_30 (by decide) dX9_init_99 (by decide) (by decide) (by rw [← cn_ups_app, cn_fill_2]; rfl) ?_
    refine cn_iload_n dX9_init_102 rfl ?_
    refine cn_iconst (v := (-1)) dX9_init_103 (by decide) ?_
    refine cn_iast dX9_init_104 (by decide) (by decide) (by decide) (fun q => q.elim (on_neg (by omega)) (fun q => by rw [on_cl (by omega)] at q; have : am_ln 53 = 80 := by decide
                                                                                                                      omega)) ?_
    rw [on_cl (by omega), cn_ups_I, List.append_assoc, ← cn_fill_s]
    refine cn_iinc (v := Int32.ofNat (k + 1)) dX9_init_105 (am_lt rfl) rfl on_s ?_
    refine cn_goto (tgt := 92) dX9_init_108 (by decide) ?_
    exact tl_X9_46 m (k + 1) (by omega)
set_option maxRecDepth 20000 in
theorem tn_X9_46 {E : am_E} {l : Launch} (hl : l.stackTraces = false) {S : am_S} (hdf : cn_df S 46) : cn_M E l yX9_init (.code yX9_init cX9_init 2 none) 1 21 752 46 47 S 68 (cn_ups S cu_X9_46) := by
  refine cn_M_of (by decide) rfl (by decide) ?_
  show cn_Ev E l cn_K0 (RX9, cX9_init, 2, none, [], am_rm 1 21 752) (fun below args s => MQ below (cn_Q E 68 (cn_ups S cu_X9_46)) args s 21 752 (am_A E)) 0 0 0 [some (.ref 46), none] [] 47 (cn_ups S [])
  refine cn_aload_n dX9_init_0 rfl ?_
  refine cn_obj dX9_init_1 (am_G_t (i := 42) (by decide +kernel) rfl) ⟨by decide, by decide⟩ (am_le rfl) ?_
  refine cn_aload_n dX9_init_4 rfl ?_
  refine cn_bipush (v := 8) dX9_init_5 (by decide) ?_
  refine cn_newa (t := 1) (N := 8) (ty := .int) rfl (am_G_t (i := 76) (by decide +kernel) rfl) (fun _ => rfl) (fun _ _ h => h) (by decide) (by decide) (fun E S h0 H h => cn_ent_i (by decide) (by decide) h0 h) (by decide) (by decide) (by decide) (fun j => ((cn_df_ups _ S hdf (by decide) (by decide +kernel)) 47 (Nat.le_refl _) j).1) ⟨by decide, by decide⟩ dX9_init_7 ?_
  refine cn_putR (ty := (.array .int)) rfl rfl fk_X9_9 tyX9 tyX9_ok nmX9 (fun _ => ⟨fun _ _ _ h => h, rfl⟩) (by decide +kernel) (by decide) dX9_init_9 (by decide) (by decide) (by decide) ?_
  rw [cn_ups_R]
  refine cn_aload_n dX9_init_12 rfl ?_
  refine cn_bipush (v := 8) dX9_init_13 (by decide) ?_
  refine cn_newa (t := 1) (N := 8) (ty := .int) rfl (am_G_t (i := 76) (by decide +kernel) rfl) (fun _ => rfl) (fun _ _ h => h) (by decide) (by decide) (fun E S h0 H h => cn_ent_i (by decide) (by decide) h0 h) (by decide) (by decide) (by decide) (fun j => ((cn_df_ups _ S hdf (by decide) (by decide +kernel)) 48 (Nat.le_refl _) j).1) ⟨by decide, by decide⟩ dX9_init_15 ?_
  refine cn_putR (ty := (.array .int)) rfl rfl fk_X9_15 tyX9 tyX9_ok nmX9 (fun _ => ⟨fun _ _ _ h => h, rfl⟩) (by decide +kernel) (by decide) dX9_init_17 (by decide) (by decide) (by decide) ?_
  rw [cn_ups_R]
  refine cn_aload_n dX9_init_20 rfl ?_
  refine cn_bipush (v := 8) dX9_init_21 (by decide) ?_
  refine cn_newa (t := 1) (N := 8) (ty := .int) rfl (am_G_t (i := 76) (by decide +kernel) rfl) (fun _ => rfl) (fun _ _ h => h) (by decide) (by decide) (fun E S h0 H h => cn_ent_i (by decide) (by decide) h0 h) (by decide) (by decide) (by decide) (fun j => ((cn_df_ups _ S hdf (by decide) (by decide +kernel)) 49 (Nat.le_refl _) j).1) ⟨by decide, by decide⟩ dX9_init_23 ?_
  refine cn_putR (ty := (.array .int)) rfl rfl fk_X9_18 tyX9 tyX9_ok nmX9 (fun _ => ⟨fun _ _ _ h => h, rfl⟩) (by decide +kernel) (by decide) dX9_init_25 (by decide) (by decide) (by decide) ?_
  rw [cn_ups_R]
  refine cn_aload_n dX9_init_28 rfl ?_
  refine cn_bipush (v := 8) dX9_init_29 (by decide) ?_
  refine cn_newa (t := 1) (N := 8) (ty := .int) rfl (am_G_t (i := 76) (by decide +kernel) rfl) (fun _ => rfl) (fun _ _ h => h) (by decide) (by decide) (fun E S h0 H h => cn_ent_i (by decide) (by decide) h0 h) (by decide) (by decide) (by decide) (fun j => ((cn_df_ups _ S hdf (by decide) (by decide +kernel)) 50 (Nat.le_refl _) j).1) ⟨by decide, by decide⟩ dX9_init_31 ?_
  refine cn_putR (ty := (.array .int)) rfl rfl fk_X9_21 tyX9 tyX9_ok nmX9 (fun _ => ⟨fun _ _ _ h => h, rfl⟩) (by decide +kernel) (by decide) dX9_init_33 (by decide) (by decide) (by decide) ?_
  rw [cn_ups_R]
  refine cn_aload_n dX9_init_36 rfl ?_
  refine cn_bipush (v := 8) dX9_init_37 (by decide) ?_
  refine cn_newa (t := 1) (N := 8) (ty := .int) rfl (am_G_t (i := 76) (by decide +kernel) rfl) (fun _ => rfl) (fun _ _ h => h) (by decide) (by decide) (fun E S h0 H h => cn_ent_i (by decide) (by decide) h0 h) (by decide) (by decide) (by decide) (fun j => ((cn_df_ups _ S hdf (by decide) (by decide +kernel)) 51 (Nat.le_refl _) j).1) ⟨by decide, by decide⟩ dX9_init_39 ?_
  refine cn_putR (ty := (.array .int)) rfl rfl fk_X9_24 tyX9 tyX9_ok nmX9 (fun _ => ⟨fun _ _ _ h => h, rfl⟩) (by decide +kernel) (by decide) dX9_init_41 (by decide) (by decide) (by decide) ?_
  rw [cn_ups_R]
  refine cn_aload_n dX9_init_44 rfl ?_
  refine cn_bipush (v := 10) dX9_init_45 (by decide) ?_
  refine cn_newa (t := 1) (N := 10) (ty := .int) rfl (am_G_t (i := 76) (by decide +kernel) rfl) (fun _ => rfl) (fun _ _ h => h) (by decide) (by decide) (fun E S h0 H h => cn_ent_i (by decide) (by decide) h0 h) (by decide) (by decide) (by decide) (fun j => ((cn_df_ups _ S hdf (by decide) (by decide +kernel)) 52 (Nat.le_refl _) j).1) ⟨by decide, by decide⟩ dX9_init_47 ?_
  refine cn_putR (ty := (.array .int)) rfl rfl fk_X9_27 tyX9 tyX9_ok nmX9 (fun _ => ⟨fun _ _ _ h => h, rfl⟩) (by decide +kernel) (by decide) dX9_init_49 (by decide) (by decide) (by decide) ?_
  rw [cn_ups_R]
  refine cn_aload_n dX9_init_52 rfl ?_
  refine cn_bipush (v := 80) dX9_init_53 (by decide) ?_
  refine cn_newa (t := 1) (N := 80) (ty := .int) rfl (am_G_t (i := 76) (by decide +kernel) rfl) (fun _ => rfl) (fun _ _ h => h) (by decide) (by decide) (fun E S h0 H h => cn_ent_i (by decide) (by decide) h0 h) (by decide) (by decide) (by decide) (fun j => ((cn_df_ups _ S hdf (by decide) (by decide +kernel)) 53 (Nat.le_refl _) j).1) ⟨by decide, by decide⟩ dX9_init_55 ?_
  refine cn_putR (ty := (.array .int)) rfl rfl fk_X9_30 tyX9 tyX9_ok nmX9 (fun _ => ⟨fun _ _ _ h => h, rfl⟩) (by decide +kernel) (by decide) dX9_init_57 (by decide) (by decide) (by decide) ?_
  rw [cn_ups_R]
  refine cn_aload_n dX9_init_60 rfl ?_
  refine cn_bipush (v := 64) dX9_init_61 (by decide) ?_
  refine cn_newa (t := 1) (N := 64) (ty := .int) rfl (am_G_t (i := 76) (by decide +kernel) rfl) (fun _ => rfl) (fun _ _ h => h) (by decide) (by decide) (fun E S h0 H h => cn_ent_i (by decide) (by decide) h0 h) (by decide) (by decide) (by decide) (fun j => ((cn_df_ups _ S hdf (by decide) (by decide +kernel)) 54 (Nat.le_refl _) j).1) ⟨by decide, by decide⟩ dX9_init_63 ?_
  refine cn_putR (ty := (.array .int)) rfl rfl fk_X9_33 tyX9 tyX9_ok nmX9 (fun _ => ⟨fun _ _ _ h => h, rfl⟩) (by decide +kernel) (by decide) dX9_init_65 (by decide) (by decide) (by decide) ?_
  rw [cn_ups_R]
  refine cn_aload_n dX9_init_68 rfl ?_
  refine cn_new uw_X1 rfl tyX1 tyX1_ok (am_G_t (i := 43) (by decide +kernel) rfl) it_X1 in_X1 (by decide) (by decide) (by decide) dv_X1 (fun j => (cn_df_ups _ S hdf (by decide) (by decide +kernel)) 55 (Nat.le_refl _) j) ⟨by decide, by decide⟩ dX9_init_69 ?_
  refine cn_dup dX9_init_72 rfl ?_
  refine cn_callIN (host := "BellTown") cm_X1_init (am_nw_t (i := 45) (by decide +kernel) rfl) im_X1_init in_X1 rfl ⟨by decide, by decide, by decide +kernel⟩ dX9_init_73 (am_le rfl) (am_fit (by omega) (by decide) (by decide) (by decide)) (tn_X1_55 hl (cn_df_ups _ S hdf (by decide) (by decide +kernel))) ?_
  rw [cn_ups_app]
  refine cn_putR (ty := (.object "BellTown$Law")) rfl rfl fk_X9_39 tyX9 tyX9_ok nmX9 (fun _ => ⟨fun _ _ _ h => h, rfl⟩) (by decide +kernel) (by decide) dX9_init_76 (by decide) (by decide) (by decide) ?_
  rw [cn_ups_R]
  refine cn_aload_n dX9_init_79 rfl ?_
  refine cn_new uw_X6 rfl tyX6 tyX6_ok (am_G_t (i := 78) (by decide +kernel) rfl) it_X6 in_X6 (by decide) (by decide) (by decide) dv_X6 (fun j => (cn_df_ups _ S hdf (by decide) (by decide +kernel)) 61 (Nat.le_refl _) j) ⟨by decide, by decide⟩ dX9_init_80 ?_
  refine cn_dup dX9_init_83 rfl ?_
  refine cn_callIN (host := "BellTown") cm_X6_init (am_nw_t (i := 80) (by decide +kernel) rfl) im_X6_init in_X6 rfl ⟨by decide, by decide, by decide +kernel⟩ dX9_init_84 (am_le rfl) (am_fit (by omega) (by decide) (by decide) (by decide)) (tn_X6_61 hl (cn_df_ups _ S hdf (by decide) (by decide +kernel))) ?_
  rw [cn_ups_app]
  refine cn_putR (ty := (.object "BellTown$Ringings")) rfl rfl fk_X9_46 tyX9 tyX9_ok nmX9 (fun _ => ⟨fun _ _ _ h => h, rfl⟩) (by decide +kernel) (by decide) dX9_init_87 (by decide) (by decide) (by decide) ?_
  rw [cn_ups_R]
  refine cn_iconst (v := 0) dX9_init_90 (by decide) ?_
  refine cn_istore_n dX9_init_91 (am_lt rfl) ?_
  have h0 := tl_X9_46 (E := E) (l := l) (S := S) 80 0 rfl
  rw [show cn_fill 53 0 = [] from rfl, List.append_nil] at h0
  exact h0
def cu_X6_68 : List cn_U := (((((([] ++ [(68, 1, .inr 69)]) ++ [(68, 2, .inr 70)]) ++ [(68, 3, .inr 71)]) ++ [(68, 4, .inr 72)]) ++ [(68, 5, .inr 73)]) ++ [(68, 6, .inr 74)])
set_option maxRecDepth 20000 in
theorem tn_X6_68 {E : am_E} {l : Launch} (hl : l.stackTraces = false) {S : am_S} (hdf : cn_df S 68) : cn_M E l yX6_init (.code yX6_init cX6_init 1 none) 0 6 72 68 69 S 75 (cn_ups S cu_X6_68) := by
  refine cn_M_of (by decide) rfl (by decide) ?_
  show cn_Ev E l cn_K0 (RX6, cX6_init, 1, none, [], am_rm 0 6 72) (fun below args s => MQ below (cn_Q E 75 (cn_ups S cu_X6_68)) args s 6 72 (am_A E)) 0 0 0 [some (.ref 68)] [] 69 (cn_ups S [])
  refine cn_aload_n dX6_init_0 rfl ?_
  refine cn_obj dX6_init_1 (am_G_t (i := 83) (by decide +kernel) rfl) ⟨by decide, by decide⟩ (am_le rfl) ?_
  refine cn_aload_n dX6_init_4 rfl ?_
  refine cn_bipush (v := 12) dX6_init_5 (by decide) ?_
  refine cn_newa (t := 1) (N := 12) (ty := .int) rfl (am_G_t (i := 76) (by decide +kernel) rfl) (fun _ => rfl) (fun _ _ h => h) (by decide) (by decide) (fun E S h0 H h => cn_ent_i (by decide) (by decide) h0 h) (by decide) (by decide) (by decide) (fun j => ((cn_df_ups _ S hdf (by decide) (by decide +kernel)) 69 (Nat.le_refl _) j).1) ⟨by decide, by decide⟩ dX6_init_7 ?_
  refine cn_putR (ty := (.array .int)) rfl rfl fk_X6_9 tyX6 tyX6_ok nmX6 (fun _ => ⟨fun _ _ _ h => h, rfl⟩) (by decide +kernel) (by decide) dX6_init_9 (by decide) (by decide) (by decide) ?_
  rw [cn_ups_R]
  refine cn_aload_n dX6_init_12 rfl ?_
  refine cn_bipush (v := 12) dX6_init_13 (by decide) ?_
  refine cn_newa (t := 1) (N := 12) (ty := .int) rfl (am_G_t (i := 76) (by decide +kernel) rfl) (fun _ => rfl) (fun _ _ h => h) (by decide) (by decide) (fun E S h0 H h => cn_ent_i (by decide) (by decide) h0 h) (by decide) (by decide) (by decide) (fun j => ((cn_df_ups _ S hdf (by decide) (by decide +kernel)) 70 (Nat.le_refl _) j).1) ⟨by decide, by decide⟩ dX6_init_15 ?_
  refine cn_putR (ty := (.array .int)) rfl rfl fk_X6_15 tyX6 tyX6_ok nmX6 (fun _ => ⟨fun _ _ _ h => h, rfl⟩) (by decide +kernel) (by decide) dX6_init_17 (by decide) (by decide) (by decide) ?_
  rw [cn_ups_R]
  refine cn_aload_n dX6_init_20 rfl ?_
  refine cn_bipush (v := 12) dX6_init_21 (by decide) ?_
  refine cn_newa (t := 1) (N := 12) (ty := .int) rfl (am_G_t (i := 76) (by decide +kernel) rfl) (fun _ => rfl) (fun _ _ h => h) (by decide) (by decide) (fun E S h0 H h => cn_ent_i (by decide) (by decide) h0 h) (by decide) (by decide) (by decide) (fun j => ((cn_df_ups _ S hdf (by decide) (by decide +kernel)) 71 (Nat.le_refl _) j).1) ⟨by decide, by decide⟩ dX6_init_23 ?_
  refine cn_putR (ty := (.array .int)) rfl rfl fk_X6_18 tyX6 tyX6_ok nmX6 (fun _ => ⟨fun _ _ _ h => h, rfl⟩) (by decide +kernel) (by decide) dX6_init_25 (by decide) (by decide) (by decide) ?_
  rw [cn_ups_R]
  refine cn_aload_n dX6_init_28 rfl ?_
  refine cn_bipush (v := 12) dX6_init_29 (by decide) ?_
  refine cn_newa (t := 1) (N := 12) (ty := .int) rfl (am_G_t (i := 76) (by decide +kernel) rfl) (fun _ => rfl) (fun _ _ h => h) (by decide) (by decide) (fun E S h0 H h => cn_ent_i (by decide) (by decide) h0 h) (by decide) (by decide) (by decide) (fun j => ((cn_df_ups _ S hdf (by decide) (by decide +kernel)) 72 (Nat.le_refl _) j).1) ⟨by decide, by decide⟩ dX6_init_31 ?_
  refine cn_putR (ty := (.array .int)) rfl rfl fk_X6_21 tyX6 tyX6_ok nmX6 (fun _ => ⟨fun _ _ _ h => h, rfl⟩) (by decide +kernel) (by decide) dX6_init_33 (by decide) (by decide) (by decide) ?_
  rw [cn_ups_R]
  refine cn_aload_n dX6_init_36 rfl ?_
  refine cn_bipush (v := 12) dX6_init_37 (by decide) ?_
  refine cn_newa (t := 1) (N := 12) (ty := .int) rfl (am_G_t (i := 76) (by decide +kernel) rfl) (fun _ => rfl) (fun _ _ h => h) (by decide) (by decide) (fun E S h0 H h => cn_ent_i (by decide) (by decide) h0 h) (by decide) (by decide) (by decide) (fun j => ((cn_df_ups _ S hdf (by decide) (by decide +kernel)) 73 (Nat.le_refl _) j).1) ⟨by decide, by decide⟩ dX6_init_39 ?_
  refine cn_putR (ty := (.array .int)) rfl rfl fk_X6_24 tyX6 tyX6_ok nmX6 (fun _ => ⟨fun _ _ _ h => h, rfl⟩) (by decide +kernel) (by decide) dX6_init_41 (by decide) (by decide) (by decide) ?_
  rw [cn_ups_R]
  refine cn_aload_n dX6_init_44 rfl ?_
  refine cn_bipush (v := 12) dX6_init_45 (by decide) ?_
  refine cn_newa (t := 1) (N := 12) (ty := .int) rfl (am_G_t (i := 76) (by decide +kernel) rfl) (fun _ => rfl) (fun _ _ h => h) (by decide) (by decide) (fun E S h0 H h => cn_ent_i (by decide) (by decide) h0 h) (by decide) (by decide) (by decide) (fun j => ((cn_df_ups _ S hdf (by decide) (by decide +kernel)) 74 (Nat.le_refl _) j).1) ⟨by decide, by decide⟩ dX6_init_47 ?_
  refine cn_putR (ty := (.array .int)) rfl rfl fk_X6_27 tyX6 tyX6_ok nmX6 (fun _ => ⟨fun _ _ _ h => h, rfl⟩) (by decide +kernel) (by decide) dX6_init_49 (by decide) (by decide) (by decide) ?_
  rw [cn_ups_R]
  exact cn_vret dX6_init_52 rfl
def cu_X4_77 : List cn_U := ([] ++ [(77, 0, .inr 78)])
set_option maxRecDepth 20000 in
theorem tn_X4_77 {E : am_E} {l : Launch} (hl : l.stackTraces = false) {S : am_S} (hdf : cn_df S 77) : cn_M E l yX4_init (.code yX4_init cX4_init 1 none) 0 1 0 77 78 S 79 (cn_ups S cu_X4_77) := by
  refine cn_M_of (by decide) rfl (by decide) ?_
  show cn_Ev E l cn_K0 (RX4, cX4_init, 1, none, [], am_rm 0 1 0) (fun below args s => MQ below (cn_Q E 79 (cn_ups S cu_X4_77)) args s 1 0 (am_A E)) 0 0 0 [some (.ref 77)] [] 78 (cn_ups S [])
  refine cn_aload_n dX4_init_0 rfl ?_
  refine cn_obj dX4_init_1 (am_G_t (i := 209) (by decide +kernel) rfl) ⟨by decide, by decide⟩ (am_le rfl) ?_
  refine cn_aload_n dX4_init_4 rfl ?_
  refine cn_iconst (v := 0) dX4_init_5 (by decide) ?_
  refine cn_newa (t := 2) (N := 0) (ty := .byte) rfl (am_G_t (i := 75) (by decide +kernel) rfl) (fun _ => rfl) (fun _ _ h => h) (by decide) (by decide) (fun E S h0 H h => cn_ent_b (by decide) (by decide) h0 h) (by decide) (by decide) (by decide) (fun j => ((cn_df_ups _ S hdf (by decide) (by decide +kernel)) 78 (Nat.le_refl _) j).1) ⟨by decide, by decide⟩ dX4_init_6 ?_
  refine cn_putR (ty := (.array .byte)) rfl rfl fk_X4_9 tyX4 tyX4_ok nmX4 (fun _ => ⟨fun _ _ _ h => h, rfl⟩) (by decide +kernel) (by decide) dX4_init_8 (by decide) (by decide) (by decide) ?_
  rw [cn_ups_R]
  exact cn_vret dX4_init_11 rfl
def cu_X10_76 : List cn_U := (([] ++ cu_X4_77) ++ [(76, 0, .inr 77)])
set_option maxRecDepth 20000 in
theorem tn_X10_76 {E : am_E} {l : Launch} (hl : l.stackTraces = false) {S : am_S} (hdf : cn_df S 76) : cn_M E l yX10_init (.code yX10_init cX10_init 1 none) 1 2 6 76 77 S 79 (cn_ups S cu_X10_76) := by
  refine cn_M_of (by decide) rfl (by decide) ?_
  show cn_Ev E l cn_K0 (RX10, cX10_init, 1, none, [], am_rm 1 2 6) (fun below args s => MQ below (cn_Q E 79 (cn_ups S cu_X10_76)) args s 2 6 (am_A E)) 0 0 0 [some (.ref 76)] [] 77 (cn_ups S [])
  refine cn_aload_n dX10_init_0 rfl ?_
  refine cn_obj dX10_init_1 (am_G_t (i := 203) (by decide +kernel) rfl) ⟨by decide, by decide⟩ (am_le rfl) ?_
  refine cn_aload_n dX10_init_4 rfl ?_
  refine cn_new uw_X4 rfl tyX4 tyX4_ok (am_G_t (i := 204) (by decide +kernel) rfl) it_X4 in_X4 (by decide) (by decide) (by decide) dv_X4 (fun j => (cn_df_ups _ S hdf (by decide) (by decide +kernel)) 77 (Nat.le_refl _) j) ⟨by decide, by decide⟩ dX10_init_5 ?_
  refine cn_dup dX10_init_8 rfl ?_
  refine cn_callIN (host := "BellTown") cm_X4_init (am_nw_t (i := 206) (by decide +kernel) rfl) im_X4_init in_X4 rfl ⟨by decide, by decide, by decide +kernel⟩ dX10_init_9 (am_le rfl) (am_fit (by omega) (by decide) (by decide) (by decide)) (tn_X4_77 hl (cn_df_ups _ S hdf (by decide) (by decide +kernel))) ?_
  rw [cn_ups_app]
  refine cn_putR (ty := (.object "BellTown$Reader")) rfl rfl fk_X10_12 tyX10 tyX10_ok nmX10 (fun _ => ⟨fun _ _ _ h => h, rfl⟩) (by decide +kernel) (by decide) dX10_init_12 (by decide) (by decide) (by decide) ?_
  rw [cn_ups_R]
  exact cn_vret dX10_init_15 rfl
def cu_X4_80 : List cn_U := ([] ++ [(80, 0, .inr 81)])
set_option maxRecDepth 20000 in
theorem tn_X4_80 {E : am_E} {l : Launch} (hl : l.stackTraces = false) {S : am_S} (hdf : cn_df S 80) : cn_M E l yX4_init (.code yX4_init cX4_init 1 none) 0 1 0 80 81 S 82 (cn_ups S cu_X4_80) := by
  refine cn_M_of (by decide) rfl (by decide) ?_
  show cn_Ev E l cn_K0 (RX4, cX4_init, 1, none, [], am_rm 0 1 0) (fun below args s => MQ below (cn_Q E 82 (cn_ups S cu_X4_80)) args s 1 0 (am_A E)) 0 0 0 [some (.ref 80)] [] 81 (cn_ups S [])
  refine cn_aload_n dX4_init_0 rfl ?_
  refine cn_obj dX4_init_1 (am_G_t (i := 209) (by decide +kernel) rfl) ⟨by decide, by decide⟩ (am_le rfl) ?_
  refine cn_aload_n dX4_init_4 rfl ?_
  refine cn_iconst (v := 0) dX4_init_5 (by decide) ?_
  refine cn_newa (t := 2) (N := 0) (ty := .byte) rfl (am_G_t (i := 75) (by decide +kernel) rfl) (fun _ => rfl) (fun _ _ h => h) (by decide) (by decide) (fun E S h0 H h => cn_ent_b (by decide) (by decide) h0 h) (by decide) (by decide) (by decide) (fun j => ((cn_df_ups _ S hdf (by decide) (by decide +kernel)) 81 (Nat.le_refl _) j).1) ⟨by decide, by decide⟩ dX4_init_6 ?_
  refine cn_putR (ty := (.array .byte)) rfl rfl fk_X4_9 tyX4 tyX4_ok nmX4 (fun _ => ⟨fun _ _ _ h => h, rfl⟩) (by decide +kernel) (by decide) dX4_init_8 (by decide) (by decide) (by decide) ?_
  rw [cn_ups_R]
  exact cn_vret dX4_init_11 rfl
def cu_X2_79 : List cn_U := (([] ++ cu_X4_80) ++ [(79, 0, .inr 80)])
set_option maxRecDepth 20000 in
theorem tn_X2_79 {E : am_E} {l : Launch} (hl : l.stackTraces = false) {S : am_S} (hdf : cn_df S 79) : cn_M E l yX2_init (.code yX2_init cX2_init 1 none) 1 2 6 79 80 S 82 (cn_ups S cu_X2_79) := by
  refine cn_M_of (by decide) rfl (by decide) ?_
  show cn_Ev E l cn_K0 (RX2, cX2_init, 1, none, [], am_rm 1 2 6) (fun below args s => MQ below (cn_Q E 82 (cn_ups S cu_X2_79)) args s 2 6 (am_A E)) 0 0 0 [some (.ref 79)] [] 80 (cn_ups S [])
  refine cn_aload_n dX2_init_0 rfl ?_
  refine cn_obj dX2_init_1 (am_G_t (i := 240) (by decide +kernel) rfl) ⟨by decide, by decide⟩ (am_le rfl) ?_
  refine cn_aload_n dX2_init_4 rfl ?_
  refine cn_new uw_X4 rfl tyX4 tyX4_ok (am_G_t (i := 241) (by decide +kernel) rfl) it_X4 in_X4 (by decide) (by decide) (by decide) dv_X4 (fun j => (cn_df_ups _ S hdf (by decide) (by decide +kernel)) 80 (Nat.le_refl _) j) ⟨by decide, by decide⟩ dX2_init_5 ?_
  refine cn_dup dX2_init_8 rfl ?_
  refine cn_callIN (host := "BellTown") cm_X4_init (am_nw_t (i := 242) (by decide +kernel) rfl) im_X4_init in_X4 rfl ⟨by decide, by decide, by decide +kernel⟩ dX2_init_9 (am_le rfl) (am_fit (by omega) (by decide) (by decide) (by decide)) (tn_X4_80 hl (cn_df_ups _ S hdf (by decide) (by decide +kernel))) ?_
  rw [cn_ups_app]
  refine cn_putR (ty := (.object "BellTown$Reader")) rfl rfl fk_X2_12 tyX2 tyX2_ok nmX2 (fun _ => ⟨fun _ _ _ h => h, rfl⟩) (by decide +kernel) (by decide) dX2_init_12 (by decide) (by decide) (by decide) ?_
  rw [cn_ups_R]
  exact cn_vret dX2_init_15 rfl
def cu_X7_82 : List cn_U := (([] ++ [(82, 0, .inr 83)]) ++ [(82, 1, .inr 84)])
set_option maxRecDepth 20000 in
theorem tn_X7_82 {E : am_E} {l : Launch} (hl : l.stackTraces = false) {S : am_S} (hdf : cn_df S 82) : cn_M E l yX7_init (.code yX7_init cX7_init 1 none) 0 2 16 82 83 S 85 (cn_ups S cu_X7_82) := by
  refine cn_M_of (by decide) rfl (by decide) ?_
  show cn_Ev E l cn_K0 (RX7, cX7_init, 1, none, [], am_rm 0 2 16) (fun below args s => MQ below (cn_Q E 85 (cn_ups S cu_X7_82)) args s 2 16 (am_A E)) 0 0 0 [some (.ref 82)] [] 83 (cn_ups S [])
  refine cn_aload_n dX7_init_0 rfl ?_
  refine cn_obj dX7_init_1 (am_G_t (i := 252) (by decide +kernel) rfl) ⟨by decide, by decide⟩ (am_le rfl) ?_
  refine cn_aload_n dX7_init_4 rfl ?_
  refine cn_bipush (v := 8) dX7_init_5 (by decide) ?_
  refine cn_newa (t := 1) (N := 8) (ty := .int) rfl (am_G_t (i := 76) (by decide +kernel) rfl) (fun _ => rfl) (fun _ _ h => h) (by decide) (by decide) (fun E S h0 H h => cn_ent_i (by decide) (by decide) h0 h) (by decide) (by decide) (by decide) (fun j => ((cn_df_ups _ S hdf (by decide) (by decide +kernel)) 83 (Nat.le_refl _) j).1) ⟨by decide, by decide⟩ dX7_init_7 ?_
  refine cn_putR (ty := (.array .int)) rfl rfl fk_X7_9 tyX7 tyX7_ok nmX7 (fun _ => ⟨fun _ _ _ h => h, rfl⟩) (by decide +kernel) (by decide) dX7_init_9 (by decide) (by decide) (by decide) ?_
  rw [cn_ups_R]
  refine cn_aload_n dX7_init_12 rfl ?_
  refine cn_bipush (v := 8) dX7_init_13 (by decide) ?_
  refine cn_newa (t := 1) (N := 8) (ty := .int) rfl (am_G_t (i := 76) (by decide +kernel) rfl) (fun _ => rfl) (fun _ _ h => h) (by decide) (by decide) (fun E S h0 H h => cn_ent_i (by decide) (by decide) h0 h) (by decide) (by decide) (by decide) (fun j => ((cn_df_ups _ S hdf (by decide) (by decide +kernel)) 84 (Nat.le_refl _) j).1) ⟨by decide, by decide⟩ dX7_init_15 ?_
  refine cn_putR (ty := (.array .int)) rfl rfl fk_X7_15 tyX7 tyX7_ok nmX7 (fun _ => ⟨fun _ _ _ h => h, rfl⟩) (by decide +kernel) (by decide) dX7_init_17 (by decide) (by decide) (by decide) ?_
  rw [cn_ups_R]
  exact cn_vret dX7_init_20 rfl
def cu_X5_85 : List cn_U := ((([] ++ [(85, 0, .inr 86)]) ++ [(85, 1, .inr 87)]) ++ [(85, 2, .inr 88)])
set_option maxRecDepth 20000 in
theorem tn_X5_85 {E : am_E} {l : Launch} (hl : l.stackTraces = false) {S : am_S} (hdf : cn_df S 85) : cn_M E l yX5_init (.code yX5_init cX5_init 1 none) 0 3 24 85 86 S 89 (cn_ups S cu_X5_85) := by
  refine cn_M_of (by decide) rfl (by decide) ?_
  show cn_Ev E l cn_K0 (RX5, cX5_init, 1, none, [], am_rm 0 3 24) (fun below args s => MQ below (cn_Q E 89 (cn_ups S cu_X5_85)) args s 3 24 (am_A E)) 0 0 0 [some (.ref 85)] [] 86 (cn_ups S [])
  refine cn_aload_n dX5_init_0 rfl ?_
  refine cn_obj dX5_init_1 (am_G_t (i := 266) (by decide +kernel) rfl) ⟨by decide, by decide⟩ (am_le rfl) ?_
  refine cn_aload_n dX5_init_4 rfl ?_
  refine cn_bipush (v := 8) dX5_init_5 (by decide) ?_
  refine cn_newa (t := 1) (N := 8) (ty := .int) rfl (am_G_t (i := 76) (by decide +kernel) rfl) (fun _ => rfl) (fun _ _ h => h) (by decide) (by decide) (fun E S h0 H h => cn_ent_i (by decide) (by decide) h0 h) (by decide) (by decide) (by decide) (fun j => ((cn_df_ups _ S hdf (by decide) (by decide +kernel)) 86 (Nat.le_refl _) j).1) ⟨by decide, by decide⟩ dX5_init_7 ?_
  refine cn_putR (ty := (.array .int)) rfl rfl fk_X5_9 tyX5 tyX5_ok nmX5 (fun _ => ⟨fun _ _ _ h => h, rfl⟩) (by decide +kernel) (by decide) dX5_init_9 (by decide) (by decide) (by decide) ?_
  rw [cn_ups_R]
  refine cn_aload_n dX5_init_12 rfl ?_
  refine cn_bipush (v := 8) dX5_init_13 (by decide) ?_
  refine cn_newa (t := 1) (N := 8) (ty := .int) rfl (am_G_t (i := 76) (by decide +kernel) rfl) (fun _ => rfl) (fun _ _ h => h) (by decide) (by decide) (fun E S h0 H h => cn_ent_i (by decide) (by decide) h0 h) (by decide) (by decide) (by decide) (fun j => ((cn_df_ups _ S hdf (by decide) (by decide +kernel)) 87 (Nat.le_refl _) j).1) ⟨by decide, by decide⟩ dX5_init_15 ?_
  refine cn_putR (ty := (.array .int)) rfl rfl fk_X5_15 tyX5 tyX5_ok nmX5 (fun _ => ⟨fun _ _ _ h => h, rfl⟩) (by decide +kernel) (by decide) dX5_init_17 (by decide) (by decide) (by decide) ?_
  rw [cn_ups_R]
  refine cn_aload_n dX5_init_20 rfl ?_
  refine cn_bipush (v := 8) dX5_init_21 (by decide) ?_
  refine cn_newa (t := 1) (N := 8) (ty := .int) rfl (am_G_t (i := 76) (by decide +kernel) rfl) (fun _ => rfl) (fun _ _ h => h) (by decide) (by decide) (fun E S h0 H h => cn_ent_i (by decide) (by decide) h0 h) (by decide) (by decide) (by decide) (fun j => ((cn_df_ups _ S hdf (by decide) (by decide +kernel)) 88 (Nat.le_refl _) j).1) ⟨by decide, by decide⟩ dX5_init_23 ?_
  refine cn_putR (ty := (.array .int)) rfl rfl fk_X5_18 tyX5 tyX5_ok nmX5 (fun _ => ⟨fun _ _ _ h => h, rfl⟩) (by decide +kernel) (by decide) dX5_init_25 (by decide) (by decide) (by decide) ?_
  rw [cn_ups_R]
  exact cn_vret dX5_init_28 rfl
def cu_X8_89 : List cn_U := (((([] ++ [(89, 0, .inr 90)]) ++ [(89, 1, .inr 91)]) ++ [(89, 2, .inr 92)]) ++ [(89, 3, .inr 93)])
set_option maxRecDepth 20000 in
theorem tn_X8_89 {E : am_E} {l : Launch} (hl : l.stackTraces = false) {S : am_S} (hdf : cn_df S 89) : cn_M E l yX8_init (.code yX8_init cX8_init 1 none) 0 4 32 89 90 S 94 (cn_ups S cu_X8_89) := by
  refine cn_M_of (by decide) rfl (by decide) ?_
  show cn_Ev E l cn_K0 (RX8, cX8_init, 1, none, [], am_rm 0 4 32) (fun below args s => MQ below (cn_Q E 94 (cn_ups S cu_X8_89)) args s 4 32 (am_A E)) 0 0 0 [some (.ref 89)] [] 90 (cn_ups S [])
  refine cn_aload_n dX8_init_0 rfl ?_
  refine cn_obj dX8_init_1 (am_G_t (i := 282) (by decide +kernel) rfl) ⟨by decide, by decide⟩ (am_le rfl) ?_
  refine cn_aload_n dX8_init_4 rfl ?_
  refine cn_bipush (v := 8) dX8_init_5 (by decide) ?_
  refine cn_newa (t := 1) (N := 8) (ty := .int) rfl (am_G_t (i := 76) (by decide +kernel) rfl) (fun _ => rfl) (fun _ _ h => h) (by decide) (by decide) (fun E S h0 H h => cn_ent_i (by decide) (by decide) h0 h) (by decide) (by decide) (by decide) (fun j => ((cn_df_ups _ S hdf (by decide) (by decide +kernel)) 90 (Nat.le_refl _) j).1) ⟨by decide, by decide⟩ dX8_init_7 ?_
  refine cn_putR (ty := (.array .int)) rfl rfl fk_X8_9 tyX8 tyX8_ok nmX8 (fun _ => ⟨fun _ _ _ h => h, rfl⟩) (by decide +kernel) (by decide) dX8_init_9 (by decide) (by decide) (by decide) ?_
  rw [cn_ups_R]
  refine cn_aload_n dX8_init_12 rfl ?_
  refine cn_bipush (v := 8) dX8_init_13 (by decide) ?_
  refine cn_newa (t := 1) (N := 8) (ty := .int) rfl (am_G_t (i := 76) (by decide +kernel) rfl) (fun _ => rfl) (fun _ _ h => h) (by decide) (by decide) (fun E S h0 H h => cn_ent_i (by decide) (by decide) h0 h) (by decide) (by decide) (by decide) (fun j => ((cn_df_ups _ S hdf (by decide) (by decide +kernel)) 91 (Nat.le_refl _) j).1) ⟨by decide, by decide⟩ dX8_init_15 ?_
  refine cn_putR (ty := (.array .int)) rfl rfl fk_X8_15 tyX8 tyX8_ok nmX8 (fun _ => ⟨fun _ _ _ h => h, rfl⟩) (by decide +kernel) (by decide) dX8_init_17 (by decide) (by decide) (by decide) ?_
  rw [cn_ups_R]
  refine cn_aload_n dX8_init_20 rfl ?_
  refine cn_bipush (v := 8) dX8_init_21 (by decide) ?_
  refine cn_newa (t := 1) (N := 8) (ty := .int) rfl (am_G_t (i := 76) (by decide +kernel) rfl) (fun _ => rfl) (fun _ _ h => h) (by decide) (by decide) (fun E S h0 H h => cn_ent_i (by decide) (by decide) h0 h) (by decide) (by decide) (by decide) (fun j => ((cn_df_ups _ S hdf (by decide) (by decide +kernel)) 92 (Nat.le_refl _) j).1) ⟨by decide, by decide⟩ dX8_init_23 ?_
  refine cn_putR (ty := (.array .int)) rfl rfl fk_X8_18 tyX8 tyX8_ok nmX8 (fun _ => ⟨fun _ _ _ h => h, rfl⟩) (by decide +kernel) (by decide) dX8_init_25 (by decide) (by decide) (by decide) ?_
  rw [cn_ups_R]
  refine cn_aload_n dX8_init_28 rfl ?_
  refine cn_bipush (v := 8) dX8_init_29 (by decide) ?_
  refine cn_newa (t := 1) (N := 8) (ty := .int) rfl (am_G_t (i := 76) (by decide +kernel) rfl) (fun _ => rfl) (fun _ _ h => h) (by decide) (by decide) (fun E S h0 H h => cn_ent_i (by decide) (by decide) h0 h) (by decide) (by decide) (by decide) (fun j => ((cn_df_ups _ S hdf (by decide) (by decide +kernel)) 93 (Nat.le_refl _) j).1) ⟨by decide, by decide⟩ dX8_init_31 ?_
  refine cn_putR (ty := (.array .int)) rfl rfl fk_X8_21 tyX8 tyX8_ok nmX8 (fun _ => ⟨fun _ _ _ h => h, rfl⟩) (by decide +kernel) (by decide) dX8_init_33 (by decide) (by decide) (by decide) ?_
  rw [cn_ups_R]
  exact cn_vret dX8_init_36 rfl
def cu_X0_94 : List cn_U := (((([] ++ [(94, 0, .inr 95)]) ++ [(94, 1, .inr 96)]) ++ [(94, 2, .inr 97)]) ++ [(94, 3, .inr 98)])
set_option maxRecDepth 20000 in
theorem tn_X0_94 {E : am_E} {l : Launch} (hl : l.stackTraces = false) {S : am_S} (hdf : cn_df S 94) : cn_M E l yX0_init (.code yX0_init cX0_init 1 none) 0 4 148 94 95 S 99 (cn_ups S cu_X0_94) := by
  refine cn_M_of (by decide) rfl (by decide) ?_
  show cn_Ev E l cn_K0 (RX0, cX0_init, 1, none, [], am_rm 0 4 148) (fun below args s => MQ below (cn_Q E 99 (cn_ups S cu_X0_94)) args s 4 148 (am_A E)) 0 0 0 [some (.ref 94)] [] 95 (cn_ups S [])
  refine cn_aload_n dX0_init_0 rfl ?_
  refine cn_obj dX0_init_1 (am_G_t (i := 312) (by decide +kernel) rfl) ⟨by decide, by decide⟩ (am_le rfl) ?_
  refine cn_aload_n dX0_init_4 rfl ?_
  refine cn_bipush (v := 64) dX0_init_5 (by decide) ?_
  refine cn_newa (t := 1) (N := 64) (ty := .int) rfl (am_G_t (i := 76) (by decide +kernel) rfl) (fun _ => rfl) (fun _ _ h => h) (by decide) (by decide) (fun E S h0 H h => cn_ent_i (by decide) (by decide) h0 h) (by decide) (by decide) (by decide) (fun j => ((cn_df_ups _ S hdf (by decide) (by decide +kernel)) 95 (Nat.le_refl _) j).1) ⟨by decide, by decide⟩ dX0_init_7 ?_
  refine cn_putR (ty := (.array .int)) rfl rfl fk_X0_11 tyX0 tyX0_ok nmX0 (fun _ => ⟨fun _ _ _ h => h, rfl⟩) (by decide +kernel) (by decide) dX0_init_9 (by decide) (by decide) (by decide) ?_
  rw [cn_ups_R]
  refine cn_aload_n dX0_init_12 rfl ?_
  refine cn_bipush (v := 64) dX0_init_13 (by decide) ?_
  refine cn_newa (t := 1) (N := 64) (ty := .int) rfl (am_G_t (i := 76) (by decide +kernel) rfl) (fun _ => rfl) (fun _ _ h => h) (by decide) (by decide) (fun E S h0 H h => cn_ent_i (by decide) (by decide) h0 h) (by decide) (by decide) (by decide) (fun j => ((cn_df_ups _ S hdf (by decide) (by decide +kernel)) 96 (Nat.le_refl _) j).1) ⟨by decide, by decide⟩ dX0_init_15 ?_
  refine cn_putR (ty := (.array .int)) rfl rfl fk_X0_15 tyX0 tyX0_ok nmX0 (fun _ => ⟨fun _ _ _ h => h, rfl⟩) (by decide +kernel) (by decide) dX0_init_17 (by decide) (by decide) (by decide) ?_
  rw [cn_ups_R]
  refine cn_aload_n dX0_init_20 rfl ?_
  refine cn_bipush (v := 10) dX0_init_21 (by decide) ?_
  refine cn_newa (t := 1) (N := 10) (ty := .int) rfl (am_G_t (i := 76) (by decide +kernel) rfl) (fun _ => rfl) (fun _ _ h => h) (by decide) (by decide) (fun E S h0 H h => cn_ent_i (by decide) (by decide) h0 h) (by decide) (by decide) (by decide) (fun j => ((cn_df_ups _ S hdf (by decide) (by decide +kernel)) 97 (Nat.le_refl _) j).1) ⟨by decide, by decide⟩ dX0_init_23 ?_
  refine cn_putR (ty := (.array .int)) rfl rfl fk_X0_18 tyX0 tyX0_ok nmX0 (fun _ => ⟨fun _ _ _ h => h, rfl⟩) (by decide +kernel) (by decide) dX0_init_25 (by decide) (by decide) (by decide) ?_
  rw [cn_ups_R]
  refine cn_aload_n dX0_init_28 rfl ?_
  refine cn_bipush (v := 10) dX0_init_29 (by decide) ?_
  refine cn_newa (t := 1) (N := 10) (ty := .int) rfl (am_G_t (i := 76) (by decide +kernel) rfl) (fun _ => rfl) (fun _ _ h => h) (by decide) (by decide) (fun E S h0 H h => cn_ent_i (by decide) (by decide) h0 h) (by decide) (by decide) (by decide) (fun j => ((cn_df_ups _ S hdf (by decide) (by decide +kernel)) 98 (Nat.le_refl _) j).1) ⟨by decide, by decide⟩ dX0_init_31 ?_
  refine cn_putR (ty := (.array .int)) rfl rfl fk_X0_21 tyX0 tyX0_ok nmX0 (fun _ => ⟨fun _ _ _ h => h, rfl⟩) (by decide +kernel) (by decide) dX0_init_33 (by decide) (by decide) (by decide) ?_
  rw [cn_ups_R]
  exact cn_vret dX0_init_36 rfl
def cu_X3_99 : List cn_U := ((((([] ++ [(99, 0, .inr 100)]) ++ [(99, 1, .inr 101)]) ++ [(99, 2, .inr 102)]) ++ [(99, 3, .inr 103)]) ++ [(99, 4, .inr 104)])
set_option maxRecDepth 20000 in
theorem tn_X3_99 {E : am_E} {l : Launch} (hl : l.stackTraces = false) {S : am_S} (hdf : cn_df S 99) : cn_M E l yX3_init (.code yX3_init cX3_init 1 none) 0 5 35 99 100 S 105 (cn_ups S cu_X3_99) := by
  refine cn_M_of (by decide) rfl (by decide) ?_
  show cn_Ev E l cn_K0 (RX3, cX3_init, 1, none, [], am_rm 0 5 35) (fun below args s => MQ below (cn_Q E 105 (cn_ups S cu_X3_99)) args s 5 35 (am_A E)) 0 0 0 [some (.ref 99)] [] 100 (cn_ups S [])
  refine cn_aload_n dX3_init_0 rfl ?_
  refine cn_obj dX3_init_1 (am_G_t (i := 345) (by decide +kernel) rfl) ⟨by decide, by decide⟩ (am_le rfl) ?_
  refine cn_aload_n dX3_init_4 rfl ?_
  refine cn_bipush (v := 20) dX3_init_5 (by decide) ?_
  refine cn_newa (t := 1) (N := 20) (ty := .int) rfl (am_G_t (i := 76) (by decide +kernel) rfl) (fun _ => rfl) (fun _ _ h => h) (by decide) (by decide) (fun E S h0 H h => cn_ent_i (by decide) (by decide) h0 h) (by decide) (by decide) (by decide) (fun j => ((cn_df_ups _ S hdf (by decide) (by decide +kernel)) 100 (Nat.le_refl _) j).1) ⟨by decide, by decide⟩ dX3_init_7 ?_
  refine cn_putR (ty := (.array .int)) rfl rfl fk_X3_11 tyX3 tyX3_ok nmX3 (fun _ => ⟨fun _ _ _ h => h, rfl⟩) (by decide +kernel) (by decide) dX3_init_9 (by decide) (by decide) (by decide) ?_
  rw [cn_ups_R]
  refine cn_aload_n dX3_init_12 rfl ?_
  refine cn_bipush (v := 6) dX3_init_13 (by decide) ?_
  refine cn_newa (t := 1) (N := 6) (ty := .int) rfl (am_G_t (i := 76) (by decide +kernel) rfl) (fun _ => rfl) (fun _ _ h => h) (by decide) (by decide) (fun E S h0 H h => cn_ent_i (by decide) (by decide) h0 h) (by decide) (by decide) (by decide) (fun j => ((cn_df_ups _ S hdf (by decide) (by decide +kernel)) 101 (Nat.le_refl _) j).1) ⟨by decide, by decide⟩ dX3_init_15 ?_
  refine cn_putR (ty := (.array .int)) rfl rfl fk_X3_15 tyX3 tyX3_ok nmX3 (fun _ => ⟨fun _ _ _ h => h, rfl⟩) (by decide +kernel) (by decide) dX3_init_17 (by decide) (by decide) (by decide) ?_
  rw [cn_ups_R]
  refine cn_aload_n dX3_init_20 rfl ?_
  refine cn_iconst (v := 3) dX3_init_21 (by decide) ?_
  refine cn_newa (t := 1) (N := 3) (ty := .int) rfl (am_G_t (i := 76) (by decide +kernel) rfl) (fun _ => rfl) (fun _ _ h => h) (by decide) (by decide) (fun E S h0 H h => cn_ent_i (by decide) (by decide) h0 h) (by decide) (by decide) (by decide) (fun j => ((cn_df_ups _ S hdf (by decide) (by decide +kernel)) 102 (Nat.le_refl _) j).1) ⟨by decide, by decide⟩ dX3_init_22 ?_
  refine cn_putR (ty := (.array .int)) rfl rfl fk_X3_18 tyX3 tyX3_ok nmX3 (fun _ => ⟨fun _ _ _ h => h, rfl⟩) (by decide +kernel) (by decide) dX3_init_24 (by decide) (by decide) (by decide) ?_
  rw [cn_ups_R]
  refine cn_aload_n dX3_init_27 rfl ?_
  refine cn_iconst (v := 3) dX3_init_28 (by decide) ?_
  refine cn_newa (t := 1) (N := 3) (ty := .int) rfl (am_G_t (i := 76) (by decide +kernel) rfl) (fun _ => rfl) (fun _ _ h => h) (by decide) (by decide) (fun E S h0 H h => cn_ent_i (by decide) (by decide) h0 h) (by decide) (by decide) (by decide) (fun j => ((cn_df_ups _ S hdf (by decide) (by decide +kernel)) 103 (Nat.le_refl _) j).1) ⟨by decide, by decide⟩ dX3_init_29 ?_
  refine cn_putR (ty := (.array .int)) rfl rfl fk_X3_21 tyX3 tyX3_ok nmX3 (fun _ => ⟨fun _ _ _ h => h, rfl⟩) (by decide +kernel) (by decide) dX3_init_31 (by decide) (by decide) (by decide) ?_
  rw [cn_ups_R]
  refine cn_aload_n dX3_init_34 rfl ?_
  refine cn_iconst (v := 3) dX3_init_35 (by decide) ?_
  refine cn_newa (t := 1) (N := 3) (ty := .int) rfl (am_G_t (i := 76) (by decide +kernel) rfl) (fun _ => rfl) (fun _ _ h => h) (by decide) (by decide) (fun E S h0 H h => cn_ent_i (by decide) (by decide) h0 h) (by decide) (by decide) (by decide) (fun j => ((cn_df_ups _ S hdf (by decide) (by decide +kernel)) 104 (Nat.le_refl _) j).1) ⟨by decide, by decide⟩ dX3_init_36 ?_
  refine cn_putR (ty := (.array .int)) rfl rfl fk_X3_24 tyX3 tyX3_ok nmX3 (fun _ => ⟨fun _ _ _ h => h, rfl⟩) (by decide +kernel) (by decide) dX3_init_38 (by decide) (by decide) (by decide) ?_
  rw [cn_ups_R]
  exact cn_vret dX3_init_41 rfl
def cu_X11_0 : List cn_U := ((((((((((((((((((((((((([] ++ [(0, 0, .inr 1)]) ++ [(0, 2, .inl (-1))]) ++ cu_X9_2) ++ [(0, 3, .inr 2)]) ++ cu_X9_24) ++ [(0, 4, .inr 24)]) ++ cu_X9_46) ++ [(0, 5, .inr 46)]) ++ cu_X6_68) ++ [(0, 7, .inr 68)]) ++ [(0, 8, .inr 75)]) ++ cu_X10_76) ++ [(0, 9, .inr 76)]) ++ cu_X2_79) ++ [(0, 10, .inr 79)]) ++ cu_X7_82) ++ [(0, 11, .inr 82)]) ++ cu_X5_85) ++ [(0, 12, .inr 85)]) ++ cu_X8_89) ++ [(0, 13, .inr 89)]) ++ cu_X0_94) ++ [(0, 14, .inr 94)]) ++ cu_X3_99) ++ [(0, 15, .inr 99)])
set_option maxRecDepth 20000 in
theorem tn_X11_0 {E : am_E} {l : Launch} (hl : l.stackTraces = false) {S : am_S} (hdf : cn_df S 0) : cn_M E l yX11_init (.code yX11_init cX11_init 1 none) 2 104 3144 0 1 S 105 (cn_ups S cu_X11_0) := by
  refine cn_M_of (by decide) rfl (by decide) ?_
  show cn_Ev E l cn_K0 (RX11, cX11_init, 1, none, [], am_rm 2 104 3144) (fun below args s => MQ below (cn_Q E 105 (cn_ups S cu_X11_0)) args s 104 3144 (am_A E)) 0 0 0 [some (.ref 0)] [] 1 (cn_ups S [])
  refine cn_aload_n dX11_init_0 rfl ?_
  refine cn_obj dX11_init_1 (am_G_t (i := 34) (by decide +kernel) rfl) ⟨by decide, by decide⟩ (am_le rfl) ?_
  refine cn_aload_n dX11_init_4 rfl ?_
  refine cn_sipush (v := 400) dX11_init_5 (by decide) ?_
  refine cn_newa (t := 2) (N := 400) (ty := .byte) rfl (am_G_t (i := 75) (by decide +kernel) rfl) (fun _ => rfl) (fun _ _ h => h) (by decide) (by decide) (fun E S h0 H h => cn_ent_b (by decide) (by decide) h0 h) (by decide) (by decide) (by decide) (fun j => ((cn_df_ups _ S hdf (by decide) (by decide +kernel)) 1 (Nat.le_refl _) j).1) ⟨by decide, by decide⟩ dX11_init_8 ?_
  refine cn_putR (ty := (.array .byte)) rfl rfl fk_X11_9 tyX11 tyX11_ok nmX11 (fun _ => ⟨fun _ _ _ h => h, rfl⟩) (by decide +kernel) (by decide) dX11_init_10 (by decide) (by decide) (by decide) ?_
  rw [cn_ups_R]
  refine cn_aload_n dX11_init_13 rfl ?_
  refine cn_iconst (v := (-1)) dX11_init_14 (by decide) ?_
  refine cn_putI fk_X11_13 tyX11 tyX11_ok nmX11 (fun _ => ⟨fun _ _ _ h => h, rfl⟩) (by decide +kernel) (by decide) dX11_init_15 (by decide) (by decide) (by decide) ?_
  rw [cn_ups_I]
  refine cn_aload_n dX11_init_18 rfl ?_
  refine cn_new uw_X9 rfl tyX9 tyX9_ok (am_G_t (i := 37) (by decide +kernel) rfl) it_X9 in_X9 (by decide) (by decide) (by decide) dv_X9 (fun j => (cn_df_ups _ S hdf (by decide) (by decide +kernel)) 2 (Nat.le_refl _) j) ⟨by decide, by decide⟩ dX11_init_19 ?_
  refine cn_dup dX11_init_22 rfl ?_
  refine cn_callIN (host := "BellTown") cm_X9_init (am_nw_t (i := 39) (by decide +kernel) rfl) im_X9_init in_X9 rfl ⟨by decide, by decide, by decide +kernel⟩ dX11_init_23 (am_le rfl) (am_fit (by omega) (by decide) (by decide) (by decide)) (tn_X9_2 hl (cn_df_ups _ S hdf (by decide) (by decide +kernel))) ?_
  rw [cn_ups_app]
  refine cn_putR (ty := (.object "BellTown$Town")) rfl rfl fk_X11_20 tyX11 tyX11_ok nmX11 (fun _ => ⟨fun _ _ _ h => h, rfl⟩) (by decide +kernel) (by decide) dX11_init_26 (by decide) (by decide) (by decide) ?_
  rw [cn_ups_R]
  refine cn_aload_n dX11_init_29 rfl ?_
  refine cn_new uw_X9 rfl tyX9 tyX9_ok (am_G_t (i := 37) (by decide +kernel) rfl) it_X9 in_X9 (by decide) (by decide) (by decide) dv_X9 (fun j => (cn_df_ups _ S hdf (by decide) (by decide +kernel)) 24 (Nat.le_refl _) j) ⟨by decide, by decide⟩ dX11_init_30 ?_
  refine cn_dup dX11_init_33 rfl ?_
  refine cn_callIN (host := "BellTown") cm_X9_init (am_nw_t (i := 39) (by decide +kernel) rfl) im_X9_init in_X9 rfl ⟨by decide, by decide, by decide +kernel⟩ dX11_init_34 (am_le rfl) (am_fit (by omega) (by decide) (by decide) (by decide)) (tn_X9_24 hl (cn_df_ups _ S hdf (by decide) (by decide +kernel))) ?_
  rw [cn_ups_app]
  refine cn_putR (ty := (.object "BellTown$Town")) rfl rfl fk_X11_24 tyX11 tyX11_ok nmX11 (fun _ => ⟨fun _ _ _ h => h, rfl⟩) (by decide +kernel) (by decide) dX11_init_37 (by decide) (by decide) (by decide) ?_
  rw [cn_ups_R]
  refine cn_aload_n dX11_init_40 rfl ?_
  refine cn_new uw_X9 rfl tyX9 tyX9_ok (am_G_t (i := 37) (by decide +kernel) rfl) it_X9 in_X9 (by decide) (by decide) (by decide) dv_X9 (fun j => (cn_df_ups _ S hdf (by decide) (by decide +kernel)) 46 (Nat.le_refl _) j) ⟨by decide, by decide⟩ dX11_init_41 ?_
  refine cn_dup dX11_init_44 rfl ?_
  refine cn_callIN (host := "BellTown") cm_X9_init (am_nw_t (i := 39) (by decide +kernel) rfl) im_X9_init in_X9 rfl ⟨by decide, by decide, by decide +kernel⟩ dX11_init_45 (am_le rfl) (am_fit (by omega) (by decide) (by decide) (by decide)) (tn_X9_46 hl (cn_df_ups _ S hdf (by decide) (by decide +kernel))) ?_
  rw [cn_ups_app]
  refine cn_putR (ty := (.object "BellTown$Town")) rfl rfl fk_X11_27 tyX11 tyX11_ok nmX11 (fun _ => ⟨fun _ _ _ h => h, rfl⟩) (by decide +kernel) (by decide) dX11_init_48 (by decide) (by decide) (by decide) ?_
  rw [cn_ups_R]
  refine cn_aload_n dX11_init_51 rfl ?_
  refine cn_new uw_X6 rfl tyX6 tyX6_ok (am_G_t (i := 196) (by decide +kernel) rfl) it_X6 in_X6 (by decide) (by decide) (by decide) dv_X6 (fun j => (cn_df_ups _ S hdf (by decide) (by decide +kernel)) 68 (Nat.le_refl _) j) ⟨by decide, by decide⟩ dX11_init_52 ?_
  refine cn_dup dX11_init_55 rfl ?_
  refine cn_callIN (host := "BellTown") cm_X6_init (am_nw_t (i := 197) (by decide +kernel) rfl) im_X6_init in_X6 rfl ⟨by decide, by decide, by decide +kernel⟩ dX11_init_56 (am_le rfl) (am_fit (by omega) (by decide) (by decide) (by decide)) (tn_X6_68 hl (cn_df_ups _ S hdf (by decide) (by decide +kernel))) ?_
  rw [cn_ups_app]
  refine cn_putR (ty := (.object "BellTown$Ringings")) rfl rfl fk_X11_33 tyX11 tyX11_ok nmX11 (fun _ => ⟨fun _ _ _ h => h, rfl⟩) (by decide +kernel) (by decide) dX11_init_59 (by decide) (by decide) (by decide) ?_
  rw [cn_ups_R]
  refine cn_aload_n dX11_init_62 rfl ?_
  refine cn_bipush (v := 61) dX11_init_63 (by decide) ?_
  refine cn_newa (t := 1) (N := 61) (ty := .int) rfl (am_G_t (i := 76) (by decide +kernel) rfl) (fun _ => rfl) (fun _ _ h => h) (by decide) (by decide) (fun E S h0 H h => cn_ent_i (by decide) (by decide) h0 h) (by decide) (by decide) (by decide) (fun j => ((cn_df_ups _ S hdf (by decide) (by decide +kernel)) 75 (Nat.le_refl _) j).1) ⟨by decide, by decide⟩ dX11_init_65 ?_
  refine cn_putR (ty := (.array .int)) rfl rfl fk_X11_37 tyX11 tyX11_ok nmX11 (fun _ => ⟨fun _ _ _ h => h, rfl⟩) (by decide +kernel) (by decide) dX11_init_67 (by decide) (by decide) (by decide) ?_
  rw [cn_ups_R]
  refine cn_aload_n dX11_init_70 rfl ?_
  refine cn_new uw_X10 rfl tyX10 tyX10_ok (am_G_t (i := 198) (by decide +kernel) rfl) it_X10 in_X10 (by decide) (by decide) (by decide) dv_X10 (fun j => (cn_df_ups _ S hdf (by decide) (by decide +kernel)) 76 (Nat.le_refl _) j) ⟨by decide, by decide⟩ dX11_init_71 ?_
  refine cn_dup dX11_init_74 rfl ?_
  refine cn_callIN (host := "BellTown") cm_X10_init (am_nw_t (i := 200) (by decide +kernel) rfl) im_X10_init in_X10 rfl ⟨by decide, by decide, by decide +kernel⟩ dX11_init_75 (am_le rfl) (am_fit (by omega) (by decide) (by decide) (by decide)) (tn_X10_76 hl (cn_df_ups _ S hdf (by decide) (by decide +kernel))) ?_
  rw [cn_ups_app]
  refine cn_putR (ty := (.object "BellTown$TownText")) rfl rfl fk_X11_44 tyX11 tyX11_ok nmX11 (fun _ => ⟨fun _ _ _ h => h, rfl⟩) (by decide +kernel) (by decide) dX11_init_78 (by decide) (by decide) (by decide) ?_
  rw [cn_ups_R]
  refine cn_aload_n dX11_init_81 rfl ?_
  refine cn_new uw_X2 rfl tyX2 tyX2_ok (am_G_t (i := 235) (by decide +kernel) rfl) it_X2 in_X2 (by decide) (by decide) (by decide) dv_X2 (fun j => (cn_df_ups _ S hdf (by decide) (by decide +kernel)) 79 (Nat.le_refl _) j) ⟨by decide, by decide⟩ dX11_init_82 ?_
  refine cn_dup dX11_init_85 rfl ?_
  refine cn_callIN (host := "BellTown") cm_X2_init (am_nw_t (i := 237) (by decide +kernel) rfl) im_X2_init in_X2 rfl ⟨by decide, by decide, by decide +kernel⟩ dX11_init_86 (am_le rfl) (am_fit (by omega) (by decide) (by decide) (by decide)) (tn_X2_79 hl (cn_df_ups _ S hdf (by decide) (by decide +kernel))) ?_
  rw [cn_ups_app]
  refine cn_putR (ty := (.object "BellTown$LawText")) rfl rfl fk_X11_51 tyX11 tyX11_ok nmX11 (fun _ => ⟨fun _ _ _ h => h, rfl⟩) (by decide +kernel) (by decide) dX11_init_89 (by decide) (by decide) (by decide) ?_
  rw [cn_ups_R]
  refine cn_aload_n dX11_init_92 rfl ?_
  refine cn_new uw_X7 rfl tyX7 tyX7_ok (am_G_t (i := 247) (by decide +kernel) rfl) it_X7 in_X7 (by decide) (by decide) (by decide) dv_X7 (fun j => (cn_df_ups _ S hdf (by decide) (by decide +kernel)) 82 (Nat.le_refl _) j) ⟨by decide, by decide⟩ dX11_init_93 ?_
  refine cn_dup dX11_init_96 rfl ?_
  refine cn_callIN (host := "BellTown") cm_X7_init (am_nw_t (i := 249) (by decide +kernel) rfl) im_X7_init in_X7 rfl ⟨by decide, by decide, by decide +kernel⟩ dX11_init_97 (am_le rfl) (am_fit (by omega) (by decide) (by decide) (by decide)) (tn_X7_82 hl (cn_df_ups _ S hdf (by decide) (by decide +kernel))) ?_
  rw [cn_ups_app]
  refine cn_putR (ty := (.object "BellTown$Sharing")) rfl rfl fk_X11_58 tyX11 tyX11_ok nmX11 (fun _ => ⟨fun _ _ _ h => h, rfl⟩) (by decide +kernel) (by decide) dX11_init_100 (by decide) (by decide) (by decide) ?_
  rw [cn_ups_R]
  refine cn_aload_n dX11_init_103 rfl ?_
  refine cn_new uw_X5 rfl tyX5 tyX5_ok (am_G_t (i := 261) (by decide +kernel) rfl) it_X5 in_X5 (by decide) (by decide) (by decide) dv_X5 (fun j => (cn_df_ups _ S hdf (by decide) (by decide +kernel)) 85 (Nat.le_refl _) j) ⟨by decide, by decide⟩ dX11_init_104 ?_
  refine cn_dup dX11_init_107 rfl ?_
  refine cn_callIN (host := "BellTown") cm_X5_init (am_nw_t (i := 263) (by decide +kernel) rfl) im_X5_init in_X5 rfl ⟨by decide, by decide, by decide +kernel⟩ dX11_init_108 (am_le rfl) (am_fit (by omega) (by decide) (by decide) (by decide)) (tn_X5_85 hl (cn_df_ups _ S hdf (by decide) (by decide +kernel))) ?_
  rw [cn_ups_app]
  refine cn_putR (ty := (.object "BellTown$Relays")) rfl rfl fk_X11_65 tyX11 tyX11_ok nmX11 (fun _ => ⟨fun _ _ _ h => h, rfl⟩) (by decide +kernel) (by decide) dX11_init_111 (by decide) (by decide) (by decide) ?_
  rw [cn_ups_R]
  refine cn_aload_n dX11_init_114 rfl ?_
  refine cn_new uw_X8 rfl tyX8 tyX8_ok (am_G_t (i := 277) (by decide +kernel) rfl) it_X8 in_X8 (by decide) (by decide) (by decide) dv_X8 (fun j => (cn_df_ups _ S hdf (by decide) (by decide +kernel)) 89 (Nat.le_refl _) j) ⟨by decide, by decide⟩ dX11_init_115 ?_
  refine cn_dup dX11_init_118 rfl ?_
  refine cn_callIN (host := "BellTown") cm_X8_init (am_nw_t (i := 279) (by decide +kernel) rfl) im_X8_init in_X8 rfl ⟨by decide, by decide, by decide +kernel⟩ dX11_init_119 (am_le rfl) (am_fit (by omega) (by decide) (by decide) (by decide)) (tn_X8_89 hl (cn_df_ups _ S hdf (by decide) (by decide +kernel))) ?_
  rw [cn_ups_app]
  refine cn_putR (ty := (.object "BellTown$SixOClock")) rfl rfl fk_X11_72 tyX11 tyX11_ok nmX11 (fun _ => ⟨fun _ _ _ h => h, rfl⟩) (by decide +kernel) (by decide) dX11_init_122 (by decide) (by decide) (by decide) ?_
  rw [cn_ups_R]
  refine cn_aload_n dX11_init_125 rfl ?_
  refine cn_new uw_X0 rfl tyX0 tyX0_ok (am_G_t (i := 307) (by decide +kernel) rfl) it_X0 in_X0 (by decide) (by decide) (by decide) dv_X0 (fun j => (cn_df_ups _ S hdf (by decide) (by decide +kernel)) 94 (Nat.le_refl _) j) ⟨by decide, by decide⟩ dX11_init_126 ?_
  refine cn_dup dX11_init_129 rfl ?_
  refine cn_callIN (host := "BellTown") cm_X0_init (am_nw_t (i := 309) (by decide +kernel) rfl) im_X0_init in_X0 rfl ⟨by decide, by decide, by decide +kernel⟩ dX11_init_130 (am_le rfl) (am_fit (by omega) (by decide) (by decide) (by decide)) (tn_X0_94 hl (cn_df_ups _ S hdf (by decide) (by decide +kernel))) ?_
  rw [cn_ups_app]
  refine cn_putR (ty := (.object "BellTown$Codes")) rfl rfl fk_X11_79 tyX11 tyX11_ok nmX11 (fun _ => ⟨fun _ _ _ h => h, rfl⟩) (by decide +kernel) (by decide) dX11_init_133 (by decide) (by decide) (by decide) ?_
  rw [cn_ups_R]
  refine cn_aload_n dX11_init_136 rfl ?_
  refine cn_new uw_X3 rfl tyX3 tyX3_ok (am_G_t (i := 340) (by decide +kernel) rfl) it_X3 in_X3 (by decide) (by decide) (by decide) dv_X3 (fun j => (cn_df_ups _ S hdf (by decide) (by decide +kernel)) 99 (Nat.le_refl _) j) ⟨by decide, by decide⟩ dX11_init_137 ?_
  refine cn_dup dX11_init_140 rfl ?_
  refine cn_callIN (host := "BellTown") cm_X3_init (am_nw_t (i := 342) (by decide +kernel) rfl) im_X3_init in_X3 rfl ⟨by decide, by decide, by decide +kernel⟩ dX11_init_141 (am_le rfl) (am_fit (by omega) (by decide) (by decide) (by decide)) (tn_X3_99 hl (cn_df_ups _ S hdf (by decide) (by decide +kernel))) ?_
  rw [cn_ups_app]
  refine cn_putR (ty := (.object "BellTown$Pupil")) rfl rfl fk_X11_86 tyX11 tyX11_ok nmX11 (fun _ => ⟨fun _ _ _ h => h, rfl⟩) (by decide +kernel) (by decide) dX11_init_144 (by decide) (by decide) (by decide) ?_
  rw [cn_ups_R]
  exact cn_vret dX11_init_147 rfl
def cu_X12_105 : List cn_U := ((((((((((((((((([] ++ [(105, 1, .inr 106)]) ++ [(105, 2, .inr 107)]) ++ [(105, 3, .inr 108)]) ++ [(105, 5, .inr 109)]) ++ [(105, 11, .inl (-1))]) ++ [(105, 12, .inr 110)]) ++ [(105, 14, .inr 111)]) ++ [(105, 16, .inr 112)]) ++ [(105, 17, .inr 113)]) ++ [(105, 18, .inr 114)]) ++ [(105, 19, .inr 115)]) ++ [(105, 20, .inr 116)]) ++ [(105, 21, .inr 117)]) ++ [(105, 22, .inr 118)]) ++ [(105, 23, .inr 119)]) ++ [(105, 24, .inr 120)]) ++ [(105, 25, .inr 121)])
set_option maxRecDepth 20000 in
theorem tn_X12_105 {E : am_E} {l : Launch} (hl : l.stackTraces = false) {S : am_S} (hdf : cn_df S 105) : cn_M E l yX12_init (.code yX12_init cX12_init 1 none) 0 16 6848 105 106 S 122 (cn_ups S cu_X12_105) := by
  refine cn_M_of (by decide) rfl (by decide) ?_
  show cn_Ev E l cn_K0 (RX12, cX12_init, 1, none, [], am_rm 0 16 6848) (fun below args s => MQ below (cn_Q E 122 (cn_ups S cu_X12_105)) args s 16 6848 (am_A E)) 0 0 0 [some (.ref 105)] [] 106 (cn_ups S [])
  refine cn_aload_n dX12_init_0 rfl ?_
  refine cn_obj dX12_init_1 (am_G_t (i := 1413) (by decide +kernel) rfl) ⟨by decide, by decide⟩ (am_le rfl) ?_
  refine cn_aload_n dX12_init_4 rfl ?_
  refine cn_sipush (v := 1860) dX12_init_5 (by decide) ?_
  refine cn_newa (t := 1) (N := 1860) (ty := .int) rfl (am_G_t (i := 76) (by decide +kernel) rfl) (fun _ => rfl) (fun _ _ h => h) (by decide) (by decide) (fun E S h0 H h => cn_ent_i (by decide) (by decide) h0 h) (by decide) (by decide) (by decide) (fun j => ((cn_df_ups _ S hdf (by decide) (by decide +kernel)) 106 (Nat.le_refl _) j).1) ⟨by decide, by decide⟩ dX12_init_8 ?_
  refine cn_putR (ty := (.array .int)) rfl rfl fk_X12_13 tyX12 tyX12_ok nmX12 (fun _ => ⟨fun _ _ _ h => h, rfl⟩) (by decide +kernel) (by decide) dX12_init_10 (by decide) (by decide) (by decide) ?_
  rw [cn_ups_R]
  refine cn_aload_n dX12_init_13 rfl ?_
  refine cn_sipush (v := 1023) dX12_init_14 (by decide) ?_
  refine cn_newa (t := 1) (N := 1023) (ty := .int) rfl (am_G_t (i := 76) (by decide +kernel) rfl) (fun _ => rfl) (fun _ _ h => h) (by decide) (by decide) (fun E S h0 H h => cn_ent_i (by decide) (by decide) h0 h) (by decide) (by decide) (by decide) (fun j => ((cn_df_ups _ S hdf (by decide) (by decide +kernel)) 107 (Nat.le_refl _) j).1) ⟨by decide, by decide⟩ dX12_init_17 ?_
  refine cn_putR (ty := (.array .int)) rfl rfl fk_X12_17 tyX12 tyX12_ok nmX12 (fun _ => ⟨fun _ _ _ h => h, rfl⟩) (by decide +kernel) (by decide) dX12_init_19 (by decide) (by decide) (by decide) ?_
  rw [cn_ups_R]
  refine cn_aload_n dX12_init_22 rfl ?_
  refine cn_sipush (v := 1023) dX12_init_23 (by decide) ?_
  refine cn_newa (t := 1) (N := 1023) (ty := .int) rfl (am_G_t (i := 76) (by decide +kernel) rfl) (fun _ => rfl) (fun _ _ h => h) (by decide) (by decide) (fun E S h0 H h => cn_ent_i (by decide) (by decide) h0 h) (by decide) (by decide) (by decide) (fun j => ((cn_df_ups _ S hdf (by decide) (by decide +kernel)) 108 (Nat.le_refl _) j).1) ⟨by decide, by decide⟩ dX12_init_26 ?_
  refine cn_putR (ty := (.array .int)) rfl rfl fk_X12_20 tyX12 tyX12_ok nmX12 (fun _ => ⟨fun _ _ _ h => h, rfl⟩) (by decide +kernel) (by decide) dX12_init_28 (by decide) (by decide) (by decide) ?_
  rw [cn_ups_R]
  refine cn_aload_n dX12_init_31 rfl ?_
  refine cn_sipush (v := 400) dX12_init_32 (by decide) ?_
  refine cn_newa (t := 2) (N := 400) (ty := .byte) rfl (am_G_t (i := 75) (by decide +kernel) rfl) (fun _ => rfl) (fun _ _ h => h) (by decide) (by decide) (fun E S h0 H h => cn_ent_b (by decide) (by decide) h0 h) (by decide) (by decide) (by decide) (fun j => ((cn_df_ups _ S hdf (by decide) (by decide +kernel)) 109 (Nat.le_refl _) j).1) ⟨by decide, by decide⟩ dX12_init_35 ?_
  refine cn_putR (ty := (.array .byte)) rfl rfl fk_X12_23 tyX12 tyX12_ok nmX12 (fun _ => ⟨fun _ _ _ h => h, rfl⟩) (by decide +kernel) (by decide) dX12_init_37 (by decide) (by decide) (by decide) ?_
  rw [cn_ups_R]
  refine cn_aload_n dX12_init_40 rfl ?_
  refine cn_iconst (v := (-1)) dX12_init_41 (by decide) ?_
  refine cn_putI fk_X12_27 tyX12 tyX12_ok nmX12 (fun _ => ⟨fun _ _ _ h => h, rfl⟩) (by decide +kernel) (by decide) dX12_init_42 (by decide) (by decide) (by decide) ?_
  rw [cn_ups_I]
  refine cn_aload_n dX12_init_45 rfl ?_
  refine cn_iconst (v := 5) dX12_init_46 (by decide) ?_
  refine cn_newa (t := 1) (N := 5) (ty := .int) rfl (am_G_t (i := 76) (by decide +kernel) rfl) (fun _ => rfl) (fun _ _ h => h) (by decide) (by decide) (fun E S h0 H h => cn_ent_i (by decide) (by decide) h0 h) (by decide) (by decide) (by decide) (fun j => ((cn_df_ups _ S hdf (by decide) (by decide +kernel)) 110 (Nat.le_refl _) j).1) ⟨by decide, by decide⟩ dX12_init_47 ?_
  refine cn_putR (ty := (.array .int)) rfl rfl fk_X12_30 tyX12 tyX12_ok nmX12 (fun _ => ⟨fun _ _ _ h => h, rfl⟩) (by decide +kernel) (by decide) dX12_init_49 (by decide) (by decide) (by decide) ?_
  rw [cn_ups_R]
  refine cn_aload_n dX12_init_52 rfl ?_
  refine cn_bipush (v := 48) dX12_init_53 (by decide) ?_
  refine cn_newa (t := 1) (N := 48) (ty := .int) rfl (am_G_t (i := 76) (by decide +kernel) rfl) (fun _ => rfl) (fun _ _ h => h) (by decide) (by decide) (fun E S h0 H h => cn_ent_i (by decide) (by decide) h0 h) (by decide) (by decide) (by decide) (fun j => ((cn_df_ups _ S hdf (by decide) (by decide +kernel)) 111 (Nat.le_refl _) j).1) ⟨by decide, by decide⟩ dX12_init_55 ?_
  refine cn_putR (ty := (.array .int)) rfl rfl fk_X12_33 tyX12 tyX12_ok nmX12 (fun _ => ⟨fun _ _ _ h => h, rfl⟩) (by decide +kernel) (by decide) dX12_init_57 (by decide) (by decide) (by decide) ?_
  rw [cn_ups_R]
  refine cn_aload_n dX12_init_60 rfl ?_
  refine cn_sipush (v := 1024) dX12_init_61 (by decide) ?_
  refine cn_newa (t := 1) (N := 1024) (ty := .int) rfl (am_G_t (i := 76) (by decide +kernel) rfl) (fun _ => rfl) (fun _ _ h => h) (by decide) (by decide) (fun E S h0 H h => cn_ent_i (by decide) (by decide) h0 h) (by decide) (by decide) (by decide) (fun j => ((cn_df_ups _ S hdf (by decide) (by decide +kernel)) 112 (Nat.le_refl _) j).1) ⟨by decide, by decide⟩ dX12_init_64 ?_
  refine cn_putR (ty := (.array .int)) rfl rfl fk_X12_36 tyX12 tyX12_ok nmX12 (fun _ => ⟨fun _ _ _ h => h, rfl⟩) (by decide +kernel) (by decide) dX12_init_66 (by decide) (by decide) (by decide) ?_
  rw [cn_ups_R]
  refine cn_aload_n dX12_init_69 rfl ?_
  refine cn_sipush (v := 1024) dX12_init_70 (by decide) ?_
  refine cn_newa (t := 1) (N := 1024) (ty := .int) rfl (am_G_t (i := 76) (by decide +kernel) rfl) (fun _ => rfl) (fun _ _ h => h) (by decide) (by decide) (fun E S h0 H h => cn_ent_i (by decide) (by decide) h0 h) (by decide) (by decide) (by decide) (fun j => ((cn_df_ups _ S hdf (by decide) (by decide +kernel)) 113 (Nat.le_refl _) j).1) ⟨by decide, by decide⟩ dX12_init_73 ?_
  refine cn_putR (ty := (.array .int)) rfl rfl fk_X12_39 tyX12 tyX12_ok nmX12 (fun _ => ⟨fun _ _ _ h => h, rfl⟩) (by decide +kernel) (by decide) dX12_init_75 (by decide) (by decide) (by decide) ?_
  rw [cn_ups_R]
  refine cn_aload_n dX12_init_78 rfl ?_
  refine cn_bipush (v := 8) dX12_init_79 (by decide) ?_
  refine cn_newa (t := 1) (N := 8) (ty := .int) rfl (am_G_t (i := 76) (by decide +kernel) rfl) (fun _ => rfl) (fun _ _ h => h) (by decide) (by decide) (fun E S h0 H h => cn_ent_i (by decide) (by decide) h0 h) (by decide) (by decide) (by decide) (fun j => ((cn_df_ups _ S hdf (by decide) (by decide +kernel)) 114 (Nat.le_refl _) j).1) ⟨by decide, by decide⟩ dX12_init_81 ?_
  refine cn_putR (ty := (.array .int)) rfl rfl fk_X12_42 tyX12 tyX12_ok nmX12 (fun _ => ⟨fun _ _ _ h => h, rfl⟩) (by decide +kernel) (by decide) dX12_init_83 (by decide) (by decide) (by decide) ?_
  rw [cn_ups_R]
  refine cn_aload_n dX12_init_86 rfl ?_
  refine cn_bipush (v := 8) dX12_init_87 (by decide) ?_
  refine cn_newa (t := 1) (N := 8) (ty := .int) rfl (am_G_t (i := 76) (by decide +kernel) rfl) (fun _ => rfl) (fun _ _ h => h) (by decide) (by decide) (fun E S h0 H h => cn_ent_i (by decide) (by decide) h0 h) (by decide) (by decide) (by decide) (fun j => ((cn_df_ups _ S hdf (by decide) (by decide +kernel)) 115 (Nat.le_refl _) j).1) ⟨by decide, by decide⟩ dX12_init_89 ?_
  refine cn_putR (ty := (.array .int)) rfl rfl fk_X12_45 tyX12 tyX12_ok nmX12 (fun _ => ⟨fun _ _ _ h => h, rfl⟩) (by decide +kernel) (by decide) dX12_init_91 (by decide) (by decide) (by decide) ?_
  rw [cn_ups_R]
  refine cn_aload_n dX12_init_94 rfl ?_
  refine cn_sipush (v := 400) dX12_init_95 (by decide) ?_
  refine cn_newa (t := 1) (N := 400) (ty := .int) rfl (am_G_t (i := 76) (by decide +kernel) rfl) (fun _ => rfl) (fun _ _ h => h) (by decide) (by decide) (fun E S h0 H h => cn_ent_i (by decide) (by decide) h0 h) (by decide) (by decide) (by decide) (fun j => ((cn_df_ups _ S hdf (by decide) (by decide +kernel)) 116 (Nat.le_refl _) j).1) ⟨by decide, by decide⟩ dX12_init_98 ?_
  refine cn_putR (ty := (.array .int)) rfl rfl fk_X12_48 tyX12 tyX12_ok nmX12 (fun _ => ⟨fun _ _ _ h => h, rfl⟩) (by decide +kernel) (by decide) dX12_init_100 (by decide) (by decide) (by decide) ?_
  rw [cn_ups_R]
  refine cn_aload_n dX12_init_103 rfl ?_
  refine cn_bipush (v := 8) dX12_init_104 (by decide) ?_
  refine cn_newa (t := 1) (N := 8) (ty := .int) rfl (am_G_t (i := 76) (by decide +kernel) rfl) (fun _ => rfl) (fun _ _ h => h) (by decide) (by decide) (fun E S h0 H h => cn_ent_i (by decide) (by decide) h0 h) (by decide) (by decide) (by decide) (fun j => ((cn_df_ups _ S hdf (by decide) (by decide +kernel)) 117 (Nat.le_refl _) j).1) ⟨by decide, by decide⟩ dX12_init_106 ?_
  refine cn_putR (ty := (.array .int)) rfl rfl fk_X12_51 tyX12 tyX12_ok nmX12 (fun _ => ⟨fun _ _ _ h => h, rfl⟩) (by decide +kernel) (by decide) dX12_init_108 (by decide) (by decide) (by decide) ?_
  rw [cn_ups_R]
  refine cn_aload_n dX12_init_111 rfl ?_
  refine cn_bipush (v := 8) dX12_init_112 (by decide) ?_
  refine cn_newa (t := 1) (N := 8) (ty := .int) rfl (am_G_t (i := 76) (by decide +kernel) rfl) (fun _ => rfl) (fun _ _ h => h) (by decide) (by decide) (fun E S h0 H h => cn_ent_i (by decide) (by decide) h0 h) (by decide) (by decide) (by decide) (fun j => ((cn_df_ups _ S hdf (by decide) (by decide +kernel)) 118 (Nat.le_refl _) j).1) ⟨by decide, by decide⟩ dX12_init_114 ?_
  refine cn_putR (ty := (.array .int)) rfl rfl fk_X12_54 tyX12 tyX12_ok nmX12 (fun _ => ⟨fun _ _ _ h => h, rfl⟩) (by decide +kernel) (by decide) dX12_init_116 (by decide) (by decide) (by decide) ?_
  rw [cn_ups_R]
  refine cn_aload_n dX12_init_119 rfl ?_
  refine cn_iconst (v := 3) dX12_init_120 (by decide) ?_
  refine cn_newa (t := 1) (N := 3) (ty := .int) rfl (am_G_t (i := 76) (by decide +kernel) rfl) (fun _ => rfl) (fun _ _ h => h) (by decide) (by decide) (fun E S h0 H h => cn_ent_i (by decide) (by decide) h0 h) (by decide) (by decide) (by decide) (fun j => ((cn_df_ups _ S hdf (by decide) (by decide +kernel)) 119 (Nat.le_refl _) j).1) ⟨by decide, by decide⟩ dX12_init_121 ?_
  refine cn_putR (ty := (.array .int)) rfl rfl fk_X12_57 tyX12 tyX12_ok nmX12 (fun _ => ⟨fun _ _ _ h => h, rfl⟩) (by decide +kernel) (by decide) dX12_init_123 (by decide) (by decide) (by decide) ?_
  rw [cn_ups_R]
  refine cn_aload_n dX12_init_126 rfl ?_
  refine cn_iconst (v := 3) dX12_init_127 (by decide) ?_
  refine cn_newa (t := 1) (N := 3) (ty := .int) rfl (am_G_t (i := 76) (by decide +kernel) rfl) (fun _ => rfl) (fun _ _ h => h) (by decide) (by decide) (fun E S h0 H h => cn_ent_i (by decide) (by decide) h0 h) (by decide) (by decide) (by decide) (fun j => ((cn_df_ups _ S hdf (by decide) (by decide +kernel)) 120 (Nat.le_refl _) j).1) ⟨by decide, by decide⟩ dX12_init_128 ?_
  refine cn_putR (ty := (.array .int)) rfl rfl fk_X12_60 tyX12 tyX12_ok nmX12 (fun _ => ⟨fun _ _ _ h => h, rfl⟩) (by decide +kernel) (by decide) dX12_init_130 (by decide) (by decide) (by decide) ?_
  rw [cn_ups_R]
  refine cn_aload_n dX12_init_133 rfl ?_
  refine cn_iconst (v := 3) dX12_init_134 (by decide) ?_
  refine cn_newa (t := 1) (N := 3) (ty := .int) rfl (am_G_t (i := 76) (by decide +kernel) rfl) (fun _ => rfl) (fun _ _ h => h) (by decide) (by decide) (fun E S h0 H h => cn_ent_i (by decide) (by decide) h0 h) (by decide) (by decide) (by decide) (fun j => ((cn_df_ups _ S hdf (by decide) (by decide +kernel)) 121 (Nat.le_refl _) j).1) ⟨by decide, by decide⟩ dX12_init_135 ?_
  refine cn_putR (ty := (.array .int)) rfl rfl fk_X12_63 tyX12 tyX12_ok nmX12 (fun _ => ⟨fun _ _ _ h => h, rfl⟩) (by decide +kernel) (by decide) dX12_init_137 (by decide) (by decide) (by decide) ?_
  rw [cn_ups_R]
  exact cn_vret dX12_init_140 rfl
