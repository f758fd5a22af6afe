theorem am_uw {C : String} {T : u_T} {N : Nat} (h : ∀ j, j < N → u_lay C T j ∈ am_G) : ∀ w ∈ u_ws C T N, w ∈ am_G := fun w hw => by
  obtain ⟨j, hj, e⟩ := List.mem_map.mp hw
  rw [← e]
  exact h j (List.mem_range.mp hj)
theorem am_M_id {E : am_E} {l : Launch} {y : MethodName} {cw : Cond} {d mc ms : Nat} {as : List Value} {S : am_S} {e : Option am_R} (h : am_M E l y cw d mc ms as S (e.map (fun x => x))) : am_M E l y cw d mc ms as S e := by
  rw [show e.map (fun x => x) = e by cases e <;> rfl] at h
  exact h
theorem am_acw_in : ∀ w ∈ am_acw, w ∈ am_G := List.forall_mem_cons.mpr ⟨am_G_t (i := 479) (by decide +kernel) rfl, List.forall_mem_cons.mpr ⟨am_G_t (i := 478) (by decide +kernel) rfl, List.forall_mem_cons.mpr ⟨am_G_t (i := 14) (by decide +kernel) rfl, fun _ h => nomatch h⟩⟩⟩
theorem uw_X0 : ∀ w ∈ u_ws RX0 TX0 8, w ∈ am_G := am_uw (fun j hj => match j, hj with
  | 0, _ => am_G_t (i := 323) (by decide +kernel) (by decide +kernel)
  | 1, _ => am_G_t (i := 325) (by decide +kernel) (by decide +kernel)
  | 2, _ => am_G_t (i := 327) (by decide +kernel) (by decide +kernel)
  | 3, _ => am_G_t (i := 329) (by decide +kernel) (by decide +kernel)
  | 4, _ => am_G_t (i := 331) (by decide +kernel) (by decide +kernel)
  | 5, _ => am_G_t (i := 333) (by decide +kernel) (by decide +kernel)
  | 6, _ => am_G_t (i := 335) (by decide +kernel) (by decide +kernel)
  | 7, _ => am_G_t (i := 337) (by decide +kernel) (by decide +kernel)
  | n + 8, h => absurd h (by omega))
theorem uw_X1 : ∀ w ∈ u_ws RX1 TX1 8, w ∈ am_G := am_uw (fun j hj => match j, hj with
  | 0, _ => am_G_t (i := 58) (by decide +kernel) (by decide +kernel)
  | 1, _ => am_G_t (i := 60) (by decide +kernel) (by decide +kernel)
  | 2, _ => am_G_t (i := 62) (by decide +kernel) (by decide +kernel)
  | 3, _ => am_G_t (i := 64) (by decide +kernel) (by decide +kernel)
  | 4, _ => am_G_t (i := 66) (by decide +kernel) (by decide +kernel)
  | 5, _ => am_G_t (i := 68) (by decide +kernel) (by decide +kernel)
  | 6, _ => am_G_t (i := 70) (by decide +kernel) (by decide +kernel)
  | 7, _ => am_G_t (i := 72) (by decide +kernel) (by decide +kernel)
  | n + 8, h => absurd h (by omega))
theorem uw_X2 : ∀ w ∈ u_ws RX2 TX2 1, w ∈ am_G := am_uw (fun j hj => match j, hj with
  | 0, _ => am_G_t (i := 244) (by decide +kernel) (by decide +kernel)
  | n + 1, h => absurd h (by omega))
theorem uw_X3 : ∀ w ∈ u_ws RX3 TX3 9, w ∈ am_G := am_uw (fun j hj => match j, hj with
  | 0, _ => am_G_t (i := 357) (by decide +kernel) (by decide +kernel)
  | 1, _ => am_G_t (i := 359) (by decide +kernel) (by decide +kernel)
  | 2, _ => am_G_t (i := 361) (by decide +kernel) (by decide +kernel)
  | 3, _ => am_G_t (i := 363) (by decide +kernel) (by decide +kernel)
  | 4, _ => am_G_t (i := 365) (by decide +kernel) (by decide +kernel)
  | 5, _ => am_G_t (i := 367) (by decide +kernel) (by decide +kernel)
  | 6, _ => am_G_t (i := 369) (by decide +kernel) (by decide +kernel)
  | 7, _ => am_G_t (i := 371) (by decide +kernel) (by decide +kernel)
  | 8, _ => am_G_t (i := 373) (by decide +kernel) (by decide +kernel)
  | n + 9, h => absurd h (by omega))
theorem uw_X4 : ∀ w ∈ u_ws RX4 TX4 6, w ∈ am_G := am_uw (fun j hj => match j, hj with
  | 0, _ => am_G_t (i := 218) (by decide +kernel) (by decide +kernel)
  | 1, _ => am_G_t (i := 220) (by decide +kernel) (by decide +kernel)
  | 2, _ => am_G_t (i := 222) (by decide +kernel) (by decide +kernel)
  | 3, _ => am_G_t (i := 224) (by decide +kernel) (by decide +kernel)
  | 4, _ => am_G_t (i := 226) (by decide +kernel) (by decide +kernel)
  | 5, _ => am_G_t (i := 228) (by decide +kernel) (by decide +kernel)
  | n + 6, h => absurd h (by omega))
theorem uw_X5 : ∀ w ∈ u_ws RX5 TX5 3, w ∈ am_G := am_uw (fun j hj => match j, hj with
  | 0, _ => am_G_t (i := 270) (by decide +kernel) (by decide +kernel)
  | 1, _ => am_G_t (i := 272) (by decide +kernel) (by decide +kernel)
  | 2, _ => am_G_t (i := 274) (by decide +kernel) (by decide +kernel)
  | n + 3, h => absurd h (by omega))
theorem uw_X6 : ∀ w ∈ u_ws RX6 TX6 9, w ∈ am_G := am_uw (fun j hj => match j, hj with
  | 0, _ => am_G_t (i := 96) (by decide +kernel) (by decide +kernel)
  | 1, _ => am_G_t (i := 98) (by decide +kernel) (by decide +kernel)
  | 2, _ => am_G_t (i := 100) (by decide +kernel) (by decide +kernel)
  | 3, _ => am_G_t (i := 102) (by decide +kernel) (by decide +kernel)
  | 4, _ => am_G_t (i := 104) (by decide +kernel) (by decide +kernel)
  | 5, _ => am_G_t (i := 106) (by decide +kernel) (by decide +kernel)
  | 6, _ => am_G_t (i := 108) (by decide +kernel) (by decide +kernel)
  | 7, _ => am_G_t (i := 110) (by decide +kernel) (by decide +kernel)
  | 8, _ => am_G_t (i := 112) (by decide +kernel) (by decide +kernel)
  | n + 9, h => absurd h (by omega))
theorem uw_X7 : ∀ w ∈ u_ws RX7 TX7 2, w ∈ am_G := am_uw (fun j hj => match j, hj with
  | 0, _ => am_G_t (i := 256) (by decide +kernel) (by decide +kernel)
  | 1, _ => am_G_t (i := 258) (by decide +kernel) (by decide +kernel)
  | n + 2, h => absurd h (by omega))
theorem uw_X8 : ∀ w ∈ u_ws RX8 TX8 7, w ∈ am_G := am_uw (fun j hj => match j, hj with
  | 0, _ => am_G_t (i := 292) (by decide +kernel) (by decide +kernel)
  | 1, _ => am_G_t (i := 294) (by decide +kernel) (by decide +kernel)
  | 2, _ => am_G_t (i := 296) (by decide +kernel) (by decide +kernel)
  | 3, _ => am_G_t (i := 298) (by decide +kernel) (by decide +kernel)
  | 4, _ => am_G_t (i := 300) (by decide +kernel) (by decide +kernel)
  | 5, _ => am_G_t (i := 302) (by decide +kernel) (by decide +kernel)
  | 6, _ => am_G_t (i := 304) (by decide +kernel) (by decide +kernel)
  | n + 7, h => absurd h (by omega))
theorem uw_X9 : ∀ w ∈ u_ws RX9 TX9 16, w ∈ am_G := am_uw (fun j hj => match j, hj with
  | 0, _ => am_G_t (i := 163) (by decide +kernel) (by decide +kernel)
  | 1, _ => am_G_t (i := 165) (by decide +kernel) (by decide +kernel)
  | 2, _ => am_G_t (i := 167) (by decide +kernel) (by decide +kernel)
  | 3, _ => am_G_t (i := 169) (by decide +kernel) (by decide +kernel)
  | 4, _ => am_G_t (i := 171) (by decide +kernel) (by decide +kernel)
  | 5, _ => am_G_t (i := 173) (by decide +kernel) (by decide +kernel)
  | 6, _ => am_G_t (i := 175) (by decide +kernel) (by decide +kernel)
  | 7, _ => am_G_t (i := 177) (by decide +kernel) (by decide +kernel)
  | 8, _ => am_G_t (i := 179) (by decide +kernel) (by decide +kernel)
  | 9, _ => am_G_t (i := 181) (by decide +kernel) (by decide +kernel)
  | 10, _ => am_G_t (i := 183) (by decide +kernel) (by decide +kernel)
  | 11, _ => am_G_t (i := 185) (by decide +kernel) (by decide +kernel)
  | 12, _ => am_G_t (i := 187) (by decide +kernel) (by decide +kernel)
  | 13, _ => am_G_t (i := 189) (by decide +kernel) (by decide +kernel)
  | 14, _ => am_G_t (i := 191) (by decide +kernel) (by decide +kernel)
  | 15, _ => am_G_t (i := 193) (by decide +kernel) (by decide +kernel)
  | n + 16, h => absurd h (by omega))
theorem uw_X10 : ∀ w ∈ u_ws RX10 TX10 1, w ∈ am_G := am_uw (fun j hj => match j, hj with
  | 0, _ => am_G_t (i := 232) (by decide +kernel) (by decide +kernel)
  | n + 1, h => absurd h (by omega))
theorem uw_X11 : ∀ w ∈ u_ws RX11 TX11 16, w ∈ am_G := am_uw (fun j hj => match j, hj with
  | 0, _ => am_G_t (i := 392) (by decide +kernel) (by decide +kernel)
  | 1, _ => am_G_t (i := 394) (by decide +kernel) (by decide +kernel)
  | 2, _ => am_G_t (i := 396) (by decide +kernel) (by decide +kernel)
  | 3, _ => am_G_t (i := 398) (by decide +kernel) (by decide +kernel)
  | 4, _ => am_G_t (i := 400) (by decide +kernel) (by decide +kernel)
  | 5, _ => am_G_t (i := 402) (by decide +kernel) (by decide +kernel)
  | 6, _ => am_G_t (i := 404) (by decide +kernel) (by decide +kernel)
  | 7, _ => am_G_t (i := 406) (by decide +kernel) (by decide +kernel)
  | 8, _ => am_G_t (i := 408) (by decide +kernel) (by decide +kernel)
  | 9, _ => am_G_t (i := 410) (by decide +kernel) (by decide +kernel)
  | 10, _ => am_G_t (i := 412) (by decide +kernel) (by decide +kernel)
  | 11, _ => am_G_t (i := 414) (by decide +kernel) (by decide +kernel)
  | 12, _ => am_G_t (i := 416) (by decide +kernel) (by decide +kernel)
  | 13, _ => am_G_t (i := 418) (by decide +kernel) (by decide +kernel)
  | 14, _ => am_G_t (i := 420) (by decide +kernel) (by decide +kernel)
  | 15, _ => am_G_t (i := 422) (by decide +kernel) (by decide +kernel)
  | n + 16, h => absurd h (by omega))
theorem uw_X12 : ∀ w ∈ u_ws RX12 TX12 28, w ∈ am_G := am_uw (fun j hj => match j, hj with
  | 0, _ => am_G_t (i := 1442) (by decide +kernel) (by decide +kernel)
  | 1, _ => am_G_t (i := 1444) (by decide +kernel) (by decide +kernel)
  | 2, _ => am_G_t (i := 1446) (by decide +kernel) (by decide +kernel)
  | 3, _ => am_G_t (i := 1448) (by decide +kernel) (by decide +kernel)
  | 4, _ => am_G_t (i := 1450) (by decide +kernel) (by decide +kernel)
  | 5, _ => am_G_t (i := 1452) (by decide +kernel) (by decide +kernel)
  | 6, _ => am_G_t (i := 1454) (by decide +kernel) (by decide +kernel)
  | 7, _ => am_G_t (i := 1456) (by decide +kernel) (by decide +kernel)
  | 8, _ => am_G_t (i := 1458) (by decide +kernel) (by decide +kernel)
  | 9, _ => am_G_t (i := 1460) (by decide +kernel) (by decide +kernel)
  | 10, _ => am_G_t (i := 1462) (by decide +kernel) (by decide +kernel)
  | 11, _ => am_G_t (i := 1464) (by decide +kernel) (by decide +kernel)
  | 12, _ => am_G_t (i := 1466) (by decide +kernel) (by decide +kernel)
  | 13, _ => am_G_t (i := 1468) (by decide +kernel) (by decide +kernel)
  | 14, _ => am_G_t (i := 1470) (by decide +kernel) (by decide +kernel)
  | 15, _ => am_G_t (i := 1472) (by decide +kernel) (by decide +kernel)
  | 16, _ => am_G_t (i := 1474) (by decide +kernel) (by decide +kernel)
  | 17, _ => am_G_t (i := 1476) (by decide +kernel) (by decide +kernel)
  | 18, _ => am_G_t (i := 1478) (by decide +kernel) (by decide +kernel)
  | 19, _ => am_G_t (i := 1480) (by decide +kernel) (by decide +kernel)
  | 20, _ => am_G_t (i := 1482) (by decide +kernel) (by decide +kernel)
  | 21, _ => am_G_t (i := 1484) (by decide +kernel) (by decide +kernel)
  | 22, _ => am_G_t (i := 1486) (by decide +kernel) (by decide +kernel)
  | 23, _ => am_G_t (i := 1488) (by decide +kernel) (by decide +kernel)
  | 24, _ => am_G_t (i := 1490) (by decide +kernel) (by decide +kernel)
  | 25, _ => am_G_t (i := 1492) (by decide +kernel) (by decide +kernel)
  | 26, _ => am_G_t (i := 1494) (by decide +kernel) (by decide +kernel)
  | 27, _ => am_G_t (i := 1496) (by decide +kernel) (by decide +kernel)
  | n + 28, h => absurd h (by omega))
theorem fk_X0_11 : am_fok RX0 11 0 0 RX0 TX0 8 := ⟨rfl, by decide, rfl, uw_X0, am_G_t (i := 313) (by decide +kernel) rfl⟩
theorem fk_X0_15 : am_fok RX0 15 0 1 RX0 TX0 8 := ⟨rfl, by decide, rfl, uw_X0, am_G_t (i := 314) (by decide +kernel) rfl⟩
theorem fk_X0_18 : am_fok RX0 18 0 2 RX0 TX0 8 := ⟨rfl, by decide, rfl, uw_X0, am_G_t (i := 315) (by decide +kernel) rfl⟩
theorem fk_X0_21 : am_fok RX0 21 0 3 RX0 TX0 8 := ⟨rfl, by decide, rfl, uw_X0, am_G_t (i := 316) (by decide +kernel) rfl⟩
theorem fk_X0_24 : am_fokN RX0 24 9 1 RX9 TX9 16 "BellTown" := ⟨rfl, by decide, rfl, uw_X9, am_nw_t (i := 121) (by decide +kernel) rfl⟩
theorem fk_X0_37 : am_fok RX0 37 0 4 RX0 TX0 8 := ⟨rfl, by decide, rfl, uw_X0, am_G_t (i := 317) (by decide +kernel) rfl⟩
theorem fk_X0_40 : am_fok RX0 40 0 5 RX0 TX0 8 := ⟨rfl, by decide, rfl, uw_X0, am_G_t (i := 319) (by decide +kernel) rfl⟩
theorem fk_X0_57 : am_fok RX0 57 0 6 RX0 TX0 8 := ⟨rfl, by decide, rfl, uw_X0, am_G_t (i := 321) (by decide +kernel) rfl⟩
theorem fk_X0_60 : am_fok RX0 60 0 7 RX0 TX0 8 := ⟨rfl, by decide, rfl, uw_X0, am_G_t (i := 322) (by decide +kernel) rfl⟩
theorem fk_X10_102 : am_fokN RX10 102 9 11 RX9 TX9 16 "BellTown" := ⟨rfl, by decide, rfl, uw_X9, am_nw_t (i := 154) (by decide +kernel) rfl⟩
theorem fk_X10_113 : am_fokN RX10 113 9 4 RX9 TX9 16 "BellTown" := ⟨rfl, by decide, rfl, uw_X9, am_nw_t (i := 131) (by decide +kernel) rfl⟩
theorem fk_X10_116 : am_fokN RX10 116 9 5 RX9 TX9 16 "BellTown" := ⟨rfl, by decide, rfl, uw_X9, am_nw_t (i := 134) (by decide +kernel) rfl⟩
theorem fk_X10_12 : am_fok RX10 12 10 0 RX10 TX10 1 := ⟨rfl, by decide, rfl, uw_X10, am_G_t (i := 231) (by decide +kernel) rfl⟩
theorem fk_X10_30 : am_fokN RX10 30 4 5 RX4 TX4 6 "BellTown" := ⟨rfl, by decide, rfl, uw_X4, am_nw_t (i := 216) (by decide +kernel) rfl⟩
theorem fk_X10_70 : am_fokN RX10 70 9 0 RX9 TX9 16 "BellTown" := ⟨rfl, by decide, rfl, uw_X9, am_nw_t (i := 118) (by decide +kernel) rfl⟩
theorem fk_X10_78 : am_fokN RX10 78 9 6 RX9 TX9 16 "BellTown" := ⟨rfl, by decide, rfl, uw_X9, am_nw_t (i := 137) (by decide +kernel) rfl⟩
theorem fk_X10_86 : am_fokN RX10 86 9 7 RX9 TX9 16 "BellTown" := ⟨rfl, by decide, rfl, uw_X9, am_nw_t (i := 140) (by decide +kernel) rfl⟩
theorem fk_X10_89 : am_fokN RX10 89 9 8 RX9 TX9 16 "BellTown" := ⟨rfl, by decide, rfl, uw_X9, am_nw_t (i := 143) (by decide +kernel) rfl⟩
theorem fk_X10_92 : am_fokN RX10 92 9 9 RX9 TX9 16 "BellTown" := ⟨rfl, by decide, rfl, uw_X9, am_nw_t (i := 146) (by decide +kernel) rfl⟩
theorem fk_X10_95 : am_fokN RX10 95 9 10 RX9 TX9 16 "BellTown" := ⟨rfl, by decide, rfl, uw_X9, am_nw_t (i := 150) (by decide +kernel) rfl⟩
theorem fk_X10_99 : am_fokN RX10 99 9 1 RX9 TX9 16 "BellTown" := ⟨rfl, by decide, rfl, uw_X9, am_nw_t (i := 123) (by decide +kernel) rfl⟩
theorem fk_X11_112 : am_fokN RX11 112 9 2 RX9 TX9 16 "BellTown" := ⟨rfl, by decide, rfl, uw_X9, am_nw_t (i := 127) (by decide +kernel) rfl⟩
theorem fk_X11_123 : am_fokN RX11 123 9 14 RX9 TX9 16 "BellTown" := ⟨rfl, by decide, rfl, uw_X9, am_nw_t (i := 160) (by decide +kernel) rfl⟩
theorem fk_X11_13 : am_fok RX11 13 11 2 RX11 TX11 16 := ⟨rfl, by decide, rfl, uw_X11, am_G_t (i := 378) (by decide +kernel) rfl⟩
theorem fk_X11_135 : am_fokN RX11 135 1 0 RX1 TX1 8 "BellTown" := ⟨rfl, by decide, rfl, uw_X1, am_nw_t (i := 50) (by decide +kernel) rfl⟩
theorem fk_X11_141 : am_fokN RX11 141 9 6 RX9 TX9 16 "BellTown" := ⟨rfl, by decide, rfl, uw_X9, am_nw_t (i := 138) (by decide +kernel) rfl⟩
theorem fk_X11_144 : am_fokN RX11 144 9 7 RX9 TX9 16 "BellTown" := ⟨rfl, by decide, rfl, uw_X9, am_nw_t (i := 141) (by decide +kernel) rfl⟩
theorem fk_X11_147 : am_fokN RX11 147 9 8 RX9 TX9 16 "BellTown" := ⟨rfl, by decide, rfl, uw_X9, am_nw_t (i := 144) (by decide +kernel) rfl⟩
theorem fk_X11_150 : am_fokN RX11 150 9 9 RX9 TX9 16 "BellTown" := ⟨rfl, by decide, rfl, uw_X9, am_nw_t (i := 148) (by decide +kernel) rfl⟩
theorem fk_X11_153 : am_fokN RX11 153 9 10 RX9 TX9 16 "BellTown" := ⟨rfl, by decide, rfl, uw_X9, am_nw_t (i := 152) (by decide +kernel) rfl⟩
theorem fk_X11_168 : am_fokN RX11 168 9 11 RX9 TX9 16 "BellTown" := ⟨rfl, by decide, rfl, uw_X9, am_nw_t (i := 155) (by decide +kernel) rfl⟩
theorem fk_X11_20 : am_fok RX11 20 11 3 RX11 TX11 16 := ⟨rfl, by decide, rfl, uw_X11, am_G_t (i := 379) (by decide +kernel) rfl⟩
theorem fk_X11_201 : am_fokN RX11 201 9 15 RX9 TX9 16 "BellTown" := ⟨rfl, by decide, rfl, uw_X9, am_nw_t (i := 162) (by decide +kernel) rfl⟩
theorem fk_X11_208 : am_fokN RX11 208 6 0 RX6 TX6 9 "BellTown" := ⟨rfl, by decide, rfl, uw_X6, am_nw_t (i := 85) (by decide +kernel) rfl⟩
theorem fk_X11_225 : am_fokN RX11 225 6 8 RX6 TX6 9 "BellTown" := ⟨rfl, by decide, rfl, uw_X6, am_nw_t (i := 95) (by decide +kernel) rfl⟩
theorem fk_X11_228 : am_fokN RX11 228 6 7 RX6 TX6 9 "BellTown" := ⟨rfl, by decide, rfl, uw_X6, am_nw_t (i := 93) (by decide +kernel) rfl⟩
theorem fk_X11_24 : am_fok RX11 24 11 4 RX11 TX11 16 := ⟨rfl, by decide, rfl, uw_X11, am_G_t (i := 380) (by decide +kernel) rfl⟩
theorem fk_X11_242 : am_fokN RX11 242 9 3 RX9 TX9 16 "BellTown" := ⟨rfl, by decide, rfl, uw_X9, am_nw_t (i := 129) (by decide +kernel) rfl⟩
theorem fk_X11_259 : am_fokN RX11 259 7 0 RX7 TX7 2 "BellTown" := ⟨rfl, by decide, rfl, uw_X7, am_nw_t (i := 254) (by decide +kernel) rfl⟩
theorem fk_X11_27 : am_fok RX11 27 11 5 RX11 TX11 16 := ⟨rfl, by decide, rfl, uw_X11, am_G_t (i := 381) (by decide +kernel) rfl⟩
theorem fk_X11_279 : am_fokN RX11 279 8 5 RX8 TX8 7 "BellTown" := ⟨rfl, by decide, rfl, uw_X8, am_nw_t (i := 289) (by decide +kernel) rfl⟩
theorem fk_X11_282 : am_fokN RX11 282 8 6 RX8 TX8 7 "BellTown" := ⟨rfl, by decide, rfl, uw_X8, am_nw_t (i := 291) (by decide +kernel) rfl⟩
theorem fk_X11_294 : am_fokN RX11 294 0 5 RX0 TX0 8 "BellTown" := ⟨rfl, by decide, rfl, uw_X0, am_nw_t (i := 320) (by decide +kernel) rfl⟩
theorem fk_X11_297 : am_fokN RX11 297 0 4 RX0 TX0 8 "BellTown" := ⟨rfl, by decide, rfl, uw_X0, am_nw_t (i := 318) (by decide +kernel) rfl⟩
theorem fk_X11_306 : am_fokN RX11 306 3 7 RX3 TX3 9 "BellTown" := ⟨rfl, by decide, rfl, uw_X3, am_nw_t (i := 354) (by decide +kernel) rfl⟩
theorem fk_X11_314 : am_fokN RX11 314 3 8 RX3 TX3 9 "BellTown" := ⟨rfl, by decide, rfl, uw_X3, am_nw_t (i := 356) (by decide +kernel) rfl⟩
theorem fk_X11_33 : am_fok RX11 33 11 7 RX11 TX11 16 := ⟨rfl, by decide, rfl, uw_X11, am_G_t (i := 383) (by decide +kernel) rfl⟩
theorem fk_X11_333 : am_fokN RX11 333 9 0 RX9 TX9 16 "BellTown" := ⟨rfl, by decide, rfl, uw_X9, am_nw_t (i := 120) (by decide +kernel) rfl⟩
theorem fk_X11_358 : am_fok RX11 358 11 6 RX11 TX11 16 := ⟨rfl, by decide, rfl, uw_X11, am_G_t (i := 382) (by decide +kernel) rfl⟩
theorem fk_X11_362 : am_fokN RX11 362 9 1 RX9 TX9 16 "BellTown" := ⟨rfl, by decide, rfl, uw_X9, am_nw_t (i := 125) (by decide +kernel) rfl⟩
theorem fk_X11_37 : am_fok RX11 37 11 8 RX11 TX11 16 := ⟨rfl, by decide, rfl, uw_X11, am_G_t (i := 384) (by decide +kernel) rfl⟩
theorem fk_X11_372 : am_fokN RX11 372 9 4 RX9 TX9 16 "BellTown" := ⟨rfl, by decide, rfl, uw_X9, am_nw_t (i := 132) (by decide +kernel) rfl⟩
theorem fk_X11_375 : am_fokN RX11 375 9 5 RX9 TX9 16 "BellTown" := ⟨rfl, by decide, rfl, uw_X9, am_nw_t (i := 135) (by decide +kernel) rfl⟩
theorem fk_X11_44 : am_fok RX11 44 11 9 RX11 TX11 16 := ⟨rfl, by decide, rfl, uw_X11, am_G_t (i := 385) (by decide +kernel) rfl⟩
theorem fk_X11_51 : am_fok RX11 51 11 10 RX11 TX11 16 := ⟨rfl, by decide, rfl, uw_X11, am_G_t (i := 386) (by decide +kernel) rfl⟩
theorem fk_X11_58 : am_fok RX11 58 11 11 RX11 TX11 16 := ⟨rfl, by decide, rfl, uw_X11, am_G_t (i := 387) (by decide +kernel) rfl⟩
theorem fk_X11_65 : am_fok RX11 65 11 12 RX11 TX11 16 := ⟨rfl, by decide, rfl, uw_X11, am_G_t (i := 388) (by decide +kernel) rfl⟩
theorem fk_X11_72 : am_fok RX11 72 11 13 RX11 TX11 16 := ⟨rfl, by decide, rfl, uw_X11, am_G_t (i := 389) (by decide +kernel) rfl⟩
theorem fk_X11_79 : am_fok RX11 79 11 14 RX11 TX11 16 := ⟨rfl, by decide, rfl, uw_X11, am_G_t (i := 390) (by decide +kernel) rfl⟩
theorem fk_X11_86 : am_fok RX11 86 11 15 RX11 TX11 16 := ⟨rfl, by decide, rfl, uw_X11, am_G_t (i := 391) (by decide +kernel) rfl⟩
theorem fk_X11_9 : am_fok RX11 9 11 0 RX11 TX11 16 := ⟨rfl, by decide, rfl, uw_X11, am_G_t (i := 376) (by decide +kernel) rfl⟩
theorem fk_X11_90 : am_fok RX11 90 11 1 RX11 TX11 16 := ⟨rfl, by decide, rfl, uw_X11, am_G_t (i := 377) (by decide +kernel) rfl⟩
theorem fk_X12_102 : am_fok RX12 102 12 6 RX12 TX12 28 := ⟨rfl, by decide, rfl, uw_X12, am_G_t (i := 1420) (by decide +kernel) rfl⟩
theorem fk_X12_105 : am_fok RX12 105 12 7 RX12 TX12 28 := ⟨rfl, by decide, rfl, uw_X12, am_G_t (i := 1421) (by decide +kernel) rfl⟩
theorem fk_X12_108 : am_fok RX12 108 12 8 RX12 TX12 28 := ⟨rfl, by decide, rfl, uw_X12, am_G_t (i := 1422) (by decide +kernel) rfl⟩
theorem fk_X12_115 : am_fok RX12 115 12 9 RX12 TX12 28 := ⟨rfl, by decide, rfl, uw_X12, am_G_t (i := 1423) (by decide +kernel) rfl⟩
theorem fk_X12_13 : am_fok RX12 13 12 1 RX12 TX12 28 := ⟨rfl, by decide, rfl, uw_X12, am_G_t (i := 1415) (by decide +kernel) rfl⟩
theorem fk_X12_17 : am_fok RX12 17 12 2 RX12 TX12 28 := ⟨rfl, by decide, rfl, uw_X12, am_G_t (i := 1416) (by decide +kernel) rfl⟩
theorem fk_X12_179 : am_fok RX12 179 12 13 RX12 TX12 28 := ⟨rfl, by decide, rfl, uw_X12, am_G_t (i := 1427) (by decide +kernel) rfl⟩
theorem fk_X12_20 : am_fok RX12 20 12 3 RX12 TX12 28 := ⟨rfl, by decide, rfl, uw_X12, am_G_t (i := 1417) (by decide +kernel) rfl⟩
theorem fk_X12_200 : am_fok RX12 200 12 10 RX12 TX12 28 := ⟨rfl, by decide, rfl, uw_X12, am_G_t (i := 1424) (by decide +kernel) rfl⟩
theorem fk_X12_23 : am_fok RX12 23 12 5 RX12 TX12 28 := ⟨rfl, by decide, rfl, uw_X12, am_G_t (i := 1419) (by decide +kernel) rfl⟩
theorem fk_X12_27 : am_fok RX12 27 12 11 RX12 TX12 28 := ⟨rfl, by decide, rfl, uw_X12, am_G_t (i := 1425) (by decide +kernel) rfl⟩
theorem fk_X12_3 : am_fok RX12 3 12 0 RX12 TX12 28 := ⟨rfl, by decide, rfl, uw_X12, am_G_t (i := 1414) (by decide +kernel) rfl⟩
theorem fk_X12_30 : am_fok RX12 30 12 12 RX12 TX12 28 := ⟨rfl, by decide, rfl, uw_X12, am_G_t (i := 1426) (by decide +kernel) rfl⟩
theorem fk_X12_309 : am_fok RX12 309 12 15 RX12 TX12 28 := ⟨rfl, by decide, rfl, uw_X12, am_G_t (i := 1429) (by decide +kernel) rfl⟩
theorem fk_X12_33 : am_fok RX12 33 12 14 RX12 TX12 28 := ⟨rfl, by decide, rfl, uw_X12, am_G_t (i := 1428) (by decide +kernel) rfl⟩
theorem fk_X12_36 : am_fok RX12 36 12 16 RX12 TX12 28 := ⟨rfl, by decide, rfl, uw_X12, am_G_t (i := 1430) (by decide +kernel) rfl⟩
theorem fk_X12_367 : am_fok RX12 367 12 27 RX12 TX12 28 := ⟨rfl, by decide, rfl, uw_X12, am_G_t (i := 1441) (by decide +kernel) rfl⟩
theorem fk_X12_370 : am_fok RX12 370 12 26 RX12 TX12 28 := ⟨rfl, by decide, rfl, uw_X12, am_G_t (i := 1440) (by decide +kernel) rfl⟩
theorem fk_X12_39 : am_fok RX12 39 12 17 RX12 TX12 28 := ⟨rfl, by decide, rfl, uw_X12, am_G_t (i := 1431) (by decide +kernel) rfl⟩
theorem fk_X12_42 : am_fok RX12 42 12 18 RX12 TX12 28 := ⟨rfl, by decide, rfl, uw_X12, am_G_t (i := 1432) (by decide +kernel) rfl⟩
theorem fk_X12_45 : am_fok RX12 45 12 19 RX12 TX12 28 := ⟨rfl, by decide, rfl, uw_X12, am_G_t (i := 1433) (by decide +kernel) rfl⟩
theorem fk_X12_48 : am_fok RX12 48 12 20 RX12 TX12 28 := ⟨rfl, by decide, rfl, uw_X12, am_G_t (i := 1434) (by decide +kernel) rfl⟩
theorem fk_X12_51 : am_fok RX12 51 12 21 RX12 TX12 28 := ⟨rfl, by decide, rfl, uw_X12, am_G_t (i := 1435) (by decide +kernel) rfl⟩
theorem fk_X12_54 : am_fok RX12 54 12 22 RX12 TX12 28 := ⟨rfl, by decide, rfl, uw_X12, am_G_t (i := 1436) (by decide +kernel) rfl⟩
theorem fk_X12_57 : am_fok RX12 57 12 23 RX12 TX12 28 := ⟨rfl, by decide, rfl, uw_X12, am_G_t (i := 1437) (by decide +kernel) rfl⟩
theorem fk_X12_60 : am_fok RX12 60 12 24 RX12 TX12 28 := ⟨rfl, by decide, rfl, uw_X12, am_G_t (i := 1438) (by decide +kernel) rfl⟩
theorem fk_X12_63 : am_fok RX12 63 12 25 RX12 TX12 28 := ⟨rfl, by decide, rfl, uw_X12, am_G_t (i := 1439) (by decide +kernel) rfl⟩
theorem fk_X12_66 : am_fok RX12 66 12 4 RX12 TX12 28 := ⟨rfl, by decide, rfl, uw_X12, am_G_t (i := 1418) (by decide +kernel) rfl⟩
theorem fk_X1_15 : am_fok RX1 15 1 2 RX1 TX1 8 := ⟨rfl, by decide, rfl, uw_X1, am_G_t (i := 52) (by decide +kernel) rfl⟩
theorem fk_X1_19 : am_fok RX1 19 1 3 RX1 TX1 8 := ⟨rfl, by decide, rfl, uw_X1, am_G_t (i := 53) (by decide +kernel) rfl⟩
theorem fk_X1_22 : am_fok RX1 22 1 4 RX1 TX1 8 := ⟨rfl, by decide, rfl, uw_X1, am_G_t (i := 54) (by decide +kernel) rfl⟩
theorem fk_X1_26 : am_fok RX1 26 1 5 RX1 TX1 8 := ⟨rfl, by decide, rfl, uw_X1, am_G_t (i := 55) (by decide +kernel) rfl⟩
theorem fk_X1_29 : am_fok RX1 29 1 6 RX1 TX1 8 := ⟨rfl, by decide, rfl, uw_X1, am_G_t (i := 56) (by decide +kernel) rfl⟩
theorem fk_X1_32 : am_fok RX1 32 1 1 RX1 TX1 8 := ⟨rfl, by decide, rfl, uw_X1, am_G_t (i := 51) (by decide +kernel) rfl⟩
theorem fk_X1_47 : am_fokN RX1 47 9 9 RX9 TX9 16 "BellTown" := ⟨rfl, by decide, rfl, uw_X9, am_nw_t (i := 147) (by decide +kernel) rfl⟩
theorem fk_X1_65 : am_fok RX1 65 1 7 RX1 TX1 8 := ⟨rfl, by decide, rfl, uw_X1, am_G_t (i := 57) (by decide +kernel) rfl⟩
theorem fk_X1_9 : am_fok RX1 9 1 0 RX1 TX1 8 := ⟨rfl, by decide, rfl, uw_X1, am_G_t (i := 49) (by decide +kernel) rfl⟩
theorem fk_X2_12 : am_fok RX2 12 2 0 RX2 TX2 1 := ⟨rfl, by decide, rfl, uw_X2, am_G_t (i := 243) (by decide +kernel) rfl⟩
theorem fk_X2_54 : am_fokN RX2 54 4 5 RX4 TX4 6 "BellTown" := ⟨rfl, by decide, rfl, uw_X4, am_nw_t (i := 217) (by decide +kernel) rfl⟩
theorem fk_X3_11 : am_fok RX3 11 3 0 RX3 TX3 9 := ⟨rfl, by decide, rfl, uw_X3, am_G_t (i := 346) (by decide +kernel) rfl⟩
theorem fk_X3_15 : am_fok RX3 15 3 1 RX3 TX3 9 := ⟨rfl, by decide, rfl, uw_X3, am_G_t (i := 347) (by decide +kernel) rfl⟩
theorem fk_X3_18 : am_fok RX3 18 3 2 RX3 TX3 9 := ⟨rfl, by decide, rfl, uw_X3, am_G_t (i := 348) (by decide +kernel) rfl⟩
theorem fk_X3_21 : am_fok RX3 21 3 3 RX3 TX3 9 := ⟨rfl, by decide, rfl, uw_X3, am_G_t (i := 349) (by decide +kernel) rfl⟩
theorem fk_X3_24 : am_fok RX3 24 3 4 RX3 TX3 9 := ⟨rfl, by decide, rfl, uw_X3, am_G_t (i := 350) (by decide +kernel) rfl⟩
theorem fk_X3_27 : am_fok RX3 27 3 5 RX3 TX3 9 := ⟨rfl, by decide, rfl, uw_X3, am_G_t (i := 351) (by decide +kernel) rfl⟩
theorem fk_X3_31 : am_fok RX3 31 3 6 RX3 TX3 9 := ⟨rfl, by decide, rfl, uw_X3, am_G_t (i := 352) (by decide +kernel) rfl⟩
theorem fk_X3_34 : am_fok RX3 34 3 7 RX3 TX3 9 := ⟨rfl, by decide, rfl, uw_X3, am_G_t (i := 353) (by decide +kernel) rfl⟩
theorem fk_X3_50 : am_fok RX3 50 3 8 RX3 TX3 9 := ⟨rfl, by decide, rfl, uw_X3, am_G_t (i := 355) (by decide +kernel) rfl⟩
theorem fk_X4_21 : am_fok RX4 21 4 1 RX4 TX4 6 := ⟨rfl, by decide, rfl, uw_X4, am_G_t (i := 211) (by decide +kernel) rfl⟩
theorem fk_X4_25 : am_fok RX4 25 4 3 RX4 TX4 6 := ⟨rfl, by decide, rfl, uw_X4, am_G_t (i := 213) (by decide +kernel) rfl⟩
theorem fk_X4_28 : am_fok RX4 28 4 5 RX4 TX4 6 := ⟨rfl, by decide, rfl, uw_X4, am_G_t (i := 215) (by decide +kernel) rfl⟩
theorem fk_X4_34 : am_fok RX4 34 4 2 RX4 TX4 6 := ⟨rfl, by decide, rfl, uw_X4, am_G_t (i := 212) (by decide +kernel) rfl⟩
theorem fk_X4_41 : am_fok RX4 41 4 4 RX4 TX4 6 := ⟨rfl, by decide, rfl, uw_X4, am_G_t (i := 214) (by decide +kernel) rfl⟩
theorem fk_X4_9 : am_fok RX4 9 4 0 RX4 TX4 6 := ⟨rfl, by decide, rfl, uw_X4, am_G_t (i := 210) (by decide +kernel) rfl⟩
theorem fk_X5_15 : am_fok RX5 15 5 1 RX5 TX5 3 := ⟨rfl, by decide, rfl, uw_X5, am_G_t (i := 268) (by decide +kernel) rfl⟩
theorem fk_X5_18 : am_fok RX5 18 5 2 RX5 TX5 3 := ⟨rfl, by decide, rfl, uw_X5, am_G_t (i := 269) (by decide +kernel) rfl⟩
theorem fk_X5_34 : am_fokN RX5 34 9 0 RX9 TX9 16 "BellTown" := ⟨rfl, by decide, rfl, uw_X9, am_nw_t (i := 117) (by decide +kernel) rfl⟩
theorem fk_X5_60 : am_fokN RX5 60 9 10 RX9 TX9 16 "BellTown" := ⟨rfl, by decide, rfl, uw_X9, am_nw_t (i := 151) (by decide +kernel) rfl⟩
theorem fk_X5_9 : am_fok RX5 9 5 0 RX5 TX5 3 := ⟨rfl, by decide, rfl, uw_X5, am_G_t (i := 267) (by decide +kernel) rfl⟩
theorem fk_X6_15 : am_fok RX6 15 6 2 RX6 TX6 9 := ⟨rfl, by decide, rfl, uw_X6, am_G_t (i := 87) (by decide +kernel) rfl⟩
theorem fk_X6_18 : am_fok RX6 18 6 3 RX6 TX6 9 := ⟨rfl, by decide, rfl, uw_X6, am_G_t (i := 88) (by decide +kernel) rfl⟩
theorem fk_X6_21 : am_fok RX6 21 6 4 RX6 TX6 9 := ⟨rfl, by decide, rfl, uw_X6, am_G_t (i := 89) (by decide +kernel) rfl⟩
theorem fk_X6_24 : am_fok RX6 24 6 5 RX6 TX6 9 := ⟨rfl, by decide, rfl, uw_X6, am_G_t (i := 90) (by decide +kernel) rfl⟩
theorem fk_X6_27 : am_fok RX6 27 6 6 RX6 TX6 9 := ⟨rfl, by decide, rfl, uw_X6, am_G_t (i := 91) (by decide +kernel) rfl⟩
theorem fk_X6_30 : am_fok RX6 30 6 0 RX6 TX6 9 := ⟨rfl, by decide, rfl, uw_X6, am_G_t (i := 84) (by decide +kernel) rfl⟩
theorem fk_X6_78 : am_fokN RX6 78 9 1 RX9 TX9 16 "BellTown" := ⟨rfl, by decide, rfl, uw_X9, am_nw_t (i := 124) (by decide +kernel) rfl⟩
theorem fk_X6_84 : am_fok RX6 84 6 7 RX6 TX6 9 := ⟨rfl, by decide, rfl, uw_X6, am_G_t (i := 92) (by decide +kernel) rfl⟩
theorem fk_X6_87 : am_fok RX6 87 6 8 RX6 TX6 9 := ⟨rfl, by decide, rfl, uw_X6, am_G_t (i := 94) (by decide +kernel) rfl⟩
theorem fk_X6_9 : am_fok RX6 9 6 1 RX6 TX6 9 := ⟨rfl, by decide, rfl, uw_X6, am_G_t (i := 86) (by decide +kernel) rfl⟩
theorem fk_X6_90 : am_fokN RX6 90 9 0 RX9 TX9 16 "BellTown" := ⟨rfl, by decide, rfl, uw_X9, am_nw_t (i := 119) (by decide +kernel) rfl⟩
theorem fk_X7_15 : am_fok RX7 15 7 1 RX7 TX7 2 := ⟨rfl, by decide, rfl, uw_X7, am_G_t (i := 255) (by decide +kernel) rfl⟩
theorem fk_X7_18 : am_fokN RX7 18 9 0 RX9 TX9 16 "BellTown" := ⟨rfl, by decide, rfl, uw_X9, am_nw_t (i := 116) (by decide +kernel) rfl⟩
theorem fk_X7_9 : am_fok RX7 9 7 0 RX7 TX7 2 := ⟨rfl, by decide, rfl, uw_X7, am_G_t (i := 253) (by decide +kernel) rfl⟩
theorem fk_X8_15 : am_fok RX8 15 8 1 RX8 TX8 7 := ⟨rfl, by decide, rfl, uw_X8, am_G_t (i := 284) (by decide +kernel) rfl⟩
theorem fk_X8_18 : am_fok RX8 18 8 2 RX8 TX8 7 := ⟨rfl, by decide, rfl, uw_X8, am_G_t (i := 285) (by decide +kernel) rfl⟩
theorem fk_X8_21 : am_fok RX8 21 8 3 RX8 TX8 7 := ⟨rfl, by decide, rfl, uw_X8, am_G_t (i := 286) (by decide +kernel) rfl⟩
theorem fk_X8_28 : am_fok RX8 28 8 4 RX8 TX8 7 := ⟨rfl, by decide, rfl, uw_X8, am_G_t (i := 287) (by decide +kernel) rfl⟩
theorem fk_X8_36 : am_fokN RX8 36 9 14 RX9 TX9 16 "BellTown" := ⟨rfl, by decide, rfl, uw_X9, am_nw_t (i := 159) (by decide +kernel) rfl⟩
theorem fk_X8_56 : am_fok RX8 56 8 5 RX8 TX8 7 := ⟨rfl, by decide, rfl, uw_X8, am_G_t (i := 288) (by decide +kernel) rfl⟩
theorem fk_X8_59 : am_fok RX8 59 8 6 RX8 TX8 7 := ⟨rfl, by decide, rfl, uw_X8, am_G_t (i := 290) (by decide +kernel) rfl⟩
theorem fk_X8_9 : am_fok RX8 9 8 0 RX8 TX8 7 := ⟨rfl, by decide, rfl, uw_X8, am_G_t (i := 283) (by decide +kernel) rfl⟩
theorem fk_X9_15 : am_fok RX9 15 9 7 RX9 TX9 16 := ⟨rfl, by decide, rfl, uw_X9, am_G_t (i := 139) (by decide +kernel) rfl⟩
theorem fk_X9_18 : am_fok RX9 18 9 8 RX9 TX9 16 := ⟨rfl, by decide, rfl, uw_X9, am_G_t (i := 142) (by decide +kernel) rfl⟩
theorem fk_X9_21 : am_fok RX9 21 9 9 RX9 TX9 16 := ⟨rfl, by decide, rfl, uw_X9, am_G_t (i := 145) (by decide +kernel) rfl⟩
theorem fk_X9_24 : am_fok RX9 24 9 10 RX9 TX9 16 := ⟨rfl, by decide, rfl, uw_X9, am_G_t (i := 149) (by decide +kernel) rfl⟩
theorem fk_X9_27 : am_fok RX9 27 9 11 RX9 TX9 16 := ⟨rfl, by decide, rfl, uw_X9, am_G_t (i := 153) (by decide +kernel) rfl⟩
theorem fk_X9_30 : am_fok RX9 30 9 12 RX9 TX9 16 := ⟨rfl, by decide, rfl, uw_X9, am_G_t (i := 156) (by decide +kernel) rfl⟩
theorem fk_X9_33 : am_fok RX9 33 9 13 RX9 TX9 16 := ⟨rfl, by decide, rfl, uw_X9, am_G_t (i := 157) (by decide +kernel) rfl⟩
theorem fk_X9_39 : am_fok RX9 39 9 14 RX9 TX9 16 := ⟨rfl, by decide, rfl, uw_X9, am_G_t (i := 158) (by decide +kernel) rfl⟩
theorem fk_X9_46 : am_fok RX9 46 9 15 RX9 TX9 16 := ⟨rfl, by decide, rfl, uw_X9, am_G_t (i := 161) (by decide +kernel) rfl⟩
theorem fk_X9_50 : am_fok RX9 50 9 0 RX9 TX9 16 := ⟨rfl, by decide, rfl, uw_X9, am_G_t (i := 115) (by decide +kernel) rfl⟩
theorem fk_X9_54 : am_fok RX9 54 9 1 RX9 TX9 16 := ⟨rfl, by decide, rfl, uw_X9, am_G_t (i := 122) (by decide +kernel) rfl⟩
theorem fk_X9_57 : am_fok RX9 57 9 2 RX9 TX9 16 := ⟨rfl, by decide, rfl, uw_X9, am_G_t (i := 126) (by decide +kernel) rfl⟩
theorem fk_X9_60 : am_fok RX9 60 9 3 RX9 TX9 16 := ⟨rfl, by decide, rfl, uw_X9, am_G_t (i := 128) (by decide +kernel) rfl⟩
theorem fk_X9_63 : am_fok RX9 63 9 4 RX9 TX9 16 := ⟨rfl, by decide, rfl, uw_X9, am_G_t (i := 130) (by decide +kernel) rfl⟩
theorem fk_X9_66 : am_fok RX9 66 9 5 RX9 TX9 16 := ⟨rfl, by decide, rfl, uw_X9, am_G_t (i := 133) (by decide +kernel) rfl⟩
theorem fk_X9_9 : am_fok RX9 9 9 6 RX9 TX9 16 := ⟨rfl, by decide, rfl, uw_X9, am_G_t (i := 136) (by decide +kernel) rfl⟩
theorem cm_X11_strokesOf : Cond.code yX11_strokesOf cX11_strokesOf 3 (some .int) ∈ am_G := am_G_t (i := 527) (by decide +kernel) rfl
theorem sm_X11_strokesOf : Cond.static yX11_strokesOf ∈ am_G := am_G_t (i := 526) (by decide +kernel) rfl
theorem in_X11 : Cond.initialized RX11 ∈ am_G := am_G_t (i := 1) (by decide +kernel) rfl
theorem ct_X0_50 : am_csN RX0 50 yX11_strokesOf "BellTown" cX11_strokesOf 3 (some .int) 1 := ⟨cm_X11_strokesOf, am_nw_t (i := 1245) (by decide +kernel) rfl, sm_X11_strokesOf, in_X11, ⟨by decide, by decide, by decide +kernel⟩⟩
theorem cm_X11_minutesOf : Cond.code yX11_minutesOf cX11_minutesOf 1 (some .int) ∈ am_G := am_G_t (i := 524) (by decide +kernel) rfl
theorem sm_X11_minutesOf : Cond.static yX11_minutesOf ∈ am_G := am_G_t (i := 523) (by decide +kernel) rfl
theorem ct_X11_178 : am_cs RX11 178 yX11_minutesOf cX11_minutesOf 1 (some .int) 1 := ⟨cm_X11_minutesOf, am_G_t (i := 910) (by decide +kernel) rfl, sm_X11_minutesOf, in_X11, ⟨by decide, by decide, by decide +kernel⟩⟩
theorem cm_X11_priceOf : Cond.code yX11_priceOf cX11_priceOf 2 (some .int) ∈ am_G := am_G_t (i := 1055) (by decide +kernel) rfl
theorem sm_X11_priceOf : Cond.static yX11_priceOf ∈ am_G := am_G_t (i := 1054) (by decide +kernel) rfl
theorem ct_X11_239 : am_cs RX11 239 yX11_priceOf cX11_priceOf 2 (some .int) 1 := ⟨cm_X11_priceOf, am_G_t (i := 1053) (by decide +kernel) rfl, sm_X11_priceOf, in_X11, ⟨by decide, by decide, by decide +kernel⟩⟩
theorem cm_J9_min_7cf53 : Cond.code yJ9_min_7cf53 cJ9_min_7cf53 2 (some .int) ∈ am_G := am_G_t (i := 553) (by decide +kernel) rfl
theorem sm_J9_min_7cf53 : Cond.static yJ9_min_7cf53 ∈ am_G := am_G_t (i := 552) (by decide +kernel) rfl
theorem in_J9 : Cond.initialized RJ9 ∈ am_G := am_G_t (i := 15) (by decide +kernel) rfl
theorem ct_X11_322 : am_cs RX11 322 yJ9_min_7cf53 cJ9_min_7cf53 2 (some .int) 2 := ⟨cm_J9_min_7cf53, am_G_t (i := 1031) (by decide +kernel) rfl, sm_J9_min_7cf53, in_J9, ⟨by decide, by decide, by decide +kernel⟩⟩
theorem cm_J7_fill_53178 : Cond.code yJ7_fill_53178 cJ7_fill_53178 4 none ∈ am_G := am_G_t (i := 1119) (by decide +kernel) rfl
theorem sm_J7_fill_53178 : Cond.static yJ7_fill_53178 ∈ am_G := am_G_t (i := 1118) (by decide +kernel) rfl
theorem in_J7 : Cond.initialized RJ7 ∈ am_G := am_G_t (i := 28) (by decide +kernel) rfl
theorem ct_X11_410 : am_cs RX11 410 yJ7_fill_53178 cJ7_fill_53178 4 none 2 := ⟨cm_J7_fill_53178, am_G_t (i := 1357) (by decide +kernel) rfl, sm_J7_fill_53178, in_J7, ⟨by decide, by decide, by decide +kernel⟩⟩
theorem cm_X11_seedBehind : Cond.code yX11_seedBehind cX11_seedBehind 1 (some .int) ∈ am_G := am_G_t (i := 1223) (by decide +kernel) rfl
theorem sm_X11_seedBehind : Cond.static yX11_seedBehind ∈ am_G := am_G_t (i := 1222) (by decide +kernel) rfl
theorem ct_X11_433 : am_cs RX11 433 yX11_seedBehind cX11_seedBehind 1 (some .int) 1 := ⟨cm_X11_seedBehind, am_G_t (i := 1398) (by decide +kernel) rfl, sm_X11_seedBehind, in_X11, ⟨by decide, by decide, by decide +kernel⟩⟩
theorem cm_X11_drawOf : Cond.code yX11_drawOf cX11_drawOf 1 (some .int) ∈ am_G := am_G_t (i := 1227) (by decide +kernel) rfl
theorem sm_X11_drawOf : Cond.static yX11_drawOf ∈ am_G := am_G_t (i := 1226) (by decide +kernel) rfl
theorem ct_X11_436 : am_cs RX11 436 yX11_drawOf cX11_drawOf 1 (some .int) 1 := ⟨cm_X11_drawOf, am_G_t (i := 1399) (by decide +kernel) rfl, sm_X11_drawOf, in_X11, ⟨by decide, by decide, by decide +kernel⟩⟩
theorem ct_X11_440 : am_cs RX11 440 yX11_strokesOf cX11_strokesOf 3 (some .int) 1 := ⟨cm_X11_strokesOf, am_G_t (i := 525) (by decide +kernel) rfl, sm_X11_strokesOf, in_X11, ⟨by decide, by decide, by decide +kernel⟩⟩
theorem cm_J6_bitCount_0f7a4 : Cond.code yJ6_bitCount_0f7a4 cJ6_bitCount_0f7a4 1 (some .int) ∈ am_G := am_G_t (i := 530) (by decide +kernel) rfl
theorem sm_J6_bitCount_0f7a4 : Cond.static yJ6_bitCount_0f7a4 ∈ am_G := am_G_t (i := 529) (by decide +kernel) rfl
theorem in_J6 : Cond.initialized RJ6 ∈ am_G := am_G_t (i := 27) (by decide +kernel) rfl
theorem ct_X11_443 : am_cs RX11 443 yJ6_bitCount_0f7a4 cJ6_bitCount_0f7a4 1 (some .int) 1 := ⟨cm_J6_bitCount_0f7a4, am_G_t (i := 528) (by decide +kernel) rfl, sm_J6_bitCount_0f7a4, in_J6, ⟨by decide, by decide, by decide +kernel⟩⟩
theorem cm_X11_cutTo : Cond.code yX11_cutTo cX11_cutTo 3 (some .int) ∈ am_G := am_G_t (i := 974) (by decide +kernel) rfl
theorem sm_X11_cutTo : Cond.static yX11_cutTo ∈ am_G := am_G_t (i := 973) (by decide +kernel) rfl
theorem ct_X11_448 : am_cs RX11 448 yX11_cutTo cX11_cutTo 3 (some .int) 2 := ⟨cm_X11_cutTo, am_G_t (i := 1032) (by decide +kernel) rfl, sm_X11_cutTo, in_X11, ⟨by decide, by decide, by decide +kernel⟩⟩
theorem cm_J9_abs_0f7a4 : Cond.code yJ9_abs_0f7a4 cJ9_abs_0f7a4 1 (some .int) ∈ am_G := am_G_t (i := 763) (by decide +kernel) rfl
theorem sm_J9_abs_0f7a4 : Cond.static yJ9_abs_0f7a4 ∈ am_G := am_G_t (i := 762) (by decide +kernel) rfl
theorem ct_X12_245 : am_cs RX12 245 yJ9_abs_0f7a4 cJ9_abs_0f7a4 1 (some .int) 1 := ⟨cm_J9_abs_0f7a4, am_G_t (i := 1711) (by decide +kernel) rfl, sm_J9_abs_0f7a4, in_J9, ⟨by decide, by decide, by decide +kernel⟩⟩
theorem cm_X12_costOf : Cond.code yX12_costOf cX12_costOf 1 (some .int) ∈ am_G := am_G_t (i := 1698) (by decide +kernel) rfl
theorem sm_X12_costOf : Cond.static yX12_costOf ∈ am_G := am_G_t (i := 1697) (by decide +kernel) rfl
theorem in_X12 : Cond.initialized RX12 ∈ am_G := am_G_t (i := 13) (by decide +kernel) rfl
theorem ct_X12_268 : am_cs RX12 268 yX12_costOf cX12_costOf 1 (some .int) 1 := ⟨cm_X12_costOf, am_G_t (i := 1696) (by decide +kernel) rfl, sm_X12_costOf, in_X12, ⟨by decide, by decide, by decide +kernel⟩⟩
theorem cm_X12_isBegin : Cond.code yX12_isBegin cX12_isBegin 2 (some .boolean) ∈ am_G := am_G_t (i := 1790) (by decide +kernel) rfl
theorem sm_X12_isBegin : Cond.static yX12_isBegin ∈ am_G := am_G_t (i := 1789) (by decide +kernel) rfl
theorem ct_X12_303 : am_cs RX12 303 yX12_isBegin cX12_isBegin 2 (some .boolean) 2 := ⟨cm_X12_isBegin, am_G_t (i := 1788) (by decide +kernel) rfl, sm_X12_isBegin, in_X12, ⟨by decide, by decide, by decide +kernel⟩⟩
theorem ct_X12_306 : am_cs RX12 306 yJ9_min_7cf53 cJ9_min_7cf53 2 (some .int) 2 := ⟨cm_J9_min_7cf53, am_G_t (i := 1799) (by decide +kernel) rfl, sm_J9_min_7cf53, in_J9, ⟨by decide, by decide, by decide +kernel⟩⟩
theorem cm_X12_has : Cond.code yX12_has cX12_has 2 (some .boolean) ∈ am_G := am_G_t (i := 1835) (by decide +kernel) rfl
theorem sm_X12_has : Cond.static yX12_has ∈ am_G := am_G_t (i := 1834) (by decide +kernel) rfl
theorem ct_X12_319 : am_cs RX12 319 yX12_has cX12_has 2 (some .boolean) 2 := ⟨cm_X12_has, am_G_t (i := 1833) (by decide +kernel) rfl, sm_X12_has, in_X12, ⟨by decide, by decide, by decide +kernel⟩⟩
theorem cm_X12_in : Cond.code yX12_in cX12_in 3 (some .boolean) ∈ am_G := am_G_t (i := 1599) (by decide +kernel) rfl
theorem sm_X12_in : Cond.static yX12_in ∈ am_G := am_G_t (i := 1598) (by decide +kernel) rfl
theorem ct_X12_78 : am_cs RX12 78 yX12_in cX12_in 3 (some .boolean) 3 := ⟨cm_X12_in, am_G_t (i := 1597) (by decide +kernel) rfl, sm_X12_in, in_X12, ⟨by decide, by decide, by decide +kernel⟩⟩
theorem cm_X12_lengthOf : Cond.code yX12_lengthOf cX12_lengthOf 3 (some .int) ∈ am_G := am_G_t (i := 1701) (by decide +kernel) rfl
theorem sm_X12_lengthOf : Cond.static yX12_lengthOf ∈ am_G := am_G_t (i := 1700) (by decide +kernel) rfl
theorem ct_X12_85 : am_cs RX12 85 yX12_lengthOf cX12_lengthOf 3 (some .int) 1 := ⟨cm_X12_lengthOf, am_G_t (i := 1699) (by decide +kernel) rfl, sm_X12_lengthOf, in_X12, ⟨by decide, by decide, by decide +kernel⟩⟩
theorem ct_X12_89 : am_cs RX12 89 yJ6_bitCount_0f7a4 cJ6_bitCount_0f7a4 1 (some .int) 1 := ⟨cm_J6_bitCount_0f7a4, am_G_t (i := 1702) (by decide +kernel) rfl, sm_J6_bitCount_0f7a4, in_J6, ⟨by decide, by decide, by decide +kernel⟩⟩
theorem cm_J9_max_7cf53 : Cond.code yJ9_max_7cf53 cJ9_max_7cf53 2 (some .int) ∈ am_G := am_G_t (i := 1091) (by decide +kernel) rfl
theorem sm_J9_max_7cf53 : Cond.static yJ9_max_7cf53 ∈ am_G := am_G_t (i := 1090) (by decide +kernel) rfl
theorem ct_X12_94 : am_cs RX12 94 yJ9_max_7cf53 cJ9_max_7cf53 2 (some .int) 2 := ⟨cm_J9_max_7cf53, am_G_t (i := 1759) (by decide +kernel) rfl, sm_J9_max_7cf53, in_J9, ⟨by decide, by decide, by decide +kernel⟩⟩
theorem cm_X12_cut : Cond.code yX12_cut cX12_cut 2 (some .int) ∈ am_G := am_G_t (i := 1758) (by decide +kernel) rfl
theorem sm_X12_cut : Cond.static yX12_cut ∈ am_G := am_G_t (i := 1757) (by decide +kernel) rfl
theorem ct_X12_99 : am_cs RX12 99 yX12_cut cX12_cut 2 (some .int) 2 := ⟨cm_X12_cut, am_G_t (i := 1756) (by decide +kernel) rfl, sm_X12_cut, in_X12, ⟨by decide, by decide, by decide +kernel⟩⟩
theorem ct_X1_58 : am_csN RX1 58 yX11_minutesOf "BellTown" cX11_minutesOf 1 (some .int) 1 := ⟨cm_X11_minutesOf, am_nw_t (i := 1179) (by decide +kernel) rfl, sm_X11_minutesOf, in_X11, ⟨by decide, by decide, by decide +kernel⟩⟩
theorem ct_X3_37 : am_cs RX3 37 yJ9_min_7cf53 cJ9_min_7cf53 2 (some .int) 2 := ⟨cm_J9_min_7cf53, am_G_t (i := 1273) (by decide +kernel) rfl, sm_J9_min_7cf53, in_J9, ⟨by decide, by decide, by decide +kernel⟩⟩
theorem ct_X3_47 : am_cs RX3 47 yJ9_max_7cf53 cJ9_max_7cf53 2 (some .int) 2 := ⟨cm_J9_max_7cf53, am_G_t (i := 1278) (by decide +kernel) rfl, sm_J9_max_7cf53, in_J9, ⟨by decide, by decide, by decide +kernel⟩⟩
theorem ct_X3_73 : am_csN RX3 73 yX11_strokesOf "BellTown" cX11_strokesOf 3 (some .int) 1 := ⟨cm_X11_strokesOf, am_nw_t (i := 1302) (by decide +kernel) rfl, sm_X11_strokesOf, in_X11, ⟨by decide, by decide, by decide +kernel⟩⟩
theorem ct_X4_15 : am_cs RX4 15 yJ9_min_7cf53 cJ9_min_7cf53 2 (some .int) 2 := ⟨cm_J9_min_7cf53, am_G_t (i := 551) (by decide +kernel) rfl, sm_J9_min_7cf53, in_J9, ⟨by decide, by decide, by decide +kernel⟩⟩
theorem cm_X4_kindOf : Cond.code yX4_kindOf cX4_kindOf 1 (some .int) ∈ am_G := am_G_t (i := 560) (by decide +kernel) rfl
theorem sm_X4_kindOf : Cond.static yX4_kindOf ∈ am_G := am_G_t (i := 559) (by decide +kernel) rfl
theorem in_X4 : Cond.initialized RX4 ∈ am_G := am_G_t (i := 6) (by decide +kernel) rfl
theorem ct_X4_37 : am_cs RX4 37 yX4_kindOf cX4_kindOf 1 (some .int) 1 := ⟨cm_X4_kindOf, am_G_t (i := 558) (by decide +kernel) rfl, sm_X4_kindOf, in_X4, ⟨by decide, by decide, by decide +kernel⟩⟩
theorem ct_X5_27 : am_csN RX5 27 yX11_strokesOf "BellTown" cX11_strokesOf 3 (some .int) 1 := ⟨cm_X11_strokesOf, am_nw_t (i := 1113) (by decide +kernel) rfl, sm_X11_strokesOf, in_X11, ⟨by decide, by decide, by decide +kernel⟩⟩
theorem ct_X5_31 : am_csN RX5 31 yX11_minutesOf "BellTown" cX11_minutesOf 1 (some .int) 1 := ⟨cm_X11_minutesOf, am_nw_t (i := 1114) (by decide +kernel) rfl, sm_X11_minutesOf, in_X11, ⟨by decide, by decide, by decide +kernel⟩⟩
theorem ct_X5_46 : am_cs RX5 46 yJ7_fill_53178 cJ7_fill_53178 4 none 2 := ⟨cm_J7_fill_53178, am_G_t (i := 1117) (by decide +kernel) rfl, sm_J7_fill_53178, in_J7, ⟨by decide, by decide, by decide +kernel⟩⟩
theorem ct_X5_63 : am_cs RX5 63 yJ6_bitCount_0f7a4 cJ6_bitCount_0f7a4 1 (some .int) 1 := ⟨cm_J6_bitCount_0f7a4, am_G_t (i := 1136) (by decide +kernel) rfl, sm_J6_bitCount_0f7a4, in_J6, ⟨by decide, by decide, by decide +kernel⟩⟩
theorem ct_X6_46 : am_csN RX6 46 yX11_cutTo "BellTown" cX11_cutTo 3 (some .int) 2 := ⟨cm_X11_cutTo, am_nw_t (i := 972) (by decide +kernel) rfl, sm_X11_cutTo, in_X11, ⟨by decide, by decide, by decide +kernel⟩⟩
theorem ct_X6_49 : am_csN RX6 49 yX11_minutesOf "BellTown" cX11_minutesOf 1 (some .int) 1 := ⟨cm_X11_minutesOf, am_nw_t (i := 975) (by decide +kernel) rfl, sm_X11_minutesOf, in_X11, ⟨by decide, by decide, by decide +kernel⟩⟩
theorem ct_X6_64 : am_csN RX6 64 yX11_strokesOf "BellTown" cX11_strokesOf 3 (some .int) 1 := ⟨cm_X11_strokesOf, am_nw_t (i := 984) (by decide +kernel) rfl, sm_X11_strokesOf, in_X11, ⟨by decide, by decide, by decide +kernel⟩⟩
theorem ct_X7_36 : am_cs RX7 36 yJ9_max_7cf53 cJ9_max_7cf53 2 (some .int) 2 := ⟨cm_J9_max_7cf53, am_G_t (i := 1089) (by decide +kernel) rfl, sm_J9_max_7cf53, in_J9, ⟨by decide, by decide, by decide +kernel⟩⟩
theorem ct_X8_69 : am_csN RX8 69 yX11_minutesOf "BellTown" cX11_minutesOf 1 (some .int) 1 := ⟨cm_X11_minutesOf, am_nw_t (i := 1163) (by decide +kernel) rfl, sm_X11_minutesOf, in_X11, ⟨by decide, by decide, by decide +kernel⟩⟩
theorem ct_X8_72 : am_cs RX8 72 yJ6_bitCount_0f7a4 cJ6_bitCount_0f7a4 1 (some .int) 1 := ⟨cm_J6_bitCount_0f7a4, am_G_t (i := 1200) (by decide +kernel) rfl, sm_J6_bitCount_0f7a4, in_J6, ⟨by decide, by decide, by decide +kernel⟩⟩
theorem ct_X8_77 : am_csN RX8 77 yX11_seedBehind "BellTown" cX11_seedBehind 1 (some .int) 1 := ⟨cm_X11_seedBehind, am_nw_t (i := 1221) (by decide +kernel) rfl, sm_X11_seedBehind, in_X11, ⟨by decide, by decide, by decide +kernel⟩⟩
theorem ct_X8_80 : am_csN RX8 80 yX11_drawOf "BellTown" cX11_drawOf 1 (some .int) 1 := ⟨cm_X11_drawOf, am_nw_t (i := 1225) (by decide +kernel) rfl, sm_X11_drawOf, in_X11, ⟨by decide, by decide, by decide +kernel⟩⟩
theorem cm_X8_houseAt : Cond.code yX8_houseAt cX8_houseAt 4 (some .int) ∈ am_G := am_G_t (i := 1230) (by decide +kernel) rfl
theorem sm_X8_houseAt : Cond.static yX8_houseAt ∈ am_G := am_G_t (i := 1229) (by decide +kernel) rfl
theorem in_X8 : Cond.initialized RX8 ∈ am_G := am_G_t (i := 10) (by decide +kernel) rfl
theorem ct_X8_83 : am_cs RX8 83 yX8_houseAt cX8_houseAt 4 (some .int) 2 := ⟨cm_X8_houseAt, am_G_t (i := 1228) (by decide +kernel) rfl, sm_X8_houseAt, in_X8, ⟨by decide, by decide, by decide +kernel⟩⟩
theorem ct_X8_93 : am_cs RX8 93 yJ9_max_7cf53 cJ9_max_7cf53 2 (some .int) 2 := ⟨cm_J9_max_7cf53, am_G_t (i := 1205) (by decide +kernel) rfl, sm_J9_max_7cf53, in_J9, ⟨by decide, by decide, by decide +kernel⟩⟩
theorem ct_X9_100 : am_cs RX9 100 yJ9_abs_0f7a4 cJ9_abs_0f7a4 1 (some .int) 1 := ⟨cm_J9_abs_0f7a4, am_G_t (i := 761) (by decide +kernel) rfl, sm_J9_abs_0f7a4, in_J9, ⟨by decide, by decide, by decide +kernel⟩⟩
theorem ct_X9_115 : am_csN RX9 115 yX11_cutTo "BellTown" cX11_cutTo 3 (some .int) 2 := ⟨cm_X11_cutTo, am_nw_t (i := 1045) (by decide +kernel) rfl, sm_X11_cutTo, in_X11, ⟨by decide, by decide, by decide +kernel⟩⟩
theorem ct_X9_121 : am_csN RX9 121 yX11_strokesOf "BellTown" cX11_strokesOf 3 (some .int) 1 := ⟨cm_X11_strokesOf, am_nw_t (i := 1319) (by decide +kernel) rfl, sm_X11_strokesOf, in_X11, ⟨by decide, by decide, by decide +kernel⟩⟩
theorem cm_X11_isOneBegin : Cond.code yX11_isOneBegin cX11_isOneBegin 3 (some .boolean) ∈ am_G := am_G_t (i := 1030) (by decide +kernel) rfl
theorem sm_X11_isOneBegin : Cond.static yX11_isOneBegin ∈ am_G := am_G_t (i := 1029) (by decide +kernel) rfl
theorem ct_X9_124 : am_csN RX9 124 yX11_isOneBegin "BellTown" cX11_isOneBegin 3 (some .boolean) 2 := ⟨cm_X11_isOneBegin, am_nw_t (i := 1028) (by decide +kernel) rfl, sm_X11_isOneBegin, in_X11, ⟨by decide, by decide, by decide +kernel⟩⟩
theorem ct_X9_97 : am_csN RX9 97 yX11_minutesOf "BellTown" cX11_minutesOf 1 (some .int) 1 := ⟨cm_X11_minutesOf, am_nw_t (i := 522) (by decide +kernel) rfl, sm_X11_minutesOf, in_X11, ⟨by decide, by decide, by decide +kernel⟩⟩
theorem cm_X9_urgentOf : Cond.code yX9_urgentOf cX9_urgentOf 2 (some .int) ∈ am_G := am_G_t (i := 460) (by decide +kernel) rfl
theorem im_X9_urgentOf : Cond.instanceMethod yX9_urgentOf ∈ am_G := am_G_t (i := 459) (by decide +kernel) rfl
theorem se_X9_urgentOf : Cond.selects yX9_urgentOf.cls yX9_urgentOf yX9_urgentOf ∈ am_G := am_G_p (i := 2) (q := (yX9_urgentOf, 16)) (by decide +kernel)
theorem in_X9 : Cond.initialized RX9 ∈ am_G := am_G_t (i := 2) (by decide +kernel) rfl
theorem cv_X0_30 : am_cvN RX0 30 9 yX9_urgentOf "BellTown" cX9_urgentOf 2 (some .int) 1 := ⟨rfl, cm_X9_urgentOf, am_nw_t (i := 457) (by decide +kernel) rfl, im_X9_urgentOf, se_X9_urgentOf, in_X9, ⟨by decide, by decide, by decide +kernel⟩⟩
theorem cm_X0_leastOfAll : Cond.code yX0_leastOfAll cX0_leastOfAll 8 (some .int) ∈ am_G := am_G_t (i := 468) (by decide +kernel) rfl
theorem im_X0_leastOfAll : Cond.instanceMethod yX0_leastOfAll ∈ am_G := am_G_t (i := 467) (by decide +kernel) rfl
theorem se_X0_leastOfAll : Cond.selects yX0_leastOfAll.cls yX0_leastOfAll yX0_leastOfAll ∈ am_G := am_G_p (i := 4) (q := (yX0_leastOfAll, 8)) (by decide +kernel)
theorem in_X0 : Cond.initialized RX0 ∈ am_G := am_G_t (i := 11) (by decide +kernel) rfl
theorem cv_X0_34 : am_cv RX0 34 0 yX0_leastOfAll cX0_leastOfAll 8 (some .int) 1 := ⟨rfl, cm_X0_leastOfAll, am_G_t (i := 465) (by decide +kernel) rfl, im_X0_leastOfAll, se_X0_leastOfAll, in_X0, ⟨by decide, by decide, by decide +kernel⟩⟩
theorem cm_X9_clashesOf : Cond.code yX9_clashesOf cX9_clashesOf 7 (some .int) ∈ am_G := am_G_t (i := 1027) (by decide +kernel) rfl
theorem im_X9_clashesOf : Cond.instanceMethod yX9_clashesOf ∈ am_G := am_G_t (i := 1026) (by decide +kernel) rfl
theorem se_X9_clashesOf : Cond.selects yX9_clashesOf.cls yX9_clashesOf yX9_clashesOf ∈ am_G := am_G_p (i := 58) (q := (yX9_clashesOf, 16)) (by decide +kernel)
theorem cv_X0_43 : am_cvN RX0 43 9 yX9_clashesOf "BellTown" cX9_clashesOf 7 (some .int) 1 := ⟨rfl, cm_X9_clashesOf, am_nw_t (i := 1243) (by decide +kernel) rfl, im_X9_clashesOf, se_X9_clashesOf, in_X9, ⟨by decide, by decide, by decide +kernel⟩⟩
theorem cm_X9_wordFor : Cond.code yX9_wordFor cX9_wordFor 3 (some .int) ∈ am_G := am_G_t (i := 509) (by decide +kernel) rfl
theorem im_X9_wordFor : Cond.instanceMethod yX9_wordFor ∈ am_G := am_G_t (i := 508) (by decide +kernel) rfl
theorem se_X9_wordFor : Cond.selects yX9_wordFor.cls yX9_wordFor yX9_wordFor ∈ am_G := am_G_p (i := 10) (q := (yX9_wordFor, 16)) (by decide +kernel)
theorem cv_X0_46 : am_cvN RX0 46 9 yX9_wordFor "BellTown" cX9_wordFor 3 (some .int) 2 := ⟨rfl, cm_X9_wordFor, am_nw_t (i := 1244) (by decide +kernel) rfl, im_X9_wordFor, se_X9_wordFor, in_X9, ⟨by decide, by decide, by decide +kernel⟩⟩
theorem cm_X0_tryWay : Cond.code yX0_tryWay cX0_tryWay 3 none ∈ am_G := am_G_t (i := 1249) (by decide +kernel) rfl
theorem im_X0_tryWay : Cond.instanceMethod yX0_tryWay ∈ am_G := am_G_t (i := 1248) (by decide +kernel) rfl
theorem se_X0_tryWay : Cond.selects yX0_tryWay.cls yX0_tryWay yX0_tryWay ∈ am_G := am_G_p (i := 85) (q := (yX0_tryWay, 8)) (by decide +kernel)
theorem cv_X0_53 : am_cv RX0 53 0 yX0_tryWay cX0_tryWay 3 none 2 := ⟨rfl, cm_X0_tryWay, am_G_t (i := 1246) (by decide +kernel) rfl, im_X0_tryWay, se_X0_tryWay, in_X0, ⟨by decide, by decide, by decide +kernel⟩⟩
theorem cm_X0_tryLonger : Cond.code yX0_tryLonger cX0_tryLonger 9 none ∈ am_G := am_G_t (i := 1253) (by decide +kernel) rfl
theorem im_X0_tryLonger : Cond.instanceMethod yX0_tryLonger ∈ am_G := am_G_t (i := 1252) (by decide +kernel) rfl
theorem se_X0_tryLonger : Cond.selects yX0_tryLonger.cls yX0_tryLonger yX0_tryLonger ∈ am_G := am_G_p (i := 86) (q := (yX0_tryLonger, 8)) (by decide +kernel)
theorem cv_X0_63 : am_cv RX0 63 0 yX0_tryLonger cX0_tryLonger 9 none 4 := ⟨rfl, cm_X0_tryLonger, am_G_t (i := 1250) (by decide +kernel) rfl, im_X0_tryLonger, se_X0_tryLonger, in_X0, ⟨by decide, by decide, by decide +kernel⟩⟩
theorem cm_X0_lengthBehind : Cond.code yX0_lengthBehind cX0_lengthBehind 5 (some .int) ∈ am_G := am_G_t (i := 1257) (by decide +kernel) rfl
theorem im_X0_lengthBehind : Cond.instanceMethod yX0_lengthBehind ∈ am_G := am_G_t (i := 1256) (by decide +kernel) rfl
theorem se_X0_lengthBehind : Cond.selects yX0_lengthBehind.cls yX0_lengthBehind yX0_lengthBehind ∈ am_G := am_G_p (i := 87) (q := (yX0_lengthBehind, 8)) (by decide +kernel)
theorem cv_X0_67 : am_cv RX0 67 0 yX0_lengthBehind cX0_lengthBehind 5 (some .int) 2 := ⟨rfl, cm_X0_lengthBehind, am_G_t (i := 1254) (by decide +kernel) rfl, im_X0_lengthBehind, se_X0_lengthBehind, in_X0, ⟨by decide, by decide, by decide +kernel⟩⟩
theorem cm_X0_keepIfLess : Cond.code yX0_keepIfLess cX0_keepIfLess 3 none ∈ am_G := am_G_t (i := 1261) (by decide +kernel) rfl
theorem im_X0_keepIfLess : Cond.instanceMethod yX0_keepIfLess ∈ am_G := am_G_t (i := 1260) (by decide +kernel) rfl
theorem se_X0_keepIfLess : Cond.selects yX0_keepIfLess.cls yX0_keepIfLess yX0_keepIfLess ∈ am_G := am_G_p (i := 88) (q := (yX0_keepIfLess, 8)) (by decide +kernel)
theorem cv_X0_70 : am_cv RX0 70 0 yX0_keepIfLess cX0_keepIfLess 3 none 2 := ⟨rfl, cm_X0_keepIfLess, am_G_t (i := 1258) (by decide +kernel) rfl, im_X0_keepIfLess, se_X0_keepIfLess, in_X0, ⟨by decide, by decide, by decide +kernel⟩⟩
theorem cm_X4_word : Cond.code yX4_word cX4_word 3 (some .int) ∈ am_G := am_G_t (i := 657) (by decide +kernel) rfl
theorem im_X4_word : Cond.instanceMethod yX4_word ∈ am_G := am_G_t (i := 656) (by decide +kernel) rfl
theorem se_X4_word : Cond.selects yX4_word.cls yX4_word yX4_word ∈ am_G := am_G_p (i := 26) (q := (yX4_word, 6)) (by decide +kernel)
theorem cv_X10_105 : am_cvN RX10 105 4 yX4_word "BellTown" cX4_word 3 (some .int) 0 := ⟨rfl, cm_X4_word, am_nw_t (i := 654) (by decide +kernel) rfl, im_X4_word, se_X4_word, in_X4, ⟨by decide, by decide, by decide +kernel⟩⟩
theorem cm_X9_setWord : Cond.code yX9_setWord cX9_setWord 4 none ∈ am_G := am_G_t (i := 661) (by decide +kernel) rfl
theorem im_X9_setWord : Cond.instanceMethod yX9_setWord ∈ am_G := am_G_t (i := 660) (by decide +kernel) rfl
theorem se_X9_setWord : Cond.selects yX9_setWord.cls yX9_setWord yX9_setWord ∈ am_G := am_G_p (i := 27) (q := (yX9_setWord, 16)) (by decide +kernel)
theorem cv_X10_109 : am_cvN RX10 109 9 yX9_setWord "BellTown" cX9_setWord 4 none 3 := ⟨rfl, cm_X9_setWord, am_nw_t (i := 658) (by decide +kernel) rfl, im_X9_setWord, se_X9_setWord, in_X9, ⟨by decide, by decide, by decide +kernel⟩⟩
theorem cm_X4_open : Cond.code yX4_open cX4_open 3 none ∈ am_G := am_G_t (i := 550) (by decide +kernel) rfl
theorem im_X4_open : Cond.instanceMethod yX4_open ∈ am_G := am_G_t (i := 549) (by decide +kernel) rfl
theorem se_X4_open : Cond.selects yX4_open.cls yX4_open yX4_open ∈ am_G := am_G_p (i := 15) (q := (yX4_open, 6)) (by decide +kernel)
theorem cv_X10_18 : am_cvN RX10 18 4 yX4_open "BellTown" cX4_open 3 none 2 := ⟨rfl, cm_X4_open, am_nw_t (i := 547) (by decide +kernel) rfl, im_X4_open, se_X4_open, in_X4, ⟨by decide, by decide, by decide +kernel⟩⟩
theorem cm_X4_isAtLine : Cond.code yX4_isAtLine cX4_isAtLine 3 (some .boolean) ∈ am_G := am_G_t (i := 564) (by decide +kernel) rfl
theorem im_X4_isAtLine : Cond.instanceMethod yX4_isAtLine ∈ am_G := am_G_t (i := 563) (by decide +kernel) rfl
theorem se_X4_isAtLine : Cond.selects yX4_isAtLine.cls yX4_isAtLine yX4_isAtLine ∈ am_G := am_G_p (i := 17) (q := (yX4_isAtLine, 6)) (by decide +kernel)
theorem cv_X10_22 : am_cvN RX10 22 4 yX4_isAtLine "BellTown" cX4_isAtLine 3 (some .boolean) 2 := ⟨rfl, cm_X4_isAtLine, am_nw_t (i := 561) (by decide +kernel) rfl, im_X4_isAtLine, se_X4_isAtLine, in_X4, ⟨by decide, by decide, by decide +kernel⟩⟩
theorem cm_X10_readLine : Cond.code yX10_readLine cX10_readLine 2 none ∈ am_G := am_G_t (i := 629) (by decide +kernel) rfl
theorem im_X10_readLine : Cond.instanceMethod yX10_readLine ∈ am_G := am_G_t (i := 628) (by decide +kernel) rfl
theorem se_X10_readLine : Cond.selects yX10_readLine.cls yX10_readLine yX10_readLine ∈ am_G := am_G_p (i := 21) (q := (yX10_readLine, 1)) (by decide +kernel)
theorem in_X10 : Cond.initialized RX10 ∈ am_G := am_G_t (i := 5) (by decide +kernel) rfl
theorem cv_X10_26 : am_cv RX10 26 10 yX10_readLine cX10_readLine 2 none 1 := ⟨rfl, cm_X10_readLine, am_G_t (i := 626) (by decide +kernel) rfl, im_X10_readLine, se_X10_readLine, in_X10, ⟨by decide, by decide, by decide +kernel⟩⟩
theorem cm_X4_isAt : Cond.code yX4_isAt cX4_isAt 3 (some .boolean) ∈ am_G := am_G_t (i := 573) (by decide +kernel) rfl
theorem im_X4_isAt : Cond.instanceMethod yX4_isAt ∈ am_G := am_G_t (i := 572) (by decide +kernel) rfl
theorem se_X4_isAt : Cond.selects yX4_isAt.cls yX4_isAt yX4_isAt ∈ am_G := am_G_p (i := 19) (q := (yX4_isAt, 6)) (by decide +kernel)
theorem cv_X10_36 : am_cvN RX10 36 4 yX4_isAt "BellTown" cX4_isAt 3 (some .boolean) 1 := ⟨rfl, cm_X4_isAt, am_nw_t (i := 631) (by decide +kernel) rfl, im_X4_isAt, se_X4_isAt, in_X4, ⟨by decide, by decide, by decide +kernel⟩⟩
theorem cm_X10_readHouse : Cond.code yX10_readHouse cX10_readHouse 3 none ∈ am_G := am_G_t (i := 635) (by decide +kernel) rfl
theorem im_X10_readHouse : Cond.instanceMethod yX10_readHouse ∈ am_G := am_G_t (i := 634) (by decide +kernel) rfl
theorem se_X10_readHouse : Cond.selects yX10_readHouse.cls yX10_readHouse yX10_readHouse ∈ am_G := am_G_p (i := 22) (q := (yX10_readHouse, 1)) (by decide +kernel)
theorem cv_X10_40 : am_cv RX10 40 10 yX10_readHouse cX10_readHouse 3 none 1 := ⟨rfl, cm_X10_readHouse, am_G_t (i := 632) (by decide +kernel) rfl, im_X10_readHouse, se_X10_readHouse, in_X10, ⟨by decide, by decide, by decide +kernel⟩⟩
theorem cm_X10_readWant : Cond.code yX10_readWant cX10_readWant 3 none ∈ am_G := am_G_t (i := 648) (by decide +kernel) rfl
theorem im_X10_readWant : Cond.instanceMethod yX10_readWant ∈ am_G := am_G_t (i := 647) (by decide +kernel) rfl
theorem se_X10_readWant : Cond.selects yX10_readWant.cls yX10_readWant yX10_readWant ∈ am_G := am_G_p (i := 24) (q := (yX10_readWant, 1)) (by decide +kernel)
theorem cv_X10_45 : am_cv RX10 45 10 yX10_readWant cX10_readWant 3 none 1 := ⟨rfl, cm_X10_readWant, am_G_t (i := 645) (by decide +kernel) rfl, im_X10_readWant, se_X10_readWant, in_X10, ⟨by decide, by decide, by decide +kernel⟩⟩
theorem cm_X4_took : Cond.code yX4_took cX4_took 2 (some .boolean) ∈ am_G := am_G_t (i := 569) (by decide +kernel) rfl
theorem im_X4_took : Cond.instanceMethod yX4_took ∈ am_G := am_G_t (i := 568) (by decide +kernel) rfl
theorem se_X4_took : Cond.selects yX4_took.cls yX4_took yX4_took ∈ am_G := am_G_p (i := 18) (q := (yX4_took, 6)) (by decide +kernel)
theorem cv_X10_50 : am_cvN RX10 50 4 yX4_took "BellTown" cX4_took 2 (some .boolean) 1 := ⟨rfl, cm_X4_took, am_nw_t (i := 643) (by decide +kernel) rfl, im_X4_took, se_X4_took, in_X4, ⟨by decide, by decide, by decide +kernel⟩⟩
theorem cm_X10_readCode : Cond.code yX10_readCode cX10_readCode 6 none ∈ am_G := am_G_t (i := 653) (by decide +kernel) rfl
theorem im_X10_readCode : Cond.instanceMethod yX10_readCode ∈ am_G := am_G_t (i := 652) (by decide +kernel) rfl
theorem se_X10_readCode : Cond.selects yX10_readCode.cls yX10_readCode yX10_readCode ∈ am_G := am_G_p (i := 25) (q := (yX10_readCode, 1)) (by decide +kernel)
theorem cv_X10_53 : am_cv RX10 53 10 yX10_readCode cX10_readCode 6 none 2 := ⟨rfl, cm_X10_readCode, am_G_t (i := 650) (by decide +kernel) rfl, im_X10_readCode, se_X10_readCode, in_X10, ⟨by decide, by decide, by decide +kernel⟩⟩
theorem cm_X10_readWind : Cond.code yX10_readWind cX10_readWind 3 none ∈ am_G := am_G_t (i := 667) (by decide +kernel) rfl
theorem im_X10_readWind : Cond.instanceMethod yX10_readWind ∈ am_G := am_G_t (i := 666) (by decide +kernel) rfl
theorem se_X10_readWind : Cond.selects yX10_readWind.cls yX10_readWind yX10_readWind ∈ am_G := am_G_p (i := 28) (q := (yX10_readWind, 1)) (by decide +kernel)
theorem cv_X10_61 : am_cv RX10 61 10 yX10_readWind cX10_readWind 3 none 2 := ⟨rfl, cm_X10_readWind, am_G_t (i := 664) (by decide +kernel) rfl, im_X10_readWind, se_X10_readWind, in_X10, ⟨by decide, by decide, by decide +kernel⟩⟩
theorem cm_X4_refuse : Cond.code yX4_refuse cX4_refuse 1 none ∈ am_G := am_G_t (i := 625) (by decide +kernel) rfl
theorem im_X4_refuse : Cond.instanceMethod yX4_refuse ∈ am_G := am_G_t (i := 624) (by decide +kernel) rfl
theorem se_X4_refuse : Cond.selects yX4_refuse.cls yX4_refuse yX4_refuse ∈ am_G := am_G_p (i := 20) (q := (yX4_refuse, 6)) (by decide +kernel)
theorem cv_X10_67 : am_cvN RX10 67 4 yX4_refuse "BellTown" cX4_refuse 1 none 0 := ⟨rfl, cm_X4_refuse, am_nw_t (i := 636) (by decide +kernel) rfl, im_X4_refuse, se_X4_refuse, in_X4, ⟨by decide, by decide, by decide +kernel⟩⟩
theorem cm_X4_step : Cond.code yX4_step cX4_step 1 none ∈ am_G := am_G_t (i := 557) (by decide +kernel) rfl
theorem im_X4_step : Cond.instanceMethod yX4_step ∈ am_G := am_G_t (i := 556) (by decide +kernel) rfl
theorem se_X4_step : Cond.selects yX4_step.cls yX4_step yX4_step ∈ am_G := am_G_p (i := 16) (q := (yX4_step, 6)) (by decide +kernel)
theorem cv_X10_75 : am_cvN RX10 75 4 yX4_step "BellTown" cX4_step 1 none 0 := ⟨rfl, cm_X4_step, am_nw_t (i := 637) (by decide +kernel) rfl, im_X4_step, se_X4_step, in_X4, ⟨by decide, by decide, by decide +kernel⟩⟩
theorem cm_X4_number : Cond.code yX4_number cX4_number 5 (some .int) ∈ am_G := am_G_t (i := 641) (by decide +kernel) rfl
theorem im_X4_number : Cond.instanceMethod yX4_number ∈ am_G := am_G_t (i := 640) (by decide +kernel) rfl
theorem se_X4_number : Cond.selects yX4_number.cls yX4_number yX4_number ∈ am_G := am_G_p (i := 23) (q := (yX4_number, 6)) (by decide +kernel)
theorem cv_X10_82 : am_cvN RX10 82 4 yX4_number "BellTown" cX4_number 5 (some .int) 2 := ⟨rfl, cm_X4_number, am_nw_t (i := 638) (by decide +kernel) rfl, im_X4_number, se_X4_number, in_X4, ⟨by decide, by decide, by decide +kernel⟩⟩
theorem cm_X10_readInto : Cond.code yX10_readInto cX10_readInto 5 (some .int) ∈ am_G := am_G_t (i := 546) (by decide +kernel) rfl
theorem im_X10_readInto : Cond.instanceMethod yX10_readInto ∈ am_G := am_G_t (i := 545) (by decide +kernel) rfl
theorem se_X10_readInto : Cond.selects yX10_readInto.cls yX10_readInto yX10_readInto ∈ am_G := am_G_p (i := 14) (q := (yX10_readInto, 1)) (by decide +kernel)
theorem cv_X11_101 : am_cvN RX11 101 10 yX10_readInto "BellTown" cX10_readInto 5 (some .int) 3 := ⟨rfl, cm_X10_readInto, am_nw_t (i := 543) (by decide +kernel) rfl, im_X10_readInto, se_X10_readInto, in_X10, ⟨by decide, by decide, by decide +kernel⟩⟩
theorem cm_X9_measureWays : Cond.code yX9_measureWays cX9_measureWays 5 none ∈ am_G := am_G_t (i := 756) (by decide +kernel) rfl
theorem im_X9_measureWays : Cond.instanceMethod yX9_measureWays ∈ am_G := am_G_t (i := 755) (by decide +kernel) rfl
theorem se_X9_measureWays : Cond.selects yX9_measureWays.cls yX9_measureWays yX9_measureWays ∈ am_G := am_G_p (i := 30) (q := (yX9_measureWays, 16)) (by decide +kernel)
theorem cv_X11_120 : am_cvN RX11 120 9 yX9_measureWays "BellTown" cX9_measureWays 5 none 0 := ⟨rfl, cm_X9_measureWays, am_nw_t (i := 753) (by decide +kernel) rfl, im_X9_measureWays, se_X9_measureWays, in_X9, ⟨by decide, by decide, by decide +kernel⟩⟩
theorem cm_X2_readInto : Cond.code yX2_readInto cX2_readInto 6 (some .int) ∈ am_G := am_G_t (i := 774) (by decide +kernel) rfl
theorem im_X2_readInto : Cond.instanceMethod yX2_readInto ∈ am_G := am_G_t (i := 773) (by decide +kernel) rfl
theorem se_X2_readInto : Cond.selects yX2_readInto.cls yX2_readInto yX2_readInto ∈ am_G := am_G_p (i := 32) (q := (yX2_readInto, 1)) (by decide +kernel)
theorem in_X2 : Cond.initialized RX2 ∈ am_G := am_G_t (i := 7) (by decide +kernel) rfl
theorem cv_X11_127 : am_cvN RX11 127 2 yX2_readInto "BellTown" cX2_readInto 6 (some .int) 3 := ⟨rfl, cm_X2_readInto, am_nw_t (i := 771) (by decide +kernel) rfl, im_X2_readInto, se_X2_readInto, in_X2, ⟨by decide, by decide, by decide +kernel⟩⟩
theorem cm_X1_copyFrom : Cond.code yX1_copyFrom cX1_copyFrom 2 none ∈ am_G := am_G_t (i := 483) (by decide +kernel) rfl
theorem im_X1_copyFrom : Cond.instanceMethod yX1_copyFrom ∈ am_G := am_G_t (i := 482) (by decide +kernel) rfl
theorem se_X1_copyFrom : Cond.selects yX1_copyFrom.cls yX1_copyFrom yX1_copyFrom ∈ am_G := am_G_p (i := 6) (q := (yX1_copyFrom, 8)) (by decide +kernel)
theorem in_X1 : Cond.initialized RX1 ∈ am_G := am_G_t (i := 3) (by decide +kernel) rfl
theorem cv_X11_130 : am_cvN RX11 130 1 yX1_copyFrom "BellTown" cX1_copyFrom 2 none 1 := ⟨rfl, cm_X1_copyFrom, am_nw_t (i := 829) (by decide +kernel) rfl, im_X1_copyFrom, se_X1_copyFrom, in_X1, ⟨by decide, by decide, by decide +kernel⟩⟩
theorem cm_X11_needHouse : Cond.code yX11_needHouse cX11_needHouse 2 none ∈ am_G := am_G_t (i := 842) (by decide +kernel) rfl
theorem im_X11_needHouse : Cond.instanceMethod yX11_needHouse ∈ am_G := am_G_t (i := 841) (by decide +kernel) rfl
theorem se_X11_needHouse : Cond.selects yX11_needHouse.cls yX11_needHouse yX11_needHouse ∈ am_G := am_G_p (i := 41) (q := (yX11_needHouse, 16)) (by decide +kernel)
theorem cv_X11_138 : am_cv RX11 138 11 yX11_needHouse cX11_needHouse 2 none 1 := ⟨rfl, cm_X11_needHouse, am_G_t (i := 839) (by decide +kernel) rfl, im_X11_needHouse, se_X11_needHouse, in_X11, ⟨by decide, by decide, by decide +kernel⟩⟩
theorem cm_X9_wordsOf : Cond.code yX9_wordsOf cX9_wordsOf 4 (some .int) ∈ am_G := am_G_t (i := 505) (by decide +kernel) rfl
theorem im_X9_wordsOf : Cond.instanceMethod yX9_wordsOf ∈ am_G := am_G_t (i := 504) (by decide +kernel) rfl
theorem se_X9_wordsOf : Cond.selects yX9_wordsOf.cls yX9_wordsOf yX9_wordsOf ∈ am_G := am_G_p (i := 9) (q := (yX9_wordsOf, 16)) (by decide +kernel)
theorem cv_X11_156 : am_cvN RX11 156 9 yX9_wordsOf "BellTown" cX9_wordsOf 4 (some .int) 1 := ⟨rfl, cm_X9_wordsOf, am_nw_t (i := 860) (by decide +kernel) rfl, im_X9_wordsOf, se_X9_wordsOf, in_X9, ⟨by decide, by decide, by decide +kernel⟩⟩
theorem cm_X11_needWant : Cond.code yX11_needWant cX11_needWant 2 none ∈ am_G := am_G_t (i := 887) (by decide +kernel) rfl
theorem im_X11_needWant : Cond.instanceMethod yX11_needWant ∈ am_G := am_G_t (i := 886) (by decide +kernel) rfl
theorem se_X11_needWant : Cond.selects yX11_needWant.cls yX11_needWant yX11_needWant ∈ am_G := am_G_p (i := 42) (q := (yX11_needWant, 16)) (by decide +kernel)
theorem cv_X11_165 : am_cv RX11 165 11 yX11_needWant cX11_needWant 2 none 1 := ⟨rfl, cm_X11_needWant, am_G_t (i := 884) (by decide +kernel) rfl, im_X11_needWant, se_X11_needWant, in_X11, ⟨by decide, by decide, by decide +kernel⟩⟩
theorem cv_X11_171 : am_cvN RX11 171 9 yX9_wordFor "BellTown" cX9_wordFor 3 (some .int) 2 := ⟨rfl, cm_X9_wordFor, am_nw_t (i := 897) (by decide +kernel) rfl, im_X9_wordFor, se_X9_wordFor, in_X9, ⟨by decide, by decide, by decide +kernel⟩⟩
theorem cm_X11_needWord : Cond.code yX11_needWord cX11_needWord 2 none ∈ am_G := am_G_t (i := 908) (by decide +kernel) rfl
theorem im_X11_needWord : Cond.instanceMethod yX11_needWord ∈ am_G := am_G_t (i := 907) (by decide +kernel) rfl
theorem se_X11_needWord : Cond.selects yX11_needWord.cls yX11_needWord yX11_needWord ∈ am_G := am_G_p (i := 43) (q := (yX11_needWord, 16)) (by decide +kernel)
theorem cv_X11_175 : am_cv RX11 175 11 yX11_needWord cX11_needWord 2 none 1 := ⟨rfl, cm_X11_needWord, am_G_t (i := 905) (by decide +kernel) rfl, im_X11_needWord, se_X11_needWord, in_X11, ⟨by decide, by decide, by decide +kernel⟩⟩
theorem cm_X9_farFrom : Cond.code yX9_farFrom cX9_farFrom 3 (some .int) ∈ am_G := am_G_t (i := 760) (by decide +kernel) rfl
theorem im_X9_farFrom : Cond.instanceMethod yX9_farFrom ∈ am_G := am_G_t (i := 759) (by decide +kernel) rfl
theorem se_X9_farFrom : Cond.selects yX9_farFrom.cls yX9_farFrom yX9_farFrom ∈ am_G := am_G_p (i := 31) (q := (yX9_farFrom, 16)) (by decide +kernel)
theorem cv_X11_181 : am_cvN RX11 181 9 yX9_farFrom "BellTown" cX9_farFrom 3 (some .int) 2 := ⟨rfl, cm_X9_farFrom, am_nw_t (i := 918) (by decide +kernel) rfl, im_X9_farFrom, se_X9_farFrom, in_X9, ⟨by decide, by decide, by decide +kernel⟩⟩
theorem cm_X9_clearOf : Cond.code yX9_clearOf cX9_clearOf 3 (some .int) ∈ am_G := am_G_t (i := 922) (by decide +kernel) rfl
theorem im_X9_clearOf : Cond.instanceMethod yX9_clearOf ∈ am_G := am_G_t (i := 921) (by decide +kernel) rfl
theorem se_X9_clearOf : Cond.selects yX9_clearOf.cls yX9_clearOf yX9_clearOf ∈ am_G := am_G_p (i := 44) (q := (yX9_clearOf, 16)) (by decide +kernel)
theorem cv_X11_184 : am_cvN RX11 184 9 yX9_clearOf "BellTown" cX9_clearOf 3 (some .int) 2 := ⟨rfl, cm_X9_clearOf, am_nw_t (i := 919) (by decide +kernel) rfl, im_X9_clearOf, se_X9_clearOf, in_X9, ⟨by decide, by decide, by decide +kernel⟩⟩
theorem cm_X9_isHarming : Cond.code yX9_isHarming cX9_isHarming 5 (some .boolean) ∈ am_G := am_G_t (i := 926) (by decide +kernel) rfl
theorem im_X9_isHarming : Cond.instanceMethod yX9_isHarming ∈ am_G := am_G_t (i := 925) (by decide +kernel) rfl
theorem se_X9_isHarming : Cond.selects yX9_isHarming.cls yX9_isHarming yX9_isHarming ∈ am_G := am_G_p (i := 45) (q := (yX9_isHarming, 16)) (by decide +kernel)
theorem cv_X11_187 : am_cvN RX11 187 9 yX9_isHarming "BellTown" cX9_isHarming 5 (some .boolean) 2 := ⟨rfl, cm_X9_isHarming, am_nw_t (i := 923) (by decide +kernel) rfl, im_X9_isHarming, se_X9_isHarming, in_X9, ⟨by decide, by decide, by decide +kernel⟩⟩
theorem cm_X11_needMinute : Cond.code yX11_needMinute cX11_needMinute 2 none ∈ am_G := am_G_t (i := 939) (by decide +kernel) rfl
theorem im_X11_needMinute : Cond.instanceMethod yX11_needMinute ∈ am_G := am_G_t (i := 938) (by decide +kernel) rfl
theorem se_X11_needMinute : Cond.selects yX11_needMinute.cls yX11_needMinute yX11_needMinute ∈ am_G := am_G_p (i := 46) (q := (yX11_needMinute, 16)) (by decide +kernel)
theorem cv_X11_193 : am_cv RX11 193 11 yX11_needMinute cX11_needMinute 2 none 1 := ⟨rfl, cm_X11_needMinute, am_G_t (i := 936) (by decide +kernel) rfl, im_X11_needMinute, se_X11_needMinute, in_X11, ⟨by decide, by decide, by decide +kernel⟩⟩
theorem cm_X11_needRoomForRinging : Cond.code yX11_needRoomForRinging cX11_needRoomForRinging 1 none ∈ am_G := am_G_t (i := 945) (by decide +kernel) rfl
theorem im_X11_needRoomForRinging : Cond.instanceMethod yX11_needRoomForRinging ∈ am_G := am_G_t (i := 944) (by decide +kernel) rfl
theorem se_X11_needRoomForRinging : Cond.selects yX11_needRoomForRinging.cls yX11_needRoomForRinging yX11_needRoomForRinging ∈ am_G := am_G_p (i := 47) (q := (yX11_needRoomForRinging, 16)) (by decide +kernel)
theorem cv_X11_198 : am_cv RX11 198 11 yX11_needRoomForRinging cX11_needRoomForRinging 1 none 0 := ⟨rfl, cm_X11_needRoomForRinging, am_G_t (i := 942) (by decide +kernel) rfl, im_X11_needRoomForRinging, se_X11_needRoomForRinging, in_X11, ⟨by decide, by decide, by decide +kernel⟩⟩
theorem cm_X6_add : Cond.code yX6_add cX6_add 5 (some .int) ∈ am_G := am_G_t (i := 950) (by decide +kernel) rfl
theorem im_X6_add : Cond.instanceMethod yX6_add ∈ am_G := am_G_t (i := 949) (by decide +kernel) rfl
theorem se_X6_add : Cond.selects yX6_add.cls yX6_add yX6_add ∈ am_G := am_G_p (i := 48) (q := (yX6_add, 9)) (by decide +kernel)
theorem in_X6 : Cond.initialized RX6 ∈ am_G := am_G_t (i := 4) (by decide +kernel) rfl
theorem cv_X11_204 : am_cvN RX11 204 6 yX6_add "BellTown" cX6_add 5 (some .int) 4 := ⟨rfl, cm_X6_add, am_nw_t (i := 947) (by decide +kernel) rfl, im_X6_add, se_X6_add, in_X6, ⟨by decide, by decide, by decide +kernel⟩⟩
theorem cm_X11_needRinging : Cond.code yX11_needRinging cX11_needRinging 2 none ∈ am_G := am_G_t (i := 961) (by decide +kernel) rfl
theorem im_X11_needRinging : Cond.instanceMethod yX11_needRinging ∈ am_G := am_G_t (i := 960) (by decide +kernel) rfl
theorem se_X11_needRinging : Cond.selects yX11_needRinging.cls yX11_needRinging yX11_needRinging ∈ am_G := am_G_p (i := 49) (q := (yX11_needRinging, 16)) (by decide +kernel)
theorem cv_X11_211 : am_cv RX11 211 11 yX11_needRinging cX11_needRinging 2 none 1 := ⟨rfl, cm_X11_needRinging, am_G_t (i := 958) (by decide +kernel) rfl, im_X11_needRinging, se_X11_needRinging, in_X11, ⟨by decide, by decide, by decide +kernel⟩⟩
theorem cm_X6_cameTo : Cond.code yX6_cameTo cX6_cameTo 4 (some .int) ∈ am_G := am_G_t (i := 966) (by decide +kernel) rfl
theorem im_X6_cameTo : Cond.instanceMethod yX6_cameTo ∈ am_G := am_G_t (i := 965) (by decide +kernel) rfl
theorem se_X6_cameTo : Cond.selects yX6_cameTo.cls yX6_cameTo yX6_cameTo ∈ am_G := am_G_p (i := 50) (q := (yX6_cameTo, 9)) (by decide +kernel)
theorem cv_X11_214 : am_cvN RX11 214 6 yX6_cameTo "BellTown" cX6_cameTo 4 (some .int) 3 := ⟨rfl, cm_X6_cameTo, am_nw_t (i := 963) (by decide +kernel) rfl, im_X6_cameTo, se_X6_cameTo, in_X6, ⟨by decide, by decide, by decide +kernel⟩⟩
theorem cm_X6_takenAt : Cond.code yX6_takenAt cX6_takenAt 4 (some .int) ∈ am_G := am_G_t (i := 999) (by decide +kernel) rfl
theorem im_X6_takenAt : Cond.instanceMethod yX6_takenAt ∈ am_G := am_G_t (i := 998) (by decide +kernel) rfl
theorem se_X6_takenAt : Cond.selects yX6_takenAt.cls yX6_takenAt yX6_takenAt ∈ am_G := am_G_p (i := 55) (q := (yX6_takenAt, 9)) (by decide +kernel)
theorem cv_X11_218 : am_cvN RX11 218 6 yX6_takenAt "BellTown" cX6_takenAt 4 (some .int) 3 := ⟨rfl, cm_X6_takenAt, am_nw_t (i := 996) (by decide +kernel) rfl, im_X6_takenAt, se_X6_takenAt, in_X6, ⟨by decide, by decide, by decide +kernel⟩⟩
theorem cm_X6_judge : Cond.code yX6_judge cX6_judge 5 none ∈ am_G := am_G_t (i := 1015) (by decide +kernel) rfl
theorem im_X6_judge : Cond.instanceMethod yX6_judge ∈ am_G := am_G_t (i := 1014) (by decide +kernel) rfl
theorem se_X6_judge : Cond.selects yX6_judge.cls yX6_judge yX6_judge ∈ am_G := am_G_p (i := 57) (q := (yX6_judge, 9)) (by decide +kernel)
theorem cv_X11_221 : am_cvN RX11 221 6 yX6_judge "BellTown" cX6_judge 5 none 2 := ⟨rfl, cm_X6_judge, am_nw_t (i := 1012) (by decide +kernel) rfl, im_X6_judge, se_X6_judge, in_X6, ⟨by decide, by decide, by decide +kernel⟩⟩
theorem cv_X11_231 : am_cvN RX11 231 9 yX9_clashesOf "BellTown" cX9_clashesOf 7 (some .int) 1 := ⟨rfl, cm_X9_clashesOf, am_nw_t (i := 1024) (by decide +kernel) rfl, im_X9_clashesOf, se_X9_clashesOf, in_X9, ⟨by decide, by decide, by decide +kernel⟩⟩
theorem cm_X9_isSafe : Cond.code yX9_isSafe cX9_isSafe 7 (some .boolean) ∈ am_G := am_G_t (i := 1044) (by decide +kernel) rfl
theorem im_X9_isSafe : Cond.instanceMethod yX9_isSafe ∈ am_G := am_G_t (i := 1043) (by decide +kernel) rfl
theorem se_X9_isSafe : Cond.selects yX9_isSafe.cls yX9_isSafe yX9_isSafe ∈ am_G := am_G_p (i := 59) (q := (yX9_isSafe, 16)) (by decide +kernel)
theorem cv_X11_236 : am_cvN RX11 236 9 yX9_isSafe "BellTown" cX9_isSafe 7 (some .boolean) 2 := ⟨rfl, cm_X9_isSafe, am_nw_t (i := 1041) (by decide +kernel) rfl, im_X9_isSafe, se_X9_isSafe, in_X9, ⟨by decide, by decide, by decide +kernel⟩⟩
theorem cv_X11_245 : am_cvN RX11 245 9 yX9_setWord "BellTown" cX9_setWord 4 none 3 := ⟨rfl, cm_X9_setWord, am_nw_t (i := 1056) (by decide +kernel) rfl, im_X9_setWord, se_X9_setWord, in_X9, ⟨by decide, by decide, by decide +kernel⟩⟩
theorem cm_X0_leastFor : Cond.code yX0_leastFor cX0_leastFor 5 (some .int) ∈ am_G := am_G_t (i := 456) (by decide +kernel) rfl
theorem im_X0_leastFor : Cond.instanceMethod yX0_leastFor ∈ am_G := am_G_t (i := 455) (by decide +kernel) rfl
theorem se_X0_leastFor : Cond.selects yX0_leastFor.cls yX0_leastFor yX0_leastFor ∈ am_G := am_G_p (i := 1) (q := (yX0_leastFor, 8)) (by decide +kernel)
theorem cv_X11_251 : am_cvN RX11 251 0 yX0_leastFor "BellTown" cX0_leastFor 5 (some .int) 2 := ⟨rfl, cm_X0_leastFor, am_nw_t (i := 453) (by decide +kernel) rfl, im_X0_leastFor, se_X0_leastFor, in_X0, ⟨by decide, by decide, by decide +kernel⟩⟩
theorem cm_X7_paint : Cond.code yX7_paint cX7_paint 3 (some .int) ∈ am_G := am_G_t (i := 1075) (by decide +kernel) rfl
theorem im_X7_paint : Cond.instanceMethod yX7_paint ∈ am_G := am_G_t (i := 1074) (by decide +kernel) rfl
theorem se_X7_paint : Cond.selects yX7_paint.cls yX7_paint yX7_paint ∈ am_G := am_G_p (i := 60) (q := (yX7_paint, 2)) (by decide +kernel)
theorem in_X7 : Cond.initialized RX7 ∈ am_G := am_G_t (i := 8) (by decide +kernel) rfl
theorem cv_X11_255 : am_cvN RX11 255 7 yX7_paint "BellTown" cX7_paint 3 (some .int) 1 := ⟨rfl, cm_X7_paint, am_nw_t (i := 1072) (by decide +kernel) rfl, im_X7_paint, se_X7_paint, in_X7, ⟨by decide, by decide, by decide +kernel⟩⟩
theorem cm_X11_needFirstWord : Cond.code yX11_needFirstWord cX11_needFirstWord 3 none ∈ am_G := am_G_t (i := 1102) (by decide +kernel) rfl
theorem im_X11_needFirstWord : Cond.instanceMethod yX11_needFirstWord ∈ am_G := am_G_t (i := 1101) (by decide +kernel) rfl
theorem se_X11_needFirstWord : Cond.selects yX11_needFirstWord.cls yX11_needFirstWord yX11_needFirstWord ∈ am_G := am_G_p (i := 64) (q := (yX11_needFirstWord, 16)) (by decide +kernel)
theorem cv_X11_262 : am_cv RX11 262 11 yX11_needFirstWord cX11_needFirstWord 3 none 2 := ⟨rfl, cm_X11_needFirstWord, am_G_t (i := 1099) (by decide +kernel) rfl, im_X11_needFirstWord, se_X11_needFirstWord, in_X11, ⟨by decide, by decide, by decide +kernel⟩⟩
theorem cm_X5_minutesTill : Cond.code yX5_minutesTill cX5_minutesTill 7 (some .int) ∈ am_G := am_G_t (i := 1107) (by decide +kernel) rfl
theorem im_X5_minutesTill : Cond.instanceMethod yX5_minutesTill ∈ am_G := am_G_t (i := 1106) (by decide +kernel) rfl
theorem se_X5_minutesTill : Cond.selects yX5_minutesTill.cls yX5_minutesTill yX5_minutesTill ∈ am_G := am_G_p (i := 65) (q := (yX5_minutesTill, 3)) (by decide +kernel)
theorem in_X5 : Cond.initialized RX5 ∈ am_G := am_G_t (i := 9) (by decide +kernel) rfl
theorem cv_X11_266 : am_cvN RX11 266 5 yX5_minutesTill "BellTown" cX5_minutesTill 7 (some .int) 4 := ⟨rfl, cm_X5_minutesTill, am_nw_t (i := 1104) (by decide +kernel) rfl, im_X5_minutesTill, se_X5_minutesTill, in_X5, ⟨by decide, by decide, by decide +kernel⟩⟩
theorem cm_X5_fewestFrom : Cond.code yX5_fewestFrom cX5_fewestFrom 8 (some .int) ∈ am_G := am_G_t (i := 1135) (by decide +kernel) rfl
theorem im_X5_fewestFrom : Cond.instanceMethod yX5_fewestFrom ∈ am_G := am_G_t (i := 1134) (by decide +kernel) rfl
theorem se_X5_fewestFrom : Cond.selects yX5_fewestFrom.cls yX5_fewestFrom yX5_fewestFrom ∈ am_G := am_G_p (i := 68) (q := (yX5_fewestFrom, 3)) (by decide +kernel)
theorem cv_X11_270 : am_cvN RX11 270 5 yX5_fewestFrom "BellTown" cX5_fewestFrom 8 (some .int) 3 := ⟨rfl, cm_X5_fewestFrom, am_nw_t (i := 1132) (by decide +kernel) rfl, im_X5_fewestFrom, se_X5_fewestFrom, in_X5, ⟨by decide, by decide, by decide +kernel⟩⟩
theorem cm_X11_needSixWhat : Cond.code yX11_needSixWhat cX11_needSixWhat 2 none ∈ am_G := am_G_t (i := 1151) (by decide +kernel) rfl
theorem im_X11_needSixWhat : Cond.instanceMethod yX11_needSixWhat ∈ am_G := am_G_t (i := 1150) (by decide +kernel) rfl
theorem se_X11_needSixWhat : Cond.selects yX11_needSixWhat.cls yX11_needSixWhat yX11_needSixWhat ∈ am_G := am_G_p (i := 70) (q := (yX11_needSixWhat, 16)) (by decide +kernel)
theorem cv_X11_273 : am_cv RX11 273 11 yX11_needSixWhat cX11_needSixWhat 2 none 1 := ⟨rfl, cm_X11_needSixWhat, am_G_t (i := 1148) (by decide +kernel) rfl, im_X11_needSixWhat, se_X11_needSixWhat, in_X11, ⟨by decide, by decide, by decide +kernel⟩⟩
theorem cm_X8_runByLaw : Cond.code yX8_runByLaw cX8_runByLaw 6 none ∈ am_G := am_G_t (i := 1156) (by decide +kernel) rfl
theorem im_X8_runByLaw : Cond.instanceMethod yX8_runByLaw ∈ am_G := am_G_t (i := 1155) (by decide +kernel) rfl
theorem se_X8_runByLaw : Cond.selects yX8_runByLaw.cls yX8_runByLaw yX8_runByLaw ∈ am_G := am_G_p (i := 71) (q := (yX8_runByLaw, 7)) (by decide +kernel)
theorem cv_X11_276 : am_cvN RX11 276 8 yX8_runByLaw "BellTown" cX8_runByLaw 6 none 2 := ⟨rfl, cm_X8_runByLaw, am_nw_t (i := 1153) (by decide +kernel) rfl, im_X8_runByLaw, se_X8_runByLaw, in_X8, ⟨by decide, by decide, by decide +kernel⟩⟩
theorem cm_X8_runByLot : Cond.code yX8_runByLot cX8_runByLot 5 none ∈ am_G := am_G_t (i := 1216) (by decide +kernel) rfl
theorem im_X8_runByLot : Cond.instanceMethod yX8_runByLot ∈ am_G := am_G_t (i := 1215) (by decide +kernel) rfl
theorem se_X8_runByLot : Cond.selects yX8_runByLot.cls yX8_runByLot yX8_runByLot ∈ am_G := am_G_p (i := 82) (q := (yX8_runByLot, 7)) (by decide +kernel)
theorem cv_X11_285 : am_cvN RX11 285 8 yX8_runByLot "BellTown" cX8_runByLot 5 none 3 := ⟨rfl, cm_X8_runByLot, am_nw_t (i := 1213) (by decide +kernel) rfl, im_X8_runByLot, se_X8_runByLot, in_X8, ⟨by decide, by decide, by decide +kernel⟩⟩
theorem cm_X0_makeRoom : Cond.code yX0_makeRoom cX0_makeRoom 6 none ∈ am_G := am_G_t (i := 1242) (by decide +kernel) rfl
theorem im_X0_makeRoom : Cond.instanceMethod yX0_makeRoom ∈ am_G := am_G_t (i := 1241) (by decide +kernel) rfl
theorem se_X0_makeRoom : Cond.selects yX0_makeRoom.cls yX0_makeRoom yX0_makeRoom ∈ am_G := am_G_p (i := 84) (q := (yX0_makeRoom, 8)) (by decide +kernel)
theorem cv_X11_291 : am_cvN RX11 291 0 yX0_makeRoom "BellTown" cX0_makeRoom 6 none 3 := ⟨rfl, cm_X0_makeRoom, am_nw_t (i := 1239) (by decide +kernel) rfl, im_X0_makeRoom, se_X0_makeRoom, in_X0, ⟨by decide, by decide, by decide +kernel⟩⟩
theorem cm_X3_readRows : Cond.code yX3_readRows cX3_readRows 5 (some .boolean) ∈ am_G := am_G_t (i := 1272) (by decide +kernel) rfl
theorem im_X3_readRows : Cond.instanceMethod yX3_readRows ∈ am_G := am_G_t (i := 1271) (by decide +kernel) rfl
theorem se_X3_readRows : Cond.selects yX3_readRows.cls yX3_readRows yX3_readRows ∈ am_G := am_G_p (i := 89) (q := (yX3_readRows, 9)) (by decide +kernel)
theorem in_X3 : Cond.initialized RX3 ∈ am_G := am_G_t (i := 12) (by decide +kernel) rfl
theorem cv_X11_300 : am_cvN RX11 300 3 yX3_readRows "BellTown" cX3_readRows 5 (some .boolean) 2 := ⟨rfl, cm_X3_readRows, am_nw_t (i := 1269) (by decide +kernel) rfl, im_X3_readRows, se_X3_readRows, in_X3, ⟨by decide, by decide, by decide +kernel⟩⟩
theorem cm_X3_findWays : Cond.code yX3_findWays cX3_findWays 1 none ∈ am_G := am_G_t (i := 1284) (by decide +kernel) rfl
theorem im_X3_findWays : Cond.instanceMethod yX3_findWays ∈ am_G := am_G_t (i := 1283) (by decide +kernel) rfl
theorem se_X3_findWays : Cond.selects yX3_findWays.cls yX3_findWays yX3_findWays ∈ am_G := am_G_p (i := 91) (q := (yX3_findWays, 9)) (by decide +kernel)
theorem cv_X11_311 : am_cvN RX11 311 3 yX3_findWays "BellTown" cX3_findWays 1 none 0 := ⟨rfl, cm_X3_findWays, am_nw_t (i := 1281) (by decide +kernel) rfl, im_X3_findWays, se_X3_findWays, in_X3, ⟨by decide, by decide, by decide +kernel⟩⟩
theorem cm_X3_firstWordOf : Cond.code yX3_firstWordOf cX3_firstWordOf 2 (some .int) ∈ am_G := am_G_t (i := 1306) (by decide +kernel) rfl
theorem im_X3_firstWordOf : Cond.instanceMethod yX3_firstWordOf ∈ am_G := am_G_t (i := 1305) (by decide +kernel) rfl
theorem se_X3_firstWordOf : Cond.selects yX3_firstWordOf.cls yX3_firstWordOf yX3_firstWordOf ∈ am_G := am_G_p (i := 96) (q := (yX3_firstWordOf, 9)) (by decide +kernel)
theorem cv_X11_317 : am_cvN RX11 317 3 yX3_firstWordOf "BellTown" cX3_firstWordOf 2 (some .int) 1 := ⟨rfl, cm_X3_firstWordOf, am_nw_t (i := 1303) (by decide +kernel) rfl, im_X3_firstWordOf, se_X3_firstWordOf, in_X3, ⟨by decide, by decide, by decide +kernel⟩⟩
theorem cm_X9_wordsOfLength : Cond.code yX9_wordsOfLength cX9_wordsOfLength 6 (some .int) ∈ am_G := am_G_t (i := 1318) (by decide +kernel) rfl
theorem im_X9_wordsOfLength : Cond.instanceMethod yX9_wordsOfLength ∈ am_G := am_G_t (i := 1317) (by decide +kernel) rfl
theorem se_X9_wordsOfLength : Cond.selects yX9_wordsOfLength.cls yX9_wordsOfLength yX9_wordsOfLength ∈ am_G := am_G_p (i := 97) (q := (yX9_wordsOfLength, 16)) (by decide +kernel)
theorem cv_X11_327 : am_cvN RX11 327 9 yX9_wordsOfLength "BellTown" cX9_wordsOfLength 6 (some .int) 2 := ⟨rfl, cm_X9_wordsOfLength, am_nw_t (i := 1315) (by decide +kernel) rfl, im_X9_wordsOfLength, se_X9_wordsOfLength, in_X9, ⟨by decide, by decide, by decide +kernel⟩⟩
theorem cm_X6_possibleAt : Cond.code yX6_possibleAt cX6_possibleAt 9 (some .int) ∈ am_G := am_G_t (i := 1331) (by decide +kernel) rfl
theorem im_X6_possibleAt : Cond.instanceMethod yX6_possibleAt ∈ am_G := am_G_t (i := 1330) (by decide +kernel) rfl
theorem se_X6_possibleAt : Cond.selects yX6_possibleAt.cls yX6_possibleAt yX6_possibleAt ∈ am_G := am_G_p (i := 98) (q := (yX6_possibleAt, 9)) (by decide +kernel)
theorem cv_X11_330 : am_cvN RX11 330 6 yX6_possibleAt "BellTown" cX6_possibleAt 9 (some .int) 3 := ⟨rfl, cm_X6_possibleAt, am_nw_t (i := 1328) (by decide +kernel) rfl, im_X6_possibleAt, se_X6_possibleAt, in_X6, ⟨by decide, by decide, by decide +kernel⟩⟩
theorem cm_X9_understoodAt : Cond.code yX9_understoodAt cX9_understoodAt 7 (some .int) ∈ am_G := am_G_t (i := 1343) (by decide +kernel) rfl
theorem im_X9_understoodAt : Cond.instanceMethod yX9_understoodAt ∈ am_G := am_G_t (i := 1342) (by decide +kernel) rfl
theorem se_X9_understoodAt : Cond.selects yX9_understoodAt.cls yX9_understoodAt yX9_understoodAt ∈ am_G := am_G_p (i := 99) (q := (yX9_understoodAt, 16)) (by decide +kernel)
theorem cv_X11_336 : am_cvN RX11 336 9 yX9_understoodAt "BellTown" cX9_understoodAt 7 (some .int) 2 := ⟨rfl, cm_X9_understoodAt, am_nw_t (i := 1340) (by decide +kernel) rfl, im_X9_understoodAt, se_X9_understoodAt, in_X9, ⟨by decide, by decide, by decide +kernel⟩⟩
theorem cm_X11_quietest : Cond.code yX11_quietest cX11_quietest 8 (some .int) ∈ am_G := am_G_t (i := 1355) (by decide +kernel) rfl
theorem im_X11_quietest : Cond.instanceMethod yX11_quietest ∈ am_G := am_G_t (i := 1354) (by decide +kernel) rfl
theorem se_X11_quietest : Cond.selects yX11_quietest.cls yX11_quietest yX11_quietest ∈ am_G := am_G_p (i := 100) (q := (yX11_quietest, 16)) (by decide +kernel)
theorem cv_X11_341 : am_cv RX11 341 11 yX11_quietest cX11_quietest 8 (some .int) 4 := ⟨rfl, cm_X11_quietest, am_G_t (i := 1352) (by decide +kernel) rfl, im_X11_quietest, se_X11_quietest, in_X11, ⟨by decide, by decide, by decide +kernel⟩⟩
theorem cm_X11_worthTo : Cond.code yX11_worthTo cX11_worthTo 6 (some .int) ∈ am_G := am_G_t (i := 1371) (by decide +kernel) rfl
theorem im_X11_worthTo : Cond.instanceMethod yX11_worthTo ∈ am_G := am_G_t (i := 1370) (by decide +kernel) rfl
theorem se_X11_worthTo : Cond.selects yX11_worthTo.cls yX11_worthTo yX11_worthTo ∈ am_G := am_G_p (i := 101) (q := (yX11_worthTo, 16)) (by decide +kernel)
theorem cv_X11_344 : am_cv RX11 344 11 yX11_worthTo cX11_worthTo 6 (some .int) 3 := ⟨rfl, cm_X11_worthTo, am_G_t (i := 1368) (by decide +kernel) rfl, im_X11_worthTo, se_X11_worthTo, in_X11, ⟨by decide, by decide, by decide +kernel⟩⟩
theorem cm_X11_drawEvening : Cond.code yX11_drawEvening cX11_drawEvening 9 none ∈ am_G := am_G_t (i := 1397) (by decide +kernel) rfl
theorem im_X11_drawEvening : Cond.instanceMethod yX11_drawEvening ∈ am_G := am_G_t (i := 1396) (by decide +kernel) rfl
theorem se_X11_drawEvening : Cond.selects yX11_drawEvening.cls yX11_drawEvening yX11_drawEvening ∈ am_G := am_G_p (i := 103) (q := (yX11_drawEvening, 16)) (by decide +kernel)
theorem cv_X11_352 : am_cv RX11 352 11 yX11_drawEvening cX11_drawEvening 9 none 2 := ⟨rfl, cm_X11_drawEvening, am_G_t (i := 1394) (by decide +kernel) rfl, im_X11_drawEvening, se_X11_drawEvening, in_X11, ⟨by decide, by decide, by decide +kernel⟩⟩
theorem cm_X11_judgedOfTrial : Cond.code yX11_judgedOfTrial cX11_judgedOfTrial 4 (some .int) ∈ am_G := am_G_t (i := 1403) (by decide +kernel) rfl
theorem im_X11_judgedOfTrial : Cond.instanceMethod yX11_judgedOfTrial ∈ am_G := am_G_t (i := 1402) (by decide +kernel) rfl
theorem se_X11_judgedOfTrial : Cond.selects yX11_judgedOfTrial.cls yX11_judgedOfTrial yX11_judgedOfTrial ∈ am_G := am_G_p (i := 104) (q := (yX11_judgedOfTrial, 16)) (by decide +kernel)
theorem cv_X11_355 : am_cv RX11 355 11 yX11_judgedOfTrial cX11_judgedOfTrial 4 (some .int) 1 := ⟨rfl, cm_X11_judgedOfTrial, am_G_t (i := 1400) (by decide +kernel) rfl, im_X11_judgedOfTrial, se_X11_judgedOfTrial, in_X11, ⟨by decide, by decide, by decide +kernel⟩⟩
theorem cm_X9_wordsOfAll : Cond.code yX9_wordsOfAll cX9_wordsOfAll 3 (some .int) ∈ am_G := am_G_t (i := 501) (by decide +kernel) rfl
theorem im_X9_wordsOfAll : Cond.instanceMethod yX9_wordsOfAll ∈ am_G := am_G_t (i := 500) (by decide +kernel) rfl
theorem se_X9_wordsOfAll : Cond.selects yX9_wordsOfAll.cls yX9_wordsOfAll yX9_wordsOfAll ∈ am_G := am_G_p (i := 8) (q := (yX9_wordsOfAll, 16)) (by decide +kernel)
theorem cv_X11_365 : am_cvN RX11 365 9 yX9_wordsOfAll "BellTown" cX9_wordsOfAll 3 (some .int) 0 := ⟨rfl, cm_X9_wordsOfAll, am_nw_t (i := 498) (by decide +kernel) rfl, im_X9_wordsOfAll, se_X9_wordsOfAll, in_X9, ⟨by decide, by decide, by decide +kernel⟩⟩
theorem cm_X9_coinsOfAll : Cond.code yX9_coinsOfAll cX9_coinsOfAll 3 (some .int) ∈ am_G := am_G_t (i := 517) (by decide +kernel) rfl
theorem im_X9_coinsOfAll : Cond.instanceMethod yX9_coinsOfAll ∈ am_G := am_G_t (i := 516) (by decide +kernel) rfl
theorem se_X9_coinsOfAll : Cond.selects yX9_coinsOfAll.cls yX9_coinsOfAll yX9_coinsOfAll ∈ am_G := am_G_p (i := 12) (q := (yX9_coinsOfAll, 16)) (by decide +kernel)
theorem cv_X11_369 : am_cvN RX11 369 9 yX9_coinsOfAll "BellTown" cX9_coinsOfAll 3 (some .int) 0 := ⟨rfl, cm_X9_coinsOfAll, am_nw_t (i := 514) (by decide +kernel) rfl, im_X9_coinsOfAll, se_X9_coinsOfAll, in_X9, ⟨by decide, by decide, by decide +kernel⟩⟩
theorem cm_X9_minutesOfAll : Cond.code yX9_minutesOfAll cX9_minutesOfAll 4 (some .int) ∈ am_G := am_G_t (i := 521) (by decide +kernel) rfl
theorem im_X9_minutesOfAll : Cond.instanceMethod yX9_minutesOfAll ∈ am_G := am_G_t (i := 520) (by decide +kernel) rfl
theorem se_X9_minutesOfAll : Cond.selects yX9_minutesOfAll.cls yX9_minutesOfAll yX9_minutesOfAll ∈ am_G := am_G_p (i := 13) (q := (yX9_minutesOfAll, 16)) (by decide +kernel)
theorem cv_X11_378 : am_cvN RX11 378 9 yX9_minutesOfAll "BellTown" cX9_minutesOfAll 4 (some .int) 0 := ⟨rfl, cm_X9_minutesOfAll, am_nw_t (i := 518) (by decide +kernel) rfl, im_X9_minutesOfAll, se_X9_minutesOfAll, in_X9, ⟨by decide, by decide, by decide +kernel⟩⟩
theorem cm_X9_hasHouse : Cond.code yX9_hasHouse cX9_hasHouse 2 (some .boolean) ∈ am_G := am_G_t (i := 513) (by decide +kernel) rfl
theorem im_X9_hasHouse : Cond.instanceMethod yX9_hasHouse ∈ am_G := am_G_t (i := 512) (by decide +kernel) rfl
theorem se_X9_hasHouse : Cond.selects yX9_hasHouse.cls yX9_hasHouse yX9_hasHouse ∈ am_G := am_G_p (i := 11) (q := (yX9_hasHouse, 16)) (by decide +kernel)
theorem cv_X11_381 : am_cvN RX11 381 9 yX9_hasHouse "BellTown" cX9_hasHouse 2 (some .boolean) 1 := ⟨rfl, cm_X9_hasHouse, am_nw_t (i := 843) (by decide +kernel) rfl, im_X9_hasHouse, se_X9_hasHouse, in_X9, ⟨by decide, by decide, by decide +kernel⟩⟩
theorem cm_X9_hasWant : Cond.code yX9_hasWant cX9_hasWant 2 (some .boolean) ∈ am_G := am_G_t (i := 464) (by decide +kernel) rfl
theorem im_X9_hasWant : Cond.instanceMethod yX9_hasWant ∈ am_G := am_G_t (i := 463) (by decide +kernel) rfl
theorem se_X9_hasWant : Cond.selects yX9_hasWant.cls yX9_hasWant yX9_hasWant ∈ am_G := am_G_p (i := 3) (q := (yX9_hasWant, 16)) (by decide +kernel)
theorem cv_X11_390 : am_cvN RX11 390 9 yX9_hasWant "BellTown" cX9_hasWant 2 (some .boolean) 1 := ⟨rfl, cm_X9_hasWant, am_nw_t (i := 888) (by decide +kernel) rfl, im_X9_hasWant, se_X9_hasWant, in_X9, ⟨by decide, by decide, by decide +kernel⟩⟩
theorem cm_X6_copyFrom : Cond.code yX6_copyFrom cX6_copyFrom 2 none ∈ am_G := am_G_t (i := 488) (by decide +kernel) rfl
theorem im_X6_copyFrom : Cond.instanceMethod yX6_copyFrom ∈ am_G := am_G_t (i := 487) (by decide +kernel) rfl
theorem se_X6_copyFrom : Cond.selects yX6_copyFrom.cls yX6_copyFrom yX6_copyFrom ∈ am_G := am_G_p (i := 7) (q := (yX6_copyFrom, 9)) (by decide +kernel)
theorem cv_X11_407 : am_cvN RX11 407 6 yX6_copyFrom "BellTown" cX6_copyFrom 2 none 1 := ⟨rfl, cm_X6_copyFrom, am_nw_t (i := 1356) (by decide +kernel) rfl, im_X6_copyFrom, se_X6_copyFrom, in_X6, ⟨by decide, by decide, by decide +kernel⟩⟩
theorem cm_X6_listenAt : Cond.code yX6_listenAt cX6_listenAt 5 none ∈ am_G := am_G_t (i := 970) (by decide +kernel) rfl
theorem im_X6_listenAt : Cond.instanceMethod yX6_listenAt ∈ am_G := am_G_t (i := 969) (by decide +kernel) rfl
theorem se_X6_listenAt : Cond.selects yX6_listenAt.cls yX6_listenAt yX6_listenAt ∈ am_G := am_G_p (i := 51) (q := (yX6_listenAt, 9)) (by decide +kernel)
theorem cv_X11_416 : am_cvN RX11 416 6 yX6_listenAt "BellTown" cX6_listenAt 5 none 2 := ⟨rfl, cm_X6_listenAt, am_nw_t (i := 1358) (by decide +kernel) rfl, im_X6_listenAt, se_X6_listenAt, in_X6, ⟨by decide, by decide, by decide +kernel⟩⟩
theorem cm_X6_unmixed : Cond.code yX6_unmixed cX6_unmixed 9 (some .int) ∈ am_G := am_G_t (i := 983) (by decide +kernel) rfl
theorem im_X6_unmixed : Cond.instanceMethod yX6_unmixed ∈ am_G := am_G_t (i := 982) (by decide +kernel) rfl
theorem se_X6_unmixed : Cond.selects yX6_unmixed.cls yX6_unmixed yX6_unmixed ∈ am_G := am_G_p (i := 53) (q := (yX6_unmixed, 9)) (by decide +kernel)
theorem cv_X11_419 : am_cvN RX11 419 6 yX6_unmixed "BellTown" cX6_unmixed 9 (some .int) 2 := ⟨rfl, cm_X6_unmixed, am_nw_t (i := 1359) (by decide +kernel) rfl, im_X6_unmixed, se_X6_unmixed, in_X6, ⟨by decide, by decide, by decide +kernel⟩⟩
theorem cm_X9_takenFor : Cond.code yX9_takenFor cX9_takenFor 4 (some .int) ∈ am_G := am_G_t (i := 1004) (by decide +kernel) rfl
theorem im_X9_takenFor : Cond.instanceMethod yX9_takenFor ∈ am_G := am_G_t (i := 1003) (by decide +kernel) rfl
theorem se_X9_takenFor : Cond.selects yX9_takenFor.cls yX9_takenFor yX9_takenFor ∈ am_G := am_G_p (i := 56) (q := (yX9_takenFor, 16)) (by decide +kernel)
theorem cv_X11_422 : am_cvN RX11 422 9 yX9_takenFor "BellTown" cX9_takenFor 4 (some .int) 2 := ⟨rfl, cm_X9_takenFor, am_nw_t (i := 1360) (by decide +kernel) rfl, im_X9_takenFor, se_X9_takenFor, in_X9, ⟨by decide, by decide, by decide +kernel⟩⟩
theorem cm_X9_isClashing : Cond.code yX9_isClashing cX9_isClashing 6 (some .boolean) ∈ am_G := am_G_t (i := 1375) (by decide +kernel) rfl
theorem im_X9_isClashing : Cond.instanceMethod yX9_isClashing ∈ am_G := am_G_t (i := 1374) (by decide +kernel) rfl
theorem se_X9_isClashing : Cond.selects yX9_isClashing.cls yX9_isClashing yX9_isClashing ∈ am_G := am_G_p (i := 102) (q := (yX9_isClashing, 16)) (by decide +kernel)
theorem cv_X11_425 : am_cvN RX11 425 9 yX9_isClashing "BellTown" cX9_isClashing 6 (some .boolean) 3 := ⟨rfl, cm_X9_isClashing, am_nw_t (i := 1372) (by decide +kernel) rfl, im_X9_isClashing, se_X9_isClashing, in_X9, ⟨by decide, by decide, by decide +kernel⟩⟩
theorem cv_X11_430 : am_cvN RX11 430 9 yX9_urgentOf "BellTown" cX9_urgentOf 2 (some .int) 1 := ⟨rfl, cm_X9_urgentOf, am_nw_t (i := 1377) (by decide +kernel) rfl, im_X9_urgentOf, se_X9_urgentOf, in_X9, ⟨by decide, by decide, by decide +kernel⟩⟩
theorem cm_X11_putOnTape : Cond.code yX11_putOnTape cX11_putOnTape 3 none ∈ am_G := am_G_t (i := 432) (by decide +kernel) rfl
theorem im_X11_putOnTape : Cond.instanceMethod yX11_putOnTape ∈ am_G := am_G_t (i := 431) (by decide +kernel) rfl
theorem se_X11_putOnTape : Cond.selects yX11_putOnTape.cls yX11_putOnTape yX11_putOnTape ∈ am_G := am_G_p (i := 0) (q := (yX11_putOnTape, 16)) (by decide +kernel)
theorem cv_X11_93 : am_cv RX11 93 11 yX11_putOnTape cX11_putOnTape 3 none 1 := ⟨rfl, cm_X11_putOnTape, am_G_t (i := 429) (by decide +kernel) rfl, im_X11_putOnTape, se_X11_putOnTape, in_X11, ⟨by decide, by decide, by decide +kernel⟩⟩
theorem cm_X9_copyFrom : Cond.code yX9_copyFrom cX9_copyFrom 2 none ∈ am_G := am_G_t (i := 476) (by decide +kernel) rfl
theorem im_X9_copyFrom : Cond.instanceMethod yX9_copyFrom ∈ am_G := am_G_t (i := 475) (by decide +kernel) rfl
theorem se_X9_copyFrom : Cond.selects yX9_copyFrom.cls yX9_copyFrom yX9_copyFrom ∈ am_G := am_G_p (i := 5) (q := (yX9_copyFrom, 16)) (by decide +kernel)
theorem cv_X11_97 : am_cvN RX11 97 9 yX9_copyFrom "BellTown" cX9_copyFrom 2 none 1 := ⟨rfl, cm_X9_copyFrom, am_nw_t (i := 473) (by decide +kernel) rfl, im_X9_copyFrom, se_X9_copyFrom, in_X9, ⟨by decide, by decide, by decide +kernel⟩⟩
theorem cm_X12_isAt : Cond.code yX12_isAt cX12_isAt 3 (some .boolean) ∈ am_G := am_G_t (i := 1538) (by decide +kernel) rfl
theorem im_X12_isAt : Cond.instanceMethod yX12_isAt ∈ am_G := am_G_t (i := 1537) (by decide +kernel) rfl
theorem se_X12_isAt : Cond.selects yX12_isAt.cls yX12_isAt yX12_isAt ∈ am_G := am_G_p (i := 108) (q := (yX12_isAt, 28)) (by decide +kernel)
theorem cv_X12_111 : am_cv RX12 111 12 yX12_isAt cX12_isAt 3 (some .boolean) 2 := ⟨rfl, cm_X12_isAt, am_G_t (i := 1535) (by decide +kernel) rfl, im_X12_isAt, se_X12_isAt, in_X12, ⟨by decide, by decide, by decide +kernel⟩⟩
theorem cm_X12_blanks : Cond.code yX12_blanks cX12_blanks 1 none ∈ am_G := am_G_t (i := 1534) (by decide +kernel) rfl
theorem im_X12_blanks : Cond.instanceMethod yX12_blanks ∈ am_G := am_G_t (i := 1533) (by decide +kernel) rfl
theorem se_X12_blanks : Cond.selects yX12_blanks.cls yX12_blanks yX12_blanks ∈ am_G := am_G_p (i := 107) (q := (yX12_blanks, 28)) (by decide +kernel)
theorem cv_X12_118 : am_cv RX12 118 12 yX12_blanks cX12_blanks 1 none 0 := ⟨rfl, cm_X12_blanks, am_G_t (i := 1531) (by decide +kernel) rfl, im_X12_blanks, se_X12_blanks, in_X12, ⟨by decide, by decide, by decide +kernel⟩⟩
theorem cm_J0_length_8abf5 : Cond.code yJ0_length_8abf5 cJ0_length_8abf5 1 (some .int) ∈ am_G := am_G_t (i := 577) (by decide +kernel) rfl
theorem im_J0_length_8abf5 : Cond.instanceMethod yJ0_length_8abf5 ∈ am_G := am_G_t (i := 575) (by decide +kernel) rfl
theorem se_J0_length_8abf5 : Cond.selects yJ0_length_8abf5.cls yJ0_length_8abf5 yJ0_length_8abf5 ∈ am_G := am_G_t (i := 576) (by decide +kernel) rfl
theorem in_J0 : Cond.initialized RJ0 ∈ am_G := am_G_t (i := 16) (by decide +kernel) rfl
theorem cv_X12_121 : am_cvS RX12 121 yJ0_length_8abf5 cJ0_length_8abf5 1 (some .int) 0 := ⟨rfl, cm_J0_length_8abf5, am_G_t (i := 1556) (by decide +kernel) rfl, im_J0_length_8abf5, se_J0_length_8abf5, in_J0, ⟨by decide, by decide, by decide +kernel⟩⟩
theorem cm_J0_charAt_5068e : Cond.code yJ0_charAt_5068e cJ0_charAt_5068e 2 (some .char) ∈ am_G := am_G_t (i := 587) (by decide +kernel) rfl
theorem im_J0_charAt_5068e : Cond.instanceMethod yJ0_charAt_5068e ∈ am_G := am_G_t (i := 585) (by decide +kernel) rfl
theorem se_J0_charAt_5068e : Cond.selects yJ0_charAt_5068e.cls yJ0_charAt_5068e yJ0_charAt_5068e ∈ am_G := am_G_t (i := 586) (by decide +kernel) rfl
theorem cv_X12_126 : am_cvS RX12 126 yJ0_charAt_5068e cJ0_charAt_5068e 2 (some .char) 1 := ⟨rfl, cm_J0_charAt_5068e, am_G_t (i := 1557) (by decide +kernel) rfl, im_J0_charAt_5068e, se_J0_charAt_5068e, in_J0, ⟨by decide, by decide, by decide +kernel⟩⟩
theorem cm_X12_letters : Cond.code yX12_letters cX12_letters 1 none ∈ am_G := am_G_t (i := 1546) (by decide +kernel) rfl
theorem im_X12_letters : Cond.instanceMethod yX12_letters ∈ am_G := am_G_t (i := 1545) (by decide +kernel) rfl
theorem se_X12_letters : Cond.selects yX12_letters.cls yX12_letters yX12_letters ∈ am_G := am_G_p (i := 110) (q := (yX12_letters, 28)) (by decide +kernel)
theorem cv_X12_130 : am_cv RX12 130 12 yX12_letters cX12_letters 1 none 0 := ⟨rfl, cm_X12_letters, am_G_t (i := 1543) (by decide +kernel) rfl, im_X12_letters, se_X12_letters, in_X12, ⟨by decide, by decide, by decide +kernel⟩⟩
theorem cm_X12_isWord : Cond.code yX12_isWord cX12_isWord 4 (some .boolean) ∈ am_G := am_G_t (i := 1555) (by decide +kernel) rfl
theorem im_X12_isWord : Cond.instanceMethod yX12_isWord ∈ am_G := am_G_t (i := 1554) (by decide +kernel) rfl
theorem se_X12_isWord : Cond.selects yX12_isWord.cls yX12_isWord yX12_isWord ∈ am_G := am_G_p (i := 112) (q := (yX12_isWord, 28)) (by decide +kernel)
theorem cv_X12_133 : am_cv RX12 133 12 yX12_isWord cX12_isWord 4 (some .boolean) 1 := ⟨rfl, cm_X12_isWord, am_G_t (i := 1552) (by decide +kernel) rfl, im_X12_isWord, se_X12_isWord, in_X12, ⟨by decide, by decide, by decide +kernel⟩⟩
theorem cm_X12_sets : Cond.code yX12_sets cX12_sets 4 none ∈ am_G := am_G_t (i := 1569) (by decide +kernel) rfl
theorem im_X12_sets : Cond.instanceMethod yX12_sets ∈ am_G := am_G_t (i := 1568) (by decide +kernel) rfl
theorem se_X12_sets : Cond.selects yX12_sets.cls yX12_sets yX12_sets ∈ am_G := am_G_p (i := 115) (q := (yX12_sets, 28)) (by decide +kernel)
theorem cv_X12_137 : am_cv RX12 137 12 yX12_sets cX12_sets 4 none 3 := ⟨rfl, cm_X12_sets, am_G_t (i := 1566) (by decide +kernel) rfl, im_X12_sets, se_X12_sets, in_X12, ⟨by decide, by decide, by decide +kernel⟩⟩
theorem cm_X12_number : Cond.code yX12_number cX12_number 4 (some .int) ∈ am_G := am_G_t (i := 1573) (by decide +kernel) rfl
theorem im_X12_number : Cond.instanceMethod yX12_number ∈ am_G := am_G_t (i := 1572) (by decide +kernel) rfl
theorem se_X12_number : Cond.selects yX12_number.cls yX12_number yX12_number ∈ am_G := am_G_p (i := 116) (q := (yX12_number, 28)) (by decide +kernel)
theorem cv_X12_141 : am_cv RX12 141 12 yX12_number cX12_number 4 (some .int) 2 := ⟨rfl, cm_X12_number, am_G_t (i := 1570) (by decide +kernel) rfl, im_X12_number, se_X12_number, in_X12, ⟨by decide, by decide, by decide +kernel⟩⟩
theorem cm_X12_passes : Cond.code yX12_passes cX12_passes 2 (some .boolean) ∈ am_G := am_G_t (i := 1578) (by decide +kernel) rfl
theorem im_X12_passes : Cond.instanceMethod yX12_passes ∈ am_G := am_G_t (i := 1577) (by decide +kernel) rfl
theorem se_X12_passes : Cond.selects yX12_passes.cls yX12_passes yX12_passes ∈ am_G := am_G_p (i := 117) (q := (yX12_passes, 28)) (by decide +kernel)
theorem cv_X12_146 : am_cv RX12 146 12 yX12_passes cX12_passes 2 (some .boolean) 1 := ⟨rfl, cm_X12_passes, am_G_t (i := 1575) (by decide +kernel) rfl, im_X12_passes, se_X12_passes, in_X12, ⟨by decide, by decide, by decide +kernel⟩⟩
theorem cm_X12_strokesTold : Cond.code yX12_strokesTold cX12_strokesTold 3 (some .int) ∈ am_G := am_G_t (i := 1596) (by decide +kernel) rfl
theorem im_X12_strokesTold : Cond.instanceMethod yX12_strokesTold ∈ am_G := am_G_t (i := 1595) (by decide +kernel) rfl
theorem se_X12_strokesTold : Cond.selects yX12_strokesTold.cls yX12_strokesTold yX12_strokesTold ∈ am_G := am_G_p (i := 121) (q := (yX12_strokesTold, 28)) (by decide +kernel)
theorem cv_X12_149 : am_cv RX12 149 12 yX12_strokesTold cX12_strokesTold 3 (some .int) 0 := ⟨rfl, cm_X12_strokesTold, am_G_t (i := 1593) (by decide +kernel) rfl, im_X12_strokesTold, se_X12_strokesTold, in_X12, ⟨by decide, by decide, by decide +kernel⟩⟩
theorem cm_X12_readHouse : Cond.code yX12_readHouse cX12_readHouse 4 (some .boolean) ∈ am_G := am_G_t (i := 1561) (by decide +kernel) rfl
theorem im_X12_readHouse : Cond.instanceMethod yX12_readHouse ∈ am_G := am_G_t (i := 1560) (by decide +kernel) rfl
theorem se_X12_readHouse : Cond.selects yX12_readHouse.cls yX12_readHouse yX12_readHouse ∈ am_G := am_G_p (i := 113) (q := (yX12_readHouse, 28)) (by decide +kernel)
theorem cv_X12_154 : am_cv RX12 154 12 yX12_readHouse cX12_readHouse 4 (some .boolean) 0 := ⟨rfl, cm_X12_readHouse, am_G_t (i := 1558) (by decide +kernel) rfl, im_X12_readHouse, se_X12_readHouse, in_X12, ⟨by decide, by decide, by decide +kernel⟩⟩
theorem cm_X12_readWant : Cond.code yX12_readWant cX12_readWant 2 (some .boolean) ∈ am_G := am_G_t (i := 1583) (by decide +kernel) rfl
theorem im_X12_readWant : Cond.instanceMethod yX12_readWant ∈ am_G := am_G_t (i := 1582) (by decide +kernel) rfl
theorem se_X12_readWant : Cond.selects yX12_readWant.cls yX12_readWant yX12_readWant ∈ am_G := am_G_p (i := 118) (q := (yX12_readWant, 28)) (by decide +kernel)
theorem cv_X12_160 : am_cv RX12 160 12 yX12_readWant cX12_readWant 2 (some .boolean) 0 := ⟨rfl, cm_X12_readWant, am_G_t (i := 1580) (by decide +kernel) rfl, im_X12_readWant, se_X12_readWant, in_X12, ⟨by decide, by decide, by decide +kernel⟩⟩
theorem cm_X12_readCode : Cond.code yX12_readCode cX12_readCode 5 (some .boolean) ∈ am_G := am_G_t (i := 1592) (by decide +kernel) rfl
theorem im_X12_readCode : Cond.instanceMethod yX12_readCode ∈ am_G := am_G_t (i := 1591) (by decide +kernel) rfl
theorem se_X12_readCode : Cond.selects yX12_readCode.cls yX12_readCode yX12_readCode ∈ am_G := am_G_p (i := 120) (q := (yX12_readCode, 28)) (by decide +kernel)
theorem cv_X12_165 : am_cv RX12 165 12 yX12_readCode cX12_readCode 5 (some .boolean) 1 := ⟨rfl, cm_X12_readCode, am_G_t (i := 1589) (by decide +kernel) rfl, im_X12_readCode, se_X12_readCode, in_X12, ⟨by decide, by decide, by decide +kernel⟩⟩
theorem cm_X12_readWind : Cond.code yX12_readWind cX12_readWind 4 (some .boolean) ∈ am_G := am_G_t (i := 1605) (by decide +kernel) rfl
theorem im_X12_readWind : Cond.instanceMethod yX12_readWind ∈ am_G := am_G_t (i := 1604) (by decide +kernel) rfl
theorem se_X12_readWind : Cond.selects yX12_readWind.cls yX12_readWind yX12_readWind ∈ am_G := am_G_p (i := 122) (q := (yX12_readWind, 28)) (by decide +kernel)
theorem cv_X12_173 : am_cv RX12 173 12 yX12_readWind cX12_readWind 4 (some .boolean) 1 := ⟨rfl, cm_X12_readWind, am_G_t (i := 1602) (by decide +kernel) rfl, im_X12_readWind, se_X12_readWind, in_X12, ⟨by decide, by decide, by decide +kernel⟩⟩
theorem cm_X12_emits : Cond.code yX12_emits cX12_emits 3 none ∈ am_G := am_G_t (i := 1633) (by decide +kernel) rfl
theorem im_X12_emits : Cond.instanceMethod yX12_emits ∈ am_G := am_G_t (i := 1632) (by decide +kernel) rfl
theorem se_X12_emits : Cond.selects yX12_emits.cls yX12_emits yX12_emits ∈ am_G := am_G_p (i := 128) (q := (yX12_emits, 28)) (by decide +kernel)
theorem cv_X12_182 : am_cv RX12 182 12 yX12_emits cX12_emits 3 none 2 := ⟨rfl, cm_X12_emits, am_G_t (i := 1630) (by decide +kernel) rfl, im_X12_emits, se_X12_emits, in_X12, ⟨by decide, by decide, by decide +kernel⟩⟩
theorem cm_X12_readPart : Cond.code yX12_readPart cX12_readPart 2 (some .boolean) ∈ am_G := am_G_t (i := 1641) (by decide +kernel) rfl
theorem im_X12_readPart : Cond.instanceMethod yX12_readPart ∈ am_G := am_G_t (i := 1640) (by decide +kernel) rfl
theorem se_X12_readPart : Cond.selects yX12_readPart.cls yX12_readPart yX12_readPart ∈ am_G := am_G_p (i := 130) (q := (yX12_readPart, 28)) (by decide +kernel)
theorem cv_X12_194 : am_cv RX12 194 12 yX12_readPart cX12_readPart 2 (some .boolean) 0 := ⟨rfl, cm_X12_readPart, am_G_t (i := 1638) (by decide +kernel) rfl, im_X12_readPart, se_X12_readPart, in_X12, ⟨by decide, by decide, by decide +kernel⟩⟩
theorem cm_X12_sign : Cond.code yX12_sign cX12_sign 2 (some .boolean) ∈ am_G := am_G_t (i := 1628) (by decide +kernel) rfl
theorem im_X12_sign : Cond.instanceMethod yX12_sign ∈ am_G := am_G_t (i := 1627) (by decide +kernel) rfl
theorem se_X12_sign : Cond.selects yX12_sign.cls yX12_sign yX12_sign ∈ am_G := am_G_p (i := 127) (q := (yX12_sign, 28)) (by decide +kernel)
theorem cv_X12_197 : am_cv RX12 197 12 yX12_sign cX12_sign 2 (some .boolean) 1 := ⟨rfl, cm_X12_sign, am_G_t (i := 1625) (by decide +kernel) rfl, im_X12_sign, se_X12_sign, in_X12, ⟨by decide, by decide, by decide +kernel⟩⟩
theorem cm_X12_readCond : Cond.code yX12_readCond cX12_readCond 1 (some .boolean) ∈ am_G := am_G_t (i := 1616) (by decide +kernel) rfl
theorem im_X12_readCond : Cond.instanceMethod yX12_readCond ∈ am_G := am_G_t (i := 1615) (by decide +kernel) rfl
theorem se_X12_readCond : Cond.selects yX12_readCond.cls yX12_readCond yX12_readCond ∈ am_G := am_G_p (i := 124) (q := (yX12_readCond, 28)) (by decide +kernel)
theorem cv_X12_203 : am_cv RX12 203 12 yX12_readCond cX12_readCond 1 (some .boolean) 0 := ⟨rfl, cm_X12_readCond, am_G_t (i := 1613) (by decide +kernel) rfl, im_X12_readCond, se_X12_readCond, in_X12, ⟨by decide, by decide, by decide +kernel⟩⟩
theorem cm_X12_readAtom : Cond.code yX12_readAtom cX12_readAtom 2 (some .boolean) ∈ am_G := am_G_t (i := 1624) (by decide +kernel) rfl
theorem im_X12_readAtom : Cond.instanceMethod yX12_readAtom ∈ am_G := am_G_t (i := 1623) (by decide +kernel) rfl
theorem se_X12_readAtom : Cond.selects yX12_readAtom.cls yX12_readAtom yX12_readAtom ∈ am_G := am_G_p (i := 126) (q := (yX12_readAtom, 28)) (by decide +kernel)
theorem cv_X12_208 : am_cv RX12 208 12 yX12_readAtom cX12_readAtom 2 (some .boolean) 0 := ⟨rfl, cm_X12_readAtom, am_G_t (i := 1621) (by decide +kernel) rfl, im_X12_readAtom, se_X12_readAtom, in_X12, ⟨by decide, by decide, by decide +kernel⟩⟩
theorem cm_X12_readSum : Cond.code yX12_readSum cX12_readSum 1 (some .boolean) ∈ am_G := am_G_t (i := 1637) (by decide +kernel) rfl
theorem im_X12_readSum : Cond.instanceMethod yX12_readSum ∈ am_G := am_G_t (i := 1636) (by decide +kernel) rfl
theorem se_X12_readSum : Cond.selects yX12_readSum.cls yX12_readSum yX12_readSum ∈ am_G := am_G_p (i := 129) (q := (yX12_readSum, 28)) (by decide +kernel)
theorem cv_X12_211 : am_cv RX12 211 12 yX12_readSum cX12_readSum 1 (some .boolean) 0 := ⟨rfl, cm_X12_readSum, am_G_t (i := 1634) (by decide +kernel) rfl, im_X12_readSum, se_X12_readSum, in_X12, ⟨by decide, by decide, by decide +kernel⟩⟩
theorem cm_X12_readAllOf : Cond.code yX12_readAllOf cX12_readAllOf 1 (some .boolean) ∈ am_G := am_G_t (i := 1620) (by decide +kernel) rfl
theorem im_X12_readAllOf : Cond.instanceMethod yX12_readAllOf ∈ am_G := am_G_t (i := 1619) (by decide +kernel) rfl
theorem se_X12_readAllOf : Cond.selects yX12_readAllOf.cls yX12_readAllOf yX12_readAllOf ∈ am_G := am_G_p (i := 125) (q := (yX12_readAllOf, 28)) (by decide +kernel)
theorem cv_X12_216 : am_cv RX12 216 12 yX12_readAllOf cX12_readAllOf 1 (some .boolean) 0 := ⟨rfl, cm_X12_readAllOf, am_G_t (i := 1617) (by decide +kernel) rfl, im_X12_readAllOf, se_X12_readAllOf, in_X12, ⟨by decide, by decide, by decide +kernel⟩⟩
theorem cm_X12_readTownLine : Cond.code yX12_readTownLine cX12_readTownLine 1 (some .boolean) ∈ am_G := am_G_t (i := 1550) (by decide +kernel) rfl
theorem im_X12_readTownLine : Cond.instanceMethod yX12_readTownLine ∈ am_G := am_G_t (i := 1549) (by decide +kernel) rfl
theorem se_X12_readTownLine : Cond.selects yX12_readTownLine.cls yX12_readTownLine yX12_readTownLine ∈ am_G := am_G_p (i := 111) (q := (yX12_readTownLine, 28)) (by decide +kernel)
theorem cv_X12_225 : am_cv RX12 225 12 yX12_readTownLine cX12_readTownLine 1 (some .boolean) 0 := ⟨rfl, cm_X12_readTownLine, am_G_t (i := 1547) (by decide +kernel) rfl, im_X12_readTownLine, se_X12_readTownLine, in_X12, ⟨by decide, by decide, by decide +kernel⟩⟩
theorem cm_X12_readLawLine : Cond.code yX12_readLawLine cX12_readLawLine 3 (some .boolean) ∈ am_G := am_G_t (i := 1610) (by decide +kernel) rfl
theorem im_X12_readLawLine : Cond.instanceMethod yX12_readLawLine ∈ am_G := am_G_t (i := 1609) (by decide +kernel) rfl
theorem se_X12_readLawLine : Cond.selects yX12_readLawLine.cls yX12_readLawLine yX12_readLawLine ∈ am_G := am_G_p (i := 123) (q := (yX12_readLawLine, 28)) (by decide +kernel)
theorem cv_X12_228 : am_cv RX12 228 12 yX12_readLawLine cX12_readLawLine 3 (some .boolean) 1 := ⟨rfl, cm_X12_readLawLine, am_G_t (i := 1607) (by decide +kernel) rfl, im_X12_readLawLine, se_X12_readLawLine, in_X12, ⟨by decide, by decide, by decide +kernel⟩⟩
theorem cm_X12_uses : Cond.code yX12_uses cX12_uses 1 none ∈ am_G := am_G_t (i := 1530) (by decide +kernel) rfl
theorem im_X12_uses : Cond.instanceMethod yX12_uses ∈ am_G := am_G_t (i := 1529) (by decide +kernel) rfl
theorem se_X12_uses : Cond.selects yX12_uses.cls yX12_uses yX12_uses ∈ am_G := am_G_p (i := 106) (q := (yX12_uses, 28)) (by decide +kernel)
theorem cv_X12_231 : am_cv RX12 231 12 yX12_uses cX12_uses 1 none 0 := ⟨rfl, cm_X12_uses, am_G_t (i := 1527) (by decide +kernel) rfl, im_X12_uses, se_X12_uses, in_X12, ⟨by decide, by decide, by decide +kernel⟩⟩
theorem cm_X12_readLine : Cond.code yX12_readLine cX12_readLine 3 (some .boolean) ∈ am_G := am_G_t (i := 1542) (by decide +kernel) rfl
theorem im_X12_readLine : Cond.instanceMethod yX12_readLine ∈ am_G := am_G_t (i := 1541) (by decide +kernel) rfl
theorem se_X12_readLine : Cond.selects yX12_readLine.cls yX12_readLine yX12_readLine ∈ am_G := am_G_p (i := 109) (q := (yX12_readLine, 28)) (by decide +kernel)
theorem cv_X12_234 : am_cv RX12 234 12 yX12_readLine cX12_readLine 3 (some .boolean) 2 := ⟨rfl, cm_X12_readLine, am_G_t (i := 1539) (by decide +kernel) rfl, im_X12_readLine, se_X12_readLine, in_X12, ⟨by decide, by decide, by decide +kernel⟩⟩
theorem cm_X12_readAll : Cond.code yX12_readAll cX12_readAll 3 (some .int) ∈ am_G := am_G_t (i := 1526) (by decide +kernel) rfl
theorem im_X12_readAll : Cond.instanceMethod yX12_readAll ∈ am_G := am_G_t (i := 1525) (by decide +kernel) rfl
theorem se_X12_readAll : Cond.selects yX12_readAll.cls yX12_readAll yX12_readAll ∈ am_G := am_G_p (i := 105) (q := (yX12_readAll, 28)) (by decide +kernel)
theorem cv_X12_238 : am_cv RX12 238 12 yX12_readAll cX12_readAll 3 (some .int) 1 := ⟨rfl, cm_X12_readAll, am_G_t (i := 1523) (by decide +kernel) rfl, im_X12_readAll, se_X12_readAll, in_X12, ⟨by decide, by decide, by decide +kernel⟩⟩
theorem cm_X12_throwsIf : Cond.code yX12_throwsIf cX12_throwsIf 3 (some .boolean) ∈ am_G := am_G_t (i := 1651) (by decide +kernel) rfl
theorem im_X12_throwsIf : Cond.instanceMethod yX12_throwsIf ∈ am_G := am_G_t (i := 1650) (by decide +kernel) rfl
theorem se_X12_throwsIf : Cond.selects yX12_throwsIf.cls yX12_throwsIf yX12_throwsIf ∈ am_G := am_G_p (i := 131) (q := (yX12_throwsIf, 28)) (by decide +kernel)
theorem cv_X12_242 : am_cv RX12 242 12 yX12_throwsIf cX12_throwsIf 3 (some .boolean) 2 := ⟨rfl, cm_X12_throwsIf, am_G_t (i := 1648) (by decide +kernel) rfl, im_X12_throwsIf, se_X12_throwsIf, in_X12, ⟨by decide, by decide, by decide +kernel⟩⟩
theorem cm_X12_farOf : Cond.code yX12_farOf cX12_farOf 3 (some .int) ∈ am_G := am_G_t (i := 1710) (by decide +kernel) rfl
theorem im_X12_farOf : Cond.instanceMethod yX12_farOf ∈ am_G := am_G_t (i := 1709) (by decide +kernel) rfl
theorem se_X12_farOf : Cond.selects yX12_farOf.cls yX12_farOf yX12_farOf ∈ am_G := am_G_p (i := 138) (q := (yX12_farOf, 28)) (by decide +kernel)
theorem cv_X12_248 : am_cv RX12 248 12 yX12_farOf cX12_farOf 3 (some .int) 2 := ⟨rfl, cm_X12_farOf, am_G_t (i := 1707) (by decide +kernel) rfl, im_X12_farOf, se_X12_farOf, in_X12, ⟨by decide, by decide, by decide +kernel⟩⟩
theorem cm_X12_isHearing : Cond.code yX12_isHearing cX12_isHearing 3 (some .boolean) ∈ am_G := am_G_t (i := 1719) (by decide +kernel) rfl
theorem im_X12_isHearing : Cond.instanceMethod yX12_isHearing ∈ am_G := am_G_t (i := 1718) (by decide +kernel) rfl
theorem se_X12_isHearing : Cond.selects yX12_isHearing.cls yX12_isHearing yX12_isHearing ∈ am_G := am_G_p (i := 140) (q := (yX12_isHearing, 28)) (by decide +kernel)
theorem cv_X12_251 : am_cv RX12 251 12 yX12_isHearing cX12_isHearing 3 (some .boolean) 2 := ⟨rfl, cm_X12_isHearing, am_G_t (i := 1716) (by decide +kernel) rfl, im_X12_isHearing, se_X12_isHearing, in_X12, ⟨by decide, by decide, by decide +kernel⟩⟩
theorem cm_X12_wordOf : Cond.code yX12_wordOf cX12_wordOf 3 (some .int) ∈ am_G := am_G_t (i := 1675) (by decide +kernel) rfl
theorem im_X12_wordOf : Cond.instanceMethod yX12_wordOf ∈ am_G := am_G_t (i := 1674) (by decide +kernel) rfl
theorem se_X12_wordOf : Cond.selects yX12_wordOf.cls yX12_wordOf yX12_wordOf ∈ am_G := am_G_p (i := 135) (q := (yX12_wordOf, 28)) (by decide +kernel)
theorem cv_X12_254 : am_cv RX12 254 12 yX12_wordOf cX12_wordOf 3 (some .int) 2 := ⟨rfl, cm_X12_wordOf, am_G_t (i := 1672) (by decide +kernel) rfl, im_X12_wordOf, se_X12_wordOf, in_X12, ⟨by decide, by decide, by decide +kernel⟩⟩
theorem cm_X12_noHouse : Cond.code yX12_noHouse cX12_noHouse 2 (some .boolean) ∈ am_G := am_G_t (i := 1663) (by decide +kernel) rfl
theorem im_X12_noHouse : Cond.instanceMethod yX12_noHouse ∈ am_G := am_G_t (i := 1662) (by decide +kernel) rfl
theorem se_X12_noHouse : Cond.selects yX12_noHouse.cls yX12_noHouse yX12_noHouse ∈ am_G := am_G_p (i := 132) (q := (yX12_noHouse, 28)) (by decide +kernel)
theorem cv_X12_257 : am_cv RX12 257 12 yX12_noHouse cX12_noHouse 2 (some .boolean) 1 := ⟨rfl, cm_X12_noHouse, am_G_t (i := 1660) (by decide +kernel) rfl, im_X12_noHouse, se_X12_noHouse, in_X12, ⟨by decide, by decide, by decide +kernel⟩⟩
theorem cm_X12_wordsOf : Cond.code yX12_wordsOf cX12_wordsOf 4 (some .int) ∈ am_G := am_G_t (i := 1671) (by decide +kernel) rfl
theorem im_X12_wordsOf : Cond.instanceMethod yX12_wordsOf ∈ am_G := am_G_t (i := 1670) (by decide +kernel) rfl
theorem se_X12_wordsOf : Cond.selects yX12_wordsOf.cls yX12_wordsOf yX12_wordsOf ∈ am_G := am_G_p (i := 134) (q := (yX12_wordsOf, 28)) (by decide +kernel)
theorem cv_X12_260 : am_cv RX12 260 12 yX12_wordsOf cX12_wordsOf 4 (some .int) 1 := ⟨rfl, cm_X12_wordsOf, am_G_t (i := 1668) (by decide +kernel) rfl, im_X12_wordsOf, se_X12_wordsOf, in_X12, ⟨by decide, by decide, by decide +kernel⟩⟩
theorem cm_X12_noWant : Cond.code yX12_noWant cX12_noWant 2 (some .boolean) ∈ am_G := am_G_t (i := 1683) (by decide +kernel) rfl
theorem im_X12_noWant : Cond.instanceMethod yX12_noWant ∈ am_G := am_G_t (i := 1682) (by decide +kernel) rfl
theorem se_X12_noWant : Cond.selects yX12_noWant.cls yX12_noWant yX12_noWant ∈ am_G := am_G_p (i := 136) (q := (yX12_noWant, 28)) (by decide +kernel)
theorem cv_X12_263 : am_cv RX12 263 12 yX12_noWant cX12_noWant 2 (some .boolean) 1 := ⟨rfl, cm_X12_noWant, am_G_t (i := 1680) (by decide +kernel) rfl, im_X12_noWant, se_X12_noWant, in_X12, ⟨by decide, by decide, by decide +kernel⟩⟩
theorem cm_X12_urgent : Cond.code yX12_urgent cX12_urgent 2 (some .int) ∈ am_G := am_G_t (i := 1687) (by decide +kernel) rfl
theorem im_X12_urgent : Cond.instanceMethod yX12_urgent ∈ am_G := am_G_t (i := 1686) (by decide +kernel) rfl
theorem se_X12_urgent : Cond.selects yX12_urgent.cls yX12_urgent yX12_urgent ∈ am_G := am_G_p (i := 137) (q := (yX12_urgent, 28)) (by decide +kernel)
theorem cv_X12_266 : am_cv RX12 266 12 yX12_urgent cX12_urgent 2 (some .int) 1 := ⟨rfl, cm_X12_urgent, am_G_t (i := 1684) (by decide +kernel) rfl, im_X12_urgent, se_X12_urgent, in_X12, ⟨by decide, by decide, by decide +kernel⟩⟩
theorem cm_X12_clearOf : Cond.code yX12_clearOf cX12_clearOf 3 (some .int) ∈ am_G := am_G_t (i := 1715) (by decide +kernel) rfl
theorem im_X12_clearOf : Cond.instanceMethod yX12_clearOf ∈ am_G := am_G_t (i := 1714) (by decide +kernel) rfl
theorem se_X12_clearOf : Cond.selects yX12_clearOf.cls yX12_clearOf yX12_clearOf ∈ am_G := am_G_p (i := 139) (q := (yX12_clearOf, 28)) (by decide +kernel)
theorem cv_X12_271 : am_cv RX12 271 12 yX12_clearOf cX12_clearOf 3 (some .int) 2 := ⟨rfl, cm_X12_clearOf, am_G_t (i := 1712) (by decide +kernel) rfl, im_X12_clearOf, se_X12_clearOf, in_X12, ⟨by decide, by decide, by decide +kernel⟩⟩
theorem cm_X12_isHarm : Cond.code yX12_isHarm cX12_isHarm 5 (some .boolean) ∈ am_G := am_G_t (i := 1723) (by decide +kernel) rfl
theorem im_X12_isHarm : Cond.instanceMethod yX12_isHarm ∈ am_G := am_G_t (i := 1722) (by decide +kernel) rfl
theorem se_X12_isHarm : Cond.selects yX12_isHarm.cls yX12_isHarm yX12_isHarm ∈ am_G := am_G_p (i := 141) (q := (yX12_isHarm, 28)) (by decide +kernel)
theorem cv_X12_274 : am_cv RX12 274 12 yX12_isHarm cX12_isHarm 5 (some .boolean) 2 := ⟨rfl, cm_X12_isHarm, am_G_t (i := 1720) (by decide +kernel) rfl, im_X12_isHarm, se_X12_isHarm, in_X12, ⟨by decide, by decide, by decide +kernel⟩⟩
theorem cm_X12_lays : Cond.code yX12_lays cX12_lays 5 none ∈ am_G := am_G_t (i := 1731) (by decide +kernel) rfl
theorem im_X12_lays : Cond.instanceMethod yX12_lays ∈ am_G := am_G_t (i := 1730) (by decide +kernel) rfl
theorem se_X12_lays : Cond.selects yX12_lays.cls yX12_lays yX12_lays ∈ am_G := am_G_p (i := 142) (q := (yX12_lays, 28)) (by decide +kernel)
theorem cv_X12_277 : am_cv RX12 277 12 yX12_lays cX12_lays 5 none 3 := ⟨rfl, cm_X12_lays, am_G_t (i := 1728) (by decide +kernel) rfl, im_X12_lays, se_X12_lays, in_X12, ⟨by decide, by decide, by decide +kernel⟩⟩
theorem cm_X12_ofRing : Cond.code yX12_ofRing cX12_ofRing 3 (some .int) ∈ am_G := am_G_t (i := 1755) (by decide +kernel) rfl
theorem im_X12_ofRing : Cond.instanceMethod yX12_ofRing ∈ am_G := am_G_t (i := 1754) (by decide +kernel) rfl
theorem se_X12_ofRing : Cond.selects yX12_ofRing.cls yX12_ofRing yX12_ofRing ∈ am_G := am_G_p (i := 145) (q := (yX12_ofRing, 28)) (by decide +kernel)
theorem cv_X12_280 : am_cv RX12 280 12 yX12_ofRing cX12_ofRing 3 (some .int) 2 := ⟨rfl, cm_X12_ofRing, am_G_t (i := 1752) (by decide +kernel) rfl, im_X12_ofRing, se_X12_ofRing, in_X12, ⟨by decide, by decide, by decide +kernel⟩⟩
theorem cm_X12_soundsOf : Cond.code yX12_soundsOf cX12_soundsOf 3 (some .int) ∈ am_G := am_G_t (i := 1767) (by decide +kernel) rfl
theorem im_X12_soundsOf : Cond.instanceMethod yX12_soundsOf ∈ am_G := am_G_t (i := 1766) (by decide +kernel) rfl
theorem se_X12_soundsOf : Cond.selects yX12_soundsOf.cls yX12_soundsOf yX12_soundsOf ∈ am_G := am_G_p (i := 147) (q := (yX12_soundsOf, 28)) (by decide +kernel)
theorem cv_X12_283 : am_cv RX12 283 12 yX12_soundsOf cX12_soundsOf 3 (some .int) 2 := ⟨rfl, cm_X12_soundsOf, am_G_t (i := 1764) (by decide +kernel) rfl, im_X12_soundsOf, se_X12_soundsOf, in_X12, ⟨by decide, by decide, by decide +kernel⟩⟩
theorem cm_X12_isMixed : Cond.code yX12_isMixed cX12_isMixed 7 (some .boolean) ∈ am_G := am_G_t (i := 1763) (by decide +kernel) rfl
theorem im_X12_isMixed : Cond.instanceMethod yX12_isMixed ∈ am_G := am_G_t (i := 1762) (by decide +kernel) rfl
theorem se_X12_isMixed : Cond.selects yX12_isMixed.cls yX12_isMixed yX12_isMixed ∈ am_G := am_G_p (i := 146) (q := (yX12_isMixed, 28)) (by decide +kernel)
theorem cv_X12_286 : am_cv RX12 286 12 yX12_isMixed cX12_isMixed 7 (some .boolean) 4 := ⟨rfl, cm_X12_isMixed, am_G_t (i := 1760) (by decide +kernel) rfl, im_X12_isMixed, se_X12_isMixed, in_X12, ⟨by decide, by decide, by decide +kernel⟩⟩
theorem cm_X12_noRing : Cond.code yX12_noRing cX12_noRing 2 (some .boolean) ∈ am_G := am_G_t (i := 1747) (by decide +kernel) rfl
theorem im_X12_noRing : Cond.instanceMethod yX12_noRing ∈ am_G := am_G_t (i := 1746) (by decide +kernel) rfl
theorem se_X12_noRing : Cond.selects yX12_noRing.cls yX12_noRing yX12_noRing ∈ am_G := am_G_p (i := 143) (q := (yX12_noRing, 28)) (by decide +kernel)
theorem cv_X12_290 : am_cv RX12 290 12 yX12_noRing cX12_noRing 2 (some .boolean) 1 := ⟨rfl, cm_X12_noRing, am_G_t (i := 1744) (by decide +kernel) rfl, im_X12_noRing, se_X12_noRing, in_X12, ⟨by decide, by decide, by decide +kernel⟩⟩
theorem cm_X12_heardBy : Cond.code yX12_heardBy cX12_heardBy 8 (some .int) ∈ am_G := am_G_t (i := 1751) (by decide +kernel) rfl
theorem im_X12_heardBy : Cond.instanceMethod yX12_heardBy ∈ am_G := am_G_t (i := 1750) (by decide +kernel) rfl
theorem se_X12_heardBy : Cond.selects yX12_heardBy.cls yX12_heardBy yX12_heardBy ∈ am_G := am_G_p (i := 144) (q := (yX12_heardBy, 28)) (by decide +kernel)
theorem cv_X12_293 : am_cv RX12 293 12 yX12_heardBy cX12_heardBy 8 (some .int) 2 := ⟨rfl, cm_X12_heardBy, am_G_t (i := 1748) (by decide +kernel) rfl, im_X12_heardBy, se_X12_heardBy, in_X12, ⟨by decide, by decide, by decide +kernel⟩⟩
theorem cm_X12_wantOf : Cond.code yX12_wantOf cX12_wantOf 4 (some .int) ∈ am_G := am_G_t (i := 1775) (by decide +kernel) rfl
theorem im_X12_wantOf : Cond.instanceMethod yX12_wantOf ∈ am_G := am_G_t (i := 1774) (by decide +kernel) rfl
theorem se_X12_wantOf : Cond.selects yX12_wantOf.cls yX12_wantOf yX12_wantOf ∈ am_G := am_G_p (i := 148) (q := (yX12_wantOf, 28)) (by decide +kernel)
theorem cv_X12_296 : am_cv RX12 296 12 yX12_wantOf cX12_wantOf 4 (some .int) 2 := ⟨rfl, cm_X12_wantOf, am_G_t (i := 1772) (by decide +kernel) rfl, im_X12_wantOf, se_X12_wantOf, in_X12, ⟨by decide, by decide, by decide +kernel⟩⟩
theorem cm_X12_takers : Cond.code yX12_takers cX12_takers 6 (some .int) ∈ am_G := am_G_t (i := 1783) (by decide +kernel) rfl
theorem im_X12_takers : Cond.instanceMethod yX12_takers ∈ am_G := am_G_t (i := 1782) (by decide +kernel) rfl
theorem se_X12_takers : Cond.selects yX12_takers.cls yX12_takers yX12_takers ∈ am_G := am_G_p (i := 149) (q := (yX12_takers, 28)) (by decide +kernel)
theorem cv_X12_299 : am_cv RX12 299 12 yX12_takers cX12_takers 6 (some .int) 2 := ⟨rfl, cm_X12_takers, am_G_t (i := 1780) (by decide +kernel) rfl, im_X12_takers, se_X12_takers, in_X12, ⟨by decide, by decide, by decide +kernel⟩⟩
theorem cm_X12_draw : Cond.code yX12_draw cX12_draw 2 (some .int) ∈ am_G := am_G_t (i := 1807) (by decide +kernel) rfl
theorem im_X12_draw : Cond.instanceMethod yX12_draw ∈ am_G := am_G_t (i := 1806) (by decide +kernel) rfl
theorem se_X12_draw : Cond.selects yX12_draw.cls yX12_draw yX12_draw ∈ am_G := am_G_p (i := 150) (q := (yX12_draw, 28)) (by decide +kernel)
theorem cv_X12_312 : am_cv RX12 312 12 yX12_draw cX12_draw 2 (some .int) 1 := ⟨rfl, cm_X12_draw, am_G_t (i := 1804) (by decide +kernel) rfl, im_X12_draw, se_X12_draw, in_X12, ⟨by decide, by decide, by decide +kernel⟩⟩
theorem cm_X12_beginsOf : Cond.code yX12_beginsOf cX12_beginsOf 7 (some .int) ∈ am_G := am_G_t (i := 1816) (by decide +kernel) rfl
theorem im_X12_beginsOf : Cond.instanceMethod yX12_beginsOf ∈ am_G := am_G_t (i := 1815) (by decide +kernel) rfl
theorem se_X12_beginsOf : Cond.selects yX12_beginsOf.cls yX12_beginsOf yX12_beginsOf ∈ am_G := am_G_p (i := 151) (q := (yX12_beginsOf, 28)) (by decide +kernel)
theorem cv_X12_316 : am_cv RX12 316 12 yX12_beginsOf cX12_beginsOf 7 (some .int) 1 := ⟨rfl, cm_X12_beginsOf, am_G_t (i := 1813) (by decide +kernel) rfl, im_X12_beginsOf, se_X12_beginsOf, in_X12, ⟨by decide, by decide, by decide +kernel⟩⟩
theorem cm_X12_isFree : Cond.code yX12_isFree cX12_isFree 5 (some .boolean) ∈ am_G := am_G_t (i := 1848) (by decide +kernel) rfl
theorem im_X12_isFree : Cond.instanceMethod yX12_isFree ∈ am_G := am_G_t (i := 1847) (by decide +kernel) rfl
theorem se_X12_isFree : Cond.selects yX12_isFree.cls yX12_isFree yX12_isFree ∈ am_G := am_G_p (i := 153) (q := (yX12_isFree, 28)) (by decide +kernel)
theorem cv_X12_323 : am_cv RX12 323 12 yX12_isFree cX12_isFree 5 (some .boolean) 2 := ⟨rfl, cm_X12_isFree, am_G_t (i := 1845) (by decide +kernel) rfl, im_X12_isFree, se_X12_isFree, in_X12, ⟨by decide, by decide, by decide +kernel⟩⟩
theorem cm_X12_paints : Cond.code yX12_paints cX12_paints 4 (some .boolean) ∈ am_G := am_G_t (i := 1844) (by decide +kernel) rfl
theorem im_X12_paints : Cond.instanceMethod yX12_paints ∈ am_G := am_G_t (i := 1843) (by decide +kernel) rfl
theorem se_X12_paints : Cond.selects yX12_paints.cls yX12_paints yX12_paints ∈ am_G := am_G_p (i := 152) (q := (yX12_paints, 28)) (by decide +kernel)
theorem cv_X12_326 : am_cv RX12 326 12 yX12_paints cX12_paints 4 (some .boolean) 1 := ⟨rfl, cm_X12_paints, am_G_t (i := 1841) (by decide +kernel) rfl, im_X12_paints, se_X12_paints, in_X12, ⟨by decide, by decide, by decide +kernel⟩⟩
theorem cm_X12_spreads : Cond.code yX12_spreads cX12_spreads 8 none ∈ am_G := am_G_t (i := 1856) (by decide +kernel) rfl
theorem im_X12_spreads : Cond.instanceMethod yX12_spreads ∈ am_G := am_G_t (i := 1855) (by decide +kernel) rfl
theorem se_X12_spreads : Cond.selects yX12_spreads.cls yX12_spreads yX12_spreads ∈ am_G := am_G_p (i := 154) (q := (yX12_spreads, 28)) (by decide +kernel)
theorem cv_X12_329 : am_cv RX12 329 12 yX12_spreads cX12_spreads 8 none 3 := ⟨rfl, cm_X12_spreads, am_G_t (i := 1853) (by decide +kernel) rfl, im_X12_spreads, se_X12_spreads, in_X12, ⟨by decide, by decide, by decide +kernel⟩⟩
theorem cm_X12_factOf : Cond.code yX12_factOf cX12_factOf 6 (some .int) ∈ am_G := am_G_t (i := 1888) (by decide +kernel) rfl
theorem im_X12_factOf : Cond.instanceMethod yX12_factOf ∈ am_G := am_G_t (i := 1887) (by decide +kernel) rfl
theorem se_X12_factOf : Cond.selects yX12_factOf.cls yX12_factOf yX12_factOf ∈ am_G := am_G_p (i := 160) (q := (yX12_factOf, 28)) (by decide +kernel)
theorem cv_X12_332 : am_cv RX12 332 12 yX12_factOf cX12_factOf 6 (some .int) 5 := ⟨rfl, cm_X12_factOf, am_G_t (i := 1885) (by decide +kernel) rfl, im_X12_factOf, se_X12_factOf, in_X12, ⟨by decide, by decide, by decide +kernel⟩⟩
theorem cm_X12_holdsLine : Cond.code yX12_holdsLine cX12_holdsLine 12 (some .boolean) ∈ am_G := am_G_t (i := 1884) (by decide +kernel) rfl
theorem im_X12_holdsLine : Cond.instanceMethod yX12_holdsLine ∈ am_G := am_G_t (i := 1883) (by decide +kernel) rfl
theorem se_X12_holdsLine : Cond.selects yX12_holdsLine.cls yX12_holdsLine yX12_holdsLine ∈ am_G := am_G_p (i := 159) (q := (yX12_holdsLine, 28)) (by decide +kernel)
theorem cv_X12_336 : am_cv RX12 336 12 yX12_holdsLine cX12_holdsLine 12 (some .boolean) 4 := ⟨rfl, cm_X12_holdsLine, am_G_t (i := 1881) (by decide +kernel) rfl, im_X12_holdsLine, se_X12_holdsLine, in_X12, ⟨by decide, by decide, by decide +kernel⟩⟩
theorem cm_X12_turn : Cond.code yX12_turn cX12_turn 6 (some .int) ∈ am_G := am_G_t (i := 1880) (by decide +kernel) rfl
theorem im_X12_turn : Cond.instanceMethod yX12_turn ∈ am_G := am_G_t (i := 1879) (by decide +kernel) rfl
theorem se_X12_turn : Cond.selects yX12_turn.cls yX12_turn yX12_turn ∈ am_G := am_G_p (i := 158) (q := (yX12_turn, 28)) (by decide +kernel)
theorem cv_X12_339 : am_cv RX12 339 12 yX12_turn cX12_turn 6 (some .int) 3 := ⟨rfl, cm_X12_turn, am_G_t (i := 1877) (by decide +kernel) rfl, im_X12_turn, se_X12_turn, in_X12, ⟨by decide, by decide, by decide +kernel⟩⟩
theorem cm_X12_ringing : Cond.code yX12_ringing cX12_ringing 4 (some .int) ∈ am_G := am_G_t (i := 1872) (by decide +kernel) rfl
theorem im_X12_ringing : Cond.instanceMethod yX12_ringing ∈ am_G := am_G_t (i := 1871) (by decide +kernel) rfl
theorem se_X12_ringing : Cond.selects yX12_ringing.cls yX12_ringing yX12_ringing ∈ am_G := am_G_p (i := 156) (q := (yX12_ringing, 28)) (by decide +kernel)
theorem cv_X12_343 : am_cv RX12 343 12 yX12_ringing cX12_ringing 4 (some .int) 1 := ⟨rfl, cm_X12_ringing, am_G_t (i := 1869) (by decide +kernel) rfl, im_X12_ringing, se_X12_ringing, in_X12, ⟨by decide, by decide, by decide +kernel⟩⟩
theorem cm_X12_turnOf : Cond.code yX12_turnOf cX12_turnOf 8 (some .int) ∈ am_G := am_G_t (i := 1876) (by decide +kernel) rfl
theorem im_X12_turnOf : Cond.instanceMethod yX12_turnOf ∈ am_G := am_G_t (i := 1875) (by decide +kernel) rfl
theorem se_X12_turnOf : Cond.selects yX12_turnOf.cls yX12_turnOf yX12_turnOf ∈ am_G := am_G_p (i := 157) (q := (yX12_turnOf, 28)) (by decide +kernel)
theorem cv_X12_346 : am_cv RX12 346 12 yX12_turnOf cX12_turnOf 8 (some .int) 4 := ⟨rfl, cm_X12_turnOf, am_G_t (i := 1873) (by decide +kernel) rfl, im_X12_turnOf, se_X12_turnOf, in_X12, ⟨by decide, by decide, by decide +kernel⟩⟩
theorem cm_X12_isStill : Cond.code yX12_isStill cX12_isStill 6 (some .boolean) ∈ am_G := am_G_t (i := 1892) (by decide +kernel) rfl
theorem im_X12_isStill : Cond.instanceMethod yX12_isStill ∈ am_G := am_G_t (i := 1891) (by decide +kernel) rfl
theorem se_X12_isStill : Cond.selects yX12_isStill.cls yX12_isStill yX12_isStill ∈ am_G := am_G_p (i := 161) (q := (yX12_isStill, 28)) (by decide +kernel)
theorem cv_X12_350 : am_cv RX12 350 12 yX12_isStill cX12_isStill 6 (some .boolean) 3 := ⟨rfl, cm_X12_isStill, am_G_t (i := 1889) (by decide +kernel) rfl, im_X12_isStill, se_X12_isStill, in_X12, ⟨by decide, by decide, by decide +kernel⟩⟩
theorem cm_X12_rings : Cond.code yX12_rings cX12_rings 10 (some .int) ∈ am_G := am_G_t (i := 1868) (by decide +kernel) rfl
theorem im_X12_rings : Cond.instanceMethod yX12_rings ∈ am_G := am_G_t (i := 1867) (by decide +kernel) rfl
theorem se_X12_rings : Cond.selects yX12_rings.cls yX12_rings yX12_rings ∈ am_G := am_G_p (i := 155) (q := (yX12_rings, 28)) (by decide +kernel)
theorem cv_X12_353 : am_cv RX12 353 12 yX12_rings cX12_rings 10 (some .int) 3 := ⟨rfl, cm_X12_rings, am_G_t (i := 1865) (by decide +kernel) rfl, im_X12_rings, se_X12_rings, in_X12, ⟨by decide, by decide, by decide +kernel⟩⟩
theorem cm_X12_isRoom : Cond.code yX12_isRoom cX12_isRoom 7 (some .boolean) ∈ am_G := am_G_t (i := 1908) (by decide +kernel) rfl
theorem im_X12_isRoom : Cond.instanceMethod yX12_isRoom ∈ am_G := am_G_t (i := 1907) (by decide +kernel) rfl
theorem se_X12_isRoom : Cond.selects yX12_isRoom.cls yX12_isRoom yX12_isRoom ∈ am_G := am_G_p (i := 163) (q := (yX12_isRoom, 28)) (by decide +kernel)
theorem cv_X12_357 : am_cv RX12 357 12 yX12_isRoom cX12_isRoom 7 (some .boolean) 3 := ⟨rfl, cm_X12_isRoom, am_G_t (i := 1905) (by decide +kernel) rfl, im_X12_isRoom, se_X12_isRoom, in_X12, ⟨by decide, by decide, by decide +kernel⟩⟩
theorem cm_X12_fits : Cond.code yX12_fits cX12_fits 6 (some .int) ∈ am_G := am_G_t (i := 1904) (by decide +kernel) rfl
theorem im_X12_fits : Cond.instanceMethod yX12_fits ∈ am_G := am_G_t (i := 1903) (by decide +kernel) rfl
theorem se_X12_fits : Cond.selects yX12_fits.cls yX12_fits yX12_fits ∈ am_G := am_G_p (i := 162) (q := (yX12_fits, 28)) (by decide +kernel)
theorem cv_X12_360 : am_cv RX12 360 12 yX12_fits cX12_fits 6 (some .int) 3 := ⟨rfl, cm_X12_fits, am_G_t (i := 1901) (by decide +kernel) rfl, im_X12_fits, se_X12_fits, in_X12, ⟨by decide, by decide, by decide +kernel⟩⟩
theorem cm_X12_worthOf : Cond.code yX12_worthOf cX12_worthOf 4 (some .int) ∈ am_G := am_G_t (i := 1916) (by decide +kernel) rfl
theorem im_X12_worthOf : Cond.instanceMethod yX12_worthOf ∈ am_G := am_G_t (i := 1915) (by decide +kernel) rfl
theorem se_X12_worthOf : Cond.selects yX12_worthOf.cls yX12_worthOf yX12_worthOf ∈ am_G := am_G_p (i := 164) (q := (yX12_worthOf, 28)) (by decide +kernel)
theorem cv_X12_364 : am_cv RX12 364 12 yX12_worthOf cX12_worthOf 4 (some .int) 3 := ⟨rfl, cm_X12_worthOf, am_G_t (i := 1913) (by decide +kernel) rfl, im_X12_worthOf, se_X12_worthOf, in_X12, ⟨by decide, by decide, by decide +kernel⟩⟩
theorem cm_X12_kindOf : Cond.code yX12_kindOf cX12_kindOf 3 (some .int) ∈ am_G := am_G_t (i := 1933) (by decide +kernel) rfl
theorem im_X12_kindOf : Cond.instanceMethod yX12_kindOf ∈ am_G := am_G_t (i := 1932) (by decide +kernel) rfl
theorem se_X12_kindOf : Cond.selects yX12_kindOf.cls yX12_kindOf yX12_kindOf ∈ am_G := am_G_p (i := 166) (q := (yX12_kindOf, 28)) (by decide +kernel)
theorem cv_X12_373 : am_cv RX12 373 12 yX12_kindOf cX12_kindOf 3 (some .int) 1 := ⟨rfl, cm_X12_kindOf, am_G_t (i := 1930) (by decide +kernel) rfl, im_X12_kindOf, se_X12_kindOf, in_X12, ⟨by decide, by decide, by decide +kernel⟩⟩
theorem cm_X12_isRow : Cond.code yX12_isRow cX12_isRow 3 (some .boolean) ∈ am_G := am_G_t (i := 1929) (by decide +kernel) rfl
theorem im_X12_isRow : Cond.instanceMethod yX12_isRow ∈ am_G := am_G_t (i := 1928) (by decide +kernel) rfl
theorem se_X12_isRow : Cond.selects yX12_isRow.cls yX12_isRow yX12_isRow ∈ am_G := am_G_p (i := 165) (q := (yX12_isRow, 28)) (by decide +kernel)
theorem cv_X12_376 : am_cv RX12 376 12 yX12_isRow cX12_isRow 3 (some .boolean) 0 := ⟨rfl, cm_X12_isRow, am_G_t (i := 1926) (by decide +kernel) rfl, im_X12_isRow, se_X12_isRow, in_X12, ⟨by decide, by decide, by decide +kernel⟩⟩
theorem cm_X12_isTold : Cond.code yX12_isTold cX12_isTold 5 (some .boolean) ∈ am_G := am_G_t (i := 1937) (by decide +kernel) rfl
theorem im_X12_isTold : Cond.instanceMethod yX12_isTold ∈ am_G := am_G_t (i := 1936) (by decide +kernel) rfl
theorem se_X12_isTold : Cond.selects yX12_isTold.cls yX12_isTold yX12_isTold ∈ am_G := am_G_p (i := 167) (q := (yX12_isTold, 28)) (by decide +kernel)
theorem cv_X12_379 : am_cv RX12 379 12 yX12_isTold cX12_isTold 5 (some .boolean) 0 := ⟨rfl, cm_X12_isTold, am_G_t (i := 1934) (by decide +kernel) rfl, im_X12_isTold, se_X12_isTold, in_X12, ⟨by decide, by decide, by decide +kernel⟩⟩
theorem cm_X12_of : Cond.code yX12_of cX12_of 3 (some .int) ∈ am_G := am_G_t (i := 1667) (by decide +kernel) rfl
theorem im_X12_of : Cond.instanceMethod yX12_of ∈ am_G := am_G_t (i := 1666) (by decide +kernel) rfl
theorem se_X12_of : Cond.selects yX12_of.cls yX12_of yX12_of ∈ am_G := am_G_p (i := 133) (q := (yX12_of, 28)) (by decide +kernel)
theorem cv_X12_70 : am_cv RX12 70 12 yX12_of cX12_of 3 (some .int) 2 := ⟨rfl, cm_X12_of, am_G_t (i := 1664) (by decide +kernel) rfl, im_X12_of, se_X12_of, in_X12, ⟨by decide, by decide, by decide +kernel⟩⟩
theorem cm_X12_houses : Cond.code yX12_houses cX12_houses 1 (some .int) ∈ am_G := am_G_t (i := 1565) (by decide +kernel) rfl
theorem im_X12_houses : Cond.instanceMethod yX12_houses ∈ am_G := am_G_t (i := 1564) (by decide +kernel) rfl
theorem se_X12_houses : Cond.selects yX12_houses.cls yX12_houses yX12_houses ∈ am_G := am_G_p (i := 114) (q := (yX12_houses, 28)) (by decide +kernel)
theorem cv_X12_74 : am_cv RX12 74 12 yX12_houses cX12_houses 1 (some .int) 0 := ⟨rfl, cm_X12_houses, am_G_t (i := 1562) (by decide +kernel) rfl, im_X12_houses, se_X12_houses, in_X12, ⟨by decide, by decide, by decide +kernel⟩⟩
theorem cm_X12_wants : Cond.code yX12_wants cX12_wants 1 (some .int) ∈ am_G := am_G_t (i := 1587) (by decide +kernel) rfl
theorem im_X12_wants : Cond.instanceMethod yX12_wants ∈ am_G := am_G_t (i := 1586) (by decide +kernel) rfl
theorem se_X12_wants : Cond.selects yX12_wants.cls yX12_wants yX12_wants ∈ am_G := am_G_p (i := 119) (q := (yX12_wants, 28)) (by decide +kernel)
theorem cv_X12_82 : am_cv RX12 82 12 yX12_wants cX12_wants 1 (some .int) 0 := ⟨rfl, cm_X12_wants, am_G_t (i := 1584) (by decide +kernel) rfl, im_X12_wants, se_X12_wants, in_X12, ⟨by decide, by decide, by decide +kernel⟩⟩
theorem cv_X1_41 : am_cvN RX1 41 9 yX9_hasHouse "BellTown" cX9_hasHouse 2 (some .boolean) 1 := ⟨rfl, cm_X9_hasHouse, am_nw_t (i := 1176) (by decide +kernel) rfl, im_X9_hasHouse, se_X9_hasHouse, in_X9, ⟨by decide, by decide, by decide +kernel⟩⟩
theorem cv_X1_50 : am_cvN RX1 50 9 yX9_urgentOf "BellTown" cX9_urgentOf 2 (some .int) 1 := ⟨rfl, cm_X9_urgentOf, am_nw_t (i := 1177) (by decide +kernel) rfl, im_X9_urgentOf, se_X9_urgentOf, in_X9, ⟨by decide, by decide, by decide +kernel⟩⟩
theorem cv_X1_54 : am_cvN RX1 54 9 yX9_wordFor "BellTown" cX9_wordFor 3 (some .int) 2 := ⟨rfl, cm_X9_wordFor, am_nw_t (i := 1178) (by decide +kernel) rfl, im_X9_wordFor, se_X9_wordFor, in_X9, ⟨by decide, by decide, by decide +kernel⟩⟩
theorem cm_X1_isHolding : Cond.code yX1_isHolding cX1_isHolding 5 (some .boolean) ∈ am_G := am_G_t (i := 1183) (by decide +kernel) rfl
theorem im_X1_isHolding : Cond.instanceMethod yX1_isHolding ∈ am_G := am_G_t (i := 1182) (by decide +kernel) rfl
theorem se_X1_isHolding : Cond.selects yX1_isHolding.cls yX1_isHolding yX1_isHolding ∈ am_G := am_G_p (i := 76) (q := (yX1_isHolding, 8)) (by decide +kernel)
theorem cv_X1_61 : am_cv RX1 61 1 yX1_isHolding cX1_isHolding 5 (some .boolean) 2 := ⟨rfl, cm_X1_isHolding, am_G_t (i := 1180) (by decide +kernel) rfl, im_X1_isHolding, se_X1_isHolding, in_X1, ⟨by decide, by decide, by decide +kernel⟩⟩
theorem cm_X1_push : Cond.code yX1_push cX1_push 2 none ∈ am_G := am_G_t (i := 1187) (by decide +kernel) rfl
theorem im_X1_push : Cond.instanceMethod yX1_push ∈ am_G := am_G_t (i := 1186) (by decide +kernel) rfl
theorem se_X1_push : Cond.selects yX1_push.cls yX1_push yX1_push ∈ am_G := am_G_p (i := 77) (q := (yX1_push, 8)) (by decide +kernel)
theorem cv_X1_68 : am_cv RX1 68 1 yX1_push cX1_push 2 none 1 := ⟨rfl, cm_X1_push, am_G_t (i := 1184) (by decide +kernel) rfl, im_X1_push, se_X1_push, in_X1, ⟨by decide, by decide, by decide +kernel⟩⟩
theorem cm_X1_join : Cond.code yX1_join cX1_join 4 none ∈ am_G := am_G_t (i := 1191) (by decide +kernel) rfl
theorem im_X1_join : Cond.instanceMethod yX1_join ∈ am_G := am_G_t (i := 1190) (by decide +kernel) rfl
theorem se_X1_join : Cond.selects yX1_join.cls yX1_join yX1_join ∈ am_G := am_G_p (i := 78) (q := (yX1_join, 8)) (by decide +kernel)
theorem cv_X1_72 : am_cv RX1 72 1 yX1_join cX1_join 4 none 1 := ⟨rfl, cm_X1_join, am_G_t (i := 1188) (by decide +kernel) rfl, im_X1_join, se_X1_join, in_X1, ⟨by decide, by decide, by decide +kernel⟩⟩
theorem cm_X1_pop : Cond.code yX1_pop cX1_pop 1 (some .int) ∈ am_G := am_G_t (i := 1195) (by decide +kernel) rfl
theorem im_X1_pop : Cond.instanceMethod yX1_pop ∈ am_G := am_G_t (i := 1194) (by decide +kernel) rfl
theorem se_X1_pop : Cond.selects yX1_pop.cls yX1_pop yX1_pop ∈ am_G := am_G_p (i := 79) (q := (yX1_pop, 8)) (by decide +kernel)
theorem cv_X1_75 : am_cv RX1 75 1 yX1_pop cX1_pop 1 (some .int) 0 := ⟨rfl, cm_X1_pop, am_G_t (i := 1192) (by decide +kernel) rfl, im_X1_pop, se_X1_pop, in_X1, ⟨by decide, by decide, by decide +kernel⟩⟩
theorem cm_X1_clear : Cond.code yX1_clear cX1_clear 1 none ∈ am_G := am_G_t (i := 778) (by decide +kernel) rfl
theorem im_X1_clear : Cond.instanceMethod yX1_clear ∈ am_G := am_G_t (i := 777) (by decide +kernel) rfl
theorem se_X1_clear : Cond.selects yX1_clear.cls yX1_clear yX1_clear ∈ am_G := am_G_p (i := 33) (q := (yX1_clear, 8)) (by decide +kernel)
theorem cv_X2_18 : am_cvN RX2 18 1 yX1_clear "BellTown" cX1_clear 1 none 0 := ⟨rfl, cm_X1_clear, am_nw_t (i := 775) (by decide +kernel) rfl, im_X1_clear, se_X1_clear, in_X1, ⟨by decide, by decide, by decide +kernel⟩⟩
theorem cv_X2_23 : am_cvN RX2 23 4 yX4_open "BellTown" cX4_open 3 none 2 := ⟨rfl, cm_X4_open, am_nw_t (i := 779) (by decide +kernel) rfl, im_X4_open, se_X4_open, in_X4, ⟨by decide, by decide, by decide +kernel⟩⟩
theorem cv_X2_27 : am_cvN RX2 27 4 yX4_isAtLine "BellTown" cX4_isAtLine 3 (some .boolean) 2 := ⟨rfl, cm_X4_isAtLine, am_nw_t (i := 780) (by decide +kernel) rfl, im_X4_isAtLine, se_X4_isAtLine, in_X4, ⟨by decide, by decide, by decide +kernel⟩⟩
theorem cv_X2_33 : am_cvN RX2 33 4 yX4_took "BellTown" cX4_took 2 (some .boolean) 1 := ⟨rfl, cm_X4_took, am_nw_t (i := 782) (by decide +kernel) rfl, im_X4_took, se_X4_took, in_X4, ⟨by decide, by decide, by decide +kernel⟩⟩
theorem cv_X2_37 : am_cvN RX2 37 4 yX4_refuse "BellTown" cX4_refuse 1 none 0 := ⟨rfl, cm_X4_refuse, am_nw_t (i := 783) (by decide +kernel) rfl, im_X4_refuse, se_X4_refuse, in_X4, ⟨by decide, by decide, by decide +kernel⟩⟩
theorem cv_X2_40 : am_cvN RX2 40 4 yX4_number "BellTown" cX4_number 5 (some .int) 2 := ⟨rfl, cm_X4_number, am_nw_t (i := 784) (by decide +kernel) rfl, im_X4_number, se_X4_number, in_X4, ⟨by decide, by decide, by decide +kernel⟩⟩
theorem cm_X2_readCondition : Cond.code yX2_readCondition cX2_readCondition 7 none ∈ am_G := am_G_t (i := 789) (by decide +kernel) rfl
theorem im_X2_readCondition : Cond.instanceMethod yX2_readCondition ∈ am_G := am_G_t (i := 788) (by decide +kernel) rfl
theorem se_X2_readCondition : Cond.selects yX2_readCondition.cls yX2_readCondition yX2_readCondition ∈ am_G := am_G_p (i := 34) (q := (yX2_readCondition, 1)) (by decide +kernel)
theorem cv_X2_46 : am_cv RX2 46 2 yX2_readCondition cX2_readCondition 7 none 2 := ⟨rfl, cm_X2_readCondition, am_G_t (i := 786) (by decide +kernel) rfl, im_X2_readCondition, se_X2_readCondition, in_X2, ⟨by decide, by decide, by decide +kernel⟩⟩
theorem cm_X1_endLine : Cond.code yX1_endLine cX1_endLine 2 none ∈ am_G := am_G_t (i := 828) (by decide +kernel) rfl
theorem im_X1_endLine : Cond.instanceMethod yX1_endLine ∈ am_G := am_G_t (i := 827) (by decide +kernel) rfl
theorem se_X1_endLine : Cond.selects yX1_endLine.cls yX1_endLine yX1_endLine ∈ am_G := am_G_p (i := 40) (q := (yX1_endLine, 8)) (by decide +kernel)
theorem cv_X2_50 : am_cvN RX2 50 1 yX1_endLine "BellTown" cX1_endLine 2 none 1 := ⟨rfl, cm_X1_endLine, am_nw_t (i := 825) (by decide +kernel) rfl, im_X1_endLine, se_X1_endLine, in_X1, ⟨by decide, by decide, by decide +kernel⟩⟩
theorem cm_X2_readAtom : Cond.code yX2_readAtom cX2_readAtom 6 none ∈ am_G := am_G_t (i := 793) (by decide +kernel) rfl
theorem im_X2_readAtom : Cond.instanceMethod yX2_readAtom ∈ am_G := am_G_t (i := 792) (by decide +kernel) rfl
theorem se_X2_readAtom : Cond.selects yX2_readAtom.cls yX2_readAtom yX2_readAtom ∈ am_G := am_G_p (i := 35) (q := (yX2_readAtom, 1)) (by decide +kernel)
theorem cv_X2_58 : am_cv RX2 58 2 yX2_readAtom cX2_readAtom 6 none 2 := ⟨rfl, cm_X2_readAtom, am_G_t (i := 790) (by decide +kernel) rfl, im_X2_readAtom, se_X2_readAtom, in_X2, ⟨by decide, by decide, by decide +kernel⟩⟩
theorem cm_X1_addStep : Cond.code yX1_addStep cX1_addStep 2 none ∈ am_G := am_G_t (i := 801) (by decide +kernel) rfl
theorem im_X1_addStep : Cond.instanceMethod yX1_addStep ∈ am_G := am_G_t (i := 800) (by decide +kernel) rfl
theorem se_X1_addStep : Cond.selects yX1_addStep.cls yX1_addStep yX1_addStep ∈ am_G := am_G_p (i := 36) (q := (yX1_addStep, 8)) (by decide +kernel)
theorem cv_X2_61 : am_cvN RX2 61 1 yX1_addStep "BellTown" cX1_addStep 2 none 1 := ⟨rfl, cm_X1_addStep, am_nw_t (i := 798) (by decide +kernel) rfl, im_X1_addStep, se_X1_addStep, in_X1, ⟨by decide, by decide, by decide +kernel⟩⟩
theorem cv_X2_70 : am_cvN RX2 70 4 yX4_isAt "BellTown" cX4_isAt 3 (some .boolean) 1 := ⟨rfl, cm_X4_isAt, am_nw_t (i := 795) (by decide +kernel) rfl, im_X4_isAt, se_X4_isAt, in_X4, ⟨by decide, by decide, by decide +kernel⟩⟩
theorem cv_X2_75 : am_cvN RX2 75 4 yX4_step "BellTown" cX4_step 1 none 0 := ⟨rfl, cm_X4_step, am_nw_t (i := 797) (by decide +kernel) rfl, im_X4_step, se_X4_step, in_X4, ⟨by decide, by decide, by decide +kernel⟩⟩
theorem cm_X2_readSum : Cond.code yX2_readSum cX2_readSum 4 none ∈ am_G := am_G_t (i := 806) (by decide +kernel) rfl
theorem im_X2_readSum : Cond.instanceMethod yX2_readSum ∈ am_G := am_G_t (i := 805) (by decide +kernel) rfl
theorem se_X2_readSum : Cond.selects yX2_readSum.cls yX2_readSum yX2_readSum ∈ am_G := am_G_p (i := 37) (q := (yX2_readSum, 1)) (by decide +kernel)
theorem cv_X2_80 : am_cv RX2 80 2 yX2_readSum cX2_readSum 4 none 1 := ⟨rfl, cm_X2_readSum, am_G_t (i := 803) (by decide +kernel) rfl, im_X2_readSum, se_X2_readSum, in_X2, ⟨by decide, by decide, by decide +kernel⟩⟩
theorem cm_X4_isAtNumber : Cond.code yX4_isAtNumber cX4_isAtNumber 1 (some .boolean) ∈ am_G := am_G_t (i := 810) (by decide +kernel) rfl
theorem im_X4_isAtNumber : Cond.instanceMethod yX4_isAtNumber ∈ am_G := am_G_t (i := 809) (by decide +kernel) rfl
theorem se_X4_isAtNumber : Cond.selects yX4_isAtNumber.cls yX4_isAtNumber yX4_isAtNumber ∈ am_G := am_G_p (i := 38) (q := (yX4_isAtNumber, 6)) (by decide +kernel)
theorem cv_X2_88 : am_cvN RX2 88 4 yX4_isAtNumber "BellTown" cX4_isAtNumber 1 (some .boolean) 0 := ⟨rfl, cm_X4_isAtNumber, am_nw_t (i := 807) (by decide +kernel) rfl, im_X4_isAtNumber, se_X4_isAtNumber, in_X4, ⟨by decide, by decide, by decide +kernel⟩⟩
theorem cm_X2_readFact : Cond.code yX2_readFact cX2_readFact 2 (some .int) ∈ am_G := am_G_t (i := 814) (by decide +kernel) rfl
theorem im_X2_readFact : Cond.instanceMethod yX2_readFact ∈ am_G := am_G_t (i := 813) (by decide +kernel) rfl
theorem se_X2_readFact : Cond.selects yX2_readFact.cls yX2_readFact yX2_readFact ∈ am_G := am_G_p (i := 39) (q := (yX2_readFact, 1)) (by decide +kernel)
theorem cv_X2_92 : am_cv RX2 92 2 yX2_readFact cX2_readFact 2 (some .int) 0 := ⟨rfl, cm_X2_readFact, am_G_t (i := 811) (by decide +kernel) rfl, im_X2_readFact, se_X2_readFact, in_X2, ⟨by decide, by decide, by decide +kernel⟩⟩
theorem cm_X3_isWantRead : Cond.code yX3_isWantRead cX3_isWantRead 3 (some .boolean) ∈ am_G := am_G_t (i := 1277) (by decide +kernel) rfl
theorem im_X3_isWantRead : Cond.instanceMethod yX3_isWantRead ∈ am_G := am_G_t (i := 1276) (by decide +kernel) rfl
theorem se_X3_isWantRead : Cond.selects yX3_isWantRead.cls yX3_isWantRead yX3_isWantRead ∈ am_G := am_G_p (i := 90) (q := (yX3_isWantRead, 9)) (by decide +kernel)
theorem cv_X3_43 : am_cv RX3 43 3 yX3_isWantRead cX3_isWantRead 3 (some .boolean) 1 := ⟨rfl, cm_X3_isWantRead, am_G_t (i := 1274) (by decide +kernel) rfl, im_X3_isWantRead, se_X3_isWantRead, in_X3, ⟨by decide, by decide, by decide +kernel⟩⟩
theorem cm_X3_tryWords : Cond.code yX3_tryWords cX3_tryWords 3 none ∈ am_G := am_G_t (i := 1288) (by decide +kernel) rfl
theorem im_X3_tryWords : Cond.instanceMethod yX3_tryWords ∈ am_G := am_G_t (i := 1287) (by decide +kernel) rfl
theorem se_X3_tryWords : Cond.selects yX3_tryWords.cls yX3_tryWords yX3_tryWords ∈ am_G := am_G_p (i := 92) (q := (yX3_tryWords, 9)) (by decide +kernel)
theorem cv_X3_53 : am_cv RX3 53 3 yX3_tryWords cX3_tryWords 3 none 1 := ⟨rfl, cm_X3_tryWords, am_G_t (i := 1285) (by decide +kernel) rfl, im_X3_tryWords, se_X3_tryWords, in_X3, ⟨by decide, by decide, by decide +kernel⟩⟩
theorem cm_X3_keepWay : Cond.code yX3_keepWay cX3_keepWay 1 none ∈ am_G := am_G_t (i := 1292) (by decide +kernel) rfl
theorem im_X3_keepWay : Cond.instanceMethod yX3_keepWay ∈ am_G := am_G_t (i := 1291) (by decide +kernel) rfl
theorem se_X3_keepWay : Cond.selects yX3_keepWay.cls yX3_keepWay yX3_keepWay ∈ am_G := am_G_p (i := 93) (q := (yX3_keepWay, 9)) (by decide +kernel)
theorem cv_X3_57 : am_cv RX3 57 3 yX3_keepWay cX3_keepWay 1 none 0 := ⟨rfl, cm_X3_keepWay, am_G_t (i := 1289) (by decide +kernel) rfl, im_X3_keepWay, se_X3_keepWay, in_X3, ⟨by decide, by decide, by decide +kernel⟩⟩
theorem cm_X3_isNew : Cond.code yX3_isNew cX3_isNew 4 (some .boolean) ∈ am_G := am_G_t (i := 1297) (by decide +kernel) rfl
theorem im_X3_isNew : Cond.instanceMethod yX3_isNew ∈ am_G := am_G_t (i := 1296) (by decide +kernel) rfl
theorem se_X3_isNew : Cond.selects yX3_isNew.cls yX3_isNew yX3_isNew ∈ am_G := am_G_p (i := 94) (q := (yX3_isNew, 9)) (by decide +kernel)
theorem cv_X3_60 : am_cv RX3 60 3 yX3_isNew cX3_isNew 4 (some .boolean) 2 := ⟨rfl, cm_X3_isNew, am_G_t (i := 1294) (by decide +kernel) rfl, im_X3_isNew, se_X3_isNew, in_X3, ⟨by decide, by decide, by decide +kernel⟩⟩
theorem cm_X3_isFitting : Cond.code yX3_isFitting cX3_isFitting 6 (some .boolean) ∈ am_G := am_G_t (i := 1301) (by decide +kernel) rfl
theorem im_X3_isFitting : Cond.instanceMethod yX3_isFitting ∈ am_G := am_G_t (i := 1300) (by decide +kernel) rfl
theorem se_X3_isFitting : Cond.selects yX3_isFitting.cls yX3_isFitting yX3_isFitting ∈ am_G := am_G_p (i := 95) (q := (yX3_isFitting, 9)) (by decide +kernel)
theorem cv_X3_64 : am_cv RX3 64 3 yX3_isFitting cX3_isFitting 6 (some .boolean) 1 := ⟨rfl, cm_X3_isFitting, am_G_t (i := 1298) (by decide +kernel) rfl, im_X3_isFitting, se_X3_isFitting, in_X3, ⟨by decide, by decide, by decide +kernel⟩⟩
theorem cv_X4_31 : am_cv RX4 31 4 yX4_step cX4_step 1 none 0 := ⟨rfl, cm_X4_step, am_G_t (i := 554) (by decide +kernel) rfl, im_X4_step, se_X4_step, in_X4, ⟨by decide, by decide, by decide +kernel⟩⟩
theorem cv_X4_46 : am_cv RX4 46 4 yX4_took cX4_took 2 (some .boolean) 1 := ⟨rfl, cm_X4_took, am_G_t (i := 566) (by decide +kernel) rfl, im_X4_took, se_X4_took, in_X4, ⟨by decide, by decide, by decide +kernel⟩⟩
theorem cv_X4_50 : am_cv RX4 50 4 yX4_refuse cX4_refuse 1 none 0 := ⟨rfl, cm_X4_refuse, am_G_t (i := 622) (by decide +kernel) rfl, im_X4_refuse, se_X4_refuse, in_X4, ⟨by decide, by decide, by decide +kernel⟩⟩
theorem cv_X4_53 : am_cvS RX4 53 yJ0_length_8abf5 cJ0_length_8abf5 1 (some .int) 0 := ⟨rfl, cm_J0_length_8abf5, am_G_t (i := 574) (by decide +kernel) rfl, im_J0_length_8abf5, se_J0_length_8abf5, in_J0, ⟨by decide, by decide, by decide +kernel⟩⟩
theorem cv_X4_58 : am_cvS RX4 58 yJ0_charAt_5068e cJ0_charAt_5068e 2 (some .char) 1 := ⟨rfl, cm_J0_charAt_5068e, am_G_t (i := 584) (by decide +kernel) rfl, im_J0_charAt_5068e, se_J0_charAt_5068e, in_J0, ⟨by decide, by decide, by decide +kernel⟩⟩
theorem cv_X4_62 : am_cv RX4 62 4 yX4_isAt cX4_isAt 3 (some .boolean) 1 := ⟨rfl, cm_X4_isAt, am_G_t (i := 570) (by decide +kernel) rfl, im_X4_isAt, se_X4_isAt, in_X4, ⟨by decide, by decide, by decide +kernel⟩⟩
theorem cv_X5_21 : am_cvN RX5 21 9 yX9_wordFor "BellTown" cX9_wordFor 3 (some .int) 2 := ⟨rfl, cm_X9_wordFor, am_nw_t (i := 1112) (by decide +kernel) rfl, im_X9_wordFor, se_X9_wordFor, in_X9, ⟨by decide, by decide, by decide +kernel⟩⟩
theorem cv_X5_38 : am_cvN RX5 38 9 yX9_clearOf "BellTown" cX9_clearOf 3 (some .int) 2 := ⟨rfl, cm_X9_clearOf, am_nw_t (i := 1115) (by decide +kernel) rfl, im_X9_clearOf, se_X9_clearOf, in_X9, ⟨by decide, by decide, by decide +kernel⟩⟩
theorem cm_X5_prepare : Cond.code yX5_prepare cX5_prepare 7 none ∈ am_G := am_G_t (i := 1111) (by decide +kernel) rfl
theorem im_X5_prepare : Cond.instanceMethod yX5_prepare ∈ am_G := am_G_t (i := 1110) (by decide +kernel) rfl
theorem se_X5_prepare : Cond.selects yX5_prepare.cls yX5_prepare yX5_prepare ∈ am_G := am_G_p (i := 66) (q := (yX5_prepare, 3)) (by decide +kernel)
theorem cv_X5_41 : am_cv RX5 41 5 yX5_prepare cX5_prepare 7 none 2 := ⟨rfl, cm_X5_prepare, am_G_t (i := 1108) (by decide +kernel) rfl, im_X5_prepare, se_X5_prepare, in_X5, ⟨by decide, by decide, by decide +kernel⟩⟩
theorem cv_X5_52 : am_cvN RX5 52 9 yX9_hasHouse "BellTown" cX9_hasHouse 2 (some .boolean) 1 := ⟨rfl, cm_X9_hasHouse, am_nw_t (i := 1120) (by decide +kernel) rfl, im_X9_hasHouse, se_X9_hasHouse, in_X9, ⟨by decide, by decide, by decide +kernel⟩⟩
theorem cm_X5_ringOn : Cond.code yX5_ringOn cX5_ringOn 4 none ∈ am_G := am_G_t (i := 1124) (by decide +kernel) rfl
theorem im_X5_ringOn : Cond.instanceMethod yX5_ringOn ∈ am_G := am_G_t (i := 1123) (by decide +kernel) rfl
theorem se_X5_ringOn : Cond.selects yX5_ringOn.cls yX5_ringOn yX5_ringOn ∈ am_G := am_G_p (i := 67) (q := (yX5_ringOn, 3)) (by decide +kernel)
theorem cv_X5_56 : am_cv RX5 56 5 yX5_ringOn cX5_ringOn 4 none 1 := ⟨rfl, cm_X5_ringOn, am_G_t (i := 1121) (by decide +kernel) rfl, im_X5_ringOn, se_X5_ringOn, in_X5, ⟨by decide, by decide, by decide +kernel⟩⟩
theorem cm_X5_knownBy : Cond.code yX5_knownBy cX5_knownBy 6 (some .int) ∈ am_G := am_G_t (i := 1140) (by decide +kernel) rfl
theorem im_X5_knownBy : Cond.instanceMethod yX5_knownBy ∈ am_G := am_G_t (i := 1139) (by decide +kernel) rfl
theorem se_X5_knownBy : Cond.selects yX5_knownBy.cls yX5_knownBy yX5_knownBy ∈ am_G := am_G_p (i := 69) (q := (yX5_knownBy, 3)) (by decide +kernel)
theorem cv_X5_68 : am_cv RX5 68 5 yX5_knownBy cX5_knownBy 6 (some .int) 2 := ⟨rfl, cm_X5_knownBy, am_G_t (i := 1137) (by decide +kernel) rfl, im_X5_knownBy, se_X5_knownBy, in_X5, ⟨by decide, by decide, by decide +kernel⟩⟩
theorem cv_X6_40 : am_cvN RX6 40 9 yX9_clearOf "BellTown" cX9_clearOf 3 (some .int) 2 := ⟨rfl, cm_X9_clearOf, am_nw_t (i := 971) (by decide +kernel) rfl, im_X9_clearOf, se_X9_clearOf, in_X9, ⟨by decide, by decide, by decide +kernel⟩⟩
theorem cv_X6_53 : am_cv RX6 53 6 yX6_listenAt cX6_listenAt 5 none 2 := ⟨rfl, cm_X6_listenAt, am_G_t (i := 967) (by decide +kernel) rfl, im_X6_listenAt, se_X6_listenAt, in_X6, ⟨by decide, by decide, by decide +kernel⟩⟩
theorem cm_X6_hasRinging : Cond.code yX6_hasRinging cX6_hasRinging 2 (some .boolean) ∈ am_G := am_G_t (i := 979) (by decide +kernel) rfl
theorem im_X6_hasRinging : Cond.instanceMethod yX6_hasRinging ∈ am_G := am_G_t (i := 978) (by decide +kernel) rfl
theorem se_X6_hasRinging : Cond.selects yX6_hasRinging.cls yX6_hasRinging yX6_hasRinging ∈ am_G := am_G_p (i := 52) (q := (yX6_hasRinging, 9)) (by decide +kernel)
theorem cv_X6_57 : am_cv RX6 57 6 yX6_hasRinging cX6_hasRinging 2 (some .boolean) 1 := ⟨rfl, cm_X6_hasRinging, am_G_t (i := 976) (by decide +kernel) rfl, im_X6_hasRinging, se_X6_hasRinging, in_X6, ⟨by decide, by decide, by decide +kernel⟩⟩
theorem cv_X6_61 : am_cv RX6 61 6 yX6_unmixed cX6_unmixed 9 (some .int) 2 := ⟨rfl, cm_X6_unmixed, am_G_t (i := 980) (by decide +kernel) rfl, im_X6_unmixed, se_X6_unmixed, in_X6, ⟨by decide, by decide, by decide +kernel⟩⟩
theorem cm_X6_isMixed : Cond.code yX6_isMixed cX6_isMixed 5 (some .boolean) ∈ am_G := am_G_t (i := 988) (by decide +kernel) rfl
theorem im_X6_isMixed : Cond.instanceMethod yX6_isMixed ∈ am_G := am_G_t (i := 987) (by decide +kernel) rfl
theorem se_X6_isMixed : Cond.selects yX6_isMixed.cls yX6_isMixed yX6_isMixed ∈ am_G := am_G_p (i := 54) (q := (yX6_isMixed, 9)) (by decide +kernel)
theorem cv_X6_67 : am_cv RX6 67 6 yX6_isMixed cX6_isMixed 5 (some .boolean) 3 := ⟨rfl, cm_X6_isMixed, am_G_t (i := 985) (by decide +kernel) rfl, im_X6_isMixed, se_X6_isMixed, in_X6, ⟨by decide, by decide, by decide +kernel⟩⟩
theorem cv_X6_71 : am_cv RX6 71 6 yX6_cameTo cX6_cameTo 4 (some .int) 3 := ⟨rfl, cm_X6_cameTo, am_G_t (i := 1000) (by decide +kernel) rfl, im_X6_cameTo, se_X6_cameTo, in_X6, ⟨by decide, by decide, by decide +kernel⟩⟩
theorem cv_X6_75 : am_cvN RX6 75 9 yX9_takenFor "BellTown" cX9_takenFor 4 (some .int) 2 := ⟨rfl, cm_X9_takenFor, am_nw_t (i := 1001) (by decide +kernel) rfl, im_X9_takenFor, se_X9_takenFor, in_X9, ⟨by decide, by decide, by decide +kernel⟩⟩
theorem cv_X6_81 : am_cvN RX6 81 9 yX9_wordFor "BellTown" cX9_wordFor 3 (some .int) 2 := ⟨rfl, cm_X9_wordFor, am_nw_t (i := 1332) (by decide +kernel) rfl, im_X9_wordFor, se_X9_wordFor, in_X9, ⟨by decide, by decide, by decide +kernel⟩⟩
theorem cv_X6_93 : am_cv RX6 93 6 yX6_takenAt cX6_takenAt 4 (some .int) 3 := ⟨rfl, cm_X6_takenAt, am_G_t (i := 1016) (by decide +kernel) rfl, im_X6_takenAt, se_X6_takenAt, in_X6, ⟨by decide, by decide, by decide +kernel⟩⟩
theorem cm_X9_harmedBy : Cond.code yX9_harmedBy cX9_harmedBy 4 (some .int) ∈ am_G := am_G_t (i := 1079) (by decide +kernel) rfl
theorem im_X9_harmedBy : Cond.instanceMethod yX9_harmedBy ∈ am_G := am_G_t (i := 1078) (by decide +kernel) rfl
theorem se_X9_harmedBy : Cond.selects yX9_harmedBy.cls yX9_harmedBy yX9_harmedBy ∈ am_G := am_G_p (i := 61) (q := (yX9_harmedBy, 16)) (by decide +kernel)
theorem cv_X7_24 : am_cvN RX7 24 9 yX9_harmedBy "BellTown" cX9_harmedBy 4 (some .int) 1 := ⟨rfl, cm_X9_harmedBy, am_nw_t (i := 1076) (by decide +kernel) rfl, im_X9_harmedBy, se_X9_harmedBy, in_X9, ⟨by decide, by decide, by decide +kernel⟩⟩
theorem cm_X7_isPainted : Cond.code yX7_isPainted cX7_isPainted 6 (some .boolean) ∈ am_G := am_G_t (i := 1084) (by decide +kernel) rfl
theorem im_X7_isPainted : Cond.instanceMethod yX7_isPainted ∈ am_G := am_G_t (i := 1083) (by decide +kernel) rfl
theorem se_X7_isPainted : Cond.selects yX7_isPainted.cls yX7_isPainted yX7_isPainted ∈ am_G := am_G_p (i := 62) (q := (yX7_isPainted, 2)) (by decide +kernel)
theorem cv_X7_28 : am_cv RX7 28 7 yX7_isPainted cX7_isPainted 6 (some .boolean) 4 := ⟨rfl, cm_X7_isPainted, am_G_t (i := 1081) (by decide +kernel) rfl, im_X7_isPainted, se_X7_isPainted, in_X7, ⟨by decide, by decide, by decide +kernel⟩⟩
theorem cm_X7_isFree : Cond.code yX7_isFree cX7_isFree 4 (some .boolean) ∈ am_G := am_G_t (i := 1088) (by decide +kernel) rfl
theorem im_X7_isFree : Cond.instanceMethod yX7_isFree ∈ am_G := am_G_t (i := 1087) (by decide +kernel) rfl
theorem se_X7_isFree : Cond.selects yX7_isFree.cls yX7_isFree yX7_isFree ∈ am_G := am_G_p (i := 63) (q := (yX7_isFree, 2)) (by decide +kernel)
theorem cv_X7_32 : am_cv RX7 32 7 yX7_isFree cX7_isFree 4 (some .boolean) 2 := ⟨rfl, cm_X7_isFree, am_G_t (i := 1085) (by decide +kernel) rfl, im_X7_isFree, se_X7_isFree, in_X7, ⟨by decide, by decide, by decide +kernel⟩⟩
theorem cm_X8_prepare : Cond.code yX8_prepare cX8_prepare 5 none ∈ am_G := am_G_t (i := 1160) (by decide +kernel) rfl
theorem im_X8_prepare : Cond.instanceMethod yX8_prepare ∈ am_G := am_G_t (i := 1159) (by decide +kernel) rfl
theorem se_X8_prepare : Cond.selects yX8_prepare.cls yX8_prepare yX8_prepare ∈ am_G := am_G_p (i := 72) (q := (yX8_prepare, 7)) (by decide +kernel)
theorem cv_X8_24 : am_cv RX8 24 8 yX8_prepare cX8_prepare 5 none 2 := ⟨rfl, cm_X8_prepare, am_G_t (i := 1157) (by decide +kernel) rfl, im_X8_prepare, se_X8_prepare, in_X8, ⟨by decide, by decide, by decide +kernel⟩⟩
theorem cm_X8_readyAt : Cond.code yX8_readyAt cX8_readyAt 4 (some .int) ∈ am_G := am_G_t (i := 1167) (by decide +kernel) rfl
theorem im_X8_readyAt : Cond.instanceMethod yX8_readyAt ∈ am_G := am_G_t (i := 1166) (by decide +kernel) rfl
theorem se_X8_readyAt : Cond.selects yX8_readyAt.cls yX8_readyAt yX8_readyAt ∈ am_G := am_G_p (i := 73) (q := (yX8_readyAt, 7)) (by decide +kernel)
theorem cv_X8_32 : am_cv RX8 32 8 yX8_readyAt cX8_readyAt 4 (some .int) 1 := ⟨rfl, cm_X8_readyAt, am_G_t (i := 1164) (by decide +kernel) rfl, im_X8_readyAt, se_X8_readyAt, in_X8, ⟨by decide, by decide, by decide +kernel⟩⟩
theorem cm_X1_turnOf : Cond.code yX1_turnOf cX1_turnOf 8 (some .int) ∈ am_G := am_G_t (i := 1175) (by decide +kernel) rfl
theorem im_X1_turnOf : Cond.instanceMethod yX1_turnOf ∈ am_G := am_G_t (i := 1174) (by decide +kernel) rfl
theorem se_X1_turnOf : Cond.selects yX1_turnOf.cls yX1_turnOf yX1_turnOf ∈ am_G := am_G_p (i := 75) (q := (yX1_turnOf, 8)) (by decide +kernel)
theorem cv_X8_42 : am_cvN RX8 42 1 yX1_turnOf "BellTown" cX1_turnOf 8 (some .int) 4 := ⟨rfl, cm_X1_turnOf, am_nw_t (i := 1172) (by decide +kernel) rfl, im_X1_turnOf, se_X1_turnOf, in_X1, ⟨by decide, by decide, by decide +kernel⟩⟩
theorem cm_X8_ringReady : Cond.code yX8_ringReady cX8_ringReady 6 none ∈ am_G := am_G_t (i := 1199) (by decide +kernel) rfl
theorem im_X8_ringReady : Cond.instanceMethod yX8_ringReady ∈ am_G := am_G_t (i := 1198) (by decide +kernel) rfl
theorem se_X8_ringReady : Cond.selects yX8_ringReady.cls yX8_ringReady yX8_ringReady ∈ am_G := am_G_p (i := 80) (q := (yX8_ringReady, 7)) (by decide +kernel)
theorem cv_X8_48 : am_cv RX8 48 8 yX8_ringReady cX8_ringReady 6 none 2 := ⟨rfl, cm_X8_ringReady, am_G_t (i := 1196) (by decide +kernel) rfl, im_X8_ringReady, se_X8_ringReady, in_X8, ⟨by decide, by decide, by decide +kernel⟩⟩
theorem cm_X8_drawTurns : Cond.code yX8_drawTurns cX8_drawTurns 6 none ∈ am_G := am_G_t (i := 1220) (by decide +kernel) rfl
theorem im_X8_drawTurns : Cond.instanceMethod yX8_drawTurns ∈ am_G := am_G_t (i := 1219) (by decide +kernel) rfl
theorem se_X8_drawTurns : Cond.selects yX8_drawTurns.cls yX8_drawTurns yX8_drawTurns ∈ am_G := am_G_p (i := 83) (q := (yX8_drawTurns, 7)) (by decide +kernel)
theorem cv_X8_52 : am_cv RX8 52 8 yX8_drawTurns cX8_drawTurns 6 none 1 := ⟨rfl, cm_X8_drawTurns, am_G_t (i := 1217) (by decide +kernel) rfl, im_X8_drawTurns, se_X8_drawTurns, in_X8, ⟨by decide, by decide, by decide +kernel⟩⟩
theorem cv_X8_62 : am_cvN RX8 62 9 yX9_wordFor "BellTown" cX9_wordFor 3 (some .int) 2 := ⟨rfl, cm_X9_wordFor, am_nw_t (i := 1161) (by decide +kernel) rfl, im_X9_wordFor, se_X9_wordFor, in_X9, ⟨by decide, by decide, by decide +kernel⟩⟩
theorem cv_X8_66 : am_cvN RX8 66 9 yX9_harmedBy "BellTown" cX9_harmedBy 4 (some .int) 1 := ⟨rfl, cm_X9_harmedBy, am_nw_t (i := 1162) (by decide +kernel) rfl, im_X9_harmedBy, se_X9_harmedBy, in_X9, ⟨by decide, by decide, by decide +kernel⟩⟩
theorem cm_X8_isUnharmed : Cond.code yX8_isUnharmed cX8_isUnharmed 4 (some .boolean) ∈ am_G := am_G_t (i := 1171) (by decide +kernel) rfl
theorem im_X8_isUnharmed : Cond.instanceMethod yX8_isUnharmed ∈ am_G := am_G_t (i := 1170) (by decide +kernel) rfl
theorem se_X8_isUnharmed : Cond.selects yX8_isUnharmed.cls yX8_isUnharmed yX8_isUnharmed ∈ am_G := am_G_p (i := 74) (q := (yX8_isUnharmed, 7)) (by decide +kernel)
theorem cv_X8_86 : am_cv RX8 86 8 yX8_isUnharmed cX8_isUnharmed 4 (some .boolean) 2 := ⟨rfl, cm_X8_isUnharmed, am_G_t (i := 1168) (by decide +kernel) rfl, im_X8_isUnharmed, se_X8_isUnharmed, in_X8, ⟨by decide, by decide, by decide +kernel⟩⟩
theorem cm_X8_nextOf : Cond.code yX8_nextOf cX8_nextOf 4 (some .int) ∈ am_G := am_G_t (i := 1204) (by decide +kernel) rfl
theorem im_X8_nextOf : Cond.instanceMethod yX8_nextOf ∈ am_G := am_G_t (i := 1203) (by decide +kernel) rfl
theorem se_X8_nextOf : Cond.selects yX8_nextOf.cls yX8_nextOf yX8_nextOf ∈ am_G := am_G_p (i := 81) (q := (yX8_nextOf, 7)) (by decide +kernel)
theorem cv_X8_90 : am_cv RX8 90 8 yX8_nextOf cX8_nextOf 4 (some .int) 1 := ⟨rfl, cm_X8_nextOf, am_G_t (i := 1201) (by decide +kernel) rfl, im_X8_nextOf, se_X8_nextOf, in_X8, ⟨by decide, by decide, by decide +kernel⟩⟩
theorem cv_X9_105 : am_cv RX9 105 9 yX9_farFrom cX9_farFrom 3 (some .int) 2 := ⟨rfl, cm_X9_farFrom, am_G_t (i := 757) (by decide +kernel) rfl, im_X9_farFrom, se_X9_farFrom, in_X9, ⟨by decide, by decide, by decide +kernel⟩⟩
theorem cv_X9_108 : am_cv RX9 108 9 yX9_clearOf cX9_clearOf 3 (some .int) 2 := ⟨rfl, cm_X9_clearOf, am_G_t (i := 927) (by decide +kernel) rfl, im_X9_clearOf, se_X9_clearOf, in_X9, ⟨by decide, by decide, by decide +kernel⟩⟩
theorem cv_X9_111 : am_cv RX9 111 9 yX9_isHarming cX9_isHarming 5 (some .boolean) 2 := ⟨rfl, cm_X9_isHarming, am_G_t (i := 1080) (by decide +kernel) rfl, im_X9_isHarming, se_X9_isHarming, in_X9, ⟨by decide, by decide, by decide +kernel⟩⟩
theorem cv_X9_118 : am_cv RX9 118 9 yX9_takenFor cX9_takenFor 4 (some .int) 2 := ⟨rfl, cm_X9_takenFor, am_G_t (i := 1320) (by decide +kernel) rfl, im_X9_takenFor, se_X9_takenFor, in_X9, ⟨by decide, by decide, by decide +kernel⟩⟩
theorem cv_X9_75 : am_cvN RX9 75 1 yX1_copyFrom "BellTown" cX1_copyFrom 2 none 1 := ⟨rfl, cm_X1_copyFrom, am_nw_t (i := 480) (by decide +kernel) rfl, im_X1_copyFrom, se_X1_copyFrom, in_X1, ⟨by decide, by decide, by decide +kernel⟩⟩
theorem cv_X9_79 : am_cvN RX9 79 6 yX6_copyFrom "BellTown" cX6_copyFrom 2 none 1 := ⟨rfl, cm_X6_copyFrom, am_nw_t (i := 485) (by decide +kernel) rfl, im_X6_copyFrom, se_X6_copyFrom, in_X6, ⟨by decide, by decide, by decide +kernel⟩⟩
theorem cv_X9_82 : am_cv RX9 82 9 yX9_hasWant cX9_hasWant 2 (some .boolean) 1 := ⟨rfl, cm_X9_hasWant, am_G_t (i := 461) (by decide +kernel) rfl, im_X9_hasWant, se_X9_hasWant, in_X9, ⟨by decide, by decide, by decide +kernel⟩⟩
theorem cv_X9_86 : am_cv RX9 86 9 yX9_hasHouse cX9_hasHouse 2 (some .boolean) 1 := ⟨rfl, cm_X9_hasHouse, am_G_t (i := 510) (by decide +kernel) rfl, im_X9_hasHouse, se_X9_hasHouse, in_X9, ⟨by decide, by decide, by decide +kernel⟩⟩
theorem cv_X9_89 : am_cv RX9 89 9 yX9_wordFor cX9_wordFor 3 (some .int) 2 := ⟨rfl, cm_X9_wordFor, am_G_t (i := 506) (by decide +kernel) rfl, im_X9_wordFor, se_X9_wordFor, in_X9, ⟨by decide, by decide, by decide +kernel⟩⟩
theorem cv_X9_93 : am_cv RX9 93 9 yX9_wordsOf cX9_wordsOf 4 (some .int) 1 := ⟨rfl, cm_X9_wordsOf, am_G_t (i := 502) (by decide +kernel) rfl, im_X9_wordsOf, se_X9_wordsOf, in_X9, ⟨by decide, by decide, by decide +kernel⟩⟩
theorem tk_105_109 : am_tok RX11 105 109 1 := ⟨am_G_t (i := 669) (by decide +kernel) rfl, am_G_t (i := 23) (by decide +kernel) rfl, by decide +kernel, by decide +kernel⟩
theorem tk_115_119 : am_tok RX11 115 119 2 := ⟨am_G_t (i := 737) (by decide +kernel) rfl, am_G_t (i := 24) (by decide +kernel) rfl, by decide +kernel, by decide +kernel⟩
theorem tk_385_389 : am_tok RX11 385 389 0 := ⟨am_G_t (i := 844) (by decide +kernel) rfl, am_G_t (i := 25) (by decide +kernel) rfl, by decide +kernel, by decide +kernel⟩
