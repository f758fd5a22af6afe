/-! THE LAW AS A FUNCTION -/
theorem lw_retA {p : Program} {l : Launch} {e : Env} {s : State} {m : MethodId} {args : Array Value} {below : List Frame} {meth : Method} {c : Code} (hx : p.tables.exec = Jvm.exec) (hb : c.code = code) (hr : meth.sig.returnType = ret) (hlocks : meth.locks = false) {pc : Nat} {H : Heap} {ls : Array Slot} (hdg : decode code pc = .ok (.ireturn, 1)) : W p l e room_1 s m args below meth c H [] 601024 7293034 (lw_Z below args s) (F0 m pc ls [.int 1]) := by
  intro T hT X
  obtain ⟨fs, hret, hrun, hended, hW, hframe⟩ := X.leave (v := some (.int 1)) (hlocks := hlocks) (fun h => by rw [hr] at h; cases h)
  have hmeth' : T.vm.method? m = some meth := X.method'
  refine ⟨T.setFrames fs, ?_, .returned (some (.int 1)), hrun, hended, rfl, ⟨_, rfl⟩, hW, hframe⟩
  jvm_step X.here [X.here.top, hx, hb, hdg, hmeth', hr, ret, narrow_b1]
  (try refine ⟨rfl, ?_⟩); (try refine ⟨rfl, ?_⟩)
  first | (intro acts; rw [hret _ acts rfl rfl rfl]) | rw [hret _ _ rfl rfl rfl]
  exact Steps.refl _
/-- the law's end, where our things began at the law's entry -/
def lw_ZE (E : am_E) : List Frame → Array Value → State → Unit → State → Prop := fun below a s _ t => E.2.2.2.1 = s.heap.size → lw_Z below a s t
theorem ev_lawret {E : am_E} {l : Launch} {cs sl pc : Nat} {L : List (Option Value)} {S : am_S} (hd : decode cL_law_ pc = .ok (.ireturn, 1)) (h1 : cs ≤ 601024) (h2 : sl ≤ 7293034) : am_Ev E l (RL, cL_law_, 7, (some .boolean), [], room_1) (lw_ZE E) cs sl pc L [.int 1] S (some ()) := by
  intro r hr p en s m args below meth c C H locs ls hP hS hl
  by_cases hyp : E.2.2.2.1 = s.heap.size
  · have k := W.widen (k := 601024) (n := 7293034) h1 h2 (va_forget (fun q hq => by rw [← hyp]; exact hS.2.2 q hq) (lw_retA (l := l) (e := en) (s := s) (m := m) (args := args) (below := below) (H := H) (ls := ls) C.1 C.2.1 C.2.2.2.1 C.2.2.2.2.1 hd))
    intro T hT X
    obtain ⟨t, a1, b1⟩ := k T hT X
    exact ⟨t, a1, fun _ => b1⟩
  · intro T hT X
    exact ⟨_, Steps.refl _, fun h => absurd h hyp⟩
def f_law_sw (E : am_E) (S : am_S) (i x : Int32) : Option am_S :=
  if x = 0 then f_case_0 E S i
  else if x = 1 then f_case_1 E S i
  else if x = 2 then f_case_2 E S i
  else if x = 3 then f_case_3 E S i
  else if x = 4 then f_case_4 E S i
  else if x = 5 then f_case_5 E S i
  else if x = 6 then f_case_6 E S i
  else if x = 7 then f_case_7 E S i
  else if x = 8 then f_case_8 E S i
  else if x = 9 then f_case_9 E S i
  else if x = 10 then f_case_10 E S i
  else if x = 11 then f_case_11 E S i
  else if x = 12 then f_case_12 E S i
  else if x = 13 then f_case_13 E S i
  else if x = 14 then f_case_14 E S i
  else if x = 15 then f_case_15 E S i
  else if x = 16 then f_case_16 E S i
  else if x = 17 then f_case_17 E S i
  else if x = 18 then f_case_18 E S i
  else if x = 19 then f_case_19 E S i
  else if x = 20 then f_case_20 E S i
  else if x = 21 then f_case_21 E S i
  else if x = 22 then f_case_22 E S i
  else if x = 23 then f_case_23 E S i
  else if x = 24 then f_case_24 E S i
  else if x = 25 then f_case_25 E S i
  else if x = 26 then f_case_26 E S i
  else if x = 27 then f_case_27 E S i
  else if x = 28 then f_case_28 E S i
  else if x = 29 then f_case_29 E S i
  else if x = 30 then f_case_30 E S i
  else if x = 31 then f_case_31 E S i
  else if x = 32 then f_case_32 E S i
  else if x = 33 then f_case_33 E S i
  else if x = 34 then f_case_34 E S i
  else if x = 35 then f_case_35 E S i
  else if x = 36 then f_case_36 E S i
  else if x = 37 then f_case_37 E S i
  else some S
set_option maxRecDepth 20000 in
theorem t_law_sw {E : am_E} {l : Launch} (hl : l.stackTraces = false) {cs sl : Nat} (hcs : cs ≤ 500000) (hsl : sl ≤ 7000000) {S : am_S} {i x : Int32} {F : am_S → Option Unit} (hN : ∀ S, am_Ev E l (RL, cL_law_, 7, (some .boolean), [], room_1) (lw_ZE E) (cs + 8) (sl + 48) 2462 [some (.ref 900), some (.ref 0), some (.ref 105), some (.ref 122), some (.int i), none, none] [] S (F S)) : am_Ev E l (RL, cL_law_, 7, (some .boolean), [], room_1) (lw_ZE E) cs sl 40 [some (.ref 900), some (.ref 0), some (.ref 105), some (.ref 122), some (.int i), none, none] [.int x] S ((f_law_sw E S i x).bind F) := by
  unfold f_law_sw
  refine ev_eq am_ib ?_
  refine ev_split (fun c0 => ?_) (fun c0 => ?_)
  · refine ev_swI (tgt := 208) dL_law__40 (by rw [c0]; decide) (by rw [c0]; decide) (by rw [c0]; rfl) (by decide) ?_
    exact t_case_0 hl hcs hsl hN
  refine ev_eq am_ib ?_
  refine ev_split (fun c1 => ?_) (fun c1 => ?_)
  · refine ev_swI (tgt := 281) dL_law__40 (by rw [c1]; decide) (by rw [c1]; decide) (by rw [c1]; rfl) (by decide) ?_
    exact t_case_1 hl hcs hsl hN
  refine ev_eq am_ib ?_
  refine ev_split (fun c2 => ?_) (fun c2 => ?_)
  · refine ev_swI (tgt := 306) dL_law__40 (by rw [c2]; decide) (by rw [c2]; decide) (by rw [c2]; rfl) (by decide) ?_
    exact t_case_2 hl hcs hsl hN
  refine ev_eq am_ib ?_
  refine ev_split (fun c3 => ?_) (fun c3 => ?_)
  · refine ev_swI (tgt := 350) dL_law__40 (by rw [c3]; decide) (by rw [c3]; decide) (by rw [c3]; rfl) (by decide) ?_
    exact t_case_3 hl hcs hsl hN
  refine ev_eq am_ib ?_
  refine ev_split (fun c4 => ?_) (fun c4 => ?_)
  · refine ev_swI (tgt := 394) dL_law__40 (by rw [c4]; decide) (by rw [c4]; decide) (by rw [c4]; rfl) (by decide) ?_
    exact t_case_4 hl hcs hsl hN
  refine ev_eq am_ib ?_
  refine ev_split (fun c5 => ?_) (fun c5 => ?_)
  · refine ev_swI (tgt := 407) dL_law__40 (by rw [c5]; decide) (by rw [c5]; decide) (by rw [c5]; rfl) (by decide) ?_
    exact t_case_5 hl hcs hsl hN
  refine ev_eq am_ib ?_
  refine ev_split (fun c6 => ?_) (fun c6 => ?_)
  · refine ev_swI (tgt := 475) dL_law__40 (by rw [c6]; decide) (by rw [c6]; decide) (by rw [c6]; rfl) (by decide) ?_
    exact t_case_6 hl hcs hsl hN
  refine ev_eq am_ib ?_
  refine ev_split (fun c7 => ?_) (fun c7 => ?_)
  · refine ev_swI (tgt := 531) dL_law__40 (by rw [c7]; decide) (by rw [c7]; decide) (by rw [c7]; rfl) (by decide) ?_
    exact t_case_7 hl hcs hsl hN
  refine ev_eq am_ib ?_
  refine ev_split (fun c8 => ?_) (fun c8 => ?_)
  · refine ev_swI (tgt := 599) dL_law__40 (by rw [c8]; decide) (by rw [c8]; decide) (by rw [c8]; rfl) (by decide) ?_
    exact t_case_8 hl hcs hsl hN
  refine ev_eq am_ib ?_
  refine ev_split (fun c9 => ?_) (fun c9 => ?_)
  · refine ev_swI (tgt := 655) dL_law__40 (by rw [c9]; decide) (by rw [c9]; decide) (by rw [c9]; rfl) (by decide) ?_
    exact t_case_9 hl hcs hsl hN
  refine ev_eq am_ib ?_
  refine ev_split (fun c10 => ?_) (fun c10 => ?_)
  · refine ev_swI (tgt := 735) dL_law__40 (by rw [c10]; decide) (by rw [c10]; decide) (by rw [c10]; rfl) (by decide) ?_
    exact t_case_10 hl hcs hsl hN
  refine ev_eq am_ib ?_
  refine ev_split (fun c11 => ?_) (fun c11 => ?_)
  · refine ev_swI (tgt := 815) dL_law__40 (by rw [c11]; decide) (by rw [c11]; decide) (by rw [c11]; rfl) (by decide) ?_
    exact t_case_11 hl hcs hsl hN
  refine ev_eq am_ib ?_
  refine ev_split (fun c12 => ?_) (fun c12 => ?_)
  · refine ev_swI (tgt := 828) dL_law__40 (by rw [c12]; decide) (by rw [c12]; decide) (by rw [c12]; rfl) (by decide) ?_
    exact t_case_12 hl hcs hsl hN
  refine ev_eq am_ib ?_
  refine ev_split (fun c13 => ?_) (fun c13 => ?_)
  · refine ev_swI (tgt := 841) dL_law__40 (by rw [c13]; decide) (by rw [c13]; decide) (by rw [c13]; rfl) (by decide) ?_
    exact t_case_13 hl hcs hsl hN
  refine ev_eq am_ib ?_
  refine ev_split (fun c14 => ?_) (fun c14 => ?_)
  · refine ev_swI (tgt := 909) dL_law__40 (by rw [c14]; decide) (by rw [c14]; decide) (by rw [c14]; rfl) (by decide) ?_
    exact t_case_14 hl hcs hsl hN
  refine ev_eq am_ib ?_
  refine ev_split (fun c15 => ?_) (fun c15 => ?_)
  · refine ev_swI (tgt := 977) dL_law__40 (by rw [c15]; decide) (by rw [c15]; decide) (by rw [c15]; rfl) (by decide) ?_
    exact t_case_15 hl hcs hsl hN
  refine ev_eq am_ib ?_
  refine ev_split (fun c16 => ?_) (fun c16 => ?_)
  · refine ev_swI (tgt := 1061) dL_law__40 (by rw [c16]; decide) (by rw [c16]; decide) (by rw [c16]; rfl) (by decide) ?_
    exact t_case_16 hl hcs hsl hN
  refine ev_eq am_ib ?_
  refine ev_split (fun c17 => ?_) (fun c17 => ?_)
  · refine ev_swI (tgt := 1117) dL_law__40 (by rw [c17]; decide) (by rw [c17]; decide) (by rw [c17]; rfl) (by decide) ?_
    exact t_case_17 hl hcs hsl hN
  refine ev_eq am_ib ?_
  refine ev_split (fun c18 => ?_) (fun c18 => ?_)
  · refine ev_swI (tgt := 1192) dL_law__40 (by rw [c18]; decide) (by rw [c18]; decide) (by rw [c18]; rfl) (by decide) ?_
    exact t_case_18 hl hcs hsl hN
  refine ev_eq am_ib ?_
  refine ev_split (fun c19 => ?_) (fun c19 => ?_)
  · refine ev_swI (tgt := 1272) dL_law__40 (by rw [c19]; decide) (by rw [c19]; decide) (by rw [c19]; rfl) (by decide) ?_
    exact t_case_19 hl hcs hsl hN
  refine ev_eq am_ib ?_
  refine ev_split (fun c20 => ?_) (fun c20 => ?_)
  · refine ev_swI (tgt := 1332) dL_law__40 (by rw [c20]; decide) (by rw [c20]; decide) (by rw [c20]; rfl) (by decide) ?_
    exact t_case_20 hl hcs hsl hN
  refine ev_eq am_ib ?_
  refine ev_split (fun c21 => ?_) (fun c21 => ?_)
  · refine ev_swI (tgt := 1357) dL_law__40 (by rw [c21]; decide) (by rw [c21]; decide) (by rw [c21]; rfl) (by decide) ?_
    exact t_case_21 hl hcs hsl hN
  refine ev_eq am_ib ?_
  refine ev_split (fun c22 => ?_) (fun c22 => ?_)
  · refine ev_swI (tgt := 1413) dL_law__40 (by rw [c22]; decide) (by rw [c22]; decide) (by rw [c22]; rfl) (by decide) ?_
    exact t_case_22 hl hcs hsl hN
  refine ev_eq am_ib ?_
  refine ev_split (fun c23 => ?_) (fun c23 => ?_)
  · refine ev_swI (tgt := 1493) dL_law__40 (by rw [c23]; decide) (by rw [c23]; decide) (by rw [c23]; rfl) (by decide) ?_
    exact t_case_23 hl hcs hsl hN
  refine ev_eq am_ib ?_
  refine ev_split (fun c24 => ?_) (fun c24 => ?_)
  · refine ev_swI (tgt := 1561) dL_law__40 (by rw [c24]; decide) (by rw [c24]; decide) (by rw [c24]; rfl) (by decide) ?_
    exact t_case_24 hl hcs hsl hN
  refine ev_eq am_ib ?_
  refine ev_split (fun c25 => ?_) (fun c25 => ?_)
  · refine ev_swI (tgt := 1629) dL_law__40 (by rw [c25]; decide) (by rw [c25]; decide) (by rw [c25]; rfl) (by decide) ?_
    exact t_case_25 hl hcs hsl hN
  refine ev_eq am_ib ?_
  refine ev_split (fun c26 => ?_) (fun c26 => ?_)
  · refine ev_swI (tgt := 1709) dL_law__40 (by rw [c26]; decide) (by rw [c26]; decide) (by rw [c26]; rfl) (by decide) ?_
    exact t_case_26 hl hcs hsl hN
  refine ev_eq am_ib ?_
  refine ev_split (fun c27 => ?_) (fun c27 => ?_)
  · refine ev_swI (tgt := 1805) dL_law__40 (by rw [c27]; decide) (by rw [c27]; decide) (by rw [c27]; rfl) (by decide) ?_
    exact t_case_27 hl hcs hsl hN
  refine ev_eq am_ib ?_
  refine ev_split (fun c28 => ?_) (fun c28 => ?_)
  · refine ev_swI (tgt := 1861) dL_law__40 (by rw [c28]; decide) (by rw [c28]; decide) (by rw [c28]; rfl) (by decide) ?_
    exact t_case_28 hl hcs hsl hN
  refine ev_eq am_ib ?_
  refine ev_split (fun c29 => ?_) (fun c29 => ?_)
  · refine ev_swI (tgt := 1941) dL_law__40 (by rw [c29]; decide) (by rw [c29]; decide) (by rw [c29]; rfl) (by decide) ?_
    exact t_case_29 hl hcs hsl hN
  refine ev_eq am_ib ?_
  refine ev_split (fun c30 => ?_) (fun c30 => ?_)
  · refine ev_swI (tgt := 2009) dL_law__40 (by rw [c30]; decide) (by rw [c30]; decide) (by rw [c30]; rfl) (by decide) ?_
    exact t_case_30 hl hcs hsl hN
  refine ev_eq am_ib ?_
  refine ev_split (fun c31 => ?_) (fun c31 => ?_)
  · refine ev_swI (tgt := 2065) dL_law__40 (by rw [c31]; decide) (by rw [c31]; decide) (by rw [c31]; rfl) (by decide) ?_
    exact t_case_31 hl hcs hsl hN
  refine ev_eq am_ib ?_
  refine ev_split (fun c32 => ?_) (fun c32 => ?_)
  · refine ev_swI (tgt := 2157) dL_law__40 (by rw [c32]; decide) (by rw [c32]; decide) (by rw [c32]; rfl) (by decide) ?_
    exact t_case_32 hl hcs hsl hN
  refine ev_eq am_ib ?_
  refine ev_split (fun c33 => ?_) (fun c33 => ?_)
  · refine ev_swI (tgt := 2237) dL_law__40 (by rw [c33]; decide) (by rw [c33]; decide) (by rw [c33]; rfl) (by decide) ?_
    exact t_case_33 hl hcs hsl hN
  refine ev_eq am_ib ?_
  refine ev_split (fun c34 => ?_) (fun c34 => ?_)
  · refine ev_swI (tgt := 2333) dL_law__40 (by rw [c34]; decide) (by rw [c34]; decide) (by rw [c34]; rfl) (by decide) ?_
    exact t_case_34 hl hcs hsl hN
  refine ev_eq am_ib ?_
  refine ev_split (fun c35 => ?_) (fun c35 => ?_)
  · refine ev_swI (tgt := 2413) dL_law__40 (by rw [c35]; decide) (by rw [c35]; decide) (by rw [c35]; rfl) (by decide) ?_
    exact t_case_35 hl hcs hsl hN
  refine ev_eq am_ib ?_
  refine ev_split (fun c36 => ?_) (fun c36 => ?_)
  · refine ev_swI (tgt := 2424) dL_law__40 (by rw [c36]; decide) (by rw [c36]; decide) (by rw [c36]; rfl) (by decide) ?_
    exact t_case_36 hl hcs hsl hN
  refine ev_eq am_ib ?_
  refine ev_split (fun c37 => ?_) (fun c37 => ?_)
  · refine ev_swI (tgt := 2437) dL_law__40 (by rw [c37]; decide) (by rw [c37]; decide) (by rw [c37]; rfl) (by decide) ?_
    exact t_case_37 hl hcs hsl hN
  refine ev_swO (tgt := 2462) dL_law__40 (by have z0 := am_neI c0 (z := 0) (by decide); have z1 := am_neI c1 (z := 1) (by decide); have z2 := am_neI c2 (z := 2) (by decide); have z3 := am_neI c3 (z := 3) (by decide); have z4 := am_neI c4 (z := 4) (by decide); have z5 := am_neI c5 (z := 5) (by decide); have z6 := am_neI c6 (z := 6) (by decide); have z7 := am_neI c7 (z := 7) (by decide); have z8 := am_neI c8 (z := 8) (by decide); have z9 := am_neI c9 (z := 9) (by decide); have z10 := am_neI c10 (z := 10) (by decide); have z11 := am_neI c11 (z := 11) (by decide); have z12 := am_neI c12 (z := 12) (by decide); have z13 := am_neI c13 (z := 13) (by decide); have z14 := am_neI c14 (z := 14) (by decide); have z15 := am_neI c15 (z := 15) (by decide); have z16 := am_neI c16 (z := 16) (by decide); have z17 := am_neI c17 (z := 17) (by decide); have z18 := am_neI c18 (z := 18) (by decide); have z19 := am_neI c19 (z := 19) (by decide); have z20 := am_neI c20 (z := 20) (by decide); have z21 := am_neI c21 (z := 21) (by decide); have z22 := am_neI c22 (z := 22) (by decide); have z23 := am_neI c23 (z := 23) (by decide); have z24 := am_neI c24 (z := 24) (by decide); have z25 := am_neI c25 (z := 25) (by decide); have z26 := am_neI c26 (z := 26) (by decide); have z27 := am_neI c27 (z := 27) (by decide); have z28 := am_neI c28 (z := 28) (by decide); have z29 := am_neI c29 (z := 29) (by decide); have z30 := am_neI c30 (z := 30) (by decide); have z31 := am_neI c31 (z := 31) (by decide); have z32 := am_neI c32 (z := 32) (by decide); have z33 := am_neI c33 (z := 33) (by decide); have z34 := am_neI c34 (z := 34) (by decide); have z35 := am_neI c35 (z := 35) (by decide); have z36 := am_neI c36 (z := 36) (by decide); have z37 := am_neI c37 (z := 37) (by decide); omega) (by decide) ?_
  exact ev_widen (by omega) (by omega) (hN S)
def f_law (E : am_E) : Nat → am_S → Int32 → Option Unit
  | 0, _, _ => none
  | n + 1, S, i => if Int32.ofNat E.2.2.2.2.2.1 - 6 < i then some () else (am_sx E i).bind (fun v => (f_law_sw E S i (v &&& 63)).bind (fun S' => f_law E n S' (i + 6)))
set_option maxRecDepth 20000 in
theorem t_law {E : am_E} {l : Launch} (hl : l.stackTraces = false) : ∀ (n cs sl : Nat) (S : am_S) (i : Int32), cs + 8 * n ≤ 500000 → sl + 48 * n ≤ 7000000 → am_Ev E l (RL, cL_law_, 7, (some .boolean), [], room_1) (lw_ZE E) cs sl 23 [some (.ref 900), some (.ref 0), some (.ref 105), some (.ref 122), some (.int i), none, none] [] S (f_law E n S i)
  | 0, cs, sl, S, i, _, _ => ev_none
  | n + 1, cs, sl, S, i, h1, h2 => by
    unfold f_law
    refine ev_iload dL_law__23 rfl ?_
    refine ev_aload_n dL_law__25 rfl ?_
    refine ev_slen dL_law__26 ?_
    refine ev_bipush (v := 6) dL_law__27 (by decide) ?_
    refine ev_isub dL_law__29 ?_
    refine ev_icmp_gt (tgt := 2468) dL_law__30 (by decide) (fun _ => ?_) (fun _ => ?_)
    · refine ev_iconst (v := 1) dL_law__2468 (by decide) ?_
      exact ev_lawret dL_law__2469 (by omega) (by omega)
    · refine ev_aload_n dL_law__33 rfl ?_
      refine ev_iload dL_law__34 rfl ?_
      refine ev_sld dL_law__36 (fun v hv => ?_)
      refine ev_bipush (v := 63) dL_law__37 (by decide) ?_
      refine ev_iand dL_law__39 ?_
      refine t_law_sw hl (by omega) (by omega) (fun S' => ?_)
      refine ev_iinc (v := i + 6) dL_law__2462 (am_lt rfl) rfl rfl ?_
      refine ev_goto (tgt := 23) dL_law__2465 (by decide) ?_
      exact t_law hl n (cs + 8) (sl + 48) S' (i + 6) (by omega) (by omega)
theorem cn_fitL {cs sl d mc ms maxL : Nat} (h1 : cs ≤ 501000) (h2 : sl ≤ 7010000) (hd : d ≤ 1000) (hm : maxL ≤ 45) (h3 : mc ≤ 200) (h4 : ms ≤ 10000) : am_fitR room_1 cs sl d mc ms maxL := by
  unfold am_fitR am_rm room_1
  refine ⟨⟨?_, ?_⟩, ?_, ?_⟩
  · show d + 8 + 1 ≤ 2048; omega
  · show 8 + (maxL + 11) + (64 * d + 300) ≤ 84000; omega
  · show cs + mc ≤ 601024; omega
  · show sl + ms ≤ 7293034; omega
def cn_0 : am_S := (fun _ _ => 0, fun _ _ => none)
theorem cn_0_df : cn_df cn_0 0 := fun _ _ _ => ⟨rfl, rfl⟩
/-- the state behind the two constructors -/
def st_S0 : am_S := cn_ups cn_0 (([] ++ cu_X11_0) ++ cu_X12_105)
/-- what the law's own walk stands on, beside the tables -/
def lw_K (E : am_E) : Method → Code → State → Prop := fun _ c s => c.exceptionTable.toList = [] ∧ am_I E s ∧ E.2.2.2.1 = s.heap.size
theorem cn_am {E : am_E} {l : Launch} {cs sl pc : Nat} {L : List (Option Value)} {S : am_S} {e : Option Unit} {Y : am_Y} (hl : l.stackTraces = false) (hY : Y.2.2.2.2.1 = []) (he : e = some ()) (h : am_Ev E l Y (lw_ZE E) cs sl pc L [] S e) : cn_Ev E l (lw_K E) Y (fun below a s => lw_Z below a s) cs sl pc L [] am_N S := by
  intro p en s m args below meth c C H locs ls hP hz hS hl2 T hT X
  obtain ⟨k1, k2, k3⟩ := C.2.2.2.2.2.2.2.1
  obtain ⟨t, a1, b1⟩ := h () he p en s m args below meth c ⟨C.1, C.2.1, C.2.2.1, C.2.2.2.1, C.2.2.2.2.1, C.2.2.2.2.2.1, C.2.2.2.2.2.2.1, hl, k2, by rw [k1, hY]; rfl⟩ H locs ls hP hS hl2 T hT X
  exact ⟨t, a1, b1 k3⟩
set_option maxRecDepth 20000 in
/-- the law's beginning: the two objects, the row for answers -/
theorem t_start {E : am_E} {l : Launch} (hl : l.stackTraces = false) (hp : f_law E 513 st_S0 0 = some ()) : cn_Ev E l (lw_K E) (RL, cL_law_, 7, (some .boolean), [], room_1) (fun below a s => lw_Z below a s) 0 0 0 [some (.ref 900), none, none, none, none, none, none] [] 0 cn_0 := by
  show cn_Ev E l (lw_K E) (RL, cL_law_, 7, (some .boolean), [], room_1) (fun below a s => lw_Z below a s) 0 0 0 [some (.ref 900), none, none, none, none, none, none] [] 0 (cn_ups cn_0 [])
  refine cn_new uw_X11 rfl tyX11 tyX11_ok (am_G_t (i := 29) (by decide +kernel) rfl) it_X11 in_X11 (by decide) (by decide) (by decide) dv_X11 (fun j => cn_0_df 0 (Nat.le_refl _) j) ⟨by decide, by decide⟩ dL_law__0 ?_
  refine cn_dup dL_law__3 rfl ?_
  refine cn_callI cm_X11_init (am_G_t (i := 31) (by decide +kernel) rfl) im_X11_init in_X11 rfl ⟨by decide, by decide, by decide +kernel⟩ dL_law__4 (am_le rfl) (cn_fitL (by decide) (by decide) (by decide) (by decide) (by decide) (by decide)) (tn_X11_0 hl (S := cn_ups cn_0 []) cn_0_df) ?_
  rw [cn_ups_app]
  refine cn_astore_n dL_law__7 (am_lt rfl) ?_
  refine cn_new uw_X12 rfl tyX12 tyX12_ok (am_G_t (i := 1408) (by decide +kernel) rfl) it_X12 in_X12 (by decide) (by decide) (by decide) dv_X12 (fun j => (cn_df_ups _ _ cn_0_df (by decide) (by decide +kernel)) 105 (Nat.le_refl _) j) ⟨by decide, by decide⟩ dL_law__8 ?_
  refine cn_dup dL_law__11 rfl ?_
  refine cn_callI cm_X12_init (am_G_t (i := 1410) (by decide +kernel) rfl) im_X12_init in_X12 rfl ⟨by decide, by decide, by decide +kernel⟩ dL_law__12 (am_le rfl) (cn_fitL (by decide) (by decide) (by decide) (by decide) (by decide) (by decide)) (tn_X12_105 hl (cn_df_ups _ _ cn_0_df (by decide) (by decide +kernel))) ?_
  rw [cn_ups_app]
  refine cn_astore_n dL_law__15 (am_lt rfl) ?_
  refine cn_iconst (v := 1) dL_law__16 (by decide) ?_
  refine cn_newa (t := 4) (N := 1) (ty := .long) rfl (am_G_t (i := 1946) (by decide +kernel) rfl) (fun _ => rfl) (fun _ _ h => h) (by decide) (by decide) (fun E S h0 H h => cn_ent_l (by decide) (by decide) h0 h) (by decide) (by decide) (by decide) (fun j => ((cn_df_ups _ _ cn_0_df (by decide) (by decide +kernel)) 122 (Nat.le_refl _) j).1) ⟨by decide, by decide⟩ dL_law__17 ?_
  refine cn_astore_n dL_law__19 (am_lt rfl) ?_
  refine cn_iconst (v := 0) dL_law__20 (by decide) ?_
  refine cn_istore dL_law__21 (am_lt rfl) ?_
  exact cn_am hl rfl hp (t_law hl 513 _ _ _ _ (by decide) (by decide))
theorem cn_Ev0 {E : am_E} {l : Launch} {K : Method → Code → State → Prop} {Y : am_Y} {Q : List Frame → Array Value → State → State → Prop} {cs sl pc : Nat} {L : List (Option Value)} {S : am_S} (h : cn_Ev E l K Y Q cs sl pc L [] 0 S) {p : Program} {en : Env} {s : State} {m : MethodId} {args : Array Value} {below : List Frame} {meth : Method} {c : Code} (C : cn_C E K Y p s m args meth c) (hz : s.heap.size = E.2.2.2.1) {ls : Array Slot} (hl : am_has E ls Y.2.2.1 L) : W p l en Y.2.2.2.2.2 s m args below meth c s.heap [] cs sl (Q below args s) (F0 m pc ls []) :=
  h p en s m args below meth c C s.heap [] ls (fun k q hq => by cases hq) (by rw [hz]; rfl) va_S.rf hl
/-- from the entry, where the pure law says true -/
theorem whole_from {p : Program} {e : Env} {s : State} {m : MethodId} {below : List Frame} {meth : Method} {c : Code} (l : Launch) (hl : l.stackTraces = false) {b L : Nat} {xs : Nat → Int32} (hex : c.exceptionTable.toList = []) (C0 : lw_At p s m meth c b L xs) (hpure : ∀ E : am_E, E.2.2.2.2.2.1 = L → f_law E 513 st_S0 0 = some ()) : W p l e room_1 s m #[Value.ref b] below meth c s.heap [] 0 0 (lw_Z below #[Value.ref b] s) (entryFrame m ([Value.ref b] : List Value).toArray 7) := by
  obtain ⟨E, h1, h2, h3, h4, h5, hI⟩ := st_I C0
  obtain ⟨c1, c2, c3, c4, c5, hts, c7, c8, c9, c10⟩ := C0
  subst h3
  rw [lg_entry_eq]
  have hent := am_entry (E := E) (as := [.ref 900]) (nL := 7) (am_fc rfl am_fn) (by decide)
  exact cn_Ev0 (t_start hl (hpure E h4)) ⟨c1, c2, c4, c3, c9, c5, st_G hts, ⟨hex, hI, h1⟩, hI.1, h2, hI.2.2.1⟩ h1.symm hent

