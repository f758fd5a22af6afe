def f_case_0 (E : am_E) (S : am_S) (i : Int32) : Option am_S :=
  ((am_sx E (i + 1)).bind (fun v1 => ((am_sx E (i + 2)).bind (fun v2 => ((am_sx E (i + 3)).bind (fun v3 => ((am_sx E (i + 4)).bind (fun v4 => ((am_sx E (i + 5)).bind (fun v5 => ((f_X11_feed S 0 v1 v2 v3 v4 v5).bind (fun y6 => ((am_sx E (i + 1)).bind (fun v7 => ((am_sx E (i + 2)).bind (fun v8 => ((am_sx E (i + 3)).bind (fun v9 => ((am_sx E (i + 4)).bind (fun v10 => ((am_sx E (i + 5)).bind (fun v11 => ((f_X12_feed (y6.2, S.2) 105 v7 v8 v9 v10 v11).bind (fun y12 => (if y6.1 = y12.1 then some (y12.2, S.2) else none)))))))))))))))))))))))))
set_option maxRecDepth 20000 in
theorem t_case_0 {β : Type} {E : am_E} {l : Launch} (hl : l.stackTraces = false) {Z : List Frame → Array Value → State → β → State → Prop} {cs sl : Nat} (hcs : cs ≤ 500000) (hsl : sl ≤ 7000000) {S : am_S} {i : Int32} {F : am_S → Option β} (hN : ∀ S, am_Ev E l (RL, cL_law_, 7, (some .boolean), [], room_1) Z (cs + 8) (sl + 48) 2462 [some (.ref 900), some (.ref 0), some (.ref 105), some (.ref 122), some (.int i), none, none] [] S (F S)) : am_Ev E l (RL, cL_law_, 7, (some .boolean), [], room_1) Z cs sl 208 [some (.ref 900), some (.ref 0), some (.ref 105), some (.ref 122), some (.int i), none, none] [] S ((f_case_0 E S i).bind F) := by
  unfold f_case_0
  refine ev_aload_n dL_law__208 rfl ?_
  refine ev_aload_n dL_law__209 rfl ?_
  refine ev_iload dL_law__210 rfl ?_
  refine ev_iconst (v := 1) dL_law__212 (by decide) ?_
  refine ev_iadd dL_law__213 ?_
  refine ev_eq (Option.bind_assoc _ _ _) ?_
  refine ev_sld dL_law__214 (fun v1 h1 => ?_)
  refine ev_aload_n dL_law__215 rfl ?_
  refine ev_iload dL_law__216 rfl ?_
  refine ev_iconst (v := 2) dL_law__218 (by decide) ?_
  refine ev_iadd dL_law__219 ?_
  refine ev_eq (Option.bind_assoc _ _ _) ?_
  refine ev_sld dL_law__220 (fun v2 h2 => ?_)
  refine ev_aload_n dL_law__221 rfl ?_
  refine ev_iload dL_law__222 rfl ?_
  refine ev_iconst (v := 3) dL_law__224 (by decide) ?_
  refine ev_iadd dL_law__225 ?_
  refine ev_eq (Option.bind_assoc _ _ _) ?_
  refine ev_sld dL_law__226 (fun v3 h3 => ?_)
  refine ev_aload_n dL_law__227 rfl ?_
  refine ev_iload dL_law__228 rfl ?_
  refine ev_iconst (v := 4) dL_law__230 (by decide) ?_
  refine ev_iadd dL_law__231 ?_
  refine ev_eq (Option.bind_assoc _ _ _) ?_
  refine ev_sld dL_law__232 (fun v4 h4 => ?_)
  refine ev_aload_n dL_law__233 rfl ?_
  refine ev_iload dL_law__234 rfl ?_
  refine ev_iconst (v := 5) dL_law__236 (by decide) ?_
  refine ev_iadd dL_law__237 ?_
  refine ev_eq (Option.bind_assoc _ _ _) ?_
  refine ev_sld dL_law__238 (fun v5 h5 => ?_)
  refine ev_eq (Option.bind_assoc _ _ _) ?_
  refine ev_callWI (am_callV (as := [.int v1, .int v2, .int v3, .int v4, .int v5]) (o := 0) (st := []) cv_L_117 dL_law__239 (by decide) rfl (am_le rfl) (am_fitL (by omega) (by omega) (by decide) (by decide) (by decide) (by decide)) (t_X11_feed hl (by decide))) (fun y6 h6 => ?_)
  refine ev_aload_n dL_law__242 rfl ?_
  refine ev_aload_n dL_law__243 rfl ?_
  refine ev_iload dL_law__244 rfl ?_
  refine ev_iconst (v := 1) dL_law__246 (by decide) ?_
  refine ev_iadd dL_law__247 ?_
  refine ev_eq (Option.bind_assoc _ _ _) ?_
  refine ev_sld dL_law__248 (fun v7 h7 => ?_)
  refine ev_aload_n dL_law__249 rfl ?_
  refine ev_iload dL_law__250 rfl ?_
  refine ev_iconst (v := 2) dL_law__252 (by decide) ?_
  refine ev_iadd dL_law__253 ?_
  refine ev_eq (Option.bind_assoc _ _ _) ?_
  refine ev_sld dL_law__254 (fun v8 h8 => ?_)
  refine ev_aload_n dL_law__255 rfl ?_
  refine ev_iload dL_law__256 rfl ?_
  refine ev_iconst (v := 3) dL_law__258 (by decide) ?_
  refine ev_iadd dL_law__259 ?_
  refine ev_eq (Option.bind_assoc _ _ _) ?_
  refine ev_sld dL_law__260 (fun v9 h9 => ?_)
  refine ev_aload_n dL_law__261 rfl ?_
  refine ev_iload dL_law__262 rfl ?_
  refine ev_iconst (v := 4) dL_law__264 (by decide) ?_
  refine ev_iadd dL_law__265 ?_
  refine ev_eq (Option.bind_assoc _ _ _) ?_
  refine ev_sld dL_law__266 (fun v10 h10 => ?_)
  refine ev_aload_n dL_law__267 rfl ?_
  refine ev_iload dL_law__268 rfl ?_
  refine ev_iconst (v := 5) dL_law__270 (by decide) ?_
  refine ev_iadd dL_law__271 ?_
  refine ev_eq (Option.bind_assoc _ _ _) ?_
  refine ev_sld dL_law__272 (fun v11 h11 => ?_)
  refine ev_eq (Option.bind_assoc _ _ _) ?_
  refine ev_callWI (am_callV (as := [.int v7, .int v8, .int v9, .int v10, .int v11]) (o := 105) (st := [.int y6.1]) cv_L_121 dL_law__273 (by decide) rfl (am_le rfl) (am_fitL (by omega) (by omega) (by decide) (by decide) (by decide) (by decide)) (t_X12_feed hl (by decide))) (fun y12 h12 => ?_)
  refine ev_eq am_ib ?_
  refine ev_icmp_eq (tgt := 2462) dL_law__276 (by decide) (fun c13 => ?_) (fun c13 => ?_)
  · exact ev_widen (by omega) (by omega) (ev_leaf (am_wk (am_wk (am_wk (am_wk (am_wk (am_wf (am_wf am_wn))))))) (hN (y12.2, S.2)))
  · refine ev_iconst (v := 0) dL_law__279 (by decide) ?_
    exact ev_none
def f_case_1 (E : am_E) (S : am_S) (i : Int32) : Option am_S :=
  ((am_sx E (i + 1)).bind (fun v1 => ((f_X11_end S 0 v1).bind (fun y2 => ((am_sx E (i + 1)).bind (fun v3 => ((f_X12_end (y2.2, S.2) 105 v3).bind (fun y4 => (if y2.1 = y4.1 then some (y4.2, S.2) else none)))))))))
set_option maxRecDepth 20000 in
theorem t_case_1 {β : Type} {E : am_E} {l : Launch} (hl : l.stackTraces = false) {Z : List Frame → Array Value → State → β → State → Prop} {cs sl : Nat} (hcs : cs ≤ 500000) (hsl : sl ≤ 7000000) {S : am_S} {i : Int32} {F : am_S → Option β} (hN : ∀ S, am_Ev E l (RL, cL_law_, 7, (some .boolean), [], room_1) Z (cs + 8) (sl + 48) 2462 [some (.ref 900), some (.ref 0), some (.ref 105), some (.ref 122), some (.int i), none, none] [] S (F S)) : am_Ev E l (RL, cL_law_, 7, (some .boolean), [], room_1) Z cs sl 281 [some (.ref 900), some (.ref 0), some (.ref 105), some (.ref 122), some (.int i), none, none] [] S ((f_case_1 E S i).bind F) := by
  unfold f_case_1
  refine ev_aload_n dL_law__281 rfl ?_
  refine ev_aload_n dL_law__282 rfl ?_
  refine ev_iload dL_law__283 rfl ?_
  refine ev_iconst (v := 1) dL_law__285 (by decide) ?_
  refine ev_iadd dL_law__286 ?_
  refine ev_eq (Option.bind_assoc _ _ _) ?_
  refine ev_sld dL_law__287 (fun v1 h1 => ?_)
  refine ev_eq (Option.bind_assoc _ _ _) ?_
  refine ev_callWI (am_callV (as := [.int v1]) (o := 0) (st := []) cv_L_122 dL_law__288 (by decide) rfl (am_le rfl) (am_fitL (by omega) (by omega) (by decide) (by decide) (by decide) (by decide)) (t_X11_end hl (by decide))) (fun y2 h2 => ?_)
  refine ev_aload_n dL_law__291 rfl ?_
  refine ev_aload_n dL_law__292 rfl ?_
  refine ev_iload dL_law__293 rfl ?_
  refine ev_iconst (v := 1) dL_law__295 (by decide) ?_
  refine ev_iadd dL_law__296 ?_
  refine ev_eq (Option.bind_assoc _ _ _) ?_
  refine ev_sld dL_law__297 (fun v3 h3 => ?_)
  refine ev_eq (Option.bind_assoc _ _ _) ?_
  refine ev_callWI (am_callV (as := [.int v3]) (o := 105) (st := [.int y2.1]) cv_L_126 dL_law__298 (by decide) rfl (am_le rfl) (am_fitL (by omega) (by omega) (by decide) (by decide) (by decide) (by decide)) (t_X12_end hl (by decide))) (fun y4 h4 => ?_)
  refine ev_eq am_ib ?_
  refine ev_icmp_eq (tgt := 2462) dL_law__301 (by decide) (fun c5 => ?_) (fun c5 => ?_)
  · exact ev_widen (by omega) (by omega) (ev_leaf (am_wk (am_wk (am_wk (am_wk (am_wk (am_wf (am_wf am_wn))))))) (hN (y4.2, S.2)))
  · refine ev_iconst (v := 0) dL_law__304 (by decide) ?_
    exact ev_none
def f_case_2 (E : am_E) (S : am_S) (i : Int32) : Option am_S :=
  (am_xI (f_L_town S 0 122) (fun v1 S1 => ((f_X12_town S1 105).bind (fun y2 => ((f_X12_thrown (y2.2, S1.2) 105).bind (fun v3 => (if v3 = v1 then (if v1 = 0 then ((am_ld y2.2 122 0).bind (fun v6 => (if (lg_cmp (v6).toInt64 (y2.1).toInt64) = 0 then some (y2.2, S1.2) else none))) else some (y2.2, S1.2)) else none)))))))
set_option maxRecDepth 20000 in
theorem t_case_2 {β : Type} {E : am_E} {l : Launch} (hl : l.stackTraces = false) {Z : List Frame → Array Value → State → β → State → Prop} {cs sl : Nat} (hcs : cs ≤ 500000) (hsl : sl ≤ 7000000) {S : am_S} {i : Int32} {F : am_S → Option β} (hN : ∀ S, am_Ev E l (RL, cL_law_, 7, (some .boolean), [], room_1) Z (cs + 8) (sl + 48) 2462 [some (.ref 900), some (.ref 0), some (.ref 105), some (.ref 122), some (.int i), none, none] [] S (F S)) : am_Ev E l (RL, cL_law_, 7, (some .boolean), [], room_1) Z cs sl 306 [some (.ref 900), some (.ref 0), some (.ref 105), some (.ref 122), some (.int i), none, none] [] S ((f_case_2 E S i).bind F) := by
  unfold f_case_2
  refine ev_aload_n dL_law__306 rfl ?_
  refine ev_aload_n dL_law__307 rfl ?_
  refine ev_callXI (am_callSH (as := [.ref 0, .ref 122]) (st := []) ct_L_127 dL_law__308 rfl (am_le rfl) (am_fitL (by omega) (by omega) (by decide) (by decide) (by decide) (by decide)) (t_L_town hl (by decide) (by decide))) (fun v1 S1 h1 => ?_)
  refine ev_istore dL_law__311 (am_lt rfl) ?_
  refine ev_aload_n dL_law__313 rfl ?_
  refine ev_eq (Option.bind_assoc _ _ _) ?_
  refine ev_callWI (am_callV (as := []) (o := 105) (st := []) cv_L_132 dL_law__314 (by decide) rfl (am_le rfl) (am_fitL (by omega) (by omega) (by decide) (by decide) (by decide) (by decide)) (t_X12_town hl (by decide))) (fun y2 h2 => ?_)
  refine ev_istore dL_law__317 (am_lt rfl) ?_
  refine ev_aload_n dL_law__319 rfl ?_
  refine ev_eq (Option.bind_assoc _ _ _) ?_
  refine ev_callP (am_callV (as := []) (o := 105) (st := []) cv_L_133 dL_law__320 (by decide) rfl (am_le rfl) (am_fitL (by omega) (by omega) (by decide) (by decide) (by decide) (by decide)) (t_X12_thrown hl (by decide))) (fun v3 h3 => ?_)
  refine ev_iload dL_law__323 rfl ?_
  refine ev_eq am_ib ?_
  refine ev_icmp_eq (tgt := 330) dL_law__325 (by decide) (fun c4 => ?_) (fun c4 => ?_)
  · refine ev_iload dL_law__330 rfl ?_
    refine ev_eq am_ib ?_
    refine ev_if_ne (tgt := 347) dL_law__332 (by decide) (fun c5 => ?_) (fun c5 => ?_)
    · refine ev_goto (tgt := 2462) dL_law__347 (by decide) ?_
      exact ev_widen (by omega) (by omega) (ev_leaf (am_wk (am_wk (am_wk (am_wk (am_wk (am_wf (am_wf am_wn))))))) (hN (y2.2, S1.2)))
    · refine ev_aload_n dL_law__335 rfl ?_
      refine ev_iconst (v := 0) dL_law__336 (by decide) ?_
      refine ev_eq (Option.bind_assoc _ _ _) ?_
      refine ev_lald dL_law__337 (by decide) (fun v6 h6 => ?_)
      refine ev_iload dL_law__338 rfl ?_
      refine ev_i2l dL_law__340 ?_
      refine ev_lcmp dL_law__341 ?_
      refine ev_eq am_ib ?_
      refine ev_if_eq (tgt := 347) dL_law__342 (by decide) (fun c7 => ?_) (fun c7 => ?_)
      · refine ev_goto (tgt := 2462) dL_law__347 (by decide) ?_
        exact ev_widen (by omega) (by omega) (ev_leaf (am_wk (am_wk (am_wk (am_wk (am_wk (am_wf (am_wf am_wn))))))) (hN (y2.2, S1.2)))
      · refine ev_iconst (v := 0) dL_law__345 (by decide) ?_
        exact ev_none
  · refine ev_iconst (v := 0) dL_law__328 (by decide) ?_
    exact ev_none
def f_case_3 (E : am_E) (S : am_S) (i : Int32) : Option am_S :=
  (am_xI (f_L_law S 0 122) (fun v1 S1 => ((f_X12_law S1 105).bind (fun y2 => ((f_X12_thrown (y2.2, S1.2) 105).bind (fun v3 => (if v3 = v1 then (if v1 = 0 then ((am_ld y2.2 122 0).bind (fun v6 => (if (lg_cmp (v6).toInt64 (y2.1).toInt64) = 0 then some (y2.2, S1.2) else none))) else some (y2.2, S1.2)) else none)))))))
set_option maxRecDepth 20000 in
theorem t_case_3 {β : Type} {E : am_E} {l : Launch} (hl : l.stackTraces = false) {Z : List Frame → Array Value → State → β → State → Prop} {cs sl : Nat} (hcs : cs ≤ 500000) (hsl : sl ≤ 7000000) {S : am_S} {i : Int32} {F : am_S → Option β} (hN : ∀ S, am_Ev E l (RL, cL_law_, 7, (some .boolean), [], room_1) Z (cs + 8) (sl + 48) 2462 [some (.ref 900), some (.ref 0), some (.ref 105), some (.ref 122), some (.int i), none, none] [] S (F S)) : am_Ev E l (RL, cL_law_, 7, (some .boolean), [], room_1) Z cs sl 350 [some (.ref 900), some (.ref 0), some (.ref 105), some (.ref 122), some (.int i), none, none] [] S ((f_case_3 E S i).bind F) := by
  unfold f_case_3
  refine ev_aload_n dL_law__350 rfl ?_
  refine ev_aload_n dL_law__351 rfl ?_
  refine ev_callXI (am_callSH (as := [.ref 0, .ref 122]) (st := []) ct_L_136 dL_law__352 rfl (am_le rfl) (am_fitL (by omega) (by omega) (by decide) (by decide) (by decide) (by decide)) (t_L_law hl (by decide) (by decide))) (fun v1 S1 h1 => ?_)
  refine ev_istore dL_law__355 (am_lt rfl) ?_
  refine ev_aload_n dL_law__357 rfl ?_
  refine ev_eq (Option.bind_assoc _ _ _) ?_
  refine ev_callWI (am_callV (as := []) (o := 105) (st := []) cv_L_138 dL_law__358 (by decide) rfl (am_le rfl) (am_fitL (by omega) (by omega) (by decide) (by decide) (by decide) (by decide)) (t_X12_law hl (by decide))) (fun y2 h2 => ?_)
  refine ev_istore dL_law__361 (am_lt rfl) ?_
  refine ev_aload_n dL_law__363 rfl ?_
  refine ev_eq (Option.bind_assoc _ _ _) ?_
  refine ev_callP (am_callV (as := []) (o := 105) (st := []) cv_L_133 dL_law__364 (by decide) rfl (am_le rfl) (am_fitL (by omega) (by omega) (by decide) (by decide) (by decide) (by decide)) (t_X12_thrown hl (by decide))) (fun v3 h3 => ?_)
  refine ev_iload dL_law__367 rfl ?_
  refine ev_eq am_ib ?_
  refine ev_icmp_eq (tgt := 374) dL_law__369 (by decide) (fun c4 => ?_) (fun c4 => ?_)
  · refine ev_iload dL_law__374 rfl ?_
    refine ev_eq am_ib ?_
    refine ev_if_ne (tgt := 391) dL_law__376 (by decide) (fun c5 => ?_) (fun c5 => ?_)
    · refine ev_goto (tgt := 2462) dL_law__391 (by decide) ?_
      exact ev_widen (by omega) (by omega) (ev_leaf (am_wk (am_wk (am_wk (am_wk (am_wk (am_wf (am_wf am_wn))))))) (hN (y2.2, S1.2)))
    · refine ev_aload_n dL_law__379 rfl ?_
      refine ev_iconst (v := 0) dL_law__380 (by decide) ?_
      refine ev_eq (Option.bind_assoc _ _ _) ?_
      refine ev_lald dL_law__381 (by decide) (fun v6 h6 => ?_)
      refine ev_iload dL_law__382 rfl ?_
      refine ev_i2l dL_law__384 ?_
      refine ev_lcmp dL_law__385 ?_
      refine ev_eq am_ib ?_
      refine ev_if_eq (tgt := 391) dL_law__386 (by decide) (fun c7 => ?_) (fun c7 => ?_)
      · refine ev_goto (tgt := 2462) dL_law__391 (by decide) ?_
        exact ev_widen (by omega) (by omega) (ev_leaf (am_wk (am_wk (am_wk (am_wk (am_wk (am_wf (am_wf am_wn))))))) (hN (y2.2, S1.2)))
      · refine ev_iconst (v := 0) dL_law__389 (by decide) ?_
        exact ev_none
  · refine ev_iconst (v := 0) dL_law__372 (by decide) ?_
    exact ev_none
def f_case_4 (E : am_E) (S : am_S) (i : Int32) : Option am_S :=
  ((f_X11_fault S 0).bind (fun v1 => ((f_X12_fault S 105).bind (fun y2 => (if v1 = y2.1 then some (y2.2, S.2) else none)))))
set_option maxRecDepth 20000 in
theorem t_case_4 {β : Type} {E : am_E} {l : Launch} (hl : l.stackTraces = false) {Z : List Frame → Array Value → State → β → State → Prop} {cs sl : Nat} (hcs : cs ≤ 500000) (hsl : sl ≤ 7000000) {S : am_S} {i : Int32} {F : am_S → Option β} (hN : ∀ S, am_Ev E l (RL, cL_law_, 7, (some .boolean), [], room_1) Z (cs + 8) (sl + 48) 2462 [some (.ref 900), some (.ref 0), some (.ref 105), some (.ref 122), some (.int i), none, none] [] S (F S)) : am_Ev E l (RL, cL_law_, 7, (some .boolean), [], room_1) Z cs sl 394 [some (.ref 900), some (.ref 0), some (.ref 105), some (.ref 122), some (.int i), none, none] [] S ((f_case_4 E S i).bind F) := by
  unfold f_case_4
  refine ev_aload_n dL_law__394 rfl ?_
  refine ev_eq (Option.bind_assoc _ _ _) ?_
  refine ev_callP (am_callV (as := []) (o := 0) (st := []) cv_L_139 dL_law__395 (by decide) rfl (am_le rfl) (am_fitL (by omega) (by omega) (by decide) (by decide) (by decide) (by decide)) (t_X11_fault hl (by decide))) (fun v1 h1 => ?_)
  refine ev_aload_n dL_law__398 rfl ?_
  refine ev_eq (Option.bind_assoc _ _ _) ?_
  refine ev_callWI (am_callV (as := []) (o := 105) (st := [.int v1]) cv_L_142 dL_law__399 (by decide) rfl (am_le rfl) (am_fitL (by omega) (by omega) (by decide) (by decide) (by decide) (by decide)) (t_X12_fault hl (by decide))) (fun y2 h2 => ?_)
  refine ev_eq am_ib ?_
  refine ev_icmp_eq (tgt := 2462) dL_law__402 (by decide) (fun c3 => ?_) (fun c3 => ?_)
  · exact ev_widen (by omega) (by omega) (ev_leaf (am_wk (am_wk (am_wk (am_wk (am_wk (am_wf (am_wf am_wn))))))) (hN (y2.2, S.2)))
  · refine ev_iconst (v := 0) dL_law__405 (by decide) ?_
    exact ev_none
def f_case_5 (E : am_E) (S : am_S) (i : Int32) : Option am_S :=
  ((am_sx E (i + 1)).bind (fun v1 => ((am_sx E (i + 2)).bind (fun v2 => (am_xI (f_L_house S 0 v1 v2 122) (fun v3 S3 => ((am_sx E (i + 1)).bind (fun v4 => ((am_sx E (i + 2)).bind (fun v5 => ((f_X12_house S3 105 v4 v5).bind (fun y6 => ((f_X12_thrown (y6.2, S3.2) 105).bind (fun v7 => (if v7 = v3 then (if v3 = 0 then ((am_ld y6.2 122 0).bind (fun v10 => (if (lg_cmp (v10).toInt64 (y6.1).toInt64) = 0 then some (y6.2, S3.2) else none))) else some (y6.2, S3.2)) else none)))))))))))))))
set_option maxRecDepth 20000 in
theorem t_case_5 {β : Type} {E : am_E} {l : Launch} (hl : l.stackTraces = false) {Z : List Frame → Array Value → State → β → State → Prop} {cs sl : Nat} (hcs : cs ≤ 500000) (hsl : sl ≤ 7000000) {S : am_S} {i : Int32} {F : am_S → Option β} (hN : ∀ S, am_Ev E l (RL, cL_law_, 7, (some .boolean), [], room_1) Z (cs + 8) (sl + 48) 2462 [some (.ref 900), some (.ref 0), some (.ref 105), some (.ref 122), some (.int i), none, none] [] S (F S)) : am_Ev E l (RL, cL_law_, 7, (some .boolean), [], room_1) Z cs sl 407 [some (.ref 900), some (.ref 0), some (.ref 105), some (.ref 122), some (.int i), none, none] [] S ((f_case_5 E S i).bind F) := by
  unfold f_case_5
  refine ev_aload_n dL_law__407 rfl ?_
  refine ev_aload_n dL_law__408 rfl ?_
  refine ev_iload dL_law__409 rfl ?_
  refine ev_iconst (v := 1) dL_law__411 (by decide) ?_
  refine ev_iadd dL_law__412 ?_
  refine ev_eq (Option.bind_assoc _ _ _) ?_
  refine ev_sld dL_law__413 (fun v1 h1 => ?_)
  refine ev_aload_n dL_law__414 rfl ?_
  refine ev_iload dL_law__415 rfl ?_
  refine ev_iconst (v := 2) dL_law__417 (by decide) ?_
  refine ev_iadd dL_law__418 ?_
  refine ev_eq (Option.bind_assoc _ _ _) ?_
  refine ev_sld dL_law__419 (fun v2 h2 => ?_)
  refine ev_aload_n dL_law__420 rfl ?_
  refine ev_callXI (am_callSH (as := [.ref 0, .int v1, .int v2, .ref 122]) (st := []) ct_L_143 dL_law__421 rfl (am_le rfl) (am_fitL (by omega) (by omega) (by decide) (by decide) (by decide) (by decide)) (t_L_house hl (by decide) (by decide))) (fun v3 S3 h3 => ?_)
  refine ev_istore dL_law__424 (am_lt rfl) ?_
  refine ev_aload_n dL_law__426 rfl ?_
  refine ev_aload_n dL_law__427 rfl ?_
  refine ev_iload dL_law__428 rfl ?_
  refine ev_iconst (v := 1) dL_law__430 (by decide) ?_
  refine ev_iadd dL_law__431 ?_
  refine ev_eq (Option.bind_assoc _ _ _) ?_
  refine ev_sld dL_law__432 (fun v4 h4 => ?_)
  refine ev_aload_n dL_law__433 rfl ?_
  refine ev_iload dL_law__434 rfl ?_
  refine ev_iconst (v := 2) dL_law__436 (by decide) ?_
  refine ev_iadd dL_law__437 ?_
  refine ev_eq (Option.bind_assoc _ _ _) ?_
  refine ev_sld dL_law__438 (fun v5 h5 => ?_)
  refine ev_eq (Option.bind_assoc _ _ _) ?_
  refine ev_callWI (am_callV (as := [.int v4, .int v5]) (o := 105) (st := []) cv_L_146 dL_law__439 (by decide) rfl (am_le rfl) (am_fitL (by omega) (by omega) (by decide) (by decide) (by decide) (by decide)) (t_X12_house hl (by decide))) (fun y6 h6 => ?_)
  refine ev_istore dL_law__442 (am_lt rfl) ?_
  refine ev_aload_n dL_law__444 rfl ?_
  refine ev_eq (Option.bind_assoc _ _ _) ?_
  refine ev_callP (am_callV (as := []) (o := 105) (st := []) cv_L_133 dL_law__445 (by decide) rfl (am_le rfl) (am_fitL (by omega) (by omega) (by decide) (by decide) (by decide) (by decide)) (t_X12_thrown hl (by decide))) (fun v7 h7 => ?_)
  refine ev_iload dL_law__448 rfl ?_
  refine ev_eq am_ib ?_
  refine ev_icmp_eq (tgt := 455) dL_law__450 (by decide) (fun c8 => ?_) (fun c8 => ?_)
  · refine ev_iload dL_law__455 rfl ?_
    refine ev_eq am_ib ?_
    refine ev_if_ne (tgt := 472) dL_law__457 (by decide) (fun c9 => ?_) (fun c9 => ?_)
    · refine ev_goto (tgt := 2462) dL_law__472 (by decide) ?_
      exact ev_widen (by omega) (by omega) (ev_leaf (am_wk (am_wk (am_wk (am_wk (am_wk (am_wf (am_wf am_wn))))))) (hN (y6.2, S3.2)))
    · refine ev_aload_n dL_law__460 rfl ?_
      refine ev_iconst (v := 0) dL_law__461 (by decide) ?_
      refine ev_eq (Option.bind_assoc _ _ _) ?_
      refine ev_lald dL_law__462 (by decide) (fun v10 h10 => ?_)
      refine ev_iload dL_law__463 rfl ?_
      refine ev_i2l dL_law__465 ?_
      refine ev_lcmp dL_law__466 ?_
      refine ev_eq am_ib ?_
      refine ev_if_eq (tgt := 472) dL_law__467 (by decide) (fun c11 => ?_) (fun c11 => ?_)
      · refine ev_goto (tgt := 2462) dL_law__472 (by decide) ?_
        exact ev_widen (by omega) (by omega) (ev_leaf (am_wk (am_wk (am_wk (am_wk (am_wk (am_wf (am_wf am_wn))))))) (hN (y6.2, S3.2)))
      · refine ev_iconst (v := 0) dL_law__470 (by decide) ?_
        exact ev_none
  · refine ev_iconst (v := 0) dL_law__453 (by decide) ?_
    exact ev_none
def f_case_6 (E : am_E) (S : am_S) (i : Int32) : Option am_S :=
  ((am_sx E (i + 1)).bind (fun v1 => (am_xI (f_L_want S 0 v1 122) (fun v2 S2 => ((am_sx E (i + 1)).bind (fun v3 => ((f_X12_want S2 105 v3).bind (fun y4 => ((f_X12_thrown (y4.2, S2.2) 105).bind (fun v5 => (if v5 = v2 then (if v2 = 0 then ((am_ld y4.2 122 0).bind (fun v8 => (if (lg_cmp (v8).toInt64 (y4.1).toInt64) = 0 then some (y4.2, S2.2) else none))) else some (y4.2, S2.2)) else none)))))))))))
set_option maxRecDepth 20000 in
theorem t_case_6 {β : Type} {E : am_E} {l : Launch} (hl : l.stackTraces = false) {Z : List Frame → Array Value → State → β → State → Prop} {cs sl : Nat} (hcs : cs ≤ 500000) (hsl : sl ≤ 7000000) {S : am_S} {i : Int32} {F : am_S → Option β} (hN : ∀ S, am_Ev E l (RL, cL_law_, 7, (some .boolean), [], room_1) Z (cs + 8) (sl + 48) 2462 [some (.ref 900), some (.ref 0), some (.ref 105), some (.ref 122), some (.int i), none, none] [] S (F S)) : am_Ev E l (RL, cL_law_, 7, (some .boolean), [], room_1) Z cs sl 475 [some (.ref 900), some (.ref 0), some (.ref 105), some (.ref 122), some (.int i), none, none] [] S ((f_case_6 E S i).bind F) := by
  unfold f_case_6
  refine ev_aload_n dL_law__475 rfl ?_
  refine ev_aload_n dL_law__476 rfl ?_
  refine ev_iload dL_law__477 rfl ?_
  refine ev_iconst (v := 1) dL_law__479 (by decide) ?_
  refine ev_iadd dL_law__480 ?_
  refine ev_eq (Option.bind_assoc _ _ _) ?_
  refine ev_sld dL_law__481 (fun v1 h1 => ?_)
  refine ev_aload_n dL_law__482 rfl ?_
  refine ev_callXI (am_callSH (as := [.ref 0, .int v1, .ref 122]) (st := []) ct_L_147 dL_law__483 rfl (am_le rfl) (am_fitL (by omega) (by omega) (by decide) (by decide) (by decide) (by decide)) (t_L_want hl (by decide) (by decide))) (fun v2 S2 h2 => ?_)
  refine ev_istore dL_law__486 (am_lt rfl) ?_
  refine ev_aload_n dL_law__488 rfl ?_
  refine ev_aload_n dL_law__489 rfl ?_
  refine ev_iload dL_law__490 rfl ?_
  refine ev_iconst (v := 1) dL_law__492 (by decide) ?_
  refine ev_iadd dL_law__493 ?_
  refine ev_eq (Option.bind_assoc _ _ _) ?_
  refine ev_sld dL_law__494 (fun v3 h3 => ?_)
  refine ev_eq (Option.bind_assoc _ _ _) ?_
  refine ev_callWI (am_callV (as := [.int v3]) (o := 105) (st := []) cv_L_150 dL_law__495 (by decide) rfl (am_le rfl) (am_fitL (by omega) (by omega) (by decide) (by decide) (by decide) (by decide)) (t_X12_want hl (by decide))) (fun y4 h4 => ?_)
  refine ev_istore dL_law__498 (am_lt rfl) ?_
  refine ev_aload_n dL_law__500 rfl ?_
  refine ev_eq (Option.bind_assoc _ _ _) ?_
  refine ev_callP (am_callV (as := []) (o := 105) (st := []) cv_L_133 dL_law__501 (by decide) rfl (am_le rfl) (am_fitL (by omega) (by omega) (by decide) (by decide) (by decide) (by decide)) (t_X12_thrown hl (by decide))) (fun v5 h5 => ?_)
  refine ev_iload dL_law__504 rfl ?_
  refine ev_eq am_ib ?_
  refine ev_icmp_eq (tgt := 511) dL_law__506 (by decide) (fun c6 => ?_) (fun c6 => ?_)
  · refine ev_iload dL_law__511 rfl ?_
    refine ev_eq am_ib ?_
    refine ev_if_ne (tgt := 528) dL_law__513 (by decide) (fun c7 => ?_) (fun c7 => ?_)
    · refine ev_goto (tgt := 2462) dL_law__528 (by decide) ?_
      exact ev_widen (by omega) (by omega) (ev_leaf (am_wk (am_wk (am_wk (am_wk (am_wk (am_wf (am_wf am_wn))))))) (hN (y4.2, S2.2)))
    · refine ev_aload_n dL_law__516 rfl ?_
      refine ev_iconst (v := 0) dL_law__517 (by decide) ?_
      refine ev_eq (Option.bind_assoc _ _ _) ?_
      refine ev_lald dL_law__518 (by decide) (fun v8 h8 => ?_)
      refine ev_iload dL_law__519 rfl ?_
      refine ev_i2l dL_law__521 ?_
      refine ev_lcmp dL_law__522 ?_
      refine ev_eq am_ib ?_
      refine ev_if_eq (tgt := 528) dL_law__523 (by decide) (fun c9 => ?_) (fun c9 => ?_)
      · refine ev_goto (tgt := 2462) dL_law__528 (by decide) ?_
        exact ev_widen (by omega) (by omega) (ev_leaf (am_wk (am_wk (am_wk (am_wk (am_wk (am_wf (am_wf am_wn))))))) (hN (y4.2, S2.2)))
      · refine ev_iconst (v := 0) dL_law__526 (by decide) ?_
        exact ev_none
  · refine ev_iconst (v := 0) dL_law__509 (by decide) ?_
    exact ev_none
def f_case_7 (E : am_E) (S : am_S) (i : Int32) : Option am_S :=
  ((am_sx E (i + 1)).bind (fun v1 => ((am_sx E (i + 2)).bind (fun v2 => (am_xI (f_L_code S 0 v1 v2 122) (fun v3 S3 => ((am_sx E (i + 1)).bind (fun v4 => ((am_sx E (i + 2)).bind (fun v5 => ((f_X12_code S3 105 v4 v5).bind (fun y6 => ((f_X12_thrown (y6.2, S3.2) 105).bind (fun v7 => (if v7 = v3 then (if v3 = 0 then ((am_ld y6.2 122 0).bind (fun v10 => (if (lg_cmp (v10).toInt64 (y6.1).toInt64) = 0 then some (y6.2, S3.2) else none))) else some (y6.2, S3.2)) else none)))))))))))))))
set_option maxRecDepth 20000 in
theorem t_case_7 {β : Type} {E : am_E} {l : Launch} (hl : l.stackTraces = false) {Z : List Frame → Array Value → State → β → State → Prop} {cs sl : Nat} (hcs : cs ≤ 500000) (hsl : sl ≤ 7000000) {S : am_S} {i : Int32} {F : am_S → Option β} (hN : ∀ S, am_Ev E l (RL, cL_law_, 7, (some .boolean), [], room_1) Z (cs + 8) (sl + 48) 2462 [some (.ref 900), some (.ref 0), some (.ref 105), some (.ref 122), some (.int i), none, none] [] S (F S)) : am_Ev E l (RL, cL_law_, 7, (some .boolean), [], room_1) Z cs sl 531 [some (.ref 900), some (.ref 0), some (.ref 105), some (.ref 122), some (.int i), none, none] [] S ((f_case_7 E S i).bind F) := by
  unfold f_case_7
  refine ev_aload_n dL_law__531 rfl ?_
  refine ev_aload_n dL_law__532 rfl ?_
  refine ev_iload dL_law__533 rfl ?_
  refine ev_iconst (v := 1) dL_law__535 (by decide) ?_
  refine ev_iadd dL_law__536 ?_
  refine ev_eq (Option.bind_assoc _ _ _) ?_
  refine ev_sld dL_law__537 (fun v1 h1 => ?_)
  refine ev_aload_n dL_law__538 rfl ?_
  refine ev_iload dL_law__539 rfl ?_
  refine ev_iconst (v := 2) dL_law__541 (by decide) ?_
  refine ev_iadd dL_law__542 ?_
  refine ev_eq (Option.bind_assoc _ _ _) ?_
  refine ev_sld dL_law__543 (fun v2 h2 => ?_)
  refine ev_aload_n dL_law__544 rfl ?_
  refine ev_callXI (am_callSH (as := [.ref 0, .int v1, .int v2, .ref 122]) (st := []) ct_L_151 dL_law__545 rfl (am_le rfl) (am_fitL (by omega) (by omega) (by decide) (by decide) (by decide) (by decide)) (t_L_code hl (by decide) (by decide))) (fun v3 S3 h3 => ?_)
  refine ev_istore dL_law__548 (am_lt rfl) ?_
  refine ev_aload_n dL_law__550 rfl ?_
  refine ev_aload_n dL_law__551 rfl ?_
  refine ev_iload dL_law__552 rfl ?_
  refine ev_iconst (v := 1) dL_law__554 (by decide) ?_
  refine ev_iadd dL_law__555 ?_
  refine ev_eq (Option.bind_assoc _ _ _) ?_
  refine ev_sld dL_law__556 (fun v4 h4 => ?_)
  refine ev_aload_n dL_law__557 rfl ?_
  refine ev_iload dL_law__558 rfl ?_
  refine ev_iconst (v := 2) dL_law__560 (by decide) ?_
  refine ev_iadd dL_law__561 ?_
  refine ev_eq (Option.bind_assoc _ _ _) ?_
  refine ev_sld dL_law__562 (fun v5 h5 => ?_)
  refine ev_eq (Option.bind_assoc _ _ _) ?_
  refine ev_callWI (am_callV (as := [.int v4, .int v5]) (o := 105) (st := []) cv_L_153 dL_law__563 (by decide) rfl (am_le rfl) (am_fitL (by omega) (by omega) (by decide) (by decide) (by decide) (by decide)) (t_X12_code hl (by decide))) (fun y6 h6 => ?_)
  refine ev_istore dL_law__566 (am_lt rfl) ?_
  refine ev_aload_n dL_law__568 rfl ?_
  refine ev_eq (Option.bind_assoc _ _ _) ?_
  refine ev_callP (am_callV (as := []) (o := 105) (st := []) cv_L_133 dL_law__569 (by decide) rfl (am_le rfl) (am_fitL (by omega) (by omega) (by decide) (by decide) (by decide) (by decide)) (t_X12_thrown hl (by decide))) (fun v7 h7 => ?_)
  refine ev_iload dL_law__572 rfl ?_
  refine ev_eq am_ib ?_
  refine ev_icmp_eq (tgt := 579) dL_law__574 (by decide) (fun c8 => ?_) (fun c8 => ?_)
  · refine ev_iload dL_law__579 rfl ?_
    refine ev_eq am_ib ?_
    refine ev_if_ne (tgt := 596) dL_law__581 (by decide) (fun c9 => ?_) (fun c9 => ?_)
    · refine ev_goto (tgt := 2462) dL_law__596 (by decide) ?_
      exact ev_widen (by omega) (by omega) (ev_leaf (am_wk (am_wk (am_wk (am_wk (am_wk (am_wf (am_wf am_wn))))))) (hN (y6.2, S3.2)))
    · refine ev_aload_n dL_law__584 rfl ?_
      refine ev_iconst (v := 0) dL_law__585 (by decide) ?_
      refine ev_eq (Option.bind_assoc _ _ _) ?_
      refine ev_lald dL_law__586 (by decide) (fun v10 h10 => ?_)
      refine ev_iload dL_law__587 rfl ?_
      refine ev_i2l dL_law__589 ?_
      refine ev_lcmp dL_law__590 ?_
      refine ev_eq am_ib ?_
      refine ev_if_eq (tgt := 596) dL_law__591 (by decide) (fun c11 => ?_) (fun c11 => ?_)
      · refine ev_goto (tgt := 2462) dL_law__596 (by decide) ?_
        exact ev_widen (by omega) (by omega) (ev_leaf (am_wk (am_wk (am_wk (am_wk (am_wk (am_wf (am_wf am_wn))))))) (hN (y6.2, S3.2)))
      · refine ev_iconst (v := 0) dL_law__594 (by decide) ?_
        exact ev_none
  · refine ev_iconst (v := 0) dL_law__577 (by decide) ?_
    exact ev_none
def f_case_8 (E : am_E) (S : am_S) (i : Int32) : Option am_S :=
  ((am_sx E (i + 1)).bind (fun v1 => (am_xI (f_L_cost S 0 v1 122) (fun v2 S2 => ((am_sx E (i + 1)).bind (fun v3 => ((f_X12_cost S2 105 v3).bind (fun y4 => ((f_X12_thrown (y4.2, S2.2) 105).bind (fun v5 => (if v5 = v2 then (if v2 = 0 then ((am_ld y4.2 122 0).bind (fun v8 => (if (lg_cmp (v8).toInt64 (y4.1).toInt64) = 0 then some (y4.2, S2.2) else none))) else some (y4.2, S2.2)) else none)))))))))))
set_option maxRecDepth 20000 in
theorem t_case_8 {β : Type} {E : am_E} {l : Launch} (hl : l.stackTraces = false) {Z : List Frame → Array Value → State → β → State → Prop} {cs sl : Nat} (hcs : cs ≤ 500000) (hsl : sl ≤ 7000000) {S : am_S} {i : Int32} {F : am_S → Option β} (hN : ∀ S, am_Ev E l (RL, cL_law_, 7, (some .boolean), [], room_1) Z (cs + 8) (sl + 48) 2462 [some (.ref 900), some (.ref 0), some (.ref 105), some (.ref 122), some (.int i), none, none] [] S (F S)) : am_Ev E l (RL, cL_law_, 7, (some .boolean), [], room_1) Z cs sl 599 [some (.ref 900), some (.ref 0), some (.ref 105), some (.ref 122), some (.int i), none, none] [] S ((f_case_8 E S i).bind F) := by
  unfold f_case_8
  refine ev_aload_n dL_law__599 rfl ?_
  refine ev_aload_n dL_law__600 rfl ?_
  refine ev_iload dL_law__601 rfl ?_
  refine ev_iconst (v := 1) dL_law__603 (by decide) ?_
  refine ev_iadd dL_law__604 ?_
  refine ev_eq (Option.bind_assoc _ _ _) ?_
  refine ev_sld dL_law__605 (fun v1 h1 => ?_)
  refine ev_aload_n dL_law__606 rfl ?_
  refine ev_callXI (am_callSH (as := [.ref 0, .int v1, .ref 122]) (st := []) ct_L_154 dL_law__607 rfl (am_le rfl) (am_fitL (by omega) (by omega) (by decide) (by decide) (by decide) (by decide)) (t_L_cost hl (by decide) (by decide))) (fun v2 S2 h2 => ?_)
  refine ev_istore dL_law__610 (am_lt rfl) ?_
  refine ev_aload_n dL_law__612 rfl ?_
  refine ev_aload_n dL_law__613 rfl ?_
  refine ev_iload dL_law__614 rfl ?_
  refine ev_iconst (v := 1) dL_law__616 (by decide) ?_
  refine ev_iadd dL_law__617 ?_
  refine ev_eq (Option.bind_assoc _ _ _) ?_
  refine ev_sld dL_law__618 (fun v3 h3 => ?_)
  refine ev_eq (Option.bind_assoc _ _ _) ?_
  refine ev_callWI (am_callV (as := [.int v3]) (o := 105) (st := []) cv_L_156 dL_law__619 (by decide) rfl (am_le rfl) (am_fitL (by omega) (by omega) (by decide) (by decide) (by decide) (by decide)) (t_X12_cost hl (by decide))) (fun y4 h4 => ?_)
  refine ev_istore dL_law__622 (am_lt rfl) ?_
  refine ev_aload_n dL_law__624 rfl ?_
  refine ev_eq (Option.bind_assoc _ _ _) ?_
  refine ev_callP (am_callV (as := []) (o := 105) (st := []) cv_L_133 dL_law__625 (by decide) rfl (am_le rfl) (am_fitL (by omega) (by omega) (by decide) (by decide) (by decide) (by decide)) (t_X12_thrown hl (by decide))) (fun v5 h5 => ?_)
  refine ev_iload dL_law__628 rfl ?_
  refine ev_eq am_ib ?_
  refine ev_icmp_eq (tgt := 635) dL_law__630 (by decide) (fun c6 => ?_) (fun c6 => ?_)
  · refine ev_iload dL_law__635 rfl ?_
    refine ev_eq am_ib ?_
    refine ev_if_ne (tgt := 652) dL_law__637 (by decide) (fun c7 => ?_) (fun c7 => ?_)
    · refine ev_goto (tgt := 2462) dL_law__652 (by decide) ?_
      exact ev_widen (by omega) (by omega) (ev_leaf (am_wk (am_wk (am_wk (am_wk (am_wk (am_wf (am_wf am_wn))))))) (hN (y4.2, S2.2)))
    · refine ev_aload_n dL_law__640 rfl ?_
      refine ev_iconst (v := 0) dL_law__641 (by decide) ?_
      refine ev_eq (Option.bind_assoc _ _ _) ?_
      refine ev_lald dL_law__642 (by decide) (fun v8 h8 => ?_)
      refine ev_iload dL_law__643 rfl ?_
      refine ev_i2l dL_law__645 ?_
      refine ev_lcmp dL_law__646 ?_
      refine ev_eq am_ib ?_
      refine ev_if_eq (tgt := 652) dL_law__647 (by decide) (fun c9 => ?_) (fun c9 => ?_)
      · refine ev_goto (tgt := 2462) dL_law__652 (by decide) ?_
        exact ev_widen (by omega) (by omega) (ev_leaf (am_wk (am_wk (am_wk (am_wk (am_wk (am_wf (am_wf am_wn))))))) (hN (y4.2, S2.2)))
      · refine ev_iconst (v := 0) dL_law__650 (by decide) ?_
        exact ev_none
  · refine ev_iconst (v := 0) dL_law__633 (by decide) ?_
    exact ev_none
def f_case_9 (E : am_E) (S : am_S) (i : Int32) : Option am_S :=
  ((am_sx E (i + 1)).bind (fun v1 => ((am_sx E (i + 2)).bind (fun v2 => ((am_sx E (i + 3)).bind (fun v3 => (am_xI (f_L_way S 0 v1 v2 v3 122) (fun v4 S4 => ((am_sx E (i + 1)).bind (fun v5 => ((am_sx E (i + 2)).bind (fun v6 => ((am_sx E (i + 3)).bind (fun v7 => ((f_X12_way S4 105 v5 v6 v7).bind (fun y8 => ((f_X12_thrown (y8.2, S4.2) 105).bind (fun v9 => (if v9 = v4 then (if v4 = 0 then ((am_ld y8.2 122 0).bind (fun v12 => (if (lg_cmp (v12).toInt64 (y8.1).toInt64) = 0 then some (y8.2, S4.2) else none))) else some (y8.2, S4.2)) else none)))))))))))))))))))
set_option maxRecDepth 20000 in
theorem t_case_9 {β : Type} {E : am_E} {l : Launch} (hl : l.stackTraces = false) {Z : List Frame → Array Value → State → β → State → Prop} {cs sl : Nat} (hcs : cs ≤ 500000) (hsl : sl ≤ 7000000) {S : am_S} {i : Int32} {F : am_S → Option β} (hN : ∀ S, am_Ev E l (RL, cL_law_, 7, (some .boolean), [], room_1) Z (cs + 8) (sl + 48) 2462 [some (.ref 900), some (.ref 0), some (.ref 105), some (.ref 122), some (.int i), none, none] [] S (F S)) : am_Ev E l (RL, cL_law_, 7, (some .boolean), [], room_1) Z cs sl 655 [some (.ref 900), some (.ref 0), some (.ref 105), some (.ref 122), some (.int i), none, none] [] S ((f_case_9 E S i).bind F) := by
  unfold f_case_9
  refine ev_aload_n dL_law__655 rfl ?_
  refine ev_aload_n dL_law__656 rfl ?_
  refine ev_iload dL_law__657 rfl ?_
  refine ev_iconst (v := 1) dL_law__659 (by decide) ?_
  refine ev_iadd dL_law__660 ?_
  refine ev_eq (Option.bind_assoc _ _ _) ?_
  refine ev_sld dL_law__661 (fun v1 h1 => ?_)
  refine ev_aload_n dL_law__662 rfl ?_
  refine ev_iload dL_law__663 rfl ?_
  refine ev_iconst (v := 2) dL_law__665 (by decide) ?_
  refine ev_iadd dL_law__666 ?_
  refine ev_eq (Option.bind_assoc _ _ _) ?_
  refine ev_sld dL_law__667 (fun v2 h2 => ?_)
  refine ev_aload_n dL_law__668 rfl ?_
  refine ev_iload dL_law__669 rfl ?_
  refine ev_iconst (v := 3) dL_law__671 (by decide) ?_
  refine ev_iadd dL_law__672 ?_
  refine ev_eq (Option.bind_assoc _ _ _) ?_
  refine ev_sld dL_law__673 (fun v3 h3 => ?_)
  refine ev_aload_n dL_law__674 rfl ?_
  refine ev_callXI (am_callSH (as := [.ref 0, .int v1, .int v2, .int v3, .ref 122]) (st := []) ct_L_157 dL_law__675 rfl (am_le rfl) (am_fitL (by omega) (by omega) (by decide) (by decide) (by decide) (by decide)) (t_L_way hl (by decide) (by decide))) (fun v4 S4 h4 => ?_)
  refine ev_istore dL_law__678 (am_lt rfl) ?_
  refine ev_aload_n dL_law__680 rfl ?_
  refine ev_aload_n dL_law__681 rfl ?_
  refine ev_iload dL_law__682 rfl ?_
  refine ev_iconst (v := 1) dL_law__684 (by decide) ?_
  refine ev_iadd dL_law__685 ?_
  refine ev_eq (Option.bind_assoc _ _ _) ?_
  refine ev_sld dL_law__686 (fun v5 h5 => ?_)
  refine ev_aload_n dL_law__687 rfl ?_
  refine ev_iload dL_law__688 rfl ?_
  refine ev_iconst (v := 2) dL_law__690 (by decide) ?_
  refine ev_iadd dL_law__691 ?_
  refine ev_eq (Option.bind_assoc _ _ _) ?_
  refine ev_sld dL_law__692 (fun v6 h6 => ?_)
  refine ev_aload_n dL_law__693 rfl ?_
  refine ev_iload dL_law__694 rfl ?_
  refine ev_iconst (v := 3) dL_law__696 (by decide) ?_
  refine ev_iadd dL_law__697 ?_
  refine ev_eq (Option.bind_assoc _ _ _) ?_
  refine ev_sld dL_law__698 (fun v7 h7 => ?_)
  refine ev_eq (Option.bind_assoc _ _ _) ?_
  refine ev_callWI (am_callV (as := [.int v5, .int v6, .int v7]) (o := 105) (st := []) cv_L_160 dL_law__699 (by decide) rfl (am_le rfl) (am_fitL (by omega) (by omega) (by decide) (by decide) (by decide) (by decide)) (t_X12_way hl (by decide))) (fun y8 h8 => ?_)
  refine ev_istore dL_law__702 (am_lt rfl) ?_
  refine ev_aload_n dL_law__704 rfl ?_
  refine ev_eq (Option.bind_assoc _ _ _) ?_
  refine ev_callP (am_callV (as := []) (o := 105) (st := []) cv_L_133 dL_law__705 (by decide) rfl (am_le rfl) (am_fitL (by omega) (by omega) (by decide) (by decide) (by decide) (by decide)) (t_X12_thrown hl (by decide))) (fun v9 h9 => ?_)
  refine ev_iload dL_law__708 rfl ?_
  refine ev_eq am_ib ?_
  refine ev_icmp_eq (tgt := 715) dL_law__710 (by decide) (fun c10 => ?_) (fun c10 => ?_)
  · refine ev_iload dL_law__715 rfl ?_
    refine ev_eq am_ib ?_
    refine ev_if_ne (tgt := 732) dL_law__717 (by decide) (fun c11 => ?_) (fun c11 => ?_)
    · refine ev_goto (tgt := 2462) dL_law__732 (by decide) ?_
      exact ev_widen (by omega) (by omega) (ev_leaf (am_wk (am_wk (am_wk (am_wk (am_wk (am_wf (am_wf am_wn))))))) (hN (y8.2, S4.2)))
    · refine ev_aload_n dL_law__720 rfl ?_
      refine ev_iconst (v := 0) dL_law__721 (by decide) ?_
      refine ev_eq (Option.bind_assoc _ _ _) ?_
      refine ev_lald dL_law__722 (by decide) (fun v12 h12 => ?_)
      refine ev_iload dL_law__723 rfl ?_
      refine ev_i2l dL_law__725 ?_
      refine ev_lcmp dL_law__726 ?_
      refine ev_eq am_ib ?_
      refine ev_if_eq (tgt := 732) dL_law__727 (by decide) (fun c13 => ?_) (fun c13 => ?_)
      · refine ev_goto (tgt := 2462) dL_law__732 (by decide) ?_
        exact ev_widen (by omega) (by omega) (ev_leaf (am_wk (am_wk (am_wk (am_wk (am_wk (am_wf (am_wf am_wn))))))) (hN (y8.2, S4.2)))
      · refine ev_iconst (v := 0) dL_law__730 (by decide) ?_
        exact ev_none
  · refine ev_iconst (v := 0) dL_law__713 (by decide) ?_
    exact ev_none
def f_case_10 (E : am_E) (S : am_S) (i : Int32) : Option am_S :=
  ((am_sx E (i + 1)).bind (fun v1 => ((am_sx E (i + 2)).bind (fun v2 => ((am_sx E (i + 3)).bind (fun v3 => (am_xI (f_L_ring S 0 v1 v2 v3 122) (fun v4 S4 => ((am_sx E (i + 1)).bind (fun v5 => ((am_sx E (i + 2)).bind (fun v6 => ((am_sx E (i + 3)).bind (fun v7 => ((f_X12_ring S4 105 v5 v6 v7).bind (fun y8 => ((f_X12_thrown (y8.2, S4.2) 105).bind (fun v9 => (if v9 = v4 then (if v4 = 0 then ((am_ld y8.2 122 0).bind (fun v12 => (if (lg_cmp (v12).toInt64 (y8.1).toInt64) = 0 then some (y8.2, S4.2) else none))) else some (y8.2, S4.2)) else none)))))))))))))))))))
set_option maxRecDepth 20000 in
theorem t_case_10 {β : Type} {E : am_E} {l : Launch} (hl : l.stackTraces = false) {Z : List Frame → Array Value → State → β → State → Prop} {cs sl : Nat} (hcs : cs ≤ 500000) (hsl : sl ≤ 7000000) {S : am_S} {i : Int32} {F : am_S → Option β} (hN : ∀ S, am_Ev E l (RL, cL_law_, 7, (some .boolean), [], room_1) Z (cs + 8) (sl + 48) 2462 [some (.ref 900), some (.ref 0), some (.ref 105), some (.ref 122), some (.int i), none, none] [] S (F S)) : am_Ev E l (RL, cL_law_, 7, (some .boolean), [], room_1) Z cs sl 735 [some (.ref 900), some (.ref 0), some (.ref 105), some (.ref 122), some (.int i), none, none] [] S ((f_case_10 E S i).bind F) := by
  unfold f_case_10
  refine ev_aload_n dL_law__735 rfl ?_
  refine ev_aload_n dL_law__736 rfl ?_
  refine ev_iload dL_law__737 rfl ?_
  refine ev_iconst (v := 1) dL_law__739 (by decide) ?_
  refine ev_iadd dL_law__740 ?_
  refine ev_eq (Option.bind_assoc _ _ _) ?_
  refine ev_sld dL_law__741 (fun v1 h1 => ?_)
  refine ev_aload_n dL_law__742 rfl ?_
  refine ev_iload dL_law__743 rfl ?_
  refine ev_iconst (v := 2) dL_law__745 (by decide) ?_
  refine ev_iadd dL_law__746 ?_
  refine ev_eq (Option.bind_assoc _ _ _) ?_
  refine ev_sld dL_law__747 (fun v2 h2 => ?_)
  refine ev_aload_n dL_law__748 rfl ?_
  refine ev_iload dL_law__749 rfl ?_
  refine ev_iconst (v := 3) dL_law__751 (by decide) ?_
  refine ev_iadd dL_law__752 ?_
  refine ev_eq (Option.bind_assoc _ _ _) ?_
  refine ev_sld dL_law__753 (fun v3 h3 => ?_)
  refine ev_aload_n dL_law__754 rfl ?_
  refine ev_callXI (am_callSH (as := [.ref 0, .int v1, .int v2, .int v3, .ref 122]) (st := []) ct_L_161 dL_law__755 rfl (am_le rfl) (am_fitL (by omega) (by omega) (by decide) (by decide) (by decide) (by decide)) (t_L_ring hl (by decide) (by decide))) (fun v4 S4 h4 => ?_)
  refine ev_istore dL_law__758 (am_lt rfl) ?_
  refine ev_aload_n dL_law__760 rfl ?_
  refine ev_aload_n dL_law__761 rfl ?_
  refine ev_iload dL_law__762 rfl ?_
  refine ev_iconst (v := 1) dL_law__764 (by decide) ?_
  refine ev_iadd dL_law__765 ?_
  refine ev_eq (Option.bind_assoc _ _ _) ?_
  refine ev_sld dL_law__766 (fun v5 h5 => ?_)
  refine ev_aload_n dL_law__767 rfl ?_
  refine ev_iload dL_law__768 rfl ?_
  refine ev_iconst (v := 2) dL_law__770 (by decide) ?_
  refine ev_iadd dL_law__771 ?_
  refine ev_eq (Option.bind_assoc _ _ _) ?_
  refine ev_sld dL_law__772 (fun v6 h6 => ?_)
  refine ev_aload_n dL_law__773 rfl ?_
  refine ev_iload dL_law__774 rfl ?_
  refine ev_iconst (v := 3) dL_law__776 (by decide) ?_
  refine ev_iadd dL_law__777 ?_
  refine ev_eq (Option.bind_assoc _ _ _) ?_
  refine ev_sld dL_law__778 (fun v7 h7 => ?_)
  refine ev_eq (Option.bind_assoc _ _ _) ?_
  refine ev_callWI (am_callV (as := [.int v5, .int v6, .int v7]) (o := 105) (st := []) cv_L_163 dL_law__779 (by decide) rfl (am_le rfl) (am_fitL (by omega) (by omega) (by decide) (by decide) (by decide) (by decide)) (t_X12_ring hl (by decide))) (fun y8 h8 => ?_)
  refine ev_istore dL_law__782 (am_lt rfl) ?_
  refine ev_aload_n dL_law__784 rfl ?_
  refine ev_eq (Option.bind_assoc _ _ _) ?_
  refine ev_callP (am_callV (as := []) (o := 105) (st := []) cv_L_133 dL_law__785 (by decide) rfl (am_le rfl) (am_fitL (by omega) (by omega) (by decide) (by decide) (by decide) (by decide)) (t_X12_thrown hl (by decide))) (fun v9 h9 => ?_)
  refine ev_iload dL_law__788 rfl ?_
  refine ev_eq am_ib ?_
  refine ev_icmp_eq (tgt := 795) dL_law__790 (by decide) (fun c10 => ?_) (fun c10 => ?_)
  · refine ev_iload dL_law__795 rfl ?_
    refine ev_eq am_ib ?_
    refine ev_if_ne (tgt := 812) dL_law__797 (by decide) (fun c11 => ?_) (fun c11 => ?_)
    · refine ev_goto (tgt := 2462) dL_law__812 (by decide) ?_
      exact ev_widen (by omega) (by omega) (ev_leaf (am_wk (am_wk (am_wk (am_wk (am_wk (am_wf (am_wf am_wn))))))) (hN (y8.2, S4.2)))
    · refine ev_aload_n dL_law__800 rfl ?_
      refine ev_iconst (v := 0) dL_law__801 (by decide) ?_
      refine ev_eq (Option.bind_assoc _ _ _) ?_
      refine ev_lald dL_law__802 (by decide) (fun v12 h12 => ?_)
      refine ev_iload dL_law__803 rfl ?_
      refine ev_i2l dL_law__805 ?_
      refine ev_lcmp dL_law__806 ?_
      refine ev_eq am_ib ?_
      refine ev_if_eq (tgt := 812) dL_law__807 (by decide) (fun c13 => ?_) (fun c13 => ?_)
      · refine ev_goto (tgt := 2462) dL_law__812 (by decide) ?_
        exact ev_widen (by omega) (by omega) (ev_leaf (am_wk (am_wk (am_wk (am_wk (am_wk (am_wf (am_wf am_wn))))))) (hN (y8.2, S4.2)))
      · refine ev_iconst (v := 0) dL_law__810 (by decide) ?_
        exact ev_none
  · refine ev_iconst (v := 0) dL_law__793 (by decide) ?_
    exact ev_none
def f_case_11 (E : am_E) (S : am_S) (i : Int32) : Option am_S :=
  ((f_X11_hush S 0).bind (fun y1 => ((f_X12_hush (y1.2, S.2) 105).bind (fun y2 => (if y1.1 = y2.1 then some (y2.2, S.2) else none)))))
set_option maxRecDepth 20000 in
theorem t_case_11 {β : Type} {E : am_E} {l : Launch} (hl : l.stackTraces = false) {Z : List Frame → Array Value → State → β → State → Prop} {cs sl : Nat} (hcs : cs ≤ 500000) (hsl : sl ≤ 7000000) {S : am_S} {i : Int32} {F : am_S → Option β} (hN : ∀ S, am_Ev E l (RL, cL_law_, 7, (some .boolean), [], room_1) Z (cs + 8) (sl + 48) 2462 [some (.ref 900), some (.ref 0), some (.ref 105), some (.ref 122), some (.int i), none, none] [] S (F S)) : am_Ev E l (RL, cL_law_, 7, (some .boolean), [], room_1) Z cs sl 815 [some (.ref 900), some (.ref 0), some (.ref 105), some (.ref 122), some (.int i), none, none] [] S ((f_case_11 E S i).bind F) := by
  unfold f_case_11
  refine ev_aload_n dL_law__815 rfl ?_
  refine ev_eq (Option.bind_assoc _ _ _) ?_
  refine ev_callWI (am_callV (as := []) (o := 0) (st := []) cv_L_164 dL_law__816 (by decide) rfl (am_le rfl) (am_fitL (by omega) (by omega) (by decide) (by decide) (by decide) (by decide)) (t_X11_hush hl (by decide))) (fun y1 h1 => ?_)
  refine ev_aload_n dL_law__819 rfl ?_
  refine ev_eq (Option.bind_assoc _ _ _) ?_
  refine ev_callWI (am_callV (as := []) (o := 105) (st := [.int y1.1]) cv_L_167 dL_law__820 (by decide) rfl (am_le rfl) (am_fitL (by omega) (by omega) (by decide) (by decide) (by decide) (by decide)) (t_X12_hush hl (by decide))) (fun y2 h2 => ?_)
  refine ev_eq am_ib ?_
  refine ev_icmp_eq (tgt := 2462) dL_law__823 (by decide) (fun c3 => ?_) (fun c3 => ?_)
  · exact ev_widen (by omega) (by omega) (ev_leaf (am_wk (am_wk (am_wk (am_wk (am_wk (am_wf (am_wf am_wn))))))) (hN (y2.2, S.2)))
  · refine ev_iconst (v := 0) dL_law__826 (by decide) ?_
    exact ev_none
def f_case_12 (E : am_E) (S : am_S) (i : Int32) : Option am_S :=
  ((f_X11_undo S 0).bind (fun y1 => ((f_X12_undo (y1.2, S.2) 105).bind (fun y2 => (if y1.1 = y2.1 then some (y2.2, S.2) else none)))))
set_option maxRecDepth 20000 in
theorem t_case_12 {β : Type} {E : am_E} {l : Launch} (hl : l.stackTraces = false) {Z : List Frame → Array Value → State → β → State → Prop} {cs sl : Nat} (hcs : cs ≤ 500000) (hsl : sl ≤ 7000000) {S : am_S} {i : Int32} {F : am_S → Option β} (hN : ∀ S, am_Ev E l (RL, cL_law_, 7, (some .boolean), [], room_1) Z (cs + 8) (sl + 48) 2462 [some (.ref 900), some (.ref 0), some (.ref 105), some (.ref 122), some (.int i), none, none] [] S (F S)) : am_Ev E l (RL, cL_law_, 7, (some .boolean), [], room_1) Z cs sl 828 [some (.ref 900), some (.ref 0), some (.ref 105), some (.ref 122), some (.int i), none, none] [] S ((f_case_12 E S i).bind F) := by
  unfold f_case_12
  refine ev_aload_n dL_law__828 rfl ?_
  refine ev_eq (Option.bind_assoc _ _ _) ?_
  refine ev_callWI (am_callV (as := []) (o := 0) (st := []) cv_L_168 dL_law__829 (by decide) rfl (am_le rfl) (am_fitL (by omega) (by omega) (by decide) (by decide) (by decide) (by decide)) (t_X11_undo hl (by decide))) (fun y1 h1 => ?_)
  refine ev_aload_n dL_law__832 rfl ?_
  refine ev_eq (Option.bind_assoc _ _ _) ?_
  refine ev_callWI (am_callV (as := []) (o := 105) (st := [.int y1.1]) cv_L_171 dL_law__833 (by decide) rfl (am_le rfl) (am_fitL (by omega) (by omega) (by decide) (by decide) (by decide) (by decide)) (t_X12_undo hl (by decide))) (fun y2 h2 => ?_)
  refine ev_eq am_ib ?_
  refine ev_icmp_eq (tgt := 2462) dL_law__836 (by decide) (fun c3 => ?_) (fun c3 => ?_)
  · exact ev_widen (by omega) (by omega) (ev_leaf (am_wk (am_wk (am_wk (am_wk (am_wk (am_wf (am_wf am_wn))))))) (hN (y2.2, S.2)))
  · refine ev_iconst (v := 0) dL_law__839 (by decide) ?_
    exact ev_none
def f_case_13 (E : am_E) (S : am_S) (i : Int32) : Option am_S :=
  ((am_sx E (i + 1)).bind (fun v1 => ((am_sx E (i + 2)).bind (fun v2 => (am_xI (f_L_heard S 0 v1 v2 122) (fun v3 S3 => ((am_sx E (i + 1)).bind (fun v4 => ((am_sx E (i + 2)).bind (fun v5 => ((f_X12_heard S3 105 v4 v5).bind (fun y6 => ((f_X12_thrown (y6.2, S3.2) 105).bind (fun v7 => (if v7 = v3 then (if v3 = 0 then ((am_ld y6.2 122 0).bind (fun v10 => (if (lg_cmp (v10).toInt64 (y6.1).toInt64) = 0 then some (y6.2, S3.2) else none))) else some (y6.2, S3.2)) else none)))))))))))))))
set_option maxRecDepth 20000 in
theorem t_case_13 {β : Type} {E : am_E} {l : Launch} (hl : l.stackTraces = false) {Z : List Frame → Array Value → State → β → State → Prop} {cs sl : Nat} (hcs : cs ≤ 500000) (hsl : sl ≤ 7000000) {S : am_S} {i : Int32} {F : am_S → Option β} (hN : ∀ S, am_Ev E l (RL, cL_law_, 7, (some .boolean), [], room_1) Z (cs + 8) (sl + 48) 2462 [some (.ref 900), some (.ref 0), some (.ref 105), some (.ref 122), some (.int i), none, none] [] S (F S)) : am_Ev E l (RL, cL_law_, 7, (some .boolean), [], room_1) Z cs sl 841 [some (.ref 900), some (.ref 0), some (.ref 105), some (.ref 122), some (.int i), none, none] [] S ((f_case_13 E S i).bind F) := by
  unfold f_case_13
  refine ev_aload_n dL_law__841 rfl ?_
  refine ev_aload_n dL_law__842 rfl ?_
  refine ev_iload dL_law__843 rfl ?_
  refine ev_iconst (v := 1) dL_law__845 (by decide) ?_
  refine ev_iadd dL_law__846 ?_
  refine ev_eq (Option.bind_assoc _ _ _) ?_
  refine ev_sld dL_law__847 (fun v1 h1 => ?_)
  refine ev_aload_n dL_law__848 rfl ?_
  refine ev_iload dL_law__849 rfl ?_
  refine ev_iconst (v := 2) dL_law__851 (by decide) ?_
  refine ev_iadd dL_law__852 ?_
  refine ev_eq (Option.bind_assoc _ _ _) ?_
  refine ev_sld dL_law__853 (fun v2 h2 => ?_)
  refine ev_aload_n dL_law__854 rfl ?_
  refine ev_callXI (am_callSH (as := [.ref 0, .int v1, .int v2, .ref 122]) (st := []) ct_L_172 dL_law__855 rfl (am_le rfl) (am_fitL (by omega) (by omega) (by decide) (by decide) (by decide) (by decide)) (t_L_heard hl (by decide) (by decide))) (fun v3 S3 h3 => ?_)
  refine ev_istore dL_law__858 (am_lt rfl) ?_
  refine ev_aload_n dL_law__860 rfl ?_
  refine ev_aload_n dL_law__861 rfl ?_
  refine ev_iload dL_law__862 rfl ?_
  refine ev_iconst (v := 1) dL_law__864 (by decide) ?_
  refine ev_iadd dL_law__865 ?_
  refine ev_eq (Option.bind_assoc _ _ _) ?_
  refine ev_sld dL_law__866 (fun v4 h4 => ?_)
  refine ev_aload_n dL_law__867 rfl ?_
  refine ev_iload dL_law__868 rfl ?_
  refine ev_iconst (v := 2) dL_law__870 (by decide) ?_
  refine ev_iadd dL_law__871 ?_
  refine ev_eq (Option.bind_assoc _ _ _) ?_
  refine ev_sld dL_law__872 (fun v5 h5 => ?_)
  refine ev_eq (Option.bind_assoc _ _ _) ?_
  refine ev_callWI (am_callV (as := [.int v4, .int v5]) (o := 105) (st := []) cv_L_174 dL_law__873 (by decide) rfl (am_le rfl) (am_fitL (by omega) (by omega) (by decide) (by decide) (by decide) (by decide)) (t_X12_heard hl (by decide))) (fun y6 h6 => ?_)
  refine ev_istore dL_law__876 (am_lt rfl) ?_
  refine ev_aload_n dL_law__878 rfl ?_
  refine ev_eq (Option.bind_assoc _ _ _) ?_
  refine ev_callP (am_callV (as := []) (o := 105) (st := []) cv_L_133 dL_law__879 (by decide) rfl (am_le rfl) (am_fitL (by omega) (by omega) (by decide) (by decide) (by decide) (by decide)) (t_X12_thrown hl (by decide))) (fun v7 h7 => ?_)
  refine ev_iload dL_law__882 rfl ?_
  refine ev_eq am_ib ?_
  refine ev_icmp_eq (tgt := 889) dL_law__884 (by decide) (fun c8 => ?_) (fun c8 => ?_)
  · refine ev_iload dL_law__889 rfl ?_
    refine ev_eq am_ib ?_
    refine ev_if_ne (tgt := 906) dL_law__891 (by decide) (fun c9 => ?_) (fun c9 => ?_)
    · refine ev_goto (tgt := 2462) dL_law__906 (by decide) ?_
      exact ev_widen (by omega) (by omega) (ev_leaf (am_wk (am_wk (am_wk (am_wk (am_wk (am_wf (am_wf am_wn))))))) (hN (y6.2, S3.2)))
    · refine ev_aload_n dL_law__894 rfl ?_
      refine ev_iconst (v := 0) dL_law__895 (by decide) ?_
      refine ev_eq (Option.bind_assoc _ _ _) ?_
      refine ev_lald dL_law__896 (by decide) (fun v10 h10 => ?_)
      refine ev_iload dL_law__897 rfl ?_
      refine ev_i2l dL_law__899 ?_
      refine ev_lcmp dL_law__900 ?_
      refine ev_eq am_ib ?_
      refine ev_if_eq (tgt := 906) dL_law__901 (by decide) (fun c11 => ?_) (fun c11 => ?_)
      · refine ev_goto (tgt := 2462) dL_law__906 (by decide) ?_
        exact ev_widen (by omega) (by omega) (ev_leaf (am_wk (am_wk (am_wk (am_wk (am_wk (am_wf (am_wf am_wn))))))) (hN (y6.2, S3.2)))
      · refine ev_iconst (v := 0) dL_law__904 (by decide) ?_
        exact ev_none
  · refine ev_iconst (v := 0) dL_law__887 (by decide) ?_
    exact ev_none
def f_case_14 (E : am_E) (S : am_S) (i : Int32) : Option am_S :=
  ((am_sx E (i + 1)).bind (fun v1 => ((am_sx E (i + 2)).bind (fun v2 => (am_xI (f_L_taken S 0 v1 v2 122) (fun v3 S3 => ((am_sx E (i + 1)).bind (fun v4 => ((am_sx E (i + 2)).bind (fun v5 => ((f_X12_taken S3 105 v4 v5).bind (fun y6 => ((f_X12_thrown (y6.2, S3.2) 105).bind (fun v7 => (if v7 = v3 then (if v3 = 0 then ((am_ld y6.2 122 0).bind (fun v10 => (if (lg_cmp (v10).toInt64 (y6.1).toInt64) = 0 then some (y6.2, S3.2) else none))) else some (y6.2, S3.2)) else none)))))))))))))))
set_option maxRecDepth 20000 in
theorem t_case_14 {β : Type} {E : am_E} {l : Launch} (hl : l.stackTraces = false) {Z : List Frame → Array Value → State → β → State → Prop} {cs sl : Nat} (hcs : cs ≤ 500000) (hsl : sl ≤ 7000000) {S : am_S} {i : Int32} {F : am_S → Option β} (hN : ∀ S, am_Ev E l (RL, cL_law_, 7, (some .boolean), [], room_1) Z (cs + 8) (sl + 48) 2462 [some (.ref 900), some (.ref 0), some (.ref 105), some (.ref 122), some (.int i), none, none] [] S (F S)) : am_Ev E l (RL, cL_law_, 7, (some .boolean), [], room_1) Z cs sl 909 [some (.ref 900), some (.ref 0), some (.ref 105), some (.ref 122), some (.int i), none, none] [] S ((f_case_14 E S i).bind F) := by
  unfold f_case_14
  refine ev_aload_n dL_law__909 rfl ?_
  refine ev_aload_n dL_law__910 rfl ?_
  refine ev_iload dL_law__911 rfl ?_
  refine ev_iconst (v := 1) dL_law__913 (by decide) ?_
  refine ev_iadd dL_law__914 ?_
  refine ev_eq (Option.bind_assoc _ _ _) ?_
  refine ev_sld dL_law__915 (fun v1 h1 => ?_)
  refine ev_aload_n dL_law__916 rfl ?_
  refine ev_iload dL_law__917 rfl ?_
  refine ev_iconst (v := 2) dL_law__919 (by decide) ?_
  refine ev_iadd dL_law__920 ?_
  refine ev_eq (Option.bind_assoc _ _ _) ?_
  refine ev_sld dL_law__921 (fun v2 h2 => ?_)
  refine ev_aload_n dL_law__922 rfl ?_
  refine ev_callXI (am_callSH (as := [.ref 0, .int v1, .int v2, .ref 122]) (st := []) ct_L_175 dL_law__923 rfl (am_le rfl) (am_fitL (by omega) (by omega) (by decide) (by decide) (by decide) (by decide)) (t_L_taken hl (by decide) (by decide))) (fun v3 S3 h3 => ?_)
  refine ev_istore dL_law__926 (am_lt rfl) ?_
  refine ev_aload_n dL_law__928 rfl ?_
  refine ev_aload_n dL_law__929 rfl ?_
  refine ev_iload dL_law__930 rfl ?_
  refine ev_iconst (v := 1) dL_law__932 (by decide) ?_
  refine ev_iadd dL_law__933 ?_
  refine ev_eq (Option.bind_assoc _ _ _) ?_
  refine ev_sld dL_law__934 (fun v4 h4 => ?_)
  refine ev_aload_n dL_law__935 rfl ?_
  refine ev_iload dL_law__936 rfl ?_
  refine ev_iconst (v := 2) dL_law__938 (by decide) ?_
  refine ev_iadd dL_law__939 ?_
  refine ev_eq (Option.bind_assoc _ _ _) ?_
  refine ev_sld dL_law__940 (fun v5 h5 => ?_)
  refine ev_eq (Option.bind_assoc _ _ _) ?_
  refine ev_callWI (am_callV (as := [.int v4, .int v5]) (o := 105) (st := []) cv_L_177 dL_law__941 (by decide) rfl (am_le rfl) (am_fitL (by omega) (by omega) (by decide) (by decide) (by decide) (by decide)) (t_X12_taken hl (by decide))) (fun y6 h6 => ?_)
  refine ev_istore dL_law__944 (am_lt rfl) ?_
  refine ev_aload_n dL_law__946 rfl ?_
  refine ev_eq (Option.bind_assoc _ _ _) ?_
  refine ev_callP (am_callV (as := []) (o := 105) (st := []) cv_L_133 dL_law__947 (by decide) rfl (am_le rfl) (am_fitL (by omega) (by omega) (by decide) (by decide) (by decide) (by decide)) (t_X12_thrown hl (by decide))) (fun v7 h7 => ?_)
  refine ev_iload dL_law__950 rfl ?_
  refine ev_eq am_ib ?_
  refine ev_icmp_eq (tgt := 957) dL_law__952 (by decide) (fun c8 => ?_) (fun c8 => ?_)
  · refine ev_iload dL_law__957 rfl ?_
    refine ev_eq am_ib ?_
    refine ev_if_ne (tgt := 974) dL_law__959 (by decide) (fun c9 => ?_) (fun c9 => ?_)
    · refine ev_goto (tgt := 2462) dL_law__974 (by decide) ?_
      exact ev_widen (by omega) (by omega) (ev_leaf (am_wk (am_wk (am_wk (am_wk (am_wk (am_wf (am_wf am_wn))))))) (hN (y6.2, S3.2)))
    · refine ev_aload_n dL_law__962 rfl ?_
      refine ev_iconst (v := 0) dL_law__963 (by decide) ?_
      refine ev_eq (Option.bind_assoc _ _ _) ?_
      refine ev_lald dL_law__964 (by decide) (fun v10 h10 => ?_)
      refine ev_iload dL_law__965 rfl ?_
      refine ev_i2l dL_law__967 ?_
      refine ev_lcmp dL_law__968 ?_
      refine ev_eq am_ib ?_
      refine ev_if_eq (tgt := 974) dL_law__969 (by decide) (fun c11 => ?_) (fun c11 => ?_)
      · refine ev_goto (tgt := 2462) dL_law__974 (by decide) ?_
        exact ev_widen (by omega) (by omega) (ev_leaf (am_wk (am_wk (am_wk (am_wk (am_wk (am_wf (am_wf am_wn))))))) (hN (y6.2, S3.2)))
      · refine ev_iconst (v := 0) dL_law__972 (by decide) ?_
        exact ev_none
  · refine ev_iconst (v := 0) dL_law__955 (by decide) ?_
    exact ev_none
def f_case_15 (E : am_E) (S : am_S) (i : Int32) : Option am_S :=
  ((am_sx E (i + 1)).bind (fun v1 => ((am_sx E (i + 2)).bind (fun v2 => ((if v2 = 0 then some (0 : Int32) else some (1 : Int32)).bind (fun t4 => (am_xI (f_L_sure S 0 v1 t4 122) (fun v5 S5 => ((am_sx E (i + 1)).bind (fun v6 => ((am_sx E (i + 2)).bind (fun v7 => ((if v7 = 0 then some (0 : Int32) else some (1 : Int32)).bind (fun t9 => ((f_X12_sure S5 105 v6 t9).bind (fun y10 => ((f_X12_thrown (y10.2, S5.2) 105).bind (fun v11 => (if v11 = v5 then (if v5 = 0 then ((am_ld y10.2 122 0).bind (fun v14 => (if (lg_cmp (v14).toInt64 (y10.1).toInt64) = 0 then some (y10.2, S5.2) else none))) else some (y10.2, S5.2)) else none)))))))))))))))))))
set_option maxRecDepth 20000 in
theorem t_case_15 {β : Type} {E : am_E} {l : Launch} (hl : l.stackTraces = false) {Z : List Frame → Array Value → State → β → State → Prop} {cs sl : Nat} (hcs : cs ≤ 500000) (hsl : sl ≤ 7000000) {S : am_S} {i : Int32} {F : am_S → Option β} (hN : ∀ S, am_Ev E l (RL, cL_law_, 7, (some .boolean), [], room_1) Z (cs + 8) (sl + 48) 2462 [some (.ref 900), some (.ref 0), some (.ref 105), some (.ref 122), some (.int i), none, none] [] S (F S)) : am_Ev E l (RL, cL_law_, 7, (some .boolean), [], room_1) Z cs sl 977 [some (.ref 900), some (.ref 0), some (.ref 105), some (.ref 122), some (.int i), none, none] [] S ((f_case_15 E S i).bind F) := by
  unfold f_case_15
  refine ev_aload_n dL_law__977 rfl ?_
  refine ev_aload_n dL_law__978 rfl ?_
  refine ev_iload dL_law__979 rfl ?_
  refine ev_iconst (v := 1) dL_law__981 (by decide) ?_
  refine ev_iadd dL_law__982 ?_
  refine ev_eq (Option.bind_assoc _ _ _) ?_
  refine ev_sld dL_law__983 (fun v1 h1 => ?_)
  refine ev_aload_n dL_law__984 rfl ?_
  refine ev_iload dL_law__985 rfl ?_
  refine ev_iconst (v := 2) dL_law__987 (by decide) ?_
  refine ev_iadd dL_law__988 ?_
  refine ev_eq (Option.bind_assoc _ _ _) ?_
  refine ev_sld dL_law__989 (fun v2 h2 => ?_)
  refine ev_eq (Option.bind_assoc _ _ _) ?_
  refine ev_reg (cs' := cs + 0) (sl' := sl + 0) 998 (fun t4 : Int32 => [some (.ref 900), some (.ref 0), some (.ref 105), some (.ref 122), some (.int i), none, none]) (fun t4 => [.int t4, .int v1, .ref 0]) (fun t4 => S) (fun hJ4 => ?_) (fun t4 => ?_)
  · refine ev_eq am_ib ?_
    refine ev_if_eq (tgt := 997) dL_law__990 (by decide) (fun c4 => ?_) (fun c4 => ?_)
    · refine ev_iconst (v := 0) dL_law__997 (by decide) ?_
      exact ev_leaf (am_wk (am_wk (am_wk (am_wk (am_wk (am_wf (am_wf am_wn))))))) (hJ4 (0 : Int32))
    · refine ev_iconst (v := 1) dL_law__993 (by decide) ?_
      refine ev_goto (tgt := 998) dL_law__994 (by decide) ?_
      exact ev_leaf (am_wk (am_wk (am_wk (am_wk (am_wk (am_wf (am_wf am_wn))))))) (hJ4 (1 : Int32))
  · refine ev_aload_n dL_law__998 rfl ?_
    refine ev_callXI (am_callSH (as := [.ref 0, .int v1, .int t4, .ref 122]) (st := []) ct_L_178 dL_law__999 rfl (am_le rfl) (am_fitL (by omega) (by omega) (by decide) (by decide) (by decide) (by decide)) (t_L_sure hl (by decide) (by decide))) (fun v5 S5 h5 => ?_)
    refine ev_istore dL_law__1002 (am_lt rfl) ?_
    refine ev_aload_n dL_law__1004 rfl ?_
    refine ev_aload_n dL_law__1005 rfl ?_
    refine ev_iload dL_law__1006 rfl ?_
    refine ev_iconst (v := 1) dL_law__1008 (by decide) ?_
    refine ev_iadd dL_law__1009 ?_
    refine ev_eq (Option.bind_assoc _ _ _) ?_
    refine ev_sld dL_law__1010 (fun v6 h6 => ?_)
    refine ev_aload_n dL_law__1011 rfl ?_
    refine ev_iload dL_law__1012 rfl ?_
    refine ev_iconst (v := 2) dL_law__1014 (by decide) ?_
    refine ev_iadd dL_law__1015 ?_
    refine ev_eq (Option.bind_assoc _ _ _) ?_
    refine ev_sld dL_law__1016 (fun v7 h7 => ?_)
    refine ev_eq (Option.bind_assoc _ _ _) ?_
    refine ev_reg (cs' := cs + 1) (sl' := sl + 6) 1025 (fun t9 : Int32 => [some (.ref 900), some (.ref 0), some (.ref 105), some (.ref 122), some (.int i), some (.int v5), none]) (fun t9 => [.int t9, .int v6, .ref 105]) (fun t9 => S5) (fun hJ9 => ?_) (fun t9 => ?_)
    · refine ev_eq am_ib ?_
      refine ev_if_eq (tgt := 1024) dL_law__1017 (by decide) (fun c9 => ?_) (fun c9 => ?_)
      · refine ev_iconst (v := 0) dL_law__1024 (by decide) ?_
        exact ev_leaf (am_wk (am_wk (am_wk (am_wk (am_wk (am_wk (am_wf am_wn))))))) (hJ9 (0 : Int32))
      · refine ev_iconst (v := 1) dL_law__1020 (by decide) ?_
        refine ev_goto (tgt := 1025) dL_law__1021 (by decide) ?_
        exact ev_leaf (am_wk (am_wk (am_wk (am_wk (am_wk (am_wk (am_wf am_wn))))))) (hJ9 (1 : Int32))
    · refine ev_eq (Option.bind_assoc _ _ _) ?_
      refine ev_callWI (am_callV (as := [.int v6, .int t9]) (o := 105) (st := []) cv_L_181 dL_law__1025 (by decide) rfl (am_le rfl) (am_fitL (by omega) (by omega) (by decide) (by decide) (by decide) (by decide)) (t_X12_sure hl (by decide))) (fun y10 h10 => ?_)
      refine ev_istore dL_law__1028 (am_lt rfl) ?_
      refine ev_aload_n dL_law__1030 rfl ?_
      refine ev_eq (Option.bind_assoc _ _ _) ?_
      refine ev_callP (am_callV (as := []) (o := 105) (st := []) cv_L_133 dL_law__1031 (by decide) rfl (am_le rfl) (am_fitL (by omega) (by omega) (by decide) (by decide) (by decide) (by decide)) (t_X12_thrown hl (by decide))) (fun v11 h11 => ?_)
      refine ev_iload dL_law__1034 rfl ?_
      refine ev_eq am_ib ?_
      refine ev_icmp_eq (tgt := 1041) dL_law__1036 (by decide) (fun c12 => ?_) (fun c12 => ?_)
      · refine ev_iload dL_law__1041 rfl ?_
        refine ev_eq am_ib ?_
        refine ev_if_ne (tgt := 1058) dL_law__1043 (by decide) (fun c13 => ?_) (fun c13 => ?_)
        · refine ev_goto (tgt := 2462) dL_law__1058 (by decide) ?_
          exact ev_widen (by omega) (by omega) (ev_leaf (am_wk (am_wk (am_wk (am_wk (am_wk (am_wf (am_wf am_wn))))))) (hN (y10.2, S5.2)))
        · refine ev_aload_n dL_law__1046 rfl ?_
          refine ev_iconst (v := 0) dL_law__1047 (by decide) ?_
          refine ev_eq (Option.bind_assoc _ _ _) ?_
          refine ev_lald dL_law__1048 (by decide) (fun v14 h14 => ?_)
          refine ev_iload dL_law__1049 rfl ?_
          refine ev_i2l dL_law__1051 ?_
          refine ev_lcmp dL_law__1052 ?_
          refine ev_eq am_ib ?_
          refine ev_if_eq (tgt := 1058) dL_law__1053 (by decide) (fun c15 => ?_) (fun c15 => ?_)
          · refine ev_goto (tgt := 2462) dL_law__1058 (by decide) ?_
            exact ev_widen (by omega) (by omega) (ev_leaf (am_wk (am_wk (am_wk (am_wk (am_wk (am_wf (am_wf am_wn))))))) (hN (y10.2, S5.2)))
          · refine ev_iconst (v := 0) dL_law__1056 (by decide) ?_
            exact ev_none
      · refine ev_iconst (v := 0) dL_law__1039 (by decide) ?_
        exact ev_none
def f_case_16 (E : am_E) (S : am_S) (i : Int32) : Option am_S :=
  ((am_sx E (i + 1)).bind (fun v1 => (am_xI (f_L_begins S 0 v1 122) (fun v2 S2 => ((am_sx E (i + 1)).bind (fun v3 => ((f_X12_begins S2 105 v3).bind (fun y4 => ((f_X12_thrown (y4.2, S2.2) 105).bind (fun v5 => (if v5 = v2 then (if v2 = 0 then ((am_ld y4.2 122 0).bind (fun v8 => (if (lg_cmp (v8).toInt64 (y4.1).toInt64) = 0 then some (y4.2, S2.2) else none))) else some (y4.2, S2.2)) else none)))))))))))
set_option maxRecDepth 20000 in
theorem t_case_16 {β : Type} {E : am_E} {l : Launch} (hl : l.stackTraces = false) {Z : List Frame → Array Value → State → β → State → Prop} {cs sl : Nat} (hcs : cs ≤ 500000) (hsl : sl ≤ 7000000) {S : am_S} {i : Int32} {F : am_S → Option β} (hN : ∀ S, am_Ev E l (RL, cL_law_, 7, (some .boolean), [], room_1) Z (cs + 8) (sl + 48) 2462 [some (.ref 900), some (.ref 0), some (.ref 105), some (.ref 122), some (.int i), none, none] [] S (F S)) : am_Ev E l (RL, cL_law_, 7, (some .boolean), [], room_1) Z cs sl 1061 [some (.ref 900), some (.ref 0), some (.ref 105), some (.ref 122), some (.int i), none, none] [] S ((f_case_16 E S i).bind F) := by
  unfold f_case_16
  refine ev_aload_n dL_law__1061 rfl ?_
  refine ev_aload_n dL_law__1062 rfl ?_
  refine ev_iload dL_law__1063 rfl ?_
  refine ev_iconst (v := 1) dL_law__1065 (by decide) ?_
  refine ev_iadd dL_law__1066 ?_
  refine ev_eq (Option.bind_assoc _ _ _) ?_
  refine ev_sld dL_law__1067 (fun v1 h1 => ?_)
  refine ev_aload_n dL_law__1068 rfl ?_
  refine ev_callXI (am_callSH (as := [.ref 0, .int v1, .ref 122]) (st := []) ct_L_182 dL_law__1069 rfl (am_le rfl) (am_fitL (by omega) (by omega) (by decide) (by decide) (by decide) (by decide)) (t_L_begins hl (by decide) (by decide))) (fun v2 S2 h2 => ?_)
  refine ev_istore dL_law__1072 (am_lt rfl) ?_
  refine ev_aload_n dL_law__1074 rfl ?_
  refine ev_aload_n dL_law__1075 rfl ?_
  refine ev_iload dL_law__1076 rfl ?_
  refine ev_iconst (v := 1) dL_law__1078 (by decide) ?_
  refine ev_iadd dL_law__1079 ?_
  refine ev_eq (Option.bind_assoc _ _ _) ?_
  refine ev_sld dL_law__1080 (fun v3 h3 => ?_)
  refine ev_eq (Option.bind_assoc _ _ _) ?_
  refine ev_callWI (am_callV (as := [.int v3]) (o := 105) (st := []) cv_L_184 dL_law__1081 (by decide) rfl (am_le rfl) (am_fitL (by omega) (by omega) (by decide) (by decide) (by decide) (by decide)) (t_X12_begins hl (by decide))) (fun y4 h4 => ?_)
  refine ev_istore dL_law__1084 (am_lt rfl) ?_
  refine ev_aload_n dL_law__1086 rfl ?_
  refine ev_eq (Option.bind_assoc _ _ _) ?_
  refine ev_callP (am_callV (as := []) (o := 105) (st := []) cv_L_133 dL_law__1087 (by decide) rfl (am_le rfl) (am_fitL (by omega) (by omega) (by decide) (by decide) (by decide) (by decide)) (t_X12_thrown hl (by decide))) (fun v5 h5 => ?_)
  refine ev_iload dL_law__1090 rfl ?_
  refine ev_eq am_ib ?_
  refine ev_icmp_eq (tgt := 1097) dL_law__1092 (by decide) (fun c6 => ?_) (fun c6 => ?_)
  · refine ev_iload dL_law__1097 rfl ?_
    refine ev_eq am_ib ?_
    refine ev_if_ne (tgt := 1114) dL_law__1099 (by decide) (fun c7 => ?_) (fun c7 => ?_)
    · refine ev_goto (tgt := 2462) dL_law__1114 (by decide) ?_
      exact ev_widen (by omega) (by omega) (ev_leaf (am_wk (am_wk (am_wk (am_wk (am_wk (am_wf (am_wf am_wn))))))) (hN (y4.2, S2.2)))
    · refine ev_aload_n dL_law__1102 rfl ?_
      refine ev_iconst (v := 0) dL_law__1103 (by decide) ?_
      refine ev_eq (Option.bind_assoc _ _ _) ?_
      refine ev_lald dL_law__1104 (by decide) (fun v8 h8 => ?_)
      refine ev_iload dL_law__1105 rfl ?_
      refine ev_i2l dL_law__1107 ?_
      refine ev_lcmp dL_law__1108 ?_
      refine ev_eq am_ib ?_
      refine ev_if_eq (tgt := 1114) dL_law__1109 (by decide) (fun c9 => ?_) (fun c9 => ?_)
      · refine ev_goto (tgt := 2462) dL_law__1114 (by decide) ?_
        exact ev_widen (by omega) (by omega) (ev_leaf (am_wk (am_wk (am_wk (am_wk (am_wk (am_wf (am_wf am_wn))))))) (hN (y4.2, S2.2)))
      · refine ev_iconst (v := 0) dL_law__1112 (by decide) ?_
        exact ev_none
  · refine ev_iconst (v := 0) dL_law__1095 (by decide) ?_
    exact ev_none
def f_case_17 (E : am_E) (S : am_S) (i : Int32) : Option am_S :=
  ((am_sx E (i + 1)).bind (fun v1 => ((am_sx E (i + 2)).bind (fun v2 => (am_xI (f_L_safe S 0 v1 v2 122) (fun v3 S3 => ((am_sx E (i + 1)).bind (fun v4 => ((am_sx E (i + 2)).bind (fun v5 => ((f_X12_safe S3 105 v4 v5).bind (fun y6 => ((f_X12_thrown (y6.2, S3.2) 105).bind (fun v7 => (if v7 = v3 then (if v3 = 0 then ((am_ld y6.2 122 0).bind (fun v10 => (if y6.1 = 0 then (if (lg_cmp (v10).toInt64 ((0 : Int32)).toInt64) = 0 then some (y6.2, S3.2) else none) else (if (lg_cmp (v10).toInt64 ((1 : Int32)).toInt64) = 0 then some (y6.2, S3.2) else none)))) else some (y6.2, S3.2)) else none)))))))))))))))
set_option maxRecDepth 20000 in
theorem t_case_17 {β : Type} {E : am_E} {l : Launch} (hl : l.stackTraces = false) {Z : List Frame → Array Value → State → β → State → Prop} {cs sl : Nat} (hcs : cs ≤ 500000) (hsl : sl ≤ 7000000) {S : am_S} {i : Int32} {F : am_S → Option β} (hN : ∀ S, am_Ev E l (RL, cL_law_, 7, (some .boolean), [], room_1) Z (cs + 8) (sl + 48) 2462 [some (.ref 900), some (.ref 0), some (.ref 105), some (.ref 122), some (.int i), none, none] [] S (F S)) : am_Ev E l (RL, cL_law_, 7, (some .boolean), [], room_1) Z cs sl 1117 [some (.ref 900), some (.ref 0), some (.ref 105), some (.ref 122), some (.int i), none, none] [] S ((f_case_17 E S i).bind F) := by
  unfold f_case_17
  refine ev_aload_n dL_law__1117 rfl ?_
  refine ev_aload_n dL_law__1118 rfl ?_
  refine ev_iload dL_law__1119 rfl ?_
  refine ev_iconst (v := 1) dL_law__1121 (by decide) ?_
  refine ev_iadd dL_law__1122 ?_
  refine ev_eq (Option.bind_assoc _ _ _) ?_
  refine ev_sld dL_law__1123 (fun v1 h1 => ?_)
  refine ev_aload_n dL_law__1124 rfl ?_
  refine ev_iload dL_law__1125 rfl ?_
  refine ev_iconst (v := 2) dL_law__1127 (by decide) ?_
  refine ev_iadd dL_law__1128 ?_
  refine ev_eq (Option.bind_assoc _ _ _) ?_
  refine ev_sld dL_law__1129 (fun v2 h2 => ?_)
  refine ev_aload_n dL_law__1130 rfl ?_
  refine ev_callXI (am_callSH (as := [.ref 0, .int v1, .int v2, .ref 122]) (st := []) ct_L_185 dL_law__1131 rfl (am_le rfl) (am_fitL (by omega) (by omega) (by decide) (by decide) (by decide) (by decide)) (t_L_safe hl (by decide) (by decide))) (fun v3 S3 h3 => ?_)
  refine ev_istore dL_law__1134 (am_lt rfl) ?_
  refine ev_aload_n dL_law__1136 rfl ?_
  refine ev_aload_n dL_law__1137 rfl ?_
  refine ev_iload dL_law__1138 rfl ?_
  refine ev_iconst (v := 1) dL_law__1140 (by decide) ?_
  refine ev_iadd dL_law__1141 ?_
  refine ev_eq (Option.bind_assoc _ _ _) ?_
  refine ev_sld dL_law__1142 (fun v4 h4 => ?_)
  refine ev_aload_n dL_law__1143 rfl ?_
  refine ev_iload dL_law__1144 rfl ?_
  refine ev_iconst (v := 2) dL_law__1146 (by decide) ?_
  refine ev_iadd dL_law__1147 ?_
  refine ev_eq (Option.bind_assoc _ _ _) ?_
  refine ev_sld dL_law__1148 (fun v5 h5 => ?_)
  refine ev_eq (Option.bind_assoc _ _ _) ?_
  refine ev_callWI (am_callV (as := [.int v4, .int v5]) (o := 105) (st := []) cv_L_187 dL_law__1149 (by decide) rfl (am_le rfl) (am_fitL (by omega) (by omega) (by decide) (by decide) (by decide) (by decide)) (t_X12_safe hl (by decide))) (fun y6 h6 => ?_)
  refine ev_istore dL_law__1152 (am_lt rfl) ?_
  refine ev_aload_n dL_law__1154 rfl ?_
  refine ev_eq (Option.bind_assoc _ _ _) ?_
  refine ev_callP (am_callV (as := []) (o := 105) (st := []) cv_L_133 dL_law__1155 (by decide) rfl (am_le rfl) (am_fitL (by omega) (by omega) (by decide) (by decide) (by decide) (by decide)) (t_X12_thrown hl (by decide))) (fun v7 h7 => ?_)
  refine ev_iload dL_law__1158 rfl ?_
  refine ev_eq am_ib ?_
  refine ev_icmp_eq (tgt := 1165) dL_law__1160 (by decide) (fun c8 => ?_) (fun c8 => ?_)
  · refine ev_iload dL_law__1165 rfl ?_
    refine ev_eq am_ib ?_
    refine ev_if_ne (tgt := 1189) dL_law__1167 (by decide) (fun c9 => ?_) (fun c9 => ?_)
    · refine ev_goto (tgt := 2462) dL_law__1189 (by decide) ?_
      exact ev_widen (by omega) (by omega) (ev_leaf (am_wk (am_wk (am_wk (am_wk (am_wk (am_wf (am_wf am_wn))))))) (hN (y6.2, S3.2)))
    · refine ev_aload_n dL_law__1170 rfl ?_
      refine ev_iconst (v := 0) dL_law__1171 (by decide) ?_
      refine ev_eq (Option.bind_assoc _ _ _) ?_
      refine ev_lald dL_law__1172 (by decide) (fun v10 h10 => ?_)
      refine ev_iload dL_law__1173 rfl ?_
      refine ev_eq am_ib ?_
      refine ev_if_eq (tgt := 1182) dL_law__1175 (by decide) (fun c11 => ?_) (fun c11 => ?_)
      · refine ev_lconst (v := (0 : Int32).toInt64) dL_law__1182 (by decide) ?_
        refine ev_lcmp dL_law__1183 ?_
        refine ev_eq am_ib ?_
        refine ev_if_eq (tgt := 1189) dL_law__1184 (by decide) (fun c12 => ?_) (fun c12 => ?_)
        · refine ev_goto (tgt := 2462) dL_law__1189 (by decide) ?_
          exact ev_widen (by omega) (by omega) (ev_leaf (am_wk (am_wk (am_wk (am_wk (am_wk (am_wf (am_wf am_wn))))))) (hN (y6.2, S3.2)))
        · refine ev_iconst (v := 0) dL_law__1187 (by decide) ?_
          exact ev_none
      · refine ev_lconst (v := (1 : Int32).toInt64) dL_law__1178 (by decide) ?_
        refine ev_goto (tgt := 1183) dL_law__1179 (by decide) ?_
        refine ev_lcmp dL_law__1183 ?_
        refine ev_eq am_ib ?_
        refine ev_if_eq (tgt := 1189) dL_law__1184 (by decide) (fun c13 => ?_) (fun c13 => ?_)
        · refine ev_goto (tgt := 2462) dL_law__1189 (by decide) ?_
          exact ev_widen (by omega) (by omega) (ev_leaf (am_wk (am_wk (am_wk (am_wk (am_wk (am_wf (am_wf am_wn))))))) (hN (y6.2, S3.2)))
        · refine ev_iconst (v := 0) dL_law__1187 (by decide) ?_
          exact ev_none
  · refine ev_iconst (v := 0) dL_law__1163 (by decide) ?_
    exact ev_none
def f_case_18 (E : am_E) (S : am_S) (i : Int32) : Option am_S :=
  ((am_sx E (i + 1)).bind (fun v1 => ((am_sx E (i + 2)).bind (fun v2 => ((am_sx E (i + 3)).bind (fun v3 => (am_xI (f_L_buy S 0 v1 v2 v3 122) (fun v4 S4 => ((am_sx E (i + 1)).bind (fun v5 => ((am_sx E (i + 2)).bind (fun v6 => ((am_sx E (i + 3)).bind (fun v7 => ((f_X12_buy S4 105 v5 v6 v7).bind (fun y8 => ((f_X12_thrown (y8.2, S4.2) 105).bind (fun v9 => (if v9 = v4 then (if v4 = 0 then ((am_ld y8.2 122 0).bind (fun v12 => (if (lg_cmp (v12).toInt64 (y8.1).toInt64) = 0 then some (y8.2, S4.2) else none))) else some (y8.2, S4.2)) else none)))))))))))))))))))
set_option maxRecDepth 20000 in
theorem t_case_18 {β : Type} {E : am_E} {l : Launch} (hl : l.stackTraces = false) {Z : List Frame → Array Value → State → β → State → Prop} {cs sl : Nat} (hcs : cs ≤ 500000) (hsl : sl ≤ 7000000) {S : am_S} {i : Int32} {F : am_S → Option β} (hN : ∀ S, am_Ev E l (RL, cL_law_, 7, (some .boolean), [], room_1) Z (cs + 8) (sl + 48) 2462 [some (.ref 900), some (.ref 0), some (.ref 105), some (.ref 122), some (.int i), none, none] [] S (F S)) : am_Ev E l (RL, cL_law_, 7, (some .boolean), [], room_1) Z cs sl 1192 [some (.ref 900), some (.ref 0), some (.ref 105), some (.ref 122), some (.int i), none, none] [] S ((f_case_18 E S i).bind F) := by
  unfold f_case_18
  refine ev_aload_n dL_law__1192 rfl ?_
  refine ev_aload_n dL_law__1193 rfl ?_
  refine ev_iload dL_law__1194 rfl ?_
  refine ev_iconst (v := 1) dL_law__1196 (by decide) ?_
  refine ev_iadd dL_law__1197 ?_
  refine ev_eq (Option.bind_assoc _ _ _) ?_
  refine ev_sld dL_law__1198 (fun v1 h1 => ?_)
  refine ev_aload_n dL_law__1199 rfl ?_
  refine ev_iload dL_law__1200 rfl ?_
  refine ev_iconst (v := 2) dL_law__1202 (by decide) ?_
  refine ev_iadd dL_law__1203 ?_
  refine ev_eq (Option.bind_assoc _ _ _) ?_
  refine ev_sld dL_law__1204 (fun v2 h2 => ?_)
  refine ev_aload_n dL_law__1205 rfl ?_
  refine ev_iload dL_law__1206 rfl ?_
  refine ev_iconst (v := 3) dL_law__1208 (by decide) ?_
  refine ev_iadd dL_law__1209 ?_
  refine ev_eq (Option.bind_assoc _ _ _) ?_
  refine ev_sld dL_law__1210 (fun v3 h3 => ?_)
  refine ev_aload_n dL_law__1211 rfl ?_
  refine ev_callXI (am_callSH (as := [.ref 0, .int v1, .int v2, .int v3, .ref 122]) (st := []) ct_L_188 dL_law__1212 rfl (am_le rfl) (am_fitL (by omega) (by omega) (by decide) (by decide) (by decide) (by decide)) (t_L_buy hl (by decide) (by decide))) (fun v4 S4 h4 => ?_)
  refine ev_istore dL_law__1215 (am_lt rfl) ?_
  refine ev_aload_n dL_law__1217 rfl ?_
  refine ev_aload_n dL_law__1218 rfl ?_
  refine ev_iload dL_law__1219 rfl ?_
  refine ev_iconst (v := 1) dL_law__1221 (by decide) ?_
  refine ev_iadd dL_law__1222 ?_
  refine ev_eq (Option.bind_assoc _ _ _) ?_
  refine ev_sld dL_law__1223 (fun v5 h5 => ?_)
  refine ev_aload_n dL_law__1224 rfl ?_
  refine ev_iload dL_law__1225 rfl ?_
  refine ev_iconst (v := 2) dL_law__1227 (by decide) ?_
  refine ev_iadd dL_law__1228 ?_
  refine ev_eq (Option.bind_assoc _ _ _) ?_
  refine ev_sld dL_law__1229 (fun v6 h6 => ?_)
  refine ev_aload_n dL_law__1230 rfl ?_
  refine ev_iload dL_law__1231 rfl ?_
  refine ev_iconst (v := 3) dL_law__1233 (by decide) ?_
  refine ev_iadd dL_law__1234 ?_
  refine ev_eq (Option.bind_assoc _ _ _) ?_
  refine ev_sld dL_law__1235 (fun v7 h7 => ?_)
  refine ev_eq (Option.bind_assoc _ _ _) ?_
  refine ev_callWI (am_callV (as := [.int v5, .int v6, .int v7]) (o := 105) (st := []) cv_L_190 dL_law__1236 (by decide) rfl (am_le rfl) (am_fitL (by omega) (by omega) (by decide) (by decide) (by decide) (by decide)) (t_X12_buy hl (by decide))) (fun y8 h8 => ?_)
  refine ev_istore dL_law__1239 (am_lt rfl) ?_
  refine ev_aload_n dL_law__1241 rfl ?_
  refine ev_eq (Option.bind_assoc _ _ _) ?_
  refine ev_callP (am_callV (as := []) (o := 105) (st := []) cv_L_133 dL_law__1242 (by decide) rfl (am_le rfl) (am_fitL (by omega) (by omega) (by decide) (by decide) (by decide) (by decide)) (t_X12_thrown hl (by decide))) (fun v9 h9 => ?_)
  refine ev_iload dL_law__1245 rfl ?_
  refine ev_eq am_ib ?_
  refine ev_icmp_eq (tgt := 1252) dL_law__1247 (by decide) (fun c10 => ?_) (fun c10 => ?_)
  · refine ev_iload dL_law__1252 rfl ?_
    refine ev_eq am_ib ?_
    refine ev_if_ne (tgt := 1269) dL_law__1254 (by decide) (fun c11 => ?_) (fun c11 => ?_)
    · refine ev_goto (tgt := 2462) dL_law__1269 (by decide) ?_
      exact ev_widen (by omega) (by omega) (ev_leaf (am_wk (am_wk (am_wk (am_wk (am_wk (am_wf (am_wf am_wn))))))) (hN (y8.2, S4.2)))
    · refine ev_aload_n dL_law__1257 rfl ?_
      refine ev_iconst (v := 0) dL_law__1258 (by decide) ?_
      refine ev_eq (Option.bind_assoc _ _ _) ?_
      refine ev_lald dL_law__1259 (by decide) (fun v12 h12 => ?_)
      refine ev_iload dL_law__1260 rfl ?_
      refine ev_i2l dL_law__1262 ?_
      refine ev_lcmp dL_law__1263 ?_
      refine ev_eq am_ib ?_
      refine ev_if_eq (tgt := 1269) dL_law__1264 (by decide) (fun c13 => ?_) (fun c13 => ?_)
      · refine ev_goto (tgt := 2462) dL_law__1269 (by decide) ?_
        exact ev_widen (by omega) (by omega) (ev_leaf (am_wk (am_wk (am_wk (am_wk (am_wk (am_wf (am_wf am_wn))))))) (hN (y8.2, S4.2)))
      · refine ev_iconst (v := 0) dL_law__1267 (by decide) ?_
        exact ev_none
  · refine ev_iconst (v := 0) dL_law__1250 (by decide) ?_
    exact ev_none
def f_case_19 (E : am_E) (S : am_S) (i : Int32) : Option am_S :=
  ((am_sx E (i + 1)).bind (fun v1 => ((am_sx E (i + 2)).bind (fun v2 => ((am_sx E (i + 3)).bind (fun v3 => (am_xI (f_L_trade S 0 v1 v2 v3) (fun v4 S4 => ((am_sx E (i + 1)).bind (fun v5 => ((am_sx E (i + 2)).bind (fun v6 => ((am_sx E (i + 3)).bind (fun v7 => ((f_X12_trade S4 105 v5 v6 v7).bind (fun σ8 => ((f_X12_thrown (σ8, S4.2) 105).bind (fun v9 => (if v9 = v4 then some (σ8, S4.2) else none)))))))))))))))))))
set_option maxRecDepth 20000 in
theorem t_case_19 {β : Type} {E : am_E} {l : Launch} (hl : l.stackTraces = false) {Z : List Frame → Array Value → State → β → State → Prop} {cs sl : Nat} (hcs : cs ≤ 500000) (hsl : sl ≤ 7000000) {S : am_S} {i : Int32} {F : am_S → Option β} (hN : ∀ S, am_Ev E l (RL, cL_law_, 7, (some .boolean), [], room_1) Z (cs + 8) (sl + 48) 2462 [some (.ref 900), some (.ref 0), some (.ref 105), some (.ref 122), some (.int i), none, none] [] S (F S)) : am_Ev E l (RL, cL_law_, 7, (some .boolean), [], room_1) Z cs sl 1272 [some (.ref 900), some (.ref 0), some (.ref 105), some (.ref 122), some (.int i), none, none] [] S ((f_case_19 E S i).bind F) := by
  unfold f_case_19
  refine ev_aload_n dL_law__1272 rfl ?_
  refine ev_aload_n dL_law__1273 rfl ?_
  refine ev_iload dL_law__1274 rfl ?_
  refine ev_iconst (v := 1) dL_law__1276 (by decide) ?_
  refine ev_iadd dL_law__1277 ?_
  refine ev_eq (Option.bind_assoc _ _ _) ?_
  refine ev_sld dL_law__1278 (fun v1 h1 => ?_)
  refine ev_aload_n dL_law__1279 rfl ?_
  refine ev_iload dL_law__1280 rfl ?_
  refine ev_iconst (v := 2) dL_law__1282 (by decide) ?_
  refine ev_iadd dL_law__1283 ?_
  refine ev_eq (Option.bind_assoc _ _ _) ?_
  refine ev_sld dL_law__1284 (fun v2 h2 => ?_)
  refine ev_aload_n dL_law__1285 rfl ?_
  refine ev_iload dL_law__1286 rfl ?_
  refine ev_iconst (v := 3) dL_law__1288 (by decide) ?_
  refine ev_iadd dL_law__1289 ?_
  refine ev_eq (Option.bind_assoc _ _ _) ?_
  refine ev_sld dL_law__1290 (fun v3 h3 => ?_)
  refine ev_callXI (am_callSH (as := [.ref 0, .int v1, .int v2, .int v3]) (st := []) ct_L_191 dL_law__1291 rfl (am_le rfl) (am_fitL (by omega) (by omega) (by decide) (by decide) (by decide) (by decide)) (t_L_trade hl (by decide))) (fun v4 S4 h4 => ?_)
  refine ev_istore dL_law__1294 (am_lt rfl) ?_
  refine ev_aload_n dL_law__1296 rfl ?_
  refine ev_aload_n dL_law__1297 rfl ?_
  refine ev_iload dL_law__1298 rfl ?_
  refine ev_iconst (v := 1) dL_law__1300 (by decide) ?_
  refine ev_iadd dL_law__1301 ?_
  refine ev_eq (Option.bind_assoc _ _ _) ?_
  refine ev_sld dL_law__1302 (fun v5 h5 => ?_)
  refine ev_aload_n dL_law__1303 rfl ?_
  refine ev_iload dL_law__1304 rfl ?_
  refine ev_iconst (v := 2) dL_law__1306 (by decide) ?_
  refine ev_iadd dL_law__1307 ?_
  refine ev_eq (Option.bind_assoc _ _ _) ?_
  refine ev_sld dL_law__1308 (fun v6 h6 => ?_)
  refine ev_aload_n dL_law__1309 rfl ?_
  refine ev_iload dL_law__1310 rfl ?_
  refine ev_iconst (v := 3) dL_law__1312 (by decide) ?_
  refine ev_iadd dL_law__1313 ?_
  refine ev_eq (Option.bind_assoc _ _ _) ?_
  refine ev_sld dL_law__1314 (fun v7 h7 => ?_)
  refine ev_eq (Option.bind_assoc _ _ _) ?_
  refine ev_callWV (am_callV (as := [.int v5, .int v6, .int v7]) (o := 105) (st := []) cv_L_194 dL_law__1315 (by decide) rfl (am_le rfl) (am_fitL (by omega) (by omega) (by decide) (by decide) (by decide) (by decide)) (t_X12_trade hl (by decide))) (fun σ8 h8 => ?_)
  refine ev_aload_n dL_law__1318 rfl ?_
  refine ev_eq (Option.bind_assoc _ _ _) ?_
  refine ev_callP (am_callV (as := []) (o := 105) (st := []) cv_L_133 dL_law__1319 (by decide) rfl (am_le rfl) (am_fitL (by omega) (by omega) (by decide) (by decide) (by decide) (by decide)) (t_X12_thrown hl (by decide))) (fun v9 h9 => ?_)
  refine ev_iload dL_law__1322 rfl ?_
  refine ev_eq am_ib ?_
  refine ev_icmp_eq (tgt := 1329) dL_law__1324 (by decide) (fun c10 => ?_) (fun c10 => ?_)
  · refine ev_goto (tgt := 2462) dL_law__1329 (by decide) ?_
    exact ev_widen (by omega) (by omega) (ev_leaf (am_wk (am_wk (am_wk (am_wk (am_wk (am_wf (am_wf am_wn))))))) (hN (σ8, S4.2)))
  · refine ev_iconst (v := 0) dL_law__1327 (by decide) ?_
    exact ev_none
def f_case_20 (E : am_E) (S : am_S) (i : Int32) : Option am_S :=
  ((am_sx E (i + 1)).bind (fun v1 => ((f_X11_least S 0 v1).bind (fun y2 => ((am_sx E (i + 1)).bind (fun v3 => ((f_X12_least (y2.2, S.2) 105 v3).bind (fun y4 => (if y2.1 = y4.1 then some (y4.2, S.2) else none)))))))))
set_option maxRecDepth 20000 in
theorem t_case_20 {β : Type} {E : am_E} {l : Launch} (hl : l.stackTraces = false) {Z : List Frame → Array Value → State → β → State → Prop} {cs sl : Nat} (hcs : cs ≤ 500000) (hsl : sl ≤ 7000000) {S : am_S} {i : Int32} {F : am_S → Option β} (hN : ∀ S, am_Ev E l (RL, cL_law_, 7, (some .boolean), [], room_1) Z (cs + 8) (sl + 48) 2462 [some (.ref 900), some (.ref 0), some (.ref 105), some (.ref 122), some (.int i), none, none] [] S (F S)) : am_Ev E l (RL, cL_law_, 7, (some .boolean), [], room_1) Z cs sl 1332 [some (.ref 900), some (.ref 0), some (.ref 105), some (.ref 122), some (.int i), none, none] [] S ((f_case_20 E S i).bind F) := by
  unfold f_case_20
  refine ev_aload_n dL_law__1332 rfl ?_
  refine ev_aload_n dL_law__1333 rfl ?_
  refine ev_iload dL_law__1334 rfl ?_
  refine ev_iconst (v := 1) dL_law__1336 (by decide) ?_
  refine ev_iadd dL_law__1337 ?_
  refine ev_eq (Option.bind_assoc _ _ _) ?_
  refine ev_sld dL_law__1338 (fun v1 h1 => ?_)
  refine ev_eq (Option.bind_assoc _ _ _) ?_
  refine ev_callWI (am_callV (as := [.int v1]) (o := 0) (st := []) cv_L_195 dL_law__1339 (by decide) rfl (am_le rfl) (am_fitL (by omega) (by omega) (by decide) (by decide) (by decide) (by decide)) (t_X11_least hl (by decide))) (fun y2 h2 => ?_)
  refine ev_aload_n dL_law__1342 rfl ?_
  refine ev_aload_n dL_law__1343 rfl ?_
  refine ev_iload dL_law__1344 rfl ?_
  refine ev_iconst (v := 1) dL_law__1346 (by decide) ?_
  refine ev_iadd dL_law__1347 ?_
  refine ev_eq (Option.bind_assoc _ _ _) ?_
  refine ev_sld dL_law__1348 (fun v3 h3 => ?_)
  refine ev_eq (Option.bind_assoc _ _ _) ?_
  refine ev_callWI (am_callV (as := [.int v3]) (o := 105) (st := [.int y2.1]) cv_L_198 dL_law__1349 (by decide) rfl (am_le rfl) (am_fitL (by omega) (by omega) (by decide) (by decide) (by decide) (by decide)) (t_X12_least hl (by decide))) (fun y4 h4 => ?_)
  refine ev_eq am_ib ?_
  refine ev_icmp_eq (tgt := 2462) dL_law__1352 (by decide) (fun c5 => ?_) (fun c5 => ?_)
  · exact ev_widen (by omega) (by omega) (ev_leaf (am_wk (am_wk (am_wk (am_wk (am_wk (am_wf (am_wf am_wn))))))) (hN (y4.2, S.2)))
  · refine ev_iconst (v := 0) dL_law__1355 (by decide) ?_
    exact ev_none
def f_case_21 (E : am_E) (S : am_S) (i : Int32) : Option am_S :=
  ((am_sx E (i + 1)).bind (fun v1 => (am_xI (f_L_colours S 0 v1 122) (fun v2 S2 => ((am_sx E (i + 1)).bind (fun v3 => ((f_X12_colours S2 105 v3).bind (fun y4 => ((f_X12_thrown (y4.2, S2.2) 105).bind (fun v5 => (if v5 = v2 then (if v2 = 0 then ((am_ld y4.2 122 0).bind (fun v8 => (if (lg_cmp (v8).toInt64 (y4.1).toInt64) = 0 then some (y4.2, S2.2) else none))) else some (y4.2, S2.2)) else none)))))))))))
set_option maxRecDepth 20000 in
theorem t_case_21 {β : Type} {E : am_E} {l : Launch} (hl : l.stackTraces = false) {Z : List Frame → Array Value → State → β → State → Prop} {cs sl : Nat} (hcs : cs ≤ 500000) (hsl : sl ≤ 7000000) {S : am_S} {i : Int32} {F : am_S → Option β} (hN : ∀ S, am_Ev E l (RL, cL_law_, 7, (some .boolean), [], room_1) Z (cs + 8) (sl + 48) 2462 [some (.ref 900), some (.ref 0), some (.ref 105), some (.ref 122), some (.int i), none, none] [] S (F S)) : am_Ev E l (RL, cL_law_, 7, (some .boolean), [], room_1) Z cs sl 1357 [some (.ref 900), some (.ref 0), some (.ref 105), some (.ref 122), some (.int i), none, none] [] S ((f_case_21 E S i).bind F) := by
  unfold f_case_21
  refine ev_aload_n dL_law__1357 rfl ?_
  refine ev_aload_n dL_law__1358 rfl ?_
  refine ev_iload dL_law__1359 rfl ?_
  refine ev_iconst (v := 1) dL_law__1361 (by decide) ?_
  refine ev_iadd dL_law__1362 ?_
  refine ev_eq (Option.bind_assoc _ _ _) ?_
  refine ev_sld dL_law__1363 (fun v1 h1 => ?_)
  refine ev_aload_n dL_law__1364 rfl ?_
  refine ev_callXI (am_callSH (as := [.ref 0, .int v1, .ref 122]) (st := []) ct_L_199 dL_law__1365 rfl (am_le rfl) (am_fitL (by omega) (by omega) (by decide) (by decide) (by decide) (by decide)) (t_L_colours hl (by decide) (by decide))) (fun v2 S2 h2 => ?_)
  refine ev_istore dL_law__1368 (am_lt rfl) ?_
  refine ev_aload_n dL_law__1370 rfl ?_
  refine ev_aload_n dL_law__1371 rfl ?_
  refine ev_iload dL_law__1372 rfl ?_
  refine ev_iconst (v := 1) dL_law__1374 (by decide) ?_
  refine ev_iadd dL_law__1375 ?_
  refine ev_eq (Option.bind_assoc _ _ _) ?_
  refine ev_sld dL_law__1376 (fun v3 h3 => ?_)
  refine ev_eq (Option.bind_assoc _ _ _) ?_
  refine ev_callWI (am_callV (as := [.int v3]) (o := 105) (st := []) cv_L_201 dL_law__1377 (by decide) rfl (am_le rfl) (am_fitL (by omega) (by omega) (by decide) (by decide) (by decide) (by decide)) (t_X12_colours hl (by decide))) (fun y4 h4 => ?_)
  refine ev_istore dL_law__1380 (am_lt rfl) ?_
  refine ev_aload_n dL_law__1382 rfl ?_
  refine ev_eq (Option.bind_assoc _ _ _) ?_
  refine ev_callP (am_callV (as := []) (o := 105) (st := []) cv_L_133 dL_law__1383 (by decide) rfl (am_le rfl) (am_fitL (by omega) (by omega) (by decide) (by decide) (by decide) (by decide)) (t_X12_thrown hl (by decide))) (fun v5 h5 => ?_)
  refine ev_iload dL_law__1386 rfl ?_
  refine ev_eq am_ib ?_
  refine ev_icmp_eq (tgt := 1393) dL_law__1388 (by decide) (fun c6 => ?_) (fun c6 => ?_)
  · refine ev_iload dL_law__1393 rfl ?_
    refine ev_eq am_ib ?_
    refine ev_if_ne (tgt := 1410) dL_law__1395 (by decide) (fun c7 => ?_) (fun c7 => ?_)
    · refine ev_goto (tgt := 2462) dL_law__1410 (by decide) ?_
      exact ev_widen (by omega) (by omega) (ev_leaf (am_wk (am_wk (am_wk (am_wk (am_wk (am_wf (am_wf am_wn))))))) (hN (y4.2, S2.2)))
    · refine ev_aload_n dL_law__1398 rfl ?_
      refine ev_iconst (v := 0) dL_law__1399 (by decide) ?_
      refine ev_eq (Option.bind_assoc _ _ _) ?_
      refine ev_lald dL_law__1400 (by decide) (fun v8 h8 => ?_)
      refine ev_iload dL_law__1401 rfl ?_
      refine ev_i2l dL_law__1403 ?_
      refine ev_lcmp dL_law__1404 ?_
      refine ev_eq am_ib ?_
      refine ev_if_eq (tgt := 1410) dL_law__1405 (by decide) (fun c9 => ?_) (fun c9 => ?_)
      · refine ev_goto (tgt := 2462) dL_law__1410 (by decide) ?_
        exact ev_widen (by omega) (by omega) (ev_leaf (am_wk (am_wk (am_wk (am_wk (am_wk (am_wf (am_wf am_wn))))))) (hN (y4.2, S2.2)))
      · refine ev_iconst (v := 0) dL_law__1408 (by decide) ?_
        exact ev_none
  · refine ev_iconst (v := 0) dL_law__1391 (by decide) ?_
    exact ev_none
def f_case_22 (E : am_E) (S : am_S) (i : Int32) : Option am_S :=
  ((am_sx E (i + 1)).bind (fun v1 => ((am_sx E (i + 2)).bind (fun v2 => ((am_sx E (i + 3)).bind (fun v3 => (am_xI (f_L_relay S 0 v1 v2 v3 122) (fun v4 S4 => ((am_sx E (i + 1)).bind (fun v5 => ((am_sx E (i + 2)).bind (fun v6 => ((am_sx E (i + 3)).bind (fun v7 => ((f_X12_relay S4 105 v5 v6 v7).bind (fun y8 => ((f_X12_thrown (y8.2, S4.2) 105).bind (fun v9 => (if v9 = v4 then (if v4 = 0 then ((am_ld y8.2 122 0).bind (fun v12 => (if (lg_cmp (v12).toInt64 (y8.1).toInt64) = 0 then some (y8.2, S4.2) else none))) else some (y8.2, S4.2)) else none)))))))))))))))))))
set_option maxRecDepth 20000 in
theorem t_case_22 {β : Type} {E : am_E} {l : Launch} (hl : l.stackTraces = false) {Z : List Frame → Array Value → State → β → State → Prop} {cs sl : Nat} (hcs : cs ≤ 500000) (hsl : sl ≤ 7000000) {S : am_S} {i : Int32} {F : am_S → Option β} (hN : ∀ S, am_Ev E l (RL, cL_law_, 7, (some .boolean), [], room_1) Z (cs + 8) (sl + 48) 2462 [some (.ref 900), some (.ref 0), some (.ref 105), some (.ref 122), some (.int i), none, none] [] S (F S)) : am_Ev E l (RL, cL_law_, 7, (some .boolean), [], room_1) Z cs sl 1413 [some (.ref 900), some (.ref 0), some (.ref 105), some (.ref 122), some (.int i), none, none] [] S ((f_case_22 E S i).bind F) := by
  unfold f_case_22
  refine ev_aload_n dL_law__1413 rfl ?_
  refine ev_aload_n dL_law__1414 rfl ?_
  refine ev_iload dL_law__1415 rfl ?_
  refine ev_iconst (v := 1) dL_law__1417 (by decide) ?_
  refine ev_iadd dL_law__1418 ?_
  refine ev_eq (Option.bind_assoc _ _ _) ?_
  refine ev_sld dL_law__1419 (fun v1 h1 => ?_)
  refine ev_aload_n dL_law__1420 rfl ?_
  refine ev_iload dL_law__1421 rfl ?_
  refine ev_iconst (v := 2) dL_law__1423 (by decide) ?_
  refine ev_iadd dL_law__1424 ?_
  refine ev_eq (Option.bind_assoc _ _ _) ?_
  refine ev_sld dL_law__1425 (fun v2 h2 => ?_)
  refine ev_aload_n dL_law__1426 rfl ?_
  refine ev_iload dL_law__1427 rfl ?_
  refine ev_iconst (v := 3) dL_law__1429 (by decide) ?_
  refine ev_iadd dL_law__1430 ?_
  refine ev_eq (Option.bind_assoc _ _ _) ?_
  refine ev_sld dL_law__1431 (fun v3 h3 => ?_)
  refine ev_aload_n dL_law__1432 rfl ?_
  refine ev_callXI (am_callSH (as := [.ref 0, .int v1, .int v2, .int v3, .ref 122]) (st := []) ct_L_202 dL_law__1433 rfl (am_le rfl) (am_fitL (by omega) (by omega) (by decide) (by decide) (by decide) (by decide)) (t_L_relay hl (by decide) (by decide))) (fun v4 S4 h4 => ?_)
  refine ev_istore dL_law__1436 (am_lt rfl) ?_
  refine ev_aload_n dL_law__1438 rfl ?_
  refine ev_aload_n dL_law__1439 rfl ?_
  refine ev_iload dL_law__1440 rfl ?_
  refine ev_iconst (v := 1) dL_law__1442 (by decide) ?_
  refine ev_iadd dL_law__1443 ?_
  refine ev_eq (Option.bind_assoc _ _ _) ?_
  refine ev_sld dL_law__1444 (fun v5 h5 => ?_)
  refine ev_aload_n dL_law__1445 rfl ?_
  refine ev_iload dL_law__1446 rfl ?_
  refine ev_iconst (v := 2) dL_law__1448 (by decide) ?_
  refine ev_iadd dL_law__1449 ?_
  refine ev_eq (Option.bind_assoc _ _ _) ?_
  refine ev_sld dL_law__1450 (fun v6 h6 => ?_)
  refine ev_aload_n dL_law__1451 rfl ?_
  refine ev_iload dL_law__1452 rfl ?_
  refine ev_iconst (v := 3) dL_law__1454 (by decide) ?_
  refine ev_iadd dL_law__1455 ?_
  refine ev_eq (Option.bind_assoc _ _ _) ?_
  refine ev_sld dL_law__1456 (fun v7 h7 => ?_)
  refine ev_eq (Option.bind_assoc _ _ _) ?_
  refine ev_callWI (am_callV (as := [.int v5, .int v6, .int v7]) (o := 105) (st := []) cv_L_204 dL_law__1457 (by decide) rfl (am_le rfl) (am_fitL (by omega) (by omega) (by decide) (by decide) (by decide) (by decide)) (t_X12_relay hl (by decide))) (fun y8 h8 => ?_)
  refine ev_istore dL_law__1460 (am_lt rfl) ?_
  refine ev_aload_n dL_law__1462 rfl ?_
  refine ev_eq (Option.bind_assoc _ _ _) ?_
  refine ev_callP (am_callV (as := []) (o := 105) (st := []) cv_L_133 dL_law__1463 (by decide) rfl (am_le rfl) (am_fitL (by omega) (by omega) (by decide) (by decide) (by decide) (by decide)) (t_X12_thrown hl (by decide))) (fun v9 h9 => ?_)
  refine ev_iload dL_law__1466 rfl ?_
  refine ev_eq am_ib ?_
  refine ev_icmp_eq (tgt := 1473) dL_law__1468 (by decide) (fun c10 => ?_) (fun c10 => ?_)
  · refine ev_iload dL_law__1473 rfl ?_
    refine ev_eq am_ib ?_
    refine ev_if_ne (tgt := 1490) dL_law__1475 (by decide) (fun c11 => ?_) (fun c11 => ?_)
    · refine ev_goto (tgt := 2462) dL_law__1490 (by decide) ?_
      exact ev_widen (by omega) (by omega) (ev_leaf (am_wk (am_wk (am_wk (am_wk (am_wk (am_wf (am_wf am_wn))))))) (hN (y8.2, S4.2)))
    · refine ev_aload_n dL_law__1478 rfl ?_
      refine ev_iconst (v := 0) dL_law__1479 (by decide) ?_
      refine ev_eq (Option.bind_assoc _ _ _) ?_
      refine ev_lald dL_law__1480 (by decide) (fun v12 h12 => ?_)
      refine ev_iload dL_law__1481 rfl ?_
      refine ev_i2l dL_law__1483 ?_
      refine ev_lcmp dL_law__1484 ?_
      refine ev_eq am_ib ?_
      refine ev_if_eq (tgt := 1490) dL_law__1485 (by decide) (fun c13 => ?_) (fun c13 => ?_)
      · refine ev_goto (tgt := 2462) dL_law__1490 (by decide) ?_
        exact ev_widen (by omega) (by omega) (ev_leaf (am_wk (am_wk (am_wk (am_wk (am_wk (am_wf (am_wf am_wn))))))) (hN (y8.2, S4.2)))
      · refine ev_iconst (v := 0) dL_law__1488 (by decide) ?_
        exact ev_none
  · refine ev_iconst (v := 0) dL_law__1471 (by decide) ?_
    exact ev_none
def f_case_23 (E : am_E) (S : am_S) (i : Int32) : Option am_S :=
  ((am_sx E (i + 1)).bind (fun v1 => ((am_sx E (i + 2)).bind (fun v2 => (am_xI (f_L_ringers S 0 v1 v2 122) (fun v3 S3 => ((am_sx E (i + 1)).bind (fun v4 => ((am_sx E (i + 2)).bind (fun v5 => ((f_X12_ringers S3 105 v4 v5).bind (fun y6 => ((f_X12_thrown (y6.2, S3.2) 105).bind (fun v7 => (if v7 = v3 then (if v3 = 0 then ((am_ld y6.2 122 0).bind (fun v10 => (if (lg_cmp (v10).toInt64 (y6.1).toInt64) = 0 then some (y6.2, S3.2) else none))) else some (y6.2, S3.2)) else none)))))))))))))))
set_option maxRecDepth 20000 in
theorem t_case_23 {β : Type} {E : am_E} {l : Launch} (hl : l.stackTraces = false) {Z : List Frame → Array Value → State → β → State → Prop} {cs sl : Nat} (hcs : cs ≤ 500000) (hsl : sl ≤ 7000000) {S : am_S} {i : Int32} {F : am_S → Option β} (hN : ∀ S, am_Ev E l (RL, cL_law_, 7, (some .boolean), [], room_1) Z (cs + 8) (sl + 48) 2462 [some (.ref 900), some (.ref 0), some (.ref 105), some (.ref 122), some (.int i), none, none] [] S (F S)) : am_Ev E l (RL, cL_law_, 7, (some .boolean), [], room_1) Z cs sl 1493 [some (.ref 900), some (.ref 0), some (.ref 105), some (.ref 122), some (.int i), none, none] [] S ((f_case_23 E S i).bind F) := by
  unfold f_case_23
  refine ev_aload_n dL_law__1493 rfl ?_
  refine ev_aload_n dL_law__1494 rfl ?_
  refine ev_iload dL_law__1495 rfl ?_
  refine ev_iconst (v := 1) dL_law__1497 (by decide) ?_
  refine ev_iadd dL_law__1498 ?_
  refine ev_eq (Option.bind_assoc _ _ _) ?_
  refine ev_sld dL_law__1499 (fun v1 h1 => ?_)
  refine ev_aload_n dL_law__1500 rfl ?_
  refine ev_iload dL_law__1501 rfl ?_
  refine ev_iconst (v := 2) dL_law__1503 (by decide) ?_
  refine ev_iadd dL_law__1504 ?_
  refine ev_eq (Option.bind_assoc _ _ _) ?_
  refine ev_sld dL_law__1505 (fun v2 h2 => ?_)
  refine ev_aload_n dL_law__1506 rfl ?_
  refine ev_callXI (am_callSH (as := [.ref 0, .int v1, .int v2, .ref 122]) (st := []) ct_L_205 dL_law__1507 rfl (am_le rfl) (am_fitL (by omega) (by omega) (by decide) (by decide) (by decide) (by decide)) (t_L_ringers hl (by decide) (by decide))) (fun v3 S3 h3 => ?_)
  refine ev_istore dL_law__1510 (am_lt rfl) ?_
  refine ev_aload_n dL_law__1512 rfl ?_
  refine ev_aload_n dL_law__1513 rfl ?_
  refine ev_iload dL_law__1514 rfl ?_
  refine ev_iconst (v := 1) dL_law__1516 (by decide) ?_
  refine ev_iadd dL_law__1517 ?_
  refine ev_eq (Option.bind_assoc _ _ _) ?_
  refine ev_sld dL_law__1518 (fun v4 h4 => ?_)
  refine ev_aload_n dL_law__1519 rfl ?_
  refine ev_iload dL_law__1520 rfl ?_
  refine ev_iconst (v := 2) dL_law__1522 (by decide) ?_
  refine ev_iadd dL_law__1523 ?_
  refine ev_eq (Option.bind_assoc _ _ _) ?_
  refine ev_sld dL_law__1524 (fun v5 h5 => ?_)
  refine ev_eq (Option.bind_assoc _ _ _) ?_
  refine ev_callWI (am_callV (as := [.int v4, .int v5]) (o := 105) (st := []) cv_L_207 dL_law__1525 (by decide) rfl (am_le rfl) (am_fitL (by omega) (by omega) (by decide) (by decide) (by decide) (by decide)) (t_X12_ringers hl (by decide))) (fun y6 h6 => ?_)
  refine ev_istore dL_law__1528 (am_lt rfl) ?_
  refine ev_aload_n dL_law__1530 rfl ?_
  refine ev_eq (Option.bind_assoc _ _ _) ?_
  refine ev_callP (am_callV (as := []) (o := 105) (st := []) cv_L_133 dL_law__1531 (by decide) rfl (am_le rfl) (am_fitL (by omega) (by omega) (by decide) (by decide) (by decide) (by decide)) (t_X12_thrown hl (by decide))) (fun v7 h7 => ?_)
  refine ev_iload dL_law__1534 rfl ?_
  refine ev_eq am_ib ?_
  refine ev_icmp_eq (tgt := 1541) dL_law__1536 (by decide) (fun c8 => ?_) (fun c8 => ?_)
  · refine ev_iload dL_law__1541 rfl ?_
    refine ev_eq am_ib ?_
    refine ev_if_ne (tgt := 1558) dL_law__1543 (by decide) (fun c9 => ?_) (fun c9 => ?_)
    · refine ev_goto (tgt := 2462) dL_law__1558 (by decide) ?_
      exact ev_widen (by omega) (by omega) (ev_leaf (am_wk (am_wk (am_wk (am_wk (am_wk (am_wf (am_wf am_wn))))))) (hN (y6.2, S3.2)))
    · refine ev_aload_n dL_law__1546 rfl ?_
      refine ev_iconst (v := 0) dL_law__1547 (by decide) ?_
      refine ev_eq (Option.bind_assoc _ _ _) ?_
      refine ev_lald dL_law__1548 (by decide) (fun v10 h10 => ?_)
      refine ev_iload dL_law__1549 rfl ?_
      refine ev_i2l dL_law__1551 ?_
      refine ev_lcmp dL_law__1552 ?_
      refine ev_eq am_ib ?_
      refine ev_if_eq (tgt := 1558) dL_law__1553 (by decide) (fun c11 => ?_) (fun c11 => ?_)
      · refine ev_goto (tgt := 2462) dL_law__1558 (by decide) ?_
        exact ev_widen (by omega) (by omega) (ev_leaf (am_wk (am_wk (am_wk (am_wk (am_wk (am_wf (am_wf am_wn))))))) (hN (y6.2, S3.2)))
      · refine ev_iconst (v := 0) dL_law__1556 (by decide) ?_
        exact ev_none
  · refine ev_iconst (v := 0) dL_law__1539 (by decide) ?_
    exact ev_none
def f_case_24 (E : am_E) (S : am_S) (i : Int32) : Option am_S :=
  ((am_sx E (i + 1)).bind (fun v1 => ((am_sx E (i + 2)).bind (fun v2 => (am_xI (f_L_six S 0 v1 v2 122) (fun v3 S3 => ((am_sx E (i + 1)).bind (fun v4 => ((am_sx E (i + 2)).bind (fun v5 => ((f_X12_six S3 105 v4 v5).bind (fun y6 => ((f_X12_thrown (y6.2, S3.2) 105).bind (fun v7 => (if v7 = v3 then (if v3 = 0 then ((am_ld y6.2 122 0).bind (fun v10 => (if (lg_cmp (v10).toInt64 (y6.1).toInt64) = 0 then some (y6.2, S3.2) else none))) else some (y6.2, S3.2)) else none)))))))))))))))
set_option maxRecDepth 20000 in
theorem t_case_24 {β : Type} {E : am_E} {l : Launch} (hl : l.stackTraces = false) {Z : List Frame → Array Value → State → β → State → Prop} {cs sl : Nat} (hcs : cs ≤ 500000) (hsl : sl ≤ 7000000) {S : am_S} {i : Int32} {F : am_S → Option β} (hN : ∀ S, am_Ev E l (RL, cL_law_, 7, (some .boolean), [], room_1) Z (cs + 8) (sl + 48) 2462 [some (.ref 900), some (.ref 0), some (.ref 105), some (.ref 122), some (.int i), none, none] [] S (F S)) : am_Ev E l (RL, cL_law_, 7, (some .boolean), [], room_1) Z cs sl 1561 [some (.ref 900), some (.ref 0), some (.ref 105), some (.ref 122), some (.int i), none, none] [] S ((f_case_24 E S i).bind F) := by
  unfold f_case_24
  refine ev_aload_n dL_law__1561 rfl ?_
  refine ev_aload_n dL_law__1562 rfl ?_
  refine ev_iload dL_law__1563 rfl ?_
  refine ev_iconst (v := 1) dL_law__1565 (by decide) ?_
  refine ev_iadd dL_law__1566 ?_
  refine ev_eq (Option.bind_assoc _ _ _) ?_
  refine ev_sld dL_law__1567 (fun v1 h1 => ?_)
  refine ev_aload_n dL_law__1568 rfl ?_
  refine ev_iload dL_law__1569 rfl ?_
  refine ev_iconst (v := 2) dL_law__1571 (by decide) ?_
  refine ev_iadd dL_law__1572 ?_
  refine ev_eq (Option.bind_assoc _ _ _) ?_
  refine ev_sld dL_law__1573 (fun v2 h2 => ?_)
  refine ev_aload_n dL_law__1574 rfl ?_
  refine ev_callXI (am_callSH (as := [.ref 0, .int v1, .int v2, .ref 122]) (st := []) ct_L_208 dL_law__1575 rfl (am_le rfl) (am_fitL (by omega) (by omega) (by decide) (by decide) (by decide) (by decide)) (t_L_six hl (by decide) (by decide))) (fun v3 S3 h3 => ?_)
  refine ev_istore dL_law__1578 (am_lt rfl) ?_
  refine ev_aload_n dL_law__1580 rfl ?_
  refine ev_aload_n dL_law__1581 rfl ?_
  refine ev_iload dL_law__1582 rfl ?_
  refine ev_iconst (v := 1) dL_law__1584 (by decide) ?_
  refine ev_iadd dL_law__1585 ?_
  refine ev_eq (Option.bind_assoc _ _ _) ?_
  refine ev_sld dL_law__1586 (fun v4 h4 => ?_)
  refine ev_aload_n dL_law__1587 rfl ?_
  refine ev_iload dL_law__1588 rfl ?_
  refine ev_iconst (v := 2) dL_law__1590 (by decide) ?_
  refine ev_iadd dL_law__1591 ?_
  refine ev_eq (Option.bind_assoc _ _ _) ?_
  refine ev_sld dL_law__1592 (fun v5 h5 => ?_)
  refine ev_eq (Option.bind_assoc _ _ _) ?_
  refine ev_callWI (am_callV (as := [.int v4, .int v5]) (o := 105) (st := []) cv_L_210 dL_law__1593 (by decide) rfl (am_le rfl) (am_fitL (by omega) (by omega) (by decide) (by decide) (by decide) (by decide)) (t_X12_six hl (by decide))) (fun y6 h6 => ?_)
  refine ev_istore dL_law__1596 (am_lt rfl) ?_
  refine ev_aload_n dL_law__1598 rfl ?_
  refine ev_eq (Option.bind_assoc _ _ _) ?_
  refine ev_callP (am_callV (as := []) (o := 105) (st := []) cv_L_133 dL_law__1599 (by decide) rfl (am_le rfl) (am_fitL (by omega) (by omega) (by decide) (by decide) (by decide) (by decide)) (t_X12_thrown hl (by decide))) (fun v7 h7 => ?_)
  refine ev_iload dL_law__1602 rfl ?_
  refine ev_eq am_ib ?_
  refine ev_icmp_eq (tgt := 1609) dL_law__1604 (by decide) (fun c8 => ?_) (fun c8 => ?_)
  · refine ev_iload dL_law__1609 rfl ?_
    refine ev_eq am_ib ?_
    refine ev_if_ne (tgt := 1626) dL_law__1611 (by decide) (fun c9 => ?_) (fun c9 => ?_)
    · refine ev_goto (tgt := 2462) dL_law__1626 (by decide) ?_
      exact ev_widen (by omega) (by omega) (ev_leaf (am_wk (am_wk (am_wk (am_wk (am_wk (am_wf (am_wf am_wn))))))) (hN (y6.2, S3.2)))
    · refine ev_aload_n dL_law__1614 rfl ?_
      refine ev_iconst (v := 0) dL_law__1615 (by decide) ?_
      refine ev_eq (Option.bind_assoc _ _ _) ?_
      refine ev_lald dL_law__1616 (by decide) (fun v10 h10 => ?_)
      refine ev_iload dL_law__1617 rfl ?_
      refine ev_i2l dL_law__1619 ?_
      refine ev_lcmp dL_law__1620 ?_
      refine ev_eq am_ib ?_
      refine ev_if_eq (tgt := 1626) dL_law__1621 (by decide) (fun c11 => ?_) (fun c11 => ?_)
      · refine ev_goto (tgt := 2462) dL_law__1626 (by decide) ?_
        exact ev_widen (by omega) (by omega) (ev_leaf (am_wk (am_wk (am_wk (am_wk (am_wk (am_wf (am_wf am_wn))))))) (hN (y6.2, S3.2)))
      · refine ev_iconst (v := 0) dL_law__1624 (by decide) ?_
        exact ev_none
  · refine ev_iconst (v := 0) dL_law__1607 (by decide) ?_
    exact ev_none
def f_case_25 (E : am_E) (S : am_S) (i : Int32) : Option am_S :=
  ((am_sx E (i + 1)).bind (fun v1 => ((am_sx E (i + 2)).bind (fun v2 => ((am_sx E (i + 3)).bind (fun v3 => (am_xI (f_L_lot S 0 v1 v2 v3 122) (fun v4 S4 => ((am_sx E (i + 1)).bind (fun v5 => ((am_sx E (i + 2)).bind (fun v6 => ((am_sx E (i + 3)).bind (fun v7 => ((f_X12_lot S4 105 v5 v6 v7).bind (fun y8 => ((f_X12_thrown (y8.2, S4.2) 105).bind (fun v9 => (if v9 = v4 then (if v4 = 0 then ((am_ld y8.2 122 0).bind (fun v12 => (if (lg_cmp (v12).toInt64 (y8.1).toInt64) = 0 then some (y8.2, S4.2) else none))) else some (y8.2, S4.2)) else none)))))))))))))))))))
set_option maxRecDepth 20000 in
theorem t_case_25 {β : Type} {E : am_E} {l : Launch} (hl : l.stackTraces = false) {Z : List Frame → Array Value → State → β → State → Prop} {cs sl : Nat} (hcs : cs ≤ 500000) (hsl : sl ≤ 7000000) {S : am_S} {i : Int32} {F : am_S → Option β} (hN : ∀ S, am_Ev E l (RL, cL_law_, 7, (some .boolean), [], room_1) Z (cs + 8) (sl + 48) 2462 [some (.ref 900), some (.ref 0), some (.ref 105), some (.ref 122), some (.int i), none, none] [] S (F S)) : am_Ev E l (RL, cL_law_, 7, (some .boolean), [], room_1) Z cs sl 1629 [some (.ref 900), some (.ref 0), some (.ref 105), some (.ref 122), some (.int i), none, none] [] S ((f_case_25 E S i).bind F) := by
  unfold f_case_25
  refine ev_aload_n dL_law__1629 rfl ?_
  refine ev_aload_n dL_law__1630 rfl ?_
  refine ev_iload dL_law__1631 rfl ?_
  refine ev_iconst (v := 1) dL_law__1633 (by decide) ?_
  refine ev_iadd dL_law__1634 ?_
  refine ev_eq (Option.bind_assoc _ _ _) ?_
  refine ev_sld dL_law__1635 (fun v1 h1 => ?_)
  refine ev_aload_n dL_law__1636 rfl ?_
  refine ev_iload dL_law__1637 rfl ?_
  refine ev_iconst (v := 2) dL_law__1639 (by decide) ?_
  refine ev_iadd dL_law__1640 ?_
  refine ev_eq (Option.bind_assoc _ _ _) ?_
  refine ev_sld dL_law__1641 (fun v2 h2 => ?_)
  refine ev_aload_n dL_law__1642 rfl ?_
  refine ev_iload dL_law__1643 rfl ?_
  refine ev_iconst (v := 3) dL_law__1645 (by decide) ?_
  refine ev_iadd dL_law__1646 ?_
  refine ev_eq (Option.bind_assoc _ _ _) ?_
  refine ev_sld dL_law__1647 (fun v3 h3 => ?_)
  refine ev_aload_n dL_law__1648 rfl ?_
  refine ev_callXI (am_callSH (as := [.ref 0, .int v1, .int v2, .int v3, .ref 122]) (st := []) ct_L_211 dL_law__1649 rfl (am_le rfl) (am_fitL (by omega) (by omega) (by decide) (by decide) (by decide) (by decide)) (t_L_lot hl (by decide) (by decide))) (fun v4 S4 h4 => ?_)
  refine ev_istore dL_law__1652 (am_lt rfl) ?_
  refine ev_aload_n dL_law__1654 rfl ?_
  refine ev_aload_n dL_law__1655 rfl ?_
  refine ev_iload dL_law__1656 rfl ?_
  refine ev_iconst (v := 1) dL_law__1658 (by decide) ?_
  refine ev_iadd dL_law__1659 ?_
  refine ev_eq (Option.bind_assoc _ _ _) ?_
  refine ev_sld dL_law__1660 (fun v5 h5 => ?_)
  refine ev_aload_n dL_law__1661 rfl ?_
  refine ev_iload dL_law__1662 rfl ?_
  refine ev_iconst (v := 2) dL_law__1664 (by decide) ?_
  refine ev_iadd dL_law__1665 ?_
  refine ev_eq (Option.bind_assoc _ _ _) ?_
  refine ev_sld dL_law__1666 (fun v6 h6 => ?_)
  refine ev_aload_n dL_law__1667 rfl ?_
  refine ev_iload dL_law__1668 rfl ?_
  refine ev_iconst (v := 3) dL_law__1670 (by decide) ?_
  refine ev_iadd dL_law__1671 ?_
  refine ev_eq (Option.bind_assoc _ _ _) ?_
  refine ev_sld dL_law__1672 (fun v7 h7 => ?_)
  refine ev_eq (Option.bind_assoc _ _ _) ?_
  refine ev_callWI (am_callV (as := [.int v5, .int v6, .int v7]) (o := 105) (st := []) cv_L_213 dL_law__1673 (by decide) rfl (am_le rfl) (am_fitL (by omega) (by omega) (by decide) (by decide) (by decide) (by decide)) (t_X12_lot hl (by decide))) (fun y8 h8 => ?_)
  refine ev_istore dL_law__1676 (am_lt rfl) ?_
  refine ev_aload_n dL_law__1678 rfl ?_
  refine ev_eq (Option.bind_assoc _ _ _) ?_
  refine ev_callP (am_callV (as := []) (o := 105) (st := []) cv_L_133 dL_law__1679 (by decide) rfl (am_le rfl) (am_fitL (by omega) (by omega) (by decide) (by decide) (by decide) (by decide)) (t_X12_thrown hl (by decide))) (fun v9 h9 => ?_)
  refine ev_iload dL_law__1682 rfl ?_
  refine ev_eq am_ib ?_
  refine ev_icmp_eq (tgt := 1689) dL_law__1684 (by decide) (fun c10 => ?_) (fun c10 => ?_)
  · refine ev_iload dL_law__1689 rfl ?_
    refine ev_eq am_ib ?_
    refine ev_if_ne (tgt := 1706) dL_law__1691 (by decide) (fun c11 => ?_) (fun c11 => ?_)
    · refine ev_goto (tgt := 2462) dL_law__1706 (by decide) ?_
      exact ev_widen (by omega) (by omega) (ev_leaf (am_wk (am_wk (am_wk (am_wk (am_wk (am_wf (am_wf am_wn))))))) (hN (y8.2, S4.2)))
    · refine ev_aload_n dL_law__1694 rfl ?_
      refine ev_iconst (v := 0) dL_law__1695 (by decide) ?_
      refine ev_eq (Option.bind_assoc _ _ _) ?_
      refine ev_lald dL_law__1696 (by decide) (fun v12 h12 => ?_)
      refine ev_iload dL_law__1697 rfl ?_
      refine ev_i2l dL_law__1699 ?_
      refine ev_lcmp dL_law__1700 ?_
      refine ev_eq am_ib ?_
      refine ev_if_eq (tgt := 1706) dL_law__1701 (by decide) (fun c13 => ?_) (fun c13 => ?_)
      · refine ev_goto (tgt := 2462) dL_law__1706 (by decide) ?_
        exact ev_widen (by omega) (by omega) (ev_leaf (am_wk (am_wk (am_wk (am_wk (am_wk (am_wf (am_wf am_wn))))))) (hN (y8.2, S4.2)))
      · refine ev_iconst (v := 0) dL_law__1704 (by decide) ?_
        exact ev_none
  · refine ev_iconst (v := 0) dL_law__1687 (by decide) ?_
    exact ev_none
def f_case_26 (E : am_E) (S : am_S) (i : Int32) : Option am_S :=
  ((am_sx E (i + 1)).bind (fun v1 => ((am_sx E (i + 2)).bind (fun v2 => ((am_sx E (i + 3)).bind (fun v3 => ((if v3 = 0 then some (0 : Int32) else some (1 : Int32)).bind (fun t5 => (am_xI (f_L_room S 0 v1 v2 t5 122) (fun v6 S6 => ((am_sx E (i + 1)).bind (fun v7 => ((am_sx E (i + 2)).bind (fun v8 => ((am_sx E (i + 3)).bind (fun v9 => ((if v9 = 0 then some (0 : Int32) else some (1 : Int32)).bind (fun t11 => ((f_X12_room S6 105 v7 v8 t11).bind (fun y12 => ((f_X12_thrown (y12.2, S6.2) 105).bind (fun v13 => (if v13 = v6 then (if v6 = 0 then ((am_ld y12.2 122 0).bind (fun v16 => (if (lg_cmp (v16).toInt64 (y12.1).toInt64) = 0 then some (y12.2, S6.2) else none))) else some (y12.2, S6.2)) else none)))))))))))))))))))))))
set_option maxRecDepth 20000 in
theorem t_case_26 {β : Type} {E : am_E} {l : Launch} (hl : l.stackTraces = false) {Z : List Frame → Array Value → State → β → State → Prop} {cs sl : Nat} (hcs : cs ≤ 500000) (hsl : sl ≤ 7000000) {S : am_S} {i : Int32} {F : am_S → Option β} (hN : ∀ S, am_Ev E l (RL, cL_law_, 7, (some .boolean), [], room_1) Z (cs + 8) (sl + 48) 2462 [some (.ref 900), some (.ref 0), some (.ref 105), some (.ref 122), some (.int i), none, none] [] S (F S)) : am_Ev E l (RL, cL_law_, 7, (some .boolean), [], room_1) Z cs sl 1709 [some (.ref 900), some (.ref 0), some (.ref 105), some (.ref 122), some (.int i), none, none] [] S ((f_case_26 E S i).bind F) := by
  unfold f_case_26
  refine ev_aload_n dL_law__1709 rfl ?_
  refine ev_aload_n dL_law__1710 rfl ?_
  refine ev_iload dL_law__1711 rfl ?_
  refine ev_iconst (v := 1) dL_law__1713 (by decide) ?_
  refine ev_iadd dL_law__1714 ?_
  refine ev_eq (Option.bind_assoc _ _ _) ?_
  refine ev_sld dL_law__1715 (fun v1 h1 => ?_)
  refine ev_aload_n dL_law__1716 rfl ?_
  refine ev_iload dL_law__1717 rfl ?_
  refine ev_iconst (v := 2) dL_law__1719 (by decide) ?_
  refine ev_iadd dL_law__1720 ?_
  refine ev_eq (Option.bind_assoc _ _ _) ?_
  refine ev_sld dL_law__1721 (fun v2 h2 => ?_)
  refine ev_aload_n dL_law__1722 rfl ?_
  refine ev_iload dL_law__1723 rfl ?_
  refine ev_iconst (v := 3) dL_law__1725 (by decide) ?_
  refine ev_iadd dL_law__1726 ?_
  refine ev_eq (Option.bind_assoc _ _ _) ?_
  refine ev_sld dL_law__1727 (fun v3 h3 => ?_)
  refine ev_eq (Option.bind_assoc _ _ _) ?_
  refine ev_reg (cs' := cs + 0) (sl' := sl + 0) 1736 (fun t5 : Int32 => [some (.ref 900), some (.ref 0), some (.ref 105), some (.ref 122), some (.int i), none, none]) (fun t5 => [.int t5, .int v2, .int v1, .ref 0]) (fun t5 => S) (fun hJ5 => ?_) (fun t5 => ?_)
  · refine ev_eq am_ib ?_
    refine ev_if_eq (tgt := 1735) dL_law__1728 (by decide) (fun c5 => ?_) (fun c5 => ?_)
    · refine ev_iconst (v := 0) dL_law__1735 (by decide) ?_
      exact ev_leaf (am_wk (am_wk (am_wk (am_wk (am_wk (am_wf (am_wf am_wn))))))) (hJ5 (0 : Int32))
    · refine ev_iconst (v := 1) dL_law__1731 (by decide) ?_
      refine ev_goto (tgt := 1736) dL_law__1732 (by decide) ?_
      exact ev_leaf (am_wk (am_wk (am_wk (am_wk (am_wk (am_wf (am_wf am_wn))))))) (hJ5 (1 : Int32))
  · refine ev_aload_n dL_law__1736 rfl ?_
    refine ev_callXI (am_callSH (as := [.ref 0, .int v1, .int v2, .int t5, .ref 122]) (st := []) ct_L_214 dL_law__1737 rfl (am_le rfl) (am_fitL (by omega) (by omega) (by decide) (by decide) (by decide) (by decide)) (t_L_room hl (by decide) (by decide))) (fun v6 S6 h6 => ?_)
    refine ev_istore dL_law__1740 (am_lt rfl) ?_
    refine ev_aload_n dL_law__1742 rfl ?_
    refine ev_aload_n dL_law__1743 rfl ?_
    refine ev_iload dL_law__1744 rfl ?_
    refine ev_iconst (v := 1) dL_law__1746 (by decide) ?_
    refine ev_iadd dL_law__1747 ?_
    refine ev_eq (Option.bind_assoc _ _ _) ?_
    refine ev_sld dL_law__1748 (fun v7 h7 => ?_)
    refine ev_aload_n dL_law__1749 rfl ?_
    refine ev_iload dL_law__1750 rfl ?_
    refine ev_iconst (v := 2) dL_law__1752 (by decide) ?_
    refine ev_iadd dL_law__1753 ?_
    refine ev_eq (Option.bind_assoc _ _ _) ?_
    refine ev_sld dL_law__1754 (fun v8 h8 => ?_)
    refine ev_aload_n dL_law__1755 rfl ?_
    refine ev_iload dL_law__1756 rfl ?_
    refine ev_iconst (v := 3) dL_law__1758 (by decide) ?_
    refine ev_iadd dL_law__1759 ?_
    refine ev_eq (Option.bind_assoc _ _ _) ?_
    refine ev_sld dL_law__1760 (fun v9 h9 => ?_)
    refine ev_eq (Option.bind_assoc _ _ _) ?_
    refine ev_reg (cs' := cs + 3) (sl' := sl + 18) 1769 (fun t11 : Int32 => [some (.ref 900), some (.ref 0), some (.ref 105), some (.ref 122), some (.int i), some (.int v6), none]) (fun t11 => [.int t11, .int v8, .int v7, .ref 105]) (fun t11 => S6) (fun hJ11 => ?_) (fun t11 => ?_)
    · refine ev_eq am_ib ?_
      refine ev_if_eq (tgt := 1768) dL_law__1761 (by decide) (fun c11 => ?_) (fun c11 => ?_)
      · refine ev_iconst (v := 0) dL_law__1768 (by decide) ?_
        exact ev_leaf (am_wk (am_wk (am_wk (am_wk (am_wk (am_wk (am_wf am_wn))))))) (hJ11 (0 : Int32))
      · refine ev_iconst (v := 1) dL_law__1764 (by decide) ?_
        refine ev_goto (tgt := 1769) dL_law__1765 (by decide) ?_
        exact ev_leaf (am_wk (am_wk (am_wk (am_wk (am_wk (am_wk (am_wf am_wn))))))) (hJ11 (1 : Int32))
    · refine ev_eq (Option.bind_assoc _ _ _) ?_
      refine ev_callWI (am_callV (as := [.int v7, .int v8, .int t11]) (o := 105) (st := []) cv_L_217 dL_law__1769 (by decide) rfl (am_le rfl) (am_fitL (by omega) (by omega) (by decide) (by decide) (by decide) (by decide)) (t_X12_room hl (by decide))) (fun y12 h12 => ?_)
      refine ev_istore dL_law__1772 (am_lt rfl) ?_
      refine ev_aload_n dL_law__1774 rfl ?_
      refine ev_eq (Option.bind_assoc _ _ _) ?_
      refine ev_callP (am_callV (as := []) (o := 105) (st := []) cv_L_133 dL_law__1775 (by decide) rfl (am_le rfl) (am_fitL (by omega) (by omega) (by decide) (by decide) (by decide) (by decide)) (t_X12_thrown hl (by decide))) (fun v13 h13 => ?_)
      refine ev_iload dL_law__1778 rfl ?_
      refine ev_eq am_ib ?_
      refine ev_icmp_eq (tgt := 1785) dL_law__1780 (by decide) (fun c14 => ?_) (fun c14 => ?_)
      · refine ev_iload dL_law__1785 rfl ?_
        refine ev_eq am_ib ?_
        refine ev_if_ne (tgt := 1802) dL_law__1787 (by decide) (fun c15 => ?_) (fun c15 => ?_)
        · refine ev_goto (tgt := 2462) dL_law__1802 (by decide) ?_
          exact ev_widen (by omega) (by omega) (ev_leaf (am_wk (am_wk (am_wk (am_wk (am_wk (am_wf (am_wf am_wn))))))) (hN (y12.2, S6.2)))
        · refine ev_aload_n dL_law__1790 rfl ?_
          refine ev_iconst (v := 0) dL_law__1791 (by decide) ?_
          refine ev_eq (Option.bind_assoc _ _ _) ?_
          refine ev_lald dL_law__1792 (by decide) (fun v16 h16 => ?_)
          refine ev_iload dL_law__1793 rfl ?_
          refine ev_i2l dL_law__1795 ?_
          refine ev_lcmp dL_law__1796 ?_
          refine ev_eq am_ib ?_
          refine ev_if_eq (tgt := 1802) dL_law__1797 (by decide) (fun c17 => ?_) (fun c17 => ?_)
          · refine ev_goto (tgt := 2462) dL_law__1802 (by decide) ?_
            exact ev_widen (by omega) (by omega) (ev_leaf (am_wk (am_wk (am_wk (am_wk (am_wk (am_wf (am_wf am_wn))))))) (hN (y12.2, S6.2)))
          · refine ev_iconst (v := 0) dL_law__1800 (by decide) ?_
            exact ev_none
      · refine ev_iconst (v := 0) dL_law__1783 (by decide) ?_
        exact ev_none
def f_case_27 (E : am_E) (S : am_S) (i : Int32) : Option am_S :=
  ((am_sx E (i + 1)).bind (fun v1 => (am_xI (f_L_learn S 0 v1 122) (fun v2 S2 => ((am_sx E (i + 1)).bind (fun v3 => ((f_X12_learn S2 105 v3).bind (fun y4 => ((f_X12_thrown (y4.2, S2.2) 105).bind (fun v5 => (if v5 = v2 then (if v2 = 0 then ((am_ld y4.2 122 0).bind (fun v8 => (if (lg_cmp (v8).toInt64 (y4.1).toInt64) = 0 then some (y4.2, S2.2) else none))) else some (y4.2, S2.2)) else none)))))))))))
set_option maxRecDepth 20000 in
theorem t_case_27 {β : Type} {E : am_E} {l : Launch} (hl : l.stackTraces = false) {Z : List Frame → Array Value → State → β → State → Prop} {cs sl : Nat} (hcs : cs ≤ 500000) (hsl : sl ≤ 7000000) {S : am_S} {i : Int32} {F : am_S → Option β} (hN : ∀ S, am_Ev E l (RL, cL_law_, 7, (some .boolean), [], room_1) Z (cs + 8) (sl + 48) 2462 [some (.ref 900), some (.ref 0), some (.ref 105), some (.ref 122), some (.int i), none, none] [] S (F S)) : am_Ev E l (RL, cL_law_, 7, (some .boolean), [], room_1) Z cs sl 1805 [some (.ref 900), some (.ref 0), some (.ref 105), some (.ref 122), some (.int i), none, none] [] S ((f_case_27 E S i).bind F) := by
  unfold f_case_27
  refine ev_aload_n dL_law__1805 rfl ?_
  refine ev_aload_n dL_law__1806 rfl ?_
  refine ev_iload dL_law__1807 rfl ?_
  refine ev_iconst (v := 1) dL_law__1809 (by decide) ?_
  refine ev_iadd dL_law__1810 ?_
  refine ev_eq (Option.bind_assoc _ _ _) ?_
  refine ev_sld dL_law__1811 (fun v1 h1 => ?_)
  refine ev_aload_n dL_law__1812 rfl ?_
  refine ev_callXI (am_callSH (as := [.ref 0, .int v1, .ref 122]) (st := []) ct_L_218 dL_law__1813 rfl (am_le rfl) (am_fitL (by omega) (by omega) (by decide) (by decide) (by decide) (by decide)) (t_L_learn hl (by decide) (by decide))) (fun v2 S2 h2 => ?_)
  refine ev_istore dL_law__1816 (am_lt rfl) ?_
  refine ev_aload_n dL_law__1818 rfl ?_
  refine ev_aload_n dL_law__1819 rfl ?_
  refine ev_iload dL_law__1820 rfl ?_
  refine ev_iconst (v := 1) dL_law__1822 (by decide) ?_
  refine ev_iadd dL_law__1823 ?_
  refine ev_eq (Option.bind_assoc _ _ _) ?_
  refine ev_sld dL_law__1824 (fun v3 h3 => ?_)
  refine ev_eq (Option.bind_assoc _ _ _) ?_
  refine ev_callWI (am_callV (as := [.int v3]) (o := 105) (st := []) cv_L_220 dL_law__1825 (by decide) rfl (am_le rfl) (am_fitL (by omega) (by omega) (by decide) (by decide) (by decide) (by decide)) (t_X12_learn hl (by decide))) (fun y4 h4 => ?_)
  refine ev_istore dL_law__1828 (am_lt rfl) ?_
  refine ev_aload_n dL_law__1830 rfl ?_
  refine ev_eq (Option.bind_assoc _ _ _) ?_
  refine ev_callP (am_callV (as := []) (o := 105) (st := []) cv_L_133 dL_law__1831 (by decide) rfl (am_le rfl) (am_fitL (by omega) (by omega) (by decide) (by decide) (by decide) (by decide)) (t_X12_thrown hl (by decide))) (fun v5 h5 => ?_)
  refine ev_iload dL_law__1834 rfl ?_
  refine ev_eq am_ib ?_
  refine ev_icmp_eq (tgt := 1841) dL_law__1836 (by decide) (fun c6 => ?_) (fun c6 => ?_)
  · refine ev_iload dL_law__1841 rfl ?_
    refine ev_eq am_ib ?_
    refine ev_if_ne (tgt := 1858) dL_law__1843 (by decide) (fun c7 => ?_) (fun c7 => ?_)
    · refine ev_goto (tgt := 2462) dL_law__1858 (by decide) ?_
      exact ev_widen (by omega) (by omega) (ev_leaf (am_wk (am_wk (am_wk (am_wk (am_wk (am_wf (am_wf am_wn))))))) (hN (y4.2, S2.2)))
    · refine ev_aload_n dL_law__1846 rfl ?_
      refine ev_iconst (v := 0) dL_law__1847 (by decide) ?_
      refine ev_eq (Option.bind_assoc _ _ _) ?_
      refine ev_lald dL_law__1848 (by decide) (fun v8 h8 => ?_)
      refine ev_iload dL_law__1849 rfl ?_
      refine ev_i2l dL_law__1851 ?_
      refine ev_lcmp dL_law__1852 ?_
      refine ev_eq am_ib ?_
      refine ev_if_eq (tgt := 1858) dL_law__1853 (by decide) (fun c9 => ?_) (fun c9 => ?_)
      · refine ev_goto (tgt := 2462) dL_law__1858 (by decide) ?_
        exact ev_widen (by omega) (by omega) (ev_leaf (am_wk (am_wk (am_wk (am_wk (am_wk (am_wf (am_wf am_wn))))))) (hN (y4.2, S2.2)))
      · refine ev_iconst (v := 0) dL_law__1856 (by decide) ?_
        exact ev_none
  · refine ev_iconst (v := 0) dL_law__1839 (by decide) ?_
    exact ev_none
def f_case_28 (E : am_E) (S : am_S) (i : Int32) : Option am_S :=
  ((am_sx E (i + 1)).bind (fun v1 => ((am_sx E (i + 2)).bind (fun v2 => ((am_sx E (i + 3)).bind (fun v3 => (am_xI (f_L_fooled S 0 v1 v2 v3 122) (fun v4 S4 => ((am_sx E (i + 1)).bind (fun v5 => ((am_sx E (i + 2)).bind (fun v6 => ((am_sx E (i + 3)).bind (fun v7 => ((f_X12_fooled S4 105 v5 v6 v7).bind (fun y8 => ((f_X12_thrown (y8.2, S4.2) 105).bind (fun v9 => (if v9 = v4 then (if v4 = 0 then ((am_ld y8.2 122 0).bind (fun v12 => (if (lg_cmp (v12).toInt64 (y8.1).toInt64) = 0 then some (y8.2, S4.2) else none))) else some (y8.2, S4.2)) else none)))))))))))))))))))
set_option maxRecDepth 20000 in
theorem t_case_28 {β : Type} {E : am_E} {l : Launch} (hl : l.stackTraces = false) {Z : List Frame → Array Value → State → β → State → Prop} {cs sl : Nat} (hcs : cs ≤ 500000) (hsl : sl ≤ 7000000) {S : am_S} {i : Int32} {F : am_S → Option β} (hN : ∀ S, am_Ev E l (RL, cL_law_, 7, (some .boolean), [], room_1) Z (cs + 8) (sl + 48) 2462 [some (.ref 900), some (.ref 0), some (.ref 105), some (.ref 122), some (.int i), none, none] [] S (F S)) : am_Ev E l (RL, cL_law_, 7, (some .boolean), [], room_1) Z cs sl 1861 [some (.ref 900), some (.ref 0), some (.ref 105), some (.ref 122), some (.int i), none, none] [] S ((f_case_28 E S i).bind F) := by
  unfold f_case_28
  refine ev_aload_n dL_law__1861 rfl ?_
  refine ev_aload_n dL_law__1862 rfl ?_
  refine ev_iload dL_law__1863 rfl ?_
  refine ev_iconst (v := 1) dL_law__1865 (by decide) ?_
  refine ev_iadd dL_law__1866 ?_
  refine ev_eq (Option.bind_assoc _ _ _) ?_
  refine ev_sld dL_law__1867 (fun v1 h1 => ?_)
  refine ev_aload_n dL_law__1868 rfl ?_
  refine ev_iload dL_law__1869 rfl ?_
  refine ev_iconst (v := 2) dL_law__1871 (by decide) ?_
  refine ev_iadd dL_law__1872 ?_
  refine ev_eq (Option.bind_assoc _ _ _) ?_
  refine ev_sld dL_law__1873 (fun v2 h2 => ?_)
  refine ev_aload_n dL_law__1874 rfl ?_
  refine ev_iload dL_law__1875 rfl ?_
  refine ev_iconst (v := 3) dL_law__1877 (by decide) ?_
  refine ev_iadd dL_law__1878 ?_
  refine ev_eq (Option.bind_assoc _ _ _) ?_
  refine ev_sld dL_law__1879 (fun v3 h3 => ?_)
  refine ev_aload_n dL_law__1880 rfl ?_
  refine ev_callXI (am_callSH (as := [.ref 0, .int v1, .int v2, .int v3, .ref 122]) (st := []) ct_L_221 dL_law__1881 rfl (am_le rfl) (am_fitL (by omega) (by omega) (by decide) (by decide) (by decide) (by decide)) (t_L_fooled hl (by decide) (by decide))) (fun v4 S4 h4 => ?_)
  refine ev_istore dL_law__1884 (am_lt rfl) ?_
  refine ev_aload_n dL_law__1886 rfl ?_
  refine ev_aload_n dL_law__1887 rfl ?_
  refine ev_iload dL_law__1888 rfl ?_
  refine ev_iconst (v := 1) dL_law__1890 (by decide) ?_
  refine ev_iadd dL_law__1891 ?_
  refine ev_eq (Option.bind_assoc _ _ _) ?_
  refine ev_sld dL_law__1892 (fun v5 h5 => ?_)
  refine ev_aload_n dL_law__1893 rfl ?_
  refine ev_iload dL_law__1894 rfl ?_
  refine ev_iconst (v := 2) dL_law__1896 (by decide) ?_
  refine ev_iadd dL_law__1897 ?_
  refine ev_eq (Option.bind_assoc _ _ _) ?_
  refine ev_sld dL_law__1898 (fun v6 h6 => ?_)
  refine ev_aload_n dL_law__1899 rfl ?_
  refine ev_iload dL_law__1900 rfl ?_
  refine ev_iconst (v := 3) dL_law__1902 (by decide) ?_
  refine ev_iadd dL_law__1903 ?_
  refine ev_eq (Option.bind_assoc _ _ _) ?_
  refine ev_sld dL_law__1904 (fun v7 h7 => ?_)
  refine ev_eq (Option.bind_assoc _ _ _) ?_
  refine ev_callWI (am_callV (as := [.int v5, .int v6, .int v7]) (o := 105) (st := []) cv_L_223 dL_law__1905 (by decide) rfl (am_le rfl) (am_fitL (by omega) (by omega) (by decide) (by decide) (by decide) (by decide)) (t_X12_fooled hl (by decide))) (fun y8 h8 => ?_)
  refine ev_istore dL_law__1908 (am_lt rfl) ?_
  refine ev_aload_n dL_law__1910 rfl ?_
  refine ev_eq (Option.bind_assoc _ _ _) ?_
  refine ev_callP (am_callV (as := []) (o := 105) (st := []) cv_L_133 dL_law__1911 (by decide) rfl (am_le rfl) (am_fitL (by omega) (by omega) (by decide) (by decide) (by decide) (by decide)) (t_X12_thrown hl (by decide))) (fun v9 h9 => ?_)
  refine ev_iload dL_law__1914 rfl ?_
  refine ev_eq am_ib ?_
  refine ev_icmp_eq (tgt := 1921) dL_law__1916 (by decide) (fun c10 => ?_) (fun c10 => ?_)
  · refine ev_iload dL_law__1921 rfl ?_
    refine ev_eq am_ib ?_
    refine ev_if_ne (tgt := 1938) dL_law__1923 (by decide) (fun c11 => ?_) (fun c11 => ?_)
    · refine ev_goto (tgt := 2462) dL_law__1938 (by decide) ?_
      exact ev_widen (by omega) (by omega) (ev_leaf (am_wk (am_wk (am_wk (am_wk (am_wk (am_wf (am_wf am_wn))))))) (hN (y8.2, S4.2)))
    · refine ev_aload_n dL_law__1926 rfl ?_
      refine ev_iconst (v := 0) dL_law__1927 (by decide) ?_
      refine ev_eq (Option.bind_assoc _ _ _) ?_
      refine ev_lald dL_law__1928 (by decide) (fun v12 h12 => ?_)
      refine ev_iload dL_law__1929 rfl ?_
      refine ev_i2l dL_law__1931 ?_
      refine ev_lcmp dL_law__1932 ?_
      refine ev_eq am_ib ?_
      refine ev_if_eq (tgt := 1938) dL_law__1933 (by decide) (fun c13 => ?_) (fun c13 => ?_)
      · refine ev_goto (tgt := 2462) dL_law__1938 (by decide) ?_
        exact ev_widen (by omega) (by omega) (ev_leaf (am_wk (am_wk (am_wk (am_wk (am_wk (am_wf (am_wf am_wn))))))) (hN (y8.2, S4.2)))
      · refine ev_iconst (v := 0) dL_law__1936 (by decide) ?_
        exact ev_none
  · refine ev_iconst (v := 0) dL_law__1919 (by decide) ?_
    exact ev_none
def f_case_29 (E : am_E) (S : am_S) (i : Int32) : Option am_S :=
  ((am_sx E (i + 1)).bind (fun v1 => ((am_sx E (i + 2)).bind (fun v2 => (am_xI (f_L_could S 0 v1 v2 122) (fun v3 S3 => ((am_sx E (i + 1)).bind (fun v4 => ((am_sx E (i + 2)).bind (fun v5 => ((f_X12_could S3 105 v4 v5).bind (fun y6 => ((f_X12_thrown (y6.2, S3.2) 105).bind (fun v7 => (if v7 = v3 then (if v3 = 0 then ((am_ld y6.2 122 0).bind (fun v10 => (if (lg_cmp (v10).toInt64 (y6.1).toInt64) = 0 then some (y6.2, S3.2) else none))) else some (y6.2, S3.2)) else none)))))))))))))))
set_option maxRecDepth 20000 in
theorem t_case_29 {β : Type} {E : am_E} {l : Launch} (hl : l.stackTraces = false) {Z : List Frame → Array Value → State → β → State → Prop} {cs sl : Nat} (hcs : cs ≤ 500000) (hsl : sl ≤ 7000000) {S : am_S} {i : Int32} {F : am_S → Option β} (hN : ∀ S, am_Ev E l (RL, cL_law_, 7, (some .boolean), [], room_1) Z (cs + 8) (sl + 48) 2462 [some (.ref 900), some (.ref 0), some (.ref 105), some (.ref 122), some (.int i), none, none] [] S (F S)) : am_Ev E l (RL, cL_law_, 7, (some .boolean), [], room_1) Z cs sl 1941 [some (.ref 900), some (.ref 0), some (.ref 105), some (.ref 122), some (.int i), none, none] [] S ((f_case_29 E S i).bind F) := by
  unfold f_case_29
  refine ev_aload_n dL_law__1941 rfl ?_
  refine ev_aload_n dL_law__1942 rfl ?_
  refine ev_iload dL_law__1943 rfl ?_
  refine ev_iconst (v := 1) dL_law__1945 (by decide) ?_
  refine ev_iadd dL_law__1946 ?_
  refine ev_eq (Option.bind_assoc _ _ _) ?_
  refine ev_sld dL_law__1947 (fun v1 h1 => ?_)
  refine ev_aload_n dL_law__1948 rfl ?_
  refine ev_iload dL_law__1949 rfl ?_
  refine ev_iconst (v := 2) dL_law__1951 (by decide) ?_
  refine ev_iadd dL_law__1952 ?_
  refine ev_eq (Option.bind_assoc _ _ _) ?_
  refine ev_sld dL_law__1953 (fun v2 h2 => ?_)
  refine ev_aload_n dL_law__1954 rfl ?_
  refine ev_callXI (am_callSH (as := [.ref 0, .int v1, .int v2, .ref 122]) (st := []) ct_L_224 dL_law__1955 rfl (am_le rfl) (am_fitL (by omega) (by omega) (by decide) (by decide) (by decide) (by decide)) (t_L_could hl (by decide) (by decide))) (fun v3 S3 h3 => ?_)
  refine ev_istore dL_law__1958 (am_lt rfl) ?_
  refine ev_aload_n dL_law__1960 rfl ?_
  refine ev_aload_n dL_law__1961 rfl ?_
  refine ev_iload dL_law__1962 rfl ?_
  refine ev_iconst (v := 1) dL_law__1964 (by decide) ?_
  refine ev_iadd dL_law__1965 ?_
  refine ev_eq (Option.bind_assoc _ _ _) ?_
  refine ev_sld dL_law__1966 (fun v4 h4 => ?_)
  refine ev_aload_n dL_law__1967 rfl ?_
  refine ev_iload dL_law__1968 rfl ?_
  refine ev_iconst (v := 2) dL_law__1970 (by decide) ?_
  refine ev_iadd dL_law__1971 ?_
  refine ev_eq (Option.bind_assoc _ _ _) ?_
  refine ev_sld dL_law__1972 (fun v5 h5 => ?_)
  refine ev_eq (Option.bind_assoc _ _ _) ?_
  refine ev_callWI (am_callV (as := [.int v4, .int v5]) (o := 105) (st := []) cv_L_226 dL_law__1973 (by decide) rfl (am_le rfl) (am_fitL (by omega) (by omega) (by decide) (by decide) (by decide) (by decide)) (t_X12_could hl (by decide))) (fun y6 h6 => ?_)
  refine ev_istore dL_law__1976 (am_lt rfl) ?_
  refine ev_aload_n dL_law__1978 rfl ?_
  refine ev_eq (Option.bind_assoc _ _ _) ?_
  refine ev_callP (am_callV (as := []) (o := 105) (st := []) cv_L_133 dL_law__1979 (by decide) rfl (am_le rfl) (am_fitL (by omega) (by omega) (by decide) (by decide) (by decide) (by decide)) (t_X12_thrown hl (by decide))) (fun v7 h7 => ?_)
  refine ev_iload dL_law__1982 rfl ?_
  refine ev_eq am_ib ?_
  refine ev_icmp_eq (tgt := 1989) dL_law__1984 (by decide) (fun c8 => ?_) (fun c8 => ?_)
  · refine ev_iload dL_law__1989 rfl ?_
    refine ev_eq am_ib ?_
    refine ev_if_ne (tgt := 2006) dL_law__1991 (by decide) (fun c9 => ?_) (fun c9 => ?_)
    · refine ev_goto (tgt := 2462) dL_law__2006 (by decide) ?_
      exact ev_widen (by omega) (by omega) (ev_leaf (am_wk (am_wk (am_wk (am_wk (am_wk (am_wf (am_wf am_wn))))))) (hN (y6.2, S3.2)))
    · refine ev_aload_n dL_law__1994 rfl ?_
      refine ev_iconst (v := 0) dL_law__1995 (by decide) ?_
      refine ev_eq (Option.bind_assoc _ _ _) ?_
      refine ev_lald dL_law__1996 (by decide) (fun v10 h10 => ?_)
      refine ev_iload dL_law__1997 rfl ?_
      refine ev_i2l dL_law__1999 ?_
      refine ev_lcmp dL_law__2000 ?_
      refine ev_eq am_ib ?_
      refine ev_if_eq (tgt := 2006) dL_law__2001 (by decide) (fun c11 => ?_) (fun c11 => ?_)
      · refine ev_goto (tgt := 2462) dL_law__2006 (by decide) ?_
        exact ev_widen (by omega) (by omega) (ev_leaf (am_wk (am_wk (am_wk (am_wk (am_wk (am_wf (am_wf am_wn))))))) (hN (y6.2, S3.2)))
      · refine ev_iconst (v := 0) dL_law__2004 (by decide) ?_
        exact ev_none
  · refine ev_iconst (v := 0) dL_law__1987 (by decide) ?_
    exact ev_none
def f_case_30 (E : am_E) (S : am_S) (i : Int32) : Option am_S :=
  ((am_sx E (i + 1)).bind (fun v1 => (am_xI (f_L_understood S 0 v1 122) (fun v2 S2 => ((am_sx E (i + 1)).bind (fun v3 => ((f_X12_understood S2 105 v3).bind (fun y4 => ((f_X12_thrown (y4.2, S2.2) 105).bind (fun v5 => (if v5 = v2 then (if v2 = 0 then ((am_ld y4.2 122 0).bind (fun v8 => (if (lg_cmp (v8).toInt64 (y4.1).toInt64) = 0 then some (y4.2, S2.2) else none))) else some (y4.2, S2.2)) else none)))))))))))
set_option maxRecDepth 20000 in
theorem t_case_30 {β : Type} {E : am_E} {l : Launch} (hl : l.stackTraces = false) {Z : List Frame → Array Value → State → β → State → Prop} {cs sl : Nat} (hcs : cs ≤ 500000) (hsl : sl ≤ 7000000) {S : am_S} {i : Int32} {F : am_S → Option β} (hN : ∀ S, am_Ev E l (RL, cL_law_, 7, (some .boolean), [], room_1) Z (cs + 8) (sl + 48) 2462 [some (.ref 900), some (.ref 0), some (.ref 105), some (.ref 122), some (.int i), none, none] [] S (F S)) : am_Ev E l (RL, cL_law_, 7, (some .boolean), [], room_1) Z cs sl 2009 [some (.ref 900), some (.ref 0), some (.ref 105), some (.ref 122), some (.int i), none, none] [] S ((f_case_30 E S i).bind F) := by
  unfold f_case_30
  refine ev_aload_n dL_law__2009 rfl ?_
  refine ev_aload_n dL_law__2010 rfl ?_
  refine ev_iload dL_law__2011 rfl ?_
  refine ev_iconst (v := 1) dL_law__2013 (by decide) ?_
  refine ev_iadd dL_law__2014 ?_
  refine ev_eq (Option.bind_assoc _ _ _) ?_
  refine ev_sld dL_law__2015 (fun v1 h1 => ?_)
  refine ev_aload_n dL_law__2016 rfl ?_
  refine ev_callXI (am_callSH (as := [.ref 0, .int v1, .ref 122]) (st := []) ct_L_227 dL_law__2017 rfl (am_le rfl) (am_fitL (by omega) (by omega) (by decide) (by decide) (by decide) (by decide)) (t_L_understood hl (by decide) (by decide))) (fun v2 S2 h2 => ?_)
  refine ev_istore dL_law__2020 (am_lt rfl) ?_
  refine ev_aload_n dL_law__2022 rfl ?_
  refine ev_aload_n dL_law__2023 rfl ?_
  refine ev_iload dL_law__2024 rfl ?_
  refine ev_iconst (v := 1) dL_law__2026 (by decide) ?_
  refine ev_iadd dL_law__2027 ?_
  refine ev_eq (Option.bind_assoc _ _ _) ?_
  refine ev_sld dL_law__2028 (fun v3 h3 => ?_)
  refine ev_eq (Option.bind_assoc _ _ _) ?_
  refine ev_callWI (am_callV (as := [.int v3]) (o := 105) (st := []) cv_L_229 dL_law__2029 (by decide) rfl (am_le rfl) (am_fitL (by omega) (by omega) (by decide) (by decide) (by decide) (by decide)) (t_X12_understood hl (by decide))) (fun y4 h4 => ?_)
  refine ev_istore dL_law__2032 (am_lt rfl) ?_
  refine ev_aload_n dL_law__2034 rfl ?_
  refine ev_eq (Option.bind_assoc _ _ _) ?_
  refine ev_callP (am_callV (as := []) (o := 105) (st := []) cv_L_133 dL_law__2035 (by decide) rfl (am_le rfl) (am_fitL (by omega) (by omega) (by decide) (by decide) (by decide) (by decide)) (t_X12_thrown hl (by decide))) (fun v5 h5 => ?_)
  refine ev_iload dL_law__2038 rfl ?_
  refine ev_eq am_ib ?_
  refine ev_icmp_eq (tgt := 2045) dL_law__2040 (by decide) (fun c6 => ?_) (fun c6 => ?_)
  · refine ev_iload dL_law__2045 rfl ?_
    refine ev_eq am_ib ?_
    refine ev_if_ne (tgt := 2062) dL_law__2047 (by decide) (fun c7 => ?_) (fun c7 => ?_)
    · refine ev_goto (tgt := 2462) dL_law__2062 (by decide) ?_
      exact ev_widen (by omega) (by omega) (ev_leaf (am_wk (am_wk (am_wk (am_wk (am_wk (am_wf (am_wf am_wn))))))) (hN (y4.2, S2.2)))
    · refine ev_aload_n dL_law__2050 rfl ?_
      refine ev_iconst (v := 0) dL_law__2051 (by decide) ?_
      refine ev_eq (Option.bind_assoc _ _ _) ?_
      refine ev_lald dL_law__2052 (by decide) (fun v8 h8 => ?_)
      refine ev_iload dL_law__2053 rfl ?_
      refine ev_i2l dL_law__2055 ?_
      refine ev_lcmp dL_law__2056 ?_
      refine ev_eq am_ib ?_
      refine ev_if_eq (tgt := 2062) dL_law__2057 (by decide) (fun c9 => ?_) (fun c9 => ?_)
      · refine ev_goto (tgt := 2462) dL_law__2062 (by decide) ?_
        exact ev_widen (by omega) (by omega) (ev_leaf (am_wk (am_wk (am_wk (am_wk (am_wk (am_wf (am_wf am_wn))))))) (hN (y4.2, S2.2)))
      · refine ev_iconst (v := 0) dL_law__2060 (by decide) ?_
        exact ev_none
  · refine ev_iconst (v := 0) dL_law__2043 (by decide) ?_
    exact ev_none
def f_case_31 (E : am_E) (S : am_S) (i : Int32) : Option am_S :=
  ((am_sx E (i + 1)).bind (fun v1 => ((am_sx E (i + 2)).bind (fun v2 => ((am_sx E (i + 3)).bind (fun v3 => ((am_sx E (i + 4)).bind (fun v4 => (am_xI (f_L_quiet S 0 v1 v2 v3 v4 122) (fun v5 S5 => ((am_sx E (i + 1)).bind (fun v6 => ((am_sx E (i + 2)).bind (fun v7 => ((am_sx E (i + 3)).bind (fun v8 => ((am_sx E (i + 4)).bind (fun v9 => ((f_X12_quiet S5 105 v6 v7 v8 v9).bind (fun y10 => ((f_X12_thrown (y10.2, S5.2) 105).bind (fun v11 => (if v11 = v5 then (if v5 = 0 then ((am_ld y10.2 122 0).bind (fun v14 => (if (lg_cmp (v14).toInt64 (y10.1).toInt64) = 0 then some (y10.2, S5.2) else none))) else some (y10.2, S5.2)) else none)))))))))))))))))))))))
set_option maxRecDepth 20000 in
theorem t_case_31 {β : Type} {E : am_E} {l : Launch} (hl : l.stackTraces = false) {Z : List Frame → Array Value → State → β → State → Prop} {cs sl : Nat} (hcs : cs ≤ 500000) (hsl : sl ≤ 7000000) {S : am_S} {i : Int32} {F : am_S → Option β} (hN : ∀ S, am_Ev E l (RL, cL_law_, 7, (some .boolean), [], room_1) Z (cs + 8) (sl + 48) 2462 [some (.ref 900), some (.ref 0), some (.ref 105), some (.ref 122), some (.int i), none, none] [] S (F S)) : am_Ev E l (RL, cL_law_, 7, (some .boolean), [], room_1) Z cs sl 2065 [some (.ref 900), some (.ref 0), some (.ref 105), some (.ref 122), some (.int i), none, none] [] S ((f_case_31 E S i).bind F) := by
  unfold f_case_31
  refine ev_aload_n dL_law__2065 rfl ?_
  refine ev_aload_n dL_law__2066 rfl ?_
  refine ev_iload dL_law__2067 rfl ?_
  refine ev_iconst (v := 1) dL_law__2069 (by decide) ?_
  refine ev_iadd dL_law__2070 ?_
  refine ev_eq (Option.bind_assoc _ _ _) ?_
  refine ev_sld dL_law__2071 (fun v1 h1 => ?_)
  refine ev_aload_n dL_law__2072 rfl ?_
  refine ev_iload dL_law__2073 rfl ?_
  refine ev_iconst (v := 2) dL_law__2075 (by decide) ?_
  refine ev_iadd dL_law__2076 ?_
  refine ev_eq (Option.bind_assoc _ _ _) ?_
  refine ev_sld dL_law__2077 (fun v2 h2 => ?_)
  refine ev_aload_n dL_law__2078 rfl ?_
  refine ev_iload dL_law__2079 rfl ?_
  refine ev_iconst (v := 3) dL_law__2081 (by decide) ?_
  refine ev_iadd dL_law__2082 ?_
  refine ev_eq (Option.bind_assoc _ _ _) ?_
  refine ev_sld dL_law__2083 (fun v3 h3 => ?_)
  refine ev_aload_n dL_law__2084 rfl ?_
  refine ev_iload dL_law__2085 rfl ?_
  refine ev_iconst (v := 4) dL_law__2087 (by decide) ?_
  refine ev_iadd dL_law__2088 ?_
  refine ev_eq (Option.bind_assoc _ _ _) ?_
  refine ev_sld dL_law__2089 (fun v4 h4 => ?_)
  refine ev_aload_n dL_law__2090 rfl ?_
  refine ev_callXI (am_callSH (as := [.ref 0, .int v1, .int v2, .int v3, .int v4, .ref 122]) (st := []) ct_L_230 dL_law__2091 rfl (am_le rfl) (am_fitL (by omega) (by omega) (by decide) (by decide) (by decide) (by decide)) (t_L_quiet hl (by decide) (by decide))) (fun v5 S5 h5 => ?_)
  refine ev_istore dL_law__2094 (am_lt rfl) ?_
  refine ev_aload_n dL_law__2096 rfl ?_
  refine ev_aload_n dL_law__2097 rfl ?_
  refine ev_iload dL_law__2098 rfl ?_
  refine ev_iconst (v := 1) dL_law__2100 (by decide) ?_
  refine ev_iadd dL_law__2101 ?_
  refine ev_eq (Option.bind_assoc _ _ _) ?_
  refine ev_sld dL_law__2102 (fun v6 h6 => ?_)
  refine ev_aload_n dL_law__2103 rfl ?_
  refine ev_iload dL_law__2104 rfl ?_
  refine ev_iconst (v := 2) dL_law__2106 (by decide) ?_
  refine ev_iadd dL_law__2107 ?_
  refine ev_eq (Option.bind_assoc _ _ _) ?_
  refine ev_sld dL_law__2108 (fun v7 h7 => ?_)
  refine ev_aload_n dL_law__2109 rfl ?_
  refine ev_iload dL_law__2110 rfl ?_
  refine ev_iconst (v := 3) dL_law__2112 (by decide) ?_
  refine ev_iadd dL_law__2113 ?_
  refine ev_eq (Option.bind_assoc _ _ _) ?_
  refine ev_sld dL_law__2114 (fun v8 h8 => ?_)
  refine ev_aload_n dL_law__2115 rfl ?_
  refine ev_iload dL_law__2116 rfl ?_
  refine ev_iconst (v := 4) dL_law__2118 (by decide) ?_
  refine ev_iadd dL_law__2119 ?_
  refine ev_eq (Option.bind_assoc _ _ _) ?_
  refine ev_sld dL_law__2120 (fun v9 h9 => ?_)
  refine ev_eq (Option.bind_assoc _ _ _) ?_
  refine ev_callWI (am_callV (as := [.int v6, .int v7, .int v8, .int v9]) (o := 105) (st := []) cv_L_233 dL_law__2121 (by decide) rfl (am_le rfl) (am_fitL (by omega) (by omega) (by decide) (by decide) (by decide) (by decide)) (t_X12_quiet hl (by decide))) (fun y10 h10 => ?_)
  refine ev_istore dL_law__2124 (am_lt rfl) ?_
  refine ev_aload_n dL_law__2126 rfl ?_
  refine ev_eq (Option.bind_assoc _ _ _) ?_
  refine ev_callP (am_callV (as := []) (o := 105) (st := []) cv_L_133 dL_law__2127 (by decide) rfl (am_le rfl) (am_fitL (by omega) (by omega) (by decide) (by decide) (by decide) (by decide)) (t_X12_thrown hl (by decide))) (fun v11 h11 => ?_)
  refine ev_iload dL_law__2130 rfl ?_
  refine ev_eq am_ib ?_
  refine ev_icmp_eq (tgt := 2137) dL_law__2132 (by decide) (fun c12 => ?_) (fun c12 => ?_)
  · refine ev_iload dL_law__2137 rfl ?_
    refine ev_eq am_ib ?_
    refine ev_if_ne (tgt := 2154) dL_law__2139 (by decide) (fun c13 => ?_) (fun c13 => ?_)
    · refine ev_goto (tgt := 2462) dL_law__2154 (by decide) ?_
      exact ev_widen (by omega) (by omega) (ev_leaf (am_wk (am_wk (am_wk (am_wk (am_wk (am_wf (am_wf am_wn))))))) (hN (y10.2, S5.2)))
    · refine ev_aload_n dL_law__2142 rfl ?_
      refine ev_iconst (v := 0) dL_law__2143 (by decide) ?_
      refine ev_eq (Option.bind_assoc _ _ _) ?_
      refine ev_lald dL_law__2144 (by decide) (fun v14 h14 => ?_)
      refine ev_iload dL_law__2145 rfl ?_
      refine ev_i2l dL_law__2147 ?_
      refine ev_lcmp dL_law__2148 ?_
      refine ev_eq am_ib ?_
      refine ev_if_eq (tgt := 2154) dL_law__2149 (by decide) (fun c15 => ?_) (fun c15 => ?_)
      · refine ev_goto (tgt := 2462) dL_law__2154 (by decide) ?_
        exact ev_widen (by omega) (by omega) (ev_leaf (am_wk (am_wk (am_wk (am_wk (am_wk (am_wf (am_wf am_wn))))))) (hN (y10.2, S5.2)))
      · refine ev_iconst (v := 0) dL_law__2152 (by decide) ?_
        exact ev_none
  · refine ev_iconst (v := 0) dL_law__2135 (by decide) ?_
    exact ev_none
def f_case_32 (E : am_E) (S : am_S) (i : Int32) : Option am_S :=
  ((am_sx E (i + 1)).bind (fun v1 => ((am_sx E (i + 2)).bind (fun v2 => ((am_sx E (i + 3)).bind (fun v3 => (am_xI (f_L_worth S 0 v1 v2 v3 122) (fun v4 S4 => ((am_sx E (i + 1)).bind (fun v5 => ((am_sx E (i + 2)).bind (fun v6 => ((am_sx E (i + 3)).bind (fun v7 => ((f_X12_worth S4 105 v5 v6 v7).bind (fun y8 => ((f_X12_thrown (y8.2, S4.2) 105).bind (fun v9 => (if v9 = v4 then (if v4 = 0 then ((am_ld y8.2 122 0).bind (fun v12 => (if (lg_cmp (v12).toInt64 (y8.1).toInt64) = 0 then some (y8.2, S4.2) else none))) else some (y8.2, S4.2)) else none)))))))))))))))))))
set_option maxRecDepth 20000 in
theorem t_case_32 {β : Type} {E : am_E} {l : Launch} (hl : l.stackTraces = false) {Z : List Frame → Array Value → State → β → State → Prop} {cs sl : Nat} (hcs : cs ≤ 500000) (hsl : sl ≤ 7000000) {S : am_S} {i : Int32} {F : am_S → Option β} (hN : ∀ S, am_Ev E l (RL, cL_law_, 7, (some .boolean), [], room_1) Z (cs + 8) (sl + 48) 2462 [some (.ref 900), some (.ref 0), some (.ref 105), some (.ref 122), some (.int i), none, none] [] S (F S)) : am_Ev E l (RL, cL_law_, 7, (some .boolean), [], room_1) Z cs sl 2157 [some (.ref 900), some (.ref 0), some (.ref 105), some (.ref 122), some (.int i), none, none] [] S ((f_case_32 E S i).bind F) := by
  unfold f_case_32
  refine ev_aload_n dL_law__2157 rfl ?_
  refine ev_aload_n dL_law__2158 rfl ?_
  refine ev_iload dL_law__2159 rfl ?_
  refine ev_iconst (v := 1) dL_law__2161 (by decide) ?_
  refine ev_iadd dL_law__2162 ?_
  refine ev_eq (Option.bind_assoc _ _ _) ?_
  refine ev_sld dL_law__2163 (fun v1 h1 => ?_)
  refine ev_aload_n dL_law__2164 rfl ?_
  refine ev_iload dL_law__2165 rfl ?_
  refine ev_iconst (v := 2) dL_law__2167 (by decide) ?_
  refine ev_iadd dL_law__2168 ?_
  refine ev_eq (Option.bind_assoc _ _ _) ?_
  refine ev_sld dL_law__2169 (fun v2 h2 => ?_)
  refine ev_aload_n dL_law__2170 rfl ?_
  refine ev_iload dL_law__2171 rfl ?_
  refine ev_iconst (v := 3) dL_law__2173 (by decide) ?_
  refine ev_iadd dL_law__2174 ?_
  refine ev_eq (Option.bind_assoc _ _ _) ?_
  refine ev_sld dL_law__2175 (fun v3 h3 => ?_)
  refine ev_aload_n dL_law__2176 rfl ?_
  refine ev_callXI (am_callSH (as := [.ref 0, .int v1, .int v2, .int v3, .ref 122]) (st := []) ct_L_234 dL_law__2177 rfl (am_le rfl) (am_fitL (by omega) (by omega) (by decide) (by decide) (by decide) (by decide)) (t_L_worth hl (by decide) (by decide))) (fun v4 S4 h4 => ?_)
  refine ev_istore dL_law__2180 (am_lt rfl) ?_
  refine ev_aload_n dL_law__2182 rfl ?_
  refine ev_aload_n dL_law__2183 rfl ?_
  refine ev_iload dL_law__2184 rfl ?_
  refine ev_iconst (v := 1) dL_law__2186 (by decide) ?_
  refine ev_iadd dL_law__2187 ?_
  refine ev_eq (Option.bind_assoc _ _ _) ?_
  refine ev_sld dL_law__2188 (fun v5 h5 => ?_)
  refine ev_aload_n dL_law__2189 rfl ?_
  refine ev_iload dL_law__2190 rfl ?_
  refine ev_iconst (v := 2) dL_law__2192 (by decide) ?_
  refine ev_iadd dL_law__2193 ?_
  refine ev_eq (Option.bind_assoc _ _ _) ?_
  refine ev_sld dL_law__2194 (fun v6 h6 => ?_)
  refine ev_aload_n dL_law__2195 rfl ?_
  refine ev_iload dL_law__2196 rfl ?_
  refine ev_iconst (v := 3) dL_law__2198 (by decide) ?_
  refine ev_iadd dL_law__2199 ?_
  refine ev_eq (Option.bind_assoc _ _ _) ?_
  refine ev_sld dL_law__2200 (fun v7 h7 => ?_)
  refine ev_eq (Option.bind_assoc _ _ _) ?_
  refine ev_callWI (am_callV (as := [.int v5, .int v6, .int v7]) (o := 105) (st := []) cv_L_236 dL_law__2201 (by decide) rfl (am_le rfl) (am_fitL (by omega) (by omega) (by decide) (by decide) (by decide) (by decide)) (t_X12_worth hl (by decide))) (fun y8 h8 => ?_)
  refine ev_istore dL_law__2204 (am_lt rfl) ?_
  refine ev_aload_n dL_law__2206 rfl ?_
  refine ev_eq (Option.bind_assoc _ _ _) ?_
  refine ev_callP (am_callV (as := []) (o := 105) (st := []) cv_L_133 dL_law__2207 (by decide) rfl (am_le rfl) (am_fitL (by omega) (by omega) (by decide) (by decide) (by decide) (by decide)) (t_X12_thrown hl (by decide))) (fun v9 h9 => ?_)
  refine ev_iload dL_law__2210 rfl ?_
  refine ev_eq am_ib ?_
  refine ev_icmp_eq (tgt := 2217) dL_law__2212 (by decide) (fun c10 => ?_) (fun c10 => ?_)
  · refine ev_iload dL_law__2217 rfl ?_
    refine ev_eq am_ib ?_
    refine ev_if_ne (tgt := 2234) dL_law__2219 (by decide) (fun c11 => ?_) (fun c11 => ?_)
    · refine ev_goto (tgt := 2462) dL_law__2234 (by decide) ?_
      exact ev_widen (by omega) (by omega) (ev_leaf (am_wk (am_wk (am_wk (am_wk (am_wk (am_wf (am_wf am_wn))))))) (hN (y8.2, S4.2)))
    · refine ev_aload_n dL_law__2222 rfl ?_
      refine ev_iconst (v := 0) dL_law__2223 (by decide) ?_
      refine ev_eq (Option.bind_assoc _ _ _) ?_
      refine ev_lald dL_law__2224 (by decide) (fun v12 h12 => ?_)
      refine ev_iload dL_law__2225 rfl ?_
      refine ev_i2l dL_law__2227 ?_
      refine ev_lcmp dL_law__2228 ?_
      refine ev_eq am_ib ?_
      refine ev_if_eq (tgt := 2234) dL_law__2229 (by decide) (fun c13 => ?_) (fun c13 => ?_)
      · refine ev_goto (tgt := 2462) dL_law__2234 (by decide) ?_
        exact ev_widen (by omega) (by omega) (ev_leaf (am_wk (am_wk (am_wk (am_wk (am_wk (am_wf (am_wf am_wn))))))) (hN (y8.2, S4.2)))
      · refine ev_iconst (v := 0) dL_law__2232 (by decide) ?_
        exact ev_none
  · refine ev_iconst (v := 0) dL_law__2215 (by decide) ?_
    exact ev_none
def f_case_33 (E : am_E) (S : am_S) (i : Int32) : Option am_S :=
  ((am_sx E (i + 1)).bind (fun v1 => ((am_sx E (i + 2)).bind (fun v2 => ((am_sx E (i + 3)).bind (fun v3 => ((if v3 = 0 then some (0 : Int32) else some (1 : Int32)).bind (fun t5 => (am_xI (f_L_sale S 0 v1 v2 t5 122) (fun v6 S6 => ((am_sx E (i + 1)).bind (fun v7 => ((am_sx E (i + 2)).bind (fun v8 => ((am_sx E (i + 3)).bind (fun v9 => ((if v9 = 0 then some (0 : Int32) else some (1 : Int32)).bind (fun t11 => ((f_X12_sale S6 105 v7 v8 t11).bind (fun y12 => ((f_X12_thrown (y12.2, S6.2) 105).bind (fun v13 => (if v13 = v6 then (if v6 = 0 then ((am_ld y12.2 122 0).bind (fun v16 => (if (lg_cmp (v16).toInt64 (y12.1).toInt64) = 0 then some (y12.2, S6.2) else none))) else some (y12.2, S6.2)) else none)))))))))))))))))))))))
set_option maxRecDepth 20000 in
theorem t_case_33 {β : Type} {E : am_E} {l : Launch} (hl : l.stackTraces = false) {Z : List Frame → Array Value → State → β → State → Prop} {cs sl : Nat} (hcs : cs ≤ 500000) (hsl : sl ≤ 7000000) {S : am_S} {i : Int32} {F : am_S → Option β} (hN : ∀ S, am_Ev E l (RL, cL_law_, 7, (some .boolean), [], room_1) Z (cs + 8) (sl + 48) 2462 [some (.ref 900), some (.ref 0), some (.ref 105), some (.ref 122), some (.int i), none, none] [] S (F S)) : am_Ev E l (RL, cL_law_, 7, (some .boolean), [], room_1) Z cs sl 2237 [some (.ref 900), some (.ref 0), some (.ref 105), some (.ref 122), some (.int i), none, none] [] S ((f_case_33 E S i).bind F) := by
  unfold f_case_33
  refine ev_aload_n dL_law__2237 rfl ?_
  refine ev_aload_n dL_law__2238 rfl ?_
  refine ev_iload dL_law__2239 rfl ?_
  refine ev_iconst (v := 1) dL_law__2241 (by decide) ?_
  refine ev_iadd dL_law__2242 ?_
  refine ev_eq (Option.bind_assoc _ _ _) ?_
  refine ev_sld dL_law__2243 (fun v1 h1 => ?_)
  refine ev_aload_n dL_law__2244 rfl ?_
  refine ev_iload dL_law__2245 rfl ?_
  refine ev_iconst (v := 2) dL_law__2247 (by decide) ?_
  refine ev_iadd dL_law__2248 ?_
  refine ev_eq (Option.bind_assoc _ _ _) ?_
  refine ev_sld dL_law__2249 (fun v2 h2 => ?_)
  refine ev_aload_n dL_law__2250 rfl ?_
  refine ev_iload dL_law__2251 rfl ?_
  refine ev_iconst (v := 3) dL_law__2253 (by decide) ?_
  refine ev_iadd dL_law__2254 ?_
  refine ev_eq (Option.bind_assoc _ _ _) ?_
  refine ev_sld dL_law__2255 (fun v3 h3 => ?_)
  refine ev_eq (Option.bind_assoc _ _ _) ?_
  refine ev_reg (cs' := cs + 0) (sl' := sl + 0) 2264 (fun t5 : Int32 => [some (.ref 900), some (.ref 0), some (.ref 105), some (.ref 122), some (.int i), none, none]) (fun t5 => [.int t5, .int v2, .int v1, .ref 0]) (fun t5 => S) (fun hJ5 => ?_) (fun t5 => ?_)
  · refine ev_eq am_ib ?_
    refine ev_if_eq (tgt := 2263) dL_law__2256 (by decide) (fun c5 => ?_) (fun c5 => ?_)
    · refine ev_iconst (v := 0) dL_law__2263 (by decide) ?_
      exact ev_leaf (am_wk (am_wk (am_wk (am_wk (am_wk (am_wf (am_wf am_wn))))))) (hJ5 (0 : Int32))
    · refine ev_iconst (v := 1) dL_law__2259 (by decide) ?_
      refine ev_goto (tgt := 2264) dL_law__2260 (by decide) ?_
      exact ev_leaf (am_wk (am_wk (am_wk (am_wk (am_wk (am_wf (am_wf am_wn))))))) (hJ5 (1 : Int32))
  · refine ev_aload_n dL_law__2264 rfl ?_
    refine ev_callXI (am_callSH (as := [.ref 0, .int v1, .int v2, .int t5, .ref 122]) (st := []) ct_L_237 dL_law__2265 rfl (am_le rfl) (am_fitL (by omega) (by omega) (by decide) (by decide) (by decide) (by decide)) (t_L_sale hl (by decide) (by decide))) (fun v6 S6 h6 => ?_)
    refine ev_istore dL_law__2268 (am_lt rfl) ?_
    refine ev_aload_n dL_law__2270 rfl ?_
    refine ev_aload_n dL_law__2271 rfl ?_
    refine ev_iload dL_law__2272 rfl ?_
    refine ev_iconst (v := 1) dL_law__2274 (by decide) ?_
    refine ev_iadd dL_law__2275 ?_
    refine ev_eq (Option.bind_assoc _ _ _) ?_
    refine ev_sld dL_law__2276 (fun v7 h7 => ?_)
    refine ev_aload_n dL_law__2277 rfl ?_
    refine ev_iload dL_law__2278 rfl ?_
    refine ev_iconst (v := 2) dL_law__2280 (by decide) ?_
    refine ev_iadd dL_law__2281 ?_
    refine ev_eq (Option.bind_assoc _ _ _) ?_
    refine ev_sld dL_law__2282 (fun v8 h8 => ?_)
    refine ev_aload_n dL_law__2283 rfl ?_
    refine ev_iload dL_law__2284 rfl ?_
    refine ev_iconst (v := 3) dL_law__2286 (by decide) ?_
    refine ev_iadd dL_law__2287 ?_
    refine ev_eq (Option.bind_assoc _ _ _) ?_
    refine ev_sld dL_law__2288 (fun v9 h9 => ?_)
    refine ev_eq (Option.bind_assoc _ _ _) ?_
    refine ev_reg (cs' := cs + 2) (sl' := sl + 12) 2297 (fun t11 : Int32 => [some (.ref 900), some (.ref 0), some (.ref 105), some (.ref 122), some (.int i), some (.int v6), none]) (fun t11 => [.int t11, .int v8, .int v7, .ref 105]) (fun t11 => S6) (fun hJ11 => ?_) (fun t11 => ?_)
    · refine ev_eq am_ib ?_
      refine ev_if_eq (tgt := 2296) dL_law__2289 (by decide) (fun c11 => ?_) (fun c11 => ?_)
      · refine ev_iconst (v := 0) dL_law__2296 (by decide) ?_
        exact ev_leaf (am_wk (am_wk (am_wk (am_wk (am_wk (am_wk (am_wf am_wn))))))) (hJ11 (0 : Int32))
      · refine ev_iconst (v := 1) dL_law__2292 (by decide) ?_
        refine ev_goto (tgt := 2297) dL_law__2293 (by decide) ?_
        exact ev_leaf (am_wk (am_wk (am_wk (am_wk (am_wk (am_wk (am_wf am_wn))))))) (hJ11 (1 : Int32))
    · refine ev_eq (Option.bind_assoc _ _ _) ?_
      refine ev_callWI (am_callV (as := [.int v7, .int v8, .int t11]) (o := 105) (st := []) cv_L_239 dL_law__2297 (by decide) rfl (am_le rfl) (am_fitL (by omega) (by omega) (by decide) (by decide) (by decide) (by decide)) (t_X12_sale hl (by decide))) (fun y12 h12 => ?_)
      refine ev_istore dL_law__2300 (am_lt rfl) ?_
      refine ev_aload_n dL_law__2302 rfl ?_
      refine ev_eq (Option.bind_assoc _ _ _) ?_
      refine ev_callP (am_callV (as := []) (o := 105) (st := []) cv_L_133 dL_law__2303 (by decide) rfl (am_le rfl) (am_fitL (by omega) (by omega) (by decide) (by decide) (by decide) (by decide)) (t_X12_thrown hl (by decide))) (fun v13 h13 => ?_)
      refine ev_iload dL_law__2306 rfl ?_
      refine ev_eq am_ib ?_
      refine ev_icmp_eq (tgt := 2313) dL_law__2308 (by decide) (fun c14 => ?_) (fun c14 => ?_)
      · refine ev_iload dL_law__2313 rfl ?_
        refine ev_eq am_ib ?_
        refine ev_if_ne (tgt := 2330) dL_law__2315 (by decide) (fun c15 => ?_) (fun c15 => ?_)
        · refine ev_goto (tgt := 2462) dL_law__2330 (by decide) ?_
          exact ev_widen (by omega) (by omega) (ev_leaf (am_wk (am_wk (am_wk (am_wk (am_wk (am_wf (am_wf am_wn))))))) (hN (y12.2, S6.2)))
        · refine ev_aload_n dL_law__2318 rfl ?_
          refine ev_iconst (v := 0) dL_law__2319 (by decide) ?_
          refine ev_eq (Option.bind_assoc _ _ _) ?_
          refine ev_lald dL_law__2320 (by decide) (fun v16 h16 => ?_)
          refine ev_iload dL_law__2321 rfl ?_
          refine ev_i2l dL_law__2323 ?_
          refine ev_lcmp dL_law__2324 ?_
          refine ev_eq am_ib ?_
          refine ev_if_eq (tgt := 2330) dL_law__2325 (by decide) (fun c17 => ?_) (fun c17 => ?_)
          · refine ev_goto (tgt := 2462) dL_law__2330 (by decide) ?_
            exact ev_widen (by omega) (by omega) (ev_leaf (am_wk (am_wk (am_wk (am_wk (am_wk (am_wf (am_wf am_wn))))))) (hN (y12.2, S6.2)))
          · refine ev_iconst (v := 0) dL_law__2328 (by decide) ?_
            exact ev_none
      · refine ev_iconst (v := 0) dL_law__2311 (by decide) ?_
        exact ev_none
def f_case_34 (E : am_E) (S : am_S) (i : Int32) : Option am_S :=
  ((am_sx E (i + 1)).bind (fun v1 => ((am_sx E (i + 2)).bind (fun v2 => ((am_sx E (i + 3)).bind (fun v3 => (am_xI (f_L_evening S 0 v1 v2 v3 122) (fun v4 S4 => ((am_sx E (i + 1)).bind (fun v5 => ((am_sx E (i + 2)).bind (fun v6 => ((am_sx E (i + 3)).bind (fun v7 => ((f_X12_evening S4 105 v5 v6 v7).bind (fun y8 => ((f_X12_thrown (y8.2, S4.2) 105).bind (fun v9 => (if v9 = v4 then (if v4 = 0 then ((am_ld y8.2 122 0).bind (fun v12 => (if (lg_cmp (v12).toInt64 (y8.1).toInt64) = 0 then some (y8.2, S4.2) else none))) else some (y8.2, S4.2)) else none)))))))))))))))))))
set_option maxRecDepth 20000 in
theorem t_case_34 {β : Type} {E : am_E} {l : Launch} (hl : l.stackTraces = false) {Z : List Frame → Array Value → State → β → State → Prop} {cs sl : Nat} (hcs : cs ≤ 500000) (hsl : sl ≤ 7000000) {S : am_S} {i : Int32} {F : am_S → Option β} (hN : ∀ S, am_Ev E l (RL, cL_law_, 7, (some .boolean), [], room_1) Z (cs + 8) (sl + 48) 2462 [some (.ref 900), some (.ref 0), some (.ref 105), some (.ref 122), some (.int i), none, none] [] S (F S)) : am_Ev E l (RL, cL_law_, 7, (some .boolean), [], room_1) Z cs sl 2333 [some (.ref 900), some (.ref 0), some (.ref 105), some (.ref 122), some (.int i), none, none] [] S ((f_case_34 E S i).bind F) := by
  unfold f_case_34
  refine ev_aload_n dL_law__2333 rfl ?_
  refine ev_aload_n dL_law__2334 rfl ?_
  refine ev_iload dL_law__2335 rfl ?_
  refine ev_iconst (v := 1) dL_law__2337 (by decide) ?_
  refine ev_iadd dL_law__2338 ?_
  refine ev_eq (Option.bind_assoc _ _ _) ?_
  refine ev_sld dL_law__2339 (fun v1 h1 => ?_)
  refine ev_aload_n dL_law__2340 rfl ?_
  refine ev_iload dL_law__2341 rfl ?_
  refine ev_iconst (v := 2) dL_law__2343 (by decide) ?_
  refine ev_iadd dL_law__2344 ?_
  refine ev_eq (Option.bind_assoc _ _ _) ?_
  refine ev_sld dL_law__2345 (fun v2 h2 => ?_)
  refine ev_aload_n dL_law__2346 rfl ?_
  refine ev_iload dL_law__2347 rfl ?_
  refine ev_iconst (v := 3) dL_law__2349 (by decide) ?_
  refine ev_iadd dL_law__2350 ?_
  refine ev_eq (Option.bind_assoc _ _ _) ?_
  refine ev_sld dL_law__2351 (fun v3 h3 => ?_)
  refine ev_aload_n dL_law__2352 rfl ?_
  refine ev_callXI (am_callSH (as := [.ref 0, .int v1, .int v2, .int v3, .ref 122]) (st := []) ct_L_240 dL_law__2353 rfl (am_le rfl) (am_fitL (by omega) (by omega) (by decide) (by decide) (by decide) (by decide)) (t_L_evening hl (by decide) (by decide))) (fun v4 S4 h4 => ?_)
  refine ev_istore dL_law__2356 (am_lt rfl) ?_
  refine ev_aload_n dL_law__2358 rfl ?_
  refine ev_aload_n dL_law__2359 rfl ?_
  refine ev_iload dL_law__2360 rfl ?_
  refine ev_iconst (v := 1) dL_law__2362 (by decide) ?_
  refine ev_iadd dL_law__2363 ?_
  refine ev_eq (Option.bind_assoc _ _ _) ?_
  refine ev_sld dL_law__2364 (fun v5 h5 => ?_)
  refine ev_aload_n dL_law__2365 rfl ?_
  refine ev_iload dL_law__2366 rfl ?_
  refine ev_iconst (v := 2) dL_law__2368 (by decide) ?_
  refine ev_iadd dL_law__2369 ?_
  refine ev_eq (Option.bind_assoc _ _ _) ?_
  refine ev_sld dL_law__2370 (fun v6 h6 => ?_)
  refine ev_aload_n dL_law__2371 rfl ?_
  refine ev_iload dL_law__2372 rfl ?_
  refine ev_iconst (v := 3) dL_law__2374 (by decide) ?_
  refine ev_iadd dL_law__2375 ?_
  refine ev_eq (Option.bind_assoc _ _ _) ?_
  refine ev_sld dL_law__2376 (fun v7 h7 => ?_)
  refine ev_eq (Option.bind_assoc _ _ _) ?_
  refine ev_callWI (am_callV (as := [.int v5, .int v6, .int v7]) (o := 105) (st := []) cv_L_242 dL_law__2377 (by decide) rfl (am_le rfl) (am_fitL (by omega) (by omega) (by decide) (by decide) (by decide) (by decide)) (t_X12_evening hl (by decide))) (fun y8 h8 => ?_)
  refine ev_istore dL_law__2380 (am_lt rfl) ?_
  refine ev_aload_n dL_law__2382 rfl ?_
  refine ev_eq (Option.bind_assoc _ _ _) ?_
  refine ev_callP (am_callV (as := []) (o := 105) (st := []) cv_L_133 dL_law__2383 (by decide) rfl (am_le rfl) (am_fitL (by omega) (by omega) (by decide) (by decide) (by decide) (by decide)) (t_X12_thrown hl (by decide))) (fun v9 h9 => ?_)
  refine ev_iload dL_law__2386 rfl ?_
  refine ev_eq am_ib ?_
  refine ev_icmp_eq (tgt := 2393) dL_law__2388 (by decide) (fun c10 => ?_) (fun c10 => ?_)
  · refine ev_iload dL_law__2393 rfl ?_
    refine ev_eq am_ib ?_
    refine ev_if_ne (tgt := 2410) dL_law__2395 (by decide) (fun c11 => ?_) (fun c11 => ?_)
    · refine ev_goto (tgt := 2462) dL_law__2410 (by decide) ?_
      exact ev_widen (by omega) (by omega) (ev_leaf (am_wk (am_wk (am_wk (am_wk (am_wk (am_wf (am_wf am_wn))))))) (hN (y8.2, S4.2)))
    · refine ev_aload_n dL_law__2398 rfl ?_
      refine ev_iconst (v := 0) dL_law__2399 (by decide) ?_
      refine ev_eq (Option.bind_assoc _ _ _) ?_
      refine ev_lald dL_law__2400 (by decide) (fun v12 h12 => ?_)
      refine ev_iload dL_law__2401 rfl ?_
      refine ev_i2l dL_law__2403 ?_
      refine ev_lcmp dL_law__2404 ?_
      refine ev_eq am_ib ?_
      refine ev_if_eq (tgt := 2410) dL_law__2405 (by decide) (fun c13 => ?_) (fun c13 => ?_)
      · refine ev_goto (tgt := 2462) dL_law__2410 (by decide) ?_
        exact ev_widen (by omega) (by omega) (ev_leaf (am_wk (am_wk (am_wk (am_wk (am_wk (am_wf (am_wf am_wn))))))) (hN (y8.2, S4.2)))
      · refine ev_iconst (v := 0) dL_law__2408 (by decide) ?_
        exact ev_none
  · refine ev_iconst (v := 0) dL_law__2391 (by decide) ?_
    exact ev_none
def f_case_35 (E : am_E) (S : am_S) (i : Int32) : Option am_S :=
  ((f_X11_image S 0).bind (fun σ1 => ((f_X12_image (σ1, S.2) 105).bind (fun σ2 => some (σ2, S.2)))))
set_option maxRecDepth 20000 in
theorem t_case_35 {β : Type} {E : am_E} {l : Launch} (hl : l.stackTraces = false) {Z : List Frame → Array Value → State → β → State → Prop} {cs sl : Nat} (hcs : cs ≤ 500000) (hsl : sl ≤ 7000000) {S : am_S} {i : Int32} {F : am_S → Option β} (hN : ∀ S, am_Ev E l (RL, cL_law_, 7, (some .boolean), [], room_1) Z (cs + 8) (sl + 48) 2462 [some (.ref 900), some (.ref 0), some (.ref 105), some (.ref 122), some (.int i), none, none] [] S (F S)) : am_Ev E l (RL, cL_law_, 7, (some .boolean), [], room_1) Z cs sl 2413 [some (.ref 900), some (.ref 0), some (.ref 105), some (.ref 122), some (.int i), none, none] [] S ((f_case_35 E S i).bind F) := by
  unfold f_case_35
  refine ev_aload_n dL_law__2413 rfl ?_
  refine ev_eq (Option.bind_assoc _ _ _) ?_
  refine ev_callWV (am_callV (as := []) (o := 0) (st := []) cv_L_243 dL_law__2414 (by decide) rfl (am_le rfl) (am_fitL (by omega) (by omega) (by decide) (by decide) (by decide) (by decide)) (t_X11_image hl (by decide))) (fun σ1 h1 => ?_)
  refine ev_aload_n dL_law__2417 rfl ?_
  refine ev_eq (Option.bind_assoc _ _ _) ?_
  refine ev_callWV (am_callV (as := []) (o := 105) (st := []) cv_L_246 dL_law__2418 (by decide) rfl (am_le rfl) (am_fitL (by omega) (by omega) (by decide) (by decide) (by decide) (by decide)) (t_X12_image hl (by decide))) (fun σ2 h2 => ?_)
  refine ev_goto (tgt := 2462) dL_law__2421 (by decide) ?_
  exact ev_widen (by omega) (by omega) (ev_leaf (am_wk (am_wk (am_wk (am_wk (am_wk (am_wf (am_wf am_wn))))))) (hN (σ2, S.2)))
def f_case_36 (E : am_E) (S : am_S) (i : Int32) : Option am_S :=
  ((f_X11_back S 0).bind (fun y1 => ((f_X12_back (y1.2, S.2) 105).bind (fun y2 => (if y1.1 = y2.1 then some (y2.2, S.2) else none)))))
set_option maxRecDepth 20000 in
theorem t_case_36 {β : Type} {E : am_E} {l : Launch} (hl : l.stackTraces = false) {Z : List Frame → Array Value → State → β → State → Prop} {cs sl : Nat} (hcs : cs ≤ 500000) (hsl : sl ≤ 7000000) {S : am_S} {i : Int32} {F : am_S → Option β} (hN : ∀ S, am_Ev E l (RL, cL_law_, 7, (some .boolean), [], room_1) Z (cs + 8) (sl + 48) 2462 [some (.ref 900), some (.ref 0), some (.ref 105), some (.ref 122), some (.int i), none, none] [] S (F S)) : am_Ev E l (RL, cL_law_, 7, (some .boolean), [], room_1) Z cs sl 2424 [some (.ref 900), some (.ref 0), some (.ref 105), some (.ref 122), some (.int i), none, none] [] S ((f_case_36 E S i).bind F) := by
  unfold f_case_36
  refine ev_aload_n dL_law__2424 rfl ?_
  refine ev_eq (Option.bind_assoc _ _ _) ?_
  refine ev_callWI (am_callV (as := []) (o := 0) (st := []) cv_L_247 dL_law__2425 (by decide) rfl (am_le rfl) (am_fitL (by omega) (by omega) (by decide) (by decide) (by decide) (by decide)) (t_X11_back hl (by decide))) (fun y1 h1 => ?_)
  refine ev_aload_n dL_law__2428 rfl ?_
  refine ev_eq (Option.bind_assoc _ _ _) ?_
  refine ev_callWI (am_callV (as := []) (o := 105) (st := [.int y1.1]) cv_L_251 dL_law__2429 (by decide) rfl (am_le rfl) (am_fitL (by omega) (by omega) (by decide) (by decide) (by decide) (by decide)) (t_X12_back hl (by decide))) (fun y2 h2 => ?_)
  refine ev_eq am_ib ?_
  refine ev_icmp_eq (tgt := 2462) dL_law__2432 (by decide) (fun c3 => ?_) (fun c3 => ?_)
  · exact ev_widen (by omega) (by omega) (ev_leaf (am_wk (am_wk (am_wk (am_wk (am_wk (am_wf (am_wf am_wn))))))) (hN (y2.2, S.2)))
  · refine ev_iconst (v := 0) dL_law__2435 (by decide) ?_
    exact ev_none
def f_case_37 (E : am_E) (S : am_S) (i : Int32) : Option am_S :=
  ((am_sx E (i + 1)).bind (fun v1 => ((f_X11_count S 0 v1).bind (fun v2 => ((am_sx E (i + 1)).bind (fun v3 => ((f_X12_count S 105 v3).bind (fun y4 => (if v2 = y4.1 then some (y4.2, S.2) else none)))))))))
set_option maxRecDepth 20000 in
theorem t_case_37 {β : Type} {E : am_E} {l : Launch} (hl : l.stackTraces = false) {Z : List Frame → Array Value → State → β → State → Prop} {cs sl : Nat} (hcs : cs ≤ 500000) (hsl : sl ≤ 7000000) {S : am_S} {i : Int32} {F : am_S → Option β} (hN : ∀ S, am_Ev E l (RL, cL_law_, 7, (some .boolean), [], room_1) Z (cs + 8) (sl + 48) 2462 [some (.ref 900), some (.ref 0), some (.ref 105), some (.ref 122), some (.int i), none, none] [] S (F S)) : am_Ev E l (RL, cL_law_, 7, (some .boolean), [], room_1) Z cs sl 2437 [some (.ref 900), some (.ref 0), some (.ref 105), some (.ref 122), some (.int i), none, none] [] S ((f_case_37 E S i).bind F) := by
  unfold f_case_37
  refine ev_aload_n dL_law__2437 rfl ?_
  refine ev_aload_n dL_law__2438 rfl ?_
  refine ev_iload dL_law__2439 rfl ?_
  refine ev_iconst (v := 1) dL_law__2441 (by decide) ?_
  refine ev_iadd dL_law__2442 ?_
  refine ev_eq (Option.bind_assoc _ _ _) ?_
  refine ev_sld dL_law__2443 (fun v1 h1 => ?_)
  refine ev_eq (Option.bind_assoc _ _ _) ?_
  refine ev_callP (am_callV (as := [.int v1]) (o := 0) (st := []) cv_L_252 dL_law__2444 (by decide) rfl (am_le rfl) (am_fitL (by omega) (by omega) (by decide) (by decide) (by decide) (by decide)) (t_X11_count hl (by decide))) (fun v2 h2 => ?_)
  refine ev_aload_n dL_law__2447 rfl ?_
  refine ev_aload_n dL_law__2448 rfl ?_
  refine ev_iload dL_law__2449 rfl ?_
  refine ev_iconst (v := 1) dL_law__2451 (by decide) ?_
  refine ev_iadd dL_law__2452 ?_
  refine ev_eq (Option.bind_assoc _ _ _) ?_
  refine ev_sld dL_law__2453 (fun v3 h3 => ?_)
  refine ev_eq (Option.bind_assoc _ _ _) ?_
  refine ev_callWI (am_callV (as := [.int v3]) (o := 105) (st := [.int v2]) cv_L_255 dL_law__2454 (by decide) rfl (am_le rfl) (am_fitL (by omega) (by omega) (by decide) (by decide) (by decide) (by decide)) (t_X12_count hl (by decide))) (fun y4 h4 => ?_)
  refine ev_eq am_ib ?_
  refine ev_icmp_eq (tgt := 2462) dL_law__2457 (by decide) (fun c5 => ?_) (fun c5 => ?_)
  · exact ev_widen (by omega) (by omega) (ev_leaf (am_wk (am_wk (am_wk (am_wk (am_wk (am_wf (am_wf am_wn))))))) (hN (y4.2, S.2)))
  · refine ev_iconst (v := 0) dL_law__2460 (by decide) ?_
    exact ev_none
