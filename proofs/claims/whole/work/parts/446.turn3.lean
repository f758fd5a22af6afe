section TP
variable {σ : sg} {ρ : rg} {t u : Nat} {w wi : wg}
theorem rd_value {a b : Nat} (h : rh ρ a b) : am_rd ρ 105 20 1 = some 116 := rh_rd h (by decide) (by decide) (by decide +kernel)
theorem ln_116 : am_ln 116 = 400 := by decide
def k16 (σ τ : sg) : Prop := ∀ o, o ≠ 116 → τ o = σ o
theorem wS_k16 {τ : sg} (H : wS σ ρ w) (h : k16 σ τ) : wS τ ρ w := ⟨H.1, fun k hk => by rw [h 106 (by decide)]; exact H.2.1 k hk, H.2.2⟩
theorem M_fact (H : wS σ ρ w) {h v n k : Nat} {mi : Int32} (hh : h < nH w) (hv : v < nW w) (hk : k ≤ 5) : f_X12_factOf (σ, ρ) 105 (Int32.ofNat k) (Int32.ofNat n) (Int32.ofNat h) (Int32.ofNat v) mi = some (if k ≤ 4 then lfx w h v mi k else Int32.ofNat n) := by
  have hH := (wv_H H.2.2).2
  have hW := (wv_W H.2.2).2
  have hx := wx_lt H.2.2 (a := h) (v := v)
  have : k = 0 ∨ k = 1 ∨ k = 2 ∨ k = 3 ∨ k = 4 ∨ k = 5 := by omega
  unfold f_X12_factOf
  rcases this with rfl | rfl | rfl | rfl | rfl | rfl
  · rw [if_pos (by decide)]; rfl
  · rw [if_neg (by decide), if_pos (by decide), show (3 : Int32) = Int32.ofNat 3 from rfl, M_of H (by omega) (by decide), bnd]
    show some (w (8 + 15 * h + 3)) = some (w (11 + 15 * h))
    rw [show 8 + 15 * h + 3 = 11 + 15 * h by omega]
  · rw [if_neg (by decide), if_neg (by decide), if_pos (by decide), M_ur H (by omega)]; rfl
  · rw [if_neg (by decide), if_neg (by decide), if_neg (by decide), if_pos (by decide), M_wf H hh hv, bnd, (w_min (show wx w h v < 1024 by omega)).1]; rfl
  · rw [if_neg (by decide), if_neg (by decide), if_neg (by decide), if_neg (by decide), if_pos (by decide)]; rfl
  · rw [if_neg (by decide), if_neg (by decide), if_neg (by decide), if_neg (by decide), if_neg (by decide)]; rfl
/-- a step of the model, from what is read -/
theorem M_lst {a b : Nat} (hr : rh ρ a b) {τ : sg} {f : Nat → Int32} {n k : Nat} {bs bs' : List Bool} {st : List Int32} (hk : ck1 bs k = some bs') (hk12 : k < 12) (hl : bs.length ≤ 40) (g : typ bs st) (h : stk (τ 116) st) {fa : Option Int32} (hfa : k ≤ 5 → fa = some (if k ≤ 4 then f k else Int32.ofNat n)) : ∃ τ', (if 5 < Int32.ofNat k then (if Int32.ofNat k = 9 then ((am_rd ρ 105 20 1).bind (fun q26 => ((am_rd ρ 105 20 1).bind (fun q27 => ((am_ld τ q27 (Int32.ofNat st.length - 1)).bind (fun v28 => ((am_st τ q26 (Int32.ofNat st.length - 1) (1 - v28)).bind (fun σ29 => some (Int32.ofNat st.length, σ29))))))))) else ((am_rd ρ 105 20 1).bind (fun q11 => ((am_ld τ q11 ((Int32.ofNat st.length + (-1)) - 1)).bind (fun v12 => ((am_rd ρ 105 20 1).bind (fun q13 => ((am_ld τ q13 (Int32.ofNat st.length + (-1))).bind (fun v14 => ((if Int32.ofNat k = 7 then (if v12 < v14 then some (1 : Int32) else some (0 : Int32)) else (if Int32.ofNat k = 8 then (if v14 < v12 then some (1 : Int32) else some (0 : Int32)) else (if Int32.ofNat k = 10 then (if (v12 + v14) = 2 then some (1 : Int32) else some (0 : Int32)) else (if 0 < (v12 + v14) then some (1 : Int32) else some (0 : Int32))))).bind (fun t15 => ((am_rd ρ 105 20 1).bind (fun q22 => ((if Int32.ofNat k = 6 then some (v12 + v14) else (if t15 = 0 then some (0 : Int32) else some (1 : Int32))).bind (fun t23 => ((am_st τ q22 ((Int32.ofNat st.length + (-1)) - 1) t23).bind (fun σ25 => some ((Int32.ofNat st.length + (-1)), σ25)))))))))))))))))) else ((am_rd ρ 105 20 1).bind (fun q30 => fa.bind (fun v33 => ((am_st τ q30 (Int32.ofNat st.length) v33).bind (fun σ34 => some ((Int32.ofNat st.length + 1), σ34))))))) = some (Int32.ofNat (ev1 f n k st).length, τ') ∧ stk (τ' 116) (ev1 f n k st) ∧ k16 τ τ' := by
  have hlen := typ_len g
  have k116 : ∀ j v, k16 τ (am_u2 τ 116 j v) := fun j v o ho => u2_row ho
  -- two values joined
  have two : ∀ (x y z : Int32) (r : List Int32), st = x :: y :: r → 6 ≤ k → k ≠ 9 → z = (if k = 6 then y + x else if k = 7 then (if y < x then 1 else 0) else if k = 8 then (if x < y then 1 else 0) else if k = 10 then (if y + x = 2 then 1 else 0) else (if 0 < y + x then 1 else 0)) → ev1 f n k st = z :: r → ∃ τ', (if 5 < Int32.ofNat k then (if Int32.ofNat k = 9 then ((am_rd ρ 105 20 1).bind (fun q26 => ((am_rd ρ 105 20 1).bind (fun q27 => ((am_ld τ q27 (Int32.ofNat st.length - 1)).bind (fun v28 => ((am_st τ q26 (Int32.ofNat st.length - 1) (1 - v28)).bind (fun σ29 => some (Int32.ofNat st.length, σ29))))))))) else ((am_rd ρ 105 20 1).bind (fun q11 => ((am_ld τ q11 ((Int32.ofNat st.length + (-1)) - 1)).bind (fun v12 => ((am_rd ρ 105 20 1).bind (fun q13 => ((am_ld τ q13 (Int32.ofNat st.length + (-1))).bind (fun v14 => ((if Int32.ofNat k = 7 then (if v12 < v14 then some (1 : Int32) else some (0 : Int32)) else (if Int32.ofNat k = 8 then (if v14 < v12 then some (1 : Int32) else some (0 : Int32)) else (if Int32.ofNat k = 10 then (if (v12 + v14) = 2 then some (1 : Int32) else some (0 : Int32)) else (if 0 < (v12 + v14) then some (1 : Int32) else some (0 : Int32))))).bind (fun t15 => ((am_rd ρ 105 20 1).bind (fun q22 => ((if Int32.ofNat k = 6 then some (v12 + v14) else (if t15 = 0 then some (0 : Int32) else some (1 : Int32))).bind (fun t23 => ((am_st τ q22 ((Int32.ofNat st.length + (-1)) - 1) t23).bind (fun σ25 => some ((Int32.ofNat st.length + (-1)), σ25)))))))))))))))))) else ((am_rd ρ 105 20 1).bind (fun q30 => fa.bind (fun v33 => ((am_st τ q30 (Int32.ofNat st.length) v33).bind (fun σ34 => some ((Int32.ofNat st.length + 1), σ34))))))) = some (Int32.ofNat (ev1 f n k st).length, τ') ∧ stk (τ' 116) (ev1 f n k st) ∧ k16 τ τ' := fun x y z r e h6 h9 hz he => by
    rw [he]
    subst e
    obtain ⟨e1, e2, e3⟩ := h
    rw [List.length_cons] at e1
    rw [List.length_cons, List.length_cons] at hlen
    simp only [List.length_cons]
    have q1 : Int32.ofNat (r.length + 1 + 1) + (-1) = Int32.ofNat (r.length + 1) := by rw [← on_m, on_p (by omega)]; rfl
    have q2 : Int32.ofNat (r.length + 1) - 1 = Int32.ofNat r.length := by rw [on_p (by omega)]; rfl
    rw [if_pos (show (5 : Int32) < Int32.ofNat k from (on_lt (a := 5) (by decide) (by omega)).mpr (by omega)), if_neg (show ¬ Int32.ofNat k = 9 from fun q => h9 ((on_inj (b := 9) (by omega) (by decide)).mp q)), rd_value hr, bnd, q1, q2, ld_on (by rw [ln_116]; omega) (by omega), e2, bnd, bnd, ld_on (by rw [ln_116]; omega) (by omega), e1, bnd]
    have hzz : ((if Int32.ofNat k = 7 then (if y < x then some (1 : Int32) else some (0 : Int32)) else (if Int32.ofNat k = 8 then (if x < y then some (1 : Int32) else some (0 : Int32)) else (if Int32.ofNat k = 10 then (if (y + x) = 2 then some (1 : Int32) else some (0 : Int32)) else (if 0 < (y + x) then some (1 : Int32) else some (0 : Int32))))).bind (fun t15 => ((if Int32.ofNat k = 6 then some (y + x) else (if t15 = 0 then some (0 : Int32) else some (1 : Int32))).bind (fun t23 => ((am_st τ 116 (Int32.ofNat r.length) t23).bind (fun σ25 => some (Int32.ofNat (r.length + 1), σ25))))))) = (am_st τ 116 (Int32.ofNat r.length) z).bind (fun σ25 => some (Int32.ofNat (r.length + 1), σ25)) := by
      rw [hz]
      have : k = 6 ∨ k = 7 ∨ k = 8 ∨ k = 10 ∨ k = 11 := by omega
      rcases this with rfl | rfl | rfl | rfl | rfl
      · rw [if_neg (show ¬ Int32.ofNat 6 = 7 by decide), if_neg (show ¬ Int32.ofNat 6 = 8 by decide), if_neg (show ¬ Int32.ofNat 6 = 10 by decide)]
        by_cases c : 0 < y + x
        · rw [if_pos c]; rfl
        · rw [if_neg c]; rfl
      · rw [if_pos (show Int32.ofNat 7 = 7 by decide)]
        by_cases c : y < x
        · rw [if_pos c, if_pos c]; rfl
        · rw [if_neg c, if_neg c]; rfl
      · rw [if_neg (show ¬ Int32.ofNat 8 = 7 by decide), if_pos (show Int32.ofNat 8 = 8 by decide)]
        by_cases c : x < y
        · rw [if_pos c, if_pos c]; rfl
        · rw [if_neg c, if_neg c]; rfl
      · rw [if_neg (show ¬ Int32.ofNat 10 = 7 by decide), if_neg (show ¬ Int32.ofNat 10 = 8 by decide), if_pos (show Int32.ofNat 10 = 10 by decide)]
        by_cases c : y + x = 2
        · rw [if_pos c, if_pos c]; rfl
        · rw [if_neg c, if_neg c]; rfl
      · rw [if_neg (show ¬ Int32.ofNat 11 = 7 by decide), if_neg (show ¬ Int32.ofNat 11 = 8 by decide), if_neg (show ¬ Int32.ofNat 11 = 10 by decide)]
        by_cases c : 0 < y + x
        · rw [if_pos c, if_pos c]; rfl
        · rw [if_neg c, if_neg c]; rfl
    simp only [bnd]
    rw [hzz, st_on (by rw [ln_116]; omega) (by omega), bnd]
    exact ⟨_, rfl, ⟨u2_eq, stk_cg (fun i hi => by rw [u2_nj (by omega)]) e3⟩, k116 _ _⟩
  rcases ck_cases hk with ⟨c, hb, rfl⟩ | ⟨rfl, r, rfl, rfl⟩ | ⟨c, r, rfl, rfl⟩ | ⟨rfl, r, rfl, rfl⟩ | ⟨c, r, rfl, rfl⟩
  · have he : ev1 f n k st = (if k ≤ 4 then f k else Int32.ofNat n) :: st := by
      unfold ev1
      by_cases z : k ≤ 4
      · rw [if_pos z, if_pos z]
      · rw [if_neg z, if_neg z, if_pos (by omega)]
    rw [he, if_neg (show ¬ (5 : Int32) < Int32.ofNat k from fun q => by have := (on_lt (a := 5) (by decide) (by omega)).mp q; omega), rd_value hr, bnd, hfa c, bnd, st_on (by rw [ln_116]; omega) (by omega), bnd, on_s]
    exact ⟨_, rfl, ⟨u2_eq, stk_cg (fun i hi => by rw [u2_nj (by omega)]) h⟩, k116 _ _⟩
  · obtain ⟨x, y, q, hst, -, -, hq⟩ := typ_2 g
    exact two x y (y + x) q hst (by decide) (by decide) rfl (by rw [hst]; rfl)
  · obtain ⟨x, y, q, hst, -, -, hq⟩ := typ_2 g
    rcases c with rfl | rfl
    · exact two x y (if y < x then 1 else 0) q hst (by decide) (by decide) rfl (by rw [hst]; rfl)
    · exact two x y (if x < y then 1 else 0) q hst (by decide) (by decide) rfl (by rw [hst]; rfl)
  · obtain ⟨x, q, rfl, hx, hq⟩ := typ_1 g
    obtain ⟨e1, e2⟩ := h
    have he : ev1 f n 9 (x :: q) = (if x = 0 then 1 else 0) :: q := rfl
    rw [List.length_cons] at hlen
    rw [he]
    simp only [List.length_cons]
    rw [if_pos (show (5 : Int32) < Int32.ofNat 9 by decide), if_pos (show Int32.ofNat 9 = 9 by decide), rd_value hr, bnd, bnd, on_p (by omega), Nat.add_sub_cancel, ld_on (by rw [ln_116]; omega) (by omega), e1, bnd, st_on (by rw [ln_116]; omega) (by omega), bnd]
    have hz : 1 - x = if x = 0 then 1 else 0 := by rcases hx rfl with rfl | rfl <;> decide
    rw [hz]
    exact ⟨_, rfl, ⟨u2_eq, stk_cg (fun i hi => by rw [u2_nj (by omega)]) e2⟩, k116 _ _⟩
  · obtain ⟨x, y, q, hst, hx, hy, hq⟩ := typ_2 g
    rcases c with rfl | rfl
    · exact two x y (if y = 1 ∧ x = 1 then 1 else 0) q hst (by decide) (by decide) (by
        rcases hx rfl with rfl | rfl <;> rcases hy rfl with rfl | rfl <;> decide) (by rw [hst]; rfl)
    · exact two x y (if y = 1 ∨ x = 1 then 1 else 0) q hst (by decide) (by decide) (by
        rcases hx rfl with rfl | rfl <;> rcases hy rfl with rfl | rfl <;> decide) (by rw [hst]; rfl)
theorem M_lrun {h v : Nat} {mi : Int32} (hh : h < nH w) (hv : v < nW w) {S : sg} {s n : Nat → Nat} {l y : Nat} (hl12 : l < 12) (hy : w (189 + 3 * l) = Int32.ofNat y) : ∀ m i fu τ bs st bs', i + m = y → ckn s i m bs = some bs' → typ bs st → stk (τ 116) st → wS τ ρ w → (∀ j, i ≤ j → j < y → w (223 + 2 * j) = Int32.ofNat (s j) ∧ w (224 + 2 * j) = Int32.ofNat (n j) ∧ s j < 12) → y ≤ 400 → bs.length ≤ 40 → m < fu → ∃ τ', am_loop (f_X12_holdsLine_b23 (S, ρ) 105 (Int32.ofNat h) (Int32.ofNat v) mi (187 + (3 * Int32.ofNat l))) fu (Int32.ofNat st.length, Int32.ofNat i, τ) = some (Int32.ofNat (evn (lfx w h v mi) s n i m st).length, τ') ∧ stk (τ' 116) (evn (lfx w h v mi) s n i m st) ∧ k16 τ τ'
  | 0, i, fu + 1, τ, bs, st, bs', hi, hc, g, hs, H, hd, h4, hl, hfu => by
    have e6 : (187 + (3 * Int32.ofNat l)) + 2 = Int32.ofNat (189 + 3 * l) := by
      rw [show (187 : Int32) = Int32.ofNat 187 from rfl, show (3 : Int32) = Int32.ofNat 3 from rfl, show (2 : Int32) = Int32.ofNat 2 from rfl, on_mul, on_add, on_add]; congr 1; omega
    have hb : f_X12_holdsLine_b23 (S, ρ) 105 (Int32.ofNat h) (Int32.ofNat v) mi (187 + (3 * Int32.ofNat l)) (Int32.ofNat st.length, Int32.ofNat i, τ) = some (.inr (Int32.ofNat st.length, τ)) := by
      unfold f_X12_holdsLine_b23
      simp only [M_w H, bnd, e6]
      rw [M_ld H (by omega), hy, bnd, if_neg (fun z => by have := (on_lt (by omega) (by omega)).mp z; omega)]
    rw [am_loop_s, hb]
    exact ⟨τ, rfl, hs, fun _ _ => rfl⟩
  | m + 1, i, fu + 1, τ, bs, st, bs', hi, hc, g, hs, H, hd, h4, hl, hfu => by
    have h' : (ck1 bs (s i)).bind (fun st' => ckn s (i + 1) m st') = some bs' := hc
    cases e : ck1 bs (s i) with
    | none => rw [e] at h'; cases h'
    | some b1 =>
      rw [e] at h'
      obtain ⟨a, b, hr⟩ := H.1
      obtain ⟨q1, q2, q3⟩ := hd i (Nat.le_refl _) (by omega)
      have e6 : (187 + (3 * Int32.ofNat l)) + 2 = Int32.ofNat (189 + 3 * l) := by
        rw [show (187 : Int32) = Int32.ofNat 187 from rfl, show (3 : Int32) = Int32.ofNat 3 from rfl, show (2 : Int32) = Int32.ofNat 2 from rfl, on_mul, on_add, on_add]; congr 1; omega
      have e7 : 223 + (2 * Int32.ofNat i) = Int32.ofNat (223 + 2 * i) := by
        rw [show (223 : Int32) = Int32.ofNat 223 from rfl, show (2 : Int32) = Int32.ofNat 2 from rfl, on_mul, on_add]
      obtain ⟨τ1, a1, a2, a3⟩ := M_lst hr (τ := τ) (f := lfx w h v mi) (n := n i) e q3 hl g hs (fa := f_X12_factOf (τ, ρ) 105 (Int32.ofNat (s i)) (Int32.ofNat (n i)) (Int32.ofNat h) (Int32.ofNat v) mi) (fun hk => M_fact H hh hv hk)
      have hb : f_X12_holdsLine_b23 (S, ρ) 105 (Int32.ofNat h) (Int32.ofNat v) mi (187 + (3 * Int32.ofNat l)) (Int32.ofNat st.length, Int32.ofNat i, τ) = some (.inl (Int32.ofNat (ev1 (lfx w h v mi) (n i) (s i) st).length, Int32.ofNat (i + 1), τ1)) := by
        unfold f_X12_holdsLine_b23
        simp only [M_w H, bnd, e6, e7]
        rw [M_ld H (by omega), hy, bnd, if_pos (lt_y (by omega) (by omega)), M_ld H (by omega), q1, bnd, on_s, M_ld H (by omega), show 223 + 2 * i + 1 = 224 + 2 * i by omega, q2]
        simp only [bnd]
        rw [a1]
        simp only [bnd, on_s]
      obtain ⟨τ', b2, b3, b4⟩ := M_lrun hh hv (S := S) hl12 hy m (i + 1) fu τ1 b1 (ev1 (lfx w h v mi) (n i) (s i) st) bs' (by omega) h' (ev_typ e g) a2 (wS_k16 H a3) (fun j h1 h2 => hd j (by omega) h2) h4 (ck_len e hl) (by omega)
      rw [am_loop_s, hb]
      exact ⟨τ', b2, b3, fun o ho => (b4 o ho).trans (a3 o ho)⟩
end TP
