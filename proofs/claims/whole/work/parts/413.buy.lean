/-! buy, trade -/
def sch (w w' : wg) : Prop := (∀ k, k < 8 → k ≠ 5 → w' k = w k) ∧ (∀ h j, h < 8 → j < 5 → j ≠ 3 → w' (8 + 15 * h + j) = w (8 + 15 * h + j)) ∧ (∀ k, 128 ≤ k → w' k = w k)
section SC
variable {w w' : wg}
theorem sch_H (h : sch w w') : nH w' = nH w := by unfold nH; rw [h.1 0 (by decide) (by decide)]
theorem sch_W (h : sch w w') : nW w' = nW w := by unfold nW; rw [h.1 1 (by decide) (by decide)]
theorem sch_R (h : sch w w') : nR w' = nR w := by unfold nR; rw [h.1 4 (by decide) (by decide)]
theorem sch_a (h : sch w w') {a : Nat} (ha : a < 8) : w' (8 + 15 * a) = w (8 + 15 * a) ∧ w' (9 + 15 * a) = w (9 + 15 * a) ∧ w' (10 + 15 * a) = w (10 + 15 * a) ∧ w' (12 + 15 * a) = w (12 + 15 * a) := by
  refine ⟨h.2.1 a 0 ha (by decide) (by decide), ?_, ?_, ?_⟩
  · rw [show 9 + 15 * a = 8 + 15 * a + 1 by omega]; exact h.2.1 a 1 ha (by decide) (by decide)
  · rw [show 10 + 15 * a = 8 + 15 * a + 2 by omega]; exact h.2.1 a 2 ha (by decide) (by decide)
  · rw [show 12 + 15 * a = 8 + 15 * a + 4 by omega]; exact h.2.1 a 4 ha (by decide) (by decide)
theorem sch_clr (h : sch w w') {i j : Nat} (hi : i < 8) (hj : j < 8) : clr w' i j = clr w i j := by
  unfold clr hr far
  rw [(sch_a h hi).1, (sch_a h hi).2.1, (sch_a h hi).2.2.2, (sch_a h hj).1, (sch_a h hj).2.1, (sch_a h hj).2.2.1, h.1 6 (by decide) (by decide), h.1 7 (by decide) (by decide)]
theorem wv_sch (h : wv w) (hc : sch w w') (hco : ∀ a, a < nH w → ∃ x, x < 1000 ∧ w' (11 + 15 * a) = Int32.ofNat x) (hwo : ∀ a, a < nH w → ∀ v, v < 10 → ∃ n, n < 512 ∧ n ≠ 1 ∧ (nW w ≤ v → n = 0) ∧ w' (13 + 15 * a + v) = Int32.ofNat n) : wv w' := by
  have eH := sch_H hc
  have eW := sch_W hc
  have eR := sch_R hc
  have hH := (wv_H h).2
  have hW := (wv_W h).2
  have hR := (wv_R h).2
  refine ⟨⟨?_, ?_⟩, ⟨?_, ?_⟩, ⟨?_, ?_⟩, ?_, ?_, ?_, ?_, ?_, ?_, ?_⟩
  · rw [eH, hc.1 0 (by omega) (by omega)]; exact (wv_H h).1
  · rw [eH]; exact hH
  · rw [eW, hc.1 1 (by omega) (by omega)]; exact (wv_W h).1
  · rw [eW]; exact hW
  · rw [eR, hc.1 4 (by omega) (by omega)]; exact (wv_R h).1
  · rw [eR]; exact hR
  · intro a ha v hv
    rw [eH] at ha
    obtain ⟨n, n1, n2, n3, n4⟩ := hwo a ha v hv
    have : wd w' a v = n := by unfold wd; rw [n4, on_cl (by omega)]
    rw [this, eW]
    exact ⟨n4, n1, n2, n3⟩
  · intro a ha
    rw [eH] at ha
    obtain ⟨b1, b2, b3, -, b5⟩ := wv_at h ha
    obtain ⟨c1, c2, c3, c4⟩ := sch_a hc (show a < 8 by omega)
    rw [c1, c2, c3, c4]
    exact ⟨b1, b2, b3, hco a ha, b5⟩
  · intro v hv
    rw [eW] at hv
    rw [hc.2.2 _ (by omega)]
    exact wv_ur h hv
  · rw [hc.1 _ (by omega) (by omega)]; exact wv_x h
  · rw [hc.1 _ (by omega) (by omega)]; exact wv_y h
  · intro r hr
    rw [eR] at hr
    rw [eH, eW, hc.2.2 _ (by omega), hc.2.2 _ (by omega), hc.2.2 _ (by omega), hc.2.2 _ (by omega)]
    exact wv_r h hr
  · rw [hc.1 2 (by omega) (by omega)]; exact wv_2 h
theorem tw_sch {σ τ : sg} {t : Nat} (h : tw σ t w) (hw : wv w) (hc : sch w w') (h0 : ∀ j, j ≠ 3 → τ t j = σ t j) (h3 : τ t 3 = w' 5) (hrow : ∀ k, 1 ≤ k → k ≤ 19 → k ≠ 4 → k ≠ 7 → τ (t + k) = σ (t + k)) (h4 : ∀ a, a < nH w → τ (t + 4) a = w' (11 + 15 * a)) (h7 : tw_w τ t w') : tw τ t w' := by
  obtain ⟨⟨f0, f1, f2, f3, f4, f5⟩, th, tv, tww, tc, tr, tl⟩ := h
  have eH := sch_H hc
  have eW := sch_W hc
  have eR := sch_R hc
  have hH := (wv_H hw).2
  have hW := (wv_W hw).2
  refine ⟨⟨?_, ?_, ?_, h3, ?_, ?_⟩, ?_, ?_, h7, ?_, ?_, ?_⟩
  · rw [h0 0 (by decide), hc.1 _ (by omega) (by omega)]; exact f0
  · rw [h0 1 (by decide), hc.1 _ (by omega) (by omega)]; exact f1
  · rw [h0 2 (by decide), hc.1 _ (by omega) (by omega)]; exact f2
  · rw [h0 4 (by decide), hc.1 _ (by omega) (by omega)]; exact f4
  · rw [h0 5 (by decide), hc.1 _ (by omega) (by omega)]; exact f5
  · intro a ha
    rw [eH] at ha
    obtain ⟨c1, c2, c3, c4⟩ := sch_a hc (show a < 8 by omega)
    obtain ⟨b1, b2, b3, -, b5⟩ := th a ha
    rw [hrow 1 (by omega) (by omega) (by omega) (by omega), hrow 2 (by omega) (by omega) (by omega) (by omega), hrow 3 (by omega) (by omega) (by omega) (by omega), hrow 5 (by omega) (by omega) (by omega) (by omega), c1, c2, c3, c4]
    exact ⟨b1, b2, b3, h4 a ha, b5⟩
  · intro v hv
    rw [eW] at hv
    rw [hrow 6 (by omega) (by omega) (by omega) (by omega), hc.2.2 _ (by omega)]
    exact tv v hv
  · intro i hi j hj
    rw [eH] at hi hj
    rw [hrow 8 (by omega) (by omega) (by omega) (by omega), sch_clr hc (by omega) (by omega)]
    exact tc i hi j hj
  · refine ⟨by rw [hrow 15 (by omega) (by omega) (by omega) (by omega), hc.1 _ (by omega) (by omega)]; exact tr.1, fun r hr => ?_⟩
    rw [eR] at hr
    rw [hrow 16 (by omega) (by omega) (by omega) (by omega), hrow 17 (by omega) (by omega) (by omega) (by omega), hrow 18 (by omega) (by omega) (by omega) (by omega), hrow 19 (by omega) (by omega) (by omega) (by omega), hc.2.2 _ (by omega), hc.2.2 _ (by omega), hc.2.2 _ (by omega), hc.2.2 _ (by omega)]
    exact tr.2 r hr
  · exact lwR_cg tl (fun k hk => by
      rcases hk with rfl | hk
      · exact hc.1 3 (by decide) (by decide)
      · exact hc.2.2 k (by omega)) (by rw [hrow 9 (by omega) (by omega) (by omega) (by omega)]) (hrow 10 (by omega) (by omega) (by omega) (by omega)) (hrow 11 (by omega) (by omega) (by omega) (by omega)) (hrow 12 (by omega) (by omega) (by omega) (by omega))
/-- another word -/
def wW (w : wg) (h v n : Nat) : wg := fun k => if k = 13 + 15 * h + v then Int32.ofNat n else w k
theorem wW_ne {h v n k : Nat} (e : k ≠ 13 + 15 * h + v) : wW w h v n k = w k := if_neg e
theorem wW_eq {h v n : Nat} : wW w h v n (13 + 15 * h + v) = Int32.ofNat n := if_pos rfl
theorem wW_sch {h v n : Nat} (hh : h < 8) (hv : v < 10) : sch w (wW w h v n) := ⟨fun k _ _ => wW_ne (by omega), fun a j _ _ _ => wW_ne (by omega), fun k _ => wW_ne (by omega)⟩
theorem wW_wv (hw : wv w) {h v n : Nat} (hh : h < nH w) (hv : v < nW w) (hn : n < 512) (hn1 : n ≠ 1) : wv (wW w h v n) := by
  have hH := (wv_H hw).2
  have hW := (wv_W hw).2
  refine wv_sch hw (wW_sch (by omega) (by omega)) (fun a ha => ?_) (fun a ha b hb => ?_)
  · rw [wW_ne (by omega)]; exact (wv_at hw ha).2.2.2.1
  · by_cases e : 13 + 15 * a + b = 13 + 15 * h + v
    · rw [e]; exact ⟨n, hn, hn1, by omega, wW_eq⟩
    · rw [wW_ne e]
      obtain ⟨c1, c2, c3, c4⟩ := wv_wd hw ha hb
      exact ⟨wd w a b, c2, c3, c4, c1⟩
theorem wW_wd {h v n a b : Nat} (hv : v < 10) (hb : b < 10) (hn : n < 512) : wd (wW w h v n) a b = if a = h ∧ b = v then n else wd w a b := by
  unfold wd
  by_cases e : a = h ∧ b = v
  · obtain ⟨rfl, rfl⟩ := e
    rw [if_pos ⟨rfl, rfl⟩, wW_eq, on_cl (by omega)]
  · rw [if_neg e, wW_ne (by omega)]
theorem tw_W {σ : sg} {t : Nat} (h : tw σ t w) (hw : wv w) {a v n : Nat} (ha : a < nH w) (hv : v < nW w) (hn : n < 512) : tw (am_u2 σ (t + 7) (10 * a + v) (zw n)) t (wW w a v n) := by
  have hH := (wv_H hw).2
  have hW := (wv_W hw).2
  have hc : sch w (wW w a v n) := wW_sch (by omega) (by omega)
  refine tw_sch h hw hc (fun j _ => u2_ne (by omega)) ?_ (fun k _ _ _ _ => u2_row (by omega)) (fun b hb => ?_) (fun b hb c hc2 => ?_)
  · rw [u2_ne (by omega), h.1.2.2.2.1, wW_ne (by omega)]
  · rw [u2_ne (by omega), (h.2.1 b hb).2.2.2.1, wW_ne (by omega)]
  · rw [sch_H hc, wW_wd (by omega) hc2 hn]
    by_cases e : b = a ∧ c = v
    · obtain ⟨rfl, rfl⟩ := e
      rw [u2_eq, if_pos ha, if_pos ⟨rfl, rfl⟩]
    · rw [u2_nj (by omega), if_neg e]
      exact h.2.2.2.1 b hb c hc2
/-- other coins -/
def wK (w : wg) (h c : Nat) (x : Int32) : wg := fun k => if k = 5 then x else if k = 11 + 15 * h then Int32.ofNat c else w k
theorem wK_ne {h c k : Nat} {x : Int32} (e : k ≠ 5) (f : k ≠ 11 + 15 * h) : wK w h c x k = w k := by unfold wK; rw [if_neg e, if_neg f]
theorem wK_sch {h c : Nat} {x : Int32} (hh : h < 8) : sch w (wK w h c x) := ⟨fun k _ _ => wK_ne (by omega) (by omega), fun a j _ _ _ => wK_ne (by omega) (by omega), fun k _ => wK_ne (by omega) (by omega)⟩
theorem wK_wv (hw : wv w) {h c : Nat} {x : Int32} (hh : h < nH w) (hc : c < 1000) : wv (wK w h c x) := by
  have hH := (wv_H hw).2
  refine wv_sch hw (wK_sch (by omega)) (fun a ha => ?_) (fun a ha b hb => ?_)
  · by_cases e : a = h
    · subst e
      exact ⟨c, hc, by unfold wK; rw [if_neg (by omega), if_pos rfl]⟩
    · rw [wK_ne (by omega) (by omega)]; exact (wv_at hw ha).2.2.2.1
  · rw [wK_ne (by omega) (by omega)]
    obtain ⟨c1, c2, c3, c4⟩ := wv_wd hw ha hb
    exact ⟨wd w a b, c2, c3, c4, c1⟩
theorem tw_K {σ : sg} {t : Nat} (h : tw σ t w) (hw : wv w) {a c : Nat} {x : Int32} (ha : a < nH w) : tw (am_u2 (am_u2 σ (t + 4) a (Int32.ofNat c)) t 3 x) t (wK w a c x) := by
  have hH := (wv_H hw).2
  have hc : sch w (wK w a c x) := wK_sch (by omega)
  refine tw_sch h hw hc (fun j hj => by rw [u2_nj hj, u2_ne (by omega)]) (by rw [u2_eq]; rfl) (fun k _ _ _ _ => by rw [u2_row (by omega), u2_row (by omega)]) (fun b hb => ?_) (fun b hb v hv => ?_)
  · rw [u2_ne (by omega)]
    by_cases e : b = a
    · subst e; rw [u2_eq]; unfold wK; rw [if_neg (by omega), if_pos rfl]
    · rw [u2_nj e, (h.2.1 b hb).2.2.2.1, wK_ne (by omega) (by omega)]
  · rw [u2_ne (by omega), u2_ne (by omega), sch_H hc]
    have : wd (wK w a c x) b v = wd w b v := by unfold wd; rw [wK_ne (by omega) (by omega)]
    rw [this]
    exact h.2.2.2.1 b hb v hv
end SC
section BT
variable {σ : sg} {ρ : rg} {t u : Nat} {w wi : wg}
theorem c_set {a b nh nv h v : Nat} {x : Int32} (hr : rh ρ a b) (ht : tn t) (h0 : σ t 0 = Int32.ofNat nh) (h1 : σ t 1 = Int32.ofNat nv) (hh8 : nh ≤ 8) (hv10 : nv ≤ 10) (hh : h < nh) (hv : v < nv) : f_X9_setWord (σ, ρ) t (Int32.ofNat h) (Int32.ofNat v) x = some (am_u2 σ (t + 7) (10 * h + v) x) := by
  have hl := ln_t ht
  have e1 : f_X9_hasHouse (σ, ρ) t (Int32.ofNat h) = some 1 := by
    unfold f_X9_hasHouse
    rw [if_neg (on_neg (by omega))]
    simp only [h0]
    rw [if_pos ((on_lt (by omega) (by omega)).mpr hh), if_pos (show Int32.ofNat h < 8 from (on_lt (b := 8) (by omega) (by decide)).mpr (by omega))]
  have e2 : f_X9_hasWant (σ, ρ) t (Int32.ofNat v) = some 1 := by
    unfold f_X9_hasWant
    rw [if_neg (on_neg (by omega))]
    simp only [h1]
    rw [if_pos ((on_lt (by omega) (by omega)).mpr hv), if_pos (show Int32.ofNat v < 10 from (on_lt (b := 10) (by omega) (by decide)).mpr (by omega))]
  unfold f_X9_setWord
  simp only [e1, e2, Option.bind_some, i10, if_false, rd_t hr ht (show (12, 1, 7) ∈ _ by decide)]
  rw [show (10 : Int32) = Int32.ofNat 10 from rfl, on_mul, on_add, st_on (by omega) (by omega), show h * 10 + v = 10 * h + v by omega]
  rfl
theorem M_sets (H : wS σ ρ w) {h k : Nat} {x : Int32} (hh : h < 8) (hk : k < 15) : f_X12_sets (σ, ρ) 105 (Int32.ofNat h) (Int32.ofNat k) x = some (am_u2 σ 106 (8 + 15 * h + k) x) := by
  unfold f_X12_sets
  simp only [M_w H, Option.bind_some]
  rw [show (15 : Int32) = Int32.ofNat 15 from rfl, show (8 : Int32) = Int32.ofNat 8 from rfl, on_mul, on_add, on_add, st_on (by rw [ln_106]; omega) (by omega)]
  rfl
/-- the price -/
def prN (n : Nat) : Nat := 40 / mnN n + 1
theorem pr_all : ((List.range 512).all (fun n => decide (n < 2) || (decide (1 ≤ mnN n) && decide (f_X11_priceOf (Int32.ofNat n) = some (Int32.ofNat (prN n))) && decide ((40 : Int32) / Int32.ofNat (mnN n) + 1 = Int32.ofNat (prN n)) && decide (prN n ≤ 41)))) = true := by decide +kernel
theorem pr_s {n : Nat} (h1 : 2 ≤ n) (h2 : n < 512) : 1 ≤ mnN n ∧ f_X11_priceOf (Int32.ofNat n) = some (Int32.ofNat (prN n)) ∧ (40 : Int32) / Int32.ofNat (mnN n) + 1 = Int32.ofNat (prN n) ∧ prN n ≤ 41 := by
  have := List.all_eq_true.mp pr_all n (List.mem_range.mpr h2)
  simp only [Bool.or_eq_true, Bool.and_eq_true, decide_eq_true_eq] at this
  rcases this with z | z
  · omega
  · exact ⟨z.1.1.1, z.1.1.2, z.1.2, z.2⟩
theorem q_buy (I : Iv σ ρ t u w wi) (p q x : Int32) : Rs [(0, 1), (1, 2)] (f_X11_buy (σ, ρ) 0 p q x) (fun S => f_X12_buy S 105 p q x) := by
  have hH := (wv_H I.2.2.1).2
  have hW := (wv_W I.2.2.1).2
  have t1 : t = 2 ∨ t = 24 := by rcases I.1.2.1 with ⟨h, -⟩ | ⟨h, -⟩ <;> omega
  have hl := ln_t (rh_tn I.1).1
  rcases dic (nH w) p with ⟨h, hh, rfl⟩ | hp
  · rcases dic (nW w) q with ⟨v, hv, rfl⟩ | hq
    · rcases wdic x with ⟨n, h1, h2, rfl, h3⟩ | hx
      · obtain ⟨p1, p2, p3, p4⟩ := pr_s h1 h2
        obtain ⟨c, c1, c2⟩ := (wv_at I.2.2.1 hh).2.2.2.1
        have cc := (I.2.2.2.1.2.1 h hh).2.2.2.1
        have hm := (w_min (show n < 1024 by omega))
        have crow : ∀ {f : Nat → Option am_R}, (am_rd ρ 0 3 109).bind (fun q5 => (am_rd ρ q5 9 1).bind f) = f (t + 4) := fun {f} => by
          simp only [c_now I, Option.bind_some, rd_t I.1 (rh_tn I.1).1 (show (9, 1, 4) ∈ _ by decide)]
        have ldc : am_ld σ (t + 4) (Int32.ofNat h) = some (Int32.ofNat c) := by rw [ld_on (by omega) (by omega), cc, c2]
        by_cases e : c < prN n
        · refine Rs_q I (Rq_z (r := -1) (σ1 := σ) ?_ ag_rf (fun σ' H => ?_))
          · unfold f_X11_buy
            rw [c_nH0 I hh, thV_n, c_nW0 I hv, thV_n, c_nd0 h3, thV_n, p2]
            simp only [Option.bind_some, crow, ldc]
            rw [if_pos ((on_lt (by omega) (by omega)).mpr e)]
          · unfold f_X12_buy
            simp only [M_nH0 H hh, M_nW0 H hv, Option.bind_some, th0, if_true, in_e]
            rw [if_neg h3]
            simp only [i10, if_false, Option.bind_some, th0, if_true, hm.1]
            rw [if_neg (fun z => by have := (on_z (by have := hm.2.2.1; omega)).mp z; omega), show (3 : Int32) = Int32.ofNat 3 from rfl, M_of H (by omega) (by decide), show 8 + 15 * h + 3 = 11 + 15 * h by omega, c2, p3]
            simp only [Option.bind_some]
            rw [if_pos ((on_lt (by omega) (by omega)).mpr e)]
        · have hsub : Int32.ofNat c - Int32.ofNat (prN n) = Int32.ofNat (c - prN n) := on_sub (by omega)
          have hne : ¬ Int32.ofNat c < Int32.ofNat (prN n) := fun z => e ((on_lt (by omega) (by omega)).mp z)
          refine ⟨.inl (some (.int (Int32.ofNat (prN n)))), (am_u2 (am_u2 (am_u2 σ (t + 4) h (Int32.ofNat (c - prN n))) t 3 (σ t 3 + Int32.ofNat (prN n))) (t + 7) (10 * h + v) (Int32.ofNat n), ρ), ?_, Or.inl ?_⟩
          · unfold f_X11_buy
            rw [c_nH0 I hh, thV_n, c_nW0 I hv, thV_n, c_nd0 h3, thV_n, p2]
            simp only [Option.bind_some, crow, ldc]
            rw [if_neg hne, hsub, st_on (by omega) (by omega)]
            simp only [Option.bind_some, c_now I]
            rw [u2_ne (show t ≠ t + 4 by omega), c_set I.1 (rh_tn I.1).1 (nh := nH w) (nv := nW w) (by rw [u2_nj (by decide), u2_ne (by omega)]; exact c_H (Iv_t I)) (by rw [u2_nj (by decide), u2_ne (by omega)]; exact c_W (Iv_t I)) hH hW hh hv]
            rfl
          · have T1 := tw_K (σ := σ) (t := t) (x := σ t 3 + Int32.ofNat (prN n)) (c := c - prN n) I.2.2.2.1 I.2.2.1 hh
            have V1 := wK_wv (x := σ t 3 + Int32.ofNat (prN n)) (c := c - prN n) I.2.2.1 hh (by omega)
            have S1 : sch w (wK w h (c - prN n) (σ t 3 + Int32.ofNat (prN n))) := wK_sch (by omega)
            have T2 := tw_W T1 V1 (a := h) (v := v) (n := n) (by rw [sch_H S1]; exact hh) (by rw [sch_W S1]; exact hv) h2
            have V2 := wW_wv V1 (h := h) (v := v) (n := n) (by rw [sch_H S1]; exact hh) (by rw [sch_W S1]; exact hv) h2 (by omega)
            rw [zw_p (by omega)] at T2
            generalize hσ : am_u2 (am_u2 (am_u2 σ (t + 4) h (Int32.ofNat (c - prN n))) t 3 (σ t 3 + Int32.ofNat (prN n))) (t + 7) (10 * h + v) (Int32.ofNat n) = σ1 at T2
            have r1 : ∀ o, (o < t ∨ t + 8 < o) → σ1 o = σ o := fun o ho => by rw [← hσ, u2_row (by omega), u2_row (by omega), u2_row (by omega)]
            have H0 : wS (am_u2 (am_u2 σ1 122 0 (Int32.ofNat (prN n))) 105 0 0) ρ w := ⟨⟨t, u, I.1⟩, fun k hk => by
              rw [u2_ne (by decide), u2_ne (by decide), r1 106 (by omega)]
              exact I.2.1 k hk, I.2.2.1⟩
            refine ⟨Int32.ofNat (prN n), am_u2 (am_u2 (am_u2 (am_u2 (am_u2 σ1 122 0 (Int32.ofNat (prN n))) 105 0 0) 106 (11 + 15 * h) (Int32.ofNat (c - prN n))) 106 5 (w 5 + Int32.ofNat (prN n))) 106 (13 + 15 * h + v) (Int32.ofNat n), rfl, ?_, ?_, ?_, t, u, wW (wK w h (c - prN n) (σ t 3 + Int32.ofNat (prN n))) h v n, wi, ?_⟩
            · show f_X12_buy _ 105 _ _ _ = _
              unfold f_X12_buy
              simp only [M_nH0 H0 hh, M_nW0 H0 hv, Option.bind_some, th0, if_true, in_e]
              rw [if_neg h3]
              simp only [i10, if_false, Option.bind_some, th0, if_true, hm.1]
              rw [if_neg (fun z => by have := (on_z (by have := hm.2.2.1; omega)).mp z; omega), show (3 : Int32) = Int32.ofNat 3 from rfl, M_of H0 (by omega) (by decide), show 8 + 15 * h + 3 = 11 + 15 * h by omega, c2, p3]
              simp only [Option.bind_some]
              rw [if_neg hne, hsub, M_sets H0 (by omega) (by decide)]
              simp only [Option.bind_some, M_w H0]
              rw [show (5 : Int32) = Int32.ofNat 5 from rfl, ld_on (by rw [ln_106]; omega) (by decide), u2_nj (by omega), H0.2.1 5 (by decide)]
              simp only [Option.bind_some]
              rw [st_on (by rw [ln_106]; omega) (by decide)]
              simp only [Option.bind_some]
              unfold f_X12_sets
              simp only [M_w H0, Option.bind_some]
              rw [show (15 : Int32) = Int32.ofNat 15 from rfl, show (8 : Int32) = Int32.ofNat 8 from rfl, on_mul, on_add, on_add, on_add, st_on (by rw [ln_106]; omega) (by omega), show 8 + 15 * h + 3 = 11 + 15 * h by omega, show 8 + 15 * h + (5 + v) = 13 + 15 * h + v by omega]
              rfl
            · rw [u2_ne (by decide), u2_ne (by decide), u2_ne (by decide), u2_eq]
            · rw [u2_ne (by decide), u2_ne (by decide), u2_ne (by decide), u2_ne (by decide), u2_eq]
            · show Iv (am_u2 (am_u2 (am_u2 (am_u2 (am_u2 σ1 122 0 (Int32.ofNat (prN n))) 105 0 0) 106 (11 + 15 * h) (Int32.ofNat (c - prN n))) 106 5 (w 5 + Int32.ofNat (prN n))) 106 (13 + 15 * h + v) (Int32.ofNat n)) ρ t u _ wi
              have rr : ∀ k, k ≤ 19 → am_u2 (am_u2 (am_u2 (am_u2 (am_u2 σ1 122 0 (Int32.ofNat (prN n))) 105 0 0) 106 (11 + 15 * h) (Int32.ofNat (c - prN n))) 106 5 (w 5 + Int32.ofNat (prN n))) 106 (13 + 15 * h + v) (Int32.ofNat n) (t + k) = σ1 (t + k) := fun k hk => by
                rw [u2_row (by omega), u2_row (by omega), u2_row (by omega), u2_row (by omega), u2_row (by omega)]
              refine Iv_kp I (fun o j es1 a1 a2 a3 => ?_) (fun k hk => ?_) V2 ?_
              · rw [u2_ne a1, u2_ne a1, u2_ne a1]
                by_cases b : o = 105
                · subst b
                  rw [u2_nj (by rintro rfl; revert es1; decide), u2_ne (by decide), r1 105 (by omega)]
                · rw [u2_ne b, u2_ne (show o ≠ 122 by rintro rfl; revert es1; rw [es_0 rfl]; decide), r1 o (by omega)]
              · by_cases e1 : k = 13 + 15 * h + v
                · rw [e1, u2_eq, wW_eq]
                · rw [u2_nj e1, wW_ne e1]
                  unfold wK
                  by_cases e2 : k = 5
                  · subst e2; rw [u2_eq, if_pos rfl, I.2.2.2.1.1.2.2.2.1]
                  · rw [u2_nj e2, if_neg e2]
                    by_cases e3 : k = 11 + 15 * h
                    · subst e3; rw [u2_eq, if_pos rfl]
                    · rw [u2_nj e3, if_neg e3, H0.2.1 k hk]
              · exact tw_cg T2 (rr 0 (by omega)) (rr 1 (by omega)) (rr 2 (by omega)) (rr 3 (by omega)) (rr 4 (by omega)) (rr 5 (by omega)) (rr 6 (by omega)) (rr 7 (by omega)) (rr 8 (by omega)) (by rw [rr 9 (by omega)]) (rr 10 (by omega)) (rr 11 (by omega)) (rr 12 (by omega)) (by rw [rr 15 (by omega)]) (rr 16 (by omega)) (rr 17 (by omega)) (rr 18 (by omega)) (rr 19 (by omega))
      · refine Rs_q I (Rq_t (k := 1) (b := 0) (c := 2) (σ1 := σ) ?_ ag_rf rfl (by decide) (fun σ' H => ?_))
        · unfold f_X11_buy
          rw [c_nH0 I hh, thV_n, c_nW0 I hv, thV_n, c_nd1 hx, thV_x]
        · unfold f_X12_buy
          simp only [M_nH0 H hh, M_nW0 H hv, Option.bind_some, th0, if_true, in_e]
          rw [if_pos hx]
          simp only [Option.bind_some, if_true, th1, i10, if_false, zz]
    · refine Rs_q I (Rq_t (k := 0) (b := 0) (c := 1) (σ1 := σ) ?_ ag_rf rfl (by decide) (fun σ' H => ?_))
      · unfold f_X11_buy
        rw [c_nH0 I hh, thV_n, c_nW1 I hq, thV_x]
      · unfold f_X12_buy
        simp only [M_nH0 H hh, M_nW1 H hq, Option.bind_some, if_true, th1, i10, if_false, zz]
  · refine Rs_q I (Rq_t (k := 0) (b := 0) (c := 1) (σ1 := σ) ?_ ag_rf rfl (by decide) (fun σ' H => ?_))
    · unfold f_X11_buy
      rw [c_nH1 I hp, thV_x]
    · unfold f_X12_buy
      simp only [M_nH1 H hp, Option.bind_some, if_true, th1, i10, if_false, zz]
/-- without an answer -/
def Rv (tab : List (Nat × Int32)) (C : Option am_R) (M : am_S → Option sg) : Prop :=
  ∃ (o : am_O) (S1 : am_S) (σ2 : sg), C = some (o, S1) ∧ M S1 = some σ2 ∧ Inv (σ2, S1.2) ∧ ((o = .inl none ∧ σ2 105 0 = 0) ∨ (∃ (k : Nat) (c : Int32), o = .inr k ∧ tab.lookup k = some c ∧ σ2 105 0 = c))
theorem q_trade (I : Iv σ ρ t u w wi) (p q x : Int32) : Rv [(0, 1), (1, 2)] (f_X11_trade (σ, ρ) 0 p q x) (fun S => f_X12_trade S 105 p q x) := by
  have hH := (wv_H I.2.2.1).2
  have hW := (wv_W I.2.2.1).2
  have t1 : t = 2 ∨ t = 24 := by rcases I.1.2.1 with ⟨h, -⟩ | ⟨h, -⟩ <;> omega
  have H := wS_z (Iv_w I)
  have hbad : ∀ {C : Option am_R} {M : am_S → Option sg} (k : Nat) (c : Int32), C = some (.inr k, (σ, ρ)) → List.lookup k [(0, (1 : Int32)), (1, 2)] = some c → M (σ, ρ) = some (am_u2 σ 105 0 c) → Rv [(0, 1), (1, 2)] C M := fun k c h1 h2 h3 => ⟨_, _, _, h1, h3, ⟨t, u, w, wi, Iv_ag I ag2_z.1⟩, Or.inr ⟨k, c, rfl, h2, u2_eq⟩⟩
  rcases dic (nH w) p with ⟨h, hh, rfl⟩ | hp
  · rcases dic (nH w) q with ⟨g, hg, rfl⟩ | hq
    · rcases dic (nW w) x with ⟨v, hv, rfl⟩ | hx
      · by_cases e : h = g
        · subst e
          refine hbad 1 2 ?_ rfl ?_
          · unfold f_X11_trade
            rw [c_nH0 I hh, thV_n, c_nH0 I hh, thV_n, c_nW0 I hv, thV_n, if_pos rfl]
          · unfold f_X12_trade
            simp only [M_nH0 H hh, M_nW0 H hv, Option.bind_some, if_true, th0, th1, i10, if_false, zz]
        · have hxl := wx_lt I.2.2.1 (a := h) (v := v)
          have hyl := wx_lt I.2.2.1 (a := g) (v := v)
          have hx1 := wx_1 I.2.2.1 (a := h) (v := v)
          have hy1 := wx_1 I.2.2.1 (a := g) (v := v)
          have T1 := tw_W (σ := σ) (t := t) (a := h) (v := v) (n := wx w g v) I.2.2.2.1 I.2.2.1 hh hv hyl
          have V1 := wW_wv (h := h) (v := v) (n := wx w g v) I.2.2.1 hh hv hyl hy1
          have S1 : sch w (wW w h v (wx w g v)) := wW_sch (by omega) (by omega)
          have T2 := tw_W T1 V1 (a := g) (v := v) (n := wx w h v) (by rw [sch_H S1]; exact hg) (by rw [sch_W S1]; exact hv) hxl
          have V2 := wW_wv V1 (h := g) (v := v) (n := wx w h v) (by rw [sch_H S1]; exact hg) (by rw [sch_W S1]; exact hv) hxl hx1
          generalize hσ : am_u2 (am_u2 σ (t + 7) (10 * h + v) (zw (wx w g v))) (t + 7) (10 * g + v) (zw (wx w h v)) = σ1 at T2
          have r1 : ∀ o, (o < t ∨ t + 8 < o) → σ1 o = σ o := fun o ho => by rw [← hσ, u2_row (by omega), u2_row (by omega)]
          have H0 : wS (am_u2 σ1 105 0 0) ρ w := ⟨⟨t, u, I.1⟩, fun k hk => by
            rw [u2_ne (by decide), r1 106 (by omega)]
            exact I.2.1 k hk, I.2.2.1⟩
          refine ⟨.inl none, (σ1, ρ), am_u2 (am_u2 (am_u2 σ1 105 0 0) 106 (13 + 15 * h + v) (Int32.ofNat (wx w g v))) 106 (13 + 15 * g + v) (Int32.ofNat (wx w h v)), ?_, ?_, ⟨t, u, wW (wW w h v (wx w g v)) g v (wx w h v), wi, ?_⟩, Or.inl ⟨rfl, ?_⟩⟩
          · unfold f_X11_trade
            rw [c_nH0 I hh, thV_n, c_nH0 I hg, thV_n, c_nW0 I hv, thV_n, if_neg (on_ne (by omega) (by omega) e)]
            simp only [c_now I, Option.bind_some, c_wf (Iv_t I) (show h < 2147483648 by omega) (show v < 2147483648 by omega), c_wf (Iv_t I) (show g < 2147483648 by omega) (show v < 2147483648 by omega)]
            rw [c_set I.1 (rh_tn I.1).1 (c_H (Iv_t I)) (c_W (Iv_t I)) hH hW hh hv]
            simp only [Option.bind_some]
            rw [c_set I.1 (rh_tn I.1).1 (nh := nH w) (nv := nW w) (by rw [u2_ne (by omega)]; exact c_H (Iv_t I)) (by rw [u2_ne (by omega)]; exact c_W (Iv_t I)) hH hW hg hv, hσ]
            rfl
          · show f_X12_trade _ 105 _ _ _ = _
            unfold f_X12_trade
            simp only [M_nH0 H0 hh, M_nH0 H0 hg, M_nW0 H0 hv, Option.bind_some, th0, if_true]
            rw [if_neg (on_ne (by omega) (by omega) e)]
            simp only [Option.bind_some, th0, if_true, M_wf H0 hh hv, M_wf H0 hg hv]
            rw [show (5 : Int32) = Int32.ofNat 5 from rfl, on_add, M_sets H0 (by omega) (by omega)]
            simp only [Option.bind_some]
            unfold f_X12_sets
            simp only [M_w H0, Option.bind_some]
            rw [show (15 : Int32) = Int32.ofNat 15 from rfl, show (8 : Int32) = Int32.ofNat 8 from rfl, on_mul, on_add, on_add, st_on (by rw [ln_106]; omega) (by omega), show 8 + 15 * h + (5 + v) = 13 + 15 * h + v by omega, show 8 + 15 * g + (5 + v) = 13 + 15 * g + v by omega]
            rfl
          · show Iv (am_u2 (am_u2 (am_u2 σ1 105 0 0) 106 (13 + 15 * h + v) (Int32.ofNat (wx w g v))) 106 (13 + 15 * g + v) (Int32.ofNat (wx w h v))) ρ t u _ wi
            have rr : ∀ k, k ≤ 19 → am_u2 (am_u2 (am_u2 σ1 105 0 0) 106 (13 + 15 * h + v) (Int32.ofNat (wx w g v))) 106 (13 + 15 * g + v) (Int32.ofNat (wx w h v)) (t + k) = σ1 (t + k) := fun k hk => by
              rw [u2_row (by omega), u2_row (by omega), u2_row (by omega)]
            refine Iv_kp I (fun o j es1 a1 a2 a3 => ?_) (fun k hk => ?_) V2 ?_
            · rw [u2_ne a1, u2_ne a1]
              by_cases b : o = 105
              · subst b
                rw [u2_nj (by rintro rfl; revert es1; decide), r1 105 (by omega)]
              · rw [u2_ne b, r1 o (by omega)]
            · by_cases e1 : k = 13 + 15 * g + v
              · rw [e1, u2_eq, wW_eq]
              · rw [u2_nj e1, wW_ne e1]
                by_cases e2 : k = 13 + 15 * h + v
                · rw [e2, u2_eq, wW_eq]
                · rw [u2_nj e2, wW_ne e2, H0.2.1 k hk]
            · exact tw_cg T2 (rr 0 (by omega)) (rr 1 (by omega)) (rr 2 (by omega)) (rr 3 (by omega)) (rr 4 (by omega)) (rr 5 (by omega)) (rr 6 (by omega)) (rr 7 (by omega)) (rr 8 (by omega)) (by rw [rr 9 (by omega)]) (rr 10 (by omega)) (rr 11 (by omega)) (rr 12 (by omega)) (by rw [rr 15 (by omega)]) (rr 16 (by omega)) (rr 17 (by omega)) (rr 18 (by omega)) (rr 19 (by omega))
          · rw [u2_ne (by decide), u2_ne (by decide), u2_eq]
      · refine hbad 0 1 ?_ rfl ?_
        · unfold f_X11_trade
          rw [c_nH0 I hh, thV_n, c_nH0 I hg, thV_n, c_nW1 I hx, thV_x]
        · unfold f_X12_trade
          simp only [M_nH0 H hh, M_nH0 H hg, M_nW1 H hx, Option.bind_some, if_true, th1, i10, if_false, zz]
    · refine hbad 0 1 ?_ rfl ?_
      · unfold f_X11_trade
        rw [c_nH0 I hh, thV_n, c_nH1 I hq, thV_x]
      · unfold f_X12_trade
        simp only [M_nH0 H hh, M_nH1 H hq, Option.bind_some, if_true, th1, i10, if_false, zz]
  · refine hbad 0 1 ?_ rfl ?_
    · unfold f_X11_trade
      rw [c_nH1 I hp, thV_x]
    · unfold f_X12_trade
      simp only [M_nH1 H hp, Option.bind_some, if_true, th1, i10, if_false, zz]
end BT
