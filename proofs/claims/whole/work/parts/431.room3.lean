theorem sm_su {f : Nat → Nat} : ∀ n, sm (fun k => Int32.ofNat (f k)) n = Int32.ofNat (su f n)
  | 0 => rfl
  | n + 1 => by show sm (fun k => Int32.ofNat (f k)) n + Int32.ofNat (f n) = Int32.ofNat (su f n + f n); rw [sm_su n, on_add]
theorem su_le {f : Nat → Nat} {c : Nat} : ∀ n, (∀ k, k < n → f k ≤ c) → su f n ≤ n * c
  | 0, _ => by simp [su]
  | n + 1, h => by
    have h1 := su_le n (fun k hk => h k (by omega))
    have h2 := h n (by omega)
    show su f n + f n ≤ (n + 1) * c
    rw [Nat.succ_mul]; omega
theorem su_0 {f : Nat → Nat} : ∀ n, su f n = 0 → ∀ k, k < n → f k = 0
  | 0, _, k, hk => by omega
  | n + 1, h, k, hk => by
    have h' : su f n + f n = 0 := h
    by_cases e : k = n
    · subst e; omega
    · exact su_0 n (by omega) k (by omega)
theorem ct_0 {q : Nat → Bool} {n : Nat} (h : ct q n = 0) {k : Nat} (hk : k < n) : q k = false := by
  rw [ct_su] at h
  have := su_0 n h k hk
  cases e : q k with
  | false => rfl
  | true => rw [e] at this; simp at this
section RM2
variable {σ : sg} {ρ : rg} {t u : Nat} {w wi : wg}
def bgN (w : wg) (h : Nat) : Nat := su (fun v => ct (cb w h v) v) (nW w)
theorem bgs_n (hw : wv w) {h : Nat} : bgs w h = Int32.ofNat (bgN w h) ∧ bgN w h ≤ 100 := by
  have hW := (wv_W hw).2
  constructor
  · unfold bgs bgN
    rw [← sm_su]
    exact sm_congr _ (fun v _ => sm_ct v)
  · have h1 := su_le (f := fun v => ct (cb w h v) v) (c := 10) (nW w) (fun k hk => by have := ct_le (q := cb w h k) k; omega)
    have h2 : nW w * 10 ≤ 10 * 10 := Nat.mul_le_mul_right _ hW
    unfold bgN
    omega
theorem bg_pfr (hw : wv w) {h : Nat} (h0 : bgN w h = 0) : pfr (wx w h) := by
  refine ⟨fun o _ => ⟨wx_1 hw, wx_lt hw⟩, ?_⟩
  have key : ∀ a b, b < a → wx w h a ≠ 0 → wx w h b ≠ 0 → bgn (wx w h a) (wx w h b) = false ∧ bgn (wx w h b) (wx w h a) = false := fun a b hab ha hb => by
    have han := (wx_ne ha).2
    have h1 := su_0 _ h0 a han
    have h2 := ct_0 h1 hab
    unfold cb at h2
    simp only [ha, hb, ne_eq, not_false_eq_true, decide_true, Bool.true_and, Bool.or_eq_false_iff] at h2
    exact h2
  intro a b _ _ hab ha hb
  rcases Nat.lt_or_gt_of_ne hab with q | q
  · exact (key b a q hb ha).2
  · exact (key a b q ha hb).1
theorem pfr_up {W : Nat → Nat} (hW : pfr W) {o s : Nat} (ho : o < 10) (h0 : W o ≠ 0) (hl : (W o).log2 < 8) (hs : s < 2) : pfr (up1 W o (2 * W o + s)) := by
  have h256 : W o < 256 := (Nat.log2_lt h0 (k := 8)).mp hl
  have h1 : 1 ≤ W o := by omega
  refine ⟨fun i hi => ?_, fun a b ha hb hab ha0 hb0 => ?_⟩
  · by_cases q : i = o
    · subst q; rw [up1_eq]; have := (hW.1 i hi).1; omega
    · rw [up1_ne q]; exact hW.1 i hi
  · by_cases qa : a = o
    · subst qa
      rw [up1_eq, up1_ne (fun z => hab z.symm)]
      rw [up1_ne (fun z => hab z.symm)] at hb0
      cases e : bgn (2 * W a + s) (W b) with
      | false => rfl
      | true => have := bgn_tr (bgn_ch h1 hs) e; rw [hW.2 a b ha hb hab h0 hb0] at this; cases this
    · by_cases qb : b = o
      · subst qb
        rw [up1_ne qa, up1_eq]
        rw [up1_ne qa] at ha0
        cases e : bgn (W a) (2 * W b + s) with
        | false => rfl
        | true =>
          rcases bgn_of_ch h1 hs e with z | z
          · have := bgn_ch h1 hs
            rw [← z] at this
            rw [hW.2 b a hb ha (fun y => hab y.symm) h0 ha0] at this; cases this
          · rw [hW.2 a b ha hb hab ha0 h0] at z; cases z
      · rw [up1_ne qa, up1_ne qb]
        rw [up1_ne qa] at ha0
        rw [up1_ne qb] at hb0
        exact hW.2 a b ha hb hab ha0 hb0
/-- all ways of a want -/
def rmF (w : wg) (h U o : Nat) (st : Option (Nat × Nat)) : Option (Nat × Nat) := if wx w h o = 0 ∨ (wx w h o).log2 = 8 then st else rmS U (2 * ux w o) (up1 (wx w h) o (2 * wx w h o + 1)) (rmS U (ux w o) (up1 (wx w h) o (2 * wx w h o)) st)
theorem rmF_up {h U : Nat} (hW10 : nW w ≤ 10) {st : Option (Nat × Nat)} : ∀ d, nW w + d ≤ 10 → fo (rmF w h U) (nW w + d) st = fo (rmF w h U) (nW w) st
  | 0, _ => rfl
  | d + 1, hd => by
    show rmF w h U (nW w + d) (fo (rmF w h U) (nW w + d) st) = _
    rw [rmF_up hW10 d (by omega)]
    have : wx w h (nW w + d) = 0 := by unfold wx; rw [if_neg (by omega)]
    unfold rmF
    rw [if_pos (Or.inl this)]
theorem rmq_eq {τ : sg} {st : Option (Nat × Nat)} (h : rmq σ st) (e4 : τ 94 4 = σ 94 4) (e5 : τ 94 5 = σ 94 5) : rmq τ st := by
  cases st with
  | none => exact ⟨by rw [e4]; exact h.1, by rw [e5]; exact h.2⟩
  | some p => exact ⟨by rw [e4]; exact h.1, by rw [e5]; exact h.2.1, h.2.2⟩
theorem c_makeRoom (H : tS σ ρ t w) {h v : Nat} (hh : h < nH w) (hv : v < nW w) : ∃ τ, f_X0_makeRoom (σ, ρ) 94 t (Int32.ofNat h) (Int32.ofNat v) = some τ ∧ ag σ τ ∧ rmq τ (if bgN w h = 0 then fo (rmF w h (ux w v)) (nW w) (rmS (ux w v) 0 (wx w h) none) else none) := by
  have hH := (wv_H H.2.2.2).2
  have hW := (wv_W H.2.2.2).2
  obtain ⟨a, b, hr⟩ := H.1
  have hU := ux_w H.2.2.2 hv
  obtain ⟨s1, hs1⟩ : ∃ s1, s1 = am_u2 (am_u2 σ 94 4 (-1)) 94 5 (-1) := ⟨_, rfl⟩
  have ag1 : ag σ s1 := by rw [hs1]; exact ag_u0 rfl (ag_u0 rfl ag_rf)
  have r1 : rmq s1 none := ⟨by rw [hs1, u2_nj (by decide), u2_eq], by rw [hs1, u2_eq]⟩
  have H1 := tS_ag H ag1
  have hbn := bgs_n H.2.2.2 (h := h)
  unfold f_X0_makeRoom
  simp only [← hs1, c_clash H1 (show h < 2147483648 by omega), bnd, hbn.1, on_pos (show bgN w h < 2147483648 by omega)]
  by_cases z : bgN w h = 0
  · rw [if_neg (by omega), if_pos z]
    have hp := bg_pfr H.2.2.2 z
    -- the rows
    obtain ⟨s2, p1, p2, p3⟩ := lp_rule (body := f_X0_makeRoom_b22 (s1, ρ) 94 t (Int32.ofNat h) (Int32.ofNat v)) 10
      (fun k y => y.1 = Int32.ofNat k ∧ (∀ o, o ≠ 97 → o ≠ 98 → y.2 o = s1 o) ∧ (∀ o, o < k → y.2 97 o = zw (wx w h o) ∧ y.2 98 o = Int32.ofNat (wx w h o).log2))
      (fun d => (∀ o, o ≠ 97 → o ≠ 98 → d o = s1 o) ∧ cW d (wx w h))
      (x := (0, s1)) ⟨rfl, fun _ _ _ => rfl, fun j hj => absurd hj (by omega)⟩ (fun k y hk hy => by
        obtain ⟨i, τ⟩ := y
        obtain ⟨rfl, y1, y2⟩ := hy
        simp only at y1 y2
        have H' := tS_ag H1 (show ag s1 τ from fun o j es1 => by rw [y1 o (by rintro rfl; rw [es_0 rfl] at es1; cases es1) (by rintro rfl; rw [es_0 rfl] at es1; cases es1)])
        unfold f_X0_makeRoom_b22
        simp only [rd_cw hr, rd_clen hr, bnd]
        by_cases e : k < 10
        · left
          have hx := wx_lt H.2.2.2 (a := h) (v := k)
          have hst : f_X11_strokesOf (zw (wx w h k)) = some (Int32.ofNat (wx w h k).log2) := by
            by_cases q : wx w h k = 0
            · rw [q, zw_0, w_len0]; rfl
            · rw [zw_p q, (w_len (show wx w h k < 1024 by omega)).2]
          rw [if_pos (show Int32.ofNat k < 10 from (on_lt (b := 10) (by omega) (by decide)).mpr e), c_wf H' (by omega) (by omega), bnd, st_on (by rw [ln_97]; omega) (by omega)]
          simp only [bnd]
          rw [ld_on (by rw [ln_97]; omega) (by omega), u2_eq]
          simp only [bnd, hst]
          rw [st_on (by rw [ln_98]; omega) (by omega)]
          simp only [bnd, on_s]
          refine ⟨_, rfl, e, rfl, fun o x1 x2 => ?_, fun o ho => ?_⟩
          · show am_u2 (am_u2 τ 97 k _) 98 k _ o = _
            rw [u2_row x2, u2_row x1, y1 o x1 x2]
          · show am_u2 (am_u2 τ 97 k (zw (wx w h k))) 98 k (Int32.ofNat (wx w h k).log2) 97 o = _ ∧ am_u2 (am_u2 τ 97 k (zw (wx w h k))) 98 k (Int32.ofNat (wx w h k).log2) 98 o = _
            rw [u2_ne (show 97 ≠ 98 by decide)]
            by_cases q : o = k
            · subst q; rw [u2_eq, u2_eq]; exact ⟨rfl, rfl⟩
            · rw [u2_nj q, u2_nj q, u2_ne (show 98 ≠ 97 by decide)]; exact y2 o (by omega)
        · right
          have : k = 10 := by omega
          subst this
          rw [if_neg (by decide)]
          exact ⟨_, rfl, y1, y2⟩) (by decide)
    have ag2 : ag s1 s2 := fun o j es1 => by rw [p2 o (by rintro rfl; rw [es_0 rfl] at es1; cases es1) (by rintro rfl; rw [es_0 rfl] at es1; cases es1)]
    have H2 := tS_ag H1 ag2
    have r2 : rmq s2 none := rmq_eq r1 (by rw [p2 94 (by decide) (by decide)]) (by rw [p2 94 (by decide) (by decide)])
    rw [p1]
    simp only [bnd, c_ur H2 (show v < 2147483648 by omega)]
    obtain ⟨s3, q1, q2, q3⟩ := c_way hr hp hU.2.1 hU.2.2 (show 0 < 1000 by decide) p3 r2
    have q1' : f_X0_tryWay (s2, ρ) 94 (Int32.ofNat (ux w v)) 0 = some s3 := q1
    rw [q1', bnd]
    have ag3 : ag s2 s3 := fun o j es1 => q3 o j (by rintro ⟨rfl, -⟩; rw [es_0 rfl] at es1; cases es1)
    have c3 : cW s3 (wx w h) := fun o ho => by rw [q3 97 o (by omega), q3 98 o (by omega)]; exact p3 o ho
    have agb : ag σ s3 := ag_tr (ag_tr ag1 ag2) ag3
    -- one is longer
    obtain ⟨s4, d1, d2, d3, d4⟩ := lp_rule (body := f_X0_makeRoom_b79 (s3, ρ) 94 t (Int32.ofNat v)) 10
      (fun k y => y.1 = Int32.ofNat k ∧ ag σ y.2 ∧ cW y.2 (wx w h) ∧ rmq y.2 (fo (rmF w h (ux w v)) k (rmS (ux w v) 0 (wx w h) none)))
      (fun d => ag σ d ∧ cW d (wx w h) ∧ rmq d (fo (rmF w h (ux w v)) 10 (rmS (ux w v) 0 (wx w h) none)))
      (x := (0, s3)) ⟨rfl, agb, c3, q2⟩ (fun k y hk hy => by
        obtain ⟨i, τ⟩ := y
        obtain ⟨rfl, y1, y2, y3⟩ := hy
        simp only at y1 y2 y3
        unfold f_X0_makeRoom_b79
        simp only [rd_cw hr, rd_clen hr, bnd]
        by_cases e : k < 10
        · left
          have hx := wx_lt H.2.2.2 (a := h) (v := k)
          have hlx := log2_le8 hx
          have hstep : fo (rmF w h (ux w v)) (k + 1) (rmS (ux w v) 0 (wx w h) none) = rmF w h (ux w v) k (fo (rmF w h (ux w v)) k (rmS (ux w v) 0 (wx w h) none)) := rfl
          rw [hstep]
          generalize fo (rmF w h (ux w v)) k (rmS (ux w v) 0 (wx w h) none) = st at y3 ⊢
          rw [if_pos (show Int32.ofNat k < 10 from (on_lt (b := 10) (by omega) (by decide)).mpr e), ld_on (a := 97) (by rw [ln_97]; omega) (by omega), (y2 k e).1]
          simp only [bnd, zw_m (show wx w h k < 2147483648 by omega), on_s]
          by_cases q : wx w h k = 0
          · rw [if_pos q]
            simp only [bnd]
            refine ⟨_, rfl, e, rfl, y1, y2, ?_⟩
            unfold rmF
            rw [if_pos (Or.inl q)]
            exact y3
          · rw [if_neg q, ld_on (a := 98) (by rw [ln_98]; omega) (by omega), (y2 k e).2]
            simp only [bnd]
            by_cases q8 : (wx w h k).log2 = 8
            · rw [q8, if_neg (by decide)]
              simp only [bnd]
              refine ⟨_, rfl, e, rfl, y1, y2, ?_⟩
              unfold rmF
              rw [if_pos (Or.inr q8)]
              exact y3
            · have hl8 : (wx w h k).log2 < 8 := by omega
              have h256 : wx w h k < 256 := (Nat.log2_lt q (k := 8)).mp hl8
              have hx1 := wx_1 H.2.2.2 (a := h) (v := k)
              have hkn := (wx_ne q).2
              have hUk := ux_w H.2.2.2 hkn
              have e2 : Int32.ofNat (wx w h k) * 2 = Int32.ofNat (2 * wx w h k) := by rw [show (2 : Int32) = Int32.ofNat 2 from rfl, on_mul]; congr 1; omega
              have lg0 := ch_lg (b := wx w h k) (s := 0) (by omega) (by decide)
              have lg1 := ch_lg (b := wx w h k) (s := 1) (by omega) (by decide)
              rw [if_pos (show Int32.ofNat _ < 8 from (on_lt (b := 8) (by omega) (by decide)).mpr hl8), st_on (by rw [ln_98]; omega) (by omega), zw_p q, e2, on_s]
              simp only [bnd]
              rw [st_on (by rw [ln_97]; omega) (by omega)]
              simp only [bnd]
              obtain ⟨m1, hm1⟩ : ∃ m1, m1 = am_u2 (am_u2 τ 98 k (Int32.ofNat ((wx w h k).log2 + 1))) 97 k (Int32.ofNat (2 * wx w h k)) := ⟨_, rfl⟩
              rw [← hm1]
              have agm1 : ag σ m1 := ag_tr y1 (by rw [hm1]; exact ag_u0 rfl (ag_u0 rfl ag_rf))
              have Hm1 := tS_ag H agm1
              have cm1 : cW m1 (up1 (wx w h) k (2 * wx w h k)) := fun o ho => by
                rw [hm1]
                by_cases z1 : o = k
                · subst z1
                  rw [u2_eq, up1_eq, u2_ne (by decide), u2_eq, zw_p (by omega)]
                  rw [Nat.add_zero] at lg0
                  exact ⟨rfl, by rw [lg0]⟩
                · rw [u2_nj z1, up1_ne z1, u2_ne (by decide), u2_ne (by decide), u2_nj z1]; exact y2 o ho
              have rm1 : rmq m1 st := rmq_eq y3 (by rw [hm1, u2_ne (by decide), u2_ne (by decide)]) (by rw [hm1, u2_ne (by decide), u2_ne (by decide)])
              simp only [c_ur Hm1 (show v < 2147483648 by omega), c_ur Hm1 (show k < 2147483648 by omega), bnd]
              have pf0 := pfr_up hp e q hl8 (s := 0) (by decide)
              rw [Nat.add_zero] at pf0
              obtain ⟨m2, g1, g2, g3⟩ := c_way hr pf0 hU.2.1 hU.2.2 (show ux w k < 1000 by omega) cm1 rm1
              rw [g1]
              simp only [bnd]
              have e3 : Int32.ofNat (2 * wx w h k) + 1 = Int32.ofNat (2 * wx w h k + 1) := on_s
              rw [e3, st_on (by rw [ln_97]; omega) (by omega)]
              simp only [bnd]
              obtain ⟨m3, hm3⟩ : ∃ m3, m3 = am_u2 m2 97 k (Int32.ofNat (2 * wx w h k + 1)) := ⟨_, rfl⟩
              rw [← hm3]
              have agm2 : ag m1 m2 := fun o j es1 => g3 o j (by rintro ⟨rfl, -⟩; rw [es_0 rfl] at es1; cases es1)
              have agm3 : ag σ m3 := ag_tr (ag_tr agm1 agm2) (by rw [hm3]; exact ag_u0 rfl ag_rf)
              have Hm3 := tS_ag H agm3
              have cm3 : cW m3 (up1 (wx w h) k (2 * wx w h k + 1)) := fun o ho => by
                rw [hm3]
                by_cases z1 : o = k
                · subst z1
                  rw [u2_eq, up1_eq, u2_ne (by decide), zw_p (by omega), g3 98 o (by omega), (cm1 o ho).2, up1_eq, lg1]
                  rw [Nat.add_zero] at lg0
                  exact ⟨rfl, by rw [lg0]⟩
                · rw [u2_nj z1, up1_ne z1, u2_ne (by decide), g3 97 o (by omega), g3 98 o (by omega)]
                  have := cm1 o ho
                  rw [up1_ne z1] at this
                  exact this
              have rm3 : rmq m3 _ := rmq_eq g2 (by rw [hm3, u2_ne (by decide)]) (by rw [hm3, u2_ne (by decide)])
              have e4 : (2 : Int32) * Int32.ofNat (ux w k) = Int32.ofNat (2 * ux w k) := by rw [show (2 : Int32) = Int32.ofNat 2 from rfl, on_mul]
              simp only [c_ur Hm3 (show v < 2147483648 by omega), c_ur Hm3 (show k < 2147483648 by omega), bnd, e4]
              obtain ⟨m4, k1, k2, k3⟩ := c_way hr (pfr_up hp e q hl8 (s := 1) (by decide)) hU.2.1 hU.2.2 (show 2 * ux w k < 1000 by omega) cm3 rm3
              rw [k1]
              simp only [bnd]
              rw [st_on (by rw [ln_97]; omega) (by omega)]
              simp only [bnd]
              rw [ld_on (a := 98) (by rw [ln_98]; omega) (by omega), u2_ne (show 98 ≠ 97 by decide), k3 98 k (by omega), (cm3 k e).2, up1_eq, lg1]
              simp only [bnd]
              have e5 : Int32.ofNat ((wx w h k).log2 + 1) - 1 = Int32.ofNat (wx w h k).log2 := by rw [show (1 : Int32) = Int32.ofNat 1 from rfl, on_sub (by omega)]; rfl
              rw [e5, st_on (by rw [ln_98]; omega) (by omega)]
              simp only [bnd]
              have agm4 : ag m3 m4 := fun o j es1 => k3 o j (by rintro ⟨rfl, -⟩; rw [es_0 rfl] at es1; cases es1)
              refine ⟨_, rfl, e, rfl, ag_tr (ag_tr agm3 agm4) (ag_u0 rfl (ag_u0 rfl ag_rf)), fun o ho => ?_, ?_⟩
              · show am_u2 (am_u2 m4 97 k (Int32.ofNat (wx w h k))) 98 k (Int32.ofNat (wx w h k).log2) 97 o = _ ∧ am_u2 (am_u2 m4 97 k (Int32.ofNat (wx w h k))) 98 k (Int32.ofNat (wx w h k).log2) 98 o = _
                rw [u2_ne (show 97 ≠ 98 by decide)]
                by_cases z1 : o = k
                · subst z1; rw [u2_eq, u2_eq, zw_p q]; exact ⟨rfl, rfl⟩
                · rw [u2_nj z1, u2_nj z1, u2_ne (show 98 ≠ 97 by decide), k3 97 o (by omega), k3 98 o (by omega)]
                  have := cm3 o ho
                  rw [up1_ne z1] at this
                  exact this
              · refine rmq_eq (σ := m4) ?_ ?_ ?_
                · unfold rmF
                  rw [if_neg (by omega)]
                  exact k2
                · show am_u2 (am_u2 m4 97 k (Int32.ofNat (wx w h k))) 98 k (Int32.ofNat (wx w h k).log2) 94 4 = _
                  rw [u2_ne (by decide), u2_ne (by decide)]
                · show am_u2 (am_u2 m4 97 k (Int32.ofNat (wx w h k))) 98 k (Int32.ofNat (wx w h k).log2) 94 5 = _
                  rw [u2_ne (by decide), u2_ne (by decide)]
        · right
          have : k = 10 := by omega
          subst this
          rw [if_neg (by decide)]
          exact ⟨_, rfl, y1, y2, y3⟩) (by decide)
    rw [d1, bnd]
    refine ⟨s4, rfl, d2, ?_⟩
    have := rmF_up (w := w) (h := h) (U := ux w v) hW (st := rmS (ux w v) 0 (wx w h) none) (10 - nW w) (by omega)
    rw [show nW w + (10 - nW w) = 10 by omega] at this
    rw [← this]
    exact d4
  · rw [if_pos (by omega), if_neg z]
    exact ⟨s1, rfl, ag1, r1⟩
end RM2
