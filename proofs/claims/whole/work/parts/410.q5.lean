/-! heard, taken, sure, could -/
def jR (w : wg) (r h : Nat) : Bool := decide (tk w (rH w r) (hd w r h (rM w r)) = some (rV w r))
def jW (w : wg) (r h : Nat) : Bool := (tk w (rH w r) (hd w r h (rM w r))).isSome && !jR w r h
def rt (w : wg) (r : Nat) : Int32 := sm (fun h => bi (jR w r h)) (nH w)
def wr (w : wg) (r : Nat) : Int32 := sm (fun h => bi (jW w r h)) (nH w)
theorem tk_lt {w : wg} {h n v : Nat} (e : tk w h n = some v) : v < nW w := by
  unfold tk at e
  split at e
  · have := ff_some.mp e; omega
  · cases e
section Q5
variable {σ : sg} {ρ : rg} {t u R : Nat} {w w' wi : wg}
theorem c_judge (H : tS σ ρ t w) (hc : rch w w') (G : rS σ ρ R w') {r : Nat} (hr : r < nR w') : ∃ τ, f_X6_judge (σ, ρ) R t (Int32.ofNat r) = some τ ∧ lq R σ τ ∧ τ 122 = σ 122 ∧ τ R 7 = rt w' r ∧ τ R 8 = wr w' r := by
  have hH := (wv_H H.2.2.2).2
  have hW := (wv_W H.2.2.2).2
  have hR := (wv_R G.2.2.2.2).2
  obtain ⟨a, b, hrr⟩ := G.1
  have hl := ln_o G.2.1
  have hes := es_o G.2.1
  obtain ⟨e1, b1, e2, b2, e3, b3, -⟩ := wv_rr G.2.2.2.2 hr
  have eH := rch_H hc
  have eW := rch_W hc
  have l0 : lq R σ (am_u2 (am_u2 σ R 7 0) R 8 0) := fun o j _ _ z => by
    unfold am_u2
    rw [if_neg (by omega), if_neg (by omega)]
  obtain ⟨d, h1, h2⟩ := lp_rule (body := f_X6_judge_b12 (am_u2 (am_u2 σ R 7 0) R 8 0, ρ) R t (Int32.ofNat r)) (nH w)
    (fun k x => x.1 = Int32.ofNat k ∧ lq R σ x.2 ∧ x.2 122 = σ 122 ∧ x.2 R 7 = sm (fun h => bi (jR w' r h)) k ∧ x.2 R 8 = sm (fun h => bi (jW w' r h)) k)
    (fun d => lq R σ d ∧ d 122 = σ 122 ∧ d R 7 = rt w' r ∧ d R 8 = wr w' r)
    (x := (0, am_u2 (am_u2 σ R 7 0) R 8 0)) ⟨rfl, l0, by show am_u2 (am_u2 σ R 7 0) R 8 0 122 = σ 122; rw [u2_row hes.2.2.2.2.1, u2_row hes.2.2.2.2.1], by show am_u2 (am_u2 σ R 7 0) R 8 0 R 7 = _; rw [u2_nj (by decide), u2_eq]; rfl, by show am_u2 (am_u2 σ R 7 0) R 8 0 R 8 = _; rw [u2_eq]; rfl⟩ (fun k x hk hx => by
      obtain ⟨i, υ⟩ := x
      obtain ⟨rfl, x1, x2, x3, x4⟩ := hx
      simp only at x1 x2 x3 x4
      have H' := tS_ag H (lq_ag G.2.1 x1)
      have G' := lq_rS G x1
      unfold f_X6_judge_b12
      simp only [c_H H']
      by_cases e : k < nH w
      · left
        obtain ⟨τ, g1, g2, g3, g4⟩ := c_taken H' hc G' hr e
        have G2 := lq_rS G' g2
        rw [if_pos (lt_y e (by omega)), c_hasR G' hr]
        simp only [Option.bind_some, i10, if_false, g1, rd_o hrr G.2.1 (show 3 = 1 ∨ _ by decide)]
        rw [ld_on (a := R + 3) (k := r) (by omega) (by omega), (G2.2.2.2.1 r hr).2.2.1, e3]
        simp only [Option.bind_some, on_s, tkI_eq (w := w) (show rV w' r < nW w by omega) hW]
        have x5 : lq R σ τ := lq_tr x1 g2
        rw [← rch_tk hc H.2.2.2]
        by_cases c : tk w' (rH w' r) (hd w' r k (rM w' r)) = some (rV w' r)
        · rw [if_pos c]
          have j1 : jR w' r k = true := by unfold jR; simp [c]
          have j2 : jW w' r k = false := by unfold jW; simp [j1]
          refine ⟨_, rfl, e, rfl, ?_, ?_, ?_, ?_⟩
          · intro o j p q z
            show am_u2 τ R 7 _ o j = σ o j
            rw [← x5 o j p q z]
            unfold am_u2
            rw [if_neg (by omega)]
          · show am_u2 τ R 7 _ 122 = σ 122
            rw [u2_row hes.2.2.2.2.1, g3, x2]
          · show am_u2 τ R 7 _ R 7 = sm (fun h => bi (jR w' r h)) k + bi (jR w' r k)
            rw [u2_eq, g4, x3, j1]; rfl
          · show am_u2 τ R 7 _ R 8 = sm (fun h => bi (jW w' r h)) k + bi (jW w' r k)
            rw [u2_nj (by decide), g4, x4, j2]
            exact (Int32.add_zero _).symm
        · rw [if_neg c]
          have j1 : jR w' r k = false := by unfold jR; simp [c]
          cases ht : tk w' (rH w' r) (hd w' r k (rM w' r)) with
          | none =>
            have j2 : jW w' r k = false := by unfold jW; simp [ht]
            have ei : tkI w (rH w' r) (hd w' r k (rM w' r)) = -1 := by unfold tkI; rw [← rch_tk hc H.2.2.2, ht]; rfl
            rw [if_pos ei]
            refine ⟨_, rfl, e, rfl, x5, g3.trans x2, ?_, ?_⟩
            · show τ R 7 = sm (fun h => bi (jR w' r h)) k + bi (jR w' r k)
              rw [g4, x3, j1]; exact (Int32.add_zero _).symm
            · show τ R 8 = sm (fun h => bi (jW w' r h)) k + bi (jW w' r k)
              rw [g4, x4, j2]; exact (Int32.add_zero _).symm
          | some v =>
            have hv := tk_lt ht
            have j2 : jW w' r k = true := by unfold jW; simp [ht, j1]
            have ei : tkI w (rH w' r) (hd w' r k (rM w' r)) ≠ -1 := by unfold tkI; rw [← rch_tk hc H.2.2.2, ht]; exact on_m1 (by omega)
            rw [if_neg ei]
            refine ⟨_, rfl, e, rfl, ?_, ?_, ?_, ?_⟩
            · intro o j p q z
              show am_u2 τ R 8 _ o j = σ o j
              rw [← x5 o j p q z]
              unfold am_u2
              rw [if_neg (by omega)]
            · show am_u2 τ R 8 _ 122 = σ 122
              rw [u2_row hes.2.2.2.2.1, g3, x2]
            · show am_u2 τ R 8 _ R 7 = sm (fun h => bi (jR w' r h)) k + bi (jR w' r k)
              rw [u2_nj (by decide), g4, x3, j1]
              exact (Int32.add_zero _).symm
            · show am_u2 τ R 8 _ R 8 = sm (fun h => bi (jW w' r h)) k + bi (jW w' r k)
              rw [u2_eq, g4, x4, j2]; rfl
      · right
        have : k = nH w := by omega
        subst this
        rw [if_neg (lt_n (by omega))]
        refine ⟨_, rfl, x1, x2, ?_, ?_⟩
        · rw [x3, rt, eH]
        · rw [x4, wr, eH]) (by omega)
  unfold f_X6_judge
  rw [h1]
  exact ⟨d, rfl, h2⟩
theorem M_takers (H : wS σ ρ w) {r : Nat} (hr : r < nR w) (f : Bool) : f_X12_takers (σ, ρ) 105 (Int32.ofNat r) (bi f) = some (if f then wr w r else rt w r) := by
  have hH := (wv_H H.2.2).2
  have hW := (wv_W H.2.2).2
  have hR := (wv_R H.2.2).2
  obtain ⟨e1, b1, e2, b2, e3, b3, -⟩ := wv_rr H.2.2 hr
  unfold f_X12_takers
  rw [lp_sum (fun h => if f then bi (jW w r h) else bi (jR w r h)) (nH w) 0 (fun k a hk => ?_) (fun a => ?_) (by omega)]
  · simp only [Option.bind_some, Int32.zero_add, rt, wr]
    cases f <;> rfl
  · unfold f_X12_takers_b5
    simp only [M_houses H, Option.bind_some]
    rw [if_pos (lt_y hk (by omega)), M_ring1 H (by omega), M_ring2 H (by omega), e2, e3, M_heard H hr hk]
    simp only [Option.bind_some, M_tk H b2 (show hd w r k (rM w r) < 1024 by have := hd_lt H.2.2 (h := k) (mi := rM w r) hr; omega), on_s]
    have hE := tkI_eq (w := w) (h := rH w r) (n := hd w r k (rM w r)) b3 hW
    simp only [hE]
    cases ht : tk w (rH w r) (hd w r k (rM w r)) with
    | none =>
      have j1 : jR w r k = false := by unfold jR; simp [ht]
      have j2 : jW w r k = false := by unfold jW; simp [ht]
      have ei : tkI w (rH w r) (hd w r k (rM w r)) < 0 := by unfold tkI; rw [ht]; decide
      rw [if_pos ei, j1, j2]
      cases f <;> rfl
    | some v =>
      have hv := tk_lt ht
      have ei : ¬ tkI w (rH w r) (hd w r k (rM w r)) < 0 := by unfold tkI; rw [ht]; exact on_neg (by omega)
      rw [if_neg ei]
      by_cases c : v = rV w r
      · subst c
        have j1 : jR w r k = true := by unfold jR; simp [ht]
        have j2 : jW w r k = false := by unfold jW; simp [j1]
        simp only [if_true, Option.bind_some, j1, j2]
        cases f
        · rw [if_neg (by decide)]; rfl
        · rw [if_pos (by decide)]; rfl
      · have j1 : jR w r k = false := by unfold jR; simp [ht, c]
        have j2 : jW w r k = true := by unfold jW; simp [j1, ht]
        rw [if_neg (fun z => c (Option.some.inj z))]
        simp only [Option.bind_some, j1, j2]
        cases f
        · rw [if_pos (by decide)]; rfl
        · rw [if_neg (by decide)]; rfl
  · unfold f_X12_takers_b5
    simp only [M_houses H, Option.bind_some]
    rw [if_neg (lt_n (by omega))]
theorem c_rS (I : Iv σ ρ t u w wi) : rS σ ρ (t + 15) w := by
  refine ⟨⟨t, u, I.1⟩, ?_, c_R (Iv_t I), ?_, I.2.2.1⟩
  · rcases (rh_tn I.1).1 with rfl | rfl | rfl
    · exact Or.inl rfl
    · exact Or.inr (Or.inl rfl)
    · exact Or.inr (Or.inr (Or.inl rfl))
  · exact I.2.2.2.1.2.2.2.2.2.1.2
theorem q_heard (I : Iv σ ρ t u w wi) (p q : Int32) : Rq σ ρ w [(0, 1)] (f_X11_heard (σ, ρ) 0 p q) (fun S => f_X12_heard S 105 p q) := by
  rcases dic (nR w) p with ⟨r, hr, rfl⟩ | hp
  · rcases dic (nH w) q with ⟨h, hh, rfl⟩ | hq
    · obtain ⟨τ, g1, g2, g3, -⟩ := c_came (Iv_t I) rch_rf (c_rS I) hr hh
      refine Rq_z (r := Int32.ofNat (hd w r h (rM w r))) (σ1 := τ) ?_ (lq_ag (c_rS I).2.1 g2) (fun σ' H => ?_)
      · unfold f_X11_heard
        rw [c_nR0 I hr, thV_n, c_nH0 I hh, thV_n]
        simp only [c_now I, c_rg I, Option.bind_some, g1]
      · unfold f_X12_heard
        simp only [M_nR0 H hr, M_nH0 H hh, Option.bind_some, th0, if_true, M_heard H hr hh]
    · refine Rq_t (k := 0) (b := 0) (c := 1) (σ1 := σ) ?_ ag_rf rfl (by decide) (fun σ' H => ?_)
      · unfold f_X11_heard
        rw [c_nR0 I hr, thV_n, c_nH1 I hq, thV_x]
      · unfold f_X12_heard
        simp only [M_nR0 H hr, M_nH1 H hq, Option.bind_some, if_true, th1, i10, if_false, zz]
  · refine Rq_t (k := 0) (b := 0) (c := 1) (σ1 := σ) ?_ ag_rf rfl (by decide) (fun σ' H => ?_)
    · unfold f_X11_heard
      rw [c_nR1 I hp, thV_x]
    · unfold f_X12_heard
      simp only [M_nR1 H hp, Option.bind_some, if_true, th1, i10, if_false, zz]
theorem q_taken (I : Iv σ ρ t u w wi) (p q : Int32) : Rq σ ρ w [(0, 1)] (f_X11_taken (σ, ρ) 0 p q) (fun S => f_X12_taken S 105 p q) := by
  have hR := (wv_R I.2.2.1).2
  rcases dic (nR w) p with ⟨r, hr, rfl⟩ | hp
  · obtain ⟨e1, b1, e2, b2, -⟩ := wv_rr I.2.2.1 hr
    rcases dic (nH w) q with ⟨h, hh, rfl⟩ | hq
    · obtain ⟨τ, g1, g2, g3, -⟩ := c_taken (Iv_t I) rch_rf (c_rS I) hr hh
      refine Rq_z (r := tkI w (rH w r) (hd w r h (rM w r))) (σ1 := τ) ?_ (lq_ag (c_rS I).2.1 g2) (fun σ' H => ?_)
      · unfold f_X11_taken
        rw [c_nR0 I hr, thV_n, c_nH0 I hh, thV_n]
        simp only [c_now I, c_rg I, Option.bind_some, g1]
      · unfold f_X12_taken
        simp only [M_nR0 H hr, M_nH0 H hh, Option.bind_some, th0, if_true, M_heard H hr hh, M_ring1 H (show r < 12 by omega), e2]
        rw [M_tk H b2 (show hd w r h (rM w r) < 1024 by have := hd_lt H.2.2 (h := h) (mi := rM w r) hr; omega)]
        rfl
    · refine Rq_t (k := 0) (b := 0) (c := 1) (σ1 := σ) ?_ ag_rf rfl (by decide) (fun σ' H => ?_)
      · unfold f_X11_taken
        rw [c_nR0 I hr, thV_n, c_nH1 I hq, thV_x]
      · unfold f_X12_taken
        simp only [M_nR0 H hr, M_nH1 H hq, Option.bind_some, if_true, th1, i10, if_false, zz]
  · refine Rq_t (k := 0) (b := 0) (c := 1) (σ1 := σ) ?_ ag_rf rfl (by decide) (fun σ' H => ?_)
    · unfold f_X11_taken
      rw [c_nR1 I hp, thV_x]
    · unfold f_X12_taken
      simp only [M_nR1 H hp, Option.bind_some, if_true, th1, i10, if_false, zz]
theorem q_sure (I : Iv σ ρ t u w wi) (p : Int32) (f : Bool) : Rq σ ρ w [(0, 1)] (f_X11_sure (σ, ρ) 0 p (bi f)) (fun S => f_X12_sure S 105 p (bi f)) := by
  rcases dic (nR w) p with ⟨r, hr, rfl⟩ | hp
  · obtain ⟨τ, g1, g2, g3, g4, g5⟩ := c_judge (Iv_t I) rch_rf (c_rS I) hr
    refine Rq_z (r := if f then wr w r else rt w r) (σ1 := τ) ?_ (lq_ag (c_rS I).2.1 g2) (fun σ' H => ?_)
    · unfold f_X11_sure
      rw [c_nR0 I hr, thV_n]
      simp only [c_now I, c_rg I, Option.bind_some, g1, g4, g5, bi_f]
      cases f <;> rfl
    · unfold f_X12_sure
      simp only [M_nR0 H hr, Option.bind_some, th0, if_true, M_takers H hr]
  · refine Rq_t (k := 0) (b := 0) (c := 1) (σ1 := σ) ?_ ag_rf rfl (by decide) (fun σ' H => ?_)
    · unfold f_X11_sure
      rw [c_nR1 I hp, thV_x]
    · unfold f_X12_sure
      simp only [M_nR1 H hp, Option.bind_some, if_true, th1, i10, if_false, zz]
/-! could -/
def cdF (w : wg) (h n v : Nat) (a : Int32) : Int32 := if (decide (wx w h v ≠ 0) && bgn n (wx w h v)) = true then a ||| ((1 : Int32) <<< (Int32.ofNat v &&& 31)) else a
def cdS (w : wg) (r n : Nat) : Int32 := if n = 0 then 0 else fo (cdF w (rH w r) n) (nW w) 0
theorem M_could (H : wS σ ρ w) {r n : Nat} (hr : r < nR w) (hn : n < 1024) : am_loop (f_X12_could_b49 (σ, ρ) 105 (Int32.ofNat r) (Int32.ofNat n)) am_fuel (0, 0) = some (cdS w r n) := by
  have hR := (wv_R H.2.2).2
  have hW := (wv_W H.2.2).2
  obtain ⟨e1, b1, e2, b2, -⟩ := wv_rr H.2.2 hr
  unfold cdS
  by_cases z : n = 0
  · rw [if_pos z]
    show am_loop _ (999999999999 + 1) _ = _
    rw [am_loop_s]
    unfold f_X12_could_b49
    simp only [M_wants H, Option.bind_some]
    by_cases y : (0 : Int32) < Int32.ofNat (nW w)
    · rw [if_pos y, z, if_neg (by decide)]; rfl
    · rw [if_neg y]; rfl
  · rw [if_neg z]
    refine lp_fo (fun (a : Int32) k => (a, Int32.ofNat k)) (cdF w (rH w r) n) (nW w) 0 rfl (fun k a hk => ?_) ?_ (by omega)
    · unfold f_X12_could_b49
      have hx := wx_lt H.2.2 (a := rH w r) (v := k)
      simp only [M_wants H, Option.bind_some]
      rw [if_pos (lt_y hk (by omega)), if_pos ((on_pos (by omega)).mpr (by omega)), M_ring1 H (by omega), e2]
      simp only [Option.bind_some]
      rw [M_wf H b2 hk]
      simp only [Option.bind_some, on_pos (show wx w (rH w r) k < 2147483648 by omega), w_bgn hn (show wx w (rH w r) k < 1024 by omega), bi_d, bi_f, on_s]
      unfold cdF
      by_cases e : wx w (rH w r) k = 0
      · rw [if_neg (by omega)]; simp [e]
      · rw [if_pos (by omega)]
        cases hb : bgn n (wx w (rH w r) k) <;> simp [e, hb]
    · unfold f_X12_could_b49
      simp only [M_wants H, Option.bind_some]
      rw [if_neg (lt_n (by omega))]
theorem c_could (H : tS σ ρ t w) (G : rS σ ρ R w) {r n : Nat} (hr : r < nR w) (hn : n < 1024) (hz : n ≠ 0) : am_loop (f_X6_possibleAt_b38 (σ, ρ) R t (Int32.ofNat r) (Int32.ofNat n) (Int32.ofNat n.log2)) am_fuel (0, 0) = some (cdS w r n) := by
  have hR := (wv_R H.2.2.2).2
  have hW := (wv_W H.2.2.2).2
  have hH := (wv_H H.2.2.2).2
  obtain ⟨a, b, hrr⟩ := G.1
  have hl := ln_o G.2.1
  obtain ⟨e1, b1, e2, b2, -⟩ := wv_rr H.2.2.2 hr
  have hlg := w_log hn
  unfold cdS
  rw [if_neg hz]
  refine lp_fo (fun (a : Int32) k => (a, Int32.ofNat k)) (cdF w (rH w r) n) (nW w) 0 rfl (fun k a hk => ?_) ?_ (by omega)
  · unfold f_X6_possibleAt_b38
    have hx := wx_lt H.2.2.2 (a := rH w r) (v := k)
    simp only [c_W H, rd_o hrr G.2.1 (show 2 = 1 ∨ _ by decide), Option.bind_some]
    rw [if_pos (lt_y hk (by omega)), ld_on (a := R + 2) (k := r) (by omega) (by omega), (G.2.2.2.1 r hr).2.1, e2]
    simp only [Option.bind_some]
    rw [c_wf H (by omega) (by omega)]
    simp only [Option.bind_some, on_s, zw_m (show wx w (rH w r) k < 2147483648 by omega)]
    unfold cdF
    by_cases e : wx w (rH w r) k = 0
    · rw [if_pos e]; simp [e]
    · have hlx := w_log (show wx w (rH w r) k < 1024 by omega)
      have hcu := cu_lt (k := n.log2) (show wx w (rH w r) k < 1024 by omega)
      rw [if_neg e, zw_p e, (w_len (show wx w (rH w r) k < 1024 by omega)).2, w_cutTo (by omega) (by omega)]
      simp only [Option.bind_some, on_lt (show (wx w (rH w r) k).log2 < 2147483648 by omega) (show n.log2 < 2147483648 by omega), on_inj (show cu (wx w (rH w r) k) n.log2 < 2147483648 by omega) (show n < 2147483648 by omega)]
      unfold bgn
      by_cases c : (wx w (rH w r) k).log2 < n.log2
      · rw [if_pos c]
        have c2 : ¬ n.log2 ≤ (wx w (rH w r) k).log2 := by omega
        simp [c2]
      · rw [if_neg c]
        have c2 : n.log2 ≤ (wx w (rH w r) k).log2 := by omega
        by_cases d : cu (wx w (rH w r) k) n.log2 = n <;> simp [e, c2, d]
  · unfold f_X6_possibleAt_b38
    simp only [c_W H]
    rw [if_neg (lt_n (by omega))]
theorem q_could (I : Iv σ ρ t u w wi) (p q : Int32) : Rq σ ρ w [(0, 1)] (f_X11_could (σ, ρ) 0 p q) (fun S => f_X12_could S 105 p q) := by
  rcases dic (nR w) p with ⟨r, hr, rfl⟩ | hp
  · rcases dic (nH w) q with ⟨h, hh, rfl⟩ | hq
    · obtain ⟨τ, g1, g2, g3, -⟩ := c_came (Iv_t I) rch_rf (c_rS I) hr hh
      have hl := hd_lt I.2.2.1 (h := h) (mi := rM w r) hr
      have hlg := w_log (show hd w r h (rM w r) < 1024 by omega)
      refine Rq_z (r := cdS w r (hd w r h (rM w r))) (σ1 := τ) ?_ (lq_ag (c_rS I).2.1 g2) (fun σ' H => ?_)
      · unfold f_X11_could
        rw [c_nR0 I hr, thV_n, c_nH0 I hh, thV_n]
        simp only [c_now I, c_rg I, Option.bind_some]
        unfold f_X6_possibleAt
        simp only [g1, Option.bind_some, on_z (show hd w r h (rM w r) < 2147483648 by omega)]
        by_cases z : hd w r h (rM w r) = 0
        · rw [if_pos z, z]; rfl
        · rw [if_neg z, c_hasR (lq_rS (c_rS I) g2) hr, (w_len (show hd w r h (rM w r) < 1024 by omega)).2]
          simp only [Option.bind_some, i10, if_false]
          rw [c_could (tS_ag (Iv_t I) (lq_ag (c_rS I).2.1 g2)) (lq_rS (c_rS I) g2) hr (by omega) z]
          rfl
      · unfold f_X12_could
        simp only [M_nR0 H hr, M_nH0 H hh, Option.bind_some, th0, if_true, M_heard H hr hh, M_could H hr (show hd w r h (rM w r) < 1024 by omega)]
    · refine Rq_t (k := 0) (b := 0) (c := 1) (σ1 := σ) ?_ ag_rf rfl (by decide) (fun σ' H => ?_)
      · unfold f_X11_could
        rw [c_nR0 I hr, thV_n, c_nH1 I hq, thV_x]
      · unfold f_X12_could
        simp only [M_nR0 H hr, M_nH1 H hq, Option.bind_some, if_true, th1, i10, if_false, zz]
  · refine Rq_t (k := 0) (b := 0) (c := 1) (σ1 := σ) ?_ ag_rf rfl (by decide) (fun σ' H => ?_)
    · unfold f_X11_could
      rw [c_nR1 I hp, thV_x]
    · unfold f_X12_could
      simp only [M_nR1 H hp, Option.bind_some, if_true, th1, i10, if_false, zz]
end Q5
