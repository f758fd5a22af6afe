section EV2
variable {σ : sg} {ρ : rg} {t u : Nat} {w wi : wg}
theorem rd_kept {a b : Nat} (h : rh ρ a b) : am_rd ρ 105 14 1 = some 111 := rh_rd h (by decide) (by decide) (by decide +kernel)
theorem ln_111 : am_ln 111 = 48 := by decide
theorem M_drw (H : wS σ ρ w) {n : Nat} (hn0 : 0 < n) (hn : n < 2147483648) : f_X12_draw (σ, ρ) 105 (Int32.ofNat n) = some (Int32.ofNat (dN (sd (σ 105 15)) % n), am_u2 σ 105 15 (sd (σ 105 15))) := by
  unfold f_X12_draw
  simp only [u2_eq]
  rw [if_neg (fun z => by have := (on_z hn).mp z; omega)]
  have := dv_mod (sd (σ 105 15)) hn
  unfold dv sd at this
  rw [this]
  rfl
theorem ag15 {v : Int32} : ag2 σ (am_u2 σ 105 15 v) := ag2_u (by decide) (by decide) ag2_rf
/-- the model draws; all but the world's row and the draw is as it was -/
theorem M_draws (H : wS σ ρ (rgF w 0)) (hw : wv w) (hH : 0 < nH w) (hW : 0 < nW w) {n : Nat} (hn : n ≤ 12) {a3 a4 : Int32} : ∃ τ, am_loop (f_X12_evening_b125 (σ, ρ) 105 (Int32.ofNat n) a3 a4) am_fuel (0, σ) = some τ ∧ wS τ ρ (ev w (σ 105 15) n).2 ∧ (∀ o j, o ≠ 106 → ¬ (o = 105 ∧ j = 15) → τ o j = σ o j) ∧ (∀ k, 186 ≤ k ∨ (k < 138 ∧ k ≠ 4) → τ 106 k = σ 106 k) := by
  have h8 := (wv_H hw).2
  have h10 := (wv_W hw).2
  obtain ⟨d, h1, h2⟩ := lp_rule (body := f_X12_evening_b125 (σ, ρ) 105 (Int32.ofNat n) a3 a4) n
    (fun k y => y.1 = Int32.ofNat k ∧ y.2 105 15 = (ev w (σ 105 15) k).1 ∧ wS y.2 ρ (ev w (σ 105 15) k).2 ∧ (∀ o j, o ≠ 106 → ¬ (o = 105 ∧ j = 15) → y.2 o j = σ o j) ∧ (∀ k, 186 ≤ k ∨ (k < 138 ∧ k ≠ 4) → y.2 106 k = σ 106 k))
    (fun d => wS d ρ (ev w (σ 105 15) n).2 ∧ (∀ o j, o ≠ 106 → ¬ (o = 105 ∧ j = 15) → d o j = σ o j) ∧ (∀ k, 186 ≤ k ∨ (k < 138 ∧ k ≠ 4) → d 106 k = σ 106 k))
    (x := (0, σ)) ⟨rfl, rfl, H, fun _ _ _ _ => rfl, fun _ _ => rfl⟩ (fun k y hk hy => by
      obtain ⟨i, τ⟩ := y
      obtain ⟨rfl, y1, y2, y3, y4⟩ := hy
      simp only at y1 y2 y3 y4
      unfold f_X12_evening_b125
      simp only
      by_cases e : k < n
      · left
        obtain ⟨v1, v2, v3⟩ := ev_ok hw hH hW (σ 105 15) k (by omega)
        have A1 : wS (am_u2 τ 105 15 (sd (τ 105 15))) ρ (ev w (σ 105 15) k).2 := wS_ag y2 ag15.1
        have A2 : wS (am_u2 (am_u2 τ 105 15 (sd (τ 105 15))) 105 15 (sd (sd (τ 105 15)))) ρ (ev w (σ 105 15) k).2 := wS_ag A1 ag15.1
        have A3 : wS (am_u2 (am_u2 (am_u2 τ 105 15 (sd (τ 105 15))) 105 15 (sd (sd (τ 105 15)))) 105 15 (sd (sd (sd (τ 105 15))))) ρ (ev w (σ 105 15) k).2 := wS_ag A2 ag15.1
        have m1 := Nat.mod_lt (dN (sd (ev w (σ 105 15) k).1)) (show 0 < 20 by decide)
        have m2 := Nat.mod_lt (dN (sd (sd (ev w (σ 105 15) k).1))) hH
        have m3 := Nat.mod_lt (dN (sd (sd (sd (ev w (σ 105 15) k).1)))) hW
        have hxl := wx_lt hw (a := dN (sd (sd (ev w (σ 105 15) k).1)) % nH w) (v := dN (sd (sd (sd (ev w (σ 105 15) k).1))) % nW w)
        have hx1 := wx_1 hw (a := dN (sd (sd (ev w (σ 105 15) k).1)) % nH w) (v := dN (sd (sd (sd (ev w (σ 105 15) k).1))) % nW w)
        rw [if_pos (lt_y e (by omega)), show (20 : Int32) = Int32.ofNat 20 from rfl, M_drw y2 (by decide) (by decide)]
        simp only [Option.bind_some, M_houses A1, rch_H v2]
        rw [M_drw A1 hH (by omega)]
        simp only [Option.bind_some, u2_eq, M_wants A2, rch_W v2]
        rw [M_drw A2 hW (by omega)]
        simp only [Option.bind_some, u2_eq]
        rw [y1] at A3 ⊢
        generalize hs1 : sd (ev w (σ 105 15) k).1 = s1 at *
        generalize hs2 : sd s1 = s2 at *
        generalize hs3 : sd s2 = s3 at *
        have hev : ev w (σ 105 15) (k + 1) = (s3, if wx w (dN s2 % nH w) (dN s3 % nW w) = 0 then (ev w (σ 105 15) k).2 else rgA (ev w (σ 105 15) k).2 (dN s1 % 20) (dN s2 % nH w) (dN s3 % nW w) (wx w (dN s2 % nH w) (dN s3 % nW w))) := by
          subst hs3; subst hs2; subst hs1; rfl
        generalize hυ : am_u2 (am_u2 (am_u2 τ 105 15 s1) 105 15 s2) 105 15 s3 = υ at *
        have hυ15 : υ 105 15 = s3 := by rw [← hυ, u2_eq]
        have hυo : ∀ o j, ¬ (o = 105 ∧ j = 15) → υ o j = τ o j := fun o j z => by
          rw [← hυ]; unfold am_u2; rw [if_neg z, if_neg z, if_neg z]
        rw [M_wf A3 (by rw [rch_H v2]; exact m2) (by rw [rch_W v2]; exact m3), rch_wx v2 hw]
        simp only [Option.bind_some, on_pos (show wx w (dN s2 % nH w) (dN s3 % nW w) < 2147483648 by omega), on_s]
        by_cases z : wx w (dN s2 % nH w) (dN s3 % nW w) = 0
        · rw [if_neg (by omega)]
          simp only [Option.bind_some]
          refine ⟨_, rfl, e, rfl, ?_, ?_, fun o j a b => ?_, fun c hc => ?_⟩
          · show υ 105 15 = _
            rw [hυ15, hev]
          · rw [hev]
            simp only [z, if_true]
            exact A3
          · show υ o j = _
            rw [hυo o j b, y3 o j a b]
          · show υ 106 c = _
            rw [hυo 106 c (by omega), y4 c hc]
        · rw [if_pos (by omega)]
          obtain ⟨ψ, k1, k2, k3, k4⟩ := M_lays A3 (show nR (ev w (σ 105 15) k).2 < 12 by omega) (m := dN s1 % 20) (h := dN s2 % nH w) (v := dN s3 % nW w) (by omega) (by rw [rch_H v2]; exact m2) (by rw [rch_W v2]; exact m3) (by rw [rch_wx v2 hw]; exact z)
          rw [rch_wx v2 hw] at k2
          rw [k1]
          simp only [Option.bind_some]
          refine ⟨_, rfl, e, rfl, ?_, ?_, fun o j a b => ?_, fun c hc => ?_⟩
          · show ψ 105 15 = _
            rw [k3 105 (by decide), hυ15, hev]
          · rw [hev]
            simp only [z, if_false]
            exact k2
          · show ψ o j = _
            rw [k3 o a, hυo o j b, y3 o j a b]
          · show ψ 106 c = _
            by_cases c1 : 1023 ≤ c
            · rw [k4 c c1, hυo 106 c (by omega), y4 c hc]
            · rw [k2.2.1 c (by omega), rgA_ne (by omega) (by omega), ← A3.2.1 c (by omega), hυo 106 c (by omega), y4 c hc]
      · right
        have : k = n := by omega
        subst this
        rw [if_neg (lt_n (by omega))]
        exact ⟨_, rfl, y2, y3, y4⟩) (by omega)
  exact ⟨d, h1, h2⟩
theorem M_even (H : wS σ ρ w) (hH : 0 < nH w) (hW : 0 < nW w) {n c : Nat} (h1 : 1 ≤ n) (hn : n ≤ 12) (hc : c < 4) {s0 : Int32} : ∃ τ, f_X12_evening (σ, ρ) 105 s0 (Int32.ofNat n) (Int32.ofNat c) = some (sm (evS (ev w s0 n).2 c) (nR (ev w s0 n).2), τ) ∧ ag2 σ τ ∧ τ 105 0 = 0 := by
  have h8 := (wv_H H.2.2).2
  have h10 := (wv_W H.2.2).2
  have h12 := (wv_R H.2.2).2
  obtain ⟨a, b, hrh⟩ := H.1
  have Z := wS_z H
  have hin1 : ¬ (Int32.ofNat n < 1 ∨ 12 < Int32.ofNat n) := fun z => z.elim (fun z => by have := (on_lt (b := 1) (by omega) (by decide)).mp z; omega) (fun z => by have := (on_lt (a := 12) (by decide) (by omega)).mp z; omega)
  have hin2 : ¬ (Int32.ofNat c < 0 ∨ 3 < Int32.ofNat c) := fun z => z.elim (on_neg (by omega)) (fun z => by have := (on_lt (a := 3) (by decide) (by omega)).mp z; omega)
  -- what is there is kept
  obtain ⟨κ, k1, k2, k3⟩ := lp_rule (body := f_X12_evening_b71 (am_u2 σ 105 0 0, ρ) 105 s0 (Int32.ofNat n) (Int32.ofNat c)) 48
    (fun k y => y.1 = Int32.ofNat k ∧ (∀ o, o ≠ 111 → y.2 o = am_u2 σ 105 0 0 o) ∧ (∀ j, j < k → y.2 111 j = σ 106 (138 + j)))
    (fun d => (∀ o, o ≠ 111 → d o = am_u2 σ 105 0 0 o) ∧ (∀ j, j < 48 → d 111 j = σ 106 (138 + j)))
    (x := (0, am_u2 σ 105 0 0)) ⟨rfl, fun _ _ => rfl, fun j hj => absurd hj (by omega)⟩ (fun k y hk hy => by
      obtain ⟨i, τ⟩ := y
      obtain ⟨rfl, y1, y2⟩ := hy
      simp only at y1 y2
      unfold f_X12_evening_b71
      simp only [rd_kept hrh, M_w H, Option.bind_some]
      by_cases e : k < 48
      · left
        rw [if_pos (show Int32.ofNat k < 48 from (on_lt (b := 48) (by omega) (by decide)).mpr e), show (138 : Int32) = Int32.ofNat 138 from rfl, on_add, ld_on (by rw [ln_106]; omega) (by omega), y1 106 (by decide), u2_ne (by decide)]
        simp only [Option.bind_some]
        rw [st_on (by rw [ln_111]; omega) (by omega)]
        simp only [Option.bind_some, on_s]
        refine ⟨_, rfl, e, rfl, fun o ho => ?_, fun j hj => ?_⟩
        · show am_u2 τ 111 k _ o = _
          rw [u2_row ho, y1 o ho]
        · show am_u2 τ 111 k _ 111 j = _
          by_cases q : j = k
          · subst q; rw [u2_eq]
          · rw [u2_nj q, y2 j (by omega)]
      · right
        have : k = 48 := by omega
        subst this
        rw [if_neg (by decide)]
        exact ⟨_, rfl, y1, y2⟩) (by decide)
  have K0 : wS κ ρ w := ⟨H.1, fun k hk => by rw [k2 106 (by decide)]; exact Z.2.1 k hk, H.2.2⟩
  -- none is there
  have hF := rgF_wv H.2.2 (n := 0) (by omega)
  have K1 : wS (am_u2 (am_u2 κ 106 4 0) 105 15 s0) ρ (rgF w 0) := ⟨H.1, fun k hk => by
    rw [u2_ne (by decide)]
    by_cases q : k = 4
    · subst q; rw [u2_eq]; rfl
    · rw [u2_nj q, rgF_ne q]; exact K0.2.1 k hk, hF.1⟩
  obtain ⟨δ, d1, d2, d3, d4⟩ := M_draws K1 H.2.2 hH hW hn (a3 := Int32.ofNat c) (a4 := Int32.ofNat (nR w))
  rw [u2_eq] at d2
  -- and all comes back
  obtain ⟨β, b1, b2, b3⟩ := lp_rule (body := f_X12_evening_b272 (δ, ρ) 105 (Int32.ofNat (nR w)) (sm (evS (ev w s0 n).2 c) (nR (ev w s0 n).2))) 48
    (fun k y => y.1 = Int32.ofNat k ∧ (∀ o, o ≠ 106 → y.2 o = δ o) ∧ (∀ j, y.2 106 j = if 138 ≤ j ∧ j < 138 + k then σ 106 j else δ 106 j))
    (fun d => (∀ o, o ≠ 106 → d o = δ o) ∧ (∀ j, d 106 j = if 138 ≤ j ∧ j < 186 then σ 106 j else δ 106 j))
    (x := (0, δ)) ⟨rfl, fun _ _ => rfl, fun j => by rw [if_neg (by omega)]⟩ (fun k y hk hy => by
      obtain ⟨i, τ⟩ := y
      obtain ⟨rfl, y1, y2⟩ := hy
      simp only at y1 y2
      unfold f_X12_evening_b272
      simp only [rd_kept hrh, M_w H, Option.bind_some]
      by_cases e : k < 48
      · left
        have hkk : δ 111 k = σ 106 (138 + k) := by
          rw [d3 111 k (by decide) (by omega), u2_ne (by decide), u2_ne (by decide), k3 k e]
        rw [if_pos (show Int32.ofNat k < 48 from (on_lt (b := 48) (by omega) (by decide)).mpr e), ld_on (by rw [ln_111]; omega) (by omega), y1 111 (by decide), hkk]
        simp only [Option.bind_some]
        rw [show (138 : Int32) = Int32.ofNat 138 from rfl, on_add, st_on (by rw [ln_106]; omega) (by omega)]
        simp only [Option.bind_some, on_s]
        refine ⟨_, rfl, e, rfl, fun o ho => ?_, fun j => ?_⟩
        · show am_u2 τ 106 (138 + k) _ o = _
          rw [u2_row ho, y1 o ho]
        · show am_u2 τ 106 (138 + k) _ 106 j = _
          by_cases q : j = 138 + k
          · subst q; rw [u2_eq, if_pos (by omega)]
          · rw [u2_nj q, y2 j]
            by_cases q2 : 138 ≤ j ∧ j < 138 + k
            · rw [if_pos q2, if_pos (by omega)]
            · rw [if_neg q2, if_neg (by omega)]
      · right
        have : k = 48 := by omega
        subst this
        rw [if_neg (by decide)]
        exact ⟨_, rfl, y1, y2⟩) (by decide)
  refine ⟨am_u2 β 106 4 (Int32.ofNat (nR w)), ?_, ⟨fun o j es1 => ?_, ?_⟩, ?_⟩
  · unfold f_X12_evening
    simp only [in_e]
    rw [if_neg hin1, if_neg hin2]
    simp only [i10, if_false, Option.bind_some, th0, if_true, M_houses Z, M_wants Z]
    rw [if_neg (fun z => by have := (on_z (by omega)).mp z; omega), if_neg (fun z => by have := (on_z (by omega)).mp z; omega), k1]
    simp only [Option.bind_some, M_w H, M_rc K0]
    rw [show (4 : Int32) = Int32.ofNat 4 from rfl, st_on (by rw [ln_106]; omega) (by omega)]
    simp only [Option.bind_some]
    rw [d1]
    simp only [Option.bind_some, M_judged d2 hc]
    rw [b1]
    simp only [Option.bind_some]
    rw [st_on (by rw [ln_106]; omega) (by omega)]
    rfl
  · by_cases q : o = 106
    · subst q
      by_cases q4 : j = 4
      · subst q4; rw [u2_eq, H.2.1 4 (by decide), (wv_R H.2.2).1]
      · rw [u2_nj q4, b3 j]
        by_cases r : 138 ≤ j ∧ j < 186
        · rw [if_pos r]
        · rw [if_neg r, d4 j (by omega), u2_ne (by decide), u2_nj q4, k2 106 (by decide), u2_ne (by decide)]
    · rw [u2_ne q, b2 o q, d3 o j q (by rintro ⟨rfl, rfl⟩; revert es1; decide)]
      by_cases q5 : o = 105
      · subst q5
        rw [u2_nj (by rintro rfl; revert es1; decide), u2_ne (by decide), k2 105 (by decide), u2_nj (by rintro rfl; revert es1; decide)]
      · rw [u2_ne q5, u2_ne q, k2 o (by rintro rfl; rw [es_0 rfl] at es1; cases es1), u2_ne q5]
  · funext j
    rw [u2_ne (by decide), b2 122 (by decide), d3 122 j (by decide) (by omega), u2_ne (by decide), u2_ne (by decide), k2 122 (by decide), u2_ne (by decide)]
  · rw [u2_ne (by decide), b2 105 (by decide), d3 105 0 (by decide) (by omega), u2_nj (by decide), u2_ne (by decide), k2 105 (by decide), u2_eq]
theorem sm_one {x : wg} : ∀ n, sm (evS x 3) n = Int32.ofNat n
  | 0 => rfl
  | n + 1 => by
    show sm (evS x 3) n + 1 = _
    rw [sm_one n, on_s]
theorem q_evening (I : Iv σ ρ t u w wi) (p q x : Int32) : Rq σ ρ w [(1, 1), (3, 2)] (f_X11_evening (σ, ρ) 0 p q x) (fun S => f_X12_evening S 105 p q x) := by
  have h8 := (wv_H I.2.2.1).2
  have h10 := (wv_W I.2.2.1).2
  have t1 : t = 2 ∨ t = 24 := by rcases I.1.2.1 with ⟨h, -⟩ | ⟨h, -⟩ <;> omega
  by_cases hq : q < 1 ∨ 12 < q
  · refine Rq_t (k := 1) (b := 0) (c := 1) (σ1 := σ) ?_ ag_rf rfl (by decide) (fun σ' H => ?_)
    · unfold f_X11_evening
      by_cases a : q < 1
      · rw [if_pos a]
      · rw [if_neg a, if_pos (hq.resolve_left a)]
    · unfold f_X12_evening
      simp only [in_e]
      rw [if_pos hq]
      simp only [if_true, Option.bind_some, th1, i10, if_false, zz]
  · have q0 : ¬ q < 0 := fun z => hq (Or.inl (Int32.lt_trans z (by decide)))
    obtain ⟨n, hn, rfl⟩ := i_of q0
    have hn1 : 1 ≤ n := Nat.le_of_not_lt (fun z => hq (Or.inl ((on_lt (b := 1) hn (by decide)).mpr z)))
    have hn12 : n ≤ 12 := Nat.le_of_not_lt (fun z => hq (Or.inr ((on_lt (a := 12) (by decide) hn).mpr z)))
    rcases mdic 3 (by decide) 3 rfl x with ⟨c, hc, rfl, hc2⟩ | hx
    · by_cases hz : nH w = 0 ∨ nW w = 0
      · refine Rq_z (r := 0) (σ1 := am_u2 σ 68 0 0) ?_ (ag_u0 rfl ag_rf) (fun σ' H => ?_)
        · have hd : f_X11_drawEvening (σ, ρ) 0 p (Int32.ofNat n) = some (am_u2 σ 68 0 0) := by
            unfold f_X11_drawEvening
            simp only [rd_trial I.1, c_now I, Option.bind_some]
            rw [u2_ne (show t ≠ 68 by omega), u2_ne (show t ≠ 68 by omega), c_H (Iv_t I), c_W (Iv_t I)]
            by_cases z : nH w = 0
            · rw [if_neg (fun y => by have := (on_pos (by omega)).mp y; omega)]
            · rw [if_pos ((on_pos (by omega)).mpr (by omega)), if_neg (fun y => by have := (on_pos (by omega)).mp y; omega)]
          unfold f_X11_evening
          rw [if_neg (fun z => hq (Or.inl z)), if_neg (fun z => hq (Or.inr z)), if_neg (fun z => hc2 (Or.inl z)), if_neg (fun z => hc2 (Or.inr z)), hd]
          simp only [Option.bind_some, rd_trial I.1]
          by_cases c3 : Int32.ofNat c = 3
          · rw [if_pos c3, u2_eq]
          · rw [if_neg c3]
            have hj : f_X11_judgedOfTrial (am_u2 σ 68 0 0, ρ) 0 (Int32.ofNat c) = some (0, am_u2 σ 68 0 0) := by
              unfold f_X11_judgedOfTrial
              have : am_loop (f_X11_judgedOfTrial_b4 (am_u2 σ 68 0 0, ρ) 0 (Int32.ofNat c)) am_fuel (0, 0, am_u2 σ 68 0 0) = some (0, am_u2 σ 68 0 0) := by
                show am_loop _ (999999999999 + 1) _ = _
                rw [am_loop_s]
                unfold f_X11_judgedOfTrial_b4
                simp only [rd_trial I.1, Option.bind_some, u2_eq]
                rw [if_neg (by decide)]
                rfl
              rw [this]
              rfl
            rw [hj]
            rfl
        · unfold f_X12_evening
          simp only [in_e]
          rw [if_neg hq, if_neg hc2]
          simp only [i10, if_false, Option.bind_some, th0, if_true, M_houses H, M_wants H]
          by_cases z : nH w = 0
          · rw [if_pos ((on_z (by omega)).mpr z)]
          · rw [if_neg (fun y => z ((on_z (by omega)).mp y)), if_pos ((on_z (by omega)).mpr (by omega))]
      · have hH : 0 < nH w := by omega
        have hW : 0 < nW w := by omega
        obtain ⟨τ, a1, a2, a3⟩ := c_draw I hH hW hn12 p
        obtain ⟨v1, v2, v3⟩ := ev_ok I.2.2.1 hH hW p n hn12
        have fin : ∃ τ', f_X11_evening (σ, ρ) 0 p (Int32.ofNat n) (Int32.ofNat c) = some (.inl (some (.int (sm (evS (ev w p n).2 c) (nR (ev w p n).2)))), (τ', ρ)) ∧ ag σ τ' := by
          unfold f_X11_evening
          rw [if_neg (fun z => hq (Or.inl z)), if_neg (fun z => hq (Or.inr z)), if_neg (fun z => hc2 (Or.inl z)), if_neg (fun z => hc2 (Or.inr z)), a1]
          simp only [Option.bind_some, rd_trial I.1]
          by_cases c3 : c = 3
          · subst c3
            rw [if_pos (by decide), a3.2.2.1, ← sm_one]
            exact ⟨τ, rfl, a2⟩
          · rw [if_neg (show ¬ Int32.ofNat c = 3 from fun z => c3 ((on_inj (b := 3) (by omega) (by decide)).mp z))]
            obtain ⟨υ, j1, j2⟩ := c_judged (Iv_ag I a2) v2 a3 (c := c) (by omega)
            rw [j1]
            exact ⟨υ, rfl, ag_tr a2 j2⟩
        obtain ⟨τ', f1, f2⟩ := fin
        exact Rq_r f1 f2 (fun σ' H => M_even H hH hW hn1 hn12 (by omega))
    · refine Rq_t (k := 3) (b := 0) (c := 2) (σ1 := σ) ?_ ag_rf rfl (by decide) (fun σ' H => ?_)
      · unfold f_X11_evening
        rw [if_neg (fun z => hq (Or.inl z)), if_neg (fun z => hq (Or.inr z))]
        by_cases a : x < 0
        · rw [if_pos a]
        · rw [if_neg a, if_pos (hx.resolve_left a)]
      · unfold f_X12_evening
        simp only [in_e]
        rw [if_neg hq, if_pos hx]
        simp only [i10, if_false, Option.bind_some, th0, if_true, th1, zz]
end EV2
