section SF
variable {σ : sg} {ρ : rg} {t u : Nat} {w wi : wg}
/-- the class's run by lot -/
theorem c_lot6 (H : tS σ ρ t w) {v : Nat} (hv : v < nW w) {sd0 : Int32} {key : Nat → Int32} (hkey : ∀ x, (l0N w v).testBit x = true → key x = Int32.ofNat (ct (l0N w v).testBit 8 - (dsn (sd0, l0N w v, fun _ => 0) (ct (l0N w v).testBit 8)).2.2 x)) {N : Nat} (n1 : N ≤ 113) (n2 : (rSx (hmb (hmN w)) (co w v) (fun _ => key) (sx0 w v) N).1 = 0) (n3 : ∀ k, k < N → (rSx (hmb (hmN w)) (co w v) (fun _ => key) (sx0 w v) k).1 ≠ 0) (n4 : ∀ k, k ≤ N → pI (l0N w v) (co w v) k (rSx (hmb (hmN w)) (co w v) (fun _ => key) (sx0 w v) k)) : ∃ τ, f_X8_runByLot (σ, ρ) 89 t (Int32.ofNat v) sd0 = some τ ∧ ag σ τ ∧ csx (hmN w) (co w v) τ (rSx (hmb (hmN w)) (co w v) (fun _ => key) (sx0 w v) N) := by
  obtain ⟨a, b, hr⟩ := H.1
  obtain ⟨r, hrd⟩ : ∃ r, r = rSx (hmb (hmN w)) (co w v) (fun _ => key) (sx0 w v) := ⟨_, rfl⟩
  rw [← hrd] at n2 n3 n4 ⊢
  obtain ⟨τ0, p1, p2, p3, p4⟩ := c_prep6 H hv
  obtain ⟨τ1, q1, q2, q3⟩ := c_draws (σ := τ0) hr l0_lt (sd0 := sd0) p3.1
  have g1 : ag σ τ1 := ag_tr (k5_ag p2) (fun o j e => by
    rw [q2 o (fun z => by subst z; rw [es_0 rfl] at e; cases e)])
  have hc1 : csx (hmN w) (co w v) τ1 (sx0 w v) := csx_cg (fun o j ho => by rw [q2 o (by omega)]) p3
  obtain ⟨d, d1, d2, d3⟩ := lp_rule (body := f_X8_runByLot_b14 (τ1, ρ) 89) N (fun T y => y.1 = Int32.ofNat T ∧ ag σ y.2 ∧ csx (hmN w) (co w v) y.2 (r T) ∧ y.2 90 = τ1 90) (fun (d : sg) => ag σ d ∧ csx (hmN w) (co w v) d (r N)) (x := (0, τ1)) ⟨rfl, g1, by rw [hrd]; exact hc1, rfl⟩ (fun T y hT hy => by
    obtain ⟨i, τ⟩ := y
    obtain ⟨rfl, y1, y2, y3⟩ := hy
    simp only at y1 y2 y3
    have hP := n4 T hT
    have hs : (r T).1 < 256 := Nat.lt_of_le_of_lt (sbs_le hP.1) l0_lt
    have hO : ∀ x, (r T).2.1 x < 100000 := fun x => by have := hP.2.2.1 x; have := co_16 H.2.2.2 (v := v) x; omega
    unfold f_X8_runByLot_b14
    simp only [y2.1, on_z (show (r T).1 < 2147483648 by omega)]
    rw [if_neg (show ¬ (128 : Int32) < Int32.ofNat T from fun z => by have := (on_lt (a := 128) (by decide) (by omega)).mp z; omega)]
    by_cases e : T = N
    · right
      subst e
      rw [if_pos n2]
      exact ⟨_, rfl, y1, y2⟩
    · left
      have hTN : T < N := by omega
      rw [if_neg (n3 T hTN), c_ready hr (hmN_lt H.2.2.2) y2 hs hO (by omega), bnd]
      obtain ⟨τ2, e1, e2, e3⟩ := c_minute hr (hmN_lt H.2.2.2) (co_16 H.2.2.2) (key := key) l0_lt (by omega) hP y2 (fun x hx hxR => by
        unfold rdyN at hxR
        rw [bm_tb, Bool.and_eq_true, Bool.and_eq_true] at hxR
        have hx0 := hP.1 x hxR.2.1
        rw [y3, q3 x hx0, hkey x hx0])
      rw [e1, bnd, on_s]
      refine ⟨_, rfl, hTN, rfl, ag_tr y1 (k89_ag e3), ?_, by rw [← y3]; exact e3 90 (by decide) (by decide)⟩
      rw [hrd] at e2 ⊢
      exact e2) (by omega)
  unfold f_X8_runByLot
  rw [p1, bnd, q1, bnd, d1, bnd]
  exact ⟨d, rfl, d2, d3⟩
/-- the model draws -/
def k15 (σ τ : sg) : Prop := (∀ o, o ≠ 105 → o ≠ 118 → τ o = σ o) ∧ ∀ j, j ≠ 15 → τ 105 j = σ 105 j
theorem M_ldraw (H : wS σ ρ w) {L0 : Nat} (hL0 : L0 < 256) {p1 p3 : Int32} : ∃ τ, am_loop (f_X12_lot_b57 (σ, ρ) 105 p1 p3) am_fuel (Int32.ofNat L0, 0, σ) = some τ ∧ k15 σ τ ∧ ∀ x, L0.testBit x = true → τ 118 x = Int32.ofNat ((dsn (σ 105 15, L0, fun _ => 0) (ct L0.testBit 8)).2.2 x) := by
  obtain ⟨a, b, hr⟩ := H.1
  have hl := ct_l (q := L0.testBit) 8
  have hend := ds_end (sd0 := σ 105 15) hL0
  obtain ⟨M, hM⟩ : ∃ M, M = ct L0.testBit 8 := ⟨_, rfl⟩
  obtain ⟨D, hD⟩ : ∃ D, D = dsn (σ 105 15, L0, fun _ => 0) := ⟨_, rfl⟩
  rw [← hM] at hend hl ⊢
  rw [← hD] at hend ⊢
  refine lp_rule (body := f_X12_lot_b57 (σ, ρ) 105 p1 p3) M (fun j y => y.1 = Int32.ofNat (D j).2.1 ∧ y.2.1 = Int32.ofNat j ∧ y.2.2 105 15 = (D j).1 ∧ k15 σ y.2.2 ∧ ∀ x, L0.testBit x = true → (D j).2.1.testBit x = false → y.2.2 118 x = Int32.ofNat ((D j).2.2 x)) (fun (d : sg) => k15 σ d ∧ ∀ x, L0.testBit x = true → d 118 x = Int32.ofNat ((D M).2.2 x)) (x := (Int32.ofNat L0, 0, σ)) ⟨by rw [hD]; rfl, rfl, by rw [hD]; rfl, ⟨fun _ _ _ => rfl, fun _ _ => rfl⟩, fun x h1 h2 => by
      rw [hD] at h2
      have h2' : L0.testBit x = false := h2
      rw [h1] at h2'; cases h2'⟩ (fun j y hj hy => ?_) (by omega)
  obtain ⟨lf, i, τ⟩ := y
  obtain ⟨y1, y2, y3, y4, y5⟩ := hy
  simp only at y1 y2 y3 y4 y5
  subst y1 y2
  obtain ⟨a1, a2, a3⟩ := dsn_I (sd0 := σ 105 15) hL0 j (by omega)
  rw [← hM, ← hD] at a2
  rw [← hD] at a1 a3
  have hS : (D j).2.1 < 256 := Nat.lt_of_le_of_lt (sbs_le a1) hL0
  unfold f_X12_lot_b57
  simp only [on_z (show (D j).2.1 < 2147483648 by omega)]
  by_cases e : j < M
  · left
    have hne : (D j).2.1 ≠ 0 := fun z => by
      rw [z] at a2
      have : ct (Nat.testBit 0) 8 = 0 := by decide
      omega
    have hp : dN (sd (D j).1) % ct (D j).2.1.testBit 8 < ct (D j).2.1.testBit 8 := Nat.mod_lt _ (by omega)
    obtain ⟨n1, n2, n3, n4, n5⟩ := nb_p hp
    have hst : D (j + 1) = dst1 j (D j) := by rw [hD]; rfl
    have hbc := (bc_n (m := (D j).2.1) (by omega)).1
    rw [ct_10 (n := 8) hS (by decide)] at hbc
    have H' : wS τ ρ w := ⟨H.1, fun k hk => by rw [y4.1 106 (by decide) (by decide)]; exact H.2.1 k hk, H.2.2⟩
    rw [if_neg hne, hbc, bnd, M_drw H' (by omega) (by omega), bnd, y3]
    simp only
    rw [M_at hS hp, bnd, rd_place hr, bnd, st_on (by rw [ln_118]; omega) (by omega), bnd, shl1 (by omega), andy, on_s, hst]
    unfold dst1
    obtain ⟨h, hh⟩ : ∃ h, h = nb (D j).2.1 (dN (sd (D j).1) % ct (D j).2.1.testBit 8) := ⟨_, rfl⟩
    rw [← hh] at n1 n2 ⊢
    obtain ⟨τ1, hτ1⟩ : ∃ x, x = am_u2 (am_u2 τ 105 15 (sd (D j).1)) 118 h (Int32.ofNat j) := ⟨_, rfl⟩
    rw [← hτ1]
    refine ⟨_, rfl, e, rfl, rfl, ?_, ⟨fun o h1 h2 => ?_, fun i hi => ?_⟩, fun x h1 h2 => ?_⟩
    · show τ1 105 15 = _
      rw [hτ1, u2_ne (by decide), u2_eq]
    · show τ1 o = _
      rw [hτ1, u2_row h2, u2_row h1, y4.1 o h1 h2]
    · show τ1 105 i = _
      rw [hτ1, u2_ne (by decide), u2_nj hi]; exact y4.2 i hi
    · show τ1 118 x = Int32.ofNat (up1 (D j).2.2 h j x)
      have h2' : (rmb (D j).2.1 h).testBit x = false := h2
      rw [rmb_tb] at h2'
      rw [hτ1]
      by_cases z : x = h
      · subst z; rw [u2_eq, up1_eq]
      · rw [u2_nj z, u2_ne (by decide), up1_ne z]
        exact y5 x h1 (by simpa [z] using h2')
  · right
    have : j = M := by omega
    subst this
    rw [if_pos hend]
    exact ⟨_, rfl, y4, fun x h1 => y5 x h1 (by rw [hend, Nat.zero_testBit])⟩
/-- the model's choice: by lot -/
theorem M_bestP (H : wS σ ρ w) {v S : Nat} {key : Nat → Int32} {mi : Int32} (hS : S < 256) (hSH : ∀ x, S.testBit x = true → x < nH w) (hk : ∀ x y, S.testBit x = true → S.testBit y = true → (key x < key y ↔ σ 118 y < σ 118 x)) : ∃ τ, f_X12_turnOf (σ, ρ) 105 (Int32.ofNat S) (Int32.ofNat v) mi 1 = some (ob (bsN key S 8), τ) ∧ k16 σ τ := by
  have hH := (wv_H H.2.2).2
  obtain ⟨a, b, hr⟩ := H.1
  have h8 : bsN key S 8 = bsN key S (nH w) := by
    have := bsN_ext (key := key) (S := S) (n := nH w) (fun x hx => by
      cases e : S.testBit x with
      | false => rfl
      | true => have := hSH x e; omega) (8 - nH w)
    rw [show nH w + (8 - nH w) = 8 by omega] at this
    exact this
  have key' : am_loop (f_X12_turnOf_b6 (σ, ρ) 105 (Int32.ofNat S) (Int32.ofNat v) mi 1) am_fuel (-1, 0, σ) = some (ob (bsN key S (nH w)), σ) := by
    refine lp_for (nH w) (fun k => (ob (bsN key S k), Int32.ofNat k, σ)) rfl (fun k e => ?_) ?_ (by omega)
    · have hI := bsN_I (key := key) (S := S) k
      have hlt : ∀ x, bsN key S k = some x → x < 8 := fun x hx => by rw [hx] at hI; have := hI.1; omega
      unfold f_X12_turnOf_b6
      simp only [M_houses H, bnd]
      rw [if_pos (lt_y e (by omega)), f_has (by omega) (by omega), bnd, bi_f]
      have hG : bsN key S (k + 1) = bsG key S k (bsN key S k) := rfl
      rw [hG]
      unfold bsG
      by_cases z : S.testBit k = true
      · rw [if_pos z, if_pos z]
        simp only [ob_n hlt]
        cases q : bsN key S k with
        | none =>
          simp only [if_true, bnd, i10, if_false, on_s]
          rfl
        | some x =>
          rw [q] at hI
          have hx8 : x < nH w := by have := hI.1; omega
          simp only [reduceCtorEq, if_false, i10]
          rw [show ob (some x) = Int32.ofNat x from rfl, rd_place hr, bnd, ld_on (by rw [ln_118]; omega) (by omega), bnd, bnd, ld_on (by rw [ln_118]; omega) (by omega), bnd]
          by_cases y : key x < key k
          · simp only [y, (hk x k hI.2.1 z).mp y, if_true, bnd, i10, if_false, on_s]
            rfl
          · have y2 : ¬ σ 118 k < σ 118 x := fun c => y ((hk x k hI.2.1 z).mpr c)
            simp only [y, y2, if_false, bnd, if_true, on_s]
            rfl
      · rw [if_neg z, if_neg z]
        simp only [bnd, on_s]
    · unfold f_X12_turnOf_b6
      simp only [M_houses H, bnd]
      rw [if_neg (lt_n (by omega))]
  unfold f_X12_turnOf
  rw [key', bnd, h8]
  exact ⟨σ, rfl, fun _ _ => rfl⟩
theorem q_lot (I : Iv σ ρ t u w wi) (p s q : Int32) : Rq σ ρ w [(0, 1), (3, 2)] (f_X11_lot (σ, ρ) 0 p s q) (fun S => f_X12_lot S 105 p s q) := by
  have hW := (wv_W I.2.2.1).2
  rcases dic (nW w) p with ⟨v, hv, rfl⟩ | hp
  · by_cases hq : q < 0 ∨ 1 < q
    · refine Rq_t (k := 3) (b := 0) (c := 2) (σ1 := σ) ?_ ag_rf rfl (by decide) (fun σ' H => ?_)
      · unfold f_X11_lot
        rw [c_nW0 I hv, thV_n]
        have : f_X11_needSixWhat (σ, ρ) 0 q = some (.inr 3, (σ, ρ)) := by
          unfold f_X11_needSixWhat
          rw [if_neg (fun z => by subst z; revert hq; decide), if_neg (fun z => by subst z; revert hq; decide)]
        rw [this, thV_x]
      · unfold f_X12_lot
        simp only [M_nW0 H hv, bnd, th0, if_true, in_e]
        rw [if_pos hq]
        simp only [bnd, if_true, th1, i10, if_false, zz]
    · have hq2 := two_of hq
      obtain ⟨J, hJ⟩ : ∃ J : Nat → Nat, J = (dsn (s, l0N w v, fun _ => 0) (ct (l0N w v).testBit 8)).2.2 := ⟨_, rfl⟩
      have hJM : ∀ x, (l0N w v).testBit x = true → J x < ct (l0N w v).testBit 8 := fun x hx => by
        rw [hJ]
        exact (dsn_I (sd0 := s) (l0_lt (w := w) (v := v)) (ct (l0N w v).testBit 8) (Nat.le_refl _)).2.2 x hx (by rw [ds_end l0_lt, Nat.zero_testBit])
      have hM8 := ct_l (q := (l0N w v).testBit) 8
      obtain ⟨key, hkd⟩ : ∃ key : Nat → Int32, key = fun x => Int32.ofNat (ct (l0N w v).testBit 8 - J x) := ⟨_, rfl⟩
      obtain ⟨N, n1, n2, n3, n4⟩ := rSx_end (hm := hmb (hmN w)) (C := co w v) (key := fun _ => key) (L0 := l0N w v) (co_16 I.2.2.1) (fun x hx => co_1 I.2.2.1 hx) l0_lt
      obtain ⟨τ, c1, c2, c3⟩ := c_lot6 (Iv_t I) hv (sd0 := s) (key := key) (fun x _ => by rw [hkd, hJ]) n1 n2 n3 n4
      refine Rq_r (r := if q = 0 then Int32.ofNat (rSx (hmb (hmN w)) (co w v) (fun _ => key) (sx0 w v) N).2.2.1 else Int32.ofNat (rSx (hmb (hmN w)) (co w v) (fun _ => key) (sx0 w v) N).2.2.2) (σ1 := τ) ?_ c2 (fun σ' H0 => ?_)
      · unfold f_X11_lot
        rw [c_nW0 I hv, thV_n]
        have : f_X11_needSixWhat (σ, ρ) 0 q = some (.inl none, (σ, ρ)) := by
          unfold f_X11_needSixWhat
          rcases hq2 with rfl | rfl
          · rw [if_pos rfl]
          · rw [if_neg (by decide), if_pos rfl]
        rw [this, thV_n]
        simp only [rd_six I.1, c_now I, bnd, c1]
        rcases hq2 with rfl | rfl
        · rw [if_pos rfl, if_pos rfl, c3.2.1]
        · rw [if_neg (by decide), if_neg (by decide), c3.2.2.1]
      · have H := wS_z H0
        obtain ⟨σa, hσa⟩ : ∃ x, x = am_u2 (am_u2 σ' 105 0 0) 105 15 s := ⟨_, rfl⟩
        have ka : ∀ o, o ≠ 105 → σa o = σ' o := fun o h => by rw [hσa, u2_row h, u2_row h]
        have Ha : wS σa ρ w := ⟨H0.1, fun k hk => by rw [ka 106 (by decide)]; exact H0.2.1 k hk, H0.2.2⟩
        obtain ⟨τ1, d1, d2, d3⟩ := M_ldraw Ha (l0_lt (w := w) (v := v)) (p1 := Int32.ofNat v) (p3 := q)
        have e15 : σa 105 15 = s := by rw [hσa, u2_eq]
        rw [e15, ← hJ] at d3
        have H1 : wS τ1 ρ w := ⟨H0.1, fun k hk => by rw [d2.1 106 (by decide) (by decide)]; exact Ha.2.1 k hk, H0.2.2⟩
        obtain ⟨τ2, m1, m2⟩ := M_rings H1 hv (p2 := 1) (p3 := q) (key := fun _ => key) (P := fun x => τ1 118 x) (fun _ _ => rfl) (fun mi τ S _ h1 h2 h3 h4 => M_bestP h1 h3 (fun x hx => (l0_H I.2.2.1 (h4 x hx)).1) (fun x y hx hy => by
          have x0 := h4 x hx
          have y0 := h4 y hy
          have jx := hJM x x0
          have jy := hJM y y0
          rw [h2 x (l0_H I.2.2.1 x0).2, h2 y (l0_H I.2.2.1 y0).2, d3 x x0, d3 y y0, hkd, on_lt (by omega) (by omega), on_lt (by omega) (by omega)]
          omega)) n1 n2 n3 n4
        have e0 : τ2 105 0 = 0 := by rw [m2 105 (by decide) (by decide), d2.2 0 (by decide), hσa, u2_nj (by decide), u2_eq]
        have k2 : ∀ o, o ≠ 105 → o ≠ 116 → o ≠ 117 → o ≠ 118 → τ2 o = σ' o := fun o h1 h2 h3 h4 => by rw [m2 o h2 h3, d2.1 o h1 h4, ka o h1]
        refine ⟨τ2, ?_, ⟨fun o j e => ?_, k2 122 (by decide) (by decide) (by decide) (by decide)⟩, e0⟩
        · unfold f_X12_lot
          simp only [M_nW0 H hv, bnd, th0, if_true, in_e]
          rw [if_neg hq]
          simp only [bnd, i10, if_false, th0, if_true, M_ringing H hv]
          rw [← hσa, d1]
          simp only [bnd, m1]
        · by_cases z : o = 105
          · subst z
            have hj : j ≠ 15 ∧ j ≠ 0 := by
              constructor <;> (rintro rfl; revert e; decide)
            rw [m2 105 (by decide) (by decide), d2.2 j hj.1, hσa, u2_nj hj.1, u2_nj hj.2]
          · obtain ⟨h1, h2⟩ := es_2 e (a := 116) (b := 117) rfl rfl
            obtain ⟨h3, -⟩ := es_2 e (a := 118) (b := 117) rfl rfl
            rw [k2 o z h1 h2 h3]
  · refine Rq_t (k := 0) (b := 0) (c := 1) (σ1 := σ) ?_ ag_rf rfl (by decide) (fun σ' H => ?_)
    · unfold f_X11_lot
      rw [c_nW1 I hp, thV_x]
    · unfold f_X12_lot
      simp only [M_nW1 H hp, bnd, th1, i10, if_false, zz]
end SF
