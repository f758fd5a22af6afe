section SD
variable {σ : sg} {ρ : rg} {t u : Nat} {w wi : wg}
theorem bm_ext {q : Nat → Bool} {n : Nat} (h : ∀ x, n ≤ x → q x = false) : ∀ j, bm q (n + j) = bm q n
  | 0 => rfl
  | j + 1 => by
    show bm q (n + j) + (if q (n + j) = true then 2 ^ (n + j) else 0) = _
    rw [h (n + j) (by omega), bm_ext h j]; rfl
theorem M_ringing (H : wS σ ρ w) {v : Nat} (hv : v < nW w) : f_X12_ringing (σ, ρ) 105 (Int32.ofNat v) = some (Int32.ofNat (l0N w v)) := by
  have hH := (wv_H H.2.2).2
  have e8 : l0N w v = bm (fun h => decide (wx w h v ≠ 0)) (nH w) := by
    have := bm_ext (q := fun h => decide (wx w h v ≠ 0)) (n := nH w) (fun x hx => by
      have : wx w x v = 0 := by
        apply Classical.byContradiction
        intro z
        have := (wx_ne z).1
        omega
      simp [this]) (8 - nH w)
    rw [show nH w + (8 - nH w) = 8 by omega] at this
    exact this
  have key : am_loop (f_X12_ringing_b4 (σ, ρ) 105 (Int32.ofNat v)) am_fuel (0, 0) = some (Int32.ofNat (l0N w v)) := by
    rw [e8]
    refine lp_for (nH w) (fun k => (Int32.ofNat (bm (fun h => decide (wx w h v ≠ 0)) k), Int32.ofNat k)) rfl (fun k hk => ?_) ?_ (by omega)
    · unfold f_X12_ringing_b4
      have hx := wx_lt H.2.2 (a := k) (v := v)
      simp only [M_houses H, bnd]
      rw [if_pos (lt_y hk (by omega)), M_wf H hk hv]
      simp only [bnd, on_pos (show wx w k v < 2147483648 by omega), shl1 (show k < 9 by omega), on_s]
      have hb : bm (fun h => decide (wx w h v ≠ 0)) (k + 1) = bm (fun h => decide (wx w h v ≠ 0)) k + (if decide (wx w k v ≠ 0) = true then 2 ^ k else 0) := rfl
      rw [hb]
      by_cases z : wx w k v = 0
      · rw [if_neg (by omega)]
        simp only [bnd]
        rw [show (0 : Int32) = Int32.ofNat 0 from rfl, on_or, Nat.or_zero]
        simp [z]
      · rw [if_pos (by omega)]
        simp only [bnd]
        rw [on_or, bm_or]
        simp [z]
    · unfold f_X12_ringing_b4
      simp only [M_houses H, bnd]
      rw [if_neg (lt_n (by omega))]
  unfold f_X12_ringing
  rw [key, bnd]
theorem M_rings (H : wS σ ρ w) {v : Nat} (hv : v < nW w) {p2 p3 : Int32} {key : Nat → Nat → Int32} {P : Nat → Int32} (hP8 : ∀ x, x < 8 → σ 118 x = P x) (hbest : ∀ (mi : Nat) (τ : sg) (S : Nat), mi < 1000 → wS τ ρ w → (∀ x, x < 8 → τ 118 x = P x) → S < 256 → sbs S (l0N w v) → ∃ τ', f_X12_turnOf (τ, ρ) 105 (Int32.ofNat S) (Int32.ofNat v) (Int32.ofNat mi) p2 = some (ob (bsN (key mi) S 8), τ') ∧ k16 τ τ') {N : Nat} (n1 : N ≤ 113) (n2 : (rSx (hmb (hmN w)) (co w v) key (sx0 w v) N).1 = 0) (n3 : ∀ k, k < N → (rSx (hmb (hmN w)) (co w v) key (sx0 w v) k).1 ≠ 0) (n4 : ∀ k, k ≤ N → pI (l0N w v) (co w v) k (rSx (hmb (hmN w)) (co w v) key (sx0 w v) k)) : ∃ τ, f_X12_rings (σ, ρ) 105 (Int32.ofNat v) p2 p3 = some (if p3 = 0 then Int32.ofNat (rSx (hmb (hmN w)) (co w v) key (sx0 w v) N).2.2.1 else Int32.ofNat (rSx (hmb (hmN w)) (co w v) key (sx0 w v) N).2.2.2, τ) ∧ k67 σ τ := by
  obtain ⟨a, b, hr⟩ := H.1
  obtain ⟨r, hrd⟩ : ∃ r, r = rSx (hmb (hmN w)) (co w v) key (sx0 w v) := ⟨_, rfl⟩
  rw [← hrd] at n2 n3 n4 ⊢
  obtain ⟨τ0, s1, s2, s3⟩ := lp_rule (body := f_X12_rings_b3 (σ, ρ) 105 (Int32.ofNat v) p2 p3) 8 (fun k y => y.1 = Int32.ofNat k ∧ (∀ o, o ≠ 117 → y.2 o = σ o) ∧ ∀ h, h < k → y.2 117 h = -1) (fun (d : sg) => (∀ o, o ≠ 117 → d o = σ o) ∧ ∀ h, h < 8 → d 117 h = -1) (x := (0, σ)) ⟨rfl, fun _ _ => rfl, fun h hh => by omega⟩ (fun k y hk hy => by
    obtain ⟨i, τ⟩ := y
    obtain ⟨rfl, y1, y2⟩ := hy
    simp only at y1 y2
    unfold f_X12_rings_b3
    simp only
    by_cases e : k < 8
    · left
      rw [if_pos (show Int32.ofNat k < 8 from (on_lt (b := 8) (by omega) (by decide)).mpr e), rd_starts hr, bnd, st_on (by rw [ln_117]; omega) (by omega), bnd, on_s]
      refine ⟨_, rfl, e, rfl, fun o ho => ?_, fun h hh => ?_⟩
      · show am_u2 τ 117 k (-1) o = _
        rw [u2_row ho, y1 o ho]
      · show am_u2 τ 117 k (-1) 117 h = _
        by_cases z : h = k
        · subst z; rw [u2_eq]
        · rw [u2_nj z]; exact y2 h (by omega)
    · right
      have : k = 8 := by omega
      subst this
      rw [if_neg (by decide)]
      exact ⟨_, rfl, y1, y2⟩) (by decide)
  have H0 : wS τ0 ρ w := ⟨H.1, fun k hk => by rw [s2 106 (by decide)]; exact H.2.1 k hk, H.2.2⟩
  have k0 : k67 σ τ0 := fun o _ h => s2 o h
  obtain ⟨d, d1, d2, d3, d4⟩ := lp_rule (body := f_X12_rings_b40 (τ0, ρ) 105 (Int32.ofNat v) p2 p3) N (fun T y => y.1 = Int32.ofNat (r T).1 ∧ y.2.1 = Int32.ofNat (r T).2.2.1 ∧ y.2.2.1 = Int32.ofNat (r T).2.2.2 ∧ y.2.2.2.1 = Int32.ofNat T ∧ k67 σ y.2.2.2.2 ∧ msx (co w v) y.2.2.2.2 (r T)) (fun (d : Int32 × Int32 × sg) => d.1 = Int32.ofNat (r N).2.2.1 ∧ d.2.1 = Int32.ofNat (r N).2.2.2 ∧ k67 σ d.2.2) (x := (Int32.ofNat (l0N w v), 0, 0, 0, τ0)) ⟨by rw [hrd]; rfl, by rw [hrd]; rfl, by rw [hrd]; rfl, rfl, k0, fun h hh => Or.inl ⟨s3 h hh, by rw [hrd]; rfl⟩⟩ (fun T y hT hy => by
    obtain ⟨l, wt, ov, m, τ⟩ := y
    obtain ⟨y1, y2, y3, y4, y5, y6⟩ := hy
    simp only at y1 y2 y3 y4 y5 y6
    subst y1 y2 y3 y4
    have hP := n4 T hT
    have hs : (r T).1 < 256 := Nat.lt_of_le_of_lt (sbs_le hP.1) l0_lt
    unfold f_X12_rings_b40
    simp only [on_z (show (r T).1 < 2147483648 by omega)]
    by_cases e : T = N
    · right
      subst e
      rw [if_pos n2]
      exact ⟨_, rfl, rfl, rfl, y5⟩
    · left
      have hTN : T < N := by omega
      rw [if_neg (n3 T hTN)]
      have hct := ct_l (q := ((r T).1).testBit) 8
      obtain ⟨τ1, e1, e2, e3⟩ := M_min (ρ := ρ) hv (p2 := p2) (p3 := p3) (key := key T) (P := P) (mi := T) (by omega) (fun τ S h1 h2 h3 h4 => hbest T τ S (by omega) h1 h2 h3 h4) (S0 := τ) (ct ((r T).1).testBit 8) (r T).1 (r T) τ am_fuel rfl hs sbs_rf hP y6 (wS_k67 H y5) (fun x hx => by rw [y5 118 (by decide) (by decide)]; exact hP8 x hx) (Nat.lt_of_le_of_lt hct (by decide))
      have hpr : prc (hmb (hmN w)) (co w v) (key T) T (ct ((r T).1).testBit 8) (r T).1 (r T) = r (T + 1) := by
        have : r (T + 1) = prc (hmb (hmN w)) (co w v) (key T) T 8 (r T).1 (r T) := by rw [hrd]; rfl
        rw [this]
        exact prc_sub (ct ((r T).1).testBit 8) (r T).1 (r T) (r T).1 8 hs (Nat.le_refl _) hct sbs_rf hP.2.2.1 (fun x h1 h2 => by rw [h1] at h2; cases h2)
      rw [hpr] at e1 e2
      rw [e1]
      simp only [bnd, on_s]
      exact ⟨_, rfl, hTN, rfl, rfl, rfl, rfl, fun o h1 h2 => (e3 o h1 h2).trans (y5 o h1 h2), e2⟩) (by omega)
  unfold f_X12_rings
  rw [s1, bnd, M_ringing H0 hv, bnd, d1, bnd, d2, d3]
  by_cases z : p3 = 0
  · rw [if_pos z, if_pos z]; exact ⟨d.2.2, rfl, d4⟩
  · rw [if_neg z, if_neg z]; exact ⟨d.2.2, rfl, d4⟩
theorem k67_ag2 {τ : sg} (h : k67 σ τ) : ag2 σ τ := ⟨fun o j e => by
  obtain ⟨h1, h2⟩ := es_2 e (a := 116) (b := 117) rfl rfl
  rw [h o h1 h2], h 122 (by decide) (by decide)⟩
theorem two_of {p : Int32} (h : ¬ (p < 0 ∨ 1 < p)) : p = 0 ∨ p = 1 := by
  have h1 : ¬ p < 0 := fun z => h (Or.inl z)
  have h2 : ¬ 1 < p := fun z => h (Or.inr z)
  obtain ⟨m, hm, rfl⟩ := i_of h1
  have : ¬ 1 < m := fun z => h2 ((on_lt (a := 1) (by decide) hm).mpr z)
  have : m = 0 ∨ m = 1 := by omega
  rcases this with rfl | rfl
  · exact Or.inl rfl
  · exact Or.inr rfl
theorem q_six (I : Iv σ ρ t u w wi) (p q : Int32) : Rq σ ρ w [(0, 1), (3, 2)] (f_X11_six (σ, ρ) 0 p q) (fun S => f_X12_six S 105 p q) := by
  have hW := (wv_W I.2.2.1).2
  rcases dic (nW w) p with ⟨v, hv, rfl⟩ | hp
  · by_cases hq : q < 0 ∨ 1 < q
    · refine Rq_t (k := 3) (b := 0) (c := 2) (σ1 := σ) ?_ ag_rf rfl (by decide) (fun σ' H => ?_)
      · unfold f_X11_six
        rw [c_nW0 I hv, thV_n]
        have : f_X11_needSixWhat (σ, ρ) 0 q = some (.inr 3, (σ, ρ)) := by
          unfold f_X11_needSixWhat
          rw [if_neg (fun z => by subst z; revert hq; decide), if_neg (fun z => by subst z; revert hq; decide)]
        rw [this, thV_x]
      · unfold f_X12_six
        simp only [M_nW0 H hv, bnd, th0, if_true, in_e]
        rw [if_pos hq]
        simp only [bnd, if_true, th1, i10, if_false, zz]
    · have hq2 := two_of hq
      obtain ⟨F, hF1, hF2⟩ := turn_F (Iv_t I)
      obtain ⟨N, n1, n2, n3, n4⟩ := rSx_end (hm := hmb (hmN w)) (C := co w v) (key := fun T x => F x v (Int32.ofNat T)) (L0 := l0N w v) (co_16 I.2.2.1) (fun x hx => co_1 I.2.2.1 hx) l0_lt
      obtain ⟨τ, c1, c2, c3⟩ := c_law6 (Iv_t I) hv hF1 n1 n2 n3 n4
      refine Rq_r (r := if q = 0 then Int32.ofNat (rSx (hmb (hmN w)) (co w v) (fun T x => F x v (Int32.ofNat T)) (sx0 w v) N).2.2.1 else Int32.ofNat (rSx (hmb (hmN w)) (co w v) (fun T x => F x v (Int32.ofNat T)) (sx0 w v) N).2.2.2) (σ1 := τ) ?_ c2 (fun σ' H0 => ?_)
      · unfold f_X11_six
        rw [c_nW0 I hv, thV_n]
        have : f_X11_needSixWhat (σ, ρ) 0 q = some (.inl none, (σ, ρ)) := by
          unfold f_X11_needSixWhat
          rcases hq2 with rfl | rfl
          · rw [if_pos rfl]
          · rw [if_neg (by decide), if_pos rfl]
        rw [this, thV_n]
        simp only [rd_six I.1, c_now I, bnd, c1]
        rcases hq2 with rfl | rfl
        · rw [if_pos rfl, if_pos rfl, c3.2.1]
        · rw [if_neg (by decide), if_neg (by decide), c3.2.2.1]
      · have H := wS_z H0
        obtain ⟨τ2, m1, m2⟩ := M_rings H hv (p2 := 0) (p3 := q) (key := fun T x => F x v (Int32.ofNat T)) (P := fun x => am_u2 σ' 105 0 0 118 x) (fun _ _ => rfl) (fun mi τ S _ h1 _ h3 h4 => M_bestL h1 hv hF2 h3 (fun x hx => (l0_H I.2.2.1 (h4 x hx)).1)) n1 n2 n3 n4
        refine ⟨τ2, ?_, ag2_tr ag2_z (k67_ag2 m2), by rw [m2 105 (by decide) (by decide)]; exact u2_eq⟩
        unfold f_X12_six
        simp only [M_nW0 H hv, bnd, th0, if_true, in_e]
        rw [if_neg hq]
        simp only [bnd, i10, if_false, th0, if_true, m1]
  · refine Rq_t (k := 0) (b := 0) (c := 1) (σ1 := σ) ?_ ag_rf rfl (by decide) (fun σ' H => ?_)
    · unfold f_X11_six
      rw [c_nW1 I hp, thV_x]
    · unfold f_X12_six
      simp only [M_nW1 H hp, bnd, th1, i10, if_false, zz]
end SD
