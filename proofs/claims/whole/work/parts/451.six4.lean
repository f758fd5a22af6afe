section SA
variable {σ : sg} {ρ : rg} {t u : Nat} {w wi : wg}
def hmN (w : wg) (h : Nat) : Nat := bm (hm w h) (nH w)
def l0N (w : wg) (v : Nat) : Nat := bm (fun h => decide (wx w h v ≠ 0)) 8
theorem hmN_lt (hw : wv w) (h : Nat) : hmN w h < 256 := by
  have := bm_lt (q := hm w h) (nH w)
  have hH := (wv_H hw).2
  have : 2 ^ nH w ≤ 2 ^ 8 := Nat.pow_le_pow_right (by decide) hH
  unfold hmN
  omega
theorem mn_16 {n : Nat} (h : n < 512) : mnN n ≤ 16 := by
  have h1 : (List.range 512).all (fun n => decide (mnN n ≤ 16)) = true := by decide +kernel
  have h2 := List.all_eq_true.mp h1 n (List.mem_range.mpr h)
  exact of_decide_eq_true h2
theorem co_16 (hw : wv w) {v : Nat} (x : Nat) : co w v x ≤ 16 := mn_16 (wx_lt hw)
theorem co_1 (hw : wv w) {v x : Nat} (h : (l0N w v).testBit x = true) : 1 ≤ co w v x := by
  unfold l0N at h
  rw [bm_tb, Bool.and_eq_true, decide_eq_true_eq, decide_eq_true_eq] at h
  have h1 : (List.range 512).all (fun n => decide (n < 2) || decide (1 ≤ mnN n)) = true := by decide +kernel
  have h2 := List.all_eq_true.mp h1 (wx w x v) (List.mem_range.mpr (wx_lt hw))
  have h3 := wx_1 hw (a := x) (v := v)
  have : ¬ wx w x v < 2 := by have := h.2; omega
  simp only [this, decide_false, Bool.false_or, decide_eq_true_eq] at h2
  exact h2
theorem l0_lt {v : Nat} : l0N w v < 256 := bm_lt 8
theorem l0_H (hw : wv w) {v x : Nat} (h : (l0N w v).testBit x = true) : x < nH w ∧ x < 8 := by
  unfold l0N at h
  rw [bm_tb, Bool.and_eq_true, decide_eq_true_eq, decide_eq_true_eq] at h
  exact ⟨(wx_ne h.2).1, h.1⟩
def k5 (σ τ : sg) : Prop := ∀ o, o < 89 ∨ 93 < o → τ o = σ o
theorem k5_ag {τ : sg} (h : k5 σ τ) : ag σ τ := fun o j e => by
  rw [h o]
  apply Classical.byContradiction
  intro q
  have : o = 89 ∨ o = 90 ∨ o = 91 ∨ o = 92 ∨ o = 93 := by omega
  rcases this with rfl | rfl | rfl | rfl | rfl <;> (rw [es_0 rfl] at e; cases e)
theorem c_prep6 (H : tS σ ρ t w) {v : Nat} (hv : v < nW w) : ∃ τ, f_X8_prepare (σ, ρ) 89 t (Int32.ofNat v) = some τ ∧ k5 σ τ ∧ csx (hmN w) (co w v) τ (l0N w v, fun _ => 0, 0, 0) ∧ ∀ h, h < 8 → τ 90 h = 0 := by
  have hW := (wv_W H.2.2.2).2
  obtain ⟨a, b, hr⟩ := H.1
  obtain ⟨σ0, hσ0⟩ : ∃ x, x = am_u2 (am_u2 (am_u2 σ 89 4 0) 89 5 0) 89 6 0 := ⟨_, rfl⟩
  have r0 : ∀ o, o ≠ 89 → σ0 o = σ o := fun o h => by rw [hσ0, u2_row h, u2_row h, u2_row h]
  have f4 : σ0 89 4 = 0 := by rw [hσ0, u2_nj (by decide), u2_nj (by decide), u2_eq]
  have f5 : σ0 89 5 = 0 := by rw [hσ0, u2_nj (by decide), u2_eq]
  have f6 : σ0 89 6 = 0 := by rw [hσ0, u2_eq]
  obtain ⟨d, d1, d2, d3, d4, d5, d6⟩ := lp_rule (body := f_X8_prepare_b17 (σ0, ρ) 89 t (Int32.ofNat v)) 8 (fun k y => y.1 = Int32.ofNat k ∧ k5 σ y.2 ∧ y.2 89 4 = Int32.ofNat (bm (fun h => decide (wx w h v ≠ 0)) k) ∧ y.2 89 5 = 0 ∧ y.2 89 6 = 0 ∧ ∀ h, h < k → y.2 90 h = 0 ∧ y.2 91 h = Int32.ofNat (hmN w h) ∧ y.2 92 h = Int32.ofNat (co w v h) ∧ y.2 93 h = 0) (fun (d : sg) => k5 σ d ∧ d 89 4 = Int32.ofNat (l0N w v) ∧ d 89 5 = 0 ∧ d 89 6 = 0 ∧ ∀ h, h < 8 → d 90 h = 0 ∧ d 91 h = Int32.ofNat (hmN w h) ∧ d 92 h = Int32.ofNat (co w v h) ∧ d 93 h = 0) (x := (0, σ0)) ⟨rfl, fun o ho => r0 o (by omega), f4, f5, f6, fun h hh => by omega⟩ (fun k y hk hy => by
    obtain ⟨i, τ⟩ := y
    obtain ⟨rfl, y1, y2, y3, y4, y5⟩ := hy
    simp only at y1 y2 y3 y4 y5
    have H' := tS_ag H (k5_ag y1)
    unfold f_X8_prepare_b17
    simp only
    by_cases e : k < 8
    · left
      have hx := wx_lt H.2.2.2 (a := k) (v := v)
      have hmi : f_X11_minutesOf (zw (wx w k v)) = some (Int32.ofNat (co w v k)) := by
        unfold co
        by_cases z : wx w k v = 0
        · rw [z, zw_0, w_min0]; rfl
        · rw [zw_p z, (w_min (show wx w k v < 1024 by omega)).2.1]
      rw [if_pos (show Int32.ofNat k < 8 from (on_lt (b := 8) (by omega) (by decide)).mpr e), c_wf H' (by omega) (by omega), bnd, rd_x1 hr, bnd, c_harmed H' (by omega), bnd, st_on (by rw [ln_91]; omega) (by omega), bnd, rd_x2 hr, bnd, hmi, bnd, st_on (by rw [ln_92]; omega) (by omega), bnd, rd_x3 hr, bnd, st_on (by rw [ln_93]; omega) (by omega), bnd, rd_x0 hr, bnd, st_on (by rw [ln_90]; omega) (by omega), bnd]
      obtain ⟨τ1, hτ1⟩ : ∃ x, x = am_u2 (am_u2 (am_u2 (am_u2 τ 91 k (Int32.ofNat (bm (hm w k) (nH w)))) 92 k (Int32.ofNat (co w v k))) 93 k 0) 90 k 0 := ⟨_, rfl⟩
      rw [← hτ1]
      have k1 : k5 τ τ1 := fun o ho => by rw [hτ1, u2_row (by omega), u2_row (by omega), u2_row (by omega), u2_row (by omega)]
      have k89 : ∀ j, τ1 89 j = τ 89 j := fun j => by rw [hτ1, u2_ne (by decide), u2_ne (by decide), u2_ne (by decide), u2_ne (by decide)]
      have new : ∀ h, h < k + 1 → τ1 90 h = 0 ∧ τ1 91 h = Int32.ofNat (hmN w h) ∧ τ1 92 h = Int32.ofNat (co w v h) ∧ τ1 93 h = 0 := fun h hh => by
        by_cases z : h = k
        · subst z
          rw [hτ1]
          exact ⟨u2_eq, by rw [u2_ne (by decide), u2_ne (by decide), u2_ne (by decide), u2_eq]; rfl, by rw [u2_ne (by decide), u2_ne (by decide), u2_eq], by rw [u2_ne (by decide), u2_eq]⟩
        · rw [hτ1, u2_nj z, u2_nj z, u2_nj z, u2_nj z, u2_nj z, u2_nj z, u2_nj z, u2_nj z, u2_nj z, u2_nj z, u2_nj z, u2_nj z, u2_nj z, u2_nj z, u2_nj z, u2_nj z]
          exact y5 h (by omega)
      have hb : bm (fun h => decide (wx w h v ≠ 0)) (k + 1) = bm (fun h => decide (wx w h v ≠ 0)) k + (if decide (wx w k v ≠ 0) = true then 2 ^ k else 0) := rfl
      by_cases z : wx w k v = 0
      · rw [if_pos ((zw_m (by omega)).mpr z)]
        simp only [bnd, on_s]
        refine ⟨_, rfl, e, rfl, fun o ho => (k1 o ho).trans (y1 o ho), ?_, ?_, ?_, new⟩
        · show τ1 89 4 = _
          rw [k89, y2, hb]; simp [z]
        · show τ1 89 5 = _
          rw [k89, y3]
        · show τ1 89 6 = _
          rw [k89, y4]
      · rw [if_neg (fun q => z ((zw_m (by omega)).mp q)), k89, y2, shl1 (by omega), on_or, bm_or]
        simp only [bnd, on_s]
        refine ⟨_, rfl, e, rfl, fun o ho => ?_, ?_, ?_, ?_, fun h hh => ?_⟩
        · show am_u2 τ1 89 4 _ o = _
          rw [u2_row (by omega), k1 o ho, y1 o ho]
        · show am_u2 τ1 89 4 (Int32.ofNat (bm (fun h => decide (wx w h v ≠ 0)) k + 2 ^ k)) 89 4 = _
          rw [u2_eq, hb]; simp [z]
        · show am_u2 τ1 89 4 (Int32.ofNat (bm (fun h => decide (wx w h v ≠ 0)) k + 2 ^ k)) 89 5 = _
          rw [u2_nj (by decide), k89, y3]
        · show am_u2 τ1 89 4 (Int32.ofNat (bm (fun h => decide (wx w h v ≠ 0)) k + 2 ^ k)) 89 6 = _
          rw [u2_nj (by decide), k89, y4]
        · show am_u2 τ1 89 4 (Int32.ofNat (bm (fun h => decide (wx w h v ≠ 0)) k + 2 ^ k)) 90 h = 0 ∧ am_u2 τ1 89 4 (Int32.ofNat (bm (fun h => decide (wx w h v ≠ 0)) k + 2 ^ k)) 91 h = _ ∧ am_u2 τ1 89 4 (Int32.ofNat (bm (fun h => decide (wx w h v ≠ 0)) k + 2 ^ k)) 92 h = _ ∧ am_u2 τ1 89 4 (Int32.ofNat (bm (fun h => decide (wx w h v ≠ 0)) k + 2 ^ k)) 93 h = _
          rw [u2_ne (by decide), u2_ne (by decide), u2_ne (by decide), u2_ne (by decide)]
          exact new h hh
    · right
      have : k = 8 := by omega
      subst this
      rw [if_neg (by decide)]
      exact ⟨_, rfl, y1, y2, y3, y4, y5⟩) (by decide)
  unfold f_X8_prepare
  simp only
  rw [← hσ0, d1, bnd]
  exact ⟨d, rfl, d2, ⟨d3, d4, d5, fun h hh => ⟨(d6 h hh).2.1, (d6 h hh).2.2.1, (d6 h hh).2.2.2⟩⟩, fun h hh => (d6 h hh).1⟩
/-- a minute of the class -/
theorem c_minute {a b : Nat} (hr : rh ρ a b) {hm C : Nat → Nat} (hh : ∀ h, hm h < 256) (hC : ∀ x, C x ≤ 16) {key : Nat → Int32} {L0 T : Nat} (hL0 : L0 < 256) (hT : T < 1000) {τ : sg} {s : sxT} (hP : pI L0 C T s) (hc : csx hm C τ s) (ht : ∀ x, x < 8 → (rdyN hm s T).testBit x = true → τ 90 x = key x) : ∃ τ', f_X8_ringReady (τ, ρ) 89 (Int32.ofNat (rdyN hm s T)) (Int32.ofNat T) = some τ' ∧ csx hm C τ' (prc (hmb hm) C key T 8 s.1 s) ∧ k89 τ τ' := by
  have hs : s.1 < 256 := Nat.lt_of_le_of_lt (sbs_le hP.1) hL0
  have hR : rdyN hm s T < 2 ^ 8 := bm_lt 8
  have hRs : sbs (rdyN hm s T) s.1 := fun i hi => by
    unfold rdyN at hi
    rw [bm_tb, Bool.and_eq_true, Bool.and_eq_true] at hi
    exact hi.2.1
  have hct := ct_10 hR (by decide)
  have hbc := (bc_n (m := rdyN hm s T) (by omega)).1
  rw [hct] at hbc
  have hl := ct_l (q := (rdyN hm s T).testBit) 8
  obtain ⟨τ', a1, a2, a3⟩ := c_ringR hr hh hC (key := key) hL0 hT (S0 := τ) (ct (rdyN hm s T).testBit 8) (rdyN hm s T) s τ am_fuel rfl hR hRs hP hc ht (Nat.lt_of_le_of_lt hl (by decide))
  refine ⟨τ', ?_, ?_, a3⟩
  · unfold f_X8_ringReady
    rw [hbc, bnd]
    simp only
    rw [a1, bnd]
  · rw [prc_sub 8 s.1 s (rdyN hm s T) (ct (rdyN hm s T).testBit 8) hs (ct_l 8) (Nat.le_refl _) hRs hP.2.2.1 (fun x h1 h2 => by
      unfold rdyN at h2
      rw [bm_tb, h1, decide_eq_true (tb_lt (n := 8) hs h1), Bool.true_and, Bool.true_and] at h2
      exact h2)]
    exact a2
end SA
