section SB
variable {σ : sg} {ρ : rg} {t u : Nat} {w wi : wg}
abbrev sx0 (w : wg) (v : Nat) : sxT := (l0N w v, fun _ => 0, 0, 0)
def kt (t : Nat) (σ τ : sg) : Prop := ∀ o j, ¬ (o = t + 9 ∧ j = 7) → o ≠ t + 13 → o ≠ t + 14 → o ≠ 90 → τ o j = σ o j
theorem kt_ag {σ τ : sg} (ht : tn t) (h : kt t σ τ) : ag σ τ := fun o j e => by
  refine h o j ?_ ?_ ?_ ?_
  · rintro ⟨rfl, rfl⟩
    rcases ht with rfl | rfl | rfl <;> (revert e; decide)
  · rintro rfl; rw [es_0 (es_t ht).2.2.2.2.2.2.2.2.2.2.2.2.2.1] at e; cases e
  · rintro rfl; rw [es_0 (es_t ht).2.2.2.2.2.2.2.2.2.2.2.2.2.2.1] at e; cases e
  · rintro rfl; rw [es_0 rfl] at e; cases e
theorem k89_ag {τ : sg} (h : k89 σ τ) : ag σ τ := fun o j e => by
  obtain ⟨h1, h2⟩ := es_2 e (a := 89) (b := 93) rfl rfl
  rw [h o h1 h2]
theorem csx_cg {hm C : Nat → Nat} {τ τ' : sg} {s : sxT} (h : ∀ o j, o = 89 ∨ o = 91 ∨ o = 92 ∨ o = 93 → τ' o j = τ o j) (g : csx hm C τ s) : csx hm C τ' s :=
  ⟨by rw [h 89 4 (by omega)]; exact g.1, by rw [h 89 5 (by omega)]; exact g.2.1, by rw [h 89 6 (by omega)]; exact g.2.2.1, fun x hx => ⟨by rw [h 91 x (by omega)]; exact (g.2.2.2 x hx).1, by rw [h 92 x (by omega)]; exact (g.2.2.2 x hx).2.1, by rw [h 93 x (by omega)]; exact (g.2.2.2 x hx).2.2⟩⟩
/-- the turns of those that are ready -/
theorem c_turns (H : tS σ ρ t w) {v : Nat} (hv : v < nW w) {F : Nat → Nat → Int32 → Int32} (hF : ∀ (τ : sg) (h v : Nat) (mi : Int32), ag σ τ → h < nH w → v < nW w → ∃ τ', f_X1_turnOf (τ, ρ) (t + 9) t (Int32.ofNat h) (Int32.ofNat v) mi = some (F h v mi, τ') ∧ kz3 t τ τ') {τ : sg} (g : ag σ τ) {R T : Nat} (hR : R < 256) (hRH : ∀ x, R.testBit x = true → x < nH w) : ∃ τ', am_loop (f_X8_runByLaw_b32 (τ, ρ) 89 t (Int32.ofNat v) (Int32.ofNat T) (Int32.ofNat R)) am_fuel (0, τ) = some τ' ∧ kt t τ τ' ∧ ∀ x, x < 8 → R.testBit x = true → τ' 90 x = F x v (Int32.ofNat T) := by
  obtain ⟨a, b, hr⟩ := H.1
  have ht := H.2.1
  have t46 : t ≤ 46 := by rcases ht with rfl | rfl | rfl <;> decide
  refine lp_rule 8 (fun k y => y.1 = Int32.ofNat k ∧ kt t τ y.2 ∧ ∀ x, x < k → R.testBit x = true → y.2 90 x = F x v (Int32.ofNat T)) (fun (d : sg) => kt t τ d ∧ ∀ x, x < 8 → R.testBit x = true → d 90 x = F x v (Int32.ofNat T)) (x := (0, τ)) ⟨rfl, fun _ _ _ _ _ _ => rfl, fun x hx => by omega⟩ (fun k y hk hy => ?_) (by decide)
  obtain ⟨i, υ⟩ := y
  obtain ⟨rfl, y1, y2⟩ := hy
  simp only at y1 y2
  unfold f_X8_runByLaw_b32
  simp only
  by_cases e : k < 8
  · left
    rw [if_pos (show Int32.ofNat k < 8 from (on_lt (b := 8) (by omega) (by decide)).mpr e)]
    simp only [on_bit (show R < 1024 by omega) (show k < 11 by omega)]
    by_cases z : R.testBit k = true
    · obtain ⟨τ1, c1, c2⟩ := hF υ k v (Int32.ofNat T) (ag_tr g (kt_ag ht y1)) (hRH k z) hv
      rw [if_pos z, rd_x0 hr, bnd, rd_t hr ht (show (14, 101, 9) ∈ _ by decide), bnd, c1, bnd, st_on (by rw [ln_90]; omega) (by omega)]
      simp only [bnd, on_s]
      refine ⟨_, rfl, e, rfl, fun o j q1 q2 q3 q4 => ?_, fun x hx hxR => ?_⟩
      · show am_u2 τ1 90 k (F k v (Int32.ofNat T)) o j = _
        rw [u2_ne q4, c2 o j q1 q2 q3, y1 o j q1 q2 q3 q4]
      · show am_u2 τ1 90 k (F k v (Int32.ofNat T)) 90 x = _
        by_cases y : x = k
        · subst y; rw [u2_eq]
        · rw [u2_nj y, c2 90 x (by omega) (by omega) (by omega)]; exact y2 x (by omega) hxR
    · rw [if_neg z]
      simp only [bnd, on_s]
      refine ⟨_, rfl, e, rfl, y1, fun x hx hxR => ?_⟩
      have : x ≠ k := fun q => z (q ▸ hxR)
      exact y2 x (by omega) hxR
  · right
    have : k = 8 := by omega
    subst this
    rw [if_neg (by decide)]
    exact ⟨_, rfl, y1, y2⟩
theorem c_law6 (H : tS σ ρ t w) {v : Nat} (hv : v < nW w) {F : Nat → Nat → Int32 → Int32} (hF : ∀ (τ : sg) (h v : Nat) (mi : Int32), ag σ τ → h < nH w → v < nW w → ∃ τ', f_X1_turnOf (τ, ρ) (t + 9) t (Int32.ofNat h) (Int32.ofNat v) mi = some (F h v mi, τ') ∧ kz3 t τ τ') {N : Nat} (n1 : N ≤ 113) (n2 : (rSx (hmb (hmN w)) (co w v) (fun T x => F x v (Int32.ofNat T)) (sx0 w v) N).1 = 0) (n3 : ∀ k, k < N → (rSx (hmb (hmN w)) (co w v) (fun T x => F x v (Int32.ofNat T)) (sx0 w v) k).1 ≠ 0) (n4 : ∀ k, k ≤ N → pI (l0N w v) (co w v) k (rSx (hmb (hmN w)) (co w v) (fun T x => F x v (Int32.ofNat T)) (sx0 w v) k)) : ∃ τ, f_X8_runByLaw (σ, ρ) 89 t (Int32.ofNat v) = some τ ∧ ag σ τ ∧ csx (hmN w) (co w v) τ (rSx (hmb (hmN w)) (co w v) (fun T x => F x v (Int32.ofNat T)) (sx0 w v) N) := by
  obtain ⟨a, b, hr⟩ := H.1
  have ht := H.2.1
  have t46 : t ≤ 46 := by rcases ht with rfl | rfl | rfl <;> decide
  obtain ⟨r, hrd⟩ : ∃ r, r = rSx (hmb (hmN w)) (co w v) (fun T x => F x v (Int32.ofNat T)) (sx0 w v) := ⟨_, rfl⟩
  rw [← hrd] at n2 n3 n4 ⊢
  obtain ⟨τ0, p1, p2, p3, p4⟩ := c_prep6 H hv
  obtain ⟨d, d1, d2, d3⟩ := lp_rule (body := f_X8_runByLaw_b8 (τ0, ρ) 89 t (Int32.ofNat v)) N (fun T y => y.1 = Int32.ofNat T ∧ ag σ y.2 ∧ csx (hmN w) (co w v) y.2 (r T)) (fun (d : sg) => ag σ d ∧ csx (hmN w) (co w v) d (r N)) (x := (0, τ0)) ⟨rfl, k5_ag p2, by rw [hrd]; exact p3⟩ (fun T y hT hy => by
    obtain ⟨i, τ⟩ := y
    obtain ⟨rfl, y1, y2⟩ := hy
    simp only at y1 y2
    have hP := n4 T hT
    have hs : (r T).1 < 256 := Nat.lt_of_le_of_lt (sbs_le hP.1) l0_lt
    have hO : ∀ x, (r T).2.1 x < 100000 := fun x => by have := hP.2.2.1 x; have := co_16 H.2.2.2 (v := v) x; omega
    unfold f_X8_runByLaw_b8
    simp only [y2.1, on_z (show (r T).1 < 2147483648 by omega)]
    rw [if_neg (show ¬ (128 : Int32) < Int32.ofNat T from fun z => by have := (on_lt (a := 128) (by decide) (by omega)).mp z; omega)]
    by_cases e : T = N
    · right
      subst e
      rw [if_pos n2]
      exact ⟨_, rfl, y1, y2⟩
    · left
      have hTN : T < N := by omega
      rw [if_neg (n3 T hTN), c_ready hr (hmN_lt H.2.2.2) y2 hs hO (by omega), bnd]
      have hR : rdyN (hmN w) (r T) T < 256 := bm_lt 8
      obtain ⟨τ1, b1, b2, b3⟩ := c_turns H hv hF y1 (R := rdyN (hmN w) (r T) T) (T := T) hR (fun x hx => by
        unfold rdyN at hx
        rw [bm_tb, Bool.and_eq_true, Bool.and_eq_true] at hx
        exact (l0_H H.2.2.2 (hP.1 x hx.2.1)).1)
      rw [b1, bnd]
      have hc1 : csx (hmN w) (co w v) τ1 (r T) := csx_cg (fun o j ho => b2 o j (by omega) (by omega) (by omega) (by omega)) y2
      obtain ⟨τ2, e1, e2, e3⟩ := c_minute hr (hmN_lt H.2.2.2) (co_16 H.2.2.2) (key := fun x => F x v (Int32.ofNat T)) l0_lt (by omega) hP hc1 b3
      rw [e1, bnd, on_s]
      refine ⟨_, rfl, hTN, rfl, ag_tr (ag_tr y1 (kt_ag ht b2)) (k89_ag e3), ?_⟩
      rw [hrd] at e2 ⊢
      exact e2) (by omega)
  unfold f_X8_runByLaw
  rw [p1, bnd]
  simp only
  rw [d1, bnd]
  exact ⟨d, rfl, d2, d3⟩
end SB
