section SE
variable {σ : sg} {ρ : rg} {t u : Nat} {w wi : wg}
def nb (S p : Nat) : Nat := fd id 0 (ff (fun k => S.testBit k && decide (ct S.testBit k = p)) 0 8)
theorem nb_p {S p : Nat} (hp : p < ct S.testBit 8) : nb S p < 8 ∧ S.testBit (nb S p) = true ∧ ct S.testBit (nb S p) = p ∧ ff (fun k => S.testBit k && decide (ct S.testBit k = p)) 0 8 = some (nb S p) ∧ ∀ k, k < nb S p → (S.testBit k && decide (ct S.testBit k = p)) = false := by
  obtain ⟨i, a, b, c⟩ := ct_sur hp
  unfold nb
  cases e : ff (fun k => S.testBit k && decide (ct S.testBit k = p)) 0 8 with
  | none =>
    have := ff_none.mp e i (Nat.zero_le _) (by omega)
    simp [b, c] at this
  | some k =>
    obtain ⟨-, h2, h3, h4⟩ := ff_some.mp e
    simp only [Bool.and_eq_true, decide_eq_true_eq] at h3
    exact ⟨by show k < 8; omega, h3.1, h3.2, rfl, fun j hj => h4 j (Nat.zero_le _) hj⟩
theorem c_at {S p : Nat} (hS : S < 256) (hp : p < ct S.testBit 8) : f_X8_houseAt (Int32.ofNat S) (Int32.ofNat p) = some (Int32.ofNat (nb S p)) := by
  obtain ⟨n1, n2, n3, n4, n5⟩ := nb_p hp
  have hl := ct_l (q := S.testBit) 8
  have key := lp_ff (body := f_X8_houseAt_b4 (Int32.ofNat S) (Int32.ofNat p)) (fun k => (Int32.ofNat (ct S.testBit k), Int32.ofNat k)) (fun k => S.testBit k && decide (ct S.testBit k = p)) (fun k => Sum.inr (Int32.ofNat k)) (Sum.inr 0) 8 (x := (0, 0)) rfl (fun k hk => by
    unfold f_X8_houseAt_b4
    have hlk := ct_l (q := S.testBit) k
    simp only
    rw [if_pos (show Int32.ofNat k < 8 from (on_lt (b := 8) (by omega) (by decide)).mpr hk)]
    simp only [on_bit (show S < 1024 by omega) (show k < 11 by omega), on_inj (show ct S.testBit k < 2147483648 by omega) (show p < 2147483648 by omega), on_s, ct_s]
    cases S.testBit k
    · simp
    · by_cases z : ct S.testBit k = p <;> simp [z]) (fun _ => by
    unfold f_X8_houseAt_b4
    simp only
    rw [if_neg (by decide)]) (by decide)
  unfold f_X8_houseAt
  rw [key, n4, bnd]
  rfl
theorem M_at {S p : Nat} (hS : S < 256) (hp : p < ct S.testBit 8) {τ : sg} {a1 a3 a5 : Int32} : am_loop (f_X12_lot_b76 (τ, ρ) 105 a1 a3 (Int32.ofNat S) a5) am_fuel (Int32.ofNat p, 0) = some (Int32.ofNat (nb S p)) := by
  obtain ⟨n1, n2, n3, n4, n5⟩ := nb_p hp
  have hl := ct_l (q := S.testBit) 8
  refine lp_for (nb S p) (fun k => (Int32.ofNat (p - ct S.testBit k), Int32.ofNat k)) rfl (fun k hk => ?_) ?_ (by omega)
  · have hle : ct S.testBit k ≤ p := by rw [← n3]; exact ct_mn (by omega)
    unfold f_X12_lot_b76
    simp only
    rw [f_has (by omega) (by omega)]
    simp only [bnd, bi_f, on_s, ct_s]
    cases z : S.testBit k with
    | false =>
      simp only [if_neg (show ¬ false = true by decide), bnd]
      rw [show (0 : Int32) = Int32.ofNat 0 from rfl, on_sub (Nat.zero_le _), Nat.sub_zero]
      rfl
    | true =>
      have hne : ct S.testBit k ≠ p := fun q => by have := n5 k hk; simp [z, q] at this
      rw [if_pos rfl, if_pos ((on_pos (by omega)).mpr (by omega))]
      simp only [if_true, bnd]
      rw [show (1 : Int32) = Int32.ofNat 1 from rfl, on_sub (by omega), Nat.sub_sub]
  · unfold f_X12_lot_b76
    simp only
    rw [f_has (by omega) (by omega), n2, n3, Nat.sub_self]
    simp only [bnd, bi_f]
    rw [if_pos trivial, if_neg (by decide)]
abbrev dsT : Type := Int32 × Nat × (Nat → Nat)
def dst1 (j : Nat) (s : dsT) : dsT := (sd s.1, rmb s.2.1 (nb s.2.1 (dN (sd s.1) % ct s.2.1.testBit 8)), up1 s.2.2 (nb s.2.1 (dN (sd s.1) % ct s.2.1.testBit 8)) j)
def dsn (s0 : dsT) : Nat → dsT
  | 0 => s0
  | j + 1 => dst1 j (dsn s0 j)
theorem dsn_I {L0 : Nat} {sd0 : Int32} (hL0 : L0 < 256) : ∀ j, j ≤ ct L0.testBit 8 → sbs (dsn (sd0, L0, fun _ => 0) j).2.1 L0 ∧ ct (dsn (sd0, L0, fun _ => 0) j).2.1.testBit 8 + j = ct L0.testBit 8 ∧ ∀ x, L0.testBit x = true → (dsn (sd0, L0, fun _ => 0) j).2.1.testBit x = false → (dsn (sd0, L0, fun _ => 0) j).2.2 x < j
  | 0, _ => ⟨sbs_rf, rfl, fun x h1 h2 => by
    have h2' : L0.testBit x = false := h2
    rw [h1] at h2'; cases h2'⟩
  | j + 1, hj => by
    obtain ⟨a, b, c⟩ := dsn_I (sd0 := sd0) hL0 j (by omega)
    obtain ⟨s, hs⟩ : ∃ s, s = dsn (sd0, L0, fun _ => 0) j := ⟨_, rfl⟩
    have e : dsn (sd0, L0, fun _ => 0) (j + 1) = dst1 j s := by rw [hs]; rfl
    rw [← hs] at a b c
    rw [e]
    have hp : dN (sd s.1) % ct s.2.1.testBit 8 < ct s.2.1.testBit 8 := Nat.mod_lt _ (by omega)
    obtain ⟨n1, n2, n3, n4, n5⟩ := nb_p hp
    unfold dst1
    obtain ⟨h, hh⟩ : ∃ h, h = nb s.2.1 (dN (sd s.1) % ct s.2.1.testBit 8) := ⟨_, rfl⟩
    rw [← hh] at n1 n2 ⊢
    refine ⟨fun i hi => ?_, ?_, fun x h1 h2 => ?_⟩
    · have hi' : (rmb s.2.1 h).testBit i = true := hi
      rw [rmb_tb, Bool.and_eq_true] at hi'
      exact a i hi'.1
    · show ct (rmb s.2.1 h).testBit 8 + (j + 1) = _
      have := rmb_c1 n1 n2
      omega
    · have h2' : (rmb s.2.1 h).testBit x = false := h2
      rw [rmb_tb] at h2'
      show up1 s.2.2 h j x < j + 1
      by_cases z : x = h
      · subst z; rw [up1_eq]; omega
      · rw [up1_ne z]
        have : s.2.1.testBit x = false := by simpa [z] using h2'
        have := c x h1 this
        omega
theorem ds_end {L0 : Nat} {sd0 : Int32} (hL0 : L0 < 256) : (dsn (sd0, L0, fun _ => 0) (ct L0.testBit 8)).2.1 = 0 := by
  obtain ⟨a, b, -⟩ := dsn_I (sd0 := sd0) hL0 (ct L0.testBit 8) (Nat.le_refl _)
  exact no_bits (fun i => by
    cases e : (dsn (sd0, L0, fun _ => 0) (ct L0.testBit 8)).2.1.testBit i with
    | false => rfl
    | true =>
      have := ct_up e (tb_lt (n := 8) hL0 (a i e))
      omega)
/-- the class draws -/
theorem c_draws {a b : Nat} (hr : rh ρ a b) {L0 : Nat} (hL0 : L0 < 256) {sd0 : Int32} (h4 : σ 89 4 = Int32.ofNat L0) : ∃ τ, f_X8_drawTurns (σ, ρ) 89 sd0 = some τ ∧ (∀ o, o ≠ 90 → τ o = σ o) ∧ ∀ x, L0.testBit x = true → τ 90 x = Int32.ofNat (ct L0.testBit 8 - (dsn (sd0, L0, fun _ => 0) (ct L0.testBit 8)).2.2 x) := by
  have hl := ct_l (q := L0.testBit) 8
  have hbc := (bc_n (m := L0) (by omega)).1
  rw [ct_10 (n := 8) hL0 (by decide)] at hbc
  have hend := ds_end (sd0 := sd0) hL0
  obtain ⟨M, hM⟩ : ∃ M, M = ct L0.testBit 8 := ⟨_, rfl⟩
  obtain ⟨D, hD⟩ : ∃ D, D = dsn (sd0, L0, fun _ => 0) := ⟨_, rfl⟩
  rw [← hM] at hbc hend hl ⊢
  rw [← hD] at hend ⊢
  obtain ⟨τ, d1, d2, d3⟩ := lp_rule (body := f_X8_drawTurns_b16 (σ, ρ) 89) M (fun j y => y.1 = (D j).1 ∧ y.2.1 = Int32.ofNat (D j).2.1 ∧ y.2.2.1 = Int32.ofNat (M - j) ∧ (∀ o, o ≠ 90 → y.2.2.2 o = σ o) ∧ ∀ x, L0.testBit x = true → (D j).2.1.testBit x = false → y.2.2.2 90 x = Int32.ofNat (M - (D j).2.2 x)) (fun (d : sg) => (∀ o, o ≠ 90 → d o = σ o) ∧ ∀ x, L0.testBit x = true → d 90 x = Int32.ofNat (M - (D M).2.2 x)) (x := (sd0, Int32.ofNat L0, Int32.ofNat M, σ)) ⟨by rw [hD]; rfl, by rw [hD]; rfl, rfl, fun _ _ => rfl, fun x h1 h2 => by
      rw [hD] at h2
      have h2' : L0.testBit x = false := h2
      rw [h1] at h2'; cases h2'⟩ (fun j y hj hy => by
    obtain ⟨s, un, m, τ⟩ := y
    obtain ⟨y1, y2, y3, y4, y5⟩ := hy
    simp only at y1 y2 y3 y4 y5
    subst y1 y2 y3
    unfold f_X8_drawTurns_b16
    simp only
    by_cases e : j < M
    · left
      obtain ⟨a1, a2, a3⟩ := dsn_I (sd0 := sd0) hL0 j (by omega)
      rw [← hM, ← hD] at a2
      rw [← hD] at a1 a3
      have hS : (D j).2.1 < 256 := Nat.lt_of_le_of_lt (sbs_le a1) hL0
      have hct : M - j = ct (D j).2.1.testBit 8 := by omega
      have hp : dN (sd (D j).1) % ct (D j).2.1.testBit 8 < ct (D j).2.1.testBit 8 := Nat.mod_lt _ (by omega)
      obtain ⟨n1, n2, n3, n4, n5⟩ := nb_p hp
      have hst : D (j + 1) = dst1 j (D j) := by rw [hD]; rfl
      rw [if_pos ((on_pos (by omega)).mpr (by omega)), f_sd, bnd, f_dv, bnd, if_neg (fun z => by have := (on_z (show M - j < 2147483648 by omega)).mp z; omega), dv_mod _ (by omega), hct, c_at hS hp, bnd, rd_x0 hr, bnd, st_on (by rw [ln_90]; omega) (by omega), bnd, shl1 (by omega), andy]
      rw [hst]
      unfold dst1
      refine ⟨_, rfl, e, rfl, rfl, ?_, fun o ho => ?_, fun x h1 h2 => ?_⟩
      · show Int32.ofNat (ct (D j).2.1.testBit 8) + (-1) = _
        rw [← hct, ← on_m, on_p (by omega)]
        rfl
      · show am_u2 τ 90 _ _ o = _
        rw [u2_row ho, y4 o ho]
      · show am_u2 τ 90 (nb (D j).2.1 (dN (sd (D j).1) % ct (D j).2.1.testBit 8)) (Int32.ofNat (ct (D j).2.1.testBit 8)) 90 x = Int32.ofNat (M - up1 (D j).2.2 (nb (D j).2.1 (dN (sd (D j).1) % ct (D j).2.1.testBit 8)) j x)
        have h2' : (rmb (D j).2.1 (nb (D j).2.1 (dN (sd (D j).1) % ct (D j).2.1.testBit 8))).testBit x = false := h2
        rw [rmb_tb] at h2'
        by_cases z : x = nb (D j).2.1 (dN (sd (D j).1) % ct (D j).2.1.testBit 8)
        · rw [← z, u2_eq, up1_eq, hct]
        · rw [u2_nj z, up1_ne z]
          exact y5 x h1 (by simpa [z] using h2')
    · right
      have : j = M := by omega
      subst this
      rw [Nat.sub_self, if_neg (by decide)]
      exact ⟨_, rfl, y4, fun x h1 => y5 x h1 (by rw [hend, Nat.zero_testBit])⟩) (by omega)
  refine ⟨τ, ?_, d2, d3⟩
  unfold f_X8_drawTurns
  simp only [h4]
  rw [hbc, bnd, d1, bnd]
end SE
