section TQ
variable {σ : sg} {ρ : rg} {t u : Nat} {w wi : wg}
theorem M_hold (H : wS σ ρ w) {L : Nat} {e s n : Nat → Nat} (hO : lwO w L e s n) {h v : Nat} {mi : Int32} (hh : h < nH w) (hv : v < nW w) {l : Nat} (hl : l < L) (hm : e (l + 1) ≤ e L) : ∃ τ, f_X12_holdsLine (σ, ρ) 105 (Int32.ofNat l) (Int32.ofNat h) (Int32.ofNat v) mi = some (bi (hldL (lfx w h v mi) s n (e l) (e (l + 1))), τ) ∧ k16 σ τ := by
  obtain ⟨o1, o2, o3, o4, o5, o6⟩ := hO
  obtain ⟨p1, p2, p3, p4⟩ := o5 l hl
  obtain ⟨a, b, hr⟩ := H.1
  have e5 : (187 + (3 * Int32.ofNat l)) + 1 = Int32.ofNat (188 + 3 * l) := by
    rw [show (187 : Int32) = Int32.ofNat 187 from rfl, show (3 : Int32) = Int32.ofNat 3 from rfl, on_mul, on_add, on_s]; congr 1; omega
  have hck : ∃ bs', ckn s (e l) (e (l + 1) - e l) [] = some bs' ∧ (e l = e (l + 1) ∨ bs' = [false]) := by
    rcases p4 with z | z
    · rw [← z, Nat.sub_self]; exact ⟨[], rfl, Or.inl rfl⟩
    · exact ⟨[false], z, Or.inr rfl⟩
  obtain ⟨bs', hc1, hc2⟩ := hck
  obtain ⟨τ, a1, a2, a3⟩ := M_lrun (ρ := ρ) (S := σ) (mi := mi) (n := n) hh hv (show l < 12 by omega) p3 (e (l + 1) - e l) (e l) am_fuel σ [] [] bs' (by omega) hc1 trivial trivial H (fun j h1 h2 => by obtain ⟨x1, x2, x3, x4⟩ := o6 j (by omega); exact ⟨x1, x2, x3⟩) (by omega) (by decide) (Nat.lt_of_le_of_lt (show e (l + 1) - e l ≤ 400 by omega) (by decide))
  unfold f_X12_holdsLine
  simp only [M_w H, bnd, e5]
  rw [M_ld H (by omega), p2, bnd]
  have a1' : am_loop (f_X12_holdsLine_b23 (σ, ρ) 105 (Int32.ofNat h) (Int32.ofNat v) mi (187 + (3 * Int32.ofNat l))) am_fuel (0, Int32.ofNat (e l), σ) = _ := a1
  rw [a1', bnd]
  have ty := evn_typ (f := lfx w h v mi) (n := n) (e (l + 1) - e l) (e l) [] bs' [] hc1 trivial
  unfold hldL
  by_cases z : e l = e (l + 1)
  · rw [if_pos z]
    have : evn (lfx w h v mi) s n (e l) (e (l + 1) - e l) [] = [] := by rw [← z, Nat.sub_self]; rfl
    rw [this]
    exact ⟨τ, rfl, a3⟩
  · have := hc2.resolve_left z
    subst this
    obtain ⟨x, r, hx, hx2, hr2⟩ := typ_1 ty
    have hr0 : r = [] := by
      cases r with
      | nil => rfl
      | cons _ _ => exact False.elim hr2
    subst hr0
    rw [hx] at a2 ⊢
    rw [if_neg z, if_neg (show ¬ Int32.ofNat [x].length = 0 from by show ¬ Int32.ofNat 1 = 0; decide), rd_value hr, bnd]
    simp only
    rw [show (0 : Int32) = Int32.ofNat 0 from rfl, ld_on (by rw [ln_116]; decide) (by decide), show τ 116 0 = x from a2.1, bnd]
    rcases hx2 rfl with rfl | rfl
    · exact ⟨τ, rfl, a3⟩
    · exact ⟨τ, rfl, a3⟩
theorem lw_mono {L : Nat} {e s n : Nat → Nat} (hO : lwO w L e s n) : ∀ j k, j ≤ k → k ≤ L → e j ≤ e k := by
  intro j k
  induction k with
  | zero => intro h _; have : j = 0 := by omega
            subst this; exact Nat.le_refl _
  | succ k ih =>
    intro h1 h2
    by_cases z : j = k + 1
    · subst z; exact Nat.le_refl _
    · have := ih (by omega) (by omega)
      have := (hO.2.2.2.2.1 k (by omega)).1
      omega
theorem M_turnL (H : wS σ ρ w) (hw3 : w 3 = 1) {L : Nat} {e s n : Nat → Nat} (hO : lwO w L e s n) {h v : Nat} {mi : Int32} (hh : h < nH w) (hv : v < nW w) : ∃ τ, f_X12_turn (σ, ρ) 105 (Int32.ofNat h) (Int32.ofNat v) mi = some (tnF w L e s n h v mi, τ) ∧ k16 σ τ := by
  have o1 := hO.1
  have o2 := hO.2.1
  obtain ⟨d, d1, d2, d3⟩ := lp_rule (body := f_X12_turn_b6 (σ, ρ) 105 (Int32.ofNat h) (Int32.ofNat v) mi) L (fun k y => y.1 = sm (fun k => if hldL (lfx w h v mi) s n (e k) (e (k + 1)) = true then w (187 + 3 * k) else 0) k ∧ y.2.1 = Int32.ofNat k ∧ k16 σ y.2.2) (fun (d : Int32 × sg) => d.1 = tnF w L e s n h v mi ∧ k16 σ d.2) (x := (0, 0, σ)) ⟨rfl, rfl, fun _ _ => rfl⟩ (fun k y hk hy => by
    obtain ⟨x, ln, τ⟩ := y
    obtain ⟨y1, y2, y3⟩ := hy
    simp only at y1 y2 y3
    subst y1 y2
    have H' := wS_k16 H y3
    have m3 : am_ld τ 106 3 = some (w 3) := M_ld H' (k := 3) (by decide)
    have m186 : am_ld τ 106 186 = some (w 186) := M_ld H' (k := 186) (by decide)
    unfold f_X12_turn_b6
    simp only [M_w H', bnd, m3, hw3, m186, o2]
    rw [if_pos trivial]
    by_cases c : k < L
    · left
      rw [if_pos (lt_y c (by omega))]
      obtain ⟨τ1, c1, c2⟩ := M_hold H' hO (mi := mi) hh hv c (lw_mono hO (k + 1) L (by omega) (Nat.le_refl _))
      have H1 := wS_k16 H' c2
      rw [c1, bnd]
      simp only
      rw [bi_f, show (187 : Int32) = Int32.ofNat 187 from rfl, show (3 : Int32) = Int32.ofNat 3 from rfl, on_mul, on_add, M_ld H1 (by omega)]
      simp only [bnd]
      have hif : ((if hldL (lfx w h v mi) s n (e k) (e (k + 1)) = true then some (w (187 + 3 * k)) else some 0) : Option Int32) = some (if hldL (lfx w h v mi) s n (e k) (e (k + 1)) = true then w (187 + 3 * k) else 0) := by
        by_cases z : hldL (lfx w h v mi) s n (e k) (e (k + 1)) = true
        · rw [if_pos z, if_pos z]
        · rw [if_neg z, if_neg z]
      rw [hif]
      simp only [bnd, on_s]
      exact ⟨_, rfl, c, sm_s.symm, rfl, fun o ho => (c2 o ho).trans (y3 o ho)⟩
    · right
      have : k = L := by omega
      subst this
      rw [if_neg (lt_n (by omega))]
      exact ⟨_, rfl, rfl, y3⟩) (by omega)
  unfold f_X12_turn
  rw [d1, bnd, d2]
  exact ⟨d.2, rfl, d3⟩
/-- turns: class and model alike -/
theorem turn_F (H : tS σ ρ t w) : ∃ F : Nat → Nat → Int32 → Int32, (∀ (τ : sg) (h v : Nat) (mi : Int32), ag σ τ → h < nH w → v < nW w → ∃ τ', f_X1_turnOf (τ, ρ) (t + 9) t (Int32.ofNat h) (Int32.ofNat v) mi = some (F h v mi, τ') ∧ kz3 t τ τ') ∧ (∀ (τ : sg) (h v : Nat) (mi : Int32), wS τ ρ w → h < nH w → v < nW w → ∃ τ', f_X12_turn (τ, ρ) 105 (Int32.ofNat h) (Int32.ofNat v) mi = some (F h v mi, τ') ∧ k16 τ τ') := by
  have ht := H.2.1
  rcases H.2.2.1.2.2.2.2.2.2 with ⟨h3, h9⟩ | ⟨h3, L, e, s, n, hO, hL, h2, h4⟩
  · refine ⟨fun _ _ _ => 0, fun τ h v mi g hh hv => ?_, fun τ h v mi Hw hh hv => ?_⟩
    · obtain ⟨υ, u1, u2, u3⟩ := c_turn (tS_ag H g) hh hv (mi := mi)
      have hl : am_loop (f_X1_turnOf_b74 (υ, ρ) (t + 9)) am_fuel (0, 0, 0, υ) = some (0, υ) := by
        refine lp_for 0 (fun _ => (0, 0, 0, υ)) rfl (fun j hj => by omega) ?_ (by decide)
        have e9 : υ (t + 9) 0 = -1 := by
          rw [u1 (t + 9) 0 (by omega) (by omega) (by omega), g (t + 9) 0 (by rcases ht with rfl | rfl | rfl <;> decide)]
          exact h9
        unfold f_X1_turnOf_b74
        simp only [e9]
        rw [if_neg (by decide)]
      rw [u3, hl, bnd]
      exact ⟨υ, rfl, u1⟩
    · have hl : am_loop (f_X12_turn_b6 (τ, ρ) 105 (Int32.ofNat h) (Int32.ofNat v) mi) am_fuel (0, 0, τ) = some (0, τ) := by
        refine lp_for 0 (fun _ => (0, 0, τ)) rfl (fun j hj => by omega) ?_ (by decide)
        have m3 : am_ld τ 106 3 = some (w 3) := M_ld Hw (k := 3) (by decide)
        unfold f_X12_turn_b6
        simp only [M_w Hw, bnd, m3, h3]
        rw [if_neg (by decide)]
      unfold f_X12_turn
      rw [hl, bnd]
      exact ⟨τ, rfl, fun _ _ => rfl⟩
  · refine ⟨fun h v mi => tnF w L e s n h v mi, fun τ h v mi g hh hv => ?_, fun τ h v mi Hw hh hv => M_turnL Hw h3 hO hh hv⟩
    have e3 : ∀ j, j < 2 → τ (t + 9) j = σ (t + 9) j := fun j hj => g (t + 9) j (by
      have : j = 0 ∨ j = 1 := by omega
      rcases this with rfl | rfl <;> rcases ht with rfl | rfl | rfl <;> decide)
    have er : ∀ o, es_l.getD o 0 = 1 → τ o = σ o := fun o ho => ag_row g ho
    have E := es_t ht
    exact c_turnL (tS_ag H g) hO (by rw [e3 0 (by decide)]; exact hL) (fun k hk => by rw [er (t + 10) E.2.2.2.2.2.2.2.2.2.2.1, er (t + 11) E.2.2.2.2.2.2.2.2.2.2.2.1]; exact h2 k hk) (fun i hi => by rw [er (t + 12) E.2.2.2.2.2.2.2.2.2.2.2.2.1]; exact h4 i hi) hh hv
end TQ
