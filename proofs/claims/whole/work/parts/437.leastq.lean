section LW
variable {σ : sg} {ρ : rg} {t u : Nat} {w wi : wg}
theorem es_2 {o j a b : Nat} (h : es o j = true) (ha : es_l.getD a 0 = 0) (hb : es_l.getD b 0 = 0) : o ≠ a ∧ o ≠ b := by
  constructor
  · rintro rfl; rw [es_0 ha] at h; cases h
  · rintro rfl; rw [es_0 hb] at h; cases h
def lfQ (σ : sg) (w : wg) (U : Nat) (d : (Int32 × sg) ⊕ (Int32 × sg)) : Prop := match d with
  | .inl z => z.1 = Int32.ofNat (ct U.testBit (nW w)) ∧ ct U.testBit (nW w) ≤ 6 ∧ (∀ o, o ≠ 95 → z.2 o = σ o) ∧ ∀ i, i < nW w → U.testBit i = true → z.2 95 (2 ^ ct U.testBit i) = Int32.ofNat (ux w i)
  | .inr z => z.1 = -3 ∧ 6 < ct U.testBit (nW w) ∧ ∀ o, o ≠ 95 → z.2 o = σ o
theorem ct_mn {q : Nat → Bool} {a : Nat} : ∀ {b : Nat}, a ≤ b → ct q a ≤ ct q b
  | 0, h => by have : a = 0 := by omega
               subst this; exact Nat.le_refl _
  | b + 1, h => by
    by_cases e : a = b + 1
    · subst e; exact Nat.le_refl _
    · have := ct_mn (q := q) (a := a) (b := b) (by omega)
      rw [ct_s]; omega
theorem c_lf (H : tS σ ρ t w) {p : Int32} : ∃ d, am_loop (f_X0_leastFor_b5 (σ, ρ) 94 t p) am_fuel (0, 0, σ) = some d ∧ lfQ σ w (pU p (nW w)) d := by
  have hW := (wv_W H.2.2.2).2
  obtain ⟨a, b, hr⟩ := H.1
  obtain ⟨U, hU⟩ : ∃ U, U = pU p (nW w) := ⟨_, rfl⟩
  rw [← hU]
  refine lp_rule (nW w) (fun k y => y.1 = Int32.ofNat (ct U.testBit k) ∧ y.2.1 = Int32.ofNat k ∧ ct U.testBit k ≤ 6 ∧ (∀ o, o ≠ 95 → y.2.2 o = σ o) ∧ ∀ i, i < k → U.testBit i = true → y.2.2 95 (2 ^ ct U.testBit i) = Int32.ofNat (ux w i)) (lfQ σ w U) (x := (0, 0, σ)) ⟨rfl, rfl, Nat.zero_le _, fun _ _ => rfl, fun i hi => by omega⟩ (fun k y hk hy => ?_) (by omega)
  obtain ⟨m, i, τ⟩ := y
  obtain ⟨y0, y1, y2, y3, y4⟩ := hy
  simp only at y0 y1 y3 y4
  subst y0 y1
  have g : ag σ τ := fun o j e => by rw [y3 o (fun q => by subst q; rw [es_0 rfl] at e; cases e)]
  have H' := tS_ag H g
  unfold f_X0_leastFor_b5
  simp only [c_W H']
  by_cases e : k < nW w
  · rw [if_pos (lt_y e (by omega))]
    have hbit := pU_bit (p := p) e hW
    rw [← hU] at hbit
    by_cases z : U.testBit k = true
    · rw [if_pos (hbit.mpr z)]
      by_cases q : ct U.testBit k < 6
      · left
        rw [if_pos (show Int32.ofNat _ < 6 from (on_lt (b := 6) (by omega) (by decide)).mpr q), rd_wts hr, bnd, c_ur H' (by omega), bnd, shl1 (by omega)]
        have hp : 2 ^ ct U.testBit k < 2 ^ 6 := Nat.pow_lt_pow_right (by decide) q
        rw [st_on (by rw [ln_95]; omega) (by omega), bnd, on_s, on_s]
        have hct : ct U.testBit (k + 1) = ct U.testBit k + 1 := by rw [ct_s, if_pos z]
        refine ⟨_, rfl, e, by rw [hct], rfl, by omega, fun o ho => ?_, fun i hi hb => ?_⟩
        · show am_u2 τ 95 (2 ^ ct U.testBit k) (Int32.ofNat (ux w k)) o = _
          rw [u2_row ho, y3 o ho]
        · show am_u2 τ 95 (2 ^ ct U.testBit k) (Int32.ofNat (ux w k)) 95 _ = _
          by_cases ik : i = k
          · subst ik; rw [u2_eq]
          · have h1 := ct_up hb (show i < k by omega)
            have h2 : 2 ^ ct U.testBit i < 2 ^ ct U.testBit k := Nat.pow_lt_pow_right (by decide) h1
            rw [u2_nj (by omega), y4 i (by omega) hb]
      · right
        rw [if_neg (show ¬ Int32.ofNat _ < 6 from fun x => q ((on_lt (b := 6) (by omega) (by decide)).mp x))]
        have h1 := ct_up z e
        exact ⟨_, rfl, rfl, by omega, y3⟩
    · left
      rw [if_neg (fun x => z (hbit.mp x)), on_s]
      have hct : ct U.testBit (k + 1) = ct U.testBit k := by rw [ct_s, if_neg z]; rfl
      refine ⟨_, rfl, e, by rw [hct], rfl, by omega, y3, fun i hi hb => ?_⟩
      have : i ≠ k := fun x => z (x ▸ hb)
      exact y4 i (by omega) hb
  · right
    have : k = nW w := by omega
    subst this
    rw [if_neg (lt_n (by omega))]
    exact ⟨_, rfl, rfl, y2, y3, y4⟩
theorem spc_0 {A B : Nat → Nat} (h : spc A B 0) : B 0 = 0 := by
  rcases h with h | ⟨⟨s, h, _⟩, _⟩
  · exact h.2
  · have := prp_lt h; omega
theorem q_least (I : Iv σ ρ t u w wi) (p : Int32) : Rp (f_X11_least (σ, ρ) 0 p) ρ (fun S => f_X12_least S 105 p) := by
  have hW := (wv_W I.2.2.1).2
  have T := Iv_t I
  obtain ⟨U, hU⟩ : ∃ U, U = pU p (nW w) := ⟨_, rfl⟩
  have hUl : U < 2 ^ nW w := by rw [hU]; exact pU_lt
  have hp10 : 2 ^ nW w ≤ 2 ^ 10 := Nat.pow_le_pow_right (by decide) hW
  have hbc := bc_n (m := U) (by omega)
  have hct := ct_10 hUl hW
  rw [hct] at hbc
  -- the model
  have Mm : ∀ (σ1 : sg), ag σ σ1 → (6 < ct U.testBit (nW w) → f_X12_least (σ1, ρ) 105 p = some (-3, am_u2 σ1 105 0 0)) ∧ (ct U.testBit (nW w) ≤ 6 → ∃ d, ∃ B : Nat → Nat, f_X12_least (σ1, ρ) 105 p = some (if ct U.testBit (nW w) = 1 then Int32.ofNat (wsm (ux w) (nW w) U) else Int32.ofNat (B U), d) ∧ (∀ o, o ≠ 112 → o ≠ 113 → d o = am_u2 σ1 105 0 0 o) ∧ ∀ m, sbs m U → spc (wsm (ux w) (nW w)) B m) := fun σ1 g => by
    have H := wS_z (Iv_w (Iv_ag I g))
    unfold f_X12_least
    simp only [M_wants H, bnd, pU_and hW, ← hU, hbc.1]
    constructor
    · intro q
      rw [if_pos (show (6 : Int32) < Int32.ofNat _ from (on_lt (a := 6) (by decide) (by omega)).mpr q)]
    · intro q
      rw [if_neg (show ¬ (6 : Int32) < Int32.ofNat _ from fun x => by have := (on_lt (a := 6) (by decide) (by omega)).mp x; omega)]
      obtain ⟨d, d1, d2, B, d3⟩ := M_least H hUl q
      rw [d1]
      simp only [bnd, rd_below I.1, rd_all I.1]
      rw [ld_on (a := 112) (by rw [ln_112]; omega) (by omega), ld_on (a := 113) (by rw [ln_113]; omega) (by omega), (d3 U (by omega) sbs_rf).1, (d3 U (by omega) sbs_rf).2.1]
      simp only [bnd]
      refine ⟨d, B, ?_, d2, fun m hm => (d3 m (by have := sbs_le hm; omega) hm).2.2⟩
      by_cases z : ct U.testBit (nW w) = 1
      · rw [if_pos z, if_pos (by rw [z]; rfl)]
      · rw [if_neg z, if_neg (show ¬ Int32.ofNat _ = 1 from fun x => z ((on_inj (b := 1) (by omega) (by decide)).mp x))]
  have fin : ∀ (σ1 d : sg), ag σ σ1 → (∀ o, o ≠ 112 → o ≠ 113 → d o = am_u2 σ1 105 0 0 o) → Inv (d, ρ) := fun σ1 d g h => by
    have g2 : ag σ1 d := ag_tr ag2_z.1 (fun o j e => by
      obtain ⟨h1, h2⟩ := es_2 e (a := 112) (b := 113) rfl rfl
      exact congrFun (h o h1 h2) j)
    exact ⟨t, u, w, wi, Iv_ag (Iv_ag I g) g2⟩
  obtain ⟨d, c1, c2⟩ := c_lf T (p := p)
  rw [← hU] at c2
  unfold Rp f_X11_least f_X0_leastFor
  simp only [rd_codes I.1, c_now I, bnd, c1]
  cases d with
  | inr z =>
    obtain ⟨r, τ⟩ := z
    obtain ⟨c3, c4, c5⟩ := c2
    simp only at c3 c5
    have g : ag σ τ := fun o j e => by rw [c5 o (fun q => by subst q; rw [es_0 rfl] at e; cases e)]
    refine ⟨-3, τ, _, by rw [c3]; rfl, (Mm τ g).1 c4, fin τ _ g (fun _ _ _ => rfl)⟩
  | inl z =>
    obtain ⟨r, τ⟩ := z
    obtain ⟨c3, c4, c5, c6⟩ := c2
    simp only at c3 c5 c6
    subst c3
    have g : ag σ τ := fun o j e => by rw [c5 o (fun q => by subst q; rw [es_0 rfl] at e; cases e)]
    obtain ⟨n, hn⟩ : ∃ n, n = ct U.testBit (nW w) := ⟨_, rfl⟩
    obtain ⟨c, hc⟩ : ∃ c : Nat → Nat, c = fun j => (τ 95 (2 ^ j)).toNatClampNeg := ⟨_, rfl⟩
    have hci : ∀ i, i < nW w → U.testBit i = true → c (ct U.testBit i) = ux w i := fun i hi hb => by
      rw [hc]
      show (τ 95 (2 ^ ct U.testBit i)).toNatClampNeg = _
      have := (ux_w I.2.2.1 hi).2.2
      rw [c6 i hi hb, on_cl (by omega)]
    have hcj : ∀ j, j < n → 1 ≤ c j ∧ c j ≤ 99 ∧ τ 95 (2 ^ j) = Int32.ofNat (c j) := fun j hj => by
      rw [hn] at hj
      obtain ⟨i, h1, h2, h3⟩ := ct_sur hj
      have h4 := ux_w I.2.2.1 h1
      rw [← h3, hci i h1 h2, c6 i h1 h2]
      exact ⟨h4.2.1, by omega, rfl⟩
    have hA : ∀ x, wsm (ux w) (nW w) (dep U (nW w) x) = wsm c n x := fun x => by rw [hn]; exact dep_A hci
    have hall : dep U (nW w) (2 ^ n - 1) = U := by rw [hn]; exact dep_all hUl
    rw [← hn] at c4 ⊢
    simp only
    by_cases z0 : n = 0
    · rw [if_pos (by rw [z0]; rfl)]
      obtain ⟨d, B, m1, m2, m3⟩ := (Mm τ g).2 (by omega)
      have hU0 : U = 0 := by
        rw [← hall, z0]
        exact dep_0
      have hB : B U = 0 := by rw [hU0]; exact spc_0 (m3 0 (fun i h => by rw [Nat.zero_testBit] at h; cases h))
      refine ⟨0, τ, d, rfl, ?_, fin τ d g m2⟩
      rw [m1, ← hn, if_neg (by omega), hB]
      rfl
    · rw [if_neg (fun x => z0 ((on_z (by omega)).mp x))]
      obtain ⟨d, B, m1, m2, m3⟩ := (Mm τ g).2 (by omega)
      by_cases z1 : n = 1
      · rw [if_pos (by rw [z1]; rfl)]
        simp only [rd_wts I.1, bnd]
        have h1 := (hcj 0 (by omega)).2.2
        rw [show (1 : Int32) = Int32.ofNat (2 ^ 0) from rfl, ld_on (by decide) (by decide), h1]
        refine ⟨Int32.ofNat (c 0), τ, d, rfl, ?_, fin τ d g m2⟩
        rw [m1, ← hn, if_pos z1, ← hall, hA, z1]
        rw [show 2 ^ 1 - 1 = 2 ^ 0 from rfl, wsm_pow (by decide)]
      · rw [if_neg (show ¬ Int32.ofNat n = 1 from fun x => z1 ((on_inj (b := 1) (by omega) (by decide)).mp x))]
        obtain ⟨υ, B', e1, e2, e3⟩ := c_all (σ := τ) I.1 c4 (by omega) hcj
        rw [e1]
        simp only [bnd]
        have g2 : ag σ υ := ag_tr g (fun o j e => by
          obtain ⟨h1, h2⟩ := es_2 e (a := 95) (b := 96) rfl rfl
          rw [e2 o h1 h2])
        obtain ⟨d, B, m1, m2, m3⟩ := (Mm υ g2).2 (by omega)
        refine ⟨_, υ, d, rfl, ?_, fin υ d g2 m2⟩
        have hV : 2 ^ 1 ≤ 2 ^ n := Nat.pow_le_pow_right (by decide) (by omega)
        have := spc_uq (A := wsm (ux w) (nW w)) (B := B) (A' := wsm c n) (B' := B') (d := dep U (nW w)) (U := U) (V := 2 ^ n) (fun x _ => hA x) dep_0 (fun x y hx hy => dep_s (by rw [← hn]; exact hx)) (fun m hm => by rw [hn]; exact dep_r hUl hm) (fun x => dep_U) (fun x y => dep_x) e3 (fun m _ hm => m3 m hm) (2 ^ n - 1) (by omega) (by omega)
        rw [m1, ← hn, if_neg z1, ← this, hall]
end LW
