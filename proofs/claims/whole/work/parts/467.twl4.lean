section TZ
variable {σ σ0 μ μ0 τ ν κ : sg} {ρ ρm : rg} {n b q u a0 c0 t0 u0 : Nat} {T : Nat → Int32} {x : wg}
theorem l_house (hr : rh ρ a0 c0) (hrm : rh ρm t0 u0) (hu : tn u) (hu2 : u ≠ 46) (hB : tB T n) (hj : JT σ0 μ0 u σ μ) (hc : cR σ ρ 77 T n b) (hok : σ 77 5 = -1) (hm : mS μ T n (enP T n b)) (h9 : μ 105 9 = Int32.ofNat b) : lnT σ0 μ0 u ρ T n (f_X10_readHouse (σ, ρ) 76 u) (f_X12_readHouse (μ, ρm) 105) := by
  have hu3 : 2 ≤ u ∧ u + 7 < 77 := by rcases hu with rfl | rfl | rfl <;> omega
  have n4 := hc.2.2.1
  obtain ⟨z0, z1, z2, z3, z4, z5⟩ := JT_0 hj
  have hj0 := hj
  unfold f_X10_readHouse f_X12_readHouse
  simp only [rd_in hr, bnd, m_houses hrm, rd_t hr hu (show (6, 1, 1) ∈ _ by decide), rd_t hr hu (show (7, 1, 2) ∈ _ by decide), rd_t hr hu (show (8, 1, 3) ∈ _ by decide), rd_t hr hu (show (9, 1, 4) ∈ _ by decide), rd_t hr hu (show (10, 1, 5) ∈ _ by decide), z0, z2, m_w hrm]
  rw [if_neg (on_neg (by omega))]
  obtain ⟨H, hH⟩ : ∃ H, H = nH (μ 106) := ⟨_, rfl⟩
  rw [← hH] at z0 z2 z4 ⊢
  by_cases c : H < 8
  · rw [if_pos (show Int32.ofNat H < 8 from (on_lt (b := 8) (by omega) (by decide)).mpr c), if_neg (show ¬ Int32.ofNat H = 8 from fun z => by have := (on_inj (b := 8) (by omega) (by decide)).mp z; omega)]
    obtain ⟨τ0, s1, s2, s3, s4⟩ := c_stp hc
    obtain ⟨τ1, e1, g1, f1⟩ := ns_st (τ0 := τ0) (b := nx T n b) (k := 0) (lo := 0) (hi := 15) hu hu2 hB c (by decide) (by decide) (by decide) (Or.inl ⟨fun _ => 0, fun i hi => by omega, s2, s4.trans hok, fun i hi => by omega⟩) (fun _ _ _ _ => rfl)
    obtain ⟨τ2, e2, g2, f2⟩ := ns_st (k := 1) (lo := 0) (hi := 15) hu hu2 hB c (by decide) (by decide) (by decide) g1 f1
    obtain ⟨τ3, e3, g3, f3⟩ := ns_st (k := 2) (lo := 1) (hi := 30) hu hu2 hB c (by decide) (by decide) (by decide) g2 f2
    obtain ⟨τ4, e4, g4, f4⟩ := ns_st (k := 3) (lo := 0) (hi := 999) hu hu2 hB c (by decide) (by decide) (by decide) g3 f3
    have e1' : nsF ρ (u + 1) (Int32.ofNat H) 0 15 τ0 = some τ1 := e1
    have e2' : nsF ρ (u + 2) (Int32.ofNat H) 0 15 τ1 = some τ2 := e2
    have e3' : nsF ρ (u + 3) (Int32.ofNat H) 1 30 τ2 = some τ3 := e3
    have e4' : nsF ρ (u + 4) (Int32.ofNat H) 0 999 τ3 = some τ4 := e4
    obtain ⟨κ, m1, m2, m3, m4⟩ := rm_h0 (μ := μ) hrm c
    have hmκ : mS κ T n (enP T n b) := ⟨by rw [m2 105 (by decide)]; exact hm.1, by rw [m2 105 (by decide)]; exact hm.2.1, hm.2.2.1, hm.2.2.2.1, fun k hk => by rw [m2 109 (by decide)]; exact hm.2.2.2.2 k hk⟩
    obtain ⟨d, l1, l2⟩ := rm_h4 (b := nx T n b) hrm hB c hmκ rfl
    rw [s1, bnd, ns_b, e1', bnd, ns_b, e2', bnd, ns_b, e3', bnd, ns_b, e4', bnd, m1, bnd, l1, bnd]
    have kT4 : kT u σ0 τ4 := fun o h1 h2 => by
      funext j
      rw [f4 o j h1 (fun z => h2 ⟨by omega, by omega⟩), s3 o h1]
      rw [hj.1 o h1 h2]
    have kW4 : ∀ ν, hM H κ ν → kW μ0 ν := fun ν hν => ⟨fun o h1 h2 => by rw [hν.1 o h1 h2, m2 o h2]; exact hj.2.1.1 o h1 h2, fun j h1 h2 => by rw [hν.2.1 j h1 h2, m2 105 (by decide)]; exact hj.2.1.2.1 j h1 h2, fun k hk => by rw [hν.2.2 k (by omega), m4 k (by omega)]; exact hj.2.1.2.2 k hk⟩
    have l5 : am_ln (u + 5) = 8 := (ln_t hu).2.2.2.2.1
    rcases g4 with ⟨v, g41, g42, g43, g44⟩ | ⟨j, j1, j2, j3, j4, j5⟩
    · -- all four fit
      rcases l2 with ⟨ν, q', v', rfl, n1, n2, n3, n4'⟩ | ⟨ν, j, rfl, n1, n2, -⟩
      · have vv : ∀ i, i < 4 → v' i = v i := fun i hi => by
          have a1 := g41 i hi
          have a2 := (n1 i hi).1
          rw [a1] at a2
          injection a2 with a2
          exact a2.symm
        have rv : ∀ i, i < 4 → hLo i ≤ v i ∧ v i < hHi i := fun i hi => numR_r (g41 i hi)
        have fin : ∀ (τ5 ν3 : sg) (dd b' q'' : Nat), dd < 2 → kO 77 τ4 τ5 → cR τ5 ρ 77 T n b' → τ5 77 5 = -1 → kM ν ν3 ∨ True → (∀ o, o ≠ 105 → o ≠ 106 → ν3 o = ν o) → (∀ j, j ≠ 7 → j ≠ 9 → ν3 105 j = ν 105 j) → (∀ k, k ≠ 12 + 15 * H → ν3 106 k = ν 106 k) → ν3 106 (12 + 15 * H) = Int32.ofNat dd → mS ν3 T n q'' → bgP T n q'' = b' → lnT σ0 μ0 u ρ T n (((am_st τ5 (u + 5) (Int32.ofNat H) (Int32.ofNat dd)).bind (fun σ28 => some (am_u2 σ28 u 0 ((σ28 u 0) + 1))))) (((am_ld ν3 106 0).bind (fun v30 => ((am_st ν3 106 0 (v30 + 1)).bind (fun σ31 => some (1, σ31)))))) := by
          intro τ5 ν3 dd b' q'' hdd k5 c5 o5 _ p1 p2 p3 p4 p5 p6
          have hν30 : ν3 106 0 = Int32.ofNat H := by rw [p3 0 (by omega), n4'.2.2 0 (by omega), m4 0 (by omega)]; exact z2
          have hτ50 : τ5 u 0 = Int32.ofNat H := by rw [k5 u (by omega), f4 u 0 (by omega) (by omega), s3 u (by omega)]; exact z0
          rw [st_on (by rw [l5]; omega) (by omega), bnd, show (0 : Int32) = Int32.ofNat 0 from rfl, ld_on (by rw [ln_106']; omega) (by omega), bnd, st_on (by rw [ln_106']; omega) (by omega), bnd, u2_ne (show u ≠ u + 5 by omega), hν30, hτ50, on_s]
          left
          have t5 : ∀ o j, o ≠ 77 → ¬ (u + 1 ≤ o ∧ o ≤ u + 4 ∧ j = H) → τ5 o j = σ o j := fun o j h1 h2 => by rw [k5 o h1, f4 o j h1 h2, s3 o h1]
          refine ⟨_, _, b', q'', rfl, rfl, ?_, cR_u (cR_u c5 (by omega) (by omega)) (by omega) (by omega), by rw [u2_ne (by omega), u2_ne (by omega)]; exact o5, mS_u p5, p6⟩
          have y3 : ∀ k, ¬ (8 + 15 * H ≤ k ∧ k < 13 + 15 * H) → ν3 106 k = κ 106 k := fun k hk => by rw [p3 k (by omega), n4'.2.2 k (by omega)]
          have yv : ∀ i, i < 4 → ν3 106 (8 + 15 * H + i) = Int32.ofNat (v i) := fun i hi => by rw [p3 _ (by omega), (n1 i hi).2, vv i hi]
          refine hs_ok hj0 (y := am_u2 ν3 106 0 (Int32.ofNat (H + 1)) 106) (by omega) (kT_u (kT_u (kT_O kT4 k5) (by omega) (by omega)) (by omega) (by omega)) (kW_6 ?_ (by omega)) rfl ?_ ?_ ?_ ?_ ?_ ?_ ?_ ?_ ?_ ?_ <;> (try rw [← hH])
          · refine ⟨fun o h1 h2 => (p1 o h1 h2).trans ((kW4 ν n4').1 o h1 h2), fun j h1 h2 => (p2 j h1 h2).trans ((kW4 ν n4').2.1 j h1 h2), fun k hk => ?_⟩
            rw [p3 k (by omega)]; exact (kW4 ν n4').2.2 k hk
          · exact u2_eq
          · intro j hj; rw [u2_nj hj, u2_ne (by omega)]; exact t5 u j (by omega) (by omega)
          · intro i j h1 h2 h3
            rw [u2_ne (by omega)]
            have : am_u2 τ5 (u + 5) H (Int32.ofNat dd) (u + i) j = τ5 (u + i) j := u2_nj h3
            rw [this]; exact t5 _ j (by omega) (by omega)
          · funext j; rw [u2_ne (by omega), u2_ne (by omega)]; exact t5 _ j (by omega) (by omega)
          · funext j; rw [u2_ne (by omega), u2_ne (by omega)]; exact t5 _ j (by omega) (by omega)
          · intro k hk
            rw [u2_nj (show 8 + 15 * H + k ≠ 0 by omega), u2_ne (by omega)]
            by_cases e : k < 4
            · rw [u2_ne (by omega), yv k e, k5 _ (by omega)]; exact g44 k e
            · have : k = 4 := by omega
              subst this
              rw [show u + 1 + 4 = u + 5 by omega, u2_eq, show 8 + 15 * H + 4 = 12 + 15 * H by omega, p4]
          · exact u2_eq
          · intro k h1 h2
            rw [u2_nj h1, y3 k (by omega)]; exact m4 k h2
          · intro w hw
            rw [u2_nj (by omega), y3 _ (by omega), show 13 + 15 * H + w = 8 + 15 * H + (5 + w) by omega]; exact m3 _ (by omega)
          · have r0 := rv 0 (by decide)
            have r1 := rv 1 (by decide)
            have r2 := rv 2 (by decide)
            have r3 := rv 3 (by decide)
            have y0 := yv 0 (by decide)
            have y1 := yv 1 (by decide)
            have y2 := yv 2 (by decide)
            have y4 := yv 3 (by decide)
            rw [show 8 + 15 * H + 1 = 9 + 15 * H by omega] at y1
            rw [show 8 + 15 * H + 2 = 10 + 15 * H by omega] at y2
            rw [show 8 + 15 * H + 3 = 11 + 15 * H by omega] at y4
            rw [show hHi 0 = 16 by decide] at r0
            rw [show hHi 1 = 16 by decide] at r1
            rw [show hHi 2 = 31 by decide, show hLo 2 = 1 by decide] at r2
            rw [show hHi 3 = 1000 by decide] at r3
            rw [u2_nj (by omega), u2_nj (by omega), u2_nj (by omega), u2_nj (by omega), u2_nj (by omega)]
            refine ⟨⟨_, r0.2, y0⟩, ⟨_, r1.2, y1⟩, ⟨_, r2.1, r2.2, y2⟩, ⟨_, r3.2, y4⟩, ?_⟩
            rw [p4]
            have : dd = 0 ∨ dd = 1 := by omega
            exact this.imp (fun z => by rw [z]; rfl) (fun z => by rw [z]; rfl)
        simp only
        have w2 : wT 2 = true := by decide
        have hd12 : ν 106 (12 + 15 * H) = 0 := by
          rw [n4'.2.2 _ (by omega), show 12 + 15 * H = 8 + 15 * H + 4 by omega]; exact m3 4 (by decide)
        cases hi : isT T n (psN T n (nx T n b) 4) 2 with
        | true =>
          obtain ⟨τ5, t1, t2, t3, t4⟩ := c_took1 (s := 2) g42 (by decide) g43 hi
          obtain ⟨ν2, u1, u2, u3⟩ := rm_pass1 hrm hB n2 n3 w2 hi
          rw [t1, bnd, u1, bnd]
          simp only
          rw [if_neg (by decide), if_neg (by decide), bnd, show (4 : Int32) = Int32.ofNat 4 from rfl, rm_sets hrm c (by decide), bnd, bnd]
          exact fin τ5 _ 1 _ _ (by decide) t3 t2 t4 (Or.inr trivial) (fun o h1 h2 => (u2_row h2).trans (u2.1 o h1)) (fun j h1 h2 => (u2_ne (by decide)).trans (u2.2 j h1 h2)) (fun k hk => (u2_nj (by omega)).trans (by rw [u2.1 106 (by decide)])) (by rw [show 12 + 15 * H = 8 + 15 * H + 4 by omega, u2_eq]; rfl) (mS_u u3) rfl
        | false =>
          obtain ⟨ν2, u1, u2, u3, u4⟩ := rm_pass0 hrm hB n2 n3 w2 hi
          rw [c_took0 g42 (by decide) (fun z => by rw [hi] at z; exact absurd z.2 (by decide)), bnd, u1, bnd]
          simp only
          rw [if_pos trivial, if_pos trivial, bnd, bnd]
          exact fin τ4 ν2 0 _ _ (by decide) (fun _ _ => rfl) g42 g43 (Or.inr trivial) (fun o h1 h2 => u2.1 o h1) (fun j h1 h2 => u2.2 j h1 h2) (fun k hk => by rw [u2.1 106 (by decide)]) (by rw [u2.1 106 (by decide), hd12]; rfl) u3 (bg_0 g42.2.2.2.1 g42.2.2.2.2.1)
      · rw [g41 j n1] at n2; cases n2
    · rcases l2 with ⟨ν, q', v', rfl, n1, -⟩ | ⟨ν, j', rfl, n1, n2, n3, n5, n6⟩
      · rw [(n1 j j1).1] at j2; cases j2
      · have jj : j' = j := by
          rcases Nat.lt_trichotomy j' j with h | h | h
          · exact absurd n2 (j3 j' h)
          · exact h
          · exact absurd j2 (n3 j h)
        subst jj
        simp only
        have bn := j4.2.2.2.1
        rw [c_took0 j4 (by decide) (fun z => by rw [j5] at z; exact on_m1 (by omega) z.1), bnd]
        simp only
        rw [if_pos trivial, bnd, st_on (by rw [l5]; omega) (by omega), bnd]
        right
        exact ⟨_, ν, _, rfl, rfl, ⟨kT_u (kT_u kT4 (by omega) (by omega)) (by omega) (by omega), kW4 ν n6⟩, bn, by rw [u2_ne (by omega), u2_ne (by omega)]; exact j5, n5⟩
  · rw [if_neg (show ¬ Int32.ofNat H < 8 from fun z => c ((on_lt (b := 8) (by omega) (by decide)).mp z)), if_pos (show Int32.ofNat H = 8 from by rw [show H = 8 by omega]; rfl)]
    obtain ⟨τ, v1, v2, v3, v4⟩ := c_ref1 hc hok
    rw [v1, bnd]
    right
    exact ⟨τ, μ, b, rfl, rfl, ⟨kT_O hj.1 v3, hj.2.1⟩, hc.2.2.2.1, v4, h9⟩
end TZ
