section VE
variable {σ μ σ0 μ0 τ ν : sg} {ρ ρm : rg} {u d n b q t0 u0 a0 c0 s : Nat} {T : Nat → Int32} {l : List (Nat × Nat)}
theorem rm_sg9 (hr : rh ρ t0 u0) (h : mS μ T n q) (hb : bgP T n q = b) {c : Int32} {v : Int32} (e : f_X12_sign (μ, ρ) 105 c = some (v, ν)) : ν 105 9 = Int32.ofNat b := by
  subst hb
  obtain ⟨κ, a1, a2, a3, a4⟩ := rm_bl hr h
  unfold f_X12_sign at e
  rw [a1, bnd] at e
  simp only at e
  rw [rm_at hr a3, bnd] at e
  split at e
  · have := Option.some.inj e
    rw [← (Prod.mk.inj this).2]; exact a4
  · have := Option.some.inj e
    rw [← (Prod.mk.inj this).2, u2_nj (by decide)]; exact a4
theorem rm_ps9 (hr : rh ρ t0 u0) (hB : tB T n) (h : mS μ T n q) (hb : bgP T n q = b) (hw : wT s = true) {v : Int32} (e : f_X12_passes (μ, ρ) 105 (1000 + s) = some (v, ν)) : ν 105 9 = Int32.ofNat b := by
  subst hb
  have hbn := (bg_p (T := T) h.2.2.1).2.1
  obtain ⟨κ, a1, a2, a3, a4⟩ := rm_let hr hB h
  unfold f_X12_passes at e
  rw [a1, bnd] at e
  simp only at e
  rw [rm_isW hr hB a3 a4 hbn hw, bnd] at e
  split at e
  · have := Option.some.inj e
    rw [← (Prod.mk.inj this).2, u2_nj (by decide)]; exact a4
  · have := Option.some.inj e
    rw [← (Prod.mk.inj this).2]; exact a4
theorem PN_le {N M : Nat} {k : Bool} {ls : List (Nat × Nat)} (h : PN N k ls) (hm : N ≤ M) : PN M k ls := fun st hst => h st (by omega)
theorem no_6 (hd : d ≤ 6) : (Int32.ofNat d = 6) ↔ ¬ d < 6 := by
  constructor
  · intro z c
    have := (on_inj (b := 6) (by omega) (by decide)).mp z
    omega
  · intro z
    rw [show d = 6 by omega]; rfl
theorem atom_j (hr : rh ρ a0 c0) (hrm : rh ρm t0 u0) (hu : tu2 u) (hB : tB T n) {A C : rcT} {MA MC : rmT} (hd : d ≤ 6) (hA : d < 6 → RJ σ0 μ0 u ρ ρm T n (3 + 2 * (5 - d)) (d + 1) A MA) (hC : d < 6 → RJ σ0 μ0 u ρ ρm T n (5 + 2 * (5 - d)) (d + 1) C MC) : RJ σ0 μ0 u ρ ρm T n (3 + 2 * (6 - d)) d (f_X2_readAtom_o A C) (f_X12_readAtom_o MA MC) := by
  intro σ μ l b q hg hl
  obtain ⟨h7, h8, h9, h10, h11⟩ := id hg
  have hbn := h8.2.2.2.1
  have n4 := h8.2.2.1
  have bb0 : bgP T n b = b := bg_0 hbn h8.2.2.2.2.1
  have deep : ∀ ν, kM μ ν → ν 105 10 = Int32.ofNat d := fun ν k => by rw [k.2 10 (by decide) (by decide)]; exact h7.2.2.2.2
  have b90 : ∀ {x : Option (Int32 × sg)}, x.bind (fun y => some (y.1, y.2)) = x := fun {x} => by cases x <;> rfl
  unfold f_X12_readAtom_o
  cases p : isT T n b 11 with
  | true =>
    have hgT := gT_T (T := T) hbn (s := 11) (by decide)
    rw [p] at hgT
    have hT40 := of_decide_eq_true hgT.symm
    have k97 : kdP T n b ≠ 97 := by
      unfold kdP
      rw [if_pos hT40.1, hT40.2]
      decide
    obtain ⟨ν, m1, m2, m3⟩ := rm_sg1 (s := 11) hrm h10 h11 (by decide) p
    have m1' : f_X12_sign (μ, ρm) 105 40 = some (1, ν) := m1
    have v9 := rm_sg9 hrm h10 h11 m1'
    rw [atom_B hr h8 h9 (isT_f hB hbn (by decide) k97) p hd, m1', bnd]
    simp only
    rw [if_neg (show ¬ (1 : Int32) = 0 by decide), deep ν m2]
    by_cases c : d < 6
    · rw [if_pos c, if_neg (fun z => (no_6 hd).mp z c), on_s]
      obtain ⟨τ, s1, s2, s3, s4⟩ := c_stp h8
      have g1 : GD σ0 μ0 u d ρ T n l (nx T n b) (enP T n b) τ ν := GD_k hu hg s3 m2 s2 (s4.trans h9) m3 rfl
      have g2 := GD_deep (v := Int32.ofNat (d + 1)) g1 rfl
      obtain ⟨x1, x2⟩ := nx_gt (T := T) hT40.1
      rw [s1, bnd]
      rcases hC c τ _ l (nx T n b) (enP T n b) g2 (by omega) with ⟨τ1, ν1, ls, b2, q2, e1, e2, e3, e4, e5⟩ | ⟨τ1, ν1, bb, e1, e2, e3, e4, e5⟩
      · have d1 : ν1 105 10 = Int32.ofNat (d + 1) := e3.1.2.2.2.2
        have dd : ν1 105 10 - 1 = Int32.ofNat d := by rw [d1, show (1 : Int32) = Int32.ofNat 1 from rfl, on_sub (by omega), show d + 1 - 1 = d by omega]
        have g3 := GD_deep (v := ν1 105 10 - 1) e3 dd
        obtain ⟨-, y8, y9, y10, y11⟩ := id g3
        rw [e1, bnd, e2, bnd]
        simp only
        rw [if_neg (show ¬ (1 : Int32) = 0 by decide)]
        have hb2 := y8.2.2.2.1
        cases p2 : isT T n b2 12 with
        | true =>
          obtain ⟨τ2, w1, w2, w3, w4⟩ := c_took1 y8 (s := 12) (by decide) y9 p2
          obtain ⟨ν2, z1, z2, z3⟩ := rm_sg1 (s := 12) hrm y10 y11 (by decide) p2
          have z1' : f_X12_sign (am_u2 ν1 105 10 (ν1 105 10 - 1), ρm) 105 41 = some (1, ν2) := z1
          rw [w1, bnd, z1', bnd]
          simp only
          rw [if_neg (show ¬ (1 : Int32) = 0 by decide), if_pos (Or.inr trivial)]
          have := nx_gt (T := T) (isT_n hb2 (by decide) p2)
          left
          exact ⟨τ2, ν2, ls, nx T n b2, enP T n b2, rfl, rfl, GD_k hu g3 w3 z2 w2 w4 z3 rfl, PN_le e4 (by omega), by omega⟩
        | false =>
          obtain ⟨τ2, w1, w2, w3, w4⟩ := c_ref1 y8 y9
          obtain ⟨ν2, z1, z2, z3, z4⟩ := rm_sg0 (s := 12) hrm y10 y11 (by decide) p2
          have z1' : f_X12_sign (am_u2 ν1 105 10 (ν1 105 10 - 1), ρm) 105 41 = some (0, ν2) := z1
          rw [c_took0 y8 (by decide) (fun z => by rw [p2] at z; exact absurd z.2 (by decide)), bnd, z1', bnd]
          simp only
          rw [if_pos trivial, if_pos (Or.inl trivial), w1]
          right
          exact ⟨τ2, ν2, b2, rfl, rfl, BD_of hu g3 w3 w2 w4, kLm_M g3.1.2.1 z2, z4⟩
      · rw [e1, bnd, e2, bnd, BD_took e3 (by decide), bnd]
        simp only
        rw [if_pos trivial, if_pos trivial, c_ref0 (BD_m e3)]
        right
        exact ⟨τ1, ν1, bb, rfl, rfl, e3, e4, e5⟩
    · rw [if_neg c, if_pos ((no_6 hd).mpr c)]
      obtain ⟨τ, w1, w2, w3, w4⟩ := c_ref1 h8 h9
      right
      exact ⟨τ, ν, b, w1, rfl, BD_of hu hg w3 w2 w4, kLm_M h7.2.1 m2, v9⟩
  | false =>
    obtain ⟨ν0, m1, m2, m3, m4⟩ := rm_sg0 (s := 11) hrm h10 h11 (by decide) p
    have m1' : f_X12_sign (μ, ρm) 105 40 = some (0, ν0) := m1
    rw [m1', bnd]
    simp only
    rw [if_pos trivial]
    cases p2 : isT T n b 10 with
    | true =>
      obtain ⟨ν, z1, z2, z3⟩ := rm_pass1 (s := 10) hrm hB m3 bb0 (by decide) p2
      have v9 := rm_ps9 hrm hB m3 bb0 (by decide) z1
      have km := kM_tr m2 z2
      rw [atom_N hr h8 h9 p2 hd, z1, bnd]
      simp only
      rw [if_neg (show ¬ (1 : Int32) = 0 by decide), deep ν km]
      by_cases c : d < 6
      · rw [if_pos c, if_neg (fun z => (no_6 hd).mp z c), on_s]
        obtain ⟨τ, s1, s2, s3, s4⟩ := c_stp h8
        have g1 : GD σ0 μ0 u d ρ T n l (nx T n b) (enP T n b) τ ν := GD_k hu hg s3 km s2 (s4.trans h9) z3 rfl
        have g2 := GD_deep (v := Int32.ofNat (d + 1)) g1 rfl
        obtain ⟨x1, x2⟩ := nx_gt (T := T) (isT_n hbn (by decide) p2)
        rw [s1, bnd]
        rcases hA c τ _ l (nx T n b) (enP T n b) g2 (by omega) with ⟨τ1, ν1, ls, b2, q2, e1, e2, e3, e4, e5⟩ | ⟨τ1, ν1, bb, e1, e2, e3, e4, e5⟩
        · have d1 : ν1 105 10 = Int32.ofNat (d + 1) := e3.1.2.2.2.2
          have dd : ν1 105 10 - 1 = Int32.ofNat d := by rw [d1, show (1 : Int32) = Int32.ofNat 1 from rfl, on_sub (by omega), show d + 1 - 1 = d by omega]
          have g3 := GD_deep (v := ν1 105 10 - 1) e3 dd
          have hb2 := e3.2.1.2.2.2.1
          obtain ⟨τ2, ν2, w1, w2, w3⟩ := em_G hr hrm hu g3 (by rw [List.length_append]; omega) (show 9 < 12 by decide) (show 0 < 1000 by decide) (show (-9 : Int32) = enc 9 0 by decide) (show (9 : Int32) = _ from rfl) (show (0 : Int32) = _ from rfl)
          rw [e1, bnd, e2, bnd]
          simp only
          rw [if_neg (show ¬ (1 : Int32) = 0 by decide), w1, w2, bnd]
          left
          refine ⟨τ2, ν2, ls ++ [(9, 0)], b2, q2, rfl, rfl, by rw [← List.append_assoc]; exact w3, fun st hst => ?_, by rw [List.length_append]; simp only [List.length_cons, List.length_nil]; omega⟩
          rw [ckL_app, e4 st (by omega), bnd]
          rfl
        · obtain ⟨τ2, w1, w2⟩ := add_B hr hu e3 (-9)
          rw [e1, bnd, e2, bnd]
          simp only
          rw [if_pos trivial, w1]
          right
          exact ⟨τ2, ν1, bb, rfl, rfl, w2, e4, e5⟩
      · rw [if_neg c, if_pos ((no_6 hd).mpr c)]
        obtain ⟨τ, w1, w2, w3, w4⟩ := c_ref1 h8 h9
        right
        exact ⟨τ, ν, b, w1, rfl, BD_of hu hg w3 w2 w4, kLm_M h7.2.1 km, v9⟩
    | false =>
      obtain ⟨ν1, z1, z2, z3, z4⟩ := rm_pass0 (s := 10) hrm hB m3 bb0 (by decide) p2
      have km := kM_tr m2 z2
      have g1 : GD σ0 μ0 u d ρ T n l b b σ ν1 := GD_k hu hg (fun _ _ => rfl) km h8 h9 z3 bb0
      have W : ∀ s, s < 22 → isT T n b s = false → f_X4_isAt (σ, ρ) 80 (1000 + s) = some 0 := fun s hs hi => by rw [c_isAt h8 hs, if_pos h9, hi]; rfl
      rw [atom_S hr (W 10 (by decide) p2) (W 11 (by decide) p), z1, bnd]
      simp only
      rw [if_pos trivial]
      rcases sum_j hr hrm hu hB g1 hl with ⟨τ1, ν2, ls1, b1, q1, e1, e2, e3, e4, e5⟩ | ⟨τ1, ν2, bb, e1, e2, e3, e4, e5⟩
      · rw [e1, bnd, e2, bnd]
        simp only
        rw [if_neg (show ¬ (1 : Int32) = 0 by decide)]
        obtain ⟨y7, y8, y9, y10, y11⟩ := id e3
        have hb1 := y8.2.2.2.1
        have A1 : ∀ s, s < 22 → f_X4_isAt (τ1, ρ) 80 (1000 + s) = some (bi (isT T n b1 s)) := fun s hs => by rw [c_isAt y8 hs, if_pos y9]
        -- behind the sign: the second sum and the step
        have fin : ∀ (τ2 ν3 : sg) (k : Nat) (e x : Int32) (C : Option sg) (M : Option (Int32 × sg)), (k = 7 ∨ k = 8) → e = enc k 0 → x = Int32.ofNat k → b1 < n → GD σ0 μ0 u d ρ T n (l ++ ls1) (nx T n b1) (enP T n b1) τ2 ν3 → C = (f_X2_readSum (τ2, ρ) 79 (u + 9)).bind (fun σ61 => f_X1_addStep (σ61, ρ) (u + 9) e) → M = (f_X12_readSum (ν3, ρm) 105).bind (fun y10 => (if y10.1 = 0 then some (0, y10.2) else ((f_X12_emits (y10.2, ρm) 105 x 0).bind (fun σ13 => some (1, σ13))))) → gO σ0 μ0 u d ρ T n l b (PN (3 + 2 * (6 - d)) false) C M := by
          intro τ2 ν3 k e x C M hk he hx hlt g2 hC hM
          obtain ⟨x1, x2⟩ := nx_gt (T := T) hlt
          rw [hC, hM]
          rcases sum_j hr hrm hu hB g2 (by rw [List.length_append]; omega) with ⟨τ3, ν4, ls2, b2, q2, f1, f2, f3, f4, f5⟩ | ⟨τ3, ν4, bb, f1, f2, f3, f4, f5⟩
          · have hb2 := f3.2.1.2.2.2.1
            obtain ⟨τ4, ν5, w1, w2, w3⟩ := em_G hr hrm hu f3 (by rw [List.length_append, List.length_append]; omega) (show k < 12 by omega) (show 0 < 1000 by decide) he hx (show (0 : Int32) = _ from rfl)
            rw [f1, bnd, f2, bnd]
            simp only
            rw [if_neg (show ¬ (1 : Int32) = 0 by decide), w1, w2, bnd]
            left
            refine ⟨τ4, ν5, ls1 ++ ls2 ++ [(k, 0)], b2, q2, rfl, rfl, by rw [← List.append_assoc, ← List.append_assoc]; exact w3, fun st hst => ?_, by rw [List.length_append, List.length_append]; simp only [List.length_cons, List.length_nil]; omega⟩
            rw [ckL_app, ckL_app, e4 st (by omega), bnd, f4 (true :: st) (by simp only [List.length_cons]; omega), bnd]
            rcases hk with rfl | rfl <;> rfl
          · obtain ⟨τ4, w1, w2⟩ := add_B hr hu f3 e
            rw [f1, bnd, f2, bnd]
            simp only
            rw [if_pos trivial, w1]
            right
            exact ⟨τ4, ν4, bb, rfl, rfl, w2, f4, f5⟩
        unfold cCmp
        rw [A1 18 (by decide), bnd]
        cases p3 : isT T n b1 18 with
        | true =>
          obtain ⟨τ2, w1, w2, w3, w4⟩ := c_took1 y8 (s := 18) (by decide) y9 p3
          obtain ⟨ν3, x1, x2, x3⟩ := rm_sg1 (s := 18) hrm y10 y11 (by decide) p3
          have x1' : f_X12_sign (ν2, ρm) 105 60 = some (1, ν3) := x1
          rw [if_neg (show ¬ bi true = 0 by decide), bnd, w1, bnd, x1', bnd]
          simp only
          rw [if_neg (show ¬ (1 : Int32) = 0 by decide), if_neg (show ¬ (1 : Int32) = 0 by decide), bnd]
          refine fin τ2 ν3 7 (-7) 7 _ _ (Or.inl rfl) (by decide) rfl (isT_n hb1 (by decide) p3) (GD_k hu e3 w3 x2 w2 w4 x3 rfl) rfl ?_
          simp only [i10, if_false, bnd]
        | false =>
          obtain ⟨ν3, x1, x2, x3, x4⟩ := rm_sg0 (s := 18) hrm y10 y11 (by decide) p3
          have x1' : f_X12_sign (ν2, ρm) 105 60 = some (0, ν3) := x1
          have bb1 : bgP T n b1 = b1 := bg_0 hb1 y8.2.2.2.2.1
          have g2 : GD σ0 μ0 u d ρ T n (l ++ ls1) b1 b1 τ1 ν3 := GD_k hu e3 (fun _ _ => rfl) x2 y8 y9 x3 bb1
          rw [if_pos (show bi false = 0 from rfl), bnd, c_took0 y8 (by decide) (fun z => by rw [p3] at z; exact absurd z.2 (by decide)), bnd, x1', bnd]
          simp only
          rw [if_pos trivial, if_pos trivial]
          cases p4 : isT T n b1 19 with
          | true =>
            obtain ⟨τ2, w1, w2, w3, w4⟩ := c_took1 y8 (s := 19) (by decide) y9 p4
            obtain ⟨ν4, v1, v2, v3⟩ := rm_sg1 (s := 19) hrm x3 bb1 (by decide) p4
            have v1' : f_X12_sign (ν3, ρm) 105 62 = some (1, ν4) := v1
            rw [w1, bnd, v1', bnd]
            simp only
            rw [if_neg (show ¬ (1 : Int32) = 0 by decide), if_neg (show ¬ (1 : Int32) = 0 by decide), bnd]
            refine fin τ2 ν4 8 (-8) 8 _ _ (Or.inr rfl) (by decide) rfl (isT_n hb1 (by decide) p4) (GD_k hu g2 w3 v2 w2 w4 v3 rfl) rfl ?_
            simp only [if_true, bnd]
          | false =>
            obtain ⟨ν4, v1, v2, v3, v4⟩ := rm_sg0 (s := 19) hrm x3 bb1 (by decide) p4
            have v1' : f_X12_sign (ν3, ρm) 105 62 = some (0, ν4) := v1
            obtain ⟨τ2, w1, w2, w3, w4⟩ := c_ref1 y8 y9
            have bd := BD_of hu e3 w3 w2 w4
            obtain ⟨τ3, r1, r2⟩ := sum_bad hr hu bd
            obtain ⟨τ4, r3, r4⟩ := add_B hr hu r2 (-8)
            rw [c_took0 y8 (by decide) (fun z => by rw [p4] at z; exact absurd z.2 (by decide)), bnd, v1', bnd]
            simp only
            rw [if_pos trivial, if_pos trivial, w1, bnd, r1, bnd, r3]
            right
            exact ⟨τ4, ν4, b1, rfl, rfl, r4, kLm_M (kLm_M e3.1.2.1 x2) v2, v4⟩
      · obtain ⟨τ2, w1, w2⟩ := cmp_bad hr hu e3
        rw [e1, bnd, e2, bnd, w1]
        simp only
        rw [if_pos trivial]
        right
        exact ⟨τ2, ν2, bb, rfl, rfl, w2, e4, e5⟩
end VE
