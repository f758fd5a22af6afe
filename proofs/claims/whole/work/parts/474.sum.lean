section VC
variable {σ μ σ0 μ0 : sg} {ρ ρm : rg} {u d n b q t0 u0 a0 c0 : Nat} {T : Nat → Int32} {l : List (Nat × Nat)}
theorem bid {α : Type} {x : Option α} : x.bind (fun a => some a) = x := by cases x <;> rfl
def cPart (ρ : rg) (u : Nat) (σ : sg) : Option sg := (f_X4_isAtNumber (σ, ρ) 80).bind (fun v5 => (if v5 = 0 then ((f_X2_readFact (σ, ρ) 79).bind (fun y7 => some (y7.1, y7.2))) else ((f_X4_number (σ, ρ) 80 0 999).bind (fun y9 => some (y9.1, y9.2)))).bind (fun t6 => f_X1_addStep (t6.2, ρ) (u + 9) t6.1))
theorem isT_f (hB : tB T n) (hb : b ≤ n) {s : Nat} (hw : wT s = true) (h : kdP T n b ≠ 97) : isT T n b s = false := by
  cases z : isT T n b s
  · rfl
  · exact absurd (isT_97 hB hb hw z) h
theorem part_P {k v : Nat} (hk : k ≤ 5) : PN 1 true [(k, v)] := fun st hst => by
  show (ck1 st k).bind (fun st' => ckL [] st') = _
  unfold ck1
  rw [if_pos hk, if_pos (by omega), bnd]
  rfl
theorem fact_bad (hr : rh ρ a0 c0) {bb : Nat} (h : BD σ0 u ρ T n bb σ) : f_X2_readFact (σ, ρ) 79 = some (0, σ) := by
  have A : ∀ s, s < 22 → f_X4_isAt (σ, ρ) 80 (1000 + s) = some 0 := fun s hs => by rw [c_isAt h.2.2.2.1 hs, if_neg (BD_m h)]
  unfold f_X2_readFact
  simp only [rd_in2 hr, bnd]
  rw [A 1 (by decide), bnd, A 13 (by decide), bnd, A 14 (by decide), bnd, A 15 (by decide), bnd, A 16 (by decide), bnd]
  simp only [if_true, bnd, c_ref0 (BD_m h)]
theorem part_bad (hr : rh ρ a0 c0) (hu : tu2 u) {bb : Nat} (h : BD σ0 u ρ T n bb σ) : ∃ τ, cPart ρ u σ = some τ ∧ BD σ0 u ρ T n bb τ := by
  unfold cPart
  have h1 : f_X4_isAtNumber (σ, ρ) 80 = some 0 := by unfold f_X4_isAtNumber; simp only; rw [if_neg (BD_m h)]
  rw [h1, bnd, if_pos rfl, fact_bad hr h, bnd, bnd]
  exact add_B hr hu h 0
theorem part_j (hr : rh ρ a0 c0) (hrm : rh ρm t0 u0) (hu : tu2 u) (hB : tB T n) (hg : GD σ0 μ0 u d ρ T n l b q σ μ) (hl : l.length < b) : gO σ0 μ0 u d ρ T n l b (PN 1 true) (cPart ρ u σ) (f_X12_readPart (μ, ρm) 105) := by
  obtain ⟨h7, h8, h9, h10, h11⟩ := id hg
  have hbn := h8.2.2.2.1
  have n4 := h8.2.2.1
  obtain ⟨μ1, a1, a2, a3, a4⟩ := rm_let hrm hB h10
  rw [h11] at a3 a4
  have bb0 : bgP T n b = b := bg_0 hbn h8.2.2.2.2.1
  have hnum : f_X4_isAtNumber (σ, ρ) 80 = some (if kdP T n b = 48 then 1 else 0) := by
    have e4 : σ 80 4 = kdP T n b := h8.2.2.2.2.2.2.2.2.1
    show (if σ 80 5 = -1 then (if σ 80 4 = 48 then some 1 else some 0) else some 0) = _
    rw [if_pos h9]
    by_cases k : kdP T n b = 48
    · rw [if_pos (e4.trans k), if_pos k]
    · rw [if_neg (fun z => k (e4.symm.trans z)), if_neg k]
  have A : ∀ s, s < 22 → f_X4_isAt (σ, ρ) 80 (1000 + s) = some (bi (isT T n b s)) := fun s hs => by rw [c_isAt h8 hs, if_pos h9]
  have W : ∀ s, wT s = true → f_X12_isWord (μ1, ρm) 105 (1000 + s) = some (bi (isT T n b s)) := fun s hs => rm_isW hrm hB a3 a4 hbn hs
  have ep := en_p (T := T) hbn
  have l13 : ∀ ν, kM μ ν → ν 105 13 = Int32.ofNat l.length := fun ν k => by rw [k.2 13 (by decide) (by decide)]; exact h7.2.2.1.2.2.1
  have lp := lt_b (T := T) hbn
  unfold cPart f_X12_readPart
  rw [hnum, bnd, a1, bnd]
  simp only
  rw [a3.1, a4]
  have h999 : (999 : Int32) = Int32.ofNat 1000 - 1 := by decide
  -- a wrong part: both say so at b
  have bad : ∀ (C : Option sg) (M : Option (Int32 × sg)) (τ ν : sg) (x y : Int32), kO 80 σ τ → cR τ ρ 80 T n b → τ 80 5 = Int32.ofNat b → kM μ ν → ν 105 9 = Int32.ofNat b → C = f_X1_addStep (τ, ρ) (u + 9) x → M = (f_X12_emits (ν, ρm) 105 y (if y = 5 then -1 else 0)).bind (fun s => some (0, s)) → gO σ0 μ0 u d ρ T n l b (PN 1 true) C M := by
    intro C M τ ν x y k1 k2 k3 k4 k5 k6 k7
    obtain ⟨τ', w1, w2⟩ := add_B hr hu (BD_of hu hg k1 k2 k3) x
    right
    rw [k6, k7, w1, rm_emit hrm (show l.length < 400 by omega) (l13 ν k4), bnd]
    exact ⟨τ', _, b, rfl, rfl, w2, em_k (kLm_M h7.2.1 k4), by rw [em_9 (by decide)]; exact k5⟩
  by_cases k97 : kdP T n b = 97
  · have le : ltP T n b = enP T n b := by unfold ltP; rw [if_pos k97]
    have hlt := kd_lt (Or.inl k97)
    have := ep.2.2.1 hlt
    rw [if_neg (show ¬ kdP T n b = 48 by rw [k97]; decide), if_pos rfl, if_neg (fun z => by have := (on_inj (by omega) (by omega)).mp z; omega)]
    unfold f_X2_readFact
    simp only [rd_in2 hr, bnd]
    obtain ⟨τ, s1, s2, s3, s4⟩ := c_stp h8
    have g1 : GD σ0 μ0 u d ρ T n l (nx T n b) (enP T n b) τ μ1 := GD_k hu hg s3 a2 s2 (s4.trans h9) (by rw [← le]; exact a3) rfl
    have fin : ∀ (C : Option sg) (M : Option (Int32 × sg)) (k : Nat) (e x : Int32), k ≤ 4 → e = enc k 0 → x = Int32.ofNat k → C = f_X1_addStep (τ, ρ) (u + 9) e → M = (f_X12_emits (μ1, ρm) 105 x 0).bind (fun s => some (1, s)) → gO σ0 μ0 u d ρ T n l b (PN 1 true) C M := by
      intro C M k e x hk he hx hC hM
      obtain ⟨τ', ν', w1, w2, w3⟩ := em_G hr hrm hu g1 (by omega) (show k < 12 by omega) (show 0 < 1000 by decide) he hx (show (0 : Int32) = _ from rfl)
      left
      rw [hC, hM, w1, w2, bnd]
      exact ⟨τ', ν', [(k, 0)], nx T n b, enP T n b, rfl, rfl, w3, part_P (by omega), by have := nx_gt (T := T) hlt; simp only [List.length_cons, List.length_nil]; omega⟩
    rw [A 1 (by decide), bnd, W 1 (by decide), bnd]
    have cm : ∀ (x : Int32), ¬ x < 0 → ((f_X12_emits (μ1, ρm) 105 x 0).bind (fun σ18 => some (x, σ18))).bind (fun t2 => if t2.1 < 0 then some ((0 : Int32), t2.2) else some (1, t2.2)) = (f_X12_emits (μ1, ρm) 105 x 0).bind (fun s => some (1, s)) := fun x hx => by
      cases f_X12_emits (μ1, ρm) 105 x 0 with
      | none => simp only [bnn]
      | some y => simp only [bnd, if_neg hx]
    cases h1 : isT T n b 1 with
    | true =>
      rw [if_neg (show ¬ bi true = 0 by decide), if_neg (show ¬ bi true = 0 by decide), bnd, bnd, if_neg (show ¬ (-1 : Int32) = 0 by decide), s1, bnd, bnd, bnd, bnd]
      exact fin _ _ 0 (-1) 0 (by decide) (by decide) rfl rfl (cm 0 (by decide))
    | false =>
      rw [if_pos (show bi false = 0 from rfl), if_pos (show bi false = 0 from rfl), A 13 (by decide), bnd, W 13 (by decide), bnd]
      cases h2 : isT T n b 13 with
      | true =>
        rw [if_neg (show ¬ bi true = 0 by decide), if_neg (show ¬ bi true = 0 by decide), bnd, bnd, if_neg (show ¬ (-2 : Int32) = 0 by decide), s1, bnd, bnd, bnd, bnd]
        exact fin _ _ 1 (-2) 1 (by decide) (by decide) rfl rfl (cm 1 (by decide))
      | false =>
        rw [if_pos (show bi false = 0 from rfl), if_pos (show bi false = 0 from rfl), A 14 (by decide), bnd, W 14 (by decide), bnd]
        cases h3 : isT T n b 14 with
        | true =>
          rw [if_neg (show ¬ bi true = 0 by decide), if_neg (show ¬ bi true = 0 by decide), bnd, bnd, if_neg (show ¬ (-3 : Int32) = 0 by decide), s1, bnd, bnd, bnd, bnd]
          exact fin _ _ 2 (-3) 2 (by decide) (by decide) rfl rfl (cm 2 (by decide))
        | false =>
          rw [if_pos (show bi false = 0 from rfl), if_pos (show bi false = 0 from rfl), A 15 (by decide), bnd, W 15 (by decide), bnd]
          cases h4 : isT T n b 15 with
          | true =>
            rw [if_neg (show ¬ bi true = 0 by decide), if_neg (show ¬ bi true = 0 by decide), bnd, bnd, if_neg (show ¬ (-4 : Int32) = 0 by decide), s1, bnd, bnd, bnd, bnd]
            exact fin _ _ 3 (-4) 3 (by decide) (by decide) rfl rfl (cm 3 (by decide))
          | false =>
            rw [if_pos (show bi false = 0 from rfl), if_pos (show bi false = 0 from rfl), A 16 (by decide), bnd, W 16 (by decide), bnd]
            cases h5 : isT T n b 16 with
            | true =>
              rw [if_neg (show ¬ bi true = 0 by decide), if_neg (show ¬ bi true = 0 by decide), bnd, bnd, if_neg (show ¬ (-5 : Int32) = 0 by decide), s1, bnd, bnd, bnd, bnd]
              exact fin _ _ 4 (-5) 4 (by decide) (by decide) rfl rfl (cm 4 (by decide))
            | false =>
              obtain ⟨τr, v1, v2, v3, v4⟩ := c_ref1 h8 h9
              rw [if_pos (show bi false = 0 from rfl), if_pos (show bi false = 0 from rfl), bnd, bnd, if_pos rfl, v1, bnd, bnd, bnd, bnd]
              refine bad _ _ τr μ1 0 (-1) v3 v2 v4 a2 a4 rfl ?_
              rw [if_neg (show ¬ (-1 : Int32) = 5 by decide)]
              cases f_X12_emits (μ1, ρm) 105 (-1) 0 with
              | none => simp only [bnn]
              | some y => simp only [bnd, if_pos m1n]
  · have le : ltP T n b = b := by unfold ltP; rw [if_neg k97]
    rw [le] at a3
    rw [if_pos (show Int32.ofNat (ltP T n b) = Int32.ofNat b by rw [le])]
    have cmb : ∀ ν : sg, (((f_X12_emits (ν, ρm) 105 5 (-1)).bind (fun σ20 => some ((-1 : Int32), σ20))).bind (fun t2 => if t2.1 < 0 then some ((0 : Int32), t2.2) else some (1, t2.2))) = (f_X12_emits (ν, ρm) 105 5 (if (5 : Int32) = 5 then -1 else 0)).bind (fun s => some (0, s)) := fun ν => by
      rw [if_pos rfl]
      cases f_X12_emits (ν, ρm) 105 5 (-1) with
      | none => simp only [bnn]
      | some y => simp only [bnd, if_pos m1n]
    by_cases k48 : kdP T n b = 48
    · rw [if_pos k48, if_neg (show ¬ (1 : Int32) = 0 by decide)]
      have hlt := kd_lt (Or.inr k48)
      rcases c_nI (lo := 0) (H := 1000) h8 hB h9 (show (0 : Int32) = _ from rfl) h999 (by decide) (by decide) with ⟨v1, τ1, r1, y1, -, y2, e1, c1, k1, o1⟩ | ⟨r1, τ1, e1, c1, k1, o1⟩
      · obtain ⟨μ2, m1, km1, ms1⟩ := (rm_nI (lo := 0) (H := 1000) hrm hB a3 bb0 (show (0 : Int32) = _ from rfl) h999 (by decide) (by decide)).1 v1 r1
        have g1 : GD σ0 μ0 u d ρ T n l (nx T n b) (enP T n b) τ1 μ2 := GD_k hu hg k1 (kM_tr a2 km1) c1 o1 ms1 rfl
        obtain ⟨τ', ν', w1, w2, w3⟩ := em_G hr hrm hu g1 (by omega) (show 5 < 12 by decide) y1 (show Int32.ofNat v1 = enc 5 v1 from rfl) (show (5 : Int32) = _ from rfl) rfl
        rw [e1, bnd, bnd, m1, bnd]
        simp only
        rw [w1, w2, bnd, bnd]
        simp only
        rw [if_neg (on_neg (by omega))]
        left
        exact ⟨τ', ν', [(5, v1)], nx T n b, enP T n b, rfl, rfl, w3, part_P (by decide), by have := nx_gt (T := T) hlt; simp only [List.length_cons, List.length_nil]; omega⟩
      · obtain ⟨μ2, m1, km1, m9⟩ := (rm_nI (lo := 0) (H := 1000) hrm hB a3 bb0 (show (0 : Int32) = _ from rfl) h999 (by decide) (by decide)).2 r1
        rw [e1, bnd, bnd, m1, bnd]
        simp only
        exact bad _ _ τ1 μ2 (-1) 5 k1 c1 o1 (kM_tr a2 km1) m9 rfl (cmb μ2)
    · rw [if_neg k48, if_pos rfl]
      have nn : numR T n b 0 1000 = none := by unfold numR numV; rw [if_neg (fun z => k48 z.1)]; rfl
      obtain ⟨μ2, m1, km1, m9⟩ := (rm_nI (lo := 0) (H := 1000) hrm hB a3 bb0 (show (0 : Int32) = _ from rfl) h999 (by decide) (by decide)).2 nn
      obtain ⟨τr, v1, v2, v3, v4⟩ := c_ref1 h8 h9
      have F : ∀ s, wT s = true → isT T n b s = false := fun s hs => isT_f hB hbn hs k97
      have fac : f_X2_readFact (σ, ρ) 79 = some (0, τr) := by
        unfold f_X2_readFact
        simp only [rd_in2 hr, bnd]
        rw [A 1 (by decide), bnd, A 13 (by decide), bnd, A 14 (by decide), bnd, A 15 (by decide), bnd, A 16 (by decide), bnd, F 1 (by decide), F 13 (by decide), F 14 (by decide), F 15 (by decide), F 16 (by decide)]
        simp only [bf0, if_true, bnd, v1]
      rw [fac, bnd, bnd, m1, bnd]
      simp only
      exact bad _ _ τr μ2 0 5 v3 v2 v4 (kM_tr a2 km1) m9 rfl (cmb μ2)
end VC
