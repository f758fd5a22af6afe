section UA
variable {σ σ0 μ μ0 τ ν κ : sg} {ρ ρm : rg} {n b q u a0 c0 t0 u0 : Nat} {T : Nat → Int32} {x : wg}
theorem bf0 : (bi false = 0) = True := by simp [bi]
theorem bt0 : (bi true = 0) = False := by simp [bi]
theorem ln_wr {J : Nat → Nat → sg → sg → Prop} {K : sg → sg → Prop} {R k : Nat} {C : Option sg} {M : Option (Int32 × sg)} (h : lnO J K ρ R T n k C M) : lnO J K ρ R T n k (C.bind (fun σ => some σ)) ((M.bind (fun y => if y.1 = 0 ∨ y.1 = 1 then some (y.1, y.2) else none)).bind (fun y => if y.1 = 0 then some (0, y.2) else some (1, y.2))) := by
  rcases h with ⟨σ', μ', b', q', rfl, rfl, h3⟩ | ⟨σ', μ', bb, rfl, rfl, h3⟩
  · exact Or.inl ⟨σ', μ', b', q', by rw [bnd], by rw [bnd]; simp only; rw [if_pos (Or.inr trivial), bnd]; simp only; rw [if_neg (by decide)], h3⟩
  · exact Or.inr ⟨σ', μ', bb, by rw [bnd], by rw [bnd]; simp only; rw [if_pos (Or.inl trivial), bnd]; simp only; rw [if_pos trivial], h3⟩
theorem ln_wr2 {J : Nat → Nat → sg → sg → Prop} {K : sg → sg → Prop} {R k : Nat} {C : Option sg} {M : Option (Int32 × sg)} (h : lnO J K ρ R T n k C M) : lnO J K ρ R T n k (C.bind (fun σ => some σ)) ((M.bind (fun y => if y.1 = 0 then some ((0 : Int32), y.2) else some ((1 : Int32), y.2))).bind (fun y => if y.1 = 0 then some (0, y.2) else some (1, y.2))) := by
  rcases h with ⟨σ', μ', b', q', rfl, rfl, h3⟩ | ⟨σ', μ', bb, rfl, rfl, h3⟩
  · exact Or.inl ⟨σ', μ', b', q', by rw [bnd], by rw [bnd]; simp only; rw [if_neg (by decide), bnd]; simp only; rw [if_neg (by decide)], h3⟩
  · exact Or.inr ⟨σ', μ', bb, by rw [bnd], by rw [bnd]; simp only; rw [if_pos trivial, bnd]; simp only; rw [if_pos trivial], h3⟩
theorem l_line (hr : rh ρ a0 c0) (hrm : rh ρm t0 u0) (hu : tn u) (hu2 : u ≠ 46) (hB : tB T n) {k : Nat} (hk : k < 14) (hj : JT σ0 μ0 u σ μ) (hc : cR σ ρ 77 T n b) (hok : σ 77 5 = -1) (hm : mS μ T n q) (hb : bgP T n q = b) : lnT σ0 μ0 u ρ T n (f_X10_readLine (σ, ρ) 76 u) (f_X12_readLine (μ, ρm) 105 1 (Int32.ofNat k)) := by
  have hu3 : 2 ≤ u ∧ u + 7 < 77 := by rcases hu with rfl | rfl | rfl <;> omega
  have hbn := hc.2.2.2.1
  obtain ⟨μ1, a1, a2, a3, a4⟩ := rm_let hrm hB hm
  rw [hb] at a3 a4
  have j1 : JT σ0 μ0 u σ μ1 := JT_k hu3.2 hj (fun _ _ => rfl) a2
  have W : ∀ s, wT s = true → f_X12_isWord (μ1, ρm) 105 (1000 + s) = some (bi (isT T n b s)) := fun s hs => rm_isW hrm hB a3 a4 hbn hs
  have A : ∀ s, s < 22 → f_X4_isAt (σ, ρ) 77 (1000 + s) = some (bi (isT T n b s)) := fun s hs => by rw [c_isAt hc hs, if_pos hok]
  have E : ∀ s, wT s = true → isT T n b s = true → mS μ1 T n (enP T n b) := fun s hs hi => by
    have : ltP T n b = enP T n b := by unfold ltP; rw [if_pos (isT_97 hB hbn hs hi)]
    rw [← this]; exact a3
  have O : ∀ s, s < 22 → isT T n b s = false → f_X4_took (σ, ρ) 77 (1000 + s) = some (0, σ) := fun s hs hi => c_took0 hc hs (fun z => by rw [hi] at z; exact absurd z.2 (by decide))
  unfold f_X12_readLine
  rw [a1, bnd]
  simp only
  rw [if_neg (by decide), bnd, if_pos (show Int32.ofNat k < 14 from (on_lt (b := 14) (by omega) (by decide)).mpr hk), if_neg (by decide)]
  unfold f_X12_readTownLine f_X10_readLine
  simp only [rd_in hr, bnd]
  rw [A 1 (by decide), bnd, W 1 (by decide), bnd]
  cases h1 : isT T n b 1 with
  | true =>
    rw [if_neg (show ¬ bi true = 0 by decide), if_neg (show ¬ bi true = 0 by decide)]
    exact ln_wr (l_house hr hrm hu hu2 hB j1 hc hok (E 1 (by decide) h1) a4)
  | false =>
    rw [if_pos (show bi false = 0 from rfl), if_pos (show bi false = 0 from rfl), A 3 (by decide), bnd, W 3 (by decide), bnd]
    cases h3 : isT T n b 3 with
    | true =>
      rw [if_neg (show ¬ bi true = 0 by decide), if_neg (show ¬ bi true = 0 by decide)]
      exact ln_wr (l_want hr hrm hu hu2 hB j1 hc hok (E 3 (by decide) h3) a4)
    | false =>
      rw [if_pos (show bi false = 0 from rfl), if_pos (show bi false = 0 from rfl), W 4 (by decide), bnd]
      cases h4 : isT T n b 4 with
      | true =>
        obtain ⟨τ, t1, t2, t3, t4⟩ := c_took1 hc (s := 4) (by decide) hok h4
        rw [if_neg (show ¬ bi true = 0 by decide), t1, bnd]
        simp only
        rw [if_neg (show ¬ (1 : Int32) = 0 by decide)]
        exact ln_wr (l_code hr hrm hu hu2 hB (Or.inl rfl) (JT_k hu3.2 j1 t3 kM_rf) t2 t4 (E 4 (by decide) h4) rfl)
      | false =>
        rw [if_pos (show bi false = 0 from rfl), O 4 (by decide) h4, bnd, W 5 (by decide), bnd]
        simp only
        rw [if_pos trivial]
        cases h5 : isT T n b 5 with
        | true =>
          obtain ⟨τ, t1, t2, t3, t4⟩ := c_took1 hc (s := 5) (by decide) hok h5
          rw [if_neg (show ¬ bi true = 0 by decide), t1, bnd]
          simp only
          rw [if_neg (show ¬ (1 : Int32) = 0 by decide)]
          exact ln_wr (l_code hr hrm hu hu2 hB (Or.inr rfl) (JT_k hu3.2 j1 t3 kM_rf) t2 t4 (E 5 (by decide) h5) rfl)
        | false =>
          rw [if_pos (show bi false = 0 from rfl), O 5 (by decide) h5, bnd, W 6 (by decide), bnd]
          simp only
          rw [if_pos trivial]
          cases h6 : isT T n b 6 with
          | true =>
            obtain ⟨τ, t1, t2, t3, t4⟩ := c_took1 hc (s := 6) (by decide) hok h6
            rw [if_neg (show ¬ bi true = 0 by decide), t1, bnd]
            simp only
            rw [if_neg (show ¬ (1 : Int32) = 0 by decide)]
            exact ln_wr (l_wind hr hrm hu hu2 hB (Or.inl rfl) (JT_k hu3.2 j1 t3 kM_rf) t2 t4 (E 6 (by decide) h6) rfl)
          | false =>
            rw [if_pos (show bi false = 0 from rfl), O 6 (by decide) h6, bnd, W 7 (by decide), bnd]
            simp only
            rw [if_pos trivial]
            cases h7 : isT T n b 7 with
            | true =>
              obtain ⟨τ, t1, t2, t3, t4⟩ := c_took1 hc (s := 7) (by decide) hok h7
              rw [if_neg (show ¬ bi true = 0 by decide), t1, bnd]
              simp only
              rw [if_neg (show ¬ (1 : Int32) = 0 by decide)]
              exact ln_wr2 (l_wind hr hrm hu hu2 hB (Or.inr rfl) (JT_k hu3.2 j1 t3 kM_rf) t2 t4 (E 7 (by decide) h7) rfl)
            | false =>
              obtain ⟨τ, v1, v2, v3, v4⟩ := c_ref1 hc hok
              rw [if_pos (show bi false = 0 from rfl), O 7 (by decide) h7, bnd, bnd]
              simp only
              rw [if_pos trivial, if_pos trivial, v1, bnd]
              right
              exact ⟨τ, μ1, b, rfl, rfl, ⟨kT_O j1.1 v3, j1.2.1⟩, hbn, v4, a4⟩
/-! opening -/
theorem rd_77 {R : Nat} : am_rd (am_u2 ρ R 0 (some 1)) R 0 2 = some 1 := by
  unfold am_rd am_u2
  rw [if_pos ⟨rfl, rfl⟩, bnd, if_pos (by decide)]
theorem c_open {R : Nat} (hR : R = 77 ∨ R = 80) (hn : n ≤ 400) (hT : ∀ k, k < n → σ 1 k = T k) : ∃ τ, f_X4_open (σ, ρ) R 1 (Int32.ofNat n) = some (.inl none, (τ, am_u2 ρ R 0 (some 1))) ∧ cR τ (am_u2 ρ R 0 (some 1)) R T n (bgP T n 0) ∧ τ R 5 = -1 ∧ kO R σ τ := by
  obtain ⟨s, hs⟩ : ∃ s, s = am_u2 (am_u2 (am_u2 σ R 1 (Int32.ofNat n)) R 3 0) R 5 (-1) := ⟨_, rfl⟩
  have s1 : s R 1 = Int32.ofNat n := by rw [hs, u2_nj (by decide), u2_nj (by decide), u2_eq]
  have s3 : s R 3 = Int32.ofNat 0 := by rw [hs, u2_nj (by decide), u2_eq]; rfl
  have so : ∀ o, o ≠ R → s o = σ o := fun o ho => by rw [hs, u2_row ho, u2_row ho, u2_row ho]
  obtain ⟨τ, a1, a2, a3, a4, a5⟩ := c_rstep (σ := s) (ρ := am_u2 ρ R 0 (some 1)) (R := R) (T := T) rd_77 (by omega) hn (Nat.zero_le n) s1 s3 (fun k hk => by rw [so 1 (by omega)]; exact hT k hk)
  obtain ⟨g1, g2, g3⟩ := bg_p (T := T) (Nat.zero_le n)
  refine ⟨τ, ?_, ⟨rd_77, hR, hn, g2, g3, by rw [a2 R 1 (by omega)]; exact s1, a3, a4, a5, fun k hk => by rw [a2 1 k (by omega), so 1 (by omega)]; exact hT k hk⟩, by rw [a2 R 5 (by omega), hs, u2_eq], fun o ho => funext (fun j => by rw [a2 o j (fun z => ho z.1), so o ho])⟩
  unfold f_X4_open f_J9_min_7cf53
  rw [ln_1, if_neg (fun z => by have := (on_lt (by omega) (by omega)).mp z; omega), bnd]
  simp only
  rw [← hs, a1, bnd]
theorem rh_R {R : Nat} (hR : R = 77 ∨ R = 80) {t : Nat} (h : rh ρ t u) : rh (am_u2 ρ R 0 (some 1)) t u := by
  refine ⟨fun o j ho he => ?_, h.2.1, ?_, ?_⟩
  · unfold am_u2
    rw [if_neg]
    · exact h.1 o j ho he
    · rintro ⟨rfl, rfl⟩
      rcases hR with rfl | rfl <;> exact absurd he (by decide)
  · unfold am_u2; rw [if_neg (by omega)]; exact h.2.2.1
  · unfold am_u2; rw [if_neg (by omega)]; exact h.2.2.2
theorem rh_sw {t : Nat} (h : rh ρ t u) : rh (am_u2 (am_u2 ρ 0 3 (some u)) 0 4 (some t)) u t := by
  refine ⟨fun o j ho he => ?_, h.2.1.symm.imp (fun z => ⟨z.2, z.1⟩) (fun z => ⟨z.2, z.1⟩), ?_, ?_⟩
  · have h3 : ¬ (o = 0 ∧ j = 3) := by rintro ⟨rfl, rfl⟩; exact absurd he (by decide)
    have h4 : ¬ (o = 0 ∧ j = 4) := by rintro ⟨rfl, rfl⟩; exact absurd he (by decide)
    unfold am_u2
    rw [if_neg h4, if_neg h3]
    exact h.1 o j ho he
  · unfold am_u2; rw [if_neg (by omega), if_pos ⟨rfl, rfl⟩]
  · unfold am_u2; rw [if_pos ⟨rfl, rfl⟩]
theorem m_copy {X : sg} {body : Int32 × sg → Option ((Int32 × sg) ⊕ sg)} {a d : Nat} (hbody : ∀ k y, k ≤ 1023 → body (Int32.ofNat k, y) = if Int32.ofNat k < 1023 then (am_ld y a (Int32.ofNat k)).bind (fun v => (am_st y d (Int32.ofNat k) v).bind (fun s => some (.inl (Int32.ofNat k + 1, s)))) else some (.inr y)) (hd : a ≠ d) (hla : 1023 ≤ am_ln a) (hld : 1023 ≤ am_ln d) : ∃ Y, am_loop body am_fuel (0, X) = some Y ∧ (∀ o, o ≠ d → Y o = X o) ∧ (∀ k, k < 1023 → Y d k = X a k) ∧ (∀ k, 1023 ≤ k → Y d k = X d k) := by
  obtain ⟨Y, l1, l2⟩ := lp_rule (body := body) 1023 (fun k (x : Int32 × sg) => x.1 = Int32.ofNat k ∧ (∀ o, o ≠ d → x.2 o = X o) ∧ (∀ i, i < k → x.2 d i = X a i) ∧ (∀ i, 1023 ≤ i → x.2 d i = X d i)) (fun (Y : sg) => (∀ o, o ≠ d → Y o = X o) ∧ (∀ k, k < 1023 → Y d k = X a k) ∧ (∀ k, 1023 ≤ k → Y d k = X d k)) (x := ((0 : Int32), X)) ⟨rfl, fun _ _ => rfl, fun i hi => by omega, fun _ _ => rfl⟩ (fun k x hk hx => by
    obtain ⟨x1, x2⟩ := x
    obtain ⟨y1, y2, y3, y4⟩ := hx
    simp only at y1 y2 y3 y4
    subst y1
    rw [hbody k x2 hk]
    by_cases c : k < 1023
    · left
      rw [if_pos (show Int32.ofNat k < 1023 from (on_lt (b := 1023) (by omega) (by decide)).mpr c), ld_on (by omega) (by omega), bnd, st_on (by omega) (by omega), bnd, on_s]
      refine ⟨_, rfl, c, rfl, fun o ho => (u2_row ho).trans (y2 o ho), fun i hi => ?_, fun i hi => ?_⟩
      · show am_u2 x2 d k (x2 a k) d i = X a i
        by_cases e : i = k
        · rw [e, u2_eq, y2 a hd]
        · rw [u2_nj e]; exact y3 i (by omega)
      · show am_u2 x2 d k (x2 a k) d i = X d i
        rw [u2_nj (by omega)]; exact y4 i hi
    · right
      rw [if_neg (show ¬ Int32.ofNat k < 1023 from fun z => c ((on_lt (b := 1023) (by omega) (by decide)).mp z))]
      exact ⟨_, rfl, y2, fun i hi => y3 i (by omega), y4⟩) (by decide)
  exact ⟨Y, l1, l2⟩
end UA
