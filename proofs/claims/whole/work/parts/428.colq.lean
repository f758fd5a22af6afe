section CQ
variable {σ : sg} {ρ : rg} {t u : Nat} {w wi : wg}
/-- the fewest -/
theorem few (w : wg) : ∃ K g, K ≤ nH w ∧ ls (hm w) K (nH w) 0 f0 = some g ∧ ∀ k, k < K → ls (hm w) k (nH w) 0 f0 = none := by
  have h1 : (ff (fun k => (ls (hm w) k (nH w) 0 f0).isSome) 0 (nH w + 1)).isSome = true := by
    rw [ff_any]
    exact anyN_iff.mpr ⟨nH w, by omega, ls_all⟩
  obtain ⟨K, hK⟩ := Option.isSome_iff_exists.mp h1
  obtain ⟨-, h2, h3, h4⟩ := ff_some.mp hK
  obtain ⟨g, hg⟩ := Option.isSome_iff_exists.mp h3
  refine ⟨K, g, by omega, hg, fun k hk => ?_⟩
  have := h4 k (by omega) hk
  cases e : ls (hm w) k (nH w) 0 f0 with
  | none => rfl
  | some x => rw [e] at this; cases this
theorem c_paints (H : tS σ ρ t w) {K : Nat} {g : Nat → Nat} (hK : K ≤ nH w) (hg : ls (hm w) K (nH w) 0 f0 = some g) (hno : ∀ k, k < K → ls (hm w) k (nH w) 0 f0 = none) : ∃ τ, f_X7_paint (σ, ρ) 82 t = some (Int32.ofNat K, τ) ∧ ag σ τ ∧ ∀ i, i < nH w → τ 83 i = Int32.ofNat (g i) := by
  have hH := (wv_H H.2.2.2).2
  obtain ⟨a, b, hr⟩ := H.1
  obtain ⟨s1, p1, p2, p3⟩ := lp_rule (body := f_X7_paint_b2 (σ, ρ) 82 t) (nH w)
    (fun k y => y.1 = Int32.ofNat k ∧ (∀ o, o ≠ 84 → y.2 o = σ o) ∧ (∀ j, j < k → y.2 84 j = Int32.ofNat (bm (hm w j) (nH w))))
    (fun d => (∀ o, o ≠ 84 → d o = σ o) ∧ (∀ j, j < nH w → d 84 j = Int32.ofNat (bm (hm w j) (nH w))))
    (x := (0, σ)) ⟨rfl, fun _ _ => rfl, fun j hj => absurd hj (by omega)⟩ (fun k y hk hy => by
      obtain ⟨i, τ⟩ := y
      obtain ⟨rfl, y1, y2⟩ := hy
      simp only at y1 y2
      have H' := tS_ag H (show ag σ τ from fun o j es1 => by rw [y1 o (by rintro rfl; rw [es_0 rfl] at es1; cases es1)])
      unfold f_X7_paint_b2
      simp only [rd_har hr, bnd, c_H H']
      by_cases e : k < nH w
      · left
        rw [if_pos (lt_y e (by omega)), if_pos (show Int32.ofNat k < 8 from (on_lt (b := 8) (by omega) (by decide)).mpr (by omega)), c_harmed H' (by omega), bnd, st_on (by rw [ln_84]; omega) (by omega)]
        simp only [bnd, on_s]
        refine ⟨_, rfl, e, rfl, fun o ho => ?_, fun j hj => ?_⟩
        · show am_u2 τ 84 k _ o = _
          rw [u2_row ho, y1 o ho]
        · show am_u2 τ 84 k _ 84 j = _
          by_cases q : j = k
          · subst q; rw [u2_eq]
          · rw [u2_nj q, y2 j (by omega)]
      · right
        have : k = nH w := by omega
        subst this
        rw [if_neg (lt_n (by omega))]
        exact ⟨_, rfl, y1, y2⟩) (by omega)
  have key : ∀ (k : Nat) (τ : sg), k ≤ nH w → (∀ o, o ≠ 83 → τ o = s1 o) → ∃ (r : Int32) (υ : sg), f_X7_isPainted 60 (τ, ρ) 82 0 0 (Int32.ofNat k) (Int32.ofNat (nH w)) = some (r, υ) ∧ (∀ o, o ≠ 83 → υ o = s1 o) ∧ ((∃ g, ls (hm w) k (nH w) 0 f0 = some g ∧ r = 1 ∧ ∀ i, i < nH w → υ 83 i = Int32.ofNat (g i)) ∨ (ls (hm w) k (nH w) 0 f0 = none ∧ r = 0)) := fun k τ hk hτ => by
    obtain ⟨r, υ, g1, g2, -, g4⟩ := c_paint hr H.2.2.2 (k := k) (by omega) (nH w) 60 0 0 τ f0 (by omega) (by omega) (by omega) (fun i hi => absurd hi (by omega)) (fun i hi => by rw [hτ 84 (by decide)]; exact p3 i hi)
    rw [cs_ls (nH w) 0 0 f0 (fun i hi => absurd hi (by omega))] at g4
    exact ⟨r, υ, g1, fun o ho => by rw [g2 o ho, hτ o ho], g4⟩
  have hs1 : ∀ τ : sg, (∀ o, o ≠ 83 → τ o = s1 o) → τ t 0 = Int32.ofNat (nH w) := fun τ hτ => by
    have ht : t ≠ 83 ∧ t ≠ 84 := by rcases H.2.1 with rfl | rfl | rfl <;> decide
    rw [hτ t ht.1, p2 t ht.2]; exact c_H H
  obtain ⟨d, h1, h2⟩ := lp_rule (body := f_X7_paint_b35 (s1, ρ) 82 t) (nH w)
    (fun k y => y.1 = Int32.ofNat k ∧ (∀ o, o ≠ 83 → y.2 o = s1 o) ∧ k ≤ K)
    (fun d => (K < nH w ∧ ∃ τ : sg, d = .inr (Int32.ofNat K, τ) ∧ (∀ o, o ≠ 83 → τ o = s1 o) ∧ ∀ i, i < nH w → τ 83 i = Int32.ofNat (g i)) ∨ (K = nH w ∧ ∃ τ : sg, d = .inl τ ∧ (∀ o, o ≠ 83 → τ o = s1 o)))
    (x := (0, s1)) ⟨rfl, fun _ _ => rfl, by omega⟩ (fun k y hk hy => by
      obtain ⟨i, τ⟩ := y
      obtain ⟨rfl, y1, y2⟩ := hy
      simp only at y1
      unfold f_X7_paint_b35
      simp only [hs1 τ y1]
      by_cases e : k < nH w
      · rw [if_pos (lt_y e (by omega))]
        obtain ⟨r, υ, g1, g2, g3⟩ := key k τ (by omega) y1
        rw [g1, bnd]
        by_cases z : k = K
        · subst z
          right
          rcases g3 with ⟨g', x1, x2, x3⟩ | ⟨x1, -⟩
          · rw [hg] at x1
            cases x1
            simp only [x2]
            rw [if_neg (by decide)]
            exact ⟨_, rfl, Or.inl ⟨e, υ, rfl, g2, x3⟩⟩
          · rw [hg] at x1; cases x1
        · left
          have hk2 : k < K := by omega
          rcases g3 with ⟨g', x1, -, -⟩ | ⟨-, x2⟩
          · rw [hno k hk2] at x1; cases x1
          · simp only [x2, if_true, on_s]
            exact ⟨_, rfl, e, rfl, g2, by omega⟩
      · right
        have : k = nH w := by omega
        subst this
        rw [if_neg (lt_n (by omega))]
        exact ⟨_, rfl, Or.inr ⟨by omega, τ, rfl, y1⟩⟩) (by omega)
  have agf : ∀ τ : sg, (∀ o, o ≠ 83 → τ o = s1 o) → ag σ τ := fun τ hτ o j es1 => by
    rw [hτ o (by rintro rfl; rw [es_0 rfl] at es1; cases es1), p2 o (by rintro rfl; rw [es_0 rfl] at es1; cases es1)]
  unfold f_X7_paint
  rw [p1, bnd, h1, bnd]
  rcases h2 with ⟨-, τ, rfl, x2, x3⟩ | ⟨x1, τ, rfl, x2⟩
  · exact ⟨τ, rfl, agf τ x2, x3⟩
  · subst x1
    simp only [hs1 τ x2]
    obtain ⟨r, υ, g1, g2, g3⟩ := key (nH w) τ (Nat.le_refl _) x2
    rw [g1, bnd]
    rcases g3 with ⟨g', y1, y2, y3⟩ | ⟨y1, -⟩
    · rw [hg] at y1
      cases y1
      exact ⟨υ, by simp only [hs1 υ g2], agf υ g2, y3⟩
    · rw [hg] at y1; cases y1
theorem M_cols (H : wS σ ρ w) {K : Nat} {g : Nat → Nat} (hK : K ≤ nH w) (hg : ls (hm w) K (nH w) 0 f0 = some g) (hno : ∀ k, k < K → ls (hm w) k (nH w) 0 f0 = none) {p : Int32} : ∃ τ, am_loop (f_X12_colours_b35 (σ, ρ) 105 p) am_fuel (0, σ) = some (Int32.ofNat K, τ) ∧ (∀ o, o ≠ 114 → τ o = σ o) ∧ ∀ i, i < nH w → τ 114 i = Int32.ofNat (g i) := by
  have hH := (wv_H H.2.2).2
  obtain ⟨d, h1, h2⟩ := lp_rule (body := f_X12_colours_b35 (σ, ρ) 105 p) K
    (fun k y => y.1 = Int32.ofNat k ∧ (∀ o, o ≠ 114 → y.2 o = σ o))
    (fun d => d.1 = Int32.ofNat K ∧ (∀ o, o ≠ 114 → d.2 o = σ o) ∧ ∀ i, i < nH w → d.2 114 i = Int32.ofNat (g i))
    (x := (0, σ)) ⟨rfl, fun _ _ => rfl⟩ (fun k y hk hy => by
      obtain ⟨i, τ⟩ := y
      obtain ⟨rfl, y1⟩ := hy
      simp only at y1
      have H' : wS τ ρ w := ⟨H.1, fun x hx => by rw [y1 106 (by decide)]; exact H.2.1 x hx, H.2.2⟩
      unfold f_X12_colours_b35
      simp only
      obtain ⟨υ, m1, m2⟩ := M_paints H' (k := k) (by omega)
      by_cases z : k = K
      · subst z
        right
        rcases m2 with ⟨g', x1, x2, x3⟩ | ⟨x1, -⟩
        · rw [hg] at x1
          cases x1
          rw [x2, bnd]
          simp only
          rw [if_neg (by decide)]
          exact ⟨_, rfl, rfl, fun o ho => by show υ o = _; rw [m1 o ho, y1 o ho], x3⟩
        · rw [hg] at x1; cases x1
      · left
        rcases m2 with ⟨g', x1, -, -⟩ | ⟨-, x2⟩
        · rw [hno k (by omega)] at x1; cases x1
        · rw [x2, bnd]
          simp only [if_true, on_s]
          exact ⟨_, rfl, by omega, rfl, fun o ho => by show υ o = _; rw [m1 o ho, y1 o ho]⟩) (by omega)
  exact ⟨d.2, by rw [h1, ← h2.1], h2.2⟩
theorem q_colours (I : Iv σ ρ t u w wi) (p : Int32) : Rq σ ρ w [(0, 1)] (f_X11_colours (σ, ρ) 0 p) (fun S => f_X12_colours S 105 p) := by
  have hH := (wv_H I.2.2.1).2
  obtain ⟨K, g, hK, hg, hno⟩ := few w
  obtain ⟨τ, c1, c2, c3⟩ := c_paints (Iv_t I) hK hg hno
  have agM : ∀ (σ' υ : sg), (∀ o, o ≠ 114 → υ o = am_u2 σ' 105 0 0 o) → ag2 σ' υ ∧ υ 105 0 = 0 := fun σ' υ h => by
    refine ⟨⟨fun o j es1 => ?_, ?_⟩, ?_⟩
    · rw [h o (by rintro rfl; rw [es_0 rfl] at es1; cases es1)]; exact ag2_z.1 o j es1
    · rw [h 122 (by decide)]; exact ag2_z.2
    · rw [h 105 (by decide), u2_eq]
  by_cases hn : p = -1
  · subst hn
    refine Rq_r (r := Int32.ofNat K) (σ1 := τ) ?_ c2 (fun σ' H0 => ?_)
    · unfold f_X11_colours
      rw [if_pos rfl]
      simp only [rd_shr I.1, c_now I, bnd, c1, if_true]
    · obtain ⟨υ, m1, m2, m3⟩ := M_cols (wS_z H0) hK hg hno (p := -1)
      obtain ⟨a1, a2⟩ := agM σ' υ m2
      refine ⟨υ, ?_, a1, a2⟩
      show f_X12_colours _ 105 _ = _
      unfold f_X12_colours
      rw [if_pos rfl]
      simp only [bnd, th0]
      rw [if_pos trivial, m1, bnd, if_pos trivial]
  · rcases dic (nH w) p with ⟨h, hh, rfl⟩ | hp
    · refine Rq_r (r := Int32.ofNat (g h)) (σ1 := τ) ?_ c2 (fun σ' H0 => ?_)
      · unfold f_X11_colours
        rw [if_neg hn, c_nH0 I hh, thV_n]
        simp only [rd_shr I.1, c_now I, bnd, c1]
        rw [if_neg hn]
        simp only [rd_col I.1, bnd]
        rw [ld_on (by rw [ln_83]; omega) (by omega), c3 h hh, bnd]
      · have H := wS_z H0
        obtain ⟨υ, m1, m2, m3⟩ := M_cols H hK hg hno (p := Int32.ofNat h)
        obtain ⟨a1, a2⟩ := agM σ' υ m2
        refine ⟨υ, ?_, a1, a2⟩
        show f_X12_colours _ 105 _ = _
        unfold f_X12_colours
        rw [if_neg hn]
        simp only [M_nH0 H hh, bnd, if_true, th0]
        rw [m1, bnd, if_neg hn]
        simp only [rd_colM I.1, bnd]
        rw [ld_on (by rw [ln_114]; omega) (by omega), m3 h hh, bnd]
    · refine Rq_t (k := 0) (b := 0) (c := 1) (σ1 := σ) ?_ ag_rf rfl (by decide) (fun σ' H => ?_)
      · unfold f_X11_colours
        rw [if_neg hn, c_nH1 I hp, thV_x]
      · unfold f_X12_colours
        rw [if_neg hn]
        simp only [M_nH1 H hp, bnd, i10, if_false, th1, zz]
end CQ
