section UD
variable {σ X μ τ : sg} {ρ ρm : rg} {t u n a0 c0 t0 u0 : Nat} {w wi y : wg} {T : Nat → Int32}
theorem thI_n {v : Int32} {S : am_S} {f : Int32 → am_S → Option am_R} : am_thI (some (.inl (some (.int v)), S)) f = f v S := rfl
theorem lwR_c3 {σ τ : sg} {t : Nat} {w w' : wg} (h : lwR σ t w) (hw : ∀ k, k = 3 ∨ (186 ≤ k ∧ k < 1023) → w' k = w k) (h9 : τ (t + 9) 0 = σ (t + 9) 0) (h10 : ∀ j, j < 12 → τ (t + 10) j = σ (t + 10) j) (h11 : ∀ j, j < 12 → τ (t + 11) j = σ (t + 11) j) (h12 : ∀ j, j < 400 → τ (t + 12) j = σ (t + 12) j) : lwR τ t w' := by
  unfold lwR at *
  rw [h9, hw 3 (by omega)]
  refine h.imp id (fun ⟨a, L, e, s, n, ⟨o1, o2, o3, o4, o5, o6⟩, b, c, d⟩ => ⟨a, L, e, s, n, ⟨o1, by rw [hw _ (by omega)]; exact o2, o3, o4, fun k hk => ?_, fun i hi => ?_⟩, b, fun k hk => ?_, fun i hi => ?_⟩)
  · rw [hw _ (by omega), hw _ (by omega)]; exact o5 k hk
  · rw [hw _ (by omega), hw _ (by omega)]; exact o6 i hi
  · rw [hw _ (by omega), h10 k (by omega), h11 k (by omega)]; exact c k hk
  · rw [h12 i (by omega)]; exact d i hi
theorem tx_ok {s m : sg} (hu : tn u) (hT : TD s u (m 106)) (hw : wv (m 106)) {a : Nat} (ha : a < 10) : TD (am_u2 s u 2 (Int32.ofNat (a + 1))) u (am_u2 m 106 2 (Int32.ofNat (a + 1)) 106) ∧ wv (am_u2 m 106 2 (Int32.ofNat (a + 1)) 106) ∧ nH (am_u2 m 106 2 (Int32.ofNat (a + 1)) 106) = nH (m 106) ∧ nR (am_u2 m 106 2 (Int32.ofNat (a + 1)) 106) = nR (m 106) := by
  obtain ⟨y, hy⟩ : ∃ y, y = am_u2 m 106 2 (Int32.ofNat (a + 1)) 106 := ⟨_, rfl⟩
  have y2 : y 2 = Int32.ofNat (a + 1) := by rw [hy, u2_eq]
  have yo : ∀ k, k ≠ 2 → y k = m 106 k := fun k hk => by rw [hy, u2_nj hk]
  rw [← hy]
  have hH := (wv_H hw).2
  have hW := (wv_W hw).2
  have hN := (wv_R hw).2
  obtain ⟨wy, eH, eW, eN⟩ := wv_mk (x := y) (H := nH (m 106)) (W := nW (m 106)) (N := nR (m 106)) (by rw [yo 0 (by decide)]; exact (wv_H hw).1) hH (by rw [yo 1 (by decide)]; exact (wv_W hw).1) hW (by rw [yo 4 (by decide)]; exact (wv_R hw).1) hN
    (fun a ha v hv => by rw [yo _ (by omega)]; obtain ⟨q1, q2, q3, q4⟩ := wv_wd hw ha hv; exact ⟨_, q2, q3, q4, q1⟩)
    (fun g hg => by rw [yo _ (by omega), yo _ (by omega), yo _ (by omega), yo _ (by omega), yo _ (by omega)]; exact wv_at hw hg)
    (fun v hv => by rw [yo _ (by omega)]; exact wv_ur hw hv)
    (by rw [yo _ (by omega)]; exact wv_x hw) (by rw [yo _ (by omega)]; exact wv_y hw)
    (fun r hr => by rw [yo _ (by omega), yo _ (by omega), yo _ (by omega), yo _ (by omega)]; exact wv_r hw hr) ⟨a + 1, by omega, y2⟩
  refine ⟨?_, wy, eH, eN⟩
  obtain ⟨⟨f0, f1, f2, f3, f4, f5⟩, th, tv, tww⟩ := hT
  refine ⟨⟨?_, ?_, ?_, ?_, ?_, ?_⟩, fun g hg => ?_, fun v hv => ?_, fun g hg v hv => ?_⟩
  · rw [u2_nj (by decide), yo 0 (by decide)]; exact f0
  · rw [u2_nj (by decide), yo 1 (by decide)]; exact f1
  · rw [u2_eq, y2]
  · rw [u2_nj (by decide), yo 5 (by decide)]; exact f3
  · rw [u2_nj (by decide), yo 6 (by decide)]; exact f4
  · rw [u2_nj (by decide), yo 7 (by decide)]; exact f5
  · rw [eH] at hg
    rw [u2_ne (by omega), u2_ne (by omega), u2_ne (by omega), u2_ne (by omega), u2_ne (by omega), yo _ (by omega), yo _ (by omega), yo _ (by omega), yo _ (by omega), yo _ (by omega)]; exact th g hg
  · rw [eW] at hv
    rw [u2_ne (by omega), yo _ (by omega)]; exact tv v hv
  · rw [eH, u2_ne (by omega)]; unfold wd; rw [yo _ (by omega)]; exact tww g hg v hv
theorem rd_tt (h : rh ρ t0 u0) : am_rd ρ 0 9 110 = some 76 := rh_rd h (by decide) (by decide) (by decide +kernel)
theorem tw_rows {F : sg} (h : tw σ t w) (k : ∀ i, i ≤ 19 → F (t + i) = σ (t + i)) : tw F t w := by
  have k0 := k 0 (by decide)
  exact tw_cg h k0 (k 1 (by decide)) (k 2 (by decide)) (k 3 (by decide)) (k 4 (by decide)) (k 5 (by decide)) (k 6 (by decide)) (k 7 (by decide)) (k 8 (by decide)) (by rw [k 9 (by decide)]) (k 10 (by decide)) (k 11 (by decide)) (k 12 (by decide)) (by rw [k 15 (by decide)]) (k 16 (by decide)) (k 17 (by decide)) (k 18 (by decide)) (k 19 (by decide))
theorem q_town (I : Iv σ ρ t u w wi) : Rs [(1, 1), (2, 2)] (f_X11_town (σ, ρ) 0) (fun S => f_X12_town S 105) := by
  have I0 := I
  obtain ⟨hr, hw6, hw, htw, ⟨n, n1, n2, n3, n4⟩, h02, hI, hS⟩ := I
  obtain ⟨ht, hu, hne⟩ := rh_tn hr
  have tu := hr.2.1
  obtain ⟨σ1, p1, p2, p3, p4, p5, p6, p7, p8, p9, p10, p11, p12, p13⟩ := c_cpT (σ := σ) hr hu ht (Ne.symm hne) (fun i hi => hS t ht i hi)
  have tw1 := tw_cp htw hw p2 p3 p4 p5 p6 p7 p8 p9 p10 p11 p12
  have hB : tB (σ 1) n := fun k hk => (n4 k hk).2
  obtain ⟨τ, o1, o2, o3, o4⟩ := c_open (σ := σ1) (ρ := ρ) (R := 77) (T := σ 1) (n := n) (Or.inl rfl) n1 (fun k hk => by rw [p13 1 (by omega)])
  obtain ⟨ρ1, hρ1⟩ : ∃ x, x = am_u2 ρ 77 0 (some 1) := ⟨_, rfl⟩
  rw [← hρ1] at o1 o2
  have hr1 : rh ρ1 t u := by rw [hρ1]; exact rh_R (Or.inl rfl) hr
  have hTD : TD τ u w := TD_cg (σ := σ1) ⟨tw1.1, tw1.2.1, tw1.2.2.1, tw1.2.2.2.1⟩ (fun i hi => o4 _ (by omega))
  have fτ : ∀ o, o ≠ 77 → (o < u ∨ u + 19 < o) → τ o = σ o := fun o h1 h2 => (o4 o h1).trans (p13 o h2)
  have run := fun (X : sg) (ρm : rg) (a b : Nat) (hrm : rh ρm a b) (h6 : X 105 6 = Int32.ofNat n) (h109 : X 109 = σ 109) (h106 : X 106 = σ 106) => town_run (τ := τ) (w := w) (X := X) hr1 hrm hu (by omega) hB n1 o2 o3 hTD hw h6 (fun k hk => by rw [h109]; exact (n4 k hk).1) (fun k hk => by rw [h106]; exact hw6 k hk)
  have pre : ∀ (σ' : sg), am_loop (f_X10_readInto_b12 (τ, ρ1) 76 u) am_fuel (0, τ) = some σ' → f_X10_readInto (σ1, ρ) 76 u 1 (Int32.ofNat n) = some (.inl (some (.int (σ' 77 5))), (σ', ρ1)) := fun σ' h => by
    unfold f_X10_readInto
    rw [rd_in hr, bnd, o1, thV_n]
    simp only
    rw [h, bnd, rd_in hr1, bnd]
  have s01 : σ1 0 1 = Int32.ofNat n := by rw [p13 0 (by omega)]; exact n2
  -- the frame of what the class leaves, and of what the model leaves
  have frC : ∀ (σ' : sg) (v : Int32), kT u τ σ' → ∀ o, o ≠ 0 → o ≠ 77 → (o < u ∨ u + 19 < o) → am_u2 (am_u2 σ' 0 2 v) 0 1 0 o = σ o := fun σ' v hk o h1 h2 h3 => by
    rw [u2_row h1, u2_row h1, hk o h2 (by omega)]; exact fτ o h2 h3
  have fr0 : ∀ (σ' : sg) (v : Int32), kT u τ σ' → ∀ j, j ≠ 1 → j ≠ 2 → am_u2 (am_u2 σ' 0 2 v) 0 1 0 0 j = σ 0 j := fun σ' v hk j h1 h2 => by
    rw [u2_nj h1, u2_nj h2, hk 0 (by decide) (by omega), fτ 0 (by decide) (by omega)]
  have fru : ∀ (σ' : sg) (v : Int32), kT u τ σ' → ∀ i, 8 ≤ i → i ≤ 19 → am_u2 (am_u2 σ' 0 2 v) 0 1 0 (u + i) = σ1 (u + i) := fun σ' v hk i h1 h2 => by
    rw [u2_row (by omega), u2_row (by omega), hk _ (by omega) (by omega), o4 _ (by omega)]
  have failI : ∀ (σ' Z : sg) (v : Int32) (μ' Y : sg), kT u τ σ' → kW (uX n Y) μ' → (∀ o, o ≠ 108 → Y o = am_u2 (am_u2 σ' 0 2 v) 0 1 0 o) → (∀ k, k < 1023 → Y 108 k = am_u2 (am_u2 σ' 0 2 v) 0 1 0 106 k) → (∀ o, o ≠ 105 → o ≠ 106 → Z o = μ' o) → (∀ j, j ≠ 0 → j ≠ 11 → Z 105 j = μ' 105 j) → Z 105 11 = v → (∀ k, k < 1023 → Z 106 k = μ' 108 k) → Iv Z ρ1 t u w wi := by
    intro σ' Z v μ' Y hk hW hY hY8 hZ hZ5 hZ11 hZ6
    have zo : ∀ o, o ≠ 105 → o ≠ 106 → o ≠ 108 → Z o = am_u2 (am_u2 σ' 0 2 v) 0 1 0 o := fun o h1 h2 h3 => by
      rw [hZ o h1 h2, hW.1 o h1 h2, uX_o h1, hY o h3]
    have z8 : ∀ k, k < 1023 → Z 106 k = w k := fun k hk' => by
      rw [hZ6 k hk', hW.1 108 (by decide) (by decide), uX_o (by decide), hY8 k hk', frC σ' v hk 106 (by decide) (by decide) (by omega)]
      exact hw6 k hk'
    refine Iv_end I0 (fun o h0 h77 h80 h105 h106 h108 h122 h1 h2 => ?_) ?_ ?_ ?_ ?_ ?_ (fun i hi => ?_) (fun i hi => ?_) hr1 z8 hw (tw_rows htw (fun i hi => ?_))
    · rw [zo o h105 h106 h108]; exact frC σ' v hk o h0 h77 (by omega)
    · rw [zo 0 (by decide) (by decide) (by decide)]; exact fr0 σ' v hk 6 (by decide) (by decide)
    · rw [zo 0 (by decide) (by decide) (by decide), u2_eq]
    · rw [hZ5 6 (by decide) (by decide), hW.2.1 6 (by decide) (by decide)]
      unfold uX
      rw [u2_nj (by decide), u2_nj (by decide), u2_eq]
    · rw [zo 0 (by decide) (by decide) (by decide), u2_nj (by decide), u2_eq, hZ11]
    · rw [hZ5 4 (by decide) (by decide), hW.2.1 4 (by decide) (by decide)]
      unfold uX
      rw [u2_nj (by decide), u2_nj (by decide), u2_nj (by decide), u2_nj (by decide), u2_nj (by decide), hY 105 (by decide), frC σ' v hk 105 (by decide) (by decide) (by omega)]
    · rw [zo _ (by omega) (by omega) (by omega), fru σ' v hk 12 (by decide) (by decide), p10 i hi]; exact hS t ht i hi
    · rw [zo _ (by omega) (by omega) (by omega), frC σ' v hk _ (by omega) (by omega) (by omega)]; exact hS t ht i hi
    · rw [zo _ (by omega) (by omega) (by omega), frC σ' v hk _ (by omega) (by omega) (by omega)]
  have i105 : ∀ (σ' : sg) (v : Int32), kT u τ σ' → am_u2 (am_u2 σ' 0 2 v) 0 1 0 105 6 = Int32.ofNat n := fun σ' v hk => by rw [frC σ' v hk 105 (by decide) (by decide) (by omega)]; exact n3
  rcases run σ ρ t u hr n3 rfl rfl with ⟨L, σ', μd, d1, d2, d3, ⟨-, d4⟩, d5⟩ | ⟨σ', μd, bb, d1, d2, d3, d4, d5, d6⟩
  · obtain ⟨a, a1, a2⟩ := wv_2 hw
    have hk := d4.1
    obtain ⟨A, hA⟩ : ∃ A, A = am_u2 (am_u2 σ' 0 2 (-1)) 0 1 0 := ⟨_, rfl⟩
    have A02 : A 0 2 = -1 := by rw [hA, u2_nj (by decide), u2_eq]
    have At2 : A t 2 = Int32.ofNat a := by rw [hA, frC σ' (-1) hk t (by omega) (by omega) (by omega), htw.1.2.2.1]; exact a2
    obtain ⟨ρ2, hρ2⟩ : ∃ x, x = am_u2 (am_u2 ρ1 0 3 (some u)) 0 4 (some t) := ⟨_, rfl⟩
    have cls : f_X11_town (σ, ρ) 0 = (if A t 2 < 10 then (am_rd ρ2 0 3 109).bind (fun q13 => (am_rd ρ2 0 3 109).bind (fun q14 => (f_X9_measureWays (am_u2 A q13 2 (A q13 2 + 1), ρ2) q14).bind (fun σ15 => (am_rd ρ2 0 3 109).bind (fun q16 => some (.inl (some (.int (σ15 q16 2))), (σ15, ρ2)))))) else some (.inr 2, (A, ρ1))) := by
      unfold f_X11_town
      simp only [rh_spare hr, rh_now hr, bnd, rd_tt hr, rd_tape hr]
      rw [p1, bnd, s01, pre σ' d1, thI_n]
      simp only
      rw [d5, ← hA, if_pos A02, rh_now hr1, bnd, bnd, rh_spare hr1, bnd, ← hρ2]
    by_cases c : a < 10
    · -- a town more
      have hr2 : rh ρ2 u t := by rw [hρ2]; exact rh_sw hr1
      have mdA : TD A u (μd 106) := TD_cg d4.2.2.1 (fun i hi => by rw [hA, u2_row (by omega), u2_row (by omega)])
      have m2d : ∀ (Y μ' : sg), JT τ (uX n Y) u σ' μ' → Y 106 = σ 106 → μ' 106 2 = Int32.ofNat a := fun Y μ' h hY => by
        rw [h.2.1.2.2 2 (by omega), uX_o (by decide), hY, hw6 2 (by decide)]; exact a2
      have Au2 : A u 2 = Int32.ofNat a := by rw [mdA.1.2.2.1]; exact m2d σ μd d4 rfl
      obtain ⟨B, hBB⟩ : ∃ B, B = am_u2 A u 2 (Int32.ofNat (a + 1)) := ⟨_, rfl⟩
      obtain ⟨x1, x2, x3, x4⟩ := tx_ok (s := A) (m := μd) hu mdA d4.2.2.2 c
      rw [← hBB] at x1
      obtain ⟨σ15, w1, w2, w3⟩ := c_mw hr2 hu x1 x2
      obtain ⟨r, hrr⟩ : ∃ r, r = Int32.ofNat (a + 1) := ⟨_, rfl⟩
      have s15u : σ15 u 2 = r := by rw [w2 u (by omega), hBB, u2_eq, hrr]
      have cls2 : f_X11_town (σ, ρ) 0 = some (.inl (some (.int r)), (σ15, ρ2)) := by
        rw [cls, At2, if_pos (show Int32.ofNat a < 10 from (on_lt (b := 10) (by omega) (by decide)).mpr c), rh_now hr2, bnd, bnd, Au2, on_s, ← hBB, w1, bnd, bnd, s15u]
      have s15o : ∀ o, o ≠ 0 → o ≠ 77 → (o < u ∨ u + 19 < o) → σ15 o = σ o := fun o h1 h2 h3 => by
        rw [w2 o (by omega), hBB, u2_row (by omega), hA]; exact frC σ' (-1) hk o h1 h2 h3
      have s15u' : ∀ i, 9 ≤ i → i ≤ 19 → σ15 (u + i) = σ1 (u + i) := fun i h1 h2 => by
        rw [w2 _ (by omega), hBB, u2_row (by omega), hA]; exact fru σ' (-1) hk i (by omega) h2
      have s150 : ∀ j, j ≠ 1 → j ≠ 2 → σ15 0 j = σ 0 j := fun j h1 h2 => by
        rw [w2 0 (by omega), hBB, u2_ne (by omega), hA]; exact fr0 σ' (-1) hk j h1 h2
      obtain ⟨Y, y1, y2, y3⟩ := m_keep (X := am_u2 σ15 122 0 r) hr2
      have Yo : ∀ o, o ≠ 108 → o ≠ 122 → Y o = σ15 o := fun o h1 h2 => by rw [y2 o h1, u2_row h2]
      rcases run Y ρ2 u t hr2 (by rw [Yo 105 (by decide) (by decide), s15o 105 (by decide) (by decide) (by omega)]; exact n3) (by rw [Yo 109 (by decide) (by decide), s15o 109 (by decide) (by decide) (by omega)]) (by rw [Yo 106 (by decide) (by decide), s15o 106 (by decide) (by decide) (by omega)]) with ⟨L2, σ'', μ', e1, e2, e3, ⟨-, e4⟩, e5⟩ | ⟨σ'', μ', bb, e1, e2, e3, e4, e5, e6⟩
      · have es : σ'' = σ' := Option.some.inj (e1.symm.trans d1)
        subst es
        have m2 := m2d Y μ' e4 (by rw [Yo 106 (by decide) (by decide), s15o 106 (by decide) (by decide) (by omega)])
        obtain ⟨F, hF⟩ : ∃ F, F = am_u2 (am_u2 μ' 105 11 (-1)) 106 2 (Int32.ofNat (a + 1)) := ⟨_, rfl⟩
        have hM := Mt_ok hr2 y1 e2 e3 m2 c
        rw [← hF, ← hrr] at hM
        have Fo : ∀ o, o ≠ 105 → o ≠ 106 → o ≠ 108 → o ≠ 122 → F o = σ15 o := fun o h1 h2 h3 h4 => by
          rw [hF, u2_row h2, u2_row h1, e4.2.1.1 o h1 h2, uX_o h1, Yo o h3 h4]
        have F5 : ∀ j, j ≠ 11 → j ≠ 7 → j ≠ 9 → F 105 j = uX n Y 105 j := fun j h1 h2 h3 => by
          rw [hF, u2_ne (by decide), u2_nj h1, e4.2.1.2.1 j h2 h3]
        have F6 : ∀ k, (3 ≤ k ∧ k ≤ 5) ∨ (138 ≤ k ∧ k < 1023) → F 106 k = w k := fun k hk' => by
          rw [hF, u2_nj (by omega), u2_ne (by decide), e4.2.1.2.2 k (by omega), uX_o (by decide), Yo 106 (by decide) (by decide), s15o 106 (by decide) (by decide) (by omega)]
          exact hw6 k (by omega)
        refine ⟨_, (σ15, ρ2), cls2, Or.inl ⟨r, F, rfl, hM, ?_, ?_, u, t, F 106, wi, ?_⟩⟩
        · rw [F5 0 (by decide) (by decide) (by decide)]
          unfold uX
          rw [u2_nj (by decide), u2_nj (by decide), u2_nj (by decide), u2_nj (by decide), u2_eq]
        · rw [hF, u2_ne (by decide), u2_ne (by decide), e4.2.1.1 122 (by decide) (by decide), uX_o (by decide), y2 122 (by decide), u2_eq]
        · have mA : TD A u (am_u2 μ' 105 11 (-1) 106) := by
            rw [u2_row (by decide)]
            exact TD_cg e4.2.2.1 (fun i hi => by rw [hA, u2_row (by omega), u2_row (by omega)])
          obtain ⟨k1, k2, k3, k4⟩ := tx_ok (s := A) (m := am_u2 μ' 105 11 (-1)) hu mA (by rw [u2_row (by decide)]; exact e4.2.2.2) c
          rw [← hBB, ← hF] at k1
          rw [← hF] at k2 k3 k4
          obtain ⟨σx, v1, v2, v3⟩ := c_mw hr2 hu k1 k2
          have ex : σx = σ15 := Option.some.inj (v1.symm.trans w1)
          subst ex
          show Iv F ρ2 u t (F 106) wi
          refine Iv_end I0 (fun o h0 h77 h80 h105 h106 h108 h122 h1 h2 => ?_) ?_ ?_ ?_ ?_ ?_ (fun i hi => ?_) (fun i hi => ?_) hr2 (fun _ _ => rfl) k2 ?_
          · rw [Fo o h105 h106 h108 h122]; exact s15o o h0 h77 (by omega)
          · rw [Fo 0 (by decide) (by decide) (by decide) (by decide)]; exact s150 6 (by decide) (by decide)
          · rw [Fo 0 (by decide) (by decide) (by decide) (by decide), w2 0 (by omega), hBB, u2_ne (by omega), hA, u2_eq]
          · rw [F5 6 (by decide) (by decide) (by decide)]
            unfold uX
            rw [u2_nj (by decide), u2_nj (by decide), u2_eq]
          · rw [Fo 0 (by decide) (by decide) (by decide) (by decide), w2 0 (by omega), hBB, u2_ne (by omega), A02, hF, u2_ne (by decide), u2_eq]
          · rw [F5 4 (by decide) (by decide) (by decide)]
            unfold uX
            rw [u2_nj (by decide), u2_nj (by decide), u2_nj (by decide), u2_nj (by decide), u2_nj (by decide), Yo 105 (by decide) (by decide), s15o 105 (by decide) (by decide) (by omega)]
          · rw [Fo _ (by omega) (by omega) (by omega) (by omega), s15u' 12 (by decide) (by decide), p10 i hi]; exact hS t ht i hi
          · rw [Fo _ (by omega) (by omega) (by omega) (by omega), s15o _ (by omega) (by omega) (by omega)]; exact hS t ht i hi
          · have hN : nR (F 106) = nR w := by unfold nR; rw [F6 4 (by omega)]
            have TF : TD F u (F 106) := TD_cg k1 (fun i hi => by rw [Fo _ (by omega) (by omega) (by omega) (by omega), w2 _ (by omega)])
            have hN12 := (wv_R hw).2
            refine ⟨TF.1, TF.2.1, TF.2.2.1, TF.2.2.2, fun i hi j hj => ?_, ⟨?_, fun q hq => ?_⟩, ?_⟩
            · rw [Fo _ (by omega) (by omega) (by omega) (by omega)]; exact v3 i hi j hj
            · rw [Fo _ (by omega) (by omega) (by omega) (by omega), s15u' 15 (by decide) (by decide), F6 4 (by omega)]; exact tw1.2.2.2.2.2.1.1
            · rw [hN] at hq
              rw [Fo (u + 16) (by omega) (by omega) (by omega) (by omega), Fo (u + 17) (by omega) (by omega) (by omega) (by omega), Fo (u + 18) (by omega) (by omega) (by omega) (by omega), Fo (u + 19) (by omega) (by omega) (by omega) (by omega), s15u' 16 (by decide) (by decide), s15u' 17 (by decide) (by decide), s15u' 18 (by decide) (by decide), s15u' 19 (by decide) (by decide), F6 _ (by omega), F6 _ (by omega), F6 _ (by omega), F6 _ (by omega)]
              exact tw1.2.2.2.2.2.1.2 q hq
            · refine lwR_c3 tw1.2.2.2.2.2.2 (fun k hk => F6 k (by omega)) ?_ (fun j hj => ?_) (fun j hj => ?_) (fun j hj => ?_)
              · rw [Fo _ (by omega) (by omega) (by omega) (by omega), s15u' 9 (by decide) (by decide)]
              · rw [Fo _ (by omega) (by omega) (by omega) (by omega), s15u' 10 (by decide) (by decide)]
              · rw [Fo _ (by omega) (by omega) (by omega) (by omega), s15u' 11 (by decide) (by decide)]
              · rw [Fo _ (by omega) (by omega) (by omega) (by omega), s15u' 12 (by decide) (by decide)]
      · exfalso
        have e1' := Option.some.inj (e1.symm.trans d1)
        rw [e1', d5] at e5
        exact on_m1 (by omega) e5.symm
    · -- ten texts
      have a10 : a = 10 := by omega
      have cls2 : f_X11_town (σ, ρ) 0 = some (.inr 2, (A, ρ1)) := by
        rw [cls, At2, if_neg (show ¬ Int32.ofNat a < 10 from fun z => c ((on_lt (b := 10) (by omega) (by decide)).mp z))]
      obtain ⟨Y, y1, y2, y3⟩ := m_keep (X := A) hr1
      have Y6 : Y 106 = σ 106 := by rw [y2 106 (by decide), hA]; exact frC σ' (-1) hk 106 (by decide) (by decide) (by omega)
      rcases run Y ρ1 t u hr1 (by rw [y2 105 (by decide), hA]; exact i105 σ' (-1) hk) (by rw [y2 109 (by decide), hA]; exact frC σ' (-1) hk 109 (by decide) (by decide) (by omega)) Y6 with ⟨L2, σ'', μ', e1, e2, e3, ⟨-, e4⟩, e5⟩ | ⟨σ'', μ', bb, e1, e2, e3, e4, e5, e6⟩
      · have m2 : μ' 106 2 = Int32.ofNat 10 := by
          rw [e4.2.1.2.2 2 (by omega), uX_o (by decide), Y6, hw6 2 (by decide), a2, a10]
        obtain ⟨Z, z1, z2, z3⟩ := Mt_full hr1 y1 e2 e3 m2
        refine ⟨_, (A, ρ1), cls2, Or.inr ⟨2, 0, 2, Z, rfl, rfl, by decide, z1, ?_, t, u, w, wi, ?_⟩⟩
        · rw [z2 105 (by decide), u2_eq]
        · refine failI σ' Z (-1) μ' Y hk e4.2.1 (fun o ho => by rw [y2 o ho, hA]) (fun k hk' => by rw [y3 k hk', hA]) (fun o h1 h2 => by rw [z2 o h2, u2_row h1, u2_row h1]) (fun j h1 h2 => by rw [z2 105 (by decide), u2_nj h1, u2_nj h2]) (by rw [z2 105 (by decide), u2_nj (by decide), u2_eq]) z3
      · exfalso
        have e1' := Option.some.inj (e1.symm.trans d1)
        rw [e1', d5] at e5
        exact on_m1 (by omega) e5.symm
  · -- a wrong text
    have hk := d3.1
    obtain ⟨A, hA⟩ : ∃ A, A = am_u2 (am_u2 σ' 0 2 (Int32.ofNat bb)) 0 1 0 := ⟨_, rfl⟩
    have A02 : A 0 2 = Int32.ofNat bb := by rw [hA, u2_nj (by decide), u2_eq]
    have cls2 : f_X11_town (σ, ρ) 0 = some (.inr 1, (A, ρ1)) := by
      unfold f_X11_town
      simp only [rh_spare hr, rh_now hr, bnd, rd_tt hr, rd_tape hr]
      rw [p1, bnd, s01, pre σ' d1, thI_n]
      simp only
      rw [d5, ← hA, if_neg (by rw [A02]; exact on_m1 (by omega))]
    obtain ⟨Y, y1, y2, y3⟩ := m_keep (X := A) hr1
    have Y6 : Y 106 = σ 106 := by rw [y2 106 (by decide), hA]; exact frC σ' _ hk 106 (by decide) (by decide) (by omega)
    rcases run Y ρ1 t u hr1 (by rw [y2 105 (by decide), hA]; exact i105 σ' _ hk) (by rw [y2 109 (by decide), hA]; exact frC σ' _ hk 109 (by decide) (by decide) (by omega)) Y6 with ⟨L2, σ'', μ', e1, e2, e3, ⟨-, e4⟩, e5⟩ | ⟨σ'', μ', b2, e1, e2, e3, e4, e5, e6⟩
    · exfalso
      have e1' := Option.some.inj (e1.symm.trans d1)
      rw [e1', d5] at e5
      exact on_m1 (by omega) e5
    · have e1' := Option.some.inj (e1.symm.trans d1)
      rw [e1', d5] at e5
      obtain ⟨Z, z1, z2, z3⟩ := Mt_bad hr1 y1 e2
      refine ⟨_, (A, ρ1), cls2, Or.inr ⟨1, 0, 1, Z, rfl, rfl, by decide, z1, ?_, t, u, w, wi, ?_⟩⟩
      · rw [z2 105 (by decide), u2_eq]
      · refine failI σ' Z (Int32.ofNat bb) μ' Y hk e3.2 (fun o ho => by rw [y2 o ho, hA]) (fun k hk' => by rw [y3 k hk', hA]) (fun o h1 h2 => by rw [z2 o h2, u2_row h1, u2_row h1]) (fun j h1 h2 => by rw [z2 105 (by decide), u2_nj h1, u2_nj h2]) (by rw [z2 105 (by decide), u2_nj (by decide), u2_eq, e6, e5]) z3
end UD
