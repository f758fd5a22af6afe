section UC
variable {σ X μ τ : sg} {ρ ρm : rg} {t u n a0 c0 t0 u0 : Nat} {w wi y : wg} {T : Nat → Int32}
theorem wv_eq (hw : wv w) (e : ∀ k, k < 186 → y k = w k) : wv y ∧ nH y = nH w ∧ nW y = nW w ∧ nR y = nR w := by
  have hH := (wv_H hw).2
  have hW := (wv_W hw).2
  have hN := (wv_R hw).2
  exact wv_mk (x := y) (by rw [e 0 (by decide)]; exact (wv_H hw).1) hH (by rw [e 1 (by decide)]; exact (wv_W hw).1) hW (by rw [e 4 (by decide)]; exact (wv_R hw).1) hN
    (fun a ha v hv => by rw [e _ (by omega)]; obtain ⟨q1, q2, q3, q4⟩ := wv_wd hw ha hv; exact ⟨_, q2, q3, q4, q1⟩)
    (fun g hg => by rw [e _ (by omega), e _ (by omega), e _ (by omega), e _ (by omega), e _ (by omega)]; exact wv_at hw hg)
    (fun v hv => by rw [e _ (by omega)]; exact wv_ur hw hv)
    (by rw [e _ (by omega)]; exact wv_x hw) (by rw [e _ (by omega)]; exact wv_y hw)
    (fun r hr => by rw [e _ (by omega), e _ (by omega), e _ (by omega), e _ (by omega)]; exact wv_r hw hr) (by rw [e _ (by omega)]; exact wv_2 hw)
theorem TD_eq (h : TD σ u w) (hw : wv w) (e : ∀ k, k < 186 → y k = w k) : TD σ u y := by
  obtain ⟨-, eH, eW, -⟩ := wv_eq hw e
  have hH := (wv_H hw).2
  have hW := (wv_W hw).2
  obtain ⟨⟨f0, f1, f2, f3, f4, f5⟩, th, tv, tww⟩ := h
  refine ⟨⟨by rw [e 0 (by decide)]; exact f0, by rw [e 1 (by decide)]; exact f1, by rw [e 2 (by decide)]; exact f2, by rw [e 5 (by decide)]; exact f3, by rw [e 6 (by decide)]; exact f4, by rw [e 7 (by decide)]; exact f5⟩, fun g hg => ?_, fun v hv => ?_, fun g hg v hv => ?_⟩
  · rw [eH] at hg
    rw [e _ (by omega), e _ (by omega), e _ (by omega), e _ (by omega), e _ (by omega)]; exact th g hg
  · rw [eW] at hv
    rw [e _ (by omega)]; exact tv v hv
  · rw [eH]; unfold wd; rw [e _ (by omega)]; exact tww g hg v hv
def uX (n : Nat) (X : sg) : sg := am_u2 (am_u2 (am_u2 (am_u2 (am_u2 X 105 0 0) 105 8 (Int32.ofNat n)) 105 6 0) 105 7 0) 105 13 0
theorem uX_o {o : Nat} (h : o ≠ 105) : uX n X o = X o := by unfold uX; rw [u2_row h, u2_row h, u2_row h, u2_row h, u2_row h]
theorem town_run (hr : rh ρ a0 c0) (hrm : rh ρm t0 u0) (hu : tn u) (hu2 : u ≠ 46) (hB : tB T n) (hn : n ≤ 400) (hc : cR τ ρ 77 T n (bgP T n 0)) (hok : τ 77 5 = -1) (hTD : TD τ u w) (hw : wv w) (h6 : X 105 6 = Int32.ofNat n) (h109 : ∀ k, k < n → X 109 k = T k) (h106 : ∀ k, k < 1023 → X 106 k = w k) :
    alO (fun _ _ => JT τ (uX n X) u) (KT τ (uX n X) u) 77 14 n (am_loop (f_X10_readInto_b12 (τ, ρ) 76 u) am_fuel (0, τ)) (f_X12_readAll (X, ρm) 105 1) := by
  have hu3 : 2 ≤ u ∧ u + 7 < 77 := by rcases hu with rfl | rfl | rfl <;> omega
  refine g_all (CL := fun _ s => f_X10_readLine (s, ρ) 76 u) hrm hB hn (by decide) (by decide) (fun k s hk => ?_) (fun s => ?_) (fun k b s m b' s' m' h1 h2 h3 _ => JT_k hu3.2 h1 h2 h3) (fun k b s m h => ⟨h.1, h.2.1⟩) (fun m => ?_) (fun k s m b q h1 h2 h3 h4 h5 h6 => l_line hr hrm hu hu2 hB h1 h2 h3 h4 h5 h6) rfl h6 ⟨fun _ _ _ => rfl, ⟨fun _ _ _ => rfl, fun _ _ _ => rfl, fun _ _ => rfl⟩, ?_, ?_⟩ hc hok rfl (fun k hk => ?_)
  · unfold f_X10_readInto_b12
    simp only [rd_in hr, bnd]
    rw [if_neg (show ¬ (14 : Int32) < Int32.ofNat k from fun z => by have := (on_lt (a := 14) (by decide) (by omega)).mp z; omega), on_s]
    rfl
  · unfold f_X10_readInto_b12
    simp only
    rw [if_pos (show (14 : Int32) < Int32.ofNat (14 + 1) by decide)]
  · unfold f_X12_readLine
    cases f_X12_letters (m, ρm) 105 with
    | none => simp only [bnn]
    | some z =>
      simp only [bnd]
      rw [if_neg (show ¬ (1 : Int32) = 0 by decide), bnd, if_neg (show ¬ Int32.ofNat 14 < 14 by decide)]
  · show TD τ u (uX n X 106)
    rw [uX_o (by decide)]
    exact TD_eq hTD hw (fun k hk => h106 k (by omega))
  · show wv (uX n X 106)
    rw [uX_o (by decide)]
    exact (wv_eq hw (fun k hk => h106 k (by omega))).1
  · show uX n X 109 k = T k
    rw [uX_o (by decide)]
    exact h109 k hk
theorem rd_bef (h : rh ρ t0 u0) : am_rd ρ 105 3 1 = some 108 := rh_rd h (by decide) (by decide) (by decide +kernel)
theorem m_keep (hrm : rh ρm t0 u0) : ∃ Y, am_loop (f_X12_town_b2 (X, ρm) 105) am_fuel (0, X) = some Y ∧ (∀ o, o ≠ 108 → Y o = X o) ∧ (∀ k, k < 1023 → Y 108 k = X 106 k) := by
  obtain ⟨Y, h1, h2, h3, -⟩ := m_copy (X := X) (body := f_X12_town_b2 (X, ρm) 105) (a := 106) (d := 108) (fun k y hk => by
    unfold f_X12_town_b2
    simp only [rd_bef hrm, m_w hrm, bnd]) (by decide) (by decide) (by decide)
  exact ⟨Y, h1, h2, h3⟩
theorem m_rest (hrm : rh ρm t0 u0) {S : sg} : ∃ Y, am_loop (f_X12_town_b92 (S, ρm) 105) am_fuel (0, X) = some Y ∧ (∀ o, o ≠ 106 → Y o = X o) ∧ (∀ k, k < 1023 → Y 106 k = X 108 k) := by
  obtain ⟨Y, h1, h2, h3, -⟩ := m_copy (X := X) (body := f_X12_town_b92 (S, ρm) 105) (a := 108) (d := 106) (fun k y hk => by
    unfold f_X12_town_b92
    simp only [rd_bef hrm, m_w hrm, bnd]) (by decide) (by decide) (by decide)
  exact ⟨Y, h1, h2, h3⟩
theorem ld_2 {s : sg} : am_ld s 106 2 = some (s 106 2) := by rw [show (2 : Int32) = Int32.ofNat 2 from rfl, ld_on (by rw [ln_106']; omega) (by omega)]
theorem Mt_ok (hrm : rh ρm t0 u0) {Y μ' : sg} {L a : Nat} (hY : am_loop (f_X12_town_b2 (X, ρm) 105) am_fuel (0, X) = some Y) (hR : f_X12_readAll (Y, ρm) 105 1 = some (Int32.ofNat L, μ')) (hL : L ≤ 14) (ha : μ' 106 2 = Int32.ofNat a) (ha2 : a < 10) : f_X12_town (X, ρm) 105 = some (Int32.ofNat (a + 1), am_u2 (am_u2 μ' 105 11 (-1)) 106 2 (Int32.ofNat (a + 1))) := by
  unfold f_X12_town
  simp only
  rw [hY, bnd, hR, bnd]
  simp only
  rw [if_neg (on_neg (by omega)), if_neg (on_neg (by omega)), bnd, bnd, th0, bnd]
  simp only
  rw [if_pos trivial, m_w hrm, bnd, ld_2, bnd, u2_ne (by decide), ha, if_neg (show ¬ Int32.ofNat a = 10 from fun z => by have := (on_inj (b := 10) (by omega) (by decide)).mp z; omega), bnd, th0, bnd]
  simp only
  rw [if_pos trivial, bnd, ld_2, bnd, u2_ne (by decide), ha, on_s, show (2 : Int32) = Int32.ofNat 2 from rfl, st_on (by rw [ln_106']; omega) (by omega), bnd, bnd, ld_on (by rw [ln_106']; omega) (by omega), bnd, u2_eq]
theorem Mt_full (hrm : rh ρm t0 u0) {Y μ' : sg} {L : Nat} (hY : am_loop (f_X12_town_b2 (X, ρm) 105) am_fuel (0, X) = some Y) (hR : f_X12_readAll (Y, ρm) 105 1 = some (Int32.ofNat L, μ')) (hL : L ≤ 14) (ha : μ' 106 2 = Int32.ofNat 10) : ∃ Z, f_X12_town (X, ρm) 105 = some (0, Z) ∧ (∀ o, o ≠ 106 → Z o = am_u2 (am_u2 μ' 105 11 (-1)) 105 0 2 o) ∧ (∀ k, k < 1023 → Z 106 k = μ' 108 k) := by
  obtain ⟨Z, z1, z2, z3⟩ := m_rest (X := am_u2 (am_u2 μ' 105 11 (-1)) 105 0 2) (S := am_u2 (am_u2 μ' 105 11 (-1)) 105 0 2) hrm
  refine ⟨Z, ?_, z2, fun k hk => by rw [z3 k hk, u2_ne (by decide), u2_ne (by decide)]⟩
  unfold f_X12_town
  simp only
  rw [hY, bnd, hR, bnd]
  simp only
  rw [if_neg (on_neg (by omega)), if_neg (on_neg (by omega)), bnd, bnd, th0, bnd]
  simp only
  rw [if_pos trivial, m_w hrm, bnd, ld_2, bnd, u2_ne (by decide), ha, if_pos (show Int32.ofNat 10 = 10 from rfl), bnd, th1, bnd]
  simp only
  rw [if_neg (by decide), z1, bnd]
theorem Mt_bad (hrm : rh ρm t0 u0) {Y μ' : sg} (hY : am_loop (f_X12_town_b2 (X, ρm) 105) am_fuel (0, X) = some Y) (hR : f_X12_readAll (Y, ρm) 105 1 = some (-1, μ')) : ∃ Z, f_X12_town (X, ρm) 105 = some (0, Z) ∧ (∀ o, o ≠ 106 → Z o = am_u2 (am_u2 μ' 105 11 (μ' 105 9)) 105 0 1 o) ∧ (∀ k, k < 1023 → Z 106 k = μ' 108 k) := by
  obtain ⟨Z, z1, z2, z3⟩ := m_rest (X := am_u2 (am_u2 μ' 105 11 (μ' 105 9)) 105 0 1) (S := am_u2 (am_u2 μ' 105 11 (μ' 105 9)) 105 0 1) hrm
  refine ⟨Z, ?_, z2, fun k hk => by rw [z3 k hk, u2_ne (by decide), u2_ne (by decide)]⟩
  unfold f_X12_town
  simp only
  rw [hY, bnd, hR, bnd]
  simp only
  rw [if_pos m1n, if_pos m1n, bnd, bnd, th1, bnd]
  simp only
  rw [if_neg (by decide), z1, bnd]
/-- the invariant, put together anew -/
theorem Iv_end (I : Iv σ ρ t u w wi) {F : sg} {ρ' : rg} {t' u' : Nat} {w' : wg} (hF : ∀ o, o ≠ 0 → o ≠ 77 → o ≠ 80 → o ≠ 105 → o ≠ 106 → o ≠ 108 → o ≠ 122 → ¬ (u ≤ o ∧ o ≤ u + 19) → ¬ (t + 9 ≤ o ∧ o ≤ t + 12) → F o = σ o) (f06 : F 0 6 = σ 0 6) (f01 : F 0 1 = 0) (f6 : F 105 6 = 0) (f2 : F 0 2 = F 105 11) (f4 : F 105 4 = σ 105 4) (f12 : ∀ i, i < 400 → (F (u + 12) i).toInt16.toInt32 = F (u + 12) i) (g12 : ∀ i, i < 400 → (F (t + 12) i).toInt16.toInt32 = F (t + 12) i) (hr : rh ρ' t' u') (hw6 : ∀ k, k < 1023 → F 106 k = w' k) (hw : wv w') (htw : tw F t' w') : Iv F ρ' t' u' w' wi := by
  obtain ⟨hr0, -, -, -, -, -, hI, hS⟩ := I
  have tu : (t = 2 ∧ u = 24) ∨ (t = 24 ∧ u = 2) := hr0.2.1
  refine ⟨hr, hw6, hw, htw, ⟨0, by decide, f01, f6, fun k hk => by omega⟩, f2, ?_, ?_⟩
  · have fx : ∀ k, k ≤ 19 → F (46 + k) = σ (46 + k) := fun k hk => hF _ (by omega) (by omega) (by omega) (by omega) (by omega) (by omega) (by omega) (by omega) (by omega)
    unfold iI
    rw [f06, f4, hF 107 (by omega) (by omega) (by omega) (by omega) (by omega) (by omega) (by omega) (by omega) (by omega)]
    refine ⟨hI.1, hI.2.imp id (fun q => ⟨q.1, q.2.1, q.2.2.1, ?_⟩)⟩
    exact tw_cg q.2.2.2 (fx 0 (by decide)) (fx 1 (by decide)) (fx 2 (by decide)) (fx 3 (by decide)) (fx 4 (by decide)) (fx 5 (by decide)) (fx 6 (by decide)) (fx 7 (by decide)) (fx 8 (by decide)) (by rw [fx 9 (by decide)]) (fx 10 (by decide)) (fx 11 (by decide)) (fx 12 (by decide)) (by rw [fx 15 (by decide)]) (fx 16 (by decide)) (fx 17 (by decide)) (fx 18 (by decide)) (fx 19 (by decide))
  · intro b hb i hi
    by_cases c : b = u
    · rw [c]; exact f12 i hi
    · by_cases d : b = t
      · rw [d]; exact g12 i hi
      · have : b = 46 := by rcases hb with rfl | rfl | rfl <;> omega
        subst this
        rw [hF _ (by omega) (by omega) (by omega) (by omega) (by omega) (by omega) (by omega) (by omega) (by omega)]
        exact hS 46 hb i hi
end UC
