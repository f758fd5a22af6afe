section VH
variable {σ X μ τ : sg} {ρ ρm : rg} {t u n a0 c0 t0 u0 : Nat} {w wi y : wg} {T : Nat → Int32}
theorem wv_e3 (hw : wv w) (e : ∀ k, k < 186 → k ≠ 3 → y k = w k) : wv y ∧ nH y = nH w ∧ nW y = nW w ∧ nR y = nR w := by
  have hH := (wv_H hw).2
  have hW := (wv_W hw).2
  have hN := (wv_R hw).2
  exact wv_mk (x := y) (by rw [e 0 (by decide) (by decide)]; exact (wv_H hw).1) hH (by rw [e 1 (by decide) (by decide)]; exact (wv_W hw).1) hW (by rw [e 4 (by decide) (by decide)]; exact (wv_R hw).1) hN
    (fun a ha v hv => by rw [e _ (by omega) (by omega)]; obtain ⟨q1, q2, q3, q4⟩ := wv_wd hw ha hv; exact ⟨_, q2, q3, q4, q1⟩)
    (fun g hg => by rw [e _ (by omega) (by omega), e _ (by omega) (by omega), e _ (by omega) (by omega), e _ (by omega) (by omega), e _ (by omega) (by omega)]; exact wv_at hw hg)
    (fun v hv => by rw [e _ (by omega) (by omega)]; exact wv_ur hw hv)
    (by rw [e _ (by omega) (by omega)]; exact wv_x hw) (by rw [e _ (by omega) (by omega)]; exact wv_y hw)
    (fun r hr => by rw [e _ (by omega) (by omega), e _ (by omega) (by omega), e _ (by omega) (by omega), e _ (by omega) (by omega)]; exact wv_r hw hr) (by rw [e _ (by omega) (by omega)]; exact wv_2 hw)
theorem law_run (hr : rh ρ a0 c0) (hrm : rh ρm t0 u0) (hu : tu2 u) (hB : tB T n) (hn : n ≤ 400) (hc : cR τ ρ 80 T n (bgP T n 0)) (hok : τ 80 5 = -1) (h0 : τ (u + 9) 0 = 0) (h1 : τ (u + 9) 1 = 0) (hs : shO u τ) (h6 : X 105 6 = Int32.ofNat n) (h109 : ∀ k, k < n → X 109 k = T k) :
    alO (LAJ τ (uX n X) u) (kA τ (uX n X) u) 80 12 n (am_loop (f_X2_readInto_b16 (τ, ρ) 79 (u + 9)) am_fuel (0, τ)) (f_X12_readAll (X, ρm) 105 0) := by
  refine g_all (J := LAJ τ (uX n X) u) (K := kA τ (uX n X) u) (CL := fun _ s => cLine ρ u s) hrm hB hn (by decide) (by decide) (fun k s hk => ?_) (fun s => ?_) (fun k b s m b' s' m' g1 g2 g3 g4 => LAJ_k hu g1 g2 g3 g4) (fun k b s m h => h.1) (fun m => ?_) (fun k s m b q g1 g2 g3 g4 g5 g6 => law_line hr hrm hu hB g1 g2 g3 g4 g5 g6) rfl h6 ⟨⟨fun _ _ _ => rfl, fun _ _ _ => rfl, fun _ _ _ _ _ => rfl, fun _ _ => rfl, hs⟩, h0, [], fun _ => 0, ⟨by decide, h1, ?_, fun i z hz => ?_⟩, Nat.zero_le _, rfl, rfl, fun i hi => absurd hi (Nat.not_lt_zero i)⟩ hc hok rfl (fun k hk => ?_)
  · unfold f_X2_readInto_b16 cLine
    simp only [rd_in2 hr, bnd, bid, Option.bind_assoc]
    rw [if_neg (show ¬ (12 : Int32) < Int32.ofNat k from fun z => by have := (on_lt (a := 12) (by decide) (by omega)).mp z; omega), on_s]
    rfl
  · unfold f_X2_readInto_b16
    simp only
    rw [if_pos (show (12 : Int32) < Int32.ofNat (12 + 1) by decide)]
  · unfold f_X12_readLine
    cases f_X12_letters (m, ρm) 105 with
    | none => simp only [bnn]
    | some z =>
      simp only [bnd, if_true]
      rw [if_neg (show ¬ Int32.ofNat 12 < 12 by decide)]
  · show uX n X 105 13 = Int32.ofNat 0
    unfold uX
    rw [u2_eq]; rfl
  · cases hz
  · show uX n X 109 k = T k
    rw [uX_o (by decide)]
    exact h109 k hk
theorem ckn_L {l : List (Nat × Nat)} {s : Nat → Nat} (hs : ∀ i x, l[i]? = some x → s i = x.1) : ∀ m i st, i + m ≤ l.length → ckn s i m st = ckL ((l.drop i).take m) st
  | 0, i, st, _ => by rw [List.take_zero]; rfl
  | m + 1, i, st, h => by
    have hi : i < l.length := by omega
    have e : l.drop i = l[i] :: l.drop (i + 1) := List.drop_eq_getElem_cons hi
    rw [e, List.take_succ_cons]
    show (ck1 st (s i)).bind (fun st' => ckn s (i + 1) m st') = (ck1 st (l[i]).1).bind (fun st' => ckL ((l.drop (i + 1)).take m) st')
    rw [hs i l[i] (List.getElem?_eq_getElem hi)]
    cases ck1 st (l[i]).1 with
    | none => simp only [bnn]
    | some st' => simp only [bnd]; exact ckn_L hs m (i + 1) st' (by omega)
theorem m_lcopy (hrm : rh ρm t0 u0) {S : sg} {x : Int32} : ∃ Y, am_loop (f_X12_law_b52 (S, ρm) 105 x) am_fuel (0, X) = some Y ∧ (∀ o, o ≠ 106 → Y o = X o) ∧ (∀ k, k < 837 → Y 106 (186 + k) = X 106 (1023 + k)) ∧ (∀ k, k < 186 ∨ 1023 ≤ k → Y 106 k = X 106 k) := by
  obtain ⟨Y, l1, l2⟩ := lp_rule (body := f_X12_law_b52 (S, ρm) 105 x) 837 (fun k (x : Int32 × sg) => x.1 = Int32.ofNat k ∧ (∀ o, o ≠ 106 → x.2 o = X o) ∧ (∀ i, i < k → x.2 106 (186 + i) = X 106 (1023 + i)) ∧ (∀ k, k < 186 ∨ 1023 ≤ k → x.2 106 k = X 106 k)) (fun (Y : sg) => (∀ o, o ≠ 106 → Y o = X o) ∧ (∀ k, k < 837 → Y 106 (186 + k) = X 106 (1023 + k)) ∧ (∀ k, k < 186 ∨ 1023 ≤ k → Y 106 k = X 106 k)) (x := ((0 : Int32), X)) ⟨rfl, fun _ _ => rfl, fun i hi => by omega, fun _ _ => rfl⟩ (fun k x hk hx => by
    obtain ⟨x1, x2⟩ := x
    obtain ⟨y1, y2, y3, y4⟩ := hx
    simp only at y1 y2 y3 y4
    subst y1
    unfold f_X12_law_b52
    simp only [m_w hrm, bnd]
    by_cases c : k < 837
    · left
      rw [if_pos (show Int32.ofNat k < 837 from (on_lt (b := 837) (by omega) (by decide)).mpr c), show (1023 : Int32) = Int32.ofNat 1023 from rfl, on_add, ld_on (by rw [ln_106']; omega) (by omega), bnd, show (186 : Int32) = Int32.ofNat 186 from rfl, on_add, st_on (by rw [ln_106']; omega) (by omega), bnd, on_s]
      refine ⟨_, rfl, c, rfl, fun o ho => (u2_row ho).trans (y2 o ho), fun i hi => ?_, fun i hi => ?_⟩
      · show am_u2 x2 106 (186 + k) (x2 106 (1023 + k)) 106 (186 + i) = X 106 (1023 + i)
        by_cases e : i = k
        · rw [e, u2_eq]; exact y4 _ (by omega)
        · rw [u2_nj (by omega)]; exact y3 i (by omega)
      · show am_u2 x2 106 (186 + k) (x2 106 (1023 + k)) 106 i = X 106 i
        rw [u2_nj (by omega)]; exact y4 i hi
    · right
      rw [if_neg (show ¬ Int32.ofNat k < 837 from fun z => c ((on_lt (b := 837) (by omega) (by decide)).mp z))]
      exact ⟨_, rfl, y2, fun i hi => y3 i (by omega), y4⟩) (by decide)
  exact ⟨Y, l1, l2⟩
theorem Ml_ok (hrm : rh ρm t0 u0) {μ' : sg} {L : Nat} (hR : f_X12_readAll (X, ρm) 105 0 = some (Int32.ofNat L, μ')) (hL : L ≤ 12) : ∃ F, f_X12_law (X, ρm) 105 = some (Int32.ofNat L, F) ∧ (∀ o, o ≠ 105 → o ≠ 106 → F o = μ' o) ∧ (∀ j, j ≠ 11 → F 105 j = μ' 105 j) ∧ F 105 11 = -1 ∧ F 106 3 = 1 ∧ (∀ k, k < 186 → k ≠ 3 → F 106 k = μ' 106 k) ∧ F 106 186 = Int32.ofNat L ∧ (∀ k, 0 < k → k < 837 → F 106 (186 + k) = μ' 106 (1023 + k)) := by
  obtain ⟨Y, y1, y2, y3, y4⟩ := m_lcopy (X := am_u2 (am_u2 μ' 105 11 (-1)) 106 1023 (Int32.ofNat L)) (S := am_u2 (am_u2 μ' 105 11 (-1)) 106 1023 (Int32.ofNat L)) (x := Int32.ofNat L) hrm
  refine ⟨am_u2 Y 106 3 1, ?_, fun o h1 h2 => ?_, fun j h1 => ?_, ?_, u2_eq, fun k h1 h2 => ?_, ?_, fun k h1 h2 => ?_⟩
  · unfold f_X12_law
    rw [hR, bnd]
    simp only
    rw [if_neg (on_neg (by omega)), if_neg (on_neg (by omega)), bnd, bnd, th0, bnd]
    simp only
    rw [if_pos trivial, m_w hrm, bnd, show (1023 : Int32) = Int32.ofNat 1023 from rfl, st_on (by rw [ln_106']; omega) (by omega), bnd, y1, bnd, bnd, show (3 : Int32) = Int32.ofNat 3 from rfl, st_on (by rw [ln_106']; omega) (by omega), bnd]
  · rw [u2_row h2, y2 o h2, u2_row h2, u2_row h1]
  · rw [u2_ne (by decide), y2 105 (by decide), u2_ne (by decide), u2_nj h1]
  · rw [u2_ne (by decide), y2 105 (by decide), u2_ne (by decide), u2_eq]
  · rw [u2_nj h2, y4 k (by omega), u2_nj (by omega), u2_ne (by decide)]
  · rw [u2_nj (by decide)]
    have := y3 0 (by decide)
    rw [this, u2_eq]
  · rw [u2_nj (by omega), y3 k h2, u2_nj (by omega), u2_ne (by decide)]
theorem Ml_bad {μ' : sg} (hR : f_X12_readAll (X, ρm) 105 0 = some (-1, μ')) : f_X12_law (X, ρm) 105 = some (0, am_u2 (am_u2 μ' 105 11 (μ' 105 9)) 105 0 1) := by
  unfold f_X12_law
  rw [hR, bnd]
  simp only
  rw [if_pos m1n, if_pos m1n, bnd, bnd, th1, bnd]
  simp only
  rw [if_neg (by decide)]
theorem rd_lt (h : rh ρ t0 u0) : am_rd ρ 0 10 102 = some 79 := rh_rd h (by decide) (by decide) (by decide +kernel)
theorem clr_eq {i j : Nat} (e : ∀ k, k < 186 → k ≠ 3 → y k = w k) (hi : i < 8) (hj : j < 8) : clr y i j = clr w i j := by
  unfold clr hr far
  rw [e 6 (by decide) (by decide), e 7 (by decide) (by decide), e (8 + 15 * j) (by omega) (by omega), e (8 + 15 * i) (by omega) (by omega), e (9 + 15 * j) (by omega) (by omega), e (9 + 15 * i) (by omega) (by omega), e (10 + 15 * j) (by omega) (by omega), e (12 + 15 * i) (by omega) (by omega)]
theorem q_law (I : Iv σ ρ t u w wi) : Rs [(1, 1)] (f_X11_law (σ, ρ) 0) (fun S => f_X12_law S 105) := by
  have I0 := I
  obtain ⟨hr, hw6, hw, htw, ⟨n, n1, n2, n3, n4⟩, h02, hI, hS⟩ := I
  obtain ⟨ht, hu, hne⟩ := rh_tn hr
  have tu := hr.2.1
  have hu2 : tu2 u := by rcases tu with ⟨-, h⟩ | ⟨-, h⟩; exact Or.inr h; exact Or.inl h
  have hB : tB (σ 1) n := fun k hk => (n4 k hk).2
  obtain ⟨σ1, hσ1⟩ : ∃ x, x = am_u2 (am_u2 σ (u + 9) 0 0) (u + 9) 1 0 := ⟨_, rfl⟩
  have f1 : ∀ o, o ≠ u + 9 → σ1 o = σ o := fun o h => by rw [hσ1, u2_row h, u2_row h]
  obtain ⟨τ, o1, o2, o3, o4⟩ := c_open (σ := σ1) (ρ := ρ) (R := 80) (T := σ 1) (n := n) (Or.inr rfl) n1 (fun k hk => by rw [f1 1 (by omega)])
  obtain ⟨ρ1, hρ1⟩ : ∃ x, x = am_u2 ρ 80 0 (some 1) := ⟨_, rfl⟩
  rw [← hρ1] at o1 o2
  have hr1 : rh ρ1 t u := by rw [hρ1]; exact rh_R (Or.inr rfl) hr
  have fτ : ∀ o, o ≠ 80 → o ≠ u + 9 → τ o = σ o := fun o h1 h2 => (o4 o h1).trans (f1 o h2)
  have τ0 : τ (u + 9) 0 = 0 := by rw [o4 _ (by omega), hσ1, u2_nj (by decide), u2_eq]
  have τ1 : τ (u + 9) 1 = 0 := by rw [o4 _ (by omega), hσ1, u2_eq]
  have shτ : shO u τ := fun i hi => by rw [fτ _ (by omega) (by omega)]; exact hS u hu i hi
  have run := fun (X : sg) (ρm : rg) (a b : Nat) (hrm : rh ρm a b) (h6 : X 105 6 = Int32.ofNat n) (h109 : X 109 = σ 109) => law_run (τ := τ) (X := X) hr1 hrm hu2 hB n1 o2 o3 τ0 τ1 shτ h6 (fun k hk => by rw [h109]; exact (n4 k hk).1)
  have pre : ∀ (σ' : sg), am_loop (f_X2_readInto_b16 (τ, ρ1) 79 (u + 9)) am_fuel (0, τ) = some σ' → f_X2_readInto (σ, ρ) 79 (u + 9) 1 (Int32.ofNat n) = some (.inl (some (.int (σ' 80 5))), (σ', ρ1)) := fun σ' h => by
    unfold f_X2_readInto f_X1_clear
    rw [bnd]
    simp only
    rw [← hσ1, rd_in2 hr, bnd, o1, thV_n]
    simp only
    rw [h, bnd, rd_in2 hr1, bnd]
  have frC : ∀ (σ' : sg) (v : Int32) (μ' : sg) (Z : sg), kA τ Z u σ' μ' → ∀ o, o ≠ 0 → o ≠ 80 → ¬ (u + 9 ≤ o ∧ o ≤ u + 12) → am_u2 (am_u2 σ' 0 2 v) 0 1 0 o = σ o := fun σ' v μ' Z hk o h1 h2 h3 => by
    rw [u2_row h1, u2_row h1, hk.1 o h2 h3]; exact fτ o h2 (by omega)
  have fr0 : ∀ (σ' : sg) (v : Int32) (μ' : sg) (Z : sg), kA τ Z u σ' μ' → ∀ j, j ≠ 1 → j ≠ 2 → am_u2 (am_u2 σ' 0 2 v) 0 1 0 0 j = σ 0 j := fun σ' v μ' Z hk j h1 h2 => by
    rw [u2_nj h1, u2_nj h2, hk.1 0 (by decide) (by omega), fτ 0 (by decide) (by omega)]
  have shA : ∀ (σ' : sg) (v : Int32) (μ' : sg) (Z : sg), kA τ Z u σ' μ' → shO u (am_u2 (am_u2 σ' 0 2 v) 0 1 0) := fun σ' v μ' Z hk i hi => by
    rw [u2_ne (by omega), u2_ne (by omega)]; exact hk.2.2.2.2 i hi
  have rdl : am_rd ρ u 14 101 = some (u + 9) := rd_t hr hu (by decide)
  have rdl1 : am_rd ρ1 u 14 101 = some (u + 9) := rd_t hr1 hu (by decide)
  have rdt1 : am_rd ρ1 t 14 101 = some (t + 9) := rd_t hr1 ht (by decide)
  rcases run σ ρ t u hr n3 rfl with ⟨L, σ', μd, d1, d2, d3, ⟨bd, d4⟩, d5⟩ | ⟨σ', μd, bb, d1, d2, d3, d4, d5, d6⟩
  · have hk := d4.1
    obtain ⟨A, hA⟩ : ∃ A, A = am_u2 (am_u2 σ' 0 2 (-1)) 0 1 0 := ⟨_, rfl⟩
    have A02 : A 0 2 = -1 := by rw [hA, u2_nj (by decide), u2_eq]
    have Ao : ∀ o, o ≠ 0 → A o = σ' o := fun o h => by rw [hA, u2_row h, u2_row h]
    obtain ⟨σ11, c1, c2, c3, c4, c5, c6, c7⟩ := c_cpL (σ := A) hr1 ht hu hne (by rw [hA]; exact shA σ' (-1) μd _ hk)
    obtain ⟨r, hrr⟩ : ∃ r, r = Int32.ofNat L := ⟨_, rfl⟩
    have s11 : σ11 (t + 9) 0 = r := by rw [c2, Ao _ (by omega), hrr]; exact d4.2.1
    have cls : f_X11_law (σ, ρ) 0 = some (.inl (some (.int r)), (σ11, ρ1)) := by
      unfold f_X11_law
      simp only [rd_lt hr, rh_spare hr, rdl, rd_tape hr, bnd, n2]
      rw [pre σ' d1, thI_n]
      simp only
      rw [d5, ← hA, if_pos A02, rh_now hr1, bnd, rdt1, bnd, rh_spare hr1, bnd, rdl1, bnd, c1, bnd, bnd, rdt1, bnd, s11]
    have s11o : ∀ o, o ≠ 0 → o ≠ 80 → ¬ (u + 9 ≤ o ∧ o ≤ u + 12) → ¬ (t + 9 ≤ o ∧ o ≤ t + 12) → σ11 o = σ o := fun o h1 h2 h3 h4 => by
      rw [c7 o (by omega), hA]; exact frC σ' (-1) μd _ hk o h1 h2 h3
    have s110 : σ11 0 = A 0 := c7 0 (by omega)
    obtain ⟨X, hX⟩ : ∃ X, X = am_u2 σ11 122 0 r := ⟨_, rfl⟩
    have Xo : ∀ o, o ≠ 122 → X o = σ11 o := fun o h => by rw [hX, u2_row h]
    have X5 : X 105 = σ 105 := by rw [Xo 105 (by decide), s11o 105 (by decide) (by decide) (by omega) (by omega)]
    rcases run X ρ1 t u hr1 (by rw [X5]; exact n3) (by rw [Xo 109 (by decide), s11o 109 (by decide) (by decide) (by omega) (by omega)]) with ⟨L2, σ'', μ', e1, e2, e3, ⟨be, e4⟩, e5⟩ | ⟨σ'', μ', bb, e1, e2, e3, e4, e5, e6⟩
    · have es : σ'' = σ' := Option.some.inj (e1.symm.trans d1)
      subst es
      have L2e : L2 = L := by
        have h1 := e4.2.1
        rw [d4.2.1] at h1
        exact ((on_inj (by omega) (by omega)).mp h1).symm
      subst L2e
      obtain ⟨F, g1, g2, g3, g4, g5, g6, g7, g8⟩ := Ml_ok hr1 e2 e3
      rw [← hrr] at g1
      obtain ⟨⟨k1, k2, k3, k4, k5⟩, h90, l, e, ⟨s1, s2, s3, s4⟩, hlb, hln⟩ := id e4
      have Fo : ∀ o, o ≠ 105 → o ≠ 106 → o ≠ 122 → F o = σ11 o := fun o h1 h2 h3 => by
        rw [g2 o h1 h2, k2 o h1 h2, uX_o h1, Xo o h3]
      have F5 : ∀ j, j ≠ 11 → j ≠ 7 → j ≠ 9 → j ≠ 10 → j ≠ 13 → F 105 j = uX n X 105 j := fun j h1 h2 h3 h4 h5 => by
        rw [g3 j h1, k3 j h2 h3 h4 h5]
      have F6 : ∀ k, k < 186 → k ≠ 3 → F 106 k = w k := fun k h1 h2 => by
        rw [g6 k h1 h2, k4 k (by omega), uX_o (by decide), Xo 106 (by decide), s11o 106 (by decide) (by decide) (by omega) (by omega)]
        exact hw6 k (by omega)
      refine ⟨_, (σ11, ρ1), cls, Or.inl ⟨r, F, rfl, ?_, ?_, ?_, t, u, F 106, wi, ?_⟩⟩
      · show f_X12_law (am_u2 σ11 122 0 r, ρ1) 105 = some (r, F)
        rw [← hX]; exact g1
      · rw [F5 0 (by decide) (by decide) (by decide) (by decide) (by decide)]
        unfold uX
        rw [u2_nj (by decide), u2_nj (by decide), u2_nj (by decide), u2_nj (by decide), u2_eq]
      · rw [g2 122 (by decide) (by decide), k2 122 (by decide) (by decide), uX_o (by decide), hX, u2_eq]
      · show Iv F ρ1 t u (F 106) wi
        obtain ⟨wy, eH, eW, eN⟩ := wv_e3 (y := F 106) hw F6
        have hH := (wv_H hw).2
        have hW := (wv_W hw).2
        have hN := (wv_R hw).2
        have Fσ : ∀ o, o ≠ 0 → o ≠ 80 → o ≠ 105 → o ≠ 106 → o ≠ 122 → ¬ (u + 9 ≤ o ∧ o ≤ u + 12) → ¬ (t + 9 ≤ o ∧ o ≤ t + 12) → F o = σ o := fun o h1 h2 h3 h4 h5 h6 h7 => by
          rw [Fo o h3 h4 h5]; exact s11o o h1 h2 h6 h7
        refine Iv_end I0 (fun o h0 h77 h80 h105 h106 h108 h122 h1 h2 => Fσ o h0 h80 h105 h106 h122 (by omega) h2) ?_ ?_ ?_ ?_ ?_ (fun i hi => ?_) (fun i hi => ?_) hr1 (fun _ _ => rfl) wy ?_
        · rw [Fo 0 (by decide) (by decide) (by decide), s110, hA]; exact fr0 σ'' (-1) μd _ hk 6 (by decide) (by decide)
        · rw [Fo 0 (by decide) (by decide) (by decide), s110, hA, u2_eq]
        · rw [F5 6 (by decide) (by decide) (by decide) (by decide) (by decide)]
          unfold uX
          rw [u2_nj (by decide), u2_nj (by decide), u2_eq]
        · rw [Fo 0 (by decide) (by decide) (by decide), s110, A02, g4]
        · rw [F5 4 (by decide) (by decide) (by decide) (by decide) (by decide)]
          unfold uX
          rw [u2_nj (by decide), u2_nj (by decide), u2_nj (by decide), u2_nj (by decide), u2_nj (by decide), X5]
        · rw [Fo _ (by omega) (by omega) (by omega), c7 _ (by omega), Ao _ (by omega)]; exact k5 i hi
        · rw [Fo _ (by omega) (by omega) (by omega), c6 i hi, Ao _ (by omega)]; exact k5 i hi
        · obtain ⟨⟨t0, t1, t2, t3, t4, t5⟩, th, tv, tww, tc, tr, -⟩ := htw
          have Fr : ∀ i, i ≤ 19 → ¬ (9 ≤ i ∧ i ≤ 12) → F (t + i) = σ (t + i) := fun i h1 h2 => Fσ _ (by omega) (by omega) (by omega) (by omega) (by omega) (by omega) (by omega)
          have Ft : F t = σ t := Fr 0 (by decide) (by decide)
          refine ⟨⟨?_, ?_, ?_, ?_, ?_, ?_⟩, fun g hg => ?_, fun v hv => ?_, fun g hg v hv => ?_, fun i hi j hj => ?_, ⟨?_, fun q hq => ?_⟩, Or.inr ⟨g5, L2, e, fun i => (l.getD i (0, 0)).1, fun i => (l.getD i (0, 0)).2, ⟨e3, g7, hln.1, by rw [hln.2.1]; exact s1, fun k hk' => ?_, fun i hi => ?_⟩, ?_, fun k hk' => ?_, fun i hi => ?_⟩⟩
          · rw [Ft, F6 0 (by decide) (by decide)]; exact t0
          · rw [Ft, F6 1 (by decide) (by decide)]; exact t1
          · rw [Ft, F6 2 (by decide) (by decide)]; exact t2
          · rw [Ft, F6 5 (by decide) (by decide)]; exact t3
          · rw [Ft, F6 6 (by decide) (by decide)]; exact t4
          · rw [Ft, F6 7 (by decide) (by decide)]; exact t5
          · rw [eH] at hg
            rw [Fr 1 (by decide) (by decide), Fr 2 (by decide) (by decide), Fr 3 (by decide) (by decide), Fr 4 (by decide) (by decide), Fr 5 (by decide) (by decide), F6 _ (by omega) (by omega), F6 _ (by omega) (by omega), F6 _ (by omega) (by omega), F6 _ (by omega) (by omega), F6 _ (by omega) (by omega)]
            exact th g hg
          · rw [eW] at hv
            rw [Fr 6 (by decide) (by decide), F6 _ (by omega) (by omega)]; exact tv v hv
          · rw [eH, Fr 7 (by decide) (by decide)]; unfold wd; rw [F6 _ (by omega) (by omega)]; exact tww g hg v hv
          · rw [eH] at hi hj
            rw [Fr 8 (by decide) (by decide), clr_eq F6 (by omega) (by omega)]; exact tc i hi j hj
          · rw [Fr 15 (by decide) (by decide), F6 4 (by decide) (by decide)]; exact tr.1
          · rw [eN] at hq
            rw [Fr 16 (by decide) (by decide), Fr 17 (by decide) (by decide), Fr 18 (by decide) (by decide), Fr 19 (by decide) (by decide), F6 _ (by omega) (by omega), F6 _ (by omega) (by omega), F6 _ (by omega) (by omega), F6 _ (by omega) (by omega)]
            exact tr.2 q hq
          · obtain ⟨q1, q2, q3, q4, q5, q6⟩ := hln.2.2 k hk'
            refine ⟨q1.1, ?_, ?_, q6.imp id (fun z => ?_)⟩
            · rw [show 188 + 3 * k = 186 + (2 + 3 * k) by omega, g8 _ (by omega) (by omega), show 1023 + (2 + 3 * k) = 1025 + 3 * k by omega]; exact q4
            · rw [show 189 + 3 * k = 186 + (3 + 3 * k) by omega, g8 _ (by omega) (by omega), show 1023 + (3 + 3 * k) = 1026 + 3 * k by omega]; exact q5
            · rw [ckn_L (l := l) (fun i x hx => ?_) _ _ _ (by omega)]
              · exact z
              · rw [List.getD_eq_getElem?_getD, hx]; rfl
          · rw [hln.2.1] at hi
            have hx : l[i]? = some (l.getD i (0, 0)) := by rw [List.getD_eq_getElem?_getD, List.getElem?_eq_getElem hi]; rfl
            obtain ⟨z1, z2, z3, z4, z5⟩ := s4 i _ hx
            refine ⟨?_, ?_, z4, z5⟩
            · rw [show 223 + 2 * i = 186 + (37 + 2 * i) by omega, g8 _ (by omega) (by omega), show 1023 + (37 + 2 * i) = 1060 + 2 * i by omega]; exact z2
            · rw [show 224 + 2 * i = 186 + (38 + 2 * i) by omega, g8 _ (by omega) (by omega), show 1023 + (38 + 2 * i) = 1061 + 2 * i by omega]; exact z3
          · rw [Fo _ (by omega) (by omega) (by omega), s11, hrr]
          · obtain ⟨q1, q2, q3, q4, q5, q6⟩ := hln.2.2 k hk'
            refine ⟨?_, ?_⟩
            · rw [Fo _ (by omega) (by omega) (by omega), c4 k (by omega), Ao _ (by omega), q2, show 187 + 3 * k = 186 + (1 + 3 * k) by omega, g8 _ (by omega) (by omega), show 1023 + (1 + 3 * k) = 1024 + 3 * k by omega]
            · rw [Fo _ (by omega) (by omega) (by omega), c5 k (by omega), Ao _ (by omega)]; exact q3
          · rw [hln.2.1] at hi
            have hx : l[i]? = some (l.getD i (0, 0)) := by rw [List.getD_eq_getElem?_getD, List.getElem?_eq_getElem hi]; rfl
            obtain ⟨z1, -⟩ := s4 i _ hx
            rw [Fo _ (by omega) (by omega) (by omega), c6 i (by omega), Ao _ (by omega)]; exact z1
    · exfalso
      have e1' := Option.some.inj (e1.symm.trans d1)
      rw [e1', d5] at e5
      exact on_m1 (by omega) e5.symm
  · have hk := d3
    obtain ⟨A, hA⟩ : ∃ A, A = am_u2 (am_u2 σ' 0 2 (Int32.ofNat bb)) 0 1 0 := ⟨_, rfl⟩
    have A02 : A 0 2 = Int32.ofNat bb := by rw [hA, u2_nj (by decide), u2_eq]
    have cls : f_X11_law (σ, ρ) 0 = some (.inr 1, (A, ρ1)) := by
      unfold f_X11_law
      simp only [rd_lt hr, rh_spare hr, rdl, rd_tape hr, bnd, n2]
      rw [pre σ' d1, thI_n]
      simp only
      rw [d5, ← hA, if_neg (by rw [A02]; exact on_m1 (by omega))]
    have Ao : ∀ o, o ≠ 0 → o ≠ 80 → ¬ (u + 9 ≤ o ∧ o ≤ u + 12) → A o = σ o := fun o h1 h2 h3 => by rw [hA]; exact frC σ' _ μd _ hk o h1 h2 h3
    rcases run A ρ1 t u hr1 (by rw [Ao 105 (by decide) (by decide) (by omega)]; exact n3) (Ao 109 (by decide) (by decide) (by omega)) with ⟨L2, σ'', μ', e1, e2, e3, e4, e5⟩ | ⟨σ'', μ', b2, e1, e2, e3, e4, e5, e6⟩
    · exfalso
      have e1' := Option.some.inj (e1.symm.trans d1)
      rw [e1', d5] at e5
      exact on_m1 (by omega) e5
    · have e1' := Option.some.inj (e1.symm.trans d1)
      rw [e1', d5] at e5
      have hM := Ml_bad e2
      obtain ⟨Z, hZ⟩ : ∃ Z, Z = am_u2 (am_u2 μ' 105 11 (μ' 105 9)) 105 0 1 := ⟨_, rfl⟩
      rw [← hZ] at hM
      obtain ⟨k1, k2, k3, k4, k5⟩ := id e3
      refine ⟨_, (A, ρ1), cls, Or.inr ⟨1, 0, 1, Z, rfl, rfl, by decide, hM, by rw [hZ, u2_eq], t, u, w, wi, ?_⟩⟩
      show Iv Z ρ1 t u w wi
      have Zo : ∀ o, o ≠ 105 → o ≠ 106 → Z o = A o := fun o h1 h2 => by rw [hZ, u2_row h1, u2_row h1, k2 o h1 h2, uX_o h1]
      have Z6 : ∀ k, k < 1023 → Z 106 k = w k := fun k h => by
        rw [hZ, u2_ne (by decide), u2_ne (by decide), k4 k h, uX_o (by decide), Ao 106 (by decide) (by decide) (by omega)]
        exact hw6 k h
      refine Iv_end I0 (fun o h0 h77 h80 h105 h106 h108 h122 h1 h2 => ?_) ?_ ?_ ?_ ?_ ?_ (fun i hi => ?_) (fun i hi => ?_) hr1 Z6 hw (tw_rows htw (fun i hi => ?_))
      · rw [Zo o h105 h106]; exact Ao o h0 h80 (by omega)
      · rw [Zo 0 (by decide) (by decide), hA]; exact fr0 σ' _ μd _ hk 6 (by decide) (by decide)
      · rw [Zo 0 (by decide) (by decide), hA, u2_eq]
      · rw [hZ, u2_nj (by decide), u2_nj (by decide), k3 6 (by decide) (by decide) (by decide) (by decide)]
        unfold uX
        rw [u2_nj (by decide), u2_nj (by decide), u2_eq]
      · rw [Zo 0 (by decide) (by decide), A02, hZ, u2_nj (by decide), u2_eq, e6, e5]
      · rw [hZ, u2_nj (by decide), u2_nj (by decide), k3 4 (by decide) (by decide) (by decide) (by decide)]
        unfold uX
        rw [u2_nj (by decide), u2_nj (by decide), u2_nj (by decide), u2_nj (by decide), u2_nj (by decide), Ao 105 (by decide) (by decide) (by omega)]
      · rw [Zo _ (by omega) (by omega), hA]; exact shA σ' _ μd _ hk i hi
      · rw [Zo _ (by omega) (by omega), Ao _ (by omega) (by omega) (by omega)]; exact hS t ht i hi
      · rw [Zo _ (by omega) (by omega), Ao _ (by omega) (by omega) (by omega)]
end VH
