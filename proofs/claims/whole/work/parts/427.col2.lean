/-- steps of a loop that goes on -/
def stp {γ δ : Type} (body : γ → Option (γ ⊕ δ)) : Nat → γ → Option γ
  | 0, x => some x
  | n + 1, x => match body x with
    | some (.inl y) => stp body n y
    | _ => none
theorem stp_1 {γ δ : Type} {body : γ → Option (γ ⊕ δ)} {x y : γ} (h : body x = some (.inl y)) : stp body 1 x = some y := by
  unfold stp; rw [h]; rfl
theorem stp_add {γ δ : Type} {body : γ → Option (γ ⊕ δ)} : ∀ {a b : Nat} {x y z : γ}, stp body a x = some y → stp body b y = some z → stp body (a + b) x = some z
  | 0, b, x, y, z, h1, h2 => by cases h1; rw [Nat.zero_add]; exact h2
  | a + 1, b, x, y, z, h1, h2 => by
    rw [Nat.succ_add]
    unfold stp at h1 ⊢
    cases hb : body x with
    | none => rw [hb] at h1; cases h1
    | some r =>
      rw [hb] at h1
      cases r with
      | inr d => cases h1
      | inl y' => exact stp_add (a := a) h1 h2
theorem stp_loop {γ δ : Type} {body : γ → Option (γ ⊕ δ)} {d : δ} : ∀ {a fu : Nat} {x y : γ}, stp body a x = some y → body y = some (.inr d) → a < fu → am_loop body fu x = some d
  | 0, fu, x, y, h1, h2, hf => by
    cases h1
    obtain ⟨fu, rfl⟩ : ∃ q, fu = q + 1 := ⟨fu - 1, by omega⟩
    rw [am_loop_s, h2]; rfl
  | a + 1, fu, x, y, h1, h2, hf => by
    obtain ⟨fu, rfl⟩ : ∃ q, fu = q + 1 := ⟨fu - 1, by omega⟩
    unfold stp at h1
    cases hb : body x with
    | none => rw [hb] at h1; cases h1
    | some r =>
      rw [hb] at h1
      cases r with
      | inr d => cases h1
      | inl y' =>
        rw [am_loop_s, hb]
        exact stp_loop (a := a) h1 h2 (by omega)
section CM
variable {σ : sg} {ρ : rg} {t u : Nat} {w wi : wg}
theorem M_free (H : wS σ ρ w) {h c : Nat} (hh : h < nH w) (hc : c < 2147483648) {f : Nat → Nat} (hf : ∀ i, i < h → σ 114 i = Int32.ofNat (f i) ∧ f i < 2147483648) : f_X12_isFree (σ, ρ) 105 (Int32.ofNat h) (Int32.ofNat c) = some (bi (fr (hm w) f h c)) := by
  have hH := (wv_H H.2.2).2
  obtain ⟨a, b, hr⟩ := H.1
  unfold f_X12_isFree
  have := lp_andN (body := f_X12_isFree_b5 (σ, ρ) 105 (Int32.ofNat h) (Int32.ofNat c)) (fun o => !(decide (f o = c) && hm w o h)) h true (fun o b ho => ?_) (fun b => ?_) (by omega)
  · rw [show ((1 : Int32), (0 : Int32)) = (bi true, 0) from rfl, this, Bool.true_and, bnd, if_pos bi_01]
    rfl
  · unfold f_X12_isFree_b5
    simp only [rd_colM hr, bnd]
    rw [if_pos (lt_y ho (by omega)), ld_on (by rw [ln_114]; omega) (by omega), (hf o ho).1]
    simp only [bnd, on_inj (hf o ho).2 hc, M_harm H (show o < nH w by omega) hh, bi_f, on_s]
    cases b
    · simp [bi]
    · by_cases z : f o = c
      · cases hm w o h <;> simp [z, bi]
      · simp [z, bi]
  · unfold f_X12_isFree_b5
    simp only
    rw [if_neg (lt_n (by omega))]
/-- the next colour that is free -/
theorem M_next (H : wS σ ρ w) {h k c0 : Nat} (hh : h < nH w) (hk : k ≤ 8) (hc0 : c0 ≤ k) {f : Nat → Nat} (hf : ∀ i, i < h → σ 114 i = Int32.ofNat (f i) ∧ f i < 2147483648) : am_loop (f_X12_paints_b44 (σ, ρ) 105 (Int32.ofNat k) (Int32.ofNat h)) am_fuel (Int32.ofNat c0) = some (fd Int32.ofNat (Int32.ofNat k) (ff (fr (hm w) f h) c0 (k - c0))) := by
  refine lp_ffu (fun c => Int32.ofNat c) (fr (hm w) f h) Int32.ofNat (Int32.ofNat k) (k - c0) c0 am_fuel (fun c h1 h2 => ?_) ?_ (show _ < 1000000000000 by omega)
  · unfold f_X12_paints_b44
    rw [if_pos ((on_lt (by omega) (by omega)).mpr (by omega)), M_free H hh (by omega) hf]
    simp only [bnd, bi_f, on_s]
    cases fr (hm w) f h c <;> rfl
  · unfold f_X12_paints_b44
    rw [show c0 + (k - c0) = k by omega, if_neg (lt_n (by omega))]
def pq (w : wg) (k n h : Nat) (f : Nat → Nat) (c : Nat) : Bool := fr (hm w) f h c && (ls (hm w) k n (h + 1) (up1 f h c)).isSome
/-- one step of the model's search -/
theorem M_step {a b k : Nat} (hr : rh ρ a b) (hw : wv w) (hk : k ≤ 8) {h c0 : Nat} (hh : h < nH w) (hc0 : c0 ≤ k) {σ0 : sg} {f : Nat → Nat} (hwd : ∀ x, x < 1023 → σ 106 x = w x) (hf : ∀ i, i < h → σ 114 i = Int32.ofNat (f i) ∧ f i < 2147483648) (h114 : σ 114 h = lf c0) : f_X12_paints_b23 (σ0, ρ) 105 (Int32.ofNat k) (Int32.ofNat h, σ) = some (.inl (match ff (fr (hm w) f h) c0 (k - c0) with | some c => (Int32.ofNat (h + 1), am_u2 σ 114 h (Int32.ofNat c)) | none => (lf h, am_u2 σ 114 h (-1)))) := by
  have hH := (wv_H hw).2
  have H : wS σ ρ w := ⟨⟨a, b, hr⟩, hwd, hw⟩
  have hl1 : lf c0 + 1 = Int32.ofNat c0 := by unfold lf; rw [Int32.sub_add_cancel]
  unfold f_X12_paints_b23
  simp only [M_houses H, bnd, rd_colM hr]
  rw [if_neg (on_neg (by omega)), if_pos (lt_y hh (by omega)), ld_on (by rw [ln_114]; omega) (by omega), h114]
  simp only [bnd]
  rw [hl1, M_next H hh hk hc0 hf]
  simp only [bnd]
  obtain ⟨T, hT⟩ : ∃ T, T = fd Int32.ofNat (Int32.ofNat k) (ff (fr (hm w) f h) c0 (k - c0)) := ⟨_, rfl⟩
  rw [← hT]
  cases hff : ff (fr (hm w) f h) c0 (k - c0) with
  | none =>
    have hT2 : T = Int32.ofNat k := by rw [hT, hff]; rfl
    subst hT2
    rw [if_neg (lt_n (by omega)), if_neg (lt_n (by omega))]
    simp only [bnd]
    rw [st_on (by rw [ln_114]; omega) (by omega)]
    simp only [bnd, lf_m]
  | some c =>
    obtain ⟨b1, b2, b3, b4⟩ := ff_some.mp hff
    have hT2 : T = Int32.ofNat c := by rw [hT, hff]; rfl
    subst hT2
    have hlt : Int32.ofNat c < Int32.ofNat k := (on_lt (by omega) (by omega)).mpr (by omega)
    rw [if_pos hlt, if_pos hlt]
    simp only [bnd]
    rw [st_on (by rw [ln_114]; omega) (by omega)]
    simp only [bnd, on_s]
theorem ff_skip {q : Nat → Bool} {c0 n c : Nat} (h1 : c0 ≤ c) (h2 : c < c0 + n) (h : ∀ i, c0 ≤ i → i ≤ c → q i = false) : ff q c0 n = ff q (c + 1) (c0 + n - (c + 1)) := by
  cases e : ff q (c + 1) (c0 + n - (c + 1)) with
  | none =>
    have g := ff_none.mp e
    refine ff_none.mpr (fun j x1 x2 => ?_)
    by_cases z : j ≤ c
    · exact h j x1 z
    · exact g j (by omega) (by omega)
  | some x =>
    obtain ⟨g1, g2, g3, g4⟩ := ff_some.mp e
    refine ff_some.mpr ⟨by omega, by omega, g3, fun j x1 x2 => ?_⟩
    by_cases z : j ≤ c
    · exact h j x1 z
    · exact g4 j (by omega) x2
/-- what a place's search does, from its first colour on -/
def lvl (ρ : rg) (w : wg) (k n h B : Nat) (σ0 : sg) : Prop := ∀ (σ : sg) (f : Nat → Nat), (∀ x, x < 1023 → σ 106 x = w x) → (∀ i, i < h → σ 114 i = Int32.ofNat (f i) ∧ f i < 2147483648) → (∀ i, h ≤ i → i < 8 → σ 114 i = -1) → ∃ (q : Nat) (y : Int32 × sg), q ≤ B ∧ stp (f_X12_paints_b23 (σ0, ρ) 105 (Int32.ofNat k)) q (Int32.ofNat h, σ) = some y ∧ (∀ o, o ≠ 114 → y.2 o = σ o) ∧ ((∃ g, ls (hm w) k n h f = some g ∧ y.1 = Int32.ofNat (nH w) ∧ ∀ i, i < nH w → y.2 114 i = Int32.ofNat (g i)) ∨ (ls (hm w) k n h f = none ∧ y.1 = lf h ∧ (∀ i, i < h → y.2 114 i = σ 114 i) ∧ ∀ i, h ≤ i → i < 8 → y.2 114 i = -1))
theorem M_seek {a b k : Nat} (hr : rh ρ a b) (hw : wv w) (hk : k ≤ 8) {n h B : Nat} {σ0 : sg} (hN : h + (n + 1) = nH w) (hbel : lvl ρ w k n (h + 1) B σ0) : ∀ (j c0 : Nat) (σ : sg) (f : Nat → Nat), k - c0 ≤ j → c0 ≤ k → (∀ x, x < 1023 → σ 106 x = w x) → (∀ i, i < h → σ 114 i = Int32.ofNat (f i) ∧ f i < 2147483648) → σ 114 h = lf c0 → (∀ i, h < i → i < 8 → σ 114 i = -1) → ∃ (q : Nat) (y : Int32 × sg), q ≤ (j + 1) * (B + 1) ∧ stp (f_X12_paints_b23 (σ0, ρ) 105 (Int32.ofNat k)) q (Int32.ofNat h, σ) = some y ∧ (∀ o, o ≠ 114 → y.2 o = σ o) ∧ ((∃ c g, ff (pq w k n h f) c0 (k - c0) = some c ∧ ls (hm w) k n (h + 1) (up1 f h c) = some g ∧ y.1 = Int32.ofNat (nH w) ∧ ∀ i, i < nH w → y.2 114 i = Int32.ofNat (g i)) ∨ (ff (pq w k n h f) c0 (k - c0) = none ∧ y.1 = lf h ∧ (∀ i, i < h → y.2 114 i = σ 114 i) ∧ ∀ i, h ≤ i → i < 8 → y.2 114 i = -1)) := by
  have hH := (wv_H hw).2
  intro j
  induction j with
  | zero =>
    intro c0 σ f hj hc0 hwd hf h114 hbeh
    have hck : k - c0 = 0 := by omega
    have h1 := M_step hr hw hk (σ0 := σ0) (show h < nH w by omega) hc0 hwd hf h114
    rw [hck] at h1
    refine ⟨1, (lf h, am_u2 σ 114 h (-1)), by omega, stp_1 h1, fun o ho => u2_row ho, Or.inr ⟨by rw [hck]; rfl, rfl, fun i hi => u2_nj (by omega), fun i x1 x2 => ?_⟩⟩
    show am_u2 σ 114 h (-1) 114 i = -1
    by_cases z : i = h
    · subst z; exact u2_eq
    · rw [u2_nj z]; exact hbeh i (by omega) x2
  | succ j ih =>
    intro c0 σ f hj hc0 hwd hf h114 hbeh
    have h1 := M_step hr hw hk (σ0 := σ0) (show h < nH w by omega) hc0 hwd hf h114
    have hmul : (j + 1 + 1) * (B + 1) = (j + 1) * (B + 1) + (B + 1) := Nat.succ_mul _ _
    cases hff : ff (fr (hm w) f h) c0 (k - c0) with
    | none =>
      rw [hff] at h1
      refine ⟨1, (lf h, am_u2 σ 114 h (-1)), by omega, stp_1 h1, fun o ho => u2_row ho, Or.inr ⟨?_, rfl, fun i hi => u2_nj (by omega), fun i x1 x2 => ?_⟩⟩
      · have h2 := ff_none.mp hff
        exact ff_none.mpr (fun i x1 x2 => by unfold pq; rw [h2 i x1 x2]; rfl)
      · show am_u2 σ 114 h (-1) 114 i = -1
        by_cases z : i = h
        · subst z; exact u2_eq
        · rw [u2_nj z]; exact hbeh i (by omega) x2
    | some c =>
      rw [hff] at h1
      obtain ⟨b1, b2, b3, b4⟩ := ff_some.mp hff
      obtain ⟨q, y, q1, q2, q3, q4⟩ := hbel (am_u2 σ 114 h (Int32.ofNat c)) (up1 f h c) (fun x hx => by rw [u2_ne (by decide)]; exact hwd x hx) (fun i hi => by
        by_cases z : i = h
        · subst z; rw [u2_eq, up1_eq]; exact ⟨rfl, by omega⟩
        · rw [u2_nj z, up1_ne z]; exact hf i (by omega)) (fun i x1 x2 => by rw [u2_nj (by omega)]; exact hbeh i (by omega) x2)
      rcases q4 with ⟨g, z1, z3, z4⟩ | ⟨z1, z2, z3, z4⟩
      · refine ⟨1 + q, y, by omega, stp_add (stp_1 h1) q2, fun o ho => by rw [q3 o ho, u2_row ho], Or.inl ⟨c, g, ff_some.mpr ⟨b1, b2, ?_, fun i x1 x2 => ?_⟩, z1, z3, z4⟩⟩
        · unfold pq; rw [z1, b3]; rfl
        · unfold pq; rw [b4 i x1 x2]; rfl
      · -- back, and the next colour
        have hyc : y = (Int32.ofNat h, y.2) := by rw [← lf_s, ← z2]
        obtain ⟨r, y', r1, r2, r3, r4⟩ := ih (c + 1) y.2 f (by omega) (by omega) (fun x hx => by rw [q3 106 (by decide), u2_ne (by decide)]; exact hwd x hx) (fun i hi => by rw [z3 i (by omega), u2_nj (by omega)]; exact hf i hi) (by rw [z3 h (by omega), u2_eq, lf_s]) (fun i x1 x2 => z4 i (by omega) x2)
        have hsk : ff (pq w k n h f) c0 (k - c0) = ff (pq w k n h f) (c + 1) (k - (c + 1)) := by
          rw [ff_skip b1 b2 (fun i x1 x2 => by
            unfold pq
            by_cases z : i = c
            · subst z; rw [z1]; simp
            · rw [b4 i x1 (by omega)]; rfl)]
          congr 1
          omega
        rw [hyc] at q2
        refine ⟨1 + q + r, y', by omega, stp_add (stp_add (stp_1 h1) q2) r2, fun o ho => by rw [r3 o ho, q3 o ho, u2_row ho], ?_⟩
        rw [hsk]
        rcases r4 with g | ⟨g1, g2, g3, g4⟩
        · exact Or.inl g
        · exact Or.inr ⟨g1, g2, fun i hi => by rw [g3 i hi, z3 i (by omega), u2_nj (by omega)], g4⟩
theorem M_lvl {a b k : Nat} (hr : rh ρ a b) (hw : wv w) (hk : k ≤ 8) {σ0 : sg} : ∀ n h, h + n = nH w → lvl ρ w k n h (20 ^ n) σ0
  | 0, h, hN => fun σ f _ hf _ => ⟨0, (Int32.ofNat h, σ), Nat.zero_le _, rfl, fun _ _ => rfl, Or.inl ⟨f, rfl, by show Int32.ofNat h = _; rw [show h = nH w by omega], fun i hi => (hf i (by omega)).1⟩⟩
  | n + 1, h, hN => fun σ f hwd hf hbeh => by
    have hH := (wv_H hw).2
    obtain ⟨q, y, q1, q2, q3, q4⟩ := M_seek hr hw hk hN (M_lvl hr hw hk n (h + 1) (by omega)) k 0 σ f (by omega) (by omega) hwd hf (by rw [hbeh h (by omega) (by omega)]; rfl) (fun i x1 x2 => hbeh i (by omega) x2)
    have hls : ls (hm w) k (n + 1) h f = (ff (pq w k n h f) 0 k).bind (fun c => ls (hm w) k n (h + 1) (up1 f h c)) := rfl
    have hp : 20 ^ (n + 1) = 20 * 20 ^ n := by rw [Nat.pow_succ]; omega
    have h1 : 20 ^ 0 ≤ 20 ^ n := Nat.pow_le_pow_right (by decide) (Nat.zero_le n)
    have h2 : (k + 1) * (20 ^ n + 1) ≤ 9 * (20 ^ n + 1) := Nat.mul_le_mul_right _ (by omega)
    refine ⟨q, y, by omega, q2, q3, ?_⟩
    rw [Nat.sub_zero] at q4
    rcases q4 with ⟨c, g, z1, z2, z3, z4⟩ | ⟨z1, z2, z3, z4⟩
    · exact Or.inl ⟨g, by rw [hls, z1, bnd, z2], z3, z4⟩
    · exact Or.inr ⟨by rw [hls, z1]; rfl, z2, z3, z4⟩
def f0 : Nat → Nat := fun _ => 0
theorem M_paints {k : Nat} (H : wS σ ρ w) (hk : k ≤ 8) : ∃ τ, (∀ o, o ≠ 114 → τ o = σ o) ∧ ((∃ g, ls (hm w) k (nH w) 0 f0 = some g ∧ f_X12_paints (σ, ρ) 105 (Int32.ofNat k) = some (1, τ) ∧ ∀ i, i < nH w → τ 114 i = Int32.ofNat (g i)) ∨ (ls (hm w) k (nH w) 0 f0 = none ∧ f_X12_paints (σ, ρ) 105 (Int32.ofNat k) = some (0, τ))) := by
  have hH := (wv_H H.2.2).2
  obtain ⟨a, b, hr⟩ := H.1
  obtain ⟨s1, p1, p2, p3⟩ := lp_rule (body := f_X12_paints_b4 (σ, ρ) 105 (Int32.ofNat k) 0) 8
    (fun k y => y.1 = Int32.ofNat k ∧ (∀ o, o ≠ 114 → y.2 o = σ o) ∧ (∀ j, j < k → y.2 114 j = -1))
    (fun d => (∀ o, o ≠ 114 → d o = σ o) ∧ (∀ j, j < 8 → d 114 j = -1))
    (x := (0, σ)) ⟨rfl, fun _ _ => rfl, fun j hj => absurd hj (by omega)⟩ (fun k y hk hy => by
      obtain ⟨i, τ⟩ := y
      obtain ⟨rfl, y1, y2⟩ := hy
      simp only at y1 y2
      unfold f_X12_paints_b4
      simp only [rd_colM hr, bnd]
      by_cases e : k < 8
      · left
        rw [if_pos (show Int32.ofNat k < 8 from (on_lt (b := 8) (by omega) (by decide)).mpr e), st_on (by rw [ln_114]; omega) (by omega)]
        simp only [bnd, on_s]
        refine ⟨_, rfl, e, rfl, fun o ho => ?_, fun j hj => ?_⟩
        · show am_u2 τ 114 k _ o = _
          rw [u2_row ho, y1 o ho]
        · show am_u2 τ 114 k _ 114 j = _
          by_cases q : j = k
          · subst q; rw [u2_eq]
          · rw [u2_nj q, y2 j (by omega)]
      · right
        have : k = 8 := by omega
        subst this
        rw [if_neg (by decide)]
        exact ⟨_, rfl, y1, y2⟩) (by decide)
  have H1 : wS s1 ρ w := ⟨H.1, fun x hx => by rw [p2 106 (by decide)]; exact H.2.1 x hx, H.2.2⟩
  obtain ⟨q, y, q1, q2, q3, q4⟩ := M_lvl hr H.2.2 hk (σ0 := s1) (nH w) 0 (by omega) s1 f0 H1.2.1 (fun i hi => absurd hi (by omega)) (fun i _ h2 => p3 i h2)
  have hq : q < 1000000000000 := by
    have : 20 ^ nH w ≤ 20 ^ 8 := Nat.pow_le_pow_right (by decide) hH
    have h8 : (20 : Nat) ^ 8 = 25600000000 := by decide
    omega
  have Hy : wS y.2 ρ w := ⟨H.1, fun x hx => by rw [q3 106 (by decide)]; exact H1.2.1 x hx, H.2.2⟩
  refine ⟨y.2, fun o ho => by rw [q3 o ho, p2 o ho], ?_⟩
  rcases q4 with ⟨g, z1, z2, z3⟩ | ⟨z1, z2, z3, z4⟩
  · left
    refine ⟨g, z1, ?_, z3⟩
    have hend : f_X12_paints_b23 (s1, ρ) 105 (Int32.ofNat k) y = some (.inr y) := by
      unfold f_X12_paints_b23
      simp only [M_houses Hy, bnd, z2]
      rw [if_neg (on_neg (by omega)), if_neg (lt_n (by omega)), ← z2]
    have hloop : am_loop (f_X12_paints_b23 (s1, ρ) 105 (Int32.ofNat k)) am_fuel (0, s1) = some y := by
      rw [show (0 : Int32) = Int32.ofNat 0 from rfl]
      exact stp_loop (fu := am_fuel) q2 hend hq
    unfold f_X12_paints
    rw [p1, bnd, hloop, bnd, z2, if_neg (on_neg (by omega))]
  · right
    refine ⟨z1, ?_⟩
    have hend : f_X12_paints_b23 (s1, ρ) 105 (Int32.ofNat k) y = some (.inr y) := by
      unfold f_X12_paints_b23
      rw [z2, if_pos lf_0, ← z2]
    have hloop : am_loop (f_X12_paints_b23 (s1, ρ) 105 (Int32.ofNat k)) am_fuel (0, s1) = some y := by
      rw [show (0 : Int32) = Int32.ofNat 0 from rfl]
      exact stp_loop (fu := am_fuel) q2 hend hq
    unfold f_X12_paints
    rw [p1, bnd, hloop, bnd, z2, if_pos lf_0]
end CM
