section LR
variable {σ : sg} {ρ : rg} {t u : Nat} {w wi : wg}
/-- what the model has when it tries -/
def mE (τ : sg) (T : Nat → Int32) (n S : Nat) (s : Nat × (Nat → Int32) × (Nat → Nat)) : Prop := τ 105 8 = Int32.ofNat n ∧ τ 105 27 = Int32.ofNat S ∧ (∀ k, k < n → τ 109 k = T k) ∧ mst τ s
theorem M_told {a b : Nat} (hr : rh ρ a b) {τ : sg} {T : Nat → Int32} {n S : Nat} {s : Nat × (Nat → Int32) × (Nat → Nat)} {W : Nat → Nat} (hn : n ≤ 400) (hS : S ≤ 20) (hSn : S + 1 ≤ n) (hm : n ≤ S + 7) (hE : mE τ T n S s) (hl : ltS (fun i => T (S + 1 + i)) (n - S - 1) = some s) (hW : ∀ i, i < s.1 → τ 120 i = Int32.ofNat (W i) ∧ W i < 16) : f_X12_isTold (τ, ρ) 105 = some (bi (allN (fun k => allN (fun o => !decide (W k = W o)) k) s.1 && fit T S s.2.2 W (n - S - 1) 3)) := by
  obtain ⟨e8, e27, eT, e26, eL⟩ := hE
  obtain ⟨I1, I2, I3, I4⟩ := ltS_I _ s hl
  have in12 : ∀ k, k < s.1 → am_loop (f_X12_isTold_b12 (τ, ρ) 105 (Int32.ofNat k)) am_fuel 0 = some (fd (fun _ => Sum.inr 0) (Sum.inl ()) (ff (fun o => decide (W k = W o)) 0 k)) := fun k hk => by
    refine lp_ff (body := f_X12_isTold_b12 (τ, ρ) 105 (Int32.ofNat k)) (fun j => Int32.ofNat j) (fun o => decide (W k = W o)) (fun _ => Sum.inr 0) (Sum.inl ()) k rfl (fun o ho => ?_) (fun _ => ?_) (by omega)
    · unfold f_X12_isTold_b12
      simp only
      rw [if_pos (lt_y ho (by omega)), rd_word hr, bnd, ld_on (by rw [ln_120]; omega) (by omega), (hW k hk).1, bnd, bnd, ld_on (by rw [ln_120]; omega) (by omega), (hW o (by omega)).1, bnd, on_s]
      have h1 := (hW k hk).2
      have h2 := (hW o (by omega)).2
      by_cases z : W k = W o
      · rw [if_pos (by rw [z])]; simp [z]
      · rw [if_neg (fun q => z ((on_inj (by omega) (by omega)).mp q))]; simp [z]
    · unfold f_X12_isTold_b12
      rw [if_neg (lt_n (by omega))]
  have key1 := lp_ff (body := f_X12_isTold_b2 (τ, ρ) 105) (fun j => Int32.ofNat j) (fun k => anyN (fun o => decide (W k = W o)) k) (fun _ => .inr 0) (.inl ()) s.1 (x := 0) rfl (fun k hk => by
    unfold f_X12_isTold_b2
    simp only [e26]
    rw [if_pos (lt_y hk (by omega)), in12 k hk, bnd, ← ff_any, on_s]
    cases ff (fun o => decide (W k = W o)) 0 k <;> rfl) (fun _ => by
    unfold f_X12_isTold_b2
    simp only [e26]
    rw [if_neg (lt_n (by omega))]) (by omega)
  unfold f_X12_isTold
  rw [key1, bnd]
  have hdis : allN (fun k => allN (fun o => !decide (W k = W o)) k) s.1 = (ff (fun k => anyN (fun o => decide (W k = W o)) k) 0 s.1).isNone := by
    rw [Bool.eq_iff_iff, allN_iff, Option.isNone_iff_eq_none, ff_none]
    constructor
    · intro h j _ hj
      rw [Bool.eq_false_iff]
      intro g
      obtain ⟨o, h1, h2⟩ := anyN_iff.mp g
      have := allN_iff.mp (h j (by omega)) o h1
      rw [h2] at this; cases this
    · intro h k hk
      refine allN_iff.mpr (fun o ho => ?_)
      have := h k (Nat.zero_le _) (by omega)
      cases e : decide (W k = W o) with
      | false => rfl
      | true =>
        have : anyN (fun o => decide (W k = W o)) k = true := anyN_iff.mpr ⟨o, ho, e⟩
        simp_all
  rw [hdis]
  cases ff (fun k => anyN (fun o => decide (W k = W o)) k) 0 s.1 with
  | some i => rfl
  | none =>
    show (am_loop (f_X12_isTold_b55 (τ, ρ) 105) am_fuel (0, τ 105 27 + 1)).bind _ = some (bi (true && _))
    rw [Bool.true_and, e27, on_s]
    have key := lp_rn (T := T) (S := S) (m := n - S - 1) (k := 3) (o := S + 1) (d := s.2.2) (W := W) (body := f_X12_isTold_b55 (τ, ρ) 105) (fun a _ => by
      unfold f_X12_isTold_b55
      simp only [e8]
      rw [if_neg (fun z => by have := (on_lt (by omega) (by omega)).mp z; omega)]) (fun j a hj ha => by
      obtain ⟨d1, d2⟩ := I2 j hj
      obtain ⟨w1, w2⟩ := hW (s.2.2 j) d1
      have hlf : lfd s.2.1 s.1 (T (S + 1 + j)) = s.2.2 j := by
        obtain ⟨b1, b2, b3⟩ := lfd_p (L := s.2.1) (K := s.1) (x := T (S + 1 + j))
        have hle : lfd s.2.1 s.1 (T (S + 1 + j)) ≤ s.2.2 j := by
          apply Classical.byContradiction
          intro q
          exact b3 (s.2.2 j) (by omega) d2
        exact I3 _ _ (by omega) d1 ((b2 (by omega)).trans d2.symm)
      unfold f_X12_isTold_b55
      simp only [e8]
      rw [if_pos (lt_y (by omega) (by omega)), rd_word hr, bnd, rd_tapeM hr, bnd, ld_on (by rw [ln_109]; omega) (by omega), eT _ (by omega), bnd, M_kind hr I1 e26 eL, bnd, hlf, if_pos d1, ld_on (by rw [ln_120]; omega) (by omega), w1, bnd, (w_len (show W (s.2.2 j) < 1024 by omega)).1, bnd, on_m]
      have hl := log_16 w2
      rw [lp_ms (T := T) (S := S) (x := W (s.2.2 j)) (body := f_X12_isTold_b87 (τ, ρ) 105 (Int32.ofNat (S + 1 + j)) (Int32.ofNat (W (s.2.2 j)))) (fun a => by
        unfold f_X12_isTold_b87
        simp only
        rw [if_pos (by decide)]) (fun a r ha hr9 => by
        unfold f_X12_isTold_b87
        simp only [e27, sh1 (show W (s.2.2 j) < 1024 by omega) (show r < 11 by omega), on_inj (show a < 2147483648 by omega) (show S < 2147483648 by omega)]
        rw [if_neg (on_neg (by omega))]
        by_cases q : a < S
        · rw [if_neg (by omega), rd_tapeM hr, bnd, ld_on (by rw [ln_109]; omega) (by omega), eT a (by omega), bnd, on_s]
          by_cases z : T a - 97 = Int32.ofNat ((W (s.2.2 j) >>> r) % 2)
          · rw [if_pos z, if_pos ⟨q, z⟩]
          · rw [if_neg z, if_neg (fun y => z y.2)]
        · rw [if_pos (by omega), if_neg (fun y => q y.1)]) _ a am_fuel (Nat.lt_of_le_of_lt hl (by decide)) (by omega) ha, bnd, if_neg (by omega)]
      cases ms T S (W (s.2.2 j)) (W (s.2.2 j)).log2 a with
      | none => rfl
      | some b => simp only [on_s]; rfl) (n - S - 1) 0 0 am_fuel (by omega) (Nat.lt_of_le_of_lt (show n - S - 1 ≤ 6 by omega) (by decide)) (Nat.zero_le _)
    have key' : am_loop (f_X12_isTold_b55 (τ, ρ) 105) am_fuel (0, Int32.ofNat (S + 1)) = _ := key
    rw [key', bnd]
    unfold fit
    cases e : rn T S s.2.2 W 3 (n - S - 1) 0 0 with
    | inl b =>
      have hb : b ≤ S := by
        have : ∀ r j a b, a ≤ S → rn T S s.2.2 W 3 r j a = .inl b → b ≤ S := by
          intro r
          induction r with
          | zero => intro j a b ha h; cases h; exact ha
          | succ r ih =>
            intro j a b ha h
            unfold rn at h
            by_cases z : 3 < s.2.2 j
            · rw [if_pos z] at h; cases h
            · rw [if_neg z] at h
              cases q : ms T S (W (s.2.2 j)) (W (s.2.2 j)).log2 a with
              | none => rw [q] at h; cases h
              | some c => rw [q] at h; exact ih (j + 1) c b (ms_le _ a c ha q) h
        exact this _ 0 0 b (Nat.zero_le _) e
      simp only [e27, on_inj (show b < 2147483648 by omega) (show S < 2147483648 by omega)]
      by_cases z : b = S <;> simp [z, bi]
    | inr b => rfl
theorem M_codes {a3 : Int32} {τ : sg} {K : Nat} (hK : K ≤ 3) (h26 : τ 105 26 = Int32.ofNat K) : am_loop (f_X12_learn_b52 (τ, ρ) 105 a3) am_fuel (1, 0) = some (Int32.ofNat (16 ^ K)) := by
  refine lp_for K (fun k => (Int32.ofNat (16 ^ k), Int32.ofNat k)) rfl (fun k hk => ?_) ?_ (by omega)
  · unfold f_X12_learn_b52
    simp only [h26]
    rw [if_pos (lt_y hk (by omega)), show (16 : Int32) = Int32.ofNat 16 from rfl, on_mul, on_s, Nat.pow_succ]
  · unfold f_X12_learn_b52
    simp only [h26]
    rw [if_neg (lt_n (by omega))]
def kw (σ τ : sg) : Prop := ∀ o, o ≠ 120 → τ o = σ o
theorem M_digits {a b : Nat} (hr : rh ρ a b) {τ : sg} {K : Nat} (hK : K ≤ 3) {n : Nat} (hn : n < 100000) {a1 a3 a4 a5 : Int32} {W : Nat → Nat} (hW : ∀ i, i < K → W i = (n / 16 ^ (K - 1 - i)) % 16) : ∃ d, am_loop (f_X12_learn_b99 (τ, ρ) 105 a1 a3 a4 a5) am_fuel (Int32.ofNat n, 1, Int32.ofNat K - 1, τ) = some d ∧ (∃ f, d.1 = bi f ∧ (f = true ↔ ∀ i, i < K → 2 ≤ W i)) ∧ kw τ d.2 ∧ ∀ i, i < K → d.2 120 i = Int32.ofNat (W i) := by
  refine lp_rule K (fun q y => y.1 = Int32.ofNat (n / 16 ^ q) ∧ (∃ f, y.2.1 = bi f ∧ (f = true ↔ ∀ i, K - q ≤ i → i < K → 2 ≤ W i)) ∧ y.2.2.1 = Int32.ofNat (K - q) - 1 ∧ kw τ y.2.2.2 ∧ ∀ i, K - q ≤ i → i < K → y.2.2.2 120 i = Int32.ofNat (W i)) (fun (d : Int32 × sg) => (∃ f, d.1 = bi f ∧ (f = true ↔ ∀ i, i < K → 2 ≤ W i)) ∧ kw τ d.2 ∧ ∀ i, i < K → d.2 120 i = Int32.ofNat (W i)) (x := (Int32.ofNat n, 1, Int32.ofNat K - 1, τ)) ⟨by rw [Nat.pow_zero, Nat.div_one], ⟨true, rfl, ⟨fun _ i h1 h2 => by omega, fun _ => rfl⟩⟩, rfl, fun _ _ => rfl, fun i h1 h2 => by omega⟩ (fun q y hq hy => ?_) (by omega)
  obtain ⟨l, sm, k, υ⟩ := y
  obtain ⟨y1, ⟨f, y2, y3⟩, y4, y5, y6⟩ := hy
  simp only at y1 y2 y4 y5 y6
  subst y1 y2 y4
  unfold f_X12_learn_b99
  simp only
  by_cases e : q < K
  · left
    obtain ⟨r, hrq⟩ : ∃ r, r = K - q - 1 := ⟨_, rfl⟩
    have hdl : n / 16 ^ q ≤ n := Nat.div_le_self _ _
    have hWr : W r = (n / 16 ^ q) % 16 := by rw [hW r (by omega), show K - 1 - r = q by omega]
    have hW16 : W r < 16 := by rw [hWr]; exact Nat.mod_lt _ (by decide)
    rw [on_p (by omega), ← hrq, if_neg (on_neg (by omega)), rd_word hr, bnd, show (16 : Int32) = Int32.ofNat 16 from rfl, on_mod (by omega) (by decide), ← hWr, on_div (by omega) (by decide), st_on (by rw [ln_120]; omega) (by omega), bnd]
    simp only [bi_f]
    rw [bnd, ld_on (by rw [ln_120]; omega) (by omega), u2_eq, bnd]
    have hlt1 : ((1 : Int32) < Int32.ofNat (W r)) ↔ 1 < W r := on_lt (a := 1) (by decide) (by omega)
    have hif : (if f = true then (if (1 : Int32) < Int32.ofNat (W r) then some (1 : Int32) else some 0) else some 0) = some (bi (f && decide (1 < W r))) := by
      cases f with
      | false => rfl
      | true =>
        rw [if_pos rfl, Bool.true_and]
        by_cases z : 1 < W r
        · rw [if_pos (hlt1.mpr z), decide_eq_true z]; rfl
        · rw [if_neg (fun y => z (hlt1.mp y)), decide_eq_false z]; rfl
    rw [hif, bnd, Nat.div_div_eq_div_mul, ← Nat.pow_succ]
    refine ⟨_, rfl, e, rfl, ⟨_, rfl, ?_⟩, ?_, fun o ho => ?_, fun i h1 h2 => ?_⟩
    · rw [Bool.and_eq_true, y3, decide_eq_true_eq]
      constructor
      · rintro ⟨h1, h2⟩ i h3 h4
        by_cases z : i = r
        · subst z; omega
        · exact h1 i (by omega) h4
      · intro h
        exact ⟨fun i h3 h4 => h i (by omega) h4, by have := h r (by omega) (by omega); omega⟩
    · show Int32.ofNat r + (-1) = _
      rw [← on_m]
      rw [show K - (q + 1) = r by omega]
    · show am_u2 υ 120 r (Int32.ofNat (W r)) o = _
      rw [u2_row ho, y5 o ho]
    · show am_u2 υ 120 r (Int32.ofNat (W r)) 120 i = _
      by_cases z : i = r
      · subst z; rw [u2_eq]
      · rw [u2_nj z]; exact y6 i (by omega) h2
  · right
    have : q = K := by omega
    subst this
    rw [Nat.sub_self, if_pos (by decide)]
    refine ⟨_, rfl, ⟨f, rfl, ?_⟩, y5, fun i hi => y6 i (by omega) hi⟩
    rw [y3]
    exact ⟨fun h i hi => h i (by omega) hi, fun h i _ hi => h i hi⟩
theorem M_first {a b : Nat} (hr : rh ρ a b) {τ : sg} {K c : Nat} (hK : K ≤ 3) (hc : c < 1000000) (h26 : τ 105 26 = Int32.ofNat K) {W : Nat → Nat} (hW : ∀ i, i < K → τ 120 i = Int32.ofNat (W i)) {a1 a3 a5 : Int32} (hK0 : 0 < K) : ∃ d, am_loop (f_X12_learn_b170 (τ, ρ) 105 a1 a3 (Int32.ofNat c) a5) am_fuel (0, τ) = some d ∧ (∀ o, o ≠ 121 → d o = τ o) ∧ (c = 0 → ∀ i, i < K → d 121 i = Int32.ofNat (W i)) ∧ (c ≠ 0 → d 121 = τ 121) := by
  by_cases z : c = 0
  · subst z
    obtain ⟨d, h1, h2, h3⟩ := lp_rule (body := f_X12_learn_b170 (τ, ρ) 105 a1 a3 (Int32.ofNat 0) a5) K (fun k y => y.1 = Int32.ofNat k ∧ (∀ o, o ≠ 121 → y.2 o = τ o) ∧ ∀ i, i < k → y.2 121 i = Int32.ofNat (W i)) (fun (d : sg) => (∀ o, o ≠ 121 → d o = τ o) ∧ ∀ i, i < K → d 121 i = Int32.ofNat (W i)) (x := (0, τ)) ⟨rfl, fun _ _ => rfl, fun i hi => by omega⟩ (fun k y hk hy => by
      obtain ⟨i, υ⟩ := y
      obtain ⟨rfl, y1, y2⟩ := hy
      simp only at y1 y2
      unfold f_X12_learn_b170
      simp only [y1 105 (by decide), h26]
      by_cases e : k < K
      · left
        rw [if_pos (lt_y e (by omega)), if_pos (show Int32.ofNat 0 = 0 from rfl), rd_fword hr, bnd, rd_word hr, bnd, ld_on (by rw [ln_120]; omega) (by omega), y1 120 (by decide), hW k e, bnd, st_on (by rw [ln_121]; omega) (by omega), bnd, on_s]
        refine ⟨_, rfl, e, rfl, fun o ho => ?_, fun i hi => ?_⟩
        · show am_u2 υ 121 k (Int32.ofNat (W k)) o = _
          rw [u2_row ho, y1 o ho]
        · show am_u2 υ 121 k (Int32.ofNat (W k)) 121 i = _
          by_cases z : i = k
          · subst z; rw [u2_eq]
          · rw [u2_nj z]; exact y2 i (by omega)
      · right
        have : k = K := by omega
        subst this
        rw [if_neg (lt_n (by omega))]
        exact ⟨_, rfl, y1, y2⟩) (by omega)
    exact ⟨d, h1, h2, fun _ => h3, fun h => absurd rfl h⟩
  · refine ⟨τ, ?_, fun _ _ => rfl, fun h => absurd h z, fun _ => rfl⟩
    refine lp_for 0 (fun _ => (0, τ)) rfl (fun j hj => by omega) ?_ (by decide)
    unfold f_X12_learn_b170
    simp only [h26]
    rw [if_pos ((on_pos (by omega)).mpr hK0), if_neg (fun y => z ((on_z (by omega)).mp y))]
end LR
