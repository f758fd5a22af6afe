section LQ
variable {σ : sg} {ρ : rg} {t u : Nat} {w wi : wg}
theorem rd_kind {a b : Nat} (h : rh ρ a b) : am_rd ρ 105 23 1 = some 119 := rh_rd h (by decide) (by decide) (by decide +kernel)
theorem rd_word {a b : Nat} (h : rh ρ a b) : am_rd ρ 105 24 1 = some 120 := rh_rd h (by decide) (by decide) (by decide +kernel)
theorem rd_fword {a b : Nat} (h : rh ρ a b) : am_rd ρ 105 25 1 = some 121 := rh_rd h (by decide) (by decide) (by decide +kernel)
theorem ln_119 : am_ln 119 = 3 := by decide
theorem ln_120 : am_ln 120 = 3 := by decide
theorem ln_121 : am_ln 121 = 3 := by decide
theorem M_kind {a b : Nat} (hr : rh ρ a b) {τ : sg} {K : Nat} {L : Nat → Int32} (hK : K ≤ 3) (h26 : τ 105 26 = Int32.ofNat K) (hL : ∀ k, k < K → τ 119 k = L k) {x : Int32} : f_X12_kindOf (τ, ρ) 105 x = some (if lfd L K x < K then Int32.ofNat (lfd L K x) else -1) := by
  have key := lp_ff (body := f_X12_kindOf_b2 (τ, ρ) 105 x) (fun j => Int32.ofNat j) (fun k => decide (L k = x)) (fun j => .inr (Int32.ofNat j)) (.inr (-1)) K (x := 0) rfl (fun k hk => by
    unfold f_X12_kindOf_b2
    simp only [h26]
    rw [if_pos (lt_y hk (by omega)), rd_kind hr, bnd, ld_on (by rw [ln_119]; omega) (by omega), hL k hk, bnd, on_s]
    by_cases z : L k = x
    · rw [if_pos z]; simp [z]
    · rw [if_neg z]; simp [z]) (fun _ => by
    unfold f_X12_kindOf_b2
    simp only [h26]
    rw [if_neg (lt_n (by omega))]) (by omega)
  unfold f_X12_kindOf
  rw [key, bnd]
  unfold lfd
  cases e : ff (fun k => decide (L k = x)) 0 K with
  | none =>
    show some (-1) = some (if K < K then _ else _)
    rw [if_neg (by omega)]
  | some i =>
    obtain ⟨-, h2, -, -⟩ := ff_some.mp e
    show some (Int32.ofNat i) = some (if i < K then Int32.ofNat i else -1)
    rw [if_pos (by omega)]
def mst (τ : sg) (s : Nat × (Nat → Int32) × (Nat → Nat)) : Prop := τ 105 26 = Int32.ofNat s.1 ∧ ∀ k, k < s.1 → τ 119 k = s.2.1 k
def mrd (σ τ : sg) : Prop := (∀ o, o ≠ 105 → o ≠ 119 → τ o = σ o) ∧ (∀ j, j ≠ 26 → j ≠ 27 → τ 105 j = σ 105 j)
def mrQ (σ : sg) (T' : Nat → Int32) (S m : Nat) (d : sg ⊕ (Int32 × sg)) : Prop := match d with
  | .inl _ => False
  | .inr z => z.1 = bi (ltS T' m).isSome ∧ mrd σ z.2 ∧ z.2 105 27 = Int32.ofNat S ∧ ∀ s, ltS T' m = some s → mst z.2 s
theorem M_letters {a b : Nat} (hr : rh ρ a b) {n S : Nat} {T : Nat → Int32} (hn : n ≤ 400) (h8 : σ 105 8 = Int32.ofNat n) (h27 : σ 105 27 = Int32.ofNat S) (hT : ∀ k, k < n → σ 109 k = T k) (hS : S + 1 ≤ n) (h0 : σ 105 26 = 0) : ∃ d, am_loop (f_X12_isRow_b120 (σ, ρ) 105) am_fuel (Int32.ofNat (S + 1), σ) = some d ∧ mrQ σ (fun i => T (S + 1 + i)) S (n - S - 1) d := by
  refine lp_rule (n - S - 1) (fun j y => y.1 = Int32.ofNat (S + 1 + j) ∧ mrd σ y.2 ∧ y.2 105 27 = Int32.ofNat S ∧ ∃ s, ltS (fun i => T (S + 1 + i)) j = some s ∧ mst y.2 s) (mrQ σ (fun i => T (S + 1 + i)) S (n - S - 1)) (x := (Int32.ofNat (S + 1), σ)) ⟨rfl, ⟨fun _ _ _ => rfl, fun _ _ _ => rfl⟩, h27, _, rfl, h0, fun k hk => absurd hk (Nat.not_lt_zero _)⟩ (fun j y hj hy => ?_) (by omega)
  obtain ⟨i, τ⟩ := y
  obtain ⟨rfl, y2, y27, s, y3, y4, y5⟩ := hy
  simp only at y2 y27 y4 y5
  have I := ltS_I j s y3
  have e8 : τ 105 8 = Int32.ofNat n := by rw [y2.2 8 (by decide) (by decide)]; exact h8
  unfold f_X12_isRow_b120
  simp only [e8]
  by_cases e : S + 1 + j < n
  · have hl : ltS (fun i => T (S + 1 + i)) (j + 1) = ltF (T (S + 1 + j)) j s := by
      show (ltS (fun i => T (S + 1 + i)) j).bind _ = _
      rw [y3]; rfl
    rw [if_pos (lt_y e (by omega))]
    simp only [rd_tapeM hr, bnd]
    rw [ld_on (by rw [ln_109]; omega) (by omega), y2.1 109 (by decide) (by decide), hT _ e]
    simp only [bnd]
    have no : ltF (T (S + 1 + j)) j s = none → ∃ d, (some (.inr (.inr (0, τ))) : Option ((Int32 × sg) ⊕ (sg ⊕ (Int32 × sg)))) = some (.inr d) ∧ mrQ σ (fun i => T (S + 1 + i)) S (n - S - 1) d := fun h => by
      have hz := ltS_mono (hl.trans h) (n - S - 1) (by omega)
      refine ⟨_, rfl, ?_⟩
      unfold mrQ
      rw [hz]
      exact ⟨rfl, y2, y27, fun s h => by cases h⟩
    by_cases c2 : T (S + 1 + j) < 65
    · right; rw [if_pos c2]; exact no (by unfold ltF; rw [if_pos (Or.inl c2)])
    · by_cases c3 : 90 < T (S + 1 + j)
      · right; rw [if_neg c2, if_pos c3]; exact no (by unfold ltF; rw [if_pos (Or.inr c3)])
      · have c1 : ¬ (T (S + 1 + j) < 65 ∨ 90 < T (S + 1 + j)) := fun z => z.elim c2 c3
        rw [if_neg c2, if_neg c3, M_kind hr I.1 y4 y5, bnd]
        obtain ⟨b1, b2, b3⟩ := lfd_p (L := s.2.1) (K := s.1) (x := T (S + 1 + j))
        obtain ⟨k, hk⟩ : ∃ k, k = lfd s.2.1 s.1 (T (S + 1 + j)) := ⟨_, rfl⟩
        rw [← hk] at b1 b2 b3 ⊢
        have I1 := I.1
        by_cases c4 : k < s.1
        · left
          rw [if_pos c4, if_neg (on_neg (by omega)), on_s]
          have hF : ltF (T (S + 1 + j)) j s = some (s.1, fun i => if i = k then T (S + 1 + j) else s.2.1 i, up1 s.2.2 j k) := by
            unfold ltF; rw [if_neg c1, ← hk, if_neg (by omega), if_pos c4]
          refine ⟨_, rfl, by omega, rfl, y2, y27, _, hl.trans hF, y4, fun i hi => ?_⟩
          show τ 119 i = if i = k then T (S + 1 + j) else s.2.1 i
          by_cases z : i = k
          · rw [if_pos z, y5 i hi, z, b2 c4]
          · rw [if_neg z]; exact y5 i hi
        · have hks : k = s.1 := by omega
          rw [if_neg c4, if_pos (by decide), y4]
          by_cases c5 : s.1 = 3
          · right
            rw [if_pos (by rw [c5]; rfl)]
            exact no (by unfold ltF; rw [if_neg c1, ← hk, if_pos (by omega)])
          · left
            rw [if_neg (show ¬ Int32.ofNat s.1 = 3 from fun z => c5 ((on_inj (b := 3) (by omega) (by decide)).mp z)), rd_kind hr, bnd, st_on (by rw [ln_119]; omega) (by omega), bnd]
            have e26 : am_u2 τ 119 s.1 (T (S + 1 + j)) 105 26 = Int32.ofNat s.1 := by rw [u2_ne (by decide)]; exact y4
            rw [e26, on_s, on_s]
            have hF : ltF (T (S + 1 + j)) j s = some (s.1 + 1, fun i => if i = s.1 then T (S + 1 + j) else s.2.1 i, up1 s.2.2 j s.1) := by
              unfold ltF; rw [if_neg c1, ← hk, if_neg (by omega), if_neg c4, hks]
            obtain ⟨N, hN⟩ : ∃ N, N = am_u2 (am_u2 τ 119 s.1 (T (S + 1 + j))) 105 26 (Int32.ofNat (s.1 + 1)) := ⟨_, rfl⟩
            rw [← hN]
            have F1 : mrd σ N := ⟨fun o h1 h2 => by rw [hN, u2_row h1, u2_row h2, y2.1 o h1 h2], fun i h1 h2 => by rw [hN, u2_nj h1, u2_ne (by decide)]; exact y2.2 i h1 h2⟩
            have F2 : N 105 27 = Int32.ofNat S := by rw [hN, u2_nj (by decide), u2_ne (by decide)]; exact y27
            have F3 : mst N (s.1 + 1, fun i => if i = s.1 then T (S + 1 + j) else s.2.1 i, up1 s.2.2 j s.1) := ⟨by rw [hN]; exact u2_eq, fun i hi => by
              show N 119 i = if i = s.1 then T (S + 1 + j) else s.2.1 i
              rw [hN, u2_ne (by decide)]
              by_cases z : i = s.1
              · rw [if_pos z, z, u2_eq]
              · rw [if_neg z, u2_nj z]
                have : i < s.1 + 1 := hi
                exact y5 i (by omega)⟩
            exact ⟨_, rfl, by omega, rfl, F1, F2, _, hl.trans hF, F3⟩
  · right
    rw [if_neg (fun z => e ((on_lt (by omega) (by omega)).mp z))]
    have : j = n - S - 1 := by omega
    subst this
    refine ⟨_, rfl, ?_⟩
    unfold mrQ
    rw [y3]
    exact ⟨rfl, y2, y27, fun s' h => by cases h; exact ⟨y4, y5⟩⟩
theorem M_row {a b : Nat} (hr : rh ρ a b) {n S : Nat} {T : Nat → Int32} (hn : n ≤ 400) (h8 : σ 105 8 = Int32.ofNat n) (hT : ∀ k, k < n → σ 109 k = T k) (s1 : S ≤ n) (s2 : ∀ k, k < S → isS (T k) = true) (s3 : S < n → isS (T S) = false) : ∃ τ, f_X12_isRow (σ, ρ) 105 = some (bi (okB T n S), τ) ∧ mrd σ τ ∧ (okB T n S = true → τ 105 27 = Int32.ofNat S ∧ ∀ s, ltS (fun i => T (S + 1 + i)) (n - S - 1) = some s → mst τ s) := by
  obtain ⟨d, l1, l2, l3⟩ := lp_rule (body := f_X12_isRow_b5 (am_u2 σ 105 27 0, ρ) 105) S (fun k y => y 105 27 = Int32.ofNat k ∧ mrd σ y) (fun d => d 105 27 = Int32.ofNat S ∧ mrd σ d) (x := am_u2 σ 105 27 0) ⟨u2_eq, fun o h _ => u2_row h, fun j _ h => u2_nj h⟩ (fun k y hk hy => by
    obtain ⟨y1, y2⟩ := hy
    have e8 : y 105 8 = Int32.ofNat n := by rw [y2.2 8 (by decide) (by decide)]; exact h8
    unfold f_X12_isRow_b5
    simp only [y1, e8]
    by_cases e : k < S
    · left
      rw [if_pos (lt_y (by omega) (by omega))]
      simp only [rd_tapeM hr, bnd]
      rw [ld_on (by rw [ln_109]; omega) (by omega), y2.1 109 (by decide) (by decide), hT k (by omega)]
      simp only [bnd, on_s]
      have good : ∃ y', (some (.inl (am_u2 y 105 27 (Int32.ofNat (k + 1)))) : Option (sg ⊕ sg)) = some (.inl y') ∧ k < S ∧ y' 105 27 = Int32.ofNat (k + 1) ∧ mrd σ y' := ⟨_, rfl, e, u2_eq, fun o h1 h2 => by rw [u2_row h1, y2.1 o h1 h2], fun j h1 h2 => by rw [u2_nj h2]; exact y2.2 j h1 h2⟩
      have hs := s2 k e
      unfold isS at hs
      by_cases z : T k = 97
      · rw [if_pos z]; exact good
      · have z2 : T k = 98 := by simpa [z] using hs
        rw [if_neg z, if_pos z2]; exact good
    · right
      have hkS : k = S := by omega
      subst hkS
      by_cases c : k < n
      · have hs := s3 c
        unfold isS at hs
        simp only [Bool.or_eq_false_iff, decide_eq_false_iff_not] at hs
        rw [if_pos (lt_y c (by omega))]
        simp only [rd_tapeM hr, bnd]
        rw [ld_on (by rw [ln_109]; omega) (by omega), y2.1 109 (by decide) (by decide), hT k c]
        simp only [bnd]
        rw [if_neg hs.1, if_neg hs.2]
        exact ⟨_, rfl, y1, y2⟩
      · rw [if_neg (fun z => c ((on_lt (by omega) (by omega)).mp z))]
        exact ⟨_, rfl, y1, y2⟩) (by omega)
  have e8 : d 105 8 = Int32.ofNat n := by rw [l3.2 8 (by decide) (by decide)]; exact h8
  unfold f_X12_isRow
  simp only [l1, bnd, in_e, l2, e8]
  have no : okB T n S = false → ∃ τ, (some (0, d) : Option (Int32 × sg)) = some (bi (okB T n S), τ) ∧ mrd σ τ ∧ (okB T n S = true → τ 105 27 = Int32.ofNat S ∧ ∀ s, ltS (fun i => T (S + 1 + i)) (n - S - 1) = some s → mst τ s) := fun h => ⟨d, by rw [h]; rfl, l3, fun g => by rw [h] at g; cases g⟩
  have i1 : (Int32.ofNat S < 1 ∨ 20 < Int32.ofNat S) ↔ ¬ (1 ≤ S ∧ S ≤ 20) := by
    rw [show (Int32.ofNat S < 1 ↔ S < 1) from on_lt (b := 1) (by omega) (by decide), show ((20 : Int32) < Int32.ofNat S ↔ 20 < S) from on_lt (a := 20) (by decide) (by omega)]
    omega
  by_cases c1 : 1 ≤ S ∧ S ≤ 20
  · rw [if_neg (fun z => (i1.mp z) c1), if_neg (by decide)]
    by_cases c2 : S + 2 ≤ n ∧ n ≤ S + 7
    · have e1 : Int32.ofNat n - Int32.ofNat S - 1 = Int32.ofNat (n - S - 1) := by rw [on_sub s1, on_p (by omega)]
      have i2 : ¬ (Int32.ofNat (n - S - 1) < 1 ∨ 6 < Int32.ofNat (n - S - 1)) := by
        rw [show (Int32.ofNat (n - S - 1) < 1 ↔ n - S - 1 < 1) from on_lt (b := 1) (by omega) (by decide), show ((6 : Int32) < Int32.ofNat (n - S - 1) ↔ 6 < n - S - 1) from on_lt (a := 6) (by decide) (by omega)]
        omega
      rw [e1, if_neg i2, if_neg (by decide), rd_tapeM hr, bnd, ld_on (by rw [ln_109]; omega) (by omega), l3.1 109 (by decide) (by decide), hT S (by omega), bnd]
      by_cases c4 : T S = 32
      · rw [if_pos c4]
        have e27 : am_u2 d 105 26 0 105 27 = Int32.ofNat S := by rw [u2_nj (by decide)]; exact l2
        rw [e27, on_s]
        obtain ⟨e, e1, e2⟩ := M_letters (σ := am_u2 d 105 26 0) hr (n := n) (S := S) (T := T) hn (by rw [u2_nj (by decide)]; exact e8) e27 (fun k hk => by rw [u2_ne (by decide), l3.1 109 (by decide) (by decide)]; exact hT k hk) (by omega) u2_eq
        rw [e1, bnd]
        cases e with
        | inl z => exact False.elim e2
        | inr z =>
          obtain ⟨r, τ⟩ := z
          obtain ⟨e3, e4, e5, e6⟩ := e2
          simp only at e3 e4 e5 e6
          have hok : okB T n S = (ltS (fun i => T (S + 1 + i)) (n - S - 1)).isSome := by
            unfold okB
            rw [decide_eq_true (show 1 ≤ S ∧ S ≤ 20 ∧ S + 2 ≤ n ∧ n ≤ S + 7 ∧ T S = 32 from ⟨c1.1, c1.2, c2.1, c2.2, c4⟩), Bool.true_and]
          refine ⟨τ, by rw [e3, hok], ⟨fun o h1 h2 => by rw [e4.1 o h1 h2, u2_row h1, l3.1 o h1 h2], fun j h1 h2 => by rw [e4.2 j h1 h2, u2_nj h1]; exact l3.2 j h1 h2⟩, fun _ => ⟨e5, e6⟩⟩
      · rw [if_neg c4]
        exact no (by unfold okB; rw [decide_eq_false (fun z => c4 z.2.2.2.2)]; rfl)
    · have i2 : Int32.ofNat n - Int32.ofNat S - 1 < 1 ∨ 6 < Int32.ofNat n - Int32.ofNat S - 1 := by
        rw [on_sub s1]
        by_cases z : n = S
        · subst z; left; rw [Nat.sub_self]; decide
        · rw [on_p (by omega), show (Int32.ofNat (n - S - 1) < 1 ↔ n - S - 1 < 1) from on_lt (b := 1) (by omega) (by decide), show ((6 : Int32) < Int32.ofNat (n - S - 1) ↔ 6 < n - S - 1) from on_lt (a := 6) (by decide) (by omega)]
          omega
      rw [if_pos i2, if_pos rfl]
      exact no (by unfold okB; rw [decide_eq_false (fun z => c2 ⟨z.2.2.1, z.2.2.2.1⟩)]; rfl)
  · rw [if_pos (i1.mpr c1), if_pos rfl]
    exact no (by unfold okB; rw [decide_eq_false (fun z => c1 ⟨z.1, z.2.1⟩)]; rfl)
end LQ
