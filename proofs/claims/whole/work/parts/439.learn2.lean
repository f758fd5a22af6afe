section LO
variable {σ : sg} {ρ : rg} {t u : Nat} {w wi : wg}
theorem rd_pup {a b : Nat} (h : rh ρ a b) : am_rd ρ 0 15 103 = some 99 := rh_rd h (by decide) (by decide) (by decide +kernel)
theorem rd_p0 {a b : Nat} (h : rh ρ a b) : am_rd ρ 99 0 1 = some 100 := rh_rd h (by decide) (by decide) (by decide +kernel)
theorem rd_p1 {a b : Nat} (h : rh ρ a b) : am_rd ρ 99 1 1 = some 101 := rh_rd h (by decide) (by decide) (by decide +kernel)
theorem rd_p2 {a b : Nat} (h : rh ρ a b) : am_rd ρ 99 2 1 = some 102 := rh_rd h (by decide) (by decide) (by decide +kernel)
theorem rd_p3 {a b : Nat} (h : rh ρ a b) : am_rd ρ 99 3 1 = some 103 := rh_rd h (by decide) (by decide) (by decide +kernel)
theorem rd_p4 {a b : Nat} (h : rh ρ a b) : am_rd ρ 99 4 1 = some 104 := rh_rd h (by decide) (by decide) (by decide +kernel)
theorem ln_100 : am_ln 100 = 20 := by decide
theorem ln_101 : am_ln 101 = 6 := by decide
theorem ln_102 : am_ln 102 = 3 := by decide
theorem ln_103 : am_ln 103 = 3 := by decide
theorem ln_104 : am_ln 104 = 3 := by decide
theorem fd_on {K : Nat} {o : Option Nat} : fd (fun j => Int32.ofNat j) (Int32.ofNat K) o = Int32.ofNat (fd id K o) := by cases o <;> rfl
theorem max_k {a b : Nat} (ha : a < 2147483648) (hb : b < 2147483646) (h : b ≤ a) : f_J9_max_7cf53 (Int32.ofNat a) (Int32.ofNat b + 1) = some (Int32.ofNat (if b < a then a else b + 1)) := by
  unfold f_J9_max_7cf53
  rw [on_s]
  simp only [on_lt ha (show b + 1 < 2147483648 by omega), on_lt (show b + 1 < 2147483648 by omega) ha]
  by_cases e : b < a
  · rw [if_pos e]
    first
      | (rw [if_neg (by omega)])
      | (rw [if_pos (by omega)])
      | (by_cases z : b + 1 < a
         · rw [if_pos z]
         · rw [if_neg z]; congr 2; omega)
  · rw [if_neg e]
    have : b = a := by omega
    subst this
    first
      | (rw [if_pos (by omega)])
      | (rw [if_neg (by omega)])
def pst (τ : sg) (S j : Nat) (s : Nat × (Nat → Int32) × (Nat → Nat)) : Prop := τ 99 5 = Int32.ofNat S ∧ τ 99 6 = Int32.ofNat j ∧ τ 99 7 = Int32.ofNat s.1 ∧ (∀ i, i < j → τ 101 i = Int32.ofNat (s.2.2 i)) ∧ (∀ k, k < s.1 → τ 102 k = s.2.1 k)
def krd (σ τ : sg) : Prop := ∀ o, o ≠ 99 → o ≠ 101 → o ≠ 102 → τ o = σ o
theorem c_want {a b : Nat} (hr : rh ρ a b) {τ : sg} {S j : Nat} {s : Nat × (Nat → Int32) × (Nat → Nat)} (hj : j ≤ 6) (hs : s.1 ≤ 3) (h : pst τ S j s) {x : Int32} : ∃ τ', f_X3_isWantRead (τ, ρ) 99 x = some (bi (decide (j < 6) && (ltF x j s).isSome), τ') ∧ krd τ τ' ∧ ∀ s', j < 6 → ltF x j s = some s' → pst τ' S (j + 1) s' := by
  obtain ⟨p1, p2, p3, p4, p5⟩ := h
  have no : (decide (j < 6) && (ltF x j s).isSome) = false → f_X3_isWantRead (τ, ρ) 99 x = some (0, τ) → ∃ τ', f_X3_isWantRead (τ, ρ) 99 x = some (bi (decide (j < 6) && (ltF x j s).isSome), τ') ∧ krd τ τ' ∧ ∀ s', j < 6 → ltF x j s = some s' → pst τ' S (j + 1) s' := fun e g => by
    refine ⟨τ, by rw [g, e]; rfl, fun _ _ _ _ => rfl, fun s' h1 h2 => ?_⟩
    rw [h2] at e
    simp [h1] at e
  by_cases c1 : x < 65 ∨ 90 < x
  · refine no (by unfold ltF; rw [if_pos c1]; simp) ?_
    unfold f_X3_isWantRead
    by_cases c2 : x < 65
    · rw [if_pos c2]
    · rw [if_neg c2, if_pos (c1.resolve_left c2)]
  · have c2 : ¬ x < 65 := fun z => c1 (Or.inl z)
    have c3 : ¬ 90 < x := fun z => c1 (Or.inr z)
    by_cases c4 : j < 6
    · obtain ⟨b1, b2, b3⟩ := lfd_p (L := s.2.1) (K := s.1) (x := x)
      have key : am_loop (f_X3_isWantRead_b25 (τ, ρ) 99 x) am_fuel 0 = some (Int32.ofNat (lfd s.2.1 s.1 x)) := by
        have := lp_ff (body := f_X3_isWantRead_b25 (τ, ρ) 99 x) (fun j => Int32.ofNat j) (fun k => decide (s.2.1 k = x)) (fun j => Int32.ofNat j) (Int32.ofNat s.1) s.1 (x := 0) rfl (fun k hk => by
          unfold f_X3_isWantRead_b25
          simp only [p3]
          rw [if_pos (lt_y hk (by omega)), if_pos (show Int32.ofNat k < 3 from (on_lt (b := 3) (by omega) (by decide)).mpr (by omega)), rd_p2 hr, bnd, ld_on (by rw [ln_102]; omega) (by omega), p5 k hk, bnd, on_s]
          by_cases z : s.2.1 k = x
          · rw [if_pos z]; simp [z]
          · rw [if_neg z]; simp [z]) (fun _ => by
          unfold f_X3_isWantRead_b25
          simp only [p3]
          rw [if_neg (lt_n (by omega))]) (by omega)
        rw [this, fd_on]
        rfl
      obtain ⟨k, hk⟩ : ∃ k, k = lfd s.2.1 s.1 x := ⟨_, rfl⟩
      rw [← hk] at key b1 b2 b3
      by_cases c5 : 3 ≤ k
      · refine no (by unfold ltF; rw [if_neg c1, ← hk, if_pos c5]; simp) ?_
        unfold f_X3_isWantRead
        simp only [p2]
        rw [if_neg c2, if_neg c3, if_pos (show Int32.ofNat j < 6 from (on_lt (b := 6) (by omega) (by decide)).mpr c4), key, bnd, if_neg (show ¬ Int32.ofNat k < 3 from fun z => by have := (on_lt (b := 3) (by omega) (by decide)).mp z; omega)]
      · have hF : ltF x j s = some (if k < s.1 then s.1 else k + 1, fun i => if i = k then x else s.2.1 i, up1 s.2.2 j k) := by
          unfold ltF; rw [if_neg c1, ← hk, if_neg c5]
        rw [hF]
        refine ⟨am_u2 (am_u2 (am_u2 (am_u2 τ 102 k x) 99 7 (Int32.ofNat (if k < s.1 then s.1 else k + 1))) 101 j (Int32.ofNat k)) 99 6 (Int32.ofNat (j + 1)), ?_, fun o h1 h2 h3 => by rw [u2_row h1, u2_row h2, u2_row h1, u2_row h3], fun s' _ h2 => ?_⟩
        · unfold f_X3_isWantRead
          simp only [p2]
          rw [if_neg c2, if_neg c3, if_pos (show Int32.ofNat j < 6 from (on_lt (b := 6) (by omega) (by decide)).mpr c4), key, bnd, if_pos (show Int32.ofNat k < 3 from (on_lt (b := 3) (by omega) (by decide)).mpr (by omega)), rd_p2 hr, bnd, st_on (by rw [ln_102]; omega) (by omega), bnd]
          have e7 : am_u2 τ 102 k x 99 7 = Int32.ofNat s.1 := by rw [u2_ne (by decide)]; exact p3
          rw [e7, max_k (by omega) (by omega) b1, bnd, rd_p1 hr, bnd]
          have e6 : am_u2 (am_u2 τ 102 k x) 99 7 (Int32.ofNat (if k < s.1 then s.1 else k + 1)) 99 6 = Int32.ofNat j := by rw [u2_nj (by decide), u2_ne (by decide)]; exact p2
          rw [e6, st_on (by rw [ln_101]; omega) (by omega), bnd]
          have e6' : am_u2 (am_u2 (am_u2 τ 102 k x) 99 7 (Int32.ofNat (if k < s.1 then s.1 else k + 1))) 101 j (Int32.ofNat k) 99 6 = Int32.ofNat j := by rw [u2_ne (by decide)]; exact e6
          rw [e6', on_s]
          simp [c4, bi]
        · cases h2
          refine ⟨?_, u2_eq, ?_, fun i hi => ?_, fun i hi => ?_⟩
          · rw [u2_nj (by decide), u2_ne (by decide), u2_nj (by decide), u2_ne (by decide)]; exact p1
          · rw [u2_nj (by decide), u2_ne (by decide), u2_eq]
          · rw [u2_ne (by decide)]
            by_cases z : i = j
            · subst z; rw [u2_eq]; show _ = Int32.ofNat (up1 s.2.2 i k i); rw [up1_eq]
            · rw [u2_nj z, u2_ne (by decide), u2_ne (by decide)]
              show _ = Int32.ofNat (up1 s.2.2 j k i)
              rw [up1_ne z]; exact p4 i (by omega)
          · rw [u2_ne (by decide), u2_ne (by decide), u2_ne (by decide)]
            show _ = if i = k then x else s.2.1 i
            by_cases z : i = k
            · subst z; rw [u2_eq, if_pos rfl]
            · rw [u2_nj z, if_neg z]
              refine p5 i ?_
              have hi' : i < if k < s.1 then s.1 else k + 1 := hi
              by_cases y : k < s.1
              · rw [if_pos y] at hi'; exact hi'
              · rw [if_neg y] at hi'; omega
    · refine no (by simp [c4]) ?_
      unfold f_X3_isWantRead
      simp only [p2]
      rw [if_neg c2, if_neg c3, if_neg (show ¬ Int32.ofNat j < 6 from fun z => c4 ((on_lt (b := 6) (by omega) (by decide)).mp z))]
def okB (T : Nat → Int32) (n S : Nat) : Bool := decide (1 ≤ S ∧ S ≤ 20 ∧ S + 2 ≤ n ∧ n ≤ S + 7 ∧ T S = 32) && (ltS (fun i => T (S + 1 + i)) (n - S - 1)).isSome
def rdQ (σ : sg) (T' : Nat → Int32) (S m : Nat) (d : sg ⊕ (Int32 × sg)) : Prop := match d with
  | .inl τ => m ≤ 6 ∧ krd σ τ ∧ ∃ s, ltS T' m = some s ∧ pst τ S m s
  | .inr z => z.1 = 0 ∧ krd σ z.2 ∧ (6 < m ∨ ltS T' m = none)
theorem c_letters {a b : Nat} (hr : rh ρ a b) {n S : Nat} {T : Nat → Int32} (hn : n ≤ 400) (hT : ∀ k, k < n → σ 1 k = T k) (hS : S + 1 ≤ n) (h0 : pst σ S 0 (0, fun _ => 0, fun _ => 0)) : ∃ d, am_loop (f_X3_readRows_b128 (σ, ρ) 99 1 (Int32.ofNat n)) am_fuel (Int32.ofNat (S + 1), σ) = some d ∧ rdQ σ (fun i => T (S + 1 + i)) S (n - S - 1) d := by
  refine lp_rule (n - S - 1) (fun j y => y.1 = Int32.ofNat (S + 1 + j) ∧ j ≤ 6 ∧ krd σ y.2 ∧ ∃ s, ltS (fun i => T (S + 1 + i)) j = some s ∧ pst y.2 S j s) (rdQ σ (fun i => T (S + 1 + i)) S (n - S - 1)) (x := (Int32.ofNat (S + 1), σ)) ⟨rfl, by decide, fun _ _ _ _ => rfl, _, rfl, h0⟩ (fun j y hj hy => ?_) (by omega)
  obtain ⟨i, τ⟩ := y
  obtain ⟨rfl, y1, y2, s, y3, y4⟩ := hy
  simp only at y2 y4
  unfold f_X3_readRows_b128
  simp only
  by_cases e : S + 1 + j < n
  · rw [if_pos (lt_y e (by omega)), ld_on (by rw [ln_1]; omega) (by omega), bnd, y2 1 (by decide) (by decide) (by decide), hT _ e]
    have I := ltS_I j s y3
    obtain ⟨τ', g1, g2, g3⟩ := c_want hr y1 I.1 y4 (x := T (S + 1 + j))
    rw [g1, bnd]
    have hl : ltS (fun i => T (S + 1 + i)) (j + 1) = ltF (T (S + 1 + j)) j s := by
      show (ltS (fun i => T (S + 1 + i)) j).bind _ = _
      rw [y3]; rfl
    have kk : krd σ τ' := fun o a b c => (g2 o a b c).trans (y2 o a b c)
    cases q : (decide (j < 6) && (ltF (T (S + 1 + j)) j s).isSome) with
    | false =>
      right
      rw [if_pos (show bi false = 0 from rfl)]
      refine ⟨_, rfl, rfl, kk, ?_⟩
      by_cases z : j < 6
      · right
        have : ltF (T (S + 1 + j)) j s = none := by
          cases f : ltF (T (S + 1 + j)) j s with
          | none => rfl
          | some v => rw [f] at q; simp [z] at q
        exact ltS_mono (hl.trans this) _ (by omega)
      · left; omega
    | true =>
      left
      rw [if_neg (show ¬ bi true = 0 from by decide), on_s]
      simp only [Bool.and_eq_true, decide_eq_true_eq] at q
      obtain ⟨s', hs'⟩ := Option.isSome_iff_exists.mp q.2
      exact ⟨_, rfl, by omega, rfl, by omega, kk, s', hl.trans hs', g3 s' q.1 hs'⟩
  · right
    rw [if_neg (fun z => e ((on_lt (by omega) (by omega)).mp z))]
    have : j = n - S - 1 := by omega
    subst this
    exact ⟨_, rfl, y1, y2, s, y3, y4⟩
theorem c_read {a b : Nat} (hr : rh ρ a b) {n S : Nat} {T : Nat → Int32} (hn : n ≤ 400) (hT : ∀ k, k < n → σ 1 k = T k) (s1 : S ≤ n) (s2 : ∀ k, k < S → isS (T k) = true) (s3 : S < n → isS (T S) = false) : ∃ τ, f_X3_readRows (σ, ρ) 99 1 (Int32.ofNat n) = some (bi (okB T n S), τ) ∧ (∀ o, o < 99 ∨ 102 < o → τ o = σ o) ∧ (okB T n S = true → ∃ s, ltS (fun i => T (S + 1 + i)) (n - S - 1) = some s ∧ pst τ S (n - S - 1) s ∧ ∀ k, k < S → τ 100 k = T k - 97) := by
  obtain ⟨σ0, hσ0⟩ : ∃ s, s = am_u2 (am_u2 (am_u2 σ 99 5 0) 99 6 0) 99 7 0 := ⟨_, rfl⟩
  have r0 : ∀ o, o ≠ 99 → σ0 o = σ o := fun o h => by rw [hσ0, u2_row h, u2_row h, u2_row h]
  have f5 : σ0 99 5 = 0 ∧ σ0 99 6 = 0 ∧ σ0 99 7 = 0 := by
    rw [hσ0]
    exact ⟨by rw [u2_nj (by decide), u2_nj (by decide), u2_eq], by rw [u2_nj (by decide), u2_eq], u2_eq⟩
  obtain ⟨d, l1, l2, l3, l4, l5, l6⟩ := lp_rule (body := f_X3_readRows_b22 (σ0, ρ) 99 1 (Int32.ofNat n)) (min S 20) (fun k y => y 99 5 = Int32.ofNat k ∧ (∀ o, o ≠ 99 → o ≠ 100 → y o = σ o) ∧ y 99 6 = 0 ∧ y 99 7 = 0 ∧ ∀ i, i < k → y 100 i = T i - 97) (fun d => d 99 5 = Int32.ofNat (min S 20) ∧ (∀ o, o ≠ 99 → o ≠ 100 → d o = σ o) ∧ d 99 6 = 0 ∧ d 99 7 = 0 ∧ ∀ i, i < min S 20 → d 100 i = T i - 97) (x := σ0) ⟨f5.1, fun o h _ => r0 o h, f5.2.1, f5.2.2, fun i hi => by omega⟩ (fun k y hk hy => by
    obtain ⟨y1, y2, y3, y4, y5⟩ := hy
    unfold f_X3_readRows_b22
    simp only [y1]
    have fin : (am_loop (f_X3_readRows_b22 (σ0, ρ) 99 1 (Int32.ofNat n)) am_fuel σ0 = am_loop (f_X3_readRows_b22 (σ0, ρ) 99 1 (Int32.ofNat n)) am_fuel σ0) := rfl
    by_cases e : k < min S 20
    · left
      have hkS : k < S := by omega
      have hk20 : k < 20 := by omega
      rw [if_pos (lt_y (by omega) (by omega)), if_pos (show Int32.ofNat k < 20 from (on_lt (b := 20) (by omega) (by decide)).mpr hk20), ld_on (by rw [ln_1]; omega) (by omega), y2 1 (by decide) (by decide), hT k (by omega)]
      simp only [bnd, rd_p0 hr]
      rw [st_on (by rw [ln_100]; omega) (by omega)]
      simp only [bnd]
      have e5 : am_u2 y 100 k (T k - 97) 99 5 = Int32.ofNat k := by rw [u2_ne (by decide)]; exact y1
      rw [e5, on_s]
      have good : ∃ y', some (Sum.inl (am_u2 (am_u2 y 100 k (T k - 97)) 99 5 (Int32.ofNat (k + 1))) : sg ⊕ sg) = some (.inl y') ∧ k < min S 20 ∧ y' 99 5 = Int32.ofNat (k + 1) ∧ (∀ o, o ≠ 99 → o ≠ 100 → y' o = σ o) ∧ y' 99 6 = 0 ∧ y' 99 7 = 0 ∧ ∀ i, i < k + 1 → y' 100 i = T i - 97 := by
        refine ⟨_, rfl, e, u2_eq, fun o h1 h2 => by rw [u2_row h1, u2_row h2, y2 o h1 h2], ?_, ?_, fun i hi => ?_⟩
        · rw [u2_nj (by decide), u2_ne (by decide), y3]
        · rw [u2_nj (by decide), u2_ne (by decide), y4]
        · rw [u2_ne (by decide)]
          by_cases z : i = k
          · subst z; rw [u2_eq]
          · rw [u2_nj z]; exact y5 i (by omega)
      have hs := s2 k hkS
      unfold isS at hs
      by_cases z : T k = 97
      · rw [if_pos z]; exact good
      · rw [if_neg z]
        have z2 : T k = 98 := by simpa [z] using hs
        rw [if_pos z2]; exact good
    · right
      have hk : k = min S 20 := by omega
      have Q : y 99 5 = Int32.ofNat (min S 20) ∧ (∀ o, o ≠ 99 → o ≠ 100 → y o = σ o) ∧ y 99 6 = 0 ∧ y 99 7 = 0 ∧ ∀ i, i < min S 20 → y 100 i = T i - 97 := by rw [← hk]; exact ⟨y1, y2, y3, y4, y5⟩
      by_cases c : k < n
      · rw [if_pos (lt_y c (by omega))]
        by_cases c2 : k < 20
        · have hkS : k = S := by omega
          have hs := s3 (by omega)
          rw [← hkS] at hs
          unfold isS at hs
          simp only [Bool.or_eq_false_iff, decide_eq_false_iff_not] at hs
          rw [if_pos (show Int32.ofNat k < 20 from (on_lt (b := 20) (by omega) (by decide)).mpr c2), ld_on (by rw [ln_1]; omega) (by omega), y2 1 (by decide) (by decide), hT k c]
          simp only [bnd]
          rw [if_neg hs.1, if_neg hs.2]
          exact ⟨_, rfl, Q⟩
        · rw [if_neg (show ¬ Int32.ofNat k < 20 from fun z => c2 ((on_lt (b := 20) (by omega) (by decide)).mp z))]
          exact ⟨_, rfl, Q⟩
      · rw [if_neg (fun z => c ((on_lt (by omega) (by omega)).mp z))]
        exact ⟨_, rfl, Q⟩) (by omega)
  have dr : ∀ o, o < 99 ∨ 102 < o → d o = σ o := fun o h => l3 o (by omega) (by omega)
  unfold f_X3_readRows
  rw [show Int32.ofNat (am_ln 1) = Int32.ofNat 400 by rw [ln_1], min_j (by omega) (by decide), show (if 400 < n then 400 else n) = n by rw [if_neg (by omega)], bnd, ← hσ0, l1]
  simp only [bnd, l2]
  have no : okB T n S = false → ∃ τ, (some (0, d) : Option (Int32 × sg)) = some (bi (okB T n S), τ) ∧ (∀ o, o < 99 ∨ 102 < o → τ o = σ o) ∧ (okB T n S = true → ∃ s, ltS (fun i => T (S + 1 + i)) (n - S - 1) = some s ∧ pst τ S (n - S - 1) s ∧ ∀ k, k < S → τ 100 k = T k - 97) := fun h => ⟨d, by rw [h]; rfl, dr, fun g => by rw [h] at g; cases g⟩
  by_cases c1 : S = 0
  · rw [if_pos (by rw [c1]; rfl)]
    exact no (by unfold okB; rw [decide_eq_false (by omega)]; rfl)
  · rw [if_neg (fun z => by have := (on_z (show min S 20 < 2147483648 by omega)).mp z; omega)]
    by_cases c2 : min S 20 < n
    · rw [if_pos (lt_y c2 (by omega)), ld_on (by rw [ln_1]; omega) (by omega), l3 1 (by decide) (by decide), hT _ c2, bnd]
      by_cases c3 : 20 < S
      · have h20 : min S 20 = 20 := by omega
        have hs := s2 20 c3
        rw [h20, if_neg (fun z => by rw [z] at hs; revert hs; decide)]
        exact no (by unfold okB; rw [decide_eq_false (by omega)]; rfl)
      · have hS : min S 20 = S := by omega
        rw [hS] at l2 l6 ⊢
        rw [hS] at c2
        by_cases c4 : T S = 32
        · rw [if_pos c4, on_s]
          obtain ⟨e, e1, e2⟩ := c_letters (σ := d) hr (n := n) (S := S) (T := T) hn (fun k hk => by rw [l3 1 (by decide) (by decide)]; exact hT k hk) (by omega) ⟨l2, l4, l5, fun i hi => by omega, fun k hk => absurd hk (Nat.not_lt_zero _)⟩
          rw [e1, bnd]
          cases e with
          | inr z =>
            obtain ⟨r, τ⟩ := z
            obtain ⟨e3, e4, e5⟩ := e2
            simp only at e3 e4
            have hf : okB T n S = false := by
              unfold okB
              rcases e5 with e5 | e5
              · rw [decide_eq_false (by omega)]; rfl
              · rw [e5]; simp
            refine ⟨τ, by rw [e3, hf]; rfl, fun o h => (e4 o (by omega) (by omega) (by omega)).trans (dr o h), fun g => by rw [hf] at g; cases g⟩
          | inl τ =>
            obtain ⟨e3, e4, s, e5, e6⟩ := e2
            have rr : ∀ o, o < 99 ∨ 102 < o → τ o = σ o := fun o h => (e4 o (by omega) (by omega) (by omega)).trans (dr o h)
            simp only [e6.2.1]
            by_cases c5 : 0 < n - S - 1
            · have hf : okB T n S = true := by
                unfold okB
                rw [e5, decide_eq_true (show 1 ≤ S ∧ S ≤ 20 ∧ S + 2 ≤ n ∧ n ≤ S + 7 ∧ T S = 32 from ⟨by omega, by omega, by omega, by omega, c4⟩)]
                rfl
              rw [if_pos ((on_pos (by omega)).mpr c5), hf]
              refine ⟨τ, rfl, rr, fun _ => ⟨s, e5, e6, fun k hk => ?_⟩⟩
              rw [e4 100 (by decide) (by decide) (by decide)]
              exact l6 k hk
            · have hf : okB T n S = false := by unfold okB; rw [decide_eq_false (by omega)]; rfl
              rw [if_neg (fun z => c5 ((on_pos (by omega)).mp z)), hf]
              exact ⟨τ, rfl, rr, fun g => by cases g⟩
        · rw [if_neg c4]
          exact no (by unfold okB; rw [decide_eq_false (fun z => c4 z.2.2.2.2)]; rfl)
    · rw [if_neg (fun z => c2 ((on_lt (by omega) (by omega)).mp z))]
      exact no (by unfold okB; rw [decide_eq_false (by omega)]; rfl)
end LO
