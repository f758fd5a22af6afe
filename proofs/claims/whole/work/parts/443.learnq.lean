section LX
variable {σ : sg} {ρ : rg} {t u : Nat} {w wi : wg}
def lC (T : Nat → Int32) (n S : Nat) (s : Nat × (Nat → Int32) × (Nat → Nat)) (k : Nat) : Nat × (Nat → Nat) := fo (fun n' c => gst T S s.2.2 (n - S - 1) s.1 (mxc s.1 0 (fun _ => 0) n') c) k (0, fun _ => 0)
theorem lC_le {T : Nat → Int32} {n S : Nat} {s : Nat × (Nat → Int32) × (Nat → Nat)} : ∀ k, (lC T n S s k).1 ≤ k
  | 0 => Nat.le_refl _
  | k + 1 => by
    have := lC_le (T := T) (n := n) (S := S) (s := s) k
    show (gst T S s.2.2 (n - S - 1) s.1 (mxc s.1 0 (fun _ => 0) k) (lC T n S s k)).1 ≤ _
    unfold gst wst
    split
    · show (lC T n S s k).1 + 1 ≤ _; omega
    · omega
theorem M_lw {a b : Nat} (hr : rh ρ a b) {τ0 : sg} {T : Nat → Int32} {n S : Nat} {s : Nat × (Nat → Int32) × (Nat → Nat)} (hn : n ≤ 400) (hS : S ≤ 20) (hSn : S + 2 ≤ n) (hm : n ≤ S + 7) (hE : mE τ0 T n S s) (hl : ltS (fun i => T (S + 1 + i)) (n - S - 1) = some s) {p : Int32} : ∃ d, am_loop (f_X12_learn_b78 (τ0, ρ) 105 p (Int32.ofNat (16 ^ s.1))) am_fuel (0, 0, τ0) = some d ∧ d.1 = Int32.ofNat (lC T n S s (16 ^ s.1)).1 ∧ (∀ o, o ≠ 120 → o ≠ 121 → d.2 o = τ0 o) ∧ ((lC T n S s (16 ^ s.1)).1 ≠ 0 → ∀ i, i < s.1 → d.2 121 i = Int32.ofNat ((lC T n S s (16 ^ s.1)).2 i)) := by
  obtain ⟨I1, I2, I3, I4⟩ := ltS_I _ s hl
  have hK0 := I4 (by omega)
  have h16 : 16 ^ s.1 ≤ 16 ^ 3 := Nat.pow_le_pow_right (by decide) I1
  have h163 : 16 ^ 3 = 4096 := by decide
  refine lp_rule (16 ^ s.1) (fun k y => y.1 = Int32.ofNat (lC T n S s k).1 ∧ y.2.1 = Int32.ofNat k ∧ (∀ o, o ≠ 120 → o ≠ 121 → y.2.2 o = τ0 o) ∧ ((lC T n S s k).1 ≠ 0 → ∀ i, i < s.1 → y.2.2 121 i = Int32.ofNat ((lC T n S s k).2 i))) (fun (d : Int32 × sg) => d.1 = Int32.ofNat (lC T n S s (16 ^ s.1)).1 ∧ (∀ o, o ≠ 120 → o ≠ 121 → d.2 o = τ0 o) ∧ ((lC T n S s (16 ^ s.1)).1 ≠ 0 → ∀ i, i < s.1 → d.2 121 i = Int32.ofNat ((lC T n S s (16 ^ s.1)).2 i))) (x := (0, 0, τ0)) ⟨rfl, rfl, fun _ _ _ => rfl, fun h => absurd rfl h⟩ (fun k y hk hy => ?_) (by omega)
  obtain ⟨c, i, τ⟩ := y
  obtain ⟨y1, y2, y3, y4⟩ := hy
  simp only at y1 y2 y3 y4
  subst y1 y2
  unfold f_X12_learn_b78
  simp only
  by_cases e : k < 16 ^ s.1
  · left
    have hle := lC_le (T := T) (n := n) (S := S) (s := s) k
    obtain ⟨C, hC⟩ : ∃ C, C = lC T n S s k := ⟨_, rfl⟩
    rw [← hC] at y4 hle ⊢
    obtain ⟨W, hWd⟩ : ∃ W, W = mxc s.1 0 (fun _ => 0) k := ⟨_, rfl⟩
    have hstep : lC T n S s (k + 1) = gst T S s.2.2 (n - S - 1) s.1 W C := by rw [hWd, hC]; rfl
    have hWi : ∀ i, i < s.1 → W i = (k / 16 ^ (s.1 - 1 - i)) % 16 := fun i _ => by
      rw [hWd]; unfold mxc; rw [if_neg (by omega)]
    have hW16 : ∀ i, i < s.1 → W i < 16 := fun i hi => by rw [hWi i hi]; exact Nat.mod_lt _ (by decide)
    have e26 : τ 105 26 = Int32.ofNat s.1 := by rw [y3 105 (by decide) (by decide)]; exact hE.2.2.2.1
    rw [if_pos (lt_y e (by omega)), e26]
    obtain ⟨⟨f0, τ1⟩, d1, ⟨f, d2, d3⟩, d4, d5⟩ := M_digits (τ := τ) hr I1 (n := k) (by omega) (a1 := p) (a3 := Int32.ofNat (16 ^ s.1)) (a4 := Int32.ofNat C.1) (a5 := Int32.ofNat k) hWi
    simp only at d2 d4 d5
    subst d2
    rw [d1]
    simp only [bnd, bi_f]
    have k1 : ∀ o, o ≠ 120 → o ≠ 121 → τ1 o = τ0 o := fun o h1 h2 => by rw [d4 o h1, y3 o h1 h2]
    have k121 : τ1 121 = τ 121 := d4 121 (by decide)
    have no : gd T S s.2.2 (n - S - 1) s.1 W = false → ∃ y, (some (.inl (Int32.ofNat C.1, Int32.ofNat (k + 1), τ1)) : Option ((Int32 × Int32 × sg) ⊕ (Int32 × sg))) = some (.inl y) ∧ k < 16 ^ s.1 ∧ y.1 = Int32.ofNat (lC T n S s (k + 1)).1 ∧ y.2.1 = Int32.ofNat (k + 1) ∧ (∀ o, o ≠ 120 → o ≠ 121 → y.2.2 o = τ0 o) ∧ ((lC T n S s (k + 1)).1 ≠ 0 → ∀ i, i < s.1 → y.2.2 121 i = Int32.ofNat ((lC T n S s (k + 1)).2 i)) := fun h => by
      have : lC T n S s (k + 1) = C := by
        rw [hstep]; unfold gst; rw [if_neg (by rw [h]; decide)]
      rw [this]
      refine ⟨_, rfl, e, rfl, rfl, k1, fun h i hi => ?_⟩
      show τ1 121 i = _
      rw [k121]; exact y4 h i hi
    cases hf : f with
    | false =>
      simp only [if_neg (show ¬ false = true by decide), bnd, on_s]
      refine no ?_
      rw [Bool.eq_false_iff]
      intro g
      rw [d3.mpr (gd_iff.mp g).1] at hf
      cases hf
    | true =>
      have h2 := d3.mp hf
      rw [if_pos rfl]
      have hE1 : mE τ1 T n S s := ⟨by rw [k1 105 (by decide) (by decide)]; exact hE.1, by rw [k1 105 (by decide) (by decide)]; exact hE.2.1, fun i hi => by rw [k1 109 (by decide) (by decide)]; exact hE.2.2.1 i hi, by rw [k1 105 (by decide) (by decide)]; exact hE.2.2.2.1, fun i hi => by rw [k1 119 (by decide) (by decide)]; exact hE.2.2.2.2 i hi⟩
      have htold : (allN (fun k => allN (fun o => !decide (W k = W o)) k) s.1 && fit T S s.2.2 W (n - S - 1) 3) = gd T S s.2.2 (n - S - 1) s.1 W := by
        rw [Bool.eq_iff_iff, gd_iff, Bool.and_eq_true, allN_iff]
        constructor
        · rintro ⟨a, b⟩
          exact ⟨h2, fun k hk o ho => by have := allN_iff.mp (a k hk) o ho; simpa using this, b⟩
        · rintro ⟨_, a, b⟩
          exact ⟨fun k hk => allN_iff.mpr (fun o ho => by simpa using a k hk o ho), b⟩
      rw [M_told hr hn hS (by omega) hm hE1 hl (fun i hi => ⟨d5 i hi, hW16 i hi⟩), bnd, htold, bi_f]
      cases hg : gd T S s.2.2 (n - S - 1) s.1 W with
      | false =>
        simp only [if_neg (show ¬ false = true by decide), bnd, on_s]
        exact no hg
      | true =>
        rw [if_pos rfl]
        obtain ⟨d, g1, g2, g3, g4⟩ := M_first (τ := τ1) hr I1 (c := C.1) (by omega) hE1.2.2.2.1 d5 (a1 := p) (a3 := Int32.ofNat (16 ^ s.1)) (a5 := Int32.ofNat k) hK0
        rw [g1]
        simp only [bnd, on_s]
        have hnew : lC T n S s (k + 1) = (C.1 + 1, if C.1 = 0 then (fun i => if i < s.1 then W i else 0) else C.2) := by
          rw [hstep]; unfold gst wst; rw [if_pos hg]
        rw [hnew]
        refine ⟨_, rfl, e, rfl, rfl, fun o h1 h3 => ?_, fun _ i hi => ?_⟩
        · show d o = _
          rw [g2 o h3, k1 o h1 h3]
        · show d 121 i = Int32.ofNat ((if C.1 = 0 then (fun i => if i < s.1 then W i else 0) else C.2) i)
          by_cases z : C.1 = 0
          · rw [if_pos z]
            show d 121 i = Int32.ofNat (if i < s.1 then W i else 0)
            rw [if_pos hi]; exact g3 z i hi
          · rw [if_neg z, g4 z, k121]; exact y4 z i hi
  · right
    have : k = 16 ^ s.1 := by omega
    subst this
    rw [if_neg (lt_n (by omega))]
    exact ⟨_, rfl, rfl, y3, y4⟩
/-- what the model keeps -/
def mkL (σ τ : sg) : Prop := (∀ o, o ≠ 105 → o ≠ 119 → o ≠ 120 → o ≠ 121 → τ o = σ o) ∧ τ 105 6 = 0 ∧ τ 105 4 = σ 105 4 ∧ τ 105 11 = σ 105 11
theorem M_learn {a b : Nat} (hr : rh ρ a b) {n S : Nat} {T : Nat → Int32} (hn : n ≤ 400) (h6 : σ 105 6 = Int32.ofNat n) (hT : ∀ k, k < n → σ 109 k = T k) (s1 : S ≤ n) (s2 : ∀ k, k < S → isS (T k) = true) (s3 : S < n → isS (T S) = false) (p : Int32) :
    (okB T n S = false → ∃ τ, f_X12_learn (σ, ρ) 105 p = some (0, τ) ∧ τ 105 0 = 1 ∧ mkL σ τ) ∧
    (∀ s, okB T n S = true → ltS (fun i => T (S + 1 + i)) (n - S - 1) = some s →
      (p ≠ -1 → (∀ k, k < s.1 → p ≠ Int32.ofNat k) → ∃ τ, f_X12_learn (σ, ρ) 105 p = some (0, τ) ∧ τ 105 0 = 1 ∧ mkL σ τ) ∧
      (p = -1 → ∃ τ, f_X12_learn (σ, ρ) 105 p = some (Int32.ofNat (lC T n S s (16 ^ s.1)).1, τ) ∧ τ 105 0 = 0 ∧ mkL σ τ) ∧
      (∀ k, k < s.1 → p = Int32.ofNat k → ∃ τ, f_X12_learn (σ, ρ) 105 p = some (if (lC T n S s (16 ^ s.1)).1 = 0 then -1 else Int32.ofNat ((lC T n S s (16 ^ s.1)).2 k), τ) ∧ τ 105 0 = 0 ∧ mkL σ τ)) := by
  obtain ⟨σ1, hσ1⟩ : ∃ s, s = am_u2 (am_u2 (am_u2 (am_u2 σ 105 0 0) 105 8 ((am_u2 σ 105 0 0) 105 6)) 105 6 0) 105 7 0 := ⟨_, rfl⟩
  have r1 : ∀ o, o ≠ 105 → σ1 o = σ o := fun o h => by rw [hσ1, u2_row h, u2_row h, u2_row h, u2_row h]
  have f8 : σ1 105 8 = Int32.ofNat n := by rw [hσ1, u2_nj (by decide), u2_nj (by decide), u2_eq, u2_nj (by decide)]; exact h6
  have f6 : σ1 105 6 = 0 := by rw [hσ1, u2_nj (by decide), u2_eq]
  have f0 : σ1 105 0 = 0 := by rw [hσ1, u2_nj (by decide), u2_nj (by decide), u2_nj (by decide), u2_eq]
  have f4 : σ1 105 4 = σ 105 4 := by rw [hσ1, u2_nj (by decide), u2_nj (by decide), u2_nj (by decide), u2_nj (by decide)]
  have f11 : σ1 105 11 = σ 105 11 := by rw [hσ1, u2_nj (by decide), u2_nj (by decide), u2_nj (by decide), u2_nj (by decide)]
  obtain ⟨τ, t1, t2, t3⟩ := M_row (σ := σ1) hr hn f8 (fun k hk => by rw [r1 109 (by decide)]; exact hT k hk) s1 s2 s3
  have hu : f_X12_uses (σ, ρ) 105 = some σ1 := by rw [hσ1]; rfl
  unfold f_X12_learn
  simp only [hu, bnd, t1]
  have bad : ∃ τ', (some (0, am_u2 τ 105 0 1) : Option (Int32 × sg)) = some (0, τ') ∧ τ' 105 0 = 1 ∧ mkL σ τ' := by
    refine ⟨_, rfl, u2_eq, fun o h1 h2 _ _ => by rw [u2_row h1, t2.1 o h1 h2, r1 o h1], ?_, ?_, ?_⟩
    · rw [u2_nj (by decide), t2.2 6 (by decide) (by decide)]; exact f6
    · rw [u2_nj (by decide), t2.2 4 (by decide) (by decide)]; exact f4
    · rw [u2_nj (by decide), t2.2 11 (by decide) (by decide)]; exact f11
  constructor
  · intro h
    rw [h, if_pos (show bi false = 0 from rfl)]
    simp only [bnd, th1, i10, if_false]
    exact bad
  · intro s hok hl
    obtain ⟨I1, I2, I3, I4⟩ := ltS_I _ s hl
    have hok' := hok
    unfold okB at hok'
    simp only [Bool.and_eq_true, decide_eq_true_eq] at hok'
    obtain ⟨⟨q1, q2, q3, q4, q5⟩, -⟩ := hok'
    have hK0 := I4 (by omega)
    obtain ⟨u1, u2⟩ := t3 hok
    have hms := u2 s hl
    have hE : mE τ T n S s := ⟨by rw [t2.2 8 (by decide) (by decide)]; exact f8, u1, fun k hk => by rw [t2.1 109 (by decide) (by decide), r1 109 (by decide)]; exact hT k hk, hms⟩
    rw [hok, if_neg (show ¬ bi true = 0 by decide), hms.1, on_p (by omega)]
    simp only [in_e]
    obtain ⟨d, d1, d2, d3, d4⟩ := M_lw hr hn q2 q3 q4 hE hl (p := p)
    have fin : mkL σ d.2 ∧ d.2 105 0 = 0 := by
      refine ⟨⟨fun o h1 h2 h3 h4 => by rw [d3 o h3 h4, t2.1 o h1 h2, r1 o h1], ?_, ?_, ?_⟩, ?_⟩
      · rw [d3 105 (by decide) (by decide), t2.2 6 (by decide) (by decide)]; exact f6
      · rw [d3 105 (by decide) (by decide), t2.2 4 (by decide) (by decide)]; exact f4
      · rw [d3 105 (by decide) (by decide), t2.2 11 (by decide) (by decide)]; exact f11
      · rw [d3 105 (by decide) (by decide), t2.2 0 (by decide) (by decide)]; exact f0
    have hcl : (lC T n S s (16 ^ s.1)).1 < 2147483648 := by
      have h1 := lC_le (T := T) (n := n) (S := S) (s := s) (16 ^ s.1)
      have h2 : 16 ^ s.1 ≤ 16 ^ 3 := Nat.pow_le_pow_right (by decide) I1
      have h3 : 16 ^ 3 = 4096 := by decide
      omega
    refine ⟨fun hp1 hp2 => ?_, fun hp => ?_, fun k hk hp => ?_⟩
    · have hin : p < 0 ∨ Int32.ofNat (s.1 - 1) < p := by
        by_cases z : p < 0
        · exact Or.inl z
        · right
          obtain ⟨m, hm, rfl⟩ := i_of z
          refine (on_lt (by omega) hm).mpr ?_
          apply Classical.byContradiction
          intro y
          exact hp2 m (by omega) rfl
      rw [if_neg hp1, if_pos hin]
      simp only [bnd, if_true, th1, i10, if_false]
      exact bad
    · subst hp
      rw [if_pos rfl]
      simp only [bnd, th0, if_true, M_codes I1 hms.1, d1]
      rw [d2]
      exact ⟨d.2, rfl, fin.2, fin.1⟩
    · subst hp
      have hin : ¬ (Int32.ofNat k < 0 ∨ Int32.ofNat (s.1 - 1) < Int32.ofNat k) := by
        rintro (z | z)
        · exact on_neg (by omega) z
        · have := (on_lt (by omega) (by omega)).mp z; omega
      rw [if_neg (on_m1 (by omega)), if_neg hin]
      simp only [bnd, i10, if_false, th0, if_true, M_codes I1 hms.1, d1]
      rw [if_neg (on_m1 (by omega)), d2]
      simp only [on_z hcl]
      by_cases z : (lC T n S s (16 ^ s.1)).1 = 0
      · rw [if_pos z, if_pos z]
        exact ⟨d.2, rfl, fin.2, fin.1⟩
      · rw [if_neg z, if_neg z, rd_fword hr, bnd, ld_on (by rw [ln_121]; omega) (by omega), d4 z k hk, bnd]
        exact ⟨d.2, rfl, fin.2, fin.1⟩
theorem m1_of {p : Int32} (h1 : p < 0) (h2 : ¬ p < -1) : p = -1 := by
  rw [Int32.lt_iff_toInt_lt] at h1 h2
  apply Int32.toInt_inj.mp
  have a : (0 : Int32).toInt = 0 := by decide
  have b : (-1 : Int32).toInt = -1 := by decide
  rw [a] at h1
  rw [b] at h2 ⊢
  omega
theorem q_learn (I : Iv σ ρ t u w wi) (p : Int32) : Rs [(1, 1)] (f_X11_learn (σ, ρ) 0 p) (fun S => f_X12_learn S 105 p) := by
  obtain ⟨n, n1, n2, n3, n4⟩ := I.2.2.2.2.1
  have hr := I.1
  obtain ⟨T, hTd⟩ : ∃ T : Nat → Int32, T = fun k => σ 1 k := ⟨_, rfl⟩
  have hT1 : ∀ k, k < n → σ 1 k = T k := fun k _ => by rw [hTd]
  have hT9 : ∀ k, k < n → σ 109 k = T k := fun k hk => by rw [hTd]; exact (n4 k hk).1
  obtain ⟨S, s1, s2, s3⟩ := st_ex T n
  obtain ⟨τ, t1, t2, t3⟩ := c_read (σ := σ) hr n1 hT1 s1 s2 s3
  -- a state of the class at its end, and the model on it
  have cut := tape_cut I (m := 0) (fun _ _ _ => Nat.zero_le _)
  have fin : ∀ (σ1 σ2 : sg) (v : Int32), (∀ o, o < 99 ∨ 104 < o → σ1 o = am_u2 τ 0 1 0 o) → mkL (am_u2 σ1 122 0 v) σ2 → Inv (σ2, ρ) := fun σ1 σ2 v h g => by
    refine ⟨t, u, w, wi, Iv_ag cut (fun o j e => ?_)⟩
    show σ2 o j = _
    have ho : o < 99 ∨ 104 < o := by
      apply Classical.byContradiction
      intro q
      have : o = 99 ∨ o = 100 ∨ o = 101 ∨ o = 102 ∨ o = 103 ∨ o = 104 := by omega
      rcases this with rfl | rfl | rfl | rfl | rfl | rfl <;> (rw [es_0 rfl] at e; cases e)
    have h122 : o ≠ 122 := fun q => by subst q; rw [es_0 rfl] at e; cases e
    by_cases c105 : o = 105
    · subst c105
      have hj : j = 4 ∨ j = 6 ∨ j = 11 := by
        have e' : (j == 4 || j == 6 || j == 11) = true := e
        simp only [Bool.or_eq_true, beq_iff_eq] at e'
        omega
      have k1 : ∀ j, am_u2 σ1 122 0 v 105 j = σ 105 j := fun j => by rw [u2_ne (by decide), h 105 (by omega), u2_ne (by decide), t2 105 (by omega)]
      rcases hj with rfl | rfl | rfl
      · rw [g.2.2.1, k1, u2_nj (by decide), u2_nj (by decide), u2_ne (by decide)]
      · rw [g.2.1, u2_eq]; rfl
      · rw [g.2.2.2, k1, u2_nj (by decide), u2_nj (by decide), u2_ne (by decide)]
    · rw [u2_ne c105, u2_ne c105]
      have h9 : o ≠ 119 ∧ o ≠ 120 ∧ o ≠ 121 := by
        refine ⟨?_, ?_, ?_⟩ <;> (rintro rfl; rw [es_0 rfl] at e; cases e)
      rw [g.1 o c105 h9.1 h9.2.1 h9.2.2, u2_row h122, h o ho]
      by_cases z : o = 0 ∧ j = 1
      · obtain ⟨rfl, rfl⟩ := z; rw [u2_eq, u2_eq]; rfl
      · unfold am_u2; rw [if_neg z, if_neg z, t2 o (by omega)]
  have Mh : ∀ (σ1 : sg) (v : Int32), (∀ o, o < 99 ∨ 104 < o → σ1 o = am_u2 τ 0 1 0 o) → (am_u2 σ1 122 0 v) 105 6 = Int32.ofNat n ∧ ∀ k, k < n → (am_u2 σ1 122 0 v) 109 k = T k := fun σ1 v h => ⟨by rw [u2_ne (by decide), h 105 (by omega), u2_ne (by decide), t2 105 (by omega)]; exact n3, fun k hk => by rw [u2_ne (by decide), h 109 (by omega), u2_ne (by decide), t2 109 (by omega)]; exact hT9 k hk⟩
  have Mx : ∀ (σ1 : sg), (∀ o, o < 99 ∨ 104 < o → σ1 o = am_u2 τ 0 1 0 o) → σ1 105 6 = Int32.ofNat n ∧ ∀ k, k < n → σ1 109 k = T k := fun σ1 h => ⟨by rw [h 105 (by omega), u2_ne (by decide), t2 105 (by omega)]; exact n3, fun k hk => by rw [h 109 (by omega), u2_ne (by decide), t2 109 (by omega)]; exact hT9 k hk⟩
  have self : ∀ σ1 : sg, am_u2 σ1 122 0 (σ1 122 0) = σ1 := fun σ1 => by
    funext o j
    unfold am_u2
    by_cases z : o = 122 ∧ j = 0
    · rw [if_pos z, z.1, z.2]
    · rw [if_neg z]
  have thr : ∀ τ2, f_X12_learn (am_u2 τ 0 1 0, ρ) 105 p = some (0, τ2) → τ2 105 0 = 1 → mkL (am_u2 τ 0 1 0) τ2 → f_X11_learn (σ, ρ) 0 p = some (.inr 1, (am_u2 τ 0 1 0, ρ)) → Rs [(1, 1)] (f_X11_learn (σ, ρ) 0 p) (fun S => f_X12_learn S 105 p) := fun τ2 h1 h2 h3 h4 =>
    ⟨.inr 1, (am_u2 τ 0 1 0, ρ), h4, Or.inr ⟨1, 0, 1, τ2, rfl, rfl, by decide, h1, h2, fin (am_u2 τ 0 1 0) τ2 (am_u2 τ 0 1 0 122 0) (fun _ _ => rfl) (by rw [self]; exact h3)⟩⟩
  obtain ⟨x1, x2⟩ := Mx (am_u2 τ 0 1 0) (fun _ _ => rfl)
  obtain ⟨M1, M2⟩ := M_learn (σ := am_u2 τ 0 1 0) hr n1 x1 x2 s1 s2 s3 p
  cases hok : okB T n S with
  | false =>
    obtain ⟨τ2, m1, m2, m3⟩ := M1 hok
    refine thr τ2 m1 m2 m3 ?_
    unfold f_X11_learn
    simp only [rd_pup hr, rd_tape hr, bnd, n2, t1, hok]
    rw [if_pos (show bi false = 0 from rfl)]
  | true =>
    obtain ⟨s, l1, l2, l3⟩ := t3 hok
    obtain ⟨I1, I2, I3, I4⟩ := ltS_I _ s l1
    have hok' := hok
    unfold okB at hok'
    simp only [Bool.and_eq_true, decide_eq_true_eq] at hok'
    obtain ⟨⟨q1, q2, q3, q4, q5⟩, -⟩ := hok'
    have hK0 := I4 (by omega)
    have e7 : am_u2 τ 0 1 0 99 7 = Int32.ofNat s.1 := by rw [u2_ne (by decide)]; exact l2.2.2.1
    by_cases ho : p ≠ -1 ∧ ∀ k, k < s.1 → p ≠ Int32.ofNat k
    · obtain ⟨τ2, m1, m2, m3⟩ := (M2 s hok l1).1 ho.1 ho.2
      refine thr τ2 m1 m2 m3 ?_
      unfold f_X11_learn
      simp only [rd_pup hr, rd_tape hr, bnd, n2, t1, hok]
      rw [if_neg (show ¬ bi true = 0 by decide)]
      by_cases z : p < -1
      · rw [if_pos z]
      · rw [if_neg z, e7, if_neg]
        intro y
        by_cases z0 : p < 0
        · exact ho.1 (m1_of z0 z)
        · obtain ⟨k, hk, rfl⟩ := i_of z0
          exact ho.2 k ((on_lt hk (by omega)).mp y) rfl
    · -- the ways
      obtain ⟨σw, hσw⟩ : ∃ x, x = am_u2 (am_u2 τ 0 1 0) 99 8 0 := ⟨_, rfl⟩
      have w9 : ∀ o, o ≠ 0 → o ≠ 99 → σw o = τ o := fun o h1 h2 => by rw [hσw, u2_row h2, u2_row h1]
      have w99 : ∀ j, j ≠ 8 → σw 99 j = τ 99 j := fun j h => by rw [hσw, u2_nj h, u2_ne (by decide)]
      have h16 : 16 ^ s.1 ≤ 16 ^ 3 := Nat.pow_le_pow_right (by decide) I1
      have h163 : 16 ^ 3 = 4096 := by decide
      obtain ⟨υ, v1, v2, -⟩ := c_tryW (σ0 := σw) hr (T := T) (S := S) (m := n - S - 1) (K := s.1) (d := s.2.2) q2 (by omega) I1 hK0 (by rw [w99 5 (by decide)]; exact l2.1) (by rw [w99 6 (by decide)]; exact l2.2.1) (by rw [w99 7 (by decide)]; exact l2.2.2.1) (fun i hi => by rw [w9 101 (by decide) (by decide)]; exact ⟨l2.2.2.2.1 i hi, (I2 i hi).1⟩) (fun i hi => by rw [w9 100 (by decide) (by decide)]; exact l3 i hi) s.1 0 60 (fun _ => 0) σw (0, fun _ => 0) (by omega) (by omega) (fun i hi => by omega) (fun i hi => by omega) (fun i hi => by omega) (fun i hi => by omega) ⟨fun _ _ _ _ => rfl, fun _ _ => rfl, by rw [hσw, u2_eq]; rfl, fun h => absurd rfl h⟩ (by show 0 + 16 ^ s.1 < _; omega)
      have hCC : Rr (gst T S s.2.2 (n - S - 1) s.1) s.1 0 (fun _ => 0) (0, fun _ => 0) = lC T n S s (16 ^ s.1) := Rr_codes (fun i hi => (I2 i hi).1) I1 s.1 0 _ _ (by omega)
      rw [hCC] at v2
      obtain ⟨v3, v4, v5, v6⟩ := v2
      have hfw : f_X3_findWays (am_u2 τ 0 1 0, ρ) 99 = some υ := by
        unfold f_X3_findWays f_X3_tryWords
        simp only
        rw [← hσw]
        rw [show (0 : Int32) = Int32.ofNat 0 from rfl, v1, bnd]
      have keep : ∀ o, o < 99 ∨ 104 < o → υ o = am_u2 τ 0 1 0 o := fun o h => by
        rw [v3 o (by omega) (by omega) (by omega), hσw, u2_row (by omega)]
      have hcl : (lC T n S s (16 ^ s.1)).1 < 2147483648 := by
        have h1 := lC_le (T := T) (n := n) (S := S) (s := s) (16 ^ s.1)
        omega
      have ok1 : ∀ r τ2, f_X11_learn (σ, ρ) 0 p = some (.inl (some (.int r)), (υ, ρ)) → f_X12_learn (am_u2 υ 122 0 r, ρ) 105 p = some (r, τ2) → τ2 105 0 = 0 → mkL (am_u2 υ 122 0 r) τ2 → Rs [(1, 1)] (f_X11_learn (σ, ρ) 0 p) (fun S => f_X12_learn S 105 p) := fun r τ2 h1 h2 h3 h4 =>
        ⟨_, (υ, ρ), h1, Or.inl ⟨r, τ2, rfl, h2, h3, by rw [h4.1 122 (by decide) (by decide) (by decide) (by decide)]; exact u2_eq, fin υ τ2 r keep h4⟩⟩
      have e7' : υ 99 7 = Int32.ofNat s.1 := by rw [v4 7 (by decide), w99 7 (by decide)]; exact l2.2.2.1
      by_cases pm : p = -1
      · subst pm
        obtain ⟨y1, y2⟩ := Mh υ (Int32.ofNat (lC T n S s (16 ^ s.1)).1) keep
        obtain ⟨τ2, m1, m2, m3⟩ := ((M_learn (σ := am_u2 υ 122 0 (Int32.ofNat (lC T n S s (16 ^ s.1)).1)) hr n1 y1 y2 s1 s2 s3 (-1)).2 s hok l1).2.1 rfl
        refine ok1 (Int32.ofNat (lC T n S s (16 ^ s.1)).1) τ2 ?_ m1 m2 m3
        unfold f_X11_learn
        simp only [rd_pup hr, rd_tape hr, bnd, n2, t1, hok]
        rw [if_neg (show ¬ bi true = 0 by decide), if_neg (by decide), e7, if_pos (show (-1 : Int32) < Int32.ofNat s.1 from by
          rw [Int32.lt_iff_toInt_lt, on_int (by omega)]
          have : (-1 : Int32).toInt = -1 := by decide
          rw [this]; omega), hfw]
        simp only [bnd, if_true, v5]
      · have : ∃ k, k < s.1 ∧ p = Int32.ofNat k := by
          apply Classical.byContradiction
          intro q
          exact ho ⟨pm, fun k hk e => q ⟨k, hk, e⟩⟩
        obtain ⟨k, hk, rfl⟩ := this
        obtain ⟨r, hrr⟩ : ∃ r, r = (if (lC T n S s (16 ^ s.1)).1 = 0 then (-1 : Int32) else Int32.ofNat ((lC T n S s (16 ^ s.1)).2 k)) := ⟨_, rfl⟩
        obtain ⟨y1, y2⟩ := Mh υ r keep
        obtain ⟨τ2, m1, m2, m3⟩ := ((M_learn (σ := am_u2 υ 122 0 r) hr n1 y1 y2 s1 s2 s3 (Int32.ofNat k)).2 s hok l1).2.2 k hk rfl
        rw [← hrr] at m1
        refine ok1 r τ2 ?_ m1 m2 m3
        unfold f_X11_learn
        simp only [rd_pup hr, rd_tape hr, bnd, n2, t1, hok]
        have hk1 : ¬ Int32.ofNat k < -1 := fun z => by
          rw [Int32.lt_iff_toInt_lt, on_int (by omega)] at z
          have : (-1 : Int32).toInt = -1 := by decide
          rw [this] at z; omega
        rw [if_neg (show ¬ bi true = 0 by decide), if_neg hk1, e7, if_pos (lt_y hk (by omega)), hfw]
        simp only [bnd]
        rw [if_neg (on_m1 (by omega))]
        unfold f_X3_firstWordOf
        simp only [v5, e7', on_pos hcl]
        rw [hrr]
        by_cases z : (lC T n S s (16 ^ s.1)).1 = 0
        · rw [if_neg (by omega), if_pos z]; rfl
        · rw [if_pos (by omega), if_neg z, if_neg (on_neg (by omega)), if_pos (show Int32.ofNat k < 3 from (on_lt (b := 3) (by omega) (by decide)).mpr (by omega)), rd_p4 hr, bnd, ld_on (by rw [ln_104]; omega) (by omega), v6 z k hk]
          rfl
end LX
