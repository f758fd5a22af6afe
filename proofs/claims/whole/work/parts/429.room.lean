/-! room: begins as a tree -/
theorem bgn_iff {a b : Nat} : bgn a b = true ↔ a.log2 ≤ b.log2 ∧ b >>> (b.log2 - a.log2) = a := by unfold bgn cu; simp
theorem bgn_tr {a b c : Nat} (h : bgn a b = true) (g : bgn b c = true) : bgn a c = true := by
  rw [bgn_iff] at *
  refine ⟨by omega, ?_⟩
  rw [show c.log2 - a.log2 = (c.log2 - b.log2) + (b.log2 - a.log2) by omega, Nat.shiftRight_add, g.2, h.2]
theorem bgn_rf {a : Nat} : bgn a a = true := by rw [bgn_iff]; simp
theorem ch_lg {b s : Nat} (hb : 1 ≤ b) (hs : s < 2) : (2 * b + s).log2 = b.log2 + 1 := by
  have h1 : 2 ^ b.log2 ≤ b := Nat.log2_self_le (by omega)
  have h2 : b < 2 ^ (b.log2 + 1) := (Nat.log2_lt (by omega)).mp (by omega)
  have h3 : b.log2 + 1 ≤ (2 * b + s).log2 := (Nat.le_log2 (by omega)).mpr (by rw [Nat.pow_succ]; omega)
  have h4 : (2 * b + s).log2 < b.log2 + 2 := (Nat.log2_lt (by omega)).mpr (by rw [Nat.pow_succ]; omega)
  omega
theorem ch_sh {b s : Nat} (hs : s < 2) : (2 * b + s) >>> 1 = b := by rw [Nat.shiftRight_eq_div_pow]; omega
theorem bgn_ch {b s : Nat} (hb : 1 ≤ b) (hs : s < 2) : bgn b (2 * b + s) = true := by
  rw [bgn_iff, ch_lg hb hs]
  refine ⟨by omega, ?_⟩
  rw [show b.log2 + 1 - b.log2 = 1 by omega, ch_sh hs]
theorem bgn_of_ch {a b s : Nat} (hb : 1 ≤ b) (hs : s < 2) (h : bgn a (2 * b + s) = true) : a = 2 * b + s ∨ bgn a b = true := by
  rw [bgn_iff, ch_lg hb hs] at h
  by_cases q : a.log2 = b.log2 + 1
  · left
    have := h.2
    rw [q, Nat.sub_self] at this
    exact this.symm
  · right
    rw [bgn_iff]
    refine ⟨by omega, ?_⟩
    have := h.2
    rw [show b.log2 + 1 - a.log2 = 1 + (b.log2 - a.log2) by omega, Nat.shiftRight_add, ch_sh hs] at this
    exact this
theorem bgn_down {b x : Nat} (hb : 1 ≤ b) (h : bgn b x = true) (hne : x ≠ b) : ∃ s, s < 2 ∧ bgn (2 * b + s) x = true := by
  rw [bgn_iff] at h
  have hl : b.log2 < x.log2 := by
    apply Nat.lt_of_le_of_ne h.1
    intro e
    have := h.2
    rw [e, Nat.sub_self] at this
    exact hne this
  have h1 : (x >>> (x.log2 - b.log2 - 1)) >>> 1 = b := by
    rw [← Nat.shiftRight_add, show x.log2 - b.log2 - 1 + 1 = x.log2 - b.log2 by omega]; exact h.2
  have h2 : x >>> (x.log2 - b.log2 - 1) = 2 * b + (x >>> (x.log2 - b.log2 - 1)) % 2 := by
    rw [Nat.shiftRight_eq_div_pow] at h1
    omega
  refine ⟨(x >>> (x.log2 - b.log2 - 1)) % 2, Nat.mod_lt _ (by decide), ?_⟩
  rw [bgn_iff, ch_lg hb (Nat.mod_lt _ (by decide)), ← h2]
  exact ⟨by omega, by congr 1⟩
theorem bgn_le {p x : Nat} (h : bgn p x = true) : p ≤ x := by
  rw [bgn_iff] at h
  rw [← h.2, Nat.shiftRight_eq_div_pow]
  exact Nat.div_le_self _ _
theorem mn_all : ((List.range 512).all (fun x => (List.range 9).all (fun k => decide (mnN (cu x k) ≤ mnN x)))) = true := by decide +kernel
theorem bgn_mn {p x : Nat} (hx : x < 512) (h : bgn p x = true) : mnN p ≤ mnN x := by
  have hp : p = cu x p.log2 := by unfold bgn at h; simp only [Bool.and_eq_true, decide_eq_true_eq] at h; exact h.2.symm
  have hl : p.log2 ≤ 8 := by rw [bgn_iff] at h; have := log2_le8 hx; omega
  have h1 := List.all_eq_true.mp mn_all x (List.mem_range.mpr hx)
  have h2 := List.all_eq_true.mp h1 p.log2 (List.mem_range.mpr (by omega))
  simp only [decide_eq_true_eq] at h2
  rw [← hp] at h2
  exact h2
/-- free beside words -/
def fre (W : Nat → Nat) (x : Nat) : Bool := allN (fun o => decide (W o = 0) || (!bgn (W o) x && !bgn x (W o))) 10
theorem fre_iff {W : Nat → Nat} {x : Nat} : fre W x = true ↔ ∀ o, o < 10 → W o ≠ 0 → bgn (W o) x = false ∧ bgn x (W o) = false := by
  unfold fre
  rw [allN_iff]
  constructor
  · intro h o ho hne
    have := h o ho
    simpa [hne] using this
  · intro h o ho
    by_cases q : W o = 0
    · simp [q]
    · have := h o ho q; simp [this]
def pfr (W : Nat → Nat) : Prop := (∀ o, o < 10 → W o ≠ 1 ∧ W o < 512) ∧ ∀ a b, a < 10 → b < 10 → a ≠ b → W a ≠ 0 → W b ≠ 0 → bgn (W a) (W b) = false
/-- a begins with it: the first -/
def hadq (W : Nat → Nat) (x o : Nat) : Bool := decide (W o ≠ 0) && bgn x (W o)
/-- the words that are kept, in their order -/
def kps (W : Nat → Nat) : Nat → Nat → List Nat
  | 0, _ => []
  | n + 1, b => kp1 W (kps W n) (2 * b) ++ kp1 W (kps W n) (2 * b + 1)
where kp1 (W : Nat → Nat) (f : Nat → List Nat) (x : Nat) : List Nat := match ff (hadq W x) 0 10 with
  | none => [x]
  | some o => if x.log2 < (W o).log2 then f x else []
def nbg (W : Nat → Nat) (b : Nat) : Prop := ∀ o, o < 10 → W o ≠ 0 → bgn (W o) b = false
section KP
variable {W : Nat → Nat}
theorem kp_nb (hW : pfr W) {b s o : Nat} (hb : 1 ≤ b) (hs : s < 2) (hnb : nbg W b) (ho : o < 10) (h0 : W o ≠ 0) (hbg : bgn (2 * b + s) (W o) = true) (hl : (2 * b + s).log2 < (W o).log2) : nbg W (2 * b + s) := fun o2 h2 h3 => by
  cases e : bgn (W o2) (2 * b + s) with
  | false => rfl
  | true =>
    rcases bgn_of_ch hb hs e with z | z
    · by_cases q : o2 = o
      · subst q; rw [z] at hl; omega
      · rw [← z] at hbg
        rw [hW.2 o2 o h2 ho q h3 h0] at hbg; cases hbg
    · rw [hnb o2 h2 h3] at z; cases z
theorem kps_in (hW : pfr W) : ∀ n b, 1 ≤ b → b.log2 + n = 8 → nbg W b → ∀ x, x ∈ kps W n b → fre W x = true ∧ 2 ≤ x ∧ x < 512
  | 0, _, _, _, _, x, h => by cases h
  | n + 1, b, hb, hl, hnb, x, h => by
    have one : ∀ s, s < 2 → x ∈ kps.kp1 W (kps W n) (2 * b + s) → fre W x = true ∧ 2 ≤ x ∧ x < 512 := fun s hs hx => by
      unfold kps.kp1 at hx
      have hlg := ch_lg hb hs
      have hx512 : 2 * b + s < 512 := by
        have := (Nat.log2_lt (n := 2 * b + s) (by omega) (k := 9)).mp (by omega)
        exact this
      cases hf : ff (hadq W (2 * b + s)) 0 10 with
      | none =>
        rw [hf] at hx
        simp only [List.mem_singleton] at hx
        subst hx
        have hno := ff_none.mp hf
        refine ⟨fre_iff.mpr (fun o ho h0 => ?_), by omega, hx512⟩
        have h1 : bgn (2 * b + s) (W o) = false := by
          have := hno o (by omega) (by omega)
          unfold hadq at this
          simpa [h0] using this
        refine ⟨?_, h1⟩
        cases e : bgn (W o) (2 * b + s) with
        | false => rfl
        | true =>
          rcases bgn_of_ch hb hs e with z | z
          · rw [z, bgn_rf] at h1; cases h1
          · rw [hnb o ho h0] at z; cases z
      | some o =>
        rw [hf] at hx
        simp only at hx
        obtain ⟨-, ho, hq, -⟩ := ff_some.mp hf
        unfold hadq at hq
        simp only [Bool.and_eq_true, decide_eq_true_eq] at hq
        split at hx
        · rename_i hlt
          exact kps_in hW n (2 * b + s) (by omega) (by omega) (kp_nb hW hb hs hnb (by omega) hq.1 hq.2 hlt) x hx
        · cases hx
    unfold kps at h
    rcases List.mem_append.mp h with h | h
    · exact one 0 (by decide) h
    · exact one 1 (by decide) h
theorem kps_cov (hW : pfr W) : ∀ n b, 1 ≤ b → b.log2 + n = 8 → nbg W b → ∀ x, x < 512 → x ≠ b → bgn b x = true → fre W x = true → ∃ p, p ∈ kps W n b ∧ bgn p x = true
  | 0, b, hb, hl, hnb, x, hx, hne, hbx, hfr => by
    have h1 := log2_le8 hx
    have h2 := bgn_iff.mp hbx
    have : x.log2 - b.log2 = 0 := by omega
    rw [this] at h2
    exact absurd h2.2 hne
  | n + 1, b, hb, hl, hnb, x, hx, hne, hbx, hfr => by
    obtain ⟨s, hs, hc⟩ := bgn_down hb hbx hne
    have hlg := ch_lg hb hs
    have key : ∃ p, p ∈ kps.kp1 W (kps W n) (2 * b + s) ∧ bgn p x = true := by
      unfold kps.kp1
      cases hf : ff (hadq W (2 * b + s)) 0 10 with
      | none => exact ⟨2 * b + s, List.mem_singleton.mpr rfl, hc⟩
      | some o =>
        obtain ⟨-, ho, hq, -⟩ := ff_some.mp hf
        unfold hadq at hq
        simp only [Bool.and_eq_true, decide_eq_true_eq] at hq
        have hfo := (fre_iff.mp hfr) o (by omega) hq.1
        have hlt : (2 * b + s).log2 < (W o).log2 := by
          have h1 := bgn_iff.mp hq.2
          apply Nat.lt_of_le_of_ne h1.1
          intro e
          have h2 := h1.2
          rw [e, Nat.sub_self] at h2
          have h3 : W o = 2 * b + s := h2
          rw [← h3] at hc
          rw [hfo.1] at hc; cases hc
        simp only
        rw [if_pos hlt]
        refine kps_cov hW n (2 * b + s) (by omega) (by omega) (kp_nb hW hb hs hnb (by omega) hq.1 hq.2 hlt) x hx ?_ hc hfr
        intro e
        rw [← e] at hq
        rw [hfo.2] at hq
        exact absurd hq.2 (by decide)
    obtain ⟨p, h1, h2⟩ := key
    refine ⟨p, ?_, h2⟩
    unfold kps
    have : s = 0 ∨ s = 1 := by omega
    rcases this with rfl | rfl
    · exact List.mem_append.mpr (Or.inl h1)
    · exact List.mem_append.mpr (Or.inr h1)
end KP
/-- the better of two -/
def bt (x y : Nat) : Bool := decide (y = 0) || decide (mnN x < mnN y) || (decide (mnN x = mnN y) && decide (x < y))
def bl (l : List Nat) (a : Nat) : Nat := l.foldl (fun y x => if bt x y then x else y) a
theorem bl_spec : ∀ (l : List Nat) (a : Nat), (∀ x ∈ l, x ≠ 0) → (bl l a = a ∨ bl l a ∈ l) ∧ (a ≠ 0 → bl l a ≠ 0) ∧ (∀ y, y ∈ l ∨ (y = a ∧ a ≠ 0) → bl l a ≠ 0 ∧ (mnN (bl l a) < mnN y ∨ (mnN (bl l a) = mnN y ∧ bl l a ≤ y)))
  | [], a, _ => ⟨Or.inl rfl, fun h => h, fun y hy => by
      rcases hy with h | ⟨rfl, h⟩
      · cases h
      · exact ⟨h, Or.inr ⟨rfl, Nat.le_refl _⟩⟩⟩
  | x :: l, a, hl => by
    have hx := hl x List.mem_cons_self
    have ih := bl_spec l (if bt x a then x else a) (fun y hy => hl y (List.mem_cons_of_mem _ hy))
    have e : bl (x :: l) a = bl l (if bt x a then x else a) := rfl
    rw [e]
    by_cases q : bt x a = true
    · rw [if_pos q] at ih ⊢
      have h1 := ih.2.2 x (Or.inr ⟨rfl, hx⟩)
      refine ⟨Or.inr ?_, fun _ => ih.2.1 hx, fun y hy => ?_⟩
      · rcases ih.1 with z | z
        · rw [z]; exact List.mem_cons_self
        · exact List.mem_cons_of_mem _ z
      · rcases hy with h | ⟨rfl, h⟩
        · rcases List.mem_cons.mp h with rfl | h
          · exact h1
          · exact ih.2.2 y (Or.inl h)
        · unfold bt at q
          simp only [Bool.or_eq_true, Bool.and_eq_true, decide_eq_true_eq] at q
          refine ⟨h1.1, ?_⟩
          omega
    · rw [if_neg q] at ih ⊢
      unfold bt at q
      simp only [Bool.or_eq_true, Bool.and_eq_true, decide_eq_true_eq, not_or, not_and] at q
      refine ⟨ih.1.imp id (fun z => List.mem_cons_of_mem _ z), ih.2.1, fun y hy => ?_⟩
      rcases hy with h | ⟨rfl, h⟩
      · rcases List.mem_cons.mp h with rfl | h
        · have h1 := ih.2.2 a (Or.inr ⟨rfl, q.1.1⟩)
          refine ⟨h1.1, ?_⟩
          have := q.2
          omega
        · exact ih.2.2 y (Or.inl h)
      · exact ih.2.2 y (Or.inr ⟨rfl, h⟩)
/-- the model's: the first of the least cost among all numbers -/
def ftF (W : Nat → Nat) (k b : Nat) : Nat := if (fre W (k + 2) && (decide (b = 0) || decide (mnN (k + 2) < mnN b))) = true then k + 2 else b
def ft (W : Nat → Nat) (n : Nat) : Nat := fo (ftF W) n 0
theorem ft_spec {W : Nat → Nat} : ∀ n, (ft W n = 0 ∨ (2 ≤ ft W n ∧ ft W n < n + 2 ∧ fre W (ft W n) = true)) ∧ ∀ x, 2 ≤ x → x < n + 2 → fre W x = true → ft W n ≠ 0 ∧ (mnN (ft W n) < mnN x ∨ (mnN (ft W n) = mnN x ∧ ft W n ≤ x))
  | 0 => ⟨Or.inl rfl, fun x h1 h2 => by omega⟩
  | n + 1 => by
    obtain ⟨h1, h2⟩ := ft_spec (W := W) n
    have e : ft W (n + 1) = ftF W n (ft W n) := rfl
    rw [e]
    generalize ft W n = b at h1 h2
    unfold ftF
    by_cases q : (fre W (n + 2) && (decide (b = 0) || decide (mnN (n + 2) < mnN b))) = true
    · rw [if_pos q]
      simp only [Bool.and_eq_true, Bool.or_eq_true, decide_eq_true_eq] at q
      refine ⟨Or.inr ⟨by omega, by omega, q.1⟩, fun x g1 g2 g3 => ⟨by omega, ?_⟩⟩
      by_cases z : x = n + 2
      · subst z; right; exact ⟨rfl, Nat.le_refl _⟩
      · have := h2 x g1 (by omega) g3
        omega
    · rw [if_neg q]
      simp only [Bool.and_eq_true, Bool.or_eq_true, decide_eq_true_eq, not_and, not_or] at q
      refine ⟨h1.imp id (fun ⟨a, b, c⟩ => ⟨a, by omega, c⟩), fun x g1 g2 g3 => ?_⟩
      by_cases z : x = n + 2
      · subst z
        have := q g3
        refine ⟨this.1, ?_⟩
        rcases h1 with h1 | ⟨a, b, c⟩
        · exact absurd h1 this.1
        · omega
      · exact h2 x g1 (by omega) g3
/-- both find the same -/
theorem way_ft {W : Nat → Nat} (hW : pfr W) : bl (kps W 8 1) 0 = ft W 510 := by
  have hnb : nbg W 1 := fun o ho h0 => by
    cases e : bgn (W o) 1 with
    | false => rfl
    | true =>
      have h1 := bgn_iff.mp e
      have h2 : (1 : Nat).log2 = 0 := by decide
      rw [h2] at h1
      have h3 : 1 ≤ (W o).log2 := (Nat.le_log2 h0).mpr (by have := (hW.1 o ho).1; omega)
      omega
  have hl1 : (1 : Nat).log2 + 8 = 8 := by decide
  have hin := kps_in hW 8 1 (by decide) hl1 hnb
  have hb := bl_spec (kps W 8 1) 0 (fun x hx => by have := hin x hx; omega)
  have hf := ft_spec (W := W) 510
  have b1 : ∀ x, 2 ≤ x → bgn 1 x = true := fun x hx => by
    rw [bgn_iff]
    have h2 : (1 : Nat).log2 = 0 := by decide
    rw [h2]
    refine ⟨by omega, ?_⟩
    rw [Nat.sub_zero, Nat.shiftRight_eq_div_pow]
    have h3 : 2 ^ x.log2 ≤ x := Nat.log2_self_le (by omega)
    have h4 : x < 2 ^ (x.log2 + 1) := (Nat.log2_lt (by omega)).mp (by omega)
    rw [Nat.pow_succ] at h4
    exact Nat.div_eq_of_lt_le (by omega) (by omega)
  rcases hf.1 with z | ⟨z1, z2, z3⟩
  · rw [z]
    rcases hb.1 with y | y
    · exact y
    · obtain ⟨g1, g2, g3⟩ := hin _ y
      exact absurd z (hf.2 _ g2 (by omega) g1).1
  · obtain ⟨p, p1, p2⟩ := kps_cov hW 8 1 (by decide) hl1 hnb (ft W 510) (by omega) (by omega) (b1 _ z1) z3
    obtain ⟨q1, q2⟩ := hb.2.2 p (Or.inl p1)
    have hm := bgn_mn (show ft W 510 < 512 by omega) p2
    have hle := bgn_le p2
    have hmem : bl (kps W 8 1) 0 ∈ kps W 8 1 := hb.1.resolve_left q1
    obtain ⟨g1, g2, g3⟩ := hin _ hmem
    have := (hf.2 _ g2 (by omega) g1).2
    omega
