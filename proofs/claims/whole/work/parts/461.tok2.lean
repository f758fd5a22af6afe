section TL
variable {σ μ : sg} {ρ : rg} {R n b q t0 u0 : Nat} {T : Nat → Int32}
/-! words of strokes -/
abbrev abT (T : Nat → Int32) (k : Nat) : Prop := T k = 97 ∨ T k = 98
def sV (T : Nat → Int32) (b : Nat) : Nat → Nat
  | 0 => 1
  | k + 1 => 2 * sV T b k + (if T (b + k) = 98 then 1 else 0)
theorem sV_r : ∀ k, 2 ^ k ≤ sV T b k ∧ sV T b k < 2 ^ (k + 1)
  | 0 => ⟨Nat.le_refl _, by show 1 < 2; omega⟩
  | k + 1 => by
    have := sV_r k
    show 2 ^ (k + 1) ≤ 2 * sV T b k + _ ∧ 2 * sV T b k + _ < 2 ^ (k + 1 + 1)
    rw [Nat.pow_succ 2 (k + 1)]
    rw [Nat.pow_succ] at this ⊢
    split <;> omega
def abA (T : Nat → Int32) (b m : Nat) : Bool := allN (fun k => decide (abT T (b + k))) m
def wrdV (T : Nat → Int32) (n b : Nat) : Option Nat := if kdP T n b = 97 ∧ enP T n b - b ≤ 8 ∧ abA T b (enP T n b - b) = true then some (sV T b (enP T n b - b)) else none
theorem kd_lt (h : kdP T n b = 97 ∨ kdP T n b = 48) : b < n := by
  apply Classical.byContradiction; intro c; unfold kdP at h; rw [if_neg c] at h; exact absurd h (by decide)
theorem wrdV_r (hb : b ≤ n) {v : Nat} (h : wrdV T n b = some v) : 2 ≤ v ∧ v < 512 := by
  unfold wrdV at h
  by_cases c : kdP T n b = 97 ∧ enP T n b - b ≤ 8 ∧ abA T b (enP T n b - b) = true
  · rw [if_pos c] at h
    injection h with h
    have := sV_r (T := T) (b := b) (enP T n b - b)
    have e := (en_p (T := T) hb).2.2.1 (kd_lt (Or.inl c.1))
    have p1 : 2 ^ 1 ≤ 2 ^ (enP T n b - b) := Nat.pow_le_pow_right (by decide) (by omega)
    have p2 : 2 ^ (enP T n b - b + 1) ≤ 2 ^ 9 := Nat.pow_le_pow_right (by decide) (by omega)
    have p3 : 2 ^ 9 = 512 := by decide
    omega
  · rw [if_neg c] at h; cases h
theorem c_wloop (h : cR σ ρ R T n b) (hc : kdP T n b = 97 ∧ enP T n b - b ≤ 8) : am_loop (f_X4_word_b34 (σ, ρ) R) am_fuel (1, Int32.ofNat b) = some (match wrdV T n b with | some v => Int32.ofNat v | none => -1) := by
  obtain ⟨h1, h2, h3, h4, h5, h6, h7, h8, h9, h10⟩ := h
  obtain ⟨e1, e2, e3, -⟩ := en_p (T := T) h4
  obtain ⟨d, l1, l2⟩ := lp_rule (body := f_X4_word_b34 (σ, ρ) R) (enP T n b - b) (fun k x => x.2 = Int32.ofNat (b + k) ∧ ((x.1 = Int32.ofNat (sV T b k) ∧ ∀ i, i < k → abT T (b + i)) ∨ (x.1 = -1 ∧ ∃ i, i < enP T n b - b ∧ ¬ abT T (b + i)))) (fun d => d = (match wrdV T n b with | some v => Int32.ofNat v | none => -1)) (x := ((1 : Int32), Int32.ofNat b)) ⟨rfl, Or.inl ⟨rfl, fun i hi => by omega⟩⟩ (fun k x hk hx => by
    obtain ⟨x1, x2⟩ := x
    obtain ⟨rfl, y2⟩ := hx
    have bad : (∃ i, i < enP T n b - b ∧ ¬ abT T (b + i)) → wrdV T n b = none := fun ⟨i, i1, i2⟩ => by
      unfold wrdV
      rw [if_neg]
      intro z
      exact i2 (of_decide_eq_true (allN_iff.mp z.2.2 i i1))
    unfold f_X4_word_b34
    simp only [h8, h6]
    by_cases e : k < enP T n b - b
    · rw [if_pos (lt_y (by omega) (by omega)), if_pos (lt_y (by omega) (by omega))]
      rcases y2 with ⟨y1, y2⟩ | ⟨y1, y2⟩
      · simp only at y1
        have sr := sV_r (T := T) (b := b) k
        have p2 : 2 ^ (k + 1) ≤ 2 ^ 9 := Nat.pow_le_pow_right (by decide) (by omega)
        have p3 : 2 ^ 9 = 512 := by decide
        left
        rw [y1, if_neg (on_m1 (by omega)), h1, bnd, ld_on (by rw [ln_1]; omega) (by omega), bnd, bnd, ld_on (by rw [ln_1]; omega) (by omega), bnd, h10 _ (by omega), on_s, show (2 : Int32) = Int32.ofNat 2 from rfl, on_mul, on_s]
        by_cases f : T (b + k) = 97
        · rw [if_pos f, bnd]
          refine ⟨_, rfl, e, rfl, Or.inl ⟨?_, fun i hi => if z : i = k then by rw [z]; exact Or.inl f else y2 i (by omega)⟩⟩
          show Int32.ofNat _ = Int32.ofNat (2 * sV T b k + _)
          rw [f, if_neg (by decide), Nat.mul_comm]; rfl
        · rw [if_neg f]
          by_cases g : T (b + k) = 98
          · rw [if_pos g, bnd]
            refine ⟨_, rfl, e, rfl, Or.inl ⟨?_, fun i hi => if z : i = k then by rw [z]; exact Or.inr g else y2 i (by omega)⟩⟩
            show Int32.ofNat _ = Int32.ofNat (2 * sV T b k + _)
            rw [g, if_pos rfl, Nat.mul_comm]
          · rw [if_neg g, bnd]
            exact ⟨_, rfl, e, rfl, Or.inr ⟨rfl, k, e, fun z => z.elim f g⟩⟩
      · right
        simp only at y1
        rw [if_pos y1]
        exact ⟨_, rfl, by rw [bad y2, y1]⟩
    · right
      rw [if_neg (fun z => by have := (on_lt (by omega) (by omega)).mp z; omega)]
      refine ⟨_, rfl, ?_⟩
      rcases y2 with ⟨y1, y2⟩ | ⟨y1, y2⟩
      · have : k = enP T n b - b := by omega
        have hw : wrdV T n b = some (sV T b k) := by
          unfold wrdV
          rw [if_pos ⟨hc.1, hc.2, allN_iff.mpr (fun i hi => decide_eq_true (y2 i (by omega)))⟩, this]
        rw [hw]; exact y1
      · rw [bad y2]; exact y1) (by omega)
  rw [l1, l2]
theorem c_wloop0 (h : cR σ ρ R T n b) : am_loop (f_X4_word_b34 (σ, ρ) R) am_fuel (-1, Int32.ofNat b) = some (-1) := by
  refine lp_for 0 (fun _ => ((-1 : Int32), Int32.ofNat b)) rfl (fun j hj => by omega) ?_ (by decide)
  unfold f_X4_word_b34
  simp only [if_true]
  by_cases z1 : Int32.ofNat b < σ R 3
  · rw [if_pos z1]
    by_cases z2 : Int32.ofNat b < σ R 1
    · rw [if_pos z2]
    · rw [if_neg z2]
  · rw [if_neg z1]
theorem c_wtop (h : cR σ ρ R T n b) : ((if kdP T n b = 97 then (if 8 < Int32.ofNat (enP T n b - b) then some ((-1) : Int32) else some (1 : Int32)) else some ((-1) : Int32)).bind (fun t1 => am_loop (f_X4_word_b34 (σ, ρ) R) am_fuel (t1, Int32.ofNat b))) = some (match wrdV T n b with | some v => Int32.ofNat v | none => -1) := by
  have e := en_p (T := T) h.2.2.2.1
  have n4 := h.2.2.1
  by_cases a : kdP T n b = 97
  · rw [if_pos a]
    by_cases c : enP T n b - b ≤ 8
    · rw [if_neg (show ¬ (8 : Int32) < Int32.ofNat (enP T n b - b) from fun z => by have := (on_lt (a := 8) (by decide) (by omega)).mp z; omega), bnd, c_wloop h ⟨a, c⟩]
    · rw [if_pos (show (8 : Int32) < Int32.ofNat (enP T n b - b) from (on_lt (a := 8) (by decide) (by omega)).mpr (by omega)), bnd, c_wloop0 h]
      have : wrdV T n b = none := by unfold wrdV; rw [if_neg (fun z => c z.2.1)]
      rw [this]
  · rw [if_neg a, bnd, c_wloop0 h]
    have : wrdV T n b = none := by unfold wrdV; rw [if_neg (fun z => a z.1)]
    rw [this]
theorem bnd2 {α β γ : Type} {x : Option α} {f : α → Option β} {g : β → Option γ} {y : β} (h : x.bind f = some y) : x.bind (fun a => (f a).bind g) = g y := by
  cases x with
  | none => cases h
  | some a => rw [bnd]; rw [bnd] at h; rw [h, bnd]
theorem c_word1 (h : cR σ ρ R T n b) (hok : σ R 5 = -1) : (∃ v τ, wrdV T n b = some v ∧ 2 ≤ v ∧ v < 512 ∧ f_X4_word (σ, ρ) R = some (Int32.ofNat v, τ) ∧ cR τ ρ R T n (nx T n b) ∧ kO R σ τ ∧ τ R 5 = -1) ∨ (wrdV T n b = none ∧ ∃ τ, f_X4_word (σ, ρ) R = some (-1, τ) ∧ cR τ ρ R T n b ∧ kO R σ τ ∧ τ R 5 = Int32.ofNat b) := by
  have e := en_p (T := T) h.2.2.2.1
  unfold f_X4_word
  simp only [h.2.2.2.2.2.2.1, h.2.2.2.2.2.2.2.1, h.2.2.2.2.2.2.2.2.1, on_sub e.1]
  rw [bnd2 (c_wtop h), if_pos hok]
  cases hv : wrdV T n b with
  | none =>
    right
    simp only
    obtain ⟨τ, r1, r2, r3, r4⟩ := c_ref1 h hok
    rw [if_pos (by first | rfl | trivial), r1, bnd]
    exact ⟨by first | rfl | trivial, τ, rfl, r2, r3, r4⟩
  | some v =>
    left
    simp only
    obtain ⟨v1, v2⟩ := wrdV_r h.2.2.2.1 hv
    obtain ⟨τ, r1, r2, r3, r4⟩ := c_stp h
    rw [if_neg (on_m1 (by omega)), r1, bnd]
    exact ⟨v, τ, rfl, v1, v2, rfl, r2, r3, r4.trans hok⟩
theorem c_word0 (h : cR σ ρ R T n b) (hok : σ R 5 ≠ -1) : f_X4_word (σ, ρ) R = some (-1, σ) := by
  have e := en_p (T := T) h.2.2.2.1
  unfold f_X4_word
  simp only [h.2.2.2.2.2.2.1, h.2.2.2.2.2.2.2.1, h.2.2.2.2.2.2.2.2.1, on_sub e.1]
  rw [bnd2 (c_wtop h), if_neg hok, c_ref0 hok, bnd]
/-! the model's tokens -/
def mS (μ : sg) (T : Nat → Int32) (n q : Nat) : Prop := μ 105 7 = Int32.ofNat q ∧ μ 105 8 = Int32.ofNat n ∧ q ≤ n ∧ n ≤ 400 ∧ ∀ k, k < n → μ 109 k = T k
def kM (μ ν : sg) : Prop := (∀ o, o ≠ 105 → ν o = μ o) ∧ ∀ j, j ≠ 7 → j ≠ 9 → ν 105 j = μ 105 j
theorem kM_rf : kM μ μ := ⟨fun _ _ => rfl, fun _ _ _ => rfl⟩
theorem kM_tr {ν κ : sg} (h : kM μ ν) (g : kM ν κ) : kM μ κ := ⟨fun o ho => (g.1 o ho).trans (h.1 o ho), fun j h1 h2 => (g.2 j h1 h2).trans (h.2 j h1 h2)⟩
theorem kM_7 {v : Int32} : kM μ (am_u2 μ 105 7 v) := ⟨fun o ho => u2_row ho, fun j h1 h2 => u2_nj h1⟩
theorem kM_9 {v : Int32} : kM μ (am_u2 μ 105 9 v) := ⟨fun o ho => u2_row ho, fun j h1 h2 => u2_nj h2⟩
theorem mS_k {ν : sg} {p : Nat} (h : mS μ T n q) (k : kM μ ν) (h7 : ν 105 7 = Int32.ofNat p) (hp : p ≤ n) : mS ν T n p := ⟨h7, by rw [k.2 8 (by decide) (by decide)]; exact h.2.1, hp, h.2.2.2.1, fun i hi => by rw [k.1 109 (by decide)]; exact h.2.2.2.2 i hi⟩
theorem rm_at (hr : rh ρ t0 u0) (h : mS μ T n q) (lo hi : Int32) : f_X12_isAt (μ, ρ) 105 lo hi = some (bi (decide (q < n ∧ lo ≤ T q ∧ T q ≤ hi))) := by
  obtain ⟨h7, h8, hq, hn, hT⟩ := h
  unfold f_X12_isAt
  simp only [h7, h8, rd_tapeM hr, bnd]
  by_cases c : q < n
  · rw [if_pos (lt_y c (by omega)), ld_on (by rw [ln_109]; omega) (by omega), hT q c]
    simp only [bnd]
    by_cases a : T q < lo
    · rw [if_pos a, decide_eq_false (fun z => absurd a (nlt.mpr z.2.1))]; rfl
    · rw [if_neg a]
      by_cases d : hi < T q
      · rw [if_pos d, decide_eq_false (fun z => absurd d (nlt.mpr z.2.2))]; rfl
      · rw [if_neg d, decide_eq_true ⟨c, nlt.mp a, nlt.mp d⟩]; rfl
  · rw [if_neg (fun z => c ((on_lt (by omega) (by omega)).mp z)), decide_eq_false (fun z => c z.1)]; rfl
theorem rm_run (hr : rh ρ t0 u0) {body : sg → Option (sg ⊕ sg)} {lo hi : Int32} (hb : ∀ x, body x = ((f_X12_isAt (x, ρ) 105 lo hi).bind (fun v2 => (if v2 = 0 then some (.inr x) else some (.inl (am_u2 x 105 7 ((x 105 7) + 1))))))) (h : mS μ T n q) : ∃ ν, am_loop body am_fuel μ = some ν ∧ ν 105 7 = Int32.ofNat (runN (fun k => decide (lo ≤ T k ∧ T k ≤ hi)) n q) ∧ (∀ o, o ≠ 105 → ν o = μ o) ∧ (∀ j, j ≠ 7 → ν 105 j = μ 105 j) := by
  obtain ⟨r1, r2, r3, r4⟩ := run_p (q := fun k => decide (lo ≤ T k ∧ T k ≤ hi)) h.2.2.1
  obtain ⟨e, he⟩ : ∃ e, e = runN (fun k => decide (lo ≤ T k ∧ T k ≤ hi)) n q := ⟨_, rfl⟩
  rw [← he] at r1 r2 r3 r4 ⊢
  have hn := h.2.2.2.1
  refine lp_rule (e - q) (fun k (x : sg) => x 105 7 = Int32.ofNat (q + k) ∧ (∀ o, o ≠ 105 → x o = μ o) ∧ (∀ j, j ≠ 7 → x 105 j = μ 105 j)) (fun (ν : sg) => ν 105 7 = Int32.ofNat e ∧ (∀ o, o ≠ 105 → ν o = μ o) ∧ (∀ j, j ≠ 7 → ν 105 j = μ 105 j)) ⟨h.1, fun _ _ => rfl, fun _ _ => rfl⟩ (fun k x hk hx => ?_) (by omega)
  obtain ⟨x1, x2, x3⟩ := hx
  have hx : mS x T n (q + k) := ⟨x1, by rw [x3 8 (by decide)]; exact h.2.1, by omega, hn, fun i hi => by rw [x2 109 (by decide)]; exact h.2.2.2.2 i hi⟩
  rw [hb, rm_at hr hx, bnd]
  by_cases c : k < e - q
  · left
    have := of_decide_eq_true (r3 (q + k) (by omega) (by omega))
    rw [decide_eq_true ⟨by omega, this⟩, if_neg (by decide), x1, on_s]
    exact ⟨_, rfl, c, u2_eq, fun o ho => (u2_row ho).trans (x2 o ho), fun j hj => (u2_nj hj).trans (x3 j hj)⟩
  · right
    have hk2 : q + k = e := by omega
    rw [hk2]
    rw [decide_eq_false (fun z => of_decide_eq_false (r4 z.1) z.2), if_pos (show bi false = 0 from rfl)]
    exact ⟨_, rfl, by rw [x1, hk2], x2, x3⟩
theorem bg_e : bgP T n q = runN (fun k => decide ((32 : Int32) ≤ T k ∧ T k ≤ 32)) n q := by
  unfold bgP
  have : (fun k => decide (T k = 32)) = (fun k => decide ((32 : Int32) ≤ T k ∧ T k ≤ 32)) := by
    funext k
    rw [decide_eq_decide]
    rw [Int32.le_iff_toInt_le, Int32.le_iff_toInt_le, ← Int32.toInt_inj]
    omega
  rw [this]
theorem rm_bl (hr : rh ρ t0 u0) (h : mS μ T n q) : ∃ ν, f_X12_blanks (μ, ρ) 105 = some ν ∧ kM μ ν ∧ mS ν T n (bgP T n q) ∧ ν 105 9 = Int32.ofNat (bgP T n q) := by
  obtain ⟨ν, l1, l2, l3, l4⟩ := rm_run (body := f_X12_blanks_b0 (μ, ρ) 105) hr (lo := 32) (hi := 32) (fun x => rfl) h
  rw [← bg_e] at l2
  unfold f_X12_blanks
  simp only
  rw [l1, bnd]
  have k : kM μ (am_u2 ν 105 9 (ν 105 7)) := ⟨fun o ho => (u2_row ho).trans (l3 o ho), fun j h1 h2 => (u2_nj h2).trans (l4 j h1)⟩
  exact ⟨_, rfl, k, mS_k h k (by rw [u2_nj (by decide)]; exact l2) (bg_p h.2.2.1).2.1, by rw [u2_eq]; exact l2⟩
/-- the end of the letters at b -/
def ltP (T : Nat → Int32) (n b : Nat) : Nat := if kdP T n b = 97 then enP T n b else b
theorem run_u {q1 : Nat → Bool} {p e : Nat} (h1 : p ≤ e) (h2 : e ≤ n) (h3 : ∀ k, p ≤ k → k < e → q1 k = true) (h4 : e < n → q1 e = false) : runN q1 n p = e := by
  obtain ⟨r1, r2, r3, r4⟩ := run_p (q := q1) (show p ≤ n by omega)
  apply Nat.le_antisymm
  · apply Nat.le_of_not_lt
    intro z
    have := r3 e h1 z
    rw [h4 (by omega)] at this
    cases this
  · apply Nat.le_of_not_lt
    intro z
    have := h3 _ r1 z
    rw [r4 (by omega)] at this
    cases this
theorem lt_e (hB : tB T n) (hb : b ≤ n) : runN (fun k => decide ((97 : Int32) ≤ T k ∧ T k ≤ 122)) n b = ltP T n b := by
  obtain ⟨e1, e2, e3, e4, e5, -⟩ := en_p (T := T) hb
  unfold ltP
  by_cases c : kdP T n b = 97
  · rw [if_pos c]
    have kb : kdN (T b) = 97 := by unfold kdP at c; rw [if_pos (kd_lt (Or.inl (by unfold kdP; exact c)))] at c; exact c
    refine run_u e1 e2 (fun k k1 k2 => decide_eq_true ((tB_k hB (by omega)).1.mp ((e4 k k1 k2).trans kb))) (fun z => decide_eq_false (fun y => e5 (Or.inl c) z (((tB_k hB z).1.mpr y).trans kb.symm)))
  · rw [if_neg c]
    refine run_0 (fun z => decide_eq_false (fun y => c ?_)) hb
    unfold kdP; rw [if_pos z]; exact (tB_k hB z).1.mpr y
theorem dg_e (hB : tB T n) (hb : b ≤ n) : runN (fun k => decide ((48 : Int32) ≤ T k ∧ T k ≤ 57)) n b = if kdP T n b = 48 then enP T n b else b := by
  obtain ⟨e1, e2, e3, e4, e5, -⟩ := en_p (T := T) hb
  by_cases c : kdP T n b = 48
  · rw [if_pos c]
    have kb : kdN (T b) = 48 := by unfold kdP at c; rw [if_pos (kd_lt (Or.inr (by unfold kdP; exact c)))] at c; exact c
    refine run_u e1 e2 (fun k k1 k2 => decide_eq_true ((tB_k hB (by omega)).2.1.mp ((e4 k k1 k2).trans kb))) (fun z => decide_eq_false (fun y => e5 (Or.inr c) z (((tB_k hB z).2.1.mpr y).trans kb.symm)))
  · rw [if_neg c]
    refine run_0 (fun z => decide_eq_false (fun y => c ?_)) hb
    unfold kdP; rw [if_pos z]; exact (tB_k hB z).2.1.mpr y
theorem lt_b (hb : b ≤ n) : b ≤ ltP T n b ∧ ltP T n b ≤ n := by
  have := en_p (T := T) hb
  unfold ltP
  split <;> omega
theorem rm_let (hr : rh ρ t0 u0) (hB : tB T n) (h : mS μ T n q) : ∃ ν, f_X12_letters (μ, ρ) 105 = some ν ∧ kM μ ν ∧ mS ν T n (ltP T n (bgP T n q)) ∧ ν 105 9 = Int32.ofNat (bgP T n q) := by
  obtain ⟨ν, l1, l2, l3, l4⟩ := rm_bl hr h
  obtain ⟨κ, k1, k2, k3, k4⟩ := rm_run (body := f_X12_letters_b4 (ν, ρ) 105) hr (lo := 97) (hi := 122) (fun x => rfl) l3
  rw [lt_e hB l3.2.2.1] at k2
  unfold f_X12_letters
  rw [l1, bnd]
  simp only
  rw [k1, bnd]
  have k : kM ν κ := ⟨k3, fun j h1 h2 => k4 j h1⟩
  exact ⟨κ, rfl, kM_tr l2 k, mS_k l3 k k2 (lt_b l3.2.2.1).2, by rw [k4 9 (by decide)]; exact l4⟩
end TL
