section TK
variable {σ μ : sg} {ρ : rg} {R n b : Nat} {T : Nat → Int32}
/-! tokens: how both readers see the text -/
theorem run_0 {q : Nat → Bool} {n p : Nat} (h : p < n → q p = false) (hp : p ≤ n) : runN q n p = p := by
  obtain ⟨h1, h2, h3, h4⟩ := run_p (q := q) hp
  apply Nat.le_antisymm _ h1
  apply Nat.le_of_not_lt
  intro z
  have a := h3 p (Nat.le_refl _) z
  rw [h (by omega)] at a
  cases a
theorem bg_p {p : Nat} (hp : p ≤ n) : p ≤ bgP T n p ∧ bgP T n p ≤ n ∧ (bgP T n p < n → T (bgP T n p) ≠ 32) := by
  obtain ⟨h1, h2, h3, h4⟩ := run_p (q := fun k => decide (T k = 32)) hp
  exact ⟨h1, h2, fun h => of_decide_eq_false (h4 h)⟩
theorem bg_0 (hb : b ≤ n) (h : b < n → T b ≠ 32) : bgP T n b = b := run_0 (fun z => decide_eq_false (h z)) hb
theorem bg_2 {p : Nat} (hp : p ≤ n) : bgP T n (bgP T n p) = bgP T n p := bg_0 (bg_p hp).2.1 (bg_p hp).2.2
theorem en_p (hb : b ≤ n) : b ≤ enP T n b ∧ enP T n b ≤ n ∧ (b < n → b < enP T n b) ∧ (∀ k, b ≤ k → k < enP T n b → kdN (T k) = kdN (T b)) ∧ ((kdP T n b = 97 ∨ kdP T n b = 48) → enP T n b < n → kdN (T (enP T n b)) ≠ kdN (T b)) ∧ (kdP T n b ≠ 97 → kdP T n b ≠ 48 → b < n → enP T n b = b + 1) := by
  unfold enP kdP
  by_cases c : b < n
  · simp only [if_pos c]
    obtain ⟨h1, h2, h3, h4⟩ := run_p (q := fun k => decide (kdN (T k) = kdN (T b))) (show b + 1 ≤ n by omega)
    by_cases d : kdN (T b) = 97 ∨ kdN (T b) = 48
    · simp only [if_pos d]
      refine ⟨by omega, h2, fun _ => by omega, fun k g1 g2 => ?_, fun _ g => of_decide_eq_false (h4 g), fun g1 g2 => absurd d (fun z => z.elim g1 g2)⟩
      by_cases e : k = b
      · rw [e]
      · exact of_decide_eq_true (h3 k (by omega) g2)
    · simp only [if_neg d]
      refine ⟨by omega, by omega, fun _ => by omega, fun k g1 g2 => ?_, fun g => absurd g d, fun _ _ _ => by first | rfl | trivial⟩
      rw [show k = b by omega]
  · simp only [if_neg c]
    exact ⟨Nat.le_refl _, hb, fun z => absurd z c, fun k g1 g2 => by omega, fun g => absurd g (by decide), fun _ _ z => absurd z c⟩
def nx (T : Nat → Int32) (n b : Nat) : Nat := bgP T n (enP T n b)
def chS (s k : Nat) : Int32 := (am_byts.getD s []).getD k 0
def isT (T : Nat → Int32) (n b s : Nat) : Bool := decide (enP T n b - b = am_lens.getD s 0) && allN (fun k => decide (T (b + k) = chS s k)) (am_lens.getD s 0)
def cR (σ : sg) (ρ : rg) (R : Nat) (T : Nat → Int32) (n b : Nat) : Prop := am_rd ρ R 0 2 = some 1 ∧ (R = 77 ∨ R = 80) ∧ n ≤ 400 ∧ b ≤ n ∧ (b < n → T b ≠ 32) ∧ σ R 1 = Int32.ofNat n ∧ σ R 2 = Int32.ofNat b ∧ σ R 3 = Int32.ofNat (enP T n b) ∧ σ R 4 = kdP T n b ∧ (∀ k, k < n → σ 1 k = T k)
def kO (R : Nat) (σ τ : sg) : Prop := ∀ o, o ≠ R → τ o = σ o
theorem c_stp (h : cR σ ρ R T n b) : ∃ τ, f_X4_step (σ, ρ) R = some τ ∧ cR τ ρ R T n (nx T n b) ∧ kO R σ τ ∧ τ R 5 = σ R 5 := by
  obtain ⟨h1, h2, h3, h4, h5, h6, h7, h8, h9, h10⟩ := h
  obtain ⟨e1, e2, -⟩ := en_p (T := T) h4
  obtain ⟨τ, a1, a2, a3, a4, a5⟩ := c_rstep h1 (by omega) h3 e2 h6 h8 h10
  obtain ⟨g1, g2, g3⟩ := bg_p (T := T) e2
  exact ⟨τ, a1, ⟨h1, h2, h3, g2, g3, by rw [a2 R 1 (by omega)]; exact h6, a3, a4, a5, fun k hk => by rw [a2 1 k (by omega)]; exact h10 k hk⟩, fun o ho => funext (fun j => a2 o j (fun z => ho z.1)), a2 R 5 (by omega)⟩
theorem cR_k {τ : sg} (h : cR σ ρ R T n b) (g : ∀ j, j < 5 → τ R j = σ R j) (g1 : ∀ k, τ 1 k = σ 1 k) : cR τ ρ R T n b := by
  obtain ⟨h1, h2, h3, h4, h5, h6, h7, h8, h9, h10⟩ := h
  exact ⟨h1, h2, h3, h4, h5, by rw [g 1 (by decide)]; exact h6, by rw [g 2 (by decide)]; exact h7, by rw [g 3 (by decide)]; exact h8, by rw [g 4 (by decide)]; exact h9, fun k hk => by rw [g1]; exact h10 k hk⟩
theorem s_len {s : Nat} (hs : s < 22) : f_J0_length_8abf5 (1000 + s) = some (Int32.ofNat (am_lens.getD s 0)) := by
  unfold f_J0_length_8abf5
  rw [if_pos ⟨by omega, by show 1000 + s < 1000 + 22; omega⟩, show 1000 + s - 1000 = s by omega]
theorem s_ch {s k : Nat} (hs : s < 22) (hk : k < am_lens.getD s 0) (hk2 : k < 2147483648) : f_J0_charAt_5068e (1000 + s) (Int32.ofNat k) = some (chS s k) := by
  unfold f_J0_charAt_5068e chS
  rw [show 1000 + s - 1000 = s by omega, on_cl hk2, if_pos ⟨by omega, by show 1000 + s < 1000 + 22; omega, fun z => z.elim (on_neg hk2) (fun y => by omega)⟩]
theorem s_lt {s : Nat} (hs : s < 22) : 1 ≤ am_lens.getD s 0 ∧ am_lens.getD s 0 ≤ 6 := by
  have h := List.all_eq_true.mp (show (List.range 22).all (fun s => decide (1 ≤ am_lens.getD s 0 ∧ am_lens.getD s 0 ≤ 6)) = true by decide +kernel) s (List.mem_range.mpr hs)
  exact of_decide_eq_true h
theorem c_isAt (h : cR σ ρ R T n b) {s : Nat} (hs : s < 22) : f_X4_isAt (σ, ρ) R (1000 + s) = some (if σ R 5 = -1 then bi (isT T n b s) else 0) := by
  obtain ⟨h1, h2, h3, h4, h5, h6, h7, h8, h9, h10⟩ := h
  obtain ⟨e1, e2, e3, -⟩ := en_p (T := T) h4
  unfold f_X4_isAt
  simp only [h7, h8]
  by_cases q : σ R 5 = -1
  · rw [if_pos q, if_pos q, s_len hs, bnd, on_sub e1]
    have hl := s_lt hs
    by_cases c : enP T n b - b = am_lens.getD s 0
    · rw [if_pos (by rw [c])]
      obtain ⟨d, l1, l2⟩ := lp_rule (body := f_X4_isAt_b31 (σ, ρ) R (1000 + s)) (am_lens.getD s 0) (fun k x => x = Int32.ofNat (b + k) ∧ ∀ i, i < k → T (b + i) = chS s i) (fun d => d = Sum.inr (bi (isT T n b s))) (x := Int32.ofNat b) ⟨rfl, fun i hi => by omega⟩ (fun k x hk hx => by
        obtain ⟨rfl, x2⟩ := hx
        unfold f_X4_isAt_b31
        simp only [h7, h8, h6]
        by_cases e : k < am_lens.getD s 0
        · rw [if_pos (lt_y (by omega) (by omega)), if_pos (lt_y (by omega) (by omega)), h1, bnd, ld_on (by rw [ln_1]; omega) (by omega), bnd, on_sub (by omega), show b + k - b = k by omega, s_ch hs e (by omega), bnd, h10 _ (by omega)]
          by_cases f : T (b + k) = chS s k
          · left
            rw [if_pos f, on_s]
            exact ⟨_, rfl, e, rfl, fun i hi => if z : i = k then by rw [z]; exact f else x2 i (by omega)⟩
          · right
            rw [if_neg f]
            refine ⟨_, rfl, ?_⟩
            have : isT T n b s = false := by
              unfold isT
              rw [Bool.and_eq_false_iff]
              right
              cases z : allN (fun k => decide (T (b + k) = chS s k)) (am_lens.getD s 0)
              · rfl
              · exact absurd (of_decide_eq_true (allN_iff.mp z k e)) f
            rw [this]; rfl
        · right
          rw [if_neg (fun z => by have := (on_lt (by omega) (by omega)).mp z; omega)]
          refine ⟨_, rfl, ?_⟩
          have : isT T n b s = true := by
            unfold isT
            rw [Bool.and_eq_true]
            exact ⟨decide_eq_true c, allN_iff.mpr (fun i hi => decide_eq_true (x2 i (by omega)))⟩
          rw [this]; rfl) (by omega)
      rw [l1, bnd, l2]
    · rw [if_neg (fun z => c ((on_inj (by omega) (by omega)).mp z))]
      have : isT T n b s = false := by unfold isT; rw [decide_eq_false c]; rfl
      rw [this]; rfl
  · rw [if_neg q, if_neg q]
theorem c_took1 (h : cR σ ρ R T n b) {s : Nat} (hs : s < 22) (hok : σ R 5 = -1) (ht : isT T n b s = true) : ∃ τ, f_X4_took (σ, ρ) R (1000 + s) = some (1, τ) ∧ cR τ ρ R T n (nx T n b) ∧ kO R σ τ ∧ τ R 5 = -1 := by
  obtain ⟨τ, a1, a2, a3, a4⟩ := c_stp h
  unfold f_X4_took
  rw [c_isAt h hs, if_pos hok, ht, bnd, if_neg (by decide), a1, bnd]
  exact ⟨τ, rfl, a2, a3, a4.trans hok⟩
theorem c_took0 (h : cR σ ρ R T n b) {s : Nat} (hs : s < 22) (ht : ¬ (σ R 5 = -1 ∧ isT T n b s = true)) : f_X4_took (σ, ρ) R (1000 + s) = some (0, σ) := by
  unfold f_X4_took
  rw [c_isAt h hs]
  by_cases q : σ R 5 = -1
  · have : isT T n b s = false := by cases z : isT T n b s; rfl; exact absurd ⟨q, z⟩ ht
    rw [if_pos q, this, bnd, if_pos (show bi false = 0 from rfl)]
  · rw [if_neg q, bnd, if_pos rfl]
theorem c_ref1 (h : cR σ ρ R T n b) (hok : σ R 5 = -1) : ∃ τ, f_X4_refuse (σ, ρ) R = some τ ∧ cR τ ρ R T n b ∧ kO R σ τ ∧ τ R 5 = Int32.ofNat b := by
  refine ⟨am_u2 σ R 5 (Int32.ofNat b), ?_, cR_k h (fun j hj => u2_nj (by omega)) (fun k => u2_ne (by have := h.2.1; omega)), fun o ho => u2_row ho, u2_eq⟩
  unfold f_X4_refuse
  simp only
  rw [if_pos hok, h.2.2.2.2.2.2.1]
theorem c_ref0 (hok : σ R 5 ≠ -1) : f_X4_refuse (σ, ρ) R = some σ := by
  unfold f_X4_refuse
  simp only
  rw [if_neg hok]
/-! numbers -/
def dgV (T : Nat → Int32) (b : Nat) : Nat → Nat
  | 0 => 0
  | k + 1 => dgV T b k * 10 + ((T (b + k)).toNatClampNeg - 48)
def tB (T : Nat → Int32) (n : Nat) : Prop := ∀ k, k < n → (T k).toInt8.toInt32 = T k
theorem tB_all : (List.range 256).all (fun i => let x := (Int8.ofNat i).toInt32; decide (kdN x = 97 ↔ 97 ≤ x ∧ x ≤ 122) && decide (kdN x = 48 ↔ 48 ≤ x ∧ x ≤ 57) && decide (x.toNatClampNeg < 128)) = true := by decide +kernel
theorem i8_ex (x : Int8) : ∃ i, i < 256 ∧ x = Int8.ofNat i := ⟨x.toUInt8.toNat, x.toUInt8.toNat_lt, by cases x; rename_i y; show _ = Int8.ofNat y.toNat; unfold Int8.ofNat; simp⟩
theorem tB_k (h : tB T n) {k : Nat} (hk : k < n) : (kdN (T k) = 97 ↔ 97 ≤ T k ∧ T k ≤ 122) ∧ (kdN (T k) = 48 ↔ 48 ≤ T k ∧ T k ≤ 57) ∧ (T k).toNatClampNeg < 128 := by
  obtain ⟨i, hi, e⟩ := i8_ex (T k).toInt8
  have h1 := List.all_eq_true.mp tB_all i (List.mem_range.mpr hi)
  simp only [Bool.and_eq_true, decide_eq_true_eq, ← e, h k hk] at h1
  exact ⟨h1.1.1, h1.1.2, h1.2⟩
theorem dig_n {x : Int32} (h1 : 48 ≤ x) (h2 : x ≤ 57) : ∃ d, d < 10 ∧ x = Int32.ofNat (48 + d) := by
  have g : ¬ x < 0 := fun z => by
    rw [Int32.lt_iff_toInt_lt] at z; rw [Int32.le_iff_toInt_le] at h1
    have a1 : (48 : Int32).toInt = 48 := by decide
    have a2 : (0 : Int32).toInt = 0 := by decide
    omega
  obtain ⟨k, hk, rfl⟩ := i_of g
  have a := (on_le (a := 48) (by decide) hk).mp h1
  have c := (on_le (b := 57) hk (by decide)).mp h2
  exact ⟨k - 48, by omega, by rw [show 48 + (k - 48) = k by omega]⟩
theorem dgV_s {k d : Nat} (hT : T (b + k) = Int32.ofNat (48 + d)) (hd : d < 10) : dgV T b (k + 1) = dgV T b k * 10 + d := by
  show dgV T b k * 10 + ((T (b + k)).toNatClampNeg - 48) = _
  rw [hT, on_cl (by omega)]; omega
def numV (T : Nat → Int32) (n b : Nat) : Option Nat := if kdP T n b = 48 ∧ enP T n b - b ≤ 3 then some (dgV T b (enP T n b - b)) else none
def numR (T : Nat → Int32) (n b lo H : Nat) : Option Nat := (numV T n b).bind (fun v => if lo ≤ v ∧ v < H then some v else none)
theorem dig_b (hB : tB T n) (hb : b ≤ n) (hk : kdP T n b = 48) {k : Nat} (h1 : b ≤ k) (h2 : k < enP T n b) : ∃ d, d < 10 ∧ T k = Int32.ofNat (48 + d) := by
  obtain ⟨e1, e2, e3, e4, -⟩ := en_p (T := T) hb
  have c : b < n := by apply Classical.byContradiction; intro c; unfold kdP at hk; rw [if_neg c] at hk; exact absurd hk (by decide)
  have k0 : kdN (T b) = 48 := by unfold kdP at hk; rw [if_pos c] at hk; exact hk
  have := ((tB_k hB (show k < n by omega)).2.1).mp ((e4 k h1 h2).trans k0)
  exact dig_n this.1 this.2
theorem c_nloop (h : cR σ ρ R T n b) (hB : tB T n) (lo hi : Int32) : am_loop (f_X4_number_b34 (σ, ρ) R lo hi) am_fuel ((if kdP T n b = 48 ∧ enP T n b - b ≤ 3 then 0 else -1), Int32.ofNat b) = some (match numV T n b with | some v => Int32.ofNat v | none => -1) := by
  obtain ⟨h1, h2, h3, h4, h5, h6, h7, h8, h9, h10⟩ := h
  obtain ⟨e1, e2, e3, -⟩ := en_p (T := T) h4
  unfold numV
  by_cases c : kdP T n b = 48 ∧ enP T n b - b ≤ 3
  · simp only [if_pos c]
    obtain ⟨d, l1, l2⟩ := lp_rule (body := f_X4_number_b34 (σ, ρ) R lo hi) (enP T n b - b) (fun k x => x = (Int32.ofNat (dgV T b k), Int32.ofNat (b + k)) ∧ dgV T b k < 10 ^ k) (fun d => d = Int32.ofNat (dgV T b (enP T n b - b))) (x := ((0 : Int32), Int32.ofNat b)) ⟨rfl, Nat.zero_lt_one⟩ (fun k x hk hx => by
      obtain ⟨rfl, x2⟩ := hx
      unfold f_X4_number_b34
      simp only [h8, h6]
      by_cases e : k < enP T n b - b
      · left
        obtain ⟨d, d1, d2⟩ := dig_b hB h4 c.1 (show b ≤ b + k by omega) (by omega)
        have p3 : 10 ^ k ≤ 10 ^ 2 := Nat.pow_le_pow_right (by decide) (by omega)
        have ds := dgV_s d2 d1
        rw [if_pos (lt_y (by omega) (by omega)), if_pos (lt_y (by omega) (by omega)), if_neg (on_m1 (by omega)), h1, bnd, ld_on (by rw [ln_1]; omega) (by omega), bnd, h10 _ (by omega), d2, show (10 : Int32) = Int32.ofNat 10 from rfl, on_mul, on_add, show (48 : Int32) = Int32.ofNat 48 from rfl, on_sub (by omega), on_s, show dgV T b k * 10 + (48 + d) - 48 = dgV T b (k + 1) by omega]
        exact ⟨_, rfl, e, rfl, by rw [Nat.pow_succ]; omega⟩
      · right
        have : k = enP T n b - b := by omega
        rw [if_neg (fun z => by have := (on_lt (by omega) (by omega)).mp z; omega), this]
        exact ⟨_, rfl, rfl⟩) (by omega)
    rw [l1, l2]
  · simp only [if_neg c]
    refine lp_for 0 (fun _ => ((-1 : Int32), Int32.ofNat b)) rfl (fun j hj => by omega) ?_ (by decide)
    unfold f_X4_number_b34
    simp only [if_true]
    by_cases z1 : Int32.ofNat b < σ R 3
    · rw [if_pos z1]
      by_cases z2 : Int32.ofNat b < σ R 1
      · rw [if_pos z2]
      · rw [if_neg z2]
    · rw [if_neg z1]
theorem numV_lt (hB : tB T n) (hb : b ≤ n) {v : Nat} (h : numV T n b = some v) : v < 1000 := by
  unfold numV at h
  by_cases c : kdP T n b = 48 ∧ enP T n b - b ≤ 3
  · rw [if_pos c] at h
    have key : ∀ k, k ≤ enP T n b - b → dgV T b k < 10 ^ k := fun k => by
      induction k with
      | zero => intro _; exact Nat.zero_lt_one
      | succ k ih =>
        intro hk
        obtain ⟨d, d1, d2⟩ := dig_b hB hb c.1 (show b ≤ b + k by omega) (by omega)
        rw [dgV_s d2 d1, Nat.pow_succ]
        have := ih (by omega)
        omega
    have := key _ (Nat.le_refl _)
    have p3 : 10 ^ (enP T n b - b) ≤ 10 ^ 3 := Nat.pow_le_pow_right (by decide) c.2
    have : 10 ^ 3 = 1000 := by decide
    injection h with h
    omega
  · rw [if_neg c] at h; cases h
theorem hi_n {H v : Nat} (hH : H < 2147483648) (hv : v < 2147483648) : (Int32.ofNat H - 1 < Int32.ofNat v) ↔ ¬ v < H := by
  by_cases q : H = 0
  · rw [q]
    have : (Int32.ofNat 0 - 1) = -1 := by decide
    rw [this, Int32.lt_iff_toInt_lt, on_int hv]
    have : (-1 : Int32).toInt = -1 := by decide
    rw [this]
    omega
  · rw [show (1 : Int32) = Int32.ofNat 1 from rfl, on_sub (by omega), on_lt (by omega) hv]; omega
theorem c_num1 (h : cR σ ρ R T n b) (hB : tB T n) (hok : σ R 5 = -1) {lo H : Nat} (hlo : lo < 1000) (hH : H < 2000) : (∃ v τ, numR T n b lo H = some v ∧ v < 1000 ∧ lo ≤ v ∧ v < H ∧ f_X4_number (σ, ρ) R (Int32.ofNat lo) (Int32.ofNat H - 1) = some (Int32.ofNat v, τ) ∧ cR τ ρ R T n (nx T n b) ∧ kO R σ τ ∧ τ R 5 = -1) ∨ (numR T n b lo H = none ∧ ∃ τ, f_X4_number (σ, ρ) R (Int32.ofNat lo) (Int32.ofNat H - 1) = some (-1, τ) ∧ cR τ ρ R T n b ∧ kO R σ τ ∧ τ R 5 = Int32.ofNat b) := by
  have hl := c_nloop h hB (Int32.ofNat lo) (Int32.ofNat H - 1)
  have h0 := h
  obtain ⟨h1, h2, h3, h4, h5, h6, h7, h8, h9, h10⟩ := h
  obtain ⟨e1, e2, e3, -⟩ := en_p (T := T) h4
  have hif : (if kdP T n b = 48 then (if 3 < Int32.ofNat (enP T n b - b) then some ((-1) : Int32) else some (0 : Int32)) else some ((-1) : Int32)) = some (if kdP T n b = 48 ∧ enP T n b - b ≤ 3 then 0 else -1) := by
    by_cases a : kdP T n b = 48
    · rw [if_pos a]
      by_cases c : enP T n b - b ≤ 3
      · rw [if_neg (show ¬ (3 : Int32) < Int32.ofNat (enP T n b - b) from fun z => by have := (on_lt (a := 3) (by decide) (by omega)).mp z; omega), if_pos ⟨a, c⟩]
      · rw [if_pos (show (3 : Int32) < Int32.ofNat (enP T n b - b) from (on_lt (a := 3) (by decide) (by omega)).mpr (by omega)), if_neg (fun z => c z.2)]
    · rw [if_neg a, if_neg (fun z => a z.1)]
  unfold f_X4_number
  simp only [h7, h8, h9, on_sub e1, hif, bnd, hl, if_pos hok]
  cases hv : numV T n b with
  | none =>
    right
    simp only
    obtain ⟨τ, r1, r2, r3, r4⟩ := c_ref1 h0 hok
    rw [if_pos (show (-1 : Int32) < Int32.ofNat lo from by
      rw [Int32.lt_iff_toInt_lt, on_int (by omega)]
      have : (-1 : Int32).toInt = -1 := by decide
      rw [this]; omega), r1, bnd]
    exact ⟨by unfold numR; rw [hv]; rfl, τ, rfl, r2, r3, r4⟩
  | some v =>
    simp only
    have vl := numV_lt hB h4 hv
    by_cases a : v < lo
    · right
      obtain ⟨τ, r1, r2, r3, r4⟩ := c_ref1 h0 hok
      rw [if_pos (lt_y a (by omega)), r1, bnd]
      exact ⟨by unfold numR; rw [hv]; show (if _ then _ else _) = _; rw [if_neg (fun z => by omega)], τ, rfl, r2, r3, r4⟩
    · rw [if_neg (fun z => a ((on_lt (by omega) (by omega)).mp z))]
      by_cases c : v < H
      · left
        obtain ⟨τ, r1, r2, r3, r4⟩ := c_stp h0
        rw [if_neg (fun z => (hi_n (by omega) (by omega)).mp z c), r1, bnd]
        exact ⟨v, τ, by unfold numR; rw [hv]; show (if _ then _ else _) = _; rw [if_pos ⟨by omega, c⟩], vl, by omega, c, rfl, r2, r3, r4.trans hok⟩
      · right
        obtain ⟨τ, r1, r2, r3, r4⟩ := c_ref1 h0 hok
        rw [if_pos ((hi_n (by omega) (by omega)).mpr c), r1, bnd]
        exact ⟨by unfold numR; rw [hv]; show (if _ then _ else _) = _; rw [if_neg (fun z => c z.2)], τ, rfl, r2, r3, r4⟩
theorem c_num0 (h : cR σ ρ R T n b) (hB : tB T n) (hok : σ R 5 ≠ -1) (lo hi : Int32) : f_X4_number (σ, ρ) R lo hi = some (-1, σ) := by
  have hl := c_nloop h hB lo hi
  obtain ⟨h1, h2, h3, h4, h5, h6, h7, h8, h9, h10⟩ := h
  obtain ⟨e1, e2, e3, -⟩ := en_p (T := T) h4
  have hif : (if kdP T n b = 48 then (if 3 < Int32.ofNat (enP T n b - b) then some ((-1) : Int32) else some (0 : Int32)) else some ((-1) : Int32)) = some (if kdP T n b = 48 ∧ enP T n b - b ≤ 3 then 0 else -1) := by
    by_cases a : kdP T n b = 48
    · rw [if_pos a]
      by_cases c : enP T n b - b ≤ 3
      · rw [if_neg (show ¬ (3 : Int32) < Int32.ofNat (enP T n b - b) from fun z => by have := (on_lt (a := 3) (by decide) (by omega)).mp z; omega), if_pos ⟨a, c⟩]
      · rw [if_pos (show (3 : Int32) < Int32.ofNat (enP T n b - b) from (on_lt (a := 3) (by decide) (by omega)).mpr (by omega)), if_neg (fun z => c z.2)]
    · rw [if_neg a, if_neg (fun z => a z.1)]
  unfold f_X4_number
  simp only [h7, h8, h9, on_sub e1, hif, bnd, hl, if_neg hok, c_ref0 hok]
end TK
