/-! words: strokes, minutes, cutting; all words are below 1024, so the machine's own functions are run -/
def wlen (n : Nat) : Bool := decide (f_X12_lengthOf (Int32.ofNat n) = some (Int32.ofNat n.log2)) && decide (f_X11_strokesOf (Int32.ofNat n) = some (Int32.ofNat n.log2))
theorem wlen_all : (List.range 1024).all wlen = true := by decide +kernel
theorem w_len {n : Nat} (h : n < 1024) : f_X12_lengthOf (Int32.ofNat n) = some (Int32.ofNat n.log2) ∧ f_X11_strokesOf (Int32.ofNat n) = some (Int32.ofNat n.log2) := by
  have := List.all_eq_true.mp wlen_all n (List.mem_range.mpr h)
  unfold wlen at this
  simpa using this
theorem w_len0 : f_X11_strokesOf (-1) = some 0 := by decide +kernel
/-- the minutes of a word -/
def pop : Nat → Nat → Nat
  | 0, _ => 0
  | f + 1, n => n % 2 + pop f (n / 2)
def mnN (n : Nat) : Nat := if n < 2 then 0 else n.log2 + pop 10 n - 1
def wmin (n : Nat) : Bool := decide (f_X12_costOf (Int32.ofNat n) = some (Int32.ofNat (mnN n))) && decide (f_X11_minutesOf (Int32.ofNat n) = some (Int32.ofNat (mnN n))) && decide (mnN n ≤ 18) && decide (f_J6_bitCount_0f7a4 (Int32.ofNat n) = some (Int32.ofNat (pop 10 n)))
theorem wmin_all : (List.range 1024).all wmin = true := by decide +kernel
theorem w_min {n : Nat} (h : n < 1024) : f_X12_costOf (Int32.ofNat n) = some (Int32.ofNat (mnN n)) ∧ f_X11_minutesOf (Int32.ofNat n) = some (Int32.ofNat (mnN n)) ∧ mnN n ≤ 18 ∧ f_J6_bitCount_0f7a4 (Int32.ofNat n) = some (Int32.ofNat (pop 10 n)) := by
  have := List.all_eq_true.mp wmin_all n (List.mem_range.mpr h)
  unfold wmin at this
  simp only [Bool.and_eq_true, decide_eq_true_eq] at this
  exact ⟨this.1.1.1, this.1.1.2, this.1.2, this.2⟩
theorem w_min0 : f_X11_minutesOf (-1) = some 0 := by decide +kernel
theorem w_log {n : Nat} (h : n < 1024) : n.log2 < 10 := by
  by_cases h0 : n = 0
  · subst h0; decide
  · exact (Nat.log2_lt h0).mpr h
/-- shifting right -/
def wshr (n : Nat) : Bool := (List.range 11).all (fun k => decide ((Int32.ofNat n) >>> ((Int32.ofNat k) &&& 31) = Int32.ofNat (n >>> k)))
theorem wshr_all : (List.range 1024).all wshr = true := by decide +kernel
theorem w_shr {n k : Nat} (h : n < 1024) (hk : k < 11) : (Int32.ofNat n) >>> ((Int32.ofNat k) &&& 31) = Int32.ofNat (n >>> k) := by
  have := List.all_eq_true.mp wshr_all n (List.mem_range.mpr h)
  unfold wshr at this
  simpa using List.all_eq_true.mp this k (List.mem_range.mpr hk)
/-- what k strokes leave of a word -/
def cu (n k : Nat) : Nat := n >>> (n.log2 - k)
theorem on_sub {a b : Nat} (h : b ≤ a) : Int32.ofNat a - Int32.ofNat b = Int32.ofNat (a - b) := by
  have h1 : Int32.ofNat a = Int32.ofNat (a - b) + Int32.ofNat b := by rw [on_add]; congr 1; omega
  rw [h1, Int32.add_sub_cancel]
theorem on_sub_neg {a b : Nat} (h : a ≤ b) (ha : a < 2147483648) (hb : b < 2147483648) : ¬ 0 < Int32.ofNat a - Int32.ofNat b := by
  have h1 : Int32.ofNat a - Int32.ofNat b = -(Int32.ofNat (b - a)) := by
    rw [← on_sub h, Int32.neg_sub]
  rw [h1, Int32.lt_iff_toInt_lt, Int32.toInt_neg, on_int (by omega)]
  have h0 : (0 : Int32).toInt = 0 := rfl
  rw [h0, Int.bmod_eq_of_le (by omega) (by omega)]
  omega
theorem w_cut {n k : Nat} (h : n < 1024) (hk : k < 2147483648) : f_X12_cut (Int32.ofNat n) (Int32.ofNat k) = some (Int32.ofNat (cu n k)) := by
  unfold f_X12_cut f_J9_max_7cf53
  have hl := w_log h
  rw [(w_len h).1]
  simp only [Option.bind_some]
  by_cases q : k ≤ n.log2
  · rw [on_sub q]
    by_cases z : n.log2 - k = 0
    · rw [z, if_neg (by decide)]
      simp only [Option.bind_some]
      rw [show (0 : Int32) = Int32.ofNat 0 from rfl, w_shr h (by decide), cu, z]
    · rw [if_pos (by rw [show (0 : Int32) = Int32.ofNat 0 from rfl, on_lt (by decide) (by omega)]; omega)]
      simp only [Option.bind_some]
      rw [w_shr h (by omega), cu]
  · rw [if_neg (on_sub_neg (by omega) (by omega) hk)]
    simp only [Option.bind_some]
    rw [show (0 : Int32) = Int32.ofNat 0 from rfl, w_shr h (by decide), cu, show n.log2 - k = 0 by omega]
theorem w_cutTo {n k : Nat} (h : n < 1024) (hk : k < 2147483648) : f_X11_cutTo (Int32.ofNat n) (Int32.ofNat k) = some (Int32.ofNat (cu n k)) := by
  unfold f_X11_cutTo
  have hl := w_log h
  rw [(w_len h).2]
  simp only [Option.bind_some]
  by_cases q : k < n.log2
  · rw [on_sub (by omega), if_pos (by rw [show (0 : Int32) = Int32.ofNat 0 from rfl, on_lt (by decide) (by omega)]; omega), w_shr h (by omega), cu]
  · rw [if_neg (on_sub_neg (by omega) (by omega) hk), cu, show n.log2 - k = 0 by omega]
    rfl
theorem cu_le {n k : Nat} : cu n k ≤ n := by unfold cu; rw [Nat.shiftRight_eq_div_pow]; exact Nat.div_le_self _ _
theorem cu_lt {n k : Nat} (h : n < 1024) : cu n k < 1024 := Nat.lt_of_le_of_lt cu_le h
/-- whether one is the other's begin -/
def bgn (a b : Nat) : Bool := decide (a.log2 ≤ b.log2) && decide (cu b a.log2 = a)
theorem w_bgn {a b : Nat} (ha : a < 1024) (hb : b < 1024) : f_X12_isBegin (Int32.ofNat a) (Int32.ofNat b) = some (if bgn a b then 1 else 0) := by
  unfold f_X12_isBegin
  have la := w_log ha
  have lb := w_log hb
  rw [(w_len ha).1, (w_len hb).1]
  simp only [Option.bind_some]
  rw [w_cut hb (by omega)]
  simp only [Option.bind_some]
  unfold bgn
  by_cases q : b.log2 < a.log2
  · rw [if_pos ((on_lt (by omega) (by omega)).mpr q), if_neg (by simp; omega)]
  · rw [if_neg (fun z => q ((on_lt (by omega) (by omega)).mp z))]
    have hc := cu_lt (k := a.log2) hb
    by_cases z : cu b a.log2 = a
    · rw [if_pos (by rw [z]), if_pos (by simp [z]; omega)]
    · rw [if_neg (fun y => z ((on_inj (by omega) (by omega)).mp y)), if_neg (by simp [z])]
theorem w_bgnC {a b : Nat} (ha : a < 1024) (hb : b < 1024) : f_X11_isOneBegin (Int32.ofNat a) (Int32.ofNat b) = some (if bgn a b || bgn b a then 1 else 0) := by
  unfold f_X11_isOneBegin f_J9_min_7cf53
  have la := w_log ha
  have lb := w_log hb
  rw [(w_len ha).2, (w_len hb).2]
  simp only [Option.bind_some]
  have aa : cu a a.log2 = a := by unfold cu; simp
  have bb : cu b b.log2 = b := by unfold cu; simp
  have ca := cu_lt (k := b.log2) ha
  have cb := cu_lt (k := a.log2) hb
  by_cases q : b.log2 < a.log2
  · rw [if_pos ((on_lt (by omega) (by omega)).mpr q)]
    simp only [Option.bind_some]
    rw [w_cutTo ha (by omega), w_cutTo hb (by omega), bb]
    simp only [Option.bind_some]
    have e1 : bgn a b = false := by unfold bgn; simp; omega
    by_cases z : cu a b.log2 = b
    · rw [if_pos (by rw [z]), e1, if_pos (by unfold bgn; simp [z]; omega)]
    · rw [if_neg (fun y => z ((on_inj (by omega) (by omega)).mp y)), e1, if_neg (by unfold bgn; simp [z])]
  · rw [if_neg (fun z => q ((on_lt (by omega) (by omega)).mp z))]
    simp only [Option.bind_some]
    rw [w_cutTo ha (by omega), w_cutTo hb (by omega), aa]
    simp only [Option.bind_some]
    by_cases z : cu b a.log2 = a
    · rw [if_pos (by rw [z]), if_pos (by unfold bgn; simp [z]; left; omega)]
    · rw [if_neg (fun y => z ((on_inj (by omega) (by omega)).mp y.symm))]
      have e1 : bgn a b = false := by unfold bgn; simp [z]
      have e2 : bgn b a = false := by
        unfold bgn
        by_cases y : b.log2 = a.log2
        · rw [← y, bb] at z
          have : cu a b.log2 = a := by rw [y]; exact aa
          rw [this]
          simp
          intro _ h
          exact z h.symm
        · simp; omega
      rw [e1, e2]; rfl
