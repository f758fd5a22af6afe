section SX
/-! who is first -/
def bsP (key : Nat → Int32) (S n h : Nat) : Prop := h < n ∧ S.testBit h = true ∧ ∀ x, x < n → S.testBit x = true → (x < h → key x < key h) ∧ (h < x → ¬ key h < key x)
def bsF (key : Nat → Int32) (S : Nat) (h : Nat) (b : Option Nat) : Option Nat := if S.testBit h = true ∧ (∀ x, b = some x → key x < key h) then some h else b
def bsI (key : Nat → Int32) (S n : Nat) (b : Option Nat) : Prop := match b with
  | none => ∀ x, x < n → S.testBit x = false
  | some h => bsP key S n h
theorem lt_t {a b c : Int32} (h : a < b) (g : ¬ c < b) : a < c := by
  rw [Int32.lt_iff_toInt_lt] at *; omega
theorem bs_step {key : Nat → Int32} {S n : Nat} {b : Option Nat} (h : bsI key S n b) : (S.testBit n = true → (b = none ∨ ∃ x, b = some x ∧ key x < key n) → bsI key S (n + 1) (some n)) ∧ ((S.testBit n = false ∨ ∃ x, b = some x ∧ ¬ key x < key n) → bsI key S (n + 1) b) := by
  constructor
  · intro hS hb
    refine ⟨by omega, hS, fun x hx hxS => ⟨fun hxn => ?_, fun hnx => by omega⟩⟩
    rcases hb with rfl | ⟨y, rfl, hy⟩
    · have := h x hxn; rw [hxS] at this; cases this
    · obtain ⟨h1, h2, h3⟩ := h
      by_cases z : x = y
      · subst z; exact hy
      · rcases Nat.lt_or_gt_of_ne z with q | q
        · have := (h3 x hxn hxS).1 q
          rw [Int32.lt_iff_toInt_lt] at *; omega
        · have := (h3 x hxn hxS).2 q
          rw [Int32.lt_iff_toInt_lt] at *; omega
  · intro hb
    match b, h with
    | none, h =>
      intro x hx
      by_cases z : x = n
      · subst z
        rcases hb with q | ⟨y, q, _⟩
        · exact q
        · cases q
      · exact h x (by omega)
    | some y, h =>
      obtain ⟨h1, h2, h3⟩ := h
      refine ⟨by omega, h2, fun x hx hxS => ?_⟩
      by_cases z : x = n
      · subst z
        rcases hb with q | ⟨y', q, hy'⟩
        · rw [q] at hxS; cases hxS
        · cases q
          exact ⟨fun _ => by omega, fun _ => hy'⟩
      · exact h3 x (by omega) hxS
theorem bs_uq {key : Nat → Int32} {S n m a b : Nat} (h : bsP key S n a) (g : bsP key S m b) (hS : ∀ x, S.testBit x = true → x < n ∧ x < m) : a = b := by
  rcases Nat.lt_trichotomy a b with q | q | q
  · have h1 := (h.2.2 b (hS b g.2.1).1 g.2.1).2 q
    have h2 := (g.2.2 a (hS a h.2.1).2 h.2.1).1 q
    exact absurd h2 h1
  · exact q
  · have h1 := (h.2.2 b (hS b g.2.1).1 g.2.1).1 q
    have h2 := (g.2.2 a (hS a h.2.1).2 h.2.1).2 q
    exact absurd h1 h2
/-! one minute -/
abbrev sxT : Type := Nat × (Nat → Nat) × Nat × Nat
def rmb (S h : Nat) : Nat := S ^^^ (2 ^ h &&& S)
theorem rmb_tb {S h i : Nat} : (rmb S h).testBit i = (S.testBit i && !decide (i = h)) := by
  unfold rmb
  rw [Nat.testBit_xor, Nat.testBit_and, Nat.testBit_two_pow]
  by_cases z : h = i
  · subst z; cases S.testBit h <;> simp
  · have : ¬ i = h := fun q => z q.symm
    cases S.testBit i <;> simp [z, this]
def unh (hm : Nat → Nat → Bool) (O : Nat → Nat) (mi h : Nat) : Bool := allN (fun o => !(hm h o && decide (mi < O o))) 8
def sxS (hm : Nat → Nat → Bool) (C : Nat → Nat) (mi h : Nat) (s : sxT) : sxT := if unh hm s.2.1 mi h = true then (rmb s.1 h, up1 s.2.1 h (mi + C h), s.2.2.1 + mi, if s.2.2.2 < mi + C h then mi + C h else s.2.2.2) else s
theorem unh_mono {hm : Nat → Nat → Bool} {C : Nat → Nat} {O : Nat → Nat} {mi h x : Nat} (hO : O x ≤ mi + C x) (h2 : unh hm (up1 O x (mi + C x)) mi h = true) : unh hm O mi h = true := by
  unfold unh at *
  rw [allN_iff] at *
  intro o ho
  have := h2 o ho
  by_cases z : o = x
  · subst z
    rw [up1_eq] at this
    cases hh : hm h o
    · rfl
    · rw [hh] at this
      simp at this ⊢
      omega
  · rw [up1_ne z] at this; exact this
def bsG (key : Nat → Int32) (S n : Nat) (b : Option Nat) : Option Nat := if S.testBit n = true then (match b with | none => some n | some x => if key x < key n then some n else some x) else b
def bsN (key : Nat → Int32) (S : Nat) : Nat → Option Nat
  | 0 => none
  | n + 1 => bsG key S n (bsN key S n)
theorem bsN_I {key : Nat → Int32} {S : Nat} : ∀ n, bsI key S n (bsN key S n)
  | 0 => fun x hx => by omega
  | n + 1 => by
    have hb := bsN_I (key := key) (S := S) n
    show bsI key S (n + 1) (bsG key S n (bsN key S n))
    unfold bsG
    cases e : S.testBit n with
    | false => rw [if_neg (by decide)]; exact (bs_step hb).2 (Or.inl e)
    | true =>
      rw [if_pos rfl]
      cases q : bsN key S n with
      | none => rw [q] at hb; exact (bs_step hb).1 e (Or.inl rfl)
      | some x =>
        rw [q] at hb
        by_cases y : key x < key n
        · simp only [y, if_true]; exact (bs_step hb).1 e (Or.inr ⟨x, rfl, y⟩)
        · simp only [y, if_false]; exact (bs_step hb).2 (Or.inr ⟨x, rfl, y⟩)
def prc (hm : Nat → Nat → Bool) (C : Nat → Nat) (key : Nat → Int32) (mi : Nat) : Nat → Nat → sxT → sxT
  | 0, _, s => s
  | k + 1, S, s => match bsN key S 8 with
    | none => s
    | some h => prc hm C key mi k (rmb S h) (sxS hm C mi h s)
theorem no_bits {S : Nat} (h : ∀ i, S.testBit i = false) : S = 0 := by
  apply Nat.eq_of_testBit_eq
  intro i
  rw [h i, Nat.zero_testBit]
theorem bs_none {key : Nat → Int32} {S : Nat} (hS : S < 256) (h : bsN key S 8 = none) : S = 0 := by
  have hb := bsN_I (key := key) (S := S) 8
  rw [h] at hb
  exact no_bits (fun i => by
    cases e : S.testBit i with
    | false => rfl
    | true => have := hb i (tb_lt (n := 8) hS e); rw [e] at this; cases this)
theorem bs_some {key : Nat → Int32} {S h : Nat} (hS : S < 256) (g : bsP key S 8 h) : bsN key S 8 = some h := by
  have hb := bsN_I (key := key) (S := S) 8
  cases e : bsN key S 8 with
  | none => have := bs_none hS e; subst this; have := g.2.1; rw [Nat.zero_testBit] at this; cases this
  | some x =>
    rw [e] at hb
    rw [bs_uq hb g (fun x hx => ⟨tb_lt (n := 8) hS hx, tb_lt (n := 8) hS hx⟩)]
theorem bs_0 {key : Nat → Int32} : bsN key 0 8 = none := by
  have hb := bsN_I (key := key) (S := 0) 8
  cases e : bsN key 0 8 with
  | none => rfl
  | some x => rw [e] at hb; have := hb.2.1; rw [Nat.zero_testBit] at this; cases this
theorem prc_0 {hm : Nat → Nat → Bool} {C : Nat → Nat} {key : Nat → Int32} {mi : Nat} {s : sxT} : ∀ k, prc hm C key mi k 0 s = s
  | 0 => rfl
  | k + 1 => by unfold prc; rw [bs_0]
theorem rmb_lt {S h : Nat} (hS : S < 256) : rmb S h < 256 := Nat.lt_of_le_of_lt (sbs_le (fun i hi => by rw [rmb_tb, Bool.and_eq_true] at hi; exact hi.1)) hS
theorem rmb_ct {S h : Nat} (h8 : h < 8) (hb : S.testBit h = true) : ct (rmb S h).testBit 8 < ct S.testBit 8 := ct_strict (x := h) hb (by rw [rmb_tb]; simp) h8 (fun k _ hk => by rw [rmb_tb, Bool.and_eq_true] at hk; exact hk.1)
theorem sxS_O {hm : Nat → Nat → Bool} {C : Nat → Nat} {mi h : Nat} {s : sxT} (hO : ∀ x, s.2.1 x ≤ mi + C x) : ∀ x, (sxS hm C mi h s).2.1 x ≤ mi + C x := fun x => by
  unfold sxS
  split
  · show up1 s.2.1 h (mi + C h) x ≤ _
    by_cases y : x = h
    · subst y; rw [up1_eq]; exact Nat.le_refl _
    · rw [up1_ne y]; exact hO x
  · exact hO x
/-- those that can't begin are passed over -/
theorem prc_sub {hm : Nat → Nat → Bool} {C : Nat → Nat} {key : Nat → Int32} {mi : Nat} : ∀ k S s R k', S < 256 → ct S.testBit 8 ≤ k → ct R.testBit 8 ≤ k' → sbs R S → (∀ x, s.2.1 x ≤ mi + C x) → (∀ x, S.testBit x = true → R.testBit x = false → unh hm s.2.1 mi x = false) → prc hm C key mi k S s = prc hm C key mi k' R s
  | 0, S, s, R, k', hS, hk, hk', hR, hO, hx => by
    have : S = 0 := no_bits (fun i => by
      cases e : S.testBit i with
      | false => rfl
      | true =>
        have := ct_up e (tb_lt (n := 8) hS e)
        omega)
    subst this
    have : R = 0 := by have := sbs_le hR; omega
    subst this
    rw [prc_0, prc_0]
  | k + 1, S, s, R, k', hS, hk, hk', hR, hO, hx => by
    have hRl : R < 256 := Nat.lt_of_le_of_lt (sbs_le hR) hS
    cases e : bsN key S 8 with
    | none =>
      have := bs_none hS e
      subst this
      have : R = 0 := by have := sbs_le hR; omega
      subst this
      rw [prc_0, prc_0]
    | some h =>
      have q : bsP key S 8 h := by have := bsN_I (key := key) (S := S) 8; rw [e] at this; exact this
      have hc := rmb_ct q.1 q.2.1
      have hL : prc hm C key mi (k + 1) S s = prc hm C key mi k (rmb S h) (sxS hm C mi h s) := by
        show (match bsN key S 8 with | none => s | some h => prc hm C key mi k (rmb S h) (sxS hm C mi h s)) = _
        rw [e]
      rw [hL]
      by_cases z : R.testBit h = true
      · have hcR := rmb_ct q.1 z
        obtain ⟨j, rfl⟩ : ∃ j, k' = j + 1 := ⟨k' - 1, by omega⟩
        have hRR : prc hm C key mi (j + 1) R s = prc hm C key mi j (rmb R h) (sxS hm C mi h s) := by
          show (match bsN key R 8 with | none => s | some h => prc hm C key mi j (rmb R h) (sxS hm C mi h s)) = _
          rw [bs_some hRl ⟨q.1, z, fun x h1 h2 => q.2.2 x h1 (hR x h2)⟩]
        rw [hRR]
        refine prc_sub k (rmb S h) _ (rmb R h) j (rmb_lt hS) (by omega) (by omega) (fun i hi => ?_) (sxS_O hO) (fun x h1 h2 => ?_)
        · rw [rmb_tb, Bool.and_eq_true] at hi ⊢; exact ⟨hR i hi.1, hi.2⟩
        · rw [rmb_tb, Bool.and_eq_true] at h1
          rw [rmb_tb] at h2
          have hRx : R.testBit x = false := by
            cases e : R.testBit x with
            | false => rfl
            | true => rw [e, h1.2] at h2; cases h2
          have h3 := hx x h1.1 hRx
          unfold sxS
          split
          · show unh hm (up1 s.2.1 h (mi + C h)) mi x = false
            rw [Bool.eq_false_iff]
            intro g
            rw [unh_mono (hO h) g] at h3
            cases h3
          · exact h3
      · have hRh : R.testBit h = false := by simpa using z
        have h3 := hx h q.2.1 hRh
        have hs : sxS hm C mi h s = s := by unfold sxS; rw [h3]; rfl
        rw [hs]
        refine prc_sub k (rmb S h) s R k' (rmb_lt hS) (by omega) hk' (fun i hi => ?_) hO (fun x h1 h2 => ?_)
        · rw [rmb_tb, Bool.and_eq_true]
          refine ⟨hR i hi, ?_⟩
          have : i ≠ h := fun e => by rw [e, hRh] at hi; cases hi
          simp [this]
        · rw [rmb_tb, Bool.and_eq_true] at h1
          exact hx x h1.1 h2
end SX
