/-! the reference's row of the world: what it says; the class's town beside it -/
def nH (w : Nat → Int32) : Nat := (w 0).toNatClampNeg
def nW (w : Nat → Int32) : Nat := (w 1).toNatClampNeg
def nR (w : Nat → Int32) : Nat := (w 4).toNatClampNeg
def wd (w : Nat → Int32) (h v : Nat) : Nat := (w (13 + 15 * h + v)).toNatClampNeg
def sab (x : Int32) : Int32 := if x < 0 then -x else x
def far (w : Nat → Int32) (i j : Nat) : Int32 := sab ((w (8 + 15 * j) + w 6) - w (8 + 15 * i)) + sab ((w (9 + 15 * j) + w 7) - w (9 + 15 * i))
def hr (w : Nat → Int32) (i j : Nat) : Bool := !decide (i = j) && decide (w (12 + 15 * i) = 0) && !decide (w (10 + 15 * j) < far w i j)
def clr (w : Nat → Int32) (i j : Nat) : Int32 := if hr w i j then (w (10 + 15 * j) - far w i j) / 3 + 1 else 0
def cl (w : Nat → Int32) (i j : Nat) : Nat := (clr w i j).toNatClampNeg
def zw (n : Nat) : Int32 := if n = 0 then -1 else Int32.ofNat n
/-- a row that is a world -/
def wv (w : Nat → Int32) : Prop :=
  (w 0 = Int32.ofNat (nH w) ∧ nH w ≤ 8) ∧ (w 1 = Int32.ofNat (nW w) ∧ nW w ≤ 10) ∧ (w 4 = Int32.ofNat (nR w) ∧ nR w ≤ 12) ∧
  (∀ h, h < nH w → ∀ v, v < 10 → w (13 + 15 * h + v) = Int32.ofNat (wd w h v) ∧ wd w h v < 512 ∧ wd w h v ≠ 1 ∧ (nW w ≤ v → wd w h v = 0)) ∧
  (∀ h, h < nH w → (∃ a, a < 16 ∧ w (8 + 15 * h) = Int32.ofNat a) ∧ (∃ a, a < 16 ∧ w (9 + 15 * h) = Int32.ofNat a) ∧ (∃ a, 1 ≤ a ∧ a < 31 ∧ w (10 + 15 * h) = Int32.ofNat a) ∧ (∃ a, a < 1000 ∧ w (11 + 15 * h) = Int32.ofNat a) ∧ (w (12 + 15 * h) = 0 ∨ w (12 + 15 * h) = 1)) ∧
  (∀ v, v < nW w → ∃ a, 1 ≤ a ∧ a < 100 ∧ w (128 + v) = Int32.ofNat a) ∧
  (∃ a, a < 19 ∧ w 6 = Int32.ofNat a - 9) ∧ (∃ a, a < 19 ∧ w 7 = Int32.ofNat a - 9) ∧
  (∀ r, r < nR w → (∃ a, a < 1000 ∧ w (138 + 4 * r) = Int32.ofNat a) ∧ (∃ a, a < nH w ∧ w (139 + 4 * r) = Int32.ofNat a) ∧ (∃ a, a < nW w ∧ w (140 + 4 * r) = Int32.ofNat a) ∧ (∃ a, 2 ≤ a ∧ a < 512 ∧ w (141 + 4 * r) = Int32.ofNat a)) ∧
  (∃ a, a < 11 ∧ w 2 = Int32.ofNat a)
theorem in_yes {n k : Nat} (hn : n < 2147483648) (hk : k < n) : f_X12_in (Int32.ofNat k) 0 (Int32.ofNat n - 1) = some 1 := by
  unfold f_X12_in
  rw [show (1 : Int32) = Int32.ofNat 1 from rfl, on_sub (by omega), if_neg (on_neg (by omega)), if_neg (fun q => by have := (on_lt (by omega) (by omega)).mp q; omega)]
theorem in_no {n : Nat} {p : Int32} (hn : n < 2147483648) (hp : ∀ k, k < n → p ≠ Int32.ofNat k) : f_X12_in p 0 (Int32.ofNat n - 1) = some 0 := by
  unfold f_X12_in
  by_cases q : p < 0
  · rw [if_pos q]
  · rw [if_neg q]
    obtain ⟨k, hk, rfl⟩ := i_of q
    have h1 : n ≤ k := Nat.le_of_not_lt (fun z => hp k z rfl)
    rw [if_pos]
    by_cases z : n = 0
    · subst z
      rw [show (Int32.ofNat 0 - 1 : Int32) = -1 from rfl, Int32.lt_iff_toInt_lt, on_int hk]
      show (-1 : Int) < _
      omega
    · rw [show (1 : Int32) = Int32.ofNat 1 from rfl, on_sub (by omega), on_lt (by omega) hk]
      omega
section MW
variable {σ : Nat → Nat → Int32} {ρ : Nat → Nat → Option Nat} {t u : Nat}
theorem m_w (hm : rh ρ t u) : am_rd ρ 105 1 1 = some 106 := rh_rd hm (by decide) (by decide) (by decide +kernel)
theorem ln_106 : am_ln 106 = 1860 := by decide
theorem m_at (hm : rh ρ t u) {k : Nat} (h : k < 1860) : (am_rd ρ 105 1 1).bind (fun q => am_ld σ q (Int32.ofNat k)) = some (σ 106 k) := by
  rw [m_w hm]; exact ld_on (by rw [ln_106]; exact h) (by omega)
theorem m_houses (hm : rh ρ t u) : f_X12_houses (σ, ρ) 105 = some (σ 106 0) := by
  unfold f_X12_houses
  simp only [m_w hm, Option.bind_some]
  rw [show (0 : Int32) = Int32.ofNat 0 from rfl, ld_on (by decide) (by decide)]; rfl
theorem m_wants (hm : rh ρ t u) : f_X12_wants (σ, ρ) 105 = some (σ 106 1) := by
  unfold f_X12_wants
  simp only [m_w hm, Option.bind_some]
  rw [show (1 : Int32) = Int32.ofNat 1 from rfl, ld_on (by decide) (by decide)]; rfl
theorem m_of (hm : rh ρ t u) {h k : Nat} (hh : h < 100) (hk : k < 300) (hs : 8 + 15 * h + k < 1860) : f_X12_of (σ, ρ) 105 (Int32.ofNat h) (Int32.ofNat k) = some (σ 106 (8 + 15 * h + k)) := by
  unfold f_X12_of
  simp only [m_w hm, Option.bind_some]
  rw [show (15 : Int32) = Int32.ofNat 15 from rfl, show (8 : Int32) = Int32.ofNat 8 from rfl, on_mul, on_add, on_add, ld_on (by rw [ln_106]; exact hs) (by omega)]; rfl
theorem m_of0 (hm : rh ρ t u) {h : Nat} (hh : h < 8) : f_X12_of (σ, ρ) 105 (Int32.ofNat h) 0 = some (σ 106 (8 + 15 * h)) := m_of hm (k := 0) (by omega) (by omega) (by omega)
theorem m_of1 (hm : rh ρ t u) {h : Nat} (hh : h < 8) : f_X12_of (σ, ρ) 105 (Int32.ofNat h) 1 = some (σ 106 (9 + 15 * h)) := by have := m_of (σ := σ) hm (h := h) (k := 1) (by omega) (by omega) (by omega); rw [show 8 + 15 * h + 1 = 9 + 15 * h by omega] at this; exact this
theorem m_of2 (hm : rh ρ t u) {h : Nat} (hh : h < 8) : f_X12_of (σ, ρ) 105 (Int32.ofNat h) 2 = some (σ 106 (10 + 15 * h)) := by have := m_of (σ := σ) hm (h := h) (k := 2) (by omega) (by omega) (by omega); rw [show 8 + 15 * h + 2 = 10 + 15 * h by omega] at this; exact this
theorem m_of3 (hm : rh ρ t u) {h : Nat} (hh : h < 8) : f_X12_of (σ, ρ) 105 (Int32.ofNat h) 3 = some (σ 106 (11 + 15 * h)) := by have := m_of (σ := σ) hm (h := h) (k := 3) (by omega) (by omega) (by omega); rw [show 8 + 15 * h + 3 = 11 + 15 * h by omega] at this; exact this
theorem m_of4 (hm : rh ρ t u) {h : Nat} (hh : h < 8) : f_X12_of (σ, ρ) 105 (Int32.ofNat h) 4 = some (σ 106 (12 + 15 * h)) := by have := m_of (σ := σ) hm (h := h) (k := 4) (by omega) (by omega) (by omega); rw [show 8 + 15 * h + 4 = 12 + 15 * h by omega] at this; exact this
theorem m_wordOf (hm : rh ρ t u) {h v : Nat} (hh : h < 8) (hv : v < 10) : f_X12_wordOf (σ, ρ) 105 (Int32.ofNat h) (Int32.ofNat v) = some (σ 106 (13 + 15 * h + v)) := by
  unfold f_X12_wordOf
  rw [show (5 : Int32) = Int32.ofNat 5 from rfl, on_add, m_of hm (by omega) (by omega) (by omega), show 8 + 15 * h + (5 + v) = 13 + 15 * h + v by omega]; rfl
theorem m_urgent (hm : rh ρ t u) {v : Nat} (hv : v < 10) : f_X12_urgent (σ, ρ) 105 (Int32.ofNat v) = some (σ 106 (128 + v)) := by
  unfold f_X12_urgent
  simp only [m_w hm, Option.bind_some]
  rw [show (128 : Int32) = Int32.ofNat 128 from rfl, on_add, ld_on (by rw [ln_106]; omega) (by omega)]; rfl
theorem m_ofRing (hm : rh ρ t u) {r k : Nat} (hr : r < 12) (hk : k < 4) : f_X12_ofRing (σ, ρ) 105 (Int32.ofNat r) (Int32.ofNat k) = some (σ 106 (138 + 4 * r + k)) := by
  unfold f_X12_ofRing
  simp only [m_w hm, Option.bind_some]
  rw [show (4 : Int32) = Int32.ofNat 4 from rfl, show (138 : Int32) = Int32.ofNat 138 from rfl, on_mul, on_add, on_add, ld_on (by rw [ln_106]; omega) (by omega)]; rfl
theorem m_ring0 (hm : rh ρ t u) {r : Nat} (hr : r < 12) : f_X12_ofRing (σ, ρ) 105 (Int32.ofNat r) 0 = some (σ 106 (138 + 4 * r)) := m_ofRing hm (k := 0) hr (by decide)
theorem m_ring1 (hm : rh ρ t u) {r : Nat} (hr : r < 12) : f_X12_ofRing (σ, ρ) 105 (Int32.ofNat r) 1 = some (σ 106 (139 + 4 * r)) := by have := m_ofRing (σ := σ) hm (k := 1) hr (by decide); rw [show 138 + 4 * r + 1 = 139 + 4 * r by omega] at this; exact this
theorem m_ring2 (hm : rh ρ t u) {r : Nat} (hr : r < 12) : f_X12_ofRing (σ, ρ) 105 (Int32.ofNat r) 2 = some (σ 106 (140 + 4 * r)) := by have := m_ofRing (σ := σ) hm (k := 2) hr (by decide); rw [show 138 + 4 * r + 2 = 140 + 4 * r by omega] at this; exact this
theorem m_ring3 (hm : rh ρ t u) {r : Nat} (hr : r < 12) : f_X12_ofRing (σ, ρ) 105 (Int32.ofNat r) 3 = some (σ 106 (141 + 4 * r)) := by have := m_ofRing (σ := σ) hm (k := 3) hr (by decide); rw [show 138 + 4 * r + 3 = 141 + 4 * r by omega] at this; exact this
theorem j_abs (x : Int32) : f_J9_abs_0f7a4 x = some (sab x) := by unfold f_J9_abs_0f7a4 sab; split <;> rfl
theorem m_far (hm : rh ρ t u) {i j : Nat} (hi : i < 8) (hj : j < 8) : f_X12_farOf (σ, ρ) 105 (Int32.ofNat i) (Int32.ofNat j) = some (far (σ 106) i j) := by
  unfold f_X12_farOf
  have h6 : am_ld σ 106 6 = some (σ 106 6) := by
    rw [show (6 : Int32) = Int32.ofNat 6 from rfl]; exact ld_on (by decide) (by decide)
  have h7 : am_ld σ 106 7 = some (σ 106 7) := by
    rw [show (7 : Int32) = Int32.ofNat 7 from rfl]; exact ld_on (by decide) (by decide)
  simp only [m_of0 hm hj, m_of0 hm hi, m_of1 hm hj, m_of1 hm hi, m_w hm, Option.bind_some, h6, h7, j_abs]
  rfl
theorem m_hr (hm : rh ρ t u) {i j : Nat} (hi : i < 8) (hj : j < 8) : f_X12_isHearing (σ, ρ) 105 (Int32.ofNat i) (Int32.ofNat j) = some (if hr (σ 106) i j then 1 else 0) := by
  unfold f_X12_isHearing hr
  rw [m_of4 hm hi, m_far hm hi hj, m_of2 hm hj]
  simp only [Option.bind_some]
  by_cases e : i = j
  · rw [if_pos (by rw [e])]; simp [e]
  · rw [if_neg (fun q => e ((on_inj (by omega) (by omega)).mp q))]
    by_cases d : σ 106 (12 + 15 * i) = 0
    · rw [if_pos d]
      by_cases f : σ 106 (10 + 15 * j) < far (σ 106) i j
      · rw [if_pos f]; simp [e, d, f]
      · rw [if_neg f]; simp [e, d, f]
    · rw [if_neg d]; simp [e, d]
theorem m_clr (hm : rh ρ t u) {i j : Nat} (hi : i < 8) (hj : j < 8) : f_X12_clearOf (σ, ρ) 105 (Int32.ofNat i) (Int32.ofNat j) = some (clr (σ 106) i j) := by
  unfold f_X12_clearOf clr
  rw [m_hr hm hi hj, m_of2 hm hj, m_far hm hi hj]
  simp only [Option.bind_some]
  cases hr (σ 106) i j <;> rfl
theorem m_noHouse (hm : rh ρ t u) (hw : wv (σ 106)) {h : Nat} (hh : h < nH (σ 106)) : f_X12_noHouse (σ, ρ) 105 (Int32.ofNat h) = some 0 := by
  unfold f_X12_noHouse
  rw [m_houses hm, hw.1.1]
  simp only [Option.bind_some]
  rw [in_yes (by have := hw.1.2; omega) hh]; rfl
theorem m_noHouse' (hm : rh ρ t u) (hw : wv (σ 106)) {p : Int32} (hp : ∀ k, k < nH (σ 106) → p ≠ Int32.ofNat k) : f_X12_noHouse (σ, ρ) 105 p = some 1 := by
  unfold f_X12_noHouse
  rw [m_houses hm, hw.1.1]
  simp only [Option.bind_some]
  rw [in_no (by have := hw.1.2; omega) hp]; rfl
theorem m_noWant (hm : rh ρ t u) (hw : wv (σ 106)) {v : Nat} (hv : v < nW (σ 106)) : f_X12_noWant (σ, ρ) 105 (Int32.ofNat v) = some 0 := by
  unfold f_X12_noWant
  rw [m_wants hm, hw.2.1.1]
  simp only [Option.bind_some]
  rw [in_yes (by have := hw.2.1.2; omega) hv]; rfl
theorem m_noWant' (hm : rh ρ t u) (hw : wv (σ 106)) {p : Int32} (hp : ∀ k, k < nW (σ 106) → p ≠ Int32.ofNat k) : f_X12_noWant (σ, ρ) 105 p = some 1 := by
  unfold f_X12_noWant
  rw [m_wants hm, hw.2.1.1]
  simp only [Option.bind_some]
  rw [in_no (by have := hw.2.1.2; omega) hp]; rfl
theorem m_noRing (hm : rh ρ t u) (hw : wv (σ 106)) {r : Nat} (hr : r < nR (σ 106)) : f_X12_noRing (σ, ρ) 105 (Int32.ofNat r) = some 0 := by
  unfold f_X12_noRing
  simp only [m_w hm, Option.bind_some]
  rw [show (4 : Int32) = Int32.ofNat 4 from rfl, ld_on (by decide) (by decide), hw.2.2.1.1]
  simp only [Option.bind_some]
  rw [in_yes (by have := hw.2.2.1.2; omega) hr]; rfl
theorem m_noRing' (hm : rh ρ t u) (hw : wv (σ 106)) {p : Int32} (hp : ∀ k, k < nR (σ 106) → p ≠ Int32.ofNat k) : f_X12_noRing (σ, ρ) 105 p = some 1 := by
  unfold f_X12_noRing
  simp only [m_w hm, Option.bind_some]
  rw [show (4 : Int32) = Int32.ofNat 4 from rfl, ld_on (by decide) (by decide), hw.2.2.1.1]
  simp only [Option.bind_some]
  rw [in_no (by have := hw.2.2.1.2; omega) hp]; rfl
end MW
