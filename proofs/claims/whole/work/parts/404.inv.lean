/-! THE INVARIANT: which cells count, and what they say -/
abbrev sg : Type := Nat → Nat → Int32
abbrev rg : Type := Nat → Nat → Option Nat
abbrev wg : Type := Nat → Int32
def es_l : List Nat := [2, 1, 1, 1, 1, 1, 1, 1, 1, 1, 1, 3, 1, 1, 1, 0, 0, 4, 1, 1, 1, 1, 0, 0, 1, 1, 1, 1, 1, 1, 1, 1, 1, 3, 1, 1, 1, 0, 0, 4, 1, 1, 1, 1, 0, 0, 1, 1, 1, 1, 1, 1, 1, 1, 1, 3, 1, 1, 1, 0, 0, 4, 1, 1, 1, 1, 0, 0, 0, 0, 0, 0, 0, 0, 0, 0, 0, 0, 0, 0, 0, 0, 0, 0, 0, 0, 0, 0, 0, 0, 0, 0, 0, 0, 0, 0, 0, 0, 0, 0, 0, 0, 0, 0, 0, 5, 1, 1, 0, 1, 0, 0, 0, 0, 0, 0, 0, 0, 0, 0, 0, 0, 0]
def es (o j : Nat) : Bool := match es_l.getD o 0 with
  | 0 => false
  | 1 => true
  | 2 => j == 1 || j == 2 || j == 6
  | 3 => j == 0 || j == 1
  | 4 => j == 0
  | _ => j == 4 || j == 6 || j == 11
def ag (σ τ : sg) : Prop := ∀ o j, es o j = true → τ o j = σ o j
theorem ag_rf {σ : sg} : ag σ σ := fun _ _ _ => rfl
theorem ag_tr {σ τ υ : sg} (h : ag σ τ) (g : ag τ υ) : ag σ υ := fun o j e => (g o j e).trans (h o j e)
theorem ag_u {σ τ : sg} {o j : Nat} {v : Int32} (he : es o j = false) (h : ag σ τ) : ag σ (am_u2 τ o j v) := fun a b e => by
  rw [← h a b e]
  unfold am_u2
  rw [if_neg]
  rintro ⟨rfl, rfl⟩
  rw [he] at e
  cases e
theorem es_0 {o j : Nat} (h : es_l.getD o 0 = 0) : es o j = false := by unfold es; rw [h]; rfl
theorem es_1 {o j : Nat} (h : es_l.getD o 0 = 1) : es o j = true := by unfold es; rw [h]; rfl
theorem ag_u0 {σ τ : sg} {o j : Nat} {v : Int32} (he : es_l.getD o 0 = 0) (h : ag σ τ) : ag σ (am_u2 τ o j v) := ag_u (es_0 he) h
theorem ag_row {σ τ : sg} (h : ag σ τ) {o : Nat} (he : es_l.getD o 0 = 1) : τ o = σ o := funext (fun j => h o j (es_1 he))
/-! accessors of a world -/
section WV
variable {w : wg}
theorem wv_H (h : wv w) : w 0 = Int32.ofNat (nH w) ∧ nH w ≤ 8 := h.1
theorem wv_W (h : wv w) : w 1 = Int32.ofNat (nW w) ∧ nW w ≤ 10 := h.2.1
theorem wv_R (h : wv w) : w 4 = Int32.ofNat (nR w) ∧ nR w ≤ 12 := h.2.2.1
theorem wv_wd (h : wv w) {a v : Nat} (ha : a < nH w) (hv : v < 10) : w (13 + 15 * a + v) = Int32.ofNat (wd w a v) ∧ wd w a v < 512 ∧ wd w a v ≠ 1 ∧ (nW w ≤ v → wd w a v = 0) := h.2.2.2.1 a ha v hv
theorem wv_at (h : wv w) {a : Nat} (ha : a < nH w) : (∃ x, x < 16 ∧ w (8 + 15 * a) = Int32.ofNat x) ∧ (∃ x, x < 16 ∧ w (9 + 15 * a) = Int32.ofNat x) ∧ (∃ x, 1 ≤ x ∧ x < 31 ∧ w (10 + 15 * a) = Int32.ofNat x) ∧ (∃ x, x < 1000 ∧ w (11 + 15 * a) = Int32.ofNat x) ∧ (w (12 + 15 * a) = 0 ∨ w (12 + 15 * a) = 1) := h.2.2.2.2.1 a ha
theorem wv_ur (h : wv w) {v : Nat} (hv : v < nW w) : ∃ a, 1 ≤ a ∧ a < 100 ∧ w (128 + v) = Int32.ofNat a := h.2.2.2.2.2.1 v hv
theorem wv_x (h : wv w) : ∃ a, a < 19 ∧ w 6 = Int32.ofNat a - 9 := h.2.2.2.2.2.2.1
theorem wv_y (h : wv w) : ∃ a, a < 19 ∧ w 7 = Int32.ofNat a - 9 := h.2.2.2.2.2.2.2.1
theorem wv_r (h : wv w) {r : Nat} (hr : r < nR w) : (∃ a, a < 1000 ∧ w (138 + 4 * r) = Int32.ofNat a) ∧ (∃ a, a < nH w ∧ w (139 + 4 * r) = Int32.ofNat a) ∧ (∃ a, a < nW w ∧ w (140 + 4 * r) = Int32.ofNat a) ∧ (∃ a, 2 ≤ a ∧ a < 512 ∧ w (141 + 4 * r) = Int32.ofNat a) := h.2.2.2.2.2.2.2.2.1 r hr
theorem wv_2 (h : wv w) : ∃ a, a < 11 ∧ w 2 = Int32.ofNat a := h.2.2.2.2.2.2.2.2.2
/-- a word, 0 without one, also where there is no such house or want -/
def wx (w : wg) (h v : Nat) : Nat := if h < nH w ∧ v < nW w then wd w h v else 0
theorem wx_lt (h : wv w) {a v : Nat} : wx w a v < 512 := by
  unfold wx
  split
  · rename_i q; exact (wv_wd h q.1 (by have := (wv_W h).2; omega)).2.1
  · omega
theorem wx_1 (h : wv w) {a v : Nat} : wx w a v ≠ 1 := by
  unfold wx
  split
  · rename_i q; exact (wv_wd h q.1 (by have := (wv_W h).2; omega)).2.2.1
  · omega
theorem zw_m {n : Nat} (h : n < 2147483648) : (zw n = -1) ↔ n = 0 := by
  unfold zw
  by_cases q : n = 0
  · simp [q]
  · rw [if_neg q]
    constructor
    · intro e
      have := congrArg Int32.toInt e
      rw [on_int h] at this
      have h1 : (-1 : Int32).toInt = -1 := rfl
      rw [h1] at this
      omega
    · intro e; exact absurd e q
theorem zw_0 : zw 0 = -1 := rfl
theorem zw_p {n : Nat} (h : n ≠ 0) : zw n = Int32.ofNat n := if_neg h
theorem on_ne {a b : Nat} (ha : a < 2147483648) (hb : b < 2147483648) (h : a ≠ b) : Int32.ofNat a ≠ Int32.ofNat b := fun q => h ((on_inj ha hb).mp q)
theorem on_pos {a : Nat} (ha : a < 2147483648) : (0 : Int32) < Int32.ofNat a ↔ 0 < a := on_lt (a := 0) (by decide) ha
theorem on_z {a : Nat} (ha : a < 2147483648) : Int32.ofNat a = 0 ↔ a = 0 := on_inj (b := 0) ha (by decide)
/-! distances -/
def fr3 (a b c : Nat) : Bool := decide (sab ((Int32.ofNat a + (Int32.ofNat b - 9)) - Int32.ofNat c) = Int32.ofNat ((a + b - (9 + c)) + ((9 + c) - (a + b))))
theorem fr3_all : (List.range 16).all (fun a => (List.range 19).all (fun b => (List.range 16).all (fun c => fr3 a b c))) = true := by decide +kernel
theorem fr3_s {a b c : Nat} (ha : a < 16) (hb : b < 19) (hc : c < 16) : sab ((Int32.ofNat a + (Int32.ofNat b - 9)) - Int32.ofNat c) = Int32.ofNat ((a + b - (9 + c)) + ((9 + c) - (a + b))) := by
  have h1 := List.all_eq_true.mp fr3_all a (List.mem_range.mpr ha)
  have h2 := List.all_eq_true.mp h1 b (List.mem_range.mpr hb)
  have h3 := List.all_eq_true.mp h2 c (List.mem_range.mpr hc)
  unfold fr3 at h3
  simpa using h3
theorem far_n (h : wv w) {i j : Nat} (hi : i < nH w) (hj : j < nH w) : ∃ f, f < 70 ∧ far w i j = Int32.ofNat f := by
  obtain ⟨⟨a, ha, ea⟩, ⟨b, hb, eb⟩, -⟩ := wv_at h hi
  obtain ⟨⟨c, hc, ec⟩, ⟨d, hd, ed⟩, -⟩ := wv_at h hj
  obtain ⟨x, hx, ex⟩ := wv_x h
  obtain ⟨y, hy, ey⟩ := wv_y h
  unfold far
  rw [ea, eb, ec, ed, ex, ey, fr3_s hc hx ha, fr3_s hd hy hb, on_add]
  exact ⟨_, by omega, rfl⟩
theorem dv3 {d : Nat} (h : d < 31) : (Int32.ofNat d) / 3 + 1 = Int32.ofNat (d / 3 + 1) := by
  have h1 : (List.range 31).all (fun d => decide ((Int32.ofNat d) / 3 + 1 = Int32.ofNat (d / 3 + 1))) = true := by decide +kernel
  simpa using List.all_eq_true.mp h1 d (List.mem_range.mpr h)
/-- how many strokes come; 0 without hearing, and where there is no such house -/
def cx (w : wg) (i j : Nat) : Nat := if i < nH w ∧ j < nH w then cl w i j else 0
theorem clr_n (h : wv w) {i j : Nat} (hi : i < nH w) (hj : j < nH w) : clr w i j = Int32.ofNat (cx w i j) ∧ cx w i j < 12 ∧ (hr w i j = true ↔ 0 < cx w i j) := by
  obtain ⟨f, hf, ef⟩ := far_n h hi hj
  obtain ⟨-, -, ⟨l, hl, hl2, el⟩, -, -⟩ := wv_at h hj
  unfold cx
  rw [if_pos ⟨hi, hj⟩]
  unfold cl clr
  by_cases q : hr w i j = true
  · rw [if_pos q]
    have q2 := q
    unfold hr at q2
    simp only [Bool.and_eq_true, Bool.not_eq_true', decide_eq_false_iff_not, decide_eq_true_eq] at q2
    have q3 := q2.2
    rw [el, ef, on_lt (by omega) (by omega)] at q3
    rw [el, ef, on_sub (by omega), dv3 (by omega), on_cl (by omega)]
    exact ⟨rfl, by omega, by simp [q]⟩
  · rw [if_neg q]
    refine ⟨rfl, by decide, ?_⟩
    simp only [q, false_iff]
    decide
theorem cx_lt (h : wv w) {i j : Nat} : cx w i j < 12 := by
  by_cases q : i < nH w ∧ j < nH w
  · exact (clr_n h q.1 q.2).2.1
  · unfold cx; rw [if_neg q]; decide
theorem cx_hr (h : wv w) {i j : Nat} (hi : i < nH w) (hj : j < nH w) : hr w i j = decide (0 < cx w i j) := by
  have := (clr_n h hi hj).2.2
  cases e : hr w i j
  · rw [e] at this; simp at this; simp [this]
  · rw [e] at this; simp at this; simp [this]
end WV
/-! the model's reads, by a row that is its world -/
def wS (σ : sg) (ρ : rg) (w : wg) : Prop := (∃ t u, rh ρ t u) ∧ (∀ k, k < 1023 → σ 106 k = w k) ∧ wv w
section WS
variable {σ τ : sg} {ρ : rg} {w : wg}
theorem wS_ag (H : wS σ ρ w) (h : ag σ τ) : wS τ ρ w := ⟨H.1, fun k hk => by rw [ag_row h (o := 106) rfl]; exact H.2.1 k hk, H.2.2⟩
theorem M_w (H : wS σ ρ w) : am_rd ρ 105 1 1 = some 106 := by obtain ⟨t, u, h⟩ := H.1; exact m_w h
theorem M_ld (H : wS σ ρ w) {k : Nat} (h : k < 1023) : am_ld σ 106 (Int32.ofNat k) = some (w k) := by rw [ld_on (by rw [ln_106]; omega) (by omega), H.2.1 k h]
theorem M_houses (H : wS σ ρ w) : f_X12_houses (σ, ρ) 105 = some (Int32.ofNat (nH w)) := by
  obtain ⟨t, u, h⟩ := H.1
  rw [m_houses h, H.2.1 0 (by decide), (wv_H H.2.2).1]
theorem M_wants (H : wS σ ρ w) : f_X12_wants (σ, ρ) 105 = some (Int32.ofNat (nW w)) := by
  obtain ⟨t, u, h⟩ := H.1
  rw [m_wants h, H.2.1 1 (by decide), (wv_W H.2.2).1]
theorem M_rc (H : wS σ ρ w) : am_ld σ 106 4 = some (Int32.ofNat (nR w)) := by
  rw [show (4 : Int32) = Int32.ofNat 4 from rfl, M_ld H (by decide), (wv_R H.2.2).1]
theorem M_of (H : wS σ ρ w) {h k : Nat} (hh : h < 8) (hk : k < 15) : f_X12_of (σ, ρ) 105 (Int32.ofNat h) (Int32.ofNat k) = some (w (8 + 15 * h + k)) := by
  obtain ⟨t, u, h0⟩ := H.1
  rw [m_of h0 (by omega) (by omega) (by omega), H.2.1 _ (by omega)]
theorem M_wf (H : wS σ ρ w) {h v : Nat} (hh : h < nH w) (hv : v < nW w) : f_X12_wordOf (σ, ρ) 105 (Int32.ofNat h) (Int32.ofNat v) = some (Int32.ofNat (wx w h v)) := by
  obtain ⟨t, u, h0⟩ := H.1
  have := (wv_H H.2.2).2
  have := (wv_W H.2.2).2
  rw [m_wordOf h0 (by omega) (by omega), H.2.1 _ (by omega), (wv_wd H.2.2 hh (by omega)).1, wx, if_pos ⟨hh, hv⟩]
theorem M_ur (H : wS σ ρ w) {v : Nat} (hv : v < 10) : f_X12_urgent (σ, ρ) 105 (Int32.ofNat v) = some (w (128 + v)) := by
  obtain ⟨t, u, h0⟩ := H.1
  rw [m_urgent h0 hv, H.2.1 _ (by omega)]
theorem M_ring (H : wS σ ρ w) {r k : Nat} (hr : r < 12) (hk : k < 4) : f_X12_ofRing (σ, ρ) 105 (Int32.ofNat r) (Int32.ofNat k) = some (w (138 + 4 * r + k)) := by
  obtain ⟨t, u, h0⟩ := H.1
  rw [m_ofRing h0 hr hk, H.2.1 _ (by omega)]
theorem M_ring0 (H : wS σ ρ w) {r : Nat} (hr : r < 12) : f_X12_ofRing (σ, ρ) 105 (Int32.ofNat r) 0 = some (w (138 + 4 * r)) := M_ring H (k := 0) hr (by decide)
theorem M_ring1 (H : wS σ ρ w) {r : Nat} (hr : r < 12) : f_X12_ofRing (σ, ρ) 105 (Int32.ofNat r) 1 = some (w (139 + 4 * r)) := by have := M_ring H (k := 1) hr (by decide); rw [show 138 + 4 * r + 1 = 139 + 4 * r by omega] at this; exact this
theorem M_ring2 (H : wS σ ρ w) {r : Nat} (hr : r < 12) : f_X12_ofRing (σ, ρ) 105 (Int32.ofNat r) 2 = some (w (140 + 4 * r)) := by have := M_ring H (k := 2) hr (by decide); rw [show 138 + 4 * r + 2 = 140 + 4 * r by omega] at this; exact this
theorem M_ring3 (H : wS σ ρ w) {r : Nat} (hr : r < 12) : f_X12_ofRing (σ, ρ) 105 (Int32.ofNat r) 3 = some (w (141 + 4 * r)) := by have := M_ring H (k := 3) hr (by decide); rw [show 138 + 4 * r + 3 = 141 + 4 * r by omega] at this; exact this
theorem M_farE (H : wS σ ρ w) {i j : Nat} (hi : i < 8) (hj : j < 8) : far (σ 106) i j = far w i j := by
  unfold far
  rw [H.2.1 6 (by decide), H.2.1 7 (by decide), H.2.1 _ (show 8 + 15 * j < 1023 by omega), H.2.1 _ (show 8 + 15 * i < 1023 by omega), H.2.1 _ (show 9 + 15 * j < 1023 by omega), H.2.1 _ (show 9 + 15 * i < 1023 by omega)]
theorem M_far (H : wS σ ρ w) {i j : Nat} (hi : i < 8) (hj : j < 8) : f_X12_farOf (σ, ρ) 105 (Int32.ofNat i) (Int32.ofNat j) = some (far w i j) := by
  obtain ⟨t, u, h0⟩ := H.1
  rw [m_far h0 hi hj, M_farE H hi hj]
theorem M_hrE (H : wS σ ρ w) {i j : Nat} (hi : i < 8) (hj : j < 8) : hr (σ 106) i j = hr w i j := by
  unfold hr
  rw [M_farE H hi hj, H.2.1 _ (show 12 + 15 * i < 1023 by omega), H.2.1 _ (show 10 + 15 * j < 1023 by omega)]
theorem M_hr (H : wS σ ρ w) {i j : Nat} (hi : i < nH w) (hj : j < nH w) : f_X12_isHearing (σ, ρ) 105 (Int32.ofNat i) (Int32.ofNat j) = some (if 0 < cx w i j then 1 else 0) := by
  obtain ⟨t, u, h0⟩ := H.1
  have := (wv_H H.2.2).2
  rw [m_hr h0 (by omega) (by omega), M_hrE H (by omega) (by omega), cx_hr H.2.2 hi hj]
  simp
theorem M_cl (H : wS σ ρ w) {i j : Nat} (hi : i < nH w) (hj : j < nH w) : f_X12_clearOf (σ, ρ) 105 (Int32.ofNat i) (Int32.ofNat j) = some (Int32.ofNat (cx w i j)) := by
  obtain ⟨t, u, h0⟩ := H.1
  have := (wv_H H.2.2).2
  rw [m_clr h0 (by omega) (by omega), ← (clr_n H.2.2 hi hj).1]
  unfold clr
  rw [M_hrE H (by omega) (by omega), M_farE H (by omega) (by omega), H.2.1 _ (show 10 + 15 * j < 1023 by omega)]
theorem M_noH (H : wS σ ρ w) (p : Int32) : (∃ h, h < nH w ∧ p = Int32.ofNat h ∧ f_X12_noHouse (σ, ρ) 105 p = some 0) ∨ ((∀ k, k < nH w → p ≠ Int32.ofNat k) ∧ f_X12_noHouse (σ, ρ) 105 p = some 1) := by
  have hb := (wv_H H.2.2).2
  unfold f_X12_noHouse
  rw [M_houses H]
  simp only [Option.bind_some]
  by_cases q : ∃ h, h < nH w ∧ p = Int32.ofNat h
  · obtain ⟨h, hh, rfl⟩ := q
    exact Or.inl ⟨h, hh, rfl, by rw [in_yes (by omega) hh]; rfl⟩
  · have q2 : ∀ k, k < nH w → p ≠ Int32.ofNat k := fun k hk e => q ⟨k, hk, e⟩
    exact Or.inr ⟨q2, by rw [in_no (by omega) q2]; rfl⟩
theorem M_noW (H : wS σ ρ w) (p : Int32) : (∃ h, h < nW w ∧ p = Int32.ofNat h ∧ f_X12_noWant (σ, ρ) 105 p = some 0) ∨ ((∀ k, k < nW w → p ≠ Int32.ofNat k) ∧ f_X12_noWant (σ, ρ) 105 p = some 1) := by
  have hb := (wv_W H.2.2).2
  unfold f_X12_noWant
  rw [M_wants H]
  simp only [Option.bind_some]
  by_cases q : ∃ h, h < nW w ∧ p = Int32.ofNat h
  · obtain ⟨h, hh, rfl⟩ := q
    exact Or.inl ⟨h, hh, rfl, by rw [in_yes (by omega) hh]; rfl⟩
  · have q2 : ∀ k, k < nW w → p ≠ Int32.ofNat k := fun k hk e => q ⟨k, hk, e⟩
    exact Or.inr ⟨q2, by rw [in_no (by omega) q2]; rfl⟩
theorem M_noR (H : wS σ ρ w) (p : Int32) : (∃ h, h < nR w ∧ p = Int32.ofNat h ∧ f_X12_noRing (σ, ρ) 105 p = some 0) ∨ ((∀ k, k < nR w → p ≠ Int32.ofNat k) ∧ f_X12_noRing (σ, ρ) 105 p = some 1) := by
  have hb := (wv_R H.2.2).2
  unfold f_X12_noRing
  simp only [M_w H, Option.bind_some, M_rc H]
  by_cases q : ∃ h, h < nR w ∧ p = Int32.ofNat h
  · obtain ⟨h, hh, rfl⟩ := q
    exact Or.inl ⟨h, hh, rfl, by rw [in_yes (by omega) hh]; rfl⟩
  · have q2 : ∀ k, k < nR w → p ≠ Int32.ofNat k := fun k hk e => q ⟨k, hk, e⟩
    exact Or.inr ⟨q2, by rw [in_no (by omega) q2]; rfl⟩
end WS
/-! the class's town -/
def tw_f (σ : sg) (t : Nat) (w : wg) : Prop := σ t 0 = w 0 ∧ σ t 1 = w 1 ∧ σ t 2 = w 2 ∧ σ t 3 = w 5 ∧ σ t 4 = w 6 ∧ σ t 5 = w 7
def tw_h (σ : sg) (t : Nat) (w : wg) : Prop := ∀ h, h < nH w → σ (t + 1) h = w (8 + 15 * h) ∧ σ (t + 2) h = w (9 + 15 * h) ∧ σ (t + 3) h = w (10 + 15 * h) ∧ σ (t + 4) h = w (11 + 15 * h) ∧ σ (t + 5) h = w (12 + 15 * h)
def tw_v (σ : sg) (t : Nat) (w : wg) : Prop := ∀ v, v < nW w → σ (t + 6) v = w (128 + v)
def tw_w (σ : sg) (t : Nat) (w : wg) : Prop := ∀ h, h < 8 → ∀ v, v < 10 → σ (t + 7) (10 * h + v) = if h < nH w then zw (wd w h v) else -1
def tw_c (σ : sg) (t : Nat) (w : wg) : Prop := ∀ i, i < nH w → ∀ j, j < nH w → σ (t + 8) (8 * i + j) = clr w i j
def tw_r (σ : sg) (t : Nat) (w : wg) : Prop := σ (t + 15) 0 = w 4 ∧ ∀ r, r < nR w → σ (t + 16) r = w (138 + 4 * r) ∧ σ (t + 17) r = w (139 + 4 * r) ∧ σ (t + 18) r = w (140 + 4 * r) ∧ σ (t + 19) r = w (141 + 4 * r)
/-! the law: a row of steps; what kinds of values wait (true: a number) -/
def ck1 (st : List Bool) (k : Nat) : Option (List Bool) :=
  if k ≤ 5 then (if st.length < 40 then some (true :: st) else none)
  else if k = 6 then (match st with | true :: true :: r => some (true :: r) | _ => none)
  else if k = 7 ∨ k = 8 then (match st with | true :: true :: r => some (false :: r) | _ => none)
  else if k = 9 then (match st with | false :: r => some (false :: r) | _ => none)
  else if k = 10 ∨ k = 11 then (match st with | false :: false :: r => some (false :: r) | _ => none)
  else none
def ckn (s : Nat → Nat) : Nat → Nat → List Bool → Option (List Bool)
  | _, 0, st => some st
  | i, n + 1, st => (ck1 st (s i)).bind (fun st' => ckn s (i + 1) n st')
def enc (k n : Nat) : Int32 := if k = 5 then Int32.ofNat n else if k ≤ 4 then -(Int32.ofNat (k + 1)) else -(Int32.ofNat k)
/-- lines: how many; where each ends; the steps (what, number) -/
def lwO (w : wg) (L : Nat) (e : Nat → Nat) (s n : Nat → Nat) : Prop :=
  L ≤ 12 ∧ w 186 = Int32.ofNat L ∧ e 0 = 0 ∧ e L ≤ 400 ∧
  (∀ k, k < L → e k ≤ e (k + 1) ∧ w (188 + 3 * k) = Int32.ofNat (e k) ∧ w (189 + 3 * k) = Int32.ofNat (e (k + 1)) ∧ (e k = e (k + 1) ∨ ckn s (e k) (e (k + 1) - e k) [] = some [false])) ∧
  (∀ i, i < e L → w (223 + 2 * i) = Int32.ofNat (s i) ∧ w (224 + 2 * i) = Int32.ofNat (n i) ∧ s i < 12 ∧ n i < 1000)
def lwR (σ : sg) (t : Nat) (w : wg) : Prop :=
  (w 3 = 0 ∧ σ (t + 9) 0 = -1) ∨
  (w 3 = 1 ∧ ∃ (L : Nat) (e s n : Nat → Nat), lwO w L e s n ∧ σ (t + 9) 0 = Int32.ofNat L ∧ (∀ k, k < L → σ (t + 10) k = w (187 + 3 * k) ∧ σ (t + 11) k = Int32.ofNat (e (k + 1))) ∧ ∀ i, i < e L → σ (t + 12) i = enc (s i) (n i))
def tw (σ : sg) (t : Nat) (w : wg) : Prop := tw_f σ t w ∧ tw_h σ t w ∧ tw_v σ t w ∧ tw_w σ t w ∧ tw_c σ t w ∧ tw_r σ t w ∧ lwR σ t w
theorem es_t {t : Nat} (ht : tn t) : es_l.getD t 0 = 1 ∧ es_l.getD (t + 1) 0 = 1 ∧ es_l.getD (t + 2) 0 = 1 ∧ es_l.getD (t + 3) 0 = 1 ∧ es_l.getD (t + 4) 0 = 1 ∧ es_l.getD (t + 5) 0 = 1 ∧ es_l.getD (t + 6) 0 = 1 ∧ es_l.getD (t + 7) 0 = 1 ∧ es_l.getD (t + 8) 0 = 1 ∧ es_l.getD (t + 9) 0 = 3 ∧ es_l.getD (t + 10) 0 = 1 ∧ es_l.getD (t + 11) 0 = 1 ∧ es_l.getD (t + 12) 0 = 1 ∧ es_l.getD (t + 13) 0 = 0 ∧ es_l.getD (t + 14) 0 = 0 ∧ es_l.getD (t + 15) 0 = 4 ∧ es_l.getD (t + 16) 0 = 1 ∧ es_l.getD (t + 17) 0 = 1 ∧ es_l.getD (t + 18) 0 = 1 ∧ es_l.getD (t + 19) 0 = 1 ∧ es_l.getD (t + 20) 0 = 0 ∧ es_l.getD (t + 21) 0 = 0 := by
  rcases ht with rfl | rfl | rfl <;> decide
theorem tw_cg {σ τ : sg} {t t' : Nat} {w : wg} (h : tw σ t w) (h0 : τ t' = σ t) (h1 : τ (t' + 1) = σ (t + 1)) (h2 : τ (t' + 2) = σ (t + 2)) (h3 : τ (t' + 3) = σ (t + 3)) (h4 : τ (t' + 4) = σ (t + 4)) (h5 : τ (t' + 5) = σ (t + 5)) (h6 : τ (t' + 6) = σ (t + 6)) (h7 : τ (t' + 7) = σ (t + 7)) (h8 : τ (t' + 8) = σ (t + 8)) (h9 : τ (t' + 9) 0 = σ (t + 9) 0) (h10 : τ (t' + 10) = σ (t + 10)) (h11 : τ (t' + 11) = σ (t + 11)) (h12 : τ (t' + 12) = σ (t + 12)) (h15 : τ (t' + 15) 0 = σ (t + 15) 0) (h16 : τ (t' + 16) = σ (t + 16)) (h17 : τ (t' + 17) = σ (t + 17)) (h18 : τ (t' + 18) = σ (t + 18)) (h19 : τ (t' + 19) = σ (t + 19)) : tw τ t' w := by
  unfold tw tw_f tw_h tw_v tw_w tw_c tw_r lwR at *
  simp only [h0, h1, h2, h3, h4, h5, h6, h7, h8, h9, h10, h11, h12, h15, h16, h17, h18, h19]
  exact h
theorem tw_ag {σ τ : sg} {t : Nat} {w : wg} (ht : tn t) (h : tw σ t w) (g : ag σ τ) : tw τ t w := by
  obtain ⟨e0, e1, e2, e3, e4, e5, e6, e7, e8, e9, e10, e11, e12, e13, e14, e15, e16, e17, e18, e19, -⟩ := es_t ht
  exact tw_cg h (ag_row g e0) (ag_row g e1) (ag_row g e2) (ag_row g e3) (ag_row g e4) (ag_row g e5) (ag_row g e6) (ag_row g e7) (ag_row g e8) (g _ _ (by unfold es; rw [e9]; rfl)) (ag_row g e10) (ag_row g e11) (ag_row g e12) (g _ _ (by unfold es; rw [e15]; rfl)) (ag_row g e16) (ag_row g e17) (ag_row g e18) (ag_row g e19)
/-! the whole -/
def iT (σ : sg) : Prop := ∃ n, n ≤ 400 ∧ σ 0 1 = Int32.ofNat n ∧ σ 105 6 = Int32.ofNat n ∧ ∀ k, k < n → σ 109 k = σ 1 k ∧ (σ 1 k).toInt8.toInt32 = σ 1 k
def iI (σ : sg) (wi : wg) : Prop := σ 0 6 = σ 105 4 ∧ (σ 0 6 = 0 ∨ (σ 0 6 = 1 ∧ (∀ k, k < 1023 → σ 107 k = wi k) ∧ wv wi ∧ tw σ 46 wi))
def iS (σ : sg) : Prop := ∀ b, tn b → ∀ i, i < 400 → (σ (b + 12) i).toInt16.toInt32 = σ (b + 12) i
def Iv (σ : sg) (ρ : rg) (t u : Nat) (w wi : wg) : Prop := rh ρ t u ∧ (∀ k, k < 1023 → σ 106 k = w k) ∧ wv w ∧ tw σ t w ∧ iT σ ∧ σ 0 2 = σ 105 11 ∧ iI σ wi ∧ iS σ
theorem iT_ag {σ τ : sg} (h : iT σ) (g : ag σ τ) : iT τ := by
  obtain ⟨n, h1, h2, h3, h4⟩ := h
  refine ⟨n, h1, by rw [g 0 1 (by decide)]; exact h2, by rw [g 105 6 (by decide)]; exact h3, fun k hk => ?_⟩
  rw [ag_row g (o := 109) rfl, ag_row g (o := 1) rfl]
  exact h4 k hk
theorem iI_ag {σ τ : sg} {wi : wg} (h : iI σ wi) (g : ag σ τ) : iI τ wi := by
  unfold iI
  rw [g 0 6 (by decide), g 105 4 (by decide), ag_row g (o := 107) rfl]
  refine ⟨h.1, h.2.imp id (fun q => ⟨q.1, q.2.1, q.2.2.1, tw_ag (Or.inr (Or.inr rfl)) q.2.2.2 g⟩)⟩
theorem iS_ag {σ τ : sg} (h : iS σ) (g : ag σ τ) : iS τ := fun b hb i hi => by
  obtain ⟨-, -, -, -, -, -, -, -, -, -, -, -, e12, -⟩ := es_t hb
  rw [ag_row g e12]
  exact h b hb i hi
theorem Iv_ag {σ τ : sg} {ρ : rg} {t u : Nat} {w wi : wg} (h : Iv σ ρ t u w wi) (g : ag σ τ) : Iv τ ρ t u w wi := by
  obtain ⟨h1, h2, h3, h4, h5, h6, h7, h8⟩ := h
  refine ⟨h1, fun k hk => by rw [ag_row g (o := 106) rfl]; exact h2 k hk, h3, tw_ag (rh_tn h1).1 h4 g, iT_ag h5 g, ?_, iI_ag h7 g, iS_ag h8 g⟩
  rw [g 0 2 (by decide), g 105 11 (by decide)]
  exact h6
theorem Iv_w {σ : sg} {ρ : rg} {t u : Nat} {w wi : wg} (h : Iv σ ρ t u w wi) : wS σ ρ w := ⟨⟨t, u, h.1⟩, h.2.1, h.2.2.1⟩
def tS (σ : sg) (ρ : rg) (t : Nat) (w : wg) : Prop := (∃ a b, rh ρ a b) ∧ tn t ∧ tw σ t w ∧ wv w
theorem Iv_t {σ : sg} {ρ : rg} {t u : Nat} {w wi : wg} (h : Iv σ ρ t u w wi) : tS σ ρ t w := ⟨⟨t, u, h.1⟩, (rh_tn h.1).1, h.2.2.2.1, h.2.2.1⟩
theorem tS_ag {σ τ : sg} {ρ : rg} {t : Nat} {w : wg} (h : tS σ ρ t w) (g : ag σ τ) : tS τ ρ t w := ⟨h.1, h.2.1, tw_ag h.2.1 h.2.2.1 g, h.2.2.2⟩
/-! references of a town -/
theorem am_rf_t : ∀ v, tn v → ∀ j k q, (j, k, q) ∈ [(6, 1, 1), (7, 1, 2), (8, 1, 3), (9, 1, 4), (10, 1, 5), (11, 1, 6), (12, 1, 7), (13, 1, 8), (14, 101, 9), (15, 106, 15)] → am_rd st_S0.2 v j k = some (v + q) := by
  intro v hv j k q hm
  simp only [List.mem_cons, Prod.mk.injEq, List.not_mem_nil, or_false] at hm
  rcases hv with rfl | rfl | rfl <;> rcases hm with ⟨rfl, rfl, rfl⟩ | ⟨rfl, rfl, rfl⟩ | ⟨rfl, rfl, rfl⟩ | ⟨rfl, rfl, rfl⟩ | ⟨rfl, rfl, rfl⟩ | ⟨rfl, rfl, rfl⟩ | ⟨rfl, rfl, rfl⟩ | ⟨rfl, rfl, rfl⟩ | ⟨rfl, rfl, rfl⟩ | ⟨rfl, rfl, rfl⟩ <;> decide +kernel
theorem am_rf_l : ∀ v, tn v → ∀ j k q, (j, k, q) ∈ [(2, 1, 10), (3, 1, 11), (4, 3, 12), (5, 1, 13), (6, 1, 14)] → am_rd st_S0.2 (v + 9) j k = some (v + q) := by
  intro v hv j k q hm
  simp only [List.mem_cons, Prod.mk.injEq, List.not_mem_nil, or_false] at hm
  rcases hv with rfl | rfl | rfl <;> rcases hm with ⟨rfl, rfl, rfl⟩ | ⟨rfl, rfl, rfl⟩ | ⟨rfl, rfl, rfl⟩ | ⟨rfl, rfl, rfl⟩ | ⟨rfl, rfl, rfl⟩ <;> decide +kernel
theorem am_rf_r : ∀ v, tn v → ∀ j k q, (j, k, q) ∈ [(1, 1, 16), (2, 1, 17), (3, 1, 18), (4, 1, 19), (5, 1, 20), (6, 1, 21)] → am_rd st_S0.2 (v + 15) j k = some (v + q) := by
  intro v hv j k q hm
  simp only [List.mem_cons, Prod.mk.injEq, List.not_mem_nil, or_false] at hm
  rcases hv with rfl | rfl | rfl <;> rcases hm with ⟨rfl, rfl, rfl⟩ | ⟨rfl, rfl, rfl⟩ | ⟨rfl, rfl, rfl⟩ | ⟨rfl, rfl, rfl⟩ | ⟨rfl, rfl, rfl⟩ | ⟨rfl, rfl, rfl⟩ <;> decide +kernel
theorem rd_t {ρ : rg} {a b v : Nat} (h : rh ρ a b) (hv : tn v) {j k q : Nat} (hm : (j, k, q) ∈ [(6, 1, 1), (7, 1, 2), (8, 1, 3), (9, 1, 4), (10, 1, 5), (11, 1, 6), (12, 1, 7), (13, 1, 8), (14, 101, 9), (15, 106, 15)]) : am_rd ρ v j k = some (v + q) := by
  refine rh_rd h ?_ ?_ (am_rf_t v hv j k q hm)
  · rcases hv with rfl | rfl | rfl <;> decide
  · rcases hv with rfl | rfl | rfl <;> rfl
theorem rd_l {ρ : rg} {a b v : Nat} (h : rh ρ a b) (hv : tn v) {j k q : Nat} (hm : (j, k, q) ∈ [(2, 1, 10), (3, 1, 11), (4, 3, 12), (5, 1, 13), (6, 1, 14)]) : am_rd ρ (v + 9) j k = some (v + q) := by
  refine rh_rd h ?_ ?_ (am_rf_l v hv j k q hm)
  · rcases hv with rfl | rfl | rfl <;> decide
  · rcases hv with rfl | rfl | rfl <;> rfl
theorem rd_r {ρ : rg} {a b v : Nat} (h : rh ρ a b) (hv : tn v) {j k q : Nat} (hm : (j, k, q) ∈ [(1, 1, 16), (2, 1, 17), (3, 1, 18), (4, 1, 19), (5, 1, 20), (6, 1, 21)]) : am_rd ρ (v + 15) j k = some (v + q) := by
  refine rh_rd h ?_ ?_ (am_rf_r v hv j k q hm)
  · rcases hv with rfl | rfl | rfl <;> decide
  · rcases hv with rfl | rfl | rfl <;> rfl
theorem ln_t {t : Nat} (ht : tn t) : am_ln (t + 1) = 8 ∧ am_ln (t + 2) = 8 ∧ am_ln (t + 3) = 8 ∧ am_ln (t + 4) = 8 ∧ am_ln (t + 5) = 8 ∧ am_ln (t + 6) = 10 ∧ am_ln (t + 7) = 80 ∧ am_ln (t + 8) = 64 ∧ am_ln (t + 10) = 12 ∧ am_ln (t + 11) = 12 ∧ am_ln (t + 12) = 400 ∧ am_ln (t + 13) = 5 ∧ am_ln (t + 14) = 40 ∧ am_ln (t + 16) = 12 ∧ am_ln (t + 17) = 12 ∧ am_ln (t + 18) = 12 ∧ am_ln (t + 19) = 12 ∧ am_ln (t + 20) = 12 ∧ am_ln (t + 21) = 12 := by
  rcases ht with rfl | rfl | rfl <;> decide
section TS
variable {σ : sg} {ρ : rg} {t : Nat} {w : wg}
theorem c_H (H : tS σ ρ t w) : σ t 0 = Int32.ofNat (nH w) := H.2.2.1.1.1.trans (wv_H H.2.2.2).1
theorem c_W (H : tS σ ρ t w) : σ t 1 = Int32.ofNat (nW w) := H.2.2.1.1.2.1.trans (wv_W H.2.2.2).1
theorem c_R (H : tS σ ρ t w) : σ (t + 15) 0 = Int32.ofNat (nR w) := H.2.2.1.2.2.2.2.2.1.1.trans (wv_R H.2.2.2).1
theorem c_hh (H : tS σ ρ t w) {h : Nat} (hh : h < nH w) : f_X9_hasHouse (σ, ρ) t (Int32.ofNat h) = some 1 := by
  have hb := (wv_H H.2.2.2).2
  unfold f_X9_hasHouse
  rw [if_neg (on_neg (by omega))]
  simp only [c_H H]
  rw [if_pos ((on_lt (by omega) (by omega)).mpr hh), if_pos (show Int32.ofNat h < 8 from (on_lt (b := 8) (by omega) (by decide)).mpr (by omega))]
theorem c_hh' (H : tS σ ρ t w) {p : Int32} (hp : ∀ k, k < nH w → p ≠ Int32.ofNat k) : f_X9_hasHouse (σ, ρ) t p = some 0 := by
  have hb := (wv_H H.2.2.2).2
  unfold f_X9_hasHouse
  simp only [c_H H]
  by_cases q : p < 0
  · rw [if_pos q]
  · rw [if_neg q]
    obtain ⟨k, hk, rfl⟩ := i_of q
    have h1 : nH w ≤ k := Nat.le_of_not_lt (fun z => hp k z rfl)
    rw [if_neg (fun z => by have := (on_lt (by omega) (by omega)).mp z; omega)]
theorem c_hw (H : tS σ ρ t w) {h : Nat} (hh : h < nW w) : f_X9_hasWant (σ, ρ) t (Int32.ofNat h) = some 1 := by
  have hb := (wv_W H.2.2.2).2
  unfold f_X9_hasWant
  rw [if_neg (on_neg (by omega))]
  simp only [c_W H]
  rw [if_pos ((on_lt (by omega) (by omega)).mpr hh), if_pos (show Int32.ofNat h < 10 from (on_lt (b := 10) (by omega) (by decide)).mpr (by omega))]
theorem c_hw' (H : tS σ ρ t w) {p : Int32} (hp : ∀ k, k < nW w → p ≠ Int32.ofNat k) : f_X9_hasWant (σ, ρ) t p = some 0 := by
  have hb := (wv_W H.2.2.2).2
  unfold f_X9_hasWant
  simp only [c_W H]
  by_cases q : p < 0
  · rw [if_pos q]
  · rw [if_neg q]
    obtain ⟨k, hk, rfl⟩ := i_of q
    have h1 : nW w ≤ k := Nat.le_of_not_lt (fun z => hp k z rfl)
    rw [if_neg (fun z => by have := (on_lt (by omega) (by omega)).mp z; omega)]
theorem no_of {n k : Nat} (hk : k < 2147483648) (hn : n ≤ k) : ∀ i, i < n → Int32.ofNat k ≠ Int32.ofNat i := fun i hi e => by
  have := (on_inj hk (by omega)).mp e
  omega
theorem c_wf (H : tS σ ρ t w) {h v : Nat} (hh : h < 2147483648) (hv : v < 2147483648) : f_X9_wordFor (σ, ρ) t (Int32.ofNat h) (Int32.ofNat v) = some (zw (wx w h v)) := by
  have hb := (wv_H H.2.2.2).2
  have hc := (wv_W H.2.2.2).2
  obtain ⟨a, b, hr⟩ := H.1
  unfold f_X9_wordFor wx
  by_cases q : h < nH w
  · rw [c_hh H q]
    simp only [Option.bind_some]
    rw [if_neg (by decide)]
    by_cases r : v < nW w
    · rw [c_hw H r]
      simp only [Option.bind_some]
      rw [if_neg (by decide), rd_t hr H.2.1 (q := 7) (by decide)]
      simp only [Option.bind_some]
      rw [show (10 : Int32) = Int32.ofNat 10 from rfl, on_mul, on_add, ld_on (by rw [(ln_t H.2.1).2.2.2.2.2.2.1]; omega) (by omega), show h * 10 + v = 10 * h + v by omega, H.2.2.1.2.2.2.1 h (by omega) v (by omega), if_pos q, if_pos ⟨q, r⟩]
      rfl
    · rw [c_hw' H (no_of hv (by omega))]
      simp only [Option.bind_some]
      rw [if_pos trivial, if_neg (fun z => r z.2)]
      rfl
  · rw [c_hh' H (no_of hh (by omega))]
    simp only [Option.bind_some]
    rw [if_pos trivial, if_neg (fun z => q z.1)]
    rfl
theorem c_cl (H : tS σ ρ t w) {h v : Nat} (hh : h < 2147483648) (hv : v < 2147483648) : f_X9_clearOf (σ, ρ) t (Int32.ofNat h) (Int32.ofNat v) = some (Int32.ofNat (cx w h v)) := by
  have hb := (wv_H H.2.2.2).2
  obtain ⟨a, b, hr⟩ := H.1
  unfold f_X9_clearOf
  by_cases q : h < nH w
  · rw [c_hh H q]
    simp only [Option.bind_some]
    rw [if_neg (by decide)]
    by_cases r : v < nH w
    · rw [c_hh H r]
      simp only [Option.bind_some]
      rw [if_neg (by decide), rd_t hr H.2.1 (q := 8) (by decide)]
      simp only [Option.bind_some]
      rw [show (8 : Int32) = Int32.ofNat 8 from rfl, on_mul, on_add, ld_on (by rw [(ln_t H.2.1).2.2.2.2.2.2.2.1]; omega) (by omega), show h * 8 + v = 8 * h + v by omega, H.2.2.1.2.2.2.2.1 h q v r, (clr_n H.2.2.2 q r).1]
      rfl
    · rw [c_hh' H (no_of hv (by omega)), cx, if_neg (fun z => r z.2)]
      rfl
  · rw [c_hh' H (no_of hh (by omega)), cx, if_neg (fun z => q z.1)]
    rfl
def ux (w : wg) (v : Nat) : Nat := if v < nW w then (w (128 + v)).toNatClampNeg else 0
theorem ux_w (h : wv w) {v : Nat} (hv : v < nW w) : w (128 + v) = Int32.ofNat (ux w v) ∧ 1 ≤ ux w v ∧ ux w v < 100 := by
  obtain ⟨a, h1, h2, h3⟩ := wv_ur h hv
  unfold ux
  rw [if_pos hv, h3, on_cl (by omega)]
  exact ⟨rfl, h1, h2⟩
theorem ux_lt (h : wv w) {v : Nat} : ux w v < 100 := by
  by_cases q : v < nW w
  · exact (ux_w h q).2.2
  · unfold ux; rw [if_neg q]; decide
theorem c_ur (H : tS σ ρ t w) {v : Nat} (hv : v < 2147483648) : f_X9_urgentOf (σ, ρ) t (Int32.ofNat v) = some (Int32.ofNat (ux w v)) := by
  have hc := (wv_W H.2.2.2).2
  obtain ⟨a, b, hr⟩ := H.1
  unfold f_X9_urgentOf
  by_cases r : v < nW w
  · rw [c_hw H r]
    simp only [Option.bind_some]
    rw [if_neg (by decide), rd_t hr H.2.1 (q := 6) (by decide)]
    simp only [Option.bind_some]
    rw [ld_on (by rw [(ln_t H.2.1).2.2.2.2.2.1]; omega) (by omega), H.2.2.1.2.2.1 v r, (ux_w H.2.2.2 r).1]
    rfl
  · rw [c_hw' H (no_of hv (by omega)), ux, if_neg r]
    rfl
end TS
