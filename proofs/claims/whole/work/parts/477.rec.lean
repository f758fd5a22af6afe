section VF
variable {σ μ σ0 μ0 τ ν : sg} {ρ ρm : rg} {u d n b q t0 u0 a0 c0 s N : Nat} {T : Nat → Int32} {l : List (Nat × Nat)}
theorem cnd_b1 (hr : rh ρ a0 c0) {A : rcT} {s : sg} {x : Int32} (k : Nat) (σ : sg) (hk : k < 400) : f_X2_readCondition_b23 A (s, ρ) 79 (u + 9) (Int32.ofNat d) x (1, Int32.ofNat k, σ) = (A (σ, ρ) 79 (u + 9) (Int32.ofNat d)).bind (fun σ7 => (if 0 < Int32.ofNat k then f_X1_addStep (σ7, ρ) (u + 9) (-10) else some σ7).bind (fun t8 => (f_X4_took (t8, ρ) 80 (1000 + 20)).bind (fun y => some (.inl (y.1, Int32.ofNat (k + 1), y.2))))) := by
  unfold f_X2_readCondition_b23
  simp only [rd_in2 hr, bnd, bid, if_pos (show Int32.ofNat k < 400 from (on_lt (b := 400) (by omega) (by decide)).mpr hk), i10, if_false, on_s]
theorem cnd_b0 {A : rcT} {s : sg} {x y : Int32} (k : Int32) (σ : sg) : f_X2_readCondition_b23 A (s, ρ) 79 (u + 9) y x (0, k, σ) = some (.inr σ) := by
  unfold f_X2_readCondition_b23
  simp only [if_true]
  split <;> rfl
theorem all_j (hr : rh ρ a0 c0) (hrm : rh ρm t0 u0) (hu : tu2 u) (hB : tB T n) {A : rcT} {MA : rmT} (hA : RJ σ0 μ0 u ρ ρm T n N d A MA) {s : sg} {x : Int32} (hg : GD σ0 μ0 u d ρ T n l b q σ μ) (hl : l.length < b) : gO σ0 μ0 u d ρ T n l b (PN (N + 1) false) (am_loop (f_X2_readCondition_b23 A (s, ρ) 79 (u + 9) (Int32.ofNat d) x) am_fuel (1, 0, σ)) (f_X12_readAllOf_o MA (μ, ρm) 105) := by
  have hM : f_X12_readAllOf_o MA (μ, ρm) 105 = (MA (μ, ρm) 105).bind (fun y1 => if y1.1 = 0 then some (0, y1.2) else (am_loop (f_X12_readAllOf_b9 MA (μ, ρm) 105) am_fuel y1.2).bind gmF) := by
    unfold f_X12_readAllOf_o
    exact mw_eq (mb := fun x => f_X12_readAllOf_b9 MA (x, ρm) 105) (fun _ => rfl) (fun r => by cases r <;> rfl)
  rw [hM]
  exact gl_all (IC := fun s => A (s, ρ) 79 (u + 9) (Int32.ofNat d)) (IM := fun m => MA (m, ρm) 105) (SM := fun m => f_X12_passes (m, ρm) 105 (1000 + 20)) (s := 20) (o := 10) (N := N) (kb := false) (eo := -10) hr hrm hu (by decide) (by decide) (by decide) (fun st => rfl) (fun k s hk => cnd_b1 hr k s hk) (fun k s => cnd_b0 k s) (fun m => rfl) (fun m q b h1 h2 h3 => rm_pass1 (s := 20) hrm hB h1 h2 (by decide) h3) (fun m q b h1 h2 h3 => rm_pass0 (s := 20) hrm hB h1 h2 (by decide) h3) (fun s m l b q h1 h2 => hA s m l b q h1 h2) hg hl
theorem cnd_c1 (hr : rh ρ a0 c0) {A : rcT} {s : sg} (k : Nat) (σ : sg) (hk : k < 400) : f_X2_readCondition_b5 A (s, ρ) 79 (u + 9) (Int32.ofNat d) (1, Int32.ofNat k, σ) = (am_loop (f_X2_readCondition_b23 A (σ, ρ) 79 (u + 9) (Int32.ofNat d) 0) am_fuel (1, 0, σ)).bind (fun σ7 => (if 0 < Int32.ofNat k then f_X1_addStep (σ7, ρ) (u + 9) (-11) else some σ7).bind (fun t8 => (f_X4_took (t8, ρ) 80 (1000 + 21)).bind (fun y => some (.inl (y.1, Int32.ofNat (k + 1), y.2))))) := by
  have e : f_X2_readCondition_b23 A (σ, ρ) 79 (u + 9) (Int32.ofNat d) (Int32.ofNat k) = f_X2_readCondition_b23 A (σ, ρ) 79 (u + 9) (Int32.ofNat d) 0 := rfl
  unfold f_X2_readCondition_b5
  simp only [rd_in2 hr, bnd, bid, if_pos (show Int32.ofNat k < 400 from (on_lt (b := 400) (by omega) (by decide)).mpr hk), i10, if_false, on_s]
  rw [e]
theorem cnd_c0 {A : rcT} {s : sg} {y : Int32} (k : Int32) (σ : sg) : f_X2_readCondition_b5 A (s, ρ) 79 (u + 9) y (0, k, σ) = some (.inr σ) := by
  unfold f_X2_readCondition_b5
  simp only [if_true]
  split <;> rfl
theorem cond_j (hr : rh ρ a0 c0) (hrm : rh ρm t0 u0) (hu : tu2 u) (hB : tB T n) {A : rcT} {MA : rmT} (hA : RJ σ0 μ0 u ρ ρm T n N d A MA) : RJ σ0 μ0 u ρ ρm T n (N + 2) d (f_X2_readCondition_o A) (f_X12_readCond_o (f_X12_readAllOf_o MA)) := by
  intro σ μ l b q hg hl
  have hM : f_X12_readCond_o (f_X12_readAllOf_o MA) (μ, ρm) 105 = (f_X12_readAllOf_o MA (μ, ρm) 105).bind (fun y1 => if y1.1 = 0 then some (0, y1.2) else (am_loop (f_X12_readCond_b9 (f_X12_readAllOf_o MA) (μ, ρm) 105) am_fuel y1.2).bind gmF) := by
    unfold f_X12_readCond_o
    exact mw_eq (mb := fun x => f_X12_readCond_b9 (f_X12_readAllOf_o MA) (x, ρm) 105) (fun _ => rfl) (fun r => by cases r <;> rfl)
  have hC : f_X2_readCondition_o A (σ, ρ) 79 (u + 9) (Int32.ofNat d) = am_loop (f_X2_readCondition_b5 A (σ, ρ) 79 (u + 9) (Int32.ofNat d)) am_fuel (1, 0, σ) := by
    unfold f_X2_readCondition_o
    rw [bid]
  rw [hM, hC]
  exact gl_all (IC := fun s => am_loop (f_X2_readCondition_b23 A (s, ρ) 79 (u + 9) (Int32.ofNat d) 0) am_fuel (1, 0, s)) (IM := fun m => f_X12_readAllOf_o MA (m, ρm) 105) (SM := fun m => f_X12_passes (m, ρm) 105 (1000 + 21)) (s := 21) (o := 11) (N := N + 1) (kb := false) (eo := -11) hr hrm hu (by decide) (by decide) (by decide) (fun st => rfl) (fun k s hk => cnd_c1 hr k s hk) (fun k s => cnd_c0 k s) (fun m => rfl) (fun m q b h1 h2 h3 => rm_pass1 (s := 21) hrm hB h1 h2 (by decide) h3) (fun m q b h1 h2 h3 => rm_pass0 (s := 21) hrm hB h1 h2 (by decide) h3) (fun s m l b q h1 h2 => all_j hr hrm hu hB hA h1 h2) hg hl
theorem rec_j (hr : rh ρ a0 c0) (hrm : rh ρm t0 u0) (hu : tu2 u) (hB : tB T n) : ∀ e d, d + e = 6 → (∀ fc fm, 2 * e < fc → 3 * e < fm → RJ σ0 μ0 u ρ ρm T n (3 + 2 * e) d (f_rec_X2_readAtom fc 0) (f_rec_X12_readAtom fm 0)) ∧ (∀ fc fm, 2 * e + 1 < fc → 3 * e + 2 < fm → RJ σ0 μ0 u ρ ρm T n (5 + 2 * e) d (f_rec_X2_readAtom fc 1) (f_rec_X12_readAtom fm 2)) := by
  have cond : ∀ e d, (∀ fc fm, 2 * e < fc → 3 * e < fm → RJ σ0 μ0 u ρ ρm T n (3 + 2 * e) d (f_rec_X2_readAtom fc 0) (f_rec_X12_readAtom fm 0)) → (∀ fc fm, 2 * e + 1 < fc → 3 * e + 2 < fm → RJ σ0 μ0 u ρ ρm T n (5 + 2 * e) d (f_rec_X2_readAtom fc 1) (f_rec_X12_readAtom fm 2)) := by
    intro e d h fc fm h1 h2
    obtain ⟨fc, rfl⟩ : ∃ f, fc = f + 1 := ⟨fc - 1, by omega⟩
    obtain ⟨fm, rfl⟩ : ∃ f, fm = f + 1 + 1 := ⟨fm - 2, by omega⟩
    have := cond_j hr hrm hu hB (h fc fm (by omega) (by omega))
    rw [show 3 + 2 * e + 2 = 5 + 2 * e by omega] at this
    exact this
  intro e
  induction e with
  | zero =>
    intro d hd
    have hA : ∀ fc fm, 2 * 0 < fc → 3 * 0 < fm → RJ σ0 μ0 u ρ ρm T n (3 + 2 * 0) d (f_rec_X2_readAtom fc 0) (f_rec_X12_readAtom fm 0) := by
      intro fc fm h1 h2
      obtain ⟨fc, rfl⟩ : ∃ f, fc = f + 1 := ⟨fc - 1, by omega⟩
      obtain ⟨fm, rfl⟩ : ∃ f, fm = f + 1 := ⟨fm - 1, by omega⟩
      have := atom_j (σ0 := σ0) (μ0 := μ0) (d := d) (A := f_rec_X2_readAtom fc 0) (C := f_rec_X2_readAtom fc 1) (MA := f_rec_X12_readAtom fm 0) (MC := f_rec_X12_readAtom fm 2) hr hrm hu hB (by omega) (fun z => by omega) (fun z => by omega)
      rw [show 6 - d = 0 by omega] at this
      exact this
    exact ⟨hA, cond 0 d hA⟩
  | succ e ih =>
    intro d hd
    obtain ⟨i1, i2⟩ := ih (d + 1) (by omega)
    have hA : ∀ fc fm, 2 * (e + 1) < fc → 3 * (e + 1) < fm → RJ σ0 μ0 u ρ ρm T n (3 + 2 * (e + 1)) d (f_rec_X2_readAtom fc 0) (f_rec_X12_readAtom fm 0) := by
      intro fc fm h1 h2
      obtain ⟨fc, rfl⟩ : ∃ f, fc = f + 1 := ⟨fc - 1, by omega⟩
      obtain ⟨fm, rfl⟩ : ∃ f, fm = f + 1 := ⟨fm - 1, by omega⟩
      have := atom_j (σ0 := σ0) (μ0 := μ0) (d := d) (A := f_rec_X2_readAtom fc 0) (C := f_rec_X2_readAtom fc 1) (MA := f_rec_X12_readAtom fm 0) (MC := f_rec_X12_readAtom fm 2) hr hrm hu hB (by omega) (fun z => by rw [show 5 - d = e by omega]; exact i1 fc fm (by omega) (by omega)) (fun z => by rw [show 5 - d = e by omega]; exact i2 fc fm (by omega) (by omega))
      rw [show 6 - d = e + 1 by omega] at this
      exact this
    exact ⟨hA, cond (e + 1) d hA⟩
/-! the end of a line -/
theorem c_endL (hr : rh ρ a0 c0) (hu : tu2 u) {k c : Nat} (hk : k < 12) (h0 : σ (u + 9) 0 = Int32.ofNat k) (h1 : σ (u + 9) 1 = Int32.ofNat c) (v : Int32) : f_X1_endLine (σ, ρ) (u + 9) v = some (am_u2 (am_u2 (am_u2 σ (u + 10) k v) (u + 11) k (Int32.ofNat c)) (u + 9) 0 (Int32.ofNat (k + 1))) := by
  obtain ⟨tu, -⟩ := tu2_n hu
  have hl := ln_t tu
  unfold f_X1_endLine
  simp only [h0, rd_l hr tu (show (2, 1, 10) ∈ _ by decide), rd_l hr tu (show (3, 1, 11) ∈ _ by decide), bnd]
  rw [if_pos (show Int32.ofNat k < 12 from (on_lt (b := 12) (by omega) (by decide)).mpr hk), st_on (by omega) (by omega), bnd, u2_ne (show u + 9 ≠ u + 10 by omega), u2_ne (show u + 9 ≠ u + 10 by omega), h0, h1, st_on (by omega) (by omega), bnd, u2_ne (show u + 9 ≠ u + 11 by omega), u2_ne (show u + 9 ≠ u + 10 by omega), h0, on_s]
theorem seg_a {l ls : List (Nat × Nat)} {a c : Nat} (h1 : a ≤ c) (h2 : c ≤ l.length) : ((l ++ ls).drop a).take (c - a) = (l.drop a).take (c - a) := by
  rw [List.drop_append_of_le_length (by omega), List.take_append_of_le_length (by rw [List.length_drop]; omega)]
theorem seg_b {l ls : List (Nat × Nat)} : ((l ++ ls).drop l.length).take ((l ++ ls).length - l.length) = ls := by
  rw [List.drop_left, List.length_append, Nat.add_sub_cancel_left, List.take_length]
theorem i1024 {k : Nat} : (1024 : Int32) + 3 * Int32.ofNat k = Int32.ofNat (1024 + 3 * k) := by rw [show (3 : Int32) = Int32.ofNat 3 from rfl, on_mul, show (1024 : Int32) = Int32.ofNat 1024 from rfl, on_add]
end VF
