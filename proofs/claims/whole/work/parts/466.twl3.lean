section TY
variable {σ σ0 μ μ0 τ ν κ : sg} {ρ ρm : rg} {n b q u a0 c0 t0 u0 h : Nat} {T : Nat → Int32} {x : wg}
theorem hs_ok (hj : JT σ0 μ0 u σ μ) (hH : nH (μ 106) < 8) {σ' μ' : sg} (k1 : kT u σ0 σ') (k2 : kW μ0 μ') {y : wg} (hy : y = μ' 106)
    (s0 : σ' u 0 = Int32.ofNat (nH (μ 106) + 1)) (sj : ∀ j, j ≠ 0 → σ' u j = σ u j) (si : ∀ i j, 1 ≤ i → i ≤ 5 → j ≠ nH (μ 106) → σ' (u + i) j = σ (u + i) j) (s6 : σ' (u + 6) = σ (u + 6)) (s7 : σ' (u + 7) = σ (u + 7))
    (sh : ∀ k, k < 5 → σ' (u + 1 + k) (nH (μ 106)) = y (8 + 15 * nH (μ 106) + k))
    (y0 : y 0 = Int32.ofNat (nH (μ 106) + 1)) (yo : ∀ k, k ≠ 0 → ¬ (8 + 15 * nH (μ 106) ≤ k ∧ k < 23 + 15 * nH (μ 106)) → y k = μ 106 k) (yw : ∀ v, v < 10 → y (13 + 15 * nH (μ 106) + v) = 0)
    (ya : (∃ a, a < 16 ∧ y (8 + 15 * nH (μ 106)) = Int32.ofNat a) ∧ (∃ a, a < 16 ∧ y (9 + 15 * nH (μ 106)) = Int32.ofNat a) ∧ (∃ a, 1 ≤ a ∧ a < 31 ∧ y (10 + 15 * nH (μ 106)) = Int32.ofNat a) ∧ (∃ a, a < 1000 ∧ y (11 + 15 * nH (μ 106)) = Int32.ofNat a) ∧ (y (12 + 15 * nH (μ 106)) = 0 ∨ y (12 + 15 * nH (μ 106)) = 1)) : JT σ0 μ0 u σ' μ' := by
  obtain ⟨j1, j2, ⟨⟨f0, f1, f2, f3, f4, f5⟩, th, tv, tww⟩, hw⟩ := hj
  have hW := (wv_W hw).2
  have hN := (wv_R hw).2
  obtain ⟨H, eHH⟩ : ∃ H, H = nH (μ 106) := ⟨_, rfl⟩
  have tww' : ∀ g, g < 8 → ∀ v, v < 10 → σ (u + 7) (10 * g + v) = if g < nH (μ 106) then zw (wd (μ 106) g v) else -1 := tww
  have th' : ∀ g, g < nH (μ 106) → σ (u + 1) g = μ 106 (8 + 15 * g) ∧ σ (u + 2) g = μ 106 (9 + 15 * g) ∧ σ (u + 3) g = μ 106 (10 + 15 * g) ∧ σ (u + 4) g = μ 106 (11 + 15 * g) ∧ σ (u + 5) g = μ 106 (12 + 15 * g) := th
  have wr := fun r (hr : r < nR (μ 106)) => wv_r hw hr
  have wa := fun g (hg : g < nH (μ 106)) => wv_at hw hg
  have ww := fun g (hg : g < nH (μ 106)) v (hv : v < 10) => wv_wd hw hg hv
  rw [← eHH] at hH s0 si sh y0 yo yw ya tww' th' wr wa ww
  obtain ⟨wy, eH, eW, -⟩ := wv_mk (x := y) (H := H + 1) (W := nW (μ 106)) (N := nR (μ 106)) y0 (by omega) (by rw [yo 1 (by omega) (by omega)]; exact (wv_W hw).1) (wv_W hw).2 (by rw [yo 4 (by omega) (by omega)]; exact (wv_R hw).1) (wv_R hw).2
    (fun a ha v hv => by
      by_cases c : a = H
      · rw [c, yw v hv]; exact ⟨0, by omega, by omega, fun _ => rfl, rfl⟩
      · rw [yo _ (by omega) (by omega)]; obtain ⟨q1, q2, q3, q4⟩ := ww a (by omega) v hv; exact ⟨_, q2, q3, q4, q1⟩)
    (fun g hg => by
      by_cases c : g = H
      · rw [c]; exact ya
      · rw [yo _ (by omega) (by omega), yo _ (by omega) (by omega), yo _ (by omega) (by omega), yo _ (by omega) (by omega), yo _ (by omega) (by omega)]; exact wa g (by omega))
    (fun v hv => by rw [yo _ (by omega) (by omega)]; exact wv_ur hw hv)
    (by rw [yo _ (by omega) (by omega)]; exact wv_x hw) (by rw [yo _ (by omega) (by omega)]; exact wv_y hw)
    (fun r hr => by
      rw [yo _ (by omega) (by omega), yo _ (by omega) (by omega), yo _ (by omega) (by omega), yo _ (by omega) (by omega)]
      obtain ⟨r1, ⟨a, a1, a2⟩, r3, r4⟩ := wr r hr
      exact ⟨r1, ⟨a, by omega, a2⟩, r3, r4⟩) (by rw [yo 2 (by omega) (by omega)]; exact wv_2 hw)
  refine ⟨k1, k2, ?_, by rw [← hy]; exact wy⟩
  rw [← hy]
  refine ⟨⟨?_, ?_, ?_, ?_, ?_, ?_⟩, fun g hg => ?_, fun w hw1 => ?_, fun g hg w hw1 => ?_⟩
  · rw [s0, y0]
  · rw [sj 1 (by decide), yo 1 (by omega) (by omega)]; exact f1
  · rw [sj 2 (by decide), yo 2 (by omega) (by omega)]; exact f2
  · rw [sj 3 (by decide), yo 5 (by omega) (by omega)]; exact f3
  · rw [sj 4 (by decide), yo 6 (by omega) (by omega)]; exact f4
  · rw [sj 5 (by decide), yo 7 (by omega) (by omega)]; exact f5
  · rw [eH] at hg
    by_cases c : g = H
    · rw [c]
      have b0 := sh 0 (by decide)
      have b1 := sh 1 (by decide)
      have b2 := sh 2 (by decide)
      have b3 := sh 3 (by decide)
      have b4 := sh 4 (by decide)
      rw [show u + 1 + 1 = u + 2 by omega, show 8 + 15 * H + 1 = 9 + 15 * H by omega] at b1
      rw [show u + 1 + 2 = u + 3 by omega, show 8 + 15 * H + 2 = 10 + 15 * H by omega] at b2
      rw [show u + 1 + 3 = u + 4 by omega, show 8 + 15 * H + 3 = 11 + 15 * H by omega] at b3
      rw [show u + 1 + 4 = u + 5 by omega, show 8 + 15 * H + 4 = 12 + 15 * H by omega] at b4
      exact ⟨b0, b1, b2, b3, b4⟩
    · rw [si 1 g (by omega) (by omega) c, si 2 g (by omega) (by omega) c, si 3 g (by omega) (by omega) c, si 4 g (by omega) (by omega) c, si 5 g (by omega) (by omega) c, yo _ (by omega) (by omega), yo _ (by omega) (by omega), yo _ (by omega) (by omega), yo _ (by omega) (by omega), yo _ (by omega) (by omega)]
      exact th' g (by omega)
  · rw [eW] at hw1
    rw [s6, yo _ (by omega) (by omega)]
    exact tv w hw1
  · rw [eH, s7, tww' g hg w hw1]
    by_cases c : g = H
    · rw [if_neg (by omega), if_pos (by omega)]
      have : wd y g w = 0 := by unfold wd; rw [c, yw w hw1]; rfl
      rw [this, zw_0]
    · by_cases d : g < H
      · rw [if_pos d, if_pos (by omega)]
        unfold wd
        rw [yo _ (by omega) (by omega)]
      · rw [if_neg d, if_neg (by omega)]
/-! the four numbers of a house -/
def psN (T : Nat → Int32) (n b : Nat) : Nat → Nat
  | 0 => b
  | k + 1 => nx T n (psN T n b k)
def hLo (k : Nat) : Nat := if k = 2 then 1 else 0
def hHi (k : Nat) : Nat := if k < 2 then 16 else if k = 2 then 31 else 1000
def rkN (T : Nat → Int32) (n b k : Nat) : Option Nat := numR T n (psN T n b k) (hLo k) (hHi k)
theorem hLo_l {k : Nat} : hLo k < 1000 ∧ hHi k < 2000 := by unfold hLo hHi; split <;> split <;> (try split) <;> omega
theorem numR_r {lo H v : Nat} (h : numR T n b lo H = some v) : lo ≤ v ∧ v < H := by
  unfold numR at h
  cases hv : numV T n b with
  | none => rw [hv] at h; cases h
  | some w =>
    rw [hv] at h
    have h2 : (if lo ≤ w ∧ w < H then some w else none) = some v := h
    by_cases c : lo ≤ w ∧ w < H
    · rw [if_pos c] at h2; injection h2 with h2; omega
    · rw [if_neg c] at h2; cases h2
def nsF (ρ : rg) (o : Nat) (i lo hi : Int32) (σ : sg) : Option sg := (f_X4_number (σ, ρ) 77 lo hi).bind (fun y => am_st y.2 o i y.1)
theorem ns_b {o : Nat} {i lo hi : Int32} {β : Type} {g : sg → Option β} : (f_X4_number (σ, ρ) 77 lo hi).bind (fun y => (am_st y.2 o i y.1).bind g) = (nsF ρ o i lo hi σ).bind g := by
  unfold nsF
  cases f_X4_number (σ, ρ) 77 lo hi with
  | none => simp only [bnn]
  | some y => simp only [bnd]
def hG (ρ : rg) (u h : Nat) (T : Nat → Int32) (n b k : Nat) (τ : sg) : Prop :=
  (∃ v : Nat → Nat, (∀ i, i < k → rkN T n b i = some (v i)) ∧ cR τ ρ 77 T n (psN T n b k) ∧ τ 77 5 = -1 ∧ ∀ i, i < k → τ (u + 1 + i) h = Int32.ofNat (v i)) ∨
  (∃ j, j < k ∧ rkN T n b j = none ∧ (∀ i, i < j → rkN T n b i ≠ none) ∧ cR τ ρ 77 T n (psN T n b j) ∧ τ 77 5 = Int32.ofNat (psN T n b j))
def hF (u h : Nat) (τ0 τ : sg) : Prop := ∀ o j, o ≠ 77 → ¬ (u + 1 ≤ o ∧ o ≤ u + 4 ∧ j = h) → τ o j = τ0 o j
theorem ns_st (hu : tn u) (hu2 : u ≠ 46) (hB : tB T n) {τ0 : sg} (hh : h < 8) {k : Nat} (hk : k < 4) {lo hi : Int32} (e1 : lo = Int32.ofNat (hLo k)) (e2 : hi = Int32.ofNat (hHi k) - 1) (g : hG ρ u h T n b k τ) (f : hF u h τ0 τ) : ∃ τ', nsF ρ (u + 1 + k) (Int32.ofNat h) lo hi τ = some τ' ∧ hG ρ u h T n b (k + 1) τ' ∧ hF u h τ0 τ' := by
  have hu3 : 2 ≤ u ∧ u + 7 < 77 := by rcases hu with rfl | rfl | rfl <;> omega
  have hl : am_ln (u + 1 + k) = 8 := by
    have := ln_t hu
    have : k = 0 ∨ k = 1 ∨ k = 2 ∨ k = 3 := by omega
    rcases this with rfl | rfl | rfl | rfl
    · rw [show u + 1 + 0 = u + 1 by omega]; omega
    · rw [show u + 1 + 1 = u + 2 by omega]; omega
    · rw [show u + 1 + 2 = u + 3 by omega]; omega
    · rw [show u + 1 + 3 = u + 4 by omega]; omega
  have fr : ∀ (τ1 : sg) (v : Int32), kO 77 τ τ1 → hF u h τ0 (am_u2 τ1 (u + 1 + k) h v) := fun τ1 v k1 o j h1 h2 => by
    have : am_u2 τ1 (u + 1 + k) h v o j = τ1 o j := by unfold am_u2; rw [if_neg (fun z => h2 ⟨by omega, by omega, z.2⟩)]
    rw [this, k1 o h1]
    exact f o j h1 h2
  unfold nsF
  rcases g with ⟨v, g1, g2, g3, g4⟩ | ⟨j, j1, j2, j3, j4, j5⟩
  · rcases c_nI (lo := hLo k) (H := hHi k) g2 hB g3 e1 e2 hLo_l.1 hLo_l.2 with ⟨v1, τ1, r1, -, -, -, x1, c1, k1, o1⟩ | ⟨r1, τ1, x1, c1, k1, o1⟩
    · rw [x1, bnd]
      simp only
      rw [st_on (by omega) (by omega)]
      refine ⟨_, rfl, Or.inl ⟨fun i => if i = k then v1 else v i, fun i hi => ?_, cR_u c1 (by omega) (by omega), by rw [u2_ne (by omega)]; exact o1, fun i hi => ?_⟩, fr τ1 _ k1⟩
      · by_cases c : i = k
        · simp only [if_pos c]; rw [c]; exact r1
        · simp only [if_neg c]; exact g1 i (by omega)
      · by_cases c : i = k
        · simp only [if_pos c]; rw [c, u2_eq]
        · simp only [if_neg c]; rw [u2_ne (by omega), k1 _ (by omega)]; exact g4 i (by omega)
    · rw [x1, bnd]
      simp only
      rw [st_on (by omega) (by omega)]
      exact ⟨_, rfl, Or.inr ⟨k, by omega, r1, fun i hi z => (by rw [g1 i hi] at z; cases z), cR_u c1 (by omega) (by omega), by rw [u2_ne (by omega)]; exact o1⟩, fr τ1 _ k1⟩
  · have bn := j4.2.2.2.1
    have n4 := j4.2.2.1
    rw [c_num0 j4 hB (by rw [j5]; exact on_m1 (by omega)), bnd]
    simp only
    rw [st_on (by omega) (by omega)]
    exact ⟨_, rfl, Or.inr ⟨j, by omega, j2, j3, cR_u j4 (by omega) (by omega), by rw [u2_ne (by omega)]; exact j5⟩, fr τ _ (fun _ _ => rfl)⟩
theorem rm_h0 (hrm : rh ρm t0 u0) (hh : h < 8) : ∃ ν, am_loop (f_X12_readHouse_b15 (μ, ρm) 105 (Int32.ofNat h)) am_fuel (0, μ) = some ν ∧ (∀ o, o ≠ 106 → ν o = μ o) ∧ (∀ k, k < 15 → ν 106 (8 + 15 * h + k) = 0) ∧ (∀ k, ¬ (8 + 15 * h ≤ k ∧ k < 23 + 15 * h) → ν 106 k = μ 106 k) := by
  obtain ⟨d, l1, l2⟩ := lp_rule (body := f_X12_readHouse_b15 (μ, ρm) 105 (Int32.ofNat h)) 15 (fun k (x : Int32 × sg) => x.1 = Int32.ofNat k ∧ (∀ o, o ≠ 106 → x.2 o = μ o) ∧ (∀ i, i < k → x.2 106 (8 + 15 * h + i) = 0) ∧ (∀ k, ¬ (8 + 15 * h ≤ k ∧ k < 23 + 15 * h) → x.2 106 k = μ 106 k)) (fun (ν : sg) => (∀ o, o ≠ 106 → ν o = μ o) ∧ (∀ k, k < 15 → ν 106 (8 + 15 * h + k) = 0) ∧ (∀ k, ¬ (8 + 15 * h ≤ k ∧ k < 23 + 15 * h) → ν 106 k = μ 106 k)) (x := ((0 : Int32), μ)) ⟨rfl, fun _ _ => rfl, fun i hi => by omega, fun _ _ => rfl⟩ (fun k x hk hx => by
    obtain ⟨x1, x2⟩ := x
    obtain ⟨y1, y2, y3, y4⟩ := hx
    simp only at y1 y2 y3 y4
    subst y1
    unfold f_X12_readHouse_b15
    simp only
    by_cases c : k < 15
    · left
      rw [if_pos (show Int32.ofNat k < 15 from (on_lt (b := 15) (by omega) (by decide)).mpr c), rm_sets hrm hh c, bnd, on_s]
      refine ⟨_, rfl, c, rfl, fun o ho => (u2_row ho).trans (y2 o ho), fun i hi => ?_, fun i hi => ?_⟩
      · show am_u2 x2 106 _ _ 106 _ = 0
        by_cases e : i = k
        · rw [e, u2_eq]
        · rw [u2_nj (by omega)]; exact y3 i (by omega)
      · show am_u2 x2 106 _ _ 106 _ = _
        rw [u2_nj (by omega)]; exact y4 i hi
    · right
      rw [if_neg (show ¬ Int32.ofNat k < 15 from fun z => c ((on_lt (b := 15) (by omega) (by decide)).mp z))]
      exact ⟨_, rfl, y2, fun i hi => y3 i (by omega), y4⟩) (by decide)
  exact ⟨d, l1, l2⟩
def hM (h : Nat) (κ ν : sg) : Prop := (∀ o, o ≠ 105 → o ≠ 106 → ν o = κ o) ∧ (∀ j, j ≠ 7 → j ≠ 9 → ν 105 j = κ 105 j) ∧ (∀ k, ¬ (8 + 15 * h ≤ k ∧ k < 12 + 15 * h) → ν 106 k = κ 106 k)
theorem rm_h4 (hrm : rh ρm t0 u0) (hB : tB T n) (hh : h < 8) (hm : mS κ T n q) (hb : bgP T n q = b) : ∃ d, am_loop (f_X12_readHouse_b36 (κ, ρm) 105 (Int32.ofNat h)) am_fuel (0, κ) = some d ∧
    ((∃ (ν : sg) (q' : Nat) (v : Nat → Nat), d = Sum.inl ν ∧ (∀ i, i < 4 → rkN T n b i = some (v i) ∧ ν 106 (8 + 15 * h + i) = Int32.ofNat (v i)) ∧ mS ν T n q' ∧ bgP T n q' = psN T n b 4 ∧ hM h κ ν) ∨
     (∃ (ν : sg) (j : Nat), d = Sum.inr (0, ν) ∧ j < 4 ∧ rkN T n b j = none ∧ (∀ i, i < j → rkN T n b i ≠ none) ∧ ν 105 9 = Int32.ofNat (psN T n b j) ∧ hM h κ ν)) := by
  refine lp_rule (body := f_X12_readHouse_b36 (κ, ρm) 105 (Int32.ofNat h)) 4 (fun k (x : Int32 × sg) => x.1 = Int32.ofNat k ∧ hM h κ x.2 ∧ (∃ q', mS x.2 T n q' ∧ bgP T n q' = psN T n b k) ∧ ∃ v : Nat → Nat, ∀ i, i < k → rkN T n b i = some (v i) ∧ x.2 106 (8 + 15 * h + i) = Int32.ofNat (v i)) _ (x := ((0 : Int32), κ)) ⟨rfl, ⟨fun _ _ _ => rfl, fun _ _ _ => rfl, fun _ _ => rfl⟩, ⟨q, hm, hb⟩, fun _ => 0, fun i hi => by omega⟩ (fun k x hk hx => ?_) (by decide)
  obtain ⟨x1, x2⟩ := x
  obtain ⟨y1, y2, ⟨q', y3, y4⟩, v, y5⟩ := hx
  simp only at y1 y2 y3 y5
  subst y1
  unfold f_X12_readHouse_b36
  simp only
  by_cases c : k < 4
  · rw [if_neg (show ¬ (3 : Int32) < Int32.ofNat k from fun z => by have := (on_lt (a := 3) (by decide) (by omega)).mp z; omega)]
    have sel : (if Int32.ofNat k < 2 then ((f_X12_number (x2, ρm) 105 0 15).bind (fun y14 => some (y14.1, y14.2))) else (if Int32.ofNat k = 2 then ((f_X12_number (x2, ρm) 105 1 30).bind (fun y13 => some (y13.1, y13.2))) else ((f_X12_number (x2, ρm) 105 0 999).bind (fun y12 => some (y12.1, y12.2))))) = (f_X12_number (x2, ρm) 105 (Int32.ofNat (hLo k)) (Int32.ofNat (hHi k) - 1)).bind (fun y => some (y.1, y.2)) := by
      have : k = 0 ∨ k = 1 ∨ k = 2 ∨ k = 3 := by omega
      rcases this with rfl | rfl | rfl | rfl
      · rw [if_pos (by decide), show Int32.ofNat (hLo 0) = 0 by decide, show Int32.ofNat (hHi 0) - 1 = 15 by decide]
      · rw [if_pos (by decide), show Int32.ofNat (hLo 1) = 0 by decide, show Int32.ofNat (hHi 1) - 1 = 15 by decide]
      · rw [if_neg (by decide), if_pos (by decide), show Int32.ofNat (hLo 2) = 1 by decide, show Int32.ofNat (hHi 2) - 1 = 30 by decide]
      · rw [if_neg (by decide), if_neg (by decide), show Int32.ofNat (hLo 3) = 0 by decide, show Int32.ofNat (hHi 3) - 1 = 999 by decide]
    rw [sel]
    have hn := rm_num (lo := hLo k) (H := hHi k) hrm hB y3 y4 hLo_l.1 hLo_l.2
    cases e : rkN T n b k with
    | none =>
      right
      obtain ⟨ν, m1, m2, m9⟩ := hn.2 e
      rw [m1, bnd, bnd]
      simp only
      rw [if_pos m1n]
      refine ⟨_, rfl, Or.inr ⟨ν, k, rfl, c, e, fun i hi z => (by rw [(y5 i hi).1] at z; cases z), m9, fun o h1 h2 => (m2.1 o h1).trans (y2.1 o h1 h2), fun j h1 h2 => (m2.2 j h1 h2).trans (y2.2.1 j h1 h2), fun i hi => ?_⟩⟩
      rw [m2.1 106 (by decide)]
      exact y2.2.2 i hi
    | some w =>
      left
      obtain ⟨ν, m1, m2, m3⟩ := hn.1 w e
      have wl := numR_r e
      have wl2 := hLo_l (k := k)
      rw [m1, bnd, bnd]
      simp only
      rw [if_neg (show ¬ Int32.ofNat w < 0 from on_neg (by omega)), rm_sets hrm hh (by omega), bnd, on_s]
      refine ⟨_, rfl, c, rfl, ⟨fun o h1 h2 => ?_, fun j h1 h2 => ?_, fun i hi => ?_⟩, ⟨_, mS_u m3, rfl⟩, fun i => if i = k then w else v i, fun i hi => ?_⟩
      · show am_u2 ν 106 (8 + 15 * h + k) (Int32.ofNat w) o = _
        rw [u2_row h2, m2.1 o h1]; exact y2.1 o h1 h2
      · show am_u2 ν 106 (8 + 15 * h + k) (Int32.ofNat w) 105 j = _
        rw [u2_ne (by decide), m2.2 j h1 h2]; exact y2.2.1 j h1 h2
      · show am_u2 ν 106 (8 + 15 * h + k) (Int32.ofNat w) 106 i = _
        rw [u2_nj (by omega), m2.1 106 (by decide)]; exact y2.2.2 i hi
      · show _ ∧ am_u2 ν 106 (8 + 15 * h + k) (Int32.ofNat w) 106 _ = _
        by_cases d : i = k
        · simp only [if_pos d]
          rw [d, u2_eq]
          exact ⟨e, rfl⟩
        · simp only [if_neg d]
          rw [u2_nj (by omega), m2.1 106 (by decide)]
          exact y5 i (by omega)
  · right
    have : k = 4 := by omega
    subst this
    rw [if_pos (show (3 : Int32) < Int32.ofNat 4 by decide)]
    exact ⟨_, rfl, Or.inl ⟨x2, q', v, rfl, y5, y3, y4, y2⟩⟩
theorem ps_le (hb : b ≤ n) : ∀ k, psN T n b k ≤ n
  | 0 => hb
  | k + 1 => (bg_p (en_p (T := T) (ps_le hb k)).2.1).2.1
end TY
