section VA
variable {σ μ σ0 μ0 τ ν : sg} {ρ ρm : rg} {u d n b q t0 u0 a0 c0 : Nat} {T : Nat → Int32} {l : List (Nat × Nat)}
/-! the steps of a law, as they are read -/
theorem enc_all : (List.range 12).all (fun k => decide ((enc k 0).toInt16.toInt32 = enc k 0)) = true := by decide +kernel
theorem enc_5 : (List.range 1000).all (fun v => decide ((Int32.ofNat v).toInt16.toInt32 = Int32.ofNat v)) = true := by decide +kernel
theorem enc_s {k v : Nat} (hk : k < 12) (hv : v < 1000) : (enc k v).toInt16.toInt32 = enc k v := by
  by_cases c : k = 5
  · unfold enc
    rw [if_pos c]
    exact of_decide_eq_true (List.all_eq_true.mp enc_5 v (List.mem_range.mpr hv))
  · have : enc k v = enc k 0 := by unfold enc; rw [if_neg c, if_neg c]
    rw [this]
    exact of_decide_eq_true (List.all_eq_true.mp enc_all k (List.mem_range.mpr hk))
theorem i16_2 (x : Int32) : (x.toInt16.toInt32).toInt16.toInt32 = x.toInt16.toInt32 := by simp
def kLc (u : Nat) (σ τ : sg) : Prop := (∀ o, o ≠ 80 → o ≠ u + 9 → o ≠ u + 12 → τ o = σ o) ∧ (∀ j, j ≠ 1 → τ (u + 9) j = σ (u + 9) j)
def kLm (μ ν : sg) : Prop := (∀ o, o ≠ 105 → o ≠ 106 → ν o = μ o) ∧ (∀ j, j ≠ 7 → j ≠ 9 → j ≠ 10 → j ≠ 13 → ν 105 j = μ 105 j) ∧ (∀ k, k < 1060 → ν 106 k = μ 106 k)
def shO (u : Nat) (σ : sg) : Prop := ∀ i, i < 400 → (σ (u + 12) i).toInt16.toInt32 = σ (u + 12) i
def lst (σ μ : sg) (u : Nat) (l : List (Nat × Nat)) : Prop := l.length ≤ 400 ∧ σ (u + 9) 1 = Int32.ofNat l.length ∧ μ 105 13 = Int32.ofNat l.length ∧ ∀ i x, l[i]? = some x → σ (u + 12) i = enc x.1 x.2 ∧ μ 106 (1060 + 2 * i) = Int32.ofNat x.1 ∧ μ 106 (1061 + 2 * i) = Int32.ofNat x.2 ∧ x.1 < 12 ∧ x.2 < 1000
def LJ (σ0 μ0 : sg) (u d : Nat) (l : List (Nat × Nat)) (σ μ : sg) : Prop := kLc u σ0 σ ∧ kLm μ0 μ ∧ lst σ μ u l ∧ shO u σ ∧ μ 105 10 = Int32.ofNat d
def BD (σ0 : sg) (u : Nat) (ρ : rg) (T : Nat → Int32) (n bb : Nat) (σ : sg) : Prop := kLc u σ0 σ ∧ (∃ c, c ≤ 400 ∧ σ (u + 9) 1 = Int32.ofNat c) ∧ shO u σ ∧ cR σ ρ 80 T n bb ∧ σ 80 5 = Int32.ofNat bb
def GD (σ0 μ0 : sg) (u d : Nat) (ρ : rg) (T : Nat → Int32) (n : Nat) (l : List (Nat × Nat)) (b q : Nat) (σ μ : sg) : Prop := LJ σ0 μ0 u d l σ μ ∧ cR σ ρ 80 T n b ∧ σ 80 5 = -1 ∧ mS μ T n q ∧ bgP T n q = b
def gO (σ0 μ0 : sg) (u d : Nat) (ρ : rg) (T : Nat → Int32) (n : Nat) (l : List (Nat × Nat)) (b : Nat) (P : List (Nat × Nat) → Prop) (C : Option sg) (M : Option (Int32 × sg)) : Prop :=
  (∃ τ ν ls b' q', C = some τ ∧ M = some (1, ν) ∧ GD σ0 μ0 u d ρ T n (l ++ ls) b' q' τ ν ∧ P ls ∧ b + ls.length ≤ b') ∨
  (∃ τ ν bb, C = some τ ∧ M = some (0, ν) ∧ BD σ0 u ρ T n bb τ ∧ kLm μ0 ν ∧ ν 105 9 = Int32.ofNat bb)
def tu2 (u : Nat) : Prop := u = 2 ∨ u = 24
theorem tu2_n (h : tu2 u) : tn u ∧ u + 19 < 77 ∧ 2 ≤ u := by
  rcases h with rfl | rfl
  · exact ⟨Or.inl rfl, by decide, by decide⟩
  · exact ⟨Or.inr (Or.inl rfl), by decide, by decide⟩
theorem rd_in2 (hr : rh ρ a0 c0) : am_rd ρ 79 0 104 = some 80 := rh_rd hr (by decide) (by decide) (by decide +kernel)
theorem kLc_O (h : kLc u σ0 σ) (k : kO 80 σ τ) (hu : tu2 u) : kLc u σ0 τ := by
  have := tu2_n hu
  exact ⟨fun o h1 h2 h3 => (k o h1).trans (h.1 o h1 h2 h3), fun j hj => (by rw [k _ (by omega)]; exact h.2 j hj)⟩
theorem kLm_M (h : kLm μ0 μ) (k : kM μ ν) : kLm μ0 ν := ⟨fun o h1 h2 => (k.1 o h1).trans (h.1 o h1 h2), fun j h1 h2 h3 h4 => (k.2 j h1 h2).trans (h.2.1 j h1 h2 h3 h4), fun i hi => (by rw [k.1 106 (by decide)]; exact h.2.2 i hi)⟩
/-- the class adds a step -/
theorem c_addS (hr : rh ρ a0 c0) (hu : tu2 u) {c : Nat} (hc : c ≤ 400) (h1 : σ (u + 9) 1 = Int32.ofNat c) (hs : shO u σ) (v : Int32) : ∃ τ, f_X1_addStep (σ, ρ) (u + 9) v = some τ ∧ (∀ o, o ≠ u + 9 → o ≠ u + 12 → τ o = σ o) ∧ (∀ j, j ≠ 1 → τ (u + 9) j = σ (u + 9) j) ∧ (∃ c', c' ≤ 400 ∧ τ (u + 9) 1 = Int32.ofNat c') ∧ shO u τ ∧ (c < 400 → τ (u + 9) 1 = Int32.ofNat (c + 1) ∧ τ (u + 12) c = v.toInt16.toInt32 ∧ ∀ i, i ≠ c → τ (u + 12) i = σ (u + 12) i) := by
  obtain ⟨tu, -⟩ := tu2_n hu
  unfold f_X1_addStep
  simp only [h1]
  by_cases k : c < 400
  · rw [if_pos (show Int32.ofNat c < 400 from (on_lt (b := 400) (by omega) (by decide)).mpr k), rd_l hr tu (show (4, 3, 12) ∈ _ by decide), bnd, st_on (by have := ln_t tu; omega) (by omega), bnd, u2_ne (show u + 9 ≠ u + 12 by omega), h1, on_s, i16_2]
    refine ⟨_, rfl, fun o g1 g2 => (u2_row g1).trans (u2_row g2), fun j hj => (u2_nj hj).trans (u2_ne (by omega)), ⟨c + 1, by omega, u2_eq⟩, fun i hi => ?_, fun _ => ⟨u2_eq, ?_, fun i hi => ?_⟩⟩
    · rw [u2_ne (by omega)]
      by_cases e : i = c
      · rw [e, u2_eq, i16_2]
      · rw [u2_nj e]; exact hs i hi
    · rw [u2_ne (by omega), u2_eq]
    · rw [u2_ne (by omega), u2_nj hi]
  · rw [if_neg (show ¬ Int32.ofNat c < 400 from fun z => k ((on_lt (b := 400) (by omega) (by decide)).mp z))]
    exact ⟨σ, rfl, fun _ _ _ => rfl, fun _ _ => rfl, ⟨c, hc, h1⟩, hs, fun z => absurd z k⟩
theorem add_B (hr : rh ρ a0 c0) (hu : tu2 u) {bb : Nat} (h : BD σ0 u ρ T n bb σ) (v : Int32) : ∃ τ, f_X1_addStep (σ, ρ) (u + 9) v = some τ ∧ BD σ0 u ρ T n bb τ := by
  have hu' := tu2_n hu
  obtain ⟨h1, ⟨c, h2, h3⟩, h4, h5, h6⟩ := h
  obtain ⟨τ, a1, a2, a3, a4, a5, -⟩ := c_addS hr hu h2 h3 h4 v
  exact ⟨τ, a1, ⟨fun o g1 g2 g3 => (a2 o g2 g3).trans (h1.1 o g1 g2 g3), fun j hj => (a3 j hj).trans (h1.2 j hj)⟩, a4, a5, cR_k h5 (fun j _ => by rw [a2 80 (by omega) (by omega)]) (fun k => by rw [a2 1 (by omega) (by omega)]), by rw [a2 80 (by omega) (by omega)]; exact h6⟩
/-- the model emits -/
theorem rm_emit (hrm : rh ρm t0 u0) {c : Nat} (hc : c < 400) (h : μ 105 13 = Int32.ofNat c) (x y : Int32) : f_X12_emits (μ, ρm) 105 x y = some (am_u2 (am_u2 (am_u2 μ 106 (1060 + 2 * c) x) 106 (1061 + 2 * c) y) 105 13 (Int32.ofNat (c + 1))) := by
  unfold f_X12_emits
  simp only [m_w hrm, bnd, h]
  have e1 : (1060 : Int32) + 2 * Int32.ofNat c = Int32.ofNat (1060 + 2 * c) := by rw [show (2 : Int32) = Int32.ofNat 2 from rfl, on_mul, show (1060 : Int32) = Int32.ofNat 1060 from rfl, on_add]
  rw [e1, st_on (by rw [ln_106']; omega) (by omega), bnd, u2_ne (by decide), h, e1, on_s, st_on (by rw [ln_106']; omega) (by omega), bnd, u2_ne (by decide), u2_ne (by decide), h, on_s, show 1060 + 2 * c + 1 = 1061 + 2 * c by omega]
theorem em_k (h : kLm μ0 μ) {c : Nat} {x y z : Int32} : kLm μ0 (am_u2 (am_u2 (am_u2 μ 106 (1060 + 2 * c) x) 106 (1061 + 2 * c) y) 105 13 z) :=
  ⟨fun o h1 h2 => ((u2_row h1).trans ((u2_row h2).trans (u2_row h2))).trans (h.1 o h1 h2), fun j h1 h2 h3 h4 => ((u2_nj h4).trans ((u2_ne (by decide)).trans (u2_ne (by decide)))).trans (h.2.1 j h1 h2 h3 h4), fun i hi => ((u2_ne (by decide)).trans ((u2_nj (by omega)).trans (u2_nj (by omega)))).trans (h.2.2 i hi)⟩
theorem em_9 {c : Nat} {x y z : Int32} {j : Nat} (hj : j ≠ 13) : am_u2 (am_u2 (am_u2 μ 106 (1060 + 2 * c) x) 106 (1061 + 2 * c) y) 105 13 z 105 j = μ 105 j := by
  rw [u2_nj hj, u2_ne (by decide), u2_ne (by decide)]
/-- a step on both sides -/
theorem em_G (hr : rh ρ a0 c0) (hrm : rh ρm t0 u0) (hu : tu2 u) (h : GD σ0 μ0 u d ρ T n l b q σ μ) (hl : l.length < 400) {k v : Nat} (hk : k < 12) (hv : v < 1000) {e x y : Int32} (he : e = enc k v) (hx : x = Int32.ofNat k) (hy : y = Int32.ofNat v) : ∃ τ ν, f_X1_addStep (σ, ρ) (u + 9) e = some τ ∧ f_X12_emits (μ, ρm) 105 x y = some ν ∧ GD σ0 μ0 u d ρ T n (l ++ [(k, v)]) b q τ ν := by
  have hu' := tu2_n hu
  obtain ⟨⟨h1, h2, ⟨s1, s2, s3, s4⟩, h4, h5⟩, g1, g2, g3, g4⟩ := h
  obtain ⟨τ, a1, a2, a3, -, a5, a6⟩ := c_addS hr hu s1 s2 h4 e
  obtain ⟨a61, a7, a8⟩ := a6 hl
  subst he hx hy
  refine ⟨τ, _, a1, rm_emit hrm hl s3 _ _, ⟨⟨fun o g1 g2 g3 => (a2 o g2 g3).trans (h1.1 o g1 g2 g3), fun j hj => (a3 j hj).trans (h1.2 j hj)⟩, em_k h2, ⟨?_, ?_, ?_, fun i z hz => ?_⟩, a5, by rw [em_9 (by decide)]; exact h5⟩, cR_k g1 (fun j _ => by rw [a2 80 (by omega) (by omega)]) (fun k => by rw [a2 1 (by omega) (by omega)]), by rw [a2 80 (by omega) (by omega)]; exact g2, ⟨by rw [em_9 (by decide)]; exact g3.1, by rw [em_9 (by decide)]; exact g3.2.1, g3.2.2.1, g3.2.2.2.1, fun i hi => by rw [u2_ne (by decide), u2_ne (by decide), u2_ne (by decide)]; exact g3.2.2.2.2 i hi⟩, g4⟩
  · rw [List.length_append]; exact hl
  · rw [a61, List.length_append]; rfl
  · rw [u2_eq, List.length_append]; rfl
  · by_cases c : i = l.length
    · subst c
      rw [List.getElem?_append_right (Nat.le_refl _), Nat.sub_self] at hz
      have : z = (k, v) := by
        have hz' : some (k, v) = some z := hz
        injection hz' with hz'
        exact hz'.symm
      subst this
      refine ⟨by rw [a7, enc_s hk hv], by rw [u2_ne (by decide), u2_nj (by omega), u2_eq], by rw [u2_ne (by decide), u2_eq], hk, hv⟩
    · have hi : i < l.length := by
        apply Nat.lt_of_not_le
        intro y
        rw [List.getElem?_append_right y, List.getElem?_eq_none (by simp only [List.length_cons, List.length_nil]; omega)] at hz
        cases hz
      rw [List.getElem?_append_left hi] at hz
      obtain ⟨q1, q2, q3, q4⟩ := s4 i z hz
      refine ⟨by rw [a8 i c]; exact q1, by rw [u2_ne (by decide), u2_nj (by omega), u2_nj (by omega)]; exact q2, by rw [u2_ne (by decide), u2_nj (by omega), u2_nj (by omega)]; exact q3, q4⟩
theorem GD_k (hu : tu2 u) {b' q' : Nat} (h : GD σ0 μ0 u d ρ T n l b q σ μ) (k : kO 80 σ τ) (m : kM μ ν) (c : cR τ ρ 80 T n b') (o : τ 80 5 = -1) (ms : mS ν T n q') (hb : bgP T n q' = b') : GD σ0 μ0 u d ρ T n l b' q' τ ν := by
  have hu' := tu2_n hu
  obtain ⟨⟨h1, h2, ⟨s1, s2, s3, s4⟩, h4, h5⟩, -⟩ := h
  refine ⟨⟨kLc_O h1 k hu, kLm_M h2 m, ⟨s1, by rw [k _ (by omega)]; exact s2, by rw [m.2 13 (by decide) (by decide)]; exact s3, fun i z hz => ?_⟩, fun i hi => by rw [k _ (by omega)]; exact h4 i hi, by rw [m.2 10 (by decide) (by decide)]; exact h5⟩, c, o, ms, hb⟩
  rw [k _ (by omega), m.1 106 (by decide)]
  exact s4 i z hz
theorem BD_of (hu : tu2 u) {bb : Nat} (h : GD σ0 μ0 u d ρ T n l b q σ μ) (k : kO 80 σ τ) (c : cR τ ρ 80 T n bb) (o : τ 80 5 = Int32.ofNat bb) : BD σ0 u ρ T n bb τ := by
  have hu' := tu2_n hu
  obtain ⟨⟨h1, h2, ⟨s1, s2, s3, s4⟩, h4, h5⟩, -⟩ := h
  exact ⟨kLc_O h1 k hu, ⟨l.length, s1, by rw [k _ (by omega)]; exact s2⟩, fun i hi => by rw [k _ (by omega)]; exact h4 i hi, c, o⟩
theorem BD_m {bb : Nat} (h : BD σ0 u ρ T n bb σ) : σ 80 5 ≠ -1 := by
  rw [h.2.2.2.2]
  have := h.2.2.2.1.2.2.2.1
  have := h.2.2.2.1.2.2.1
  exact on_m1 (by omega)
end VA
