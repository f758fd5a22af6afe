section TN
variable {σ : sg} {ρ : rg} {t u : Nat} {w wi : wg}
def ev1 (f : Nat → Int32) (n k : Nat) (st : List Int32) : List Int32 :=
  if k ≤ 4 then f k :: st else if k = 5 then Int32.ofNat n :: st else
  if k = 9 then (match st with | x :: r => (if x = 0 then 1 else 0) :: r | _ => []) else
  match st with
  | b :: a :: r => (if k = 6 then a + b else if k = 7 then (if a < b then 1 else 0) else if k = 8 then (if b < a then 1 else 0) else if k = 10 then (if a = 1 ∧ b = 1 then 1 else 0) else (if a = 1 ∨ b = 1 then 1 else 0)) :: r
  | _ => []
def typ : List Bool → List Int32 → Prop
  | [], [] => True
  | b :: bs, v :: vs => (b = false → v = 0 ∨ v = 1) ∧ typ bs vs
  | _, _ => False
theorem typ_len : ∀ {bs : List Bool} {vs : List Int32}, typ bs vs → vs.length = bs.length
  | [], [], _ => rfl
  | b :: bs, v :: vs, h => by
    have := typ_len h.2
    simp [this]
  | [], _ :: _, h => False.elim h
  | _ :: _, [], h => False.elim h
def stk (row : Nat → Int32) : List Int32 → Prop
  | [] => True
  | v :: r => row r.length = v ∧ stk row r
theorem stk_cg {row row' : Nat → Int32} : ∀ {st : List Int32}, (∀ i, i < st.length → row' i = row i) → stk row st → stk row' st
  | [], _, _ => trivial
  | v :: r, h, g => ⟨(h r.length (by simp)).trans g.1, stk_cg (fun i hi => h i (by simp; omega)) g.2⟩
theorem typ_2 {bs : List Bool} {a b : Bool} {st : List Int32} (h : typ (a :: b :: bs) st) : ∃ x y r, st = x :: y :: r ∧ (a = false → x = 0 ∨ x = 1) ∧ (b = false → y = 0 ∨ y = 1) ∧ typ bs r := by
  match st, h with
  | x :: y :: r, h => exact ⟨x, y, r, rfl, h.1, h.2.1, h.2.2⟩
theorem typ_1 {bs : List Bool} {a : Bool} {st : List Int32} (h : typ (a :: bs) st) : ∃ x r, st = x :: r ∧ (a = false → x = 0 ∨ x = 1) ∧ typ bs r := by
  match st, h with
  | x :: r, h => exact ⟨x, r, rfl, h.1, h.2⟩
/-- what a step needs and leaves -/
theorem ck_cases {bs bs' : List Bool} {k : Nat} (h : ck1 bs k = some bs') : (k ≤ 5 ∧ bs.length < 40 ∧ bs' = true :: bs) ∨ (k = 6 ∧ ∃ r, bs = true :: true :: r ∧ bs' = true :: r) ∨ ((k = 7 ∨ k = 8) ∧ ∃ r, bs = true :: true :: r ∧ bs' = false :: r) ∨ (k = 9 ∧ ∃ r, bs = false :: r ∧ bs' = false :: r) ∨ ((k = 10 ∨ k = 11) ∧ ∃ r, bs = false :: false :: r ∧ bs' = false :: r) := by
  unfold ck1 at h
  by_cases c1 : k ≤ 5
  · rw [if_pos c1] at h
    by_cases c2 : bs.length < 40
    · rw [if_pos c2] at h; cases h; exact Or.inl ⟨c1, c2, rfl⟩
    · rw [if_neg c2] at h; cases h
  · rw [if_neg c1] at h
    by_cases c2 : k = 6
    · rw [if_pos c2] at h
      match bs, h with
      | true :: true :: r, h => cases h; exact Or.inr (Or.inl ⟨c2, r, rfl, rfl⟩)
    · rw [if_neg c2] at h
      by_cases c3 : k = 7 ∨ k = 8
      · rw [if_pos c3] at h
        match bs, h with
        | true :: true :: r, h => cases h; exact Or.inr (Or.inr (Or.inl ⟨c3, r, rfl, rfl⟩))
      · rw [if_neg c3] at h
        by_cases c4 : k = 9
        · rw [if_pos c4] at h
          match bs, h with
          | false :: r, h => cases h; exact Or.inr (Or.inr (Or.inr (Or.inl ⟨c4, r, rfl, rfl⟩)))
        · rw [if_neg c4] at h
          by_cases c5 : k = 10 ∨ k = 11
          · rw [if_pos c5] at h
            match bs, h with
            | false :: false :: r, h => cases h; exact Or.inr (Or.inr (Or.inr (Or.inr ⟨c5, r, rfl, rfl⟩)))
          · rw [if_neg c5] at h; cases h
theorem ite01 {p : Prop} [Decidable p] : (if p then (1 : Int32) else 0) = 0 ∨ (if p then (1 : Int32) else 0) = 1 := by by_cases h : p <;> simp [h]
theorem ev_typ {f : Nat → Int32} {n k : Nat} {bs bs' : List Bool} {st : List Int32} (h : ck1 bs k = some bs') (g : typ bs st) : typ bs' (ev1 f n k st) := by
  rcases ck_cases h with ⟨a, -, rfl⟩ | ⟨rfl, r, rfl, rfl⟩ | ⟨a, r, rfl, rfl⟩ | ⟨rfl, r, rfl, rfl⟩ | ⟨a, r, rfl, rfl⟩
  · unfold ev1
    by_cases c : k ≤ 4
    · rw [if_pos c]; exact ⟨(fun h => by cases h), g⟩
    · rw [if_neg c, if_pos (by omega)]; exact ⟨(fun h => by cases h), g⟩
  · obtain ⟨x, y, q, rfl, -, -, hq⟩ := typ_2 g
    exact ⟨(fun h => by cases h), hq⟩
  · obtain ⟨x, y, q, rfl, -, -, hq⟩ := typ_2 g
    rcases a with rfl | rfl
    · exact ⟨fun _ => ite01, hq⟩
    · exact ⟨fun _ => ite01, hq⟩
  · obtain ⟨x, q, rfl, -, hq⟩ := typ_1 g
    exact ⟨fun _ => ite01, hq⟩
  · obtain ⟨x, y, q, rfl, -, -, hq⟩ := typ_2 g
    rcases a with rfl | rfl
    · exact ⟨fun _ => ite01, hq⟩
    · exact ⟨fun _ => ite01, hq⟩
/-! the class's stack -/
def cst (t : Nat) (τ : sg) (st : List Int32) : Prop := τ (t + 9) 7 = Int32.ofNat st.length ∧ stk (τ (t + 14)) st
def kz (t : Nat) (σ τ : sg) : Prop := ∀ o j, ¬ (o = t + 9 ∧ j = 7) → o ≠ t + 14 → τ o j = σ o j
theorem kz_tr {σ τ υ : sg} (h : kz t σ τ) (g : kz t τ υ) : kz t σ υ := fun o j a b => (g o j a b).trans (h o j a b)
theorem c_push {a b : Nat} (hr : rh ρ a b) (ht : tn t) {τ : sg} {st : List Int32} (hl : st.length < 40) (h : cst t τ st) {v : Int32} : ∃ τ', f_X1_push (τ, ρ) (t + 9) v = some τ' ∧ cst t τ' (v :: st) ∧ kz t τ τ' := by
  have hln : am_ln (t + 14) = 40 := by rcases ht with rfl | rfl | rfl <;> decide
  obtain ⟨h1, h2⟩ := h
  unfold f_X1_push
  simp only [h1]
  rw [if_pos (show Int32.ofNat st.length < 40 from (on_lt (b := 40) (by omega) (by decide)).mpr hl), rd_l hr ht (show (6, 1, 14) ∈ _ by decide), bnd, st_on (by rw [hln]; omega) (by omega), bnd]
  have e : am_u2 τ (t + 14) st.length v (t + 9) 7 = Int32.ofNat st.length := by rw [u2_ne (by omega)]; exact h1
  rw [e, on_s]
  refine ⟨_, rfl, ⟨by rw [u2_eq]; rfl, by rw [u2_ne (by omega), u2_eq], stk_cg (fun i hi => by rw [u2_ne (by omega), u2_nj (by omega)]) h2⟩, fun o j q1 q2 => ?_⟩
  unfold am_u2
  rw [if_neg q1, if_neg (fun q => q2 q.1)]
theorem c_pop {a b : Nat} (hr : rh ρ a b) (ht : tn t) {τ : sg} {st : List Int32} {v : Int32} (hl : (v :: st).length ≤ 40) (h : cst t τ (v :: st)) : ∃ τ', f_X1_pop (τ, ρ) (t + 9) = some (v, τ') ∧ cst t τ' st ∧ kz t τ τ' := by
  have hln : am_ln (t + 14) = 40 := by rcases ht with rfl | rfl | rfl <;> decide
  obtain ⟨h1, h2, h3⟩ := h
  rw [List.length_cons] at h1 hl
  unfold f_X1_pop
  simp only [h1]
  rw [if_pos ((on_pos (by omega)).mpr (by omega)), rd_l hr ht (show (6, 1, 14) ∈ _ by decide), bnd, on_p (by omega), Nat.add_sub_cancel, u2_eq, ld_on (by rw [hln]; omega) (by omega), bnd, u2_ne (by omega), h2]
  refine ⟨_, rfl, ⟨u2_eq, stk_cg (fun i hi => by rw [u2_ne (by omega)]) h3⟩, fun o j q1 q2 => ?_⟩
  unfold am_u2
  rw [if_neg q1]
theorem c_join1 {a b : Nat} (hr : rh ρ a b) (ht : tn t) {τ : sg} {x y z : Int32} {r : List Int32} (hl : (x :: y :: r).length ≤ 40) (h : cst t τ (x :: y :: r)) {p : Int32} (h9 : p ≠ -9) (hz : z = if p = -10 then y &&& x else if p = -8 then (if x < y then 1 else 0) else if p = -7 then (if y < x then 1 else 0) else if p = -6 then y + x else y ||| x) : ∃ τ', f_X1_join (τ, ρ) (t + 9) p = some τ' ∧ cst t τ' (z :: r) ∧ kz t τ τ' := by
  obtain ⟨τ1, a1, a2, a3⟩ := c_pop hr ht hl h
  have hl2 : (y :: r).length ≤ 40 := by rw [List.length_cons] at hl ⊢; rw [List.length_cons] at hl; omega
  obtain ⟨τ2, b1, b2, b3⟩ := c_pop hr ht hl2 a2
  have hl3 : r.length < 40 := by rw [List.length_cons] at hl2; omega
  obtain ⟨τ3, c1, c2, c3⟩ := c_push hr ht hl3 b2 (v := z)
  refine ⟨τ3, ?_, c2, kz_tr (kz_tr a3 b3) c3⟩
  unfold f_X1_join
  rw [a1, bnd, if_neg h9, b1, bnd, if_neg h9]
  simp only
  by_cases q1 : p = -10
  · rw [if_pos q1] at hz ⊢; rw [← hz, c1]; rfl
  · rw [if_neg q1] at hz ⊢
    by_cases q2 : p = -8
    · rw [if_pos q2] at hz ⊢
      have : (if x < y then some (1 : Int32) else some 0) = some z := by rw [hz]; by_cases k : x < y <;> simp [k]
      rw [this, bnd, c1]; rfl
    · rw [if_neg q2] at hz ⊢
      by_cases q3 : p = -7
      · rw [if_pos q3] at hz ⊢
        have : (if y < x then some (1 : Int32) else some 0) = some z := by rw [hz]; by_cases k : y < x <;> simp [k]
        rw [this, bnd, c1]; rfl
      · rw [if_neg q3] at hz ⊢
        by_cases q4 : p = -6
        · rw [if_pos q4] at hz ⊢; rw [← hz, c1]; rfl
        · rw [if_neg q4] at hz ⊢; rw [← hz, c1]; rfl
theorem c_not {a b : Nat} (hr : rh ρ a b) (ht : tn t) {τ : sg} {x : Int32} {r : List Int32} (hl : (x :: r).length ≤ 40) (h : cst t τ (x :: r)) : ∃ τ', f_X1_join (τ, ρ) (t + 9) (-9) = some τ' ∧ cst t τ' ((if x = 0 then 1 else 0) :: r) ∧ kz t τ τ' := by
  obtain ⟨τ1, a1, a2, a3⟩ := c_pop hr ht hl h
  have hl3 : r.length < 40 := by rw [List.length_cons] at hl; omega
  obtain ⟨τ3, c1, c2, c3⟩ := c_push hr ht hl3 a2 (v := if x = 0 then 1 else 0)
  refine ⟨τ3, ?_, c2, kz_tr a3 c3⟩
  unfold f_X1_join
  rw [a1, bnd, if_pos rfl]
  have : (if x = 0 then some (1 : Int32) else some 0) = some (if x = 0 then 1 else 0) := by by_cases k : x = 0 <;> simp [k]
  simp only
  rw [this, bnd, c1]; rfl
/-- a step of the class -/
theorem c_step {a b : Nat} (hr : rh ρ a b) (ht : tn t) {τ : sg} {f : Nat → Int32} {n k : Nat} {bs bs' : List Bool} {st : List Int32} (hk : ck1 bs k = some bs') (hn : n < 1000) (hl : bs.length ≤ 40) (g : typ bs st) (h : cst t τ st) (hf : ∀ j, j < 5 → τ (t + 13) j = f j) : ∃ τ', (if enc k n < 0 then (if enc k n < (-5) then ((f_X1_join (τ, ρ) (t + 9) (enc k n)).bind (fun σ9 => some σ9)) else ((am_rd ρ (t + 9) 5 1).bind (fun q10 => ((am_ld τ q10 ((-1) - enc k n)).bind (fun v11 => ((f_X1_push (τ, ρ) (t + 9) v11).bind (fun σ12 => some σ12))))))) else ((f_X1_push (τ, ρ) (t + 9) (enc k n)).bind (fun σ13 => some σ13))) = some τ' ∧ cst t τ' (ev1 f n k st) ∧ kz t τ τ' := by
  have hln : am_ln (t + 13) = 5 := by rcases ht with rfl | rfl | rfl <;> decide
  have hlen := typ_len g
  rcases ck_cases hk with ⟨a, hb, rfl⟩ | ⟨rfl, r, rfl, rfl⟩ | ⟨a, r, rfl, rfl⟩ | ⟨rfl, r, rfl, rfl⟩ | ⟨a, r, rfl, rfl⟩
  · by_cases c5 : k = 5
    · subst c5
      have e : enc 5 n = Int32.ofNat n := rfl
      rw [e, if_neg (on_neg (by omega))]
      obtain ⟨τ', a1, a2, a3⟩ := c_push hr ht (show st.length < 40 by omega) h (v := Int32.ofNat n)
      rw [a1]
      exact ⟨τ', rfl, a2, a3⟩
    · have e : enc k n < 0 ∧ ¬ enc k n < -5 ∧ (-1) - enc k n = Int32.ofNat k := by
        have : k = 0 ∨ k = 1 ∨ k = 2 ∨ k = 3 ∨ k = 4 := by omega
        rcases this with rfl | rfl | rfl | rfl | rfl <;> exact ⟨by show -(Int32.ofNat _) < 0; decide, by show ¬ -(Int32.ofNat _) < -5; decide, by show (-1) - -(Int32.ofNat _) = _; decide⟩
      rw [if_pos e.1, if_neg e.2.1, e.2.2, rd_l hr ht (show (5, 1, 13) ∈ _ by decide), bnd, ld_on (by rw [hln]; omega) (by omega), hf k (by omega), bnd]
      obtain ⟨τ', a1, a2, a3⟩ := c_push hr ht (show st.length < 40 by omega) h (v := f k)
      rw [a1]
      refine ⟨τ', rfl, ?_, a3⟩
      unfold ev1
      rw [if_pos (show k ≤ 4 by omega)]
      exact a2
  · obtain ⟨x, y, q, rfl, -, -, hq⟩ := typ_2 g
    rw [show enc 6 n = -6 by show -(Int32.ofNat 6) = -6; decide, if_pos (show (-6 : Int32) < 0 by decide), if_pos (show (-6 : Int32) < -5 by decide)]
    obtain ⟨τ', a1, a2, a3⟩ := c_join1 hr ht (by omega) h (p := -6) (z := y + x) (by decide) (by
      rw [if_neg (show ¬ (-6 : Int32) = -10 by decide), if_neg (show ¬ (-6 : Int32) = -8 by decide), if_neg (show ¬ (-6 : Int32) = -7 by decide), if_pos (show (-6 : Int32) = -6 from rfl)])
    rw [a1]
    exact ⟨τ', rfl, a2, a3⟩
  · obtain ⟨x, y, q, rfl, -, -, hq⟩ := typ_2 g
    rcases a with rfl | rfl
    · skip
      rw [show enc 7 n = -7 by show -(Int32.ofNat 7) = -7; decide, if_pos (show (-7 : Int32) < 0 by decide), if_pos (show (-7 : Int32) < -5 by decide)]
      obtain ⟨τ', a1, a2, a3⟩ := c_join1 hr ht (by omega) h (p := -7) (z := if y < x then 1 else 0) (by decide) (by
        rw [if_neg (show ¬ (-7 : Int32) = -10 by decide), if_neg (show ¬ (-7 : Int32) = -8 by decide), if_pos (show (-7 : Int32) = -7 from rfl)])
      rw [a1]
      exact ⟨τ', rfl, a2, a3⟩
    · skip
      rw [show enc 8 n = -8 by show -(Int32.ofNat 8) = -8; decide, if_pos (show (-8 : Int32) < 0 by decide), if_pos (show (-8 : Int32) < -5 by decide)]
      obtain ⟨τ', a1, a2, a3⟩ := c_join1 hr ht (by omega) h (p := -8) (z := if x < y then 1 else 0) (by decide) (by
        rw [if_neg (show ¬ (-8 : Int32) = -10 by decide), if_pos (show (-8 : Int32) = -8 from rfl)])
      rw [a1]
      exact ⟨τ', rfl, a2, a3⟩
  · obtain ⟨x, q, rfl, -, hq⟩ := typ_1 g
    rw [show enc 9 n = -9 by show -(Int32.ofNat 9) = -9; decide, if_pos (show (-9 : Int32) < 0 by decide), if_pos (show (-9 : Int32) < -5 by decide)]
    obtain ⟨τ', a1, a2, a3⟩ := c_not hr ht (by omega) h
    rw [a1]
    exact ⟨τ', rfl, a2, a3⟩
  · obtain ⟨x, y, q, rfl, hx, hy, hq⟩ := typ_2 g
    rcases a with rfl | rfl
    · skip
      rw [show enc 10 n = -10 by show -(Int32.ofNat 10) = -10; decide, if_pos (show (-10 : Int32) < 0 by decide), if_pos (show (-10 : Int32) < -5 by decide)]
      obtain ⟨τ', a1, a2, a3⟩ := c_join1 hr ht (by omega) h (p := -10) (z := if y = 1 ∧ x = 1 then 1 else 0) (by decide) (by
        rw [if_pos (show (-10 : Int32) = -10 from rfl)]
        rcases hx rfl with rfl | rfl <;> rcases hy rfl with rfl | rfl <;> decide)
      rw [a1]
      exact ⟨τ', rfl, a2, a3⟩
    · skip
      rw [show enc 11 n = -11 by show -(Int32.ofNat 11) = -11; decide, if_pos (show (-11 : Int32) < 0 by decide), if_pos (show (-11 : Int32) < -5 by decide)]
      obtain ⟨τ', a1, a2, a3⟩ := c_join1 hr ht (by omega) h (p := -11) (z := if y = 1 ∨ x = 1 then 1 else 0) (by decide) (by
        rw [if_neg (show ¬ (-11 : Int32) = -10 by decide), if_neg (show ¬ (-11 : Int32) = -8 by decide), if_neg (show ¬ (-11 : Int32) = -7 by decide), if_neg (show ¬ (-11 : Int32) = -6 by decide)]
        rcases hx rfl with rfl | rfl <;> rcases hy rfl with rfl | rfl <;> decide)
      rw [a1]
      exact ⟨τ', rfl, a2, a3⟩
end TN
