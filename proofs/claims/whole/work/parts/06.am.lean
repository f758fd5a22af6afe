/-! A RUN AS A FUNCTION: the state is what the rows and the fields hold, by the things' numbers (ints; references) -/
abbrev am_S : Type := (Nat → Nat → Int32) × (Nat → Nat → Option Nat)
/-- how a method ends: with an answer, or with the k-th exception -/
abbrev am_O : Type := Option Value ⊕ Nat
abbrev am_R : Type := am_O × am_S
/-- addresses; class numbers and slots; the rows' classes; the first address of ours; where the texts' bytes lie; the script's length and ints -/
abbrev am_E : Type := (Nat → Nat) × va_G × (Nat → ClassId) × Nat × (Nat → Nat) × Nat × (Nat → Int32)
def am_v (E : am_E) : Value → Value
  | .ref o => .ref (E.1 o)
  | v => v
def am_u2 {α : Type} (f : Nat → Nat → α) (o j : Nat) (v : α) : Nat → Nat → α := fun a b => if a = o ∧ b = j then v else f a b
def am_A (E : am_E) : Nat → Prop := fun q => E.2.2.2.1 ≤ q
def am_fv (E : am_E) (S : am_S) (o c j : Nat) : Value := if am_rf c j = true then va_rf ((S.2 o j).map E.1) else .int (S.1 o j)
def am_fl (E : am_E) (S : am_S) (o c : Nat) : List Value := (List.range (am_nf c)).map (am_fv E S o c)
def am_ent (E : am_E) (S : am_S) (o : Nat) : va_E :=
  if am_kd o = 1 then .inl (E.2.2.1 1, am_ln o, .inl (S.1 o))
  else if am_kd o = 2 then .inl (E.2.2.1 2, am_ln o, .inl (S.1 o))
  else if am_kd o = 3 then .inl (E.2.2.1 3, am_ln o, .inl (S.1 o))
  else if am_kd o = 4 then .inl (E.2.2.1 4, am_ln o, .inr (.inl (fun j => (S.1 o j).toInt64)))
  else .inr (am_kd o - 100, am_fl E S o (am_kd o - 100))
def am_ws (E : am_E) (S : am_S) : va_W := (List.range am_N).map (fun o => (E.1 o, am_ent E S o))
def am_tys (E : am_E) : List (ClassId × FieldType) := [(E.2.2.1 0, .int), (E.2.2.1 1, .int), (E.2.2.1 2, .byte), (E.2.2.1 3, .short), (E.2.2.1 4, .long)]
/-- the places of our things are ours and apart -/
def am_D (E : am_E) : Prop := (∀ i j, i < am_N → j < am_N → E.1 i = E.1 j → i = j) ∧ ∀ i, i < am_N → E.2.2.2.1 ≤ E.1 i
def am_rd (ρ : Nat → Nat → Option Nat) (o j k : Nat) : Option Nat := (ρ o j).bind (fun q => if am_kd q = k then some q else none)
def am_ld (σ : Nat → Nat → Int32) (a : Nat) (i : Int32) : Option Int32 := if i < 0 ∨ am_ln a ≤ i.toNatClampNeg then none else some (σ a i.toNatClampNeg)
def am_st (σ : Nat → Nat → Int32) (a : Nat) (i v : Int32) : Option (Nat → Nat → Int32) := if i < 0 ∨ am_ln a ≤ i.toNatClampNeg then none else some (am_u2 σ a i.toNatClampNeg v)
theorem am_kd_lt {o : Nat} (h : am_kd o ≠ 7) (h8 : am_kd o ≠ 8) (h9 : am_kd o ≠ 9) (h10 : am_kd o ≠ 10) : o < am_N := by
  unfold am_kd at h h8 h9 h10
  by_cases q : o < 123
  · exact q
  · rw [if_neg q] at h h8 h9 h10
    by_cases q1 : o = 900
    · rw [if_pos q1] at h8; exact absurd rfl h8
    · rw [if_neg q1] at h h9 h10
      by_cases q2 : 2000 ≤ o
      · rw [if_pos q2] at h10; exact absurd rfl h10
      · rw [if_neg q2] at h h9
        by_cases q3 : 1000 ≤ o
        · rw [if_pos q3] at h9; exact absurd rfl h9
        · rw [if_neg q3] at h; exact absurd rfl h
theorem am_ws_get {E : am_E} {S : am_S} {o : Nat} (h : o < am_N) : (am_ws E S)[o]? = some (E.1 o, am_ent E S o) := by
  simp [am_ws, h]
theorem am_ws_len {E : am_E} {S : am_S} : (am_ws E S).length = am_N := by simp [am_ws]
theorem am_ws_D {E : am_E} {S : am_S} (h : am_D E) : va_D (am_A E) (am_ws E S) := by
  refine ⟨fun i j p q hi hj hpq => ?_, fun k q hk => ?_⟩
  · have l1 : i < am_N := by rw [← am_ws_len (E := E) (S := S)]; exact (List.getElem?_eq_some_iff.mp hi).1
    have l2 : j < am_N := by rw [← am_ws_len (E := E) (S := S)]; exact (List.getElem?_eq_some_iff.mp hj).1
    rw [am_ws_get l1] at hi
    rw [am_ws_get l2] at hj
    cases hi
    cases hj
    exact h.1 i j l1 l2 hpq
  · have l1 : k < am_N := by rw [← am_ws_len (E := E) (S := S)]; exact (List.getElem?_eq_some_iff.mp hk).1
    rw [am_ws_get l1] at hk
    cases hk
    exact h.2 k l1
/-- another thing at one place -/
theorem am_ws_set {E : am_E} {S S' : am_S} {o : Nat} {x : va_E} (ho : am_ent E S' o = x) (hn : ∀ a, a ≠ o → am_ent E S' a = am_ent E S a) : (am_ws E S).set o (E.1 o, x) = am_ws E S' := by
  apply List.ext_getElem?
  intro k
  by_cases hk : k < am_N
  · rw [am_ws_get hk]
    by_cases e : k = o
    · subst e
      rw [List.getElem?_set_self (by rw [am_ws_len]; exact hk), ho]
    · rw [List.getElem?_set_ne (fun z => e z.symm), am_ws_get hk, hn k e]
  · rw [List.getElem?_eq_none (by rw [List.length_set, am_ws_len]; omega), List.getElem?_eq_none (by rw [am_ws_len]; omega)]
theorem am_ent_1 {E : am_E} {S : am_S} {o : Nat} (h : am_kd o = 1) : am_ent E S o = .inl (E.2.2.1 1, am_ln o, .inl (S.1 o)) := by unfold am_ent; rw [if_pos h]
theorem am_ent_2 {E : am_E} {S : am_S} {o : Nat} (h : am_kd o = 2) : am_ent E S o = .inl (E.2.2.1 2, am_ln o, .inl (S.1 o)) := by unfold am_ent; rw [if_neg (by omega), if_pos h]
theorem am_ent_3 {E : am_E} {S : am_S} {o : Nat} (h : am_kd o = 3) : am_ent E S o = .inl (E.2.2.1 3, am_ln o, .inl (S.1 o)) := by unfold am_ent; rw [if_neg (by omega), if_neg (by omega), if_pos h]
theorem am_ent_4 {E : am_E} {S : am_S} {o : Nat} (h : am_kd o = 4) : am_ent E S o = .inl (E.2.2.1 4, am_ln o, .inr (.inl (fun j => (S.1 o j).toInt64))) := by unfold am_ent; rw [if_neg (by omega), if_neg (by omega), if_neg (by omega), if_pos h]
theorem am_ent_o {E : am_E} {S : am_S} {o c : Nat} (h : am_kd o = 100 + c) : am_ent E S o = .inr (c, am_fl E S o c) := by
  unfold am_ent
  rw [if_neg (by omega), if_neg (by omega), if_neg (by omega), if_neg (by omega), show am_kd o - 100 = c by omega]
theorem am_fl_get {E : am_E} {S : am_S} {o c j : Nat} (h : j < am_nf c) : (am_fl E S o c)[j]? = some (am_fv E S o c j) := by simp [am_fl, h]
/-- an int of a thing changes: the others are as they were -/
theorem am_ent_ne {E : am_E} {S : am_S} {o j : Nat} {v : Int32} {a : Nat} (h : a ≠ o) : am_ent E (am_u2 S.1 o j v, S.2) a = am_ent E S a := by
  have e : am_u2 S.1 o j v a = S.1 a := by
    funext b
    unfold am_u2
    rw [if_neg (fun z => h z.1)]
  unfold am_ent am_fl am_fv
  simp only [e]
theorem am_ent_neR {E : am_E} {S : am_S} {o j : Nat} {v : Option Nat} {a : Nat} (h : a ≠ o) : am_ent E (S.1, am_u2 S.2 o j v) a = am_ent E S a := by
  have e : am_u2 S.2 o j v a = S.2 a := by
    funext b
    unfold am_u2
    rw [if_neg (fun z => h z.1)]
  unfold am_ent am_fl am_fv
  simp only [e]
theorem am_u2_row {σ : Nat → Nat → Int32} {o j : Nat} {v : Int32} : am_u2 σ o j v o = upd (σ o) j v := by
  funext b
  unfold am_u2 upd
  by_cases e : b = j
  · rw [if_pos ⟨rfl, e⟩, if_pos e]
  · rw [if_neg (fun z => e z.2), if_neg e]
theorem am_fl_put {E : am_E} {S : am_S} {o c j : Nat} {v : Int32} (hj : j < am_nf c) (hr : am_rf c j = false) : am_fl E (am_u2 S.1 o j v, S.2) o c = (am_fl E S o c).set j (.int v) := by
  apply List.ext_getElem?
  intro k
  by_cases hk : k < am_nf c
  · rw [am_fl_get hk]
    by_cases e : k = j
    · subst e
      rw [List.getElem?_set_self (by simp [am_fl, hk])]
      simp [am_fv, hr, am_u2]
    · rw [List.getElem?_set_ne (fun z => e z.symm), am_fl_get hk]
      simp [am_fv, am_u2, e]
  · rw [List.getElem?_eq_none (by simp [am_fl]; omega), List.getElem?_eq_none (by simp [am_fl]; omega)]
theorem am_fl_putR {E : am_E} {S : am_S} {o c j : Nat} {q : Nat} (hj : j < am_nf c) (hr : am_rf c j = true) : am_fl E (S.1, am_u2 S.2 o j (some q)) o c = (am_fl E S o c).set j (.ref (E.1 q)) := by
  apply List.ext_getElem?
  intro k
  by_cases hk : k < am_nf c
  · rw [am_fl_get hk]
    by_cases e : k = j
    · subst e
      rw [List.getElem?_set_self (by simp [am_fl, hk])]
      simp [am_fv, hr, am_u2, va_rf]
    · rw [List.getElem?_set_ne (fun z => e z.symm), am_fl_get hk]
      simp [am_fv, am_u2, e]
  · rw [List.getElem?_eq_none (by simp [am_fl]; omega), List.getElem?_eq_none (by simp [am_fl]; omega)]
/-! the locals -/
def am_has (E : am_E) (ls : Array Slot) (nL : Nat) (L : List (Option Value)) : Prop := ls.size = nL ∧ lv_wf ls ∧ ∀ (i : Nat) (v : Value), L[i]? = some (some v) → v.category = 1 ∧ ls[i]? = some (.val (am_v E v))
theorem am_cat {E : am_E} {v : Value} (h : v.category = 1) : (am_v E v).category = 1 := by cases v <;> first | exact h | rfl
def am_pr (E : am_E) (L : List (Option Value)) : List (Nat × Value) := (List.range L.length).filterMap (fun i => (L[i]?.bind (fun o => o)).map (fun v => (i, am_v E v)))
theorem am_pr_mem {E : am_E} {L : List (Option Value)} {q : Nat × Value} : q ∈ am_pr E L ↔ ∃ v, L[q.1]? = some (some v) ∧ q.2 = am_v E v := by
  unfold am_pr
  rw [List.mem_filterMap]
  constructor
  · rintro ⟨i, -, h⟩
    cases hi : L[i]? with
    | none => rw [hi] at h; cases h
    | some o =>
      rw [hi] at h
      cases o with
      | none => cases h
      | some v => cases h; exact ⟨v, hi, rfl⟩
  · rintro ⟨v, h1, h2⟩
    refine ⟨q.1, List.mem_range.mpr (List.getElem?_eq_some_iff.mp h1).1, ?_⟩
    rw [h1]
    show some (q.1, am_v E v) = some q
    rw [← h2]
theorem am_has_lv {E : am_E} {ls : Array Slot} {nL : Nat} {L : List (Option Value)} (h : am_has E ls nL L) : lv_has ls nL (am_pr E L) := by
  refine ⟨h.1, h.2.1, fun q hq => ?_⟩
  obtain ⟨v, h1, h2⟩ := am_pr_mem.mp hq
  rw [h2]
  exact (h.2.2 q.1 v h1).2
theorem am_has_set {E : am_E} {ls ls' : Array Slot} {nL i : Nat} {L : List (Option Value)} {v : Value} (h : am_has E ls nL L) (hv : v.category = 1)
    (h' : lv_has ls' nL ((i, am_v E v) :: (am_pr E L).filter (fun q => !(q.1 == i) && !(q.1 + 1 == i && q.2.category == 2)))) : am_has E ls' nL (L.set i (some v)) := by
  refine ⟨h'.1, h'.2.1, fun j w hj => ?_⟩
  by_cases e : j = i
  · subst e
    have hl : j < L.length := by
      have := (List.getElem?_eq_some_iff.mp hj).1
      rwa [List.length_set] at this
    rw [List.getElem?_set_self hl] at hj
    cases hj
    exact ⟨hv, h'.2.2 (j, am_v E v) List.mem_cons_self⟩
  · rw [List.getElem?_set_ne (fun z => e z.symm)] at hj
    have hc := (h.2.2 j w hj).1
    refine ⟨hc, h'.2.2 (j, am_v E w) (List.mem_cons_of_mem _ (List.mem_filter.mpr ⟨am_pr_mem.mpr ⟨w, hj, rfl⟩, ?_⟩))⟩
    have hc2 : (am_v E w).category = 1 := am_cat hc
    simp [e, hc2]
