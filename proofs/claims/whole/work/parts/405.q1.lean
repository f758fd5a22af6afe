/-! loops: folds and first places -/
def fo {α : Type} (F : Nat → α → α) : Nat → α → α
  | 0, a => a
  | n + 1, a => F n (fo F n a)
theorem lp_fo {α γ δ : Type} {body : γ → Option (γ ⊕ δ)} (st : α → Nat → γ) (F : Nat → α → α) (n : Nat) (a0 : α) {d : δ} {x : γ} (hx : x = st a0 0) (hs : ∀ k a, k < n → body (st a k) = some (.inl (st (F k a) (k + 1)))) (he : body (st (fo F n a0) n) = some (.inr d)) (hn : n < 1000000) : am_loop body am_fuel x = some d :=
  lp_for n (fun k => st (fo F k a0) k) hx.symm (fun k hk => hs k _ hk) he (by omega)
theorem lp_sum {body : Int32 × Int32 → Option ((Int32 × Int32) ⊕ Int32)} (g : Nat → Int32) (n : Nat) (a0 : Int32) (hs : ∀ k a, k < n → body (a, Int32.ofNat k) = some (.inl (a + g k, Int32.ofNat (k + 1)))) (he : ∀ a, body (a, Int32.ofNat n) = some (.inr a)) (hn : n < 1000000) : am_loop body am_fuel (a0, 0) = some (a0 + sm g n) := by
  refine lp_for n (fun k => (a0 + sm g k, Int32.ofNat k)) ?_ (fun k hk => ?_) (he _) (by omega)
  · show (a0 + 0, (0 : Int32)) = _
    rw [Int32.add_zero]
  · show body _ = some (.inl (a0 + (sm g k + g k), _))
    rw [hs k _ hk, Int32.add_assoc]
def ff (q : Nat → Bool) : Nat → Nat → Option Nat
  | _, 0 => none
  | k, m + 1 => if q k then some k else ff q (k + 1) m
def fd {δ : Type} (d : Nat → δ) (e : δ) : Option Nat → δ
  | some j => d j
  | none => e
theorem lp_ffu {γ δ : Type} {body : γ → Option (γ ⊕ δ)} (st : Nat → γ) (q : Nat → Bool) (d : Nat → δ) (e : δ) : ∀ (m k fu : Nat), (∀ j, k ≤ j → j < k + m → body (st j) = some (if q j then .inr (d j) else .inl (st (j + 1)))) → body (st (k + m)) = some (.inr e) → m < fu → am_loop body fu (st k) = some (fd d e (ff q k m))
  | 0, k, fu, _, he, hf => by
    obtain ⟨fu, rfl⟩ : ∃ y, fu = y + 1 := ⟨fu - 1, by omega⟩
    rw [am_loop_s, show body (st k) = _ from he]; rfl
  | m + 1, k, fu, hs, he, hf => by
    obtain ⟨fu, rfl⟩ : ∃ y, fu = y + 1 := ⟨fu - 1, by omega⟩
    rw [am_loop_s, hs k (by omega) (by omega)]
    unfold ff
    by_cases hq : q k = true
    · rw [if_pos hq, if_pos hq]; rfl
    · rw [if_neg hq, if_neg hq]
      exact lp_ffu st q d e m (k + 1) fu (fun j h1 h2 => hs j (by omega) (by omega)) (by rw [show k + 1 + m = k + (m + 1) by omega]; exact he) (by omega)
theorem lp_ff {γ δ : Type} {body : γ → Option (γ ⊕ δ)} (st : Nat → γ) (q : Nat → Bool) (d : Nat → δ) (e : δ) (n : Nat) {x : γ} (hx : x = st 0) (hs : ∀ j, j < n → body (st j) = some (if q j then .inr (d j) else .inl (st (j + 1)))) (he : True → body (st n) = some (.inr e)) (hn : n < 1000000) : am_loop body am_fuel x = some (fd d e (ff q 0 n)) := by
  rw [hx]
  exact lp_ffu st q d e n 0 am_fuel (fun j _ h2 => hs j (by omega)) (by rw [Nat.zero_add]; exact he trivial) (show n < 1000000000000 by omega)
def anyN (q : Nat → Bool) (n : Nat) : Bool := fo (fun k b => b || q k) n false
def allN (q : Nat → Bool) (n : Nat) : Bool := fo (fun k b => b && q k) n true
theorem anyN_iff {q : Nat → Bool} : ∀ {n : Nat}, anyN q n = true ↔ ∃ k, k < n ∧ q k = true
  | 0 => ⟨fun h => by simp [anyN, fo] at h, fun ⟨k, hk, _⟩ => by omega⟩
  | n + 1 => by
    have ih := anyN_iff (q := q) (n := n)
    unfold anyN at ih ⊢
    simp only [fo, Bool.or_eq_true, ih]
    constructor
    · rintro (⟨k, hk, h⟩ | h)
      · exact ⟨k, by omega, h⟩
      · exact ⟨n, by omega, h⟩
    · rintro ⟨k, hk, h⟩
      by_cases e : k = n
      · subst e; exact Or.inr h
      · exact Or.inl ⟨k, by omega, h⟩
theorem allN_iff {q : Nat → Bool} : ∀ {n : Nat}, allN q n = true ↔ ∀ k, k < n → q k = true
  | 0 => ⟨fun _ k hk => by omega, fun _ => rfl⟩
  | n + 1 => by
    have ih := allN_iff (q := q) (n := n)
    unfold allN at ih ⊢
    simp only [fo, Bool.and_eq_true, ih]
    constructor
    · rintro ⟨h1, h2⟩ k hk
      by_cases e : k = n
      · subst e; exact h2
      · exact h1 k (by omega)
    · intro h
      exact ⟨fun k hk => h k (by omega), h n (by omega)⟩
theorem ff_none {q : Nat → Bool} : ∀ {m k : Nat}, ff q k m = none ↔ ∀ j, k ≤ j → j < k + m → q j = false
  | 0, k => ⟨fun _ j h1 h2 => by omega, fun _ => rfl⟩
  | m + 1, k => by
    unfold ff
    by_cases hq : q k = true
    · rw [if_pos hq]
      constructor
      · intro h; cases h
      · intro h; rw [h k (by omega) (by omega)] at hq; cases hq
    · rw [if_neg hq, ff_none]
      constructor
      · intro h j h1 h2
        by_cases e : j = k
        · subst e; simpa using hq
        · exact h j (by omega) (by omega)
      · intro h j h1 h2; exact h j (by omega) (by omega)
theorem ff_some {q : Nat → Bool} : ∀ {m k i : Nat}, ff q k m = some i ↔ (k ≤ i ∧ i < k + m ∧ q i = true ∧ ∀ j, k ≤ j → j < i → q j = false)
  | 0, k, i => ⟨fun h => (by cases h), fun h => by omega⟩
  | m + 1, k, i => by
    unfold ff
    by_cases hq : q k = true
    · rw [if_pos hq]
      constructor
      · intro h; cases h; exact ⟨by omega, by omega, hq, fun j h1 h2 => by omega⟩
      · rintro ⟨h1, h2, h3, h4⟩
        by_cases e : k = i
        · rw [e]
        · rw [h4 k (by omega) (by omega)] at hq; cases hq
    · rw [if_neg hq, ff_some]
      constructor
      · rintro ⟨h1, h2, h3, h4⟩
        refine ⟨by omega, by omega, h3, fun j g1 g2 => ?_⟩
        by_cases e : j = k
        · subst e; simpa using hq
        · exact h4 j (by omega) g2
      · rintro ⟨h1, h2, h3, h4⟩
        have : k ≠ i := fun e => by rw [e] at hq; exact hq h3
        exact ⟨by omega, by omega, h3, fun j g1 g2 => h4 j (by omega) g2⟩
theorem ff_any {q : Nat → Bool} {n : Nat} : (ff q 0 n).isSome = anyN q n := by
  cases h : ff q 0 n with
  | none =>
    have h1 := ff_none.mp h
    cases h2 : anyN q n with
    | false => rfl
    | true =>
      obtain ⟨k, hk, hq⟩ := anyN_iff.mp h2
      rw [h1 k (by omega) (by omega)] at hq; cases hq
  | some i =>
    obtain ⟨h1, h2, h3, h4⟩ := ff_some.mp h
    exact (anyN_iff.mpr ⟨i, by omega, h3⟩).symm
theorem ff_cg {q r : Nat → Bool} : ∀ {m k : Nat}, (∀ j, k ≤ j → j < k + m → q j = r j) → ff q k m = ff r k m
  | 0, k, _ => rfl
  | m + 1, k, h => by
    unfold ff
    rw [h k (by omega) (by omega), ff_cg (m := m) (k := k + 1) (fun j h1 h2 => h j (by omega) (by omega))]
def bi (b : Bool) : Int32 := if b then 1 else 0
theorem bi_0 {b : Bool} : bi b = 0 ↔ b = false := by cases b <;> decide
theorem bi_1 {b : Bool} : bi b = 1 ↔ b = true := by cases b <;> decide
theorem bi_01 {b : Bool} : bi b = 0 ∨ bi b = 1 := by cases b <;> decide
/-! guards -/
def ag2 (σ τ : sg) : Prop := ag σ τ ∧ τ 122 = σ 122
theorem ag2_rf {σ : sg} : ag2 σ σ := ⟨ag_rf, rfl⟩
theorem ag2_tr {σ τ υ : sg} (h : ag2 σ τ) (g : ag2 τ υ) : ag2 σ υ := ⟨ag_tr h.1 g.1, g.2.trans h.2⟩
theorem ag2_u {σ τ : sg} {o j : Nat} {v : Int32} (he : es o j = false) (ho : 122 ≠ o) (h : ag2 σ τ) : ag2 σ (am_u2 τ o j v) := ⟨ag_u he h.1, (u2_row ho).trans h.2⟩
theorem ag2_u0 {σ τ : sg} {o j : Nat} {v : Int32} (he : es_l.getD o 0 = 0) (ho : 122 ≠ o) (h : ag2 σ τ) : ag2 σ (am_u2 τ o j v) := ag2_u (es_0 he) ho h
theorem ag2_z {σ : sg} {v : Int32} : ag2 σ (am_u2 σ 105 0 v) := ag2_u (by decide) (by decide) ag2_rf
theorem dic (n : Nat) (p : Int32) : (∃ h, h < n ∧ p = Int32.ofNat h) ∨ (∀ k, k < n → p ≠ Int32.ofNat k) := by
  by_cases q : ∃ h, h < n ∧ p = Int32.ofNat h
  · exact Or.inl q
  · exact Or.inr (fun k hk e => q ⟨k, hk, e⟩)
theorem th0 {S : am_S} {p : Nat} {c : Int32} : f_X12_throwsIf S p 0 c = some (0, S.1) := by simp [f_X12_throwsIf]
theorem th1 {S : am_S} {p : Nat} {c : Int32} : f_X12_throwsIf S p 1 c = some (1, am_u2 S.1 p 0 c) := by simp [f_X12_throwsIf]
theorem i10 : ((1 : Int32) = 0) = False := by decide
theorem i01 : ((0 : Int32) = 1) = False := by decide
theorem zz {σ : sg} {a b : Int32} : am_u2 (am_u2 σ 105 0 a) 105 0 b = am_u2 σ 105 0 b := by
  funext o j
  unfold am_u2
  by_cases h : o = 105 ∧ j = 0
  · rw [if_pos h, if_pos h]
  · rw [if_neg h, if_neg h, if_neg h]
section WS2
variable {σ : sg} {ρ : rg} {w : wg}
theorem wS_z (H : wS σ ρ w) : wS (am_u2 σ 105 0 0) ρ w := wS_ag H ag2_z.1
theorem M_nH0 (H : wS σ ρ w) {h : Nat} (hh : h < nH w) : f_X12_noHouse (σ, ρ) 105 (Int32.ofNat h) = some 0 := by
  rcases M_noH H (Int32.ofNat h) with ⟨k, -, -, e⟩ | ⟨e, -⟩
  · exact e
  · exact absurd rfl (e h hh)
theorem M_nH1 (H : wS σ ρ w) {p : Int32} (hp : ∀ k, k < nH w → p ≠ Int32.ofNat k) : f_X12_noHouse (σ, ρ) 105 p = some 1 := by
  rcases M_noH H p with ⟨k, hk, e, -⟩ | ⟨-, e⟩
  · exact absurd e (hp k hk)
  · exact e
theorem M_nW0 (H : wS σ ρ w) {h : Nat} (hh : h < nW w) : f_X12_noWant (σ, ρ) 105 (Int32.ofNat h) = some 0 := by
  rcases M_noW H (Int32.ofNat h) with ⟨k, -, -, e⟩ | ⟨e, -⟩
  · exact e
  · exact absurd rfl (e h hh)
theorem M_nW1 (H : wS σ ρ w) {p : Int32} (hp : ∀ k, k < nW w → p ≠ Int32.ofNat k) : f_X12_noWant (σ, ρ) 105 p = some 1 := by
  rcases M_noW H p with ⟨k, hk, e, -⟩ | ⟨-, e⟩
  · exact absurd e (hp k hk)
  · exact e
theorem M_nR0 (H : wS σ ρ w) {h : Nat} (hh : h < nR w) : f_X12_noRing (σ, ρ) 105 (Int32.ofNat h) = some 0 := by
  rcases M_noR H (Int32.ofNat h) with ⟨k, -, -, e⟩ | ⟨e, -⟩
  · exact e
  · exact absurd rfl (e h hh)
theorem M_nR1 (H : wS σ ρ w) {p : Int32} (hp : ∀ k, k < nR w → p ≠ Int32.ofNat k) : f_X12_noRing (σ, ρ) 105 p = some 1 := by
  rcases M_noR H p with ⟨k, hk, e, -⟩ | ⟨-, e⟩
  · exact absurd e (hp k hk)
  · exact e
end WS2
section CI
variable {σ : sg} {ρ : rg} {t u : Nat} {w wi : wg}
theorem c_now (I : Iv σ ρ t u w wi) : am_rd ρ 0 3 109 = some t := rh_now I.1
theorem c_rg (I : Iv σ ρ t u w wi) : am_rd ρ t 15 106 = some (t + 15) := rd_t I.1 (rh_tn I.1).1 (by decide)
theorem c_nH0 (I : Iv σ ρ t u w wi) {h : Nat} (hh : h < nH w) : f_X11_needHouse (σ, ρ) 0 (Int32.ofNat h) = some (.inl none, (σ, ρ)) := by
  unfold f_X11_needHouse
  simp only [c_now I, Option.bind_some, c_hh (Iv_t I) hh, i10, if_false]
theorem c_nH1 (I : Iv σ ρ t u w wi) {p : Int32} (hp : ∀ k, k < nH w → p ≠ Int32.ofNat k) : f_X11_needHouse (σ, ρ) 0 p = some (.inr 0, (σ, ρ)) := by
  unfold f_X11_needHouse
  simp only [c_now I, Option.bind_some, c_hh' (Iv_t I) hp, if_true]
theorem c_nW0 (I : Iv σ ρ t u w wi) {h : Nat} (hh : h < nW w) : f_X11_needWant (σ, ρ) 0 (Int32.ofNat h) = some (.inl none, (σ, ρ)) := by
  unfold f_X11_needWant
  simp only [c_now I, Option.bind_some, c_hw (Iv_t I) hh, i10, if_false]
theorem c_nW1 (I : Iv σ ρ t u w wi) {p : Int32} (hp : ∀ k, k < nW w → p ≠ Int32.ofNat k) : f_X11_needWant (σ, ρ) 0 p = some (.inr 0, (σ, ρ)) := by
  unfold f_X11_needWant
  simp only [c_now I, Option.bind_some, c_hw' (Iv_t I) hp, if_true]
theorem c_nR0 (I : Iv σ ρ t u w wi) {h : Nat} (hh : h < nR w) : f_X11_needRinging (σ, ρ) 0 (Int32.ofNat h) = some (.inl none, (σ, ρ)) := by
  have := (wv_R I.2.2.1).2
  unfold f_X11_needRinging
  rw [if_neg (on_neg (by omega))]
  simp only [c_now I, Option.bind_some, c_rg I, c_R (Iv_t I)]
  rw [if_pos ((on_lt (by omega) (by omega)).mpr hh)]
theorem c_nR1 (I : Iv σ ρ t u w wi) {p : Int32} (hp : ∀ k, k < nR w → p ≠ Int32.ofNat k) : f_X11_needRinging (σ, ρ) 0 p = some (.inr 0, (σ, ρ)) := by
  have := (wv_R I.2.2.1).2
  unfold f_X11_needRinging
  simp only [c_now I, Option.bind_some, c_rg I, c_R (Iv_t I)]
  by_cases q : p < 0
  · rw [if_pos q]
  · rw [if_neg q]
    obtain ⟨k, hk, rfl⟩ := i_of q
    have h1 : nR w ≤ k := Nat.le_of_not_lt (fun z => hp k z rfl)
    rw [if_neg (fun z => by have := (on_lt (by omega) (by omega)).mp z; omega)]
end CI
theorem thV_n {S : am_S} {f : am_S → Option am_R} : am_thV (some (.inl none, S)) f = f S := rfl
theorem thV_x {S : am_S} {k : Nat} {f : am_S → Option am_R} : am_thV (some (.inr k, S)) f = some (.inr k, S) := rfl
/-! a question: class and model answer alike and leave all that counts -/
def Rq (σ : sg) (ρ : rg) (w : wg) (tab : List (Nat × Int32)) (C : Option am_R) (M : am_S → Option (Int32 × sg)) : Prop :=
  ∃ (o : am_O) (σ1 : sg), C = some (o, (σ1, ρ)) ∧ ag σ σ1 ∧ ∀ σ', wS σ' ρ w → ∃ (b : Int32) (σ2 : sg), M (σ', ρ) = some (b, σ2) ∧ ag2 σ' σ2 ∧ ((o = .inl (some (.int b)) ∧ σ2 105 0 = 0) ∨ (∃ k c, o = .inr k ∧ tab.lookup k = some c ∧ c ≠ 0 ∧ σ2 105 0 = c))
section RQ
variable {σ σ1 : sg} {ρ : rg} {w : wg} {tab : List (Nat × Int32)} {C : Option am_R} {M : am_S → Option (Int32 × sg)}
theorem Rq_r {r : Int32} (hC : C = some (.inl (some (.int r)), (σ1, ρ))) (hg : ag σ σ1) (hM : ∀ σ', wS σ' ρ w → ∃ σ2, M (σ', ρ) = some (r, σ2) ∧ ag2 σ' σ2 ∧ σ2 105 0 = 0) : Rq σ ρ w tab C M :=
  ⟨_, σ1, hC, hg, fun σ' H => by obtain ⟨σ2, h1, h2, h3⟩ := hM σ' H; exact ⟨r, σ2, h1, h2, Or.inl ⟨rfl, h3⟩⟩⟩
theorem Rq_z {r : Int32} (hC : C = some (.inl (some (.int r)), (σ1, ρ))) (hg : ag σ σ1) (hM : ∀ σ', wS (am_u2 σ' 105 0 0) ρ w → M (σ', ρ) = some (r, am_u2 σ' 105 0 0)) : Rq σ ρ w tab C M :=
  Rq_r hC hg (fun σ' H => ⟨_, hM σ' (wS_z H), ag2_z, u2_eq⟩)
theorem Rq_t {k : Nat} {b c : Int32} (hC : C = some (.inr k, (σ1, ρ))) (hg : ag σ σ1) (hl : tab.lookup k = some c) (hc : c ≠ 0) (hM : ∀ σ', wS (am_u2 σ' 105 0 0) ρ w → M (σ', ρ) = some (b, am_u2 σ' 105 0 c)) : Rq σ ρ w tab C M :=
  ⟨_, σ1, hC, hg, fun σ' H => ⟨b, _, hM σ' (wS_z H), ag2_z, Or.inr ⟨k, c, rfl, hl, hc, u2_eq⟩⟩⟩
end RQ
/-! the first few -/
theorem in_e {p lo hi : Int32} : f_X12_in p lo hi = some (if p < lo ∨ hi < p then 0 else 1) := by
  unfold f_X12_in
  by_cases a : p < lo
  · rw [if_pos a, if_pos (Or.inl a)]
  · rw [if_neg a]
    by_cases b : hi < p
    · rw [if_pos b, if_pos (Or.inr b)]
    · rw [if_neg b, if_neg (by simp [a, b])]
section Q1
variable {σ : sg} {ρ : rg} {t u : Nat} {w wi : wg}
def nw (w : wg) (h : Nat) : Int32 := sm (fun v => if wx w h v = 0 then 0 else 1) (nW w)
theorem c_wordsOf (H : tS σ ρ t w) {h : Nat} (hh : h < 2147483648) : f_X9_wordsOf (σ, ρ) t (Int32.ofNat h) = some (nw w h) := by
  have hW := (wv_W H.2.2.2).2
  unfold f_X9_wordsOf
  rw [lp_sum (fun v => if wx w h v = 0 then 0 else 1) (nW w) 0 (fun k a hk => ?_) (fun a => ?_) (by omega)]
  · simp only [Option.bind_some, Int32.zero_add, nw]
  · unfold f_X9_wordsOf_b4
    simp only [c_W H]
    rw [if_pos ((on_lt (by omega) (by omega)).mpr hk), c_wf H hh (by omega)]
    simp only [Option.bind_some, zw_m (show wx w h k < 2147483648 by have := wx_lt H.2.2.2 (a := h) (v := k); omega), on_s]
    by_cases q : wx w h k = 0
    · rw [if_pos q, if_pos q, Int32.add_zero]; rfl
    · rw [if_neg q, if_neg q]; rfl
  · unfold f_X9_wordsOf_b4
    simp only [c_W H]
    rw [if_neg (fun z => by have := (on_lt (by omega) (by omega)).mp z; omega)]
theorem M_wordsOf (H : wS σ ρ w) {h : Nat} (hh : h < nH w) : f_X12_wordsOf (σ, ρ) 105 (Int32.ofNat h) = some (nw w h) := by
  have hW := (wv_W H.2.2).2
  unfold f_X12_wordsOf
  rw [lp_sum (fun v => if wx w h v = 0 then 0 else 1) (nW w) 0 (fun k a hk => ?_) (fun a => ?_) (by omega)]
  · simp only [Option.bind_some, Int32.zero_add, nw]
  · unfold f_X12_wordsOf_b4
    simp only [M_wants H, Option.bind_some]
    rw [if_pos ((on_lt (by omega) (by omega)).mpr hk), M_wf H hh hk]
    simp only [Option.bind_some, on_pos (show wx w h k < 2147483648 by have := wx_lt H.2.2 (a := h) (v := k); omega), on_s]
    by_cases q : wx w h k = 0
    · rw [if_neg (by omega), if_pos q]; rfl
    · rw [if_pos (by omega), if_neg q]; rfl
  · unfold f_X12_wordsOf_b4
    simp only [M_wants H, Option.bind_some]
    rw [if_neg (fun z => by have := (on_lt (by omega) (by omega)).mp z; omega)]
theorem c_row (I : Iv σ ρ t u w wi) {j q h : Nat} (hm : (j, 1, q) ∈ [(6, 1, 1), (7, 1, 2), (8, 1, 3), (9, 1, 4), (10, 1, 5), (11, 1, 6), (12, 1, 7), (13, 1, 8), (14, 101, 9), (15, 106, 15)]) (hh : h < am_ln (t + q)) (h2 : h < 2147483648) {β : Type} {f : Int32 → Option β} : (am_rd ρ t j 1).bind (fun a => (am_ld σ a (Int32.ofNat h)).bind f) = f (σ (t + q) h) := by
  rw [rd_t I.1 (rh_tn I.1).1 hm]
  simp only [Option.bind_some]
  rw [ld_on hh h2]; rfl
theorem q_house (I : Iv σ ρ t u w wi) (p q : Int32) : Rq σ ρ w [(0, 1), (3, 2)] (f_X11_house (σ, ρ) 0 p q) (fun S => f_X12_house S 105 p q) := by
  have hH := (wv_H I.2.2.1).2
  have hW := (wv_W I.2.2.1).2
  rcases dic (nH w) p with ⟨h, hh, rfl⟩ | hp
  · have hr := I.2.2.2.1.2.1 h hh
    rcases dic 6 q with ⟨k, hk, rfl⟩ | hq
    · have ek : k = 5 ∨ k < 5 := by omega
      rcases ek with rfl | hk5
      · refine Rq_z (r := nw w h) (σ1 := σ) ?_ ag_rf (fun σ' H => ?_)
        · unfold f_X11_house
          rw [c_nH0 I hh, thV_n]
          simp only [c_now I, Option.bind_some]
          rw [if_neg (by decide), if_neg (by decide), if_neg (by decide), if_neg (by decide), if_neg (by decide), if_pos (by decide), c_wordsOf (Iv_t I) (by omega)]
          rfl
        · unfold f_X12_house
          simp only [M_nH0 H hh, Option.bind_some, th0, if_true, in_e]
          rw [if_neg (by decide)]
          simp only [i10, if_false, Option.bind_some, th0, if_true]
          rw [if_neg (by decide), M_wordsOf H hh]
          rfl
      · refine Rq_z (r := w (8 + 15 * h + k)) (σ1 := σ) ?_ ag_rf (fun σ' H => ?_)
        · unfold f_X11_house
          rw [c_nH0 I hh, thV_n]
          simp only [c_now I, Option.bind_some]
          have hl := ln_t (rh_tn I.1).1
          have e5 : k = 0 ∨ k = 1 ∨ k = 2 ∨ k = 3 ∨ k = 4 := by omega
          rcases e5 with rfl | rfl | rfl | rfl | rfl
          · rw [if_pos (by decide), c_row I (q := 1) (by decide) (by omega) (by omega), hr.1]; rfl
          · rw [if_neg (by decide), if_pos (by decide), c_row I (q := 2) (by decide) (by omega) (by omega), hr.2.1, show 9 + 15 * h = 8 + 15 * h + 1 by omega]
          · rw [if_neg (by decide), if_neg (by decide), if_pos (by decide), c_row I (q := 3) (by decide) (by omega) (by omega), hr.2.2.1, show 10 + 15 * h = 8 + 15 * h + 2 by omega]
          · rw [if_neg (by decide), if_neg (by decide), if_neg (by decide), if_pos (by decide), c_row I (q := 4) (by decide) (by omega) (by omega), hr.2.2.2.1, show 11 + 15 * h = 8 + 15 * h + 3 by omega]
          · rw [if_neg (by decide), if_neg (by decide), if_neg (by decide), if_neg (by decide), if_pos (by decide), c_row I (q := 5) (by decide) (by omega) (by omega), hr.2.2.2.2, show 12 + 15 * h = 8 + 15 * h + 4 by omega]
        · unfold f_X12_house
          simp only [M_nH0 H hh, Option.bind_some, th0, if_true, in_e]
          have hin : ¬ (Int32.ofNat k < 0 ∨ 5 < Int32.ofNat k) := fun z => z.elim (on_neg (by omega)) (fun z => by have := (on_lt (a := 5) (by decide) (by omega)).mp z; omega)
          rw [if_neg hin]
          simp only [i10, if_false, Option.bind_some, th0, if_true]
          rw [if_pos (show Int32.ofNat k < 5 from (on_lt (b := 5) (by omega) (by decide)).mpr hk5), M_of H (by omega) (by omega)]
          rfl
    · refine Rq_t (k := 3) (b := 0) (c := 2) (σ1 := σ) ?_ ag_rf rfl (by decide) (fun σ' H => ?_)
      · unfold f_X11_house
        rw [c_nH0 I hh, thV_n, if_neg (show q ≠ 0 from hq 0 (by decide)), if_neg (show q ≠ 1 from hq 1 (by decide)), if_neg (show q ≠ 2 from hq 2 (by decide)), if_neg (show q ≠ 3 from hq 3 (by decide)), if_neg (show q ≠ 4 from hq 4 (by decide)), if_neg (show q ≠ 5 from hq 5 (by decide))]
      · unfold f_X12_house
        simp only [M_nH0 H hh, Option.bind_some, th0, if_true]
        rw [show f_X12_in q 0 5 = some 0 from in_no (n := 6) (by decide) hq]
        simp only [Option.bind_some, if_true, th1, i10, if_false, zz]
  · refine Rq_t (k := 0) (b := 0) (c := 1) (σ1 := σ) ?_ ag_rf rfl (by decide) (fun σ' H => ?_)
    · unfold f_X11_house
      rw [c_nH1 I hp, thV_x]
    · unfold f_X12_house
      simp only [M_nH1 H hp, Option.bind_some, th1, i10, if_false, zz]
theorem q_want (I : Iv σ ρ t u w wi) (p : Int32) : Rq σ ρ w [(0, 1)] (f_X11_want (σ, ρ) 0 p) (fun S => f_X12_want S 105 p) := by
  have hW := (wv_W I.2.2.1).2
  rcases dic (nW w) p with ⟨h, hh, rfl⟩ | hp
  · refine Rq_z (r := w (128 + h)) (σ1 := σ) ?_ ag_rf (fun σ' H => ?_)
    · unfold f_X11_want
      rw [c_nW0 I hh, thV_n]
      have hl := ln_t (rh_tn I.1).1
      simp only [c_now I, Option.bind_some]
      rw [c_row I (q := 6) (by decide) (by omega) (by omega), I.2.2.2.1.2.2.1 h hh]
    · unfold f_X12_want
      simp only [M_nW0 H hh, Option.bind_some, th0, if_true, M_ur H (show h < 10 by omega)]
  · refine Rq_t (k := 0) (b := 0) (c := 1) (σ1 := σ) ?_ ag_rf rfl (by decide) (fun σ' H => ?_)
    · unfold f_X11_want
      rw [c_nW1 I hp, thV_x]
    · unfold f_X12_want
      simp only [M_nW1 H hp, Option.bind_some, th1, i10, if_false, zz]
theorem q_code (I : Iv σ ρ t u w wi) (p q : Int32) : Rq σ ρ w [(0, 1)] (f_X11_code (σ, ρ) 0 p q) (fun S => f_X12_code S 105 p q) := by
  have hH := (wv_H I.2.2.1).2
  have hW := (wv_W I.2.2.1).2
  rcases dic (nH w) p with ⟨h, hh, rfl⟩ | hp
  · rcases dic (nW w) q with ⟨v, hv, rfl⟩ | hq
    · have hx := wx_lt I.2.2.1 (a := h) (v := v)
      refine Rq_z (r := zw (wx w h v)) (σ1 := σ) ?_ ag_rf (fun σ' H => ?_)
      · unfold f_X11_code
        rw [c_nH0 I hh, thV_n, c_nW0 I hv, thV_n]
        simp only [c_now I, Option.bind_some, c_wf (Iv_t I) (show h < 2147483648 by omega) (show v < 2147483648 by omega)]
      · unfold f_X12_code
        simp only [M_nH0 H hh, M_nW0 H hv, Option.bind_some, th0, if_true, M_wf H hh hv, on_pos (show wx w h v < 2147483648 by omega)]
        by_cases e : wx w h v = 0
        · rw [if_neg (by omega), e, zw_0]
        · rw [if_pos (by omega), zw_p e]
    · refine Rq_t (k := 0) (b := 0) (c := 1) (σ1 := σ) ?_ ag_rf rfl (by decide) (fun σ' H => ?_)
      · unfold f_X11_code
        rw [c_nH0 I hh, thV_n, c_nW1 I hq, thV_x]
      · unfold f_X12_code
        simp only [M_nH0 H hh, M_nW1 H hq, Option.bind_some, if_true, th1, i10, if_false, zz]
  · refine Rq_t (k := 0) (b := 0) (c := 1) (σ1 := σ) ?_ ag_rf rfl (by decide) (fun σ' H => ?_)
    · unfold f_X11_code
      rw [c_nH1 I hp, thV_x]
    · unfold f_X12_code
      simp only [M_nH1 H hp, Option.bind_some, if_true, th1, i10, if_false, zz]
/-- a word told as a number -/
theorem wdic (p : Int32) : (∃ n, 2 ≤ n ∧ n < 512 ∧ p = Int32.ofNat n ∧ ¬ (p < 2 ∨ 511 < p)) ∨ (p < 2 ∨ 511 < p) := by
  by_cases q : p < 2 ∨ 511 < p
  · exact Or.inr q
  · left
    have q0 : ¬ p < 0 := fun z => q (Or.inl (Int32.lt_trans z (by decide)))
    obtain ⟨k, hk, rfl⟩ := i_of q0
    refine ⟨k, ?_, ?_, rfl, q⟩
    · apply Nat.le_of_not_lt
      intro z
      exact q (Or.inl ((on_lt (b := 2) hk (by decide)).mpr z))
    · apply Nat.lt_of_not_le
      intro z
      exact q (Or.inr ((on_lt (a := 511) (by decide) hk).mpr (by omega)))
theorem c_nd0 {S : am_S} {p : Int32} (h : ¬ (p < 2 ∨ 511 < p)) : f_X11_needWord S 0 p = some (.inl none, S) := by
  unfold f_X11_needWord
  rw [if_neg (fun z => h (Or.inl z)), if_neg (fun z => h (Or.inr z))]
theorem c_nd1 {S : am_S} {p : Int32} (h : p < 2 ∨ 511 < p) : f_X11_needWord S 0 p = some (.inr 1, S) := by
  unfold f_X11_needWord
  by_cases a : p < 2
  · rw [if_pos a]
  · rw [if_neg a, if_pos (h.resolve_left a)]
theorem q_cost (I : Iv σ ρ t u w wi) (p : Int32) : Rq σ ρ w [(1, 1)] (f_X11_cost (σ, ρ) 0 p) (fun S => f_X12_cost S 105 p) := by
  rcases wdic p with ⟨n, h1, h2, rfl, h3⟩ | h
  · refine Rq_z (r := Int32.ofNat (mnN n)) (σ1 := σ) ?_ ag_rf (fun σ' H => ?_)
    · unfold f_X11_cost
      rw [c_nd0 h3, thV_n, (w_min (show n < 1024 by omega)).2.1]
      rfl
    · unfold f_X12_cost
      simp only [in_e]
      rw [if_neg h3]
      simp only [Option.bind_some, i10, if_false, th0, if_true, (w_min (show n < 1024 by omega)).1]
  · refine Rq_t (k := 1) (b := 0) (c := 1) (σ1 := σ) ?_ ag_rf rfl (by decide) (fun σ' H => ?_)
    · unfold f_X11_cost
      rw [c_nd1 h, thV_x]
    · unfold f_X12_cost
      simp only [in_e]
      rw [if_pos h]
      simp only [Option.bind_some, if_true, th1, i10, if_false, zz]
end Q1
