/-! LAYER 3: from here on only functions. Loops, rows, what the references are -/
theorem lp_fu : ∀ (n : Nat) {γ δ : Type} {body : γ → Option (γ ⊕ δ)} (m : Nat) (f : Nat → γ) (d : δ), (∀ k, k < n → body (f k) = some (.inl (f (k + 1)))) → body (f n) = some (.inr d) → n < m → am_loop body m (f 0) = some d
  | 0, γ, δ, body, m, f, d, _, he, hm => by
    obtain ⟨m, rfl⟩ : ∃ q, m = q + 1 := ⟨m - 1, by omega⟩
    rw [am_loop_s, he]; rfl
  | n + 1, γ, δ, body, m, f, d, hs, he, hm => by
    obtain ⟨m, rfl⟩ : ∃ q, m = q + 1 := ⟨m - 1, by omega⟩
    rw [am_loop_s, hs 0 (by omega)]
    exact lp_fu n m (fun k => f (k + 1)) d (fun k hk => hs (k + 1) (by omega)) he (by omega)
theorem lp_for {γ δ : Type} {body : γ → Option (γ ⊕ δ)} (n : Nat) (f : Nat → γ) {x : γ} {d : δ} (h0 : f 0 = x) (hs : ∀ k, k < n → body (f k) = some (.inl (f (k + 1)))) (he : body (f n) = some (.inr d)) (hn : n < 1000000000000) : am_loop body am_fuel x = some d := by
  rw [← h0]; exact lp_fu n am_fuel f d hs he hn
/-- the rule with an invariant -/
theorem lp_inv {γ δ : Type} {body : γ → Option (γ ⊕ δ)} (P : Nat → γ → Prop) (Q : δ → Prop) : ∀ (n m : Nat) (x : γ) (k : Nat), k + m = n → P k x → (∀ k x, k ≤ n → P k x → (∃ y, body x = some (.inl y) ∧ k < n ∧ P (k + 1) y) ∨ (∃ d, body x = some (.inr d) ∧ Q d)) → ∀ fu, m < fu → ∃ d, am_loop body fu x = some d ∧ Q d
  | n, 0, x, k, hk, hP, hs, fu, hf => by
    obtain ⟨fu, rfl⟩ : ∃ q, fu = q + 1 := ⟨fu - 1, by omega⟩
    rcases hs k x (by omega) hP with ⟨y, h1, h2, h3⟩ | ⟨d, h1, h2⟩
    · omega
    · exact ⟨d, by rw [am_loop_s, h1]; rfl, h2⟩
  | n, m + 1, x, k, hk, hP, hs, fu, hf => by
    obtain ⟨fu, rfl⟩ : ∃ q, fu = q + 1 := ⟨fu - 1, by omega⟩
    rcases hs k x (by omega) hP with ⟨y, h1, h2, h3⟩ | ⟨d, h1, h2⟩
    · obtain ⟨d, g1, g2⟩ := lp_inv P Q n m y (k + 1) (by omega) h3 hs fu (by omega)
      exact ⟨d, by rw [am_loop_s, h1]; exact g1, g2⟩
    · exact ⟨d, by rw [am_loop_s, h1]; rfl, h2⟩
theorem lp_rule {γ δ : Type} {body : γ → Option (γ ⊕ δ)} (n : Nat) (P : Nat → γ → Prop) (Q : δ → Prop) {x : γ} (h0 : P 0 x) (hs : ∀ k x, k ≤ n → P k x → (∃ y, body x = some (.inl y) ∧ k < n ∧ P (k + 1) y) ∨ (∃ d, body x = some (.inr d) ∧ Q d)) (hn : n < 1000000000000) : ∃ d, am_loop body am_fuel x = some d ∧ Q d :=
  lp_inv P Q n n x 0 (by omega) h0 hs am_fuel hn
/-- sums -/
def sm (g : Nat → Int32) : Nat → Int32
  | 0 => 0
  | n + 1 => sm g n + g n
theorem sm_congr {g h : Nat → Int32} : ∀ n, (∀ k, k < n → g k = h k) → sm g n = sm h n
  | 0, _ => rfl
  | n + 1, e => by unfold sm; rw [sm_congr n (fun k hk => e k (by omega)), e n (by omega)]
/-- the first -/
def fi (q : Nat → Bool) : Nat → Nat → Nat
  | _, 0 => 0
  | k, n + 1 => if q k then 0 else fi q (k + 1) n + 1
/-- small ints -/
theorem i_of {i : Int32} (h : ¬ i < 0) : ∃ k, k < 2147483648 ∧ i = Int32.ofNat k := by
  refine ⟨i.toInt.toNat, ?_, ?_⟩
  · have := Int32.toInt_lt i
    omega
  · rw [Int32.lt_iff_toInt_lt] at h
    have h0 : (0 : Int32).toInt = 0 := rfl
    rw [h0] at h
    have h1 := Int32.toInt_lt i
    rw [← Int32.toInt_inj, on_int (by omega)]
    omega
theorem ld_on {σ : Nat → Nat → Int32} {a k : Nat} (h : k < am_ln a) (h2 : k < 2147483648) : am_ld σ a (Int32.ofNat k) = some (σ a k) := by
  unfold am_ld
  rw [on_cl h2, if_neg (fun q => q.elim (on_neg h2) (fun q => by omega))]
theorem st_on {σ : Nat → Nat → Int32} {a k : Nat} {v : Int32} (h : k < am_ln a) (h2 : k < 2147483648) : am_st σ a (Int32.ofNat k) v = some (am_u2 σ a k v) := by
  unfold am_st
  rw [on_cl h2, if_neg (fun q => q.elim (on_neg h2) (fun q => by omega))]
theorem u2_ne {σ : Nat → Nat → Int32} {o j a b : Nat} {v : Int32} (h : a ≠ o) : am_u2 σ o j v a b = σ a b := by unfold am_u2; rw [if_neg (fun q => h q.1)]
theorem u2_nj {σ : Nat → Nat → Int32} {o j a b : Nat} {v : Int32} (h : b ≠ j) : am_u2 σ o j v a b = σ a b := by unfold am_u2; rw [if_neg (fun q => h q.2)]
theorem u2_eq {σ : Nat → Nat → Int32} {o j : Nat} {v : Int32} : am_u2 σ o j v o j = v := by unfold am_u2; rw [if_pos ⟨rfl, rfl⟩]
theorem u2_row {σ : Nat → Nat → Int32} {o j a : Nat} {v : Int32} (h : a ≠ o) : am_u2 σ o j v a = σ a := by funext b; exact u2_ne h
/-! what the references are: as at the start, but for the two towns and the readers' rows -/
def rh_ex (o j : Nat) : Bool := (o == 0 && (j == 3 || j == 4)) || ((o == 77 || o == 80) && j == 0)
def rh (ρ : Nat → Nat → Option Nat) (t u : Nat) : Prop := (∀ o j, o < 123 → rh_ex o j = false → ρ o j = st_S0.2 o j) ∧ ((t = 2 ∧ u = 24) ∨ (t = 24 ∧ u = 2)) ∧ ρ 0 3 = some t ∧ ρ 0 4 = some u
theorem rh_rd {ρ : Nat → Nat → Option Nat} {t u : Nat} (h : rh ρ t u) {o j k q : Nat} (ho : o < 123) (he : rh_ex o j = false) (hq : am_rd st_S0.2 o j k = some q) : am_rd ρ o j k = some q := by
  unfold am_rd at hq ⊢
  rw [h.1 o j ho he]; exact hq
theorem rh_now {ρ : Nat → Nat → Option Nat} {t u : Nat} (h : rh ρ t u) : am_rd ρ 0 3 109 = some t := by
  obtain ⟨-, h2, h3, -⟩ := h
  unfold am_rd
  rw [h3]
  rcases h2 with ⟨rfl, -⟩ | ⟨rfl, -⟩ <;> rfl
theorem rh_spare {ρ : Nat → Nat → Option Nat} {t u : Nat} (h : rh ρ t u) : am_rd ρ 0 4 109 = some u := by
  obtain ⟨-, h2, -, h3⟩ := h
  unfold am_rd
  rw [h3]
  rcases h2 with ⟨-, rfl⟩ | ⟨-, rfl⟩ <;> rfl
def tn (t : Nat) : Prop := t = 2 ∨ t = 24 ∨ t = 46
theorem rh_tn {ρ : Nat → Nat → Option Nat} {t u : Nat} (h : rh ρ t u) : tn t ∧ tn u ∧ t ≠ u := by
  rcases h.2.1 with ⟨rfl, rfl⟩ | ⟨rfl, rfl⟩
  · exact ⟨Or.inl rfl, Or.inr (Or.inl rfl), by decide⟩
  · exact ⟨Or.inr (Or.inl rfl), Or.inl rfl, by decide⟩
theorem rh_t {ρ : Nat → Nat → Option Nat} {t u : Nat} (h : rh ρ t u) {v : Nat} (hv : tn v) {j k q : Nat} (hq : am_rd st_S0.2 2 j k = some (2 + q) ∧ am_rd st_S0.2 24 j k = some (24 + q) ∧ am_rd st_S0.2 46 j k = some (46 + q)) : am_rd ρ v j k = some (v + q) := by
  rcases hv with rfl | rfl | rfl
  · exact rh_rd h (by decide) (by unfold rh_ex; rfl) hq.1
  · exact rh_rd h (by decide) (by unfold rh_ex; rfl) hq.2.1
  · exact rh_rd h (by decide) (by unfold rh_ex; rfl) hq.2.2
