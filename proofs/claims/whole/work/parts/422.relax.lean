/-! relays: relaxing till nothing changes, and in eight rounds -/
def rxN (e : Nat → Nat → Bool) (c : Nat → Nat) (j : Nat) (K : Nat → Nat) : Nat → Nat := fun i => if e j i = true ∧ K j + c j < K i then K j + c j else K i
def swp (e : Nat → Nat → Bool) (c : Nat → Nat) (n : Nat) (K : Nat → Nat) : Nat → Nat := fo (fun j K => rxN e c j K) n K
def fx (e : Nat → Nat → Bool) (c D : Nat → Nat) : Prop := ∀ j i, e j i = true → D i ≤ D j + c j
def tg (e : Nat → Nat → Bool) (c : Nat → Nat) (f : Nat) (K : Nat → Nat) : Prop := ∀ i, K i < 1000000 → i = f ∨ ∃ j, e j i = true ∧ K j + c j ≤ K i
def K0 (f : Nat) : Nat → Nat := fun i => if i = f then 0 else 1000000
theorem ct_mono {p q : Nat → Bool} : ∀ {n : Nat}, (∀ k, k < n → q k = true → p k = true) → ct q n ≤ ct p n
  | 0, _ => by simp [ct]
  | n + 1, h => by
    have ih := ct_mono (n := n) (fun k hk => h k (by omega))
    unfold ct
    have := h n (by omega)
    by_cases a : q n = true
    · rw [if_pos a, if_pos (this a)]; omega
    · rw [if_neg a]; split <;> omega
theorem ct_strict {p q : Nat → Bool} {x : Nat} (hp : p x = true) (hq : q x = false) : ∀ {n : Nat}, x < n → (∀ k, k < n → q k = true → p k = true) → ct q n < ct p n
  | 0, hx, _ => by omega
  | n + 1, hx, h => by
    unfold ct
    by_cases e : x = n
    · subst e
      have ih := ct_mono (n := x) (fun k hk => h k (by omega))
      rw [hq, if_pos hp]
      simp
      omega
    · have ih := ct_strict hp hq (n := n) (by omega) (fun k hk => h k (by omega))
      have := h n (by omega)
      by_cases a : q n = true
      · rw [if_pos a, if_pos (this a)]; omega
      · rw [if_neg a]; split <;> omega
def rk (D : Nat → Nat) (i : Nat) : Nat := ct (fun k => decide (D k < D i)) 8
theorem rk_lt {D : Nat → Nat} {i j : Nat} (hj : j < 8) (h : D j < D i) : rk D j < rk D i :=
  ct_strict (x := j) (by simpa using h) (by simp) hj (fun k _ hk => by simp only [decide_eq_true_eq] at hk ⊢; omega)
theorem rk_le {D : Nat → Nat} {i : Nat} (hi : i < 8) : rk D i ≤ 7 := by
  have h1 : rk D i < ct (fun _ => true) 8 := ct_strict (x := i) rfl (by simp) hi (fun _ _ _ => rfl)
  have h2 : ct (fun _ => true) 8 = 8 := by decide
  omega
section RX
variable {e : Nat → Nat → Bool} {c D : Nat → Nat} {f : Nat}
theorem rx_le {j i : Nat} {K : Nat → Nat} : rxN e c j K i ≤ K i := by unfold rxN; split <;> omega
theorem rx_ge {j i : Nat} {K : Nat → Nat} (hf : fx e c D) (h : ∀ i, D i ≤ K i) : D i ≤ rxN e c j K i := by
  unfold rxN
  split
  · rename_i q
    have := hf j i q.1
    have := h j
    omega
  · exact h i
theorem swp_le {K : Nat → Nat} : ∀ n i, swp e c n K i ≤ K i
  | 0, i => Nat.le_refl _
  | n + 1, i => Nat.le_trans (rx_le (K := swp e c n K)) (swp_le n i)
theorem swp_ge {K : Nat → Nat} (hf : fx e c D) (h : ∀ i, D i ≤ K i) : ∀ n i, D i ≤ swp e c n K i
  | 0, i => h i
  | n + 1, i => rx_ge (K := swp e c n K) hf (fun i => swp_ge hf h n i)
theorem swp_hit {K : Nat → Nat} {j i : Nat} (he : e j i = true) (hK : K j ≤ D j) : ∀ n, j < n → swp e c n K i ≤ D j + c j
  | 0, h => by omega
  | n + 1, h => by
    by_cases q : j = n
    · subst q
      show rxN e c j (swp e c j K) i ≤ D j + c j
      have h1 := swp_le (e := e) (c := c) (K := K) j j
      unfold rxN
      split <;> rename_i z
      · omega
      · have : ¬ swp e c j K j + c j < swp e c j K i := fun y => z ⟨he, y⟩
        omega
    · exact Nat.le_trans (rx_le (K := swp e c n K)) (swp_hit he hK n (by omega))
def its (e : Nat → Nat → Bool) (c : Nat → Nat) (r : Nat) (K : Nat → Nat) : Nat → Nat := fo (fun _ K => swp e c 8 K) r K
theorem its_le {K : Nat → Nat} : ∀ r i, its e c r K i ≤ K i
  | 0, i => Nat.le_refl _
  | r + 1, i => Nat.le_trans (swp_le (K := its e c r K) 8 i) (its_le r i)
theorem its_ge {K : Nat → Nat} (hf : fx e c D) (h : ∀ i, D i ≤ K i) : ∀ r i, D i ≤ its e c r K i
  | 0, i => h i
  | r + 1, i => swp_ge (K := its e c r K) hf (fun i => its_ge hf h r i) 8 i
theorem settle (hf : fx e c D) (ht : tg e c f D) (h0 : ∀ i, D i ≤ K0 f i) (hc : ∀ j i, e j i = true → 1 ≤ c j ∧ j < 8) : ∀ r i, i < 8 → D i < 1000000 → rk D i ≤ r → its e c r (K0 f) i ≤ D i := by
  intro r
  induction r with
  | zero =>
    intro i hi hD hr
    rcases ht i hD with rfl | ⟨j, h1, h2⟩
    · have : its e c 0 (K0 i) i = 0 := by show K0 i i = 0; unfold K0; rw [if_pos rfl]
      omega
    · obtain ⟨h3, h4⟩ := hc j i h1
      have := rk_lt (D := D) h4 (show D j < D i by omega)
      omega
  | succ r ih =>
    intro i hi hD hr
    rcases ht i hD with rfl | ⟨j, h1, h2⟩
    · have h3 := its_le (e := e) (c := c) (K := K0 i) (r + 1) i
      have : K0 i i = 0 := by unfold K0; rw [if_pos rfl]
      omega
    · obtain ⟨h3, h4⟩ := hc j i h1
      have h5 := rk_lt (D := D) h4 (show D j < D i by omega)
      have h6 := ih j h4 (by omega) (by omega)
      have h7 : its e c (r + 1) (K0 f) i ≤ D j + c j := swp_hit (K := its e c r (K0 f)) h1 h6 8 h4
      omega
/-- eight rounds give what stands when nothing changes -/
theorem eight (hf : fx e c D) (ht : tg e c f D) (h0 : ∀ i, D i ≤ K0 f i) (hc : ∀ j i, e j i = true → 1 ≤ c j ∧ j < 8) {i : Nat} (hi : i < 8) : its e c 8 (K0 f) i = D i := by
  have h1 := its_ge (K := K0 f) hf h0 8 i
  have h2 := its_le (e := e) (c := c) (K := K0 f) 8 i
  by_cases q : D i < 1000000
  · have h3 := settle hf ht h0 hc 8 i hi q (by have := rk_le (D := D) hi; omega)
    omega
  · have h4 : K0 f i ≤ 1000000 := by unfold K0; split <;> omega
    omega
theorem small (hf : fx e c D) (ht : tg e c f D) (h0 : ∀ i, D i ≤ K0 f i) (hc : ∀ j i, e j i = true → 1 ≤ c j ∧ j < 8) (hc18 : ∀ j, c j ≤ 18) : ∀ r i, i < 8 → D i < 1000000 → rk D i ≤ r → D i ≤ 18 * r := by
  intro r
  induction r with
  | zero =>
    intro i hi hD hr
    rcases ht i hD with rfl | ⟨j, h1, h2⟩
    · have := h0 i
      unfold K0 at this
      rw [if_pos rfl] at this
      omega
    · obtain ⟨h3, h4⟩ := hc j i h1
      have := rk_lt (D := D) h4 (show D j < D i by omega)
      omega
  | succ r ih =>
    intro i hi hD hr
    rcases ht i hD with rfl | ⟨j, h1, h2⟩
    · have := h0 i
      unfold K0 at this
      rw [if_pos rfl] at this
      omega
    · obtain ⟨h3, h4⟩ := hc j i h1
      have h5 := rk_lt (D := D) h4 (show D j < D i by omega)
      have h6 := ih j h4 (by omega) (by omega)
      have := hf j i h1
      have := hc18 j
      omega
/-- relaxing keeps what is tight -/
theorem rx_tg {j : Nat} {K : Nat → Nat} (hs : ∀ j, e j j = false) (h : tg e c f K) (hj : K j < 1000000 ∨ ∀ i, K i ≤ 1000000) : tg e c f (rxN e c j K) := by
  have hjj : rxN e c j K j = K j := by unfold rxN; rw [if_neg (fun z => by rw [hs j] at z; exact absurd z.1 (by decide))]
  intro i hi
  by_cases q : e j i = true ∧ K j + c j < K i
  · right
    refine ⟨j, q.1, ?_⟩
    rw [hjj]
    unfold rxN
    rw [if_pos q]
    exact Nat.le_refl _
  · have e1 : rxN e c j K i = K i := by unfold rxN; rw [if_neg q]
    rw [e1] at hi ⊢
    rcases h i hi with z | ⟨k, h1, h2⟩
    · exact Or.inl z
    · exact Or.inr ⟨k, h1, Nat.le_trans (Nat.add_le_add_right rx_le _) h2⟩
/-- who knows, as a set -/
def rxB (e : Nat → Nat → Bool) (j : Nat) (B : Nat → Bool) : Nat → Bool := fun i => B i || (B j && e j i)
def swB (e : Nat → Nat → Bool) (n : Nat) (B : Nat → Bool) : Nat → Bool := fo (fun j B => rxB e j B) n B
def itB (e : Nat → Nat → Bool) (r : Nat) (B : Nat → Bool) : Nat → Bool := fo (fun _ B => swB e 8 B) r B
theorem rxB_up {j i : Nat} {B : Nat → Bool} (h : B i = true) : rxB e j B i = true := by unfold rxB; rw [h]; rfl
theorem swB_up {B : Nat → Bool} : ∀ n {i}, B i = true → swB e n B i = true
  | 0, _, h => h
  | n + 1, _, h => rxB_up (B := swB e n B) (swB_up n h)
theorem swB_hit {B : Nat → Bool} {j i : Nat} (he : e j i = true) (hB : B j = true) : ∀ n, j < n → swB e n B i = true
  | 0, h => by omega
  | n + 1, h => by
    by_cases q : j = n
    · subst q
      show rxB e j (swB e j B) i = true
      unfold rxB
      rw [swB_up j hB, he]
      simp
    · exact rxB_up (B := swB e n B) (swB_hit he hB n (by omega))
theorem itB_up {B : Nat → Bool} : ∀ r {i}, B i = true → itB e r B i = true
  | 0, _, h => h
  | r + 1, _, h => swB_up (B := itB e r B) 8 (itB_up r h)
theorem who (hf : fx e c D) (ht : tg e c f D) (h0 : ∀ i, D i ≤ K0 f i) (hc : ∀ j i, e j i = true → 1 ≤ c j ∧ j < 8) (hi8 : ∀ j i, e j i = true → i < 8) (hf8 : f < 8) (hc18 : ∀ j, c j ≤ 18) {i : Nat} (hi : i < 8) : itB e 8 (fun i => decide (i = f)) i = decide (D i < 1000000) := by
  have sound : ∀ B : Nat → Bool, (∀ i, B i = true → i < 8 ∧ D i < 1000000) → ∀ j, ∀ i, rxB e j B i = true → i < 8 ∧ D i < 1000000 := fun B hB j i h => by
    unfold rxB at h
    simp only [Bool.or_eq_true, Bool.and_eq_true] at h
    rcases h with h | ⟨h1, h2⟩
    · exact hB i h
    · obtain ⟨g1, g2⟩ := hB j h1
      have := small hf ht h0 hc hc18 7 j g1 g2 (rk_le g1)
      have := hf j i h2
      have := hc18 j
      exact ⟨hi8 j i h2, by omega⟩
  have sound2 : ∀ n (B : Nat → Bool), (∀ i, B i = true → i < 8 ∧ D i < 1000000) → ∀ i, swB e n B i = true → i < 8 ∧ D i < 1000000 := by
    intro n
    induction n with
    | zero => intro B hB; exact hB
    | succ n ih => intro B hB; exact sound (swB e n B) (ih B hB) n
  have sound3 : ∀ r i, itB e r (fun i => decide (i = f)) i = true → i < 8 ∧ D i < 1000000 := by
    intro r
    induction r with
    | zero =>
      intro i h
      have h1 : decide (i = f) = true := h
      simp only [decide_eq_true_eq] at h1
      subst h1
      have := h0 i
      unfold K0 at this
      rw [if_pos rfl] at this
      exact ⟨hf8, by omega⟩
    | succ r ih => exact sound2 8 _ ih
  have comp : ∀ r i, i < 8 → D i < 1000000 → rk D i ≤ r → itB e r (fun i => decide (i = f)) i = true := by
    intro r
    induction r with
    | zero =>
      intro i hi hD hr
      rcases ht i hD with rfl | ⟨j, h1, h2⟩
      · exact by show decide (i = i) = true; simp
      · obtain ⟨h3, h4⟩ := hc j i h1
        have := rk_lt (D := D) h4 (show D j < D i by omega)
        omega
    | succ r ih =>
      intro i hi hD hr
      rcases ht i hD with rfl | ⟨j, h1, h2⟩
      · exact itB_up (r + 1) (by simp)
      · obtain ⟨h3, h4⟩ := hc j i h1
        have h5 := rk_lt (D := D) h4 (show D j < D i by omega)
        have h6 := ih j h4 (by omega) (by omega)
        exact swB_hit (B := itB e r (fun i => decide (i = f))) h1 h6 8 h4
  by_cases q : D i < 1000000
  · rw [comp 8 i hi q (by have := rk_le (D := D) hi; omega)]; simp [q]
  · cases z : itB e 8 (fun i => decide (i = f)) i with
    | false => simp [q]
    | true => exact absurd (sound3 8 i z).2 q
end RX
/-- loops that end for their measure -/
theorem lp_mu {γ δ : Type} {body : γ → Option (γ ⊕ δ)} (μ : γ → Nat) (P : γ → Prop) (Q : δ → Prop) (hs : ∀ x, P x → (∃ y, body x = some (.inl y) ∧ P y ∧ μ y < μ x) ∨ (∃ d, body x = some (.inr d) ∧ Q d)) : ∀ fu x, P x → μ x < fu → ∃ d, am_loop body fu x = some d ∧ Q d
  | 0, x, _, h => by omega
  | fu + 1, x, hP, h => by
    rcases hs x hP with ⟨y, h1, h2, h3⟩ | ⟨d, h1, h2⟩
    · obtain ⟨d, g1, g2⟩ := lp_mu μ P Q hs fu y h2 (by omega)
      exact ⟨d, by rw [am_loop_s, h1]; exact g1, g2⟩
    · exact ⟨d, by rw [am_loop_s, h1]; rfl, h2⟩
/-! bits -/
theorem on_or {a b : Nat} : Int32.ofNat a ||| Int32.ofNat b = Int32.ofNat (a ||| b) := by
  apply Int32.toBitVec.inj
  rw [Int32.toBitVec_or, Int32.toBitVec_ofNat', Int32.toBitVec_ofNat', Int32.toBitVec_ofNat']
  apply BitVec.eq_of_toNat_eq
  simp [Nat.or_mod_two_pow]
theorem on_and {a b : Nat} : Int32.ofNat a &&& Int32.ofNat b = Int32.ofNat (a &&& b) := by
  apply Int32.toBitVec.inj
  rw [Int32.toBitVec_and, Int32.toBitVec_ofNat', Int32.toBitVec_ofNat', Int32.toBitVec_ofNat']
  apply BitVec.eq_of_toNat_eq
  simp [Nat.and_mod_two_pow]
def bm (q : Nat → Bool) : Nat → Nat
  | 0 => 0
  | n + 1 => bm q n + (if q n then 2 ^ n else 0)
theorem bm_lt {q : Nat → Bool} : ∀ n, bm q n < 2 ^ n
  | 0 => by simp [bm]
  | n + 1 => by
    have := bm_lt (q := q) n
    unfold bm
    rw [Nat.pow_succ]
    split <;> omega
theorem bm_tb {q : Nat → Bool} : ∀ n k, (bm q n).testBit k = (decide (k < n) && q k)
  | 0, k => by simp [bm]
  | n + 1, k => by
    have h1 := bm_lt (q := q) n
    have ih := bm_tb (q := q) n k
    rcases Nat.lt_trichotomy k n with a | a | a
    · have : k < n + 1 := by omega
      unfold bm
      split
      · rw [Nat.add_comm, Nat.testBit_two_pow_add_gt a, ih]; simp [a, this]
      · rw [Nat.add_zero, ih]; simp [a, this]
    · subst a
      have hb : (bm q k).testBit k = false := Nat.testBit_lt_two_pow h1
      unfold bm
      by_cases z : q k = true
      · rw [if_pos z, Nat.add_comm, Nat.testBit_two_pow_add_eq, hb]; simp [z]
      · rw [if_neg z, Nat.add_zero, hb]; simp [z]
    · have h2 := bm_lt (q := q) (n + 1)
      rw [Nat.testBit_lt_two_pow (Nat.lt_of_lt_of_le h2 (Nat.pow_le_pow_right (by decide) (by omega)))]
      have : ¬ k < n + 1 := by omega
      simp [this]
theorem bm_or {q : Nat → Bool} {n : Nat} : bm q n ||| 2 ^ n = bm q n + 2 ^ n := by
  rw [Nat.add_comm, Nat.or_comm]
  have := Nat.two_pow_add_eq_or_of_lt (bm_lt (q := q) n) 1
  rw [Nat.mul_one] at this
  exact this.symm
theorem tb_sh {n k : Nat} : ((n >>> k) % 2 = 1) ↔ n.testBit k = true := by
  rw [Nat.testBit_eq_decide_div_mod_eq, Nat.shiftRight_eq_div_pow]; simp
theorem on_bit {n k : Nat} (h : n < 1024) (hk : k < 11) : (((Int32.ofNat n) >>> ((Int32.ofNat k) &&& 31)) &&& 1 = 1) ↔ n.testBit k = true := by
  rw [sh1 h hk, show (1 : Int32) = Int32.ofNat 1 from rfl, on_inj (by have := md2 (n >>> k); omega) (by decide), tb_sh]
theorem f_has {n k : Nat} (h : n < 1024) (hk : k < 11) : f_X12_has (Int32.ofNat n) (Int32.ofNat k) = some (bi (n.testBit k)) := by
  unfold f_X12_has
  cases e : n.testBit k with
  | true => rw [if_pos ((on_bit h hk).mpr e)]; rfl
  | false => rw [if_neg (fun z => by rw [(on_bit h hk).mp z] at e; cases e)]; rfl
theorem and_bit {x h : Nat} : (x &&& 2 ^ h = 0) ↔ x.testBit h = false := by
  constructor
  · intro e
    have := congrArg (fun y => Nat.testBit y h) e
    simp only [Nat.testBit_and, Nat.testBit_two_pow_self, Bool.and_true, Nat.zero_testBit] at this
    exact this
  · intro e
    apply Nat.eq_of_testBit_eq
    intro k
    rw [Nat.testBit_and, Nat.testBit_two_pow, Nat.zero_testBit]
    by_cases q : h = k
    · subst q; rw [e]; rfl
    · simp [q]
