section LN
def isS (v : Int32) : Bool := decide (v = 97) || decide (v = 98)
theorem st_ex (T : Nat → Int32) : ∀ n, ∃ S, S ≤ n ∧ (∀ k, k < S → isS (T k) = true) ∧ (S < n → isS (T S) = false)
  | 0 => ⟨0, Nat.le_refl _, fun k hk => by omega, fun h => by omega⟩
  | n + 1 => by
    obtain ⟨S, a, b, c⟩ := st_ex T n
    by_cases h : S < n
    · exact ⟨S, by omega, b, fun _ => c h⟩
    · have : S = n := by omega
      subst this
      cases e : isS (T S) with
      | true => exact ⟨S + 1, Nat.le_refl _, fun k hk => by
          by_cases z : k = S
          · subst z; exact e
          · exact b k (by omega), fun h => by omega⟩
      | false => exact ⟨S, by omega, b, fun _ => e⟩
def lfd (L : Nat → Int32) (K : Nat) (x : Int32) : Nat := fd id K (ff (fun k => decide (L k = x)) 0 K)
theorem lfd_p {L : Nat → Int32} {K : Nat} {x : Int32} : lfd L K x ≤ K ∧ (lfd L K x < K → L (lfd L K x) = x) ∧ (∀ j, j < lfd L K x → L j ≠ x) := by
  unfold lfd
  cases e : ff (fun k => decide (L k = x)) 0 K with
  | none =>
    refine ⟨Nat.le_refl _, fun h => absurd h (Nat.lt_irrefl _), fun j hj => ?_⟩
    have := ff_none.mp e j (Nat.zero_le _) (by have : j < K := hj; omega)
    exact of_decide_eq_false this
  | some i =>
    obtain ⟨-, h2, h3, h4⟩ := ff_some.mp e
    refine ⟨by show i ≤ K; omega, fun _ => of_decide_eq_true h3, fun j hj => of_decide_eq_false (h4 j (Nat.zero_le _) hj)⟩
def ltF (x : Int32) (j : Nat) (s : Nat × (Nat → Int32) × (Nat → Nat)) : Option (Nat × (Nat → Int32) × (Nat → Nat)) :=
  if x < 65 ∨ 90 < x then none else if 3 ≤ lfd s.2.1 s.1 x then none else some (if lfd s.2.1 s.1 x < s.1 then s.1 else lfd s.2.1 s.1 x + 1, fun i => if i = lfd s.2.1 s.1 x then x else s.2.1 i, up1 s.2.2 j (lfd s.2.1 s.1 x))
def ltS (T' : Nat → Int32) : Nat → Option (Nat × (Nat → Int32) × (Nat → Nat))
  | 0 => some (0, fun _ => 0, fun _ => 0)
  | j + 1 => (ltS T' j).bind (fun s => ltF (T' j) j s)
theorem ltS_mono {T' : Nat → Int32} {j : Nat} (h : ltS T' j = none) : ∀ m, j ≤ m → ltS T' m = none
  | 0, hm => by have : j = 0 := by omega
                subst this; exact h
  | m + 1, hm => by
    by_cases e : j = m + 1
    · subst e; exact h
    · show (ltS T' m).bind _ = none
      rw [ltS_mono h m (by omega)]; rfl
def ltI (T' : Nat → Int32) (j : Nat) (s : Nat × (Nat → Int32) × (Nat → Nat)) : Prop := s.1 ≤ 3 ∧ (∀ i, i < j → s.2.2 i < s.1 ∧ s.2.1 (s.2.2 i) = T' i) ∧ (∀ a b, a < s.1 → b < s.1 → s.2.1 a = s.2.1 b → a = b) ∧ (0 < j → 0 < s.1)
theorem ltS_I {T' : Nat → Int32} : ∀ j s, ltS T' j = some s → ltI T' j s
  | 0, s, h => by
    cases h
    exact ⟨by decide, fun i hi => by omega, fun a b ha => absurd ha (Nat.not_lt_zero _), fun h => by omega⟩
  | j + 1, s, h => by
    have h' : (ltS T' j).bind (fun s => ltF (T' j) j s) = some s := h
    cases e : ltS T' j with
    | none => rw [e] at h'; cases h'
    | some r =>
      rw [e] at h'
      have h2 : ltF (T' j) j r = some s := h'
      obtain ⟨a1, a2, a3, a4⟩ := ltS_I j r e
      obtain ⟨b1, b2, b3⟩ := lfd_p (L := r.2.1) (K := r.1) (x := T' j)
      unfold ltF at h2
      by_cases c1 : T' j < 65 ∨ 90 < T' j
      · rw [if_pos c1] at h2; cases h2
      · rw [if_neg c1] at h2
        by_cases c2 : 3 ≤ lfd r.2.1 r.1 (T' j)
        · rw [if_pos c2] at h2; cases h2
        · rw [if_neg c2] at h2
          cases h2
          obtain ⟨k, hk⟩ : ∃ k, k = lfd r.2.1 r.1 (T' j) := ⟨_, rfl⟩
          rw [← hk] at b1 b2 b3 c2
          unfold ltI
          simp only [← hk]
          refine ⟨by split <;> omega, fun i hi => ?_, fun a b ha hb hab => ?_, fun _ => by split <;> omega⟩
          · by_cases z : i = j
            · subst z
              rw [up1_eq, if_pos rfl]
              exact ⟨by split <;> omega, rfl⟩
            · rw [up1_ne z]
              obtain ⟨p, q⟩ := a2 i (by omega)
              refine ⟨by split <;> omega, ?_⟩
              by_cases y : r.2.2 i = k
              · rw [if_pos y, ← q, y, b2 (by omega)]
              · rw [if_neg y, q]
          · by_cases kK : k < r.1
            · rw [if_pos kK] at ha hb
              have hL : ∀ i, (if i = k then T' j else r.2.1 i) = r.2.1 i := fun i => by
                by_cases y : i = k
                · rw [if_pos y, y, b2 kK]
                · rw [if_neg y]
              rw [hL, hL] at hab
              exact a3 a b ha hb hab
            · rw [if_neg kK] at ha hb
              by_cases y : a = k
              · by_cases z : b = k
                · omega
                · rw [if_pos y, if_neg z] at hab
                  exact absurd hab.symm (b3 b (by omega))
              · by_cases z : b = k
                · rw [if_neg y, if_pos z] at hab
                  exact absurd hab (b3 a (by omega))
                · rw [if_neg y, if_neg z] at hab
                  exact a3 a b (by omega) (by omega) hab
/-! a word's strokes against those heard -/
def ms (T : Nat → Int32) (S x : Nat) : Nat → Nat → Option Nat
  | 0, a => some a
  | r + 1, a => if a < S ∧ T a - 97 = Int32.ofNat ((x >>> r) % 2) then ms T S x r (a + 1) else none
theorem ms_le {T : Nat → Int32} {S x : Nat} : ∀ r a b, a ≤ S → ms T S x r a = some b → b ≤ S
  | 0, a, b, h, g => by cases g; exact h
  | r + 1, a, b, h, g => by
    unfold ms at g
    by_cases e : a < S ∧ T a - 97 = Int32.ofNat ((x >>> r) % 2)
    · rw [if_pos e] at g; exact ms_le r (a + 1) b (by omega) g
    · rw [if_neg e] at g; cases g
theorem lp_ms {T : Nat → Int32} {S x : Nat} {body : Int32 × Int32 → Option ((Int32 × Int32) ⊕ (Int32 ⊕ Int32))} (h0 : ∀ a, body (Int32.ofNat a, -1) = some (.inr (.inl (Int32.ofNat a)))) (h1 : ∀ a r, a ≤ S → r < 9 → body (Int32.ofNat a, Int32.ofNat r) = some (if a < S ∧ T a - 97 = Int32.ofNat ((x >>> r) % 2) then .inl (Int32.ofNat (a + 1), Int32.ofNat r + (-1)) else .inr (.inr 0))) : ∀ r a fu, r < fu → r < 10 → a ≤ S → am_loop body fu (Int32.ofNat a, Int32.ofNat r + (-1)) = some (match ms T S x r a with | some b => .inl (Int32.ofNat b) | none => .inr 0)
  | 0, a, fu + 1, _, _, ha => by
    rw [am_loop_s, show Int32.ofNat 0 + (-1) = -1 from rfl, h0]
    rfl
  | r + 1, a, fu + 1, hf, hr, ha => by
    rw [am_loop_s, show Int32.ofNat (r + 1) + (-1) = Int32.ofNat r from by rw [← on_s, Int32.add_assoc]; exact Int32.add_zero _, h1 a r ha (by omega)]
    unfold ms
    by_cases e : a < S ∧ T a - 97 = Int32.ofNat ((x >>> r) % 2)
    · rw [if_pos e, if_pos e]
      exact lp_ms h0 h1 r (a + 1) fu (by omega) (by omega) (by omega)
    · rw [if_neg e, if_neg e]
      rfl
/-- the words one after another -/
def rn (T : Nat → Int32) (S : Nat) (d W : Nat → Nat) (k : Nat) : Nat → Nat → Nat → Nat ⊕ Bool
  | 0, _, a => .inl a
  | r + 1, j, a => if k < d j then .inr true else match ms T S (W (d j)) (W (d j)).log2 a with
    | none => .inr false
    | some b => rn T S d W k r (j + 1) b
def fit (T : Nat → Int32) (S : Nat) (d W : Nat → Nat) (m k : Nat) : Bool := match rn T S d W k m 0 0 with
  | .inl a => decide (a = S)
  | .inr b => b
theorem rn_cg {T : Nat → Int32} {S k : Nat} {d W W' : Nat → Nat} (h : ∀ i, i ≤ k → W i = W' i) : ∀ r j a, rn T S d W k r j a = rn T S d W' k r j a
  | 0, _, _ => rfl
  | r + 1, j, a => by
    unfold rn
    by_cases e : k < d j
    · rw [if_pos e, if_pos e]
    · rw [if_neg e, if_neg e, h (d j) (by omega)]
      cases ms T S (W' (d j)) (W' (d j)).log2 a with
      | none => rfl
      | some b => exact rn_cg h r (j + 1) b
theorem fit_cg {T : Nat → Int32} {S m k : Nat} {d W W' : Nat → Nat} (h : ∀ i, i ≤ k → W i = W' i) : fit T S d W m k = fit T S d W' m k := by
  unfold fit; rw [rn_cg h]
def rnB (S : Nat) : Nat ⊕ Bool → Bool
  | .inl a => decide (a = S)
  | .inr b => b
theorem fit_B {T : Nat → Int32} {S m k : Nat} {d W : Nat → Nat} : fit T S d W m k = rnB S (rn T S d W k m 0 0) := by
  unfold fit rnB
  cases rn T S d W k m 0 0 <;> rfl
theorem rn_up {T : Nat → Int32} {S k k' : Nat} {d W : Nat → Nat} (h : k ≤ k') : ∀ r j a, rnB S (rn T S d W k' r j a) = true → rnB S (rn T S d W k r j a) = true
  | 0, _, _, g => g
  | r + 1, j, a, g => by
    unfold rn at g ⊢
    by_cases e : k < d j
    · rw [if_pos e]; rfl
    · rw [if_neg e]
      rw [if_neg (by omega)] at g
      cases q : ms T S (W (d j)) (W (d j)).log2 a with
      | none => rw [q] at g; exact g
      | some b => rw [q] at g; exact rn_up h r (j + 1) b g
theorem fit_up {T : Nat → Int32} {S m k k' : Nat} {d W : Nat → Nat} (h : k ≤ k') (g : fit T S d W m k' = true) : fit T S d W m k = true := by
  rw [fit_B] at g ⊢; exact rn_up h _ _ _ g
theorem rn_all {T : Nat → Int32} {S k k' : Nat} {d W : Nat → Nat} : ∀ r j a, (∀ i, j ≤ i → i < j + r → d i ≤ k ∧ d i ≤ k') → rn T S d W k r j a = rn T S d W k' r j a
  | 0, _, _, _ => rfl
  | r + 1, j, a, h => by
    have := h j (Nat.le_refl _) (by omega)
    unfold rn
    rw [if_neg (by omega), if_neg (by omega)]
    cases ms T S (W (d j)) (W (d j)).log2 a with
    | none => rfl
    | some b => exact rn_all r (j + 1) b (fun i h1 h2 => h i (by omega) (by omega))
theorem fit_all {T : Nat → Int32} {S m k k' : Nat} {d W : Nat → Nat} (h : ∀ i, i < m → d i ≤ k ∧ d i ≤ k') : fit T S d W m k = fit T S d W m k' := by
  unfold fit; rw [rn_all m 0 0 (fun i _ h2 => h i (by omega))]
/-! the ways -/
def gd (T : Nat → Int32) (S : Nat) (d : Nat → Nat) (m K : Nat) (W : Nat → Nat) : Bool := allN (fun k => decide (2 ≤ W k) && allN (fun o => !decide (W k = W o)) k) K && fit T S d W m 3
theorem gd_iff {T : Nat → Int32} {S m K : Nat} {d W : Nat → Nat} : gd T S d m K W = true ↔ (∀ k, k < K → 2 ≤ W k) ∧ (∀ k, k < K → ∀ o, o < k → W k ≠ W o) ∧ fit T S d W m 3 = true := by
  unfold gd
  rw [Bool.and_eq_true, allN_iff]
  constructor
  · rintro ⟨h, g⟩
    refine ⟨fun k hk => ?_, fun k hk o ho => ?_, g⟩
    · have := h k hk; simp only [Bool.and_eq_true, decide_eq_true_eq] at this; exact this.1
    · have := h k hk
      simp only [Bool.and_eq_true, decide_eq_true_eq] at this
      have := allN_iff.mp this.2 o ho
      simpa using this
  · rintro ⟨h, g, f⟩
    refine ⟨fun k hk => ?_, f⟩
    simp only [Bool.and_eq_true, decide_eq_true_eq]
    exact ⟨h k hk, allN_iff.mpr (fun o ho => by simpa using g k hk o ho)⟩
def wst (K : Nat) (W : Nat → Nat) (c : Nat × (Nat → Nat)) : Nat × (Nat → Nat) := (c.1 + 1, if c.1 = 0 then (fun i => if i < K then W i else 0) else c.2)
def gst (T : Nat → Int32) (S : Nat) (d : Nat → Nat) (m K : Nat) (W : Nat → Nat) (c : Nat × (Nat → Nat)) : Nat × (Nat → Nat) := if gd T S d m K W = true then wst K W c else c
def Rr (G : (Nat → Nat) → (Nat × (Nat → Nat)) → (Nat × (Nat → Nat))) : Nat → Nat → (Nat → Nat) → (Nat × (Nat → Nat)) → (Nat × (Nat → Nat))
  | 0, _, W, c => G W c
  | r + 1, k, W, c => fo (fun x c => Rr G r (k + 1) (up1 W k x) c) 16 c
theorem fo_id {α : Type} {F : Nat → α → α} {c : α} : ∀ n, (∀ x, x < n → F x c = c) → fo F n c = c
  | 0, _ => rfl
  | n + 1, h => by show F n (fo F n c) = c; rw [fo_id n (fun x hx => h x (by omega)), h n (by omega)]
theorem fo_cgI {α : Type} {F G : Nat → α → α} {c : α} : ∀ n, (∀ x, x < n → ∀ a, F x a = G x a) → fo F n c = fo G n c
  | 0, _ => rfl
  | n + 1, h => by show F n (fo F n c) = G n (fo G n c); rw [fo_cgI n (fun x hx => h x (by omega)), h n (by omega)]
theorem Rr_bad {T : Nat → Int32} {S m K : Nat} {d : Nat → Nat} : ∀ r k W c, (∀ W', (∀ i, i < k → W' i = W i) → gd T S d m K W' = false) → Rr (gst T S d m K) r k W c = c
  | 0, k, W, c, h => by
    show gst T S d m K W c = c
    unfold gst
    rw [if_neg (by rw [h W (fun _ _ => rfl)]; decide)]
  | r + 1, k, W, c, h => by
    show fo _ 16 c = c
    exact fo_id 16 (fun x _ => Rr_bad r (k + 1) (up1 W k x) c (fun W' h' => h W' (fun i hi => by rw [h' i (by omega), up1_ne (by omega)])))
theorem gd_cg {T : Nat → Int32} {S m K : Nat} {d W W' : Nat → Nat} (hd : ∀ i, i < m → d i < K) (hK : K ≤ 3) (h : ∀ i, i < K → W i = W' i) : gd T S d m K W = gd T S d m K W' := by
  have hf : fit T S d W m 3 = fit T S d W' m 3 := by
    by_cases z : K = 0
    · subst z
      have : m = 0 := by
        apply Classical.byContradiction
        intro q
        have := hd 0 (by omega)
        omega
      subst this
      rfl
    · rw [fit_all (k' := K - 1) (fun i hi => by have := hd i hi; omega), fit_cg (W' := W') (fun i hi => h i (by omega)), fit_all (k' := 3) (fun i hi => by have := hd i hi; omega)]
  rw [Bool.eq_iff_iff, gd_iff, gd_iff, hf]
  constructor
  · rintro ⟨a, b, c⟩
    exact ⟨fun k hk => by rw [← h k hk]; exact a k hk, fun k hk o ho => by rw [← h k hk, ← h o (by omega)]; exact b k hk o ho, c⟩
  · rintro ⟨a, b, c⟩
    exact ⟨fun k hk => by rw [h k hk]; exact a k hk, fun k hk o ho => by rw [h k hk, h o (by omega)]; exact b k hk o ho, c⟩
theorem gst_cg {T : Nat → Int32} {S m K : Nat} {d W W' : Nat → Nat} (hd : ∀ i, i < m → d i < K) (hK : K ≤ 3) (h : ∀ i, i < K → W i = W' i) {c : Nat × (Nat → Nat)} : gst T S d m K W c = gst T S d m K W' c := by
  unfold gst
  rw [gd_cg hd hK h]
  have : (fun i => if i < K then W i else 0) = (fun i => if i < K then W' i else 0) := by
    funext i
    by_cases z : i < K
    · rw [if_pos z, if_pos z, h i z]
    · rw [if_neg z, if_neg z]
  unfold wst
  rw [this]
theorem Rr_le {T : Nat → Int32} {S m K : Nat} {d : Nat → Nat} : ∀ r k W c, (Rr (gst T S d m K) r k W c).1 ≤ c.1 + 16 ^ r
  | 0, k, W, c => by
    show (gst T S d m K W c).1 ≤ _
    unfold gst wst
    split
    · exact Nat.le_refl _
    · exact Nat.le_add_right _ _
  | r + 1, k, W, c => by
    show (fo _ 16 c).1 ≤ _
    have : ∀ n, (fo (fun x c => Rr (gst T S d m K) r (k + 1) (up1 W k x) c) n c).1 ≤ c.1 + n * 16 ^ r := by
      intro n
      induction n with
      | zero => show c.1 ≤ _; omega
      | succ n ih =>
        show (Rr (gst T S d m K) r (k + 1) (up1 W k n) (fo _ n c)).1 ≤ _
        have := Rr_le (T := T) (S := S) (m := m) (K := K) (d := d) r (k + 1) (up1 W k n) (fo (fun x c => Rr (gst T S d m K) r (k + 1) (up1 W k x) c) n c)
        rw [Nat.add_mul, Nat.one_mul]
        omega
    have := this 16
    rw [Nat.pow_succ, Nat.mul_comm]
    exact this
/-! the numbers of the codes -/
theorem fo_split {α : Type} {F : Nat → α → α} {a : Nat} {c : α} : ∀ b, fo F (a + b) c = fo (fun k => F (a + k)) b (fo F a c)
  | 0 => rfl
  | b + 1 => by show F (a + b) (fo F (a + b) c) = F (a + b) (fo _ b (fo F a c)); rw [fo_split b]
theorem fo_mul {α : Type} {F : Nat → α → α} {N : Nat} {c : α} : ∀ M, fo F (M * N) c = fo (fun x c => fo (fun k => F (x * N + k)) N c) M c
  | 0 => by rw [Nat.zero_mul]; rfl
  | M + 1 => by
    rw [Nat.add_mul, Nat.one_mul, fo_split, fo_mul M]
    rfl
def mxc (K k : Nat) (W : Nat → Nat) (n i : Nat) : Nat := if i < k then W i else (n / 16 ^ (K - 1 - i)) % 16
theorem Rr_codes {T : Nat → Int32} {S m K : Nat} {d : Nat → Nat} (hd : ∀ i, i < m → d i < K) (hK : K ≤ 3) : ∀ r k W c, r + k = K → Rr (gst T S d m K) r k W c = fo (fun n c => gst T S d m K (mxc K k W n) c) (16 ^ r) c
  | 0, k, W, c, h => by
    show gst T S d m K W c = gst T S d m K (mxc K k W 0) c
    exact gst_cg hd hK (fun i hi => by unfold mxc; rw [if_pos (by omega)])
  | r + 1, k, W, c, h => by
    show fo _ 16 c = _
    rw [Nat.pow_succ, Nat.mul_comm, fo_mul]
    refine fo_cgI 16 (fun x hx a => ?_)
    rw [Rr_codes hd hK r (k + 1) (up1 W k x) a (by omega)]
    refine fo_cgI _ (fun n hn a => gst_cg hd hK (fun i hi => ?_))
    unfold mxc
    by_cases z : i < k
    · rw [if_pos (by omega), if_pos z, up1_ne (by omega)]
    · rw [if_neg z]
      by_cases y : i = k
      · subst y
        have e : K - 1 - i = r := by omega
        have hp : 0 < 16 ^ r := Nat.pow_pos (by decide)
        rw [if_pos (by omega), up1_eq, e, Nat.mul_comm, Nat.mul_add_div hp, Nat.div_eq_of_lt hn, Nat.add_zero, Nat.mod_eq_of_lt hx]
      · rw [if_neg (by omega)]
        have h3 : r = 1 ∧ K - 1 - i = 0 ∨ r = 2 ∧ K - 1 - i = 0 ∨ r = 2 ∧ K - 1 - i = 1 := by omega
        rcases h3 with ⟨rfl, e⟩ | ⟨rfl, e⟩ | ⟨rfl, e⟩ <;> rw [e] <;> omega
end LN
