section LP
variable {σ : sg} {ρ : rg} {t u : Nat} {w wi : wg}
theorem lp_rn {T : Nat → Int32} {S m k o : Nat} {d W : Nat → Nat} {body : Int32 × Int32 → Option ((Int32 × Int32) ⊕ (Int32 ⊕ Int32))} (h0 : ∀ a, a ≤ S → body (Int32.ofNat a, Int32.ofNat (o + m)) = some (.inr (.inl (Int32.ofNat a)))) (h1 : ∀ j a, j < m → a ≤ S → body (Int32.ofNat a, Int32.ofNat (o + j)) = some (if k < d j then .inr (.inr 1) else match ms T S (W (d j)) (W (d j)).log2 a with | none => .inr (.inr 0) | some b => .inl (Int32.ofNat b, Int32.ofNat (o + (j + 1))))) : ∀ r j a fu, j + r = m → r < fu → a ≤ S → am_loop body fu (Int32.ofNat a, Int32.ofNat (o + j)) = some (match rn T S d W k r j a with | .inl b => .inl (Int32.ofNat b) | .inr b => .inr (bi b))
  | 0, j, a, fu + 1, hj, _, ha => by
    have : j = m := by omega
    subst this
    rw [am_loop_s, h0 a ha]
    rfl
  | r + 1, j, a, fu + 1, hj, hf, ha => by
    rw [am_loop_s, h1 j a (by omega) ha]
    unfold rn
    by_cases e : k < d j
    · rw [if_pos e, if_pos e]; rfl
    · rw [if_neg e, if_neg e]
      cases q : ms T S (W (d j)) (W (d j)).log2 a with
      | none => rfl
      | some b => exact lp_rn h0 h1 r (j + 1) b fu (by omega) (by omega) (ms_le _ a b ha q)
theorem on_m {r : Nat} : Int32.ofNat r - 1 = Int32.ofNat r + (-1) := by rw [Int32.sub_eq_add_neg]
theorem log_16 {x : Nat} (h : x < 16) : x.log2 ≤ 3 := by
  by_cases z : x = 0
  · subst z; decide
  · have := (Nat.log2_lt z (k := 4)).mpr h; omega
theorem c_new {a b : Nat} (hr : rh ρ a b) {τ : sg} {k x : Nat} {W : Nat → Nat} (hk : k ≤ 3) (hx : x < 16) (hW : ∀ i, i < k → τ 103 i = Int32.ofNat (W i) ∧ W i < 16) : f_X3_isNew (τ, ρ) 99 (Int32.ofNat x) (Int32.ofNat k) = some (bi (allN (fun o => !decide (x = W o)) k)) := by
  have key := lp_ff (body := f_X3_isNew_b2 (τ, ρ) 99 (Int32.ofNat x) (Int32.ofNat k)) (fun j => Int32.ofNat j) (fun o => decide (x = W o)) (fun _ => .inr 0) (.inr 1) k (x := 0) rfl (fun o ho => by
    unfold f_X3_isNew_b2
    simp only
    obtain ⟨h1, h2⟩ := hW o ho
    rw [if_pos (lt_y ho (by omega)), rd_p3 hr, bnd, ld_on (by rw [ln_103]; omega) (by omega), h1, bnd, on_s]
    by_cases z : x = W o
    · rw [if_pos (by rw [z])]; simp [z]
    · rw [if_neg (fun q => z ((on_inj (by omega) (by omega)).mp q).symm)]; simp [z]) (fun _ => by
    unfold f_X3_isNew_b2
    rw [if_neg (lt_n (by omega))]) (by omega)
  unfold f_X3_isNew
  rw [key, bnd]
  cases e : ff (fun o => decide (x = W o)) 0 k with
  | none =>
    have : allN (fun o => !decide (x = W o)) k = true := allN_iff.mpr (fun o ho => by rw [ff_none.mp e o (Nat.zero_le _) (by omega)]; rfl)
    rw [this]; rfl
  | some i =>
    obtain ⟨-, h2, h3, -⟩ := ff_some.mp e
    have : allN (fun o => !decide (x = W o)) k = false := by
      rw [Bool.eq_false_iff]
      intro g
      have := allN_iff.mp g i (by omega)
      rw [h3] at this
      cases this
    rw [this]; rfl
theorem c_fit {a b : Nat} (hr : rh ρ a b) {τ : sg} {T : Nat → Int32} {S m k : Nat} {d W : Nat → Nat} (hS : S ≤ 20) (hm : m ≤ 6) (hk : k < 3) (h5 : τ 99 5 = Int32.ofNat S) (h6 : τ 99 6 = Int32.ofNat m) (hd : ∀ i, i < m → τ 101 i = Int32.ofNat (d i) ∧ d i < 3) (hh : ∀ i, i < S → τ 100 i = T i - 97) (hW : ∀ i, i ≤ k → τ 103 i = Int32.ofNat (W i) ∧ W i < 16) : f_X3_isFitting (τ, ρ) 99 (Int32.ofNat k) = some (bi (fit T S d W m k)) := by
  have key := lp_rn (T := T) (S := S) (m := m) (k := k) (o := 0) (d := d) (W := W) (body := f_X3_isFitting_b4 (τ, ρ) 99 (Int32.ofNat k)) (fun a _ => by
    unfold f_X3_isFitting_b4
    simp only [h6, Nat.zero_add]
    rw [if_neg (lt_n (by omega))]) (fun j a hj ha => by
    obtain ⟨d1, d2⟩ := hd j hj
    unfold f_X3_isFitting_b4
    simp only [h6, Nat.zero_add]
    rw [if_pos (lt_y hj (by omega)), if_pos (show Int32.ofNat j < 6 from (on_lt (b := 6) (by omega) (by decide)).mpr (by omega)), rd_p1 hr, bnd, ld_on (by rw [ln_101]; omega) (by omega), d1, bnd]
    by_cases e : k < d j
    · rw [if_pos (lt_y e (by omega)), if_pos e]
    · obtain ⟨w1, w2⟩ := hW (d j) (by omega)
      rw [if_neg (fun z => e ((on_lt (by omega) (by omega)).mp z)), if_neg e, rd_p3 hr, bnd, bnd, ld_on (by rw [ln_101]; omega) (by omega), d1, bnd, ld_on (by rw [ln_103]; omega) (by omega), w1, bnd, (w_len (show W (d j) < 1024 by omega)).2, bnd, on_m]
      have hl := log_16 w2
      rw [lp_ms (T := T) (S := S) (x := W (d j)) (body := f_X3_isFitting_b52 (τ, ρ) 99 (Int32.ofNat k) (Int32.ofNat j) (Int32.ofNat (W (d j)))) (fun a => by
        unfold f_X3_isFitting_b52
        simp only
        rw [if_pos (by decide)]) (fun a r ha hr9 => by
        unfold f_X3_isFitting_b52
        simp only [h5, sh1 (show W (d j) < 1024 by omega) (show r < 11 by omega)]
        rw [if_neg (on_neg (by omega))]
        by_cases q : a < S
        · rw [if_pos (lt_y q (by omega)), if_pos (show Int32.ofNat a < 20 from (on_lt (b := 20) (by omega) (by decide)).mpr (by omega)), rd_p0 hr, bnd, ld_on (by rw [ln_100]; omega) (by omega), hh a q, bnd, on_s]
          by_cases z : T a - 97 = Int32.ofNat ((W (d j) >>> r) % 2)
          · rw [if_pos z, if_pos ⟨q, z⟩]
          · rw [if_neg z, if_neg (fun y => z y.2)]
        · rw [if_neg (fun z => q ((on_lt (by omega) (by omega)).mp z)), if_neg (fun y => q y.1)]) _ a am_fuel (Nat.lt_of_le_of_lt hl (by decide)) (by omega) ha, bnd]
      cases ms T S (W (d j)) (W (d j)).log2 a with
      | none => rfl
      | some b => simp only [on_s]) m 0 0 am_fuel (by omega) (Nat.lt_of_le_of_lt hm (by decide)) (Nat.zero_le _)
  have key' : am_loop (f_X3_isFitting_b4 (τ, ρ) 99 (Int32.ofNat k)) am_fuel (0, 0) = _ := key
  unfold f_X3_isFitting
  rw [key', bnd]
  unfold fit
  cases e : rn T S d W k m 0 0 with
  | inl b =>
    have hb : b ≤ S := by
      have : ∀ r j a b, a ≤ S → rn T S d W k r j a = .inl b → b ≤ S := by
        intro r
        induction r with
        | zero => intro j a b ha h; cases h; exact ha
        | succ r ih =>
          intro j a b ha h
          unfold rn at h
          by_cases z : k < d j
          · rw [if_pos z] at h; cases h
          · rw [if_neg z] at h
            cases q : ms T S (W (d j)) (W (d j)).log2 a with
            | none => rw [q] at h; cases h
            | some c => rw [q] at h; exact ih (j + 1) c b (ms_le _ a c ha q) h
      exact this m 0 0 b (Nat.zero_le _) e
    simp only [h5, on_inj (show b < 2147483648 by omega) (show S < 2147483648 by omega)]
    by_cases z : b = S <;> simp [z, bi]
  | inr b => rfl
def tI (σ0 τ : sg) (K : Nat) (c : Nat × (Nat → Nat)) : Prop := (∀ o, o ≠ 99 → o ≠ 103 → o ≠ 104 → τ o = σ0 o) ∧ (∀ j, j ≠ 8 → τ 99 j = σ0 99 j) ∧ τ 99 8 = Int32.ofNat c.1 ∧ (c.1 ≠ 0 → ∀ i, i < K → τ 104 i = Int32.ofNat (c.2 i))
theorem Rr_lef {T : Nat → Int32} {S m K : Nat} {d : Nat → Nat} {r k : Nat} {W : Nat → Nat} {c : Nat × (Nat → Nat)} : ∀ n, (fo (fun x c => Rr (gst T S d m K) r (k + 1) (up1 W k x) c) n c).1 ≤ c.1 + n * 16 ^ r := by
  intro n
  induction n with
  | zero => show c.1 ≤ _; omega
  | succ n ih =>
    show (Rr (gst T S d m K) r (k + 1) (up1 W k n) (fo _ n c)).1 ≤ _
    have := Rr_le (T := T) (S := S) (m := m) (K := K) (d := d) r (k + 1) (up1 W k n) (fo (fun x c => Rr (gst T S d m K) r (k + 1) (up1 W k x) c) n c)
    rw [Nat.add_mul, Nat.one_mul]
    omega
theorem c_tryW {a b : Nat} (hr : rh ρ a b) {σ0 : sg} {T : Nat → Int32} {S m K : Nat} {d : Nat → Nat} (hS : S ≤ 20) (hm : m ≤ 6) (hK : K ≤ 3) (hK0 : 0 < K) (h5 : σ0 99 5 = Int32.ofNat S) (h6 : σ0 99 6 = Int32.ofNat m) (h7 : σ0 99 7 = Int32.ofNat K) (hd : ∀ i, i < m → σ0 101 i = Int32.ofNat (d i) ∧ d i < K) (hh : ∀ i, i < S → σ0 100 i = T i - 97) : ∀ r k N W τ c, r + k = K → r < N → (∀ i, i < k → 2 ≤ W i) → (∀ i, i < k → ∀ o, o < i → W i ≠ W o) → (∀ i, i < k → fit T S d W m i = true) → (∀ i, i < k → τ 103 i = Int32.ofNat (W i) ∧ W i < 16) → tI σ0 τ K c → c.1 + 16 ^ r < 1000000 → ∃ τ', f_rec_X3_tryWords N 0 (τ, ρ) 99 (Int32.ofNat k) = some τ' ∧ tI σ0 τ' K (Rr (gst T S d m K) r k W c) ∧ ∀ i, i < k → τ' 103 i = Int32.ofNat (W i)
  | 0, k, N + 1, W, τ, c, hk, _, v1, v2, v3, hw, hI, hc => by
    have : k = K := by omega
    subst this
    obtain ⟨i1, i2, i3, i4⟩ := hI
    have hgd : gd T S d m k W = true := gd_iff.mpr ⟨v1, v2, by
      rw [fit_all (k' := k - 1) (fun i hi => by have := (hd i hi).2; omega)]
      exact v3 (k - 1) (by omega)⟩
    have hR : Rr (gst T S d m k) 0 k W c = wst k W c := by
      show gst T S d m k W c = _
      unfold gst; rw [if_pos hgd]
    rw [hR]
    show ∃ τ', f_X3_tryWords_o (f_rec_X3_tryWords N 0) (τ, ρ) 99 (Int32.ofNat k) = some τ' ∧ _
    unfold f_X3_tryWords_o
    simp only [i2 7 (by decide), h7]
    rw [if_neg (lt_n (by omega))]
    unfold f_X3_keepWay
    simp only [i3, on_z (show c.1 < 2147483648 by omega), rd_p3 hr, rd_p4 hr, bnd]
    by_cases z : c.1 = 0
    · rw [if_pos z, cp0 (n := 3) (N := 3) (by rw [ln_103]; decide) (by rw [ln_104]; decide) (by decide) rfl]
      simp only [bnd]
      have e8 : cpF τ 103 104 3 99 8 = Int32.ofNat c.1 := by rw [cpF_ne (by decide)]; exact i3
      rw [e8, on_s]
      refine ⟨_, rfl, ⟨fun o h1 h2 h3 => ?_, fun j hj => ?_, u2_eq, fun _ i hi => ?_⟩, fun i hi => ?_⟩
      · rw [u2_row h1, cpF_ne h3, i1 o h1 h2 h3]
      · rw [u2_nj hj, cpF_ne (by decide)]; exact i2 j hj
      · rw [u2_ne (by decide), cpF_lt (by omega)]
        unfold wst
        simp only [z, if_true, hi]
        exact (hw i hi).1
      · rw [u2_ne (by decide), cpF_ne (by decide)]; exact (hw i hi).1
    · rw [if_neg z]
      simp only [bnd]
      rw [i3, on_s]
      refine ⟨_, rfl, ⟨fun o h1 h2 h3 => by rw [u2_row h1, i1 o h1 h2 h3], fun j hj => by rw [u2_nj hj]; exact i2 j hj, u2_eq, fun _ i hi => ?_⟩, fun i hi => by rw [u2_ne (by decide)]; exact (hw i hi).1⟩
      rw [u2_ne (by decide)]
      unfold wst
      simp only [z, if_false]
      exact i4 z i hi
  | r + 1, k, N + 1, W, τ, c, hk, hN, v1, v2, v3, hw, hI, hc => by
    have hkK : k < K := by omega
    obtain ⟨i1, i2, i3, i4⟩ := hI
    obtain ⟨F, hF⟩ : ∃ F : Nat → (Nat × (Nat → Nat)) → (Nat × (Nat → Nat)), F = fun x c => Rr (gst T S d m K) r (k + 1) (up1 W k x) c := ⟨_, rfl⟩
    have hR : Rr (gst T S d m K) (r + 1) k W c = fo F 16 c := by rw [hF]; rfl
    have hle : ∀ n, (fo F n c).1 ≤ c.1 + n * 16 ^ r := by rw [hF]; exact Rr_lef
    have hp : 16 ^ (r + 1) = 16 * 16 ^ r := by rw [Nat.pow_succ, Nat.mul_comm]
    rw [hR]
    show ∃ τ', f_X3_tryWords_o (f_rec_X3_tryWords N 0) (τ, ρ) 99 (Int32.ofNat k) = some τ' ∧ _
    unfold f_X3_tryWords_o
    simp only [i2 7 (by decide), h7]
    rw [if_pos (lt_y hkK (by omega)), if_pos (show Int32.ofNat k < 3 from (on_lt (b := 3) (by omega) (by decide)).mpr (by omega))]
    have hbad : ∀ x c, (∀ W', (∀ i, i < k + 1 → W' i = up1 W k x i) → gd T S d m K W' = false) → F x c = c := fun x c h => by rw [hF]; exact Rr_bad r (k + 1) _ c h
    have small : ∀ x c, x < 2 → F x c = c := fun x c hx => hbad x c (fun W' h => by
      rw [Bool.eq_false_iff]
      intro g
      have h1 := (gd_iff.mp g).1 k hkK
      rw [h k (by omega), up1_eq] at h1
      omega)
    obtain ⟨τ', t1, t2, t3⟩ := lp_rule (body := f_X3_tryWords_b20 (f_rec_X3_tryWords N 0) (τ, ρ) 99 (Int32.ofNat k)) 14 (fun i y => y.1 = Int32.ofNat (i + 2) ∧ tI σ0 y.2 K (fo F (i + 2) c) ∧ ∀ i, i < k → y.2 103 i = Int32.ofNat (W i)) (fun d => tI σ0 d K (fo F 16 c) ∧ ∀ i, i < k → d 103 i = Int32.ofNat (W i)) (x := (2, τ)) ⟨rfl, by
      have : fo F (0 + 2) c = c := fo_id 2 (fun x hx => small x c hx)
      rw [this]
      exact ⟨i1, i2, i3, i4⟩, fun i hi => (hw i hi).1⟩ (fun i y hi hy => by
      obtain ⟨j, υ⟩ := y
      obtain ⟨rfl, y1, y2⟩ := hy
      simp only at y1 y2
      unfold f_X3_tryWords_b20
      simp only
      by_cases e : 15 < i + 2
      · right
        have : i = 14 := by omega
        subst this
        rw [if_pos (by decide)]
        exact ⟨_, rfl, y1, y2⟩
      · left
        obtain ⟨x, hx⟩ : ∃ x, x = i + 2 := ⟨_, rfl⟩
        rw [← hx] at y1 e ⊢
        obtain ⟨j1, j2, j3, j4⟩ := y1
        rw [if_neg (show ¬ (15 : Int32) < Int32.ofNat x from fun z => e ((on_lt (a := 15) (by decide) (by omega)).mp z)), rd_p3 hr, bnd, st_on (by rw [ln_103]; omega) (by omega), bnd]
        obtain ⟨s1, hs1⟩ : ∃ s1, s1 = am_u2 υ 103 k (Int32.ofNat x) := ⟨_, rfl⟩
        rw [← hs1]
        have hw1 : ∀ i, i < k + 1 → s1 103 i = Int32.ofNat (up1 W k x i) ∧ up1 W k x i < 16 := fun i hi => by
          by_cases z : i = k
          · subst z; rw [hs1, u2_eq, up1_eq]; exact ⟨rfl, by omega⟩
          · rw [hs1, u2_nj z, up1_ne z]; exact ⟨y2 i (by omega), (hw i (by omega)).2⟩
        have tI1 : tI σ0 s1 K (fo F x c) := by
          rw [hs1]
          exact ⟨fun o h1 h2 h3 => by rw [u2_row h2, j1 o h1 h2 h3], fun j hj => by rw [u2_ne (by decide)]; exact j2 j hj, by rw [u2_ne (by decide)]; exact j3, fun h i hi => by rw [u2_ne (by decide)]; exact j4 h i hi⟩
        have hstep : fo F (x + 1) c = F x (fo F x c) := rfl
        have hw1' : ∀ i, i < k → s1 103 i = Int32.ofNat (W i) := fun i hi => by
          have := (hw1 i (by omega)).1
          rw [up1_ne (by omega)] at this
          exact this
        rw [c_new hr (W := W) (by omega) (by omega) (fun i hi => ⟨hw1' i hi, (hw i hi).2⟩), bnd, bi_f]
        cases hn : allN (fun o => !decide (x = W o)) k with
        | false =>
          simp only [if_neg (show ¬ false = true by decide), bnd, on_s]
          refine ⟨_, rfl, by omega, by rw [hx], ?_, hw1'⟩
          have : F x (fo F x c) = fo F x c := hbad x _ (fun W' h => by
            rw [Bool.eq_false_iff]
            intro g
            have h2 := (gd_iff.mp g).2.1 k hkK
            rw [Bool.eq_false_iff] at hn
            apply hn
            refine allN_iff.mpr (fun o ho => ?_)
            have h3 := h2 o ho
            rw [h k (by omega), h o (by omega), up1_eq, up1_ne (by omega)] at h3
            simpa using h3)
          show tI σ0 s1 K (fo F (i + 1 + 2) c)
          rw [show i + 1 + 2 = x + 1 by omega, hstep, this]
          exact tI1
        | true =>
          rw [if_pos rfl]
          rw [c_fit hr (T := T) (d := d) (W := up1 W k x) hS hm (show k < 3 by omega) (by rw [tI1.2.1 5 (by decide)]; exact h5) (by rw [tI1.2.1 6 (by decide)]; exact h6) (fun i hi => by rw [tI1.1 101 (by decide) (by decide) (by decide)]; have := hd i hi; exact ⟨this.1, by omega⟩) (fun i hi => by rw [tI1.1 100 (by decide) (by decide) (by decide)]; exact hh i hi) (fun i hi => hw1 i (by omega)), bnd, bi_f]
          cases hf : fit T S d (up1 W k x) m k with
          | false =>
            simp only [if_neg (show ¬ false = true by decide), bnd, on_s]
            refine ⟨_, rfl, by omega, by rw [hx], ?_, hw1'⟩
            have : F x (fo F x c) = fo F x c := hbad x _ (fun W' h => by
              rw [Bool.eq_false_iff]
              intro g
              have h2 := fit_up (show k ≤ 3 by omega) (gd_iff.mp g).2.2
              rw [fit_cg (W' := up1 W k x) (fun i hi => h i (by omega)), hf] at h2
              cases h2)
            show tI σ0 s1 K (fo F (i + 1 + 2) c)
            rw [show i + 1 + 2 = x + 1 by omega, hstep, this]
            exact tI1
          | true =>
            rw [if_pos rfl]
            have hcx := hle x
            have hxm : x * 16 ^ r ≤ 15 * 16 ^ r := Nat.mul_le_mul_right _ (by omega)
            have hr0 : r + (k + 1) = K := by omega
            obtain ⟨τ2, g1, g2, g3⟩ := c_tryW hr hS hm hK hK0 h5 h6 h7 hd hh r (k + 1) N (up1 W k x) s1 (fo F x c) hr0 (by omega) (fun i hi => by
              by_cases z : i = k
              · subst z; rw [up1_eq]; omega
              · rw [up1_ne z]; exact v1 i (by omega)) (fun i hi o ho => by
              by_cases z : i = k
              · subst z
                rw [up1_eq, up1_ne (by omega)]
                have := allN_iff.mp hn o ho
                simpa using this
              · rw [up1_ne z, up1_ne (by omega)]; exact v2 i (by omega) o ho) (fun i hi => by
              by_cases z : i = k
              · subst z; exact hf
              · rw [fit_cg (W' := W) (fun j hj => by rw [up1_ne (by omega)])]; exact v3 i (by omega)) hw1 tI1 (by omega)
            rw [on_s, g1]
            simp only [bnd, on_s]
            refine ⟨_, rfl, by omega, by rw [hx], ?_, fun i hi => ?_⟩
            · show tI σ0 τ2 K (fo F (i + 1 + 2) c)
              rw [show i + 1 + 2 = x + 1 by omega, hstep]
              rw [hF] at g2 ⊢
              exact g2
            · show τ2 103 i = _
              rw [g3 i (by omega), up1_ne (by omega)]) (by decide)
    rw [t1]
    exact ⟨τ', rfl, t2, t3⟩
end LP
