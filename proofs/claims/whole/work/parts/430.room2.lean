section RM
variable {σ : sg} {ρ : rg} {t u : Nat} {w wi : wg} {W : Nat → Nat}
theorem rd_codes {a b : Nat} (h : rh ρ a b) : am_rd ρ 0 14 100 = some 94 := rh_rd h (by decide) (by decide) (by decide +kernel)
theorem rd_cw {a b : Nat} (h : rh ρ a b) : am_rd ρ 94 2 1 = some 97 := rh_rd h (by decide) (by decide) (by decide +kernel)
theorem rd_clen {a b : Nat} (h : rh ρ a b) : am_rd ρ 94 3 1 = some 98 := rh_rd h (by decide) (by decide) (by decide +kernel)
theorem ln_97 : am_ln 97 = 10 := by decide
theorem ln_98 : am_ln 98 = 10 := by decide
def cW (σ : sg) (W : Nat → Nat) : Prop := ∀ o, o < 10 → σ 97 o = zw (W o) ∧ σ 98 o = Int32.ofNat (W o).log2
/-- what is kept so far -/
def kq (σ : sg) (U mo y : Nat) : Prop := (y = 0 ∧ σ 94 6 = -1) ∨ (2 ≤ y ∧ y < 512 ∧ σ 94 6 = Int32.ofNat (mo + U * mnN y) ∧ σ 94 7 = Int32.ofNat y)
def hadv (W : Nat → Nat) (x : Nat) : Int32 := fd (fun o => Int32.ofNat (W o).log2) 0 (ff (hadq W x) 0 10)
theorem c_behind {a b : Nat} (hr : rh ρ a b) (hW : ∀ o, o < 10 → W o < 512) (hc : cW σ W) {x : Nat} (hx : x < 512) : f_X0_lengthBehind (σ, ρ) 94 (Int32.ofNat x) (Int32.ofNat x.log2) = some (hadv W x) := by
  have hl8 := log2_le8 hx
  unfold f_X0_lengthBehind hadv
  rw [lp_ff (x := 0) (δ := Int32 ⊕ Int32) (fun k => Int32.ofNat k) (hadq W x) (fun o => .inl (Int32.ofNat o)) (.inr 0) 10 rfl (fun o ho => ?_) (fun _ => ?_) (by decide), bnd]
  · cases hf : ff (hadq W x) 0 10 with
    | none => rfl
    | some o =>
      obtain ⟨-, ho, -, -⟩ := ff_some.mp hf
      show ((am_rd ρ 94 3 1).bind fun q22 => (am_ld σ q22 (Int32.ofNat o)).bind fun v23 => some v23) = _
      rw [rd_clen hr, bnd, ld_on (by rw [ln_98]; omega) (by omega), (hc o (by omega)).2, bnd]
      rfl
  · unfold f_X0_lengthBehind_b2
    have hWo := hW o ho
    have hlw := log2_le8 hWo
    simp only [rd_clen hr, rd_cw hr, bnd]
    rw [if_pos (show Int32.ofNat o < 10 from (on_lt (b := 10) (by omega) (by decide)).mpr ho), ld_on (a := 98) (by rw [ln_98]; omega) (by omega), ld_on (a := 97) (by rw [ln_97]; omega) (by omega), (hc o ho).1, (hc o ho).2]
    simp only [bnd, zw_m (show W o < 2147483648 by omega), on_s]
    unfold hadq
    by_cases z : W o = 0
    · rw [if_pos z]; simp [z]
    · rw [if_neg z, zw_p z]
      by_cases q : (W o).log2 < x.log2
      · have hneg : Int32.ofNat (W o).log2 - Int32.ofNat x.log2 < 0 := by
          have h1 : Int32.ofNat (W o).log2 - Int32.ofNat x.log2 = -(Int32.ofNat (x.log2 - (W o).log2)) := by rw [← on_sub (by omega), Int32.neg_sub]
          rw [h1, Int32.lt_iff_toInt_lt, Int32.toInt_neg, on_int (by omega)]
          have h0 : (0 : Int32).toInt = 0 := rfl
          rw [h0, Int.bmod_eq_of_le (by omega) (by omega)]
          omega
        rw [if_pos hneg]
        have : bgn x (W o) = false := by
          cases e : bgn x (W o) with
          | false => rfl
          | true => have := (bgn_iff.mp e).1; omega
        simp [this]
      · rw [on_sub (by omega), if_neg (on_neg (by omega)), w_shr (by omega) (by omega)]
        have hsl : W o >>> ((W o).log2 - x.log2) < 2147483648 := by rw [Nat.shiftRight_eq_div_pow]; exact Nat.lt_of_le_of_lt (Nat.div_le_self _ _) (by omega)
        simp only [on_inj hsl (show x < 2147483648 by omega)]
        by_cases y : W o >>> ((W o).log2 - x.log2) = x
        · have : bgn x (W o) = true := bgn_iff.mpr ⟨by omega, y⟩
          rw [if_pos y]; simp [this, z]
        · have : bgn x (W o) = false := by
            cases e : bgn x (W o) with
            | false => rfl
            | true => exact absurd (bgn_iff.mp e).2 y
          rw [if_neg y]; simp [this]
  · unfold f_X0_lengthBehind_b2
    rw [if_neg (by decide)]
theorem mn_le {x : Nat} (h : x < 1024) : mnN x ≤ 18 := (w_min h).2.2.1
theorem c_keep {U mo y x : Nat} (hU : 1 ≤ U) (hU2 : U < 100) (hmo : mo < 1000) (hx : 2 ≤ x) (hx2 : x < 512) (hk : kq σ U mo y) : ∃ τ, f_X0_keepIfLess (σ, ρ) 94 (Int32.ofNat x) (Int32.ofNat (mo + U * mnN x)) = some τ ∧ kq τ U mo (if bt x y then x else y) ∧ (∀ o j, ¬ (o = 94 ∧ (j = 6 ∨ j = 7)) → τ o j = σ o j) := by
  have m1 := mn_le (show x < 1024 by omega)
  have b1 : U * mnN x ≤ 100 * 18 := Nat.mul_le_mul (by omega) m1
  obtain ⟨τ, hτ⟩ : ∃ τ, τ = am_u2 (am_u2 σ 94 6 (Int32.ofNat (mo + U * mnN x))) 94 7 (Int32.ofNat x) := ⟨_, rfl⟩
  have kτ : kq τ U mo x := Or.inr ⟨hx, hx2, by rw [hτ, u2_nj (by decide), u2_eq], by rw [hτ, u2_eq]⟩
  have oτ : ∀ o j, ¬ (o = 94 ∧ (j = 6 ∨ j = 7)) → τ o j = σ o j := fun o j h => by
    rw [hτ]; unfold am_u2; rw [if_neg (by omega), if_neg (by omega)]
  unfold f_X0_keepIfLess
  simp only [← hτ]
  rcases hk with ⟨rfl, h6⟩ | ⟨h2, h3, h6, h7⟩
  · refine ⟨τ, by rw [if_pos h6], ?_, oτ⟩
    rw [if_pos (by simp [bt])]; exact kτ
  · have m2 := mn_le (show y < 1024 by omega)
    have b2 : U * mnN y ≤ 100 * 18 := Nat.mul_le_mul (by omega) m2
    rw [h6, h7, if_neg (on_m1 (by omega))]
    simp only [on_lt (show mo + U * mnN x < 2147483648 by omega) (show mo + U * mnN y < 2147483648 by omega), on_inj (show mo + U * mnN x < 2147483648 by omega) (show mo + U * mnN y < 2147483648 by omega), on_lt (show x < 2147483648 by omega) (show y < 2147483648 by omega)]
    have hlt : (mo + U * mnN x < mo + U * mnN y) ↔ mnN x < mnN y := by
      constructor
      · intro h; exact Nat.lt_of_mul_lt_mul_left (a := U) (by omega)
      · intro h; have := Nat.mul_lt_mul_of_pos_left h (show 0 < U by omega); omega
    have heq : (mo + U * mnN x = mo + U * mnN y) ↔ mnN x = mnN y := by
      constructor
      · intro h; exact Nat.eq_of_mul_eq_mul_left (show 0 < U by omega) (by omega)
      · intro h; rw [h]
    simp only [hlt, heq]
    by_cases a : mnN x < mnN y
    · refine ⟨τ, by rw [if_pos a], ?_, oτ⟩
      rw [if_pos (by simp [bt, a])]; exact kτ
    · rw [if_neg a]
      by_cases b : mnN x = mnN y
      · rw [if_pos b]
        by_cases c : x < y
        · refine ⟨τ, by rw [if_pos c], ?_, oτ⟩
          rw [if_pos (by simp [bt, b, c])]; exact kτ
        · refine ⟨σ, by rw [if_neg c], ?_, fun _ _ _ => rfl⟩
          rw [if_neg (by simp [bt, b, c]; omega)]; exact Or.inr ⟨h2, h3, h6, h7⟩
      · rw [if_neg b]
        refine ⟨σ, rfl, ?_, fun _ _ _ => rfl⟩
        rw [if_neg (by simp [bt, a, b]; omega)]; exact Or.inr ⟨h2, h3, h6, h7⟩
theorem mnc_all : ((List.range 256).all (fun b => (List.range 2).all (fun s => decide (b = 0) || decide (mnN (2 * b + s) = mnN b + s + 1)))) = true := by decide +kernel
theorem mn_ch {b s : Nat} (hb : 1 ≤ b) (hb2 : b < 256) (hs : s < 2) : mnN (2 * b + s) = mnN b + s + 1 := by
  have h1 := List.all_eq_true.mp mnc_all b (List.mem_range.mpr hb2)
  have h2 := List.all_eq_true.mp h1 s (List.mem_range.mpr hs)
  simp only [Bool.or_eq_true, decide_eq_true_eq] at h2
  omega
theorem cW_eq {τ : sg} (hc : cW σ W) (h : ∀ o j, ¬ (o = 94 ∧ (j = 6 ∨ j = 7)) → τ o j = σ o j) : cW τ W := fun o ho => by
  rw [h 97 o (by omega), h 98 o (by omega)]; exact hc o ho
theorem c_try {a b : Nat} (hr : rh ρ a b) (hW : ∀ o, o < 10 → W o < 512) {U mo : Nat} (hU : 1 ≤ U) (hU2 : U < 100) (hmo : mo < 1000) : ∀ (n fu b y : Nat) (σ : sg), n < fu → 1 ≤ b → b.log2 + n = 8 → cW σ W → kq σ U mo y → ∃ τ, f_rec_X0_tryLonger fu 0 (σ, ρ) 94 (Int32.ofNat b) (Int32.ofNat b.log2) (Int32.ofNat U) (Int32.ofNat (mo + U * mnN b)) = some τ ∧ kq τ U mo (bl (kps W n b) y) ∧ (∀ o j, ¬ (o = 94 ∧ (j = 6 ∨ j = 7)) → τ o j = σ o j)
  | n, 0, _, _, _, h, _, _, _, _ => by omega
  | 0, fu + 1, b, y, σ, _, hb, hl, hc, hk => by
    refine ⟨σ, ?_, hk, fun _ _ _ => rfl⟩
    show f_X0_tryLonger_o (f_rec_X0_tryLonger fu 0) (σ, ρ) 94 _ _ _ _ = _
    unfold f_X0_tryLonger_o
    have : am_loop (f_X0_tryLonger_b3 (f_rec_X0_tryLonger fu 0) (σ, ρ) 94 (Int32.ofNat b) (Int32.ofNat b.log2) (Int32.ofNat U) (Int32.ofNat (mo + U * mnN b))) am_fuel (0, σ) = some σ := by
      show am_loop _ (999999999999 + 1) _ = _
      rw [am_loop_s]
      unfold f_X0_tryLonger_b3
      simp only
      rw [if_pos (by decide), show b.log2 = 8 by omega, if_neg (by decide)]
      rfl
    rw [this, bnd]
  | n + 1, fu + 1, b, y, σ, hfu, hb, hl, hc, hk => by
    have hb256 : b < 256 := (Nat.log2_lt (n := b) (by omega) (k := 8)).mp (by omega)
    have hmb := mn_le (show b < 1024 by omega)
    have b0 : U * mnN b ≤ 100 * 18 := Nat.mul_le_mul (by omega) hmb
    -- one stroke
    have one : ∀ (s : Nat) (τ : sg) (y : Nat), s < 2 → cW τ W → kq τ U mo y → ∃ υ, f_X0_tryLonger_b3 (f_rec_X0_tryLonger fu 0) (σ, ρ) 94 (Int32.ofNat b) (Int32.ofNat b.log2) (Int32.ofNat U) (Int32.ofNat (mo + U * mnN b)) (Int32.ofNat s, τ) = some (.inl (Int32.ofNat (s + 1), υ)) ∧ kq υ U mo (bl (kps.kp1 W (kps W n) (2 * b + s)) y) ∧ (∀ o j, ¬ (o = 94 ∧ (j = 6 ∨ j = 7)) → υ o j = τ o j) := fun s τ y hs hc hk => by
      have hx := mn_ch hb hb256 hs
      have hlg := ch_lg hb hs
      have hx512 : 2 * b + s < 512 := by omega
      have hword : Int32.ofNat b * 2 + Int32.ofNat s = Int32.ofNat (2 * b + s) := by rw [show (2 : Int32) = Int32.ofNat 2 from rfl, on_mul, on_add]; congr 1; omega
      have hsum : Int32.ofNat (mo + U * mnN b) + Int32.ofNat U * (Int32.ofNat s + 1) = Int32.ofNat (mo + U * mnN (2 * b + s)) := by
        rw [on_s, on_mul, on_add, hx, show mnN b + s + 1 = mnN b + (s + 1) by omega]
        congr 1
        have := Nat.mul_add U (mnN b) (s + 1)
        omega
      have hlen : Int32.ofNat b.log2 + 1 = Int32.ofNat (2 * b + s).log2 := by rw [on_s, hlg]
      have hlW : ∀ o, o < 10 → (W o).log2 ≤ 8 := fun o ho => log2_le8 (hW o ho)
      unfold f_X0_tryLonger_b3
      simp only [hword, hsum, hlen]
      rw [if_pos (show Int32.ofNat s < 2 from (on_lt (b := 2) (by omega) (by decide)).mpr hs), if_pos (show Int32.ofNat b.log2 < 8 from (on_lt (b := 8) (by omega) (by decide)).mpr (by omega)), c_behind hr hW hc hx512, bnd]
      obtain ⟨T, hT⟩ : ∃ T, T = hadv W (2 * b + s) := ⟨_, rfl⟩
      rw [← hT]
      unfold kps.kp1
      cases hf : ff (hadq W (2 * b + s)) 0 10 with
      | none =>
        have hT2 : T = 0 := by rw [hT]; unfold hadv; rw [hf]; rfl
        subst hT2
        simp only [if_true]
        obtain ⟨υ, k1, k2, k3⟩ := c_keep (ρ := ρ) hU hU2 hmo (show 2 ≤ 2 * b + s by omega) hx512 hk
        rw [k1]
        simp only [bnd, on_s]
        exact ⟨υ, rfl, k2, k3⟩
      | some o =>
        obtain ⟨-, ho, hq, -⟩ := ff_some.mp hf
        unfold hadq at hq
        simp only [Bool.and_eq_true, decide_eq_true_eq] at hq
        have hlo := hlW o (by omega)
        have hge := (bgn_iff.mp hq.2).1
        have hnz : ¬ Int32.ofNat (W o).log2 = 0 := fun z => by have := (on_z (by omega)).mp z; omega
        have hT2 : T = Int32.ofNat (W o).log2 := by rw [hT]; unfold hadv; rw [hf]; rfl
        subst hT2
        rw [if_neg hnz]
        simp only
        by_cases q : (2 * b + s).log2 < (W o).log2
        · obtain ⟨υ, k1, k2, k3⟩ := c_try hr hW hU hU2 hmo n fu (2 * b + s) y τ (by omega) (by omega) (by omega) hc hk
          rw [if_pos ((on_lt (by omega) (by omega)).mpr q), if_pos q, k1]
          simp only [bnd, on_s]
          exact ⟨υ, rfl, k2, k3⟩
        · rw [if_neg (fun z => q ((on_lt (by omega) (by omega)).mp z)), if_neg q]
          simp only [bnd, on_s]
          exact ⟨τ, rfl, hk, fun _ _ _ => rfl⟩
    obtain ⟨υ1, g1, g2, g3⟩ := one 0 σ y (by decide) hc hk
    obtain ⟨υ2, g4, g5, g6⟩ := one 1 υ1 _ (by decide) (cW_eq hc g3) g2
    have hend : f_X0_tryLonger_b3 (f_rec_X0_tryLonger fu 0) (σ, ρ) 94 (Int32.ofNat b) (Int32.ofNat b.log2) (Int32.ofNat U) (Int32.ofNat (mo + U * mnN b)) (Int32.ofNat 2, υ2) = some (.inr υ2) := by
      unfold f_X0_tryLonger_b3
      simp only
      rw [if_neg (by decide)]
    have hloop : am_loop (f_X0_tryLonger_b3 (f_rec_X0_tryLonger fu 0) (σ, ρ) 94 (Int32.ofNat b) (Int32.ofNat b.log2) (Int32.ofNat U) (Int32.ofNat (mo + U * mnN b))) am_fuel (0, σ) = some υ2 := by
      rw [show (0 : Int32) = Int32.ofNat 0 from rfl]
      exact stp_loop (stp_add (stp_1 g1) (stp_1 g4)) hend (show 2 < 1000000000000 by decide)
    refine ⟨υ2, ?_, ?_, fun o j h => by rw [g6 o j h, g3 o j h]⟩
    · show f_X0_tryLonger_o (f_rec_X0_tryLonger fu 0) (σ, ρ) 94 _ _ _ _ = _
      unfold f_X0_tryLonger_o
      rw [hloop, bnd]
    · have : bl (kps W (n + 1) b) y = bl (kps.kp1 W (kps W n) (2 * b + 1)) (bl (kps.kp1 W (kps W n) (2 * b)) y) := by
        show bl (_ ++ _) y = _
        unfold bl
        rw [List.foldl_append]
      rw [this]
      exact g5
/-- the best of the ways so far: the sum and the word -/
def rmq (σ : sg) : Option (Nat × Nat) → Prop
  | none => σ 94 4 = -1 ∧ σ 94 5 = -1
  | some p => σ 94 4 = Int32.ofNat p.1 ∧ σ 94 5 = Int32.ofNat p.2 ∧ p.1 < 100000
def rmS (U mo : Nat) (W : Nat → Nat) (st : Option (Nat × Nat)) : Option (Nat × Nat) := if ft W 510 = 0 then st else if (match st with | none => true | some p => decide (mo + U * mnN (ft W 510) < p.1)) = true then some (mo + U * mnN (ft W 510), ft W 510) else st
theorem ft_lt {W : Nat → Nat} : ft W 510 < 512 := by
  rcases (ft_spec (W := W) 510).1 with h | ⟨_, h, _⟩ <;> omega
theorem c_way {a b : Nat} (hr : rh ρ a b) (hW : pfr W) {U mo : Nat} (hU : 1 ≤ U) (hU2 : U < 100) (hmo : mo < 1000) {st : Option (Nat × Nat)} (hc : cW σ W) (hst : rmq σ st) : ∃ τ, f_X0_tryWay (σ, ρ) 94 (Int32.ofNat U) (Int32.ofNat mo) = some τ ∧ rmq τ (rmS U mo W st) ∧ (∀ o j, ¬ (o = 94 ∧ (j = 4 ∨ j = 5 ∨ j = 6 ∨ j = 7)) → τ o j = σ o j) := by
  obtain ⟨s1, hs1⟩ : ∃ s1, s1 = am_u2 (am_u2 σ 94 6 (-1)) 94 7 (-1) := ⟨_, rfl⟩
  have o1 : ∀ o j, ¬ (o = 94 ∧ (j = 6 ∨ j = 7)) → s1 o j = σ o j := fun o j h => by
    rw [hs1]; unfold am_u2; rw [if_neg (by omega), if_neg (by omega)]
  have hmn1 : mnN 1 = 0 := by decide
  have hlg1 : (1 : Nat).log2 = 0 := by decide
  obtain ⟨τ, g1, g2, g3⟩ := c_try hr (fun o ho => (hW.1 o ho).2) hU hU2 hmo 8 60 1 0 s1 (by decide) (by decide) (by decide) (cW_eq hc o1) (Or.inl ⟨rfl, by rw [hs1, u2_nj (by decide), u2_eq]⟩)
  rw [way_ft hW] at g2
  rw [hmn1, hlg1, Nat.mul_zero, Nat.add_zero] at g1
  have ot : ∀ o j, ¬ (o = 94 ∧ (j = 6 ∨ j = 7)) → τ o j = σ o j := fun o j h => by rw [g3 o j h, o1 o j h]
  have hst' : rmq τ st := by
    cases st with
    | none => exact ⟨by rw [ot 94 4 (by omega)]; exact hst.1, by rw [ot 94 5 (by omega)]; exact hst.2⟩
    | some p => exact ⟨by rw [ot 94 4 (by omega)]; exact hst.1, by rw [ot 94 5 (by omega)]; exact hst.2.1, hst.2.2⟩
  have hfl := ft_lt (W := W)
  have hm := mn_le (show ft W 510 < 1024 by omega)
  have hb : U * mnN (ft W 510) ≤ 100 * 18 := Nat.mul_le_mul (by omega) hm
  unfold f_X0_tryWay f_X0_tryLonger
  simp only [← hs1]
  have g1' : f_rec_X0_tryLonger 60 0 (s1, ρ) 94 1 0 (Int32.ofNat U) (Int32.ofNat mo) = some τ := g1
  rw [g1', bnd]
  rcases g2 with ⟨z, h6⟩ | ⟨z1, z2, h6, h7⟩
  · rw [if_pos h6]
    refine ⟨τ, rfl, ?_, fun o j h => ot o j (by omega)⟩
    unfold rmS
    rw [if_pos z]
    exact hst'
  · have hz : ft W 510 ≠ 0 := by omega
    rw [h6, if_neg (show ¬ Int32.ofNat (mo + U * mnN (ft W 510)) = -1 from on_m1 (by omega))]
    obtain ⟨υ, hυ⟩ : ∃ υ, υ = am_u2 (am_u2 τ 94 4 (Int32.ofNat (mo + U * mnN (ft W 510)))) 94 5 (Int32.ofNat (ft W 510)) := ⟨_, rfl⟩
    have hυ2 : am_u2 (am_u2 τ 94 4 (Int32.ofNat (mo + U * mnN (ft W 510)))) 94 5 ((am_u2 τ 94 4 (Int32.ofNat (mo + U * mnN (ft W 510)))) 94 7) = υ := by rw [hυ, u2_nj (show 7 ≠ 4 by decide), h7]
    have kυ : rmq υ (some (mo + U * mnN (ft W 510), ft W 510)) := ⟨by rw [hυ, u2_nj (by decide), u2_eq], by rw [hυ, u2_eq], by show mo + U * mnN (ft W 510) < 100000; omega⟩
    have oυ : ∀ o j, ¬ (o = 94 ∧ (j = 4 ∨ j = 5 ∨ j = 6 ∨ j = 7)) → υ o j = σ o j := fun o j h => by
      rw [hυ]; unfold am_u2; rw [if_neg (by omega), if_neg (by omega), ot o j (by omega)]
    unfold rmS
    rw [if_neg hz]
    cases st with
    | none =>
      rw [if_pos hst'.1]
      simp only [if_true, hυ2]
      exact ⟨υ, rfl, kυ, oυ⟩
    | some p =>
      have hp := hst'.2.2
      rw [hst'.1, if_neg (show ¬ Int32.ofNat p.1 = -1 from on_m1 (by omega))]
      simp only [on_lt (show mo + U * mnN (ft W 510) < 2147483648 by omega) (show p.1 < 2147483648 by omega), hυ2, decide_eq_true_eq]
      by_cases q : mo + U * mnN (ft W 510) < p.1
      · rw [if_pos q, if_pos q]; exact ⟨υ, rfl, kυ, oυ⟩
      · rw [if_neg q, if_neg q]; exact ⟨τ, rfl, hst', fun o j h => ot o j (by omega)⟩
end RM
