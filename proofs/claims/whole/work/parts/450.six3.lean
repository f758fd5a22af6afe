section SZ
variable {σ : sg} {ρ : rg} {t u : Nat} {w wi : wg}
theorem rd_six {a b : Nat} (h : rh ρ a b) : am_rd ρ 0 13 108 = some 89 := rh_rd h (by decide) (by decide) (by decide +kernel)
theorem rd_x0 {a b : Nat} (h : rh ρ a b) : am_rd ρ 89 0 1 = some 90 := rh_rd h (by decide) (by decide) (by decide +kernel)
theorem rd_x1 {a b : Nat} (h : rh ρ a b) : am_rd ρ 89 1 1 = some 91 := rh_rd h (by decide) (by decide) (by decide +kernel)
theorem rd_x2 {a b : Nat} (h : rh ρ a b) : am_rd ρ 89 2 1 = some 92 := rh_rd h (by decide) (by decide) (by decide +kernel)
theorem rd_x3 {a b : Nat} (h : rh ρ a b) : am_rd ρ 89 3 1 = some 93 := rh_rd h (by decide) (by decide) (by decide +kernel)
theorem ln_90 : am_ln 90 = 8 := by decide
theorem ln_91 : am_ln 91 = 8 := by decide
theorem ln_92 : am_ln 92 = 8 := by decide
theorem ln_93 : am_ln 93 = 8 := by decide
theorem ct_ch {p q : Nat → Bool} {h : Nat} (e : ∀ k, k ≠ h → p k = q k) (hp : p h = true) (hq : q h = false) : ∀ {n : Nat}, h < n → ct q n + 1 = ct p n
  | n + 1, hn => by
    rw [ct_s, ct_s]
    by_cases z : h = n
    · subst z
      have : ∀ m, m ≤ h → ct p m = ct q m := by
        intro m
        induction m with
        | zero => intro _; rfl
        | succ m ih => intro hm; rw [ct_s, ct_s, ih (by omega), e m (by omega)]
      rw [this h (Nat.le_refl _), if_pos hp, hq]
      rfl
    · have := ct_ch e hp hq (n := n) (by omega)
      rw [e n (fun y => z y.symm)]
      omega
theorem ct_l {q : Nat → Bool} : ∀ n, ct q n ≤ n
  | 0 => Nat.le_refl _
  | n + 1 => by
    have := ct_l (q := q) n
    rw [ct_s]
    split <;> omega
theorem rmb_c1 {S h : Nat} (h8 : h < 8) (hb : S.testBit h = true) : ct (rmb S h).testBit 8 + 1 = ct S.testBit 8 := ct_ch (h := h) (fun k hk => by rw [rmb_tb]; simp [hk]) hb (by rw [rmb_tb]; simp) h8
def csx (hm : Nat → Nat) (C : Nat → Nat) (τ : sg) (s : sxT) : Prop := τ 89 4 = Int32.ofNat s.1 ∧ τ 89 5 = Int32.ofNat s.2.2.1 ∧ τ 89 6 = Int32.ofNat s.2.2.2 ∧ ∀ h, h < 8 → τ 91 h = Int32.ofNat (hm h) ∧ τ 92 h = Int32.ofNat (C h) ∧ τ 93 h = Int32.ofNat (s.2.1 h)
def hmb (hm : Nat → Nat) (h o : Nat) : Bool := (hm h).testBit o
variable {hm : Nat → Nat} {C : Nat → Nat}
theorem c_unh {a b : Nat} (hr : rh ρ a b) (hh : ∀ h, hm h < 256) {τ : sg} {s : sxT} (h : csx hm C τ s) (hO : ∀ x, s.2.1 x < 100000) {x mi : Nat} (hx : x < 8) (hmi : mi < 100000) : f_X8_isUnharmed (τ, ρ) 89 (Int32.ofNat x) (Int32.ofNat mi) = some (bi (unh (hmb hm) s.2.1 mi x)) := by
  obtain ⟨-, -, -, h4⟩ := h
  have hmx := hh x
  have key := lp_ff (body := f_X8_isUnharmed_b2 (τ, ρ) 89 (Int32.ofNat x) (Int32.ofNat mi)) (fun j => Int32.ofNat j) (fun o => hmb hm x o && decide (mi < s.2.1 o)) (fun _ => Sum.inr 0) (Sum.inr 1) 8 (x := 0) rfl (fun o ho => by
    unfold f_X8_isUnharmed_b2
    simp only
    rw [if_pos (show Int32.ofNat o < 8 from (on_lt (b := 8) (by omega) (by decide)).mpr ho), rd_x1 hr, bnd, ld_on (by rw [ln_91]; omega) (by omega), (h4 x hx).1, bnd]
    have hOo := hO o
    simp only [on_bit (show hm x < 1024 by omega) (show o < 11 by omega), on_s]
    by_cases z : (hm x).testBit o = true
    · rw [if_pos z, rd_x3 hr, bnd, ld_on (by rw [ln_93]; omega) (by omega), (h4 o ho).2.2, bnd]
      simp only [on_lt (show mi < 2147483648 by omega) (show s.2.1 o < 2147483648 by omega)]
      unfold hmb
      rw [z]
      by_cases y : mi < s.2.1 o <;> simp [y]
    · rw [if_neg z]
      unfold hmb
      simp [z]) (fun _ => by
    unfold f_X8_isUnharmed_b2
    simp only
    rw [if_neg (by decide)]) (by decide)
  unfold f_X8_isUnharmed
  rw [key, bnd]
  unfold unh
  cases e : ff (fun o => hmb hm x o && decide (mi < s.2.1 o)) 0 8 with
  | none =>
    have : allN (fun o => !(hmb hm x o && decide (mi < s.2.1 o))) 8 = true := allN_iff.mpr (fun o ho => by rw [ff_none.mp e o (Nat.zero_le _) (by omega)]; rfl)
    rw [this]; rfl
  | some i =>
    obtain ⟨-, h2, h3, -⟩ := ff_some.mp e
    have : allN (fun o => !(hmb hm x o && decide (mi < s.2.1 o))) 8 = false := by
      rw [Bool.eq_false_iff]
      intro g
      have := allN_iff.mp g i (by omega)
      rw [h3] at this
      cases this
    rw [this]; rfl
def rdyN (hm : Nat → Nat) (s : sxT) (mi : Nat) : Nat := bm (fun h => s.1.testBit h && unh (hmb hm) s.2.1 mi h) 8
theorem c_ready {a b : Nat} (hr : rh ρ a b) (hh : ∀ h, hm h < 256) {τ : sg} {s : sxT} (h : csx hm C τ s) (hs : s.1 < 256) (hO : ∀ x, s.2.1 x < 100000) {mi : Nat} (hmi : mi < 100000) : f_X8_readyAt (τ, ρ) 89 (Int32.ofNat mi) = some (Int32.ofNat (rdyN hm s mi)) := by
  have key : am_loop (f_X8_readyAt_b4 (τ, ρ) 89 (Int32.ofNat mi)) am_fuel (0, 0) = some (Int32.ofNat (rdyN hm s mi)) := by
    refine lp_for 8 (fun k => (Int32.ofNat (bm (fun h => s.1.testBit h && unh (hmb hm) s.2.1 mi h) k), Int32.ofNat k)) rfl (fun k hk => ?_) ?_ (by decide)
    · unfold f_X8_readyAt_b4
      simp only [h.1]
      rw [if_pos (show Int32.ofNat k < 8 from (on_lt (b := 8) (by omega) (by decide)).mpr hk)]
      simp only [on_bit (show s.1 < 1024 by omega) (show k < 11 by omega), c_unh hr hh h hO hk hmi, bnd, bi_f, shl1 (show k < 9 by omega), on_or, on_s]
      have e : bm (fun h => s.1.testBit h && unh (hmb hm) s.2.1 mi h) (k + 1) = bm (fun h => s.1.testBit h && unh (hmb hm) s.2.1 mi h) k + (if (s.1.testBit k && unh (hmb hm) s.2.1 mi k) = true then 2 ^ k else 0) := rfl
      rw [e]
      cases s.1.testBit k
      · simp
      · cases unh (hmb hm) s.2.1 mi k
        · simp
        · simp [bm_or]
    · unfold f_X8_readyAt_b4
      simp only
      rw [if_neg (by decide)]
      rfl
  unfold f_X8_readyAt
  rw [key, bnd]
theorem c_next {a b : Nat} (hr : rh ρ a b) {τ : sg} {key : Nat → Int32} {S : Nat} (hS : S < 256) (hk : ∀ x, x < 8 → S.testBit x = true → τ 90 x = key x) {h : Nat} (hb : bsN key S 8 = some h) : f_X8_nextOf (τ, ρ) 89 (Int32.ofNat S) = some (Int32.ofNat h) := by
  have hI := fun k => bsN_I (key := key) (S := S) k
  have loop : am_loop (f_X8_nextOf_b4 (τ, ρ) 89 (Int32.ofNat S)) am_fuel (-1, 0) = some (ob (bsN key S 8)) := by
    refine lp_for 8 (fun k => (ob (bsN key S k), Int32.ofNat k)) rfl (fun k hk8 => ?_) ?_ (by decide)
    · unfold f_X8_nextOf_b4
      simp only
      rw [if_pos (show Int32.ofNat k < 8 from (on_lt (b := 8) (by omega) (by decide)).mpr hk8)]
      simp only [on_bit (show S < 1024 by omega) (show k < 11 by omega), on_s]
      have e : bsN key S (k + 1) = bsG key S k (bsN key S k) := rfl
      rw [e]
      unfold bsG
      by_cases z : S.testBit k = true
      · rw [if_pos z, if_pos z]
        have hIk := hI k
        cases q : bsN key S k with
        | none => rw [show ob none = -1 from rfl, if_pos rfl]; rfl
        | some x =>
          rw [q] at hIk
          have hx8 : x < 8 := by have := hIk.1; omega
          rw [show ob (some x) = Int32.ofNat x from rfl, if_neg (on_m1 (by omega)), rd_x0 hr, bnd, ld_on (by rw [ln_90]; omega) (by omega), hk k hk8 z, bnd, bnd, ld_on (by rw [ln_90]; omega) (by omega), hk x hx8 hIk.2.1, bnd]
          by_cases y : key x < key k
          · simp only [y, if_true, bnd]; rfl
          · simp only [y, if_false, bnd]; rfl
      · rw [if_neg z, if_neg z]
        simp only [bnd]
    · unfold f_X8_nextOf_b4
      simp only
      rw [if_neg (by decide)]
  unfold f_X8_nextOf
  rw [loop, bnd, hb]
  have := (hI 8)
  rw [hb] at this
  have := this.1
  rw [show ob (some h) = Int32.ofNat h from rfl, if_neg (on_m1 (by omega))]
theorem max_s {a b : Nat} (ha : a < 2147483648) (hb : b < 2147483648) : f_J9_max_7cf53 (Int32.ofNat a) (Int32.ofNat b) = some (Int32.ofNat (if a < b then b else a)) := by
  unfold f_J9_max_7cf53
  simp only [on_lt ha hb]
  by_cases h : a < b <;> simp [h]
def k89 (σ τ : sg) : Prop := ∀ o, o ≠ 89 → o ≠ 93 → τ o = σ o
theorem c_ringR {a b : Nat} (hr : rh ρ a b) (hh : ∀ h, hm h < 256) (hC : ∀ x, C x ≤ 16) {key : Nat → Int32} {L0 mi : Nat} (hL0 : L0 < 256) (hmi : mi < 1000) {S0 : sg} : ∀ k S s τ fu, ct S.testBit 8 = k → S < 256 → sbs S s.1 → pI L0 C mi s → csx hm C τ s → (∀ x, x < 8 → S.testBit x = true → τ 90 x = key x) → k < fu → ∃ τ', am_loop (f_X8_ringReady_b8 (S0, ρ) 89 (Int32.ofNat mi)) fu (Int32.ofNat S, Int32.ofNat k, τ) = some τ' ∧ csx hm C τ' (prc (hmb hm) C key mi k S s) ∧ k89 τ τ'
  | 0, S, s, τ, fu + 1, hk, hS, hg, hP, hc, ht, hf => by
    rw [am_loop_s]
    unfold f_X8_ringReady_b8
    simp only
    rw [if_neg (by decide)]
    exact ⟨τ, rfl, hc, fun _ _ _ => rfl⟩
  | k + 1, S, s, τ, fu + 1, hk, hS, hg, hP, hc, ht, hf => by
    have hne : S ≠ 0 := fun z => by
      subst z
      have : ct (Nat.testBit 0) 8 = 0 := by decide
      omega
    cases e : bsN key S 8 with
    | none => exact absurd (bs_none hS e) hne
    | some h =>
      have q : bsP key S 8 h := by have := bsN_I (key := key) (S := S) 8; rw [e] at this; exact this
      have h8 := q.1
      have hc1 := rmb_c1 h8 q.2.1
      have hL : prc (hmb hm) C key mi (k + 1) S s = prc (hmb hm) C key mi k (rmb S h) (sxS (hmb hm) C mi h s) := by
        show (match bsN key S 8 with | none => s | some h => prc (hmb hm) C key mi k (rmb S h) (sxS (hmb hm) C mi h s)) = _
        rw [e]
      rw [hL]
      have hP2 := (sxS_I (hm := hmb hm) h8 hC (hg h q.2.1) hP).1
      have hO : ∀ x, s.2.1 x < 100000 := fun x => by have := hP.2.2.1 x; have := hC x; omega
      have hov := hP.2.2.2.2
      have hCh := hC h
      have hand : ∀ X, Int32.ofNat X &&& ((1 : Int32) <<< (Int32.ofNat h &&& 31) ^^^ (-1)) = Int32.ofNat (rmb X h) := fun X => by
        rw [shl1 (by omega), andy]; rfl
      have hk1 : Int32.ofNat (k + 1) + (-1) = Int32.ofNat k := by rw [← on_m, on_p (by omega)]; rfl
      obtain ⟨c1, c2, c3, c4⟩ := hc
      have hbody : ∃ τ1, f_X8_ringReady_b8 (S0, ρ) 89 (Int32.ofNat mi) (Int32.ofNat S, Int32.ofNat (k + 1), τ) = some (.inl (Int32.ofNat (rmb S h), Int32.ofNat k, τ1)) ∧ csx hm C τ1 (sxS (hmb hm) C mi h s) ∧ k89 τ τ1 := by
        unfold f_X8_ringReady_b8
        simp only
        have hct8 := ct_l (q := S.testBit) 8
        rw [if_pos ((on_pos (show k + 1 < 2147483648 by omega)).mpr (by omega)), c_next hr hS ht e, bnd, c_unh hr hh ⟨c1, c2, c3, c4⟩ hO h8 (by omega), bnd, bi_f, hand, hk1]
        unfold sxS
        cases z : unh (hmb hm) s.2.1 mi h with
        | false =>
          simp only [if_neg (show ¬ false = true by decide), bnd]
          exact ⟨τ, rfl, ⟨c1, c2, c3, c4⟩, fun _ _ _ => rfl⟩
        | true =>
          rw [if_pos rfl, if_pos rfl]
          simp only [rd_x3 hr, rd_x2 hr, bnd, c1, hand]
          rw [ld_on (by rw [ln_92]; omega) (by omega), u2_ne (by decide), (c4 h h8).2.1]
          simp only [bnd, on_add]
          rw [st_on (by rw [ln_93]; omega) (by omega)]
          simp only [bnd]
          obtain ⟨τa, hτa⟩ : ∃ x, x = am_u2 (am_u2 τ 89 4 (Int32.ofNat (rmb s.1 h))) 93 h (Int32.ofNat (mi + C h)) := ⟨_, rfl⟩
          rw [← hτa]
          have a5 : τa 89 5 = Int32.ofNat s.2.2.1 := by rw [hτa, u2_ne (by decide), u2_nj (by decide)]; exact c2
          have a6 : am_u2 τa 89 5 (Int32.ofNat (s.2.2.1 + mi)) 89 6 = Int32.ofNat s.2.2.2 := by rw [u2_nj (by decide), hτa, u2_ne (by decide), u2_nj (by decide)]; exact c3
          have a93 : am_u2 τa 89 5 (Int32.ofNat (s.2.2.1 + mi)) 93 h = Int32.ofNat (mi + C h) := by rw [u2_ne (by decide), hτa, u2_eq]
          rw [a5, on_add, ld_on (by rw [ln_93]; omega) (by omega), a93, bnd, a6, max_s (by omega) (by omega)]
          simp only [bnd]
          refine ⟨_, rfl, ⟨?_, ?_, u2_eq, fun x hx => ⟨?_, ?_, ?_⟩⟩, fun o h1 h2 => ?_⟩
          · rw [u2_nj (by decide), u2_nj (by decide), hτa, u2_ne (by decide), u2_eq]
          · rw [u2_nj (by decide), u2_eq]
          · rw [u2_ne (by decide), u2_ne (by decide), hτa, u2_ne (by decide), u2_ne (by decide)]; exact (c4 x hx).1
          · rw [u2_ne (by decide), u2_ne (by decide), hτa, u2_ne (by decide), u2_ne (by decide)]; exact (c4 x hx).2.1
          · rw [u2_ne (by decide), u2_ne (by decide), hτa]
            show _ = Int32.ofNat (up1 s.2.1 h (mi + C h) x)
            by_cases y : x = h
            · subst y; rw [u2_eq, up1_eq]
            · rw [u2_nj y, u2_ne (by decide), up1_ne y]; exact (c4 x hx).2.2
          · rw [u2_row h1, u2_row h1, hτa, u2_row h2, u2_row h1]
      obtain ⟨τ1, b1, b2, b3⟩ := hbody
      obtain ⟨τ', d1, d2, d3⟩ := c_ringR hr hh hC hL0 hmi (S0 := S0) (key := key) k (rmb S h) (sxS (hmb hm) C mi h s) τ1 fu (by omega) (rmb_lt hS) (sxS_1 hg) hP2 b2 (fun x h1 h2 => by
        rw [rmb_tb, Bool.and_eq_true] at h2
        rw [b3 90 (by decide) (by decide)]; exact ht x h1 h2.1) (by omega)
      rw [am_loop_s, b1]
      exact ⟨τ', d1, d2, fun o h1 h2 => (d3 o h1 h2).trans (b3 o h1 h2)⟩
end SZ
