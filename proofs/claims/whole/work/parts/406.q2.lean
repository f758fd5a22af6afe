/-! harm, ways, counts, begins, safety, worth, sale -/
theorem fo_or {q : Nat → Bool} {b0 : Bool} : ∀ n, fo (fun k b => b || q k) n b0 = (b0 || anyN q n)
  | 0 => by simp [fo, anyN]
  | n + 1 => by
    have ih := fo_or (q := q) (b0 := b0) n
    show (fo (fun k b => b || q k) n b0 || q n) = (b0 || (anyN q n || q n))
    rw [ih, Bool.or_assoc]
theorem fo_and {q : Nat → Bool} {b0 : Bool} : ∀ n, fo (fun k b => b && q k) n b0 = (b0 && allN q n)
  | 0 => by simp [fo, allN]
  | n + 1 => by
    have ih := fo_and (q := q) (b0 := b0) n
    show (fo (fun k b => b && q k) n b0 && q n) = (b0 && (allN q n && q n))
    rw [ih, Bool.and_assoc]
theorem lp_orN {body : Int32 × Int32 → Option ((Int32 × Int32) ⊕ Int32)} (q : Nat → Bool) (n : Nat) (b0 : Bool) (hs : ∀ k b, k < n → body (bi b, Int32.ofNat k) = some (.inl (bi (b || q k), Int32.ofNat (k + 1)))) (he : ∀ b, body (bi b, Int32.ofNat n) = some (.inr (bi b))) (hn : n < 1000000) : am_loop body am_fuel (bi b0, 0) = some (bi (b0 || anyN q n)) := by
  rw [← fo_or]
  exact lp_fo (fun b k => (bi b, Int32.ofNat k)) (fun k b => b || q k) n b0 rfl (fun k a hk => hs k a hk) (he _) hn
theorem lp_andN {body : Int32 × Int32 → Option ((Int32 × Int32) ⊕ Int32)} (q : Nat → Bool) (n : Nat) (b0 : Bool) (hs : ∀ k b, k < n → body (bi b, Int32.ofNat k) = some (.inl (bi (b && q k), Int32.ofNat (k + 1)))) (he : ∀ b, body (bi b, Int32.ofNat n) = some (.inr (bi b))) (hn : n < 1000000) : am_loop body am_fuel (bi b0, 0) = some (bi (b0 && allN q n)) := by
  rw [← fo_and]
  exact lp_fo (fun b k => (bi b, Int32.ofNat k)) (fun k b => b && q k) n b0 rfl (fun k a hk => hs k a hk) (he _) hn
theorem anyN_mono {q : Nat → Bool} {k n : Nat} (h : k ≤ n) (g : anyN q k = true) : anyN q n = true := by
  obtain ⟨i, hi, hq⟩ := anyN_iff.mp g
  exact anyN_iff.mpr ⟨i, by omega, hq⟩
theorem anyN_cg {q r : Nat → Bool} {n : Nat} (h : ∀ k, k < n → q k = r k) : anyN q n = anyN r n := by
  rw [Bool.eq_iff_iff, anyN_iff, anyN_iff]
  constructor
  · rintro ⟨k, hk, e⟩; exact ⟨k, hk, by rw [← h k hk]; exact e⟩
  · rintro ⟨k, hk, e⟩; exact ⟨k, hk, by rw [h k hk]; exact e⟩
theorem allN_cg {q r : Nat → Bool} {n : Nat} (h : ∀ k, k < n → q k = r k) : allN q n = allN r n := by
  rw [Bool.eq_iff_iff, allN_iff, allN_iff]
  constructor
  · intro g k hk; rw [← h k hk]; exact g k hk
  · intro g k hk; rw [h k hk]; exact g k hk
theorem lp_orX {body : Int32 × Int32 → Option ((Int32 × Int32) ⊕ Int32)} (q : Nat → Bool) (n : Nat) (b0 : Bool) (hs : ∀ k, k < n → body (bi false, Int32.ofNat k) = some (.inl (bi (q k), Int32.ofNat (k + 1)))) (ht : ∀ k, k < n → body (bi true, Int32.ofNat k) = some (.inr (bi true))) (he : ∀ b, body (bi b, Int32.ofNat n) = some (.inr (bi b))) (hn : n < 1000000) : am_loop body am_fuel (bi b0, 0) = some (bi (b0 || anyN q n)) := by
  obtain ⟨d, h1, h2⟩ := lp_rule (body := body) n (fun k x => x = (bi (b0 || anyN q k), Int32.ofNat k)) (fun d => d = bi (b0 || anyN q n)) (x := (bi b0, 0)) (by simp [anyN, fo]) (fun k x hk hx => by
    subst hx
    by_cases e : k < n
    · cases hb : (b0 || anyN q k) with
      | false =>
        left
        refine ⟨_, hs k e, e, ?_⟩
        have h3 : anyN q (k + 1) = (anyN q k || q k) := rfl
        rw [h3, ← Bool.or_assoc, hb, Bool.false_or]
      | true =>
        right
        refine ⟨_, ht k e, ?_⟩
        cases b0 with
        | true => rfl
        | false =>
          rw [Bool.false_or] at hb ⊢
          rw [anyN_mono (by omega) hb]
    · right
      have : k = n := by omega
      subst this
      exact ⟨_, he _, rfl⟩) (by omega)
  rw [h1, h2]
/-- step and end of a loop's test -/
theorem lt_y {k n : Nat} (hk : k < n) (hn : n < 2147483648) : Int32.ofNat k < Int32.ofNat n := (on_lt (by omega) hn).mpr hk
theorem lt_n {n : Nat} (hn : n < 2147483648) : ¬ Int32.ofNat n < Int32.ofNat n := fun z => by have := (on_lt hn hn).mp z; omega
theorem bi_d {p : Prop} [Decidable p] : (if p then (1 : Int32) else 0) = bi (decide p) := by by_cases h : p <;> simp [h, bi]
theorem zw_eq {x n : Nat} (hx : x < 2147483648) (hn : n < 2147483648) (h0 : 0 < n) : zw x = Int32.ofNat n ↔ x = n := by
  by_cases q : x = 0
  · subst q
    rw [zw_0]
    constructor
    · intro e
      have := congrArg Int32.toInt e
      rw [on_int hn] at this
      have h1 : (-1 : Int32).toInt = -1 := rfl
      rw [h1] at this
      omega
    · intro e; omega
  · rw [zw_p q, on_inj hx hn]
def hm (w : wg) (i j : Nat) : Bool := !decide (i = j) && ((decide (0 < cx w i j) || decide (0 < cx w j i)) || anyN (fun h => decide (0 < cx w h i) && decide (0 < cx w h j)) (nH w))
section Q2
variable {σ : sg} {ρ : rg} {t u : Nat} {w wi : wg}
theorem cx_pos (h : wv w) {i j : Nat} : ((0 : Int32) < Int32.ofNat (cx w i j)) ↔ 0 < cx w i j := on_pos (by have := cx_lt h (i := i) (j := j); omega)
theorem c_harm (H : tS σ ρ t w) {i j : Nat} (hi : i < 2147483648) (hj : j < 2147483648) : f_X9_isHarming (σ, ρ) t (Int32.ofNat i) (Int32.ofNat j) = some (bi (hm w i j)) := by
  have hH := (wv_H H.2.2.2).2
  unfold f_X9_isHarming hm
  by_cases e : i = j
  · subst e; simp [bi]
  · rw [if_neg (on_ne hi hj e), c_cl H hi hj, c_cl H hj hi]
    simp only [Option.bind_some, cx_pos H.2.2.2]
    have h1 : (if 0 < cx w i j then some (1 : Int32) else if 0 < cx w j i then some 1 else some 0) = some (bi (decide (0 < cx w i j) || decide (0 < cx w j i))) := by
      by_cases a : 0 < cx w i j
      · simp [a, bi]
      · by_cases b : 0 < cx w j i <;> simp [a, b, bi]
    rw [h1]
    simp only [Option.bind_some]
    rw [lp_orX (fun h => decide (0 < cx w h i) && decide (0 < cx w h j)) (nH w) _ (fun k hk => ?_) (fun k hk => ?_) (fun b => ?_) (by omega)]
    · simp only [Option.bind_some]
      rw [if_pos bi_01]
      simp [e]
    · unfold f_X9_isHarming_b34
      simp only [c_H H]
      rw [if_pos (lt_y hk (by omega)), if_pos (bi_0.mpr rfl), c_cl H (by omega) hi, c_cl H (by omega) hj]
      simp only [Option.bind_some, cx_pos H.2.2.2, on_s]
      by_cases a : 0 < cx w k i
      · by_cases b : 0 < cx w k j <;> simp [a, b, bi]
      · simp [a, bi]
    · unfold f_X9_isHarming_b34
      simp only [c_H H]
      rw [if_pos (lt_y hk (by omega)), if_neg (by decide)]
    · unfold f_X9_isHarming_b34
      simp only [c_H H]
      rw [if_neg (lt_n (by omega))]
theorem bi_f {b : Bool} {α : Type} {x y : α} : (if bi b = 0 then x else y) = if b then y else x := by cases b <;> simp [bi]
theorem M_hrb (H : wS σ ρ w) {i j : Nat} (hi : i < nH w) (hj : j < nH w) : f_X12_isHearing (σ, ρ) 105 (Int32.ofNat i) (Int32.ofNat j) = some (bi (decide (0 < cx w i j))) := by rw [M_hr H hi hj, bi_d]
theorem cx_self {i : Nat} : cx w i i = 0 := by
  unfold cx
  split
  · unfold cl clr hr; simp
  · rfl
theorem M_harm (H : wS σ ρ w) {i j : Nat} (hi : i < nH w) (hj : j < nH w) : f_X12_isHarm (σ, ρ) 105 (Int32.ofNat i) (Int32.ofNat j) = some (bi (hm w i j)) := by
  have hH := (wv_H H.2.2).2
  unfold f_X12_isHarm hm
  rw [M_hrb H hi hj, M_hrb H hj hi]
  simp only [Option.bind_some, bi_f]
  have h1 : (if decide (0 < cx w i j) = true then some (1 : Int32) else if decide (0 < cx w j i) = true then some 1 else some 0) = some (bi (decide (0 < cx w i j) || decide (0 < cx w j i))) := by
    by_cases a : 0 < cx w i j
    · simp [a, bi]
    · by_cases b : 0 < cx w j i <;> simp [a, b, bi]
  rw [h1]
  simp only [Option.bind_some]
  rw [lp_orN (fun h => !decide (i = j) && (decide (0 < cx w h i) && decide (0 < cx w h j))) (nH w) _ (fun k b hk => ?_) (fun b => ?_) (by omega)]
  · simp only [Option.bind_some]
    rw [if_pos bi_01]
    by_cases e : i = j
    · subst e
      have : anyN (fun h => !decide (i = i) && (decide (0 < cx w h i) && decide (0 < cx w h i))) (nH w) = false := by
        cases q : anyN (fun h => !decide (i = i) && (decide (0 < cx w h i) && decide (0 < cx w h i))) (nH w) with
        | false => rfl
        | true => obtain ⟨k, -, h⟩ := anyN_iff.mp q; simp at h
      rw [this, cx_self]; simp
    · simp [e]
  · unfold f_X12_isHarm_b27
    simp only [M_houses H, Option.bind_some]
    rw [if_pos (lt_y hk (by omega)), M_hrb H hk hi, M_hrb H hk hj]
    simp only [Option.bind_some, bi_f, on_s]
    cases b
    · by_cases e : i = j
      · subst e; simp [bi]
      · rw [if_neg (on_ne (by omega) (by omega) e)]
        by_cases a : 0 < cx w k i
        · by_cases b : 0 < cx w k j <;> simp [a, b, bi, e]
        · simp [a, bi]
    · simp [bi]
  · unfold f_X12_isHarm_b27
    simp only [M_houses H, Option.bind_some]
    rw [if_neg (lt_n (by omega))]
theorem c_far (H : tS σ ρ t w) {i j : Nat} (hi : i < nH w) (hj : j < nH w) : f_X9_farFrom (σ, ρ) t (Int32.ofNat i) (Int32.ofNat j) = some (far w i j) := by
  have hH := (wv_H H.2.2.2).2
  obtain ⟨a, b, hr⟩ := H.1
  have hl := ln_t H.2.1
  have ri := H.2.2.1.2.1 i hi
  have rj := H.2.2.1.2.1 j hj
  unfold f_X9_farFrom
  rw [c_hh H hi, c_hh H hj]
  simp only [Option.bind_some, i10, if_false, rd_t hr H.2.1 (show (6, 1, 1) ∈ _ by decide), rd_t hr H.2.1 (show (7, 1, 2) ∈ _ by decide)]
  rw [ld_on (a := t + 1) (k := j) (by omega) (by omega), ld_on (a := t + 1) (k := i) (by omega) (by omega), ld_on (a := t + 2) (k := j) (by omega) (by omega), ld_on (a := t + 2) (k := i) (by omega) (by omega)]
  simp only [Option.bind_some, j_abs, ri.1, ri.2.1, rj.1, rj.2.1, H.2.2.1.1.2.2.2.2.1, H.2.2.1.1.2.2.2.2.2]
  rfl
theorem q_way (I : Iv σ ρ t u w wi) (p q x : Int32) : Rq σ ρ w [(0, 1), (3, 2)] (f_X11_way (σ, ρ) 0 p q x) (fun S => f_X12_way S 105 p q x) := by
  have hH := (wv_H I.2.2.1).2
  rcases dic (nH w) p with ⟨i, hi, rfl⟩ | hp
  · rcases dic (nH w) q with ⟨j, hj, rfl⟩ | hq
    · rcases dic 4 x with ⟨k, hk, rfl⟩ | hx
      · have hin : ¬ (Int32.ofNat k < 0 ∨ 3 < Int32.ofNat k) := fun z => z.elim (on_neg (by omega)) (fun z => by have := (on_lt (a := 3) (by decide) (by omega)).mp z; omega)
        have e4 : k = 0 ∨ k = 1 ∨ k = 2 ∨ k = 3 := by omega
        rcases e4 with rfl | rfl | rfl | rfl
        · refine Rq_z (r := far w i j) (σ1 := σ) ?_ ag_rf (fun σ' H => ?_)
          · unfold f_X11_way
            rw [c_nH0 I hi, thV_n, c_nH0 I hj, thV_n, if_pos (by decide)]
            simp only [c_now I, Option.bind_some, c_far (Iv_t I) hi hj]
          · unfold f_X12_way
            simp only [M_nH0 H hi, M_nH0 H hj, Option.bind_some, th0, if_true, in_e]
            rw [if_neg hin]
            simp only [i10, if_false, Option.bind_some, th0, if_true]
            rw [if_pos (by decide), M_far H (by omega) (by omega)]
            rfl
        · refine Rq_z (r := bi (decide (0 < cx w i j))) (σ1 := σ) ?_ ag_rf (fun σ' H => ?_)
          · unfold f_X11_way
            rw [c_nH0 I hi, thV_n, c_nH0 I hj, thV_n, if_neg (by decide), if_pos (by decide)]
            simp only [c_now I, Option.bind_some, c_cl (Iv_t I) (show i < 2147483648 by omega) (show j < 2147483648 by omega), cx_pos I.2.2.1]
            by_cases a : 0 < cx w i j <;> simp [a, bi]
          · unfold f_X12_way
            simp only [M_nH0 H hi, M_nH0 H hj, Option.bind_some, th0, if_true, in_e]
            rw [if_neg hin]
            simp only [i10, if_false, Option.bind_some, th0, if_true]
            rw [if_neg (by decide), if_neg (by decide), if_pos (by decide), M_hrb H hi hj]
            simp only [Option.bind_some, bi_f]
            by_cases a : 0 < cx w i j <;> simp [a, bi]
        · refine Rq_z (r := Int32.ofNat (cx w i j)) (σ1 := σ) ?_ ag_rf (fun σ' H => ?_)
          · unfold f_X11_way
            rw [c_nH0 I hi, thV_n, c_nH0 I hj, thV_n, if_neg (by decide), if_neg (by decide), if_pos (by decide)]
            simp only [c_now I, Option.bind_some, c_cl (Iv_t I) (show i < 2147483648 by omega) (show j < 2147483648 by omega)]
          · unfold f_X12_way
            simp only [M_nH0 H hi, M_nH0 H hj, Option.bind_some, th0, if_true, in_e]
            rw [if_neg hin]
            simp only [i10, if_false, Option.bind_some, th0, if_true]
            rw [if_neg (by decide), if_pos (by decide), M_cl H hi hj]
            rfl
        · refine Rq_z (r := bi (hm w i j)) (σ1 := σ) ?_ ag_rf (fun σ' H => ?_)
          · unfold f_X11_way
            rw [c_nH0 I hi, thV_n, c_nH0 I hj, thV_n, if_neg (by decide), if_neg (by decide), if_neg (by decide), if_pos (by decide)]
            simp only [c_now I, Option.bind_some, c_harm (Iv_t I) (show i < 2147483648 by omega) (show j < 2147483648 by omega), bi_f]
            cases hm w i j <;> simp [bi]
          · unfold f_X12_way
            simp only [M_nH0 H hi, M_nH0 H hj, Option.bind_some, th0, if_true, in_e]
            rw [if_neg hin]
            simp only [i10, if_false, Option.bind_some, th0, if_true]
            rw [if_neg (by decide), if_neg (by decide), if_neg (by decide), M_harm H hi hj]
            simp only [Option.bind_some, bi_f]
            cases hm w i j <;> simp [bi]
      · refine Rq_t (k := 3) (b := 0) (c := 2) (σ1 := σ) ?_ ag_rf rfl (by decide) (fun σ' H => ?_)
        · unfold f_X11_way
          rw [c_nH0 I hi, thV_n, c_nH0 I hj, thV_n, if_neg (show x ≠ 0 from hx 0 (by decide)), if_neg (show x ≠ 1 from hx 1 (by decide)), if_neg (show x ≠ 2 from hx 2 (by decide)), if_neg (show x ≠ 3 from hx 3 (by decide))]
        · unfold f_X12_way
          simp only [M_nH0 H hi, M_nH0 H hj, Option.bind_some, th0, if_true]
          rw [show f_X12_in x 0 3 = some 0 from in_no (n := 4) (by decide) hx]
          simp only [Option.bind_some, if_true, th1, i10, if_false, zz]
    · refine Rq_t (k := 0) (b := 0) (c := 1) (σ1 := σ) ?_ ag_rf rfl (by decide) (fun σ' H => ?_)
      · unfold f_X11_way
        rw [c_nH0 I hi, thV_n, c_nH1 I hq, thV_x]
      · unfold f_X12_way
        simp only [M_nH0 H hi, M_nH1 H hq, Option.bind_some, if_true, th1, i10, if_false, zz]
  · refine Rq_t (k := 0) (b := 0) (c := 1) (σ1 := σ) ?_ ag_rf rfl (by decide) (fun σ' H => ?_)
    · unfold f_X11_way
      rw [c_nH1 I hp, thV_x]
    · unfold f_X12_way
      simp only [M_nH1 H hp, Option.bind_some, if_true, th1, i10, if_false, zz]
/-! begins -/
def cb (w : wg) (h v o : Nat) : Bool := decide (wx w h v ≠ 0) && decide (wx w h o ≠ 0) && (bgn (wx w h v) (wx w h o) || bgn (wx w h o) (wx w h v))
def bgs (w : wg) (h : Nat) : Int32 := sm (fun v => sm (fun o => bi (cb w h v o)) v) (nW w)
theorem sm_0 {g : Nat → Int32} : ∀ {n : Nat}, (∀ k, k < n → g k = 0) → sm g n = 0
  | 0, _ => rfl
  | n + 1, h => by
    show sm g n + g n = 0
    rw [sm_0 (n := n) (fun k hk => h k (by omega)), h n (by omega)]; rfl
theorem c_clash (H : tS σ ρ t w) {h : Nat} (hh : h < 2147483648) : f_X9_clashesOf (σ, ρ) t (Int32.ofNat h) = some (bgs w h) := by
  have hW := (wv_W H.2.2.2).2
  unfold f_X9_clashesOf
  rw [lp_sum (fun v => sm (fun o => bi (cb w h v o)) v) (nW w) 0 (fun k a hk => ?_) (fun a => ?_) (by omega)]
  · simp only [Option.bind_some, Int32.zero_add, bgs]
  · unfold f_X9_clashesOf_b4
    simp only [c_W H]
    rw [if_pos (lt_y hk (by omega)), c_wf H hh (by omega)]
    simp only [Option.bind_some]
    have hx := wx_lt H.2.2.2 (a := h) (v := k)
    by_cases e : wx w h k = 0
    · have h1 : am_loop (f_X9_clashesOf_b23 (σ, ρ) t (Int32.ofNat h) (Int32.ofNat k) (zw (wx w h k))) am_fuel (a, 0) = some a := by
        show am_loop _ (999999999999 + 1) _ = _
        rw [am_loop_s]
        unfold f_X9_clashesOf_b23
        by_cases z : (0 : Int32) < Int32.ofNat k
        · simp only [if_pos z, e, zw_0, if_true, Option.bind_some]
        · simp only [if_neg z, Option.bind_some]
      rw [h1, sm_0 (fun o ho => by simp [cb, e, bi])]
      simp only [Option.bind_some, on_s, Int32.add_zero]
    · rw [lp_sum (fun o => bi (cb w h k o)) k a (fun o a ho => ?_) (fun a => ?_) (by omega)]
      · simp only [Option.bind_some, on_s]
      · unfold f_X9_clashesOf_b23
        have hy := wx_lt H.2.2.2 (a := h) (v := o)
        simp only [if_pos (lt_y ho (show k < 2147483648 by omega))]
        rw [if_neg (fun z => e ((zw_m (by omega)).mp z)), c_wf H hh (by omega)]
        simp only [Option.bind_some, on_s, zw_m (show wx w h o < 2147483648 by omega)]
        by_cases e2 : wx w h o = 0
        · rw [if_pos e2]; simp [cb, e2, bi]
        · rw [if_neg e2, zw_p e, zw_p e2, w_bgnC (by omega) (by omega)]
          simp only [Option.bind_some]
          rw [bi_d, bi_f]
          cases hb : (bgn (wx w h k) (wx w h o) || bgn (wx w h o) (wx w h k)) <;> simp [cb, e, e2, hb, bi]
      · unfold f_X9_clashesOf_b23
        simp only [if_neg (lt_n (show k < 2147483648 by omega))]
  · unfold f_X9_clashesOf_b4
    simp only [c_W H]
    rw [if_neg (lt_n (by omega))]
theorem M_bgns (H : wS σ ρ w) {h : Nat} (hh : h < nH w) : f_X12_beginsOf (σ, ρ) 105 (Int32.ofNat h) = some (bgs w h) := by
  have hW := (wv_W H.2.2).2
  unfold f_X12_beginsOf
  rw [lp_sum (fun v => sm (fun o => bi (cb w h v o)) v) (nW w) 0 (fun k a hk => ?_) (fun a => ?_) (by omega)]
  · simp only [Option.bind_some, Int32.zero_add, bgs]
  · unfold f_X12_beginsOf_b4
    simp only [M_wants H, Option.bind_some]
    rw [if_pos (lt_y hk (by omega)), lp_sum (fun o => bi (cb w h k o)) k a (fun o a ho => ?_) (fun a => ?_) (by omega)]
    · simp only [Option.bind_some, on_s]
    · unfold f_X12_beginsOf_b15
      have hx := wx_lt H.2.2 (a := h) (v := k)
      have hy := wx_lt H.2.2 (a := h) (v := o)
      simp only [if_pos (lt_y ho (show k < 2147483648 by omega)), M_wf H hh hk, M_wf H hh (show o < nW w by omega), Option.bind_some, on_pos (show wx w h k < 2147483648 by omega), on_pos (show wx w h o < 2147483648 by omega), on_s, w_bgn (show wx w h k < 1024 by omega) (show wx w h o < 1024 by omega), w_bgn (show wx w h o < 1024 by omega) (show wx w h k < 1024 by omega), bi_d, bi_f]
      by_cases e : wx w h k = 0
      · rw [if_neg (by omega)]; simp [cb, e, bi]
      · rw [if_pos (by omega)]
        by_cases e2 : wx w h o = 0
        · rw [if_neg (by omega)]; simp [cb, e2, bi]
        · rw [if_pos (by omega)]
          cases h1 : bgn (wx w h k) (wx w h o)
          · cases h2 : bgn (wx w h o) (wx w h k) <;> simp [cb, e, e2, h1, h2, bi]
          · simp [cb, e, e2, h1, bi]
    · unfold f_X12_beginsOf_b15
      simp only [if_neg (lt_n (show k < 2147483648 by omega))]
  · unfold f_X12_beginsOf_b4
    simp only [M_wants H, Option.bind_some]
    rw [if_neg (lt_n (by omega))]
theorem q_begins (I : Iv σ ρ t u w wi) (p : Int32) : Rq σ ρ w [(0, 1)] (f_X11_begins (σ, ρ) 0 p) (fun S => f_X12_begins S 105 p) := by
  have hH := (wv_H I.2.2.1).2
  rcases dic (nH w) p with ⟨h, hh, rfl⟩ | hp
  · refine Rq_z (r := bgs w h) (σ1 := σ) ?_ ag_rf (fun σ' H => ?_)
    · unfold f_X11_begins
      rw [c_nH0 I hh, thV_n]
      simp only [c_now I, Option.bind_some, c_clash (Iv_t I) (show h < 2147483648 by omega)]
    · unfold f_X12_begins
      simp only [M_nH0 H hh, Option.bind_some, th0, if_true, M_bgns H hh]
  · refine Rq_t (k := 0) (b := 0) (c := 1) (σ1 := σ) ?_ ag_rf rfl (by decide) (fun σ' H => ?_)
    · unfold f_X11_begins
      rw [c_nH1 I hp, thV_x]
    · unfold f_X12_begins
      simp only [M_nH1 H hp, Option.bind_some, th1, i10, if_false, zz]
end Q2
