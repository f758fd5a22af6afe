/-! safety, worth, sale, what is taken, understood, counts -/
section Q3
variable {σ : sg} {ρ : rg} {t u : Nat} {w wi : wg}
def sfq (w : wg) (h d v o : Nat) : Bool := decide (wx w h v ≠ 0) && decide (wx w h o ≠ 0) && decide (cu (wx w h v) d = cu (wx w h o) d)
def sf (w : wg) (h d : Nat) : Bool := allN (fun v => allN (fun o => !sfq w h d v o) v) (nW w)
theorem not_any {q : Nat → Bool} {n : Nat} : (!anyN q n) = allN (fun k => !q k) n := by
  rw [Bool.eq_iff_iff, allN_iff]
  simp only [Bool.not_eq_true', Bool.eq_false_iff, ne_eq, anyN_iff]
  constructor
  · intro h k hk e; exact h ⟨k, hk, e⟩
  · rintro h ⟨k, hk, e⟩; exact h k hk e
theorem c_safe (H : tS σ ρ t w) {h d : Nat} (hh : h < 2147483648) (hd : d < 2147483648) : f_X9_isSafe (σ, ρ) t (Int32.ofNat h) (Int32.ofNat d) = some (bi (sf w h d)) := by
  have hW := (wv_W H.2.2.2).2
  unfold f_X9_isSafe
  rw [lp_ff (x := 0) (δ := Unit ⊕ Int32) (fun k => Int32.ofNat k) (fun v => anyN (sfq w h d v) v) (fun _ => .inr 0) (.inr 1) (nW w) rfl (fun k hk => ?_) (fun _ => ?_) (by omega)]
  · simp only [Option.bind_some]
    have h1 : sf w h d = !(anyN (fun v => anyN (sfq w h d v) v) (nW w)) := by
      rw [not_any]
      exact allN_cg (fun k hk => by rw [not_any])
    rw [h1, ← ff_any]
    cases ff (fun v => anyN (sfq w h d v) v) 0 (nW w) <;> rfl
  · unfold f_X9_isSafe_b2
    simp only [c_W H]
    rw [if_pos (lt_y hk (by omega)), c_wf H hh (by omega)]
    simp only [Option.bind_some, on_s]
    have hx := wx_lt H.2.2.2 (a := h) (v := k)
    have h1 : am_loop (f_X9_isSafe_b21 (σ, ρ) t (Int32.ofNat h) (Int32.ofNat d) (Int32.ofNat k) (zw (wx w h k))) am_fuel 0 = some (if anyN (sfq w h d k) k then .inr 0 else .inl ()) := by
      by_cases e : wx w h k = 0
      · have h2 : anyN (sfq w h d k) k = false := by
          cases z : anyN (sfq w h d k) k with
          | false => rfl
          | true => obtain ⟨o, -, ho⟩ := anyN_iff.mp z; simp [sfq, e] at ho
        rw [h2]
        show am_loop _ (999999999999 + 1) _ = _
        rw [am_loop_s]
        unfold f_X9_isSafe_b21
        by_cases z : (0 : Int32) < Int32.ofNat k
        · simp only [if_pos z, e, zw_0, if_true, Option.bind_some]; rfl
        · simp only [if_neg z, Option.bind_some]; rfl
      · rw [lp_ff (x := 0) (δ := Unit ⊕ Int32) (fun k => Int32.ofNat k) (sfq w h d k) (fun _ => .inr 0) (.inl ()) k rfl (fun o ho => ?_) (fun _ => ?_) (by omega), ← ff_any]
        · cases ff (sfq w h d k) 0 k <;> rfl
        · unfold f_X9_isSafe_b21
          have hy := wx_lt H.2.2.2 (a := h) (v := o)
          simp only [if_pos (lt_y ho (show k < 2147483648 by omega))]
          rw [if_neg (fun z => e ((zw_m (by omega)).mp z)), c_wf H hh (by omega)]
          simp only [Option.bind_some, on_s, zw_m (show wx w h o < 2147483648 by omega)]
          by_cases e2 : wx w h o = 0
          · rw [if_pos e2]; simp [sfq, e2]
          · rw [if_neg e2, zw_p e, zw_p e2, w_cutTo (by omega) hd, w_cutTo (by omega) hd]
            simp only [Option.bind_some, on_inj (show cu (wx w h k) d < 2147483648 by have := cu_lt (k := d) (show wx w h k < 1024 by omega); omega) (show cu (wx w h o) d < 2147483648 by have := cu_lt (k := d) (show wx w h o < 1024 by omega); omega)]
            by_cases c : cu (wx w h k) d = cu (wx w h o) d
            · rw [if_pos c]; simp [sfq, e, e2, c]
            · rw [if_neg c]; simp [sfq, e, e2, c]
        · unfold f_X9_isSafe_b21
          simp only [if_neg (lt_n (show k < 2147483648 by omega))]
    rw [h1]
    simp only [Option.bind_some]
    cases anyN (sfq w h d k) k <;> rfl
  · unfold f_X9_isSafe_b2
    simp only [c_W H]
    rw [if_neg (lt_n (by omega))]
theorem M_safe (H : wS σ ρ w) {h d : Nat} (hh : h < nH w) (hd : d < 2147483648) : am_loop (f_X12_safe_b48 (σ, ρ) 105 (Int32.ofNat h) (Int32.ofNat d)) am_fuel (1, 0) = some (bi (sf w h d)) := by
  have hW := (wv_W H.2.2).2
  have := lp_andN (body := f_X12_safe_b48 (σ, ρ) 105 (Int32.ofNat h) (Int32.ofNat d)) (fun v => allN (fun o => !sfq w h d v o) v) (nW w) true (fun k b hk => ?_) (fun b => ?_) (by omega)
  · rw [show ((1 : Int32), (0 : Int32)) = (bi true, 0) from rfl, this, Bool.true_and, sf]
  · unfold f_X12_safe_b48
    simp only [M_wants H, Option.bind_some]
    rw [if_pos (lt_y hk (by omega)), lp_andN (fun o => !sfq w h d k o) k b (fun o b ho => ?_) (fun b => ?_) (by omega)]
    · simp only [Option.bind_some, on_s]
    · unfold f_X12_safe_b60
      have hx := wx_lt H.2.2 (a := h) (v := k)
      have hy := wx_lt H.2.2 (a := h) (v := o)
      simp only [if_pos (lt_y ho (show k < 2147483648 by omega)), M_wf H hh hk, M_wf H hh (show o < nW w by omega), Option.bind_some, on_z (show wx w h k < 2147483648 by omega), on_z (show wx w h o < 2147483648 by omega), on_s, w_cut (show wx w h k < 1024 by omega) hd, w_cut (show wx w h o < 1024 by omega) hd, on_inj (show cu (wx w h k) d < 2147483648 by have := cu_lt (k := d) (show wx w h k < 1024 by omega); omega) (show cu (wx w h o) d < 2147483648 by have := cu_lt (k := d) (show wx w h o < 1024 by omega); omega), bi_f]
      cases b
      · simp [bi]
      · by_cases e : wx w h k = 0
        · simp [sfq, e, bi]
        · by_cases e2 : wx w h o = 0
          · simp [sfq, e2, bi]
          · by_cases c : cu (wx w h k) d = cu (wx w h o) d <;> simp [sfq, e, e2, c, bi]
    · unfold f_X12_safe_b60
      simp only [if_neg (lt_n (show k < 2147483648 by omega))]
  · unfold f_X12_safe_b48
    simp only [M_wants H, Option.bind_some]
    rw [if_neg (lt_n (by omega))]
theorem q_safe (I : Iv σ ρ t u w wi) (p q : Int32) : Rq σ ρ w [(0, 1), (1, 2)] (f_X11_safe (σ, ρ) 0 p q) (fun S => f_X12_safe S 105 p q) := by
  have hH := (wv_H I.2.2.1).2
  rcases dic (nH w) p with ⟨h, hh, rfl⟩ | hp
  · rcases dic 9 q with ⟨d, hd, rfl⟩ | hq
    · have hin : ¬ (Int32.ofNat d < 0 ∨ 8 < Int32.ofNat d) := fun z => z.elim (on_neg (by omega)) (fun z => by have := (on_lt (a := 8) (by decide) (by omega)).mp z; omega)
      refine Rq_z (r := bi (sf w h d)) (σ1 := σ) ?_ ag_rf (fun σ' H => ?_)
      · unfold f_X11_safe
        rw [c_nH0 I hh, thV_n, if_neg (fun z => hin (Or.inl z)), if_neg (fun z => hin (Or.inr z))]
        simp only [c_now I, Option.bind_some, c_safe (Iv_t I) (show h < 2147483648 by omega) (show d < 2147483648 by omega)]
        rw [if_pos bi_01]
      · unfold f_X12_safe
        simp only [M_nH0 H hh, Option.bind_some, th0, if_true, in_e]
        rw [if_neg hin]
        simp only [i10, if_false, Option.bind_some, th0, if_true, M_safe H hh (show d < 2147483648 by omega)]
        rw [if_pos bi_01]
    · refine Rq_t (k := 1) (b := 0) (c := 2) (σ1 := σ) ?_ ag_rf rfl (by decide) (fun σ' H => ?_)
      · unfold f_X11_safe
        rw [c_nH0 I hh, thV_n]
        by_cases a : q < 0
        · rw [if_pos a]
        · rw [if_neg a, if_pos]
          obtain ⟨k, hk, rfl⟩ := i_of a
          exact (on_lt (a := 8) (by decide) hk).mpr (Nat.lt_of_not_le (fun z => hq k (by omega) rfl))
      · unfold f_X12_safe
        simp only [M_nH0 H hh, Option.bind_some, th0, if_true]
        rw [show f_X12_in q 0 8 = some 0 from in_no (n := 9) (by decide) hq]
        simp only [Option.bind_some, if_true, th1, i10, if_false, zz]
  · refine Rq_t (k := 0) (b := 0) (c := 1) (σ1 := σ) ?_ ag_rf rfl (by decide) (fun σ' H => ?_)
    · unfold f_X11_safe
      rw [c_nH1 I hp, thV_x]
    · unfold f_X12_safe
      simp only [M_nH1 H hp, Option.bind_some, th1, i10, if_false, zz]
/-! worth: would a word stand badly beside the others -/
def bad (w : wg) (h v n : Nat) : Bool := anyN (fun o => !decide (o = v) && decide (wx w h o ≠ 0) && (bgn n (wx w h o) || bgn (wx w h o) n)) (nW w)
theorem c_bad (H : tS σ ρ t w) {h v n : Nat} (hh : h < 2147483648) (hv : v < 2147483648) (hn : n < 1024) : f_X9_isClashing (σ, ρ) t (Int32.ofNat h) (Int32.ofNat v) (Int32.ofNat n) = some (bi (bad w h v n)) := by
  have hW := (wv_W H.2.2.2).2
  unfold f_X9_isClashing
  rw [lp_ff (x := 0) (δ := Unit ⊕ Int32) (fun k => Int32.ofNat k) (fun o => !decide (o = v) && decide (wx w h o ≠ 0) && (bgn n (wx w h o) || bgn (wx w h o) n)) (fun _ => .inr 1) (.inr 0) (nW w) rfl (fun o ho => ?_) (fun _ => ?_) (by omega)]
  · unfold bad
    rw [← ff_any]
    cases ff (fun o => !decide (o = v) && decide (wx w h o ≠ 0) && (bgn n (wx w h o) || bgn (wx w h o) n)) 0 (nW w) <;> rfl
  · unfold f_X9_isClashing_b3
    have hy := wx_lt H.2.2.2 (a := h) (v := o)
    simp only [c_W H]
    rw [if_pos (lt_y ho (by omega)), c_wf H hh (by omega)]
    simp only [Option.bind_some, on_s, zw_m (show wx w h o < 2147483648 by omega), on_inj (show o < 2147483648 by omega) hv]
    by_cases a : o = v
    · rw [if_pos a]; simp [a]
    · rw [if_neg a]
      by_cases e2 : wx w h o = 0
      · rw [if_pos e2]; simp [e2]
      · rw [if_neg e2, zw_p e2, w_bgnC hn (by omega)]
        simp only [Option.bind_some, bi_d, bi_f]
        cases hb : (bgn n (wx w h o) || bgn (wx w h o) n) <;> simp [a, e2, hb]
  · unfold f_X9_isClashing_b3
    simp only [c_W H]
    rw [if_neg (lt_n (by omega))]
theorem M_room (H : wS σ ρ w) {h n : Nat} {v : Nat} {pv : Int32} (hpv : ∀ o, o < nW w → (Int32.ofNat o = pv ↔ o = v)) (hh : h < nH w) (hn : n < 1024) : f_X12_isRoom (σ, ρ) 105 (Int32.ofNat h) (Int32.ofNat n) pv = some (bi (!bad w h v n)) := by
  have hW := (wv_W H.2.2).2
  unfold f_X12_isRoom
  have := lp_andN (body := f_X12_isRoom_b6 (σ, ρ) 105 (Int32.ofNat h) (Int32.ofNat n) pv) (fun o => !(!decide (o = v) && decide (wx w h o ≠ 0) && (bgn n (wx w h o) || bgn (wx w h o) n))) (nW w) true (fun o b ho => ?_) (fun b => ?_) (by omega)
  · rw [show ((1 : Int32), (0 : Int32)) = (bi true, 0) from rfl, this, Bool.true_and, bad, not_any]
    simp only [Option.bind_some]
    rw [if_pos bi_01]
  · unfold f_X12_isRoom_b6
    have hy := wx_lt H.2.2 (a := h) (v := o)
    simp only [M_wants H, Option.bind_some]
    rw [if_pos (lt_y ho (by omega)), M_wf H hh ho]
    simp only [Option.bind_some, on_s, on_z (show wx w h o < 2147483648 by omega), hpv o ho, w_bgn hn (show wx w h o < 1024 by omega), w_bgn (show wx w h o < 1024 by omega) hn, bi_d, bi_f]
    cases b
    · simp [bi]
    · by_cases a : o = v
      · simp [a, bi]
      · by_cases e2 : wx w h o = 0
        · simp [e2, bi]
        · cases h1 : bgn (wx w h o) n
          · cases h2 : bgn n (wx w h o) <;> simp [a, e2, h1, h2, bi]
          · simp [a, e2, h1, bi]
  · unfold f_X12_isRoom_b6
    simp only [M_wants H, Option.bind_some]
    rw [if_neg (lt_n (by omega))]
def wo (w : wg) (h v n : Nat) : Int32 := if bad w h v n then -1000000 else Int32.ofNat (ux w v) * ((if wx w h v = 0 then 17 else Int32.ofNat (mnN (wx w h v))) - Int32.ofNat (mnN n))
theorem c_worth (I : Iv σ ρ t u w wi) {h v n : Nat} (hh : h < 2147483648) (hv : v < 2147483648) (hn : n < 1024) : f_X11_worthTo (σ, ρ) 0 (Int32.ofNat h) (Int32.ofNat v) (Int32.ofNat n) = some (wo w h v n) := by
  unfold f_X11_worthTo wo
  have hx := wx_lt I.2.2.1 (a := h) (v := v)
  simp only [c_now I, Option.bind_some, c_bad (Iv_t I) hh hv hn, bi_f, c_wf (Iv_t I) hh hv, zw_m (show wx w h v < 2147483648 by omega), c_ur (Iv_t I) hv, (w_min hn).2.1]
  cases bad w h v n
  · by_cases e : wx w h v = 0
    · simp [e]
    · simp [e, zw_p e, (w_min (show wx w h v < 1024 by omega)).2.1]
  · rfl
theorem M_worth (H : wS σ ρ w) {h v n : Nat} (hh : h < nH w) (hv : v < nW w) (hn : n < 1024) : f_X12_worthOf (σ, ρ) 105 (Int32.ofNat h) (Int32.ofNat v) (Int32.ofNat n) = some (wo w h v n) := by
  have hW := (wv_W H.2.2).2
  unfold f_X12_worthOf wo
  have hx := wx_lt H.2.2 (a := h) (v := v)
  rw [M_room H (v := v) (fun o ho => on_inj (by omega) (by omega)) hh hn]
  simp only [Option.bind_some, bi_f, M_wf H hh hv, on_z (show wx w h v < 2147483648 by omega), M_ur H (show v < 10 by omega), (ux_w H.2.2 hv).1, (w_min hn).1]
  cases bad w h v n
  · by_cases e : wx w h v = 0
    · simp [e]
    · simp [e, (w_min (show wx w h v < 1024 by omega)).1]
  · rfl
theorem q_worth (I : Iv σ ρ t u w wi) (p q x : Int32) : Rq σ ρ w [(0, 1), (1, 2)] (f_X11_worth (σ, ρ) 0 p q x) (fun S => f_X12_worth S 105 p q x) := by
  have hH := (wv_H I.2.2.1).2
  have hW := (wv_W I.2.2.1).2
  rcases dic (nH w) p with ⟨h, hh, rfl⟩ | hp
  · rcases dic (nW w) q with ⟨v, hv, rfl⟩ | hq
    · rcases wdic x with ⟨n, h1, h2, rfl, h3⟩ | hx
      · refine Rq_z (r := wo w h v n) (σ1 := σ) ?_ ag_rf (fun σ' H => ?_)
        · unfold f_X11_worth
          rw [c_nH0 I hh, thV_n, c_nW0 I hv, thV_n, c_nd0 h3, thV_n, c_worth I (by omega) (by omega) (by omega)]
          rfl
        · unfold f_X12_worth
          simp only [M_nH0 H hh, M_nW0 H hv, Option.bind_some, th0, if_true, in_e]
          rw [if_neg h3]
          simp only [i10, if_false, Option.bind_some, th0, if_true, M_worth H hh hv (show n < 1024 by omega)]
      · refine Rq_t (k := 1) (b := 0) (c := 2) (σ1 := σ) ?_ ag_rf rfl (by decide) (fun σ' H => ?_)
        · unfold f_X11_worth
          rw [c_nH0 I hh, thV_n, c_nW0 I hv, thV_n, c_nd1 hx, thV_x]
        · unfold f_X12_worth
          simp only [M_nH0 H hh, M_nW0 H hv, Option.bind_some, th0, if_true, in_e]
          rw [if_pos hx]
          simp only [Option.bind_some, if_true, th1, i10, if_false, zz]
    · refine Rq_t (k := 0) (b := 0) (c := 1) (σ1 := σ) ?_ ag_rf rfl (by decide) (fun σ' H => ?_)
      · unfold f_X11_worth
        rw [c_nH0 I hh, thV_n, c_nW1 I hq, thV_x]
      · unfold f_X12_worth
        simp only [M_nH0 H hh, M_nW1 H hq, Option.bind_some, if_true, th1, i10, if_false, zz]
  · refine Rq_t (k := 0) (b := 0) (c := 1) (σ1 := σ) ?_ ag_rf rfl (by decide) (fun σ' H => ?_)
    · unfold f_X11_worth
      rw [c_nH1 I hp, thV_x]
    · unfold f_X12_worth
      simp only [M_nH1 H hp, Option.bind_some, if_true, th1, i10, if_false, zz]
/-! sale: the most and the second -/
def sa1 (g : Nat → Int32) (k : Nat) (x : Int32 × Int32 × Int32) : Int32 × Int32 × Int32 := if x.2.1 < g k then (Int32.ofNat k, g k, x.2.1) else if x.2.2 < g k then (x.1, x.2.1, g k) else x
def sa2 (g : Nat → Int32) (k : Nat) (x : Int32 × Int32) : Int32 × Int32 := (if x.2 < g k then Int32.ofNat k else x.1, if x.2 < g k then g k else x.2)
def sa3 (g : Nat → Int32) (b : Int32) (k : Nat) (x : Int32) : Int32 := if Int32.ofNat k = b then x else if x < g k then g k else x
theorem sa_12 {g : Nat → Int32} : ∀ n, ((fo (sa1 g) n (-1, 0, 0)).1, (fo (sa1 g) n (-1, 0, 0)).2.1) = fo (sa2 g) n (-1, 0)
  | 0 => rfl
  | n + 1 => by
    have ih := sa_12 (g := g) n
    show ((sa1 g n (fo (sa1 g) n (-1, 0, 0))).1, (sa1 g n (fo (sa1 g) n (-1, 0, 0))).2.1) = sa2 g n (fo (sa2 g) n (-1, 0))
    rw [← ih]
    generalize fo (sa1 g) n (-1, 0, 0) = x
    unfold sa1 sa2
    by_cases a : x.2.1 < g n
    · simp [a]
    · by_cases b : x.2.2 < g n <;> simp [a, b]
theorem i_max {a b : Int32} : f_J9_max_7cf53 a b = some (if a < b then b else a) := by
  unfold f_J9_max_7cf53
  by_cases h : a < b
  · rw [if_pos h, if_pos h]
  · rw [if_neg h, if_neg h]
/-- the class's second is what the model seeks beside the first -/
theorem sa_3 {g : Nat → Int32} {n : Nat} (hn : n < 2147483648) : ∀ k, k ≤ n → ((fo (sa1 g) k (-1, 0, 0)).1 = -1 ∨ ∃ b, b < k ∧ (fo (sa1 g) k (-1, 0, 0)).1 = Int32.ofNat b) ∧ ¬ (fo (sa1 g) k (-1, 0, 0)).2.1 < (fo (sa1 g) k (-1, 0, 0)).2.2 ∧ fo (sa3 g (fo (sa1 g) k (-1, 0, 0)).1) k 0 = (fo (sa1 g) k (-1, 0, 0)).2.2 ∧ (∀ c, n ≤ c → c < 2147483648 → fo (sa3 g (Int32.ofNat c)) k 0 = (fo (sa1 g) k (-1, 0, 0)).2.1) ∧ fo (sa3 g (-1)) k 0 = (fo (sa1 g) k (-1, 0, 0)).2.1
  | 0, _ => ⟨Or.inl rfl, (show ¬ (0 : Int32) < 0 by decide), rfl, fun _ _ _ => rfl, rfl⟩
  | k + 1, hk => by
    obtain ⟨h1, h2, h3, h4, h5⟩ := sa_3 (g := g) hn k (by omega)
    generalize hx : fo (sa1 g) k (-1, 0, 0) = x at h1 h2 h3 h4 h5
    obtain ⟨b, m, s⟩ := x
    simp only at h1 h2 h3 h4 h5
    have hne : Int32.ofNat k ≠ -1 := by
      intro e
      have := (zw_m (n := k) (by omega))
      have h6 := congrArg Int32.toInt e
      rw [on_int (by omega)] at h6
      have h7 : (-1 : Int32).toInt = -1 := rfl
      rw [h7] at h6
      omega
    have e1 : fo (sa1 g) (k + 1) (-1, 0, 0) = sa1 g k (b, m, s) := by rw [← hx]; rfl
    have e4 : fo (sa3 g (-1)) (k + 1) 0 = if m < g k then g k else m := by
      show sa3 g (-1) k (fo (sa3 g (-1)) k 0) = _
      rw [h5]; unfold sa3; rw [if_neg hne]
    have e5 : ∀ c, n ≤ c → c < 2147483648 → fo (sa3 g (Int32.ofNat c)) (k + 1) 0 = if m < g k then g k else m := by
      intro c hc hc2
      show sa3 g (Int32.ofNat c) k (fo (sa3 g (Int32.ofNat c)) k 0) = _
      rw [h4 c hc hc2]; unfold sa3; rw [if_neg (on_ne (by omega) (by omega) (by omega))]
    have ltr : ∀ {x y : Int32}, x < y → ¬ y < x := fun h z => Int32.lt_irrefl (Int32.lt_trans h z)
    rw [e1]
    unfold sa1
    by_cases a : m < g k
    · simp only [a, if_true] at e4 e5 ⊢
      refine ⟨Or.inr ⟨k, by omega, rfl⟩, ltr a, ?_, e5, e4⟩
      show sa3 g (Int32.ofNat k) k (fo (sa3 g (Int32.ofNat k)) k 0) = m
      unfold sa3
      rw [if_pos rfl]
      -- up to k the place k is none of them
      have : ∀ j, j ≤ k → fo (sa3 g (Int32.ofNat k)) j 0 = fo (sa3 g (-1)) j 0 := by
        intro j
        induction j with
        | zero => intro _; rfl
        | succ j ih =>
          intro hj
          show sa3 g (Int32.ofNat k) j (fo (sa3 g (Int32.ofNat k)) j 0) = sa3 g (-1) j (fo (sa3 g (-1)) j 0)
          rw [ih (by omega)]
          unfold sa3
          have hj2 : Int32.ofNat j ≠ -1 := by
            intro e
            have h6 := congrArg Int32.toInt e
            rw [on_int (by omega)] at h6
            have h7 : (-1 : Int32).toInt = -1 := rfl
            rw [h7] at h6
            omega
          rw [if_neg (on_ne (by omega) (by omega) (by omega)), if_neg hj2]
      have h8 := this k (by omega)
      unfold sa3 at h8
      rw [h8]
      exact h5
    · simp only [a, if_false] at e4 e5 ⊢
      have hb : Int32.ofNat k ≠ b := by
        rcases h1 with h1 | ⟨b', hb', h1⟩
        · rw [h1]; exact hne
        · rw [h1]; exact on_ne (by omega) (by omega) (by omega)
      have e6 : fo (sa3 g b) (k + 1) 0 = if s < g k then g k else s := by
        show sa3 g b k (fo (sa3 g b) k 0) = _
        rw [h3]; unfold sa3; rw [if_neg hb]
      have hb1 : b = -1 ∨ ∃ b', b' < k + 1 ∧ b = Int32.ofNat b' := h1.imp id (fun ⟨b', h, e⟩ => ⟨b', by omega, e⟩)
      by_cases c : s < g k
      · simp only [c, if_true] at e6 ⊢
        exact ⟨hb1, a, e6, e5, e4⟩
      · simp only [c, if_false] at e6 ⊢
        exact ⟨hb1, h2, e6, e5, e4⟩
end Q3
