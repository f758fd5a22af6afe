section TM
variable {σ μ κ : sg} {ρ : rg} {R n b q t0 u0 s : Nat} {T : Nat → Int32}
def wT (s : Nat) : Bool := decide (s < 22) && decide ((97 : Int32) ≤ chS s 0 ∧ chS s 0 ≤ 122)
def gT (s : Nat) : Bool := decide (s < 22) && (decide (am_lens.getD s 0 = 1) && (decide (kdN (chS s 0) ≠ 97) && decide (kdN (chS s 0) ≠ 48)))
theorem isT_iff : isT T n b s = true ↔ enP T n b - b = am_lens.getD s 0 ∧ ∀ k, k < am_lens.getD s 0 → T (b + k) = chS s k := by
  unfold isT
  rw [Bool.and_eq_true, allN_iff]
  simp only [decide_eq_true_eq]
theorem isT_97 (hB : tB T n) (hb : b ≤ n) (hw : wT s = true) (h : isT T n b s = true) : kdP T n b = 97 := by
  unfold wT at hw
  rw [Bool.and_eq_true] at hw
  have hs := of_decide_eq_true hw.1
  have hc := of_decide_eq_true hw.2
  have hl := s_lt hs
  obtain ⟨h1, h2⟩ := isT_iff.mp h
  have e := en_p (T := T) hb
  have hbn : b < n := by omega
  have h3 := h2 0 (by omega)
  rw [Nat.add_zero] at h3
  unfold kdP
  rw [if_pos hbn]
  exact (tB_k hB hbn).1.mpr (by rw [h3]; exact hc)
theorem gT_T (hb : b ≤ n) (hg : gT s = true) : isT T n b s = decide (b < n ∧ T b = chS s 0) := by
  unfold gT at hg
  simp only [Bool.and_eq_true, decide_eq_true_eq] at hg
  obtain ⟨hs, hl, h1, h2⟩ := hg
  have e := en_p (T := T) hb
  rw [Bool.eq_iff_iff, isT_iff, decide_eq_true_eq, hl]
  constructor
  · intro ⟨a, c⟩
    exact ⟨by omega, c 0 (by decide)⟩
  · intro ⟨a, c⟩
    have k1 : kdP T n b = kdN (chS s 0) := by unfold kdP; rw [if_pos a, c]
    have := e.2.2.2.2.2 (by rw [k1]; exact h1) (by rw [k1]; exact h2) a
    exact ⟨by omega, fun k hk => by rw [show k = 0 by omega]; exact c⟩
theorem rm_isW (hr : rh ρ t0 u0) (hB : tB T n) (h : mS κ T n (ltP T n b)) (h9 : κ 105 9 = Int32.ofNat b) (hb : b ≤ n) (hw : wT s = true) : f_X12_isWord (κ, ρ) 105 (1000 + s) = some (bi (isT T n b s)) := by
  have hw' := hw
  unfold wT at hw'
  rw [Bool.and_eq_true] at hw'
  have hs := of_decide_eq_true hw'.1
  have hl := s_lt hs
  have hb2 := lt_b (T := T) hb
  have n4 := h.2.2.2.1
  unfold f_X12_isWord
  simp only [h.1, h9]
  rw [s_len hs, bnd, on_sub hb2.1]
  by_cases c : ltP T n b - b = am_lens.getD s 0
  · have k97 : kdP T n b = 97 := by
      apply Classical.byContradiction; intro z; unfold ltP at c; rw [if_neg z] at c; omega
    have le : ltP T n b = enP T n b := by unfold ltP; rw [if_pos k97]
    rw [if_pos (by rw [c]), bnd]
    obtain ⟨d, l1, l2⟩ := lp_rule (body := f_X12_isWord_b24 (κ, ρ) 105 (1000 + s)) (am_lens.getD s 0) (fun k x => x.2 = Int32.ofNat k ∧ x.1 = bi (allN (fun k => decide (T (b + k) = chS s k)) k)) (fun d => d = bi (isT T n b s)) (x := ((1 : Int32), (0 : Int32))) ⟨rfl, rfl⟩ (fun k x hk hx => by
      obtain ⟨x1, x2⟩ := x
      obtain ⟨rfl, y2⟩ := hx
      simp only at y2
      unfold f_X12_isWord_b24
      simp only [h9, y2]
      cases z : allN (fun k => decide (T (b + k) = chS s k)) k
      · right
        rw [if_pos (show bi false = 0 from rfl)]
        refine ⟨_, rfl, ?_⟩
        have : isT T n b s = false := by
          cases y : isT T n b s
          · rfl
          · rw [allN_iff.mpr (fun i hi => decide_eq_true ((isT_iff.mp y).2 i (by omega)))] at z; cases z
        rw [this]
      · rw [if_neg (by decide), s_len hs, bnd]
        by_cases e : k < am_lens.getD s 0
        · left
          rw [if_pos (lt_y e (by omega)), rd_tapeM hr, bnd, on_add, ld_on (by rw [ln_109]; omega) (by omega), bnd, s_ch hs e (by omega), bnd, h.2.2.2.2 _ (by omega), on_s]
          refine ⟨(bi (decide (T (b + k) = chS s k)), Int32.ofNat (k + 1)), ?_, e, ?_⟩
          · by_cases f : T (b + k) = chS s k
            · rw [if_pos f, bnd, decide_eq_true f]; rfl
            · rw [if_neg f, bnd, decide_eq_false f]; rfl
          · refine ⟨rfl, ?_⟩
            show bi _ = bi (allN _ k && _)
            rw [z]; rfl
        · right
          rw [if_neg (fun y => e ((on_lt (by omega) (by omega)).mp y))]
          refine ⟨_, rfl, ?_⟩
          have : isT T n b s = true := isT_iff.mpr ⟨by omega, fun i hi => of_decide_eq_true (allN_iff.mp z i (by omega))⟩
          rw [this]) (by omega)
    rw [l1, bnd, l2, if_pos bi_01]
  · rw [if_neg (fun z => c ((on_inj (by omega) (by omega)).mp z)), bnd]
    have hf : isT T n b s = false := by
      cases y : isT T n b s
      · rfl
      · exfalso
        have k97 := isT_97 hB hb hw y
        have := (isT_iff.mp y).1
        unfold ltP at c
        rw [if_pos k97] at c
        exact c this
    have hl0 : am_loop (f_X12_isWord_b24 (κ, ρ) 105 (1000 + s)) am_fuel ((0 : Int32), (0 : Int32)) = some 0 := by
      refine lp_for 0 (fun _ => ((0 : Int32), (0 : Int32))) rfl (fun j hj => by omega) ?_ (by decide)
      unfold f_X12_isWord_b24
      simp only [if_true]
    rw [hl0, bnd, hf, if_pos (Or.inl rfl)]
    rfl
theorem rm_pass1 (hr : rh ρ t0 u0) (hB : tB T n) (h : mS μ T n q) (hb : bgP T n q = b) (hw : wT s = true) (hi : isT T n b s = true) : ∃ ν, f_X12_passes (μ, ρ) 105 (1000 + s) = some (1, ν) ∧ kM μ ν ∧ mS ν T n (enP T n b) := by
  subst hb
  have hbn := (bg_p (T := T) h.2.2.1).2.1
  obtain ⟨ν, a1, a2, a3, a4⟩ := rm_let hr hB h
  unfold f_X12_passes
  rw [a1, bnd]
  simp only
  rw [rm_isW hr hB a3 a4 hbn hw, bnd, hi, if_neg (by decide)]
  refine ⟨ν, rfl, a2, ?_⟩
  have : ltP T n (bgP T n q) = enP T n (bgP T n q) := by unfold ltP; rw [if_pos (isT_97 hB hbn hw hi)]
  rw [this] at a3
  exact a3
theorem rm_pass0 (hr : rh ρ t0 u0) (hB : tB T n) (h : mS μ T n q) (hb : bgP T n q = b) (hw : wT s = true) (hi : isT T n b s = false) : ∃ ν, f_X12_passes (μ, ρ) 105 (1000 + s) = some (0, ν) ∧ kM μ ν ∧ mS ν T n b ∧ ν 105 9 = Int32.ofNat b := by
  subst hb
  have hbn := (bg_p (T := T) h.2.2.1).2.1
  obtain ⟨ν, a1, a2, a3, a4⟩ := rm_let hr hB h
  unfold f_X12_passes
  rw [a1, bnd]
  simp only
  rw [rm_isW hr hB a3 a4 hbn hw, bnd, hi, if_pos (show bi false = 0 from rfl), a4]
  exact ⟨_, rfl, kM_tr a2 kM_7, mS_k a3 kM_7 u2_eq hbn, by rw [u2_nj (by decide)]; exact a4⟩
theorem sg_at {c x : Int32} : (c ≤ x ∧ x ≤ c) ↔ x = c := by
  rw [Int32.le_iff_toInt_le, Int32.le_iff_toInt_le, ← Int32.toInt_inj]; omega
theorem rm_sg1 (hr : rh ρ t0 u0) (h : mS μ T n q) (hb : bgP T n q = b) (hg : gT s = true) (hi : isT T n b s = true) : ∃ ν, f_X12_sign (μ, ρ) 105 (chS s 0) = some (1, ν) ∧ kM μ ν ∧ mS ν T n (enP T n b) := by
  subst hb
  have hbn := (bg_p (T := T) h.2.2.1).2.1
  obtain ⟨ν, a1, a2, a3, a4⟩ := rm_bl hr h
  rw [gT_T hbn hg] at hi
  have hi' := of_decide_eq_true hi
  have en : enP T n (bgP T n q) = bgP T n q + 1 := by
    unfold gT at hg
    simp only [Bool.and_eq_true, decide_eq_true_eq] at hg
    have k1 : kdP T n (bgP T n q) = kdN (chS s 0) := by unfold kdP; rw [if_pos hi'.1, hi'.2]
    exact (en_p (T := T) hbn).2.2.2.2.2 (by rw [k1]; exact hg.2.2.1) (by rw [k1]; exact hg.2.2.2) hi'.1
  unfold f_X12_sign
  rw [a1, bnd]
  simp only
  rw [rm_at hr a3, bnd, decide_eq_true ⟨hi'.1, sg_at.mpr hi'.2⟩, if_neg (by decide), a3.1, on_s, en]
  exact ⟨_, rfl, kM_tr a2 kM_7, mS_k a3 kM_7 u2_eq (by omega)⟩
theorem rm_sg0 (hr : rh ρ t0 u0) (h : mS μ T n q) (hb : bgP T n q = b) (hg : gT s = true) (hi : isT T n b s = false) : ∃ ν, f_X12_sign (μ, ρ) 105 (chS s 0) = some (0, ν) ∧ kM μ ν ∧ mS ν T n b ∧ ν 105 9 = Int32.ofNat b := by
  subst hb
  have hbn := (bg_p (T := T) h.2.2.1).2.1
  obtain ⟨ν, a1, a2, a3, a4⟩ := rm_bl hr h
  rw [gT_T hbn hg] at hi
  have hi' := of_decide_eq_false hi
  unfold f_X12_sign
  rw [a1, bnd]
  simp only
  rw [rm_at hr a3, bnd, decide_eq_false (fun z => hi' ⟨z.1, sg_at.mp z.2⟩), if_pos (show bi false = 0 from rfl)]
  exact ⟨_, rfl, a2, a3, a4⟩
theorem rm_nloop (hr : rh ρ t0 u0) (hB : tB T n) (h : mS κ T n b) (h9 : κ 105 9 = Int32.ofNat b) (lo hi : Int32) {e : Nat} (he : e = (if kdP T n b = 48 then enP T n b else b)) : ∃ v ν, am_loop (f_X12_number_b6 (κ, ρ) 105 lo hi) am_fuel (0, κ) = some (v, ν) ∧ v = Int32.ofNat (dgV T b (min (e - b) 3)) ∧ ν 105 7 = Int32.ofNat e ∧ (∀ o, o ≠ 105 → ν o = κ o) ∧ (∀ j, j ≠ 7 → ν 105 j = κ 105 j) := by
  have hbn := h.2.2.1
  have ep := en_p (T := T) hbn
  have n4 := h.2.2.2.1
  have heb : b ≤ e ∧ e ≤ n := by rw [he]; split <;> omega
  obtain ⟨⟨v, ν⟩, l1, l2⟩ := lp_rule (body := f_X12_number_b6 (κ, ρ) 105 lo hi) (e - b) (fun k (x : Int32 × sg) => x.1 = Int32.ofNat (dgV T b (min k 3)) ∧ dgV T b (min k 3) < 10 ^ (min k 3) ∧ x.2 105 7 = Int32.ofNat (b + k) ∧ (∀ o, o ≠ 105 → x.2 o = κ o) ∧ (∀ j, j ≠ 7 → x.2 105 j = κ 105 j)) (fun (d : Int32 × sg) => d.1 = Int32.ofNat (dgV T b (min (e - b) 3)) ∧ d.2 105 7 = Int32.ofNat e ∧ (∀ o, o ≠ 105 → d.2 o = κ o) ∧ (∀ j, j ≠ 7 → d.2 105 j = κ 105 j)) (x := ((0 : Int32), κ)) ⟨rfl, Nat.zero_lt_one, h.1, fun _ _ => rfl, fun _ _ => rfl⟩ (fun k x hk hx => by
    obtain ⟨x1, x2⟩ := x
    simp only at hx
    obtain ⟨y1, y0, y2, y3, y4⟩ := hx
    have hx : mS x2 T n (b + k) := ⟨y2, by rw [y4 8 (by decide)]; exact h.2.1, by omega, n4, fun i hi => by rw [y3 109 (by decide)]; exact h.2.2.2.2 i hi⟩
    unfold f_X12_number_b6
    simp only
    rw [rm_at hr hx, bnd]
    by_cases c : k < e - b
    · left
      have k48 : kdP T n b = 48 := by apply Classical.byContradiction; intro z; rw [if_neg z] at he; omega
      have hee : e = enP T n b := by rw [he, if_pos k48]
      obtain ⟨d, d1, d2⟩ := dig_b hB hbn k48 (show b ≤ b + k by omega) (by omega)
      have hd : (48 : Int32) ≤ T (b + k) ∧ T (b + k) ≤ 57 := by
        rw [d2]; exact ⟨(on_le (a := 48) (by decide) (by omega)).mpr (by omega), (on_le (b := 57) (by omega) (by decide)).mpr (by omega)⟩
      rw [decide_eq_true ⟨by omega, hd⟩, if_neg (by decide), y2, y4 9 (by decide), h9, on_sub (by omega), show b + k - b = k by omega, on_s]
      by_cases g : k < 3
      · have m1 : min k 3 = k := by omega
        have m2 : min (k + 1) 3 = k + 1 := by omega
        rw [m1] at y1 y0
        have p3 : 10 ^ k ≤ 10 ^ 2 := Nat.pow_le_pow_right (by decide) (by omega)
        have ds := dgV_s d2 d1
        rw [if_pos (show Int32.ofNat k < 3 from (on_lt (b := 3) (by omega) (by decide)).mpr g), rd_tapeM hr, bnd, ld_on (by rw [ln_109]; omega) (by omega), hx.2.2.2.2 _ (by omega), bnd, bnd, d2, y1, show (10 : Int32) = Int32.ofNat 10 from rfl, on_mul, on_add, show (48 : Int32) = Int32.ofNat 48 from rfl, on_sub (by omega), show 10 * dgV T b k + (48 + d) - 48 = dgV T b (k + 1) by omega]
        exact ⟨_, rfl, c, by rw [m2], by rw [m2, Nat.pow_succ]; omega, (show am_u2 x2 105 7 (Int32.ofNat (b + k + 1)) 105 7 = _ from u2_eq), fun o ho => (u2_row ho).trans (y3 o ho), fun j hj => (u2_nj hj).trans (y4 j hj)⟩
      · have m1 : min k 3 = 3 := by omega
        have m2 : min (k + 1) 3 = 3 := by omega
        rw [m1] at y1 y0
        rw [if_neg (show ¬ Int32.ofNat k < 3 from fun z => g ((on_lt (b := 3) (by omega) (by decide)).mp z)), bnd]
        exact ⟨_, rfl, c, by rw [m2]; exact y1, by rw [m2]; exact y0, (show am_u2 x2 105 7 (Int32.ofNat (b + k + 1)) 105 7 = _ from u2_eq), fun o ho => (u2_row ho).trans (y3 o ho), fun j hj => (u2_nj hj).trans (y4 j hj)⟩
    · right
      have hk2 : k = e - b := by omega
      have hbk : b + k = e := by omega
      rw [hbk, decide_eq_false, if_pos (show bi false = 0 from rfl)]
      · exact ⟨_, rfl, by rw [← hk2]; exact y1, by rw [← hbk]; exact y2, y3, y4⟩
      · intro z
        have h1 := dg_e hB hbn
        rw [← he] at h1
        obtain ⟨r1, r2, r3, r4⟩ := run_p (q := fun k => decide ((48 : Int32) ≤ T k ∧ T k ≤ 57)) hbn
        rw [h1] at r4
        exact of_decide_eq_false (r4 z.1) z.2) (by omega)
  exact ⟨v, ν, l1, l2⟩
theorem rm_num (hr : rh ρ t0 u0) (hB : tB T n) (h : mS μ T n q) (hb : bgP T n q = b) {lo H : Nat} (hlo : lo < 1000) (hH : H < 2000) : (∀ v, numR T n b lo H = some v → ∃ ν, f_X12_number (μ, ρ) 105 (Int32.ofNat lo) (Int32.ofNat H - 1) = some (Int32.ofNat v, ν) ∧ kM μ ν ∧ mS ν T n (enP T n b)) ∧ (numR T n b lo H = none → ∃ ν, f_X12_number (μ, ρ) 105 (Int32.ofNat lo) (Int32.ofNat H - 1) = some (-1, ν) ∧ kM μ ν ∧ ν 105 9 = Int32.ofNat b) := by
  subst hb
  have hbn := (bg_p (T := T) h.2.2.1).2.1
  obtain ⟨κ, a1, a2, a3, a4⟩ := rm_bl hr h
  obtain ⟨b, hb⟩ : ∃ b, b = bgP T n q := ⟨_, rfl⟩
  rw [← hb] at hbn a3 a4 ⊢
  obtain ⟨e, he⟩ : ∃ e, e = (if kdP T n b = 48 then enP T n b else b) := ⟨_, rfl⟩
  have ep := en_p (T := T) hbn
  have n4 := h.2.2.2.1
  have heb : b ≤ e ∧ e ≤ n := by rw [he]; split <;> omega
  obtain ⟨v, ν, l1, l2, l3, l4, l5⟩ := rm_nloop hr hB a3 a4 (Int32.ofNat lo) (Int32.ofNat H - 1) he
  have kk : kM κ ν := ⟨l4, fun j h1 h2 => l5 j h1⟩
  have v9 : ν 105 9 = Int32.ofNat b := by rw [l5 9 (by decide)]; exact a4
  unfold f_X12_number
  rw [a1, bnd]
  simp only
  rw [l1, bnd]
  simp only
  rw [l3, v9, on_sub heb.1]
  by_cases c : e = b
  · have nn : numR T n b lo H = none := by
      unfold numR numV
      rw [if_neg]; rfl
      intro z
      rw [if_pos z.1] at he
      have := ep.2.2.1 (kd_lt (Or.inr z.1))
      omega
    rw [if_pos (by rw [c])]
    exact ⟨fun v' h' => (by rw [nn] at h'; cases h'), fun _ => ⟨ν, rfl, kM_tr a2 kk, v9⟩⟩
  · have k48 : kdP T n b = 48 := by apply Classical.byContradiction; intro z; rw [if_neg z] at he; exact c he
    have hee : e = enP T n b := by rw [he, if_pos k48]
    rw [if_neg (fun z => c ((on_inj (by omega) (by omega)).mp z))]
    by_cases g : e - b ≤ 3
    · rw [if_neg (show ¬ (3 : Int32) < Int32.ofNat (e - b) from fun z => by have := (on_lt (a := 3) (by decide) (by omega)).mp z; omega)]
      have hv : numV T n b = some (dgV T b (e - b)) := by unfold numV; rw [← hee, if_pos ⟨k48, g⟩]
      have vl := numV_lt hB hbn hv
      rw [show min (e - b) 3 = e - b by omega] at l2
      by_cases i1 : dgV T b (e - b) < lo
      · have nn : numR T n b lo H = none := by unfold numR; rw [hv]; show (if _ then _ else _) = _; rw [if_neg (fun z => by omega)]
        rw [l2, if_pos (lt_y i1 (by omega))]
        exact ⟨fun v' h' => (by rw [nn] at h'; cases h'), fun _ => ⟨ν, rfl, kM_tr a2 kk, v9⟩⟩
      · rw [l2, if_neg (fun z => i1 ((on_lt (by omega) (by omega)).mp z))]
        by_cases i2 : dgV T b (e - b) < H
        · have nn : numR T n b lo H = some (dgV T b (e - b)) := by unfold numR; rw [hv]; show (if _ then _ else _) = _; rw [if_pos ⟨by omega, i2⟩]
          rw [if_neg (fun z => (hi_n (by omega) (by omega)).mp z i2), nn]
          refine ⟨fun v' h' => ⟨ν, ?_, kM_tr a2 kk, by rw [← hee]; exact mS_k a3 kk l3 (by omega)⟩, fun h' => (by cases h')⟩
          injection h' with h'
          rw [h']
        · have nn : numR T n b lo H = none := by unfold numR; rw [hv]; show (if _ then _ else _) = _; rw [if_neg (fun z => i2 z.2)]
          rw [if_pos ((hi_n (by omega) (by omega)).mpr i2)]
          exact ⟨fun v' h' => (by rw [nn] at h'; cases h'), fun _ => ⟨ν, rfl, kM_tr a2 kk, v9⟩⟩
    · have nn : numR T n b lo H = none := by
        unfold numR numV
        rw [if_neg]; rfl
        intro z
        omega
      rw [if_pos (show (3 : Int32) < Int32.ofNat (e - b) from (on_lt (a := 3) (by decide) (by omega)).mpr (by omega))]
      exact ⟨fun v' h' => (by rw [nn] at h'; cases h'), fun _ => ⟨ν, rfl, kM_tr a2 kk, v9⟩⟩
theorem rm_told (hr : rh ρ t0 u0) (hB : tB T n) (h : mS μ T n q) (hb : bgP T n q = b) : (∀ v, wrdV T n b = some v → ∃ ν, f_X12_strokesTold (μ, ρ) 105 = some (Int32.ofNat v, ν) ∧ kM μ ν ∧ mS ν T n (enP T n b)) ∧ (wrdV T n b = none → ∃ ν, f_X12_strokesTold (μ, ρ) 105 = some (-1, ν) ∧ kM μ ν ∧ ν 105 9 = Int32.ofNat b) := by
  subst hb
  have hbn := (bg_p (T := T) h.2.2.1).2.1
  obtain ⟨κ, a1, a2, a3, a4⟩ := rm_let hr hB h
  obtain ⟨b, hb⟩ : ∃ b, b = bgP T n q := ⟨_, rfl⟩
  rw [← hb] at hbn a3 a4 ⊢
  have ep := en_p (T := T) hbn
  have lb := lt_b (T := T) hbn
  have n4 := h.2.2.2.1
  unfold f_X12_strokesTold
  rw [a1, bnd]
  simp only
  rw [a3.1, a4, on_sub lb.1, in_e, bnd]
  by_cases c : 1 ≤ ltP T n b - b ∧ ltP T n b - b ≤ 8
  · have k97 : kdP T n b = 97 := by apply Classical.byContradiction; intro z; unfold ltP at c; rw [if_neg z] at c; omega
    have le : ltP T n b = enP T n b := by unfold ltP; rw [if_pos k97]
    rw [if_neg (show ¬ (Int32.ofNat (ltP T n b - b) < 1 ∨ (8 : Int32) < Int32.ofNat (ltP T n b - b)) from fun z => z.elim (fun y => by have := (on_lt (b := 1) (by omega) (by decide)).mp y; omega) (fun y => by have := (on_lt (a := 8) (by decide) (by omega)).mp y; omega)), if_neg (by decide)]
    obtain ⟨d, l1, l2⟩ := lp_rule (body := f_X12_strokesTold_b31 (κ, ρ) 105) (enP T n b - b) (fun k (x : Int32 × Int32) => x = (Int32.ofNat (sV T b k), Int32.ofNat (b + k)) ∧ ∀ i, i < k → abT T (b + i)) (fun d => d = Sum.inr (match wrdV T n b with | some v => (Int32.ofNat v, κ) | none => (-1, κ))) (x := ((1 : Int32), Int32.ofNat b)) ⟨rfl, fun i hi => by omega⟩ (fun k x hk hx => by
      obtain ⟨rfl, y2⟩ := hx
      unfold f_X12_strokesTold_b31
      simp only [a3.1, le]
      by_cases e : k < enP T n b - b
      · rw [if_pos (lt_y (by omega) (by omega)), rd_tapeM hr, bnd, ld_on (by rw [ln_109]; omega) (by omega), bnd, bnd, ld_on (by rw [ln_109]; omega) (by omega), bnd, a3.2.2.2.2 _ (by omega)]
        have sr := sV_r (T := T) (b := b) k
        have p2 : 2 ^ (k + 1) ≤ 2 ^ 9 := Nat.pow_le_pow_right (by decide) (by omega)
        have p3 : 2 ^ 9 = 512 := by decide
        have kb : kdN (T b) = 97 := by unfold kdP at k97; rw [if_pos (by omega)] at k97; exact k97
        have rg := ((tB_k hB (show b + k < n by omega)).1).mp ((ep.2.2.2.1 (b + k) (by omega) (by omega)).trans kb)
        by_cases f : (98 : Int32) < T (b + k)
        · right
          rw [if_pos f]
          refine ⟨_, rfl, ?_⟩
          have : wrdV T n b = none := by
            unfold wrdV
            rw [if_neg]
            intro z
            have := of_decide_eq_true (allN_iff.mp z.2.2 k e)
            rcases this with z | z
            · rw [z] at f; exact absurd f (by decide)
            · rw [z] at f; exact absurd f (by decide)
          rw [this]
        · left
          rw [if_neg f]
          have ab : abT T (b + k) := by
            have f' := nlt.mp f
            have h1 := rg.1
            rw [Int32.le_iff_toInt_le] at f' h1
            have z1 : (98 : Int32).toInt = 98 := by decide
            have z2 : (97 : Int32).toInt = 97 := by decide
            rw [z1] at f'
            rw [z2] at h1
            have : (T (b + k)).toInt = 97 ∨ (T (b + k)).toInt = 98 := by omega
            exact this.imp (fun y => Int32.toInt_inj.mp (y.trans z2.symm)) (fun y => Int32.toInt_inj.mp (y.trans z1.symm))
          refine ⟨(Int32.ofNat (sV T b (k + 1)), Int32.ofNat (b + (k + 1))), ?_, e, rfl, fun i hi => if z : i = k then by rw [z]; exact ab else y2 i (by omega)⟩
          rw [on_s, show (2 : Int32) = Int32.ofNat 2 from rfl, on_mul]
          show some (Sum.inl (_, _)) = some (Sum.inl (Int32.ofNat (2 * sV T b k + (if T (b + k) = 98 then 1 else 0)), _))
          rcases ab with z | z
          · rw [z, if_neg (by decide), show (97 : Int32) = Int32.ofNat 97 from rfl, on_add, on_sub (by omega), show 2 * sV T b k + 97 - 97 = 2 * sV T b k + 0 by omega]; rfl
          · rw [z, if_pos rfl, show (98 : Int32) = Int32.ofNat 98 from rfl, show (97 : Int32) = Int32.ofNat 97 from rfl, on_add, on_sub (by omega), show 2 * sV T b k + 98 - 97 = 2 * sV T b k + 1 by omega]; rfl
      · right
        rw [if_neg (fun z => by have := (on_lt (by omega) (by omega)).mp z; omega)]
        refine ⟨_, rfl, ?_⟩
        have : k = enP T n b - b := by omega
        have hw : wrdV T n b = some (sV T b k) := by
          unfold wrdV
          rw [if_pos ⟨k97, by omega, allN_iff.mpr (fun i hi => decide_eq_true (y2 i (by omega)))⟩, this]
        rw [hw]) (by omega)
    rw [l1, bnd, l2]
    cases hv : wrdV T n b with
    | none => exact ⟨fun v h => (by cases h), fun _ => ⟨κ, rfl, a2, a4⟩⟩
    | some v => exact ⟨fun v' h => ⟨κ, by injection h with h; rw [h], a2, by rw [← le]; exact a3⟩, fun h => (by cases h)⟩
  · have nn : wrdV T n b = none := by
      unfold wrdV
      rw [if_neg]
      intro z
      have := ep.2.2.1 (kd_lt (Or.inl z.1))
      apply c
      unfold ltP
      rw [if_pos z.1]
      omega
    rw [if_pos (show (Int32.ofNat (ltP T n b - b) < 1 ∨ (8 : Int32) < Int32.ofNat (ltP T n b - b)) from by
      by_cases y : ltP T n b - b < 1
      · exact Or.inl ((on_lt (b := 1) (by omega) (by decide)).mpr y)
      · exact Or.inr ((on_lt (a := 8) (by decide) (by omega)).mpr (by omega))), if_pos rfl, nn]
    exact ⟨fun v h => (by cases h), fun _ => ⟨κ, rfl, a2, a4⟩⟩
end TM
