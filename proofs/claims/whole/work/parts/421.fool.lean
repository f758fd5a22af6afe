/-! fooled: counting words -/
def su (f : Nat → Nat) : Nat → Nat
  | 0 => 0
  | n + 1 => su f n + f n
theorem su_cg {f g : Nat → Nat} : ∀ {n : Nat}, (∀ k, k < n → f k = g k) → su f n = su g n
  | 0, _ => rfl
  | n + 1, h => by unfold su; rw [su_cg (n := n) (fun k hk => h k (by omega)), h n (by omega)]
theorem su_add {f g : Nat → Nat} : ∀ n, su (fun k => f k + g k) n = su f n + su g n
  | 0 => rfl
  | n + 1 => by show su (fun k => f k + g k) n + (f n + g n) = (su f n + f n) + (su g n + g n); rw [su_add n]; omega
theorem su_zero : ∀ n, su (fun _ => 0) n = 0
  | 0 => rfl
  | n + 1 => by show su (fun _ => 0) n + 0 = 0; rw [su_zero n]
theorem su_swap {f : Nat → Nat → Nat} {b : Nat} : ∀ a, su (fun i => su (f i) b) a = su (fun j => su (fun i => f i j) a) b
  | 0 => (su_zero b).symm
  | a + 1 => by
    show su (fun i => su (f i) b) a + su (f a) b = su (fun j => su (fun i => f i j) a + f a j) b
    rw [su_swap a, su_add]
theorem su_one {x : Nat} {p : Bool} : ∀ n, su (fun k => if (decide (k = x) && p) = true then 1 else 0) n = if x < n ∧ p = true then 1 else 0
  | 0 => by simp [su]
  | n + 1 => by
    show su _ n + _ = _
    rw [su_one n]
    by_cases e : n = x
    · subst e
      cases p <;> simp
    · by_cases q : x < n
      · have : x < n + 1 := by omega
        cases p <;> simp [q, e, this]
      · have : ¬ x < n + 1 := by omega
        simp [q, e, this]
theorem su_mul {c : Nat} {f : Nat → Nat} : ∀ n, su (fun k => c * f k) n = c * su f n
  | 0 => rfl
  | n + 1 => by show su (fun k => c * f k) n + c * f n = c * (su f n + f n); rw [su_mul n, Nat.mul_add]
theorem su_split {f : Nat → Nat} {a : Nat} : ∀ b, su f (a + b) = su f a + su (fun k => f (a + k)) b
  | 0 => rfl
  | b + 1 => by show su f (a + b) + f (a + b) = su f a + (su (fun k => f (a + k)) b + f (a + b)); rw [su_split b]; omega
theorem su_const {c : Nat} : ∀ n, su (fun _ => c) n = n * c
  | 0 => by simp [su]
  | n + 1 => by show su (fun _ => c) n + c = (n + 1) * c; rw [su_const n, Nat.succ_mul]
theorem su_div {h : Nat → Nat} {b : Nat} (hb : 0 < b) : ∀ a, su (fun i => h (i / b)) (a * b) = b * su h a
  | 0 => by simp [su]
  | a + 1 => by
    rw [Nat.succ_mul, su_split, su_div hb a]
    have : su (fun k => h ((a * b + k) / b)) b = su (fun _ => h a) b := su_cg (fun k hk => by
      rw [Nat.add_comm, Nat.add_mul_div_right _ _ hb, Nat.div_eq_of_lt hk, Nat.zero_add])
    rw [this, su_const]
    show b * su h a + b * h a = b * (su h a + h a)
    rw [Nat.mul_add]
theorem ct_su {q : Nat → Bool} : ∀ n, ct q n = su (fun k => if q k then 1 else 0) n
  | 0 => rfl
  | n + 1 => by show ct q n + _ = _; rw [ct_su n]; rfl
theorem fo_sm {g : Nat → Int32} {a0 : Int32} : ∀ n, fo (fun k a => a + g k) n a0 = a0 + sm g n
  | 0 => (Int32.add_zero a0).symm
  | n + 1 => by show fo (fun k a => a + g k) n a0 + g n = a0 + (sm g n + g n); rw [fo_sm n, Int32.add_assoc]
theorem lg_in {s k : Nat} (hk : k < 2 ^ s) : (2 ^ s + k).log2 = s := by
  have h0 : 2 ^ s + k ≠ 0 := by have := Nat.two_pow_pos s; omega
  have h1 : s ≤ (2 ^ s + k).log2 := (Nat.le_log2 h0).mpr (by omega)
  have h2 : (2 ^ s + k).log2 < s + 1 := (Nat.log2_lt h0).mpr (by rw [Nat.pow_succ]; omega)
  omega
/-- words of a length that are taken for their want -/
def wl (w : wg) (r m : Nat) : Nat := ct (fun v => decide ((wx w r v).log2 = m) && decide (tk w r (wx w r v) = some v)) (nW w)
theorem tk_wx {w : wg} {r n v : Nat} (h : tk w r n = some v) : wx w r v = n ∧ 2 ≤ n ∧ v < nW w := by
  unfold tk at h
  by_cases q : 2 ≤ n
  · rw [if_pos q] at h
    obtain ⟨h1, h2, h3, -⟩ := ff_some.mp h
    exact ⟨by simpa using h3, q, by omega⟩
  · rw [if_neg q] at h; cases h
theorem wl_eq {w : wg} (hw : wv w) {r m : Nat} (hm : 1 ≤ m) : su (fun j => if (tk w r (2 ^ m + j)).isSome then 1 else 0) (2 ^ m) = wl w r m := by
  have h1 : ∀ j, (if (tk w r (2 ^ m + j)).isSome then 1 else 0) = su (fun v => if decide (tk w r (2 ^ m + j) = some v) = true then 1 else 0) (nW w) := fun j => by
    cases e : tk w r (2 ^ m + j) with
    | none =>
      have : su (fun v => if decide ((none : Option Nat) = some v) = true then 1 else 0) (nW w) = su (fun _ => 0) (nW w) := su_cg (fun k _ => by simp)
      rw [this, su_zero]; rfl
    | some x =>
      have hx := (tk_wx e).2.2
      have : su (fun v => if decide (some x = some v) = true then 1 else 0) (nW w) = su (fun v => if (decide (v = x) && true) = true then 1 else 0) (nW w) := su_cg (fun k _ => by
        by_cases q : k = x
        · simp [q]
        · have : x ≠ k := fun z => q z.symm
          simp [q, this])
      rw [this, su_one]
      simp [hx]
  rw [su_cg (fun j _ => h1 j), su_swap]
  unfold wl
  rw [ct_su]
  refine su_cg (fun v hv => ?_)
  -- of each want at most one word
  by_cases q : (wx w r v).log2 = m
  · have hne : wx w r v ≠ 0 := by
      intro z; rw [z] at q; have : (0 : Nat).log2 = 0 := by decide
      omega
    have hlo : 2 ^ m ≤ wx w r v := (Nat.le_log2 hne).mp (by omega)
    have hhi : wx w r v < 2 ^ (m + 1) := (Nat.log2_lt hne).mp (by omega)
    have hp := Nat.pow_succ (n := 2) (m := m)
    have : su (fun j => if decide (tk w r (2 ^ m + j) = some v) = true then 1 else 0) (2 ^ m) = su (fun j => if (decide (j = wx w r v - 2 ^ m) && decide (tk w r (wx w r v) = some v)) = true then 1 else 0) (2 ^ m) := su_cg (fun j hj => by
      by_cases e : j = wx w r v - 2 ^ m
      · have e2 : 2 ^ m + j = wx w r v := by omega
        rw [e2]; simp [e]
      · have : ¬ tk w r (2 ^ m + j) = some v := fun z => by have := (tk_wx z).1; omega
        simp [this, e])
    rw [this, su_one]
    have hlt : wx w r v - 2 ^ m < 2 ^ m := by omega
    by_cases z : tk w r (wx w r v) = some v <;> simp [z, q, hlt]
  · have : su (fun j => if decide (tk w r (2 ^ m + j) = some v) = true then 1 else 0) (2 ^ m) = su (fun _ => 0) (2 ^ m) := su_cg (fun j hj => by
      have : ¬ tk w r (2 ^ m + j) = some v := fun z => by
        have h3 := (tk_wx z).1
        rw [h3] at q
        exact q (lg_in hj)
      simp [this])
    rw [this, su_zero]
    simp [q]
theorem shl_all : ((List.range 11).all (fun n => (List.range 9).all (fun d => decide (Int32.ofNat n <<< (Int32.ofNat d &&& 31) = Int32.ofNat (n * 2 ^ d))))) = true := by decide +kernel
theorem shl_s {n d : Nat} (hn : n < 11) (hd : d < 9) : Int32.ofNat n <<< (Int32.ofNat d &&& 31) = Int32.ofNat (n * 2 ^ d) := by
  have h1 := List.all_eq_true.mp shl_all n (List.mem_range.mpr hn)
  simpa using List.all_eq_true.mp h1 d (List.mem_range.mpr hd)
section FL
variable {σ : sg} {ρ : rg} {t u : Nat} {w wi : wg}
theorem c_wl (H : tS σ ρ t w) {r m : Nat} (hr : r < 2147483648) (hm : 1 ≤ m) (hm2 : m < 2147483648) : f_X9_wordsOfLength (σ, ρ) t (Int32.ofNat r) (Int32.ofNat m) = some (Int32.ofNat (wl w r m)) := by
  have hW := (wv_W H.2.2.2).2
  unfold f_X9_wordsOfLength
  rw [lp_sum (fun v => bi (decide ((wx w r v).log2 = m) && decide (tk w r (wx w r v) = some v))) (nW w) 0 (fun k a hk => ?_) (fun a => ?_) (by omega)]
  · simp only [Option.bind_some, Int32.zero_add, sm_ct]; rfl
  · unfold f_X9_wordsOfLength_b5
    have hx := wx_lt H.2.2.2 (a := r) (v := k)
    simp only [c_W H]
    rw [if_pos (lt_y hk (by omega)), c_wf H hr (by omega)]
    simp only [Option.bind_some, on_s]
    by_cases z : wx w r k = 0
    · have l0 : (0 : Nat).log2 = 0 := by decide
      have : ¬ (0 : Nat).log2 = m := by omega
      rw [z, zw_0, w_len0]
      simp only [Option.bind_some]
      rw [if_neg (show ¬ (0 : Int32) = Int32.ofNat m from fun y => by have := (on_inj (a := 0) (by decide) hm2).mp y; omega)]
      have hm0 : ¬ 0 = m := by omega
      simp [this, hm0, bi]
    · have hl := w_log (show wx w r k < 1024 by omega)
      rw [zw_p z, (w_len (show wx w r k < 1024 by omega)).2]
      simp only [Option.bind_some, on_inj (show (wx w r k).log2 < 2147483648 by omega) hm2]
      by_cases q : (wx w r k).log2 = m
      · rw [if_pos q, c_tk H hr (by omega)]
        simp only [Option.bind_some, tkI_eq hk hW]
        by_cases y : tk w r (wx w r k) = some k <;> simp [y, q, bi]
      · rw [if_neg q]; simp [q, bi]
  · unfold f_X9_wordsOfLength_b5
    simp only [c_W H]
    rw [if_neg (lt_n (by omega))]
theorem tkI_neg {r n : Nat} (hW : nW w ≤ 10) : (tkI w r n < 0) ↔ (tk w r n).isSome = false := by
  unfold tkI
  cases e : tk w r n with
  | none => simp only [fd]; decide
  | some v =>
    have := (tk_wx e).2.2
    simp only [fd, Option.isSome_some, Bool.true_eq_false, iff_false]
    exact on_neg (by omega)
theorem M_fool (H : wS σ ρ w) {r l s : Nat} (hr : r < nH w) (hl : l < nH w) (hs : 1 ≤ s) (hs8 : s ≤ 8) : am_loop (f_X12_fooled_b67 (σ, ρ) 105 (Int32.ofNat r) (Int32.ofNat l) (Int32.ofNat s)) am_fuel (0, Int32.ofNat (2 ^ s)) = some (if cx w l r = 0 then 0 else Int32.ofNat (wl w r (min s (cx w l r)) * 2 ^ (s - min s (cx w l r)))) := by
  have hW := (wv_W H.2.2).2
  have hc := cx_lt H.2.2 (i := l) (j := r)
  have hp8 : 2 ^ s ≤ 256 := show 2 ^ s ≤ 2 ^ 8 from Nat.pow_le_pow_right (by decide) hs8
  have hp0 := Nat.two_pow_pos s
  have h2 : (2 : Int32) <<< (Int32.ofNat s &&& 31) = Int32.ofNat (2 ^ s + 2 ^ s) := by
    rw [show (2 : Int32) = Int32.ofNat 2 from rfl, shl_s (by decide) (by omega)]; congr 1; omega
  by_cases c0 : cx w l r = 0
  · rw [if_pos c0]
    show am_loop _ (999999999999 + 1) _ = _
    rw [am_loop_s]
    unfold f_X12_fooled_b67
    simp only [h2]
    rw [if_pos ((on_lt (by omega) (by omega)).mpr (by omega)), M_hrb H hl hr, c0]
    rfl
  · rw [if_neg c0]
    have hcx : 0 < cx w l r := by omega
    have hres := lp_fo (body := f_X12_fooled_b67 (σ, ρ) 105 (Int32.ofNat r) (Int32.ofNat l) (Int32.ofNat s)) (fun (a : Int32) k => (a, Int32.ofNat (2 ^ s + k))) (fun k a => a + bi (tk w r (cu (2 ^ s + k) (cx w l r))).isSome) (2 ^ s) 0 (d := fo (fun k a => a + bi (tk w r (cu (2 ^ s + k) (cx w l r))).isSome) (2 ^ s) 0) (x := (0, Int32.ofNat (2 ^ s))) rfl (fun k a hk => ?_) ?_ (by omega)
    · rw [hres, fo_sm, Int32.zero_add, sm_ct, ct_su]
      congr 2
      have hmn : 1 ≤ min s (cx w l r) := by omega
      rw [← wl_eq H.2.2 hmn]
      obtain ⟨m, hm⟩ : ∃ m, m = min s (cx w l r) := ⟨_, rfl⟩
      rw [← hm] at hmn ⊢
      have hms : m ≤ s := by omega
      have hsp : 2 ^ m * 2 ^ (s - m) = 2 ^ s := by rw [← Nat.pow_add]; congr 1; omega
      have e1 : su (fun k => if (tk w r (cu (2 ^ s + k) (cx w l r))).isSome = true then 1 else 0) (2 ^ s) = su (fun k => (fun j => if (tk w r (2 ^ m + j)).isSome = true then 1 else 0) (k / 2 ^ (s - m))) (2 ^ m * 2 ^ (s - m)) := by
        rw [hsp]
        refine su_cg (fun k hk => ?_)
        have e2 : cu (2 ^ s + k) (cx w l r) = 2 ^ m + k / 2 ^ (s - m) := by
          unfold cu
          rw [lg_in hk, Nat.shiftRight_eq_div_pow, show s - cx w l r = s - m by omega]
          rw [← hsp, Nat.mul_comm, Nat.add_comm, Nat.add_mul_div_left _ _ (Nat.two_pow_pos _), Nat.add_comm]
        rw [e2]
      rw [e1, su_div (h := fun j => if (tk w r (2 ^ m + j)).isSome = true then 1 else 0) (b := 2 ^ (s - m)) (Nat.two_pow_pos _) (2 ^ m), Nat.mul_comm]
    · unfold f_X12_fooled_b67
      simp only [h2]
      have hcu := cu_lt (k := cx w l r) (show 2 ^ s + k < 1024 by omega)
      rw [if_pos ((on_lt (by omega) (by omega)).mpr (by omega)), M_hrb H hl hr, M_cl H hl hr]
      simp only [Option.bind_some, bi_f, hcx, decide_true, if_true, w_cut (show 2 ^ s + k < 1024 by omega) (show cx w l r < 2147483648 by omega), M_tk H hr hcu, tkI_neg hW, on_s]
      cases (tk w r (cu (2 ^ s + k) (cx w l r))).isSome <;> rfl
    · unfold f_X12_fooled_b67
      simp only [h2]
      rw [if_neg (lt_n (by omega))]
theorem q_fooled (I : Iv σ ρ t u w wi) (p q x : Int32) : Rq σ ρ w [(0, 1), (1, 2)] (f_X11_fooled (σ, ρ) 0 p q x) (fun S => f_X12_fooled S 105 p q x) := by
  have hH := (wv_H I.2.2.1).2
  have hW := (wv_W I.2.2.1).2
  rcases dic (nH w) p with ⟨r, hr, rfl⟩ | hp
  · rcases dic (nH w) q with ⟨l, hl, rfl⟩ | hq
    · by_cases hx : x < 1 ∨ 8 < x
      · refine Rq_t (k := 1) (b := 0) (c := 2) (σ1 := σ) ?_ ag_rf rfl (by decide) (fun σ' H => ?_)
        · unfold f_X11_fooled
          rw [c_nH0 I hr, thV_n, c_nH0 I hl, thV_n]
          by_cases a : x < 1
          · rw [if_pos a]
          · rw [if_neg a, if_pos (hx.resolve_left a)]
        · unfold f_X12_fooled
          simp only [M_nH0 H hr, M_nH0 H hl, Option.bind_some, th0, if_true, in_e]
          rw [if_pos hx]
          simp only [Option.bind_some, if_true, th1, i10, if_false, zz]
      · have x0 : ¬ x < 0 := fun z => hx (Or.inl (Int32.lt_trans z (by decide)))
        obtain ⟨s, hs, rfl⟩ := i_of x0
        have hs1 : 1 ≤ s := Nat.le_of_not_lt (fun z => hx (Or.inl ((on_lt (b := 1) hs (by decide)).mpr z)))
        have hs8 : s ≤ 8 := Nat.le_of_not_lt (fun z => hx (Or.inr ((on_lt (a := 8) (by decide) hs).mpr z)))
        have hc := cx_lt I.2.2.1 (i := l) (j := r)
        have hmn : f_J9_min_7cf53 (Int32.ofNat s) (Int32.ofNat (cx w l r)) = some (Int32.ofNat (min s (cx w l r))) := by
          unfold f_J9_min_7cf53
          by_cases c : cx w l r < s
          · rw [if_pos ((on_lt (by omega) (by omega)).mpr c), Nat.min_eq_right (by omega)]
          · rw [if_neg (fun z => c ((on_lt (by omega) (by omega)).mp z)), Nat.min_eq_left (by omega)]
        refine Rq_z (r := if cx w l r = 0 then 0 else Int32.ofNat (wl w r (min s (cx w l r)) * 2 ^ (s - min s (cx w l r)))) (σ1 := σ) ?_ ag_rf (fun σ' H => ?_)
        · unfold f_X11_fooled
          rw [c_nH0 I hr, thV_n, c_nH0 I hl, thV_n, if_neg (fun z => hx (Or.inl z)), if_neg (fun z => hx (Or.inr z))]
          simp only [c_now I, Option.bind_some, c_cl (Iv_t I) (show l < 2147483648 by omega) (show r < 2147483648 by omega), hmn, on_z (show min s (cx w l r) < 2147483648 by omega)]
          by_cases c0 : cx w l r = 0
          · rw [if_pos (by omega), if_pos c0]
          · rw [if_neg (by omega), if_neg c0, c_wl (Iv_t I) (by omega) (by omega) (by omega)]
            simp only [Option.bind_some]
            have hwl := ct_le (q := fun v => decide ((wx w r v).log2 = min s (cx w l r)) && decide (tk w r (wx w r v) = some v)) (nW w)
            have hwl2 : wl w r (min s (cx w l r)) ≤ nW w := hwl
            rw [on_sub (by omega), shl_s (by omega) (by omega)]
        · unfold f_X12_fooled
          simp only [M_nH0 H hr, M_nH0 H hl, Option.bind_some, th0, if_true, in_e]
          rw [if_neg hx]
          simp only [i10, if_false, Option.bind_some, th0, if_true]
          have h1 : (1 : Int32) <<< (Int32.ofNat s &&& 31) = Int32.ofNat (2 ^ s) := by
            rw [show (1 : Int32) = Int32.ofNat 1 from rfl, shl_s (by decide) (by omega)]; congr 1; omega
          rw [h1, M_fool H hr hl hs1 hs8, bnd]
    · refine Rq_t (k := 0) (b := 0) (c := 1) (σ1 := σ) ?_ ag_rf rfl (by decide) (fun σ' H => ?_)
      · unfold f_X11_fooled
        rw [c_nH0 I hr, thV_n, c_nH1 I hq, thV_x]
      · unfold f_X12_fooled
        simp only [M_nH0 H hr, M_nH1 H hq, Option.bind_some, if_true, th1, i10, if_false, zz]
  · refine Rq_t (k := 0) (b := 0) (c := 1) (σ1 := σ) ?_ ag_rf rfl (by decide) (fun σ' H => ?_)
    · unfold f_X11_fooled
      rw [c_nH1 I hp, thV_x]
    · unfold f_X12_fooled
      simp only [M_nH1 H hp, Option.bind_some, if_true, th1, i10, if_false, zz]
end FL
