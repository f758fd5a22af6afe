section LT
variable {σ : sg} {ρ : rg} {t u : Nat} {w wi : wg}
theorem andx {a b : Nat} (h : sbs b a) : Int32.ofNat a &&& (Int32.ofNat b ^^^ -1) = Int32.ofNat (a ^^^ b) := by
  apply Int32.toBitVec.inj
  rw [Int32.toBitVec_and, Int32.toBitVec_xor, Int32.toBitVec_ofNat', Int32.toBitVec_ofNat', Int32.toBitVec_ofNat']
  have hm : (-1 : Int32).toBitVec = BitVec.allOnes 32 := by decide
  rw [hm, BitVec.xor_allOnes]
  apply BitVec.eq_of_getLsbD_eq
  intro k hk
  simp only [BitVec.getLsbD_and, BitVec.getLsbD_not, BitVec.getLsbD_ofNat, hk, decide_true, Bool.true_and, Nat.testBit_xor]
  have := h k
  cases ha : a.testBit k <;> cases hb : b.testBit k <;> simp_all
def pU (p : Int32) (n : Nat) : Nat := p.toBitVec.toNat % 2 ^ n
theorem pU_lt {p : Int32} {n : Nat} : pU p n < 2 ^ n := Nat.mod_lt _ (Nat.two_pow_pos n)
theorem p_on (p : Int32) : p = Int32.ofNat p.toBitVec.toNat := by
  apply Int32.toBitVec.inj
  rw [Int32.toBitVec_ofNat']
  simp
theorem pU_and {p : Int32} {n : Nat} (hn : n ≤ 10) : p &&& (((1 : Int32) <<< (Int32.ofNat n &&& 31)) - 1) = Int32.ofNat (pU p n) := by
  have h1 : (List.range 11).all (fun n => decide (((1 : Int32) <<< (Int32.ofNat n &&& 31)) - 1 = Int32.ofNat (2 ^ n - 1))) = true := by decide +kernel
  have h2 := List.all_eq_true.mp h1 n (List.mem_range.mpr (by omega))
  rw [of_decide_eq_true h2]
  conv => lhs; rw [p_on p]
  rw [on_and, Nat.and_two_pow_sub_one_eq_mod]
  rfl
theorem bv1 {X : BitVec 32} : X &&& 1#32 = 1#32 ↔ X.getLsbD 0 = true := by
  constructor
  · intro h
    have := congrArg (fun z => BitVec.getLsbD z 0) h
    simpa using this
  · intro h
    apply BitVec.eq_of_getLsbD_eq
    intro k hk
    rw [BitVec.getLsbD_and, BitVec.getLsbD_one]
    by_cases e : k = 0
    · subst e; simp [h]
    · simp [e]
theorem pU_bit {p : Int32} {n k : Nat} (hk : k < n) (hn : n ≤ 10) : (((p >>> (Int32.ofNat k &&& 31)) &&& 1) = 1) ↔ (pU p n).testBit k = true := by
  have h3 : (pU p n).testBit k = p.toBitVec.getLsbD k := by
    unfold pU
    rw [Nat.testBit_mod_two_pow, decide_eq_true hk, Bool.true_and]
    rfl
  have h1 : (List.range 10).all (fun k => decide (((Int32.ofNat k &&& 31).toBitVec.smod 32) = BitVec.ofNat 32 k) && decide ((BitVec.ofNat 32 k).toNat = k)) = true := by decide +kernel
  have h2 := List.all_eq_true.mp h1 k (List.mem_range.mpr (by omega))
  simp only [Bool.and_eq_true, decide_eq_true_eq] at h2
  rw [h3, ← Int32.toBitVec_inj, Int32.toBitVec_and, Int32.toBitVec_shiftRight, show (1 : Int32).toBitVec = 1#32 from rfl, bv1, h2.1]
  show (p.toBitVec.sshiftRight (BitVec.ofNat 32 k).toNat).getLsbD 0 = true ↔ _
  rw [h2.2, BitVec.getLsbD_sshiftRight]
  have : k + 0 < 32 := by omega
  rw [if_pos this]
  simp
theorem sbs_h {x m : Nat} (h : sbs x m) : sbs (x / 2) (m / 2) ∧ x % 2 ≤ m % 2 := by
  refine ⟨fun i q => ?_, ?_⟩
  · rw [← Nat.testBit_succ] at q ⊢; exact h _ q
  · have := h 0
    rw [Nat.testBit_zero, Nat.testBit_zero] at this
    simp only [decide_eq_true_eq] at this
    have := md2 x
    have := md2 m
    omega
theorem sm_next : ∀ x m s, sbs x m → sbs s m → s < x → s ≤ (x - 1) &&& m := by
  intro x
  induction x using Nat.strongRecOn with
  | _ x ih =>
    intro m s hx hs h
    obtain ⟨a1, a2⟩ := sbs_h hx
    obtain ⟨b1, b2⟩ := sbs_h hs
    obtain ⟨z, hz⟩ : ∃ z, z = (x - 1) &&& m := ⟨_, rfl⟩
    have z1 : z / 2 = (x - 1) / 2 &&& m / 2 := by rw [hz, Nat.and_div_two]
    rw [← hz]
    have := Nat.div_add_mod z 2
    have := Nat.div_add_mod s 2
    have := Nat.div_add_mod x 2
    rcases Nat.mod_two_eq_zero_or_one x with e | e
    · have h1 : (x - 1) / 2 = x / 2 - 1 := by omega
      have h2 := ih (x / 2) (by omega) (m / 2) (s / 2) a1 b1 (by omega)
      rw [h1] at z1
      have z2 : z % 2 = m % 2 := by
        have h3 : z.testBit 0 = ((x - 1).testBit 0 && m.testBit 0) := by rw [hz, Nat.testBit_and]
        rw [Nat.testBit_zero, Nat.testBit_zero, Nat.testBit_zero, show decide ((x - 1) % 2 = 1) = true from decide_eq_true (by omega), Bool.true_and] at h3
        have := md2 z
        have := md2 m
        by_cases q : m % 2 = 1
        · rw [decide_eq_true q] at h3; have := of_decide_eq_true h3; omega
        · rw [decide_eq_false q] at h3; have := of_decide_eq_false h3; omega
      omega
    · have h1 : (x - 1) / 2 = x / 2 := by omega
      rw [h1, sbs_and a1] at z1
      omega
theorem bc_n {m : Nat} (h : m < 1024) : f_J6_bitCount_0f7a4 (Int32.ofNat m) = some (Int32.ofNat (ct m.testBit 10)) ∧ ct m.testBit 10 ≤ 10 ∧ (ct m.testBit 10 < 2 ↔ (m - 1) &&& m = 0) := by
  have h1 : (List.range 1024).all (fun m => decide (f_J6_bitCount_0f7a4 (Int32.ofNat m) = some (Int32.ofNat (ct m.testBit 10))) && (decide (ct m.testBit 10 ≤ 10) && decide (ct m.testBit 10 < 2 ↔ (m - 1) &&& m = 0))) = true := by decide +kernel
  have h2 := List.all_eq_true.mp h1 m (List.mem_range.mpr h)
  simp only [Bool.and_eq_true, decide_eq_true_eq] at h2
  exact h2
theorem ct_10 {m n : Nat} (hm : m < 2 ^ n) (hn : n ≤ 10) : ct m.testBit 10 = ct m.testBit n := by
  have key : ∀ j, ct m.testBit (n + j) = ct m.testBit n := by
    intro j
    induction j with
    | zero => rfl
    | succ j ih =>
      show ct m.testBit (n + j + 1) = _
      rw [ct_s, ih, if_neg]
      · rfl
      · intro z; have := tb_lt hm z; omega
  have := key (10 - n)
  rw [show n + (10 - n) = 10 by omega] at this
  exact this
theorem wsm_le {c : Nat → Nat} {n m : Nat} (hc : ∀ i, i < n → c i ≤ 99) : wsm c n m ≤ 99 * ct m.testBit n := by
  have : ∀ k, k ≤ n → su (fun i => if m.testBit i = true then c i else 0) k ≤ 99 * ct m.testBit k := by
    intro k
    induction k with
    | zero => intro _; exact Nat.zero_le _
    | succ k ih =>
      intro hk
      have := ih (by omega)
      have := hc k (by omega)
      rw [ct_s]
      show su _ k + (if m.testBit k = true then c k else 0) ≤ _
      split <;> omega
  exact this n (Nat.le_refl _)
theorem min_j {a b : Nat} (ha : a < 2147483648) (hb : b < 2147483648) : f_J9_min_7cf53 (Int32.ofNat a) (Int32.ofNat b) = some (Int32.ofNat (if b < a then b else a)) := by
  unfold f_J9_min_7cf53
  simp only [on_lt hb ha]
  by_cases h : b < a <;> simp [h]
theorem rd_below {a b : Nat} (h : rh ρ a b) : am_rd ρ 105 16 1 = some 112 := rh_rd h (by decide) (by decide) (by decide +kernel)
theorem rd_all {a b : Nat} (h : rh ρ a b) : am_rd ρ 105 17 1 = some 113 := rh_rd h (by decide) (by decide) (by decide +kernel)
theorem ln_112 : am_ln 112 = 1024 := by decide
theorem ln_113 : am_ln 113 = 1024 := by decide
def kx (σ τ : sg) (o m : Nat) : Prop := ∀ a b, ¬ (a = o ∧ b = m) → τ a b = σ a b
theorem kx_u {τ : sg} {o m : Nat} {v : Int32} (h : kx σ τ o m) : kx σ (am_u2 τ o m v) o m := fun a b g => by
  rw [← h a b g]
  unfold am_u2
  rw [if_neg g]
theorem wS_kx {τ : sg} {o m : Nat} (H : wS σ ρ w) (h : kx σ τ o m) (ho : o ≠ 106) : wS τ ρ w := ⟨H.1, fun k hk => by rw [h 106 k (fun q => ho q.1.symm)]; exact H.2.1 k hk, H.2.2⟩
theorem M_sumW (H : wS σ ρ w) {m : Nat} (hm : m < 1024) (h0 : σ 113 m = 0) {a2 : Int32} : ∃ d, am_loop (f_X12_least_b56 (σ, ρ) 105 a2 (Int32.ofNat m)) am_fuel (0, σ) = some d ∧ kx σ d 113 m ∧ d 113 m = Int32.ofNat (wsm (ux w) (nW w) m) := by
  have hW := (wv_W H.2.2).2
  obtain ⟨a, b, hr⟩ := H.1
  exact lp_rule (nW w) (fun k y => y.1 = Int32.ofNat k ∧ kx σ y.2 113 m ∧ y.2 113 m = Int32.ofNat (su (fun i => if m.testBit i = true then ux w i else 0) k)) (fun d => kx σ d 113 m ∧ d 113 m = Int32.ofNat (wsm (ux w) (nW w) m)) (x := (0, σ)) ⟨rfl, fun _ _ _ => rfl, h0⟩ (fun k y hk hy => by
    obtain ⟨i, τ⟩ := y
    obtain ⟨rfl, y1, y2⟩ := hy
    simp only at y1 y2
    have H' := wS_kx H y1 (by decide)
    unfold f_X12_least_b56
    simp only [M_wants H', bnd]
    by_cases e : k < nW w
    · left
      rw [if_pos (lt_y e (by omega)), rd_all hr, bnd, ld_on (by rw [ln_113]; omega) (by omega), y2, f_has hm (by omega)]
      simp only [bnd, bi_f, M_ur H' (show k < 10 by omega), (ux_w H.2.2 e).1]
      have hv : (if m.testBit k = true then some (Int32.ofNat (ux w k)) else some 0) = some (Int32.ofNat (if m.testBit k = true then ux w k else 0)) := by
        cases m.testBit k <;> rfl
      rw [hv]
      simp only [bnd, on_add, on_s]
      rw [st_on (by rw [ln_113]; omega) (by omega)]
      exact ⟨_, rfl, e, rfl, kx_u y1, u2_eq⟩
    · right
      have : k = nW w := by omega
      subst this
      rw [if_neg (lt_n (by omega))]
      exact ⟨_, rfl, y1, y2⟩) (by omega)
theorem on_p {x : Nat} (h : 0 < x) : Int32.ofNat x - 1 = Int32.ofNat (x - 1) := on_sub (b := 1) h
theorem sb_and {x m : Nat} : sbs (x &&& m) m := fun i h => by rw [Nat.testBit_and, Bool.and_eq_true] at h; exact h.2
theorem M_sub (H : wS σ ρ w) {m : Nat} (hm : m < 1024) {A B : Nat → Nat} (hz : (m - 1) &&& m ≠ 0) (hv : ∀ x, 0 < x → x < m → sbs x m → σ 112 x = Int32.ofNat (B x) ∧ σ 113 x = Int32.ofNat (A x)) (hb : ∀ s, prp m s → cnd A B m s < 1000000) (h0 : σ 112 m = Int32.ofNat 1000000) {a2 : Int32} : ∃ d, am_loop (f_X12_least_b127 (σ, ρ) 105 a2 (Int32.ofNat m)) am_fuel ((Int32.ofNat m - 1) &&& Int32.ofNat m, σ) = some d ∧ kx σ d 112 m ∧ ∃ v, d 112 m = Int32.ofNat v ∧ mnQ (prp m) (cnd A B m) v := by
  obtain ⟨a, b, hr⟩ := H.1
  have m0 : 0 < m := by
    apply Nat.pos_of_ne_zero
    intro e
    subst e
    exact hz rfl
  have hlt : ∀ x, 0 < x → (x - 1) &&& m < x := fun x hx => by have : (x - 1) &&& m ≤ x - 1 := Nat.and_le_left; omega
  refine lp_mu (fun y => y.1.toNatClampNeg) (fun y => ∃ x v, y.1 = Int32.ofNat x ∧ x < m ∧ sbs x m ∧ kx σ y.2 112 m ∧ y.2 112 m = Int32.ofNat v ∧ v ≤ 1000000 ∧ ((v = 1000000 ∧ ∀ s, prp m s → ¬ x < s) ∨ mnQ (fun s => prp m s ∧ x < s) (cnd A B m) v)) (fun d => kx σ d 112 m ∧ ∃ v, d 112 m = Int32.ofNat v ∧ mnQ (prp m) (cnd A B m) v) (fun y hy => ?_) am_fuel _ ⟨(m - 1) &&& m, 1000000, ?_, hlt m m0, sb_and, fun _ _ _ => rfl, h0, Nat.le_refl _, Or.inl ⟨rfl, fun s hs g => ?_⟩⟩ ?_
  · obtain ⟨i, τ⟩ := y
    obtain ⟨x, v, y0, y1, y2, y3, y4, y5, y6⟩ := hy
    simp only at y0 y3 y4
    subst y0
    by_cases e : 0 < x
    · left
      have px : prp m x := ⟨by omega, by omega, y2⟩
      obtain ⟨p1, p2, p3, p4, p5⟩ := prp_lt px
      have v1 := hv x p1 p2 y2
      have v2 := hv _ p3 p4 p5
      have hbx := hb x px
      unfold f_X12_least_b127
      simp only
      rw [if_pos ((on_pos (by omega)).mpr e), andx y2]
      simp only [rd_below hr, rd_all hr, bnd]
      rw [ld_on (a := 112) (k := m) (by rw [ln_112]; omega) (by omega), ld_on (a := 112) (k := x) (by rw [ln_112]; omega) (by omega), ld_on (a := 112) (k := m ^^^ x) (by rw [ln_112]; omega) (by omega), ld_on (a := 113) (k := x) (by rw [ln_113]; omega) (by omega), ld_on (a := 113) (k := m ^^^ x) (by rw [ln_113]; omega) (by omega), y4, y3 112 x (by omega), y3 112 (m ^^^ x) (by omega), y3 113 x (by omega), y3 113 (m ^^^ x) (by omega), v1.1, v1.2, v2.1, v2.2]
      simp only [bnd]
      rw [show (2 : Int32) = Int32.ofNat 2 from rfl, on_add, on_add, on_mul, on_add, show B x + B (m ^^^ x) + A x + 2 * A (m ^^^ x) = cnd A B m x by unfold cnd; omega, min_j (by omega) (by omega)]
      simp only [bnd]
      rw [st_on (by rw [ln_112]; omega) (by omega), on_p e, on_and]
      refine ⟨_, rfl, ⟨(x - 1) &&& m, if cnd A B m x < v then cnd A B m x else v, rfl, by have := hlt x e; omega, sb_and, kx_u y3, u2_eq, by split <;> omega, Or.inr ?_⟩, ?_⟩
      · have hq : ∀ s, prp m s → (x - 1) &&& m < s → x < s ∨ s = x := fun s hs g => by
          apply Classical.byContradiction
          intro q
          have := sm_next x m s y2 hs.2.2 (by omega)
          omega
        have hx1 := hlt x e
        rcases y6 with ⟨c1, c2⟩ | ⟨⟨s, c1, c2⟩, c3⟩
        · subst c1
          rw [if_pos hbx]
          refine ⟨⟨x, ⟨px, hx1⟩, rfl⟩, fun s hs => ?_⟩
          rcases hq s hs.1 hs.2 with q | q
          · exact absurd q (c2 s hs.1)
          · rw [q]; exact Nat.le_refl _
        · by_cases q : cnd A B m x < v
          · rw [if_pos q]
            refine ⟨⟨x, ⟨px, hx1⟩, rfl⟩, fun s' hs => ?_⟩
            rcases hq s' hs.1 hs.2 with r | r
            · have := c3 s' ⟨hs.1, r⟩; omega
            · rw [r]; exact Nat.le_refl _
          · rw [if_neg q]
            refine ⟨⟨s, ⟨c1.1, by have := c1.2; omega⟩, c2⟩, fun s' hs => ?_⟩
            rcases hq s' hs.1 hs.2 with r | r
            · exact c3 s' ⟨hs.1, r⟩
            · rw [r]; omega
      · show (Int32.ofNat ((x - 1) &&& m)).toNatClampNeg < (Int32.ofNat x).toNatClampNeg
        have := hlt x e
        rw [on_cl (by omega), on_cl (by omega)]
        exact this
    · right
      have : x = 0 := by omega
      subst this
      unfold f_X12_least_b127
      simp only
      rw [if_neg (by decide)]
      refine ⟨_, rfl, y3, v, y4, ?_⟩
      rcases y6 with ⟨c1, c2⟩ | ⟨⟨s, c1, c2⟩, c3⟩
      · have := hlt m m0
        exact absurd (Nat.pos_of_ne_zero hz) (c2 _ ⟨hz, by omega, sb_and⟩)
      · exact ⟨⟨s, c1.1, c2⟩, fun s hs => c3 s ⟨hs, (prp_lt hs).1⟩⟩
  · show (Int32.ofNat m - 1) &&& Int32.ofNat m = _
    rw [on_p m0, on_and]
  · have := sm_next m m s sbs_rf hs.2.2 (prp_lt hs).2.1
    omega
  · show ((Int32.ofNat m - 1) &&& Int32.ofNat m).toNatClampNeg < am_fuel
    have := hlt m m0
    rw [on_p m0, on_and, on_cl (by omega)]
    exact Nat.lt_trans this (Nat.lt_trans hm (by decide))
end LT
