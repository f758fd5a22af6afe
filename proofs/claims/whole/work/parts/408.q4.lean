section Q4
variable {σ : sg} {ρ : rg} {t u : Nat} {w wi : wg}
theorem ite_some {p : Prop} {α : Type} [Decidable p] {x y : α} : (if p then some x else some y) = some (if p then x else y) := by by_cases h : p <;> simp [h]
theorem on_m1 {k : Nat} (hk : k < 2147483648) : Int32.ofNat k ≠ -1 := by
  intro e
  have h6 := congrArg Int32.toInt e
  rw [on_int hk] at h6
  have h7 : (-1 : Int32).toInt = -1 := rfl
  rw [h7] at h6
  omega
theorem q_sale (I : Iv σ ρ t u w wi) (p q x : Int32) : Rq σ ρ w [(0, 1), (1, 2)] (f_X11_sale (σ, ρ) 0 p q x) (fun S => f_X12_sale S 105 p q x) := by
  have hH := (wv_H I.2.2.1).2
  have hW := (wv_W I.2.2.1).2
  rcases dic (nW w) p with ⟨v, hv, rfl⟩ | hp
  · rcases wdic q with ⟨n, h1, h2, rfl, h3⟩ | hq
    · obtain ⟨b1, b2, b3, -, -⟩ := sa_3 (g := fun h => wo w h v n) (n := nH w) (by omega) (nH w) (by omega)
      have b4 := sa_12 (g := fun h => wo w h v n) (nH w)
      generalize hX : fo (sa1 (fun h => wo w h v n)) (nH w) (-1, 0, 0) = X at b1 b2 b3 b4
      refine Rq_z (r := if x = 0 ∨ X.1 = -1 then X.1 else X.2.2) (σ1 := σ) ?_ ag_rf (fun σ' H => ?_)
      · unfold f_X11_sale
        rw [c_nW0 I hv, thV_n, c_nd0 h3, thV_n]
        have hl : am_loop (f_X11_sale_b22 (σ, ρ) 0 (Int32.ofNat v) (Int32.ofNat n) x) am_fuel (-1, 0, 0, 0) = some (X.1, X.2.2) := by
          rw [← hX]
          refine lp_fo (fun (a : Int32 × Int32 × Int32) k => (a.1, a.2.1, a.2.2, Int32.ofNat k)) (sa1 (fun h => wo w h v n)) (nH w) (-1, 0, 0) rfl (fun k a hk => ?_) ?_ (by omega)
          · unfold f_X11_sale_b22
            simp only [c_now I, Option.bind_some, c_H (Iv_t I)]
            rw [if_pos (lt_y hk (by omega)), c_worth I (by omega) (by omega) (by omega)]
            simp only [Option.bind_some, on_s]
            unfold sa1
            by_cases c : a.2.1 < wo w k v n
            · rw [if_pos c]; simp [c]
            · by_cases d : a.2.2 < wo w k v n
              · rw [if_neg c, if_pos d]; simp [c, d]
              · rw [if_neg c, if_neg d]; simp [c, d]
          · unfold f_X11_sale_b22
            simp only [c_now I, Option.bind_some, c_H (Iv_t I)]
            rw [if_neg (lt_n (by omega))]
        rw [hl]
        simp only [Option.bind_some]
        by_cases c : x = 0
        · simp [c]
        · by_cases d : X.1 = -1 <;> simp [c, d]
      · unfold f_X12_sale
        simp only [M_nW0 H hv, Option.bind_some, th0, if_true, in_e]
        rw [if_neg h3]
        simp only [i10, if_false, Option.bind_some, th0, if_true]
        have hl : am_loop (f_X12_sale_b53 (am_u2 σ' 105 0 0, ρ) 105 (Int32.ofNat v) (Int32.ofNat n) x) am_fuel (-1, 0, 0) = some X.1 := by
          refine lp_fo (fun (a : Int32 × Int32) k => (a.1, a.2, Int32.ofNat k)) (sa2 (fun h => wo w h v n)) (nH w) (-1, 0) rfl (fun k a hk => ?_) ?_ (by omega)
          · unfold f_X12_sale_b53
            simp only [M_houses H, Option.bind_some]
            rw [if_pos (lt_y hk (by omega)), M_worth H hk hv (by omega)]
            simp only [Option.bind_some, on_s, ite_some, i_max]
            rfl
          · unfold f_X12_sale_b53
            simp only [M_houses H, Option.bind_some]
            rw [if_neg (lt_n (by omega)), ← b4]
        have hl2 : am_loop (f_X12_sale_b109 (am_u2 σ' 105 0 0, ρ) 105 (Int32.ofNat v) (Int32.ofNat n) x X.1) am_fuel (0, 0) = some X.2.2 := by
          rw [← b3]
          refine lp_fo (fun (a : Int32) k => (a, Int32.ofNat k)) (sa3 (fun h => wo w h v n) X.1) (nH w) 0 rfl (fun k a hk => ?_) ?_ (by omega)
          · unfold f_X12_sale_b109
            simp only [M_houses H, Option.bind_some]
            rw [if_pos (lt_y hk (by omega)), M_worth H hk hv (by omega)]
            simp only [Option.bind_some, on_s, ite_some, i_max]
            rfl
          · unfold f_X12_sale_b109
            simp only [M_houses H, Option.bind_some]
            rw [if_neg (lt_n (by omega))]
        simp only [hl, hl2, Option.bind_some]
        rcases b1 with b1 | ⟨b, hb, b1⟩
        · rw [b1, if_pos (by decide)]; simp
        · rw [b1, if_neg (on_neg (by omega))]
          by_cases c : x = 0
          · simp [c]
          · simp [c, on_m1 (show b < 2147483648 by omega)]
    · refine Rq_t (k := 1) (b := 0) (c := 2) (σ1 := σ) ?_ ag_rf rfl (by decide) (fun σ' H => ?_)
      · unfold f_X11_sale
        rw [c_nW0 I hv, thV_n, c_nd1 hq, thV_x]
      · unfold f_X12_sale
        simp only [M_nW0 H hv, Option.bind_some, th0, if_true, in_e]
        rw [if_pos hq]
        simp only [Option.bind_some, if_true, th1, i10, if_false, zz]
  · refine Rq_t (k := 0) (b := 0) (c := 1) (σ1 := σ) ?_ ag_rf rfl (by decide) (fun σ' H => ?_)
    · unfold f_X11_sale
      rw [c_nW1 I hp, thV_x]
    · unfold f_X12_sale
      simp only [M_nW1 H hp, Option.bind_some, th1, i10, if_false, zz]
/-! what is taken -/
def tk (w : wg) (h n : Nat) : Option Nat := if 2 ≤ n then ff (fun v => decide (wx w h v = n)) 0 (nW w) else none
def tkI (w : wg) (h n : Nat) : Int32 := fd Int32.ofNat (-1) (tk w h n)
theorem c_tk (H : tS σ ρ t w) {h n : Nat} (hh : h < 2147483648) (hn : n < 1024) : f_X9_takenFor (σ, ρ) t (Int32.ofNat h) (Int32.ofNat n) = some (tkI w h n) := by
  have hW := (wv_W H.2.2.2).2
  unfold f_X9_takenFor
  by_cases q : 2 ≤ n
  · rw [lp_ff (x := 0) (δ := Unit ⊕ Int32) (fun k => Int32.ofNat k) (fun v => decide (wx w h v = n)) (fun v => .inr (Int32.ofNat v)) (.inr (-1)) (nW w) rfl (fun k hk => ?_) (fun _ => ?_) (by omega)]
    · unfold tkI tk
      rw [if_pos q]
      cases ff (fun v => decide (wx w h v = n)) 0 (nW w) <;> rfl
    · unfold f_X9_takenFor_b2
      have hx := wx_lt H.2.2.2 (a := h) (v := k)
      simp only [c_W H]
      rw [if_pos (lt_y hk (by omega)), if_neg (fun z => by have := (on_lt (b := 2) (by omega) (by decide)).mp z; omega), c_wf H hh (by omega)]
      simp only [Option.bind_some, on_s, zw_eq (show wx w h k < 2147483648 by omega) (show n < 2147483648 by omega) (show 0 < n by omega)]
      by_cases e : wx w h k = n <;> simp [e]
    · unfold f_X9_takenFor_b2
      simp only [c_W H]
      rw [if_neg (lt_n (by omega))]
  · have h1 : am_loop (f_X9_takenFor_b2 (σ, ρ) t (Int32.ofNat h) (Int32.ofNat n)) am_fuel 0 = some (.inr (-1)) := by
      show am_loop _ (999999999999 + 1) _ = _
      rw [am_loop_s]
      unfold f_X9_takenFor_b2
      simp only [c_W H]
      by_cases z : (0 : Int32) < Int32.ofNat (nW w)
      · rw [if_pos z, if_pos (show Int32.ofNat n < 2 from (on_lt (b := 2) (by omega) (by decide)).mpr (by omega))]; rfl
      · rw [if_neg z]; rfl
    rw [h1]
    unfold tkI tk
    rw [if_neg q]
    rfl
theorem M_tk (H : wS σ ρ w) {h n : Nat} (hh : h < nH w) (hn : n < 1024) : f_X12_wantOf (σ, ρ) 105 (Int32.ofNat h) (Int32.ofNat n) = some (tkI w h n) := by
  have hW := (wv_W H.2.2).2
  unfold f_X12_wantOf
  rw [lp_ff (x := 0) (δ := Unit ⊕ Int32) (fun k => Int32.ofNat k) (fun v => decide (2 ≤ n) && decide (wx w h v = n)) (fun v => .inr (Int32.ofNat v)) (.inr (-1)) (nW w) rfl (fun k hk => ?_) (fun _ => ?_) (by omega)]
  · unfold tkI tk
    by_cases q : 2 ≤ n
    · rw [if_pos q, ff_cg (r := fun v => decide (wx w h v = n)) (fun j _ _ => by simp [q])]
      cases ff (fun v => decide (wx w h v = n)) 0 (nW w) <;> rfl
    · rw [if_neg q, ff_none.mpr (fun j _ _ => by simp [q])]; rfl
  · unfold f_X12_wantOf_b2
    have hx := wx_lt H.2.2 (a := h) (v := k)
    simp only [M_wants H, Option.bind_some]
    rw [if_pos (lt_y hk (by omega)), M_wf H hh hk]
    simp only [Option.bind_some, on_s, on_inj (show wx w h k < 2147483648 by omega) (show n < 2147483648 by omega)]
    by_cases q : 2 ≤ n
    · rw [if_pos (show (1 : Int32) < Int32.ofNat n from (on_lt (a := 1) (by decide) (by omega)).mpr (by omega))]
      by_cases e : wx w h k = n <;> simp [e, q]
    · rw [if_neg (fun z => by have := (on_lt (a := 1) (by decide) (by omega)).mp z; omega)]
      simp [q]
  · unfold f_X12_wantOf_b2
    simp only [M_wants H, Option.bind_some]
    rw [if_neg (lt_n (by omega))]
theorem tkI_eq {h n v : Nat} (hv : v < nW w) (hW : nW w ≤ 10) : (tkI w h n = Int32.ofNat v) ↔ tk w h n = some v := by
  unfold tkI
  cases e : tk w h n with
  | none =>
    simp only [fd]
    constructor
    · intro z; exact absurd z.symm (on_m1 (by omega))
    · intro z; cases z
  | some j =>
    have hj : j < nW w := by
      unfold tk at e
      split at e
      · have := ff_some.mp e; omega
      · cases e
    simp only [fd, on_inj (show j < 2147483648 by omega) (show v < 2147483648 by omega), Option.some.injEq]
/-! understood -/
def und (w : wg) (g h : Nat) : Int32 := sm (fun v => bi (decide (0 < cx w g h) && decide (wx w h v ≠ 0) && decide (tk w h (cu (wx w h v) (cx w g h)) = some v))) (nW w)
theorem c_und (H : tS σ ρ t w) {g h : Nat} (hg : g < 2147483648) (hh : h < 2147483648) : f_X9_understoodAt (σ, ρ) t (Int32.ofNat g) (Int32.ofNat h) = some (und w g h) := by
  have hW := (wv_W H.2.2.2).2
  unfold f_X9_understoodAt
  rw [c_cl H hg hh]
  simp only [Option.bind_some]
  by_cases z : 0 < cx w g h
  · rw [lp_sum (fun v => bi (decide (0 < cx w g h) && decide (wx w h v ≠ 0) && decide (tk w h (cu (wx w h v) (cx w g h)) = some v))) (nW w) 0 (fun k a hk => ?_) (fun a => ?_) (by omega)]
    · simp only [Option.bind_some, Int32.zero_add, und]
    · unfold f_X9_understoodAt_b13
      have hx := wx_lt H.2.2.2 (a := h) (v := k)
      have hc := cx_lt H.2.2.2 (i := g) (j := h)
      simp only [c_W H]
      rw [if_pos (lt_y hk (by omega)), if_pos ((cx_pos H.2.2.2).mpr z), c_wf H hh (by omega)]
      simp only [Option.bind_some, on_s, zw_m (show wx w h k < 2147483648 by omega)]
      by_cases e : wx w h k = 0
      · rw [if_pos e]; simp [e, bi]
      · rw [if_neg e, zw_p e, w_cutTo (by omega) (by omega)]
        simp only [Option.bind_some]
        rw [c_tk H hh (cu_lt (by omega))]
        simp only [Option.bind_some, tkI_eq hk hW]
        by_cases f : tk w h (cu (wx w h k) (cx w g h)) = some k <;> simp [e, f, z, bi]
    · unfold f_X9_understoodAt_b13
      simp only [c_W H]
      rw [if_neg (lt_n (by omega))]
  · have h1 : am_loop (f_X9_understoodAt_b13 (σ, ρ) t (Int32.ofNat h) (Int32.ofNat (cx w g h))) am_fuel (0, 0) = some 0 := by
      show am_loop _ (999999999999 + 1) _ = _
      rw [am_loop_s]
      unfold f_X9_understoodAt_b13
      simp only [c_W H]
      by_cases y : (0 : Int32) < Int32.ofNat (nW w)
      · rw [if_pos y, if_neg (fun q => z ((cx_pos H.2.2.2).mp q))]; rfl
      · rw [if_neg y]; rfl
    rw [h1, und, sm_0 (fun k hk => by simp [z, bi])]
    rfl
theorem q_understood (I : Iv σ ρ t u w wi) (p : Int32) : Rq σ ρ w [(0, 1)] (f_X11_understood (σ, ρ) 0 p) (fun S => f_X12_understood S 105 p) := by
  have hH := (wv_H I.2.2.1).2
  have hW := (wv_W I.2.2.1).2
  rcases dic (nH w) p with ⟨h, hh, rfl⟩ | hp
  · refine Rq_z (r := sm (fun g => und w g h) (nH w)) (σ1 := σ) ?_ ag_rf (fun σ' H => ?_)
    · unfold f_X11_understood
      rw [c_nH0 I hh, thV_n, lp_sum (fun g => und w g h) (nH w) 0 (fun k a hk => ?_) (fun a => ?_) (by omega)]
      · simp only [Option.bind_some, Int32.zero_add]
      · unfold f_X11_understood_b9
        simp only [c_now I, Option.bind_some, c_H (Iv_t I)]
        rw [if_pos (lt_y hk (by omega)), c_und (Iv_t I) (by omega) (by omega)]
        simp only [Option.bind_some, on_s]
      · unfold f_X11_understood_b9
        simp only [c_now I, Option.bind_some, c_H (Iv_t I)]
        rw [if_neg (lt_n (by omega))]
    · unfold f_X12_understood
      simp only [M_nH0 H hh, Option.bind_some, th0, if_true]
      rw [lp_sum (fun g => und w g h) (nH w) 0 (fun g a hg => ?_) (fun a => ?_) (by omega)]
      · simp only [Option.bind_some, Int32.zero_add]
      · unfold f_X12_understood_b24
        simp only [M_houses H, Option.bind_some]
        rw [if_pos (lt_y hg (by omega)), lp_sum (fun v => bi (decide (0 < cx w g h) && decide (wx w h v ≠ 0) && decide (tk w h (cu (wx w h v) (cx w g h)) = some v))) (nW w) a (fun k a hk => ?_) (fun a => ?_) (by omega)]
        · simp only [Option.bind_some, on_s, und]
        · unfold f_X12_understood_b35
          have hx := wx_lt H.2.2 (a := h) (v := k)
          have hc := cx_lt H.2.2 (i := g) (j := h)
          simp only [M_wants H, Option.bind_some]
          rw [if_pos (lt_y hk (by omega)), M_wf H hh hk, M_hrb H hg hh, M_cl H hg hh]
          simp only [Option.bind_some, on_s, on_pos (show wx w h k < 2147483648 by omega), bi_f, w_cut (show wx w h k < 1024 by omega) (show cx w g h < 2147483648 by omega), M_tk H hh (cu_lt (show wx w h k < 1024 by omega)), tkI_eq hk hW]
          by_cases e : wx w h k = 0
          · simp [e, bi]
          · rw [if_pos (by omega)]
            by_cases z : 0 < cx w g h
            · by_cases f : tk w h (cu (wx w h k) (cx w g h)) = some k <;> simp [e, f, z, bi]
            · simp [z, bi]
        · unfold f_X12_understood_b35
          simp only [M_wants H, Option.bind_some]
          rw [if_neg (lt_n (by omega))]
      · unfold f_X12_understood_b24
        simp only [M_houses H, Option.bind_some]
        rw [if_neg (lt_n (by omega))]
  · refine Rq_t (k := 0) (b := 0) (c := 1) (σ1 := σ) ?_ ag_rf rfl (by decide) (fun σ' H => ?_)
    · unfold f_X11_understood
      rw [c_nH1 I hp, thV_x]
    · unfold f_X12_understood
      simp only [M_nH1 H hp, Option.bind_some, th1, i10, if_false, zz]
end Q4
