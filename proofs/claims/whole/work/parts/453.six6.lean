section SC
variable {σ : sg} {ρ : rg} {t u : Nat} {w wi : wg}
theorem rd_starts {a b : Nat} (h : rh ρ a b) : am_rd ρ 105 21 1 = some 117 := rh_rd h (by decide) (by decide) (by decide +kernel)
theorem rd_place {a b : Nat} (h : rh ρ a b) : am_rd ρ 105 22 1 = some 118 := rh_rd h (by decide) (by decide) (by decide +kernel)
theorem ln_117 : am_ln 117 = 8 := by decide
theorem ln_118 : am_ln 118 = 8 := by decide
def msx (C : Nat → Nat) (τ : sg) (s : sxT) : Prop := ∀ h, h < 8 → (τ 117 h = -1 ∧ s.2.1 h = 0) ∨ (∃ st, st < 1000 ∧ τ 117 h = Int32.ofNat st ∧ s.2.1 h = st + C h)
theorem M_still (H : wS σ ρ w) {v : Nat} (hv : v < nW w) {s : sxT} (h : msx (co w v) σ s) {x mi : Nat} (hx : x < nH w) (hmi : mi < 1000) : f_X12_isStill (σ, ρ) 105 (Int32.ofNat x) (Int32.ofNat v) (Int32.ofNat mi) = some (bi (unh (hmb (hmN w)) s.2.1 mi x)) := by
  have hH := (wv_H H.2.2).2
  obtain ⟨a, b, hr⟩ := H.1
  have key := lp_andN (body := f_X12_isStill_b6 (σ, ρ) 105 (Int32.ofNat x) (Int32.ofNat v) (Int32.ofNat mi)) (fun o => !(hm w o x && decide (mi < s.2.1 o))) (nH w) true (fun k b hk => by
    unfold f_X12_isStill_b6
    simp only [M_houses H, bnd]
    rw [if_pos (lt_y hk (by omega)), bi_f]
    have hxw := wx_lt H.2.2 (a := k) (v := v)
    have hco := co_16 H.2.2 (v := v) k
    have hst : ((am_rd ρ 105 21 1).bind (fun q5 => ((am_ld σ q5 (Int32.ofNat k)).bind (fun v6 => (if v6 < 0 then some (1 : Int32) else ((am_rd ρ 105 21 1).bind (fun q8 => ((am_ld σ q8 (Int32.ofNat k)).bind (fun v9 => ((f_X12_wordOf (σ, ρ) 105 (Int32.ofNat k) (Int32.ofNat v)).bind (fun v10 => ((f_X12_costOf v10).bind (fun v11 => (if Int32.ofNat mi < (v9 + v11) then ((f_X12_isHarm (σ, ρ) 105 (Int32.ofNat k) (Int32.ofNat x)).bind (fun v13 => (if v13 = 0 then some (1 : Int32) else some (0 : Int32)))) else some (1 : Int32)))))))))))))) ) = some (bi (!(hm w k x && decide (mi < s.2.1 k)))) := by
      rw [rd_starts hr, bnd, ld_on (by rw [ln_117]; omega) (by omega), bnd]
      rcases h k (by omega) with ⟨h1, h2⟩ | ⟨st, h1, h2, h3⟩
      · rw [h1, if_pos (by decide), h2]
        simp [bi]
      · rw [h2, if_neg (on_neg (by omega)), bnd, ld_on (by rw [ln_117]; omega) (by omega), h2, bnd, M_wf H hk hv, bnd, (w_min (show wx w k v < 1024 by omega)).1, bnd, on_add]
        have e : mnN (wx w k v) = co w v k := rfl
        rw [e, ← h3]
        simp only [on_lt (show mi < 2147483648 by omega) (show s.2.1 k < 2147483648 by omega)]
        by_cases z : mi < s.2.1 k
        · rw [if_pos z, M_harm H hk hx, bnd, bi_f]
          cases hm w k x <;> simp [z, bi]
        · rw [if_neg z]; simp [z, bi]
    rw [hst]
    cases b with
    | false => simp only [if_neg (show ¬ false = true by decide), bnd, on_s]; rfl
    | true => rw [if_pos rfl, bnd, on_s]; rfl) (fun b => by
    unfold f_X12_isStill_b6
    simp only [M_houses H, bnd]
    rw [if_neg (lt_n (by omega))]) (by omega)
  have hun : unh (hmb (hmN w)) s.2.1 mi x = (true && allN (fun o => !(hm w o x && decide (mi < s.2.1 o))) (nH w)) := by
    rw [Bool.true_and, Bool.eq_iff_iff]
    unfold unh hmb hmN
    rw [allN_iff, allN_iff]
    constructor
    · intro g o ho
      have := g o (by omega)
      rw [bm_tb, decide_eq_true ho, Bool.true_and, hm_sym] at this
      exact this
    · intro g o ho
      rw [bm_tb]
      by_cases z : o < nH w
      · rw [decide_eq_true z, Bool.true_and, hm_sym]; exact g o z
      · rw [decide_eq_false z]; rfl
  unfold f_X12_isStill
  have key' : am_loop (f_X12_isStill_b6 (σ, ρ) 105 (Int32.ofNat x) (Int32.ofNat v) (Int32.ofNat mi)) am_fuel (1, 0) = _ := key
  rw [key', bnd, hun, if_pos bi_01]
theorem bsN_ext {key : Nat → Int32} {S n : Nat} (h : ∀ x, n ≤ x → S.testBit x = false) : ∀ j, bsN key S (n + j) = bsN key S n
  | 0 => rfl
  | j + 1 => by
    show bsG key S (n + j) (bsN key S (n + j)) = _
    unfold bsG
    rw [if_neg (by rw [h (n + j) (by omega)]; decide), bsN_ext h j]
theorem ob_n {b : Option Nat} (h : ∀ x, b = some x → x < 8) : (ob b < 0) ↔ b = none := by
  cases b with
  | none => exact ⟨fun _ => rfl, fun _ => by decide⟩
  | some x => exact ⟨fun q => absurd q (on_neg (by have := h x rfl; omega)), fun q => by cases q⟩
/-- the model's choice: by law -/
theorem M_bestL (H : wS σ ρ w) {v : Nat} (hv : v < nW w) {F : Nat → Nat → Int32 → Int32} (hF : ∀ (τ : sg) (h v : Nat) (mi : Int32), wS τ ρ w → h < nH w → v < nW w → ∃ τ', f_X12_turn (τ, ρ) 105 (Int32.ofNat h) (Int32.ofNat v) mi = some (F h v mi, τ') ∧ k16 τ τ') {S : Nat} {mi : Int32} (hS : S < 256) (hSH : ∀ x, S.testBit x = true → x < nH w) : ∃ τ, f_X12_turnOf (σ, ρ) 105 (Int32.ofNat S) (Int32.ofNat v) mi 0 = some (ob (bsN (fun x => F x v mi) S 8), τ) ∧ k16 σ τ := by
  have hH := (wv_H H.2.2).2
  have h8 : bsN (fun x => F x v mi) S 8 = bsN (fun x => F x v mi) S (nH w) := by
    have := bsN_ext (key := fun x => F x v mi) (S := S) (n := nH w) (fun x hx => by
      cases e : S.testBit x with
      | false => rfl
      | true => have := hSH x e; omega) (8 - nH w)
    rw [show nH w + (8 - nH w) = 8 by omega] at this
    exact this
  obtain ⟨d, d1, d2, d3⟩ := lp_rule (body := f_X12_turnOf_b6 (σ, ρ) 105 (Int32.ofNat S) (Int32.ofNat v) mi 0) (nH w) (fun k y => y.1 = ob (bsN (fun x => F x v mi) S k) ∧ y.2.1 = Int32.ofNat k ∧ k16 σ y.2.2) (fun (d : Int32 × sg) => d.1 = ob (bsN (fun x => F x v mi) S (nH w)) ∧ k16 σ d.2) (x := (-1, 0, σ)) ⟨rfl, rfl, fun _ _ => rfl⟩ (fun k y hk hy => by
    obtain ⟨bb, i, τ⟩ := y
    obtain ⟨y1, y2, y3⟩ := hy
    simp only at y1 y2 y3
    subst y1 y2
    have H' := wS_k16 H y3
    unfold f_X12_turnOf_b6
    simp only [M_houses H', bnd]
    by_cases e : k < nH w
    · left
      have hI := bsN_I (key := fun x => F x v mi) (S := S) k
      have hlt : ∀ x, bsN (fun x => F x v mi) S k = some x → x < 8 := fun x hx => by rw [hx] at hI; have := hI.1; omega
      rw [if_pos (lt_y e (by omega)), f_has (by omega) (by omega), bnd, bi_f]
      have hG : bsN (fun x => F x v mi) S (k + 1) = bsG (fun x => F x v mi) S k (bsN (fun x => F x v mi) S k) := rfl
      rw [hG]
      unfold bsG
      by_cases z : S.testBit k = true
      · rw [if_pos z, if_pos z]
        simp only [ob_n hlt]
        cases q : bsN (fun x => F x v mi) S k with
        | none =>
          simp only [if_true, bnd, i10, if_false, on_s]
          exact ⟨_, rfl, e, rfl, rfl, y3⟩
        | some x =>
          rw [q] at hI
          have hxH : x < nH w := by have := hI.1; omega
          simp only [reduceCtorEq, if_false, if_true]
          rw [show ob (some x) = Int32.ofNat x from rfl]
          obtain ⟨τ1, c1, c2⟩ := hF τ k v mi H' e hv
          obtain ⟨τ2, e1, e2⟩ := hF τ1 x v mi (wS_k16 H' c2) hxH hv
          rw [c1, bnd]
          simp only
          rw [e1, bnd]
          have kk : k16 σ τ2 := fun o ho => (e2 o ho).trans ((c2 o ho).trans (y3 o ho))
          by_cases y : F x v mi < F k v mi
          · simp only [y, if_true, bnd, i10, if_false, on_s]
            exact ⟨_, rfl, e, rfl, rfl, kk⟩
          · simp only [y, if_false, bnd, if_true, on_s]
            exact ⟨_, rfl, e, rfl, rfl, kk⟩
      · rw [if_neg z, if_neg z]
        simp only [bnd, on_s]
        exact ⟨_, rfl, e, rfl, rfl, y3⟩
    · right
      have : k = nH w := by omega
      subst this
      rw [if_neg (lt_n (by omega))]
      exact ⟨_, rfl, rfl, y3⟩) (by omega)
  unfold f_X12_turnOf
  rw [d1, bnd, h8, d2]
  exact ⟨d.2, rfl, d3⟩
def k67 (σ τ : sg) : Prop := ∀ o, o ≠ 116 → o ≠ 117 → τ o = σ o
theorem wS_k67 {τ : sg} (H : wS σ ρ w) (h : k67 σ τ) : wS τ ρ w := ⟨H.1, fun k hk => by rw [h 106 (by decide) (by decide)]; exact H.2.1 k hk, H.2.2⟩
/-- a minute of the model -/
theorem M_min {v : Nat} (hv : v < nW w) {p2 p3 : Int32} {key : Nat → Int32} {P : Nat → Int32} {mi : Nat} (hmi : mi < 1000) (hbest : ∀ (τ : sg) (S : Nat), wS τ ρ w → (∀ x, x < 8 → τ 118 x = P x) → S < 256 → sbs S (l0N w v) → ∃ τ', f_X12_turnOf (τ, ρ) 105 (Int32.ofNat S) (Int32.ofNat v) (Int32.ofNat mi) p2 = some (ob (bsN key S 8), τ') ∧ k16 τ τ') {S0 : sg} : ∀ k S s τ fu, ct S.testBit 8 = k → S < 256 → sbs S s.1 → pI (l0N w v) (co w v) mi s → msx (co w v) τ s → wS τ ρ w → (∀ x, x < 8 → τ 118 x = P x) → k < fu → ∃ τ', am_loop (f_X12_rings_b49 (S0, ρ) 105 (Int32.ofNat v) p2 p3 (Int32.ofNat mi)) fu (Int32.ofNat s.1, Int32.ofNat s.2.2.1, Int32.ofNat s.2.2.2, Int32.ofNat S, τ) = some (Int32.ofNat (prc (hmb (hmN w)) (co w v) key mi k S s).1, Int32.ofNat (prc (hmb (hmN w)) (co w v) key mi k S s).2.2.1, Int32.ofNat (prc (hmb (hmN w)) (co w v) key mi k S s).2.2.2, τ') ∧ msx (co w v) τ' (prc (hmb (hmN w)) (co w v) key mi k S s) ∧ k67 τ τ'
  | 0, S, s, τ, fu + 1, hk, hS, hg, hP, hm, H, hp, hf => by
    have : S = 0 := no_bits (fun i => by
      cases e : S.testBit i with
      | false => rfl
      | true => have := ct_up e (tb_lt (n := 8) hS e); omega)
    subst this
    rw [am_loop_s]
    unfold f_X12_rings_b49
    simp only
    rw [if_pos (by decide)]
    exact ⟨τ, rfl, hm, fun _ _ _ => rfl⟩
  | k + 1, S, s, τ, fu + 1, hk, hS, hg, hP, hm, H, hp, hf => by
    have hne : S ≠ 0 := fun z => by
      subst z
      have : ct (Nat.testBit 0) 8 = 0 := by decide
      omega
    cases e : bsN key S 8 with
    | none => exact absurd (bs_none hS e) hne
    | some h =>
      have q : bsP key S 8 h := by have := bsN_I (key := key) (S := S) 8; rw [e] at this; exact this
      have h8 := q.1
      have hc1 := rmb_c1 h8 q.2.1
      have hSL : sbs S (l0N w v) := sbs_tr hg hP.1
      obtain ⟨hhH, -⟩ := l0_H H.2.2 (hSL h q.2.1)
      have hL : prc (hmb (hmN w)) (co w v) key mi (k + 1) S s = prc (hmb (hmN w)) (co w v) key mi k (rmb S h) (sxS (hmb (hmN w)) (co w v) mi h s) := by
        show (match bsN key S 8 with | none => s | some h => prc (hmb (hmN w)) (co w v) key mi k (rmb S h) (sxS (hmb (hmN w)) (co w v) mi h s)) = _
        rw [e]
      rw [hL]
      have hP2 := (sxS_I (hm := hmb (hmN w)) h8 (co_16 H.2.2) (hg h q.2.1) hP).1
      have hov := hP.2.2.2.2
      have hCh := co_16 H.2.2 (v := v) h
      have hand : ∀ X, Int32.ofNat X &&& ((1 : Int32) <<< (Int32.ofNat h &&& 31) ^^^ (-1)) = Int32.ofNat (rmb X h) := fun X => by
        rw [shl1 (by omega), andy]; rfl
      have hbody : ∃ τ1, f_X12_rings_b49 (S0, ρ) 105 (Int32.ofNat v) p2 p3 (Int32.ofNat mi) (Int32.ofNat s.1, Int32.ofNat s.2.2.1, Int32.ofNat s.2.2.2, Int32.ofNat S, τ) = some (.inl (Int32.ofNat (sxS (hmb (hmN w)) (co w v) mi h s).1, Int32.ofNat (sxS (hmb (hmN w)) (co w v) mi h s).2.2.1, Int32.ofNat (sxS (hmb (hmN w)) (co w v) mi h s).2.2.2, Int32.ofNat (rmb S h), τ1)) ∧ msx (co w v) τ1 (sxS (hmb (hmN w)) (co w v) mi h s) ∧ k67 τ τ1 := by
        obtain ⟨τa, b1, b2⟩ := hbest τ S H hp hS hSL
        have Ha := wS_k16 H b2
        have hma : msx (co w v) τa s := fun x hx => by rw [b2 117 (by decide)]; exact hm x hx
        unfold f_X12_rings_b49
        simp only
        rw [if_neg (fun z => hne ((on_z (by omega)).mp z)), b1, bnd, e]
        simp only [show ob (some h) = Int32.ofNat h from rfl]
        rw [M_still Ha hv hma hhH hmi, bnd, bi_f, hand, hand]
        unfold sxS
        cases z : unh (hmb (hmN w)) s.2.1 mi h with
        | false =>
          simp only [if_neg (show ¬ false = true by decide)]
          exact ⟨τa, rfl, hma, fun o h1 _ => b2 o h1⟩
        | true =>
          rw [if_pos rfl, if_pos rfl]
          have hxw := wx_lt H.2.2 (a := h) (v := v)
          obtain ⟨a, b, hr⟩ := H.1
          have k1 : k67 τ (am_u2 τa 117 h (Int32.ofNat mi)) := fun o h1 h2 => by rw [u2_row h2, b2 o h1]
          rw [rd_starts hr, bnd, st_on (by rw [ln_117]; omega) (by omega), bnd, M_wf (wS_k67 H k1) hhH hv, bnd, (w_min (show wx w h v < 1024 by omega)).1, bnd, on_add, show mnN (wx w h v) = co w v h from rfl, max_s (by omega) (by omega), bnd, on_add]
          refine ⟨_, rfl, fun x hx => ?_, k1⟩
          by_cases y : x = h
          · subst y
            right
            refine ⟨mi, hmi, u2_eq, ?_⟩
            show up1 s.2.1 x (mi + co w v x) x = _
            rw [up1_eq]
          · rw [u2_nj y]
            show (_ ∧ up1 s.2.1 h (mi + co w v h) x = 0) ∨ (∃ st, st < 1000 ∧ _ ∧ up1 s.2.1 h (mi + co w v h) x = _)
            rw [up1_ne y]
            exact hma x hx
      obtain ⟨τ1, b1, b2, b3⟩ := hbody
      obtain ⟨τ', d1, d2, d3⟩ := M_min hv (p2 := p2) (p3 := p3) hmi hbest (S0 := S0) k (rmb S h) (sxS (hmb (hmN w)) (co w v) mi h s) τ1 fu (by omega) (rmb_lt hS) (sxS_1 hg) hP2 b2 (wS_k67 H b3) (fun x hx => by rw [b3 118 (by decide) (by decide)]; exact hp x hx) (by omega)
      rw [am_loop_s, b1]
      exact ⟨τ', d1, d2, fun o h1 h2 => (d3 o h1 h2).trans (b3 o h1 h2)⟩
end SC
