/-! quiet: a ringing on trial -/
theorem on_div {a b : Nat} (ha : a < 2147483648) (hb : b < 2147483648) : Int32.ofNat a / Int32.ofNat b = Int32.ofNat (a / b) := by
  rw [← Int32.toInt_inj, Int32.toInt_div_of_ne_right _ _ (on_m1 hb), on_int ha, on_int hb, on_int (Nat.lt_of_le_of_lt (Nat.div_le_self _ _) ha)]
  rfl
theorem on_mod {a b : Nat} (ha : a < 2147483648) (hb : b < 2147483648) : Int32.ofNat a - Int32.ofNat a / Int32.ofNat b * Int32.ofNat b = Int32.ofNat (a % b) := by
  rw [on_div ha hb, on_mul, on_sub (by rw [Nat.mul_comm]; exact Nat.mul_div_le a b)]
  congr 1
  have := Nat.div_add_mod a b
  rw [Nat.mul_comm] at this
  omega
def cpF (σ : sg) (a b n : Nat) : sg := fun o j => if o = b then (if j < n then σ a j else σ b j) else σ o j
theorem cpF_ne {σ : sg} {a b n o : Nat} (h : o ≠ b) : cpF σ a b n o = σ o := by funext j; unfold cpF; rw [if_neg h]
theorem cpF_lt {σ : sg} {a b n j : Nat} (h : j < n) : cpF σ a b n b j = σ a j := by unfold cpF; rw [if_pos rfl, if_pos h]
theorem cpF_ge {σ : sg} {a b n j : Nat} (h : ¬ j < n) : cpF σ a b n b j = σ b j := by unfold cpF; rw [if_pos rfl, if_neg h]
theorem cp0 {σ : sg} {a b n : Nat} (ha : n ≤ am_ln a) (hb : n ≤ am_ln b) (hn : n < 2147483648) {N : Int32} (hN : N = Int32.ofNat n) : am_cp σ a 0 b 0 N = some (cpF σ a b n) := by
  subst hN
  unfold am_cp
  have h0 : (0 : Int32).toNatClampNeg = 0 := rfl
  rw [on_cl hn, h0, if_neg]
  · congr 1
    funext o j
    unfold cpF va_cpy
    by_cases e : o = b
    · rw [if_pos e, if_pos e]
      by_cases q : j < n
      · rw [if_pos ⟨by omega, by omega⟩, if_pos q]; congr 1; omega
      · rw [if_neg (by omega), if_neg q]
    · rw [if_neg e, if_neg e]
  · rintro (z | z | z | z | z)
    · exact absurd z (by decide)
    · exact absurd z (by decide)
    · exact on_neg hn z
    · omega
    · omega
theorem c_cpR {σ : sg} {ρ : rg} {a b R Q : Nat} (hr : rh ρ a b) (hR : ro R) (hQ : ro Q) (hne : R ≠ Q) : ∃ τ, f_X6_copyFrom (σ, ρ) R Q = some τ ∧ τ R 0 = σ Q 0 ∧ (∀ i j, 1 ≤ i → i ≤ 4 → j < 12 → τ (R + i) j = σ (Q + i) j) ∧ (∀ o, o < R ∨ R + 4 < o → τ o = σ o) ∧ (∀ j, j ≠ 0 → τ R j = σ R j) := by
  have l1 := ln_o hR
  have l2 := ln_o hQ
  have d : Q + 6 < R ∨ R + 6 < Q := by rcases hR with rfl | rfl | rfl | rfl <;> rcases hQ with rfl | rfl | rfl | rfl <;> omega
  unfold f_X6_copyFrom
  simp only [rd_o hr hR (show 1 = 1 ∨ _ by decide), rd_o hr hR (show 2 = 1 ∨ _ by decide), rd_o hr hR (show 3 = 1 ∨ _ by decide), rd_o hr hR (show 4 = 1 ∨ _ by decide), rd_o hr hQ (show 1 = 1 ∨ _ by decide), rd_o hr hQ (show 2 = 1 ∨ _ by decide), rd_o hr hQ (show 3 = 1 ∨ _ by decide), rd_o hr hQ (show 4 = 1 ∨ _ by decide), Option.bind_some]
  rw [cp0 (N := 12) (n := 12) (by omega) (by omega) (by decide) rfl]
  simp only [Option.bind_some]
  rw [cp0 (N := 12) (n := 12) (by omega) (by omega) (by decide) rfl]
  simp only [Option.bind_some]
  rw [cp0 (N := 12) (n := 12) (by omega) (by omega) (by decide) rfl]
  simp only [Option.bind_some]
  rw [cp0 (N := 12) (n := 12) (by omega) (by omega) (by decide) rfl]
  refine ⟨_, rfl, ?_, fun i j h1 h2 h3 => ?_, fun o ho => ?_, fun j hj => ?_⟩
  · rw [cpF_ne (by omega), cpF_ne (by omega), cpF_ne (by omega), cpF_ne (by omega), u2_eq]
  · have e : i = 1 ∨ i = 2 ∨ i = 3 ∨ i = 4 := by omega
    rcases e with rfl | rfl | rfl | rfl
    · rw [cpF_ne (by omega), cpF_ne (by omega), cpF_ne (by omega), cpF_lt h3, u2_ne (by omega)]
    · rw [cpF_ne (by omega), cpF_ne (by omega), cpF_lt h3, cpF_ne (by omega), u2_ne (by omega)]
    · rw [cpF_ne (by omega), cpF_lt h3, cpF_ne (by omega), cpF_ne (by omega), u2_ne (by omega)]
    · rw [cpF_lt h3, cpF_ne (by omega), cpF_ne (by omega), cpF_ne (by omega), u2_ne (by omega)]
  · rw [cpF_ne (by omega), cpF_ne (by omega), cpF_ne (by omega), cpF_ne (by omega), u2_row (by omega)]
  · rw [cpF_ne (by omega), cpF_ne (by omega), cpF_ne (by omega), cpF_ne (by omega), u2_nj hj]
theorem c_fill {σ : sg} {ρ : rg} {a : Nat} {v : Int32} (hl : am_ln a < 1000) : ∃ τ, f_J7_fill_53178 (σ, ρ) a v = some τ ∧ (∀ j, j < am_ln a → τ a j = v) ∧ (∀ o, o ≠ a → τ o = σ o) := by
  obtain ⟨d, h1, h2⟩ := lp_rule (body := f_J7_fill_53178_b5 (σ, ρ) a v (Int32.ofNat (am_ln a))) (am_ln a)
    (fun k x => x.1 = Int32.ofNat k ∧ (∀ j, j < k → x.2 a j = v) ∧ (∀ o, o ≠ a → x.2 o = σ o))
    (fun d => (∀ j, j < am_ln a → d a j = v) ∧ (∀ o, o ≠ a → d o = σ o))
    (x := (0, σ)) ⟨rfl, fun j hj => absurd hj (by omega), fun _ _ => rfl⟩ (fun k x hk hx => by
      obtain ⟨i, τ⟩ := x
      obtain ⟨rfl, x1, x2⟩ := hx
      simp only at x1 x2
      unfold f_J7_fill_53178_b5
      by_cases e : k < am_ln a
      · left
        simp only [if_pos (lt_y e (show am_ln a < 2147483648 by omega))]
        rw [st_on e (by omega)]
        simp only [Option.bind_some, on_s]
        refine ⟨_, rfl, e, rfl, fun j hj => ?_, fun o ho => by show am_u2 τ a k v o = σ o; rw [u2_row ho, x2 o ho]⟩
        show am_u2 τ a k v a j = v
        by_cases q : j = k
        · subst q; exact u2_eq
        · rw [u2_nj q]; exact x1 j (by omega)
      · right
        have : k = am_ln a := by omega
        subst this
        simp only [if_neg (lt_n (show am_ln a < 2147483648 by omega))]
        exact ⟨_, rfl, x1, x2⟩) (by omega)
  unfold f_J7_fill_53178
  rw [h1]
  exact ⟨d, rfl, h2⟩
/-! worlds that differ in the minute of one ringing, and beyond all -/
def rqm (n : Nat) (w w' : wg) : Prop := rch w w' ∧ nR w' = nR w ∧ (∀ r, r < nR w → rH w' r = rH w r ∧ rX w' r = rX w r) ∧ (∀ r, r < nR w → r ≠ n → rM w' r = rM w r)
section RQM
variable {n : Nat} {w w' : wg}
theorem rqm_ar (h : rqm n w w') (hw : wv w) {r l : Nat} (hr : r < nR w) : ar w' r l = ar w r l := by
  unfold ar
  rw [rch_cx h.1 hw, (h.2.2.1 r hr).1, (h.2.2.1 r hr).2]
theorem rqm_mx (h : rqm n w w') (hw : wv w) {l fr ov : Nat} : mx w' n l fr ov = mx w n l fr ov := by
  unfold mx
  rw [h.2.1]
  refine anyN_cg (fun o ho => ?_)
  unfold mx1
  by_cases e : o = n
  · simp [e]
  · rw [rch_cx h.1 hw, (h.2.2.1 o ho).1, h.2.2.2 o ho e, rqm_ar h hw ho]
theorem rqm_um (h : rqm n w w') (hw : wv w) {l wh : Nat} : ∀ k ca mi, um w' n l wh k ca mi = um w n l wh k ca mi
  | 0, _, _ => rfl
  | k + 1, ca, mi => by unfold um; rw [rqm_mx h hw, rqm_um h hw k]
theorem rqm_hd (h : rqm n w w') (hw : wv w) (hn : n < nR w) {l mi : Nat} : hd w' n l mi = hd w n l mi := by
  unfold hd
  rw [rqm_ar h hw hn, rqm_um h hw]
end RQM
/-- a sum of truths -/
def ct (q : Nat → Bool) : Nat → Nat
  | 0 => 0
  | n + 1 => ct q n + (if q n then 1 else 0)
theorem ct_le {q : Nat → Bool} : ∀ n, ct q n ≤ n
  | 0 => by simp [ct]
  | n + 1 => by have := ct_le (q := q) n; unfold ct; split <;> omega
theorem sm_ct {q : Nat → Bool} : ∀ n, sm (fun k => bi (q k)) n = Int32.ofNat (ct q n)
  | 0 => rfl
  | n + 1 => by
    show sm (fun k => bi (q k)) n + bi (q n) = Int32.ofNat (ct q n + (if q n then 1 else 0))
    rw [sm_ct n]
    cases q n
    · exact Int32.add_zero _
    · exact on_s
/-- the first of the greatest -/
def bst (g : Nat → Nat) (k b : Nat) : Nat := if g b < g k then k else b
theorem bst_le {g : Nat → Nat} : ∀ n, fo (bst g) n 0 < n ∨ (n = 0 ∧ fo (bst g) n 0 = 0)
  | 0 => Or.inr ⟨rfl, rfl⟩
  | n + 1 => by
    left
    show bst g n (fo (bst g) n 0) < n + 1
    unfold bst
    split
    · omega
    · have := bst_le (g := g) n; unfold bst at this; omega
/-- the model's way: the best so far and how many -/
def bsm (g : Nat → Nat) (fr k : Nat) (x : Int32 × Int32) : Int32 × Int32 := (if x.2 < Int32.ofNat (g k) then Int32.ofNat (fr + k) else x.1, if x.2 < Int32.ofNat (g k) then Int32.ofNat (g k) else x.2)
theorem bsm_s {g : Nat → Nat} {fr : Nat} (hg : ∀ k, g k < 1000) : ∀ n, 0 < n → fo (bsm g fr) n (-1, -1) = (Int32.ofNat (fr + fo (bst g) n 0), Int32.ofNat (g (fo (bst g) n 0)))
  | 0, h => absurd h (by omega)
  | 1, _ => by
    show bsm g fr 0 (-1, -1) = _
    unfold bsm
    have : (-1 : Int32) < Int32.ofNat (g 0) := by
      have := hg 0
      rw [Int32.lt_iff_toInt_lt, on_int (by omega)]
      show (-1 : Int) < _
      omega
    simp only [if_pos this]
    show _ = (Int32.ofNat (fr + bst g 0 0), Int32.ofNat (g (bst g 0 0)))
    unfold bst
    simp
  | n + 2, _ => by
    have ih := bsm_s (g := g) (fr := fr) hg (n + 1) (by omega)
    show bsm g fr (n + 1) (fo (bsm g fr) (n + 1) (-1, -1)) = (Int32.ofNat (fr + bst g (n + 1) (fo (bst g) (n + 1) 0)), Int32.ofNat (g (bst g (n + 1) (fo (bst g) (n + 1) 0))))
    rw [ih]
    generalize fo (bst g) (n + 1) 0 = b
    have h1 := hg b
    have h2 := hg (n + 1)
    unfold bsm bst
    simp only [on_lt (show g b < 2147483648 by omega) (show g (n + 1) < 2147483648 by omega)]
    by_cases e : g b < g (n + 1) <;> simp [e]
section QT
variable {σ : sg} {ρ : rg} {t u : Nat} {w wi : wg}
theorem rd_trial {a b : Nat} (h : rh ρ a b) : am_rd ρ 0 7 106 = some 68 := rh_rd h (by decide) (by decide) (by decide +kernel)
theorem rd_rights {a b : Nat} (h : rh ρ a b) : am_rd ρ 0 8 1 = some 75 := rh_rd h (by decide) (by decide) (by decide +kernel)
/-- how many would take it rightly, begun at a minute -/
def qg (w : wg) (h v x n m : Nat) : Nat := ct (fun l => decide (tk w h (hd (rgA w 0 h v x) n l m) = some v)) (nH w)
theorem qg_lt {h v x n m : Nat} (hw : wv w) : qg w h v x n m < 1000 := by
  have := ct_le (q := fun l => decide (tk w h (hd (rgA w 0 h v x) n l m) = some v)) (nH w)
  have := (wv_H hw).2
  unfold qg
  omega
theorem rgA_r {m h v x : Nat} (hm : m < 1000) (hh : h < 8) (hv : v < 10) (hx : x < 512) (hw : wv w) : (∀ r, r < nR w → rM (rgA w m h v x) r = rM w r ∧ rH (rgA w m h v x) r = rH w r ∧ rV (rgA w m h v x) r = rV w r ∧ rX (rgA w m h v x) r = rX w r) ∧ rM (rgA w m h v x) (nR w) = m ∧ rH (rgA w m h v x) (nR w) = h ∧ rV (rgA w m h v x) (nR w) = v ∧ rX (rgA w m h v x) (nR w) = x := by
  obtain ⟨c1, c2, c3, c4, c5⟩ := rgA_c (w := w) (m := m) (h := h) (v := v) (x := x)
  refine ⟨fun r hr => ?_, ?_, ?_, ?_, ?_⟩
  · unfold rM rH rV rX
    rw [rgA_ne (by omega) (by omega), rgA_ne (by omega) (by omega), rgA_ne (by omega) (by omega), rgA_ne (by omega) (by omega)]
    exact ⟨rfl, rfl, rfl, rfl⟩
  · unfold rM; rw [c2, on_cl (by omega)]
  · unfold rH; rw [c3, on_cl (by omega)]
  · unfold rV; rw [c4, on_cl (by omega)]
  · unfold rX; rw [c5, on_cl (by omega)]
/-- rings as they are, as far as there are any -/
def rqe (w w' : wg) : Prop := rch w w' ∧ w' 4 = w 4 ∧ ∀ k, 138 ≤ k → k < 138 + 4 * nR w → w' k = w k
theorem rqe_R {w' : wg} (h : rqe w w') : nR w' = nR w := by unfold nR; rw [h.2.1]
theorem rqe_wv {w' : wg} (h : rqe w w') (hw : wv w) : wv w' := by
  refine (wv_rch hw h.1 (h.2.1.trans (wv_R hw).1) (wv_R hw).2 (fun r hr => ?_)).1
  rw [h.2.2 _ (by omega) (by omega), h.2.2 _ (by omega) (by omega), h.2.2 _ (by omega) (by omega), h.2.2 _ (by omega) (by omega)]
  exact wv_r hw hr
theorem rqe_A {w' : wg} (h : rqe w w') (hw : wv w) {m a v x : Nat} (hm : m < 1000) (ha : a < 8) (hv : v < 10) (hx : x < 512) (hn : nR w < 12) : rqm (nR w) (rgA w 0 a v x) (rgA w' m a v x) := by
  have e := rqe_R h
  obtain ⟨a1, a2, a3, a4, a5⟩ := rgA_r (m := m) hm ha hv hx (rqe_wv h hw)
  obtain ⟨b1, b2, b3, b4, b5⟩ := rgA_r (m := 0) (by decide) ha hv hx hw
  have n1 : nR (rgA w 0 a v x) = nR w + 1 := by unfold nR; rw [(rgA_c (w := w)).1]; show (Int32.ofNat (nR w + 1)).toNatClampNeg = _; rw [on_cl (by omega)]; rfl
  have n2 : nR (rgA w' m a v x) = nR w' + 1 := by unfold nR; rw [(rgA_c (w := w')).1]; show (Int32.ofNat (nR w' + 1)).toNatClampNeg = _; rw [on_cl (by omega)]; rfl
  have rr : ∀ r, r < nR w → rM w' r = rM w r ∧ rH w' r = rH w r ∧ rX w' r = rX w r := fun r hr => by
    unfold rM rH rX
    rw [h.2.2 _ (by omega) (by omega), h.2.2 _ (by omega) (by omega), h.2.2 _ (by omega) (by omega)]
    exact ⟨rfl, rfl, rfl⟩
  refine ⟨fun k h1 h2 => ?_, by rw [n1, n2, e], fun r hr => ?_, fun r hr hne => ?_⟩
  · rw [rgA_ne h1 (by omega), rgA_ne h1 (by omega)]; exact h.1 k h1 h2
  · rw [n1] at hr
    by_cases q : r = nR w
    · subst q
      rw [← e] at *
      rw [a3, a5]
      rw [e] at b3 b5 ⊢
      rw [b3, b5]
      exact ⟨rfl, rfl⟩
    · rw [(a1 r (by omega)).2.1, (a1 r (by omega)).2.2.2, (b1 r (by omega)).2.1, (b1 r (by omega)).2.2.2]
      exact (rr r (by omega)).2
  · rw [n1] at hr
    rw [(a1 r (by omega)).1, (b1 r (by omega)).1]
    exact (rr r (by omega)).1
end QT
