/-! an evening: what comes, what is mixed, what is taken -/
def rM (w : wg) (r : Nat) : Nat := (w (138 + 4 * r)).toNatClampNeg
def rH (w : wg) (r : Nat) : Nat := (w (139 + 4 * r)).toNatClampNeg
def rV (w : wg) (r : Nat) : Nat := (w (140 + 4 * r)).toNatClampNeg
def rX (w : wg) (r : Nat) : Nat := (w (141 + 4 * r)).toNatClampNeg
theorem wv_rr {w : wg} (h : wv w) {r : Nat} (hr : r < nR w) : w (138 + 4 * r) = Int32.ofNat (rM w r) ∧ rM w r < 1000 ∧ w (139 + 4 * r) = Int32.ofNat (rH w r) ∧ rH w r < nH w ∧ w (140 + 4 * r) = Int32.ofNat (rV w r) ∧ rV w r < nW w ∧ w (141 + 4 * r) = Int32.ofNat (rX w r) ∧ 2 ≤ rX w r ∧ rX w r < 512 := by
  obtain ⟨⟨a, h1, h2⟩, ⟨b, h3, h4⟩, ⟨c, h5, h6⟩, ⟨d, h7, h8, h9⟩⟩ := wv_r h hr
  have hH := (wv_H h).2
  have hW := (wv_W h).2
  unfold rM rH rV rX
  rw [h2, h4, h6, h9, on_cl (by omega), on_cl (by omega), on_cl (by omega), on_cl (by omega)]
  exact ⟨rfl, h1, rfl, h3, rfl, h5, rfl, h7, h8⟩
def ar (w : wg) (r h : Nat) : Nat := if 0 < cx w h (rH w r) then cu (rX w r) (cx w h (rH w r)) else 0
def mx1 (w : wg) (r h fr ov o : Nat) : Bool := !decide (o = r) && decide (0 < cx w h (rH w o)) && decide (rM w o < ov) && decide (fr < rM w o + mnN (ar w o h))
def mx (w : wg) (r h fr ov : Nat) : Bool := anyN (mx1 w r h fr ov) (nR w)
def um (w : wg) (r h wh : Nat) : Nat → Nat → Nat → Nat
  | 0, ca, _ => ca
  | k + 1, ca, mi => if mx w r h mi (mi + 1 + (wh >>> k) % 2) then ca else um w r h wh k (2 * ca + (wh >>> k) % 2) (mi + 1 + (wh >>> k) % 2)
def hd (w : wg) (r h mi : Nat) : Nat := if ar w r h = 0 then 0 else um w r h (ar w r h) (ar w r h).log2 1 mi
theorem um_lt {w : wg} {r h wh : Nat} : ∀ k ca mi, k ≤ 8 → ca < 2 ^ (9 - k) → um w r h wh k ca mi < 512
  | 0, ca, mi, _, h => h
  | k + 1, ca, mi, hk, h => by
    unfold um
    split
    · exact Nat.lt_of_lt_of_le h (show 2 ^ (9 - (k + 1)) ≤ 2 ^ 9 from Nat.pow_le_pow_right (by decide) (by omega))
    · refine um_lt k _ _ (by omega) ?_
      have h1 : 2 ^ (9 - k) = 2 * 2 ^ (9 - (k + 1)) := by rw [show 9 - k = (9 - (k + 1)) + 1 by omega, Nat.pow_succ]; omega
      omega
theorem log2_le8 {n : Nat} (h : n < 512) : n.log2 ≤ 8 := by
  by_cases h0 : n = 0
  · subst h0; decide
  · have := (Nat.log2_lt h0 (k := 9)).mpr h; omega
theorem ar_lt {w : wg} (hw : wv w) {r h : Nat} (hr : r < nR w) : ar w r h < 512 := by
  unfold ar
  split
  · exact Nat.lt_of_le_of_lt cu_le (wv_rr hw hr).2.2.2.2.2.2.2.2
  · decide
theorem hd_lt {w : wg} (hw : wv w) {r h mi : Nat} (hr : r < nR w) : hd w r h mi < 512 := by
  unfold hd
  split
  · decide
  · exact um_lt _ _ _ (log2_le8 (ar_lt hw hr)) (by
      have := log2_le8 (ar_lt hw hr (h := h))
      exact Nat.one_lt_two_pow (by omega))
theorem cu_ge {n k : Nat} (hn : 2 ≤ n) (hk : 0 < k) : 2 ≤ cu n k := by
  unfold cu
  have h1 : 1 ≤ n.log2 := (Nat.le_log2 (by omega)).mpr (by omega)
  rw [Nat.shiftRight_eq_div_pow, Nat.le_div_iff_mul_le (Nat.two_pow_pos _)]
  have h2 : 2 ^ n.log2 ≤ n := Nat.log2_self_le (by omega)
  have h3 : 2 * 2 ^ (n.log2 - k) ≤ 2 ^ n.log2 := by
    rw [Nat.mul_comm, ← Nat.pow_succ]
    exact Nat.pow_le_pow_right (by decide) (by omega)
  omega
theorem ar_0 {w : wg} (hw : wv w) {r h : Nat} (hr : r < nR w) : ar w r h = 0 ↔ ¬ 0 < cx w h (rH w r) := by
  unfold ar
  by_cases q : 0 < cx w h (rH w r)
  · rw [if_pos q]
    have := cu_ge (n := rX w r) (k := cx w h (rH w r)) (wv_rr hw hr).2.2.2.2.2.2.2.1 q
    constructor
    · intro e; omega
    · intro e; exact absurd q e
  · rw [if_neg q]; simp [q]
theorem sh1 {n k : Nat} (h : n < 1024) (hk : k < 11) : ((Int32.ofNat n) >>> ((Int32.ofNat k) &&& 31)) &&& 1 = Int32.ofNat ((n >>> k) % 2) := by
  rw [w_shr h hk]
  have h1 : (List.range 1024).all (fun m => decide ((Int32.ofNat m) &&& 1 = Int32.ofNat (m % 2))) = true := by decide +kernel
  have h2 : n >>> k < 1024 := by rw [Nat.shiftRight_eq_div_pow]; exact Nat.lt_of_le_of_lt (Nat.div_le_self _ _) h
  simpa using List.all_eq_true.mp h1 _ (List.mem_range.mpr h2)
def lf (k : Nat) : Int32 := Int32.ofNat k - 1
theorem lf_0 : lf 0 < 0 := by decide
theorem lf_s {k : Nat} : lf (k + 1) = Int32.ofNat k := by
  unfold lf
  rw [show (1 : Int32) = Int32.ofNat 1 from rfl, on_sub (by omega)]
  rfl
theorem lf_m {k : Nat} : Int32.ofNat k + (-1) = lf k := by unfold lf; rw [Int32.sub_eq_add_neg]
theorem md2 (n : Nat) : n % 2 < 2 := Nat.mod_lt _ (by decide)
/-! the model's -/
section MR
variable {σ : sg} {ρ : rg} {w : wg}
theorem M_sounds (H : wS σ ρ w) {r h : Nat} (hr : r < nR w) (hh : h < nH w) (hc : 0 < cx w h (rH w r)) : f_X12_soundsOf (σ, ρ) 105 (Int32.ofNat r) (Int32.ofNat h) = some (Int32.ofNat (mnN (ar w r h))) := by
  have hR := (wv_R H.2.2).2
  obtain ⟨e1, b1, e2, b2, e3, b3, e4, b4, b5⟩ := wv_rr H.2.2 hr
  have hc2 := cx_lt H.2.2 (i := h) (j := rH w r)
  unfold f_X12_soundsOf
  rw [M_ring3 H (by omega), M_ring1 H (by omega), e2, e4]
  simp only [Option.bind_some, M_cl H hh b2, w_cut (show rX w r < 1024 by omega) (show cx w h (rH w r) < 2147483648 by omega), (w_min (cu_lt (k := cx w h (rH w r)) (show rX w r < 1024 by omega))).1]
  unfold ar
  rw [if_pos hc]
theorem M_mix (H : wS σ ρ w) {r h fr mi : Nat} (hr : r < nR w) (hh : h < nH w) (hf : fr < 100000) (hm : mi < 1000) : f_X12_isMixed (σ, ρ) 105 (Int32.ofNat r) (Int32.ofNat h) (Int32.ofNat fr) (Int32.ofNat mi) = some (bi (mx w r h fr (fr + mi))) := by
  have hR := (wv_R H.2.2).2
  unfold f_X12_isMixed
  have := lp_orN (body := f_X12_isMixed_b6 (σ, ρ) 105 (Int32.ofNat r) (Int32.ofNat h) (Int32.ofNat fr) (Int32.ofNat mi)) (mx1 w r h fr (fr + mi)) (nR w) false (fun o b ho => ?_) (fun b => ?_) (by omega)
  · rw [show ((0 : Int32), (0 : Int32)) = (bi false, 0) from rfl, this, Bool.false_or]
    simp only [Option.bind_some]
    rw [if_pos bi_01]
    rfl
  · unfold f_X12_isMixed_b6
    obtain ⟨e1, b1, e2, b2, -⟩ := wv_rr H.2.2 ho
    have hn := (w_min (show ar w o h < 1024 by have := ar_lt H.2.2 (h := h) ho; omega)).2.2.1
    simp only [M_w H, M_rc H, Option.bind_some]
    rw [if_pos (lt_y ho (by omega)), M_ring1 H (by omega), M_ring0 H (by omega), e1, e2]
    simp only [Option.bind_some, M_hrb H hh b2, bi_f, on_s, on_inj (show o < 2147483648 by omega) (show r < 2147483648 by omega), on_add, on_lt (show rM w o < 2147483648 by omega) (show fr + mi < 2147483648 by omega)]
    cases b
    · by_cases a : o = r
      · simp [a, mx1, bi]
      · by_cases c : 0 < cx w h (rH w o)
        · rw [M_sounds H ho hh c]
          simp only [Option.bind_some, on_add, on_lt (show fr < 2147483648 by omega) (show rM w o + mnN (ar w o h) < 2147483648 by omega)]
          by_cases d : rM w o < fr + mi
          · by_cases e : fr < rM w o + mnN (ar w o h) <;> simp [a, c, d, e, mx1, bi]
          · simp [a, c, d, mx1, bi]
        · simp [a, c, mx1, bi]
    · simp [bi]
  · unfold f_X12_isMixed_b6
    simp only [M_w H, M_rc H, Option.bind_some]
    rw [if_neg (lt_n (by omega))]
theorem M_um (H : wS σ ρ w) {r h wh : Nat} (hr : r < nR w) (hh : h < nH w) (hw : wh < 512) : ∀ k fu ca mi, k < fu → k ≤ 8 → ca < 2 ^ (9 - k) → mi + 2 * k < 90000 → am_loop (f_X12_heardBy_b56 (σ, ρ) 105 (Int32.ofNat r) (Int32.ofNat h) (Int32.ofNat wh)) fu (Int32.ofNat mi, Int32.ofNat ca, lf k) = some (.inr (Int32.ofNat (um w r h wh k ca mi)))
  | 0, fu, ca, mi, hf, _, _, _ => by
    obtain ⟨fu, rfl⟩ : ∃ y, fu = y + 1 := ⟨fu - 1, by omega⟩
    rw [am_loop_s]
    unfold f_X12_heardBy_b56
    simp only [if_pos lf_0, Option.bind_some]
    rfl
  | k + 1, fu, ca, mi, hf, hk, hc, hm => by
    obtain ⟨fu, rfl⟩ : ∃ y, fu = y + 1 := ⟨fu - 1, by omega⟩
    have h2 := md2 (wh >>> k)
    have hst : f_X12_heardBy_b56 (σ, ρ) 105 (Int32.ofNat r) (Int32.ofNat h) (Int32.ofNat wh) (Int32.ofNat mi, Int32.ofNat ca, lf (k + 1)) = some (if mx w r h mi (mi + 1 + (wh >>> k) % 2) then .inr (.inr (Int32.ofNat ca)) else .inl (Int32.ofNat (mi + 1 + (wh >>> k) % 2), Int32.ofNat (2 * ca + (wh >>> k) % 2), lf k)) := by
      unfold f_X12_heardBy_b56
      simp only [lf_s, if_neg (on_neg (show k < 2147483648 by omega)), sh1 (show wh < 1024 by omega) (show k < 11 by omega), lf_m]
      simp only [show (1 : Int32) = Int32.ofNat 1 from rfl, show (2 : Int32) = Int32.ofNat 2 from rfl, on_add, on_mul]
      rw [M_mix H hr hh (show mi < 100000 by omega) (show 1 + (wh >>> k) % 2 < 1000 by omega)]
      simp only [Option.bind_some, bi_f, show mi + (1 + (wh >>> k) % 2) = mi + 1 + (wh >>> k) % 2 by omega]
      cases mx w r h mi (mi + 1 + (wh >>> k) % 2) <;> rfl
    rw [am_loop_s, hst]
    unfold um
    cases mx w r h mi (mi + 1 + (wh >>> k) % 2)
    · have h1 : 2 ^ (9 - k) = 2 * 2 ^ (9 - (k + 1)) := by rw [show 9 - k = (9 - (k + 1)) + 1 by omega, Nat.pow_succ]; omega
      exact M_um H hr hh hw k fu (2 * ca + (wh >>> k) % 2) (mi + 1 + (wh >>> k) % 2) (by omega) (by omega) (by omega) (by omega)
    · rfl
theorem M_heard (H : wS σ ρ w) {r h : Nat} (hr : r < nR w) (hh : h < nH w) : f_X12_heardBy (σ, ρ) 105 (Int32.ofNat r) (Int32.ofNat h) = some (Int32.ofNat (hd w r h (rM w r))) := by
  have hR := (wv_R H.2.2).2
  obtain ⟨e1, b1, e2, b2, e3, b3, e4, b4, b5⟩ := wv_rr H.2.2 hr
  have hc2 := cx_lt H.2.2 (i := h) (j := rH w r)
  unfold f_X12_heardBy hd
  rw [M_ring3 H (by omega), M_ring1 H (by omega), M_ring0 H (by omega), e1, e2, e4]
  simp only [Option.bind_some, M_hrb H hh b2, bi_f, M_cl H hh b2, w_cut (show rX w r < 1024 by omega) (show cx w h (rH w r) < 2147483648 by omega)]
  by_cases c : 0 < cx w h (rH w r)
  · have ha : cu (rX w r) (cx w h (rH w r)) = ar w r h := by unfold ar; rw [if_pos c]
    have hl := ar_lt H.2.2 (h := h) hr
    have hl8 := log2_le8 hl
    rw [ha, if_neg (fun z => ((ar_0 H.2.2 hr).mp z) c), (w_len (show ar w r h < 1024 by omega)).1]
    simp only [c, decide_true, if_true, Option.bind_some]
    have := M_um H hr hh hl (ar w r h).log2 am_fuel 1 (rM w r) (show _ < 1000000000000 by omega) hl8 (Nat.one_lt_two_pow (by omega)) (by omega)
    unfold lf at this
    rw [show (1 : Int32) = Int32.ofNat 1 from rfl] at this ⊢
    rw [this]
    rfl
  · rw [if_pos ((ar_0 H.2.2 hr).mpr c)]
    simp [c]
end MR
/-! the class's: a row of ringings, the town's own or the trial's -/
def ro (R : Nat) : Prop := R = 17 ∨ R = 39 ∨ R = 61 ∨ R = 68
def rS (σ : sg) (ρ : rg) (R : Nat) (w : wg) : Prop := (∃ a b, rh ρ a b) ∧ ro R ∧ σ R 0 = Int32.ofNat (nR w) ∧ (∀ r, r < nR w → σ (R + 1) r = w (138 + 4 * r) ∧ σ (R + 2) r = w (139 + 4 * r) ∧ σ (R + 3) r = w (140 + 4 * r) ∧ σ (R + 4) r = w (141 + 4 * r)) ∧ wv w
theorem rd_o {ρ : rg} {a b R : Nat} (h : rh ρ a b) (hR : ro R) {j : Nat} (hj : j = 1 ∨ j = 2 ∨ j = 3 ∨ j = 4 ∨ j = 5 ∨ j = 6) : am_rd ρ R j 1 = some (R + j) := by
  refine rh_rd h ?_ ?_ ?_
  · rcases hR with rfl | rfl | rfl | rfl <;> decide
  · rcases hR with rfl | rfl | rfl | rfl <;> rfl
  · rcases hR with rfl | rfl | rfl | rfl <;> rcases hj with rfl | rfl | rfl | rfl | rfl | rfl <;> decide +kernel
theorem ln_o {R : Nat} (hR : ro R) : am_ln (R + 1) = 12 ∧ am_ln (R + 2) = 12 ∧ am_ln (R + 3) = 12 ∧ am_ln (R + 4) = 12 ∧ am_ln (R + 5) = 12 ∧ am_ln (R + 6) = 12 := by
  rcases hR with rfl | rfl | rfl | rfl <;> decide
theorem es_o {R : Nat} (hR : ro R) : es_l.getD (R + 5) 0 = 0 ∧ es_l.getD (R + 6) 0 = 0 ∧ (es_l.getD R 0 = 4 ∨ es_l.getD R 0 = 0) ∧ R < 122 ∧ 122 ≠ R ∧ 122 ≠ R + 5 ∧ 122 ≠ R + 6 := by
  rcases hR with rfl | rfl | rfl | rfl <;> decide
/-- only the two rows of listening, and the two sums, are others -/
def lq (R : Nat) (σ τ : sg) : Prop := ∀ o j, o ≠ R + 5 → o ≠ R + 6 → ¬ (o = R ∧ (j = 7 ∨ j = 8)) → τ o j = σ o j
theorem lq_ag {R : Nat} (hR : ro R) {σ τ : sg} (h : lq R σ τ) : ag σ τ := fun o j e => by
  obtain ⟨h1, h2, h3, -⟩ := es_o hR
  refine h o j ?_ ?_ ?_
  · rintro rfl; rw [es_0 h1] at e; cases e
  · rintro rfl; rw [es_0 h2] at e; cases e
  · rintro ⟨rfl, z⟩
    unfold es at e
    rcases h3 with h3 | h3 <;> rw [h3] at e <;> rcases z with rfl | rfl <;> cases e
theorem lq_tr {R : Nat} {σ τ υ : sg} (h : lq R σ τ) (g : lq R τ υ) : lq R σ υ := fun o j a b c => (g o j a b c).trans (h o j a b c)
theorem lq_rf {R : Nat} {σ : sg} : lq R σ σ := fun _ _ _ _ _ => rfl
theorem lq_rS {R : Nat} {σ τ : sg} {ρ : rg} {w : wg} (H : rS σ ρ R w) (h : lq R σ τ) : rS τ ρ R w := by
  obtain ⟨h1, h2, h3, h4, h5⟩ := H
  have q : ∀ j o, (o = R + 1 ∨ o = R + 2 ∨ o = R + 3 ∨ o = R + 4) → τ o j = σ o j := fun j o ho => h o j (by omega) (by omega) (by omega)
  refine ⟨h1, h2, by rw [h R 0 (by omega) (by omega) (by omega)]; exact h3, fun r hr => ?_, h5⟩
  rw [q r (R + 1) (by omega), q r (R + 2) (by omega), q r (R + 3) (by omega), q r (R + 4) (by omega)]
  exact h4 r hr
/-- the same houses, wants and ways; other ringings -/
def rch (w w' : wg) : Prop := ∀ k, k ≠ 4 → (k < 138 ∨ 186 ≤ k) → w' k = w k
section RC
variable {w w' : wg}
theorem rch_rf : rch w w := fun _ _ _ => rfl
theorem rch_H (h : rch w w') : nH w' = nH w := by unfold nH; rw [h 0 (by decide) (by decide)]
theorem rch_W (h : rch w w') : nW w' = nW w := by unfold nW; rw [h 1 (by decide) (by decide)]
theorem rch_wd (h : rch w w') {a v : Nat} (ha : a < 8) (hv : v < 10) : wd w' a v = wd w a v := by unfold wd; rw [h _ (by omega) (by omega)]
theorem rch_wx (h : rch w w') (hw : wv w) {a v : Nat} : wx w' a v = wx w a v := by
  unfold wx
  rw [rch_H h, rch_W h]
  by_cases q : a < nH w ∧ v < nW w
  · rw [if_pos q, if_pos q, rch_wd h (by have := (wv_H hw).2; omega) (by have := (wv_W hw).2; omega)]
  · rw [if_neg q, if_neg q]
theorem rch_far (h : rch w w') {i j : Nat} (hi : i < 8) (hj : j < 8) : far w' i j = far w i j := by
  unfold far
  rw [h 6 (by decide) (by decide), h 7 (by decide) (by decide), h _ (show 8 + 15 * j ≠ 4 by omega) (by omega), h _ (show 8 + 15 * i ≠ 4 by omega) (by omega), h _ (show 9 + 15 * j ≠ 4 by omega) (by omega), h _ (show 9 + 15 * i ≠ 4 by omega) (by omega)]
theorem rch_clr (h : rch w w') {i j : Nat} (hi : i < 8) (hj : j < 8) : clr w' i j = clr w i j := by
  unfold clr hr
  rw [rch_far h hi hj, h _ (show 12 + 15 * i ≠ 4 by omega) (by omega), h _ (show 10 + 15 * j ≠ 4 by omega) (by omega)]
theorem rch_cx (h : rch w w') (hw : wv w) {i j : Nat} : cx w' i j = cx w i j := by
  unfold cx
  rw [rch_H h]
  by_cases q : i < nH w ∧ j < nH w
  · have := (wv_H hw).2
    rw [if_pos q, if_pos q]
    unfold cl
    rw [rch_clr h (by omega) (by omega)]
  · rw [if_neg q, if_neg q]
theorem rch_tk (h : rch w w') (hw : wv w) {a n : Nat} : tk w' a n = tk w a n := by
  unfold tk
  rw [rch_W h]
  simp only [rch_wx h hw]
end RC
section CR
variable {σ : sg} {ρ : rg} {t R : Nat} {w w' : wg}
def ovr (w : wg) (r h : Nat) : Int32 := if 0 < cx w h (rH w r) then Int32.ofNat (rM w r + mnN (ar w r h)) else -1
theorem c_listen (H : tS σ ρ t w) (hc : rch w w') (G : rS σ ρ R w') {h : Nat} (hh : h < nH w) : ∃ τ, f_X6_listenAt (σ, ρ) R t (Int32.ofNat h) = some τ ∧ lq R σ τ ∧ τ 122 = σ 122 ∧ (∀ r, r < nR w' → τ (R + 5) r = Int32.ofNat (ar w' r h) ∧ τ (R + 6) r = ovr w' r h) ∧ τ R = σ R := by
  have hH := (wv_H H.2.2.2).2
  have hR := (wv_R G.2.2.2.2).2
  obtain ⟨a, b, hr⟩ := G.1
  have hl := ln_o G.2.1
  have hes := es_o G.2.1
  obtain ⟨d, h1, h2⟩ := lp_rule (body := f_X6_listenAt_b2 (σ, ρ) R t (Int32.ofNat h)) (nR w')
    (fun k x => x.1 = Int32.ofNat k ∧ (∀ o, o ≠ R + 5 → o ≠ R + 6 → x.2 o = σ o) ∧ (∀ r, r < k → x.2 (R + 5) r = Int32.ofNat (ar w' r h) ∧ x.2 (R + 6) r = ovr w' r h))
    (fun d => (∀ o, o ≠ R + 5 → o ≠ R + 6 → d o = σ o) ∧ (∀ r, r < nR w' → d (R + 5) r = Int32.ofNat (ar w' r h) ∧ d (R + 6) r = ovr w' r h))
    (x := (0, σ)) ⟨rfl, fun _ _ _ => rfl, fun r hr => absurd hr (by omega)⟩ (fun k x hk hx => by
      obtain ⟨i, τ⟩ := x
      obtain ⟨rfl, x1, x2⟩ := hx
      simp only at x1 x2
      have hlq : lq R σ τ := fun o j p q _ => by rw [x1 o p q]
      have H' := tS_ag H (lq_ag G.2.1 hlq)
      have G' := lq_rS G hlq
      by_cases e : k < nR w'
      · left
        obtain ⟨e1, b1, e2, b2, e3, b3, e4, b4, b5⟩ := wv_rr G.2.2.2.2 e
        have hb2 : rH w' k < nH w := by rw [← rch_H hc]; exact b2
        have hcx := cx_lt H.2.2.2 (i := h) (j := rH w' k)
        have g := G'.2.2.2.1 k e
        unfold f_X6_listenAt_b2
        simp only [G'.2.2.1, rd_o hr G.2.1 (show 1 = 1 ∨ _ by decide), rd_o hr G.2.1 (show 2 = 1 ∨ _ by decide), rd_o hr G.2.1 (show 4 = 1 ∨ _ by decide), rd_o hr G.2.1 (show 5 = 1 ∨ _ by decide), rd_o hr G.2.1 (show 6 = 1 ∨ _ by decide), Option.bind_some]
        rw [if_pos (lt_y e (by omega)), if_pos (show Int32.ofNat k < 12 from (on_lt (b := 12) (by omega) (by decide)).mpr (by omega)), ld_on (a := R + 2) (k := k) (by omega) (by omega), g.2.1, e2]
        simp only [Option.bind_some]
        rw [c_cl H' (by omega) (by omega)]
        simp only [Option.bind_some, cx_pos H.2.2.2]
        rw [ld_on (a := R + 4) (k := k) (by omega) (by omega), g.2.2.2, e4]
        simp only [Option.bind_some, w_cutTo (show rX w' k < 1024 by omega) (show cx w h (rH w' k) < 2147483648 by omega)]
        have ha : (if 0 < cx w h (rH w' k) then some (Int32.ofNat (cu (rX w' k) (cx w h (rH w' k)))) else some 0) = some (Int32.ofNat (ar w' k h)) := by
          unfold ar
          rw [rch_cx hc H.2.2.2]
          by_cases q : 0 < cx w h (rH w' k) <;> simp [q]
        rw [ha]
        simp only [Option.bind_some]
        rw [st_on (a := R + 5) (k := k) (by omega) (by omega)]
        simp only [Option.bind_some]
        rw [ld_on (a := R + 1) (k := k) (by omega) (by omega), ld_on (a := R + 5) (k := k) (by omega) (by omega), u2_ne (show R + 1 ≠ R + 5 by omega), g.1, e1, u2_eq]
        have hal := ar_lt G.2.2.2.2 (h := h) e
        simp only [Option.bind_some, (w_min (show ar w' k h < 1024 by omega)).2.1, on_add]
        have ho : (if 0 < cx w h (rH w' k) then some (Int32.ofNat (rM w' k + mnN (ar w' k h))) else some (-1)) = some (ovr w' k h) := by
          unfold ovr
          rw [rch_cx hc H.2.2.2]
          by_cases q : 0 < cx w h (rH w' k) <;> simp [q]
        rw [ho]
        simp only [Option.bind_some]
        rw [st_on (a := R + 6) (k := k) (by omega) (by omega)]
        simp only [Option.bind_some, on_s]
        refine ⟨_, rfl, e, rfl, fun o p q => ?_, fun r hr => ?_⟩
        · show am_u2 (am_u2 τ (R + 5) k _) (R + 6) k _ o = σ o
          rw [u2_row q, u2_row p, x1 o p q]
        · show am_u2 (am_u2 τ (R + 5) k _) (R + 6) k _ (R + 5) r = _ ∧ am_u2 (am_u2 τ (R + 5) k _) (R + 6) k _ (R + 6) r = _
          rw [u2_ne (show R + 5 ≠ R + 6 by omega)]
          by_cases er : r = k
          · subst er; exact ⟨u2_eq, u2_eq⟩
          · rw [u2_nj er, u2_nj er, u2_ne (show R + 6 ≠ R + 5 by omega)]
            exact x2 r (by omega)
      · right
        have : k = nR w' := by omega
        subst this
        unfold f_X6_listenAt_b2
        simp only [G'.2.2.1]
        rw [if_neg (lt_n (by omega))]
        exact ⟨_, rfl, x1, x2⟩) (by omega)
  unfold f_X6_listenAt
  rw [h1]
  refine ⟨d, rfl, fun o j p q _ => by rw [h2.1 o p q], h2.1 122 hes.2.2.2.2.2.1 hes.2.2.2.2.2.2, h2.2, h2.1 R (by omega) (by omega)⟩
theorem c_hasR (G : rS σ ρ R w') {r : Nat} (hr : r < nR w') : f_X6_hasRinging (σ, ρ) R (Int32.ofNat r) = some 1 := by
  have hR := (wv_R G.2.2.2.2).2
  unfold f_X6_hasRinging
  simp only [G.2.2.1]
  rw [if_neg (on_neg (by omega)), if_pos (lt_y hr (by omega)), if_pos (show Int32.ofNat r < 12 from (on_lt (b := 12) (by omega) (by decide)).mpr (by omega))]
theorem c_mix (G : rS σ ρ R w') {r h fr ov : Nat} (hr : r < nR w') (hf : fr < 100000) (ho : ov < 100000) (hL : ∀ r, r < nR w' → σ (R + 6) r = ovr w' r h) : f_X6_isMixed (σ, ρ) R (Int32.ofNat r) (Int32.ofNat fr) (Int32.ofNat ov) = some (bi (mx w' r h fr ov)) := by
  have hR := (wv_R G.2.2.2.2).2
  obtain ⟨a, b, hrr⟩ := G.1
  have hl := ln_o G.2.1
  unfold f_X6_isMixed
  rw [lp_ff (x := 0) (δ := Unit ⊕ Int32) (fun k => Int32.ofNat k) (mx1 w' r h fr ov) (fun _ => .inr 1) (.inr 0) (nR w') rfl (fun o ho2 => ?_) (fun _ => ?_) (by omega)]
  · unfold mx
    rw [← ff_any]
    cases ff (mx1 w' r h fr ov) 0 (nR w') <;> rfl
  · obtain ⟨e1, b1, e2, b2, -⟩ := wv_rr G.2.2.2.2 ho2
    have hn := (w_min (show ar w' o h < 1024 by have := ar_lt G.2.2.2.2 (h := h) ho2; omega)).2.2.1
    unfold f_X6_isMixed_b3
    simp only [G.2.2.1, rd_o hrr G.2.1 (show 1 = 1 ∨ _ by decide), rd_o hrr G.2.1 (show 6 = 1 ∨ _ by decide), Option.bind_some]
    rw [if_pos (lt_y ho2 (by omega)), if_pos (show Int32.ofNat o < 12 from (on_lt (b := 12) (by omega) (by decide)).mpr (by omega)), ld_on (a := R + 1) (k := o) (by omega) (by omega), ld_on (a := R + 6) (k := o) (by omega) (by omega), (G.2.2.2.1 o ho2).1, e1, hL o ho2]
    simp only [Option.bind_some, on_s, on_inj (show o < 2147483648 by omega) (show r < 2147483648 by omega), on_lt (show rM w' o < 2147483648 by omega) (show ov < 2147483648 by omega)]
    by_cases a : o = r
    · simp [a, mx1]
    · rw [if_neg a]
      unfold ovr
      by_cases c : 0 < cx w' h (rH w' o)
      · rw [if_pos c]
        simp only [on_lt (show fr < 2147483648 by omega) (show rM w' o + mnN (ar w' o h) < 2147483648 by omega)]
        by_cases d : rM w' o < ov
        · by_cases e : fr < rM w' o + mnN (ar w' o h) <;> simp [a, c, d, e, mx1]
        · simp [a, d, mx1]
      · rw [if_neg c]
        have hx : ¬ Int32.ofNat fr < -1 := by
          rw [Int32.lt_iff_toInt_lt, on_int (by omega)]
          show ¬ (fr : Int) < -1
          omega
        rw [if_neg hx]
        by_cases d : rM w' o < ov <;> simp [a, c, d, mx1]
  · unfold f_X6_isMixed_b3
    simp only [G.2.2.1]
    rw [if_neg (lt_n (by omega))]
theorem c_um (G : rS σ ρ R w') {r h wh : Nat} (hr : r < nR w') (hw : wh < 512) (hL : ∀ r, r < nR w' → σ (R + 6) r = ovr w' r h) : ∀ k fu ca mi, k < fu → k ≤ 8 → ca < 2 ^ (9 - k) → mi + 2 * k < 90000 → am_loop (f_X6_unmixed_b39 (σ, ρ) R (Int32.ofNat r) (Int32.ofNat wh)) fu (Int32.ofNat ca, Int32.ofNat mi, lf k) = some (Int32.ofNat (um w' r h wh k ca mi))
  | 0, fu, ca, mi, hf, _, _, _ => by
    obtain ⟨fu, rfl⟩ : ∃ y, fu = y + 1 := ⟨fu - 1, by omega⟩
    rw [am_loop_s]
    unfold f_X6_unmixed_b39
    simp only [if_pos lf_0, Option.bind_some]
    rfl
  | k + 1, fu, ca, mi, hf, hk, hc, hm => by
    obtain ⟨fu, rfl⟩ : ∃ y, fu = y + 1 := ⟨fu - 1, by omega⟩
    have h2 := md2 (wh >>> k)
    have hst : f_X6_unmixed_b39 (σ, ρ) R (Int32.ofNat r) (Int32.ofNat wh) (Int32.ofNat ca, Int32.ofNat mi, lf (k + 1)) = some (if mx w' r h mi (mi + 1 + (wh >>> k) % 2) then .inr (Int32.ofNat ca) else .inl (Int32.ofNat (2 * ca + (wh >>> k) % 2), Int32.ofNat (mi + 1 + (wh >>> k) % 2), lf k)) := by
      unfold f_X6_unmixed_b39
      simp only [lf_s, if_neg (on_neg (show k < 2147483648 by omega)), sh1 (show wh < 1024 by omega) (show k < 11 by omega), lf_m]
      simp only [show (1 : Int32) = Int32.ofNat 1 from rfl, show (2 : Int32) = Int32.ofNat 2 from rfl, on_add, on_mul]
      rw [c_mix G hr (show mi < 100000 by omega) (show mi + 1 + (wh >>> k) % 2 < 100000 by omega) hL]
      simp only [Option.bind_some, bi_f, show ca * 2 = 2 * ca by omega]
      cases mx w' r h mi (mi + 1 + (wh >>> k) % 2) <;> rfl
    rw [am_loop_s, hst]
    unfold um
    cases mx w' r h mi (mi + 1 + (wh >>> k) % 2)
    · have h1 : 2 ^ (9 - k) = 2 * 2 ^ (9 - (k + 1)) := by rw [show 9 - k = (9 - (k + 1)) + 1 by omega, Nat.pow_succ]; omega
      exact c_um G hr hw hL k fu (2 * ca + (wh >>> k) % 2) (mi + 1 + (wh >>> k) % 2) (by omega) (by omega) (by omega) (by omega)
    · rfl
theorem c_unm (G : rS σ ρ R w') {r h mi : Nat} (hr : r < nR w') (hm : mi < 2000) (hL : ∀ r, r < nR w' → σ (R + 5) r = Int32.ofNat (ar w' r h) ∧ σ (R + 6) r = ovr w' r h) : f_X6_unmixed (σ, ρ) R (Int32.ofNat r) (Int32.ofNat mi) = some (Int32.ofNat (hd w' r h mi)) := by
  have hR := (wv_R G.2.2.2.2).2
  obtain ⟨a, b, hrr⟩ := G.1
  have hl := ln_o G.2.1
  have hal := ar_lt G.2.2.2.2 (h := h) hr
  unfold f_X6_unmixed hd
  rw [c_hasR G hr]
  simp only [Option.bind_some, i10, if_false, rd_o hrr G.2.1 (show 5 = 1 ∨ _ by decide)]
  rw [ld_on (a := R + 5) (k := r) (by omega) (by omega), (hL r hr).1]
  simp only [Option.bind_some, on_z (show ar w' r h < 2147483648 by omega)]
  by_cases e : ar w' r h = 0
  · simp [e]
  · rw [if_neg e, if_neg e, (w_len (show ar w' r h < 1024 by omega)).2]
    simp only [Option.bind_some]
    have hl8 := log2_le8 hal
    have := c_um G hr hal (fun r hr => (hL r hr).2) (ar w' r h).log2 am_fuel 1 mi (show _ < 1000000000000 by omega) hl8 (Nat.one_lt_two_pow (by omega)) (by omega)
    unfold lf at this
    rw [show (1 : Int32) = Int32.ofNat 1 from rfl] at this ⊢
    rw [this]
    rfl
theorem c_came (H : tS σ ρ t w) (hc : rch w w') (G : rS σ ρ R w') {r h : Nat} (hr : r < nR w') (hh : h < nH w) : ∃ τ, f_X6_cameTo (σ, ρ) R t (Int32.ofNat r) (Int32.ofNat h) = some (Int32.ofNat (hd w' r h (rM w' r)), τ) ∧ lq R σ τ ∧ τ 122 = σ 122 ∧ τ R = σ R := by
  have hR := (wv_R G.2.2.2.2).2
  obtain ⟨a, b, hrr⟩ := G.1
  have hl := ln_o G.2.1
  obtain ⟨τ, h1, h2, h3, h4, h5⟩ := c_listen H hc G hh
  have G' := lq_rS G h2
  obtain ⟨e1, b1, -⟩ := wv_rr G.2.2.2.2 hr
  refine ⟨τ, ?_, h2, h3, h5⟩
  unfold f_X6_cameTo
  rw [h1]
  simp only [Option.bind_some, c_hasR G' hr, i10, if_false, rd_o hrr G.2.1 (show 1 = 1 ∨ _ by decide)]
  rw [ld_on (a := R + 1) (k := r) (by omega) (by omega), (G'.2.2.2.1 r hr).1, e1]
  simp only [Option.bind_some, c_unm G' hr (show rM w' r < 2000 by omega) h4]
theorem c_taken (H : tS σ ρ t w) (hc : rch w w') (G : rS σ ρ R w') {r h : Nat} (hr : r < nR w') (hh : h < nH w) : ∃ τ, f_X6_takenAt (σ, ρ) R t (Int32.ofNat r) (Int32.ofNat h) = some (tkI w (rH w' r) (hd w' r h (rM w' r)), τ) ∧ lq R σ τ ∧ τ 122 = σ 122 ∧ τ R = σ R := by
  have hH := (wv_H H.2.2.2).2
  have hR := (wv_R G.2.2.2.2).2
  obtain ⟨a, b, hrr⟩ := G.1
  have hl := ln_o G.2.1
  obtain ⟨τ, h1, h2, h3, h5⟩ := c_came H hc G hr hh
  obtain ⟨e1, b1, e2, b2, -⟩ := wv_rr G.2.2.2.2 hr
  rw [rch_H hc] at b2
  refine ⟨τ, ?_, h2, h3, h5⟩
  unfold f_X6_takenAt
  rw [c_hasR G hr]
  simp only [Option.bind_some, i10, if_false, rd_o hrr G.2.1 (show 2 = 1 ∨ _ by decide)]
  rw [ld_on (a := R + 2) (k := r) (by omega) (by omega), (G.2.2.2.1 r hr).2.1, e2, h1]
  simp only [Option.bind_some]
  rw [c_tk (tS_ag H (lq_ag G.2.1 h2)) (by omega) (by have := hd_lt G.2.2.2.2 (h := h) (mi := rM w' r) hr; omega)]
  rfl
end CR
