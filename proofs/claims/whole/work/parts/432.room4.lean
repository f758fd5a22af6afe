section RM3
variable {σ : sg} {ρ : rg} {t u : Nat} {w wi : wg}
theorem fre_bad (hw : wv w) {h x : Nat} : fre (wx w h) x = !bad w h 10 x := by
  have hW := (wv_W hw).2
  unfold bad
  rw [Bool.eq_iff_iff, fre_iff, not_any, allN_iff]
  constructor
  · intro H o ho
    have ho10 : o ≠ 10 := by omega
    by_cases z : wx w h o = 0
    · simp [z]
    · have := H o (by omega) z; simp [this, z, ho10]
  · intro H o ho hz
    have hn := (wx_ne hz).2
    have ho10 : o ≠ 10 := by omega
    have := H o hn
    simp only [ho10, hz, decide_false, Bool.not_false, ne_eq, not_false_eq_true, decide_true, Bool.true_and, Bool.not_eq_true', Bool.or_eq_false_iff] at this
    exact ⟨this.2, this.1⟩
theorem fre_bad2 (hw : wv w) {h x v L : Nat} (hv : v < nW w) (hL : L ≠ 0) : fre (up1 (wx w h) v L) x = (!bad w h v x && (!bgn L x && !bgn x L)) := by
  have hW := (wv_W hw).2
  unfold bad
  rw [Bool.eq_iff_iff, fre_iff, not_any, Bool.and_eq_true, allN_iff]
  constructor
  · intro H
    refine ⟨fun o ho => ?_, ?_⟩
    · by_cases e : o = v
      · simp [e]
      · by_cases z : wx w h o = 0
        · simp [z]
        · have := H o (by omega) (by rw [up1_ne e]; exact z)
          rw [up1_ne e] at this
          simp [this, z, e]
    · have := H v (by omega) (by rw [up1_eq]; exact hL)
      rw [up1_eq] at this
      simp [this]
  · rintro ⟨H, HL⟩ o ho hz
    by_cases e : o = v
    · subst e
      rw [up1_eq]
      simp only [Bool.and_eq_true, Bool.not_eq_true'] at HL
      exact HL
    · rw [up1_ne e] at hz ⊢
      have hn := (wx_ne hz).2
      have := H o hn
      simp only [e, hz, decide_false, Bool.not_false, ne_eq, not_false_eq_true, decide_true, Bool.true_and, Bool.not_eq_true', Bool.or_eq_false_iff] at this
      exact ⟨this.2, this.1⟩
/-- the model tries all numbers -/
theorem M_fits (H : wS σ ρ w) {h L : Nat} (hh : h < nH w) {W : Nat → Nat} {pv : Int32} {v : Nat} (hL : L < 1024) (hpv : ∀ o, o < nW w → (Int32.ofNat o = pv ↔ o = v)) (hW : ∀ x, x < 512 → fre W x = (!bad w h v x && (decide (L = 0) || (!bgn L x && !bgn x L)))) : f_X12_fits (σ, ρ) 105 (Int32.ofNat h) (Int32.ofNat L) pv = some (Int32.ofNat (ft W 510)) := by
  have hb : ∀ k, ft W k < k + 2 := fun k => by rcases (ft_spec (W := W) k).1 with z | ⟨_, z, _⟩ <;> omega
  have key : am_loop (f_X12_fits_b6 (σ, ρ) 105 (Int32.ofNat h) (Int32.ofNat L) pv) am_fuel (0, 2) = some (Int32.ofNat (ft W 510)) := by
    refine lp_for 510 (fun k => (Int32.ofNat (ft W k), Int32.ofNat (k + 2))) rfl (fun k hk => ?_) ?_ (by decide)
    · unfold f_X12_fits_b6
      have hbk := hb k
      have hx : k + 2 < 512 := by omega
      have m1 := mn_le (show k + 2 < 1024 by omega)
      have m2 := mn_le (show ft W k < 1024 by omega)
      simp only
      rw [if_neg (show ¬ (511 : Int32) < Int32.ofNat (k + 2) from fun z => by have := (on_lt (a := 511) (by decide) (by omega)).mp z; omega), M_room H hpv hh (by omega)]
      simp only [bnd, bi_f, on_pos (show L < 2147483648 by omega), w_bgn hL (show k + 2 < 1024 by omega), w_bgn (show k + 2 < 1024 by omega) hL, bi_d, on_z (show ft W k < 2147483648 by omega), (w_min (show k + 2 < 1024 by omega)).1, (w_min (show ft W k < 1024 by omega)).1, on_lt (show mnN (k + 2) < 2147483648 by omega) (show mnN (ft W k) < 2147483648 by omega)]
      have hstep : ft W (k + 1) = ftF W k (ft W k) := rfl
      have e3 : Int32.ofNat (k + 2) + 1 = Int32.ofNat (k + 1 + 2) := by rw [on_s]
      rw [hstep, e3]
      unfold ftF
      rw [hW (k + 2) hx]
      generalize ft W k = b
      cases bad w h v (k + 2)
      · by_cases hL0 : L = 0
        · subst hL0
          by_cases hb0 : b = 0
          · simp [hb0]
          · by_cases hm : mnN (k + 2) < mnN b <;> simp [hb0, hm]
        · have hLp : 0 < L := by omega
          cases h1 : bgn L (k + 2)
          · cases h2 : bgn (k + 2) L
            · by_cases hb0 : b = 0
              · simp [hb0, hL0, hLp]
              · by_cases hm : mnN (k + 2) < mnN b <;> simp [hb0, hm, hL0, hLp]
            · simp [hL0, hLp]
          · simp [hL0, hLp]
      · simp
    · unfold f_X12_fits_b6
      simp only
      rw [if_pos (by decide)]
  unfold f_X12_fits
  rw [key, bnd]
def rmB (st : Option (Nat × Nat)) : Int32 × Int32 := match st with | none => (0, 1000000) | some p => (Int32.ofNat p.2, Int32.ofNat p.1)
def rmR (R : Option (Nat × Nat)) (fl : Bool) : Int32 := match R with | none => -1 | some p => if fl then Int32.ofNat p.2 else Int32.ofNat p.1
def rmok (st : Option (Nat × Nat)) : Prop := ∀ p, st = some p → 2 ≤ p.2 ∧ p.2 < 512 ∧ p.1 < 100000
theorem rmS_ok {U mo : Nat} {W : Nat → Nat} {st : Option (Nat × Nat)} (hU : U < 100) (hmo : mo < 1000) (h : rmok st) : rmok (rmS U mo W st) := by
  have hfl := ft_lt (W := W)
  have hm := mn_le (show ft W 510 < 1024 by omega)
  have hb : U * mnN (ft W 510) ≤ 100 * 18 := Nat.mul_le_mul (by omega) hm
  unfold rmS
  by_cases z : ft W 510 = 0
  · rw [if_pos z]; exact h
  · rw [if_neg z]
    have h2 : 2 ≤ ft W 510 := by rcases (ft_spec (W := W) 510).1 with y | ⟨y, _, _⟩ <;> omega
    have hg : rmok (some (mo + U * mnN (ft W 510), ft W 510)) := fun p hp => by cases hp; exact ⟨h2, hfl, by omega⟩
    cases st with
    | none => exact hg
    | some p =>
      show rmok (if decide (mo + U * mnN (ft W 510) < p.1) = true then some (mo + U * mnN (ft W 510), ft W 510) else some p)
      split
      · exact hg
      · exact h
theorem M_rmS (H : wS σ ρ w) {h v o : Nat} (hh : h < nH w) (hv : v < nW w) (ho : o < nW w) (hx : wx w h o ≠ 0) (hl : (wx w h o).log2 ≠ 8) {s : Nat} (hs : s < 2) {st : Option (Nat × Nat)} (hst : rmok st) {p3 : Int32} : f_X12_room_b116 (σ, ρ) 105 (Int32.ofNat h) (Int32.ofNat v) p3 (Int32.ofNat o) ((rmB st).1, (rmB st).2, Int32.ofNat s) = some (.inl ((rmB (rmS (ux w v) ((s + 1) * ux w o) (up1 (wx w h) o (2 * wx w h o + s)) st)).1, (rmB (rmS (ux w v) ((s + 1) * ux w o) (up1 (wx w h) o (2 * wx w h o + s)) st)).2, Int32.ofNat (s + 1))) := by
  have hH := (wv_H H.2.2).2
  have hW := (wv_W H.2.2).2
  have hxl := wx_lt H.2.2 (a := h) (v := o)
  have hx1 := wx_1 H.2.2 (a := h) (v := o)
  have hl8 := log2_le8 hxl
  have h256 : wx w h o < 256 := (Nat.log2_lt hx (k := 8)).mp (by omega)
  have hU := ux_w H.2.2 hv
  have hUo := ux_w H.2.2 ho
  obtain ⟨W, hWd⟩ : ∃ W, W = up1 (wx w h) o (2 * wx w h o + s) := ⟨_, rfl⟩
  have hfits := M_fits H (h := h) (L := 2 * wx w h o + s) (W := W) hh (pv := Int32.ofNat o) (v := o) (by omega) (fun i hi => on_inj (by omega) (by omega)) (fun x hx2 => by
    rw [hWd, fre_bad2 H.2.2 ho (by omega)]
    have : decide (2 * wx w h o + s = 0) = false := by simp; omega
    rw [this, Bool.false_or])
  have hfl := ft_lt (W := W)
  have hm := mn_le (show ft W 510 < 1024 by omega)
  have hb : ux w v * mnN (ft W 510) ≤ 100 * 18 := Nat.mul_le_mul (by omega) hm
  have hb2 : (s + 1) * ux w o ≤ 2 * 100 := Nat.mul_le_mul (by omega) (by omega)
  unfold f_X12_room_b116
  simp only
  rw [if_pos (show Int32.ofNat s < 2 from (on_lt (b := 2) (by omega) (by decide)).mpr hs), M_wf H hh ho]
  simp only [bnd, on_z (show wx w h o < 2147483648 by omega), (w_len (show wx w h o < 1024 by omega)).1]
  rw [if_neg hx, if_neg (show ¬ Int32.ofNat (wx w h o).log2 = 8 from fun z => hl ((on_inj (b := 8) (by omega) (by decide)).mp z)), show (2 : Int32) = Int32.ofNat 2 from rfl, on_mul, on_add, hfits]
  simp only [bnd, on_z (show ft W 510 < 2147483648 by omega), M_ur H (show v < 10 by omega), M_ur H (show o < 10 by omega), hU.1, hUo.1, (w_min (show ft W 510 < 1024 by omega)).1, on_s]
  have hs1 : (1 : Int32) + Int32.ofNat s = Int32.ofNat (s + 1) := by rw [show (1 : Int32) = Int32.ofNat 1 from rfl, on_add, Nat.add_comm]
  rw [← hWd]
  unfold rmS
  by_cases z : ft W 510 = 0
  · rw [if_pos z, if_pos z]
    simp only [bnd]
    rw [if_neg (show ¬ (1000000 : Int32) < (rmB st).2 from by
      cases st with
      | none => decide
      | some p =>
        have := (hst p rfl).2.2
        show ¬ (1000000 : Int32) < Int32.ofNat p.1
        intro y
        have := (on_lt (a := 1000000) (by decide) (by omega)).mp y
        omega)]
    rfl
  · rw [if_neg z, if_neg z, hs1, on_mul, on_mul, on_add]
    simp only [bnd]
    have hcm : ux w v * mnN (ft W 510) + ux w o * (s + 1) = (s + 1) * ux w o + ux w v * mnN (ft W 510) := by rw [Nat.mul_comm (ux w o)]; omega
    rw [hcm]
    cases st with
    | none =>
      rw [if_pos (show Int32.ofNat ((s + 1) * ux w o + ux w v * mnN (ft W 510)) < (rmB none).2 from (on_lt (b := 1000000) (by omega) (by decide)).mpr (by omega))]
      rfl
    | some p =>
      have hp := (hst p rfl).2.2
      by_cases y : (s + 1) * ux w o + ux w v * mnN (ft W 510) < p.1
      · rw [if_pos (show Int32.ofNat _ < (rmB (some p)).2 from (on_lt (by omega) (by omega)).mpr y)]
        simp [y, rmB]
      · rw [if_neg (show ¬ Int32.ofNat _ < (rmB (some p)).2 from fun x => y ((on_lt (by omega) (by omega)).mp x))]
        simp [y, rmB]
theorem M_ways (H : wS σ ρ w) {h v : Nat} (hh : h < nH w) (hv : v < nW w) {st : Option (Nat × Nat)} (hst : rmok st) {p3 : Int32} : am_loop (f_X12_room_b104 (σ, ρ) 105 (Int32.ofNat h) (Int32.ofNat v) p3) am_fuel ((rmB st).1, (rmB st).2, 0) = some (rmB (fo (rmF w h (ux w v)) (nW w) st)) ∧ rmok (fo (rmF w h (ux w v)) (nW w) st) := by
  have hW := (wv_W H.2.2).2
  have hU := ux_w H.2.2 hv
  have okk : ∀ k, k ≤ nW w → rmok (fo (rmF w h (ux w v)) k st) := by
    intro k
    induction k with
    | zero => intro _; exact hst
    | succ k ih =>
      intro hk
      show rmok (rmF w h (ux w v) k (fo (rmF w h (ux w v)) k st))
      have hUk := ux_w H.2.2 (show k < nW w by omega)
      unfold rmF
      split
      · exact ih (by omega)
      · exact rmS_ok hU.2.2 (by omega) (rmS_ok hU.2.2 (by omega) (ih (by omega)))
  refine ⟨?_, okk _ (Nat.le_refl _)⟩
  refine lp_for (nW w) (fun k => ((rmB (fo (rmF w h (ux w v)) k st)).1, (rmB (fo (rmF w h (ux w v)) k st)).2, Int32.ofNat k)) rfl (fun k hk => ?_) ?_ (by omega)
  · unfold f_X12_room_b104
    simp only [M_wants H, bnd]
    rw [if_pos (lt_y hk (by omega))]
    have hk1 := okk k (by omega)
    have hstep : fo (rmF w h (ux w v)) (k + 1) st = rmF w h (ux w v) k (fo (rmF w h (ux w v)) k st) := rfl
    rw [hstep]
    generalize fo (rmF w h (ux w v)) k st = s at hk1 ⊢
    have hUk := ux_w H.2.2 hk
    have hxl := wx_lt H.2.2 (a := h) (v := k)
    have key : am_loop (f_X12_room_b116 (σ, ρ) 105 (Int32.ofNat h) (Int32.ofNat v) p3 (Int32.ofNat k)) am_fuel ((rmB s).1, (rmB s).2, 0) = some (rmB (rmF w h (ux w v) k s)) := by
      have hend : ∀ s', f_X12_room_b116 (σ, ρ) 105 (Int32.ofNat h) (Int32.ofNat v) p3 (Int32.ofNat k) ((rmB s').1, (rmB s').2, Int32.ofNat 2) = some (.inr (rmB s')) := fun s' => by
        unfold f_X12_room_b116
        simp only
        rw [if_neg (by decide)]
      rw [show (0 : Int32) = Int32.ofNat 0 from rfl]
      by_cases z : wx w h k = 0 ∨ (wx w h k).log2 = 8
      · have skip : ∀ j, j < 2 → f_X12_room_b116 (σ, ρ) 105 (Int32.ofNat h) (Int32.ofNat v) p3 (Int32.ofNat k) ((rmB s).1, (rmB s).2, Int32.ofNat j) = some (.inl ((rmB s).1, (rmB s).2, Int32.ofNat (j + 1))) := fun j hj => by
          have hl8 := log2_le8 hxl
          unfold f_X12_room_b116
          simp only
          rw [if_pos (show Int32.ofNat j < 2 from (on_lt (b := 2) (by omega) (by decide)).mpr hj), M_wf H hh hk]
          simp only [bnd, on_z (show wx w h k < 2147483648 by omega), (w_len (show wx w h k < 1024 by omega)).1, on_s]
          by_cases y : wx w h k = 0
          · rw [if_pos y]; rfl
          · rw [if_neg y, if_pos (show Int32.ofNat _ = 8 from (on_inj (b := 8) (by omega) (by decide)).mpr (z.resolve_left y))]; rfl
        have : rmF w h (ux w v) k s = s := by unfold rmF; rw [if_pos z]
        rw [this]
        exact stp_loop (stp_add (stp_1 (skip 0 (by decide))) (stp_1 (skip 1 (by decide)))) (hend s) (show 2 < 1000000000000 by decide)
      · have g0 := M_rmS H (v := v) hh hv hk (fun y => z (Or.inl y)) (fun y => z (Or.inr y)) (s := 0) (by decide) hk1 (p3 := p3)
        have hk2 : rmok (rmS (ux w v) ((0 + 1) * ux w k) (up1 (wx w h) k (2 * wx w h k + 0)) s) := rmS_ok hU.2.2 (by omega) hk1
        have g1 := M_rmS H (v := v) hh hv hk (fun y => z (Or.inl y)) (fun y => z (Or.inr y)) (s := 1) (by decide) hk2 (p3 := p3)
        have : rmF w h (ux w v) k s = rmS (ux w v) ((1 + 1) * ux w k) (up1 (wx w h) k (2 * wx w h k + 1)) (rmS (ux w v) ((0 + 1) * ux w k) (up1 (wx w h) k (2 * wx w h k + 0)) s) := by
          unfold rmF
          rw [if_neg z, Nat.zero_add, Nat.one_mul]
          rfl
        rw [this]
        exact stp_loop (stp_add (stp_1 g0) (stp_1 g1)) (hend _) (show 2 < 1000000000000 by decide)
    rw [key]
    simp only [bnd, on_s]
  · unfold f_X12_room_b104
    simp only [M_wants H, bnd]
    rw [if_neg (lt_n (by omega))]
theorem q_room (I : Iv σ ρ t u w wi) (p q : Int32) (fl : Bool) : Rq σ ρ w [(0, 1), (1, 2)] (f_X11_room (σ, ρ) 0 p q (bi fl)) (fun S => f_X12_room S 105 p q (bi fl)) := by
  have hH := (wv_H I.2.2.1).2
  have hW := (wv_W I.2.2.1).2
  rcases dic (nH w) p with ⟨h, hh, rfl⟩ | hp
  · rcases dic (nW w) q with ⟨v, hv, rfl⟩ | hq
    · have hxl := wx_lt I.2.2.1 (a := h) (v := v)
      by_cases z : wx w h v = 0
      · have hU := ux_w I.2.2.1 hv
        obtain ⟨τ, c1, c2, c3⟩ := c_makeRoom (Iv_t I) hh hv
        obtain ⟨R, hR⟩ : ∃ R, R = (if bgN w h = 0 then fo (rmF w h (ux w v)) (nW w) (rmS (ux w v) 0 (wx w h) none) else none) := ⟨_, rfl⟩
        rw [← hR] at c3
        have hans : ∀ {x : Int32} {y : sg}, (if bi fl = 0 then some ((.inl (some (.int (τ 94 4))), (τ, ρ)) : am_R) else some (.inl (some (.int (τ 94 5))), (τ, ρ))) = some (.inl (some (.int (rmR R fl))), (τ, ρ)) := fun {x} {y} => by
          rw [bi_f]
          cases R with
          | none => rw [c3.1, c3.2]; cases fl <;> rfl
          | some p => rw [c3.1, c3.2.1]; cases fl <;> rfl
        refine Rq_z (r := rmR R fl) (σ1 := τ) ?_ c2 (fun σ' H => ?_)
        · unfold f_X11_room
          rw [c_nH0 I hh, thV_n, c_nW0 I hv, thV_n]
          simp only [c_now I, bnd, c_wf (Iv_t I) (show h < 2147483648 by omega) (show v < 2147483648 by omega), z, zw_0, if_true, rd_codes I.1, c1]
          exact hans (x := 0) (y := σ)
        · unfold f_X12_room
          simp only [M_nH0 H hh, M_nW0 H hv, bnd, th0, if_true, M_wf H hh hv, z]
          rw [if_neg (by decide)]
          have hbn := bgs_n I.2.2.1 (h := h)
          simp only [bnd, th0, if_true, M_bgns H hh, hbn.1, on_pos (show bgN w h < 2147483648 by omega)]
          by_cases y : bgN w h = 0
          · rw [if_pos y] at hR
            have hf := M_fits H (h := h) (L := 0) (W := wx w h) hh (pv := -1) (v := 10) (by decide) (fun o ho => ⟨fun e => absurd e (on_m1 (by omega)), fun e => by omega⟩) (fun x _ => by rw [fre_bad H.2.2]; simp)
            have hf' : f_X12_fits (am_u2 σ' 105 0 0, ρ) 105 (Int32.ofNat h) 0 (-1) = some (Int32.ofNat (ft (wx w h) 510)) := hf
            have hfl := ft_lt (W := wx w h)
            have hm := mn_le (show ft (wx w h) 510 < 1024 by omega)
            have hb : ux w v * mnN (ft (wx w h) 510) ≤ 100 * 18 := Nat.mul_le_mul (by omega) hm
            rw [if_neg (by omega), hf', bnd]
            have hst0 : (if 0 < Int32.ofNat (ft (wx w h) 510) then (f_X12_urgent (am_u2 σ' 105 0 0, ρ) 105 (Int32.ofNat v)).bind fun v15 => (f_X12_costOf (Int32.ofNat (ft (wx w h) 510))).bind fun v16 => some (v15 * v16) else some 1000000) = some (rmB (rmS (ux w v) 0 (wx w h) none)).2 ∧ Int32.ofNat (ft (wx w h) 510) = (rmB (rmS (ux w v) 0 (wx w h) none)).1 := by
              rw [M_ur H (show v < 10 by omega), hU.1, (w_min (show ft (wx w h) 510 < 1024 by omega)).1]
              simp only [bnd, on_pos (show ft (wx w h) 510 < 2147483648 by omega), on_mul]
              unfold rmS
              by_cases x : ft (wx w h) 510 = 0
              · rw [if_neg (by omega), if_pos x, x]; exact ⟨rfl, rfl⟩
              · rw [if_pos (by omega), if_neg x, Nat.zero_add]; exact ⟨rfl, rfl⟩
            rw [hst0.1, bnd, hst0.2]
            obtain ⟨w1, w2⟩ := M_ways H hh hv (st := rmS (ux w v) 0 (wx w h) none) (rmS_ok hU.2.2 (by decide) (fun p hp => by cases hp)) (p3 := bi fl)
            rw [w1, bnd, ← hR]
            rw [← hR] at w2
            cases hRR : R with
            | none => rw [if_pos (show (rmB none).1 = 0 from rfl)]; rfl
            | some p =>
              rw [hRR] at w2
              have := w2 p rfl
              rw [if_neg (show ¬ (rmB (some p)).1 = 0 from fun x => by have := (on_z (show p.2 < 2147483648 by omega)).mp x; omega), bi_f]
              cases fl <;> rfl
          · rw [if_neg y] at hR
            rw [if_pos (by omega), hR]
            rfl
      · refine Rq_t (k := 1) (b := 0) (c := 2) (σ1 := σ) ?_ ag_rf rfl (by decide) (fun σ' H => ?_)
        · unfold f_X11_room
          rw [c_nH0 I hh, thV_n, c_nW0 I hv, thV_n]
          simp only [c_now I, bnd, c_wf (Iv_t I) (show h < 2147483648 by omega) (show v < 2147483648 by omega)]
          rw [if_neg (fun y => z ((zw_m (by omega)).mp y))]
        · unfold f_X12_room
          simp only [M_nH0 H hh, M_nW0 H hv, bnd, th0, if_true, M_wf H hh hv, on_pos (show wx w h v < 2147483648 by omega)]
          rw [if_pos (by omega)]
          simp only [bnd, th1, i10, if_false, zz]
    · refine Rq_t (k := 0) (b := 0) (c := 1) (σ1 := σ) ?_ ag_rf rfl (by decide) (fun σ' H => ?_)
      · unfold f_X11_room
        rw [c_nH0 I hh, thV_n, c_nW1 I hq, thV_x]
      · unfold f_X12_room
        simp only [M_nH0 H hh, M_nW1 H hq, bnd, if_true, th1, i10, if_false, zz]
  · refine Rq_t (k := 0) (b := 0) (c := 1) (σ1 := σ) ?_ ag_rf rfl (by decide) (fun σ' H => ?_)
    · unfold f_X11_room
      rw [c_nH1 I hp, thV_x]
    · unfold f_X12_room
      simp only [M_nH1 H hp, bnd, if_true, th1, i10, if_false, zz]
end RM3
