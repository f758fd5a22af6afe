section RQ2
variable {σ : sg} {ρ : rg} {t u : Nat} {w wi : wg} {v R : Nat}
theorem c_nf (I : Iv σ ρ t u w wi) {f : Nat} (hf : f < 2147483648) (hv : v < 2147483648) : f_X11_needFirstWord (σ, ρ) 0 (Int32.ofNat f) (Int32.ofNat v) = some (if wx w f v = 0 then .inr 1 else .inl none, (σ, ρ)) := by
  have hx := wx_lt I.2.2.1 (a := f) (v := v)
  unfold f_X11_needFirstWord
  simp only [c_now I, Option.bind_some, c_wf (Iv_t I) hf hv, zw_m (show wx w f v < 2147483648 by omega)]
  by_cases z : wx w f v = 0 <;> simp [z]
theorem er_255 (hw : wv w) : er w v 255 = ed w v := by
  funext j i
  unfold er
  cases z : ed w v j i with
  | false => rfl
  | true =>
    have h8 := (ed_lt hw z).2.2.2.2.1
    have : (255 : Nat).testBit j = true := by
      have : j = 0 ∨ j = 1 ∨ j = 2 ∨ j = 3 ∨ j = 4 ∨ j = 5 ∨ j = 6 ∨ j = 7 := by omega
      rcases this with rfl | rfl | rfl | rfl | rfl | rfl | rfl | rfl <;> decide
    rw [this]; rfl
theorem q_relay (I : Iv σ ρ t u w wi) (p q x : Int32) : Rq σ ρ w [(0, 1), (1, 2)] (f_X11_relay (σ, ρ) 0 p q x) (fun S => f_X12_relay S 105 p q x) := by
  have hH := (wv_H I.2.2.1).2
  have hW := (wv_W I.2.2.1).2
  rcases dic (nH w) p with ⟨f, hf, rfl⟩ | hp
  · rcases dic (nW w) q with ⟨v, hv, rfl⟩ | hq
    · have hxl := wx_lt I.2.2.1 (a := f) (v := v)
      rcases dic (nH w) x with ⟨h, hh, rfl⟩ | hx
      · by_cases z : wx w f v = 0
        · refine Rq_t (k := 1) (b := 0) (c := 2) (σ1 := σ) ?_ ag_rf rfl (by decide) (fun σ' H => ?_)
          · unfold f_X11_relay
            rw [c_nH0 I hf, thV_n, c_nW0 I hv, thV_n, c_nH0 I hh, thV_n, c_nf I (by omega) (by omega), if_pos z, thV_x]
          · unfold f_X12_relay
            simp only [M_nH0 H hf, M_nW0 H hv, M_nH0 H hh, Option.bind_some, th0, if_true, M_wf H hf hv, z]
            simp only [show (Int32.ofNat 0 = 0) = True from by decide, if_true, Option.bind_some, th1, i10, if_false, zz]
        · obtain ⟨τ, c1, c2⟩ := c_till (Iv_t I) (v := v) (by omega) hf hh
          refine Rq_r (r := if its (ed w v) (co w v) 8 (K0 f) h < 1000000 then Int32.ofNat (its (ed w v) (co w v) 8 (K0 f) h) else -1) (σ1 := τ) ?_ c2 (fun σ' H0 => ?_)
          · unfold f_X11_relay
            rw [c_nH0 I hf, thV_n, c_nW0 I hv, thV_n, c_nH0 I hh, thV_n, c_nf I (by omega) (by omega), if_neg z, thV_n]
            simp only [rd_rel I.1, c_now I, Option.bind_some, c1]
          · have H := wS_z H0
            obtain ⟨υ, D, m1, m2, m3, m4, m5, m6⟩ := M_spreads H hv (R := 255) (by decide) hf
            rw [er_255 H.2.2] at m4 m5
            have h8 := eight m4 m5 m6 (fun j i hji => by have := ed_lt H.2.2 hji; exact ⟨this.2.2.2.1, this.2.2.2.2.1⟩) (i := h) (by omega)
            rw [h8]
            have hD : D h ≤ 1000000 := Nat.le_trans (m6 h) (by unfold K0; split <;> omega)
            refine ⟨υ, ?_, ⟨fun o j es1 => ?_, ?_⟩, ?_⟩
            · show f_X12_relay _ 105 _ _ _ = _
              unfold f_X12_relay
              simp only [M_nH0 H hf, M_nW0 H hv, M_nH0 H hh, Option.bind_some, th0, if_true, M_wf H hf hv, on_z (show wx w f v < 2147483648 by omega), if_neg z]
              rw [show (255 : Int32) = Int32.ofNat 255 from rfl, m1]
              simp only [bnd, M_w H, rd_knows I.1]
              rw [ld_on (by rw [ln_115]; omega) (by omega), m3 h (by omega)]
              simp only [bnd]
              by_cases q : D h < 1000000
              · rw [if_neg (show ¬ Int32.ofNat (D h) = 1000000 from fun y => by have := (on_inj (b := 1000000) (by omega) (by decide)).mp y; omega), if_pos q]
              · rw [if_pos (show Int32.ofNat (D h) = 1000000 from (on_inj (b := 1000000) (by omega) (by decide)).mpr (by omega)), if_neg q]
            · rw [m2 o (by rintro rfl; rw [es_0 rfl] at es1; cases es1)]
              exact ag2_z.1 o j es1
            · rw [m2 122 (by decide)]; exact ag2_z.2
            · rw [m2 105 (by decide), u2_eq]
      · refine Rq_t (k := 0) (b := 0) (c := 1) (σ1 := σ) ?_ ag_rf rfl (by decide) (fun σ' H => ?_)
        · unfold f_X11_relay
          rw [c_nH0 I hf, thV_n, c_nW0 I hv, thV_n, c_nH1 I hx, thV_x]
        · unfold f_X12_relay
          simp only [M_nH0 H hf, M_nW0 H hv, M_nH1 H hx, Option.bind_some, if_true, th1, i10, if_false, zz]
    · refine Rq_t (k := 0) (b := 0) (c := 1) (σ1 := σ) ?_ ag_rf rfl (by decide) (fun σ' H => ?_)
      · unfold f_X11_relay
        rw [c_nH0 I hf, thV_n, c_nW1 I hq, thV_x]
      · unfold f_X12_relay
        simp only [M_nH0 H hf, M_nW1 H hq, Option.bind_some, if_true, th1, i10, if_false, zz]
  · refine Rq_t (k := 0) (b := 0) (c := 1) (σ1 := σ) ?_ ag_rf rfl (by decide) (fun σ' H => ?_)
    · unfold f_X11_relay
      rw [c_nH1 I hp, thV_x]
    · unfold f_X12_relay
      simp only [M_nH1 H hp, Option.bind_some, if_true, th1, i10, if_false, zz]
/-! ringers -/
def dfb (w : wg) (h : Nat) : Bool := decide (w (12 + 15 * h) = 1)
def okS (w : wg) (v f s : Nat) : Bool := allN (fun h => dfb w h || itB (er w v s) 8 (fun i => decide (i = f)) h) (nH w)
def rgC (s : Nat) : Option Nat → Bool
  | none => true
  | some x => decide (pop 10 s < pop 10 x)
def rgF2 (w : wg) (v f s : Nat) (b : Option Nat) : Option Nat := if (rgC s b && s.testBit f && okS w v f s) = true then some s else b
def ob (b : Option Nat) : Int32 := fd Int32.ofNat (-1) b
theorem fo_shift {α : Type} {F : Nat → α → α} {a : α} : ∀ n, fo F (n + 1) a = fo (fun k => F (k + 1)) n (F 0 a)
  | 0 => rfl
  | n + 1 => by show F (n + 1) (fo F (n + 1) a) = F (n + 1) (fo (fun k => F (k + 1)) n (F 0 a)); rw [fo_shift n]
theorem bm_eq {m : Nat} (hm : m < 256) {B : Nat → Bool} (h : ∀ k, k < 8 → m.testBit k = B k) : m = bm B 8 := by
  apply Nat.eq_of_testBit_eq
  intro k
  rw [bm_tb]
  by_cases q : k < 8
  · rw [h k q]; simp [q]
  · rw [Nat.testBit_lt_two_pow (Nat.lt_of_lt_of_le (show m < 2 ^ 8 from hm) (Nat.pow_le_pow_right (by decide) (by omega)))]; simp [q]
theorem c_knownBy {a b : Nat} (hr : rh ρ a b) (hw : wv w) {s f : Nat} (hs : s < 256) (hf : f < 8) (h86 : ∀ j, j < 8 → σ 86 j = Int32.ofNat (bm (ed w v j) (nH w))) : f_X5_knownBy (σ, ρ) 85 (Int32.ofNat s) (Int32.ofNat f) = some (Int32.ofNat (bm (itB (er w v s) 8 (fun i => decide (i = f))) 8)) := by
  have hH := (wv_H hw).2
  have hbm : ∀ B : Nat → Bool, bm B 8 < 256 := fun B => bm_lt (q := B) 8
  unfold f_X5_knownBy
  rw [shl1 (by omega)]
  have h0 : 2 ^ f = bm (fun i => decide (i = f)) 8 := bm_eq (show 2 ^ f < 2 ^ 8 from Nat.pow_lt_pow_right (by decide) hf) (fun k _ => by rw [Nat.testBit_two_pow]; by_cases q : f = k <;> simp [q, eq_comm])
  rw [h0]
  have key := lp_fo (body := f_X5_knownBy_b7 (σ, ρ) 85 (Int32.ofNat s)) (fun (B : Nat → Bool) k => (Int32.ofNat (bm B 8), Int32.ofNat k)) (fun _ B => swB (er w v s) 8 B) 8 (fun i => decide (i = f)) (d := Int32.ofNat (bm (itB (er w v s) 8 (fun i => decide (i = f))) 8)) rfl (fun k B hk => ?_) ?_ (by decide)
  · rw [show (0 : Int32) = Int32.ofNat 0 from rfl, key, bnd]
  · unfold f_X5_knownBy_b7
    simp only
    rw [if_pos (show Int32.ofNat k < 8 from (on_lt (b := 8) (by omega) (by decide)).mpr hk)]
    have key2 := lp_fo (body := f_X5_knownBy_b17 (σ, ρ) 85 (Int32.ofNat s) (Int32.ofNat k)) (fun (B : Nat → Bool) h => (Int32.ofNat (bm B 8), Int32.ofNat h)) (fun h B => rxB (er w v s) h B) 8 B (d := Int32.ofNat (bm (swB (er w v s) 8 B) 8)) rfl (fun h B hh => ?_) ?_ (by decide)
    · rw [show (0 : Int32) = Int32.ofNat 0 from rfl, key2]
      simp only [bnd, on_s]
    · unfold f_X5_knownBy_b17
      simp only [rd_reach hr, bnd]
      have hb := hbm B
      rw [if_pos (show Int32.ofNat h < 8 from (on_lt (b := 8) (by omega) (by decide)).mpr hh), ld_on (by rw [ln_86]; omega) (by omega), h86 h hh, shl1 (by omega), on_and, on_and]
      have hand : (bm B 8 &&& s) &&& 2 ^ h < 2147483648 := Nat.lt_of_le_of_lt Nat.and_le_left (Nat.lt_of_le_of_lt Nat.and_le_left (by omega))
      simp only [bnd, on_z hand, and_bit, Nat.testBit_and, bm_tb, hh, decide_true, Bool.true_and, on_or, on_s]
      cases hB : B h with
      | false =>
        simp only [Bool.false_and, if_true, bnd]
        have : rxB (er w v s) h B = B := by funext i; unfold rxB; rw [hB]; simp
        rw [this]
      | true =>
        cases hsb : s.testBit h with
        | false =>
          simp only [Bool.and_false, if_true, bnd]
          have : rxB (er w v s) h B = B := by funext i; unfold rxB er; rw [hsb]; simp
          rw [this]
        | true =>
          simp only [Bool.and_true, Bool.true_eq_false, if_false, bnd]
          have : bm B 8 ||| bm (ed w v h) (nH w) = bm (rxB (er w v s) h B) 8 := by
            have l1 : bm B 8 ||| bm (ed w v h) (nH w) < 2 ^ 8 := Nat.or_lt_two_pow hb (Nat.lt_of_lt_of_le (bm_lt _) (Nat.pow_le_pow_right (by decide) hH))
            refine bm_eq l1 (fun k hk => ?_)
            rw [Nat.testBit_or, bm_tb, bm_tb]
            unfold rxB er
            rw [hB, hsb]
            cases he : ed w v h k with
            | false => simp [hk]
            | true => have := (ed_lt hw he).2.1; simp [hk, this]
          rw [this]
    · unfold f_X5_knownBy_b17
      simp only
      rw [if_neg (by decide)]
      rfl
  · unfold f_X5_knownBy_b7
    simp only
    rw [if_neg (by decide)]
    rfl
theorem ob_m1 {b : Option Nat} (h : ∀ x, b = some x → x < 2147483648) : (ob b = -1) ↔ b = none := by
  cases b with
  | none => simp [ob, fd]
  | some x => simp only [ob, fd, reduceCtorEq, iff_false]; exact on_m1 (h x rfl)
theorem ob_neg {b : Option Nat} (h : ∀ x, b = some x → x < 2147483648) : (ob b < 0) ↔ b = none := by
  cases b with
  | none => simp only [ob, fd, iff_true]; decide
  | some x => simp only [ob, fd, reduceCtorEq, iff_false]; exact on_neg (h x rfl)
theorem rg_lt {f : Nat} : ∀ n x, fo (rgF2 w v f) n none = some x → x < n
  | 0, x, h => by cases h
  | n + 1, x, h => by
    have ih := rg_lt (f := f) n
    have h' : rgF2 w v f n (fo (rgF2 w v f) n none) = some x := h
    generalize fo (rgF2 w v f) n none = b at *
    unfold rgF2 at h'
    split at h'
    · cases h'; omega
    · have := ih x h'; omega
theorem M_ok (H : wS σ ρ w) {f s : Nat} (hf : f < nH w) {D : Nat → Nat} (h115 : ∀ i, i < 8 → σ 115 i = Int32.ofNat (D i)) (m4 : fx (er w v s) (co w v) D) (m5 : tg (er w v s) (co w v) f D) (m6 : ∀ i, D i ≤ K0 f i) {a1 a2 a3 a4 : Int32} : am_loop (f_X12_ringers_b116 (σ, ρ) 105 a1 a2 a3 a4) am_fuel (1, 0) = some (bi (okS w v f s)) := by
  have hH := (wv_H H.2.2).2
  obtain ⟨a, b, hr⟩ := H.1
  have := lp_andN (body := f_X12_ringers_b116 (σ, ρ) 105 a1 a2 a3 a4) (fun h => dfb w h || itB (er w v s) 8 (fun i => decide (i = f)) h) (nH w) true (fun h b hh => ?_) (fun b => ?_) (by omega)
  · rw [show ((1 : Int32), (0 : Int32)) = (bi true, 0) from rfl, this, Bool.true_and, okS]
  · unfold f_X12_ringers_b116
    simp only [M_houses H, bnd, rd_knows hr]
    have hD : D h ≤ 1000000 := Nat.le_trans (m6 h) (by unfold K0; split <;> omega)
    have hwho := who m4 m5 m6 (fun j i hji => by have := ed_lt H.2.2 (er_ed hji).1; exact ⟨this.2.2.2.1, this.2.2.2.2.1⟩) (fun j i hji => (ed_lt H.2.2 (er_ed hji).1).2.2.2.2.2) (by omega) (fun j => co_18 H.2.2) (i := h) (by omega)
    rw [if_pos (lt_y hh (by omega)), show (4 : Int32) = Int32.ofNat 4 from rfl, M_of H (by omega) (by decide), show 8 + 15 * h + 4 = 12 + 15 * h by omega, ld_on (by rw [ln_115]; omega) (by omega), h115 h (by omega)]
    rw [hwho]
    simp only [bnd, bi_f, on_s, show (1000000 : Int32) = Int32.ofNat 1000000 from rfl, on_lt (show D h < 2147483648 by omega) (show 1000000 < 2147483648 by decide)]
    unfold dfb
    cases b
    · simp [bi]
    · by_cases z : w (12 + 15 * h) = 1
      · simp [z, bi]
      · by_cases y : D h < 1000000 <;> simp [z, y, bi]
  · unfold f_X12_ringers_b116
    simp only [M_houses H, bnd]
    rw [if_neg (lt_n (by omega))]
theorem M_ringers (H : wS σ ρ w) (hv : v < nW w) {f : Nat} (hf : f < nH w) : ∃ d, am_loop (f_X12_ringers_b63 (σ, ρ) 105 (Int32.ofNat f) (Int32.ofNat v)) am_fuel (-1, 0, σ) = some d ∧ d.1 = ob (fo (rgF2 w v f) (2 ^ nH w) none) ∧ (∀ o, o ≠ 115 → d.2 o = σ o) := by
  have hH := (wv_H H.2.2).2
  have hp : 2 ^ nH w ≤ 2 ^ 8 := Nat.pow_le_pow_right (by decide) hH
  have hsh : (1 : Int32) <<< (Int32.ofNat (nH w) &&& 31) = Int32.ofNat (2 ^ nH w) := shl1 (by omega)
  obtain ⟨d, h1, h2⟩ := lp_rule (body := f_X12_ringers_b63 (σ, ρ) 105 (Int32.ofNat f) (Int32.ofNat v)) (2 ^ nH w)
    (fun k y => y.1 = ob (fo (rgF2 w v f) k none) ∧ y.2.1 = Int32.ofNat k ∧ (∀ o, o ≠ 115 → y.2.2 o = σ o))
    (fun d => d.1 = ob (fo (rgF2 w v f) (2 ^ nH w) none) ∧ (∀ o, o ≠ 115 → d.2 o = σ o))
    (x := (-1, 0, σ)) ⟨rfl, rfl, fun _ _ => rfl⟩ (fun k y hk hy => by
      obtain ⟨be, i, τ⟩ := y
      obtain ⟨y1, rfl, y2⟩ := hy
      simp only at y1 y2
      subst y1
      have H' : wS τ ρ w := ⟨H.1, fun k hk => by rw [y2 106 (by decide)]; exact H.2.1 k hk, H.2.2⟩
      unfold f_X12_ringers_b63
      simp only [M_houses H', bnd, hsh]
      by_cases e : k < 2 ^ nH w
      · left
        have hlt := rg_lt (w := w) (v := v) (f := f) k
        have hstep : fo (rgF2 w v f) (k + 1) none = rgF2 w v f k (fo (rgF2 w v f) k none) := rfl
        rw [hstep]
        generalize fo (rgF2 w v f) k none = b at hlt ⊢
        have hb1 : ∀ x, b = some x → x < 2147483648 := fun x hx => by have := hlt x hx; omega
        rw [if_pos ((on_lt (by omega) (by omega)).mpr e), f_has (by omega) (by omega)]
        simp only [bnd, bi_f, on_s]
        obtain ⟨υ, D, m1, m2, m3, m4, m5, m6⟩ := M_spreads H' hv (R := k) (by omega) hf
        have H2 : wS υ ρ w := ⟨H.1, fun k hk => by rw [m2 106 (by decide)]; exact H'.2.1 k hk, H.2.2⟩
        have hok := M_ok H2 (v := v) (s := k) hf m3 m4 m5 m6 (a1 := Int32.ofNat f) (a2 := Int32.ofNat v) (a3 := ob b) (a4 := Int32.ofNat k)
        cases htb : k.testBit f with
        | false =>
          simp only [Bool.false_eq_true, if_false, bnd]
          refine ⟨_, rfl, e, ?_, rfl, y2⟩
          unfold rgF2
          rw [if_neg (by simp [htb])]
        | true =>
          simp only [if_true]
          have fin : ∀ (X : Int32 × sg), (X = (if okS w v f k then Int32.ofNat k else ob b, υ)) → rgC k b = true → X.1 = ob (rgF2 w v f k b) ∧ (∀ o, o ≠ 115 → X.2 o = σ o) := fun X hX hcond => by
            subst hX
            refine ⟨?_, fun o ho => by show υ o = _; rw [m2 o ho, y2 o ho]⟩
            unfold rgF2
            rw [hcond, htb]
            cases okS w v f k <;> rfl
          by_cases hn : b = none
          · rw [if_pos ((ob_neg hb1).mpr hn), m1]
            simp only [bnd, hok, bi_f]
            have g := fin (if okS w v f k then Int32.ofNat k else ob b, υ) rfl (by rw [hn]; rfl)
            cases hz : okS w v f k with
            | true =>
              rw [hz] at g
              simp only [if_true, bnd] at g ⊢
              exact ⟨_, rfl, e, g.1, rfl, g.2⟩
            | false =>
              rw [hz] at g
              simp only [Bool.false_eq_true, if_false, bnd] at g ⊢
              exact ⟨_, rfl, e, g.1, rfl, g.2⟩
          · rw [if_neg (fun z => hn ((ob_neg hb1).mp z))]
            obtain ⟨x, rfl⟩ := Option.ne_none_iff_exists'.mp hn
            have hxl := hlt x rfl
            have p1 : pop 10 k ≤ 100 := by
              have hl := w_log (show k < 1024 by omega)
              have : (List.range 1024).all (fun n => decide (pop 10 n ≤ 100)) = true := by decide +kernel
              simpa using List.all_eq_true.mp this k (List.mem_range.mpr (by omega))
            have p2 : pop 10 x ≤ 100 := by
              have : (List.range 1024).all (fun n => decide (pop 10 n ≤ 100)) = true := by decide +kernel
              simpa using List.all_eq_true.mp this x (List.mem_range.mpr (by omega))
            rw [(w_min (show k < 1024 by omega)).2.2.2, show ob (some x) = Int32.ofNat x from rfl, (w_min (show x < 1024 by omega)).2.2.2]
            simp only [bnd, on_lt (show pop 10 k < 2147483648 by omega) (show pop 10 x < 2147483648 by omega)]
            by_cases q : pop 10 k < pop 10 x
            · rw [if_pos q, m1]
              have hok2 := M_ok H2 (v := v) (s := k) hf m3 m4 m5 m6 (a1 := Int32.ofNat f) (a2 := Int32.ofNat v) (a3 := Int32.ofNat x) (a4 := Int32.ofNat k)
              simp only [bnd, hok2, bi_f]
              have g := fin (if okS w v f k then Int32.ofNat k else ob (some x), υ) rfl (by unfold rgC; simp [q])
              cases hz : okS w v f k with
              | true =>
                rw [hz] at g
                simp only [if_true, bnd] at g ⊢
                exact ⟨_, rfl, e, g.1, rfl, g.2⟩
              | false =>
                rw [hz] at g
                simp only [Bool.false_eq_true, if_false, bnd] at g ⊢
                exact ⟨_, rfl, e, g.1, rfl, g.2⟩
            · rw [if_neg q]
              simp only [bnd]
              refine ⟨_, rfl, e, ?_, rfl, y2⟩
              unfold rgF2 rgC
              rw [if_neg (by simp [q])]
              rfl
      · right
        have : k = 2 ^ nH w := by omega
        subst this
        rw [if_neg (lt_n (by omega))]
        exact ⟨_, rfl, rfl, y2⟩) (by omega)
  exact ⟨d, h1, h2⟩
theorem c_fewest (H : tS σ ρ t w) {f : Nat} (hv : v < 2147483648) (hf : f < nH w) : ∃ τ, f_X5_fewestFrom (σ, ρ) 85 t (Int32.ofNat f) (Int32.ofNat v) = some (ob (fo (rgF2 w v f) (2 ^ nH w) none), τ) ∧ ag σ τ := by
  have hH := (wv_H H.2.2.2).2
  obtain ⟨a, b, hr⟩ := H.1
  obtain ⟨s1, p1, p2, p3⟩ := c_prep H hv
  have ag1 : ag σ s1 := fun o j es1 => by rw [p2 o (by rintro rfl; rw [es_0 rfl] at es1; cases es1) (by rintro rfl; rw [es_0 rfl] at es1; cases es1)]
  have H1 := tS_ag H ag1
  have hp : 2 ^ nH w ≤ 2 ^ 8 := Nat.pow_le_pow_right (by decide) hH
  have hp0 := Nat.two_pow_pos (nH w)
  have hsh : (1 : Int32) <<< (Int32.ofNat (nH w) &&& 31) = Int32.ofNat (2 ^ nH w) := shl1 (by omega)
  have hmust : am_loop (f_X5_fewestFrom_b12 (s1, ρ) 85 t (Int32.ofNat f)) am_fuel (0, 0) = some (Int32.ofNat (bm (fun h => !dfb w h) (nH w))) := by
    refine lp_for (nH w) (fun k => (Int32.ofNat (bm (fun h => !dfb w h) k), Int32.ofNat k)) rfl (fun k hk => ?_) ?_ (by omega)
    · unfold f_X5_fewestFrom_b12
      have hl := ln_t H.2.1
      simp only [c_H H1, rd_t hr H.2.1 (show (10, 1, 5) ∈ _ by decide), bnd]
      rw [if_pos (lt_y hk (by omega)), if_pos (show Int32.ofNat k < 8 from (on_lt (b := 8) (by omega) (by decide)).mpr (by omega)), ld_on (by omega) (by omega), (H1.2.2.1.2.1 k hk).2.2.2.2]
      have hdf := (wv_at H.2.2.2 hk).2.2.2.2
      simp only [bnd, shl1 (show k < 9 by omega), on_or, bm_or, on_s]
      show _ = some (Sum.inl (Int32.ofNat (bm (fun h => !dfb w h) k + (if (!dfb w k) = true then 2 ^ k else 0)), Int32.ofNat (k + 1)))
      rcases hdf with z | z
      · have : dfb w k = false := by unfold dfb; rw [z]; decide
        rw [z, if_pos rfl, this]; rfl
      · have : dfb w k = true := by unfold dfb; rw [z]; decide
        rw [z, if_neg (by decide), this]; rfl
    · unfold f_X5_fewestFrom_b12
      simp only [c_H H1]
      rw [if_neg (lt_n (by omega))]
  have hloop : am_loop (f_X5_fewestFrom_b59 (s1, ρ) 85 t (Int32.ofNat f) (Int32.ofNat (bm (fun h => !dfb w h) (nH w)))) am_fuel (-1, 1) = some (ob (fo (rgF2 w v f) (2 ^ nH w) none)) := by
    have h00 : rgF2 w v f 0 none = none := by unfold rgF2; rw [if_neg (by simp)]
    obtain ⟨n, hn⟩ : ∃ n, 2 ^ nH w = n + 1 := ⟨2 ^ nH w - 1, by omega⟩
    rw [hn]
    refine lp_for n (fun k => (ob (fo (rgF2 w v f) (k + 1) none), Int32.ofNat (k + 1))) ?_ (fun k hk => ?_) ?_ (by omega)
    · show (ob (rgF2 w v f 0 none), Int32.ofNat (0 + 1)) = _
      rw [h00]; rfl
    · unfold f_X5_fewestFrom_b59
      simp only [c_H H1, hsh]
      have hlt := rg_lt (w := w) (v := v) (f := f) (k + 1)
      have hstep : fo (rgF2 w v f) (k + 1 + 1) none = rgF2 w v f (k + 1) (fo (rgF2 w v f) (k + 1) none) := rfl
      rw [hstep]
      generalize fo (rgF2 w v f) (k + 1) none = b at hlt ⊢
      have hb1 : ∀ x, b = some x → x < 2147483648 := fun x hx => by have := hlt x hx; omega
      have hk256 : k + 1 < 256 := by omega
      rw [if_pos ((on_lt (by omega) (by omega)).mpr (by omega))]
      have hfew : (if ob b = -1 then some (1 : Int32) else (f_J6_bitCount_0f7a4 (Int32.ofNat (k + 1))).bind fun v16 => (f_J6_bitCount_0f7a4 (ob b)).bind fun v17 => if v16 < v17 then some 1 else some 0) = some (bi (rgC (k + 1) b)) := by
        cases b with
        | none => rfl
        | some x =>
          have hxl := hlt x rfl
          have pp : ∀ y, y < 1024 → pop 10 y ≤ 100 := fun y hy => by
            have : (List.range 1024).all (fun n => decide (pop 10 n ≤ 100)) = true := by decide +kernel
            simpa using List.all_eq_true.mp this y (List.mem_range.mpr hy)
          have p1 := pp (k + 1) (by omega)
          have p2 := pp x (by omega)
          rw [show ob (some x) = Int32.ofNat x from rfl, if_neg (on_m1 (by omega)), (w_min (show k + 1 < 1024 by omega)).2.2.2, (w_min (show x < 1024 by omega)).2.2.2]
          simp only [bnd, on_lt (show pop 10 (k + 1) < 2147483648 by omega) (show pop 10 x < 2147483648 by omega)]
          unfold rgC
          by_cases q : pop 10 (k + 1) < pop 10 x <;> simp [q, bi]
      rw [hfew, c_knownBy hr H.2.2.2 hk256 (show f < 8 by omega) (fun j hj => (p3 j hj).1)]
      simp only [bnd, bi_f, on_bit (show k + 1 < 1024 by omega) (show f < 11 by omega), on_s]
      have hok : (Int32.ofNat (bm (fun h => !dfb w h) (nH w)) &&& (Int32.ofNat (bm (itB (er w v (k + 1)) 8 fun i => decide (i = f)) 8) ^^^ -1) = 0) ↔ okS w v f (k + 1) = true := by
        rw [andn]
        unfold okS
        rw [allN_iff]
        constructor
        · intro h i hi
          have := h i (by omega)
          rw [bm_tb, bm_tb] at this
          have h8 : i < 8 := by omega
          cases hd : dfb w i with
          | true => simp
          | false => simp [hi, hd, h8] at this; simp [this]
        · intro h i hi hm
          rw [bm_tb] at hm ⊢
          simp only [Bool.and_eq_true, decide_eq_true_eq, Bool.not_eq_true'] at hm
          have := h i hm.1
          rw [hm.2] at this
          have h8 : i < 8 := by omega
          simp only [Bool.false_or] at this
          simp [h8, this]
      simp only [hok]
      unfold rgF2
      cases rgC (k + 1) b with
      | false => simp
      | true =>
        cases (k + 1).testBit f with
        | false => simp
        | true =>
          cases okS w v f (k + 1) with
          | false => simp
          | true => simp only [Bool.and_self, if_true, Bool.true_eq_false, if_false, bnd]; rfl
    · unfold f_X5_fewestFrom_b59
      simp only [c_H H1, hsh, hn]
      rw [if_neg (lt_n (by omega))]
  refine ⟨s1, ?_, ag1⟩
  unfold f_X5_fewestFrom
  rw [p1]
  simp only [bnd, hmust, hloop]
theorem q_ringers (I : Iv σ ρ t u w wi) (p q : Int32) : Rq σ ρ w [(0, 1), (1, 2)] (f_X11_ringers (σ, ρ) 0 p q) (fun S => f_X12_ringers S 105 p q) := by
  have hH := (wv_H I.2.2.1).2
  have hW := (wv_W I.2.2.1).2
  rcases dic (nH w) p with ⟨f, hf, rfl⟩ | hp
  · rcases dic (nW w) q with ⟨v, hv, rfl⟩ | hq
    · have hxl := wx_lt I.2.2.1 (a := f) (v := v)
      by_cases z : wx w f v = 0
      · refine Rq_t (k := 1) (b := 0) (c := 2) (σ1 := σ) ?_ ag_rf rfl (by decide) (fun σ' H => ?_)
        · unfold f_X11_ringers
          rw [c_nH0 I hf, thV_n, c_nW0 I hv, thV_n, c_nf I (by omega) (by omega), if_pos z, thV_x]
        · unfold f_X12_ringers
          simp only [M_nH0 H hf, M_nW0 H hv, Option.bind_some, th0, if_true, M_wf H hf hv, z]
          simp only [show (Int32.ofNat 0 = 0) = True from by decide, if_true, Option.bind_some, th1, i10, if_false, zz]
      · obtain ⟨τ, c1, c2⟩ := c_fewest (Iv_t I) (v := v) (by omega) hf
        refine Rq_r (r := ob (fo (rgF2 w v f) (2 ^ nH w) none)) (σ1 := τ) ?_ c2 (fun σ' H0 => ?_)
        · unfold f_X11_ringers
          rw [c_nH0 I hf, thV_n, c_nW0 I hv, thV_n, c_nf I (by omega) (by omega), if_neg z, thV_n]
          simp only [rd_rel I.1, c_now I, Option.bind_some, c1]
        · have H := wS_z H0
          obtain ⟨d, m1, m2, m3⟩ := M_ringers H hv hf
          refine ⟨d.2, ?_, ⟨fun o j es1 => ?_, ?_⟩, ?_⟩
          · show f_X12_ringers _ 105 _ _ = _
            unfold f_X12_ringers
            simp only [M_nH0 H hf, M_nW0 H hv, Option.bind_some, th0, if_true, M_wf H hf hv, on_z (show wx w f v < 2147483648 by omega), if_neg z]
            rw [m1, bnd, ← m2]
          · rw [m3 o (by rintro rfl; rw [es_0 rfl] at es1; cases es1)]
            exact ag2_z.1 o j es1
          · rw [m3 122 (by decide)]; exact ag2_z.2
          · rw [m3 105 (by decide), u2_eq]
    · refine Rq_t (k := 0) (b := 0) (c := 1) (σ1 := σ) ?_ ag_rf rfl (by decide) (fun σ' H => ?_)
      · unfold f_X11_ringers
        rw [c_nH0 I hf, thV_n, c_nW1 I hq, thV_x]
      · unfold f_X12_ringers
        simp only [M_nH0 H hf, M_nW1 H hq, Option.bind_some, if_true, th1, i10, if_false, zz]
  · refine Rq_t (k := 0) (b := 0) (c := 1) (σ1 := σ) ?_ ag_rf rfl (by decide) (fun σ' H => ?_)
    · unfold f_X11_ringers
      rw [c_nH1 I hp, thV_x]
    · unfold f_X12_ringers
      simp only [M_nH1 H hp, Option.bind_some, if_true, th1, i10, if_false, zz]
end RQ2
