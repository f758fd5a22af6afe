section TO
variable {σ : sg} {ρ : rg} {t u : Nat} {w wi : wg}
def evn (f : Nat → Int32) (s n : Nat → Nat) : Nat → Nat → List Int32 → List Int32
  | _, 0, st => st
  | i, m + 1, st => evn f s n (i + 1) m (ev1 f (n i) (s i) st)
theorem ck_len {bs bs' : List Bool} {k : Nat} (h : ck1 bs k = some bs') (hl : bs.length ≤ 40) : bs'.length ≤ 40 := by
  rcases ck_cases h with ⟨-, b, rfl⟩ | ⟨-, r, rfl, rfl⟩ | ⟨-, r, rfl, rfl⟩ | ⟨-, r, rfl, rfl⟩ | ⟨-, r, rfl, rfl⟩ <;> simp only [List.length_cons] at * <;> omega
theorem evn_typ {f : Nat → Int32} {s n : Nat → Nat} : ∀ m i bs bs' st, ckn s i m bs = some bs' → typ bs st → typ bs' (evn f s n i m st)
  | 0, i, bs, bs', st, h, g => by cases h; exact g
  | m + 1, i, bs, bs', st, h, g => by
    have h' : (ck1 bs (s i)).bind (fun st' => ckn s (i + 1) m st') = some bs' := h
    cases e : ck1 bs (s i) with
    | none => rw [e] at h'; cases h'
    | some b1 =>
      rw [e] at h'
      exact evn_typ m (i + 1) b1 bs' _ h' (ev_typ e g)
def hldL (f : Nat → Int32) (s n : Nat → Nat) (a b : Nat) : Bool := if a = b then true else match evn f s n a (b - a) [] with
  | x :: _ => decide (x = 1)
  | [] => true
theorem c_run {a b : Nat} (hr : rh ρ a b) (ht : tn t) {S : sg} {f : Nat → Int32} {s n : Nat → Nat} : ∀ m i fu τ bs st bs', ckn s i m bs = some bs' → typ bs st → cst t τ st → (∀ j, i ≤ j → j < i + m → τ (t + 12) j = enc (s j) (n j) ∧ n j < 1000) → i + m ≤ 400 → bs.length ≤ 40 → m < fu → (∀ j, j < 5 → τ (t + 13) j = f j) → ∃ τ', am_loop (f_X1_isHolding_b14 (S, ρ) (t + 9) (Int32.ofNat (i + m))) fu (Int32.ofNat i, τ) = some τ' ∧ cst t τ' (evn f s n i m st) ∧ kz t τ τ'
  | 0, i, fu + 1, τ, bs, st, bs', h, g, hc, hs, h4, hl, hfu, hf => by
    refine ⟨τ, ?_, hc, fun _ _ _ _ => rfl⟩
    rw [am_loop_s]
    unfold f_X1_isHolding_b14
    simp only [Nat.add_zero]
    rw [if_neg (lt_n (by omega))]
    rfl
  | m + 1, i, fu + 1, τ, bs, st, bs', h, g, hc, hs, h4, hl, hfu, hf => by
    have h' : (ck1 bs (s i)).bind (fun st' => ckn s (i + 1) m st') = some bs' := h
    cases e : ck1 bs (s i) with
    | none => rw [e] at h'; cases h'
    | some b1 =>
      rw [e] at h'
      obtain ⟨q1, q2⟩ := hs i (Nat.le_refl _) (by omega)
      obtain ⟨τ1, a1, a2, a3⟩ := c_step hr ht e q2 hl g hc hf
      have hln : am_ln (t + 12) = 400 := by rcases ht with rfl | rfl | rfl <;> decide
      obtain ⟨τ', b1', b2, b3⟩ := c_run hr ht (S := S) (f := f) m (i + 1) fu τ1 b1 _ bs' h' (ev_typ (f := f) (n := n i) e g) a2 (fun j h1 h2 => by rw [a3 (t + 12) j (by omega) (by omega)]; exact hs j (by omega) (by omega)) (by omega) (ck_len e hl) (by omega) (fun j hj => by rw [a3 (t + 13) j (by omega) (by omega)]; exact hf j hj)
      refine ⟨τ', ?_, b2, kz_tr a3 b3⟩
      have hb : f_X1_isHolding_b14 (S, ρ) (t + 9) (Int32.ofNat (i + 1 + m)) (Int32.ofNat i, τ) = some (.inl (Int32.ofNat (i + 1), τ1)) := by
        unfold f_X1_isHolding_b14
        simp only
        rw [if_pos (lt_y (by omega) (by omega)), if_pos (show Int32.ofNat i < 400 from (on_lt (b := 400) (by omega) (by decide)).mpr (by omega)), rd_l hr ht (show (4, 3, 12) ∈ _ by decide), bnd, ld_on (by rw [hln]; omega) (by omega), q1, bnd, a1, bnd, on_s]
      rw [show i + (m + 1) = i + 1 + m by omega, am_loop_s, hb]
      exact b1'
theorem c_hold {a b : Nat} (hr : rh ρ a b) (ht : tn t) {τ : sg} {f : Nat → Int32} {s n : Nat → Nat} {x y : Nat} (hxy : x ≤ y) (hy : y ≤ 400) (hk : x = y ∨ ckn s x (y - x) [] = some [false]) (hs : ∀ j, x ≤ j → j < y → τ (t + 12) j = enc (s j) (n j) ∧ n j < 1000) (hf : ∀ j, j < 5 → τ (t + 13) j = f j) : ∃ τ', f_X1_isHolding (τ, ρ) (t + 9) (Int32.ofNat x) (Int32.ofNat y) = some (bi (hldL f s n x y), τ') ∧ kz t τ τ' := by
  unfold f_X1_isHolding hldL
  by_cases e : x = y
  · rw [if_pos (by rw [e]), if_pos e]
    exact ⟨τ, rfl, fun _ _ _ _ => rfl⟩
  · rw [if_neg (fun z => e ((on_inj (by omega) (by omega)).mp z)), if_neg e]
    have hc := hk.resolve_left e
    have k0 : kz t τ (am_u2 τ (t + 9) 7 0) := fun o j q _ => by unfold am_u2; rw [if_neg q]
    obtain ⟨τ1, a1, a2, a3⟩ := c_run hr ht (S := am_u2 τ (t + 9) 7 0) (f := f) (s := s) (n := n) (y - x) x am_fuel (am_u2 τ (t + 9) 7 0) [] [] [false] hc trivial ⟨by rw [u2_eq]; rfl, trivial⟩ (fun j h1 h2 => by rw [k0 (t + 12) j (by omega) (by omega)]; exact hs j h1 (by omega)) (by omega) (by decide) (Nat.lt_of_le_of_lt (show y - x ≤ 400 by omega) (by decide)) (fun j hj => by rw [k0 (t + 13) j (by omega) (by omega)]; exact hf j hj)
    rw [show x + (y - x) = y by omega] at a1
    have ty := evn_typ (f := f) (n := n) (y - x) x [] [false] [] hc trivial
    obtain ⟨v, r, hv, hv2, hr2⟩ := typ_1 ty
    have hr0 : r = [] := by
      cases r with
      | nil => rfl
      | cons _ _ => exact False.elim hr2
    subst hr0
    rw [hv] at a2
    obtain ⟨τ2, b1, b2, b3⟩ := c_pop hr ht (show ([v] : List Int32).length ≤ 40 from by show 1 ≤ 40; decide) a2
    simp only
    rw [a1, bnd, b1, bnd, hv]
    have hk2 : kz t τ τ2 := kz_tr (kz_tr k0 a3) b3
    rcases hv2 rfl with rfl | rfl
    · exact ⟨τ2, rfl, hk2⟩
    · exact ⟨τ2, rfl, hk2⟩
def lfx (w : wg) (h v : Nat) (mi : Int32) (j : Nat) : Int32 := if j = 0 then Int32.ofNat h else if j = 1 then w (11 + 15 * h) else if j = 2 then w (128 + v) else if j = 3 then Int32.ofNat (mnN (wx w h v)) else mi
def tnF (w : wg) (L : Nat) (e s n : Nat → Nat) (h v : Nat) (mi : Int32) : Int32 := sm (fun k => if hldL (lfx w h v mi) s n (e k) (e (k + 1)) = true then w (187 + 3 * k) else 0) L
def kz3 (t : Nat) (σ τ : sg) : Prop := ∀ o j, ¬ (o = t + 9 ∧ j = 7) → o ≠ t + 13 → o ≠ t + 14 → τ o j = σ o j
theorem kz3_ag {σ τ : sg} (ht : tn t) (h : kz3 t σ τ) : ag σ τ := fun o j e => by
  refine h o j ?_ ?_ ?_
  · rintro ⟨rfl, rfl⟩
    rcases ht with rfl | rfl | rfl <;> (revert e; decide)
  · rintro rfl; rw [es_0 (es_t ht).2.2.2.2.2.2.2.2.2.2.2.2.2.1] at e; cases e
  · rintro rfl; rw [es_0 (es_t ht).2.2.2.2.2.2.2.2.2.2.2.2.2.2.1] at e; cases e
theorem sm_s {g : Nat → Int32} {n : Nat} : sm g (n + 1) = sm g n + g n := rfl
/-- the class reckons a turn -/
theorem c_turn (H : tS σ ρ t w) {h v : Nat} (hh : h < nH w) (hv : v < nW w) {mi : Int32} : ∃ υ, kz3 t σ υ ∧ (∀ j, j < 5 → υ (t + 13) j = lfx w h v mi j) ∧ f_X1_turnOf (σ, ρ) (t + 9) t (Int32.ofNat h) (Int32.ofNat v) mi = (am_loop (f_X1_turnOf_b74 (υ, ρ) (t + 9)) am_fuel (0, 0, 0, υ)).bind (fun t18 => some (t18.1, t18.2)) := by
  obtain ⟨a, b, hr⟩ := H.1
  have ht := H.2.1
  have hH := (wv_H H.2.2.2).2
  have hW := (wv_W H.2.2.2).2
  have hln : am_ln (t + 13) = 5 := by rcases ht with rfl | rfl | rfl <;> decide
  have hln4 : am_ln (t + 4) = 8 := by rcases ht with rfl | rfl | rfl <;> decide
  have hes : es_l.getD (t + 13) 0 = 0 := (es_t ht).2.2.2.2.2.2.2.2.2.2.2.2.2.1
  have g1 : ∀ x, ag σ (am_u2 σ (t + 13) 0 x) := fun x => ag_u0 hes ag_rf
  have g2 : ∀ x y, ag σ (am_u2 (am_u2 σ (t + 13) 0 x) (t + 13) 1 y) := fun x y => ag_u0 hes (g1 x)
  have g3 : ∀ x y z, ag σ (am_u2 (am_u2 (am_u2 σ (t + 13) 0 x) (t + 13) 1 y) (t + 13) 2 z) := fun x y z => ag_u0 hes (g2 x y)
  have hx := wx_lt H.2.2.2 (a := h) (v := v)
  have hmi : f_X11_minutesOf (zw (wx w h v)) = some (Int32.ofNat (mnN (wx w h v))) := by
    by_cases z : wx w h v = 0
    · rw [z, zw_0, w_min0]; rfl
    · rw [zw_p z, (w_min (show wx w h v < 1024 by omega)).2.1]
  have hco : σ (t + 4) h = w (11 + 15 * h) := (H.2.2.1.2.1 h hh).2.2.2.1
  refine ⟨am_u2 (am_u2 (am_u2 (am_u2 (am_u2 σ (t + 13) 0 (Int32.ofNat h)) (t + 13) 1 (w (11 + 15 * h))) (t + 13) 2 (w (128 + v))) (t + 13) 3 (Int32.ofNat (mnN (wx w h v)))) (t + 13) 4 mi, fun o j q1 q2 q3 => by rw [u2_ne q2, u2_ne q2, u2_ne q2, u2_ne q2, u2_ne q2], fun j hj => ?_, ?_⟩
  · have : j = 0 ∨ j = 1 ∨ j = 2 ∨ j = 3 ∨ j = 4 := by omega
    rcases this with rfl | rfl | rfl | rfl | rfl
    · rw [u2_nj (by decide), u2_nj (by decide), u2_nj (by decide), u2_nj (by decide), u2_eq]; rfl
    · rw [u2_nj (by decide), u2_nj (by decide), u2_nj (by decide), u2_eq]; rfl
    · rw [u2_nj (by decide), u2_nj (by decide), u2_eq]; rfl
    · rw [u2_nj (by decide), u2_eq]; rfl
    · rw [u2_eq]; rfl
  · have s0 : ∀ (τ : sg) (x : Int32), am_st τ (t + 13) 0 x = some (am_u2 τ (t + 13) 0 x) := fun τ x => st_on (k := 0) (by rw [hln]; decide) (by decide)
    have s1 : ∀ (τ : sg) (x : Int32), am_st τ (t + 13) 1 x = some (am_u2 τ (t + 13) 1 x) := fun τ x => st_on (k := 1) (by rw [hln]; decide) (by decide)
    have s2 : ∀ (τ : sg) (x : Int32), am_st τ (t + 13) 2 x = some (am_u2 τ (t + 13) 2 x) := fun τ x => st_on (k := 2) (by rw [hln]; decide) (by decide)
    have s3 : ∀ (τ : sg) (x : Int32), am_st τ (t + 13) 3 x = some (am_u2 τ (t + 13) 3 x) := fun τ x => st_on (k := 3) (by rw [hln]; decide) (by decide)
    have s4 : ∀ (τ : sg) (x : Int32), am_st τ (t + 13) 4 x = some (am_u2 τ (t + 13) 4 x) := fun τ x => st_on (k := 4) (by rw [hln]; decide) (by decide)
    unfold f_X1_turnOf
    simp only [rd_l hr ht (show (5, 1, 13) ∈ _ by decide), bnd, s0]
    rw [c_hh (tS_ag H (g1 _)) hh]
    simp only [bnd, i10, if_false, rd_t hr ht (show (9, 1, 4) ∈ _ by decide)]
    rw [ld_on (by rw [hln4]; omega) (by omega), u2_ne (by omega), hco]
    simp only [bnd, s1]
    rw [c_ur (tS_ag H (g2 _ _)) (by omega), ← (ux_w H.2.2.2 hv).1]
    simp only [bnd, s2]
    rw [c_wf (tS_ag H (g3 _ _ _)) (by omega) (by omega)]
    simp only [bnd, hmi, s3, s4]
theorem c_turnL (H : tS σ ρ t w) {L : Nat} {e s n : Nat → Nat} (hO : lwO w L e s n) (hL : σ (t + 9) 0 = Int32.ofNat L) (h2 : ∀ k, k < L → σ (t + 10) k = w (187 + 3 * k) ∧ σ (t + 11) k = Int32.ofNat (e (k + 1))) (h3 : ∀ i, i < e L → σ (t + 12) i = enc (s i) (n i)) {h v : Nat} (hh : h < nH w) (hv : v < nW w) {mi : Int32} : ∃ τ, f_X1_turnOf (σ, ρ) (t + 9) t (Int32.ofNat h) (Int32.ofNat v) mi = some (tnF w L e s n h v mi, τ) ∧ kz3 t σ τ := by
  obtain ⟨υ, u1, u2, u3⟩ := c_turn H hh hv (mi := mi)
  obtain ⟨a, b, hr⟩ := H.1
  have ht := H.2.1
  obtain ⟨o1, o2, o3, o4, o5, o6⟩ := hO
  have hmono : ∀ j k, j ≤ k → k ≤ L → e j ≤ e k := by
    intro j k
    induction k with
    | zero => intro h _; have : j = 0 := by omega
              subst this; exact Nat.le_refl _
    | succ k ih =>
      intro h1 h2
      by_cases z : j = k + 1
      · subst z; exact Nat.le_refl _
      · have := ih (by omega) (by omega)
        have := (o5 k (by omega)).1
        omega
  have l10 : am_ln (t + 10) = 12 := by rcases ht with rfl | rfl | rfl <;> decide
  have l11 : am_ln (t + 11) = 12 := by rcases ht with rfl | rfl | rfl <;> decide
  obtain ⟨d, d1, d2, d3⟩ := lp_rule (body := f_X1_turnOf_b74 (υ, ρ) (t + 9)) L (fun k y => y.1 = sm (fun k => if hldL (lfx w h v mi) s n (e k) (e (k + 1)) = true then w (187 + 3 * k) else 0) k ∧ y.2.1 = Int32.ofNat (e k) ∧ y.2.2.1 = Int32.ofNat k ∧ kz t υ y.2.2.2) (fun (d : Int32 × sg) => d.1 = tnF w L e s n h v mi ∧ kz t υ d.2) (x := (0, 0, 0, υ)) ⟨rfl, by rw [o3]; rfl, rfl, fun _ _ _ _ => rfl⟩ (fun k y hk hy => by
    obtain ⟨x, fr, ln, τ⟩ := y
    obtain ⟨y1, y2, y3, y4⟩ := hy
    simp only at y1 y2 y3 y4
    subst y1 y2 y3
    have kk : ∀ o j, ¬ (o = t + 9 ∧ j = 7) → o ≠ t + 13 → o ≠ t + 14 → τ o j = σ o j := fun o j a b c => (y4 o j a c).trans (u1 o j a b c)
    unfold f_X1_turnOf_b74
    simp only [kk (t + 9) 0 (by omega) (by omega) (by omega), hL]
    by_cases c : k < L
    · left
      have m1 := hmono k L (by omega) (Nat.le_refl _)
      have m2 := hmono (k + 1) L (by omega) (Nat.le_refl _)
      obtain ⟨p1, p2, p3, p4⟩ := o5 k c
      rw [if_pos (lt_y c (by omega)), if_pos (show Int32.ofNat k < 12 from (on_lt (b := 12) (by omega) (by decide)).mpr (by omega)), rd_l hr ht (show (3, 1, 11) ∈ _ by decide), bnd, ld_on (by rw [l11]; omega) (by omega), kk (t + 11) k (by omega) (by omega) (by omega), (h2 k c).2, bnd]
      obtain ⟨τ1, c1, c2⟩ := c_hold (τ := τ) hr ht (f := lfx w h v mi) (s := s) (n := n) p1 (by omega) p4 (fun j h1 h2 => by rw [kk (t + 12) j (by omega) (by omega) (by omega)]; exact ⟨h3 j (by omega), (o6 j (by omega)).2.2.2⟩) (fun j hj => by rw [y4 (t + 13) j (by omega) (by omega)]; exact u2 j hj)
      rw [c1, bnd]
      simp only
      rw [bi_f]
      have kk1 : ∀ o j, ¬ (o = t + 9 ∧ j = 7) → o ≠ t + 13 → o ≠ t + 14 → τ1 o j = σ o j := fun o j a b c => (c2 o j a c).trans (kk o j a b c)
      rw [rd_l hr ht (show (2, 1, 10) ∈ _ by decide), bnd, ld_on (by rw [l10]; omega) (by omega), kk1 (t + 10) k (by omega) (by omega) (by omega), (h2 k c).1, bnd]
      have hif : (if hldL (lfx w h v mi) s n (e k) (e (k + 1)) = true then some (sm (fun k => if hldL (lfx w h v mi) s n (e k) (e (k + 1)) = true then w (187 + 3 * k) else 0) k + w (187 + 3 * k)) else some (sm (fun k => if hldL (lfx w h v mi) s n (e k) (e (k + 1)) = true then w (187 + 3 * k) else 0) k)) = some (sm (fun k => if hldL (lfx w h v mi) s n (e k) (e (k + 1)) = true then w (187 + 3 * k) else 0) (k + 1)) := by
        rw [sm_s]
        by_cases z : hldL (lfx w h v mi) s n (e k) (e (k + 1)) = true
        · rw [if_pos z, if_pos z]
        · rw [if_neg z, if_neg z, Int32.add_zero]
      rw [hif, bnd, bnd, ld_on (by rw [l11]; omega) (by omega), kk1 (t + 11) k (by omega) (by omega) (by omega), (h2 k c).2, bnd, on_s]
      exact ⟨_, rfl, c, rfl, rfl, rfl, kz_tr y4 c2⟩
    · right
      have : k = L := by omega
      subst this
      rw [if_neg (lt_n (by omega))]
      exact ⟨_, rfl, rfl, y4⟩) (by omega)
  refine ⟨d.2, ?_, fun o j q1 q2 q3 => (d3 o j q1 q3).trans (u1 o j q1 q2 q3)⟩
  rw [u3, d1, bnd, d2]
end TO
