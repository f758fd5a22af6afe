/-! hush, undo, buy, trade, end, fault, count -/
/-- a plain answer with a change -/
def Rp (C : Option (Int32 × sg)) (ρ : rg) (M : am_S → Option (Int32 × sg)) : Prop := ∃ r σ1 σ2, C = some (r, σ1) ∧ M (σ1, ρ) = some (r, σ2) ∧ Inv (σ2, ρ)
section ST2
variable {σ : sg} {ρ : rg} {t u : Nat} {w wi : wg}
/-- fewer ringings -/
def rgF (w : wg) (n : Nat) : wg := fun k => if k = 4 then Int32.ofNat n else w k
theorem rgF_rch {n : Nat} : rch w (rgF w n) := fun k h _ => if_neg h
theorem rgF_ne {n k : Nat} (h : k ≠ 4) : rgF w n k = w k := if_neg h
theorem rgF_wv (hw : wv w) {n : Nat} (hn : n ≤ nR w) : wv (rgF w n) ∧ nR (rgF w n) = n := by
  have hR := (wv_R hw).2
  refine wv_rch hw rgF_rch (if_pos rfl) (by omega) (fun r hr => ?_)
  rw [rgF_ne (by omega), rgF_ne (by omega), rgF_ne (by omega), rgF_ne (by omega)]
  exact wv_r hw (by omega)
theorem fewer (I : Iv σ ρ t u w wi) {n : Nat} (hn : n ≤ nR w) : Iv (am_u2 (am_u2 (am_u2 σ (t + 15) 0 (Int32.ofNat n)) 105 0 0) 106 4 (Int32.ofNat n)) ρ t u (rgF w n) wi := by
  have t1 : t = 2 ∨ t = 24 := by rcases I.1.2.1 with ⟨h, -⟩ | ⟨h, -⟩ <;> omega
  obtain ⟨d1, d2⟩ := rgF_wv I.2.2.1 hn
  have q : ∀ o j, o ≠ 106 → ¬ (o = 105 ∧ j = 0) → ¬ (o = t + 15 ∧ j = 0) → am_u2 (am_u2 (am_u2 σ (t + 15) 0 (Int32.ofNat n)) 105 0 0) 106 4 (Int32.ofNat n) o j = σ o j := fun o j a b c => by
    rw [u2_ne a]
    unfold am_u2
    rw [if_neg b, if_neg c]
  refine Iv_kp I (fun o j e a b c => q o j a (by rintro ⟨rfl, rfl⟩; revert e; decide) (by omega)) (fun k hk => ?_) d1 ?_
  · by_cases e : k = 4
    · subst e; rw [u2_eq]; rfl
    · rw [u2_nj e, u2_ne (by decide), u2_ne (by omega), rgF_ne e]; exact I.2.1 k hk
  · refine tw_rch I.2.2.2.1 I.2.2.1 rgF_rch (fun o a b => funext (fun j => q o j (by omega) (by omega) (by omega))) ⟨?_, fun r hr => ?_⟩
    · rw [u2_ne (by omega), u2_ne (by omega), u2_eq]; rfl
    · rw [d2] at hr
      rw [q _ r (by omega) (by omega) (by omega), q _ r (by omega) (by omega) (by omega), q _ r (by omega) (by omega) (by omega), q _ r (by omega) (by omega) (by omega), rgF_ne (by omega), rgF_ne (by omega), rgF_ne (by omega), rgF_ne (by omega)]
      exact I.2.2.2.1.2.2.2.2.2.1.2 r (by omega)
theorem q_hush (I : Iv σ ρ t u w wi) : Rp (f_X11_hush (σ, ρ) 0) ρ (fun S => f_X12_hush S 105) := by
  have t1 : t = 2 ∨ t = 24 := by rcases I.1.2.1 with ⟨h, -⟩ | ⟨h, -⟩ <;> omega
  refine ⟨Int32.ofNat (nR w), am_u2 σ (t + 15) 0 0, am_u2 (am_u2 (am_u2 σ (t + 15) 0 (Int32.ofNat 0)) 105 0 0) 106 4 (Int32.ofNat 0), ?_, ?_, t, u, rgF w 0, wi, fewer I (by omega)⟩
  · unfold f_X11_hush
    simp only [c_now I, c_rg I, Option.bind_some, c_R (Iv_t I)]
  · show f_X12_hush _ 105 = _
    unfold f_X12_hush
    simp only [M_w (Iv_w I), Option.bind_some]
    rw [show (4 : Int32) = Int32.ofNat 4 from rfl, ld_on (by rw [ln_106]; omega) (by omega), u2_ne (by decide), u2_ne (by omega), I.2.1 4 (by decide), (wv_R I.2.2.1).1]
    simp only [Option.bind_some]
    rw [st_on (by rw [ln_106]; omega) (by omega)]
    rfl
theorem q_undo (I : Iv σ ρ t u w wi) : Rp (f_X11_undo (σ, ρ) 0) ρ (fun S => f_X12_undo S 105) := by
  have t1 : t = 2 ∨ t = 24 := by rcases I.1.2.1 with ⟨h, -⟩ | ⟨h, -⟩ <;> omega
  have hR := (wv_R I.2.2.1).2
  by_cases e : nR w = 0
  · refine ⟨-1, σ, am_u2 σ 105 0 0, ?_, ?_, t, u, w, wi, Iv_ag I ag2_z.1⟩
    · unfold f_X11_undo
      simp only [c_now I, c_rg I, Option.bind_some, c_R (Iv_t I), e]
      rfl
    · show f_X12_undo _ 105 = _
      unfold f_X12_undo
      simp only [M_w (Iv_w I), Option.bind_some, M_rc (wS_z (Iv_w I)), e]
      rfl
  · have hs : Int32.ofNat (nR w) - 1 = Int32.ofNat (nR w - 1) := by rw [show (1 : Int32) = Int32.ofNat 1 from rfl, on_sub (by omega)]
    refine ⟨Int32.ofNat (nR w - 1), am_u2 σ (t + 15) 0 (Int32.ofNat (nR w - 1)), am_u2 (am_u2 (am_u2 σ (t + 15) 0 (Int32.ofNat (nR w - 1))) 105 0 0) 106 4 (Int32.ofNat (nR w - 1)), ?_, ?_, t, u, rgF w (nR w - 1), wi, fewer I (by omega)⟩
    · unfold f_X11_undo
      simp only [c_now I, c_rg I, Option.bind_some, c_R (Iv_t I)]
      rw [if_pos ((on_pos (by omega)).mpr (by omega)), hs, u2_eq]
    · show f_X12_undo _ 105 = _
      unfold f_X12_undo
      simp only [M_w (Iv_w I), Option.bind_some]
      rw [show (4 : Int32) = Int32.ofNat 4 from rfl, ld_on (by rw [ln_106]; omega) (by omega), u2_ne (by decide), u2_ne (by omega), I.2.1 4 (by decide), (wv_R I.2.2.1).1]
      simp only [Option.bind_some]
      rw [if_neg (fun z => e ((on_z (by omega)).mp z)), hs, st_on (by rw [ln_106]; omega) (by omega)]
      simp only [Option.bind_some]
      rw [ld_on (by rw [ln_106]; omega) (by omega), u2_eq]
      rfl
theorem q_fault (I : Iv σ ρ t u w wi) : ∃ v σ2, f_X11_fault (σ, ρ) 0 = some v ∧ f_X12_fault (σ, ρ) 105 = some (v, σ2) ∧ Inv (σ2, ρ) :=
  ⟨σ 0 2, am_u2 σ 105 0 0, rfl, by unfold f_X12_fault; simp only [u2_nj (show 11 ≠ 0 by decide)]; rw [I.2.2.2.2.2.1], t, u, w, wi, Iv_ag I ag2_z.1⟩
/-- the tape's length: it may be cut -/
theorem tape_cut (I : Iv σ ρ t u w wi) {m : Nat} (hm : ∀ n, σ 0 1 = Int32.ofNat n → n ≤ 400 → m ≤ n) : Iv (am_u2 (am_u2 (am_u2 σ 0 1 (Int32.ofNat m)) 105 0 0) 105 6 (Int32.ofNat m)) ρ t u w wi := by
  obtain ⟨a1, a2, a3, a4, ⟨n, n1, n2, n3, n4⟩, a6, a7, a8⟩ := I
  have hmn := hm n n2 n1
  have t1 : t = 2 ∨ t = 24 := by rcases a1.2.1 with ⟨h, -⟩ | ⟨h, -⟩ <;> omega
  have q : ∀ o, o ≠ 0 → o ≠ 105 → am_u2 (am_u2 (am_u2 σ 0 1 (Int32.ofNat m)) 105 0 0) 105 6 (Int32.ofNat m) o = σ o := fun o a b => by rw [u2_row b, u2_row b, u2_row a]
  have q2 : ∀ b, tn b → ∀ k, am_u2 (am_u2 (am_u2 σ 0 1 (Int32.ofNat m)) 105 0 0) 105 6 (Int32.ofNat m) (b + k) = σ (b + k) ∨ 20 < k := fun b hb k => by
    by_cases z : 20 < k
    · exact Or.inr z
    · left; rcases hb with rfl | rfl | rfl <;> exact q _ (by omega) (by omega)
  have twc : ∀ b x, tn b → tw σ b x → tw (am_u2 (am_u2 (am_u2 σ 0 1 (Int32.ofNat m)) 105 0 0) 105 6 (Int32.ofNat m)) b x := fun b x hb h => by
    have g : ∀ k, k ≤ 20 → am_u2 (am_u2 (am_u2 σ 0 1 (Int32.ofNat m)) 105 0 0) 105 6 (Int32.ofNat m) (b + k) = σ (b + k) := fun k hk => (q2 b hb k).resolve_right (by omega)
    exact tw_cg h (g 0 (by omega)) (g 1 (by omega)) (g 2 (by omega)) (g 3 (by omega)) (g 4 (by omega)) (g 5 (by omega)) (g 6 (by omega)) (g 7 (by omega)) (g 8 (by omega)) (by rw [g 9 (by omega)]) (g 10 (by omega)) (g 11 (by omega)) (g 12 (by omega)) (by rw [g 15 (by omega)]) (g 16 (by omega)) (g 17 (by omega)) (g 18 (by omega)) (g 19 (by omega))
  refine ⟨a1, fun k hk => by rw [q 106 (by decide) (by decide)]; exact a2 k hk, a3, twc t w (rh_tn a1).1 a4, ⟨m, by omega, ?_, u2_eq, fun k hk => ?_⟩, ?_, ⟨?_, ?_⟩, ?_⟩
  · rw [u2_ne (by decide), u2_ne (by decide), u2_eq]
  · rw [q 109 (by decide) (by decide), q 1 (by decide) (by decide)]; exact n4 k (by omega)
  · rw [u2_ne (by decide), u2_ne (by decide), u2_nj (by decide), u2_nj (by decide), u2_nj (by decide), u2_ne (by decide)]; exact a6
  · rw [u2_ne (by decide), u2_ne (by decide), u2_nj (by decide), u2_nj (by decide), u2_nj (by decide), u2_ne (by decide)]; exact a7.1
  · rw [u2_ne (by decide), u2_ne (by decide), u2_nj (by decide), q 107 (by decide) (by decide)]
    exact a7.2.imp id (fun z => ⟨z.1, z.2.1, z.2.2.1, twc 46 wi (Or.inr (Or.inr rfl)) z.2.2.2⟩)
  · intro b hb i hi
    rw [(q2 b hb 12).resolve_right (by omega)]
    exact a8 b hb i hi
theorem q_end (I : Iv σ ρ t u w wi) (p : Int32) : Rp (f_X11_end (σ, ρ) 0 p) ρ (fun S => f_X12_end S 105 p) := by
  obtain ⟨n, n1, n2, n3, n4⟩ := I.2.2.2.2.1
  by_cases a : p < 0
  · refine ⟨0, σ, am_u2 σ 105 0 0, ?_, ?_, t, u, w, wi, Iv_ag I ag2_z.1⟩
    · unfold f_X11_end; rw [if_pos a]
    · show f_X12_end _ 105 p = _
      unfold f_X12_end; rw [if_pos a]
  · obtain ⟨m, hm, rfl⟩ := i_of a
    by_cases b : n < m
    · refine ⟨0, σ, am_u2 σ 105 0 0, ?_, ?_, t, u, w, wi, Iv_ag I ag2_z.1⟩
      · unfold f_X11_end
        simp only [n2]
        rw [if_neg a, if_pos ((on_lt (by omega) hm).mpr b)]
      · show f_X12_end _ 105 _ = _
        unfold f_X12_end
        simp only [u2_nj (show 6 ≠ 0 by decide), n3]
        rw [if_neg a, if_pos ((on_lt (by omega) hm).mpr b)]
    · refine ⟨1, am_u2 σ 0 1 (Int32.ofNat m), am_u2 (am_u2 (am_u2 σ 0 1 (Int32.ofNat m)) 105 0 0) 105 6 (Int32.ofNat m), ?_, ?_, t, u, w, wi, tape_cut I (fun n' e1 e2 => by rw [n2] at e1; have := (on_inj (by omega) (by omega)).mp e1; omega)⟩
      · unfold f_X11_end
        simp only [n2]
        rw [if_neg a, if_neg (fun z => b ((on_lt (by omega) hm).mp z))]
      · show f_X12_end _ 105 _ = _
        unfold f_X12_end
        simp only [u2_nj (show 6 ≠ 0 by decide), u2_ne (show 105 ≠ 0 by decide), n3]
        rw [if_neg a, if_neg (fun z => b ((on_lt (by omega) hm).mp z))]
/-! counts -/
def snw (w : wg) : Int32 := sm (fun h => nw w h) (nH w)
def sco (w : wg) : Int32 := sm (fun h => w (11 + 15 * h)) (nH w)
def smi (w : wg) : Int32 := sm (fun h => sm (fun v => Int32.ofNat (mnN (wx w h v))) (nW w)) (nH w)
theorem q_count (I : Iv σ ρ t u w wi) (p : Int32) : ∃ v σ2, f_X11_count (σ, ρ) 0 p = some v ∧ f_X12_count (σ, ρ) 105 p = some (v, σ2) ∧ Inv (σ2, ρ) := by
  have hH := (wv_H I.2.2.1).2
  have hW := (wv_W I.2.2.1).2
  have H := wS_z (Iv_w I)
  have T := Iv_t I
  have fld := I.2.2.2.1.1
  have ld : ∀ k, k < 1023 → am_ld (am_u2 σ 105 0 0) 106 (Int32.ofNat k) = some (w k) := fun k hk => M_ld H hk
  have fin : ∀ v, f_X11_count (σ, ρ) 0 p = some v → f_X12_count (σ, ρ) 105 p = some (v, am_u2 σ 105 0 0) → ∃ v σ2, f_X11_count (σ, ρ) 0 p = some v ∧ f_X12_count (σ, ρ) 105 p = some (v, σ2) ∧ Inv (σ2, ρ) := fun v h1 h2 => ⟨v, _, h1, h2, t, u, w, wi, Iv_ag I ag2_z.1⟩
  rcases dic 11 p with ⟨k, hk, rfl⟩ | hp
  · have e : k = 0 ∨ k = 1 ∨ k = 2 ∨ k = 3 ∨ k = 4 ∨ k = 5 ∨ k = 6 ∨ k = 7 ∨ k = 8 ∨ k = 9 ∨ k = 10 := by omega
    rcases e with rfl | rfl | rfl | rfl | rfl | rfl | rfl | rfl | rfl | rfl | rfl
    · refine fin (Int32.ofNat (nH w)) ?_ ?_
      · unfold f_X11_count; rw [if_pos (by decide)]; simp only [c_now I, Option.bind_some, c_H T]
      · unfold f_X12_count; rw [if_pos (by decide)]; simp only [M_houses H, Option.bind_some]
    · refine fin (Int32.ofNat (nW w)) ?_ ?_
      · unfold f_X11_count; rw [if_neg (by decide), if_pos (by decide)]; simp only [c_now I, Option.bind_some, c_W T]
      · unfold f_X12_count; rw [if_neg (by decide), if_pos (by decide)]; simp only [M_wants H, Option.bind_some]
    · refine fin (w 2) ?_ ?_
      · unfold f_X11_count; rw [if_neg (by decide), if_neg (by decide), if_pos (by decide)]; simp only [c_now I, Option.bind_some, fld.2.2.1]
      · unfold f_X12_count; rw [if_neg (by decide), if_neg (by decide), if_pos (by decide)]; simp only [M_w H, Option.bind_some, show (2 : Int32) = Int32.ofNat 2 from rfl, ld 2 (by decide)]
    · refine fin (if w 3 = 1 then w 186 else -1) ?_ ?_
      · unfold f_X11_count; rw [if_neg (by decide), if_neg (by decide), if_neg (by decide), if_pos (by decide)]
        simp only [c_now I, Option.bind_some, rd_t I.1 (rh_tn I.1).1 (show (14, 101, 9) ∈ _ by decide)]
        rcases I.2.2.2.1.2.2.2.2.2.2 with ⟨a, b⟩ | ⟨a, L, e, s, n, b, c, -⟩
        · rw [b, a]; rfl
        · rw [c, a, b.2.1]; rfl
      · unfold f_X12_count; rw [if_neg (by decide), if_neg (by decide), if_neg (by decide), if_pos (by decide)]
        simp only [M_w H, Option.bind_some]
        rw [show (3 : Int32) = Int32.ofNat 3 from rfl, ld 3 (by decide), show (186 : Int32) = Int32.ofNat 186 from rfl, ld 186 (by decide)]
        simp only [Option.bind_some]
        by_cases c : w 3 = 1 <;> simp [c]
    · refine fin (Int32.ofNat (nR w)) ?_ ?_
      · unfold f_X11_count; rw [if_neg (by decide), if_neg (by decide), if_neg (by decide), if_neg (by decide), if_pos (by decide)]; simp only [c_now I, c_rg I, Option.bind_some, c_R T]
      · unfold f_X12_count; rw [if_neg (by decide), if_neg (by decide), if_neg (by decide), if_neg (by decide), if_pos (by decide)]; simp only [M_w H, Option.bind_some, M_rc H]
    · refine fin (snw w) ?_ ?_
      · unfold f_X11_count; rw [if_neg (by decide), if_neg (by decide), if_neg (by decide), if_neg (by decide), if_neg (by decide), if_pos (by decide)]
        simp only [c_now I, Option.bind_some]
        unfold f_X9_wordsOfAll
        rw [lp_sum (fun h => nw w h) (nH w) 0 (fun k a hk => ?_) (fun a => ?_) (by omega)]
        · simp only [Option.bind_some, Int32.zero_add]; rfl
        · unfold f_X9_wordsOfAll_b4
          simp only [c_H T]
          rw [if_pos (lt_y hk (by omega)), c_wordsOf T (by omega)]
          simp only [Option.bind_some, on_s]
        · unfold f_X9_wordsOfAll_b4
          simp only [c_H T]
          rw [if_neg (lt_n (by omega))]
      · unfold f_X12_count; rw [if_neg (by decide), if_neg (by decide), if_neg (by decide), if_neg (by decide), if_neg (by decide), if_pos (by decide), lp_sum (fun h => nw w h) (nH w) 0 (fun k a hk => ?_) (fun a => ?_) (by omega)]
        · simp only [Option.bind_some, Int32.zero_add]; rfl
        · unfold f_X12_count_b117
          simp only [M_houses H, Option.bind_some]
          rw [if_pos (lt_y hk (by omega)), M_wordsOf H hk]
          simp only [Option.bind_some, on_s]
        · unfold f_X12_count_b117
          simp only [M_houses H, Option.bind_some]
          rw [if_neg (lt_n (by omega))]
    · refine fin (sco w) ?_ ?_
      · unfold f_X11_count; rw [if_neg (by decide), if_neg (by decide), if_neg (by decide), if_neg (by decide), if_neg (by decide), if_neg (by decide), if_pos (by decide)]
        simp only [c_now I, Option.bind_some]
        unfold f_X9_coinsOfAll
        have hl := ln_t (rh_tn I.1).1
        rw [lp_sum (fun h => w (11 + 15 * h)) (nH w) 0 (fun k a hk => ?_) (fun a => ?_) (by omega)]
        · simp only [Option.bind_some, Int32.zero_add]; rfl
        · unfold f_X9_coinsOfAll_b4
          simp only [c_H T]
          rw [if_pos (lt_y hk (by omega)), if_pos (show Int32.ofNat k < 8 from (on_lt (b := 8) (by omega) (by decide)).mpr (by omega)), c_row I (q := 4) (by decide) (by omega) (by omega), (I.2.2.2.1.2.1 k hk).2.2.2.1]
          simp only [on_s]
        · unfold f_X9_coinsOfAll_b4
          simp only [c_H T]
          rw [if_neg (lt_n (by omega))]
      · unfold f_X12_count; rw [if_neg (by decide), if_neg (by decide), if_neg (by decide), if_neg (by decide), if_neg (by decide), if_neg (by decide), if_pos (by decide), lp_sum (fun h => w (11 + 15 * h)) (nH w) 0 (fun k a hk => ?_) (fun a => ?_) (by omega)]
        · simp only [Option.bind_some, Int32.zero_add]; rfl
        · unfold f_X12_count_b143
          simp only [M_houses H, Option.bind_some]
          rw [if_pos (lt_y hk (by omega)), show (3 : Int32) = Int32.ofNat 3 from rfl, M_of H (by omega) (by decide)]
          simp only [Option.bind_some, on_s, show 8 + 15 * k + 3 = 11 + 15 * k by omega]
        · unfold f_X12_count_b143
          simp only [M_houses H, Option.bind_some]
          rw [if_neg (lt_n (by omega))]
    · refine fin (w 5) ?_ ?_
      · unfold f_X11_count; rw [if_neg (by decide), if_neg (by decide), if_neg (by decide), if_neg (by decide), if_neg (by decide), if_neg (by decide), if_neg (by decide), if_pos (by decide)]; simp only [c_now I, Option.bind_some, fld.2.2.2.1]
      · unfold f_X12_count; rw [if_neg (by decide), if_neg (by decide), if_neg (by decide), if_neg (by decide), if_neg (by decide), if_neg (by decide), if_neg (by decide), if_pos (by decide)]; simp only [M_w H, Option.bind_some]; rw [show (5 : Int32) = Int32.ofNat 5 from rfl, ld 5 (by decide)]; rfl
    · refine fin (w 6) ?_ ?_
      · unfold f_X11_count; rw [if_neg (by decide), if_neg (by decide), if_neg (by decide), if_neg (by decide), if_neg (by decide), if_neg (by decide), if_neg (by decide), if_neg (by decide), if_pos (by decide)]; simp only [c_now I, Option.bind_some, fld.2.2.2.2.1]
      · unfold f_X12_count; rw [if_neg (by decide), if_neg (by decide), if_neg (by decide), if_neg (by decide), if_neg (by decide), if_neg (by decide), if_neg (by decide), if_neg (by decide), if_pos (by decide)]; simp only [M_w H, Option.bind_some]; rw [show (6 : Int32) = Int32.ofNat 6 from rfl, ld 6 (by decide)]; rfl
    · refine fin (w 7) ?_ ?_
      · unfold f_X11_count; rw [if_neg (by decide), if_neg (by decide), if_neg (by decide), if_neg (by decide), if_neg (by decide), if_neg (by decide), if_neg (by decide), if_neg (by decide), if_neg (by decide), if_pos (by decide)]; simp only [c_now I, Option.bind_some, fld.2.2.2.2.2]
      · unfold f_X12_count; rw [if_neg (by decide), if_neg (by decide), if_neg (by decide), if_neg (by decide), if_neg (by decide), if_neg (by decide), if_neg (by decide), if_neg (by decide), if_neg (by decide), if_pos (by decide)]; simp only [M_w H, Option.bind_some]; rw [show (7 : Int32) = Int32.ofNat 7 from rfl, ld 7 (by decide)]; rfl
    · refine fin (smi w) ?_ ?_
      · unfold f_X11_count; rw [if_neg (by decide), if_neg (by decide), if_neg (by decide), if_neg (by decide), if_neg (by decide), if_neg (by decide), if_neg (by decide), if_neg (by decide), if_neg (by decide), if_neg (by decide), if_pos (by decide)]
        simp only [c_now I, Option.bind_some]
        unfold f_X9_minutesOfAll
        rw [lp_sum (fun h => sm (fun v => Int32.ofNat (mnN (wx w h v))) (nW w)) (nH w) 0 (fun h a hh => ?_) (fun a => ?_) (by omega)]
        · simp only [Option.bind_some, Int32.zero_add]; rfl
        · unfold f_X9_minutesOfAll_b4
          simp only [c_H T]
          rw [if_pos (lt_y hh (by omega)), lp_sum (fun v => Int32.ofNat (mnN (wx w h v))) (nW w) a (fun k a hk => ?_) (fun a => ?_) (by omega)]
          · simp only [Option.bind_some, on_s]
          · unfold f_X9_minutesOfAll_b14
            have hx := wx_lt I.2.2.1 (a := h) (v := k)
            simp only [c_W T]
            rw [if_pos (lt_y hk (by omega)), c_wf T (by omega) (by omega)]
            simp only [Option.bind_some, on_s]
            by_cases z : wx w h k = 0
            · rw [z, zw_0, w_min0]; rfl
            · rw [zw_p z, (w_min (show wx w h k < 1024 by omega)).2.1]; rfl
          · unfold f_X9_minutesOfAll_b14
            simp only [c_W T]
            rw [if_neg (lt_n (by omega))]
        · unfold f_X9_minutesOfAll_b4
          simp only [c_H T]
          rw [if_neg (lt_n (by omega))]
      · unfold f_X12_count; rw [if_neg (by decide), if_neg (by decide), if_neg (by decide), if_neg (by decide), if_neg (by decide), if_neg (by decide), if_neg (by decide), if_neg (by decide), if_neg (by decide), if_neg (by decide), if_pos (by decide), lp_sum (fun h => sm (fun v => Int32.ofNat (mnN (wx w h v))) (nW w)) (nH w) 0 (fun h a hh => ?_) (fun a => ?_) (by omega)]
        · simp only [Option.bind_some, Int32.zero_add]; rfl
        · unfold f_X12_count_b193
          simp only [M_houses H, Option.bind_some]
          rw [if_pos (lt_y hh (by omega)), lp_sum (fun v => Int32.ofNat (mnN (wx w h v))) (nW w) a (fun k a hk => ?_) (fun a => ?_) (by omega)]
          · simp only [Option.bind_some, on_s]
          · unfold f_X12_count_b204
            have hx := wx_lt I.2.2.1 (a := h) (v := k)
            simp only [M_wants H, Option.bind_some]
            rw [if_pos (lt_y hk (by omega)), M_wf H hh hk]
            simp only [Option.bind_some, on_s]
            rw [(w_min (show wx w h k < 1024 by omega)).1]; rfl
          · unfold f_X12_count_b204
            simp only [M_wants H, Option.bind_some]
            rw [if_neg (lt_n (by omega))]
        · unfold f_X12_count_b193
          simp only [M_houses H, Option.bind_some]
          rw [if_neg (lt_n (by omega))]
  · refine fin (-1) ?_ ?_
    · unfold f_X11_count
      rw [if_neg (show p ≠ 0 from hp 0 (by decide)), if_neg (show p ≠ 1 from hp 1 (by decide)), if_neg (show p ≠ 2 from hp 2 (by decide)), if_neg (show p ≠ 3 from hp 3 (by decide)), if_neg (show p ≠ 4 from hp 4 (by decide)), if_neg (show p ≠ 5 from hp 5 (by decide)), if_neg (show p ≠ 6 from hp 6 (by decide)), if_neg (show p ≠ 7 from hp 7 (by decide)), if_neg (show p ≠ 8 from hp 8 (by decide)), if_neg (show p ≠ 9 from hp 9 (by decide)), if_neg (show p ≠ 10 from hp 10 (by decide))]
    · unfold f_X12_count
      rw [if_neg (show p ≠ 0 from hp 0 (by decide)), if_neg (show p ≠ 1 from hp 1 (by decide)), if_neg (show p ≠ 2 from hp 2 (by decide)), if_neg (show p ≠ 3 from hp 3 (by decide)), if_neg (show p ≠ 4 from hp 4 (by decide)), if_neg (show p ≠ 5 from hp 5 (by decide)), if_neg (show p ≠ 6 from hp 6 (by decide)), if_neg (show p ≠ 7 from hp 7 (by decide)), if_neg (show p ≠ 8 from hp 8 (by decide)), if_neg (show p ≠ 9 from hp 9 (by decide)), if_neg (show p ≠ 10 from hp 10 (by decide))]
end ST2
