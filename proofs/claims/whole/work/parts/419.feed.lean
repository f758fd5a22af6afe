/-! feed, image, back -/
def byt (x : Int32) (i : Nat) : Int32 := ((x >>> ((Int32.ofNat (24 - 8 * i)) &&& 31)).toInt8.toInt32).toInt8.toInt32
theorem byt_fit {x : Int32} {i : Nat} : (byt x i).toInt8.toInt32 = byt x i := by unfold byt; simp
theorem bnd {α β : Type} {x : α} {f : α → Option β} : (some x).bind f = f x := by rw [Option.bind_some]
section FD
variable {σ : sg} {ρ : rg} {t u : Nat} {w wi : wg}
theorem rd_tape {a b : Nat} (h : rh ρ a b) : am_rd ρ 0 0 2 = some 1 := rh_rd h (by decide) (by decide) (by decide +kernel)
theorem rd_tapeM {a b : Nat} (h : rh ρ a b) : am_rd ρ 105 5 2 = some 109 := rh_rd h (by decide) (by decide) (by decide +kernel)
theorem rd_five {a b : Nat} (h : rh ρ a b) : am_rd ρ 105 12 1 = some 110 := rh_rd h (by decide) (by decide) (by decide +kernel)
theorem ln_1 : am_ln 1 = 400 := by decide
theorem ln_109 : am_ln 109 = 400 := by decide
theorem ln_110 : am_ln 110 = 5 := by decide
theorem st110_0 (τ : sg) (v : Int32) : am_st τ 110 0 v = some (am_u2 τ 110 0 v) := by
  rw [show (0 : Int32) = Int32.ofNat 0 from rfl]
  exact st_on (by decide) (by decide)
theorem st110_1 (τ : sg) (v : Int32) : am_st τ 110 1 v = some (am_u2 τ 110 1 v) := by
  rw [show (1 : Int32) = Int32.ofNat 1 from rfl]
  exact st_on (by decide) (by decide)
theorem st110_2 (τ : sg) (v : Int32) : am_st τ 110 2 v = some (am_u2 τ 110 2 v) := by
  rw [show (2 : Int32) = Int32.ofNat 2 from rfl]
  exact st_on (by decide) (by decide)
theorem st110_3 (τ : sg) (v : Int32) : am_st τ 110 3 v = some (am_u2 τ 110 3 v) := by
  rw [show (3 : Int32) = Int32.ofNat 3 from rfl]
  exact st_on (by decide) (by decide)
theorem st110_4 (τ : sg) (v : Int32) : am_st τ 110 4 v = some (am_u2 τ 110 4 v) := by
  rw [show (4 : Int32) = Int32.ofNat 4 from rfl]
  exact st_on (by decide) (by decide)
theorem c_put {a b : Nat} (hr : rh ρ a b) {n : Nat} (hn : n + 4 ≤ 400) (h0 : σ 0 1 = Int32.ofNat n) (x : Int32) : ∃ τ, f_X11_putOnTape (σ, ρ) 0 x = some τ ∧ τ 0 1 = Int32.ofNat (n + 4) ∧ (∀ i, i < 4 → τ 1 (n + i) = byt x i) ∧ (∀ j, j < n → τ 1 j = σ 1 j) ∧ (∀ o, o ≠ 0 → o ≠ 1 → τ o = σ o) ∧ (∀ j, j ≠ 1 → τ 0 j = σ 0 j) := by
  obtain ⟨d, h1, h2⟩ := lp_rule (body := f_X11_putOnTape_b3 (σ, ρ) 0 x) 4
    (fun k y => y.1 = 24 - 8 * Int32.ofNat k ∧ y.2 0 1 = Int32.ofNat (n + k) ∧ (∀ i, i < k → y.2 1 (n + i) = byt x i) ∧ (∀ j, j < n → y.2 1 j = σ 1 j) ∧ (∀ o, o ≠ 0 → o ≠ 1 → y.2 o = σ o) ∧ (∀ j, j ≠ 1 → y.2 0 j = σ 0 j))
    (fun d => d 0 1 = Int32.ofNat (n + 4) ∧ (∀ i, i < 4 → d 1 (n + i) = byt x i) ∧ (∀ j, j < n → d 1 j = σ 1 j) ∧ (∀ o, o ≠ 0 → o ≠ 1 → d o = σ o) ∧ (∀ j, j ≠ 1 → d 0 j = σ 0 j))
    (x := (24, σ)) ⟨(show (24 : Int32) = 24 - 8 * Int32.ofNat 0 by decide), h0, fun i hi => absurd hi (by omega), fun _ _ => rfl, fun _ _ _ => rfl, fun _ _ => rfl⟩ (fun k y hk hy => by
      obtain ⟨i, τ⟩ := y
      obtain ⟨rfl, y1, y2, y3, y4, y5⟩ := hy
      simp only at y1 y2 y3 y4 y5
      unfold f_X11_putOnTape_b3
      simp only [y1, rd_tape hr, Option.bind_some]
      by_cases e : k < 4
      · left
        have hsh : (24 - 8 * Int32.ofNat k : Int32) = Int32.ofNat (24 - 8 * k) := by
          rw [show (8 : Int32) = Int32.ofNat 8 from rfl, on_mul, show (24 : Int32) = Int32.ofNat 24 from rfl, on_sub (by omega)]
        have hsh2 : Int32.ofNat (24 - 8 * k) + -8 = 24 - 8 * Int32.ofNat (k + 1) := by
          have : k = 0 ∨ k = 1 ∨ k = 2 ∨ k = 3 := by omega
          rcases this with rfl | rfl | rfl | rfl <;> decide
        rw [hsh, if_neg (on_neg (by omega)), if_pos (show Int32.ofNat (n + k) < 400 from (on_lt (b := 400) (by omega) (by decide)).mpr (by omega)), st_on (by rw [ln_1]; omega) (by omega)]
        simp only [Option.bind_some]
        rw [u2_ne (by decide), y1, hsh2, on_s]
        refine ⟨_, rfl, e, rfl, ?_, fun i hi => ?_, fun j hj => ?_, fun o p q => ?_, fun j hj => ?_⟩
        · simp only [u2_eq, Nat.add_assoc]
        · simp only [u2_ne (show 1 ≠ 0 by decide)]
          by_cases q : i = k
          · subst q; rw [u2_eq, byt]
          · rw [u2_nj (by omega)]; exact y2 i (by omega)
        · simp only [u2_ne (show 1 ≠ 0 by decide)]
          rw [u2_nj (by omega)]; exact y3 j hj
        · simp only [u2_row p, u2_row q]; exact y4 o p q
        · simp only [u2_nj hj, u2_ne (show 0 ≠ 1 by decide)]; exact y5 j hj
      · right
        have : k = 4 := by omega
        subst this
        rw [if_pos (by decide)]
        exact ⟨_, rfl, y1, y2, y3, y4, y5⟩) (by decide)
  unfold f_X11_putOnTape
  rw [h1]
  exact ⟨d, rfl, h2⟩
def pick5 (a b c d e : Int32) (k : Nat) : Int32 := if k = 0 then a else if k = 1 then b else if k = 2 then c else if k = 3 then d else e
theorem q_feed (I : Iv σ ρ t u w wi) (a b c d e : Int32) : Rp (f_X11_feed (σ, ρ) 0 a b c d e) ρ (fun S => f_X12_feed S 105 a b c d e) := by
  obtain ⟨n, n1, n2, n3, n4⟩ := I.2.2.2.2.1
  have t1 : t = 2 ∨ t = 24 := by rcases I.1.2.1 with ⟨h, -⟩ | ⟨h, -⟩ <;> omega
  have h20 : Int32.ofNat n + 20 = Int32.ofNat (n + 20) := by rw [show (20 : Int32) = Int32.ofNat 20 from rfl, on_add]
  by_cases hn : 400 < n + 20
  · refine ⟨-1, σ, am_u2 σ 105 0 0, ?_, ?_, t, u, w, wi, Iv_ag I ag2_z.1⟩
    · unfold f_X11_feed
      simp only [n2, h20]
      rw [if_pos (show (400 : Int32) < Int32.ofNat (n + 20) from (on_lt (a := 400) (by decide) (by omega)).mpr hn)]
    · show f_X12_feed _ 105 a b c d e = _
      unfold f_X12_feed
      simp only [u2_nj (show 6 ≠ 0 by decide), n3, h20]
      rw [if_pos (show (400 : Int32) < Int32.ofNat (n + 20) from (on_lt (a := 400) (by decide) (by omega)).mpr hn)]
  · have hno : ¬ (400 : Int32) < Int32.ofNat (n + 20) := fun z => hn ((on_lt (a := 400) (by decide) (by omega)).mp z)
    obtain ⟨s1, p1, p2, p3, p4, p5, p6⟩ := c_put I.1 (σ := σ) (n := n) (by omega) n2 a
    obtain ⟨s2, q1, q2, q3, q4, q5, q6⟩ := c_put I.1 (σ := s1) (n := n + 4) (by omega) p2 b
    obtain ⟨s3, r1, r2, r3, r4, r5, r6⟩ := c_put I.1 (σ := s2) (n := n + 4 + 4) (by omega) q2 c
    obtain ⟨s4, x1, x2, x3, x4, x5, x6⟩ := c_put I.1 (σ := s3) (n := n + 4 + 4 + 4) (by omega) r2 d
    obtain ⟨s5, y1, y2, y3, y4, y5, y6⟩ := c_put I.1 (σ := s4) (n := n + 4 + 4 + 4 + 4) (by omega) x2 e
    have tp : ∀ k, k < 20 → s5 1 (n + k) = byt (pick5 a b c d e (k / 4)) (k % 4) := fun k hk => by
      have hk5 : k / 4 = 0 ∨ k / 4 = 1 ∨ k / 4 = 2 ∨ k / 4 = 3 ∨ k / 4 = 4 := by omega
      have hd := Nat.div_add_mod k 4
      have hm := Nat.mod_lt k (show 0 < 4 by decide)
      rcases hk5 with z | z | z | z | z
      · rw [y4 _ (by omega), x4 _ (by omega), r4 _ (by omega), q4 _ (by omega), show n + k = n + k % 4 by omega, p3 _ hm, z]; simp [pick5]
      · rw [y4 _ (by omega), x4 _ (by omega), r4 _ (by omega), show n + k = n + 4 + k % 4 by omega, q3 _ hm, z]; simp [pick5]
      · rw [y4 _ (by omega), x4 _ (by omega), show n + k = n + 4 + 4 + k % 4 by omega, r3 _ hm, z]; simp [pick5]
      · rw [y4 _ (by omega), show n + k = n + 4 + 4 + 4 + k % 4 by omega, x3 _ hm, z]; simp [pick5]
      · rw [show n + k = n + 4 + 4 + 4 + 4 + k % 4 by omega, y3 _ hm, z]; simp [pick5]
    have tpo : ∀ j, j < n → s5 1 j = σ 1 j := fun j hj => by rw [y4 _ (by omega), x4 _ (by omega), r4 _ (by omega), q4 _ (by omega), p4 _ hj]
    have so : ∀ o, o ≠ 0 → o ≠ 1 → s5 o = σ o := fun o h0 h1 => by rw [y5 o h0 h1, x5 o h0 h1, r5 o h0 h1, q5 o h0 h1, p5 o h0 h1]
    have s0 : ∀ j, j ≠ 1 → s5 0 j = σ 0 j := fun j hj => by rw [y6 j hj, x6 j hj, r6 j hj, q6 j hj, p6 j hj]
    have s01 : s5 0 1 = Int32.ofNat (n + 20) := by rw [y2]
    -- the model
    obtain ⟨f0, hf0⟩ : ∃ f0 : sg, f0 = am_u2 (am_u2 (am_u2 (am_u2 (am_u2 (am_u2 s5 105 0 0) 110 0 a) 110 1 b) 110 2 c) 110 3 d) 110 4 e := ⟨_, rfl⟩
    have hf : ∀ k, k < 5 → f0 110 k = pick5 a b c d e k := fun k hk => by
      have : k = 0 ∨ k = 1 ∨ k = 2 ∨ k = 3 ∨ k = 4 := by omega
      rw [hf0]
      rcases this with rfl | rfl | rfl | rfl | rfl
      · rw [u2_nj (by decide), u2_nj (by decide), u2_nj (by decide), u2_nj (by decide), u2_eq]; simp [pick5]
      · rw [u2_nj (by decide), u2_nj (by decide), u2_nj (by decide), u2_eq]; simp [pick5]
      · rw [u2_nj (by decide), u2_nj (by decide), u2_eq]; simp [pick5]
      · rw [u2_nj (by decide), u2_eq]; simp [pick5]
      · rw [u2_eq]; simp [pick5]
    have f0o : ∀ o, o ≠ 110 → f0 o = am_u2 s5 105 0 0 o := fun o ho => by
      rw [hf0, u2_row ho, u2_row ho, u2_row ho, u2_row ho, u2_row ho]
    have hn6 : f0 105 6 = Int32.ofNat n := by rw [f0o 105 (by decide), u2_nj (by decide), so 105 (by decide) (by decide), n3]
    obtain ⟨g, g1, g2⟩ := lp_rule (body := f_X12_feed_b60 (f0, ρ) 105) 20
      (fun k y => y.1 = Int32.ofNat k ∧ (∀ o, o ≠ 109 → y.2 o = f0 o) ∧ (∀ j, j < n → y.2 109 j = f0 109 j) ∧ (∀ i, i < k → y.2 109 (n + i) = byt (pick5 a b c d e (i / 4)) (i % 4)))
      (fun g => (∀ o, o ≠ 109 → g o = f0 o) ∧ (∀ j, j < n → g 109 j = f0 109 j) ∧ (∀ i, i < 20 → g 109 (n + i) = byt (pick5 a b c d e (i / 4)) (i % 4)))
      (x := (0, f0)) ⟨rfl, fun _ _ => rfl, fun _ _ => rfl, fun i hi => absurd hi (by omega)⟩ (fun k y hk hy => by
        obtain ⟨i, τ⟩ := y
        obtain ⟨rfl, z1, z2, z3⟩ := hy
        simp only at z1 z2 z3
        unfold f_X12_feed_b60
        simp only [rd_tapeM I.1, rd_five I.1, Option.bind_some]
        by_cases ek : k < 20
        · left
          have hm := Nat.mod_lt k (show 0 < 4 by decide)
          rw [if_pos (show Int32.ofNat k < 20 from (on_lt (b := 20) (by omega) (by decide)).mpr ek), show (4 : Int32) = Int32.ofNat 4 from rfl, on_div (by omega) (by decide), ld_on (by rw [ln_110]; omega) (by omega), z1 110 (by decide), hf _ (by omega)]
          simp only [Option.bind_some]
          rw [← on_div (show k < 2147483648 by omega) (show 4 < 2147483648 by decide), on_mod (by omega) (by decide), show (8 : Int32) = Int32.ofNat 8 from rfl, on_mul, show (24 : Int32) = Int32.ofNat 24 from rfl, on_sub (by omega), z1 105 (by decide), hn6, on_add, st_on (by rw [ln_109]; omega) (by omega)]
          simp only [Option.bind_some, on_s]
          refine ⟨_, rfl, ek, rfl, fun o ho => ?_, fun j hj => ?_, fun i hi => ?_⟩
          · show am_u2 τ 109 (n + k) _ o = _
            rw [u2_row ho, z1 o ho]
          · show am_u2 τ 109 (n + k) _ 109 j = _
            rw [u2_nj (by omega), z2 j hj]
          · show am_u2 τ 109 (n + k) _ 109 (n + i) = _
            by_cases q : i = k
            · subst q; rw [u2_eq, byt]
            · rw [u2_nj (by omega), z3 i (by omega)]
        · right
          have : k = 20 := by omega
          subst this
          rw [if_neg (by decide)]
          exact ⟨_, rfl, z1, z2, z3⟩) (by decide)
    refine ⟨Int32.ofNat (n + 20), s5, am_u2 g 105 6 (Int32.ofNat (n + 20)), ?_, ?_, t, u, w, wi, ?_⟩
    · unfold f_X11_feed
      simp only [n2, h20]
      rw [if_neg hno, p1]
      simp only [Option.bind_some, q1, r1, x1, y1, s01]
    · show f_X12_feed _ 105 a b c d e = _
      have hcond : ¬ (400 < am_u2 s5 105 0 0 105 6 + 20) := by rw [u2_nj (by decide), so 105 (by decide) (by decide), n3, h20]; exact hno
      unfold f_X12_feed
      simp only
      rw [if_neg hcond]
      simp only [rd_five I.1, bnd]
      simp only [st110_0, st110_1, st110_2, st110_3, st110_4, bnd]
      rw [← hf0, g1]
      simp only [bnd, u2_eq]
      rw [g2.1 105 (by decide), hn6, h20]
    · show Iv (am_u2 g 105 6 (Int32.ofNat (n + 20))) ρ t u w wi
      obtain ⟨a1, a2, a3, a4, -, a6, a7, a8⟩ := I
      have q : ∀ o, o ≠ 0 → o ≠ 1 → o ≠ 105 → o ≠ 109 → o ≠ 110 → am_u2 g 105 6 (Int32.ofNat (n + 20)) o = σ o := fun o h1 h2 h3 h4 h5 => by
        rw [u2_row h3, g2.1 o h4, f0o o h5, u2_row h3, so o h1 h2]
      have q5 : ∀ j, j ≠ 6 → j ≠ 0 → am_u2 g 105 6 (Int32.ofNat (n + 20)) 105 j = σ 105 j := fun j h1 h2 => by
        rw [u2_nj h1, g2.1 105 (by decide), f0o 105 (by decide), u2_nj h2, so 105 (by decide) (by decide)]
      have q0 : ∀ j, am_u2 g 105 6 (Int32.ofNat (n + 20)) 0 j = s5 0 j := fun j => by
        rw [u2_ne (by decide), g2.1 0 (by decide), f0o 0 (by decide), u2_ne (by decide)]
      have qt : ∀ b, tn b → ∀ k, k ≤ 20 → am_u2 g 105 6 (Int32.ofNat (n + 20)) (b + k) = σ (b + k) := fun b hb k hk => by
        rcases hb with rfl | rfl | rfl <;> exact q _ (by omega) (by omega) (by omega) (by omega) (by omega)
      have twc : ∀ b x, tn b → tw σ b x → tw (am_u2 g 105 6 (Int32.ofNat (n + 20))) b x := fun b x hb h => by
        have gg := qt b hb
        exact tw_cg h (gg 0 (by omega)) (gg 1 (by omega)) (gg 2 (by omega)) (gg 3 (by omega)) (gg 4 (by omega)) (gg 5 (by omega)) (gg 6 (by omega)) (gg 7 (by omega)) (gg 8 (by omega)) (by rw [gg 9 (by omega)]) (gg 10 (by omega)) (gg 11 (by omega)) (gg 12 (by omega)) (by rw [gg 15 (by omega)]) (gg 16 (by omega)) (gg 17 (by omega)) (gg 18 (by omega)) (gg 19 (by omega))
      refine ⟨a1, fun k hk => by rw [q 106 (by decide) (by decide) (by decide) (by decide) (by decide)]; exact a2 k hk, a3, twc t w (rh_tn a1).1 a4, ⟨n + 20, by omega, ?_, u2_eq, fun k hk => ?_⟩, ?_, ⟨?_, ?_⟩, ?_⟩
      · rw [q0, s01]
      · have e1 : am_u2 g 105 6 (Int32.ofNat (n + 20)) 1 k = s5 1 k := by rw [u2_ne (by decide), g2.1 1 (by decide), f0o 1 (by decide), u2_ne (by decide)]
        have e9 : am_u2 g 105 6 (Int32.ofNat (n + 20)) 109 k = g 109 k := u2_ne (by decide)
        rw [e1, e9]
        by_cases z : k < n
        · rw [g2.2.1 k z, f0o 109 (by decide), u2_ne (by decide), so 109 (by decide) (by decide), tpo k z]
          exact n4 k z
        · obtain ⟨i, rfl⟩ : ∃ i, k = n + i := ⟨k - n, by omega⟩
          rw [g2.2.2 i (by omega), tp i (by omega)]
          exact ⟨rfl, byt_fit⟩
      · rw [q0, s0 2 (by decide), q5 11 (by decide) (by decide)]; exact a6
      · rw [q0, s0 6 (by decide), q5 4 (by decide) (by decide)]; exact a7.1
      · rw [q0, s0 6 (by decide), q 107 (by decide) (by decide) (by decide) (by decide) (by decide)]
        exact a7.2.imp id (fun z => ⟨z.1, z.2.1, z.2.2.1, twc 46 wi (Or.inr (Or.inr rfl)) z.2.2.2⟩)
      · intro b hb i hi
        rw [qt b hb 12 (by omega)]
        exact a8 b hb i hi
end FD
