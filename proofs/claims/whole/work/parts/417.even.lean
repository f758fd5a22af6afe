/-! a drawn evening -/
def sd (s : Int32) : Int32 := (1103515245 * s) + 12345
def dv (s : Int32) : Int32 := (s >>> ((16 : Int32) &&& 31)) &&& 32767
def dN (s : Int32) : Nat := (dv s).toBitVec.toNat
theorem dv_n (s : Int32) : dN s < 32768 ∧ dv s = Int32.ofNat (dN s) := by
  constructor
  · unfold dN dv
    rw [Int32.toBitVec_and, BitVec.toNat_and]
    exact Nat.lt_of_le_of_lt Nat.and_le_right (by decide)
  · apply Int32.toBitVec.inj
    rw [Int32.toBitVec_ofNat']
    unfold dN
    rw [BitVec.ofNat_toNat, BitVec.setWidth_eq]
theorem dv_mod (s : Int32) {n : Nat} (hn : n < 2147483648) : dv s - dv s / Int32.ofNat n * Int32.ofNat n = Int32.ofNat (dN s % n) := by
  obtain ⟨h1, h2⟩ := dv_n s
  rw [h2, on_mod (by omega) hn]
/-- the seed and the world with the ringings drawn so far -/
def ev (w : wg) (s0 : Int32) : Nat → Int32 × wg
  | 0 => (s0, rgF w 0)
  | k + 1 => let x := ev w s0 k
    let s1 := sd x.1
    let s2 := sd s1
    let s3 := sd s2
    (s3, if wx w (dN s2 % nH w) (dN s3 % nW w) = 0 then x.2 else rgA x.2 (dN s1 % 20) (dN s2 % nH w) (dN s3 % nW w) (wx w (dN s2 % nH w) (dN s3 % nW w)))
theorem f_sd (s : Int32) : f_X11_seedBehind s = some (sd s) := rfl
theorem f_dv (s : Int32) : f_X11_drawOf s = some (dv s) := rfl
section EV
variable {σ : sg} {ρ : rg} {t u : Nat} {w wi : wg}
theorem rch_tr {w1 w2 w3 : wg} (h : rch w1 w2) (g : rch w2 w3) : rch w1 w3 := fun k a b => (g k a b).trans (h k a b)
theorem ev_ok (hw : wv w) (hH : 0 < nH w) (hW : 0 < nW w) (s0 : Int32) : ∀ k, k ≤ 12 → wv (ev w s0 k).2 ∧ rch w (ev w s0 k).2 ∧ nR (ev w s0 k).2 ≤ k
  | 0, _ => by
    obtain ⟨h1, h2⟩ := rgF_wv hw (n := 0) (by omega)
    exact ⟨h1, rgF_rch, by show nR (rgF w 0) ≤ 0; omega⟩
  | k + 1, hk => by
    obtain ⟨h1, h2, h3⟩ := ev_ok hw hH hW s0 k (by omega)
    unfold ev
    simp only
    split
    · exact ⟨h1, h2, by omega⟩
    · rename_i e
      have hxl := wx_lt hw (a := dN (sd (sd (ev w s0 k).1)) % nH w) (v := dN (sd (sd (sd (ev w s0 k).1))) % nW w)
      have hx1 := wx_1 hw (a := dN (sd (sd (ev w s0 k).1)) % nH w) (v := dN (sd (sd (sd (ev w s0 k).1))) % nW w)
      obtain ⟨g1, g2⟩ := rgA_wv h1 (show nR (ev w s0 k).2 < 12 by omega) (m := dN (sd (ev w s0 k).1) % 20) (h := dN (sd (sd (ev w s0 k).1)) % nH w) (v := dN (sd (sd (sd (ev w s0 k).1))) % nW w) (x := wx w (dN (sd (sd (ev w s0 k).1)) % nH w) (dN (sd (sd (sd (ev w s0 k).1))) % nW w)) (by have := Nat.mod_lt (dN (sd (ev w s0 k).1)) (show 0 < 20 by decide); omega) (by rw [rch_H h2]; exact Nat.mod_lt _ hH) (by rw [rch_W h2]; exact Nat.mod_lt _ hW) ⟨by omega, hxl⟩
      exact ⟨g1, rch_tr h2 (rgA_rch (by omega)), by omega⟩
theorem c_draw (I : Iv σ ρ t u w wi) (hH : 0 < nH w) (hW : 0 < nW w) {n : Nat} (hn : n ≤ 12) (s0 : Int32) : ∃ τ, f_X11_drawEvening (σ, ρ) 0 s0 (Int32.ofNat n) = some τ ∧ ag σ τ ∧ rS τ ρ 68 (ev w s0 n).2 := by
  have h8 := (wv_H I.2.2.1).2
  have h10 := (wv_W I.2.2.1).2
  have t1 : t = 2 ∨ t = 24 := by rcases I.1.2.1 with ⟨h, -⟩ | ⟨h, -⟩ <;> omega
  have hr68 : ro 68 := Or.inr (Or.inr (Or.inr rfl))
  have e0 : ag σ (am_u2 σ 68 0 0) := ag_u0 rfl ag_rf
  obtain ⟨d, h1, h2⟩ := lp_rule (body := f_X11_drawEvening_b34 (am_u2 σ 68 0 0, ρ) 0 (Int32.ofNat n)) n
    (fun k y => y.1 = (ev w s0 k).1 ∧ y.2.1 = Int32.ofNat k ∧ ag σ y.2.2 ∧ rS y.2.2 ρ 68 (ev w s0 k).2)
    (fun d => ag σ d ∧ rS d ρ 68 (ev w s0 n).2)
    (x := (s0, 0, am_u2 σ 68 0 0)) ⟨rfl, rfl, e0, ⟨⟨t, u, I.1⟩, hr68, by
      show am_u2 σ 68 0 0 68 0 = Int32.ofNat (nR (rgF w 0))
      rw [u2_eq, (rgF_wv I.2.2.1 (n := 0) (by omega)).2]; rfl, fun r hr => by
      have hr' : r < nR (rgF w 0) := hr
      rw [(rgF_wv I.2.2.1 (n := 0) (by omega)).2] at hr'; omega, (rgF_wv I.2.2.1 (n := 0) (by omega)).1⟩⟩ (fun k y hk hy => by
      obtain ⟨s, i, τ⟩ := y
      obtain ⟨y1, rfl, y3, y4⟩ := hy
      simp only at y1 y3 y4
      subst y1
      have I' := Iv_ag I y3
      unfold f_X11_drawEvening_b34
      simp only
      by_cases e : k < n
      · left
        obtain ⟨v1, v2, v3⟩ := ev_ok I.2.2.1 hH hW s0 k (by omega)
        have m1 := Nat.mod_lt (dN (sd (ev w s0 k).1)) (show 0 < 20 by decide)
        have m2 := Nat.mod_lt (dN (sd (sd (ev w s0 k).1))) hH
        have m3 := Nat.mod_lt (dN (sd (sd (sd (ev w s0 k).1)))) hW
        have hxl := wx_lt I.2.2.1 (a := dN (sd (sd (ev w s0 k).1)) % nH w) (v := dN (sd (sd (sd (ev w s0 k).1))) % nW w)
        have hx1 := wx_1 I.2.2.1 (a := dN (sd (sd (ev w s0 k).1)) % nH w) (v := dN (sd (sd (sd (ev w s0 k).1))) % nW w)
        rw [if_pos (lt_y e (by omega))]
        simp only [f_sd, f_dv, Option.bind_some, c_now I', c_H (Iv_t I'), c_W (Iv_t I'), rd_trial I.1]
        rw [if_neg (fun z => by have := (on_z (by omega)).mp z; omega), if_neg (fun z => by have := (on_z (by omega)).mp z; omega)]
        have e1 := dv_mod (sd (ev w s0 k).1) (n := 20) (by decide)
        have e2 := dv_mod (sd (sd (ev w s0 k).1)) (n := nH w) (by omega)
        have e3 := dv_mod (sd (sd (sd (ev w s0 k).1))) (n := nW w) (by omega)
        rw [show (20 : Int32) = Int32.ofNat 20 from rfl, e1, e2, e3]
        generalize hs1 : sd (ev w s0 k).1 = s1 at *
        generalize hs2 : sd s1 = s2 at *
        generalize hs3 : sd s2 = s3 at *
        have hev : ev w s0 (k + 1) = (s3, if wx w (dN s2 % nH w) (dN s3 % nW w) = 0 then (ev w s0 k).2 else rgA (ev w s0 k).2 (dN s1 % 20) (dN s2 % nH w) (dN s3 % nW w) (wx w (dN s2 % nH w) (dN s3 % nW w))) := by
          subst hs3; subst hs2; subst hs1; rfl
        rw [c_wf (Iv_t I') (by omega) (by omega)]
        simp only [Option.bind_some, zw_m (show wx w (dN s2 % nH w) (dN s3 % nW w) < 2147483648 by omega), on_s]
        by_cases z : wx w (dN s2 % nH w) (dN s3 % nW w) = 0
        · rw [if_pos z]
          simp only [Option.bind_some]
          refine ⟨_, rfl, e, by rw [hev], rfl, y3, ?_⟩
          rw [hev]
          simp only [z, if_true]
          exact y4
        · rw [if_neg z, zw_p z]
          obtain ⟨υ, b1, b2, b3, -⟩ := c_add y4 (show nR (ev w s0 k).2 < 12 by omega) (m := dN s1 % 20) (h := dN s2 % nH w) (v := dN s3 % nW w) (x := wx w (dN s2 % nH w) (dN s3 % nW w)) (by omega) (by rw [rch_H v2]; exact m2) (by rw [rch_W v2]; exact m3) ⟨by omega, hxl⟩
          rw [b1]
          simp only [Option.bind_some]
          refine ⟨_, rfl, e, by rw [hev], rfl, ag_tr y3 (fun o j es1 => ?_), ?_⟩
          · show υ o j = τ o j
            by_cases q : o < 68 ∨ 68 + 4 < o
            · rw [b3 o q]
            · have : o = 68 ∨ o = 69 ∨ o = 70 ∨ o = 71 ∨ o = 72 := by omega
              rcases this with rfl | rfl | rfl | rfl | rfl <;> (rw [es_0 rfl] at es1; cases es1)
          · rw [hev]
            simp only [z, if_false]
            exact b2
      · right
        have : k = n := by omega
        subst this
        rw [if_neg (lt_n (by omega))]
        exact ⟨_, rfl, y3, y4⟩) (by omega)
  refine ⟨d, ?_, h2⟩
  unfold f_X11_drawEvening
  simp only [rd_trial I.1, c_now I, Option.bind_some]
  rw [u2_ne (show t ≠ 68 by omega), u2_ne (show t ≠ 68 by omega), c_H (Iv_t I), c_W (Iv_t I), if_pos ((on_pos (by omega)).mpr hH), if_pos ((on_pos (by omega)).mpr hW), h1]
  rfl
/-- one of the sums -/
def evS (x : wg) (c r : Nat) : Int32 := if c = 0 then rt x r else if c = 1 then wr x r else if c = 3 then 1 else if rt x r + wr x r = 0 then 1 else 0
theorem c_judged (I : Iv σ ρ t u w wi) {x : wg} (hc : rch w x) (G : rS σ ρ 68 x) {c : Nat} (hc3 : c < 3) : ∃ τ, f_X11_judgedOfTrial (σ, ρ) 0 (Int32.ofNat c) = some (sm (evS x c) (nR x), τ) ∧ ag σ τ := by
  have hR := (wv_R G.2.2.2.2).2
  obtain ⟨d, h1, h2⟩ := lp_rule (body := f_X11_judgedOfTrial_b4 (σ, ρ) 0 (Int32.ofNat c)) (nR x)
    (fun k y => y.1 = sm (evS x c) k ∧ y.2.1 = Int32.ofNat k ∧ ag σ y.2.2 ∧ rS y.2.2 ρ 68 x)
    (fun d => d.1 = sm (evS x c) (nR x) ∧ ag σ d.2)
    (x := (0, 0, σ)) ⟨rfl, rfl, ag_rf, G⟩ (fun k y hk hy => by
      obtain ⟨a, i, τ⟩ := y
      obtain ⟨y1, rfl, y3, y4⟩ := hy
      simp only at y1 y3 y4
      subst y1
      have I' := Iv_ag I y3
      unfold f_X11_judgedOfTrial_b4
      simp only [rd_trial I.1, Option.bind_some, y4.2.2.1, c_now I]
      by_cases e : k < nR x
      · left
        rw [if_pos (lt_y e (by omega))]
        obtain ⟨υ, g1, g2, g3, g4, g5⟩ := c_judge (Iv_t I') hc y4 e
        rw [g1]
        simp only [Option.bind_some, g4, g5, on_s]
        have hs : (if Int32.ofNat c = 0 then some (sm (evS x c) k + rt x k) else if Int32.ofNat c = 1 then some (sm (evS x c) k + wr x k) else if rt x k + wr x k = 0 then some (sm (evS x c) k + 1) else some (sm (evS x c) k)) = some (sm (evS x c) k + evS x c k) := by
          have : c = 0 ∨ c = 1 ∨ c = 2 := by omega
          rcases this with rfl | rfl | rfl
          · rw [if_pos (by decide)]; rfl
          · rw [if_neg (by decide), if_pos (by decide)]; rfl
          · rw [if_neg (by decide), if_neg (by decide)]
            unfold evS
            by_cases z : rt x k + wr x k = 0
            · simp [z]
            · simp [z]
        rw [hs]
        simp only [Option.bind_some]
        exact ⟨_, rfl, e, rfl, rfl, ag_tr y3 (lq_ag y4.2.1 g2), lq_rS y4 g2⟩
      · right
        have : k = nR x := by omega
        subst this
        rw [if_neg (lt_n (by omega))]
        exact ⟨_, rfl, rfl, y3⟩) (by omega)
  unfold f_X11_judgedOfTrial
  rw [h1]
  exact ⟨d.2, by rw [← h2.1]; rfl, h2.2⟩
theorem M_judged (H : wS σ ρ w) {c : Nat} {v : Int32} (hc : c < 4) : am_loop (f_X12_evening_b192 (σ, ρ) 105 (Int32.ofNat c) v) am_fuel (0, 0) = some (sm (evS w c) (nR w)) := by
  have hR := (wv_R H.2.2).2
  rw [lp_sum (evS w c) (nR w) 0 (fun k a hk => ?_) (fun a => ?_) (by omega), Int32.zero_add]
  · unfold f_X12_evening_b192
    simp only [M_w H, M_rc H, Option.bind_some]
    rw [if_pos (lt_y hk (by omega)), show (0 : Int32) = bi false from rfl, show (1 : Int32) = bi true from rfl, M_takers H hk, M_takers H hk]
    simp only [Option.bind_some, Bool.false_eq_true, if_false, if_true, show bi false = (0 : Int32) from rfl, show bi true = (1 : Int32) from rfl, on_s]
    have : c = 0 ∨ c = 1 ∨ c = 2 ∨ c = 3 := by omega
    rcases this with rfl | rfl | rfl | rfl
    · rw [if_pos (by decide)]; rfl
    · rw [if_neg (by decide), if_pos (by decide)]; rfl
    · rw [if_neg (by decide), if_neg (by decide), if_neg (by decide)]
      unfold evS
      by_cases z : rt w k + wr w k = 0
      · simp [z]
      · simp [z]
    · rw [if_neg (by decide), if_neg (by decide), if_pos (by decide)]; rfl
  · unfold f_X12_evening_b192
    simp only [M_w H, M_rc H, Option.bind_some]
    rw [if_neg (lt_n (by omega))]
end EV
