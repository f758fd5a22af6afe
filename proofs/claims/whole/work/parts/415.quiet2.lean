section QT2
variable {σ : sg} {ρ : rg} {t u : Nat} {w wi : wg}
theorem ln_75 : am_ln 75 = 61 := by decide
/-- the class's first loop: how many, minute by minute -/
theorem c_rights (H : tS σ ρ t w) (hnow : am_rd ρ 0 3 109 = some t) {a b n h v x fr D : Nat} (hrh : rh ρ a b) (hn : nR w = n) (hn12 : n < 12) (hh : h < nH w) (hv : v < nW w) (hx : 2 ≤ x ∧ x < 512) (hfr : fr + D < 1000) (hD : D ≤ 60) (hz : ∀ j, j < 61 → σ 75 j = 0) (G : rS σ ρ 68 (rgA w fr h v x)) :
    ∃ τ, am_loop (f_X11_quietest_b46 (σ, ρ) 0 (Int32.ofNat h) (Int32.ofNat v) (Int32.ofNat fr) (Int32.ofNat (fr + D)) (Int32.ofNat n)) am_fuel (0, σ) = some τ ∧ (∀ o, o ≠ 73 → o ≠ 74 → o ≠ 75 → τ o = σ o) ∧ (∀ j, j ≤ D → τ 75 j = Int32.ofNat (qg w h v x n (fr + j))) := by
  have hH := (wv_H H.2.2.2).2
  have hW := (wv_W H.2.2.2).2
  subst hn
  have hsub : Int32.ofNat (fr + D) - Int32.ofNat fr = Int32.ofNat D := by rw [on_sub (by omega)]; congr 1; omega
  have hwA := rgA_wv H.2.2.2 hn12 (show fr < 1000 by omega) hh hv hx
  have hrc : rch w (rgA w fr h v x) := rgA_rch hn12
  have hrqm : rqm (nR w) (rgA w 0 h v x) (rgA w fr h v x) := rqe_A (w := w) (w' := w) ⟨rch_rf, rfl, fun _ _ _ => rfl⟩ H.2.2.2 (by omega) (by omega) (by omega) (by omega) hn12
  have hwA0 := rgA_wv H.2.2.2 hn12 (show 0 < 1000 by omega) hh hv hx
  have hhd : ∀ l mi, hd (rgA w fr h v x) (nR w) l mi = hd (rgA w 0 h v x) (nR w) l mi := fun l mi => rqm_hd hrqm hwA0.1 (by rw [hwA0.2]; omega)
  let q : Nat → Nat → Bool := fun j l => decide (tk w h (hd (rgA w 0 h v x) (nR w) l (fr + j)) = some v)
  obtain ⟨d, h1, h2⟩ := lp_rule (body := f_X11_quietest_b46 (σ, ρ) 0 (Int32.ofNat h) (Int32.ofNat v) (Int32.ofNat fr) (Int32.ofNat (fr + D)) (Int32.ofNat (nR w))) (nH w)
    (fun l y => y.1 = Int32.ofNat l ∧ (∀ o, o ≠ 73 → o ≠ 74 → o ≠ 75 → y.2 o = σ o) ∧ (∀ j, j ≤ D → y.2 75 j = Int32.ofNat (ct (q j) l)))
    (fun d => (∀ o, o ≠ 73 → o ≠ 74 → o ≠ 75 → d o = σ o) ∧ (∀ j, j ≤ D → d 75 j = Int32.ofNat (ct (q j) (nH w))))
    (x := (0, σ)) ⟨rfl, fun _ _ _ _ => rfl, fun j hj => hz j (by omega)⟩ (fun l y hl hy => by
      obtain ⟨i, τ⟩ := y
      obtain ⟨rfl, y1, y2⟩ := hy
      simp only at y1 y2
      have hag : ag σ τ := fun o j e => by
        rw [y1 o (by rintro rfl; rw [es_0 rfl] at e; cases e) (by rintro rfl; rw [es_0 rfl] at e; cases e) (by rintro rfl; rw [es_0 rfl] at e; cases e)]
      have H' := tS_ag H hag
      have G' : rS τ ρ 68 (rgA w fr h v x) := by
        obtain ⟨m1, m2, m3, m4, m5⟩ := G
        refine ⟨m1, m2, by rw [y1 68 (by decide) (by decide) (by decide)]; exact m3, fun r hr => ?_, m5⟩
        rw [y1 (68 + 1) (by decide) (by decide) (by decide), y1 (68 + 2) (by decide) (by decide) (by decide), y1 (68 + 3) (by decide) (by decide) (by decide), y1 (68 + 4) (by decide) (by decide) (by decide)]
        exact m4 r hr
      unfold f_X11_quietest_b46
      simp only [hnow, Option.bind_some, c_H H', rd_trial hrh]
      by_cases e : l < nH w
      · left
        rw [if_pos (lt_y e (by omega))]
        obtain ⟨υ, k1, k2, k3, k4, k5⟩ := c_listen H' hrc G' e
        rw [k1]
        simp only [Option.bind_some]
        have hag2 := lq_ag G'.2.1 k2
        have H2 := tS_ag H' hag2
        have G2 := lq_rS G' k2
        obtain ⟨d, g1, g2⟩ := lp_rule (body := f_X11_quietest_b74 (υ, ρ) 0 (Int32.ofNat h) (Int32.ofNat v) (Int32.ofNat fr) (Int32.ofNat (fr + D)) (Int32.ofNat (nR w)) (Int32.ofNat l)) (D + 1)
          (fun k y => y.1 = Int32.ofNat k ∧ (∀ o, o ≠ 75 → y.2 o = υ o) ∧ (∀ j, j ≤ D → y.2 75 j = Int32.ofNat (ct (q j) l + if j < k ∧ q j l = true then 1 else 0)))
          (fun d => (∀ o, o ≠ 75 → d o = υ o) ∧ (∀ j, j ≤ D → d 75 j = Int32.ofNat (ct (q j) (l + 1))))
          (x := (0, υ)) ⟨rfl, fun _ _ => rfl, fun j hj => by
            have : υ 75 j = τ 75 j := k2 75 j (by decide) (by decide) (by omega)
            show υ 75 j = _
            rw [if_neg (by omega), this]; exact y2 j hj⟩ (fun k y hk hy => by
            obtain ⟨i, ψ⟩ := y
            obtain ⟨rfl, z1, z2⟩ := hy
            simp only at z1 z2
            have hag3 : ag υ ψ := fun o j e => by rw [z1 o (by rintro rfl; rw [es_0 rfl] at e; cases e)]
            have H3 := tS_ag H2 hag3
            have G3 : rS ψ ρ 68 (rgA w fr h v x) := by
              obtain ⟨m1, m2, m3, m4, m5⟩ := G2
              refine ⟨m1, m2, by rw [z1 68 (by decide)]; exact m3, fun r hr => ?_, m5⟩
              rw [z1 (68 + 1) (by decide), z1 (68 + 2) (by decide), z1 (68 + 3) (by decide), z1 (68 + 4) (by decide)]
              exact m4 r hr
            unfold f_X11_quietest_b74
            simp only [hsub, rd_rights hrh, Option.bind_some, hnow, rd_trial hrh]
            by_cases e2 : k ≤ D
            · left
              rw [if_neg (fun z => by have := (on_lt (by omega) (by omega)).mp z; omega), if_pos (show Int32.ofNat k < Int32.ofNat (am_ln 75) from (on_lt (by omega) (by rw [ln_75]; decide)).mpr (by rw [ln_75]; omega)), on_add]
              rw [c_unm G3 (by rw [hwA.2]; omega) (by omega) (fun r hr => by rw [z1 (68 + 5) (by decide), z1 (68 + 6) (by decide)]; exact k4 r hr)]
              simp only [Option.bind_some]
              rw [hhd, c_tk H3 (by omega) (by have := hd_lt hwA0.1 (r := nR w) (h := l) (mi := fr + k) (by rw [hwA0.2]; omega); omega)]
              simp only [Option.bind_some, tkI_eq hv hW, on_s]
              have hq : q k l = decide (tk w h (hd (rgA w 0 h v x) (nR w) l (fr + k)) = some v) := rfl
              by_cases c : tk w h (hd (rgA w 0 h v x) (nR w) l (fr + k)) = some v
              · rw [if_pos c, ld_on (by rw [ln_75]; omega) (by omega)]
                simp only [Option.bind_some]
                rw [st_on (by rw [ln_75]; omega) (by omega)]
                simp only [Option.bind_some]
                have hqt : q k l = true := by rw [hq]; simp [c]
                refine ⟨_, rfl, by omega, rfl, fun o ho => ?_, fun j hj => ?_⟩
                · show am_u2 ψ 75 k _ o = υ o
                  rw [u2_row ho, z1 o ho]
                · show am_u2 ψ 75 k _ 75 j = _
                  by_cases ej : j = k
                  · subst ej
                    rw [u2_eq, z2 j hj, if_neg (by omega), if_pos ⟨by omega, hqt⟩, on_s]
                  · rw [u2_nj ej, z2 j hj]
                    by_cases qj : q j l = true
                    · by_cases jk : j < k
                      · rw [if_pos ⟨jk, qj⟩, if_pos ⟨by omega, qj⟩]
                      · rw [if_neg (by omega), if_neg (by omega)]
                    · rw [if_neg (fun z => qj z.2), if_neg (fun z => qj z.2)]
              · rw [if_neg c]
                have hqf : ¬ q k l = true := by rw [hq]; simp [c]
                simp only [Option.bind_some]
                refine ⟨_, rfl, by omega, rfl, z1, fun j hj => ?_⟩
                show ψ 75 j = _
                rw [z2 j hj]
                by_cases qj : q j l = true
                · have : j ≠ k := fun z => hqf (z ▸ qj)
                  by_cases jk : j < k
                  · rw [if_pos ⟨jk, qj⟩, if_pos ⟨by omega, qj⟩]
                  · rw [if_neg (by omega), if_neg (by omega)]
                · rw [if_neg (fun z => qj z.2), if_neg (fun z => qj z.2)]
            · right
              have : k = D + 1 := by omega
              subst this
              rw [if_pos ((on_lt (by omega) (by omega)).mpr (by omega))]
              refine ⟨_, rfl, z1, fun j hj => ?_⟩
              rw [z2 j hj]
              show _ = Int32.ofNat (ct (q j) l + if q j l = true then 1 else 0)
              by_cases qj : q j l = true
              · rw [if_pos ⟨by omega, qj⟩, if_pos qj]
              · rw [if_neg (fun z => qj z.2), if_neg qj]) (by omega)
        rw [g1]
        simp only [Option.bind_some, on_s]
        refine ⟨_, rfl, e, rfl, fun o p1 p2 p3 => ?_, g2.2⟩
        show d o = σ o
        rw [g2.1 o p3, ← y1 o p1 p2 p3]
        by_cases e68 : o = 68
        · subst e68; exact k5
        · funext j
          exact k2 o j p1 p2 (by omega)
      · right
        have : l = nH w := by omega
        subst this
        rw [if_neg (lt_n (by omega))]
        exact ⟨_, rfl, y1, y2⟩) (by omega)
  exact ⟨d, h1, h2⟩
/-- the class's second loop -/
theorem c_best {a b D : Nat} {g : Nat → Nat} (hrh : rh ρ a b) (hg : ∀ k, g k < 1000) (hD : D ≤ 60) {fr : Nat} (hfr : fr + D < 1000) (hr : ∀ j, j ≤ D → σ 75 j = Int32.ofNat (g j)) : am_loop (f_X11_quietest_b147 (σ, ρ) 0 (Int32.ofNat fr) (Int32.ofNat (fr + D))) am_fuel (0, 0) = some (Int32.ofNat (fo (bst g) (D + 1) 0)) := by
  have hsub : Int32.ofNat (fr + D) - Int32.ofNat fr = Int32.ofNat D := by rw [on_sub (by omega)]; congr 1; omega
  obtain ⟨d, h1, h2⟩ := lp_rule (body := f_X11_quietest_b147 (σ, ρ) 0 (Int32.ofNat fr) (Int32.ofNat (fr + D))) (D + 1)
    (fun k y => y = (Int32.ofNat (fo (bst g) k 0), Int32.ofNat k)) (fun d => d = Int32.ofNat (fo (bst g) (D + 1) 0)) (x := (0, 0)) rfl (fun k y hk hy => by
      subst hy
      unfold f_X11_quietest_b147
      simp only [hsub, rd_rights hrh, Option.bind_some]
      by_cases e : k ≤ D
      · left
        have hb := bst_le (g := g) k
        have hb2 : fo (bst g) k 0 ≤ D := by omega
        rw [if_neg (fun z => by have := (on_lt (by omega) (by omega)).mp z; omega), if_pos (show Int32.ofNat k < Int32.ofNat (am_ln 75) from (on_lt (by omega) (by rw [ln_75]; decide)).mpr (by rw [ln_75]; omega)), ld_on (k := k) (by rw [ln_75]; omega) (by omega), ld_on (k := fo (bst g) k 0) (by rw [ln_75]; omega) (by omega), hr k e, hr _ hb2]
        have g1 := hg k
        have g2 := hg (fo (bst g) k 0)
        simp only [Option.bind_some, on_s, on_lt (show g (fo (bst g) k 0) < 2147483648 by omega) (show g k < 2147483648 by omega)]
        simp only [ite_some, Option.bind_some]
        refine ⟨_, rfl, by omega, ?_⟩
        show _ = (Int32.ofNat (bst g k (fo (bst g) k 0)), _)
        generalize fo (bst g) k 0 = y
        unfold bst
        by_cases c : g y < g k <;> simp [c]
      · right
        have : k = D + 1 := by omega
        subst this
        rw [if_pos ((on_lt (by omega) (by omega)).mpr (by omega))]
        exact ⟨_, rfl, rfl⟩) (by omega)
  rw [h1, h2]
theorem c_quiet (I : Iv σ ρ t u w wi) {h v fr D : Nat} (hn12 : nR w < 12) (hh : h < nH w) (hv : v < nW w) (hx : wx w h v ≠ 0) (hfr : fr + D < 1000) (hD : D ≤ 60) : ∃ τ, f_X11_quietest (σ, ρ) 0 (Int32.ofNat h) (Int32.ofNat v) (Int32.ofNat fr) (Int32.ofNat (fr + D)) = some (Int32.ofNat (fr + fo (bst (fun j => qg w h v (wx w h v) (nR w) (fr + j))) (D + 1) 0), τ) ∧ ag σ τ := by
  have hH := (wv_H I.2.2.1).2
  have hW := (wv_W I.2.2.1).2
  have hxl := wx_lt I.2.2.1 (a := h) (v := v)
  have hx1 := wx_1 I.2.2.1 (a := h) (v := v)
  have t1 : t = 2 ∨ t = 24 := by rcases I.1.2.1 with ⟨h, -⟩ | ⟨h, -⟩ <;> omega
  obtain ⟨σ4, a1, a2, a3, a4, a5⟩ := c_cpR (σ := σ) I.1 (R := 68) (Q := t + 15) (Or.inr (Or.inr (Or.inr rfl))) (c_rS I).2.1 (by omega)
  have ag4 : ag σ σ4 := fun o j e => by
    by_cases q : o < 68 ∨ 68 + 4 < o
    · rw [a4 o q]
    · have : o = 68 ∨ o = 69 ∨ o = 70 ∨ o = 71 ∨ o = 72 := by omega
      rcases this with rfl | rfl | rfl | rfl | rfl <;> (rw [es_0 rfl] at e; cases e)
  have I4 := Iv_ag I ag4
  have G4 : rS σ4 ρ 68 w := by
    refine ⟨⟨t, u, I.1⟩, Or.inr (Or.inr (Or.inr rfl)), by rw [a2]; exact c_R (Iv_t I), fun r hr => ?_, I.2.2.1⟩
    have hR := (wv_R I.2.2.1).2
    rw [a3 1 r (by decide) (by decide) (by omega), a3 2 r (by decide) (by decide) (by omega), a3 3 r (by decide) (by decide) (by omega), a3 4 r (by decide) (by decide) (by omega)]
    exact (c_rS I).2.2.2.1 r hr
  obtain ⟨σ5, b1, b2, b3, -⟩ := c_add G4 hn12 (show fr < 1000 by omega) hh hv (show 2 ≤ wx w h v ∧ wx w h v < 512 by omega)
  have ag5 : ag σ4 σ5 := fun o j e => by
    by_cases q : o < 68 ∨ 68 + 4 < o
    · rw [b3 o q]
    · have : o = 68 ∨ o = 69 ∨ o = 70 ∨ o = 71 ∨ o = 72 := by omega
      rcases this with rfl | rfl | rfl | rfl | rfl <;> (rw [es_0 rfl] at e; cases e)
  obtain ⟨σ6, c1, c2, c3⟩ := c_fill (σ := σ5) (ρ := ρ) (a := 75) (v := 0) (by decide)
  have ag6 : ag σ5 σ6 := fun o j e => by rw [c3 o (by rintro rfl; rw [es_0 rfl] at e; cases e)]
  have I6 := Iv_ag (Iv_ag I4 ag5) ag6
  have G6 : rS σ6 ρ 68 (rgA w fr h v (wx w h v)) := by
    obtain ⟨m1, m2, m3, m4, m5⟩ := b2
    refine ⟨m1, m2, by rw [c3 68 (by decide)]; exact m3, fun r hr => ?_, m5⟩
    rw [c3 (68 + 1) (by decide), c3 (68 + 2) (by decide), c3 (68 + 3) (by decide), c3 (68 + 4) (by decide)]
    exact m4 r hr
  obtain ⟨σ7, d1, d2, d3⟩ := c_rights (Iv_t I6) (c_now I6) I.1 rfl hn12 hh hv (show 2 ≤ wx w h v ∧ wx w h v < 512 by omega) hfr hD (fun j hj => c2 j (by rw [ln_75]; exact hj)) G6
  have ag7 : ag σ6 σ7 := fun o j e => by rw [d2 o (by rintro rfl; rw [es_0 rfl] at e; cases e) (by rintro rfl; rw [es_0 rfl] at e; cases e) (by rintro rfl; rw [es_0 rfl] at e; cases e)]
  refine ⟨σ7, ?_, ag_tr (ag_tr (ag_tr ag4 ag5) ag6) ag7⟩
  unfold f_X11_quietest
  simp only [rd_trial I.1, c_now I, c_rg I, Option.bind_some, a1, c_wf (Iv_t I4) (show h < 2147483648 by omega) (show v < 2147483648 by omega), zw_p hx, b1, rd_rights I.1, c1, d1]
  rw [c_best I.1 (g := fun j => qg w h v (wx w h v) (nR w) (fr + j)) (fun k => qg_lt I.2.2.1) hD hfr (fun j hj => d3 j hj)]
  simp only [Option.bind_some, on_add]
end QT2
