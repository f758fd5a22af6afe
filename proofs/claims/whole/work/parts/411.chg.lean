/-! what changes: ringings, words, coins -/
def Inv (S : am_S) : Prop := ∃ t u w wi, Iv S.1 S.2 t u w wi
/-- all that counts but the world's row, the town's own rows and its ringings is as it was -/
def kp (t : Nat) (σ τ : sg) : Prop := ∀ o j, es o j = true → o ≠ 106 → ¬ (t ≤ o ∧ o ≤ t + 8) → ¬ (t + 15 ≤ o ∧ o ≤ t + 19) → τ o j = σ o j
theorem kp_ag {t : Nat} {σ τ : sg} (h : ag σ τ) : kp t σ τ := fun o j e _ _ _ => h o j e
theorem kp_tr {t : Nat} {σ τ υ : sg} (h : kp t σ τ) (g : kp t τ υ) : kp t σ υ := fun o j e a b c => (g o j e a b c).trans (h o j e a b c)
theorem kp_u {t : Nat} {σ τ : sg} {o j : Nat} {v : Int32} (ho : o = 106 ∨ (t ≤ o ∧ o ≤ t + 8) ∨ (t + 15 ≤ o ∧ o ≤ t + 19)) (h : kp t σ τ) : kp t σ (am_u2 τ o j v) := fun a b e p q r => by
  rw [← h a b e p q r]
  unfold am_u2
  rw [if_neg]
  rintro ⟨rfl, -⟩
  rcases ho with z | z | z
  · exact p z
  · exact q z
  · exact r z
theorem Iv_kp {σ τ : sg} {ρ : rg} {t u : Nat} {w w' wi : wg} (I : Iv σ ρ t u w wi) (k : kp t σ τ) (h1 : ∀ k, k < 1023 → τ 106 k = w' k) (h2 : wv w') (h3 : tw τ t w') : Iv τ ρ t u w' wi := by
  obtain ⟨a1, a2, a3, a4, ⟨n, n1, n2, n3, n4⟩, a6, a7, a8⟩ := I
  have ht : t = 2 ∨ t = 24 := by rcases a1.2.1 with ⟨h, -⟩ | ⟨h, -⟩ <;> omega
  have q : ∀ o j, es o j = true → (o = 0 ∨ o = 1 ∨ o = 105 ∨ o = 107 ∨ o = 109 ∨ (46 ≤ o ∧ o ≤ 67)) → τ o j = σ o j := fun o j e ho => k o j e (by omega) (by omega) (by omega)
  have qr : ∀ o, es_l.getD o 0 = 1 → (o = 0 ∨ o = 1 ∨ o = 105 ∨ o = 107 ∨ o = 109 ∨ (46 ≤ o ∧ o ≤ 67)) → τ o = σ o := fun o e ho => funext (fun j => q o j (es_1 e) ho)
  refine ⟨a1, h1, h2, h3, ⟨n, n1, ?_, ?_, fun i hi => ?_⟩, ?_, ⟨?_, ?_⟩, ?_⟩
  · rw [q 0 1 (by decide) (by omega)]; exact n2
  · rw [q 105 6 (by decide) (by omega)]; exact n3
  · rw [qr 109 rfl (by omega), qr 1 rfl (by omega)]; exact n4 i hi
  · rw [q 0 2 (by decide) (by omega), q 105 11 (by decide) (by omega)]; exact a6
  · rw [q 0 6 (by decide) (by omega), q 105 4 (by decide) (by omega)]; exact a7.1
  · rw [q 0 6 (by decide) (by omega), qr 107 rfl (by omega)]
    refine a7.2.imp id (fun z => ⟨z.1, z.2.1, z.2.2.1, ?_⟩)
    exact tw_cg z.2.2.2 (qr 46 rfl (by omega)) (qr 47 rfl (by omega)) (qr 48 rfl (by omega)) (qr 49 rfl (by omega)) (qr 50 rfl (by omega)) (qr 51 rfl (by omega)) (qr 52 rfl (by omega)) (qr 53 rfl (by omega)) (qr 54 rfl (by omega)) (q 55 0 (by decide) (by omega)) (qr 56 rfl (by omega)) (qr 57 rfl (by omega)) (qr 58 rfl (by omega)) (q 61 0 (by decide) (by omega)) (qr 62 rfl (by omega)) (qr 63 rfl (by omega)) (qr 64 rfl (by omega)) (qr 65 rfl (by omega))
  · intro b hb i hi
    have e12 := (es_t hb).2.2.2.2.2.2.2.2.2.2.2.2.1
    have : τ (b + 12) i = σ (b + 12) i := k _ _ (es_1 e12) (by rcases hb with rfl | rfl | rfl <;> decide) (by rcases hb with rfl | rfl | rfl <;> omega) (by rcases hb with rfl | rfl | rfl <;> omega)
    rw [this]
    exact a8 b hb i hi
/-- the law's cells -/
theorem lwR_cg {σ τ : sg} {t : Nat} {w w' : wg} (h : lwR σ t w) (hw : ∀ k, k = 3 ∨ 186 ≤ k → w' k = w k) (h9 : τ (t + 9) 0 = σ (t + 9) 0) (h10 : τ (t + 10) = σ (t + 10)) (h11 : τ (t + 11) = σ (t + 11)) (h12 : τ (t + 12) = σ (t + 12)) : lwR τ t w' := by
  unfold lwR at *
  rw [h9, h10, h11, h12, hw 3 (by omega)]
  refine h.imp id (fun ⟨a, L, e, s, n, ⟨o1, o2, o3, o4, o5, o6⟩, b, c, d⟩ => ⟨a, L, e, s, n, ⟨o1, by rw [hw _ (by omega)]; exact o2, o3, o4, fun k hk => ?_, fun i hi => ?_⟩, b, fun k hk => ?_, d⟩)
  · rw [hw _ (by omega), hw _ (by omega)]; exact o5 k hk
  · rw [hw _ (by omega), hw _ (by omega)]; exact o6 i hi
  · rw [hw _ (by omega)]; exact c k hk
theorem wv_rch {w w' : wg} {n : Nat} (h : wv w) (hc : rch w w') (h4 : w' 4 = Int32.ofNat n) (hn : n ≤ 12) (hr : ∀ r, r < n → (∃ a, a < 1000 ∧ w' (138 + 4 * r) = Int32.ofNat a) ∧ (∃ a, a < nH w ∧ w' (139 + 4 * r) = Int32.ofNat a) ∧ (∃ a, a < nW w ∧ w' (140 + 4 * r) = Int32.ofNat a) ∧ (∃ a, 2 ≤ a ∧ a < 512 ∧ w' (141 + 4 * r) = Int32.ofNat a)) : wv w' ∧ nR w' = n := by
  have e4 : nR w' = n := by unfold nR; rw [h4, on_cl (by omega)]
  have eH := rch_H hc
  have eW := rch_W hc
  have hH := (wv_H h).2
  have hW := (wv_W h).2
  refine ⟨⟨⟨?_, ?_⟩, ⟨?_, ?_⟩, ⟨?_, ?_⟩, ?_, ?_, ?_, ?_, ?_, ?_, ?_⟩, e4⟩
  · rw [eH, hc 0 (by omega) (by omega)]; exact (wv_H h).1
  · rw [eH]; exact hH
  · rw [eW, hc 1 (by omega) (by omega)]; exact (wv_W h).1
  · rw [eW]; exact hW
  · rw [e4]; exact h4
  · rw [e4]; exact hn
  · intro a ha v hv
    rw [eH] at ha
    rw [rch_wd hc (by omega) hv, eW, hc _ (by omega) (by omega)]
    exact wv_wd h ha hv
  · intro a ha
    rw [eH] at ha
    rw [hc _ (show 8 + 15 * a ≠ 4 by omega) (by omega), hc _ (show 9 + 15 * a ≠ 4 by omega) (by omega), hc _ (show 10 + 15 * a ≠ 4 by omega) (by omega), hc _ (show 11 + 15 * a ≠ 4 by omega) (by omega), hc _ (show 12 + 15 * a ≠ 4 by omega) (by omega)]
    exact wv_at h ha
  · intro v hv
    rw [eW] at hv
    rw [hc _ (by omega) (by omega)]
    exact wv_ur h hv
  · rw [hc _ (by omega) (by omega)]; exact wv_x h
  · rw [hc _ (by omega) (by omega)]; exact wv_y h
  · rw [e4, eH, eW]; exact hr
  · rw [hc _ (by omega) (by omega)]; exact wv_2 h
/-- a ringing more -/
def rgA (w : wg) (m h v x : Nat) : wg := fun k => if k = 4 then Int32.ofNat (nR w + 1) else if k = 138 + 4 * nR w then Int32.ofNat m else if k = 139 + 4 * nR w then Int32.ofNat h else if k = 140 + 4 * nR w then Int32.ofNat v else if k = 141 + 4 * nR w then Int32.ofNat x else w k
section RA
variable {w : wg} {m h v x : Nat}
theorem rgA_ne {k : Nat} (h1 : k ≠ 4) (h2 : k < 138 + 4 * nR w ∨ 142 + 4 * nR w ≤ k) : rgA w m h v x k = w k := by
  unfold rgA
  rw [if_neg h1, if_neg (by omega), if_neg (by omega), if_neg (by omega), if_neg (by omega)]
theorem rgA_rch (hn : nR w < 12) : rch w (rgA w m h v x) := fun k h1 h2 => rgA_ne h1 (by omega)
theorem rgA_c : rgA w m h v x 4 = Int32.ofNat (nR w + 1) ∧ rgA w m h v x (138 + 4 * nR w) = Int32.ofNat m ∧ rgA w m h v x (139 + 4 * nR w) = Int32.ofNat h ∧ rgA w m h v x (140 + 4 * nR w) = Int32.ofNat v ∧ rgA w m h v x (141 + 4 * nR w) = Int32.ofNat x := by
  unfold rgA
  refine ⟨if_pos rfl, ?_, ?_, ?_, ?_⟩
  · rw [if_neg (by omega), if_pos rfl]
  · rw [if_neg (by omega), if_neg (by omega), if_pos rfl]
  · rw [if_neg (by omega), if_neg (by omega), if_neg (by omega), if_pos rfl]
  · rw [if_neg (by omega), if_neg (by omega), if_neg (by omega), if_neg (by omega), if_pos rfl]
theorem rgA_wv (hw : wv w) (hn : nR w < 12) (hm : m < 1000) (hh : h < nH w) (hv : v < nW w) (hx : 2 ≤ x ∧ x < 512) : wv (rgA w m h v x) ∧ nR (rgA w m h v x) = nR w + 1 := by
  obtain ⟨c1, c2, c3, c4, c5⟩ := rgA_c (w := w) (m := m) (h := h) (v := v) (x := x)
  refine wv_rch hw (rgA_rch hn) c1 (by omega) (fun r hr => ?_)
  by_cases e : r = nR w
  · subst e
    exact ⟨⟨m, hm, c2⟩, ⟨h, hh, c3⟩, ⟨v, hv, c4⟩, ⟨x, hx.1, hx.2, c5⟩⟩
  · rw [rgA_ne (by omega) (by omega), rgA_ne (by omega) (by omega), rgA_ne (by omega) (by omega), rgA_ne (by omega) (by omega)]
    exact wv_r hw (by omega)
end RA
section ADD
variable {σ : sg} {ρ : rg} {t R : Nat} {w : wg} {m h v : Nat}
theorem M_lays (H : wS σ ρ w) (hn : nR w < 12) (hm : m < 1000) (hh : h < nH w) (hv : v < nW w) (hx : wx w h v ≠ 0) : ∃ τ, f_X12_lays (σ, ρ) 105 (Int32.ofNat m) (Int32.ofNat h) (Int32.ofNat v) = some τ ∧ wS τ ρ (rgA w m h v (wx w h v)) ∧ (∀ o, o ≠ 106 → τ o = σ o) ∧ (∀ k, 1023 ≤ k → τ 106 k = σ 106 k) := by
  have hH := (wv_H H.2.2).2
  have hW := (wv_W H.2.2).2
  have hxl := wx_lt H.2.2 (a := h) (v := v)
  have hx1 := wx_1 H.2.2 (a := h) (v := v)
  obtain ⟨t, u, h0⟩ := H.1
  unfold f_X12_lays
  simp only [M_w H, Option.bind_some, M_rc H]
  simp only [show (138 : Int32) = Int32.ofNat 138 from rfl, show (4 : Int32) = Int32.ofNat 4 from rfl, show (1 : Int32) = Int32.ofNat 1 from rfl, show (2 : Int32) = Int32.ofNat 2 from rfl, show (3 : Int32) = Int32.ofNat 3 from rfl, on_add, on_mul]
  rw [st_on (by rw [ln_106]; omega) (by omega)]
  simp only [Option.bind_some]
  rw [st_on (by rw [ln_106]; omega) (by omega)]
  simp only [Option.bind_some]
  rw [st_on (by rw [ln_106]; omega) (by omega)]
  simp only [Option.bind_some]
  rw [m_wordOf h0 (by omega) (by omega), u2_nj (by omega), u2_nj (by omega), u2_nj (by omega), H.2.1 _ (by omega), (wv_wd H.2.2 hh (by omega)).1]
  have ex : wd w h v = wx w h v := by unfold wx; rw [if_pos ⟨hh, hv⟩]
  rw [ex]
  simp only [Option.bind_some]
  rw [st_on (by rw [ln_106]; omega) (by omega)]
  simp only [Option.bind_some]
  rw [ld_on (by rw [ln_106]; omega) (by omega), u2_nj (by omega), u2_nj (by omega), u2_nj (by omega), u2_nj (by omega), H.2.1 _ (by omega), (wv_R H.2.2).1]
  simp only [Option.bind_some, on_add]
  rw [st_on (by rw [ln_106]; omega) (by omega)]
  refine ⟨_, rfl, ⟨⟨t, u, h0⟩, fun k hk => ?_, (rgA_wv H.2.2 hn hm hh hv ⟨by omega, by omega⟩).1⟩, fun o ho => ?_, fun k hk => ?_⟩
  · unfold rgA
    by_cases e4 : k = 4
    · subst e4; rw [if_pos rfl, u2_eq]
    · rw [if_neg e4, u2_nj e4]
      by_cases e3 : k = 138 + 4 * nR w + 3
      · subst e3; rw [u2_eq, if_neg (by omega), if_neg (by omega), if_neg (by omega), if_pos (by omega)]
      · rw [u2_nj e3]
        by_cases e2 : k = 138 + 4 * nR w + 2
        · subst e2; rw [u2_eq, if_neg (by omega), if_neg (by omega), if_pos (by omega)]
        · rw [u2_nj e2]
          by_cases e1 : k = 138 + 4 * nR w + 1
          · subst e1; rw [u2_eq, if_neg (by omega), if_pos (by omega)]
          · rw [u2_nj e1]
            by_cases e0 : k = 138 + 4 * nR w
            · subst e0; rw [u2_eq, if_pos rfl]
            · rw [u2_nj e0, if_neg e0, if_neg (by omega), if_neg (by omega), if_neg (by omega)]
              exact H.2.1 k hk
  · rw [u2_row ho, u2_row ho, u2_row ho, u2_row ho, u2_row ho]
  · rw [u2_nj (by omega), u2_nj (by omega), u2_nj (by omega), u2_nj (by omega), u2_nj (by omega)]
theorem c_add {x : Nat} (G : rS σ ρ R w) (hn : nR w < 12) (hm : m < 1000) (hh : h < nH w) (hv : v < nW w) (hx : 2 ≤ x ∧ x < 512) : ∃ τ, f_X6_add (σ, ρ) R (Int32.ofNat m) (Int32.ofNat h) (Int32.ofNat v) (Int32.ofNat x) = some (Int32.ofNat (nR w), τ) ∧ rS τ ρ R (rgA w m h v x) ∧ (∀ o, o < R ∨ R + 4 < o → τ o = σ o) ∧ (∀ o j, j ≠ nR w → (o ≠ R) → τ o j = σ o j) := by
  have hH := (wv_H G.2.2.2.2).2
  have hW := (wv_W G.2.2.2.2).2
  obtain ⟨a, b, hrr⟩ := G.1
  have hl := ln_o G.2.1
  unfold f_X6_add
  simp only [G.2.2.1, rd_o hrr G.2.1 (show 1 = 1 ∨ _ by decide), rd_o hrr G.2.1 (show 2 = 1 ∨ _ by decide), rd_o hrr G.2.1 (show 3 = 1 ∨ _ by decide), rd_o hrr G.2.1 (show 4 = 1 ∨ _ by decide), Option.bind_some]
  rw [if_neg (on_neg (by omega)), if_pos (show Int32.ofNat (nR w) < 12 from (on_lt (b := 12) (by omega) (by decide)).mpr (by omega)), st_on (by omega) (by omega)]
  simp only [Option.bind_some]
  rw [u2_ne (show R ≠ R + 1 by omega), G.2.2.1, st_on (by omega) (by omega)]
  simp only [Option.bind_some]
  rw [u2_ne (show R ≠ R + 2 by omega), u2_ne (show R ≠ R + 1 by omega), G.2.2.1, st_on (by omega) (by omega)]
  simp only [Option.bind_some]
  rw [u2_ne (show R ≠ R + 3 by omega), u2_ne (show R ≠ R + 2 by omega), u2_ne (show R ≠ R + 1 by omega), G.2.2.1, st_on (by omega) (by omega)]
  simp only [Option.bind_some]
  rw [u2_ne (show R ≠ R + 4 by omega), u2_ne (show R ≠ R + 3 by omega), u2_ne (show R ≠ R + 2 by omega), u2_ne (show R ≠ R + 1 by omega), G.2.2.1, u2_eq, on_s]
  have hres : Int32.ofNat (nR w + 1) - 1 = Int32.ofNat (nR w) := by rw [show (1 : Int32) = Int32.ofNat 1 from rfl, on_sub (by omega)]; rfl
  rw [hres]
  obtain ⟨c1, c2, c3, c4, c5⟩ := rgA_c (w := w) (m := m) (h := h) (v := v) (x := x)
  obtain ⟨d1, d2⟩ := rgA_wv G.2.2.2.2 hn hm hh hv hx
  refine ⟨_, rfl, ⟨G.1, G.2.1, ?_, fun r hr => ?_, d1⟩, fun o ho => ?_, fun o j hj ho => ?_⟩
  · rw [d2, u2_eq]
  · rw [d2] at hr
    rw [u2_ne (show R + 1 ≠ R by omega), u2_ne (show R + 2 ≠ R by omega), u2_ne (show R + 3 ≠ R by omega), u2_ne (show R + 4 ≠ R by omega), u2_ne (show R + 1 ≠ R + 4 by omega), u2_ne (show R + 2 ≠ R + 4 by omega), u2_ne (show R + 3 ≠ R + 4 by omega), u2_ne (show R + 1 ≠ R + 3 by omega), u2_ne (show R + 2 ≠ R + 3 by omega), u2_ne (show R + 1 ≠ R + 2 by omega)]
    by_cases e : r = nR w
    · subst e
      rw [u2_eq, u2_eq, u2_eq, u2_eq, c2, c3, c4, c5]
      exact ⟨rfl, rfl, rfl, rfl⟩
    · simp only [u2_nj e]
      rw [rgA_ne (by omega) (by omega), rgA_ne (by omega) (by omega), rgA_ne (by omega) (by omega), rgA_ne (by omega) (by omega)]
      exact G.2.2.2.1 r (by omega)
  · rw [u2_row (show o ≠ R by omega), u2_row (show o ≠ R + 4 by omega), u2_row (show o ≠ R + 3 by omega), u2_row (show o ≠ R + 2 by omega), u2_row (show o ≠ R + 1 by omega)]
  · rw [u2_ne ho, u2_nj hj, u2_nj hj, u2_nj hj, u2_nj hj]
end ADD
theorem tw_rch {σ τ : sg} {t : Nat} {w w' : wg} (h : tw σ t w) (hw : wv w) (hc : rch w w') (hr : ∀ o, t ≤ o → o ≤ t + 12 → τ o = σ o) (h15 : tw_r τ t w') : tw τ t w' := by
  obtain ⟨⟨f0, f1, f2, f3, f4, f5⟩, th, tv, tww, tc, -, tl⟩ := h
  have eH := rch_H hc
  have eW := rch_W hc
  have hH := (wv_H hw).2
  have hW := (wv_W hw).2
  refine ⟨⟨?_, ?_, ?_, ?_, ?_, ?_⟩, ?_, ?_, ?_, ?_, h15, ?_⟩
  · rw [hr t (by omega) (by omega), hc _ (by omega) (by omega)]; exact f0
  · rw [hr t (by omega) (by omega), hc _ (by omega) (by omega)]; exact f1
  · rw [hr t (by omega) (by omega), hc _ (by omega) (by omega)]; exact f2
  · rw [hr t (by omega) (by omega), hc _ (by omega) (by omega)]; exact f3
  · rw [hr t (by omega) (by omega), hc _ (by omega) (by omega)]; exact f4
  · rw [hr t (by omega) (by omega), hc _ (by omega) (by omega)]; exact f5
  · intro a ha
    rw [eH] at ha
    rw [hr (t + 1) (by omega) (by omega), hr (t + 2) (by omega) (by omega), hr (t + 3) (by omega) (by omega), hr (t + 4) (by omega) (by omega), hr (t + 5) (by omega) (by omega), hc _ (show 8 + 15 * a ≠ 4 by omega) (by omega), hc _ (show 9 + 15 * a ≠ 4 by omega) (by omega), hc _ (show 10 + 15 * a ≠ 4 by omega) (by omega), hc _ (show 11 + 15 * a ≠ 4 by omega) (by omega), hc _ (show 12 + 15 * a ≠ 4 by omega) (by omega)]
    exact th a ha
  · intro v hv
    rw [eW] at hv
    rw [hr (t + 6) (by omega) (by omega), hc _ (by omega) (by omega)]
    exact tv v hv
  · intro a ha v hv
    rw [hr (t + 7) (by omega) (by omega), eH, rch_wd hc ha hv]
    exact tww a ha v hv
  · intro i hi j hj
    rw [eH] at hi hj
    rw [hr (t + 8) (by omega) (by omega), rch_clr hc (by omega) (by omega)]
    exact tc i hi j hj
  · exact lwR_cg tl (fun k hk => hc k (by omega) (by omega)) (by rw [hr (t + 9) (by omega) (by omega)]) (hr _ (by omega) (by omega)) (hr _ (by omega) (by omega)) (hr _ (by omega) (by omega))
/-! answers with a change -/
def Rs (tab : List (Nat × Int32)) (C : Option am_R) (M : am_S → Option (Int32 × sg)) : Prop :=
  ∃ (o : am_O) (S1 : am_S), C = some (o, S1) ∧ ((∃ (r : Int32) (σ2 : sg), o = .inl (some (.int r)) ∧ M (am_u2 S1.1 122 0 r, S1.2) = some (r, σ2) ∧ σ2 105 0 = 0 ∧ σ2 122 0 = r ∧ Inv (σ2, S1.2)) ∨ (∃ (k : Nat) (b c : Int32) (σ2 : sg), o = .inr k ∧ tab.lookup k = some c ∧ c ≠ 0 ∧ M S1 = some (b, σ2) ∧ σ2 105 0 = c ∧ Inv (σ2, S1.2)))
theorem ag_122 {σ : sg} {v : Int32} : ag σ (am_u2 σ 122 0 v) := ag_u (by decide) ag_rf
theorem Rs_q {σ : sg} {ρ : rg} {t u : Nat} {w wi : wg} {tab : List (Nat × Int32)} {C : Option am_R} {M : am_S → Option (Int32 × sg)} (I : Iv σ ρ t u w wi) (h : Rq σ ρ w tab C M) : Rs tab C M := by
  obtain ⟨o, σ1, h1, h2, h3⟩ := h
  have I1 := Iv_ag I h2
  refine ⟨o, (σ1, ρ), h1, ?_⟩
  obtain ⟨b, σ2, g1, g2, g3⟩ := h3 σ1 (Iv_w I1)
  rcases g3 with ⟨rfl, -⟩ | ⟨k, c, rfl, e1, e2, e3⟩
  · left
    have I2 := Iv_ag I1 (ag_122 (v := b))
    obtain ⟨b', σ3, k1, k2, k3⟩ := h3 _ (Iv_w I2)
    rcases k3 with ⟨e, k4⟩ | ⟨k, c, e, -⟩
    · have : b = b' := by injection e with e; injection e with e; injection e
      subst this
      exact ⟨b, σ3, rfl, k1, k4, by rw [k2.2]; exact u2_eq, t, u, w, wi, Iv_ag I2 k2.1⟩
    · cases e
  · right
    exact ⟨k, b, c, σ2, rfl, e1, e2, g1, e3, t, u, w, wi, Iv_ag I1 g2.1⟩
section ST
variable {σ : sg} {ρ : rg} {t u : Nat} {w wi : wg}
theorem mdic (n : Nat) (hn : n < 2147483648) (N : Int32) (hN : N = Int32.ofNat n) (p : Int32) : (∃ m, m < n + 1 ∧ p = Int32.ofNat m ∧ ¬ (p < 0 ∨ N < p)) ∨ (p < 0 ∨ N < p) := by
  subst hN
  by_cases q : p < 0 ∨ Int32.ofNat n < p
  · exact Or.inr q
  · left
    obtain ⟨k, hk, rfl⟩ := i_of (fun z => q (Or.inl z))
    refine ⟨k, Nat.lt_of_not_le (fun z => q (Or.inr ((on_lt hn hk).mpr (by omega)))), rfl, q⟩
theorem c_nm0 {S : am_S} {p : Int32} (h : ¬ (p < 0 ∨ 999 < p)) : f_X11_needMinute S 0 p = some (.inl none, S) := by
  unfold f_X11_needMinute
  rw [if_neg (fun z => h (Or.inl z)), if_neg (fun z => h (Or.inr z))]
theorem c_nm1 {S : am_S} {p : Int32} (h : p < 0 ∨ 999 < p) : f_X11_needMinute S 0 p = some (.inr 1, S) := by
  unfold f_X11_needMinute
  by_cases a : p < 0
  · rw [if_pos a]
  · rw [if_neg a, if_pos (h.resolve_left a)]
theorem c_nr (I : Iv σ ρ t u w wi) : f_X11_needRoomForRinging (σ, ρ) 0 = some (if nR w < 12 then .inl none else .inr 2, (σ, ρ)) := by
  have hR := (wv_R I.2.2.1).2
  unfold f_X11_needRoomForRinging
  simp only [c_now I, c_rg I, Option.bind_some, c_R (Iv_t I), show (12 : Int32) = Int32.ofNat 12 from rfl, on_lt (show nR w < 2147483648 by omega) (show 12 < 2147483648 by decide)]
  by_cases e : nR w < 12 <;> simp [e]
theorem q_ring (I : Iv σ ρ t u w wi) (p q x : Int32) : Rs [(0, 1), (1, 2), (2, 3)] (f_X11_ring (σ, ρ) 0 p q x) (fun S => f_X12_ring S 105 p q x) := by
  have hH := (wv_H I.2.2.1).2
  have hW := (wv_W I.2.2.1).2
  have hR := (wv_R I.2.2.1).2
  rcases dic (nH w) q with ⟨h, hh, rfl⟩ | hq
  · rcases dic (nW w) x with ⟨v, hv, rfl⟩ | hx
    · have hxl := wx_lt I.2.2.1 (a := h) (v := v)
      have hx1 := wx_1 I.2.2.1 (a := h) (v := v)
      rcases mdic 999 (by decide) 999 rfl p with ⟨m, hm, rfl, hm2⟩ | hp
      · by_cases e : wx w h v = 0
        · refine Rs_q I (Rq_t (k := 1) (b := 0) (c := 2) (σ1 := σ) ?_ ag_rf rfl (by decide) (fun σ' H => ?_))
          · unfold f_X11_ring
            rw [c_nH0 I hh, thV_n, c_nW0 I hv, thV_n, c_nm0 hm2, thV_n]
            simp only [c_now I, Option.bind_some, c_wf (Iv_t I) (show h < 2147483648 by omega) (show v < 2147483648 by omega), e, zw_0, if_true]
          · unfold f_X12_ring
            simp only [M_nH0 H hh, M_nW0 H hv, Option.bind_some, th0, if_true, in_e]
            rw [if_neg hm2]
            simp only [i10, if_false, M_wf H hh hv, Option.bind_some, e]
            simp only [show (Int32.ofNat 0 = 0) = True from by decide, if_true, Option.bind_some, th1, i10, if_false, zz]
        · by_cases e2 : nR w < 12
          · have e0 : zw (wx w h v) ≠ -1 := fun z => e ((zw_m (by omega)).mp z)
            obtain ⟨τ, g1, g2, g3, g4⟩ := c_add (c_rS I) e2 (show m < 1000 by omega) hh hv (show 2 ≤ wx w h v ∧ wx w h v < 512 by omega)
            refine ⟨.inl (some (.int (Int32.ofNat (nR w)))), (τ, ρ), ?_, Or.inl ?_⟩
            · unfold f_X11_ring
              rw [c_nH0 I hh, thV_n, c_nW0 I hv, thV_n, c_nm0 hm2, thV_n]
              simp only [c_now I, c_rg I, Option.bind_some, c_wf (Iv_t I) (show h < 2147483648 by omega) (show v < 2147483648 by omega)]
              rw [if_neg e0, c_nr I, if_pos e2, thV_n, zw_p e]
              simp only [c_now I, c_rg I, Option.bind_some, g1]
            · -- the model lays it, too
              have hes := es_o (c_rS I).2.1
              have htn := (rh_tn I.1).1
              have t1 : t = 2 ∨ t = 24 := by rcases I.1.2.1 with ⟨h, -⟩ | ⟨h, -⟩ <;> omega
              have H0 : wS (am_u2 (am_u2 τ 122 0 (Int32.ofNat (nR w))) 105 0 0) ρ w := ⟨⟨t, u, I.1⟩, fun k hk => by
                rw [u2_ne (by decide), u2_ne (by decide), g3 106 (by omega)]
                exact I.2.1 k hk, I.2.2.1⟩
              obtain ⟨υ, k1, k2, k3, k4⟩ := M_lays H0 e2 (show m < 1000 by omega) hh hv e
              have d2 := (rgA_wv I.2.2.1 e2 (show m < 1000 by omega) hh hv (show 2 ≤ wx w h v ∧ wx w h v < 512 by omega))
              refine ⟨Int32.ofNat (nR w), υ, rfl, ?_, ?_, ?_, t, u, rgA w m h v (wx w h v), wi, ?_⟩
              · show f_X12_ring _ 105 _ _ _ = _
                unfold f_X12_ring
                simp only [M_nH0 H0 hh, M_nW0 H0 hv, Option.bind_some, th0, if_true, in_e]
                rw [if_neg hm2]
                simp only [i10, if_false, M_wf H0 hh hv, Option.bind_some, on_z (show wx w h v < 2147483648 by omega), if_neg e, th0, if_true, M_w H0, M_rc H0]
                rw [if_neg (fun z => by have := (on_inj (b := 12) (by omega) (by decide)).mp z; omega)]
                simp only [Option.bind_some, th0, if_true, k1, M_rc k2, d2.2]
                rw [show (1 : Int32) = Int32.ofNat 1 from rfl, on_sub (by omega)]
                rfl
              · rw [k3 105 (by decide), u2_eq]
              · rw [k3 122 (by decide), u2_ne (by decide), u2_eq]
              · have hne : ∀ o, o ≠ 106 → o ≠ 105 → o ≠ 122 → υ o = τ o := fun o a b c => by rw [k3 o a, u2_row b, u2_row c]
                show Iv υ ρ t u (rgA w m h v (wx w h v)) wi
                refine Iv_kp I (fun o j es1 a1 a2 a3 => ?_) k2.2.1 d2.1 ?_
                · rw [k3 o a1]
                  by_cases b : o = 105
                  · subst b
                    rw [u2_nj (by rintro rfl; revert es1; decide), u2_ne (by decide), g3 105 (by omega)]
                  · rw [u2_row b, u2_row (show o ≠ 122 by rintro rfl; revert es1; rw [es_0 rfl]; decide), g3 o (by omega)]
                · refine tw_rch I.2.2.2.1 I.2.2.1 (rgA_rch e2) (fun o a1 a2 => ?_) ⟨?_, fun r hr => ?_⟩
                  · rw [hne o (by omega) (by omega) (by omega), g3 o (by omega)]
                  · rw [hne (t + 15) (by omega) (by omega) (by omega), g2.2.2.1, (wv_R g2.2.2.2.2).1]
                  · rw [hne (t + 16) (by omega) (by omega) (by omega), hne (t + 17) (by omega) (by omega) (by omega), hne (t + 18) (by omega) (by omega) (by omega), hne (t + 19) (by omega) (by omega) (by omega)]
                    exact g2.2.2.2.1 r hr
          · have e3 : nR w = 12 := by omega
            refine Rs_q I (Rq_t (k := 2) (b := 0) (c := 3) (σ1 := σ) ?_ ag_rf rfl (by decide) (fun σ' H => ?_))
            · unfold f_X11_ring
              rw [c_nH0 I hh, thV_n, c_nW0 I hv, thV_n, c_nm0 hm2, thV_n]
              simp only [c_now I, Option.bind_some, c_wf (Iv_t I) (show h < 2147483648 by omega) (show v < 2147483648 by omega)]
              rw [if_neg (fun z => e ((zw_m (by omega)).mp z)), c_nr I, if_neg e2, thV_x]
            · unfold f_X12_ring
              simp only [M_nH0 H hh, M_nW0 H hv, Option.bind_some, th0, if_true, in_e]
              rw [if_neg hm2]
              simp only [i10, if_false, M_wf H hh hv, Option.bind_some, on_z (show wx w h v < 2147483648 by omega), if_neg e, th0, if_true, M_w H, M_rc H, e3]
              simp only [show (Int32.ofNat 12 = 12) = True from by decide, if_true, Option.bind_some, th1, i10, if_false, zz]
      · refine Rs_q I (Rq_t (k := 1) (b := 0) (c := 2) (σ1 := σ) ?_ ag_rf rfl (by decide) (fun σ' H => ?_))
        · unfold f_X11_ring
          rw [c_nH0 I hh, thV_n, c_nW0 I hv, thV_n, c_nm1 hp, thV_x]
        · unfold f_X12_ring
          simp only [M_nH0 H hh, M_nW0 H hv, Option.bind_some, th0, if_true, in_e]
          rw [if_pos hp]
          simp only [if_true, Option.bind_some, th1, i10, if_false, zz]
    · refine Rs_q I (Rq_t (k := 0) (b := 0) (c := 1) (σ1 := σ) ?_ ag_rf rfl (by decide) (fun σ' H => ?_))
      · unfold f_X11_ring
        rw [c_nH0 I hh, thV_n, c_nW1 I hx, thV_x]
      · unfold f_X12_ring
        simp only [M_nH0 H hh, M_nW1 H hx, Option.bind_some, if_true, th1, i10, if_false, zz]
  · refine Rs_q I (Rq_t (k := 0) (b := 0) (c := 1) (σ1 := σ) ?_ ag_rf rfl (by decide) (fun σ' H => ?_))
    · unfold f_X11_ring
      rw [c_nH1 I hq, thV_x]
    · unfold f_X12_ring
      simp only [M_nH1 H hq, Option.bind_some, if_true, th1, i10, if_false, zz]
end ST
