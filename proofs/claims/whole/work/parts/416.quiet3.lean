section QT3
variable {σ : sg} {ρ : rg} {t u : Nat} {w wi : wg}
/-- the model's loop -/
theorem M_quiet (H : wS σ ρ w) {h v fr D : Nat} (hn12 : nR w < 12) (hh : h < nH w) (hv : v < nW w) (hx : wx w h v ≠ 0) (hfr : fr + D < 1000) : ∃ τ w', am_loop (f_X12_quiet_b123 (σ, ρ) 105 (Int32.ofNat h) (Int32.ofNat v) (Int32.ofNat (fr + D))) am_fuel (-1, -1, Int32.ofNat fr, σ) = some (Int32.ofNat (fr + fo (bst (fun j => qg w h v (wx w h v) (nR w) (fr + j))) (D + 1) 0), τ) ∧ wS τ ρ w' ∧ rqe w w' ∧ (∀ o, o ≠ 106 → τ o = σ o) := by
  have hH := (wv_H H.2.2).2
  have hW := (wv_W H.2.2).2
  have hxl := wx_lt H.2.2 (a := h) (v := v)
  have hx1 := wx_1 H.2.2 (a := h) (v := v)
  have hwA0 := rgA_wv H.2.2 hn12 (show 0 < 1000 by omega) hh hv (show 2 ≤ wx w h v ∧ wx w h v < 512 by omega)
  have hgl : ∀ k, (fun j => qg w h v (wx w h v) (nR w) (fr + j)) k < 1000 := fun k => qg_lt H.2.2
  generalize hg : (fun j => qg w h v (wx w h v) (nR w) (fr + j)) = g at hgl
  obtain ⟨d, h1, h2⟩ := lp_rule (body := f_X12_quiet_b123 (σ, ρ) 105 (Int32.ofNat h) (Int32.ofNat v) (Int32.ofNat (fr + D))) (D + 1)
    (fun k y => (y.1, y.2.1) = fo (bsm g fr) k (-1, -1) ∧ y.2.2.1 = Int32.ofNat (fr + k) ∧ (∃ w', wS y.2.2.2 ρ w' ∧ rqe w w') ∧ (∀ o, o ≠ 106 → y.2.2.2 o = σ o))
    (fun d => d.1 = Int32.ofNat (fr + fo (bst g) (D + 1) 0) ∧ (∃ w', wS d.2 ρ w' ∧ rqe w w') ∧ (∀ o, o ≠ 106 → d.2 o = σ o))
    (x := (-1, -1, Int32.ofNat fr, σ)) ⟨rfl, rfl, ⟨w, H, rch_rf, rfl, fun _ _ _ => rfl⟩, fun _ _ => rfl⟩ (fun k y hk hy => by
      obtain ⟨be, mo, i, τ⟩ := y
      obtain ⟨y1, rfl, ⟨w', y3, y4⟩, y5⟩ := hy
      simp only at y1 y3 y5
      unfold f_X12_quiet_b123
      simp only
      by_cases e : k ≤ D
      · left
        rw [if_neg (fun z => by have := (on_lt (by omega) (by omega)).mp z; omega)]
        have hn' : nR w' < 12 := by rw [rqe_R y4]; exact hn12
        have hh' : h < nH w' := by rw [rch_H y4.1]; exact hh
        have hv' : v < nW w' := by rw [rch_W y4.1]; exact hv
        have hxe : wx w' h v = wx w h v := rch_wx y4.1 H.2.2
        obtain ⟨υ, k1, k2, k3, k4⟩ := M_lays y3 hn' (show fr + k < 1000 by omega) hh' hv' (by rw [hxe]; exact hx)
        rw [hxe] at k2
        have hwA := rgA_wv y3.2.2 hn' (show fr + k < 1000 by omega) hh' hv' (show 2 ≤ wx w h v ∧ wx w h v < 512 by omega)
        rw [k1]
        simp only [Option.bind_some, M_w y3, M_rc k2, hwA.2]
        have hs : Int32.ofNat (nR w' + 1) - 1 = Int32.ofNat (nR w') := by rw [show (1 : Int32) = Int32.ofNat 1 from rfl, on_sub (by omega)]; rfl
        rw [hs, show (0 : Int32) = bi false from rfl, M_takers k2 (by rw [hwA.2]; omega)]
        simp only [Option.bind_some]
        rw [show (4 : Int32) = Int32.ofNat 4 from rfl, st_on (by rw [ln_106]; omega) (by omega)]
        -- how many take it
        have hrq := rqe_A y4 H.2.2 (show fr + k < 1000 by omega) (show h < 8 by omega) (show v < 10 by omega) hxl hn12
        have hrt : rt (rgA w' (fr + k) h v (wx w h v)) (nR w') = Int32.ofNat (g k) := by
          have hgk : g k = qg w h v (wx w h v) (nR w) (fr + k) := by rw [← hg]
          rw [hgk]
          unfold rt qg
          rw [sm_ct]
          obtain ⟨r1, r2, r3, r4, r5⟩ := rgA_r (w := w') (m := fr + k) (h := h) (v := v) (x := wx w h v) (by omega) (by omega) (by omega) hxl y3.2.2
          have eH : nH (rgA w' (fr + k) h v (wx w h v)) = nH w := by rw [rch_H (rgA_rch hn'), rch_H y4.1]
          rw [eH]
          congr 2
          funext l
          unfold jR
          rw [r2, r3, r4, rqe_R y4, rqm_hd hrq hwA0.1 (by rw [hwA0.2]; omega), rch_tk (rgA_rch hn') y3.2.2, rch_tk y4.1 H.2.2]
        simp only [Option.bind_some, hrt, Bool.false_eq_true, if_false, ite_some, i_max]
        refine ⟨_, rfl, by omega, ?_, ?_, ⟨rgF (rgA w' (fr + k) h v (wx w h v)) (nR w'), ⟨y3.1, fun c hc => ?_, ?_⟩, ?_⟩, fun o ho => ?_⟩
        · show (_, _) = bsm g fr k (fo (bsm g fr) k (-1, -1))
          rw [← y1]
          rfl
        · show Int32.ofNat (fr + k) + 1 = _
          rw [on_s]; rfl
        · show am_u2 υ 106 4 (Int32.ofNat (nR w')) 106 c = _
          by_cases q : c = 4
          · subst q; rw [u2_eq]; rfl
          · rw [u2_nj q, rgF_ne q]; exact k2.2.1 c hc
        · exact (rgF_wv hwA.1 (by rw [hwA.2]; omega)).1
        · refine ⟨fun c a1 a2 => ?_, ?_, fun c a1 a2 => ?_⟩
          · rw [rgF_ne a1, rgA_ne a1 (by omega)]; exact y4.1 c a1 a2
          · show Int32.ofNat (nR w') = w 4
            rw [rqe_R y4, (wv_R H.2.2).1]
          · rw [rgF_ne (by omega), rgA_ne (by omega) (by rw [rqe_R y4]; omega)]; exact y4.2.2 c a1 a2
        · show am_u2 υ 106 4 (Int32.ofNat (nR w')) o = σ o
          rw [u2_row ho, k3 o ho, y5 o ho]
      · right
        have : k = D + 1 := by omega
        subst this
        rw [if_pos ((on_lt (by omega) (by omega)).mpr (by omega))]
        refine ⟨_, rfl, ?_, ⟨w', y3, y4⟩, y5⟩
        rw [bsm_s hgl (D + 1) (by omega)] at y1
        exact congrArg Prod.fst y1) (by omega)
  obtain ⟨g1, ⟨w', g2, g3⟩, g4⟩ := h2
  exact ⟨d.2, w', by rw [h1, ← g1], g2, g3, g4⟩
theorem Iv_rqe {τ : sg} {w' : wg} (I : Iv σ ρ t u w wi) (h1 : ∀ k, k < 1023 → τ 106 k = w' k) (h2 : rqe w w') (h3 : ∀ o j, es o j = true → o ≠ 106 → τ o j = σ o j) : Iv τ ρ t u w' wi := by
  have hr : ∀ o, es_l.getD o 0 = 1 → o ≠ 106 → τ o = σ o := fun o e ho => funext (fun j => h3 o j (es_1 e) ho)
  have t1 : t = 2 ∨ t = 24 := by rcases I.1.2.1 with ⟨h, -⟩ | ⟨h, -⟩ <;> omega
  obtain ⟨e0, e1, e2, e3, e4, e5, e6, e7, e8, e9, e10, e11, e12, e13, e14, e15, e16, e17, e18, e19, -⟩ := es_t (rh_tn I.1).1
  have T1 : tw τ t w := tw_cg I.2.2.2.1 (hr _ e0 (by omega)) (hr _ e1 (by omega)) (hr _ e2 (by omega)) (hr _ e3 (by omega)) (hr _ e4 (by omega)) (hr _ e5 (by omega)) (hr _ e6 (by omega)) (hr _ e7 (by omega)) (hr _ e8 (by omega)) (h3 _ _ (by unfold es; rw [e9]; rfl) (by omega)) (hr _ e10 (by omega)) (hr _ e11 (by omega)) (hr _ e12 (by omega)) (h3 _ _ (by unfold es; rw [e15]; rfl) (by omega)) (hr _ e16 (by omega)) (hr _ e17 (by omega)) (hr _ e18 (by omega)) (hr _ e19 (by omega))
  refine Iv_kp I (fun o j e a _ _ => h3 o j e a) h1 (rqe_wv h2 I.2.2.1) ?_
  refine tw_rch T1 I.2.2.1 h2.1 (fun _ _ _ => rfl) ⟨by rw [h2.2.1]; exact T1.2.2.2.2.2.1.1, fun r hr => ?_⟩
  rw [rqe_R h2] at hr
  rw [h2.2.2 _ (by omega) (by omega), h2.2.2 _ (by omega) (by omega), h2.2.2 _ (by omega) (by omega), h2.2.2 _ (by omega) (by omega)]
  exact T1.2.2.2.2.2.1.2 r hr
theorem q_quiet (I : Iv σ ρ t u w wi) (p q x y : Int32) : Rs [(0, 1), (1, 2), (2, 3)] (f_X11_quiet (σ, ρ) 0 p q x y) (fun S => f_X12_quiet S 105 p q x y) := by
  have hH := (wv_H I.2.2.1).2
  have hW := (wv_W I.2.2.1).2
  have hR := (wv_R I.2.2.1).2
  rcases dic (nH w) p with ⟨h, hh, rfl⟩ | hp
  · rcases dic (nW w) q with ⟨v, hv, rfl⟩ | hq
    · have hxl := wx_lt I.2.2.1 (a := h) (v := v)
      have hx1 := wx_1 I.2.2.1 (a := h) (v := v)
      rcases mdic 999 (by decide) 999 rfl x with ⟨fr, hfr, rfl, hf2⟩ | hxx
      · -- from is a minute
        have hmin : f_J9_min_7cf53 999 (Int32.ofNat fr + 60) = some (Int32.ofNat (min 999 (fr + 60))) := by
          unfold f_J9_min_7cf53
          rw [show (60 : Int32) = Int32.ofNat 60 from rfl, show (999 : Int32) = Int32.ofNat 999 from rfl, on_add]
          by_cases c : fr + 60 < 999
          · rw [if_pos ((on_lt (by omega) (by decide)).mpr c), Nat.min_eq_right (by omega)]
          · rw [if_neg (fun z => c ((on_lt (by omega) (by decide)).mp z)), Nat.min_eq_left (by omega)]
        have hlo : ∀ (σ' : sg), wS (am_u2 σ' 105 0 0) ρ w → (y < Int32.ofNat fr ∨ Int32.ofNat (min 999 (fr + 60)) < y) → f_X12_quiet (σ', ρ) 105 (Int32.ofNat h) (Int32.ofNat v) (Int32.ofNat fr) y = some (0, am_u2 σ' 105 0 2) := fun σ' H hb => by
          unfold f_X12_quiet
          simp only [M_nH0 H hh, M_nW0 H hv, Option.bind_some, th0, if_true, in_e]
          rw [if_neg hf2]
          simp only [i10, if_false, hmin, Option.bind_some]
          rw [if_pos hb]
          simp only [if_true, Option.bind_some, th1, i10, if_false, zz]
        rcases mdic 999 (by decide) 999 rfl y with ⟨to, hto, rfl, ht2⟩ | hyy
        · by_cases c1 : to < fr
          · refine Rs_q I (Rq_t (k := 1) (b := 0) (c := 2) (σ1 := σ) ?_ ag_rf rfl (by decide) (fun σ' H => hlo σ' H (Or.inl ((on_lt (by omega) (by omega)).mpr c1))))
            unfold f_X11_quiet
            rw [c_nH0 I hh, thV_n, c_nW0 I hv, thV_n, c_nm0 hf2, thV_n, c_nm0 ht2, thV_n, if_pos ((on_lt (by omega) (by omega)).mpr c1)]
          · obtain ⟨D, rfl⟩ : ∃ D, to = fr + D := ⟨to - fr, by omega⟩
            have hsub : Int32.ofNat (fr + D) - Int32.ofNat fr = Int32.ofNat D := by rw [on_sub (by omega)]; congr 1; omega
            have hc1 : ¬ Int32.ofNat (fr + D) < Int32.ofNat fr := fun z => by have := (on_lt (by omega) (by omega)).mp z; omega
            by_cases c2 : 60 < D
            · refine Rs_q I (Rq_t (k := 1) (b := 0) (c := 2) (σ1 := σ) ?_ ag_rf rfl (by decide) (fun σ' H => hlo σ' H (Or.inr ((on_lt (by omega) (by omega)).mpr (by omega)))))
              unfold f_X11_quiet
              rw [c_nH0 I hh, thV_n, c_nW0 I hv, thV_n, c_nm0 hf2, thV_n, c_nm0 ht2, thV_n, if_neg hc1, hsub, if_pos (show (60 : Int32) < Int32.ofNat D from (on_lt (a := 60) (by decide) (by omega)).mpr c2)]
            · have hc2 : ¬ (60 : Int32) < Int32.ofNat D := fun z => by have := (on_lt (a := 60) (by decide) (by omega)).mp z; omega
              have hin : ¬ (Int32.ofNat (fr + D) < Int32.ofNat fr ∨ Int32.ofNat (min 999 (fr + 60)) < Int32.ofNat (fr + D)) := fun z => z.elim hc1 (fun z => by have := (on_lt (by omega) (by omega)).mp z; omega)
              by_cases e2 : nR w < 12
              · by_cases e : wx w h v = 0
                · refine Rs_q I (Rq_z (r := -1) (σ1 := σ) ?_ ag_rf (fun σ' H => ?_))
                  · unfold f_X11_quiet
                    rw [c_nH0 I hh, thV_n, c_nW0 I hv, thV_n, c_nm0 hf2, thV_n, c_nm0 ht2, thV_n, if_neg hc1, hsub, if_neg hc2, c_nr I, if_pos e2, thV_n]
                    simp only [c_now I, Option.bind_some, c_wf (Iv_t I) (show h < 2147483648 by omega) (show v < 2147483648 by omega), e, zw_0, if_true]
                  · unfold f_X12_quiet
                    simp only [M_nH0 H hh, M_nW0 H hv, Option.bind_some, th0, if_true, in_e]
                    rw [if_neg hf2]
                    simp only [i10, if_false, hmin, Option.bind_some]
                    rw [if_neg hin]
                    simp only [i10, if_false, Option.bind_some, th0, if_true, M_w H, M_rc H]
                    rw [if_neg (fun z => by have := (on_inj (b := 12) (by omega) (by decide)).mp z; omega)]
                    simp only [Option.bind_some, th0, if_true, M_wf H hh hv, e]
                    rfl
                · obtain ⟨τ, g1, g2⟩ := c_quiet I e2 hh hv e (show fr + D < 1000 by omega) (show D ≤ 60 by omega)
                  have I1 := Iv_ag I g2
                  have I2 := Iv_ag I1 (ag_122 (v := Int32.ofNat (fr + fo (bst (fun j => qg w h v (wx w h v) (nR w) (fr + j))) (D + 1) 0)))
                  have H0 := wS_z (Iv_w I2)
                  obtain ⟨υ, w', k1, k2, k3, k4⟩ := M_quiet H0 e2 hh hv e (show fr + D < 1000 by omega)
                  refine ⟨.inl (some (.int (Int32.ofNat (fr + fo (bst (fun j => qg w h v (wx w h v) (nR w) (fr + j))) (D + 1) 0)))), (τ, ρ), ?_, Or.inl ⟨_, υ, rfl, ?_, ?_, ?_, t, u, w', wi, ?_⟩⟩
                  · unfold f_X11_quiet
                    rw [c_nH0 I hh, thV_n, c_nW0 I hv, thV_n, c_nm0 hf2, thV_n, c_nm0 ht2, thV_n, if_neg hc1, hsub, if_neg hc2, c_nr I, if_pos e2, thV_n]
                    simp only [c_now I, Option.bind_some, c_wf (Iv_t I) (show h < 2147483648 by omega) (show v < 2147483648 by omega)]
                    rw [if_neg (fun z => e ((zw_m (by omega)).mp z)), g1]
                    rfl
                  · show f_X12_quiet _ 105 _ _ _ _ = _
                    unfold f_X12_quiet
                    simp only [M_nH0 H0 hh, M_nW0 H0 hv, Option.bind_some, th0, if_true, in_e]
                    rw [if_neg hf2]
                    simp only [i10, if_false, hmin, Option.bind_some]
                    rw [if_neg hin]
                    simp only [i10, if_false, Option.bind_some, th0, if_true, M_w H0, M_rc H0]
                    rw [if_neg (fun z => by have := (on_inj (b := 12) (by omega) (by decide)).mp z; omega)]
                    simp only [Option.bind_some, th0, if_true, M_wf H0 hh hv, on_z (show wx w h v < 2147483648 by omega)]
                    rw [if_neg e, k1]
                    rfl
                  · rw [k4 105 (by decide), u2_eq]
                  · rw [k4 122 (by decide), u2_ne (by decide), u2_eq]
                  · show Iv υ ρ t u w' wi
                    refine Iv_rqe (Iv_ag I2 ag2_z.1) k2.2.1 k3 (fun o j e a => by rw [k4 o a])
              · have e3 : nR w = 12 := by omega
                refine Rs_q I (Rq_t (k := 2) (b := 0) (c := 3) (σ1 := σ) ?_ ag_rf rfl (by decide) (fun σ' H => ?_))
                · unfold f_X11_quiet
                  rw [c_nH0 I hh, thV_n, c_nW0 I hv, thV_n, c_nm0 hf2, thV_n, c_nm0 ht2, thV_n, if_neg hc1, hsub, if_neg hc2, c_nr I, if_neg e2, thV_x]
                · unfold f_X12_quiet
                  simp only [M_nH0 H hh, M_nW0 H hv, Option.bind_some, th0, if_true, in_e]
                  rw [if_neg hf2]
                  simp only [i10, if_false, hmin, Option.bind_some]
                  rw [if_neg hin]
                  simp only [i10, if_false, Option.bind_some, th0, if_true, M_w H, M_rc H, e3]
                  simp only [show (Int32.ofNat 12 = 12) = True from by decide, if_true, Option.bind_some, th1, i10, if_false, zz]
        · refine Rs_q I (Rq_t (k := 1) (b := 0) (c := 2) (σ1 := σ) ?_ ag_rf rfl (by decide) (fun σ' H => hlo σ' H ?_))
          · unfold f_X11_quiet
            rw [c_nH0 I hh, thV_n, c_nW0 I hv, thV_n, c_nm0 hf2, thV_n, c_nm1 hyy, thV_x]
          · rcases hyy with z | z
            · left
              rw [Int32.lt_iff_toInt_lt] at z ⊢
              rw [on_int (by omega)]
              have h0 : (0 : Int32).toInt = 0 := rfl
              rw [h0] at z
              omega
            · right
              rw [Int32.lt_iff_toInt_lt] at z ⊢
              rw [on_int (by omega)]
              have h0 : (999 : Int32).toInt = 999 := rfl
              rw [h0] at z
              omega
      · refine Rs_q I (Rq_t (k := 1) (b := 0) (c := 2) (σ1 := σ) ?_ ag_rf rfl (by decide) (fun σ' H => ?_))
        · unfold f_X11_quiet
          rw [c_nH0 I hh, thV_n, c_nW0 I hv, thV_n, c_nm1 hxx, thV_x]
        · unfold f_X12_quiet
          simp only [M_nH0 H hh, M_nW0 H hv, Option.bind_some, th0, if_true, in_e]
          rw [if_pos hxx]
          simp only [if_true, Option.bind_some, th1, i10, if_false, zz]
    · refine Rs_q I (Rq_t (k := 0) (b := 0) (c := 1) (σ1 := σ) ?_ ag_rf rfl (by decide) (fun σ' H => ?_))
      · unfold f_X11_quiet
        rw [c_nH0 I hh, thV_n, c_nW1 I hq, thV_x]
      · unfold f_X12_quiet
        simp only [M_nH0 H hh, M_nW1 H hq, Option.bind_some, if_true, th1, i10, if_false, zz]
  · refine Rs_q I (Rq_t (k := 0) (b := 0) (c := 1) (σ1 := σ) ?_ ag_rf rfl (by decide) (fun σ' H => ?_))
    · unfold f_X11_quiet
      rw [c_nH1 I hp, thV_x]
    · unfold f_X12_quiet
      simp only [M_nH1 H hp, Option.bind_some, if_true, th1, i10, if_false, zz]
end QT3
