/-- an edge: the whole word comes -/
def ed (w : wg) (v j i : Nat) : Bool := decide (wx w j v ≠ 0) && decide (i < nH w) && decide ((wx w j v).log2 ≤ cx w i j)
def co (w : wg) (v j : Nat) : Nat := mnN (wx w j v)
section RE
variable {σ : sg} {ρ : rg} {t u : Nat} {w wi : wg} {v : Nat}
theorem wx_ne {w : wg} {j v : Nat} (h : wx w j v ≠ 0) : j < nH w ∧ v < nW w := by
  unfold wx at h
  by_cases q : j < nH w ∧ v < nW w
  · exact q
  · rw [if_neg q] at h; exact absurd rfl h
theorem ed_self (hw : wv w) {j : Nat} : ed w v j j = false := by
  unfold ed
  rw [cx_self]
  by_cases q : wx w j v = 0
  · simp [q]
  · have h1 := wx_1 hw (a := j) (v := v)
    have : 1 ≤ (wx w j v).log2 := (Nat.le_log2 q).mpr (by omega)
    have : ¬ (wx w j v).log2 ≤ 0 := by omega
    simp [this]
theorem ed_lt (hw : wv w) {j i : Nat} (h : ed w v j i = true) : wx w j v ≠ 0 ∧ i < nH w ∧ (wx w j v).log2 ≤ cx w i j ∧ 1 ≤ co w v j ∧ j < 8 ∧ i < 8 := by
  unfold ed at h
  simp only [Bool.and_eq_true, decide_eq_true_eq] at h
  have hH := (wv_H hw).2
  have h1 := wx_1 hw (a := j) (v := v)
  have h2 := wx_lt hw (a := j) (v := v)
  have := (wx_ne h.1.1).1
  exact ⟨h.1.1, h.1.2, h.2, (pr_s (n := wx w j v) (by omega) h2).1, by omega, by omega⟩
theorem co_18 (hw : wv w) {j : Nat} : co w v j ≤ 18 := (w_min (show wx w j v < 1024 by have := wx_lt hw (a := j) (v := v); omega)).2.2.1
theorem rd_rel {a b : Nat} (h : rh ρ a b) : am_rd ρ 0 12 105 = some 85 := rh_rd h (by decide) (by decide) (by decide +kernel)
theorem rd_reach {a b : Nat} (h : rh ρ a b) : am_rd ρ 85 0 1 = some 86 := rh_rd h (by decide) (by decide) (by decide +kernel)
theorem rd_lasting {a b : Nat} (h : rh ρ a b) : am_rd ρ 85 1 1 = some 87 := rh_rd h (by decide) (by decide) (by decide +kernel)
theorem rd_known {a b : Nat} (h : rh ρ a b) : am_rd ρ 85 2 1 = some 88 := rh_rd h (by decide) (by decide) (by decide +kernel)
theorem rd_knows {a b : Nat} (h : rh ρ a b) : am_rd ρ 105 19 1 = some 115 := rh_rd h (by decide) (by decide) (by decide +kernel)
theorem ln_86 : am_ln 86 = 8 := by decide
theorem ln_87 : am_ln 87 = 8 := by decide
theorem ln_88 : am_ln 88 = 8 := by decide
theorem ln_115 : am_ln 115 = 8 := by decide
theorem shl1 {k : Nat} (hk : k < 9) : (1 : Int32) <<< (Int32.ofNat k &&& 31) = Int32.ofNat (2 ^ k) := by
  rw [show (1 : Int32) = Int32.ofNat 1 from rfl, shl_s (by decide) hk, Nat.one_mul]
theorem c_prep (H : tS σ ρ t w) (hv : v < 2147483648) : ∃ τ, f_X5_prepare (σ, ρ) 85 t (Int32.ofNat v) = some τ ∧ (∀ o, o ≠ 86 → o ≠ 87 → τ o = σ o) ∧ (∀ j, j < 8 → τ 86 j = Int32.ofNat (bm (ed w v j) (nH w)) ∧ τ 87 j = Int32.ofNat (co w v j)) := by
  have hH := (wv_H H.2.2.2).2
  obtain ⟨a, b, hr⟩ := H.1
  obtain ⟨d, h1, h2⟩ := lp_rule (body := f_X5_prepare_b2 (σ, ρ) 85 t (Int32.ofNat v)) 8
    (fun k y => y.1 = Int32.ofNat k ∧ (∀ o, o ≠ 86 → o ≠ 87 → y.2 o = σ o) ∧ (∀ j, j < k → y.2 86 j = Int32.ofNat (bm (ed w v j) (nH w)) ∧ y.2 87 j = Int32.ofNat (co w v j)))
    (fun d => (∀ o, o ≠ 86 → o ≠ 87 → d o = σ o) ∧ (∀ j, j < 8 → d 86 j = Int32.ofNat (bm (ed w v j) (nH w)) ∧ d 87 j = Int32.ofNat (co w v j)))
    (x := (0, σ)) ⟨rfl, fun _ _ _ => rfl, fun j hj => absurd hj (by omega)⟩ (fun k y hk hy => by
      obtain ⟨i, τ⟩ := y
      obtain ⟨rfl, y1, y2⟩ := hy
      simp only at y1 y2
      have hag : ag σ τ := fun o j es1 => by rw [y1 o (by rintro rfl; rw [es_0 rfl] at es1; cases es1) (by rintro rfl; rw [es_0 rfl] at es1; cases es1)]
      have H' := tS_ag H hag
      unfold f_X5_prepare_b2
      simp only [rd_reach hr, rd_lasting hr, bnd]
      by_cases e : k < 8
      · left
        have hx := wx_lt H.2.2.2 (a := k) (v := v)
        rw [if_pos (show Int32.ofNat k < 8 from (on_lt (b := 8) (by omega) (by decide)).mpr e), c_wf H' (by omega) hv]
        have hst : f_X11_strokesOf (zw (wx w k v)) = some (Int32.ofNat (wx w k v).log2) := by
          by_cases z : wx w k v = 0
          · rw [z, zw_0, w_len0]; rfl
          · rw [zw_p z, (w_len (show wx w k v < 1024 by omega)).2]
        have hmi : f_X11_minutesOf (zw (wx w k v)) = some (Int32.ofNat (co w v k)) := by
          unfold co
          by_cases z : wx w k v = 0
          · rw [z, zw_0, w_min0]; rfl
          · rw [zw_p z, (w_min (show wx w k v < 1024 by omega)).2.1]
        simp only [bnd, hst, hmi]
        rw [st_on (by rw [ln_86]; omega) (by omega)]
        simp only [bnd]
        rw [st_on (by rw [ln_87]; omega) (by omega)]
        simp only [bnd]
        obtain ⟨υ, hυ⟩ : ∃ υ, υ = am_u2 (am_u2 τ 86 k 0) 87 k (Int32.ofNat (co w v k)) := ⟨_, rfl⟩
        rw [← hυ]
        have hl := w_log (show wx w k v < 1024 by omega)
        obtain ⟨d, g1, g2, g3⟩ : ∃ d, am_loop (f_X5_prepare_b44 (υ, ρ) 85 t (Int32.ofNat v) (Int32.ofNat k) (zw (wx w k v)) (Int32.ofNat (wx w k v).log2)) am_fuel (0, υ) = some d ∧ (∀ o j, ¬ (o = 86 ∧ j = k) → d o j = υ o j) ∧ d 86 k = Int32.ofNat (bm (ed w v k) (nH w)) := by
          by_cases z : wx w k v = 0
          · have hb : bm (ed w v k) (nH w) = 0 := by
              apply Nat.eq_of_testBit_eq
              intro q
              rw [bm_tb, Nat.zero_testBit]
              simp [ed, z]
            refine ⟨υ, ?_, fun _ _ _ => rfl, ?_⟩
            · show am_loop _ (999999999999 + 1) _ = _
              rw [am_loop_s]
              unfold f_X5_prepare_b44
              simp only [z, zw_0]
              by_cases y : (0 : Int32) < υ t 0
              · rw [if_pos y, if_pos trivial]; rfl
              · rw [if_neg y]; rfl
            · rw [hb, hυ, u2_ne (by decide), u2_eq]; rfl
          · obtain ⟨d, h1, h2⟩ := lp_rule (body := f_X5_prepare_b44 (υ, ρ) 85 t (Int32.ofNat v) (Int32.ofNat k) (zw (wx w k v)) (Int32.ofNat (wx w k v).log2)) (nH w)
              (fun i y => y.1 = Int32.ofNat i ∧ (∀ o j, ¬ (o = 86 ∧ j = k) → y.2 o j = υ o j) ∧ y.2 86 k = Int32.ofNat (bm (ed w v k) i))
              (fun d => (∀ o j, ¬ (o = 86 ∧ j = k) → d o j = υ o j) ∧ d 86 k = Int32.ofNat (bm (ed w v k) (nH w)))
              (x := (0, υ)) ⟨rfl, fun _ _ _ => rfl, by show υ 86 k = _; rw [hυ, u2_ne (by decide), u2_eq]; rfl⟩ (fun i y hi hy => by
                obtain ⟨i', ψ⟩ := y
                obtain ⟨rfl, z1, z2⟩ := hy
                simp only at z1 z2
                have hag2 : ag σ ψ := fun o j es1 => by
                  have n6 : o ≠ 86 := by rintro rfl; rw [es_0 rfl] at es1; cases es1
                  have n7 : o ≠ 87 := by rintro rfl; rw [es_0 rfl] at es1; cases es1
                  rw [z1 o j (fun q => n6 q.1), hυ, u2_ne n7, u2_ne n6, y1 o n6 n7]
                have H2 := tS_ag H hag2
                unfold f_X5_prepare_b44
                simp only [c_H H2, rd_reach hr, bnd]
                by_cases ei : i < nH w
                · left
                  have hc := cx_lt H.2.2.2 (i := i) (j := k)
                  rw [if_pos (lt_y ei (by omega)), if_neg (fun q => z ((zw_m (by omega)).mp q)), c_cl H2 (by omega) (by omega)]
                  simp only [bnd, on_lt (show cx w i k < 2147483648 by omega) (show (wx w k v).log2 < 2147483648 by omega), on_s]
                  by_cases q : cx w i k < (wx w k v).log2
                  · rw [if_pos q]
                    simp only [bnd]
                    refine ⟨_, rfl, ei, rfl, z1, ?_⟩
                    show ψ 86 k = Int32.ofNat (bm (ed w v k) i + _)
                    have : ed w v k i = false := by
                      have : ¬ (wx w k v).log2 ≤ cx w i k := by omega
                      unfold ed; simp [this]
                    rw [this, z2]; rfl
                  · rw [if_neg q, ld_on (by rw [ln_86]; omega) (by omega), z2]
                    simp only [bnd]
                    rw [shl1 (by omega), on_or, bm_or, st_on (by rw [ln_86]; omega) (by omega)]
                    simp only [bnd]
                    refine ⟨_, rfl, ei, rfl, fun o j hoj => ?_, ?_⟩
                    · show am_u2 ψ 86 k _ o j = _
                      unfold am_u2
                      rw [if_neg hoj, z1 o j hoj]
                    · show am_u2 ψ 86 k _ 86 k = Int32.ofNat (bm (ed w v k) i + _)
                      have : ed w v k i = true := by
                        have : (wx w k v).log2 ≤ cx w i k := by omega
                        unfold ed; simp [this, z, ei]
                      rw [u2_eq, this]; rfl
                · right
                  have : i = nH w := by omega
                  subst this
                  rw [if_neg (lt_n (by omega))]
                  exact ⟨_, rfl, z1, z2⟩) (by omega)
            exact ⟨d, h1, h2⟩
        rw [g1]
        simp only [bnd, on_s]
        refine ⟨_, rfl, e, rfl, fun o p q => ?_, fun j hj => ?_⟩
        · funext j
          show d o j = _
          rw [g2 o j (fun z => p z.1), hυ, u2_ne q, u2_ne p, y1 o p q]
        · show d 86 j = _ ∧ d 87 j = _
          by_cases q : j = k
          · subst q
            exact ⟨g3, by rw [g2 87 j (by omega), hυ, u2_eq]⟩
          · rw [g2 86 j (by omega), g2 87 j (by omega), hυ, u2_ne (by decide), u2_nj q, u2_nj q, u2_ne (by decide)]
            exact y2 j (by omega)
      · right
        have : k = 8 := by omega
        subst this
        rw [if_neg (by decide)]
        exact ⟨_, rfl, y1, y2⟩) (by decide)
  unfold f_X5_prepare
  rw [h1, bnd]
  exact ⟨d, rfl, h2⟩
/-- one rings on: the class -/
theorem c_ringOn {a b : Nat} (hr : rh ρ a b) (hw : wv w) {j : Nat} (hj : j < 8) {K : Nat → Nat} (hK : ∀ i, K i ≤ 1000000) (h86 : ∀ j, j < 8 → σ 86 j = Int32.ofNat (bm (ed w v j) (nH w)) ∧ σ 87 j = Int32.ofNat (co w v j)) (h88 : ∀ i, i < 8 → σ 88 i = Int32.ofNat (K i)) : ∃ τ, f_X5_ringOn (σ, ρ) 85 (Int32.ofNat j) = some τ ∧ (∀ o, o ≠ 88 → τ o = σ o) ∧ (∀ i, i < 8 → τ 88 i = Int32.ofNat (rxN (ed w v) (co w v) j K i)) := by
  have hH := (wv_H hw).2
  have hc := co_18 (v := v) hw (j := j)
  have hKj := hK j
  obtain ⟨d, h1, h2⟩ := lp_rule (body := f_X5_ringOn_b16 (σ, ρ) 85 (Int32.ofNat j) (Int32.ofNat (K j + co w v j))) 8
    (fun k y => y.1 = Int32.ofNat k ∧ (∀ o, o ≠ 88 → y.2 o = σ o) ∧ (∀ i, i < 8 → y.2 88 i = Int32.ofNat (if i < k then rxN (ed w v) (co w v) j K i else K i)))
    (fun d => (∀ o, o ≠ 88 → d o = σ o) ∧ (∀ i, i < 8 → d 88 i = Int32.ofNat (rxN (ed w v) (co w v) j K i)))
    (x := (0, σ)) ⟨rfl, fun _ _ => rfl, fun i hi => by rw [if_neg (by omega)]; exact h88 i hi⟩ (fun k y hk hy => by
      obtain ⟨i, τ⟩ := y
      obtain ⟨rfl, y1, y2⟩ := hy
      simp only at y1 y2
      unfold f_X5_ringOn_b16
      simp only [rd_reach hr, rd_known hr, bnd]
      by_cases e : k < 8
      · left
        have hbl := bm_lt (q := ed w v j) (nH w)
        have hp : 2 ^ nH w ≤ 2 ^ 8 := Nat.pow_le_pow_right (by decide) hH
        have hKk := hK k
        rw [if_pos (show Int32.ofNat k < 8 from (on_lt (b := 8) (by omega) (by decide)).mpr e), ld_on (by rw [ln_86]; omega) (by omega), y1 86 (by decide), (h86 j hj).1]
        simp only [bnd, on_bit (show bm (ed w v j) (nH w) < 1024 by omega) (show k < 11 by omega), bm_tb, on_s]
        have hedk : (decide (k < nH w) && ed w v j k) = ed w v j k := by
          cases z : ed w v j k with
          | false => simp
          | true => have := (ed_lt hw z).2.1; simp [this]
        rw [hedk]
        by_cases z : ed w v j k = true
        · rw [if_pos z, ld_on (by rw [ln_88]; omega) (by omega), y2 k e, if_neg (by omega)]
          simp only [bnd, on_lt (show K j + co w v j < 2147483648 by omega) (show K k < 2147483648 by omega)]
          by_cases q : K j + co w v j < K k
          · rw [if_pos q, st_on (by rw [ln_88]; omega) (by omega)]
            simp only [bnd]
            refine ⟨_, rfl, e, rfl, fun o ho => ?_, fun i hi => ?_⟩
            · show am_u2 τ 88 k _ o = _
              rw [u2_row ho, y1 o ho]
            · show am_u2 τ 88 k _ 88 i = _
              by_cases qi : i = k
              · subst qi
                rw [u2_eq, if_pos (by omega)]
                unfold rxN
                rw [if_pos ⟨z, q⟩]
              · rw [u2_nj qi, y2 i hi]
                by_cases ik : i < k
                · rw [if_pos ik, if_pos (by omega)]
                · rw [if_neg ik, if_neg (by omega)]
          · rw [if_neg q]
            simp only [bnd]
            refine ⟨_, rfl, e, rfl, y1, fun i hi => ?_⟩
            show τ 88 i = _
            rw [y2 i hi]
            by_cases qi : i = k
            · subst qi
              rw [if_neg (by omega), if_pos (by omega)]
              unfold rxN
              rw [if_neg (fun x => q x.2)]
            · by_cases ik : i < k
              · rw [if_pos ik, if_pos (by omega)]
              · rw [if_neg ik, if_neg (by omega)]
        · rw [if_neg z]
          simp only [bnd]
          refine ⟨_, rfl, e, rfl, y1, fun i hi => ?_⟩
          show τ 88 i = _
          rw [y2 i hi]
          by_cases qi : i = k
          · subst qi
            rw [if_neg (by omega), if_pos (by omega)]
            unfold rxN
            rw [if_neg (fun x => z x.1)]
          · by_cases ik : i < k
            · rw [if_pos ik, if_pos (by omega)]
            · rw [if_neg ik, if_neg (by omega)]
      · right
        have : k = 8 := by omega
        subst this
        rw [if_neg (by decide)]
        exact ⟨_, rfl, y1, fun i hi => by rw [y2 i hi, if_pos hi]⟩) (by decide)
  unfold f_X5_ringOn
  simp only [rd_known hr, rd_lasting hr, bnd]
  rw [ld_on (by rw [ln_88]; omega) (by omega), ld_on (by rw [ln_87]; omega) (by omega), h88 j hj, (h86 j hj).2]
  simp only [bnd, on_add]
  rw [h1, bnd]
  exact ⟨d, rfl, h2⟩
theorem c_till (H : tS σ ρ t w) {f h : Nat} (hv : v < 2147483648) (hf : f < nH w) (hh : h < nH w) : ∃ τ, f_X5_minutesTill (σ, ρ) 85 t (Int32.ofNat f) (Int32.ofNat v) (Int32.ofNat h) = some (if its (ed w v) (co w v) 8 (K0 f) h < 1000000 then Int32.ofNat (its (ed w v) (co w v) 8 (K0 f) h) else -1, τ) ∧ ag σ τ := by
  have hH := (wv_H H.2.2.2).2
  obtain ⟨a, b, hr⟩ := H.1
  obtain ⟨s1, p1, p2, p3⟩ := c_prep H hv
  obtain ⟨s2, q1, q2, q3⟩ := c_fill (σ := s1) (ρ := ρ) (a := 88) (v := 1000000) (by decide)
  have e2 : ∀ o, o ≠ 86 → o ≠ 87 → o ≠ 88 → s2 o = σ o := fun o x y z => by rw [q3 o z, p2 o x y]
  have ag2 : ag σ s2 := fun o j es1 => by rw [e2 o (by rintro rfl; rw [es_0 rfl] at es1; cases es1) (by rintro rfl; rw [es_0 rfl] at es1; cases es1) (by rintro rfl; rw [es_0 rfl] at es1; cases es1)]
  have H2 := tS_ag H ag2
  obtain ⟨s3, hs3⟩ : ∃ s3, s3 = am_u2 s2 88 f 0 := ⟨_, rfl⟩
  have hK0 : ∀ i, K0 f i ≤ 1000000 := fun i => by unfold K0; split <;> omega
  have r3 : ∀ i, i < 8 → s3 88 i = Int32.ofNat (K0 f i) := fun i hi => by
    rw [hs3]
    unfold K0
    by_cases z : i = f
    · subst z; rw [u2_eq, if_pos rfl]; rfl
    · rw [u2_nj z, if_neg z, q2 i (by rw [ln_88]; exact hi)]; rfl
  have r86 : ∀ j, j < 8 → s3 86 j = Int32.ofNat (bm (ed w v j) (nH w)) ∧ s3 87 j = Int32.ofNat (co w v j) := fun j hj => by
    rw [hs3, u2_ne (by decide), u2_ne (by decide), q3 86 (by decide), q3 87 (by decide)]; exact p3 j hj
  obtain ⟨s4, h1, h2⟩ := lp_rule (body := f_X5_minutesTill_b44 (s3, ρ) 85 (Int32.ofNat h)) 8
    (fun k y => y.1 = Int32.ofNat k ∧ (∀ o, o ≠ 88 → y.2 o = s3 o) ∧ (∀ i, i < 8 → y.2 88 i = Int32.ofNat (its (ed w v) (co w v) k (K0 f) i)))
    (fun d => (∀ o, o ≠ 88 → d o = s3 o) ∧ (∀ i, i < 8 → d 88 i = Int32.ofNat (its (ed w v) (co w v) 8 (K0 f) i)))
    (x := (0, s3)) ⟨rfl, fun _ _ => rfl, r3⟩ (fun k y hk hy => by
      obtain ⟨i, τ⟩ := y
      obtain ⟨rfl, y1, y2⟩ := hy
      simp only at y1 y2
      unfold f_X5_minutesTill_b44
      simp only
      by_cases e : k < 8
      · left
        rw [if_pos (show Int32.ofNat k < 8 from (on_lt (b := 8) (by omega) (by decide)).mpr e)]
        have hKk : ∀ i, its (ed w v) (co w v) k (K0 f) i ≤ 1000000 := fun i => Nat.le_trans (its_le k i) (hK0 i)
        obtain ⟨d, g1, g2⟩ := lp_rule (body := f_X5_minutesTill_b54 (τ, ρ) 85 (Int32.ofNat h) (Int32.ofNat k)) 8
          (fun j y => y.1 = Int32.ofNat j ∧ (∀ o, o ≠ 88 → y.2 o = s3 o) ∧ (∀ i, i < 8 → y.2 88 i = Int32.ofNat (swp (ed w v) (co w v) j (its (ed w v) (co w v) k (K0 f)) i)))
          (fun d => (∀ o, o ≠ 88 → d o = s3 o) ∧ (∀ i, i < 8 → d 88 i = Int32.ofNat (swp (ed w v) (co w v) 8 (its (ed w v) (co w v) k (K0 f)) i)))
          (x := (0, τ)) ⟨rfl, y1, y2⟩ (fun j y hj hy => by
            obtain ⟨i, ψ⟩ := y
            obtain ⟨rfl, z1, z2⟩ := hy
            simp only at z1 z2
            unfold f_X5_minutesTill_b54
            simp only
            by_cases ej : j < 8
            · left
              rw [if_pos (show Int32.ofNat j < 8 from (on_lt (b := 8) (by omega) (by decide)).mpr ej)]
              obtain ⟨χ, c1, c2, c3⟩ := c_ringOn (σ := ψ) hr H.2.2.2 ej (K := swp (ed w v) (co w v) j (its (ed w v) (co w v) k (K0 f))) (fun i => Nat.le_trans (swp_le j i) (hKk i)) (fun j hj => by rw [z1 86 (by decide), z1 87 (by decide)]; exact r86 j hj) z2
              rw [c1]
              simp only [bnd, on_s]
              exact ⟨_, rfl, ej, rfl, fun o ho => by show χ o = _; rw [c2 o ho, z1 o ho], c3⟩
            · right
              have : j = 8 := by omega
              subst this
              rw [if_neg (by decide)]
              exact ⟨_, rfl, z1, z2⟩) (by decide)
        rw [g1]
        simp only [bnd, on_s]
        exact ⟨_, rfl, e, rfl, g2.1, g2.2⟩
      · right
        have : k = 8 := by omega
        subst this
        rw [if_neg (by decide)]
        exact ⟨_, rfl, y1, y2⟩) (by decide)
  have hfin : its (ed w v) (co w v) 8 (K0 f) h ≤ 1000000 := Nat.le_trans (its_le 8 h) (hK0 h)
  refine ⟨s4, ?_, ag_tr ag2 (fun o j es1 => ?_)⟩
  · unfold f_X5_minutesTill
    simp only [p1, bnd, rd_known hr, q1, c_hh H2 hf, c_hh H2 hh, i10, if_false]
    rw [st_on (by rw [ln_88]; omega) (by omega)]
    simp only [bnd]
    rw [← hs3, h1]
    simp only [bnd]
    rw [ld_on (by rw [ln_88]; omega) (by omega), h2.2 h (by omega)]
    simp only [bnd]
    by_cases q : its (ed w v) (co w v) 8 (K0 f) h < 1000000
    · rw [if_pos (show Int32.ofNat _ < 1000000 from (on_lt (b := 1000000) (by omega) (by decide)).mpr q), if_pos q]
    · rw [if_neg (show ¬ Int32.ofNat _ < 1000000 from fun z => q ((on_lt (b := 1000000) (by omega) (by decide)).mp z)), if_neg q]
  · rw [h2.1 o (by rintro rfl; rw [es_0 rfl] at es1; cases es1), hs3, u2_ne (by rintro rfl; rw [es_0 rfl] at es1; cases es1)]
end RE
