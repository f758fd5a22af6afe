theorem andn {a b : Nat} : (Int32.ofNat a &&& (Int32.ofNat b ^^^ -1) = 0) ↔ ∀ k, k < 32 → a.testBit k = true → b.testBit k = true := by
  rw [← Int32.toBitVec_inj, Int32.toBitVec_and, Int32.toBitVec_xor, Int32.toBitVec_ofNat', Int32.toBitVec_ofNat']
  have hm : (-1 : Int32).toBitVec = BitVec.allOnes 32 := by decide
  have h0 : (0 : Int32).toBitVec = 0#32 := rfl
  rw [hm, h0, BitVec.xor_allOnes]
  constructor
  · intro h k hk ha
    have := congrArg (fun z => BitVec.getLsbD z k) h
    simp only [BitVec.getLsbD_and, BitVec.getLsbD_not, BitVec.getLsbD_ofNat, hk, decide_true, Bool.true_and, BitVec.getLsbD_zero, ha] at this
    simpa using this
  · intro h
    apply BitVec.eq_of_getLsbD_eq
    intro k hk
    simp only [BitVec.getLsbD_and, BitVec.getLsbD_not, BitVec.getLsbD_ofNat, hk, decide_true, Bool.true_and, BitVec.getLsbD_zero]
    cases ha : a.testBit k with
    | false => simp
    | true => rw [h k hk ha]; simp
theorem su_mono {f g : Nat → Nat} : ∀ {n : Nat}, (∀ k, k < n → f k ≤ g k) → su f n ≤ su g n
  | 0, _ => Nat.le_refl _
  | n + 1, h => by
    have := su_mono (n := n) (fun k hk => h k (by omega))
    have := h n (by omega)
    show su f n + f n ≤ su g n + g n
    omega
theorem su_strict {f g : Nat → Nat} {x : Nat} (hx : f x < g x) : ∀ {n : Nat}, x < n → (∀ k, k < n → f k ≤ g k) → su f n < su g n
  | 0, h, _ => by omega
  | n + 1, h, hm => by
    have h1 := hm n (by omega)
    show su f n + f n < su g n + g n
    by_cases e : x = n
    · subst e
      have := su_mono (n := x) (fun k hk => hm k (by omega))
      omega
    · have := su_strict hx (n := n) (by omega) (fun k hk => hm k (by omega))
      omega
/-- edges of those that ring -/
def er (w : wg) (v R j i : Nat) : Bool := ed w v j i && R.testBit j
section SP
variable {σ : sg} {ρ : rg} {t u : Nat} {w wi : wg} {v R : Nat}
def spP (Ks : Nat → Nat) (fl : Int32) (K : Nat → Nat) : Prop := (fl = 0 ∧ ∀ i, i < 8 → K i = Ks i) ∨ (fl = 1 ∧ ∃ i, i < 8 ∧ K i < Ks i)
theorem er_self (hw : wv w) {j : Nat} : er w v R j j = false := by unfold er; rw [ed_self hw]; rfl
theorem er_ed {j i : Nat} (h : er w v R j i = true) : ed w v j i = true ∧ R.testBit j = true := by unfold er at h; simpa using h
/-- one that rings, over all that may hear it -/
theorem M_sp1 (H : wS σ ρ w) (hv : v < nW w) {j : Nat} (hj : j < nH w) (hx : wx w j v ≠ 0) (hR : R.testBit j = true) {K Ks : Nat → Nat} (hK : ∀ i, K i ≤ 1000000) (hKs : ∀ i, K i ≤ Ks i) (h115 : ∀ i, i < 8 → σ 115 i = Int32.ofNat (K i)) {fl a2 a3 : Int32} (hfl : spP Ks fl K) : ∃ d, am_loop (f_X12_spreads_b98 (σ, ρ) 105 a2 a3 (Int32.ofNat j) (Int32.ofNat (wx w j v))) am_fuel (fl, 0, σ) = some d ∧ (∀ o, o ≠ 115 → d.2 o = σ o) ∧ (∀ i, i < 8 → d.2 115 i = Int32.ofNat (rxN (er w v R) (co w v) j K i)) ∧ spP Ks d.1 (rxN (er w v R) (co w v) j K) := by
  have hH := (wv_H H.2.2).2
  have hxl := wx_lt H.2.2 (a := j) (v := v)
  have hc := co_18 (v := v) H.2.2 (j := j)
  have hKj := hK j
  obtain ⟨a, b, hr⟩ := H.1
  have hj' : rxN (er w v R) (co w v) j K j = K j := by unfold rxN; rw [if_neg (fun z => by rw [er_self H.2.2] at z; exact absurd z.1 (by decide))]
  obtain ⟨d, h1, h2⟩ := lp_rule (body := f_X12_spreads_b98 (σ, ρ) 105 a2 a3 (Int32.ofNat j) (Int32.ofNat (wx w j v))) (nH w)
    (fun k y => y.2.1 = Int32.ofNat k ∧ (∀ o, o ≠ 115 → y.2.2 o = σ o) ∧ (∀ i, i < 8 → y.2.2 115 i = Int32.ofNat (if i < k then rxN (er w v R) (co w v) j K i else K i)) ∧ spP Ks y.1 (fun i => if i < k then rxN (er w v R) (co w v) j K i else K i))
    (fun d => (∀ o, o ≠ 115 → d.2 o = σ o) ∧ (∀ i, i < 8 → d.2 115 i = Int32.ofNat (rxN (er w v R) (co w v) j K i)) ∧ spP Ks d.1 (rxN (er w v R) (co w v) j K))
    (x := (fl, 0, σ)) ⟨rfl, fun _ _ => rfl, fun i hi => by rw [if_neg (by omega)]; exact h115 i hi, by
      have : (fun i => if i < 0 then rxN (er w v R) (co w v) j K i else K i) = K := by funext i; rw [if_neg (by omega)]
      rw [this]; exact hfl⟩ (fun k y hk hy => by
      obtain ⟨fl, i, τ⟩ := y
      obtain ⟨rfl, y1, y2, y3⟩ := hy
      simp only at y1 y2 y3
      have H' : wS τ ρ w := ⟨H.1, fun k hk => by rw [y1 106 (by decide)]; exact H.2.1 k hk, H.2.2⟩
      unfold f_X12_spreads_b98
      simp only [M_houses H', bnd, rd_knows hr, (w_len (show wx w j v < 1024 by omega)).1, (w_min (show wx w j v < 1024 by omega)).1]
      by_cases e : k < nH w
      · left
        have hcx := cx_lt H.2.2 (i := k) (j := j)
        have hl := w_log (show wx w j v < 1024 by omega)
        have hKk := hK k
        rw [if_pos (lt_y e (by omega)), M_cl H' e hj]
        simp only [bnd, on_lt (show cx w k j < 2147483648 by omega) (show (wx w j v).log2 < 2147483648 by omega), on_s]
        have hkc : (if j < k then rxN (er w v R) (co w v) j K j else K j) = K j := by split <;> simp [hj']
        by_cases q : cx w k j < (wx w j v).log2
        · rw [if_pos q]
          simp only [bnd]
          have hno : rxN (er w v R) (co w v) j K k = K k := by
            unfold rxN
            rw [if_neg]
            rintro ⟨z, -⟩
            have := (ed_lt H.2.2 (er_ed z).1).2.2.1
            omega
          have hfe : ∀ i, (if i < k + 1 then rxN (er w v R) (co w v) j K i else K i) = (if i < k then rxN (er w v R) (co w v) j K i else K i) := fun i => by
            by_cases x1 : i < k
            · rw [if_pos x1, if_pos (by omega)]
            · by_cases x2 : i = k
              · subst x2; rw [if_neg x1, if_pos (by omega), hno]
              · rw [if_neg x1, if_neg (by omega)]
          refine ⟨_, rfl, e, rfl, y1, fun i hi => ?_, ?_⟩
          · show τ 115 i = _
            rw [hfe]; exact y2 i hi
          · have : (fun i => if i < k + 1 then rxN (er w v R) (co w v) j K i else K i) = (fun i => if i < k then rxN (er w v R) (co w v) j K i else K i) := funext hfe
            rw [this]; exact y3
        · have hedge : er w v R j k = true := by
            unfold er ed
            have : (wx w j v).log2 ≤ cx w k j := by omega
            simp [hx, e, this, hR]
          rw [if_neg q, ld_on (by rw [ln_115]; omega) (by omega), y2 j (by omega), hkc, ld_on (by rw [ln_115]; omega) (by omega), y2 k (by omega), if_neg (Nat.lt_irrefl k)]
          have hco : mnN (wx w j v) = co w v j := rfl
          rw [hco]
          simp only [bnd, on_add, on_lt (show K j + co w v j < 2147483648 by omega) (show K k < 2147483648 by omega)]
          by_cases z : K j + co w v j < K k
          · rw [if_pos z, st_on (by rw [ln_115]; omega) (by omega)]
            simp only [bnd]
            have hyes : rxN (er w v R) (co w v) j K k = K j + co w v j := by unfold rxN; rw [if_pos ⟨hedge, z⟩]
            refine ⟨_, rfl, e, rfl, fun o ho => ?_, fun i hi => ?_, Or.inr ⟨rfl, k, by omega, ?_⟩⟩
            · show am_u2 τ 115 k _ o = _
              rw [u2_row ho, y1 o ho]
            · show am_u2 τ 115 k _ 115 i = _
              by_cases x2 : i = k
              · subst x2; rw [u2_eq, if_pos (by omega), hyes]
              · rw [u2_nj x2, y2 i hi]
                by_cases x1 : i < k
                · rw [if_pos x1, if_pos (by omega)]
                · rw [if_neg x1, if_neg (by omega)]
            · show (if k < k + 1 then rxN (er w v R) (co w v) j K k else K k) < Ks k
              rw [if_pos (by omega), hyes]
              have := hKs k
              omega
          · rw [if_neg z]
            simp only [bnd]
            have hno : rxN (er w v R) (co w v) j K k = K k := by unfold rxN; rw [if_neg (fun x => z x.2)]
            have hfe : ∀ i, (if i < k + 1 then rxN (er w v R) (co w v) j K i else K i) = (if i < k then rxN (er w v R) (co w v) j K i else K i) := fun i => by
              by_cases x1 : i < k
              · rw [if_pos x1, if_pos (by omega)]
              · by_cases x2 : i = k
                · subst x2; rw [if_neg x1, if_pos (by omega), hno]
                · rw [if_neg x1, if_neg (by omega)]
            refine ⟨_, rfl, e, rfl, y1, fun i hi => ?_, ?_⟩
            · show τ 115 i = _
              rw [hfe]; exact y2 i hi
            · have : (fun i => if i < k + 1 then rxN (er w v R) (co w v) j K i else K i) = (fun i => if i < k then rxN (er w v R) (co w v) j K i else K i) := funext hfe
              rw [this]; exact y3
      · right
        have : k = nH w := by omega
        subst this
        have hfe : (fun i => if i < nH w then rxN (er w v R) (co w v) j K i else K i) = rxN (er w v R) (co w v) j K := by
          funext i
          by_cases x1 : i < nH w
          · rw [if_pos x1]
          · rw [if_neg x1]
            unfold rxN
            rw [if_neg]
            rintro ⟨z, -⟩
            exact x1 (ed_lt H.2.2 (er_ed z).1).2.1
        rw [if_neg (lt_n (by omega))]
        refine ⟨_, rfl, y1, fun i hi => ?_, ?_⟩
        · rw [← hfe]; exact y2 i hi
        · rw [← hfe]; exact y3) (by omega)
  exact ⟨d, h1, h2⟩
/-- one sweep -/
theorem M_sp2 (H : wS σ ρ w) (hv : v < nW w) (hRl : R < 1024) {Ks : Nat → Nat} (hK : ∀ i, Ks i ≤ 1000000) (h115 : ∀ i, i < 8 → σ 115 i = Int32.ofNat (Ks i)) : ∃ d, am_loop (f_X12_spreads_b47 (σ, ρ) 105 (Int32.ofNat v) (Int32.ofNat R)) am_fuel (0, 0, σ) = some d ∧ (∀ o, o ≠ 115 → d.2 o = σ o) ∧ (∀ i, i < 8 → d.2 115 i = Int32.ofNat (swp (er w v R) (co w v) (nH w) Ks i)) ∧ spP Ks d.1 (swp (er w v R) (co w v) (nH w) Ks) := by
  have hH := (wv_H H.2.2).2
  have hW := (wv_W H.2.2).2
  obtain ⟨a, b, hr⟩ := H.1
  obtain ⟨d, h1, h2⟩ := lp_rule (body := f_X12_spreads_b47 (σ, ρ) 105 (Int32.ofNat v) (Int32.ofNat R)) (nH w)
    (fun k y => y.2.1 = Int32.ofNat k ∧ (∀ o, o ≠ 115 → y.2.2 o = σ o) ∧ (∀ i, i < 8 → y.2.2 115 i = Int32.ofNat (swp (er w v R) (co w v) k Ks i)) ∧ spP Ks y.1 (swp (er w v R) (co w v) k Ks))
    (fun d => (∀ o, o ≠ 115 → d.2 o = σ o) ∧ (∀ i, i < 8 → d.2 115 i = Int32.ofNat (swp (er w v R) (co w v) (nH w) Ks i)) ∧ spP Ks d.1 (swp (er w v R) (co w v) (nH w) Ks))
    (x := (0, 0, σ)) ⟨rfl, fun _ _ => rfl, h115, Or.inl ⟨rfl, fun _ _ => rfl⟩⟩ (fun k y hk hy => by
      obtain ⟨fl, i, τ⟩ := y
      obtain ⟨rfl, y1, y2, y3⟩ := hy
      simp only at y1 y2 y3
      have H' : wS τ ρ w := ⟨H.1, fun k hk => by rw [y1 106 (by decide)]; exact H.2.1 k hk, H.2.2⟩
      have hKk : ∀ i, swp (er w v R) (co w v) k Ks i ≤ 1000000 := fun i => Nat.le_trans (swp_le k i) (hK i)
      have hkk := hKk k
      unfold f_X12_spreads_b47
      simp only [M_houses H', bnd, rd_knows hr]
      by_cases e : k < nH w
      · left
        have hxl := wx_lt H.2.2 (a := k) (v := v)
        rw [if_pos (lt_y e (by omega)), M_wf H' e hv]
        simp only [bnd]
        rw [ld_on (by rw [ln_115]; omega) (by omega), y2 k (by omega)]
        simp only [bnd, show (1000000 : Int32) = Int32.ofNat 1000000 from rfl, on_inj (show swp (er w v R) (co w v) k Ks k < 2147483648 by omega) (show 1000000 < 2147483648 by decide), f_has hRl (show k < 11 by omega), bi_f, on_z (show wx w k v < 2147483648 by omega), on_s]
        have same : (∀ i, rxN (er w v R) (co w v) k (swp (er w v R) (co w v) k Ks) i = swp (er w v R) (co w v) k Ks i) → ∃ y : Int32 × Int32 × sg, ((some (fl, τ) : Option (Int32 × sg)).bind fun t18 => (some (.inl (t18.1, Int32.ofNat (k + 1), t18.2)) : Option ((Int32 × Int32 × sg) ⊕ (Int32 × sg)))) = some (.inl y) ∧ k < nH w ∧ y.2.1 = Int32.ofNat (k + 1) ∧ (∀ o, o ≠ 115 → y.2.2 o = σ o) ∧ (∀ i, i < 8 → y.2.2 115 i = Int32.ofNat (swp (er w v R) (co w v) (k + 1) Ks i)) ∧ spP Ks y.1 (swp (er w v R) (co w v) (k + 1) Ks) := fun hs => by
          have hse : swp (er w v R) (co w v) (k + 1) Ks = swp (er w v R) (co w v) k Ks := funext hs
          rw [hse]
          exact ⟨_, rfl, e, rfl, y1, y2, y3⟩
        by_cases z1 : swp (er w v R) (co w v) k Ks k = 1000000
        · rw [if_pos z1]
          refine same (fun i => ?_)
          unfold rxN
          rw [if_neg (fun z => by have := hKk i; omega)]
        · rw [if_neg z1]
          cases hRk : R.testBit k with
          | false =>
            refine same (fun i => ?_)
            unfold rxN er
            rw [if_neg (by simp [hRk])]
          | true =>
            by_cases z2 : wx w k v = 0
            · simp only [if_true, if_pos z2]
              refine same (fun i => ?_)
              unfold rxN er ed
              rw [if_neg (by simp [z2])]
            · simp only [if_true, if_neg z2]
              obtain ⟨d, g1, g2, g3, g4⟩ := M_sp1 H' hv e z2 hRk hKk (fun i => swp_le k i) y2 (a2 := Int32.ofNat v) (a3 := Int32.ofNat R) y3
              rw [g1]
              simp only [bnd]
              exact ⟨_, rfl, e, rfl, fun o ho => by show d.2 o = _; rw [g2 o ho, y1 o ho], g3, g4⟩
      · right
        have : k = nH w := by omega
        subst this
        rw [if_neg (lt_n (by omega))]
        exact ⟨_, rfl, y1, y2, y3⟩) (by omega)
  exact ⟨d, h1, h2⟩
theorem swp_tg (hw : wv w) {f : Nat} {K : Nat → Nat} (hK : ∀ i, K i ≤ 1000000) (h : tg (er w v R) (co w v) f K) : ∀ n, tg (er w v R) (co w v) f (swp (er w v R) (co w v) n K)
  | 0 => h
  | n + 1 => rx_tg (fun j => er_self hw) (swp_tg hw hK h n) (Or.inr (fun i => Nat.le_trans (swp_le n i) (hK i)))
theorem M_spreads (H : wS σ ρ w) (hv : v < nW w) (hRl : R < 1024) {f : Nat} (hf : f < nH w) : ∃ τ D, f_X12_spreads (σ, ρ) 105 (Int32.ofNat f) (Int32.ofNat v) (Int32.ofNat R) = some τ ∧ (∀ o, o ≠ 115 → τ o = σ o) ∧ (∀ i, i < 8 → τ 115 i = Int32.ofNat (D i)) ∧ fx (er w v R) (co w v) D ∧ tg (er w v R) (co w v) f D ∧ (∀ i, D i ≤ K0 f i) := by
  have hH := (wv_H H.2.2).2
  have hW := (wv_W H.2.2).2
  obtain ⟨a, b, hr⟩ := H.1
  have hK0 : ∀ i, K0 f i ≤ 1000000 := fun i => by unfold K0; split <;> omega
  obtain ⟨s1, p1, p2, p3⟩ := lp_rule (body := f_X12_spreads_b3 (σ, ρ) 105 (Int32.ofNat f) (Int32.ofNat v) (Int32.ofNat R)) 8
    (fun k y => y.1 = Int32.ofNat k ∧ (∀ o, o ≠ 115 → y.2 o = σ o) ∧ (∀ j, j < k → y.2 115 j = 1000000))
    (fun d => (∀ o, o ≠ 115 → d o = σ o) ∧ (∀ j, j < 8 → d 115 j = 1000000))
    (x := (0, σ)) ⟨rfl, fun _ _ => rfl, fun j hj => absurd hj (by omega)⟩ (fun k y hk hy => by
      obtain ⟨i, τ⟩ := y
      obtain ⟨rfl, y1, y2⟩ := hy
      simp only at y1 y2
      unfold f_X12_spreads_b3
      simp only [rd_knows hr, bnd]
      by_cases e : k < 8
      · left
        rw [if_pos (show Int32.ofNat k < 8 from (on_lt (b := 8) (by omega) (by decide)).mpr e), st_on (by rw [ln_115]; omega) (by omega)]
        simp only [bnd, on_s]
        refine ⟨_, rfl, e, rfl, fun o ho => ?_, fun j hj => ?_⟩
        · show am_u2 τ 115 k _ o = _
          rw [u2_row ho, y1 o ho]
        · show am_u2 τ 115 k _ 115 j = _
          by_cases q : j = k
          · subst q; rw [u2_eq]
          · rw [u2_nj q, y2 j (by omega)]
      · right
        have : k = 8 := by omega
        subst this
        rw [if_neg (by decide)]
        exact ⟨_, rfl, y1, y2⟩) (by decide)
  obtain ⟨s2, hs2⟩ : ∃ s2, s2 = am_u2 s1 115 f 0 := ⟨_, rfl⟩
  have r2 : ∀ i, i < 8 → s2 115 i = Int32.ofNat (K0 f i) := fun i hi => by
    rw [hs2]
    unfold K0
    by_cases z : i = f
    · subst z; rw [u2_eq, if_pos rfl]; rfl
    · rw [u2_nj z, if_neg z, p3 i hi]; rfl
  have o2 : ∀ o, o ≠ 115 → s2 o = σ o := fun o ho => by rw [hs2, u2_row ho, p2 o ho]
  obtain ⟨s3, h1, h2⟩ := lp_mu (body := f_X12_spreads_b36 (s2, ρ) 105 (Int32.ofNat v) (Int32.ofNat R)) (fun y => if y.1 = 0 then 0 else su (fun i => (y.2 115 i).toNatClampNeg) 8 + 1)
    (fun y => (∀ o, o ≠ 115 → y.2 o = σ o) ∧ ∃ K : Nat → Nat, (∀ i, i < 8 → y.2 115 i = Int32.ofNat (K i)) ∧ (∀ i, K i ≤ K0 f i) ∧ tg (er w v R) (co w v) f K ∧ (y.1 = 1 ∨ (y.1 = 0 ∧ fx (er w v R) (co w v) K)))
    (fun d => (∀ o, o ≠ 115 → d o = σ o) ∧ ∃ K : Nat → Nat, (∀ i, i < 8 → d 115 i = Int32.ofNat (K i)) ∧ (∀ i, K i ≤ K0 f i) ∧ tg (er w v R) (co w v) f K ∧ fx (er w v R) (co w v) K)
    (fun y hy => by
      obtain ⟨fl, τ⟩ := y
      obtain ⟨y1, K, y2, y3, y4, y5⟩ := hy
      simp only at y1 y2 y5
      unfold f_X12_spreads_b36
      simp only
      rcases y5 with rfl | ⟨rfl, y5⟩
      · left
        rw [if_neg (by decide)]
        have H' : wS τ ρ w := ⟨H.1, fun k hk => by rw [y1 106 (by decide)]; exact H.2.1 k hk, H.2.2⟩
        have hKk : ∀ i, K i ≤ 1000000 := fun i => Nat.le_trans (y3 i) (hK0 i)
        obtain ⟨d, g1, g2, g3, g4⟩ := M_sp2 H' hv hRl hKk y2
        rw [g1]
        simp only [bnd]
        have hsum : ∀ (y : Nat → Nat → Int32) (L : Nat → Nat), (∀ i, i < 8 → y 115 i = Int32.ofNat (L i)) → (∀ i, L i ≤ 1000000) → su (fun i => (y 115 i).toNatClampNeg) 8 = su L 8 := fun y L a1 a2 => su_cg (fun k hk => by have := a2 k; rw [a1 k hk, on_cl (by omega)])
        refine ⟨_, rfl, ⟨fun o ho => by show d.2 o = _; rw [g2 o ho, y1 o ho], swp (er w v R) (co w v) (nH w) K, g3, fun i => Nat.le_trans (swp_le _ i) (y3 i), swp_tg H.2.2 hKk y4 _, ?_⟩, ?_⟩
        · rcases g4 with ⟨z1, z2⟩ | ⟨z1, -⟩
          · right
            refine ⟨z1, fun j i hji => ?_⟩
            obtain ⟨b1, b2, b3, b4, b5, b6⟩ := ed_lt H.2.2 (er_ed hji).1
            have b7 := (wx_ne b1).1
            have := swp_hit (c := co w v) (K := K) (D := K) hji (Nat.le_refl _) (nH w) b7
            rw [z2 j b5]
            exact this
          · exact Or.inl z1
        · rw [if_neg (show ¬ (1 : Int32) = 0 by decide)]
          rcases g4 with ⟨z1, -⟩ | ⟨z1, x, z2, z3⟩
          · rw [z1, if_pos rfl]; omega
          · rw [z1, if_neg (by decide), hsum d.2 _ g3 (fun i => Nat.le_trans (swp_le _ i) (hKk i)), hsum τ K y2 hKk]
            have := su_strict (f := swp (er w v R) (co w v) (nH w) K) (g := K) z3 z2 (fun k _ => swp_le _ k)
            omega
      · right
        rw [if_pos rfl]
        exact ⟨_, rfl, y1, K, y2, y3, y4, y5⟩) am_fuel (1, s2) ⟨o2, K0 f, r2, fun _ => Nat.le_refl _, fun i hi => by
          left
          unfold K0 at hi
          by_cases z : i = f
          · exact z
          · rw [if_neg z] at hi; omega, Or.inl rfl⟩ (by
        show (if (1 : Int32) = 0 then 0 else su (fun i => (s2 115 i).toNatClampNeg) 8 + 1) < 1000000000000
        rw [if_neg (by decide)]
        have : su (fun i => (s2 115 i).toNatClampNeg) 8 ≤ su (fun _ => 1000000) 8 := su_mono (fun k hk => by have := hK0 k; rw [r2 k hk, on_cl (by omega)]; exact hK0 k)
        rw [su_const] at this
        omega)
  obtain ⟨g1, D, g2, g3, g4, g5⟩ := h2
  refine ⟨s3, D, ?_, g1, g2, g5, g4, g3⟩
  unfold f_X12_spreads
  rw [p1]
  simp only [bnd, rd_knows hr]
  rw [st_on (by rw [ln_115]; omega) (by omega)]
  simp only [bnd]
  rw [← hs2, h1, bnd]
end SP
