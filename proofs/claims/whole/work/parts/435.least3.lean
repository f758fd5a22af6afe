section LU
variable {σ : sg} {ρ : rg} {t u : Nat} {w wi : wg}
theorem wsm_0 {c : Nat → Nat} {n : Nat} : wsm c n 0 = 0 := by
  unfold wsm
  exact (su_cg (g := fun _ => 0) (fun k _ => by rw [Nat.zero_testBit]; rfl)).trans (su_zero n)
theorem no_prp {m : Nat} (h : (m - 1) &&& m = 0) : ∀ s, ¬ prp m s := fun s hs => by
  have := sm_next m m s sbs_rf hs.2.2 (prp_lt hs).2.1
  have := (prp_lt hs).1
  omega
theorem up1_at {f : Nat → Nat} {k v : Nat} : up1 f k v k = v := up1_eq
theorem M_least (H : wS σ ρ w) {U : Nat} (hU : U < 2 ^ nW w) (h6 : ct U.testBit (nW w) ≤ 6) : ∃ d, am_loop (f_X12_least_b30 (σ, ρ) 105 (Int32.ofNat U)) am_fuel (0, σ) = some d ∧ (∀ o, o ≠ 112 → o ≠ 113 → d o = σ o) ∧ ∃ B : Nat → Nat, ∀ m, m < U + 1 → sbs m U → d 113 m = Int32.ofNat (wsm (ux w) (nW w) m) ∧ d 112 m = Int32.ofNat (B m) ∧ spc (wsm (ux w) (nW w)) B m := by
  have hW := (wv_W H.2.2).2
  obtain ⟨a, b, hr⟩ := H.1
  have hp10 : 2 ^ nW w ≤ 2 ^ 10 := Nat.pow_le_pow_right (by decide) hW
  have hA : ∀ s m, sbs s m → wsm (ux w) (nW w) m = wsm (ux w) (nW w) s + wsm (ux w) (nW w) (m ^^^ s) := fun s m h => wsm_split h
  have hp : ∀ s, s ≠ 0 → sbs s U → 1 ≤ wsm (ux w) (nW w) s := fun s h0 hs => wsm_pos (fun i hi => (ux_w H.2.2 hi).2.1) (by have := sbs_le hs; omega) h0
  have hAU : ∀ m, sbs m U → wsm (ux w) (nW w) m ≤ 594 := fun m hm => by
    have h1 := wsm_le (c := ux w) (n := nW w) (m := U) (fun i hi => by have := (ux_w H.2.2 hi).2.2; omega)
    have h2 := hA m U hm
    omega
  refine lp_rule (U + 1) (fun k y => y.1 = Int32.ofNat k ∧ (∀ o, o ≠ 112 → o ≠ 113 → y.2 o = σ o) ∧ ∃ B : Nat → Nat, ∀ m, m < k → sbs m U → y.2 113 m = Int32.ofNat (wsm (ux w) (nW w) m) ∧ y.2 112 m = Int32.ofNat (B m) ∧ spc (wsm (ux w) (nW w)) B m) (fun (d : sg) => (∀ o, o ≠ 112 → o ≠ 113 → d o = σ o) ∧ ∃ B : Nat → Nat, ∀ m, m < U + 1 → sbs m U → d 113 m = Int32.ofNat (wsm (ux w) (nW w) m) ∧ d 112 m = Int32.ofNat (B m) ∧ spc (wsm (ux w) (nW w)) B m) (x := (0, σ)) ⟨rfl, fun _ _ _ => rfl, fun _ => 0, fun m hm => by omega⟩ (fun k y hk hy => ?_) (by omega)
  obtain ⟨i, τ⟩ := y
  obtain ⟨rfl, y1, B, y2⟩ := hy
  simp only at y1 y2
  unfold f_X12_least_b30
  simp only
  by_cases e : U < k
  · right
    have : k = U + 1 := by omega
    subst this
    rw [if_pos ((on_lt (by omega) (by omega)).mpr e)]
    exact ⟨_, rfl, y1, B, y2⟩
  · left
    rw [if_neg (fun z => e ((on_lt (by omega) (by omega)).mp z))]
    by_cases z : sbs k U
    · rw [if_pos (andn.mpr (fun i _ => z i))]
      simp only [rd_below hr, rd_all hr, bnd]
      rw [st_on (by rw [ln_113]; omega) (by omega), bnd]
      have H1 : wS (am_u2 τ 113 k 0) ρ w := ⟨H.1, fun j hj => by rw [u2_ne (by decide), y1 106 (by decide) (by decide)]; exact H.2.1 j hj, H.2.2⟩
      obtain ⟨s1, g1, g2, g3⟩ := M_sumW H1 (m := k) (by omega) u2_eq (a2 := Int32.ofNat U)
      have hbc := bc_n (m := k) (by omega)
      rw [g1, bnd, hbc.1]
      simp only [bnd]
      have k1 : ∀ a b, ¬ (a = 113 ∧ b = k) → s1 a b = τ a b := fun a b q => by
        rw [g2 a b q]; unfold am_u2; rw [if_neg q]
      have hsq := spc_sq (A := wsm (ux w) (nW w)) (B := B) (K := k) hA hp (fun x _ hx hs => (y2 x hx hs).2.2)
      have hcn : ∀ s, prp k s → cnd (wsm (ux w) (nW w)) B k s < 1000000 := fun s hs => by
        have h1 := cnd_le (B := B) hA hp z (fun x a b c => hsq x a b c) hs
        have h2 := hAU k z
        have h3 : wsm (ux w) (nW w) k * wsm (ux w) (nW w) k ≤ 594 * 594 := Nat.mul_le_mul h2 h2
        omega
      have fin : ∀ (d : sg) (v : Nat), (∀ a b, ¬ (a = 112 ∧ b = k) → d a b = s1 a b) → d 112 k = Int32.ofNat v → (((∀ s, ¬ prp k s) ∧ v = 0) ∨ mnQ (prp k) (cnd (wsm (ux w) (nW w)) B k) v) → (∀ o, o ≠ 112 → o ≠ 113 → d o = σ o) ∧ ∃ B : Nat → Nat, ∀ m, m < k + 1 → sbs m U → d 113 m = Int32.ofNat (wsm (ux w) (nW w) m) ∧ d 112 m = Int32.ofNat (B m) ∧ spc (wsm (ux w) (nW w)) B m := fun d v d1 d2 d3 => by
        refine ⟨fun o h1 h2 => ?_, up1 B k v, fun m hm hs => ?_⟩
        · rw [← y1 o h1 h2]
          funext j
          rw [d1 o j (fun q => h1 q.1), k1 o j (fun q => h2 q.1)]
        · by_cases mk : m = k
          · subst mk
            rw [d1 113 m (fun q => by cases q.1), g3, d2, up1_eq]
            refine ⟨rfl, rfl, ?_⟩
            rcases d3 with ⟨c1, c2⟩ | ⟨⟨s, c1, c2⟩, c3⟩
            · exact Or.inl ⟨c1, by rw [up1_eq]; exact c2⟩
            · have hc : ∀ s, prp m s → cnd (wsm (ux w) (nW w)) B m s = cnd (wsm (ux w) (nW w)) (up1 B m v) m s := fun s hs => cnd_cg hs (fun x _ hx => by rw [up1_ne (by omega)]) (fun _ _ _ => rfl)
              exact Or.inr ⟨⟨s, c1, by rw [up1_eq, ← hc s c1]; exact c2⟩, fun s' h' => by rw [up1_eq, ← hc s' h']; exact c3 s' h'⟩
          · obtain ⟨r1, r2, r3⟩ := y2 m (by omega) hs
            rw [d1 113 m (fun q => by cases q.1), k1 113 m (fun q => mk q.2), r1, d1 112 m (fun q => mk q.2), k1 112 m (fun q => by cases q.1), r2, up1_ne mk]
            exact ⟨rfl, rfl, spc_cg (fun x hx => by rw [up1_ne (by omega)]) r3⟩
      by_cases q : ct k.testBit 10 < 2
      · rw [if_pos (show Int32.ofNat _ < 2 from (on_lt (b := 2) (by omega) (by decide)).mpr q)]
        simp only [bnd]
        rw [st_on (by rw [ln_112]; omega) (by omega), bnd]
        have hz := hbc.2.2.mp q
        have hx0 : (Int32.ofNat k - 1) &&& Int32.ofNat k = 0 := by
          rcases Nat.eq_zero_or_pos k with k0 | k0
          · subst k0; decide
          · rw [on_p k0, on_and, hz]; rfl
        have hl : am_loop (f_X12_least_b127 (am_u2 s1 112 k 0, ρ) 105 (Int32.ofNat U) (Int32.ofNat k)) am_fuel ((Int32.ofNat k - 1) &&& Int32.ofNat k, am_u2 s1 112 k 0) = some (am_u2 s1 112 k 0) := by
          rw [hx0]
          refine lp_for 0 (fun _ => (0, am_u2 s1 112 k 0)) rfl (fun j hj => by omega) ?_ (by decide)
          unfold f_X12_least_b127
          simp only
          rw [if_neg (by decide)]
        rw [hl]
        simp only [bnd, on_s]
        have := fin (am_u2 s1 112 k 0) 0 (fun a b q => by unfold am_u2; rw [if_neg q]) u2_eq (Or.inl ⟨no_prp hz, rfl⟩)
        exact ⟨_, rfl, by omega, rfl, this.1, this.2⟩
      · rw [if_neg (show ¬ Int32.ofNat _ < 2 from fun x => q ((on_lt (b := 2) (by omega) (by decide)).mp x))]
        simp only [bnd]
        rw [st_on (by rw [ln_112]; omega) (by omega), bnd]
        have H2 : wS (am_u2 s1 112 k 1000000) ρ w := ⟨H.1, fun j hj => by rw [u2_ne (by decide), k1 106 j (fun q => by cases q.1), y1 106 (by decide) (by decide)]; exact H.2.1 j hj, H.2.2⟩
        obtain ⟨d, d1, d2, v, d3, d4⟩ := M_sub H2 (m := k) (A := wsm (ux w) (nW w)) (B := B) (by omega) (fun x => q (hbc.2.2.mpr x)) (fun x x0 xk xs => by
          obtain ⟨r1, r2, _⟩ := y2 x xk (sbs_tr xs z)
          rw [u2_nj (by omega), u2_ne (by decide), k1 112 x (fun q => by cases q.1), k1 113 x (by omega)]
          exact ⟨r2, r1⟩) hcn u2_eq (a2 := Int32.ofNat U)
        rw [d1]
        simp only [bnd, on_s]
        have := fin d v (fun a b q => by rw [d2 a b q]; unfold am_u2; rw [if_neg q]) d3 (Or.inr d4)
        exact ⟨_, rfl, by omega, rfl, this.1, this.2⟩
    · rw [if_neg (fun q => z (fun i hi => andn.mp q i (by have := tb_lt (show k < 2 ^ 10 by omega) hi; omega) hi))]
      simp only [bnd, on_s]
      exact ⟨_, rfl, by omega, rfl, y1, B, fun m hm hs => y2 m (by
        have : m ≠ k := fun q => z (q ▸ hs)
        omega) hs⟩
end LU
