section VD
variable {σ μ σ0 μ0 τ ν : sg} {ρ ρm : rg} {u d n b q t0 u0 a0 c0 : Nat} {T : Nat → Int32} {l : List (Nat × Nat)}
theorem mw_eq {X : Option (Int32 × sg)} {mb : sg → sg → Option (sg ⊕ (sg ⊕ (Int32 × sg)))} {mbody : sg → Option (sg ⊕ (sg ⊕ (Int32 × sg)))} (hmb : ∀ x, mb x = mbody) {G : sg ⊕ (Int32 × sg) → Option (Int32 × sg)} (hG : ∀ r, G r = gmF r) : X.bind (fun y1 => if y1.1 = 0 then some (0, y1.2) else (am_loop (mb y1.2) am_fuel y1.2).bind G) = X.bind (fun y1 => if y1.1 = 0 then some (0, y1.2) else (am_loop mbody am_fuel y1.2).bind gmF) := by
  have e : G = gmF := funext hG
  subst e
  cases X with
  | none => simp only [bnn]
  | some y => simp only [bnd, hmb]
theorem sum_b1 (hr : rh ρ a0 c0) {s : sg} (k : Nat) (σ : sg) (hk : k < 400) : f_X2_readSum_b4 (s, ρ) 79 (u + 9) (1, Int32.ofNat k, σ) = (cPart ρ u σ).bind (fun σ7 => (if 0 < Int32.ofNat k then f_X1_addStep (σ7, ρ) (u + 9) (-6) else some σ7).bind (fun t8 => (f_X4_took (t8, ρ) 80 (1000 + 17)).bind (fun y => some (.inl (y.1, Int32.ofNat (k + 1), y.2))))) := by
  unfold f_X2_readSum_b4 cPart
  simp only [rd_in2 hr, bnd, bid, Option.bind_assoc, if_pos (show Int32.ofNat k < 400 from (on_lt (b := 400) (by omega) (by decide)).mpr hk), i10, if_false, on_s]
theorem sum_b0 {s : sg} (k : Int32) (σ : sg) : f_X2_readSum_b4 (s, ρ) 79 (u + 9) (0, k, σ) = some (.inr σ) := by
  unfold f_X2_readSum_b4
  simp only [if_true]
  split <;> rfl
theorem sum_j (hr : rh ρ a0 c0) (hrm : rh ρm t0 u0) (hu : tu2 u) (hB : tB T n) (hg : GD σ0 μ0 u d ρ T n l b q σ μ) (hl : l.length < b) : gO σ0 μ0 u d ρ T n l b (PN 2 true) (f_X2_readSum (σ, ρ) 79 (u + 9)) (f_X12_readSum (μ, ρm) 105) := by
  have hM : f_X12_readSum (μ, ρm) 105 = (f_X12_readPart (μ, ρm) 105).bind (fun y1 => if y1.1 = 0 then some (0, y1.2) else (am_loop (f_X12_readSum_b9 (μ, ρm) 105) am_fuel y1.2).bind gmF) := by
    unfold f_X12_readSum
    exact mw_eq (mb := fun x => f_X12_readSum_b9 (x, ρm) 105) (fun _ => rfl) (fun r => by cases r <;> rfl)
  have hC : f_X2_readSum (σ, ρ) 79 (u + 9) = am_loop (f_X2_readSum_b4 (σ, ρ) 79 (u + 9)) am_fuel (1, 0, σ) := by
    unfold f_X2_readSum
    rw [bid]
  rw [hM, hC]
  refine gl_all (IC := cPart ρ u) (IM := fun m => f_X12_readPart (m, ρm) 105) (SM := fun m => f_X12_sign (m, ρm) 105 43) (s := 17) (o := 6) (N := 1) (kb := true) (eo := -6) hr hrm hu (by decide) (by decide) (by decide) (fun st => rfl) (fun k s hk => sum_b1 hr k s hk) (fun k s => sum_b0 k s) (fun m => rfl) (fun m q b h1 h2 h3 => ?_) (fun m q b h1 h2 h3 => ?_) (fun s m l b q h1 h2 => part_j hr hrm hu hB h1 h2) hg hl
  · exact rm_sg1 (s := 17) hrm h1 h2 (by decide) h3
  · exact rm_sg0 (s := 17) hrm h1 h2 (by decide) h3
theorem sum_bad (hr : rh ρ a0 c0) (hu : tu2 u) {bb : Nat} (h : BD σ0 u ρ T n bb σ) : ∃ τ, f_X2_readSum (σ, ρ) 79 (u + 9) = some τ ∧ BD σ0 u ρ T n bb τ := by
  have hC : f_X2_readSum (σ, ρ) 79 (u + 9) = am_loop (f_X2_readSum_b4 (σ, ρ) 79 (u + 9)) am_fuel (1, 0, σ) := by
    unfold f_X2_readSum
    rw [bid]
  rw [hC]
  exact gl_bad (IC := cPart ρ u) (s := 17) (eo := -6) hr hu (by decide) (fun k s hk => sum_b1 hr k s hk) (fun k s => sum_b0 k s) (fun s hs => part_bad hr hu hs) h
/-! an atom -/
abbrev rcT : Type := am_S → Nat → Nat → Int32 → Option sg
abbrev rmT : Type := am_S → Nat → Option (Int32 × sg)
def RJ (σ0 μ0 : sg) (u : Nat) (ρ ρm : rg) (T : Nat → Int32) (n N d : Nat) (C : rcT) (M : rmT) : Prop := ∀ σ μ l b q, GD σ0 μ0 u d ρ T n l b q σ μ → l.length < b → gO σ0 μ0 u d ρ T n l b (PN N false) (C (σ, ρ) 79 (u + 9) (Int32.ofNat d)) (M (μ, ρm) 105)
theorem GD_deep {d' : Nat} {v : Int32} (h : GD σ0 μ0 u d ρ T n l b q σ μ) (hv : v = Int32.ofNat d') : GD σ0 μ0 u d' ρ T n l b q σ (am_u2 μ 105 10 v) := by
  obtain ⟨⟨h1, h2, ⟨s1, s2, s3, s4⟩, h4, h5⟩, g1, g2, g3, g4⟩ := h
  subst hv
  refine ⟨⟨h1, ⟨fun o e1 e2 => (u2_row e1).trans (h2.1 o e1 e2), fun j e1 e2 e3 e4 => (u2_nj e3).trans (h2.2.1 j e1 e2 e3 e4), fun i hi => (u2_ne (by decide)).trans (h2.2.2 i hi)⟩, ⟨s1, s2, (u2_nj (by decide)).trans s3, fun i z hz => ?_⟩, h4, u2_eq⟩, g1, g2, ⟨(u2_nj (by decide)).trans g3.1, (u2_nj (by decide)).trans g3.2.1, g3.2.2.1, g3.2.2.2.1, fun k hk => (u2_ne (by decide)).trans (g3.2.2.2.2 k hk)⟩, g4⟩
  rw [u2_ne (by decide), u2_ne (by decide)]
  exact s4 i z hz
theorem BD_took {bb s : Nat} (h : BD σ0 u ρ T n bb σ) (hs : s < 22) : f_X4_took (σ, ρ) 80 (1000 + s) = some (0, σ) := c_took0 h.2.2.2.1 hs (fun z => BD_m h z.1)
theorem BD_isAt {bb s : Nat} (h : BD σ0 u ρ T n bb σ) (hs : s < 22) : f_X4_isAt (σ, ρ) 80 (1000 + s) = some 0 := by rw [c_isAt h.2.2.2.1 hs, if_neg (BD_m h)]
/-- the comparison of the class, behind its first sum -/
def cCmp (ρ : rg) (u : Nat) (σ46 : sg) : Option sg := (f_X4_isAt (σ46, ρ) 80 (1000 + 18)).bind (fun v49 => ((if v49 = 0 then some ((-8) : Int32) else some ((-7) : Int32)).bind (fun t50 => ((f_X4_took (σ46, ρ) 80 (1000 + 18)).bind (fun y53 => ((if y53.1 = 0 then ((f_X4_took (y53.2, ρ) 80 (1000 + 19)).bind (fun y57 => (if y57.1 = 0 then f_X4_refuse (y57.2, ρ) 80 else some y57.2))) else some y53.2).bind (fun t54 => ((f_X2_readSum (t54, ρ) 79 (u + 9)).bind (fun σ61 => f_X1_addStep (σ61, ρ) (u + 9) t50)))))))))
theorem cmp_bad (hr : rh ρ a0 c0) (hu : tu2 u) {bb : Nat} (h : BD σ0 u ρ T n bb σ) : ∃ τ, cCmp ρ u σ = some τ ∧ BD σ0 u ρ T n bb τ := by
  obtain ⟨τ, a1, a2⟩ := sum_bad hr hu h
  obtain ⟨τ', b1, b2⟩ := add_B hr hu a2 (-8)
  refine ⟨τ', ?_, b2⟩
  unfold cCmp
  rw [BD_isAt h (by decide), bnd, if_pos rfl, bnd, BD_took h (by decide), bnd]
  simp only
  rw [if_pos trivial, BD_took h (by decide), bnd]
  simp only
  rw [if_pos trivial, c_ref0 (BD_m h), bnd, a1, bnd, b1]
theorem atom_N (hr : rh ρ a0 c0) (hc : cR σ ρ 80 T n b) (hok : σ 80 5 = -1) (h10 : isT T n b 10 = true) {A C : rcT} (hd : d ≤ 6) : f_X2_readAtom_o A C (σ, ρ) 79 (u + 9) (Int32.ofNat d) = if d < 6 then (f_X4_step (σ, ρ) 80).bind (fun σ73 => (A (σ73, ρ) 79 (u + 9) (Int32.ofNat (d + 1))).bind (fun σ74 => f_X1_addStep (σ74, ρ) (u + 9) (-9))) else f_X4_refuse (σ, ρ) 80 := by
  have W : ∀ s, s < 22 → f_X4_isAt (σ, ρ) 80 (1000 + s) = some (bi (isT T n b s)) := fun s hs => by rw [c_isAt hc hs, if_pos hok]
  unfold f_X2_readAtom_o
  simp only [rd_in2 hr, bnd]
  rw [W 10 (by decide), bnd, W 11 (by decide), bnd, h10]
  simp only [bt0, if_false, bid, on_s]
  by_cases c : d < 6
  · rw [if_pos c, if_pos (show Int32.ofNat d < 6 from (on_lt (b := 6) (by omega) (by decide)).mpr c)]
  · rw [if_neg c, if_neg (show ¬ Int32.ofNat d < 6 from fun z => c ((on_lt (b := 6) (by omega) (by decide)).mp z))]
theorem atom_B (hr : rh ρ a0 c0) (hc : cR σ ρ 80 T n b) (hok : σ 80 5 = -1) (h10 : isT T n b 10 = false) (h11 : isT T n b 11 = true) {A C : rcT} (hd : d ≤ 6) : f_X2_readAtom_o A C (σ, ρ) 79 (u + 9) (Int32.ofNat d) = if d < 6 then (f_X4_step (σ, ρ) 80).bind (fun σ64 => (C (σ64, ρ) 79 (u + 9) (Int32.ofNat (d + 1))).bind (fun σ65 => (f_X4_took (σ65, ρ) 80 (1000 + 12)).bind (fun y68 => (if y68.1 = 0 then f_X4_refuse (y68.2, ρ) 80 else some y68.2)))) else f_X4_refuse (σ, ρ) 80 := by
  have W : ∀ s, s < 22 → f_X4_isAt (σ, ρ) 80 (1000 + s) = some (bi (isT T n b s)) := fun s hs => by rw [c_isAt hc hs, if_pos hok]
  unfold f_X2_readAtom_o
  simp only [rd_in2 hr, bnd]
  rw [W 10 (by decide), bnd, W 11 (by decide), bnd, h10, h11]
  simp only [bt0, bf0, if_true, if_false, bid, on_s]
  by_cases c : d < 6
  · rw [if_pos c, if_pos (show Int32.ofNat d < 6 from (on_lt (b := 6) (by omega) (by decide)).mpr c)]
  · rw [if_neg c, if_neg (show ¬ Int32.ofNat d < 6 from fun z => c ((on_lt (b := 6) (by omega) (by decide)).mp z))]
theorem atom_S (hr : rh ρ a0 c0) (h10 : f_X4_isAt (σ, ρ) 80 (1000 + 10) = some 0) (h11 : f_X4_isAt (σ, ρ) 80 (1000 + 11) = some 0) {A C : rcT} {x : Int32} : f_X2_readAtom_o A C (σ, ρ) 79 (u + 9) x = (f_X2_readSum (σ, ρ) 79 (u + 9)).bind (fun σ46 => cCmp ρ u σ46) := by
  unfold f_X2_readAtom_o cCmp
  simp only [rd_in2 hr, bnd]
  rw [h10, bnd, h11, bnd]
  simp only [if_true, bid]
theorem atom_bad (hr : rh ρ a0 c0) (hu : tu2 u) {bb : Nat} (h : BD σ0 u ρ T n bb σ) {A C : rcT} {x : Int32} : ∃ τ, f_X2_readAtom_o A C (σ, ρ) 79 (u + 9) x = some τ ∧ BD σ0 u ρ T n bb τ := by
  obtain ⟨τ, a1, a2⟩ := sum_bad hr hu h
  rw [atom_S hr (BD_isAt h (by decide)) (BD_isAt h (by decide)), a1, bnd]
  exact cmp_bad hr hu a2
end VD
