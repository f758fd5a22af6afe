/-! colours: the first way of painting -/
def up1 (f : Nat → Nat) (h c : Nat) : Nat → Nat := fun i => if i = h then c else f i
theorem up1_eq {f : Nat → Nat} {h c : Nat} : up1 f h c h = c := if_pos rfl
theorem up1_ne {f : Nat → Nat} {h c i : Nat} (e : i ≠ h) : up1 f h c i = f i := if_neg e
/-- free: none ahead that harms has it -/
def fr (m : Nat → Nat → Bool) (f : Nat → Nat) (h c : Nat) : Bool := allN (fun o => !(decide (f o = c) && m o h)) h
theorem fr_iff {m : Nat → Nat → Bool} {f : Nat → Nat} {h c : Nat} : fr m f h c = true ↔ ∀ o, o < h → f o = c → m o h = false := by
  unfold fr
  rw [allN_iff]
  constructor
  · intro H o ho e
    have := H o ho
    simp only [e, decide_true, Bool.true_and, Bool.not_eq_true'] at this
    exact this
  · intro H o ho
    by_cases e : f o = c
    · simp [e, H o ho e]
    · simp [e]
theorem fr_cg {m : Nat → Nat → Bool} {f g : Nat → Nat} {h c : Nat} (e : ∀ o, o < h → f o = g o) : fr m f h c = fr m g h c := by
  rw [Bool.eq_iff_iff, fr_iff, fr_iff]
  constructor
  · intro H o ho z; exact H o ho (by rw [e o ho]; exact z)
  · intro H o ho z; exact H o ho (by rw [← e o ho]; exact z)
def ls (m : Nat → Nat → Bool) (k : Nat) : Nat → Nat → (Nat → Nat) → Option (Nat → Nat)
  | 0, _, f => some f
  | n + 1, h, f => (ff (fun c => fr m f h c && (ls m k n (h + 1) (up1 f h c)).isSome) 0 k).bind (fun c => ls m k n (h + 1) (up1 f h c))
def cs (m : Nat → Nat → Bool) (k : Nat) : Nat → Nat → Nat → (Nat → Nat) → Option (Nat → Nat)
  | 0, _, _, f => some f
  | n + 1, h, u, f => (ff (fun c => fr m f h c && (cs m k n (h + 1) (max u (c + 1)) (up1 f h c)).isSome) 0 (min k (u + 1))).bind (fun c => cs m k n (h + 1) (max u (c + 1)) (up1 f h c))
def cmp (m : Nat → Nat → Bool) (k n h : Nat) (f g : Nat → Nat) : Prop := (∀ i, i < h → g i = f i) ∧ ∀ i, h ≤ i → i < h + n → g i < k ∧ fr m g i (g i) = true
section CO
variable {m : Nat → Nat → Bool} {k : Nat}
theorem ls_sound : ∀ n h f g, ls m k n h f = some g → cmp m k n h f g
  | 0, h, f, g, e => by
    cases e
    exact ⟨fun _ _ => rfl, fun i h1 h2 => by omega⟩
  | n + 1, h, f, g, e => by
    unfold ls at e
    obtain ⟨c, h1, h2⟩ := Option.bind_eq_some_iff.mp e
    obtain ⟨-, hc, hq, -⟩ := ff_some.mp h1
    simp only [Bool.and_eq_true] at hq
    obtain ⟨g1, g2⟩ := ls_sound n (h + 1) _ g h2
    have gh : g h = c := by rw [g1 h (by omega), up1_eq]
    have gf : ∀ i, i < h → g i = f i := fun i hi => by rw [g1 i (by omega), up1_ne (by omega)]
    refine ⟨gf, fun i h3 h4 => ?_⟩
    by_cases q : i = h
    · subst q
      rw [gh]
      exact ⟨by omega, by rw [fr_cg gf]; exact hq.1⟩
    · exact g2 i (by omega) (by omega)
theorem ls_some : ∀ n h f g, cmp m k n h f g → (ls m k n h f).isSome = true
  | 0, h, f, g, _ => rfl
  | n + 1, h, f, g, hg => by
    have hP : (fr m f h (g h) && (ls m k n (h + 1) (up1 f h (g h))).isSome) = true := by
      rw [Bool.and_eq_true]
      obtain ⟨a1, a2⟩ := hg.2 h (by omega) (by omega)
      refine ⟨by rw [← fr_cg hg.1]; exact a2, ls_some n (h + 1) _ g ⟨fun i hi => ?_, fun i h1 h2 => hg.2 i (by omega) (by omega)⟩⟩
      by_cases q : i = h
      · subst q; rw [up1_eq]
      · rw [up1_ne q]; exact hg.1 i (by omega)
    have hk := (hg.2 h (by omega) (by omega)).1
    have : (ff (fun c => fr m f h c && (ls m k n (h + 1) (up1 f h c)).isSome) 0 k).isSome = true := by
      rw [ff_any]; exact anyN_iff.mpr ⟨g h, hk, hP⟩
    obtain ⟨c, hc⟩ := Option.isSome_iff_exists.mp this
    unfold ls
    rw [hc]
    have := (ff_some.mp hc).2.2.1
    simp only [Bool.and_eq_true] at this
    exact this.2
def sw (u c x : Nat) : Nat := if x = u then c else if x = c then u else x
theorem sw_inj {u c x y : Nat} : sw u c x = sw u c y ↔ x = y := by
  unfold sw
  constructor
  · intro h
    split at h <;> split at h <;> (try split at h) <;> (try split at h) <;> omega
  · intro h; rw [h]
/-- another colour that nobody has would do as well -/
theorem swap_ok {n h u c : Nat} {f g : Nat → Nat} (hf : ∀ i, i < h → f i < u) (huc : u < c) (hck : c < k) (hg : cmp m k (n + 1) h f g) (hgh : g h = c) : cmp m k (n + 1) h f (fun i => sw u c (g i)) ∧ sw u c (g h) = u := by
  refine ⟨⟨fun i hi => ?_, fun i h1 h2 => ?_⟩, ?_⟩
  · show sw u c (g i) = f i
    rw [hg.1 i hi]
    have := hf i hi
    unfold sw
    rw [if_neg (by omega), if_neg (by omega)]
  · obtain ⟨a1, a2⟩ := hg.2 i h1 h2
    refine ⟨?_, ?_⟩
    · show sw u c (g i) < k
      unfold sw
      split
      · exact hck
      · split <;> omega
    · rw [fr_iff] at a2 ⊢
      intro o ho e
      exact a2 o ho (sw_inj.mp e)
  · rw [hgh]; unfold sw; rw [if_neg (by omega), if_pos rfl]
theorem ff_cut {q : Nat → Bool} {a b : Nat} (hab : a ≤ b) (h : ∀ c, a ≤ c → c < b → q c = true → ∃ d, d < a ∧ q d = true) : ff q 0 a = ff q 0 b := by
  cases e : ff q 0 b with
  | none =>
    have := ff_none.mp e
    exact ff_none.mpr (fun j h1 h2 => this j h1 (by omega))
  | some c =>
    obtain ⟨h1, h2, h3, h4⟩ := ff_some.mp e
    refine ff_some.mpr ⟨h1, ?_, h3, h4⟩
    by_cases q2 : c < a
    · omega
    · obtain ⟨d, hd, hq⟩ := h c (by omega) (by omega) h3
      rw [h4 d (by omega) (by omega)] at hq; cases hq
theorem cs_ls : ∀ n h u f, (∀ i, i < h → f i < u) → cs m k n h u f = ls m k n h f
  | 0, _, _, _, _ => rfl
  | n + 1, h, u, f, hf => by
    have ih : ∀ c, cs m k n (h + 1) (max u (c + 1)) (up1 f h c) = ls m k n (h + 1) (up1 f h c) := fun c => cs_ls n (h + 1) _ _ (fun i hi => by
      by_cases q : i = h
      · subst q; rw [up1_eq]; omega
      · rw [up1_ne q]; have := hf i (by omega); omega)
    unfold cs ls
    simp only [ih]
    congr 1
    refine ff_cut (by omega) (fun c h1 h2 h3 => ?_)
    have huc : u < c := by omega
    simp only [Bool.and_eq_true] at h3
    obtain ⟨g, hg⟩ := Option.isSome_iff_exists.mp h3.2
    have hs := ls_sound n (h + 1) _ g hg
    have gh : g h = c := by rw [hs.1 h (by omega), up1_eq]
    have gf : ∀ i, i < h → g i = f i := fun i hi => by rw [hs.1 i (by omega), up1_ne (by omega)]
    have hcm : cmp m k (n + 1) h f g := ⟨gf, fun i h4 h5 => by
      by_cases q : i = h
      · subst q; rw [gh]; exact ⟨h2, by rw [fr_cg gf]; exact h3.1⟩
      · exact hs.2 i (by omega) (by omega)⟩
    obtain ⟨w1, w2⟩ := swap_ok hf huc h2 hcm gh
    refine ⟨u, by omega, ?_⟩
    simp only [Bool.and_eq_true]
    refine ⟨fr_iff.mpr (fun o ho e => by have := hf o ho; omega), ls_some n (h + 1) _ (fun i => sw u c (g i)) ⟨fun i hi => ?_, fun i h4 h5 => w1.2 i (by omega) (by omega)⟩⟩
    by_cases q : i = h
    · subst q; rw [up1_eq]; exact w2
    · rw [up1_ne q]; exact w1.1 i (by omega)
theorem ls_all {n : Nat} {f : Nat → Nat} : (ls m n n 0 f).isSome = true := by
  refine ls_some n 0 f (fun i => i) ⟨fun i hi => absurd hi (by omega), fun i _ h2 => ⟨(show i < n by omega), fr_iff.mpr (fun o ho e => by have e' : o = i := e; omega)⟩⟩
theorem ls_lt {n h : Nat} {f g : Nat → Nat} (e : ls m k n h f = some g) {i : Nat} (h1 : h ≤ i) (h2 : i < h + n) : g i < k := ((ls_sound n h f g e).2 i h1 h2).1
end CO
section CC
variable {σ : sg} {ρ : rg} {t u : Nat} {w wi : wg}
theorem hm_sym {i j : Nat} : hm w i j = hm w j i := by
  unfold hm
  have h1 : decide (i = j) = decide (j = i) := by by_cases q : i = j <;> simp [q, eq_comm]
  have h2 : anyN (fun h => decide (0 < cx w h i) && decide (0 < cx w h j)) (nH w) = anyN (fun h => decide (0 < cx w h j) && decide (0 < cx w h i)) (nH w) := anyN_cg (fun k _ => Bool.and_comm _ _)
  rw [h1, h2, Bool.or_comm (decide (0 < cx w i j))]
theorem rd_shr {a b : Nat} (h : rh ρ a b) : am_rd ρ 0 11 107 = some 82 := rh_rd h (by decide) (by decide) (by decide +kernel)
theorem rd_col {a b : Nat} (h : rh ρ a b) : am_rd ρ 82 0 1 = some 83 := rh_rd h (by decide) (by decide) (by decide +kernel)
theorem rd_har {a b : Nat} (h : rh ρ a b) : am_rd ρ 82 1 1 = some 84 := rh_rd h (by decide) (by decide) (by decide +kernel)
theorem rd_colM {a b : Nat} (h : rh ρ a b) : am_rd ρ 105 18 1 = some 114 := rh_rd h (by decide) (by decide) (by decide +kernel)
theorem ln_83 : am_ln 83 = 8 := by decide
theorem ln_84 : am_ln 84 = 8 := by decide
theorem ln_114 : am_ln 114 = 8 := by decide
theorem c_harmed (H : tS σ ρ t w) {h : Nat} (hh : h < 2147483648) : f_X9_harmedBy (σ, ρ) t (Int32.ofNat h) = some (Int32.ofNat (bm (hm w h) (nH w))) := by
  have hH := (wv_H H.2.2.2).2
  unfold f_X9_harmedBy
  have key : am_loop (f_X9_harmedBy_b4 (σ, ρ) t (Int32.ofNat h)) am_fuel (0, 0) = some (Int32.ofNat (bm (hm w h) (nH w))) := by
    refine lp_for (nH w) (fun k => (Int32.ofNat (bm (hm w h) k), Int32.ofNat k)) rfl (fun k hk => ?_) ?_ (by omega)
    · unfold f_X9_harmedBy_b4
      simp only [c_H H]
      rw [if_pos (lt_y hk (by omega)), c_harm H hh (by omega)]
      simp only [bnd, bi_f, shl1 (show k < 9 by omega), on_or, bm_or, on_s]
      show _ = some (Sum.inl (Int32.ofNat (bm (hm w h) k + (if hm w h k = true then 2 ^ k else 0)), Int32.ofNat (k + 1)))
      cases hm w h k <;> rfl
    · unfold f_X9_harmedBy_b4
      simp only [c_H H]
      rw [if_neg (lt_n (by omega))]
  rw [key, bnd]
/-- the class's search -/
theorem c_free {a b : Nat} (hr : rh ρ a b) (hw : wv w) {h c : Nat} (hh : h < nH w) (hc : c < 2147483648) {f : Nat → Nat} (hf : ∀ i, i < h → σ 83 i = Int32.ofNat (f i) ∧ f i < 2147483648) (h84 : σ 84 h = Int32.ofNat (bm (hm w h) (nH w))) : f_X7_isFree (σ, ρ) 82 (Int32.ofNat h) (Int32.ofNat c) = some (bi (fr (hm w) f h c)) := by
  have hH := (wv_H hw).2
  unfold f_X7_isFree
  rw [lp_ff (x := 0) (δ := Unit ⊕ Int32) (fun k => Int32.ofNat k) (fun o => decide (f o = c) && hm w o h) (fun _ => .inr 0) (.inr 1) h rfl (fun o ho => ?_) (fun _ => ?_) (by omega)]
  · have : fr (hm w) f h c = !(anyN (fun o => decide (f o = c) && hm w o h) h) := by rw [not_any]; rfl
    rw [this, ← ff_any, bnd]
    cases ff (fun o => decide (f o = c) && hm w o h) 0 h <;> rfl
  · unfold f_X7_isFree_b2
    have hbl := bm_lt (q := hm w h) (nH w)
    have hp : 2 ^ nH w ≤ 2 ^ 8 := Nat.pow_le_pow_right (by decide) hH
    simp only [rd_col hr, rd_har hr, bnd]
    rw [if_pos (lt_y ho (by omega)), ld_on (by rw [ln_83]; omega) (by omega), (hf o ho).1]
    simp only [bnd, on_inj (hf o ho).2 hc]
    by_cases z : f o = c
    · rw [if_pos z, ld_on (by rw [ln_84]; omega) (by omega), h84]
      simp only [bnd, on_bit (show bm (hm w h) (nH w) < 1024 by omega) (show o < 11 by omega), bm_tb, on_s]
      have ho2 : o < nH w := by omega
      rw [hm_sym (i := o) (j := h)]
      cases hm w h o <;> simp [z, ho2]
    · rw [if_neg z, on_s]; simp [z]
  · unfold f_X7_isFree_b2
    simp only
    rw [if_neg (lt_n (by omega))]
theorem c_paint {a b : Nat} (hr : rh ρ a b) (hw : wv w) {k : Nat} (hk : k ≤ 8) : ∀ (n fu h u : Nat) (σ : sg) (f : Nat → Nat), n < fu → h + n = nH w → u ≤ 8 → (∀ i, i < h → σ 83 i = Int32.ofNat (f i) ∧ f i < 2147483648) → (∀ i, i < nH w → σ 84 i = Int32.ofNat (bm (hm w i) (nH w))) → ∃ (r : Int32) (τ : sg), f_rec_X7_isPainted fu 0 (σ, ρ) 82 (Int32.ofNat h) (Int32.ofNat u) (Int32.ofNat k) (Int32.ofNat (nH w)) = some (r, τ) ∧ (∀ o, o ≠ 83 → τ o = σ o) ∧ (∀ i, i < h → τ 83 i = σ 83 i) ∧ ((∃ g, cs (hm w) k n h u f = some g ∧ r = 1 ∧ ∀ i, i < nH w → τ 83 i = Int32.ofNat (g i)) ∨ (cs (hm w) k n h u f = none ∧ r = 0))
  | n, 0, _, _, _, _, h, _, _, _, _ => by omega
  | 0, fu + 1, h, u, σ, f, _, hN, _, hf, _ => by
    refine ⟨1, σ, ?_, fun _ _ => rfl, fun _ _ => rfl, Or.inl ⟨f, rfl, rfl, fun i hi => (hf i (by omega)).1⟩⟩
    show f_X7_isPainted_o (f_rec_X7_isPainted fu 0) (σ, ρ) 82 _ _ _ _ = _
    unfold f_X7_isPainted_o
    rw [show h = nH w by omega, if_neg (lt_n (by have := (wv_H hw).2; omega))]
  | n + 1, fu + 1, h, u, σ, f, hfu, hN, hu, hf, h84 => by
    have hH := (wv_H hw).2
    have hh : h < nH w := by omega
    obtain ⟨q, hq⟩ : ∃ q : Nat → Bool, q = (fun c => fr (hm w) f h c && (cs (hm w) k n (h + 1) (max u (c + 1)) (up1 f h c)).isSome) := ⟨_, rfl⟩
    have key := lp_rule (body := f_X7_isPainted_b17 (f_rec_X7_isPainted fu 0) (σ, ρ) 82 (Int32.ofNat h) (Int32.ofNat u) (Int32.ofNat k) (Int32.ofNat (nH w))) (min k (u + 1))
      (fun c y => y.1 = Int32.ofNat c ∧ (∀ o, o ≠ 83 → y.2 o = σ o) ∧ (∀ i, i < h → y.2 83 i = σ 83 i) ∧ (∀ j, j < c → q j = false))
      (fun d => ∃ (r : Int32) (τ : sg), d = .inr (r, τ) ∧ (∀ o, o ≠ 83 → τ o = σ o) ∧ (∀ i, i < h → τ 83 i = σ 83 i) ∧ ((∃ g, cs (hm w) k (n + 1) h u f = some g ∧ r = 1 ∧ ∀ i, i < nH w → τ 83 i = Int32.ofNat (g i)) ∨ (cs (hm w) k (n + 1) h u f = none ∧ r = 0)))
      (x := (0, σ)) ⟨rfl, fun _ _ => rfl, fun _ _ => rfl, fun j hj => absurd hj (by omega)⟩ (fun c y hc hy => by
        obtain ⟨i, τ⟩ := y
        obtain ⟨rfl, y1, y2, y3⟩ := hy
        simp only at y1 y2
        unfold f_X7_isPainted_b17
        simp only [rd_col hr, bnd]
        by_cases e : c < min k (u + 1)
        · have hf' : ∀ i, i < h → τ 83 i = Int32.ofNat (f i) ∧ f i < 2147483648 := fun i hi => ⟨by rw [y2 i hi]; exact (hf i hi).1, (hf i hi).2⟩
          have h84' : ∀ i, i < nH w → τ 84 i = Int32.ofNat (bm (hm w i) (nH w)) := fun i hi => by rw [y1 84 (by decide)]; exact h84 i hi
          rw [if_pos ((on_lt (by omega) (by omega)).mpr (by omega)), if_neg (fun z => by have := (on_lt (by omega) (by omega)).mp z; omega), c_free hr hw hh (by omega) hf' (h84' h hh)]
          simp only [bnd, bi_f, on_s, i_max]
          cases hfr : fr (hm w) f h c with
          | false =>
            left
            simp only [Bool.false_eq_true, if_false]
            refine ⟨_, rfl, e, rfl, y1, y2, fun j hj => ?_⟩
            by_cases z : j = c
            · subst z; rw [hq]; simp [hfr]
            · exact y3 j (by omega)
          | true =>
            simp only [if_true]
            rw [st_on (by rw [ln_83]; omega) (by omega)]
            simp only [bnd]
            have hmx : (if Int32.ofNat u < Int32.ofNat (c + 1) then Int32.ofNat (c + 1) else Int32.ofNat u) = Int32.ofNat (max u (c + 1)) := by
              by_cases z : u < c + 1
              · rw [if_pos ((on_lt (by omega) (by omega)).mpr z), Nat.max_eq_right (by omega)]
              · rw [if_neg (fun y => z ((on_lt (by omega) (by omega)).mp y)), Nat.max_eq_left (by omega)]
            rw [hmx]
            obtain ⟨r, υ, g1, g2, g3, g4⟩ := c_paint hr hw hk n fu (h + 1) (max u (c + 1)) (am_u2 τ 83 h (Int32.ofNat c)) (up1 f h c) (by omega) (by omega) (by omega) (fun i hi => by
              by_cases z : i = h
              · subst z; rw [u2_eq, up1_eq]; exact ⟨rfl, by omega⟩
              · rw [u2_nj z, up1_ne z]; exact hf' i (by omega)) (fun i hi => by rw [u2_ne (by decide)]; exact h84' i hi)
            have hn : Int32.ofNat (nH w) = Int32.ofNat (nH w) := rfl
            rw [g1]
            simp only [bnd]
            have k2 : ∀ o, o ≠ 83 → υ o = σ o := fun o ho => by rw [g2 o ho, u2_row ho, y1 o ho]
            have k3 : ∀ i, i < h → υ 83 i = σ 83 i := fun i hi => by rw [g3 i (by omega), u2_nj (by omega), y2 i hi]
            rcases g4 with ⟨g, z1, z2, z3⟩ | ⟨z1, z2⟩
            · right
              rw [z2, if_neg (by decide)]
              refine ⟨_, rfl, 1, υ, rfl, k2, k3, Or.inl ⟨g, ?_, rfl, z3⟩⟩
              unfold cs
              have : ff q 0 (min k (u + 1)) = some c := ff_some.mpr ⟨by omega, by omega, by rw [hq]; simp [hfr, z1], fun j _ hj => y3 j hj⟩
              rw [← hq, this, bnd, z1]
            · left
              rw [z2, if_pos rfl]
              refine ⟨_, rfl, e, rfl, k2, k3, fun j hj => ?_⟩
              by_cases z : j = c
              · subst z; rw [hq]; simp [z1]
              · exact y3 j (by omega)
        · right
          have hcm : c = min k (u + 1) := by omega
          have hno : cs (hm w) k (n + 1) h u f = none := by
            unfold cs
            rw [← hq, ff_none.mpr (fun j _ hj => y3 j (by omega))]
            rfl
          by_cases z : c < k
          · rw [if_pos ((on_lt (by omega) (by omega)).mpr z), if_pos ((on_lt (by omega) (by omega)).mpr (by omega))]
            exact ⟨_, rfl, 0, τ, rfl, y1, y2, Or.inr ⟨hno, rfl⟩⟩
          · rw [if_neg (fun y => z ((on_lt (by omega) (by omega)).mp y))]
            exact ⟨_, rfl, 0, τ, rfl, y1, y2, Or.inr ⟨hno, rfl⟩⟩) (by omega)
    obtain ⟨d, h1, r, τ, rfl, h2, h3, h4⟩ := key
    refine ⟨r, τ, ?_, h2, h3, h4⟩
    show f_X7_isPainted_o (f_rec_X7_isPainted fu 0) (σ, ρ) 82 _ _ _ _ = _
    unfold f_X7_isPainted_o
    rw [if_pos (lt_y hh (by omega)), if_pos (show Int32.ofNat h < 8 from (on_lt (b := 8) (by omega) (by decide)).mpr (by omega)), h1, bnd]
end CC
