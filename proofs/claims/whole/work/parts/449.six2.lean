section SY
theorem su_ch {f g : Nat → Nat} {h : Nat} (e : ∀ k, k ≠ h → f k = g k) : ∀ {n : Nat}, h < n → su f n + g h = su g n + f h
  | n + 1, hn => by
    show su f n + f n + g h = su g n + g n + f h
    by_cases z : h = n
    · subst z
      have : su f h = su g h := su_cg (fun k hk => e k (by omega))
      omega
    · have := su_ch e (n := n) (by omega)
      have := e n (fun q => z q.symm)
      omega
def pI (L0 : Nat) (C : Nat → Nat) (T : Nat) (s : sxT) : Prop := sbs s.1 L0 ∧ (∀ h, s.1.testBit h = true → s.2.1 h = 0) ∧ (∀ x, s.2.1 x ≤ T + C x) ∧ T + su (fun h => s.2.1 h - T) 8 ≤ su (fun h => if s.1.testBit h = true then 0 else C h) 8 ∧ s.2.2.2 ≤ T + 16
theorem sxS_I {hm : Nat → Nat → Bool} {C : Nat → Nat} {L0 T h : Nat} {s : sxT} (h8 : h < 8) (hC : ∀ x, C x ≤ 16) (hS : s.1.testBit h = true) (H : pI L0 C T s) : pI L0 C T (sxS hm C T h s) ∧ ∀ o, T < s.2.1 o → T < (sxS hm C T h s).2.1 o := by
  have hO := sxS_O (hm := hm) (h := h) H.2.2.1
  obtain ⟨a1, a2, a3, a4, a5⟩ := H
  have hCh := hC h
  unfold sxS at hO ⊢
  by_cases z : unh hm s.2.1 T h = true
  · rw [if_pos z] at hO ⊢
    have h0 := a2 h hS
    refine ⟨⟨fun i hi => ?_, fun i hi => ?_, hO, ?_, ?_⟩, fun o ho => ?_⟩
    · have hi' : (rmb s.1 h).testBit i = true := hi
      rw [rmb_tb, Bool.and_eq_true] at hi'
      exact a1 i hi'.1
    · have hi' : (rmb s.1 h).testBit i = true := hi
      rw [rmb_tb, Bool.and_eq_true] at hi'
      have : i ≠ h := by simpa using hi'.2
      show up1 s.2.1 h (T + C h) i = 0
      rw [up1_ne this]
      exact a2 i hi'.1
    · show T + su (fun x => up1 s.2.1 h (T + C h) x - T) 8 ≤ su (fun x => if (rmb s.1 h).testBit x = true then 0 else C x) 8
      have e1 := su_ch (f := fun x => s.2.1 x - T) (g := fun x => up1 s.2.1 h (T + C h) x - T) (h := h) (fun k hk => by rw [up1_ne hk]) h8
      have e2 := su_ch (f := fun x => if s.1.testBit x = true then 0 else C x) (g := fun x => if (rmb s.1 h).testBit x = true then 0 else C x) (h := h) (fun k hk => by rw [rmb_tb]; simp [hk]) h8
      simp only [up1_eq, h0, hS, if_true] at e1 e2
      have e3 : (if (rmb s.1 h).testBit h = true then 0 else C h) = C h := by rw [rmb_tb]; simp
      rw [e3] at e2
      omega
    · show (if s.2.2.2 < T + C h then T + C h else s.2.2.2) ≤ T + 16
      split <;> omega
    · show T < up1 s.2.1 h (T + C h) o
      by_cases y : o = h
      · subst y; rw [h0] at ho; omega
      · rw [up1_ne y]; exact ho
  · rw [if_neg z]
    exact ⟨⟨a1, a2, a3, a4, a5⟩, fun _ h => h⟩
theorem sxS_1 {hm : Nat → Nat → Bool} {C : Nat → Nat} {T h S : Nat} {s : sxT} (g : sbs S s.1) : sbs (rmb S h) (sxS hm C T h s).1 := fun i hi => by
  rw [rmb_tb, Bool.and_eq_true] at hi
  unfold sxS
  split
  · show (rmb s.1 h).testBit i = true
    rw [rmb_tb, Bool.and_eq_true]; exact ⟨g i hi.1, hi.2⟩
  · exact g i hi.1
theorem prc_I {hm : Nat → Nat → Bool} {C : Nat → Nat} {key : Nat → Int32} {L0 T : Nat} (hC : ∀ x, C x ≤ 16) : ∀ k S s, sbs S s.1 → pI L0 C T s → pI L0 C T (prc hm C key T k S s) ∧ ∀ o, T < s.2.1 o → T < (prc hm C key T k S s).2.1 o
  | 0, S, s, _, H => ⟨H, fun _ h => h⟩
  | k + 1, S, s, g, H => by
    cases e : bsN key S 8 with
    | none =>
      have : prc hm C key T (k + 1) S s = s := by unfold prc; rw [e]
      rw [this]; exact ⟨H, fun _ h => h⟩
    | some h =>
      have q : bsP key S 8 h := by have := bsN_I (key := key) (S := S) 8; rw [e] at this; exact this
      have hL : prc hm C key T (k + 1) S s = prc hm C key T k (rmb S h) (sxS hm C T h s) := by
        show (match bsN key S 8 with | none => s | some h => prc hm C key T k (rmb S h) (sxS hm C T h s)) = _
        rw [e]
      rw [hL]
      obtain ⟨b1, b2⟩ := sxS_I (hm := hm) q.1 hC (g h q.2.1) H
      obtain ⟨c1, c2⟩ := prc_I (hm := hm) (key := key) hC k (rmb S h) (sxS hm C T h s) (sxS_1 g) b1
      exact ⟨c1, fun o ho => c2 o (b2 o ho)⟩
theorem prc_go {hm : Nat → Nat → Bool} {C : Nat → Nat} {key : Nat → Int32} {L0 T : Nat} (hC : ∀ x, C x ≤ 16) (hC1 : ∀ x, L0.testBit x = true → 1 ≤ C x) {k S : Nat} {s : sxT} (hS : S < 256) (h0 : S ≠ 0) (g : sbs S s.1) (H : pI L0 C T s) : ∃ o, o < 8 ∧ T < (prc hm C key T (k + 1) S s).2.1 o := by
  cases e : bsN key S 8 with
  | none => exact absurd (bs_none hS e) h0
  | some h =>
    have q : bsP key S 8 h := by have := bsN_I (key := key) (S := S) 8; rw [e] at this; exact this
    have hL : prc hm C key T (k + 1) S s = prc hm C key T k (rmb S h) (sxS hm C T h s) := by
      show (match bsN key S 8 with | none => s | some h => prc hm C key T k (rmb S h) (sxS hm C T h s)) = _
      rw [e]
    rw [hL]
    obtain ⟨b1, b2⟩ := sxS_I (hm := hm) q.1 hC (g h q.2.1) H
    obtain ⟨c1, c2⟩ := prc_I (hm := hm) (key := key) hC k (rmb S h) (sxS hm C T h s) (sxS_1 g) b1
    cases z : unh hm s.2.1 T h with
    | true =>
      refine ⟨h, q.1, c2 h ?_⟩
      unfold sxS
      rw [if_pos z]
      show T < up1 s.2.1 h (T + C h) h
      rw [up1_eq]
      have := hC1 h (H.1 h (g h q.2.1))
      omega
    | false =>
      have : ∃ o, o < 8 ∧ T < s.2.1 o := by
        apply Classical.byContradiction
        intro n
        rw [Bool.eq_false_iff] at z
        apply z
        unfold unh
        refine allN_iff.mpr (fun o ho => ?_)
        have : ¬ T < s.2.1 o := fun y => n ⟨o, ho, y⟩
        simp [this]
      obtain ⟨o, h1, h2⟩ := this
      exact ⟨o, h1, c2 o (b2 o h2)⟩
theorem pI_next {C : Nat → Nat} {L0 T : Nat} {s : sxT} (H : pI L0 C T s) (h : ∃ o, o < 8 ∧ T < s.2.1 o) : pI L0 C (T + 1) s := by
  obtain ⟨a1, a2, a3, a4, a5⟩ := H
  obtain ⟨o, h1, h2⟩ := h
  have hs : su (fun h => s.2.1 h - (T + 1)) 8 < su (fun h => s.2.1 h - T) 8 := su_strict (x := o) (by show s.2.1 o - (T + 1) < s.2.1 o - T; omega) h1 (fun k _ => by show s.2.1 k - (T + 1) ≤ s.2.1 k - T; omega)
  exact ⟨a1, a2, fun x => by have := a3 x; omega, by omega, by omega⟩
theorem pI_T {C : Nat → Nat} {L0 T : Nat} {s : sxT} (hC : ∀ x, C x ≤ 16) (hs : s.1 < 256) (H : pI L0 C T s) (h : s.1 ≠ 0) : T ≤ 112 := by
  obtain ⟨x, hx⟩ := bit_ex h
  have h8 := tb_lt (n := 8) hs hx
  have e := su_ch (f := fun h => if s.1.testBit h = true then 0 else C h) (g := up1 (fun h => if s.1.testBit h = true then 0 else C h) x 16) (h := x) (fun k hk => by rw [up1_ne hk]) h8
  simp only [up1_eq, hx, if_true] at e
  have e2 : su (up1 (fun h => if s.1.testBit h = true then 0 else C h) x 16) 8 ≤ su (fun _ => 16) 8 := su_mono (fun k _ => by
    by_cases y : k = x
    · subst y; rw [up1_eq]; exact Nat.le_refl _
    · rw [up1_ne y]
      have := hC k
      show (if s.1.testBit k = true then 0 else C k) ≤ 16
      split <;> omega)
  rw [su_const] at e2
  have := H.2.2.2.1
  omega
def rSx (hm : Nat → Nat → Bool) (C : Nat → Nat) (key : Nat → Nat → Int32) (s0 : sxT) : Nat → sxT
  | 0 => s0
  | T + 1 => prc hm C (key T) T 8 (rSx hm C key s0 T).1 (rSx hm C key s0 T)
theorem prc_lt {hm : Nat → Nat → Bool} {C : Nat → Nat} {key : Nat → Int32} {L0 T k S : Nat} {s : sxT} (hC : ∀ x, C x ≤ 16) (hL0 : L0 < 256) (g : sbs S s.1) (H : pI L0 C T s) : (prc hm C key T k S s).1 < 256 := Nat.lt_of_le_of_lt (sbs_le ((prc_I (hm := hm) (key := key) hC k S s g H).1.1)) hL0
/-- it comes to an end in time -/
theorem rSx_end {hm : Nat → Nat → Bool} {C : Nat → Nat} {key : Nat → Nat → Int32} {L0 : Nat} (hC : ∀ x, C x ≤ 16) (hC1 : ∀ x, L0.testBit x = true → 1 ≤ C x) (hL0 : L0 < 256) : ∃ N, N ≤ 113 ∧ (rSx hm C key (L0, fun _ => 0, 0, 0) N).1 = 0 ∧ (∀ k, k < N → (rSx hm C key (L0, fun _ => 0, 0, 0) k).1 ≠ 0) ∧ ∀ k, k ≤ N → pI L0 C k (rSx hm C key (L0, fun _ => 0, 0, 0) k) := by
  have base : pI L0 C 0 (L0, fun _ => 0, 0, 0) := ⟨sbs_rf, fun _ _ => rfl, fun _ => Nat.zero_le _, by
    have : su (fun h => (fun _ => 0 : Nat → Nat) h - 0) 8 = 0 := by decide
    show 0 + su (fun h => (fun _ => 0 : Nat → Nat) h - 0) 8 ≤ _
    rw [this]; exact Nat.zero_le _, Nat.zero_le _⟩
  have key' : ∀ T, (∃ N, N ≤ T ∧ (rSx hm C key (L0, fun _ => 0, 0, 0) N).1 = 0 ∧ (∀ k, k < N → (rSx hm C key (L0, fun _ => 0, 0, 0) k).1 ≠ 0) ∧ ∀ k, k ≤ N → pI L0 C k (rSx hm C key (L0, fun _ => 0, 0, 0) k)) ∨ ((∀ k, k ≤ T → (rSx hm C key (L0, fun _ => 0, 0, 0) k).1 ≠ 0) ∧ ∀ k, k ≤ T → pI L0 C k (rSx hm C key (L0, fun _ => 0, 0, 0) k)) := by
    intro T
    induction T with
    | zero =>
      by_cases z : (rSx hm C key (L0, fun _ => 0, 0, 0) 0).1 = 0
      · exact Or.inl ⟨0, Nat.le_refl _, z, fun k hk => by omega, fun k hk => by
          have : k = 0 := by omega
          subst this; exact base⟩
      · exact Or.inr ⟨fun k hk => by
          have : k = 0 := by omega
          subst this; exact z, fun k hk => by
          have : k = 0 := by omega
          subst this; exact base⟩
    | succ T ih =>
      rcases ih with ⟨N, a, b, c, d⟩ | ⟨a, b⟩
      · exact Or.inl ⟨N, by omega, b, c, d⟩
      · have hT := b T (Nat.le_refl _)
        have hn : pI L0 C (T + 1) (rSx hm C key (L0, fun _ => 0, 0, 0) (T + 1)) := by
          show pI L0 C (T + 1) (prc hm C (key T) T 8 _ _)
          refine pI_next (prc_I hC 8 _ _ sbs_rf hT).1 (prc_go hC hC1 (Nat.lt_of_le_of_lt (sbs_le hT.1) hL0) (a T (Nat.le_refl _)) sbs_rf hT)
        have hk : ∀ k, k ≤ T + 1 → pI L0 C k (rSx hm C key (L0, fun _ => 0, 0, 0) k) := fun k hk => by
          by_cases z : k = T + 1
          · subst z; exact hn
          · exact b k (by omega)
        by_cases z : (rSx hm C key (L0, fun _ => 0, 0, 0) (T + 1)).1 = 0
        · exact Or.inl ⟨T + 1, Nat.le_refl _, z, fun k hk => a k (by omega), hk⟩
        · exact Or.inr ⟨fun k hk => by
            by_cases y : k = T + 1
            · subst y; exact z
            · exact a k (by omega), hk⟩
  rcases key' 113 with h | ⟨a, b⟩
  · exact h
  · have := pI_T hC (Nat.lt_of_le_of_lt (sbs_le (b 113 (Nat.le_refl _)).1) hL0) (b 113 (Nat.le_refl _)) (a 113 (Nat.le_refl _))
    omega
end SY
