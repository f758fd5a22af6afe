section RD
variable {σ : sg} {ρ : rg} {t u : Nat} {w wi : wg}
/-! the class's reader: things of the text -/
def kdN (x : Int32) : Int32 := if 97 ≤ x ∧ x ≤ 122 then 97 else if 48 ≤ x ∧ x ≤ 57 then 48 else x &&& 255
theorem nlt {a b : Int32} : (¬ a < b) ↔ b ≤ a := by rw [Int32.lt_iff_toInt_lt, Int32.le_iff_toInt_le]; omega
theorem f_kd (x : Int32) : f_X4_kindOf x = some (kdN x) := by
  unfold f_X4_kindOf kdN
  by_cases a : x < 97
  · rw [if_pos a, if_neg (show ¬ (97 ≤ x ∧ x ≤ 122) from fun z => absurd a (nlt.mpr z.1))]
    by_cases b : x < 48
    · rw [if_pos b, if_neg (show ¬ (48 ≤ x ∧ x ≤ 57) from fun z => absurd b (nlt.mpr z.1))]
    · rw [if_neg b]
      by_cases c : 57 < x
      · rw [if_pos c, if_neg (show ¬ (48 ≤ x ∧ x ≤ 57) from fun z => absurd c (nlt.mpr z.2))]
      · rw [if_neg c, if_pos ⟨nlt.mp b, nlt.mp c⟩]
  · rw [if_neg a]
    by_cases d : 122 < x
    · rw [if_pos d, if_neg (show ¬ (97 ≤ x ∧ x ≤ 122) from fun z => absurd d (nlt.mpr z.2))]
      by_cases b : x < 48
      · rw [if_pos b, if_neg (show ¬ (48 ≤ x ∧ x ≤ 57) from fun z => absurd b (nlt.mpr z.1))]
      · rw [if_neg b]
        by_cases c : 57 < x
        · rw [if_pos c, if_neg (show ¬ (48 ≤ x ∧ x ≤ 57) from fun z => absurd c (nlt.mpr z.2))]
        · rw [if_neg c, if_pos ⟨nlt.mp b, nlt.mp c⟩]
    · rw [if_neg d, if_pos ⟨nlt.mp a, nlt.mp d⟩]
/-- how far a run goes -/
def runN (q : Nat → Bool) (n p : Nat) : Nat := fd id n (ff (fun k => !q k) p (n - p))
theorem run_p {q : Nat → Bool} {n p : Nat} (hp : p ≤ n) : p ≤ runN q n p ∧ runN q n p ≤ n ∧ (∀ k, p ≤ k → k < runN q n p → q k = true) ∧ (runN q n p < n → q (runN q n p) = false) := by
  unfold runN
  cases e : ff (fun k => !q k) p (n - p) with
  | none =>
    refine ⟨hp, Nat.le_refl _, fun k h1 h2 => ?_, fun h => absurd h (Nat.lt_irrefl _)⟩
    have h2' : k < n := h2
    have := ff_none.mp e k h1 (by omega)
    simpa using this
  | some i =>
    obtain ⟨h1, h2, h3, h4⟩ := ff_some.mp e
    refine ⟨h1, by show i ≤ n; omega, fun k g1 g2 => ?_, fun _ => by show q i = false; simpa using h3⟩
    have := h4 k g1 g2
    simpa using this
end RD
