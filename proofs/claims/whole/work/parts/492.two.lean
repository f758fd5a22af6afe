section TWO
variable {σ : sg} {ρ : rg} {t u : Nat} {w wi : wg}
theorem k_2 (E : am_E) (i : Int32) (I : Iv σ ρ t u w wi) : ∃ S', f_case_2 E (σ, ρ) i = some S' ∧ Inv S' := by
  unfold f_case_2 f_L_town
  exact cs_I (q_town I)
theorem k_3 (E : am_E) (i : Int32) (I : Iv σ ρ t u w wi) : ∃ S', f_case_3 E (σ, ρ) i = some S' ∧ Inv S' := by
  unfold f_case_3 f_L_law
  exact cs_I (q_law I)
theorem tl_all (E : am_E) : tlH E := fun S i hI => by
  obtain ⟨σ, ρ⟩ := S
  obtain ⟨t, u, w, wi, I⟩ := hI
  exact ⟨k_2 E i I, k_3 E i I⟩
theorem pure_all : ∀ E : am_E, E.2.2.2.2.2.1 ≤ 3072 → f_law E 513 st_S0 0 = some () := pure_of tl_all
end TWO
