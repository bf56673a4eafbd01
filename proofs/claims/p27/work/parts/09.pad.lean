theorem dn1 {a : Nat} (h : 0 < a) : nI a - 1 + (-1) = nI (a - 1) - 1 := by
  obtain ⟨b, rfl⟩ : ∃ b, a = b + 1 := ⟨a - 1, by omega⟩
  rw [Nat.add_sub_cancel, show (1 : Int32) = nI 1 from rfl, pk_sub (by omega), Nat.add_sub_cancel]
  exact (Int32.sub_eq_add_neg _ _).symm
theorem dn_lt {a : Nat} (h : a < 100) : nI a - 1 < 0 ↔ a = 0 := by
  constructor
  · intro h1
    by_cases h2 : a = 0
    · exact h2
    · have e : nI a - 1 = nI (a - 1) := pk_sub (a := a) (b := 1) (by omega)
      rw [e] at h1
      exact absurd h1 (nI_pos (by omega))
  · rintro rfl
    decide

