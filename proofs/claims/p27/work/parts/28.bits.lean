/-! bits of unions -/
theorem in18_0 : in18 0 := fun j _ _ => b_0 j
theorem in18_or {x y : Int32} (hx : in18 x) (hy : in18 y) : in18 (x ||| y) := fun j h1 h2 => by rw [b_or, hx j h1 h2, hy j h1 h2]; rfl
theorem in18_bI {u : Nat} (hu : u < 18) : in18 (bI u) := fun j h1 h2 => by rw [bt_bI (by omega) h2]; exact decide_eq_false (by omega)
theorem or_bit {T : Nat → Int32} {m : Int32} {j : Nat} : ∀ {n : Nat}, bt (S_or T m n) j = true ↔ ∃ i, i < n ∧ bt m i = true ∧ bt (T i) j = true
  | 0 => by
    rw [S_or, b_0]
    constructor
    · intro h; cases h
    · rintro ⟨i, hi, -⟩; omega
  | n + 1 => by
    have ih := or_bit (T := T) (m := m) (j := j) (n := n)
    rw [S_or]
    by_cases h : bt m n = true
    · rw [if_pos h, b_or, Bool.or_eq_true, ih]
      constructor
      · rintro (⟨i, hi, h1, h2⟩ | h2)
        · exact ⟨i, by omega, h1, h2⟩
        · exact ⟨n, by omega, h, h2⟩
      · rintro ⟨i, hi, h1, h2⟩
        by_cases he : i = n
        · subst he; exact Or.inr h2
        · exact Or.inl ⟨i, by omega, h1, h2⟩
    · rw [if_neg h, ih]
      constructor
      · rintro ⟨i, hi, h1, h2⟩
        exact ⟨i, by omega, h1, h2⟩
      · rintro ⟨i, hi, h1, h2⟩
        by_cases he : i = n
        · subst he; exact absurd h1 h
        · exact ⟨i, by omega, h1, h2⟩
theorem b_iff {x y : Int32} (h : ∀ i, i < 32 → (bt x i = true ↔ bt y i = true)) : x = y := b_ext (fun i hi => by
  have := h i hi
  cases hx : bt x i <;> cases hy : bt y i <;> simp_all)
theorem or_bI {T : Nat → Int32} {m : Int32} {n b : Nat} (hb : b < n) (hn : n ≤ 32) : S_or T (m ||| bI b) n = S_or T m n ||| T b := by
  apply b_iff
  intro j hj
  rw [b_or, Bool.or_eq_true, or_bit, or_bit]
  constructor
  · rintro ⟨i, hi, h1, h2⟩
    rw [b_or, bt_bI (by omega) (by omega), Bool.or_eq_true, decide_eq_true_eq] at h1
    rcases h1 with h1 | h1
    · exact Or.inl ⟨i, hi, h1, h2⟩
    · subst h1; exact Or.inr h2
  · rintro (⟨i, hi, h1, h2⟩ | h2)
    · exact ⟨i, hi, by rw [b_or, h1]; rfl, h2⟩
    · exact ⟨b, hb, by rw [b_or, bt_bI (by omega) (by omega)]; simp, h2⟩
theorem and_assoc3 (a b c : Int32) : (a &&& (b ^^^ (-1))) &&& (c ^^^ (-1)) = a &&& ((b ||| c) ^^^ (-1)) := by
  apply b_ext
  intro i hi
  rw [b_and, b_and, b_and, b_not _ hi, b_not _ hi, b_not _ hi, b_or]
  cases bt a i <;> cases bt b i <;> cases bt c i <;> rfl
theorem miss_bI {v : StT} {m : Int32} {b : Nat} (hb : b < v.2.1) (h : okS v) : S_miss v.2.2.1 v.1 v.2.1 m &&& (v.2.2.1 b ^^^ (-1)) = S_miss v.2.2.1 v.1 v.2.1 (m ||| bI b) := by
  have h14 := h.1
  unfold S_miss
  rw [or_bI hb (by omega), and_assoc3]
theorem cN_z {a : Nat} : ∀ {k : Nat}, cN a k = 0 → ∀ j, j < k → a.testBit j = false
  | 0, _, j, hj => absurd hj (Nat.not_lt_zero j)
  | k + 1, h, j, hj => by
    rw [cN] at h
    by_cases hk : a.testBit k = true
    · rw [if_pos hk] at h; omega
    · rw [if_neg hk] at h
      by_cases he : j = k
      · subst he; exact Bool.not_eq_true _ |>.mp hk
      · exact cN_z (by omega) j (by omega)
theorem pop_0z {x : Int32} (h : in18 x) : popC x = 0 ↔ x = 0 := by
  constructor
  · intro h0
    obtain ⟨a, ha, rfl⟩ := in18_ex h
    rw [pop_n1 ha, n1_cN 18 (Nat.le_refl _) a ha] at h0
    have hc := cN_le a 18
    have h1 := (nI_eq (a := cN a 18) (b := 0) (by omega) (by decide)).mp h0
    have h2 := cN_z h1
    apply b_ext
    intro j hj
    rw [b_0]
    by_cases h18 : j < 18
    · rw [bt_nI _ hj]; exact h2 j h18
    · exact h j (by omega) hj
  · rintro rfl
    decide
