/-! load's sets; check; the greedy cover: class and reference are the same -/
def PJ (Q : PT) : Prop := in18 Q.2.2.1 ∧ (Q.2.2.2.1 = 0 ∨ S_price Q.2.2.2.1 = true) ∧ ∀ j, j < Q.1 → in18 (Q.2.2.2.2.1 j) ∧ ∃ q : Nat, 1 ≤ q ∧ q ≤ 500 ∧ Q.2.2.2.2.2 j = nI q
theorem PJ_end {Q : PT} (h : PJ Q) (hn : ¬ Q.2.2.2.1 = 0) : PJ (pEnd Q) := by
  obtain ⟨a, b, L, N, A, B⟩ := Q
  obtain ⟨h1, h2, h3⟩ := h
  unfold pEnd
  split
  · refine ⟨h1, h2, fun j hj => ?_⟩
    have hj : j < a + 1 := hj
    show in18 (upd A a L j) ∧ ∃ q : Nat, 1 ≤ q ∧ q ≤ 500 ∧ upd B a N j = nI q
    rw [upE, upE]
    by_cases he : j = a
    · rw [if_pos he, if_pos he]
      exact ⟨h1, price_p (h2.resolve_left hn)⟩
    · rw [if_neg he, if_neg he]
      exact h3 j (by show j < a; omega)
  · exact ⟨h1, h2, h3⟩
theorem in18_0 : in18 0 := fun j _ _ => b_0 j
theorem in18_or {x y : Int32} (hx : in18 x) (hy : in18 y) : in18 (x ||| y) := fun j h1 h2 => by rw [b_or, hx j h1 h2, hy j h1 h2]; rfl
theorem in18_bI {u : Nat} (hu : u < 18) : in18 (bI u) := fun j h1 h2 => by rw [bt_bI (by omega) h2]; exact decide_eq_false (by omega)
theorem tkL_18 {c L : Int32} (h : tkL c L = true) : in18 ((1 : Int32) <<< ((c - 97) &&& 31)) := by
  obtain ⟨h1, h2, -⟩ := of_decide_eq_true h
  obtain ⟨u, hu, hc⟩ := nI_of h1
  rw [hc] at h2 ⊢
  have : ¬ 18 ≤ u := fun q => h2 ((nI_leI (a := 18) (b := u) (by decide) hu).mpr q)
  exact in18_bI (by omega)
theorem PJ_beg {Q : PT} (h : PJ Q) : PJ (pBeg Q) := ⟨in18_0, Or.inl rfl, h.2.2⟩
theorem PJ_sign {Q : PT} {c : Int32} (h : PJ Q) (hb : pSignB c Q = true) : PJ (pSign c Q) := by
  unfold pSignB at hb
  unfold pSign
  by_cases hn : Q.2.1 = true
  · rw [if_pos hn] at hb ⊢
    by_cases hc : c = 59
    · rw [if_pos hc] at hb ⊢
      have h0 : ¬ Q.2.2.2.1 = 0 := of_decide_eq_true hb
      unfold pSem
      rw [if_neg h0]
      exact PJ_beg (PJ_end h h0)
    · rw [if_neg hc] at hb ⊢
      unfold pDigB at hb
      unfold pDig
      by_cases ht : tkD c = true
      · rw [if_pos ht] at hb ⊢
        exact ⟨h.1, Or.inr hb, h.2.2⟩
      · rw [if_neg ht] at hb
        cases hb
  · rw [if_neg hn] at hb ⊢
    by_cases hc : c = 61
    · rw [if_pos hc]
      exact h
    · rw [if_neg hc] at hb ⊢
      unfold pLet
      rw [if_pos hb]
      exact ⟨in18_or h.1 (tkL_18 hb), h.2⟩
theorem PJ_rd {f : Nat → Int32} {n : Nat} (hn : n < 100) : ∀ (d i : Nat) (Q : PT), i + d ≤ n → PJ Q → (pRd f n d i Q).1 = -6 → PJ (pRd f n d i Q).2
  | 0, i, Q, _, h, he => by
    rw [pRd] at he ⊢
    split at he
    · exact absurd he (nI_n6 hn)
    · rename_i h0
      rw [if_neg h0]
      exact PJ_end h h0
  | d + 1, i, Q, hi, h, he => by
    rw [pRd] at he ⊢
    split at he
    · rename_i hb
      rw [if_pos hb]
      exact PJ_rd hn d (i + 1) _ (by omega) (PJ_sign h hb) he
    · exact absurd he (nI_n6 (by omega))
theorem okS_load {v : StT} {f : Nat → Int32} {n : Nat} {P : PT} (hn : n ≤ 80) (h : okS v) : okS (mV (okLoad v (pRd f n n 0 (pZero P))) v (vLoad v (pRd f n n 0 (pZero P)))) := by
  cases hb : okLoad v (pRd f n n 0 (pZero P)) with
  | false => exact h
  | true =>
    unfold okLoad at hb
    simp only [Bool.and_eq_true, decide_eq_true_eq] at hb
    have hz : PJ (pZero P) := ⟨in18_0, Or.inl rfl, fun j hj => absurd hj (Nat.not_lt_zero j)⟩
    have hJ := PJ_rd (f := f) (n := n) (by omega) n 0 (pZero P) (by omega) hz hb.1
    exact okS_ld h _ hb.2 hJ.2.2
/-! check -/
theorem shr_nI {a k : Nat} (ha : a < 2 ^ 31) (hk : k < 31) : nI a >>> (nI k &&& 31) = nI (a >>> k) := by
  apply b_ext
  intro i hi
  rw [b_sshr k (by omega) _ hi, bt_nI _ hi, Nat.testBit_shiftRight]
  split
  · rename_i h
    rw [bt_nI _ h]
  · rw [bt_nI _ (by decide), Nat.testBit_lt_two_pow ha]
    exact (Nat.testBit_lt_two_pow (Nat.lt_of_lt_of_le ha (Nat.pow_le_pow_right (by decide) (by omega)))).symm
theorem check_eq {v : StT} (h : okS v) (m : Int32) : rCheckM v m = rCheck v m := by
  unfold rCheckM rCheck
  by_cases h0 : m < 0
  · rw [if_pos h0, if_pos h0]
  · rw [if_neg h0, if_neg h0]
    obtain ⟨a, ha, rfl⟩ := nI_of h0
    have h14 := h.1
    have hp := pw14 h14
    rw [shr_nI ha (by omega), bI_pow _ (by omega)]
    have key : nI (a >>> v.2.1) = 0 ↔ nI a < nI (2 ^ v.2.1) := by
      have hle : a >>> v.2.1 ≤ a := Nat.shiftRight_le _ _
      rw [nI_ltI ha (by omega), show (0 : Int32) = nI 0 from rfl, nI_eq (by omega) (by decide), Nat.shiftRight_eq_div_pow, Nat.div_eq_zero_iff]
      have := Nat.two_pow_pos v.2.1
      omega
    by_cases hk : nI (a >>> v.2.1) = 0
    · rw [if_pos hk, if_pos (key.mp hk)]
    · rw [if_neg hk, if_neg (fun q => hk (key.mpr q))]
/-! the union's bits -/
theorem or_bit {T : Nat → Int32} {m : Int32} {j : Nat} : ∀ {n : Nat}, bt (S_or T m n) j = true ↔ ∃ i, i < n ∧ bt m i = true ∧ bt (T i) j = true
  | 0 => by
    rw [S_or, b_0]
    constructor
    · intro h; cases h
    · rintro ⟨i, hi, -⟩; omega
  | n + 1 => by
    have ih := or_bit (T := T) (m := m) (j := j) (n := n)
    rw [S_or]
    by_cases h : bt m n = true
    · rw [if_pos h, b_or, Bool.or_eq_true, ih]
      constructor
      · rintro (⟨i, hi, h1, h2⟩ | h2)
        · exact ⟨i, by omega, h1, h2⟩
        · exact ⟨n, by omega, h, h2⟩
      · rintro ⟨i, hi, h1, h2⟩
        by_cases he : i = n
        · subst he; exact Or.inr h2
        · exact Or.inl ⟨i, by omega, h1, h2⟩
    · rw [if_neg h, ih]
      constructor
      · rintro ⟨i, hi, h1, h2⟩
        exact ⟨i, by omega, h1, h2⟩
      · rintro ⟨i, hi, h1, h2⟩
        by_cases he : i = n
        · subst he; exact absurd h1 h
        · exact ⟨i, by omega, h1, h2⟩
theorem b_iff {x y : Int32} (h : ∀ i, i < 32 → (bt x i = true ↔ bt y i = true)) : x = y := b_ext (fun i hi => by
  have := h i hi
  cases hx : bt x i <;> cases hy : bt y i <;> simp_all)
theorem or_bI {T : Nat → Int32} {m : Int32} {n b : Nat} (hb : b < n) (hn : n ≤ 32) : S_or T (m ||| bI b) n = S_or T m n ||| T b := by
  apply b_iff
  intro j hj
  rw [b_or, Bool.or_eq_true, or_bit, or_bit]
  constructor
  · rintro ⟨i, hi, h1, h2⟩
    rw [b_or, bt_bI (by omega) (by omega), Bool.or_eq_true, decide_eq_true_eq] at h1
    rcases h1 with h1 | h1
    · exact Or.inl ⟨i, hi, h1, h2⟩
    · subst h1; exact Or.inr h2
  · rintro (⟨i, hi, h1, h2⟩ | h2)
    · exact ⟨i, hi, by rw [b_or, h1]; rfl, h2⟩
    · exact ⟨b, hb, by rw [b_or, bt_bI (by omega) (by omega)]; simp, h2⟩
theorem and_assoc3 (a b c : Int32) : (a &&& (b ^^^ (-1))) &&& (c ^^^ (-1)) = a &&& ((b ||| c) ^^^ (-1)) := by
  apply b_ext
  intro i hi
  rw [b_and, b_and, b_and, b_not _ hi, b_not _ hi, b_not _ hi, b_or]
  cases bt a i <;> cases bt b i <;> cases bt c i <;> rfl
theorem miss_bI {v : StT} {m : Int32} {b : Nat} (hb : b < v.2.1) (h : okS v) : S_miss v.2.2.1 v.1 v.2.1 m &&& (v.2.2.1 b ^^^ (-1)) = S_miss v.2.2.1 v.1 v.2.1 (m ||| bI b) := by
  have h14 := h.1
  unfold S_miss
  rw [or_bI hb (by omega), and_assoc3]
theorem cN_z {a : Nat} : ∀ {k : Nat}, cN a k = 0 → ∀ j, j < k → a.testBit j = false
  | 0, _, j, hj => absurd hj (Nat.not_lt_zero j)
  | k + 1, h, j, hj => by
    rw [cN] at h
    by_cases hk : a.testBit k = true
    · rw [if_pos hk] at h; omega
    · rw [if_neg hk] at h
      by_cases he : j = k
      · subst he; exact Bool.not_eq_true _ |>.mp hk
      · exact cN_z (by omega) j (by omega)
theorem pop_0z {x : Int32} (h : in18 x) : popC x = 0 ↔ x = 0 := by
  constructor
  · intro h0
    obtain ⟨a, ha, rfl⟩ := in18_ex h
    rw [pop_n1 ha, n1_cN 18 (Nat.le_refl _) a ha] at h0
    have hc := cN_le a 18
    have h1 := (nI_eq (a := cN a 18) (b := 0) (by omega) (by decide)).mp h0
    have h2 := cN_z h1
    apply b_ext
    intro j hj
    rw [b_0]
    by_cases h18 : j < 18
    · rw [bt_nI _ hj]; exact h2 j h18
    · exact h j (by omega) hj
  · rintro rfl
    decide

