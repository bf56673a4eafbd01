/-! the greedy cover: what its steps find -/
theorem bB_none {v : StT} (h : okS v) {l : Int32} : ∀ i, i ≤ v.2.1 → (bB v l i).1 = none → ∀ k, k < i → v.2.2.2.2 k = 0 → v.2.2.1 k &&& l = 0
  | 0, _, _, k, hk, _ => absurd hk (Nat.not_lt_zero k)
  | i + 1, hi, hb, k, hk, hM => by
    have h14 := h.1
    have hlt : ∀ k, (bB v l i).1 = some k → k < 100 := fun k hk => by have := bB_lt v l i k hk; omega
    have hin : in18 (v.2.2.1 i &&& l) := in18_andl (h.2.2 i (by omega)).1
    rw [bB] at hb
    by_cases hMi : v.2.2.2.2 i = 0
    · rw [if_pos hMi] at hb
      by_cases hp : popC (v.2.2.1 i &&& l) = 0
      · rw [if_pos hp] at hb
        by_cases he : k = i
        · rw [he]; exact (pop_0z hin).mp hp
        · exact bB_none h i (by omega) hb k (by omega) hM
      · rw [if_neg hp] at hb
        exfalso
        by_cases h6 : oN (bB v l i).1 = -6
        · rw [if_pos h6] at hb; cases hb
        · rw [if_neg h6] at hb
          obtain ⟨b, hbs⟩ := oN_some hlt h6
          split at hb
          · rw [hbs] at hb; cases hb
          · cases hb
    · rw [if_neg hMi] at hb
      by_cases he : k = i
      · subst he; exact absurd hM hMi
      · exact bB_none h i (by omega) hb k (by omega) hM
theorem bB_some {v : StT} (h : okS v) {l : Int32} : ∀ i b, i ≤ v.2.1 → (bB v l i).1 = some b → v.2.2.2.2 b = 0 ∧ ¬ v.2.2.1 b &&& l = 0
  | 0, b, _, hb => by cases hb
  | i + 1, b, hi, hb => by
    have hin : in18 (v.2.2.1 i &&& l) := in18_andl (h.2.2 i (by omega)).1
    have ih := bB_some h (l := l) i
    rw [bB] at hb
    by_cases hM : v.2.2.2.2 i = 0
    · rw [if_pos hM] at hb
      by_cases hp : popC (v.2.2.1 i &&& l) = 0
      · rw [if_pos hp] at hb
        exact ih b (by omega) hb
      · rw [if_neg hp] at hb
        have hn : ¬ v.2.2.1 i &&& l = 0 := fun q => hp ((pop_0z hin).mpr q)
        split at hb
        · cases hb; exact ⟨hM, hn⟩
        · split at hb
          · exact ih b (by omega) hb
          · cases hb; exact ⟨hM, hn⟩
    · rw [if_neg hM] at hb
      exact ih b (by omega) hb
/-- how many of n sets aren't in the mask -/
def cB (m : Int32) : Nat → Nat
  | 0 => 0
  | i + 1 => cB m i + (if bt m i = true then 0 else 1)
theorem cB_le (m : Int32) : ∀ n, cB m n ≤ n
  | 0 => Nat.le_refl 0
  | n + 1 => by
    have := cB_le m n
    rw [cB]
    split <;> omega
theorem cB_bI {m : Int32} {b : Nat} (hb32 : b < 32) (hb : bt m b = false) : ∀ n, n ≤ 32 → (b < n → cB (m ||| bI b) n + 1 = cB m n) ∧ (n ≤ b → cB (m ||| bI b) n = cB m n)
  | 0, _ => ⟨fun h => absurd h (Nat.not_lt_zero b), fun _ => rfl⟩
  | n + 1, hn => by
    obtain ⟨h1, h2⟩ := cB_bI hb32 hb n (by omega)
    have e : bt (m ||| bI b) n = (bt m n || decide (n = b)) := by rw [b_or, bt_bI hb32 (by omega)]
    rw [cB, cB, e]
    constructor
    · intro hlt
      by_cases he : b = n
      · subst he
        rw [h2 (Nat.le_refl _), hb]
        simp
      · have := h1 (by omega)
        have en : decide (n = b) = false := decide_eq_false (fun q => he q.symm)
        rw [en, Bool.or_false]
        omega
    · intro hle
      rw [h2 (by omega), decide_eq_false (show ¬ n = b by omega), Bool.or_false]
/-- the cover holds what is TAKEN; the loop goes on while there is something left -/
def gTk (v : StT) (c : Int32) : Prop := ∀ i, i < v.2.1 → v.2.2.2.2 i = 1 → bt c i = true
theorem hasC_bit {v : StT} (hc : hasC v = true) {j : Nat} (hj : bt v.1 j = true) (hj32 : j < 32) : ∃ i, i < v.2.1 ∧ bt (S_nb v.2.2.2.2 v.2.1) i = true ∧ bt (v.2.2.1 i) j = true := by
  have h1 : S_miss v.2.2.1 v.1 v.2.1 (S_nb v.2.2.2.2 v.2.1) = 0 := of_decide_eq_true hc
  have h2 := congrArg (fun z => bt z j) h1
  unfold S_miss at h2
  simp only [b_and, b_not _ hj32, b_0, hj, Bool.true_and] at h2
  have h3 : bt (S_or v.2.2.1 (S_nb v.2.2.2.2 v.2.1) v.2.1) j = true := by
    cases hq : bt (S_or v.2.2.1 (S_nb v.2.2.2.2 v.2.1) v.2.1) j with
    | true => rfl
    | false => rw [hq] at h2; cases h2
  exact or_bit.mp h3
theorem n0_bit {x : Int32} (h : ¬ x = 0) : ∃ j, j < 32 ∧ bt x j = true := by
  by_cases hq : ∃ j, j < 32 ∧ bt x j = true
  · exact hq
  · refine absurd (b_ext fun i hi => ?_) h
    rw [b_0]
    cases hb : bt x i with
    | false => rfl
    | true => exact absurd ⟨i, hi, hb⟩ hq
theorem bt_nb {v : StT} (h : okS v) {i : Nat} (hi : i < v.2.1) : bt (S_nb v.2.2.2.2 v.2.1) i = true ↔ v.2.2.2.2 i = 0 ∨ v.2.2.2.2 i = 1 := by
  have h14 := h.1
  unfold S_nb
  rw [b_or, bt_mk _ _ _ (by omega) i (by omega), bt_mk _ _ _ (by omega) i (by omega)]
  simp [hi]
/-- one step -/
theorem g_step {v : StT} (h : okS v) (hc : hasC v = true) {c : Int32} (hg : gTk v c) (hl : ¬ S_miss v.2.2.1 v.1 v.2.1 c = 0) : ∃ b, (bB v (S_miss v.2.2.1 v.1 v.2.1 c) v.2.1).1 = some b ∧ b < v.2.1 ∧ bt c b = false ∧ gTk v (c ||| bI b) := by
  have h14 := h.1
  obtain ⟨j, hj, hjb⟩ := n0_bit hl
  have hjb2 := hjb
  unfold S_miss at hjb2
  rw [b_and, b_not _ hj, Bool.and_eq_true] at hjb2
  obtain ⟨hn, ho⟩ := hjb2
  have ho2 : ¬ bt (S_or v.2.2.1 c v.2.1) j = true := fun q => by rw [q] at ho; cases ho
  obtain ⟨i, hi, hib, hij⟩ := hasC_bit hc hn hj
  have hci : ¬ bt c i = true := fun q => ho2 (or_bit.mpr ⟨i, hi, q, hij⟩)
  have hM : v.2.2.2.2 i = 0 := by
    rcases (bt_nb h hi).mp hib with q | q
    · exact q
    · exact absurd (hg i hi q) hci
  cases hb : (bB v (S_miss v.2.2.1 v.1 v.2.1 c) v.2.1).1 with
  | none =>
    exfalso
    have h0 := bB_none h v.2.1 (Nat.le_refl _) hb i hi hM
    have h1 := congrArg (fun z => bt z j) h0
    simp only [b_and, b_0, hij, hjb] at h1
    cases h1
  | some b =>
    have hbl := bB_lt v _ _ b hb
    obtain ⟨hMb, hnb⟩ := bB_some h v.2.1 b (Nat.le_refl _) hb
    refine ⟨b, rfl, hbl, ?_, fun k hk hMk => by rw [b_or, hg k hk hMk]; rfl⟩
    cases hcb : bt c b with
    | false => rfl
    | true =>
      exfalso
      obtain ⟨q, hq, hqb⟩ := n0_bit hnb
      unfold S_miss at hqb
      rw [b_and, b_and, b_not _ hq, Bool.and_eq_true, Bool.and_eq_true] at hqb
      have : bt (S_or v.2.2.1 c v.2.1) q = true := or_bit.mpr ⟨b, hbl, hcb, hqb.1⟩
      rw [this] at hqb
      exact absurd hqb.2.2 (by decide)
