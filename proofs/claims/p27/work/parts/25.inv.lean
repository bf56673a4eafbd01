/-! what holds of a State at all times; bits of the masks -/
theorem or0 (x : Int32) : x ||| 0 = x := by
  apply b_ext
  intro i hi
  rw [b_or, b_0, Bool.or_false]
theorem add0 (x : Int32) : x + 0 = x := Int32.add_zero x
theorem nI_n6 {n : Nat} (h : n < 100) : ¬ nI n = -6 := fun h9 => by
  have := congrArg Int32.toInt h9
  rw [nI_toInt (by omega), show (-6 : Int32).toInt = -6 from by decide] at this
  omega
def in18 (x : Int32) : Prop := ∀ j, 18 ≤ j → j < 32 → bt x j = false
def okS (v : StT) : Prop := v.2.1 ≤ 14 ∧ in18 v.1 ∧ ∀ i, i < v.2.1 → in18 (v.2.2.1 i) ∧ (∃ p : Nat, 1 ≤ p ∧ p ≤ 500 ∧ v.2.2.2.1 i = nI p) ∧ (v.2.2.2.2 i = 0 ∨ v.2.2.2.2 i = 1 ∨ v.2.2.2.2 i = 2)
theorem bt_nI (a : Nat) {j : Nat} (hj : j < 32) : bt (nI a) j = a.testBit j := by
  show (BitVec.ofNat 32 a).getLsbD j = _
  rw [BitVec.getLsbD_ofNat]
  simp [hj]
theorem in18_nI {a : Nat} (h : a < 262144) : in18 (nI a) := fun j h1 h2 => by
  rw [bt_nI a h2]
  exact Nat.testBit_lt_two_pow (Nat.lt_of_lt_of_le h (Nat.pow_le_pow_right (n := 2) (by decide) h1 : 2 ^ 18 ≤ 2 ^ j))
theorem in18_le {x : Int32} (h0 : ¬ x < 0) (h : x ≤ 262143) : in18 x := by
  obtain ⟨a, ha, rfl⟩ := nI_of h0
  have := (nI_leI (a := a) (b := 262143) ha (by decide)).mp h
  exact in18_nI (by omega)
theorem okNeed_18 {i : Int32} (h : okNeed i = true) : in18 i := in18_le (of_decide_eq_true h).1 (of_decide_eq_true h).2
theorem things_18 {i : Int32} (h : S_things i = true) : in18 i := by
  obtain ⟨h1, h2⟩ := of_decide_eq_true h
  refine in18_le (fun h3 => h1 ?_) (Int32.not_lt.mp h2)
  rw [Int32.lt_iff_toInt_lt] at h3 ⊢
  have e0 : (0 : Int32).toInt = 0 := by decide
  have e1 : (1 : Int32).toInt = 1 := by decide
  omega
theorem price_p {x : Int32} (h : S_price x = true) : ∃ p : Nat, 1 ≤ p ∧ p ≤ 500 ∧ x = nI p := by
  obtain ⟨h1, h2⟩ := of_decide_eq_true h
  have h0 : ¬ x < 0 := fun h3 => h1 (by
    rw [Int32.lt_iff_toInt_lt] at h3 ⊢
    have e0 : (0 : Int32).toInt = 0 := by decide
    have e1 : (1 : Int32).toInt = 1 := by decide
    omega)
  obtain ⟨j, hj, rfl⟩ := nI_of h0
  refine ⟨j, ?_, ?_, rfl⟩
  · exact Nat.le_of_not_lt (fun q => h1 ((nI_ltI (a := j) (b := 1) hj (by decide)).mpr q))
  · exact Nat.le_of_not_lt (fun q => h2 ((nI_ltI (a := 500) (b := j) (by decide) hj).mpr q))
theorem mk_3 {x : Int32} (h : okMk x = true) : x = 0 ∨ x = 1 ∨ x = 2 := by
  obtain ⟨h1, h2⟩ := of_decide_eq_true h
  obtain ⟨j, hj, rfl⟩ := nI_of h1
  have h3 := (nI_leI (a := j) (b := 2) hj (by decide)).mp h2
  rcases (show j = 0 ∨ j = 1 ∨ j = 2 by omega) with rfl | rfl | rfl
  · exact Or.inl rfl
  · exact Or.inr (Or.inl rfl)
  · exact Or.inr (Or.inr rfl)
theorem in18_xor {x y : Int32} (hx : in18 x) (hy : in18 y) : in18 (x ^^^ y) := fun j h1 h2 => by rw [b_xor, hx j h1 h2, hy j h1 h2]; rfl
theorem upE (f : Nat → Int32) (k : Nat) (v : Int32) (j : Nat) : upd f k v j = if j = k then v else f j := rfl
theorem okS_z : okS (0, 0, fun _ => 0, fun _ => 0, fun _ => 0) := ⟨Nat.zero_le 14, fun j _ _ => b_0 j, fun i h => absurd h (Nat.not_lt_zero i)⟩
theorem okS_need {v : StT} {i : Int32} (h : okS v) : okS (mV (okNeed i) v (vNeed v i)) := by
  cases hb : okNeed i with
  | false => exact h
  | true => exact ⟨h.1, okNeed_18 hb, h.2.2⟩
theorem okS_add {v : StT} {x p : Int32} (h : okS v) (hn : v.2.1 < 14) (hx : in18 x) (hp : ∃ q : Nat, 1 ≤ q ∧ q ≤ 500 ∧ p = nI q) : okS (vSet v x p) := by
  refine ⟨by show v.2.1 + 1 ≤ 14; omega, h.2.1, fun i hi => ?_⟩
  have hi : i < v.2.1 + 1 := hi
  show in18 (upd v.2.2.1 v.2.1 x i) ∧ (∃ q : Nat, 1 ≤ q ∧ q ≤ 500 ∧ upd v.2.2.2.1 v.2.1 p i = nI q) ∧ (upd v.2.2.2.2 v.2.1 0 i = 0 ∨ upd v.2.2.2.2 v.2.1 0 i = 1 ∨ upd v.2.2.2.2 v.2.1 0 i = 2)
  rw [upE, upE, upE]
  by_cases he : i = v.2.1
  · rw [if_pos he, if_pos he, if_pos he]
    exact ⟨hx, hp, Or.inl rfl⟩
  · rw [if_neg he, if_neg he, if_neg he]
    exact h.2.2 i (by omega)
theorem okS_set {v : StT} {i p : Int32} (h : okS v) : okS (mV (okSet v i p) v (vSet v i p)) := by
  cases hb : okSet v i p with
  | false => exact h
  | true =>
    unfold okSet at hb
    simp only [Bool.and_eq_true, decide_eq_true_eq] at hb
    exact okS_add h hb.2.2 (things_18 hb.1) (price_p hb.2.1)
theorem okS_price {v : StT} {k p : Int32} (h : okS v) : okS (mV (okPrice v k p) v (vPrice v k p)) := by
  cases hb : okPrice v k p with
  | false => exact h
  | true =>
    unfold okPrice at hb
    simp only [Bool.and_eq_true] at hb
    refine ⟨h.1, h.2.1, fun i hi => ⟨(h.2.2 i hi).1, ?_, (h.2.2 i hi).2.2⟩⟩
    show ∃ q : Nat, 1 ≤ q ∧ q ≤ 500 ∧ upd v.2.2.2.1 (kN k) p i = nI q
    rw [upE]
    split
    · exact price_p hb.2
    · exact (h.2.2 i hi).2.1
theorem okS_mark {v : StT} {k m : Int32} (h : okS v) : okS (mV (okMark v k m) v (vMark v k m)) := by
  cases hb : okMark v k m with
  | false => exact h
  | true =>
    unfold okMark at hb
    simp only [Bool.and_eq_true] at hb
    refine ⟨h.1, h.2.1, fun i hi => ⟨(h.2.2 i hi).1, (h.2.2 i hi).2.1, ?_⟩⟩
    show upd v.2.2.2.2 (kN k) m i = 0 ∨ upd v.2.2.2.2 (kN k) m i = 1 ∨ upd v.2.2.2.2 (kN k) m i = 2
    rw [upE]
    split
    · exact mk_3 hb.2
    · exact (h.2.2 i hi).2.2
theorem okS_turn {v : StT} {k x : Int32} (h : okS v) : okS (mV (okTurn v k x) v (vTurn v k x)) := by
  cases hb : okTurn v k x with
  | false => exact h
  | true =>
    unfold okTurn at hb
    simp only [Bool.and_eq_true] at hb
    obtain ⟨j, hj, rfl⟩ := S_is_t h.1 hb.1
    have hk : kN (nI j) = j := kN_nI (by have := h.1; omega)
    refine ⟨h.1, h.2.1, fun i hi => ⟨?_, (h.2.2 i hi).2.1, (h.2.2 i hi).2.2⟩⟩
    show in18 (upd v.2.2.1 (kN (nI j)) (v.2.2.1 (kN (nI j)) ^^^ x) i)
    rw [upE, hk]
    split
    · exact in18_xor (h.2.2 j hj).1 (things_18 hb.2.1)
    · exact (h.2.2 i hi).1
theorem S_rmE (f : Nat → Int32) (k i j : Nat) : S_rm f k i j = if k ≤ j ∧ j + 1 < i then f (j + 1) else f j := rfl
theorem okS_drop {v : StT} {k : Int32} (h : okS v) : okS (mV (okDrop v k) v (vDrop v k)) := by
  cases hb : okDrop v k with
  | false => exact h
  | true =>
    obtain ⟨j, hj, rfl⟩ := S_is_t h.1 hb
    have hk : kN (nI j) = j := kN_nI (by have := h.1; omega)
    refine ⟨by show v.2.1 - 1 ≤ 14; have := h.1; omega, h.2.1, fun i hi => ?_⟩
    have hi : i < v.2.1 - 1 := hi
    show in18 (S_rm v.2.2.1 (kN (nI j)) v.2.1 i) ∧ (∃ q : Nat, 1 ≤ q ∧ q ≤ 500 ∧ S_rm v.2.2.2.1 (kN (nI j)) v.2.1 i = nI q) ∧ (S_rm v.2.2.2.2 (kN (nI j)) v.2.1 i = 0 ∨ S_rm v.2.2.2.2 (kN (nI j)) v.2.1 i = 1 ∨ S_rm v.2.2.2.2 (kN (nI j)) v.2.1 i = 2)
    rw [hk, S_rmE, S_rmE, S_rmE]
    split
    · exact h.2.2 (i + 1) (by omega)
    · exact h.2.2 i (by omega)
theorem bt_mk (M : Nat → Int32) (k : Int32) : ∀ n, n ≤ 32 → ∀ j, j < 32 → bt (S_mk M k n) j = (decide (j < n) && decide (M j = k))
  | 0, _, j, _ => by rw [S_mk, b_0]; simp
  | n + 1, hn, j, hj => by
    have ih := bt_mk M k n (by omega) j hj
    rw [S_mk]
    by_cases h : M n = k
    · rw [if_pos h, b_or, ih, bt_bI (by omega) hj]
      by_cases he : j = n
      · subst he
        simp [h]
      · have e : decide (j < n + 1) = decide (j < n) := decide_eq_decide.mpr (by omega)
        rw [e]
        simp [he]
    · rw [if_neg h, ih]
      by_cases he : j = n
      · subst he
        simp [h]
      · have e : decide (j < n + 1) = decide (j < n) := decide_eq_decide.mpr (by omega)
        rw [e]
theorem bt_sw (T : Nat → Int32) (t : Nat) : ∀ n, n ≤ 32 → ∀ j, j < 32 → bt (S_sw T t n) j = (decide (j < n) && bt (T j) t)
  | 0, _, j, _ => by rw [S_sw, b_0]; simp
  | n + 1, hn, j, hj => by
    have ih := bt_sw T t n (by omega) j hj
    rw [S_sw]
    by_cases h : bt (T n) t = true
    · rw [if_pos h, b_or, ih, bt_bI (by omega) hj]
      by_cases he : j = n
      · subst he
        simp [h]
      · have e : decide (j < n + 1) = decide (j < n) := decide_eq_decide.mpr (by omega)
        rw [e]
        simp [he]
    · rw [if_neg h, ih]
      by_cases he : j = n
      · subst he
        simp [h]
      · have e : decide (j < n + 1) = decide (j < n) := decide_eq_decide.mpr (by omega)
        rw [e]
theorem bt_pw {n j : Nat} (hn : n ≤ 14) (hj : j < 32) : bt (nI (2 ^ n) - 1) j = decide (j < n) := by
  have e : nI (2 ^ n) - 1 = nI (2 ^ n - 1) := pk_sub (a := 2 ^ n) (b := 1) (Nat.two_pow_pos n)
  rw [e, bt_nI _ hj, Nat.testBit_two_pow_sub_one]
