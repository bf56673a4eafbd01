/-! the count of bits is the sum -/
def S_size (x : Int32) : Nat → Int32
  | 0 => 0
  | k + 1 => S_size x k + jb (bt x k)
theorem chkA_all {a : Nat} : ∀ {n : Nat}, chkA a n = true → ∀ b, b < n → chk (256 * a + b) = true
  | 0, _, b, hb => absurd hb (Nat.not_lt_zero b)
  | n + 1, h, b, hb => by
    rw [chkA, Bool.and_eq_true] at h
    by_cases he : b = n
    · rw [he]; exact h.1
    · exact chkA_all h.2 b (by omega)
theorem chkB_all : ∀ {n : Nat}, chkB n = true → ∀ a, a < n → chkA a 256 = true
  | 0, _, a, ha => absurd ha (Nat.not_lt_zero a)
  | n + 1, h, a, ha => by
    rw [chkB, Bool.and_eq_true] at h
    by_cases he : a = n
    · rw [he]; exact h.1
    · exact chkB_all h.2 a (by omega)
theorem n1_s {m : Nat} (h : m < 131072) : n1 (2 * m) = n1 m ∧ n1 (2 * m + 1) = n1 m + 1 := by
  have h1 := chkA_all (chkB_all chk_all (m / 256) (by omega)) (m % 256) (Nat.mod_lt _ (by decide))
  rw [show 256 * (m / 256) + m % 256 = m by omega] at h1
  unfold chk at h1
  rw [Bool.and_eq_true] at h1
  exact ⟨Nat.eq_of_beq_eq_true h1.1, Nat.eq_of_beq_eq_true h1.2⟩
def cN (a : Nat) : Nat → Nat
  | 0 => 0
  | k + 1 => cN a k + (if a.testBit k = true then 1 else 0)
theorem cN_2 (m b : Nat) (hb : b < 2) : ∀ k, cN (2 * m + b) (k + 1) = b + cN m k
  | 0 => by
    show 0 + (if (2 * m + b).testBit 0 = true then 1 else 0) = b + 0
    rw [Nat.testBit_zero]
    rcases (show b = 0 ∨ b = 1 by omega) with rfl | rfl
    · simp
    · have : (2 * m + 1) % 2 = 1 := by omega
      simp [this]
  | k + 1 => by
    rw [cN, cN_2 m b hb k, cN]
    have e : (2 * m + b).testBit (k + 1) = m.testBit k := by
      rw [Nat.testBit_succ, show (2 * m + b) / 2 = m by omega]
    rw [e]
    omega
theorem n1_cN : ∀ k, k ≤ 18 → ∀ a, a < 2 ^ k → n1 a = cN a k
  | 0, _, a, ha => by
    have : a = 0 := by rw [Nat.pow_zero] at ha; omega
    subst this
    decide
  | k + 1, hk, a, ha => by
    have hp : 2 ^ (k + 1) = 2 * 2 ^ k := by rw [Nat.pow_succ]; omega
    have h17 : 2 ^ k ≤ 131072 := (Nat.pow_le_pow_right (n := 2) (by decide) (by omega : k ≤ 17) : 2 ^ k ≤ 2 ^ 17)
    have ih := n1_cN k (by omega) (a / 2) (by omega)
    have h2 := n1_s (m := a / 2) (by omega)
    have h3 := cN_2 (a / 2) (a % 2) (Nat.mod_lt _ (by decide)) k
    rw [show 2 * (a / 2) + a % 2 = a by omega] at h3
    rw [h3]
    rcases (show a % 2 = 0 ∨ a % 2 = 1 by omega) with h | h
    · rw [h, Nat.zero_add, ← ih, ← h2.1]
      exact congrArg n1 (by omega)
    · rw [h, Nat.add_comm, ← ih, ← h2.2]
      exact congrArg n1 (by omega)
theorem ush_nI {a k : Nat} (ha : a < 2 ^ 32) (hk : k < 32) : ((nI a).toUInt32 >>> ((nI k).toUInt32 &&& Int32.toUInt32 31)).toInt32 = nI (Nat.shiftRight a k) := by
  apply b_ext
  intro i hi
  rw [b_ushr k hk, bt_nI _ hi]
  show _ = (a >>> k).testBit i
  rw [Nat.testBit_shiftRight]
  by_cases h : k + i < 32
  · rw [bt_nI _ h]
  · rw [b_big (by omega)]
    exact (Nat.testBit_lt_two_pow (Nat.lt_of_lt_of_le ha (Nat.pow_le_pow_right (by decide) (by omega)))).symm
theorem and_nI (a b : Nat) : nI a &&& nI b = nI (Nat.land a b) := by
  apply b_ext
  intro i hi
  rw [b_and, bt_nI _ hi, bt_nI _ hi, bt_nI _ hi]
  show _ = (a &&& b).testBit i
  rw [Nat.testBit_and]
theorem land_l (a b : Nat) : Nat.land a b ≤ a := Nat.and_le_left
theorem shr_l (a k : Nat) : Nat.shiftRight a k ≤ a := Nat.shiftRight_le a k
theorem pop_n1 {a : Nat} (ha : a < 262144) : popC (nI a) = nI (n1 a) := by
  have l1 := land_l (Nat.shiftRight a 1) 1431655765
  have l2 := shr_l a 1
  have e1 : P1 (nI a) = nI (a - Nat.land (Nat.shiftRight a 1) 1431655765) := by
    unfold P1
    rw [show (1 : Int32) = nI 1 from rfl, ush_nI (by omega) (by decide), show (1431655765 : Int32) = nI 1431655765 from rfl, and_nI, pk_sub (by omega)]
  unfold n1
  rw [fz_eq]
  unfold popC
  rw [e1]
  generalize hx : a - Nat.land (Nat.shiftRight a 1) 1431655765 = x
  have hx2 : x < 262144 := by omega
  have m1 := land_l x 858993459
  have m2 := land_l (Nat.shiftRight x 2) 858993459
  have m3 := shr_l x 2
  have e2 : P2 (nI x) = nI (Nat.land x 858993459 + Nat.land (Nat.shiftRight x 2) 858993459) := by
    unfold P2
    rw [show (2 : Int32) = nI 2 from rfl, ush_nI (by omega) (by decide), show (858993459 : Int32) = nI 858993459 from rfl, and_nI, and_nI, nI_add]
  unfold n2
  rw [fz_eq, e2]
  generalize hy : Nat.land x 858993459 + Nat.land (Nat.shiftRight x 2) 858993459 = y
  have hy2 : y < 524288 := by omega
  have o1 := shr_l y 4
  have o2 := land_l (y + Nat.shiftRight y 4) 252645135
  have e3 : P3 (nI y) = nI (Nat.land (y + Nat.shiftRight y 4) 252645135) := by
    unfold P3
    rw [show (4 : Int32) = nI 4 from rfl, ush_nI (by omega) (by decide), show (252645135 : Int32) = nI 252645135 from rfl, nI_add, and_nI]
  unfold n3
  rw [fz_eq, e3]
  generalize hz : Nat.land (y + Nat.shiftRight y 4) 252645135 = z
  have hz2 : z < 1048576 := by omega
  have q1 := shr_l z 8
  have e4 : P4 (nI z) = nI (z + Nat.shiftRight z 8) := by
    unfold P4
    rw [show (8 : Int32) = nI 8 from rfl, ush_nI (by omega) (by decide), nI_add]
  unfold n4
  rw [fz_eq, e4]
  generalize hw : z + Nat.shiftRight z 8 = w
  have hw2 : w < 2097152 := by omega
  unfold P5 n5
  rw [show (16 : Int32) = nI 16 from rfl, ush_nI (by omega) (by decide), nI_add, show (63 : Int32) = nI 63 from rfl, and_nI]
theorem size_cN {a : Nat} : ∀ k, k ≤ 32 → S_size (nI a) k = nI (cN a k)
  | 0, _ => rfl
  | k + 1, hk => by
    rw [S_size, size_cN k (by omega), bt_nI _ (by omega), cN]
    by_cases h : a.testBit k = true
    · rw [if_pos h, h]
      exact nI_add _ 1
    · rw [if_neg h, Bool.not_eq_true _ |>.mp h]
      exact nI_add _ 0
theorem cN_le (a : Nat) : ∀ k, cN a k ≤ k
  | 0 => Nat.le_refl 0
  | k + 1 => by
    have := cN_le a k
    rw [cN]
    split <;> omega
theorem in18_ex {x : Int32} (h : in18 x) : ∃ a : Nat, a < 262144 ∧ x = nI a := by
  have e : x = nI x.toBitVec.toNat := by
    apply Int32.toBitVec_inj.mp
    show x.toBitVec = BitVec.ofNat 32 x.toBitVec.toNat
    rw [BitVec.ofNat_toNat, BitVec.setWidth_eq]
  refine ⟨x.toBitVec.toNat, ?_, e⟩
  refine (Nat.lt_pow_two_of_testBit (n := 18) _ (fun i hi => ?_) : _ < 2 ^ 18)
  by_cases h32 : i < 32
  · have := h i hi h32
    rw [e, bt_nI _ h32] at this
    exact this
  · exact Nat.testBit_lt_two_pow (Nat.lt_of_lt_of_le x.toBitVec.isLt (Nat.pow_le_pow_right (by decide) (by omega)))
theorem pop_size {x : Int32} (h : in18 x) : popC x = S_size x 18 := by
  obtain ⟨a, ha, rfl⟩ := in18_ex h
  rw [pop_n1 ha, size_cN 18 (by decide), n1_cN 18 (Nat.le_refl _) a ha]
theorem size_ex {x : Int32} (h : in18 x) : ∃ c : Nat, c ≤ 18 ∧ S_size x 18 = nI c := by
  obtain ⟨a, ha, rfl⟩ := in18_ex h
  exact ⟨cN a 18, cN_le a 18, size_cN 18 (by decide)⟩
theorem in18_andl {x y : Int32} (h : in18 x) : in18 (x &&& y) := fun j h1 h2 => by rw [b_and, h j h1 h2]; rfl
theorem in18_andr {x y : Int32} (h : in18 y) : in18 (x &&& y) := fun j h1 h2 => by rw [b_and, h j h1 h2, Bool.and_false]
theorem sw_18 (T : Nat → Int32) (t n : Nat) (hn : n ≤ 14) : in18 (S_sw T t n) := fun j h1 h2 => by
  rw [bt_sw T t n (by omega) j h2]
  simp
  omega
