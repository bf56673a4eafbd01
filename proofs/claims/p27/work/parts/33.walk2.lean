/-! going through all masks -/
def rng {α : Type} (f : Nat → α → α) (a : Nat) : Nat → α → α
  | 0, x => x
  | k + 1, x => f (a + k) (rng f a k x)
theorem rng_add {α : Type} (f : Nat → α → α) (a k : Nat) (x : α) : ∀ l, rng f a (k + l) x = rng f (a + k) l (rng f a k x)
  | 0 => rfl
  | l + 1 => by
    show f (a + (k + l)) (rng f a (k + l) x) = f (a + k + l) (rng f (a + k) l (rng f a k x))
    rw [rng_add f a k x l, Nat.add_assoc]
theorem rng_sh {α : Type} (f : Nat → α → α) (a : Nat) (x : α) : ∀ k, rng f a k x = rng (fun m => f (a + m)) 0 k x
  | 0 => rfl
  | k + 1 => by
    show f (a + k) (rng f a k x) = f (a + (0 + k)) (rng (fun m => f (a + m)) 0 k x)
    rw [rng_sh f a x k, Nat.zero_add]
theorem rng_c {α : Type} {f g : Nat → α → α} {a : Nat} {x : α} : ∀ k, (∀ m y, m < k → f (a + m) y = g (a + m) y) → rng f a k x = rng g a k x
  | 0, _ => rfl
  | k + 1, h => by
    show f (a + k) (rng f a k x) = g (a + k) (rng g a k x)
    rw [rng_c k (fun m y hm => h m y (by omega)), h k _ (by omega)]
theorem rng_id {α : Type} {f : Nat → α → α} {a : Nat} {x : α} : ∀ k, (∀ m y, m < k → f (a + m) y = y) → rng f a k x = x
  | 0, _ => rfl
  | k + 1, h => by
    show f (a + k) (rng f a k x) = x
    rw [rng_id k (fun m y hm => h m y (by omega)), h k _ (by omega)]
/-- of the sets below k: TAKEN ones are in, BARRED ones are out -/
def EL (M : Nat → Int32) (m : Nat) : Nat → Bool
  | 0 => true
  | k + 1 => EL M m k && (if M k = 1 then m.testBit k else if M k = 2 then !(m.testBit k) else true)
/-- how many FREE sets are below k -/
def fr (M : Nat → Int32) : Nat → Nat
  | 0 => 0
  | k + 1 => fr M k + (if M k = 0 then 1 else 0)
/-- the mask that the FREE sets' number s stands for -/
def mN (M : Nat → Int32) (s : Nat) : Nat → Nat
  | 0 => 0
  | k + 1 => mN M s k + (if M k = 1 then 2 ^ k else if M k = 0 then (if s.testBit (fr M k) = true then 2 ^ k else 0) else 0)
theorem mN_lt (M : Nat → Int32) (s : Nat) : ∀ k, mN M s k < 2 ^ k
  | 0 => Nat.one_pos
  | k + 1 => by
    have h := mN_lt M s k
    have hp : 2 ^ (k + 1) = 2 ^ k + 2 ^ k := by rw [Nat.pow_succ]; omega
    rw [mN, hp]
    split
    · omega
    · split
      · split <;> omega
      · omega
theorem EL_c {M : Nat → Int32} {m m2 : Nat} : ∀ k, (∀ i, i < k → m.testBit i = m2.testBit i) → EL M m k = EL M m2 k
  | 0, _ => rfl
  | k + 1, h => by rw [EL, EL, EL_c k (fun i hi => h i (by omega)), h k (by omega)]
theorem mN_c {M : Nat → Int32} {s s2 : Nat} : ∀ k, (∀ i, i < fr M k → s.testBit i = s2.testBit i) → mN M s k = mN M s2 k
  | 0, _ => rfl
  | k + 1, h => by
    have hle : fr M k ≤ fr M (k + 1) := by rw [fr]; omega
    rw [mN, mN, mN_c k (fun i hi => h i (by omega))]
    by_cases h1 : M k = 1
    · rw [if_pos h1, if_pos h1]
    · rw [if_neg h1, if_neg h1]
      by_cases h0 : M k = 0
      · rw [if_pos h0, if_pos h0, h (fr M k) (by rw [fr, if_pos h0]; omega)]
      · rw [if_neg h0, if_neg h0]
theorem tb_lo {k m i : Nat} (h : i < k) : (2 ^ k + m).testBit i = m.testBit i := by
  rw [Nat.testBit_two_pow_add_gt h]
theorem all_sim {α : Type} {M : Nat → Int32} : ∀ (k : Nat), (∀ i, i < k → M i = 0 ∨ M i = 1 ∨ M i = 2) → ∀ (U : Nat → α → α) (x : α), rng (fun m y => if EL M m k = true then U m y else y) 0 (2 ^ k) x = rng (fun s y => U (mN M s k) y) 0 (2 ^ fr M k) x
  | 0, _, U, x => rfl
  | k + 1, hM, U, x => by
    have ih := all_sim (α := α) k (fun i hi => hM i (by omega))
    have hp : 2 ^ (k + 1) = 2 ^ k + 2 ^ k := by rw [Nat.pow_succ]; omega
    rw [hp, rng_add, Nat.zero_add, rng_sh _ (2 ^ k)]
    have hlo : ∀ m, m < 2 ^ k → m.testBit k = false := fun m hm => Nat.testBit_lt_two_pow hm
    have hhi : ∀ m, m < 2 ^ k → (2 ^ k + m).testBit k = true := fun m hm => by
      rw [Nat.testBit_two_pow_add_eq, hlo m hm]
      rfl
    rcases hM k (by omega) with h0 | h1 | h2
    · have n1 : ¬ M k = 1 := by rw [h0]; decide
      have n2 : ¬ M k = 2 := by rw [h0]; decide
      have e1 : rng (fun m y => if EL M m (k + 1) = true then U m y else y) 0 (2 ^ k) x = rng (fun m y => if EL M m k = true then U m y else y) 0 (2 ^ k) x := rng_c _ (fun m y hm => by
        rw [EL, if_neg n1, if_neg n2, Bool.and_true])
      have e2 : ∀ w, rng (fun m => (fun m y => if EL M m (k + 1) = true then U m y else y) (2 ^ k + m)) 0 (2 ^ k) w = rng (fun m y => if EL M m k = true then U (2 ^ k + m) y else y) 0 (2 ^ k) w := fun w => rng_c _ (fun m y hm => by
        rw [Nat.zero_add] 
        show (if EL M (2 ^ k + m) (k + 1) = true then _ else _) = _
        rw [EL, if_neg n1, if_neg n2, Bool.and_true, EL_c k (fun i hi => tb_lo hi)])
      rw [e1, e2, ih U x, ih (fun m => U (2 ^ k + m))]
      have hf : fr M (k + 1) = fr M k + 1 := by rw [fr, if_pos h0]
      have hpf : 2 ^ fr M (k + 1) = 2 ^ fr M k + 2 ^ fr M k := by rw [hf, Nat.pow_succ]; omega
      rw [hpf, rng_add, Nat.zero_add, rng_sh _ (2 ^ fr M k)]
      have g1 : rng (fun s y => U (mN M s k) y) 0 (2 ^ fr M k) x = rng (fun s y => U (mN M s (k + 1)) y) 0 (2 ^ fr M k) x := rng_c _ (fun s y hs => by
        rw [mN, if_neg n1, if_pos h0, Nat.zero_add, Nat.testBit_lt_two_pow hs]
        rfl)
      rw [g1]
      refine rng_c _ (fun s y hs => ?_)
      rw [Nat.zero_add]
      show U (2 ^ k + mN M s k) y = U (mN M (2 ^ fr M k + s) (k + 1)) y
      rw [mN, if_neg n1, if_pos h0, Nat.testBit_two_pow_add_eq, Nat.testBit_lt_two_pow hs, mN_c k (s := 2 ^ fr M k + s) (s2 := s) (fun i hi => tb_lo hi)]
      rw [Nat.add_comm (2 ^ k)]
      rfl
    · have hf : fr M (k + 1) = fr M k := by rw [fr, if_neg (by rw [h1]; decide)]; rfl
      have e1 : rng (fun m y => if EL M m (k + 1) = true then U m y else y) 0 (2 ^ k) x = x := rng_id _ (fun m y hm => by
        rw [Nat.zero_add]
        show (if EL M m (k + 1) = true then _ else _) = _
        rw [EL, if_pos h1, hlo m hm, Bool.and_false]
        rfl)
      have e2 : ∀ w, rng (fun m => (fun m y => if EL M m (k + 1) = true then U m y else y) (2 ^ k + m)) 0 (2 ^ k) w = rng (fun m y => if EL M m k = true then U (2 ^ k + m) y else y) 0 (2 ^ k) w := fun w => rng_c _ (fun m y hm => by
        rw [Nat.zero_add]
        show (if EL M (2 ^ k + m) (k + 1) = true then _ else _) = _
        rw [EL, if_pos h1, hhi m hm, Bool.and_true, EL_c k (fun i hi => tb_lo hi)])
      rw [e1, e2, ih (fun m => U (2 ^ k + m)), hf]
      refine rng_c _ (fun s y hs => ?_)
      rw [Nat.zero_add]
      show U (2 ^ k + mN M s k) y = U (mN M s (k + 1)) y
      rw [mN, if_pos h1, Nat.add_comm]
    · have n1 : ¬ M k = 1 := by rw [h2]; decide
      have n0 : ¬ M k = 0 := by rw [h2]; decide
      have hf : fr M (k + 1) = fr M k := by rw [fr, if_neg n0]; rfl
      have e1 : rng (fun m y => if EL M m (k + 1) = true then U m y else y) 0 (2 ^ k) x = rng (fun m y => if EL M m k = true then U m y else y) 0 (2 ^ k) x := rng_c _ (fun m y hm => by
        rw [Nat.zero_add]
        show (if EL M m (k + 1) = true then _ else _) = _
        rw [EL, if_neg n1, if_pos h2, hlo m hm, Bool.not_false, Bool.and_true])
      have e2 : ∀ w, rng (fun m => (fun m y => if EL M m (k + 1) = true then U m y else y) (2 ^ k + m)) 0 (2 ^ k) w = w := fun w => rng_id _ (fun m y hm => by
        rw [Nat.zero_add]
        show (if EL M (2 ^ k + m) (k + 1) = true then _ else _) = _
        rw [EL, if_neg n1, if_pos h2, hhi m hm, Bool.not_true, Bool.and_false]
        rfl)
      rw [e1, e2, ih U x, hf]
      refine rng_c _ (fun s y hs => ?_)
      rw [Nat.zero_add, mN, if_neg n1, if_neg n0, Nat.add_zero]
