/-! staysUpTo: class and reference are the same -/
def RWq (v : StT) (a : Int32) (b : Option Nat × Int32) : Prop := (b.1 = none ∧ a = 1000000) ∨ ∃ m, m < 16384 ∧ b = (some m, S_sum v.2.2.2.1 (nI m) v.2.1) ∧ a = S_sum v.2.2.2.1 (nI m) v.2.1
theorem RW_step {v : StT} (hok : okS v) {a : Int32} {b : Option Nat × Int32} {m : Nat} (hm : m < 16384) (h : RWq v a b) : RWq v (S_min a (S_sum v.2.2.2.1 (nI m) v.2.1)) (if oN b.1 < 0 then (some m, S_sum v.2.2.2.1 (nI m) v.2.1) else if b.2 ≤ S_sum v.2.2.2.1 (nI m) v.2.1 then b else (some m, S_sum v.2.2.2.1 (nI m) v.2.1)) := by
  obtain ⟨q, hq, hs⟩ := sum_7 hok (nI m)
  rcases h with ⟨h1, h2⟩ | ⟨m2, hm2, h1, h2⟩
  · rw [h1, h2, if_pos (show oN none < 0 by decide)]
    refine Or.inr ⟨m, hm, rfl, ?_⟩
    unfold S_min
    rw [hs, if_pos (show nI q < (1000000 : Int32) from (nI_ltI (a := q) (b := 1000000) (by omega) (by decide)).mpr (by omega))]
  · rw [h1, h2]
    dsimp only
    rw [if_neg (show ¬ oN (some m2) < 0 from nI_pos (by omega))]
    unfold S_min
    by_cases hle : S_sum v.2.2.2.1 (nI m2) v.2.1 ≤ S_sum v.2.2.2.1 (nI m) v.2.1
    · rw [if_pos hle, if_neg (Int32.not_lt.mpr hle)]
      exact Or.inr ⟨m2, hm2, rfl, rfl⟩
    · rw [if_neg hle, if_pos (Int32.not_le.mp hle)]
      exact Or.inr ⟨m, hm, rfl, rfl⟩
def UG (v : StT) (k m : Nat) (y : Int32 × Int32) : Int32 × Int32 := if S_miss v.2.2.1 v.1 v.2.1 (nI m) = 0 then (if bt (nI m) k = true then (S_min y.1 (S_sum v.2.2.2.1 (nI m) v.2.1), y.2) else (y.1, S_min y.2 (S_sum v.2.2.2.1 (nI m) v.2.1))) else y
theorem gP_rng {v : StT} (hok : okS v) (z : WT) (j : Nat) : ∀ k, k ≤ 2 ^ fr v.2.2.2.2 v.2.1 → gP v z j k = rng (fun s y => UG v j (mN v.2.2.2.2 s v.2.1) y) 0 k (1000000, 1000000)
  | 0, _ => rfl
  | k + 1, hk => by
    obtain ⟨h1, h2⟩ := lev0 hok z (s := k) (by omega)
    show _ = UG v j (mN v.2.2.2.2 (0 + k) v.2.1) _
    rw [Nat.zero_add, ← gP_rng hok z j k (by omega), gP, h2, h1.2.1, h1.1]
    rfl
theorem and_bI {x : Int32} {k : Nat} (hk : k < 32) : (x &&& bI k = bI k ↔ bt x k = true) ∧ (x &&& bI k = 0 ↔ ¬ bt x k = true) := by
  have hb : bt (bI k) k = true := by rw [bt_bI hk hk]; simp
  have key : ∀ j, j < 32 → bt (x &&& bI k) j = (bt x k && decide (j = k)) := fun j hj => by
    rw [b_and, bt_bI hk hj]
    by_cases he : j = k
    · rw [he]
    · simp [he]
  constructor
  · constructor
    · intro h
      have := congrArg (fun z => bt z k) h
      simp only [b_and, hb, Bool.and_true] at this
      exact this
    · intro h
      apply b_ext
      intro j hj
      rw [key j hj, h, bt_bI hk hj, Bool.true_and]
  · constructor
    · intro h h2
      have := congrArg (fun z => bt z k) h
      simp only [b_and, hb, b_0, h2] at this
      cases this
    · intro h
      apply b_ext
      intro j hj
      rw [key j hj, Bool.not_eq_true _ |>.mp h, b_0, Bool.false_and]
theorem gP_RW {v : StT} (hok : okS v) {j : Nat} (hj : j < 32) : ∀ k, k ≤ 2 ^ v.2.1 → RWq v (rng (fun m y => if EL v.2.2.2.2 m v.2.1 = true then UG v j m y else y) 0 k (1000000, 1000000)).1 (lW v (bI j) 0 k) ∧ RWq v (rng (fun m y => if EL v.2.2.2.2 m v.2.1 = true then UG v j m y else y) 0 k (1000000, 1000000)).2 (lW v 0 (bI j) k)
  | 0, _ => ⟨Or.inl ⟨rfl, rfl⟩, Or.inl ⟨rfl, rfl⟩⟩
  | k + 1, hk => by
    have hp := pw14 hok.1
    obtain ⟨ih1, ih2⟩ := gP_RW hok hj k (by omega)
    show RWq v (if EL v.2.2.2.2 (0 + k) v.2.1 = true then UG v j (0 + k) _ else _).1 _ ∧ RWq v (if EL v.2.2.2.2 (0 + k) v.2.1 = true then UG v j (0 + k) _ else _).2 _
    rw [Nat.zero_add]
    generalize rng (fun m y => if EL v.2.2.2.2 m v.2.1 = true then UG v j m y else y) 0 k (1000000, 1000000) = a at ih1 ih2
    have ea : ∀ y : Int32, y &&& 0 = 0 := fun y => Int32.and_zero
    obtain ⟨c1, c2⟩ := and_bI (x := nI k) hj
    rw [lW, lW, if_pos (ea _), if_pos (ea _), cov_EL hok]
    by_cases hE : EL v.2.2.2.2 k v.2.1 = true
    · rw [hE, if_pos rfl, Bool.true_and]
      unfold UG
      by_cases hm : S_miss v.2.2.1 v.1 v.2.1 (nI k) = 0
      · rw [if_pos hm, if_pos (decide_eq_true hm), if_pos (decide_eq_true hm)]
        by_cases hb : bt (nI k) j = true
        · rw [if_pos hb, if_pos (c1.mpr hb), if_neg (fun q => (c2.mp q) hb)]
          exact ⟨RW_step (m := k) hok (by omega) ih1, ih2⟩
        · rw [if_neg hb, if_neg (fun q => hb (c1.mp q)), if_pos (c2.mpr hb)]
          exact ⟨ih1, RW_step (m := k) hok (by omega) ih2⟩
      · rw [if_neg hm, if_neg (show ¬ decide (S_miss v.2.2.1 v.1 v.2.1 (nI k) = 0) = true by simp [hm]), if_neg (show ¬ decide (S_miss v.2.2.1 v.1 v.2.1 (nI k) = 0) = true by simp [hm])]
        refine ⟨?_, ?_⟩
        · split <;> exact ih1
        · split <;> exact ih2
    · rw [if_neg hE, Bool.not_eq_true _ |>.mp hE, Bool.false_and, if_neg (show ¬ false = true by decide), if_neg (show ¬ false = true by decide)]
      refine ⟨?_, ?_⟩
      · split <;> exact ih1
      · split <;> exact ih2

