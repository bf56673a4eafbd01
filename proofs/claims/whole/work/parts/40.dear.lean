/-! dearest: class and reference are the same -/
theorem min_i (a b : Int32) : (S_min a b).toInt = min a.toInt b.toInt := by
  unfold S_min
  by_cases h : b < a
  · rw [if_pos h]
    rw [Int32.lt_iff_toInt_lt] at h
    omega
  · rw [if_neg h]
    rw [Int32.lt_iff_toInt_lt] at h
    omega
theorem min_1 (a b s : Int32) : S_min (S_min a s) b = S_min (S_min a b) s := by
  apply Int32.toInt_inj.mp
  rw [min_i, min_i, min_i, min_i]
  omega
theorem min_2 (a b s : Int32) : S_min a (S_min b s) = S_min (S_min a b) s := by
  apply Int32.toInt_inj.mp
  rw [min_i, min_i, min_i, min_i]
  omega
theorem cN_1 {a : Nat} : ∀ {k : Nat}, cN a k = 1 → ∃ t, t < k ∧ a.testBit t = true ∧ ∀ j, j < k → ¬ j = t → a.testBit j = false
  | 0, h => by cases h
  | k + 1, h => by
    rw [cN] at h
    by_cases hk : a.testBit k = true
    · rw [if_pos hk] at h
      have hz := cN_z (a := a) (k := k) (by omega)
      exact ⟨k, by omega, hk, fun j hj hne => hz j (by omega)⟩
    · rw [if_neg hk] at h
      obtain ⟨t, ht, h1, h2⟩ := cN_1 (k := k) (by omega)
      refine ⟨t, by omega, h1, fun j hj hne => ?_⟩
      by_cases he : j = k
      · rw [he]; exact Bool.not_eq_true _ |>.mp hk
      · exact h2 j (by omega) hne
theorem pop_bI : ∀ t, t < 18 → popC (bI t) = 1 := by decide +kernel
theorem pop_1 {x : Int32} (h : in18 x) : popC x = 1 ↔ ∃ t, t < 18 ∧ x = bI t := by
  constructor
  · intro h0
    obtain ⟨a, ha, rfl⟩ := in18_ex h
    rw [pop_n1 ha, n1_cN 18 (Nat.le_refl _) a ha] at h0
    have hc := cN_le a 18
    obtain ⟨t, ht, h1, h2⟩ := cN_1 ((nI_eq (a := cN a 18) (b := 1) (by omega) (by decide)).mp h0)
    refine ⟨t, ht, b_ext fun j hj => ?_⟩
    rw [bt_bI (by omega) hj]
    by_cases he : j = t
    · rw [he, bt_nI _ (by omega), h1]; simp
    · rw [decide_eq_false he]
      by_cases h18 : j < 18
      · rw [bt_nI _ hj]; exact h2 j h18 he
      · exact h j (by omega) hj
  · rintro ⟨t, ht, rfl⟩
    exact pop_bI t ht
theorem tzN_bI {t : Nat} (ht : t < 18) : tzN (bI t) = t := by
  unfold tzN
  rw [tz_k t ht]
  exact nI_clamp (by omega)
theorem h1_ok {v : StT} (hok : okS v) : ∀ x : Int32, popC (v.1 &&& x) = 1 → ∃ k, k < 18 ∧ ntzC (v.1 &&& x) = nI k := fun x h => by
  obtain ⟨t, ht, he⟩ := (pop_1 (in18_andl hok.2.1)).mp h
  exact ⟨t, ht, by rw [he]; exact tz_k t ht⟩
def vT (v : StT) (t : Nat) : StT := (v.1 &&& (bI t ^^^ (-1)), v.2.1, v.2.2.1, v.2.2.2.1, v.2.2.2.2)
theorem okS_T {v : StT} (hok : okS v) (t : Nat) : okS (vT v t) := ⟨hok.1, in18_andl hok.2.1, hok.2.2⟩
theorem missT {v : StT} {x : Int32} {t : Nat} (ht : t < 18) (hn : bt v.1 t = true) : S_miss (vT v t).2.2.1 (vT v t).1 (vT v t).2.1 x = 0 ↔ S_miss v.2.2.1 v.1 v.2.1 x = 0 ∨ S_miss v.2.2.1 v.1 v.2.1 x = bI t := by
  have e : ∀ j, j < 32 → bt (S_miss (vT v t).2.2.1 (vT v t).1 (vT v t).2.1 x) j = (bt (S_miss v.2.2.1 v.1 v.2.1 x) j && !(decide (j = t))) := fun j hj => by
    unfold S_miss vT
    rw [b_and, b_and, b_and, b_not _ hj, b_not _ hj, bt_bI (by omega) hj]
    cases bt v.1 j <;> cases bt (S_or v.2.2.1 x v.2.1) j <;> cases decide (j = t) <;> rfl
  constructor
  · intro h
    by_cases hb : bt (S_miss v.2.2.1 v.1 v.2.1 x) t = true
    · refine Or.inr (b_ext fun j hj => ?_)
      rw [bt_bI (by omega) hj]
      by_cases he : j = t
      · rw [he, hb]; simp
      · have := e j hj
        rw [h, b_0, decide_eq_false he, Bool.not_false, Bool.and_true] at this
        rw [decide_eq_false he]
        exact this.symm
    · refine Or.inl (b_ext fun j hj => ?_)
      rw [b_0]
      by_cases he : j = t
      · rw [he]; exact Bool.not_eq_true _ |>.mp hb
      · have := e j hj
        rw [h, b_0, decide_eq_false he, Bool.not_false, Bool.and_true] at this
        exact this.symm
  · rintro (h | h)
    · apply b_ext
      intro j hj
      rw [e j hj, h, b_0]; rfl
    · apply b_ext
      intro j hj
      rw [e j hj, h, b_0, bt_bI (by omega) hj]
      cases decide (j = t) <;> rfl
def UD (v : StT) (m : Nat) (y : Int32 × (Nat → Int32)) : Int32 × (Nat → Int32) := if S_miss v.2.2.1 v.1 v.2.1 (nI m) = 0 then (S_min y.1 (S_sum v.2.2.2.1 (nI m) v.2.1), y.2) else if popC (S_miss v.2.2.1 v.1 v.2.1 (nI m)) = 1 then (y.1, nM y.2 (tzN (S_miss v.2.2.1 v.1 v.2.1 (nI m))) (S_sum v.2.2.2.1 (nI m) v.2.1)) else y
theorem fM_rng {v : StT} (hok : okS v) (z : WT) (h : Nat → Int32) : ∀ k, k ≤ 2 ^ fr v.2.2.2.2 v.2.1 → fM1 v z h k = rng (fun s y => UD v (mN v.2.2.2.2 s v.2.1) y) 0 k (1000000, S_fill 1000000 h 18)
  | 0, _ => rfl
  | k + 1, hk => by
    obtain ⟨h1, h2⟩ := lev0 hok z (s := k) (by omega)
    show _ = UD v (mN v.2.2.2.2 (0 + k) v.2.1) _
    rw [Nat.zero_add, ← fM_rng hok z h k (by omega), fM1, h2, h1.2.1]
    rfl
theorem fM_RW {v : StT} (hok : okS v) {t : Nat} (ht : t < 18) (hn : bt v.1 t = true) (h : Nat → Int32) : ∀ k, k ≤ 2 ^ v.2.1 → RWq v (S_min (rng (fun m y => if EL v.2.2.2.2 m v.2.1 = true then UD v m y else y) 0 k (1000000, S_fill 1000000 h 18)).1 ((rng (fun m y => if EL v.2.2.2.2 m v.2.1 = true then UD v m y else y) 0 k (1000000, S_fill 1000000 h 18)).2 t)) (lW (vT v t) 0 0 k)
  | 0, _ => Or.inl ⟨rfl, by
    show S_min 1000000 (S_fill 1000000 h 18 t) = 1000000
    rw [S_fillE, if_pos ht]
    rfl⟩
  | k + 1, hk => by
    have hp := pw14 hok.1
    have ih := fM_RW hok ht hn h k (by omega)
    show RWq v (S_min (if EL v.2.2.2.2 (0 + k) v.2.1 = true then UD v (0 + k) _ else _).1 ((if EL v.2.2.2.2 (0 + k) v.2.1 = true then UD v (0 + k) _ else _).2 t)) _
    rw [Nat.zero_add]
    generalize rng (fun m y => if EL v.2.2.2.2 m v.2.1 = true then UD v m y else y) 0 k (1000000, S_fill 1000000 h 18) = a at ih
    have ea : ∀ y : Int32, y &&& 0 = 0 := fun y => Int32.and_zero
    have hm := missT (v := v) (x := nI k) ht hn
    have hin : in18 (S_miss v.2.2.1 v.1 v.2.1 (nI k)) := in18_andl hok.2.1
    rw [lW, if_pos (ea _), if_pos (ea _), cov_EL (okS_T hok t)]
    show RWq v _ (if (EL v.2.2.2.2 k v.2.1 && _) = true then _ else _)
    by_cases hE : EL v.2.2.2.2 k v.2.1 = true
    · rw [hE, if_pos rfl, Bool.true_and]
      have st := RW_step (m := k) hok (by omega) ih
      unfold UD
      by_cases h0 : S_miss v.2.2.1 v.1 v.2.1 (nI k) = 0
      · rw [if_pos h0, if_pos (decide_eq_true (hm.mpr (Or.inl h0)))]
        show RWq v (S_min (S_min a.1 _) (a.2 t)) _
        rw [min_1]
        exact st
      · rw [if_neg h0]
        by_cases hb : S_miss v.2.2.1 v.1 v.2.1 (nI k) = bI t
        · rw [if_pos (decide_eq_true (hm.mpr (Or.inr hb))), hb, if_pos (pop_bI t ht), tzN_bI ht]
          show RWq v (S_min a.1 (upd a.2 t (S_min (a.2 t) _) t)) _
          rw [upE, if_pos rfl, min_2]
          exact st
        · rw [if_neg (show ¬ decide (S_miss (vT v t).2.2.1 (vT v t).1 (vT v t).2.1 (nI k) = 0) = true from fun q => by
            rcases hm.mp (of_decide_eq_true q) with q2 | q2
            · exact h0 q2
            · exact hb q2)]
          by_cases hp1 : popC (S_miss v.2.2.1 v.1 v.2.1 (nI k)) = 1
          · rw [if_pos hp1]
            obtain ⟨t2, ht2, he2⟩ := (pop_1 hin).mp hp1
            rw [he2, tzN_bI ht2]
            show RWq v (S_min a.1 (upd a.2 t2 _ t)) _
            rw [upE, if_neg (fun q => hb (by rw [he2, q]))]
            exact ih
          · rw [if_neg hp1]
            exact ih
    · rw [if_neg hE, Bool.not_eq_true _ |>.mp hE, Bool.false_and, if_neg (show ¬ false = true by decide)]
      exact ih
theorem hasC_T {v : StT} (hc : hasC v = true) (t : Nat) : hasC (vT v t) = true := by
  have h1 : S_miss v.2.2.1 v.1 v.2.1 (S_nb v.2.2.2.2 v.2.1) = 0 := of_decide_eq_true hc
  refine decide_eq_true ?_
  show S_miss (vT v t).2.2.1 (vT v t).1 (vT v t).2.1 (S_nb v.2.2.2.2 v.2.1) = 0
  rw [miss0] at h1 ⊢
  intro j hj hn
  refine h1 j hj ?_
  have : bt (v.1 &&& (bI t ^^^ (-1))) j = true := hn
  rw [b_and, Bool.and_eq_true] at this
  exact this.1
def RDq (a : Int32 × Int32) (b : Option Nat × Int32) : Prop := (b = (none, 0) ∧ a = (-6, 1000000)) ∨ ∃ m s q : Nat, m < 18 ∧ q ≤ 7000 ∧ b = (some m, nI q) ∧ a = (nI m, nI q) ∧ s = m
theorem dM_RD {v : StT} (hok : okS v) (hc : hasC v = true) (y : Int32 × (Nat → Int32)) (hy : ∀ t, t < 18 → bt v.1 t = true → RWq v (S_min y.1 (y.2 t)) (lW (vT v t) 0 0 (2 ^ v.2.1))) : ∀ k, k ≤ 18 → RDq (fD v y k) (dM v k) ∧ ((∃ t, t < k ∧ bt v.1 t = true) → ∃ m, (dM v k).1 = some m)
  | 0, _ => ⟨Or.inl ⟨rfl, rfl⟩, fun ⟨t, ht, _⟩ => absurd ht (Nat.not_lt_zero t)⟩
  | k + 1, hk => by
    obtain ⟨ih, ih2⟩ := dM_RD hok hc y hy k (by omega)
    rw [fD, dM]
    by_cases hn : bt v.1 k = true
    · rw [if_pos hn, if_pos hn]
      obtain ⟨q0, hq0⟩ := has_lW (okS_T hok k) (hasC_T hc k)
      have hq0 : (lW (vT v k) 0 0 (2 ^ v.2.1)).1 = some q0 := hq0
      rcases hy k (by omega) hn with ⟨r1, -⟩ | ⟨m, hm, r1, r2⟩
      · rw [hq0] at r1; cases r1
      · obtain ⟨q, hq, hs⟩ := sum_7 hok (nI m)
        have eo : S_sum v.2.2.2.1 (oN (lW (v.1 &&& (bI k ^^^ (-1)), v.2.1, v.2.2.1, v.2.2.2.1, v.2.2.2.2) 0 0 (wM (v.1 &&& (bI k ^^^ (-1)), v.2.1, v.2.2.1, v.2.2.2.1, v.2.2.2.2))).1) v.2.1 = nI q := by
          show S_sum v.2.2.2.1 (oN (lW (vT v k) 0 0 (2 ^ v.2.1)).1) v.2.1 = nI q
          rw [r1]
          exact hs
        rw [eo, r2, hs]
        rcases ih with ⟨g1, g2⟩ | ⟨m2, s2, q2, gm, gq, g1, g2, -⟩
        · rw [g1, g2]
          dsimp only
          rw [if_pos (show oN none < 0 by decide), if_neg (show ¬ (1000000 : Int32) ≤ nI q from fun h9 => by
            have := (nI_leI (a := 1000000) (b := q) (by decide) (by omega)).mp h9
            omega)]
          exact ⟨Or.inr ⟨k, k, q, by omega, hq, rfl, rfl, rfl⟩, fun _ => ⟨k, rfl⟩⟩
        · rw [g1, g2]
          dsimp only
          rw [if_neg (show ¬ oN (some m2) < 0 from nI_pos (by omega))]
          split
          · exact ⟨Or.inr ⟨m2, m2, q2, gm, gq, rfl, rfl, rfl⟩, fun _ => ⟨m2, rfl⟩⟩
          · exact ⟨Or.inr ⟨k, k, q, by omega, hq, rfl, rfl, rfl⟩, fun _ => ⟨k, rfl⟩⟩
    · rw [if_neg hn, if_neg hn]
      refine ⟨ih, fun ⟨t, ht, htn⟩ => ih2 ⟨t, ?_, htn⟩⟩
      by_cases he : t = k
      · rw [he] at htn; exact absurd htn hn
      · omega
theorem dearest_eq {v : StT} (hok : okS v) (z : WT) (h : Nat → Int32) (w : Int32) : rDearM v w = rDearest v z h w := by
  unfold rDearM rDearest
  by_cases h0 : w < 0
  · rw [if_neg (fun q => (in_low.mp q).1 h0), if_pos h0]
  · rw [if_neg h0]
    by_cases h5 : w ≤ 1
    · rw [if_pos (in_low.mpr ⟨h0, h5⟩), if_pos h5, hasM_eq hok]
      by_cases hc : hasC v = true
      · rw [if_pos hc, if_pos hc]
        have hy : ∀ t, t < 18 → bt v.1 t = true → RWq v (S_min (fM1 v z h (wN v z)).1 ((fM1 v z h (wN v z)).2 t)) (lW (vT v t) 0 0 (2 ^ v.2.1)) := fun t ht hn => by
          have := fM_RW hok ht hn h (2 ^ v.2.1) (Nat.le_refl _)
          rw [all_sim v.2.1 (marks hok) (UD v), ← fM_rng hok z h _ (Nat.le_refl _), ← wN_eq hok z] at this
          exact this
        obtain ⟨r, rs⟩ := dM_RD hok hc _ hy 18 (Nat.le_refl _)
        by_cases hz : v.1 = 0
        · rw [if_pos hz]
          have : ∀ k, dM v k = (none, 0) := fun k => by
            induction k with
            | zero => rfl
            | succ k ih => rw [dM, hz, b_0, if_neg (by decide), ih]
          rw [this, if_pos (show oN none < 0 by decide)]
          rfl
        · rw [if_neg hz]
          obtain ⟨t, ht, hb⟩ := n0_bit hz
          have h18 : t < 18 := by
            by_cases hh : t < 18
            · exact hh
            · have := hok.2.1 t (by omega) ht
              rw [this] at hb; cases hb
          obtain ⟨m, hm⟩ := rs ⟨t, h18, hb⟩
          rcases r with ⟨g1, g2⟩ | ⟨m2, s2, q2, gm, gq, g1, g2, -⟩
          · rw [g1] at hm; cases hm
          · rw [g1, g2]
            dsimp only
            rw [if_neg (show ¬ oN (some m2) < 0 from nI_pos (by omega))]
            rfl
      · rw [if_neg hc, if_neg hc]
    · rw [if_neg (fun q => h5 (in_low.mp q).2), if_neg h5]

