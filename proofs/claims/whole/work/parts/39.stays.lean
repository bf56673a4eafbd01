/-! staysUpTo: the answer -/
theorem ring1 (x y z : Int32) : x - (y - z) = x - y + z := by
  apply Int32.toBitVec_inj.mp
  show x.toBitVec - (y.toBitVec - z.toBitVec) = x.toBitVec - y.toBitVec + z.toBitVec
  bv_omega
theorem sum_0 (P : Nat → Int32) : ∀ n, S_sum P 0 n = 0
  | 0 => rfl
  | n + 1 => by rw [S_sum, b_0, if_neg (by decide), sum_0 P n]
theorem sum_one {P : Nat → Int32} {j n : Nat} (hj : j < n) (hn : n ≤ 14) : S_sum P (bI j) n = P j := by
  have h := sum_bI (P := P) (m := 0) (i := j) (by omega) (b_0 j) n (by omega)
  rw [if_pos hj, sum_0, Int32.zero_add, Int32.zero_or] at h
  exact h
theorem min500 (G : Int32) : (if S_min 500 G < 1 then (-6 : Int32) else S_min 500 G) = (if 1 ≤ G then (if G ≤ 500 then G else 500) else -6) := by
  have e1 : (1 : Int32).toInt = 1 := by decide
  have e5 : (500 : Int32).toInt = 500 := by decide
  unfold S_min
  by_cases h5 : G < 500
  · rw [if_pos h5]
    by_cases h1 : G < 1
    · rw [if_pos h1, if_neg (Int32.not_le.mpr h1)]
    · rw [if_neg h1, if_pos (Int32.not_lt.mp h1), if_pos (by rw [Int32.lt_iff_toInt_lt] at h5; rw [Int32.le_iff_toInt_le]; omega)]
  · rw [if_neg h5, if_neg (by decide)]
    have h9 : ¬ G.toInt < 500 := fun q => h5 (by rw [Int32.lt_iff_toInt_lt]; omega)
    rw [if_pos (show (1 : Int32) ≤ G by rw [Int32.le_iff_toInt_le]; omega)]
    by_cases hle : G ≤ 500
    · rw [if_pos hle]
      rw [Int32.le_iff_toInt_le] at hle
      exact (Int32.toInt_inj.mp (by omega)).symm
    · rw [if_neg hle]
theorem stays_eq {v : StT} (hok : okS v) (z : WT) (k : Int32) : rStaysM v k = rStays v z k := by
  have h14 := hok.1
  unfold rStaysM rStays
  by_cases hs : S_is v.2.1 k = true
  · rw [if_pos hs, if_pos hs]
    obtain ⟨j, hj, rfl⟩ := S_is_t h14 hs
    rw [kN_nI (show j < 100 by omega)]
    have hR := gP_RW hok (j := j) (by omega) (2 ^ v.2.1) (Nat.le_refl _)
    rw [all_sim v.2.1 (marks hok) (UG v j), ← gP_rng hok z j _ (Nat.le_refl _), ← wN_eq hok z] at hR
    rw [show 2 ^ v.2.1 = wM v from rfl] at hR
    generalize gP v z j (wN v z) = y at hR
    obtain ⟨r1, r2⟩ := hR
    obtain ⟨-, ⟨p, hp1, hp2, hp⟩, -⟩ := hok.2.2 j hj
    unfold gPr
    rw [sum_one hj h14, ring1]
    rcases r1 with ⟨a1, a2⟩ | ⟨m, hm, a1, a2⟩
    · rw [a1, a2, if_neg (show ¬ (0 : Int32) ≤ oN none by decide), if_pos rfl]
    · obtain ⟨q, hq, hsq⟩ := sum_7 hok (nI m)
      rw [if_pos (show (0 : Int32) ≤ oN (lW v (bI j) 0 (wM v)).1 by rw [a1]; exact (nI_leI (a := 0) (b := m) (by decide) (by omega)).mpr (Nat.zero_le m))]
      rw [if_neg (show ¬ y.1 = 1000000 from fun h9 => by
        rw [a2, hsq] at h9
        have := (nI_eq (a := q) (b := 1000000) (by omega) (by decide)).mp h9
        omega), min500]
      have e : oN (lW v (bI j) 0 (wM v)).1 = nI m := by rw [a1]; rfl
      rcases r2 with ⟨b1, b2⟩ | ⟨m2, hm2, b1, b2⟩
      · have ew : msW v j = 500 := by
          unfold msW
          rw [b1, if_neg (show ¬ (0 : Int32) ≤ oN none by decide)]
        rw [ew, b2, a2, hsq, hp]
        have eg : (1000000 : Int32) - nI q + nI p = nI (1000000 - q + p) := by
          rw [show (1000000 : Int32) = nI 1000000 from rfl, pk_sub (by omega), nI_add]
        rw [eg, if_pos (show (1 : Int32) ≤ 500 by decide), if_pos (show (500 : Int32) ≤ 500 by decide), if_pos (show (1 : Int32) ≤ nI (1000000 - q + p) from (nI_leI (a := 1) (b := 1000000 - q + p) (by decide) (by omega)).mpr (by omega)), if_neg (show ¬ nI (1000000 - q + p) ≤ (500 : Int32) from fun h9 => by
          have := (nI_leI (a := 1000000 - q + p) (b := 500) (by omega) (by decide)).mp h9
          omega)]
      · have e2 : oN (lW v 0 (bI j) (wM v)).1 = nI m2 := by rw [b1]; rfl
        have ew : msW v j = y.2 - y.1 + v.2.2.2.1 j := by
          unfold msW
          rw [e, e2, if_pos (show (0 : Int32) ≤ nI m2 from (nI_leI (a := 0) (b := m2) (by decide) (by omega)).mpr (Nat.zero_le m2)), a2, b2]
        rw [ew]
  · rw [if_neg hs, if_neg hs]

