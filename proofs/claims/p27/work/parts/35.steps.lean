/-! the walk: its steps -/
theorem mN_bit {M : Nat → Int32} {s : Nat} : ∀ k i, i < k → (mN M s k).testBit i = (decide (M i = 1) || (decide (M i = 0) && s.testBit (fr M i)))
  | 0, i, h => absurd h (Nat.not_lt_zero i)
  | k + 1, i, h => by
    have hlt := mN_lt M s k
    have hk : (mN M s k).testBit k = false := Nat.testBit_lt_two_pow hlt
    rw [mN]
    by_cases he : i = k
    · subst he
      by_cases h1 : M i = 1
      · rw [if_pos h1, Nat.add_comm, Nat.testBit_two_pow_add_eq, hk, h1]
        rfl
      · rw [if_neg h1]
        by_cases h0 : M i = 0
        · rw [if_pos h0, h0]
          by_cases hb : s.testBit (fr M i) = true
          · rw [if_pos hb, Nat.add_comm, Nat.testBit_two_pow_add_eq, hk, hb]
            rfl
          · rw [if_neg hb, Nat.add_zero, hk]
            simp [hb]
        · rw [if_neg h0, Nat.add_zero, hk]
          simp [h1, h0]
    · have ih := mN_bit (M := M) (s := s) k i (by omega)
      have e : ∀ c : Nat, c = 2 ^ k ∨ c = 0 → (mN M s k + c).testBit i = (mN M s k).testBit i := fun c hc => by
        rcases hc with rfl | rfl
        · rw [Nat.add_comm]; exact tb_lo (by omega)
        · rfl
      rw [e _ (by
        split
        · exact Or.inl rfl
        · split
          · split
            · exact Or.inl rfl
            · exact Or.inr rfl
          · exact Or.inr rfl), ih]
theorem bt_mN {M : Nat → Int32} {s n i : Nat} (hi : i < 32) : bt (nI (mN M s n)) i = (decide (i < n) && (decide (M i = 1) || (decide (M i = 0) && s.testBit (fr M i)))) := by
  rw [bt_nI _ hi]
  by_cases h : i < n
  · rw [mN_bit n i h, decide_eq_true h, Bool.true_and]
  · rw [decide_eq_false h, Bool.false_and]
    exact Nat.testBit_lt_two_pow (Nat.lt_of_lt_of_le (mN_lt M s n) (Nat.pow_le_pow_right (by decide) (by omega)))
theorem mk_mN {M : Nat → Int32} {n : Nat} (hn : n ≤ 32) : S_mk M 1 n = nI (mN M 0 n) := by
  apply b_ext
  intro i hi
  rw [bt_mk M 1 n hn i hi, bt_mN hi, Nat.zero_testBit, Bool.and_false, Bool.or_false]
theorem fr_surj {M : Nat → Int32} {t : Nat} : ∀ n, t < fr M n → ∃ i, i < n ∧ M i = 0 ∧ fr M i = t
  | 0, h => absurd h (Nat.not_lt_zero t)
  | n + 1, h => by
    rw [fr] at h
    by_cases h0 : M n = 0
    · rw [if_pos h0] at h
      by_cases he : t = fr M n
      · exact ⟨n, by omega, h0, he.symm⟩
      · obtain ⟨i, hi, h1, h2⟩ := fr_surj (M := M) (t := t) n (by omega)
        exact ⟨i, by omega, h1, h2⟩
    · rw [if_neg h0] at h
      obtain ⟨i, hi, h1, h2⟩ := fr_surj (M := M) (t := t) n (by omega)
      exact ⟨i, by omega, h1, h2⟩
theorem fr_inj {M : Nat → Int32} {i k : Nat} (hi : M i = 0) (hk : M k = 0) (h : fr M i = fr M k) : i = k := by
  rcases Nat.lt_trichotomy i k with h1 | h1 | h1
  · have := fr_mono M (a := i + 1) k (by omega)
    rw [fr, if_pos hi] at this
    omega
  · exact h1
  · have := fr_mono M (a := k + 1) i (by omega)
    rw [fr, if_pos hk] at this
    omega
theorem tzr_q : ∀ f s, 0 < s → s < 2 ^ f → ∃ q, s = 2 ^ tzr f s * (2 * q + 1)
  | 0, s, h, h2 => by rw [Nat.pow_zero] at h2; omega
  | f + 1, s, h, h2 => by
    rw [tzr]
    by_cases h1 : s % 2 = 1
    · rw [if_pos h1]
      exact ⟨s / 2, by rw [Nat.pow_zero]; omega⟩
    · rw [if_neg h1]
      have hp : 2 ^ (f + 1) = 2 * 2 ^ f := by rw [Nat.pow_succ]; omega
      obtain ⟨q, hq⟩ := tzr_q f (s / 2) (by omega) (by omega)
      refine ⟨q, ?_⟩
      rw [Nat.pow_succ, Nat.mul_comm _ 2, Nat.mul_assoc, ← hq]
      omega
theorem tz_q {s : Nat} (h : 0 < s) (h2 : s < 16384) : ∃ q, s = 2 ^ tz s * (2 * q + 1) := by
  unfold tz
  rw [if_neg (by omega)]
  exact tzr_q 18 s h (by omega)
theorem gL_FQ {v : StT} {y : WT} {i p : Nat} (h : FQ v y i) : ∀ l, FQ v (gL y p l) i
  | 0 => h
  | l + 1 => gL_FQ h l
theorem gL_LV {v : StT} {y : WT} {p : Nat} {x : Int32} {f : Nat → Int32} {F : Nat} (hp : LV v y p x) (h : ∀ l, p < l → l ≤ F → LV v y l (f l)) : ∀ k, k ≤ p → LV v (gL y p k) p x ∧ (∀ l, l < k → LV v (gL y p k) l x) ∧ ∀ l, p < l → l ≤ F → LV v (gL y p k) l (f l)
  | 0, _ => ⟨hp, fun l hl => absurd hl (Nat.not_lt_zero l), h⟩
  | k + 1, hk => by
    obtain ⟨h1, h2, h3⟩ := gL_LV hp h k (by omega)
    refine ⟨LV_ne (by omega) h1, fun l hl => ?_, fun l hl hF => LV_ne (by omega) (h3 l hl hF)⟩
    by_cases he : l = k
    · subst he
      exact LV_cp h1
    · exact LV_ne he (h2 l (by omega))
theorem add_bI {M : Nat → Int32} {n i t s0 : Nat} (hn : n ≤ 32) (hi : i < n) (hM : M i = 0) (ht : fr M i = t) : nI (mN M (2 ^ (t + 1) * s0) n) ||| bI i = nI (mN M (2 ^ (t + 1) * s0 + 2 ^ t) n) ∧ bt (nI (mN M (2 ^ (t + 1) * s0) n)) i = false := by
  have hs : ∀ j, (2 ^ (t + 1) * s0).testBit j = (decide (t + 1 ≤ j) && s0.testBit (j - (t + 1))) := fun j => by
    rw [Nat.testBit_two_pow_mul]
  have hs2 : ∀ j, (2 ^ (t + 1) * s0 + 2 ^ t).testBit j = ((2 ^ (t + 1) * s0).testBit j || decide (j = t)) := fun j => by
    rw [Nat.testBit_two_pow_mul_add s0 (Nat.pow_lt_pow_right (by decide) (by omega)), hs]
    by_cases hj : j < t + 1
    · rw [if_pos hj, Nat.testBit_two_pow]
      rw [decide_eq_false (show ¬ t + 1 ≤ j by omega), Bool.false_and, Bool.false_or]
      exact decide_eq_decide.mpr ⟨fun q => q.symm, fun q => q.symm⟩
    · rw [if_neg hj, decide_eq_true (show t + 1 ≤ j by omega), Bool.true_and, decide_eq_false (show ¬ j = t by omega), Bool.or_false]
  constructor
  · apply b_ext
    intro j hj
    rw [b_or, bt_mN hj, bt_mN hj, bt_bI (by omega) hj, hs2]
    by_cases he : j = i
    · subst he
      rw [hM, ht]
      simp [hi]
    · rw [decide_eq_false he, Bool.or_false]
      by_cases h0 : M j = 0
      · have : ¬ fr M j = t := fun q => he (fr_inj h0 hM (q.trans ht.symm))
        rw [decide_eq_false this, Bool.or_false]
      · rw [decide_eq_false h0, Bool.false_and, Bool.false_and]
  · rw [bt_mN (by omega), hM, ht, hs, decide_eq_false (show ¬ t + 1 ≤ t by omega)]
    simp
theorem wG_sim {v : StT} (hok : okS v) (z : WT) : ∀ s, s < 2 ^ fr v.2.2.2.2 v.2.1 → FQ v (wG v z (s + 1)) v.2.1 ∧ ∀ l, l ≤ fr v.2.2.2.2 v.2.1 → LV v (wG v z (s + 1)) l (nI (mN v.2.2.2.2 (s / 2 ^ l * 2 ^ l) v.2.1))
  | 0, _ => by
    have h14 := hok.1
    have hF := fr_le v.2.2.2.2 v.2.1
    obtain ⟨h1, h2⟩ := wS_sim hok z v.2.1 (Nat.le_refl _)
    have e : wG v z 1 = wS v v.2.1 (w0 v z) := by
      show gT (wBg v z) 0 = _
      unfold gT
      rw [if_pos]
      · rfl
      · have := wBg_fr v z
        show _ ≤ 32
        omega
    rw [e]
    refine ⟨h1, fun l hl => ?_⟩
    have := h2 l (by omega)
    rw [Nat.zero_div, Nat.zero_mul, ← mk_mN (by omega)]
    exact this
  | s + 1, hs => by
    have h14 := hok.1
    have hF := fr_le v.2.2.2.2 v.2.1
    have hp14 := pw14 (k := fr v.2.2.2.2 v.2.1) (by omega)
    obtain ⟨h1, h2⟩ := wG_sim hok z s (by omega)
    obtain ⟨q, hq⟩ := tz_q (s := s + 1) (by omega) (by omega)
    show FQ v (gT (wG v z (s + 1)) (s + 1)) v.2.1 ∧ ∀ l, l ≤ _ → LV v (gT (wG v z (s + 1)) (s + 1)) l _
    generalize hy : wG v z (s + 1) = y at h1 h2
    generalize htz : tz (s + 1) = t at hq
    have htF : t < fr v.2.2.2.2 v.2.1 := by
      by_cases hh : t < fr v.2.2.2.2 v.2.1
      · exact hh
      · exfalso
        have a1 := Nat.pow_le_pow_right (n := 2) (by decide) (show fr v.2.2.2.2 v.2.1 ≤ t by omega)
        have a2 : 2 ^ t * 1 ≤ 2 ^ t * (2 * q + 1) := Nat.mul_le_mul_left _ (by omega)
        omega
    have e : gT y (s + 1) = gL (jn y t (t + 1) (y.2.2.2.2.1 t) (y.2.2.1 t) (y.2.2.2.1 t)) t t := by
      unfold gT
      rw [htz, if_neg (by rw [h1.1]; omega), if_neg (by omega)]
    rw [e]
    obtain ⟨i, hi, hM, hfi⟩ := fr_surj (M := v.2.2.2.2) v.2.1 htF
    obtain ⟨g1, g2, g3⟩ := h1.2 i hi hM
    rw [hfi] at g1 g2 g3
    rw [g1, g2, g3]
    have hpt : 2 ^ (t + 1) = 2 ^ t + 2 ^ t := by rw [Nat.pow_succ]; omega
    have hs1 : s + 1 = 2 ^ (t + 1) * q + 2 ^ t := by
      rw [hq, Nat.mul_add, Nat.mul_one, Nat.pow_succ, Nat.mul_assoc]
    have hpos := Nat.two_pow_pos t
    have hdiv : s / 2 ^ (t + 1) = q := by
      have : s = 2 ^ t - 1 + 2 ^ (t + 1) * q := by omega
      rw [this, Nat.add_mul_div_left _ _ (Nat.two_pow_pos (t + 1)), Nat.div_eq_of_lt (by omega), Nat.zero_add]
    have hup := h2 (t + 1) (by omega)
    rw [hdiv, Nat.mul_comm q] at hup
    obtain ⟨b1, b2⟩ := add_bI (n := v.2.1) (s0 := q) (by omega) hi hM hfi
    have hJ := LV_jn (l := t) hok hup hi b2
    rw [b1, ← hs1] at hJ
    have hnd : ∀ l, t < l → (s + 1) / 2 ^ l * 2 ^ l = s / 2 ^ l * 2 ^ l := fun l hl => by
      have hm : ¬ 2 ^ l ∣ s + 1 := fun hd => by
        have h3 : 2 ^ (t + 1) ∣ s + 1 := Nat.dvd_trans (Nat.pow_dvd_pow 2 hl) hd
        rw [hs1] at h3
        have h4 : 2 ^ (t + 1) ∣ 2 ^ t := (Nat.dvd_add_right (Nat.dvd_mul_right _ _)).mp h3
        have := Nat.le_of_dvd hpos h4
        omega
      rw [Nat.succ_div_of_not_dvd hm]
    obtain ⟨c1, c2, c3⟩ := gL_LV (F := fr v.2.2.2.2 v.2.1) (f := fun l => nI (mN v.2.2.2.2 (s / 2 ^ l * 2 ^ l) v.2.1)) hJ (fun l hl hlF => LV_ne (by omega) (h2 l hlF)) t (Nat.le_refl _)
    refine ⟨gL_FQ (y := jn y t (t + 1) (bI i) (v.2.2.1 i) (v.2.2.2.1 i)) h1 t, fun l hl => ?_⟩
    have hself : l ≤ t → (s + 1) / 2 ^ l * 2 ^ l = s + 1 := fun hle => Nat.div_mul_cancel (Nat.dvd_trans (Nat.pow_dvd_pow 2 hle) (by rw [hq]; exact Nat.dvd_mul_right _ _))
    rcases Nat.lt_trichotomy l t with hlt | hlt | hlt
    · rw [hself (by omega)]
      exact c2 l hlt
    · subst hlt
      rw [hself (Nat.le_refl _)]
      exact c1
    · rw [hnd l hlt]
      exact c3 l hlt hl
