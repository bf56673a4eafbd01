/-! tightCovers: class and reference are the same -/
theorem miss0 {v : StT} {x : Int32} : S_miss v.2.2.1 v.1 v.2.1 x = 0 ↔ ∀ j, j < 32 → bt v.1 j = true → ∃ i, i < v.2.1 ∧ bt x i = true ∧ bt (v.2.2.1 i) j = true := by
  unfold S_miss
  constructor
  · intro h j hj hn
    have b3 := congrArg (fun z => bt z j) h
    simp only [b_and, b_not _ hj, b_0, hn, Bool.true_and] at b3
    refine or_bit.mp ?_
    cases hq : bt (S_or v.2.2.1 x v.2.1) j with
    | true => rfl
    | false => rw [hq] at b3; cases b3
  · intro h
    apply b_ext
    intro j hj
    rw [b_and, b_not _ hj, b_0]
    cases hn : bt v.1 j with
    | false => rfl
    | true => rw [or_bit.mpr (h j hj hn)]; rfl
theorem bt_out {x : Int32} {i k : Nat} (hi : i < 32) (hk : k < 32) : bt (x &&& (bI i ^^^ (-1))) k = true ↔ bt x k = true ∧ ¬ k = i := by
  rw [b_and, b_not _ hk, bt_bI hi hk, Bool.and_eq_true]
  simp
theorem clM_iff {v : StT} {x : Int32} : ∀ n, clM v x n = true ↔ ∃ i, i < n ∧ bt x i = true ∧ S_cov v.2.2.1 v.2.2.2.2 v.1 v.2.1 (x &&& (bI i ^^^ (-1))) = true
  | 0 => by
    constructor
    · intro h; cases h
    · rintro ⟨i, hi, -⟩; omega
  | n + 1 => by
    rw [clM, Bool.or_eq_true, Bool.and_eq_true, clM_iff n]
    constructor
    · rintro (⟨i, hi, h1, h2⟩ | ⟨h1, h2⟩)
      · exact ⟨i, by omega, h1, h2⟩
      · exact ⟨n, by omega, h1, h2⟩
    · rintro ⟨i, hi, h1, h2⟩
      by_cases he : i = n
      · subst he; exact Or.inr ⟨h1, h2⟩
      · exact Or.inl ⟨i, by omega, h1, h2⟩
theorem nSp_iff (w : WT) : ∀ n, nSp w n = true ↔ ∀ k, k < n → nSb w k = true
  | 0 => ⟨fun _ k h => absurd h (Nat.not_lt_zero k), fun _ => rfl⟩
  | n + 1 => by
    rw [nSp, Bool.and_eq_true, nSp_iff w n]
    constructor
    · rintro ⟨h1, h2⟩ k hk
      by_cases he : k = n
      · rw [he]; exact h2
      · exact h1 k (by omega)
    · intro h
      exact ⟨fun k hk => h k (by omega), h n (by omega)⟩
/-- a cover without one of its FREE sets -/
theorem cov_out {v : StT} (hok : okS v) {x : Int32} (hx : S_cov v.2.2.1 v.2.2.2.2 v.1 v.2.1 x = true) {i : Nat} (hi : i < v.2.1) (hb : bt x i = true) : S_cov v.2.2.1 v.2.2.2.2 v.1 v.2.1 (x &&& (bI i ^^^ (-1))) = true ↔ v.2.2.2.2 i = 0 ∧ ∀ j, j < 32 → bt v.1 j = true → bt (v.2.2.1 i) j = true → ∃ a b, a < v.2.1 ∧ b < v.2.1 ∧ ¬ a = b ∧ bt x a = true ∧ bt x b = true ∧ bt (v.2.2.1 a) j = true ∧ bt (v.2.2.1 b) j = true := by
  have h14 := hok.1
  unfold S_cov at hx ⊢
  rw [Bool.and_eq_true, Bool.and_eq_true, decide_eq_true_eq, decide_eq_true_eq, decide_eq_true_eq] at hx ⊢
  obtain ⟨h1, h2, h3⟩ := hx
  rw [miss0] at h3
  constructor
  · rintro ⟨g1, g2, g3⟩
    rw [miss0] at g3
    have hM : v.2.2.2.2 i = 0 := by
      rcases marks hok i hi with q | q | q
      · exact q
      · exfalso
        have b1 := congrArg (fun z => bt z i) g1
        have hm : bt (S_mk v.2.2.2.2 1 v.2.1) i = true := by rw [bt_mk _ _ _ (by omega) i (by omega), q]; simp [hi]
        simp only [b_and, hm, Bool.and_true] at b1
        have := (bt_out (x := x) (i := i) (k := i) (by omega) (by omega)).mp (by rw [b_and]; exact b1)
        exact this.2 rfl
      · exfalso
        have b2 := congrArg (fun z => bt z i) h2
        have hm : bt (S_mk v.2.2.2.2 2 v.2.1) i = true := by rw [bt_mk _ _ _ (by omega) i (by omega), q]; simp [hi]
        simp only [b_and, hm, hb, b_0] at b2
        cases b2
    refine ⟨hM, fun j hj hn hij => ?_⟩
    obtain ⟨k, hk, hkx, hkj⟩ := g3 j hj hn
    obtain ⟨k1, k2⟩ := (bt_out (by omega) (by omega)).mp hkx
    exact ⟨i, k, hi, hk, fun q => k2 q.symm, hb, k1, hij, hkj⟩
  · rintro ⟨hM, hall⟩
    refine ⟨?_, ?_, ?_⟩
    · apply b_iff
      intro k hk
      rw [b_and, Bool.and_eq_true, bt_out (by omega) hk]
      have b1 := congrArg (fun z => bt z k) h1
      simp only [b_and] at b1
      constructor
      · rintro ⟨-, q⟩; exact q
      · intro q
        rw [q, Bool.and_true] at b1
        refine ⟨⟨b1, fun he => ?_⟩, q⟩
        subst he
        rw [bt_mk _ _ _ (by omega) k hk, hM] at q
        simp at q
    · apply b_ext
      intro k hk
      have b2 := congrArg (fun z => bt z k) h2
      simp only [b_and, b_0] at b2
      rw [b_and, b_and, b_0]
      cases hq : bt x k with
      | false => simp
      | true =>
        rw [hq, Bool.true_and] at b2
        rw [b2, Bool.and_false]
    · rw [miss0]
      intro j hj hn
      obtain ⟨k, hk, hkx, hkj⟩ := h3 j hj hn
      by_cases he : k = i
      · subst he
        obtain ⟨a, b, ha, hb2, hab, xa, xb, ta, tb⟩ := hall j hj hn hkj
        by_cases hak : a = k
        · exact ⟨b, hb2, (bt_out (by omega) (by omega)).mpr ⟨xb, fun q => hab (hak.trans q.symm)⟩, tb⟩
        · exact ⟨a, ha, (bt_out (by omega) (by omega)).mpr ⟨xa, hak⟩, ta⟩
      · exact ⟨k, hk, (bt_out (by omega) (by omega)).mpr ⟨hkx, he⟩, hkj⟩
theorem sp_eq {v : StT} (hok : okS v) {w : WT} {x : Int32} (hw : w.1 = v.1) (hL : LV v w 0 x) (hF : FQ v w v.2.1) (hx : S_cov v.2.2.1 v.2.2.2.2 v.1 v.2.1 x = true) : nSp w w.2.1 = false ↔ clM v x v.2.1 = true := by
  have h14 := hok.1
  have key : ∀ i, i < v.2.1 → v.2.2.2.2 i = 0 → (nSb w (fr v.2.2.2.2 i) = false ↔ bt x i = true ∧ S_cov v.2.2.1 v.2.2.2.2 v.1 v.2.1 (x &&& (bI i ^^^ (-1))) = true) := fun i hi hM => by
    obtain ⟨g1, g2, -⟩ := hF.2 i hi hM
    unfold nSb wHo
    rw [g1, g2, hL.1, hw, Bool.or_eq_false_iff, decide_eq_false_iff_not, Bool.not_eq_false', decide_eq_true_eq]
    have e1 : ¬ x &&& bI i = 0 ↔ bt x i = true := by
      constructor
      · intro h
        obtain ⟨j, hj, hjb⟩ := n0_bit h
        rw [b_and, bt_bI (by omega) hj, Bool.and_eq_true, decide_eq_true_eq] at hjb
        rw [← hjb.2]; exact hjb.1
      · intro h h0
        have := congrArg (fun z => bt z i) h0
        simp only [b_and, h, b_0, bt_bI (show i < 32 by omega) (show i < 32 by omega)] at this
        simp at this
    rw [e1]
    constructor
    · rintro ⟨h1, h2⟩
      refine ⟨h1, (cov_out hok hx hi h1).mpr ⟨hM, fun j hj hn hij => ?_⟩⟩
      have b2 := congrArg (fun z => bt z j) h2
      simp only [b_and, b_not _ hj, hn, hij, b_0, Bool.true_and] at b2
      refine (hL.2.2.2 j).mp ?_ |> fun ⟨a, b, h⟩ => ⟨a, b, h⟩
      cases hq : bt (w.2.2.2.2.2.2.2.2 0) j with
      | true => rfl
      | false => rw [hq] at b2; cases b2
    · rintro ⟨h1, h2⟩
      refine ⟨h1, ?_⟩
      obtain ⟨-, hall⟩ := (cov_out hok hx hi h1).mp h2
      apply b_ext
      intro j hj
      rw [b_and, b_and, b_not _ hj, b_0]
      cases hij : bt (v.2.2.1 i) j with
      | false => rfl
      | true =>
        cases hn : bt v.1 j with
        | false => rfl
        | true =>
          rw [(hL.2.2.2 j).mpr (hall j hj hn hij)]
          rfl
  rw [clM_iff]
  constructor
  · intro h
    have h1 : ¬ ∀ k, k < w.2.1 → nSb w k = true := fun q => by
      rw [(nSp_iff w _).mpr q] at h
      cases h
    by_cases hq : ∃ i, i < v.2.1 ∧ bt x i = true ∧ S_cov v.2.2.1 v.2.2.2.2 v.1 v.2.1 (x &&& (bI i ^^^ (-1))) = true
    · exact hq
    · refine absurd (fun k hk => ?_) h1
      rw [hF.1] at hk
      obtain ⟨i, hi, hM, hfi⟩ := fr_surj (M := v.2.2.2.2) v.2.1 hk
      cases hb : nSb w k with
      | true => rfl
      | false =>
        rw [← hfi] at hb
        have := (key i hi hM).mp hb
        exact absurd ⟨i, hi, this.1, this.2⟩ hq
  · rintro ⟨i, hi, h1, h2⟩
    have hM := ((cov_out hok hx hi h1).mp h2).1
    have hb := (key i hi hM).mpr ⟨h1, h2⟩
    cases hq : nSp w w.2.1 with
    | false => rfl
    | true =>
      have hlt : fr v.2.2.2.2 i < w.2.1 := by
        rw [hF.1]
        have := fr_mono v.2.2.2.2 (a := i + 1) v.2.1 (by omega)
        rw [fr, if_pos hM] at this
        omega
      rw [(nSp_iff w _).mp hq _ hlt] at hb
      cases hb
def UT (v : StT) (m : Nat) (y : Nat) : Nat := if S_miss v.2.2.1 v.1 v.2.1 (nI m) = 0 then (if clM v (nI m) v.2.1 = true then y else y + 1) else y
theorem mN_EL {v : StT} (s : Nat) : EL v.2.2.2.2 (mN v.2.2.2.2 s v.2.1) v.2.1 = true := by
  rw [EL_iff]
  intro i hi
  constructor
  · intro h
    rw [mN_bit _ i hi, h]
    rfl
  · intro h
    rw [mN_bit _ i hi, h]
    rfl
theorem cT_rng {v : StT} (hok : okS v) (z : WT) : ∀ k, k ≤ 2 ^ fr v.2.2.2.2 v.2.1 → cT v z k = rng (fun s y => UT v (mN v.2.2.2.2 s v.2.1) y) 0 k 0
  | 0, _ => rfl
  | k + 1, hk => by
    obtain ⟨h1, h2⟩ := lev0 hok z (s := k) (by omega)
    have hF := (wG_sim hok z k (by omega)).1
    show _ = UT v (mN v.2.2.2.2 (0 + k) v.2.1) _
    rw [Nat.zero_add, ← cT_rng hok z k (by omega), cT, h2]
    unfold UT
    by_cases hm : S_miss v.2.2.1 v.1 v.2.1 (nI (mN v.2.2.2.2 k v.2.1)) = 0
    · rw [if_pos hm, if_pos hm]
      have hx : S_cov v.2.2.1 v.2.2.2.2 v.1 v.2.1 (nI (mN v.2.2.2.2 k v.2.1)) = true := by rw [cov_EL hok, mN_EL, decide_eq_true hm]; rfl
      have hs := sp_eq hok (wG_nd v z (k + 1)) h1 hF hx
      by_cases hc : clM v (nI (mN v.2.2.2.2 k v.2.1)) v.2.1 = true
      · rw [if_pos hc, if_pos (hs.mpr hc)]
      · rw [if_neg hc, if_neg (fun q => hc (hs.mp q))]
    · rw [if_neg hm, if_neg hm]
theorem tc_rng {v : StT} (hok : okS v) : ∀ k, tcM v k = rng (fun m y => if EL v.2.2.2.2 m v.2.1 = true then UT v m y else y) 0 k 0
  | 0 => rfl
  | k + 1 => by
    show _ = (if EL v.2.2.2.2 (0 + k) v.2.1 = true then UT v (0 + k) _ else _)
    rw [Nat.zero_add, ← tc_rng hok k, tcM, cov_EL hok]
    unfold UT
    by_cases hE : EL v.2.2.2.2 k v.2.1 = true
    · rw [hE, Bool.true_and]
      by_cases hm : S_miss v.2.2.1 v.1 v.2.1 (nI k) = 0
      · simp [hm]
      · simp [hm]
    · simp [hE]
theorem tight_eq {v : StT} (hok : okS v) (z : WT) : tcM v (wM v) = cT v z (wN v z) := by
  rw [wN_eq hok, cT_rng hok z _ (Nat.le_refl _), tc_rng hok, wM, all_sim v.2.1 (marks hok)]

