/-! the reference reads the pad -/
theorem updS (f : Nat → Int32) (k : Nat) (v : Int32) : upd f k v k = v := if_pos rfl
theorem upN {f : Nat → Int32} {k j : Nat} {v : Int32} (h : ¬ j = k) : upd f k v j = f j := if_neg h
theorem nI_or (a b : Nat) : nI a ||| nI b = nI (a ||| b) := by
  apply Int32.toBitVec_inj.mp
  rw [Int32.toBitVec_or]
  show BitVec.ofNat 32 a ||| BitVec.ofNat 32 b = BitVec.ofNat 32 (a ||| b)
  apply BitVec.eq_of_toNat_eq
  rw [BitVec.toNat_or, BitVec.toNat_ofNat, BitVec.toNat_ofNat, BitVec.toNat_ofNat]
  exact Nat.or_mod_two_pow.symm
theorem inL {c : Int32} (h : S_in c 97 114 = true) : ∃ u, u < 18 ∧ c = nI (97 + u) := by
  obtain ⟨h1, h2⟩ := of_decide_eq_true h
  have h0 : ¬ c < 0 := fun h3 => h1 (by
    rw [Int32.lt_iff_toInt_lt] at h3 ⊢
    have e0 : (0 : Int32).toInt = 0 := by decide
    have e97 : (97 : Int32).toInt = 97 := by decide
    omega)
  obtain ⟨j, hj, rfl⟩ := nI_of h0
  have g1 : ¬ j < 97 := fun h => h1 ((nI_ltI (a := j) (b := 97) hj (by decide)).mpr h)
  have g2 : ¬ 114 < j := fun h => h2 ((nI_ltI (a := 114) (b := j) (by decide) hj).mpr h)
  exact ⟨j - 97, by omega, congrArg nI (by omega)⟩
theorem inD {a b : Nat} {c : Int32} (hb : b < 1000) (h : S_in c (nI a) (nI b) = true) (ha : a ≤ b) : ∃ u, a ≤ u ∧ u ≤ b ∧ c = nI u := by
  obtain ⟨h1, h2⟩ := of_decide_eq_true h
  have h0 : ¬ c < 0 := fun h3 => h1 (by
    rw [Int32.lt_iff_toInt_lt] at h3 ⊢
    rw [nI_toInt (by omega)]
    have e0 : (0 : Int32).toInt = 0 := by decide
    omega)
  obtain ⟨j, hj, rfl⟩ := nI_of h0
  have g1 : ¬ j < a := fun h => h1 ((nI_ltI (a := j) (b := a) hj (by omega)).mpr h)
  have g2 : ¬ b < j := fun h => h2 ((nI_ltI (a := b) (b := j) (by omega) hj).mpr h)
  exact ⟨j, by omega, by omega, rfl⟩
theorem tkL_in {c L : Int32} (h : S_in c 97 114 = false) : tkL c L = false := by
  apply decide_eq_false
  rintro ⟨h1, h2, -⟩
  refine of_decide_eq_false h ⟨fun h3 => ?_, fun h3 => ?_⟩
  all_goals
    rw [Int32.lt_iff_toInt_lt] at h1 h3
    rw [Int32.le_iff_toInt_le] at h2
    rw [Int32.toInt_sub] at h1 h2
    have e0 : (0 : Int32).toInt = 0 := by decide
    have e18 : (18 : Int32).toInt = 18 := by decide
    have e97 : (97 : Int32).toInt = 97 := by decide
    have e114 : (114 : Int32).toInt = 114 := by decide
    have b1 := c.toInt_lt
    have b2 := c.le_toInt
    rw [e97] at h1 h2
    unfold Int.bmod at h1 h2
    dsimp only at h1 h2
    by_cases hq : (c.toInt - 97) % ((2 ^ 32 : Nat) : Int) < (((2 ^ 32 : Nat) : Int) + 1) / 2
    · rw [if_pos hq] at h1 h2
      omega
    · rw [if_neg hq] at h1 h2
      omega
theorem c97 (u : Nat) : nI (97 + u) - 97 = nI u := by
  rw [show (97 : Int32) = nI 97 from rfl, pk_sub (by omega)]
  exact congrArg nI (by omega)
theorem tkL_u {u : Nat} {L : Int32} (hu : u < 18) : tkL (nI (97 + u)) L = decide (L < bI u) := by
  unfold tkL
  rw [c97]
  apply decide_eq_decide.mpr
  refine ⟨fun h => h.2.2, fun h => ⟨nI_pos (by omega), fun h2 => ?_, h⟩⟩
  have := (nI_leI (a := 18) (b := u) (by decide) (by omega)).mp h2
  omega
def topL (last L : Int32) : Prop := ∃ t l : Nat, t < 18 ∧ last = nI (97 + t) ∧ L = nI l ∧ 2 ^ t ≤ l ∧ l < 2 ^ (t + 1)
theorem p18 {u : Nat} (h : u < 19) : 2 ^ u ≤ 262144 := (Nat.pow_le_pow_right (n := 2) (by decide) (by omega : u ≤ 18) : 2 ^ u ≤ 2 ^ 18)
theorem topL_lt {last L : Int32} {u : Nat} (h : topL last L) (hu : u < 18) : L < bI u ↔ last < nI (97 + u) := by
  obtain ⟨t, l, ht, rfl, rfl, h1, h2⟩ := h
  have hl := p18 (u := t + 1) (by omega)
  have hu2 := p18 (u := u) (by omega)
  rw [bI_pow u (by omega), nI_ltI (by omega) (by omega), nI_ltI (by omega) (by omega)]
  constructor
  · intro h
    by_cases h3 : u ≤ t
    · have := Nat.pow_le_pow_right (n := 2) (by decide) h3
      omega
    · omega
  · intro h
    have := Nat.pow_le_pow_right (n := 2) (by decide) (show t + 1 ≤ u by omega)
    omega
theorem topL_0 {u : Nat} (hu : u < 18) : topL (nI (97 + u)) (0 ||| (1 : Int32) <<< ((nI (97 + u) - 97) &&& 31)) := by
  refine ⟨u, 2 ^ u, hu, rfl, ?_, Nat.le_refl _, Nat.pow_lt_pow_right (by decide) (by omega)⟩
  rw [c97, ← bI_pow u (by omega)]
  exact Int32.zero_or
theorem topL_s {last L : Int32} {u : Nat} (h : topL last L) (hu : u < 18) (hlt : last < nI (97 + u)) : topL (nI (97 + u)) (L ||| (1 : Int32) <<< ((nI (97 + u) - 97) &&& 31)) := by
  have hL := (topL_lt h hu).mpr hlt
  obtain ⟨t, l, ht, rfl, rfl, h1, h2⟩ := h
  have hl := p18 (u := t + 1) (by omega)
  have hu2 := p18 (u := u) (by omega)
  rw [bI_pow u (by omega), nI_ltI (by omega) (by omega)] at hL
  refine ⟨u, l ||| 2 ^ u, hu, rfl, ?_, Nat.right_le_or, ?_⟩
  · rw [c97, ← nI_or, ← bI_pow u (by omega)]
    rfl
  · exact Nat.or_lt_two_pow (Nat.lt_of_lt_of_le hL (Nat.pow_le_pow_right (by decide) (by omega))) (Nat.pow_lt_pow_right (by decide) (by omega))
def RIc (mn : Nat) (rT rP : Nat → Int32) (Q : PT) : Prop := Q.1 = mn ∧ ∀ j, j < mn → rT j = Q.2.2.2.2.1 j ∧ rP j = Q.2.2.2.2.2 j
def RI : Nat → Nat → Int32 → (Nat → Int32) → (Nat → Int32) → PT → Prop
  | 0, mn, _, rT, rP, Q => RIc mn rT rP Q ∧ Q.2.1 = false ∧ Q.2.2.1 = 0 ∧ Q.2.2.2.1 = 0
  | 1, mn, last, rT, rP, Q => RIc mn rT rP Q ∧ Q.2.1 = false ∧ Q.2.2.1 = rT mn ∧ Q.2.2.2.1 = 0 ∧ topL last (rT mn)
  | 2, mn, _, rT, rP, Q => RIc mn rT rP Q ∧ Q.2.1 = true ∧ Q.2.2.1 = rT mn ∧ Q.2.2.2.1 = 0
  | _, mn, _, rT, rP, Q => RIc mn rT rP Q ∧ Q.2.1 = true ∧ Q.2.2.1 = rT mn ∧ ∃ p : Nat, 1 ≤ p ∧ p ≤ 500 ∧ Q.2.2.2.1 = nI p ∧ rP mn = nI p
section READ
variable {mn : Nat} {last c : Int32} {rT rP : Nat → Int32} {Q : PT}
theorem n61 {u : Nat} (hu : u < 18) : ¬ nI (97 + u) = 61 := fun h => by
  have := (nI_eq (a := 97 + u) (b := 61) (by omega) (by decide)).mp h
  omega
theorem topL_n0 {last L : Int32} (h : topL last L) : ¬ L = 0 := by
  obtain ⟨t, l, ht, -, rfl, h1, h2⟩ := h
  have hl := p18 (u := t + 1) (by omega)
  intro h
  have := (nI_eq (a := l) (b := 0) (by omega) (by decide)).mp h
  have := Nat.two_pow_pos t
  omega
theorem RI_01 (hI : RI 0 mn last rT rP Q) (h : S_in c 97 114 = true) : pSignB c Q = true ∧ RI 1 mn c (upd rT mn (0 ||| (1 : Int32) <<< ((c - 97) &&& 31))) rP (pSign c Q) := by
  obtain ⟨a, b, L, N, A, B⟩ := Q
  obtain ⟨⟨rfl, h2⟩, h3, h4, h5⟩ := hI
  dsimp only at h3 h4 h5
  subst h3 h4 h5
  obtain ⟨u, hu, rfl⟩ := inL h
  have ht : tkL (nI (97 + u)) 0 = true := by
    rw [tkL_u hu, bI_pow u (by omega)]
    have := p18 (u := u) (by omega)
    exact decide_eq_true ((nI_ltI (a := 0) (b := 2 ^ u) (by decide) (by omega)).mpr (Nat.two_pow_pos u))
  have e : pSign (nI (97 + u)) (a, false, 0, 0, A, B) = (a, false, 0 ||| (1 : Int32) <<< ((nI (97 + u) - 97) &&& 31), 0, A, B) := by
    simp [pSign, n61 hu, pLet, ht]
  refine ⟨by simp [pSignB, n61 hu, ht], ?_⟩
  rw [e]
  refine ⟨⟨rfl, fun j hj => ?_⟩, rfl, (updS _ _ _).symm, rfl, ?_⟩
  · rw [upN (Nat.ne_of_lt hj)]
    exact h2 j hj
  · rw [updS]
    exact topL_0 hu
theorem RI_11 (hI : RI 1 mn last rT rP Q) (h : S_in c 97 114 = true) (hl : last < c) : pSignB c Q = true ∧ RI 1 mn c (upd rT mn (rT mn ||| (1 : Int32) <<< ((c - 97) &&& 31))) rP (pSign c Q) := by
  obtain ⟨a, b, L, N, A, B⟩ := Q
  obtain ⟨⟨rfl, h2⟩, h3, h4, h5, h6⟩ := hI
  dsimp only at h2 h3 h4 h5 h6 ⊢
  subst h3 h4 h5
  obtain ⟨u, hu, rfl⟩ := inL h
  have ht : tkL (nI (97 + u)) (rT a) = true := by
    rw [tkL_u hu]
    exact decide_eq_true ((topL_lt h6 hu).mpr hl)
  have e : pSign (nI (97 + u)) (a, false, rT a, 0, A, B) = (a, false, rT a ||| (1 : Int32) <<< ((nI (97 + u) - 97) &&& 31), 0, A, B) := by
    simp [pSign, n61 hu, pLet, ht]
  refine ⟨by simp [pSignB, n61 hu, ht], ?_⟩
  rw [e]
  refine ⟨⟨rfl, fun j hj => ?_⟩, rfl, (updS _ _ _).symm, rfl, ?_⟩
  · rw [upN (Nat.ne_of_lt hj)]
    exact h2 j hj
  · rw [updS]
    exact topL_s h6 hu hl
theorem RI_12 (hI : RI 1 mn last rT rP Q) (h : c = 61) : pSignB c Q = true ∧ RI 2 mn last rT rP (pSign c Q) := by
  obtain ⟨a, b, L, N, A, B⟩ := Q
  obtain ⟨⟨rfl, h2⟩, h3, h4, h5, h6⟩ := hI
  dsimp only at h2 h3 h4 h5 h6 ⊢
  subst h3 h4 h5 h
  have h0 := topL_n0 h6
  refine ⟨by simp [pSignB, h0], ?_⟩
  have e : pSign 61 (a, false, rT a, 0, A, B) = (a, true, rT a, 0, A, B) := by simp [pSign, pEq, h0]
  rw [e]
  exact ⟨⟨rfl, h2⟩, rfl, rfl, rfl⟩
theorem RI_23 (hI : RI 2 mn last rT rP Q) (h : S_in c 49 57 = true) : pSignB c Q = true ∧ RI 3 mn last rT (upd rP mn (0 + c - 48)) (pSign c Q) := by
  obtain ⟨a, b, L, N, A, B⟩ := Q
  obtain ⟨⟨rfl, h2⟩, h3, h4, h5⟩ := hI
  dsimp only at h2 h3 h4 h5 ⊢
  subst h3 h4 h5
  obtain ⟨u, hu1, hu2, rfl⟩ := inD (a := 49) (b := 57) (by decide) h (by decide)
  have g : ∀ u, 49 ≤ u → u ≤ 57 → ¬ nI u = 59 ∧ tkD (nI u) = true ∧ S_price ((0 : Int32) * 10 + (nI u - 48)) = true ∧ (0 : Int32) * 10 + (nI u - 48) = nI (u - 48) ∧ (0 : Int32) + nI u - 48 = nI (u - 48) := by
    intro u h1 h2
    obtain ⟨d, hd, rfl⟩ : ∃ d, d < 9 ∧ u = 49 + d := ⟨u - 49, by omega, by omega⟩
    clear h1 h2
    revert d
    decide +kernel
  obtain ⟨g1, g2, g3, g4, g5⟩ := g u hu1 hu2
  refine ⟨by simp only [pSignB, g1, pDigB, g2, g3, if_true, if_false], ?_⟩
  have e : pSign (nI u) (a, true, rT a, 0, A, B) = (a, true, rT a, 0 * 10 + (nI u - 48), A, B) := by simp only [pSign, pDig, g1, g2, if_true, if_false]
  rw [e]
  refine ⟨⟨rfl, fun j hj => ?_⟩, rfl, rfl, u - 48, by omega, by omega, g4, ?_⟩
  · rw [upN (Nat.ne_of_lt hj)]
    exact h2 j hj
  · rw [updS, g5]
theorem c48 {u : Nat} (h : 48 ≤ u) : nI u - 48 = nI (u - 48) := pk_sub (a := u) (b := 48) h
theorem RI_33 (hI : RI 3 mn last rT rP Q) (h : S_in c 48 57 = true) (hl : 10 * rP mn + c - 48 ≤ 500) : pSignB c Q = true ∧ RI 3 mn last rT (upd rP mn (10 * rP mn + c - 48)) (pSign c Q) := by
  obtain ⟨a, b, L, N, A, B⟩ := Q
  obtain ⟨⟨rfl, h2⟩, h3, h4, p, hp1, hp2, h5, h6⟩ := hI
  dsimp only at h2 h3 h4 h5 h6 hl ⊢
  subst h3 h4 h5
  obtain ⟨u, hu1, hu2, rfl⟩ := inD (a := 48) (b := 57) (by decide) h (by decide)
  have g1 : ¬ nI u = 59 := fun h => by
    have := (nI_eq (a := u) (b := 59) (by omega) (by decide)).mp h
    omega
  have g2 : tkD (nI u) = true := decide_eq_true ⟨fun h => by
    have := (nI_ltI (a := u) (b := 48) (by omega) (by decide)).mp h
    omega, (nI_leI (a := u) (b := 57) (by omega) (by decide)).mpr hu2⟩
  have e1 : 10 * rP a + nI u - 48 = nI (10 * p + (u - 48)) := by
    rw [h6, show (10 : Int32) = nI 10 from rfl, pk_mul, nI_add, c48 (by omega)]
    exact congrArg nI (by omega)
  have e2 : nI p * 10 + (nI u - 48) = nI (10 * p + (u - 48)) := by
    rw [c48 hu1, show (10 : Int32) = nI 10 from rfl, pk_mul, nI_add]
    exact congrArg nI (by omega)
  rw [e1] at hl ⊢
  have hl2 := (nI_leI (a := 10 * p + (u - 48)) (b := 500) (by omega) (by decide)).mp hl
  have g3 : S_price (nI p * 10 + (nI u - 48)) = true := by
    rw [e2]
    exact decide_eq_true ⟨fun h => by
      have := (nI_ltI (a := 10 * p + (u - 48)) (b := 1) (by omega) (by decide)).mp h
      omega, fun h => by
      have := (nI_ltI (a := 500) (b := 10 * p + (u - 48)) (by decide) (by omega)).mp h
      omega⟩
  refine ⟨by simp only [pSignB, g1, pDigB, g2, g3, if_true, if_false], ?_⟩
  have e : pSign (nI u) (a, true, rT a, nI p, A, B) = (a, true, rT a, nI p * 10 + (nI u - 48), A, B) := by simp only [pSign, pDig, g1, g2, if_true, if_false]
  rw [e, e2]
  refine ⟨⟨rfl, fun j hj => ?_⟩, rfl, rfl, 10 * p + (u - 48), by omega, hl2, rfl, updS _ _ _⟩
  rw [upN (Nat.ne_of_lt hj)]
  exact h2 j hj
theorem nI_p0 {p : Nat} (h : 1 ≤ p) (h2 : p ≤ 500) : ¬ nI p = 0 := fun h9 => by
  have := (nI_eq (a := p) (b := 0) (by omega) (by decide)).mp h9
  omega
theorem RI_end (hI : RI 3 mn last rT rP Q) (hm : mn < 21) : ¬ Q.2.2.2.1 = 0 ∧ mn + 1 = (pEnd Q).1 ∧ ∀ j, j < mn + 1 → rT j = (pEnd Q).2.2.2.2.1 j ∧ rP j = (pEnd Q).2.2.2.2.2 j := by
  obtain ⟨a, b, L, N, A, B⟩ := Q
  obtain ⟨⟨rfl, h2⟩, h3, h4, p, hp1, hp2, h5, h6⟩ := hI
  dsimp only at h2 h3 h4 h5 h6 hm ⊢
  subst h3 h4 h5
  refine ⟨nI_p0 hp1 hp2, ?_⟩
  have e : pEnd (a, true, rT a, nI p, A, B) = (a + 1, true, rT a, nI p, upd A a (rT a), upd B a (nI p)) := if_pos hm
  rw [e]
  refine ⟨rfl, fun j hj => ?_⟩
  dsimp only
  by_cases h : j = a
  · subst h
    exact ⟨(updS _ _ _).symm, h6.trans (updS _ _ _).symm⟩
  · rw [upN h, upN h]
    exact h2 j (by omega)
theorem RI_30 (hI : RI 3 mn last rT rP Q) (hm : mn < 21) (h : c = 59) : pSignB c Q = true ∧ RI 0 (mn + 1) last rT rP (pSign c Q) := by
  obtain ⟨h0, h1, h2⟩ := RI_end hI hm
  subst h
  have hb : Q.2.1 = true := hI.2.1
  refine ⟨by simp [pSignB, hb, h0], ?_⟩
  have e : pSign 59 Q = pBeg (pEnd Q) := by simp [pSign, hb, pSem, h0]
  rw [e]
  exact ⟨⟨h1.symm, h2⟩, rfl, rfl, rfl⟩
theorem RI_0f (hI : RI 0 mn last rT rP Q) (h : S_in c 97 114 = false) : pSignB c Q = false := by
  obtain ⟨-, h3, h4, h5⟩ := hI
  simp [pSignB, h3, h4, tkL_in h]
theorem RI_1f (hI : RI 1 mn last rT rP Q) (h : S_in c 97 114 = false) (h2 : ¬ c = 61) : pSignB c Q = false := by
  obtain ⟨-, h3, h4, h5, h6⟩ := hI
  simp [pSignB, h3, h2, tkL_in h]
theorem RI_1g (hI : RI 1 mn last rT rP Q) (h : S_in c 97 114 = true) (hl : ¬ last < c) (h2 : ¬ c = 61) : pSignB c Q = false := by
  obtain ⟨-, h3, h4, h5, h6⟩ := hI
  obtain ⟨u, hu, rfl⟩ := inL h
  have : tkL (nI (97 + u)) (rT mn) = false := by
    rw [tkL_u hu]
    exact decide_eq_false (fun h => hl ((topL_lt h6 hu).mp h))
  simp [pSignB, h3, h2, h4, this]
theorem dig_n {c : Int32} {a : Nat} (ha : a ≤ 57) (h : S_in c (nI a) 57 = false) : c < nI a ∨ ¬ c ≤ 57 := by
  have h2 := of_decide_eq_false h
  by_cases h3 : c < nI a
  · exact Or.inl h3
  · refine Or.inr (fun h4 => h2 ⟨h3, ?_⟩)
    exact Int32.not_lt.mpr h4
theorem RI_2f (hI : RI 2 mn last rT rP Q) (h : S_in c 49 57 = false) : pSignB c Q = false := by
  obtain ⟨-, h3, h4, h5⟩ := hI
  have key : pDigB c Q = false := by
    unfold pDigB
    split
    · rename_i ht
      obtain ⟨t1, t2⟩ := of_decide_eq_true ht
      have h0 : S_in c 48 57 = true := decide_eq_true ⟨t1, Int32.not_lt.mpr t2⟩
      obtain ⟨u, hu1, hu2, rfl⟩ := inD (a := 48) (b := 57) (by decide) h0 (by decide)
      have hu : u = 48 := by
        by_cases h9 : u = 48
        · exact h9
        · exfalso
          refine of_decide_eq_false h ⟨fun q => ?_, fun q => ?_⟩
          · have := (nI_ltI (a := u) (b := 49) (by omega) (by decide)).mp q
            omega
          · have := (nI_ltI (a := 57) (b := u) (by decide) (by omega)).mp q
            omega
      subst hu
      rw [h5]
      decide
    · rfl
  unfold pSignB
  rw [h3, if_pos rfl]
  split
  · rw [h5]; decide
  · exact key
theorem RI_3f (hI : RI 3 mn last rT rP Q) (h : S_in c 48 57 = false) (h9 : ¬ c = 59) : pSignB c Q = false := by
  obtain ⟨-, h3, h4, h5⟩ := hI
  have key : pDigB c Q = false := by
    unfold pDigB
    split
    · rename_i ht
      obtain ⟨t1, t2⟩ := of_decide_eq_true ht
      exact absurd ⟨t1, Int32.not_lt.mpr t2⟩ (of_decide_eq_false h)
    · rfl
  unfold pSignB
  rw [h3, if_pos rfl, if_neg h9]
  exact key
theorem RI_3g (hI : RI 3 mn last rT rP Q) (h : S_in c 48 57 = true) (hl : ¬ 10 * rP mn + c - 48 ≤ 500) (h9 : ¬ c = 59) : pSignB c Q = false := by
  obtain ⟨-, h3, h4, p, hp1, hp2, h5, h6⟩ := hI
  obtain ⟨u, hu1, hu2, rfl⟩ := inD (a := 48) (b := 57) (by decide) h (by decide)
  have e1 : 10 * rP mn + nI u - 48 = nI (10 * p + (u - 48)) := by
    rw [h6, show (10 : Int32) = nI 10 from rfl, pk_mul, nI_add, c48 (by omega)]
    exact congrArg nI (by omega)
  have e2 : nI p * 10 + (nI u - 48) = nI (10 * p + (u - 48)) := by
    rw [c48 hu1, show (10 : Int32) = nI 10 from rfl, pk_mul, nI_add]
    exact congrArg nI (by omega)
  rw [e1] at hl
  have key : pDigB (nI u) Q = false := by
    unfold pDigB
    split
    · rw [h5, e2]
      exact decide_eq_false (fun q => q.2 (Int32.not_le.mp hl))
    · rfl
  unfold pSignB
  rw [h3, if_pos rfl, if_neg h9]
  exact key
end READ
theorem nI_n6 {n : Nat} (h : n < 100) : ¬ nI n = -6 := fun h9 => by
  have := congrArg Int32.toInt h9
  rw [nI_toInt (by omega), show (-6 : Int32).toInt = -6 from by decide] at this
  omega

set_option maxHeartbeats 4000000 in
set_option maxRecDepth 100000 in
theorem c_X9_read (g : jG) (m : Nat) (a0 : Nat) (a1 : Nat) (a3 : Nat) (a4 : Nat) (a5 : Nat) (a7 : Nat) (a8 : Nat) (a10 : Nat) (a11 : Nat) (un : Nat) (sg : Nat) (mn : Nat) (ti : Nat) (dr : Int32) (rd : Nat) (op : Int32) (f : Nat → Int32) (gT : Nat → Int32) (gP : Nat → Int32) (P : PT) (hn : sg ≤ 80) : jMI g yX9_read cX9_read 7 .int 1 22 [.ref m] [(m, .inr (9, [.ref a0, .ref a1, .int (nI un), .ref a3, .ref a4, .ref a5, .int (nI sg), .ref a7, .ref a8, .int (nI mn), .ref a10, .ref a11, .int (nI ti), .int dr, .int (nI rd), .int op])), (a5, .inl (gI g, 80, .inl f)), (a7, .inl (gI g, 40, .inl gT)), (a8, .inl (gI g, 40, .inl gP))] (fun rz wz => ∃ mn2 : Nat, ∃ gT2 : Nat → Int32, ∃ gP2 : Nat → Int32, mn2 ≤ 21 ∧ ((pRd f sg sg 0 (pZero P)).1 = -6 → mn2 = (pRd f sg sg 0 (pZero P)).2.1 ∧ ∀ j, j < mn2 → gT2 j = (pRd f sg sg 0 (pZero P)).2.2.2.2.2.1 j ∧ gP2 j = (pRd f sg sg 0 (pZero P)).2.2.2.2.2.2 j) ∧ rz = (pRd f sg sg 0 (pZero P)).1 ∧ wz = [(m, .inr (9, [.ref a0, .ref a1, .int (nI un), .ref a3, .ref a4, .ref a5, .int (nI sg), .ref a7, .ref a8, .int (nI mn2), .ref a10, .ref a11, .int (nI ti), .int dr, .int (nI rd), .int op])), (a5, .inl (gI g, 80, .inl f)), (a7, .inl (gI g, 40, .inl gT2)), (a8, .inl (gI g, 40, .inl gP2))]) := by
  refine jMI.intro (by decide +kernel) (Nat.le_of_ble_eq_true rfl) (fun x hX hQ => ?_)
  refine j_lv (lv2 := [(0, .ref m)]) rfl ?_
  refine j_aload_n (pc := 0) hX dX9_read_0 0 rfl ?_
  refine j_iconst (v := 0) (pc := 1) hX dX9_read_1 (by decide) ?_
  refine j_put (ci := 9) (ty := .int) (pc := 2) hX inG9 tyX9 tyX9_ok nmG9 rfl 9 (by decide) mw633 rfl (by decide +kernel) 0 rfl (Nat.le_of_ble_eq_true rfl) (rfl) rfl dX9_read_2 ?_
  refine j_ws (ws2 := [(m, .inr (9, [.ref a0, .ref a1, .int (nI un), .ref a3, .ref a4, .ref a5, .int (nI sg), .ref a7, .ref a8, .int 0, .ref a10, .ref a11, .int (nI ti), .int dr, .int (nI rd), .int op])), (a5, .inl (gI g, 80, .inl f)), (a7, .inl (gI g, 40, .inl gT)), (a8, .inl (gI g, 40, .inl gP))]) rfl ?_
  refine j_iconst (v := 0) (pc := 5) hX dX9_read_5 (by decide) ?_
  refine j_istore_n (lv2 := [(0, .ref m), (1, .int 0)]) (pc := 6) hX dX9_read_6 [1, 0] (by decide) rfl ?_
  refine j_iconst (v := 0) (pc := 7) hX dX9_read_7 (by decide) ?_
  refine j_istore_n (lv2 := [(0, .ref m), (1, .int 0), (2, .int 0)]) (pc := 8) hX dX9_read_8 [1, 2, 0] (by decide) rfl ?_
  refine j_iconst (v := 0) (pc := 9) hX dX9_read_9 (by decide) ?_
  refine j_istore_n (lv2 := [(0, .ref m), (1, .int 0), (2, .int 0), (3, .int 0)]) (pc := 10) hX dX9_read_10 [1, 2, 3, 0] (by decide) rfl ?_
  have L11 : ∀ (d : Nat) (k : Nat) (s : Nat) (mn1 : Nat) (la : Int32) (rT : Nat → Int32) (rP : Nat → Int32) (Q : PT), k ≤ sg → s ≤ 3 → 4 * mn1 + s ≤ k → RI s mn1 la rT rP Q → pRd f sg (sg - k) k Q = (pRd f sg sg 0 (pZero P)) → sg - k = d → J g x 7 0 0 11 [(0, .ref m), (1, .int (nI s)), (2, .int la), (3, .int (nI k))] [] [(m, .inr (9, [.ref a0, .ref a1, .int (nI un), .ref a3, .ref a4, .ref a5, .int (nI sg), .ref a7, .ref a8, .int (nI mn1), .ref a10, .ref a11, .int (nI ti), .int dr, .int (nI rd), .int op])), (a5, .inl (gI g, 80, .inl f)), (a7, .inl (gI g, 40, .inl rT)), (a8, .inl (gI g, 40, .inl rP))] := by
    intro d
    induction d using Nat.strongRecOn with
    | _ d ih11 =>
      intro k s mn1 la rT rP Q hk hs hb hI hR hd11
      refine j_iload_n (pc := 11) hX dX9_read_11 3 rfl ?_
      rcases (show s = 0 ∨ s = 1 ∨ s = 2 ∨ s = 3 by omega) with rfl | rfl | rfl | rfl
      · skip
        refine j_aload_n (pc := 12) hX dX9_read_12 0 rfl ?_
        refine j_get (ci := 9) (pc := 13) hX inG9 rfl 6 (by decide) mw630 0 rfl rfl dX9_read_13 ?_
        refine j_icmp_ge (tgt := 271) (pc := 16) hX dX9_read_16 (by decide) (fun c16_1 => ?_) (fun c16_1 => ?_)
        · skip
          have c16_1n : sg ≤ k := (nI_leI (a := sg) (b := k) (by omega) (by omega)).mp c16_1
          have c16_1m : ¬ k < sg := by omega
          refine j_aload_n (pc := 271) hX dX9_read_271 0 rfl ?_
          refine j_dup (pc := 272) hX dX9_read_272 rfl ?_
          refine j_get (ci := 9) (pc := 273) hX inG9 rfl 9 (by decide) mw633 0 rfl rfl dX9_read_273 ?_
          refine j_iload_n (pc := 276) hX dX9_read_276 1 rfl ?_
          refine j_iconst (v := 3) (pc := 277) hX dX9_read_277 (by decide) ?_
          refine j_icmp_ne (tgt := 285) (pc := 278) hX dX9_read_278 (by decide) (fun _ => ?_) (fun h9 => absurd h9 (by decide))
          refine j_iconst (v := 0) (pc := 285) hX dX9_read_285 (by decide) ?_
          refine j_iadd (pc := 286) hX dX9_read_286 ?_
          refine j_top (b := nI (mn1 + 0)) (nI_add mn1 0) ?_
          refine j_put (ci := 9) (ty := .int) (pc := 287) hX inG9 tyX9 tyX9_ok nmG9 rfl 9 (by decide) mw633 rfl (by decide +kernel) 0 rfl (Nat.le_of_ble_eq_true rfl) (rfl) rfl dX9_read_287 ?_
          refine j_ws (ws2 := [(m, .inr (9, [.ref a0, .ref a1, .int (nI un), .ref a3, .ref a4, .ref a5, .int (nI sg), .ref a7, .ref a8, .int (nI (mn1 + 0)), .ref a10, .ref a11, .int (nI ti), .int dr, .int (nI rd), .int op])), (a5, .inl (gI g, 80, .inl f)), (a7, .inl (gI g, 40, .inl rT)), (a8, .inl (gI g, 40, .inl rP))]) rfl ?_
          refine j_iload_n (pc := 290) hX dX9_read_290 1 rfl ?_
          refine j_iconst (v := 3) (pc := 291) hX dX9_read_291 (by decide) ?_
          refine j_icmp_ne (tgt := 300) (pc := 292) hX dX9_read_292 (by decide) (fun _ => ?_) (fun h9 => absurd h9 (by decide))
          refine j_aload_n (pc := 300) hX dX9_read_300 0 rfl ?_
          refine j_get (ci := 9) (pc := 301) hX inG9 rfl 6 (by decide) mw630 0 rfl rfl dX9_read_301 ?_
          exact j_iret (pc := 304) hX hQ dX9_read_304 rfl ⟨mn1, rT, rP, (by omega), (by rw [pRd_end (by omega) hR, if_pos hI.2.2.2]; exact fun h9 => absurd h9 (nI_n6 (by omega))), (by rw [pRd_end (by omega) hR, if_pos hI.2.2.2]), (by first | rfl | first | (simp only [jb_t, jb_f, st0, c16_1, c16_1n, c16_1m, reduceIte, eq_self, decide_true, decide_false, Bool.and_true, Bool.true_and, Bool.and_false, Bool.false_and, Bool.and_self, not_true_eq_false, not_false_eq_true, and_true, true_and, and_false, false_and, and_self]; done) | (simp [jb_t, jb_f, st0, c16_1, c16_1n, c16_1m]; done))⟩
        · skip
          have c16_1n : ¬ sg ≤ k := fun h9 => c16_1 ((nI_leI (a := sg) (b := k) (by omega) (by omega)).mpr h9)
          have c16_1m : k < sg := by omega
          refine j_aload_n (pc := 19) hX dX9_read_19 0 rfl ?_
          refine j_get (ci := 9) (pc := 20) hX inG9 rfl 5 (by decide) mw629 0 rfl rfl dX9_read_20 ?_
          refine j_iload_n (pc := 23) hX dX9_read_23 3 rfl ?_
          refine j_iald (pc := 24) hX 1 rfl k rfl (by omega) (by omega) dX9_read_24 ?_
          refine j_istore (lv2 := [(0, .ref m), (1, .int (nI 0)), (2, .int la), (3, .int (nI k)), (4, .int (f k))]) (pc := 25) hX dX9_read_25 [1, 2, 3, 4, 0] (by decide) rfl ?_
          refine j_iload (pc := 27) hX dX9_read_27 4 rfl ?_
          refine j_bipush (v := 97) (pc := 29) hX dX9_read_29 (by decide) ?_
          refine j_bipush (v := 114) (pc := 31) hX dX9_read_31 (by decide) ?_
          refine j_callSI (n := 3) (As := [.int (f k), .int 97, .int 114]) (rest := []) (pc := 33) hX (c_X9_in g (f k) 97 114 ) (CS.of mw661 mw662 mw52 mw663 ⟨by decide +kernel, by decide +kernel, by decide +kernel⟩) (Nat.le_of_ble_eq_true rfl) (Nat.le_of_ble_eq_true rfl) (Nat.le_of_ble_eq_true rfl) (Nat.le_of_ble_eq_true rfl) [] (by decide +kernel) rfl rfl rfl (Nat.le_of_ble_eq_true rfl) dX9_read_33 (fun r2 wz hq3 => ?_)
          obtain ⟨rfl, rfl⟩ := hq3
          refine j_ws (ws2 := [(m, .inr (9, [.ref a0, .ref a1, .int (nI un), .ref a3, .ref a4, .ref a5, .int (nI sg), .ref a7, .ref a8, .int (nI mn1), .ref a10, .ref a11, .int (nI ti), .int dr, .int (nI rd), .int op])), (a5, .inl (gI g, 80, .inl f)), (a7, .inl (gI g, 40, .inl rT)), (a8, .inl (gI g, 40, .inl rP))]) rfl ?_
          refine j_if_eq (tgt := 58) (pc := 36) hX dX9_read_36 (by decide) (fun c36_4 => ?_) (fun c36_4 => ?_)
          · skip
            have c36_4b : (S_in (f k) 97 114) = false := jb_0.mp c36_4
            refine j_iconst (v := 0) (pc := 58) hX dX9_read_58 (by decide) ?_
            refine j_istore (lv2 := [(0, .ref m), (1, .int (nI 0)), (2, .int la), (3, .int (nI k)), (4, .int (f k)), (5, .int 0)]) (pc := 59) hX dX9_read_59 [1, 2, 3, 4, 5, 0] (by decide) rfl ?_
            refine j_iload_n (pc := 61) hX dX9_read_61 1 rfl ?_
            refine j_iconst (v := 2) (pc := 62) hX dX9_read_62 (by decide) ?_
            refine j_icmp_ne (tgt := 78) (pc := 63) hX dX9_read_63 (by decide) (fun _ => ?_) (fun h9 => absurd h9 (by decide))
            refine j_iload_n (pc := 78) hX dX9_read_78 1 rfl ?_
            refine j_iconst (v := 3) (pc := 79) hX dX9_read_79 (by decide) ?_
            refine j_icmp_ne (tgt := 123) (pc := 80) hX dX9_read_80 (by decide) (fun _ => ?_) (fun h9 => absurd h9 (by decide))
            refine j_iconst (v := 0) (pc := 123) hX dX9_read_123 (by decide) ?_
            refine j_istore (lv2 := [(0, .ref m), (1, .int (nI 0)), (2, .int la), (3, .int (nI k)), (4, .int (f k)), (5, .int 0), (6, .int 0)]) (pc := 124) hX dX9_read_124 [1, 2, 3, 4, 5, 6, 0] (by decide) rfl ?_
            refine j_iload (pc := 126) hX dX9_read_126 5 rfl ?_
            refine j_if_eq (tgt := 173) (pc := 128) hX dX9_read_128 (by decide) (fun _ => ?_) (fun h9 => absurd h9 (by decide))
            refine j_iload (pc := 173) hX dX9_read_173 6 rfl ?_
            refine j_if_eq (tgt := 219) (pc := 175) hX dX9_read_175 (by decide) (fun _ => ?_) (fun h9 => absurd h9 (by decide))
            refine j_iload_n (pc := 219) hX dX9_read_219 1 rfl ?_
            refine j_iconst (v := 1) (pc := 220) hX dX9_read_220 (by decide) ?_
            refine j_icmp_ne (tgt := 236) (pc := 221) hX dX9_read_221 (by decide) (fun _ => ?_) (fun h9 => absurd h9 (by decide))
            refine j_iload_n (pc := 236) hX dX9_read_236 1 rfl ?_
            refine j_iconst (v := 3) (pc := 237) hX dX9_read_237 (by decide) ?_
            refine j_icmp_ne (tgt := 263) (pc := 238) hX dX9_read_238 (by decide) (fun _ => ?_) (fun h9 => absurd h9 (by decide))
            refine j_iload_n (pc := 263) hX dX9_read_263 3 rfl ?_
            exact j_iret (pc := 264) hX hQ dX9_read_264 rfl ⟨mn1, rT, rP, (by omega), (by rw [pRd_no (by omega) hR (RI_0f hI c36_4b)]; exact fun h9 => absurd h9 (nI_n6 (by omega))), (by rw [pRd_no (by omega) hR (RI_0f hI c36_4b)]), (by first | rfl | first | (simp only [jb_t, jb_f, st0, c16_1, c16_1n, c16_1m, c36_4, c36_4b, reduceIte, eq_self, decide_true, decide_false, Bool.and_true, Bool.true_and, Bool.and_false, Bool.false_and, Bool.and_self, not_true_eq_false, not_false_eq_true, and_true, true_and, and_false, false_and, and_self]; done) | (simp [jb_t, jb_f, st0, c16_1, c16_1n, c16_1m, c36_4, c36_4b]; done))⟩
          · skip
            have c36_4b : (S_in (f k) 97 114) = true := jb_1.mp c36_4
            refine j_iload_n (pc := 39) hX dX9_read_39 1 rfl ?_
            refine j_if_eq (tgt := 54) (pc := 40) hX dX9_read_40 (by decide) (fun _ => ?_) (fun h9 => absurd h9 (by decide))
            refine j_iconst (v := 1) (pc := 54) hX dX9_read_54 (by decide) ?_
            refine j_goto (tgt := 59) (pc := 55) hX dX9_read_55 (by decide) ?_
            refine j_istore (lv2 := [(0, .ref m), (1, .int (nI 0)), (2, .int la), (3, .int (nI k)), (4, .int (f k)), (5, .int 1)]) (pc := 59) hX dX9_read_59 [1, 2, 3, 4, 5, 0] (by decide) rfl ?_
            refine j_iload_n (pc := 61) hX dX9_read_61 1 rfl ?_
            refine j_iconst (v := 2) (pc := 62) hX dX9_read_62 (by decide) ?_
            refine j_icmp_ne (tgt := 78) (pc := 63) hX dX9_read_63 (by decide) (fun _ => ?_) (fun h9 => absurd h9 (by decide))
            refine j_iload_n (pc := 78) hX dX9_read_78 1 rfl ?_
            refine j_iconst (v := 3) (pc := 79) hX dX9_read_79 (by decide) ?_
            refine j_icmp_ne (tgt := 123) (pc := 80) hX dX9_read_80 (by decide) (fun _ => ?_) (fun h9 => absurd h9 (by decide))
            refine j_iconst (v := 0) (pc := 123) hX dX9_read_123 (by decide) ?_
            refine j_istore (lv2 := [(0, .ref m), (1, .int (nI 0)), (2, .int la), (3, .int (nI k)), (4, .int (f k)), (5, .int 1), (6, .int 0)]) (pc := 124) hX dX9_read_124 [1, 2, 3, 4, 5, 6, 0] (by decide) rfl ?_
            refine j_iload (pc := 126) hX dX9_read_126 5 rfl ?_
            refine j_if_eq (tgt := 173) (pc := 128) hX dX9_read_128 (by decide) (fun h9 => absurd h9 (by decide)) (fun _ => ?_)
            refine j_aload_n (pc := 131) hX dX9_read_131 0 rfl ?_
            refine j_get (ci := 9) (pc := 132) hX inG9 rfl 7 (by decide) mw631 0 rfl rfl dX9_read_132 ?_
            refine j_aload_n (pc := 135) hX dX9_read_135 0 rfl ?_
            refine j_get (ci := 9) (pc := 136) hX inG9 rfl 9 (by decide) mw633 0 rfl rfl dX9_read_136 ?_
            refine j_iload_n (pc := 139) hX dX9_read_139 1 rfl ?_
            refine j_if_ne (tgt := 147) (pc := 140) hX dX9_read_140 (by decide) (fun h9 => absurd h9 (by decide)) (fun _ => ?_)
            refine j_iconst (v := 0) (pc := 143) hX dX9_read_143 (by decide) ?_
            refine j_goto (tgt := 156) (pc := 144) hX dX9_read_144 (by decide) ?_
            refine j_iconst (v := 1) (pc := 156) hX dX9_read_156 (by decide) ?_
            refine j_iload (pc := 157) hX dX9_read_157 4 rfl ?_
            refine j_bipush (v := 97) (pc := 159) hX dX9_read_159 (by decide) ?_
            refine j_isub (pc := 161) hX dX9_read_161 ?_
            refine j_ishl (pc := 162) hX dX9_read_162 ?_
            refine j_ior (pc := 163) hX dX9_read_163 ?_
            refine j_iast (pc := 164) hX 2 rfl mn1 rfl (by omega) (by omega) dX9_read_164 ?_
            refine j_ws (ws2 := [(m, .inr (9, [.ref a0, .ref a1, .int (nI un), .ref a3, .ref a4, .ref a5, .int (nI sg), .ref a7, .ref a8, .int (nI mn1), .ref a10, .ref a11, .int (nI ti), .int dr, .int (nI rd), .int op])), (a5, .inl (gI g, 80, .inl f)), (a7, .inl (gI g, 40, .inl (upd rT mn1 (0 ||| ((1 : Int32) <<< (((f k) - 97) &&& 31)))))), (a8, .inl (gI g, 40, .inl rP))]) rfl ?_
            refine j_iload (pc := 165) hX dX9_read_165 4 rfl ?_
            refine j_istore_n (lv2 := [(0, .ref m), (1, .int (nI 0)), (2, .int (f k)), (3, .int (nI k)), (4, .int (f k)), (5, .int 1), (6, .int 0)]) (pc := 167) hX dX9_read_167 [1, 2, 0, 3, 4, 5, 6] (by decide) rfl ?_
            refine j_iconst (v := 1) (pc := 168) hX dX9_read_168 (by decide) ?_
            refine j_istore_n (lv2 := [(0, .ref m), (1, .int 1), (2, .int (f k)), (3, .int (nI k)), (4, .int (f k)), (5, .int 1), (6, .int 0)]) (pc := 169) hX dX9_read_169 [1, 0, 2, 3, 4, 5, 6] (by decide) rfl ?_
            refine j_goto (tgt := 265) (pc := 170) hX dX9_read_170 (by decide) ?_
            refine j_iinc (v := nI (k + 1)) (lv2 := [(0, .ref m), (1, .int 1), (2, .int (f k)), (3, .int (nI (k + 1))), (4, .int (f k)), (5, .int 1), (6, .int 0)]) (pc := 265) hX dX9_read_265 3 rfl (nI_add k 1) [1, 2, 3, 0, 4, 5, 6] (by decide) rfl ?_
            refine j_goto (tgt := 11) (pc := 268) hX dX9_read_268 (by decide) ?_
            refine j_lvs (lv2 := [(0, .ref m), (1, .int 1), (2, .int (f k)), (3, .int (nI (k + 1)))]) [0, 1, 2, 3] rfl ?_
            exact j_eq (lv2 := [(0, .ref m), (1, .int (nI 1)), (2, .int (f k)), (3, .int (nI (k + 1)))]) (ws2 := [(m, .inr (9, [.ref a0, .ref a1, .int (nI un), .ref a3, .ref a4, .ref a5, .int (nI sg), .ref a7, .ref a8, .int (nI mn1), .ref a10, .ref a11, .int (nI ti), .int dr, .int (nI rd), .int op])), (a5, .inl (gI g, 80, .inl f)), (a7, .inl (gI g, 40, .inl (upd rT mn1 (0 ||| ((1 : Int32) <<< (((f k) - 97) &&& 31)))))), (a8, .inl (gI g, 40, .inl rP))]) (by first | rfl | first | (simp only [jb_t, jb_f, st0, c16_1, c16_1n, c16_1m, c36_4, c36_4b, reduceIte, eq_self, decide_true, decide_false, Bool.and_true, Bool.true_and, Bool.and_false, Bool.false_and, Bool.and_self, not_true_eq_false, not_false_eq_true, and_true, true_and, and_false, false_and, and_self]; done) | (simp [jb_t, jb_f, st0, c16_1, c16_1n, c16_1m, c36_4, c36_4b]; done)) (by first | rfl | first | (simp only [jb_t, jb_f, st0, c16_1, c16_1n, c16_1m, c36_4, c36_4b, reduceIte, eq_self, decide_true, decide_false, Bool.and_true, Bool.true_and, Bool.and_false, Bool.false_and, Bool.and_self, not_true_eq_false, not_false_eq_true, and_true, true_and, and_false, false_and, and_self]; done) | (simp [jb_t, jb_f, st0, c16_1, c16_1n, c16_1m, c36_4, c36_4b]; done)) (ih11 _ (by omega) (k + 1) 1 mn1 (f k) (upd rT mn1 (0 ||| ((1 : Int32) <<< (((f k) - 97) &&& 31)))) rP (pSign (f k) Q) (by omega) (by omega) (by omega) ((RI_01 hI c36_4b).2) (pRd_go (by omega) hR (RI_01 hI c36_4b).1) rfl)
      · skip
        refine j_aload_n (pc := 12) hX dX9_read_12 0 rfl ?_
        refine j_get (ci := 9) (pc := 13) hX inG9 rfl 6 (by decide) mw630 0 rfl rfl dX9_read_13 ?_
        refine j_icmp_ge (tgt := 271) (pc := 16) hX dX9_read_16 (by decide) (fun c16_5 => ?_) (fun c16_5 => ?_)
        · skip
          have c16_5n : sg ≤ k := (nI_leI (a := sg) (b := k) (by omega) (by omega)).mp c16_5
          have c16_5m : ¬ k < sg := by omega
          refine j_aload_n (pc := 271) hX dX9_read_271 0 rfl ?_
          refine j_dup (pc := 272) hX dX9_read_272 rfl ?_
          refine j_get (ci := 9) (pc := 273) hX inG9 rfl 9 (by decide) mw633 0 rfl rfl dX9_read_273 ?_
          refine j_iload_n (pc := 276) hX dX9_read_276 1 rfl ?_
          refine j_iconst (v := 3) (pc := 277) hX dX9_read_277 (by decide) ?_
          refine j_icmp_ne (tgt := 285) (pc := 278) hX dX9_read_278 (by decide) (fun _ => ?_) (fun h9 => absurd h9 (by decide))
          refine j_iconst (v := 0) (pc := 285) hX dX9_read_285 (by decide) ?_
          refine j_iadd (pc := 286) hX dX9_read_286 ?_
          refine j_top (b := nI (mn1 + 0)) (nI_add mn1 0) ?_
          refine j_put (ci := 9) (ty := .int) (pc := 287) hX inG9 tyX9 tyX9_ok nmG9 rfl 9 (by decide) mw633 rfl (by decide +kernel) 0 rfl (Nat.le_of_ble_eq_true rfl) (rfl) rfl dX9_read_287 ?_
          refine j_ws (ws2 := [(m, .inr (9, [.ref a0, .ref a1, .int (nI un), .ref a3, .ref a4, .ref a5, .int (nI sg), .ref a7, .ref a8, .int (nI (mn1 + 0)), .ref a10, .ref a11, .int (nI ti), .int dr, .int (nI rd), .int op])), (a5, .inl (gI g, 80, .inl f)), (a7, .inl (gI g, 40, .inl rT)), (a8, .inl (gI g, 40, .inl rP))]) rfl ?_
          refine j_iload_n (pc := 290) hX dX9_read_290 1 rfl ?_
          refine j_iconst (v := 3) (pc := 291) hX dX9_read_291 (by decide) ?_
          refine j_icmp_ne (tgt := 300) (pc := 292) hX dX9_read_292 (by decide) (fun _ => ?_) (fun h9 => absurd h9 (by decide))
          refine j_aload_n (pc := 300) hX dX9_read_300 0 rfl ?_
          refine j_get (ci := 9) (pc := 301) hX inG9 rfl 6 (by decide) mw630 0 rfl rfl dX9_read_301 ?_
          exact j_iret (pc := 304) hX hQ dX9_read_304 rfl ⟨mn1, rT, rP, (by omega), (by rw [pRd_end (by omega) hR, if_pos hI.2.2.2.1]; exact fun h9 => absurd h9 (nI_n6 (by omega))), (by rw [pRd_end (by omega) hR, if_pos hI.2.2.2.1]), (by first | rfl | first | (simp only [jb_t, jb_f, st1, c16_5, c16_5n, c16_5m, reduceIte, eq_self, decide_true, decide_false, Bool.and_true, Bool.true_and, Bool.and_false, Bool.false_and, Bool.and_self, not_true_eq_false, not_false_eq_true, and_true, true_and, and_false, false_and, and_self]; done) | (simp [jb_t, jb_f, st1, c16_5, c16_5n, c16_5m]; done))⟩
        · skip
          have c16_5n : ¬ sg ≤ k := fun h9 => c16_5 ((nI_leI (a := sg) (b := k) (by omega) (by omega)).mpr h9)
          have c16_5m : k < sg := by omega
          refine j_aload_n (pc := 19) hX dX9_read_19 0 rfl ?_
          refine j_get (ci := 9) (pc := 20) hX inG9 rfl 5 (by decide) mw629 0 rfl rfl dX9_read_20 ?_
          refine j_iload_n (pc := 23) hX dX9_read_23 3 rfl ?_
          refine j_iald (pc := 24) hX 1 rfl k rfl (by omega) (by omega) dX9_read_24 ?_
          refine j_istore (lv2 := [(0, .ref m), (1, .int (nI 1)), (2, .int la), (3, .int (nI k)), (4, .int (f k))]) (pc := 25) hX dX9_read_25 [1, 2, 3, 4, 0] (by decide) rfl ?_
          refine j_iload (pc := 27) hX dX9_read_27 4 rfl ?_
          refine j_bipush (v := 97) (pc := 29) hX dX9_read_29 (by decide) ?_
          refine j_bipush (v := 114) (pc := 31) hX dX9_read_31 (by decide) ?_
          refine j_callSI (n := 3) (As := [.int (f k), .int 97, .int 114]) (rest := []) (pc := 33) hX (c_X9_in g (f k) 97 114 ) (CS.of mw661 mw662 mw52 mw663 ⟨by decide +kernel, by decide +kernel, by decide +kernel⟩) (Nat.le_of_ble_eq_true rfl) (Nat.le_of_ble_eq_true rfl) (Nat.le_of_ble_eq_true rfl) (Nat.le_of_ble_eq_true rfl) [] (by decide +kernel) rfl rfl rfl (Nat.le_of_ble_eq_true rfl) dX9_read_33 (fun r6 wz hq7 => ?_)
          obtain ⟨rfl, rfl⟩ := hq7
          refine j_ws (ws2 := [(m, .inr (9, [.ref a0, .ref a1, .int (nI un), .ref a3, .ref a4, .ref a5, .int (nI sg), .ref a7, .ref a8, .int (nI mn1), .ref a10, .ref a11, .int (nI ti), .int dr, .int (nI rd), .int op])), (a5, .inl (gI g, 80, .inl f)), (a7, .inl (gI g, 40, .inl rT)), (a8, .inl (gI g, 40, .inl rP))]) rfl ?_
          refine j_if_eq (tgt := 58) (pc := 36) hX dX9_read_36 (by decide) (fun c36_8 => ?_) (fun c36_8 => ?_)
          · skip
            have c36_8b : (S_in (f k) 97 114) = false := jb_0.mp c36_8
            refine j_iconst (v := 0) (pc := 58) hX dX9_read_58 (by decide) ?_
            refine j_istore (lv2 := [(0, .ref m), (1, .int (nI 1)), (2, .int la), (3, .int (nI k)), (4, .int (f k)), (5, .int 0)]) (pc := 59) hX dX9_read_59 [1, 2, 3, 4, 5, 0] (by decide) rfl ?_
            refine j_iload_n (pc := 61) hX dX9_read_61 1 rfl ?_
            refine j_iconst (v := 2) (pc := 62) hX dX9_read_62 (by decide) ?_
            refine j_icmp_ne (tgt := 78) (pc := 63) hX dX9_read_63 (by decide) (fun _ => ?_) (fun h9 => absurd h9 (by decide))
            refine j_iload_n (pc := 78) hX dX9_read_78 1 rfl ?_
            refine j_iconst (v := 3) (pc := 79) hX dX9_read_79 (by decide) ?_
            refine j_icmp_ne (tgt := 123) (pc := 80) hX dX9_read_80 (by decide) (fun _ => ?_) (fun h9 => absurd h9 (by decide))
            refine j_iconst (v := 0) (pc := 123) hX dX9_read_123 (by decide) ?_
            refine j_istore (lv2 := [(0, .ref m), (1, .int (nI 1)), (2, .int la), (3, .int (nI k)), (4, .int (f k)), (5, .int 0), (6, .int 0)]) (pc := 124) hX dX9_read_124 [1, 2, 3, 4, 5, 6, 0] (by decide) rfl ?_
            refine j_iload (pc := 126) hX dX9_read_126 5 rfl ?_
            refine j_if_eq (tgt := 173) (pc := 128) hX dX9_read_128 (by decide) (fun _ => ?_) (fun h9 => absurd h9 (by decide))
            refine j_iload (pc := 173) hX dX9_read_173 6 rfl ?_
            refine j_if_eq (tgt := 219) (pc := 175) hX dX9_read_175 (by decide) (fun _ => ?_) (fun h9 => absurd h9 (by decide))
            refine j_iload_n (pc := 219) hX dX9_read_219 1 rfl ?_
            refine j_iconst (v := 1) (pc := 220) hX dX9_read_220 (by decide) ?_
            refine j_icmp_ne (tgt := 236) (pc := 221) hX dX9_read_221 (by decide) (fun h9 => absurd h9 (by decide)) (fun _ => ?_)
            refine j_iload (pc := 224) hX dX9_read_224 4 rfl ?_
            refine j_bipush (v := 61) (pc := 226) hX dX9_read_226 (by decide) ?_
            refine j_icmp_ne (tgt := 236) (pc := 228) hX dX9_read_228 (by decide) (fun c228_9 => ?_) (fun c228_9 => ?_)
            · skip
              refine j_iload_n (pc := 236) hX dX9_read_236 1 rfl ?_
              refine j_iconst (v := 3) (pc := 237) hX dX9_read_237 (by decide) ?_
              refine j_icmp_ne (tgt := 263) (pc := 238) hX dX9_read_238 (by decide) (fun _ => ?_) (fun h9 => absurd h9 (by decide))
              refine j_iload_n (pc := 263) hX dX9_read_263 3 rfl ?_
              exact j_iret (pc := 264) hX hQ dX9_read_264 rfl ⟨mn1, rT, rP, (by omega), (by rw [pRd_no (by omega) hR (RI_1f hI c36_8b c228_9)]; exact fun h9 => absurd h9 (nI_n6 (by omega))), (by rw [pRd_no (by omega) hR (RI_1f hI c36_8b c228_9)]), (by first | rfl | first | (simp only [jb_t, jb_f, st1, c16_5, c16_5n, c16_5m, c36_8, c36_8b, c228_9, reduceIte, eq_self, decide_true, decide_false, Bool.and_true, Bool.true_and, Bool.and_false, Bool.false_and, Bool.and_self, not_true_eq_false, not_false_eq_true, and_true, true_and, and_false, false_and, and_self]; done) | (simp [jb_t, jb_f, st1, c16_5, c16_5n, c16_5m, c36_8, c36_8b, c228_9]; done))⟩
            · skip
              refine j_iconst (v := 2) (pc := 231) hX dX9_read_231 (by decide) ?_
              refine j_istore_n (lv2 := [(0, .ref m), (1, .int 2), (2, .int la), (3, .int (nI k)), (4, .int (f k)), (5, .int 0), (6, .int 0)]) (pc := 232) hX dX9_read_232 [1, 0, 2, 3, 4, 5, 6] (by decide) rfl ?_
              refine j_goto (tgt := 265) (pc := 233) hX dX9_read_233 (by decide) ?_
              refine j_iinc (v := nI (k + 1)) (lv2 := [(0, .ref m), (1, .int 2), (2, .int la), (3, .int (nI (k + 1))), (4, .int (f k)), (5, .int 0), (6, .int 0)]) (pc := 265) hX dX9_read_265 3 rfl (nI_add k 1) [1, 2, 3, 0, 4, 5, 6] (by decide) rfl ?_
              refine j_goto (tgt := 11) (pc := 268) hX dX9_read_268 (by decide) ?_
              refine j_lvs (lv2 := [(0, .ref m), (1, .int 2), (2, .int la), (3, .int (nI (k + 1)))]) [0, 1, 2, 3] rfl ?_
              exact j_eq (lv2 := [(0, .ref m), (1, .int (nI 2)), (2, .int la), (3, .int (nI (k + 1)))]) (ws2 := [(m, .inr (9, [.ref a0, .ref a1, .int (nI un), .ref a3, .ref a4, .ref a5, .int (nI sg), .ref a7, .ref a8, .int (nI mn1), .ref a10, .ref a11, .int (nI ti), .int dr, .int (nI rd), .int op])), (a5, .inl (gI g, 80, .inl f)), (a7, .inl (gI g, 40, .inl rT)), (a8, .inl (gI g, 40, .inl rP))]) (by first | rfl | first | (simp only [jb_t, jb_f, st1, c16_5, c16_5n, c16_5m, c36_8, c36_8b, c228_9, reduceIte, eq_self, decide_true, decide_false, Bool.and_true, Bool.true_and, Bool.and_false, Bool.false_and, Bool.and_self, not_true_eq_false, not_false_eq_true, and_true, true_and, and_false, false_and, and_self]; done) | (simp [jb_t, jb_f, st1, c16_5, c16_5n, c16_5m, c36_8, c36_8b, c228_9]; done)) (by first | rfl | first | (simp only [jb_t, jb_f, st1, c16_5, c16_5n, c16_5m, c36_8, c36_8b, c228_9, reduceIte, eq_self, decide_true, decide_false, Bool.and_true, Bool.true_and, Bool.and_false, Bool.false_and, Bool.and_self, not_true_eq_false, not_false_eq_true, and_true, true_and, and_false, false_and, and_self]; done) | (simp [jb_t, jb_f, st1, c16_5, c16_5n, c16_5m, c36_8, c36_8b, c228_9]; done)) (ih11 _ (by omega) (k + 1) 2 mn1 la rT rP (pSign (f k) Q) (by omega) (by omega) (by omega) ((RI_12 hI c228_9).2) (pRd_go (by omega) hR (RI_12 hI c228_9).1) rfl)
          · skip
            have c36_8b : (S_in (f k) 97 114) = true := jb_1.mp c36_8
            refine j_iload_n (pc := 39) hX dX9_read_39 1 rfl ?_
            refine j_if_eq (tgt := 54) (pc := 40) hX dX9_read_40 (by decide) (fun h9 => absurd h9 (by decide)) (fun _ => ?_)
            refine j_iload_n (pc := 43) hX dX9_read_43 1 rfl ?_
            refine j_iconst (v := 1) (pc := 44) hX dX9_read_44 (by decide) ?_
            refine j_icmp_ne (tgt := 58) (pc := 45) hX dX9_read_45 (by decide) (fun h9 => absurd h9 (by decide)) (fun _ => ?_)
            refine j_iload (pc := 48) hX dX9_read_48 4 rfl ?_
            refine j_iload_n (pc := 50) hX dX9_read_50 2 rfl ?_
            refine j_icmp_le (tgt := 58) (pc := 51) hX dX9_read_51 (by decide) (fun c51_10 => ?_) (fun c51_10 => ?_)
            · skip
              refine j_iconst (v := 0) (pc := 58) hX dX9_read_58 (by decide) ?_
              refine j_istore (lv2 := [(0, .ref m), (1, .int (nI 1)), (2, .int la), (3, .int (nI k)), (4, .int (f k)), (5, .int 0)]) (pc := 59) hX dX9_read_59 [1, 2, 3, 4, 5, 0] (by decide) rfl ?_
              refine j_iload_n (pc := 61) hX dX9_read_61 1 rfl ?_
              refine j_iconst (v := 2) (pc := 62) hX dX9_read_62 (by decide) ?_
              refine j_icmp_ne (tgt := 78) (pc := 63) hX dX9_read_63 (by decide) (fun _ => ?_) (fun h9 => absurd h9 (by decide))
              refine j_iload_n (pc := 78) hX dX9_read_78 1 rfl ?_
              refine j_iconst (v := 3) (pc := 79) hX dX9_read_79 (by decide) ?_
              refine j_icmp_ne (tgt := 123) (pc := 80) hX dX9_read_80 (by decide) (fun _ => ?_) (fun h9 => absurd h9 (by decide))
              refine j_iconst (v := 0) (pc := 123) hX dX9_read_123 (by decide) ?_
              refine j_istore (lv2 := [(0, .ref m), (1, .int (nI 1)), (2, .int la), (3, .int (nI k)), (4, .int (f k)), (5, .int 0), (6, .int 0)]) (pc := 124) hX dX9_read_124 [1, 2, 3, 4, 5, 6, 0] (by decide) rfl ?_
              refine j_iload (pc := 126) hX dX9_read_126 5 rfl ?_
              refine j_if_eq (tgt := 173) (pc := 128) hX dX9_read_128 (by decide) (fun _ => ?_) (fun h9 => absurd h9 (by decide))
              refine j_iload (pc := 173) hX dX9_read_173 6 rfl ?_
              refine j_if_eq (tgt := 219) (pc := 175) hX dX9_read_175 (by decide) (fun _ => ?_) (fun h9 => absurd h9 (by decide))
              refine j_iload_n (pc := 219) hX dX9_read_219 1 rfl ?_
              refine j_iconst (v := 1) (pc := 220) hX dX9_read_220 (by decide) ?_
              refine j_icmp_ne (tgt := 236) (pc := 221) hX dX9_read_221 (by decide) (fun h9 => absurd h9 (by decide)) (fun _ => ?_)
              refine j_iload (pc := 224) hX dX9_read_224 4 rfl ?_
              refine j_bipush (v := 61) (pc := 226) hX dX9_read_226 (by decide) ?_
              refine j_icmp_ne (tgt := 236) (pc := 228) hX dX9_read_228 (by decide) (fun c228_11 => ?_) (fun c228_11 => ?_)
              · skip
                refine j_iload_n (pc := 236) hX dX9_read_236 1 rfl ?_
                refine j_iconst (v := 3) (pc := 237) hX dX9_read_237 (by decide) ?_
                refine j_icmp_ne (tgt := 263) (pc := 238) hX dX9_read_238 (by decide) (fun _ => ?_) (fun h9 => absurd h9 (by decide))
                refine j_iload_n (pc := 263) hX dX9_read_263 3 rfl ?_
                exact j_iret (pc := 264) hX hQ dX9_read_264 rfl ⟨mn1, rT, rP, (by omega), (by rw [pRd_no (by omega) hR (RI_1g hI c36_8b (Int32.not_lt.mpr c51_10) c228_11)]; exact fun h9 => absurd h9 (nI_n6 (by omega))), (by rw [pRd_no (by omega) hR (RI_1g hI c36_8b (Int32.not_lt.mpr c51_10) c228_11)]), (by first | rfl | first | (simp only [jb_t, jb_f, st1, c16_5, c16_5n, c16_5m, c36_8, c36_8b, c51_10, c228_11, reduceIte, eq_self, decide_true, decide_false, Bool.and_true, Bool.true_and, Bool.and_false, Bool.false_and, Bool.and_self, not_true_eq_false, not_false_eq_true, and_true, true_and, and_false, false_and, and_self]; done) | (simp [jb_t, jb_f, st1, c16_5, c16_5n, c16_5m, c36_8, c36_8b, c51_10, c228_11]; done))⟩
              · skip
                refine j_iconst (v := 2) (pc := 231) hX dX9_read_231 (by decide) ?_
                refine j_istore_n (lv2 := [(0, .ref m), (1, .int 2), (2, .int la), (3, .int (nI k)), (4, .int (f k)), (5, .int 0), (6, .int 0)]) (pc := 232) hX dX9_read_232 [1, 0, 2, 3, 4, 5, 6] (by decide) rfl ?_
                refine j_goto (tgt := 265) (pc := 233) hX dX9_read_233 (by decide) ?_
                refine j_iinc (v := nI (k + 1)) (lv2 := [(0, .ref m), (1, .int 2), (2, .int la), (3, .int (nI (k + 1))), (4, .int (f k)), (5, .int 0), (6, .int 0)]) (pc := 265) hX dX9_read_265 3 rfl (nI_add k 1) [1, 2, 3, 0, 4, 5, 6] (by decide) rfl ?_
                refine j_goto (tgt := 11) (pc := 268) hX dX9_read_268 (by decide) ?_
                refine j_lvs (lv2 := [(0, .ref m), (1, .int 2), (2, .int la), (3, .int (nI (k + 1)))]) [0, 1, 2, 3] rfl ?_
                exact j_eq (lv2 := [(0, .ref m), (1, .int (nI 2)), (2, .int la), (3, .int (nI (k + 1)))]) (ws2 := [(m, .inr (9, [.ref a0, .ref a1, .int (nI un), .ref a3, .ref a4, .ref a5, .int (nI sg), .ref a7, .ref a8, .int (nI mn1), .ref a10, .ref a11, .int (nI ti), .int dr, .int (nI rd), .int op])), (a5, .inl (gI g, 80, .inl f)), (a7, .inl (gI g, 40, .inl rT)), (a8, .inl (gI g, 40, .inl rP))]) (by first | rfl | first | (simp only [jb_t, jb_f, st1, c16_5, c16_5n, c16_5m, c36_8, c36_8b, c51_10, c228_11, reduceIte, eq_self, decide_true, decide_false, Bool.and_true, Bool.true_and, Bool.and_false, Bool.false_and, Bool.and_self, not_true_eq_false, not_false_eq_true, and_true, true_and, and_false, false_and, and_self]; done) | (simp [jb_t, jb_f, st1, c16_5, c16_5n, c16_5m, c36_8, c36_8b, c51_10, c228_11]; done)) (by first | rfl | first | (simp only [jb_t, jb_f, st1, c16_5, c16_5n, c16_5m, c36_8, c36_8b, c51_10, c228_11, reduceIte, eq_self, decide_true, decide_false, Bool.and_true, Bool.true_and, Bool.and_false, Bool.false_and, Bool.and_self, not_true_eq_false, not_false_eq_true, and_true, true_and, and_false, false_and, and_self]; done) | (simp [jb_t, jb_f, st1, c16_5, c16_5n, c16_5m, c36_8, c36_8b, c51_10, c228_11]; done)) (ih11 _ (by omega) (k + 1) 2 mn1 la rT rP (pSign (f k) Q) (by omega) (by omega) (by omega) ((RI_12 hI c228_11).2) (pRd_go (by omega) hR (RI_12 hI c228_11).1) rfl)
            · skip
              refine j_iconst (v := 1) (pc := 54) hX dX9_read_54 (by decide) ?_
              refine j_goto (tgt := 59) (pc := 55) hX dX9_read_55 (by decide) ?_
              refine j_istore (lv2 := [(0, .ref m), (1, .int (nI 1)), (2, .int la), (3, .int (nI k)), (4, .int (f k)), (5, .int 1)]) (pc := 59) hX dX9_read_59 [1, 2, 3, 4, 5, 0] (by decide) rfl ?_
              refine j_iload_n (pc := 61) hX dX9_read_61 1 rfl ?_
              refine j_iconst (v := 2) (pc := 62) hX dX9_read_62 (by decide) ?_
              refine j_icmp_ne (tgt := 78) (pc := 63) hX dX9_read_63 (by decide) (fun _ => ?_) (fun h9 => absurd h9 (by decide))
              refine j_iload_n (pc := 78) hX dX9_read_78 1 rfl ?_
              refine j_iconst (v := 3) (pc := 79) hX dX9_read_79 (by decide) ?_
              refine j_icmp_ne (tgt := 123) (pc := 80) hX dX9_read_80 (by decide) (fun _ => ?_) (fun h9 => absurd h9 (by decide))
              refine j_iconst (v := 0) (pc := 123) hX dX9_read_123 (by decide) ?_
              refine j_istore (lv2 := [(0, .ref m), (1, .int (nI 1)), (2, .int la), (3, .int (nI k)), (4, .int (f k)), (5, .int 1), (6, .int 0)]) (pc := 124) hX dX9_read_124 [1, 2, 3, 4, 5, 6, 0] (by decide) rfl ?_
              refine j_iload (pc := 126) hX dX9_read_126 5 rfl ?_
              refine j_if_eq (tgt := 173) (pc := 128) hX dX9_read_128 (by decide) (fun h9 => absurd h9 (by decide)) (fun _ => ?_)
              refine j_aload_n (pc := 131) hX dX9_read_131 0 rfl ?_
              refine j_get (ci := 9) (pc := 132) hX inG9 rfl 7 (by decide) mw631 0 rfl rfl dX9_read_132 ?_
              refine j_aload_n (pc := 135) hX dX9_read_135 0 rfl ?_
              refine j_get (ci := 9) (pc := 136) hX inG9 rfl 9 (by decide) mw633 0 rfl rfl dX9_read_136 ?_
              refine j_iload_n (pc := 139) hX dX9_read_139 1 rfl ?_
              refine j_if_ne (tgt := 147) (pc := 140) hX dX9_read_140 (by decide) (fun _ => ?_) (fun h9 => absurd h9 (by decide))
              refine j_aload_n (pc := 147) hX dX9_read_147 0 rfl ?_
              refine j_get (ci := 9) (pc := 148) hX inG9 rfl 7 (by decide) mw631 0 rfl rfl dX9_read_148 ?_
              refine j_aload_n (pc := 151) hX dX9_read_151 0 rfl ?_
              refine j_get (ci := 9) (pc := 152) hX inG9 rfl 9 (by decide) mw633 0 rfl rfl dX9_read_152 ?_
              refine j_iald (pc := 155) hX 2 rfl mn1 rfl (by omega) (by omega) dX9_read_155 ?_
              refine j_iconst (v := 1) (pc := 156) hX dX9_read_156 (by decide) ?_
              refine j_iload (pc := 157) hX dX9_read_157 4 rfl ?_
              refine j_bipush (v := 97) (pc := 159) hX dX9_read_159 (by decide) ?_
              refine j_isub (pc := 161) hX dX9_read_161 ?_
              refine j_ishl (pc := 162) hX dX9_read_162 ?_
              refine j_ior (pc := 163) hX dX9_read_163 ?_
              refine j_iast (pc := 164) hX 2 rfl mn1 rfl (by omega) (by omega) dX9_read_164 ?_
              refine j_ws (ws2 := [(m, .inr (9, [.ref a0, .ref a1, .int (nI un), .ref a3, .ref a4, .ref a5, .int (nI sg), .ref a7, .ref a8, .int (nI mn1), .ref a10, .ref a11, .int (nI ti), .int dr, .int (nI rd), .int op])), (a5, .inl (gI g, 80, .inl f)), (a7, .inl (gI g, 40, .inl (upd rT mn1 ((rT mn1) ||| ((1 : Int32) <<< (((f k) - 97) &&& 31)))))), (a8, .inl (gI g, 40, .inl rP))]) rfl ?_
              refine j_iload (pc := 165) hX dX9_read_165 4 rfl ?_
              refine j_istore_n (lv2 := [(0, .ref m), (1, .int (nI 1)), (2, .int (f k)), (3, .int (nI k)), (4, .int (f k)), (5, .int 1), (6, .int 0)]) (pc := 167) hX dX9_read_167 [1, 2, 0, 3, 4, 5, 6] (by decide) rfl ?_
              refine j_iconst (v := 1) (pc := 168) hX dX9_read_168 (by decide) ?_
              refine j_istore_n (lv2 := [(0, .ref m), (1, .int 1), (2, .int (f k)), (3, .int (nI k)), (4, .int (f k)), (5, .int 1), (6, .int 0)]) (pc := 169) hX dX9_read_169 [1, 0, 2, 3, 4, 5, 6] (by decide) rfl ?_
              refine j_goto (tgt := 265) (pc := 170) hX dX9_read_170 (by decide) ?_
              refine j_iinc (v := nI (k + 1)) (lv2 := [(0, .ref m), (1, .int 1), (2, .int (f k)), (3, .int (nI (k + 1))), (4, .int (f k)), (5, .int 1), (6, .int 0)]) (pc := 265) hX dX9_read_265 3 rfl (nI_add k 1) [1, 2, 3, 0, 4, 5, 6] (by decide) rfl ?_
              refine j_goto (tgt := 11) (pc := 268) hX dX9_read_268 (by decide) ?_
              refine j_lvs (lv2 := [(0, .ref m), (1, .int 1), (2, .int (f k)), (3, .int (nI (k + 1)))]) [0, 1, 2, 3] rfl ?_
              exact j_eq (lv2 := [(0, .ref m), (1, .int (nI 1)), (2, .int (f k)), (3, .int (nI (k + 1)))]) (ws2 := [(m, .inr (9, [.ref a0, .ref a1, .int (nI un), .ref a3, .ref a4, .ref a5, .int (nI sg), .ref a7, .ref a8, .int (nI mn1), .ref a10, .ref a11, .int (nI ti), .int dr, .int (nI rd), .int op])), (a5, .inl (gI g, 80, .inl f)), (a7, .inl (gI g, 40, .inl (upd rT mn1 ((rT mn1) ||| ((1 : Int32) <<< (((f k) - 97) &&& 31)))))), (a8, .inl (gI g, 40, .inl rP))]) (by first | rfl | first | (simp only [jb_t, jb_f, st1, c16_5, c16_5n, c16_5m, c36_8, c36_8b, c51_10, reduceIte, eq_self, decide_true, decide_false, Bool.and_true, Bool.true_and, Bool.and_false, Bool.false_and, Bool.and_self, not_true_eq_false, not_false_eq_true, and_true, true_and, and_false, false_and, and_self]; done) | (simp [jb_t, jb_f, st1, c16_5, c16_5n, c16_5m, c36_8, c36_8b, c51_10]; done)) (by first | rfl | first | (simp only [jb_t, jb_f, st1, c16_5, c16_5n, c16_5m, c36_8, c36_8b, c51_10, reduceIte, eq_self, decide_true, decide_false, Bool.and_true, Bool.true_and, Bool.and_false, Bool.false_and, Bool.and_self, not_true_eq_false, not_false_eq_true, and_true, true_and, and_false, false_and, and_self]; done) | (simp [jb_t, jb_f, st1, c16_5, c16_5n, c16_5m, c36_8, c36_8b, c51_10]; done)) (ih11 _ (by omega) (k + 1) 1 mn1 (f k) (upd rT mn1 ((rT mn1) ||| ((1 : Int32) <<< (((f k) - 97) &&& 31)))) rP (pSign (f k) Q) (by omega) (by omega) (by omega) ((RI_11 hI c36_8b (Int32.not_le.mp c51_10)).2) (pRd_go (by omega) hR (RI_11 hI c36_8b (Int32.not_le.mp c51_10)).1) rfl)
      · skip
        refine j_aload_n (pc := 12) hX dX9_read_12 0 rfl ?_
        refine j_get (ci := 9) (pc := 13) hX inG9 rfl 6 (by decide) mw630 0 rfl rfl dX9_read_13 ?_
        refine j_icmp_ge (tgt := 271) (pc := 16) hX dX9_read_16 (by decide) (fun c16_12 => ?_) (fun c16_12 => ?_)
        · skip
          have c16_12n : sg ≤ k := (nI_leI (a := sg) (b := k) (by omega) (by omega)).mp c16_12
          have c16_12m : ¬ k < sg := by omega
          refine j_aload_n (pc := 271) hX dX9_read_271 0 rfl ?_
          refine j_dup (pc := 272) hX dX9_read_272 rfl ?_
          refine j_get (ci := 9) (pc := 273) hX inG9 rfl 9 (by decide) mw633 0 rfl rfl dX9_read_273 ?_
          refine j_iload_n (pc := 276) hX dX9_read_276 1 rfl ?_
          refine j_iconst (v := 3) (pc := 277) hX dX9_read_277 (by decide) ?_
          refine j_icmp_ne (tgt := 285) (pc := 278) hX dX9_read_278 (by decide) (fun _ => ?_) (fun h9 => absurd h9 (by decide))
          refine j_iconst (v := 0) (pc := 285) hX dX9_read_285 (by decide) ?_
          refine j_iadd (pc := 286) hX dX9_read_286 ?_
          refine j_top (b := nI (mn1 + 0)) (nI_add mn1 0) ?_
          refine j_put (ci := 9) (ty := .int) (pc := 287) hX inG9 tyX9 tyX9_ok nmG9 rfl 9 (by decide) mw633 rfl (by decide +kernel) 0 rfl (Nat.le_of_ble_eq_true rfl) (rfl) rfl dX9_read_287 ?_
          refine j_ws (ws2 := [(m, .inr (9, [.ref a0, .ref a1, .int (nI un), .ref a3, .ref a4, .ref a5, .int (nI sg), .ref a7, .ref a8, .int (nI (mn1 + 0)), .ref a10, .ref a11, .int (nI ti), .int dr, .int (nI rd), .int op])), (a5, .inl (gI g, 80, .inl f)), (a7, .inl (gI g, 40, .inl rT)), (a8, .inl (gI g, 40, .inl rP))]) rfl ?_
          refine j_iload_n (pc := 290) hX dX9_read_290 1 rfl ?_
          refine j_iconst (v := 3) (pc := 291) hX dX9_read_291 (by decide) ?_
          refine j_icmp_ne (tgt := 300) (pc := 292) hX dX9_read_292 (by decide) (fun _ => ?_) (fun h9 => absurd h9 (by decide))
          refine j_aload_n (pc := 300) hX dX9_read_300 0 rfl ?_
          refine j_get (ci := 9) (pc := 301) hX inG9 rfl 6 (by decide) mw630 0 rfl rfl dX9_read_301 ?_
          exact j_iret (pc := 304) hX hQ dX9_read_304 rfl ⟨mn1, rT, rP, (by omega), (by rw [pRd_end (by omega) hR, if_pos hI.2.2.2]; exact fun h9 => absurd h9 (nI_n6 (by omega))), (by rw [pRd_end (by omega) hR, if_pos hI.2.2.2]), (by first | rfl | first | (simp only [jb_t, jb_f, st2, c16_12, c16_12n, c16_12m, reduceIte, eq_self, decide_true, decide_false, Bool.and_true, Bool.true_and, Bool.and_false, Bool.false_and, Bool.and_self, not_true_eq_false, not_false_eq_true, and_true, true_and, and_false, false_and, and_self]; done) | (simp [jb_t, jb_f, st2, c16_12, c16_12n, c16_12m]; done))⟩
        · skip
          have c16_12n : ¬ sg ≤ k := fun h9 => c16_12 ((nI_leI (a := sg) (b := k) (by omega) (by omega)).mpr h9)
          have c16_12m : k < sg := by omega
          refine j_aload_n (pc := 19) hX dX9_read_19 0 rfl ?_
          refine j_get (ci := 9) (pc := 20) hX inG9 rfl 5 (by decide) mw629 0 rfl rfl dX9_read_20 ?_
          refine j_iload_n (pc := 23) hX dX9_read_23 3 rfl ?_
          refine j_iald (pc := 24) hX 1 rfl k rfl (by omega) (by omega) dX9_read_24 ?_
          refine j_istore (lv2 := [(0, .ref m), (1, .int (nI 2)), (2, .int la), (3, .int (nI k)), (4, .int (f k))]) (pc := 25) hX dX9_read_25 [1, 2, 3, 4, 0] (by decide) rfl ?_
          refine j_iload (pc := 27) hX dX9_read_27 4 rfl ?_
          refine j_bipush (v := 97) (pc := 29) hX dX9_read_29 (by decide) ?_
          refine j_bipush (v := 114) (pc := 31) hX dX9_read_31 (by decide) ?_
          refine j_callSI (n := 3) (As := [.int (f k), .int 97, .int 114]) (rest := []) (pc := 33) hX (c_X9_in g (f k) 97 114 ) (CS.of mw661 mw662 mw52 mw663 ⟨by decide +kernel, by decide +kernel, by decide +kernel⟩) (Nat.le_of_ble_eq_true rfl) (Nat.le_of_ble_eq_true rfl) (Nat.le_of_ble_eq_true rfl) (Nat.le_of_ble_eq_true rfl) [] (by decide +kernel) rfl rfl rfl (Nat.le_of_ble_eq_true rfl) dX9_read_33 (fun r13 wz hq14 => ?_)
          obtain ⟨rfl, rfl⟩ := hq14
          refine j_ws (ws2 := [(m, .inr (9, [.ref a0, .ref a1, .int (nI un), .ref a3, .ref a4, .ref a5, .int (nI sg), .ref a7, .ref a8, .int (nI mn1), .ref a10, .ref a11, .int (nI ti), .int dr, .int (nI rd), .int op])), (a5, .inl (gI g, 80, .inl f)), (a7, .inl (gI g, 40, .inl rT)), (a8, .inl (gI g, 40, .inl rP))]) rfl ?_
          refine j_if_eq (tgt := 58) (pc := 36) hX dX9_read_36 (by decide) (fun c36_15 => ?_) (fun c36_15 => ?_)
          · skip
            have c36_15b : (S_in (f k) 97 114) = false := jb_0.mp c36_15
            refine j_iconst (v := 0) (pc := 58) hX dX9_read_58 (by decide) ?_
            refine j_istore (lv2 := [(0, .ref m), (1, .int (nI 2)), (2, .int la), (3, .int (nI k)), (4, .int (f k)), (5, .int 0)]) (pc := 59) hX dX9_read_59 [1, 2, 3, 4, 5, 0] (by decide) rfl ?_
            refine j_iload_n (pc := 61) hX dX9_read_61 1 rfl ?_
            refine j_iconst (v := 2) (pc := 62) hX dX9_read_62 (by decide) ?_
            refine j_icmp_ne (tgt := 78) (pc := 63) hX dX9_read_63 (by decide) (fun h9 => absurd h9 (by decide)) (fun _ => ?_)
            refine j_iload (pc := 66) hX dX9_read_66 4 rfl ?_
            refine j_bipush (v := 49) (pc := 68) hX dX9_read_68 (by decide) ?_
            refine j_bipush (v := 57) (pc := 70) hX dX9_read_70 (by decide) ?_
            refine j_callSI (n := 3) (As := [.int (f k), .int 49, .int 57]) (rest := []) (pc := 72) hX (c_X9_in g (f k) 49 57 ) (CS.of mw661 mw662 mw52 mw663 ⟨by decide +kernel, by decide +kernel, by decide +kernel⟩) (Nat.le_of_ble_eq_true rfl) (Nat.le_of_ble_eq_true rfl) (Nat.le_of_ble_eq_true rfl) (Nat.le_of_ble_eq_true rfl) [] (by decide +kernel) rfl rfl rfl (Nat.le_of_ble_eq_true rfl) dX9_read_72 (fun r16 wz hq17 => ?_)
            obtain ⟨rfl, rfl⟩ := hq17
            refine j_ws (ws2 := [(m, .inr (9, [.ref a0, .ref a1, .int (nI un), .ref a3, .ref a4, .ref a5, .int (nI sg), .ref a7, .ref a8, .int (nI mn1), .ref a10, .ref a11, .int (nI ti), .int dr, .int (nI rd), .int op])), (a5, .inl (gI g, 80, .inl f)), (a7, .inl (gI g, 40, .inl rT)), (a8, .inl (gI g, 40, .inl rP))]) rfl ?_
            refine j_if_ne (tgt := 119) (pc := 75) hX dX9_read_75 (by decide) (fun c75_18 => ?_) (fun c75_18 => ?_)
            · skip
              have c75_18b : (S_in (f k) 49 57) = true := jb_1.mp c75_18
              refine j_iconst (v := 1) (pc := 119) hX dX9_read_119 (by decide) ?_
              refine j_goto (tgt := 124) (pc := 120) hX dX9_read_120 (by decide) ?_
              refine j_istore (lv2 := [(0, .ref m), (1, .int (nI 2)), (2, .int la), (3, .int (nI k)), (4, .int (f k)), (5, .int 0), (6, .int 1)]) (pc := 124) hX dX9_read_124 [1, 2, 3, 4, 5, 6, 0] (by decide) rfl ?_
              refine j_iload (pc := 126) hX dX9_read_126 5 rfl ?_
              refine j_if_eq (tgt := 173) (pc := 128) hX dX9_read_128 (by decide) (fun _ => ?_) (fun h9 => absurd h9 (by decide))
              refine j_iload (pc := 173) hX dX9_read_173 6 rfl ?_
              refine j_if_eq (tgt := 219) (pc := 175) hX dX9_read_175 (by decide) (fun h9 => absurd h9 (by decide)) (fun _ => ?_)
              refine j_aload_n (pc := 178) hX dX9_read_178 0 rfl ?_
              refine j_get (ci := 9) (pc := 179) hX inG9 rfl 8 (by decide) mw632 0 rfl rfl dX9_read_179 ?_
              refine j_aload_n (pc := 182) hX dX9_read_182 0 rfl ?_
              refine j_get (ci := 9) (pc := 183) hX inG9 rfl 9 (by decide) mw633 0 rfl rfl dX9_read_183 ?_
              refine j_iload_n (pc := 186) hX dX9_read_186 1 rfl ?_
              refine j_iconst (v := 2) (pc := 187) hX dX9_read_187 (by decide) ?_
              refine j_icmp_ne (tgt := 195) (pc := 188) hX dX9_read_188 (by decide) (fun h9 => absurd h9 (by decide)) (fun _ => ?_)
              refine j_iconst (v := 0) (pc := 191) hX dX9_read_191 (by decide) ?_
              refine j_goto (tgt := 207) (pc := 192) hX dX9_read_192 (by decide) ?_
              refine j_iload (pc := 207) hX dX9_read_207 4 rfl ?_
              refine j_iadd (pc := 209) hX dX9_read_209 ?_
              refine j_bipush (v := 48) (pc := 210) hX dX9_read_210 (by decide) ?_
              refine j_isub (pc := 212) hX dX9_read_212 ?_
              refine j_iast (pc := 213) hX 3 rfl mn1 rfl (by omega) (by omega) dX9_read_213 ?_
              refine j_ws (ws2 := [(m, .inr (9, [.ref a0, .ref a1, .int (nI un), .ref a3, .ref a4, .ref a5, .int (nI sg), .ref a7, .ref a8, .int (nI mn1), .ref a10, .ref a11, .int (nI ti), .int dr, .int (nI rd), .int op])), (a5, .inl (gI g, 80, .inl f)), (a7, .inl (gI g, 40, .inl rT)), (a8, .inl (gI g, 40, .inl (upd rP mn1 ((0 + (f k)) - 48))))]) rfl ?_
              refine j_iconst (v := 3) (pc := 214) hX dX9_read_214 (by decide) ?_
              refine j_istore_n (lv2 := [(0, .ref m), (1, .int 3), (2, .int la), (3, .int (nI k)), (4, .int (f k)), (5, .int 0), (6, .int 1)]) (pc := 215) hX dX9_read_215 [1, 0, 2, 3, 4, 5, 6] (by decide) rfl ?_
              refine j_goto (tgt := 265) (pc := 216) hX dX9_read_216 (by decide) ?_
              refine j_iinc (v := nI (k + 1)) (lv2 := [(0, .ref m), (1, .int 3), (2, .int la), (3, .int (nI (k + 1))), (4, .int (f k)), (5, .int 0), (6, .int 1)]) (pc := 265) hX dX9_read_265 3 rfl (nI_add k 1) [1, 2, 3, 0, 4, 5, 6] (by decide) rfl ?_
              refine j_goto (tgt := 11) (pc := 268) hX dX9_read_268 (by decide) ?_
              refine j_lvs (lv2 := [(0, .ref m), (1, .int 3), (2, .int la), (3, .int (nI (k + 1)))]) [0, 1, 2, 3] rfl ?_
              exact j_eq (lv2 := [(0, .ref m), (1, .int (nI 3)), (2, .int la), (3, .int (nI (k + 1)))]) (ws2 := [(m, .inr (9, [.ref a0, .ref a1, .int (nI un), .ref a3, .ref a4, .ref a5, .int (nI sg), .ref a7, .ref a8, .int (nI mn1), .ref a10, .ref a11, .int (nI ti), .int dr, .int (nI rd), .int op])), (a5, .inl (gI g, 80, .inl f)), (a7, .inl (gI g, 40, .inl rT)), (a8, .inl (gI g, 40, .inl (upd rP mn1 ((0 + (f k)) - 48))))]) (by first | rfl | first | (simp only [jb_t, jb_f, st2, c16_12, c16_12n, c16_12m, c36_15, c36_15b, c75_18, c75_18b, reduceIte, eq_self, decide_true, decide_false, Bool.and_true, Bool.true_and, Bool.and_false, Bool.false_and, Bool.and_self, not_true_eq_false, not_false_eq_true, and_true, true_and, and_false, false_and, and_self]; done) | (simp [jb_t, jb_f, st2, c16_12, c16_12n, c16_12m, c36_15, c36_15b, c75_18, c75_18b]; done)) (by first | rfl | first | (simp only [jb_t, jb_f, st2, c16_12, c16_12n, c16_12m, c36_15, c36_15b, c75_18, c75_18b, reduceIte, eq_self, decide_true, decide_false, Bool.and_true, Bool.true_and, Bool.and_false, Bool.false_and, Bool.and_self, not_true_eq_false, not_false_eq_true, and_true, true_and, and_false, false_and, and_self]; done) | (simp [jb_t, jb_f, st2, c16_12, c16_12n, c16_12m, c36_15, c36_15b, c75_18, c75_18b]; done)) (ih11 _ (by omega) (k + 1) 3 mn1 la rT (upd rP mn1 ((0 + (f k)) - 48)) (pSign (f k) Q) (by omega) (by omega) (by omega) ((RI_23 hI c75_18b).2) (pRd_go (by omega) hR (RI_23 hI c75_18b).1) rfl)
            · skip
              have c75_18b : (S_in (f k) 49 57) = false := jb_0.mp c75_18
              refine j_iload_n (pc := 78) hX dX9_read_78 1 rfl ?_
              refine j_iconst (v := 3) (pc := 79) hX dX9_read_79 (by decide) ?_
              refine j_icmp_ne (tgt := 123) (pc := 80) hX dX9_read_80 (by decide) (fun _ => ?_) (fun h9 => absurd h9 (by decide))
              refine j_iconst (v := 0) (pc := 123) hX dX9_read_123 (by decide) ?_
              refine j_istore (lv2 := [(0, .ref m), (1, .int (nI 2)), (2, .int la), (3, .int (nI k)), (4, .int (f k)), (5, .int 0), (6, .int 0)]) (pc := 124) hX dX9_read_124 [1, 2, 3, 4, 5, 6, 0] (by decide) rfl ?_
              refine j_iload (pc := 126) hX dX9_read_126 5 rfl ?_
              refine j_if_eq (tgt := 173) (pc := 128) hX dX9_read_128 (by decide) (fun _ => ?_) (fun h9 => absurd h9 (by decide))
              refine j_iload (pc := 173) hX dX9_read_173 6 rfl ?_
              refine j_if_eq (tgt := 219) (pc := 175) hX dX9_read_175 (by decide) (fun _ => ?_) (fun h9 => absurd h9 (by decide))
              refine j_iload_n (pc := 219) hX dX9_read_219 1 rfl ?_
              refine j_iconst (v := 1) (pc := 220) hX dX9_read_220 (by decide) ?_
              refine j_icmp_ne (tgt := 236) (pc := 221) hX dX9_read_221 (by decide) (fun _ => ?_) (fun h9 => absurd h9 (by decide))
              refine j_iload_n (pc := 236) hX dX9_read_236 1 rfl ?_
              refine j_iconst (v := 3) (pc := 237) hX dX9_read_237 (by decide) ?_
              refine j_icmp_ne (tgt := 263) (pc := 238) hX dX9_read_238 (by decide) (fun _ => ?_) (fun h9 => absurd h9 (by decide))
              refine j_iload_n (pc := 263) hX dX9_read_263 3 rfl ?_
              exact j_iret (pc := 264) hX hQ dX9_read_264 rfl ⟨mn1, rT, rP, (by omega), (by rw [pRd_no (by omega) hR (RI_2f hI c75_18b)]; exact fun h9 => absurd h9 (nI_n6 (by omega))), (by rw [pRd_no (by omega) hR (RI_2f hI c75_18b)]), (by first | rfl | first | (simp only [jb_t, jb_f, st2, c16_12, c16_12n, c16_12m, c36_15, c36_15b, c75_18, c75_18b, reduceIte, eq_self, decide_true, decide_false, Bool.and_true, Bool.true_and, Bool.and_false, Bool.false_and, Bool.and_self, not_true_eq_false, not_false_eq_true, and_true, true_and, and_false, false_and, and_self]; done) | (simp [jb_t, jb_f, st2, c16_12, c16_12n, c16_12m, c36_15, c36_15b, c75_18, c75_18b]; done))⟩
          · skip
            have c36_15b : (S_in (f k) 97 114) = true := jb_1.mp c36_15
            refine j_iload_n (pc := 39) hX dX9_read_39 1 rfl ?_
            refine j_if_eq (tgt := 54) (pc := 40) hX dX9_read_40 (by decide) (fun h9 => absurd h9 (by decide)) (fun _ => ?_)
            refine j_iload_n (pc := 43) hX dX9_read_43 1 rfl ?_
            refine j_iconst (v := 1) (pc := 44) hX dX9_read_44 (by decide) ?_
            refine j_icmp_ne (tgt := 58) (pc := 45) hX dX9_read_45 (by decide) (fun _ => ?_) (fun h9 => absurd h9 (by decide))
            refine j_iconst (v := 0) (pc := 58) hX dX9_read_58 (by decide) ?_
            refine j_istore (lv2 := [(0, .ref m), (1, .int (nI 2)), (2, .int la), (3, .int (nI k)), (4, .int (f k)), (5, .int 0)]) (pc := 59) hX dX9_read_59 [1, 2, 3, 4, 5, 0] (by decide) rfl ?_
            refine j_iload_n (pc := 61) hX dX9_read_61 1 rfl ?_
            refine j_iconst (v := 2) (pc := 62) hX dX9_read_62 (by decide) ?_
            refine j_icmp_ne (tgt := 78) (pc := 63) hX dX9_read_63 (by decide) (fun h9 => absurd h9 (by decide)) (fun _ => ?_)
            refine j_iload (pc := 66) hX dX9_read_66 4 rfl ?_
            refine j_bipush (v := 49) (pc := 68) hX dX9_read_68 (by decide) ?_
            refine j_bipush (v := 57) (pc := 70) hX dX9_read_70 (by decide) ?_
            refine j_callSI (n := 3) (As := [.int (f k), .int 49, .int 57]) (rest := []) (pc := 72) hX (c_X9_in g (f k) 49 57 ) (CS.of mw661 mw662 mw52 mw663 ⟨by decide +kernel, by decide +kernel, by decide +kernel⟩) (Nat.le_of_ble_eq_true rfl) (Nat.le_of_ble_eq_true rfl) (Nat.le_of_ble_eq_true rfl) (Nat.le_of_ble_eq_true rfl) [] (by decide +kernel) rfl rfl rfl (Nat.le_of_ble_eq_true rfl) dX9_read_72 (fun r19 wz hq20 => ?_)
            obtain ⟨rfl, rfl⟩ := hq20
            refine j_ws (ws2 := [(m, .inr (9, [.ref a0, .ref a1, .int (nI un), .ref a3, .ref a4, .ref a5, .int (nI sg), .ref a7, .ref a8, .int (nI mn1), .ref a10, .ref a11, .int (nI ti), .int dr, .int (nI rd), .int op])), (a5, .inl (gI g, 80, .inl f)), (a7, .inl (gI g, 40, .inl rT)), (a8, .inl (gI g, 40, .inl rP))]) rfl ?_
            refine j_if_ne (tgt := 119) (pc := 75) hX dX9_read_75 (by decide) (fun c75_21 => ?_) (fun c75_21 => ?_)
            · skip
              have c75_21b : (S_in (f k) 49 57) = true := jb_1.mp c75_21
              refine j_iconst (v := 1) (pc := 119) hX dX9_read_119 (by decide) ?_
              refine j_goto (tgt := 124) (pc := 120) hX dX9_read_120 (by decide) ?_
              refine j_istore (lv2 := [(0, .ref m), (1, .int (nI 2)), (2, .int la), (3, .int (nI k)), (4, .int (f k)), (5, .int 0), (6, .int 1)]) (pc := 124) hX dX9_read_124 [1, 2, 3, 4, 5, 6, 0] (by decide) rfl ?_
              refine j_iload (pc := 126) hX dX9_read_126 5 rfl ?_
              refine j_if_eq (tgt := 173) (pc := 128) hX dX9_read_128 (by decide) (fun _ => ?_) (fun h9 => absurd h9 (by decide))
              refine j_iload (pc := 173) hX dX9_read_173 6 rfl ?_
              refine j_if_eq (tgt := 219) (pc := 175) hX dX9_read_175 (by decide) (fun h9 => absurd h9 (by decide)) (fun _ => ?_)
              refine j_aload_n (pc := 178) hX dX9_read_178 0 rfl ?_
              refine j_get (ci := 9) (pc := 179) hX inG9 rfl 8 (by decide) mw632 0 rfl rfl dX9_read_179 ?_
              refine j_aload_n (pc := 182) hX dX9_read_182 0 rfl ?_
              refine j_get (ci := 9) (pc := 183) hX inG9 rfl 9 (by decide) mw633 0 rfl rfl dX9_read_183 ?_
              refine j_iload_n (pc := 186) hX dX9_read_186 1 rfl ?_
              refine j_iconst (v := 2) (pc := 187) hX dX9_read_187 (by decide) ?_
              refine j_icmp_ne (tgt := 195) (pc := 188) hX dX9_read_188 (by decide) (fun h9 => absurd h9 (by decide)) (fun _ => ?_)
              refine j_iconst (v := 0) (pc := 191) hX dX9_read_191 (by decide) ?_
              refine j_goto (tgt := 207) (pc := 192) hX dX9_read_192 (by decide) ?_
              refine j_iload (pc := 207) hX dX9_read_207 4 rfl ?_
              refine j_iadd (pc := 209) hX dX9_read_209 ?_
              refine j_bipush (v := 48) (pc := 210) hX dX9_read_210 (by decide) ?_
              refine j_isub (pc := 212) hX dX9_read_212 ?_
              refine j_iast (pc := 213) hX 3 rfl mn1 rfl (by omega) (by omega) dX9_read_213 ?_
              refine j_ws (ws2 := [(m, .inr (9, [.ref a0, .ref a1, .int (nI un), .ref a3, .ref a4, .ref a5, .int (nI sg), .ref a7, .ref a8, .int (nI mn1), .ref a10, .ref a11, .int (nI ti), .int dr, .int (nI rd), .int op])), (a5, .inl (gI g, 80, .inl f)), (a7, .inl (gI g, 40, .inl rT)), (a8, .inl (gI g, 40, .inl (upd rP mn1 ((0 + (f k)) - 48))))]) rfl ?_
              refine j_iconst (v := 3) (pc := 214) hX dX9_read_214 (by decide) ?_
              refine j_istore_n (lv2 := [(0, .ref m), (1, .int 3), (2, .int la), (3, .int (nI k)), (4, .int (f k)), (5, .int 0), (6, .int 1)]) (pc := 215) hX dX9_read_215 [1, 0, 2, 3, 4, 5, 6] (by decide) rfl ?_
              refine j_goto (tgt := 265) (pc := 216) hX dX9_read_216 (by decide) ?_
              refine j_iinc (v := nI (k + 1)) (lv2 := [(0, .ref m), (1, .int 3), (2, .int la), (3, .int (nI (k + 1))), (4, .int (f k)), (5, .int 0), (6, .int 1)]) (pc := 265) hX dX9_read_265 3 rfl (nI_add k 1) [1, 2, 3, 0, 4, 5, 6] (by decide) rfl ?_
              refine j_goto (tgt := 11) (pc := 268) hX dX9_read_268 (by decide) ?_
              refine j_lvs (lv2 := [(0, .ref m), (1, .int 3), (2, .int la), (3, .int (nI (k + 1)))]) [0, 1, 2, 3] rfl ?_
              exact j_eq (lv2 := [(0, .ref m), (1, .int (nI 3)), (2, .int la), (3, .int (nI (k + 1)))]) (ws2 := [(m, .inr (9, [.ref a0, .ref a1, .int (nI un), .ref a3, .ref a4, .ref a5, .int (nI sg), .ref a7, .ref a8, .int (nI mn1), .ref a10, .ref a11, .int (nI ti), .int dr, .int (nI rd), .int op])), (a5, .inl (gI g, 80, .inl f)), (a7, .inl (gI g, 40, .inl rT)), (a8, .inl (gI g, 40, .inl (upd rP mn1 ((0 + (f k)) - 48))))]) (by first | rfl | first | (simp only [jb_t, jb_f, st2, c16_12, c16_12n, c16_12m, c36_15, c36_15b, c75_21, c75_21b, reduceIte, eq_self, decide_true, decide_false, Bool.and_true, Bool.true_and, Bool.and_false, Bool.false_and, Bool.and_self, not_true_eq_false, not_false_eq_true, and_true, true_and, and_false, false_and, and_self]; done) | (simp [jb_t, jb_f, st2, c16_12, c16_12n, c16_12m, c36_15, c36_15b, c75_21, c75_21b]; done)) (by first | rfl | first | (simp only [jb_t, jb_f, st2, c16_12, c16_12n, c16_12m, c36_15, c36_15b, c75_21, c75_21b, reduceIte, eq_self, decide_true, decide_false, Bool.and_true, Bool.true_and, Bool.and_false, Bool.false_and, Bool.and_self, not_true_eq_false, not_false_eq_true, and_true, true_and, and_false, false_and, and_self]; done) | (simp [jb_t, jb_f, st2, c16_12, c16_12n, c16_12m, c36_15, c36_15b, c75_21, c75_21b]; done)) (ih11 _ (by omega) (k + 1) 3 mn1 la rT (upd rP mn1 ((0 + (f k)) - 48)) (pSign (f k) Q) (by omega) (by omega) (by omega) ((RI_23 hI c75_21b).2) (pRd_go (by omega) hR (RI_23 hI c75_21b).1) rfl)
            · skip
              have c75_21b : (S_in (f k) 49 57) = false := jb_0.mp c75_21
              refine j_iload_n (pc := 78) hX dX9_read_78 1 rfl ?_
              refine j_iconst (v := 3) (pc := 79) hX dX9_read_79 (by decide) ?_
              refine j_icmp_ne (tgt := 123) (pc := 80) hX dX9_read_80 (by decide) (fun _ => ?_) (fun h9 => absurd h9 (by decide))
              refine j_iconst (v := 0) (pc := 123) hX dX9_read_123 (by decide) ?_
              refine j_istore (lv2 := [(0, .ref m), (1, .int (nI 2)), (2, .int la), (3, .int (nI k)), (4, .int (f k)), (5, .int 0), (6, .int 0)]) (pc := 124) hX dX9_read_124 [1, 2, 3, 4, 5, 6, 0] (by decide) rfl ?_
              refine j_iload (pc := 126) hX dX9_read_126 5 rfl ?_
              refine j_if_eq (tgt := 173) (pc := 128) hX dX9_read_128 (by decide) (fun _ => ?_) (fun h9 => absurd h9 (by decide))
              refine j_iload (pc := 173) hX dX9_read_173 6 rfl ?_
              refine j_if_eq (tgt := 219) (pc := 175) hX dX9_read_175 (by decide) (fun _ => ?_) (fun h9 => absurd h9 (by decide))
              refine j_iload_n (pc := 219) hX dX9_read_219 1 rfl ?_
              refine j_iconst (v := 1) (pc := 220) hX dX9_read_220 (by decide) ?_
              refine j_icmp_ne (tgt := 236) (pc := 221) hX dX9_read_221 (by decide) (fun _ => ?_) (fun h9 => absurd h9 (by decide))
              refine j_iload_n (pc := 236) hX dX9_read_236 1 rfl ?_
              refine j_iconst (v := 3) (pc := 237) hX dX9_read_237 (by decide) ?_
              refine j_icmp_ne (tgt := 263) (pc := 238) hX dX9_read_238 (by decide) (fun _ => ?_) (fun h9 => absurd h9 (by decide))
              refine j_iload_n (pc := 263) hX dX9_read_263 3 rfl ?_
              exact j_iret (pc := 264) hX hQ dX9_read_264 rfl ⟨mn1, rT, rP, (by omega), (by rw [pRd_no (by omega) hR (RI_2f hI c75_21b)]; exact fun h9 => absurd h9 (nI_n6 (by omega))), (by rw [pRd_no (by omega) hR (RI_2f hI c75_21b)]), (by first | rfl | first | (simp only [jb_t, jb_f, st2, c16_12, c16_12n, c16_12m, c36_15, c36_15b, c75_21, c75_21b, reduceIte, eq_self, decide_true, decide_false, Bool.and_true, Bool.true_and, Bool.and_false, Bool.false_and, Bool.and_self, not_true_eq_false, not_false_eq_true, and_true, true_and, and_false, false_and, and_self]; done) | (simp [jb_t, jb_f, st2, c16_12, c16_12n, c16_12m, c36_15, c36_15b, c75_21, c75_21b]; done))⟩
      · skip
        refine j_aload_n (pc := 12) hX dX9_read_12 0 rfl ?_
        refine j_get (ci := 9) (pc := 13) hX inG9 rfl 6 (by decide) mw630 0 rfl rfl dX9_read_13 ?_
        refine j_icmp_ge (tgt := 271) (pc := 16) hX dX9_read_16 (by decide) (fun c16_22 => ?_) (fun c16_22 => ?_)
        · skip
          have c16_22n : sg ≤ k := (nI_leI (a := sg) (b := k) (by omega) (by omega)).mp c16_22
          have c16_22m : ¬ k < sg := by omega
          refine j_aload_n (pc := 271) hX dX9_read_271 0 rfl ?_
          refine j_dup (pc := 272) hX dX9_read_272 rfl ?_
          refine j_get (ci := 9) (pc := 273) hX inG9 rfl 9 (by decide) mw633 0 rfl rfl dX9_read_273 ?_
          refine j_iload_n (pc := 276) hX dX9_read_276 1 rfl ?_
          refine j_iconst (v := 3) (pc := 277) hX dX9_read_277 (by decide) ?_
          refine j_icmp_ne (tgt := 285) (pc := 278) hX dX9_read_278 (by decide) (fun h9 => absurd h9 (by decide)) (fun _ => ?_)
          refine j_iconst (v := 1) (pc := 281) hX dX9_read_281 (by decide) ?_
          refine j_goto (tgt := 286) (pc := 282) hX dX9_read_282 (by decide) ?_
          refine j_iadd (pc := 286) hX dX9_read_286 ?_
          refine j_top (b := nI (mn1 + 1)) (nI_add mn1 1) ?_
          refine j_put (ci := 9) (ty := .int) (pc := 287) hX inG9 tyX9 tyX9_ok nmG9 rfl 9 (by decide) mw633 rfl (by decide +kernel) 0 rfl (Nat.le_of_ble_eq_true rfl) (rfl) rfl dX9_read_287 ?_
          refine j_ws (ws2 := [(m, .inr (9, [.ref a0, .ref a1, .int (nI un), .ref a3, .ref a4, .ref a5, .int (nI sg), .ref a7, .ref a8, .int (nI (mn1 + 1)), .ref a10, .ref a11, .int (nI ti), .int dr, .int (nI rd), .int op])), (a5, .inl (gI g, 80, .inl f)), (a7, .inl (gI g, 40, .inl rT)), (a8, .inl (gI g, 40, .inl rP))]) rfl ?_
          refine j_iload_n (pc := 290) hX dX9_read_290 1 rfl ?_
          refine j_iconst (v := 3) (pc := 291) hX dX9_read_291 (by decide) ?_
          refine j_icmp_ne (tgt := 300) (pc := 292) hX dX9_read_292 (by decide) (fun h9 => absurd h9 (by decide)) (fun _ => ?_)
          refine j_bipush (v := (-6)) (pc := 295) hX dX9_read_295 (by decide) ?_
          refine j_goto (tgt := 304) (pc := 297) hX dX9_read_297 (by decide) ?_
          exact j_iret (pc := 304) hX hQ dX9_read_304 rfl ⟨mn1 + 1, rT, rP, (by omega), (by rw [pRd_end (by omega) hR, if_neg (RI_end hI (by omega)).1]; exact fun _ => (RI_end hI (by omega)).2), (by rw [pRd_end (by omega) hR, if_neg (RI_end hI (by omega)).1]), (by first | rfl | first | (simp only [jb_t, jb_f, st3, c16_22, c16_22n, c16_22m, reduceIte, eq_self, decide_true, decide_false, Bool.and_true, Bool.true_and, Bool.and_false, Bool.false_and, Bool.and_self, not_true_eq_false, not_false_eq_true, and_true, true_and, and_false, false_and, and_self]; done) | (simp [jb_t, jb_f, st3, c16_22, c16_22n, c16_22m]; done))⟩
        · skip
          have c16_22n : ¬ sg ≤ k := fun h9 => c16_22 ((nI_leI (a := sg) (b := k) (by omega) (by omega)).mpr h9)
          have c16_22m : k < sg := by omega
          refine j_aload_n (pc := 19) hX dX9_read_19 0 rfl ?_
          refine j_get (ci := 9) (pc := 20) hX inG9 rfl 5 (by decide) mw629 0 rfl rfl dX9_read_20 ?_
          refine j_iload_n (pc := 23) hX dX9_read_23 3 rfl ?_
          refine j_iald (pc := 24) hX 1 rfl k rfl (by omega) (by omega) dX9_read_24 ?_
          refine j_istore (lv2 := [(0, .ref m), (1, .int (nI 3)), (2, .int la), (3, .int (nI k)), (4, .int (f k))]) (pc := 25) hX dX9_read_25 [1, 2, 3, 4, 0] (by decide) rfl ?_
          refine j_iload (pc := 27) hX dX9_read_27 4 rfl ?_
          refine j_bipush (v := 97) (pc := 29) hX dX9_read_29 (by decide) ?_
          refine j_bipush (v := 114) (pc := 31) hX dX9_read_31 (by decide) ?_
          refine j_callSI (n := 3) (As := [.int (f k), .int 97, .int 114]) (rest := []) (pc := 33) hX (c_X9_in g (f k) 97 114 ) (CS.of mw661 mw662 mw52 mw663 ⟨by decide +kernel, by decide +kernel, by decide +kernel⟩) (Nat.le_of_ble_eq_true rfl) (Nat.le_of_ble_eq_true rfl) (Nat.le_of_ble_eq_true rfl) (Nat.le_of_ble_eq_true rfl) [] (by decide +kernel) rfl rfl rfl (Nat.le_of_ble_eq_true rfl) dX9_read_33 (fun r23 wz hq24 => ?_)
          obtain ⟨rfl, rfl⟩ := hq24
          refine j_ws (ws2 := [(m, .inr (9, [.ref a0, .ref a1, .int (nI un), .ref a3, .ref a4, .ref a5, .int (nI sg), .ref a7, .ref a8, .int (nI mn1), .ref a10, .ref a11, .int (nI ti), .int dr, .int (nI rd), .int op])), (a5, .inl (gI g, 80, .inl f)), (a7, .inl (gI g, 40, .inl rT)), (a8, .inl (gI g, 40, .inl rP))]) rfl ?_
          refine j_if_eq (tgt := 58) (pc := 36) hX dX9_read_36 (by decide) (fun c36_25 => ?_) (fun c36_25 => ?_)
          · skip
            have c36_25b : (S_in (f k) 97 114) = false := jb_0.mp c36_25
            refine j_iconst (v := 0) (pc := 58) hX dX9_read_58 (by decide) ?_
            refine j_istore (lv2 := [(0, .ref m), (1, .int (nI 3)), (2, .int la), (3, .int (nI k)), (4, .int (f k)), (5, .int 0)]) (pc := 59) hX dX9_read_59 [1, 2, 3, 4, 5, 0] (by decide) rfl ?_
            refine j_iload_n (pc := 61) hX dX9_read_61 1 rfl ?_
            refine j_iconst (v := 2) (pc := 62) hX dX9_read_62 (by decide) ?_
            refine j_icmp_ne (tgt := 78) (pc := 63) hX dX9_read_63 (by decide) (fun _ => ?_) (fun h9 => absurd h9 (by decide))
            refine j_iload_n (pc := 78) hX dX9_read_78 1 rfl ?_
            refine j_iconst (v := 3) (pc := 79) hX dX9_read_79 (by decide) ?_
            refine j_icmp_ne (tgt := 123) (pc := 80) hX dX9_read_80 (by decide) (fun h9 => absurd h9 (by decide)) (fun _ => ?_)
            refine j_iload (pc := 83) hX dX9_read_83 4 rfl ?_
            refine j_bipush (v := 48) (pc := 85) hX dX9_read_85 (by decide) ?_
            refine j_bipush (v := 57) (pc := 87) hX dX9_read_87 (by decide) ?_
            refine j_callSI (n := 3) (As := [.int (f k), .int 48, .int 57]) (rest := []) (pc := 89) hX (c_X9_in g (f k) 48 57 ) (CS.of mw661 mw662 mw52 mw663 ⟨by decide +kernel, by decide +kernel, by decide +kernel⟩) (Nat.le_of_ble_eq_true rfl) (Nat.le_of_ble_eq_true rfl) (Nat.le_of_ble_eq_true rfl) (Nat.le_of_ble_eq_true rfl) [] (by decide +kernel) rfl rfl rfl (Nat.le_of_ble_eq_true rfl) dX9_read_89 (fun r26 wz hq27 => ?_)
            obtain ⟨rfl, rfl⟩ := hq27
            refine j_ws (ws2 := [(m, .inr (9, [.ref a0, .ref a1, .int (nI un), .ref a3, .ref a4, .ref a5, .int (nI sg), .ref a7, .ref a8, .int (nI mn1), .ref a10, .ref a11, .int (nI ti), .int dr, .int (nI rd), .int op])), (a5, .inl (gI g, 80, .inl f)), (a7, .inl (gI g, 40, .inl rT)), (a8, .inl (gI g, 40, .inl rP))]) rfl ?_
            refine j_if_eq (tgt := 123) (pc := 92) hX dX9_read_92 (by decide) (fun c92_28 => ?_) (fun c92_28 => ?_)
            · skip
              have c92_28b : (S_in (f k) 48 57) = false := jb_0.mp c92_28
              refine j_iconst (v := 0) (pc := 123) hX dX9_read_123 (by decide) ?_
              refine j_istore (lv2 := [(0, .ref m), (1, .int (nI 3)), (2, .int la), (3, .int (nI k)), (4, .int (f k)), (5, .int 0), (6, .int 0)]) (pc := 124) hX dX9_read_124 [1, 2, 3, 4, 5, 6, 0] (by decide) rfl ?_
              refine j_iload (pc := 126) hX dX9_read_126 5 rfl ?_
              refine j_if_eq (tgt := 173) (pc := 128) hX dX9_read_128 (by decide) (fun _ => ?_) (fun h9 => absurd h9 (by decide))
              refine j_iload (pc := 173) hX dX9_read_173 6 rfl ?_
              refine j_if_eq (tgt := 219) (pc := 175) hX dX9_read_175 (by decide) (fun _ => ?_) (fun h9 => absurd h9 (by decide))
              refine j_iload_n (pc := 219) hX dX9_read_219 1 rfl ?_
              refine j_iconst (v := 1) (pc := 220) hX dX9_read_220 (by decide) ?_
              refine j_icmp_ne (tgt := 236) (pc := 221) hX dX9_read_221 (by decide) (fun _ => ?_) (fun h9 => absurd h9 (by decide))
              refine j_iload_n (pc := 236) hX dX9_read_236 1 rfl ?_
              refine j_iconst (v := 3) (pc := 237) hX dX9_read_237 (by decide) ?_
              refine j_icmp_ne (tgt := 263) (pc := 238) hX dX9_read_238 (by decide) (fun h9 => absurd h9 (by decide)) (fun _ => ?_)
              refine j_iload (pc := 241) hX dX9_read_241 4 rfl ?_
              refine j_bipush (v := 59) (pc := 243) hX dX9_read_243 (by decide) ?_
              refine j_icmp_ne (tgt := 263) (pc := 245) hX dX9_read_245 (by decide) (fun c245_29 => ?_) (fun c245_29 => ?_)
              · skip
                refine j_iload_n (pc := 263) hX dX9_read_263 3 rfl ?_
                exact j_iret (pc := 264) hX hQ dX9_read_264 rfl ⟨mn1, rT, rP, (by omega), (by rw [pRd_no (by omega) hR (RI_3f hI c92_28b c245_29)]; exact fun h9 => absurd h9 (nI_n6 (by omega))), (by rw [pRd_no (by omega) hR (RI_3f hI c92_28b c245_29)]), (by first | rfl | first | (simp only [jb_t, jb_f, st3, c16_22, c16_22n, c16_22m, c36_25, c36_25b, c92_28, c92_28b, c245_29, reduceIte, eq_self, decide_true, decide_false, Bool.and_true, Bool.true_and, Bool.and_false, Bool.false_and, Bool.and_self, not_true_eq_false, not_false_eq_true, and_true, true_and, and_false, false_and, and_self]; done) | (simp [jb_t, jb_f, st3, c16_22, c16_22n, c16_22m, c36_25, c36_25b, c92_28, c92_28b, c245_29]; done))⟩
              · skip
                refine j_aload_n (pc := 248) hX dX9_read_248 0 rfl ?_
                refine j_dup (pc := 249) hX dX9_read_249 rfl ?_
                refine j_get (ci := 9) (pc := 250) hX inG9 rfl 9 (by decide) mw633 0 rfl rfl dX9_read_250 ?_
                refine j_iconst (v := 1) (pc := 253) hX dX9_read_253 (by decide) ?_
                refine j_iadd (pc := 254) hX dX9_read_254 ?_
                refine j_top (b := nI (mn1 + 1)) (nI_add mn1 1) ?_
                refine j_put (ci := 9) (ty := .int) (pc := 255) hX inG9 tyX9 tyX9_ok nmG9 rfl 9 (by decide) mw633 rfl (by decide +kernel) 0 rfl (Nat.le_of_ble_eq_true rfl) (rfl) rfl dX9_read_255 ?_
                refine j_ws (ws2 := [(m, .inr (9, [.ref a0, .ref a1, .int (nI un), .ref a3, .ref a4, .ref a5, .int (nI sg), .ref a7, .ref a8, .int (nI (mn1 + 1)), .ref a10, .ref a11, .int (nI ti), .int dr, .int (nI rd), .int op])), (a5, .inl (gI g, 80, .inl f)), (a7, .inl (gI g, 40, .inl rT)), (a8, .inl (gI g, 40, .inl rP))]) rfl ?_
                refine j_iconst (v := 0) (pc := 258) hX dX9_read_258 (by decide) ?_
                refine j_istore_n (lv2 := [(0, .ref m), (1, .int 0), (2, .int la), (3, .int (nI k)), (4, .int (f k)), (5, .int 0), (6, .int 0)]) (pc := 259) hX dX9_read_259 [1, 0, 2, 3, 4, 5, 6] (by decide) rfl ?_
                refine j_goto (tgt := 265) (pc := 260) hX dX9_read_260 (by decide) ?_
                refine j_iinc (v := nI (k + 1)) (lv2 := [(0, .ref m), (1, .int 0), (2, .int la), (3, .int (nI (k + 1))), (4, .int (f k)), (5, .int 0), (6, .int 0)]) (pc := 265) hX dX9_read_265 3 rfl (nI_add k 1) [1, 2, 3, 0, 4, 5, 6] (by decide) rfl ?_
                refine j_goto (tgt := 11) (pc := 268) hX dX9_read_268 (by decide) ?_
                refine j_lvs (lv2 := [(0, .ref m), (1, .int 0), (2, .int la), (3, .int (nI (k + 1)))]) [0, 1, 2, 3] rfl ?_
                exact j_eq (lv2 := [(0, .ref m), (1, .int (nI 0)), (2, .int la), (3, .int (nI (k + 1)))]) (ws2 := [(m, .inr (9, [.ref a0, .ref a1, .int (nI un), .ref a3, .ref a4, .ref a5, .int (nI sg), .ref a7, .ref a8, .int (nI (mn1 + 1)), .ref a10, .ref a11, .int (nI ti), .int dr, .int (nI rd), .int op])), (a5, .inl (gI g, 80, .inl f)), (a7, .inl (gI g, 40, .inl rT)), (a8, .inl (gI g, 40, .inl rP))]) (by first | rfl | first | (simp only [jb_t, jb_f, st3, c16_22, c16_22n, c16_22m, c36_25, c36_25b, c92_28, c92_28b, c245_29, reduceIte, eq_self, decide_true, decide_false, Bool.and_true, Bool.true_and, Bool.and_false, Bool.false_and, Bool.and_self, not_true_eq_false, not_false_eq_true, and_true, true_and, and_false, false_and, and_self]; done) | (simp [jb_t, jb_f, st3, c16_22, c16_22n, c16_22m, c36_25, c36_25b, c92_28, c92_28b, c245_29]; done)) (by first | rfl | first | (simp only [jb_t, jb_f, st3, c16_22, c16_22n, c16_22m, c36_25, c36_25b, c92_28, c92_28b, c245_29, reduceIte, eq_self, decide_true, decide_false, Bool.and_true, Bool.true_and, Bool.and_false, Bool.false_and, Bool.and_self, not_true_eq_false, not_false_eq_true, and_true, true_and, and_false, false_and, and_self]; done) | (simp [jb_t, jb_f, st3, c16_22, c16_22n, c16_22m, c36_25, c36_25b, c92_28, c92_28b, c245_29]; done)) (ih11 _ (by omega) (k + 1) 0 (mn1 + 1) la rT rP (pSign (f k) Q) (by omega) (by omega) (by omega) ((RI_30 hI (by omega) c245_29).2) (pRd_go (by omega) hR (RI_30 hI (by omega) c245_29).1) rfl)
            · skip
              have c92_28b : (S_in (f k) 48 57) = true := jb_1.mp c92_28
              refine j_bipush (v := 10) (pc := 95) hX dX9_read_95 (by decide) ?_
              refine j_aload_n (pc := 97) hX dX9_read_97 0 rfl ?_
              refine j_get (ci := 9) (pc := 98) hX inG9 rfl 8 (by decide) mw632 0 rfl rfl dX9_read_98 ?_
              refine j_aload_n (pc := 101) hX dX9_read_101 0 rfl ?_
              refine j_get (ci := 9) (pc := 102) hX inG9 rfl 9 (by decide) mw633 0 rfl rfl dX9_read_102 ?_
              refine j_iald (pc := 105) hX 3 rfl mn1 rfl (by omega) (by omega) dX9_read_105 ?_
              refine j_imul (pc := 106) hX dX9_read_106 ?_
              refine j_iload (pc := 107) hX dX9_read_107 4 rfl ?_
              refine j_iadd (pc := 109) hX dX9_read_109 ?_
              refine j_bipush (v := 48) (pc := 110) hX dX9_read_110 (by decide) ?_
              refine j_isub (pc := 112) hX dX9_read_112 ?_
              refine j_sipush (v := 500) (pc := 113) hX dX9_read_113 (by decide) ?_
              refine j_icmp_gt (tgt := 123) (pc := 116) hX dX9_read_116 (by decide) (fun c116_30 => ?_) (fun c116_30 => ?_)
              · skip
                refine j_iconst (v := 0) (pc := 123) hX dX9_read_123 (by decide) ?_
                refine j_istore (lv2 := [(0, .ref m), (1, .int (nI 3)), (2, .int la), (3, .int (nI k)), (4, .int (f k)), (5, .int 0), (6, .int 0)]) (pc := 124) hX dX9_read_124 [1, 2, 3, 4, 5, 6, 0] (by decide) rfl ?_
                refine j_iload (pc := 126) hX dX9_read_126 5 rfl ?_
                refine j_if_eq (tgt := 173) (pc := 128) hX dX9_read_128 (by decide) (fun _ => ?_) (fun h9 => absurd h9 (by decide))
                refine j_iload (pc := 173) hX dX9_read_173 6 rfl ?_
                refine j_if_eq (tgt := 219) (pc := 175) hX dX9_read_175 (by decide) (fun _ => ?_) (fun h9 => absurd h9 (by decide))
                refine j_iload_n (pc := 219) hX dX9_read_219 1 rfl ?_
                refine j_iconst (v := 1) (pc := 220) hX dX9_read_220 (by decide) ?_
                refine j_icmp_ne (tgt := 236) (pc := 221) hX dX9_read_221 (by decide) (fun _ => ?_) (fun h9 => absurd h9 (by decide))
                refine j_iload_n (pc := 236) hX dX9_read_236 1 rfl ?_
                refine j_iconst (v := 3) (pc := 237) hX dX9_read_237 (by decide) ?_
                refine j_icmp_ne (tgt := 263) (pc := 238) hX dX9_read_238 (by decide) (fun h9 => absurd h9 (by decide)) (fun _ => ?_)
                refine j_iload (pc := 241) hX dX9_read_241 4 rfl ?_
                refine j_bipush (v := 59) (pc := 243) hX dX9_read_243 (by decide) ?_
                refine j_icmp_ne (tgt := 263) (pc := 245) hX dX9_read_245 (by decide) (fun c245_31 => ?_) (fun c245_31 => ?_)
                · skip
                  refine j_iload_n (pc := 263) hX dX9_read_263 3 rfl ?_
                  exact j_iret (pc := 264) hX hQ dX9_read_264 rfl ⟨mn1, rT, rP, (by omega), (by rw [pRd_no (by omega) hR (RI_3g hI c92_28b (Int32.not_le.mpr c116_30) c245_31)]; exact fun h9 => absurd h9 (nI_n6 (by omega))), (by rw [pRd_no (by omega) hR (RI_3g hI c92_28b (Int32.not_le.mpr c116_30) c245_31)]), (by first | rfl | first | (simp only [jb_t, jb_f, st3, c16_22, c16_22n, c16_22m, c36_25, c36_25b, c92_28, c92_28b, c116_30, c245_31, reduceIte, eq_self, decide_true, decide_false, Bool.and_true, Bool.true_and, Bool.and_false, Bool.false_and, Bool.and_self, not_true_eq_false, not_false_eq_true, and_true, true_and, and_false, false_and, and_self]; done) | (simp [jb_t, jb_f, st3, c16_22, c16_22n, c16_22m, c36_25, c36_25b, c92_28, c92_28b, c116_30, c245_31]; done))⟩
                · skip
                  refine j_aload_n (pc := 248) hX dX9_read_248 0 rfl ?_
                  refine j_dup (pc := 249) hX dX9_read_249 rfl ?_
                  refine j_get (ci := 9) (pc := 250) hX inG9 rfl 9 (by decide) mw633 0 rfl rfl dX9_read_250 ?_
                  refine j_iconst (v := 1) (pc := 253) hX dX9_read_253 (by decide) ?_
                  refine j_iadd (pc := 254) hX dX9_read_254 ?_
                  refine j_top (b := nI (mn1 + 1)) (nI_add mn1 1) ?_
                  refine j_put (ci := 9) (ty := .int) (pc := 255) hX inG9 tyX9 tyX9_ok nmG9 rfl 9 (by decide) mw633 rfl (by decide +kernel) 0 rfl (Nat.le_of_ble_eq_true rfl) (rfl) rfl dX9_read_255 ?_
                  refine j_ws (ws2 := [(m, .inr (9, [.ref a0, .ref a1, .int (nI un), .ref a3, .ref a4, .ref a5, .int (nI sg), .ref a7, .ref a8, .int (nI (mn1 + 1)), .ref a10, .ref a11, .int (nI ti), .int dr, .int (nI rd), .int op])), (a5, .inl (gI g, 80, .inl f)), (a7, .inl (gI g, 40, .inl rT)), (a8, .inl (gI g, 40, .inl rP))]) rfl ?_
                  refine j_iconst (v := 0) (pc := 258) hX dX9_read_258 (by decide) ?_
                  refine j_istore_n (lv2 := [(0, .ref m), (1, .int 0), (2, .int la), (3, .int (nI k)), (4, .int (f k)), (5, .int 0), (6, .int 0)]) (pc := 259) hX dX9_read_259 [1, 0, 2, 3, 4, 5, 6] (by decide) rfl ?_
                  refine j_goto (tgt := 265) (pc := 260) hX dX9_read_260 (by decide) ?_
                  refine j_iinc (v := nI (k + 1)) (lv2 := [(0, .ref m), (1, .int 0), (2, .int la), (3, .int (nI (k + 1))), (4, .int (f k)), (5, .int 0), (6, .int 0)]) (pc := 265) hX dX9_read_265 3 rfl (nI_add k 1) [1, 2, 3, 0, 4, 5, 6] (by decide) rfl ?_
                  refine j_goto (tgt := 11) (pc := 268) hX dX9_read_268 (by decide) ?_
                  refine j_lvs (lv2 := [(0, .ref m), (1, .int 0), (2, .int la), (3, .int (nI (k + 1)))]) [0, 1, 2, 3] rfl ?_
                  exact j_eq (lv2 := [(0, .ref m), (1, .int (nI 0)), (2, .int la), (3, .int (nI (k + 1)))]) (ws2 := [(m, .inr (9, [.ref a0, .ref a1, .int (nI un), .ref a3, .ref a4, .ref a5, .int (nI sg), .ref a7, .ref a8, .int (nI (mn1 + 1)), .ref a10, .ref a11, .int (nI ti), .int dr, .int (nI rd), .int op])), (a5, .inl (gI g, 80, .inl f)), (a7, .inl (gI g, 40, .inl rT)), (a8, .inl (gI g, 40, .inl rP))]) (by first | rfl | first | (simp only [jb_t, jb_f, st3, c16_22, c16_22n, c16_22m, c36_25, c36_25b, c92_28, c92_28b, c116_30, c245_31, reduceIte, eq_self, decide_true, decide_false, Bool.and_true, Bool.true_and, Bool.and_false, Bool.false_and, Bool.and_self, not_true_eq_false, not_false_eq_true, and_true, true_and, and_false, false_and, and_self]; done) | (simp [jb_t, jb_f, st3, c16_22, c16_22n, c16_22m, c36_25, c36_25b, c92_28, c92_28b, c116_30, c245_31]; done)) (by first | rfl | first | (simp only [jb_t, jb_f, st3, c16_22, c16_22n, c16_22m, c36_25, c36_25b, c92_28, c92_28b, c116_30, c245_31, reduceIte, eq_self, decide_true, decide_false, Bool.and_true, Bool.true_and, Bool.and_false, Bool.false_and, Bool.and_self, not_true_eq_false, not_false_eq_true, and_true, true_and, and_false, false_and, and_self]; done) | (simp [jb_t, jb_f, st3, c16_22, c16_22n, c16_22m, c36_25, c36_25b, c92_28, c92_28b, c116_30, c245_31]; done)) (ih11 _ (by omega) (k + 1) 0 (mn1 + 1) la rT rP (pSign (f k) Q) (by omega) (by omega) (by omega) ((RI_30 hI (by omega) c245_31).2) (pRd_go (by omega) hR (RI_30 hI (by omega) c245_31).1) rfl)
              · skip
                refine j_iconst (v := 1) (pc := 119) hX dX9_read_119 (by decide) ?_
                refine j_goto (tgt := 124) (pc := 120) hX dX9_read_120 (by decide) ?_
                refine j_istore (lv2 := [(0, .ref m), (1, .int (nI 3)), (2, .int la), (3, .int (nI k)), (4, .int (f k)), (5, .int 0), (6, .int 1)]) (pc := 124) hX dX9_read_124 [1, 2, 3, 4, 5, 6, 0] (by decide) rfl ?_
                refine j_iload (pc := 126) hX dX9_read_126 5 rfl ?_
                refine j_if_eq (tgt := 173) (pc := 128) hX dX9_read_128 (by decide) (fun _ => ?_) (fun h9 => absurd h9 (by decide))
                refine j_iload (pc := 173) hX dX9_read_173 6 rfl ?_
                refine j_if_eq (tgt := 219) (pc := 175) hX dX9_read_175 (by decide) (fun h9 => absurd h9 (by decide)) (fun _ => ?_)
                refine j_aload_n (pc := 178) hX dX9_read_178 0 rfl ?_
                refine j_get (ci := 9) (pc := 179) hX inG9 rfl 8 (by decide) mw632 0 rfl rfl dX9_read_179 ?_
                refine j_aload_n (pc := 182) hX dX9_read_182 0 rfl ?_
                refine j_get (ci := 9) (pc := 183) hX inG9 rfl 9 (by decide) mw633 0 rfl rfl dX9_read_183 ?_
                refine j_iload_n (pc := 186) hX dX9_read_186 1 rfl ?_
                refine j_iconst (v := 2) (pc := 187) hX dX9_read_187 (by decide) ?_
                refine j_icmp_ne (tgt := 195) (pc := 188) hX dX9_read_188 (by decide) (fun _ => ?_) (fun h9 => absurd h9 (by decide))
                refine j_bipush (v := 10) (pc := 195) hX dX9_read_195 (by decide) ?_
                refine j_aload_n (pc := 197) hX dX9_read_197 0 rfl ?_
                refine j_get (ci := 9) (pc := 198) hX inG9 rfl 8 (by decide) mw632 0 rfl rfl dX9_read_198 ?_
                refine j_aload_n (pc := 201) hX dX9_read_201 0 rfl ?_
                refine j_get (ci := 9) (pc := 202) hX inG9 rfl 9 (by decide) mw633 0 rfl rfl dX9_read_202 ?_
                refine j_iald (pc := 205) hX 3 rfl mn1 rfl (by omega) (by omega) dX9_read_205 ?_
                refine j_imul (pc := 206) hX dX9_read_206 ?_
                refine j_iload (pc := 207) hX dX9_read_207 4 rfl ?_
                refine j_iadd (pc := 209) hX dX9_read_209 ?_
                refine j_bipush (v := 48) (pc := 210) hX dX9_read_210 (by decide) ?_
                refine j_isub (pc := 212) hX dX9_read_212 ?_
                refine j_iast (pc := 213) hX 3 rfl mn1 rfl (by omega) (by omega) dX9_read_213 ?_
                refine j_ws (ws2 := [(m, .inr (9, [.ref a0, .ref a1, .int (nI un), .ref a3, .ref a4, .ref a5, .int (nI sg), .ref a7, .ref a8, .int (nI mn1), .ref a10, .ref a11, .int (nI ti), .int dr, .int (nI rd), .int op])), (a5, .inl (gI g, 80, .inl f)), (a7, .inl (gI g, 40, .inl rT)), (a8, .inl (gI g, 40, .inl (upd rP mn1 (((10 * (rP mn1)) + (f k)) - 48))))]) rfl ?_
                refine j_iconst (v := 3) (pc := 214) hX dX9_read_214 (by decide) ?_
                refine j_istore_n (lv2 := [(0, .ref m), (1, .int 3), (2, .int la), (3, .int (nI k)), (4, .int (f k)), (5, .int 0), (6, .int 1)]) (pc := 215) hX dX9_read_215 [1, 0, 2, 3, 4, 5, 6] (by decide) rfl ?_
                refine j_goto (tgt := 265) (pc := 216) hX dX9_read_216 (by decide) ?_
                refine j_iinc (v := nI (k + 1)) (lv2 := [(0, .ref m), (1, .int 3), (2, .int la), (3, .int (nI (k + 1))), (4, .int (f k)), (5, .int 0), (6, .int 1)]) (pc := 265) hX dX9_read_265 3 rfl (nI_add k 1) [1, 2, 3, 0, 4, 5, 6] (by decide) rfl ?_
                refine j_goto (tgt := 11) (pc := 268) hX dX9_read_268 (by decide) ?_
                refine j_lvs (lv2 := [(0, .ref m), (1, .int 3), (2, .int la), (3, .int (nI (k + 1)))]) [0, 1, 2, 3] rfl ?_
                exact j_eq (lv2 := [(0, .ref m), (1, .int (nI 3)), (2, .int la), (3, .int (nI (k + 1)))]) (ws2 := [(m, .inr (9, [.ref a0, .ref a1, .int (nI un), .ref a3, .ref a4, .ref a5, .int (nI sg), .ref a7, .ref a8, .int (nI mn1), .ref a10, .ref a11, .int (nI ti), .int dr, .int (nI rd), .int op])), (a5, .inl (gI g, 80, .inl f)), (a7, .inl (gI g, 40, .inl rT)), (a8, .inl (gI g, 40, .inl (upd rP mn1 (((10 * (rP mn1)) + (f k)) - 48))))]) (by first | rfl | first | (simp only [jb_t, jb_f, st3, c16_22, c16_22n, c16_22m, c36_25, c36_25b, c92_28, c92_28b, c116_30, reduceIte, eq_self, decide_true, decide_false, Bool.and_true, Bool.true_and, Bool.and_false, Bool.false_and, Bool.and_self, not_true_eq_false, not_false_eq_true, and_true, true_and, and_false, false_and, and_self]; done) | (simp [jb_t, jb_f, st3, c16_22, c16_22n, c16_22m, c36_25, c36_25b, c92_28, c92_28b, c116_30]; done)) (by first | rfl | first | (simp only [jb_t, jb_f, st3, c16_22, c16_22n, c16_22m, c36_25, c36_25b, c92_28, c92_28b, c116_30, reduceIte, eq_self, decide_true, decide_false, Bool.and_true, Bool.true_and, Bool.and_false, Bool.false_and, Bool.and_self, not_true_eq_false, not_false_eq_true, and_true, true_and, and_false, false_and, and_self]; done) | (simp [jb_t, jb_f, st3, c16_22, c16_22n, c16_22m, c36_25, c36_25b, c92_28, c92_28b, c116_30]; done)) (ih11 _ (by omega) (k + 1) 3 mn1 la rT (upd rP mn1 (((10 * (rP mn1)) + (f k)) - 48)) (pSign (f k) Q) (by omega) (by omega) (by omega) ((RI_33 hI c92_28b (Int32.not_lt.mp c116_30)).2) (pRd_go (by omega) hR (RI_33 hI c92_28b (Int32.not_lt.mp c116_30)).1) rfl)
          · skip
            have c36_25b : (S_in (f k) 97 114) = true := jb_1.mp c36_25
            refine j_iload_n (pc := 39) hX dX9_read_39 1 rfl ?_
            refine j_if_eq (tgt := 54) (pc := 40) hX dX9_read_40 (by decide) (fun h9 => absurd h9 (by decide)) (fun _ => ?_)
            refine j_iload_n (pc := 43) hX dX9_read_43 1 rfl ?_
            refine j_iconst (v := 1) (pc := 44) hX dX9_read_44 (by decide) ?_
            refine j_icmp_ne (tgt := 58) (pc := 45) hX dX9_read_45 (by decide) (fun _ => ?_) (fun h9 => absurd h9 (by decide))
            refine j_iconst (v := 0) (pc := 58) hX dX9_read_58 (by decide) ?_
            refine j_istore (lv2 := [(0, .ref m), (1, .int (nI 3)), (2, .int la), (3, .int (nI k)), (4, .int (f k)), (5, .int 0)]) (pc := 59) hX dX9_read_59 [1, 2, 3, 4, 5, 0] (by decide) rfl ?_
            refine j_iload_n (pc := 61) hX dX9_read_61 1 rfl ?_
            refine j_iconst (v := 2) (pc := 62) hX dX9_read_62 (by decide) ?_
            refine j_icmp_ne (tgt := 78) (pc := 63) hX dX9_read_63 (by decide) (fun _ => ?_) (fun h9 => absurd h9 (by decide))
            refine j_iload_n (pc := 78) hX dX9_read_78 1 rfl ?_
            refine j_iconst (v := 3) (pc := 79) hX dX9_read_79 (by decide) ?_
            refine j_icmp_ne (tgt := 123) (pc := 80) hX dX9_read_80 (by decide) (fun h9 => absurd h9 (by decide)) (fun _ => ?_)
            refine j_iload (pc := 83) hX dX9_read_83 4 rfl ?_
            refine j_bipush (v := 48) (pc := 85) hX dX9_read_85 (by decide) ?_
            refine j_bipush (v := 57) (pc := 87) hX dX9_read_87 (by decide) ?_
            refine j_callSI (n := 3) (As := [.int (f k), .int 48, .int 57]) (rest := []) (pc := 89) hX (c_X9_in g (f k) 48 57 ) (CS.of mw661 mw662 mw52 mw663 ⟨by decide +kernel, by decide +kernel, by decide +kernel⟩) (Nat.le_of_ble_eq_true rfl) (Nat.le_of_ble_eq_true rfl) (Nat.le_of_ble_eq_true rfl) (Nat.le_of_ble_eq_true rfl) [] (by decide +kernel) rfl rfl rfl (Nat.le_of_ble_eq_true rfl) dX9_read_89 (fun r32 wz hq33 => ?_)
            obtain ⟨rfl, rfl⟩ := hq33
            refine j_ws (ws2 := [(m, .inr (9, [.ref a0, .ref a1, .int (nI un), .ref a3, .ref a4, .ref a5, .int (nI sg), .ref a7, .ref a8, .int (nI mn1), .ref a10, .ref a11, .int (nI ti), .int dr, .int (nI rd), .int op])), (a5, .inl (gI g, 80, .inl f)), (a7, .inl (gI g, 40, .inl rT)), (a8, .inl (gI g, 40, .inl rP))]) rfl ?_
            refine j_if_eq (tgt := 123) (pc := 92) hX dX9_read_92 (by decide) (fun c92_34 => ?_) (fun c92_34 => ?_)
            · skip
              have c92_34b : (S_in (f k) 48 57) = false := jb_0.mp c92_34
              refine j_iconst (v := 0) (pc := 123) hX dX9_read_123 (by decide) ?_
              refine j_istore (lv2 := [(0, .ref m), (1, .int (nI 3)), (2, .int la), (3, .int (nI k)), (4, .int (f k)), (5, .int 0), (6, .int 0)]) (pc := 124) hX dX9_read_124 [1, 2, 3, 4, 5, 6, 0] (by decide) rfl ?_
              refine j_iload (pc := 126) hX dX9_read_126 5 rfl ?_
              refine j_if_eq (tgt := 173) (pc := 128) hX dX9_read_128 (by decide) (fun _ => ?_) (fun h9 => absurd h9 (by decide))
              refine j_iload (pc := 173) hX dX9_read_173 6 rfl ?_
              refine j_if_eq (tgt := 219) (pc := 175) hX dX9_read_175 (by decide) (fun _ => ?_) (fun h9 => absurd h9 (by decide))
              refine j_iload_n (pc := 219) hX dX9_read_219 1 rfl ?_
              refine j_iconst (v := 1) (pc := 220) hX dX9_read_220 (by decide) ?_
              refine j_icmp_ne (tgt := 236) (pc := 221) hX dX9_read_221 (by decide) (fun _ => ?_) (fun h9 => absurd h9 (by decide))
              refine j_iload_n (pc := 236) hX dX9_read_236 1 rfl ?_
              refine j_iconst (v := 3) (pc := 237) hX dX9_read_237 (by decide) ?_
              refine j_icmp_ne (tgt := 263) (pc := 238) hX dX9_read_238 (by decide) (fun h9 => absurd h9 (by decide)) (fun _ => ?_)
              refine j_iload (pc := 241) hX dX9_read_241 4 rfl ?_
              refine j_bipush (v := 59) (pc := 243) hX dX9_read_243 (by decide) ?_
              refine j_icmp_ne (tgt := 263) (pc := 245) hX dX9_read_245 (by decide) (fun c245_35 => ?_) (fun c245_35 => ?_)
              · skip
                refine j_iload_n (pc := 263) hX dX9_read_263 3 rfl ?_
                exact j_iret (pc := 264) hX hQ dX9_read_264 rfl ⟨mn1, rT, rP, (by omega), (by rw [pRd_no (by omega) hR (RI_3f hI c92_34b c245_35)]; exact fun h9 => absurd h9 (nI_n6 (by omega))), (by rw [pRd_no (by omega) hR (RI_3f hI c92_34b c245_35)]), (by first | rfl | first | (simp only [jb_t, jb_f, st3, c16_22, c16_22n, c16_22m, c36_25, c36_25b, c92_34, c92_34b, c245_35, reduceIte, eq_self, decide_true, decide_false, Bool.and_true, Bool.true_and, Bool.and_false, Bool.false_and, Bool.and_self, not_true_eq_false, not_false_eq_true, and_true, true_and, and_false, false_and, and_self]; done) | (simp [jb_t, jb_f, st3, c16_22, c16_22n, c16_22m, c36_25, c36_25b, c92_34, c92_34b, c245_35]; done))⟩
              · skip
                refine j_aload_n (pc := 248) hX dX9_read_248 0 rfl ?_
                refine j_dup (pc := 249) hX dX9_read_249 rfl ?_
                refine j_get (ci := 9) (pc := 250) hX inG9 rfl 9 (by decide) mw633 0 rfl rfl dX9_read_250 ?_
                refine j_iconst (v := 1) (pc := 253) hX dX9_read_253 (by decide) ?_
                refine j_iadd (pc := 254) hX dX9_read_254 ?_
                refine j_top (b := nI (mn1 + 1)) (nI_add mn1 1) ?_
                refine j_put (ci := 9) (ty := .int) (pc := 255) hX inG9 tyX9 tyX9_ok nmG9 rfl 9 (by decide) mw633 rfl (by decide +kernel) 0 rfl (Nat.le_of_ble_eq_true rfl) (rfl) rfl dX9_read_255 ?_
                refine j_ws (ws2 := [(m, .inr (9, [.ref a0, .ref a1, .int (nI un), .ref a3, .ref a4, .ref a5, .int (nI sg), .ref a7, .ref a8, .int (nI (mn1 + 1)), .ref a10, .ref a11, .int (nI ti), .int dr, .int (nI rd), .int op])), (a5, .inl (gI g, 80, .inl f)), (a7, .inl (gI g, 40, .inl rT)), (a8, .inl (gI g, 40, .inl rP))]) rfl ?_
                refine j_iconst (v := 0) (pc := 258) hX dX9_read_258 (by decide) ?_
                refine j_istore_n (lv2 := [(0, .ref m), (1, .int 0), (2, .int la), (3, .int (nI k)), (4, .int (f k)), (5, .int 0), (6, .int 0)]) (pc := 259) hX dX9_read_259 [1, 0, 2, 3, 4, 5, 6] (by decide) rfl ?_
                refine j_goto (tgt := 265) (pc := 260) hX dX9_read_260 (by decide) ?_
                refine j_iinc (v := nI (k + 1)) (lv2 := [(0, .ref m), (1, .int 0), (2, .int la), (3, .int (nI (k + 1))), (4, .int (f k)), (5, .int 0), (6, .int 0)]) (pc := 265) hX dX9_read_265 3 rfl (nI_add k 1) [1, 2, 3, 0, 4, 5, 6] (by decide) rfl ?_
                refine j_goto (tgt := 11) (pc := 268) hX dX9_read_268 (by decide) ?_
                refine j_lvs (lv2 := [(0, .ref m), (1, .int 0), (2, .int la), (3, .int (nI (k + 1)))]) [0, 1, 2, 3] rfl ?_
                exact j_eq (lv2 := [(0, .ref m), (1, .int (nI 0)), (2, .int la), (3, .int (nI (k + 1)))]) (ws2 := [(m, .inr (9, [.ref a0, .ref a1, .int (nI un), .ref a3, .ref a4, .ref a5, .int (nI sg), .ref a7, .ref a8, .int (nI (mn1 + 1)), .ref a10, .ref a11, .int (nI ti), .int dr, .int (nI rd), .int op])), (a5, .inl (gI g, 80, .inl f)), (a7, .inl (gI g, 40, .inl rT)), (a8, .inl (gI g, 40, .inl rP))]) (by first | rfl | first | (simp only [jb_t, jb_f, st3, c16_22, c16_22n, c16_22m, c36_25, c36_25b, c92_34, c92_34b, c245_35, reduceIte, eq_self, decide_true, decide_false, Bool.and_true, Bool.true_and, Bool.and_false, Bool.false_and, Bool.and_self, not_true_eq_false, not_false_eq_true, and_true, true_and, and_false, false_and, and_self]; done) | (simp [jb_t, jb_f, st3, c16_22, c16_22n, c16_22m, c36_25, c36_25b, c92_34, c92_34b, c245_35]; done)) (by first | rfl | first | (simp only [jb_t, jb_f, st3, c16_22, c16_22n, c16_22m, c36_25, c36_25b, c92_34, c92_34b, c245_35, reduceIte, eq_self, decide_true, decide_false, Bool.and_true, Bool.true_and, Bool.and_false, Bool.false_and, Bool.and_self, not_true_eq_false, not_false_eq_true, and_true, true_and, and_false, false_and, and_self]; done) | (simp [jb_t, jb_f, st3, c16_22, c16_22n, c16_22m, c36_25, c36_25b, c92_34, c92_34b, c245_35]; done)) (ih11 _ (by omega) (k + 1) 0 (mn1 + 1) la rT rP (pSign (f k) Q) (by omega) (by omega) (by omega) ((RI_30 hI (by omega) c245_35).2) (pRd_go (by omega) hR (RI_30 hI (by omega) c245_35).1) rfl)
            · skip
              have c92_34b : (S_in (f k) 48 57) = true := jb_1.mp c92_34
              refine j_bipush (v := 10) (pc := 95) hX dX9_read_95 (by decide) ?_
              refine j_aload_n (pc := 97) hX dX9_read_97 0 rfl ?_
              refine j_get (ci := 9) (pc := 98) hX inG9 rfl 8 (by decide) mw632 0 rfl rfl dX9_read_98 ?_
              refine j_aload_n (pc := 101) hX dX9_read_101 0 rfl ?_
              refine j_get (ci := 9) (pc := 102) hX inG9 rfl 9 (by decide) mw633 0 rfl rfl dX9_read_102 ?_
              refine j_iald (pc := 105) hX 3 rfl mn1 rfl (by omega) (by omega) dX9_read_105 ?_
              refine j_imul (pc := 106) hX dX9_read_106 ?_
              refine j_iload (pc := 107) hX dX9_read_107 4 rfl ?_
              refine j_iadd (pc := 109) hX dX9_read_109 ?_
              refine j_bipush (v := 48) (pc := 110) hX dX9_read_110 (by decide) ?_
              refine j_isub (pc := 112) hX dX9_read_112 ?_
              refine j_sipush (v := 500) (pc := 113) hX dX9_read_113 (by decide) ?_
              refine j_icmp_gt (tgt := 123) (pc := 116) hX dX9_read_116 (by decide) (fun c116_36 => ?_) (fun c116_36 => ?_)
              · skip
                refine j_iconst (v := 0) (pc := 123) hX dX9_read_123 (by decide) ?_
                refine j_istore (lv2 := [(0, .ref m), (1, .int (nI 3)), (2, .int la), (3, .int (nI k)), (4, .int (f k)), (5, .int 0), (6, .int 0)]) (pc := 124) hX dX9_read_124 [1, 2, 3, 4, 5, 6, 0] (by decide) rfl ?_
                refine j_iload (pc := 126) hX dX9_read_126 5 rfl ?_
                refine j_if_eq (tgt := 173) (pc := 128) hX dX9_read_128 (by decide) (fun _ => ?_) (fun h9 => absurd h9 (by decide))
                refine j_iload (pc := 173) hX dX9_read_173 6 rfl ?_
                refine j_if_eq (tgt := 219) (pc := 175) hX dX9_read_175 (by decide) (fun _ => ?_) (fun h9 => absurd h9 (by decide))
                refine j_iload_n (pc := 219) hX dX9_read_219 1 rfl ?_
                refine j_iconst (v := 1) (pc := 220) hX dX9_read_220 (by decide) ?_
                refine j_icmp_ne (tgt := 236) (pc := 221) hX dX9_read_221 (by decide) (fun _ => ?_) (fun h9 => absurd h9 (by decide))
                refine j_iload_n (pc := 236) hX dX9_read_236 1 rfl ?_
                refine j_iconst (v := 3) (pc := 237) hX dX9_read_237 (by decide) ?_
                refine j_icmp_ne (tgt := 263) (pc := 238) hX dX9_read_238 (by decide) (fun h9 => absurd h9 (by decide)) (fun _ => ?_)
                refine j_iload (pc := 241) hX dX9_read_241 4 rfl ?_
                refine j_bipush (v := 59) (pc := 243) hX dX9_read_243 (by decide) ?_
                refine j_icmp_ne (tgt := 263) (pc := 245) hX dX9_read_245 (by decide) (fun c245_37 => ?_) (fun c245_37 => ?_)
                · skip
                  refine j_iload_n (pc := 263) hX dX9_read_263 3 rfl ?_
                  exact j_iret (pc := 264) hX hQ dX9_read_264 rfl ⟨mn1, rT, rP, (by omega), (by rw [pRd_no (by omega) hR (RI_3g hI c92_34b (Int32.not_le.mpr c116_36) c245_37)]; exact fun h9 => absurd h9 (nI_n6 (by omega))), (by rw [pRd_no (by omega) hR (RI_3g hI c92_34b (Int32.not_le.mpr c116_36) c245_37)]), (by first | rfl | first | (simp only [jb_t, jb_f, st3, c16_22, c16_22n, c16_22m, c36_25, c36_25b, c92_34, c92_34b, c116_36, c245_37, reduceIte, eq_self, decide_true, decide_false, Bool.and_true, Bool.true_and, Bool.and_false, Bool.false_and, Bool.and_self, not_true_eq_false, not_false_eq_true, and_true, true_and, and_false, false_and, and_self]; done) | (simp [jb_t, jb_f, st3, c16_22, c16_22n, c16_22m, c36_25, c36_25b, c92_34, c92_34b, c116_36, c245_37]; done))⟩
                · skip
                  refine j_aload_n (pc := 248) hX dX9_read_248 0 rfl ?_
                  refine j_dup (pc := 249) hX dX9_read_249 rfl ?_
                  refine j_get (ci := 9) (pc := 250) hX inG9 rfl 9 (by decide) mw633 0 rfl rfl dX9_read_250 ?_
                  refine j_iconst (v := 1) (pc := 253) hX dX9_read_253 (by decide) ?_
                  refine j_iadd (pc := 254) hX dX9_read_254 ?_
                  refine j_top (b := nI (mn1 + 1)) (nI_add mn1 1) ?_
                  refine j_put (ci := 9) (ty := .int) (pc := 255) hX inG9 tyX9 tyX9_ok nmG9 rfl 9 (by decide) mw633 rfl (by decide +kernel) 0 rfl (Nat.le_of_ble_eq_true rfl) (rfl) rfl dX9_read_255 ?_
                  refine j_ws (ws2 := [(m, .inr (9, [.ref a0, .ref a1, .int (nI un), .ref a3, .ref a4, .ref a5, .int (nI sg), .ref a7, .ref a8, .int (nI (mn1 + 1)), .ref a10, .ref a11, .int (nI ti), .int dr, .int (nI rd), .int op])), (a5, .inl (gI g, 80, .inl f)), (a7, .inl (gI g, 40, .inl rT)), (a8, .inl (gI g, 40, .inl rP))]) rfl ?_
                  refine j_iconst (v := 0) (pc := 258) hX dX9_read_258 (by decide) ?_
                  refine j_istore_n (lv2 := [(0, .ref m), (1, .int 0), (2, .int la), (3, .int (nI k)), (4, .int (f k)), (5, .int 0), (6, .int 0)]) (pc := 259) hX dX9_read_259 [1, 0, 2, 3, 4, 5, 6] (by decide) rfl ?_
                  refine j_goto (tgt := 265) (pc := 260) hX dX9_read_260 (by decide) ?_
                  refine j_iinc (v := nI (k + 1)) (lv2 := [(0, .ref m), (1, .int 0), (2, .int la), (3, .int (nI (k + 1))), (4, .int (f k)), (5, .int 0), (6, .int 0)]) (pc := 265) hX dX9_read_265 3 rfl (nI_add k 1) [1, 2, 3, 0, 4, 5, 6] (by decide) rfl ?_
                  refine j_goto (tgt := 11) (pc := 268) hX dX9_read_268 (by decide) ?_
                  refine j_lvs (lv2 := [(0, .ref m), (1, .int 0), (2, .int la), (3, .int (nI (k + 1)))]) [0, 1, 2, 3] rfl ?_
                  exact j_eq (lv2 := [(0, .ref m), (1, .int (nI 0)), (2, .int la), (3, .int (nI (k + 1)))]) (ws2 := [(m, .inr (9, [.ref a0, .ref a1, .int (nI un), .ref a3, .ref a4, .ref a5, .int (nI sg), .ref a7, .ref a8, .int (nI (mn1 + 1)), .ref a10, .ref a11, .int (nI ti), .int dr, .int (nI rd), .int op])), (a5, .inl (gI g, 80, .inl f)), (a7, .inl (gI g, 40, .inl rT)), (a8, .inl (gI g, 40, .inl rP))]) (by first | rfl | first | (simp only [jb_t, jb_f, st3, c16_22, c16_22n, c16_22m, c36_25, c36_25b, c92_34, c92_34b, c116_36, c245_37, reduceIte, eq_self, decide_true, decide_false, Bool.and_true, Bool.true_and, Bool.and_false, Bool.false_and, Bool.and_self, not_true_eq_false, not_false_eq_true, and_true, true_and, and_false, false_and, and_self]; done) | (simp [jb_t, jb_f, st3, c16_22, c16_22n, c16_22m, c36_25, c36_25b, c92_34, c92_34b, c116_36, c245_37]; done)) (by first | rfl | first | (simp only [jb_t, jb_f, st3, c16_22, c16_22n, c16_22m, c36_25, c36_25b, c92_34, c92_34b, c116_36, c245_37, reduceIte, eq_self, decide_true, decide_false, Bool.and_true, Bool.true_and, Bool.and_false, Bool.false_and, Bool.and_self, not_true_eq_false, not_false_eq_true, and_true, true_and, and_false, false_and, and_self]; done) | (simp [jb_t, jb_f, st3, c16_22, c16_22n, c16_22m, c36_25, c36_25b, c92_34, c92_34b, c116_36, c245_37]; done)) (ih11 _ (by omega) (k + 1) 0 (mn1 + 1) la rT rP (pSign (f k) Q) (by omega) (by omega) (by omega) ((RI_30 hI (by omega) c245_37).2) (pRd_go (by omega) hR (RI_30 hI (by omega) c245_37).1) rfl)
              · skip
                refine j_iconst (v := 1) (pc := 119) hX dX9_read_119 (by decide) ?_
                refine j_goto (tgt := 124) (pc := 120) hX dX9_read_120 (by decide) ?_
                refine j_istore (lv2 := [(0, .ref m), (1, .int (nI 3)), (2, .int la), (3, .int (nI k)), (4, .int (f k)), (5, .int 0), (6, .int 1)]) (pc := 124) hX dX9_read_124 [1, 2, 3, 4, 5, 6, 0] (by decide) rfl ?_
                refine j_iload (pc := 126) hX dX9_read_126 5 rfl ?_
                refine j_if_eq (tgt := 173) (pc := 128) hX dX9_read_128 (by decide) (fun _ => ?_) (fun h9 => absurd h9 (by decide))
                refine j_iload (pc := 173) hX dX9_read_173 6 rfl ?_
                refine j_if_eq (tgt := 219) (pc := 175) hX dX9_read_175 (by decide) (fun h9 => absurd h9 (by decide)) (fun _ => ?_)
                refine j_aload_n (pc := 178) hX dX9_read_178 0 rfl ?_
                refine j_get (ci := 9) (pc := 179) hX inG9 rfl 8 (by decide) mw632 0 rfl rfl dX9_read_179 ?_
                refine j_aload_n (pc := 182) hX dX9_read_182 0 rfl ?_
                refine j_get (ci := 9) (pc := 183) hX inG9 rfl 9 (by decide) mw633 0 rfl rfl dX9_read_183 ?_
                refine j_iload_n (pc := 186) hX dX9_read_186 1 rfl ?_
                refine j_iconst (v := 2) (pc := 187) hX dX9_read_187 (by decide) ?_
                refine j_icmp_ne (tgt := 195) (pc := 188) hX dX9_read_188 (by decide) (fun _ => ?_) (fun h9 => absurd h9 (by decide))
                refine j_bipush (v := 10) (pc := 195) hX dX9_read_195 (by decide) ?_
                refine j_aload_n (pc := 197) hX dX9_read_197 0 rfl ?_
                refine j_get (ci := 9) (pc := 198) hX inG9 rfl 8 (by decide) mw632 0 rfl rfl dX9_read_198 ?_
                refine j_aload_n (pc := 201) hX dX9_read_201 0 rfl ?_
                refine j_get (ci := 9) (pc := 202) hX inG9 rfl 9 (by decide) mw633 0 rfl rfl dX9_read_202 ?_
                refine j_iald (pc := 205) hX 3 rfl mn1 rfl (by omega) (by omega) dX9_read_205 ?_
                refine j_imul (pc := 206) hX dX9_read_206 ?_
                refine j_iload (pc := 207) hX dX9_read_207 4 rfl ?_
                refine j_iadd (pc := 209) hX dX9_read_209 ?_
                refine j_bipush (v := 48) (pc := 210) hX dX9_read_210 (by decide) ?_
                refine j_isub (pc := 212) hX dX9_read_212 ?_
                refine j_iast (pc := 213) hX 3 rfl mn1 rfl (by omega) (by omega) dX9_read_213 ?_
                refine j_ws (ws2 := [(m, .inr (9, [.ref a0, .ref a1, .int (nI un), .ref a3, .ref a4, .ref a5, .int (nI sg), .ref a7, .ref a8, .int (nI mn1), .ref a10, .ref a11, .int (nI ti), .int dr, .int (nI rd), .int op])), (a5, .inl (gI g, 80, .inl f)), (a7, .inl (gI g, 40, .inl rT)), (a8, .inl (gI g, 40, .inl (upd rP mn1 (((10 * (rP mn1)) + (f k)) - 48))))]) rfl ?_
                refine j_iconst (v := 3) (pc := 214) hX dX9_read_214 (by decide) ?_
                refine j_istore_n (lv2 := [(0, .ref m), (1, .int 3), (2, .int la), (3, .int (nI k)), (4, .int (f k)), (5, .int 0), (6, .int 1)]) (pc := 215) hX dX9_read_215 [1, 0, 2, 3, 4, 5, 6] (by decide) rfl ?_
                refine j_goto (tgt := 265) (pc := 216) hX dX9_read_216 (by decide) ?_
                refine j_iinc (v := nI (k + 1)) (lv2 := [(0, .ref m), (1, .int 3), (2, .int la), (3, .int (nI (k + 1))), (4, .int (f k)), (5, .int 0), (6, .int 1)]) (pc := 265) hX dX9_read_265 3 rfl (nI_add k 1) [1, 2, 3, 0, 4, 5, 6] (by decide) rfl ?_
                refine j_goto (tgt := 11) (pc := 268) hX dX9_read_268 (by decide) ?_
                refine j_lvs (lv2 := [(0, .ref m), (1, .int 3), (2, .int la), (3, .int (nI (k + 1)))]) [0, 1, 2, 3] rfl ?_
                exact j_eq (lv2 := [(0, .ref m), (1, .int (nI 3)), (2, .int la), (3, .int (nI (k + 1)))]) (ws2 := [(m, .inr (9, [.ref a0, .ref a1, .int (nI un), .ref a3, .ref a4, .ref a5, .int (nI sg), .ref a7, .ref a8, .int (nI mn1), .ref a10, .ref a11, .int (nI ti), .int dr, .int (nI rd), .int op])), (a5, .inl (gI g, 80, .inl f)), (a7, .inl (gI g, 40, .inl rT)), (a8, .inl (gI g, 40, .inl (upd rP mn1 (((10 * (rP mn1)) + (f k)) - 48))))]) (by first | rfl | first | (simp only [jb_t, jb_f, st3, c16_22, c16_22n, c16_22m, c36_25, c36_25b, c92_34, c92_34b, c116_36, reduceIte, eq_self, decide_true, decide_false, Bool.and_true, Bool.true_and, Bool.and_false, Bool.false_and, Bool.and_self, not_true_eq_false, not_false_eq_true, and_true, true_and, and_false, false_and, and_self]; done) | (simp [jb_t, jb_f, st3, c16_22, c16_22n, c16_22m, c36_25, c36_25b, c92_34, c92_34b, c116_36]; done)) (by first | rfl | first | (simp only [jb_t, jb_f, st3, c16_22, c16_22n, c16_22m, c36_25, c36_25b, c92_34, c92_34b, c116_36, reduceIte, eq_self, decide_true, decide_false, Bool.and_true, Bool.true_and, Bool.and_false, Bool.false_and, Bool.and_self, not_true_eq_false, not_false_eq_true, and_true, true_and, and_false, false_and, and_self]; done) | (simp [jb_t, jb_f, st3, c16_22, c16_22n, c16_22m, c36_25, c36_25b, c92_34, c92_34b, c116_36]; done)) (ih11 _ (by omega) (k + 1) 3 mn1 la rT (upd rP mn1 (((10 * (rP mn1)) + (f k)) - 48)) (pSign (f k) Q) (by omega) (by omega) (by omega) ((RI_33 hI c92_34b (Int32.not_lt.mp c116_36)).2) (pRd_go (by omega) hR (RI_33 hI c92_34b (Int32.not_lt.mp c116_36)).1) rfl)
  exact j_eq (lv2 := [(0, .ref m), (1, .int (nI 0)), (2, .int 0), (3, .int (nI 0))]) (ws2 := [(m, .inr (9, [.ref a0, .ref a1, .int (nI un), .ref a3, .ref a4, .ref a5, .int (nI sg), .ref a7, .ref a8, .int (nI 0), .ref a10, .ref a11, .int (nI ti), .int dr, .int (nI rd), .int op])), (a5, .inl (gI g, 80, .inl f)), (a7, .inl (gI g, 40, .inl gT)), (a8, .inl (gI g, 40, .inl gP))]) (rfl) (rfl) (L11 _ 0 0 0 0 gT gP (pZero P) (by omega) (by omega) (by omega) (⟨⟨rfl, fun j hj => absurd hj (Nat.not_lt_zero j)⟩, rfl, rfl, rfl⟩) (rfl) rfl)

