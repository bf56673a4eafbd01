/-! the walk: levels -/
theorem sum_bI {P : Nat → Int32} {m : Int32} {i : Nat} (hi32 : i < 32) (hb : bt m i = false) : ∀ n, n ≤ 32 → S_sum P (m ||| bI i) n = if i < n then S_sum P m n + P i else S_sum P m n
  | 0, _ => by rw [if_neg (Nat.not_lt_zero i)]; rfl
  | n + 1, hn => by
    have ih := sum_bI (P := P) hi32 hb n (by omega)
    rw [S_sum, S_sum, b_or, bt_bI hi32 (by omega), ih]
    by_cases he : n = i
    · subst he
      rw [hb, if_neg (Nat.lt_irrefl n), if_pos (show n < n + 1 by omega), if_neg (show ¬ false = true by decide), if_pos (show (false || decide (n = n)) = true by simp)]
    · rw [decide_eq_false he, Bool.or_false]
      by_cases hlt : i < n
      · rw [if_pos hlt, if_pos (show i < n + 1 by omega)]
        split
        · rw [Int32.add_assoc, Int32.add_assoc, Int32.add_comm (P i)]
        · rfl
      · rw [if_neg hlt, if_neg (show ¬ i < n + 1 by omega)]
/-- level l holds the mask x: its price, its things, the things that it has twice -/
def LV (v : StT) (z : WT) (l : Nat) (x : Int32) : Prop :=
  z.2.2.2.2.2.1 l = x ∧ z.2.2.2.2.2.2.1 l = S_sum v.2.2.2.1 x v.2.1 ∧ z.2.2.2.2.2.2.2.1 l = S_or v.2.2.1 x v.2.1 ∧
  ∀ j, bt (z.2.2.2.2.2.2.2.2 l) j = true ↔ ∃ i i2, i < v.2.1 ∧ i2 < v.2.1 ∧ ¬ i = i2 ∧ bt x i = true ∧ bt x i2 = true ∧ bt (v.2.2.1 i) j = true ∧ bt (v.2.2.1 i2) j = true
theorem LV_jn {v : StT} (hok : okS v) {z : WT} {l f i : Nat} {x : Int32} (h : LV v z f x) (hi : i < v.2.1) (hb : bt x i = false) : LV v (jn z l f (bI i) (v.2.2.1 i) (v.2.2.2.1 i)) l (x ||| bI i) := by
  have h14 := hok.1
  obtain ⟨h1, h2, h3, h4⟩ := h
  have up : ∀ (g : Nat → Int32) (a : Int32), upd g l a l = a := fun g a => by rw [upE, if_pos rfl]
  refine ⟨?_, ?_, ?_, fun j => ?_⟩
  · show upd z.2.2.2.2.2.1 l (z.2.2.2.2.2.1 f ||| bI i) l = _
    rw [up, h1]
  · show upd z.2.2.2.2.2.2.1 l (z.2.2.2.2.2.2.1 f + v.2.2.2.1 i) l = _
    rw [up, h2, sum_bI (by omega) hb v.2.1 (by omega), if_pos hi]
  · show upd z.2.2.2.2.2.2.2.1 l (z.2.2.2.2.2.2.2.1 f ||| v.2.2.1 i) l = _
    rw [up, h3, or_bI hi (by omega)]
  · show bt (upd z.2.2.2.2.2.2.2.2 l (z.2.2.2.2.2.2.2.2 f ||| z.2.2.2.2.2.2.2.1 f &&& v.2.2.1 i) l) j = true ↔ _
    rw [up, b_or, b_and, Bool.or_eq_true, Bool.and_eq_true, h4, h3, or_bit]
    have hx : ∀ k, k < v.2.1 → (bt (x ||| bI i) k = true ↔ bt x k = true ∨ k = i) := fun k hk => by
      rw [b_or, bt_bI (by omega) (by omega), Bool.or_eq_true, decide_eq_true_eq]
    constructor
    · rintro (⟨a, b, ha, hb2, hab, xa, xb, ta, tb⟩ | ⟨⟨a, ha, xa, ta⟩, tb⟩)
      · exact ⟨a, b, ha, hb2, hab, (hx a ha).mpr (Or.inl xa), (hx b hb2).mpr (Or.inl xb), ta, tb⟩
      · exact ⟨a, i, ha, hi, (fun q => by rw [q, hb] at xa; cases xa), (hx a ha).mpr (Or.inl xa), (hx i hi).mpr (Or.inr rfl), ta, tb⟩
    · rintro ⟨a, b, ha, hb2, hab, xa, xb, ta, tb⟩
      rcases (hx a ha).mp xa with ya | ya
      · rcases (hx b hb2).mp xb with yb | yb
        · exact Or.inl ⟨a, b, ha, hb2, hab, ya, yb, ta, tb⟩
        · subst yb
          exact Or.inr ⟨⟨a, ha, ya, ta⟩, tb⟩
      · subst ya
        rcases (hx b hb2).mp xb with yb | yb
        · exact Or.inr ⟨⟨b, hb2, yb, tb⟩, ta⟩
        · exact absurd yb.symm hab
theorem LV_cp {v : StT} {z : WT} {l f : Nat} {x : Int32} (h : LV v z f x) : LV v (jn z l f 0 0 0) l x := by
  obtain ⟨h1, h2, h3, h4⟩ := h
  have up : ∀ (g : Nat → Int32) (a : Int32), upd g l a l = a := fun g a => by rw [upE, if_pos rfl]
  refine ⟨?_, ?_, ?_, fun j => ?_⟩
  · show upd z.2.2.2.2.2.1 l (z.2.2.2.2.2.1 f ||| 0) l = _
    rw [up, or0, h1]
  · show upd z.2.2.2.2.2.2.1 l (z.2.2.2.2.2.2.1 f + 0) l = _
    rw [up, add0, h2]
  · show upd z.2.2.2.2.2.2.2.1 l (z.2.2.2.2.2.2.2.1 f ||| 0) l = _
    rw [up, or0, h3]
  · show bt (upd z.2.2.2.2.2.2.2.2 l (z.2.2.2.2.2.2.2.2 f ||| z.2.2.2.2.2.2.2.1 f &&& 0) l) j = true ↔ _
    rw [up, b_or, b_and, b_0, Bool.and_false, Bool.or_false]
    exact h4 j
theorem LV_ne {v : StT} {z : WT} {l f k : Nat} {a b c x : Int32} (hk : ¬ k = l) (h : LV v z k x) : LV v (jn z l f a b c) k x := by
  obtain ⟨h1, h2, h3, h4⟩ := h
  refine ⟨?_, ?_, ?_, fun j => ?_⟩
  · show upd z.2.2.2.2.2.1 l _ k = _
    rw [upE, if_neg hk, h1]
  · show upd z.2.2.2.2.2.2.1 l _ k = _
    rw [upE, if_neg hk, h2]
  · show upd z.2.2.2.2.2.2.2.1 l _ k = _
    rw [upE, if_neg hk, h3]
  · show bt (upd z.2.2.2.2.2.2.2.2 l _ k) j = true ↔ _
    rw [upE, if_neg hk]
    exact h4 j
theorem fr_le (M : Nat → Int32) : ∀ n, fr M n ≤ n
  | 0 => Nat.le_refl 0
  | n + 1 => by
    have := fr_le M n
    rw [fr]
    split <;> omega
theorem fr_mono (M : Nat → Int32) {a : Nat} : ∀ b, a ≤ b → fr M a ≤ fr M b
  | 0, h => by rw [show a = 0 by omega]; exact Nat.le_refl _
  | b + 1, h => by
    by_cases he : a = b + 1
    · rw [he]; exact Nat.le_refl _
    · have := fr_mono M b (show a ≤ b by omega)
      rw [fr]
      omega
/-- the FREE sets below i are noted, every level holds the TAKEN ones below i -/
def FQ (v : StT) (y : WT) (i : Nat) : Prop := y.2.1 = fr v.2.2.2.2 i ∧ ∀ k, k < i → v.2.2.2.2 k = 0 → y.2.2.2.2.1 (fr v.2.2.2.2 k) = bI k ∧ y.2.2.1 (fr v.2.2.2.2 k) = v.2.2.1 k ∧ y.2.2.2.1 (fr v.2.2.2.2 k) = v.2.2.2.1 k
theorem jL_FQ {v : StT} {y : WT} {i : Nat} {a b c : Int32} (h : FQ v y i) : ∀ l, FQ v (jL y a b c l) i
  | 0 => h
  | l + 1 => jL_FQ h l
theorem jL_LV {v : StT} (hok : okS v) {y : WT} {i : Nat} {x : Int32} (hi : i < v.2.1) (hb : bt x i = false) (h : ∀ l, l < 15 → LV v y l x) : ∀ k, k ≤ 15 → ∀ l, l < 15 → LV v (jL y (bI i) (v.2.2.1 i) (v.2.2.2.1 i) k) l (if l < k then x ||| bI i else x)
  | 0, _, l, hl => by rw [if_neg (Nat.not_lt_zero l)]; exact h l hl
  | k + 1, hk, l, hl => by
    have ih := jL_LV hok hi hb h k (by omega)
    show LV v (jn _ k k _ _ _) l _
    by_cases he : l = k
    · subst he
      rw [if_pos (by omega)]
      have h1 := ih l hl
      rw [if_neg (Nat.lt_irrefl l)] at h1
      exact LV_jn hok h1 hi hb
    · have h1 := LV_ne (l := k) (f := k) (a := bI i) (b := v.2.2.1 i) (c := v.2.2.2.1 i) he (ih l hl)
      by_cases hlt : l < k
      · rw [if_pos hlt] at h1
        rw [if_pos (by omega)]
        exact h1
      · rw [if_neg hlt] at h1
        rw [if_neg (by omega)]
        exact h1
theorem LV_nF {v : StT} {z : WT} {l : Nat} {a b c x : Int32} (h : LV v z l x) : LV v (nF z a b c) l x := by
  unfold nF
  split
  · exact h
  · exact h
theorem wS_sim {v : StT} (hok : okS v) (z : WT) : ∀ i, i ≤ v.2.1 → FQ v (wS v i (w0 v z)) i ∧ ∀ l, l < 15 → LV v (wS v i (w0 v z)) l (S_mk v.2.2.2.2 1 i)
  | 0, _ => by
    refine ⟨⟨rfl, fun k hk => absurd hk (Nat.not_lt_zero k)⟩, fun l hl => ⟨?_, ?_, ?_, fun j => ?_⟩⟩
    · show S_fill 0 z.2.2.2.2.2.1 15 l = 0
      rw [S_fillE, if_pos hl]
    · show S_fill 0 z.2.2.2.2.2.2.1 15 l = S_sum v.2.2.2.1 0 v.2.1
      rw [S_fillE, if_pos hl]
      have : ∀ n, S_sum v.2.2.2.1 0 n = 0 := fun n => by
        induction n with
        | zero => rfl
        | succ n ih => rw [S_sum, b_0, if_neg (by decide), ih]
      exact (this _).symm
    · show S_fill 0 z.2.2.2.2.2.2.2.1 15 l = S_or v.2.2.1 0 v.2.1
      rw [S_fillE, if_pos hl]
      have : ∀ n, S_or v.2.2.1 0 n = 0 := fun n => by
        induction n with
        | zero => rfl
        | succ n ih => rw [S_or, b_0, if_neg (by decide), ih]
      exact (this _).symm
    · show bt (S_fill 0 z.2.2.2.2.2.2.2.2 15 l) j = true ↔ _
      rw [S_fillE, if_pos hl, b_0]
      constructor
      · intro h; cases h
      · rintro ⟨a, b, -, -, -, xa, -⟩
        rw [S_mk, b_0] at xa
        cases xa
  | i + 1, hi => by
    have h14 := hok.1
    obtain ⟨⟨f1, f2⟩, hl⟩ := wS_sim hok z i (by omega)
    rw [wS]
    by_cases h0 : v.2.2.2.2 i = 0
    · rw [if_pos h0]
      have hlt : (wS v i (w0 v z)).2.1 < 14 := by
        rw [f1]
        have := fr_le v.2.2.2.2 i
        omega
      refine ⟨⟨?_, fun k hk hM => ?_⟩, fun l h9 => ?_⟩
      · unfold nF
        rw [if_pos hlt, fr, if_pos h0]
        show _ + 1 = _
        rw [f1]
      · unfold nF
        rw [if_pos hlt]
        show upd _ (wS v i (w0 v z)).2.1 (bI i) _ = _ ∧ upd _ (wS v i (w0 v z)).2.1 (v.2.2.1 i) _ = _ ∧ upd _ (wS v i (w0 v z)).2.1 (v.2.2.2.1 i) _ = _
        rw [upE, upE, upE, f1]
        by_cases he : k = i
        · subst he
          rw [if_pos rfl, if_pos rfl, if_pos rfl]
          exact ⟨rfl, rfl, rfl⟩
        · have hm := fr_mono v.2.2.2.2 (a := k + 1) i (by omega)
          rw [fr, if_pos hM] at hm
          rw [if_neg (by omega), if_neg (by omega), if_neg (by omega)]
          exact f2 k (by omega) hM
      · have e : S_mk v.2.2.2.2 1 (i + 1) = S_mk v.2.2.2.2 1 i := by rw [S_mk, if_neg (by rw [h0]; decide)]
        rw [e]
        exact LV_nF (hl l h9)
    · rw [if_neg h0]
      have hfi : FQ v (wS v i (w0 v z)) (i + 1) := by
        refine ⟨by rw [f1, fr, if_neg h0]; rfl, fun k hk hM => ?_⟩
        by_cases he : k = i
        · subst he; exact absurd hM h0
        · exact f2 k (by omega) hM
      by_cases h1 : v.2.2.2.2 i = 1
      · rw [if_pos h1]
        refine ⟨jL_FQ hfi 15, fun l h9 => ?_⟩
        have hb : bt (S_mk v.2.2.2.2 1 i) i = false := by
          rw [bt_mk _ _ _ (by omega) i (by omega)]
          simp
        have := jL_LV hok (show i < v.2.1 by omega) hb hl 15 (Nat.le_refl _) l h9
        rw [if_pos h9] at this
        rw [S_mk, if_pos h1]
        exact this
      · rw [if_neg h1]
        refine ⟨hfi, fun l h9 => ?_⟩
        rw [S_mk, if_neg h1]
        exact hl l h9
