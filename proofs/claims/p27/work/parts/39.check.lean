/-! the law's checks of the shares -/
theorem fre {v : StT} {j : Nat} (hv : v.2.1 ≤ 14) (hj : j < v.2.1) : bt (S_mk v.2.2.2.2 0 v.2.1) j = decide (v.2.2.2.2 j = 0) := by
  rw [bt_mk _ _ _ (by omega) j (by omega)]
  simp [hj]
theorem fre_t {v : StT} {j : Nat} (hv : v.2.1 ≤ 14) (hj : j < v.2.1) (h : v.2.2.2.2 j = 0) : bt (S_mk v.2.2.2.2 0 v.2.1) j = true := by
  rw [fre hv hj, h]
  rfl
theorem fre_f {v : StT} {j : Nat} (hv : v.2.1 ≤ 14) (hj : j < v.2.1) (h : ¬ v.2.2.2.2 j = 0) : bt (S_mk v.2.2.2.2 0 v.2.1) j = false := by
  rw [fre hv hj]
  exact decide_eq_false h
theorem LF_fUat {v : StT} {y : SHT} {i : Nat} (hi : i < v.2.1) : LF v (fU y i) i = LF v y i - 1 := by
  rw [← LF_fU hi, upE, if_pos rfl]
theorem st5 {v : StT} (hok : okS v) {Z : SHT} {t : Nat} (ht : t < 18) (hG : G4 v Z t) {i : Nat} (hi : i < v.2.1) :
    (bt (S_mk v.2.2.2.2 0 v.2.1) i = false ∧ fS v t (i + 1) (rU Z t) = fS v t i (rU Z t)) ∨
    (bt (S_mk v.2.2.2.2 0 v.2.1) i = true ∧ bt (v.2.2.1 i) t = false ∧ fS v t (i + 1) (rU Z t) = fS v t i (rU Z t) ∧ (LF v (fS v t i (rU Z t)) i = 0 → ¬ PL v (fS v t i (rU Z t)) i < 0)) ∨
    (bt (S_mk v.2.2.2.2 0 v.2.1) i = true ∧ bt (v.2.2.1 i) t = true ∧ fS v t (i + 1) (rU Z t) = fU (fS v t i (rU Z t)) i ∧ ¬ LF v (fU (fS v t i (rU Z t)) i) i = 0) ∨
    (bt (S_mk v.2.2.2.2 0 v.2.1) i = true ∧ bt (v.2.2.1 i) t = true ∧ fS v t (i + 1) (rU Z t) = bT (fU (fS v t i (rU Z t)) i) i (v.2.2.1 i) ∧ LF v (fU (fS v t i (rU Z t)) i) i = 0 ∧ PL v (fS v t i (rU Z t)) i < 0 ∧ (fS v t i (rU Z t)).2.2.2.2.1 < 14) := by
  rw [LF_fUat hi]
  rcases st4 hok ht hG hi with ⟨h1, h2⟩ | ⟨h1, h2, h3, h4⟩ | ⟨h1, h2, h3, h4⟩ | ⟨h1, h2, h3, h4, h5, h6⟩
  · exact Or.inl ⟨fre_f hok.1 hi h1, h2⟩
  · rw [Int32.sub_zero] at h4
    exact Or.inr (Or.inl ⟨fre_t hok.1 hi h1, h2, h3, h4⟩)
  · exact Or.inr (Or.inr (Or.inl ⟨fre_t hok.1 hi h1, h2, h3, h4⟩))
  · exact Or.inr (Or.inr (Or.inr ⟨fre_t hok.1 hi h1, h2, h3, h4, h5, h6⟩))
theorem RA_dr {v : StT} (hok : okS v) (hc : hasC v = true) : (RA v).2.2.2.2.2.1 = 0 := by
  obtain ⟨⟨c, -, -, -, h⟩, -⟩ := RA_SI hok hc
  exact h
theorem RA_op {v : StT} (hok : okS v) (hc : hasC v = true) : (RA v).1 = op0 v := by
  obtain ⟨⟨c, ⟨a1, -⟩, -⟩, -⟩ := RA_SI hok hc
  rw [a1]
  have e : ∀ t (y : MT), (mrM v y t).2.2.2.2 = y.2.2.2.2 := fun t => by
    induction t with
    | zero => exact fun y => rfl
    | succ t ih =>
      intro y
      rw [mrM]
      split
      · exact ih y
      · exact ih y
  have e2 : ∀ f (y : MT), (maM v f y).2.2.2.2 = y.2.2.2.2 := fun f => by
    induction f with
    | zero => exact fun y => rfl
    | succ f ih =>
      intro y
      rw [maM]
      split
      · rfl
      · rw [ih, e]
        rfl
  exact e2 500 _
theorem RA_dU {v : StT} (hok : okS v) (hc : hasC v = true) : dR v (RA v).2.2.2.2.1 (dU (RA v) 0) = FR v := by
  have h : dU (RA v) 0 = RA v := by
    have h0 := RA_dr hok hc
    unfold dU
    rw [← h0]
  rw [h]
  rfl
theorem FR_dr {v : StT} {d : Int32} (h : dR v 0 (dU (RA v) d) = FR v) : d = (FR v).2.2.2.2.2.1 := by
  rw [← h]
  rfl
theorem dk_ne {o j : Nat} {d d2 X : Int32} (h : d2 = if o < j then X else d) (hne : ¬ j = o) : d2 = if o < j + 1 then X else d := by
  rw [h]
  by_cases h1 : o < j
  · rw [if_pos h1, if_pos (by omega)]
  · rw [if_neg h1, if_neg (by omega)]
theorem dk_cond {v : StT} (hok : okS v) (hc : hasC v = true) {d : Int32} {p j : Nat} (hj : j = (RA v).2.2.2.2.2.2.2.2.2 p) : (dU (RA v) d).1 &&& (S_or v.2.2.1 ((dU (RA v) d).2.2.2.1 &&& (dW (dU (RA v) d) p ^^^ (-1))) v.2.1 ^^^ (-1)) = op0 v &&& (S_or v.2.2.1 (((RA v).2.2.2.1 &&& (d ^^^ (-1))) &&& (bI j ^^^ (-1))) v.2.1 ^^^ (-1)) := by
  rw [and_assoc3, hj, ← RA_op hok hc]
  rfl
theorem dk_t {v : StT} (hok : okS v) (hc : hasC v = true) {d d2 : Int32} {p j : Nat} (hj : j = (RA v).2.2.2.2.2.2.2.2.2 p) (h : d2 = if (RA v).2.2.2.2.2.2.2.2.2 p < j then dS v (dU (RA v) d) p else d) (h0 : op0 v &&& (S_or v.2.2.1 (((RA v).2.2.2.1 &&& (d2 ^^^ (-1))) &&& (bI j ^^^ (-1))) v.2.1 ^^^ (-1)) = 0) : d2 ||| bI j = if (RA v).2.2.2.2.2.2.2.2.2 p < j + 1 then dS v (dU (RA v) d) p else d := by
  rw [if_neg (by omega)] at h
  subst h
  rw [if_pos (by omega)]
  unfold dS
  rw [dk_cond hok hc hj, if_pos h0, hj]
  rfl
theorem dk_f {v : StT} (hok : okS v) (hc : hasC v = true) {d d2 : Int32} {p j : Nat} (hj : j = (RA v).2.2.2.2.2.2.2.2.2 p) (h : d2 = if (RA v).2.2.2.2.2.2.2.2.2 p < j then dS v (dU (RA v) d) p else d) (h0 : ¬ op0 v &&& (S_or v.2.2.1 (((RA v).2.2.2.1 &&& (d2 ^^^ (-1))) &&& (bI j ^^^ (-1))) v.2.1 ^^^ (-1)) = 0) : d2 = if (RA v).2.2.2.2.2.2.2.2.2 p < j + 1 then dS v (dU (RA v) d) p else d := by
  rw [if_neg (by omega)] at h
  subst h
  rw [if_pos (by omega)]
  unfold dS
  rw [dk_cond hok hc hj, if_neg h0]
  rfl
theorem sub_sub_self (a b : Int32) : a - (a - b) = b := by
  apply Int32.toBitVec_inj.mp
  show a.toBitVec - (a.toBitVec - b.toBitVec) = b.toBitVec
  rw [BitVec.sub_eq_iff_eq_add, BitVec.add_comm, BitVec.sub_add_cancel]
theorem fi_LF {v : StT} {y : SHT} {j : Nat} (hj : j < v.2.1) : y.2.2.2.2.2.2.2.1 j = v.2.2.2.1 j - LF v y j := by
  have e : LF v y j = v.2.2.2.1 j - y.2.2.2.2.2.2.2.1 j := if_pos hj
  rw [e, sub_sub_self]
theorem fi_nf {v : StT} (hok : okS v) (hc : hasC v = true) {j : Nat} (hj : j < v.2.1) (h : bt (S_mk v.2.2.2.2 0 v.2.1) j = false) : (RA v).2.2.2.2.2.2.2.1 j = 0 := by
  obtain ⟨⟨c, ⟨a1, a2, a3, a4, a5, a6, a7, a8, a9, a10⟩, -⟩, -⟩ := RA_SI hok hc
  rw [fre hok.1 hj] at h
  exact a8 j hj (of_decide_eq_false h)
theorem PL_at {v : StT} {y : SHT} {j : Nat} (hj : j < v.2.1) : y.2.2.2.2.2.2.2.2.1 j = PL v y j := (if_pos hj).symm

