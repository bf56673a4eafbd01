/-! the queries by shares: class and reference answer the same -/
theorem po_some {v : StT} {p : OT} (h : TI v p) {k : Nat} (hk : k < 32) (hv : v.2.1 ≤ 14) : bt (S_ts p.1 p.2) k = true ↔ 0 ≤ oN (S_po p.1 k p.2) := by
  rw [ts_bit hk _ (TI_32 hv h)]
  have h14 := h.1
  cases hq : S_po p.1 k p.2 with
  | none =>
    constructor
    · rintro ⟨j, hj, hjk⟩
      exact absurd hjk (S_po_n hq j hj)
    · intro h9
      exact absurd h9 (by decide)
  | some j =>
    obtain ⟨hj, hjk⟩ := S_po_lt hq
    constructor
    · intro _
      exact (nI_leI (a := 0) (b := j) (by decide) (by omega)).mpr (Nat.zero_le j)
    · intro _
      exact ⟨j, hj, hjk⟩
theorem qSh_eq {v : StT} (hok : okS v) (z : SHT) {o : Nat → Nat} (ho : ∀ j, o j < 100) {k : Nat} (hk : k < v.2.1) {w : Int32} : qShM v o k w = qSh v z k w := by
  have h14 := hok.1
  unfold qShM qSh
  rw [hasM_eq hok]
  by_cases hc : hasC v = true
  · rw [if_pos hc, if_pos hc]
    obtain ⟨c, x, ⟨⟨a1, a2, a3, a4, a5, a6, a7, a8, a9, a10⟩, hra, hrd, hdr⟩, he⟩ := aLL_sim hok hc z ho
    rw [he]
    have e3 : (if v.2.2.2.2 k = 0 then S_fl (v.2.2.1 k &&& (RM v o).2.2.2.2) (RM v o).1 18 else 0) = (dU x (DM v o)).2.2.2.2.2.2.2.1 k := by
      show _ = x.2.2.2.2.2.2.2.1 k
      by_cases hM : v.2.2.2.2 k = 0
      · rw [if_pos hM, a7 k hk hM, if_neg (Nat.not_lt_zero k), S_fl_NF 18 (fun t ht => (hra t ht).2)]
      · rw [if_neg hM, a8 k hk hM]
    have e4 : (if 0 ≤ oN (S_po (RM v o).2.1 k (RM v o).2.2.1) then (1 : Int32) else 0) = jb (bt (dU x (DM v o)).2.2.2.1 k) := by
      show _ = jb (bt x.2.2.2.1 k)
      rw [a5]
      have hp := po_some a4 (show k < 32 by omega) h14
      by_cases hq : 0 ≤ oN (S_po (RM v o).2.1 k (RM v o).2.2.1)
      · rw [if_pos hq, hp.mpr hq]; rfl
      · rw [if_neg hq]
        cases hb : bt (S_ts (RM v o).2.1 (RM v o).2.2.1) k with
        | false => rfl
        | true => exact absurd (hp.mp hb) hq
    have e5 : oN (S_po (RM v o).2.1 k (RM v o).2.2.1) = (dU x (DM v o)).2.2.2.2.2.2.2.2.1 k := (a9 k hk).symm
    rw [e3, e4, e5]
    rfl
  · rw [if_neg hc, if_neg hc]
theorem ofSet_eq {v : StT} (hok : okS v) (z : SHT) {o : Nat → Nat} (ho : ∀ j, o j < 100) (k w : Int32) : rOfSetM v o k w = rOfSet v z k w := by
  unfold rOfSetM rOfSet
  by_cases hs : S_is v.2.1 k = true
  · rw [if_pos hs, if_pos hs]
    obtain ⟨j, hj, rfl⟩ := S_is_t hok.1 hs
    have h14 := hok.1
    rw [kN_nI (show j < 100 by omega), qSh_eq hok z ho hj, alM_eq hok hj]
  · rw [if_neg hs, if_neg hs]
theorem ofThing_eq {v : StT} (hok : okS v) (z : SHT) {o : Nat → Nat} (ho : ∀ j, o j < 100) (k w : Int32) : rOfThingM v o k w = rOfThing v z k w := by
  unfold rOfThingM rOfThing
  by_cases hs : okTh k = true
  · rw [if_pos hs, if_pos hs]
    obtain ⟨j, hj, rfl⟩ := okTh_t hs
    rw [kN_nI (show j < 100 by omega)]
    unfold qTh
    rw [hasM_eq hok]
    by_cases hc : hasC v = true
    · rw [if_pos hc, if_pos hc]
      obtain ⟨c, x, ⟨-, hra, -, -⟩, he⟩ := aLL_sim hok hc z ho
      rw [he, show (dU x (DM v o)).2.2.2.2.2.2.1 j = x.2.2.2.2.2.2.1 j from rfl, (hra j hj).1, (hra j hj).2]
    · rw [if_neg hc, if_neg hc]
  · rw [if_neg hs, if_neg hs]
theorem S_rs_c {f g : Nat → Int32} : ∀ n, (∀ j, j < n → f j = g j) → S_rs f n = S_rs g n
  | 0, _ => rfl
  | n + 1, h => by rw [S_rs, S_rs, S_rs_c n (fun j hj => h j (by omega)), h n (by omega)]
theorem drM_18 {v : StT} {y : MT} (hT : TY v y) (hv : v.2.1 ≤ 14) : ∀ (p : Nat) (d : Int32), p ≤ y.2.2.1 → in18 d → in18 (drM v y p d)
  | 0, _, _, h => h
  | p + 1, d, hp, h => by
    rw [drM]
    split
    · exact drM_18 hT hv p _ (by omega) (in18_or h (in18_bI (by have := hT.2.2.1 p (by show p < y.2.2.1; omega); have h9 : y.2.1 p < v.2.1 := this; omega)))
    · exact drM_18 hT hv p d (by omega) h
theorem DM_18 {v : StT} {o : Nat → Nat} (hv : v.2.1 ≤ 14) (ho : ∀ j, o j < 100) : in18 (DM v o) := drM_18 (RM_TY hv ho) hv _ _ (Nat.le_refl _) in18_0
theorem shared_eq {v : StT} (hok : okS v) (z : SHT) {o : Nat → Nat} (ho : ∀ j, o j < 100) (w : Int32) : rSharedM v o w = rShared v z w := by
  unfold rSharedM rShared
  by_cases h0 : w < 0
  · rw [if_neg (fun q => (in_low.mp q).1 h0), if_pos h0]
  · rw [if_neg h0]
    by_cases h5 : w ≤ 5
    · rw [if_pos (in_low.mpr ⟨h0, h5⟩), if_pos h5, hasM_eq hok]
      by_cases hc : hasC v = true
      · rw [if_pos hc, if_pos hc]
        obtain ⟨c, x, ⟨⟨a1, a2, a3, a4, a5, a6, a7, a8, a9, a10⟩, hra, hrd, hdr⟩, he⟩ := aLL_sim hok hc z ho
        have es : shC v z = shM v o := by
          unfold shC shM
          rw [he]
          show _ ||| (x.2.2.2.1 &&& (DM v o ^^^ (-1))) = _
          rw [a5]
        have er : S_rs (aLL v z).2.2.2.2.2.2.1 18 = S_rs (RM v o).1 18 := by
          rw [he]
          exact S_rs_c 18 (fun j hj => by rw [show (dU x (DM v o)).2.2.2.2.2.2.1 j = x.2.2.2.2.2.2.1 j from rfl, (hra j hj).1, (hra j hj).2])
        have ed : (aLL v z).2.2.1 = (RM v o).2.2.2.1 := by rw [he]; exact hrd
        have et : (aLL v z).2.2.2.2.1 = (RM v o).2.2.1 := by rw [he]; exact a2
        have ep : popC (aLL v z).2.2.2.2.2.1 = S_size (DM v o) 18 := by rw [he]; exact pop_size (DM_18 hok.1 ho)
        rw [es, er, ed, et, ep]
      · rw [if_neg hc, if_neg hc]
    · rw [if_neg (fun q => h5 (in_low.mp q).2), if_neg h5]

