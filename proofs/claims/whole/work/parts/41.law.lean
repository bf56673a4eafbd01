/-! the law: what holds ahead of every step -/
def LI (v : StT) (u : Nat → StT) (o c : Nat) (sw : Nat → StT) (n : Nat) (P : PT) (om : Nat → Nat) (w : Nat → StT) : Prop :=
  okS v ∧ (∀ k, k < 6 → okS (u k)) ∧ (∀ k, k < 2 → okS (sw k)) ∧ o < 6 ∧ c ≤ 6 ∧ n ≤ 80 ∧ P.1 ≤ 21 ∧ (∀ j, om j < 100) ∧ ∀ a, a < c → w a = u ((o + a) % 6)
theorem LI_rec {v v2 : StT} {u sw w : Nat → StT} {o c n : Nat} {P : PT} {om : Nat → Nat} (ok : Bool) (h : LI v u o c sw n P om w) (h2 : okS (mV ok v v2)) : LI (mV ok v v2) (mU ok u o c v) (mO ok o c) (mC ok c) sw n P om (mW ok w c v) := by
  cases ok with
  | false => exact h
  | true =>
    obtain ⟨hv, hu, hsw, ho, hc, hn, hP, hom, hw⟩ := h
    refine ⟨h2, fun k hk => ?_, hsw, ?_, ?_, hn, hP, hom, fun a ha => ?_⟩
    · show okS (hU u o c v k)
      unfold hU
      split
      · exact hv
      · exact hu k hk
    · show hO o c < 6
      unfold hO
      split <;> omega
    · show hC c ≤ 6
      unfold hC
      split <;> omega
    · have ha : a < hC c := ha
      show rW w c v a = hU u o c v ((hO o c + a) % 6)
      unfold hC at ha
      unfold rW hU hO hPl sU shW
      by_cases h6 : c = 6
      · rw [if_pos h6] at ha
        rw [if_pos h6, if_pos h6, if_pos h6]
        by_cases h5 : a = 5
        · rw [if_pos h5, if_pos (by omega)]
        · rw [if_neg h5, if_pos (by omega), if_neg (by omega), hw (a + 1) (by omega)]
          exact congrArg u (by omega)
      · rw [if_neg h6] at ha
        rw [if_neg h6, if_neg h6, if_neg h6]
        by_cases hac : a = c
        · rw [if_pos hac, hac, if_pos rfl]
        · rw [if_neg hac, if_neg (by omega)]
          exact hw a (by omega)
theorem LI_undo {v : StT} {u sw w : Nat → StT} {o c n : Nat} {P : PT} {om : Nat → Nat} (h : LI v u o c sw n P om w) : LI (mV (okUndo c) v (u (tPl o c))) u o (c - 1) sw n P om w ∧ mV (okUndo c) v (w (c - 1)) = mV (okUndo c) v (u (tPl o c)) := by
  obtain ⟨hv, hu, hsw, ho, hc, hn, hP, hom, hw⟩ := h
  have ht : tPl o c < 6 := Nat.mod_lt _ (by decide)
  refine ⟨⟨?_, hu, hsw, ho, by omega, hn, hP, hom, fun a ha => hw a (by omega)⟩, ?_⟩
  · cases hk : okUndo c with
    | false => exact hv
    | true => exact hu _ ht
  · cases hk : okUndo c with
    | false => rfl
    | true =>
      have h0 : ¬ c = 0 := of_decide_eq_true hk
      show w (c - 1) = u (tPl o c)
      rw [hw (c - 1) (by omega)]
      unfold tPl
      exact congrArg u (by omega)
theorem okS_rest {v : StT} {sw : Nat → StT} {b : Nat → Bool} {j0 : Int32} (hv : okS v) (hsw : ∀ k, k < 2 → okS (sw k)) : okS (mV (okRest j0 b) v (sw (kN j0))) := by
  cases hk : okRest j0 b with
  | false => exact hv
  | true =>
    unfold okRest at hk
    rw [Bool.and_eq_true] at hk
    obtain ⟨i, hi, rfl⟩ := okSlot_t hk.1
    rw [kN_nI (by omega)]
    exact hsw i hi
theorem okS_save {v : StT} {sw : Nat → StT} {j0 : Int32} (hv : okS v) (hsw : ∀ k, k < 2 → okS (sw k)) : ∀ k, k < 2 → okS (wSave (okSlot j0) sw j0 v k) := fun k hk => by
  cases hb : okSlot j0 with
  | false => exact hsw k hk
  | true =>
    show okS (sU sw (kN j0) v k)
    unfold sU
    split
    · exact hv
    · exact hsw k hk
theorem pLen_80 {n : Nat} {x : Int64} (h : n ≤ 80) : pLen n x ≤ 80 := by
  unfold pLen
  split
  · exact h
  · split <;> omega
theorem mL_80 {n : Nat} (ok : Bool) (h : n ≤ 80) : mL ok n ≤ 80 := by
  cases ok
  · exact h
  · exact Nat.zero_le 80
theorem sub3 {L i : Nat} (hL : L ≤ 1536) (hi : i ≤ 1540) (h : ¬ nI L - 3 < nI i) : i + 3 ≤ L := by
  have e := pk_sub_toInt (a := L) (b := 3) (by omega) (by decide)
  by_cases h2 : i + 3 ≤ L
  · exact h2
  · refine absurd ?_ h
    rw [Int32.lt_iff_toInt_lt, nI_toInt (by omega)]
    have e2 : (nI L - 3).toInt = (L : Int) - 3 := e
    omega

