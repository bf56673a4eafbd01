/-! the pad: the reader's state (sets, inNumber, letters, number, things, prices) -/
abbrev PT : Type := Nat × Bool × Int32 × Int32 × (Nat → Int32) × (Nat → Int32)
def pBeg (p : PT) : PT := (p.1, false, 0, 0, p.2.2.2.2.1, p.2.2.2.2.2)
def pEnd (p : PT) : PT := if p.1 < 21 then (p.1 + 1, p.2.1, p.2.2.1, p.2.2.2.1, upd p.2.2.2.2.1 p.1 p.2.2.1, upd p.2.2.2.2.2 p.1 p.2.2.2.1) else p
def tkL (c l : Int32) : Bool := decide (¬ c - 97 < 0 ∧ ¬ 18 ≤ c - 97 ∧ l < (1 : Int32) <<< ((c - 97) &&& 31))
def pLet (c : Int32) (p : PT) : PT := if tkL c p.2.2.1 = true then (p.1, p.2.1, p.2.2.1 ||| (1 : Int32) <<< ((c - 97) &&& 31), p.2.2.2.1, p.2.2.2.2.1, p.2.2.2.2.2) else p
def tkD (c : Int32) : Bool := decide (¬ c < 48 ∧ c ≤ 57)
def pDig (c : Int32) (p : PT) : PT := if tkD c = true then (p.1, p.2.1, p.2.2.1, p.2.2.2.1 * 10 + (c - 48), p.2.2.2.2.1, p.2.2.2.2.2) else p
def pDigB (c : Int32) (p : PT) : Bool := if tkD c = true then S_price (p.2.2.2.1 * 10 + (c - 48)) else false
def pEq (p : PT) : PT := (p.1, decide (¬ p.2.2.1 = 0), p.2.2.1, p.2.2.2.1, p.2.2.2.2.1, p.2.2.2.2.2)
def pSem (p : PT) : PT := if p.2.2.2.1 = 0 then p else pBeg (pEnd p)
def pSign (c : Int32) (p : PT) : PT := if p.2.1 = true then (if c = 59 then pSem p else pDig c p) else (if c = 61 then pEq p else pLet c p)
def pSignB (c : Int32) (p : PT) : Bool := if p.2.1 = true then (if c = 59 then decide (¬ p.2.2.2.1 = 0) else pDigB c p) else (if c = 61 then decide (¬ p.2.2.1 = 0) else tkL c p.2.2.1)
def pRd (f : Nat → Int32) (n : Nat) : Nat → Nat → PT → Int32 × PT
  | 0, _, p => if p.2.2.2.1 = 0 then (nI n, p) else (-6, pEnd p)
  | d + 1, i, p => if pSignB (f i) p = true then pRd f n d (i + 1) (pSign (f i) p) else (nI i, pSign (f i) p)
def pZero (p : PT) : PT := pBeg (0, p.2.1, p.2.2.1, p.2.2.2.1, p.2.2.2.2.1, p.2.2.2.2.2)
def sgn : Nat → Int64 → Nat → Nat
  | 0, _, m => m
  | k + 1, x, m => if lg_cmp x 0 = 0 then m else if lg_cmp (x &&& 255) 33 < 0 then 0 else if lg_cmp (x &&& 255) 126 ≤ 0 then sgn k ((x.toUInt64 >>> ((8 : Int32).toInt64.toUInt64 &&& Int64.toUInt64 63)).toInt64) (m + 1) else 0
theorem sgn_le : ∀ (k : Nat) (x : Int64) (m : Nat), sgn k x m ≤ m + k
  | 0, _, m => Nat.le_refl m
  | k + 1, x, m => by
    have h := sgn_le k ((x.toUInt64 >>> ((8 : Int32).toInt64.toUInt64 &&& Int64.toUInt64 63)).toInt64) (m + 1)
    rw [sgn]
    split
    · omega
    · split
      · omega
      · split <;> omega
def chrV (x : Int64) (a : Nat) : Int32 := ((((x.toUInt64 >>> ((8 * (nI a - 1)).toInt64.toUInt64 &&& Int64.toUInt64 63)).toInt64 &&& 255).toInt32).toUInt32 % 65536).toInt32
def chr0 (x : Int64) (a : Nat) : Int32 := vp_nar .char (chrV x a)
def S_app (f : Nat → Int32) (x : Int64) (n m a : Nat) : Nat → Int32 := fun j => if n ≤ j ∧ j < n + (m - a) then chr0 x (m - (j - n)) else f j
theorem S_app_0 (f : Nat → Int32) (x : Int64) (n m : Nat) : S_app f x n m m = f := funext fun j => if_neg (by omega)
theorem S_app_s (f : Nat → Int32) (x : Int64) (n m a : Nat) (h0 : 0 < a) (h : a ≤ m) : upd (S_app f x n m a) (n + (m - a)) (chr0 x a) = S_app f x n m (a - 1) := by
  funext j
  unfold upd S_app
  by_cases h1 : j = n + (m - a)
  · subst h1
    rw [if_pos rfl, if_pos (by omega)]
    congr 1
    omega
  · rw [if_neg h1]
    by_cases h2 : n ≤ j ∧ j < n + (m - a)
    · rw [if_pos h2, if_pos (by omega)]
    · rw [if_neg h2, if_neg (by omega)]
theorem dn1 {a : Nat} (h : 0 < a) : nI a - 1 + (-1) = nI (a - 1) - 1 := by
  obtain ⟨b, rfl⟩ : ∃ b, a = b + 1 := ⟨a - 1, by omega⟩
  rw [Nat.add_sub_cancel, show (1 : Int32) = nI 1 from rfl, pk_sub (by omega), Nat.add_sub_cancel]
  exact (Int32.sub_eq_add_neg _ _).symm
theorem dn_lt {a : Nat} (h : a < 100) : nI a - 1 < 0 ↔ a = 0 := by
  constructor
  · intro h1
    by_cases h2 : a = 0
    · exact h2
    · have e : nI a - 1 = nI (a - 1) := pk_sub (a := a) (b := 1) (by omega)
      rw [e] at h1
      exact absurd h1 (nI_pos (by omega))
  · rintro rfl
    decide
def pLen (n : Nat) (x : Int64) : Nat := if sgn 8 x 0 = 0 then n else if n + sgn 8 x 0 ≤ 80 then n + sgn 8 x 0 else n
def pTxt (f : Nat → Int32) (n : Nat) (x : Int64) : Nat → Int32 := if sgn 8 x 0 = 0 then f else if n + sgn 8 x 0 ≤ 80 then S_app f x n (sgn 8 x 0) 0 else f
def pAns (n : Nat) (x : Int64) : Int32 := if sgn 8 x 0 = 0 then -2 else if n + sgn 8 x 0 ≤ 80 then nI (n + sgn 8 x 0) else -4

set_option maxHeartbeats 4000000 in
set_option maxRecDepth 100000 in
theorem c_X2_beginSet (g : jG) (p : Nat) (ps : Nat) (pt : Nat) (pp : Nat) (n : Nat) (f : Nat → Int32) (P : PT)  : jMV g yX2_beginSet cX2_beginSet 1 0 0 0 0 [.ref p] [(p, .inr (2, [.int (nI n), .ref ps, .int (nI P.1), .ref pt, .ref pp, .int (jb P.2.1), .int P.2.2.1, .int P.2.2.2.1])), (ps, .inl (gC g, 80, .inl f)), (pt, .inl (gI g, 21, .inl P.2.2.2.2.1)), (pp, .inl (gI g, 21, .inl P.2.2.2.2.2))] (fun wz wzn => wz = [(p, .inr (2, [.int (nI n), .ref ps, .int (nI ((pBeg P).1)), .ref pt, .ref pp, .int (jb ((pBeg P).2.1)), .int ((pBeg P).2.2.1), .int ((pBeg P).2.2.2.1)])), (ps, .inl (gC g, 80, .inl f)), (pt, .inl (gI g, 21, .inl ((pBeg P).2.2.2.2.1))), (pp, .inl (gI g, 21, .inl ((pBeg P).2.2.2.2.2)))] ∧ wzn = []) := by
  refine jMV.intro (by decide +kernel) (Nat.le_of_ble_eq_true rfl) (fun x hX hQ hN => ?_)
  refine j_lv (lv2 := [(0, .ref p)]) rfl ?_
  refine j_aload_n (pc := 0) hX dX2_beginSet_0 0 rfl ?_
  refine j_iconst (v := 0) (pc := 1) hX dX2_beginSet_1 (by decide) ?_
  refine j_put (ci := 2) (ty := .boolean) (pc := 2) hX inG2 tyX2 tyX2_ok nmG2 rfl 5 (by decide) mw139 rfl (by decide +kernel) 0 rfl (Nat.le_of_ble_eq_true rfl) (rfl) rfl dX2_beginSet_2 ?_
  refine j_ws (ws2 := [(p, .inr (2, [.int (nI n), .ref ps, .int (nI P.1), .ref pt, .ref pp, .int 0, .int P.2.2.1, .int P.2.2.2.1])), (ps, .inl (gC g, 80, .inl f)), (pt, .inl (gI g, 21, .inl P.2.2.2.2.1)), (pp, .inl (gI g, 21, .inl P.2.2.2.2.2))]) rfl ?_
  refine j_aload_n (pc := 5) hX dX2_beginSet_5 0 rfl ?_
  refine j_iconst (v := 0) (pc := 6) hX dX2_beginSet_6 (by decide) ?_
  refine j_put (ci := 2) (ty := .int) (pc := 7) hX inG2 tyX2 tyX2_ok nmG2 rfl 6 (by decide) mw140 rfl (by decide +kernel) 0 rfl (Nat.le_of_ble_eq_true rfl) (rfl) rfl dX2_beginSet_7 ?_
  refine j_ws (ws2 := [(p, .inr (2, [.int (nI n), .ref ps, .int (nI P.1), .ref pt, .ref pp, .int 0, .int 0, .int P.2.2.2.1])), (ps, .inl (gC g, 80, .inl f)), (pt, .inl (gI g, 21, .inl P.2.2.2.2.1)), (pp, .inl (gI g, 21, .inl P.2.2.2.2.2))]) rfl ?_
  refine j_aload_n (pc := 10) hX dX2_beginSet_10 0 rfl ?_
  refine j_iconst (v := 0) (pc := 11) hX dX2_beginSet_11 (by decide) ?_
  refine j_put (ci := 2) (ty := .int) (pc := 12) hX inG2 tyX2 tyX2_ok nmG2 rfl 7 (by decide) mw141 rfl (by decide +kernel) 0 rfl (Nat.le_of_ble_eq_true rfl) (rfl) rfl dX2_beginSet_12 ?_
  refine j_ws (ws2 := [(p, .inr (2, [.int (nI n), .ref ps, .int (nI P.1), .ref pt, .ref pp, .int 0, .int 0, .int 0])), (ps, .inl (gC g, 80, .inl f)), (pt, .inl (gI g, 21, .inl P.2.2.2.2.1)), (pp, .inl (gI g, 21, .inl P.2.2.2.2.2))]) rfl ?_
  exact j_vret (pc := 15) hX hQ dX2_beginSet_15 [(p, .inr (2, [.int (nI n), .ref ps, .int (nI P.1), .ref pt, .ref pp, .int 0, .int 0, .int 0])), (ps, .inl (gC g, 80, .inl f)), (pt, .inl (gI g, 21, .inl P.2.2.2.2.1)), (pp, .inl (gI g, 21, .inl P.2.2.2.2.2))] [] rfl rfl ⟨(by first | rfl | first | (simp only [jb_t, jb_f, reduceIte, eq_self, decide_true, decide_false, Bool.and_true, Bool.true_and, Bool.and_false, Bool.false_and, Bool.and_self, not_true_eq_false, not_false_eq_true, and_true, true_and, and_false, false_and, and_self]; done) | (simp [jb_t, jb_f]; done)), (rfl)⟩

set_option maxHeartbeats 4000000 in
set_option maxRecDepth 100000 in
theorem c_X2_endSet (g : jG) (p : Nat) (ps : Nat) (pt : Nat) (pp : Nat) (n : Nat) (f : Nat → Int32) (P : PT) (h21 : P.1 ≤ 21) : jMV g yX2_endSet cX2_endSet 1 0 0 0 0 [.ref p] [(p, .inr (2, [.int (nI n), .ref ps, .int (nI P.1), .ref pt, .ref pp, .int (jb P.2.1), .int P.2.2.1, .int P.2.2.2.1])), (ps, .inl (gC g, 80, .inl f)), (pt, .inl (gI g, 21, .inl P.2.2.2.2.1)), (pp, .inl (gI g, 21, .inl P.2.2.2.2.2))] (fun wz wzn => wz = [(p, .inr (2, [.int (nI n), .ref ps, .int (nI ((pEnd P).1)), .ref pt, .ref pp, .int (jb ((pEnd P).2.1)), .int ((pEnd P).2.2.1), .int ((pEnd P).2.2.2.1)])), (ps, .inl (gC g, 80, .inl f)), (pt, .inl (gI g, 21, .inl ((pEnd P).2.2.2.2.1))), (pp, .inl (gI g, 21, .inl ((pEnd P).2.2.2.2.2)))] ∧ wzn = []) := by
  refine jMV.intro (by decide +kernel) (Nat.le_of_ble_eq_true rfl) (fun x hX hQ hN => ?_)
  refine j_lv (lv2 := [(0, .ref p)]) rfl ?_
  refine j_aload_n (pc := 0) hX dX2_endSet_0 0 rfl ?_
  refine j_get (ci := 2) (pc := 1) hX inG2 rfl 2 (by decide) mw135 0 rfl rfl dX2_endSet_1 ?_
  refine j_bipush (v := 21) (pc := 4) hX dX2_endSet_4 (by decide) ?_
  refine j_icmp_ge (tgt := 45) (pc := 6) hX dX2_endSet_6 (by decide) (fun c6_1 => ?_) (fun c6_1 => ?_)
  · skip
    have c6_1n : 21 ≤ P.1 := (nI_leI (a := 21) (b := P.1) (by omega) (by omega)).mp c6_1
    have c6_1m : ¬ P.1 < 21 := by omega
    exact j_vret (pc := 45) hX hQ dX2_endSet_45 [(p, .inr (2, [.int (nI n), .ref ps, .int (nI P.1), .ref pt, .ref pp, .int (jb P.2.1), .int P.2.2.1, .int P.2.2.2.1])), (ps, .inl (gC g, 80, .inl f)), (pt, .inl (gI g, 21, .inl P.2.2.2.2.1)), (pp, .inl (gI g, 21, .inl P.2.2.2.2.2))] [] rfl rfl ⟨(by first | rfl | first | (simp only [jb_t, jb_f, pEnd, c6_1, c6_1n, c6_1m, reduceIte, eq_self, decide_true, decide_false, Bool.and_true, Bool.true_and, Bool.and_false, Bool.false_and, Bool.and_self, not_true_eq_false, not_false_eq_true, and_true, true_and, and_false, false_and, and_self]; done) | (simp [jb_t, jb_f, pEnd, c6_1, c6_1n, c6_1m]; done)), (rfl)⟩
  · skip
    have c6_1n : ¬ 21 ≤ P.1 := fun h9 => c6_1 ((nI_leI (a := 21) (b := P.1) (by omega) (by omega)).mpr h9)
    have c6_1m : P.1 < 21 := by omega
    refine j_aload_n (pc := 9) hX dX2_endSet_9 0 rfl ?_
    refine j_get (ci := 2) (pc := 10) hX inG2 rfl 3 (by decide) mw137 0 rfl rfl dX2_endSet_10 ?_
    refine j_aload_n (pc := 13) hX dX2_endSet_13 0 rfl ?_
    refine j_get (ci := 2) (pc := 14) hX inG2 rfl 2 (by decide) mw135 0 rfl rfl dX2_endSet_14 ?_
    refine j_aload_n (pc := 17) hX dX2_endSet_17 0 rfl ?_
    refine j_get (ci := 2) (pc := 18) hX inG2 rfl 6 (by decide) mw140 0 rfl rfl dX2_endSet_18 ?_
    refine j_iast (pc := 21) hX 2 rfl P.1 rfl (by omega) (by omega) dX2_endSet_21 ?_
    refine j_ws (ws2 := [(p, .inr (2, [.int (nI n), .ref ps, .int (nI P.1), .ref pt, .ref pp, .int (jb P.2.1), .int P.2.2.1, .int P.2.2.2.1])), (ps, .inl (gC g, 80, .inl f)), (pt, .inl (gI g, 21, .inl (upd P.2.2.2.2.1 P.1 P.2.2.1))), (pp, .inl (gI g, 21, .inl P.2.2.2.2.2))]) rfl ?_
    refine j_aload_n (pc := 22) hX dX2_endSet_22 0 rfl ?_
    refine j_get (ci := 2) (pc := 23) hX inG2 rfl 4 (by decide) mw138 0 rfl rfl dX2_endSet_23 ?_
    refine j_aload_n (pc := 26) hX dX2_endSet_26 0 rfl ?_
    refine j_get (ci := 2) (pc := 27) hX inG2 rfl 2 (by decide) mw135 0 rfl rfl dX2_endSet_27 ?_
    refine j_aload_n (pc := 30) hX dX2_endSet_30 0 rfl ?_
    refine j_get (ci := 2) (pc := 31) hX inG2 rfl 7 (by decide) mw141 0 rfl rfl dX2_endSet_31 ?_
    refine j_iast (pc := 34) hX 3 rfl P.1 rfl (by omega) (by omega) dX2_endSet_34 ?_
    refine j_ws (ws2 := [(p, .inr (2, [.int (nI n), .ref ps, .int (nI P.1), .ref pt, .ref pp, .int (jb P.2.1), .int P.2.2.1, .int P.2.2.2.1])), (ps, .inl (gC g, 80, .inl f)), (pt, .inl (gI g, 21, .inl (upd P.2.2.2.2.1 P.1 P.2.2.1))), (pp, .inl (gI g, 21, .inl (upd P.2.2.2.2.2 P.1 P.2.2.2.1)))]) rfl ?_
    refine j_aload_n (pc := 35) hX dX2_endSet_35 0 rfl ?_
    refine j_dup (pc := 36) hX dX2_endSet_36 rfl ?_
    refine j_get (ci := 2) (pc := 37) hX inG2 rfl 2 (by decide) mw135 0 rfl rfl dX2_endSet_37 ?_
    refine j_iconst (v := 1) (pc := 40) hX dX2_endSet_40 (by decide) ?_
    refine j_iadd (pc := 41) hX dX2_endSet_41 ?_
    refine j_top (b := nI (P.1 + 1)) (nI_add P.1 1) ?_
    refine j_put (ci := 2) (ty := .int) (pc := 42) hX inG2 tyX2 tyX2_ok nmG2 rfl 2 (by decide) mw135 rfl (by decide +kernel) 0 rfl (Nat.le_of_ble_eq_true rfl) (rfl) rfl dX2_endSet_42 ?_
    refine j_ws (ws2 := [(p, .inr (2, [.int (nI n), .ref ps, .int (nI (P.1 + 1)), .ref pt, .ref pp, .int (jb P.2.1), .int P.2.2.1, .int P.2.2.2.1])), (ps, .inl (gC g, 80, .inl f)), (pt, .inl (gI g, 21, .inl (upd P.2.2.2.2.1 P.1 P.2.2.1))), (pp, .inl (gI g, 21, .inl (upd P.2.2.2.2.2 P.1 P.2.2.2.1)))]) rfl ?_
    exact j_vret (pc := 45) hX hQ dX2_endSet_45 [(p, .inr (2, [.int (nI n), .ref ps, .int (nI (P.1 + 1)), .ref pt, .ref pp, .int (jb P.2.1), .int P.2.2.1, .int P.2.2.2.1])), (ps, .inl (gC g, 80, .inl f)), (pt, .inl (gI g, 21, .inl (upd P.2.2.2.2.1 P.1 P.2.2.1))), (pp, .inl (gI g, 21, .inl (upd P.2.2.2.2.2 P.1 P.2.2.2.1)))] [] rfl rfl ⟨(by first | rfl | first | (simp only [jb_t, jb_f, pEnd, c6_1, c6_1n, c6_1m, reduceIte, eq_self, decide_true, decide_false, Bool.and_true, Bool.true_and, Bool.and_false, Bool.false_and, Bool.and_self, not_true_eq_false, not_false_eq_true, and_true, true_and, and_false, false_and, and_self]; done) | (simp [jb_t, jb_f, pEnd, c6_1, c6_1n, c6_1m]; done)), (rfl)⟩

set_option maxHeartbeats 4000000 in
set_option maxRecDepth 100000 in
theorem c_X2_takeLetter (g : jG) (p : Nat) (ps : Nat) (pt : Nat) (pp : Nat) (n : Nat) (f : Nat → Int32) (P : PT) (c : Int32)  : jMI g yX2_takeLetter cX2_takeLetter 3 .boolean 0 0 [.ref p, .int c] [(p, .inr (2, [.int (nI n), .ref ps, .int (nI P.1), .ref pt, .ref pp, .int (jb P.2.1), .int P.2.2.1, .int P.2.2.2.1])), (ps, .inl (gC g, 80, .inl f)), (pt, .inl (gI g, 21, .inl P.2.2.2.2.1)), (pp, .inl (gI g, 21, .inl P.2.2.2.2.2))] (fun rz wz => rz = jb (tkL c P.2.2.1) ∧ wz = [(p, .inr (2, [.int (nI n), .ref ps, .int (nI ((pLet c P).1)), .ref pt, .ref pp, .int (jb ((pLet c P).2.1)), .int ((pLet c P).2.2.1), .int ((pLet c P).2.2.2.1)])), (ps, .inl (gC g, 80, .inl f)), (pt, .inl (gI g, 21, .inl ((pLet c P).2.2.2.2.1))), (pp, .inl (gI g, 21, .inl ((pLet c P).2.2.2.2.2)))]) := by
  refine jMI.intro (by decide +kernel) (Nat.le_of_ble_eq_true rfl) (fun x hX hQ => ?_)
  refine j_lv (lv2 := [(0, .ref p), (1, .int c)]) rfl ?_
  refine j_iload_n (pc := 0) hX dX2_takeLetter_0 1 rfl ?_
  refine j_bipush (v := 97) (pc := 1) hX dX2_takeLetter_1 (by decide) ?_
  refine j_isub (pc := 3) hX dX2_takeLetter_3 ?_
  refine j_istore_n (lv2 := [(0, .ref p), (1, .int c), (2, .int (c - 97))]) (pc := 4) hX dX2_takeLetter_4 [1, 2, 0] (by decide) rfl ?_
  refine j_iload_n (pc := 5) hX dX2_takeLetter_5 2 rfl ?_
  refine j_if_lt (tgt := 25) (pc := 6) hX dX2_takeLetter_6 (by decide) (fun c6_1 => ?_) (fun c6_1 => ?_)
  · skip
    refine j_iconst (v := 0) (pc := 25) hX dX2_takeLetter_25 (by decide) ?_
    exact j_zret (pc := 26) hX hQ dX2_takeLetter_26 (by first | rfl | exact jb_nar _) rfl ⟨(by first | rfl | first | (simp only [jb_t, jb_f, pLet, tkL, c6_1, reduceIte, eq_self, decide_true, decide_false, Bool.and_true, Bool.true_and, Bool.and_false, Bool.false_and, Bool.and_self, not_true_eq_false, not_false_eq_true, and_true, true_and, and_false, false_and, and_self]; done) | (simp [jb_t, jb_f, pLet, tkL, c6_1]; done)), (by first | rfl | first | (simp only [jb_t, jb_f, pLet, tkL, c6_1, reduceIte, eq_self, decide_true, decide_false, Bool.and_true, Bool.true_and, Bool.and_false, Bool.false_and, Bool.and_self, not_true_eq_false, not_false_eq_true, and_true, true_and, and_false, false_and, and_self]; done) | (simp [jb_t, jb_f, pLet, tkL, c6_1]; done))⟩
  · skip
    refine j_iload_n (pc := 9) hX dX2_takeLetter_9 2 rfl ?_
    refine j_bipush (v := 18) (pc := 10) hX dX2_takeLetter_10 (by decide) ?_
    refine j_icmp_ge (tgt := 25) (pc := 12) hX dX2_takeLetter_12 (by decide) (fun c12_2 => ?_) (fun c12_2 => ?_)
    · skip
      refine j_iconst (v := 0) (pc := 25) hX dX2_takeLetter_25 (by decide) ?_
      exact j_zret (pc := 26) hX hQ dX2_takeLetter_26 (by first | rfl | exact jb_nar _) rfl ⟨(by first | rfl | first | (simp only [jb_t, jb_f, pLet, tkL, c6_1, c12_2, reduceIte, eq_self, decide_true, decide_false, Bool.and_true, Bool.true_and, Bool.and_false, Bool.false_and, Bool.and_self, not_true_eq_false, not_false_eq_true, and_true, true_and, and_false, false_and, and_self]; done) | (simp [jb_t, jb_f, pLet, tkL, c6_1, c12_2]; done)), (by first | rfl | first | (simp only [jb_t, jb_f, pLet, tkL, c6_1, c12_2, reduceIte, eq_self, decide_true, decide_false, Bool.and_true, Bool.true_and, Bool.and_false, Bool.false_and, Bool.and_self, not_true_eq_false, not_false_eq_true, and_true, true_and, and_false, false_and, and_self]; done) | (simp [jb_t, jb_f, pLet, tkL, c6_1, c12_2]; done))⟩
    · skip
      refine j_aload_n (pc := 15) hX dX2_takeLetter_15 0 rfl ?_
      refine j_get (ci := 2) (pc := 16) hX inG2 rfl 6 (by decide) mw140 0 rfl rfl dX2_takeLetter_16 ?_
      refine j_iconst (v := 1) (pc := 19) hX dX2_takeLetter_19 (by decide) ?_
      refine j_iload_n (pc := 20) hX dX2_takeLetter_20 2 rfl ?_
      refine j_ishl (pc := 21) hX dX2_takeLetter_21 ?_
      refine j_icmp_lt (tgt := 27) (pc := 22) hX dX2_takeLetter_22 (by decide) (fun c22_3 => ?_) (fun c22_3 => ?_)
      · skip
        refine j_aload_n (pc := 27) hX dX2_takeLetter_27 0 rfl ?_
        refine j_dup (pc := 28) hX dX2_takeLetter_28 rfl ?_
        refine j_get (ci := 2) (pc := 29) hX inG2 rfl 6 (by decide) mw140 0 rfl rfl dX2_takeLetter_29 ?_
        refine j_iconst (v := 1) (pc := 32) hX dX2_takeLetter_32 (by decide) ?_
        refine j_iload_n (pc := 33) hX dX2_takeLetter_33 2 rfl ?_
        refine j_ishl (pc := 34) hX dX2_takeLetter_34 ?_
        refine j_ior (pc := 35) hX dX2_takeLetter_35 ?_
        refine j_put (ci := 2) (ty := .int) (pc := 36) hX inG2 tyX2 tyX2_ok nmG2 rfl 6 (by decide) mw140 rfl (by decide +kernel) 0 rfl (Nat.le_of_ble_eq_true rfl) (rfl) rfl dX2_takeLetter_36 ?_
        refine j_ws (ws2 := [(p, .inr (2, [.int (nI n), .ref ps, .int (nI P.1), .ref pt, .ref pp, .int (jb P.2.1), .int (P.2.2.1 ||| ((1 : Int32) <<< ((c - 97) &&& 31))), .int P.2.2.2.1])), (ps, .inl (gC g, 80, .inl f)), (pt, .inl (gI g, 21, .inl P.2.2.2.2.1)), (pp, .inl (gI g, 21, .inl P.2.2.2.2.2))]) rfl ?_
        refine j_iconst (v := 1) (pc := 39) hX dX2_takeLetter_39 (by decide) ?_
        exact j_zret (pc := 40) hX hQ dX2_takeLetter_40 (by first | rfl | exact jb_nar _) rfl ⟨(by first | rfl | first | (simp only [jb_t, jb_f, pLet, tkL, c6_1, c12_2, c22_3, reduceIte, eq_self, decide_true, decide_false, Bool.and_true, Bool.true_and, Bool.and_false, Bool.false_and, Bool.and_self, not_true_eq_false, not_false_eq_true, and_true, true_and, and_false, false_and, and_self]; done) | (simp [jb_t, jb_f, pLet, tkL, c6_1, c12_2, c22_3]; done)), (by first | rfl | first | (simp only [jb_t, jb_f, pLet, tkL, c6_1, c12_2, c22_3, reduceIte, eq_self, decide_true, decide_false, Bool.and_true, Bool.true_and, Bool.and_false, Bool.false_and, Bool.and_self, not_true_eq_false, not_false_eq_true, and_true, true_and, and_false, false_and, and_self]; done) | (simp [jb_t, jb_f, pLet, tkL, c6_1, c12_2, c22_3]; done))⟩
      · skip
        refine j_iconst (v := 0) (pc := 25) hX dX2_takeLetter_25 (by decide) ?_
        exact j_zret (pc := 26) hX hQ dX2_takeLetter_26 (by first | rfl | exact jb_nar _) rfl ⟨(by first | rfl | first | (simp only [jb_t, jb_f, pLet, tkL, c6_1, c12_2, c22_3, reduceIte, eq_self, decide_true, decide_false, Bool.and_true, Bool.true_and, Bool.and_false, Bool.false_and, Bool.and_self, not_true_eq_false, not_false_eq_true, and_true, true_and, and_false, false_and, and_self]; done) | (simp [jb_t, jb_f, pLet, tkL, c6_1, c12_2, c22_3]; done)), (by first | rfl | first | (simp only [jb_t, jb_f, pLet, tkL, c6_1, c12_2, c22_3, reduceIte, eq_self, decide_true, decide_false, Bool.and_true, Bool.true_and, Bool.and_false, Bool.false_and, Bool.and_self, not_true_eq_false, not_false_eq_true, and_true, true_and, and_false, false_and, and_self]; done) | (simp [jb_t, jb_f, pLet, tkL, c6_1, c12_2, c22_3]; done))⟩

set_option maxHeartbeats 4000000 in
set_option maxRecDepth 100000 in
theorem c_X2_takeEq (g : jG) (p : Nat) (ps : Nat) (pt : Nat) (pp : Nat) (n : Nat) (f : Nat → Int32) (P : PT)  : jMI g yX2_takeEqualsSign cX2_takeEqualsSign 1 .boolean 0 0 [.ref p] [(p, .inr (2, [.int (nI n), .ref ps, .int (nI P.1), .ref pt, .ref pp, .int (jb P.2.1), .int P.2.2.1, .int P.2.2.2.1])), (ps, .inl (gC g, 80, .inl f)), (pt, .inl (gI g, 21, .inl P.2.2.2.2.1)), (pp, .inl (gI g, 21, .inl P.2.2.2.2.2))] (fun rz wz => rz = jb (decide (¬ P.2.2.1 = 0)) ∧ wz = [(p, .inr (2, [.int (nI n), .ref ps, .int (nI ((pEq P).1)), .ref pt, .ref pp, .int (jb ((pEq P).2.1)), .int ((pEq P).2.2.1), .int ((pEq P).2.2.2.1)])), (ps, .inl (gC g, 80, .inl f)), (pt, .inl (gI g, 21, .inl ((pEq P).2.2.2.2.1))), (pp, .inl (gI g, 21, .inl ((pEq P).2.2.2.2.2)))]) := by
  refine jMI.intro (by decide +kernel) (Nat.le_of_ble_eq_true rfl) (fun x hX hQ => ?_)
  refine j_lv (lv2 := [(0, .ref p)]) rfl ?_
  refine j_aload_n (pc := 0) hX dX2_takeEqualsSign_0 0 rfl ?_
  refine j_aload_n (pc := 1) hX dX2_takeEqualsSign_1 0 rfl ?_
  refine j_get (ci := 2) (pc := 2) hX inG2 rfl 6 (by decide) mw140 0 rfl rfl dX2_takeEqualsSign_2 ?_
  refine j_if_eq (tgt := 12) (pc := 5) hX dX2_takeEqualsSign_5 (by decide) (fun c5_1 => ?_) (fun c5_1 => ?_)
  · skip
    refine j_iconst (v := 0) (pc := 12) hX dX2_takeEqualsSign_12 (by decide) ?_
    refine j_put (ci := 2) (ty := .boolean) (pc := 13) hX inG2 tyX2 tyX2_ok nmG2 rfl 5 (by decide) mw139 rfl (by decide +kernel) 0 rfl (Nat.le_of_ble_eq_true rfl) (rfl) rfl dX2_takeEqualsSign_13 ?_
    refine j_ws (ws2 := [(p, .inr (2, [.int (nI n), .ref ps, .int (nI P.1), .ref pt, .ref pp, .int 0, .int P.2.2.1, .int P.2.2.2.1])), (ps, .inl (gC g, 80, .inl f)), (pt, .inl (gI g, 21, .inl P.2.2.2.2.1)), (pp, .inl (gI g, 21, .inl P.2.2.2.2.2))]) rfl ?_
    refine j_aload_n (pc := 16) hX dX2_takeEqualsSign_16 0 rfl ?_
    refine j_get (ci := 2) (pc := 17) hX inG2 rfl 5 (by decide) mw139 0 rfl rfl dX2_takeEqualsSign_17 ?_
    exact j_zret (pc := 20) hX hQ dX2_takeEqualsSign_20 (by first | rfl | exact jb_nar _) rfl ⟨(by first | rfl | first | (simp only [jb_t, jb_f, pEq, c5_1, reduceIte, eq_self, decide_true, decide_false, Bool.and_true, Bool.true_and, Bool.and_false, Bool.false_and, Bool.and_self, not_true_eq_false, not_false_eq_true, and_true, true_and, and_false, false_and, and_self]; done) | (simp [jb_t, jb_f, pEq, c5_1]; done)), (by first | rfl | first | (simp only [jb_t, jb_f, pEq, c5_1, reduceIte, eq_self, decide_true, decide_false, Bool.and_true, Bool.true_and, Bool.and_false, Bool.false_and, Bool.and_self, not_true_eq_false, not_false_eq_true, and_true, true_and, and_false, false_and, and_self]; done) | (simp [jb_t, jb_f, pEq, c5_1]; done))⟩
  · skip
    refine j_iconst (v := 1) (pc := 8) hX dX2_takeEqualsSign_8 (by decide) ?_
    refine j_goto (tgt := 13) (pc := 9) hX dX2_takeEqualsSign_9 (by decide) ?_
    refine j_put (ci := 2) (ty := .boolean) (pc := 13) hX inG2 tyX2 tyX2_ok nmG2 rfl 5 (by decide) mw139 rfl (by decide +kernel) 0 rfl (Nat.le_of_ble_eq_true rfl) (rfl) rfl dX2_takeEqualsSign_13 ?_
    refine j_ws (ws2 := [(p, .inr (2, [.int (nI n), .ref ps, .int (nI P.1), .ref pt, .ref pp, .int 1, .int P.2.2.1, .int P.2.2.2.1])), (ps, .inl (gC g, 80, .inl f)), (pt, .inl (gI g, 21, .inl P.2.2.2.2.1)), (pp, .inl (gI g, 21, .inl P.2.2.2.2.2))]) rfl ?_
    refine j_aload_n (pc := 16) hX dX2_takeEqualsSign_16 0 rfl ?_
    refine j_get (ci := 2) (pc := 17) hX inG2 rfl 5 (by decide) mw139 0 rfl rfl dX2_takeEqualsSign_17 ?_
    exact j_zret (pc := 20) hX hQ dX2_takeEqualsSign_20 (by first | rfl | exact jb_nar _) rfl ⟨(by first | rfl | first | (simp only [jb_t, jb_f, pEq, c5_1, reduceIte, eq_self, decide_true, decide_false, Bool.and_true, Bool.true_and, Bool.and_false, Bool.false_and, Bool.and_self, not_true_eq_false, not_false_eq_true, and_true, true_and, and_false, false_and, and_self]; done) | (simp [jb_t, jb_f, pEq, c5_1]; done)), (by first | rfl | first | (simp only [jb_t, jb_f, pEq, c5_1, reduceIte, eq_self, decide_true, decide_false, Bool.and_true, Bool.true_and, Bool.and_false, Bool.false_and, Bool.and_self, not_true_eq_false, not_false_eq_true, and_true, true_and, and_false, false_and, and_self]; done) | (simp [jb_t, jb_f, pEq, c5_1]; done))⟩

set_option maxHeartbeats 4000000 in
set_option maxRecDepth 100000 in
theorem c_X2_takeDigit (g : jG) (p : Nat) (ps : Nat) (pt : Nat) (pp : Nat) (n : Nat) (f : Nat → Int32) (P : PT) (c : Int32)  : jMI g yX2_takeDigit cX2_takeDigit 2 .boolean 1 20 [.ref p, .int c] [(p, .inr (2, [.int (nI n), .ref ps, .int (nI P.1), .ref pt, .ref pp, .int (jb P.2.1), .int P.2.2.1, .int P.2.2.2.1])), (ps, .inl (gC g, 80, .inl f)), (pt, .inl (gI g, 21, .inl P.2.2.2.2.1)), (pp, .inl (gI g, 21, .inl P.2.2.2.2.2))] (fun rz wz => rz = jb (pDigB c P) ∧ wz = [(p, .inr (2, [.int (nI n), .ref ps, .int (nI ((pDig c P).1)), .ref pt, .ref pp, .int (jb ((pDig c P).2.1)), .int ((pDig c P).2.2.1), .int ((pDig c P).2.2.2.1)])), (ps, .inl (gC g, 80, .inl f)), (pt, .inl (gI g, 21, .inl ((pDig c P).2.2.2.2.1))), (pp, .inl (gI g, 21, .inl ((pDig c P).2.2.2.2.2)))]) := by
  refine jMI.intro (by decide +kernel) (Nat.le_of_ble_eq_true rfl) (fun x hX hQ => ?_)
  refine j_lv (lv2 := [(0, .ref p), (1, .int c)]) rfl ?_
  refine j_iload_n (pc := 0) hX dX2_takeDigit_0 1 rfl ?_
  refine j_bipush (v := 48) (pc := 1) hX dX2_takeDigit_1 (by decide) ?_
  refine j_icmp_lt (tgt := 12) (pc := 3) hX dX2_takeDigit_3 (by decide) (fun c3_1 => ?_) (fun c3_1 => ?_)
  · skip
    refine j_iconst (v := 0) (pc := 12) hX dX2_takeDigit_12 (by decide) ?_
    exact j_zret (pc := 13) hX hQ dX2_takeDigit_13 (by first | rfl | exact jb_nar _) rfl ⟨(by first | rfl | first | (simp only [jb_t, jb_f, pDigB, pDig, tkD, c3_1, reduceIte, eq_self, decide_true, decide_false, Bool.and_true, Bool.true_and, Bool.and_false, Bool.false_and, Bool.and_self, not_true_eq_false, not_false_eq_true, and_true, true_and, and_false, false_and, and_self]; done) | (simp [jb_t, jb_f, pDigB, pDig, tkD, c3_1]; done)), (by first | rfl | first | (simp only [jb_t, jb_f, pDigB, pDig, tkD, c3_1, reduceIte, eq_self, decide_true, decide_false, Bool.and_true, Bool.true_and, Bool.and_false, Bool.false_and, Bool.and_self, not_true_eq_false, not_false_eq_true, and_true, true_and, and_false, false_and, and_self]; done) | (simp [jb_t, jb_f, pDigB, pDig, tkD, c3_1]; done))⟩
  · skip
    refine j_iload_n (pc := 6) hX dX2_takeDigit_6 1 rfl ?_
    refine j_bipush (v := 57) (pc := 7) hX dX2_takeDigit_7 (by decide) ?_
    refine j_icmp_le (tgt := 14) (pc := 9) hX dX2_takeDigit_9 (by decide) (fun c9_2 => ?_) (fun c9_2 => ?_)
    · skip
      refine j_aload_n (pc := 14) hX dX2_takeDigit_14 0 rfl ?_
      refine j_aload_n (pc := 15) hX dX2_takeDigit_15 0 rfl ?_
      refine j_get (ci := 2) (pc := 16) hX inG2 rfl 7 (by decide) mw141 0 rfl rfl dX2_takeDigit_16 ?_
      refine j_bipush (v := 10) (pc := 19) hX dX2_takeDigit_19 (by decide) ?_
      refine j_imul (pc := 21) hX dX2_takeDigit_21 ?_
      refine j_iload_n (pc := 22) hX dX2_takeDigit_22 1 rfl ?_
      refine j_bipush (v := 48) (pc := 23) hX dX2_takeDigit_23 (by decide) ?_
      refine j_isub (pc := 25) hX dX2_takeDigit_25 ?_
      refine j_iadd (pc := 26) hX dX2_takeDigit_26 ?_
      refine j_put (ci := 2) (ty := .int) (pc := 27) hX inG2 tyX2 tyX2_ok nmG2 rfl 7 (by decide) mw141 rfl (by decide +kernel) 0 rfl (Nat.le_of_ble_eq_true rfl) (rfl) rfl dX2_takeDigit_27 ?_
      refine j_ws (ws2 := [(p, .inr (2, [.int (nI n), .ref ps, .int (nI P.1), .ref pt, .ref pp, .int (jb P.2.1), .int P.2.2.1, .int ((P.2.2.2.1 * 10) + (c - 48))])), (ps, .inl (gC g, 80, .inl f)), (pt, .inl (gI g, 21, .inl P.2.2.2.2.1)), (pp, .inl (gI g, 21, .inl P.2.2.2.2.2))]) rfl ?_
      refine j_aload_n (pc := 30) hX dX2_takeDigit_30 0 rfl ?_
      refine j_get (ci := 2) (pc := 31) hX inG2 rfl 7 (by decide) mw141 0 rfl rfl dX2_takeDigit_31 ?_
      refine j_callSNI (n := 1) (As := [.int ((P.2.2.2.1 * 10) + (c - 48))]) (rest := []) (pc := 34) hX (c_X8_isPrice g ((P.2.2.2.1 * 10) + (c - 48)) ) ⟨⟨_, mw351⟩, mw280, mw43, mw281, ⟨by decide +kernel, by decide +kernel, by decide +kernel⟩⟩ (Nat.le_of_ble_eq_true rfl) (Nat.le_of_ble_eq_true rfl) (Nat.le_of_ble_eq_true rfl) (Nat.le_of_ble_eq_true rfl) [] (by decide +kernel) rfl rfl rfl (Nat.le_of_ble_eq_true rfl) dX2_takeDigit_34 (fun r3 wz hq4 => ?_)
      obtain ⟨rfl, rfl⟩ := hq4
      refine j_ws (ws2 := [(p, .inr (2, [.int (nI n), .ref ps, .int (nI P.1), .ref pt, .ref pp, .int (jb P.2.1), .int P.2.2.1, .int ((P.2.2.2.1 * 10) + (c - 48))])), (ps, .inl (gC g, 80, .inl f)), (pt, .inl (gI g, 21, .inl P.2.2.2.2.1)), (pp, .inl (gI g, 21, .inl P.2.2.2.2.2))]) rfl ?_
      exact j_zret (pc := 37) hX hQ dX2_takeDigit_37 (by first | rfl | exact jb_nar _) rfl ⟨(by first | rfl | first | (simp only [jb_t, jb_f, pDigB, pDig, tkD, c3_1, c9_2, reduceIte, eq_self, decide_true, decide_false, Bool.and_true, Bool.true_and, Bool.and_false, Bool.false_and, Bool.and_self, not_true_eq_false, not_false_eq_true, and_true, true_and, and_false, false_and, and_self]; done) | (simp [jb_t, jb_f, pDigB, pDig, tkD, c3_1, c9_2]; done)), (by first | rfl | first | (simp only [jb_t, jb_f, pDigB, pDig, tkD, c3_1, c9_2, reduceIte, eq_self, decide_true, decide_false, Bool.and_true, Bool.true_and, Bool.and_false, Bool.false_and, Bool.and_self, not_true_eq_false, not_false_eq_true, and_true, true_and, and_false, false_and, and_self]; done) | (simp [jb_t, jb_f, pDigB, pDig, tkD, c3_1, c9_2]; done))⟩
    · skip
      refine j_iconst (v := 0) (pc := 12) hX dX2_takeDigit_12 (by decide) ?_
      exact j_zret (pc := 13) hX hQ dX2_takeDigit_13 (by first | rfl | exact jb_nar _) rfl ⟨(by first | rfl | first | (simp only [jb_t, jb_f, pDigB, pDig, tkD, c3_1, c9_2, reduceIte, eq_self, decide_true, decide_false, Bool.and_true, Bool.true_and, Bool.and_false, Bool.false_and, Bool.and_self, not_true_eq_false, not_false_eq_true, and_true, true_and, and_false, false_and, and_self]; done) | (simp [jb_t, jb_f, pDigB, pDig, tkD, c3_1, c9_2]; done)), (by first | rfl | first | (simp only [jb_t, jb_f, pDigB, pDig, tkD, c3_1, c9_2, reduceIte, eq_self, decide_true, decide_false, Bool.and_true, Bool.true_and, Bool.and_false, Bool.false_and, Bool.and_self, not_true_eq_false, not_false_eq_true, and_true, true_and, and_false, false_and, and_self]; done) | (simp [jb_t, jb_f, pDigB, pDig, tkD, c3_1, c9_2]; done))⟩

set_option maxHeartbeats 4000000 in
set_option maxRecDepth 100000 in
theorem c_X2_takeSemi (g : jG) (p : Nat) (ps : Nat) (pt : Nat) (pp : Nat) (n : Nat) (f : Nat → Int32) (P : PT) (h21 : P.1 ≤ 21) : jMI g yX2_takeSemicolon cX2_takeSemicolon 1 .boolean 1 20 [.ref p] [(p, .inr (2, [.int (nI n), .ref ps, .int (nI P.1), .ref pt, .ref pp, .int (jb P.2.1), .int P.2.2.1, .int P.2.2.2.1])), (ps, .inl (gC g, 80, .inl f)), (pt, .inl (gI g, 21, .inl P.2.2.2.2.1)), (pp, .inl (gI g, 21, .inl P.2.2.2.2.2))] (fun rz wz => rz = jb (decide (¬ P.2.2.2.1 = 0)) ∧ wz = [(p, .inr (2, [.int (nI n), .ref ps, .int (nI ((pSem P).1)), .ref pt, .ref pp, .int (jb ((pSem P).2.1)), .int ((pSem P).2.2.1), .int ((pSem P).2.2.2.1)])), (ps, .inl (gC g, 80, .inl f)), (pt, .inl (gI g, 21, .inl ((pSem P).2.2.2.2.1))), (pp, .inl (gI g, 21, .inl ((pSem P).2.2.2.2.2)))]) := by
  refine jMI.intro (by decide +kernel) (Nat.le_of_ble_eq_true rfl) (fun x hX hQ => ?_)
  refine j_lv (lv2 := [(0, .ref p)]) rfl ?_
  refine j_aload_n (pc := 0) hX dX2_takeSemicolon_0 0 rfl ?_
  refine j_get (ci := 2) (pc := 1) hX inG2 rfl 7 (by decide) mw141 0 rfl rfl dX2_takeSemicolon_1 ?_
  refine j_if_ne (tgt := 9) (pc := 4) hX dX2_takeSemicolon_4 (by decide) (fun c4_1 => ?_) (fun c4_1 => ?_)
  · skip
    refine j_aload_n (pc := 9) hX dX2_takeSemicolon_9 0 rfl ?_
    refine j_callVV (n := 0) (As := []) (rest := []) (pc := 10) hX (c_X2_endSet g p ps pt pp n f P (by first | assumption | omega)) (CV.of mw345 mw346 mw4 mw47 mw347 ⟨rfl, by decide +kernel, by decide +kernel, by decide +kernel⟩ (T := TX2) (N := 8) rfl) (Nat.le_of_ble_eq_true rfl) (Nat.le_of_ble_eq_true rfl) (Nat.le_of_ble_eq_true rfl) (Nat.le_of_ble_eq_true rfl) 0 rfl [0, 1, 2, 3] (by decide +kernel) rfl rfl rfl (Nat.le_of_ble_eq_true rfl) dX2_takeSemicolon_10 (fun wz wnz hq3 => ?_)
    obtain ⟨rfl, rfl⟩ := hq3
    refine j_ws (ws2 := [(p, .inr (2, [.int (nI n), .ref ps, .int (nI ((pEnd P).1)), .ref pt, .ref pp, .int (jb ((pEnd P).2.1)), .int ((pEnd P).2.2.1), .int ((pEnd P).2.2.2.1)])), (ps, .inl (gC g, 80, .inl f)), (pt, .inl (gI g, 21, .inl ((pEnd P).2.2.2.2.1))), (pp, .inl (gI g, 21, .inl ((pEnd P).2.2.2.2.2)))]) rfl ?_
    refine j_aload_n (pc := 13) hX dX2_takeSemicolon_13 0 rfl ?_
    refine j_callVV (n := 0) (As := []) (rest := []) (pc := 14) hX (c_X2_beginSet g p ps pt pp n f (pEnd P) ) (CV.of mw336 mw337 mw1 mw47 mw338 ⟨rfl, by decide +kernel, by decide +kernel, by decide +kernel⟩ (T := TX2) (N := 8) rfl) (Nat.le_of_ble_eq_true rfl) (Nat.le_of_ble_eq_true rfl) (Nat.le_of_ble_eq_true rfl) (Nat.le_of_ble_eq_true rfl) 0 rfl [0, 1, 2, 3] (by decide +kernel) rfl rfl rfl (Nat.le_of_ble_eq_true rfl) dX2_takeSemicolon_14 (fun wz wnz hq5 => ?_)
    obtain ⟨rfl, rfl⟩ := hq5
    refine j_ws (ws2 := [(p, .inr (2, [.int (nI n), .ref ps, .int (nI ((pBeg (pEnd P)).1)), .ref pt, .ref pp, .int (jb ((pBeg (pEnd P)).2.1)), .int ((pBeg (pEnd P)).2.2.1), .int ((pBeg (pEnd P)).2.2.2.1)])), (ps, .inl (gC g, 80, .inl f)), (pt, .inl (gI g, 21, .inl ((pBeg (pEnd P)).2.2.2.2.1))), (pp, .inl (gI g, 21, .inl ((pBeg (pEnd P)).2.2.2.2.2)))]) rfl ?_
    refine j_iconst (v := 1) (pc := 17) hX dX2_takeSemicolon_17 (by decide) ?_
    exact j_zret (pc := 18) hX hQ dX2_takeSemicolon_18 (by first | rfl | exact jb_nar _) rfl ⟨(by first | rfl | first | (simp only [jb_t, jb_f, pSem, c4_1, reduceIte, eq_self, decide_true, decide_false, Bool.and_true, Bool.true_and, Bool.and_false, Bool.false_and, Bool.and_self, not_true_eq_false, not_false_eq_true, and_true, true_and, and_false, false_and, and_self]; done) | (simp [jb_t, jb_f, pSem, c4_1]; done)), (by first | rfl | first | (simp only [jb_t, jb_f, pSem, c4_1, reduceIte, eq_self, decide_true, decide_false, Bool.and_true, Bool.true_and, Bool.and_false, Bool.false_and, Bool.and_self, not_true_eq_false, not_false_eq_true, and_true, true_and, and_false, false_and, and_self]; done) | (simp [jb_t, jb_f, pSem, c4_1]; done))⟩
  · skip
    refine j_iconst (v := 0) (pc := 7) hX dX2_takeSemicolon_7 (by decide) ?_
    exact j_zret (pc := 8) hX hQ dX2_takeSemicolon_8 (by first | rfl | exact jb_nar _) rfl ⟨(by first | rfl | first | (simp only [jb_t, jb_f, pSem, c4_1, reduceIte, eq_self, decide_true, decide_false, Bool.and_true, Bool.true_and, Bool.and_false, Bool.false_and, Bool.and_self, not_true_eq_false, not_false_eq_true, and_true, true_and, and_false, false_and, and_self]; done) | (simp [jb_t, jb_f, pSem, c4_1]; done)), (by first | rfl | first | (simp only [jb_t, jb_f, pSem, c4_1, reduceIte, eq_self, decide_true, decide_false, Bool.and_true, Bool.true_and, Bool.and_false, Bool.false_and, Bool.and_self, not_true_eq_false, not_false_eq_true, and_true, true_and, and_false, false_and, and_self]; done) | (simp [jb_t, jb_f, pSem, c4_1]; done))⟩

set_option maxHeartbeats 4000000 in
set_option maxRecDepth 100000 in
theorem c_X2_takeSign (g : jG) (p : Nat) (ps : Nat) (pt : Nat) (pp : Nat) (n : Nat) (f : Nat → Int32) (P : PT) (c : Int32) (h21 : P.1 ≤ 21) : jMI g yX2_takeSign cX2_takeSign 2 .boolean 2 41 [.ref p, .int c] [(p, .inr (2, [.int (nI n), .ref ps, .int (nI P.1), .ref pt, .ref pp, .int (jb P.2.1), .int P.2.2.1, .int P.2.2.2.1])), (ps, .inl (gC g, 80, .inl f)), (pt, .inl (gI g, 21, .inl P.2.2.2.2.1)), (pp, .inl (gI g, 21, .inl P.2.2.2.2.2))] (fun rz wz => rz = jb (pSignB c P) ∧ wz = [(p, .inr (2, [.int (nI n), .ref ps, .int (nI ((pSign c P).1)), .ref pt, .ref pp, .int (jb ((pSign c P).2.1)), .int ((pSign c P).2.2.1), .int ((pSign c P).2.2.2.1)])), (ps, .inl (gC g, 80, .inl f)), (pt, .inl (gI g, 21, .inl ((pSign c P).2.2.2.2.1))), (pp, .inl (gI g, 21, .inl ((pSign c P).2.2.2.2.2)))]) := by
  refine jMI.intro (by decide +kernel) (Nat.le_of_ble_eq_true rfl) (fun x hX hQ => ?_)
  refine j_lv (lv2 := [(0, .ref p), (1, .int c)]) rfl ?_
  refine j_aload_n (pc := 0) hX dX2_takeSign_0 0 rfl ?_
  refine j_get (ci := 2) (pc := 1) hX inG2 rfl 5 (by decide) mw139 0 rfl rfl dX2_takeSign_1 ?_
  refine j_if_eq (tgt := 26) (pc := 4) hX dX2_takeSign_4 (by decide) (fun c4_1 => ?_) (fun c4_1 => ?_)
  · skip
    have c4_1b : P.2.1 = false := jb_0.mp c4_1
    refine j_iload_n (pc := 26) hX dX2_takeSign_26 1 rfl ?_
    refine j_bipush (v := 61) (pc := 27) hX dX2_takeSign_27 (by decide) ?_
    refine j_icmp_ne (tgt := 39) (pc := 29) hX dX2_takeSign_29 (by decide) (fun c29_2 => ?_) (fun c29_2 => ?_)
    · skip
      refine j_aload_n (pc := 39) hX dX2_takeSign_39 0 rfl ?_
      refine j_iload_n (pc := 40) hX dX2_takeSign_40 1 rfl ?_
      refine j_callVI (n := 1) (As := [.int c]) (rest := []) (pc := 41) hX (c_X2_takeLetter g p ps pt pp n f P c ) (CV.of mw355 mw356 mw7 mw47 mw357 ⟨rfl, by decide +kernel, by decide +kernel, by decide +kernel⟩ (T := TX2) (N := 8) rfl) (Nat.le_of_ble_eq_true rfl) (Nat.le_of_ble_eq_true rfl) (Nat.le_of_ble_eq_true rfl) (Nat.le_of_ble_eq_true rfl) 0 rfl [0, 1, 2, 3] (by decide +kernel) rfl rfl rfl (Nat.le_of_ble_eq_true rfl) dX2_takeSign_41 (fun r3 wz hq4 => ?_)
      obtain ⟨rfl, rfl⟩ := hq4
      refine j_ws (ws2 := [(p, .inr (2, [.int (nI n), .ref ps, .int (nI ((pLet c P).1)), .ref pt, .ref pp, .int (jb ((pLet c P).2.1)), .int ((pLet c P).2.2.1), .int ((pLet c P).2.2.2.1)])), (ps, .inl (gC g, 80, .inl f)), (pt, .inl (gI g, 21, .inl ((pLet c P).2.2.2.2.1))), (pp, .inl (gI g, 21, .inl ((pLet c P).2.2.2.2.2)))]) rfl ?_
      exact j_zret (pc := 44) hX hQ dX2_takeSign_44 (by first | rfl | exact jb_nar _) rfl ⟨(by first | rfl | first | (simp only [jb_t, jb_f, pSignB, pSign, c4_1, c4_1b, c29_2, reduceIte, eq_self, decide_true, decide_false, Bool.and_true, Bool.true_and, Bool.and_false, Bool.false_and, Bool.and_self, not_true_eq_false, not_false_eq_true, and_true, true_and, and_false, false_and, and_self]; done) | (simp [jb_t, jb_f, pSignB, pSign, c4_1, c4_1b, c29_2]; done)), (by first | rfl | first | (simp only [jb_t, jb_f, pSignB, pSign, c4_1, c4_1b, c29_2, reduceIte, eq_self, decide_true, decide_false, Bool.and_true, Bool.true_and, Bool.and_false, Bool.false_and, Bool.and_self, not_true_eq_false, not_false_eq_true, and_true, true_and, and_false, false_and, and_self]; done) | (simp [jb_t, jb_f, pSignB, pSign, c4_1, c4_1b, c29_2]; done))⟩
    · skip
      refine j_aload_n (pc := 32) hX dX2_takeSign_32 0 rfl ?_
      refine j_callVI (n := 0) (As := []) (rest := []) (pc := 33) hX (c_X2_takeEq g p ps pt pp n f P ) (CV.of mw352 mw353 mw6 mw47 mw354 ⟨rfl, by decide +kernel, by decide +kernel, by decide +kernel⟩ (T := TX2) (N := 8) rfl) (Nat.le_of_ble_eq_true rfl) (Nat.le_of_ble_eq_true rfl) (Nat.le_of_ble_eq_true rfl) (Nat.le_of_ble_eq_true rfl) 0 rfl [0, 1, 2, 3] (by decide +kernel) rfl rfl rfl (Nat.le_of_ble_eq_true rfl) dX2_takeSign_33 (fun r5 wz hq6 => ?_)
      obtain ⟨rfl, rfl⟩ := hq6
      refine j_ws (ws2 := [(p, .inr (2, [.int (nI n), .ref ps, .int (nI ((pEq P).1)), .ref pt, .ref pp, .int (jb ((pEq P).2.1)), .int ((pEq P).2.2.1), .int ((pEq P).2.2.2.1)])), (ps, .inl (gC g, 80, .inl f)), (pt, .inl (gI g, 21, .inl ((pEq P).2.2.2.2.1))), (pp, .inl (gI g, 21, .inl ((pEq P).2.2.2.2.2)))]) rfl ?_
      refine j_goto (tgt := 44) (pc := 36) hX dX2_takeSign_36 (by decide) ?_
      exact j_zret (pc := 44) hX hQ dX2_takeSign_44 (by first | rfl | exact jb_nar _) rfl ⟨(by first | rfl | first | (simp only [jb_t, jb_f, pSignB, pSign, c4_1, c4_1b, c29_2, reduceIte, eq_self, decide_true, decide_false, Bool.and_true, Bool.true_and, Bool.and_false, Bool.false_and, Bool.and_self, not_true_eq_false, not_false_eq_true, and_true, true_and, and_false, false_and, and_self]; done) | (simp [jb_t, jb_f, pSignB, pSign, c4_1, c4_1b, c29_2]; done)), (by first | rfl | first | (simp only [jb_t, jb_f, pSignB, pSign, c4_1, c4_1b, c29_2, reduceIte, eq_self, decide_true, decide_false, Bool.and_true, Bool.true_and, Bool.and_false, Bool.false_and, Bool.and_self, not_true_eq_false, not_false_eq_true, and_true, true_and, and_false, false_and, and_self]; done) | (simp [jb_t, jb_f, pSignB, pSign, c4_1, c4_1b, c29_2]; done))⟩
  · skip
    have c4_1b : P.2.1 = true := jb_1.mp c4_1
    refine j_iload_n (pc := 7) hX dX2_takeSign_7 1 rfl ?_
    refine j_bipush (v := 59) (pc := 8) hX dX2_takeSign_8 (by decide) ?_
    refine j_icmp_ne (tgt := 20) (pc := 10) hX dX2_takeSign_10 (by decide) (fun c10_7 => ?_) (fun c10_7 => ?_)
    · skip
      refine j_aload_n (pc := 20) hX dX2_takeSign_20 0 rfl ?_
      refine j_iload_n (pc := 21) hX dX2_takeSign_21 1 rfl ?_
      refine j_callVI (n := 1) (As := [.int c]) (rest := []) (pc := 22) hX (c_X2_takeDigit g p ps pt pp n f P c ) (CV.of mw348 mw349 mw5 mw47 mw350 ⟨rfl, by decide +kernel, by decide +kernel, by decide +kernel⟩ (T := TX2) (N := 8) rfl) (Nat.le_of_ble_eq_true rfl) (Nat.le_of_ble_eq_true rfl) (Nat.le_of_ble_eq_true rfl) (Nat.le_of_ble_eq_true rfl) 0 rfl [0, 1, 2, 3] (by decide +kernel) rfl rfl rfl (Nat.le_of_ble_eq_true rfl) dX2_takeSign_22 (fun r8 wz hq9 => ?_)
      obtain ⟨rfl, rfl⟩ := hq9
      refine j_ws (ws2 := [(p, .inr (2, [.int (nI n), .ref ps, .int (nI ((pDig c P).1)), .ref pt, .ref pp, .int (jb ((pDig c P).2.1)), .int ((pDig c P).2.2.1), .int ((pDig c P).2.2.2.1)])), (ps, .inl (gC g, 80, .inl f)), (pt, .inl (gI g, 21, .inl ((pDig c P).2.2.2.2.1))), (pp, .inl (gI g, 21, .inl ((pDig c P).2.2.2.2.2)))]) rfl ?_
      exact j_zret (pc := 25) hX hQ dX2_takeSign_25 (by first | rfl | exact jb_nar _) rfl ⟨(by first | rfl | first | (simp only [jb_t, jb_f, pSignB, pSign, c4_1, c4_1b, c10_7, reduceIte, eq_self, decide_true, decide_false, Bool.and_true, Bool.true_and, Bool.and_false, Bool.false_and, Bool.and_self, not_true_eq_false, not_false_eq_true, and_true, true_and, and_false, false_and, and_self]; done) | (simp [jb_t, jb_f, pSignB, pSign, c4_1, c4_1b, c10_7]; done)), (by first | rfl | first | (simp only [jb_t, jb_f, pSignB, pSign, c4_1, c4_1b, c10_7, reduceIte, eq_self, decide_true, decide_false, Bool.and_true, Bool.true_and, Bool.and_false, Bool.false_and, Bool.and_self, not_true_eq_false, not_false_eq_true, and_true, true_and, and_false, false_and, and_self]; done) | (simp [jb_t, jb_f, pSignB, pSign, c4_1, c4_1b, c10_7]; done))⟩
    · skip
      refine j_aload_n (pc := 13) hX dX2_takeSign_13 0 rfl ?_
      refine j_callVI (n := 0) (As := []) (rest := []) (pc := 14) hX (c_X2_takeSemi g p ps pt pp n f P (by first | assumption | omega)) (CV.of mw342 mw343 mw3 mw47 mw344 ⟨rfl, by decide +kernel, by decide +kernel, by decide +kernel⟩ (T := TX2) (N := 8) rfl) (Nat.le_of_ble_eq_true rfl) (Nat.le_of_ble_eq_true rfl) (Nat.le_of_ble_eq_true rfl) (Nat.le_of_ble_eq_true rfl) 0 rfl [0, 1, 2, 3] (by decide +kernel) rfl rfl rfl (Nat.le_of_ble_eq_true rfl) dX2_takeSign_14 (fun r10 wz hq11 => ?_)
      obtain ⟨rfl, rfl⟩ := hq11
      refine j_ws (ws2 := [(p, .inr (2, [.int (nI n), .ref ps, .int (nI ((pSem P).1)), .ref pt, .ref pp, .int (jb ((pSem P).2.1)), .int ((pSem P).2.2.1), .int ((pSem P).2.2.2.1)])), (ps, .inl (gC g, 80, .inl f)), (pt, .inl (gI g, 21, .inl ((pSem P).2.2.2.2.1))), (pp, .inl (gI g, 21, .inl ((pSem P).2.2.2.2.2)))]) rfl ?_
      refine j_goto (tgt := 25) (pc := 17) hX dX2_takeSign_17 (by decide) ?_
      exact j_zret (pc := 25) hX hQ dX2_takeSign_25 (by first | rfl | exact jb_nar _) rfl ⟨(by first | rfl | first | (simp only [jb_t, jb_f, pSignB, pSign, c4_1, c4_1b, c10_7, reduceIte, eq_self, decide_true, decide_false, Bool.and_true, Bool.true_and, Bool.and_false, Bool.false_and, Bool.and_self, not_true_eq_false, not_false_eq_true, and_true, true_and, and_false, false_and, and_self]; done) | (simp [jb_t, jb_f, pSignB, pSign, c4_1, c4_1b, c10_7]; done)), (by first | rfl | first | (simp only [jb_t, jb_f, pSignB, pSign, c4_1, c4_1b, c10_7, reduceIte, eq_self, decide_true, decide_false, Bool.and_true, Bool.true_and, Bool.and_false, Bool.false_and, Bool.and_self, not_true_eq_false, not_false_eq_true, and_true, true_and, and_false, false_and, and_self]; done) | (simp [jb_t, jb_f, pSignB, pSign, c4_1, c4_1b, c10_7]; done))⟩

theorem pEnd_21 {P : PT} (h : P.1 ≤ 21) : (pEnd P).1 ≤ 21 := by
  unfold pEnd
  split
  · show P.1 + 1 ≤ 21
    omega
  · exact h
theorem pSign_21 {P : PT} (c : Int32) (h : P.1 ≤ 21) : (pSign c P).1 ≤ 21 := by
  unfold pSign pSem pDig pEq pLet
  repeat' split
  all_goals first | exact h | exact pEnd_21 h
theorem pRd_go {f : Nat → Int32} {n i : Nat} {P : PT} {R : Int32 × PT} (hi : i < n) (hR : pRd f n (n - i) i P = R) (hb : pSignB (f i) P = true) : pRd f n (n - (i + 1)) (i + 1) (pSign (f i) P) = R := by
  rw [show n - i = (n - (i + 1)) + 1 by omega, pRd, if_pos hb] at hR
  exact hR
theorem pRd_no {f : Nat → Int32} {n i : Nat} {P : PT} {R : Int32 × PT} (hi : i < n) (hR : pRd f n (n - i) i P = R) (hb : pSignB (f i) P = false) : R = (nI i, pSign (f i) P) := by
  rw [show n - i = (n - (i + 1)) + 1 by omega, pRd, hb] at hR
  exact hR.symm
theorem pRd_end {f : Nat → Int32} {n i : Nat} {P : PT} {R : Int32 × PT} (hi : i = n) (hR : pRd f n (n - i) i P = R) : R = if P.2.2.2.1 = 0 then (nI n, P) else (-6, pEnd P) := by
  rw [show n - i = 0 by omega, pRd] at hR
  exact hR.symm

set_option maxHeartbeats 4000000 in
set_option maxRecDepth 100000 in
theorem c_X2_read (g : jG) (p : Nat) (ps : Nat) (pt : Nat) (pp : Nat) (n : Nat) (f : Nat → Int32) (P : PT) (hn : n ≤ 80) (h21 : P.1 ≤ 21) : jMI g yX2_read cX2_read 2 .int 3 62 [.ref p] [(p, .inr (2, [.int (nI n), .ref ps, .int (nI P.1), .ref pt, .ref pp, .int (jb P.2.1), .int P.2.2.1, .int P.2.2.2.1])), (ps, .inl (gC g, 80, .inl f)), (pt, .inl (gI g, 21, .inl P.2.2.2.2.1)), (pp, .inl (gI g, 21, .inl P.2.2.2.2.2))] (fun rz wz => rz = (pRd f n n 0 (pZero P)).1 ∧ wz = [(p, .inr (2, [.int (nI n), .ref ps, .int (nI ((pRd f n n 0 (pZero P)).2.1)), .ref pt, .ref pp, .int (jb ((pRd f n n 0 (pZero P)).2.2.1)), .int ((pRd f n n 0 (pZero P)).2.2.2.1), .int ((pRd f n n 0 (pZero P)).2.2.2.2.1)])), (ps, .inl (gC g, 80, .inl f)), (pt, .inl (gI g, 21, .inl ((pRd f n n 0 (pZero P)).2.2.2.2.2.1))), (pp, .inl (gI g, 21, .inl ((pRd f n n 0 (pZero P)).2.2.2.2.2.2)))]) := by
  refine jMI.intro (by decide +kernel) (Nat.le_of_ble_eq_true rfl) (fun x hX hQ => ?_)
  refine j_lv (lv2 := [(0, .ref p)]) rfl ?_
  refine j_aload_n (pc := 0) hX dX2_read_0 0 rfl ?_
  refine j_iconst (v := 0) (pc := 1) hX dX2_read_1 (by decide) ?_
  refine j_put (ci := 2) (ty := .int) (pc := 2) hX inG2 tyX2 tyX2_ok nmG2 rfl 2 (by decide) mw135 rfl (by decide +kernel) 0 rfl (Nat.le_of_ble_eq_true rfl) (rfl) rfl dX2_read_2 ?_
  refine j_ws (ws2 := [(p, .inr (2, [.int (nI n), .ref ps, .int 0, .ref pt, .ref pp, .int (jb P.2.1), .int P.2.2.1, .int P.2.2.2.1])), (ps, .inl (gC g, 80, .inl f)), (pt, .inl (gI g, 21, .inl P.2.2.2.2.1)), (pp, .inl (gI g, 21, .inl P.2.2.2.2.2))]) rfl ?_
  refine j_aload_n (pc := 5) hX dX2_read_5 0 rfl ?_
  refine j_callVV (n := 0) (As := []) (rest := []) (pc := 6) hX (c_X2_beginSet g p ps pt pp n f (0, P.2.1, P.2.2.1, P.2.2.2.1, P.2.2.2.2.1, P.2.2.2.2.2) ) (CV.of mw336 mw337 mw1 mw47 mw338 ⟨rfl, by decide +kernel, by decide +kernel, by decide +kernel⟩ (T := TX2) (N := 8) rfl) (Nat.le_of_ble_eq_true rfl) (Nat.le_of_ble_eq_true rfl) (Nat.le_of_ble_eq_true rfl) (Nat.le_of_ble_eq_true rfl) 0 rfl [0, 1, 2, 3] (by decide +kernel) rfl rfl rfl (Nat.le_of_ble_eq_true rfl) dX2_read_6 (fun wz wnz hq2 => ?_)
  obtain ⟨rfl, rfl⟩ := hq2
  refine j_ws (ws2 := [(p, .inr (2, [.int (nI n), .ref ps, .int (nI ((pBeg (0, P.2.1, P.2.2.1, P.2.2.2.1, P.2.2.2.2.1, P.2.2.2.2.2)).1)), .ref pt, .ref pp, .int (jb ((pBeg (0, P.2.1, P.2.2.1, P.2.2.2.1, P.2.2.2.2.1, P.2.2.2.2.2)).2.1)), .int ((pBeg (0, P.2.1, P.2.2.1, P.2.2.2.1, P.2.2.2.2.1, P.2.2.2.2.2)).2.2.1), .int ((pBeg (0, P.2.1, P.2.2.1, P.2.2.2.1, P.2.2.2.2.1, P.2.2.2.2.2)).2.2.2.1)])), (ps, .inl (gC g, 80, .inl f)), (pt, .inl (gI g, 21, .inl ((pBeg (0, P.2.1, P.2.2.1, P.2.2.2.1, P.2.2.2.2.1, P.2.2.2.2.2)).2.2.2.2.1))), (pp, .inl (gI g, 21, .inl ((pBeg (0, P.2.1, P.2.2.1, P.2.2.2.1, P.2.2.2.2.1, P.2.2.2.2.2)).2.2.2.2.2)))]) rfl ?_
  refine j_iconst (v := 0) (pc := 9) hX dX2_read_9 (by decide) ?_
  refine j_istore_n (lv2 := [(0, .ref p), (1, .int 0)]) (pc := 10) hX dX2_read_10 [1, 0] (by decide) rfl ?_
  have L11 : ∀ (d : Nat) (i : Nat) (Q : PT), i ≤ n → Q.1 ≤ 21 → pRd f n (n - i) i Q = (pRd f n n 0 (pZero P)) → n - i = d → J g x 2 0 0 11 [(0, .ref p), (1, .int (nI i))] [] [(p, .inr (2, [.int (nI n), .ref ps, .int (nI Q.1), .ref pt, .ref pp, .int (jb Q.2.1), .int Q.2.2.1, .int Q.2.2.2.1])), (ps, .inl (gC g, 80, .inl f)), (pt, .inl (gI g, 21, .inl Q.2.2.2.2.1)), (pp, .inl (gI g, 21, .inl Q.2.2.2.2.2))] := by
    intro d
    induction d using Nat.strongRecOn with
    | _ d ih11 =>
      intro i Q hi h21 hR hd11
      refine j_iload_n (pc := 11) hX dX2_read_11 1 rfl ?_
      refine j_aload_n (pc := 12) hX dX2_read_12 0 rfl ?_
      refine j_get (ci := 2) (pc := 13) hX inG2 rfl 0 (by decide) mw132 0 rfl rfl dX2_read_13 ?_
      refine j_icmp_ge (tgt := 40) (pc := 16) hX dX2_read_16 (by decide) (fun c16_3 => ?_) (fun c16_3 => ?_)
      · skip
        have c16_3n : n ≤ i := (nI_leI (a := n) (b := i) (by omega) (by omega)).mp c16_3
        have c16_3m : ¬ i < n := by omega
        refine j_aload_n (pc := 40) hX dX2_read_40 0 rfl ?_
        refine j_get (ci := 2) (pc := 41) hX inG2 rfl 7 (by decide) mw141 0 rfl rfl dX2_read_41 ?_
        refine j_if_ne (tgt := 52) (pc := 44) hX dX2_read_44 (by decide) (fun c44_4 => ?_) (fun c44_4 => ?_)
        · skip
          refine j_aload_n (pc := 52) hX dX2_read_52 0 rfl ?_
          refine j_callVV (n := 0) (As := []) (rest := []) (pc := 53) hX (c_X2_endSet g p ps pt pp n f Q (by first | assumption | omega)) (CV.of mw345 mw346 mw4 mw47 mw347 ⟨rfl, by decide +kernel, by decide +kernel, by decide +kernel⟩ (T := TX2) (N := 8) rfl) (Nat.le_of_ble_eq_true rfl) (Nat.le_of_ble_eq_true rfl) (Nat.le_of_ble_eq_true rfl) (Nat.le_of_ble_eq_true rfl) 0 rfl [0, 1, 2, 3] (by decide +kernel) rfl rfl rfl (Nat.le_of_ble_eq_true rfl) dX2_read_53 (fun wz wnz hq6 => ?_)
          obtain ⟨rfl, rfl⟩ := hq6
          refine j_ws (ws2 := [(p, .inr (2, [.int (nI n), .ref ps, .int (nI ((pEnd Q).1)), .ref pt, .ref pp, .int (jb ((pEnd Q).2.1)), .int ((pEnd Q).2.2.1), .int ((pEnd Q).2.2.2.1)])), (ps, .inl (gC g, 80, .inl f)), (pt, .inl (gI g, 21, .inl ((pEnd Q).2.2.2.2.1))), (pp, .inl (gI g, 21, .inl ((pEnd Q).2.2.2.2.2)))]) rfl ?_
          refine j_bipush (v := (-6)) (pc := 56) hX dX2_read_56 (by decide) ?_
          exact j_iret (pc := 58) hX hQ dX2_read_58 rfl ⟨(by rw [pRd_end (by omega) hR, if_neg c44_4]), (by rw [pRd_end (by omega) hR, if_neg c44_4])⟩
        · skip
          refine j_aload_n (pc := 47) hX dX2_read_47 0 rfl ?_
          refine j_get (ci := 2) (pc := 48) hX inG2 rfl 0 (by decide) mw132 0 rfl rfl dX2_read_48 ?_
          exact j_iret (pc := 51) hX hQ dX2_read_51 rfl ⟨(by rw [pRd_end (by omega) hR, if_pos c44_4]), (by rw [pRd_end (by omega) hR, if_pos c44_4])⟩
      · skip
        have c16_3n : ¬ n ≤ i := fun h9 => c16_3 ((nI_leI (a := n) (b := i) (by omega) (by omega)).mpr h9)
        have c16_3m : i < n := by omega
        refine j_aload_n (pc := 19) hX dX2_read_19 0 rfl ?_
        refine j_aload_n (pc := 20) hX dX2_read_20 0 rfl ?_
        refine j_get (ci := 2) (pc := 21) hX inG2 rfl 1 (by decide) mw134 0 rfl rfl dX2_read_21 ?_
        refine j_iload_n (pc := 24) hX dX2_read_24 1 rfl ?_
        refine j_cald (pc := 25) hX 1 rfl i rfl (by omega) (by omega) dX2_read_25 ?_
        refine j_callVI (n := 1) (As := [.int (f i)]) (rest := []) (pc := 26) hX (c_X2_takeSign g p ps pt pp n f Q (f i) (by first | assumption | omega)) (CV.of mw339 mw340 mw2 mw47 mw341 ⟨rfl, by decide +kernel, by decide +kernel, by decide +kernel⟩ (T := TX2) (N := 8) rfl) (Nat.le_of_ble_eq_true rfl) (Nat.le_of_ble_eq_true rfl) (Nat.le_of_ble_eq_true rfl) (Nat.le_of_ble_eq_true rfl) 0 rfl [0, 1, 2, 3] (by decide +kernel) rfl rfl rfl (Nat.le_of_ble_eq_true rfl) dX2_read_26 (fun r7 wz hq8 => ?_)
        obtain ⟨rfl, rfl⟩ := hq8
        refine j_ws (ws2 := [(p, .inr (2, [.int (nI n), .ref ps, .int (nI ((pSign (f i) Q).1)), .ref pt, .ref pp, .int (jb ((pSign (f i) Q).2.1)), .int ((pSign (f i) Q).2.2.1), .int ((pSign (f i) Q).2.2.2.1)])), (ps, .inl (gC g, 80, .inl f)), (pt, .inl (gI g, 21, .inl ((pSign (f i) Q).2.2.2.2.1))), (pp, .inl (gI g, 21, .inl ((pSign (f i) Q).2.2.2.2.2)))]) rfl ?_
        refine j_if_ne (tgt := 34) (pc := 29) hX dX2_read_29 (by decide) (fun c29_9 => ?_) (fun c29_9 => ?_)
        · skip
          have c29_9b : (pSignB (f i) Q) = true := jb_1.mp c29_9
          refine j_iinc (v := nI (i + 1)) (lv2 := [(0, .ref p), (1, .int (nI (i + 1)))]) (pc := 34) hX dX2_read_34 1 rfl (nI_add i 1) [1, 0] (by decide) rfl ?_
          refine j_goto (tgt := 11) (pc := 37) hX dX2_read_37 (by decide) ?_
          exact j_eq (lv2 := [(0, .ref p), (1, .int (nI (i + 1)))]) (ws2 := [(p, .inr (2, [.int (nI n), .ref ps, .int (nI (pSign (f i) Q).1), .ref pt, .ref pp, .int (jb (pSign (f i) Q).2.1), .int (pSign (f i) Q).2.2.1, .int (pSign (f i) Q).2.2.2.1])), (ps, .inl (gC g, 80, .inl f)), (pt, .inl (gI g, 21, .inl (pSign (f i) Q).2.2.2.2.1)), (pp, .inl (gI g, 21, .inl (pSign (f i) Q).2.2.2.2.2))]) (by first | rfl | first | (simp only [jb_t, jb_f, c16_3, c16_3n, c16_3m, c29_9, c29_9b, reduceIte, eq_self, decide_true, decide_false, Bool.and_true, Bool.true_and, Bool.and_false, Bool.false_and, Bool.and_self, not_true_eq_false, not_false_eq_true, and_true, true_and, and_false, false_and, and_self]; done) | (simp [jb_t, jb_f, c16_3, c16_3n, c16_3m, c29_9, c29_9b]; done)) (by first | rfl | first | (simp only [jb_t, jb_f, c16_3, c16_3n, c16_3m, c29_9, c29_9b, reduceIte, eq_self, decide_true, decide_false, Bool.and_true, Bool.true_and, Bool.and_false, Bool.false_and, Bool.and_self, not_true_eq_false, not_false_eq_true, and_true, true_and, and_false, false_and, and_self]; done) | (simp [jb_t, jb_f, c16_3, c16_3n, c16_3m, c29_9, c29_9b]; done)) (ih11 _ (by omega) (i + 1) (pSign (f i) Q) (by omega) (pSign_21 _ h21) (pRd_go (by omega) hR (by assumption)) rfl)
        · skip
          have c29_9b : (pSignB (f i) Q) = false := jb_0.mp c29_9
          refine j_iload_n (pc := 32) hX dX2_read_32 1 rfl ?_
          exact j_iret (pc := 33) hX hQ dX2_read_33 rfl ⟨(by rw [pRd_no (by omega) hR c29_9b]), (by rw [pRd_no (by omega) hR c29_9b])⟩
  exact j_eq (lv2 := [(0, .ref p), (1, .int (nI 0))]) (ws2 := [(p, .inr (2, [.int (nI n), .ref ps, .int (nI (pZero P).1), .ref pt, .ref pp, .int (jb (pZero P).2.1), .int (pZero P).2.2.1, .int (pZero P).2.2.2.1])), (ps, .inl (gC g, 80, .inl f)), (pt, .inl (gI g, 21, .inl (pZero P).2.2.2.2.1)), (pp, .inl (gI g, 21, .inl (pZero P).2.2.2.2.2))]) (rfl) (rfl) (L11 _ 0 (pZero P) (by omega) (Nat.zero_le 21) (rfl) rfl)

set_option maxHeartbeats 4000000 in
set_option maxRecDepth 100000 in
theorem c_X2_signsIn (g : jG) (xl : Int64)  : jMI g yX2_signsIn cX2_signsIn 8 .int 0 0 [.long xl] [] (fun rz wz => rz = nI (sgn 8 xl 0) ∧ wz = []) := by
  refine jMI.intro (by decide +kernel) (Nat.le_of_ble_eq_true rfl) (fun x hX hQ => ?_)
  refine j_lv (lv2 := [(0, .long xl)]) rfl ?_
  refine j_lload_n (pc := 0) hX dX2_signsIn_0 0 rfl ?_
  refine j_lstore_n (lv2 := [(0, .long xl), (2, .long xl)]) (pc := 1) hX dX2_signsIn_1 [1, 0] (by decide) rfl ?_
  refine j_iconst (v := 0) (pc := 2) hX dX2_signsIn_2 (by decide) ?_
  refine j_istore (lv2 := [(0, .long xl), (2, .long xl), (4, .int 0)]) (pc := 3) hX dX2_signsIn_3 [1, 2, 0] (by decide) rfl ?_
  refine j_iconst (v := 0) (pc := 5) hX dX2_signsIn_5 (by decide) ?_
  refine j_istore (lv2 := [(0, .long xl), (2, .long xl), (4, .int 0), (5, .int 0)]) (pc := 6) hX dX2_signsIn_6 [1, 2, 3, 0] (by decide) rfl ?_
  have L8 : ∀ (d : Nat) (i : Nat) (y : Int64), i ≤ 8 → sgn (8 - i) y i = sgn 8 xl 0 → 8 - i = d → J g x 8 0 0 8 [(0, .long xl), (2, .long y), (4, .int (nI i)), (5, .int (nI i))] [] [] := by
    intro d
    induction d using Nat.strongRecOn with
    | _ d ih8 =>
      intro i y hi hR hd8
      refine j_iload (pc := 8) hX dX2_signsIn_8 3 rfl ?_
      refine j_bipush (v := 8) (pc := 10) hX dX2_signsIn_10 (by decide) ?_
      refine j_icmp_ge (tgt := 62) (pc := 12) hX dX2_signsIn_12 (by decide) (fun c12_1 => ?_) (fun c12_1 => ?_)
      · skip
        have c12_1n : 8 ≤ i := (nI_leI (a := 8) (b := i) (by omega) (by omega)).mp c12_1
        have c12_1m : ¬ i < 8 := by omega
        refine j_iload (pc := 62) hX dX2_signsIn_62 2 rfl ?_
        exact j_iret (pc := 64) hX hQ dX2_signsIn_64 rfl ⟨(by rw [← hR, show 8 - i = 0 by omega]; rfl), (by first | rfl | first | (simp only [jb_t, jb_f, c12_1, c12_1n, c12_1m, reduceIte, eq_self, decide_true, decide_false, Bool.and_true, Bool.true_and, Bool.and_false, Bool.false_and, Bool.and_self, not_true_eq_false, not_false_eq_true, and_true, true_and, and_false, false_and, and_self]; done) | (simp [jb_t, jb_f, c12_1, c12_1n, c12_1m]; done))⟩
      · skip
        have c12_1n : ¬ 8 ≤ i := fun h9 => c12_1 ((nI_leI (a := 8) (b := i) (by omega) (by omega)).mpr h9)
        have c12_1m : i < 8 := by omega
        refine j_lload_n (pc := 15) hX dX2_signsIn_15 1 rfl ?_
        refine j_lconst (v := 0) (pc := 16) hX dX2_signsIn_16 (by decide) ?_
        refine j_lcmp (pc := 17) hX dX2_signsIn_17 ?_
        refine j_if_eq (tgt := 62) (pc := 18) hX dX2_signsIn_18 (by decide) (fun c18_2 => ?_) (fun c18_2 => ?_)
        · skip
          refine j_iload (pc := 62) hX dX2_signsIn_62 2 rfl ?_
          exact j_iret (pc := 64) hX hQ dX2_signsIn_64 rfl ⟨(by rw [← hR, show 8 - i = (8 - (i + 1)) + 1 by omega]; simp [sgn, c12_1, c12_1n, c12_1m, c18_2]), (by first | rfl | first | (simp only [jb_t, jb_f, c12_1, c12_1n, c12_1m, c18_2, reduceIte, eq_self, decide_true, decide_false, Bool.and_true, Bool.true_and, Bool.and_false, Bool.false_and, Bool.and_self, not_true_eq_false, not_false_eq_true, and_true, true_and, and_false, false_and, and_self]; done) | (simp [jb_t, jb_f, c12_1, c12_1n, c12_1m, c18_2]; done))⟩
        · skip
          refine j_lload_n (pc := 21) hX dX2_signsIn_21 1 rfl ?_
          refine j_ldc2 (v := 255) (pc := 22) hX mw321 dX2_signsIn_22 ?_
          refine j_land (pc := 25) hX dX2_signsIn_25 ?_
          refine j_lstore (lv2 := [(0, .long xl), (2, .long y), (4, .int (nI i)), (5, .int (nI i)), (6, .long (y &&& 255))]) (pc := 26) hX dX2_signsIn_26 [1, 2, 3, 4, 0] (by decide) rfl ?_
          refine j_lload (pc := 28) hX dX2_signsIn_28 4 rfl ?_
          refine j_ldc2 (v := 33) (pc := 30) hX mw322 dX2_signsIn_30 ?_
          refine j_lcmp (pc := 33) hX dX2_signsIn_33 ?_
          refine j_if_lt (tgt := 46) (pc := 34) hX dX2_signsIn_34 (by decide) (fun c34_3 => ?_) (fun c34_3 => ?_)
          · skip
            refine j_iconst (v := 0) (pc := 46) hX dX2_signsIn_46 (by decide) ?_
            exact j_iret (pc := 47) hX hQ dX2_signsIn_47 rfl ⟨(by rw [← hR, show 8 - i = (8 - (i + 1)) + 1 by omega]; simp [sgn, c12_1, c12_1n, c12_1m, c18_2, c34_3]; rfl), (by first | rfl | first | (simp only [jb_t, jb_f, c12_1, c12_1n, c12_1m, c18_2, c34_3, reduceIte, eq_self, decide_true, decide_false, Bool.and_true, Bool.true_and, Bool.and_false, Bool.false_and, Bool.and_self, not_true_eq_false, not_false_eq_true, and_true, true_and, and_false, false_and, and_self]; done) | (simp [jb_t, jb_f, c12_1, c12_1n, c12_1m, c18_2, c34_3]; done))⟩
          · skip
            refine j_lload (pc := 37) hX dX2_signsIn_37 4 rfl ?_
            refine j_ldc2 (v := 126) (pc := 39) hX mw323 dX2_signsIn_39 ?_
            refine j_lcmp (pc := 42) hX dX2_signsIn_42 ?_
            refine j_if_le (tgt := 48) (pc := 43) hX dX2_signsIn_43 (by decide) (fun c43_4 => ?_) (fun c43_4 => ?_)
            · skip
              refine j_lload_n (pc := 48) hX dX2_signsIn_48 1 rfl ?_
              refine j_bipush (v := 8) (pc := 49) hX dX2_signsIn_49 (by decide) ?_
              refine j_lushr (pc := 51) hX dX2_signsIn_51 ?_
              refine j_lstore_n (lv2 := [(0, .long xl), (2, .long ((y.toUInt64 >>> ((8 : Int32).toInt64.toUInt64 &&& Int64.toUInt64 63)).toInt64)), (4, .int (nI i)), (5, .int (nI i)), (6, .long (y &&& 255))]) (pc := 52) hX dX2_signsIn_52 [1, 0, 2, 3, 4] (by decide) rfl ?_
              refine j_iinc (v := nI (i + 1)) (lv2 := [(0, .long xl), (2, .long ((y.toUInt64 >>> ((8 : Int32).toInt64.toUInt64 &&& Int64.toUInt64 63)).toInt64)), (4, .int (nI (i + 1))), (5, .int (nI i)), (6, .long (y &&& 255))]) (pc := 53) hX dX2_signsIn_53 2 rfl (nI_add i 1) [1, 2, 0, 3, 4] (by decide) rfl ?_
              refine j_iinc (v := nI (i + 1)) (lv2 := [(0, .long xl), (2, .long ((y.toUInt64 >>> ((8 : Int32).toInt64.toUInt64 &&& Int64.toUInt64 63)).toInt64)), (4, .int (nI (i + 1))), (5, .int (nI (i + 1))), (6, .long (y &&& 255))]) (pc := 56) hX dX2_signsIn_56 3 rfl (nI_add i 1) [1, 2, 3, 0, 4] (by decide) rfl ?_
              refine j_goto (tgt := 8) (pc := 59) hX dX2_signsIn_59 (by decide) ?_
              refine j_lvs (lv2 := [(0, .long xl), (2, .long ((y.toUInt64 >>> ((8 : Int32).toInt64.toUInt64 &&& Int64.toUInt64 63)).toInt64)), (4, .int (nI (i + 1))), (5, .int (nI (i + 1)))]) [0, 1, 2, 3] rfl ?_
              exact j_eq (lv2 := [(0, .long xl), (2, .long ((y.toUInt64 >>> ((8 : Int32).toInt64.toUInt64 &&& Int64.toUInt64 63)).toInt64)), (4, .int (nI (i + 1))), (5, .int (nI (i + 1)))]) (ws2 := []) (by first | rfl | first | (simp only [jb_t, jb_f, c12_1, c12_1n, c12_1m, c18_2, c34_3, c43_4, reduceIte, eq_self, decide_true, decide_false, Bool.and_true, Bool.true_and, Bool.and_false, Bool.false_and, Bool.and_self, not_true_eq_false, not_false_eq_true, and_true, true_and, and_false, false_and, and_self]; done) | (simp [jb_t, jb_f, c12_1, c12_1n, c12_1m, c18_2, c34_3, c43_4]; done)) (by first | rfl | first | (simp only [jb_t, jb_f, c12_1, c12_1n, c12_1m, c18_2, c34_3, c43_4, reduceIte, eq_self, decide_true, decide_false, Bool.and_true, Bool.true_and, Bool.and_false, Bool.false_and, Bool.and_self, not_true_eq_false, not_false_eq_true, and_true, true_and, and_false, false_and, and_self]; done) | (simp [jb_t, jb_f, c12_1, c12_1n, c12_1m, c18_2, c34_3, c43_4]; done)) (ih8 _ (by omega) (i + 1) ((y.toUInt64 >>> ((8 : Int32).toInt64.toUInt64 &&& Int64.toUInt64 63)).toInt64) (by omega) (by rw [show 8 - i = (8 - (i + 1)) + 1 by omega] at hR; simpa [sgn, *] using hR) rfl)
            · skip
              refine j_iconst (v := 0) (pc := 46) hX dX2_signsIn_46 (by decide) ?_
              exact j_iret (pc := 47) hX hQ dX2_signsIn_47 rfl ⟨(by rw [← hR, show 8 - i = (8 - (i + 1)) + 1 by omega]; simp [sgn, c12_1, c12_1n, c12_1m, c18_2, c34_3, c43_4]; rfl), (by first | rfl | first | (simp only [jb_t, jb_f, c12_1, c12_1n, c12_1m, c18_2, c34_3, c43_4, reduceIte, eq_self, decide_true, decide_false, Bool.and_true, Bool.true_and, Bool.and_false, Bool.false_and, Bool.and_self, not_true_eq_false, not_false_eq_true, and_true, true_and, and_false, false_and, and_self]; done) | (simp [jb_t, jb_f, c12_1, c12_1n, c12_1m, c18_2, c34_3, c43_4]; done))⟩
  exact j_eq (lv2 := [(0, .long xl), (2, .long xl), (4, .int (nI 0)), (5, .int (nI 0))]) (ws2 := []) (rfl) (rfl) (L8 _ 0 xl (by omega) (rfl) rfl)

set_option maxHeartbeats 4000000 in
set_option maxRecDepth 100000 in
theorem c_X2_append (g : jG) (p : Nat) (ps : Nat) (pt : Nat) (pp : Nat) (n : Nat) (f : Nat → Int32) (P : PT) (xl : Int64) (hn : n ≤ 80) : jMI g yX2_append cX2_append 5 .int 1 27 [.ref p, .long xl] [(p, .inr (2, [.int (nI n), .ref ps, .int (nI P.1), .ref pt, .ref pp, .int (jb P.2.1), .int P.2.2.1, .int P.2.2.2.1])), (ps, .inl (gC g, 80, .inl f)), (pt, .inl (gI g, 21, .inl P.2.2.2.2.1)), (pp, .inl (gI g, 21, .inl P.2.2.2.2.2))] (fun rz wz => rz = pAns n xl ∧ wz = [(p, .inr (2, [.int (nI (pLen n xl)), .ref ps, .int (nI P.1), .ref pt, .ref pp, .int (jb P.2.1), .int P.2.2.1, .int P.2.2.2.1])), (ps, .inl (gC g, 80, .inl (pTxt f n xl))), (pt, .inl (gI g, 21, .inl P.2.2.2.2.1)), (pp, .inl (gI g, 21, .inl P.2.2.2.2.2))]) := by
  refine jMI.intro (by decide +kernel) (Nat.le_of_ble_eq_true rfl) (fun x hX hQ => ?_)
  refine j_lv (lv2 := [(0, .ref p), (1, .long xl)]) rfl ?_
  refine j_lload_n (pc := 0) hX dX2_append_0 1 rfl ?_
  refine j_callSI (n := 1) (As := [.long xl]) (rest := []) (pc := 1) hX (c_X2_signsIn g xl ) (CS.of mw318 mw319 mw47 mw320 ⟨by decide +kernel, by decide +kernel, by decide +kernel⟩) (Nat.le_of_ble_eq_true rfl) (Nat.le_of_ble_eq_true rfl) (Nat.le_of_ble_eq_true rfl) (Nat.le_of_ble_eq_true rfl) [] (by decide +kernel) rfl rfl rfl (Nat.le_of_ble_eq_true rfl) dX2_append_1 (fun r1 wz hq2 => ?_)
  obtain ⟨rfl, rfl⟩ := hq2
  refine j_ws (ws2 := [(p, .inr (2, [.int (nI n), .ref ps, .int (nI P.1), .ref pt, .ref pp, .int (jb P.2.1), .int P.2.2.1, .int P.2.2.2.1])), (ps, .inl (gC g, 80, .inl f)), (pt, .inl (gI g, 21, .inl P.2.2.2.2.1)), (pp, .inl (gI g, 21, .inl P.2.2.2.2.2))]) rfl ?_
  refine j_istore_n (lv2 := [(0, .ref p), (1, .long xl), (3, .int (nI (sgn 8 xl 0)))]) (pc := 4) hX dX2_append_4 [1, 2, 0] (by decide) rfl ?_
  have h8 := sgn_le 8 xl 0
  refine j_iload_n (pc := 5) hX dX2_append_5 2 rfl ?_
  refine j_if_ne (tgt := 12) (pc := 6) hX dX2_append_6 (by decide) (fun c6_3 => ?_) (fun c6_3 => ?_)
  · skip
    have c6_3n : ¬ (sgn 8 xl 0) = 0 := fun h9 => c6_3 ((nI_eq (a := (sgn 8 xl 0)) (b := 0) (by omega) (by omega)).mpr h9)
    refine j_aload_n (pc := 12) hX dX2_append_12 0 rfl ?_
    refine j_get (ci := 2) (pc := 13) hX inG2 rfl 0 (by decide) mw132 0 rfl rfl dX2_append_13 ?_
    refine j_iload_n (pc := 16) hX dX2_append_16 2 rfl ?_
    refine j_iadd (pc := 17) hX dX2_append_17 ?_
    refine j_top (b := nI (n + (sgn 8 xl 0))) (nI_add n (sgn 8 xl 0)) ?_
    refine j_bipush (v := 80) (pc := 18) hX dX2_append_18 (by decide) ?_
    refine j_icmp_le (tgt := 26) (pc := 20) hX dX2_append_20 (by decide) (fun c20_4 => ?_) (fun c20_4 => ?_)
    · skip
      have c20_4n : (n + (sgn 8 xl 0)) ≤ 80 := (nI_leI (a := (n + (sgn 8 xl 0))) (b := 80) (by omega) (by omega)).mp c20_4
      have c20_4m : ¬ 80 < (n + (sgn 8 xl 0)) := by omega
      refine j_iload_n (pc := 26) hX dX2_append_26 2 rfl ?_
      refine j_iconst (v := 1) (pc := 27) hX dX2_append_27 (by decide) ?_
      refine j_isub (pc := 28) hX dX2_append_28 ?_
      refine j_istore (lv2 := [(0, .ref p), (1, .long xl), (3, .int (nI (sgn 8 xl 0))), (4, .int ((nI (sgn 8 xl 0)) - 1))]) (pc := 29) hX dX2_append_29 [1, 2, 3, 0] (by decide) rfl ?_
      have L31 : ∀ (d : Nat) (a : Nat), a ≤ sgn 8 xl 0 → a = d → J g x 5 0 0 31 [(0, .ref p), (1, .long xl), (3, .int (nI (sgn 8 xl 0))), (4, .int (nI a - 1))] [] [(p, .inr (2, [.int (nI (n + (sgn 8 xl 0 - a))), .ref ps, .int (nI P.1), .ref pt, .ref pp, .int (jb P.2.1), .int P.2.2.1, .int P.2.2.2.1])), (ps, .inl (gC g, 80, .inl (S_app f xl n (sgn 8 xl 0) a))), (pt, .inl (gI g, 21, .inl P.2.2.2.2.1)), (pp, .inl (gI g, 21, .inl P.2.2.2.2.2))] := by
        intro d
        induction d using Nat.strongRecOn with
        | _ d ih31 =>
          intro a ha hd31
          refine j_iload (pc := 31) hX dX2_append_31 3 rfl ?_
          refine j_if_lt (tgt := 74) (pc := 33) hX dX2_append_33 (by decide) (fun c33_5 => ?_) (fun c33_5 => ?_)
          · skip
            have ha0 : a = 0 := (dn_lt (by omega)).mp c33_5
            refine j_aload_n (pc := 74) hX dX2_append_74 0 rfl ?_
            refine j_get (ci := 2) (pc := 75) hX inG2 rfl 0 (by decide) mw132 0 rfl rfl dX2_append_75 ?_
            exact j_iret (pc := 78) hX hQ dX2_append_78 rfl ⟨(by subst ha0; simp only [pAns, c6_3, c6_3n, c20_4, c20_4n, c20_4m, reduceIte, Nat.sub_zero]), (by subst ha0; simp only [pLen, pTxt, c6_3, c6_3n, c20_4, c20_4n, c20_4m, reduceIte, Nat.sub_zero])⟩
          · skip
            have ha0 : 0 < a := Nat.pos_of_ne_zero (fun h9 => c33_5 ((dn_lt (by omega)).mpr h9))
            refine j_aload_n (pc := 36) hX dX2_append_36 0 rfl ?_
            refine j_get (ci := 2) (pc := 37) hX inG2 rfl 1 (by decide) mw134 0 rfl rfl dX2_append_37 ?_
            refine j_aload_n (pc := 40) hX dX2_append_40 0 rfl ?_
            refine j_get (ci := 2) (pc := 41) hX inG2 rfl 0 (by decide) mw132 0 rfl rfl dX2_append_41 ?_
            refine j_lload_n (pc := 44) hX dX2_append_44 1 rfl ?_
            refine j_bipush (v := 8) (pc := 45) hX dX2_append_45 (by decide) ?_
            refine j_iload (pc := 47) hX dX2_append_47 3 rfl ?_
            refine j_imul (pc := 49) hX dX2_append_49 ?_
            refine j_lushr (pc := 50) hX dX2_append_50 ?_
            refine j_ldc2 (v := 255) (pc := 51) hX mw321 dX2_append_51 ?_
            refine j_land (pc := 54) hX dX2_append_54 ?_
            refine j_l2i (pc := 55) hX dX2_append_55 ?_
            refine j_i2c (pc := 56) hX dX2_append_56 ?_
            refine j_top (b := chrV xl a) (rfl) ?_
            refine j_cast (pc := 57) hX 1 rfl (n + (sgn 8 xl 0 - a)) rfl (by omega) (by omega) dX2_append_57 ?_
            refine j_ws (ws2 := [(p, .inr (2, [.int (nI (n + (sgn 8 xl 0 - a))), .ref ps, .int (nI P.1), .ref pt, .ref pp, .int (jb P.2.1), .int P.2.2.1, .int P.2.2.2.1])), (ps, .inl (gC g, 80, .inl (upd (S_app f xl n (sgn 8 xl 0) a) (n + (sgn 8 xl 0 - a)) (vp_nar .char (chrV xl a))))), (pt, .inl (gI g, 21, .inl P.2.2.2.2.1)), (pp, .inl (gI g, 21, .inl P.2.2.2.2.2))]) rfl ?_
            refine j_aload_n (pc := 58) hX dX2_append_58 0 rfl ?_
            refine j_dup (pc := 59) hX dX2_append_59 rfl ?_
            refine j_get (ci := 2) (pc := 60) hX inG2 rfl 0 (by decide) mw132 0 rfl rfl dX2_append_60 ?_
            refine j_iconst (v := 1) (pc := 63) hX dX2_append_63 (by decide) ?_
            refine j_iadd (pc := 64) hX dX2_append_64 ?_
            refine j_top (b := nI ((n + (sgn 8 xl 0 - a)) + 1)) (nI_add (n + (sgn 8 xl 0 - a)) 1) ?_
            refine j_put (ci := 2) (ty := .int) (pc := 65) hX inG2 tyX2 tyX2_ok nmG2 rfl 0 (by decide) mw132 rfl (by decide +kernel) 0 rfl (Nat.le_of_ble_eq_true rfl) (rfl) rfl dX2_append_65 ?_
            refine j_ws (ws2 := [(p, .inr (2, [.int (nI ((n + (sgn 8 xl 0 - a)) + 1)), .ref ps, .int (nI P.1), .ref pt, .ref pp, .int (jb P.2.1), .int P.2.2.1, .int P.2.2.2.1])), (ps, .inl (gC g, 80, .inl (upd (S_app f xl n (sgn 8 xl 0) a) (n + (sgn 8 xl 0 - a)) (vp_nar .char (chrV xl a))))), (pt, .inl (gI g, 21, .inl P.2.2.2.2.1)), (pp, .inl (gI g, 21, .inl P.2.2.2.2.2))]) rfl ?_
            refine j_iinc (v := (nI a - 1) + (-1)) (lv2 := [(0, .ref p), (1, .long xl), (3, .int (nI (sgn 8 xl 0))), (4, .int ((nI a - 1) + (-1)))]) (pc := 68) hX dX2_append_68 3 rfl (rfl) [1, 2, 3, 0] (by decide) rfl ?_
            refine j_goto (tgt := 31) (pc := 71) hX dX2_append_71 (by decide) ?_
            exact j_eq (lv2 := [(0, .ref p), (1, .long xl), (3, .int (nI (sgn 8 xl 0))), (4, .int (nI (a - 1) - 1))]) (ws2 := [(p, .inr (2, [.int (nI (n + (sgn 8 xl 0 - (a - 1)))), .ref ps, .int (nI P.1), .ref pt, .ref pp, .int (jb P.2.1), .int P.2.2.1, .int P.2.2.2.1])), (ps, .inl (gC g, 80, .inl (S_app f xl n (sgn 8 xl 0) (a - 1)))), (pt, .inl (gI g, 21, .inl P.2.2.2.2.1)), (pp, .inl (gI g, 21, .inl P.2.2.2.2.2))]) (by first | (rw [dn1 (by omega)]; done) | (rw [← S_app_s f xl n (sgn 8 xl 0) a (by omega) (by omega), show n + (sgn 8 xl 0 - a) + 1 = n + (sgn 8 xl 0 - (a - 1)) by omega]; rfl)) (by first | (rw [dn1 (by omega)]; done) | (rw [← S_app_s f xl n (sgn 8 xl 0) a (by omega) (by omega), show n + (sgn 8 xl 0 - a) + 1 = n + (sgn 8 xl 0 - (a - 1)) by omega]; rfl)) (ih31 _ (by omega) (a - 1) (by omega) rfl)
      exact j_eq (lv2 := [(0, .ref p), (1, .long xl), (3, .int (nI (sgn 8 xl 0))), (4, .int (nI (sgn 8 xl 0) - 1))]) (ws2 := [(p, .inr (2, [.int (nI (n + (sgn 8 xl 0 - (sgn 8 xl 0)))), .ref ps, .int (nI P.1), .ref pt, .ref pp, .int (jb P.2.1), .int P.2.2.1, .int P.2.2.2.1])), (ps, .inl (gC g, 80, .inl (S_app f xl n (sgn 8 xl 0) (sgn 8 xl 0)))), (pt, .inl (gI g, 21, .inl P.2.2.2.2.1)), (pp, .inl (gI g, 21, .inl P.2.2.2.2.2))]) (by first | (rw [S_app_0, Nat.sub_self, Nat.add_zero]; done) | rfl) (by first | (rw [S_app_0, Nat.sub_self, Nat.add_zero]; done) | rfl) (L31 _ (sgn 8 xl 0) (by omega) rfl)
    · skip
      have c20_4n : ¬ (n + (sgn 8 xl 0)) ≤ 80 := fun h9 => c20_4 ((nI_leI (a := (n + (sgn 8 xl 0))) (b := 80) (by omega) (by omega)).mpr h9)
      have c20_4m : 80 < (n + (sgn 8 xl 0)) := by omega
      refine j_bipush (v := (-4)) (pc := 23) hX dX2_append_23 (by decide) ?_
      exact j_iret (pc := 25) hX hQ dX2_append_25 rfl ⟨(by first | rfl | first | (simp only [jb_t, jb_f, pAns, pLen, pTxt, c6_3, c6_3n, c20_4, c20_4n, c20_4m, reduceIte, eq_self, decide_true, decide_false, Bool.and_true, Bool.true_and, Bool.and_false, Bool.false_and, Bool.and_self, not_true_eq_false, not_false_eq_true, and_true, true_and, and_false, false_and, and_self]; done) | (simp [jb_t, jb_f, pAns, pLen, pTxt, c6_3, c6_3n, c20_4, c20_4n, c20_4m]; done)), (by first | rfl | first | (simp only [jb_t, jb_f, pAns, pLen, pTxt, c6_3, c6_3n, c20_4, c20_4n, c20_4m, reduceIte, eq_self, decide_true, decide_false, Bool.and_true, Bool.true_and, Bool.and_false, Bool.false_and, Bool.and_self, not_true_eq_false, not_false_eq_true, and_true, true_and, and_false, false_and, and_self]; done) | (simp [jb_t, jb_f, pAns, pLen, pTxt, c6_3, c6_3n, c20_4, c20_4n, c20_4m]; done))⟩
  · skip
    have c6_3n : (sgn 8 xl 0) = 0 := (nI_eq (a := (sgn 8 xl 0)) (b := 0) (by omega) (by omega)).mp c6_3
    refine j_bipush (v := (-2)) (pc := 9) hX dX2_append_9 (by decide) ?_
    exact j_iret (pc := 11) hX hQ dX2_append_11 rfl ⟨(by first | rfl | first | (simp only [jb_t, jb_f, pAns, pLen, pTxt, c6_3, c6_3n, reduceIte, eq_self, decide_true, decide_false, Bool.and_true, Bool.true_and, Bool.and_false, Bool.false_and, Bool.and_self, not_true_eq_false, not_false_eq_true, and_true, true_and, and_false, false_and, and_self]; done) | (simp [jb_t, jb_f, pAns, pLen, pTxt, c6_3, c6_3n]; done)), (by first | rfl | first | (simp only [jb_t, jb_f, pAns, pLen, pTxt, c6_3, c6_3n, reduceIte, eq_self, decide_true, decide_false, Bool.and_true, Bool.true_and, Bool.and_false, Bool.false_and, Bool.and_self, not_true_eq_false, not_false_eq_true, and_true, true_and, and_false, false_and, and_self]; done) | (simp [jb_t, jb_f, pAns, pLen, pTxt, c6_3, c6_3n]; done))⟩

def ld (v : StT) (A B : Nat → Int32) : Nat → StT
  | 0 => v
  | i + 1 => ((ld v A B i).1, (ld v A B i).2.1 + 1, upd (ld v A B i).2.2.1 (ld v A B i).2.1 (A i), upd (ld v A B i).2.2.2.1 (ld v A B i).2.1 (B i), upd (ld v A B i).2.2.2.2 (ld v A B i).2.1 0)
theorem ld_n (v : StT) (A B : Nat → Int32) : ∀ i, (ld v A B i).2.1 = v.2.1 + i
  | 0 => rfl
  | i + 1 => by show (ld v A B i).2.1 + 1 = _; rw [ld_n v A B i]; omega

set_option maxHeartbeats 4000000 in
set_option maxRecDepth 100000 in
theorem c_X2_appendSets (g : jG) (p : Nat) (ps : Nat) (pt : Nat) (pp : Nat) (n : Nat) (f : Nat → Int32) (P : PT) (q : adT) (v : StT) (hv : v.2.1 + P.1 ≤ 14) : jMV g yX2_appendSetsTo cX2_appendSetsTo 3 1 22 0 0 [.ref p, .ref q.1] [(p, .inr (2, [.int (nI n), .ref ps, .int (nI P.1), .ref pt, .ref pp, .int (jb P.2.1), .int P.2.2.1, .int P.2.2.2.1])), (ps, .inl (gC g, 80, .inl f)), (pt, .inl (gI g, 21, .inl P.2.2.2.2.1)), (pp, .inl (gI g, 21, .inl P.2.2.2.2.2)), (q.1, .inr (6, [.int v.1, .int (nI v.2.1), .ref q.2.1, .ref q.2.2.1, .ref q.2.2.2])), (q.2.1, .inl (gI g, 14, .inl v.2.2.1)), (q.2.2.1, .inl (gI g, 14, .inl v.2.2.2.1)), (q.2.2.2, .inl (gI g, 14, .inl v.2.2.2.2))] (fun wz wzn => wz = [(p, .inr (2, [.int (nI n), .ref ps, .int (nI P.1), .ref pt, .ref pp, .int (jb P.2.1), .int P.2.2.1, .int P.2.2.2.1])), (ps, .inl (gC g, 80, .inl f)), (pt, .inl (gI g, 21, .inl P.2.2.2.2.1)), (pp, .inl (gI g, 21, .inl P.2.2.2.2.2)), (q.1, .inr (6, [.int ((ld v P.2.2.2.2.1 P.2.2.2.2.2 P.1).1), .int (nI ((ld v P.2.2.2.2.1 P.2.2.2.2.2 P.1).2.1)), .ref q.2.1, .ref q.2.2.1, .ref q.2.2.2])), (q.2.1, .inl (gI g, 14, .inl ((ld v P.2.2.2.2.1 P.2.2.2.2.2 P.1).2.2.1))), (q.2.2.1, .inl (gI g, 14, .inl ((ld v P.2.2.2.2.1 P.2.2.2.2.2 P.1).2.2.2.1))), (q.2.2.2, .inl (gI g, 14, .inl ((ld v P.2.2.2.2.1 P.2.2.2.2.2 P.1).2.2.2.2)))] ∧ wzn = []) := by
  refine jMV.intro (by decide +kernel) (Nat.le_of_ble_eq_true rfl) (fun x hX hQ hN => ?_)
  refine j_lv (lv2 := [(0, .ref p), (1, .ref q.1)]) rfl ?_
  refine j_iconst (v := 0) (pc := 0) hX dX2_appendSetsTo_0 (by decide) ?_
  refine j_istore_n (lv2 := [(0, .ref p), (1, .ref q.1), (2, .int 0)]) (pc := 1) hX dX2_appendSetsTo_1 [1, 2, 0] (by decide) rfl ?_
  have L2 : ∀ (d : Nat) (i : Nat), i ≤ P.1 → P.1 - i = d → J g x 3 0 0 2 [(0, .ref p), (1, .ref q.1), (2, .int (nI i))] [] [(p, .inr (2, [.int (nI n), .ref ps, .int (nI P.1), .ref pt, .ref pp, .int (jb P.2.1), .int P.2.2.1, .int P.2.2.2.1])), (ps, .inl (gC g, 80, .inl f)), (pt, .inl (gI g, 21, .inl P.2.2.2.2.1)), (pp, .inl (gI g, 21, .inl P.2.2.2.2.2)), (q.1, .inr (6, [.int ((ld v P.2.2.2.2.1 P.2.2.2.2.2 i).1), .int (nI ((ld v P.2.2.2.2.1 P.2.2.2.2.2 i).2.1)), .ref q.2.1, .ref q.2.2.1, .ref q.2.2.2])), (q.2.1, .inl (gI g, 14, .inl ((ld v P.2.2.2.2.1 P.2.2.2.2.2 i).2.2.1))), (q.2.2.1, .inl (gI g, 14, .inl ((ld v P.2.2.2.2.1 P.2.2.2.2.2 i).2.2.2.1))), (q.2.2.2, .inl (gI g, 14, .inl ((ld v P.2.2.2.2.1 P.2.2.2.2.2 i).2.2.2.2)))] := by
    intro d
    induction d using Nat.strongRecOn with
    | _ d ih2 =>
      intro i hi hd2
      refine j_iload_n (pc := 2) hX dX2_appendSetsTo_2 2 rfl ?_
      refine j_aload_n (pc := 3) hX dX2_appendSetsTo_3 0 rfl ?_
      refine j_get (ci := 2) (pc := 4) hX inG2 rfl 2 (by decide) mw135 0 rfl rfl dX2_appendSetsTo_4 ?_
      refine j_icmp_ge (tgt := 38) (pc := 7) hX dX2_appendSetsTo_7 (by decide) (fun c7_1 => ?_) (fun c7_1 => ?_)
      · skip
        have c7_1n : P.1 ≤ i := (nI_leI (a := P.1) (b := i) (by omega) (by omega)).mp c7_1
        have c7_1m : ¬ i < P.1 := by omega
        exact j_vret (pc := 38) hX hQ dX2_appendSetsTo_38 [(p, .inr (2, [.int (nI n), .ref ps, .int (nI P.1), .ref pt, .ref pp, .int (jb P.2.1), .int P.2.2.1, .int P.2.2.2.1])), (ps, .inl (gC g, 80, .inl f)), (pt, .inl (gI g, 21, .inl P.2.2.2.2.1)), (pp, .inl (gI g, 21, .inl P.2.2.2.2.2)), (q.1, .inr (6, [.int ((ld v P.2.2.2.2.1 P.2.2.2.2.2 i).1), .int (nI ((ld v P.2.2.2.2.1 P.2.2.2.2.2 i).2.1)), .ref q.2.1, .ref q.2.2.1, .ref q.2.2.2])), (q.2.1, .inl (gI g, 14, .inl ((ld v P.2.2.2.2.1 P.2.2.2.2.2 i).2.2.1))), (q.2.2.1, .inl (gI g, 14, .inl ((ld v P.2.2.2.2.1 P.2.2.2.2.2 i).2.2.2.1))), (q.2.2.2, .inl (gI g, 14, .inl ((ld v P.2.2.2.2.1 P.2.2.2.2.2 i).2.2.2.2)))] [] rfl rfl ⟨(by rw [show i = P.1 by omega]), (rfl)⟩
      · skip
        have c7_1n : ¬ P.1 ≤ i := fun h9 => c7_1 ((nI_leI (a := P.1) (b := i) (by omega) (by omega)).mpr h9)
        have c7_1m : i < P.1 := by omega
        refine j_iload_n (pc := 10) hX dX2_appendSetsTo_10 2 rfl ?_
        refine j_bipush (v := 21) (pc := 11) hX dX2_appendSetsTo_11 (by decide) ?_
        refine j_icmp_ge (tgt := 38) (pc := 13) hX dX2_appendSetsTo_13 (by decide) (fun c13_2 => ?_) (fun c13_2 => ?_)
        · exfalso
          have c13_2n : 21 ≤ i := (nI_leI (a := 21) (b := i) (by omega) (by omega)).mp c13_2
          have c13_2m : ¬ i < 21 := by omega
          omega
        have c13_2n : ¬ 21 ≤ i := fun h9 => c13_2 ((nI_leI (a := 21) (b := i) (by omega) (by omega)).mpr h9)
        have c13_2m : i < 21 := by omega
        refine j_aload_n (pc := 16) hX dX2_appendSetsTo_16 1 rfl ?_
        refine j_aload_n (pc := 17) hX dX2_appendSetsTo_17 0 rfl ?_
        refine j_get (ci := 2) (pc := 18) hX inG2 rfl 3 (by decide) mw137 0 rfl rfl dX2_appendSetsTo_18 ?_
        refine j_iload_n (pc := 21) hX dX2_appendSetsTo_21 2 rfl ?_
        refine j_iald (pc := 22) hX 2 rfl i rfl (by omega) (by omega) dX2_appendSetsTo_22 ?_
        refine j_aload_n (pc := 23) hX dX2_appendSetsTo_23 0 rfl ?_
        refine j_get (ci := 2) (pc := 24) hX inG2 rfl 4 (by decide) mw138 0 rfl rfl dX2_appendSetsTo_24 ?_
        refine j_iload_n (pc := 27) hX dX2_appendSetsTo_27 2 rfl ?_
        refine j_iald (pc := 28) hX 3 rfl i rfl (by omega) (by omega) dX2_appendSetsTo_28 ?_
        refine j_callVV (n := 2) (As := [.int (P.2.2.2.2.1 i), .int (P.2.2.2.2.2 i)]) (rest := []) (pc := 29) hX (c_X6_append g q.1 q.2.1 q.2.2.1 q.2.2.2 ((ld v P.2.2.2.2.1 P.2.2.2.2.2 i).1) ((ld v P.2.2.2.2.1 P.2.2.2.2.2 i).2.1) ((ld v P.2.2.2.2.1 P.2.2.2.2.2 i).2.2.1) ((ld v P.2.2.2.2.1 P.2.2.2.2.2 i).2.2.2.1) ((ld v P.2.2.2.2.1 P.2.2.2.2.2 i).2.2.2.2) (P.2.2.2.2.1 i) (P.2.2.2.2.2 i) (by rw [ld_n]; omega)) (CV.of mw366 mw283 mw284 mw44 mw285 ⟨rfl, by decide +kernel, by decide +kernel, by decide +kernel⟩ (T := TX6) (N := 5) rfl) (Nat.le_of_ble_eq_true rfl) (Nat.le_of_ble_eq_true rfl) (Nat.le_of_ble_eq_true rfl) (Nat.le_of_ble_eq_true rfl) 4 rfl [4, 5, 6, 7] (by decide +kernel) rfl rfl rfl (Nat.le_of_ble_eq_true rfl) dX2_appendSetsTo_29 (fun wz wnz hq4 => ?_)
        obtain ⟨rfl, rfl⟩ := hq4
        refine j_ws (ws2 := [(p, .inr (2, [.int (nI n), .ref ps, .int (nI P.1), .ref pt, .ref pp, .int (jb P.2.1), .int P.2.2.1, .int P.2.2.2.1])), (ps, .inl (gC g, 80, .inl f)), (pt, .inl (gI g, 21, .inl P.2.2.2.2.1)), (pp, .inl (gI g, 21, .inl P.2.2.2.2.2)), (q.1, .inr (6, [.int ((ld v P.2.2.2.2.1 P.2.2.2.2.2 i).1), .int (nI (((ld v P.2.2.2.2.1 P.2.2.2.2.2 i).2.1) + 1)), .ref q.2.1, .ref q.2.2.1, .ref q.2.2.2])), (q.2.1, .inl (gI g, 14, .inl (upd ((ld v P.2.2.2.2.1 P.2.2.2.2.2 i).2.2.1) ((ld v P.2.2.2.2.1 P.2.2.2.2.2 i).2.1) (P.2.2.2.2.1 i)))), (q.2.2.1, .inl (gI g, 14, .inl (upd ((ld v P.2.2.2.2.1 P.2.2.2.2.2 i).2.2.2.1) ((ld v P.2.2.2.2.1 P.2.2.2.2.2 i).2.1) (P.2.2.2.2.2 i)))), (q.2.2.2, .inl (gI g, 14, .inl (upd ((ld v P.2.2.2.2.1 P.2.2.2.2.2 i).2.2.2.2) ((ld v P.2.2.2.2.1 P.2.2.2.2.2 i).2.1) 0)))]) rfl ?_
        refine j_iinc (v := nI (i + 1)) (lv2 := [(0, .ref p), (1, .ref q.1), (2, .int (nI (i + 1)))]) (pc := 32) hX dX2_appendSetsTo_32 2 rfl (nI_add i 1) [1, 2, 0] (by decide) rfl ?_
        refine j_goto (tgt := 2) (pc := 35) hX dX2_appendSetsTo_35 (by decide) ?_
        exact j_eq (lv2 := [(0, .ref p), (1, .ref q.1), (2, .int (nI (i + 1)))]) (ws2 := [(p, .inr (2, [.int (nI n), .ref ps, .int (nI P.1), .ref pt, .ref pp, .int (jb P.2.1), .int P.2.2.1, .int P.2.2.2.1])), (ps, .inl (gC g, 80, .inl f)), (pt, .inl (gI g, 21, .inl P.2.2.2.2.1)), (pp, .inl (gI g, 21, .inl P.2.2.2.2.2)), (q.1, .inr (6, [.int ((ld v P.2.2.2.2.1 P.2.2.2.2.2 (i + 1)).1), .int (nI ((ld v P.2.2.2.2.1 P.2.2.2.2.2 (i + 1)).2.1)), .ref q.2.1, .ref q.2.2.1, .ref q.2.2.2])), (q.2.1, .inl (gI g, 14, .inl ((ld v P.2.2.2.2.1 P.2.2.2.2.2 (i + 1)).2.2.1))), (q.2.2.1, .inl (gI g, 14, .inl ((ld v P.2.2.2.2.1 P.2.2.2.2.2 (i + 1)).2.2.2.1))), (q.2.2.2, .inl (gI g, 14, .inl ((ld v P.2.2.2.2.1 P.2.2.2.2.2 (i + 1)).2.2.2.2)))]) (by first | rfl | first | (simp only [jb_t, jb_f, c7_1, c7_1n, c7_1m, c13_2, c13_2n, c13_2m, reduceIte, eq_self, decide_true, decide_false, Bool.and_true, Bool.true_and, Bool.and_false, Bool.false_and, Bool.and_self, not_true_eq_false, not_false_eq_true, and_true, true_and, and_false, false_and, and_self]; done) | (simp [jb_t, jb_f, c7_1, c7_1n, c7_1m, c13_2, c13_2n, c13_2m]; done)) (by first | rfl | first | (simp only [jb_t, jb_f, c7_1, c7_1n, c7_1m, c13_2, c13_2n, c13_2m, reduceIte, eq_self, decide_true, decide_false, Bool.and_true, Bool.true_and, Bool.and_false, Bool.false_and, Bool.and_self, not_true_eq_false, not_false_eq_true, and_true, true_and, and_false, false_and, and_self]; done) | (simp [jb_t, jb_f, c7_1, c7_1n, c7_1m, c13_2, c13_2n, c13_2m]; done)) (ih2 _ (by omega) (i + 1) (by omega) rfl)
  exact j_eq (lv2 := [(0, .ref p), (1, .ref q.1), (2, .int (nI 0))]) (ws2 := [(p, .inr (2, [.int (nI n), .ref ps, .int (nI P.1), .ref pt, .ref pp, .int (jb P.2.1), .int P.2.2.1, .int P.2.2.2.1])), (ps, .inl (gC g, 80, .inl f)), (pt, .inl (gI g, 21, .inl P.2.2.2.2.1)), (pp, .inl (gI g, 21, .inl P.2.2.2.2.2)), (q.1, .inr (6, [.int ((ld v P.2.2.2.2.1 P.2.2.2.2.2 0).1), .int (nI ((ld v P.2.2.2.2.1 P.2.2.2.2.2 0).2.1)), .ref q.2.1, .ref q.2.2.1, .ref q.2.2.2])), (q.2.1, .inl (gI g, 14, .inl ((ld v P.2.2.2.2.1 P.2.2.2.2.2 0).2.2.1))), (q.2.2.1, .inl (gI g, 14, .inl ((ld v P.2.2.2.2.1 P.2.2.2.2.2 0).2.2.2.1))), (q.2.2.2, .inl (gI g, 14, .inl ((ld v P.2.2.2.2.1 P.2.2.2.2.2 0).2.2.2.2)))]) (rfl) (rfl) (L2 _ 0 (by omega) rfl)

