/-! pure pictures: what the loops over the sets answer -/
def S_mk (fM : Nat → Int32) (k : Int32) : Nat → Int32
  | 0 => 0
  | i + 1 => if fM i = k then S_mk fM k i ||| bI i else S_mk fM k i
def S_sw (fT : Nat → Int32) (t : Nat) : Nat → Int32
  | 0 => 0
  | i + 1 => if bt (fT i) t = true then S_sw fT t i ||| bI i else S_sw fT t i
def S_or (fT : Nat → Int32) (m : Int32) : Nat → Int32
  | 0 => 0
  | i + 1 => if bt m i = true then S_or fT m i ||| fT i else S_or fT m i
def S_sum (fP : Nat → Int32) (m : Int32) : Nat → Int32
  | 0 => 0
  | i + 1 => if bt m i = true then S_sum fP m i + fP i else S_sum fP m i
def S_miss (fT : Nat → Int32) (nd : Int32) (n : Nat) (m : Int32) : Int32 := nd &&& (S_or fT m n ^^^ (-1))
def S_nb (fM : Nat → Int32) (n : Nat) : Int32 := S_mk fM 0 n ||| S_mk fM 1 n
def S_cov (fT fM : Nat → Int32) (nd : Int32) (n : Nat) (m : Int32) : Bool := decide (m &&& S_mk fM 1 n = S_mk fM 1 n) && (decide (m &&& S_mk fM 2 n = 0) && decide (S_miss fT nd n m = 0))
def S_has (fT fM : Nat → Int32) (nd : Int32) (n : Nat) : Bool := decide (S_miss fT nd n (S_nb fM n) = 0)
def S_cp (f h : Nat → Int32) (i : Nat) : Nat → Int32 := fun j => if j < i then f j else h j
theorem S_cp_0 (f h : Nat → Int32) : S_cp f h 0 = h := funext fun j => if_neg (Nat.not_lt_zero j)
theorem S_cp_s (f h : Nat → Int32) (i : Nat) : upd (S_cp f h i) i (f i) = S_cp f h (i + 1) := by
  funext j
  unfold upd S_cp
  by_cases h1 : j = i
  · subst h1; simp
  · by_cases h2 : j < i
    · simp [h1, h2, Nat.lt_succ_of_lt h2]
    · have : ¬ j < i + 1 := by omega
      simp [h1, h2, this]
/-- the sets behind set k one place down, up to place i -/
def S_rm (f : Nat → Int32) (k i : Nat) : Nat → Int32 := fun j => if k ≤ j ∧ j + 1 < i then f (j + 1) else f j
theorem S_rm_0 (f : Nat → Int32) (k : Nat) : S_rm f k (k + 1) = f := funext fun j => if_neg (by omega)
theorem S_rm_s (f : Nat → Int32) (k i : Nat) (h : k < i) : upd (S_rm f k i) (i - 1) (f i) = S_rm f k (i + 1) := by
  funext j
  unfold upd S_rm
  by_cases h1 : j = i - 1
  · subst h1
    rw [if_pos rfl, if_pos (by omega)]
    congr 1
    omega
  · rw [if_neg h1]
    by_cases h2 : k ≤ j ∧ j + 1 < i
    · rw [if_pos h2, if_pos (by omega)]
    · rw [if_neg h2, if_neg (by omega)]
theorem S_rm_at (f : Nat → Int32) (k i : Nat) (h : k < i) : S_rm f k i i = f i := if_neg (by omega)
/-- is k the number of one of n sets? -/
def S_is (n : Nat) (k : Int32) : Bool := decide (¬ k < 0 ∧ ¬ nI n ≤ k)
theorem S_is_t {n : Nat} {k : Int32} (hn : n ≤ 14) (h : S_is n k = true) : ∃ j : Nat, j < n ∧ k = nI j := by
  obtain ⟨h1, h2⟩ := of_decide_eq_true h
  obtain ⟨j, hj, rfl⟩ := nI_of h1
  exact ⟨j, Nat.lt_of_not_le fun q => h2 ((nI_leI (by omega) hj).mpr q), rfl⟩
theorem S_is_nI {n j : Nat} (hn : n ≤ 14) (hj : j < n) : S_is n (nI j) = true := decide_eq_true ⟨nI_pos (by omega), fun q => absurd ((nI_leI (by omega) (by omega)).mp q) (by omega)⟩
def S_alone (fT fM : Nat → Int32) (nd : Int32) (n k : Nat) : Int32 := if bt (S_nb fM n) k = true then (nd &&& fT k) &&& (S_or fT (S_nb fM n &&& (bI k ^^^ (-1))) n ^^^ (-1)) else 0
def P1 (x : Int32) : Int32 := x - ((x.toUInt32 >>> ((1 : Int32).toUInt32 &&& Int32.toUInt32 31)).toInt32 &&& 1431655765)
def P2 (x : Int32) : Int32 := (x &&& 858993459) + ((x.toUInt32 >>> ((2 : Int32).toUInt32 &&& Int32.toUInt32 31)).toInt32 &&& 858993459)
def P3 (x : Int32) : Int32 := (x + (x.toUInt32 >>> ((4 : Int32).toUInt32 &&& Int32.toUInt32 31)).toInt32) &&& 252645135
def P4 (x : Int32) : Int32 := x + (x.toUInt32 >>> ((8 : Int32).toUInt32 &&& Int32.toUInt32 31)).toInt32
def P5 (x : Int32) : Int32 := x + (x.toUInt32 >>> ((16 : Int32).toUInt32 &&& Int32.toUInt32 31)).toInt32
def popC (x : Int32) : Int32 := P5 (P4 (P3 (P2 (P1 x)))) &&& 63
def S_most (fT fM : Nat → Int32) (nd : Int32) (n : Nat) : Nat → Int32
  | 0 => 0
  | t + 1 => if bt nd t = true then S_max (S_most fT fM nd n t) (popC (S_sw fT t n &&& S_nb fM n)) else S_most fT fM nd n t
def sr (x : Int32) (k : Int32) : Int32 := (x.toUInt32 >>> (k.toUInt32 &&& Int32.toUInt32 31)).toInt32
def Z4 (n i : Int32) : Int32 := n + sr i 1
def Z3 (n i : Int32) : Int32 := if i ≤ 4 then Z4 n i else Z4 (n + 2) (sr i 2)
def Z2 (n i : Int32) : Int32 := if i ≤ 16 then Z3 n i else Z3 (n + 4) (sr i 4)
def Z1 (n i : Int32) : Int32 := if i ≤ 256 then Z2 n i else Z2 (n + 8) (sr i 8)
def Z0 (i : Int32) : Int32 := if 0 < i then (if i ≤ 65536 then Z1 1 i else Z1 (1 + 16) (sr i 16)) else i &&& 32
def ntzC (x : Int32) : Int32 := Z0 ((x ^^^ (-1)) &&& (x - 1))
def S_price (x : Int32) : Bool := decide (¬ x < 1 ∧ ¬ 500 < x)
def S_things (x : Int32) : Bool := decide (¬ x < 1 ∧ ¬ 262143 < x)
def S_fill (v : Int32) (f : Nat → Int32) (i : Nat) : Nat → Int32 := fun j => if j < i then v else f j
theorem S_fill_0 (v : Int32) (f : Nat → Int32) : S_fill v f 0 = f := funext fun j => if_neg (Nat.not_lt_zero j)
theorem S_fill_s (v : Int32) (f : Nat → Int32) (i : Nat) : upd (S_fill v f i) i v = S_fill v f (i + 1) := by
  funext j
  unfold upd S_fill
  by_cases h1 : j = i
  · subst h1; simp
  · by_cases h2 : j < i
    · simp [h1, h2, Nat.lt_succ_of_lt h2]
    · have : ¬ j < i + 1 := by omega
      simp [h1, h2, this]

set_option maxHeartbeats 4000000 in
set_option maxRecDepth 100000 in
theorem c_X8_has (g : jG) (m : Int32) (k : Nat) (hk : k < 32) : jMI g yX8_has cX8_has 2 .boolean 0 0 [.int m, .int (nI k)] [] (fun rz wz => rz = jb (bt m k) ∧ wz = []) := by
  refine jMI.intro (by decide +kernel) (Nat.le_of_ble_eq_true rfl) (fun x hX hQ => ?_)
  refine j_lv (lv2 := [(0, .int m), (1, .int (nI k))]) rfl ?_
  refine j_iload_n (pc := 0) hX dX8_has_0 0 rfl ?_
  refine j_iload_n (pc := 1) hX dX8_has_1 1 rfl ?_
  refine j_ishr (pc := 2) hX dX8_has_2 ?_
  refine j_iconst (v := 1) (pc := 3) hX dX8_has_3 (by decide) ?_
  refine j_iand (pc := 4) hX dX8_has_4 ?_
  refine j_top (b := jb (bt m k)) (b_sh1 hk) ?_
  refine j_if_eq (tgt := 12) (pc := 5) hX dX8_has_5 (by decide) (fun c5_1 => ?_) (fun c5_1 => ?_)
  · skip
    have c5_1b : (bt m k) = false := jb_0.mp c5_1
    refine j_iconst (v := 0) (pc := 12) hX dX8_has_12 (by decide) ?_
    exact j_zret (pc := 13) hX hQ dX8_has_13 (by first | rfl | exact jb_nar _) rfl ⟨(by first | rfl | first | (simp only [jb_t, jb_f, c5_1, c5_1b, reduceIte, eq_self, decide_true, decide_false, Bool.and_true, Bool.true_and, Bool.and_false, Bool.false_and, Bool.and_self, not_true_eq_false, not_false_eq_true, and_true, true_and, and_false, false_and, and_self]; done) | (simp [jb_t, jb_f, c5_1, c5_1b]; done)), (by first | rfl | first | (simp only [jb_t, jb_f, c5_1, c5_1b, reduceIte, eq_self, decide_true, decide_false, Bool.and_true, Bool.true_and, Bool.and_false, Bool.false_and, Bool.and_self, not_true_eq_false, not_false_eq_true, and_true, true_and, and_false, false_and, and_self]; done) | (simp [jb_t, jb_f, c5_1, c5_1b]; done))⟩
  · skip
    have c5_1b : (bt m k) = true := jb_1.mp c5_1
    refine j_iconst (v := 1) (pc := 8) hX dX8_has_8 (by decide) ?_
    refine j_goto (tgt := 13) (pc := 9) hX dX8_has_9 (by decide) ?_
    exact j_zret (pc := 13) hX hQ dX8_has_13 (by first | rfl | exact jb_nar _) rfl ⟨(by first | rfl | first | (simp only [jb_t, jb_f, c5_1, c5_1b, reduceIte, eq_self, decide_true, decide_false, Bool.and_true, Bool.true_and, Bool.and_false, Bool.false_and, Bool.and_self, not_true_eq_false, not_false_eq_true, and_true, true_and, and_false, false_and, and_self]; done) | (simp [jb_t, jb_f, c5_1, c5_1b]; done)), (by first | rfl | first | (simp only [jb_t, jb_f, c5_1, c5_1b, reduceIte, eq_self, decide_true, decide_false, Bool.and_true, Bool.true_and, Bool.and_false, Bool.false_and, Bool.and_self, not_true_eq_false, not_false_eq_true, and_true, true_and, and_false, false_and, and_self]; done) | (simp [jb_t, jb_f, c5_1, c5_1b]; done))⟩

set_option maxHeartbeats 4000000 in
set_option maxRecDepth 100000 in
theorem c_X6_marked (g : jG) (a : Nat) (a_t : Nat) (a_p : Nat) (a_m : Nat) (nd : Int32) (n : Nat) (fT : Nat → Int32) (fP : Nat → Int32) (fM : Nat → Int32) (k : Int32) (hn : n ≤ 14) : jMI g yX6_marked cX6_marked 4 .int 0 0 [.ref a, .int k] [(a, .inr (6, [.int nd, .int (nI n), .ref a_t, .ref a_p, .ref a_m])), (a_t, .inl (gI g, 14, .inl fT)), (a_p, .inl (gI g, 14, .inl fP)), (a_m, .inl (gI g, 14, .inl fM))] (fun rz wz => rz = S_mk fM k n ∧ wz = [(a, .inr (6, [.int nd, .int (nI n), .ref a_t, .ref a_p, .ref a_m])), (a_t, .inl (gI g, 14, .inl fT)), (a_p, .inl (gI g, 14, .inl fP)), (a_m, .inl (gI g, 14, .inl fM))]) := by
  refine jMI.intro (by decide +kernel) (Nat.le_of_ble_eq_true rfl) (fun x hX hQ => ?_)
  refine j_lv (lv2 := [(0, .ref a), (1, .int k)]) rfl ?_
  refine j_iconst (v := 0) (pc := 0) hX dX6_marked_0 (by decide) ?_
  refine j_istore_n (lv2 := [(0, .ref a), (1, .int k), (2, .int 0)]) (pc := 1) hX dX6_marked_1 [1, 2, 0] (by decide) rfl ?_
  refine j_iconst (v := 0) (pc := 2) hX dX6_marked_2 (by decide) ?_
  refine j_istore_n (lv2 := [(0, .ref a), (1, .int k), (2, .int 0), (3, .int 0)]) (pc := 3) hX dX6_marked_3 [1, 2, 3, 0] (by decide) rfl ?_
  have L4 : ∀ (d : Nat) (i : Nat), i ≤ n → n - i = d → J g x 4 0 0 4 [(0, .ref a), (1, .int k), (2, .int (S_mk fM k i)), (3, .int (nI i))] [] [(a, .inr (6, [.int nd, .int (nI n), .ref a_t, .ref a_p, .ref a_m])), (a_t, .inl (gI g, 14, .inl fT)), (a_p, .inl (gI g, 14, .inl fP)), (a_m, .inl (gI g, 14, .inl fM))] := by
    intro d
    induction d using Nat.strongRecOn with
    | _ d ih4 =>
      intro i hi hd4
      refine j_iload_n (pc := 4) hX dX6_marked_4 3 rfl ?_
      refine j_aload_n (pc := 5) hX dX6_marked_5 0 rfl ?_
      refine j_get (ci := 6) (pc := 6) hX inG6 rfl 1 (by decide) mw43 0 rfl rfl dX6_marked_6 ?_
      refine j_icmp_ge (tgt := 34) (pc := 9) hX dX6_marked_9 (by decide) (fun c9_1 => ?_) (fun c9_1 => ?_)
      · skip
        have c9_1n : n ≤ i := (nI_leI (a := n) (b := i) (by omega) (by omega)).mp c9_1
        have c9_1m : ¬ i < n := by omega
        refine j_iload_n (pc := 34) hX dX6_marked_34 2 rfl ?_
        exact j_iret (pc := 35) hX hQ dX6_marked_35 rfl ⟨(by rw [show i = n by omega]), (by first | rfl | first | (simp only [jb_t, jb_f, S_mk, c9_1, c9_1n, c9_1m, reduceIte, eq_self, decide_true, decide_false, Bool.and_true, Bool.true_and, Bool.and_false, Bool.false_and, Bool.and_self, not_true_eq_false, not_false_eq_true, and_true, true_and, and_false, false_and, and_self]; done) | (simp [jb_t, jb_f, S_mk, c9_1, c9_1n, c9_1m]; done))⟩
      · skip
        have c9_1n : ¬ n ≤ i := fun h9 => c9_1 ((nI_leI (a := n) (b := i) (by omega) (by omega)).mpr h9)
        have c9_1m : i < n := by omega
        refine j_aload_n (pc := 12) hX dX6_marked_12 0 rfl ?_
        refine j_get (ci := 6) (pc := 13) hX inG6 rfl 4 (by decide) mw58 0 rfl rfl dX6_marked_13 ?_
        refine j_iload_n (pc := 16) hX dX6_marked_16 3 rfl ?_
        refine j_iald (pc := 17) hX 3 rfl i rfl (by omega) (by omega) dX6_marked_17 ?_
        refine j_iload_n (pc := 18) hX dX6_marked_18 1 rfl ?_
        refine j_icmp_ne (tgt := 28) (pc := 19) hX dX6_marked_19 (by decide) (fun c19_2 => ?_) (fun c19_2 => ?_)
        · skip
          refine j_iinc (v := nI (i + 1)) (lv2 := [(0, .ref a), (1, .int k), (2, .int (S_mk fM k i)), (3, .int (nI (i + 1)))]) (pc := 28) hX dX6_marked_28 3 rfl (nI_add i 1) [1, 2, 3, 0] (by decide) rfl ?_
          refine j_goto (tgt := 4) (pc := 31) hX dX6_marked_31 (by decide) ?_
          exact j_eq (lv2 := [(0, .ref a), (1, .int k), (2, .int (S_mk fM k (i + 1))), (3, .int (nI (i + 1)))]) (ws2 := [(a, .inr (6, [.int nd, .int (nI n), .ref a_t, .ref a_p, .ref a_m])), (a_t, .inl (gI g, 14, .inl fT)), (a_p, .inl (gI g, 14, .inl fP)), (a_m, .inl (gI g, 14, .inl fM))]) (by first | rfl | first | (simp only [jb_t, jb_f, S_mk, c9_1, c9_1n, c9_1m, c19_2, reduceIte, eq_self, decide_true, decide_false, Bool.and_true, Bool.true_and, Bool.and_false, Bool.false_and, Bool.and_self, not_true_eq_false, not_false_eq_true, and_true, true_and, and_false, false_and, and_self]; done) | (simp [jb_t, jb_f, S_mk, c9_1, c9_1n, c9_1m, c19_2]; done)) (by first | rfl | first | (simp only [jb_t, jb_f, S_mk, c9_1, c9_1n, c9_1m, c19_2, reduceIte, eq_self, decide_true, decide_false, Bool.and_true, Bool.true_and, Bool.and_false, Bool.false_and, Bool.and_self, not_true_eq_false, not_false_eq_true, and_true, true_and, and_false, false_and, and_self]; done) | (simp [jb_t, jb_f, S_mk, c9_1, c9_1n, c9_1m, c19_2]; done)) (ih4 _ (by omega) (i + 1) (by omega) rfl)
        · skip
          refine j_iload_n (pc := 22) hX dX6_marked_22 2 rfl ?_
          refine j_iconst (v := 1) (pc := 23) hX dX6_marked_23 (by decide) ?_
          refine j_iload_n (pc := 24) hX dX6_marked_24 3 rfl ?_
          refine j_ishl (pc := 25) hX dX6_marked_25 ?_
          refine j_top (b := bI i) rfl ?_
          refine j_ior (pc := 26) hX dX6_marked_26 ?_
          refine j_istore_n (lv2 := [(0, .ref a), (1, .int k), (2, .int ((S_mk fM k i) ||| (bI i))), (3, .int (nI i))]) (pc := 27) hX dX6_marked_27 [1, 2, 0, 3] (by decide) rfl ?_
          refine j_iinc (v := nI (i + 1)) (lv2 := [(0, .ref a), (1, .int k), (2, .int ((S_mk fM k i) ||| (bI i))), (3, .int (nI (i + 1)))]) (pc := 28) hX dX6_marked_28 3 rfl (nI_add i 1) [1, 2, 3, 0] (by decide) rfl ?_
          refine j_goto (tgt := 4) (pc := 31) hX dX6_marked_31 (by decide) ?_
          exact j_eq (lv2 := [(0, .ref a), (1, .int k), (2, .int (S_mk fM k (i + 1))), (3, .int (nI (i + 1)))]) (ws2 := [(a, .inr (6, [.int nd, .int (nI n), .ref a_t, .ref a_p, .ref a_m])), (a_t, .inl (gI g, 14, .inl fT)), (a_p, .inl (gI g, 14, .inl fP)), (a_m, .inl (gI g, 14, .inl fM))]) (by first | rfl | first | (simp only [jb_t, jb_f, S_mk, c9_1, c9_1n, c9_1m, c19_2, reduceIte, eq_self, decide_true, decide_false, Bool.and_true, Bool.true_and, Bool.and_false, Bool.false_and, Bool.and_self, not_true_eq_false, not_false_eq_true, and_true, true_and, and_false, false_and, and_self]; done) | (simp [jb_t, jb_f, S_mk, c9_1, c9_1n, c9_1m, c19_2]; done)) (by first | rfl | first | (simp only [jb_t, jb_f, S_mk, c9_1, c9_1n, c9_1m, c19_2, reduceIte, eq_self, decide_true, decide_false, Bool.and_true, Bool.true_and, Bool.and_false, Bool.false_and, Bool.and_self, not_true_eq_false, not_false_eq_true, and_true, true_and, and_false, false_and, and_self]; done) | (simp [jb_t, jb_f, S_mk, c9_1, c9_1n, c9_1m, c19_2]; done)) (ih4 _ (by omega) (i + 1) (by omega) rfl)
  exact j_eq (lv2 := [(0, .ref a), (1, .int k), (2, .int (S_mk fM k 0)), (3, .int (nI 0))]) (ws2 := [(a, .inr (6, [.int nd, .int (nI n), .ref a_t, .ref a_p, .ref a_m])), (a_t, .inl (gI g, 14, .inl fT)), (a_p, .inl (gI g, 14, .inl fP)), (a_m, .inl (gI g, 14, .inl fM))]) (rfl) (rfl) (L4 _ 0 (by omega) rfl)

set_option maxHeartbeats 4000000 in
set_option maxRecDepth 100000 in
theorem c_X6_setsWith (g : jG) (a : Nat) (a_t : Nat) (a_p : Nat) (a_m : Nat) (nd : Int32) (n : Nat) (fT : Nat → Int32) (fP : Nat → Int32) (fM : Nat → Int32) (t : Nat) (hn : n ≤ 14) (ht : t < 32) : jMI g yX6_setsWith cX6_setsWith 4 .int 1 21 [.ref a, .int (nI t)] [(a, .inr (6, [.int nd, .int (nI n), .ref a_t, .ref a_p, .ref a_m])), (a_t, .inl (gI g, 14, .inl fT)), (a_p, .inl (gI g, 14, .inl fP)), (a_m, .inl (gI g, 14, .inl fM))] (fun rz wz => rz = S_sw fT t n ∧ wz = [(a, .inr (6, [.int nd, .int (nI n), .ref a_t, .ref a_p, .ref a_m])), (a_t, .inl (gI g, 14, .inl fT)), (a_p, .inl (gI g, 14, .inl fP)), (a_m, .inl (gI g, 14, .inl fM))]) := by
  refine jMI.intro (by decide +kernel) (Nat.le_of_ble_eq_true rfl) (fun x hX hQ => ?_)
  refine j_lv (lv2 := [(0, .ref a), (1, .int (nI t))]) rfl ?_
  refine j_iconst (v := 0) (pc := 0) hX dX6_setsWith_0 (by decide) ?_
  refine j_istore_n (lv2 := [(0, .ref a), (1, .int (nI t)), (2, .int 0)]) (pc := 1) hX dX6_setsWith_1 [1, 2, 0] (by decide) rfl ?_
  refine j_iconst (v := 0) (pc := 2) hX dX6_setsWith_2 (by decide) ?_
  refine j_istore_n (lv2 := [(0, .ref a), (1, .int (nI t)), (2, .int 0), (3, .int 0)]) (pc := 3) hX dX6_setsWith_3 [1, 2, 3, 0] (by decide) rfl ?_
  have L4 : ∀ (d : Nat) (i : Nat), i ≤ n → n - i = d → J g x 4 0 0 4 [(0, .ref a), (1, .int (nI t)), (2, .int (S_sw fT t i)), (3, .int (nI i))] [] [(a, .inr (6, [.int nd, .int (nI n), .ref a_t, .ref a_p, .ref a_m])), (a_t, .inl (gI g, 14, .inl fT)), (a_p, .inl (gI g, 14, .inl fP)), (a_m, .inl (gI g, 14, .inl fM))] := by
    intro d
    induction d using Nat.strongRecOn with
    | _ d ih4 =>
      intro i hi hd4
      refine j_iload_n (pc := 4) hX dX6_setsWith_4 3 rfl ?_
      refine j_aload_n (pc := 5) hX dX6_setsWith_5 0 rfl ?_
      refine j_get (ci := 6) (pc := 6) hX inG6 rfl 1 (by decide) mw43 0 rfl rfl dX6_setsWith_6 ?_
      refine j_icmp_ge (tgt := 37) (pc := 9) hX dX6_setsWith_9 (by decide) (fun c9_1 => ?_) (fun c9_1 => ?_)
      · skip
        have c9_1n : n ≤ i := (nI_leI (a := n) (b := i) (by omega) (by omega)).mp c9_1
        have c9_1m : ¬ i < n := by omega
        refine j_iload_n (pc := 37) hX dX6_setsWith_37 2 rfl ?_
        exact j_iret (pc := 38) hX hQ dX6_setsWith_38 rfl ⟨(by rw [show i = n by omega]), (by first | rfl | first | (simp only [jb_t, jb_f, S_sw, c9_1, c9_1n, c9_1m, reduceIte, eq_self, decide_true, decide_false, Bool.and_true, Bool.true_and, Bool.and_false, Bool.false_and, Bool.and_self, not_true_eq_false, not_false_eq_true, and_true, true_and, and_false, false_and, and_self]; done) | (simp [jb_t, jb_f, S_sw, c9_1, c9_1n, c9_1m]; done))⟩
      · skip
        have c9_1n : ¬ n ≤ i := fun h9 => c9_1 ((nI_leI (a := n) (b := i) (by omega) (by omega)).mpr h9)
        have c9_1m : i < n := by omega
        refine j_aload_n (pc := 12) hX dX6_setsWith_12 0 rfl ?_
        refine j_get (ci := 6) (pc := 13) hX inG6 rfl 2 (by decide) mw48 0 rfl rfl dX6_setsWith_13 ?_
        refine j_iload_n (pc := 16) hX dX6_setsWith_16 3 rfl ?_
        refine j_iald (pc := 17) hX 1 rfl i rfl (by omega) (by omega) dX6_setsWith_17 ?_
        refine j_iload_n (pc := 18) hX dX6_setsWith_18 1 rfl ?_
        refine j_callSNI (n := 2) (As := [.int (fT i), .int (nI t)]) (rest := []) (pc := 19) hX (c_X8_has g (fT i) t (by first | assumption | omega)) ⟨⟨_, mw271⟩, mw272, mw13, mw273, ⟨by decide +kernel, by decide +kernel, by decide +kernel⟩⟩ (Nat.le_of_ble_eq_true rfl) (Nat.le_of_ble_eq_true rfl) (Nat.le_of_ble_eq_true rfl) (Nat.le_of_ble_eq_true rfl) [] (by decide +kernel) rfl rfl rfl (Nat.le_of_ble_eq_true rfl) dX6_setsWith_19 (fun r2 wz hq3 => ?_)
        obtain ⟨rfl, rfl⟩ := hq3
        refine j_ws (ws2 := [(a, .inr (6, [.int nd, .int (nI n), .ref a_t, .ref a_p, .ref a_m])), (a_t, .inl (gI g, 14, .inl fT)), (a_p, .inl (gI g, 14, .inl fP)), (a_m, .inl (gI g, 14, .inl fM))]) rfl ?_
        refine j_if_eq (tgt := 31) (pc := 22) hX dX6_setsWith_22 (by decide) (fun c22_4 => ?_) (fun c22_4 => ?_)
        · skip
          have c22_4b : (bt (fT i) t) = false := jb_0.mp c22_4
          refine j_iinc (v := nI (i + 1)) (lv2 := [(0, .ref a), (1, .int (nI t)), (2, .int (S_sw fT t i)), (3, .int (nI (i + 1)))]) (pc := 31) hX dX6_setsWith_31 3 rfl (nI_add i 1) [1, 2, 3, 0] (by decide) rfl ?_
          refine j_goto (tgt := 4) (pc := 34) hX dX6_setsWith_34 (by decide) ?_
          exact j_eq (lv2 := [(0, .ref a), (1, .int (nI t)), (2, .int (S_sw fT t (i + 1))), (3, .int (nI (i + 1)))]) (ws2 := [(a, .inr (6, [.int nd, .int (nI n), .ref a_t, .ref a_p, .ref a_m])), (a_t, .inl (gI g, 14, .inl fT)), (a_p, .inl (gI g, 14, .inl fP)), (a_m, .inl (gI g, 14, .inl fM))]) (by first | rfl | first | (simp only [jb_t, jb_f, S_sw, c9_1, c9_1n, c9_1m, c22_4, c22_4b, reduceIte, eq_self, decide_true, decide_false, Bool.and_true, Bool.true_and, Bool.and_false, Bool.false_and, Bool.and_self, not_true_eq_false, not_false_eq_true, and_true, true_and, and_false, false_and, and_self]; done) | (simp [jb_t, jb_f, S_sw, c9_1, c9_1n, c9_1m, c22_4, c22_4b]; done)) (by first | rfl | first | (simp only [jb_t, jb_f, S_sw, c9_1, c9_1n, c9_1m, c22_4, c22_4b, reduceIte, eq_self, decide_true, decide_false, Bool.and_true, Bool.true_and, Bool.and_false, Bool.false_and, Bool.and_self, not_true_eq_false, not_false_eq_true, and_true, true_and, and_false, false_and, and_self]; done) | (simp [jb_t, jb_f, S_sw, c9_1, c9_1n, c9_1m, c22_4, c22_4b]; done)) (ih4 _ (by omega) (i + 1) (by omega) rfl)
        · skip
          have c22_4b : (bt (fT i) t) = true := jb_1.mp c22_4
          refine j_iload_n (pc := 25) hX dX6_setsWith_25 2 rfl ?_
          refine j_iconst (v := 1) (pc := 26) hX dX6_setsWith_26 (by decide) ?_
          refine j_iload_n (pc := 27) hX dX6_setsWith_27 3 rfl ?_
          refine j_ishl (pc := 28) hX dX6_setsWith_28 ?_
          refine j_top (b := bI i) rfl ?_
          refine j_ior (pc := 29) hX dX6_setsWith_29 ?_
          refine j_istore_n (lv2 := [(0, .ref a), (1, .int (nI t)), (2, .int ((S_sw fT t i) ||| (bI i))), (3, .int (nI i))]) (pc := 30) hX dX6_setsWith_30 [1, 2, 0, 3] (by decide) rfl ?_
          refine j_iinc (v := nI (i + 1)) (lv2 := [(0, .ref a), (1, .int (nI t)), (2, .int ((S_sw fT t i) ||| (bI i))), (3, .int (nI (i + 1)))]) (pc := 31) hX dX6_setsWith_31 3 rfl (nI_add i 1) [1, 2, 3, 0] (by decide) rfl ?_
          refine j_goto (tgt := 4) (pc := 34) hX dX6_setsWith_34 (by decide) ?_
          exact j_eq (lv2 := [(0, .ref a), (1, .int (nI t)), (2, .int (S_sw fT t (i + 1))), (3, .int (nI (i + 1)))]) (ws2 := [(a, .inr (6, [.int nd, .int (nI n), .ref a_t, .ref a_p, .ref a_m])), (a_t, .inl (gI g, 14, .inl fT)), (a_p, .inl (gI g, 14, .inl fP)), (a_m, .inl (gI g, 14, .inl fM))]) (by first | rfl | first | (simp only [jb_t, jb_f, S_sw, c9_1, c9_1n, c9_1m, c22_4, c22_4b, reduceIte, eq_self, decide_true, decide_false, Bool.and_true, Bool.true_and, Bool.and_false, Bool.false_and, Bool.and_self, not_true_eq_false, not_false_eq_true, and_true, true_and, and_false, false_and, and_self]; done) | (simp [jb_t, jb_f, S_sw, c9_1, c9_1n, c9_1m, c22_4, c22_4b]; done)) (by first | rfl | first | (simp only [jb_t, jb_f, S_sw, c9_1, c9_1n, c9_1m, c22_4, c22_4b, reduceIte, eq_self, decide_true, decide_false, Bool.and_true, Bool.true_and, Bool.and_false, Bool.false_and, Bool.and_self, not_true_eq_false, not_false_eq_true, and_true, true_and, and_false, false_and, and_self]; done) | (simp [jb_t, jb_f, S_sw, c9_1, c9_1n, c9_1m, c22_4, c22_4b]; done)) (ih4 _ (by omega) (i + 1) (by omega) rfl)
  exact j_eq (lv2 := [(0, .ref a), (1, .int (nI t)), (2, .int (S_sw fT t 0)), (3, .int (nI 0))]) (ws2 := [(a, .inr (6, [.int nd, .int (nI n), .ref a_t, .ref a_p, .ref a_m])), (a_t, .inl (gI g, 14, .inl fT)), (a_p, .inl (gI g, 14, .inl fP)), (a_m, .inl (gI g, 14, .inl fM))]) (rfl) (rfl) (L4 _ 0 (by omega) rfl)

set_option maxHeartbeats 4000000 in
set_option maxRecDepth 100000 in
theorem c_X6_thingsOf (g : jG) (a : Nat) (a_t : Nat) (a_p : Nat) (a_m : Nat) (nd : Int32) (n : Nat) (fT : Nat → Int32) (fP : Nat → Int32) (fM : Nat → Int32) (k : Int32) (hn : n ≤ 14) : jMI g yX6_thingsOf cX6_thingsOf 4 .int 1 21 [.ref a, .int k] [(a, .inr (6, [.int nd, .int (nI n), .ref a_t, .ref a_p, .ref a_m])), (a_t, .inl (gI g, 14, .inl fT)), (a_p, .inl (gI g, 14, .inl fP)), (a_m, .inl (gI g, 14, .inl fM))] (fun rz wz => rz = S_or fT k n ∧ wz = [(a, .inr (6, [.int nd, .int (nI n), .ref a_t, .ref a_p, .ref a_m])), (a_t, .inl (gI g, 14, .inl fT)), (a_p, .inl (gI g, 14, .inl fP)), (a_m, .inl (gI g, 14, .inl fM))]) := by
  refine jMI.intro (by decide +kernel) (Nat.le_of_ble_eq_true rfl) (fun x hX hQ => ?_)
  refine j_lv (lv2 := [(0, .ref a), (1, .int k)]) rfl ?_
  refine j_iconst (v := 0) (pc := 0) hX dX6_thingsOf_0 (by decide) ?_
  refine j_istore_n (lv2 := [(0, .ref a), (1, .int k), (2, .int 0)]) (pc := 1) hX dX6_thingsOf_1 [1, 2, 0] (by decide) rfl ?_
  refine j_iconst (v := 0) (pc := 2) hX dX6_thingsOf_2 (by decide) ?_
  refine j_istore_n (lv2 := [(0, .ref a), (1, .int k), (2, .int 0), (3, .int 0)]) (pc := 3) hX dX6_thingsOf_3 [1, 2, 3, 0] (by decide) rfl ?_
  have L4 : ∀ (d : Nat) (i : Nat), i ≤ n → n - i = d → J g x 4 0 0 4 [(0, .ref a), (1, .int k), (2, .int (S_or fT k i)), (3, .int (nI i))] [] [(a, .inr (6, [.int nd, .int (nI n), .ref a_t, .ref a_p, .ref a_m])), (a_t, .inl (gI g, 14, .inl fT)), (a_p, .inl (gI g, 14, .inl fP)), (a_m, .inl (gI g, 14, .inl fM))] := by
    intro d
    induction d using Nat.strongRecOn with
    | _ d ih4 =>
      intro i hi hd4
      refine j_iload_n (pc := 4) hX dX6_thingsOf_4 3 rfl ?_
      refine j_aload_n (pc := 5) hX dX6_thingsOf_5 0 rfl ?_
      refine j_get (ci := 6) (pc := 6) hX inG6 rfl 1 (by decide) mw43 0 rfl rfl dX6_thingsOf_6 ?_
      refine j_icmp_ge (tgt := 35) (pc := 9) hX dX6_thingsOf_9 (by decide) (fun c9_1 => ?_) (fun c9_1 => ?_)
      · skip
        have c9_1n : n ≤ i := (nI_leI (a := n) (b := i) (by omega) (by omega)).mp c9_1
        have c9_1m : ¬ i < n := by omega
        refine j_iload_n (pc := 35) hX dX6_thingsOf_35 2 rfl ?_
        exact j_iret (pc := 36) hX hQ dX6_thingsOf_36 rfl ⟨(by rw [show i = n by omega]), (by first | rfl | first | (simp only [jb_t, jb_f, S_or, c9_1, c9_1n, c9_1m, reduceIte, eq_self, decide_true, decide_false, Bool.and_true, Bool.true_and, Bool.and_false, Bool.false_and, Bool.and_self, not_true_eq_false, not_false_eq_true, and_true, true_and, and_false, false_and, and_self]; done) | (simp [jb_t, jb_f, S_or, c9_1, c9_1n, c9_1m]; done))⟩
      · skip
        have c9_1n : ¬ n ≤ i := fun h9 => c9_1 ((nI_leI (a := n) (b := i) (by omega) (by omega)).mpr h9)
        have c9_1m : i < n := by omega
        refine j_iload_n (pc := 12) hX dX6_thingsOf_12 1 rfl ?_
        refine j_iload_n (pc := 13) hX dX6_thingsOf_13 3 rfl ?_
        refine j_callSNI (n := 2) (As := [.int k, .int (nI i)]) (rest := []) (pc := 14) hX (c_X8_has g k i (by first | assumption | omega)) ⟨⟨_, mw271⟩, mw272, mw13, mw273, ⟨by decide +kernel, by decide +kernel, by decide +kernel⟩⟩ (Nat.le_of_ble_eq_true rfl) (Nat.le_of_ble_eq_true rfl) (Nat.le_of_ble_eq_true rfl) (Nat.le_of_ble_eq_true rfl) [] (by decide +kernel) rfl rfl rfl (Nat.le_of_ble_eq_true rfl) dX6_thingsOf_14 (fun r2 wz hq3 => ?_)
        obtain ⟨rfl, rfl⟩ := hq3
        refine j_ws (ws2 := [(a, .inr (6, [.int nd, .int (nI n), .ref a_t, .ref a_p, .ref a_m])), (a_t, .inl (gI g, 14, .inl fT)), (a_p, .inl (gI g, 14, .inl fP)), (a_m, .inl (gI g, 14, .inl fM))]) rfl ?_
        refine j_if_eq (tgt := 29) (pc := 17) hX dX6_thingsOf_17 (by decide) (fun c17_4 => ?_) (fun c17_4 => ?_)
        · skip
          have c17_4b : (bt k i) = false := jb_0.mp c17_4
          refine j_iinc (v := nI (i + 1)) (lv2 := [(0, .ref a), (1, .int k), (2, .int (S_or fT k i)), (3, .int (nI (i + 1)))]) (pc := 29) hX dX6_thingsOf_29 3 rfl (nI_add i 1) [1, 2, 3, 0] (by decide) rfl ?_
          refine j_goto (tgt := 4) (pc := 32) hX dX6_thingsOf_32 (by decide) ?_
          exact j_eq (lv2 := [(0, .ref a), (1, .int k), (2, .int (S_or fT k (i + 1))), (3, .int (nI (i + 1)))]) (ws2 := [(a, .inr (6, [.int nd, .int (nI n), .ref a_t, .ref a_p, .ref a_m])), (a_t, .inl (gI g, 14, .inl fT)), (a_p, .inl (gI g, 14, .inl fP)), (a_m, .inl (gI g, 14, .inl fM))]) (by first | rfl | first | (simp only [jb_t, jb_f, S_or, c9_1, c9_1n, c9_1m, c17_4, c17_4b, reduceIte, eq_self, decide_true, decide_false, Bool.and_true, Bool.true_and, Bool.and_false, Bool.false_and, Bool.and_self, not_true_eq_false, not_false_eq_true, and_true, true_and, and_false, false_and, and_self]; done) | (simp [jb_t, jb_f, S_or, c9_1, c9_1n, c9_1m, c17_4, c17_4b]; done)) (by first | rfl | first | (simp only [jb_t, jb_f, S_or, c9_1, c9_1n, c9_1m, c17_4, c17_4b, reduceIte, eq_self, decide_true, decide_false, Bool.and_true, Bool.true_and, Bool.and_false, Bool.false_and, Bool.and_self, not_true_eq_false, not_false_eq_true, and_true, true_and, and_false, false_and, and_self]; done) | (simp [jb_t, jb_f, S_or, c9_1, c9_1n, c9_1m, c17_4, c17_4b]; done)) (ih4 _ (by omega) (i + 1) (by omega) rfl)
        · skip
          have c17_4b : (bt k i) = true := jb_1.mp c17_4
          refine j_iload_n (pc := 20) hX dX6_thingsOf_20 2 rfl ?_
          refine j_aload_n (pc := 21) hX dX6_thingsOf_21 0 rfl ?_
          refine j_get (ci := 6) (pc := 22) hX inG6 rfl 2 (by decide) mw48 0 rfl rfl dX6_thingsOf_22 ?_
          refine j_iload_n (pc := 25) hX dX6_thingsOf_25 3 rfl ?_
          refine j_iald (pc := 26) hX 1 rfl i rfl (by omega) (by omega) dX6_thingsOf_26 ?_
          refine j_ior (pc := 27) hX dX6_thingsOf_27 ?_
          refine j_istore_n (lv2 := [(0, .ref a), (1, .int k), (2, .int ((S_or fT k i) ||| (fT i))), (3, .int (nI i))]) (pc := 28) hX dX6_thingsOf_28 [1, 2, 0, 3] (by decide) rfl ?_
          refine j_iinc (v := nI (i + 1)) (lv2 := [(0, .ref a), (1, .int k), (2, .int ((S_or fT k i) ||| (fT i))), (3, .int (nI (i + 1)))]) (pc := 29) hX dX6_thingsOf_29 3 rfl (nI_add i 1) [1, 2, 3, 0] (by decide) rfl ?_
          refine j_goto (tgt := 4) (pc := 32) hX dX6_thingsOf_32 (by decide) ?_
          exact j_eq (lv2 := [(0, .ref a), (1, .int k), (2, .int (S_or fT k (i + 1))), (3, .int (nI (i + 1)))]) (ws2 := [(a, .inr (6, [.int nd, .int (nI n), .ref a_t, .ref a_p, .ref a_m])), (a_t, .inl (gI g, 14, .inl fT)), (a_p, .inl (gI g, 14, .inl fP)), (a_m, .inl (gI g, 14, .inl fM))]) (by first | rfl | first | (simp only [jb_t, jb_f, S_or, c9_1, c9_1n, c9_1m, c17_4, c17_4b, reduceIte, eq_self, decide_true, decide_false, Bool.and_true, Bool.true_and, Bool.and_false, Bool.false_and, Bool.and_self, not_true_eq_false, not_false_eq_true, and_true, true_and, and_false, false_and, and_self]; done) | (simp [jb_t, jb_f, S_or, c9_1, c9_1n, c9_1m, c17_4, c17_4b]; done)) (by first | rfl | first | (simp only [jb_t, jb_f, S_or, c9_1, c9_1n, c9_1m, c17_4, c17_4b, reduceIte, eq_self, decide_true, decide_false, Bool.and_true, Bool.true_and, Bool.and_false, Bool.false_and, Bool.and_self, not_true_eq_false, not_false_eq_true, and_true, true_and, and_false, false_and, and_self]; done) | (simp [jb_t, jb_f, S_or, c9_1, c9_1n, c9_1m, c17_4, c17_4b]; done)) (ih4 _ (by omega) (i + 1) (by omega) rfl)
  exact j_eq (lv2 := [(0, .ref a), (1, .int k), (2, .int (S_or fT k 0)), (3, .int (nI 0))]) (ws2 := [(a, .inr (6, [.int nd, .int (nI n), .ref a_t, .ref a_p, .ref a_m])), (a_t, .inl (gI g, 14, .inl fT)), (a_p, .inl (gI g, 14, .inl fP)), (a_m, .inl (gI g, 14, .inl fM))]) (rfl) (rfl) (L4 _ 0 (by omega) rfl)

set_option maxHeartbeats 4000000 in
set_option maxRecDepth 100000 in
theorem c_X6_priceOf (g : jG) (a : Nat) (a_t : Nat) (a_p : Nat) (a_m : Nat) (nd : Int32) (n : Nat) (fT : Nat → Int32) (fP : Nat → Int32) (fM : Nat → Int32) (k : Int32) (hn : n ≤ 14) : jMI g yX6_priceOf cX6_priceOf 4 .int 1 21 [.ref a, .int k] [(a, .inr (6, [.int nd, .int (nI n), .ref a_t, .ref a_p, .ref a_m])), (a_t, .inl (gI g, 14, .inl fT)), (a_p, .inl (gI g, 14, .inl fP)), (a_m, .inl (gI g, 14, .inl fM))] (fun rz wz => rz = S_sum fP k n ∧ wz = [(a, .inr (6, [.int nd, .int (nI n), .ref a_t, .ref a_p, .ref a_m])), (a_t, .inl (gI g, 14, .inl fT)), (a_p, .inl (gI g, 14, .inl fP)), (a_m, .inl (gI g, 14, .inl fM))]) := by
  refine jMI.intro (by decide +kernel) (Nat.le_of_ble_eq_true rfl) (fun x hX hQ => ?_)
  refine j_lv (lv2 := [(0, .ref a), (1, .int k)]) rfl ?_
  refine j_iconst (v := 0) (pc := 0) hX dX6_priceOf_0 (by decide) ?_
  refine j_istore_n (lv2 := [(0, .ref a), (1, .int k), (2, .int 0)]) (pc := 1) hX dX6_priceOf_1 [1, 2, 0] (by decide) rfl ?_
  refine j_iconst (v := 0) (pc := 2) hX dX6_priceOf_2 (by decide) ?_
  refine j_istore_n (lv2 := [(0, .ref a), (1, .int k), (2, .int 0), (3, .int 0)]) (pc := 3) hX dX6_priceOf_3 [1, 2, 3, 0] (by decide) rfl ?_
  have L4 : ∀ (d : Nat) (i : Nat), i ≤ n → n - i = d → J g x 4 0 0 4 [(0, .ref a), (1, .int k), (2, .int (S_sum fP k i)), (3, .int (nI i))] [] [(a, .inr (6, [.int nd, .int (nI n), .ref a_t, .ref a_p, .ref a_m])), (a_t, .inl (gI g, 14, .inl fT)), (a_p, .inl (gI g, 14, .inl fP)), (a_m, .inl (gI g, 14, .inl fM))] := by
    intro d
    induction d using Nat.strongRecOn with
    | _ d ih4 =>
      intro i hi hd4
      refine j_iload_n (pc := 4) hX dX6_priceOf_4 3 rfl ?_
      refine j_aload_n (pc := 5) hX dX6_priceOf_5 0 rfl ?_
      refine j_get (ci := 6) (pc := 6) hX inG6 rfl 1 (by decide) mw43 0 rfl rfl dX6_priceOf_6 ?_
      refine j_icmp_ge (tgt := 35) (pc := 9) hX dX6_priceOf_9 (by decide) (fun c9_1 => ?_) (fun c9_1 => ?_)
      · skip
        have c9_1n : n ≤ i := (nI_leI (a := n) (b := i) (by omega) (by omega)).mp c9_1
        have c9_1m : ¬ i < n := by omega
        refine j_iload_n (pc := 35) hX dX6_priceOf_35 2 rfl ?_
        exact j_iret (pc := 36) hX hQ dX6_priceOf_36 rfl ⟨(by rw [show i = n by omega]), (by first | rfl | first | (simp only [jb_t, jb_f, S_sum, c9_1, c9_1n, c9_1m, reduceIte, eq_self, decide_true, decide_false, Bool.and_true, Bool.true_and, Bool.and_false, Bool.false_and, Bool.and_self, not_true_eq_false, not_false_eq_true, and_true, true_and, and_false, false_and, and_self]; done) | (simp [jb_t, jb_f, S_sum, c9_1, c9_1n, c9_1m]; done))⟩
      · skip
        have c9_1n : ¬ n ≤ i := fun h9 => c9_1 ((nI_leI (a := n) (b := i) (by omega) (by omega)).mpr h9)
        have c9_1m : i < n := by omega
        refine j_iload_n (pc := 12) hX dX6_priceOf_12 1 rfl ?_
        refine j_iload_n (pc := 13) hX dX6_priceOf_13 3 rfl ?_
        refine j_callSNI (n := 2) (As := [.int k, .int (nI i)]) (rest := []) (pc := 14) hX (c_X8_has g k i (by first | assumption | omega)) ⟨⟨_, mw271⟩, mw272, mw13, mw273, ⟨by decide +kernel, by decide +kernel, by decide +kernel⟩⟩ (Nat.le_of_ble_eq_true rfl) (Nat.le_of_ble_eq_true rfl) (Nat.le_of_ble_eq_true rfl) (Nat.le_of_ble_eq_true rfl) [] (by decide +kernel) rfl rfl rfl (Nat.le_of_ble_eq_true rfl) dX6_priceOf_14 (fun r2 wz hq3 => ?_)
        obtain ⟨rfl, rfl⟩ := hq3
        refine j_ws (ws2 := [(a, .inr (6, [.int nd, .int (nI n), .ref a_t, .ref a_p, .ref a_m])), (a_t, .inl (gI g, 14, .inl fT)), (a_p, .inl (gI g, 14, .inl fP)), (a_m, .inl (gI g, 14, .inl fM))]) rfl ?_
        refine j_if_eq (tgt := 29) (pc := 17) hX dX6_priceOf_17 (by decide) (fun c17_4 => ?_) (fun c17_4 => ?_)
        · skip
          have c17_4b : (bt k i) = false := jb_0.mp c17_4
          refine j_iinc (v := nI (i + 1)) (lv2 := [(0, .ref a), (1, .int k), (2, .int (S_sum fP k i)), (3, .int (nI (i + 1)))]) (pc := 29) hX dX6_priceOf_29 3 rfl (nI_add i 1) [1, 2, 3, 0] (by decide) rfl ?_
          refine j_goto (tgt := 4) (pc := 32) hX dX6_priceOf_32 (by decide) ?_
          exact j_eq (lv2 := [(0, .ref a), (1, .int k), (2, .int (S_sum fP k (i + 1))), (3, .int (nI (i + 1)))]) (ws2 := [(a, .inr (6, [.int nd, .int (nI n), .ref a_t, .ref a_p, .ref a_m])), (a_t, .inl (gI g, 14, .inl fT)), (a_p, .inl (gI g, 14, .inl fP)), (a_m, .inl (gI g, 14, .inl fM))]) (by first | rfl | first | (simp only [jb_t, jb_f, S_sum, c9_1, c9_1n, c9_1m, c17_4, c17_4b, reduceIte, eq_self, decide_true, decide_false, Bool.and_true, Bool.true_and, Bool.and_false, Bool.false_and, Bool.and_self, not_true_eq_false, not_false_eq_true, and_true, true_and, and_false, false_and, and_self]; done) | (simp [jb_t, jb_f, S_sum, c9_1, c9_1n, c9_1m, c17_4, c17_4b]; done)) (by first | rfl | first | (simp only [jb_t, jb_f, S_sum, c9_1, c9_1n, c9_1m, c17_4, c17_4b, reduceIte, eq_self, decide_true, decide_false, Bool.and_true, Bool.true_and, Bool.and_false, Bool.false_and, Bool.and_self, not_true_eq_false, not_false_eq_true, and_true, true_and, and_false, false_and, and_self]; done) | (simp [jb_t, jb_f, S_sum, c9_1, c9_1n, c9_1m, c17_4, c17_4b]; done)) (ih4 _ (by omega) (i + 1) (by omega) rfl)
        · skip
          have c17_4b : (bt k i) = true := jb_1.mp c17_4
          refine j_iload_n (pc := 20) hX dX6_priceOf_20 2 rfl ?_
          refine j_aload_n (pc := 21) hX dX6_priceOf_21 0 rfl ?_
          refine j_get (ci := 6) (pc := 22) hX inG6 rfl 3 (by decide) mw53 0 rfl rfl dX6_priceOf_22 ?_
          refine j_iload_n (pc := 25) hX dX6_priceOf_25 3 rfl ?_
          refine j_iald (pc := 26) hX 2 rfl i rfl (by omega) (by omega) dX6_priceOf_26 ?_
          refine j_iadd (pc := 27) hX dX6_priceOf_27 ?_
          refine j_istore_n (lv2 := [(0, .ref a), (1, .int k), (2, .int ((S_sum fP k i) + (fP i))), (3, .int (nI i))]) (pc := 28) hX dX6_priceOf_28 [1, 2, 0, 3] (by decide) rfl ?_
          refine j_iinc (v := nI (i + 1)) (lv2 := [(0, .ref a), (1, .int k), (2, .int ((S_sum fP k i) + (fP i))), (3, .int (nI (i + 1)))]) (pc := 29) hX dX6_priceOf_29 3 rfl (nI_add i 1) [1, 2, 3, 0] (by decide) rfl ?_
          refine j_goto (tgt := 4) (pc := 32) hX dX6_priceOf_32 (by decide) ?_
          exact j_eq (lv2 := [(0, .ref a), (1, .int k), (2, .int (S_sum fP k (i + 1))), (3, .int (nI (i + 1)))]) (ws2 := [(a, .inr (6, [.int nd, .int (nI n), .ref a_t, .ref a_p, .ref a_m])), (a_t, .inl (gI g, 14, .inl fT)), (a_p, .inl (gI g, 14, .inl fP)), (a_m, .inl (gI g, 14, .inl fM))]) (by first | rfl | first | (simp only [jb_t, jb_f, S_sum, c9_1, c9_1n, c9_1m, c17_4, c17_4b, reduceIte, eq_self, decide_true, decide_false, Bool.and_true, Bool.true_and, Bool.and_false, Bool.false_and, Bool.and_self, not_true_eq_false, not_false_eq_true, and_true, true_and, and_false, false_and, and_self]; done) | (simp [jb_t, jb_f, S_sum, c9_1, c9_1n, c9_1m, c17_4, c17_4b]; done)) (by first | rfl | first | (simp only [jb_t, jb_f, S_sum, c9_1, c9_1n, c9_1m, c17_4, c17_4b, reduceIte, eq_self, decide_true, decide_false, Bool.and_true, Bool.true_and, Bool.and_false, Bool.false_and, Bool.and_self, not_true_eq_false, not_false_eq_true, and_true, true_and, and_false, false_and, and_self]; done) | (simp [jb_t, jb_f, S_sum, c9_1, c9_1n, c9_1m, c17_4, c17_4b]; done)) (ih4 _ (by omega) (i + 1) (by omega) rfl)
  exact j_eq (lv2 := [(0, .ref a), (1, .int k), (2, .int (S_sum fP k 0)), (3, .int (nI 0))]) (ws2 := [(a, .inr (6, [.int nd, .int (nI n), .ref a_t, .ref a_p, .ref a_m])), (a_t, .inl (gI g, 14, .inl fT)), (a_p, .inl (gI g, 14, .inl fP)), (a_m, .inl (gI g, 14, .inl fM))]) (rfl) (rfl) (L4 _ 0 (by omega) rfl)

set_option maxHeartbeats 4000000 in
set_option maxRecDepth 100000 in
theorem c_X6_missingIn (g : jG) (a : Nat) (a_t : Nat) (a_p : Nat) (a_m : Nat) (nd : Int32) (n : Nat) (fT : Nat → Int32) (fP : Nat → Int32) (fM : Nat → Int32) (k : Int32) (hn : n ≤ 14) : jMI g yX6_missingIn cX6_missingIn 2 .int 2 44 [.ref a, .int k] [(a, .inr (6, [.int nd, .int (nI n), .ref a_t, .ref a_p, .ref a_m])), (a_t, .inl (gI g, 14, .inl fT)), (a_p, .inl (gI g, 14, .inl fP)), (a_m, .inl (gI g, 14, .inl fM))] (fun rz wz => rz = S_miss fT nd n k ∧ wz = [(a, .inr (6, [.int nd, .int (nI n), .ref a_t, .ref a_p, .ref a_m])), (a_t, .inl (gI g, 14, .inl fT)), (a_p, .inl (gI g, 14, .inl fP)), (a_m, .inl (gI g, 14, .inl fM))]) := by
  refine jMI.intro (by decide +kernel) (Nat.le_of_ble_eq_true rfl) (fun x hX hQ => ?_)
  refine j_lv (lv2 := [(0, .ref a), (1, .int k)]) rfl ?_
  refine j_aload_n (pc := 0) hX dX6_missingIn_0 0 rfl ?_
  refine j_get (ci := 6) (pc := 1) hX inG6 rfl 0 (by decide) mw39 0 rfl rfl dX6_missingIn_1 ?_
  refine j_aload_n (pc := 4) hX dX6_missingIn_4 0 rfl ?_
  refine j_iload_n (pc := 5) hX dX6_missingIn_5 1 rfl ?_
  refine j_callVI (n := 1) (As := [.int k]) (rest := [.int nd]) (pc := 6) hX (c_X6_thingsOf g a a_t a_p a_m nd n fT fP fM k (by first | assumption | omega)) (CV.of mw267 mw268 mw269 mw14 mw270 ⟨rfl, by decide +kernel, by decide +kernel, by decide +kernel⟩ (T := TX6) (N := 5) rfl) (Nat.le_of_ble_eq_true rfl) (Nat.le_of_ble_eq_true rfl) (Nat.le_of_ble_eq_true rfl) (Nat.le_of_ble_eq_true rfl) 0 rfl [0, 1, 2, 3] (by decide +kernel) rfl rfl rfl (Nat.le_of_ble_eq_true rfl) dX6_missingIn_6 (fun r1 wz hq2 => ?_)
  obtain ⟨rfl, rfl⟩ := hq2
  refine j_ws (ws2 := [(a, .inr (6, [.int nd, .int (nI n), .ref a_t, .ref a_p, .ref a_m])), (a_t, .inl (gI g, 14, .inl fT)), (a_p, .inl (gI g, 14, .inl fP)), (a_m, .inl (gI g, 14, .inl fM))]) rfl ?_
  refine j_iconst (v := (-1)) (pc := 9) hX dX6_missingIn_9 (by decide) ?_
  refine j_ixor (pc := 10) hX dX6_missingIn_10 ?_
  refine j_iand (pc := 11) hX dX6_missingIn_11 ?_
  exact j_iret (pc := 12) hX hQ dX6_missingIn_12 rfl ⟨(by first | rfl | first | (simp only [jb_t, jb_f, reduceIte, eq_self, decide_true, decide_false, Bool.and_true, Bool.true_and, Bool.and_false, Bool.false_and, Bool.and_self, not_true_eq_false, not_false_eq_true, and_true, true_and, and_false, false_and, and_self]; done) | (simp [jb_t, jb_f]; done)), (by first | rfl | first | (simp only [jb_t, jb_f, reduceIte, eq_self, decide_true, decide_false, Bool.and_true, Bool.true_and, Bool.and_false, Bool.false_and, Bool.and_self, not_true_eq_false, not_false_eq_true, and_true, true_and, and_false, false_and, and_self]; done) | (simp [jb_t, jb_f]; done))⟩

set_option maxHeartbeats 4000000 in
set_option maxRecDepth 100000 in
theorem c_X6_notBarred (g : jG) (a : Nat) (a_t : Nat) (a_p : Nat) (a_m : Nat) (nd : Int32) (n : Nat) (fT : Nat → Int32) (fP : Nat → Int32) (fM : Nat → Int32) (hn : n ≤ 14) : jMI g yX6_notBarred cX6_notBarred 1 .int 1 23 [.ref a] [(a, .inr (6, [.int nd, .int (nI n), .ref a_t, .ref a_p, .ref a_m])), (a_t, .inl (gI g, 14, .inl fT)), (a_p, .inl (gI g, 14, .inl fP)), (a_m, .inl (gI g, 14, .inl fM))] (fun rz wz => rz = S_nb fM n ∧ wz = [(a, .inr (6, [.int nd, .int (nI n), .ref a_t, .ref a_p, .ref a_m])), (a_t, .inl (gI g, 14, .inl fT)), (a_p, .inl (gI g, 14, .inl fP)), (a_m, .inl (gI g, 14, .inl fM))]) := by
  refine jMI.intro (by decide +kernel) (Nat.le_of_ble_eq_true rfl) (fun x hX hQ => ?_)
  refine j_lv (lv2 := [(0, .ref a)]) rfl ?_
  refine j_aload_n (pc := 0) hX dX6_notBarred_0 0 rfl ?_
  refine j_iconst (v := 0) (pc := 1) hX dX6_notBarred_1 (by decide) ?_
  refine j_callVI (n := 1) (As := [.int 0]) (rest := []) (pc := 2) hX (c_X6_marked g a a_t a_p a_m nd n fT fP fM 0 (by first | assumption | omega)) (CV.of mw259 mw260 mw261 mw14 mw262 ⟨rfl, by decide +kernel, by decide +kernel, by decide +kernel⟩ (T := TX6) (N := 5) rfl) (Nat.le_of_ble_eq_true rfl) (Nat.le_of_ble_eq_true rfl) (Nat.le_of_ble_eq_true rfl) (Nat.le_of_ble_eq_true rfl) 0 rfl [0, 1, 2, 3] (by decide +kernel) rfl rfl rfl (Nat.le_of_ble_eq_true rfl) dX6_notBarred_2 (fun r1 wz hq2 => ?_)
  obtain ⟨rfl, rfl⟩ := hq2
  refine j_ws (ws2 := [(a, .inr (6, [.int nd, .int (nI n), .ref a_t, .ref a_p, .ref a_m])), (a_t, .inl (gI g, 14, .inl fT)), (a_p, .inl (gI g, 14, .inl fP)), (a_m, .inl (gI g, 14, .inl fM))]) rfl ?_
  refine j_aload_n (pc := 5) hX dX6_notBarred_5 0 rfl ?_
  refine j_iconst (v := 1) (pc := 6) hX dX6_notBarred_6 (by decide) ?_
  refine j_callVI (n := 1) (As := [.int 1]) (rest := [.int (S_mk fM 0 n)]) (pc := 7) hX (c_X6_marked g a a_t a_p a_m nd n fT fP fM 1 (by first | assumption | omega)) (CV.of mw259 mw260 mw261 mw14 mw262 ⟨rfl, by decide +kernel, by decide +kernel, by decide +kernel⟩ (T := TX6) (N := 5) rfl) (Nat.le_of_ble_eq_true rfl) (Nat.le_of_ble_eq_true rfl) (Nat.le_of_ble_eq_true rfl) (Nat.le_of_ble_eq_true rfl) 0 rfl [0, 1, 2, 3] (by decide +kernel) rfl rfl rfl (Nat.le_of_ble_eq_true rfl) dX6_notBarred_7 (fun r3 wz hq4 => ?_)
  obtain ⟨rfl, rfl⟩ := hq4
  refine j_ws (ws2 := [(a, .inr (6, [.int nd, .int (nI n), .ref a_t, .ref a_p, .ref a_m])), (a_t, .inl (gI g, 14, .inl fT)), (a_p, .inl (gI g, 14, .inl fP)), (a_m, .inl (gI g, 14, .inl fM))]) rfl ?_
  refine j_ior (pc := 10) hX dX6_notBarred_10 ?_
  exact j_iret (pc := 11) hX hQ dX6_notBarred_11 rfl ⟨(by first | rfl | first | (simp only [jb_t, jb_f, reduceIte, eq_self, decide_true, decide_false, Bool.and_true, Bool.true_and, Bool.and_false, Bool.false_and, Bool.and_self, not_true_eq_false, not_false_eq_true, and_true, true_and, and_false, false_and, and_self]; done) | (simp [jb_t, jb_f]; done)), (by first | rfl | first | (simp only [jb_t, jb_f, reduceIte, eq_self, decide_true, decide_false, Bool.and_true, Bool.true_and, Bool.and_false, Bool.false_and, Bool.and_self, not_true_eq_false, not_false_eq_true, and_true, true_and, and_false, false_and, and_self]; done) | (simp [jb_t, jb_f]; done))⟩

set_option maxHeartbeats 4000000 in
set_option maxRecDepth 100000 in
theorem c_X6_hasCover (g : jG) (a : Nat) (a_t : Nat) (a_p : Nat) (a_m : Nat) (nd : Int32) (n : Nat) (fT : Nat → Int32) (fP : Nat → Int32) (fM : Nat → Int32) (hn : n ≤ 14) : jMI g yX6_hasCover cX6_hasCover 1 .boolean 3 65 [.ref a] [(a, .inr (6, [.int nd, .int (nI n), .ref a_t, .ref a_p, .ref a_m])), (a_t, .inl (gI g, 14, .inl fT)), (a_p, .inl (gI g, 14, .inl fP)), (a_m, .inl (gI g, 14, .inl fM))] (fun rz wz => rz = jb (S_has fT fM nd n) ∧ wz = [(a, .inr (6, [.int nd, .int (nI n), .ref a_t, .ref a_p, .ref a_m])), (a_t, .inl (gI g, 14, .inl fT)), (a_p, .inl (gI g, 14, .inl fP)), (a_m, .inl (gI g, 14, .inl fM))]) := by
  refine jMI.intro (by decide +kernel) (Nat.le_of_ble_eq_true rfl) (fun x hX hQ => ?_)
  refine j_lv (lv2 := [(0, .ref a)]) rfl ?_
  refine j_aload_n (pc := 0) hX dX6_hasCover_0 0 rfl ?_
  refine j_aload_n (pc := 1) hX dX6_hasCover_1 0 rfl ?_
  refine j_callVI (n := 0) (As := []) (rest := [.ref a]) (pc := 2) hX (c_X6_notBarred g a a_t a_p a_m nd n fT fP fM (by first | assumption | omega)) (CV.of mw255 mw256 mw257 mw14 mw258 ⟨rfl, by decide +kernel, by decide +kernel, by decide +kernel⟩ (T := TX6) (N := 5) rfl) (Nat.le_of_ble_eq_true rfl) (Nat.le_of_ble_eq_true rfl) (Nat.le_of_ble_eq_true rfl) (Nat.le_of_ble_eq_true rfl) 0 rfl [0, 1, 2, 3] (by decide +kernel) rfl rfl rfl (Nat.le_of_ble_eq_true rfl) dX6_hasCover_2 (fun r1 wz hq2 => ?_)
  obtain ⟨rfl, rfl⟩ := hq2
  refine j_ws (ws2 := [(a, .inr (6, [.int nd, .int (nI n), .ref a_t, .ref a_p, .ref a_m])), (a_t, .inl (gI g, 14, .inl fT)), (a_p, .inl (gI g, 14, .inl fP)), (a_m, .inl (gI g, 14, .inl fM))]) rfl ?_
  refine j_callVI (n := 1) (As := [.int (S_nb fM n)]) (rest := []) (pc := 5) hX (c_X6_missingIn g a a_t a_p a_m nd n fT fP fM (S_nb fM n) (by first | assumption | omega)) (CV.of mw263 mw264 mw265 mw14 mw266 ⟨rfl, by decide +kernel, by decide +kernel, by decide +kernel⟩ (T := TX6) (N := 5) rfl) (Nat.le_of_ble_eq_true rfl) (Nat.le_of_ble_eq_true rfl) (Nat.le_of_ble_eq_true rfl) (Nat.le_of_ble_eq_true rfl) 0 rfl [0, 1, 2, 3] (by decide +kernel) rfl rfl rfl (Nat.le_of_ble_eq_true rfl) dX6_hasCover_5 (fun r3 wz hq4 => ?_)
  obtain ⟨rfl, rfl⟩ := hq4
  refine j_ws (ws2 := [(a, .inr (6, [.int nd, .int (nI n), .ref a_t, .ref a_p, .ref a_m])), (a_t, .inl (gI g, 14, .inl fT)), (a_p, .inl (gI g, 14, .inl fP)), (a_m, .inl (gI g, 14, .inl fM))]) rfl ?_
  refine j_if_ne (tgt := 15) (pc := 8) hX dX6_hasCover_8 (by decide) (fun c8_5 => ?_) (fun c8_5 => ?_)
  · skip
    refine j_iconst (v := 0) (pc := 15) hX dX6_hasCover_15 (by decide) ?_
    exact j_zret (pc := 16) hX hQ dX6_hasCover_16 (by first | rfl | exact jb_nar _) rfl ⟨(by first | rfl | first | (simp only [jb_t, jb_f, S_has, c8_5, reduceIte, eq_self, decide_true, decide_false, Bool.and_true, Bool.true_and, Bool.and_false, Bool.false_and, Bool.and_self, not_true_eq_false, not_false_eq_true, and_true, true_and, and_false, false_and, and_self]; done) | (simp [jb_t, jb_f, S_has, c8_5]; done)), (by first | rfl | first | (simp only [jb_t, jb_f, S_has, c8_5, reduceIte, eq_self, decide_true, decide_false, Bool.and_true, Bool.true_and, Bool.and_false, Bool.false_and, Bool.and_self, not_true_eq_false, not_false_eq_true, and_true, true_and, and_false, false_and, and_self]; done) | (simp [jb_t, jb_f, S_has, c8_5]; done))⟩
  · skip
    refine j_iconst (v := 1) (pc := 11) hX dX6_hasCover_11 (by decide) ?_
    refine j_goto (tgt := 16) (pc := 12) hX dX6_hasCover_12 (by decide) ?_
    exact j_zret (pc := 16) hX hQ dX6_hasCover_16 (by first | rfl | exact jb_nar _) rfl ⟨(by first | rfl | first | (simp only [jb_t, jb_f, S_has, c8_5, reduceIte, eq_self, decide_true, decide_false, Bool.and_true, Bool.true_and, Bool.and_false, Bool.false_and, Bool.and_self, not_true_eq_false, not_false_eq_true, and_true, true_and, and_false, false_and, and_self]; done) | (simp [jb_t, jb_f, S_has, c8_5]; done)), (by first | rfl | first | (simp only [jb_t, jb_f, S_has, c8_5, reduceIte, eq_self, decide_true, decide_false, Bool.and_true, Bool.true_and, Bool.and_false, Bool.false_and, Bool.and_self, not_true_eq_false, not_false_eq_true, and_true, true_and, and_false, false_and, and_self]; done) | (simp [jb_t, jb_f, S_has, c8_5]; done))⟩

set_option maxHeartbeats 4000000 in
set_option maxRecDepth 100000 in
theorem c_X6_isCover (g : jG) (a : Nat) (a_t : Nat) (a_p : Nat) (a_m : Nat) (nd : Int32) (n : Nat) (fT : Nat → Int32) (fP : Nat → Int32) (fM : Nat → Int32) (k : Int32) (hn : n ≤ 14) : jMI g yX6_isCover cX6_isCover 3 .boolean 3 65 [.ref a, .int k] [(a, .inr (6, [.int nd, .int (nI n), .ref a_t, .ref a_p, .ref a_m])), (a_t, .inl (gI g, 14, .inl fT)), (a_p, .inl (gI g, 14, .inl fP)), (a_m, .inl (gI g, 14, .inl fM))] (fun rz wz => rz = jb (S_cov fT fM nd n k) ∧ wz = [(a, .inr (6, [.int nd, .int (nI n), .ref a_t, .ref a_p, .ref a_m])), (a_t, .inl (gI g, 14, .inl fT)), (a_p, .inl (gI g, 14, .inl fP)), (a_m, .inl (gI g, 14, .inl fM))]) := by
  refine jMI.intro (by decide +kernel) (Nat.le_of_ble_eq_true rfl) (fun x hX hQ => ?_)
  refine j_lv (lv2 := [(0, .ref a), (1, .int k)]) rfl ?_
  refine j_aload_n (pc := 0) hX dX6_isCover_0 0 rfl ?_
  refine j_iconst (v := 1) (pc := 1) hX dX6_isCover_1 (by decide) ?_
  refine j_callVI (n := 1) (As := [.int 1]) (rest := []) (pc := 2) hX (c_X6_marked g a a_t a_p a_m nd n fT fP fM 1 (by first | assumption | omega)) (CV.of mw259 mw260 mw261 mw14 mw262 ⟨rfl, by decide +kernel, by decide +kernel, by decide +kernel⟩ (T := TX6) (N := 5) rfl) (Nat.le_of_ble_eq_true rfl) (Nat.le_of_ble_eq_true rfl) (Nat.le_of_ble_eq_true rfl) (Nat.le_of_ble_eq_true rfl) 0 rfl [0, 1, 2, 3] (by decide +kernel) rfl rfl rfl (Nat.le_of_ble_eq_true rfl) dX6_isCover_2 (fun r1 wz hq2 => ?_)
  obtain ⟨rfl, rfl⟩ := hq2
  refine j_ws (ws2 := [(a, .inr (6, [.int nd, .int (nI n), .ref a_t, .ref a_p, .ref a_m])), (a_t, .inl (gI g, 14, .inl fT)), (a_p, .inl (gI g, 14, .inl fP)), (a_m, .inl (gI g, 14, .inl fM))]) rfl ?_
  refine j_istore_n (lv2 := [(0, .ref a), (1, .int k), (2, .int (S_mk fM 1 n))]) (pc := 5) hX dX6_isCover_5 [1, 2, 0] (by decide) rfl ?_
  refine j_iload_n (pc := 6) hX dX6_isCover_6 1 rfl ?_
  refine j_iload_n (pc := 7) hX dX6_isCover_7 2 rfl ?_
  refine j_iand (pc := 8) hX dX6_isCover_8 ?_
  refine j_iload_n (pc := 9) hX dX6_isCover_9 2 rfl ?_
  refine j_icmp_ne (tgt := 35) (pc := 10) hX dX6_isCover_10 (by decide) (fun c10_3 => ?_) (fun c10_3 => ?_)
  · skip
    refine j_iconst (v := 0) (pc := 35) hX dX6_isCover_35 (by decide) ?_
    exact j_zret (pc := 36) hX hQ dX6_isCover_36 (by first | rfl | exact jb_nar _) rfl ⟨(by first | rfl | first | (simp only [jb_t, jb_f, S_cov, c10_3, reduceIte, eq_self, decide_true, decide_false, Bool.and_true, Bool.true_and, Bool.and_false, Bool.false_and, Bool.and_self, not_true_eq_false, not_false_eq_true, and_true, true_and, and_false, false_and, and_self]; done) | (simp [jb_t, jb_f, S_cov, c10_3]; done)), (by first | rfl | first | (simp only [jb_t, jb_f, S_cov, c10_3, reduceIte, eq_self, decide_true, decide_false, Bool.and_true, Bool.true_and, Bool.and_false, Bool.false_and, Bool.and_self, not_true_eq_false, not_false_eq_true, and_true, true_and, and_false, false_and, and_self]; done) | (simp [jb_t, jb_f, S_cov, c10_3]; done))⟩
  · skip
    refine j_iload_n (pc := 13) hX dX6_isCover_13 1 rfl ?_
    refine j_aload_n (pc := 14) hX dX6_isCover_14 0 rfl ?_
    refine j_iconst (v := 2) (pc := 15) hX dX6_isCover_15 (by decide) ?_
    refine j_callVI (n := 1) (As := [.int 2]) (rest := [.int k]) (pc := 16) hX (c_X6_marked g a a_t a_p a_m nd n fT fP fM 2 (by first | assumption | omega)) (CV.of mw259 mw260 mw261 mw14 mw262 ⟨rfl, by decide +kernel, by decide +kernel, by decide +kernel⟩ (T := TX6) (N := 5) rfl) (Nat.le_of_ble_eq_true rfl) (Nat.le_of_ble_eq_true rfl) (Nat.le_of_ble_eq_true rfl) (Nat.le_of_ble_eq_true rfl) 0 rfl [0, 1, 2, 3] (by decide +kernel) rfl rfl rfl (Nat.le_of_ble_eq_true rfl) dX6_isCover_16 (fun r4 wz hq5 => ?_)
    obtain ⟨rfl, rfl⟩ := hq5
    refine j_ws (ws2 := [(a, .inr (6, [.int nd, .int (nI n), .ref a_t, .ref a_p, .ref a_m])), (a_t, .inl (gI g, 14, .inl fT)), (a_p, .inl (gI g, 14, .inl fP)), (a_m, .inl (gI g, 14, .inl fM))]) rfl ?_
    refine j_iand (pc := 19) hX dX6_isCover_19 ?_
    refine j_if_ne (tgt := 35) (pc := 20) hX dX6_isCover_20 (by decide) (fun c20_6 => ?_) (fun c20_6 => ?_)
    · skip
      refine j_iconst (v := 0) (pc := 35) hX dX6_isCover_35 (by decide) ?_
      exact j_zret (pc := 36) hX hQ dX6_isCover_36 (by first | rfl | exact jb_nar _) rfl ⟨(by first | rfl | first | (simp only [jb_t, jb_f, S_cov, c10_3, c20_6, reduceIte, eq_self, decide_true, decide_false, Bool.and_true, Bool.true_and, Bool.and_false, Bool.false_and, Bool.and_self, not_true_eq_false, not_false_eq_true, and_true, true_and, and_false, false_and, and_self]; done) | (simp [jb_t, jb_f, S_cov, c10_3, c20_6]; done)), (by first | rfl | first | (simp only [jb_t, jb_f, S_cov, c10_3, c20_6, reduceIte, eq_self, decide_true, decide_false, Bool.and_true, Bool.true_and, Bool.and_false, Bool.false_and, Bool.and_self, not_true_eq_false, not_false_eq_true, and_true, true_and, and_false, false_and, and_self]; done) | (simp [jb_t, jb_f, S_cov, c10_3, c20_6]; done))⟩
    · skip
      refine j_aload_n (pc := 23) hX dX6_isCover_23 0 rfl ?_
      refine j_iload_n (pc := 24) hX dX6_isCover_24 1 rfl ?_
      refine j_callVI (n := 1) (As := [.int k]) (rest := []) (pc := 25) hX (c_X6_missingIn g a a_t a_p a_m nd n fT fP fM k (by first | assumption | omega)) (CV.of mw263 mw264 mw265 mw14 mw266 ⟨rfl, by decide +kernel, by decide +kernel, by decide +kernel⟩ (T := TX6) (N := 5) rfl) (Nat.le_of_ble_eq_true rfl) (Nat.le_of_ble_eq_true rfl) (Nat.le_of_ble_eq_true rfl) (Nat.le_of_ble_eq_true rfl) 0 rfl [0, 1, 2, 3] (by decide +kernel) rfl rfl rfl (Nat.le_of_ble_eq_true rfl) dX6_isCover_25 (fun r7 wz hq8 => ?_)
      obtain ⟨rfl, rfl⟩ := hq8
      refine j_ws (ws2 := [(a, .inr (6, [.int nd, .int (nI n), .ref a_t, .ref a_p, .ref a_m])), (a_t, .inl (gI g, 14, .inl fT)), (a_p, .inl (gI g, 14, .inl fP)), (a_m, .inl (gI g, 14, .inl fM))]) rfl ?_
      refine j_if_ne (tgt := 35) (pc := 28) hX dX6_isCover_28 (by decide) (fun c28_9 => ?_) (fun c28_9 => ?_)
      · skip
        refine j_iconst (v := 0) (pc := 35) hX dX6_isCover_35 (by decide) ?_
        exact j_zret (pc := 36) hX hQ dX6_isCover_36 (by first | rfl | exact jb_nar _) rfl ⟨(by first | rfl | first | (simp only [jb_t, jb_f, S_cov, c10_3, c20_6, c28_9, reduceIte, eq_self, decide_true, decide_false, Bool.and_true, Bool.true_and, Bool.and_false, Bool.false_and, Bool.and_self, not_true_eq_false, not_false_eq_true, and_true, true_and, and_false, false_and, and_self]; done) | (simp [jb_t, jb_f, S_cov, c10_3, c20_6, c28_9]; done)), (by first | rfl | first | (simp only [jb_t, jb_f, S_cov, c10_3, c20_6, c28_9, reduceIte, eq_self, decide_true, decide_false, Bool.and_true, Bool.true_and, Bool.and_false, Bool.false_and, Bool.and_self, not_true_eq_false, not_false_eq_true, and_true, true_and, and_false, false_and, and_self]; done) | (simp [jb_t, jb_f, S_cov, c10_3, c20_6, c28_9]; done))⟩
      · skip
        refine j_iconst (v := 1) (pc := 31) hX dX6_isCover_31 (by decide) ?_
        refine j_goto (tgt := 36) (pc := 32) hX dX6_isCover_32 (by decide) ?_
        exact j_zret (pc := 36) hX hQ dX6_isCover_36 (by first | rfl | exact jb_nar _) rfl ⟨(by first | rfl | first | (simp only [jb_t, jb_f, S_cov, c10_3, c20_6, c28_9, reduceIte, eq_self, decide_true, decide_false, Bool.and_true, Bool.true_and, Bool.and_false, Bool.false_and, Bool.and_self, not_true_eq_false, not_false_eq_true, and_true, true_and, and_false, false_and, and_self]; done) | (simp [jb_t, jb_f, S_cov, c10_3, c20_6, c28_9]; done)), (by first | rfl | first | (simp only [jb_t, jb_f, S_cov, c10_3, c20_6, c28_9, reduceIte, eq_self, decide_true, decide_false, Bool.and_true, Bool.true_and, Bool.and_false, Bool.false_and, Bool.and_self, not_true_eq_false, not_false_eq_true, and_true, true_and, and_false, false_and, and_self]; done) | (simp [jb_t, jb_f, S_cov, c10_3, c20_6, c28_9]; done))⟩

set_option maxHeartbeats 4000000 in
set_option maxRecDepth 100000 in
theorem c_X6_hasSet (g : jG) (a : Nat) (a_t : Nat) (a_p : Nat) (a_m : Nat) (nd : Int32) (n : Nat) (fT : Nat → Int32) (fP : Nat → Int32) (fM : Nat → Int32) (k : Int32) (hn : n ≤ 14) : jMI g yX6_hasSet cX6_hasSet 2 .boolean 0 0 [.ref a, .int k] [(a, .inr (6, [.int nd, .int (nI n), .ref a_t, .ref a_p, .ref a_m])), (a_t, .inl (gI g, 14, .inl fT)), (a_p, .inl (gI g, 14, .inl fP)), (a_m, .inl (gI g, 14, .inl fM))] (fun rz wz => rz = jb (S_is n k) ∧ wz = [(a, .inr (6, [.int nd, .int (nI n), .ref a_t, .ref a_p, .ref a_m])), (a_t, .inl (gI g, 14, .inl fT)), (a_p, .inl (gI g, 14, .inl fP)), (a_m, .inl (gI g, 14, .inl fM))]) := by
  refine jMI.intro (by decide +kernel) (Nat.le_of_ble_eq_true rfl) (fun x hX hQ => ?_)
  refine j_lv (lv2 := [(0, .ref a), (1, .int k)]) rfl ?_
  refine j_iload_n (pc := 0) hX dX6_hasSet_0 1 rfl ?_
  refine j_if_lt (tgt := 16) (pc := 1) hX dX6_hasSet_1 (by decide) (fun c1_1 => ?_) (fun c1_1 => ?_)
  · skip
    refine j_iconst (v := 0) (pc := 16) hX dX6_hasSet_16 (by decide) ?_
    exact j_zret (pc := 17) hX hQ dX6_hasSet_17 (by first | rfl | exact jb_nar _) rfl ⟨(by first | rfl | first | (simp only [jb_t, jb_f, S_is, c1_1, reduceIte, eq_self, decide_true, decide_false, Bool.and_true, Bool.true_and, Bool.and_false, Bool.false_and, Bool.and_self, not_true_eq_false, not_false_eq_true, and_true, true_and, and_false, false_and, and_self]; done) | (simp [jb_t, jb_f, S_is, c1_1]; done)), (by first | rfl | first | (simp only [jb_t, jb_f, S_is, c1_1, reduceIte, eq_self, decide_true, decide_false, Bool.and_true, Bool.true_and, Bool.and_false, Bool.false_and, Bool.and_self, not_true_eq_false, not_false_eq_true, and_true, true_and, and_false, false_and, and_self]; done) | (simp [jb_t, jb_f, S_is, c1_1]; done))⟩
  · skip
    refine j_iload_n (pc := 4) hX dX6_hasSet_4 1 rfl ?_
    refine j_aload_n (pc := 5) hX dX6_hasSet_5 0 rfl ?_
    refine j_get (ci := 6) (pc := 6) hX inG6 rfl 1 (by decide) mw43 0 rfl rfl dX6_hasSet_6 ?_
    refine j_icmp_ge (tgt := 16) (pc := 9) hX dX6_hasSet_9 (by decide) (fun c9_2 => ?_) (fun c9_2 => ?_)
    · skip
      refine j_iconst (v := 0) (pc := 16) hX dX6_hasSet_16 (by decide) ?_
      exact j_zret (pc := 17) hX hQ dX6_hasSet_17 (by first | rfl | exact jb_nar _) rfl ⟨(by first | rfl | first | (simp only [jb_t, jb_f, S_is, c1_1, c9_2, reduceIte, eq_self, decide_true, decide_false, Bool.and_true, Bool.true_and, Bool.and_false, Bool.false_and, Bool.and_self, not_true_eq_false, not_false_eq_true, and_true, true_and, and_false, false_and, and_self]; done) | (simp [jb_t, jb_f, S_is, c1_1, c9_2]; done)), (by first | rfl | first | (simp only [jb_t, jb_f, S_is, c1_1, c9_2, reduceIte, eq_self, decide_true, decide_false, Bool.and_true, Bool.true_and, Bool.and_false, Bool.false_and, Bool.and_self, not_true_eq_false, not_false_eq_true, and_true, true_and, and_false, false_and, and_self]; done) | (simp [jb_t, jb_f, S_is, c1_1, c9_2]; done))⟩
    · skip
      refine j_iconst (v := 1) (pc := 12) hX dX6_hasSet_12 (by decide) ?_
      refine j_goto (tgt := 17) (pc := 13) hX dX6_hasSet_13 (by decide) ?_
      exact j_zret (pc := 17) hX hQ dX6_hasSet_17 (by first | rfl | exact jb_nar _) rfl ⟨(by first | rfl | first | (simp only [jb_t, jb_f, S_is, c1_1, c9_2, reduceIte, eq_self, decide_true, decide_false, Bool.and_true, Bool.true_and, Bool.and_false, Bool.false_and, Bool.and_self, not_true_eq_false, not_false_eq_true, and_true, true_and, and_false, false_and, and_self]; done) | (simp [jb_t, jb_f, S_is, c1_1, c9_2]; done)), (by first | rfl | first | (simp only [jb_t, jb_f, S_is, c1_1, c9_2, reduceIte, eq_self, decide_true, decide_false, Bool.and_true, Bool.true_and, Bool.and_false, Bool.false_and, Bool.and_self, not_true_eq_false, not_false_eq_true, and_true, true_and, and_false, false_and, and_self]; done) | (simp [jb_t, jb_f, S_is, c1_1, c9_2]; done))⟩

set_option maxHeartbeats 4000000 in
set_option maxRecDepth 100000 in
theorem c_J6_bitCount (g : jG) (u : Int32)  : jMI g yJ6_bitCount_0f7a4 cJ6_bitCount_0f7a4 1 .int 0 0 [.int u] [] (fun rz wz => rz = popC u ∧ wz = []) := by
  refine jMI.intro (by decide +kernel) (Nat.le_of_ble_eq_true rfl) (fun x hX hQ => ?_)
  refine j_lv (lv2 := [(0, .int u)]) rfl ?_
  refine j_iload_n (pc := 0) hX dJ6_bitCount_0f7a4_0 0 rfl ?_
  refine j_iload_n (pc := 1) hX dJ6_bitCount_0f7a4_1 0 rfl ?_
  refine j_iconst (v := 1) (pc := 2) hX dJ6_bitCount_0f7a4_2 (by decide) ?_
  refine j_iushr (pc := 3) hX dJ6_bitCount_0f7a4_3 ?_
  refine j_ldcw (v := 1431655765) (pc := 4) hX mw285 dJ6_bitCount_0f7a4_4 ?_
  refine j_iand (pc := 7) hX dJ6_bitCount_0f7a4_7 ?_
  refine j_isub (pc := 8) hX dJ6_bitCount_0f7a4_8 ?_
  refine j_top (b := P1 u) (rfl) ?_
  refine j_istore_n (lv2 := [(0, .int (P1 u))]) (pc := 9) hX dJ6_bitCount_0f7a4_9 [0] (by decide) rfl ?_
  refine j_iload_n (pc := 10) hX dJ6_bitCount_0f7a4_10 0 rfl ?_
  refine j_ldcw (v := 858993459) (pc := 11) hX mw286 dJ6_bitCount_0f7a4_11 ?_
  refine j_iand (pc := 14) hX dJ6_bitCount_0f7a4_14 ?_
  refine j_iload_n (pc := 15) hX dJ6_bitCount_0f7a4_15 0 rfl ?_
  refine j_iconst (v := 2) (pc := 16) hX dJ6_bitCount_0f7a4_16 (by decide) ?_
  refine j_iushr (pc := 17) hX dJ6_bitCount_0f7a4_17 ?_
  refine j_ldcw (v := 858993459) (pc := 18) hX mw286 dJ6_bitCount_0f7a4_18 ?_
  refine j_iand (pc := 21) hX dJ6_bitCount_0f7a4_21 ?_
  refine j_iadd (pc := 22) hX dJ6_bitCount_0f7a4_22 ?_
  refine j_top (b := P2 (P1 u)) (rfl) ?_
  refine j_istore_n (lv2 := [(0, .int (P2 (P1 u)))]) (pc := 23) hX dJ6_bitCount_0f7a4_23 [0] (by decide) rfl ?_
  refine j_iload_n (pc := 24) hX dJ6_bitCount_0f7a4_24 0 rfl ?_
  refine j_iload_n (pc := 25) hX dJ6_bitCount_0f7a4_25 0 rfl ?_
  refine j_iconst (v := 4) (pc := 26) hX dJ6_bitCount_0f7a4_26 (by decide) ?_
  refine j_iushr (pc := 27) hX dJ6_bitCount_0f7a4_27 ?_
  refine j_iadd (pc := 28) hX dJ6_bitCount_0f7a4_28 ?_
  refine j_ldcw (v := 252645135) (pc := 29) hX mw287 dJ6_bitCount_0f7a4_29 ?_
  refine j_iand (pc := 32) hX dJ6_bitCount_0f7a4_32 ?_
  refine j_top (b := P3 (P2 (P1 u))) (rfl) ?_
  refine j_istore_n (lv2 := [(0, .int (P3 (P2 (P1 u))))]) (pc := 33) hX dJ6_bitCount_0f7a4_33 [0] (by decide) rfl ?_
  refine j_iload_n (pc := 34) hX dJ6_bitCount_0f7a4_34 0 rfl ?_
  refine j_iload_n (pc := 35) hX dJ6_bitCount_0f7a4_35 0 rfl ?_
  refine j_bipush (v := 8) (pc := 36) hX dJ6_bitCount_0f7a4_36 (by decide) ?_
  refine j_iushr (pc := 38) hX dJ6_bitCount_0f7a4_38 ?_
  refine j_iadd (pc := 39) hX dJ6_bitCount_0f7a4_39 ?_
  refine j_top (b := P4 (P3 (P2 (P1 u)))) (rfl) ?_
  refine j_istore_n (lv2 := [(0, .int (P4 (P3 (P2 (P1 u)))))]) (pc := 40) hX dJ6_bitCount_0f7a4_40 [0] (by decide) rfl ?_
  refine j_iload_n (pc := 41) hX dJ6_bitCount_0f7a4_41 0 rfl ?_
  refine j_iload_n (pc := 42) hX dJ6_bitCount_0f7a4_42 0 rfl ?_
  refine j_bipush (v := 16) (pc := 43) hX dJ6_bitCount_0f7a4_43 (by decide) ?_
  refine j_iushr (pc := 45) hX dJ6_bitCount_0f7a4_45 ?_
  refine j_iadd (pc := 46) hX dJ6_bitCount_0f7a4_46 ?_
  refine j_top (b := P5 (P4 (P3 (P2 (P1 u))))) (rfl) ?_
  refine j_istore_n (lv2 := [(0, .int (P5 (P4 (P3 (P2 (P1 u))))))]) (pc := 47) hX dJ6_bitCount_0f7a4_47 [0] (by decide) rfl ?_
  refine j_iload_n (pc := 48) hX dJ6_bitCount_0f7a4_48 0 rfl ?_
  refine j_bipush (v := 63) (pc := 49) hX dJ6_bitCount_0f7a4_49 (by decide) ?_
  refine j_iand (pc := 51) hX dJ6_bitCount_0f7a4_51 ?_
  exact j_iret (pc := 52) hX hQ dJ6_bitCount_0f7a4_52 rfl ⟨(by first | rfl | first | (simp only [jb_t, jb_f, reduceIte, eq_self, decide_true, decide_false, Bool.and_true, Bool.true_and, Bool.and_false, Bool.false_and, Bool.and_self, not_true_eq_false, not_false_eq_true, and_true, true_and, and_false, false_and, and_self]; done) | (simp [jb_t, jb_f]; done)), (by first | rfl | first | (simp only [jb_t, jb_f, reduceIte, eq_self, decide_true, decide_false, Bool.and_true, Bool.true_and, Bool.and_false, Bool.false_and, Bool.and_self, not_true_eq_false, not_false_eq_true, and_true, true_and, and_false, false_and, and_self]; done) | (simp [jb_t, jb_f]; done))⟩

set_option maxHeartbeats 4000000 in
set_option maxRecDepth 100000 in
theorem c_J6_ntz (g : jG) (u : Int32)  : jMI g yJ6_numberOfTrailingZeros_0f7a4 cJ6_numberOfTrailingZeros_0f7a4 2 .int 0 0 [.int u] [] (fun rz wz => rz = ntzC u ∧ wz = []) := by
  refine jMI.intro (by decide +kernel) (Nat.le_of_ble_eq_true rfl) (fun x hX hQ => ?_)
  refine j_lv (lv2 := [(0, .int u)]) rfl ?_
  refine j_iload_n (pc := 0) hX dJ6_numberOfTrailingZeros_0f7a4_0 0 rfl ?_
  refine j_iconst (v := (-1)) (pc := 1) hX dJ6_numberOfTrailingZeros_0f7a4_1 (by decide) ?_
  refine j_ixor (pc := 2) hX dJ6_numberOfTrailingZeros_0f7a4_2 ?_
  refine j_iload_n (pc := 3) hX dJ6_numberOfTrailingZeros_0f7a4_3 0 rfl ?_
  refine j_iconst (v := 1) (pc := 4) hX dJ6_numberOfTrailingZeros_0f7a4_4 (by decide) ?_
  refine j_isub (pc := 5) hX dJ6_numberOfTrailingZeros_0f7a4_5 ?_
  refine j_iand (pc := 6) hX dJ6_numberOfTrailingZeros_0f7a4_6 ?_
  refine j_istore_n (lv2 := [(0, .int ((u ^^^ (-1)) &&& (u - 1)))]) (pc := 7) hX dJ6_numberOfTrailingZeros_0f7a4_7 [0] (by decide) rfl ?_
  refine j_iload_n (pc := 8) hX dJ6_numberOfTrailingZeros_0f7a4_8 0 rfl ?_
  refine j_if_gt (tgt := 17) (pc := 9) hX dJ6_numberOfTrailingZeros_0f7a4_9 (by decide) (fun c9_1 => ?_) (fun c9_1 => ?_)
  · skip
    refine j_iconst (v := 1) (pc := 17) hX dJ6_numberOfTrailingZeros_0f7a4_17 (by decide) ?_
    refine j_istore_n (lv2 := [(0, .int ((u ^^^ (-1)) &&& (u - 1))), (1, .int 1)]) (pc := 18) hX dJ6_numberOfTrailingZeros_0f7a4_18 [1, 0] (by decide) rfl ?_
    refine j_iload_n (pc := 19) hX dJ6_numberOfTrailingZeros_0f7a4_19 0 rfl ?_
    refine j_ldcw (v := 65536) (pc := 20) hX mw419 dJ6_numberOfTrailingZeros_0f7a4_20 ?_
    refine j_icmp_le (tgt := 34) (pc := 23) hX dJ6_numberOfTrailingZeros_0f7a4_23 (by decide) (fun c23_2 => ?_) (fun c23_2 => ?_)
    · skip
      refine j_iload_n (pc := 34) hX dJ6_numberOfTrailingZeros_0f7a4_34 0 rfl ?_
      refine j_sipush (v := 256) (pc := 35) hX dJ6_numberOfTrailingZeros_0f7a4_35 (by decide) ?_
      refine j_icmp_le (tgt := 49) (pc := 38) hX dJ6_numberOfTrailingZeros_0f7a4_38 (by decide) (fun c38_3 => ?_) (fun c38_3 => ?_)
      · skip
        refine j_iload_n (pc := 49) hX dJ6_numberOfTrailingZeros_0f7a4_49 0 rfl ?_
        refine j_bipush (v := 16) (pc := 50) hX dJ6_numberOfTrailingZeros_0f7a4_50 (by decide) ?_
        refine j_icmp_le (tgt := 62) (pc := 52) hX dJ6_numberOfTrailingZeros_0f7a4_52 (by decide) (fun c52_4 => ?_) (fun c52_4 => ?_)
        · skip
          refine j_iload_n (pc := 62) hX dJ6_numberOfTrailingZeros_0f7a4_62 0 rfl ?_
          refine j_iconst (v := 4) (pc := 63) hX dJ6_numberOfTrailingZeros_0f7a4_63 (by decide) ?_
          refine j_icmp_le (tgt := 74) (pc := 64) hX dJ6_numberOfTrailingZeros_0f7a4_64 (by decide) (fun c64_5 => ?_) (fun c64_5 => ?_)
          · skip
            refine j_iload_n (pc := 74) hX dJ6_numberOfTrailingZeros_0f7a4_74 1 rfl ?_
            refine j_iload_n (pc := 75) hX dJ6_numberOfTrailingZeros_0f7a4_75 0 rfl ?_
            refine j_iconst (v := 1) (pc := 76) hX dJ6_numberOfTrailingZeros_0f7a4_76 (by decide) ?_
            refine j_iushr (pc := 77) hX dJ6_numberOfTrailingZeros_0f7a4_77 ?_
            refine j_top (b := sr ((u ^^^ (-1)) &&& (u - 1)) 1) (rfl) ?_
            refine j_iadd (pc := 78) hX dJ6_numberOfTrailingZeros_0f7a4_78 ?_
            exact j_iret (pc := 79) hX hQ dJ6_numberOfTrailingZeros_0f7a4_79 rfl ⟨(by simp only [ntzC, Z0, Z1, Z2, Z3, Z4, c9_1, c23_2, c38_3, c52_4, c64_5, reduceIte] <;> rfl), (by first | rfl | first | (simp only [jb_t, jb_f, ntzC, Z0, Z1, Z2, Z3, Z4, c9_1, c23_2, c38_3, c52_4, c64_5, reduceIte, eq_self, decide_true, decide_false, Bool.and_true, Bool.true_and, Bool.and_false, Bool.false_and, Bool.and_self, not_true_eq_false, not_false_eq_true, and_true, true_and, and_false, false_and, and_self]; done) | (simp [jb_t, jb_f, ntzC, Z0, Z1, Z2, Z3, Z4, c9_1, c23_2, c38_3, c52_4, c64_5]; done))⟩
          · skip
            refine j_iinc (v := 3) (lv2 := [(0, .int ((u ^^^ (-1)) &&& (u - 1))), (1, .int 3)]) (pc := 67) hX dJ6_numberOfTrailingZeros_0f7a4_67 1 rfl (by decide) [1, 0] (by decide) rfl ?_
            refine j_iload_n (pc := 70) hX dJ6_numberOfTrailingZeros_0f7a4_70 0 rfl ?_
            refine j_iconst (v := 2) (pc := 71) hX dJ6_numberOfTrailingZeros_0f7a4_71 (by decide) ?_
            refine j_iushr (pc := 72) hX dJ6_numberOfTrailingZeros_0f7a4_72 ?_
            refine j_top (b := sr ((u ^^^ (-1)) &&& (u - 1)) 2) (rfl) ?_
            refine j_istore_n (lv2 := [(0, .int (sr ((u ^^^ (-1)) &&& (u - 1)) 2)), (1, .int 3)]) (pc := 73) hX dJ6_numberOfTrailingZeros_0f7a4_73 [0, 1] (by decide) rfl ?_
            refine j_iload_n (pc := 74) hX dJ6_numberOfTrailingZeros_0f7a4_74 1 rfl ?_
            refine j_iload_n (pc := 75) hX dJ6_numberOfTrailingZeros_0f7a4_75 0 rfl ?_
            refine j_iconst (v := 1) (pc := 76) hX dJ6_numberOfTrailingZeros_0f7a4_76 (by decide) ?_
            refine j_iushr (pc := 77) hX dJ6_numberOfTrailingZeros_0f7a4_77 ?_
            refine j_top (b := sr (sr ((u ^^^ (-1)) &&& (u - 1)) 2) 1) (rfl) ?_
            refine j_iadd (pc := 78) hX dJ6_numberOfTrailingZeros_0f7a4_78 ?_
            exact j_iret (pc := 79) hX hQ dJ6_numberOfTrailingZeros_0f7a4_79 rfl ⟨(by simp only [ntzC, Z0, Z1, Z2, Z3, Z4, c9_1, c23_2, c38_3, c52_4, c64_5, reduceIte] <;> rfl), (by first | rfl | first | (simp only [jb_t, jb_f, ntzC, Z0, Z1, Z2, Z3, Z4, c9_1, c23_2, c38_3, c52_4, c64_5, reduceIte, eq_self, decide_true, decide_false, Bool.and_true, Bool.true_and, Bool.and_false, Bool.false_and, Bool.and_self, not_true_eq_false, not_false_eq_true, and_true, true_and, and_false, false_and, and_self]; done) | (simp [jb_t, jb_f, ntzC, Z0, Z1, Z2, Z3, Z4, c9_1, c23_2, c38_3, c52_4, c64_5]; done))⟩
        · skip
          refine j_iinc (v := 5) (lv2 := [(0, .int ((u ^^^ (-1)) &&& (u - 1))), (1, .int 5)]) (pc := 55) hX dJ6_numberOfTrailingZeros_0f7a4_55 1 rfl (by decide) [1, 0] (by decide) rfl ?_
          refine j_iload_n (pc := 58) hX dJ6_numberOfTrailingZeros_0f7a4_58 0 rfl ?_
          refine j_iconst (v := 4) (pc := 59) hX dJ6_numberOfTrailingZeros_0f7a4_59 (by decide) ?_
          refine j_iushr (pc := 60) hX dJ6_numberOfTrailingZeros_0f7a4_60 ?_
          refine j_top (b := sr ((u ^^^ (-1)) &&& (u - 1)) 4) (rfl) ?_
          refine j_istore_n (lv2 := [(0, .int (sr ((u ^^^ (-1)) &&& (u - 1)) 4)), (1, .int 5)]) (pc := 61) hX dJ6_numberOfTrailingZeros_0f7a4_61 [0, 1] (by decide) rfl ?_
          refine j_iload_n (pc := 62) hX dJ6_numberOfTrailingZeros_0f7a4_62 0 rfl ?_
          refine j_iconst (v := 4) (pc := 63) hX dJ6_numberOfTrailingZeros_0f7a4_63 (by decide) ?_
          refine j_icmp_le (tgt := 74) (pc := 64) hX dJ6_numberOfTrailingZeros_0f7a4_64 (by decide) (fun c64_6 => ?_) (fun c64_6 => ?_)
          · skip
            refine j_iload_n (pc := 74) hX dJ6_numberOfTrailingZeros_0f7a4_74 1 rfl ?_
            refine j_iload_n (pc := 75) hX dJ6_numberOfTrailingZeros_0f7a4_75 0 rfl ?_
            refine j_iconst (v := 1) (pc := 76) hX dJ6_numberOfTrailingZeros_0f7a4_76 (by decide) ?_
            refine j_iushr (pc := 77) hX dJ6_numberOfTrailingZeros_0f7a4_77 ?_
            refine j_top (b := sr (sr ((u ^^^ (-1)) &&& (u - 1)) 4) 1) (rfl) ?_
            refine j_iadd (pc := 78) hX dJ6_numberOfTrailingZeros_0f7a4_78 ?_
            exact j_iret (pc := 79) hX hQ dJ6_numberOfTrailingZeros_0f7a4_79 rfl ⟨(by simp only [ntzC, Z0, Z1, Z2, Z3, Z4, c9_1, c23_2, c38_3, c52_4, c64_6, reduceIte] <;> rfl), (by first | rfl | first | (simp only [jb_t, jb_f, ntzC, Z0, Z1, Z2, Z3, Z4, c9_1, c23_2, c38_3, c52_4, c64_6, reduceIte, eq_self, decide_true, decide_false, Bool.and_true, Bool.true_and, Bool.and_false, Bool.false_and, Bool.and_self, not_true_eq_false, not_false_eq_true, and_true, true_and, and_false, false_and, and_self]; done) | (simp [jb_t, jb_f, ntzC, Z0, Z1, Z2, Z3, Z4, c9_1, c23_2, c38_3, c52_4, c64_6]; done))⟩
          · skip
            refine j_iinc (v := 7) (lv2 := [(0, .int (sr ((u ^^^ (-1)) &&& (u - 1)) 4)), (1, .int 7)]) (pc := 67) hX dJ6_numberOfTrailingZeros_0f7a4_67 1 rfl (by decide) [1, 0] (by decide) rfl ?_
            refine j_iload_n (pc := 70) hX dJ6_numberOfTrailingZeros_0f7a4_70 0 rfl ?_
            refine j_iconst (v := 2) (pc := 71) hX dJ6_numberOfTrailingZeros_0f7a4_71 (by decide) ?_
            refine j_iushr (pc := 72) hX dJ6_numberOfTrailingZeros_0f7a4_72 ?_
            refine j_top (b := sr (sr ((u ^^^ (-1)) &&& (u - 1)) 4) 2) (rfl) ?_
            refine j_istore_n (lv2 := [(0, .int (sr (sr ((u ^^^ (-1)) &&& (u - 1)) 4) 2)), (1, .int 7)]) (pc := 73) hX dJ6_numberOfTrailingZeros_0f7a4_73 [0, 1] (by decide) rfl ?_
            refine j_iload_n (pc := 74) hX dJ6_numberOfTrailingZeros_0f7a4_74 1 rfl ?_
            refine j_iload_n (pc := 75) hX dJ6_numberOfTrailingZeros_0f7a4_75 0 rfl ?_
            refine j_iconst (v := 1) (pc := 76) hX dJ6_numberOfTrailingZeros_0f7a4_76 (by decide) ?_
            refine j_iushr (pc := 77) hX dJ6_numberOfTrailingZeros_0f7a4_77 ?_
            refine j_top (b := sr (sr (sr ((u ^^^ (-1)) &&& (u - 1)) 4) 2) 1) (rfl) ?_
            refine j_iadd (pc := 78) hX dJ6_numberOfTrailingZeros_0f7a4_78 ?_
            exact j_iret (pc := 79) hX hQ dJ6_numberOfTrailingZeros_0f7a4_79 rfl ⟨(by simp only [ntzC, Z0, Z1, Z2, Z3, Z4, c9_1, c23_2, c38_3, c52_4, c64_6, reduceIte] <;> rfl), (by first | rfl | first | (simp only [jb_t, jb_f, ntzC, Z0, Z1, Z2, Z3, Z4, c9_1, c23_2, c38_3, c52_4, c64_6, reduceIte, eq_self, decide_true, decide_false, Bool.and_true, Bool.true_and, Bool.and_false, Bool.false_and, Bool.and_self, not_true_eq_false, not_false_eq_true, and_true, true_and, and_false, false_and, and_self]; done) | (simp [jb_t, jb_f, ntzC, Z0, Z1, Z2, Z3, Z4, c9_1, c23_2, c38_3, c52_4, c64_6]; done))⟩
      · skip
        refine j_iinc (v := 9) (lv2 := [(0, .int ((u ^^^ (-1)) &&& (u - 1))), (1, .int 9)]) (pc := 41) hX dJ6_numberOfTrailingZeros_0f7a4_41 1 rfl (by decide) [1, 0] (by decide) rfl ?_
        refine j_iload_n (pc := 44) hX dJ6_numberOfTrailingZeros_0f7a4_44 0 rfl ?_
        refine j_bipush (v := 8) (pc := 45) hX dJ6_numberOfTrailingZeros_0f7a4_45 (by decide) ?_
        refine j_iushr (pc := 47) hX dJ6_numberOfTrailingZeros_0f7a4_47 ?_
        refine j_top (b := sr ((u ^^^ (-1)) &&& (u - 1)) 8) (rfl) ?_
        refine j_istore_n (lv2 := [(0, .int (sr ((u ^^^ (-1)) &&& (u - 1)) 8)), (1, .int 9)]) (pc := 48) hX dJ6_numberOfTrailingZeros_0f7a4_48 [0, 1] (by decide) rfl ?_
        refine j_iload_n (pc := 49) hX dJ6_numberOfTrailingZeros_0f7a4_49 0 rfl ?_
        refine j_bipush (v := 16) (pc := 50) hX dJ6_numberOfTrailingZeros_0f7a4_50 (by decide) ?_
        refine j_icmp_le (tgt := 62) (pc := 52) hX dJ6_numberOfTrailingZeros_0f7a4_52 (by decide) (fun c52_7 => ?_) (fun c52_7 => ?_)
        · skip
          refine j_iload_n (pc := 62) hX dJ6_numberOfTrailingZeros_0f7a4_62 0 rfl ?_
          refine j_iconst (v := 4) (pc := 63) hX dJ6_numberOfTrailingZeros_0f7a4_63 (by decide) ?_
          refine j_icmp_le (tgt := 74) (pc := 64) hX dJ6_numberOfTrailingZeros_0f7a4_64 (by decide) (fun c64_8 => ?_) (fun c64_8 => ?_)
          · skip
            refine j_iload_n (pc := 74) hX dJ6_numberOfTrailingZeros_0f7a4_74 1 rfl ?_
            refine j_iload_n (pc := 75) hX dJ6_numberOfTrailingZeros_0f7a4_75 0 rfl ?_
            refine j_iconst (v := 1) (pc := 76) hX dJ6_numberOfTrailingZeros_0f7a4_76 (by decide) ?_
            refine j_iushr (pc := 77) hX dJ6_numberOfTrailingZeros_0f7a4_77 ?_
            refine j_top (b := sr (sr ((u ^^^ (-1)) &&& (u - 1)) 8) 1) (rfl) ?_
            refine j_iadd (pc := 78) hX dJ6_numberOfTrailingZeros_0f7a4_78 ?_
            exact j_iret (pc := 79) hX hQ dJ6_numberOfTrailingZeros_0f7a4_79 rfl ⟨(by simp only [ntzC, Z0, Z1, Z2, Z3, Z4, c9_1, c23_2, c38_3, c52_7, c64_8, reduceIte] <;> rfl), (by first | rfl | first | (simp only [jb_t, jb_f, ntzC, Z0, Z1, Z2, Z3, Z4, c9_1, c23_2, c38_3, c52_7, c64_8, reduceIte, eq_self, decide_true, decide_false, Bool.and_true, Bool.true_and, Bool.and_false, Bool.false_and, Bool.and_self, not_true_eq_false, not_false_eq_true, and_true, true_and, and_false, false_and, and_self]; done) | (simp [jb_t, jb_f, ntzC, Z0, Z1, Z2, Z3, Z4, c9_1, c23_2, c38_3, c52_7, c64_8]; done))⟩
          · skip
            refine j_iinc (v := 11) (lv2 := [(0, .int (sr ((u ^^^ (-1)) &&& (u - 1)) 8)), (1, .int 11)]) (pc := 67) hX dJ6_numberOfTrailingZeros_0f7a4_67 1 rfl (by decide) [1, 0] (by decide) rfl ?_
            refine j_iload_n (pc := 70) hX dJ6_numberOfTrailingZeros_0f7a4_70 0 rfl ?_
            refine j_iconst (v := 2) (pc := 71) hX dJ6_numberOfTrailingZeros_0f7a4_71 (by decide) ?_
            refine j_iushr (pc := 72) hX dJ6_numberOfTrailingZeros_0f7a4_72 ?_
            refine j_top (b := sr (sr ((u ^^^ (-1)) &&& (u - 1)) 8) 2) (rfl) ?_
            refine j_istore_n (lv2 := [(0, .int (sr (sr ((u ^^^ (-1)) &&& (u - 1)) 8) 2)), (1, .int 11)]) (pc := 73) hX dJ6_numberOfTrailingZeros_0f7a4_73 [0, 1] (by decide) rfl ?_
            refine j_iload_n (pc := 74) hX dJ6_numberOfTrailingZeros_0f7a4_74 1 rfl ?_
            refine j_iload_n (pc := 75) hX dJ6_numberOfTrailingZeros_0f7a4_75 0 rfl ?_
            refine j_iconst (v := 1) (pc := 76) hX dJ6_numberOfTrailingZeros_0f7a4_76 (by decide) ?_
            refine j_iushr (pc := 77) hX dJ6_numberOfTrailingZeros_0f7a4_77 ?_
            refine j_top (b := sr (sr (sr ((u ^^^ (-1)) &&& (u - 1)) 8) 2) 1) (rfl) ?_
            refine j_iadd (pc := 78) hX dJ6_numberOfTrailingZeros_0f7a4_78 ?_
            exact j_iret (pc := 79) hX hQ dJ6_numberOfTrailingZeros_0f7a4_79 rfl ⟨(by simp only [ntzC, Z0, Z1, Z2, Z3, Z4, c9_1, c23_2, c38_3, c52_7, c64_8, reduceIte] <;> rfl), (by first | rfl | first | (simp only [jb_t, jb_f, ntzC, Z0, Z1, Z2, Z3, Z4, c9_1, c23_2, c38_3, c52_7, c64_8, reduceIte, eq_self, decide_true, decide_false, Bool.and_true, Bool.true_and, Bool.and_false, Bool.false_and, Bool.and_self, not_true_eq_false, not_false_eq_true, and_true, true_and, and_false, false_and, and_self]; done) | (simp [jb_t, jb_f, ntzC, Z0, Z1, Z2, Z3, Z4, c9_1, c23_2, c38_3, c52_7, c64_8]; done))⟩
        · skip
          refine j_iinc (v := 13) (lv2 := [(0, .int (sr ((u ^^^ (-1)) &&& (u - 1)) 8)), (1, .int 13)]) (pc := 55) hX dJ6_numberOfTrailingZeros_0f7a4_55 1 rfl (by decide) [1, 0] (by decide) rfl ?_
          refine j_iload_n (pc := 58) hX dJ6_numberOfTrailingZeros_0f7a4_58 0 rfl ?_
          refine j_iconst (v := 4) (pc := 59) hX dJ6_numberOfTrailingZeros_0f7a4_59 (by decide) ?_
          refine j_iushr (pc := 60) hX dJ6_numberOfTrailingZeros_0f7a4_60 ?_
          refine j_top (b := sr (sr ((u ^^^ (-1)) &&& (u - 1)) 8) 4) (rfl) ?_
          refine j_istore_n (lv2 := [(0, .int (sr (sr ((u ^^^ (-1)) &&& (u - 1)) 8) 4)), (1, .int 13)]) (pc := 61) hX dJ6_numberOfTrailingZeros_0f7a4_61 [0, 1] (by decide) rfl ?_
          refine j_iload_n (pc := 62) hX dJ6_numberOfTrailingZeros_0f7a4_62 0 rfl ?_
          refine j_iconst (v := 4) (pc := 63) hX dJ6_numberOfTrailingZeros_0f7a4_63 (by decide) ?_
          refine j_icmp_le (tgt := 74) (pc := 64) hX dJ6_numberOfTrailingZeros_0f7a4_64 (by decide) (fun c64_9 => ?_) (fun c64_9 => ?_)
          · skip
            refine j_iload_n (pc := 74) hX dJ6_numberOfTrailingZeros_0f7a4_74 1 rfl ?_
            refine j_iload_n (pc := 75) hX dJ6_numberOfTrailingZeros_0f7a4_75 0 rfl ?_
            refine j_iconst (v := 1) (pc := 76) hX dJ6_numberOfTrailingZeros_0f7a4_76 (by decide) ?_
            refine j_iushr (pc := 77) hX dJ6_numberOfTrailingZeros_0f7a4_77 ?_
            refine j_top (b := sr (sr (sr ((u ^^^ (-1)) &&& (u - 1)) 8) 4) 1) (rfl) ?_
            refine j_iadd (pc := 78) hX dJ6_numberOfTrailingZeros_0f7a4_78 ?_
            exact j_iret (pc := 79) hX hQ dJ6_numberOfTrailingZeros_0f7a4_79 rfl ⟨(by simp only [ntzC, Z0, Z1, Z2, Z3, Z4, c9_1, c23_2, c38_3, c52_7, c64_9, reduceIte] <;> rfl), (by first | rfl | first | (simp only [jb_t, jb_f, ntzC, Z0, Z1, Z2, Z3, Z4, c9_1, c23_2, c38_3, c52_7, c64_9, reduceIte, eq_self, decide_true, decide_false, Bool.and_true, Bool.true_and, Bool.and_false, Bool.false_and, Bool.and_self, not_true_eq_false, not_false_eq_true, and_true, true_and, and_false, false_and, and_self]; done) | (simp [jb_t, jb_f, ntzC, Z0, Z1, Z2, Z3, Z4, c9_1, c23_2, c38_3, c52_7, c64_9]; done))⟩
          · skip
            refine j_iinc (v := 15) (lv2 := [(0, .int (sr (sr ((u ^^^ (-1)) &&& (u - 1)) 8) 4)), (1, .int 15)]) (pc := 67) hX dJ6_numberOfTrailingZeros_0f7a4_67 1 rfl (by decide) [1, 0] (by decide) rfl ?_
            refine j_iload_n (pc := 70) hX dJ6_numberOfTrailingZeros_0f7a4_70 0 rfl ?_
            refine j_iconst (v := 2) (pc := 71) hX dJ6_numberOfTrailingZeros_0f7a4_71 (by decide) ?_
            refine j_iushr (pc := 72) hX dJ6_numberOfTrailingZeros_0f7a4_72 ?_
            refine j_top (b := sr (sr (sr ((u ^^^ (-1)) &&& (u - 1)) 8) 4) 2) (rfl) ?_
            refine j_istore_n (lv2 := [(0, .int (sr (sr (sr ((u ^^^ (-1)) &&& (u - 1)) 8) 4) 2)), (1, .int 15)]) (pc := 73) hX dJ6_numberOfTrailingZeros_0f7a4_73 [0, 1] (by decide) rfl ?_
            refine j_iload_n (pc := 74) hX dJ6_numberOfTrailingZeros_0f7a4_74 1 rfl ?_
            refine j_iload_n (pc := 75) hX dJ6_numberOfTrailingZeros_0f7a4_75 0 rfl ?_
            refine j_iconst (v := 1) (pc := 76) hX dJ6_numberOfTrailingZeros_0f7a4_76 (by decide) ?_
            refine j_iushr (pc := 77) hX dJ6_numberOfTrailingZeros_0f7a4_77 ?_
            refine j_top (b := sr (sr (sr (sr ((u ^^^ (-1)) &&& (u - 1)) 8) 4) 2) 1) (rfl) ?_
            refine j_iadd (pc := 78) hX dJ6_numberOfTrailingZeros_0f7a4_78 ?_
            exact j_iret (pc := 79) hX hQ dJ6_numberOfTrailingZeros_0f7a4_79 rfl ⟨(by simp only [ntzC, Z0, Z1, Z2, Z3, Z4, c9_1, c23_2, c38_3, c52_7, c64_9, reduceIte] <;> rfl), (by first | rfl | first | (simp only [jb_t, jb_f, ntzC, Z0, Z1, Z2, Z3, Z4, c9_1, c23_2, c38_3, c52_7, c64_9, reduceIte, eq_self, decide_true, decide_false, Bool.and_true, Bool.true_and, Bool.and_false, Bool.false_and, Bool.and_self, not_true_eq_false, not_false_eq_true, and_true, true_and, and_false, false_and, and_self]; done) | (simp [jb_t, jb_f, ntzC, Z0, Z1, Z2, Z3, Z4, c9_1, c23_2, c38_3, c52_7, c64_9]; done))⟩
    · skip
      refine j_iinc (v := 17) (lv2 := [(0, .int ((u ^^^ (-1)) &&& (u - 1))), (1, .int 17)]) (pc := 26) hX dJ6_numberOfTrailingZeros_0f7a4_26 1 rfl (by decide) [1, 0] (by decide) rfl ?_
      refine j_iload_n (pc := 29) hX dJ6_numberOfTrailingZeros_0f7a4_29 0 rfl ?_
      refine j_bipush (v := 16) (pc := 30) hX dJ6_numberOfTrailingZeros_0f7a4_30 (by decide) ?_
      refine j_iushr (pc := 32) hX dJ6_numberOfTrailingZeros_0f7a4_32 ?_
      refine j_top (b := sr ((u ^^^ (-1)) &&& (u - 1)) 16) (rfl) ?_
      refine j_istore_n (lv2 := [(0, .int (sr ((u ^^^ (-1)) &&& (u - 1)) 16)), (1, .int 17)]) (pc := 33) hX dJ6_numberOfTrailingZeros_0f7a4_33 [0, 1] (by decide) rfl ?_
      refine j_iload_n (pc := 34) hX dJ6_numberOfTrailingZeros_0f7a4_34 0 rfl ?_
      refine j_sipush (v := 256) (pc := 35) hX dJ6_numberOfTrailingZeros_0f7a4_35 (by decide) ?_
      refine j_icmp_le (tgt := 49) (pc := 38) hX dJ6_numberOfTrailingZeros_0f7a4_38 (by decide) (fun c38_10 => ?_) (fun c38_10 => ?_)
      · skip
        refine j_iload_n (pc := 49) hX dJ6_numberOfTrailingZeros_0f7a4_49 0 rfl ?_
        refine j_bipush (v := 16) (pc := 50) hX dJ6_numberOfTrailingZeros_0f7a4_50 (by decide) ?_
        refine j_icmp_le (tgt := 62) (pc := 52) hX dJ6_numberOfTrailingZeros_0f7a4_52 (by decide) (fun c52_11 => ?_) (fun c52_11 => ?_)
        · skip
          refine j_iload_n (pc := 62) hX dJ6_numberOfTrailingZeros_0f7a4_62 0 rfl ?_
          refine j_iconst (v := 4) (pc := 63) hX dJ6_numberOfTrailingZeros_0f7a4_63 (by decide) ?_
          refine j_icmp_le (tgt := 74) (pc := 64) hX dJ6_numberOfTrailingZeros_0f7a4_64 (by decide) (fun c64_12 => ?_) (fun c64_12 => ?_)
          · skip
            refine j_iload_n (pc := 74) hX dJ6_numberOfTrailingZeros_0f7a4_74 1 rfl ?_
            refine j_iload_n (pc := 75) hX dJ6_numberOfTrailingZeros_0f7a4_75 0 rfl ?_
            refine j_iconst (v := 1) (pc := 76) hX dJ6_numberOfTrailingZeros_0f7a4_76 (by decide) ?_
            refine j_iushr (pc := 77) hX dJ6_numberOfTrailingZeros_0f7a4_77 ?_
            refine j_top (b := sr (sr ((u ^^^ (-1)) &&& (u - 1)) 16) 1) (rfl) ?_
            refine j_iadd (pc := 78) hX dJ6_numberOfTrailingZeros_0f7a4_78 ?_
            exact j_iret (pc := 79) hX hQ dJ6_numberOfTrailingZeros_0f7a4_79 rfl ⟨(by simp only [ntzC, Z0, Z1, Z2, Z3, Z4, c9_1, c23_2, c38_10, c52_11, c64_12, reduceIte] <;> rfl), (by first | rfl | first | (simp only [jb_t, jb_f, ntzC, Z0, Z1, Z2, Z3, Z4, c9_1, c23_2, c38_10, c52_11, c64_12, reduceIte, eq_self, decide_true, decide_false, Bool.and_true, Bool.true_and, Bool.and_false, Bool.false_and, Bool.and_self, not_true_eq_false, not_false_eq_true, and_true, true_and, and_false, false_and, and_self]; done) | (simp [jb_t, jb_f, ntzC, Z0, Z1, Z2, Z3, Z4, c9_1, c23_2, c38_10, c52_11, c64_12]; done))⟩
          · skip
            refine j_iinc (v := 19) (lv2 := [(0, .int (sr ((u ^^^ (-1)) &&& (u - 1)) 16)), (1, .int 19)]) (pc := 67) hX dJ6_numberOfTrailingZeros_0f7a4_67 1 rfl (by decide) [1, 0] (by decide) rfl ?_
            refine j_iload_n (pc := 70) hX dJ6_numberOfTrailingZeros_0f7a4_70 0 rfl ?_
            refine j_iconst (v := 2) (pc := 71) hX dJ6_numberOfTrailingZeros_0f7a4_71 (by decide) ?_
            refine j_iushr (pc := 72) hX dJ6_numberOfTrailingZeros_0f7a4_72 ?_
            refine j_top (b := sr (sr ((u ^^^ (-1)) &&& (u - 1)) 16) 2) (rfl) ?_
            refine j_istore_n (lv2 := [(0, .int (sr (sr ((u ^^^ (-1)) &&& (u - 1)) 16) 2)), (1, .int 19)]) (pc := 73) hX dJ6_numberOfTrailingZeros_0f7a4_73 [0, 1] (by decide) rfl ?_
            refine j_iload_n (pc := 74) hX dJ6_numberOfTrailingZeros_0f7a4_74 1 rfl ?_
            refine j_iload_n (pc := 75) hX dJ6_numberOfTrailingZeros_0f7a4_75 0 rfl ?_
            refine j_iconst (v := 1) (pc := 76) hX dJ6_numberOfTrailingZeros_0f7a4_76 (by decide) ?_
            refine j_iushr (pc := 77) hX dJ6_numberOfTrailingZeros_0f7a4_77 ?_
            refine j_top (b := sr (sr (sr ((u ^^^ (-1)) &&& (u - 1)) 16) 2) 1) (rfl) ?_
            refine j_iadd (pc := 78) hX dJ6_numberOfTrailingZeros_0f7a4_78 ?_
            exact j_iret (pc := 79) hX hQ dJ6_numberOfTrailingZeros_0f7a4_79 rfl ⟨(by simp only [ntzC, Z0, Z1, Z2, Z3, Z4, c9_1, c23_2, c38_10, c52_11, c64_12, reduceIte] <;> rfl), (by first | rfl | first | (simp only [jb_t, jb_f, ntzC, Z0, Z1, Z2, Z3, Z4, c9_1, c23_2, c38_10, c52_11, c64_12, reduceIte, eq_self, decide_true, decide_false, Bool.and_true, Bool.true_and, Bool.and_false, Bool.false_and, Bool.and_self, not_true_eq_false, not_false_eq_true, and_true, true_and, and_false, false_and, and_self]; done) | (simp [jb_t, jb_f, ntzC, Z0, Z1, Z2, Z3, Z4, c9_1, c23_2, c38_10, c52_11, c64_12]; done))⟩
        · skip
          refine j_iinc (v := 21) (lv2 := [(0, .int (sr ((u ^^^ (-1)) &&& (u - 1)) 16)), (1, .int 21)]) (pc := 55) hX dJ6_numberOfTrailingZeros_0f7a4_55 1 rfl (by decide) [1, 0] (by decide) rfl ?_
          refine j_iload_n (pc := 58) hX dJ6_numberOfTrailingZeros_0f7a4_58 0 rfl ?_
          refine j_iconst (v := 4) (pc := 59) hX dJ6_numberOfTrailingZeros_0f7a4_59 (by decide) ?_
          refine j_iushr (pc := 60) hX dJ6_numberOfTrailingZeros_0f7a4_60 ?_
          refine j_top (b := sr (sr ((u ^^^ (-1)) &&& (u - 1)) 16) 4) (rfl) ?_
          refine j_istore_n (lv2 := [(0, .int (sr (sr ((u ^^^ (-1)) &&& (u - 1)) 16) 4)), (1, .int 21)]) (pc := 61) hX dJ6_numberOfTrailingZeros_0f7a4_61 [0, 1] (by decide) rfl ?_
          refine j_iload_n (pc := 62) hX dJ6_numberOfTrailingZeros_0f7a4_62 0 rfl ?_
          refine j_iconst (v := 4) (pc := 63) hX dJ6_numberOfTrailingZeros_0f7a4_63 (by decide) ?_
          refine j_icmp_le (tgt := 74) (pc := 64) hX dJ6_numberOfTrailingZeros_0f7a4_64 (by decide) (fun c64_13 => ?_) (fun c64_13 => ?_)
          · skip
            refine j_iload_n (pc := 74) hX dJ6_numberOfTrailingZeros_0f7a4_74 1 rfl ?_
            refine j_iload_n (pc := 75) hX dJ6_numberOfTrailingZeros_0f7a4_75 0 rfl ?_
            refine j_iconst (v := 1) (pc := 76) hX dJ6_numberOfTrailingZeros_0f7a4_76 (by decide) ?_
            refine j_iushr (pc := 77) hX dJ6_numberOfTrailingZeros_0f7a4_77 ?_
            refine j_top (b := sr (sr (sr ((u ^^^ (-1)) &&& (u - 1)) 16) 4) 1) (rfl) ?_
            refine j_iadd (pc := 78) hX dJ6_numberOfTrailingZeros_0f7a4_78 ?_
            exact j_iret (pc := 79) hX hQ dJ6_numberOfTrailingZeros_0f7a4_79 rfl ⟨(by simp only [ntzC, Z0, Z1, Z2, Z3, Z4, c9_1, c23_2, c38_10, c52_11, c64_13, reduceIte] <;> rfl), (by first | rfl | first | (simp only [jb_t, jb_f, ntzC, Z0, Z1, Z2, Z3, Z4, c9_1, c23_2, c38_10, c52_11, c64_13, reduceIte, eq_self, decide_true, decide_false, Bool.and_true, Bool.true_and, Bool.and_false, Bool.false_and, Bool.and_self, not_true_eq_false, not_false_eq_true, and_true, true_and, and_false, false_and, and_self]; done) | (simp [jb_t, jb_f, ntzC, Z0, Z1, Z2, Z3, Z4, c9_1, c23_2, c38_10, c52_11, c64_13]; done))⟩
          · skip
            refine j_iinc (v := 23) (lv2 := [(0, .int (sr (sr ((u ^^^ (-1)) &&& (u - 1)) 16) 4)), (1, .int 23)]) (pc := 67) hX dJ6_numberOfTrailingZeros_0f7a4_67 1 rfl (by decide) [1, 0] (by decide) rfl ?_
            refine j_iload_n (pc := 70) hX dJ6_numberOfTrailingZeros_0f7a4_70 0 rfl ?_
            refine j_iconst (v := 2) (pc := 71) hX dJ6_numberOfTrailingZeros_0f7a4_71 (by decide) ?_
            refine j_iushr (pc := 72) hX dJ6_numberOfTrailingZeros_0f7a4_72 ?_
            refine j_top (b := sr (sr (sr ((u ^^^ (-1)) &&& (u - 1)) 16) 4) 2) (rfl) ?_
            refine j_istore_n (lv2 := [(0, .int (sr (sr (sr ((u ^^^ (-1)) &&& (u - 1)) 16) 4) 2)), (1, .int 23)]) (pc := 73) hX dJ6_numberOfTrailingZeros_0f7a4_73 [0, 1] (by decide) rfl ?_
            refine j_iload_n (pc := 74) hX dJ6_numberOfTrailingZeros_0f7a4_74 1 rfl ?_
            refine j_iload_n (pc := 75) hX dJ6_numberOfTrailingZeros_0f7a4_75 0 rfl ?_
            refine j_iconst (v := 1) (pc := 76) hX dJ6_numberOfTrailingZeros_0f7a4_76 (by decide) ?_
            refine j_iushr (pc := 77) hX dJ6_numberOfTrailingZeros_0f7a4_77 ?_
            refine j_top (b := sr (sr (sr (sr ((u ^^^ (-1)) &&& (u - 1)) 16) 4) 2) 1) (rfl) ?_
            refine j_iadd (pc := 78) hX dJ6_numberOfTrailingZeros_0f7a4_78 ?_
            exact j_iret (pc := 79) hX hQ dJ6_numberOfTrailingZeros_0f7a4_79 rfl ⟨(by simp only [ntzC, Z0, Z1, Z2, Z3, Z4, c9_1, c23_2, c38_10, c52_11, c64_13, reduceIte] <;> rfl), (by first | rfl | first | (simp only [jb_t, jb_f, ntzC, Z0, Z1, Z2, Z3, Z4, c9_1, c23_2, c38_10, c52_11, c64_13, reduceIte, eq_self, decide_true, decide_false, Bool.and_true, Bool.true_and, Bool.and_false, Bool.false_and, Bool.and_self, not_true_eq_false, not_false_eq_true, and_true, true_and, and_false, false_and, and_self]; done) | (simp [jb_t, jb_f, ntzC, Z0, Z1, Z2, Z3, Z4, c9_1, c23_2, c38_10, c52_11, c64_13]; done))⟩
      · skip
        refine j_iinc (v := 25) (lv2 := [(0, .int (sr ((u ^^^ (-1)) &&& (u - 1)) 16)), (1, .int 25)]) (pc := 41) hX dJ6_numberOfTrailingZeros_0f7a4_41 1 rfl (by decide) [1, 0] (by decide) rfl ?_
        refine j_iload_n (pc := 44) hX dJ6_numberOfTrailingZeros_0f7a4_44 0 rfl ?_
        refine j_bipush (v := 8) (pc := 45) hX dJ6_numberOfTrailingZeros_0f7a4_45 (by decide) ?_
        refine j_iushr (pc := 47) hX dJ6_numberOfTrailingZeros_0f7a4_47 ?_
        refine j_top (b := sr (sr ((u ^^^ (-1)) &&& (u - 1)) 16) 8) (rfl) ?_
        refine j_istore_n (lv2 := [(0, .int (sr (sr ((u ^^^ (-1)) &&& (u - 1)) 16) 8)), (1, .int 25)]) (pc := 48) hX dJ6_numberOfTrailingZeros_0f7a4_48 [0, 1] (by decide) rfl ?_
        refine j_iload_n (pc := 49) hX dJ6_numberOfTrailingZeros_0f7a4_49 0 rfl ?_
        refine j_bipush (v := 16) (pc := 50) hX dJ6_numberOfTrailingZeros_0f7a4_50 (by decide) ?_
        refine j_icmp_le (tgt := 62) (pc := 52) hX dJ6_numberOfTrailingZeros_0f7a4_52 (by decide) (fun c52_14 => ?_) (fun c52_14 => ?_)
        · skip
          refine j_iload_n (pc := 62) hX dJ6_numberOfTrailingZeros_0f7a4_62 0 rfl ?_
          refine j_iconst (v := 4) (pc := 63) hX dJ6_numberOfTrailingZeros_0f7a4_63 (by decide) ?_
          refine j_icmp_le (tgt := 74) (pc := 64) hX dJ6_numberOfTrailingZeros_0f7a4_64 (by decide) (fun c64_15 => ?_) (fun c64_15 => ?_)
          · skip
            refine j_iload_n (pc := 74) hX dJ6_numberOfTrailingZeros_0f7a4_74 1 rfl ?_
            refine j_iload_n (pc := 75) hX dJ6_numberOfTrailingZeros_0f7a4_75 0 rfl ?_
            refine j_iconst (v := 1) (pc := 76) hX dJ6_numberOfTrailingZeros_0f7a4_76 (by decide) ?_
            refine j_iushr (pc := 77) hX dJ6_numberOfTrailingZeros_0f7a4_77 ?_
            refine j_top (b := sr (sr (sr ((u ^^^ (-1)) &&& (u - 1)) 16) 8) 1) (rfl) ?_
            refine j_iadd (pc := 78) hX dJ6_numberOfTrailingZeros_0f7a4_78 ?_
            exact j_iret (pc := 79) hX hQ dJ6_numberOfTrailingZeros_0f7a4_79 rfl ⟨(by simp only [ntzC, Z0, Z1, Z2, Z3, Z4, c9_1, c23_2, c38_10, c52_14, c64_15, reduceIte] <;> rfl), (by first | rfl | first | (simp only [jb_t, jb_f, ntzC, Z0, Z1, Z2, Z3, Z4, c9_1, c23_2, c38_10, c52_14, c64_15, reduceIte, eq_self, decide_true, decide_false, Bool.and_true, Bool.true_and, Bool.and_false, Bool.false_and, Bool.and_self, not_true_eq_false, not_false_eq_true, and_true, true_and, and_false, false_and, and_self]; done) | (simp [jb_t, jb_f, ntzC, Z0, Z1, Z2, Z3, Z4, c9_1, c23_2, c38_10, c52_14, c64_15]; done))⟩
          · skip
            refine j_iinc (v := 27) (lv2 := [(0, .int (sr (sr ((u ^^^ (-1)) &&& (u - 1)) 16) 8)), (1, .int 27)]) (pc := 67) hX dJ6_numberOfTrailingZeros_0f7a4_67 1 rfl (by decide) [1, 0] (by decide) rfl ?_
            refine j_iload_n (pc := 70) hX dJ6_numberOfTrailingZeros_0f7a4_70 0 rfl ?_
            refine j_iconst (v := 2) (pc := 71) hX dJ6_numberOfTrailingZeros_0f7a4_71 (by decide) ?_
            refine j_iushr (pc := 72) hX dJ6_numberOfTrailingZeros_0f7a4_72 ?_
            refine j_top (b := sr (sr (sr ((u ^^^ (-1)) &&& (u - 1)) 16) 8) 2) (rfl) ?_
            refine j_istore_n (lv2 := [(0, .int (sr (sr (sr ((u ^^^ (-1)) &&& (u - 1)) 16) 8) 2)), (1, .int 27)]) (pc := 73) hX dJ6_numberOfTrailingZeros_0f7a4_73 [0, 1] (by decide) rfl ?_
            refine j_iload_n (pc := 74) hX dJ6_numberOfTrailingZeros_0f7a4_74 1 rfl ?_
            refine j_iload_n (pc := 75) hX dJ6_numberOfTrailingZeros_0f7a4_75 0 rfl ?_
            refine j_iconst (v := 1) (pc := 76) hX dJ6_numberOfTrailingZeros_0f7a4_76 (by decide) ?_
            refine j_iushr (pc := 77) hX dJ6_numberOfTrailingZeros_0f7a4_77 ?_
            refine j_top (b := sr (sr (sr (sr ((u ^^^ (-1)) &&& (u - 1)) 16) 8) 2) 1) (rfl) ?_
            refine j_iadd (pc := 78) hX dJ6_numberOfTrailingZeros_0f7a4_78 ?_
            exact j_iret (pc := 79) hX hQ dJ6_numberOfTrailingZeros_0f7a4_79 rfl ⟨(by simp only [ntzC, Z0, Z1, Z2, Z3, Z4, c9_1, c23_2, c38_10, c52_14, c64_15, reduceIte] <;> rfl), (by first | rfl | first | (simp only [jb_t, jb_f, ntzC, Z0, Z1, Z2, Z3, Z4, c9_1, c23_2, c38_10, c52_14, c64_15, reduceIte, eq_self, decide_true, decide_false, Bool.and_true, Bool.true_and, Bool.and_false, Bool.false_and, Bool.and_self, not_true_eq_false, not_false_eq_true, and_true, true_and, and_false, false_and, and_self]; done) | (simp [jb_t, jb_f, ntzC, Z0, Z1, Z2, Z3, Z4, c9_1, c23_2, c38_10, c52_14, c64_15]; done))⟩
        · skip
          refine j_iinc (v := 29) (lv2 := [(0, .int (sr (sr ((u ^^^ (-1)) &&& (u - 1)) 16) 8)), (1, .int 29)]) (pc := 55) hX dJ6_numberOfTrailingZeros_0f7a4_55 1 rfl (by decide) [1, 0] (by decide) rfl ?_
          refine j_iload_n (pc := 58) hX dJ6_numberOfTrailingZeros_0f7a4_58 0 rfl ?_
          refine j_iconst (v := 4) (pc := 59) hX dJ6_numberOfTrailingZeros_0f7a4_59 (by decide) ?_
          refine j_iushr (pc := 60) hX dJ6_numberOfTrailingZeros_0f7a4_60 ?_
          refine j_top (b := sr (sr (sr ((u ^^^ (-1)) &&& (u - 1)) 16) 8) 4) (rfl) ?_
          refine j_istore_n (lv2 := [(0, .int (sr (sr (sr ((u ^^^ (-1)) &&& (u - 1)) 16) 8) 4)), (1, .int 29)]) (pc := 61) hX dJ6_numberOfTrailingZeros_0f7a4_61 [0, 1] (by decide) rfl ?_
          refine j_iload_n (pc := 62) hX dJ6_numberOfTrailingZeros_0f7a4_62 0 rfl ?_
          refine j_iconst (v := 4) (pc := 63) hX dJ6_numberOfTrailingZeros_0f7a4_63 (by decide) ?_
          refine j_icmp_le (tgt := 74) (pc := 64) hX dJ6_numberOfTrailingZeros_0f7a4_64 (by decide) (fun c64_16 => ?_) (fun c64_16 => ?_)
          · skip
            refine j_iload_n (pc := 74) hX dJ6_numberOfTrailingZeros_0f7a4_74 1 rfl ?_
            refine j_iload_n (pc := 75) hX dJ6_numberOfTrailingZeros_0f7a4_75 0 rfl ?_
            refine j_iconst (v := 1) (pc := 76) hX dJ6_numberOfTrailingZeros_0f7a4_76 (by decide) ?_
            refine j_iushr (pc := 77) hX dJ6_numberOfTrailingZeros_0f7a4_77 ?_
            refine j_top (b := sr (sr (sr (sr ((u ^^^ (-1)) &&& (u - 1)) 16) 8) 4) 1) (rfl) ?_
            refine j_iadd (pc := 78) hX dJ6_numberOfTrailingZeros_0f7a4_78 ?_
            exact j_iret (pc := 79) hX hQ dJ6_numberOfTrailingZeros_0f7a4_79 rfl ⟨(by simp only [ntzC, Z0, Z1, Z2, Z3, Z4, c9_1, c23_2, c38_10, c52_14, c64_16, reduceIte] <;> rfl), (by first | rfl | first | (simp only [jb_t, jb_f, ntzC, Z0, Z1, Z2, Z3, Z4, c9_1, c23_2, c38_10, c52_14, c64_16, reduceIte, eq_self, decide_true, decide_false, Bool.and_true, Bool.true_and, Bool.and_false, Bool.false_and, Bool.and_self, not_true_eq_false, not_false_eq_true, and_true, true_and, and_false, false_and, and_self]; done) | (simp [jb_t, jb_f, ntzC, Z0, Z1, Z2, Z3, Z4, c9_1, c23_2, c38_10, c52_14, c64_16]; done))⟩
          · skip
            refine j_iinc (v := 31) (lv2 := [(0, .int (sr (sr (sr ((u ^^^ (-1)) &&& (u - 1)) 16) 8) 4)), (1, .int 31)]) (pc := 67) hX dJ6_numberOfTrailingZeros_0f7a4_67 1 rfl (by decide) [1, 0] (by decide) rfl ?_
            refine j_iload_n (pc := 70) hX dJ6_numberOfTrailingZeros_0f7a4_70 0 rfl ?_
            refine j_iconst (v := 2) (pc := 71) hX dJ6_numberOfTrailingZeros_0f7a4_71 (by decide) ?_
            refine j_iushr (pc := 72) hX dJ6_numberOfTrailingZeros_0f7a4_72 ?_
            refine j_top (b := sr (sr (sr (sr ((u ^^^ (-1)) &&& (u - 1)) 16) 8) 4) 2) (rfl) ?_
            refine j_istore_n (lv2 := [(0, .int (sr (sr (sr (sr ((u ^^^ (-1)) &&& (u - 1)) 16) 8) 4) 2)), (1, .int 31)]) (pc := 73) hX dJ6_numberOfTrailingZeros_0f7a4_73 [0, 1] (by decide) rfl ?_
            refine j_iload_n (pc := 74) hX dJ6_numberOfTrailingZeros_0f7a4_74 1 rfl ?_
            refine j_iload_n (pc := 75) hX dJ6_numberOfTrailingZeros_0f7a4_75 0 rfl ?_
            refine j_iconst (v := 1) (pc := 76) hX dJ6_numberOfTrailingZeros_0f7a4_76 (by decide) ?_
            refine j_iushr (pc := 77) hX dJ6_numberOfTrailingZeros_0f7a4_77 ?_
            refine j_top (b := sr (sr (sr (sr (sr ((u ^^^ (-1)) &&& (u - 1)) 16) 8) 4) 2) 1) (rfl) ?_
            refine j_iadd (pc := 78) hX dJ6_numberOfTrailingZeros_0f7a4_78 ?_
            exact j_iret (pc := 79) hX hQ dJ6_numberOfTrailingZeros_0f7a4_79 rfl ⟨(by simp only [ntzC, Z0, Z1, Z2, Z3, Z4, c9_1, c23_2, c38_10, c52_14, c64_16, reduceIte] <;> rfl), (by first | rfl | first | (simp only [jb_t, jb_f, ntzC, Z0, Z1, Z2, Z3, Z4, c9_1, c23_2, c38_10, c52_14, c64_16, reduceIte, eq_self, decide_true, decide_false, Bool.and_true, Bool.true_and, Bool.and_false, Bool.false_and, Bool.and_self, not_true_eq_false, not_false_eq_true, and_true, true_and, and_false, false_and, and_self]; done) | (simp [jb_t, jb_f, ntzC, Z0, Z1, Z2, Z3, Z4, c9_1, c23_2, c38_10, c52_14, c64_16]; done))⟩
  · skip
    refine j_iload_n (pc := 12) hX dJ6_numberOfTrailingZeros_0f7a4_12 0 rfl ?_
    refine j_bipush (v := 32) (pc := 13) hX dJ6_numberOfTrailingZeros_0f7a4_13 (by decide) ?_
    refine j_iand (pc := 15) hX dJ6_numberOfTrailingZeros_0f7a4_15 ?_
    exact j_iret (pc := 16) hX hQ dJ6_numberOfTrailingZeros_0f7a4_16 rfl ⟨(by first | rfl | first | (simp only [jb_t, jb_f, ntzC, Z0, Z1, Z2, Z3, Z4, c9_1, reduceIte, eq_self, decide_true, decide_false, Bool.and_true, Bool.true_and, Bool.and_false, Bool.false_and, Bool.and_self, not_true_eq_false, not_false_eq_true, and_true, true_and, and_false, false_and, and_self]; done) | (simp [jb_t, jb_f, ntzC, Z0, Z1, Z2, Z3, Z4, c9_1]; done)), (by first | rfl | first | (simp only [jb_t, jb_f, ntzC, Z0, Z1, Z2, Z3, Z4, c9_1, reduceIte, eq_self, decide_true, decide_false, Bool.and_true, Bool.true_and, Bool.and_false, Bool.false_and, Bool.and_self, not_true_eq_false, not_false_eq_true, and_true, true_and, and_false, false_and, and_self]; done) | (simp [jb_t, jb_f, ntzC, Z0, Z1, Z2, Z3, Z4, c9_1]; done))⟩

set_option maxHeartbeats 4000000 in
set_option maxRecDepth 100000 in
theorem c_X8_isPrice (g : jG) (u : Int32)  : jMI g yX8_isPrice cX8_isPrice 1 .boolean 0 0 [.int u] [] (fun rz wz => rz = jb (S_price u) ∧ wz = []) := by
  refine jMI.intro (by decide +kernel) (Nat.le_of_ble_eq_true rfl) (fun x hX hQ => ?_)
  refine j_lv (lv2 := [(0, .int u)]) rfl ?_
  refine j_iload_n (pc := 0) hX dX8_isPrice_0 0 rfl ?_
  refine j_iconst (v := 1) (pc := 1) hX dX8_isPrice_1 (by decide) ?_
  refine j_icmp_lt (tgt := 16) (pc := 2) hX dX8_isPrice_2 (by decide) (fun c2_1 => ?_) (fun c2_1 => ?_)
  · skip
    refine j_iconst (v := 0) (pc := 16) hX dX8_isPrice_16 (by decide) ?_
    exact j_zret (pc := 17) hX hQ dX8_isPrice_17 (by first | rfl | exact jb_nar _) rfl ⟨(by first | rfl | first | (simp only [jb_t, jb_f, S_price, c2_1, reduceIte, eq_self, decide_true, decide_false, Bool.and_true, Bool.true_and, Bool.and_false, Bool.false_and, Bool.and_self, not_true_eq_false, not_false_eq_true, and_true, true_and, and_false, false_and, and_self]; done) | (simp [jb_t, jb_f, S_price, c2_1]; done)), (by first | rfl | first | (simp only [jb_t, jb_f, S_price, c2_1, reduceIte, eq_self, decide_true, decide_false, Bool.and_true, Bool.true_and, Bool.and_false, Bool.false_and, Bool.and_self, not_true_eq_false, not_false_eq_true, and_true, true_and, and_false, false_and, and_self]; done) | (simp [jb_t, jb_f, S_price, c2_1]; done))⟩
  · skip
    refine j_iload_n (pc := 5) hX dX8_isPrice_5 0 rfl ?_
    refine j_sipush (v := 500) (pc := 6) hX dX8_isPrice_6 (by decide) ?_
    refine j_icmp_gt (tgt := 16) (pc := 9) hX dX8_isPrice_9 (by decide) (fun c9_2 => ?_) (fun c9_2 => ?_)
    · skip
      refine j_iconst (v := 0) (pc := 16) hX dX8_isPrice_16 (by decide) ?_
      exact j_zret (pc := 17) hX hQ dX8_isPrice_17 (by first | rfl | exact jb_nar _) rfl ⟨(by first | rfl | first | (simp only [jb_t, jb_f, S_price, c2_1, c9_2, reduceIte, eq_self, decide_true, decide_false, Bool.and_true, Bool.true_and, Bool.and_false, Bool.false_and, Bool.and_self, not_true_eq_false, not_false_eq_true, and_true, true_and, and_false, false_and, and_self]; done) | (simp [jb_t, jb_f, S_price, c2_1, c9_2]; done)), (by first | rfl | first | (simp only [jb_t, jb_f, S_price, c2_1, c9_2, reduceIte, eq_self, decide_true, decide_false, Bool.and_true, Bool.true_and, Bool.and_false, Bool.false_and, Bool.and_self, not_true_eq_false, not_false_eq_true, and_true, true_and, and_false, false_and, and_self]; done) | (simp [jb_t, jb_f, S_price, c2_1, c9_2]; done))⟩
    · skip
      refine j_iconst (v := 1) (pc := 12) hX dX8_isPrice_12 (by decide) ?_
      refine j_goto (tgt := 17) (pc := 13) hX dX8_isPrice_13 (by decide) ?_
      exact j_zret (pc := 17) hX hQ dX8_isPrice_17 (by first | rfl | exact jb_nar _) rfl ⟨(by first | rfl | first | (simp only [jb_t, jb_f, S_price, c2_1, c9_2, reduceIte, eq_self, decide_true, decide_false, Bool.and_true, Bool.true_and, Bool.and_false, Bool.false_and, Bool.and_self, not_true_eq_false, not_false_eq_true, and_true, true_and, and_false, false_and, and_self]; done) | (simp [jb_t, jb_f, S_price, c2_1, c9_2]; done)), (by first | rfl | first | (simp only [jb_t, jb_f, S_price, c2_1, c9_2, reduceIte, eq_self, decide_true, decide_false, Bool.and_true, Bool.true_and, Bool.and_false, Bool.false_and, Bool.and_self, not_true_eq_false, not_false_eq_true, and_true, true_and, and_false, false_and, and_self]; done) | (simp [jb_t, jb_f, S_price, c2_1, c9_2]; done))⟩

set_option maxHeartbeats 4000000 in
set_option maxRecDepth 100000 in
theorem c_X8_areSomeThings (g : jG) (u : Int32)  : jMI g yX8_areSomeThings cX8_areSomeThings 1 .boolean 0 0 [.int u] [] (fun rz wz => rz = jb (S_things u) ∧ wz = []) := by
  refine jMI.intro (by decide +kernel) (Nat.le_of_ble_eq_true rfl) (fun x hX hQ => ?_)
  refine j_lv (lv2 := [(0, .int u)]) rfl ?_
  refine j_iload_n (pc := 0) hX dX8_areSomeThings_0 0 rfl ?_
  refine j_iconst (v := 1) (pc := 1) hX dX8_areSomeThings_1 (by decide) ?_
  refine j_icmp_lt (tgt := 15) (pc := 2) hX dX8_areSomeThings_2 (by decide) (fun c2_1 => ?_) (fun c2_1 => ?_)
  · skip
    refine j_iconst (v := 0) (pc := 15) hX dX8_areSomeThings_15 (by decide) ?_
    exact j_zret (pc := 16) hX hQ dX8_areSomeThings_16 (by first | rfl | exact jb_nar _) rfl ⟨(by first | rfl | first | (simp only [jb_t, jb_f, S_things, c2_1, reduceIte, eq_self, decide_true, decide_false, Bool.and_true, Bool.true_and, Bool.and_false, Bool.false_and, Bool.and_self, not_true_eq_false, not_false_eq_true, and_true, true_and, and_false, false_and, and_self]; done) | (simp [jb_t, jb_f, S_things, c2_1]; done)), (by first | rfl | first | (simp only [jb_t, jb_f, S_things, c2_1, reduceIte, eq_self, decide_true, decide_false, Bool.and_true, Bool.true_and, Bool.and_false, Bool.false_and, Bool.and_self, not_true_eq_false, not_false_eq_true, and_true, true_and, and_false, false_and, and_self]; done) | (simp [jb_t, jb_f, S_things, c2_1]; done))⟩
  · skip
    refine j_iload_n (pc := 5) hX dX8_areSomeThings_5 0 rfl ?_
    refine j_ldc (v := 262143) (pc := 6) hX mw228 dX8_areSomeThings_6 ?_
    refine j_icmp_gt (tgt := 15) (pc := 8) hX dX8_areSomeThings_8 (by decide) (fun c8_2 => ?_) (fun c8_2 => ?_)
    · skip
      refine j_iconst (v := 0) (pc := 15) hX dX8_areSomeThings_15 (by decide) ?_
      exact j_zret (pc := 16) hX hQ dX8_areSomeThings_16 (by first | rfl | exact jb_nar _) rfl ⟨(by first | rfl | first | (simp only [jb_t, jb_f, S_things, c2_1, c8_2, reduceIte, eq_self, decide_true, decide_false, Bool.and_true, Bool.true_and, Bool.and_false, Bool.false_and, Bool.and_self, not_true_eq_false, not_false_eq_true, and_true, true_and, and_false, false_and, and_self]; done) | (simp [jb_t, jb_f, S_things, c2_1, c8_2]; done)), (by first | rfl | first | (simp only [jb_t, jb_f, S_things, c2_1, c8_2, reduceIte, eq_self, decide_true, decide_false, Bool.and_true, Bool.true_and, Bool.and_false, Bool.false_and, Bool.and_self, not_true_eq_false, not_false_eq_true, and_true, true_and, and_false, false_and, and_self]; done) | (simp [jb_t, jb_f, S_things, c2_1, c8_2]; done))⟩
    · skip
      refine j_iconst (v := 1) (pc := 11) hX dX8_areSomeThings_11 (by decide) ?_
      refine j_goto (tgt := 16) (pc := 12) hX dX8_areSomeThings_12 (by decide) ?_
      exact j_zret (pc := 16) hX hQ dX8_areSomeThings_16 (by first | rfl | exact jb_nar _) rfl ⟨(by first | rfl | first | (simp only [jb_t, jb_f, S_things, c2_1, c8_2, reduceIte, eq_self, decide_true, decide_false, Bool.and_true, Bool.true_and, Bool.and_false, Bool.false_and, Bool.and_self, not_true_eq_false, not_false_eq_true, and_true, true_and, and_false, false_and, and_self]; done) | (simp [jb_t, jb_f, S_things, c2_1, c8_2]; done)), (by first | rfl | first | (simp only [jb_t, jb_f, S_things, c2_1, c8_2, reduceIte, eq_self, decide_true, decide_false, Bool.and_true, Bool.true_and, Bool.and_false, Bool.false_and, Bool.and_self, not_true_eq_false, not_false_eq_true, and_true, true_and, and_false, false_and, and_self]; done) | (simp [jb_t, jb_f, S_things, c2_1, c8_2]; done))⟩

set_option maxHeartbeats 4000000 in
set_option maxRecDepth 100000 in
theorem c_J7_fill (g : jG) (a : Nat) (n : Nat) (f : Nat → Int32) (v : Int32) (hn : n ≤ 100) : jMV g yJ7_fill_53178 cJ7_fill_53178 4 0 0 0 0 [.ref a, .int v] [(a, .inl (gI g, n, .inl f))] (fun wz wzn => wz = [(a, .inl (gI g, n, .inl (S_fill v f n)))] ∧ wzn = []) := by
  refine jMV.intro (by decide +kernel) (Nat.le_of_ble_eq_true rfl) (fun x hX hQ hN => ?_)
  refine j_lv (lv2 := [(0, .ref a), (1, .int v)]) rfl ?_
  refine j_iconst (v := 0) (pc := 0) hX dJ7_fill_53178_0 (by decide) ?_
  refine j_istore_n (lv2 := [(0, .ref a), (1, .int v), (2, .int 0)]) (pc := 1) hX dJ7_fill_53178_1 [1, 2, 0] (by decide) rfl ?_
  refine j_aload_n (pc := 2) hX dJ7_fill_53178_2 0 rfl ?_
  refine j_alen (pc := 3) hX 0 rfl dJ7_fill_53178_3 ?_
  refine j_istore_n (lv2 := [(0, .ref a), (1, .int v), (2, .int 0), (3, .int (nI n))]) (pc := 4) hX dJ7_fill_53178_4 [1, 2, 3, 0] (by decide) rfl ?_
  have L5 : ∀ (d : Nat) (i : Nat), i ≤ n → n - i = d → J g x 4 0 0 5 [(0, .ref a), (1, .int v), (2, .int (nI i)), (3, .int (nI n))] [] [(a, .inl (gI g, n, .inl (S_fill v f i)))] := by
    intro d
    induction d using Nat.strongRecOn with
    | _ d ih5 =>
      intro i hi hd5
      refine j_iload_n (pc := 5) hX dJ7_fill_53178_5 2 rfl ?_
      refine j_iload_n (pc := 6) hX dJ7_fill_53178_6 3 rfl ?_
      refine j_icmp_ge (tgt := 20) (pc := 7) hX dJ7_fill_53178_7 (by decide) (fun c7_1 => ?_) (fun c7_1 => ?_)
      · skip
        have c7_1n : n ≤ i := (nI_leI (a := n) (b := i) (by omega) (by omega)).mp c7_1
        have c7_1m : ¬ i < n := by omega
        exact j_vret (pc := 20) hX hQ dJ7_fill_53178_20 [(a, .inl (gI g, n, .inl (S_fill v f i)))] [] rfl rfl ⟨(by rw [show i = n by omega]), (rfl)⟩
      · skip
        have c7_1n : ¬ n ≤ i := fun h9 => c7_1 ((nI_leI (a := n) (b := i) (by omega) (by omega)).mpr h9)
        have c7_1m : i < n := by omega
        refine j_aload_n (pc := 10) hX dJ7_fill_53178_10 0 rfl ?_
        refine j_iload_n (pc := 11) hX dJ7_fill_53178_11 2 rfl ?_
        refine j_iload_n (pc := 12) hX dJ7_fill_53178_12 1 rfl ?_
        refine j_iast (pc := 13) hX 0 rfl i rfl (by omega) (by omega) dJ7_fill_53178_13 ?_
        refine j_ws (ws2 := [(a, .inl (gI g, n, .inl (upd (S_fill v f i) i v)))]) rfl ?_
        refine j_iinc (v := nI (i + 1)) (lv2 := [(0, .ref a), (1, .int v), (2, .int (nI (i + 1))), (3, .int (nI n))]) (pc := 14) hX dJ7_fill_53178_14 2 rfl (nI_add i 1) [1, 2, 0, 3] (by decide) rfl ?_
        refine j_goto (tgt := 5) (pc := 17) hX dJ7_fill_53178_17 (by decide) ?_
        exact j_eq (lv2 := [(0, .ref a), (1, .int v), (2, .int (nI (i + 1))), (3, .int (nI n))]) (ws2 := [(a, .inl (gI g, n, .inl (S_fill v f (i + 1))))]) (by first | rfl | rw [S_fill_s]) (by first | rfl | rw [S_fill_s]) (ih5 _ (by omega) (i + 1) (by omega) rfl)
  exact j_eq (lv2 := [(0, .ref a), (1, .int v), (2, .int (nI 0)), (3, .int (nI n))]) (ws2 := [(a, .inl (gI g, n, .inl (S_fill v f 0)))]) (by first | rfl | rw [S_fill_0]) (by first | rfl | rw [S_fill_0]) (L5 _ 0 (by omega) rfl)

set_option maxHeartbeats 4000000 in
set_option maxRecDepth 100000 in
theorem c_X6_copyFrom (g : jG) (a : Nat) (a_t : Nat) (a_p : Nat) (a_m : Nat) (nd : Int32) (n : Nat) (fT : Nat → Int32) (fP : Nat → Int32) (fM : Nat → Int32) (b : Nat) (b_t : Nat) (b_p : Nat) (b_m : Nat) (nd2 : Int32) (n2 : Nat) (gT : Nat → Int32) (gP : Nat → Int32) (gM : Nat → Int32) (hn2 : n2 ≤ 14) : jMV g yX6_copyFrom cX6_copyFrom 3 0 0 0 0 [.ref a, .ref b] [(a, .inr (6, [.int nd, .int (nI n), .ref a_t, .ref a_p, .ref a_m])), (a_t, .inl (gI g, 14, .inl fT)), (a_p, .inl (gI g, 14, .inl fP)), (a_m, .inl (gI g, 14, .inl fM)), (b, .inr (6, [.int nd2, .int (nI n2), .ref b_t, .ref b_p, .ref b_m])), (b_t, .inl (gI g, 14, .inl gT)), (b_p, .inl (gI g, 14, .inl gP)), (b_m, .inl (gI g, 14, .inl gM))] (fun wz wzn => wz = [(a, .inr (6, [.int nd2, .int (nI n2), .ref a_t, .ref a_p, .ref a_m])), (a_t, .inl (gI g, 14, .inl gT)), (a_p, .inl (gI g, 14, .inl gP)), (a_m, .inl (gI g, 14, .inl gM)), (b, .inr (6, [.int nd2, .int (nI n2), .ref b_t, .ref b_p, .ref b_m])), (b_t, .inl (gI g, 14, .inl gT)), (b_p, .inl (gI g, 14, .inl gP)), (b_m, .inl (gI g, 14, .inl gM))] ∧ wzn = []) := by
  refine jMV.intro (by decide +kernel) (Nat.le_of_ble_eq_true rfl) (fun x hX hQ hN => ?_)
  refine j_lv (lv2 := [(0, .ref a), (1, .ref b)]) rfl ?_
  refine j_aload_n (pc := 0) hX dX6_copyFrom_0 0 rfl ?_
  refine j_aload_n (pc := 1) hX dX6_copyFrom_1 1 rfl ?_
  refine j_get (ci := 6) (pc := 2) hX inG6 rfl 0 (by decide) mw39 4 rfl rfl dX6_copyFrom_2 ?_
  refine j_put (ci := 6) (ty := .int) (pc := 5) hX inG6 tyX6 tyX6_ok nmG6 rfl 0 (by decide) mw39 rfl (by decide +kernel) 0 rfl (Nat.le_of_ble_eq_true rfl) (rfl) rfl dX6_copyFrom_5 ?_
  refine j_ws (ws2 := [(a, .inr (6, [.int nd2, .int (nI n), .ref a_t, .ref a_p, .ref a_m])), (a_t, .inl (gI g, 14, .inl fT)), (a_p, .inl (gI g, 14, .inl fP)), (a_m, .inl (gI g, 14, .inl fM)), (b, .inr (6, [.int nd2, .int (nI n2), .ref b_t, .ref b_p, .ref b_m])), (b_t, .inl (gI g, 14, .inl gT)), (b_p, .inl (gI g, 14, .inl gP)), (b_m, .inl (gI g, 14, .inl gM))]) rfl ?_
  refine j_aload_n (pc := 8) hX dX6_copyFrom_8 0 rfl ?_
  refine j_aload_n (pc := 9) hX dX6_copyFrom_9 1 rfl ?_
  refine j_get (ci := 6) (pc := 10) hX inG6 rfl 1 (by decide) mw43 4 rfl rfl dX6_copyFrom_10 ?_
  refine j_put (ci := 6) (ty := .int) (pc := 13) hX inG6 tyX6 tyX6_ok nmG6 rfl 1 (by decide) mw43 rfl (by decide +kernel) 0 rfl (Nat.le_of_ble_eq_true rfl) (rfl) rfl dX6_copyFrom_13 ?_
  refine j_ws (ws2 := [(a, .inr (6, [.int nd2, .int (nI n2), .ref a_t, .ref a_p, .ref a_m])), (a_t, .inl (gI g, 14, .inl fT)), (a_p, .inl (gI g, 14, .inl fP)), (a_m, .inl (gI g, 14, .inl fM)), (b, .inr (6, [.int nd2, .int (nI n2), .ref b_t, .ref b_p, .ref b_m])), (b_t, .inl (gI g, 14, .inl gT)), (b_p, .inl (gI g, 14, .inl gP)), (b_m, .inl (gI g, 14, .inl gM))]) rfl ?_
  refine j_iconst (v := 0) (pc := 16) hX dX6_copyFrom_16 (by decide) ?_
  refine j_istore_n (lv2 := [(0, .ref a), (1, .ref b), (2, .int 0)]) (pc := 17) hX dX6_copyFrom_17 [1, 2, 0] (by decide) rfl ?_
  have L18 : ∀ (d : Nat) (i : Nat), i ≤ 14 → 14 - i = d → J g x 3 0 0 18 [(0, .ref a), (1, .ref b), (2, .int (nI i))] [] [(a, .inr (6, [.int nd2, .int (nI n2), .ref a_t, .ref a_p, .ref a_m])), (a_t, .inl (gI g, 14, .inl (S_cp gT fT i))), (a_p, .inl (gI g, 14, .inl (S_cp gP fP i))), (a_m, .inl (gI g, 14, .inl (S_cp gM fM i))), (b, .inr (6, [.int nd2, .int (nI n2), .ref b_t, .ref b_p, .ref b_m])), (b_t, .inl (gI g, 14, .inl gT)), (b_p, .inl (gI g, 14, .inl gP)), (b_m, .inl (gI g, 14, .inl gM))] := by
    intro d
    induction d using Nat.strongRecOn with
    | _ d ih18 =>
      intro i hi hd18
      refine j_iload_n (pc := 18) hX dX6_copyFrom_18 2 rfl ?_
      refine j_bipush (v := 14) (pc := 19) hX dX6_copyFrom_19 (by decide) ?_
      refine j_icmp_ge (tgt := 66) (pc := 21) hX dX6_copyFrom_21 (by decide) (fun c21_1 => ?_) (fun c21_1 => ?_)
      · skip
        have c21_1n : 14 ≤ i := (nI_leI (a := 14) (b := i) (by omega) (by omega)).mp c21_1
        have c21_1m : ¬ i < 14 := by omega
        refine j_cong 1 gT rfl (fun j hj => if_pos (by omega)) ?_
        refine j_ws (ws2 := [(a, .inr (6, [.int nd2, .int (nI n2), .ref a_t, .ref a_p, .ref a_m])), (a_t, .inl (gI g, 14, .inl gT)), (a_p, .inl (gI g, 14, .inl (S_cp gP fP i))), (a_m, .inl (gI g, 14, .inl (S_cp gM fM i))), (b, .inr (6, [.int nd2, .int (nI n2), .ref b_t, .ref b_p, .ref b_m])), (b_t, .inl (gI g, 14, .inl gT)), (b_p, .inl (gI g, 14, .inl gP)), (b_m, .inl (gI g, 14, .inl gM))]) rfl ?_
        refine j_cong 2 gP rfl (fun j hj => if_pos (by omega)) ?_
        refine j_ws (ws2 := [(a, .inr (6, [.int nd2, .int (nI n2), .ref a_t, .ref a_p, .ref a_m])), (a_t, .inl (gI g, 14, .inl gT)), (a_p, .inl (gI g, 14, .inl gP)), (a_m, .inl (gI g, 14, .inl (S_cp gM fM i))), (b, .inr (6, [.int nd2, .int (nI n2), .ref b_t, .ref b_p, .ref b_m])), (b_t, .inl (gI g, 14, .inl gT)), (b_p, .inl (gI g, 14, .inl gP)), (b_m, .inl (gI g, 14, .inl gM))]) rfl ?_
        refine j_cong 3 gM rfl (fun j hj => if_pos (by omega)) ?_
        refine j_ws (ws2 := [(a, .inr (6, [.int nd2, .int (nI n2), .ref a_t, .ref a_p, .ref a_m])), (a_t, .inl (gI g, 14, .inl gT)), (a_p, .inl (gI g, 14, .inl gP)), (a_m, .inl (gI g, 14, .inl gM)), (b, .inr (6, [.int nd2, .int (nI n2), .ref b_t, .ref b_p, .ref b_m])), (b_t, .inl (gI g, 14, .inl gT)), (b_p, .inl (gI g, 14, .inl gP)), (b_m, .inl (gI g, 14, .inl gM))]) rfl ?_
        exact j_vret (pc := 66) hX hQ dX6_copyFrom_66 [(a, .inr (6, [.int nd2, .int (nI n2), .ref a_t, .ref a_p, .ref a_m])), (a_t, .inl (gI g, 14, .inl gT)), (a_p, .inl (gI g, 14, .inl gP)), (a_m, .inl (gI g, 14, .inl gM)), (b, .inr (6, [.int nd2, .int (nI n2), .ref b_t, .ref b_p, .ref b_m])), (b_t, .inl (gI g, 14, .inl gT)), (b_p, .inl (gI g, 14, .inl gP)), (b_m, .inl (gI g, 14, .inl gM))] [] rfl rfl ⟨(by first | rfl | first | (simp only [jb_t, jb_f, c21_1, c21_1n, c21_1m, reduceIte, eq_self, decide_true, decide_false, Bool.and_true, Bool.true_and, Bool.and_false, Bool.false_and, Bool.and_self, not_true_eq_false, not_false_eq_true, and_true, true_and, and_false, false_and, and_self]; done) | (simp [jb_t, jb_f, c21_1, c21_1n, c21_1m]; done)), (rfl)⟩
      · skip
        have c21_1n : ¬ 14 ≤ i := fun h9 => c21_1 ((nI_leI (a := 14) (b := i) (by omega) (by omega)).mpr h9)
        have c21_1m : i < 14 := by omega
        refine j_aload_n (pc := 24) hX dX6_copyFrom_24 0 rfl ?_
        refine j_get (ci := 6) (pc := 25) hX inG6 rfl 2 (by decide) mw48 0 rfl rfl dX6_copyFrom_25 ?_
        refine j_iload_n (pc := 28) hX dX6_copyFrom_28 2 rfl ?_
        refine j_aload_n (pc := 29) hX dX6_copyFrom_29 1 rfl ?_
        refine j_get (ci := 6) (pc := 30) hX inG6 rfl 2 (by decide) mw48 4 rfl rfl dX6_copyFrom_30 ?_
        refine j_iload_n (pc := 33) hX dX6_copyFrom_33 2 rfl ?_
        refine j_iald (pc := 34) hX 5 rfl i rfl (by omega) (by omega) dX6_copyFrom_34 ?_
        refine j_iast (pc := 35) hX 1 rfl i rfl (by omega) (by omega) dX6_copyFrom_35 ?_
        refine j_ws (ws2 := [(a, .inr (6, [.int nd2, .int (nI n2), .ref a_t, .ref a_p, .ref a_m])), (a_t, .inl (gI g, 14, .inl (upd (S_cp gT fT i) i (gT i)))), (a_p, .inl (gI g, 14, .inl (S_cp gP fP i))), (a_m, .inl (gI g, 14, .inl (S_cp gM fM i))), (b, .inr (6, [.int nd2, .int (nI n2), .ref b_t, .ref b_p, .ref b_m])), (b_t, .inl (gI g, 14, .inl gT)), (b_p, .inl (gI g, 14, .inl gP)), (b_m, .inl (gI g, 14, .inl gM))]) rfl ?_
        refine j_aload_n (pc := 36) hX dX6_copyFrom_36 0 rfl ?_
        refine j_get (ci := 6) (pc := 37) hX inG6 rfl 3 (by decide) mw53 0 rfl rfl dX6_copyFrom_37 ?_
        refine j_iload_n (pc := 40) hX dX6_copyFrom_40 2 rfl ?_
        refine j_aload_n (pc := 41) hX dX6_copyFrom_41 1 rfl ?_
        refine j_get (ci := 6) (pc := 42) hX inG6 rfl 3 (by decide) mw53 4 rfl rfl dX6_copyFrom_42 ?_
        refine j_iload_n (pc := 45) hX dX6_copyFrom_45 2 rfl ?_
        refine j_iald (pc := 46) hX 6 rfl i rfl (by omega) (by omega) dX6_copyFrom_46 ?_
        refine j_iast (pc := 47) hX 2 rfl i rfl (by omega) (by omega) dX6_copyFrom_47 ?_
        refine j_ws (ws2 := [(a, .inr (6, [.int nd2, .int (nI n2), .ref a_t, .ref a_p, .ref a_m])), (a_t, .inl (gI g, 14, .inl (upd (S_cp gT fT i) i (gT i)))), (a_p, .inl (gI g, 14, .inl (upd (S_cp gP fP i) i (gP i)))), (a_m, .inl (gI g, 14, .inl (S_cp gM fM i))), (b, .inr (6, [.int nd2, .int (nI n2), .ref b_t, .ref b_p, .ref b_m])), (b_t, .inl (gI g, 14, .inl gT)), (b_p, .inl (gI g, 14, .inl gP)), (b_m, .inl (gI g, 14, .inl gM))]) rfl ?_
        refine j_aload_n (pc := 48) hX dX6_copyFrom_48 0 rfl ?_
        refine j_get (ci := 6) (pc := 49) hX inG6 rfl 4 (by decide) mw58 0 rfl rfl dX6_copyFrom_49 ?_
        refine j_iload_n (pc := 52) hX dX6_copyFrom_52 2 rfl ?_
        refine j_aload_n (pc := 53) hX dX6_copyFrom_53 1 rfl ?_
        refine j_get (ci := 6) (pc := 54) hX inG6 rfl 4 (by decide) mw58 4 rfl rfl dX6_copyFrom_54 ?_
        refine j_iload_n (pc := 57) hX dX6_copyFrom_57 2 rfl ?_
        refine j_iald (pc := 58) hX 7 rfl i rfl (by omega) (by omega) dX6_copyFrom_58 ?_
        refine j_iast (pc := 59) hX 3 rfl i rfl (by omega) (by omega) dX6_copyFrom_59 ?_
        refine j_ws (ws2 := [(a, .inr (6, [.int nd2, .int (nI n2), .ref a_t, .ref a_p, .ref a_m])), (a_t, .inl (gI g, 14, .inl (upd (S_cp gT fT i) i (gT i)))), (a_p, .inl (gI g, 14, .inl (upd (S_cp gP fP i) i (gP i)))), (a_m, .inl (gI g, 14, .inl (upd (S_cp gM fM i) i (gM i)))), (b, .inr (6, [.int nd2, .int (nI n2), .ref b_t, .ref b_p, .ref b_m])), (b_t, .inl (gI g, 14, .inl gT)), (b_p, .inl (gI g, 14, .inl gP)), (b_m, .inl (gI g, 14, .inl gM))]) rfl ?_
        refine j_iinc (v := nI (i + 1)) (lv2 := [(0, .ref a), (1, .ref b), (2, .int (nI (i + 1)))]) (pc := 60) hX dX6_copyFrom_60 2 rfl (nI_add i 1) [1, 2, 0] (by decide) rfl ?_
        refine j_goto (tgt := 18) (pc := 63) hX dX6_copyFrom_63 (by decide) ?_
        exact j_eq (lv2 := [(0, .ref a), (1, .ref b), (2, .int (nI (i + 1)))]) (ws2 := [(a, .inr (6, [.int nd2, .int (nI n2), .ref a_t, .ref a_p, .ref a_m])), (a_t, .inl (gI g, 14, .inl (S_cp gT fT (i + 1)))), (a_p, .inl (gI g, 14, .inl (S_cp gP fP (i + 1)))), (a_m, .inl (gI g, 14, .inl (S_cp gM fM (i + 1)))), (b, .inr (6, [.int nd2, .int (nI n2), .ref b_t, .ref b_p, .ref b_m])), (b_t, .inl (gI g, 14, .inl gT)), (b_p, .inl (gI g, 14, .inl gP)), (b_m, .inl (gI g, 14, .inl gM))]) (by first | rfl | rw [S_cp_s, S_cp_s, S_cp_s]) (by first | rfl | rw [S_cp_s, S_cp_s, S_cp_s]) (ih18 _ (by omega) (i + 1) (by omega) rfl)
  exact j_eq (lv2 := [(0, .ref a), (1, .ref b), (2, .int (nI 0))]) (ws2 := [(a, .inr (6, [.int nd2, .int (nI n2), .ref a_t, .ref a_p, .ref a_m])), (a_t, .inl (gI g, 14, .inl (S_cp gT fT 0))), (a_p, .inl (gI g, 14, .inl (S_cp gP fP 0))), (a_m, .inl (gI g, 14, .inl (S_cp gM fM 0))), (b, .inr (6, [.int nd2, .int (nI n2), .ref b_t, .ref b_p, .ref b_m])), (b_t, .inl (gI g, 14, .inl gT)), (b_p, .inl (gI g, 14, .inl gP)), (b_m, .inl (gI g, 14, .inl gM))]) (by first | rfl | rw [S_cp_0, S_cp_0, S_cp_0]) (by first | rfl | rw [S_cp_0, S_cp_0, S_cp_0]) (L18 _ 0 (by omega) rfl)

set_option maxHeartbeats 4000000 in
set_option maxRecDepth 100000 in
theorem c_X6_append (g : jG) (a : Nat) (a_t : Nat) (a_p : Nat) (a_m : Nat) (nd : Int32) (n : Nat) (fT : Nat → Int32) (fP : Nat → Int32) (fM : Nat → Int32) (th : Int32) (pr : Int32) (hn : n < 14) : jMV g yX6_append cX6_append 3 0 0 0 0 [.ref a, .int th, .int pr] [(a, .inr (6, [.int nd, .int (nI n), .ref a_t, .ref a_p, .ref a_m])), (a_t, .inl (gI g, 14, .inl fT)), (a_p, .inl (gI g, 14, .inl fP)), (a_m, .inl (gI g, 14, .inl fM))] (fun wz wzn => wz = [(a, .inr (6, [.int nd, .int (nI (n + 1)), .ref a_t, .ref a_p, .ref a_m])), (a_t, .inl (gI g, 14, .inl (upd fT n th))), (a_p, .inl (gI g, 14, .inl (upd fP n pr))), (a_m, .inl (gI g, 14, .inl (upd fM n 0)))] ∧ wzn = []) := by
  refine jMV.intro (by decide +kernel) (Nat.le_of_ble_eq_true rfl) (fun x hX hQ hN => ?_)
  refine j_lv (lv2 := [(0, .ref a), (1, .int th), (2, .int pr)]) rfl ?_
  refine j_aload_n (pc := 0) hX dX6_append_0 0 rfl ?_
  refine j_get (ci := 6) (pc := 1) hX inG6 rfl 1 (by decide) mw43 0 rfl rfl dX6_append_1 ?_
  refine j_bipush (v := 14) (pc := 4) hX dX6_append_4 (by decide) ?_
  refine j_icmp_lt (tgt := 10) (pc := 6) hX dX6_append_6 (by decide) (fun c6_1 => ?_) (fun c6_1 => ?_)
  rotate_left
  · exfalso
    have c6_1n : ¬ n < 14 := fun h9 => c6_1 ((nI_ltI (a := n) (b := 14) (by omega) (by omega)).mpr h9)
    have c6_1m : 14 ≤ n := by omega
    omega
  have c6_1n : n < 14 := (nI_ltI (a := n) (b := 14) (by omega) (by omega)).mp c6_1
  have c6_1m : ¬ 14 ≤ n := by omega
  refine j_aload_n (pc := 10) hX dX6_append_10 0 rfl ?_
  refine j_get (ci := 6) (pc := 11) hX inG6 rfl 2 (by decide) mw48 0 rfl rfl dX6_append_11 ?_
  refine j_aload_n (pc := 14) hX dX6_append_14 0 rfl ?_
  refine j_get (ci := 6) (pc := 15) hX inG6 rfl 1 (by decide) mw43 0 rfl rfl dX6_append_15 ?_
  refine j_iload_n (pc := 18) hX dX6_append_18 1 rfl ?_
  refine j_iast (pc := 19) hX 1 rfl n rfl (by omega) (by omega) dX6_append_19 ?_
  refine j_ws (ws2 := [(a, .inr (6, [.int nd, .int (nI n), .ref a_t, .ref a_p, .ref a_m])), (a_t, .inl (gI g, 14, .inl (upd fT n th))), (a_p, .inl (gI g, 14, .inl fP)), (a_m, .inl (gI g, 14, .inl fM))]) rfl ?_
  refine j_aload_n (pc := 20) hX dX6_append_20 0 rfl ?_
  refine j_get (ci := 6) (pc := 21) hX inG6 rfl 3 (by decide) mw53 0 rfl rfl dX6_append_21 ?_
  refine j_aload_n (pc := 24) hX dX6_append_24 0 rfl ?_
  refine j_get (ci := 6) (pc := 25) hX inG6 rfl 1 (by decide) mw43 0 rfl rfl dX6_append_25 ?_
  refine j_iload_n (pc := 28) hX dX6_append_28 2 rfl ?_
  refine j_iast (pc := 29) hX 2 rfl n rfl (by omega) (by omega) dX6_append_29 ?_
  refine j_ws (ws2 := [(a, .inr (6, [.int nd, .int (nI n), .ref a_t, .ref a_p, .ref a_m])), (a_t, .inl (gI g, 14, .inl (upd fT n th))), (a_p, .inl (gI g, 14, .inl (upd fP n pr))), (a_m, .inl (gI g, 14, .inl fM))]) rfl ?_
  refine j_aload_n (pc := 30) hX dX6_append_30 0 rfl ?_
  refine j_get (ci := 6) (pc := 31) hX inG6 rfl 4 (by decide) mw58 0 rfl rfl dX6_append_31 ?_
  refine j_aload_n (pc := 34) hX dX6_append_34 0 rfl ?_
  refine j_get (ci := 6) (pc := 35) hX inG6 rfl 1 (by decide) mw43 0 rfl rfl dX6_append_35 ?_
  refine j_iconst (v := 0) (pc := 38) hX dX6_append_38 (by decide) ?_
  refine j_iast (pc := 39) hX 3 rfl n rfl (by omega) (by omega) dX6_append_39 ?_
  refine j_ws (ws2 := [(a, .inr (6, [.int nd, .int (nI n), .ref a_t, .ref a_p, .ref a_m])), (a_t, .inl (gI g, 14, .inl (upd fT n th))), (a_p, .inl (gI g, 14, .inl (upd fP n pr))), (a_m, .inl (gI g, 14, .inl (upd fM n 0)))]) rfl ?_
  refine j_aload_n (pc := 40) hX dX6_append_40 0 rfl ?_
  refine j_dup (pc := 41) hX dX6_append_41 rfl ?_
  refine j_get (ci := 6) (pc := 42) hX inG6 rfl 1 (by decide) mw43 0 rfl rfl dX6_append_42 ?_
  refine j_iconst (v := 1) (pc := 45) hX dX6_append_45 (by decide) ?_
  refine j_iadd (pc := 46) hX dX6_append_46 ?_
  refine j_top (b := nI (n + 1)) (nI_add n 1) ?_
  refine j_put (ci := 6) (ty := .int) (pc := 47) hX inG6 tyX6 tyX6_ok nmG6 rfl 1 (by decide) mw43 rfl (by decide +kernel) 0 rfl (Nat.le_of_ble_eq_true rfl) (rfl) rfl dX6_append_47 ?_
  refine j_ws (ws2 := [(a, .inr (6, [.int nd, .int (nI (n + 1)), .ref a_t, .ref a_p, .ref a_m])), (a_t, .inl (gI g, 14, .inl (upd fT n th))), (a_p, .inl (gI g, 14, .inl (upd fP n pr))), (a_m, .inl (gI g, 14, .inl (upd fM n 0)))]) rfl ?_
  exact j_vret (pc := 50) hX hQ dX6_append_50 [(a, .inr (6, [.int nd, .int (nI (n + 1)), .ref a_t, .ref a_p, .ref a_m])), (a_t, .inl (gI g, 14, .inl (upd fT n th))), (a_p, .inl (gI g, 14, .inl (upd fP n pr))), (a_m, .inl (gI g, 14, .inl (upd fM n 0)))] [] rfl rfl ⟨(by first | rfl | first | (simp only [jb_t, jb_f, c6_1, c6_1n, c6_1m, reduceIte, eq_self, decide_true, decide_false, Bool.and_true, Bool.true_and, Bool.and_false, Bool.false_and, Bool.and_self, not_true_eq_false, not_false_eq_true, and_true, true_and, and_false, false_and, and_self]; done) | (simp [jb_t, jb_f, c6_1, c6_1n, c6_1m]; done)), (rfl)⟩

set_option maxHeartbeats 4000000 in
set_option maxRecDepth 100000 in
theorem c_X6_remove (g : jG) (a : Nat) (a_t : Nat) (a_p : Nat) (a_m : Nat) (nd : Int32) (n : Nat) (fT : Nat → Int32) (fP : Nat → Int32) (fM : Nat → Int32) (k : Nat) (hn : n ≤ 14) (hk : k < n) : jMV g yX6_remove cX6_remove 3 0 0 0 0 [.ref a, .int (nI k)] [(a, .inr (6, [.int nd, .int (nI n), .ref a_t, .ref a_p, .ref a_m])), (a_t, .inl (gI g, 14, .inl fT)), (a_p, .inl (gI g, 14, .inl fP)), (a_m, .inl (gI g, 14, .inl fM))] (fun wz wzn => wz = [(a, .inr (6, [.int nd, .int (nI (n - 1)), .ref a_t, .ref a_p, .ref a_m])), (a_t, .inl (gI g, 14, .inl (S_rm fT k n))), (a_p, .inl (gI g, 14, .inl (S_rm fP k n))), (a_m, .inl (gI g, 14, .inl (S_rm fM k n)))] ∧ wzn = []) := by
  refine jMV.intro (by decide +kernel) (Nat.le_of_ble_eq_true rfl) (fun x hX hQ hN => ?_)
  refine j_lv (lv2 := [(0, .ref a), (1, .int (nI k))]) rfl ?_
  refine j_iload_n (pc := 0) hX dX6_remove_0 1 rfl ?_
  refine j_iconst (v := 1) (pc := 1) hX dX6_remove_1 (by decide) ?_
  refine j_iadd (pc := 2) hX dX6_remove_2 ?_
  refine j_top (b := nI (k + 1)) (nI_add k 1) ?_
  refine j_istore_n (lv2 := [(0, .ref a), (1, .int (nI k)), (2, .int (nI (k + 1)))]) (pc := 3) hX dX6_remove_3 [1, 2, 0] (by decide) rfl ?_
  have L4 : ∀ (d : Nat) (i : Nat), k < i → i ≤ n → n - i = d → J g x 3 0 0 4 [(0, .ref a), (1, .int (nI k)), (2, .int (nI i))] [] [(a, .inr (6, [.int nd, .int (nI n), .ref a_t, .ref a_p, .ref a_m])), (a_t, .inl (gI g, 14, .inl (S_rm fT k i))), (a_p, .inl (gI g, 14, .inl (S_rm fP k i))), (a_m, .inl (gI g, 14, .inl (S_rm fM k i)))] := by
    intro d
    induction d using Nat.strongRecOn with
    | _ d ih4 =>
      intro i hi0 hi hd4
      refine j_iload_n (pc := 4) hX dX6_remove_4 2 rfl ?_
      refine j_aload_n (pc := 5) hX dX6_remove_5 0 rfl ?_
      refine j_get (ci := 6) (pc := 6) hX inG6 rfl 1 (by decide) mw43 0 rfl rfl dX6_remove_6 ?_
      refine j_icmp_ge (tgt := 60) (pc := 9) hX dX6_remove_9 (by decide) (fun c9_1 => ?_) (fun c9_1 => ?_)
      · skip
        have c9_1n : n ≤ i := (nI_leI (a := n) (b := i) (by omega) (by omega)).mp c9_1
        have c9_1m : ¬ i < n := by omega
        refine j_aload_n (pc := 60) hX dX6_remove_60 0 rfl ?_
        refine j_dup (pc := 61) hX dX6_remove_61 rfl ?_
        refine j_get (ci := 6) (pc := 62) hX inG6 rfl 1 (by decide) mw43 0 rfl rfl dX6_remove_62 ?_
        refine j_iconst (v := 1) (pc := 65) hX dX6_remove_65 (by decide) ?_
        refine j_isub (pc := 66) hX dX6_remove_66 ?_
        refine j_top (b := nI (n - 1)) (pk_sub (a := n) (b := 1) (by omega)) ?_
        refine j_put (ci := 6) (ty := .int) (pc := 67) hX inG6 tyX6 tyX6_ok nmG6 rfl 1 (by decide) mw43 rfl (by decide +kernel) 0 rfl (Nat.le_of_ble_eq_true rfl) (rfl) rfl dX6_remove_67 ?_
        refine j_ws (ws2 := [(a, .inr (6, [.int nd, .int (nI (n - 1)), .ref a_t, .ref a_p, .ref a_m])), (a_t, .inl (gI g, 14, .inl (S_rm fT k i))), (a_p, .inl (gI g, 14, .inl (S_rm fP k i))), (a_m, .inl (gI g, 14, .inl (S_rm fM k i)))]) rfl ?_
        exact j_vret (pc := 70) hX hQ dX6_remove_70 [(a, .inr (6, [.int nd, .int (nI (n - 1)), .ref a_t, .ref a_p, .ref a_m])), (a_t, .inl (gI g, 14, .inl (S_rm fT k i))), (a_p, .inl (gI g, 14, .inl (S_rm fP k i))), (a_m, .inl (gI g, 14, .inl (S_rm fM k i)))] [] rfl rfl ⟨(by rw [show i = n by omega]), (rfl)⟩
      · skip
        have c9_1n : ¬ n ≤ i := fun h9 => c9_1 ((nI_leI (a := n) (b := i) (by omega) (by omega)).mpr h9)
        have c9_1m : i < n := by omega
        refine j_aload_n (pc := 12) hX dX6_remove_12 0 rfl ?_
        refine j_get (ci := 6) (pc := 13) hX inG6 rfl 2 (by decide) mw48 0 rfl rfl dX6_remove_13 ?_
        refine j_iload_n (pc := 16) hX dX6_remove_16 2 rfl ?_
        refine j_iconst (v := 1) (pc := 17) hX dX6_remove_17 (by decide) ?_
        refine j_isub (pc := 18) hX dX6_remove_18 ?_
        refine j_top (b := nI (i - 1)) (pk_sub (a := i) (b := 1) (by omega)) ?_
        refine j_aload_n (pc := 19) hX dX6_remove_19 0 rfl ?_
        refine j_get (ci := 6) (pc := 20) hX inG6 rfl 2 (by decide) mw48 0 rfl rfl dX6_remove_20 ?_
        refine j_iload_n (pc := 23) hX dX6_remove_23 2 rfl ?_
        refine j_iald (pc := 24) hX 1 rfl i rfl (by omega) (by omega) dX6_remove_24 ?_
        refine j_top (b := fT i) (S_rm_at fT k i (by omega)) ?_
        refine j_iast (pc := 25) hX 1 rfl (i - 1) rfl (by omega) (by omega) dX6_remove_25 ?_
        refine j_ws (ws2 := [(a, .inr (6, [.int nd, .int (nI n), .ref a_t, .ref a_p, .ref a_m])), (a_t, .inl (gI g, 14, .inl (upd (S_rm fT k i) (i - 1) (fT i)))), (a_p, .inl (gI g, 14, .inl (S_rm fP k i))), (a_m, .inl (gI g, 14, .inl (S_rm fM k i)))]) rfl ?_
        refine j_aload_n (pc := 26) hX dX6_remove_26 0 rfl ?_
        refine j_get (ci := 6) (pc := 27) hX inG6 rfl 3 (by decide) mw53 0 rfl rfl dX6_remove_27 ?_
        refine j_iload_n (pc := 30) hX dX6_remove_30 2 rfl ?_
        refine j_iconst (v := 1) (pc := 31) hX dX6_remove_31 (by decide) ?_
        refine j_isub (pc := 32) hX dX6_remove_32 ?_
        refine j_top (b := nI (i - 1)) (pk_sub (a := i) (b := 1) (by omega)) ?_
        refine j_aload_n (pc := 33) hX dX6_remove_33 0 rfl ?_
        refine j_get (ci := 6) (pc := 34) hX inG6 rfl 3 (by decide) mw53 0 rfl rfl dX6_remove_34 ?_
        refine j_iload_n (pc := 37) hX dX6_remove_37 2 rfl ?_
        refine j_iald (pc := 38) hX 2 rfl i rfl (by omega) (by omega) dX6_remove_38 ?_
        refine j_top (b := fP i) (S_rm_at fP k i (by omega)) ?_
        refine j_iast (pc := 39) hX 2 rfl (i - 1) rfl (by omega) (by omega) dX6_remove_39 ?_
        refine j_ws (ws2 := [(a, .inr (6, [.int nd, .int (nI n), .ref a_t, .ref a_p, .ref a_m])), (a_t, .inl (gI g, 14, .inl (upd (S_rm fT k i) (i - 1) (fT i)))), (a_p, .inl (gI g, 14, .inl (upd (S_rm fP k i) (i - 1) (fP i)))), (a_m, .inl (gI g, 14, .inl (S_rm fM k i)))]) rfl ?_
        refine j_aload_n (pc := 40) hX dX6_remove_40 0 rfl ?_
        refine j_get (ci := 6) (pc := 41) hX inG6 rfl 4 (by decide) mw58 0 rfl rfl dX6_remove_41 ?_
        refine j_iload_n (pc := 44) hX dX6_remove_44 2 rfl ?_
        refine j_iconst (v := 1) (pc := 45) hX dX6_remove_45 (by decide) ?_
        refine j_isub (pc := 46) hX dX6_remove_46 ?_
        refine j_top (b := nI (i - 1)) (pk_sub (a := i) (b := 1) (by omega)) ?_
        refine j_aload_n (pc := 47) hX dX6_remove_47 0 rfl ?_
        refine j_get (ci := 6) (pc := 48) hX inG6 rfl 4 (by decide) mw58 0 rfl rfl dX6_remove_48 ?_
        refine j_iload_n (pc := 51) hX dX6_remove_51 2 rfl ?_
        refine j_iald (pc := 52) hX 3 rfl i rfl (by omega) (by omega) dX6_remove_52 ?_
        refine j_top (b := fM i) (S_rm_at fM k i (by omega)) ?_
        refine j_iast (pc := 53) hX 3 rfl (i - 1) rfl (by omega) (by omega) dX6_remove_53 ?_
        refine j_ws (ws2 := [(a, .inr (6, [.int nd, .int (nI n), .ref a_t, .ref a_p, .ref a_m])), (a_t, .inl (gI g, 14, .inl (upd (S_rm fT k i) (i - 1) (fT i)))), (a_p, .inl (gI g, 14, .inl (upd (S_rm fP k i) (i - 1) (fP i)))), (a_m, .inl (gI g, 14, .inl (upd (S_rm fM k i) (i - 1) (fM i))))]) rfl ?_
        refine j_iinc (v := nI (i + 1)) (lv2 := [(0, .ref a), (1, .int (nI k)), (2, .int (nI (i + 1)))]) (pc := 54) hX dX6_remove_54 2 rfl (nI_add i 1) [1, 2, 0] (by decide) rfl ?_
        refine j_goto (tgt := 4) (pc := 57) hX dX6_remove_57 (by decide) ?_
        exact j_eq (lv2 := [(0, .ref a), (1, .int (nI k)), (2, .int (nI (i + 1)))]) (ws2 := [(a, .inr (6, [.int nd, .int (nI n), .ref a_t, .ref a_p, .ref a_m])), (a_t, .inl (gI g, 14, .inl (S_rm fT k (i + 1)))), (a_p, .inl (gI g, 14, .inl (S_rm fP k (i + 1)))), (a_m, .inl (gI g, 14, .inl (S_rm fM k (i + 1))))]) (by first | rfl | rw [S_rm_s fT k i (by omega), S_rm_s fP k i (by omega), S_rm_s fM k i (by omega)]) (by first | rfl | rw [S_rm_s fT k i (by omega), S_rm_s fP k i (by omega), S_rm_s fM k i (by omega)]) (ih4 _ (by omega) (i + 1) (by omega) (by omega) rfl)
  exact j_eq (lv2 := [(0, .ref a), (1, .int (nI k)), (2, .int (nI (k + 1)))]) (ws2 := [(a, .inr (6, [.int nd, .int (nI n), .ref a_t, .ref a_p, .ref a_m])), (a_t, .inl (gI g, 14, .inl (S_rm fT k (k + 1)))), (a_p, .inl (gI g, 14, .inl (S_rm fP k (k + 1)))), (a_m, .inl (gI g, 14, .inl (S_rm fM k (k + 1))))]) (by first | rfl | rw [S_rm_0, S_rm_0, S_rm_0]) (by first | rfl | rw [S_rm_0, S_rm_0, S_rm_0]) (L4 _ (k + 1) (by omega) (by omega) rfl)

set_option maxHeartbeats 4000000 in
set_option maxRecDepth 100000 in
theorem c_X6_neededAlone (g : jG) (a : Nat) (a_t : Nat) (a_p : Nat) (a_m : Nat) (nd : Int32) (n : Nat) (fT : Nat → Int32) (fP : Nat → Int32) (fM : Nat → Int32) (k : Nat) (hn : n ≤ 14) (hk : k < n) : jMI g yX6_neededAlone cX6_neededAlone 3 .int 2 44 [.ref a, .int (nI k)] [(a, .inr (6, [.int nd, .int (nI n), .ref a_t, .ref a_p, .ref a_m])), (a_t, .inl (gI g, 14, .inl fT)), (a_p, .inl (gI g, 14, .inl fP)), (a_m, .inl (gI g, 14, .inl fM))] (fun rz wz => rz = S_alone fT fM nd n k ∧ wz = [(a, .inr (6, [.int nd, .int (nI n), .ref a_t, .ref a_p, .ref a_m])), (a_t, .inl (gI g, 14, .inl fT)), (a_p, .inl (gI g, 14, .inl fP)), (a_m, .inl (gI g, 14, .inl fM))]) := by
  refine jMI.intro (by decide +kernel) (Nat.le_of_ble_eq_true rfl) (fun x hX hQ => ?_)
  refine j_lv (lv2 := [(0, .ref a), (1, .int (nI k))]) rfl ?_
  refine j_aload_n (pc := 0) hX dX6_neededAlone_0 0 rfl ?_
  refine j_callVI (n := 0) (As := []) (rest := []) (pc := 1) hX (c_X6_notBarred g a a_t a_p a_m nd n fT fP fM (by first | assumption | omega)) (CV.of mw255 mw256 mw257 mw14 mw258 ⟨rfl, by decide +kernel, by decide +kernel, by decide +kernel⟩ (T := TX6) (N := 5) rfl) (Nat.le_of_ble_eq_true rfl) (Nat.le_of_ble_eq_true rfl) (Nat.le_of_ble_eq_true rfl) (Nat.le_of_ble_eq_true rfl) 0 rfl [0, 1, 2, 3] (by decide +kernel) rfl rfl rfl (Nat.le_of_ble_eq_true rfl) dX6_neededAlone_1 (fun r1 wz hq2 => ?_)
  obtain ⟨rfl, rfl⟩ := hq2
  refine j_ws (ws2 := [(a, .inr (6, [.int nd, .int (nI n), .ref a_t, .ref a_p, .ref a_m])), (a_t, .inl (gI g, 14, .inl fT)), (a_p, .inl (gI g, 14, .inl fP)), (a_m, .inl (gI g, 14, .inl fM))]) rfl ?_
  refine j_istore_n (lv2 := [(0, .ref a), (1, .int (nI k)), (2, .int (S_nb fM n))]) (pc := 4) hX dX6_neededAlone_4 [1, 2, 0] (by decide) rfl ?_
  refine j_iload_n (pc := 5) hX dX6_neededAlone_5 2 rfl ?_
  refine j_iload_n (pc := 6) hX dX6_neededAlone_6 1 rfl ?_
  refine j_callSNI (n := 2) (As := [.int (S_nb fM n), .int (nI k)]) (rest := []) (pc := 7) hX (c_X8_has g (S_nb fM n) k (by first | assumption | omega)) ⟨⟨_, mw271⟩, mw272, mw13, mw273, ⟨by decide +kernel, by decide +kernel, by decide +kernel⟩⟩ (Nat.le_of_ble_eq_true rfl) (Nat.le_of_ble_eq_true rfl) (Nat.le_of_ble_eq_true rfl) (Nat.le_of_ble_eq_true rfl) [] (by decide +kernel) rfl rfl rfl (Nat.le_of_ble_eq_true rfl) dX6_neededAlone_7 (fun r3 wz hq4 => ?_)
  obtain ⟨rfl, rfl⟩ := hq4
  refine j_ws (ws2 := [(a, .inr (6, [.int nd, .int (nI n), .ref a_t, .ref a_p, .ref a_m])), (a_t, .inl (gI g, 14, .inl fT)), (a_p, .inl (gI g, 14, .inl fP)), (a_m, .inl (gI g, 14, .inl fM))]) rfl ?_
  refine j_if_ne (tgt := 15) (pc := 10) hX dX6_neededAlone_10 (by decide) (fun c10_5 => ?_) (fun c10_5 => ?_)
  · skip
    have c10_5b : (bt (S_nb fM n) k) = true := jb_1.mp c10_5
    refine j_aload_n (pc := 15) hX dX6_neededAlone_15 0 rfl ?_
    refine j_get (ci := 6) (pc := 16) hX inG6 rfl 0 (by decide) mw39 0 rfl rfl dX6_neededAlone_16 ?_
    refine j_aload_n (pc := 19) hX dX6_neededAlone_19 0 rfl ?_
    refine j_get (ci := 6) (pc := 20) hX inG6 rfl 2 (by decide) mw48 0 rfl rfl dX6_neededAlone_20 ?_
    refine j_iload_n (pc := 23) hX dX6_neededAlone_23 1 rfl ?_
    refine j_iald (pc := 24) hX 1 rfl k rfl (by omega) (by omega) dX6_neededAlone_24 ?_
    refine j_iand (pc := 25) hX dX6_neededAlone_25 ?_
    refine j_aload_n (pc := 26) hX dX6_neededAlone_26 0 rfl ?_
    refine j_iload_n (pc := 27) hX dX6_neededAlone_27 2 rfl ?_
    refine j_iconst (v := 1) (pc := 28) hX dX6_neededAlone_28 (by decide) ?_
    refine j_iload_n (pc := 29) hX dX6_neededAlone_29 1 rfl ?_
    refine j_ishl (pc := 30) hX dX6_neededAlone_30 ?_
    refine j_top (b := bI k) rfl ?_
    refine j_iconst (v := (-1)) (pc := 31) hX dX6_neededAlone_31 (by decide) ?_
    refine j_ixor (pc := 32) hX dX6_neededAlone_32 ?_
    refine j_iand (pc := 33) hX dX6_neededAlone_33 ?_
    refine j_callVI (n := 1) (As := [.int ((S_nb fM n) &&& ((bI k) ^^^ (-1)))]) (rest := [.int (nd &&& (fT k))]) (pc := 34) hX (c_X6_thingsOf g a a_t a_p a_m nd n fT fP fM ((S_nb fM n) &&& ((bI k) ^^^ (-1))) (by first | assumption | omega)) (CV.of mw267 mw268 mw269 mw14 mw270 ⟨rfl, by decide +kernel, by decide +kernel, by decide +kernel⟩ (T := TX6) (N := 5) rfl) (Nat.le_of_ble_eq_true rfl) (Nat.le_of_ble_eq_true rfl) (Nat.le_of_ble_eq_true rfl) (Nat.le_of_ble_eq_true rfl) 0 rfl [0, 1, 2, 3] (by decide +kernel) rfl rfl rfl (Nat.le_of_ble_eq_true rfl) dX6_neededAlone_34 (fun r6 wz hq7 => ?_)
    obtain ⟨rfl, rfl⟩ := hq7
    refine j_ws (ws2 := [(a, .inr (6, [.int nd, .int (nI n), .ref a_t, .ref a_p, .ref a_m])), (a_t, .inl (gI g, 14, .inl fT)), (a_p, .inl (gI g, 14, .inl fP)), (a_m, .inl (gI g, 14, .inl fM))]) rfl ?_
    refine j_iconst (v := (-1)) (pc := 37) hX dX6_neededAlone_37 (by decide) ?_
    refine j_ixor (pc := 38) hX dX6_neededAlone_38 ?_
    refine j_iand (pc := 39) hX dX6_neededAlone_39 ?_
    exact j_iret (pc := 40) hX hQ dX6_neededAlone_40 rfl ⟨(by first | rfl | first | (simp only [jb_t, jb_f, S_alone, S_miss, c10_5, c10_5b, reduceIte, eq_self, decide_true, decide_false, Bool.and_true, Bool.true_and, Bool.and_false, Bool.false_and, Bool.and_self, not_true_eq_false, not_false_eq_true, and_true, true_and, and_false, false_and, and_self]; done) | (simp [jb_t, jb_f, S_alone, S_miss, c10_5, c10_5b]; done)), (by first | rfl | first | (simp only [jb_t, jb_f, S_alone, S_miss, c10_5, c10_5b, reduceIte, eq_self, decide_true, decide_false, Bool.and_true, Bool.true_and, Bool.and_false, Bool.false_and, Bool.and_self, not_true_eq_false, not_false_eq_true, and_true, true_and, and_false, false_and, and_self]; done) | (simp [jb_t, jb_f, S_alone, S_miss, c10_5, c10_5b]; done))⟩
  · skip
    have c10_5b : (bt (S_nb fM n) k) = false := jb_0.mp c10_5
    refine j_iconst (v := 0) (pc := 13) hX dX6_neededAlone_13 (by decide) ?_
    exact j_iret (pc := 14) hX hQ dX6_neededAlone_14 rfl ⟨(by first | rfl | first | (simp only [jb_t, jb_f, S_alone, S_miss, c10_5, c10_5b, reduceIte, eq_self, decide_true, decide_false, Bool.and_true, Bool.true_and, Bool.and_false, Bool.false_and, Bool.and_self, not_true_eq_false, not_false_eq_true, and_true, true_and, and_false, false_and, and_self]; done) | (simp [jb_t, jb_f, S_alone, S_miss, c10_5, c10_5b]; done)), (by first | rfl | first | (simp only [jb_t, jb_f, S_alone, S_miss, c10_5, c10_5b, reduceIte, eq_self, decide_true, decide_false, Bool.and_true, Bool.true_and, Bool.and_false, Bool.false_and, Bool.and_self, not_true_eq_false, not_false_eq_true, and_true, true_and, and_false, false_and, and_self]; done) | (simp [jb_t, jb_f, S_alone, S_miss, c10_5, c10_5b]; done))⟩

set_option maxHeartbeats 4000000 in
set_option maxRecDepth 100000 in
theorem c_X6_most (g : jG) (a : Nat) (a_t : Nat) (a_p : Nat) (a_m : Nat) (nd : Int32) (n : Nat) (fT : Nat → Int32) (fP : Nat → Int32) (fM : Nat → Int32) (hn : n ≤ 14) : jMI g yX6_mostSetsWithOneThing cX6_mostSetsWithOneThing 4 .int 2 44 [.ref a] [(a, .inr (6, [.int nd, .int (nI n), .ref a_t, .ref a_p, .ref a_m])), (a_t, .inl (gI g, 14, .inl fT)), (a_p, .inl (gI g, 14, .inl fP)), (a_m, .inl (gI g, 14, .inl fM))] (fun rz wz => rz = S_most fT fM nd n 18 ∧ wz = [(a, .inr (6, [.int nd, .int (nI n), .ref a_t, .ref a_p, .ref a_m])), (a_t, .inl (gI g, 14, .inl fT)), (a_p, .inl (gI g, 14, .inl fP)), (a_m, .inl (gI g, 14, .inl fM))]) := by
  refine jMI.intro (by decide +kernel) (Nat.le_of_ble_eq_true rfl) (fun x hX hQ => ?_)
  refine j_lv (lv2 := [(0, .ref a)]) rfl ?_
  refine j_aload_n (pc := 0) hX dX6_mostSetsWithOneThing_0 0 rfl ?_
  refine j_callVI (n := 0) (As := []) (rest := []) (pc := 1) hX (c_X6_notBarred g a a_t a_p a_m nd n fT fP fM (by first | assumption | omega)) (CV.of mw255 mw256 mw257 mw14 mw258 ⟨rfl, by decide +kernel, by decide +kernel, by decide +kernel⟩ (T := TX6) (N := 5) rfl) (Nat.le_of_ble_eq_true rfl) (Nat.le_of_ble_eq_true rfl) (Nat.le_of_ble_eq_true rfl) (Nat.le_of_ble_eq_true rfl) 0 rfl [0, 1, 2, 3] (by decide +kernel) rfl rfl rfl (Nat.le_of_ble_eq_true rfl) dX6_mostSetsWithOneThing_1 (fun r1 wz hq2 => ?_)
  obtain ⟨rfl, rfl⟩ := hq2
  refine j_ws (ws2 := [(a, .inr (6, [.int nd, .int (nI n), .ref a_t, .ref a_p, .ref a_m])), (a_t, .inl (gI g, 14, .inl fT)), (a_p, .inl (gI g, 14, .inl fP)), (a_m, .inl (gI g, 14, .inl fM))]) rfl ?_
  refine j_istore_n (lv2 := [(0, .ref a), (1, .int (S_nb fM n))]) (pc := 4) hX dX6_mostSetsWithOneThing_4 [1, 0] (by decide) rfl ?_
  refine j_iconst (v := 0) (pc := 5) hX dX6_mostSetsWithOneThing_5 (by decide) ?_
  refine j_istore_n (lv2 := [(0, .ref a), (1, .int (S_nb fM n)), (2, .int 0)]) (pc := 6) hX dX6_mostSetsWithOneThing_6 [1, 2, 0] (by decide) rfl ?_
  refine j_iconst (v := 0) (pc := 7) hX dX6_mostSetsWithOneThing_7 (by decide) ?_
  refine j_istore_n (lv2 := [(0, .ref a), (1, .int (S_nb fM n)), (2, .int 0), (3, .int 0)]) (pc := 8) hX dX6_mostSetsWithOneThing_8 [1, 2, 3, 0] (by decide) rfl ?_
  have L9 : ∀ (d : Nat) (t : Nat), t ≤ 18 → 18 - t = d → J g x 4 0 0 9 [(0, .ref a), (1, .int (S_nb fM n)), (2, .int (S_most fT fM nd n t)), (3, .int (nI t))] [] [(a, .inr (6, [.int nd, .int (nI n), .ref a_t, .ref a_p, .ref a_m])), (a_t, .inl (gI g, 14, .inl fT)), (a_p, .inl (gI g, 14, .inl fP)), (a_m, .inl (gI g, 14, .inl fM))] := by
    intro d
    induction d using Nat.strongRecOn with
    | _ d ih9 =>
      intro t ht hd9
      refine j_iload_n (pc := 9) hX dX6_mostSetsWithOneThing_9 3 rfl ?_
      refine j_bipush (v := 18) (pc := 10) hX dX6_mostSetsWithOneThing_10 (by decide) ?_
      refine j_icmp_ge (tgt := 47) (pc := 12) hX dX6_mostSetsWithOneThing_12 (by decide) (fun c12_3 => ?_) (fun c12_3 => ?_)
      · skip
        have c12_3n : 18 ≤ t := (nI_leI (a := 18) (b := t) (by omega) (by omega)).mp c12_3
        have c12_3m : ¬ t < 18 := by omega
        refine j_iload_n (pc := 47) hX dX6_mostSetsWithOneThing_47 2 rfl ?_
        exact j_iret (pc := 48) hX hQ dX6_mostSetsWithOneThing_48 rfl ⟨(by rw [show t = 18 by omega]), (by first | rfl | first | (simp only [jb_t, jb_f, S_most, c12_3, c12_3n, c12_3m, reduceIte, eq_self, decide_true, decide_false, Bool.and_true, Bool.true_and, Bool.and_false, Bool.false_and, Bool.and_self, not_true_eq_false, not_false_eq_true, and_true, true_and, and_false, false_and, and_self]; done) | (simp [jb_t, jb_f, S_most, c12_3, c12_3n, c12_3m]; done))⟩
      · skip
        have c12_3n : ¬ 18 ≤ t := fun h9 => c12_3 ((nI_leI (a := 18) (b := t) (by omega) (by omega)).mpr h9)
        have c12_3m : t < 18 := by omega
        refine j_aload_n (pc := 15) hX dX6_mostSetsWithOneThing_15 0 rfl ?_
        refine j_get (ci := 6) (pc := 16) hX inG6 rfl 0 (by decide) mw39 0 rfl rfl dX6_mostSetsWithOneThing_16 ?_
        refine j_iload_n (pc := 19) hX dX6_mostSetsWithOneThing_19 3 rfl ?_
        refine j_callSNI (n := 2) (As := [.int nd, .int (nI t)]) (rest := []) (pc := 20) hX (c_X8_has g nd t (by first | assumption | omega)) ⟨⟨_, mw271⟩, mw272, mw13, mw273, ⟨by decide +kernel, by decide +kernel, by decide +kernel⟩⟩ (Nat.le_of_ble_eq_true rfl) (Nat.le_of_ble_eq_true rfl) (Nat.le_of_ble_eq_true rfl) (Nat.le_of_ble_eq_true rfl) [] (by decide +kernel) rfl rfl rfl (Nat.le_of_ble_eq_true rfl) dX6_mostSetsWithOneThing_20 (fun r4 wz hq5 => ?_)
        obtain ⟨rfl, rfl⟩ := hq5
        refine j_ws (ws2 := [(a, .inr (6, [.int nd, .int (nI n), .ref a_t, .ref a_p, .ref a_m])), (a_t, .inl (gI g, 14, .inl fT)), (a_p, .inl (gI g, 14, .inl fP)), (a_m, .inl (gI g, 14, .inl fM))]) rfl ?_
        refine j_if_eq (tgt := 41) (pc := 23) hX dX6_mostSetsWithOneThing_23 (by decide) (fun c23_6 => ?_) (fun c23_6 => ?_)
        · skip
          have c23_6b : (bt nd t) = false := jb_0.mp c23_6
          refine j_iinc (v := nI (t + 1)) (lv2 := [(0, .ref a), (1, .int (S_nb fM n)), (2, .int (S_most fT fM nd n t)), (3, .int (nI (t + 1)))]) (pc := 41) hX dX6_mostSetsWithOneThing_41 3 rfl (nI_add t 1) [1, 2, 3, 0] (by decide) rfl ?_
          refine j_goto (tgt := 9) (pc := 44) hX dX6_mostSetsWithOneThing_44 (by decide) ?_
          exact j_eq (lv2 := [(0, .ref a), (1, .int (S_nb fM n)), (2, .int (S_most fT fM nd n (t + 1))), (3, .int (nI (t + 1)))]) (ws2 := [(a, .inr (6, [.int nd, .int (nI n), .ref a_t, .ref a_p, .ref a_m])), (a_t, .inl (gI g, 14, .inl fT)), (a_p, .inl (gI g, 14, .inl fP)), (a_m, .inl (gI g, 14, .inl fM))]) (by first | rfl | first | (simp only [jb_t, jb_f, S_most, c12_3, c12_3n, c12_3m, c23_6, c23_6b, reduceIte, eq_self, decide_true, decide_false, Bool.and_true, Bool.true_and, Bool.and_false, Bool.false_and, Bool.and_self, not_true_eq_false, not_false_eq_true, and_true, true_and, and_false, false_and, and_self]; done) | (simp [jb_t, jb_f, S_most, c12_3, c12_3n, c12_3m, c23_6, c23_6b]; done)) (by first | rfl | first | (simp only [jb_t, jb_f, S_most, c12_3, c12_3n, c12_3m, c23_6, c23_6b, reduceIte, eq_self, decide_true, decide_false, Bool.and_true, Bool.true_and, Bool.and_false, Bool.false_and, Bool.and_self, not_true_eq_false, not_false_eq_true, and_true, true_and, and_false, false_and, and_self]; done) | (simp [jb_t, jb_f, S_most, c12_3, c12_3n, c12_3m, c23_6, c23_6b]; done)) (ih9 _ (by omega) (t + 1) (by omega) rfl)
        · skip
          have c23_6b : (bt nd t) = true := jb_1.mp c23_6
          refine j_iload_n (pc := 26) hX dX6_mostSetsWithOneThing_26 2 rfl ?_
          refine j_aload_n (pc := 27) hX dX6_mostSetsWithOneThing_27 0 rfl ?_
          refine j_iload_n (pc := 28) hX dX6_mostSetsWithOneThing_28 3 rfl ?_
          refine j_callVI (n := 1) (As := [.int (nI t)]) (rest := [.int (S_most fT fM nd n t)]) (pc := 29) hX (c_X6_setsWith g a a_t a_p a_m nd n fT fP fM t (by first | assumption | omega) (by first | assumption | omega)) (CV.of mw278 mw279 mw280 mw14 mw281 ⟨rfl, by decide +kernel, by decide +kernel, by decide +kernel⟩ (T := TX6) (N := 5) rfl) (Nat.le_of_ble_eq_true rfl) (Nat.le_of_ble_eq_true rfl) (Nat.le_of_ble_eq_true rfl) (Nat.le_of_ble_eq_true rfl) 0 rfl [0, 1, 2, 3] (by decide +kernel) rfl rfl rfl (Nat.le_of_ble_eq_true rfl) dX6_mostSetsWithOneThing_29 (fun r7 wz hq8 => ?_)
          obtain ⟨rfl, rfl⟩ := hq8
          refine j_ws (ws2 := [(a, .inr (6, [.int nd, .int (nI n), .ref a_t, .ref a_p, .ref a_m])), (a_t, .inl (gI g, 14, .inl fT)), (a_p, .inl (gI g, 14, .inl fP)), (a_m, .inl (gI g, 14, .inl fM))]) rfl ?_
          refine j_iload_n (pc := 32) hX dX6_mostSetsWithOneThing_32 1 rfl ?_
          refine j_iand (pc := 33) hX dX6_mostSetsWithOneThing_33 ?_
          refine j_callSI (n := 1) (As := [.int ((S_sw fT t n) &&& (S_nb fM n))]) (rest := [.int (S_most fT fM nd n t)]) (pc := 34) hX (c_J6_bitCount g ((S_sw fT t n) &&& (S_nb fM n)) ) (CS.of mw282 mw283 mw22 mw284 ⟨by decide +kernel, by decide +kernel, by decide +kernel⟩) (Nat.le_of_ble_eq_true rfl) (Nat.le_of_ble_eq_true rfl) (Nat.le_of_ble_eq_true rfl) (Nat.le_of_ble_eq_true rfl) [] (by decide +kernel) rfl rfl rfl (Nat.le_of_ble_eq_true rfl) dX6_mostSetsWithOneThing_34 (fun r9 wz hq10 => ?_)
          obtain ⟨rfl, rfl⟩ := hq10
          refine j_ws (ws2 := [(a, .inr (6, [.int nd, .int (nI n), .ref a_t, .ref a_p, .ref a_m])), (a_t, .inl (gI g, 14, .inl fT)), (a_p, .inl (gI g, 14, .inl fP)), (a_m, .inl (gI g, 14, .inl fM))]) rfl ?_
          refine j_mmax (pc := 37) hX mw288 mw289 mw23 mw290 (Nat.le_of_ble_eq_true rfl) (Nat.le_of_ble_eq_true rfl) (Nat.le_of_ble_eq_true rfl) (Nat.le_of_ble_eq_true rfl) dX6_mostSetsWithOneThing_37 ?_
          refine j_istore_n (lv2 := [(0, .ref a), (1, .int (S_nb fM n)), (2, .int (S_max (S_most fT fM nd n t) (popC ((S_sw fT t n) &&& (S_nb fM n))))), (3, .int (nI t))]) (pc := 40) hX dX6_mostSetsWithOneThing_40 [1, 2, 0, 3] (by decide) rfl ?_
          refine j_iinc (v := nI (t + 1)) (lv2 := [(0, .ref a), (1, .int (S_nb fM n)), (2, .int (S_max (S_most fT fM nd n t) (popC ((S_sw fT t n) &&& (S_nb fM n))))), (3, .int (nI (t + 1)))]) (pc := 41) hX dX6_mostSetsWithOneThing_41 3 rfl (nI_add t 1) [1, 2, 3, 0] (by decide) rfl ?_
          refine j_goto (tgt := 9) (pc := 44) hX dX6_mostSetsWithOneThing_44 (by decide) ?_
          exact j_eq (lv2 := [(0, .ref a), (1, .int (S_nb fM n)), (2, .int (S_most fT fM nd n (t + 1))), (3, .int (nI (t + 1)))]) (ws2 := [(a, .inr (6, [.int nd, .int (nI n), .ref a_t, .ref a_p, .ref a_m])), (a_t, .inl (gI g, 14, .inl fT)), (a_p, .inl (gI g, 14, .inl fP)), (a_m, .inl (gI g, 14, .inl fM))]) (by first | rfl | first | (simp only [jb_t, jb_f, S_most, c12_3, c12_3n, c12_3m, c23_6, c23_6b, reduceIte, eq_self, decide_true, decide_false, Bool.and_true, Bool.true_and, Bool.and_false, Bool.false_and, Bool.and_self, not_true_eq_false, not_false_eq_true, and_true, true_and, and_false, false_and, and_self]; done) | (simp [jb_t, jb_f, S_most, c12_3, c12_3n, c12_3m, c23_6, c23_6b]; done)) (by first | rfl | first | (simp only [jb_t, jb_f, S_most, c12_3, c12_3n, c12_3m, c23_6, c23_6b, reduceIte, eq_self, decide_true, decide_false, Bool.and_true, Bool.true_and, Bool.and_false, Bool.false_and, Bool.and_self, not_true_eq_false, not_false_eq_true, and_true, true_and, and_false, false_and, and_self]; done) | (simp [jb_t, jb_f, S_most, c12_3, c12_3n, c12_3m, c23_6, c23_6b]; done)) (ih9 _ (by omega) (t + 1) (by omega) rfl)
  exact j_eq (lv2 := [(0, .ref a), (1, .int (S_nb fM n)), (2, .int (S_most fT fM nd n 0)), (3, .int (nI 0))]) (ws2 := [(a, .inr (6, [.int nd, .int (nI n), .ref a_t, .ref a_p, .ref a_m])), (a_t, .inl (gI g, 14, .inl fT)), (a_p, .inl (gI g, 14, .inl fP)), (a_m, .inl (gI g, 14, .inl fM))]) (rfl) (rfl) (L9 _ 0 (by omega) rfl)

