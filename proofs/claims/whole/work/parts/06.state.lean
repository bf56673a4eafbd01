/-! pure pictures: what the loops over the sets answer -/
def S_mk (fM : Nat → Int32) (k : Int32) : Nat → Int32
  | 0 => 0
  | i + 1 => if fM i = k then S_mk fM k i ||| bI i else S_mk fM k i
def S_sw (fT : Nat → Int32) (t : Nat) : Nat → Int32
  | 0 => 0
  | i + 1 => if bt (fT i) t = true then S_sw fT t i ||| bI i else S_sw fT t i
def S_or (fT : Nat → Int32) (m : Int32) : Nat → Int32
  | 0 => 0
  | i + 1 => if bt m i = true then S_or fT m i ||| fT i else S_or fT m i
def S_sum (fP : Nat → Int32) (m : Int32) : Nat → Int32
  | 0 => 0
  | i + 1 => if bt m i = true then S_sum fP m i + fP i else S_sum fP m i
def S_miss (fT : Nat → Int32) (nd : Int32) (n : Nat) (m : Int32) : Int32 := nd &&& (S_or fT m n ^^^ (-1))
def S_nb (fM : Nat → Int32) (n : Nat) : Int32 := S_mk fM 0 n ||| S_mk fM 1 n
def S_cov (fT fM : Nat → Int32) (nd : Int32) (n : Nat) (m : Int32) : Bool := decide (m &&& S_mk fM 1 n = S_mk fM 1 n) && (decide (m &&& S_mk fM 2 n = 0) && decide (S_miss fT nd n m = 0))
def S_has (fT fM : Nat → Int32) (nd : Int32) (n : Nat) : Bool := decide (S_miss fT nd n (S_nb fM n) = 0)
def S_cp (f h : Nat → Int32) (i : Nat) : Nat → Int32 := fun j => if j < i then f j else h j
theorem S_cp_0 (f h : Nat → Int32) : S_cp f h 0 = h := funext fun j => if_neg (Nat.not_lt_zero j)
theorem S_cp_s (f h : Nat → Int32) (i : Nat) : upd (S_cp f h i) i (f i) = S_cp f h (i + 1) := by
  funext j
  unfold upd S_cp
  by_cases h1 : j = i
  · subst h1; simp
  · by_cases h2 : j < i
    · simp [h1, h2, Nat.lt_succ_of_lt h2]
    · have : ¬ j < i + 1 := by omega
      simp [h1, h2, this]
/-- the sets behind set k one place down, up to place i -/
def S_rm (f : Nat → Int32) (k i : Nat) : Nat → Int32 := fun j => if k ≤ j ∧ j + 1 < i then f (j + 1) else f j
theorem S_rm_0 (f : Nat → Int32) (k : Nat) : S_rm f k (k + 1) = f := funext fun j => if_neg (by omega)
theorem S_rm_s (f : Nat → Int32) (k i : Nat) (h : k < i) : upd (S_rm f k i) (i - 1) (f i) = S_rm f k (i + 1) := by
  funext j
  unfold upd S_rm
  by_cases h1 : j = i - 1
  · subst h1
    rw [if_pos rfl, if_pos (by omega)]
    congr 1
    omega
  · rw [if_neg h1]
    by_cases h2 : k ≤ j ∧ j + 1 < i
    · rw [if_pos h2, if_pos (by omega)]
    · rw [if_neg h2, if_neg (by omega)]
theorem S_rm_at (f : Nat → Int32) (k i : Nat) (h : k < i) : S_rm f k i i = f i := if_neg (by omega)

set_option maxHeartbeats 4000000 in
set_option maxRecDepth 100000 in
theorem c_X8_has (g : jG) (m : Int32) (k : Nat) (hk : k < 32) : jMI g yX8_has cX8_has 2 .boolean 0 0 [.int m, .int (nI k)] [] (fun r w => r = jb (bt m k) ∧ w = []) := by
  refine jMI.intro (by decide +kernel) (Nat.le_of_ble_eq_true rfl) (fun x hX hQ => ?_)
  refine j_lv (lv2 := [(0, .int m), (1, .int (nI k))]) rfl ?_
  refine j_iload_n (pc := 0) hX dX8_has_0 0 rfl ?_
  refine j_iload_n (pc := 1) hX dX8_has_1 1 rfl ?_
  refine j_ishr (pc := 2) hX dX8_has_2 ?_
  refine j_iconst (v := 1) (pc := 3) hX dX8_has_3 (by decide) ?_
  refine j_iand (pc := 4) hX dX8_has_4 ?_
  refine j_top (b := jb (bt m k)) (b_sh1 hk) ?_
  refine j_if_eq (tgt := 12) (pc := 5) hX dX8_has_5 (by decide) (fun c5_1 => ?_) (fun c5_1 => ?_)
  · skip
    have c5_1b : (bt m k) = false := jb_0.mp c5_1
    refine j_iconst (v := 0) (pc := 12) hX dX8_has_12 (by decide) ?_
    exact j_zret (pc := 13) hX hQ dX8_has_13 (by first | rfl | exact jb_nar _) rfl ⟨(by first | rfl | (simp [jb_t, jb_f, c5_1, c5_1b]; done)), (by first | rfl | (simp [jb_t, jb_f, c5_1, c5_1b]; done))⟩
  · skip
    have c5_1b : (bt m k) = true := jb_1.mp c5_1
    refine j_iconst (v := 1) (pc := 8) hX dX8_has_8 (by decide) ?_
    refine j_goto (tgt := 13) (pc := 9) hX dX8_has_9 (by decide) ?_
    exact j_zret (pc := 13) hX hQ dX8_has_13 (by first | rfl | exact jb_nar _) rfl ⟨(by first | rfl | (simp [jb_t, jb_f, c5_1, c5_1b]; done)), (by first | rfl | (simp [jb_t, jb_f, c5_1, c5_1b]; done))⟩

set_option maxHeartbeats 4000000 in
set_option maxRecDepth 100000 in
theorem c_X6_marked (g : jG) (a : Nat) (a_t : Nat) (a_p : Nat) (a_m : Nat) (nd : Int32) (n : Nat) (fT : Nat → Int32) (fP : Nat → Int32) (fM : Nat → Int32) (k : Int32) (hn : n ≤ 14) : jMI g yX6_marked cX6_marked 4 .int 0 0 [.ref a, .int k] [(a, .inr (6, [.int nd, .int (nI n), .ref a_t, .ref a_p, .ref a_m])), (a_t, .inl (gI g, 14, .inl fT)), (a_p, .inl (gI g, 14, .inl fP)), (a_m, .inl (gI g, 14, .inl fM))] (fun r w => r = S_mk fM k n ∧ w = [(a, .inr (6, [.int nd, .int (nI n), .ref a_t, .ref a_p, .ref a_m])), (a_t, .inl (gI g, 14, .inl fT)), (a_p, .inl (gI g, 14, .inl fP)), (a_m, .inl (gI g, 14, .inl fM))]) := by
  refine jMI.intro (by decide +kernel) (Nat.le_of_ble_eq_true rfl) (fun x hX hQ => ?_)
  refine j_lv (lv2 := [(0, .ref a), (1, .int k)]) rfl ?_
  refine j_iconst (v := 0) (pc := 0) hX dX6_marked_0 (by decide) ?_
  refine j_istore_n (lv2 := [(0, .ref a), (1, .int k), (2, .int 0)]) (pc := 1) hX dX6_marked_1 [1, 2, 0] (by decide) rfl ?_
  refine j_iconst (v := 0) (pc := 2) hX dX6_marked_2 (by decide) ?_
  refine j_istore_n (lv2 := [(0, .ref a), (1, .int k), (2, .int 0), (3, .int 0)]) (pc := 3) hX dX6_marked_3 [1, 2, 3, 0] (by decide) rfl ?_
  have L4 : ∀ (d : Nat) (i : Nat), i ≤ n → n - i = d → J g x 4 0 0 4 [(0, .ref a), (1, .int k), (2, .int (S_mk fM k i)), (3, .int (nI i))] [] [(a, .inr (6, [.int nd, .int (nI n), .ref a_t, .ref a_p, .ref a_m])), (a_t, .inl (gI g, 14, .inl fT)), (a_p, .inl (gI g, 14, .inl fP)), (a_m, .inl (gI g, 14, .inl fM))] := by
    intro d
    induction d using Nat.strongRecOn with
    | _ d ih4 =>
      intro i hi hd4
      refine j_iload_n (pc := 4) hX dX6_marked_4 3 rfl ?_
      refine j_aload_n (pc := 5) hX dX6_marked_5 0 rfl ?_
      refine j_get (ci := 6) (pc := 6) hX inG6 rfl 1 (by decide) mw74 0 rfl rfl dX6_marked_6 ?_
      refine j_icmp_ge (tgt := 34) (pc := 9) hX dX6_marked_9 (by decide) (fun c9_1 => ?_) (fun c9_1 => ?_)
      · skip
        have c9_1n : n ≤ i := (nI_leI (a := n) (b := i) (by omega) (by omega)).mp c9_1
        refine j_iload_n (pc := 34) hX dX6_marked_34 2 rfl ?_
        exact j_iret (pc := 35) hX hQ dX6_marked_35 rfl ⟨(by rw [show i = n by omega]), (by first | rfl | (simp [jb_t, jb_f, S_mk, c9_1, c9_1n]; done))⟩
      · skip
        have c9_1n : ¬ n ≤ i := fun h9 => c9_1 ((nI_leI (a := n) (b := i) (by omega) (by omega)).mpr h9)
        refine j_aload_n (pc := 12) hX dX6_marked_12 0 rfl ?_
        refine j_get (ci := 6) (pc := 13) hX inG6 rfl 4 (by decide) mw89 0 rfl rfl dX6_marked_13 ?_
        refine j_iload_n (pc := 16) hX dX6_marked_16 3 rfl ?_
        refine j_iald (pc := 17) hX 3 rfl i rfl (by omega) (by decide) dX6_marked_17 ?_
        refine j_iload_n (pc := 18) hX dX6_marked_18 1 rfl ?_
        refine j_icmp_ne (tgt := 28) (pc := 19) hX dX6_marked_19 (by decide) (fun c19_2 => ?_) (fun c19_2 => ?_)
        · skip
          refine j_iinc (v := nI (i + 1)) (lv2 := [(0, .ref a), (1, .int k), (2, .int (S_mk fM k i)), (3, .int (nI (i + 1)))]) (pc := 28) hX dX6_marked_28 3 rfl (nI_add i 1) [1, 2, 3, 0] (by decide) rfl ?_
          refine j_goto (tgt := 4) (pc := 31) hX dX6_marked_31 (by decide) ?_
          exact j_eq (lv2 := [(0, .ref a), (1, .int k), (2, .int (S_mk fM k (i + 1))), (3, .int (nI (i + 1)))]) (ws2 := [(a, .inr (6, [.int nd, .int (nI n), .ref a_t, .ref a_p, .ref a_m])), (a_t, .inl (gI g, 14, .inl fT)), (a_p, .inl (gI g, 14, .inl fP)), (a_m, .inl (gI g, 14, .inl fM))]) (by first | rfl | (simp [jb_t, jb_f, S_mk, c9_1, c9_1n, c19_2])) (by first | rfl | (simp [jb_t, jb_f, S_mk, c9_1, c9_1n, c19_2])) (ih4 _ (by omega) (i + 1) (by omega) rfl)
        · skip
          refine j_iload_n (pc := 22) hX dX6_marked_22 2 rfl ?_
          refine j_iconst (v := 1) (pc := 23) hX dX6_marked_23 (by decide) ?_
          refine j_iload_n (pc := 24) hX dX6_marked_24 3 rfl ?_
          refine j_ishl (pc := 25) hX dX6_marked_25 ?_
          refine j_top (b := bI i) rfl ?_
          refine j_ior (pc := 26) hX dX6_marked_26 ?_
          refine j_istore_n (lv2 := [(0, .ref a), (1, .int k), (2, .int ((S_mk fM k i) ||| (bI i))), (3, .int (nI i))]) (pc := 27) hX dX6_marked_27 [1, 2, 0, 3] (by decide) rfl ?_
          refine j_iinc (v := nI (i + 1)) (lv2 := [(0, .ref a), (1, .int k), (2, .int ((S_mk fM k i) ||| (bI i))), (3, .int (nI (i + 1)))]) (pc := 28) hX dX6_marked_28 3 rfl (nI_add i 1) [1, 2, 3, 0] (by decide) rfl ?_
          refine j_goto (tgt := 4) (pc := 31) hX dX6_marked_31 (by decide) ?_
          exact j_eq (lv2 := [(0, .ref a), (1, .int k), (2, .int (S_mk fM k (i + 1))), (3, .int (nI (i + 1)))]) (ws2 := [(a, .inr (6, [.int nd, .int (nI n), .ref a_t, .ref a_p, .ref a_m])), (a_t, .inl (gI g, 14, .inl fT)), (a_p, .inl (gI g, 14, .inl fP)), (a_m, .inl (gI g, 14, .inl fM))]) (by first | rfl | (simp [jb_t, jb_f, S_mk, c9_1, c9_1n, c19_2])) (by first | rfl | (simp [jb_t, jb_f, S_mk, c9_1, c9_1n, c19_2])) (ih4 _ (by omega) (i + 1) (by omega) rfl)
  exact j_eq (lv2 := [(0, .ref a), (1, .int k), (2, .int (S_mk fM k 0)), (3, .int (nI 0))]) (ws2 := [(a, .inr (6, [.int nd, .int (nI n), .ref a_t, .ref a_p, .ref a_m])), (a_t, .inl (gI g, 14, .inl fT)), (a_p, .inl (gI g, 14, .inl fP)), (a_m, .inl (gI g, 14, .inl fM))]) (rfl) (rfl) (L4 _ 0 (by omega) rfl)

set_option maxHeartbeats 4000000 in
set_option maxRecDepth 100000 in
theorem c_X6_setsWith (g : jG) (a : Nat) (a_t : Nat) (a_p : Nat) (a_m : Nat) (nd : Int32) (n : Nat) (fT : Nat → Int32) (fP : Nat → Int32) (fM : Nat → Int32) (t : Nat) (hn : n ≤ 14) (ht : t < 32) : jMI g yX6_setsWith cX6_setsWith 4 .int 1 21 [.ref a, .int (nI t)] [(a, .inr (6, [.int nd, .int (nI n), .ref a_t, .ref a_p, .ref a_m])), (a_t, .inl (gI g, 14, .inl fT)), (a_p, .inl (gI g, 14, .inl fP)), (a_m, .inl (gI g, 14, .inl fM))] (fun r w => r = S_sw fT t n ∧ w = [(a, .inr (6, [.int nd, .int (nI n), .ref a_t, .ref a_p, .ref a_m])), (a_t, .inl (gI g, 14, .inl fT)), (a_p, .inl (gI g, 14, .inl fP)), (a_m, .inl (gI g, 14, .inl fM))]) := by
  refine jMI.intro (by decide +kernel) (Nat.le_of_ble_eq_true rfl) (fun x hX hQ => ?_)
  refine j_lv (lv2 := [(0, .ref a), (1, .int (nI t))]) rfl ?_
  refine j_iconst (v := 0) (pc := 0) hX dX6_setsWith_0 (by decide) ?_
  refine j_istore_n (lv2 := [(0, .ref a), (1, .int (nI t)), (2, .int 0)]) (pc := 1) hX dX6_setsWith_1 [1, 2, 0] (by decide) rfl ?_
  refine j_iconst (v := 0) (pc := 2) hX dX6_setsWith_2 (by decide) ?_
  refine j_istore_n (lv2 := [(0, .ref a), (1, .int (nI t)), (2, .int 0), (3, .int 0)]) (pc := 3) hX dX6_setsWith_3 [1, 2, 3, 0] (by decide) rfl ?_
  have L4 : ∀ (d : Nat) (i : Nat), i ≤ n → n - i = d → J g x 4 0 0 4 [(0, .ref a), (1, .int (nI t)), (2, .int (S_sw fT t i)), (3, .int (nI i))] [] [(a, .inr (6, [.int nd, .int (nI n), .ref a_t, .ref a_p, .ref a_m])), (a_t, .inl (gI g, 14, .inl fT)), (a_p, .inl (gI g, 14, .inl fP)), (a_m, .inl (gI g, 14, .inl fM))] := by
    intro d
    induction d using Nat.strongRecOn with
    | _ d ih4 =>
      intro i hi hd4
      refine j_iload_n (pc := 4) hX dX6_setsWith_4 3 rfl ?_
      refine j_aload_n (pc := 5) hX dX6_setsWith_5 0 rfl ?_
      refine j_get (ci := 6) (pc := 6) hX inG6 rfl 1 (by decide) mw74 0 rfl rfl dX6_setsWith_6 ?_
      refine j_icmp_ge (tgt := 37) (pc := 9) hX dX6_setsWith_9 (by decide) (fun c9_1 => ?_) (fun c9_1 => ?_)
      · skip
        have c9_1n : n ≤ i := (nI_leI (a := n) (b := i) (by omega) (by omega)).mp c9_1
        refine j_iload_n (pc := 37) hX dX6_setsWith_37 2 rfl ?_
        exact j_iret (pc := 38) hX hQ dX6_setsWith_38 rfl ⟨(by rw [show i = n by omega]), (by first | rfl | (simp [jb_t, jb_f, S_sw, c9_1, c9_1n]; done))⟩
      · skip
        have c9_1n : ¬ n ≤ i := fun h9 => c9_1 ((nI_leI (a := n) (b := i) (by omega) (by omega)).mpr h9)
        refine j_aload_n (pc := 12) hX dX6_setsWith_12 0 rfl ?_
        refine j_get (ci := 6) (pc := 13) hX inG6 rfl 2 (by decide) mw79 0 rfl rfl dX6_setsWith_13 ?_
        refine j_iload_n (pc := 16) hX dX6_setsWith_16 3 rfl ?_
        refine j_iald (pc := 17) hX 1 rfl i rfl (by omega) (by decide) dX6_setsWith_17 ?_
        refine j_iload_n (pc := 18) hX dX6_setsWith_18 1 rfl ?_
        refine j_callSNI (n := 2) (As := [.int (fT i), .int (nI t)]) (rest := []) (pc := 19) hX (c_X8_has g (fT i) t (by first | assumption | omega)) ⟨⟨_, mw394⟩, mw395, mw43, mw396, ⟨by decide +kernel, by decide +kernel, by decide +kernel⟩⟩ (Nat.le_of_ble_eq_true rfl) (Nat.le_of_ble_eq_true rfl) (Nat.le_of_ble_eq_true rfl) (Nat.le_of_ble_eq_true rfl) [] rfl rfl rfl rfl (Nat.le_of_ble_eq_true rfl) dX6_setsWith_19 (fun r2 wz hq3 => ?_)
        obtain ⟨rfl, rfl⟩ := hq3
        refine j_ws (ws2 := [(a, .inr (6, [.int nd, .int (nI n), .ref a_t, .ref a_p, .ref a_m])), (a_t, .inl (gI g, 14, .inl fT)), (a_p, .inl (gI g, 14, .inl fP)), (a_m, .inl (gI g, 14, .inl fM))]) rfl ?_
        refine j_if_eq (tgt := 31) (pc := 22) hX dX6_setsWith_22 (by decide) (fun c22_4 => ?_) (fun c22_4 => ?_)
        · skip
          have c22_4b : (bt (fT i) t) = false := jb_0.mp c22_4
          refine j_iinc (v := nI (i + 1)) (lv2 := [(0, .ref a), (1, .int (nI t)), (2, .int (S_sw fT t i)), (3, .int (nI (i + 1)))]) (pc := 31) hX dX6_setsWith_31 3 rfl (nI_add i 1) [1, 2, 3, 0] (by decide) rfl ?_
          refine j_goto (tgt := 4) (pc := 34) hX dX6_setsWith_34 (by decide) ?_
          exact j_eq (lv2 := [(0, .ref a), (1, .int (nI t)), (2, .int (S_sw fT t (i + 1))), (3, .int (nI (i + 1)))]) (ws2 := [(a, .inr (6, [.int nd, .int (nI n), .ref a_t, .ref a_p, .ref a_m])), (a_t, .inl (gI g, 14, .inl fT)), (a_p, .inl (gI g, 14, .inl fP)), (a_m, .inl (gI g, 14, .inl fM))]) (by first | rfl | (simp [jb_t, jb_f, S_sw, c9_1, c9_1n, c22_4, c22_4b])) (by first | rfl | (simp [jb_t, jb_f, S_sw, c9_1, c9_1n, c22_4, c22_4b])) (ih4 _ (by omega) (i + 1) (by omega) rfl)
        · skip
          have c22_4b : (bt (fT i) t) = true := jb_1.mp c22_4
          refine j_iload_n (pc := 25) hX dX6_setsWith_25 2 rfl ?_
          refine j_iconst (v := 1) (pc := 26) hX dX6_setsWith_26 (by decide) ?_
          refine j_iload_n (pc := 27) hX dX6_setsWith_27 3 rfl ?_
          refine j_ishl (pc := 28) hX dX6_setsWith_28 ?_
          refine j_top (b := bI i) rfl ?_
          refine j_ior (pc := 29) hX dX6_setsWith_29 ?_
          refine j_istore_n (lv2 := [(0, .ref a), (1, .int (nI t)), (2, .int ((S_sw fT t i) ||| (bI i))), (3, .int (nI i))]) (pc := 30) hX dX6_setsWith_30 [1, 2, 0, 3] (by decide) rfl ?_
          refine j_iinc (v := nI (i + 1)) (lv2 := [(0, .ref a), (1, .int (nI t)), (2, .int ((S_sw fT t i) ||| (bI i))), (3, .int (nI (i + 1)))]) (pc := 31) hX dX6_setsWith_31 3 rfl (nI_add i 1) [1, 2, 3, 0] (by decide) rfl ?_
          refine j_goto (tgt := 4) (pc := 34) hX dX6_setsWith_34 (by decide) ?_
          exact j_eq (lv2 := [(0, .ref a), (1, .int (nI t)), (2, .int (S_sw fT t (i + 1))), (3, .int (nI (i + 1)))]) (ws2 := [(a, .inr (6, [.int nd, .int (nI n), .ref a_t, .ref a_p, .ref a_m])), (a_t, .inl (gI g, 14, .inl fT)), (a_p, .inl (gI g, 14, .inl fP)), (a_m, .inl (gI g, 14, .inl fM))]) (by first | rfl | (simp [jb_t, jb_f, S_sw, c9_1, c9_1n, c22_4, c22_4b])) (by first | rfl | (simp [jb_t, jb_f, S_sw, c9_1, c9_1n, c22_4, c22_4b])) (ih4 _ (by omega) (i + 1) (by omega) rfl)
  exact j_eq (lv2 := [(0, .ref a), (1, .int (nI t)), (2, .int (S_sw fT t 0)), (3, .int (nI 0))]) (ws2 := [(a, .inr (6, [.int nd, .int (nI n), .ref a_t, .ref a_p, .ref a_m])), (a_t, .inl (gI g, 14, .inl fT)), (a_p, .inl (gI g, 14, .inl fP)), (a_m, .inl (gI g, 14, .inl fM))]) (rfl) (rfl) (L4 _ 0 (by omega) rfl)

set_option maxHeartbeats 4000000 in
set_option maxRecDepth 100000 in
theorem c_X6_thingsOf (g : jG) (a : Nat) (a_t : Nat) (a_p : Nat) (a_m : Nat) (nd : Int32) (n : Nat) (fT : Nat → Int32) (fP : Nat → Int32) (fM : Nat → Int32) (k : Int32) (hn : n ≤ 14) : jMI g yX6_thingsOf cX6_thingsOf 4 .int 1 21 [.ref a, .int k] [(a, .inr (6, [.int nd, .int (nI n), .ref a_t, .ref a_p, .ref a_m])), (a_t, .inl (gI g, 14, .inl fT)), (a_p, .inl (gI g, 14, .inl fP)), (a_m, .inl (gI g, 14, .inl fM))] (fun r w => r = S_or fT k n ∧ w = [(a, .inr (6, [.int nd, .int (nI n), .ref a_t, .ref a_p, .ref a_m])), (a_t, .inl (gI g, 14, .inl fT)), (a_p, .inl (gI g, 14, .inl fP)), (a_m, .inl (gI g, 14, .inl fM))]) := by
  refine jMI.intro (by decide +kernel) (Nat.le_of_ble_eq_true rfl) (fun x hX hQ => ?_)
  refine j_lv (lv2 := [(0, .ref a), (1, .int k)]) rfl ?_
  refine j_iconst (v := 0) (pc := 0) hX dX6_thingsOf_0 (by decide) ?_
  refine j_istore_n (lv2 := [(0, .ref a), (1, .int k), (2, .int 0)]) (pc := 1) hX dX6_thingsOf_1 [1, 2, 0] (by decide) rfl ?_
  refine j_iconst (v := 0) (pc := 2) hX dX6_thingsOf_2 (by decide) ?_
  refine j_istore_n (lv2 := [(0, .ref a), (1, .int k), (2, .int 0), (3, .int 0)]) (pc := 3) hX dX6_thingsOf_3 [1, 2, 3, 0] (by decide) rfl ?_
  have L4 : ∀ (d : Nat) (i : Nat), i ≤ n → n - i = d → J g x 4 0 0 4 [(0, .ref a), (1, .int k), (2, .int (S_or fT k i)), (3, .int (nI i))] [] [(a, .inr (6, [.int nd, .int (nI n), .ref a_t, .ref a_p, .ref a_m])), (a_t, .inl (gI g, 14, .inl fT)), (a_p, .inl (gI g, 14, .inl fP)), (a_m, .inl (gI g, 14, .inl fM))] := by
    intro d
    induction d using Nat.strongRecOn with
    | _ d ih4 =>
      intro i hi hd4
      refine j_iload_n (pc := 4) hX dX6_thingsOf_4 3 rfl ?_
      refine j_aload_n (pc := 5) hX dX6_thingsOf_5 0 rfl ?_
      refine j_get (ci := 6) (pc := 6) hX inG6 rfl 1 (by decide) mw74 0 rfl rfl dX6_thingsOf_6 ?_
      refine j_icmp_ge (tgt := 35) (pc := 9) hX dX6_thingsOf_9 (by decide) (fun c9_1 => ?_) (fun c9_1 => ?_)
      · skip
        have c9_1n : n ≤ i := (nI_leI (a := n) (b := i) (by omega) (by omega)).mp c9_1
        refine j_iload_n (pc := 35) hX dX6_thingsOf_35 2 rfl ?_
        exact j_iret (pc := 36) hX hQ dX6_thingsOf_36 rfl ⟨(by rw [show i = n by omega]), (by first | rfl | (simp [jb_t, jb_f, S_or, c9_1, c9_1n]; done))⟩
      · skip
        have c9_1n : ¬ n ≤ i := fun h9 => c9_1 ((nI_leI (a := n) (b := i) (by omega) (by omega)).mpr h9)
        refine j_iload_n (pc := 12) hX dX6_thingsOf_12 1 rfl ?_
        refine j_iload_n (pc := 13) hX dX6_thingsOf_13 3 rfl ?_
        refine j_callSNI (n := 2) (As := [.int k, .int (nI i)]) (rest := []) (pc := 14) hX (c_X8_has g k i (by first | assumption | omega)) ⟨⟨_, mw394⟩, mw395, mw43, mw396, ⟨by decide +kernel, by decide +kernel, by decide +kernel⟩⟩ (Nat.le_of_ble_eq_true rfl) (Nat.le_of_ble_eq_true rfl) (Nat.le_of_ble_eq_true rfl) (Nat.le_of_ble_eq_true rfl) [] rfl rfl rfl rfl (Nat.le_of_ble_eq_true rfl) dX6_thingsOf_14 (fun r2 wz hq3 => ?_)
        obtain ⟨rfl, rfl⟩ := hq3
        refine j_ws (ws2 := [(a, .inr (6, [.int nd, .int (nI n), .ref a_t, .ref a_p, .ref a_m])), (a_t, .inl (gI g, 14, .inl fT)), (a_p, .inl (gI g, 14, .inl fP)), (a_m, .inl (gI g, 14, .inl fM))]) rfl ?_
        refine j_if_eq (tgt := 29) (pc := 17) hX dX6_thingsOf_17 (by decide) (fun c17_4 => ?_) (fun c17_4 => ?_)
        · skip
          have c17_4b : (bt k i) = false := jb_0.mp c17_4
          refine j_iinc (v := nI (i + 1)) (lv2 := [(0, .ref a), (1, .int k), (2, .int (S_or fT k i)), (3, .int (nI (i + 1)))]) (pc := 29) hX dX6_thingsOf_29 3 rfl (nI_add i 1) [1, 2, 3, 0] (by decide) rfl ?_
          refine j_goto (tgt := 4) (pc := 32) hX dX6_thingsOf_32 (by decide) ?_
          exact j_eq (lv2 := [(0, .ref a), (1, .int k), (2, .int (S_or fT k (i + 1))), (3, .int (nI (i + 1)))]) (ws2 := [(a, .inr (6, [.int nd, .int (nI n), .ref a_t, .ref a_p, .ref a_m])), (a_t, .inl (gI g, 14, .inl fT)), (a_p, .inl (gI g, 14, .inl fP)), (a_m, .inl (gI g, 14, .inl fM))]) (by first | rfl | (simp [jb_t, jb_f, S_or, c9_1, c9_1n, c17_4, c17_4b])) (by first | rfl | (simp [jb_t, jb_f, S_or, c9_1, c9_1n, c17_4, c17_4b])) (ih4 _ (by omega) (i + 1) (by omega) rfl)
        · skip
          have c17_4b : (bt k i) = true := jb_1.mp c17_4
          refine j_iload_n (pc := 20) hX dX6_thingsOf_20 2 rfl ?_
          refine j_aload_n (pc := 21) hX dX6_thingsOf_21 0 rfl ?_
          refine j_get (ci := 6) (pc := 22) hX inG6 rfl 2 (by decide) mw79 0 rfl rfl dX6_thingsOf_22 ?_
          refine j_iload_n (pc := 25) hX dX6_thingsOf_25 3 rfl ?_
          refine j_iald (pc := 26) hX 1 rfl i rfl (by omega) (by decide) dX6_thingsOf_26 ?_
          refine j_ior (pc := 27) hX dX6_thingsOf_27 ?_
          refine j_istore_n (lv2 := [(0, .ref a), (1, .int k), (2, .int ((S_or fT k i) ||| (fT i))), (3, .int (nI i))]) (pc := 28) hX dX6_thingsOf_28 [1, 2, 0, 3] (by decide) rfl ?_
          refine j_iinc (v := nI (i + 1)) (lv2 := [(0, .ref a), (1, .int k), (2, .int ((S_or fT k i) ||| (fT i))), (3, .int (nI (i + 1)))]) (pc := 29) hX dX6_thingsOf_29 3 rfl (nI_add i 1) [1, 2, 3, 0] (by decide) rfl ?_
          refine j_goto (tgt := 4) (pc := 32) hX dX6_thingsOf_32 (by decide) ?_
          exact j_eq (lv2 := [(0, .ref a), (1, .int k), (2, .int (S_or fT k (i + 1))), (3, .int (nI (i + 1)))]) (ws2 := [(a, .inr (6, [.int nd, .int (nI n), .ref a_t, .ref a_p, .ref a_m])), (a_t, .inl (gI g, 14, .inl fT)), (a_p, .inl (gI g, 14, .inl fP)), (a_m, .inl (gI g, 14, .inl fM))]) (by first | rfl | (simp [jb_t, jb_f, S_or, c9_1, c9_1n, c17_4, c17_4b])) (by first | rfl | (simp [jb_t, jb_f, S_or, c9_1, c9_1n, c17_4, c17_4b])) (ih4 _ (by omega) (i + 1) (by omega) rfl)
  exact j_eq (lv2 := [(0, .ref a), (1, .int k), (2, .int (S_or fT k 0)), (3, .int (nI 0))]) (ws2 := [(a, .inr (6, [.int nd, .int (nI n), .ref a_t, .ref a_p, .ref a_m])), (a_t, .inl (gI g, 14, .inl fT)), (a_p, .inl (gI g, 14, .inl fP)), (a_m, .inl (gI g, 14, .inl fM))]) (rfl) (rfl) (L4 _ 0 (by omega) rfl)

set_option maxHeartbeats 4000000 in
set_option maxRecDepth 100000 in
theorem c_X6_priceOf (g : jG) (a : Nat) (a_t : Nat) (a_p : Nat) (a_m : Nat) (nd : Int32) (n : Nat) (fT : Nat → Int32) (fP : Nat → Int32) (fM : Nat → Int32) (k : Int32) (hn : n ≤ 14) : jMI g yX6_priceOf cX6_priceOf 4 .int 1 21 [.ref a, .int k] [(a, .inr (6, [.int nd, .int (nI n), .ref a_t, .ref a_p, .ref a_m])), (a_t, .inl (gI g, 14, .inl fT)), (a_p, .inl (gI g, 14, .inl fP)), (a_m, .inl (gI g, 14, .inl fM))] (fun r w => r = S_sum fP k n ∧ w = [(a, .inr (6, [.int nd, .int (nI n), .ref a_t, .ref a_p, .ref a_m])), (a_t, .inl (gI g, 14, .inl fT)), (a_p, .inl (gI g, 14, .inl fP)), (a_m, .inl (gI g, 14, .inl fM))]) := by
  refine jMI.intro (by decide +kernel) (Nat.le_of_ble_eq_true rfl) (fun x hX hQ => ?_)
  refine j_lv (lv2 := [(0, .ref a), (1, .int k)]) rfl ?_
  refine j_iconst (v := 0) (pc := 0) hX dX6_priceOf_0 (by decide) ?_
  refine j_istore_n (lv2 := [(0, .ref a), (1, .int k), (2, .int 0)]) (pc := 1) hX dX6_priceOf_1 [1, 2, 0] (by decide) rfl ?_
  refine j_iconst (v := 0) (pc := 2) hX dX6_priceOf_2 (by decide) ?_
  refine j_istore_n (lv2 := [(0, .ref a), (1, .int k), (2, .int 0), (3, .int 0)]) (pc := 3) hX dX6_priceOf_3 [1, 2, 3, 0] (by decide) rfl ?_
  have L4 : ∀ (d : Nat) (i : Nat), i ≤ n → n - i = d → J g x 4 0 0 4 [(0, .ref a), (1, .int k), (2, .int (S_sum fP k i)), (3, .int (nI i))] [] [(a, .inr (6, [.int nd, .int (nI n), .ref a_t, .ref a_p, .ref a_m])), (a_t, .inl (gI g, 14, .inl fT)), (a_p, .inl (gI g, 14, .inl fP)), (a_m, .inl (gI g, 14, .inl fM))] := by
    intro d
    induction d using Nat.strongRecOn with
    | _ d ih4 =>
      intro i hi hd4
      refine j_iload_n (pc := 4) hX dX6_priceOf_4 3 rfl ?_
      refine j_aload_n (pc := 5) hX dX6_priceOf_5 0 rfl ?_
      refine j_get (ci := 6) (pc := 6) hX inG6 rfl 1 (by decide) mw74 0 rfl rfl dX6_priceOf_6 ?_
      refine j_icmp_ge (tgt := 35) (pc := 9) hX dX6_priceOf_9 (by decide) (fun c9_1 => ?_) (fun c9_1 => ?_)
      · skip
        have c9_1n : n ≤ i := (nI_leI (a := n) (b := i) (by omega) (by omega)).mp c9_1
        refine j_iload_n (pc := 35) hX dX6_priceOf_35 2 rfl ?_
        exact j_iret (pc := 36) hX hQ dX6_priceOf_36 rfl ⟨(by rw [show i = n by omega]), (by first | rfl | (simp [jb_t, jb_f, S_sum, c9_1, c9_1n]; done))⟩
      · skip
        have c9_1n : ¬ n ≤ i := fun h9 => c9_1 ((nI_leI (a := n) (b := i) (by omega) (by omega)).mpr h9)
        refine j_iload_n (pc := 12) hX dX6_priceOf_12 1 rfl ?_
        refine j_iload_n (pc := 13) hX dX6_priceOf_13 3 rfl ?_
        refine j_callSNI (n := 2) (As := [.int k, .int (nI i)]) (rest := []) (pc := 14) hX (c_X8_has g k i (by first | assumption | omega)) ⟨⟨_, mw394⟩, mw395, mw43, mw396, ⟨by decide +kernel, by decide +kernel, by decide +kernel⟩⟩ (Nat.le_of_ble_eq_true rfl) (Nat.le_of_ble_eq_true rfl) (Nat.le_of_ble_eq_true rfl) (Nat.le_of_ble_eq_true rfl) [] rfl rfl rfl rfl (Nat.le_of_ble_eq_true rfl) dX6_priceOf_14 (fun r2 wz hq3 => ?_)
        obtain ⟨rfl, rfl⟩ := hq3
        refine j_ws (ws2 := [(a, .inr (6, [.int nd, .int (nI n), .ref a_t, .ref a_p, .ref a_m])), (a_t, .inl (gI g, 14, .inl fT)), (a_p, .inl (gI g, 14, .inl fP)), (a_m, .inl (gI g, 14, .inl fM))]) rfl ?_
        refine j_if_eq (tgt := 29) (pc := 17) hX dX6_priceOf_17 (by decide) (fun c17_4 => ?_) (fun c17_4 => ?_)
        · skip
          have c17_4b : (bt k i) = false := jb_0.mp c17_4
          refine j_iinc (v := nI (i + 1)) (lv2 := [(0, .ref a), (1, .int k), (2, .int (S_sum fP k i)), (3, .int (nI (i + 1)))]) (pc := 29) hX dX6_priceOf_29 3 rfl (nI_add i 1) [1, 2, 3, 0] (by decide) rfl ?_
          refine j_goto (tgt := 4) (pc := 32) hX dX6_priceOf_32 (by decide) ?_
          exact j_eq (lv2 := [(0, .ref a), (1, .int k), (2, .int (S_sum fP k (i + 1))), (3, .int (nI (i + 1)))]) (ws2 := [(a, .inr (6, [.int nd, .int (nI n), .ref a_t, .ref a_p, .ref a_m])), (a_t, .inl (gI g, 14, .inl fT)), (a_p, .inl (gI g, 14, .inl fP)), (a_m, .inl (gI g, 14, .inl fM))]) (by first | rfl | (simp [jb_t, jb_f, S_sum, c9_1, c9_1n, c17_4, c17_4b])) (by first | rfl | (simp [jb_t, jb_f, S_sum, c9_1, c9_1n, c17_4, c17_4b])) (ih4 _ (by omega) (i + 1) (by omega) rfl)
        · skip
          have c17_4b : (bt k i) = true := jb_1.mp c17_4
          refine j_iload_n (pc := 20) hX dX6_priceOf_20 2 rfl ?_
          refine j_aload_n (pc := 21) hX dX6_priceOf_21 0 rfl ?_
          refine j_get (ci := 6) (pc := 22) hX inG6 rfl 3 (by decide) mw84 0 rfl rfl dX6_priceOf_22 ?_
          refine j_iload_n (pc := 25) hX dX6_priceOf_25 3 rfl ?_
          refine j_iald (pc := 26) hX 2 rfl i rfl (by omega) (by decide) dX6_priceOf_26 ?_
          refine j_iadd (pc := 27) hX dX6_priceOf_27 ?_
          refine j_istore_n (lv2 := [(0, .ref a), (1, .int k), (2, .int ((S_sum fP k i) + (fP i))), (3, .int (nI i))]) (pc := 28) hX dX6_priceOf_28 [1, 2, 0, 3] (by decide) rfl ?_
          refine j_iinc (v := nI (i + 1)) (lv2 := [(0, .ref a), (1, .int k), (2, .int ((S_sum fP k i) + (fP i))), (3, .int (nI (i + 1)))]) (pc := 29) hX dX6_priceOf_29 3 rfl (nI_add i 1) [1, 2, 3, 0] (by decide) rfl ?_
          refine j_goto (tgt := 4) (pc := 32) hX dX6_priceOf_32 (by decide) ?_
          exact j_eq (lv2 := [(0, .ref a), (1, .int k), (2, .int (S_sum fP k (i + 1))), (3, .int (nI (i + 1)))]) (ws2 := [(a, .inr (6, [.int nd, .int (nI n), .ref a_t, .ref a_p, .ref a_m])), (a_t, .inl (gI g, 14, .inl fT)), (a_p, .inl (gI g, 14, .inl fP)), (a_m, .inl (gI g, 14, .inl fM))]) (by first | rfl | (simp [jb_t, jb_f, S_sum, c9_1, c9_1n, c17_4, c17_4b])) (by first | rfl | (simp [jb_t, jb_f, S_sum, c9_1, c9_1n, c17_4, c17_4b])) (ih4 _ (by omega) (i + 1) (by omega) rfl)
  exact j_eq (lv2 := [(0, .ref a), (1, .int k), (2, .int (S_sum fP k 0)), (3, .int (nI 0))]) (ws2 := [(a, .inr (6, [.int nd, .int (nI n), .ref a_t, .ref a_p, .ref a_m])), (a_t, .inl (gI g, 14, .inl fT)), (a_p, .inl (gI g, 14, .inl fP)), (a_m, .inl (gI g, 14, .inl fM))]) (rfl) (rfl) (L4 _ 0 (by omega) rfl)

set_option maxHeartbeats 4000000 in
set_option maxRecDepth 100000 in
theorem c_X6_missingIn (g : jG) (a : Nat) (a_t : Nat) (a_p : Nat) (a_m : Nat) (nd : Int32) (n : Nat) (fT : Nat → Int32) (fP : Nat → Int32) (fM : Nat → Int32) (k : Int32) (hn : n ≤ 14) : jMI g yX6_missingIn cX6_missingIn 2 .int 2 44 [.ref a, .int k] [(a, .inr (6, [.int nd, .int (nI n), .ref a_t, .ref a_p, .ref a_m])), (a_t, .inl (gI g, 14, .inl fT)), (a_p, .inl (gI g, 14, .inl fP)), (a_m, .inl (gI g, 14, .inl fM))] (fun r w => r = S_miss fT nd n k ∧ w = [(a, .inr (6, [.int nd, .int (nI n), .ref a_t, .ref a_p, .ref a_m])), (a_t, .inl (gI g, 14, .inl fT)), (a_p, .inl (gI g, 14, .inl fP)), (a_m, .inl (gI g, 14, .inl fM))]) := by
  refine jMI.intro (by decide +kernel) (Nat.le_of_ble_eq_true rfl) (fun x hX hQ => ?_)
  refine j_lv (lv2 := [(0, .ref a), (1, .int k)]) rfl ?_
  refine j_aload_n (pc := 0) hX dX6_missingIn_0 0 rfl ?_
  refine j_get (ci := 6) (pc := 1) hX inG6 rfl 0 (by decide) mw70 0 rfl rfl dX6_missingIn_1 ?_
  refine j_aload_n (pc := 4) hX dX6_missingIn_4 0 rfl ?_
  refine j_iload_n (pc := 5) hX dX6_missingIn_5 1 rfl ?_
  refine j_callVI (n := 1) (As := [.int k]) (rest := [.int nd]) (pc := 6) hX (c_X6_thingsOf g a a_t a_p a_m nd n fT fP fM k (by first | assumption | omega)) (CV.of mw390 mw391 mw392 mw44 mw393 ⟨rfl, by decide +kernel, by decide +kernel, by decide +kernel⟩ (T := TX6) (N := 5) rfl) (Nat.le_of_ble_eq_true rfl) (Nat.le_of_ble_eq_true rfl) (Nat.le_of_ble_eq_true rfl) (Nat.le_of_ble_eq_true rfl) 0 rfl [0, 1, 2, 3] rfl rfl rfl rfl (Nat.le_of_ble_eq_true rfl) dX6_missingIn_6 (fun r1 wz hq2 => ?_)
  obtain ⟨rfl, rfl⟩ := hq2
  refine j_ws (ws2 := [(a, .inr (6, [.int nd, .int (nI n), .ref a_t, .ref a_p, .ref a_m])), (a_t, .inl (gI g, 14, .inl fT)), (a_p, .inl (gI g, 14, .inl fP)), (a_m, .inl (gI g, 14, .inl fM))]) rfl ?_
  refine j_iconst (v := (-1)) (pc := 9) hX dX6_missingIn_9 (by decide) ?_
  refine j_ixor (pc := 10) hX dX6_missingIn_10 ?_
  refine j_iand (pc := 11) hX dX6_missingIn_11 ?_
  exact j_iret (pc := 12) hX hQ dX6_missingIn_12 rfl ⟨(by first | rfl | (simp [jb_t, jb_f]; done)), (by first | rfl | (simp [jb_t, jb_f]; done))⟩

set_option maxHeartbeats 4000000 in
set_option maxRecDepth 100000 in
theorem c_X6_notBarred (g : jG) (a : Nat) (a_t : Nat) (a_p : Nat) (a_m : Nat) (nd : Int32) (n : Nat) (fT : Nat → Int32) (fP : Nat → Int32) (fM : Nat → Int32) (hn : n ≤ 14) : jMI g yX6_notBarred cX6_notBarred 1 .int 1 23 [.ref a] [(a, .inr (6, [.int nd, .int (nI n), .ref a_t, .ref a_p, .ref a_m])), (a_t, .inl (gI g, 14, .inl fT)), (a_p, .inl (gI g, 14, .inl fP)), (a_m, .inl (gI g, 14, .inl fM))] (fun r w => r = S_nb fM n ∧ w = [(a, .inr (6, [.int nd, .int (nI n), .ref a_t, .ref a_p, .ref a_m])), (a_t, .inl (gI g, 14, .inl fT)), (a_p, .inl (gI g, 14, .inl fP)), (a_m, .inl (gI g, 14, .inl fM))]) := by
  refine jMI.intro (by decide +kernel) (Nat.le_of_ble_eq_true rfl) (fun x hX hQ => ?_)
  refine j_lv (lv2 := [(0, .ref a)]) rfl ?_
  refine j_aload_n (pc := 0) hX dX6_notBarred_0 0 rfl ?_
  refine j_iconst (v := 0) (pc := 1) hX dX6_notBarred_1 (by decide) ?_
  refine j_callVI (n := 1) (As := [.int 0]) (rest := []) (pc := 2) hX (c_X6_marked g a a_t a_p a_m nd n fT fP fM 0 (by first | assumption | omega)) (CV.of mw382 mw383 mw384 mw44 mw385 ⟨rfl, by decide +kernel, by decide +kernel, by decide +kernel⟩ (T := TX6) (N := 5) rfl) (Nat.le_of_ble_eq_true rfl) (Nat.le_of_ble_eq_true rfl) (Nat.le_of_ble_eq_true rfl) (Nat.le_of_ble_eq_true rfl) 0 rfl [0, 1, 2, 3] rfl rfl rfl rfl (Nat.le_of_ble_eq_true rfl) dX6_notBarred_2 (fun r1 wz hq2 => ?_)
  obtain ⟨rfl, rfl⟩ := hq2
  refine j_ws (ws2 := [(a, .inr (6, [.int nd, .int (nI n), .ref a_t, .ref a_p, .ref a_m])), (a_t, .inl (gI g, 14, .inl fT)), (a_p, .inl (gI g, 14, .inl fP)), (a_m, .inl (gI g, 14, .inl fM))]) rfl ?_
  refine j_aload_n (pc := 5) hX dX6_notBarred_5 0 rfl ?_
  refine j_iconst (v := 1) (pc := 6) hX dX6_notBarred_6 (by decide) ?_
  refine j_callVI (n := 1) (As := [.int 1]) (rest := [.int (S_mk fM 0 n)]) (pc := 7) hX (c_X6_marked g a a_t a_p a_m nd n fT fP fM 1 (by first | assumption | omega)) (CV.of mw382 mw383 mw384 mw44 mw385 ⟨rfl, by decide +kernel, by decide +kernel, by decide +kernel⟩ (T := TX6) (N := 5) rfl) (Nat.le_of_ble_eq_true rfl) (Nat.le_of_ble_eq_true rfl) (Nat.le_of_ble_eq_true rfl) (Nat.le_of_ble_eq_true rfl) 0 rfl [0, 1, 2, 3] rfl rfl rfl rfl (Nat.le_of_ble_eq_true rfl) dX6_notBarred_7 (fun r3 wz hq4 => ?_)
  obtain ⟨rfl, rfl⟩ := hq4
  refine j_ws (ws2 := [(a, .inr (6, [.int nd, .int (nI n), .ref a_t, .ref a_p, .ref a_m])), (a_t, .inl (gI g, 14, .inl fT)), (a_p, .inl (gI g, 14, .inl fP)), (a_m, .inl (gI g, 14, .inl fM))]) rfl ?_
  refine j_ior (pc := 10) hX dX6_notBarred_10 ?_
  exact j_iret (pc := 11) hX hQ dX6_notBarred_11 rfl ⟨(by first | rfl | (simp [jb_t, jb_f]; done)), (by first | rfl | (simp [jb_t, jb_f]; done))⟩

set_option maxHeartbeats 4000000 in
set_option maxRecDepth 100000 in
theorem c_X6_hasCover (g : jG) (a : Nat) (a_t : Nat) (a_p : Nat) (a_m : Nat) (nd : Int32) (n : Nat) (fT : Nat → Int32) (fP : Nat → Int32) (fM : Nat → Int32) (hn : n ≤ 14) : jMI g yX6_hasCover cX6_hasCover 1 .boolean 3 65 [.ref a] [(a, .inr (6, [.int nd, .int (nI n), .ref a_t, .ref a_p, .ref a_m])), (a_t, .inl (gI g, 14, .inl fT)), (a_p, .inl (gI g, 14, .inl fP)), (a_m, .inl (gI g, 14, .inl fM))] (fun r w => r = jb (S_has fT fM nd n) ∧ w = [(a, .inr (6, [.int nd, .int (nI n), .ref a_t, .ref a_p, .ref a_m])), (a_t, .inl (gI g, 14, .inl fT)), (a_p, .inl (gI g, 14, .inl fP)), (a_m, .inl (gI g, 14, .inl fM))]) := by
  refine jMI.intro (by decide +kernel) (Nat.le_of_ble_eq_true rfl) (fun x hX hQ => ?_)
  refine j_lv (lv2 := [(0, .ref a)]) rfl ?_
  refine j_aload_n (pc := 0) hX dX6_hasCover_0 0 rfl ?_
  refine j_aload_n (pc := 1) hX dX6_hasCover_1 0 rfl ?_
  refine j_callVI (n := 0) (As := []) (rest := [.ref a]) (pc := 2) hX (c_X6_notBarred g a a_t a_p a_m nd n fT fP fM (by first | assumption | omega)) (CV.of mw378 mw379 mw380 mw44 mw381 ⟨rfl, by decide +kernel, by decide +kernel, by decide +kernel⟩ (T := TX6) (N := 5) rfl) (Nat.le_of_ble_eq_true rfl) (Nat.le_of_ble_eq_true rfl) (Nat.le_of_ble_eq_true rfl) (Nat.le_of_ble_eq_true rfl) 0 rfl [0, 1, 2, 3] rfl rfl rfl rfl (Nat.le_of_ble_eq_true rfl) dX6_hasCover_2 (fun r1 wz hq2 => ?_)
  obtain ⟨rfl, rfl⟩ := hq2
  refine j_ws (ws2 := [(a, .inr (6, [.int nd, .int (nI n), .ref a_t, .ref a_p, .ref a_m])), (a_t, .inl (gI g, 14, .inl fT)), (a_p, .inl (gI g, 14, .inl fP)), (a_m, .inl (gI g, 14, .inl fM))]) rfl ?_
  refine j_callVI (n := 1) (As := [.int (S_nb fM n)]) (rest := []) (pc := 5) hX (c_X6_missingIn g a a_t a_p a_m nd n fT fP fM (S_nb fM n) (by first | assumption | omega)) (CV.of mw386 mw387 mw388 mw44 mw389 ⟨rfl, by decide +kernel, by decide +kernel, by decide +kernel⟩ (T := TX6) (N := 5) rfl) (Nat.le_of_ble_eq_true rfl) (Nat.le_of_ble_eq_true rfl) (Nat.le_of_ble_eq_true rfl) (Nat.le_of_ble_eq_true rfl) 0 rfl [0, 1, 2, 3] rfl rfl rfl rfl (Nat.le_of_ble_eq_true rfl) dX6_hasCover_5 (fun r3 wz hq4 => ?_)
  obtain ⟨rfl, rfl⟩ := hq4
  refine j_ws (ws2 := [(a, .inr (6, [.int nd, .int (nI n), .ref a_t, .ref a_p, .ref a_m])), (a_t, .inl (gI g, 14, .inl fT)), (a_p, .inl (gI g, 14, .inl fP)), (a_m, .inl (gI g, 14, .inl fM))]) rfl ?_
  refine j_if_ne (tgt := 15) (pc := 8) hX dX6_hasCover_8 (by decide) (fun c8_5 => ?_) (fun c8_5 => ?_)
  · skip
    refine j_iconst (v := 0) (pc := 15) hX dX6_hasCover_15 (by decide) ?_
    exact j_zret (pc := 16) hX hQ dX6_hasCover_16 (by first | rfl | exact jb_nar _) rfl ⟨(by first | rfl | (simp [jb_t, jb_f, S_has, c8_5]; done)), (by first | rfl | (simp [jb_t, jb_f, S_has, c8_5]; done))⟩
  · skip
    refine j_iconst (v := 1) (pc := 11) hX dX6_hasCover_11 (by decide) ?_
    refine j_goto (tgt := 16) (pc := 12) hX dX6_hasCover_12 (by decide) ?_
    exact j_zret (pc := 16) hX hQ dX6_hasCover_16 (by first | rfl | exact jb_nar _) rfl ⟨(by first | rfl | (simp [jb_t, jb_f, S_has, c8_5]; done)), (by first | rfl | (simp [jb_t, jb_f, S_has, c8_5]; done))⟩

set_option maxHeartbeats 4000000 in
set_option maxRecDepth 100000 in
theorem c_X6_isCover (g : jG) (a : Nat) (a_t : Nat) (a_p : Nat) (a_m : Nat) (nd : Int32) (n : Nat) (fT : Nat → Int32) (fP : Nat → Int32) (fM : Nat → Int32) (k : Int32) (hn : n ≤ 14) : jMI g yX6_isCover cX6_isCover 3 .boolean 3 65 [.ref a, .int k] [(a, .inr (6, [.int nd, .int (nI n), .ref a_t, .ref a_p, .ref a_m])), (a_t, .inl (gI g, 14, .inl fT)), (a_p, .inl (gI g, 14, .inl fP)), (a_m, .inl (gI g, 14, .inl fM))] (fun r w => r = jb (S_cov fT fM nd n k) ∧ w = [(a, .inr (6, [.int nd, .int (nI n), .ref a_t, .ref a_p, .ref a_m])), (a_t, .inl (gI g, 14, .inl fT)), (a_p, .inl (gI g, 14, .inl fP)), (a_m, .inl (gI g, 14, .inl fM))]) := by
  refine jMI.intro (by decide +kernel) (Nat.le_of_ble_eq_true rfl) (fun x hX hQ => ?_)
  refine j_lv (lv2 := [(0, .ref a), (1, .int k)]) rfl ?_
  refine j_aload_n (pc := 0) hX dX6_isCover_0 0 rfl ?_
  refine j_iconst (v := 1) (pc := 1) hX dX6_isCover_1 (by decide) ?_
  refine j_callVI (n := 1) (As := [.int 1]) (rest := []) (pc := 2) hX (c_X6_marked g a a_t a_p a_m nd n fT fP fM 1 (by first | assumption | omega)) (CV.of mw382 mw383 mw384 mw44 mw385 ⟨rfl, by decide +kernel, by decide +kernel, by decide +kernel⟩ (T := TX6) (N := 5) rfl) (Nat.le_of_ble_eq_true rfl) (Nat.le_of_ble_eq_true rfl) (Nat.le_of_ble_eq_true rfl) (Nat.le_of_ble_eq_true rfl) 0 rfl [0, 1, 2, 3] rfl rfl rfl rfl (Nat.le_of_ble_eq_true rfl) dX6_isCover_2 (fun r1 wz hq2 => ?_)
  obtain ⟨rfl, rfl⟩ := hq2
  refine j_ws (ws2 := [(a, .inr (6, [.int nd, .int (nI n), .ref a_t, .ref a_p, .ref a_m])), (a_t, .inl (gI g, 14, .inl fT)), (a_p, .inl (gI g, 14, .inl fP)), (a_m, .inl (gI g, 14, .inl fM))]) rfl ?_
  refine j_istore_n (lv2 := [(0, .ref a), (1, .int k), (2, .int (S_mk fM 1 n))]) (pc := 5) hX dX6_isCover_5 [1, 2, 0] (by decide) rfl ?_
  refine j_iload_n (pc := 6) hX dX6_isCover_6 1 rfl ?_
  refine j_iload_n (pc := 7) hX dX6_isCover_7 2 rfl ?_
  refine j_iand (pc := 8) hX dX6_isCover_8 ?_
  refine j_iload_n (pc := 9) hX dX6_isCover_9 2 rfl ?_
  refine j_icmp_ne (tgt := 35) (pc := 10) hX dX6_isCover_10 (by decide) (fun c10_3 => ?_) (fun c10_3 => ?_)
  · skip
    refine j_iconst (v := 0) (pc := 35) hX dX6_isCover_35 (by decide) ?_
    exact j_zret (pc := 36) hX hQ dX6_isCover_36 (by first | rfl | exact jb_nar _) rfl ⟨(by first | rfl | (simp [jb_t, jb_f, S_cov, c10_3]; done)), (by first | rfl | (simp [jb_t, jb_f, S_cov, c10_3]; done))⟩
  · skip
    refine j_iload_n (pc := 13) hX dX6_isCover_13 1 rfl ?_
    refine j_aload_n (pc := 14) hX dX6_isCover_14 0 rfl ?_
    refine j_iconst (v := 2) (pc := 15) hX dX6_isCover_15 (by decide) ?_
    refine j_callVI (n := 1) (As := [.int 2]) (rest := [.int k]) (pc := 16) hX (c_X6_marked g a a_t a_p a_m nd n fT fP fM 2 (by first | assumption | omega)) (CV.of mw382 mw383 mw384 mw44 mw385 ⟨rfl, by decide +kernel, by decide +kernel, by decide +kernel⟩ (T := TX6) (N := 5) rfl) (Nat.le_of_ble_eq_true rfl) (Nat.le_of_ble_eq_true rfl) (Nat.le_of_ble_eq_true rfl) (Nat.le_of_ble_eq_true rfl) 0 rfl [0, 1, 2, 3] rfl rfl rfl rfl (Nat.le_of_ble_eq_true rfl) dX6_isCover_16 (fun r4 wz hq5 => ?_)
    obtain ⟨rfl, rfl⟩ := hq5
    refine j_ws (ws2 := [(a, .inr (6, [.int nd, .int (nI n), .ref a_t, .ref a_p, .ref a_m])), (a_t, .inl (gI g, 14, .inl fT)), (a_p, .inl (gI g, 14, .inl fP)), (a_m, .inl (gI g, 14, .inl fM))]) rfl ?_
    refine j_iand (pc := 19) hX dX6_isCover_19 ?_
    refine j_if_ne (tgt := 35) (pc := 20) hX dX6_isCover_20 (by decide) (fun c20_6 => ?_) (fun c20_6 => ?_)
    · skip
      refine j_iconst (v := 0) (pc := 35) hX dX6_isCover_35 (by decide) ?_
      exact j_zret (pc := 36) hX hQ dX6_isCover_36 (by first | rfl | exact jb_nar _) rfl ⟨(by first | rfl | (simp [jb_t, jb_f, S_cov, c10_3, c20_6]; done)), (by first | rfl | (simp [jb_t, jb_f, S_cov, c10_3, c20_6]; done))⟩
    · skip
      refine j_aload_n (pc := 23) hX dX6_isCover_23 0 rfl ?_
      refine j_iload_n (pc := 24) hX dX6_isCover_24 1 rfl ?_
      refine j_callVI (n := 1) (As := [.int k]) (rest := []) (pc := 25) hX (c_X6_missingIn g a a_t a_p a_m nd n fT fP fM k (by first | assumption | omega)) (CV.of mw386 mw387 mw388 mw44 mw389 ⟨rfl, by decide +kernel, by decide +kernel, by decide +kernel⟩ (T := TX6) (N := 5) rfl) (Nat.le_of_ble_eq_true rfl) (Nat.le_of_ble_eq_true rfl) (Nat.le_of_ble_eq_true rfl) (Nat.le_of_ble_eq_true rfl) 0 rfl [0, 1, 2, 3] rfl rfl rfl rfl (Nat.le_of_ble_eq_true rfl) dX6_isCover_25 (fun r7 wz hq8 => ?_)
      obtain ⟨rfl, rfl⟩ := hq8
      refine j_ws (ws2 := [(a, .inr (6, [.int nd, .int (nI n), .ref a_t, .ref a_p, .ref a_m])), (a_t, .inl (gI g, 14, .inl fT)), (a_p, .inl (gI g, 14, .inl fP)), (a_m, .inl (gI g, 14, .inl fM))]) rfl ?_
      refine j_if_ne (tgt := 35) (pc := 28) hX dX6_isCover_28 (by decide) (fun c28_9 => ?_) (fun c28_9 => ?_)
      · skip
        refine j_iconst (v := 0) (pc := 35) hX dX6_isCover_35 (by decide) ?_
        exact j_zret (pc := 36) hX hQ dX6_isCover_36 (by first | rfl | exact jb_nar _) rfl ⟨(by first | rfl | (simp [jb_t, jb_f, S_cov, c10_3, c20_6, c28_9]; done)), (by first | rfl | (simp [jb_t, jb_f, S_cov, c10_3, c20_6, c28_9]; done))⟩
      · skip
        refine j_iconst (v := 1) (pc := 31) hX dX6_isCover_31 (by decide) ?_
        refine j_goto (tgt := 36) (pc := 32) hX dX6_isCover_32 (by decide) ?_
        exact j_zret (pc := 36) hX hQ dX6_isCover_36 (by first | rfl | exact jb_nar _) rfl ⟨(by first | rfl | (simp [jb_t, jb_f, S_cov, c10_3, c20_6, c28_9]; done)), (by first | rfl | (simp [jb_t, jb_f, S_cov, c10_3, c20_6, c28_9]; done))⟩


