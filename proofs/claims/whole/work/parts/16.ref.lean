/-! the reference: its row 'now' holds a State -/
def nowF (v : StT) : Nat → Int32 := fun j => if j = 0 then nI v.2.1 else if j = 1 then v.1 else if j < 10 then 0 else if (j - 10) % 3 = 0 then v.2.2.1 ((j - 10) / 3) else if (j - 10) % 3 = 1 then v.2.2.2.1 ((j - 10) / 3) else v.2.2.2.2 ((j - 10) / 3)
theorem nowF_T (v : StT) (k : Nat) : nowF v (10 + (3 * k)) = v.2.2.1 k := by
  unfold nowF
  rw [if_neg (by omega), if_neg (by omega), if_neg (by omega), if_pos (by omega)]
  exact congrArg v.2.2.1 (by omega)
theorem nowF_P (v : StT) (k : Nat) : nowF v ((10 + (3 * k)) + 1) = v.2.2.2.1 k := by
  unfold nowF
  rw [if_neg (by omega), if_neg (by omega), if_neg (by omega), if_neg (by omega), if_pos (by omega)]
  exact congrArg v.2.2.2.1 (by omega)
theorem nowF_M (v : StT) (k : Nat) : nowF v ((10 + (3 * k)) + 2) = v.2.2.2.2 k := by
  unfold nowF
  rw [if_neg (by omega), if_neg (by omega), if_neg (by omega), if_neg (by omega), if_neg (by omega)]
  exact congrArg v.2.2.2.2 (by omega)
theorem nowF_u0 {v : StT} {n : Nat} : upd (nowF v) 0 (nI n) = nowF (v.1, n, v.2.2) := by
  funext j
  unfold upd nowF
  by_cases h : j = 0
  · subst h; rfl
  · simp only [h, if_false]
theorem nowF_u1 {v : StT} {x : Int32} : upd (nowF v) 1 x = nowF (x, v.2) := by
  funext j
  unfold upd nowF
  by_cases h : j = 1
  · subst h; rfl
  · simp only [h, if_false]
theorem nowF_uT {v : StT} {k : Nat} {x : Int32} : upd (nowF v) (10 + (3 * k)) x = nowF (v.1, v.2.1, upd v.2.2.1 k x, v.2.2.2.1, v.2.2.2.2) := by
  funext j
  unfold upd nowF
  dsimp only
  by_cases h : j = 10 + 3 * k
  · subst h
    rw [if_pos rfl, if_neg (by omega), if_neg (by omega), if_neg (by omega), if_pos (by omega), if_pos (by omega)]
  · rw [if_neg h]
    by_cases h3 : j < 10
    · simp only [h3, if_true]
    · have h0 : ¬ j = 0 := by omega
      have h1 : ¬ j = 1 := by omega
      by_cases hr : (j - 10) % 3 = 0
      · simp only [hr, h0, h1, h3, if_true, if_false]
        rw [if_neg (by omega)]
      · simp only [hr, h0, h1, h3, if_false]
theorem nowF_uP {v : StT} {k : Nat} {x : Int32} : upd (nowF v) ((10 + (3 * k)) + 1) x = nowF (v.1, v.2.1, v.2.2.1, upd v.2.2.2.1 k x, v.2.2.2.2) := by
  funext j
  unfold upd nowF
  dsimp only
  by_cases h : j = 10 + 3 * k + 1
  · subst h
    rw [if_pos rfl, if_neg (by omega), if_neg (by omega), if_neg (by omega), if_neg (by omega), if_pos (by omega), if_pos (by omega)]
  · rw [if_neg h]
    by_cases h3 : j < 10
    · simp only [h3, if_true]
    · have h0 : ¬ j = 0 := by omega
      have h1 : ¬ j = 1 := by omega
      by_cases hr : (j - 10) % 3 = 1
      · simp only [hr, h0, h1, h3, if_true, if_false]
        rw [if_neg (show ¬ (j - 10) / 3 = k by omega)]
      · simp only [hr, h0, h1, h3, if_false]
theorem nowF_uM {v : StT} {k : Nat} {x : Int32} : upd (nowF v) ((10 + (3 * k)) + 2) x = nowF (v.1, v.2.1, v.2.2.1, v.2.2.2.1, upd v.2.2.2.2 k x) := by
  funext j
  unfold upd nowF
  dsimp only
  by_cases h : j = 10 + 3 * k + 2
  · subst h
    rw [if_pos rfl, if_neg (by omega), if_neg (by omega), if_neg (by omega), if_neg (by omega), if_neg (by omega), if_pos (by omega)]
  · rw [if_neg h]
    by_cases h3 : j < 10
    · simp only [h3, if_true]
    · by_cases h0 : (j - 10) % 3 = 0
      · simp only [h0, if_true]
      · by_cases hr : (j - 10) % 3 = 1
        · simp only [hr, if_true, h0]
        · simp only [hr, h0, if_false]
          rw [if_neg (show ¬ (j - 10) / 3 = k by omega)]
def S_in (x a b : Int32) : Bool := decide (¬ x < a ∧ ¬ b < x)
theorem isS_eq {n : Nat} (hn : n ≤ 14) (k : Int32) : S_in k 0 (nI n - 1) = S_is n k := by
  unfold S_in S_is
  apply decide_eq_decide.mpr
  constructor
  · rintro ⟨h1, h2⟩
    refine ⟨h1, fun h3 => ?_⟩
    obtain ⟨j, hj, rfl⟩ := nI_of h1
    have h4 := (nI_leI (by omega) hj).mp h3
    by_cases h0 : n = 0
    · subst h0
      exact h2 (by
        have : nI 0 - 1 < nI j := by
          have e : nI 0 - 1 = -1 := by decide
          rw [e]
          rw [Int32.lt_iff_toInt_lt, nI_toInt hj]
          have : (-1 : Int32).toInt = -1 := by decide
          omega
        exact this)
    · have e : nI n - 1 = nI (n - 1) := pk_sub (a := n) (b := 1) (by omega)
      rw [e] at h2
      exact h2 ((nI_ltI (by omega) hj).mpr (by omega))
  · rintro ⟨h1, h2⟩
    refine ⟨h1, fun h3 => ?_⟩
    obtain ⟨j, hj, rfl⟩ := nI_of h1
    have h4 : ¬ n ≤ j := fun h => h2 ((nI_leI (by omega) hj).mpr h)
    have e : nI n - 1 = nI (n - 1) := pk_sub (a := n) (b := 1) (by omega)
    rw [e] at h3
    have := (nI_ltI (by omega) hj).mp h3
    omega
theorem or0 (x : Int32) : x ||| 0 = x := by
  apply b_ext
  intro i hi
  rw [b_or, b_0, Bool.or_false]
theorem add0 (x : Int32) : x + 0 = x := Int32.add_zero x
theorem b_and1 (x : Int32) (h : ¬ x &&& 1 = 1) : x &&& 1 = 0 := by
  have h2 := b_sh1 (m := x) (k := 0) (by decide)
  have e : x >>> (nI 0 &&& 31) = x := by
    apply b_ext
    intro i hi
    rw [b_sshr 0 (by decide) x hi, Nat.zero_add, if_pos hi]
  rw [e] at h2
  rw [h2] at h ⊢
  cases hb : bt x 0 with
  | true => rw [hb] at h; exact absurd rfl h
  | false => rfl
def wM (v : StT) : Nat := 2 ^ v.2.1
theorem wM_le {v : StT} (h : v.2.1 ≤ 14) : wM v ≤ 16384 := pw14 h
def S_size (x : Int32) : Nat → Int32
  | 0 => 0
  | k + 1 => S_size x k + jb (bt x k)

set_option maxHeartbeats 4000000 in
set_option maxRecDepth 100000 in
theorem c_X9_in (g : jG) (x0 : Int32) (y0 : Int32) (z0 : Int32)  : jMI g yX9_in cX9_in 3 .boolean 0 0 [.int x0, .int y0, .int z0] [] (fun rz wz => rz = jb (S_in x0 y0 z0) ∧ wz = []) := by
  refine jMI.intro (by decide +kernel) (Nat.le_of_ble_eq_true rfl) (fun x hX hQ => ?_)
  refine j_lv (lv2 := [(0, .int x0), (1, .int y0), (2, .int z0)]) rfl ?_
  refine j_iload_n (pc := 0) hX dX9_in_0 0 rfl ?_
  refine j_iload_n (pc := 1) hX dX9_in_1 1 rfl ?_
  refine j_icmp_lt (tgt := 14) (pc := 2) hX dX9_in_2 (by decide) (fun c2_1 => ?_) (fun c2_1 => ?_)
  · skip
    refine j_iconst (v := 0) (pc := 14) hX dX9_in_14 (by decide) ?_
    exact j_zret (pc := 15) hX hQ dX9_in_15 (by first | rfl | exact jb_nar _) rfl ⟨(by first | rfl | first | (simp only [jb_t, jb_f, S_in, c2_1, reduceIte, eq_self, decide_true, decide_false, Bool.and_true, Bool.true_and, Bool.and_false, Bool.false_and, Bool.and_self, not_true_eq_false, not_false_eq_true, and_true, true_and, and_false, false_and, and_self]; done) | (simp [jb_t, jb_f, S_in, c2_1]; done)), (by first | rfl | first | (simp only [jb_t, jb_f, S_in, c2_1, reduceIte, eq_self, decide_true, decide_false, Bool.and_true, Bool.true_and, Bool.and_false, Bool.false_and, Bool.and_self, not_true_eq_false, not_false_eq_true, and_true, true_and, and_false, false_and, and_self]; done) | (simp [jb_t, jb_f, S_in, c2_1]; done))⟩
  · skip
    refine j_iload_n (pc := 5) hX dX9_in_5 0 rfl ?_
    refine j_iload_n (pc := 6) hX dX9_in_6 2 rfl ?_
    refine j_icmp_gt (tgt := 14) (pc := 7) hX dX9_in_7 (by decide) (fun c7_2 => ?_) (fun c7_2 => ?_)
    · skip
      refine j_iconst (v := 0) (pc := 14) hX dX9_in_14 (by decide) ?_
      exact j_zret (pc := 15) hX hQ dX9_in_15 (by first | rfl | exact jb_nar _) rfl ⟨(by first | rfl | first | (simp only [jb_t, jb_f, S_in, c2_1, c7_2, reduceIte, eq_self, decide_true, decide_false, Bool.and_true, Bool.true_and, Bool.and_false, Bool.false_and, Bool.and_self, not_true_eq_false, not_false_eq_true, and_true, true_and, and_false, false_and, and_self]; done) | (simp [jb_t, jb_f, S_in, c2_1, c7_2]; done)), (by first | rfl | first | (simp only [jb_t, jb_f, S_in, c2_1, c7_2, reduceIte, eq_self, decide_true, decide_false, Bool.and_true, Bool.true_and, Bool.and_false, Bool.false_and, Bool.and_self, not_true_eq_false, not_false_eq_true, and_true, true_and, and_false, false_and, and_self]; done) | (simp [jb_t, jb_f, S_in, c2_1, c7_2]; done))⟩
    · skip
      refine j_iconst (v := 1) (pc := 10) hX dX9_in_10 (by decide) ?_
      refine j_goto (tgt := 15) (pc := 11) hX dX9_in_11 (by decide) ?_
      exact j_zret (pc := 15) hX hQ dX9_in_15 (by first | rfl | exact jb_nar _) rfl ⟨(by first | rfl | first | (simp only [jb_t, jb_f, S_in, c2_1, c7_2, reduceIte, eq_self, decide_true, decide_false, Bool.and_true, Bool.true_and, Bool.and_false, Bool.false_and, Bool.and_self, not_true_eq_false, not_false_eq_true, and_true, true_and, and_false, false_and, and_self]; done) | (simp [jb_t, jb_f, S_in, c2_1, c7_2]; done)), (by first | rfl | first | (simp only [jb_t, jb_f, S_in, c2_1, c7_2, reduceIte, eq_self, decide_true, decide_false, Bool.and_true, Bool.true_and, Bool.and_false, Bool.false_and, Bool.and_self, not_true_eq_false, not_false_eq_true, and_true, true_and, and_false, false_and, and_self]; done) | (simp [jb_t, jb_f, S_in, c2_1, c7_2]; done))⟩

set_option maxHeartbeats 4000000 in
set_option maxRecDepth 100000 in
theorem c_X9_has (g : jG) (x0 : Int32) (k : Nat) (hk : k < 32) : jMI g yX9_has cX9_has 2 .boolean 0 0 [.int x0, .int (nI k)] [] (fun rz wz => rz = jb (bt x0 k) ∧ wz = []) := by
  refine jMI.intro (by decide +kernel) (Nat.le_of_ble_eq_true rfl) (fun x hX hQ => ?_)
  refine j_lv (lv2 := [(0, .int x0), (1, .int (nI k))]) rfl ?_
  refine j_iload_n (pc := 0) hX dX9_has_0 0 rfl ?_
  refine j_iload_n (pc := 1) hX dX9_has_1 1 rfl ?_
  refine j_ishr (pc := 2) hX dX9_has_2 ?_
  refine j_iconst (v := 1) (pc := 3) hX dX9_has_3 (by decide) ?_
  refine j_iand (pc := 4) hX dX9_has_4 ?_
  refine j_top (b := jb (bt x0 k)) (b_sh1 hk) ?_
  refine j_iconst (v := 1) (pc := 5) hX dX9_has_5 (by decide) ?_
  refine j_icmp_ne (tgt := 13) (pc := 6) hX dX9_has_6 (by decide) (fun c6_1 => ?_) (fun c6_1 => ?_)
  · skip
    refine j_iconst (v := 0) (pc := 13) hX dX9_has_13 (by decide) ?_
    exact j_zret (pc := 14) hX hQ dX9_has_14 (by first | rfl | exact jb_nar _) rfl ⟨(by cases hb : bt x0 k <;> simp_all [jb]), (by first | rfl | first | (simp only [jb_t, jb_f, c6_1, reduceIte, eq_self, decide_true, decide_false, Bool.and_true, Bool.true_and, Bool.and_false, Bool.false_and, Bool.and_self, not_true_eq_false, not_false_eq_true, and_true, true_and, and_false, false_and, and_self]; done) | (simp [jb_t, jb_f, c6_1]; done))⟩
  · skip
    refine j_iconst (v := 1) (pc := 9) hX dX9_has_9 (by decide) ?_
    refine j_goto (tgt := 14) (pc := 10) hX dX9_has_10 (by decide) ?_
    exact j_zret (pc := 14) hX hQ dX9_has_14 (by first | rfl | exact jb_nar _) rfl ⟨(by cases hb : bt x0 k <;> simp_all [jb]), (by first | rfl | first | (simp only [jb_t, jb_f, c6_1, reduceIte, eq_self, decide_true, decide_false, Bool.and_true, Bool.true_and, Bool.and_false, Bool.false_and, Bool.and_self, not_true_eq_false, not_false_eq_true, and_true, true_and, and_false, false_and, and_self]; done) | (simp [jb_t, jb_f, c6_1]; done))⟩

set_option maxHeartbeats 4000000 in
set_option maxRecDepth 100000 in
theorem c_X9_size (g : jG) (x0 : Int32)  : jMI g yX9_size cX9_size 3 .int 0 0 [.int x0] [] (fun rz wz => rz = S_size x0 18 ∧ wz = []) := by
  refine jMI.intro (by decide +kernel) (Nat.le_of_ble_eq_true rfl) (fun x hX hQ => ?_)
  refine j_lv (lv2 := [(0, .int x0)]) rfl ?_
  refine j_iconst (v := 0) (pc := 0) hX dX9_size_0 (by decide) ?_
  refine j_istore_n (lv2 := [(0, .int x0), (1, .int 0)]) (pc := 1) hX dX9_size_1 [1, 0] (by decide) rfl ?_
  refine j_iconst (v := 0) (pc := 2) hX dX9_size_2 (by decide) ?_
  refine j_istore_n (lv2 := [(0, .int x0), (1, .int 0), (2, .int 0)]) (pc := 3) hX dX9_size_3 [1, 2, 0] (by decide) rfl ?_
  have L4 : ∀ (d : Nat) (k : Nat), k ≤ 18 → 18 - k = d → J g x 3 0 0 4 [(0, .int x0), (1, .int (S_size x0 k)), (2, .int (nI k))] [] [] := by
    intro d
    induction d using Nat.strongRecOn with
    | _ d ih4 =>
      intro k hk hd4
      refine j_iload_n (pc := 4) hX dX9_size_4 2 rfl ?_
      refine j_bipush (v := 18) (pc := 5) hX dX9_size_5 (by decide) ?_
      refine j_icmp_ge (tgt := 24) (pc := 7) hX dX9_size_7 (by decide) (fun c7_1 => ?_) (fun c7_1 => ?_)
      · skip
        have c7_1n : 18 ≤ k := (nI_leI (a := 18) (b := k) (by omega) (by omega)).mp c7_1
        have c7_1m : ¬ k < 18 := by omega
        refine j_iload_n (pc := 24) hX dX9_size_24 1 rfl ?_
        exact j_iret (pc := 25) hX hQ dX9_size_25 rfl ⟨(by rw [show k = 18 by omega]), (by first | rfl | first | (simp only [jb_t, jb_f, S_size, c7_1, c7_1n, c7_1m, reduceIte, eq_self, decide_true, decide_false, Bool.and_true, Bool.true_and, Bool.and_false, Bool.false_and, Bool.and_self, not_true_eq_false, not_false_eq_true, and_true, true_and, and_false, false_and, and_self]; done) | (simp [jb_t, jb_f, S_size, c7_1, c7_1n, c7_1m]; done))⟩
      · skip
        have c7_1n : ¬ 18 ≤ k := fun h9 => c7_1 ((nI_leI (a := 18) (b := k) (by omega) (by omega)).mpr h9)
        have c7_1m : k < 18 := by omega
        refine j_iload_n (pc := 10) hX dX9_size_10 1 rfl ?_
        refine j_iload_n (pc := 11) hX dX9_size_11 0 rfl ?_
        refine j_iload_n (pc := 12) hX dX9_size_12 2 rfl ?_
        refine j_ishr (pc := 13) hX dX9_size_13 ?_
        refine j_iconst (v := 1) (pc := 14) hX dX9_size_14 (by decide) ?_
        refine j_iand (pc := 15) hX dX9_size_15 ?_
        refine j_top (b := jb (bt x0 k)) (b_sh1 (by omega)) ?_
        refine j_iadd (pc := 16) hX dX9_size_16 ?_
        refine j_istore_n (lv2 := [(0, .int x0), (1, .int ((S_size x0 k) + (jb (bt x0 k)))), (2, .int (nI k))]) (pc := 17) hX dX9_size_17 [1, 0, 2] (by decide) rfl ?_
        refine j_iinc (v := nI (k + 1)) (lv2 := [(0, .int x0), (1, .int ((S_size x0 k) + (jb (bt x0 k)))), (2, .int (nI (k + 1)))]) (pc := 18) hX dX9_size_18 2 rfl (nI_add k 1) [1, 2, 0] (by decide) rfl ?_
        refine j_goto (tgt := 4) (pc := 21) hX dX9_size_21 (by decide) ?_
        exact j_eq (lv2 := [(0, .int x0), (1, .int (S_size x0 (k + 1))), (2, .int (nI (k + 1)))]) (ws2 := []) (by first | rfl | first | (simp only [jb_t, jb_f, S_size, c7_1, c7_1n, c7_1m, reduceIte, eq_self, decide_true, decide_false, Bool.and_true, Bool.true_and, Bool.and_false, Bool.false_and, Bool.and_self, not_true_eq_false, not_false_eq_true, and_true, true_and, and_false, false_and, and_self]; done) | (simp [jb_t, jb_f, S_size, c7_1, c7_1n, c7_1m]; done)) (by first | rfl | first | (simp only [jb_t, jb_f, S_size, c7_1, c7_1n, c7_1m, reduceIte, eq_self, decide_true, decide_false, Bool.and_true, Bool.true_and, Bool.and_false, Bool.false_and, Bool.and_self, not_true_eq_false, not_false_eq_true, and_true, true_and, and_false, false_and, and_self]; done) | (simp [jb_t, jb_f, S_size, c7_1, c7_1n, c7_1m]; done)) (ih4 _ (by omega) (k + 1) (by omega) rfl)
  exact j_eq (lv2 := [(0, .int x0), (1, .int (S_size x0 0)), (2, .int (nI 0))]) (ws2 := []) (rfl) (rfl) (L4 _ 0 (by omega) rfl)

set_option maxHeartbeats 4000000 in
set_option maxRecDepth 100000 in
theorem c_X9_isSet (g : jG) (m : Nat) (a0 : Nat) (a1 : Nat) (a3 : Nat) (a4 : Nat) (a5 : Nat) (a7 : Nat) (a8 : Nat) (a10 : Nat) (a11 : Nat) (un : Nat) (sg : Nat) (mn : Nat) (ti : Nat) (dr : Int32) (rd : Nat) (op : Int32) (v : StT) (k : Int32) (hv : v.2.1 ≤ 14) : jMI g yX9_isSet cX9_isSet 2 .boolean 1 22 [.ref m, .int k] [(m, .inr (9, [.ref a0, .ref a1, .int (nI un), .ref a3, .ref a4, .ref a5, .int (nI sg), .ref a7, .ref a8, .int (nI mn), .ref a10, .ref a11, .int (nI ti), .int dr, .int (nI rd), .int op])), (a0, .inl (gI g, 60, .inl (nowF v)))] (fun rz wz => rz = jb (S_is v.2.1 k) ∧ wz = [(m, .inr (9, [.ref a0, .ref a1, .int (nI un), .ref a3, .ref a4, .ref a5, .int (nI sg), .ref a7, .ref a8, .int (nI mn), .ref a10, .ref a11, .int (nI ti), .int dr, .int (nI rd), .int op])), (a0, .inl (gI g, 60, .inl (nowF v)))]) := by
  refine jMI.intro (by decide +kernel) (Nat.le_of_ble_eq_true rfl) (fun x hX hQ => ?_)
  refine j_lv (lv2 := [(0, .ref m), (1, .int k)]) rfl ?_
  refine j_iload_n (pc := 0) hX dX9_isSet_0 1 rfl ?_
  refine j_iconst (v := 0) (pc := 1) hX dX9_isSet_1 (by decide) ?_
  refine j_aload_n (pc := 2) hX dX9_isSet_2 0 rfl ?_
  refine j_get (ci := 9) (pc := 3) hX inG9 rfl 0 (by decide) mw624 0 rfl rfl dX9_isSet_3 ?_
  refine j_iconst (v := 0) (pc := 6) hX dX9_isSet_6 (by decide) ?_
  refine j_iald (pc := 7) hX 1 rfl 0 rfl (by omega) (by omega) dX9_isSet_7 ?_
  refine j_top (b := nI v.2.1) (rfl) ?_
  refine j_iconst (v := 1) (pc := 8) hX dX9_isSet_8 (by decide) ?_
  refine j_isub (pc := 9) hX dX9_isSet_9 ?_
  refine j_callSI (n := 3) (As := [.int k, .int 0, .int ((nI v.2.1) - 1)]) (rest := []) (pc := 10) hX (c_X9_in g k 0 ((nI v.2.1) - 1) ) (CS.of mw661 mw662 mw52 mw663 ⟨by decide +kernel, by decide +kernel, by decide +kernel⟩) (Nat.le_of_ble_eq_true rfl) (Nat.le_of_ble_eq_true rfl) (Nat.le_of_ble_eq_true rfl) (Nat.le_of_ble_eq_true rfl) [] (by decide +kernel) rfl rfl rfl (Nat.le_of_ble_eq_true rfl) dX9_isSet_10 (fun r1 wz hq2 => ?_)
  obtain ⟨rfl, rfl⟩ := hq2
  refine j_ws (ws2 := [(m, .inr (9, [.ref a0, .ref a1, .int (nI un), .ref a3, .ref a4, .ref a5, .int (nI sg), .ref a7, .ref a8, .int (nI mn), .ref a10, .ref a11, .int (nI ti), .int dr, .int (nI rd), .int op])), (a0, .inl (gI g, 60, .inl (nowF v)))]) rfl ?_
  refine j_top (b := jb (S_is v.2.1 k)) (by rw [isS_eq hv]) ?_
  exact j_zret (pc := 13) hX hQ dX9_isSet_13 (by first | rfl | exact jb_nar _) rfl ⟨(by first | rfl | first | (simp only [jb_t, jb_f, reduceIte, eq_self, decide_true, decide_false, Bool.and_true, Bool.true_and, Bool.and_false, Bool.false_and, Bool.and_self, not_true_eq_false, not_false_eq_true, and_true, true_and, and_false, false_and, and_self]; done) | (simp [jb_t, jb_f]; done)), (by first | rfl | first | (simp only [jb_t, jb_f, reduceIte, eq_self, decide_true, decide_false, Bool.and_true, Bool.true_and, Bool.and_false, Bool.false_and, Bool.and_self, not_true_eq_false, not_false_eq_true, and_true, true_and, and_false, false_and, and_self]; done) | (simp [jb_t, jb_f]; done))⟩

set_option maxHeartbeats 4000000 in
set_option maxRecDepth 100000 in
theorem c_X9_things (g : jG) (m : Nat) (a0 : Nat) (a1 : Nat) (a3 : Nat) (a4 : Nat) (a5 : Nat) (a7 : Nat) (a8 : Nat) (a10 : Nat) (a11 : Nat) (un : Nat) (sg : Nat) (mn : Nat) (ti : Nat) (dr : Int32) (rd : Nat) (op : Int32) (v : StT) (k : Nat) (hk : k < 15) : jMI g yX9_things cX9_things 2 .int 0 0 [.ref m, .int (nI k)] [(m, .inr (9, [.ref a0, .ref a1, .int (nI un), .ref a3, .ref a4, .ref a5, .int (nI sg), .ref a7, .ref a8, .int (nI mn), .ref a10, .ref a11, .int (nI ti), .int dr, .int (nI rd), .int op])), (a0, .inl (gI g, 60, .inl (nowF v)))] (fun rz wz => rz = v.2.2.1 k ∧ wz = [(m, .inr (9, [.ref a0, .ref a1, .int (nI un), .ref a3, .ref a4, .ref a5, .int (nI sg), .ref a7, .ref a8, .int (nI mn), .ref a10, .ref a11, .int (nI ti), .int dr, .int (nI rd), .int op])), (a0, .inl (gI g, 60, .inl (nowF v)))]) := by
  refine jMI.intro (by decide +kernel) (Nat.le_of_ble_eq_true rfl) (fun x hX hQ => ?_)
  refine j_lv (lv2 := [(0, .ref m), (1, .int (nI k))]) rfl ?_
  refine j_aload_n (pc := 0) hX dX9_things_0 0 rfl ?_
  refine j_get (ci := 9) (pc := 1) hX inG9 rfl 0 (by decide) mw624 0 rfl rfl dX9_things_1 ?_
  refine j_bipush (v := 10) (pc := 4) hX dX9_things_4 (by decide) ?_
  refine j_iconst (v := 3) (pc := 6) hX dX9_things_6 (by decide) ?_
  refine j_iload_n (pc := 7) hX dX9_things_7 1 rfl ?_
  refine j_imul (pc := 8) hX dX9_things_8 ?_
  refine j_top (b := nI (3 * k)) (pk_mul 3 k) ?_
  refine j_iadd (pc := 9) hX dX9_things_9 ?_
  refine j_top (b := nI (10 + (3 * k))) (nI_add 10 (3 * k)) ?_
  refine j_iald (pc := 10) hX 1 rfl (10 + (3 * k)) rfl (by omega) (by omega) dX9_things_10 ?_
  refine j_top (b := v.2.2.1 k) (nowF_T v k) ?_
  exact j_iret (pc := 11) hX hQ dX9_things_11 rfl ⟨(by first | rfl | first | (simp only [jb_t, jb_f, reduceIte, eq_self, decide_true, decide_false, Bool.and_true, Bool.true_and, Bool.and_false, Bool.false_and, Bool.and_self, not_true_eq_false, not_false_eq_true, and_true, true_and, and_false, false_and, and_self]; done) | (simp [jb_t, jb_f]; done)), (by first | rfl | first | (simp only [jb_t, jb_f, reduceIte, eq_self, decide_true, decide_false, Bool.and_true, Bool.true_and, Bool.and_false, Bool.false_and, Bool.and_self, not_true_eq_false, not_false_eq_true, and_true, true_and, and_false, false_and, and_self]; done) | (simp [jb_t, jb_f]; done))⟩

set_option maxHeartbeats 4000000 in
set_option maxRecDepth 100000 in
theorem c_X9_priceOf (g : jG) (m : Nat) (a0 : Nat) (a1 : Nat) (a3 : Nat) (a4 : Nat) (a5 : Nat) (a7 : Nat) (a8 : Nat) (a10 : Nat) (a11 : Nat) (un : Nat) (sg : Nat) (mn : Nat) (ti : Nat) (dr : Int32) (rd : Nat) (op : Int32) (v : StT) (k : Nat) (hk : k < 15) : jMI g yX9_priceOf cX9_priceOf 2 .int 0 0 [.ref m, .int (nI k)] [(m, .inr (9, [.ref a0, .ref a1, .int (nI un), .ref a3, .ref a4, .ref a5, .int (nI sg), .ref a7, .ref a8, .int (nI mn), .ref a10, .ref a11, .int (nI ti), .int dr, .int (nI rd), .int op])), (a0, .inl (gI g, 60, .inl (nowF v)))] (fun rz wz => rz = v.2.2.2.1 k ∧ wz = [(m, .inr (9, [.ref a0, .ref a1, .int (nI un), .ref a3, .ref a4, .ref a5, .int (nI sg), .ref a7, .ref a8, .int (nI mn), .ref a10, .ref a11, .int (nI ti), .int dr, .int (nI rd), .int op])), (a0, .inl (gI g, 60, .inl (nowF v)))]) := by
  refine jMI.intro (by decide +kernel) (Nat.le_of_ble_eq_true rfl) (fun x hX hQ => ?_)
  refine j_lv (lv2 := [(0, .ref m), (1, .int (nI k))]) rfl ?_
  refine j_aload_n (pc := 0) hX dX9_priceOf_0 0 rfl ?_
  refine j_get (ci := 9) (pc := 1) hX inG9 rfl 0 (by decide) mw624 0 rfl rfl dX9_priceOf_1 ?_
  refine j_bipush (v := 10) (pc := 4) hX dX9_priceOf_4 (by decide) ?_
  refine j_iconst (v := 3) (pc := 6) hX dX9_priceOf_6 (by decide) ?_
  refine j_iload_n (pc := 7) hX dX9_priceOf_7 1 rfl ?_
  refine j_imul (pc := 8) hX dX9_priceOf_8 ?_
  refine j_top (b := nI (3 * k)) (pk_mul 3 k) ?_
  refine j_iadd (pc := 9) hX dX9_priceOf_9 ?_
  refine j_top (b := nI (10 + (3 * k))) (nI_add 10 (3 * k)) ?_
  refine j_iconst (v := 1) (pc := 10) hX dX9_priceOf_10 (by decide) ?_
  refine j_iadd (pc := 11) hX dX9_priceOf_11 ?_
  refine j_top (b := nI ((10 + (3 * k)) + 1)) (nI_add (10 + (3 * k)) 1) ?_
  refine j_iald (pc := 12) hX 1 rfl ((10 + (3 * k)) + 1) rfl (by omega) (by omega) dX9_priceOf_12 ?_
  refine j_top (b := v.2.2.2.1 k) (nowF_P v k) ?_
  exact j_iret (pc := 13) hX hQ dX9_priceOf_13 rfl ⟨(by first | rfl | first | (simp only [jb_t, jb_f, reduceIte, eq_self, decide_true, decide_false, Bool.and_true, Bool.true_and, Bool.and_false, Bool.false_and, Bool.and_self, not_true_eq_false, not_false_eq_true, and_true, true_and, and_false, false_and, and_self]; done) | (simp [jb_t, jb_f]; done)), (by first | rfl | first | (simp only [jb_t, jb_f, reduceIte, eq_self, decide_true, decide_false, Bool.and_true, Bool.true_and, Bool.and_false, Bool.false_and, Bool.and_self, not_true_eq_false, not_false_eq_true, and_true, true_and, and_false, false_and, and_self]; done) | (simp [jb_t, jb_f]; done))⟩

set_option maxHeartbeats 4000000 in
set_option maxRecDepth 100000 in
theorem c_X9_markOf (g : jG) (m : Nat) (a0 : Nat) (a1 : Nat) (a3 : Nat) (a4 : Nat) (a5 : Nat) (a7 : Nat) (a8 : Nat) (a10 : Nat) (a11 : Nat) (un : Nat) (sg : Nat) (mn : Nat) (ti : Nat) (dr : Int32) (rd : Nat) (op : Int32) (v : StT) (k : Nat) (hk : k < 15) : jMI g yX9_markOf cX9_markOf 2 .int 0 0 [.ref m, .int (nI k)] [(m, .inr (9, [.ref a0, .ref a1, .int (nI un), .ref a3, .ref a4, .ref a5, .int (nI sg), .ref a7, .ref a8, .int (nI mn), .ref a10, .ref a11, .int (nI ti), .int dr, .int (nI rd), .int op])), (a0, .inl (gI g, 60, .inl (nowF v)))] (fun rz wz => rz = v.2.2.2.2 k ∧ wz = [(m, .inr (9, [.ref a0, .ref a1, .int (nI un), .ref a3, .ref a4, .ref a5, .int (nI sg), .ref a7, .ref a8, .int (nI mn), .ref a10, .ref a11, .int (nI ti), .int dr, .int (nI rd), .int op])), (a0, .inl (gI g, 60, .inl (nowF v)))]) := by
  refine jMI.intro (by decide +kernel) (Nat.le_of_ble_eq_true rfl) (fun x hX hQ => ?_)
  refine j_lv (lv2 := [(0, .ref m), (1, .int (nI k))]) rfl ?_
  refine j_aload_n (pc := 0) hX dX9_markOf_0 0 rfl ?_
  refine j_get (ci := 9) (pc := 1) hX inG9 rfl 0 (by decide) mw624 0 rfl rfl dX9_markOf_1 ?_
  refine j_bipush (v := 10) (pc := 4) hX dX9_markOf_4 (by decide) ?_
  refine j_iconst (v := 3) (pc := 6) hX dX9_markOf_6 (by decide) ?_
  refine j_iload_n (pc := 7) hX dX9_markOf_7 1 rfl ?_
  refine j_imul (pc := 8) hX dX9_markOf_8 ?_
  refine j_top (b := nI (3 * k)) (pk_mul 3 k) ?_
  refine j_iadd (pc := 9) hX dX9_markOf_9 ?_
  refine j_top (b := nI (10 + (3 * k))) (nI_add 10 (3 * k)) ?_
  refine j_iconst (v := 2) (pc := 10) hX dX9_markOf_10 (by decide) ?_
  refine j_iadd (pc := 11) hX dX9_markOf_11 ?_
  refine j_top (b := nI ((10 + (3 * k)) + 2)) (nI_add (10 + (3 * k)) 2) ?_
  refine j_iald (pc := 12) hX 1 rfl ((10 + (3 * k)) + 2) rfl (by omega) (by omega) dX9_markOf_12 ?_
  refine j_top (b := v.2.2.2.2 k) (nowF_M v k) ?_
  exact j_iret (pc := 13) hX hQ dX9_markOf_13 rfl ⟨(by first | rfl | first | (simp only [jb_t, jb_f, reduceIte, eq_self, decide_true, decide_false, Bool.and_true, Bool.true_and, Bool.and_false, Bool.false_and, Bool.and_self, not_true_eq_false, not_false_eq_true, and_true, true_and, and_false, false_and, and_self]; done) | (simp [jb_t, jb_f]; done)), (by first | rfl | first | (simp only [jb_t, jb_f, reduceIte, eq_self, decide_true, decide_false, Bool.and_true, Bool.true_and, Bool.and_false, Bool.false_and, Bool.and_self, not_true_eq_false, not_false_eq_true, and_true, true_and, and_false, false_and, and_self]; done) | (simp [jb_t, jb_f]; done))⟩

set_option maxHeartbeats 4000000 in
set_option maxRecDepth 100000 in
theorem c_X9_masks (g : jG) (m : Nat) (a0 : Nat) (a1 : Nat) (a3 : Nat) (a4 : Nat) (a5 : Nat) (a7 : Nat) (a8 : Nat) (a10 : Nat) (a11 : Nat) (un : Nat) (sg : Nat) (mn : Nat) (ti : Nat) (dr : Int32) (rd : Nat) (op : Int32) (v : StT) (hv : v.2.1 ≤ 14) : jMI g yX9_masks cX9_masks 1 .int 0 0 [.ref m] [(m, .inr (9, [.ref a0, .ref a1, .int (nI un), .ref a3, .ref a4, .ref a5, .int (nI sg), .ref a7, .ref a8, .int (nI mn), .ref a10, .ref a11, .int (nI ti), .int dr, .int (nI rd), .int op])), (a0, .inl (gI g, 60, .inl (nowF v)))] (fun rz wz => rz = nI (wM v) ∧ wz = [(m, .inr (9, [.ref a0, .ref a1, .int (nI un), .ref a3, .ref a4, .ref a5, .int (nI sg), .ref a7, .ref a8, .int (nI mn), .ref a10, .ref a11, .int (nI ti), .int dr, .int (nI rd), .int op])), (a0, .inl (gI g, 60, .inl (nowF v)))]) := by
  refine jMI.intro (by decide +kernel) (Nat.le_of_ble_eq_true rfl) (fun x hX hQ => ?_)
  refine j_lv (lv2 := [(0, .ref m)]) rfl ?_
  refine j_iconst (v := 1) (pc := 0) hX dX9_masks_0 (by decide) ?_
  refine j_aload_n (pc := 1) hX dX9_masks_1 0 rfl ?_
  refine j_get (ci := 9) (pc := 2) hX inG9 rfl 0 (by decide) mw624 0 rfl rfl dX9_masks_2 ?_
  refine j_iconst (v := 0) (pc := 5) hX dX9_masks_5 (by decide) ?_
  refine j_iald (pc := 6) hX 1 rfl 0 rfl (by omega) (by omega) dX9_masks_6 ?_
  refine j_top (b := nI v.2.1) (rfl) ?_
  refine j_ishl (pc := 7) hX dX9_masks_7 ?_
  refine j_top (b := nI (wM v)) (bI_pow _ (by omega)) ?_
  exact j_iret (pc := 8) hX hQ dX9_masks_8 rfl ⟨(by first | rfl | first | (simp only [jb_t, jb_f, reduceIte, eq_self, decide_true, decide_false, Bool.and_true, Bool.true_and, Bool.and_false, Bool.false_and, Bool.and_self, not_true_eq_false, not_false_eq_true, and_true, true_and, and_false, false_and, and_self]; done) | (simp [jb_t, jb_f]; done)), (by first | rfl | first | (simp only [jb_t, jb_f, reduceIte, eq_self, decide_true, decide_false, Bool.and_true, Bool.true_and, Bool.and_false, Bool.false_and, Bool.and_self, not_true_eq_false, not_false_eq_true, and_true, true_and, and_false, false_and, and_self]; done) | (simp [jb_t, jb_f]; done))⟩

set_option maxHeartbeats 4000000 in
set_option maxRecDepth 100000 in
theorem c_X9_setsMarked (g : jG) (m : Nat) (a0 : Nat) (a1 : Nat) (a3 : Nat) (a4 : Nat) (a5 : Nat) (a7 : Nat) (a8 : Nat) (a10 : Nat) (a11 : Nat) (un : Nat) (sg : Nat) (mn : Nat) (ti : Nat) (dr : Int32) (rd : Nat) (op : Int32) (v : StT) (k : Int32) (hv : v.2.1 ≤ 14) : jMI g yX9_setsMarked cX9_setsMarked 4 .int 1 21 [.ref m, .int k] [(m, .inr (9, [.ref a0, .ref a1, .int (nI un), .ref a3, .ref a4, .ref a5, .int (nI sg), .ref a7, .ref a8, .int (nI mn), .ref a10, .ref a11, .int (nI ti), .int dr, .int (nI rd), .int op])), (a0, .inl (gI g, 60, .inl (nowF v)))] (fun rz wz => rz = S_mk v.2.2.2.2 k v.2.1 ∧ wz = [(m, .inr (9, [.ref a0, .ref a1, .int (nI un), .ref a3, .ref a4, .ref a5, .int (nI sg), .ref a7, .ref a8, .int (nI mn), .ref a10, .ref a11, .int (nI ti), .int dr, .int (nI rd), .int op])), (a0, .inl (gI g, 60, .inl (nowF v)))]) := by
  refine jMI.intro (by decide +kernel) (Nat.le_of_ble_eq_true rfl) (fun x hX hQ => ?_)
  refine j_lv (lv2 := [(0, .ref m), (1, .int k)]) rfl ?_
  refine j_iconst (v := 0) (pc := 0) hX dX9_setsMarked_0 (by decide) ?_
  refine j_istore_n (lv2 := [(0, .ref m), (1, .int k), (2, .int 0)]) (pc := 1) hX dX9_setsMarked_1 [1, 2, 0] (by decide) rfl ?_
  refine j_iconst (v := 0) (pc := 2) hX dX9_setsMarked_2 (by decide) ?_
  refine j_istore_n (lv2 := [(0, .ref m), (1, .int k), (2, .int 0), (3, .int 0)]) (pc := 3) hX dX9_setsMarked_3 [1, 2, 3, 0] (by decide) rfl ?_
  have L4 : ∀ (d : Nat) (i : Nat), i ≤ v.2.1 → v.2.1 - i = d → J g x 4 0 0 4 [(0, .ref m), (1, .int k), (2, .int (S_mk v.2.2.2.2 k i)), (3, .int (nI i))] [] [(m, .inr (9, [.ref a0, .ref a1, .int (nI un), .ref a3, .ref a4, .ref a5, .int (nI sg), .ref a7, .ref a8, .int (nI mn), .ref a10, .ref a11, .int (nI ti), .int dr, .int (nI rd), .int op])), (a0, .inl (gI g, 60, .inl (nowF v)))] := by
    intro d
    induction d using Nat.strongRecOn with
    | _ d ih4 =>
      intro i hi hd4
      refine j_iload_n (pc := 4) hX dX9_setsMarked_4 3 rfl ?_
      refine j_aload_n (pc := 5) hX dX9_setsMarked_5 0 rfl ?_
      refine j_get (ci := 9) (pc := 6) hX inG9 rfl 0 (by decide) mw624 0 rfl rfl dX9_setsMarked_6 ?_
      refine j_iconst (v := 0) (pc := 9) hX dX9_setsMarked_9 (by decide) ?_
      refine j_iald (pc := 10) hX 1 rfl 0 rfl (by omega) (by omega) dX9_setsMarked_10 ?_
      refine j_top (b := nI v.2.1) (rfl) ?_
      refine j_icmp_ge (tgt := 39) (pc := 11) hX dX9_setsMarked_11 (by decide) (fun c11_1 => ?_) (fun c11_1 => ?_)
      · skip
        have c11_1n : v.2.1 ≤ i := (nI_leI (a := v.2.1) (b := i) (by omega) (by omega)).mp c11_1
        have c11_1m : ¬ i < v.2.1 := by omega
        refine j_iload_n (pc := 39) hX dX9_setsMarked_39 2 rfl ?_
        exact j_iret (pc := 40) hX hQ dX9_setsMarked_40 rfl ⟨(by rw [show i = v.2.1 by omega]), (by first | rfl | first | (simp only [jb_t, jb_f, S_mk, c11_1, c11_1n, c11_1m, reduceIte, eq_self, decide_true, decide_false, Bool.and_true, Bool.true_and, Bool.and_false, Bool.false_and, Bool.and_self, not_true_eq_false, not_false_eq_true, and_true, true_and, and_false, false_and, and_self]; done) | (simp [jb_t, jb_f, S_mk, c11_1, c11_1n, c11_1m]; done))⟩
      · skip
        have c11_1n : ¬ v.2.1 ≤ i := fun h9 => c11_1 ((nI_leI (a := v.2.1) (b := i) (by omega) (by omega)).mpr h9)
        have c11_1m : i < v.2.1 := by omega
        refine j_iload_n (pc := 14) hX dX9_setsMarked_14 2 rfl ?_
        refine j_aload_n (pc := 15) hX dX9_setsMarked_15 0 rfl ?_
        refine j_iload_n (pc := 16) hX dX9_setsMarked_16 3 rfl ?_
        refine j_callVI (n := 1) (As := [.int (nI i)]) (rest := [.int (S_mk v.2.2.2.2 k i)]) (pc := 17) hX (c_X9_markOf g m a0 a1 a3 a4 a5 a7 a8 a10 a11 un sg mn ti dr rd op v i (by first | assumption | omega)) (CV.of mw688 mw689 mw23 mw52 mw690 ⟨rfl, by decide +kernel, by decide +kernel, by decide +kernel⟩ (T := TX9) (N := 16) rfl) (Nat.le_of_ble_eq_true rfl) (Nat.le_of_ble_eq_true rfl) (Nat.le_of_ble_eq_true rfl) (Nat.le_of_ble_eq_true rfl) 0 rfl [0, 1] (by decide +kernel) rfl rfl rfl (Nat.le_of_ble_eq_true rfl) dX9_setsMarked_17 (fun r2 wz hq3 => ?_)
        obtain ⟨rfl, rfl⟩ := hq3
        refine j_ws (ws2 := [(m, .inr (9, [.ref a0, .ref a1, .int (nI un), .ref a3, .ref a4, .ref a5, .int (nI sg), .ref a7, .ref a8, .int (nI mn), .ref a10, .ref a11, .int (nI ti), .int dr, .int (nI rd), .int op])), (a0, .inl (gI g, 60, .inl (nowF v)))]) rfl ?_
        refine j_iload_n (pc := 20) hX dX9_setsMarked_20 1 rfl ?_
        refine j_icmp_ne (tgt := 30) (pc := 21) hX dX9_setsMarked_21 (by decide) (fun c21_4 => ?_) (fun c21_4 => ?_)
        · skip
          refine j_iconst (v := 0) (pc := 30) hX dX9_setsMarked_30 (by decide) ?_
          refine j_ior (pc := 31) hX dX9_setsMarked_31 ?_
          refine j_istore_n (lv2 := [(0, .ref m), (1, .int k), (2, .int ((S_mk v.2.2.2.2 k i) ||| 0)), (3, .int (nI i))]) (pc := 32) hX dX9_setsMarked_32 [1, 2, 0, 3] (by decide) rfl ?_
          refine j_iinc (v := nI (i + 1)) (lv2 := [(0, .ref m), (1, .int k), (2, .int ((S_mk v.2.2.2.2 k i) ||| 0)), (3, .int (nI (i + 1)))]) (pc := 33) hX dX9_setsMarked_33 3 rfl (nI_add i 1) [1, 2, 3, 0] (by decide) rfl ?_
          refine j_goto (tgt := 4) (pc := 36) hX dX9_setsMarked_36 (by decide) ?_
          exact j_eq (lv2 := [(0, .ref m), (1, .int k), (2, .int (S_mk v.2.2.2.2 k (i + 1))), (3, .int (nI (i + 1)))]) (ws2 := [(m, .inr (9, [.ref a0, .ref a1, .int (nI un), .ref a3, .ref a4, .ref a5, .int (nI sg), .ref a7, .ref a8, .int (nI mn), .ref a10, .ref a11, .int (nI ti), .int dr, .int (nI rd), .int op])), (a0, .inl (gI g, 60, .inl (nowF v)))]) (by first | rfl | (simp only [S_mk, or0, add0, c11_1, c11_1n, c11_1m, c21_4, reduceIte, eq_self]; first | done | rfl) | (simp [S_mk, or0, add0, c11_1, c11_1n, c11_1m, c21_4])) (by first | rfl | (simp only [S_mk, or0, add0, c11_1, c11_1n, c11_1m, c21_4, reduceIte, eq_self]; first | done | rfl) | (simp [S_mk, or0, add0, c11_1, c11_1n, c11_1m, c21_4])) (ih4 _ (by omega) (i + 1) (by omega) rfl)
        · skip
          refine j_iconst (v := 1) (pc := 24) hX dX9_setsMarked_24 (by decide) ?_
          refine j_iload_n (pc := 25) hX dX9_setsMarked_25 3 rfl ?_
          refine j_ishl (pc := 26) hX dX9_setsMarked_26 ?_
          refine j_top (b := bI i) rfl ?_
          refine j_goto (tgt := 31) (pc := 27) hX dX9_setsMarked_27 (by decide) ?_
          refine j_ior (pc := 31) hX dX9_setsMarked_31 ?_
          refine j_istore_n (lv2 := [(0, .ref m), (1, .int k), (2, .int ((S_mk v.2.2.2.2 k i) ||| (bI i))), (3, .int (nI i))]) (pc := 32) hX dX9_setsMarked_32 [1, 2, 0, 3] (by decide) rfl ?_
          refine j_iinc (v := nI (i + 1)) (lv2 := [(0, .ref m), (1, .int k), (2, .int ((S_mk v.2.2.2.2 k i) ||| (bI i))), (3, .int (nI (i + 1)))]) (pc := 33) hX dX9_setsMarked_33 3 rfl (nI_add i 1) [1, 2, 3, 0] (by decide) rfl ?_
          refine j_goto (tgt := 4) (pc := 36) hX dX9_setsMarked_36 (by decide) ?_
          exact j_eq (lv2 := [(0, .ref m), (1, .int k), (2, .int (S_mk v.2.2.2.2 k (i + 1))), (3, .int (nI (i + 1)))]) (ws2 := [(m, .inr (9, [.ref a0, .ref a1, .int (nI un), .ref a3, .ref a4, .ref a5, .int (nI sg), .ref a7, .ref a8, .int (nI mn), .ref a10, .ref a11, .int (nI ti), .int dr, .int (nI rd), .int op])), (a0, .inl (gI g, 60, .inl (nowF v)))]) (by first | rfl | (simp only [S_mk, or0, add0, c11_1, c11_1n, c11_1m, c21_4, reduceIte, eq_self]; first | done | rfl) | (simp [S_mk, or0, add0, c11_1, c11_1n, c11_1m, c21_4])) (by first | rfl | (simp only [S_mk, or0, add0, c11_1, c11_1n, c11_1m, c21_4, reduceIte, eq_self]; first | done | rfl) | (simp [S_mk, or0, add0, c11_1, c11_1n, c11_1m, c21_4])) (ih4 _ (by omega) (i + 1) (by omega) rfl)
  exact j_eq (lv2 := [(0, .ref m), (1, .int k), (2, .int (S_mk v.2.2.2.2 k 0)), (3, .int (nI 0))]) (ws2 := [(m, .inr (9, [.ref a0, .ref a1, .int (nI un), .ref a3, .ref a4, .ref a5, .int (nI sg), .ref a7, .ref a8, .int (nI mn), .ref a10, .ref a11, .int (nI ti), .int dr, .int (nI rd), .int op])), (a0, .inl (gI g, 60, .inl (nowF v)))]) (rfl) (rfl) (L4 _ 0 (by omega) rfl)

set_option maxHeartbeats 4000000 in
set_option maxRecDepth 100000 in
theorem c_X9_thingsOf (g : jG) (m : Nat) (a0 : Nat) (a1 : Nat) (a3 : Nat) (a4 : Nat) (a5 : Nat) (a7 : Nat) (a8 : Nat) (a10 : Nat) (a11 : Nat) (un : Nat) (sg : Nat) (mn : Nat) (ti : Nat) (dr : Int32) (rd : Nat) (op : Int32) (v : StT) (k : Int32) (hv : v.2.1 ≤ 14) : jMI g yX9_thingsOf cX9_thingsOf 4 .int 1 21 [.ref m, .int k] [(m, .inr (9, [.ref a0, .ref a1, .int (nI un), .ref a3, .ref a4, .ref a5, .int (nI sg), .ref a7, .ref a8, .int (nI mn), .ref a10, .ref a11, .int (nI ti), .int dr, .int (nI rd), .int op])), (a0, .inl (gI g, 60, .inl (nowF v)))] (fun rz wz => rz = S_or v.2.2.1 k v.2.1 ∧ wz = [(m, .inr (9, [.ref a0, .ref a1, .int (nI un), .ref a3, .ref a4, .ref a5, .int (nI sg), .ref a7, .ref a8, .int (nI mn), .ref a10, .ref a11, .int (nI ti), .int dr, .int (nI rd), .int op])), (a0, .inl (gI g, 60, .inl (nowF v)))]) := by
  refine jMI.intro (by decide +kernel) (Nat.le_of_ble_eq_true rfl) (fun x hX hQ => ?_)
  refine j_lv (lv2 := [(0, .ref m), (1, .int k)]) rfl ?_
  refine j_iconst (v := 0) (pc := 0) hX dX9_thingsOf_0 (by decide) ?_
  refine j_istore_n (lv2 := [(0, .ref m), (1, .int k), (2, .int 0)]) (pc := 1) hX dX9_thingsOf_1 [1, 2, 0] (by decide) rfl ?_
  refine j_iconst (v := 0) (pc := 2) hX dX9_thingsOf_2 (by decide) ?_
  refine j_istore_n (lv2 := [(0, .ref m), (1, .int k), (2, .int 0), (3, .int 0)]) (pc := 3) hX dX9_thingsOf_3 [1, 2, 3, 0] (by decide) rfl ?_
  have L4 : ∀ (d : Nat) (i : Nat), i ≤ v.2.1 → v.2.1 - i = d → J g x 4 0 0 4 [(0, .ref m), (1, .int k), (2, .int (S_or v.2.2.1 k i)), (3, .int (nI i))] [] [(m, .inr (9, [.ref a0, .ref a1, .int (nI un), .ref a3, .ref a4, .ref a5, .int (nI sg), .ref a7, .ref a8, .int (nI mn), .ref a10, .ref a11, .int (nI ti), .int dr, .int (nI rd), .int op])), (a0, .inl (gI g, 60, .inl (nowF v)))] := by
    intro d
    induction d using Nat.strongRecOn with
    | _ d ih4 =>
      intro i hi hd4
      refine j_iload_n (pc := 4) hX dX9_thingsOf_4 3 rfl ?_
      refine j_aload_n (pc := 5) hX dX9_thingsOf_5 0 rfl ?_
      refine j_get (ci := 9) (pc := 6) hX inG9 rfl 0 (by decide) mw624 0 rfl rfl dX9_thingsOf_6 ?_
      refine j_iconst (v := 0) (pc := 9) hX dX9_thingsOf_9 (by decide) ?_
      refine j_iald (pc := 10) hX 1 rfl 0 rfl (by omega) (by omega) dX9_thingsOf_10 ?_
      refine j_top (b := nI v.2.1) (rfl) ?_
      refine j_icmp_ge (tgt := 40) (pc := 11) hX dX9_thingsOf_11 (by decide) (fun c11_1 => ?_) (fun c11_1 => ?_)
      · skip
        have c11_1n : v.2.1 ≤ i := (nI_leI (a := v.2.1) (b := i) (by omega) (by omega)).mp c11_1
        have c11_1m : ¬ i < v.2.1 := by omega
        refine j_iload_n (pc := 40) hX dX9_thingsOf_40 2 rfl ?_
        exact j_iret (pc := 41) hX hQ dX9_thingsOf_41 rfl ⟨(by rw [show i = v.2.1 by omega]), (by first | rfl | first | (simp only [jb_t, jb_f, S_or, c11_1, c11_1n, c11_1m, reduceIte, eq_self, decide_true, decide_false, Bool.and_true, Bool.true_and, Bool.and_false, Bool.false_and, Bool.and_self, not_true_eq_false, not_false_eq_true, and_true, true_and, and_false, false_and, and_self]; done) | (simp [jb_t, jb_f, S_or, c11_1, c11_1n, c11_1m]; done))⟩
      · skip
        have c11_1n : ¬ v.2.1 ≤ i := fun h9 => c11_1 ((nI_leI (a := v.2.1) (b := i) (by omega) (by omega)).mpr h9)
        have c11_1m : i < v.2.1 := by omega
        refine j_iload_n (pc := 14) hX dX9_thingsOf_14 2 rfl ?_
        refine j_iload_n (pc := 15) hX dX9_thingsOf_15 1 rfl ?_
        refine j_iload_n (pc := 16) hX dX9_thingsOf_16 3 rfl ?_
        refine j_callSI (n := 2) (As := [.int k, .int (nI i)]) (rest := [.int (S_or v.2.2.1 k i)]) (pc := 17) hX (c_X9_has g k i (by first | assumption | omega)) (CS.of mw738 mw739 mw52 mw740 ⟨by decide +kernel, by decide +kernel, by decide +kernel⟩) (Nat.le_of_ble_eq_true rfl) (Nat.le_of_ble_eq_true rfl) (Nat.le_of_ble_eq_true rfl) (Nat.le_of_ble_eq_true rfl) [] (by decide +kernel) rfl rfl rfl (Nat.le_of_ble_eq_true rfl) dX9_thingsOf_17 (fun r2 wz hq3 => ?_)
        obtain ⟨rfl, rfl⟩ := hq3
        refine j_ws (ws2 := [(m, .inr (9, [.ref a0, .ref a1, .int (nI un), .ref a3, .ref a4, .ref a5, .int (nI sg), .ref a7, .ref a8, .int (nI mn), .ref a10, .ref a11, .int (nI ti), .int dr, .int (nI rd), .int op])), (a0, .inl (gI g, 60, .inl (nowF v)))]) rfl ?_
        refine j_if_eq (tgt := 31) (pc := 20) hX dX9_thingsOf_20 (by decide) (fun c20_4 => ?_) (fun c20_4 => ?_)
        · skip
          have c20_4b : (bt k i) = false := jb_0.mp c20_4
          refine j_iconst (v := 0) (pc := 31) hX dX9_thingsOf_31 (by decide) ?_
          refine j_ior (pc := 32) hX dX9_thingsOf_32 ?_
          refine j_istore_n (lv2 := [(0, .ref m), (1, .int k), (2, .int ((S_or v.2.2.1 k i) ||| 0)), (3, .int (nI i))]) (pc := 33) hX dX9_thingsOf_33 [1, 2, 0, 3] (by decide) rfl ?_
          refine j_iinc (v := nI (i + 1)) (lv2 := [(0, .ref m), (1, .int k), (2, .int ((S_or v.2.2.1 k i) ||| 0)), (3, .int (nI (i + 1)))]) (pc := 34) hX dX9_thingsOf_34 3 rfl (nI_add i 1) [1, 2, 3, 0] (by decide) rfl ?_
          refine j_goto (tgt := 4) (pc := 37) hX dX9_thingsOf_37 (by decide) ?_
          exact j_eq (lv2 := [(0, .ref m), (1, .int k), (2, .int (S_or v.2.2.1 k (i + 1))), (3, .int (nI (i + 1)))]) (ws2 := [(m, .inr (9, [.ref a0, .ref a1, .int (nI un), .ref a3, .ref a4, .ref a5, .int (nI sg), .ref a7, .ref a8, .int (nI mn), .ref a10, .ref a11, .int (nI ti), .int dr, .int (nI rd), .int op])), (a0, .inl (gI g, 60, .inl (nowF v)))]) (by first | rfl | (simp only [S_or, or0, add0, c11_1, c11_1n, c11_1m, c20_4, c20_4b, reduceIte, eq_self]; first | done | rfl) | (simp [S_or, or0, add0, c11_1, c11_1n, c11_1m, c20_4, c20_4b])) (by first | rfl | (simp only [S_or, or0, add0, c11_1, c11_1n, c11_1m, c20_4, c20_4b, reduceIte, eq_self]; first | done | rfl) | (simp [S_or, or0, add0, c11_1, c11_1n, c11_1m, c20_4, c20_4b])) (ih4 _ (by omega) (i + 1) (by omega) rfl)
        · skip
          have c20_4b : (bt k i) = true := jb_1.mp c20_4
          refine j_aload_n (pc := 23) hX dX9_thingsOf_23 0 rfl ?_
          refine j_iload_n (pc := 24) hX dX9_thingsOf_24 3 rfl ?_
          refine j_callVI (n := 1) (As := [.int (nI i)]) (rest := [.int (S_or v.2.2.1 k i)]) (pc := 25) hX (c_X9_things g m a0 a1 a3 a4 a5 a7 a8 a10 a11 un sg mn ti dr rd op v i (by first | assumption | omega)) (CV.of mw695 mw696 mw24 mw52 mw697 ⟨rfl, by decide +kernel, by decide +kernel, by decide +kernel⟩ (T := TX9) (N := 16) rfl) (Nat.le_of_ble_eq_true rfl) (Nat.le_of_ble_eq_true rfl) (Nat.le_of_ble_eq_true rfl) (Nat.le_of_ble_eq_true rfl) 0 rfl [0, 1] (by decide +kernel) rfl rfl rfl (Nat.le_of_ble_eq_true rfl) dX9_thingsOf_25 (fun r5 wz hq6 => ?_)
          obtain ⟨rfl, rfl⟩ := hq6
          refine j_ws (ws2 := [(m, .inr (9, [.ref a0, .ref a1, .int (nI un), .ref a3, .ref a4, .ref a5, .int (nI sg), .ref a7, .ref a8, .int (nI mn), .ref a10, .ref a11, .int (nI ti), .int dr, .int (nI rd), .int op])), (a0, .inl (gI g, 60, .inl (nowF v)))]) rfl ?_
          refine j_goto (tgt := 32) (pc := 28) hX dX9_thingsOf_28 (by decide) ?_
          refine j_ior (pc := 32) hX dX9_thingsOf_32 ?_
          refine j_istore_n (lv2 := [(0, .ref m), (1, .int k), (2, .int ((S_or v.2.2.1 k i) ||| (v.2.2.1 i))), (3, .int (nI i))]) (pc := 33) hX dX9_thingsOf_33 [1, 2, 0, 3] (by decide) rfl ?_
          refine j_iinc (v := nI (i + 1)) (lv2 := [(0, .ref m), (1, .int k), (2, .int ((S_or v.2.2.1 k i) ||| (v.2.2.1 i))), (3, .int (nI (i + 1)))]) (pc := 34) hX dX9_thingsOf_34 3 rfl (nI_add i 1) [1, 2, 3, 0] (by decide) rfl ?_
          refine j_goto (tgt := 4) (pc := 37) hX dX9_thingsOf_37 (by decide) ?_
          exact j_eq (lv2 := [(0, .ref m), (1, .int k), (2, .int (S_or v.2.2.1 k (i + 1))), (3, .int (nI (i + 1)))]) (ws2 := [(m, .inr (9, [.ref a0, .ref a1, .int (nI un), .ref a3, .ref a4, .ref a5, .int (nI sg), .ref a7, .ref a8, .int (nI mn), .ref a10, .ref a11, .int (nI ti), .int dr, .int (nI rd), .int op])), (a0, .inl (gI g, 60, .inl (nowF v)))]) (by first | rfl | (simp only [S_or, or0, add0, c11_1, c11_1n, c11_1m, c20_4, c20_4b, reduceIte, eq_self]; first | done | rfl) | (simp [S_or, or0, add0, c11_1, c11_1n, c11_1m, c20_4, c20_4b])) (by first | rfl | (simp only [S_or, or0, add0, c11_1, c11_1n, c11_1m, c20_4, c20_4b, reduceIte, eq_self]; first | done | rfl) | (simp [S_or, or0, add0, c11_1, c11_1n, c11_1m, c20_4, c20_4b])) (ih4 _ (by omega) (i + 1) (by omega) rfl)
  exact j_eq (lv2 := [(0, .ref m), (1, .int k), (2, .int (S_or v.2.2.1 k 0)), (3, .int (nI 0))]) (ws2 := [(m, .inr (9, [.ref a0, .ref a1, .int (nI un), .ref a3, .ref a4, .ref a5, .int (nI sg), .ref a7, .ref a8, .int (nI mn), .ref a10, .ref a11, .int (nI ti), .int dr, .int (nI rd), .int op])), (a0, .inl (gI g, 60, .inl (nowF v)))]) (rfl) (rfl) (L4 _ 0 (by omega) rfl)

set_option maxHeartbeats 4000000 in
set_option maxRecDepth 100000 in
theorem c_X9_pricesOf (g : jG) (m : Nat) (a0 : Nat) (a1 : Nat) (a3 : Nat) (a4 : Nat) (a5 : Nat) (a7 : Nat) (a8 : Nat) (a10 : Nat) (a11 : Nat) (un : Nat) (sg : Nat) (mn : Nat) (ti : Nat) (dr : Int32) (rd : Nat) (op : Int32) (v : StT) (k : Int32) (hv : v.2.1 ≤ 14) : jMI g yX9_pricesOf cX9_pricesOf 4 .int 1 21 [.ref m, .int k] [(m, .inr (9, [.ref a0, .ref a1, .int (nI un), .ref a3, .ref a4, .ref a5, .int (nI sg), .ref a7, .ref a8, .int (nI mn), .ref a10, .ref a11, .int (nI ti), .int dr, .int (nI rd), .int op])), (a0, .inl (gI g, 60, .inl (nowF v)))] (fun rz wz => rz = S_sum v.2.2.2.1 k v.2.1 ∧ wz = [(m, .inr (9, [.ref a0, .ref a1, .int (nI un), .ref a3, .ref a4, .ref a5, .int (nI sg), .ref a7, .ref a8, .int (nI mn), .ref a10, .ref a11, .int (nI ti), .int dr, .int (nI rd), .int op])), (a0, .inl (gI g, 60, .inl (nowF v)))]) := by
  refine jMI.intro (by decide +kernel) (Nat.le_of_ble_eq_true rfl) (fun x hX hQ => ?_)
  refine j_lv (lv2 := [(0, .ref m), (1, .int k)]) rfl ?_
  refine j_iconst (v := 0) (pc := 0) hX dX9_pricesOf_0 (by decide) ?_
  refine j_istore_n (lv2 := [(0, .ref m), (1, .int k), (2, .int 0)]) (pc := 1) hX dX9_pricesOf_1 [1, 2, 0] (by decide) rfl ?_
  refine j_iconst (v := 0) (pc := 2) hX dX9_pricesOf_2 (by decide) ?_
  refine j_istore_n (lv2 := [(0, .ref m), (1, .int k), (2, .int 0), (3, .int 0)]) (pc := 3) hX dX9_pricesOf_3 [1, 2, 3, 0] (by decide) rfl ?_
  have L4 : ∀ (d : Nat) (i : Nat), i ≤ v.2.1 → v.2.1 - i = d → J g x 4 0 0 4 [(0, .ref m), (1, .int k), (2, .int (S_sum v.2.2.2.1 k i)), (3, .int (nI i))] [] [(m, .inr (9, [.ref a0, .ref a1, .int (nI un), .ref a3, .ref a4, .ref a5, .int (nI sg), .ref a7, .ref a8, .int (nI mn), .ref a10, .ref a11, .int (nI ti), .int dr, .int (nI rd), .int op])), (a0, .inl (gI g, 60, .inl (nowF v)))] := by
    intro d
    induction d using Nat.strongRecOn with
    | _ d ih4 =>
      intro i hi hd4
      refine j_iload_n (pc := 4) hX dX9_pricesOf_4 3 rfl ?_
      refine j_aload_n (pc := 5) hX dX9_pricesOf_5 0 rfl ?_
      refine j_get (ci := 9) (pc := 6) hX inG9 rfl 0 (by decide) mw624 0 rfl rfl dX9_pricesOf_6 ?_
      refine j_iconst (v := 0) (pc := 9) hX dX9_pricesOf_9 (by decide) ?_
      refine j_iald (pc := 10) hX 1 rfl 0 rfl (by omega) (by omega) dX9_pricesOf_10 ?_
      refine j_top (b := nI v.2.1) (rfl) ?_
      refine j_icmp_ge (tgt := 40) (pc := 11) hX dX9_pricesOf_11 (by decide) (fun c11_1 => ?_) (fun c11_1 => ?_)
      · skip
        have c11_1n : v.2.1 ≤ i := (nI_leI (a := v.2.1) (b := i) (by omega) (by omega)).mp c11_1
        have c11_1m : ¬ i < v.2.1 := by omega
        refine j_iload_n (pc := 40) hX dX9_pricesOf_40 2 rfl ?_
        exact j_iret (pc := 41) hX hQ dX9_pricesOf_41 rfl ⟨(by rw [show i = v.2.1 by omega]), (by first | rfl | first | (simp only [jb_t, jb_f, S_sum, c11_1, c11_1n, c11_1m, reduceIte, eq_self, decide_true, decide_false, Bool.and_true, Bool.true_and, Bool.and_false, Bool.false_and, Bool.and_self, not_true_eq_false, not_false_eq_true, and_true, true_and, and_false, false_and, and_self]; done) | (simp [jb_t, jb_f, S_sum, c11_1, c11_1n, c11_1m]; done))⟩
      · skip
        have c11_1n : ¬ v.2.1 ≤ i := fun h9 => c11_1 ((nI_leI (a := v.2.1) (b := i) (by omega) (by omega)).mpr h9)
        have c11_1m : i < v.2.1 := by omega
        refine j_iload_n (pc := 14) hX dX9_pricesOf_14 2 rfl ?_
        refine j_iload_n (pc := 15) hX dX9_pricesOf_15 1 rfl ?_
        refine j_iload_n (pc := 16) hX dX9_pricesOf_16 3 rfl ?_
        refine j_callSI (n := 2) (As := [.int k, .int (nI i)]) (rest := [.int (S_sum v.2.2.2.1 k i)]) (pc := 17) hX (c_X9_has g k i (by first | assumption | omega)) (CS.of mw738 mw739 mw52 mw740 ⟨by decide +kernel, by decide +kernel, by decide +kernel⟩) (Nat.le_of_ble_eq_true rfl) (Nat.le_of_ble_eq_true rfl) (Nat.le_of_ble_eq_true rfl) (Nat.le_of_ble_eq_true rfl) [] (by decide +kernel) rfl rfl rfl (Nat.le_of_ble_eq_true rfl) dX9_pricesOf_17 (fun r2 wz hq3 => ?_)
        obtain ⟨rfl, rfl⟩ := hq3
        refine j_ws (ws2 := [(m, .inr (9, [.ref a0, .ref a1, .int (nI un), .ref a3, .ref a4, .ref a5, .int (nI sg), .ref a7, .ref a8, .int (nI mn), .ref a10, .ref a11, .int (nI ti), .int dr, .int (nI rd), .int op])), (a0, .inl (gI g, 60, .inl (nowF v)))]) rfl ?_
        refine j_if_eq (tgt := 31) (pc := 20) hX dX9_pricesOf_20 (by decide) (fun c20_4 => ?_) (fun c20_4 => ?_)
        · skip
          have c20_4b : (bt k i) = false := jb_0.mp c20_4
          refine j_iconst (v := 0) (pc := 31) hX dX9_pricesOf_31 (by decide) ?_
          refine j_iadd (pc := 32) hX dX9_pricesOf_32 ?_
          refine j_istore_n (lv2 := [(0, .ref m), (1, .int k), (2, .int ((S_sum v.2.2.2.1 k i) + 0)), (3, .int (nI i))]) (pc := 33) hX dX9_pricesOf_33 [1, 2, 0, 3] (by decide) rfl ?_
          refine j_iinc (v := nI (i + 1)) (lv2 := [(0, .ref m), (1, .int k), (2, .int ((S_sum v.2.2.2.1 k i) + 0)), (3, .int (nI (i + 1)))]) (pc := 34) hX dX9_pricesOf_34 3 rfl (nI_add i 1) [1, 2, 3, 0] (by decide) rfl ?_
          refine j_goto (tgt := 4) (pc := 37) hX dX9_pricesOf_37 (by decide) ?_
          exact j_eq (lv2 := [(0, .ref m), (1, .int k), (2, .int (S_sum v.2.2.2.1 k (i + 1))), (3, .int (nI (i + 1)))]) (ws2 := [(m, .inr (9, [.ref a0, .ref a1, .int (nI un), .ref a3, .ref a4, .ref a5, .int (nI sg), .ref a7, .ref a8, .int (nI mn), .ref a10, .ref a11, .int (nI ti), .int dr, .int (nI rd), .int op])), (a0, .inl (gI g, 60, .inl (nowF v)))]) (by first | rfl | (simp only [S_sum, or0, add0, c11_1, c11_1n, c11_1m, c20_4, c20_4b, reduceIte, eq_self]; first | done | rfl) | (simp [S_sum, or0, add0, c11_1, c11_1n, c11_1m, c20_4, c20_4b])) (by first | rfl | (simp only [S_sum, or0, add0, c11_1, c11_1n, c11_1m, c20_4, c20_4b, reduceIte, eq_self]; first | done | rfl) | (simp [S_sum, or0, add0, c11_1, c11_1n, c11_1m, c20_4, c20_4b])) (ih4 _ (by omega) (i + 1) (by omega) rfl)
        · skip
          have c20_4b : (bt k i) = true := jb_1.mp c20_4
          refine j_aload_n (pc := 23) hX dX9_pricesOf_23 0 rfl ?_
          refine j_iload_n (pc := 24) hX dX9_pricesOf_24 3 rfl ?_
          refine j_callVI (n := 1) (As := [.int (nI i)]) (rest := [.int (S_sum v.2.2.2.1 k i)]) (pc := 25) hX (c_X9_priceOf g m a0 a1 a3 a4 a5 a7 a8 a10 a11 un sg mn ti dr rd op v i (by first | assumption | omega)) (CV.of mw681 mw682 mw22 mw52 mw683 ⟨rfl, by decide +kernel, by decide +kernel, by decide +kernel⟩ (T := TX9) (N := 16) rfl) (Nat.le_of_ble_eq_true rfl) (Nat.le_of_ble_eq_true rfl) (Nat.le_of_ble_eq_true rfl) (Nat.le_of_ble_eq_true rfl) 0 rfl [0, 1] (by decide +kernel) rfl rfl rfl (Nat.le_of_ble_eq_true rfl) dX9_pricesOf_25 (fun r5 wz hq6 => ?_)
          obtain ⟨rfl, rfl⟩ := hq6
          refine j_ws (ws2 := [(m, .inr (9, [.ref a0, .ref a1, .int (nI un), .ref a3, .ref a4, .ref a5, .int (nI sg), .ref a7, .ref a8, .int (nI mn), .ref a10, .ref a11, .int (nI ti), .int dr, .int (nI rd), .int op])), (a0, .inl (gI g, 60, .inl (nowF v)))]) rfl ?_
          refine j_goto (tgt := 32) (pc := 28) hX dX9_pricesOf_28 (by decide) ?_
          refine j_iadd (pc := 32) hX dX9_pricesOf_32 ?_
          refine j_istore_n (lv2 := [(0, .ref m), (1, .int k), (2, .int ((S_sum v.2.2.2.1 k i) + (v.2.2.2.1 i))), (3, .int (nI i))]) (pc := 33) hX dX9_pricesOf_33 [1, 2, 0, 3] (by decide) rfl ?_
          refine j_iinc (v := nI (i + 1)) (lv2 := [(0, .ref m), (1, .int k), (2, .int ((S_sum v.2.2.2.1 k i) + (v.2.2.2.1 i))), (3, .int (nI (i + 1)))]) (pc := 34) hX dX9_pricesOf_34 3 rfl (nI_add i 1) [1, 2, 3, 0] (by decide) rfl ?_
          refine j_goto (tgt := 4) (pc := 37) hX dX9_pricesOf_37 (by decide) ?_
          exact j_eq (lv2 := [(0, .ref m), (1, .int k), (2, .int (S_sum v.2.2.2.1 k (i + 1))), (3, .int (nI (i + 1)))]) (ws2 := [(m, .inr (9, [.ref a0, .ref a1, .int (nI un), .ref a3, .ref a4, .ref a5, .int (nI sg), .ref a7, .ref a8, .int (nI mn), .ref a10, .ref a11, .int (nI ti), .int dr, .int (nI rd), .int op])), (a0, .inl (gI g, 60, .inl (nowF v)))]) (by first | rfl | (simp only [S_sum, or0, add0, c11_1, c11_1n, c11_1m, c20_4, c20_4b, reduceIte, eq_self]; first | done | rfl) | (simp [S_sum, or0, add0, c11_1, c11_1n, c11_1m, c20_4, c20_4b])) (by first | rfl | (simp only [S_sum, or0, add0, c11_1, c11_1n, c11_1m, c20_4, c20_4b, reduceIte, eq_self]; first | done | rfl) | (simp [S_sum, or0, add0, c11_1, c11_1n, c11_1m, c20_4, c20_4b])) (ih4 _ (by omega) (i + 1) (by omega) rfl)
  exact j_eq (lv2 := [(0, .ref m), (1, .int k), (2, .int (S_sum v.2.2.2.1 k 0)), (3, .int (nI 0))]) (ws2 := [(m, .inr (9, [.ref a0, .ref a1, .int (nI un), .ref a3, .ref a4, .ref a5, .int (nI sg), .ref a7, .ref a8, .int (nI mn), .ref a10, .ref a11, .int (nI ti), .int dr, .int (nI rd), .int op])), (a0, .inl (gI g, 60, .inl (nowF v)))]) (rfl) (rfl) (L4 _ 0 (by omega) rfl)

set_option maxHeartbeats 4000000 in
set_option maxRecDepth 100000 in
theorem c_X9_setsWith (g : jG) (m : Nat) (a0 : Nat) (a1 : Nat) (a3 : Nat) (a4 : Nat) (a5 : Nat) (a7 : Nat) (a8 : Nat) (a10 : Nat) (a11 : Nat) (un : Nat) (sg : Nat) (mn : Nat) (ti : Nat) (dr : Int32) (rd : Nat) (op : Int32) (v : StT) (k : Nat) (hv : v.2.1 ≤ 14) (hk : k < 32) : jMI g yX9_setsWith cX9_setsWith 4 .int 1 21 [.ref m, .int (nI k)] [(m, .inr (9, [.ref a0, .ref a1, .int (nI un), .ref a3, .ref a4, .ref a5, .int (nI sg), .ref a7, .ref a8, .int (nI mn), .ref a10, .ref a11, .int (nI ti), .int dr, .int (nI rd), .int op])), (a0, .inl (gI g, 60, .inl (nowF v)))] (fun rz wz => rz = S_sw v.2.2.1 k v.2.1 ∧ wz = [(m, .inr (9, [.ref a0, .ref a1, .int (nI un), .ref a3, .ref a4, .ref a5, .int (nI sg), .ref a7, .ref a8, .int (nI mn), .ref a10, .ref a11, .int (nI ti), .int dr, .int (nI rd), .int op])), (a0, .inl (gI g, 60, .inl (nowF v)))]) := by
  refine jMI.intro (by decide +kernel) (Nat.le_of_ble_eq_true rfl) (fun x hX hQ => ?_)
  refine j_lv (lv2 := [(0, .ref m), (1, .int (nI k))]) rfl ?_
  refine j_iconst (v := 0) (pc := 0) hX dX9_setsWith_0 (by decide) ?_
  refine j_istore_n (lv2 := [(0, .ref m), (1, .int (nI k)), (2, .int 0)]) (pc := 1) hX dX9_setsWith_1 [1, 2, 0] (by decide) rfl ?_
  refine j_iconst (v := 0) (pc := 2) hX dX9_setsWith_2 (by decide) ?_
  refine j_istore_n (lv2 := [(0, .ref m), (1, .int (nI k)), (2, .int 0), (3, .int 0)]) (pc := 3) hX dX9_setsWith_3 [1, 2, 3, 0] (by decide) rfl ?_
  have L4 : ∀ (d : Nat) (i : Nat), i ≤ v.2.1 → v.2.1 - i = d → J g x 4 0 0 4 [(0, .ref m), (1, .int (nI k)), (2, .int (S_sw v.2.2.1 k i)), (3, .int (nI i))] [] [(m, .inr (9, [.ref a0, .ref a1, .int (nI un), .ref a3, .ref a4, .ref a5, .int (nI sg), .ref a7, .ref a8, .int (nI mn), .ref a10, .ref a11, .int (nI ti), .int dr, .int (nI rd), .int op])), (a0, .inl (gI g, 60, .inl (nowF v)))] := by
    intro d
    induction d using Nat.strongRecOn with
    | _ d ih4 =>
      intro i hi hd4
      refine j_iload_n (pc := 4) hX dX9_setsWith_4 3 rfl ?_
      refine j_aload_n (pc := 5) hX dX9_setsWith_5 0 rfl ?_
      refine j_get (ci := 9) (pc := 6) hX inG9 rfl 0 (by decide) mw624 0 rfl rfl dX9_setsWith_6 ?_
      refine j_iconst (v := 0) (pc := 9) hX dX9_setsWith_9 (by decide) ?_
      refine j_iald (pc := 10) hX 1 rfl 0 rfl (by omega) (by omega) dX9_setsWith_10 ?_
      refine j_top (b := nI v.2.1) (rfl) ?_
      refine j_icmp_ge (tgt := 42) (pc := 11) hX dX9_setsWith_11 (by decide) (fun c11_1 => ?_) (fun c11_1 => ?_)
      · skip
        have c11_1n : v.2.1 ≤ i := (nI_leI (a := v.2.1) (b := i) (by omega) (by omega)).mp c11_1
        have c11_1m : ¬ i < v.2.1 := by omega
        refine j_iload_n (pc := 42) hX dX9_setsWith_42 2 rfl ?_
        exact j_iret (pc := 43) hX hQ dX9_setsWith_43 rfl ⟨(by rw [show i = v.2.1 by omega]), (by first | rfl | first | (simp only [jb_t, jb_f, S_sw, c11_1, c11_1n, c11_1m, reduceIte, eq_self, decide_true, decide_false, Bool.and_true, Bool.true_and, Bool.and_false, Bool.false_and, Bool.and_self, not_true_eq_false, not_false_eq_true, and_true, true_and, and_false, false_and, and_self]; done) | (simp [jb_t, jb_f, S_sw, c11_1, c11_1n, c11_1m]; done))⟩
      · skip
        have c11_1n : ¬ v.2.1 ≤ i := fun h9 => c11_1 ((nI_leI (a := v.2.1) (b := i) (by omega) (by omega)).mpr h9)
        have c11_1m : i < v.2.1 := by omega
        refine j_iload_n (pc := 14) hX dX9_setsWith_14 2 rfl ?_
        refine j_aload_n (pc := 15) hX dX9_setsWith_15 0 rfl ?_
        refine j_iload_n (pc := 16) hX dX9_setsWith_16 3 rfl ?_
        refine j_callVI (n := 1) (As := [.int (nI i)]) (rest := [.int (S_sw v.2.2.1 k i)]) (pc := 17) hX (c_X9_things g m a0 a1 a3 a4 a5 a7 a8 a10 a11 un sg mn ti dr rd op v i (by first | assumption | omega)) (CV.of mw695 mw696 mw24 mw52 mw697 ⟨rfl, by decide +kernel, by decide +kernel, by decide +kernel⟩ (T := TX9) (N := 16) rfl) (Nat.le_of_ble_eq_true rfl) (Nat.le_of_ble_eq_true rfl) (Nat.le_of_ble_eq_true rfl) (Nat.le_of_ble_eq_true rfl) 0 rfl [0, 1] (by decide +kernel) rfl rfl rfl (Nat.le_of_ble_eq_true rfl) dX9_setsWith_17 (fun r2 wz hq3 => ?_)
        obtain ⟨rfl, rfl⟩ := hq3
        refine j_ws (ws2 := [(m, .inr (9, [.ref a0, .ref a1, .int (nI un), .ref a3, .ref a4, .ref a5, .int (nI sg), .ref a7, .ref a8, .int (nI mn), .ref a10, .ref a11, .int (nI ti), .int dr, .int (nI rd), .int op])), (a0, .inl (gI g, 60, .inl (nowF v)))]) rfl ?_
        refine j_iload_n (pc := 20) hX dX9_setsWith_20 1 rfl ?_
        refine j_callSI (n := 2) (As := [.int (v.2.2.1 i), .int (nI k)]) (rest := [.int (S_sw v.2.2.1 k i)]) (pc := 21) hX (c_X9_has g (v.2.2.1 i) k (by first | assumption | omega)) (CS.of mw738 mw739 mw52 mw740 ⟨by decide +kernel, by decide +kernel, by decide +kernel⟩) (Nat.le_of_ble_eq_true rfl) (Nat.le_of_ble_eq_true rfl) (Nat.le_of_ble_eq_true rfl) (Nat.le_of_ble_eq_true rfl) [] (by decide +kernel) rfl rfl rfl (Nat.le_of_ble_eq_true rfl) dX9_setsWith_21 (fun r4 wz hq5 => ?_)
        obtain ⟨rfl, rfl⟩ := hq5
        refine j_ws (ws2 := [(m, .inr (9, [.ref a0, .ref a1, .int (nI un), .ref a3, .ref a4, .ref a5, .int (nI sg), .ref a7, .ref a8, .int (nI mn), .ref a10, .ref a11, .int (nI ti), .int dr, .int (nI rd), .int op])), (a0, .inl (gI g, 60, .inl (nowF v)))]) rfl ?_
        refine j_if_eq (tgt := 33) (pc := 24) hX dX9_setsWith_24 (by decide) (fun c24_6 => ?_) (fun c24_6 => ?_)
        · skip
          have c24_6b : (bt (v.2.2.1 i) k) = false := jb_0.mp c24_6
          refine j_iconst (v := 0) (pc := 33) hX dX9_setsWith_33 (by decide) ?_
          refine j_ior (pc := 34) hX dX9_setsWith_34 ?_
          refine j_istore_n (lv2 := [(0, .ref m), (1, .int (nI k)), (2, .int ((S_sw v.2.2.1 k i) ||| 0)), (3, .int (nI i))]) (pc := 35) hX dX9_setsWith_35 [1, 2, 0, 3] (by decide) rfl ?_
          refine j_iinc (v := nI (i + 1)) (lv2 := [(0, .ref m), (1, .int (nI k)), (2, .int ((S_sw v.2.2.1 k i) ||| 0)), (3, .int (nI (i + 1)))]) (pc := 36) hX dX9_setsWith_36 3 rfl (nI_add i 1) [1, 2, 3, 0] (by decide) rfl ?_
          refine j_goto (tgt := 4) (pc := 39) hX dX9_setsWith_39 (by decide) ?_
          exact j_eq (lv2 := [(0, .ref m), (1, .int (nI k)), (2, .int (S_sw v.2.2.1 k (i + 1))), (3, .int (nI (i + 1)))]) (ws2 := [(m, .inr (9, [.ref a0, .ref a1, .int (nI un), .ref a3, .ref a4, .ref a5, .int (nI sg), .ref a7, .ref a8, .int (nI mn), .ref a10, .ref a11, .int (nI ti), .int dr, .int (nI rd), .int op])), (a0, .inl (gI g, 60, .inl (nowF v)))]) (by first | rfl | (simp only [S_sw, or0, add0, c11_1, c11_1n, c11_1m, c24_6, c24_6b, reduceIte, eq_self]; first | done | rfl) | (simp [S_sw, or0, add0, c11_1, c11_1n, c11_1m, c24_6, c24_6b])) (by first | rfl | (simp only [S_sw, or0, add0, c11_1, c11_1n, c11_1m, c24_6, c24_6b, reduceIte, eq_self]; first | done | rfl) | (simp [S_sw, or0, add0, c11_1, c11_1n, c11_1m, c24_6, c24_6b])) (ih4 _ (by omega) (i + 1) (by omega) rfl)
        · skip
          have c24_6b : (bt (v.2.2.1 i) k) = true := jb_1.mp c24_6
          refine j_iconst (v := 1) (pc := 27) hX dX9_setsWith_27 (by decide) ?_
          refine j_iload_n (pc := 28) hX dX9_setsWith_28 3 rfl ?_
          refine j_ishl (pc := 29) hX dX9_setsWith_29 ?_
          refine j_top (b := bI i) rfl ?_
          refine j_goto (tgt := 34) (pc := 30) hX dX9_setsWith_30 (by decide) ?_
          refine j_ior (pc := 34) hX dX9_setsWith_34 ?_
          refine j_istore_n (lv2 := [(0, .ref m), (1, .int (nI k)), (2, .int ((S_sw v.2.2.1 k i) ||| (bI i))), (3, .int (nI i))]) (pc := 35) hX dX9_setsWith_35 [1, 2, 0, 3] (by decide) rfl ?_
          refine j_iinc (v := nI (i + 1)) (lv2 := [(0, .ref m), (1, .int (nI k)), (2, .int ((S_sw v.2.2.1 k i) ||| (bI i))), (3, .int (nI (i + 1)))]) (pc := 36) hX dX9_setsWith_36 3 rfl (nI_add i 1) [1, 2, 3, 0] (by decide) rfl ?_
          refine j_goto (tgt := 4) (pc := 39) hX dX9_setsWith_39 (by decide) ?_
          exact j_eq (lv2 := [(0, .ref m), (1, .int (nI k)), (2, .int (S_sw v.2.2.1 k (i + 1))), (3, .int (nI (i + 1)))]) (ws2 := [(m, .inr (9, [.ref a0, .ref a1, .int (nI un), .ref a3, .ref a4, .ref a5, .int (nI sg), .ref a7, .ref a8, .int (nI mn), .ref a10, .ref a11, .int (nI ti), .int dr, .int (nI rd), .int op])), (a0, .inl (gI g, 60, .inl (nowF v)))]) (by first | rfl | (simp only [S_sw, or0, add0, c11_1, c11_1n, c11_1m, c24_6, c24_6b, reduceIte, eq_self]; first | done | rfl) | (simp [S_sw, or0, add0, c11_1, c11_1n, c11_1m, c24_6, c24_6b])) (by first | rfl | (simp only [S_sw, or0, add0, c11_1, c11_1n, c11_1m, c24_6, c24_6b, reduceIte, eq_self]; first | done | rfl) | (simp [S_sw, or0, add0, c11_1, c11_1n, c11_1m, c24_6, c24_6b])) (ih4 _ (by omega) (i + 1) (by omega) rfl)
  exact j_eq (lv2 := [(0, .ref m), (1, .int (nI k)), (2, .int (S_sw v.2.2.1 k 0)), (3, .int (nI 0))]) (ws2 := [(m, .inr (9, [.ref a0, .ref a1, .int (nI un), .ref a3, .ref a4, .ref a5, .int (nI sg), .ref a7, .ref a8, .int (nI mn), .ref a10, .ref a11, .int (nI ti), .int dr, .int (nI rd), .int op])), (a0, .inl (gI g, 60, .inl (nowF v)))]) (rfl) (rfl) (L4 _ 0 (by omega) rfl)

set_option maxHeartbeats 4000000 in
set_option maxRecDepth 100000 in
theorem c_X9_isCover (g : jG) (m : Nat) (a0 : Nat) (a1 : Nat) (a3 : Nat) (a4 : Nat) (a5 : Nat) (a7 : Nat) (a8 : Nat) (a10 : Nat) (a11 : Nat) (un : Nat) (sg : Nat) (mn : Nat) (ti : Nat) (dr : Int32) (rd : Nat) (op : Int32) (v : StT) (k : Int32) (hv : v.2.1 ≤ 14) : jMI g yX9_isCover cX9_isCover 3 .boolean 2 44 [.ref m, .int k] [(m, .inr (9, [.ref a0, .ref a1, .int (nI un), .ref a3, .ref a4, .ref a5, .int (nI sg), .ref a7, .ref a8, .int (nI mn), .ref a10, .ref a11, .int (nI ti), .int dr, .int (nI rd), .int op])), (a0, .inl (gI g, 60, .inl (nowF v)))] (fun rz wz => rz = jb (S_cov v.2.2.1 v.2.2.2.2 v.1 v.2.1 k) ∧ wz = [(m, .inr (9, [.ref a0, .ref a1, .int (nI un), .ref a3, .ref a4, .ref a5, .int (nI sg), .ref a7, .ref a8, .int (nI mn), .ref a10, .ref a11, .int (nI ti), .int dr, .int (nI rd), .int op])), (a0, .inl (gI g, 60, .inl (nowF v)))]) := by
  refine jMI.intro (by decide +kernel) (Nat.le_of_ble_eq_true rfl) (fun x hX hQ => ?_)
  refine j_lv (lv2 := [(0, .ref m), (1, .int k)]) rfl ?_
  refine j_aload_n (pc := 0) hX dX9_isCover_0 0 rfl ?_
  refine j_iconst (v := 1) (pc := 1) hX dX9_isCover_1 (by decide) ?_
  refine j_callVI (n := 1) (As := [.int 1]) (rest := []) (pc := 2) hX (c_X9_setsMarked g m a0 a1 a3 a4 a5 a7 a8 a10 a11 un sg mn ti dr rd op v 1 (by first | assumption | omega)) (CV.of mw732 mw733 mw28 mw52 mw734 ⟨rfl, by decide +kernel, by decide +kernel, by decide +kernel⟩ (T := TX9) (N := 16) rfl) (Nat.le_of_ble_eq_true rfl) (Nat.le_of_ble_eq_true rfl) (Nat.le_of_ble_eq_true rfl) (Nat.le_of_ble_eq_true rfl) 0 rfl [0, 1] (by decide +kernel) rfl rfl rfl (Nat.le_of_ble_eq_true rfl) dX9_isCover_2 (fun r1 wz hq2 => ?_)
  obtain ⟨rfl, rfl⟩ := hq2
  refine j_ws (ws2 := [(m, .inr (9, [.ref a0, .ref a1, .int (nI un), .ref a3, .ref a4, .ref a5, .int (nI sg), .ref a7, .ref a8, .int (nI mn), .ref a10, .ref a11, .int (nI ti), .int dr, .int (nI rd), .int op])), (a0, .inl (gI g, 60, .inl (nowF v)))]) rfl ?_
  refine j_istore_n (lv2 := [(0, .ref m), (1, .int k), (2, .int (S_mk v.2.2.2.2 1 v.2.1))]) (pc := 5) hX dX9_isCover_5 [1, 2, 0] (by decide) rfl ?_
  refine j_iload_n (pc := 6) hX dX9_isCover_6 1 rfl ?_
  refine j_aload_n (pc := 7) hX dX9_isCover_7 0 rfl ?_
  refine j_iconst (v := 2) (pc := 8) hX dX9_isCover_8 (by decide) ?_
  refine j_callVI (n := 1) (As := [.int 2]) (rest := [.int k]) (pc := 9) hX (c_X9_setsMarked g m a0 a1 a3 a4 a5 a7 a8 a10 a11 un sg mn ti dr rd op v 2 (by first | assumption | omega)) (CV.of mw732 mw733 mw28 mw52 mw734 ⟨rfl, by decide +kernel, by decide +kernel, by decide +kernel⟩ (T := TX9) (N := 16) rfl) (Nat.le_of_ble_eq_true rfl) (Nat.le_of_ble_eq_true rfl) (Nat.le_of_ble_eq_true rfl) (Nat.le_of_ble_eq_true rfl) 0 rfl [0, 1] (by decide +kernel) rfl rfl rfl (Nat.le_of_ble_eq_true rfl) dX9_isCover_9 (fun r3 wz hq4 => ?_)
  obtain ⟨rfl, rfl⟩ := hq4
  refine j_ws (ws2 := [(m, .inr (9, [.ref a0, .ref a1, .int (nI un), .ref a3, .ref a4, .ref a5, .int (nI sg), .ref a7, .ref a8, .int (nI mn), .ref a10, .ref a11, .int (nI ti), .int dr, .int (nI rd), .int op])), (a0, .inl (gI g, 60, .inl (nowF v)))]) rfl ?_
  refine j_iand (pc := 12) hX dX9_isCover_12 ?_
  refine j_if_ne (tgt := 44) (pc := 13) hX dX9_isCover_13 (by decide) (fun c13_5 => ?_) (fun c13_5 => ?_)
  · skip
    refine j_iconst (v := 0) (pc := 44) hX dX9_isCover_44 (by decide) ?_
    exact j_zret (pc := 45) hX hQ dX9_isCover_45 (by first | rfl | exact jb_nar _) rfl ⟨(by first | rfl | first | (simp only [jb_t, jb_f, S_cov, S_miss, c13_5, reduceIte, eq_self, decide_true, decide_false, Bool.and_true, Bool.true_and, Bool.and_false, Bool.false_and, Bool.and_self, not_true_eq_false, not_false_eq_true, and_true, true_and, and_false, false_and, and_self]; done) | (simp [jb_t, jb_f, S_cov, S_miss, c13_5]; done)), (by first | rfl | first | (simp only [jb_t, jb_f, S_cov, S_miss, c13_5, reduceIte, eq_self, decide_true, decide_false, Bool.and_true, Bool.true_and, Bool.and_false, Bool.false_and, Bool.and_self, not_true_eq_false, not_false_eq_true, and_true, true_and, and_false, false_and, and_self]; done) | (simp [jb_t, jb_f, S_cov, S_miss, c13_5]; done))⟩
  · skip
    refine j_iload_n (pc := 16) hX dX9_isCover_16 1 rfl ?_
    refine j_iload_n (pc := 17) hX dX9_isCover_17 2 rfl ?_
    refine j_iand (pc := 18) hX dX9_isCover_18 ?_
    refine j_iload_n (pc := 19) hX dX9_isCover_19 2 rfl ?_
    refine j_icmp_ne (tgt := 44) (pc := 20) hX dX9_isCover_20 (by decide) (fun c20_6 => ?_) (fun c20_6 => ?_)
    · skip
      refine j_iconst (v := 0) (pc := 44) hX dX9_isCover_44 (by decide) ?_
      exact j_zret (pc := 45) hX hQ dX9_isCover_45 (by first | rfl | exact jb_nar _) rfl ⟨(by first | rfl | first | (simp only [jb_t, jb_f, S_cov, S_miss, c13_5, c20_6, reduceIte, eq_self, decide_true, decide_false, Bool.and_true, Bool.true_and, Bool.and_false, Bool.false_and, Bool.and_self, not_true_eq_false, not_false_eq_true, and_true, true_and, and_false, false_and, and_self]; done) | (simp [jb_t, jb_f, S_cov, S_miss, c13_5, c20_6]; done)), (by first | rfl | first | (simp only [jb_t, jb_f, S_cov, S_miss, c13_5, c20_6, reduceIte, eq_self, decide_true, decide_false, Bool.and_true, Bool.true_and, Bool.and_false, Bool.false_and, Bool.and_self, not_true_eq_false, not_false_eq_true, and_true, true_and, and_false, false_and, and_self]; done) | (simp [jb_t, jb_f, S_cov, S_miss, c13_5, c20_6]; done))⟩
    · skip
      refine j_aload_n (pc := 23) hX dX9_isCover_23 0 rfl ?_
      refine j_get (ci := 9) (pc := 24) hX inG9 rfl 0 (by decide) mw624 0 rfl rfl dX9_isCover_24 ?_
      refine j_iconst (v := 1) (pc := 27) hX dX9_isCover_27 (by decide) ?_
      refine j_iald (pc := 28) hX 1 rfl 1 rfl (by omega) (by omega) dX9_isCover_28 ?_
      refine j_top (b := v.1) (rfl) ?_
      refine j_aload_n (pc := 29) hX dX9_isCover_29 0 rfl ?_
      refine j_iload_n (pc := 30) hX dX9_isCover_30 1 rfl ?_
      refine j_callVI (n := 1) (As := [.int k]) (rest := [.int v.1]) (pc := 31) hX (c_X9_thingsOf g m a0 a1 a3 a4 a5 a7 a8 a10 a11 un sg mn ti dr rd op v k (by first | assumption | omega)) (CV.of mw735 mw736 mw29 mw52 mw737 ⟨rfl, by decide +kernel, by decide +kernel, by decide +kernel⟩ (T := TX9) (N := 16) rfl) (Nat.le_of_ble_eq_true rfl) (Nat.le_of_ble_eq_true rfl) (Nat.le_of_ble_eq_true rfl) (Nat.le_of_ble_eq_true rfl) 0 rfl [0, 1] (by decide +kernel) rfl rfl rfl (Nat.le_of_ble_eq_true rfl) dX9_isCover_31 (fun r7 wz hq8 => ?_)
      obtain ⟨rfl, rfl⟩ := hq8
      refine j_ws (ws2 := [(m, .inr (9, [.ref a0, .ref a1, .int (nI un), .ref a3, .ref a4, .ref a5, .int (nI sg), .ref a7, .ref a8, .int (nI mn), .ref a10, .ref a11, .int (nI ti), .int dr, .int (nI rd), .int op])), (a0, .inl (gI g, 60, .inl (nowF v)))]) rfl ?_
      refine j_iconst (v := (-1)) (pc := 34) hX dX9_isCover_34 (by decide) ?_
      refine j_ixor (pc := 35) hX dX9_isCover_35 ?_
      refine j_iand (pc := 36) hX dX9_isCover_36 ?_
      refine j_if_ne (tgt := 44) (pc := 37) hX dX9_isCover_37 (by decide) (fun c37_9 => ?_) (fun c37_9 => ?_)
      · skip
        refine j_iconst (v := 0) (pc := 44) hX dX9_isCover_44 (by decide) ?_
        exact j_zret (pc := 45) hX hQ dX9_isCover_45 (by first | rfl | exact jb_nar _) rfl ⟨(by first | rfl | first | (simp only [jb_t, jb_f, S_cov, S_miss, c13_5, c20_6, c37_9, reduceIte, eq_self, decide_true, decide_false, Bool.and_true, Bool.true_and, Bool.and_false, Bool.false_and, Bool.and_self, not_true_eq_false, not_false_eq_true, and_true, true_and, and_false, false_and, and_self]; done) | (simp [jb_t, jb_f, S_cov, S_miss, c13_5, c20_6, c37_9]; done)), (by first | rfl | first | (simp only [jb_t, jb_f, S_cov, S_miss, c13_5, c20_6, c37_9, reduceIte, eq_self, decide_true, decide_false, Bool.and_true, Bool.true_and, Bool.and_false, Bool.false_and, Bool.and_self, not_true_eq_false, not_false_eq_true, and_true, true_and, and_false, false_and, and_self]; done) | (simp [jb_t, jb_f, S_cov, S_miss, c13_5, c20_6, c37_9]; done))⟩
      · skip
        refine j_iconst (v := 1) (pc := 40) hX dX9_isCover_40 (by decide) ?_
        refine j_goto (tgt := 45) (pc := 41) hX dX9_isCover_41 (by decide) ?_
        exact j_zret (pc := 45) hX hQ dX9_isCover_45 (by first | rfl | exact jb_nar _) rfl ⟨(by first | rfl | first | (simp only [jb_t, jb_f, S_cov, S_miss, c13_5, c20_6, c37_9, reduceIte, eq_self, decide_true, decide_false, Bool.and_true, Bool.true_and, Bool.and_false, Bool.false_and, Bool.and_self, not_true_eq_false, not_false_eq_true, and_true, true_and, and_false, false_and, and_self]; done) | (simp [jb_t, jb_f, S_cov, S_miss, c13_5, c20_6, c37_9]; done)), (by first | rfl | first | (simp only [jb_t, jb_f, S_cov, S_miss, c13_5, c20_6, c37_9, reduceIte, eq_self, decide_true, decide_false, Bool.and_true, Bool.true_and, Bool.and_false, Bool.false_and, Bool.and_self, not_true_eq_false, not_false_eq_true, and_true, true_and, and_false, false_and, and_self]; done) | (simp [jb_t, jb_f, S_cov, S_miss, c13_5, c20_6, c37_9]; done))⟩

def hasM (v : StT) : Bool := S_cov v.2.2.1 v.2.2.2.2 v.1 v.2.1 ((nI (wM v) - 1) &&& (S_mk v.2.2.2.2 2 v.2.1 ^^^ (-1)))
def lW (v : StT) (a b : Int32) : Nat → Option Nat × Int32
  | 0 => (none, 0)
  | i + 1 => if nI i &&& a = a then (if nI i &&& b = 0 then (if S_cov v.2.2.1 v.2.2.2.2 v.1 v.2.1 (nI i) = true then (if oN (lW v a b i).1 < 0 then (some i, S_sum v.2.2.2.1 (nI i) v.2.1) else if (lW v a b i).2 ≤ S_sum v.2.2.2.1 (nI i) v.2.1 then lW v a b i else (some i, S_sum v.2.2.2.1 (nI i) v.2.1)) else lW v a b i) else lW v a b i) else lW v a b i

set_option maxHeartbeats 4000000 in
set_option maxRecDepth 100000 in
theorem c_X9_hasCover (g : jG) (m : Nat) (a0 : Nat) (a1 : Nat) (a3 : Nat) (a4 : Nat) (a5 : Nat) (a7 : Nat) (a8 : Nat) (a10 : Nat) (a11 : Nat) (un : Nat) (sg : Nat) (mn : Nat) (ti : Nat) (dr : Int32) (rd : Nat) (op : Int32) (v : StT) (hv : v.2.1 ≤ 14) : jMI g yX9_hasCover cX9_hasCover 1 .boolean 3 66 [.ref m] [(m, .inr (9, [.ref a0, .ref a1, .int (nI un), .ref a3, .ref a4, .ref a5, .int (nI sg), .ref a7, .ref a8, .int (nI mn), .ref a10, .ref a11, .int (nI ti), .int dr, .int (nI rd), .int op])), (a0, .inl (gI g, 60, .inl (nowF v)))] (fun rz wz => rz = jb (hasM v) ∧ wz = [(m, .inr (9, [.ref a0, .ref a1, .int (nI un), .ref a3, .ref a4, .ref a5, .int (nI sg), .ref a7, .ref a8, .int (nI mn), .ref a10, .ref a11, .int (nI ti), .int dr, .int (nI rd), .int op])), (a0, .inl (gI g, 60, .inl (nowF v)))]) := by
  refine jMI.intro (by decide +kernel) (Nat.le_of_ble_eq_true rfl) (fun x hX hQ => ?_)
  refine j_lv (lv2 := [(0, .ref m)]) rfl ?_
  refine j_aload_n (pc := 0) hX dX9_hasCover_0 0 rfl ?_
  refine j_aload_n (pc := 1) hX dX9_hasCover_1 0 rfl ?_
  refine j_callVI (n := 0) (As := []) (rest := [.ref m]) (pc := 2) hX (c_X9_masks g m a0 a1 a3 a4 a5 a7 a8 a10 a11 un sg mn ti dr rd op v (by first | assumption | omega)) (CV.of mw729 mw730 mw27 mw52 mw731 ⟨rfl, by decide +kernel, by decide +kernel, by decide +kernel⟩ (T := TX9) (N := 16) rfl) (Nat.le_of_ble_eq_true rfl) (Nat.le_of_ble_eq_true rfl) (Nat.le_of_ble_eq_true rfl) (Nat.le_of_ble_eq_true rfl) 0 rfl [0, 1] (by decide +kernel) rfl rfl rfl (Nat.le_of_ble_eq_true rfl) dX9_hasCover_2 (fun r1 wz hq2 => ?_)
  obtain ⟨rfl, rfl⟩ := hq2
  refine j_ws (ws2 := [(m, .inr (9, [.ref a0, .ref a1, .int (nI un), .ref a3, .ref a4, .ref a5, .int (nI sg), .ref a7, .ref a8, .int (nI mn), .ref a10, .ref a11, .int (nI ti), .int dr, .int (nI rd), .int op])), (a0, .inl (gI g, 60, .inl (nowF v)))]) rfl ?_
  refine j_iconst (v := 1) (pc := 5) hX dX9_hasCover_5 (by decide) ?_
  refine j_isub (pc := 6) hX dX9_hasCover_6 ?_
  refine j_aload_n (pc := 7) hX dX9_hasCover_7 0 rfl ?_
  refine j_iconst (v := 2) (pc := 8) hX dX9_hasCover_8 (by decide) ?_
  refine j_callVI (n := 1) (As := [.int 2]) (rest := [.int ((nI (wM v)) - 1), .ref m]) (pc := 9) hX (c_X9_setsMarked g m a0 a1 a3 a4 a5 a7 a8 a10 a11 un sg mn ti dr rd op v 2 (by first | assumption | omega)) (CV.of mw732 mw733 mw28 mw52 mw734 ⟨rfl, by decide +kernel, by decide +kernel, by decide +kernel⟩ (T := TX9) (N := 16) rfl) (Nat.le_of_ble_eq_true rfl) (Nat.le_of_ble_eq_true rfl) (Nat.le_of_ble_eq_true rfl) (Nat.le_of_ble_eq_true rfl) 0 rfl [0, 1] (by decide +kernel) rfl rfl rfl (Nat.le_of_ble_eq_true rfl) dX9_hasCover_9 (fun r3 wz hq4 => ?_)
  obtain ⟨rfl, rfl⟩ := hq4
  refine j_ws (ws2 := [(m, .inr (9, [.ref a0, .ref a1, .int (nI un), .ref a3, .ref a4, .ref a5, .int (nI sg), .ref a7, .ref a8, .int (nI mn), .ref a10, .ref a11, .int (nI ti), .int dr, .int (nI rd), .int op])), (a0, .inl (gI g, 60, .inl (nowF v)))]) rfl ?_
  refine j_iconst (v := (-1)) (pc := 12) hX dX9_hasCover_12 (by decide) ?_
  refine j_ixor (pc := 13) hX dX9_hasCover_13 ?_
  refine j_iand (pc := 14) hX dX9_hasCover_14 ?_
  refine j_callVI (n := 1) (As := [.int (((nI (wM v)) - 1) &&& ((S_mk v.2.2.2.2 2 v.2.1) ^^^ (-1)))]) (rest := []) (pc := 15) hX (c_X9_isCover g m a0 a1 a3 a4 a5 a7 a8 a10 a11 un sg mn ti dr rd op v (((nI (wM v)) - 1) &&& ((S_mk v.2.2.2.2 2 v.2.1) ^^^ (-1))) (by first | assumption | omega)) (CV.of mw744 mw745 mw31 mw52 mw746 ⟨rfl, by decide +kernel, by decide +kernel, by decide +kernel⟩ (T := TX9) (N := 16) rfl) (Nat.le_of_ble_eq_true rfl) (Nat.le_of_ble_eq_true rfl) (Nat.le_of_ble_eq_true rfl) (Nat.le_of_ble_eq_true rfl) 0 rfl [0, 1] (by decide +kernel) rfl rfl rfl (Nat.le_of_ble_eq_true rfl) dX9_hasCover_15 (fun r5 wz hq6 => ?_)
  obtain ⟨rfl, rfl⟩ := hq6
  refine j_ws (ws2 := [(m, .inr (9, [.ref a0, .ref a1, .int (nI un), .ref a3, .ref a4, .ref a5, .int (nI sg), .ref a7, .ref a8, .int (nI mn), .ref a10, .ref a11, .int (nI ti), .int dr, .int (nI rd), .int op])), (a0, .inl (gI g, 60, .inl (nowF v)))]) rfl ?_
  exact j_zret (pc := 18) hX hQ dX9_hasCover_18 (by first | rfl | exact jb_nar _) rfl ⟨(by first | rfl | first | (simp only [jb_t, jb_f, hasM, reduceIte, eq_self, decide_true, decide_false, Bool.and_true, Bool.true_and, Bool.and_false, Bool.false_and, Bool.and_self, not_true_eq_false, not_false_eq_true, and_true, true_and, and_false, false_and, and_self]; done) | (simp [jb_t, jb_f, hasM]; done)), (by first | rfl | first | (simp only [jb_t, jb_f, hasM, reduceIte, eq_self, decide_true, decide_false, Bool.and_true, Bool.true_and, Bool.and_false, Bool.false_and, Bool.and_self, not_true_eq_false, not_false_eq_true, and_true, true_and, and_false, false_and, and_self]; done) | (simp [jb_t, jb_f, hasM]; done))⟩

set_option maxHeartbeats 4000000 in
set_option maxRecDepth 100000 in
theorem c_X9_leastWith (g : jG) (m : Nat) (a0 : Nat) (a1 : Nat) (a3 : Nat) (a4 : Nat) (a5 : Nat) (a7 : Nat) (a8 : Nat) (a10 : Nat) (a11 : Nat) (un : Nat) (sg : Nat) (mn : Nat) (ti : Nat) (dr : Int32) (rd : Nat) (op : Int32) (v : StT) (x0 : Int32) (y0 : Int32) (hv : v.2.1 ≤ 14) : jMI g yX9_leastWith cX9_leastWith 6 .int 3 66 [.ref m, .int x0, .int y0] [(m, .inr (9, [.ref a0, .ref a1, .int (nI un), .ref a3, .ref a4, .ref a5, .int (nI sg), .ref a7, .ref a8, .int (nI mn), .ref a10, .ref a11, .int (nI ti), .int dr, .int (nI rd), .int op])), (a0, .inl (gI g, 60, .inl (nowF v)))] (fun rz wz => rz = oN (lW v x0 y0 (wM v)).1 ∧ wz = [(m, .inr (9, [.ref a0, .ref a1, .int (nI un), .ref a3, .ref a4, .ref a5, .int (nI sg), .ref a7, .ref a8, .int (nI mn), .ref a10, .ref a11, .int (nI ti), .int dr, .int (nI rd), .int op])), (a0, .inl (gI g, 60, .inl (nowF v)))]) := by
  refine jMI.intro (by decide +kernel) (Nat.le_of_ble_eq_true rfl) (fun x hX hQ => ?_)
  refine j_lv (lv2 := [(0, .ref m), (1, .int x0), (2, .int y0)]) rfl ?_
  have hw5 := wM_le hv
  refine j_bipush (v := (-6)) (pc := 0) hX dX9_leastWith_0 (by decide) ?_
  refine j_istore_n (lv2 := [(0, .ref m), (1, .int x0), (2, .int y0), (3, .int (-6))]) (pc := 2) hX dX9_leastWith_2 [1, 2, 3, 0] (by decide) rfl ?_
  refine j_iconst (v := 0) (pc := 3) hX dX9_leastWith_3 (by decide) ?_
  refine j_istore (lv2 := [(0, .ref m), (1, .int x0), (2, .int y0), (3, .int (-6)), (4, .int 0)]) (pc := 4) hX dX9_leastWith_4 [1, 2, 3, 4, 0] (by decide) rfl ?_
  refine j_iconst (v := 0) (pc := 6) hX dX9_leastWith_6 (by decide) ?_
  refine j_istore (lv2 := [(0, .ref m), (1, .int x0), (2, .int y0), (3, .int (-6)), (4, .int 0), (5, .int 0)]) (pc := 7) hX dX9_leastWith_7 [1, 2, 3, 4, 5, 0] (by decide) rfl ?_
  have L9 : ∀ (d : Nat) (i : Nat), i ≤ wM v → wM v - i = d → J g x 6 0 0 9 [(0, .ref m), (1, .int x0), (2, .int y0), (3, .int (oN (lW v x0 y0 i).1)), (4, .int ((lW v x0 y0 i).2)), (5, .int (nI i))] [] [(m, .inr (9, [.ref a0, .ref a1, .int (nI un), .ref a3, .ref a4, .ref a5, .int (nI sg), .ref a7, .ref a8, .int (nI mn), .ref a10, .ref a11, .int (nI ti), .int dr, .int (nI rd), .int op])), (a0, .inl (gI g, 60, .inl (nowF v)))] := by
    intro d
    induction d using Nat.strongRecOn with
    | _ d ih9 =>
      intro i hi hd9
      refine j_iload (pc := 9) hX dX9_leastWith_9 5 rfl ?_
      refine j_aload_n (pc := 11) hX dX9_leastWith_11 0 rfl ?_
      refine j_callVI (n := 0) (As := []) (rest := [.int (nI i)]) (pc := 12) hX (c_X9_masks g m a0 a1 a3 a4 a5 a7 a8 a10 a11 un sg mn ti dr rd op v (by first | assumption | omega)) (CV.of mw729 mw730 mw27 mw52 mw731 ⟨rfl, by decide +kernel, by decide +kernel, by decide +kernel⟩ (T := TX9) (N := 16) rfl) (Nat.le_of_ble_eq_true rfl) (Nat.le_of_ble_eq_true rfl) (Nat.le_of_ble_eq_true rfl) (Nat.le_of_ble_eq_true rfl) 0 rfl [0, 1] (by decide +kernel) rfl rfl rfl (Nat.le_of_ble_eq_true rfl) dX9_leastWith_12 (fun r1 wz hq2 => ?_)
      obtain ⟨rfl, rfl⟩ := hq2
      refine j_ws (ws2 := [(m, .inr (9, [.ref a0, .ref a1, .int (nI un), .ref a3, .ref a4, .ref a5, .int (nI sg), .ref a7, .ref a8, .int (nI mn), .ref a10, .ref a11, .int (nI ti), .int dr, .int (nI rd), .int op])), (a0, .inl (gI g, 60, .inl (nowF v)))]) rfl ?_
      refine j_icmp_ge (tgt := 74) (pc := 15) hX dX9_leastWith_15 (by decide) (fun c15_3 => ?_) (fun c15_3 => ?_)
      · skip
        have c15_3n : (wM v) ≤ i := (nI_leI (a := (wM v)) (b := i) (by omega) (by omega)).mp c15_3
        have c15_3m : ¬ i < (wM v) := by omega
        refine j_iload_n (pc := 74) hX dX9_leastWith_74 3 rfl ?_
        exact j_iret (pc := 75) hX hQ dX9_leastWith_75 rfl ⟨(by rw [show i = wM v by omega]), (by first | rfl | first | (simp only [jb_t, jb_f, c15_3, c15_3n, c15_3m, reduceIte, eq_self, decide_true, decide_false, Bool.and_true, Bool.true_and, Bool.and_false, Bool.false_and, Bool.and_self, not_true_eq_false, not_false_eq_true, and_true, true_and, and_false, false_and, and_self]; done) | (simp [jb_t, jb_f, c15_3, c15_3n, c15_3m]; done))⟩
      · skip
        have c15_3n : ¬ (wM v) ≤ i := fun h9 => c15_3 ((nI_leI (a := (wM v)) (b := i) (by omega) (by omega)).mpr h9)
        have c15_3m : i < (wM v) := by omega
        refine j_iload (pc := 18) hX dX9_leastWith_18 5 rfl ?_
        refine j_iload_n (pc := 20) hX dX9_leastWith_20 1 rfl ?_
        refine j_iand (pc := 21) hX dX9_leastWith_21 ?_
        refine j_iload_n (pc := 22) hX dX9_leastWith_22 1 rfl ?_
        refine j_icmp_ne (tgt := 68) (pc := 23) hX dX9_leastWith_23 (by decide) (fun c23_4 => ?_) (fun c23_4 => ?_)
        · skip
          refine j_iinc (v := nI (i + 1)) (lv2 := [(0, .ref m), (1, .int x0), (2, .int y0), (3, .int (oN (lW v x0 y0 i).1)), (4, .int ((lW v x0 y0 i).2)), (5, .int (nI (i + 1)))]) (pc := 68) hX dX9_leastWith_68 5 rfl (nI_add i 1) [1, 2, 3, 4, 5, 0] (by decide) rfl ?_
          refine j_goto (tgt := 9) (pc := 71) hX dX9_leastWith_71 (by decide) ?_
          exact j_eq (lv2 := [(0, .ref m), (1, .int x0), (2, .int y0), (3, .int (oN (lW v x0 y0 (i + 1)).1)), (4, .int ((lW v x0 y0 (i + 1)).2)), (5, .int (nI (i + 1)))]) (ws2 := [(m, .inr (9, [.ref a0, .ref a1, .int (nI un), .ref a3, .ref a4, .ref a5, .int (nI sg), .ref a7, .ref a8, .int (nI mn), .ref a10, .ref a11, .int (nI ti), .int dr, .int (nI rd), .int op])), (a0, .inl (gI g, 60, .inl (nowF v)))]) (by first | rfl | (simp only [lW, c15_3, c15_3n, c15_3m, c23_4, reduceIte, eq_self]; first | done | rfl)) (by first | rfl | (simp only [lW, c15_3, c15_3n, c15_3m, c23_4, reduceIte, eq_self]; first | done | rfl)) (ih9 _ (by omega) (i + 1) (by omega) rfl)
        · skip
          refine j_iload (pc := 26) hX dX9_leastWith_26 5 rfl ?_
          refine j_iload_n (pc := 28) hX dX9_leastWith_28 2 rfl ?_
          refine j_iand (pc := 29) hX dX9_leastWith_29 ?_
          refine j_if_ne (tgt := 68) (pc := 30) hX dX9_leastWith_30 (by decide) (fun c30_5 => ?_) (fun c30_5 => ?_)
          · skip
            refine j_iinc (v := nI (i + 1)) (lv2 := [(0, .ref m), (1, .int x0), (2, .int y0), (3, .int (oN (lW v x0 y0 i).1)), (4, .int ((lW v x0 y0 i).2)), (5, .int (nI (i + 1)))]) (pc := 68) hX dX9_leastWith_68 5 rfl (nI_add i 1) [1, 2, 3, 4, 5, 0] (by decide) rfl ?_
            refine j_goto (tgt := 9) (pc := 71) hX dX9_leastWith_71 (by decide) ?_
            exact j_eq (lv2 := [(0, .ref m), (1, .int x0), (2, .int y0), (3, .int (oN (lW v x0 y0 (i + 1)).1)), (4, .int ((lW v x0 y0 (i + 1)).2)), (5, .int (nI (i + 1)))]) (ws2 := [(m, .inr (9, [.ref a0, .ref a1, .int (nI un), .ref a3, .ref a4, .ref a5, .int (nI sg), .ref a7, .ref a8, .int (nI mn), .ref a10, .ref a11, .int (nI ti), .int dr, .int (nI rd), .int op])), (a0, .inl (gI g, 60, .inl (nowF v)))]) (by first | rfl | (simp only [lW, c15_3, c15_3n, c15_3m, c23_4, c30_5, reduceIte, eq_self]; first | done | rfl)) (by first | rfl | (simp only [lW, c15_3, c15_3n, c15_3m, c23_4, c30_5, reduceIte, eq_self]; first | done | rfl)) (ih9 _ (by omega) (i + 1) (by omega) rfl)
          · skip
            refine j_aload_n (pc := 33) hX dX9_leastWith_33 0 rfl ?_
            refine j_iload (pc := 34) hX dX9_leastWith_34 5 rfl ?_
            refine j_callVI (n := 1) (As := [.int (nI i)]) (rest := []) (pc := 36) hX (c_X9_isCover g m a0 a1 a3 a4 a5 a7 a8 a10 a11 un sg mn ti dr rd op v (nI i) (by first | assumption | omega)) (CV.of mw744 mw745 mw31 mw52 mw746 ⟨rfl, by decide +kernel, by decide +kernel, by decide +kernel⟩ (T := TX9) (N := 16) rfl) (Nat.le_of_ble_eq_true rfl) (Nat.le_of_ble_eq_true rfl) (Nat.le_of_ble_eq_true rfl) (Nat.le_of_ble_eq_true rfl) 0 rfl [0, 1] (by decide +kernel) rfl rfl rfl (Nat.le_of_ble_eq_true rfl) dX9_leastWith_36 (fun r6 wz hq7 => ?_)
            obtain ⟨rfl, rfl⟩ := hq7
            refine j_ws (ws2 := [(m, .inr (9, [.ref a0, .ref a1, .int (nI un), .ref a3, .ref a4, .ref a5, .int (nI sg), .ref a7, .ref a8, .int (nI mn), .ref a10, .ref a11, .int (nI ti), .int dr, .int (nI rd), .int op])), (a0, .inl (gI g, 60, .inl (nowF v)))]) rfl ?_
            refine j_if_eq (tgt := 68) (pc := 39) hX dX9_leastWith_39 (by decide) (fun c39_8 => ?_) (fun c39_8 => ?_)
            · skip
              have c39_8b : (S_cov v.2.2.1 v.2.2.2.2 v.1 v.2.1 (nI i)) = false := jb_0.mp c39_8
              refine j_iinc (v := nI (i + 1)) (lv2 := [(0, .ref m), (1, .int x0), (2, .int y0), (3, .int (oN (lW v x0 y0 i).1)), (4, .int ((lW v x0 y0 i).2)), (5, .int (nI (i + 1)))]) (pc := 68) hX dX9_leastWith_68 5 rfl (nI_add i 1) [1, 2, 3, 4, 5, 0] (by decide) rfl ?_
              refine j_goto (tgt := 9) (pc := 71) hX dX9_leastWith_71 (by decide) ?_
              exact j_eq (lv2 := [(0, .ref m), (1, .int x0), (2, .int y0), (3, .int (oN (lW v x0 y0 (i + 1)).1)), (4, .int ((lW v x0 y0 (i + 1)).2)), (5, .int (nI (i + 1)))]) (ws2 := [(m, .inr (9, [.ref a0, .ref a1, .int (nI un), .ref a3, .ref a4, .ref a5, .int (nI sg), .ref a7, .ref a8, .int (nI mn), .ref a10, .ref a11, .int (nI ti), .int dr, .int (nI rd), .int op])), (a0, .inl (gI g, 60, .inl (nowF v)))]) (by first | rfl | (simp only [lW, c15_3, c15_3n, c15_3m, c23_4, c30_5, c39_8, c39_8b, reduceIte, eq_self]; first | done | rfl)) (by first | rfl | (simp only [lW, c15_3, c15_3n, c15_3m, c23_4, c30_5, c39_8, c39_8b, reduceIte, eq_self]; first | done | rfl)) (ih9 _ (by omega) (i + 1) (by omega) rfl)
            · skip
              have c39_8b : (S_cov v.2.2.1 v.2.2.2.2 v.1 v.2.1 (nI i)) = true := jb_1.mp c39_8
              refine j_iload_n (pc := 42) hX dX9_leastWith_42 3 rfl ?_
              refine j_if_lt (tgt := 57) (pc := 43) hX dX9_leastWith_43 (by decide) (fun c43_9 => ?_) (fun c43_9 => ?_)
              · skip
                refine j_iload (pc := 57) hX dX9_leastWith_57 5 rfl ?_
                refine j_istore_n (lv2 := [(0, .ref m), (1, .int x0), (2, .int y0), (3, .int (nI i)), (4, .int ((lW v x0 y0 i).2)), (5, .int (nI i))]) (pc := 59) hX dX9_leastWith_59 [1, 2, 3, 0, 4, 5] (by decide) rfl ?_
                refine j_aload_n (pc := 60) hX dX9_leastWith_60 0 rfl ?_
                refine j_iload (pc := 61) hX dX9_leastWith_61 5 rfl ?_
                refine j_callVI (n := 1) (As := [.int (nI i)]) (rest := []) (pc := 63) hX (c_X9_pricesOf g m a0 a1 a3 a4 a5 a7 a8 a10 a11 un sg mn ti dr rd op v (nI i) (by first | assumption | omega)) (CV.of mw783 mw784 mw39 mw52 mw785 ⟨rfl, by decide +kernel, by decide +kernel, by decide +kernel⟩ (T := TX9) (N := 16) rfl) (Nat.le_of_ble_eq_true rfl) (Nat.le_of_ble_eq_true rfl) (Nat.le_of_ble_eq_true rfl) (Nat.le_of_ble_eq_true rfl) 0 rfl [0, 1] (by decide +kernel) rfl rfl rfl (Nat.le_of_ble_eq_true rfl) dX9_leastWith_63 (fun r10 wz hq11 => ?_)
                obtain ⟨rfl, rfl⟩ := hq11
                refine j_ws (ws2 := [(m, .inr (9, [.ref a0, .ref a1, .int (nI un), .ref a3, .ref a4, .ref a5, .int (nI sg), .ref a7, .ref a8, .int (nI mn), .ref a10, .ref a11, .int (nI ti), .int dr, .int (nI rd), .int op])), (a0, .inl (gI g, 60, .inl (nowF v)))]) rfl ?_
                refine j_istore (lv2 := [(0, .ref m), (1, .int x0), (2, .int y0), (3, .int (nI i)), (4, .int (S_sum v.2.2.2.1 (nI i) v.2.1)), (5, .int (nI i))]) (pc := 66) hX dX9_leastWith_66 [1, 2, 3, 4, 0, 5] (by decide) rfl ?_
                refine j_iinc (v := nI (i + 1)) (lv2 := [(0, .ref m), (1, .int x0), (2, .int y0), (3, .int (nI i)), (4, .int (S_sum v.2.2.2.1 (nI i) v.2.1)), (5, .int (nI (i + 1)))]) (pc := 68) hX dX9_leastWith_68 5 rfl (nI_add i 1) [1, 2, 3, 4, 5, 0] (by decide) rfl ?_
                refine j_goto (tgt := 9) (pc := 71) hX dX9_leastWith_71 (by decide) ?_
                exact j_eq (lv2 := [(0, .ref m), (1, .int x0), (2, .int y0), (3, .int (oN (lW v x0 y0 (i + 1)).1)), (4, .int ((lW v x0 y0 (i + 1)).2)), (5, .int (nI (i + 1)))]) (ws2 := [(m, .inr (9, [.ref a0, .ref a1, .int (nI un), .ref a3, .ref a4, .ref a5, .int (nI sg), .ref a7, .ref a8, .int (nI mn), .ref a10, .ref a11, .int (nI ti), .int dr, .int (nI rd), .int op])), (a0, .inl (gI g, 60, .inl (nowF v)))]) (by first | rfl | (simp only [lW, c15_3, c15_3n, c15_3m, c23_4, c30_5, c39_8, c39_8b, c43_9, reduceIte, eq_self]; first | done | rfl)) (by first | rfl | (simp only [lW, c15_3, c15_3n, c15_3m, c23_4, c30_5, c39_8, c39_8b, c43_9, reduceIte, eq_self]; first | done | rfl)) (ih9 _ (by omega) (i + 1) (by omega) rfl)
              · skip
                refine j_aload_n (pc := 46) hX dX9_leastWith_46 0 rfl ?_
                refine j_iload (pc := 47) hX dX9_leastWith_47 5 rfl ?_
                refine j_callVI (n := 1) (As := [.int (nI i)]) (rest := []) (pc := 49) hX (c_X9_pricesOf g m a0 a1 a3 a4 a5 a7 a8 a10 a11 un sg mn ti dr rd op v (nI i) (by first | assumption | omega)) (CV.of mw783 mw784 mw39 mw52 mw785 ⟨rfl, by decide +kernel, by decide +kernel, by decide +kernel⟩ (T := TX9) (N := 16) rfl) (Nat.le_of_ble_eq_true rfl) (Nat.le_of_ble_eq_true rfl) (Nat.le_of_ble_eq_true rfl) (Nat.le_of_ble_eq_true rfl) 0 rfl [0, 1] (by decide +kernel) rfl rfl rfl (Nat.le_of_ble_eq_true rfl) dX9_leastWith_49 (fun r12 wz hq13 => ?_)
                obtain ⟨rfl, rfl⟩ := hq13
                refine j_ws (ws2 := [(m, .inr (9, [.ref a0, .ref a1, .int (nI un), .ref a3, .ref a4, .ref a5, .int (nI sg), .ref a7, .ref a8, .int (nI mn), .ref a10, .ref a11, .int (nI ti), .int dr, .int (nI rd), .int op])), (a0, .inl (gI g, 60, .inl (nowF v)))]) rfl ?_
                refine j_iload (pc := 52) hX dX9_leastWith_52 4 rfl ?_
                refine j_icmp_ge (tgt := 68) (pc := 54) hX dX9_leastWith_54 (by decide) (fun c54_14 => ?_) (fun c54_14 => ?_)
                · skip
                  refine j_iinc (v := nI (i + 1)) (lv2 := [(0, .ref m), (1, .int x0), (2, .int y0), (3, .int (oN (lW v x0 y0 i).1)), (4, .int ((lW v x0 y0 i).2)), (5, .int (nI (i + 1)))]) (pc := 68) hX dX9_leastWith_68 5 rfl (nI_add i 1) [1, 2, 3, 4, 5, 0] (by decide) rfl ?_
                  refine j_goto (tgt := 9) (pc := 71) hX dX9_leastWith_71 (by decide) ?_
                  exact j_eq (lv2 := [(0, .ref m), (1, .int x0), (2, .int y0), (3, .int (oN (lW v x0 y0 (i + 1)).1)), (4, .int ((lW v x0 y0 (i + 1)).2)), (5, .int (nI (i + 1)))]) (ws2 := [(m, .inr (9, [.ref a0, .ref a1, .int (nI un), .ref a3, .ref a4, .ref a5, .int (nI sg), .ref a7, .ref a8, .int (nI mn), .ref a10, .ref a11, .int (nI ti), .int dr, .int (nI rd), .int op])), (a0, .inl (gI g, 60, .inl (nowF v)))]) (by first | rfl | (simp only [lW, c15_3, c15_3n, c15_3m, c23_4, c30_5, c39_8, c39_8b, c43_9, c54_14, reduceIte, eq_self]; first | done | rfl)) (by first | rfl | (simp only [lW, c15_3, c15_3n, c15_3m, c23_4, c30_5, c39_8, c39_8b, c43_9, c54_14, reduceIte, eq_self]; first | done | rfl)) (ih9 _ (by omega) (i + 1) (by omega) rfl)
                · skip
                  refine j_iload (pc := 57) hX dX9_leastWith_57 5 rfl ?_
                  refine j_istore_n (lv2 := [(0, .ref m), (1, .int x0), (2, .int y0), (3, .int (nI i)), (4, .int ((lW v x0 y0 i).2)), (5, .int (nI i))]) (pc := 59) hX dX9_leastWith_59 [1, 2, 3, 0, 4, 5] (by decide) rfl ?_
                  refine j_aload_n (pc := 60) hX dX9_leastWith_60 0 rfl ?_
                  refine j_iload (pc := 61) hX dX9_leastWith_61 5 rfl ?_
                  refine j_callVI (n := 1) (As := [.int (nI i)]) (rest := []) (pc := 63) hX (c_X9_pricesOf g m a0 a1 a3 a4 a5 a7 a8 a10 a11 un sg mn ti dr rd op v (nI i) (by first | assumption | omega)) (CV.of mw783 mw784 mw39 mw52 mw785 ⟨rfl, by decide +kernel, by decide +kernel, by decide +kernel⟩ (T := TX9) (N := 16) rfl) (Nat.le_of_ble_eq_true rfl) (Nat.le_of_ble_eq_true rfl) (Nat.le_of_ble_eq_true rfl) (Nat.le_of_ble_eq_true rfl) 0 rfl [0, 1] (by decide +kernel) rfl rfl rfl (Nat.le_of_ble_eq_true rfl) dX9_leastWith_63 (fun r15 wz hq16 => ?_)
                  obtain ⟨rfl, rfl⟩ := hq16
                  refine j_ws (ws2 := [(m, .inr (9, [.ref a0, .ref a1, .int (nI un), .ref a3, .ref a4, .ref a5, .int (nI sg), .ref a7, .ref a8, .int (nI mn), .ref a10, .ref a11, .int (nI ti), .int dr, .int (nI rd), .int op])), (a0, .inl (gI g, 60, .inl (nowF v)))]) rfl ?_
                  refine j_istore (lv2 := [(0, .ref m), (1, .int x0), (2, .int y0), (3, .int (nI i)), (4, .int (S_sum v.2.2.2.1 (nI i) v.2.1)), (5, .int (nI i))]) (pc := 66) hX dX9_leastWith_66 [1, 2, 3, 4, 0, 5] (by decide) rfl ?_
                  refine j_iinc (v := nI (i + 1)) (lv2 := [(0, .ref m), (1, .int x0), (2, .int y0), (3, .int (nI i)), (4, .int (S_sum v.2.2.2.1 (nI i) v.2.1)), (5, .int (nI (i + 1)))]) (pc := 68) hX dX9_leastWith_68 5 rfl (nI_add i 1) [1, 2, 3, 4, 5, 0] (by decide) rfl ?_
                  refine j_goto (tgt := 9) (pc := 71) hX dX9_leastWith_71 (by decide) ?_
                  exact j_eq (lv2 := [(0, .ref m), (1, .int x0), (2, .int y0), (3, .int (oN (lW v x0 y0 (i + 1)).1)), (4, .int ((lW v x0 y0 (i + 1)).2)), (5, .int (nI (i + 1)))]) (ws2 := [(m, .inr (9, [.ref a0, .ref a1, .int (nI un), .ref a3, .ref a4, .ref a5, .int (nI sg), .ref a7, .ref a8, .int (nI mn), .ref a10, .ref a11, .int (nI ti), .int dr, .int (nI rd), .int op])), (a0, .inl (gI g, 60, .inl (nowF v)))]) (by first | rfl | (simp only [lW, c15_3, c15_3n, c15_3m, c23_4, c30_5, c39_8, c39_8b, c43_9, c54_14, reduceIte, eq_self]; first | done | rfl)) (by first | rfl | (simp only [lW, c15_3, c15_3n, c15_3m, c23_4, c30_5, c39_8, c39_8b, c43_9, c54_14, reduceIte, eq_self]; first | done | rfl)) (ih9 _ (by omega) (i + 1) (by omega) rfl)
  exact j_eq (lv2 := [(0, .ref m), (1, .int x0), (2, .int y0), (3, .int (oN (lW v x0 y0 0).1)), (4, .int ((lW v x0 y0 0).2)), (5, .int (nI 0))]) (ws2 := [(m, .inr (9, [.ref a0, .ref a1, .int (nI un), .ref a3, .ref a4, .ref a5, .int (nI sg), .ref a7, .ref a8, .int (nI mn), .ref a10, .ref a11, .int (nI ti), .int dr, .int (nI rd), .int op])), (a0, .inl (gI g, 60, .inl (nowF v)))]) (rfl) (rfl) (L9 _ 0 (by omega) rfl)

def alM (v : StT) (k : Nat) : Int32 := if v.2.2.2.2 k = 2 then 0 else (v.1 &&& v.2.2.1 k) &&& (S_or v.2.2.1 (((nI (wM v) - 1) &&& (S_mk v.2.2.2.2 2 v.2.1 ^^^ (-1))) &&& (bI k ^^^ (-1))) v.2.1 ^^^ (-1))

set_option maxHeartbeats 4000000 in
set_option maxRecDepth 100000 in
theorem c_X9_aloneOf (g : jG) (m : Nat) (a0 : Nat) (a1 : Nat) (a3 : Nat) (a4 : Nat) (a5 : Nat) (a7 : Nat) (a8 : Nat) (a10 : Nat) (a11 : Nat) (un : Nat) (sg : Nat) (mn : Nat) (ti : Nat) (dr : Int32) (rd : Nat) (op : Int32) (v : StT) (k : Nat) (hv : v.2.1 ≤ 14) (hk : k < v.2.1) : jMI g yX9_aloneOf cX9_aloneOf 3 .int 2 44 [.ref m, .int (nI k)] [(m, .inr (9, [.ref a0, .ref a1, .int (nI un), .ref a3, .ref a4, .ref a5, .int (nI sg), .ref a7, .ref a8, .int (nI mn), .ref a10, .ref a11, .int (nI ti), .int dr, .int (nI rd), .int op])), (a0, .inl (gI g, 60, .inl (nowF v)))] (fun rz wz => rz = alM v k ∧ wz = [(m, .inr (9, [.ref a0, .ref a1, .int (nI un), .ref a3, .ref a4, .ref a5, .int (nI sg), .ref a7, .ref a8, .int (nI mn), .ref a10, .ref a11, .int (nI ti), .int dr, .int (nI rd), .int op])), (a0, .inl (gI g, 60, .inl (nowF v)))]) := by
  refine jMI.intro (by decide +kernel) (Nat.le_of_ble_eq_true rfl) (fun x hX hQ => ?_)
  refine j_lv (lv2 := [(0, .ref m), (1, .int (nI k))]) rfl ?_
  refine j_aload_n (pc := 0) hX dX9_aloneOf_0 0 rfl ?_
  refine j_callVI (n := 0) (As := []) (rest := []) (pc := 1) hX (c_X9_masks g m a0 a1 a3 a4 a5 a7 a8 a10 a11 un sg mn ti dr rd op v (by first | assumption | omega)) (CV.of mw729 mw730 mw27 mw52 mw731 ⟨rfl, by decide +kernel, by decide +kernel, by decide +kernel⟩ (T := TX9) (N := 16) rfl) (Nat.le_of_ble_eq_true rfl) (Nat.le_of_ble_eq_true rfl) (Nat.le_of_ble_eq_true rfl) (Nat.le_of_ble_eq_true rfl) 0 rfl [0, 1] (by decide +kernel) rfl rfl rfl (Nat.le_of_ble_eq_true rfl) dX9_aloneOf_1 (fun r1 wz hq2 => ?_)
  obtain ⟨rfl, rfl⟩ := hq2
  refine j_ws (ws2 := [(m, .inr (9, [.ref a0, .ref a1, .int (nI un), .ref a3, .ref a4, .ref a5, .int (nI sg), .ref a7, .ref a8, .int (nI mn), .ref a10, .ref a11, .int (nI ti), .int dr, .int (nI rd), .int op])), (a0, .inl (gI g, 60, .inl (nowF v)))]) rfl ?_
  refine j_iconst (v := 1) (pc := 4) hX dX9_aloneOf_4 (by decide) ?_
  refine j_isub (pc := 5) hX dX9_aloneOf_5 ?_
  refine j_aload_n (pc := 6) hX dX9_aloneOf_6 0 rfl ?_
  refine j_iconst (v := 2) (pc := 7) hX dX9_aloneOf_7 (by decide) ?_
  refine j_callVI (n := 1) (As := [.int 2]) (rest := [.int ((nI (wM v)) - 1)]) (pc := 8) hX (c_X9_setsMarked g m a0 a1 a3 a4 a5 a7 a8 a10 a11 un sg mn ti dr rd op v 2 (by first | assumption | omega)) (CV.of mw732 mw733 mw28 mw52 mw734 ⟨rfl, by decide +kernel, by decide +kernel, by decide +kernel⟩ (T := TX9) (N := 16) rfl) (Nat.le_of_ble_eq_true rfl) (Nat.le_of_ble_eq_true rfl) (Nat.le_of_ble_eq_true rfl) (Nat.le_of_ble_eq_true rfl) 0 rfl [0, 1] (by decide +kernel) rfl rfl rfl (Nat.le_of_ble_eq_true rfl) dX9_aloneOf_8 (fun r3 wz hq4 => ?_)
  obtain ⟨rfl, rfl⟩ := hq4
  refine j_ws (ws2 := [(m, .inr (9, [.ref a0, .ref a1, .int (nI un), .ref a3, .ref a4, .ref a5, .int (nI sg), .ref a7, .ref a8, .int (nI mn), .ref a10, .ref a11, .int (nI ti), .int dr, .int (nI rd), .int op])), (a0, .inl (gI g, 60, .inl (nowF v)))]) rfl ?_
  refine j_iconst (v := (-1)) (pc := 11) hX dX9_aloneOf_11 (by decide) ?_
  refine j_ixor (pc := 12) hX dX9_aloneOf_12 ?_
  refine j_iand (pc := 13) hX dX9_aloneOf_13 ?_
  refine j_iconst (v := 1) (pc := 14) hX dX9_aloneOf_14 (by decide) ?_
  refine j_iload_n (pc := 15) hX dX9_aloneOf_15 1 rfl ?_
  refine j_ishl (pc := 16) hX dX9_aloneOf_16 ?_
  refine j_top (b := bI k) rfl ?_
  refine j_iconst (v := (-1)) (pc := 17) hX dX9_aloneOf_17 (by decide) ?_
  refine j_ixor (pc := 18) hX dX9_aloneOf_18 ?_
  refine j_iand (pc := 19) hX dX9_aloneOf_19 ?_
  refine j_istore_n (lv2 := [(0, .ref m), (1, .int (nI k)), (2, .int ((((nI (wM v)) - 1) &&& ((S_mk v.2.2.2.2 2 v.2.1) ^^^ (-1))) &&& ((bI k) ^^^ (-1))))]) (pc := 20) hX dX9_aloneOf_20 [1, 2, 0] (by decide) rfl ?_
  refine j_aload_n (pc := 21) hX dX9_aloneOf_21 0 rfl ?_
  refine j_iload_n (pc := 22) hX dX9_aloneOf_22 1 rfl ?_
  refine j_callVI (n := 1) (As := [.int (nI k)]) (rest := []) (pc := 23) hX (c_X9_markOf g m a0 a1 a3 a4 a5 a7 a8 a10 a11 un sg mn ti dr rd op v k (by first | assumption | omega)) (CV.of mw688 mw689 mw23 mw52 mw690 ⟨rfl, by decide +kernel, by decide +kernel, by decide +kernel⟩ (T := TX9) (N := 16) rfl) (Nat.le_of_ble_eq_true rfl) (Nat.le_of_ble_eq_true rfl) (Nat.le_of_ble_eq_true rfl) (Nat.le_of_ble_eq_true rfl) 0 rfl [0, 1] (by decide +kernel) rfl rfl rfl (Nat.le_of_ble_eq_true rfl) dX9_aloneOf_23 (fun r5 wz hq6 => ?_)
  obtain ⟨rfl, rfl⟩ := hq6
  refine j_ws (ws2 := [(m, .inr (9, [.ref a0, .ref a1, .int (nI un), .ref a3, .ref a4, .ref a5, .int (nI sg), .ref a7, .ref a8, .int (nI mn), .ref a10, .ref a11, .int (nI ti), .int dr, .int (nI rd), .int op])), (a0, .inl (gI g, 60, .inl (nowF v)))]) rfl ?_
  refine j_iconst (v := 2) (pc := 26) hX dX9_aloneOf_26 (by decide) ?_
  refine j_icmp_ne (tgt := 34) (pc := 27) hX dX9_aloneOf_27 (by decide) (fun c27_7 => ?_) (fun c27_7 => ?_)
  · skip
    refine j_aload_n (pc := 34) hX dX9_aloneOf_34 0 rfl ?_
    refine j_get (ci := 9) (pc := 35) hX inG9 rfl 0 (by decide) mw624 0 rfl rfl dX9_aloneOf_35 ?_
    refine j_iconst (v := 1) (pc := 38) hX dX9_aloneOf_38 (by decide) ?_
    refine j_iald (pc := 39) hX 1 rfl 1 rfl (by omega) (by omega) dX9_aloneOf_39 ?_
    refine j_top (b := v.1) (rfl) ?_
    refine j_aload_n (pc := 40) hX dX9_aloneOf_40 0 rfl ?_
    refine j_iload_n (pc := 41) hX dX9_aloneOf_41 1 rfl ?_
    refine j_callVI (n := 1) (As := [.int (nI k)]) (rest := [.int v.1]) (pc := 42) hX (c_X9_things g m a0 a1 a3 a4 a5 a7 a8 a10 a11 un sg mn ti dr rd op v k (by first | assumption | omega)) (CV.of mw695 mw696 mw24 mw52 mw697 ⟨rfl, by decide +kernel, by decide +kernel, by decide +kernel⟩ (T := TX9) (N := 16) rfl) (Nat.le_of_ble_eq_true rfl) (Nat.le_of_ble_eq_true rfl) (Nat.le_of_ble_eq_true rfl) (Nat.le_of_ble_eq_true rfl) 0 rfl [0, 1] (by decide +kernel) rfl rfl rfl (Nat.le_of_ble_eq_true rfl) dX9_aloneOf_42 (fun r8 wz hq9 => ?_)
    obtain ⟨rfl, rfl⟩ := hq9
    refine j_ws (ws2 := [(m, .inr (9, [.ref a0, .ref a1, .int (nI un), .ref a3, .ref a4, .ref a5, .int (nI sg), .ref a7, .ref a8, .int (nI mn), .ref a10, .ref a11, .int (nI ti), .int dr, .int (nI rd), .int op])), (a0, .inl (gI g, 60, .inl (nowF v)))]) rfl ?_
    refine j_iand (pc := 45) hX dX9_aloneOf_45 ?_
    refine j_aload_n (pc := 46) hX dX9_aloneOf_46 0 rfl ?_
    refine j_iload_n (pc := 47) hX dX9_aloneOf_47 2 rfl ?_
    refine j_callVI (n := 1) (As := [.int ((((nI (wM v)) - 1) &&& ((S_mk v.2.2.2.2 2 v.2.1) ^^^ (-1))) &&& ((bI k) ^^^ (-1)))]) (rest := [.int (v.1 &&& (v.2.2.1 k))]) (pc := 48) hX (c_X9_thingsOf g m a0 a1 a3 a4 a5 a7 a8 a10 a11 un sg mn ti dr rd op v ((((nI (wM v)) - 1) &&& ((S_mk v.2.2.2.2 2 v.2.1) ^^^ (-1))) &&& ((bI k) ^^^ (-1))) (by first | assumption | omega)) (CV.of mw735 mw736 mw29 mw52 mw737 ⟨rfl, by decide +kernel, by decide +kernel, by decide +kernel⟩ (T := TX9) (N := 16) rfl) (Nat.le_of_ble_eq_true rfl) (Nat.le_of_ble_eq_true rfl) (Nat.le_of_ble_eq_true rfl) (Nat.le_of_ble_eq_true rfl) 0 rfl [0, 1] (by decide +kernel) rfl rfl rfl (Nat.le_of_ble_eq_true rfl) dX9_aloneOf_48 (fun r10 wz hq11 => ?_)
    obtain ⟨rfl, rfl⟩ := hq11
    refine j_ws (ws2 := [(m, .inr (9, [.ref a0, .ref a1, .int (nI un), .ref a3, .ref a4, .ref a5, .int (nI sg), .ref a7, .ref a8, .int (nI mn), .ref a10, .ref a11, .int (nI ti), .int dr, .int (nI rd), .int op])), (a0, .inl (gI g, 60, .inl (nowF v)))]) rfl ?_
    refine j_iconst (v := (-1)) (pc := 51) hX dX9_aloneOf_51 (by decide) ?_
    refine j_ixor (pc := 52) hX dX9_aloneOf_52 ?_
    refine j_iand (pc := 53) hX dX9_aloneOf_53 ?_
    exact j_iret (pc := 54) hX hQ dX9_aloneOf_54 rfl ⟨(by first | rfl | first | (simp only [jb_t, jb_f, alM, c27_7, reduceIte, eq_self, decide_true, decide_false, Bool.and_true, Bool.true_and, Bool.and_false, Bool.false_and, Bool.and_self, not_true_eq_false, not_false_eq_true, and_true, true_and, and_false, false_and, and_self]; done) | (simp [jb_t, jb_f, alM, c27_7]; done)), (by first | rfl | first | (simp only [jb_t, jb_f, alM, c27_7, reduceIte, eq_self, decide_true, decide_false, Bool.and_true, Bool.true_and, Bool.and_false, Bool.false_and, Bool.and_self, not_true_eq_false, not_false_eq_true, and_true, true_and, and_false, false_and, and_self]; done) | (simp [jb_t, jb_f, alM, c27_7]; done))⟩
  · skip
    refine j_iconst (v := 0) (pc := 30) hX dX9_aloneOf_30 (by decide) ?_
    refine j_goto (tgt := 54) (pc := 31) hX dX9_aloneOf_31 (by decide) ?_
    exact j_iret (pc := 54) hX hQ dX9_aloneOf_54 rfl ⟨(by first | rfl | first | (simp only [jb_t, jb_f, alM, c27_7, reduceIte, eq_self, decide_true, decide_false, Bool.and_true, Bool.true_and, Bool.and_false, Bool.false_and, Bool.and_self, not_true_eq_false, not_false_eq_true, and_true, true_and, and_false, false_and, and_self]; done) | (simp [jb_t, jb_f, alM, c27_7]; done)), (by first | rfl | first | (simp only [jb_t, jb_f, alM, c27_7, reduceIte, eq_self, decide_true, decide_false, Bool.and_true, Bool.true_and, Bool.and_false, Bool.false_and, Bool.and_self, not_true_eq_false, not_false_eq_true, and_true, true_and, and_false, false_and, and_self]; done) | (simp [jb_t, jb_f, alM, c27_7]; done))⟩

def msM (v : StT) : Nat → Int32
  | 0 => 0
  | t + 1 => if bt v.1 t = true then (if S_size (S_sw v.2.2.1 t v.2.1 &&& (S_mk v.2.2.2.2 2 v.2.1 ^^^ (-1))) 18 ≤ msM v t then msM v t else S_size (S_sw v.2.2.1 t v.2.1 &&& (S_mk v.2.2.2.2 2 v.2.1 ^^^ (-1))) 18) else (if (0 : Int32) ≤ msM v t then msM v t else 0)

set_option maxHeartbeats 4000000 in
set_option maxRecDepth 100000 in
theorem c_X9_mostSets (g : jG) (m : Nat) (a0 : Nat) (a1 : Nat) (a3 : Nat) (a4 : Nat) (a5 : Nat) (a7 : Nat) (a8 : Nat) (a10 : Nat) (a11 : Nat) (un : Nat) (sg : Nat) (mn : Nat) (ti : Nat) (dr : Int32) (rd : Nat) (op : Int32) (v : StT) (hv : v.2.1 ≤ 14) : jMI g yX9_mostSets cX9_mostSets 4 .int 2 44 [.ref m] [(m, .inr (9, [.ref a0, .ref a1, .int (nI un), .ref a3, .ref a4, .ref a5, .int (nI sg), .ref a7, .ref a8, .int (nI mn), .ref a10, .ref a11, .int (nI ti), .int dr, .int (nI rd), .int op])), (a0, .inl (gI g, 60, .inl (nowF v)))] (fun rz wz => rz = msM v 18 ∧ wz = [(m, .inr (9, [.ref a0, .ref a1, .int (nI un), .ref a3, .ref a4, .ref a5, .int (nI sg), .ref a7, .ref a8, .int (nI mn), .ref a10, .ref a11, .int (nI ti), .int dr, .int (nI rd), .int op])), (a0, .inl (gI g, 60, .inl (nowF v)))]) := by
  refine jMI.intro (by decide +kernel) (Nat.le_of_ble_eq_true rfl) (fun x hX hQ => ?_)
  refine j_lv (lv2 := [(0, .ref m)]) rfl ?_
  refine j_iconst (v := 0) (pc := 0) hX dX9_mostSets_0 (by decide) ?_
  refine j_istore_n (lv2 := [(0, .ref m), (1, .int 0)]) (pc := 1) hX dX9_mostSets_1 [1, 0] (by decide) rfl ?_
  refine j_iconst (v := 0) (pc := 2) hX dX9_mostSets_2 (by decide) ?_
  refine j_istore_n (lv2 := [(0, .ref m), (1, .int 0), (2, .int 0)]) (pc := 3) hX dX9_mostSets_3 [1, 2, 0] (by decide) rfl ?_
  have L4 : ∀ (d : Nat) (t : Nat), t ≤ 18 → 18 - t = d → J g x 4 0 0 4 [(0, .ref m), (1, .int (msM v t)), (2, .int (nI t))] [] [(m, .inr (9, [.ref a0, .ref a1, .int (nI un), .ref a3, .ref a4, .ref a5, .int (nI sg), .ref a7, .ref a8, .int (nI mn), .ref a10, .ref a11, .int (nI ti), .int dr, .int (nI rd), .int op])), (a0, .inl (gI g, 60, .inl (nowF v)))] := by
    intro d
    induction d using Nat.strongRecOn with
    | _ d ih4 =>
      intro t ht hd4
      refine j_iload_n (pc := 4) hX dX9_mostSets_4 2 rfl ?_
      refine j_bipush (v := 18) (pc := 5) hX dX9_mostSets_5 (by decide) ?_
      refine j_icmp_ge (tgt := 61) (pc := 7) hX dX9_mostSets_7 (by decide) (fun c7_1 => ?_) (fun c7_1 => ?_)
      · skip
        have c7_1n : 18 ≤ t := (nI_leI (a := 18) (b := t) (by omega) (by omega)).mp c7_1
        have c7_1m : ¬ t < 18 := by omega
        refine j_iload_n (pc := 61) hX dX9_mostSets_61 1 rfl ?_
        exact j_iret (pc := 62) hX hQ dX9_mostSets_62 rfl ⟨(by rw [show t = 18 by omega]), (by first | rfl | first | (simp only [jb_t, jb_f, c7_1, c7_1n, c7_1m, reduceIte, eq_self, decide_true, decide_false, Bool.and_true, Bool.true_and, Bool.and_false, Bool.false_and, Bool.and_self, not_true_eq_false, not_false_eq_true, and_true, true_and, and_false, false_and, and_self]; done) | (simp [jb_t, jb_f, c7_1, c7_1n, c7_1m]; done))⟩
      · skip
        have c7_1n : ¬ 18 ≤ t := fun h9 => c7_1 ((nI_leI (a := 18) (b := t) (by omega) (by omega)).mpr h9)
        have c7_1m : t < 18 := by omega
        refine j_aload_n (pc := 10) hX dX9_mostSets_10 0 rfl ?_
        refine j_get (ci := 9) (pc := 11) hX inG9 rfl 0 (by decide) mw624 0 rfl rfl dX9_mostSets_11 ?_
        refine j_iconst (v := 1) (pc := 14) hX dX9_mostSets_14 (by decide) ?_
        refine j_iald (pc := 15) hX 1 rfl 1 rfl (by omega) (by omega) dX9_mostSets_15 ?_
        refine j_top (b := v.1) (rfl) ?_
        refine j_iload_n (pc := 16) hX dX9_mostSets_16 2 rfl ?_
        refine j_callSI (n := 2) (As := [.int v.1, .int (nI t)]) (rest := []) (pc := 17) hX (c_X9_has g v.1 t (by first | assumption | omega)) (CS.of mw738 mw739 mw52 mw740 ⟨by decide +kernel, by decide +kernel, by decide +kernel⟩) (Nat.le_of_ble_eq_true rfl) (Nat.le_of_ble_eq_true rfl) (Nat.le_of_ble_eq_true rfl) (Nat.le_of_ble_eq_true rfl) [] (by decide +kernel) rfl rfl rfl (Nat.le_of_ble_eq_true rfl) dX9_mostSets_17 (fun r2 wz hq3 => ?_)
        obtain ⟨rfl, rfl⟩ := hq3
        refine j_ws (ws2 := [(m, .inr (9, [.ref a0, .ref a1, .int (nI un), .ref a3, .ref a4, .ref a5, .int (nI sg), .ref a7, .ref a8, .int (nI mn), .ref a10, .ref a11, .int (nI ti), .int dr, .int (nI rd), .int op])), (a0, .inl (gI g, 60, .inl (nowF v)))]) rfl ?_
        refine j_if_eq (tgt := 42) (pc := 20) hX dX9_mostSets_20 (by decide) (fun c20_4 => ?_) (fun c20_4 => ?_)
        · skip
          have c20_4b : (bt v.1 t) = false := jb_0.mp c20_4
          refine j_iconst (v := 0) (pc := 42) hX dX9_mostSets_42 (by decide) ?_
          refine j_istore_n (lv2 := [(0, .ref m), (1, .int (msM v t)), (2, .int (nI t)), (3, .int 0)]) (pc := 43) hX dX9_mostSets_43 [1, 2, 3, 0] (by decide) rfl ?_
          refine j_iload_n (pc := 44) hX dX9_mostSets_44 3 rfl ?_
          refine j_iload_n (pc := 45) hX dX9_mostSets_45 1 rfl ?_
          refine j_icmp_le (tgt := 53) (pc := 46) hX dX9_mostSets_46 (by decide) (fun c46_5 => ?_) (fun c46_5 => ?_)
          · skip
            refine j_iload_n (pc := 53) hX dX9_mostSets_53 1 rfl ?_
            refine j_istore_n (lv2 := [(0, .ref m), (1, .int (msM v t)), (2, .int (nI t)), (3, .int 0)]) (pc := 54) hX dX9_mostSets_54 [1, 0, 2, 3] (by decide) rfl ?_
            refine j_iinc (v := nI (t + 1)) (lv2 := [(0, .ref m), (1, .int (msM v t)), (2, .int (nI (t + 1))), (3, .int 0)]) (pc := 55) hX dX9_mostSets_55 2 rfl (nI_add t 1) [1, 2, 0, 3] (by decide) rfl ?_
            refine j_goto (tgt := 4) (pc := 58) hX dX9_mostSets_58 (by decide) ?_
            refine j_lvs (lv2 := [(0, .ref m), (1, .int (msM v t)), (2, .int (nI (t + 1)))]) [0, 1, 2] rfl ?_
            exact j_eq (lv2 := [(0, .ref m), (1, .int (msM v (t + 1))), (2, .int (nI (t + 1)))]) (ws2 := [(m, .inr (9, [.ref a0, .ref a1, .int (nI un), .ref a3, .ref a4, .ref a5, .int (nI sg), .ref a7, .ref a8, .int (nI mn), .ref a10, .ref a11, .int (nI ti), .int dr, .int (nI rd), .int op])), (a0, .inl (gI g, 60, .inl (nowF v)))]) (by first | rfl | (simp only [msM, c7_1, c7_1n, c7_1m, c20_4, c20_4b, c46_5, reduceIte, eq_self]; first | done | rfl)) (by first | rfl | (simp only [msM, c7_1, c7_1n, c7_1m, c20_4, c20_4b, c46_5, reduceIte, eq_self]; first | done | rfl)) (ih4 _ (by omega) (t + 1) (by omega) rfl)
          · skip
            refine j_iload_n (pc := 49) hX dX9_mostSets_49 3 rfl ?_
            refine j_goto (tgt := 54) (pc := 50) hX dX9_mostSets_50 (by decide) ?_
            refine j_istore_n (lv2 := [(0, .ref m), (1, .int 0), (2, .int (nI t)), (3, .int 0)]) (pc := 54) hX dX9_mostSets_54 [1, 0, 2, 3] (by decide) rfl ?_
            refine j_iinc (v := nI (t + 1)) (lv2 := [(0, .ref m), (1, .int 0), (2, .int (nI (t + 1))), (3, .int 0)]) (pc := 55) hX dX9_mostSets_55 2 rfl (nI_add t 1) [1, 2, 0, 3] (by decide) rfl ?_
            refine j_goto (tgt := 4) (pc := 58) hX dX9_mostSets_58 (by decide) ?_
            refine j_lvs (lv2 := [(0, .ref m), (1, .int 0), (2, .int (nI (t + 1)))]) [0, 1, 2] rfl ?_
            exact j_eq (lv2 := [(0, .ref m), (1, .int (msM v (t + 1))), (2, .int (nI (t + 1)))]) (ws2 := [(m, .inr (9, [.ref a0, .ref a1, .int (nI un), .ref a3, .ref a4, .ref a5, .int (nI sg), .ref a7, .ref a8, .int (nI mn), .ref a10, .ref a11, .int (nI ti), .int dr, .int (nI rd), .int op])), (a0, .inl (gI g, 60, .inl (nowF v)))]) (by first | rfl | (simp only [msM, c7_1, c7_1n, c7_1m, c20_4, c20_4b, c46_5, reduceIte, eq_self]; first | done | rfl)) (by first | rfl | (simp only [msM, c7_1, c7_1n, c7_1m, c20_4, c20_4b, c46_5, reduceIte, eq_self]; first | done | rfl)) (ih4 _ (by omega) (t + 1) (by omega) rfl)
        · skip
          have c20_4b : (bt v.1 t) = true := jb_1.mp c20_4
          refine j_aload_n (pc := 23) hX dX9_mostSets_23 0 rfl ?_
          refine j_iload_n (pc := 24) hX dX9_mostSets_24 2 rfl ?_
          refine j_callVI (n := 1) (As := [.int (nI t)]) (rest := []) (pc := 25) hX (c_X9_setsWith g m a0 a1 a3 a4 a5 a7 a8 a10 a11 un sg mn ti dr rd op v t (by first | assumption | omega) (by first | assumption | omega)) (CV.of mw766 mw767 mw37 mw52 mw768 ⟨rfl, by decide +kernel, by decide +kernel, by decide +kernel⟩ (T := TX9) (N := 16) rfl) (Nat.le_of_ble_eq_true rfl) (Nat.le_of_ble_eq_true rfl) (Nat.le_of_ble_eq_true rfl) (Nat.le_of_ble_eq_true rfl) 0 rfl [0, 1] (by decide +kernel) rfl rfl rfl (Nat.le_of_ble_eq_true rfl) dX9_mostSets_25 (fun r6 wz hq7 => ?_)
          obtain ⟨rfl, rfl⟩ := hq7
          refine j_ws (ws2 := [(m, .inr (9, [.ref a0, .ref a1, .int (nI un), .ref a3, .ref a4, .ref a5, .int (nI sg), .ref a7, .ref a8, .int (nI mn), .ref a10, .ref a11, .int (nI ti), .int dr, .int (nI rd), .int op])), (a0, .inl (gI g, 60, .inl (nowF v)))]) rfl ?_
          refine j_aload_n (pc := 28) hX dX9_mostSets_28 0 rfl ?_
          refine j_iconst (v := 2) (pc := 29) hX dX9_mostSets_29 (by decide) ?_
          refine j_callVI (n := 1) (As := [.int 2]) (rest := [.int (S_sw v.2.2.1 t v.2.1)]) (pc := 30) hX (c_X9_setsMarked g m a0 a1 a3 a4 a5 a7 a8 a10 a11 un sg mn ti dr rd op v 2 (by first | assumption | omega)) (CV.of mw732 mw733 mw28 mw52 mw734 ⟨rfl, by decide +kernel, by decide +kernel, by decide +kernel⟩ (T := TX9) (N := 16) rfl) (Nat.le_of_ble_eq_true rfl) (Nat.le_of_ble_eq_true rfl) (Nat.le_of_ble_eq_true rfl) (Nat.le_of_ble_eq_true rfl) 0 rfl [0, 1] (by decide +kernel) rfl rfl rfl (Nat.le_of_ble_eq_true rfl) dX9_mostSets_30 (fun r8 wz hq9 => ?_)
          obtain ⟨rfl, rfl⟩ := hq9
          refine j_ws (ws2 := [(m, .inr (9, [.ref a0, .ref a1, .int (nI un), .ref a3, .ref a4, .ref a5, .int (nI sg), .ref a7, .ref a8, .int (nI mn), .ref a10, .ref a11, .int (nI ti), .int dr, .int (nI rd), .int op])), (a0, .inl (gI g, 60, .inl (nowF v)))]) rfl ?_
          refine j_iconst (v := (-1)) (pc := 33) hX dX9_mostSets_33 (by decide) ?_
          refine j_ixor (pc := 34) hX dX9_mostSets_34 ?_
          refine j_iand (pc := 35) hX dX9_mostSets_35 ?_
          refine j_callSI (n := 1) (As := [.int ((S_sw v.2.2.1 t v.2.1) &&& ((S_mk v.2.2.2.2 2 v.2.1) ^^^ (-1)))]) (rest := []) (pc := 36) hX (c_X9_size g ((S_sw v.2.2.1 t v.2.1) &&& ((S_mk v.2.2.2.2 2 v.2.1) ^^^ (-1))) ) (CS.of mw776 mw777 mw52 mw778 ⟨by decide +kernel, by decide +kernel, by decide +kernel⟩) (Nat.le_of_ble_eq_true rfl) (Nat.le_of_ble_eq_true rfl) (Nat.le_of_ble_eq_true rfl) (Nat.le_of_ble_eq_true rfl) [] (by decide +kernel) rfl rfl rfl (Nat.le_of_ble_eq_true rfl) dX9_mostSets_36 (fun r10 wz hq11 => ?_)
          obtain ⟨rfl, rfl⟩ := hq11
          refine j_ws (ws2 := [(m, .inr (9, [.ref a0, .ref a1, .int (nI un), .ref a3, .ref a4, .ref a5, .int (nI sg), .ref a7, .ref a8, .int (nI mn), .ref a10, .ref a11, .int (nI ti), .int dr, .int (nI rd), .int op])), (a0, .inl (gI g, 60, .inl (nowF v)))]) rfl ?_
          refine j_goto (tgt := 43) (pc := 39) hX dX9_mostSets_39 (by decide) ?_
          refine j_istore_n (lv2 := [(0, .ref m), (1, .int (msM v t)), (2, .int (nI t)), (3, .int (S_size ((S_sw v.2.2.1 t v.2.1) &&& ((S_mk v.2.2.2.2 2 v.2.1) ^^^ (-1))) 18))]) (pc := 43) hX dX9_mostSets_43 [1, 2, 3, 0] (by decide) rfl ?_
          refine j_iload_n (pc := 44) hX dX9_mostSets_44 3 rfl ?_
          refine j_iload_n (pc := 45) hX dX9_mostSets_45 1 rfl ?_
          refine j_icmp_le (tgt := 53) (pc := 46) hX dX9_mostSets_46 (by decide) (fun c46_12 => ?_) (fun c46_12 => ?_)
          · skip
            refine j_iload_n (pc := 53) hX dX9_mostSets_53 1 rfl ?_
            refine j_istore_n (lv2 := [(0, .ref m), (1, .int (msM v t)), (2, .int (nI t)), (3, .int (S_size ((S_sw v.2.2.1 t v.2.1) &&& ((S_mk v.2.2.2.2 2 v.2.1) ^^^ (-1))) 18))]) (pc := 54) hX dX9_mostSets_54 [1, 0, 2, 3] (by decide) rfl ?_
            refine j_iinc (v := nI (t + 1)) (lv2 := [(0, .ref m), (1, .int (msM v t)), (2, .int (nI (t + 1))), (3, .int (S_size ((S_sw v.2.2.1 t v.2.1) &&& ((S_mk v.2.2.2.2 2 v.2.1) ^^^ (-1))) 18))]) (pc := 55) hX dX9_mostSets_55 2 rfl (nI_add t 1) [1, 2, 0, 3] (by decide) rfl ?_
            refine j_goto (tgt := 4) (pc := 58) hX dX9_mostSets_58 (by decide) ?_
            refine j_lvs (lv2 := [(0, .ref m), (1, .int (msM v t)), (2, .int (nI (t + 1)))]) [0, 1, 2] rfl ?_
            exact j_eq (lv2 := [(0, .ref m), (1, .int (msM v (t + 1))), (2, .int (nI (t + 1)))]) (ws2 := [(m, .inr (9, [.ref a0, .ref a1, .int (nI un), .ref a3, .ref a4, .ref a5, .int (nI sg), .ref a7, .ref a8, .int (nI mn), .ref a10, .ref a11, .int (nI ti), .int dr, .int (nI rd), .int op])), (a0, .inl (gI g, 60, .inl (nowF v)))]) (by first | rfl | (simp only [msM, c7_1, c7_1n, c7_1m, c20_4, c20_4b, c46_12, reduceIte, eq_self]; first | done | rfl)) (by first | rfl | (simp only [msM, c7_1, c7_1n, c7_1m, c20_4, c20_4b, c46_12, reduceIte, eq_self]; first | done | rfl)) (ih4 _ (by omega) (t + 1) (by omega) rfl)
          · skip
            refine j_iload_n (pc := 49) hX dX9_mostSets_49 3 rfl ?_
            refine j_goto (tgt := 54) (pc := 50) hX dX9_mostSets_50 (by decide) ?_
            refine j_istore_n (lv2 := [(0, .ref m), (1, .int (S_size ((S_sw v.2.2.1 t v.2.1) &&& ((S_mk v.2.2.2.2 2 v.2.1) ^^^ (-1))) 18)), (2, .int (nI t)), (3, .int (S_size ((S_sw v.2.2.1 t v.2.1) &&& ((S_mk v.2.2.2.2 2 v.2.1) ^^^ (-1))) 18))]) (pc := 54) hX dX9_mostSets_54 [1, 0, 2, 3] (by decide) rfl ?_
            refine j_iinc (v := nI (t + 1)) (lv2 := [(0, .ref m), (1, .int (S_size ((S_sw v.2.2.1 t v.2.1) &&& ((S_mk v.2.2.2.2 2 v.2.1) ^^^ (-1))) 18)), (2, .int (nI (t + 1))), (3, .int (S_size ((S_sw v.2.2.1 t v.2.1) &&& ((S_mk v.2.2.2.2 2 v.2.1) ^^^ (-1))) 18))]) (pc := 55) hX dX9_mostSets_55 2 rfl (nI_add t 1) [1, 2, 0, 3] (by decide) rfl ?_
            refine j_goto (tgt := 4) (pc := 58) hX dX9_mostSets_58 (by decide) ?_
            refine j_lvs (lv2 := [(0, .ref m), (1, .int (S_size ((S_sw v.2.2.1 t v.2.1) &&& ((S_mk v.2.2.2.2 2 v.2.1) ^^^ (-1))) 18)), (2, .int (nI (t + 1)))]) [0, 1, 2] rfl ?_
            exact j_eq (lv2 := [(0, .ref m), (1, .int (msM v (t + 1))), (2, .int (nI (t + 1)))]) (ws2 := [(m, .inr (9, [.ref a0, .ref a1, .int (nI un), .ref a3, .ref a4, .ref a5, .int (nI sg), .ref a7, .ref a8, .int (nI mn), .ref a10, .ref a11, .int (nI ti), .int dr, .int (nI rd), .int op])), (a0, .inl (gI g, 60, .inl (nowF v)))]) (by first | rfl | (simp only [msM, c7_1, c7_1n, c7_1m, c20_4, c20_4b, c46_12, reduceIte, eq_self]; first | done | rfl)) (by first | rfl | (simp only [msM, c7_1, c7_1n, c7_1m, c20_4, c20_4b, c46_12, reduceIte, eq_self]; first | done | rfl)) (ih4 _ (by omega) (t + 1) (by omega) rfl)
  exact j_eq (lv2 := [(0, .ref m), (1, .int (msM v 0)), (2, .int (nI 0))]) (ws2 := [(m, .inr (9, [.ref a0, .ref a1, .int (nI un), .ref a3, .ref a4, .ref a5, .int (nI sg), .ref a7, .ref a8, .int (nI mn), .ref a10, .ref a11, .int (nI ti), .int dr, .int (nI rd), .int op])), (a0, .inl (gI g, 60, .inl (nowF v)))]) (rfl) (rfl) (L4 _ 0 (by omega) rfl)

