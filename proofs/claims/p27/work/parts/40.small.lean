/-! the law's small methods -/
theorem jb_11 {b : Bool} : jb b = 1 ↔ b = true := by cases b <;> decide
theorem jb_10 {b : Bool} : ¬ jb b = 1 ↔ b = false := by cases b <;> decide
theorem rem_nI {a b : Nat} (ha : a < 2147483648) (hb : b < 2147483648) (h0 : 0 < b) : nI a - nI a / nI b * nI b = nI (a % b) := by
  have e : nI a / nI b = nI (a / b) := by
    apply Int32.toInt_inj.mp
    rw [Int32.toInt_div, nI_toInt ha, nI_toInt hb, nI_toInt (Nat.lt_of_le_of_lt (Nat.div_le_self a b) ha)]
    have h1 : ((a : Int).tdiv (b : Int)) = ((a / b : Nat) : Int) := by
      rw [Int.tdiv_eq_ediv_of_nonneg (by omega)]
      rfl
    rw [h1]
    have h2 : a / b ≤ a := Nat.div_le_self a b
    generalize a / b = q at h2 ⊢
    exact Int.bmod_eq_of_le (by omega) (by omega)
  have h3 := Nat.div_add_mod a b
  have h4 : a / b * b ≤ a := Nat.div_mul_le_self a b
  rw [e, pk_mul, pk_sub h4]
  congr 1
  rw [Nat.mul_comm] at h3
  omega

set_option maxHeartbeats 4000000 in
set_option maxRecDepth 100000 in
theorem c_L_has (g : jG) (m : Int32) (k : Nat) (hk : k < 32) : jMI g yL_has method_3_code 2 .boolean 0 0 [.int m, .int (nI k)] [] (fun rz wz => rz = jb (bt m k) ∧ wz = []) := by
  refine jMI.intro (by decide +kernel) (Nat.le_of_ble_eq_true rfl) (fun x hX hQ => ?_)
  refine j_lv (lv2 := [(0, .int m), (1, .int (nI k))]) rfl ?_
  refine j_iload_n (pc := 0) hX dL_has_0 0 rfl ?_
  refine j_iload_n (pc := 1) hX dL_has_1 1 rfl ?_
  refine j_ishr (pc := 2) hX dL_has_2 ?_
  refine j_iconst (v := 1) (pc := 3) hX dL_has_3 (by decide) ?_
  refine j_iand (pc := 4) hX dL_has_4 ?_
  refine j_top (b := jb (bt m k)) (b_sh1 hk) ?_
  refine j_iconst (v := 1) (pc := 5) hX dL_has_5 (by decide) ?_
  refine j_icmp_ne (tgt := 13) (pc := 6) hX dL_has_6 (by decide) (fun c6_1 => ?_) (fun c6_1 => ?_)
  · skip
    have c6_1b : (bt m k) = false := jb_10.mp c6_1
    refine j_iconst (v := 0) (pc := 13) hX dL_has_13 (by decide) ?_
    exact j_zret (pc := 14) hX hQ dL_has_14 (by first | rfl | exact jb_nar _) rfl ⟨(by first | rfl | first | (simp only [jb_t, jb_f, c6_1, c6_1b, reduceIte, eq_self, decide_true, decide_false, Bool.and_true, Bool.true_and, Bool.and_false, Bool.false_and, Bool.and_self, not_true_eq_false, not_false_eq_true, and_true, true_and, and_false, false_and, and_self]; done) | (simp [jb_t, jb_f, c6_1, c6_1b]; done)), (by first | rfl | first | (simp only [jb_t, jb_f, c6_1, c6_1b, reduceIte, eq_self, decide_true, decide_false, Bool.and_true, Bool.true_and, Bool.and_false, Bool.false_and, Bool.and_self, not_true_eq_false, not_false_eq_true, and_true, true_and, and_false, false_and, and_self]; done) | (simp [jb_t, jb_f, c6_1, c6_1b]; done))⟩
  · skip
    have c6_1b : (bt m k) = true := jb_11.mp c6_1
    refine j_iconst (v := 1) (pc := 9) hX dL_has_9 (by decide) ?_
    refine j_goto (tgt := 14) (pc := 10) hX dL_has_10 (by decide) ?_
    exact j_zret (pc := 14) hX hQ dL_has_14 (by first | rfl | exact jb_nar _) rfl ⟨(by first | rfl | first | (simp only [jb_t, jb_f, c6_1, c6_1b, reduceIte, eq_self, decide_true, decide_false, Bool.and_true, Bool.true_and, Bool.and_false, Bool.false_and, Bool.and_self, not_true_eq_false, not_false_eq_true, and_true, true_and, and_false, false_and, and_self]; done) | (simp [jb_t, jb_f, c6_1, c6_1b]; done)), (by first | rfl | first | (simp only [jb_t, jb_f, c6_1, c6_1b, reduceIte, eq_self, decide_true, decide_false, Bool.and_true, Bool.true_and, Bool.and_false, Bool.false_and, Bool.and_self, not_true_eq_false, not_false_eq_true, and_true, true_and, and_false, false_and, and_self]; done) | (simp [jb_t, jb_f, c6_1, c6_1b]; done))⟩

set_option maxHeartbeats 4000000 in
set_option maxRecDepth 100000 in
theorem c_L_ones (g : jG) (m : Int32)  : jMI g yL_ones method_4_code 3 .int 0 0 [.int m] [] (fun rz wz => rz = S_size m 18 ∧ wz = []) := by
  refine jMI.intro (by decide +kernel) (Nat.le_of_ble_eq_true rfl) (fun x hX hQ => ?_)
  refine j_lv (lv2 := [(0, .int m)]) rfl ?_
  refine j_iconst (v := 0) (pc := 0) hX dL_ones_0 (by decide) ?_
  refine j_istore_n (lv2 := [(0, .int m), (1, .int 0)]) (pc := 1) hX dL_ones_1 [1, 0] (by decide) rfl ?_
  refine j_iconst (v := 0) (pc := 2) hX dL_ones_2 (by decide) ?_
  refine j_istore_n (lv2 := [(0, .int m), (1, .int 0), (2, .int 0)]) (pc := 3) hX dL_ones_3 [1, 2, 0] (by decide) rfl ?_
  have L4 : ∀ (d : Nat) (k : Nat), k ≤ 18 → 18 - k = d → J g x 3 0 0 4 [(0, .int m), (1, .int (S_size m k)), (2, .int (nI k))] [] [] := by
    intro d
    induction d using Nat.strongRecOn with
    | _ d ih4 =>
      intro k hk hd4
      refine j_iload_n (pc := 4) hX dL_ones_4 2 rfl ?_
      refine j_bipush (v := 18) (pc := 5) hX dL_ones_5 (by decide) ?_
      refine j_icmp_ge (tgt := 24) (pc := 7) hX dL_ones_7 (by decide) (fun c7_1 => ?_) (fun c7_1 => ?_)
      · skip
        have c7_1n : 18 ≤ k := (nI_leI (a := 18) (b := k) (by omega) (by omega)).mp c7_1
        have c7_1m : ¬ k < 18 := by omega
        refine j_iload_n (pc := 24) hX dL_ones_24 1 rfl ?_
        exact j_iret (pc := 25) hX hQ dL_ones_25 rfl ⟨(by rw [show k = 18 by omega]), (by first | rfl | first | (simp only [jb_t, jb_f, c7_1, c7_1n, c7_1m, reduceIte, eq_self, decide_true, decide_false, Bool.and_true, Bool.true_and, Bool.and_false, Bool.false_and, Bool.and_self, not_true_eq_false, not_false_eq_true, and_true, true_and, and_false, false_and, and_self]; done) | (simp [jb_t, jb_f, c7_1, c7_1n, c7_1m]; done))⟩
      · skip
        have c7_1n : ¬ 18 ≤ k := fun h9 => c7_1 ((nI_leI (a := 18) (b := k) (by omega) (by omega)).mpr h9)
        have c7_1m : k < 18 := by omega
        refine j_iload_n (pc := 10) hX dL_ones_10 1 rfl ?_
        refine j_iload_n (pc := 11) hX dL_ones_11 0 rfl ?_
        refine j_iload_n (pc := 12) hX dL_ones_12 2 rfl ?_
        refine j_ishr (pc := 13) hX dL_ones_13 ?_
        refine j_iconst (v := 1) (pc := 14) hX dL_ones_14 (by decide) ?_
        refine j_iand (pc := 15) hX dL_ones_15 ?_
        refine j_top (b := jb (bt m k)) (b_sh1 (by omega)) ?_
        refine j_iadd (pc := 16) hX dL_ones_16 ?_
        refine j_istore_n (lv2 := [(0, .int m), (1, .int ((S_size m k) + (jb (bt m k)))), (2, .int (nI k))]) (pc := 17) hX dL_ones_17 [1, 0, 2] (by decide) rfl ?_
        refine j_iinc (v := nI (k + 1)) (lv2 := [(0, .int m), (1, .int ((S_size m k) + (jb (bt m k)))), (2, .int (nI (k + 1)))]) (pc := 18) hX dL_ones_18 2 rfl (nI_add k 1) [1, 2, 0] (by decide) rfl ?_
        refine j_goto (tgt := 4) (pc := 21) hX dL_ones_21 (by decide) ?_
        exact j_eq (lv2 := [(0, .int m), (1, .int (S_size m (k + 1))), (2, .int (nI (k + 1)))]) (ws2 := []) (by first | rfl | first | (simp only [jb_t, jb_f, c7_1, c7_1n, c7_1m, reduceIte, eq_self, decide_true, decide_false, Bool.and_true, Bool.true_and, Bool.and_false, Bool.false_and, Bool.and_self, not_true_eq_false, not_false_eq_true, and_true, true_and, and_false, false_and, and_self]; done) | (simp [jb_t, jb_f, c7_1, c7_1n, c7_1m]; done)) (by first | rfl | first | (simp only [jb_t, jb_f, c7_1, c7_1n, c7_1m, reduceIte, eq_self, decide_true, decide_false, Bool.and_true, Bool.true_and, Bool.and_false, Bool.false_and, Bool.and_self, not_true_eq_false, not_false_eq_true, and_true, true_and, and_false, false_and, and_self]; done) | (simp [jb_t, jb_f, c7_1, c7_1n, c7_1m]; done)) (ih4 _ (by omega) (k + 1) (by omega) rfl)
  exact j_eq (lv2 := [(0, .int m), (1, .int (S_size m 0)), (2, .int (nI 0))]) (ws2 := []) (rfl) (rfl) (L4 _ 0 (by omega) rfl)

set_option maxHeartbeats 4000000 in
set_option maxRecDepth 100000 in
theorem c_L_union (g : jG) (ax : Nat) (q : adT) (h : Nat) (sl : Nat) (p : Nat) (s : Nat) (gr : Nat) (e : Nat) (v : StT) (hs : Nat) (c : Nat) (ps : Nat) (pt : Nat) (pp : Nat) (pn : Nat) (b1 : Int32) (b2 : Int32) (b3 : Int32) (b4 : Int32) (s1 : Nat) (s2 : Nat) (s3 : Nat) (s4 : Nat) (z : SHT) (k : Int32) (hv : v.2.1 ≤ 14) : jMI g yL_union method_5_code 4 .int 7 152 [.ref ax, .int k] [(ax, .inr (8, [.ref q.1, .ref h, .ref sl, .ref p, .ref s, .ref gr, .ref e])), (q.1, .inr (6, [.int v.1, .int (nI v.2.1), .ref q.2.1, .ref q.2.2.1, .ref q.2.2.2])), (q.2.1, .inl (gI g, 14, .inl v.2.2.1)), (q.2.2.1, .inl (gI g, 14, .inl v.2.2.2.1)), (q.2.2.2, .inl (gI g, 14, .inl v.2.2.2.2)), (h, .inr (1, [.int (nI c), .ref hs])), (p, .inr (2, [.int (nI pn), .ref ps, .int b1, .ref pt, .ref pp, .int b2, .int b3, .int b4])), (s, .inr (4, [.int z.1, .int z.2.1, .int (nI z.2.2.1), .int z.2.2.2.1, .int (nI z.2.2.2.2.1), .int z.2.2.2.2.2.1, .ref s1, .ref s2, .ref s3, .ref s4])), (s1, .inl (gI g, 18, .inl z.2.2.2.2.2.2.1)), (s2, .inl (gI g, 14, .inl z.2.2.2.2.2.2.2.1)), (s3, .inl (gI g, 14, .inl z.2.2.2.2.2.2.2.2.1)), (s4, .inl (gI g, 14, .inl (oI z.2.2.2.2.2.2.2.2.2)))] (fun rz wz => ∃ z1 : SHT, rz = S_or v.2.2.1 k v.2.1 ∧ wz = [(ax, .inr (8, [.ref q.1, .ref h, .ref sl, .ref p, .ref s, .ref gr, .ref e])), (q.1, .inr (6, [.int v.1, .int (nI v.2.1), .ref q.2.1, .ref q.2.2.1, .ref q.2.2.2])), (q.2.1, .inl (gI g, 14, .inl v.2.2.1)), (q.2.2.1, .inl (gI g, 14, .inl v.2.2.2.1)), (q.2.2.2, .inl (gI g, 14, .inl v.2.2.2.2)), (h, .inr (1, [.int (nI c), .ref hs])), (p, .inr (2, [.int (nI pn), .ref ps, .int b1, .ref pt, .ref pp, .int b2, .int b3, .int b4])), (s, .inr (4, [.int z1.1, .int z1.2.1, .int (nI z1.2.2.1), .int z1.2.2.2.1, .int (nI z1.2.2.2.2.1), .int z1.2.2.2.2.2.1, .ref s1, .ref s2, .ref s3, .ref s4])), (s1, .inl (gI g, 18, .inl z1.2.2.2.2.2.2.1)), (s2, .inl (gI g, 14, .inl z1.2.2.2.2.2.2.2.1)), (s3, .inl (gI g, 14, .inl z1.2.2.2.2.2.2.2.2.1)), (s4, .inl (gI g, 14, .inl (oI z1.2.2.2.2.2.2.2.2.2)))]) := by
  refine jMI.intro (by decide +kernel) (Nat.le_of_ble_eq_true rfl) (fun x hX hQ => ?_)
  refine j_lv (lv2 := [(0, .ref ax), (1, .int k)]) rfl ?_
  refine j_iconst (v := 0) (pc := 0) hX dL_union_0 (by decide) ?_
  refine j_istore_n (lv2 := [(0, .ref ax), (1, .int k), (2, .int 0)]) (pc := 1) hX dL_union_1 [1, 2, 0] (by decide) rfl ?_
  refine j_iconst (v := 0) (pc := 2) hX dL_union_2 (by decide) ?_
  refine j_istore_n (lv2 := [(0, .ref ax), (1, .int k), (2, .int 0), (3, .int 0)]) (pc := 3) hX dL_union_3 [1, 2, 3, 0] (by decide) rfl ?_
  have L4 : ∀ (d : Nat) (j : Nat) (zz : SHT), j ≤ v.2.1 → v.2.1 - j = d → J g x 4 0 0 4 [(0, .ref ax), (1, .int k), (2, .int (S_or v.2.2.1 k j)), (3, .int (nI j))] [] [(ax, .inr (8, [.ref q.1, .ref h, .ref sl, .ref p, .ref s, .ref gr, .ref e])), (q.1, .inr (6, [.int v.1, .int (nI v.2.1), .ref q.2.1, .ref q.2.2.1, .ref q.2.2.2])), (q.2.1, .inl (gI g, 14, .inl v.2.2.1)), (q.2.2.1, .inl (gI g, 14, .inl v.2.2.2.1)), (q.2.2.2, .inl (gI g, 14, .inl v.2.2.2.2)), (h, .inr (1, [.int (nI c), .ref hs])), (p, .inr (2, [.int (nI pn), .ref ps, .int b1, .ref pt, .ref pp, .int b2, .int b3, .int b4])), (s, .inr (4, [.int zz.1, .int zz.2.1, .int (nI zz.2.2.1), .int zz.2.2.2.1, .int (nI zz.2.2.2.2.1), .int zz.2.2.2.2.2.1, .ref s1, .ref s2, .ref s3, .ref s4])), (s1, .inl (gI g, 18, .inl zz.2.2.2.2.2.2.1)), (s2, .inl (gI g, 14, .inl zz.2.2.2.2.2.2.2.1)), (s3, .inl (gI g, 14, .inl zz.2.2.2.2.2.2.2.2.1)), (s4, .inl (gI g, 14, .inl (oI zz.2.2.2.2.2.2.2.2.2)))] := by
    intro d
    induction d using Nat.strongRecOn with
    | _ d ih4 =>
      intro j zz hj hd4
      refine j_iload_n (pc := 4) hX dL_union_4 3 rfl ?_
      refine j_aload_n (pc := 5) hX dL_union_5 0 rfl ?_
      refine j_iconst (v := 0) (pc := 6) hX dL_union_6 (by decide) ?_
      refine j_callVI (n := 1) (As := [.int 0]) (rest := [.int (nI j)]) (pc := 7) hX (c_X8_count g ax q h sl p s gr e v hs ps pt pp c pn b1 b2 b3 b4 0 (by first | assumption | omega)) (CV.of mw247 mw248 mw249 mw13 mw250 ⟨rfl, by decide +kernel, by decide +kernel, by decide +kernel⟩ (T := TX8) (N := 7) rfl) (Nat.le_of_ble_eq_true rfl) (Nat.le_of_ble_eq_true rfl) (Nat.le_of_ble_eq_true rfl) (Nat.le_of_ble_eq_true rfl) 0 rfl [0, 1, 2, 3, 4, 5, 6] (by decide +kernel) rfl rfl rfl (Nat.le_of_ble_eq_true rfl) dL_union_7 (fun r1 wz hq2 => ?_)
      obtain ⟨rfl, rfl⟩ := hq2
      refine j_ws (ws2 := [(ax, .inr (8, [.ref q.1, .ref h, .ref sl, .ref p, .ref s, .ref gr, .ref e])), (q.1, .inr (6, [.int v.1, .int (nI v.2.1), .ref q.2.1, .ref q.2.2.1, .ref q.2.2.2])), (q.2.1, .inl (gI g, 14, .inl v.2.2.1)), (q.2.2.1, .inl (gI g, 14, .inl v.2.2.2.1)), (q.2.2.2, .inl (gI g, 14, .inl v.2.2.2.2)), (h, .inr (1, [.int (nI c), .ref hs])), (p, .inr (2, [.int (nI pn), .ref ps, .int b1, .ref pt, .ref pp, .int b2, .int b3, .int b4])), (s, .inr (4, [.int zz.1, .int zz.2.1, .int (nI zz.2.2.1), .int zz.2.2.2.1, .int (nI zz.2.2.2.2.1), .int zz.2.2.2.2.2.1, .ref s1, .ref s2, .ref s3, .ref s4])), (s1, .inl (gI g, 18, .inl zz.2.2.2.2.2.2.1)), (s2, .inl (gI g, 14, .inl zz.2.2.2.2.2.2.2.1)), (s3, .inl (gI g, 14, .inl zz.2.2.2.2.2.2.2.2.1)), (s4, .inl (gI g, 14, .inl (oI zz.2.2.2.2.2.2.2.2.2)))]) rfl ?_
      refine j_top (b := nI v.2.1) (rc_0) ?_
      refine j_icmp_ge (tgt := 40) (pc := 10) hX dL_union_10 (by decide) (fun c10_3 => ?_) (fun c10_3 => ?_)
      · skip
        have c10_3n : v.2.1 ≤ j := (nI_leI (a := v.2.1) (b := j) (by omega) (by omega)).mp c10_3
        have c10_3m : ¬ j < v.2.1 := by omega
        refine j_iload_n (pc := 40) hX dL_union_40 2 rfl ?_
        exact j_iret (pc := 41) hX hQ dL_union_41 rfl ⟨zz, (by rw [show j = v.2.1 by omega]), (rfl)⟩
      · skip
        have c10_3n : ¬ v.2.1 ≤ j := fun h9 => c10_3 ((nI_leI (a := v.2.1) (b := j) (by omega) (by omega)).mpr h9)
        have c10_3m : j < v.2.1 := by omega
        refine j_iload_n (pc := 13) hX dL_union_13 2 rfl ?_
        refine j_iload_n (pc := 14) hX dL_union_14 1 rfl ?_
        refine j_iload_n (pc := 15) hX dL_union_15 3 rfl ?_
        refine j_callSI (n := 2) (As := [.int k, .int (nI j)]) (rest := [.int (S_or v.2.2.1 k j)]) (pc := 16) hX (c_L_has g k j (by first | assumption | omega)) (CS.of mw339 mw340 mw12 mw341 ⟨by decide +kernel, by decide +kernel, by decide +kernel⟩) (Nat.le_of_ble_eq_true rfl) (Nat.le_of_ble_eq_true rfl) (Nat.le_of_ble_eq_true rfl) (Nat.le_of_ble_eq_true rfl) [] (by decide +kernel) rfl rfl rfl (Nat.le_of_ble_eq_true rfl) dL_union_16 (fun r4 wz hq5 => ?_)
        obtain ⟨rfl, rfl⟩ := hq5
        refine j_ws (ws2 := [(ax, .inr (8, [.ref q.1, .ref h, .ref sl, .ref p, .ref s, .ref gr, .ref e])), (q.1, .inr (6, [.int v.1, .int (nI v.2.1), .ref q.2.1, .ref q.2.2.1, .ref q.2.2.2])), (q.2.1, .inl (gI g, 14, .inl v.2.2.1)), (q.2.2.1, .inl (gI g, 14, .inl v.2.2.2.1)), (q.2.2.2, .inl (gI g, 14, .inl v.2.2.2.2)), (h, .inr (1, [.int (nI c), .ref hs])), (p, .inr (2, [.int (nI pn), .ref ps, .int b1, .ref pt, .ref pp, .int b2, .int b3, .int b4])), (s, .inr (4, [.int zz.1, .int zz.2.1, .int (nI zz.2.2.1), .int zz.2.2.2.1, .int (nI zz.2.2.2.2.1), .int zz.2.2.2.2.2.1, .ref s1, .ref s2, .ref s3, .ref s4])), (s1, .inl (gI g, 18, .inl zz.2.2.2.2.2.2.1)), (s2, .inl (gI g, 14, .inl zz.2.2.2.2.2.2.2.1)), (s3, .inl (gI g, 14, .inl zz.2.2.2.2.2.2.2.2.1)), (s4, .inl (gI g, 14, .inl (oI zz.2.2.2.2.2.2.2.2.2)))]) rfl ?_
        refine j_if_eq (tgt := 31) (pc := 19) hX dL_union_19 (by decide) (fun c19_6 => ?_) (fun c19_6 => ?_)
        · skip
          have c19_6b : (bt k j) = false := jb_0.mp c19_6
          refine j_iconst (v := 0) (pc := 31) hX dL_union_31 (by decide) ?_
          refine j_ior (pc := 32) hX dL_union_32 ?_
          refine j_istore_n (lv2 := [(0, .ref ax), (1, .int k), (2, .int ((S_or v.2.2.1 k j) ||| 0)), (3, .int (nI j))]) (pc := 33) hX dL_union_33 [1, 2, 0, 3] (by decide) rfl ?_
          refine j_iinc (v := nI (j + 1)) (lv2 := [(0, .ref ax), (1, .int k), (2, .int ((S_or v.2.2.1 k j) ||| 0)), (3, .int (nI (j + 1)))]) (pc := 34) hX dL_union_34 3 rfl (nI_add j 1) [1, 2, 3, 0] (by decide) rfl ?_
          refine j_goto (tgt := 4) (pc := 37) hX dL_union_37 (by decide) ?_
          exact j_eq (lv2 := [(0, .ref ax), (1, .int k), (2, .int (S_or v.2.2.1 k (j + 1))), (3, .int (nI (j + 1)))]) (ws2 := [(ax, .inr (8, [.ref q.1, .ref h, .ref sl, .ref p, .ref s, .ref gr, .ref e])), (q.1, .inr (6, [.int v.1, .int (nI v.2.1), .ref q.2.1, .ref q.2.2.1, .ref q.2.2.2])), (q.2.1, .inl (gI g, 14, .inl v.2.2.1)), (q.2.2.1, .inl (gI g, 14, .inl v.2.2.2.1)), (q.2.2.2, .inl (gI g, 14, .inl v.2.2.2.2)), (h, .inr (1, [.int (nI c), .ref hs])), (p, .inr (2, [.int (nI pn), .ref ps, .int b1, .ref pt, .ref pp, .int b2, .int b3, .int b4])), (s, .inr (4, [.int zz.1, .int zz.2.1, .int (nI zz.2.2.1), .int zz.2.2.2.1, .int (nI zz.2.2.2.2.1), .int zz.2.2.2.2.2.1, .ref s1, .ref s2, .ref s3, .ref s4])), (s1, .inl (gI g, 18, .inl zz.2.2.2.2.2.2.1)), (s2, .inl (gI g, 14, .inl zz.2.2.2.2.2.2.2.1)), (s3, .inl (gI g, 14, .inl zz.2.2.2.2.2.2.2.2.1)), (s4, .inl (gI g, 14, .inl (oI zz.2.2.2.2.2.2.2.2.2)))]) (by first | rfl | (simp only [S_or, c10_3, c10_3n, c10_3m, c19_6, c19_6b, reduceIte, or0, add0]; first | done | rfl)) (by first | rfl | (simp only [S_or, c10_3, c10_3n, c10_3m, c19_6, c19_6b, reduceIte, or0, add0]; first | done | rfl)) (ih4 _ (by omega) (j + 1) zz (by omega) rfl)
        · skip
          have c19_6b : (bt k j) = true := jb_1.mp c19_6
          refine j_aload_n (pc := 22) hX dL_union_22 0 rfl ?_
          refine j_iload_n (pc := 23) hX dL_union_23 3 rfl ?_
          refine j_iconst (v := 0) (pc := 24) hX dL_union_24 (by decide) ?_
          refine j_callVI (n := 2) (As := [.int (nI j), .int 0]) (rest := [.int (S_or v.2.2.1 k j)]) (pc := 25) hX (c_X8_ofSet g ax q h sl p s gr e v s1 s2 s3 s4 zz (nI j) 0 (by first | assumption | omega)) (CV.of mw294 mw295 mw296 mw13 mw297 ⟨rfl, by decide +kernel, by decide +kernel, by decide +kernel⟩ (T := TX8) (N := 7) rfl) (Nat.le_of_ble_eq_true rfl) (Nat.le_of_ble_eq_true rfl) (Nat.le_of_ble_eq_true rfl) (Nat.le_of_ble_eq_true rfl) 0 rfl [0, 1, 2, 3, 4, 7, 8, 9, 10, 11] (by decide +kernel) rfl rfl rfl (Nat.le_of_ble_eq_true rfl) dL_union_25 (fun r8 wz hq9 => ?_)
          obtain ⟨z1_7, rfl, rfl⟩ := hq9
          refine j_ws (ws2 := [(ax, .inr (8, [.ref q.1, .ref h, .ref sl, .ref p, .ref s, .ref gr, .ref e])), (q.1, .inr (6, [.int v.1, .int (nI v.2.1), .ref q.2.1, .ref q.2.2.1, .ref q.2.2.2])), (q.2.1, .inl (gI g, 14, .inl v.2.2.1)), (q.2.2.1, .inl (gI g, 14, .inl v.2.2.2.1)), (q.2.2.2, .inl (gI g, 14, .inl v.2.2.2.2)), (h, .inr (1, [.int (nI c), .ref hs])), (p, .inr (2, [.int (nI pn), .ref ps, .int b1, .ref pt, .ref pp, .int b2, .int b3, .int b4])), (s, .inr (4, [.int z1_7.1, .int z1_7.2.1, .int (nI z1_7.2.2.1), .int z1_7.2.2.2.1, .int (nI z1_7.2.2.2.2.1), .int z1_7.2.2.2.2.2.1, .ref s1, .ref s2, .ref s3, .ref s4])), (s1, .inl (gI g, 18, .inl z1_7.2.2.2.2.2.2.1)), (s2, .inl (gI g, 14, .inl z1_7.2.2.2.2.2.2.2.1)), (s3, .inl (gI g, 14, .inl z1_7.2.2.2.2.2.2.2.2.1)), (s4, .inl (gI g, 14, .inl (oI z1_7.2.2.2.2.2.2.2.2.2)))]) rfl ?_
          refine j_top (b := v.2.2.1 j) (ro_0 (by first | exact hv | exact hok.1) (by omega)) ?_
          refine j_goto (tgt := 32) (pc := 28) hX dL_union_28 (by decide) ?_
          refine j_ior (pc := 32) hX dL_union_32 ?_
          refine j_istore_n (lv2 := [(0, .ref ax), (1, .int k), (2, .int ((S_or v.2.2.1 k j) ||| (v.2.2.1 j))), (3, .int (nI j))]) (pc := 33) hX dL_union_33 [1, 2, 0, 3] (by decide) rfl ?_
          refine j_iinc (v := nI (j + 1)) (lv2 := [(0, .ref ax), (1, .int k), (2, .int ((S_or v.2.2.1 k j) ||| (v.2.2.1 j))), (3, .int (nI (j + 1)))]) (pc := 34) hX dL_union_34 3 rfl (nI_add j 1) [1, 2, 3, 0] (by decide) rfl ?_
          refine j_goto (tgt := 4) (pc := 37) hX dL_union_37 (by decide) ?_
          exact j_eq (lv2 := [(0, .ref ax), (1, .int k), (2, .int (S_or v.2.2.1 k (j + 1))), (3, .int (nI (j + 1)))]) (ws2 := [(ax, .inr (8, [.ref q.1, .ref h, .ref sl, .ref p, .ref s, .ref gr, .ref e])), (q.1, .inr (6, [.int v.1, .int (nI v.2.1), .ref q.2.1, .ref q.2.2.1, .ref q.2.2.2])), (q.2.1, .inl (gI g, 14, .inl v.2.2.1)), (q.2.2.1, .inl (gI g, 14, .inl v.2.2.2.1)), (q.2.2.2, .inl (gI g, 14, .inl v.2.2.2.2)), (h, .inr (1, [.int (nI c), .ref hs])), (p, .inr (2, [.int (nI pn), .ref ps, .int b1, .ref pt, .ref pp, .int b2, .int b3, .int b4])), (s, .inr (4, [.int z1_7.1, .int z1_7.2.1, .int (nI z1_7.2.2.1), .int z1_7.2.2.2.1, .int (nI z1_7.2.2.2.2.1), .int z1_7.2.2.2.2.2.1, .ref s1, .ref s2, .ref s3, .ref s4])), (s1, .inl (gI g, 18, .inl z1_7.2.2.2.2.2.2.1)), (s2, .inl (gI g, 14, .inl z1_7.2.2.2.2.2.2.2.1)), (s3, .inl (gI g, 14, .inl z1_7.2.2.2.2.2.2.2.2.1)), (s4, .inl (gI g, 14, .inl (oI z1_7.2.2.2.2.2.2.2.2.2)))]) (by first | rfl | (simp only [S_or, c10_3, c10_3n, c10_3m, c19_6, c19_6b, reduceIte, or0, add0]; first | done | rfl)) (by first | rfl | (simp only [S_or, c10_3, c10_3n, c10_3m, c19_6, c19_6b, reduceIte, or0, add0]; first | done | rfl)) (ih4 _ (by omega) (j + 1) z1_7 (by omega) rfl)
  exact j_eq (lv2 := [(0, .ref ax), (1, .int k), (2, .int (S_or v.2.2.1 k 0)), (3, .int (nI 0))]) (ws2 := [(ax, .inr (8, [.ref q.1, .ref h, .ref sl, .ref p, .ref s, .ref gr, .ref e])), (q.1, .inr (6, [.int v.1, .int (nI v.2.1), .ref q.2.1, .ref q.2.2.1, .ref q.2.2.2])), (q.2.1, .inl (gI g, 14, .inl v.2.2.1)), (q.2.2.1, .inl (gI g, 14, .inl v.2.2.2.1)), (q.2.2.2, .inl (gI g, 14, .inl v.2.2.2.2)), (h, .inr (1, [.int (nI c), .ref hs])), (p, .inr (2, [.int (nI pn), .ref ps, .int b1, .ref pt, .ref pp, .int b2, .int b3, .int b4])), (s, .inr (4, [.int z.1, .int z.2.1, .int (nI z.2.2.1), .int z.2.2.2.1, .int (nI z.2.2.2.2.1), .int z.2.2.2.2.2.1, .ref s1, .ref s2, .ref s3, .ref s4])), (s1, .inl (gI g, 18, .inl z.2.2.2.2.2.2.1)), (s2, .inl (gI g, 14, .inl z.2.2.2.2.2.2.2.1)), (s3, .inl (gI g, 14, .inl z.2.2.2.2.2.2.2.2.1)), (s4, .inl (gI g, 14, .inl (oI z.2.2.2.2.2.2.2.2.2)))]) (rfl) (rfl) (L4 _ 0 z (by omega) rfl)

set_option maxHeartbeats 4000000 in
set_option maxRecDepth 100000 in
theorem c_L_prices (g : jG) (ax : Nat) (q : adT) (h : Nat) (sl : Nat) (p : Nat) (s : Nat) (gr : Nat) (e : Nat) (v : StT) (hs : Nat) (c : Nat) (ps : Nat) (pt : Nat) (pp : Nat) (pn : Nat) (b1 : Int32) (b2 : Int32) (b3 : Int32) (b4 : Int32) (s1 : Nat) (s2 : Nat) (s3 : Nat) (s4 : Nat) (z : SHT) (k : Int32) (hv : v.2.1 ≤ 14) : jMI g yL_prices method_7_code 4 .int 7 152 [.ref ax, .int k] [(ax, .inr (8, [.ref q.1, .ref h, .ref sl, .ref p, .ref s, .ref gr, .ref e])), (q.1, .inr (6, [.int v.1, .int (nI v.2.1), .ref q.2.1, .ref q.2.2.1, .ref q.2.2.2])), (q.2.1, .inl (gI g, 14, .inl v.2.2.1)), (q.2.2.1, .inl (gI g, 14, .inl v.2.2.2.1)), (q.2.2.2, .inl (gI g, 14, .inl v.2.2.2.2)), (h, .inr (1, [.int (nI c), .ref hs])), (p, .inr (2, [.int (nI pn), .ref ps, .int b1, .ref pt, .ref pp, .int b2, .int b3, .int b4])), (s, .inr (4, [.int z.1, .int z.2.1, .int (nI z.2.2.1), .int z.2.2.2.1, .int (nI z.2.2.2.2.1), .int z.2.2.2.2.2.1, .ref s1, .ref s2, .ref s3, .ref s4])), (s1, .inl (gI g, 18, .inl z.2.2.2.2.2.2.1)), (s2, .inl (gI g, 14, .inl z.2.2.2.2.2.2.2.1)), (s3, .inl (gI g, 14, .inl z.2.2.2.2.2.2.2.2.1)), (s4, .inl (gI g, 14, .inl (oI z.2.2.2.2.2.2.2.2.2)))] (fun rz wz => ∃ z1 : SHT, rz = S_sum v.2.2.2.1 k v.2.1 ∧ wz = [(ax, .inr (8, [.ref q.1, .ref h, .ref sl, .ref p, .ref s, .ref gr, .ref e])), (q.1, .inr (6, [.int v.1, .int (nI v.2.1), .ref q.2.1, .ref q.2.2.1, .ref q.2.2.2])), (q.2.1, .inl (gI g, 14, .inl v.2.2.1)), (q.2.2.1, .inl (gI g, 14, .inl v.2.2.2.1)), (q.2.2.2, .inl (gI g, 14, .inl v.2.2.2.2)), (h, .inr (1, [.int (nI c), .ref hs])), (p, .inr (2, [.int (nI pn), .ref ps, .int b1, .ref pt, .ref pp, .int b2, .int b3, .int b4])), (s, .inr (4, [.int z1.1, .int z1.2.1, .int (nI z1.2.2.1), .int z1.2.2.2.1, .int (nI z1.2.2.2.2.1), .int z1.2.2.2.2.2.1, .ref s1, .ref s2, .ref s3, .ref s4])), (s1, .inl (gI g, 18, .inl z1.2.2.2.2.2.2.1)), (s2, .inl (gI g, 14, .inl z1.2.2.2.2.2.2.2.1)), (s3, .inl (gI g, 14, .inl z1.2.2.2.2.2.2.2.2.1)), (s4, .inl (gI g, 14, .inl (oI z1.2.2.2.2.2.2.2.2.2)))]) := by
  refine jMI.intro (by decide +kernel) (Nat.le_of_ble_eq_true rfl) (fun x hX hQ => ?_)
  refine j_lv (lv2 := [(0, .ref ax), (1, .int k)]) rfl ?_
  refine j_iconst (v := 0) (pc := 0) hX dL_prices_0 (by decide) ?_
  refine j_istore_n (lv2 := [(0, .ref ax), (1, .int k), (2, .int 0)]) (pc := 1) hX dL_prices_1 [1, 2, 0] (by decide) rfl ?_
  refine j_iconst (v := 0) (pc := 2) hX dL_prices_2 (by decide) ?_
  refine j_istore_n (lv2 := [(0, .ref ax), (1, .int k), (2, .int 0), (3, .int 0)]) (pc := 3) hX dL_prices_3 [1, 2, 3, 0] (by decide) rfl ?_
  have L4 : ∀ (d : Nat) (j : Nat) (zz : SHT), j ≤ v.2.1 → v.2.1 - j = d → J g x 4 0 0 4 [(0, .ref ax), (1, .int k), (2, .int (S_sum v.2.2.2.1 k j)), (3, .int (nI j))] [] [(ax, .inr (8, [.ref q.1, .ref h, .ref sl, .ref p, .ref s, .ref gr, .ref e])), (q.1, .inr (6, [.int v.1, .int (nI v.2.1), .ref q.2.1, .ref q.2.2.1, .ref q.2.2.2])), (q.2.1, .inl (gI g, 14, .inl v.2.2.1)), (q.2.2.1, .inl (gI g, 14, .inl v.2.2.2.1)), (q.2.2.2, .inl (gI g, 14, .inl v.2.2.2.2)), (h, .inr (1, [.int (nI c), .ref hs])), (p, .inr (2, [.int (nI pn), .ref ps, .int b1, .ref pt, .ref pp, .int b2, .int b3, .int b4])), (s, .inr (4, [.int zz.1, .int zz.2.1, .int (nI zz.2.2.1), .int zz.2.2.2.1, .int (nI zz.2.2.2.2.1), .int zz.2.2.2.2.2.1, .ref s1, .ref s2, .ref s3, .ref s4])), (s1, .inl (gI g, 18, .inl zz.2.2.2.2.2.2.1)), (s2, .inl (gI g, 14, .inl zz.2.2.2.2.2.2.2.1)), (s3, .inl (gI g, 14, .inl zz.2.2.2.2.2.2.2.2.1)), (s4, .inl (gI g, 14, .inl (oI zz.2.2.2.2.2.2.2.2.2)))] := by
    intro d
    induction d using Nat.strongRecOn with
    | _ d ih4 =>
      intro j zz hj hd4
      refine j_iload_n (pc := 4) hX dL_prices_4 3 rfl ?_
      refine j_aload_n (pc := 5) hX dL_prices_5 0 rfl ?_
      refine j_iconst (v := 0) (pc := 6) hX dL_prices_6 (by decide) ?_
      refine j_callVI (n := 1) (As := [.int 0]) (rest := [.int (nI j)]) (pc := 7) hX (c_X8_count g ax q h sl p s gr e v hs ps pt pp c pn b1 b2 b3 b4 0 (by first | assumption | omega)) (CV.of mw247 mw248 mw249 mw13 mw250 ⟨rfl, by decide +kernel, by decide +kernel, by decide +kernel⟩ (T := TX8) (N := 7) rfl) (Nat.le_of_ble_eq_true rfl) (Nat.le_of_ble_eq_true rfl) (Nat.le_of_ble_eq_true rfl) (Nat.le_of_ble_eq_true rfl) 0 rfl [0, 1, 2, 3, 4, 5, 6] (by decide +kernel) rfl rfl rfl (Nat.le_of_ble_eq_true rfl) dL_prices_7 (fun r1 wz hq2 => ?_)
      obtain ⟨rfl, rfl⟩ := hq2
      refine j_ws (ws2 := [(ax, .inr (8, [.ref q.1, .ref h, .ref sl, .ref p, .ref s, .ref gr, .ref e])), (q.1, .inr (6, [.int v.1, .int (nI v.2.1), .ref q.2.1, .ref q.2.2.1, .ref q.2.2.2])), (q.2.1, .inl (gI g, 14, .inl v.2.2.1)), (q.2.2.1, .inl (gI g, 14, .inl v.2.2.2.1)), (q.2.2.2, .inl (gI g, 14, .inl v.2.2.2.2)), (h, .inr (1, [.int (nI c), .ref hs])), (p, .inr (2, [.int (nI pn), .ref ps, .int b1, .ref pt, .ref pp, .int b2, .int b3, .int b4])), (s, .inr (4, [.int zz.1, .int zz.2.1, .int (nI zz.2.2.1), .int zz.2.2.2.1, .int (nI zz.2.2.2.2.1), .int zz.2.2.2.2.2.1, .ref s1, .ref s2, .ref s3, .ref s4])), (s1, .inl (gI g, 18, .inl zz.2.2.2.2.2.2.1)), (s2, .inl (gI g, 14, .inl zz.2.2.2.2.2.2.2.1)), (s3, .inl (gI g, 14, .inl zz.2.2.2.2.2.2.2.2.1)), (s4, .inl (gI g, 14, .inl (oI zz.2.2.2.2.2.2.2.2.2)))]) rfl ?_
      refine j_top (b := nI v.2.1) (rc_0) ?_
      refine j_icmp_ge (tgt := 40) (pc := 10) hX dL_prices_10 (by decide) (fun c10_3 => ?_) (fun c10_3 => ?_)
      · skip
        have c10_3n : v.2.1 ≤ j := (nI_leI (a := v.2.1) (b := j) (by omega) (by omega)).mp c10_3
        have c10_3m : ¬ j < v.2.1 := by omega
        refine j_iload_n (pc := 40) hX dL_prices_40 2 rfl ?_
        exact j_iret (pc := 41) hX hQ dL_prices_41 rfl ⟨zz, (by rw [show j = v.2.1 by omega]), (rfl)⟩
      · skip
        have c10_3n : ¬ v.2.1 ≤ j := fun h9 => c10_3 ((nI_leI (a := v.2.1) (b := j) (by omega) (by omega)).mpr h9)
        have c10_3m : j < v.2.1 := by omega
        refine j_iload_n (pc := 13) hX dL_prices_13 2 rfl ?_
        refine j_iload_n (pc := 14) hX dL_prices_14 1 rfl ?_
        refine j_iload_n (pc := 15) hX dL_prices_15 3 rfl ?_
        refine j_callSI (n := 2) (As := [.int k, .int (nI j)]) (rest := [.int (S_sum v.2.2.2.1 k j)]) (pc := 16) hX (c_L_has g k j (by first | assumption | omega)) (CS.of mw339 mw340 mw12 mw341 ⟨by decide +kernel, by decide +kernel, by decide +kernel⟩) (Nat.le_of_ble_eq_true rfl) (Nat.le_of_ble_eq_true rfl) (Nat.le_of_ble_eq_true rfl) (Nat.le_of_ble_eq_true rfl) [] (by decide +kernel) rfl rfl rfl (Nat.le_of_ble_eq_true rfl) dL_prices_16 (fun r4 wz hq5 => ?_)
        obtain ⟨rfl, rfl⟩ := hq5
        refine j_ws (ws2 := [(ax, .inr (8, [.ref q.1, .ref h, .ref sl, .ref p, .ref s, .ref gr, .ref e])), (q.1, .inr (6, [.int v.1, .int (nI v.2.1), .ref q.2.1, .ref q.2.2.1, .ref q.2.2.2])), (q.2.1, .inl (gI g, 14, .inl v.2.2.1)), (q.2.2.1, .inl (gI g, 14, .inl v.2.2.2.1)), (q.2.2.2, .inl (gI g, 14, .inl v.2.2.2.2)), (h, .inr (1, [.int (nI c), .ref hs])), (p, .inr (2, [.int (nI pn), .ref ps, .int b1, .ref pt, .ref pp, .int b2, .int b3, .int b4])), (s, .inr (4, [.int zz.1, .int zz.2.1, .int (nI zz.2.2.1), .int zz.2.2.2.1, .int (nI zz.2.2.2.2.1), .int zz.2.2.2.2.2.1, .ref s1, .ref s2, .ref s3, .ref s4])), (s1, .inl (gI g, 18, .inl zz.2.2.2.2.2.2.1)), (s2, .inl (gI g, 14, .inl zz.2.2.2.2.2.2.2.1)), (s3, .inl (gI g, 14, .inl zz.2.2.2.2.2.2.2.2.1)), (s4, .inl (gI g, 14, .inl (oI zz.2.2.2.2.2.2.2.2.2)))]) rfl ?_
        refine j_if_eq (tgt := 31) (pc := 19) hX dL_prices_19 (by decide) (fun c19_6 => ?_) (fun c19_6 => ?_)
        · skip
          have c19_6b : (bt k j) = false := jb_0.mp c19_6
          refine j_iconst (v := 0) (pc := 31) hX dL_prices_31 (by decide) ?_
          refine j_iadd (pc := 32) hX dL_prices_32 ?_
          refine j_istore_n (lv2 := [(0, .ref ax), (1, .int k), (2, .int ((S_sum v.2.2.2.1 k j) + 0)), (3, .int (nI j))]) (pc := 33) hX dL_prices_33 [1, 2, 0, 3] (by decide) rfl ?_
          refine j_iinc (v := nI (j + 1)) (lv2 := [(0, .ref ax), (1, .int k), (2, .int ((S_sum v.2.2.2.1 k j) + 0)), (3, .int (nI (j + 1)))]) (pc := 34) hX dL_prices_34 3 rfl (nI_add j 1) [1, 2, 3, 0] (by decide) rfl ?_
          refine j_goto (tgt := 4) (pc := 37) hX dL_prices_37 (by decide) ?_
          exact j_eq (lv2 := [(0, .ref ax), (1, .int k), (2, .int (S_sum v.2.2.2.1 k (j + 1))), (3, .int (nI (j + 1)))]) (ws2 := [(ax, .inr (8, [.ref q.1, .ref h, .ref sl, .ref p, .ref s, .ref gr, .ref e])), (q.1, .inr (6, [.int v.1, .int (nI v.2.1), .ref q.2.1, .ref q.2.2.1, .ref q.2.2.2])), (q.2.1, .inl (gI g, 14, .inl v.2.2.1)), (q.2.2.1, .inl (gI g, 14, .inl v.2.2.2.1)), (q.2.2.2, .inl (gI g, 14, .inl v.2.2.2.2)), (h, .inr (1, [.int (nI c), .ref hs])), (p, .inr (2, [.int (nI pn), .ref ps, .int b1, .ref pt, .ref pp, .int b2, .int b3, .int b4])), (s, .inr (4, [.int zz.1, .int zz.2.1, .int (nI zz.2.2.1), .int zz.2.2.2.1, .int (nI zz.2.2.2.2.1), .int zz.2.2.2.2.2.1, .ref s1, .ref s2, .ref s3, .ref s4])), (s1, .inl (gI g, 18, .inl zz.2.2.2.2.2.2.1)), (s2, .inl (gI g, 14, .inl zz.2.2.2.2.2.2.2.1)), (s3, .inl (gI g, 14, .inl zz.2.2.2.2.2.2.2.2.1)), (s4, .inl (gI g, 14, .inl (oI zz.2.2.2.2.2.2.2.2.2)))]) (by first | rfl | (simp only [S_sum, c10_3, c10_3n, c10_3m, c19_6, c19_6b, reduceIte, or0, add0]; first | done | rfl)) (by first | rfl | (simp only [S_sum, c10_3, c10_3n, c10_3m, c19_6, c19_6b, reduceIte, or0, add0]; first | done | rfl)) (ih4 _ (by omega) (j + 1) zz (by omega) rfl)
        · skip
          have c19_6b : (bt k j) = true := jb_1.mp c19_6
          refine j_aload_n (pc := 22) hX dL_prices_22 0 rfl ?_
          refine j_iload_n (pc := 23) hX dL_prices_23 3 rfl ?_
          refine j_iconst (v := 1) (pc := 24) hX dL_prices_24 (by decide) ?_
          refine j_callVI (n := 2) (As := [.int (nI j), .int 1]) (rest := [.int (S_sum v.2.2.2.1 k j)]) (pc := 25) hX (c_X8_ofSet g ax q h sl p s gr e v s1 s2 s3 s4 zz (nI j) 1 (by first | assumption | omega)) (CV.of mw294 mw295 mw296 mw13 mw297 ⟨rfl, by decide +kernel, by decide +kernel, by decide +kernel⟩ (T := TX8) (N := 7) rfl) (Nat.le_of_ble_eq_true rfl) (Nat.le_of_ble_eq_true rfl) (Nat.le_of_ble_eq_true rfl) (Nat.le_of_ble_eq_true rfl) 0 rfl [0, 1, 2, 3, 4, 7, 8, 9, 10, 11] (by decide +kernel) rfl rfl rfl (Nat.le_of_ble_eq_true rfl) dL_prices_25 (fun r8 wz hq9 => ?_)
          obtain ⟨z1_7, rfl, rfl⟩ := hq9
          refine j_ws (ws2 := [(ax, .inr (8, [.ref q.1, .ref h, .ref sl, .ref p, .ref s, .ref gr, .ref e])), (q.1, .inr (6, [.int v.1, .int (nI v.2.1), .ref q.2.1, .ref q.2.2.1, .ref q.2.2.2])), (q.2.1, .inl (gI g, 14, .inl v.2.2.1)), (q.2.2.1, .inl (gI g, 14, .inl v.2.2.2.1)), (q.2.2.2, .inl (gI g, 14, .inl v.2.2.2.2)), (h, .inr (1, [.int (nI c), .ref hs])), (p, .inr (2, [.int (nI pn), .ref ps, .int b1, .ref pt, .ref pp, .int b2, .int b3, .int b4])), (s, .inr (4, [.int z1_7.1, .int z1_7.2.1, .int (nI z1_7.2.2.1), .int z1_7.2.2.2.1, .int (nI z1_7.2.2.2.2.1), .int z1_7.2.2.2.2.2.1, .ref s1, .ref s2, .ref s3, .ref s4])), (s1, .inl (gI g, 18, .inl z1_7.2.2.2.2.2.2.1)), (s2, .inl (gI g, 14, .inl z1_7.2.2.2.2.2.2.2.1)), (s3, .inl (gI g, 14, .inl z1_7.2.2.2.2.2.2.2.2.1)), (s4, .inl (gI g, 14, .inl (oI z1_7.2.2.2.2.2.2.2.2.2)))]) rfl ?_
          refine j_top (b := v.2.2.2.1 j) (ro_1 (by first | exact hv | exact hok.1) (by omega)) ?_
          refine j_goto (tgt := 32) (pc := 28) hX dL_prices_28 (by decide) ?_
          refine j_iadd (pc := 32) hX dL_prices_32 ?_
          refine j_istore_n (lv2 := [(0, .ref ax), (1, .int k), (2, .int ((S_sum v.2.2.2.1 k j) + (v.2.2.2.1 j))), (3, .int (nI j))]) (pc := 33) hX dL_prices_33 [1, 2, 0, 3] (by decide) rfl ?_
          refine j_iinc (v := nI (j + 1)) (lv2 := [(0, .ref ax), (1, .int k), (2, .int ((S_sum v.2.2.2.1 k j) + (v.2.2.2.1 j))), (3, .int (nI (j + 1)))]) (pc := 34) hX dL_prices_34 3 rfl (nI_add j 1) [1, 2, 3, 0] (by decide) rfl ?_
          refine j_goto (tgt := 4) (pc := 37) hX dL_prices_37 (by decide) ?_
          exact j_eq (lv2 := [(0, .ref ax), (1, .int k), (2, .int (S_sum v.2.2.2.1 k (j + 1))), (3, .int (nI (j + 1)))]) (ws2 := [(ax, .inr (8, [.ref q.1, .ref h, .ref sl, .ref p, .ref s, .ref gr, .ref e])), (q.1, .inr (6, [.int v.1, .int (nI v.2.1), .ref q.2.1, .ref q.2.2.1, .ref q.2.2.2])), (q.2.1, .inl (gI g, 14, .inl v.2.2.1)), (q.2.2.1, .inl (gI g, 14, .inl v.2.2.2.1)), (q.2.2.2, .inl (gI g, 14, .inl v.2.2.2.2)), (h, .inr (1, [.int (nI c), .ref hs])), (p, .inr (2, [.int (nI pn), .ref ps, .int b1, .ref pt, .ref pp, .int b2, .int b3, .int b4])), (s, .inr (4, [.int z1_7.1, .int z1_7.2.1, .int (nI z1_7.2.2.1), .int z1_7.2.2.2.1, .int (nI z1_7.2.2.2.2.1), .int z1_7.2.2.2.2.2.1, .ref s1, .ref s2, .ref s3, .ref s4])), (s1, .inl (gI g, 18, .inl z1_7.2.2.2.2.2.2.1)), (s2, .inl (gI g, 14, .inl z1_7.2.2.2.2.2.2.2.1)), (s3, .inl (gI g, 14, .inl z1_7.2.2.2.2.2.2.2.2.1)), (s4, .inl (gI g, 14, .inl (oI z1_7.2.2.2.2.2.2.2.2.2)))]) (by first | rfl | (simp only [S_sum, c10_3, c10_3n, c10_3m, c19_6, c19_6b, reduceIte, or0, add0]; first | done | rfl)) (by first | rfl | (simp only [S_sum, c10_3, c10_3n, c10_3m, c19_6, c19_6b, reduceIte, or0, add0]; first | done | rfl)) (ih4 _ (by omega) (j + 1) z1_7 (by omega) rfl)
  exact j_eq (lv2 := [(0, .ref ax), (1, .int k), (2, .int (S_sum v.2.2.2.1 k 0)), (3, .int (nI 0))]) (ws2 := [(ax, .inr (8, [.ref q.1, .ref h, .ref sl, .ref p, .ref s, .ref gr, .ref e])), (q.1, .inr (6, [.int v.1, .int (nI v.2.1), .ref q.2.1, .ref q.2.2.1, .ref q.2.2.2])), (q.2.1, .inl (gI g, 14, .inl v.2.2.1)), (q.2.2.1, .inl (gI g, 14, .inl v.2.2.2.1)), (q.2.2.2, .inl (gI g, 14, .inl v.2.2.2.2)), (h, .inr (1, [.int (nI c), .ref hs])), (p, .inr (2, [.int (nI pn), .ref ps, .int b1, .ref pt, .ref pp, .int b2, .int b3, .int b4])), (s, .inr (4, [.int z.1, .int z.2.1, .int (nI z.2.2.1), .int z.2.2.2.1, .int (nI z.2.2.2.2.1), .int z.2.2.2.2.2.1, .ref s1, .ref s2, .ref s3, .ref s4])), (s1, .inl (gI g, 18, .inl z.2.2.2.2.2.2.1)), (s2, .inl (gI g, 14, .inl z.2.2.2.2.2.2.2.1)), (s3, .inl (gI g, 14, .inl z.2.2.2.2.2.2.2.2.1)), (s4, .inl (gI g, 14, .inl (oI z.2.2.2.2.2.2.2.2.2)))]) (rfl) (rfl) (L4 _ 0 z (by omega) rfl)

set_option maxHeartbeats 4000000 in
set_option maxRecDepth 100000 in
theorem c_L_marked (g : jG) (ax : Nat) (q : adT) (h : Nat) (sl : Nat) (p : Nat) (s : Nat) (gr : Nat) (e : Nat) (v : StT) (hs : Nat) (c : Nat) (ps : Nat) (pt : Nat) (pp : Nat) (pn : Nat) (b1 : Int32) (b2 : Int32) (b3 : Int32) (b4 : Int32) (s1 : Nat) (s2 : Nat) (s3 : Nat) (s4 : Nat) (z : SHT) (k : Int32) (hv : v.2.1 ≤ 14) : jMI g yL_marked method_6_code 4 .int 7 152 [.ref ax, .int k] [(ax, .inr (8, [.ref q.1, .ref h, .ref sl, .ref p, .ref s, .ref gr, .ref e])), (q.1, .inr (6, [.int v.1, .int (nI v.2.1), .ref q.2.1, .ref q.2.2.1, .ref q.2.2.2])), (q.2.1, .inl (gI g, 14, .inl v.2.2.1)), (q.2.2.1, .inl (gI g, 14, .inl v.2.2.2.1)), (q.2.2.2, .inl (gI g, 14, .inl v.2.2.2.2)), (h, .inr (1, [.int (nI c), .ref hs])), (p, .inr (2, [.int (nI pn), .ref ps, .int b1, .ref pt, .ref pp, .int b2, .int b3, .int b4])), (s, .inr (4, [.int z.1, .int z.2.1, .int (nI z.2.2.1), .int z.2.2.2.1, .int (nI z.2.2.2.2.1), .int z.2.2.2.2.2.1, .ref s1, .ref s2, .ref s3, .ref s4])), (s1, .inl (gI g, 18, .inl z.2.2.2.2.2.2.1)), (s2, .inl (gI g, 14, .inl z.2.2.2.2.2.2.2.1)), (s3, .inl (gI g, 14, .inl z.2.2.2.2.2.2.2.2.1)), (s4, .inl (gI g, 14, .inl (oI z.2.2.2.2.2.2.2.2.2)))] (fun rz wz => ∃ z1 : SHT, rz = S_mk v.2.2.2.2 k v.2.1 ∧ wz = [(ax, .inr (8, [.ref q.1, .ref h, .ref sl, .ref p, .ref s, .ref gr, .ref e])), (q.1, .inr (6, [.int v.1, .int (nI v.2.1), .ref q.2.1, .ref q.2.2.1, .ref q.2.2.2])), (q.2.1, .inl (gI g, 14, .inl v.2.2.1)), (q.2.2.1, .inl (gI g, 14, .inl v.2.2.2.1)), (q.2.2.2, .inl (gI g, 14, .inl v.2.2.2.2)), (h, .inr (1, [.int (nI c), .ref hs])), (p, .inr (2, [.int (nI pn), .ref ps, .int b1, .ref pt, .ref pp, .int b2, .int b3, .int b4])), (s, .inr (4, [.int z1.1, .int z1.2.1, .int (nI z1.2.2.1), .int z1.2.2.2.1, .int (nI z1.2.2.2.2.1), .int z1.2.2.2.2.2.1, .ref s1, .ref s2, .ref s3, .ref s4])), (s1, .inl (gI g, 18, .inl z1.2.2.2.2.2.2.1)), (s2, .inl (gI g, 14, .inl z1.2.2.2.2.2.2.2.1)), (s3, .inl (gI g, 14, .inl z1.2.2.2.2.2.2.2.2.1)), (s4, .inl (gI g, 14, .inl (oI z1.2.2.2.2.2.2.2.2.2)))]) := by
  refine jMI.intro (by decide +kernel) (Nat.le_of_ble_eq_true rfl) (fun x hX hQ => ?_)
  refine j_lv (lv2 := [(0, .ref ax), (1, .int k)]) rfl ?_
  refine j_iconst (v := 0) (pc := 0) hX dL_marked_0 (by decide) ?_
  refine j_istore_n (lv2 := [(0, .ref ax), (1, .int k), (2, .int 0)]) (pc := 1) hX dL_marked_1 [1, 2, 0] (by decide) rfl ?_
  refine j_iconst (v := 0) (pc := 2) hX dL_marked_2 (by decide) ?_
  refine j_istore_n (lv2 := [(0, .ref ax), (1, .int k), (2, .int 0), (3, .int 0)]) (pc := 3) hX dL_marked_3 [1, 2, 3, 0] (by decide) rfl ?_
  have L4 : ∀ (d : Nat) (j : Nat) (zz : SHT), j ≤ v.2.1 → v.2.1 - j = d → J g x 4 0 0 4 [(0, .ref ax), (1, .int k), (2, .int (S_mk v.2.2.2.2 k j)), (3, .int (nI j))] [] [(ax, .inr (8, [.ref q.1, .ref h, .ref sl, .ref p, .ref s, .ref gr, .ref e])), (q.1, .inr (6, [.int v.1, .int (nI v.2.1), .ref q.2.1, .ref q.2.2.1, .ref q.2.2.2])), (q.2.1, .inl (gI g, 14, .inl v.2.2.1)), (q.2.2.1, .inl (gI g, 14, .inl v.2.2.2.1)), (q.2.2.2, .inl (gI g, 14, .inl v.2.2.2.2)), (h, .inr (1, [.int (nI c), .ref hs])), (p, .inr (2, [.int (nI pn), .ref ps, .int b1, .ref pt, .ref pp, .int b2, .int b3, .int b4])), (s, .inr (4, [.int zz.1, .int zz.2.1, .int (nI zz.2.2.1), .int zz.2.2.2.1, .int (nI zz.2.2.2.2.1), .int zz.2.2.2.2.2.1, .ref s1, .ref s2, .ref s3, .ref s4])), (s1, .inl (gI g, 18, .inl zz.2.2.2.2.2.2.1)), (s2, .inl (gI g, 14, .inl zz.2.2.2.2.2.2.2.1)), (s3, .inl (gI g, 14, .inl zz.2.2.2.2.2.2.2.2.1)), (s4, .inl (gI g, 14, .inl (oI zz.2.2.2.2.2.2.2.2.2)))] := by
    intro d
    induction d using Nat.strongRecOn with
    | _ d ih4 =>
      intro j zz hj hd4
      refine j_iload_n (pc := 4) hX dL_marked_4 3 rfl ?_
      refine j_aload_n (pc := 5) hX dL_marked_5 0 rfl ?_
      refine j_iconst (v := 0) (pc := 6) hX dL_marked_6 (by decide) ?_
      refine j_callVI (n := 1) (As := [.int 0]) (rest := [.int (nI j)]) (pc := 7) hX (c_X8_count g ax q h sl p s gr e v hs ps pt pp c pn b1 b2 b3 b4 0 (by first | assumption | omega)) (CV.of mw247 mw248 mw249 mw13 mw250 ⟨rfl, by decide +kernel, by decide +kernel, by decide +kernel⟩ (T := TX8) (N := 7) rfl) (Nat.le_of_ble_eq_true rfl) (Nat.le_of_ble_eq_true rfl) (Nat.le_of_ble_eq_true rfl) (Nat.le_of_ble_eq_true rfl) 0 rfl [0, 1, 2, 3, 4, 5, 6] (by decide +kernel) rfl rfl rfl (Nat.le_of_ble_eq_true rfl) dL_marked_7 (fun r1 wz hq2 => ?_)
      obtain ⟨rfl, rfl⟩ := hq2
      refine j_ws (ws2 := [(ax, .inr (8, [.ref q.1, .ref h, .ref sl, .ref p, .ref s, .ref gr, .ref e])), (q.1, .inr (6, [.int v.1, .int (nI v.2.1), .ref q.2.1, .ref q.2.2.1, .ref q.2.2.2])), (q.2.1, .inl (gI g, 14, .inl v.2.2.1)), (q.2.2.1, .inl (gI g, 14, .inl v.2.2.2.1)), (q.2.2.2, .inl (gI g, 14, .inl v.2.2.2.2)), (h, .inr (1, [.int (nI c), .ref hs])), (p, .inr (2, [.int (nI pn), .ref ps, .int b1, .ref pt, .ref pp, .int b2, .int b3, .int b4])), (s, .inr (4, [.int zz.1, .int zz.2.1, .int (nI zz.2.2.1), .int zz.2.2.2.1, .int (nI zz.2.2.2.2.1), .int zz.2.2.2.2.2.1, .ref s1, .ref s2, .ref s3, .ref s4])), (s1, .inl (gI g, 18, .inl zz.2.2.2.2.2.2.1)), (s2, .inl (gI g, 14, .inl zz.2.2.2.2.2.2.2.1)), (s3, .inl (gI g, 14, .inl zz.2.2.2.2.2.2.2.2.1)), (s4, .inl (gI g, 14, .inl (oI zz.2.2.2.2.2.2.2.2.2)))]) rfl ?_
      refine j_top (b := nI v.2.1) (rc_0) ?_
      refine j_icmp_ge (tgt := 39) (pc := 10) hX dL_marked_10 (by decide) (fun c10_3 => ?_) (fun c10_3 => ?_)
      · skip
        have c10_3n : v.2.1 ≤ j := (nI_leI (a := v.2.1) (b := j) (by omega) (by omega)).mp c10_3
        have c10_3m : ¬ j < v.2.1 := by omega
        refine j_iload_n (pc := 39) hX dL_marked_39 2 rfl ?_
        exact j_iret (pc := 40) hX hQ dL_marked_40 rfl ⟨zz, (by rw [show j = v.2.1 by omega]), (rfl)⟩
      · skip
        have c10_3n : ¬ v.2.1 ≤ j := fun h9 => c10_3 ((nI_leI (a := v.2.1) (b := j) (by omega) (by omega)).mpr h9)
        have c10_3m : j < v.2.1 := by omega
        refine j_iload_n (pc := 13) hX dL_marked_13 2 rfl ?_
        refine j_aload_n (pc := 14) hX dL_marked_14 0 rfl ?_
        refine j_iload_n (pc := 15) hX dL_marked_15 3 rfl ?_
        refine j_iconst (v := 2) (pc := 16) hX dL_marked_16 (by decide) ?_
        refine j_callVI (n := 2) (As := [.int (nI j), .int 2]) (rest := [.int (S_mk v.2.2.2.2 k j)]) (pc := 17) hX (c_X8_ofSet g ax q h sl p s gr e v s1 s2 s3 s4 zz (nI j) 2 (by first | assumption | omega)) (CV.of mw294 mw295 mw296 mw13 mw297 ⟨rfl, by decide +kernel, by decide +kernel, by decide +kernel⟩ (T := TX8) (N := 7) rfl) (Nat.le_of_ble_eq_true rfl) (Nat.le_of_ble_eq_true rfl) (Nat.le_of_ble_eq_true rfl) (Nat.le_of_ble_eq_true rfl) 0 rfl [0, 1, 2, 3, 4, 7, 8, 9, 10, 11] (by decide +kernel) rfl rfl rfl (Nat.le_of_ble_eq_true rfl) dL_marked_17 (fun r5 wz hq6 => ?_)
        obtain ⟨z1_4, rfl, rfl⟩ := hq6
        refine j_ws (ws2 := [(ax, .inr (8, [.ref q.1, .ref h, .ref sl, .ref p, .ref s, .ref gr, .ref e])), (q.1, .inr (6, [.int v.1, .int (nI v.2.1), .ref q.2.1, .ref q.2.2.1, .ref q.2.2.2])), (q.2.1, .inl (gI g, 14, .inl v.2.2.1)), (q.2.2.1, .inl (gI g, 14, .inl v.2.2.2.1)), (q.2.2.2, .inl (gI g, 14, .inl v.2.2.2.2)), (h, .inr (1, [.int (nI c), .ref hs])), (p, .inr (2, [.int (nI pn), .ref ps, .int b1, .ref pt, .ref pp, .int b2, .int b3, .int b4])), (s, .inr (4, [.int z1_4.1, .int z1_4.2.1, .int (nI z1_4.2.2.1), .int z1_4.2.2.2.1, .int (nI z1_4.2.2.2.2.1), .int z1_4.2.2.2.2.2.1, .ref s1, .ref s2, .ref s3, .ref s4])), (s1, .inl (gI g, 18, .inl z1_4.2.2.2.2.2.2.1)), (s2, .inl (gI g, 14, .inl z1_4.2.2.2.2.2.2.2.1)), (s3, .inl (gI g, 14, .inl z1_4.2.2.2.2.2.2.2.2.1)), (s4, .inl (gI g, 14, .inl (oI z1_4.2.2.2.2.2.2.2.2.2)))]) rfl ?_
        refine j_top (b := v.2.2.2.2 j) (ro_2 (by first | exact hv | exact hok.1) (by omega)) ?_
        refine j_iload_n (pc := 20) hX dL_marked_20 1 rfl ?_
        refine j_icmp_ne (tgt := 30) (pc := 21) hX dL_marked_21 (by decide) (fun c21_7 => ?_) (fun c21_7 => ?_)
        · skip
          refine j_iconst (v := 0) (pc := 30) hX dL_marked_30 (by decide) ?_
          refine j_ior (pc := 31) hX dL_marked_31 ?_
          refine j_istore_n (lv2 := [(0, .ref ax), (1, .int k), (2, .int ((S_mk v.2.2.2.2 k j) ||| 0)), (3, .int (nI j))]) (pc := 32) hX dL_marked_32 [1, 2, 0, 3] (by decide) rfl ?_
          refine j_iinc (v := nI (j + 1)) (lv2 := [(0, .ref ax), (1, .int k), (2, .int ((S_mk v.2.2.2.2 k j) ||| 0)), (3, .int (nI (j + 1)))]) (pc := 33) hX dL_marked_33 3 rfl (nI_add j 1) [1, 2, 3, 0] (by decide) rfl ?_
          refine j_goto (tgt := 4) (pc := 36) hX dL_marked_36 (by decide) ?_
          exact j_eq (lv2 := [(0, .ref ax), (1, .int k), (2, .int (S_mk v.2.2.2.2 k (j + 1))), (3, .int (nI (j + 1)))]) (ws2 := [(ax, .inr (8, [.ref q.1, .ref h, .ref sl, .ref p, .ref s, .ref gr, .ref e])), (q.1, .inr (6, [.int v.1, .int (nI v.2.1), .ref q.2.1, .ref q.2.2.1, .ref q.2.2.2])), (q.2.1, .inl (gI g, 14, .inl v.2.2.1)), (q.2.2.1, .inl (gI g, 14, .inl v.2.2.2.1)), (q.2.2.2, .inl (gI g, 14, .inl v.2.2.2.2)), (h, .inr (1, [.int (nI c), .ref hs])), (p, .inr (2, [.int (nI pn), .ref ps, .int b1, .ref pt, .ref pp, .int b2, .int b3, .int b4])), (s, .inr (4, [.int z1_4.1, .int z1_4.2.1, .int (nI z1_4.2.2.1), .int z1_4.2.2.2.1, .int (nI z1_4.2.2.2.2.1), .int z1_4.2.2.2.2.2.1, .ref s1, .ref s2, .ref s3, .ref s4])), (s1, .inl (gI g, 18, .inl z1_4.2.2.2.2.2.2.1)), (s2, .inl (gI g, 14, .inl z1_4.2.2.2.2.2.2.2.1)), (s3, .inl (gI g, 14, .inl z1_4.2.2.2.2.2.2.2.2.1)), (s4, .inl (gI g, 14, .inl (oI z1_4.2.2.2.2.2.2.2.2.2)))]) (by first | rfl | (simp only [S_mk, c10_3, c10_3n, c10_3m, c21_7, reduceIte, or0, add0]; first | done | rfl)) (by first | rfl | (simp only [S_mk, c10_3, c10_3n, c10_3m, c21_7, reduceIte, or0, add0]; first | done | rfl)) (ih4 _ (by omega) (j + 1) z1_4 (by omega) rfl)
        · skip
          refine j_iconst (v := 1) (pc := 24) hX dL_marked_24 (by decide) ?_
          refine j_iload_n (pc := 25) hX dL_marked_25 3 rfl ?_
          refine j_ishl (pc := 26) hX dL_marked_26 ?_
          refine j_top (b := bI j) rfl ?_
          refine j_goto (tgt := 31) (pc := 27) hX dL_marked_27 (by decide) ?_
          refine j_ior (pc := 31) hX dL_marked_31 ?_
          refine j_istore_n (lv2 := [(0, .ref ax), (1, .int k), (2, .int ((S_mk v.2.2.2.2 k j) ||| (bI j))), (3, .int (nI j))]) (pc := 32) hX dL_marked_32 [1, 2, 0, 3] (by decide) rfl ?_
          refine j_iinc (v := nI (j + 1)) (lv2 := [(0, .ref ax), (1, .int k), (2, .int ((S_mk v.2.2.2.2 k j) ||| (bI j))), (3, .int (nI (j + 1)))]) (pc := 33) hX dL_marked_33 3 rfl (nI_add j 1) [1, 2, 3, 0] (by decide) rfl ?_
          refine j_goto (tgt := 4) (pc := 36) hX dL_marked_36 (by decide) ?_
          exact j_eq (lv2 := [(0, .ref ax), (1, .int k), (2, .int (S_mk v.2.2.2.2 k (j + 1))), (3, .int (nI (j + 1)))]) (ws2 := [(ax, .inr (8, [.ref q.1, .ref h, .ref sl, .ref p, .ref s, .ref gr, .ref e])), (q.1, .inr (6, [.int v.1, .int (nI v.2.1), .ref q.2.1, .ref q.2.2.1, .ref q.2.2.2])), (q.2.1, .inl (gI g, 14, .inl v.2.2.1)), (q.2.2.1, .inl (gI g, 14, .inl v.2.2.2.1)), (q.2.2.2, .inl (gI g, 14, .inl v.2.2.2.2)), (h, .inr (1, [.int (nI c), .ref hs])), (p, .inr (2, [.int (nI pn), .ref ps, .int b1, .ref pt, .ref pp, .int b2, .int b3, .int b4])), (s, .inr (4, [.int z1_4.1, .int z1_4.2.1, .int (nI z1_4.2.2.1), .int z1_4.2.2.2.1, .int (nI z1_4.2.2.2.2.1), .int z1_4.2.2.2.2.2.1, .ref s1, .ref s2, .ref s3, .ref s4])), (s1, .inl (gI g, 18, .inl z1_4.2.2.2.2.2.2.1)), (s2, .inl (gI g, 14, .inl z1_4.2.2.2.2.2.2.2.1)), (s3, .inl (gI g, 14, .inl z1_4.2.2.2.2.2.2.2.2.1)), (s4, .inl (gI g, 14, .inl (oI z1_4.2.2.2.2.2.2.2.2.2)))]) (by first | rfl | (simp only [S_mk, c10_3, c10_3n, c10_3m, c21_7, reduceIte, or0, add0]; first | done | rfl)) (by first | rfl | (simp only [S_mk, c10_3, c10_3n, c10_3m, c21_7, reduceIte, or0, add0]; first | done | rfl)) (ih4 _ (by omega) (j + 1) z1_4 (by omega) rfl)
  exact j_eq (lv2 := [(0, .ref ax), (1, .int k), (2, .int (S_mk v.2.2.2.2 k 0)), (3, .int (nI 0))]) (ws2 := [(ax, .inr (8, [.ref q.1, .ref h, .ref sl, .ref p, .ref s, .ref gr, .ref e])), (q.1, .inr (6, [.int v.1, .int (nI v.2.1), .ref q.2.1, .ref q.2.2.1, .ref q.2.2.2])), (q.2.1, .inl (gI g, 14, .inl v.2.2.1)), (q.2.2.1, .inl (gI g, 14, .inl v.2.2.2.1)), (q.2.2.2, .inl (gI g, 14, .inl v.2.2.2.2)), (h, .inr (1, [.int (nI c), .ref hs])), (p, .inr (2, [.int (nI pn), .ref ps, .int b1, .ref pt, .ref pp, .int b2, .int b3, .int b4])), (s, .inr (4, [.int z.1, .int z.2.1, .int (nI z.2.2.1), .int z.2.2.2.1, .int (nI z.2.2.2.2.1), .int z.2.2.2.2.2.1, .ref s1, .ref s2, .ref s3, .ref s4])), (s1, .inl (gI g, 18, .inl z.2.2.2.2.2.2.1)), (s2, .inl (gI g, 14, .inl z.2.2.2.2.2.2.2.1)), (s3, .inl (gI g, 14, .inl z.2.2.2.2.2.2.2.2.1)), (s4, .inl (gI g, 14, .inl (oI z.2.2.2.2.2.2.2.2.2)))]) (rfl) (rfl) (L4 _ 0 z (by omega) rfl)

