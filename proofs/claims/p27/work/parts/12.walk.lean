set_option maxHeartbeats 4000000 in
set_option maxRecDepth 100000 in
theorem c_X7_noteFree (g : jG) (k : Nat) (k1 : Nat) (k2 : Nat) (k3 : Nat) (k4 : Nat) (k5 : Nat) (k6 : Nat) (k7 : Nat) (z : WT) (mask : Int32) (th : Int32) (pr : Int32) (hf : z.2.1 ≤ 14) : jMV g yX7_noteFree cX7_noteFree 4 0 0 0 0 [.ref k, .int mask, .int th, .int pr] [(k, .inr (7, [.int z.1, .int (nI z.2.1), .ref k1, .ref k2, .ref k3, .ref k4, .ref k5, .ref k6, .ref k7])), (k1, .inl (gI g, 14, .inl z.2.2.1)), (k2, .inl (gI g, 14, .inl z.2.2.2.1)), (k3, .inl (gI g, 14, .inl z.2.2.2.2.1)), (k4, .inl (gI g, 15, .inl z.2.2.2.2.2.1)), (k5, .inl (gI g, 15, .inl z.2.2.2.2.2.2.1)), (k6, .inl (gI g, 15, .inl z.2.2.2.2.2.2.2.1)), (k7, .inl (gI g, 15, .inl z.2.2.2.2.2.2.2.2))] (fun wz wzn => wz = [(k, .inr (7, [.int ((nF z mask th pr).1), .int (nI ((nF z mask th pr).2.1)), .ref k1, .ref k2, .ref k3, .ref k4, .ref k5, .ref k6, .ref k7])), (k1, .inl (gI g, 14, .inl ((nF z mask th pr).2.2.1))), (k2, .inl (gI g, 14, .inl ((nF z mask th pr).2.2.2.1))), (k3, .inl (gI g, 14, .inl ((nF z mask th pr).2.2.2.2.1))), (k4, .inl (gI g, 15, .inl ((nF z mask th pr).2.2.2.2.2.1))), (k5, .inl (gI g, 15, .inl ((nF z mask th pr).2.2.2.2.2.2.1))), (k6, .inl (gI g, 15, .inl ((nF z mask th pr).2.2.2.2.2.2.2.1))), (k7, .inl (gI g, 15, .inl ((nF z mask th pr).2.2.2.2.2.2.2.2)))] ∧ wzn = []) := by
  refine jMV.intro (by decide +kernel) (Nat.le_of_ble_eq_true rfl) (fun x hX hQ hN => ?_)
  refine j_lv (lv2 := [(0, .ref k), (1, .int mask), (2, .int th), (3, .int pr)]) rfl ?_
  refine j_aload_n (pc := 0) hX dX7_noteFree_0 0 rfl ?_
  refine j_get (ci := 7) (pc := 1) hX inG7 rfl 1 (by decide) mw177 0 rfl rfl dX7_noteFree_1 ?_
  refine j_bipush (v := 14) (pc := 4) hX dX7_noteFree_4 (by decide) ?_
  refine j_icmp_ge (tgt := 49) (pc := 6) hX dX7_noteFree_6 (by decide) (fun c6_1 => ?_) (fun c6_1 => ?_)
  · skip
    have c6_1n : 14 ≤ z.2.1 := (nI_leI (a := 14) (b := z.2.1) (by omega) (by omega)).mp c6_1
    have c6_1m : ¬ z.2.1 < 14 := by omega
    exact j_vret (pc := 49) hX hQ dX7_noteFree_49 [(k, .inr (7, [.int z.1, .int (nI z.2.1), .ref k1, .ref k2, .ref k3, .ref k4, .ref k5, .ref k6, .ref k7])), (k1, .inl (gI g, 14, .inl z.2.2.1)), (k2, .inl (gI g, 14, .inl z.2.2.2.1)), (k3, .inl (gI g, 14, .inl z.2.2.2.2.1)), (k4, .inl (gI g, 15, .inl z.2.2.2.2.2.1)), (k5, .inl (gI g, 15, .inl z.2.2.2.2.2.2.1)), (k6, .inl (gI g, 15, .inl z.2.2.2.2.2.2.2.1)), (k7, .inl (gI g, 15, .inl z.2.2.2.2.2.2.2.2))] [] rfl rfl ⟨(by first | rfl | first | (simp only [jb_t, jb_f, nF, c6_1, c6_1n, c6_1m, reduceIte, eq_self, decide_true, decide_false, Bool.and_true, Bool.true_and, Bool.and_false, Bool.false_and, Bool.and_self, not_true_eq_false, not_false_eq_true, and_true, true_and, and_false, false_and, and_self]; done) | (simp [jb_t, jb_f, nF, c6_1, c6_1n, c6_1m]; done)), (rfl)⟩
  · skip
    have c6_1n : ¬ 14 ≤ z.2.1 := fun h9 => c6_1 ((nI_leI (a := 14) (b := z.2.1) (by omega) (by omega)).mpr h9)
    have c6_1m : z.2.1 < 14 := by omega
    refine j_aload_n (pc := 9) hX dX7_noteFree_9 0 rfl ?_
    refine j_get (ci := 7) (pc := 10) hX inG7 rfl 4 (by decide) mw180 0 rfl rfl dX7_noteFree_10 ?_
    refine j_aload_n (pc := 13) hX dX7_noteFree_13 0 rfl ?_
    refine j_get (ci := 7) (pc := 14) hX inG7 rfl 1 (by decide) mw177 0 rfl rfl dX7_noteFree_14 ?_
    refine j_iload_n (pc := 17) hX dX7_noteFree_17 1 rfl ?_
    refine j_iast (pc := 18) hX 3 rfl z.2.1 rfl (by omega) (by omega) dX7_noteFree_18 ?_
    refine j_ws (ws2 := [(k, .inr (7, [.int z.1, .int (nI z.2.1), .ref k1, .ref k2, .ref k3, .ref k4, .ref k5, .ref k6, .ref k7])), (k1, .inl (gI g, 14, .inl z.2.2.1)), (k2, .inl (gI g, 14, .inl z.2.2.2.1)), (k3, .inl (gI g, 14, .inl (upd z.2.2.2.2.1 z.2.1 mask))), (k4, .inl (gI g, 15, .inl z.2.2.2.2.2.1)), (k5, .inl (gI g, 15, .inl z.2.2.2.2.2.2.1)), (k6, .inl (gI g, 15, .inl z.2.2.2.2.2.2.2.1)), (k7, .inl (gI g, 15, .inl z.2.2.2.2.2.2.2.2))]) rfl ?_
    refine j_aload_n (pc := 19) hX dX7_noteFree_19 0 rfl ?_
    refine j_get (ci := 7) (pc := 20) hX inG7 rfl 2 (by decide) mw178 0 rfl rfl dX7_noteFree_20 ?_
    refine j_aload_n (pc := 23) hX dX7_noteFree_23 0 rfl ?_
    refine j_get (ci := 7) (pc := 24) hX inG7 rfl 1 (by decide) mw177 0 rfl rfl dX7_noteFree_24 ?_
    refine j_iload_n (pc := 27) hX dX7_noteFree_27 2 rfl ?_
    refine j_iast (pc := 28) hX 1 rfl z.2.1 rfl (by omega) (by omega) dX7_noteFree_28 ?_
    refine j_ws (ws2 := [(k, .inr (7, [.int z.1, .int (nI z.2.1), .ref k1, .ref k2, .ref k3, .ref k4, .ref k5, .ref k6, .ref k7])), (k1, .inl (gI g, 14, .inl (upd z.2.2.1 z.2.1 th))), (k2, .inl (gI g, 14, .inl z.2.2.2.1)), (k3, .inl (gI g, 14, .inl (upd z.2.2.2.2.1 z.2.1 mask))), (k4, .inl (gI g, 15, .inl z.2.2.2.2.2.1)), (k5, .inl (gI g, 15, .inl z.2.2.2.2.2.2.1)), (k6, .inl (gI g, 15, .inl z.2.2.2.2.2.2.2.1)), (k7, .inl (gI g, 15, .inl z.2.2.2.2.2.2.2.2))]) rfl ?_
    refine j_aload_n (pc := 29) hX dX7_noteFree_29 0 rfl ?_
    refine j_get (ci := 7) (pc := 30) hX inG7 rfl 3 (by decide) mw179 0 rfl rfl dX7_noteFree_30 ?_
    refine j_aload_n (pc := 33) hX dX7_noteFree_33 0 rfl ?_
    refine j_get (ci := 7) (pc := 34) hX inG7 rfl 1 (by decide) mw177 0 rfl rfl dX7_noteFree_34 ?_
    refine j_iload_n (pc := 37) hX dX7_noteFree_37 3 rfl ?_
    refine j_iast (pc := 38) hX 2 rfl z.2.1 rfl (by omega) (by omega) dX7_noteFree_38 ?_
    refine j_ws (ws2 := [(k, .inr (7, [.int z.1, .int (nI z.2.1), .ref k1, .ref k2, .ref k3, .ref k4, .ref k5, .ref k6, .ref k7])), (k1, .inl (gI g, 14, .inl (upd z.2.2.1 z.2.1 th))), (k2, .inl (gI g, 14, .inl (upd z.2.2.2.1 z.2.1 pr))), (k3, .inl (gI g, 14, .inl (upd z.2.2.2.2.1 z.2.1 mask))), (k4, .inl (gI g, 15, .inl z.2.2.2.2.2.1)), (k5, .inl (gI g, 15, .inl z.2.2.2.2.2.2.1)), (k6, .inl (gI g, 15, .inl z.2.2.2.2.2.2.2.1)), (k7, .inl (gI g, 15, .inl z.2.2.2.2.2.2.2.2))]) rfl ?_
    refine j_aload_n (pc := 39) hX dX7_noteFree_39 0 rfl ?_
    refine j_dup (pc := 40) hX dX7_noteFree_40 rfl ?_
    refine j_get (ci := 7) (pc := 41) hX inG7 rfl 1 (by decide) mw177 0 rfl rfl dX7_noteFree_41 ?_
    refine j_iconst (v := 1) (pc := 44) hX dX7_noteFree_44 (by decide) ?_
    refine j_iadd (pc := 45) hX dX7_noteFree_45 ?_
    refine j_top (b := nI (z.2.1 + 1)) (nI_add z.2.1 1) ?_
    refine j_put (ci := 7) (ty := .int) (pc := 46) hX inG7 tyX7 tyX7_ok nmG7 rfl 1 (by decide) mw177 rfl (by decide +kernel) 0 rfl (Nat.le_of_ble_eq_true rfl) (rfl) rfl dX7_noteFree_46 ?_
    refine j_ws (ws2 := [(k, .inr (7, [.int z.1, .int (nI (z.2.1 + 1)), .ref k1, .ref k2, .ref k3, .ref k4, .ref k5, .ref k6, .ref k7])), (k1, .inl (gI g, 14, .inl (upd z.2.2.1 z.2.1 th))), (k2, .inl (gI g, 14, .inl (upd z.2.2.2.1 z.2.1 pr))), (k3, .inl (gI g, 14, .inl (upd z.2.2.2.2.1 z.2.1 mask))), (k4, .inl (gI g, 15, .inl z.2.2.2.2.2.1)), (k5, .inl (gI g, 15, .inl z.2.2.2.2.2.2.1)), (k6, .inl (gI g, 15, .inl z.2.2.2.2.2.2.2.1)), (k7, .inl (gI g, 15, .inl z.2.2.2.2.2.2.2.2))]) rfl ?_
    exact j_vret (pc := 49) hX hQ dX7_noteFree_49 [(k, .inr (7, [.int z.1, .int (nI (z.2.1 + 1)), .ref k1, .ref k2, .ref k3, .ref k4, .ref k5, .ref k6, .ref k7])), (k1, .inl (gI g, 14, .inl (upd z.2.2.1 z.2.1 th))), (k2, .inl (gI g, 14, .inl (upd z.2.2.2.1 z.2.1 pr))), (k3, .inl (gI g, 14, .inl (upd z.2.2.2.2.1 z.2.1 mask))), (k4, .inl (gI g, 15, .inl z.2.2.2.2.2.1)), (k5, .inl (gI g, 15, .inl z.2.2.2.2.2.2.1)), (k6, .inl (gI g, 15, .inl z.2.2.2.2.2.2.2.1)), (k7, .inl (gI g, 15, .inl z.2.2.2.2.2.2.2.2))] [] rfl rfl ⟨(by first | rfl | first | (simp only [jb_t, jb_f, nF, c6_1, c6_1n, c6_1m, reduceIte, eq_self, decide_true, decide_false, Bool.and_true, Bool.true_and, Bool.and_false, Bool.false_and, Bool.and_self, not_true_eq_false, not_false_eq_true, and_true, true_and, and_false, false_and, and_self]; done) | (simp [jb_t, jb_f, nF, c6_1, c6_1n, c6_1m]; done)), (rfl)⟩

set_option maxHeartbeats 4000000 in
set_option maxRecDepth 100000 in
theorem c_X7_join (g : jG) (k : Nat) (k1 : Nat) (k2 : Nat) (k3 : Nat) (k4 : Nat) (k5 : Nat) (k6 : Nat) (k7 : Nat) (z : WT) (l : Nat) (f : Nat) (mask : Int32) (th : Int32) (pr : Int32) (hl : l ≤ 14) (hf : f ≤ 14) : jMV g yX7_join cX7_join 6 0 0 0 0 [.ref k, .int (nI l), .int (nI f), .int mask, .int th, .int pr] [(k, .inr (7, [.int z.1, .int (nI z.2.1), .ref k1, .ref k2, .ref k3, .ref k4, .ref k5, .ref k6, .ref k7])), (k1, .inl (gI g, 14, .inl z.2.2.1)), (k2, .inl (gI g, 14, .inl z.2.2.2.1)), (k3, .inl (gI g, 14, .inl z.2.2.2.2.1)), (k4, .inl (gI g, 15, .inl z.2.2.2.2.2.1)), (k5, .inl (gI g, 15, .inl z.2.2.2.2.2.2.1)), (k6, .inl (gI g, 15, .inl z.2.2.2.2.2.2.2.1)), (k7, .inl (gI g, 15, .inl z.2.2.2.2.2.2.2.2))] (fun wz wzn => wz = [(k, .inr (7, [.int ((jn z l f mask th pr).1), .int (nI ((jn z l f mask th pr).2.1)), .ref k1, .ref k2, .ref k3, .ref k4, .ref k5, .ref k6, .ref k7])), (k1, .inl (gI g, 14, .inl ((jn z l f mask th pr).2.2.1))), (k2, .inl (gI g, 14, .inl ((jn z l f mask th pr).2.2.2.1))), (k3, .inl (gI g, 14, .inl ((jn z l f mask th pr).2.2.2.2.1))), (k4, .inl (gI g, 15, .inl ((jn z l f mask th pr).2.2.2.2.2.1))), (k5, .inl (gI g, 15, .inl ((jn z l f mask th pr).2.2.2.2.2.2.1))), (k6, .inl (gI g, 15, .inl ((jn z l f mask th pr).2.2.2.2.2.2.2.1))), (k7, .inl (gI g, 15, .inl ((jn z l f mask th pr).2.2.2.2.2.2.2.2)))] ∧ wzn = []) := by
  refine jMV.intro (by decide +kernel) (Nat.le_of_ble_eq_true rfl) (fun x hX hQ hN => ?_)
  refine j_lv (lv2 := [(0, .ref k), (1, .int (nI l)), (2, .int (nI f)), (3, .int mask), (4, .int th), (5, .int pr)]) rfl ?_
  refine j_aload_n (pc := 0) hX dX7_join_0 0 rfl ?_
  refine j_get (ci := 7) (pc := 1) hX inG7 rfl 5 (by decide) mw181 0 rfl rfl dX7_join_1 ?_
  refine j_iload_n (pc := 4) hX dX7_join_4 1 rfl ?_
  refine j_aload_n (pc := 5) hX dX7_join_5 0 rfl ?_
  refine j_get (ci := 7) (pc := 6) hX inG7 rfl 5 (by decide) mw181 0 rfl rfl dX7_join_6 ?_
  refine j_iload_n (pc := 9) hX dX7_join_9 2 rfl ?_
  refine j_iald (pc := 10) hX 4 rfl f rfl (by omega) (by omega) dX7_join_10 ?_
  refine j_iload_n (pc := 11) hX dX7_join_11 3 rfl ?_
  refine j_ior (pc := 12) hX dX7_join_12 ?_
  refine j_iast (pc := 13) hX 4 rfl l rfl (by omega) (by omega) dX7_join_13 ?_
  refine j_ws (ws2 := [(k, .inr (7, [.int z.1, .int (nI z.2.1), .ref k1, .ref k2, .ref k3, .ref k4, .ref k5, .ref k6, .ref k7])), (k1, .inl (gI g, 14, .inl z.2.2.1)), (k2, .inl (gI g, 14, .inl z.2.2.2.1)), (k3, .inl (gI g, 14, .inl z.2.2.2.2.1)), (k4, .inl (gI g, 15, .inl (upd z.2.2.2.2.2.1 l ((z.2.2.2.2.2.1 f) ||| mask)))), (k5, .inl (gI g, 15, .inl z.2.2.2.2.2.2.1)), (k6, .inl (gI g, 15, .inl z.2.2.2.2.2.2.2.1)), (k7, .inl (gI g, 15, .inl z.2.2.2.2.2.2.2.2))]) rfl ?_
  refine j_aload_n (pc := 14) hX dX7_join_14 0 rfl ?_
  refine j_get (ci := 7) (pc := 15) hX inG7 rfl 6 (by decide) mw182 0 rfl rfl dX7_join_15 ?_
  refine j_iload_n (pc := 18) hX dX7_join_18 1 rfl ?_
  refine j_aload_n (pc := 19) hX dX7_join_19 0 rfl ?_
  refine j_get (ci := 7) (pc := 20) hX inG7 rfl 6 (by decide) mw182 0 rfl rfl dX7_join_20 ?_
  refine j_iload_n (pc := 23) hX dX7_join_23 2 rfl ?_
  refine j_iald (pc := 24) hX 5 rfl f rfl (by omega) (by omega) dX7_join_24 ?_
  refine j_iload (pc := 25) hX dX7_join_25 5 rfl ?_
  refine j_iadd (pc := 27) hX dX7_join_27 ?_
  refine j_iast (pc := 28) hX 5 rfl l rfl (by omega) (by omega) dX7_join_28 ?_
  refine j_ws (ws2 := [(k, .inr (7, [.int z.1, .int (nI z.2.1), .ref k1, .ref k2, .ref k3, .ref k4, .ref k5, .ref k6, .ref k7])), (k1, .inl (gI g, 14, .inl z.2.2.1)), (k2, .inl (gI g, 14, .inl z.2.2.2.1)), (k3, .inl (gI g, 14, .inl z.2.2.2.2.1)), (k4, .inl (gI g, 15, .inl (upd z.2.2.2.2.2.1 l ((z.2.2.2.2.2.1 f) ||| mask)))), (k5, .inl (gI g, 15, .inl (upd z.2.2.2.2.2.2.1 l ((z.2.2.2.2.2.2.1 f) + pr)))), (k6, .inl (gI g, 15, .inl z.2.2.2.2.2.2.2.1)), (k7, .inl (gI g, 15, .inl z.2.2.2.2.2.2.2.2))]) rfl ?_
  refine j_aload_n (pc := 29) hX dX7_join_29 0 rfl ?_
  refine j_get (ci := 7) (pc := 30) hX inG7 rfl 8 (by decide) mw184 0 rfl rfl dX7_join_30 ?_
  refine j_iload_n (pc := 33) hX dX7_join_33 1 rfl ?_
  refine j_aload_n (pc := 34) hX dX7_join_34 0 rfl ?_
  refine j_get (ci := 7) (pc := 35) hX inG7 rfl 8 (by decide) mw184 0 rfl rfl dX7_join_35 ?_
  refine j_iload_n (pc := 38) hX dX7_join_38 2 rfl ?_
  refine j_iald (pc := 39) hX 7 rfl f rfl (by omega) (by omega) dX7_join_39 ?_
  refine j_aload_n (pc := 40) hX dX7_join_40 0 rfl ?_
  refine j_get (ci := 7) (pc := 41) hX inG7 rfl 7 (by decide) mw183 0 rfl rfl dX7_join_41 ?_
  refine j_iload_n (pc := 44) hX dX7_join_44 2 rfl ?_
  refine j_iald (pc := 45) hX 6 rfl f rfl (by omega) (by omega) dX7_join_45 ?_
  refine j_iload (pc := 46) hX dX7_join_46 4 rfl ?_
  refine j_iand (pc := 48) hX dX7_join_48 ?_
  refine j_ior (pc := 49) hX dX7_join_49 ?_
  refine j_iast (pc := 50) hX 7 rfl l rfl (by omega) (by omega) dX7_join_50 ?_
  refine j_ws (ws2 := [(k, .inr (7, [.int z.1, .int (nI z.2.1), .ref k1, .ref k2, .ref k3, .ref k4, .ref k5, .ref k6, .ref k7])), (k1, .inl (gI g, 14, .inl z.2.2.1)), (k2, .inl (gI g, 14, .inl z.2.2.2.1)), (k3, .inl (gI g, 14, .inl z.2.2.2.2.1)), (k4, .inl (gI g, 15, .inl (upd z.2.2.2.2.2.1 l ((z.2.2.2.2.2.1 f) ||| mask)))), (k5, .inl (gI g, 15, .inl (upd z.2.2.2.2.2.2.1 l ((z.2.2.2.2.2.2.1 f) + pr)))), (k6, .inl (gI g, 15, .inl z.2.2.2.2.2.2.2.1)), (k7, .inl (gI g, 15, .inl (upd z.2.2.2.2.2.2.2.2 l ((z.2.2.2.2.2.2.2.2 f) ||| ((z.2.2.2.2.2.2.2.1 f) &&& th)))))]) rfl ?_
  refine j_aload_n (pc := 51) hX dX7_join_51 0 rfl ?_
  refine j_get (ci := 7) (pc := 52) hX inG7 rfl 7 (by decide) mw183 0 rfl rfl dX7_join_52 ?_
  refine j_iload_n (pc := 55) hX dX7_join_55 1 rfl ?_
  refine j_aload_n (pc := 56) hX dX7_join_56 0 rfl ?_
  refine j_get (ci := 7) (pc := 57) hX inG7 rfl 7 (by decide) mw183 0 rfl rfl dX7_join_57 ?_
  refine j_iload_n (pc := 60) hX dX7_join_60 2 rfl ?_
  refine j_iald (pc := 61) hX 6 rfl f rfl (by omega) (by omega) dX7_join_61 ?_
  refine j_iload (pc := 62) hX dX7_join_62 4 rfl ?_
  refine j_ior (pc := 64) hX dX7_join_64 ?_
  refine j_iast (pc := 65) hX 6 rfl l rfl (by omega) (by omega) dX7_join_65 ?_
  refine j_ws (ws2 := [(k, .inr (7, [.int z.1, .int (nI z.2.1), .ref k1, .ref k2, .ref k3, .ref k4, .ref k5, .ref k6, .ref k7])), (k1, .inl (gI g, 14, .inl z.2.2.1)), (k2, .inl (gI g, 14, .inl z.2.2.2.1)), (k3, .inl (gI g, 14, .inl z.2.2.2.2.1)), (k4, .inl (gI g, 15, .inl (upd z.2.2.2.2.2.1 l ((z.2.2.2.2.2.1 f) ||| mask)))), (k5, .inl (gI g, 15, .inl (upd z.2.2.2.2.2.2.1 l ((z.2.2.2.2.2.2.1 f) + pr)))), (k6, .inl (gI g, 15, .inl (upd z.2.2.2.2.2.2.2.1 l ((z.2.2.2.2.2.2.2.1 f) ||| th)))), (k7, .inl (gI g, 15, .inl (upd z.2.2.2.2.2.2.2.2 l ((z.2.2.2.2.2.2.2.2 f) ||| ((z.2.2.2.2.2.2.2.1 f) &&& th)))))]) rfl ?_
  exact j_vret (pc := 66) hX hQ dX7_join_66 [(k, .inr (7, [.int z.1, .int (nI z.2.1), .ref k1, .ref k2, .ref k3, .ref k4, .ref k5, .ref k6, .ref k7])), (k1, .inl (gI g, 14, .inl z.2.2.1)), (k2, .inl (gI g, 14, .inl z.2.2.2.1)), (k3, .inl (gI g, 14, .inl z.2.2.2.2.1)), (k4, .inl (gI g, 15, .inl (upd z.2.2.2.2.2.1 l ((z.2.2.2.2.2.1 f) ||| mask)))), (k5, .inl (gI g, 15, .inl (upd z.2.2.2.2.2.2.1 l ((z.2.2.2.2.2.2.1 f) + pr)))), (k6, .inl (gI g, 15, .inl (upd z.2.2.2.2.2.2.2.1 l ((z.2.2.2.2.2.2.2.1 f) ||| th)))), (k7, .inl (gI g, 15, .inl (upd z.2.2.2.2.2.2.2.2 l ((z.2.2.2.2.2.2.2.2 f) ||| ((z.2.2.2.2.2.2.2.1 f) &&& th)))))] [] rfl rfl ⟨(by first | rfl | first | (simp only [jb_t, jb_f, reduceIte, eq_self, decide_true, decide_false, Bool.and_true, Bool.true_and, Bool.and_false, Bool.false_and, Bool.and_self, not_true_eq_false, not_false_eq_true, and_true, true_and, and_false, false_and, and_self]; done) | (simp [jb_t, jb_f]; done)), (rfl)⟩

set_option maxHeartbeats 4000000 in
set_option maxRecDepth 100000 in
theorem c_X7_chosen (g : jG) (k : Nat) (k1 : Nat) (k2 : Nat) (k3 : Nat) (k4 : Nat) (k5 : Nat) (k6 : Nat) (k7 : Nat) (z : WT)  : jMI g yX7_chosen cX7_chosen 1 .int 0 0 [.ref k] [(k, .inr (7, [.int z.1, .int (nI z.2.1), .ref k1, .ref k2, .ref k3, .ref k4, .ref k5, .ref k6, .ref k7])), (k1, .inl (gI g, 14, .inl z.2.2.1)), (k2, .inl (gI g, 14, .inl z.2.2.2.1)), (k3, .inl (gI g, 14, .inl z.2.2.2.2.1)), (k4, .inl (gI g, 15, .inl z.2.2.2.2.2.1)), (k5, .inl (gI g, 15, .inl z.2.2.2.2.2.2.1)), (k6, .inl (gI g, 15, .inl z.2.2.2.2.2.2.2.1)), (k7, .inl (gI g, 15, .inl z.2.2.2.2.2.2.2.2))] (fun rz wz => rz = z.2.2.2.2.2.1 0 ∧ wz = [(k, .inr (7, [.int z.1, .int (nI z.2.1), .ref k1, .ref k2, .ref k3, .ref k4, .ref k5, .ref k6, .ref k7])), (k1, .inl (gI g, 14, .inl z.2.2.1)), (k2, .inl (gI g, 14, .inl z.2.2.2.1)), (k3, .inl (gI g, 14, .inl z.2.2.2.2.1)), (k4, .inl (gI g, 15, .inl z.2.2.2.2.2.1)), (k5, .inl (gI g, 15, .inl z.2.2.2.2.2.2.1)), (k6, .inl (gI g, 15, .inl z.2.2.2.2.2.2.2.1)), (k7, .inl (gI g, 15, .inl z.2.2.2.2.2.2.2.2))]) := by
  refine jMI.intro (by decide +kernel) (Nat.le_of_ble_eq_true rfl) (fun x hX hQ => ?_)
  refine j_lv (lv2 := [(0, .ref k)]) rfl ?_
  refine j_aload_n (pc := 0) hX dX7_chosen_0 0 rfl ?_
  refine j_get (ci := 7) (pc := 1) hX inG7 rfl 5 (by decide) mw181 0 rfl rfl dX7_chosen_1 ?_
  refine j_iconst (v := 0) (pc := 4) hX dX7_chosen_4 (by decide) ?_
  refine j_iald (pc := 5) hX 4 rfl 0 rfl (by omega) (by omega) dX7_chosen_5 ?_
  exact j_iret (pc := 6) hX hQ dX7_chosen_6 rfl ⟨(by first | rfl | first | (simp only [jb_t, jb_f, reduceIte, eq_self, decide_true, decide_false, Bool.and_true, Bool.true_and, Bool.and_false, Bool.false_and, Bool.and_self, not_true_eq_false, not_false_eq_true, and_true, true_and, and_false, false_and, and_self]; done) | (simp [jb_t, jb_f]; done)), (by first | rfl | first | (simp only [jb_t, jb_f, reduceIte, eq_self, decide_true, decide_false, Bool.and_true, Bool.true_and, Bool.and_false, Bool.false_and, Bool.and_self, not_true_eq_false, not_false_eq_true, and_true, true_and, and_false, false_and, and_self]; done) | (simp [jb_t, jb_f]; done))⟩

set_option maxHeartbeats 4000000 in
set_option maxRecDepth 100000 in
theorem c_X7_sum (g : jG) (k : Nat) (k1 : Nat) (k2 : Nat) (k3 : Nat) (k4 : Nat) (k5 : Nat) (k6 : Nat) (k7 : Nat) (z : WT)  : jMI g yX7_sum cX7_sum 1 .int 0 0 [.ref k] [(k, .inr (7, [.int z.1, .int (nI z.2.1), .ref k1, .ref k2, .ref k3, .ref k4, .ref k5, .ref k6, .ref k7])), (k1, .inl (gI g, 14, .inl z.2.2.1)), (k2, .inl (gI g, 14, .inl z.2.2.2.1)), (k3, .inl (gI g, 14, .inl z.2.2.2.2.1)), (k4, .inl (gI g, 15, .inl z.2.2.2.2.2.1)), (k5, .inl (gI g, 15, .inl z.2.2.2.2.2.2.1)), (k6, .inl (gI g, 15, .inl z.2.2.2.2.2.2.2.1)), (k7, .inl (gI g, 15, .inl z.2.2.2.2.2.2.2.2))] (fun rz wz => rz = z.2.2.2.2.2.2.1 0 ∧ wz = [(k, .inr (7, [.int z.1, .int (nI z.2.1), .ref k1, .ref k2, .ref k3, .ref k4, .ref k5, .ref k6, .ref k7])), (k1, .inl (gI g, 14, .inl z.2.2.1)), (k2, .inl (gI g, 14, .inl z.2.2.2.1)), (k3, .inl (gI g, 14, .inl z.2.2.2.2.1)), (k4, .inl (gI g, 15, .inl z.2.2.2.2.2.1)), (k5, .inl (gI g, 15, .inl z.2.2.2.2.2.2.1)), (k6, .inl (gI g, 15, .inl z.2.2.2.2.2.2.2.1)), (k7, .inl (gI g, 15, .inl z.2.2.2.2.2.2.2.2))]) := by
  refine jMI.intro (by decide +kernel) (Nat.le_of_ble_eq_true rfl) (fun x hX hQ => ?_)
  refine j_lv (lv2 := [(0, .ref k)]) rfl ?_
  refine j_aload_n (pc := 0) hX dX7_sum_0 0 rfl ?_
  refine j_get (ci := 7) (pc := 1) hX inG7 rfl 6 (by decide) mw182 0 rfl rfl dX7_sum_1 ?_
  refine j_iconst (v := 0) (pc := 4) hX dX7_sum_4 (by decide) ?_
  refine j_iald (pc := 5) hX 5 rfl 0 rfl (by omega) (by omega) dX7_sum_5 ?_
  exact j_iret (pc := 6) hX hQ dX7_sum_6 rfl ⟨(by first | rfl | first | (simp only [jb_t, jb_f, reduceIte, eq_self, decide_true, decide_false, Bool.and_true, Bool.true_and, Bool.and_false, Bool.false_and, Bool.and_self, not_true_eq_false, not_false_eq_true, and_true, true_and, and_false, false_and, and_self]; done) | (simp [jb_t, jb_f]; done)), (by first | rfl | first | (simp only [jb_t, jb_f, reduceIte, eq_self, decide_true, decide_false, Bool.and_true, Bool.true_and, Bool.and_false, Bool.false_and, Bool.and_self, not_true_eq_false, not_false_eq_true, and_true, true_and, and_false, false_and, and_self]; done) | (simp [jb_t, jb_f]; done))⟩

set_option maxHeartbeats 4000000 in
set_option maxRecDepth 100000 in
theorem c_X7_missing (g : jG) (k : Nat) (k1 : Nat) (k2 : Nat) (k3 : Nat) (k4 : Nat) (k5 : Nat) (k6 : Nat) (k7 : Nat) (z : WT)  : jMI g yX7_missing cX7_missing 1 .int 0 0 [.ref k] [(k, .inr (7, [.int z.1, .int (nI z.2.1), .ref k1, .ref k2, .ref k3, .ref k4, .ref k5, .ref k6, .ref k7])), (k1, .inl (gI g, 14, .inl z.2.2.1)), (k2, .inl (gI g, 14, .inl z.2.2.2.1)), (k3, .inl (gI g, 14, .inl z.2.2.2.2.1)), (k4, .inl (gI g, 15, .inl z.2.2.2.2.2.1)), (k5, .inl (gI g, 15, .inl z.2.2.2.2.2.2.1)), (k6, .inl (gI g, 15, .inl z.2.2.2.2.2.2.2.1)), (k7, .inl (gI g, 15, .inl z.2.2.2.2.2.2.2.2))] (fun rz wz => rz = wMs z ∧ wz = [(k, .inr (7, [.int z.1, .int (nI z.2.1), .ref k1, .ref k2, .ref k3, .ref k4, .ref k5, .ref k6, .ref k7])), (k1, .inl (gI g, 14, .inl z.2.2.1)), (k2, .inl (gI g, 14, .inl z.2.2.2.1)), (k3, .inl (gI g, 14, .inl z.2.2.2.2.1)), (k4, .inl (gI g, 15, .inl z.2.2.2.2.2.1)), (k5, .inl (gI g, 15, .inl z.2.2.2.2.2.2.1)), (k6, .inl (gI g, 15, .inl z.2.2.2.2.2.2.2.1)), (k7, .inl (gI g, 15, .inl z.2.2.2.2.2.2.2.2))]) := by
  refine jMI.intro (by decide +kernel) (Nat.le_of_ble_eq_true rfl) (fun x hX hQ => ?_)
  refine j_lv (lv2 := [(0, .ref k)]) rfl ?_
  refine j_aload_n (pc := 0) hX dX7_missing_0 0 rfl ?_
  refine j_get (ci := 7) (pc := 1) hX inG7 rfl 0 (by decide) mw176 0 rfl rfl dX7_missing_1 ?_
  refine j_aload_n (pc := 4) hX dX7_missing_4 0 rfl ?_
  refine j_get (ci := 7) (pc := 5) hX inG7 rfl 7 (by decide) mw183 0 rfl rfl dX7_missing_5 ?_
  refine j_iconst (v := 0) (pc := 8) hX dX7_missing_8 (by decide) ?_
  refine j_iald (pc := 9) hX 6 rfl 0 rfl (by omega) (by omega) dX7_missing_9 ?_
  refine j_iconst (v := (-1)) (pc := 10) hX dX7_missing_10 (by decide) ?_
  refine j_ixor (pc := 11) hX dX7_missing_11 ?_
  refine j_iand (pc := 12) hX dX7_missing_12 ?_
  exact j_iret (pc := 13) hX hQ dX7_missing_13 rfl ⟨(by first | rfl | first | (simp only [jb_t, jb_f, reduceIte, eq_self, decide_true, decide_false, Bool.and_true, Bool.true_and, Bool.and_false, Bool.false_and, Bool.and_self, not_true_eq_false, not_false_eq_true, and_true, true_and, and_false, false_and, and_self]; done) | (simp [jb_t, jb_f]; done)), (by first | rfl | first | (simp only [jb_t, jb_f, reduceIte, eq_self, decide_true, decide_false, Bool.and_true, Bool.true_and, Bool.and_false, Bool.false_and, Bool.and_self, not_true_eq_false, not_false_eq_true, and_true, true_and, and_false, false_and, and_self]; done) | (simp [jb_t, jb_f]; done))⟩

set_option maxHeartbeats 4000000 in
set_option maxRecDepth 100000 in
theorem c_X7_full (g : jG) (k : Nat) (k1 : Nat) (k2 : Nat) (k3 : Nat) (k4 : Nat) (k5 : Nat) (k6 : Nat) (k7 : Nat) (z : WT)  : jMI g yX7_isFullCover cX7_isFullCover 1 .boolean 1 20 [.ref k] [(k, .inr (7, [.int z.1, .int (nI z.2.1), .ref k1, .ref k2, .ref k3, .ref k4, .ref k5, .ref k6, .ref k7])), (k1, .inl (gI g, 14, .inl z.2.2.1)), (k2, .inl (gI g, 14, .inl z.2.2.2.1)), (k3, .inl (gI g, 14, .inl z.2.2.2.2.1)), (k4, .inl (gI g, 15, .inl z.2.2.2.2.2.1)), (k5, .inl (gI g, 15, .inl z.2.2.2.2.2.2.1)), (k6, .inl (gI g, 15, .inl z.2.2.2.2.2.2.2.1)), (k7, .inl (gI g, 15, .inl z.2.2.2.2.2.2.2.2))] (fun rz wz => rz = jb (decide (wMs z = 0)) ∧ wz = [(k, .inr (7, [.int z.1, .int (nI z.2.1), .ref k1, .ref k2, .ref k3, .ref k4, .ref k5, .ref k6, .ref k7])), (k1, .inl (gI g, 14, .inl z.2.2.1)), (k2, .inl (gI g, 14, .inl z.2.2.2.1)), (k3, .inl (gI g, 14, .inl z.2.2.2.2.1)), (k4, .inl (gI g, 15, .inl z.2.2.2.2.2.1)), (k5, .inl (gI g, 15, .inl z.2.2.2.2.2.2.1)), (k6, .inl (gI g, 15, .inl z.2.2.2.2.2.2.2.1)), (k7, .inl (gI g, 15, .inl z.2.2.2.2.2.2.2.2))]) := by
  refine jMI.intro (by decide +kernel) (Nat.le_of_ble_eq_true rfl) (fun x hX hQ => ?_)
  refine j_lv (lv2 := [(0, .ref k)]) rfl ?_
  refine j_aload_n (pc := 0) hX dX7_isFullCover_0 0 rfl ?_
  refine j_callVI (n := 0) (As := []) (rest := []) (pc := 1) hX (c_X7_missing g k k1 k2 k3 k4 k5 k6 k7 z ) (CV.of mw424 mw425 mw426 mw21 mw427 ⟨rfl, by decide +kernel, by decide +kernel, by decide +kernel⟩ (T := TX7) (N := 9) rfl) (Nat.le_of_ble_eq_true rfl) (Nat.le_of_ble_eq_true rfl) (Nat.le_of_ble_eq_true rfl) (Nat.le_of_ble_eq_true rfl) 0 rfl [0, 1, 2, 3, 4, 5, 6, 7] (by decide +kernel) rfl rfl rfl (Nat.le_of_ble_eq_true rfl) dX7_isFullCover_1 (fun r1 wz hq2 => ?_)
  obtain ⟨rfl, rfl⟩ := hq2
  refine j_ws (ws2 := [(k, .inr (7, [.int z.1, .int (nI z.2.1), .ref k1, .ref k2, .ref k3, .ref k4, .ref k5, .ref k6, .ref k7])), (k1, .inl (gI g, 14, .inl z.2.2.1)), (k2, .inl (gI g, 14, .inl z.2.2.2.1)), (k3, .inl (gI g, 14, .inl z.2.2.2.2.1)), (k4, .inl (gI g, 15, .inl z.2.2.2.2.2.1)), (k5, .inl (gI g, 15, .inl z.2.2.2.2.2.2.1)), (k6, .inl (gI g, 15, .inl z.2.2.2.2.2.2.2.1)), (k7, .inl (gI g, 15, .inl z.2.2.2.2.2.2.2.2))]) rfl ?_
  refine j_if_ne (tgt := 11) (pc := 4) hX dX7_isFullCover_4 (by decide) (fun c4_3 => ?_) (fun c4_3 => ?_)
  · skip
    refine j_iconst (v := 0) (pc := 11) hX dX7_isFullCover_11 (by decide) ?_
    exact j_zret (pc := 12) hX hQ dX7_isFullCover_12 (by first | rfl | exact jb_nar _) rfl ⟨(by first | rfl | first | (simp only [jb_t, jb_f, c4_3, reduceIte, eq_self, decide_true, decide_false, Bool.and_true, Bool.true_and, Bool.and_false, Bool.false_and, Bool.and_self, not_true_eq_false, not_false_eq_true, and_true, true_and, and_false, false_and, and_self]; done) | (simp [jb_t, jb_f, c4_3]; done)), (by first | rfl | first | (simp only [jb_t, jb_f, c4_3, reduceIte, eq_self, decide_true, decide_false, Bool.and_true, Bool.true_and, Bool.and_false, Bool.false_and, Bool.and_self, not_true_eq_false, not_false_eq_true, and_true, true_and, and_false, false_and, and_self]; done) | (simp [jb_t, jb_f, c4_3]; done))⟩
  · skip
    refine j_iconst (v := 1) (pc := 7) hX dX7_isFullCover_7 (by decide) ?_
    refine j_goto (tgt := 12) (pc := 8) hX dX7_isFullCover_8 (by decide) ?_
    exact j_zret (pc := 12) hX hQ dX7_isFullCover_12 (by first | rfl | exact jb_nar _) rfl ⟨(by first | rfl | first | (simp only [jb_t, jb_f, c4_3, reduceIte, eq_self, decide_true, decide_false, Bool.and_true, Bool.true_and, Bool.and_false, Bool.false_and, Bool.and_self, not_true_eq_false, not_false_eq_true, and_true, true_and, and_false, false_and, and_self]; done) | (simp [jb_t, jb_f, c4_3]; done)), (by first | rfl | first | (simp only [jb_t, jb_f, c4_3, reduceIte, eq_self, decide_true, decide_false, Bool.and_true, Bool.true_and, Bool.and_false, Bool.false_and, Bool.and_self, not_true_eq_false, not_false_eq_true, and_true, true_and, and_false, false_and, and_self]; done) | (simp [jb_t, jb_f, c4_3]; done))⟩

set_option maxHeartbeats 4000000 in
set_option maxRecDepth 100000 in
theorem c_X7_noSpare (g : jG) (k : Nat) (k1 : Nat) (k2 : Nat) (k3 : Nat) (k4 : Nat) (k5 : Nat) (k6 : Nat) (k7 : Nat) (z : WT) (hf : z.2.1 ≤ 14) : jMI g yX7_hasNoSpareSet cX7_hasNoSpareSet 3 .boolean 0 0 [.ref k] [(k, .inr (7, [.int z.1, .int (nI z.2.1), .ref k1, .ref k2, .ref k3, .ref k4, .ref k5, .ref k6, .ref k7])), (k1, .inl (gI g, 14, .inl z.2.2.1)), (k2, .inl (gI g, 14, .inl z.2.2.2.1)), (k3, .inl (gI g, 14, .inl z.2.2.2.2.1)), (k4, .inl (gI g, 15, .inl z.2.2.2.2.2.1)), (k5, .inl (gI g, 15, .inl z.2.2.2.2.2.2.1)), (k6, .inl (gI g, 15, .inl z.2.2.2.2.2.2.2.1)), (k7, .inl (gI g, 15, .inl z.2.2.2.2.2.2.2.2))] (fun rz wz => rz = jb (nSp z z.2.1) ∧ wz = [(k, .inr (7, [.int z.1, .int (nI z.2.1), .ref k1, .ref k2, .ref k3, .ref k4, .ref k5, .ref k6, .ref k7])), (k1, .inl (gI g, 14, .inl z.2.2.1)), (k2, .inl (gI g, 14, .inl z.2.2.2.1)), (k3, .inl (gI g, 14, .inl z.2.2.2.2.1)), (k4, .inl (gI g, 15, .inl z.2.2.2.2.2.1)), (k5, .inl (gI g, 15, .inl z.2.2.2.2.2.2.1)), (k6, .inl (gI g, 15, .inl z.2.2.2.2.2.2.2.1)), (k7, .inl (gI g, 15, .inl z.2.2.2.2.2.2.2.2))]) := by
  refine jMI.intro (by decide +kernel) (Nat.le_of_ble_eq_true rfl) (fun x hX hQ => ?_)
  refine j_lv (lv2 := [(0, .ref k)]) rfl ?_
  refine j_aload_n (pc := 0) hX dX7_hasNoSpareSet_0 0 rfl ?_
  refine j_get (ci := 7) (pc := 1) hX inG7 rfl 0 (by decide) mw176 0 rfl rfl dX7_hasNoSpareSet_1 ?_
  refine j_aload_n (pc := 4) hX dX7_hasNoSpareSet_4 0 rfl ?_
  refine j_get (ci := 7) (pc := 5) hX inG7 rfl 8 (by decide) mw184 0 rfl rfl dX7_hasNoSpareSet_5 ?_
  refine j_iconst (v := 0) (pc := 8) hX dX7_hasNoSpareSet_8 (by decide) ?_
  refine j_iald (pc := 9) hX 7 rfl 0 rfl (by omega) (by omega) dX7_hasNoSpareSet_9 ?_
  refine j_iconst (v := (-1)) (pc := 10) hX dX7_hasNoSpareSet_10 (by decide) ?_
  refine j_ixor (pc := 11) hX dX7_hasNoSpareSet_11 ?_
  refine j_iand (pc := 12) hX dX7_hasNoSpareSet_12 ?_
  refine j_istore_n (lv2 := [(0, .ref k), (1, .int (z.1 &&& ((z.2.2.2.2.2.2.2.2 0) ^^^ (-1))))]) (pc := 13) hX dX7_hasNoSpareSet_13 [1, 0] (by decide) rfl ?_
  refine j_iconst (v := 0) (pc := 14) hX dX7_hasNoSpareSet_14 (by decide) ?_
  refine j_istore_n (lv2 := [(0, .ref k), (1, .int (z.1 &&& ((z.2.2.2.2.2.2.2.2 0) ^^^ (-1)))), (2, .int 0)]) (pc := 15) hX dX7_hasNoSpareSet_15 [1, 2, 0] (by decide) rfl ?_
  have L16 : ∀ (d : Nat) (i : Nat), i ≤ z.2.1 → nSp z i = true → z.2.1 - i = d → J g x 3 0 0 16 [(0, .ref k), (1, .int (wHo z)), (2, .int (nI i))] [] [(k, .inr (7, [.int z.1, .int (nI z.2.1), .ref k1, .ref k2, .ref k3, .ref k4, .ref k5, .ref k6, .ref k7])), (k1, .inl (gI g, 14, .inl z.2.2.1)), (k2, .inl (gI g, 14, .inl z.2.2.2.1)), (k3, .inl (gI g, 14, .inl z.2.2.2.2.1)), (k4, .inl (gI g, 15, .inl z.2.2.2.2.2.1)), (k5, .inl (gI g, 15, .inl z.2.2.2.2.2.2.1)), (k6, .inl (gI g, 15, .inl z.2.2.2.2.2.2.2.1)), (k7, .inl (gI g, 15, .inl z.2.2.2.2.2.2.2.2))] := by
    intro d
    induction d using Nat.strongRecOn with
    | _ d ih16 =>
      intro i hi hb hd16
      refine j_iload_n (pc := 16) hX dX7_hasNoSpareSet_16 2 rfl ?_
      refine j_aload_n (pc := 17) hX dX7_hasNoSpareSet_17 0 rfl ?_
      refine j_get (ci := 7) (pc := 18) hX inG7 rfl 1 (by decide) mw177 0 rfl rfl dX7_hasNoSpareSet_18 ?_
      refine j_icmp_ge (tgt := 65) (pc := 21) hX dX7_hasNoSpareSet_21 (by decide) (fun c21_1 => ?_) (fun c21_1 => ?_)
      · skip
        have c21_1n : z.2.1 ≤ i := (nI_leI (a := z.2.1) (b := i) (by omega) (by omega)).mp c21_1
        have c21_1m : ¬ i < z.2.1 := by omega
        refine j_iconst (v := 1) (pc := 65) hX dX7_hasNoSpareSet_65 (by decide) ?_
        exact j_zret (pc := 66) hX hQ dX7_hasNoSpareSet_66 (by first | rfl | exact jb_nar _) rfl ⟨(by rw [← (show i = z.2.1 by omega), hb]; rfl), (by first | rfl | first | (simp only [jb_t, jb_f, c21_1, c21_1n, c21_1m, reduceIte, eq_self, decide_true, decide_false, Bool.and_true, Bool.true_and, Bool.and_false, Bool.false_and, Bool.and_self, not_true_eq_false, not_false_eq_true, and_true, true_and, and_false, false_and, and_self]; done) | (simp [jb_t, jb_f, c21_1, c21_1n, c21_1m]; done))⟩
      · skip
        have c21_1n : ¬ z.2.1 ≤ i := fun h9 => c21_1 ((nI_leI (a := z.2.1) (b := i) (by omega) (by omega)).mpr h9)
        have c21_1m : i < z.2.1 := by omega
        refine j_iload_n (pc := 24) hX dX7_hasNoSpareSet_24 2 rfl ?_
        refine j_bipush (v := 14) (pc := 25) hX dX7_hasNoSpareSet_25 (by decide) ?_
        refine j_icmp_ge (tgt := 65) (pc := 27) hX dX7_hasNoSpareSet_27 (by decide) (fun c27_2 => ?_) (fun c27_2 => ?_)
        · exfalso
          have c27_2n : 14 ≤ i := (nI_leI (a := 14) (b := i) (by omega) (by omega)).mp c27_2
          have c27_2m : ¬ i < 14 := by omega
          omega
        have c27_2n : ¬ 14 ≤ i := fun h9 => c27_2 ((nI_leI (a := 14) (b := i) (by omega) (by omega)).mpr h9)
        have c27_2m : i < 14 := by omega
        refine j_aload_n (pc := 30) hX dX7_hasNoSpareSet_30 0 rfl ?_
        refine j_get (ci := 7) (pc := 31) hX inG7 rfl 5 (by decide) mw181 0 rfl rfl dX7_hasNoSpareSet_31 ?_
        refine j_iconst (v := 0) (pc := 34) hX dX7_hasNoSpareSet_34 (by decide) ?_
        refine j_iald (pc := 35) hX 4 rfl 0 rfl (by omega) (by omega) dX7_hasNoSpareSet_35 ?_
        refine j_aload_n (pc := 36) hX dX7_hasNoSpareSet_36 0 rfl ?_
        refine j_get (ci := 7) (pc := 37) hX inG7 rfl 4 (by decide) mw180 0 rfl rfl dX7_hasNoSpareSet_37 ?_
        refine j_iload_n (pc := 40) hX dX7_hasNoSpareSet_40 2 rfl ?_
        refine j_iald (pc := 41) hX 3 rfl i rfl (by omega) (by omega) dX7_hasNoSpareSet_41 ?_
        refine j_iand (pc := 42) hX dX7_hasNoSpareSet_42 ?_
        refine j_if_eq (tgt := 59) (pc := 43) hX dX7_hasNoSpareSet_43 (by decide) (fun c43_3 => ?_) (fun c43_3 => ?_)
        · skip
          refine j_iinc (v := nI (i + 1)) (lv2 := [(0, .ref k), (1, .int (wHo z)), (2, .int (nI (i + 1)))]) (pc := 59) hX dX7_hasNoSpareSet_59 2 rfl (nI_add i 1) [1, 2, 0] (by decide) rfl ?_
          refine j_goto (tgt := 16) (pc := 62) hX dX7_hasNoSpareSet_62 (by decide) ?_
          exact j_eq (lv2 := [(0, .ref k), (1, .int (wHo z)), (2, .int (nI (i + 1)))]) (ws2 := [(k, .inr (7, [.int z.1, .int (nI z.2.1), .ref k1, .ref k2, .ref k3, .ref k4, .ref k5, .ref k6, .ref k7])), (k1, .inl (gI g, 14, .inl z.2.2.1)), (k2, .inl (gI g, 14, .inl z.2.2.2.1)), (k3, .inl (gI g, 14, .inl z.2.2.2.2.1)), (k4, .inl (gI g, 15, .inl z.2.2.2.2.2.1)), (k5, .inl (gI g, 15, .inl z.2.2.2.2.2.2.1)), (k6, .inl (gI g, 15, .inl z.2.2.2.2.2.2.2.1)), (k7, .inl (gI g, 15, .inl z.2.2.2.2.2.2.2.2))]) (by first | rfl | first | (simp only [jb_t, jb_f, c21_1, c21_1n, c21_1m, c27_2, c27_2n, c27_2m, c43_3, reduceIte, eq_self, decide_true, decide_false, Bool.and_true, Bool.true_and, Bool.and_false, Bool.false_and, Bool.and_self, not_true_eq_false, not_false_eq_true, and_true, true_and, and_false, false_and, and_self]; done) | (simp [jb_t, jb_f, c21_1, c21_1n, c21_1m, c27_2, c27_2n, c27_2m, c43_3]; done)) (by first | rfl | first | (simp only [jb_t, jb_f, c21_1, c21_1n, c21_1m, c27_2, c27_2n, c27_2m, c43_3, reduceIte, eq_self, decide_true, decide_false, Bool.and_true, Bool.true_and, Bool.and_false, Bool.false_and, Bool.and_self, not_true_eq_false, not_false_eq_true, and_true, true_and, and_false, false_and, and_self]; done) | (simp [jb_t, jb_f, c21_1, c21_1n, c21_1m, c27_2, c27_2n, c27_2m, c43_3]; done)) (ih16 _ (by omega) (i + 1) (by omega) (by simp [nSp, hb, nSb, c43_3]) rfl)
        · skip
          refine j_aload_n (pc := 46) hX dX7_hasNoSpareSet_46 0 rfl ?_
          refine j_get (ci := 7) (pc := 47) hX inG7 rfl 2 (by decide) mw178 0 rfl rfl dX7_hasNoSpareSet_47 ?_
          refine j_iload_n (pc := 50) hX dX7_hasNoSpareSet_50 2 rfl ?_
          refine j_iald (pc := 51) hX 1 rfl i rfl (by omega) (by omega) dX7_hasNoSpareSet_51 ?_
          refine j_iload_n (pc := 52) hX dX7_hasNoSpareSet_52 1 rfl ?_
          refine j_iand (pc := 53) hX dX7_hasNoSpareSet_53 ?_
          refine j_if_ne (tgt := 59) (pc := 54) hX dX7_hasNoSpareSet_54 (by decide) (fun c54_4 => ?_) (fun c54_4 => ?_)
          · skip
            refine j_iinc (v := nI (i + 1)) (lv2 := [(0, .ref k), (1, .int (wHo z)), (2, .int (nI (i + 1)))]) (pc := 59) hX dX7_hasNoSpareSet_59 2 rfl (nI_add i 1) [1, 2, 0] (by decide) rfl ?_
            refine j_goto (tgt := 16) (pc := 62) hX dX7_hasNoSpareSet_62 (by decide) ?_
            exact j_eq (lv2 := [(0, .ref k), (1, .int (wHo z)), (2, .int (nI (i + 1)))]) (ws2 := [(k, .inr (7, [.int z.1, .int (nI z.2.1), .ref k1, .ref k2, .ref k3, .ref k4, .ref k5, .ref k6, .ref k7])), (k1, .inl (gI g, 14, .inl z.2.2.1)), (k2, .inl (gI g, 14, .inl z.2.2.2.1)), (k3, .inl (gI g, 14, .inl z.2.2.2.2.1)), (k4, .inl (gI g, 15, .inl z.2.2.2.2.2.1)), (k5, .inl (gI g, 15, .inl z.2.2.2.2.2.2.1)), (k6, .inl (gI g, 15, .inl z.2.2.2.2.2.2.2.1)), (k7, .inl (gI g, 15, .inl z.2.2.2.2.2.2.2.2))]) (by first | rfl | first | (simp only [jb_t, jb_f, c21_1, c21_1n, c21_1m, c27_2, c27_2n, c27_2m, c43_3, c54_4, reduceIte, eq_self, decide_true, decide_false, Bool.and_true, Bool.true_and, Bool.and_false, Bool.false_and, Bool.and_self, not_true_eq_false, not_false_eq_true, and_true, true_and, and_false, false_and, and_self]; done) | (simp [jb_t, jb_f, c21_1, c21_1n, c21_1m, c27_2, c27_2n, c27_2m, c43_3, c54_4]; done)) (by first | rfl | first | (simp only [jb_t, jb_f, c21_1, c21_1n, c21_1m, c27_2, c27_2n, c27_2m, c43_3, c54_4, reduceIte, eq_self, decide_true, decide_false, Bool.and_true, Bool.true_and, Bool.and_false, Bool.false_and, Bool.and_self, not_true_eq_false, not_false_eq_true, and_true, true_and, and_false, false_and, and_self]; done) | (simp [jb_t, jb_f, c21_1, c21_1n, c21_1m, c27_2, c27_2n, c27_2m, c43_3, c54_4]; done)) (ih16 _ (by omega) (i + 1) (by omega) (by simp [nSp, hb, nSb, c43_3, c54_4]) rfl)
          · skip
            refine j_iconst (v := 0) (pc := 57) hX dX7_hasNoSpareSet_57 (by decide) ?_
            exact j_zret (pc := 58) hX hQ dX7_hasNoSpareSet_58 (by first | rfl | exact jb_nar _) rfl ⟨(by rw [nSp_f z (i := i + 1) (by simp [nSp, hb, nSb, c43_3, c54_4]) _ (by omega)]; rfl), (by first | rfl | first | (simp only [jb_t, jb_f, c21_1, c21_1n, c21_1m, c27_2, c27_2n, c27_2m, c43_3, c54_4, reduceIte, eq_self, decide_true, decide_false, Bool.and_true, Bool.true_and, Bool.and_false, Bool.false_and, Bool.and_self, not_true_eq_false, not_false_eq_true, and_true, true_and, and_false, false_and, and_self]; done) | (simp [jb_t, jb_f, c21_1, c21_1n, c21_1m, c27_2, c27_2n, c27_2m, c43_3, c54_4]; done))⟩
  exact j_eq (lv2 := [(0, .ref k), (1, .int (wHo z)), (2, .int (nI 0))]) (ws2 := [(k, .inr (7, [.int z.1, .int (nI z.2.1), .ref k1, .ref k2, .ref k3, .ref k4, .ref k5, .ref k6, .ref k7])), (k1, .inl (gI g, 14, .inl z.2.2.1)), (k2, .inl (gI g, 14, .inl z.2.2.2.1)), (k3, .inl (gI g, 14, .inl z.2.2.2.2.1)), (k4, .inl (gI g, 15, .inl z.2.2.2.2.2.1)), (k5, .inl (gI g, 15, .inl z.2.2.2.2.2.2.1)), (k6, .inl (gI g, 15, .inl z.2.2.2.2.2.2.2.1)), (k7, .inl (gI g, 15, .inl z.2.2.2.2.2.2.2.2))]) (rfl) (rfl) (L16 _ 0 (by omega) (rfl) rfl)

set_option maxHeartbeats 4000000 in
set_option maxRecDepth 100000 in
theorem c_X7_begin (g : jG) (k : Nat) (k1 : Nat) (k2 : Nat) (k3 : Nat) (k4 : Nat) (k5 : Nat) (k6 : Nat) (k7 : Nat) (z : WT) (q : adT) (v : StT) (hv : v.2.1 ≤ 14) : jMI g yX7_begin cX7_begin 4 .int 1 25 [.ref k, .ref q.1] [(k, .inr (7, [.int z.1, .int (nI z.2.1), .ref k1, .ref k2, .ref k3, .ref k4, .ref k5, .ref k6, .ref k7])), (k1, .inl (gI g, 14, .inl z.2.2.1)), (k2, .inl (gI g, 14, .inl z.2.2.2.1)), (k3, .inl (gI g, 14, .inl z.2.2.2.2.1)), (k4, .inl (gI g, 15, .inl z.2.2.2.2.2.1)), (k5, .inl (gI g, 15, .inl z.2.2.2.2.2.2.1)), (k6, .inl (gI g, 15, .inl z.2.2.2.2.2.2.2.1)), (k7, .inl (gI g, 15, .inl z.2.2.2.2.2.2.2.2)), (q.1, .inr (6, [.int v.1, .int (nI v.2.1), .ref q.2.1, .ref q.2.2.1, .ref q.2.2.2])), (q.2.1, .inl (gI g, 14, .inl v.2.2.1)), (q.2.2.1, .inl (gI g, 14, .inl v.2.2.2.1)), (q.2.2.2, .inl (gI g, 14, .inl v.2.2.2.2))] (fun rz wz => rz = nI (wN v z) ∧ wz = [(k, .inr (7, [.int ((wBg v z).1), .int (nI ((wBg v z).2.1)), .ref k1, .ref k2, .ref k3, .ref k4, .ref k5, .ref k6, .ref k7])), (k1, .inl (gI g, 14, .inl ((wBg v z).2.2.1))), (k2, .inl (gI g, 14, .inl ((wBg v z).2.2.2.1))), (k3, .inl (gI g, 14, .inl ((wBg v z).2.2.2.2.1))), (k4, .inl (gI g, 15, .inl ((wBg v z).2.2.2.2.2.1))), (k5, .inl (gI g, 15, .inl ((wBg v z).2.2.2.2.2.2.1))), (k6, .inl (gI g, 15, .inl ((wBg v z).2.2.2.2.2.2.2.1))), (k7, .inl (gI g, 15, .inl ((wBg v z).2.2.2.2.2.2.2.2))), (q.1, .inr (6, [.int v.1, .int (nI v.2.1), .ref q.2.1, .ref q.2.2.1, .ref q.2.2.2])), (q.2.1, .inl (gI g, 14, .inl v.2.2.1)), (q.2.2.1, .inl (gI g, 14, .inl v.2.2.2.1)), (q.2.2.2, .inl (gI g, 14, .inl v.2.2.2.2))]) := by
  refine jMI.intro (by decide +kernel) (Nat.le_of_ble_eq_true rfl) (fun x hX hQ => ?_)
  refine j_lv (lv2 := [(0, .ref k), (1, .ref q.1)]) rfl ?_
  refine j_aload_n (pc := 0) hX dX7_begin_0 0 rfl ?_
  refine j_aload_n (pc := 1) hX dX7_begin_1 1 rfl ?_
  refine j_getN (ci := 6) (pc := 2) hX inG6 rfl 0 (by decide) mw40 8 rfl rfl dX7_begin_2 ?_
  refine j_put (ci := 7) (ty := .int) (pc := 5) hX inG7 tyX7 tyX7_ok nmG7 rfl 0 (by decide) mw176 rfl (by decide +kernel) 0 rfl (Nat.le_of_ble_eq_true rfl) (rfl) rfl dX7_begin_5 ?_
  refine j_ws (ws2 := [(k, .inr (7, [.int v.1, .int (nI z.2.1), .ref k1, .ref k2, .ref k3, .ref k4, .ref k5, .ref k6, .ref k7])), (k1, .inl (gI g, 14, .inl z.2.2.1)), (k2, .inl (gI g, 14, .inl z.2.2.2.1)), (k3, .inl (gI g, 14, .inl z.2.2.2.2.1)), (k4, .inl (gI g, 15, .inl z.2.2.2.2.2.1)), (k5, .inl (gI g, 15, .inl z.2.2.2.2.2.2.1)), (k6, .inl (gI g, 15, .inl z.2.2.2.2.2.2.2.1)), (k7, .inl (gI g, 15, .inl z.2.2.2.2.2.2.2.2)), (q.1, .inr (6, [.int v.1, .int (nI v.2.1), .ref q.2.1, .ref q.2.2.1, .ref q.2.2.2])), (q.2.1, .inl (gI g, 14, .inl v.2.2.1)), (q.2.2.1, .inl (gI g, 14, .inl v.2.2.2.1)), (q.2.2.2, .inl (gI g, 14, .inl v.2.2.2.2))]) rfl ?_
  refine j_aload_n (pc := 8) hX dX7_begin_8 0 rfl ?_
  refine j_iconst (v := 0) (pc := 9) hX dX7_begin_9 (by decide) ?_
  refine j_put (ci := 7) (ty := .int) (pc := 10) hX inG7 tyX7 tyX7_ok nmG7 rfl 1 (by decide) mw177 rfl (by decide +kernel) 0 rfl (Nat.le_of_ble_eq_true rfl) (rfl) rfl dX7_begin_10 ?_
  refine j_ws (ws2 := [(k, .inr (7, [.int v.1, .int 0, .ref k1, .ref k2, .ref k3, .ref k4, .ref k5, .ref k6, .ref k7])), (k1, .inl (gI g, 14, .inl z.2.2.1)), (k2, .inl (gI g, 14, .inl z.2.2.2.1)), (k3, .inl (gI g, 14, .inl z.2.2.2.2.1)), (k4, .inl (gI g, 15, .inl z.2.2.2.2.2.1)), (k5, .inl (gI g, 15, .inl z.2.2.2.2.2.2.1)), (k6, .inl (gI g, 15, .inl z.2.2.2.2.2.2.2.1)), (k7, .inl (gI g, 15, .inl z.2.2.2.2.2.2.2.2)), (q.1, .inr (6, [.int v.1, .int (nI v.2.1), .ref q.2.1, .ref q.2.2.1, .ref q.2.2.2])), (q.2.1, .inl (gI g, 14, .inl v.2.2.1)), (q.2.2.1, .inl (gI g, 14, .inl v.2.2.2.1)), (q.2.2.2, .inl (gI g, 14, .inl v.2.2.2.2))]) rfl ?_
  refine j_aload_n (pc := 13) hX dX7_begin_13 0 rfl ?_
  refine j_get (ci := 7) (pc := 14) hX inG7 rfl 5 (by decide) mw181 0 rfl rfl dX7_begin_14 ?_
  refine j_iconst (v := 0) (pc := 17) hX dX7_begin_17 (by decide) ?_
  refine j_callSV (n := 2) (As := [.ref k4, .int 0]) (rest := []) (pc := 18) hX (c_J7_fill g k4 15 z.2.2.2.2.2.1 0 (by first | assumption | omega)) (CS.of mw404 mw315 mw24 mw316 ⟨by decide +kernel, by decide +kernel, by decide +kernel⟩) (Nat.le_of_ble_eq_true rfl) (Nat.le_of_ble_eq_true rfl) (Nat.le_of_ble_eq_true rfl) (Nat.le_of_ble_eq_true rfl) [4] (by decide +kernel) rfl rfl rfl (Nat.le_of_ble_eq_true rfl) dX7_begin_18 (fun wz wnz hq2 => ?_)
  obtain ⟨rfl, rfl⟩ := hq2
  refine j_ws (ws2 := [(k, .inr (7, [.int v.1, .int 0, .ref k1, .ref k2, .ref k3, .ref k4, .ref k5, .ref k6, .ref k7])), (k1, .inl (gI g, 14, .inl z.2.2.1)), (k2, .inl (gI g, 14, .inl z.2.2.2.1)), (k3, .inl (gI g, 14, .inl z.2.2.2.2.1)), (k4, .inl (gI g, 15, .inl (S_fill 0 z.2.2.2.2.2.1 15))), (k5, .inl (gI g, 15, .inl z.2.2.2.2.2.2.1)), (k6, .inl (gI g, 15, .inl z.2.2.2.2.2.2.2.1)), (k7, .inl (gI g, 15, .inl z.2.2.2.2.2.2.2.2)), (q.1, .inr (6, [.int v.1, .int (nI v.2.1), .ref q.2.1, .ref q.2.2.1, .ref q.2.2.2])), (q.2.1, .inl (gI g, 14, .inl v.2.2.1)), (q.2.2.1, .inl (gI g, 14, .inl v.2.2.2.1)), (q.2.2.2, .inl (gI g, 14, .inl v.2.2.2.2))]) rfl ?_
  refine j_aload_n (pc := 21) hX dX7_begin_21 0 rfl ?_
  refine j_get (ci := 7) (pc := 22) hX inG7 rfl 6 (by decide) mw182 0 rfl rfl dX7_begin_22 ?_
  refine j_iconst (v := 0) (pc := 25) hX dX7_begin_25 (by decide) ?_
  refine j_callSV (n := 2) (As := [.ref k5, .int 0]) (rest := []) (pc := 26) hX (c_J7_fill g k5 15 z.2.2.2.2.2.2.1 0 (by first | assumption | omega)) (CS.of mw404 mw315 mw24 mw316 ⟨by decide +kernel, by decide +kernel, by decide +kernel⟩) (Nat.le_of_ble_eq_true rfl) (Nat.le_of_ble_eq_true rfl) (Nat.le_of_ble_eq_true rfl) (Nat.le_of_ble_eq_true rfl) [5] (by decide +kernel) rfl rfl rfl (Nat.le_of_ble_eq_true rfl) dX7_begin_26 (fun wz wnz hq4 => ?_)
  obtain ⟨rfl, rfl⟩ := hq4
  refine j_ws (ws2 := [(k, .inr (7, [.int v.1, .int 0, .ref k1, .ref k2, .ref k3, .ref k4, .ref k5, .ref k6, .ref k7])), (k1, .inl (gI g, 14, .inl z.2.2.1)), (k2, .inl (gI g, 14, .inl z.2.2.2.1)), (k3, .inl (gI g, 14, .inl z.2.2.2.2.1)), (k4, .inl (gI g, 15, .inl (S_fill 0 z.2.2.2.2.2.1 15))), (k5, .inl (gI g, 15, .inl (S_fill 0 z.2.2.2.2.2.2.1 15))), (k6, .inl (gI g, 15, .inl z.2.2.2.2.2.2.2.1)), (k7, .inl (gI g, 15, .inl z.2.2.2.2.2.2.2.2)), (q.1, .inr (6, [.int v.1, .int (nI v.2.1), .ref q.2.1, .ref q.2.2.1, .ref q.2.2.2])), (q.2.1, .inl (gI g, 14, .inl v.2.2.1)), (q.2.2.1, .inl (gI g, 14, .inl v.2.2.2.1)), (q.2.2.2, .inl (gI g, 14, .inl v.2.2.2.2))]) rfl ?_
  refine j_aload_n (pc := 29) hX dX7_begin_29 0 rfl ?_
  refine j_get (ci := 7) (pc := 30) hX inG7 rfl 7 (by decide) mw183 0 rfl rfl dX7_begin_30 ?_
  refine j_iconst (v := 0) (pc := 33) hX dX7_begin_33 (by decide) ?_
  refine j_callSV (n := 2) (As := [.ref k6, .int 0]) (rest := []) (pc := 34) hX (c_J7_fill g k6 15 z.2.2.2.2.2.2.2.1 0 (by first | assumption | omega)) (CS.of mw404 mw315 mw24 mw316 ⟨by decide +kernel, by decide +kernel, by decide +kernel⟩) (Nat.le_of_ble_eq_true rfl) (Nat.le_of_ble_eq_true rfl) (Nat.le_of_ble_eq_true rfl) (Nat.le_of_ble_eq_true rfl) [6] (by decide +kernel) rfl rfl rfl (Nat.le_of_ble_eq_true rfl) dX7_begin_34 (fun wz wnz hq6 => ?_)
  obtain ⟨rfl, rfl⟩ := hq6
  refine j_ws (ws2 := [(k, .inr (7, [.int v.1, .int 0, .ref k1, .ref k2, .ref k3, .ref k4, .ref k5, .ref k6, .ref k7])), (k1, .inl (gI g, 14, .inl z.2.2.1)), (k2, .inl (gI g, 14, .inl z.2.2.2.1)), (k3, .inl (gI g, 14, .inl z.2.2.2.2.1)), (k4, .inl (gI g, 15, .inl (S_fill 0 z.2.2.2.2.2.1 15))), (k5, .inl (gI g, 15, .inl (S_fill 0 z.2.2.2.2.2.2.1 15))), (k6, .inl (gI g, 15, .inl (S_fill 0 z.2.2.2.2.2.2.2.1 15))), (k7, .inl (gI g, 15, .inl z.2.2.2.2.2.2.2.2)), (q.1, .inr (6, [.int v.1, .int (nI v.2.1), .ref q.2.1, .ref q.2.2.1, .ref q.2.2.2])), (q.2.1, .inl (gI g, 14, .inl v.2.2.1)), (q.2.2.1, .inl (gI g, 14, .inl v.2.2.2.1)), (q.2.2.2, .inl (gI g, 14, .inl v.2.2.2.2))]) rfl ?_
  refine j_aload_n (pc := 37) hX dX7_begin_37 0 rfl ?_
  refine j_get (ci := 7) (pc := 38) hX inG7 rfl 8 (by decide) mw184 0 rfl rfl dX7_begin_38 ?_
  refine j_iconst (v := 0) (pc := 41) hX dX7_begin_41 (by decide) ?_
  refine j_callSV (n := 2) (As := [.ref k7, .int 0]) (rest := []) (pc := 42) hX (c_J7_fill g k7 15 z.2.2.2.2.2.2.2.2 0 (by first | assumption | omega)) (CS.of mw404 mw315 mw24 mw316 ⟨by decide +kernel, by decide +kernel, by decide +kernel⟩) (Nat.le_of_ble_eq_true rfl) (Nat.le_of_ble_eq_true rfl) (Nat.le_of_ble_eq_true rfl) (Nat.le_of_ble_eq_true rfl) [7] (by decide +kernel) rfl rfl rfl (Nat.le_of_ble_eq_true rfl) dX7_begin_42 (fun wz wnz hq8 => ?_)
  obtain ⟨rfl, rfl⟩ := hq8
  refine j_ws (ws2 := [(k, .inr (7, [.int v.1, .int 0, .ref k1, .ref k2, .ref k3, .ref k4, .ref k5, .ref k6, .ref k7])), (k1, .inl (gI g, 14, .inl z.2.2.1)), (k2, .inl (gI g, 14, .inl z.2.2.2.1)), (k3, .inl (gI g, 14, .inl z.2.2.2.2.1)), (k4, .inl (gI g, 15, .inl (S_fill 0 z.2.2.2.2.2.1 15))), (k5, .inl (gI g, 15, .inl (S_fill 0 z.2.2.2.2.2.2.1 15))), (k6, .inl (gI g, 15, .inl (S_fill 0 z.2.2.2.2.2.2.2.1 15))), (k7, .inl (gI g, 15, .inl (S_fill 0 z.2.2.2.2.2.2.2.2 15))), (q.1, .inr (6, [.int v.1, .int (nI v.2.1), .ref q.2.1, .ref q.2.2.1, .ref q.2.2.2])), (q.2.1, .inl (gI g, 14, .inl v.2.2.1)), (q.2.2.1, .inl (gI g, 14, .inl v.2.2.2.1)), (q.2.2.2, .inl (gI g, 14, .inl v.2.2.2.2))]) rfl ?_
  refine j_iconst (v := 0) (pc := 45) hX dX7_begin_45 (by decide) ?_
  refine j_istore_n (lv2 := [(0, .ref k), (1, .ref q.1), (2, .int 0)]) (pc := 46) hX dX7_begin_46 [1, 2, 0] (by decide) rfl ?_
  have L47 : ∀ (d : Nat) (i : Nat), i ≤ v.2.1 → v.2.1 - i = d → J g x 4 0 0 47 [(0, .ref k), (1, .ref q.1), (2, .int (nI i))] [] [(k, .inr (7, [.int ((wS v i (w0 v z)).1), .int (nI ((wS v i (w0 v z)).2.1)), .ref k1, .ref k2, .ref k3, .ref k4, .ref k5, .ref k6, .ref k7])), (k1, .inl (gI g, 14, .inl ((wS v i (w0 v z)).2.2.1))), (k2, .inl (gI g, 14, .inl ((wS v i (w0 v z)).2.2.2.1))), (k3, .inl (gI g, 14, .inl ((wS v i (w0 v z)).2.2.2.2.1))), (k4, .inl (gI g, 15, .inl ((wS v i (w0 v z)).2.2.2.2.2.1))), (k5, .inl (gI g, 15, .inl ((wS v i (w0 v z)).2.2.2.2.2.2.1))), (k6, .inl (gI g, 15, .inl ((wS v i (w0 v z)).2.2.2.2.2.2.2.1))), (k7, .inl (gI g, 15, .inl ((wS v i (w0 v z)).2.2.2.2.2.2.2.2))), (q.1, .inr (6, [.int v.1, .int (nI v.2.1), .ref q.2.1, .ref q.2.2.1, .ref q.2.2.2])), (q.2.1, .inl (gI g, 14, .inl v.2.2.1)), (q.2.2.1, .inl (gI g, 14, .inl v.2.2.2.1)), (q.2.2.2, .inl (gI g, 14, .inl v.2.2.2.2))] := by
    intro d
    induction d using Nat.strongRecOn with
    | _ d ih47 =>
      intro i hi hd47
      refine j_iload_n (pc := 47) hX dX7_begin_47 2 rfl ?_
      refine j_aload_n (pc := 48) hX dX7_begin_48 1 rfl ?_
      refine j_getN (ci := 6) (pc := 49) hX inG6 rfl 1 (by decide) mw44 8 rfl rfl dX7_begin_49 ?_
      refine j_icmp_ge (tgt := 137) (pc := 52) hX dX7_begin_52 (by decide) (fun c52_9 => ?_) (fun c52_9 => ?_)
      · skip
        have c52_9n : v.2.1 ≤ i := (nI_leI (a := v.2.1) (b := i) (by omega) (by omega)).mp c52_9
        have c52_9m : ¬ i < v.2.1 := by omega
        obtain rfl : i = v.2.1 := by omega
        refine j_ws (ws2 := [(k, .inr (7, [.int ((wBg v z).1), .int (nI ((wBg v z).2.1)), .ref k1, .ref k2, .ref k3, .ref k4, .ref k5, .ref k6, .ref k7])), (k1, .inl (gI g, 14, .inl ((wBg v z).2.2.1))), (k2, .inl (gI g, 14, .inl ((wBg v z).2.2.2.1))), (k3, .inl (gI g, 14, .inl ((wBg v z).2.2.2.2.1))), (k4, .inl (gI g, 15, .inl ((wBg v z).2.2.2.2.2.1))), (k5, .inl (gI g, 15, .inl ((wBg v z).2.2.2.2.2.2.1))), (k6, .inl (gI g, 15, .inl ((wBg v z).2.2.2.2.2.2.2.1))), (k7, .inl (gI g, 15, .inl ((wBg v z).2.2.2.2.2.2.2.2))), (q.1, .inr (6, [.int v.1, .int (nI v.2.1), .ref q.2.1, .ref q.2.2.1, .ref q.2.2.2])), (q.2.1, .inl (gI g, 14, .inl v.2.2.1)), (q.2.2.1, .inl (gI g, 14, .inl v.2.2.2.1)), (q.2.2.2, .inl (gI g, 14, .inl v.2.2.2.2))]) rfl ?_
        refine j_iconst (v := 1) (pc := 137) hX dX7_begin_137 (by decide) ?_
        refine j_aload_n (pc := 138) hX dX7_begin_138 0 rfl ?_
        refine j_get (ci := 7) (pc := 139) hX inG7 rfl 1 (by decide) mw177 0 rfl rfl dX7_begin_139 ?_
        refine j_ishl (pc := 142) hX dX7_begin_142 ?_
        refine j_top (b := nI (wN v z)) (bI_pow _ (by have := wBg_fr v z; omega)) ?_
        exact j_iret (pc := 143) hX hQ dX7_begin_143 rfl ⟨(by first | rfl | first | (simp only [jb_t, jb_f, c52_9, c52_9n, c52_9m, reduceIte, eq_self, decide_true, decide_false, Bool.and_true, Bool.true_and, Bool.and_false, Bool.false_and, Bool.and_self, not_true_eq_false, not_false_eq_true, and_true, true_and, and_false, false_and, and_self]; done) | (simp [jb_t, jb_f, c52_9, c52_9n, c52_9m]; done)), (by first | rfl | first | (simp only [jb_t, jb_f, c52_9, c52_9n, c52_9m, reduceIte, eq_self, decide_true, decide_false, Bool.and_true, Bool.true_and, Bool.and_false, Bool.false_and, Bool.and_self, not_true_eq_false, not_false_eq_true, and_true, true_and, and_false, false_and, and_self]; done) | (simp [jb_t, jb_f, c52_9, c52_9n, c52_9m]; done))⟩
      · skip
        have c52_9n : ¬ v.2.1 ≤ i := fun h9 => c52_9 ((nI_leI (a := v.2.1) (b := i) (by omega) (by omega)).mpr h9)
        have c52_9m : i < v.2.1 := by omega
        have hfr5 := wS_fr v i (w0 v z) (Nat.zero_le 14)
        refine j_aload_n (pc := 55) hX dX7_begin_55 1 rfl ?_
        refine j_getN (ci := 6) (pc := 56) hX inG6 rfl 4 (by decide) mw59 8 rfl rfl dX7_begin_56 ?_
        refine j_iload_n (pc := 59) hX dX7_begin_59 2 rfl ?_
        refine j_iald (pc := 60) hX 11 rfl i rfl (by omega) (by omega) dX7_begin_60 ?_
        refine j_if_ne (tgt := 86) (pc := 61) hX dX7_begin_61 (by decide) (fun c61_10 => ?_) (fun c61_10 => ?_)
        · skip
          refine j_aload_n (pc := 86) hX dX7_begin_86 1 rfl ?_
          refine j_getN (ci := 6) (pc := 87) hX inG6 rfl 4 (by decide) mw59 8 rfl rfl dX7_begin_87 ?_
          refine j_iload_n (pc := 90) hX dX7_begin_90 2 rfl ?_
          refine j_iald (pc := 91) hX 11 rfl i rfl (by omega) (by omega) dX7_begin_91 ?_
          refine j_iconst (v := 1) (pc := 92) hX dX7_begin_92 (by decide) ?_
          refine j_icmp_ne (tgt := 131) (pc := 93) hX dX7_begin_93 (by decide) (fun c93_11 => ?_) (fun c93_11 => ?_)
          · skip
            refine j_iinc (v := nI (i + 1)) (lv2 := [(0, .ref k), (1, .ref q.1), (2, .int (nI (i + 1)))]) (pc := 131) hX dX7_begin_131 2 rfl (nI_add i 1) [1, 2, 0] (by decide) rfl ?_
            refine j_goto (tgt := 47) (pc := 134) hX dX7_begin_134 (by decide) ?_
            exact j_eq (lv2 := [(0, .ref k), (1, .ref q.1), (2, .int (nI (i + 1)))]) (ws2 := [(k, .inr (7, [.int ((wS v (i + 1) (w0 v z)).1), .int (nI ((wS v (i + 1) (w0 v z)).2.1)), .ref k1, .ref k2, .ref k3, .ref k4, .ref k5, .ref k6, .ref k7])), (k1, .inl (gI g, 14, .inl ((wS v (i + 1) (w0 v z)).2.2.1))), (k2, .inl (gI g, 14, .inl ((wS v (i + 1) (w0 v z)).2.2.2.1))), (k3, .inl (gI g, 14, .inl ((wS v (i + 1) (w0 v z)).2.2.2.2.1))), (k4, .inl (gI g, 15, .inl ((wS v (i + 1) (w0 v z)).2.2.2.2.2.1))), (k5, .inl (gI g, 15, .inl ((wS v (i + 1) (w0 v z)).2.2.2.2.2.2.1))), (k6, .inl (gI g, 15, .inl ((wS v (i + 1) (w0 v z)).2.2.2.2.2.2.2.1))), (k7, .inl (gI g, 15, .inl ((wS v (i + 1) (w0 v z)).2.2.2.2.2.2.2.2))), (q.1, .inr (6, [.int v.1, .int (nI v.2.1), .ref q.2.1, .ref q.2.2.1, .ref q.2.2.2])), (q.2.1, .inl (gI g, 14, .inl v.2.2.1)), (q.2.2.1, .inl (gI g, 14, .inl v.2.2.2.1)), (q.2.2.2, .inl (gI g, 14, .inl v.2.2.2.2))]) (by first | rfl | (simp only [wS, c52_9, c52_9n, c52_9m, c61_10, c93_11, reduceIte, eq_self]; first | done | rfl)) (by first | rfl | (simp only [wS, c52_9, c52_9n, c52_9m, c61_10, c93_11, reduceIte, eq_self]; first | done | rfl)) (ih47 _ (by omega) (i + 1) (by omega) rfl)
          · skip
            refine j_iconst (v := 0) (pc := 96) hX dX7_begin_96 (by decide) ?_
            refine j_istore_n (lv2 := [(0, .ref k), (1, .ref q.1), (2, .int (nI i)), (3, .int 0)]) (pc := 97) hX dX7_begin_97 [1, 2, 3, 0] (by decide) rfl ?_
            have L98 : ∀ (d : Nat) (l : Nat), l ≤ 15 → 15 - l = d → J g x 4 0 0 98 [(0, .ref k), (1, .ref q.1), (2, .int (nI i)), (3, .int (nI l))] [] [(k, .inr (7, [.int ((jL (wS v i (w0 v z)) (bI i) (v.2.2.1 i) (v.2.2.2.1 i) l).1), .int (nI ((jL (wS v i (w0 v z)) (bI i) (v.2.2.1 i) (v.2.2.2.1 i) l).2.1)), .ref k1, .ref k2, .ref k3, .ref k4, .ref k5, .ref k6, .ref k7])), (k1, .inl (gI g, 14, .inl ((jL (wS v i (w0 v z)) (bI i) (v.2.2.1 i) (v.2.2.2.1 i) l).2.2.1))), (k2, .inl (gI g, 14, .inl ((jL (wS v i (w0 v z)) (bI i) (v.2.2.1 i) (v.2.2.2.1 i) l).2.2.2.1))), (k3, .inl (gI g, 14, .inl ((jL (wS v i (w0 v z)) (bI i) (v.2.2.1 i) (v.2.2.2.1 i) l).2.2.2.2.1))), (k4, .inl (gI g, 15, .inl ((jL (wS v i (w0 v z)) (bI i) (v.2.2.1 i) (v.2.2.2.1 i) l).2.2.2.2.2.1))), (k5, .inl (gI g, 15, .inl ((jL (wS v i (w0 v z)) (bI i) (v.2.2.1 i) (v.2.2.2.1 i) l).2.2.2.2.2.2.1))), (k6, .inl (gI g, 15, .inl ((jL (wS v i (w0 v z)) (bI i) (v.2.2.1 i) (v.2.2.2.1 i) l).2.2.2.2.2.2.2.1))), (k7, .inl (gI g, 15, .inl ((jL (wS v i (w0 v z)) (bI i) (v.2.2.1 i) (v.2.2.2.1 i) l).2.2.2.2.2.2.2.2))), (q.1, .inr (6, [.int v.1, .int (nI v.2.1), .ref q.2.1, .ref q.2.2.1, .ref q.2.2.2])), (q.2.1, .inl (gI g, 14, .inl v.2.2.1)), (q.2.2.1, .inl (gI g, 14, .inl v.2.2.2.1)), (q.2.2.2, .inl (gI g, 14, .inl v.2.2.2.2))] := by
              intro d
              induction d using Nat.strongRecOn with
              | _ d ih98 =>
                intro l hl hd98
                refine j_iload_n (pc := 98) hX dX7_begin_98 3 rfl ?_
                refine j_bipush (v := 14) (pc := 99) hX dX7_begin_99 (by decide) ?_
                refine j_icmp_gt (tgt := 131) (pc := 101) hX dX7_begin_101 (by decide) (fun c101_12 => ?_) (fun c101_12 => ?_)
                · skip
                  have c101_12n : 14 < l := (nI_ltI (a := 14) (b := l) (by omega) (by omega)).mp c101_12
                  have c101_12m : ¬ l ≤ 14 := by omega
                  obtain rfl : l = 15 := by omega
                  refine j_iinc (v := nI (i + 1)) (lv2 := [(0, .ref k), (1, .ref q.1), (2, .int (nI (i + 1))), (3, .int (nI 15))]) (pc := 131) hX dX7_begin_131 2 rfl (nI_add i 1) [1, 2, 0, 3] (by decide) rfl ?_
                  refine j_goto (tgt := 47) (pc := 134) hX dX7_begin_134 (by decide) ?_
                  refine j_lvs (lv2 := [(0, .ref k), (1, .ref q.1), (2, .int (nI (i + 1)))]) [0, 1, 2] rfl ?_
                  exact j_eq (lv2 := [(0, .ref k), (1, .ref q.1), (2, .int (nI (i + 1)))]) (ws2 := [(k, .inr (7, [.int ((wS v (i + 1) (w0 v z)).1), .int (nI ((wS v (i + 1) (w0 v z)).2.1)), .ref k1, .ref k2, .ref k3, .ref k4, .ref k5, .ref k6, .ref k7])), (k1, .inl (gI g, 14, .inl ((wS v (i + 1) (w0 v z)).2.2.1))), (k2, .inl (gI g, 14, .inl ((wS v (i + 1) (w0 v z)).2.2.2.1))), (k3, .inl (gI g, 14, .inl ((wS v (i + 1) (w0 v z)).2.2.2.2.1))), (k4, .inl (gI g, 15, .inl ((wS v (i + 1) (w0 v z)).2.2.2.2.2.1))), (k5, .inl (gI g, 15, .inl ((wS v (i + 1) (w0 v z)).2.2.2.2.2.2.1))), (k6, .inl (gI g, 15, .inl ((wS v (i + 1) (w0 v z)).2.2.2.2.2.2.2.1))), (k7, .inl (gI g, 15, .inl ((wS v (i + 1) (w0 v z)).2.2.2.2.2.2.2.2))), (q.1, .inr (6, [.int v.1, .int (nI v.2.1), .ref q.2.1, .ref q.2.2.1, .ref q.2.2.2])), (q.2.1, .inl (gI g, 14, .inl v.2.2.1)), (q.2.2.1, .inl (gI g, 14, .inl v.2.2.2.1)), (q.2.2.2, .inl (gI g, 14, .inl v.2.2.2.2))]) (by first | rfl | (simp only [wS, c52_9, c52_9n, c52_9m, c61_10, c93_11, c101_12, c101_12n, c101_12m, reduceIte, eq_self]; first | done | rfl)) (by first | rfl | (simp only [wS, c52_9, c52_9n, c52_9m, c61_10, c93_11, c101_12, c101_12n, c101_12m, reduceIte, eq_self]; first | done | rfl)) (ih47 _ (by omega) (i + 1) (by omega) rfl)
                · skip
                  have c101_12n : ¬ 14 < l := fun h9 => c101_12 ((nI_ltI (a := 14) (b := l) (by omega) (by omega)).mpr h9)
                  have c101_12m : l ≤ 14 := by omega
                  refine j_aload_n (pc := 104) hX dX7_begin_104 0 rfl ?_
                  refine j_iload_n (pc := 105) hX dX7_begin_105 3 rfl ?_
                  refine j_iload_n (pc := 106) hX dX7_begin_106 3 rfl ?_
                  refine j_iconst (v := 1) (pc := 107) hX dX7_begin_107 (by decide) ?_
                  refine j_iload_n (pc := 108) hX dX7_begin_108 2 rfl ?_
                  refine j_ishl (pc := 109) hX dX7_begin_109 ?_
                  refine j_top (b := bI i) rfl ?_
                  refine j_aload_n (pc := 110) hX dX7_begin_110 1 rfl ?_
                  refine j_getN (ci := 6) (pc := 111) hX inG6 rfl 2 (by decide) mw49 8 rfl rfl dX7_begin_111 ?_
                  refine j_iload_n (pc := 114) hX dX7_begin_114 2 rfl ?_
                  refine j_iald (pc := 115) hX 9 rfl i rfl (by omega) (by omega) dX7_begin_115 ?_
                  refine j_aload_n (pc := 116) hX dX7_begin_116 1 rfl ?_
                  refine j_getN (ci := 6) (pc := 117) hX inG6 rfl 3 (by decide) mw54 8 rfl rfl dX7_begin_117 ?_
                  refine j_iload_n (pc := 120) hX dX7_begin_120 2 rfl ?_
                  refine j_iald (pc := 121) hX 10 rfl i rfl (by omega) (by omega) dX7_begin_121 ?_
                  refine j_callVV (n := 5) (As := [.int (nI l), .int (nI l), .int (bI i), .int (v.2.2.1 i), .int (v.2.2.2.1 i)]) (rest := []) (pc := 122) hX (c_X7_join g k k1 k2 k3 k4 k5 k6 k7 (jL (wS v i (w0 v z)) (bI i) (v.2.2.1 i) (v.2.2.2.1 i) l) l l (bI i) (v.2.2.1 i) (v.2.2.2.1 i) (by first | assumption | omega) (by first | assumption | omega)) (CV.of mw408 mw409 mw9 mw21 mw410 ⟨rfl, by decide +kernel, by decide +kernel, by decide +kernel⟩ (T := TX7) (N := 9) rfl) (Nat.le_of_ble_eq_true rfl) (Nat.le_of_ble_eq_true rfl) (Nat.le_of_ble_eq_true rfl) (Nat.le_of_ble_eq_true rfl) 0 rfl [0, 1, 2, 3, 4, 5, 6, 7] (by decide +kernel) rfl rfl rfl (Nat.le_of_ble_eq_true rfl) dX7_begin_122 (fun wz wnz hq14 => ?_)
                  obtain ⟨rfl, rfl⟩ := hq14
                  refine j_ws (ws2 := [(k, .inr (7, [.int ((jn (jL (wS v i (w0 v z)) (bI i) (v.2.2.1 i) (v.2.2.2.1 i) l) l l (bI i) (v.2.2.1 i) (v.2.2.2.1 i)).1), .int (nI ((jn (jL (wS v i (w0 v z)) (bI i) (v.2.2.1 i) (v.2.2.2.1 i) l) l l (bI i) (v.2.2.1 i) (v.2.2.2.1 i)).2.1)), .ref k1, .ref k2, .ref k3, .ref k4, .ref k5, .ref k6, .ref k7])), (k1, .inl (gI g, 14, .inl ((jn (jL (wS v i (w0 v z)) (bI i) (v.2.2.1 i) (v.2.2.2.1 i) l) l l (bI i) (v.2.2.1 i) (v.2.2.2.1 i)).2.2.1))), (k2, .inl (gI g, 14, .inl ((jn (jL (wS v i (w0 v z)) (bI i) (v.2.2.1 i) (v.2.2.2.1 i) l) l l (bI i) (v.2.2.1 i) (v.2.2.2.1 i)).2.2.2.1))), (k3, .inl (gI g, 14, .inl ((jn (jL (wS v i (w0 v z)) (bI i) (v.2.2.1 i) (v.2.2.2.1 i) l) l l (bI i) (v.2.2.1 i) (v.2.2.2.1 i)).2.2.2.2.1))), (k4, .inl (gI g, 15, .inl ((jn (jL (wS v i (w0 v z)) (bI i) (v.2.2.1 i) (v.2.2.2.1 i) l) l l (bI i) (v.2.2.1 i) (v.2.2.2.1 i)).2.2.2.2.2.1))), (k5, .inl (gI g, 15, .inl ((jn (jL (wS v i (w0 v z)) (bI i) (v.2.2.1 i) (v.2.2.2.1 i) l) l l (bI i) (v.2.2.1 i) (v.2.2.2.1 i)).2.2.2.2.2.2.1))), (k6, .inl (gI g, 15, .inl ((jn (jL (wS v i (w0 v z)) (bI i) (v.2.2.1 i) (v.2.2.2.1 i) l) l l (bI i) (v.2.2.1 i) (v.2.2.2.1 i)).2.2.2.2.2.2.2.1))), (k7, .inl (gI g, 15, .inl ((jn (jL (wS v i (w0 v z)) (bI i) (v.2.2.1 i) (v.2.2.2.1 i) l) l l (bI i) (v.2.2.1 i) (v.2.2.2.1 i)).2.2.2.2.2.2.2.2))), (q.1, .inr (6, [.int v.1, .int (nI v.2.1), .ref q.2.1, .ref q.2.2.1, .ref q.2.2.2])), (q.2.1, .inl (gI g, 14, .inl v.2.2.1)), (q.2.2.1, .inl (gI g, 14, .inl v.2.2.2.1)), (q.2.2.2, .inl (gI g, 14, .inl v.2.2.2.2))]) rfl ?_
                  refine j_iinc (v := nI (l + 1)) (lv2 := [(0, .ref k), (1, .ref q.1), (2, .int (nI i)), (3, .int (nI (l + 1)))]) (pc := 125) hX dX7_begin_125 3 rfl (nI_add l 1) [1, 2, 3, 0] (by decide) rfl ?_
                  refine j_goto (tgt := 98) (pc := 128) hX dX7_begin_128 (by decide) ?_
                  exact j_eq (lv2 := [(0, .ref k), (1, .ref q.1), (2, .int (nI i)), (3, .int (nI (l + 1)))]) (ws2 := [(k, .inr (7, [.int ((jL (wS v i (w0 v z)) (bI i) (v.2.2.1 i) (v.2.2.2.1 i) (l + 1)).1), .int (nI ((jL (wS v i (w0 v z)) (bI i) (v.2.2.1 i) (v.2.2.2.1 i) (l + 1)).2.1)), .ref k1, .ref k2, .ref k3, .ref k4, .ref k5, .ref k6, .ref k7])), (k1, .inl (gI g, 14, .inl ((jL (wS v i (w0 v z)) (bI i) (v.2.2.1 i) (v.2.2.2.1 i) (l + 1)).2.2.1))), (k2, .inl (gI g, 14, .inl ((jL (wS v i (w0 v z)) (bI i) (v.2.2.1 i) (v.2.2.2.1 i) (l + 1)).2.2.2.1))), (k3, .inl (gI g, 14, .inl ((jL (wS v i (w0 v z)) (bI i) (v.2.2.1 i) (v.2.2.2.1 i) (l + 1)).2.2.2.2.1))), (k4, .inl (gI g, 15, .inl ((jL (wS v i (w0 v z)) (bI i) (v.2.2.1 i) (v.2.2.2.1 i) (l + 1)).2.2.2.2.2.1))), (k5, .inl (gI g, 15, .inl ((jL (wS v i (w0 v z)) (bI i) (v.2.2.1 i) (v.2.2.2.1 i) (l + 1)).2.2.2.2.2.2.1))), (k6, .inl (gI g, 15, .inl ((jL (wS v i (w0 v z)) (bI i) (v.2.2.1 i) (v.2.2.2.1 i) (l + 1)).2.2.2.2.2.2.2.1))), (k7, .inl (gI g, 15, .inl ((jL (wS v i (w0 v z)) (bI i) (v.2.2.1 i) (v.2.2.2.1 i) (l + 1)).2.2.2.2.2.2.2.2))), (q.1, .inr (6, [.int v.1, .int (nI v.2.1), .ref q.2.1, .ref q.2.2.1, .ref q.2.2.2])), (q.2.1, .inl (gI g, 14, .inl v.2.2.1)), (q.2.2.1, .inl (gI g, 14, .inl v.2.2.2.1)), (q.2.2.2, .inl (gI g, 14, .inl v.2.2.2.2))]) (by first | rfl | first | (simp only [jb_t, jb_f, c52_9, c52_9n, c52_9m, c61_10, c93_11, c101_12, c101_12n, c101_12m, reduceIte, eq_self, decide_true, decide_false, Bool.and_true, Bool.true_and, Bool.and_false, Bool.false_and, Bool.and_self, not_true_eq_false, not_false_eq_true, and_true, true_and, and_false, false_and, and_self]; done) | (simp [jb_t, jb_f, c52_9, c52_9n, c52_9m, c61_10, c93_11, c101_12, c101_12n, c101_12m]; done)) (by first | rfl | first | (simp only [jb_t, jb_f, c52_9, c52_9n, c52_9m, c61_10, c93_11, c101_12, c101_12n, c101_12m, reduceIte, eq_self, decide_true, decide_false, Bool.and_true, Bool.true_and, Bool.and_false, Bool.false_and, Bool.and_self, not_true_eq_false, not_false_eq_true, and_true, true_and, and_false, false_and, and_self]; done) | (simp [jb_t, jb_f, c52_9, c52_9n, c52_9m, c61_10, c93_11, c101_12, c101_12n, c101_12m]; done)) (ih98 _ (by omega) (l + 1) (by omega) rfl)
            exact j_eq (lv2 := [(0, .ref k), (1, .ref q.1), (2, .int (nI i)), (3, .int (nI 0))]) (ws2 := [(k, .inr (7, [.int ((jL (wS v i (w0 v z)) (bI i) (v.2.2.1 i) (v.2.2.2.1 i) 0).1), .int (nI ((jL (wS v i (w0 v z)) (bI i) (v.2.2.1 i) (v.2.2.2.1 i) 0).2.1)), .ref k1, .ref k2, .ref k3, .ref k4, .ref k5, .ref k6, .ref k7])), (k1, .inl (gI g, 14, .inl ((jL (wS v i (w0 v z)) (bI i) (v.2.2.1 i) (v.2.2.2.1 i) 0).2.2.1))), (k2, .inl (gI g, 14, .inl ((jL (wS v i (w0 v z)) (bI i) (v.2.2.1 i) (v.2.2.2.1 i) 0).2.2.2.1))), (k3, .inl (gI g, 14, .inl ((jL (wS v i (w0 v z)) (bI i) (v.2.2.1 i) (v.2.2.2.1 i) 0).2.2.2.2.1))), (k4, .inl (gI g, 15, .inl ((jL (wS v i (w0 v z)) (bI i) (v.2.2.1 i) (v.2.2.2.1 i) 0).2.2.2.2.2.1))), (k5, .inl (gI g, 15, .inl ((jL (wS v i (w0 v z)) (bI i) (v.2.2.1 i) (v.2.2.2.1 i) 0).2.2.2.2.2.2.1))), (k6, .inl (gI g, 15, .inl ((jL (wS v i (w0 v z)) (bI i) (v.2.2.1 i) (v.2.2.2.1 i) 0).2.2.2.2.2.2.2.1))), (k7, .inl (gI g, 15, .inl ((jL (wS v i (w0 v z)) (bI i) (v.2.2.1 i) (v.2.2.2.1 i) 0).2.2.2.2.2.2.2.2))), (q.1, .inr (6, [.int v.1, .int (nI v.2.1), .ref q.2.1, .ref q.2.2.1, .ref q.2.2.2])), (q.2.1, .inl (gI g, 14, .inl v.2.2.1)), (q.2.2.1, .inl (gI g, 14, .inl v.2.2.2.1)), (q.2.2.2, .inl (gI g, 14, .inl v.2.2.2.2))]) (rfl) (rfl) (L98 _ 0 (by omega) rfl)
        · skip
          refine j_aload_n (pc := 64) hX dX7_begin_64 0 rfl ?_
          refine j_iconst (v := 1) (pc := 65) hX dX7_begin_65 (by decide) ?_
          refine j_iload_n (pc := 66) hX dX7_begin_66 2 rfl ?_
          refine j_ishl (pc := 67) hX dX7_begin_67 ?_
          refine j_top (b := bI i) rfl ?_
          refine j_aload_n (pc := 68) hX dX7_begin_68 1 rfl ?_
          refine j_getN (ci := 6) (pc := 69) hX inG6 rfl 2 (by decide) mw49 8 rfl rfl dX7_begin_69 ?_
          refine j_iload_n (pc := 72) hX dX7_begin_72 2 rfl ?_
          refine j_iald (pc := 73) hX 9 rfl i rfl (by omega) (by omega) dX7_begin_73 ?_
          refine j_aload_n (pc := 74) hX dX7_begin_74 1 rfl ?_
          refine j_getN (ci := 6) (pc := 75) hX inG6 rfl 3 (by decide) mw54 8 rfl rfl dX7_begin_75 ?_
          refine j_iload_n (pc := 78) hX dX7_begin_78 2 rfl ?_
          refine j_iald (pc := 79) hX 10 rfl i rfl (by omega) (by omega) dX7_begin_79 ?_
          refine j_callVV (n := 3) (As := [.int (bI i), .int (v.2.2.1 i), .int (v.2.2.2.1 i)]) (rest := []) (pc := 80) hX (c_X7_noteFree g k k1 k2 k3 k4 k5 k6 k7 (wS v i (w0 v z)) (bI i) (v.2.2.1 i) (v.2.2.2.1 i) (hfr5)) (CV.of mw405 mw406 mw8 mw21 mw407 ⟨rfl, by decide +kernel, by decide +kernel, by decide +kernel⟩ (T := TX7) (N := 9) rfl) (Nat.le_of_ble_eq_true rfl) (Nat.le_of_ble_eq_true rfl) (Nat.le_of_ble_eq_true rfl) (Nat.le_of_ble_eq_true rfl) 0 rfl [0, 1, 2, 3, 4, 5, 6, 7] (by decide +kernel) rfl rfl rfl (Nat.le_of_ble_eq_true rfl) dX7_begin_80 (fun wz wnz hq16 => ?_)
          obtain ⟨rfl, rfl⟩ := hq16
          refine j_ws (ws2 := [(k, .inr (7, [.int ((nF (wS v i (w0 v z)) (bI i) (v.2.2.1 i) (v.2.2.2.1 i)).1), .int (nI ((nF (wS v i (w0 v z)) (bI i) (v.2.2.1 i) (v.2.2.2.1 i)).2.1)), .ref k1, .ref k2, .ref k3, .ref k4, .ref k5, .ref k6, .ref k7])), (k1, .inl (gI g, 14, .inl ((nF (wS v i (w0 v z)) (bI i) (v.2.2.1 i) (v.2.2.2.1 i)).2.2.1))), (k2, .inl (gI g, 14, .inl ((nF (wS v i (w0 v z)) (bI i) (v.2.2.1 i) (v.2.2.2.1 i)).2.2.2.1))), (k3, .inl (gI g, 14, .inl ((nF (wS v i (w0 v z)) (bI i) (v.2.2.1 i) (v.2.2.2.1 i)).2.2.2.2.1))), (k4, .inl (gI g, 15, .inl ((nF (wS v i (w0 v z)) (bI i) (v.2.2.1 i) (v.2.2.2.1 i)).2.2.2.2.2.1))), (k5, .inl (gI g, 15, .inl ((nF (wS v i (w0 v z)) (bI i) (v.2.2.1 i) (v.2.2.2.1 i)).2.2.2.2.2.2.1))), (k6, .inl (gI g, 15, .inl ((nF (wS v i (w0 v z)) (bI i) (v.2.2.1 i) (v.2.2.2.1 i)).2.2.2.2.2.2.2.1))), (k7, .inl (gI g, 15, .inl ((nF (wS v i (w0 v z)) (bI i) (v.2.2.1 i) (v.2.2.2.1 i)).2.2.2.2.2.2.2.2))), (q.1, .inr (6, [.int v.1, .int (nI v.2.1), .ref q.2.1, .ref q.2.2.1, .ref q.2.2.2])), (q.2.1, .inl (gI g, 14, .inl v.2.2.1)), (q.2.2.1, .inl (gI g, 14, .inl v.2.2.2.1)), (q.2.2.2, .inl (gI g, 14, .inl v.2.2.2.2))]) rfl ?_
          refine j_goto (tgt := 131) (pc := 83) hX dX7_begin_83 (by decide) ?_
          refine j_iinc (v := nI (i + 1)) (lv2 := [(0, .ref k), (1, .ref q.1), (2, .int (nI (i + 1)))]) (pc := 131) hX dX7_begin_131 2 rfl (nI_add i 1) [1, 2, 0] (by decide) rfl ?_
          refine j_goto (tgt := 47) (pc := 134) hX dX7_begin_134 (by decide) ?_
          exact j_eq (lv2 := [(0, .ref k), (1, .ref q.1), (2, .int (nI (i + 1)))]) (ws2 := [(k, .inr (7, [.int ((wS v (i + 1) (w0 v z)).1), .int (nI ((wS v (i + 1) (w0 v z)).2.1)), .ref k1, .ref k2, .ref k3, .ref k4, .ref k5, .ref k6, .ref k7])), (k1, .inl (gI g, 14, .inl ((wS v (i + 1) (w0 v z)).2.2.1))), (k2, .inl (gI g, 14, .inl ((wS v (i + 1) (w0 v z)).2.2.2.1))), (k3, .inl (gI g, 14, .inl ((wS v (i + 1) (w0 v z)).2.2.2.2.1))), (k4, .inl (gI g, 15, .inl ((wS v (i + 1) (w0 v z)).2.2.2.2.2.1))), (k5, .inl (gI g, 15, .inl ((wS v (i + 1) (w0 v z)).2.2.2.2.2.2.1))), (k6, .inl (gI g, 15, .inl ((wS v (i + 1) (w0 v z)).2.2.2.2.2.2.2.1))), (k7, .inl (gI g, 15, .inl ((wS v (i + 1) (w0 v z)).2.2.2.2.2.2.2.2))), (q.1, .inr (6, [.int v.1, .int (nI v.2.1), .ref q.2.1, .ref q.2.2.1, .ref q.2.2.2])), (q.2.1, .inl (gI g, 14, .inl v.2.2.1)), (q.2.2.1, .inl (gI g, 14, .inl v.2.2.2.1)), (q.2.2.2, .inl (gI g, 14, .inl v.2.2.2.2))]) (by first | rfl | (simp only [wS, c52_9, c52_9n, c52_9m, c61_10, reduceIte, eq_self]; first | done | rfl)) (by first | rfl | (simp only [wS, c52_9, c52_9n, c52_9m, c61_10, reduceIte, eq_self]; first | done | rfl)) (ih47 _ (by omega) (i + 1) (by omega) rfl)
  exact j_eq (lv2 := [(0, .ref k), (1, .ref q.1), (2, .int (nI 0))]) (ws2 := [(k, .inr (7, [.int ((wS v 0 (w0 v z)).1), .int (nI ((wS v 0 (w0 v z)).2.1)), .ref k1, .ref k2, .ref k3, .ref k4, .ref k5, .ref k6, .ref k7])), (k1, .inl (gI g, 14, .inl ((wS v 0 (w0 v z)).2.2.1))), (k2, .inl (gI g, 14, .inl ((wS v 0 (w0 v z)).2.2.2.1))), (k3, .inl (gI g, 14, .inl ((wS v 0 (w0 v z)).2.2.2.2.1))), (k4, .inl (gI g, 15, .inl ((wS v 0 (w0 v z)).2.2.2.2.2.1))), (k5, .inl (gI g, 15, .inl ((wS v 0 (w0 v z)).2.2.2.2.2.2.1))), (k6, .inl (gI g, 15, .inl ((wS v 0 (w0 v z)).2.2.2.2.2.2.2.1))), (k7, .inl (gI g, 15, .inl ((wS v 0 (w0 v z)).2.2.2.2.2.2.2.2))), (q.1, .inr (6, [.int v.1, .int (nI v.2.1), .ref q.2.1, .ref q.2.2.1, .ref q.2.2.2])), (q.2.1, .inl (gI g, 14, .inl v.2.2.1)), (q.2.2.1, .inl (gI g, 14, .inl v.2.2.2.1)), (q.2.2.2, .inl (gI g, 14, .inl v.2.2.2.2))]) (rfl) (rfl) (L47 _ 0 (by omega) rfl)

set_option maxHeartbeats 4000000 in
set_option maxRecDepth 100000 in
theorem c_X7_goTo (g : jG) (k : Nat) (k1 : Nat) (k2 : Nat) (k3 : Nat) (k4 : Nat) (k5 : Nat) (k6 : Nat) (k7 : Nat) (z : WT) (t : Nat) (hs : t < 16384) (hf : z.2.1 ≤ 14) : jMV g yX7_goTo cX7_goTo 4 1 25 0 0 [.ref k, .int (nI t)] [(k, .inr (7, [.int z.1, .int (nI z.2.1), .ref k1, .ref k2, .ref k3, .ref k4, .ref k5, .ref k6, .ref k7])), (k1, .inl (gI g, 14, .inl z.2.2.1)), (k2, .inl (gI g, 14, .inl z.2.2.2.1)), (k3, .inl (gI g, 14, .inl z.2.2.2.2.1)), (k4, .inl (gI g, 15, .inl z.2.2.2.2.2.1)), (k5, .inl (gI g, 15, .inl z.2.2.2.2.2.2.1)), (k6, .inl (gI g, 15, .inl z.2.2.2.2.2.2.2.1)), (k7, .inl (gI g, 15, .inl z.2.2.2.2.2.2.2.2))] (fun wz wzn => wz = [(k, .inr (7, [.int ((gT z t).1), .int (nI ((gT z t).2.1)), .ref k1, .ref k2, .ref k3, .ref k4, .ref k5, .ref k6, .ref k7])), (k1, .inl (gI g, 14, .inl ((gT z t).2.2.1))), (k2, .inl (gI g, 14, .inl ((gT z t).2.2.2.1))), (k3, .inl (gI g, 14, .inl ((gT z t).2.2.2.2.1))), (k4, .inl (gI g, 15, .inl ((gT z t).2.2.2.2.2.1))), (k5, .inl (gI g, 15, .inl ((gT z t).2.2.2.2.2.2.1))), (k6, .inl (gI g, 15, .inl ((gT z t).2.2.2.2.2.2.2.1))), (k7, .inl (gI g, 15, .inl ((gT z t).2.2.2.2.2.2.2.2)))] ∧ wzn = []) := by
  refine jMV.intro (by decide +kernel) (Nat.le_of_ble_eq_true rfl) (fun x hX hQ hN => ?_)
  refine j_lv (lv2 := [(0, .ref k), (1, .int (nI t))]) rfl ?_
  refine j_iload_n (pc := 0) hX dX7_goTo_0 1 rfl ?_
  refine j_callSI (n := 1) (As := [.int (nI t)]) (rest := []) (pc := 1) hX (c_J6_ntz g (nI t) ) (CS.of mw416 mw417 mw22 mw418 ⟨by decide +kernel, by decide +kernel, by decide +kernel⟩) (Nat.le_of_ble_eq_true rfl) (Nat.le_of_ble_eq_true rfl) (Nat.le_of_ble_eq_true rfl) (Nat.le_of_ble_eq_true rfl) [] (by decide +kernel) rfl rfl rfl (Nat.le_of_ble_eq_true rfl) dX7_goTo_1 (fun r1 wz hq2 => ?_)
  obtain ⟨rfl, rfl⟩ := hq2
  refine j_ws (ws2 := [(k, .inr (7, [.int z.1, .int (nI z.2.1), .ref k1, .ref k2, .ref k3, .ref k4, .ref k5, .ref k6, .ref k7])), (k1, .inl (gI g, 14, .inl z.2.2.1)), (k2, .inl (gI g, 14, .inl z.2.2.2.1)), (k3, .inl (gI g, 14, .inl z.2.2.2.2.1)), (k4, .inl (gI g, 15, .inl z.2.2.2.2.2.1)), (k5, .inl (gI g, 15, .inl z.2.2.2.2.2.2.1)), (k6, .inl (gI g, 15, .inl z.2.2.2.2.2.2.2.1)), (k7, .inl (gI g, 15, .inl z.2.2.2.2.2.2.2.2))]) rfl ?_
  refine j_top (b := nI (tz t)) (tz_c hs) ?_
  have hz5 := tz_le t
  refine j_istore_n (lv2 := [(0, .ref k), (1, .int (nI t)), (2, .int (nI (tz t)))]) (pc := 4) hX dX7_goTo_4 [1, 2, 0] (by decide) rfl ?_
  refine j_iload_n (pc := 5) hX dX7_goTo_5 2 rfl ?_
  refine j_aload_n (pc := 6) hX dX7_goTo_6 0 rfl ?_
  refine j_get (ci := 7) (pc := 7) hX inG7 rfl 1 (by decide) mw177 0 rfl rfl dX7_goTo_7 ?_
  refine j_icmp_ge (tgt := 19) (pc := 10) hX dX7_goTo_10 (by decide) (fun c10_3 => ?_) (fun c10_3 => ?_)
  · skip
    have c10_3n : z.2.1 ≤ (tz t) := (nI_leI (a := z.2.1) (b := (tz t)) (by omega) (by omega)).mp c10_3
    have c10_3m : ¬ (tz t) < z.2.1 := by omega
    exact j_vret (pc := 19) hX hQ dX7_goTo_19 [(k, .inr (7, [.int z.1, .int (nI z.2.1), .ref k1, .ref k2, .ref k3, .ref k4, .ref k5, .ref k6, .ref k7])), (k1, .inl (gI g, 14, .inl z.2.2.1)), (k2, .inl (gI g, 14, .inl z.2.2.2.1)), (k3, .inl (gI g, 14, .inl z.2.2.2.2.1)), (k4, .inl (gI g, 15, .inl z.2.2.2.2.2.1)), (k5, .inl (gI g, 15, .inl z.2.2.2.2.2.2.1)), (k6, .inl (gI g, 15, .inl z.2.2.2.2.2.2.2.1)), (k7, .inl (gI g, 15, .inl z.2.2.2.2.2.2.2.2))] [] rfl rfl ⟨(by simp only [gT, c10_3, c10_3n, c10_3m, reduceIte]), (rfl)⟩
  · skip
    have c10_3n : ¬ z.2.1 ≤ (tz t) := fun h9 => c10_3 ((nI_leI (a := z.2.1) (b := (tz t)) (by omega) (by omega)).mpr h9)
    have c10_3m : (tz t) < z.2.1 := by omega
    refine j_iload_n (pc := 13) hX dX7_goTo_13 2 rfl ?_
    refine j_bipush (v := 14) (pc := 14) hX dX7_goTo_14 (by decide) ?_
    refine j_icmp_lt (tgt := 20) (pc := 16) hX dX7_goTo_16 (by decide) (fun c16_4 => ?_) (fun c16_4 => ?_)
    · skip
      have c16_4n : (tz t) < 14 := (nI_ltI (a := (tz t)) (b := 14) (by omega) (by omega)).mp c16_4
      have c16_4m : ¬ 14 ≤ (tz t) := by omega
      refine j_aload_n (pc := 20) hX dX7_goTo_20 0 rfl ?_
      refine j_iload_n (pc := 21) hX dX7_goTo_21 2 rfl ?_
      refine j_iload_n (pc := 22) hX dX7_goTo_22 2 rfl ?_
      refine j_iconst (v := 1) (pc := 23) hX dX7_goTo_23 (by decide) ?_
      refine j_iadd (pc := 24) hX dX7_goTo_24 ?_
      refine j_top (b := nI ((tz t) + 1)) (nI_add (tz t) 1) ?_
      refine j_aload_n (pc := 25) hX dX7_goTo_25 0 rfl ?_
      refine j_get (ci := 7) (pc := 26) hX inG7 rfl 4 (by decide) mw180 0 rfl rfl dX7_goTo_26 ?_
      refine j_iload_n (pc := 29) hX dX7_goTo_29 2 rfl ?_
      refine j_iald (pc := 30) hX 3 rfl (tz t) rfl (by omega) (by omega) dX7_goTo_30 ?_
      refine j_aload_n (pc := 31) hX dX7_goTo_31 0 rfl ?_
      refine j_get (ci := 7) (pc := 32) hX inG7 rfl 2 (by decide) mw178 0 rfl rfl dX7_goTo_32 ?_
      refine j_iload_n (pc := 35) hX dX7_goTo_35 2 rfl ?_
      refine j_iald (pc := 36) hX 1 rfl (tz t) rfl (by omega) (by omega) dX7_goTo_36 ?_
      refine j_aload_n (pc := 37) hX dX7_goTo_37 0 rfl ?_
      refine j_get (ci := 7) (pc := 38) hX inG7 rfl 3 (by decide) mw179 0 rfl rfl dX7_goTo_38 ?_
      refine j_iload_n (pc := 41) hX dX7_goTo_41 2 rfl ?_
      refine j_iald (pc := 42) hX 2 rfl (tz t) rfl (by omega) (by omega) dX7_goTo_42 ?_
      refine j_callVV (n := 5) (As := [.int (nI (tz t)), .int (nI ((tz t) + 1)), .int (z.2.2.2.2.1 (tz t)), .int (z.2.2.1 (tz t)), .int (z.2.2.2.1 (tz t))]) (rest := []) (pc := 43) hX (c_X7_join g k k1 k2 k3 k4 k5 k6 k7 z (tz t) ((tz t) + 1) (z.2.2.2.2.1 (tz t)) (z.2.2.1 (tz t)) (z.2.2.2.1 (tz t)) (by first | assumption | omega) (by first | assumption | omega)) (CV.of mw408 mw409 mw9 mw21 mw410 ⟨rfl, by decide +kernel, by decide +kernel, by decide +kernel⟩ (T := TX7) (N := 9) rfl) (Nat.le_of_ble_eq_true rfl) (Nat.le_of_ble_eq_true rfl) (Nat.le_of_ble_eq_true rfl) (Nat.le_of_ble_eq_true rfl) 0 rfl [0, 1, 2, 3, 4, 5, 6, 7] (by decide +kernel) rfl rfl rfl (Nat.le_of_ble_eq_true rfl) dX7_goTo_43 (fun wz wnz hq6 => ?_)
      obtain ⟨rfl, rfl⟩ := hq6
      refine j_ws (ws2 := [(k, .inr (7, [.int ((jn z (tz t) ((tz t) + 1) (z.2.2.2.2.1 (tz t)) (z.2.2.1 (tz t)) (z.2.2.2.1 (tz t))).1), .int (nI ((jn z (tz t) ((tz t) + 1) (z.2.2.2.2.1 (tz t)) (z.2.2.1 (tz t)) (z.2.2.2.1 (tz t))).2.1)), .ref k1, .ref k2, .ref k3, .ref k4, .ref k5, .ref k6, .ref k7])), (k1, .inl (gI g, 14, .inl ((jn z (tz t) ((tz t) + 1) (z.2.2.2.2.1 (tz t)) (z.2.2.1 (tz t)) (z.2.2.2.1 (tz t))).2.2.1))), (k2, .inl (gI g, 14, .inl ((jn z (tz t) ((tz t) + 1) (z.2.2.2.2.1 (tz t)) (z.2.2.1 (tz t)) (z.2.2.2.1 (tz t))).2.2.2.1))), (k3, .inl (gI g, 14, .inl ((jn z (tz t) ((tz t) + 1) (z.2.2.2.2.1 (tz t)) (z.2.2.1 (tz t)) (z.2.2.2.1 (tz t))).2.2.2.2.1))), (k4, .inl (gI g, 15, .inl ((jn z (tz t) ((tz t) + 1) (z.2.2.2.2.1 (tz t)) (z.2.2.1 (tz t)) (z.2.2.2.1 (tz t))).2.2.2.2.2.1))), (k5, .inl (gI g, 15, .inl ((jn z (tz t) ((tz t) + 1) (z.2.2.2.2.1 (tz t)) (z.2.2.1 (tz t)) (z.2.2.2.1 (tz t))).2.2.2.2.2.2.1))), (k6, .inl (gI g, 15, .inl ((jn z (tz t) ((tz t) + 1) (z.2.2.2.2.1 (tz t)) (z.2.2.1 (tz t)) (z.2.2.2.1 (tz t))).2.2.2.2.2.2.2.1))), (k7, .inl (gI g, 15, .inl ((jn z (tz t) ((tz t) + 1) (z.2.2.2.2.1 (tz t)) (z.2.2.1 (tz t)) (z.2.2.2.1 (tz t))).2.2.2.2.2.2.2.2)))]) rfl ?_
      refine j_iconst (v := 0) (pc := 46) hX dX7_goTo_46 (by decide) ?_
      refine j_istore_n (lv2 := [(0, .ref k), (1, .int (nI t)), (2, .int (nI (tz t))), (3, .int 0)]) (pc := 47) hX dX7_goTo_47 [1, 2, 3, 0] (by decide) rfl ?_
      have L48 : ∀ (d : Nat) (l : Nat), l ≤ tz t → tz t - l = d → J g x 4 0 0 48 [(0, .ref k), (1, .int (nI t)), (2, .int (nI (tz t))), (3, .int (nI l))] [] [(k, .inr (7, [.int ((gL (jn z (tz t) (tz t + 1) (z.2.2.2.2.1 (tz t)) (z.2.2.1 (tz t)) (z.2.2.2.1 (tz t))) (tz t) l).1), .int (nI ((gL (jn z (tz t) (tz t + 1) (z.2.2.2.2.1 (tz t)) (z.2.2.1 (tz t)) (z.2.2.2.1 (tz t))) (tz t) l).2.1)), .ref k1, .ref k2, .ref k3, .ref k4, .ref k5, .ref k6, .ref k7])), (k1, .inl (gI g, 14, .inl ((gL (jn z (tz t) (tz t + 1) (z.2.2.2.2.1 (tz t)) (z.2.2.1 (tz t)) (z.2.2.2.1 (tz t))) (tz t) l).2.2.1))), (k2, .inl (gI g, 14, .inl ((gL (jn z (tz t) (tz t + 1) (z.2.2.2.2.1 (tz t)) (z.2.2.1 (tz t)) (z.2.2.2.1 (tz t))) (tz t) l).2.2.2.1))), (k3, .inl (gI g, 14, .inl ((gL (jn z (tz t) (tz t + 1) (z.2.2.2.2.1 (tz t)) (z.2.2.1 (tz t)) (z.2.2.2.1 (tz t))) (tz t) l).2.2.2.2.1))), (k4, .inl (gI g, 15, .inl ((gL (jn z (tz t) (tz t + 1) (z.2.2.2.2.1 (tz t)) (z.2.2.1 (tz t)) (z.2.2.2.1 (tz t))) (tz t) l).2.2.2.2.2.1))), (k5, .inl (gI g, 15, .inl ((gL (jn z (tz t) (tz t + 1) (z.2.2.2.2.1 (tz t)) (z.2.2.1 (tz t)) (z.2.2.2.1 (tz t))) (tz t) l).2.2.2.2.2.2.1))), (k6, .inl (gI g, 15, .inl ((gL (jn z (tz t) (tz t + 1) (z.2.2.2.2.1 (tz t)) (z.2.2.1 (tz t)) (z.2.2.2.1 (tz t))) (tz t) l).2.2.2.2.2.2.2.1))), (k7, .inl (gI g, 15, .inl ((gL (jn z (tz t) (tz t + 1) (z.2.2.2.2.1 (tz t)) (z.2.2.1 (tz t)) (z.2.2.2.1 (tz t))) (tz t) l).2.2.2.2.2.2.2.2)))] := by
        intro d
        induction d using Nat.strongRecOn with
        | _ d ih48 =>
          intro l hl hd48
          refine j_iload_n (pc := 48) hX dX7_goTo_48 3 rfl ?_
          refine j_iload_n (pc := 49) hX dX7_goTo_49 2 rfl ?_
          refine j_icmp_ge (tgt := 68) (pc := 50) hX dX7_goTo_50 (by decide) (fun c50_7 => ?_) (fun c50_7 => ?_)
          · skip
            have c50_7n : (tz t) ≤ l := (nI_leI (a := (tz t)) (b := l) (by omega) (by omega)).mp c50_7
            have c50_7m : ¬ l < (tz t) := by omega
            exact j_vret (pc := 68) hX hQ dX7_goTo_68 [(k, .inr (7, [.int ((gL (jn z (tz t) (tz t + 1) (z.2.2.2.2.1 (tz t)) (z.2.2.1 (tz t)) (z.2.2.2.1 (tz t))) (tz t) l).1), .int (nI ((gL (jn z (tz t) (tz t + 1) (z.2.2.2.2.1 (tz t)) (z.2.2.1 (tz t)) (z.2.2.2.1 (tz t))) (tz t) l).2.1)), .ref k1, .ref k2, .ref k3, .ref k4, .ref k5, .ref k6, .ref k7])), (k1, .inl (gI g, 14, .inl ((gL (jn z (tz t) (tz t + 1) (z.2.2.2.2.1 (tz t)) (z.2.2.1 (tz t)) (z.2.2.2.1 (tz t))) (tz t) l).2.2.1))), (k2, .inl (gI g, 14, .inl ((gL (jn z (tz t) (tz t + 1) (z.2.2.2.2.1 (tz t)) (z.2.2.1 (tz t)) (z.2.2.2.1 (tz t))) (tz t) l).2.2.2.1))), (k3, .inl (gI g, 14, .inl ((gL (jn z (tz t) (tz t + 1) (z.2.2.2.2.1 (tz t)) (z.2.2.1 (tz t)) (z.2.2.2.1 (tz t))) (tz t) l).2.2.2.2.1))), (k4, .inl (gI g, 15, .inl ((gL (jn z (tz t) (tz t + 1) (z.2.2.2.2.1 (tz t)) (z.2.2.1 (tz t)) (z.2.2.2.1 (tz t))) (tz t) l).2.2.2.2.2.1))), (k5, .inl (gI g, 15, .inl ((gL (jn z (tz t) (tz t + 1) (z.2.2.2.2.1 (tz t)) (z.2.2.1 (tz t)) (z.2.2.2.1 (tz t))) (tz t) l).2.2.2.2.2.2.1))), (k6, .inl (gI g, 15, .inl ((gL (jn z (tz t) (tz t + 1) (z.2.2.2.2.1 (tz t)) (z.2.2.1 (tz t)) (z.2.2.2.1 (tz t))) (tz t) l).2.2.2.2.2.2.2.1))), (k7, .inl (gI g, 15, .inl ((gL (jn z (tz t) (tz t + 1) (z.2.2.2.2.1 (tz t)) (z.2.2.1 (tz t)) (z.2.2.2.1 (tz t))) (tz t) l).2.2.2.2.2.2.2.2)))] [] rfl rfl ⟨(by rw [show l = tz t by omega]; simp only [gT, c10_3, c10_3n, c10_3m, c16_4, c16_4n, c16_4m, reduceIte]), (rfl)⟩
          · skip
            have c50_7n : ¬ (tz t) ≤ l := fun h9 => c50_7 ((nI_leI (a := (tz t)) (b := l) (by omega) (by omega)).mpr h9)
            have c50_7m : l < (tz t) := by omega
            refine j_aload_n (pc := 53) hX dX7_goTo_53 0 rfl ?_
            refine j_iload_n (pc := 54) hX dX7_goTo_54 3 rfl ?_
            refine j_iload_n (pc := 55) hX dX7_goTo_55 2 rfl ?_
            refine j_iconst (v := 0) (pc := 56) hX dX7_goTo_56 (by decide) ?_
            refine j_iconst (v := 0) (pc := 57) hX dX7_goTo_57 (by decide) ?_
            refine j_iconst (v := 0) (pc := 58) hX dX7_goTo_58 (by decide) ?_
            refine j_callVV (n := 5) (As := [.int (nI l), .int (nI (tz t)), .int 0, .int 0, .int 0]) (rest := []) (pc := 59) hX (c_X7_join g k k1 k2 k3 k4 k5 k6 k7 (gL (jn z (tz t) (tz t + 1) (z.2.2.2.2.1 (tz t)) (z.2.2.1 (tz t)) (z.2.2.2.1 (tz t))) (tz t) l) l (tz t) 0 0 0 (by first | assumption | omega) (by first | assumption | omega)) (CV.of mw408 mw409 mw9 mw21 mw410 ⟨rfl, by decide +kernel, by decide +kernel, by decide +kernel⟩ (T := TX7) (N := 9) rfl) (Nat.le_of_ble_eq_true rfl) (Nat.le_of_ble_eq_true rfl) (Nat.le_of_ble_eq_true rfl) (Nat.le_of_ble_eq_true rfl) 0 rfl [0, 1, 2, 3, 4, 5, 6, 7] (by decide +kernel) rfl rfl rfl (Nat.le_of_ble_eq_true rfl) dX7_goTo_59 (fun wz wnz hq9 => ?_)
            obtain ⟨rfl, rfl⟩ := hq9
            refine j_ws (ws2 := [(k, .inr (7, [.int ((jn (gL (jn z (tz t) (tz t + 1) (z.2.2.2.2.1 (tz t)) (z.2.2.1 (tz t)) (z.2.2.2.1 (tz t))) (tz t) l) l (tz t) 0 0 0).1), .int (nI ((jn (gL (jn z (tz t) (tz t + 1) (z.2.2.2.2.1 (tz t)) (z.2.2.1 (tz t)) (z.2.2.2.1 (tz t))) (tz t) l) l (tz t) 0 0 0).2.1)), .ref k1, .ref k2, .ref k3, .ref k4, .ref k5, .ref k6, .ref k7])), (k1, .inl (gI g, 14, .inl ((jn (gL (jn z (tz t) (tz t + 1) (z.2.2.2.2.1 (tz t)) (z.2.2.1 (tz t)) (z.2.2.2.1 (tz t))) (tz t) l) l (tz t) 0 0 0).2.2.1))), (k2, .inl (gI g, 14, .inl ((jn (gL (jn z (tz t) (tz t + 1) (z.2.2.2.2.1 (tz t)) (z.2.2.1 (tz t)) (z.2.2.2.1 (tz t))) (tz t) l) l (tz t) 0 0 0).2.2.2.1))), (k3, .inl (gI g, 14, .inl ((jn (gL (jn z (tz t) (tz t + 1) (z.2.2.2.2.1 (tz t)) (z.2.2.1 (tz t)) (z.2.2.2.1 (tz t))) (tz t) l) l (tz t) 0 0 0).2.2.2.2.1))), (k4, .inl (gI g, 15, .inl ((jn (gL (jn z (tz t) (tz t + 1) (z.2.2.2.2.1 (tz t)) (z.2.2.1 (tz t)) (z.2.2.2.1 (tz t))) (tz t) l) l (tz t) 0 0 0).2.2.2.2.2.1))), (k5, .inl (gI g, 15, .inl ((jn (gL (jn z (tz t) (tz t + 1) (z.2.2.2.2.1 (tz t)) (z.2.2.1 (tz t)) (z.2.2.2.1 (tz t))) (tz t) l) l (tz t) 0 0 0).2.2.2.2.2.2.1))), (k6, .inl (gI g, 15, .inl ((jn (gL (jn z (tz t) (tz t + 1) (z.2.2.2.2.1 (tz t)) (z.2.2.1 (tz t)) (z.2.2.2.1 (tz t))) (tz t) l) l (tz t) 0 0 0).2.2.2.2.2.2.2.1))), (k7, .inl (gI g, 15, .inl ((jn (gL (jn z (tz t) (tz t + 1) (z.2.2.2.2.1 (tz t)) (z.2.2.1 (tz t)) (z.2.2.2.1 (tz t))) (tz t) l) l (tz t) 0 0 0).2.2.2.2.2.2.2.2)))]) rfl ?_
            refine j_iinc (v := nI (l + 1)) (lv2 := [(0, .ref k), (1, .int (nI t)), (2, .int (nI (tz t))), (3, .int (nI (l + 1)))]) (pc := 62) hX dX7_goTo_62 3 rfl (nI_add l 1) [1, 2, 3, 0] (by decide) rfl ?_
            refine j_goto (tgt := 48) (pc := 65) hX dX7_goTo_65 (by decide) ?_
            exact j_eq (lv2 := [(0, .ref k), (1, .int (nI t)), (2, .int (nI (tz t))), (3, .int (nI (l + 1)))]) (ws2 := [(k, .inr (7, [.int ((gL (jn z (tz t) (tz t + 1) (z.2.2.2.2.1 (tz t)) (z.2.2.1 (tz t)) (z.2.2.2.1 (tz t))) (tz t) (l + 1)).1), .int (nI ((gL (jn z (tz t) (tz t + 1) (z.2.2.2.2.1 (tz t)) (z.2.2.1 (tz t)) (z.2.2.2.1 (tz t))) (tz t) (l + 1)).2.1)), .ref k1, .ref k2, .ref k3, .ref k4, .ref k5, .ref k6, .ref k7])), (k1, .inl (gI g, 14, .inl ((gL (jn z (tz t) (tz t + 1) (z.2.2.2.2.1 (tz t)) (z.2.2.1 (tz t)) (z.2.2.2.1 (tz t))) (tz t) (l + 1)).2.2.1))), (k2, .inl (gI g, 14, .inl ((gL (jn z (tz t) (tz t + 1) (z.2.2.2.2.1 (tz t)) (z.2.2.1 (tz t)) (z.2.2.2.1 (tz t))) (tz t) (l + 1)).2.2.2.1))), (k3, .inl (gI g, 14, .inl ((gL (jn z (tz t) (tz t + 1) (z.2.2.2.2.1 (tz t)) (z.2.2.1 (tz t)) (z.2.2.2.1 (tz t))) (tz t) (l + 1)).2.2.2.2.1))), (k4, .inl (gI g, 15, .inl ((gL (jn z (tz t) (tz t + 1) (z.2.2.2.2.1 (tz t)) (z.2.2.1 (tz t)) (z.2.2.2.1 (tz t))) (tz t) (l + 1)).2.2.2.2.2.1))), (k5, .inl (gI g, 15, .inl ((gL (jn z (tz t) (tz t + 1) (z.2.2.2.2.1 (tz t)) (z.2.2.1 (tz t)) (z.2.2.2.1 (tz t))) (tz t) (l + 1)).2.2.2.2.2.2.1))), (k6, .inl (gI g, 15, .inl ((gL (jn z (tz t) (tz t + 1) (z.2.2.2.2.1 (tz t)) (z.2.2.1 (tz t)) (z.2.2.2.1 (tz t))) (tz t) (l + 1)).2.2.2.2.2.2.2.1))), (k7, .inl (gI g, 15, .inl ((gL (jn z (tz t) (tz t + 1) (z.2.2.2.2.1 (tz t)) (z.2.2.1 (tz t)) (z.2.2.2.1 (tz t))) (tz t) (l + 1)).2.2.2.2.2.2.2.2)))]) (by first | rfl | first | (simp only [jb_t, jb_f, gT, c10_3, c10_3n, c10_3m, c16_4, c16_4n, c16_4m, c50_7, c50_7n, c50_7m, reduceIte, eq_self, decide_true, decide_false, Bool.and_true, Bool.true_and, Bool.and_false, Bool.false_and, Bool.and_self, not_true_eq_false, not_false_eq_true, and_true, true_and, and_false, false_and, and_self]; done) | (simp [jb_t, jb_f, gT, c10_3, c10_3n, c10_3m, c16_4, c16_4n, c16_4m, c50_7, c50_7n, c50_7m]; done)) (by first | rfl | first | (simp only [jb_t, jb_f, gT, c10_3, c10_3n, c10_3m, c16_4, c16_4n, c16_4m, c50_7, c50_7n, c50_7m, reduceIte, eq_self, decide_true, decide_false, Bool.and_true, Bool.true_and, Bool.and_false, Bool.false_and, Bool.and_self, not_true_eq_false, not_false_eq_true, and_true, true_and, and_false, false_and, and_self]; done) | (simp [jb_t, jb_f, gT, c10_3, c10_3n, c10_3m, c16_4, c16_4n, c16_4m, c50_7, c50_7n, c50_7m]; done)) (ih48 _ (by omega) (l + 1) (by omega) rfl)
      exact j_eq (lv2 := [(0, .ref k), (1, .int (nI t)), (2, .int (nI (tz t))), (3, .int (nI 0))]) (ws2 := [(k, .inr (7, [.int ((gL (jn z (tz t) (tz t + 1) (z.2.2.2.2.1 (tz t)) (z.2.2.1 (tz t)) (z.2.2.2.1 (tz t))) (tz t) 0).1), .int (nI ((gL (jn z (tz t) (tz t + 1) (z.2.2.2.2.1 (tz t)) (z.2.2.1 (tz t)) (z.2.2.2.1 (tz t))) (tz t) 0).2.1)), .ref k1, .ref k2, .ref k3, .ref k4, .ref k5, .ref k6, .ref k7])), (k1, .inl (gI g, 14, .inl ((gL (jn z (tz t) (tz t + 1) (z.2.2.2.2.1 (tz t)) (z.2.2.1 (tz t)) (z.2.2.2.1 (tz t))) (tz t) 0).2.2.1))), (k2, .inl (gI g, 14, .inl ((gL (jn z (tz t) (tz t + 1) (z.2.2.2.2.1 (tz t)) (z.2.2.1 (tz t)) (z.2.2.2.1 (tz t))) (tz t) 0).2.2.2.1))), (k3, .inl (gI g, 14, .inl ((gL (jn z (tz t) (tz t + 1) (z.2.2.2.2.1 (tz t)) (z.2.2.1 (tz t)) (z.2.2.2.1 (tz t))) (tz t) 0).2.2.2.2.1))), (k4, .inl (gI g, 15, .inl ((gL (jn z (tz t) (tz t + 1) (z.2.2.2.2.1 (tz t)) (z.2.2.1 (tz t)) (z.2.2.2.1 (tz t))) (tz t) 0).2.2.2.2.2.1))), (k5, .inl (gI g, 15, .inl ((gL (jn z (tz t) (tz t + 1) (z.2.2.2.2.1 (tz t)) (z.2.2.1 (tz t)) (z.2.2.2.1 (tz t))) (tz t) 0).2.2.2.2.2.2.1))), (k6, .inl (gI g, 15, .inl ((gL (jn z (tz t) (tz t + 1) (z.2.2.2.2.1 (tz t)) (z.2.2.1 (tz t)) (z.2.2.2.1 (tz t))) (tz t) 0).2.2.2.2.2.2.2.1))), (k7, .inl (gI g, 15, .inl ((gL (jn z (tz t) (tz t + 1) (z.2.2.2.2.1 (tz t)) (z.2.2.1 (tz t)) (z.2.2.2.1 (tz t))) (tz t) 0).2.2.2.2.2.2.2.2)))]) (rfl) (rfl) (L48 _ 0 (by omega) rfl)
    · skip
      have c16_4n : ¬ (tz t) < 14 := fun h9 => c16_4 ((nI_ltI (a := (tz t)) (b := 14) (by omega) (by omega)).mpr h9)
      have c16_4m : 14 ≤ (tz t) := by omega
      exact j_vret (pc := 19) hX hQ dX7_goTo_19 [(k, .inr (7, [.int z.1, .int (nI z.2.1), .ref k1, .ref k2, .ref k3, .ref k4, .ref k5, .ref k6, .ref k7])), (k1, .inl (gI g, 14, .inl z.2.2.1)), (k2, .inl (gI g, 14, .inl z.2.2.2.1)), (k3, .inl (gI g, 14, .inl z.2.2.2.2.1)), (k4, .inl (gI g, 15, .inl z.2.2.2.2.2.1)), (k5, .inl (gI g, 15, .inl z.2.2.2.2.2.2.1)), (k6, .inl (gI g, 15, .inl z.2.2.2.2.2.2.2.1)), (k7, .inl (gI g, 15, .inl z.2.2.2.2.2.2.2.2))] [] rfl rfl ⟨(by simp only [gT, c10_3, c10_3n, c10_3m, c16_4, c16_4n, c16_4m, reduceIte]), (rfl)⟩

