/-! the reference: undo, saving, the pad -/
theorem b255 (z : Int64) : ∃ k : Nat, k < 256 ∧ z &&& 255 = Int64.ofNat k ∧ k = z.toUInt64.toNat % 256 := by
  refine ⟨z.toUInt64.toNat % 256, Nat.mod_lt _ (by decide), ?_, rfl⟩
  apply Int64.toBitVec_inj.mp
  apply BitVec.eq_of_toNat_eq
  rw [Int64.toBitVec_and, BitVec.toNat_and]
  rw [show ((255 : Int64).toBitVec).toNat = 2 ^ 8 - 1 from by decide, Nat.and_two_pow_sub_one_eq_mod]
  rw [Int64.toBitVec_ofNat', BitVec.toNat_ofNat]
  show z.toBitVec.toNat % 256 = z.toUInt64.toNat % 256 % 2 ^ 64
  rw [Nat.mod_eq_of_lt (show z.toUInt64.toNat % 256 < 2 ^ 64 by omega)]
  rfl
theorem in_33 : ∀ k, k < 256 → S_in ((Int64.ofNat k).toInt32) 33 126 = decide (¬ lg_cmp (Int64.ofNat k) 33 < 0 ∧ lg_cmp (Int64.ofNat k) 126 ≤ 0) := by decide +kernel
theorem in_chr (z : Int64) : S_in ((z &&& 255).toInt32) 33 126 = decide (¬ lg_cmp (z &&& 255) 33 < 0 ∧ lg_cmp (z &&& 255) 126 ≤ 0) := by
  obtain ⟨k, hk, h, -⟩ := b255 z
  rw [h]
  exact in_33 k hk
theorem cmp_0 {z : Int64} : lg_cmp z 0 = 0 ↔ z = 0 := by
  unfold lg_cmp
  constructor
  · intro h
    by_cases h1 : z = 0
    · exact h1
    · exfalso
      revert h
      repeat' split
      all_goals first | (intro h; exact absurd h (by decide)) | (intro; simp_all)
  · rintro rfl
    decide
abbrev s8 (y : Int64) : Int64 := (y.toUInt64 >>> ((8 : Int32).toInt64.toUInt64 &&& Int64.toUInt64 63)).toInt64
theorem s8_nat (y : Int64) : (s8 y).toUInt64.toNat = y.toUInt64.toNat / 256 := by
  unfold s8
  rw [show ((8 : Int32).toInt64.toUInt64 &&& Int64.toUInt64 63) = 8 from by decide]
  show (y.toUInt64 >>> 8).toNat = _
  rw [UInt64.toNat_shiftRight, Nat.shiftRight_eq_div_pow]
  rfl
theorem u0_of {z : Int64} (h : z.toUInt64.toNat = 0) : z = 0 := by
  apply Int64.toBitVec_inj.mp
  apply BitVec.eq_of_toNat_eq
  exact h
theorem pw_s {x i : Nat} : x / 2 ^ (8 * i) / 256 = x / 2 ^ (8 * (i + 1)) := by
  rw [Nat.div_div_eq_div_mul]
  congr 1
  rw [show 8 * (i + 1) = 8 * i + 8 by omega, Nat.pow_add]
theorem hy_8 {x y : Int64} {i : Nat} (hi : i ≤ 8) (h : y.toUInt64.toNat = x.toUInt64.toNat / 2 ^ (8 * i)) (hz : ¬ y = 0) : i < 8 := by
  by_cases h8 : i = 8
  · subst h8
    refine absurd (u0_of ?_) hz
    rw [h]
    exact Nat.div_eq_of_lt x.toUInt64.toNat_lt
  · omega
theorem and0 : (0 : Int64) &&& 255 = 0 := by decide
theorem put_n0 {y : Int64} (c : ¬ lg_cmp (y &&& 255) 0 = 0) : ¬ y = 0 := by
  rintro rfl
  exact c (by decide)
theorem put_bad {x y : Int64} {i : Nat} (hi : i ≤ 8) (hy : y.toUInt64.toNat = x.toUInt64.toNat / 2 ^ (8 * i)) (hR : sgn (8 - i) y i = sgn 8 x 0) (c : ¬ lg_cmp (y &&& 255) 0 = 0) (b : S_in ((y &&& 255).toInt32) 33 126 = false) : sgn 8 x 0 = 0 := by
  have hy0 := put_n0 c
  have h8 := hy_8 hi hy hy0
  rw [in_chr] at b
  have b2 := of_decide_eq_false b
  rw [← hR, show 8 - i = (8 - (i + 1)) + 1 by omega, sgn, if_neg (fun h => hy0 (cmp_0.mp h))]
  by_cases h1 : lg_cmp (y &&& 255) 33 < 0
  · rw [if_pos h1]
  · rw [if_neg h1, if_neg (fun h2 => b2 ⟨h1, h2⟩)]
theorem put_go {x y : Int64} {i : Nat} (hi : i ≤ 8) (hy : y.toUInt64.toNat = x.toUInt64.toNat / 2 ^ (8 * i)) (hR : sgn (8 - i) y i = sgn 8 x 0) (c : ¬ lg_cmp (y &&& 255) 0 = 0) (b : S_in ((y &&& 255).toInt32) 33 126 = true) : i + 1 ≤ 8 ∧ (s8 y).toUInt64.toNat = x.toUInt64.toNat / 2 ^ (8 * (i + 1)) ∧ sgn (8 - (i + 1)) (s8 y) (i + 1) = sgn 8 x 0 := by
  have hy0 := put_n0 c
  have h8 := hy_8 hi hy hy0
  rw [in_chr] at b
  obtain ⟨h1, h2⟩ := of_decide_eq_true b
  refine ⟨h8, by rw [s8_nat, hy, pw_s], ?_⟩
  rw [← hR, show 8 - i = (8 - (i + 1)) + 1 by omega, sgn, if_neg (fun h => hy0 (cmp_0.mp h)), if_neg h1, if_pos h2]
theorem put_e1 {x y : Int64} {i : Nat} (hi : i ≤ 8) (hy : y.toUInt64.toNat = x.toUInt64.toNat / 2 ^ (8 * i)) (hR : sgn (8 - i) y i = sgn 8 x 0) (c : lg_cmp (y &&& 255) 0 = 0) (c2 : ¬ lg_cmp y 0 = 0) : sgn 8 x 0 = 0 := by
  have hy0 : ¬ y = 0 := fun h => c2 (cmp_0.mpr h)
  have h8 := hy_8 hi hy hy0
  rw [← hR, show 8 - i = (8 - (i + 1)) + 1 by omega, sgn, if_neg c2, cmp_0.mp c, if_pos (by decide)]
theorem put_e0 {x y : Int64} {i : Nat} (hi : i ≤ 8) (hR : sgn (8 - i) y i = sgn 8 x 0) (c2 : lg_cmp y 0 = 0) : sgn 8 x 0 = i := by
  rw [← hR]
  by_cases h : i = 8
  · subst h; rfl
  · rw [show 8 - i = (8 - (i + 1)) + 1 by omega, sgn, if_pos c2]
def S_apB (f : Nat → Int32) (x : Int64) (n m a : Nat) : Nat → Int32 := fun j => if n + a ≤ j ∧ j < n + m then chr0 x (m - (j - n)) else f j
theorem S_apB_0 (f : Nat → Int32) (x : Int64) (n m : Nat) : S_apB f x n m m = f := funext fun j => if_neg (by omega)
theorem S_apB_e (f : Nat → Int32) (x : Int64) (n m : Nat) : S_apB f x n m 0 = S_app f x n m 0 := by
  funext j
  unfold S_apB S_app
  by_cases h : n ≤ j ∧ j < n + m
  · rw [if_pos (by omega), if_pos (by omega)]
  · rw [if_neg (by omega), if_neg (by omega)]
theorem S_apB_s {f : Nat → Int32} {x : Int64} {n m a : Nat} {c : Int32} (h0 : 0 < a) (h : a ≤ m) (hc : c = chr0 x (m - a + 1)) : upd (S_apB f x n m a) (n + (a - 1)) c = S_apB f x n m (a - 1) := by
  funext j
  unfold upd S_apB
  by_cases h1 : j = n + (a - 1)
  · subst h1
    rw [if_pos rfl, if_pos (by omega), hc]
    exact congrArg (chr0 x) (by omega)
  · rw [if_neg h1]
    by_cases h2 : n + a ≤ j ∧ j < n + m
    · rw [if_pos h2, if_pos (by omega)]
    · rw [if_neg h2, if_neg (by omega)]
theorem ch_nar : ∀ k, k < 256 → vp_nar .char ((((Int64.ofNat k).toInt32).toUInt32 % 65536).toInt32) = (Int64.ofNat k).toInt32 := by decide +kernel
theorem byte_eq {x z : Int64} {b : Nat} (hb : b < 8) (hz : z.toUInt64.toNat = x.toUInt64.toNat / 2 ^ (8 * b)) : (z &&& 255).toInt32 = chr0 x (b + 1) := by
  have e : nI (b + 1) - 1 = nI b := pk_sub (a := b + 1) (b := 1) (by omega)
  have e2 : ∀ b, b < 8 → ((8 * nI b : Int32).toInt64.toUInt64 &&& Int64.toUInt64 63).toNat = 8 * b := by decide +kernel
  have e3 : (x.toUInt64 >>> ((8 * nI b : Int32).toInt64.toUInt64 &&& Int64.toUInt64 63)) = z.toUInt64 := by
    apply UInt64.toNat_inj.mp
    rw [UInt64.toNat_shiftRight, e2 b hb, Nat.shiftRight_eq_div_pow, hz, Nat.mod_eq_of_lt (by omega)]
  unfold chr0 chrV
  rw [e, e3]
  show _ = vp_nar .char ((((z &&& 255).toInt32).toUInt32 % 65536).toInt32)
  obtain ⟨k, hk, h, -⟩ := b255 z
  rw [h]
  exact (ch_nar k hk).symm
theorem wSave_t {w : Nat → StT} {j : Nat} {v : StT} (h : j < 100) : wSave true w (nI j) v = sU w j v := by
  funext b
  show sU w (kN (nI j)) v b = _
  rw [kN_nI h]
theorem bSave_t {b : Nat → Bool} {j : Nat} (h : j < 100) : bSave true b (nI j) = bU b j := by
  show bU b (kN (nI j)) = _
  rw [kN_nI h]
theorem nad {n a : Nat} (h : 0 < a) : nI n + (nI a - 1) = nI (n + (a - 1)) := by
  rw [show nI a - 1 = nI (a - 1) from pk_sub (a := a) (b := 1) (by omega)]
  exact nI_add n (a - 1)

set_option maxHeartbeats 4000000 in
set_option maxRecDepth 100000 in
theorem c_X9_undo (g : jG) (m : Nat) (a0 : Nat) (a1 : Nat) (a3 : Nat) (a4 : Nat) (a5 : Nat) (a7 : Nat) (a8 : Nat) (a10 : Nat) (a11 : Nat) (un : Nat) (sg : Nat) (mn : Nat) (ti : Nat) (dr : Int32) (rd : Nat) (op : Int32) (v : StT) (w : Nat → StT) (hv : v.2.1 ≤ 14) (hu : un ≤ 6) : jMI g yX9_undo cX9_undo 2 .int 0 0 [.ref m] [(m, .inr (9, [.ref a0, .ref a1, .int (nI un), .ref a3, .ref a4, .ref a5, .int (nI sg), .ref a7, .ref a8, .int (nI mn), .ref a10, .ref a11, .int (nI ti), .int dr, .int (nI rd), .int op])), (a0, .inl (gI g, 60, .inl (nowF v))), (a1, .inl (gI g, 360, .inl (hisF w)))] (fun rz wz => rz = rUndo un ∧ wz = [(m, .inr (9, [.ref a0, .ref a1, .int (nI (un - 1)), .ref a3, .ref a4, .ref a5, .int (nI sg), .ref a7, .ref a8, .int (nI mn), .ref a10, .ref a11, .int (nI ti), .int dr, .int (nI rd), .int op])), (a0, .inl (gI g, 60, .inl (nowF (mV (okUndo un) v (w (un - 1)))))), (a1, .inl (gI g, 360, .inl (hisF w)))]) := by
  refine jMI.intro (by decide +kernel) (Nat.le_of_ble_eq_true rfl) (fun x hX hQ => ?_)
  refine j_lv (lv2 := [(0, .ref m)]) rfl ?_
  refine j_aload_n (pc := 0) hX dX9_undo_0 0 rfl ?_
  refine j_get (ci := 9) (pc := 1) hX inG9 rfl 2 (by decide) mw626 0 rfl rfl dX9_undo_1 ?_
  refine j_if_ne (tgt := 10) (pc := 4) hX dX9_undo_4 (by decide) (fun c4_1 => ?_) (fun c4_1 => ?_)
  · skip
    have c4_1n : ¬ un = 0 := fun h9 => c4_1 ((nI_eq (a := un) (b := 0) (by omega) (by omega)).mpr h9)
    refine j_aload_n (pc := 10) hX dX9_undo_10 0 rfl ?_
    refine j_dup (pc := 11) hX dX9_undo_11 rfl ?_
    refine j_get (ci := 9) (pc := 12) hX inG9 rfl 2 (by decide) mw626 0 rfl rfl dX9_undo_12 ?_
    refine j_iconst (v := 1) (pc := 15) hX dX9_undo_15 (by decide) ?_
    refine j_isub (pc := 16) hX dX9_undo_16 ?_
    refine j_top (b := nI (un - 1)) (pk_sub (a := un) (b := 1) (by omega)) ?_
    refine j_put (ci := 9) (ty := .int) (pc := 17) hX inG9 tyX9 tyX9_ok nmG9 rfl 2 (by decide) mw626 rfl (by decide +kernel) 0 rfl (Nat.le_of_ble_eq_true rfl) (rfl) rfl dX9_undo_17 ?_
    refine j_ws (ws2 := [(m, .inr (9, [.ref a0, .ref a1, .int (nI (un - 1)), .ref a3, .ref a4, .ref a5, .int (nI sg), .ref a7, .ref a8, .int (nI mn), .ref a10, .ref a11, .int (nI ti), .int dr, .int (nI rd), .int op])), (a0, .inl (gI g, 60, .inl (nowF v))), (a1, .inl (gI g, 360, .inl (hisF w)))]) rfl ?_
    refine j_iconst (v := 0) (pc := 20) hX dX9_undo_20 (by decide) ?_
    refine j_istore_n (lv2 := [(0, .ref m), (1, .int 0)]) (pc := 21) hX dX9_undo_21 [1, 0] (by decide) rfl ?_
    have L22 : ∀ (d : Nat) (k : Nat), k ≤ 60 → 60 - k = d → J g x 2 0 0 22 [(0, .ref m), (1, .int (nI k))] [] [(m, .inr (9, [.ref a0, .ref a1, .int (nI (un - 1)), .ref a3, .ref a4, .ref a5, .int (nI sg), .ref a7, .ref a8, .int (nI mn), .ref a10, .ref a11, .int (nI ti), .int dr, .int (nI rd), .int op])), (a0, .inl (gI g, 60, .inl (S_cq (hisF w) (nowF v) ((un - 1) * 60) k))), (a1, .inl (gI g, 360, .inl (hisF w)))] := by
      intro d
      induction d using Nat.strongRecOn with
      | _ d ih22 =>
        intro k hk hd22
        refine j_iload_n (pc := 22) hX dX9_undo_22 1 rfl ?_
        refine j_bipush (v := 60) (pc := 23) hX dX9_undo_23 (by decide) ?_
        refine j_icmp_ge (tgt := 54) (pc := 25) hX dX9_undo_25 (by decide) (fun c25_2 => ?_) (fun c25_2 => ?_)
        · skip
          have c25_2n : 60 ≤ k := (nI_leI (a := 60) (b := k) (by omega) (by omega)).mp c25_2
          have c25_2m : ¬ k < 60 := by omega
          have hk60 : k = 60 := by omega
          subst hk60
          refine j_cong 1 (nowF (w (un - 1))) rfl (S_cq_e w _ (un - 1)) ?_
          refine j_ws (ws2 := [(m, .inr (9, [.ref a0, .ref a1, .int (nI (un - 1)), .ref a3, .ref a4, .ref a5, .int (nI sg), .ref a7, .ref a8, .int (nI mn), .ref a10, .ref a11, .int (nI ti), .int dr, .int (nI rd), .int op])), (a0, .inl (gI g, 60, .inl (nowF (w (un - 1))))), (a1, .inl (gI g, 360, .inl (hisF w)))]) rfl ?_
          refine j_aload_n (pc := 54) hX dX9_undo_54 0 rfl ?_
          refine j_get (ci := 9) (pc := 55) hX inG9 rfl 2 (by decide) mw626 0 rfl rfl dX9_undo_55 ?_
          exact j_iret (pc := 58) hX hQ dX9_undo_58 rfl ⟨(by first | (simp only [jb_t, jb_f, rUndo, c4_1, c4_1n, c25_2, c25_2n, c25_2m, reduceIte, eq_self, decide_true, decide_false, Bool.and_true, Bool.true_and, Bool.and_false, Bool.false_and, Bool.and_self, not_true_eq_false, not_false_eq_true, and_true, true_and, and_false, false_and, and_self]; done) | (simp [jb_t, jb_f, rUndo, c4_1, c4_1n, c25_2, c25_2n, c25_2m]; done)), (by rw [show okUndo un = true from by first | (simp only [jb_t, jb_f, okUndo, c4_1, c4_1n, c25_2, c25_2n, c25_2m, reduceIte, eq_self, decide_true, decide_false, Bool.and_true, Bool.true_and, Bool.and_false, Bool.false_and, Bool.and_self, not_true_eq_false, not_false_eq_true, and_true, true_and, and_false, false_and, and_self]; done) | (simp [jb_t, jb_f, okUndo, c4_1, c4_1n, c25_2, c25_2n, c25_2m]; done)]; rfl)⟩
        · skip
          have c25_2n : ¬ 60 ≤ k := fun h9 => c25_2 ((nI_leI (a := 60) (b := k) (by omega) (by omega)).mpr h9)
          have c25_2m : k < 60 := by omega
          refine j_aload_n (pc := 28) hX dX9_undo_28 0 rfl ?_
          refine j_get (ci := 9) (pc := 29) hX inG9 rfl 0 (by decide) mw624 0 rfl rfl dX9_undo_29 ?_
          refine j_iload_n (pc := 32) hX dX9_undo_32 1 rfl ?_
          refine j_aload_n (pc := 33) hX dX9_undo_33 0 rfl ?_
          refine j_get (ci := 9) (pc := 34) hX inG9 rfl 1 (by decide) mw625 0 rfl rfl dX9_undo_34 ?_
          refine j_aload_n (pc := 37) hX dX9_undo_37 0 rfl ?_
          refine j_get (ci := 9) (pc := 38) hX inG9 rfl 2 (by decide) mw626 0 rfl rfl dX9_undo_38 ?_
          refine j_bipush (v := 60) (pc := 41) hX dX9_undo_41 (by decide) ?_
          refine j_imul (pc := 43) hX dX9_undo_43 ?_
          refine j_top (b := nI ((un - 1) * 60)) (pk_mul (un - 1) 60) ?_
          refine j_iload_n (pc := 44) hX dX9_undo_44 1 rfl ?_
          refine j_iadd (pc := 45) hX dX9_undo_45 ?_
          refine j_top (b := nI (((un - 1) * 60) + k)) (nI_add ((un - 1) * 60) k) ?_
          refine j_iald (pc := 46) hX 2 rfl (((un - 1) * 60) + k) rfl (by omega) (by omega) dX9_undo_46 ?_
          refine j_iast (pc := 47) hX 1 rfl k rfl (by omega) (by omega) dX9_undo_47 ?_
          refine j_ws (ws2 := [(m, .inr (9, [.ref a0, .ref a1, .int (nI (un - 1)), .ref a3, .ref a4, .ref a5, .int (nI sg), .ref a7, .ref a8, .int (nI mn), .ref a10, .ref a11, .int (nI ti), .int dr, .int (nI rd), .int op])), (a0, .inl (gI g, 60, .inl (upd (S_cq (hisF w) (nowF v) ((un - 1) * 60) k) k ((hisF w) (((un - 1) * 60) + k))))), (a1, .inl (gI g, 360, .inl (hisF w)))]) rfl ?_
          refine j_iinc (v := nI (k + 1)) (lv2 := [(0, .ref m), (1, .int (nI (k + 1)))]) (pc := 48) hX dX9_undo_48 1 rfl (nI_add k 1) [1, 0] (by decide) rfl ?_
          refine j_goto (tgt := 22) (pc := 51) hX dX9_undo_51 (by decide) ?_
          exact j_eq (lv2 := [(0, .ref m), (1, .int (nI (k + 1)))]) (ws2 := [(m, .inr (9, [.ref a0, .ref a1, .int (nI (un - 1)), .ref a3, .ref a4, .ref a5, .int (nI sg), .ref a7, .ref a8, .int (nI mn), .ref a10, .ref a11, .int (nI ti), .int dr, .int (nI rd), .int op])), (a0, .inl (gI g, 60, .inl (S_cq (hisF w) (nowF v) ((un - 1) * 60) (k + 1)))), (a1, .inl (gI g, 360, .inl (hisF w)))]) (by first | rfl | rw [← S_cq_s]) (by first | rfl | rw [← S_cq_s]) (ih22 _ (by omega) (k + 1) (by omega) rfl)
    exact j_eq (lv2 := [(0, .ref m), (1, .int (nI 0))]) (ws2 := [(m, .inr (9, [.ref a0, .ref a1, .int (nI (un - 1)), .ref a3, .ref a4, .ref a5, .int (nI sg), .ref a7, .ref a8, .int (nI mn), .ref a10, .ref a11, .int (nI ti), .int dr, .int (nI rd), .int op])), (a0, .inl (gI g, 60, .inl (S_cq (hisF w) (nowF v) ((un - 1) * 60) 0))), (a1, .inl (gI g, 360, .inl (hisF w)))]) (by first | rfl | rw [S_cq_0]) (by first | rfl | rw [S_cq_0]) (L22 _ 0 (by omega) rfl)
  · skip
    have c4_1n : un = 0 := (nI_eq (a := un) (b := 0) (by omega) (by omega)).mp c4_1
    refine j_bipush (v := (-5)) (pc := 7) hX dX9_undo_7 (by decide) ?_
    exact j_iret (pc := 9) hX hQ dX9_undo_9 rfl ⟨(by first | (simp only [jb_t, jb_f, rUndo, c4_1, c4_1n, reduceIte, eq_self, decide_true, decide_false, Bool.and_true, Bool.true_and, Bool.and_false, Bool.false_and, Bool.and_self, not_true_eq_false, not_false_eq_true, and_true, true_and, and_false, false_and, and_self]; done) | (simp [jb_t, jb_f, rUndo, c4_1, c4_1n]; done)), (by rw [show okUndo un = false from by first | (simp only [jb_t, jb_f, okUndo, c4_1, c4_1n, reduceIte, eq_self, decide_true, decide_false, Bool.and_true, Bool.true_and, Bool.and_false, Bool.false_and, Bool.and_self, not_true_eq_false, not_false_eq_true, and_true, true_and, and_false, false_and, and_self]; done) | (simp [jb_t, jb_f, okUndo, c4_1, c4_1n]; done)]; rw [show un = 0 from c4_1n]; rfl)⟩

set_option maxHeartbeats 4000000 in
set_option maxRecDepth 100000 in
theorem c_X9_save (g : jG) (m : Nat) (a0 : Nat) (a1 : Nat) (a3 : Nat) (a4 : Nat) (a5 : Nat) (a7 : Nat) (a8 : Nat) (a10 : Nat) (a11 : Nat) (un : Nat) (sg : Nat) (mn : Nat) (ti : Nat) (dr : Int32) (rd : Nat) (op : Int32) (v : StT) (sw : Nat → StT) (b : Nat → Bool) (j0 : Int32) (hv : v.2.1 ≤ 14) : jMI g yX9_save cX9_save 3 .int 1 22 [.ref m, .int j0] [(m, .inr (9, [.ref a0, .ref a1, .int (nI un), .ref a3, .ref a4, .ref a5, .int (nI sg), .ref a7, .ref a8, .int (nI mn), .ref a10, .ref a11, .int (nI ti), .int dr, .int (nI rd), .int op])), (a0, .inl (gI g, 60, .inl (nowF v))), (a3, .inl (gI g, 120, .inl (hisF sw))), (a4, .inl (gZ g, 2, .inl (kB b)))] (fun rz wz => rz = rSave v j0 ∧ wz = [(m, .inr (9, [.ref a0, .ref a1, .int (nI un), .ref a3, .ref a4, .ref a5, .int (nI sg), .ref a7, .ref a8, .int (nI mn), .ref a10, .ref a11, .int (nI ti), .int dr, .int (nI rd), .int op])), (a0, .inl (gI g, 60, .inl (nowF v))), (a3, .inl (gI g, 120, .inl (hisF (wSave (okSlot j0) sw j0 v)))), (a4, .inl (gZ g, 2, .inl (kB (bSave (okSlot j0) b j0))))]) := by
  refine jMI.intro (by decide +kernel) (Nat.le_of_ble_eq_true rfl) (fun x hX hQ => ?_)
  refine j_lv (lv2 := [(0, .ref m), (1, .int j0)]) rfl ?_
  refine j_iload_n (pc := 0) hX dX9_save_0 1 rfl ?_
  refine j_iconst (v := 0) (pc := 1) hX dX9_save_1 (by decide) ?_
  refine j_iconst (v := 1) (pc := 2) hX dX9_save_2 (by decide) ?_
  refine j_callSI (n := 3) (As := [.int j0, .int 0, .int 1]) (rest := []) (pc := 3) hX (c_X9_in g j0 0 1 ) (CS.of mw661 mw662 mw52 mw663 ⟨by decide +kernel, by decide +kernel, by decide +kernel⟩) (Nat.le_of_ble_eq_true rfl) (Nat.le_of_ble_eq_true rfl) (Nat.le_of_ble_eq_true rfl) (Nat.le_of_ble_eq_true rfl) [] (by decide +kernel) rfl rfl rfl (Nat.le_of_ble_eq_true rfl) dX9_save_3 (fun r1 wz hq2 => ?_)
  obtain ⟨rfl, rfl⟩ := hq2
  refine j_ws (ws2 := [(m, .inr (9, [.ref a0, .ref a1, .int (nI un), .ref a3, .ref a4, .ref a5, .int (nI sg), .ref a7, .ref a8, .int (nI mn), .ref a10, .ref a11, .int (nI ti), .int dr, .int (nI rd), .int op])), (a0, .inl (gI g, 60, .inl (nowF v))), (a3, .inl (gI g, 120, .inl (hisF sw))), (a4, .inl (gZ g, 2, .inl (kB b)))]) rfl ?_
  refine j_top (b := jb (okSlot j0)) (by rw [in_slot]) ?_
  refine j_if_ne (tgt := 12) (pc := 6) hX dX9_save_6 (by decide) (fun c6_3 => ?_) (fun c6_3 => ?_)
  · skip
    have c6_3b : (okSlot j0) = true := jb_1.mp c6_3
    obtain ⟨j, hj, rfl⟩ := okSlot_t (j := j0) c6_3b
    refine j_iconst (v := 0) (pc := 12) hX dX9_save_12 (by decide) ?_
    refine j_istore_n (lv2 := [(0, .ref m), (1, .int (nI j)), (2, .int 0)]) (pc := 13) hX dX9_save_13 [1, 2, 0] (by decide) rfl ?_
    have L14 : ∀ (d : Nat) (k : Nat), k ≤ 60 → 60 - k = d → J g x 3 0 0 14 [(0, .ref m), (1, .int (nI j)), (2, .int (nI k))] [] [(m, .inr (9, [.ref a0, .ref a1, .int (nI un), .ref a3, .ref a4, .ref a5, .int (nI sg), .ref a7, .ref a8, .int (nI mn), .ref a10, .ref a11, .int (nI ti), .int dr, .int (nI rd), .int op])), (a0, .inl (gI g, 60, .inl (nowF v))), (a3, .inl (gI g, 120, .inl (S_cpo (hisF sw) (nowF v) (j * 60) k))), (a4, .inl (gZ g, 2, .inl (kB b)))] := by
      intro d
      induction d using Nat.strongRecOn with
      | _ d ih14 =>
        intro k hk hd14
        refine j_iload_n (pc := 14) hX dX9_save_14 2 rfl ?_
        refine j_bipush (v := 60) (pc := 15) hX dX9_save_15 (by decide) ?_
        refine j_icmp_ge (tgt := 43) (pc := 17) hX dX9_save_17 (by decide) (fun c17_4 => ?_) (fun c17_4 => ?_)
        · skip
          have c17_4n : 60 ≤ k := (nI_leI (a := 60) (b := k) (by omega) (by omega)).mp c17_4
          have c17_4m : ¬ k < 60 := by omega
          refine j_aload_n (pc := 43) hX dX9_save_43 0 rfl ?_
          refine j_get (ci := 9) (pc := 44) hX inG9 rfl 4 (by decide) mw628 0 rfl rfl dX9_save_44 ?_
          refine j_iload_n (pc := 47) hX dX9_save_47 1 rfl ?_
          refine j_iconst (v := 1) (pc := 48) hX dX9_save_48 (by decide) ?_
          refine j_zast (pc := 49) hX 3 rfl j rfl (by omega) (by omega) dX9_save_49 ?_
          refine j_ws (ws2 := [(m, .inr (9, [.ref a0, .ref a1, .int (nI un), .ref a3, .ref a4, .ref a5, .int (nI sg), .ref a7, .ref a8, .int (nI mn), .ref a10, .ref a11, .int (nI ti), .int dr, .int (nI rd), .int op])), (a0, .inl (gI g, 60, .inl (nowF v))), (a3, .inl (gI g, 120, .inl (S_cpo (hisF sw) (nowF v) (j * 60) k))), (a4, .inl (gZ g, 2, .inl (upd (kB b) j (vp_nar .boolean 1))))]) rfl ?_
          refine j_aload_n (pc := 50) hX dX9_save_50 0 rfl ?_
          refine j_get (ci := 9) (pc := 51) hX inG9 rfl 0 (by decide) mw624 0 rfl rfl dX9_save_51 ?_
          refine j_iconst (v := 0) (pc := 54) hX dX9_save_54 (by decide) ?_
          refine j_iald (pc := 55) hX 1 rfl 0 rfl (by omega) (by omega) dX9_save_55 ?_
          refine j_top (b := nI v.2.1) (rfl) ?_
          exact j_iret (pc := 56) hX hQ dX9_save_56 rfl ⟨(by simp only [rSave, c6_3b, if_true]), (by rw [c6_3b, show k = 60 by omega, his_put, kB_u, wSave_t (show j < 100 by omega), bSave_t (show j < 100 by omega)])⟩
        · skip
          have c17_4n : ¬ 60 ≤ k := fun h9 => c17_4 ((nI_leI (a := 60) (b := k) (by omega) (by omega)).mpr h9)
          have c17_4m : k < 60 := by omega
          refine j_aload_n (pc := 20) hX dX9_save_20 0 rfl ?_
          refine j_get (ci := 9) (pc := 21) hX inG9 rfl 3 (by decide) mw627 0 rfl rfl dX9_save_21 ?_
          refine j_iload_n (pc := 24) hX dX9_save_24 1 rfl ?_
          refine j_bipush (v := 60) (pc := 25) hX dX9_save_25 (by decide) ?_
          refine j_imul (pc := 27) hX dX9_save_27 ?_
          refine j_top (b := nI (j * 60)) (pk_mul j 60) ?_
          refine j_iload_n (pc := 28) hX dX9_save_28 2 rfl ?_
          refine j_iadd (pc := 29) hX dX9_save_29 ?_
          refine j_top (b := nI ((j * 60) + k)) (nI_add (j * 60) k) ?_
          refine j_aload_n (pc := 30) hX dX9_save_30 0 rfl ?_
          refine j_get (ci := 9) (pc := 31) hX inG9 rfl 0 (by decide) mw624 0 rfl rfl dX9_save_31 ?_
          refine j_iload_n (pc := 34) hX dX9_save_34 2 rfl ?_
          refine j_iald (pc := 35) hX 1 rfl k rfl (by omega) (by omega) dX9_save_35 ?_
          refine j_iast (pc := 36) hX 2 rfl ((j * 60) + k) rfl (by omega) (by omega) dX9_save_36 ?_
          refine j_ws (ws2 := [(m, .inr (9, [.ref a0, .ref a1, .int (nI un), .ref a3, .ref a4, .ref a5, .int (nI sg), .ref a7, .ref a8, .int (nI mn), .ref a10, .ref a11, .int (nI ti), .int dr, .int (nI rd), .int op])), (a0, .inl (gI g, 60, .inl (nowF v))), (a3, .inl (gI g, 120, .inl (upd (S_cpo (hisF sw) (nowF v) (j * 60) k) ((j * 60) + k) ((nowF v) k)))), (a4, .inl (gZ g, 2, .inl (kB b)))]) rfl ?_
          refine j_iinc (v := nI (k + 1)) (lv2 := [(0, .ref m), (1, .int (nI j)), (2, .int (nI (k + 1)))]) (pc := 37) hX dX9_save_37 2 rfl (nI_add k 1) [1, 2, 0] (by decide) rfl ?_
          refine j_goto (tgt := 14) (pc := 40) hX dX9_save_40 (by decide) ?_
          exact j_eq (lv2 := [(0, .ref m), (1, .int (nI j)), (2, .int (nI (k + 1)))]) (ws2 := [(m, .inr (9, [.ref a0, .ref a1, .int (nI un), .ref a3, .ref a4, .ref a5, .int (nI sg), .ref a7, .ref a8, .int (nI mn), .ref a10, .ref a11, .int (nI ti), .int dr, .int (nI rd), .int op])), (a0, .inl (gI g, 60, .inl (nowF v))), (a3, .inl (gI g, 120, .inl (S_cpo (hisF sw) (nowF v) (j * 60) (k + 1)))), (a4, .inl (gZ g, 2, .inl (kB b)))]) (by first | rfl | rw [← S_cpo_s]) (by first | rfl | rw [← S_cpo_s]) (ih14 _ (by omega) (k + 1) (by omega) rfl)
    exact j_eq (lv2 := [(0, .ref m), (1, .int (nI j)), (2, .int (nI 0))]) (ws2 := [(m, .inr (9, [.ref a0, .ref a1, .int (nI un), .ref a3, .ref a4, .ref a5, .int (nI sg), .ref a7, .ref a8, .int (nI mn), .ref a10, .ref a11, .int (nI ti), .int dr, .int (nI rd), .int op])), (a0, .inl (gI g, 60, .inl (nowF v))), (a3, .inl (gI g, 120, .inl (S_cpo (hisF sw) (nowF v) (j * 60) 0))), (a4, .inl (gZ g, 2, .inl (kB b)))]) (by first | rfl | rw [S_cpo_0]) (by first | rfl | rw [S_cpo_0]) (L14 _ 0 (by omega) rfl)
  · skip
    have c6_3b : (okSlot j0) = false := jb_0.mp c6_3
    refine j_bipush (v := (-2)) (pc := 9) hX dX9_save_9 (by decide) ?_
    exact j_iret (pc := 11) hX hQ dX9_save_11 rfl ⟨(by simp [rSave, c6_3b]), (by rw [c6_3b]; rfl)⟩

set_option maxHeartbeats 4000000 in
set_option maxRecDepth 100000 in
theorem c_X9_restore (g : jG) (m : Nat) (a0 : Nat) (a1 : Nat) (a3 : Nat) (a4 : Nat) (a5 : Nat) (a7 : Nat) (a8 : Nat) (a10 : Nat) (a11 : Nat) (un : Nat) (sg : Nat) (mn : Nat) (ti : Nat) (dr : Int32) (rd : Nat) (op : Int32) (v : StT) (w : Nat → StT) (sw : Nat → StT) (b : Nat → Bool) (j0 : Int32) (hv : v.2.1 ≤ 14) (hu : un ≤ 6) (hw : ∀ k, k < 2 → (sw k).2.1 ≤ 14) : jMI g yX9_restore cX9_restore 3 .int 1 22 [.ref m, .int j0] [(m, .inr (9, [.ref a0, .ref a1, .int (nI un), .ref a3, .ref a4, .ref a5, .int (nI sg), .ref a7, .ref a8, .int (nI mn), .ref a10, .ref a11, .int (nI ti), .int dr, .int (nI rd), .int op])), (a0, .inl (gI g, 60, .inl (nowF v))), (a1, .inl (gI g, 360, .inl (hisF w))), (a3, .inl (gI g, 120, .inl (hisF sw))), (a4, .inl (gZ g, 2, .inl (kB b)))] (fun rz wz => rz = rRest j0 sw b ∧ wz = [(m, .inr (9, [.ref a0, .ref a1, .int (nI (mC (okRest j0 b) un)), .ref a3, .ref a4, .ref a5, .int (nI sg), .ref a7, .ref a8, .int (nI mn), .ref a10, .ref a11, .int (nI ti), .int dr, .int (nI rd), .int op])), (a0, .inl (gI g, 60, .inl (nowF (mV (okRest j0 b) v (sw (kN j0)))))), (a1, .inl (gI g, 360, .inl (hisF (mW (okRest j0 b) w un v)))), (a3, .inl (gI g, 120, .inl (hisF sw))), (a4, .inl (gZ g, 2, .inl (kB b)))]) := by
  refine jMI.intro (by decide +kernel) (Nat.le_of_ble_eq_true rfl) (fun x hX hQ => ?_)
  refine j_lv (lv2 := [(0, .ref m), (1, .int j0)]) rfl ?_
  refine j_iload_n (pc := 0) hX dX9_restore_0 1 rfl ?_
  refine j_iconst (v := 0) (pc := 1) hX dX9_restore_1 (by decide) ?_
  refine j_iconst (v := 1) (pc := 2) hX dX9_restore_2 (by decide) ?_
  refine j_callSI (n := 3) (As := [.int j0, .int 0, .int 1]) (rest := []) (pc := 3) hX (c_X9_in g j0 0 1 ) (CS.of mw661 mw662 mw52 mw663 ⟨by decide +kernel, by decide +kernel, by decide +kernel⟩) (Nat.le_of_ble_eq_true rfl) (Nat.le_of_ble_eq_true rfl) (Nat.le_of_ble_eq_true rfl) (Nat.le_of_ble_eq_true rfl) [] (by decide +kernel) rfl rfl rfl (Nat.le_of_ble_eq_true rfl) dX9_restore_3 (fun r1 wz hq2 => ?_)
  obtain ⟨rfl, rfl⟩ := hq2
  refine j_ws (ws2 := [(m, .inr (9, [.ref a0, .ref a1, .int (nI un), .ref a3, .ref a4, .ref a5, .int (nI sg), .ref a7, .ref a8, .int (nI mn), .ref a10, .ref a11, .int (nI ti), .int dr, .int (nI rd), .int op])), (a0, .inl (gI g, 60, .inl (nowF v))), (a1, .inl (gI g, 360, .inl (hisF w))), (a3, .inl (gI g, 120, .inl (hisF sw))), (a4, .inl (gZ g, 2, .inl (kB b)))]) rfl ?_
  refine j_top (b := jb (okSlot j0)) (by rw [in_slot]) ?_
  refine j_if_ne (tgt := 12) (pc := 6) hX dX9_restore_6 (by decide) (fun c6_3 => ?_) (fun c6_3 => ?_)
  · skip
    have c6_3b : (okSlot j0) = true := jb_1.mp c6_3
    obtain ⟨j, hj, rfl⟩ := okSlot_t (j := j0) c6_3b
    refine j_aload_n (pc := 12) hX dX9_restore_12 0 rfl ?_
    refine j_get (ci := 9) (pc := 13) hX inG9 rfl 4 (by decide) mw628 0 rfl rfl dX9_restore_13 ?_
    refine j_iload_n (pc := 16) hX dX9_restore_16 1 rfl ?_
    refine j_zald (pc := 17) hX 4 rfl j rfl (by omega) (by omega) dX9_restore_17 ?_
    refine j_top (b := jb (b j)) (rfl) ?_
    refine j_if_ne (tgt := 24) (pc := 18) hX dX9_restore_18 (by decide) (fun c18_4 => ?_) (fun c18_4 => ?_)
    · skip
      have c18_4b : (b j) = true := jb_1.mp c18_4
      refine j_aload_n (pc := 24) hX dX9_restore_24 0 rfl ?_
      refine j_callVV (n := 0) (As := []) (rest := []) (pc := 25) hX (c_X9_record g m a0 a1 a3 a4 a5 a7 a8 a10 a11 un sg mn ti dr rd op v w (by first | assumption | omega) (by first | assumption | omega)) (CV.of mw664 mw665 mw19 mw52 mw666 ⟨rfl, by decide +kernel, by decide +kernel, by decide +kernel⟩ (T := TX9) (N := 16) rfl) (Nat.le_of_ble_eq_true rfl) (Nat.le_of_ble_eq_true rfl) (Nat.le_of_ble_eq_true rfl) (Nat.le_of_ble_eq_true rfl) 0 rfl [0, 1, 2] (by decide +kernel) rfl rfl rfl (Nat.le_of_ble_eq_true rfl) dX9_restore_25 (fun wz wnz hq6 => ?_)
      obtain ⟨rfl, rfl⟩ := hq6
      refine j_ws (ws2 := [(m, .inr (9, [.ref a0, .ref a1, .int (nI (hC un)), .ref a3, .ref a4, .ref a5, .int (nI sg), .ref a7, .ref a8, .int (nI mn), .ref a10, .ref a11, .int (nI ti), .int dr, .int (nI rd), .int op])), (a0, .inl (gI g, 60, .inl (nowF v))), (a1, .inl (gI g, 360, .inl (hisF (rW w un v)))), (a3, .inl (gI g, 120, .inl (hisF sw))), (a4, .inl (gZ g, 2, .inl (kB b)))]) rfl ?_
      refine j_iconst (v := 0) (pc := 28) hX dX9_restore_28 (by decide) ?_
      refine j_istore_n (lv2 := [(0, .ref m), (1, .int (nI j)), (2, .int 0)]) (pc := 29) hX dX9_restore_29 [1, 2, 0] (by decide) rfl ?_
      have L30 : ∀ (d : Nat) (k : Nat), k ≤ 60 → 60 - k = d → J g x 3 0 0 30 [(0, .ref m), (1, .int (nI j)), (2, .int (nI k))] [] [(m, .inr (9, [.ref a0, .ref a1, .int (nI (hC un)), .ref a3, .ref a4, .ref a5, .int (nI sg), .ref a7, .ref a8, .int (nI mn), .ref a10, .ref a11, .int (nI ti), .int dr, .int (nI rd), .int op])), (a0, .inl (gI g, 60, .inl (S_cq (hisF sw) (nowF v) (j * 60) k))), (a1, .inl (gI g, 360, .inl (hisF (rW w un v)))), (a3, .inl (gI g, 120, .inl (hisF sw))), (a4, .inl (gZ g, 2, .inl (kB b)))] := by
        intro d
        induction d using Nat.strongRecOn with
        | _ d ih30 =>
          intro k hk hd30
          refine j_iload_n (pc := 30) hX dX9_restore_30 2 rfl ?_
          refine j_bipush (v := 60) (pc := 31) hX dX9_restore_31 (by decide) ?_
          refine j_icmp_ge (tgt := 59) (pc := 33) hX dX9_restore_33 (by decide) (fun c33_7 => ?_) (fun c33_7 => ?_)
          · skip
            have c33_7n : 60 ≤ k := (nI_leI (a := 60) (b := k) (by omega) (by omega)).mp c33_7
            have c33_7m : ¬ k < 60 := by omega
            have hk60 : k = 60 := by omega
            subst hk60
            refine j_cong 1 (nowF (sw j)) rfl (S_cq_e sw _ j) ?_
            refine j_ws (ws2 := [(m, .inr (9, [.ref a0, .ref a1, .int (nI (hC un)), .ref a3, .ref a4, .ref a5, .int (nI sg), .ref a7, .ref a8, .int (nI mn), .ref a10, .ref a11, .int (nI ti), .int dr, .int (nI rd), .int op])), (a0, .inl (gI g, 60, .inl (nowF (sw j)))), (a1, .inl (gI g, 360, .inl (hisF (rW w un v)))), (a3, .inl (gI g, 120, .inl (hisF sw))), (a4, .inl (gZ g, 2, .inl (kB b)))]) rfl ?_
            refine j_aload_n (pc := 59) hX dX9_restore_59 0 rfl ?_
            refine j_get (ci := 9) (pc := 60) hX inG9 rfl 0 (by decide) mw624 0 rfl rfl dX9_restore_60 ?_
            refine j_iconst (v := 0) (pc := 63) hX dX9_restore_63 (by decide) ?_
            refine j_iald (pc := 64) hX 1 rfl 0 rfl (by omega) (by omega) dX9_restore_64 ?_
            refine j_top (b := nI ((sw j).2.1)) (rfl) ?_
            exact j_iret (pc := 65) hX hQ dX9_restore_65 rfl ⟨(by simp [rRest, kN_nI (show j < 100 by omega), c6_3b, c18_4b]), (by rw [show okRest (nI j) b = true from by simp [okRest, kN_nI (show j < 100 by omega), c6_3b, c18_4b]]; rw [kN_nI (show j < 100 by omega)]; rfl)⟩
          · skip
            have c33_7n : ¬ 60 ≤ k := fun h9 => c33_7 ((nI_leI (a := 60) (b := k) (by omega) (by omega)).mpr h9)
            have c33_7m : k < 60 := by omega
            refine j_aload_n (pc := 36) hX dX9_restore_36 0 rfl ?_
            refine j_get (ci := 9) (pc := 37) hX inG9 rfl 0 (by decide) mw624 0 rfl rfl dX9_restore_37 ?_
            refine j_iload_n (pc := 40) hX dX9_restore_40 2 rfl ?_
            refine j_aload_n (pc := 41) hX dX9_restore_41 0 rfl ?_
            refine j_get (ci := 9) (pc := 42) hX inG9 rfl 3 (by decide) mw627 0 rfl rfl dX9_restore_42 ?_
            refine j_iload_n (pc := 45) hX dX9_restore_45 1 rfl ?_
            refine j_bipush (v := 60) (pc := 46) hX dX9_restore_46 (by decide) ?_
            refine j_imul (pc := 48) hX dX9_restore_48 ?_
            refine j_top (b := nI (j * 60)) (pk_mul j 60) ?_
            refine j_iload_n (pc := 49) hX dX9_restore_49 2 rfl ?_
            refine j_iadd (pc := 50) hX dX9_restore_50 ?_
            refine j_top (b := nI ((j * 60) + k)) (nI_add (j * 60) k) ?_
            refine j_iald (pc := 51) hX 3 rfl ((j * 60) + k) rfl (by omega) (by omega) dX9_restore_51 ?_
            refine j_iast (pc := 52) hX 1 rfl k rfl (by omega) (by omega) dX9_restore_52 ?_
            refine j_ws (ws2 := [(m, .inr (9, [.ref a0, .ref a1, .int (nI (hC un)), .ref a3, .ref a4, .ref a5, .int (nI sg), .ref a7, .ref a8, .int (nI mn), .ref a10, .ref a11, .int (nI ti), .int dr, .int (nI rd), .int op])), (a0, .inl (gI g, 60, .inl (upd (S_cq (hisF sw) (nowF v) (j * 60) k) k ((hisF sw) ((j * 60) + k))))), (a1, .inl (gI g, 360, .inl (hisF (rW w un v)))), (a3, .inl (gI g, 120, .inl (hisF sw))), (a4, .inl (gZ g, 2, .inl (kB b)))]) rfl ?_
            refine j_iinc (v := nI (k + 1)) (lv2 := [(0, .ref m), (1, .int (nI j)), (2, .int (nI (k + 1)))]) (pc := 53) hX dX9_restore_53 2 rfl (nI_add k 1) [1, 2, 0] (by decide) rfl ?_
            refine j_goto (tgt := 30) (pc := 56) hX dX9_restore_56 (by decide) ?_
            exact j_eq (lv2 := [(0, .ref m), (1, .int (nI j)), (2, .int (nI (k + 1)))]) (ws2 := [(m, .inr (9, [.ref a0, .ref a1, .int (nI (hC un)), .ref a3, .ref a4, .ref a5, .int (nI sg), .ref a7, .ref a8, .int (nI mn), .ref a10, .ref a11, .int (nI ti), .int dr, .int (nI rd), .int op])), (a0, .inl (gI g, 60, .inl (S_cq (hisF sw) (nowF v) (j * 60) (k + 1)))), (a1, .inl (gI g, 360, .inl (hisF (rW w un v)))), (a3, .inl (gI g, 120, .inl (hisF sw))), (a4, .inl (gZ g, 2, .inl (kB b)))]) (by first | rfl | rw [← S_cq_s]) (by first | rfl | rw [← S_cq_s]) (ih30 _ (by omega) (k + 1) (by omega) rfl)
      exact j_eq (lv2 := [(0, .ref m), (1, .int (nI j)), (2, .int (nI 0))]) (ws2 := [(m, .inr (9, [.ref a0, .ref a1, .int (nI (hC un)), .ref a3, .ref a4, .ref a5, .int (nI sg), .ref a7, .ref a8, .int (nI mn), .ref a10, .ref a11, .int (nI ti), .int dr, .int (nI rd), .int op])), (a0, .inl (gI g, 60, .inl (S_cq (hisF sw) (nowF v) (j * 60) 0))), (a1, .inl (gI g, 360, .inl (hisF (rW w un v)))), (a3, .inl (gI g, 120, .inl (hisF sw))), (a4, .inl (gZ g, 2, .inl (kB b)))]) (by first | rfl | rw [S_cq_0]) (by first | rfl | rw [S_cq_0]) (L30 _ 0 (by omega) rfl)
    · skip
      have c18_4b : (b j) = false := jb_0.mp c18_4
      refine j_bipush (v := (-5)) (pc := 21) hX dX9_restore_21 (by decide) ?_
      exact j_iret (pc := 23) hX hQ dX9_restore_23 rfl ⟨(by simp [rRest, kN_nI (show j < 100 by omega), c6_3b, c18_4b]), (by rw [show okRest (nI j) b = false from by simp [okRest, kN_nI (show j < 100 by omega), c6_3b, c18_4b]]; try rw [kN_nI (show j < 100 by omega)]; rfl)⟩
  · skip
    have c6_3b : (okSlot j0) = false := jb_0.mp c6_3
    refine j_bipush (v := (-2)) (pc := 9) hX dX9_restore_9 (by decide) ?_
    exact j_iret (pc := 11) hX hQ dX9_restore_11 rfl ⟨(by simp [rRest, c6_3b]), (by rw [show okRest j0 b = false from by simp [okRest, c6_3b]]; rfl)⟩

set_option maxHeartbeats 4000000 in
set_option maxRecDepth 100000 in
theorem c_X9_wipe (g : jG) (m : Nat) (a0 : Nat) (a1 : Nat) (a3 : Nat) (a4 : Nat) (a5 : Nat) (a7 : Nat) (a8 : Nat) (a10 : Nat) (a11 : Nat) (un : Nat) (sg : Nat) (mn : Nat) (ti : Nat) (dr : Int32) (rd : Nat) (op : Int32)  : jMI g yX9_wipe cX9_wipe 2 .int 0 0 [.ref m] [(m, .inr (9, [.ref a0, .ref a1, .int (nI un), .ref a3, .ref a4, .ref a5, .int (nI sg), .ref a7, .ref a8, .int (nI mn), .ref a10, .ref a11, .int (nI ti), .int dr, .int (nI rd), .int op]))] (fun rz wz => rz = nI sg ∧ wz = [(m, .inr (9, [.ref a0, .ref a1, .int (nI un), .ref a3, .ref a4, .ref a5, .int (nI 0), .ref a7, .ref a8, .int (nI mn), .ref a10, .ref a11, .int (nI ti), .int dr, .int (nI rd), .int op]))]) := by
  refine jMI.intro (by decide +kernel) (Nat.le_of_ble_eq_true rfl) (fun x hX hQ => ?_)
  refine j_lv (lv2 := [(0, .ref m)]) rfl ?_
  refine j_aload_n (pc := 0) hX dX9_wipe_0 0 rfl ?_
  refine j_get (ci := 9) (pc := 1) hX inG9 rfl 6 (by decide) mw630 0 rfl rfl dX9_wipe_1 ?_
  refine j_istore_n (lv2 := [(0, .ref m), (1, .int (nI sg))]) (pc := 4) hX dX9_wipe_4 [1, 0] (by decide) rfl ?_
  refine j_aload_n (pc := 5) hX dX9_wipe_5 0 rfl ?_
  refine j_iconst (v := 0) (pc := 6) hX dX9_wipe_6 (by decide) ?_
  refine j_put (ci := 9) (ty := .int) (pc := 7) hX inG9 tyX9 tyX9_ok nmG9 rfl 6 (by decide) mw630 rfl (by decide +kernel) 0 rfl (Nat.le_of_ble_eq_true rfl) (rfl) rfl dX9_wipe_7 ?_
  refine j_ws (ws2 := [(m, .inr (9, [.ref a0, .ref a1, .int (nI un), .ref a3, .ref a4, .ref a5, .int 0, .ref a7, .ref a8, .int (nI mn), .ref a10, .ref a11, .int (nI ti), .int dr, .int (nI rd), .int op]))]) rfl ?_
  refine j_iload_n (pc := 10) hX dX9_wipe_10 1 rfl ?_
  exact j_iret (pc := 11) hX hQ dX9_wipe_11 rfl ⟨(by first | rfl | first | (simp only [jb_t, jb_f, reduceIte, eq_self, decide_true, decide_false, Bool.and_true, Bool.true_and, Bool.and_false, Bool.false_and, Bool.and_self, not_true_eq_false, not_false_eq_true, and_true, true_and, and_false, false_and, and_self]; done) | (simp [jb_t, jb_f]; done)), (by first | rfl | first | (simp only [jb_t, jb_f, reduceIte, eq_self, decide_true, decide_false, Bool.and_true, Bool.true_and, Bool.and_false, Bool.false_and, Bool.and_self, not_true_eq_false, not_false_eq_true, and_true, true_and, and_false, false_and, and_self]; done) | (simp [jb_t, jb_f]; done))⟩

set_option maxHeartbeats 4000000 in
set_option maxRecDepth 100000 in
theorem c_X9_put (g : jG) (m : Nat) (a0 : Nat) (a1 : Nat) (a3 : Nat) (a4 : Nat) (a5 : Nat) (a7 : Nat) (a8 : Nat) (a10 : Nat) (a11 : Nat) (un : Nat) (sg : Nat) (mn : Nat) (ti : Nat) (dr : Int32) (rd : Nat) (op : Int32) (f : Nat → Int32) (xl : Int64) (hn : sg ≤ 80) : jMI g yX9_put cX9_put 7 .int 1 22 [.ref m, .long xl] [(m, .inr (9, [.ref a0, .ref a1, .int (nI un), .ref a3, .ref a4, .ref a5, .int (nI sg), .ref a7, .ref a8, .int (nI mn), .ref a10, .ref a11, .int (nI ti), .int dr, .int (nI rd), .int op])), (a5, .inl (gI g, 80, .inl f))] (fun rz wz => rz = pAns sg xl ∧ wz = [(m, .inr (9, [.ref a0, .ref a1, .int (nI un), .ref a3, .ref a4, .ref a5, .int (nI (pLen sg xl)), .ref a7, .ref a8, .int (nI mn), .ref a10, .ref a11, .int (nI ti), .int dr, .int (nI rd), .int op])), (a5, .inl (gI g, 80, .inl (pTxt f sg xl)))]) := by
  refine jMI.intro (by decide +kernel) (Nat.le_of_ble_eq_true rfl) (fun x hX hQ => ?_)
  refine j_lv (lv2 := [(0, .ref m), (1, .long xl)]) rfl ?_
  refine j_iconst (v := 0) (pc := 0) hX dX9_put_0 (by decide) ?_
  refine j_istore_n (lv2 := [(0, .ref m), (1, .long xl), (3, .int 0)]) (pc := 1) hX dX9_put_1 [1, 2, 0] (by decide) rfl ?_
  refine j_lload_n (pc := 2) hX dX9_put_2 1 rfl ?_
  refine j_lstore (lv2 := [(0, .ref m), (1, .long xl), (3, .int 0), (4, .long xl)]) (pc := 3) hX dX9_put_3 [1, 2, 3, 0] (by decide) rfl ?_
  have L5 : ∀ (d : Nat) (i : Nat) (y : Int64), i ≤ 8 → y.toUInt64.toNat = xl.toUInt64.toNat / 2 ^ (8 * i) → sgn (8 - i) y i = sgn 8 xl 0 → 8 - i = d → J g x 7 0 0 5 [(0, .ref m), (1, .long xl), (3, .int (nI i)), (4, .long y)] [] [(m, .inr (9, [.ref a0, .ref a1, .int (nI un), .ref a3, .ref a4, .ref a5, .int (nI sg), .ref a7, .ref a8, .int (nI mn), .ref a10, .ref a11, .int (nI ti), .int dr, .int (nI rd), .int op])), (a5, .inl (gI g, 80, .inl f))] := by
    intro d
    induction d using Nat.strongRecOn with
    | _ d ih5 =>
      intro i y hi hy hR hd5
      refine j_lload (pc := 5) hX dX9_put_5 3 rfl ?_
      refine j_ldc2 (v := 255) (pc := 7) hX mw706 dX9_put_7 ?_
      refine j_land (pc := 10) hX dX9_put_10 ?_
      refine j_lconst (v := 0) (pc := 11) hX dX9_put_11 (by decide) ?_
      refine j_lcmp (pc := 12) hX dX9_put_12 ?_
      refine j_if_eq (tgt := 49) (pc := 13) hX dX9_put_13 (by decide) (fun c13_1 => ?_) (fun c13_1 => ?_)
      · skip
        refine j_lload (pc := 49) hX dX9_put_49 3 rfl ?_
        refine j_lconst (v := 0) (pc := 51) hX dX9_put_51 (by decide) ?_
        refine j_lcmp (pc := 52) hX dX9_put_52 ?_
        refine j_if_ne (tgt := 60) (pc := 53) hX dX9_put_53 (by decide) (fun c53_2 => ?_) (fun c53_2 => ?_)
        · skip
          refine j_bipush (v := (-2)) (pc := 60) hX dX9_put_60 (by decide) ?_
          exact j_iret (pc := 62) hX hQ dX9_put_62 rfl ⟨(by simp only [pAns, put_e1 hi hy hR c13_1 c53_2, if_true]), (by simp only [pLen, pTxt, put_e1 hi hy hR c13_1 c53_2, if_true])⟩
        · skip
          have hm := put_e0 hi hR c53_2
          refine j_iload_n (pc := 56) hX dX9_put_56 2 rfl ?_
          refine j_if_ne (tgt := 63) (pc := 57) hX dX9_put_57 (by decide) (fun c57_3 => ?_) (fun c57_3 => ?_)
          · skip
            have c57_3n : ¬ i = 0 := fun h9 => c57_3 ((nI_eq (a := i) (b := 0) (by omega) (by omega)).mpr h9)
            refine j_aload_n (pc := 63) hX dX9_put_63 0 rfl ?_
            refine j_get (ci := 9) (pc := 64) hX inG9 rfl 6 (by decide) mw630 0 rfl rfl dX9_put_64 ?_
            refine j_iload_n (pc := 67) hX dX9_put_67 2 rfl ?_
            refine j_iadd (pc := 68) hX dX9_put_68 ?_
            refine j_top (b := nI (sg + i)) (nI_add sg i) ?_
            refine j_bipush (v := 80) (pc := 69) hX dX9_put_69 (by decide) ?_
            refine j_icmp_le (tgt := 77) (pc := 71) hX dX9_put_71 (by decide) (fun c71_4 => ?_) (fun c71_4 => ?_)
            · skip
              have c71_4n : (sg + i) ≤ 80 := (nI_leI (a := (sg + i)) (b := 80) (by omega) (by omega)).mp c71_4
              have c71_4m : ¬ 80 < (sg + i) := by omega
              refine j_lload_n (pc := 77) hX dX9_put_77 1 rfl ?_
              refine j_lstore (lv2 := [(0, .ref m), (1, .long xl), (3, .int (nI i)), (4, .long xl)]) (pc := 78) hX dX9_put_78 [1, 2, 3, 0] (by decide) rfl ?_
              refine j_iload_n (pc := 80) hX dX9_put_80 2 rfl ?_
              refine j_iconst (v := 1) (pc := 81) hX dX9_put_81 (by decide) ?_
              refine j_isub (pc := 82) hX dX9_put_82 ?_
              refine j_istore (lv2 := [(0, .ref m), (1, .long xl), (3, .int (nI i)), (4, .long xl), (6, .int ((nI i) - 1))]) (pc := 83) hX dX9_put_83 [1, 2, 3, 4, 0] (by decide) rfl ?_
              have L85 : ∀ (d : Nat) (a : Nat) (z : Int64), a ≤ i → z.toUInt64.toNat = xl.toUInt64.toNat / 2 ^ (8 * (i - a)) → a = d → J g x 7 0 0 85 [(0, .ref m), (1, .long xl), (3, .int (nI i)), (4, .long z), (6, .int (nI a - 1))] [] [(m, .inr (9, [.ref a0, .ref a1, .int (nI un), .ref a3, .ref a4, .ref a5, .int (nI sg), .ref a7, .ref a8, .int (nI mn), .ref a10, .ref a11, .int (nI ti), .int dr, .int (nI rd), .int op])), (a5, .inl (gI g, 80, .inl (S_apB f xl sg i a)))] := by
                intro d
                induction d using Nat.strongRecOn with
                | _ d ih85 =>
                  intro a z ha hz hd85
                  refine j_iload (pc := 85) hX dX9_put_85 4 rfl ?_
                  refine j_if_lt (tgt := 122) (pc := 87) hX dX9_put_87 (by decide) (fun c87_5 => ?_) (fun c87_5 => ?_)
                  · skip
                    have ha0 : a = 0 := (dn_lt (by omega)).mp c87_5
                    refine j_aload_n (pc := 122) hX dX9_put_122 0 rfl ?_
                    refine j_dup (pc := 123) hX dX9_put_123 rfl ?_
                    refine j_get (ci := 9) (pc := 124) hX inG9 rfl 6 (by decide) mw630 0 rfl rfl dX9_put_124 ?_
                    refine j_iload_n (pc := 127) hX dX9_put_127 2 rfl ?_
                    refine j_iadd (pc := 128) hX dX9_put_128 ?_
                    refine j_top (b := nI (sg + i)) (nI_add sg i) ?_
                    refine j_put (ci := 9) (ty := .int) (pc := 129) hX inG9 tyX9 tyX9_ok nmG9 rfl 6 (by decide) mw630 rfl (by decide +kernel) 0 rfl (Nat.le_of_ble_eq_true rfl) (rfl) rfl dX9_put_129 ?_
                    refine j_ws (ws2 := [(m, .inr (9, [.ref a0, .ref a1, .int (nI un), .ref a3, .ref a4, .ref a5, .int (nI (sg + i)), .ref a7, .ref a8, .int (nI mn), .ref a10, .ref a11, .int (nI ti), .int dr, .int (nI rd), .int op])), (a5, .inl (gI g, 80, .inl (S_apB f xl sg i a)))]) rfl ?_
                    refine j_aload_n (pc := 132) hX dX9_put_132 0 rfl ?_
                    refine j_get (ci := 9) (pc := 133) hX inG9 rfl 6 (by decide) mw630 0 rfl rfl dX9_put_133 ?_
                    exact j_iret (pc := 136) hX hQ dX9_put_136 rfl ⟨(by rw [pAns, hm, if_neg (show ¬ i = 0 by omega), if_pos (by omega)]), (by subst ha0; rw [pLen, pTxt, hm, if_neg (show ¬ i = 0 by omega), if_pos (by omega), if_neg (show ¬ i = 0 by omega), if_pos (by omega), S_apB_e])⟩
                  · skip
                    have ha0 : 0 < a := Nat.pos_of_ne_zero (fun h9 => c87_5 ((dn_lt (by omega)).mpr h9))
                    refine j_aload_n (pc := 90) hX dX9_put_90 0 rfl ?_
                    refine j_get (ci := 9) (pc := 91) hX inG9 rfl 5 (by decide) mw629 0 rfl rfl dX9_put_91 ?_
                    refine j_aload_n (pc := 94) hX dX9_put_94 0 rfl ?_
                    refine j_get (ci := 9) (pc := 95) hX inG9 rfl 6 (by decide) mw630 0 rfl rfl dX9_put_95 ?_
                    refine j_iload (pc := 98) hX dX9_put_98 4 rfl ?_
                    refine j_iadd (pc := 100) hX dX9_put_100 ?_
                    refine j_top (b := nI (sg + (a - 1))) (nad ha0) ?_
                    refine j_lload (pc := 101) hX dX9_put_101 3 rfl ?_
                    refine j_ldc2 (v := 255) (pc := 103) hX mw706 dX9_put_103 ?_
                    refine j_land (pc := 106) hX dX9_put_106 ?_
                    refine j_l2i (pc := 107) hX dX9_put_107 ?_
                    refine j_iast (pc := 108) hX 1 rfl (sg + (a - 1)) rfl (by omega) (by omega) dX9_put_108 ?_
                    refine j_ws (ws2 := [(m, .inr (9, [.ref a0, .ref a1, .int (nI un), .ref a3, .ref a4, .ref a5, .int (nI sg), .ref a7, .ref a8, .int (nI mn), .ref a10, .ref a11, .int (nI ti), .int dr, .int (nI rd), .int op])), (a5, .inl (gI g, 80, .inl (upd (S_apB f xl sg i a) (sg + (a - 1)) ((z &&& 255).toInt32))))]) rfl ?_
                    refine j_lload (pc := 109) hX dX9_put_109 3 rfl ?_
                    refine j_bipush (v := 8) (pc := 111) hX dX9_put_111 (by decide) ?_
                    refine j_lushr (pc := 113) hX dX9_put_113 ?_
                    refine j_lstore (lv2 := [(0, .ref m), (1, .long xl), (3, .int (nI i)), (4, .long ((z.toUInt64 >>> ((8 : Int32).toInt64.toUInt64 &&& Int64.toUInt64 63)).toInt64)), (6, .int (nI a - 1))]) (pc := 114) hX dX9_put_114 [1, 2, 3, 0, 4] (by decide) rfl ?_
                    refine j_iinc (v := (nI a - 1) + (-1)) (lv2 := [(0, .ref m), (1, .long xl), (3, .int (nI i)), (4, .long ((z.toUInt64 >>> ((8 : Int32).toInt64.toUInt64 &&& Int64.toUInt64 63)).toInt64)), (6, .int ((nI a - 1) + (-1)))]) (pc := 116) hX dX9_put_116 4 rfl (rfl) [1, 2, 3, 4, 0] (by decide) rfl ?_
                    refine j_goto (tgt := 85) (pc := 119) hX dX9_put_119 (by decide) ?_
                    exact j_eq (lv2 := [(0, .ref m), (1, .long xl), (3, .int (nI i)), (4, .long ((z.toUInt64 >>> ((8 : Int32).toInt64.toUInt64 &&& Int64.toUInt64 63)).toInt64)), (6, .int (nI (a - 1) - 1))]) (ws2 := [(m, .inr (9, [.ref a0, .ref a1, .int (nI un), .ref a3, .ref a4, .ref a5, .int (nI sg), .ref a7, .ref a8, .int (nI mn), .ref a10, .ref a11, .int (nI ti), .int dr, .int (nI rd), .int op])), (a5, .inl (gI g, 80, .inl (S_apB f xl sg i (a - 1))))]) (by first | (rw [dn1 (by omega)]; done) | (rw [← S_apB_s (by omega) (by omega) (byte_eq (by omega) hz)]; done)) (by first | (rw [dn1 (by omega)]; done) | (rw [← S_apB_s (by omega) (by omega) (byte_eq (by omega) hz)]; done)) (ih85 _ (by omega) (a - 1) ((z.toUInt64 >>> ((8 : Int32).toInt64.toUInt64 &&& Int64.toUInt64 63)).toInt64) (by omega) (by rw [show i - (a - 1) = (i - a) + 1 by omega, ← pw_s, ← hz]; exact s8_nat z) rfl)
              exact j_eq (lv2 := [(0, .ref m), (1, .long xl), (3, .int (nI i)), (4, .long xl), (6, .int (nI i - 1))]) (ws2 := [(m, .inr (9, [.ref a0, .ref a1, .int (nI un), .ref a3, .ref a4, .ref a5, .int (nI sg), .ref a7, .ref a8, .int (nI mn), .ref a10, .ref a11, .int (nI ti), .int dr, .int (nI rd), .int op])), (a5, .inl (gI g, 80, .inl (S_apB f xl sg i i)))]) (by first | rfl | rw [S_apB_0]) (by first | rfl | rw [S_apB_0]) (L85 _ i xl (by omega) (by rw [Nat.sub_self, Nat.mul_zero, Nat.pow_zero, Nat.div_one]) rfl)
            · skip
              have c71_4n : ¬ (sg + i) ≤ 80 := fun h9 => c71_4 ((nI_leI (a := (sg + i)) (b := 80) (by omega) (by omega)).mpr h9)
              have c71_4m : 80 < (sg + i) := by omega
              refine j_bipush (v := (-4)) (pc := 74) hX dX9_put_74 (by decide) ?_
              exact j_iret (pc := 76) hX hQ dX9_put_76 rfl ⟨(by rw [pAns, hm, if_neg (show ¬ i = 0 by omega), if_neg (by omega)]), (by rw [pLen, pTxt, hm, if_neg (show ¬ i = 0 by omega), if_neg (by omega), if_neg (show ¬ i = 0 by omega), if_neg (by omega)])⟩
          · skip
            have c57_3n : i = 0 := (nI_eq (a := i) (b := 0) (by omega) (by omega)).mp c57_3
            refine j_bipush (v := (-2)) (pc := 60) hX dX9_put_60 (by decide) ?_
            exact j_iret (pc := 62) hX hQ dX9_put_62 rfl ⟨(by simp only [pAns, show sgn 8 xl 0 = 0 by omega, if_true]), (by simp only [pLen, pTxt, show sgn 8 xl 0 = 0 by omega, if_true])⟩
      · skip
        refine j_lload (pc := 16) hX dX9_put_16 3 rfl ?_
        refine j_ldc2 (v := 255) (pc := 18) hX mw706 dX9_put_18 ?_
        refine j_land (pc := 21) hX dX9_put_21 ?_
        refine j_l2i (pc := 22) hX dX9_put_22 ?_
        refine j_bipush (v := 33) (pc := 23) hX dX9_put_23 (by decide) ?_
        refine j_bipush (v := 126) (pc := 25) hX dX9_put_25 (by decide) ?_
        refine j_callSI (n := 3) (As := [.int ((y &&& 255).toInt32), .int 33, .int 126]) (rest := []) (pc := 27) hX (c_X9_in g ((y &&& 255).toInt32) 33 126 ) (CS.of mw661 mw662 mw52 mw663 ⟨by decide +kernel, by decide +kernel, by decide +kernel⟩) (Nat.le_of_ble_eq_true rfl) (Nat.le_of_ble_eq_true rfl) (Nat.le_of_ble_eq_true rfl) (Nat.le_of_ble_eq_true rfl) [] (by decide +kernel) rfl rfl rfl (Nat.le_of_ble_eq_true rfl) dX9_put_27 (fun r6 wz hq7 => ?_)
        obtain ⟨rfl, rfl⟩ := hq7
        refine j_ws (ws2 := [(m, .inr (9, [.ref a0, .ref a1, .int (nI un), .ref a3, .ref a4, .ref a5, .int (nI sg), .ref a7, .ref a8, .int (nI mn), .ref a10, .ref a11, .int (nI ti), .int dr, .int (nI rd), .int op])), (a5, .inl (gI g, 80, .inl f))]) rfl ?_
        refine j_if_ne (tgt := 36) (pc := 30) hX dX9_put_30 (by decide) (fun c30_8 => ?_) (fun c30_8 => ?_)
        · skip
          have c30_8b : (S_in ((y &&& 255).toInt32) 33 126) = true := jb_1.mp c30_8
          refine j_iinc (v := nI (i + 1)) (lv2 := [(0, .ref m), (1, .long xl), (3, .int (nI (i + 1))), (4, .long y)]) (pc := 36) hX dX9_put_36 2 rfl (nI_add i 1) [1, 2, 0, 3] (by decide) rfl ?_
          refine j_lload (pc := 39) hX dX9_put_39 3 rfl ?_
          refine j_bipush (v := 8) (pc := 41) hX dX9_put_41 (by decide) ?_
          refine j_lushr (pc := 43) hX dX9_put_43 ?_
          refine j_lstore (lv2 := [(0, .ref m), (1, .long xl), (3, .int (nI (i + 1))), (4, .long ((y.toUInt64 >>> ((8 : Int32).toInt64.toUInt64 &&& Int64.toUInt64 63)).toInt64))]) (pc := 44) hX dX9_put_44 [1, 2, 3, 0] (by decide) rfl ?_
          refine j_goto (tgt := 5) (pc := 46) hX dX9_put_46 (by decide) ?_
          exact j_eq (lv2 := [(0, .ref m), (1, .long xl), (3, .int (nI (i + 1))), (4, .long ((y.toUInt64 >>> ((8 : Int32).toInt64.toUInt64 &&& Int64.toUInt64 63)).toInt64))]) (ws2 := [(m, .inr (9, [.ref a0, .ref a1, .int (nI un), .ref a3, .ref a4, .ref a5, .int (nI sg), .ref a7, .ref a8, .int (nI mn), .ref a10, .ref a11, .int (nI ti), .int dr, .int (nI rd), .int op])), (a5, .inl (gI g, 80, .inl f))]) (by first | rfl | first | (simp only [jb_t, jb_f, c13_1, c30_8, c30_8b, reduceIte, eq_self, decide_true, decide_false, Bool.and_true, Bool.true_and, Bool.and_false, Bool.false_and, Bool.and_self, not_true_eq_false, not_false_eq_true, and_true, true_and, and_false, false_and, and_self]; done) | (simp [jb_t, jb_f, c13_1, c30_8, c30_8b]; done)) (by first | rfl | first | (simp only [jb_t, jb_f, c13_1, c30_8, c30_8b, reduceIte, eq_self, decide_true, decide_false, Bool.and_true, Bool.true_and, Bool.and_false, Bool.false_and, Bool.and_self, not_true_eq_false, not_false_eq_true, and_true, true_and, and_false, false_and, and_self]; done) | (simp [jb_t, jb_f, c13_1, c30_8, c30_8b]; done)) (ih5 _ (by have h9 := hy_8 hi hy (put_n0 (by assumption)); omega) (i + 1) ((y.toUInt64 >>> ((8 : Int32).toInt64.toUInt64 &&& Int64.toUInt64 63)).toInt64) ((put_go hi hy hR c13_1 c30_8b).1) ((put_go hi hy hR c13_1 c30_8b).2.1) ((put_go hi hy hR c13_1 c30_8b).2.2) rfl)
        · skip
          have c30_8b : (S_in ((y &&& 255).toInt32) 33 126) = false := jb_0.mp c30_8
          refine j_bipush (v := (-2)) (pc := 33) hX dX9_put_33 (by decide) ?_
          exact j_iret (pc := 35) hX hQ dX9_put_35 rfl ⟨(by simp only [pAns, put_bad hi hy hR c13_1 c30_8b, if_true]), (by simp only [pLen, pTxt, put_bad hi hy hR c13_1 c30_8b, if_true])⟩
  exact j_eq (lv2 := [(0, .ref m), (1, .long xl), (3, .int (nI 0)), (4, .long xl)]) (ws2 := [(m, .inr (9, [.ref a0, .ref a1, .int (nI un), .ref a3, .ref a4, .ref a5, .int (nI sg), .ref a7, .ref a8, .int (nI mn), .ref a10, .ref a11, .int (nI ti), .int dr, .int (nI rd), .int op])), (a5, .inl (gI g, 80, .inl f))]) (rfl) (rfl) (L5 _ 0 xl (by omega) (by rw [Nat.mul_zero, Nat.pow_zero, Nat.div_one]) (rfl) rfl)

