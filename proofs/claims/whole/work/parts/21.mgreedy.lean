/-! the reference: the greedy cover -/
def PB (v : StT) (o : Option Nat) : Int32 := match o with
  | none => 0
  | some b => v.2.2.2.1 b
def gMb (v : StT) (l : Int32) : Nat → Option Nat × Int32
  | 0 => (none, 0)
  | k + 1 => if v.2.2.2.2 k = 0 then (if S_size (v.2.2.1 k &&& l) 18 ≤ 0 then gMb v l k else if oN (gMb v l k).1 < 0 then (some k, S_size (v.2.2.1 k &&& l) 18) else if PB v (gMb v l k).1 * S_size (v.2.2.1 k &&& l) 18 ≤ v.2.2.2.1 k * (gMb v l k).2 then gMb v l k else (some k, S_size (v.2.2.1 k &&& l) 18)) else gMb v l k
theorem gMb_lt (v : StT) (l : Int32) : ∀ (i k : Nat), (gMb v l i).1 = some k → k < i
  | 0, k, h => by cases h
  | i + 1, k, h => by
    rw [gMb] at h
    repeat' split at h
    all_goals first | (cases h; omega) | (have := gMb_lt v l i k h; omega)
theorem oN_pos {o : Option Nat} (h : ¬ oN o < 0) : ∃ b, o = some b := by
  cases o with
  | none => exact absurd (by decide) h
  | some b => exact ⟨b, rfl⟩
theorem gMb_some {v : StT} {l : Int32} {k : Nat} (h : ¬ oN (gMb v l k).1 < 0) : ∃ b, (gMb v l k).1 = some b ∧ b < k := by
  obtain ⟨b, hb⟩ := oN_pos h
  exact ⟨b, hb, gMb_lt v l k b hb⟩
abbrev GT : Type := Int32 × Int32 × Int32
def gMs (v : StT) : Nat → GT → GT
  | 0, z => z
  | f + 1, z => if z.2.2 = 0 then z else match (gMb v z.2.2 v.2.1).1 with
    | none => z
    | some b => gMs v f (z.1 ||| bI b, nI b, z.2.2 &&& (v.2.2.1 b ^^^ (-1)))
def gM0 (v : StT) : GT := (S_mk v.2.2.2.2 1 v.2.1, -6, v.1 &&& (S_or v.2.2.1 (S_mk v.2.2.2.2 1 v.2.1) v.2.1 ^^^ (-1)))
def gMR (v : StT) : GT := gMs v 14 (gM0 v)
theorem gMs_end (v : StT) {y : GT} (h : y.2.2 = 0) : ∀ f, gMs v f y = y
  | 0 => rfl
  | f + 1 => by rw [gMs, if_pos h]
theorem gMs_b {v : StT} {y : GT} {i : Nat} (hi : i ≤ 14) (hR : gMs v (14 - i) y = gMR v) (hf : (gMR v).2.2 = 0) (h : ¬ y.2.2 = 0) : i < 14 ∧ ∃ b, (gMb v y.2.2 v.2.1).1 = some b ∧ b < v.2.1 ∧ gMs v (14 - (i + 1)) (y.1 ||| bI b, nI b, y.2.2 &&& (v.2.2.1 b ^^^ (-1))) = gMR v := by
  have h14 : i < 14 := by
    by_cases h9 : i = 14
    · subst h9
      rw [← hR] at hf
      exact absurd hf h
    · omega
  refine ⟨h14, ?_⟩
  rw [show 14 - i = (14 - (i + 1)) + 1 by omega, gMs, if_neg h] at hR
  cases hb : (gMb v y.2.2 v.2.1).1 with
  | none =>
    rw [hb] at hR
    rw [← hR] at hf
    exact absurd hf h
  | some b =>
    rw [hb] at hR
    exact ⟨b, rfl, gMb_lt v _ _ b hb, hR⟩
def rGreedyM (v : StT) (w : Int32) : Int32 := if S_in w 0 2 = true then (if hasM v = true then (if w = 0 then (gMR v).1 else if w = 1 then S_sum v.2.2.2.1 (gMR v).1 v.2.1 else (gMR v).2.1) else -5) else -2

set_option maxHeartbeats 4000000 in
set_option maxRecDepth 100000 in
theorem c_X9_greedy (g : jG) (m : Nat) (a0 : Nat) (a1 : Nat) (a3 : Nat) (a4 : Nat) (a5 : Nat) (a7 : Nat) (a8 : Nat) (a10 : Nat) (a11 : Nat) (un : Nat) (sg : Nat) (mn : Nat) (ti : Nat) (dr : Int32) (rd : Nat) (op : Int32) (v : StT) (w0 : Int32) (hv : v.2.1 ≤ 14) (hf : hasM v = true → (gMR v).2.2 = 0) : jMI g yX9_greedy cX9_greedy 9 .int 4 86 [.ref m, .int w0] [(m, .inr (9, [.ref a0, .ref a1, .int (nI un), .ref a3, .ref a4, .ref a5, .int (nI sg), .ref a7, .ref a8, .int (nI mn), .ref a10, .ref a11, .int (nI ti), .int dr, .int (nI rd), .int op])), (a0, .inl (gI g, 60, .inl (nowF v)))] (fun rz wz => rz = rGreedyM v w0 ∧ wz = [(m, .inr (9, [.ref a0, .ref a1, .int (nI un), .ref a3, .ref a4, .ref a5, .int (nI sg), .ref a7, .ref a8, .int (nI mn), .ref a10, .ref a11, .int (nI ti), .int dr, .int (nI rd), .int op])), (a0, .inl (gI g, 60, .inl (nowF v)))]) := by
  refine jMI.intro (by decide +kernel) (Nat.le_of_ble_eq_true rfl) (fun x hX hQ => ?_)
  refine j_lv (lv2 := [(0, .ref m), (1, .int w0)]) rfl ?_
  refine j_iload_n (pc := 0) hX dX9_greedy_0 1 rfl ?_
  refine j_iconst (v := 0) (pc := 1) hX dX9_greedy_1 (by decide) ?_
  refine j_iconst (v := 2) (pc := 2) hX dX9_greedy_2 (by decide) ?_
  refine j_callSI (n := 3) (As := [.int w0, .int 0, .int 2]) (rest := []) (pc := 3) hX (c_X9_in g w0 0 2 ) (CS.of mw661 mw662 mw52 mw663 ⟨by decide +kernel, by decide +kernel, by decide +kernel⟩) (Nat.le_of_ble_eq_true rfl) (Nat.le_of_ble_eq_true rfl) (Nat.le_of_ble_eq_true rfl) (Nat.le_of_ble_eq_true rfl) [] (by decide +kernel) rfl rfl rfl (Nat.le_of_ble_eq_true rfl) dX9_greedy_3 (fun r1 wz hq2 => ?_)
  obtain ⟨rfl, rfl⟩ := hq2
  refine j_ws (ws2 := [(m, .inr (9, [.ref a0, .ref a1, .int (nI un), .ref a3, .ref a4, .ref a5, .int (nI sg), .ref a7, .ref a8, .int (nI mn), .ref a10, .ref a11, .int (nI ti), .int dr, .int (nI rd), .int op])), (a0, .inl (gI g, 60, .inl (nowF v)))]) rfl ?_
  refine j_if_ne (tgt := 12) (pc := 6) hX dX9_greedy_6 (by decide) (fun c6_3 => ?_) (fun c6_3 => ?_)
  · skip
    have c6_3b : (S_in w0 0 2) = true := jb_1.mp c6_3
    refine j_aload_n (pc := 12) hX dX9_greedy_12 0 rfl ?_
    refine j_callVI (n := 0) (As := []) (rest := []) (pc := 13) hX (c_X9_hasCover g m a0 a1 a3 a4 a5 a7 a8 a10 a11 un sg mn ti dr rd op v (by first | assumption | omega)) (CV.of mw741 mw742 mw30 mw52 mw743 ⟨rfl, by decide +kernel, by decide +kernel, by decide +kernel⟩ (T := TX9) (N := 16) rfl) (Nat.le_of_ble_eq_true rfl) (Nat.le_of_ble_eq_true rfl) (Nat.le_of_ble_eq_true rfl) (Nat.le_of_ble_eq_true rfl) 0 rfl [0, 1] (by decide +kernel) rfl rfl rfl (Nat.le_of_ble_eq_true rfl) dX9_greedy_13 (fun r4 wz hq5 => ?_)
    obtain ⟨rfl, rfl⟩ := hq5
    refine j_ws (ws2 := [(m, .inr (9, [.ref a0, .ref a1, .int (nI un), .ref a3, .ref a4, .ref a5, .int (nI sg), .ref a7, .ref a8, .int (nI mn), .ref a10, .ref a11, .int (nI ti), .int dr, .int (nI rd), .int op])), (a0, .inl (gI g, 60, .inl (nowF v)))]) rfl ?_
    refine j_if_ne (tgt := 22) (pc := 16) hX dX9_greedy_16 (by decide) (fun c16_6 => ?_) (fun c16_6 => ?_)
    · skip
      have c16_6b : (hasM v) = true := jb_1.mp c16_6
      refine j_aload_n (pc := 22) hX dX9_greedy_22 0 rfl ?_
      refine j_iconst (v := 1) (pc := 23) hX dX9_greedy_23 (by decide) ?_
      refine j_callVI (n := 1) (As := [.int 1]) (rest := []) (pc := 24) hX (c_X9_setsMarked g m a0 a1 a3 a4 a5 a7 a8 a10 a11 un sg mn ti dr rd op v 1 (by first | assumption | omega)) (CV.of mw732 mw733 mw28 mw52 mw734 ⟨rfl, by decide +kernel, by decide +kernel, by decide +kernel⟩ (T := TX9) (N := 16) rfl) (Nat.le_of_ble_eq_true rfl) (Nat.le_of_ble_eq_true rfl) (Nat.le_of_ble_eq_true rfl) (Nat.le_of_ble_eq_true rfl) 0 rfl [0, 1] (by decide +kernel) rfl rfl rfl (Nat.le_of_ble_eq_true rfl) dX9_greedy_24 (fun r7 wz hq8 => ?_)
      obtain ⟨rfl, rfl⟩ := hq8
      refine j_ws (ws2 := [(m, .inr (9, [.ref a0, .ref a1, .int (nI un), .ref a3, .ref a4, .ref a5, .int (nI sg), .ref a7, .ref a8, .int (nI mn), .ref a10, .ref a11, .int (nI ti), .int dr, .int (nI rd), .int op])), (a0, .inl (gI g, 60, .inl (nowF v)))]) rfl ?_
      refine j_istore_n (lv2 := [(0, .ref m), (1, .int w0), (2, .int (S_mk v.2.2.2.2 1 v.2.1))]) (pc := 27) hX dX9_greedy_27 [1, 2, 0] (by decide) rfl ?_
      refine j_bipush (v := (-6)) (pc := 28) hX dX9_greedy_28 (by decide) ?_
      refine j_istore_n (lv2 := [(0, .ref m), (1, .int w0), (2, .int (S_mk v.2.2.2.2 1 v.2.1)), (3, .int (-6))]) (pc := 30) hX dX9_greedy_30 [1, 2, 3, 0] (by decide) rfl ?_
      refine j_aload_n (pc := 31) hX dX9_greedy_31 0 rfl ?_
      refine j_get (ci := 9) (pc := 32) hX inG9 rfl 0 (by decide) mw624 0 rfl rfl dX9_greedy_32 ?_
      refine j_iconst (v := 1) (pc := 35) hX dX9_greedy_35 (by decide) ?_
      refine j_iald (pc := 36) hX 1 rfl 1 rfl (by omega) (by omega) dX9_greedy_36 ?_
      refine j_top (b := v.1) (rfl) ?_
      refine j_aload_n (pc := 37) hX dX9_greedy_37 0 rfl ?_
      refine j_iload_n (pc := 38) hX dX9_greedy_38 2 rfl ?_
      refine j_callVI (n := 1) (As := [.int (S_mk v.2.2.2.2 1 v.2.1)]) (rest := [.int v.1]) (pc := 39) hX (c_X9_thingsOf g m a0 a1 a3 a4 a5 a7 a8 a10 a11 un sg mn ti dr rd op v (S_mk v.2.2.2.2 1 v.2.1) (by first | assumption | omega)) (CV.of mw735 mw736 mw29 mw52 mw737 ⟨rfl, by decide +kernel, by decide +kernel, by decide +kernel⟩ (T := TX9) (N := 16) rfl) (Nat.le_of_ble_eq_true rfl) (Nat.le_of_ble_eq_true rfl) (Nat.le_of_ble_eq_true rfl) (Nat.le_of_ble_eq_true rfl) 0 rfl [0, 1] (by decide +kernel) rfl rfl rfl (Nat.le_of_ble_eq_true rfl) dX9_greedy_39 (fun r9 wz hq10 => ?_)
      obtain ⟨rfl, rfl⟩ := hq10
      refine j_ws (ws2 := [(m, .inr (9, [.ref a0, .ref a1, .int (nI un), .ref a3, .ref a4, .ref a5, .int (nI sg), .ref a7, .ref a8, .int (nI mn), .ref a10, .ref a11, .int (nI ti), .int dr, .int (nI rd), .int op])), (a0, .inl (gI g, 60, .inl (nowF v)))]) rfl ?_
      refine j_iconst (v := (-1)) (pc := 42) hX dX9_greedy_42 (by decide) ?_
      refine j_ixor (pc := 43) hX dX9_greedy_43 ?_
      refine j_iand (pc := 44) hX dX9_greedy_44 ?_
      refine j_istore (lv2 := [(0, .ref m), (1, .int w0), (2, .int (S_mk v.2.2.2.2 1 v.2.1)), (3, .int (-6)), (4, .int (v.1 &&& ((S_or v.2.2.1 (S_mk v.2.2.2.2 1 v.2.1) v.2.1) ^^^ (-1))))]) (pc := 45) hX dX9_greedy_45 [1, 2, 3, 4, 0] (by decide) rfl ?_
      have L47 : ∀ (d : Nat) (i : Nat) (y : GT), i ≤ 14 → gMs v (14 - i) y = gMR v → 14 - i = d → J g x 9 0 0 47 [(0, .ref m), (1, .int w0), (2, .int y.1), (3, .int y.2.1), (4, .int y.2.2)] [] [(m, .inr (9, [.ref a0, .ref a1, .int (nI un), .ref a3, .ref a4, .ref a5, .int (nI sg), .ref a7, .ref a8, .int (nI mn), .ref a10, .ref a11, .int (nI ti), .int dr, .int (nI rd), .int op])), (a0, .inl (gI g, 60, .inl (nowF v)))] := by
        intro d
        induction d using Nat.strongRecOn with
        | _ d ih47 =>
          intro i y hi hR hd47
          refine j_iload (pc := 47) hX dX9_greedy_47 4 rfl ?_
          refine j_if_eq (tgt := 167) (pc := 49) hX dX9_greedy_49 (by decide) (fun c49_11 => ?_) (fun c49_11 => ?_)
          · skip
            have hy : y = gMR v := (gMs_end v c49_11 (14 - i)).symm.trans hR
            subst hy
            refine j_iload_n (pc := 167) hX dX9_greedy_167 1 rfl ?_
            refine j_if_ne (tgt := 175) (pc := 168) hX dX9_greedy_168 (by decide) (fun c168_12 => ?_) (fun c168_12 => ?_)
            · skip
              refine j_iload_n (pc := 175) hX dX9_greedy_175 1 rfl ?_
              refine j_iconst (v := 1) (pc := 176) hX dX9_greedy_176 (by decide) ?_
              refine j_icmp_ne (tgt := 188) (pc := 177) hX dX9_greedy_177 (by decide) (fun c177_13 => ?_) (fun c177_13 => ?_)
              · skip
                refine j_iload_n (pc := 188) hX dX9_greedy_188 3 rfl ?_
                exact j_iret (pc := 189) hX hQ dX9_greedy_189 rfl ⟨(by unfold rGreedyM; (first | rw [if_pos c6_3b] | rw [if_neg c6_3b] | rw [if_neg (nbt c6_3b)]); (first | rw [if_pos c16_6b] | rw [if_neg c16_6b] | rw [if_neg (nbt c16_6b)]); (first | rw [if_pos c168_12] | rw [if_neg c168_12] | rw [if_neg (nbt c168_12)]); (first | rw [if_pos c177_13] | rw [if_neg c177_13] | rw [if_neg (nbt c177_13)]); try rfl), (by first | rfl | first | (simp only [jb_t, jb_f, c6_3, c6_3b, c16_6, c16_6b, c49_11, c168_12, c177_13, reduceIte, eq_self, decide_true, decide_false, Bool.and_true, Bool.true_and, Bool.and_false, Bool.false_and, Bool.and_self, not_true_eq_false, not_false_eq_true, and_true, true_and, and_false, false_and, and_self]; done) | (simp [jb_t, jb_f, c6_3, c6_3b, c16_6, c16_6b, c49_11, c168_12, c177_13]; done))⟩
              · skip
                refine j_aload_n (pc := 180) hX dX9_greedy_180 0 rfl ?_
                refine j_iload_n (pc := 181) hX dX9_greedy_181 2 rfl ?_
                refine j_callVI (n := 1) (As := [.int ((gMR v).1)]) (rest := []) (pc := 182) hX (c_X9_pricesOf g m a0 a1 a3 a4 a5 a7 a8 a10 a11 un sg mn ti dr rd op v ((gMR v).1) (by first | assumption | omega)) (CV.of mw783 mw784 mw39 mw52 mw785 ⟨rfl, by decide +kernel, by decide +kernel, by decide +kernel⟩ (T := TX9) (N := 16) rfl) (Nat.le_of_ble_eq_true rfl) (Nat.le_of_ble_eq_true rfl) (Nat.le_of_ble_eq_true rfl) (Nat.le_of_ble_eq_true rfl) 0 rfl [0, 1] (by decide +kernel) rfl rfl rfl (Nat.le_of_ble_eq_true rfl) dX9_greedy_182 (fun r14 wz hq15 => ?_)
                obtain ⟨rfl, rfl⟩ := hq15
                refine j_ws (ws2 := [(m, .inr (9, [.ref a0, .ref a1, .int (nI un), .ref a3, .ref a4, .ref a5, .int (nI sg), .ref a7, .ref a8, .int (nI mn), .ref a10, .ref a11, .int (nI ti), .int dr, .int (nI rd), .int op])), (a0, .inl (gI g, 60, .inl (nowF v)))]) rfl ?_
                refine j_goto (tgt := 189) (pc := 185) hX dX9_greedy_185 (by decide) ?_
                exact j_iret (pc := 189) hX hQ dX9_greedy_189 rfl ⟨(by unfold rGreedyM; (first | rw [if_pos c6_3b] | rw [if_neg c6_3b] | rw [if_neg (nbt c6_3b)]); (first | rw [if_pos c16_6b] | rw [if_neg c16_6b] | rw [if_neg (nbt c16_6b)]); (first | rw [if_pos c168_12] | rw [if_neg c168_12] | rw [if_neg (nbt c168_12)]); (first | rw [if_pos c177_13] | rw [if_neg c177_13] | rw [if_neg (nbt c177_13)]); try rfl), (by first | rfl | first | (simp only [jb_t, jb_f, c6_3, c6_3b, c16_6, c16_6b, c49_11, c168_12, c177_13, reduceIte, eq_self, decide_true, decide_false, Bool.and_true, Bool.true_and, Bool.and_false, Bool.false_and, Bool.and_self, not_true_eq_false, not_false_eq_true, and_true, true_and, and_false, false_and, and_self]; done) | (simp [jb_t, jb_f, c6_3, c6_3b, c16_6, c16_6b, c49_11, c168_12, c177_13]; done))⟩
            · skip
              refine j_iload_n (pc := 171) hX dX9_greedy_171 2 rfl ?_
              refine j_goto (tgt := 189) (pc := 172) hX dX9_greedy_172 (by decide) ?_
              exact j_iret (pc := 189) hX hQ dX9_greedy_189 rfl ⟨(by unfold rGreedyM; (first | rw [if_pos c6_3b] | rw [if_neg c6_3b] | rw [if_neg (nbt c6_3b)]); (first | rw [if_pos c16_6b] | rw [if_neg c16_6b] | rw [if_neg (nbt c16_6b)]); (first | rw [if_pos c168_12] | rw [if_neg c168_12] | rw [if_neg (nbt c168_12)]); try rfl), (by first | rfl | first | (simp only [jb_t, jb_f, c6_3, c6_3b, c16_6, c16_6b, c49_11, c168_12, reduceIte, eq_self, decide_true, decide_false, Bool.and_true, Bool.true_and, Bool.and_false, Bool.false_and, Bool.and_self, not_true_eq_false, not_false_eq_true, and_true, true_and, and_false, false_and, and_self]; done) | (simp [jb_t, jb_f, c6_3, c6_3b, c16_6, c16_6b, c49_11, c168_12]; done))⟩
          · skip
            refine j_bipush (v := (-6)) (pc := 52) hX dX9_greedy_52 (by decide) ?_
            refine j_istore (lv2 := [(0, .ref m), (1, .int w0), (2, .int y.1), (3, .int y.2.1), (4, .int y.2.2), (5, .int (-6))]) (pc := 54) hX dX9_greedy_54 [1, 2, 3, 4, 5, 0] (by decide) rfl ?_
            refine j_iconst (v := 0) (pc := 56) hX dX9_greedy_56 (by decide) ?_
            refine j_istore (lv2 := [(0, .ref m), (1, .int w0), (2, .int y.1), (3, .int y.2.1), (4, .int y.2.2), (5, .int (-6)), (6, .int 0)]) (pc := 57) hX dX9_greedy_57 [1, 2, 3, 4, 5, 6, 0] (by decide) rfl ?_
            refine j_iconst (v := 0) (pc := 59) hX dX9_greedy_59 (by decide) ?_
            refine j_istore (lv2 := [(0, .ref m), (1, .int w0), (2, .int y.1), (3, .int y.2.1), (4, .int y.2.2), (5, .int (-6)), (6, .int 0), (7, .int 0)]) (pc := 60) hX dX9_greedy_60 [1, 2, 3, 4, 5, 6, 7, 0] (by decide) rfl ?_
            have L62 : ∀ (d : Nat) (k : Nat), k ≤ v.2.1 → v.2.1 - k = d → J g x 9 0 0 62 [(0, .ref m), (1, .int w0), (2, .int y.1), (3, .int y.2.1), (4, .int y.2.2), (5, .int (oN (gMb v y.2.2 k).1)), (6, .int ((gMb v y.2.2 k).2)), (7, .int (nI k))] [] [(m, .inr (9, [.ref a0, .ref a1, .int (nI un), .ref a3, .ref a4, .ref a5, .int (nI sg), .ref a7, .ref a8, .int (nI mn), .ref a10, .ref a11, .int (nI ti), .int dr, .int (nI rd), .int op])), (a0, .inl (gI g, 60, .inl (nowF v)))] := by
              intro d
              induction d using Nat.strongRecOn with
              | _ d ih62 =>
                intro k hk hd62
                refine j_iload (pc := 62) hX dX9_greedy_62 7 rfl ?_
                refine j_aload_n (pc := 64) hX dX9_greedy_64 0 rfl ?_
                refine j_get (ci := 9) (pc := 65) hX inG9 rfl 0 (by decide) mw624 0 rfl rfl dX9_greedy_65 ?_
                refine j_iconst (v := 0) (pc := 68) hX dX9_greedy_68 (by decide) ?_
                refine j_iald (pc := 69) hX 1 rfl 0 rfl (by omega) (by omega) dX9_greedy_69 ?_
                refine j_top (b := nI v.2.1) (rfl) ?_
                refine j_icmp_ge (tgt := 141) (pc := 70) hX dX9_greedy_70 (by decide) (fun c70_16 => ?_) (fun c70_16 => ?_)
                · skip
                  have c70_16n : v.2.1 ≤ k := (nI_leI (a := v.2.1) (b := k) (by omega) (by omega)).mp c70_16
                  have c70_16m : ¬ k < v.2.1 := by omega
                  obtain ⟨hi14, bz, hbz, hbn, hbR⟩ := gMs_b hi hR (hf c16_6b) c49_11
                  have hkn : k = v.2.1 := by omega
                  subst hkn
                  refine j_lv (lv2 := [(0, .ref m), (1, .int w0), (2, .int y.1), (3, .int y.2.1), (4, .int y.2.2), (5, .int (nI bz)), (6, .int ((gMb v y.2.2 v.2.1).2)), (7, .int (nI v.2.1))]) (by rw [hbz]; rfl) ?_
                  refine j_iload_n (pc := 141) hX dX9_greedy_141 2 rfl ?_
                  refine j_iconst (v := 1) (pc := 142) hX dX9_greedy_142 (by decide) ?_
                  refine j_iload (pc := 143) hX dX9_greedy_143 5 rfl ?_
                  refine j_ishl (pc := 145) hX dX9_greedy_145 ?_
                  refine j_top (b := bI bz) rfl ?_
                  refine j_ior (pc := 146) hX dX9_greedy_146 ?_
                  refine j_istore_n (lv2 := [(0, .ref m), (1, .int w0), (2, .int (y.1 ||| (bI bz))), (3, .int y.2.1), (4, .int y.2.2), (5, .int (nI bz)), (6, .int ((gMb v y.2.2 v.2.1).2)), (7, .int (nI v.2.1))]) (pc := 147) hX dX9_greedy_147 [1, 2, 0, 3, 4, 5, 6, 7] (by decide) rfl ?_
                  refine j_iload (pc := 148) hX dX9_greedy_148 5 rfl ?_
                  refine j_istore_n (lv2 := [(0, .ref m), (1, .int w0), (2, .int (y.1 ||| (bI bz))), (3, .int (nI bz)), (4, .int y.2.2), (5, .int (nI bz)), (6, .int ((gMb v y.2.2 v.2.1).2)), (7, .int (nI v.2.1))]) (pc := 150) hX dX9_greedy_150 [1, 2, 3, 0, 4, 5, 6, 7] (by decide) rfl ?_
                  refine j_iload (pc := 151) hX dX9_greedy_151 4 rfl ?_
                  refine j_aload_n (pc := 153) hX dX9_greedy_153 0 rfl ?_
                  refine j_iload (pc := 154) hX dX9_greedy_154 5 rfl ?_
                  refine j_callVI (n := 1) (As := [.int (nI bz)]) (rest := [.int y.2.2]) (pc := 156) hX (c_X9_things g m a0 a1 a3 a4 a5 a7 a8 a10 a11 un sg mn ti dr rd op v bz (by first | assumption | omega)) (CV.of mw695 mw696 mw24 mw52 mw697 ⟨rfl, by decide +kernel, by decide +kernel, by decide +kernel⟩ (T := TX9) (N := 16) rfl) (Nat.le_of_ble_eq_true rfl) (Nat.le_of_ble_eq_true rfl) (Nat.le_of_ble_eq_true rfl) (Nat.le_of_ble_eq_true rfl) 0 rfl [0, 1] (by decide +kernel) rfl rfl rfl (Nat.le_of_ble_eq_true rfl) dX9_greedy_156 (fun r17 wz hq18 => ?_)
                  obtain ⟨rfl, rfl⟩ := hq18
                  refine j_ws (ws2 := [(m, .inr (9, [.ref a0, .ref a1, .int (nI un), .ref a3, .ref a4, .ref a5, .int (nI sg), .ref a7, .ref a8, .int (nI mn), .ref a10, .ref a11, .int (nI ti), .int dr, .int (nI rd), .int op])), (a0, .inl (gI g, 60, .inl (nowF v)))]) rfl ?_
                  refine j_iconst (v := (-1)) (pc := 159) hX dX9_greedy_159 (by decide) ?_
                  refine j_ixor (pc := 160) hX dX9_greedy_160 ?_
                  refine j_iand (pc := 161) hX dX9_greedy_161 ?_
                  refine j_istore (lv2 := [(0, .ref m), (1, .int w0), (2, .int (y.1 ||| (bI bz))), (3, .int (nI bz)), (4, .int (y.2.2 &&& ((v.2.2.1 bz) ^^^ (-1)))), (5, .int (nI bz)), (6, .int ((gMb v y.2.2 v.2.1).2)), (7, .int (nI v.2.1))]) (pc := 162) hX dX9_greedy_162 [1, 2, 3, 4, 0, 5, 6, 7] (by decide) rfl ?_
                  refine j_goto (tgt := 47) (pc := 164) hX dX9_greedy_164 (by decide) ?_
                  refine j_lvs (lv2 := [(0, .ref m), (1, .int w0), (2, .int (y.1 ||| (bI bz))), (3, .int (nI bz)), (4, .int (y.2.2 &&& ((v.2.2.1 bz) ^^^ (-1))))]) [0, 1, 2, 3, 4] rfl ?_
                  exact j_eq (lv2 := [(0, .ref m), (1, .int w0), (2, .int (y.1 ||| bI bz, nI bz, y.2.2 &&& (v.2.2.1 bz ^^^ (-1))).1), (3, .int (y.1 ||| bI bz, nI bz, y.2.2 &&& (v.2.2.1 bz ^^^ (-1))).2.1), (4, .int (y.1 ||| bI bz, nI bz, y.2.2 &&& (v.2.2.1 bz ^^^ (-1))).2.2)]) (ws2 := [(m, .inr (9, [.ref a0, .ref a1, .int (nI un), .ref a3, .ref a4, .ref a5, .int (nI sg), .ref a7, .ref a8, .int (nI mn), .ref a10, .ref a11, .int (nI ti), .int dr, .int (nI rd), .int op])), (a0, .inl (gI g, 60, .inl (nowF v)))]) (by first | rfl | first | (simp only [jb_t, jb_f, c6_3, c6_3b, c16_6, c16_6b, c49_11, c70_16, c70_16n, c70_16m, reduceIte, eq_self, decide_true, decide_false, Bool.and_true, Bool.true_and, Bool.and_false, Bool.false_and, Bool.and_self, not_true_eq_false, not_false_eq_true, and_true, true_and, and_false, false_and, and_self]; done) | (simp [jb_t, jb_f, c6_3, c6_3b, c16_6, c16_6b, c49_11, c70_16, c70_16n, c70_16m]; done)) (by first | rfl | first | (simp only [jb_t, jb_f, c6_3, c6_3b, c16_6, c16_6b, c49_11, c70_16, c70_16n, c70_16m, reduceIte, eq_self, decide_true, decide_false, Bool.and_true, Bool.true_and, Bool.and_false, Bool.false_and, Bool.and_self, not_true_eq_false, not_false_eq_true, and_true, true_and, and_false, false_and, and_self]; done) | (simp [jb_t, jb_f, c6_3, c6_3b, c16_6, c16_6b, c49_11, c70_16, c70_16n, c70_16m]; done)) (ih47 _ (by omega) (i + 1) (y.1 ||| bI bz, nI bz, y.2.2 &&& (v.2.2.1 bz ^^^ (-1))) (by omega) (hbR) rfl)
                · skip
                  have c70_16n : ¬ v.2.1 ≤ k := fun h9 => c70_16 ((nI_leI (a := v.2.1) (b := k) (by omega) (by omega)).mpr h9)
                  have c70_16m : k < v.2.1 := by omega
                  refine j_aload_n (pc := 73) hX dX9_greedy_73 0 rfl ?_
                  refine j_iload (pc := 74) hX dX9_greedy_74 7 rfl ?_
                  refine j_callVI (n := 1) (As := [.int (nI k)]) (rest := []) (pc := 76) hX (c_X9_things g m a0 a1 a3 a4 a5 a7 a8 a10 a11 un sg mn ti dr rd op v k (by first | assumption | omega)) (CV.of mw695 mw696 mw24 mw52 mw697 ⟨rfl, by decide +kernel, by decide +kernel, by decide +kernel⟩ (T := TX9) (N := 16) rfl) (Nat.le_of_ble_eq_true rfl) (Nat.le_of_ble_eq_true rfl) (Nat.le_of_ble_eq_true rfl) (Nat.le_of_ble_eq_true rfl) 0 rfl [0, 1] (by decide +kernel) rfl rfl rfl (Nat.le_of_ble_eq_true rfl) dX9_greedy_76 (fun r19 wz hq20 => ?_)
                  obtain ⟨rfl, rfl⟩ := hq20
                  refine j_ws (ws2 := [(m, .inr (9, [.ref a0, .ref a1, .int (nI un), .ref a3, .ref a4, .ref a5, .int (nI sg), .ref a7, .ref a8, .int (nI mn), .ref a10, .ref a11, .int (nI ti), .int dr, .int (nI rd), .int op])), (a0, .inl (gI g, 60, .inl (nowF v)))]) rfl ?_
                  refine j_iload (pc := 79) hX dX9_greedy_79 4 rfl ?_
                  refine j_iand (pc := 81) hX dX9_greedy_81 ?_
                  refine j_callSI (n := 1) (As := [.int ((v.2.2.1 k) &&& y.2.2)]) (rest := []) (pc := 82) hX (c_X9_size g ((v.2.2.1 k) &&& y.2.2) ) (CS.of mw776 mw777 mw52 mw778 ⟨by decide +kernel, by decide +kernel, by decide +kernel⟩) (Nat.le_of_ble_eq_true rfl) (Nat.le_of_ble_eq_true rfl) (Nat.le_of_ble_eq_true rfl) (Nat.le_of_ble_eq_true rfl) [] (by decide +kernel) rfl rfl rfl (Nat.le_of_ble_eq_true rfl) dX9_greedy_82 (fun r21 wz hq22 => ?_)
                  obtain ⟨rfl, rfl⟩ := hq22
                  refine j_ws (ws2 := [(m, .inr (9, [.ref a0, .ref a1, .int (nI un), .ref a3, .ref a4, .ref a5, .int (nI sg), .ref a7, .ref a8, .int (nI mn), .ref a10, .ref a11, .int (nI ti), .int dr, .int (nI rd), .int op])), (a0, .inl (gI g, 60, .inl (nowF v)))]) rfl ?_
                  refine j_istore (lv2 := [(0, .ref m), (1, .int w0), (2, .int y.1), (3, .int y.2.1), (4, .int y.2.2), (5, .int (oN (gMb v y.2.2 k).1)), (6, .int ((gMb v y.2.2 k).2)), (7, .int (nI k)), (8, .int (S_size ((v.2.2.1 k) &&& y.2.2) 18))]) (pc := 85) hX dX9_greedy_85 [1, 2, 3, 4, 5, 6, 7, 8, 0] (by decide) rfl ?_
                  refine j_aload_n (pc := 87) hX dX9_greedy_87 0 rfl ?_
                  refine j_iload (pc := 88) hX dX9_greedy_88 7 rfl ?_
                  refine j_callVI (n := 1) (As := [.int (nI k)]) (rest := []) (pc := 90) hX (c_X9_markOf g m a0 a1 a3 a4 a5 a7 a8 a10 a11 un sg mn ti dr rd op v k (by first | assumption | omega)) (CV.of mw688 mw689 mw23 mw52 mw690 ⟨rfl, by decide +kernel, by decide +kernel, by decide +kernel⟩ (T := TX9) (N := 16) rfl) (Nat.le_of_ble_eq_true rfl) (Nat.le_of_ble_eq_true rfl) (Nat.le_of_ble_eq_true rfl) (Nat.le_of_ble_eq_true rfl) 0 rfl [0, 1] (by decide +kernel) rfl rfl rfl (Nat.le_of_ble_eq_true rfl) dX9_greedy_90 (fun r23 wz hq24 => ?_)
                  obtain ⟨rfl, rfl⟩ := hq24
                  refine j_ws (ws2 := [(m, .inr (9, [.ref a0, .ref a1, .int (nI un), .ref a3, .ref a4, .ref a5, .int (nI sg), .ref a7, .ref a8, .int (nI mn), .ref a10, .ref a11, .int (nI ti), .int dr, .int (nI rd), .int op])), (a0, .inl (gI g, 60, .inl (nowF v)))]) rfl ?_
                  refine j_if_ne (tgt := 135) (pc := 93) hX dX9_greedy_93 (by decide) (fun c93_25 => ?_) (fun c93_25 => ?_)
                  · skip
                    refine j_iinc (v := nI (k + 1)) (lv2 := [(0, .ref m), (1, .int w0), (2, .int y.1), (3, .int y.2.1), (4, .int y.2.2), (5, .int (oN (gMb v y.2.2 k).1)), (6, .int ((gMb v y.2.2 k).2)), (7, .int (nI (k + 1))), (8, .int (S_size ((v.2.2.1 k) &&& y.2.2) 18))]) (pc := 135) hX dX9_greedy_135 7 rfl (nI_add k 1) [1, 2, 3, 4, 5, 6, 7, 0, 8] (by decide) rfl ?_
                    refine j_goto (tgt := 62) (pc := 138) hX dX9_greedy_138 (by decide) ?_
                    refine j_lvs (lv2 := [(0, .ref m), (1, .int w0), (2, .int y.1), (3, .int y.2.1), (4, .int y.2.2), (5, .int (oN (gMb v y.2.2 k).1)), (6, .int ((gMb v y.2.2 k).2)), (7, .int (nI (k + 1)))]) [0, 1, 2, 3, 4, 5, 6, 7] rfl ?_
                    exact j_eq (lv2 := [(0, .ref m), (1, .int w0), (2, .int y.1), (3, .int y.2.1), (4, .int y.2.2), (5, .int (oN (gMb v y.2.2 (k + 1)).1)), (6, .int ((gMb v y.2.2 (k + 1)).2)), (7, .int (nI (k + 1)))]) (ws2 := [(m, .inr (9, [.ref a0, .ref a1, .int (nI un), .ref a3, .ref a4, .ref a5, .int (nI sg), .ref a7, .ref a8, .int (nI mn), .ref a10, .ref a11, .int (nI ti), .int dr, .int (nI rd), .int op])), (a0, .inl (gI g, 60, .inl (nowF v)))]) (by first | rfl | (rw [gMb]; (first | rw [if_pos c93_25] | rw [if_neg c93_25] | rw [if_neg (nbt c93_25)]); first | done | rfl | (rw [hb0]; rfl))) (by first | rfl | (rw [gMb]; (first | rw [if_pos c93_25] | rw [if_neg c93_25] | rw [if_neg (nbt c93_25)]); first | done | rfl | (rw [hb0]; rfl))) (ih62 _ (by omega) (k + 1) (by omega) rfl)
                  · skip
                    refine j_iload (pc := 96) hX dX9_greedy_96 8 rfl ?_
                    refine j_if_le (tgt := 135) (pc := 98) hX dX9_greedy_98 (by decide) (fun c98_26 => ?_) (fun c98_26 => ?_)
                    · skip
                      refine j_iinc (v := nI (k + 1)) (lv2 := [(0, .ref m), (1, .int w0), (2, .int y.1), (3, .int y.2.1), (4, .int y.2.2), (5, .int (oN (gMb v y.2.2 k).1)), (6, .int ((gMb v y.2.2 k).2)), (7, .int (nI (k + 1))), (8, .int (S_size ((v.2.2.1 k) &&& y.2.2) 18))]) (pc := 135) hX dX9_greedy_135 7 rfl (nI_add k 1) [1, 2, 3, 4, 5, 6, 7, 0, 8] (by decide) rfl ?_
                      refine j_goto (tgt := 62) (pc := 138) hX dX9_greedy_138 (by decide) ?_
                      refine j_lvs (lv2 := [(0, .ref m), (1, .int w0), (2, .int y.1), (3, .int y.2.1), (4, .int y.2.2), (5, .int (oN (gMb v y.2.2 k).1)), (6, .int ((gMb v y.2.2 k).2)), (7, .int (nI (k + 1)))]) [0, 1, 2, 3, 4, 5, 6, 7] rfl ?_
                      exact j_eq (lv2 := [(0, .ref m), (1, .int w0), (2, .int y.1), (3, .int y.2.1), (4, .int y.2.2), (5, .int (oN (gMb v y.2.2 (k + 1)).1)), (6, .int ((gMb v y.2.2 (k + 1)).2)), (7, .int (nI (k + 1)))]) (ws2 := [(m, .inr (9, [.ref a0, .ref a1, .int (nI un), .ref a3, .ref a4, .ref a5, .int (nI sg), .ref a7, .ref a8, .int (nI mn), .ref a10, .ref a11, .int (nI ti), .int dr, .int (nI rd), .int op])), (a0, .inl (gI g, 60, .inl (nowF v)))]) (by first | rfl | (rw [gMb]; (first | rw [if_pos c93_25] | rw [if_neg c93_25] | rw [if_neg (nbt c93_25)]); (first | rw [if_pos c98_26] | rw [if_neg c98_26] | rw [if_neg (nbt c98_26)]); first | done | rfl | (rw [hb0]; rfl))) (by first | rfl | (rw [gMb]; (first | rw [if_pos c93_25] | rw [if_neg c93_25] | rw [if_neg (nbt c93_25)]); (first | rw [if_pos c98_26] | rw [if_neg c98_26] | rw [if_neg (nbt c98_26)]); first | done | rfl | (rw [hb0]; rfl))) (ih62 _ (by omega) (k + 1) (by omega) rfl)
                    · skip
                      refine j_iload (pc := 101) hX dX9_greedy_101 5 rfl ?_
                      refine j_if_lt (tgt := 127) (pc := 103) hX dX9_greedy_103 (by decide) (fun c103_27 => ?_) (fun c103_27 => ?_)
                      · skip
                        refine j_iload (pc := 127) hX dX9_greedy_127 7 rfl ?_
                        refine j_istore (lv2 := [(0, .ref m), (1, .int w0), (2, .int y.1), (3, .int y.2.1), (4, .int y.2.2), (5, .int (nI k)), (6, .int ((gMb v y.2.2 k).2)), (7, .int (nI k)), (8, .int (S_size ((v.2.2.1 k) &&& y.2.2) 18))]) (pc := 129) hX dX9_greedy_129 [1, 2, 3, 4, 5, 0, 6, 7, 8] (by decide) rfl ?_
                        refine j_iload (pc := 131) hX dX9_greedy_131 8 rfl ?_
                        refine j_istore (lv2 := [(0, .ref m), (1, .int w0), (2, .int y.1), (3, .int y.2.1), (4, .int y.2.2), (5, .int (nI k)), (6, .int (S_size ((v.2.2.1 k) &&& y.2.2) 18)), (7, .int (nI k)), (8, .int (S_size ((v.2.2.1 k) &&& y.2.2) 18))]) (pc := 133) hX dX9_greedy_133 [1, 2, 3, 4, 5, 6, 0, 7, 8] (by decide) rfl ?_
                        refine j_iinc (v := nI (k + 1)) (lv2 := [(0, .ref m), (1, .int w0), (2, .int y.1), (3, .int y.2.1), (4, .int y.2.2), (5, .int (nI k)), (6, .int (S_size ((v.2.2.1 k) &&& y.2.2) 18)), (7, .int (nI (k + 1))), (8, .int (S_size ((v.2.2.1 k) &&& y.2.2) 18))]) (pc := 135) hX dX9_greedy_135 7 rfl (nI_add k 1) [1, 2, 3, 4, 5, 6, 7, 0, 8] (by decide) rfl ?_
                        refine j_goto (tgt := 62) (pc := 138) hX dX9_greedy_138 (by decide) ?_
                        refine j_lvs (lv2 := [(0, .ref m), (1, .int w0), (2, .int y.1), (3, .int y.2.1), (4, .int y.2.2), (5, .int (nI k)), (6, .int (S_size ((v.2.2.1 k) &&& y.2.2) 18)), (7, .int (nI (k + 1)))]) [0, 1, 2, 3, 4, 5, 6, 7] rfl ?_
                        exact j_eq (lv2 := [(0, .ref m), (1, .int w0), (2, .int y.1), (3, .int y.2.1), (4, .int y.2.2), (5, .int (oN (gMb v y.2.2 (k + 1)).1)), (6, .int ((gMb v y.2.2 (k + 1)).2)), (7, .int (nI (k + 1)))]) (ws2 := [(m, .inr (9, [.ref a0, .ref a1, .int (nI un), .ref a3, .ref a4, .ref a5, .int (nI sg), .ref a7, .ref a8, .int (nI mn), .ref a10, .ref a11, .int (nI ti), .int dr, .int (nI rd), .int op])), (a0, .inl (gI g, 60, .inl (nowF v)))]) (by first | rfl | (rw [gMb]; (first | rw [if_pos c93_25] | rw [if_neg c93_25] | rw [if_neg (nbt c93_25)]); (first | rw [if_pos c98_26] | rw [if_neg c98_26] | rw [if_neg (nbt c98_26)]); (first | rw [if_pos c103_27] | rw [if_neg c103_27] | rw [if_neg (nbt c103_27)]); first | done | rfl | (rw [hb0]; rfl))) (by first | rfl | (rw [gMb]; (first | rw [if_pos c93_25] | rw [if_neg c93_25] | rw [if_neg (nbt c93_25)]); (first | rw [if_pos c98_26] | rw [if_neg c98_26] | rw [if_neg (nbt c98_26)]); (first | rw [if_pos c103_27] | rw [if_neg c103_27] | rw [if_neg (nbt c103_27)]); first | done | rfl | (rw [hb0]; rfl))) (ih62 _ (by omega) (k + 1) (by omega) rfl)
                      · skip
                        obtain ⟨b0, hb0, hbk⟩ := gMb_some c103_27
                        refine j_lv (lv2 := [(0, .ref m), (1, .int w0), (2, .int y.1), (3, .int y.2.1), (4, .int y.2.2), (5, .int (nI b0)), (6, .int ((gMb v y.2.2 k).2)), (7, .int (nI k)), (8, .int (S_size ((v.2.2.1 k) &&& y.2.2) 18))]) (by rw [hb0]; rfl) ?_
                        refine j_aload_n (pc := 106) hX dX9_greedy_106 0 rfl ?_
                        refine j_iload (pc := 107) hX dX9_greedy_107 7 rfl ?_
                        refine j_callVI (n := 1) (As := [.int (nI k)]) (rest := []) (pc := 109) hX (c_X9_priceOf g m a0 a1 a3 a4 a5 a7 a8 a10 a11 un sg mn ti dr rd op v k (by first | assumption | omega)) (CV.of mw681 mw682 mw22 mw52 mw683 ⟨rfl, by decide +kernel, by decide +kernel, by decide +kernel⟩ (T := TX9) (N := 16) rfl) (Nat.le_of_ble_eq_true rfl) (Nat.le_of_ble_eq_true rfl) (Nat.le_of_ble_eq_true rfl) (Nat.le_of_ble_eq_true rfl) 0 rfl [0, 1] (by decide +kernel) rfl rfl rfl (Nat.le_of_ble_eq_true rfl) dX9_greedy_109 (fun r28 wz hq29 => ?_)
                        obtain ⟨rfl, rfl⟩ := hq29
                        refine j_ws (ws2 := [(m, .inr (9, [.ref a0, .ref a1, .int (nI un), .ref a3, .ref a4, .ref a5, .int (nI sg), .ref a7, .ref a8, .int (nI mn), .ref a10, .ref a11, .int (nI ti), .int dr, .int (nI rd), .int op])), (a0, .inl (gI g, 60, .inl (nowF v)))]) rfl ?_
                        refine j_iload (pc := 112) hX dX9_greedy_112 6 rfl ?_
                        refine j_imul (pc := 114) hX dX9_greedy_114 ?_
                        refine j_aload_n (pc := 115) hX dX9_greedy_115 0 rfl ?_
                        refine j_iload (pc := 116) hX dX9_greedy_116 5 rfl ?_
                        refine j_callVI (n := 1) (As := [.int (nI b0)]) (rest := [.int ((v.2.2.2.1 k) * ((gMb v y.2.2 k).2))]) (pc := 118) hX (c_X9_priceOf g m a0 a1 a3 a4 a5 a7 a8 a10 a11 un sg mn ti dr rd op v b0 (by first | assumption | omega)) (CV.of mw681 mw682 mw22 mw52 mw683 ⟨rfl, by decide +kernel, by decide +kernel, by decide +kernel⟩ (T := TX9) (N := 16) rfl) (Nat.le_of_ble_eq_true rfl) (Nat.le_of_ble_eq_true rfl) (Nat.le_of_ble_eq_true rfl) (Nat.le_of_ble_eq_true rfl) 0 rfl [0, 1] (by decide +kernel) rfl rfl rfl (Nat.le_of_ble_eq_true rfl) dX9_greedy_118 (fun r30 wz hq31 => ?_)
                        obtain ⟨rfl, rfl⟩ := hq31
                        refine j_ws (ws2 := [(m, .inr (9, [.ref a0, .ref a1, .int (nI un), .ref a3, .ref a4, .ref a5, .int (nI sg), .ref a7, .ref a8, .int (nI mn), .ref a10, .ref a11, .int (nI ti), .int dr, .int (nI rd), .int op])), (a0, .inl (gI g, 60, .inl (nowF v)))]) rfl ?_
                        refine j_iload (pc := 121) hX dX9_greedy_121 8 rfl ?_
                        refine j_imul (pc := 123) hX dX9_greedy_123 ?_
                        refine j_icmp_ge (tgt := 135) (pc := 124) hX dX9_greedy_124 (by decide) (fun c124_32 => ?_) (fun c124_32 => ?_)
                        · skip
                          refine j_iinc (v := nI (k + 1)) (lv2 := [(0, .ref m), (1, .int w0), (2, .int y.1), (3, .int y.2.1), (4, .int y.2.2), (5, .int (nI b0)), (6, .int ((gMb v y.2.2 k).2)), (7, .int (nI (k + 1))), (8, .int (S_size ((v.2.2.1 k) &&& y.2.2) 18))]) (pc := 135) hX dX9_greedy_135 7 rfl (nI_add k 1) [1, 2, 3, 4, 5, 6, 7, 0, 8] (by decide) rfl ?_
                          refine j_goto (tgt := 62) (pc := 138) hX dX9_greedy_138 (by decide) ?_
                          refine j_lvs (lv2 := [(0, .ref m), (1, .int w0), (2, .int y.1), (3, .int y.2.1), (4, .int y.2.2), (5, .int (nI b0)), (6, .int ((gMb v y.2.2 k).2)), (7, .int (nI (k + 1)))]) [0, 1, 2, 3, 4, 5, 6, 7] rfl ?_
                          exact j_eq (lv2 := [(0, .ref m), (1, .int w0), (2, .int y.1), (3, .int y.2.1), (4, .int y.2.2), (5, .int (oN (gMb v y.2.2 (k + 1)).1)), (6, .int ((gMb v y.2.2 (k + 1)).2)), (7, .int (nI (k + 1)))]) (ws2 := [(m, .inr (9, [.ref a0, .ref a1, .int (nI un), .ref a3, .ref a4, .ref a5, .int (nI sg), .ref a7, .ref a8, .int (nI mn), .ref a10, .ref a11, .int (nI ti), .int dr, .int (nI rd), .int op])), (a0, .inl (gI g, 60, .inl (nowF v)))]) (by first | rfl | (rw [gMb]; (first | rw [if_pos c93_25] | rw [if_neg c93_25] | rw [if_neg (nbt c93_25)]); (first | rw [if_pos c98_26] | rw [if_neg c98_26] | rw [if_neg (nbt c98_26)]); (first | rw [if_pos c103_27] | rw [if_neg c103_27] | rw [if_neg (nbt c103_27)]); rw [hb0]; (first | rw [if_pos (show PB v (some b0) * _ ≤ _ from c124_32)] | rw [if_neg (show ¬ PB v (some b0) * _ ≤ _ from c124_32)]); first | done | rfl | (rw [hb0]; rfl))) (by first | rfl | (rw [gMb]; (first | rw [if_pos c93_25] | rw [if_neg c93_25] | rw [if_neg (nbt c93_25)]); (first | rw [if_pos c98_26] | rw [if_neg c98_26] | rw [if_neg (nbt c98_26)]); (first | rw [if_pos c103_27] | rw [if_neg c103_27] | rw [if_neg (nbt c103_27)]); rw [hb0]; (first | rw [if_pos (show PB v (some b0) * _ ≤ _ from c124_32)] | rw [if_neg (show ¬ PB v (some b0) * _ ≤ _ from c124_32)]); first | done | rfl | (rw [hb0]; rfl))) (ih62 _ (by omega) (k + 1) (by omega) rfl)
                        · skip
                          refine j_iload (pc := 127) hX dX9_greedy_127 7 rfl ?_
                          refine j_istore (lv2 := [(0, .ref m), (1, .int w0), (2, .int y.1), (3, .int y.2.1), (4, .int y.2.2), (5, .int (nI k)), (6, .int ((gMb v y.2.2 k).2)), (7, .int (nI k)), (8, .int (S_size ((v.2.2.1 k) &&& y.2.2) 18))]) (pc := 129) hX dX9_greedy_129 [1, 2, 3, 4, 5, 0, 6, 7, 8] (by decide) rfl ?_
                          refine j_iload (pc := 131) hX dX9_greedy_131 8 rfl ?_
                          refine j_istore (lv2 := [(0, .ref m), (1, .int w0), (2, .int y.1), (3, .int y.2.1), (4, .int y.2.2), (5, .int (nI k)), (6, .int (S_size ((v.2.2.1 k) &&& y.2.2) 18)), (7, .int (nI k)), (8, .int (S_size ((v.2.2.1 k) &&& y.2.2) 18))]) (pc := 133) hX dX9_greedy_133 [1, 2, 3, 4, 5, 6, 0, 7, 8] (by decide) rfl ?_
                          refine j_iinc (v := nI (k + 1)) (lv2 := [(0, .ref m), (1, .int w0), (2, .int y.1), (3, .int y.2.1), (4, .int y.2.2), (5, .int (nI k)), (6, .int (S_size ((v.2.2.1 k) &&& y.2.2) 18)), (7, .int (nI (k + 1))), (8, .int (S_size ((v.2.2.1 k) &&& y.2.2) 18))]) (pc := 135) hX dX9_greedy_135 7 rfl (nI_add k 1) [1, 2, 3, 4, 5, 6, 7, 0, 8] (by decide) rfl ?_
                          refine j_goto (tgt := 62) (pc := 138) hX dX9_greedy_138 (by decide) ?_
                          refine j_lvs (lv2 := [(0, .ref m), (1, .int w0), (2, .int y.1), (3, .int y.2.1), (4, .int y.2.2), (5, .int (nI k)), (6, .int (S_size ((v.2.2.1 k) &&& y.2.2) 18)), (7, .int (nI (k + 1)))]) [0, 1, 2, 3, 4, 5, 6, 7] rfl ?_
                          exact j_eq (lv2 := [(0, .ref m), (1, .int w0), (2, .int y.1), (3, .int y.2.1), (4, .int y.2.2), (5, .int (oN (gMb v y.2.2 (k + 1)).1)), (6, .int ((gMb v y.2.2 (k + 1)).2)), (7, .int (nI (k + 1)))]) (ws2 := [(m, .inr (9, [.ref a0, .ref a1, .int (nI un), .ref a3, .ref a4, .ref a5, .int (nI sg), .ref a7, .ref a8, .int (nI mn), .ref a10, .ref a11, .int (nI ti), .int dr, .int (nI rd), .int op])), (a0, .inl (gI g, 60, .inl (nowF v)))]) (by first | rfl | (rw [gMb]; (first | rw [if_pos c93_25] | rw [if_neg c93_25] | rw [if_neg (nbt c93_25)]); (first | rw [if_pos c98_26] | rw [if_neg c98_26] | rw [if_neg (nbt c98_26)]); (first | rw [if_pos c103_27] | rw [if_neg c103_27] | rw [if_neg (nbt c103_27)]); rw [hb0]; (first | rw [if_pos (show PB v (some b0) * _ ≤ _ from c124_32)] | rw [if_neg (show ¬ PB v (some b0) * _ ≤ _ from c124_32)]); first | done | rfl | (rw [hb0]; rfl))) (by first | rfl | (rw [gMb]; (first | rw [if_pos c93_25] | rw [if_neg c93_25] | rw [if_neg (nbt c93_25)]); (first | rw [if_pos c98_26] | rw [if_neg c98_26] | rw [if_neg (nbt c98_26)]); (first | rw [if_pos c103_27] | rw [if_neg c103_27] | rw [if_neg (nbt c103_27)]); rw [hb0]; (first | rw [if_pos (show PB v (some b0) * _ ≤ _ from c124_32)] | rw [if_neg (show ¬ PB v (some b0) * _ ≤ _ from c124_32)]); first | done | rfl | (rw [hb0]; rfl))) (ih62 _ (by omega) (k + 1) (by omega) rfl)
            exact j_eq (lv2 := [(0, .ref m), (1, .int w0), (2, .int y.1), (3, .int y.2.1), (4, .int y.2.2), (5, .int (oN (gMb v y.2.2 0).1)), (6, .int ((gMb v y.2.2 0).2)), (7, .int (nI 0))]) (ws2 := [(m, .inr (9, [.ref a0, .ref a1, .int (nI un), .ref a3, .ref a4, .ref a5, .int (nI sg), .ref a7, .ref a8, .int (nI mn), .ref a10, .ref a11, .int (nI ti), .int dr, .int (nI rd), .int op])), (a0, .inl (gI g, 60, .inl (nowF v)))]) (rfl) (rfl) (L62 _ 0 (by omega) rfl)
      exact j_eq (lv2 := [(0, .ref m), (1, .int w0), (2, .int (gM0 v).1), (3, .int (gM0 v).2.1), (4, .int (gM0 v).2.2)]) (ws2 := [(m, .inr (9, [.ref a0, .ref a1, .int (nI un), .ref a3, .ref a4, .ref a5, .int (nI sg), .ref a7, .ref a8, .int (nI mn), .ref a10, .ref a11, .int (nI ti), .int dr, .int (nI rd), .int op])), (a0, .inl (gI g, 60, .inl (nowF v)))]) (rfl) (rfl) (L47 _ 0 (gM0 v) (by omega) (rfl) rfl)
    · skip
      have c16_6b : (hasM v) = false := jb_0.mp c16_6
      refine j_bipush (v := (-5)) (pc := 19) hX dX9_greedy_19 (by decide) ?_
      exact j_iret (pc := 21) hX hQ dX9_greedy_21 rfl ⟨(by unfold rGreedyM; (first | rw [if_pos c6_3b] | rw [if_neg c6_3b] | rw [if_neg (nbt c6_3b)]); (first | rw [if_pos c16_6b] | rw [if_neg c16_6b] | rw [if_neg (nbt c16_6b)]); try rfl), (by first | rfl | first | (simp only [jb_t, jb_f, c6_3, c6_3b, c16_6, c16_6b, reduceIte, eq_self, decide_true, decide_false, Bool.and_true, Bool.true_and, Bool.and_false, Bool.false_and, Bool.and_self, not_true_eq_false, not_false_eq_true, and_true, true_and, and_false, false_and, and_self]; done) | (simp [jb_t, jb_f, c6_3, c6_3b, c16_6, c16_6b]; done))⟩
  · skip
    have c6_3b : (S_in w0 0 2) = false := jb_0.mp c6_3
    refine j_bipush (v := (-2)) (pc := 9) hX dX9_greedy_9 (by decide) ?_
    exact j_iret (pc := 11) hX hQ dX9_greedy_11 rfl ⟨(by unfold rGreedyM; (first | rw [if_pos c6_3b] | rw [if_neg c6_3b] | rw [if_neg (nbt c6_3b)]); try rfl), (by first | rfl | first | (simp only [jb_t, jb_f, c6_3, c6_3b, reduceIte, eq_self, decide_true, decide_false, Bool.and_true, Bool.true_and, Bool.and_false, Bool.false_and, Bool.and_self, not_true_eq_false, not_false_eq_true, and_true, true_and, and_false, false_and, and_self]; done) | (simp [jb_t, jb_f, c6_3, c6_3b]; done))⟩

