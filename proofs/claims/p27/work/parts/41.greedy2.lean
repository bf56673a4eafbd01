/-! the law's greedy cover -/
def oM (b : Option Nat) : Int32 := match b with
  | none => -1
  | some k => nI k
theorem pop_le {x : Int32} (h : in18 x) : popC x = 0 ↔ S_size x 18 ≤ 0 := by
  obtain ⟨s, hs, hsz⟩ := size_ex h
  rw [pop_size h, hsz]
  constructor
  · intro h0
    rw [h0]
    decide
  · intro h0
    have := (nI_leI (a := s) (b := 0) (by omega) (by decide)).mp h0
    rw [show s = 0 by omega]
    rfl
theorem bB_gain {v : StT} (hok : okS v) {l : Int32} : ∀ i, i ≤ v.2.1 → ∀ b, (bB v l i).1 = some b → (bB v l i).2.1 = v.2.2.2.1 b ∧ (bB v l i).2.2 = S_size (v.2.2.1 b &&& l) 18
  | 0, _, b, h => by cases h
  | i + 1, hi, b, h => by
    have ih := bB_gain hok (l := l) i (by omega)
    have hp := pop_size (x := v.2.2.1 i &&& l) (in18_andl (hok.2.2 i (by omega)).1)
    rw [bB] at h ⊢
    by_cases hM : v.2.2.2.2 i = 0
    · rw [if_pos hM] at h ⊢
      by_cases h0 : popC (v.2.2.1 i &&& l) = 0
      · rw [if_pos h0] at h ⊢
        exact ih b h
      · rw [if_neg h0] at h ⊢
        by_cases h6 : oN (bB v l i).1 = -6
        · rw [if_pos h6] at h ⊢
          cases h
          exact ⟨rfl, hp⟩
        · rw [if_neg h6] at h ⊢
          split at h
          · rename_i h7
            rw [if_pos h7]
            exact ih b h
          · rename_i h7
            rw [if_neg h7]
            cases h
            exact ⟨rfl, hp⟩
    · rw [if_neg hM] at h ⊢
      exact ih b h
theorem gs5 {v : StT} (hok : okS v) {l : Int32} {j : Nat} (hj : j < v.2.1) :
    (bt (S_mk v.2.2.2.2 0 v.2.1) j = false ∧ (bB v l (j + 1)).1 = (bB v l j).1) ∨
    (bt (S_mk v.2.2.2.2 0 v.2.1) j = true ∧ S_size (v.2.2.1 j &&& l) 18 ≤ 0 ∧ (bB v l (j + 1)).1 = (bB v l j).1) ∨
    (bt (S_mk v.2.2.2.2 0 v.2.1) j = true ∧ ¬ S_size (v.2.2.1 j &&& l) 18 ≤ 0 ∧ (bB v l j).1 = none ∧ (bB v l (j + 1)).1 = some j) ∨
    (∃ b, bt (S_mk v.2.2.2.2 0 v.2.1) j = true ∧ ¬ S_size (v.2.2.1 j &&& l) 18 ≤ 0 ∧ (bB v l j).1 = some b ∧ b < j ∧ v.2.2.2.1 b * S_size (v.2.2.1 j &&& l) 18 ≤ v.2.2.2.1 j * S_size (v.2.2.1 b &&& l) 18 ∧ (bB v l (j + 1)).1 = some b) ∨
    (∃ b, bt (S_mk v.2.2.2.2 0 v.2.1) j = true ∧ ¬ S_size (v.2.2.1 j &&& l) 18 ≤ 0 ∧ (bB v l j).1 = some b ∧ b < j ∧ ¬ v.2.2.2.1 b * S_size (v.2.2.1 j &&& l) 18 ≤ v.2.2.2.1 j * S_size (v.2.2.1 b &&& l) 18 ∧ (bB v l (j + 1)).1 = some j) := by
  have h14 := hok.1
  have hin : in18 (v.2.2.1 j &&& l) := in18_andl (hok.2.2 j hj).1
  have hp := pop_size hin
  have hlt : ∀ k, (bB v l j).1 = some k → k < 100 := fun k hk => by have := bB_lt v l j k hk; omega
  rw [bB]
  by_cases hM : v.2.2.2.2 j = 0
  · rw [if_pos hM]
    have hfr := fre_t h14 hj hM
    by_cases h0 : popC (v.2.2.1 j &&& l) = 0
    · rw [if_pos h0]
      exact Or.inr (Or.inl ⟨hfr, (pop_le hin).mp h0, rfl⟩)
    · rw [if_neg h0]
      have h0' : ¬ S_size (v.2.2.1 j &&& l) 18 ≤ 0 := fun q => h0 ((pop_le hin).mpr q)
      by_cases h6 : oN (bB v l j).1 = -6
      · rw [if_pos h6]
        exact Or.inr (Or.inr (Or.inl ⟨hfr, h0', oN_none hlt h6, rfl⟩))
      · rw [if_neg h6]
        obtain ⟨b, hb⟩ := oN_some hlt h6
        obtain ⟨g1, g2⟩ := bB_gain hok j (Nat.le_of_lt hj) b hb
        rw [g1, g2, hp]
        by_cases h7 : v.2.2.2.1 b * S_size (v.2.2.1 j &&& l) 18 ≤ v.2.2.2.1 j * S_size (v.2.2.1 b &&& l) 18
        · rw [if_pos h7]
          exact Or.inr (Or.inr (Or.inr (Or.inl ⟨b, hfr, h0', hb, bB_lt v l j b hb, h7, hb⟩)))
        · rw [if_neg h7]
          exact Or.inr (Or.inr (Or.inr (Or.inr ⟨b, hfr, h0', hb, bB_lt v l j b hb, h7, rfl⟩)))
  · rw [if_neg hM]
    exact Or.inl ⟨fre_f h14 hj hM, rfl⟩
theorem gCh_end {v : StT} {y : Int32 × Int32} (h : S_miss v.2.2.1 v.1 v.2.1 y.1 = 0) : ∀ f, gCh v f y = y
  | 0 => rfl
  | f + 1 => by rw [gCh, if_pos h]
theorem g_on {v : StT} (hok : okS v) (hc : hasC v = true) {y : Int32 × Int32} {i : Nat} (hR : gCh v (14 - i) y = gR v) (hT : gTk v y.1) (hB : cB y.1 v.2.1 + i ≤ 14) (hl : ¬ S_miss v.2.2.1 v.1 v.2.1 y.1 = 0) :
    ∃ b, (bB v (S_miss v.2.2.1 v.1 v.2.1 y.1) v.2.1).1 = some b ∧ b < v.2.1 ∧ i < 14 ∧ gCh v (14 - (i + 1)) (y.1 ||| bI b, nI b) = gR v ∧ gTk v (y.1 ||| bI b) ∧ cB (y.1 ||| bI b) v.2.1 + (i + 1) ≤ 14 := by
  have h14 := hok.1
  obtain ⟨b, hb, hbn, hcb, hT2⟩ := g_step hok hc hT hl
  have hcnt := (cB_bI (m := y.1) (by omega) hcb v.2.1 (by omega)).1 hbn
  refine ⟨b, hb, hbn, by omega, ?_, hT2, by omega⟩
  rw [show 14 - i = (14 - (i + 1)) + 1 by omega, gCh, if_neg hl, hb] at hR
  exact hR
theorem gTk_0 {v : StT} (hok : okS v) : gTk v (S_mk v.2.2.2.2 1 v.2.1) := fun i hi hM => by
  have h14 := hok.1
  rw [bt_mk _ _ _ (by omega) i (by omega), hM]
  simp [hi]

set_option maxHeartbeats 4000000 in
set_option maxRecDepth 100000 in
theorem c_L_isGreedy (g : jG) (ax : Nat) (q : adT) (h : Nat) (sl : Nat) (p : Nat) (s : Nat) (gr : Nat) (e : Nat) (v : StT) (hs : Nat) (c : Nat) (ps : Nat) (pt : Nat) (pp : Nat) (pn : Nat) (b1 : Int32) (b2 : Int32) (b3 : Int32) (b4 : Int32) (s1 : Nat) (s2 : Nat) (s3 : Nat) (s4 : Nat) (z : SHT) (g1 : Int32) (g2 : Int32) (hok : okS v) (hc : hasC v = true) : jMI g yL_isGreedy method_9_code 10 .boolean 8 175 [.ref ax] [(ax, .inr (8, [.ref q.1, .ref h, .ref sl, .ref p, .ref s, .ref gr, .ref e])), (q.1, .inr (6, [.int v.1, .int (nI v.2.1), .ref q.2.1, .ref q.2.2.1, .ref q.2.2.2])), (q.2.1, .inl (gI g, 14, .inl v.2.2.1)), (q.2.2.1, .inl (gI g, 14, .inl v.2.2.2.1)), (q.2.2.2, .inl (gI g, 14, .inl v.2.2.2.2)), (h, .inr (1, [.int (nI c), .ref hs])), (p, .inr (2, [.int (nI pn), .ref ps, .int b1, .ref pt, .ref pp, .int b2, .int b3, .int b4])), (s, .inr (4, [.int z.1, .int z.2.1, .int (nI z.2.2.1), .int z.2.2.2.1, .int (nI z.2.2.2.2.1), .int z.2.2.2.2.2.1, .ref s1, .ref s2, .ref s3, .ref s4])), (s1, .inl (gI g, 18, .inl z.2.2.2.2.2.2.1)), (s2, .inl (gI g, 14, .inl z.2.2.2.2.2.2.2.1)), (s3, .inl (gI g, 14, .inl z.2.2.2.2.2.2.2.2.1)), (s4, .inl (gI g, 14, .inl (oI z.2.2.2.2.2.2.2.2.2))), (gr, .inr (0, [.int g1, .int g2]))] (fun rz wz => ∃ z1 : SHT, ∃ g3 : Int32, ∃ g4 : Int32, rz = 1 ∧ wz = [(ax, .inr (8, [.ref q.1, .ref h, .ref sl, .ref p, .ref s, .ref gr, .ref e])), (q.1, .inr (6, [.int v.1, .int (nI v.2.1), .ref q.2.1, .ref q.2.2.1, .ref q.2.2.2])), (q.2.1, .inl (gI g, 14, .inl v.2.2.1)), (q.2.2.1, .inl (gI g, 14, .inl v.2.2.2.1)), (q.2.2.2, .inl (gI g, 14, .inl v.2.2.2.2)), (h, .inr (1, [.int (nI c), .ref hs])), (p, .inr (2, [.int (nI pn), .ref ps, .int b1, .ref pt, .ref pp, .int b2, .int b3, .int b4])), (s, .inr (4, [.int z1.1, .int z1.2.1, .int (nI z1.2.2.1), .int z1.2.2.2.1, .int (nI z1.2.2.2.2.1), .int z1.2.2.2.2.2.1, .ref s1, .ref s2, .ref s3, .ref s4])), (s1, .inl (gI g, 18, .inl z1.2.2.2.2.2.2.1)), (s2, .inl (gI g, 14, .inl z1.2.2.2.2.2.2.2.1)), (s3, .inl (gI g, 14, .inl z1.2.2.2.2.2.2.2.2.1)), (s4, .inl (gI g, 14, .inl (oI z1.2.2.2.2.2.2.2.2.2))), (gr, .inr (0, [.int g3, .int g4]))]) := by
  refine jMI.intro (by decide +kernel) (Nat.le_of_ble_eq_true rfl) (fun x hX hQ => ?_)
  refine j_lv (lv2 := [(0, .ref ax)]) rfl ?_
  have hv : v.2.1 ≤ 14 := hok.1
  refine j_aload_n (pc := 0) hX dL_isGreedy_0 0 rfl ?_
  refine j_iconst (v := 0) (pc := 1) hX dL_isGreedy_1 (by decide) ?_
  refine j_callVI (n := 1) (As := [.int 0]) (rest := []) (pc := 2) hX (c_X8_count g ax q h sl p s gr e v hs ps pt pp c pn b1 b2 b3 b4 0 (by first | assumption | omega)) (CV.of mw247 mw248 mw249 mw13 mw250 ⟨rfl, by decide +kernel, by decide +kernel, by decide +kernel⟩ (T := TX8) (N := 7) rfl) (Nat.le_of_ble_eq_true rfl) (Nat.le_of_ble_eq_true rfl) (Nat.le_of_ble_eq_true rfl) (Nat.le_of_ble_eq_true rfl) 0 rfl [0, 1, 2, 3, 4, 5, 6] (by decide +kernel) rfl rfl rfl (Nat.le_of_ble_eq_true rfl) dL_isGreedy_2 (fun r1 wz hq2 => ?_)
  obtain ⟨rfl, rfl⟩ := hq2
  refine j_ws (ws2 := [(ax, .inr (8, [.ref q.1, .ref h, .ref sl, .ref p, .ref s, .ref gr, .ref e])), (q.1, .inr (6, [.int v.1, .int (nI v.2.1), .ref q.2.1, .ref q.2.2.1, .ref q.2.2.2])), (q.2.1, .inl (gI g, 14, .inl v.2.2.1)), (q.2.2.1, .inl (gI g, 14, .inl v.2.2.2.1)), (q.2.2.2, .inl (gI g, 14, .inl v.2.2.2.2)), (h, .inr (1, [.int (nI c), .ref hs])), (p, .inr (2, [.int (nI pn), .ref ps, .int b1, .ref pt, .ref pp, .int b2, .int b3, .int b4])), (s, .inr (4, [.int z.1, .int z.2.1, .int (nI z.2.2.1), .int z.2.2.2.1, .int (nI z.2.2.2.2.1), .int z.2.2.2.2.2.1, .ref s1, .ref s2, .ref s3, .ref s4])), (s1, .inl (gI g, 18, .inl z.2.2.2.2.2.2.1)), (s2, .inl (gI g, 14, .inl z.2.2.2.2.2.2.2.1)), (s3, .inl (gI g, 14, .inl z.2.2.2.2.2.2.2.2.1)), (s4, .inl (gI g, 14, .inl (oI z.2.2.2.2.2.2.2.2.2))), (gr, .inr (0, [.int g1, .int g2]))]) rfl ?_
  refine j_top (b := nI v.2.1) (rc_0) ?_
  refine j_istore_n (lv2 := [(0, .ref ax), (1, .int (nI v.2.1))]) (pc := 5) hX dL_isGreedy_5 [1, 0] (by decide) rfl ?_
  refine j_aload_n (pc := 6) hX dL_isGreedy_6 0 rfl ?_
  refine j_iconst (v := 0) (pc := 7) hX dL_isGreedy_7 (by decide) ?_
  refine j_callSI (n := 2) (As := [.ref ax, .int 0]) (rest := []) (pc := 8) hX (c_L_marked g ax q h sl p s gr e v hs c ps pt pp pn b1 b2 b3 b4 s1 s2 s3 s4 z 0 (by first | assumption | omega)) (CS.of mw291 mw292 mw12 mw293 ⟨by decide +kernel, by decide +kernel, by decide +kernel⟩) (Nat.le_of_ble_eq_true rfl) (Nat.le_of_ble_eq_true rfl) (Nat.le_of_ble_eq_true rfl) (Nat.le_of_ble_eq_true rfl) [0, 1, 2, 3, 4, 5, 6, 7, 8, 9, 10, 11] (by decide +kernel) rfl rfl rfl (Nat.le_of_ble_eq_true rfl) dL_isGreedy_8 (fun r4 wz hq5 => ?_)
  obtain ⟨z1_3, rfl, rfl⟩ := hq5
  refine j_ws (ws2 := [(ax, .inr (8, [.ref q.1, .ref h, .ref sl, .ref p, .ref s, .ref gr, .ref e])), (q.1, .inr (6, [.int v.1, .int (nI v.2.1), .ref q.2.1, .ref q.2.2.1, .ref q.2.2.2])), (q.2.1, .inl (gI g, 14, .inl v.2.2.1)), (q.2.2.1, .inl (gI g, 14, .inl v.2.2.2.1)), (q.2.2.2, .inl (gI g, 14, .inl v.2.2.2.2)), (h, .inr (1, [.int (nI c), .ref hs])), (p, .inr (2, [.int (nI pn), .ref ps, .int b1, .ref pt, .ref pp, .int b2, .int b3, .int b4])), (s, .inr (4, [.int z1_3.1, .int z1_3.2.1, .int (nI z1_3.2.2.1), .int z1_3.2.2.2.1, .int (nI z1_3.2.2.2.2.1), .int z1_3.2.2.2.2.2.1, .ref s1, .ref s2, .ref s3, .ref s4])), (s1, .inl (gI g, 18, .inl z1_3.2.2.2.2.2.2.1)), (s2, .inl (gI g, 14, .inl z1_3.2.2.2.2.2.2.2.1)), (s3, .inl (gI g, 14, .inl z1_3.2.2.2.2.2.2.2.2.1)), (s4, .inl (gI g, 14, .inl (oI z1_3.2.2.2.2.2.2.2.2.2))), (gr, .inr (0, [.int g1, .int g2]))]) rfl ?_
  refine j_istore_n (lv2 := [(0, .ref ax), (1, .int (nI v.2.1)), (2, .int (S_mk v.2.2.2.2 0 v.2.1))]) (pc := 11) hX dL_isGreedy_11 [1, 2, 0] (by decide) rfl ?_
  refine j_aload_n (pc := 12) hX dL_isGreedy_12 0 rfl ?_
  refine j_iconst (v := 1) (pc := 13) hX dL_isGreedy_13 (by decide) ?_
  refine j_callSI (n := 2) (As := [.ref ax, .int 1]) (rest := []) (pc := 14) hX (c_L_marked g ax q h sl p s gr e v hs c ps pt pp pn b1 b2 b3 b4 s1 s2 s3 s4 z1_3 1 (by first | assumption | omega)) (CS.of mw291 mw292 mw12 mw293 ⟨by decide +kernel, by decide +kernel, by decide +kernel⟩) (Nat.le_of_ble_eq_true rfl) (Nat.le_of_ble_eq_true rfl) (Nat.le_of_ble_eq_true rfl) (Nat.le_of_ble_eq_true rfl) [0, 1, 2, 3, 4, 5, 6, 7, 8, 9, 10, 11] (by decide +kernel) rfl rfl rfl (Nat.le_of_ble_eq_true rfl) dL_isGreedy_14 (fun r7 wz hq8 => ?_)
  obtain ⟨z1_6, rfl, rfl⟩ := hq8
  refine j_ws (ws2 := [(ax, .inr (8, [.ref q.1, .ref h, .ref sl, .ref p, .ref s, .ref gr, .ref e])), (q.1, .inr (6, [.int v.1, .int (nI v.2.1), .ref q.2.1, .ref q.2.2.1, .ref q.2.2.2])), (q.2.1, .inl (gI g, 14, .inl v.2.2.1)), (q.2.2.1, .inl (gI g, 14, .inl v.2.2.2.1)), (q.2.2.2, .inl (gI g, 14, .inl v.2.2.2.2)), (h, .inr (1, [.int (nI c), .ref hs])), (p, .inr (2, [.int (nI pn), .ref ps, .int b1, .ref pt, .ref pp, .int b2, .int b3, .int b4])), (s, .inr (4, [.int z1_6.1, .int z1_6.2.1, .int (nI z1_6.2.2.1), .int z1_6.2.2.2.1, .int (nI z1_6.2.2.2.2.1), .int z1_6.2.2.2.2.2.1, .ref s1, .ref s2, .ref s3, .ref s4])), (s1, .inl (gI g, 18, .inl z1_6.2.2.2.2.2.2.1)), (s2, .inl (gI g, 14, .inl z1_6.2.2.2.2.2.2.2.1)), (s3, .inl (gI g, 14, .inl z1_6.2.2.2.2.2.2.2.2.1)), (s4, .inl (gI g, 14, .inl (oI z1_6.2.2.2.2.2.2.2.2.2))), (gr, .inr (0, [.int g1, .int g2]))]) rfl ?_
  refine j_istore_n (lv2 := [(0, .ref ax), (1, .int (nI v.2.1)), (2, .int (S_mk v.2.2.2.2 0 v.2.1)), (3, .int (S_mk v.2.2.2.2 1 v.2.1))]) (pc := 17) hX dL_isGreedy_17 [1, 2, 3, 0] (by decide) rfl ?_
  refine j_bipush (v := (-6)) (pc := 18) hX dL_isGreedy_18 (by decide) ?_
  refine j_istore (lv2 := [(0, .ref ax), (1, .int (nI v.2.1)), (2, .int (S_mk v.2.2.2.2 0 v.2.1)), (3, .int (S_mk v.2.2.2.2 1 v.2.1)), (4, .int (-6))]) (pc := 20) hX dL_isGreedy_20 [1, 2, 3, 4, 0] (by decide) rfl ?_
  refine j_aload_n (pc := 22) hX dL_isGreedy_22 0 rfl ?_
  refine j_iconst (v := 1) (pc := 23) hX dL_isGreedy_23 (by decide) ?_
  refine j_callVI (n := 1) (As := [.int 1]) (rest := []) (pc := 24) hX (c_X8_count g ax q h sl p s gr e v hs ps pt pp c pn b1 b2 b3 b4 1 (by first | assumption | omega)) (CV.of mw247 mw248 mw249 mw13 mw250 ⟨rfl, by decide +kernel, by decide +kernel, by decide +kernel⟩ (T := TX8) (N := 7) rfl) (Nat.le_of_ble_eq_true rfl) (Nat.le_of_ble_eq_true rfl) (Nat.le_of_ble_eq_true rfl) (Nat.le_of_ble_eq_true rfl) 0 rfl [0, 1, 2, 3, 4, 5, 6] (by decide +kernel) rfl rfl rfl (Nat.le_of_ble_eq_true rfl) dL_isGreedy_24 (fun r9 wz hq10 => ?_)
  obtain ⟨rfl, rfl⟩ := hq10
  refine j_ws (ws2 := [(ax, .inr (8, [.ref q.1, .ref h, .ref sl, .ref p, .ref s, .ref gr, .ref e])), (q.1, .inr (6, [.int v.1, .int (nI v.2.1), .ref q.2.1, .ref q.2.2.1, .ref q.2.2.2])), (q.2.1, .inl (gI g, 14, .inl v.2.2.1)), (q.2.2.1, .inl (gI g, 14, .inl v.2.2.2.1)), (q.2.2.2, .inl (gI g, 14, .inl v.2.2.2.2)), (h, .inr (1, [.int (nI c), .ref hs])), (p, .inr (2, [.int (nI pn), .ref ps, .int b1, .ref pt, .ref pp, .int b2, .int b3, .int b4])), (s, .inr (4, [.int z1_6.1, .int z1_6.2.1, .int (nI z1_6.2.2.1), .int z1_6.2.2.2.1, .int (nI z1_6.2.2.2.2.1), .int z1_6.2.2.2.2.2.1, .ref s1, .ref s2, .ref s3, .ref s4])), (s1, .inl (gI g, 18, .inl z1_6.2.2.2.2.2.2.1)), (s2, .inl (gI g, 14, .inl z1_6.2.2.2.2.2.2.2.1)), (s3, .inl (gI g, 14, .inl z1_6.2.2.2.2.2.2.2.2.1)), (s4, .inl (gI g, 14, .inl (oI z1_6.2.2.2.2.2.2.2.2.2))), (gr, .inr (0, [.int g1, .int g2]))]) rfl ?_
  refine j_top (b := v.1) (rc_1) ?_
  refine j_aload_n (pc := 27) hX dL_isGreedy_27 0 rfl ?_
  refine j_iload_n (pc := 28) hX dL_isGreedy_28 3 rfl ?_
  refine j_callSI (n := 2) (As := [.ref ax, .int (S_mk v.2.2.2.2 1 v.2.1)]) (rest := [.int v.1]) (pc := 29) hX (c_L_union g ax q h sl p s gr e v hs c ps pt pp pn b1 b2 b3 b4 s1 s2 s3 s4 z1_6 (S_mk v.2.2.2.2 1 v.2.1) (by first | assumption | omega)) (CS.of mw336 mw337 mw12 mw338 ⟨by decide +kernel, by decide +kernel, by decide +kernel⟩) (Nat.le_of_ble_eq_true rfl) (Nat.le_of_ble_eq_true rfl) (Nat.le_of_ble_eq_true rfl) (Nat.le_of_ble_eq_true rfl) [0, 1, 2, 3, 4, 5, 6, 7, 8, 9, 10, 11] (by decide +kernel) rfl rfl rfl (Nat.le_of_ble_eq_true rfl) dL_isGreedy_29 (fun r12 wz hq13 => ?_)
  obtain ⟨z1_11, rfl, rfl⟩ := hq13
  refine j_ws (ws2 := [(ax, .inr (8, [.ref q.1, .ref h, .ref sl, .ref p, .ref s, .ref gr, .ref e])), (q.1, .inr (6, [.int v.1, .int (nI v.2.1), .ref q.2.1, .ref q.2.2.1, .ref q.2.2.2])), (q.2.1, .inl (gI g, 14, .inl v.2.2.1)), (q.2.2.1, .inl (gI g, 14, .inl v.2.2.2.1)), (q.2.2.2, .inl (gI g, 14, .inl v.2.2.2.2)), (h, .inr (1, [.int (nI c), .ref hs])), (p, .inr (2, [.int (nI pn), .ref ps, .int b1, .ref pt, .ref pp, .int b2, .int b3, .int b4])), (s, .inr (4, [.int z1_11.1, .int z1_11.2.1, .int (nI z1_11.2.2.1), .int z1_11.2.2.2.1, .int (nI z1_11.2.2.2.2.1), .int z1_11.2.2.2.2.2.1, .ref s1, .ref s2, .ref s3, .ref s4])), (s1, .inl (gI g, 18, .inl z1_11.2.2.2.2.2.2.1)), (s2, .inl (gI g, 14, .inl z1_11.2.2.2.2.2.2.2.1)), (s3, .inl (gI g, 14, .inl z1_11.2.2.2.2.2.2.2.2.1)), (s4, .inl (gI g, 14, .inl (oI z1_11.2.2.2.2.2.2.2.2.2))), (gr, .inr (0, [.int g1, .int g2]))]) rfl ?_
  refine j_iconst (v := (-1)) (pc := 32) hX dL_isGreedy_32 (by decide) ?_
  refine j_ixor (pc := 33) hX dL_isGreedy_33 ?_
  refine j_iand (pc := 34) hX dL_isGreedy_34 ?_
  refine j_top (b := S_miss v.2.2.1 v.1 v.2.1 (S_mk v.2.2.2.2 1 v.2.1)) (rfl) ?_
  refine j_istore (lv2 := [(0, .ref ax), (1, .int (nI v.2.1)), (2, .int (S_mk v.2.2.2.2 0 v.2.1)), (3, .int (S_mk v.2.2.2.2 1 v.2.1)), (4, .int (-6)), (5, .int (S_miss v.2.2.1 v.1 v.2.1 (S_mk v.2.2.2.2 1 v.2.1)))]) (pc := 35) hX dL_isGreedy_35 [1, 2, 3, 4, 5, 0] (by decide) rfl ?_
  have L37 : ∀ (d : Nat) (i : Nat) (y : Int32 × Int32) (zz : SHT), gCh v (14 - i) y = gR v → gTk v y.1 → cB y.1 v.2.1 + i ≤ 14 → 14 - i = d → J g x 10 0 0 37 [(0, .ref ax), (1, .int (nI v.2.1)), (2, .int (S_mk v.2.2.2.2 0 v.2.1)), (3, .int y.1), (4, .int y.2), (5, .int (S_miss v.2.2.1 v.1 v.2.1 y.1))] [] [(ax, .inr (8, [.ref q.1, .ref h, .ref sl, .ref p, .ref s, .ref gr, .ref e])), (q.1, .inr (6, [.int v.1, .int (nI v.2.1), .ref q.2.1, .ref q.2.2.1, .ref q.2.2.2])), (q.2.1, .inl (gI g, 14, .inl v.2.2.1)), (q.2.2.1, .inl (gI g, 14, .inl v.2.2.2.1)), (q.2.2.2, .inl (gI g, 14, .inl v.2.2.2.2)), (h, .inr (1, [.int (nI c), .ref hs])), (p, .inr (2, [.int (nI pn), .ref ps, .int b1, .ref pt, .ref pp, .int b2, .int b3, .int b4])), (s, .inr (4, [.int zz.1, .int zz.2.1, .int (nI zz.2.2.1), .int zz.2.2.2.1, .int (nI zz.2.2.2.2.1), .int zz.2.2.2.2.2.1, .ref s1, .ref s2, .ref s3, .ref s4])), (s1, .inl (gI g, 18, .inl zz.2.2.2.2.2.2.1)), (s2, .inl (gI g, 14, .inl zz.2.2.2.2.2.2.2.1)), (s3, .inl (gI g, 14, .inl zz.2.2.2.2.2.2.2.2.1)), (s4, .inl (gI g, 14, .inl (oI zz.2.2.2.2.2.2.2.2.2))), (gr, .inr (0, [.int g1, .int g2]))] := by
    intro d
    induction d using Nat.strongRecOn with
    | _ d ih37 =>
      intro i y zz hR hT hB hd37
      refine j_iload (pc := 37) hX dL_isGreedy_37 5 rfl ?_
      refine j_if_eq (tgt := 185) (pc := 39) hX dL_isGreedy_39 (by decide) (fun c39_14 => ?_) (fun c39_14 => ?_)
      · skip
        have hy : y = gR v := (gCh_end c39_14 (14 - i)).symm.trans hR
        subst hy
        refine j_aload_n (pc := 185) hX dL_isGreedy_185 0 rfl ?_
        refine j_iconst (v := 0) (pc := 186) hX dL_isGreedy_186 (by decide) ?_
        refine j_callVI (n := 1) (As := [.int 0]) (rest := []) (pc := 187) hX (c_X8_greedy g ax q h sl p s gr e v g1 g2 0 (by first | assumption | omega)) (CV.of mw378 mw379 mw380 mw13 mw381 ⟨rfl, by decide +kernel, by decide +kernel, by decide +kernel⟩ (T := TX8) (N := 7) rfl) (Nat.le_of_ble_eq_true rfl) (Nat.le_of_ble_eq_true rfl) (Nat.le_of_ble_eq_true rfl) (Nat.le_of_ble_eq_true rfl) 0 rfl [0, 1, 2, 3, 4, 12] (by decide +kernel) rfl rfl rfl (Nat.le_of_ble_eq_true rfl) dL_isGreedy_187 (fun r17 wz hq18 => ?_)
        obtain ⟨g3_15, g4_16, rfl, rfl⟩ := hq18
        refine j_ws (ws2 := [(ax, .inr (8, [.ref q.1, .ref h, .ref sl, .ref p, .ref s, .ref gr, .ref e])), (q.1, .inr (6, [.int v.1, .int (nI v.2.1), .ref q.2.1, .ref q.2.2.1, .ref q.2.2.2])), (q.2.1, .inl (gI g, 14, .inl v.2.2.1)), (q.2.2.1, .inl (gI g, 14, .inl v.2.2.2.1)), (q.2.2.2, .inl (gI g, 14, .inl v.2.2.2.2)), (h, .inr (1, [.int (nI c), .ref hs])), (p, .inr (2, [.int (nI pn), .ref ps, .int b1, .ref pt, .ref pp, .int b2, .int b3, .int b4])), (s, .inr (4, [.int zz.1, .int zz.2.1, .int (nI zz.2.2.1), .int zz.2.2.2.1, .int (nI zz.2.2.2.2.1), .int zz.2.2.2.2.2.1, .ref s1, .ref s2, .ref s3, .ref s4])), (s1, .inl (gI g, 18, .inl zz.2.2.2.2.2.2.1)), (s2, .inl (gI g, 14, .inl zz.2.2.2.2.2.2.2.1)), (s3, .inl (gI g, 14, .inl zz.2.2.2.2.2.2.2.2.1)), (s4, .inl (gI g, 14, .inl (oI zz.2.2.2.2.2.2.2.2.2))), (gr, .inr (0, [.int g3_15, .int g4_16]))]) rfl ?_
        refine j_top (b := (gR v).1) (rg_0 hc) ?_
        refine j_iload_n (pc := 190) hX dL_isGreedy_190 3 rfl ?_
        refine j_icmp_ne (tgt := 234) (pc := 191) hX dL_isGreedy_191 (by decide) (fun c191_19 => ?_) (fun c191_19 => ?_)
        · exfalso
          exact c191_19 rfl
        refine j_aload_n (pc := 194) hX dL_isGreedy_194 0 rfl ?_
        refine j_iconst (v := 1) (pc := 195) hX dL_isGreedy_195 (by decide) ?_
        refine j_callVI (n := 1) (As := [.int 1]) (rest := []) (pc := 196) hX (c_X8_greedy g ax q h sl p s gr e v g3_15 g4_16 1 (by first | assumption | omega)) (CV.of mw378 mw379 mw380 mw13 mw381 ⟨rfl, by decide +kernel, by decide +kernel, by decide +kernel⟩ (T := TX8) (N := 7) rfl) (Nat.le_of_ble_eq_true rfl) (Nat.le_of_ble_eq_true rfl) (Nat.le_of_ble_eq_true rfl) (Nat.le_of_ble_eq_true rfl) 0 rfl [0, 1, 2, 3, 4, 12] (by decide +kernel) rfl rfl rfl (Nat.le_of_ble_eq_true rfl) dL_isGreedy_196 (fun r22 wz hq23 => ?_)
        obtain ⟨g3_20, g4_21, rfl, rfl⟩ := hq23
        refine j_ws (ws2 := [(ax, .inr (8, [.ref q.1, .ref h, .ref sl, .ref p, .ref s, .ref gr, .ref e])), (q.1, .inr (6, [.int v.1, .int (nI v.2.1), .ref q.2.1, .ref q.2.2.1, .ref q.2.2.2])), (q.2.1, .inl (gI g, 14, .inl v.2.2.1)), (q.2.2.1, .inl (gI g, 14, .inl v.2.2.2.1)), (q.2.2.2, .inl (gI g, 14, .inl v.2.2.2.2)), (h, .inr (1, [.int (nI c), .ref hs])), (p, .inr (2, [.int (nI pn), .ref ps, .int b1, .ref pt, .ref pp, .int b2, .int b3, .int b4])), (s, .inr (4, [.int zz.1, .int zz.2.1, .int (nI zz.2.2.1), .int zz.2.2.2.1, .int (nI zz.2.2.2.2.1), .int zz.2.2.2.2.2.1, .ref s1, .ref s2, .ref s3, .ref s4])), (s1, .inl (gI g, 18, .inl zz.2.2.2.2.2.2.1)), (s2, .inl (gI g, 14, .inl zz.2.2.2.2.2.2.2.1)), (s3, .inl (gI g, 14, .inl zz.2.2.2.2.2.2.2.2.1)), (s4, .inl (gI g, 14, .inl (oI zz.2.2.2.2.2.2.2.2.2))), (gr, .inr (0, [.int g3_20, .int g4_21]))]) rfl ?_
        refine j_top (b := S_sum v.2.2.2.1 (gR v).1 v.2.1) (rg_1 hc) ?_
        refine j_aload_n (pc := 199) hX dL_isGreedy_199 0 rfl ?_
        refine j_iload_n (pc := 200) hX dL_isGreedy_200 3 rfl ?_
        refine j_callSI (n := 2) (As := [.ref ax, .int ((gR v).1)]) (rest := [.int (S_sum v.2.2.2.1 (gR v).1 v.2.1)]) (pc := 201) hX (c_L_prices g ax q h sl p s gr e v hs c ps pt pp pn b1 b2 b3 b4 s1 s2 s3 s4 zz ((gR v).1) (by first | assumption | omega)) (CS.of mw365 mw366 mw12 mw367 ⟨by decide +kernel, by decide +kernel, by decide +kernel⟩) (Nat.le_of_ble_eq_true rfl) (Nat.le_of_ble_eq_true rfl) (Nat.le_of_ble_eq_true rfl) (Nat.le_of_ble_eq_true rfl) [0, 1, 2, 3, 4, 5, 6, 7, 8, 9, 10, 11] (by decide +kernel) rfl rfl rfl (Nat.le_of_ble_eq_true rfl) dL_isGreedy_201 (fun r25 wz hq26 => ?_)
        obtain ⟨z1_24, rfl, rfl⟩ := hq26
        refine j_ws (ws2 := [(ax, .inr (8, [.ref q.1, .ref h, .ref sl, .ref p, .ref s, .ref gr, .ref e])), (q.1, .inr (6, [.int v.1, .int (nI v.2.1), .ref q.2.1, .ref q.2.2.1, .ref q.2.2.2])), (q.2.1, .inl (gI g, 14, .inl v.2.2.1)), (q.2.2.1, .inl (gI g, 14, .inl v.2.2.2.1)), (q.2.2.2, .inl (gI g, 14, .inl v.2.2.2.2)), (h, .inr (1, [.int (nI c), .ref hs])), (p, .inr (2, [.int (nI pn), .ref ps, .int b1, .ref pt, .ref pp, .int b2, .int b3, .int b4])), (s, .inr (4, [.int z1_24.1, .int z1_24.2.1, .int (nI z1_24.2.2.1), .int z1_24.2.2.2.1, .int (nI z1_24.2.2.2.2.1), .int z1_24.2.2.2.2.2.1, .ref s1, .ref s2, .ref s3, .ref s4])), (s1, .inl (gI g, 18, .inl z1_24.2.2.2.2.2.2.1)), (s2, .inl (gI g, 14, .inl z1_24.2.2.2.2.2.2.2.1)), (s3, .inl (gI g, 14, .inl z1_24.2.2.2.2.2.2.2.2.1)), (s4, .inl (gI g, 14, .inl (oI z1_24.2.2.2.2.2.2.2.2.2))), (gr, .inr (0, [.int g3_20, .int g4_21]))]) rfl ?_
        refine j_icmp_ne (tgt := 234) (pc := 204) hX dL_isGreedy_204 (by decide) (fun c204_27 => ?_) (fun c204_27 => ?_)
        · exfalso
          exact c204_27 rfl
        refine j_aload_n (pc := 207) hX dL_isGreedy_207 0 rfl ?_
        refine j_iconst (v := 2) (pc := 208) hX dL_isGreedy_208 (by decide) ?_
        refine j_callVI (n := 1) (As := [.int 2]) (rest := []) (pc := 209) hX (c_X8_greedy g ax q h sl p s gr e v g3_20 g4_21 2 (by first | assumption | omega)) (CV.of mw378 mw379 mw380 mw13 mw381 ⟨rfl, by decide +kernel, by decide +kernel, by decide +kernel⟩ (T := TX8) (N := 7) rfl) (Nat.le_of_ble_eq_true rfl) (Nat.le_of_ble_eq_true rfl) (Nat.le_of_ble_eq_true rfl) (Nat.le_of_ble_eq_true rfl) 0 rfl [0, 1, 2, 3, 4, 12] (by decide +kernel) rfl rfl rfl (Nat.le_of_ble_eq_true rfl) dL_isGreedy_209 (fun r30 wz hq31 => ?_)
        obtain ⟨g3_28, g4_29, rfl, rfl⟩ := hq31
        refine j_ws (ws2 := [(ax, .inr (8, [.ref q.1, .ref h, .ref sl, .ref p, .ref s, .ref gr, .ref e])), (q.1, .inr (6, [.int v.1, .int (nI v.2.1), .ref q.2.1, .ref q.2.2.1, .ref q.2.2.2])), (q.2.1, .inl (gI g, 14, .inl v.2.2.1)), (q.2.2.1, .inl (gI g, 14, .inl v.2.2.2.1)), (q.2.2.2, .inl (gI g, 14, .inl v.2.2.2.2)), (h, .inr (1, [.int (nI c), .ref hs])), (p, .inr (2, [.int (nI pn), .ref ps, .int b1, .ref pt, .ref pp, .int b2, .int b3, .int b4])), (s, .inr (4, [.int z1_24.1, .int z1_24.2.1, .int (nI z1_24.2.2.1), .int z1_24.2.2.2.1, .int (nI z1_24.2.2.2.2.1), .int z1_24.2.2.2.2.2.1, .ref s1, .ref s2, .ref s3, .ref s4])), (s1, .inl (gI g, 18, .inl z1_24.2.2.2.2.2.2.1)), (s2, .inl (gI g, 14, .inl z1_24.2.2.2.2.2.2.2.1)), (s3, .inl (gI g, 14, .inl z1_24.2.2.2.2.2.2.2.2.1)), (s4, .inl (gI g, 14, .inl (oI z1_24.2.2.2.2.2.2.2.2.2))), (gr, .inr (0, [.int g3_28, .int g4_29]))]) rfl ?_
        refine j_top (b := (gR v).2) (rg_2 hc) ?_
        refine j_iload (pc := 212) hX dL_isGreedy_212 4 rfl ?_
        refine j_icmp_ne (tgt := 234) (pc := 214) hX dL_isGreedy_214 (by decide) (fun c214_32 => ?_) (fun c214_32 => ?_)
        · exfalso
          exact c214_32 rfl
        refine j_aload_n (pc := 217) hX dL_isGreedy_217 0 rfl ?_
        refine j_iload_n (pc := 218) hX dL_isGreedy_218 3 rfl ?_
        refine j_callVI (n := 1) (As := [.int ((gR v).1)]) (rest := []) (pc := 219) hX (c_X8_check g ax q h sl p s gr e v ((gR v).1) (by first | assumption | omega)) (CV.of mw353 mw354 mw355 mw13 mw356 ⟨rfl, by decide +kernel, by decide +kernel, by decide +kernel⟩ (T := TX8) (N := 7) rfl) (Nat.le_of_ble_eq_true rfl) (Nat.le_of_ble_eq_true rfl) (Nat.le_of_ble_eq_true rfl) (Nat.le_of_ble_eq_true rfl) 0 rfl [0, 1, 2, 3, 4] (by decide +kernel) rfl rfl rfl (Nat.le_of_ble_eq_true rfl) dL_isGreedy_219 (fun r33 wz hq34 => ?_)
        obtain ⟨rfl, rfl⟩ := hq34
        refine j_ws (ws2 := [(ax, .inr (8, [.ref q.1, .ref h, .ref sl, .ref p, .ref s, .ref gr, .ref e])), (q.1, .inr (6, [.int v.1, .int (nI v.2.1), .ref q.2.1, .ref q.2.2.1, .ref q.2.2.2])), (q.2.1, .inl (gI g, 14, .inl v.2.2.1)), (q.2.2.1, .inl (gI g, 14, .inl v.2.2.2.1)), (q.2.2.2, .inl (gI g, 14, .inl v.2.2.2.2)), (h, .inr (1, [.int (nI c), .ref hs])), (p, .inr (2, [.int (nI pn), .ref ps, .int b1, .ref pt, .ref pp, .int b2, .int b3, .int b4])), (s, .inr (4, [.int z1_24.1, .int z1_24.2.1, .int (nI z1_24.2.2.1), .int z1_24.2.2.2.1, .int (nI z1_24.2.2.2.2.1), .int z1_24.2.2.2.2.2.1, .ref s1, .ref s2, .ref s3, .ref s4])), (s1, .inl (gI g, 18, .inl z1_24.2.2.2.2.2.2.1)), (s2, .inl (gI g, 14, .inl z1_24.2.2.2.2.2.2.2.1)), (s3, .inl (gI g, 14, .inl z1_24.2.2.2.2.2.2.2.2.1)), (s4, .inl (gI g, 14, .inl (oI z1_24.2.2.2.2.2.2.2.2.2))), (gr, .inr (0, [.int g3_28, .int g4_29]))]) rfl ?_
        refine j_top (b := S_sum v.2.2.2.1 (gR v).1 v.2.1) (rk_gr hok hc) ?_
        refine j_aload_n (pc := 222) hX dL_isGreedy_222 0 rfl ?_
        refine j_iload_n (pc := 223) hX dL_isGreedy_223 3 rfl ?_
        refine j_callSI (n := 2) (As := [.ref ax, .int ((gR v).1)]) (rest := [.int (S_sum v.2.2.2.1 (gR v).1 v.2.1)]) (pc := 224) hX (c_L_prices g ax q h sl p s gr e v hs c ps pt pp pn b1 b2 b3 b4 s1 s2 s3 s4 z1_24 ((gR v).1) (by first | assumption | omega)) (CS.of mw365 mw366 mw12 mw367 ⟨by decide +kernel, by decide +kernel, by decide +kernel⟩) (Nat.le_of_ble_eq_true rfl) (Nat.le_of_ble_eq_true rfl) (Nat.le_of_ble_eq_true rfl) (Nat.le_of_ble_eq_true rfl) [0, 1, 2, 3, 4, 5, 6, 7, 8, 9, 10, 11] (by decide +kernel) rfl rfl rfl (Nat.le_of_ble_eq_true rfl) dL_isGreedy_224 (fun r36 wz hq37 => ?_)
        obtain ⟨z1_35, rfl, rfl⟩ := hq37
        refine j_ws (ws2 := [(ax, .inr (8, [.ref q.1, .ref h, .ref sl, .ref p, .ref s, .ref gr, .ref e])), (q.1, .inr (6, [.int v.1, .int (nI v.2.1), .ref q.2.1, .ref q.2.2.1, .ref q.2.2.2])), (q.2.1, .inl (gI g, 14, .inl v.2.2.1)), (q.2.2.1, .inl (gI g, 14, .inl v.2.2.2.1)), (q.2.2.2, .inl (gI g, 14, .inl v.2.2.2.2)), (h, .inr (1, [.int (nI c), .ref hs])), (p, .inr (2, [.int (nI pn), .ref ps, .int b1, .ref pt, .ref pp, .int b2, .int b3, .int b4])), (s, .inr (4, [.int z1_35.1, .int z1_35.2.1, .int (nI z1_35.2.2.1), .int z1_35.2.2.2.1, .int (nI z1_35.2.2.2.2.1), .int z1_35.2.2.2.2.2.1, .ref s1, .ref s2, .ref s3, .ref s4])), (s1, .inl (gI g, 18, .inl z1_35.2.2.2.2.2.2.1)), (s2, .inl (gI g, 14, .inl z1_35.2.2.2.2.2.2.2.1)), (s3, .inl (gI g, 14, .inl z1_35.2.2.2.2.2.2.2.2.1)), (s4, .inl (gI g, 14, .inl (oI z1_35.2.2.2.2.2.2.2.2.2))), (gr, .inr (0, [.int g3_28, .int g4_29]))]) rfl ?_
        refine j_icmp_ne (tgt := 234) (pc := 227) hX dL_isGreedy_227 (by decide) (fun c227_38 => ?_) (fun c227_38 => ?_)
        · exfalso
          exact c227_38 rfl
        refine j_iconst (v := 1) (pc := 230) hX dL_isGreedy_230 (by decide) ?_
        refine j_goto (tgt := 235) (pc := 231) hX dL_isGreedy_231 (by decide) ?_
        exact j_zret (pc := 235) hX hQ dL_isGreedy_235 (by first | rfl | exact jb_nar _) rfl ⟨z1_35, g3_28, g4_29, (rfl), (rfl)⟩
      · skip
        obtain ⟨bz, hbz, hbn, hi14, hbR, hbT, hbB⟩ := g_on hok hc hR hT hB c39_14
        refine j_iconst (v := (-1)) (pc := 42) hX dL_isGreedy_42 (by decide) ?_
        refine j_istore (lv2 := [(0, .ref ax), (1, .int (nI v.2.1)), (2, .int (S_mk v.2.2.2.2 0 v.2.1)), (3, .int y.1), (4, .int y.2), (5, .int (S_miss v.2.2.1 v.1 v.2.1 y.1)), (6, .int (-1))]) (pc := 43) hX dL_isGreedy_43 [1, 2, 3, 4, 5, 6, 0] (by decide) rfl ?_
        refine j_iconst (v := 0) (pc := 45) hX dL_isGreedy_45 (by decide) ?_
        refine j_istore (lv2 := [(0, .ref ax), (1, .int (nI v.2.1)), (2, .int (S_mk v.2.2.2.2 0 v.2.1)), (3, .int y.1), (4, .int y.2), (5, .int (S_miss v.2.2.1 v.1 v.2.1 y.1)), (6, .int (-1)), (7, .int 0)]) (pc := 46) hX dL_isGreedy_46 [1, 2, 3, 4, 5, 6, 7, 0] (by decide) rfl ?_
        have L48 : ∀ (d : Nat) (j : Nat) (zz : SHT), j ≤ v.2.1 → v.2.1 - j = d → J g x 10 0 0 48 [(0, .ref ax), (1, .int (nI v.2.1)), (2, .int (S_mk v.2.2.2.2 0 v.2.1)), (3, .int y.1), (4, .int y.2), (5, .int (S_miss v.2.2.1 v.1 v.2.1 y.1)), (6, .int (oM (bB v (S_miss v.2.2.1 v.1 v.2.1 y.1) j).1)), (7, .int (nI j))] [] [(ax, .inr (8, [.ref q.1, .ref h, .ref sl, .ref p, .ref s, .ref gr, .ref e])), (q.1, .inr (6, [.int v.1, .int (nI v.2.1), .ref q.2.1, .ref q.2.2.1, .ref q.2.2.2])), (q.2.1, .inl (gI g, 14, .inl v.2.2.1)), (q.2.2.1, .inl (gI g, 14, .inl v.2.2.2.1)), (q.2.2.2, .inl (gI g, 14, .inl v.2.2.2.2)), (h, .inr (1, [.int (nI c), .ref hs])), (p, .inr (2, [.int (nI pn), .ref ps, .int b1, .ref pt, .ref pp, .int b2, .int b3, .int b4])), (s, .inr (4, [.int zz.1, .int zz.2.1, .int (nI zz.2.2.1), .int zz.2.2.2.1, .int (nI zz.2.2.2.2.1), .int zz.2.2.2.2.2.1, .ref s1, .ref s2, .ref s3, .ref s4])), (s1, .inl (gI g, 18, .inl zz.2.2.2.2.2.2.1)), (s2, .inl (gI g, 14, .inl zz.2.2.2.2.2.2.2.1)), (s3, .inl (gI g, 14, .inl zz.2.2.2.2.2.2.2.2.1)), (s4, .inl (gI g, 14, .inl (oI zz.2.2.2.2.2.2.2.2.2))), (gr, .inr (0, [.int g1, .int g2]))] := by
          intro d
          induction d using Nat.strongRecOn with
          | _ d ih48 =>
            intro j zz hj hd48
            refine j_iload (pc := 48) hX dL_isGreedy_48 7 rfl ?_
            refine j_iload_n (pc := 50) hX dL_isGreedy_50 1 rfl ?_
            refine j_icmp_ge (tgt := 150) (pc := 51) hX dL_isGreedy_51 (by decide) (fun c51_39 => ?_) (fun c51_39 => ?_)
            · skip
              have c51_39n : v.2.1 ≤ j := (nI_leI (a := v.2.1) (b := j) (by omega) (by omega)).mp c51_39
              have c51_39m : ¬ j < v.2.1 := by omega
              obtain rfl : j = v.2.1 := by omega
              refine j_lv (lv2 := [(0, .ref ax), (1, .int (nI v.2.1)), (2, .int (S_mk v.2.2.2.2 0 v.2.1)), (3, .int y.1), (4, .int y.2), (5, .int (S_miss v.2.2.1 v.1 v.2.1 y.1)), (6, .int (nI bz)), (7, .int (nI v.2.1))]) (by rw [hbz]; rfl) ?_
              refine j_iload (pc := 150) hX dL_isGreedy_150 6 rfl ?_
              refine j_if_ge (tgt := 157) (pc := 152) hX dL_isGreedy_152 (by decide) (fun c152_40 => ?_) (fun c152_40 => ?_)
              rotate_left
              · exfalso
                have c152_40n : ¬ 0 ≤ bz := fun h9 => c152_40 ((nI_leI (a := 0) (b := bz) (by omega) (by omega)).mpr h9)
                have c152_40m : bz < 0 := by omega
                omega
              have c152_40n : 0 ≤ bz := (nI_leI (a := 0) (b := bz) (by omega) (by omega)).mp c152_40
              have c152_40m : ¬ bz < 0 := by omega
              refine j_iload_n (pc := 157) hX dL_isGreedy_157 3 rfl ?_
              refine j_iconst (v := 1) (pc := 158) hX dL_isGreedy_158 (by decide) ?_
              refine j_iload (pc := 159) hX dL_isGreedy_159 6 rfl ?_
              refine j_ishl (pc := 161) hX dL_isGreedy_161 ?_
              refine j_top (b := bI bz) rfl ?_
              refine j_ior (pc := 162) hX dL_isGreedy_162 ?_
              refine j_istore_n (lv2 := [(0, .ref ax), (1, .int (nI v.2.1)), (2, .int (S_mk v.2.2.2.2 0 v.2.1)), (3, .int (y.1 ||| (bI bz))), (4, .int y.2), (5, .int (S_miss v.2.2.1 v.1 v.2.1 y.1)), (6, .int (nI bz)), (7, .int (nI v.2.1))]) (pc := 163) hX dL_isGreedy_163 [1, 2, 3, 0, 4, 5, 6, 7] (by decide) rfl ?_
              refine j_iload (pc := 164) hX dL_isGreedy_164 6 rfl ?_
              refine j_istore (lv2 := [(0, .ref ax), (1, .int (nI v.2.1)), (2, .int (S_mk v.2.2.2.2 0 v.2.1)), (3, .int (y.1 ||| (bI bz))), (4, .int (nI bz)), (5, .int (S_miss v.2.2.1 v.1 v.2.1 y.1)), (6, .int (nI bz)), (7, .int (nI v.2.1))]) (pc := 166) hX dL_isGreedy_166 [1, 2, 3, 4, 0, 5, 6, 7] (by decide) rfl ?_
              refine j_iload (pc := 168) hX dL_isGreedy_168 5 rfl ?_
              refine j_aload_n (pc := 170) hX dL_isGreedy_170 0 rfl ?_
              refine j_iload (pc := 171) hX dL_isGreedy_171 6 rfl ?_
              refine j_iconst (v := 0) (pc := 173) hX dL_isGreedy_173 (by decide) ?_
              refine j_callVI (n := 2) (As := [.int (nI bz), .int 0]) (rest := [.int (S_miss v.2.2.1 v.1 v.2.1 y.1)]) (pc := 174) hX (c_X8_ofSet g ax q h sl p s gr e v s1 s2 s3 s4 zz (nI bz) 0 (by first | assumption | omega)) (CV.of mw294 mw295 mw296 mw13 mw297 ⟨rfl, by decide +kernel, by decide +kernel, by decide +kernel⟩ (T := TX8) (N := 7) rfl) (Nat.le_of_ble_eq_true rfl) (Nat.le_of_ble_eq_true rfl) (Nat.le_of_ble_eq_true rfl) (Nat.le_of_ble_eq_true rfl) 0 rfl [0, 1, 2, 3, 4, 7, 8, 9, 10, 11] (by decide +kernel) rfl rfl rfl (Nat.le_of_ble_eq_true rfl) dL_isGreedy_174 (fun r42 wz hq43 => ?_)
              obtain ⟨z1_41, rfl, rfl⟩ := hq43
              refine j_ws (ws2 := [(ax, .inr (8, [.ref q.1, .ref h, .ref sl, .ref p, .ref s, .ref gr, .ref e])), (q.1, .inr (6, [.int v.1, .int (nI v.2.1), .ref q.2.1, .ref q.2.2.1, .ref q.2.2.2])), (q.2.1, .inl (gI g, 14, .inl v.2.2.1)), (q.2.2.1, .inl (gI g, 14, .inl v.2.2.2.1)), (q.2.2.2, .inl (gI g, 14, .inl v.2.2.2.2)), (h, .inr (1, [.int (nI c), .ref hs])), (p, .inr (2, [.int (nI pn), .ref ps, .int b1, .ref pt, .ref pp, .int b2, .int b3, .int b4])), (s, .inr (4, [.int z1_41.1, .int z1_41.2.1, .int (nI z1_41.2.2.1), .int z1_41.2.2.2.1, .int (nI z1_41.2.2.2.2.1), .int z1_41.2.2.2.2.2.1, .ref s1, .ref s2, .ref s3, .ref s4])), (s1, .inl (gI g, 18, .inl z1_41.2.2.2.2.2.2.1)), (s2, .inl (gI g, 14, .inl z1_41.2.2.2.2.2.2.2.1)), (s3, .inl (gI g, 14, .inl z1_41.2.2.2.2.2.2.2.2.1)), (s4, .inl (gI g, 14, .inl (oI z1_41.2.2.2.2.2.2.2.2.2))), (gr, .inr (0, [.int g1, .int g2]))]) rfl ?_
              refine j_top (b := v.2.2.1 bz) (ro_0 (by first | exact hv | exact hok.1 | exact hv2 | assumption) (by omega)) ?_
              refine j_iconst (v := (-1)) (pc := 177) hX dL_isGreedy_177 (by decide) ?_
              refine j_ixor (pc := 178) hX dL_isGreedy_178 ?_
              refine j_iand (pc := 179) hX dL_isGreedy_179 ?_
              refine j_top (b := S_miss v.2.2.1 v.1 v.2.1 (y.1 ||| bI bz)) (miss_bI hbn hok) ?_
              refine j_istore (lv2 := [(0, .ref ax), (1, .int (nI v.2.1)), (2, .int (S_mk v.2.2.2.2 0 v.2.1)), (3, .int (y.1 ||| (bI bz))), (4, .int (nI bz)), (5, .int (S_miss v.2.2.1 v.1 v.2.1 (y.1 ||| bI bz))), (6, .int (nI bz)), (7, .int (nI v.2.1))]) (pc := 180) hX dL_isGreedy_180 [1, 2, 3, 4, 5, 0, 6, 7] (by decide) rfl ?_
              refine j_goto (tgt := 37) (pc := 182) hX dL_isGreedy_182 (by decide) ?_
              refine j_lvs (lv2 := [(0, .ref ax), (1, .int (nI v.2.1)), (2, .int (S_mk v.2.2.2.2 0 v.2.1)), (3, .int (y.1 ||| (bI bz))), (4, .int (nI bz)), (5, .int (S_miss v.2.2.1 v.1 v.2.1 (y.1 ||| bI bz)))]) [0, 1, 2, 3, 4, 5] rfl ?_
              exact j_eq (lv2 := [(0, .ref ax), (1, .int (nI v.2.1)), (2, .int (S_mk v.2.2.2.2 0 v.2.1)), (3, .int (y.1 ||| bI bz, nI bz).1), (4, .int (y.1 ||| bI bz, nI bz).2), (5, .int (S_miss v.2.2.1 v.1 v.2.1 (y.1 ||| bI bz, nI bz).1))]) (ws2 := [(ax, .inr (8, [.ref q.1, .ref h, .ref sl, .ref p, .ref s, .ref gr, .ref e])), (q.1, .inr (6, [.int v.1, .int (nI v.2.1), .ref q.2.1, .ref q.2.2.1, .ref q.2.2.2])), (q.2.1, .inl (gI g, 14, .inl v.2.2.1)), (q.2.2.1, .inl (gI g, 14, .inl v.2.2.2.1)), (q.2.2.2, .inl (gI g, 14, .inl v.2.2.2.2)), (h, .inr (1, [.int (nI c), .ref hs])), (p, .inr (2, [.int (nI pn), .ref ps, .int b1, .ref pt, .ref pp, .int b2, .int b3, .int b4])), (s, .inr (4, [.int z1_41.1, .int z1_41.2.1, .int (nI z1_41.2.2.1), .int z1_41.2.2.2.1, .int (nI z1_41.2.2.2.2.1), .int z1_41.2.2.2.2.2.1, .ref s1, .ref s2, .ref s3, .ref s4])), (s1, .inl (gI g, 18, .inl z1_41.2.2.2.2.2.2.1)), (s2, .inl (gI g, 14, .inl z1_41.2.2.2.2.2.2.2.1)), (s3, .inl (gI g, 14, .inl z1_41.2.2.2.2.2.2.2.2.1)), (s4, .inl (gI g, 14, .inl (oI z1_41.2.2.2.2.2.2.2.2.2))), (gr, .inr (0, [.int g1, .int g2]))]) (by first | rfl | first | (simp only [jb_t, jb_f, c39_14, c51_39, c51_39n, c51_39m, c152_40, c152_40n, c152_40m, reduceIte, eq_self, decide_true, decide_false, Bool.and_true, Bool.true_and, Bool.and_false, Bool.false_and, Bool.and_self, not_true_eq_false, not_false_eq_true, and_true, true_and, and_false, false_and, and_self]; done) | (simp [jb_t, jb_f, c39_14, c51_39, c51_39n, c51_39m, c152_40, c152_40n, c152_40m]; done)) (by first | rfl | first | (simp only [jb_t, jb_f, c39_14, c51_39, c51_39n, c51_39m, c152_40, c152_40n, c152_40m, reduceIte, eq_self, decide_true, decide_false, Bool.and_true, Bool.true_and, Bool.and_false, Bool.false_and, Bool.and_self, not_true_eq_false, not_false_eq_true, and_true, true_and, and_false, false_and, and_self]; done) | (simp [jb_t, jb_f, c39_14, c51_39, c51_39n, c51_39m, c152_40, c152_40n, c152_40m]; done)) (ih37 _ (by omega) (i + 1) (y.1 ||| bI bz, nI bz) z1_41 (hbR) (hbT) (hbB) rfl)
            · skip
              have c51_39n : ¬ v.2.1 ≤ j := fun h9 => c51_39 ((nI_leI (a := v.2.1) (b := j) (by omega) (by omega)).mpr h9)
              have c51_39m : j < v.2.1 := by omega
              rcases gs5 hok (l := (S_miss v.2.2.1 v.1 v.2.1 y.1)) (show j < v.2.1 by omega) with ⟨hG1, hE⟩ | ⟨hG2, hG2s, hE⟩ | ⟨hG3, hG3s, hGb, hE⟩ | ⟨bq, hG4, hG4s, hGb, hbj, hG4c, hE⟩ | ⟨bq, hG5, hG5s, hGb, hbj, hG5c, hE⟩
              · skip
                refine j_aload_n (pc := 54) hX dL_isGreedy_54 0 rfl ?_
                refine j_iload (pc := 55) hX dL_isGreedy_55 7 rfl ?_
                refine j_iconst (v := 0) (pc := 57) hX dL_isGreedy_57 (by decide) ?_
                refine j_callVI (n := 2) (As := [.int (nI j), .int 0]) (rest := []) (pc := 58) hX (c_X8_ofSet g ax q h sl p s gr e v s1 s2 s3 s4 zz (nI j) 0 (by first | assumption | omega)) (CV.of mw294 mw295 mw296 mw13 mw297 ⟨rfl, by decide +kernel, by decide +kernel, by decide +kernel⟩ (T := TX8) (N := 7) rfl) (Nat.le_of_ble_eq_true rfl) (Nat.le_of_ble_eq_true rfl) (Nat.le_of_ble_eq_true rfl) (Nat.le_of_ble_eq_true rfl) 0 rfl [0, 1, 2, 3, 4, 7, 8, 9, 10, 11] (by decide +kernel) rfl rfl rfl (Nat.le_of_ble_eq_true rfl) dL_isGreedy_58 (fun r45 wz hq46 => ?_)
                obtain ⟨z1_44, rfl, rfl⟩ := hq46
                refine j_ws (ws2 := [(ax, .inr (8, [.ref q.1, .ref h, .ref sl, .ref p, .ref s, .ref gr, .ref e])), (q.1, .inr (6, [.int v.1, .int (nI v.2.1), .ref q.2.1, .ref q.2.2.1, .ref q.2.2.2])), (q.2.1, .inl (gI g, 14, .inl v.2.2.1)), (q.2.2.1, .inl (gI g, 14, .inl v.2.2.2.1)), (q.2.2.2, .inl (gI g, 14, .inl v.2.2.2.2)), (h, .inr (1, [.int (nI c), .ref hs])), (p, .inr (2, [.int (nI pn), .ref ps, .int b1, .ref pt, .ref pp, .int b2, .int b3, .int b4])), (s, .inr (4, [.int z1_44.1, .int z1_44.2.1, .int (nI z1_44.2.2.1), .int z1_44.2.2.2.1, .int (nI z1_44.2.2.2.2.1), .int z1_44.2.2.2.2.2.1, .ref s1, .ref s2, .ref s3, .ref s4])), (s1, .inl (gI g, 18, .inl z1_44.2.2.2.2.2.2.1)), (s2, .inl (gI g, 14, .inl z1_44.2.2.2.2.2.2.2.1)), (s3, .inl (gI g, 14, .inl z1_44.2.2.2.2.2.2.2.2.1)), (s4, .inl (gI g, 14, .inl (oI z1_44.2.2.2.2.2.2.2.2.2))), (gr, .inr (0, [.int g1, .int g2]))]) rfl ?_
                refine j_top (b := v.2.2.1 j) (ro_0 (by first | exact hv | exact hok.1 | exact hv2 | assumption) (by omega)) ?_
                refine j_iload (pc := 61) hX dL_isGreedy_61 5 rfl ?_
                refine j_iand (pc := 63) hX dL_isGreedy_63 ?_
                refine j_callSI (n := 1) (As := [.int ((v.2.2.1 j) &&& (S_miss v.2.2.1 v.1 v.2.1 y.1))]) (rest := []) (pc := 64) hX (c_L_ones g ((v.2.2.1 j) &&& (S_miss v.2.2.1 v.1 v.2.1 y.1)) ) (CS.of mw342 mw343 mw12 mw344 ⟨by decide +kernel, by decide +kernel, by decide +kernel⟩) (Nat.le_of_ble_eq_true rfl) (Nat.le_of_ble_eq_true rfl) (Nat.le_of_ble_eq_true rfl) (Nat.le_of_ble_eq_true rfl) [] (by decide +kernel) rfl rfl rfl (Nat.le_of_ble_eq_true rfl) dL_isGreedy_64 (fun r47 wz hq48 => ?_)
                obtain ⟨rfl, rfl⟩ := hq48
                refine j_ws (ws2 := [(ax, .inr (8, [.ref q.1, .ref h, .ref sl, .ref p, .ref s, .ref gr, .ref e])), (q.1, .inr (6, [.int v.1, .int (nI v.2.1), .ref q.2.1, .ref q.2.2.1, .ref q.2.2.2])), (q.2.1, .inl (gI g, 14, .inl v.2.2.1)), (q.2.2.1, .inl (gI g, 14, .inl v.2.2.2.1)), (q.2.2.2, .inl (gI g, 14, .inl v.2.2.2.2)), (h, .inr (1, [.int (nI c), .ref hs])), (p, .inr (2, [.int (nI pn), .ref ps, .int b1, .ref pt, .ref pp, .int b2, .int b3, .int b4])), (s, .inr (4, [.int z1_44.1, .int z1_44.2.1, .int (nI z1_44.2.2.1), .int z1_44.2.2.2.1, .int (nI z1_44.2.2.2.2.1), .int z1_44.2.2.2.2.2.1, .ref s1, .ref s2, .ref s3, .ref s4])), (s1, .inl (gI g, 18, .inl z1_44.2.2.2.2.2.2.1)), (s2, .inl (gI g, 14, .inl z1_44.2.2.2.2.2.2.2.1)), (s3, .inl (gI g, 14, .inl z1_44.2.2.2.2.2.2.2.2.1)), (s4, .inl (gI g, 14, .inl (oI z1_44.2.2.2.2.2.2.2.2.2))), (gr, .inr (0, [.int g1, .int g2]))]) rfl ?_
                refine j_istore (lv2 := [(0, .ref ax), (1, .int (nI v.2.1)), (2, .int (S_mk v.2.2.2.2 0 v.2.1)), (3, .int y.1), (4, .int y.2), (5, .int (S_miss v.2.2.1 v.1 v.2.1 y.1)), (6, .int (oM (bB v (S_miss v.2.2.1 v.1 v.2.1 y.1) j).1)), (7, .int (nI j)), (8, .int (S_size ((v.2.2.1 j) &&& (S_miss v.2.2.1 v.1 v.2.1 y.1)) 18))]) (pc := 67) hX dL_isGreedy_67 [1, 2, 3, 4, 5, 6, 7, 8, 0] (by decide) rfl ?_
                refine j_iload_n (pc := 69) hX dL_isGreedy_69 2 rfl ?_
                refine j_iload (pc := 70) hX dL_isGreedy_70 7 rfl ?_
                refine j_callSI (n := 2) (As := [.int (S_mk v.2.2.2.2 0 v.2.1), .int (nI j)]) (rest := []) (pc := 72) hX (c_L_has g (S_mk v.2.2.2.2 0 v.2.1) j (by first | assumption | omega)) (CS.of mw339 mw340 mw12 mw341 ⟨by decide +kernel, by decide +kernel, by decide +kernel⟩) (Nat.le_of_ble_eq_true rfl) (Nat.le_of_ble_eq_true rfl) (Nat.le_of_ble_eq_true rfl) (Nat.le_of_ble_eq_true rfl) [] (by decide +kernel) rfl rfl rfl (Nat.le_of_ble_eq_true rfl) dL_isGreedy_72 (fun r49 wz hq50 => ?_)
                obtain ⟨rfl, rfl⟩ := hq50
                refine j_ws (ws2 := [(ax, .inr (8, [.ref q.1, .ref h, .ref sl, .ref p, .ref s, .ref gr, .ref e])), (q.1, .inr (6, [.int v.1, .int (nI v.2.1), .ref q.2.1, .ref q.2.2.1, .ref q.2.2.2])), (q.2.1, .inl (gI g, 14, .inl v.2.2.1)), (q.2.2.1, .inl (gI g, 14, .inl v.2.2.2.1)), (q.2.2.2, .inl (gI g, 14, .inl v.2.2.2.2)), (h, .inr (1, [.int (nI c), .ref hs])), (p, .inr (2, [.int (nI pn), .ref ps, .int b1, .ref pt, .ref pp, .int b2, .int b3, .int b4])), (s, .inr (4, [.int z1_44.1, .int z1_44.2.1, .int (nI z1_44.2.2.1), .int z1_44.2.2.2.1, .int (nI z1_44.2.2.2.2.1), .int z1_44.2.2.2.2.2.1, .ref s1, .ref s2, .ref s3, .ref s4])), (s1, .inl (gI g, 18, .inl z1_44.2.2.2.2.2.2.1)), (s2, .inl (gI g, 14, .inl z1_44.2.2.2.2.2.2.2.1)), (s3, .inl (gI g, 14, .inl z1_44.2.2.2.2.2.2.2.2.1)), (s4, .inl (gI g, 14, .inl (oI z1_44.2.2.2.2.2.2.2.2.2))), (gr, .inr (0, [.int g1, .int g2]))]) rfl ?_
                refine j_if_eq (tgt := 144) (pc := 75) hX dL_isGreedy_75 (by decide) (fun c75_51 => ?_) (fun c75_51 => ?_)
                rotate_left
                · exfalso
                  have c75_51b : (bt (S_mk v.2.2.2.2 0 v.2.1) j) = true := jb_1.mp c75_51
                  rw [hG1] at c75_51b; cases c75_51b
                have c75_51b : (bt (S_mk v.2.2.2.2 0 v.2.1) j) = false := jb_0.mp c75_51
                refine j_iinc (v := nI (j + 1)) (lv2 := [(0, .ref ax), (1, .int (nI v.2.1)), (2, .int (S_mk v.2.2.2.2 0 v.2.1)), (3, .int y.1), (4, .int y.2), (5, .int (S_miss v.2.2.1 v.1 v.2.1 y.1)), (6, .int (oM (bB v (S_miss v.2.2.1 v.1 v.2.1 y.1) j).1)), (7, .int (nI (j + 1))), (8, .int (S_size ((v.2.2.1 j) &&& (S_miss v.2.2.1 v.1 v.2.1 y.1)) 18))]) (pc := 144) hX dL_isGreedy_144 7 rfl (nI_add j 1) [1, 2, 3, 4, 5, 6, 7, 0, 8] (by decide) rfl ?_
                refine j_goto (tgt := 48) (pc := 147) hX dL_isGreedy_147 (by decide) ?_
                refine j_lvs (lv2 := [(0, .ref ax), (1, .int (nI v.2.1)), (2, .int (S_mk v.2.2.2.2 0 v.2.1)), (3, .int y.1), (4, .int y.2), (5, .int (S_miss v.2.2.1 v.1 v.2.1 y.1)), (6, .int (oM (bB v (S_miss v.2.2.1 v.1 v.2.1 y.1) j).1)), (7, .int (nI (j + 1)))]) [0, 1, 2, 3, 4, 5, 6, 7] rfl ?_
                exact j_eq (lv2 := [(0, .ref ax), (1, .int (nI v.2.1)), (2, .int (S_mk v.2.2.2.2 0 v.2.1)), (3, .int y.1), (4, .int y.2), (5, .int (S_miss v.2.2.1 v.1 v.2.1 y.1)), (6, .int (oM (bB v (S_miss v.2.2.1 v.1 v.2.1 y.1) (j + 1)).1)), (7, .int (nI (j + 1)))]) (ws2 := [(ax, .inr (8, [.ref q.1, .ref h, .ref sl, .ref p, .ref s, .ref gr, .ref e])), (q.1, .inr (6, [.int v.1, .int (nI v.2.1), .ref q.2.1, .ref q.2.2.1, .ref q.2.2.2])), (q.2.1, .inl (gI g, 14, .inl v.2.2.1)), (q.2.2.1, .inl (gI g, 14, .inl v.2.2.2.1)), (q.2.2.2, .inl (gI g, 14, .inl v.2.2.2.2)), (h, .inr (1, [.int (nI c), .ref hs])), (p, .inr (2, [.int (nI pn), .ref ps, .int b1, .ref pt, .ref pp, .int b2, .int b3, .int b4])), (s, .inr (4, [.int z1_44.1, .int z1_44.2.1, .int (nI z1_44.2.2.1), .int z1_44.2.2.2.1, .int (nI z1_44.2.2.2.2.1), .int z1_44.2.2.2.2.2.1, .ref s1, .ref s2, .ref s3, .ref s4])), (s1, .inl (gI g, 18, .inl z1_44.2.2.2.2.2.2.1)), (s2, .inl (gI g, 14, .inl z1_44.2.2.2.2.2.2.2.1)), (s3, .inl (gI g, 14, .inl z1_44.2.2.2.2.2.2.2.2.1)), (s4, .inl (gI g, 14, .inl (oI z1_44.2.2.2.2.2.2.2.2.2))), (gr, .inr (0, [.int g1, .int g2]))]) (by first | (rw [hE]; first | done | rfl) | (rw [hE, hGb]; first | done | rfl) | rfl) (by first | (rw [hE]; first | done | rfl) | (rw [hE, hGb]; first | done | rfl) | rfl) (ih48 _ (by omega) (j + 1) z1_44 (by omega) rfl)
              · skip
                refine j_aload_n (pc := 54) hX dL_isGreedy_54 0 rfl ?_
                refine j_iload (pc := 55) hX dL_isGreedy_55 7 rfl ?_
                refine j_iconst (v := 0) (pc := 57) hX dL_isGreedy_57 (by decide) ?_
                refine j_callVI (n := 2) (As := [.int (nI j), .int 0]) (rest := []) (pc := 58) hX (c_X8_ofSet g ax q h sl p s gr e v s1 s2 s3 s4 zz (nI j) 0 (by first | assumption | omega)) (CV.of mw294 mw295 mw296 mw13 mw297 ⟨rfl, by decide +kernel, by decide +kernel, by decide +kernel⟩ (T := TX8) (N := 7) rfl) (Nat.le_of_ble_eq_true rfl) (Nat.le_of_ble_eq_true rfl) (Nat.le_of_ble_eq_true rfl) (Nat.le_of_ble_eq_true rfl) 0 rfl [0, 1, 2, 3, 4, 7, 8, 9, 10, 11] (by decide +kernel) rfl rfl rfl (Nat.le_of_ble_eq_true rfl) dL_isGreedy_58 (fun r53 wz hq54 => ?_)
                obtain ⟨z1_52, rfl, rfl⟩ := hq54
                refine j_ws (ws2 := [(ax, .inr (8, [.ref q.1, .ref h, .ref sl, .ref p, .ref s, .ref gr, .ref e])), (q.1, .inr (6, [.int v.1, .int (nI v.2.1), .ref q.2.1, .ref q.2.2.1, .ref q.2.2.2])), (q.2.1, .inl (gI g, 14, .inl v.2.2.1)), (q.2.2.1, .inl (gI g, 14, .inl v.2.2.2.1)), (q.2.2.2, .inl (gI g, 14, .inl v.2.2.2.2)), (h, .inr (1, [.int (nI c), .ref hs])), (p, .inr (2, [.int (nI pn), .ref ps, .int b1, .ref pt, .ref pp, .int b2, .int b3, .int b4])), (s, .inr (4, [.int z1_52.1, .int z1_52.2.1, .int (nI z1_52.2.2.1), .int z1_52.2.2.2.1, .int (nI z1_52.2.2.2.2.1), .int z1_52.2.2.2.2.2.1, .ref s1, .ref s2, .ref s3, .ref s4])), (s1, .inl (gI g, 18, .inl z1_52.2.2.2.2.2.2.1)), (s2, .inl (gI g, 14, .inl z1_52.2.2.2.2.2.2.2.1)), (s3, .inl (gI g, 14, .inl z1_52.2.2.2.2.2.2.2.2.1)), (s4, .inl (gI g, 14, .inl (oI z1_52.2.2.2.2.2.2.2.2.2))), (gr, .inr (0, [.int g1, .int g2]))]) rfl ?_
                refine j_top (b := v.2.2.1 j) (ro_0 (by first | exact hv | exact hok.1 | exact hv2 | assumption) (by omega)) ?_
                refine j_iload (pc := 61) hX dL_isGreedy_61 5 rfl ?_
                refine j_iand (pc := 63) hX dL_isGreedy_63 ?_
                refine j_callSI (n := 1) (As := [.int ((v.2.2.1 j) &&& (S_miss v.2.2.1 v.1 v.2.1 y.1))]) (rest := []) (pc := 64) hX (c_L_ones g ((v.2.2.1 j) &&& (S_miss v.2.2.1 v.1 v.2.1 y.1)) ) (CS.of mw342 mw343 mw12 mw344 ⟨by decide +kernel, by decide +kernel, by decide +kernel⟩) (Nat.le_of_ble_eq_true rfl) (Nat.le_of_ble_eq_true rfl) (Nat.le_of_ble_eq_true rfl) (Nat.le_of_ble_eq_true rfl) [] (by decide +kernel) rfl rfl rfl (Nat.le_of_ble_eq_true rfl) dL_isGreedy_64 (fun r55 wz hq56 => ?_)
                obtain ⟨rfl, rfl⟩ := hq56
                refine j_ws (ws2 := [(ax, .inr (8, [.ref q.1, .ref h, .ref sl, .ref p, .ref s, .ref gr, .ref e])), (q.1, .inr (6, [.int v.1, .int (nI v.2.1), .ref q.2.1, .ref q.2.2.1, .ref q.2.2.2])), (q.2.1, .inl (gI g, 14, .inl v.2.2.1)), (q.2.2.1, .inl (gI g, 14, .inl v.2.2.2.1)), (q.2.2.2, .inl (gI g, 14, .inl v.2.2.2.2)), (h, .inr (1, [.int (nI c), .ref hs])), (p, .inr (2, [.int (nI pn), .ref ps, .int b1, .ref pt, .ref pp, .int b2, .int b3, .int b4])), (s, .inr (4, [.int z1_52.1, .int z1_52.2.1, .int (nI z1_52.2.2.1), .int z1_52.2.2.2.1, .int (nI z1_52.2.2.2.2.1), .int z1_52.2.2.2.2.2.1, .ref s1, .ref s2, .ref s3, .ref s4])), (s1, .inl (gI g, 18, .inl z1_52.2.2.2.2.2.2.1)), (s2, .inl (gI g, 14, .inl z1_52.2.2.2.2.2.2.2.1)), (s3, .inl (gI g, 14, .inl z1_52.2.2.2.2.2.2.2.2.1)), (s4, .inl (gI g, 14, .inl (oI z1_52.2.2.2.2.2.2.2.2.2))), (gr, .inr (0, [.int g1, .int g2]))]) rfl ?_
                refine j_istore (lv2 := [(0, .ref ax), (1, .int (nI v.2.1)), (2, .int (S_mk v.2.2.2.2 0 v.2.1)), (3, .int y.1), (4, .int y.2), (5, .int (S_miss v.2.2.1 v.1 v.2.1 y.1)), (6, .int (oM (bB v (S_miss v.2.2.1 v.1 v.2.1 y.1) j).1)), (7, .int (nI j)), (8, .int (S_size ((v.2.2.1 j) &&& (S_miss v.2.2.1 v.1 v.2.1 y.1)) 18))]) (pc := 67) hX dL_isGreedy_67 [1, 2, 3, 4, 5, 6, 7, 8, 0] (by decide) rfl ?_
                refine j_iload_n (pc := 69) hX dL_isGreedy_69 2 rfl ?_
                refine j_iload (pc := 70) hX dL_isGreedy_70 7 rfl ?_
                refine j_callSI (n := 2) (As := [.int (S_mk v.2.2.2.2 0 v.2.1), .int (nI j)]) (rest := []) (pc := 72) hX (c_L_has g (S_mk v.2.2.2.2 0 v.2.1) j (by first | assumption | omega)) (CS.of mw339 mw340 mw12 mw341 ⟨by decide +kernel, by decide +kernel, by decide +kernel⟩) (Nat.le_of_ble_eq_true rfl) (Nat.le_of_ble_eq_true rfl) (Nat.le_of_ble_eq_true rfl) (Nat.le_of_ble_eq_true rfl) [] (by decide +kernel) rfl rfl rfl (Nat.le_of_ble_eq_true rfl) dL_isGreedy_72 (fun r57 wz hq58 => ?_)
                obtain ⟨rfl, rfl⟩ := hq58
                refine j_ws (ws2 := [(ax, .inr (8, [.ref q.1, .ref h, .ref sl, .ref p, .ref s, .ref gr, .ref e])), (q.1, .inr (6, [.int v.1, .int (nI v.2.1), .ref q.2.1, .ref q.2.2.1, .ref q.2.2.2])), (q.2.1, .inl (gI g, 14, .inl v.2.2.1)), (q.2.2.1, .inl (gI g, 14, .inl v.2.2.2.1)), (q.2.2.2, .inl (gI g, 14, .inl v.2.2.2.2)), (h, .inr (1, [.int (nI c), .ref hs])), (p, .inr (2, [.int (nI pn), .ref ps, .int b1, .ref pt, .ref pp, .int b2, .int b3, .int b4])), (s, .inr (4, [.int z1_52.1, .int z1_52.2.1, .int (nI z1_52.2.2.1), .int z1_52.2.2.2.1, .int (nI z1_52.2.2.2.2.1), .int z1_52.2.2.2.2.2.1, .ref s1, .ref s2, .ref s3, .ref s4])), (s1, .inl (gI g, 18, .inl z1_52.2.2.2.2.2.2.1)), (s2, .inl (gI g, 14, .inl z1_52.2.2.2.2.2.2.2.1)), (s3, .inl (gI g, 14, .inl z1_52.2.2.2.2.2.2.2.2.1)), (s4, .inl (gI g, 14, .inl (oI z1_52.2.2.2.2.2.2.2.2.2))), (gr, .inr (0, [.int g1, .int g2]))]) rfl ?_
                refine j_if_eq (tgt := 144) (pc := 75) hX dL_isGreedy_75 (by decide) (fun c75_59 => ?_) (fun c75_59 => ?_)
                · exfalso
                  have c75_59b : (bt (S_mk v.2.2.2.2 0 v.2.1) j) = false := jb_0.mp c75_59
                  rw [hG2] at c75_59b; cases c75_59b
                have c75_59b : (bt (S_mk v.2.2.2.2 0 v.2.1) j) = true := jb_1.mp c75_59
                refine j_iload (pc := 78) hX dL_isGreedy_78 8 rfl ?_
                refine j_if_le (tgt := 144) (pc := 80) hX dL_isGreedy_80 (by decide) (fun c80_60 => ?_) (fun c80_60 => ?_)
                rotate_left
                · exfalso
                  exact c80_60 hG2s
                refine j_iinc (v := nI (j + 1)) (lv2 := [(0, .ref ax), (1, .int (nI v.2.1)), (2, .int (S_mk v.2.2.2.2 0 v.2.1)), (3, .int y.1), (4, .int y.2), (5, .int (S_miss v.2.2.1 v.1 v.2.1 y.1)), (6, .int (oM (bB v (S_miss v.2.2.1 v.1 v.2.1 y.1) j).1)), (7, .int (nI (j + 1))), (8, .int (S_size ((v.2.2.1 j) &&& (S_miss v.2.2.1 v.1 v.2.1 y.1)) 18))]) (pc := 144) hX dL_isGreedy_144 7 rfl (nI_add j 1) [1, 2, 3, 4, 5, 6, 7, 0, 8] (by decide) rfl ?_
                refine j_goto (tgt := 48) (pc := 147) hX dL_isGreedy_147 (by decide) ?_
                refine j_lvs (lv2 := [(0, .ref ax), (1, .int (nI v.2.1)), (2, .int (S_mk v.2.2.2.2 0 v.2.1)), (3, .int y.1), (4, .int y.2), (5, .int (S_miss v.2.2.1 v.1 v.2.1 y.1)), (6, .int (oM (bB v (S_miss v.2.2.1 v.1 v.2.1 y.1) j).1)), (7, .int (nI (j + 1)))]) [0, 1, 2, 3, 4, 5, 6, 7] rfl ?_
                exact j_eq (lv2 := [(0, .ref ax), (1, .int (nI v.2.1)), (2, .int (S_mk v.2.2.2.2 0 v.2.1)), (3, .int y.1), (4, .int y.2), (5, .int (S_miss v.2.2.1 v.1 v.2.1 y.1)), (6, .int (oM (bB v (S_miss v.2.2.1 v.1 v.2.1 y.1) (j + 1)).1)), (7, .int (nI (j + 1)))]) (ws2 := [(ax, .inr (8, [.ref q.1, .ref h, .ref sl, .ref p, .ref s, .ref gr, .ref e])), (q.1, .inr (6, [.int v.1, .int (nI v.2.1), .ref q.2.1, .ref q.2.2.1, .ref q.2.2.2])), (q.2.1, .inl (gI g, 14, .inl v.2.2.1)), (q.2.2.1, .inl (gI g, 14, .inl v.2.2.2.1)), (q.2.2.2, .inl (gI g, 14, .inl v.2.2.2.2)), (h, .inr (1, [.int (nI c), .ref hs])), (p, .inr (2, [.int (nI pn), .ref ps, .int b1, .ref pt, .ref pp, .int b2, .int b3, .int b4])), (s, .inr (4, [.int z1_52.1, .int z1_52.2.1, .int (nI z1_52.2.2.1), .int z1_52.2.2.2.1, .int (nI z1_52.2.2.2.2.1), .int z1_52.2.2.2.2.2.1, .ref s1, .ref s2, .ref s3, .ref s4])), (s1, .inl (gI g, 18, .inl z1_52.2.2.2.2.2.2.1)), (s2, .inl (gI g, 14, .inl z1_52.2.2.2.2.2.2.2.1)), (s3, .inl (gI g, 14, .inl z1_52.2.2.2.2.2.2.2.2.1)), (s4, .inl (gI g, 14, .inl (oI z1_52.2.2.2.2.2.2.2.2.2))), (gr, .inr (0, [.int g1, .int g2]))]) (by first | (rw [hE]; first | done | rfl) | (rw [hE, hGb]; first | done | rfl) | rfl) (by first | (rw [hE]; first | done | rfl) | (rw [hE, hGb]; first | done | rfl) | rfl) (ih48 _ (by omega) (j + 1) z1_52 (by omega) rfl)
              · skip
                refine j_aload_n (pc := 54) hX dL_isGreedy_54 0 rfl ?_
                refine j_lv (lv2 := [(0, .ref ax), (1, .int (nI v.2.1)), (2, .int (S_mk v.2.2.2.2 0 v.2.1)), (3, .int y.1), (4, .int y.2), (5, .int (S_miss v.2.2.1 v.1 v.2.1 y.1)), (6, .int (-1)), (7, .int (nI j))]) (by rw [hGb]; rfl) ?_
                refine j_iload (pc := 55) hX dL_isGreedy_55 7 rfl ?_
                refine j_iconst (v := 0) (pc := 57) hX dL_isGreedy_57 (by decide) ?_
                refine j_callVI (n := 2) (As := [.int (nI j), .int 0]) (rest := []) (pc := 58) hX (c_X8_ofSet g ax q h sl p s gr e v s1 s2 s3 s4 zz (nI j) 0 (by first | assumption | omega)) (CV.of mw294 mw295 mw296 mw13 mw297 ⟨rfl, by decide +kernel, by decide +kernel, by decide +kernel⟩ (T := TX8) (N := 7) rfl) (Nat.le_of_ble_eq_true rfl) (Nat.le_of_ble_eq_true rfl) (Nat.le_of_ble_eq_true rfl) (Nat.le_of_ble_eq_true rfl) 0 rfl [0, 1, 2, 3, 4, 7, 8, 9, 10, 11] (by decide +kernel) rfl rfl rfl (Nat.le_of_ble_eq_true rfl) dL_isGreedy_58 (fun r62 wz hq63 => ?_)
                obtain ⟨z1_61, rfl, rfl⟩ := hq63
                refine j_ws (ws2 := [(ax, .inr (8, [.ref q.1, .ref h, .ref sl, .ref p, .ref s, .ref gr, .ref e])), (q.1, .inr (6, [.int v.1, .int (nI v.2.1), .ref q.2.1, .ref q.2.2.1, .ref q.2.2.2])), (q.2.1, .inl (gI g, 14, .inl v.2.2.1)), (q.2.2.1, .inl (gI g, 14, .inl v.2.2.2.1)), (q.2.2.2, .inl (gI g, 14, .inl v.2.2.2.2)), (h, .inr (1, [.int (nI c), .ref hs])), (p, .inr (2, [.int (nI pn), .ref ps, .int b1, .ref pt, .ref pp, .int b2, .int b3, .int b4])), (s, .inr (4, [.int z1_61.1, .int z1_61.2.1, .int (nI z1_61.2.2.1), .int z1_61.2.2.2.1, .int (nI z1_61.2.2.2.2.1), .int z1_61.2.2.2.2.2.1, .ref s1, .ref s2, .ref s3, .ref s4])), (s1, .inl (gI g, 18, .inl z1_61.2.2.2.2.2.2.1)), (s2, .inl (gI g, 14, .inl z1_61.2.2.2.2.2.2.2.1)), (s3, .inl (gI g, 14, .inl z1_61.2.2.2.2.2.2.2.2.1)), (s4, .inl (gI g, 14, .inl (oI z1_61.2.2.2.2.2.2.2.2.2))), (gr, .inr (0, [.int g1, .int g2]))]) rfl ?_
                refine j_top (b := v.2.2.1 j) (ro_0 (by first | exact hv | exact hok.1 | exact hv2 | assumption) (by omega)) ?_
                refine j_iload (pc := 61) hX dL_isGreedy_61 5 rfl ?_
                refine j_iand (pc := 63) hX dL_isGreedy_63 ?_
                refine j_callSI (n := 1) (As := [.int ((v.2.2.1 j) &&& (S_miss v.2.2.1 v.1 v.2.1 y.1))]) (rest := []) (pc := 64) hX (c_L_ones g ((v.2.2.1 j) &&& (S_miss v.2.2.1 v.1 v.2.1 y.1)) ) (CS.of mw342 mw343 mw12 mw344 ⟨by decide +kernel, by decide +kernel, by decide +kernel⟩) (Nat.le_of_ble_eq_true rfl) (Nat.le_of_ble_eq_true rfl) (Nat.le_of_ble_eq_true rfl) (Nat.le_of_ble_eq_true rfl) [] (by decide +kernel) rfl rfl rfl (Nat.le_of_ble_eq_true rfl) dL_isGreedy_64 (fun r64 wz hq65 => ?_)
                obtain ⟨rfl, rfl⟩ := hq65
                refine j_ws (ws2 := [(ax, .inr (8, [.ref q.1, .ref h, .ref sl, .ref p, .ref s, .ref gr, .ref e])), (q.1, .inr (6, [.int v.1, .int (nI v.2.1), .ref q.2.1, .ref q.2.2.1, .ref q.2.2.2])), (q.2.1, .inl (gI g, 14, .inl v.2.2.1)), (q.2.2.1, .inl (gI g, 14, .inl v.2.2.2.1)), (q.2.2.2, .inl (gI g, 14, .inl v.2.2.2.2)), (h, .inr (1, [.int (nI c), .ref hs])), (p, .inr (2, [.int (nI pn), .ref ps, .int b1, .ref pt, .ref pp, .int b2, .int b3, .int b4])), (s, .inr (4, [.int z1_61.1, .int z1_61.2.1, .int (nI z1_61.2.2.1), .int z1_61.2.2.2.1, .int (nI z1_61.2.2.2.2.1), .int z1_61.2.2.2.2.2.1, .ref s1, .ref s2, .ref s3, .ref s4])), (s1, .inl (gI g, 18, .inl z1_61.2.2.2.2.2.2.1)), (s2, .inl (gI g, 14, .inl z1_61.2.2.2.2.2.2.2.1)), (s3, .inl (gI g, 14, .inl z1_61.2.2.2.2.2.2.2.2.1)), (s4, .inl (gI g, 14, .inl (oI z1_61.2.2.2.2.2.2.2.2.2))), (gr, .inr (0, [.int g1, .int g2]))]) rfl ?_
                refine j_istore (lv2 := [(0, .ref ax), (1, .int (nI v.2.1)), (2, .int (S_mk v.2.2.2.2 0 v.2.1)), (3, .int y.1), (4, .int y.2), (5, .int (S_miss v.2.2.1 v.1 v.2.1 y.1)), (6, .int (-1)), (7, .int (nI j)), (8, .int (S_size ((v.2.2.1 j) &&& (S_miss v.2.2.1 v.1 v.2.1 y.1)) 18))]) (pc := 67) hX dL_isGreedy_67 [1, 2, 3, 4, 5, 6, 7, 8, 0] (by decide) rfl ?_
                refine j_iload_n (pc := 69) hX dL_isGreedy_69 2 rfl ?_
                refine j_iload (pc := 70) hX dL_isGreedy_70 7 rfl ?_
                refine j_callSI (n := 2) (As := [.int (S_mk v.2.2.2.2 0 v.2.1), .int (nI j)]) (rest := []) (pc := 72) hX (c_L_has g (S_mk v.2.2.2.2 0 v.2.1) j (by first | assumption | omega)) (CS.of mw339 mw340 mw12 mw341 ⟨by decide +kernel, by decide +kernel, by decide +kernel⟩) (Nat.le_of_ble_eq_true rfl) (Nat.le_of_ble_eq_true rfl) (Nat.le_of_ble_eq_true rfl) (Nat.le_of_ble_eq_true rfl) [] (by decide +kernel) rfl rfl rfl (Nat.le_of_ble_eq_true rfl) dL_isGreedy_72 (fun r66 wz hq67 => ?_)
                obtain ⟨rfl, rfl⟩ := hq67
                refine j_ws (ws2 := [(ax, .inr (8, [.ref q.1, .ref h, .ref sl, .ref p, .ref s, .ref gr, .ref e])), (q.1, .inr (6, [.int v.1, .int (nI v.2.1), .ref q.2.1, .ref q.2.2.1, .ref q.2.2.2])), (q.2.1, .inl (gI g, 14, .inl v.2.2.1)), (q.2.2.1, .inl (gI g, 14, .inl v.2.2.2.1)), (q.2.2.2, .inl (gI g, 14, .inl v.2.2.2.2)), (h, .inr (1, [.int (nI c), .ref hs])), (p, .inr (2, [.int (nI pn), .ref ps, .int b1, .ref pt, .ref pp, .int b2, .int b3, .int b4])), (s, .inr (4, [.int z1_61.1, .int z1_61.2.1, .int (nI z1_61.2.2.1), .int z1_61.2.2.2.1, .int (nI z1_61.2.2.2.2.1), .int z1_61.2.2.2.2.2.1, .ref s1, .ref s2, .ref s3, .ref s4])), (s1, .inl (gI g, 18, .inl z1_61.2.2.2.2.2.2.1)), (s2, .inl (gI g, 14, .inl z1_61.2.2.2.2.2.2.2.1)), (s3, .inl (gI g, 14, .inl z1_61.2.2.2.2.2.2.2.2.1)), (s4, .inl (gI g, 14, .inl (oI z1_61.2.2.2.2.2.2.2.2.2))), (gr, .inr (0, [.int g1, .int g2]))]) rfl ?_
                refine j_if_eq (tgt := 144) (pc := 75) hX dL_isGreedy_75 (by decide) (fun c75_68 => ?_) (fun c75_68 => ?_)
                · exfalso
                  have c75_68b : (bt (S_mk v.2.2.2.2 0 v.2.1) j) = false := jb_0.mp c75_68
                  rw [hG3] at c75_68b; cases c75_68b
                have c75_68b : (bt (S_mk v.2.2.2.2 0 v.2.1) j) = true := jb_1.mp c75_68
                refine j_iload (pc := 78) hX dL_isGreedy_78 8 rfl ?_
                refine j_if_le (tgt := 144) (pc := 80) hX dL_isGreedy_80 (by decide) (fun c80_69 => ?_) (fun c80_69 => ?_)
                · exfalso
                  exact hG3s c80_69
                refine j_iload (pc := 83) hX dL_isGreedy_83 6 rfl ?_
                refine j_if_ge (tgt := 92) (pc := 85) hX dL_isGreedy_85 (by decide) (fun h9 => absurd h9 (by decide)) (fun _ => ?_)
                refine j_iconst (v := 0) (pc := 88) hX dL_isGreedy_88 (by decide) ?_
                refine j_goto (tgt := 105) (pc := 89) hX dL_isGreedy_89 (by decide) ?_
                refine j_istore (lv2 := [(0, .ref ax), (1, .int (nI v.2.1)), (2, .int (S_mk v.2.2.2.2 0 v.2.1)), (3, .int y.1), (4, .int y.2), (5, .int (S_miss v.2.2.1 v.1 v.2.1 y.1)), (6, .int (-1)), (7, .int (nI j)), (8, .int (S_size ((v.2.2.1 j) &&& (S_miss v.2.2.1 v.1 v.2.1 y.1)) 18)), (9, .int 0)]) (pc := 105) hX dL_isGreedy_105 [1, 2, 3, 4, 5, 6, 7, 8, 9, 0] (by decide) rfl ?_
                refine j_iload (pc := 107) hX dL_isGreedy_107 6 rfl ?_
                refine j_if_lt (tgt := 135) (pc := 109) hX dL_isGreedy_109 (by decide) (fun _ => ?_) (fun h9 => absurd h9 (by decide))
                refine j_iload (pc := 135) hX dL_isGreedy_135 7 rfl ?_
                refine j_goto (tgt := 142) (pc := 137) hX dL_isGreedy_137 (by decide) ?_
                refine j_istore (lv2 := [(0, .ref ax), (1, .int (nI v.2.1)), (2, .int (S_mk v.2.2.2.2 0 v.2.1)), (3, .int y.1), (4, .int y.2), (5, .int (S_miss v.2.2.1 v.1 v.2.1 y.1)), (6, .int (nI j)), (7, .int (nI j)), (8, .int (S_size ((v.2.2.1 j) &&& (S_miss v.2.2.1 v.1 v.2.1 y.1)) 18)), (9, .int 0)]) (pc := 142) hX dL_isGreedy_142 [1, 2, 3, 4, 5, 6, 0, 7, 8, 9] (by decide) rfl ?_
                refine j_iinc (v := nI (j + 1)) (lv2 := [(0, .ref ax), (1, .int (nI v.2.1)), (2, .int (S_mk v.2.2.2.2 0 v.2.1)), (3, .int y.1), (4, .int y.2), (5, .int (S_miss v.2.2.1 v.1 v.2.1 y.1)), (6, .int (nI j)), (7, .int (nI (j + 1))), (8, .int (S_size ((v.2.2.1 j) &&& (S_miss v.2.2.1 v.1 v.2.1 y.1)) 18)), (9, .int 0)]) (pc := 144) hX dL_isGreedy_144 7 rfl (nI_add j 1) [1, 2, 3, 4, 5, 6, 7, 0, 8, 9] (by decide) rfl ?_
                refine j_goto (tgt := 48) (pc := 147) hX dL_isGreedy_147 (by decide) ?_
                refine j_lvs (lv2 := [(0, .ref ax), (1, .int (nI v.2.1)), (2, .int (S_mk v.2.2.2.2 0 v.2.1)), (3, .int y.1), (4, .int y.2), (5, .int (S_miss v.2.2.1 v.1 v.2.1 y.1)), (6, .int (nI j)), (7, .int (nI (j + 1)))]) [0, 1, 2, 3, 4, 5, 6, 7] rfl ?_
                exact j_eq (lv2 := [(0, .ref ax), (1, .int (nI v.2.1)), (2, .int (S_mk v.2.2.2.2 0 v.2.1)), (3, .int y.1), (4, .int y.2), (5, .int (S_miss v.2.2.1 v.1 v.2.1 y.1)), (6, .int (oM (bB v (S_miss v.2.2.1 v.1 v.2.1 y.1) (j + 1)).1)), (7, .int (nI (j + 1)))]) (ws2 := [(ax, .inr (8, [.ref q.1, .ref h, .ref sl, .ref p, .ref s, .ref gr, .ref e])), (q.1, .inr (6, [.int v.1, .int (nI v.2.1), .ref q.2.1, .ref q.2.2.1, .ref q.2.2.2])), (q.2.1, .inl (gI g, 14, .inl v.2.2.1)), (q.2.2.1, .inl (gI g, 14, .inl v.2.2.2.1)), (q.2.2.2, .inl (gI g, 14, .inl v.2.2.2.2)), (h, .inr (1, [.int (nI c), .ref hs])), (p, .inr (2, [.int (nI pn), .ref ps, .int b1, .ref pt, .ref pp, .int b2, .int b3, .int b4])), (s, .inr (4, [.int z1_61.1, .int z1_61.2.1, .int (nI z1_61.2.2.1), .int z1_61.2.2.2.1, .int (nI z1_61.2.2.2.2.1), .int z1_61.2.2.2.2.2.1, .ref s1, .ref s2, .ref s3, .ref s4])), (s1, .inl (gI g, 18, .inl z1_61.2.2.2.2.2.2.1)), (s2, .inl (gI g, 14, .inl z1_61.2.2.2.2.2.2.2.1)), (s3, .inl (gI g, 14, .inl z1_61.2.2.2.2.2.2.2.2.1)), (s4, .inl (gI g, 14, .inl (oI z1_61.2.2.2.2.2.2.2.2.2))), (gr, .inr (0, [.int g1, .int g2]))]) (by first | (rw [hE]; first | done | rfl) | (rw [hE, hGb]; first | done | rfl) | rfl) (by first | (rw [hE]; first | done | rfl) | (rw [hE, hGb]; first | done | rfl) | rfl) (ih48 _ (by omega) (j + 1) z1_61 (by omega) rfl)
              · skip
                refine j_aload_n (pc := 54) hX dL_isGreedy_54 0 rfl ?_
                refine j_lv (lv2 := [(0, .ref ax), (1, .int (nI v.2.1)), (2, .int (S_mk v.2.2.2.2 0 v.2.1)), (3, .int y.1), (4, .int y.2), (5, .int (S_miss v.2.2.1 v.1 v.2.1 y.1)), (6, .int (nI bq)), (7, .int (nI j))]) (by rw [hGb]; rfl) ?_
                refine j_iload (pc := 55) hX dL_isGreedy_55 7 rfl ?_
                refine j_iconst (v := 0) (pc := 57) hX dL_isGreedy_57 (by decide) ?_
                refine j_callVI (n := 2) (As := [.int (nI j), .int 0]) (rest := []) (pc := 58) hX (c_X8_ofSet g ax q h sl p s gr e v s1 s2 s3 s4 zz (nI j) 0 (by first | assumption | omega)) (CV.of mw294 mw295 mw296 mw13 mw297 ⟨rfl, by decide +kernel, by decide +kernel, by decide +kernel⟩ (T := TX8) (N := 7) rfl) (Nat.le_of_ble_eq_true rfl) (Nat.le_of_ble_eq_true rfl) (Nat.le_of_ble_eq_true rfl) (Nat.le_of_ble_eq_true rfl) 0 rfl [0, 1, 2, 3, 4, 7, 8, 9, 10, 11] (by decide +kernel) rfl rfl rfl (Nat.le_of_ble_eq_true rfl) dL_isGreedy_58 (fun r71 wz hq72 => ?_)
                obtain ⟨z1_70, rfl, rfl⟩ := hq72
                refine j_ws (ws2 := [(ax, .inr (8, [.ref q.1, .ref h, .ref sl, .ref p, .ref s, .ref gr, .ref e])), (q.1, .inr (6, [.int v.1, .int (nI v.2.1), .ref q.2.1, .ref q.2.2.1, .ref q.2.2.2])), (q.2.1, .inl (gI g, 14, .inl v.2.2.1)), (q.2.2.1, .inl (gI g, 14, .inl v.2.2.2.1)), (q.2.2.2, .inl (gI g, 14, .inl v.2.2.2.2)), (h, .inr (1, [.int (nI c), .ref hs])), (p, .inr (2, [.int (nI pn), .ref ps, .int b1, .ref pt, .ref pp, .int b2, .int b3, .int b4])), (s, .inr (4, [.int z1_70.1, .int z1_70.2.1, .int (nI z1_70.2.2.1), .int z1_70.2.2.2.1, .int (nI z1_70.2.2.2.2.1), .int z1_70.2.2.2.2.2.1, .ref s1, .ref s2, .ref s3, .ref s4])), (s1, .inl (gI g, 18, .inl z1_70.2.2.2.2.2.2.1)), (s2, .inl (gI g, 14, .inl z1_70.2.2.2.2.2.2.2.1)), (s3, .inl (gI g, 14, .inl z1_70.2.2.2.2.2.2.2.2.1)), (s4, .inl (gI g, 14, .inl (oI z1_70.2.2.2.2.2.2.2.2.2))), (gr, .inr (0, [.int g1, .int g2]))]) rfl ?_
                refine j_top (b := v.2.2.1 j) (ro_0 (by first | exact hv | exact hok.1 | exact hv2 | assumption) (by omega)) ?_
                refine j_iload (pc := 61) hX dL_isGreedy_61 5 rfl ?_
                refine j_iand (pc := 63) hX dL_isGreedy_63 ?_
                refine j_callSI (n := 1) (As := [.int ((v.2.2.1 j) &&& (S_miss v.2.2.1 v.1 v.2.1 y.1))]) (rest := []) (pc := 64) hX (c_L_ones g ((v.2.2.1 j) &&& (S_miss v.2.2.1 v.1 v.2.1 y.1)) ) (CS.of mw342 mw343 mw12 mw344 ⟨by decide +kernel, by decide +kernel, by decide +kernel⟩) (Nat.le_of_ble_eq_true rfl) (Nat.le_of_ble_eq_true rfl) (Nat.le_of_ble_eq_true rfl) (Nat.le_of_ble_eq_true rfl) [] (by decide +kernel) rfl rfl rfl (Nat.le_of_ble_eq_true rfl) dL_isGreedy_64 (fun r73 wz hq74 => ?_)
                obtain ⟨rfl, rfl⟩ := hq74
                refine j_ws (ws2 := [(ax, .inr (8, [.ref q.1, .ref h, .ref sl, .ref p, .ref s, .ref gr, .ref e])), (q.1, .inr (6, [.int v.1, .int (nI v.2.1), .ref q.2.1, .ref q.2.2.1, .ref q.2.2.2])), (q.2.1, .inl (gI g, 14, .inl v.2.2.1)), (q.2.2.1, .inl (gI g, 14, .inl v.2.2.2.1)), (q.2.2.2, .inl (gI g, 14, .inl v.2.2.2.2)), (h, .inr (1, [.int (nI c), .ref hs])), (p, .inr (2, [.int (nI pn), .ref ps, .int b1, .ref pt, .ref pp, .int b2, .int b3, .int b4])), (s, .inr (4, [.int z1_70.1, .int z1_70.2.1, .int (nI z1_70.2.2.1), .int z1_70.2.2.2.1, .int (nI z1_70.2.2.2.2.1), .int z1_70.2.2.2.2.2.1, .ref s1, .ref s2, .ref s3, .ref s4])), (s1, .inl (gI g, 18, .inl z1_70.2.2.2.2.2.2.1)), (s2, .inl (gI g, 14, .inl z1_70.2.2.2.2.2.2.2.1)), (s3, .inl (gI g, 14, .inl z1_70.2.2.2.2.2.2.2.2.1)), (s4, .inl (gI g, 14, .inl (oI z1_70.2.2.2.2.2.2.2.2.2))), (gr, .inr (0, [.int g1, .int g2]))]) rfl ?_
                refine j_istore (lv2 := [(0, .ref ax), (1, .int (nI v.2.1)), (2, .int (S_mk v.2.2.2.2 0 v.2.1)), (3, .int y.1), (4, .int y.2), (5, .int (S_miss v.2.2.1 v.1 v.2.1 y.1)), (6, .int (nI bq)), (7, .int (nI j)), (8, .int (S_size ((v.2.2.1 j) &&& (S_miss v.2.2.1 v.1 v.2.1 y.1)) 18))]) (pc := 67) hX dL_isGreedy_67 [1, 2, 3, 4, 5, 6, 7, 8, 0] (by decide) rfl ?_
                refine j_iload_n (pc := 69) hX dL_isGreedy_69 2 rfl ?_
                refine j_iload (pc := 70) hX dL_isGreedy_70 7 rfl ?_
                refine j_callSI (n := 2) (As := [.int (S_mk v.2.2.2.2 0 v.2.1), .int (nI j)]) (rest := []) (pc := 72) hX (c_L_has g (S_mk v.2.2.2.2 0 v.2.1) j (by first | assumption | omega)) (CS.of mw339 mw340 mw12 mw341 ⟨by decide +kernel, by decide +kernel, by decide +kernel⟩) (Nat.le_of_ble_eq_true rfl) (Nat.le_of_ble_eq_true rfl) (Nat.le_of_ble_eq_true rfl) (Nat.le_of_ble_eq_true rfl) [] (by decide +kernel) rfl rfl rfl (Nat.le_of_ble_eq_true rfl) dL_isGreedy_72 (fun r75 wz hq76 => ?_)
                obtain ⟨rfl, rfl⟩ := hq76
                refine j_ws (ws2 := [(ax, .inr (8, [.ref q.1, .ref h, .ref sl, .ref p, .ref s, .ref gr, .ref e])), (q.1, .inr (6, [.int v.1, .int (nI v.2.1), .ref q.2.1, .ref q.2.2.1, .ref q.2.2.2])), (q.2.1, .inl (gI g, 14, .inl v.2.2.1)), (q.2.2.1, .inl (gI g, 14, .inl v.2.2.2.1)), (q.2.2.2, .inl (gI g, 14, .inl v.2.2.2.2)), (h, .inr (1, [.int (nI c), .ref hs])), (p, .inr (2, [.int (nI pn), .ref ps, .int b1, .ref pt, .ref pp, .int b2, .int b3, .int b4])), (s, .inr (4, [.int z1_70.1, .int z1_70.2.1, .int (nI z1_70.2.2.1), .int z1_70.2.2.2.1, .int (nI z1_70.2.2.2.2.1), .int z1_70.2.2.2.2.2.1, .ref s1, .ref s2, .ref s3, .ref s4])), (s1, .inl (gI g, 18, .inl z1_70.2.2.2.2.2.2.1)), (s2, .inl (gI g, 14, .inl z1_70.2.2.2.2.2.2.2.1)), (s3, .inl (gI g, 14, .inl z1_70.2.2.2.2.2.2.2.2.1)), (s4, .inl (gI g, 14, .inl (oI z1_70.2.2.2.2.2.2.2.2.2))), (gr, .inr (0, [.int g1, .int g2]))]) rfl ?_
                refine j_if_eq (tgt := 144) (pc := 75) hX dL_isGreedy_75 (by decide) (fun c75_77 => ?_) (fun c75_77 => ?_)
                · exfalso
                  have c75_77b : (bt (S_mk v.2.2.2.2 0 v.2.1) j) = false := jb_0.mp c75_77
                  rw [hG4] at c75_77b; cases c75_77b
                have c75_77b : (bt (S_mk v.2.2.2.2 0 v.2.1) j) = true := jb_1.mp c75_77
                refine j_iload (pc := 78) hX dL_isGreedy_78 8 rfl ?_
                refine j_if_le (tgt := 144) (pc := 80) hX dL_isGreedy_80 (by decide) (fun c80_78 => ?_) (fun c80_78 => ?_)
                · exfalso
                  exact hG4s c80_78
                refine j_iload (pc := 83) hX dL_isGreedy_83 6 rfl ?_
                refine j_if_ge (tgt := 92) (pc := 85) hX dL_isGreedy_85 (by decide) (fun c85_79 => ?_) (fun c85_79 => ?_)
                rotate_left
                · exfalso
                  have c85_79n : ¬ 0 ≤ bq := fun h9 => c85_79 ((nI_leI (a := 0) (b := bq) (by omega) (by omega)).mpr h9)
                  have c85_79m : bq < 0 := by omega
                  omega
                have c85_79n : 0 ≤ bq := (nI_leI (a := 0) (b := bq) (by omega) (by omega)).mp c85_79
                have c85_79m : ¬ bq < 0 := by omega
                refine j_aload_n (pc := 92) hX dL_isGreedy_92 0 rfl ?_
                refine j_iload (pc := 93) hX dL_isGreedy_93 6 rfl ?_
                refine j_iconst (v := 0) (pc := 95) hX dL_isGreedy_95 (by decide) ?_
                refine j_callVI (n := 2) (As := [.int (nI bq), .int 0]) (rest := []) (pc := 96) hX (c_X8_ofSet g ax q h sl p s gr e v s1 s2 s3 s4 z1_70 (nI bq) 0 (by first | assumption | omega)) (CV.of mw294 mw295 mw296 mw13 mw297 ⟨rfl, by decide +kernel, by decide +kernel, by decide +kernel⟩ (T := TX8) (N := 7) rfl) (Nat.le_of_ble_eq_true rfl) (Nat.le_of_ble_eq_true rfl) (Nat.le_of_ble_eq_true rfl) (Nat.le_of_ble_eq_true rfl) 0 rfl [0, 1, 2, 3, 4, 7, 8, 9, 10, 11] (by decide +kernel) rfl rfl rfl (Nat.le_of_ble_eq_true rfl) dL_isGreedy_96 (fun r81 wz hq82 => ?_)
                obtain ⟨z1_80, rfl, rfl⟩ := hq82
                refine j_ws (ws2 := [(ax, .inr (8, [.ref q.1, .ref h, .ref sl, .ref p, .ref s, .ref gr, .ref e])), (q.1, .inr (6, [.int v.1, .int (nI v.2.1), .ref q.2.1, .ref q.2.2.1, .ref q.2.2.2])), (q.2.1, .inl (gI g, 14, .inl v.2.2.1)), (q.2.2.1, .inl (gI g, 14, .inl v.2.2.2.1)), (q.2.2.2, .inl (gI g, 14, .inl v.2.2.2.2)), (h, .inr (1, [.int (nI c), .ref hs])), (p, .inr (2, [.int (nI pn), .ref ps, .int b1, .ref pt, .ref pp, .int b2, .int b3, .int b4])), (s, .inr (4, [.int z1_80.1, .int z1_80.2.1, .int (nI z1_80.2.2.1), .int z1_80.2.2.2.1, .int (nI z1_80.2.2.2.2.1), .int z1_80.2.2.2.2.2.1, .ref s1, .ref s2, .ref s3, .ref s4])), (s1, .inl (gI g, 18, .inl z1_80.2.2.2.2.2.2.1)), (s2, .inl (gI g, 14, .inl z1_80.2.2.2.2.2.2.2.1)), (s3, .inl (gI g, 14, .inl z1_80.2.2.2.2.2.2.2.2.1)), (s4, .inl (gI g, 14, .inl (oI z1_80.2.2.2.2.2.2.2.2.2))), (gr, .inr (0, [.int g1, .int g2]))]) rfl ?_
                refine j_top (b := v.2.2.1 bq) (ro_0 (by first | exact hv | exact hok.1 | exact hv2 | assumption) (by omega)) ?_
                refine j_iload (pc := 99) hX dL_isGreedy_99 5 rfl ?_
                refine j_iand (pc := 101) hX dL_isGreedy_101 ?_
                refine j_callSI (n := 1) (As := [.int ((v.2.2.1 bq) &&& (S_miss v.2.2.1 v.1 v.2.1 y.1))]) (rest := []) (pc := 102) hX (c_L_ones g ((v.2.2.1 bq) &&& (S_miss v.2.2.1 v.1 v.2.1 y.1)) ) (CS.of mw342 mw343 mw12 mw344 ⟨by decide +kernel, by decide +kernel, by decide +kernel⟩) (Nat.le_of_ble_eq_true rfl) (Nat.le_of_ble_eq_true rfl) (Nat.le_of_ble_eq_true rfl) (Nat.le_of_ble_eq_true rfl) [] (by decide +kernel) rfl rfl rfl (Nat.le_of_ble_eq_true rfl) dL_isGreedy_102 (fun r83 wz hq84 => ?_)
                obtain ⟨rfl, rfl⟩ := hq84
                refine j_ws (ws2 := [(ax, .inr (8, [.ref q.1, .ref h, .ref sl, .ref p, .ref s, .ref gr, .ref e])), (q.1, .inr (6, [.int v.1, .int (nI v.2.1), .ref q.2.1, .ref q.2.2.1, .ref q.2.2.2])), (q.2.1, .inl (gI g, 14, .inl v.2.2.1)), (q.2.2.1, .inl (gI g, 14, .inl v.2.2.2.1)), (q.2.2.2, .inl (gI g, 14, .inl v.2.2.2.2)), (h, .inr (1, [.int (nI c), .ref hs])), (p, .inr (2, [.int (nI pn), .ref ps, .int b1, .ref pt, .ref pp, .int b2, .int b3, .int b4])), (s, .inr (4, [.int z1_80.1, .int z1_80.2.1, .int (nI z1_80.2.2.1), .int z1_80.2.2.2.1, .int (nI z1_80.2.2.2.2.1), .int z1_80.2.2.2.2.2.1, .ref s1, .ref s2, .ref s3, .ref s4])), (s1, .inl (gI g, 18, .inl z1_80.2.2.2.2.2.2.1)), (s2, .inl (gI g, 14, .inl z1_80.2.2.2.2.2.2.2.1)), (s3, .inl (gI g, 14, .inl z1_80.2.2.2.2.2.2.2.2.1)), (s4, .inl (gI g, 14, .inl (oI z1_80.2.2.2.2.2.2.2.2.2))), (gr, .inr (0, [.int g1, .int g2]))]) rfl ?_
                refine j_istore (lv2 := [(0, .ref ax), (1, .int (nI v.2.1)), (2, .int (S_mk v.2.2.2.2 0 v.2.1)), (3, .int y.1), (4, .int y.2), (5, .int (S_miss v.2.2.1 v.1 v.2.1 y.1)), (6, .int (nI bq)), (7, .int (nI j)), (8, .int (S_size ((v.2.2.1 j) &&& (S_miss v.2.2.1 v.1 v.2.1 y.1)) 18)), (9, .int (S_size ((v.2.2.1 bq) &&& (S_miss v.2.2.1 v.1 v.2.1 y.1)) 18))]) (pc := 105) hX dL_isGreedy_105 [1, 2, 3, 4, 5, 6, 7, 8, 9, 0] (by decide) rfl ?_
                refine j_iload (pc := 107) hX dL_isGreedy_107 6 rfl ?_
                refine j_if_lt (tgt := 135) (pc := 109) hX dL_isGreedy_109 (by decide) (fun c109_85 => ?_) (fun c109_85 => ?_)
                · exfalso
                  have c109_85n : bq < 0 := (nI_ltI (a := bq) (b := 0) (by omega) (by omega)).mp c109_85
                  have c109_85m : ¬ 0 ≤ bq := by omega
                  omega
                have c109_85n : ¬ bq < 0 := fun h9 => c109_85 ((nI_ltI (a := bq) (b := 0) (by omega) (by omega)).mpr h9)
                have c109_85m : 0 ≤ bq := by omega
                refine j_aload_n (pc := 112) hX dL_isGreedy_112 0 rfl ?_
                refine j_iload (pc := 113) hX dL_isGreedy_113 7 rfl ?_
                refine j_iconst (v := 1) (pc := 115) hX dL_isGreedy_115 (by decide) ?_
                refine j_callVI (n := 2) (As := [.int (nI j), .int 1]) (rest := []) (pc := 116) hX (c_X8_ofSet g ax q h sl p s gr e v s1 s2 s3 s4 z1_80 (nI j) 1 (by first | assumption | omega)) (CV.of mw294 mw295 mw296 mw13 mw297 ⟨rfl, by decide +kernel, by decide +kernel, by decide +kernel⟩ (T := TX8) (N := 7) rfl) (Nat.le_of_ble_eq_true rfl) (Nat.le_of_ble_eq_true rfl) (Nat.le_of_ble_eq_true rfl) (Nat.le_of_ble_eq_true rfl) 0 rfl [0, 1, 2, 3, 4, 7, 8, 9, 10, 11] (by decide +kernel) rfl rfl rfl (Nat.le_of_ble_eq_true rfl) dL_isGreedy_116 (fun r87 wz hq88 => ?_)
                obtain ⟨z1_86, rfl, rfl⟩ := hq88
                refine j_ws (ws2 := [(ax, .inr (8, [.ref q.1, .ref h, .ref sl, .ref p, .ref s, .ref gr, .ref e])), (q.1, .inr (6, [.int v.1, .int (nI v.2.1), .ref q.2.1, .ref q.2.2.1, .ref q.2.2.2])), (q.2.1, .inl (gI g, 14, .inl v.2.2.1)), (q.2.2.1, .inl (gI g, 14, .inl v.2.2.2.1)), (q.2.2.2, .inl (gI g, 14, .inl v.2.2.2.2)), (h, .inr (1, [.int (nI c), .ref hs])), (p, .inr (2, [.int (nI pn), .ref ps, .int b1, .ref pt, .ref pp, .int b2, .int b3, .int b4])), (s, .inr (4, [.int z1_86.1, .int z1_86.2.1, .int (nI z1_86.2.2.1), .int z1_86.2.2.2.1, .int (nI z1_86.2.2.2.2.1), .int z1_86.2.2.2.2.2.1, .ref s1, .ref s2, .ref s3, .ref s4])), (s1, .inl (gI g, 18, .inl z1_86.2.2.2.2.2.2.1)), (s2, .inl (gI g, 14, .inl z1_86.2.2.2.2.2.2.2.1)), (s3, .inl (gI g, 14, .inl z1_86.2.2.2.2.2.2.2.2.1)), (s4, .inl (gI g, 14, .inl (oI z1_86.2.2.2.2.2.2.2.2.2))), (gr, .inr (0, [.int g1, .int g2]))]) rfl ?_
                refine j_top (b := v.2.2.2.1 j) (ro_1 (by first | exact hv | exact hok.1 | exact hv2 | assumption) (by omega)) ?_
                refine j_iload (pc := 119) hX dL_isGreedy_119 9 rfl ?_
                refine j_imul (pc := 121) hX dL_isGreedy_121 ?_
                refine j_aload_n (pc := 122) hX dL_isGreedy_122 0 rfl ?_
                refine j_iload (pc := 123) hX dL_isGreedy_123 6 rfl ?_
                refine j_iconst (v := 1) (pc := 125) hX dL_isGreedy_125 (by decide) ?_
                refine j_callVI (n := 2) (As := [.int (nI bq), .int 1]) (rest := [.int ((v.2.2.2.1 j) * (S_size ((v.2.2.1 bq) &&& (S_miss v.2.2.1 v.1 v.2.1 y.1)) 18))]) (pc := 126) hX (c_X8_ofSet g ax q h sl p s gr e v s1 s2 s3 s4 z1_86 (nI bq) 1 (by first | assumption | omega)) (CV.of mw294 mw295 mw296 mw13 mw297 ⟨rfl, by decide +kernel, by decide +kernel, by decide +kernel⟩ (T := TX8) (N := 7) rfl) (Nat.le_of_ble_eq_true rfl) (Nat.le_of_ble_eq_true rfl) (Nat.le_of_ble_eq_true rfl) (Nat.le_of_ble_eq_true rfl) 0 rfl [0, 1, 2, 3, 4, 7, 8, 9, 10, 11] (by decide +kernel) rfl rfl rfl (Nat.le_of_ble_eq_true rfl) dL_isGreedy_126 (fun r90 wz hq91 => ?_)
                obtain ⟨z1_89, rfl, rfl⟩ := hq91
                refine j_ws (ws2 := [(ax, .inr (8, [.ref q.1, .ref h, .ref sl, .ref p, .ref s, .ref gr, .ref e])), (q.1, .inr (6, [.int v.1, .int (nI v.2.1), .ref q.2.1, .ref q.2.2.1, .ref q.2.2.2])), (q.2.1, .inl (gI g, 14, .inl v.2.2.1)), (q.2.2.1, .inl (gI g, 14, .inl v.2.2.2.1)), (q.2.2.2, .inl (gI g, 14, .inl v.2.2.2.2)), (h, .inr (1, [.int (nI c), .ref hs])), (p, .inr (2, [.int (nI pn), .ref ps, .int b1, .ref pt, .ref pp, .int b2, .int b3, .int b4])), (s, .inr (4, [.int z1_89.1, .int z1_89.2.1, .int (nI z1_89.2.2.1), .int z1_89.2.2.2.1, .int (nI z1_89.2.2.2.2.1), .int z1_89.2.2.2.2.2.1, .ref s1, .ref s2, .ref s3, .ref s4])), (s1, .inl (gI g, 18, .inl z1_89.2.2.2.2.2.2.1)), (s2, .inl (gI g, 14, .inl z1_89.2.2.2.2.2.2.2.1)), (s3, .inl (gI g, 14, .inl z1_89.2.2.2.2.2.2.2.2.1)), (s4, .inl (gI g, 14, .inl (oI z1_89.2.2.2.2.2.2.2.2.2))), (gr, .inr (0, [.int g1, .int g2]))]) rfl ?_
                refine j_top (b := v.2.2.2.1 bq) (ro_1 (by first | exact hv | exact hok.1 | exact hv2 | assumption) (by omega)) ?_
                refine j_iload (pc := 129) hX dL_isGreedy_129 8 rfl ?_
                refine j_imul (pc := 131) hX dL_isGreedy_131 ?_
                refine j_icmp_ge (tgt := 140) (pc := 132) hX dL_isGreedy_132 (by decide) (fun c132_92 => ?_) (fun c132_92 => ?_)
                rotate_left
                · exfalso
                  exact c132_92 hG4c
                refine j_iload (pc := 140) hX dL_isGreedy_140 6 rfl ?_
                refine j_istore (lv2 := [(0, .ref ax), (1, .int (nI v.2.1)), (2, .int (S_mk v.2.2.2.2 0 v.2.1)), (3, .int y.1), (4, .int y.2), (5, .int (S_miss v.2.2.1 v.1 v.2.1 y.1)), (6, .int (nI bq)), (7, .int (nI j)), (8, .int (S_size ((v.2.2.1 j) &&& (S_miss v.2.2.1 v.1 v.2.1 y.1)) 18)), (9, .int (S_size ((v.2.2.1 bq) &&& (S_miss v.2.2.1 v.1 v.2.1 y.1)) 18))]) (pc := 142) hX dL_isGreedy_142 [1, 2, 3, 4, 5, 6, 0, 7, 8, 9] (by decide) rfl ?_
                refine j_iinc (v := nI (j + 1)) (lv2 := [(0, .ref ax), (1, .int (nI v.2.1)), (2, .int (S_mk v.2.2.2.2 0 v.2.1)), (3, .int y.1), (4, .int y.2), (5, .int (S_miss v.2.2.1 v.1 v.2.1 y.1)), (6, .int (nI bq)), (7, .int (nI (j + 1))), (8, .int (S_size ((v.2.2.1 j) &&& (S_miss v.2.2.1 v.1 v.2.1 y.1)) 18)), (9, .int (S_size ((v.2.2.1 bq) &&& (S_miss v.2.2.1 v.1 v.2.1 y.1)) 18))]) (pc := 144) hX dL_isGreedy_144 7 rfl (nI_add j 1) [1, 2, 3, 4, 5, 6, 7, 0, 8, 9] (by decide) rfl ?_
                refine j_goto (tgt := 48) (pc := 147) hX dL_isGreedy_147 (by decide) ?_
                refine j_lvs (lv2 := [(0, .ref ax), (1, .int (nI v.2.1)), (2, .int (S_mk v.2.2.2.2 0 v.2.1)), (3, .int y.1), (4, .int y.2), (5, .int (S_miss v.2.2.1 v.1 v.2.1 y.1)), (6, .int (nI bq)), (7, .int (nI (j + 1)))]) [0, 1, 2, 3, 4, 5, 6, 7] rfl ?_
                exact j_eq (lv2 := [(0, .ref ax), (1, .int (nI v.2.1)), (2, .int (S_mk v.2.2.2.2 0 v.2.1)), (3, .int y.1), (4, .int y.2), (5, .int (S_miss v.2.2.1 v.1 v.2.1 y.1)), (6, .int (oM (bB v (S_miss v.2.2.1 v.1 v.2.1 y.1) (j + 1)).1)), (7, .int (nI (j + 1)))]) (ws2 := [(ax, .inr (8, [.ref q.1, .ref h, .ref sl, .ref p, .ref s, .ref gr, .ref e])), (q.1, .inr (6, [.int v.1, .int (nI v.2.1), .ref q.2.1, .ref q.2.2.1, .ref q.2.2.2])), (q.2.1, .inl (gI g, 14, .inl v.2.2.1)), (q.2.2.1, .inl (gI g, 14, .inl v.2.2.2.1)), (q.2.2.2, .inl (gI g, 14, .inl v.2.2.2.2)), (h, .inr (1, [.int (nI c), .ref hs])), (p, .inr (2, [.int (nI pn), .ref ps, .int b1, .ref pt, .ref pp, .int b2, .int b3, .int b4])), (s, .inr (4, [.int z1_89.1, .int z1_89.2.1, .int (nI z1_89.2.2.1), .int z1_89.2.2.2.1, .int (nI z1_89.2.2.2.2.1), .int z1_89.2.2.2.2.2.1, .ref s1, .ref s2, .ref s3, .ref s4])), (s1, .inl (gI g, 18, .inl z1_89.2.2.2.2.2.2.1)), (s2, .inl (gI g, 14, .inl z1_89.2.2.2.2.2.2.2.1)), (s3, .inl (gI g, 14, .inl z1_89.2.2.2.2.2.2.2.2.1)), (s4, .inl (gI g, 14, .inl (oI z1_89.2.2.2.2.2.2.2.2.2))), (gr, .inr (0, [.int g1, .int g2]))]) (by first | (rw [hE]; first | done | rfl) | (rw [hE, hGb]; first | done | rfl) | rfl) (by first | (rw [hE]; first | done | rfl) | (rw [hE, hGb]; first | done | rfl) | rfl) (ih48 _ (by omega) (j + 1) z1_89 (by omega) rfl)
              · skip
                refine j_aload_n (pc := 54) hX dL_isGreedy_54 0 rfl ?_
                refine j_lv (lv2 := [(0, .ref ax), (1, .int (nI v.2.1)), (2, .int (S_mk v.2.2.2.2 0 v.2.1)), (3, .int y.1), (4, .int y.2), (5, .int (S_miss v.2.2.1 v.1 v.2.1 y.1)), (6, .int (nI bq)), (7, .int (nI j))]) (by rw [hGb]; rfl) ?_
                refine j_iload (pc := 55) hX dL_isGreedy_55 7 rfl ?_
                refine j_iconst (v := 0) (pc := 57) hX dL_isGreedy_57 (by decide) ?_
                refine j_callVI (n := 2) (As := [.int (nI j), .int 0]) (rest := []) (pc := 58) hX (c_X8_ofSet g ax q h sl p s gr e v s1 s2 s3 s4 zz (nI j) 0 (by first | assumption | omega)) (CV.of mw294 mw295 mw296 mw13 mw297 ⟨rfl, by decide +kernel, by decide +kernel, by decide +kernel⟩ (T := TX8) (N := 7) rfl) (Nat.le_of_ble_eq_true rfl) (Nat.le_of_ble_eq_true rfl) (Nat.le_of_ble_eq_true rfl) (Nat.le_of_ble_eq_true rfl) 0 rfl [0, 1, 2, 3, 4, 7, 8, 9, 10, 11] (by decide +kernel) rfl rfl rfl (Nat.le_of_ble_eq_true rfl) dL_isGreedy_58 (fun r94 wz hq95 => ?_)
                obtain ⟨z1_93, rfl, rfl⟩ := hq95
                refine j_ws (ws2 := [(ax, .inr (8, [.ref q.1, .ref h, .ref sl, .ref p, .ref s, .ref gr, .ref e])), (q.1, .inr (6, [.int v.1, .int (nI v.2.1), .ref q.2.1, .ref q.2.2.1, .ref q.2.2.2])), (q.2.1, .inl (gI g, 14, .inl v.2.2.1)), (q.2.2.1, .inl (gI g, 14, .inl v.2.2.2.1)), (q.2.2.2, .inl (gI g, 14, .inl v.2.2.2.2)), (h, .inr (1, [.int (nI c), .ref hs])), (p, .inr (2, [.int (nI pn), .ref ps, .int b1, .ref pt, .ref pp, .int b2, .int b3, .int b4])), (s, .inr (4, [.int z1_93.1, .int z1_93.2.1, .int (nI z1_93.2.2.1), .int z1_93.2.2.2.1, .int (nI z1_93.2.2.2.2.1), .int z1_93.2.2.2.2.2.1, .ref s1, .ref s2, .ref s3, .ref s4])), (s1, .inl (gI g, 18, .inl z1_93.2.2.2.2.2.2.1)), (s2, .inl (gI g, 14, .inl z1_93.2.2.2.2.2.2.2.1)), (s3, .inl (gI g, 14, .inl z1_93.2.2.2.2.2.2.2.2.1)), (s4, .inl (gI g, 14, .inl (oI z1_93.2.2.2.2.2.2.2.2.2))), (gr, .inr (0, [.int g1, .int g2]))]) rfl ?_
                refine j_top (b := v.2.2.1 j) (ro_0 (by first | exact hv | exact hok.1 | exact hv2 | assumption) (by omega)) ?_
                refine j_iload (pc := 61) hX dL_isGreedy_61 5 rfl ?_
                refine j_iand (pc := 63) hX dL_isGreedy_63 ?_
                refine j_callSI (n := 1) (As := [.int ((v.2.2.1 j) &&& (S_miss v.2.2.1 v.1 v.2.1 y.1))]) (rest := []) (pc := 64) hX (c_L_ones g ((v.2.2.1 j) &&& (S_miss v.2.2.1 v.1 v.2.1 y.1)) ) (CS.of mw342 mw343 mw12 mw344 ⟨by decide +kernel, by decide +kernel, by decide +kernel⟩) (Nat.le_of_ble_eq_true rfl) (Nat.le_of_ble_eq_true rfl) (Nat.le_of_ble_eq_true rfl) (Nat.le_of_ble_eq_true rfl) [] (by decide +kernel) rfl rfl rfl (Nat.le_of_ble_eq_true rfl) dL_isGreedy_64 (fun r96 wz hq97 => ?_)
                obtain ⟨rfl, rfl⟩ := hq97
                refine j_ws (ws2 := [(ax, .inr (8, [.ref q.1, .ref h, .ref sl, .ref p, .ref s, .ref gr, .ref e])), (q.1, .inr (6, [.int v.1, .int (nI v.2.1), .ref q.2.1, .ref q.2.2.1, .ref q.2.2.2])), (q.2.1, .inl (gI g, 14, .inl v.2.2.1)), (q.2.2.1, .inl (gI g, 14, .inl v.2.2.2.1)), (q.2.2.2, .inl (gI g, 14, .inl v.2.2.2.2)), (h, .inr (1, [.int (nI c), .ref hs])), (p, .inr (2, [.int (nI pn), .ref ps, .int b1, .ref pt, .ref pp, .int b2, .int b3, .int b4])), (s, .inr (4, [.int z1_93.1, .int z1_93.2.1, .int (nI z1_93.2.2.1), .int z1_93.2.2.2.1, .int (nI z1_93.2.2.2.2.1), .int z1_93.2.2.2.2.2.1, .ref s1, .ref s2, .ref s3, .ref s4])), (s1, .inl (gI g, 18, .inl z1_93.2.2.2.2.2.2.1)), (s2, .inl (gI g, 14, .inl z1_93.2.2.2.2.2.2.2.1)), (s3, .inl (gI g, 14, .inl z1_93.2.2.2.2.2.2.2.2.1)), (s4, .inl (gI g, 14, .inl (oI z1_93.2.2.2.2.2.2.2.2.2))), (gr, .inr (0, [.int g1, .int g2]))]) rfl ?_
                refine j_istore (lv2 := [(0, .ref ax), (1, .int (nI v.2.1)), (2, .int (S_mk v.2.2.2.2 0 v.2.1)), (3, .int y.1), (4, .int y.2), (5, .int (S_miss v.2.2.1 v.1 v.2.1 y.1)), (6, .int (nI bq)), (7, .int (nI j)), (8, .int (S_size ((v.2.2.1 j) &&& (S_miss v.2.2.1 v.1 v.2.1 y.1)) 18))]) (pc := 67) hX dL_isGreedy_67 [1, 2, 3, 4, 5, 6, 7, 8, 0] (by decide) rfl ?_
                refine j_iload_n (pc := 69) hX dL_isGreedy_69 2 rfl ?_
                refine j_iload (pc := 70) hX dL_isGreedy_70 7 rfl ?_
                refine j_callSI (n := 2) (As := [.int (S_mk v.2.2.2.2 0 v.2.1), .int (nI j)]) (rest := []) (pc := 72) hX (c_L_has g (S_mk v.2.2.2.2 0 v.2.1) j (by first | assumption | omega)) (CS.of mw339 mw340 mw12 mw341 ⟨by decide +kernel, by decide +kernel, by decide +kernel⟩) (Nat.le_of_ble_eq_true rfl) (Nat.le_of_ble_eq_true rfl) (Nat.le_of_ble_eq_true rfl) (Nat.le_of_ble_eq_true rfl) [] (by decide +kernel) rfl rfl rfl (Nat.le_of_ble_eq_true rfl) dL_isGreedy_72 (fun r98 wz hq99 => ?_)
                obtain ⟨rfl, rfl⟩ := hq99
                refine j_ws (ws2 := [(ax, .inr (8, [.ref q.1, .ref h, .ref sl, .ref p, .ref s, .ref gr, .ref e])), (q.1, .inr (6, [.int v.1, .int (nI v.2.1), .ref q.2.1, .ref q.2.2.1, .ref q.2.2.2])), (q.2.1, .inl (gI g, 14, .inl v.2.2.1)), (q.2.2.1, .inl (gI g, 14, .inl v.2.2.2.1)), (q.2.2.2, .inl (gI g, 14, .inl v.2.2.2.2)), (h, .inr (1, [.int (nI c), .ref hs])), (p, .inr (2, [.int (nI pn), .ref ps, .int b1, .ref pt, .ref pp, .int b2, .int b3, .int b4])), (s, .inr (4, [.int z1_93.1, .int z1_93.2.1, .int (nI z1_93.2.2.1), .int z1_93.2.2.2.1, .int (nI z1_93.2.2.2.2.1), .int z1_93.2.2.2.2.2.1, .ref s1, .ref s2, .ref s3, .ref s4])), (s1, .inl (gI g, 18, .inl z1_93.2.2.2.2.2.2.1)), (s2, .inl (gI g, 14, .inl z1_93.2.2.2.2.2.2.2.1)), (s3, .inl (gI g, 14, .inl z1_93.2.2.2.2.2.2.2.2.1)), (s4, .inl (gI g, 14, .inl (oI z1_93.2.2.2.2.2.2.2.2.2))), (gr, .inr (0, [.int g1, .int g2]))]) rfl ?_
                refine j_if_eq (tgt := 144) (pc := 75) hX dL_isGreedy_75 (by decide) (fun c75_100 => ?_) (fun c75_100 => ?_)
                · exfalso
                  have c75_100b : (bt (S_mk v.2.2.2.2 0 v.2.1) j) = false := jb_0.mp c75_100
                  rw [hG5] at c75_100b; cases c75_100b
                have c75_100b : (bt (S_mk v.2.2.2.2 0 v.2.1) j) = true := jb_1.mp c75_100
                refine j_iload (pc := 78) hX dL_isGreedy_78 8 rfl ?_
                refine j_if_le (tgt := 144) (pc := 80) hX dL_isGreedy_80 (by decide) (fun c80_101 => ?_) (fun c80_101 => ?_)
                · exfalso
                  exact hG5s c80_101
                refine j_iload (pc := 83) hX dL_isGreedy_83 6 rfl ?_
                refine j_if_ge (tgt := 92) (pc := 85) hX dL_isGreedy_85 (by decide) (fun c85_102 => ?_) (fun c85_102 => ?_)
                rotate_left
                · exfalso
                  have c85_102n : ¬ 0 ≤ bq := fun h9 => c85_102 ((nI_leI (a := 0) (b := bq) (by omega) (by omega)).mpr h9)
                  have c85_102m : bq < 0 := by omega
                  omega
                have c85_102n : 0 ≤ bq := (nI_leI (a := 0) (b := bq) (by omega) (by omega)).mp c85_102
                have c85_102m : ¬ bq < 0 := by omega
                refine j_aload_n (pc := 92) hX dL_isGreedy_92 0 rfl ?_
                refine j_iload (pc := 93) hX dL_isGreedy_93 6 rfl ?_
                refine j_iconst (v := 0) (pc := 95) hX dL_isGreedy_95 (by decide) ?_
                refine j_callVI (n := 2) (As := [.int (nI bq), .int 0]) (rest := []) (pc := 96) hX (c_X8_ofSet g ax q h sl p s gr e v s1 s2 s3 s4 z1_93 (nI bq) 0 (by first | assumption | omega)) (CV.of mw294 mw295 mw296 mw13 mw297 ⟨rfl, by decide +kernel, by decide +kernel, by decide +kernel⟩ (T := TX8) (N := 7) rfl) (Nat.le_of_ble_eq_true rfl) (Nat.le_of_ble_eq_true rfl) (Nat.le_of_ble_eq_true rfl) (Nat.le_of_ble_eq_true rfl) 0 rfl [0, 1, 2, 3, 4, 7, 8, 9, 10, 11] (by decide +kernel) rfl rfl rfl (Nat.le_of_ble_eq_true rfl) dL_isGreedy_96 (fun r104 wz hq105 => ?_)
                obtain ⟨z1_103, rfl, rfl⟩ := hq105
                refine j_ws (ws2 := [(ax, .inr (8, [.ref q.1, .ref h, .ref sl, .ref p, .ref s, .ref gr, .ref e])), (q.1, .inr (6, [.int v.1, .int (nI v.2.1), .ref q.2.1, .ref q.2.2.1, .ref q.2.2.2])), (q.2.1, .inl (gI g, 14, .inl v.2.2.1)), (q.2.2.1, .inl (gI g, 14, .inl v.2.2.2.1)), (q.2.2.2, .inl (gI g, 14, .inl v.2.2.2.2)), (h, .inr (1, [.int (nI c), .ref hs])), (p, .inr (2, [.int (nI pn), .ref ps, .int b1, .ref pt, .ref pp, .int b2, .int b3, .int b4])), (s, .inr (4, [.int z1_103.1, .int z1_103.2.1, .int (nI z1_103.2.2.1), .int z1_103.2.2.2.1, .int (nI z1_103.2.2.2.2.1), .int z1_103.2.2.2.2.2.1, .ref s1, .ref s2, .ref s3, .ref s4])), (s1, .inl (gI g, 18, .inl z1_103.2.2.2.2.2.2.1)), (s2, .inl (gI g, 14, .inl z1_103.2.2.2.2.2.2.2.1)), (s3, .inl (gI g, 14, .inl z1_103.2.2.2.2.2.2.2.2.1)), (s4, .inl (gI g, 14, .inl (oI z1_103.2.2.2.2.2.2.2.2.2))), (gr, .inr (0, [.int g1, .int g2]))]) rfl ?_
                refine j_top (b := v.2.2.1 bq) (ro_0 (by first | exact hv | exact hok.1 | exact hv2 | assumption) (by omega)) ?_
                refine j_iload (pc := 99) hX dL_isGreedy_99 5 rfl ?_
                refine j_iand (pc := 101) hX dL_isGreedy_101 ?_
                refine j_callSI (n := 1) (As := [.int ((v.2.2.1 bq) &&& (S_miss v.2.2.1 v.1 v.2.1 y.1))]) (rest := []) (pc := 102) hX (c_L_ones g ((v.2.2.1 bq) &&& (S_miss v.2.2.1 v.1 v.2.1 y.1)) ) (CS.of mw342 mw343 mw12 mw344 ⟨by decide +kernel, by decide +kernel, by decide +kernel⟩) (Nat.le_of_ble_eq_true rfl) (Nat.le_of_ble_eq_true rfl) (Nat.le_of_ble_eq_true rfl) (Nat.le_of_ble_eq_true rfl) [] (by decide +kernel) rfl rfl rfl (Nat.le_of_ble_eq_true rfl) dL_isGreedy_102 (fun r106 wz hq107 => ?_)
                obtain ⟨rfl, rfl⟩ := hq107
                refine j_ws (ws2 := [(ax, .inr (8, [.ref q.1, .ref h, .ref sl, .ref p, .ref s, .ref gr, .ref e])), (q.1, .inr (6, [.int v.1, .int (nI v.2.1), .ref q.2.1, .ref q.2.2.1, .ref q.2.2.2])), (q.2.1, .inl (gI g, 14, .inl v.2.2.1)), (q.2.2.1, .inl (gI g, 14, .inl v.2.2.2.1)), (q.2.2.2, .inl (gI g, 14, .inl v.2.2.2.2)), (h, .inr (1, [.int (nI c), .ref hs])), (p, .inr (2, [.int (nI pn), .ref ps, .int b1, .ref pt, .ref pp, .int b2, .int b3, .int b4])), (s, .inr (4, [.int z1_103.1, .int z1_103.2.1, .int (nI z1_103.2.2.1), .int z1_103.2.2.2.1, .int (nI z1_103.2.2.2.2.1), .int z1_103.2.2.2.2.2.1, .ref s1, .ref s2, .ref s3, .ref s4])), (s1, .inl (gI g, 18, .inl z1_103.2.2.2.2.2.2.1)), (s2, .inl (gI g, 14, .inl z1_103.2.2.2.2.2.2.2.1)), (s3, .inl (gI g, 14, .inl z1_103.2.2.2.2.2.2.2.2.1)), (s4, .inl (gI g, 14, .inl (oI z1_103.2.2.2.2.2.2.2.2.2))), (gr, .inr (0, [.int g1, .int g2]))]) rfl ?_
                refine j_istore (lv2 := [(0, .ref ax), (1, .int (nI v.2.1)), (2, .int (S_mk v.2.2.2.2 0 v.2.1)), (3, .int y.1), (4, .int y.2), (5, .int (S_miss v.2.2.1 v.1 v.2.1 y.1)), (6, .int (nI bq)), (7, .int (nI j)), (8, .int (S_size ((v.2.2.1 j) &&& (S_miss v.2.2.1 v.1 v.2.1 y.1)) 18)), (9, .int (S_size ((v.2.2.1 bq) &&& (S_miss v.2.2.1 v.1 v.2.1 y.1)) 18))]) (pc := 105) hX dL_isGreedy_105 [1, 2, 3, 4, 5, 6, 7, 8, 9, 0] (by decide) rfl ?_
                refine j_iload (pc := 107) hX dL_isGreedy_107 6 rfl ?_
                refine j_if_lt (tgt := 135) (pc := 109) hX dL_isGreedy_109 (by decide) (fun c109_108 => ?_) (fun c109_108 => ?_)
                · exfalso
                  have c109_108n : bq < 0 := (nI_ltI (a := bq) (b := 0) (by omega) (by omega)).mp c109_108
                  have c109_108m : ¬ 0 ≤ bq := by omega
                  omega
                have c109_108n : ¬ bq < 0 := fun h9 => c109_108 ((nI_ltI (a := bq) (b := 0) (by omega) (by omega)).mpr h9)
                have c109_108m : 0 ≤ bq := by omega
                refine j_aload_n (pc := 112) hX dL_isGreedy_112 0 rfl ?_
                refine j_iload (pc := 113) hX dL_isGreedy_113 7 rfl ?_
                refine j_iconst (v := 1) (pc := 115) hX dL_isGreedy_115 (by decide) ?_
                refine j_callVI (n := 2) (As := [.int (nI j), .int 1]) (rest := []) (pc := 116) hX (c_X8_ofSet g ax q h sl p s gr e v s1 s2 s3 s4 z1_103 (nI j) 1 (by first | assumption | omega)) (CV.of mw294 mw295 mw296 mw13 mw297 ⟨rfl, by decide +kernel, by decide +kernel, by decide +kernel⟩ (T := TX8) (N := 7) rfl) (Nat.le_of_ble_eq_true rfl) (Nat.le_of_ble_eq_true rfl) (Nat.le_of_ble_eq_true rfl) (Nat.le_of_ble_eq_true rfl) 0 rfl [0, 1, 2, 3, 4, 7, 8, 9, 10, 11] (by decide +kernel) rfl rfl rfl (Nat.le_of_ble_eq_true rfl) dL_isGreedy_116 (fun r110 wz hq111 => ?_)
                obtain ⟨z1_109, rfl, rfl⟩ := hq111
                refine j_ws (ws2 := [(ax, .inr (8, [.ref q.1, .ref h, .ref sl, .ref p, .ref s, .ref gr, .ref e])), (q.1, .inr (6, [.int v.1, .int (nI v.2.1), .ref q.2.1, .ref q.2.2.1, .ref q.2.2.2])), (q.2.1, .inl (gI g, 14, .inl v.2.2.1)), (q.2.2.1, .inl (gI g, 14, .inl v.2.2.2.1)), (q.2.2.2, .inl (gI g, 14, .inl v.2.2.2.2)), (h, .inr (1, [.int (nI c), .ref hs])), (p, .inr (2, [.int (nI pn), .ref ps, .int b1, .ref pt, .ref pp, .int b2, .int b3, .int b4])), (s, .inr (4, [.int z1_109.1, .int z1_109.2.1, .int (nI z1_109.2.2.1), .int z1_109.2.2.2.1, .int (nI z1_109.2.2.2.2.1), .int z1_109.2.2.2.2.2.1, .ref s1, .ref s2, .ref s3, .ref s4])), (s1, .inl (gI g, 18, .inl z1_109.2.2.2.2.2.2.1)), (s2, .inl (gI g, 14, .inl z1_109.2.2.2.2.2.2.2.1)), (s3, .inl (gI g, 14, .inl z1_109.2.2.2.2.2.2.2.2.1)), (s4, .inl (gI g, 14, .inl (oI z1_109.2.2.2.2.2.2.2.2.2))), (gr, .inr (0, [.int g1, .int g2]))]) rfl ?_
                refine j_top (b := v.2.2.2.1 j) (ro_1 (by first | exact hv | exact hok.1 | exact hv2 | assumption) (by omega)) ?_
                refine j_iload (pc := 119) hX dL_isGreedy_119 9 rfl ?_
                refine j_imul (pc := 121) hX dL_isGreedy_121 ?_
                refine j_aload_n (pc := 122) hX dL_isGreedy_122 0 rfl ?_
                refine j_iload (pc := 123) hX dL_isGreedy_123 6 rfl ?_
                refine j_iconst (v := 1) (pc := 125) hX dL_isGreedy_125 (by decide) ?_
                refine j_callVI (n := 2) (As := [.int (nI bq), .int 1]) (rest := [.int ((v.2.2.2.1 j) * (S_size ((v.2.2.1 bq) &&& (S_miss v.2.2.1 v.1 v.2.1 y.1)) 18))]) (pc := 126) hX (c_X8_ofSet g ax q h sl p s gr e v s1 s2 s3 s4 z1_109 (nI bq) 1 (by first | assumption | omega)) (CV.of mw294 mw295 mw296 mw13 mw297 ⟨rfl, by decide +kernel, by decide +kernel, by decide +kernel⟩ (T := TX8) (N := 7) rfl) (Nat.le_of_ble_eq_true rfl) (Nat.le_of_ble_eq_true rfl) (Nat.le_of_ble_eq_true rfl) (Nat.le_of_ble_eq_true rfl) 0 rfl [0, 1, 2, 3, 4, 7, 8, 9, 10, 11] (by decide +kernel) rfl rfl rfl (Nat.le_of_ble_eq_true rfl) dL_isGreedy_126 (fun r113 wz hq114 => ?_)
                obtain ⟨z1_112, rfl, rfl⟩ := hq114
                refine j_ws (ws2 := [(ax, .inr (8, [.ref q.1, .ref h, .ref sl, .ref p, .ref s, .ref gr, .ref e])), (q.1, .inr (6, [.int v.1, .int (nI v.2.1), .ref q.2.1, .ref q.2.2.1, .ref q.2.2.2])), (q.2.1, .inl (gI g, 14, .inl v.2.2.1)), (q.2.2.1, .inl (gI g, 14, .inl v.2.2.2.1)), (q.2.2.2, .inl (gI g, 14, .inl v.2.2.2.2)), (h, .inr (1, [.int (nI c), .ref hs])), (p, .inr (2, [.int (nI pn), .ref ps, .int b1, .ref pt, .ref pp, .int b2, .int b3, .int b4])), (s, .inr (4, [.int z1_112.1, .int z1_112.2.1, .int (nI z1_112.2.2.1), .int z1_112.2.2.2.1, .int (nI z1_112.2.2.2.2.1), .int z1_112.2.2.2.2.2.1, .ref s1, .ref s2, .ref s3, .ref s4])), (s1, .inl (gI g, 18, .inl z1_112.2.2.2.2.2.2.1)), (s2, .inl (gI g, 14, .inl z1_112.2.2.2.2.2.2.2.1)), (s3, .inl (gI g, 14, .inl z1_112.2.2.2.2.2.2.2.2.1)), (s4, .inl (gI g, 14, .inl (oI z1_112.2.2.2.2.2.2.2.2.2))), (gr, .inr (0, [.int g1, .int g2]))]) rfl ?_
                refine j_top (b := v.2.2.2.1 bq) (ro_1 (by first | exact hv | exact hok.1 | exact hv2 | assumption) (by omega)) ?_
                refine j_iload (pc := 129) hX dL_isGreedy_129 8 rfl ?_
                refine j_imul (pc := 131) hX dL_isGreedy_131 ?_
                refine j_icmp_ge (tgt := 140) (pc := 132) hX dL_isGreedy_132 (by decide) (fun c132_115 => ?_) (fun c132_115 => ?_)
                · exfalso
                  exact hG5c c132_115
                refine j_iload (pc := 135) hX dL_isGreedy_135 7 rfl ?_
                refine j_goto (tgt := 142) (pc := 137) hX dL_isGreedy_137 (by decide) ?_
                refine j_istore (lv2 := [(0, .ref ax), (1, .int (nI v.2.1)), (2, .int (S_mk v.2.2.2.2 0 v.2.1)), (3, .int y.1), (4, .int y.2), (5, .int (S_miss v.2.2.1 v.1 v.2.1 y.1)), (6, .int (nI j)), (7, .int (nI j)), (8, .int (S_size ((v.2.2.1 j) &&& (S_miss v.2.2.1 v.1 v.2.1 y.1)) 18)), (9, .int (S_size ((v.2.2.1 bq) &&& (S_miss v.2.2.1 v.1 v.2.1 y.1)) 18))]) (pc := 142) hX dL_isGreedy_142 [1, 2, 3, 4, 5, 6, 0, 7, 8, 9] (by decide) rfl ?_
                refine j_iinc (v := nI (j + 1)) (lv2 := [(0, .ref ax), (1, .int (nI v.2.1)), (2, .int (S_mk v.2.2.2.2 0 v.2.1)), (3, .int y.1), (4, .int y.2), (5, .int (S_miss v.2.2.1 v.1 v.2.1 y.1)), (6, .int (nI j)), (7, .int (nI (j + 1))), (8, .int (S_size ((v.2.2.1 j) &&& (S_miss v.2.2.1 v.1 v.2.1 y.1)) 18)), (9, .int (S_size ((v.2.2.1 bq) &&& (S_miss v.2.2.1 v.1 v.2.1 y.1)) 18))]) (pc := 144) hX dL_isGreedy_144 7 rfl (nI_add j 1) [1, 2, 3, 4, 5, 6, 7, 0, 8, 9] (by decide) rfl ?_
                refine j_goto (tgt := 48) (pc := 147) hX dL_isGreedy_147 (by decide) ?_
                refine j_lvs (lv2 := [(0, .ref ax), (1, .int (nI v.2.1)), (2, .int (S_mk v.2.2.2.2 0 v.2.1)), (3, .int y.1), (4, .int y.2), (5, .int (S_miss v.2.2.1 v.1 v.2.1 y.1)), (6, .int (nI j)), (7, .int (nI (j + 1)))]) [0, 1, 2, 3, 4, 5, 6, 7] rfl ?_
                exact j_eq (lv2 := [(0, .ref ax), (1, .int (nI v.2.1)), (2, .int (S_mk v.2.2.2.2 0 v.2.1)), (3, .int y.1), (4, .int y.2), (5, .int (S_miss v.2.2.1 v.1 v.2.1 y.1)), (6, .int (oM (bB v (S_miss v.2.2.1 v.1 v.2.1 y.1) (j + 1)).1)), (7, .int (nI (j + 1)))]) (ws2 := [(ax, .inr (8, [.ref q.1, .ref h, .ref sl, .ref p, .ref s, .ref gr, .ref e])), (q.1, .inr (6, [.int v.1, .int (nI v.2.1), .ref q.2.1, .ref q.2.2.1, .ref q.2.2.2])), (q.2.1, .inl (gI g, 14, .inl v.2.2.1)), (q.2.2.1, .inl (gI g, 14, .inl v.2.2.2.1)), (q.2.2.2, .inl (gI g, 14, .inl v.2.2.2.2)), (h, .inr (1, [.int (nI c), .ref hs])), (p, .inr (2, [.int (nI pn), .ref ps, .int b1, .ref pt, .ref pp, .int b2, .int b3, .int b4])), (s, .inr (4, [.int z1_112.1, .int z1_112.2.1, .int (nI z1_112.2.2.1), .int z1_112.2.2.2.1, .int (nI z1_112.2.2.2.2.1), .int z1_112.2.2.2.2.2.1, .ref s1, .ref s2, .ref s3, .ref s4])), (s1, .inl (gI g, 18, .inl z1_112.2.2.2.2.2.2.1)), (s2, .inl (gI g, 14, .inl z1_112.2.2.2.2.2.2.2.1)), (s3, .inl (gI g, 14, .inl z1_112.2.2.2.2.2.2.2.2.1)), (s4, .inl (gI g, 14, .inl (oI z1_112.2.2.2.2.2.2.2.2.2))), (gr, .inr (0, [.int g1, .int g2]))]) (by first | (rw [hE]; first | done | rfl) | (rw [hE, hGb]; first | done | rfl) | rfl) (by first | (rw [hE]; first | done | rfl) | (rw [hE, hGb]; first | done | rfl) | rfl) (ih48 _ (by omega) (j + 1) z1_112 (by omega) rfl)
        exact j_eq (lv2 := [(0, .ref ax), (1, .int (nI v.2.1)), (2, .int (S_mk v.2.2.2.2 0 v.2.1)), (3, .int y.1), (4, .int y.2), (5, .int (S_miss v.2.2.1 v.1 v.2.1 y.1)), (6, .int (oM (bB v (S_miss v.2.2.1 v.1 v.2.1 y.1) 0).1)), (7, .int (nI 0))]) (ws2 := [(ax, .inr (8, [.ref q.1, .ref h, .ref sl, .ref p, .ref s, .ref gr, .ref e])), (q.1, .inr (6, [.int v.1, .int (nI v.2.1), .ref q.2.1, .ref q.2.2.1, .ref q.2.2.2])), (q.2.1, .inl (gI g, 14, .inl v.2.2.1)), (q.2.2.1, .inl (gI g, 14, .inl v.2.2.2.1)), (q.2.2.2, .inl (gI g, 14, .inl v.2.2.2.2)), (h, .inr (1, [.int (nI c), .ref hs])), (p, .inr (2, [.int (nI pn), .ref ps, .int b1, .ref pt, .ref pp, .int b2, .int b3, .int b4])), (s, .inr (4, [.int zz.1, .int zz.2.1, .int (nI zz.2.2.1), .int zz.2.2.2.1, .int (nI zz.2.2.2.2.1), .int zz.2.2.2.2.2.1, .ref s1, .ref s2, .ref s3, .ref s4])), (s1, .inl (gI g, 18, .inl zz.2.2.2.2.2.2.1)), (s2, .inl (gI g, 14, .inl zz.2.2.2.2.2.2.2.1)), (s3, .inl (gI g, 14, .inl zz.2.2.2.2.2.2.2.2.1)), (s4, .inl (gI g, 14, .inl (oI zz.2.2.2.2.2.2.2.2.2))), (gr, .inr (0, [.int g1, .int g2]))]) (rfl) (rfl) (L48 _ 0 zz (by omega) rfl)
  exact j_eq (lv2 := [(0, .ref ax), (1, .int (nI v.2.1)), (2, .int (S_mk v.2.2.2.2 0 v.2.1)), (3, .int (gS0 v).1), (4, .int (gS0 v).2), (5, .int (S_miss v.2.2.1 v.1 v.2.1 (gS0 v).1))]) (ws2 := [(ax, .inr (8, [.ref q.1, .ref h, .ref sl, .ref p, .ref s, .ref gr, .ref e])), (q.1, .inr (6, [.int v.1, .int (nI v.2.1), .ref q.2.1, .ref q.2.2.1, .ref q.2.2.2])), (q.2.1, .inl (gI g, 14, .inl v.2.2.1)), (q.2.2.1, .inl (gI g, 14, .inl v.2.2.2.1)), (q.2.2.2, .inl (gI g, 14, .inl v.2.2.2.2)), (h, .inr (1, [.int (nI c), .ref hs])), (p, .inr (2, [.int (nI pn), .ref ps, .int b1, .ref pt, .ref pp, .int b2, .int b3, .int b4])), (s, .inr (4, [.int z1_11.1, .int z1_11.2.1, .int (nI z1_11.2.2.1), .int z1_11.2.2.2.1, .int (nI z1_11.2.2.2.2.1), .int z1_11.2.2.2.2.2.1, .ref s1, .ref s2, .ref s3, .ref s4])), (s1, .inl (gI g, 18, .inl z1_11.2.2.2.2.2.2.1)), (s2, .inl (gI g, 14, .inl z1_11.2.2.2.2.2.2.2.1)), (s3, .inl (gI g, 14, .inl z1_11.2.2.2.2.2.2.2.2.1)), (s4, .inl (gI g, 14, .inl (oI z1_11.2.2.2.2.2.2.2.2.2))), (gr, .inr (0, [.int g1, .int g2]))]) (rfl) (rfl) (L37 _ 0 (gS0 v) z1_11 (rfl) (gTk_0 hok) (Nat.le_trans (cB_le _ _) hok.1) rfl)

