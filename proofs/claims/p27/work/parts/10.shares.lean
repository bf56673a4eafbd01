/-! the shares: open, inTight, rounds, tight, tightCount, dropped, raised, fillings, places, order -/
abbrev SHT : Type := Int32 × Int32 × Nat × Int32 × Nat × Int32 × (Nat → Int32) × (Nat → Int32) × (Nat → Int32) × (Nat → Nat)
def oI (f : Nat → Nat) : Nat → Int32 := fun j => nI (f j)
def updN (f : Nat → Nat) (k v : Nat) : Nat → Nat := fun j => if j = k then v else f j
theorem oI_up (f : Nat → Nat) (k v : Nat) : upd (oI f) k (nI v) = oI (updN f k v) := by
  funext j
  unfold upd oI updN
  split <;> rfl
def bT (z : SHT) (k : Nat) (th : Int32) : SHT := if z.2.2.2.2.1 < 14 then (z.1, z.2.1 ||| th, z.2.2.1, z.2.2.2.1 ||| bI k, z.2.2.2.2.1 + 1, z.2.2.2.2.2.1, z.2.2.2.2.2.2.1, z.2.2.2.2.2.2.2.1, upd z.2.2.2.2.2.2.2.2.1 k (nI z.2.2.2.2.1), updN z.2.2.2.2.2.2.2.2.2 z.2.2.2.2.1 k) else z
def fU (z : SHT) (i : Nat) : SHT := (z.1, z.2.1, z.2.2.1, z.2.2.2.1, z.2.2.2.2.1, z.2.2.2.2.2.1, z.2.2.2.2.2.2.1, upd z.2.2.2.2.2.2.2.1 i (z.2.2.2.2.2.2.2.1 i + 1), z.2.2.2.2.2.2.2.2.1, z.2.2.2.2.2.2.2.2.2)
def rU (z : SHT) (t : Nat) : SHT := (z.1, z.2.1, z.2.2.1, z.2.2.2.1, z.2.2.2.2.1, z.2.2.2.2.2.1, upd z.2.2.2.2.2.2.1 t (z.2.2.2.2.2.2.1 t + 1), z.2.2.2.2.2.2.2.1, z.2.2.2.2.2.2.2.2.1, z.2.2.2.2.2.2.2.2.2)
def fS (v : StT) (t : Nat) : Nat → SHT → SHT
  | 0, z => z
  | i + 1, z => if v.2.2.2.2 i = 0 then (if bt (v.2.2.1 i) t = true then (if (fS v t i z).2.2.2.2.2.2.2.1 i + 1 = v.2.2.2.1 i then bT (fU (fS v t i z) i) i (v.2.2.1 i) else fU (fS v t i z) i) else fS v t i z) else fS v t i z
def lf (z : SHT) : Int32 := z.1 &&& (z.2.1 ^^^ (-1))
def mR (v : StT) : Nat → SHT → SHT
  | 0, z => z
  | t + 1, z => if bt (lf (mR v t z)) t = true then fS v t v.2.1 (rU (mR v t z) t) else mR v t z
def rdU (z : SHT) : SHT := (z.1, z.2.1, z.2.2.1 + 1, z.2.2.2.1, z.2.2.2.2.1, z.2.2.2.2.2.1, z.2.2.2.2.2.2.1, z.2.2.2.2.2.2.2.1, z.2.2.2.2.2.2.2.2.1, z.2.2.2.2.2.2.2.2.2)
def rA (v : StT) : Nat → SHT → SHT
  | 0, z => z
  | k + 1, z => if lf z = 0 then z else rA v k (mR v 18 (rdU z))
def dU (z : SHT) (w : Int32) : SHT := (z.1, z.2.1, z.2.2.1, z.2.2.2.1, z.2.2.2.2.1, w, z.2.2.2.2.2.2.1, z.2.2.2.2.2.2.2.1, z.2.2.2.2.2.2.2.2.1, z.2.2.2.2.2.2.2.2.2)
def dW (z : SHT) (p : Nat) : Int32 := z.2.2.2.2.2.1 ||| bI (z.2.2.2.2.2.2.2.2.2 p)
def dR (v : StT) : Nat → SHT → SHT
  | 0, z => z
  | p + 1, z => if z.1 &&& (S_or v.2.2.1 (z.2.2.2.1 &&& (dW z p ^^^ (-1))) v.2.1 ^^^ (-1)) = 0 then dR v p (dU z (dW z p)) else dR v p z
theorem dR_s (v : StT) {a : Nat} (h : 0 < a) (y : SHT) : dR v a y = if y.1 &&& (S_or v.2.2.1 (y.2.2.2.1 &&& (dW y (a - 1) ^^^ (-1))) v.2.1 ^^^ (-1)) = 0 then dR v (a - 1) (dU y (dW y (a - 1))) else dR v (a - 1) y := by
  obtain ⟨b, rfl⟩ : ∃ b, a = b + 1 := ⟨a - 1, by omega⟩
  rfl
def bG (v : StT) (z : SHT) : SHT := (S_miss v.2.2.1 v.1 v.2.1 (S_mk v.2.2.2.2 1 v.2.1), 0, 0, 0, 0, 0, S_fill 0 z.2.2.2.2.2.2.1 18, S_fill 0 z.2.2.2.2.2.2.2.1 14, S_fill (-6) z.2.2.2.2.2.2.2.2.1 14, z.2.2.2.2.2.2.2.2.2)
def aLL (v : StT) (z : SHT) : SHT := dR v (rA v 500 (bG v z)).2.2.2.2.1 (rA v 500 (bG v z))
def S_rs (f : Nat → Int32) : Nat → Int32
  | 0 => 0
  | i + 1 => S_rs f i + f i
theorem bT_tc {z : SHT} {k : Nat} {th : Int32} (h : z.2.2.2.2.1 ≤ 14) : (bT z k th).2.2.2.2.1 ≤ 14 := by
  unfold bT
  split
  · show z.2.2.2.2.1 + 1 ≤ 14
    omega
  · exact h
theorem fS_tc (v : StT) (t : Nat) : ∀ (i : Nat) (z : SHT), z.2.2.2.2.1 ≤ 14 → (fS v t i z).2.2.2.2.1 ≤ 14
  | 0, _, h => h
  | i + 1, z, h => by
    have h1 := fS_tc v t i z h
    unfold fS
    repeat' split
    all_goals first | exact h1 | exact bT_tc (z := fU _ _) h1
theorem mR_tc (v : StT) : ∀ (t : Nat) (z : SHT), z.2.2.2.2.1 ≤ 14 → (mR v t z).2.2.2.2.1 ≤ 14
  | 0, _, h => h
  | t + 1, z, h => by
    have h1 := mR_tc v t z h
    unfold mR
    split
    · exact fS_tc v t v.2.1 (rU (mR v t z) t) h1
    · exact h1
theorem rA_tc (v : StT) : ∀ (k : Nat) (z : SHT), z.2.2.2.2.1 ≤ 14 → (rA v k z).2.2.2.2.1 ≤ 14
  | 0, _, h => h
  | k + 1, z, h => by
    unfold rA
    split
    · exact h
    · exact rA_tc v k _ (mR_tc v 18 (rdU z) h)
def oB (v : SHT) : Prop := ∀ j, v.2.2.2.2.2.2.2.2.2 j < 14
theorem bT_oB {z : SHT} {k : Nat} {th : Int32} (hk : k < 14) (h : oB z) : oB (bT z k th) := by
  unfold bT
  split
  · intro j
    show updN z.2.2.2.2.2.2.2.2.2 z.2.2.2.2.1 k j < 14
    unfold updN
    split
    · exact hk
    · exact h j
  · exact h
theorem fS_oB (v : StT) (t : Nat) : ∀ (i : Nat) (z : SHT), i ≤ 14 → oB z → oB (fS v t i z)
  | 0, _, _, h => h
  | i + 1, z, hi, h => by
    have h1 := fS_oB v t i z (by omega) h
    unfold fS
    repeat' split
    all_goals first | exact h1 | exact bT_oB (z := fU _ _) (by omega) h1
theorem mR_oB (v : StT) (hn : v.2.1 ≤ 14) : ∀ (t : Nat) (z : SHT), oB z → oB (mR v t z)
  | 0, _, h => h
  | t + 1, z, h => by
    have h1 := mR_oB v hn t z h
    unfold mR
    split
    · exact fS_oB v t v.2.1 (rU (mR v t z) t) hn h1
    · exact h1
theorem rA_oB (v : StT) (hn : v.2.1 ≤ 14) : ∀ (k : Nat) (z : SHT), oB z → oB (rA v k z)
  | 0, _, h => h
  | k + 1, z, h => by
    unfold rA
    split
    · exact h
    · exact rA_oB v hn k _ (mR_oB v hn 18 (rdU z) h)

set_option maxHeartbeats 4000000 in
set_option maxRecDepth 100000 in
theorem c_X4_becomeTight (g : jG) (s : Nat) (s1 : Nat) (s2 : Nat) (s3 : Nat) (s4 : Nat) (z : SHT) (k : Nat) (th : Int32) (hk : k < 14) (htc : z.2.2.2.2.1 ≤ 14) : jMV g yX4_becomeTight cX4_becomeTight 3 0 0 0 0 [.ref s, .int (nI k), .int th] [(s, .inr (4, [.int z.1, .int z.2.1, .int (nI z.2.2.1), .int z.2.2.2.1, .int (nI z.2.2.2.2.1), .int z.2.2.2.2.2.1, .ref s1, .ref s2, .ref s3, .ref s4])), (s1, .inl (gI g, 18, .inl z.2.2.2.2.2.2.1)), (s2, .inl (gI g, 14, .inl z.2.2.2.2.2.2.2.1)), (s3, .inl (gI g, 14, .inl z.2.2.2.2.2.2.2.2.1)), (s4, .inl (gI g, 14, .inl (oI z.2.2.2.2.2.2.2.2.2)))] (fun wz wzn => wz = [(s, .inr (4, [.int ((bT z k th).1), .int ((bT z k th).2.1), .int (nI ((bT z k th).2.2.1)), .int ((bT z k th).2.2.2.1), .int (nI ((bT z k th).2.2.2.2.1)), .int ((bT z k th).2.2.2.2.2.1), .ref s1, .ref s2, .ref s3, .ref s4])), (s1, .inl (gI g, 18, .inl ((bT z k th).2.2.2.2.2.2.1))), (s2, .inl (gI g, 14, .inl ((bT z k th).2.2.2.2.2.2.2.1))), (s3, .inl (gI g, 14, .inl ((bT z k th).2.2.2.2.2.2.2.2.1))), (s4, .inl (gI g, 14, .inl (oI ((bT z k th).2.2.2.2.2.2.2.2.2))))] ∧ wzn = []) := by
  refine jMV.intro (by decide +kernel) (Nat.le_of_ble_eq_true rfl) (fun x hX hQ hN => ?_)
  refine j_lv (lv2 := [(0, .ref s), (1, .int (nI k)), (2, .int th)]) rfl ?_
  refine j_aload_n (pc := 0) hX dX4_becomeTight_0 0 rfl ?_
  refine j_get (ci := 4) (pc := 1) hX inG4 rfl 4 (by decide) mw131 0 rfl rfl dX4_becomeTight_1 ?_
  refine j_bipush (v := 14) (pc := 4) hX dX4_becomeTight_4 (by decide) ?_
  refine j_icmp_ge (tgt := 61) (pc := 6) hX dX4_becomeTight_6 (by decide) (fun c6_1 => ?_) (fun c6_1 => ?_)
  · skip
    have c6_1n : 14 ≤ z.2.2.2.2.1 := (nI_leI (a := 14) (b := z.2.2.2.2.1) (by omega) (by omega)).mp c6_1
    have c6_1m : ¬ z.2.2.2.2.1 < 14 := by omega
    exact j_vret (pc := 61) hX hQ dX4_becomeTight_61 [(s, .inr (4, [.int z.1, .int z.2.1, .int (nI z.2.2.1), .int z.2.2.2.1, .int (nI z.2.2.2.2.1), .int z.2.2.2.2.2.1, .ref s1, .ref s2, .ref s3, .ref s4])), (s1, .inl (gI g, 18, .inl z.2.2.2.2.2.2.1)), (s2, .inl (gI g, 14, .inl z.2.2.2.2.2.2.2.1)), (s3, .inl (gI g, 14, .inl z.2.2.2.2.2.2.2.2.1)), (s4, .inl (gI g, 14, .inl (oI z.2.2.2.2.2.2.2.2.2)))] [] rfl rfl ⟨(by simp only [bT, oI_up, c6_1, c6_1n, c6_1m, reduceIte]), (rfl)⟩
  · skip
    have c6_1n : ¬ 14 ≤ z.2.2.2.2.1 := fun h9 => c6_1 ((nI_leI (a := 14) (b := z.2.2.2.2.1) (by omega) (by omega)).mpr h9)
    have c6_1m : z.2.2.2.2.1 < 14 := by omega
    refine j_aload_n (pc := 9) hX dX4_becomeTight_9 0 rfl ?_
    refine j_get (ci := 4) (pc := 10) hX inG4 rfl 9 (by decide) mw141 0 rfl rfl dX4_becomeTight_10 ?_
    refine j_aload_n (pc := 13) hX dX4_becomeTight_13 0 rfl ?_
    refine j_get (ci := 4) (pc := 14) hX inG4 rfl 4 (by decide) mw131 0 rfl rfl dX4_becomeTight_14 ?_
    refine j_iload_n (pc := 17) hX dX4_becomeTight_17 1 rfl ?_
    refine j_iast (pc := 18) hX 4 rfl z.2.2.2.2.1 rfl (by omega) (by omega) dX4_becomeTight_18 ?_
    refine j_ws (ws2 := [(s, .inr (4, [.int z.1, .int z.2.1, .int (nI z.2.2.1), .int z.2.2.2.1, .int (nI z.2.2.2.2.1), .int z.2.2.2.2.2.1, .ref s1, .ref s2, .ref s3, .ref s4])), (s1, .inl (gI g, 18, .inl z.2.2.2.2.2.2.1)), (s2, .inl (gI g, 14, .inl z.2.2.2.2.2.2.2.1)), (s3, .inl (gI g, 14, .inl z.2.2.2.2.2.2.2.2.1)), (s4, .inl (gI g, 14, .inl (upd (oI z.2.2.2.2.2.2.2.2.2) z.2.2.2.2.1 (nI k))))]) rfl ?_
    refine j_aload_n (pc := 19) hX dX4_becomeTight_19 0 rfl ?_
    refine j_get (ci := 4) (pc := 20) hX inG4 rfl 8 (by decide) mw139 0 rfl rfl dX4_becomeTight_20 ?_
    refine j_iload_n (pc := 23) hX dX4_becomeTight_23 1 rfl ?_
    refine j_aload_n (pc := 24) hX dX4_becomeTight_24 0 rfl ?_
    refine j_get (ci := 4) (pc := 25) hX inG4 rfl 4 (by decide) mw131 0 rfl rfl dX4_becomeTight_25 ?_
    refine j_iast (pc := 28) hX 3 rfl k rfl (by omega) (by omega) dX4_becomeTight_28 ?_
    refine j_ws (ws2 := [(s, .inr (4, [.int z.1, .int z.2.1, .int (nI z.2.2.1), .int z.2.2.2.1, .int (nI z.2.2.2.2.1), .int z.2.2.2.2.2.1, .ref s1, .ref s2, .ref s3, .ref s4])), (s1, .inl (gI g, 18, .inl z.2.2.2.2.2.2.1)), (s2, .inl (gI g, 14, .inl z.2.2.2.2.2.2.2.1)), (s3, .inl (gI g, 14, .inl (upd z.2.2.2.2.2.2.2.2.1 k (nI z.2.2.2.2.1)))), (s4, .inl (gI g, 14, .inl (upd (oI z.2.2.2.2.2.2.2.2.2) z.2.2.2.2.1 (nI k))))]) rfl ?_
    refine j_aload_n (pc := 29) hX dX4_becomeTight_29 0 rfl ?_
    refine j_dup (pc := 30) hX dX4_becomeTight_30 rfl ?_
    refine j_get (ci := 4) (pc := 31) hX inG4 rfl 4 (by decide) mw131 0 rfl rfl dX4_becomeTight_31 ?_
    refine j_iconst (v := 1) (pc := 34) hX dX4_becomeTight_34 (by decide) ?_
    refine j_iadd (pc := 35) hX dX4_becomeTight_35 ?_
    refine j_top (b := nI (z.2.2.2.2.1 + 1)) (nI_add z.2.2.2.2.1 1) ?_
    refine j_put (ci := 4) (ty := .int) (pc := 36) hX inG4 tyX4 tyX4_ok nmG4 rfl 4 (by decide) mw131 rfl (by decide +kernel) 0 rfl (Nat.le_of_ble_eq_true rfl) (rfl) rfl dX4_becomeTight_36 ?_
    refine j_ws (ws2 := [(s, .inr (4, [.int z.1, .int z.2.1, .int (nI z.2.2.1), .int z.2.2.2.1, .int (nI (z.2.2.2.2.1 + 1)), .int z.2.2.2.2.2.1, .ref s1, .ref s2, .ref s3, .ref s4])), (s1, .inl (gI g, 18, .inl z.2.2.2.2.2.2.1)), (s2, .inl (gI g, 14, .inl z.2.2.2.2.2.2.2.1)), (s3, .inl (gI g, 14, .inl (upd z.2.2.2.2.2.2.2.2.1 k (nI z.2.2.2.2.1)))), (s4, .inl (gI g, 14, .inl (upd (oI z.2.2.2.2.2.2.2.2.2) z.2.2.2.2.1 (nI k))))]) rfl ?_
    refine j_aload_n (pc := 39) hX dX4_becomeTight_39 0 rfl ?_
    refine j_dup (pc := 40) hX dX4_becomeTight_40 rfl ?_
    refine j_get (ci := 4) (pc := 41) hX inG4 rfl 3 (by decide) mw129 0 rfl rfl dX4_becomeTight_41 ?_
    refine j_iconst (v := 1) (pc := 44) hX dX4_becomeTight_44 (by decide) ?_
    refine j_iload_n (pc := 45) hX dX4_becomeTight_45 1 rfl ?_
    refine j_ishl (pc := 46) hX dX4_becomeTight_46 ?_
    refine j_top (b := bI k) rfl ?_
    refine j_ior (pc := 47) hX dX4_becomeTight_47 ?_
    refine j_put (ci := 4) (ty := .int) (pc := 48) hX inG4 tyX4 tyX4_ok nmG4 rfl 3 (by decide) mw129 rfl (by decide +kernel) 0 rfl (Nat.le_of_ble_eq_true rfl) (rfl) rfl dX4_becomeTight_48 ?_
    refine j_ws (ws2 := [(s, .inr (4, [.int z.1, .int z.2.1, .int (nI z.2.2.1), .int (z.2.2.2.1 ||| (bI k)), .int (nI (z.2.2.2.2.1 + 1)), .int z.2.2.2.2.2.1, .ref s1, .ref s2, .ref s3, .ref s4])), (s1, .inl (gI g, 18, .inl z.2.2.2.2.2.2.1)), (s2, .inl (gI g, 14, .inl z.2.2.2.2.2.2.2.1)), (s3, .inl (gI g, 14, .inl (upd z.2.2.2.2.2.2.2.2.1 k (nI z.2.2.2.2.1)))), (s4, .inl (gI g, 14, .inl (upd (oI z.2.2.2.2.2.2.2.2.2) z.2.2.2.2.1 (nI k))))]) rfl ?_
    refine j_aload_n (pc := 51) hX dX4_becomeTight_51 0 rfl ?_
    refine j_dup (pc := 52) hX dX4_becomeTight_52 rfl ?_
    refine j_get (ci := 4) (pc := 53) hX inG4 rfl 1 (by decide) mw126 0 rfl rfl dX4_becomeTight_53 ?_
    refine j_iload_n (pc := 56) hX dX4_becomeTight_56 2 rfl ?_
    refine j_ior (pc := 57) hX dX4_becomeTight_57 ?_
    refine j_put (ci := 4) (ty := .int) (pc := 58) hX inG4 tyX4 tyX4_ok nmG4 rfl 1 (by decide) mw126 rfl (by decide +kernel) 0 rfl (Nat.le_of_ble_eq_true rfl) (rfl) rfl dX4_becomeTight_58 ?_
    refine j_ws (ws2 := [(s, .inr (4, [.int z.1, .int (z.2.1 ||| th), .int (nI z.2.2.1), .int (z.2.2.2.1 ||| (bI k)), .int (nI (z.2.2.2.2.1 + 1)), .int z.2.2.2.2.2.1, .ref s1, .ref s2, .ref s3, .ref s4])), (s1, .inl (gI g, 18, .inl z.2.2.2.2.2.2.1)), (s2, .inl (gI g, 14, .inl z.2.2.2.2.2.2.2.1)), (s3, .inl (gI g, 14, .inl (upd z.2.2.2.2.2.2.2.2.1 k (nI z.2.2.2.2.1)))), (s4, .inl (gI g, 14, .inl (upd (oI z.2.2.2.2.2.2.2.2.2) z.2.2.2.2.1 (nI k))))]) rfl ?_
    exact j_vret (pc := 61) hX hQ dX4_becomeTight_61 [(s, .inr (4, [.int z.1, .int (z.2.1 ||| th), .int (nI z.2.2.1), .int (z.2.2.2.1 ||| (bI k)), .int (nI (z.2.2.2.2.1 + 1)), .int z.2.2.2.2.2.1, .ref s1, .ref s2, .ref s3, .ref s4])), (s1, .inl (gI g, 18, .inl z.2.2.2.2.2.2.1)), (s2, .inl (gI g, 14, .inl z.2.2.2.2.2.2.2.1)), (s3, .inl (gI g, 14, .inl (upd z.2.2.2.2.2.2.2.2.1 k (nI z.2.2.2.2.1)))), (s4, .inl (gI g, 14, .inl (upd (oI z.2.2.2.2.2.2.2.2.2) z.2.2.2.2.1 (nI k))))] [] rfl rfl ⟨(by simp only [bT, oI_up, c6_1, c6_1n, c6_1m, reduceIte]), (rfl)⟩

set_option maxHeartbeats 4000000 in
set_option maxRecDepth 100000 in
theorem c_X4_fill (g : jG) (s : Nat) (s1 : Nat) (s2 : Nat) (s3 : Nat) (s4 : Nat) (z : SHT) (t : Nat) (q : adT) (v : StT) (ht : t < 18) (hv : v.2.1 ≤ 14) (htc : z.2.2.2.2.1 ≤ 14) : jMV g yX4_fillSetsWith cX4_fillSetsWith 4 1 22 0 0 [.ref s, .int (nI t), .ref q.1] [(s, .inr (4, [.int z.1, .int z.2.1, .int (nI z.2.2.1), .int z.2.2.2.1, .int (nI z.2.2.2.2.1), .int z.2.2.2.2.2.1, .ref s1, .ref s2, .ref s3, .ref s4])), (s1, .inl (gI g, 18, .inl z.2.2.2.2.2.2.1)), (s2, .inl (gI g, 14, .inl z.2.2.2.2.2.2.2.1)), (s3, .inl (gI g, 14, .inl z.2.2.2.2.2.2.2.2.1)), (s4, .inl (gI g, 14, .inl (oI z.2.2.2.2.2.2.2.2.2))), (q.1, .inr (6, [.int v.1, .int (nI v.2.1), .ref q.2.1, .ref q.2.2.1, .ref q.2.2.2])), (q.2.1, .inl (gI g, 14, .inl v.2.2.1)), (q.2.2.1, .inl (gI g, 14, .inl v.2.2.2.1)), (q.2.2.2, .inl (gI g, 14, .inl v.2.2.2.2))] (fun wz wzn => wz = [(s, .inr (4, [.int ((fS v t v.2.1 z).1), .int ((fS v t v.2.1 z).2.1), .int (nI ((fS v t v.2.1 z).2.2.1)), .int ((fS v t v.2.1 z).2.2.2.1), .int (nI ((fS v t v.2.1 z).2.2.2.2.1)), .int ((fS v t v.2.1 z).2.2.2.2.2.1), .ref s1, .ref s2, .ref s3, .ref s4])), (s1, .inl (gI g, 18, .inl ((fS v t v.2.1 z).2.2.2.2.2.2.1))), (s2, .inl (gI g, 14, .inl ((fS v t v.2.1 z).2.2.2.2.2.2.2.1))), (s3, .inl (gI g, 14, .inl ((fS v t v.2.1 z).2.2.2.2.2.2.2.2.1))), (s4, .inl (gI g, 14, .inl (oI ((fS v t v.2.1 z).2.2.2.2.2.2.2.2.2)))), (q.1, .inr (6, [.int v.1, .int (nI v.2.1), .ref q.2.1, .ref q.2.2.1, .ref q.2.2.2])), (q.2.1, .inl (gI g, 14, .inl v.2.2.1)), (q.2.2.1, .inl (gI g, 14, .inl v.2.2.2.1)), (q.2.2.2, .inl (gI g, 14, .inl v.2.2.2.2))] ∧ wzn = []) := by
  refine jMV.intro (by decide +kernel) (Nat.le_of_ble_eq_true rfl) (fun x hX hQ hN => ?_)
  refine j_lv (lv2 := [(0, .ref s), (1, .int (nI t)), (2, .ref q.1)]) rfl ?_
  refine j_iconst (v := 0) (pc := 0) hX dX4_fillSetsWith_0 (by decide) ?_
  refine j_istore_n (lv2 := [(0, .ref s), (1, .int (nI t)), (2, .ref q.1), (3, .int 0)]) (pc := 1) hX dX4_fillSetsWith_1 [1, 2, 3, 0] (by decide) rfl ?_
  have L2 : ∀ (d : Nat) (i : Nat), i ≤ v.2.1 → v.2.1 - i = d → J g x 4 0 0 2 [(0, .ref s), (1, .int (nI t)), (2, .ref q.1), (3, .int (nI i))] [] [(s, .inr (4, [.int ((fS v t i z).1), .int ((fS v t i z).2.1), .int (nI ((fS v t i z).2.2.1)), .int ((fS v t i z).2.2.2.1), .int (nI ((fS v t i z).2.2.2.2.1)), .int ((fS v t i z).2.2.2.2.2.1), .ref s1, .ref s2, .ref s3, .ref s4])), (s1, .inl (gI g, 18, .inl ((fS v t i z).2.2.2.2.2.2.1))), (s2, .inl (gI g, 14, .inl ((fS v t i z).2.2.2.2.2.2.2.1))), (s3, .inl (gI g, 14, .inl ((fS v t i z).2.2.2.2.2.2.2.2.1))), (s4, .inl (gI g, 14, .inl (oI ((fS v t i z).2.2.2.2.2.2.2.2.2)))), (q.1, .inr (6, [.int v.1, .int (nI v.2.1), .ref q.2.1, .ref q.2.2.1, .ref q.2.2.2])), (q.2.1, .inl (gI g, 14, .inl v.2.2.1)), (q.2.2.1, .inl (gI g, 14, .inl v.2.2.2.1)), (q.2.2.2, .inl (gI g, 14, .inl v.2.2.2.2))] := by
    intro d
    induction d using Nat.strongRecOn with
    | _ d ih2 =>
      intro i hi hd2
      refine j_iload_n (pc := 2) hX dX4_fillSetsWith_2 3 rfl ?_
      refine j_aload_n (pc := 3) hX dX4_fillSetsWith_3 2 rfl ?_
      refine j_getN (ci := 6) (pc := 4) hX inG6 rfl 1 (by decide) mw47 5 rfl rfl dX4_fillSetsWith_4 ?_
      refine j_icmp_ge (tgt := 74) (pc := 7) hX dX4_fillSetsWith_7 (by decide) (fun c7_1 => ?_) (fun c7_1 => ?_)
      · skip
        have c7_1n : v.2.1 ≤ i := (nI_leI (a := v.2.1) (b := i) (by omega) (by omega)).mp c7_1
        have c7_1m : ¬ i < v.2.1 := by omega
        exact j_vret (pc := 74) hX hQ dX4_fillSetsWith_74 [(s, .inr (4, [.int ((fS v t i z).1), .int ((fS v t i z).2.1), .int (nI ((fS v t i z).2.2.1)), .int ((fS v t i z).2.2.2.1), .int (nI ((fS v t i z).2.2.2.2.1)), .int ((fS v t i z).2.2.2.2.2.1), .ref s1, .ref s2, .ref s3, .ref s4])), (s1, .inl (gI g, 18, .inl ((fS v t i z).2.2.2.2.2.2.1))), (s2, .inl (gI g, 14, .inl ((fS v t i z).2.2.2.2.2.2.2.1))), (s3, .inl (gI g, 14, .inl ((fS v t i z).2.2.2.2.2.2.2.2.1))), (s4, .inl (gI g, 14, .inl (oI ((fS v t i z).2.2.2.2.2.2.2.2.2)))), (q.1, .inr (6, [.int v.1, .int (nI v.2.1), .ref q.2.1, .ref q.2.2.1, .ref q.2.2.2])), (q.2.1, .inl (gI g, 14, .inl v.2.2.1)), (q.2.2.1, .inl (gI g, 14, .inl v.2.2.2.1)), (q.2.2.2, .inl (gI g, 14, .inl v.2.2.2.2))] [] rfl rfl ⟨(by rw [show i = v.2.1 by omega]), (rfl)⟩
      · skip
        have c7_1n : ¬ v.2.1 ≤ i := fun h9 => c7_1 ((nI_leI (a := v.2.1) (b := i) (by omega) (by omega)).mpr h9)
        have c7_1m : i < v.2.1 := by omega
        have ht5 := fS_tc v t i z htc
        refine j_aload_n (pc := 10) hX dX4_fillSetsWith_10 2 rfl ?_
        refine j_getN (ci := 6) (pc := 11) hX inG6 rfl 4 (by decide) mw61 5 rfl rfl dX4_fillSetsWith_11 ?_
        refine j_iload_n (pc := 14) hX dX4_fillSetsWith_14 3 rfl ?_
        refine j_iald (pc := 15) hX 8 rfl i rfl (by omega) (by omega) dX4_fillSetsWith_15 ?_
        refine j_if_ne (tgt := 68) (pc := 16) hX dX4_fillSetsWith_16 (by decide) (fun c16_2 => ?_) (fun c16_2 => ?_)
        · skip
          refine j_iinc (v := nI (i + 1)) (lv2 := [(0, .ref s), (1, .int (nI t)), (2, .ref q.1), (3, .int (nI (i + 1)))]) (pc := 68) hX dX4_fillSetsWith_68 3 rfl (nI_add i 1) [1, 2, 3, 0] (by decide) rfl ?_
          refine j_goto (tgt := 2) (pc := 71) hX dX4_fillSetsWith_71 (by decide) ?_
          exact j_eq (lv2 := [(0, .ref s), (1, .int (nI t)), (2, .ref q.1), (3, .int (nI (i + 1)))]) (ws2 := [(s, .inr (4, [.int ((fS v t (i + 1) z).1), .int ((fS v t (i + 1) z).2.1), .int (nI ((fS v t (i + 1) z).2.2.1)), .int ((fS v t (i + 1) z).2.2.2.1), .int (nI ((fS v t (i + 1) z).2.2.2.2.1)), .int ((fS v t (i + 1) z).2.2.2.2.2.1), .ref s1, .ref s2, .ref s3, .ref s4])), (s1, .inl (gI g, 18, .inl ((fS v t (i + 1) z).2.2.2.2.2.2.1))), (s2, .inl (gI g, 14, .inl ((fS v t (i + 1) z).2.2.2.2.2.2.2.1))), (s3, .inl (gI g, 14, .inl ((fS v t (i + 1) z).2.2.2.2.2.2.2.2.1))), (s4, .inl (gI g, 14, .inl (oI ((fS v t (i + 1) z).2.2.2.2.2.2.2.2.2)))), (q.1, .inr (6, [.int v.1, .int (nI v.2.1), .ref q.2.1, .ref q.2.2.1, .ref q.2.2.2])), (q.2.1, .inl (gI g, 14, .inl v.2.2.1)), (q.2.2.1, .inl (gI g, 14, .inl v.2.2.2.1)), (q.2.2.2, .inl (gI g, 14, .inl v.2.2.2.2))]) (by first | rfl | (simp only [fS, c7_1, c7_1n, c7_1m, c16_2, reduceIte, pk_us]; first | done | rfl)) (by first | rfl | (simp only [fS, c7_1, c7_1n, c7_1m, c16_2, reduceIte, pk_us]; first | done | rfl)) (ih2 _ (by omega) (i + 1) (by omega) rfl)
        · skip
          refine j_aload_n (pc := 19) hX dX4_fillSetsWith_19 2 rfl ?_
          refine j_getN (ci := 6) (pc := 20) hX inG6 rfl 2 (by decide) mw51 5 rfl rfl dX4_fillSetsWith_20 ?_
          refine j_iload_n (pc := 23) hX dX4_fillSetsWith_23 3 rfl ?_
          refine j_iald (pc := 24) hX 6 rfl i rfl (by omega) (by omega) dX4_fillSetsWith_24 ?_
          refine j_iload_n (pc := 25) hX dX4_fillSetsWith_25 1 rfl ?_
          refine j_callSNI (n := 2) (As := [.int (v.2.2.1 i), .int (nI t)]) (rest := []) (pc := 26) hX (c_X8_has g (v.2.2.1 i) t (by first | assumption | omega)) ⟨⟨_, mw320⟩, mw272, mw13, mw273, ⟨by decide +kernel, by decide +kernel, by decide +kernel⟩⟩ (Nat.le_of_ble_eq_true rfl) (Nat.le_of_ble_eq_true rfl) (Nat.le_of_ble_eq_true rfl) (Nat.le_of_ble_eq_true rfl) [] (by decide +kernel) rfl rfl rfl (Nat.le_of_ble_eq_true rfl) dX4_fillSetsWith_26 (fun r3 wz hq4 => ?_)
          obtain ⟨rfl, rfl⟩ := hq4
          refine j_ws (ws2 := [(s, .inr (4, [.int ((fS v t i z).1), .int ((fS v t i z).2.1), .int (nI ((fS v t i z).2.2.1)), .int ((fS v t i z).2.2.2.1), .int (nI ((fS v t i z).2.2.2.2.1)), .int ((fS v t i z).2.2.2.2.2.1), .ref s1, .ref s2, .ref s3, .ref s4])), (s1, .inl (gI g, 18, .inl ((fS v t i z).2.2.2.2.2.2.1))), (s2, .inl (gI g, 14, .inl ((fS v t i z).2.2.2.2.2.2.2.1))), (s3, .inl (gI g, 14, .inl ((fS v t i z).2.2.2.2.2.2.2.2.1))), (s4, .inl (gI g, 14, .inl (oI ((fS v t i z).2.2.2.2.2.2.2.2.2)))), (q.1, .inr (6, [.int v.1, .int (nI v.2.1), .ref q.2.1, .ref q.2.2.1, .ref q.2.2.2])), (q.2.1, .inl (gI g, 14, .inl v.2.2.1)), (q.2.2.1, .inl (gI g, 14, .inl v.2.2.2.1)), (q.2.2.2, .inl (gI g, 14, .inl v.2.2.2.2))]) rfl ?_
          refine j_if_eq (tgt := 68) (pc := 29) hX dX4_fillSetsWith_29 (by decide) (fun c29_5 => ?_) (fun c29_5 => ?_)
          · skip
            have c29_5b : (bt (v.2.2.1 i) t) = false := jb_0.mp c29_5
            refine j_iinc (v := nI (i + 1)) (lv2 := [(0, .ref s), (1, .int (nI t)), (2, .ref q.1), (3, .int (nI (i + 1)))]) (pc := 68) hX dX4_fillSetsWith_68 3 rfl (nI_add i 1) [1, 2, 3, 0] (by decide) rfl ?_
            refine j_goto (tgt := 2) (pc := 71) hX dX4_fillSetsWith_71 (by decide) ?_
            exact j_eq (lv2 := [(0, .ref s), (1, .int (nI t)), (2, .ref q.1), (3, .int (nI (i + 1)))]) (ws2 := [(s, .inr (4, [.int ((fS v t (i + 1) z).1), .int ((fS v t (i + 1) z).2.1), .int (nI ((fS v t (i + 1) z).2.2.1)), .int ((fS v t (i + 1) z).2.2.2.1), .int (nI ((fS v t (i + 1) z).2.2.2.2.1)), .int ((fS v t (i + 1) z).2.2.2.2.2.1), .ref s1, .ref s2, .ref s3, .ref s4])), (s1, .inl (gI g, 18, .inl ((fS v t (i + 1) z).2.2.2.2.2.2.1))), (s2, .inl (gI g, 14, .inl ((fS v t (i + 1) z).2.2.2.2.2.2.2.1))), (s3, .inl (gI g, 14, .inl ((fS v t (i + 1) z).2.2.2.2.2.2.2.2.1))), (s4, .inl (gI g, 14, .inl (oI ((fS v t (i + 1) z).2.2.2.2.2.2.2.2.2)))), (q.1, .inr (6, [.int v.1, .int (nI v.2.1), .ref q.2.1, .ref q.2.2.1, .ref q.2.2.2])), (q.2.1, .inl (gI g, 14, .inl v.2.2.1)), (q.2.2.1, .inl (gI g, 14, .inl v.2.2.2.1)), (q.2.2.2, .inl (gI g, 14, .inl v.2.2.2.2))]) (by first | rfl | (simp only [fS, c7_1, c7_1n, c7_1m, c16_2, c29_5, c29_5b, reduceIte, pk_us]; first | done | rfl)) (by first | rfl | (simp only [fS, c7_1, c7_1n, c7_1m, c16_2, c29_5, c29_5b, reduceIte, pk_us]; first | done | rfl)) (ih2 _ (by omega) (i + 1) (by omega) rfl)
          · skip
            have c29_5b : (bt (v.2.2.1 i) t) = true := jb_1.mp c29_5
            refine j_aload_n (pc := 32) hX dX4_fillSetsWith_32 0 rfl ?_
            refine j_get (ci := 4) (pc := 33) hX inG4 rfl 7 (by decide) mw137 0 rfl rfl dX4_fillSetsWith_33 ?_
            refine j_iload_n (pc := 36) hX dX4_fillSetsWith_36 3 rfl ?_
            refine j_dup2 (pc := 37) hX dX4_fillSetsWith_37 rfl rfl ?_
            refine j_iald (pc := 38) hX 2 rfl i rfl (by omega) (by omega) dX4_fillSetsWith_38 ?_
            refine j_iconst (v := 1) (pc := 39) hX dX4_fillSetsWith_39 (by decide) ?_
            refine j_iadd (pc := 40) hX dX4_fillSetsWith_40 ?_
            refine j_iast (pc := 41) hX 2 rfl i rfl (by omega) (by omega) dX4_fillSetsWith_41 ?_
            refine j_ws (ws2 := [(s, .inr (4, [.int ((fS v t i z).1), .int ((fS v t i z).2.1), .int (nI ((fS v t i z).2.2.1)), .int ((fS v t i z).2.2.2.1), .int (nI ((fS v t i z).2.2.2.2.1)), .int ((fS v t i z).2.2.2.2.2.1), .ref s1, .ref s2, .ref s3, .ref s4])), (s1, .inl (gI g, 18, .inl ((fS v t i z).2.2.2.2.2.2.1))), (s2, .inl (gI g, 14, .inl (upd ((fS v t i z).2.2.2.2.2.2.2.1) i ((((fS v t i z).2.2.2.2.2.2.2.1) i) + 1)))), (s3, .inl (gI g, 14, .inl ((fS v t i z).2.2.2.2.2.2.2.2.1))), (s4, .inl (gI g, 14, .inl (oI ((fS v t i z).2.2.2.2.2.2.2.2.2)))), (q.1, .inr (6, [.int v.1, .int (nI v.2.1), .ref q.2.1, .ref q.2.2.1, .ref q.2.2.2])), (q.2.1, .inl (gI g, 14, .inl v.2.2.1)), (q.2.2.1, .inl (gI g, 14, .inl v.2.2.2.1)), (q.2.2.2, .inl (gI g, 14, .inl v.2.2.2.2))]) rfl ?_
            refine j_aload_n (pc := 42) hX dX4_fillSetsWith_42 0 rfl ?_
            refine j_get (ci := 4) (pc := 43) hX inG4 rfl 7 (by decide) mw137 0 rfl rfl dX4_fillSetsWith_43 ?_
            refine j_iload_n (pc := 46) hX dX4_fillSetsWith_46 3 rfl ?_
            refine j_iald (pc := 47) hX 2 rfl i rfl (by omega) (by omega) dX4_fillSetsWith_47 ?_
            refine j_top (b := (fS v t i z).2.2.2.2.2.2.2.1 i + 1) (pk_us) ?_
            refine j_aload_n (pc := 48) hX dX4_fillSetsWith_48 2 rfl ?_
            refine j_getN (ci := 6) (pc := 49) hX inG6 rfl 3 (by decide) mw57 5 rfl rfl dX4_fillSetsWith_49 ?_
            refine j_iload_n (pc := 52) hX dX4_fillSetsWith_52 3 rfl ?_
            refine j_iald (pc := 53) hX 7 rfl i rfl (by omega) (by omega) dX4_fillSetsWith_53 ?_
            refine j_icmp_ne (tgt := 68) (pc := 54) hX dX4_fillSetsWith_54 (by decide) (fun c54_6 => ?_) (fun c54_6 => ?_)
            · skip
              refine j_iinc (v := nI (i + 1)) (lv2 := [(0, .ref s), (1, .int (nI t)), (2, .ref q.1), (3, .int (nI (i + 1)))]) (pc := 68) hX dX4_fillSetsWith_68 3 rfl (nI_add i 1) [1, 2, 3, 0] (by decide) rfl ?_
              refine j_goto (tgt := 2) (pc := 71) hX dX4_fillSetsWith_71 (by decide) ?_
              exact j_eq (lv2 := [(0, .ref s), (1, .int (nI t)), (2, .ref q.1), (3, .int (nI (i + 1)))]) (ws2 := [(s, .inr (4, [.int ((fS v t (i + 1) z).1), .int ((fS v t (i + 1) z).2.1), .int (nI ((fS v t (i + 1) z).2.2.1)), .int ((fS v t (i + 1) z).2.2.2.1), .int (nI ((fS v t (i + 1) z).2.2.2.2.1)), .int ((fS v t (i + 1) z).2.2.2.2.2.1), .ref s1, .ref s2, .ref s3, .ref s4])), (s1, .inl (gI g, 18, .inl ((fS v t (i + 1) z).2.2.2.2.2.2.1))), (s2, .inl (gI g, 14, .inl ((fS v t (i + 1) z).2.2.2.2.2.2.2.1))), (s3, .inl (gI g, 14, .inl ((fS v t (i + 1) z).2.2.2.2.2.2.2.2.1))), (s4, .inl (gI g, 14, .inl (oI ((fS v t (i + 1) z).2.2.2.2.2.2.2.2.2)))), (q.1, .inr (6, [.int v.1, .int (nI v.2.1), .ref q.2.1, .ref q.2.2.1, .ref q.2.2.2])), (q.2.1, .inl (gI g, 14, .inl v.2.2.1)), (q.2.2.1, .inl (gI g, 14, .inl v.2.2.2.1)), (q.2.2.2, .inl (gI g, 14, .inl v.2.2.2.2))]) (by first | rfl | (simp only [fS, c7_1, c7_1n, c7_1m, c16_2, c29_5, c29_5b, c54_6, reduceIte, pk_us]; first | done | rfl)) (by first | rfl | (simp only [fS, c7_1, c7_1n, c7_1m, c16_2, c29_5, c29_5b, c54_6, reduceIte, pk_us]; first | done | rfl)) (ih2 _ (by omega) (i + 1) (by omega) rfl)
            · skip
              refine j_aload_n (pc := 57) hX dX4_fillSetsWith_57 0 rfl ?_
              refine j_iload_n (pc := 58) hX dX4_fillSetsWith_58 3 rfl ?_
              refine j_aload_n (pc := 59) hX dX4_fillSetsWith_59 2 rfl ?_
              refine j_getN (ci := 6) (pc := 60) hX inG6 rfl 2 (by decide) mw51 5 rfl rfl dX4_fillSetsWith_60 ?_
              refine j_iload_n (pc := 63) hX dX4_fillSetsWith_63 3 rfl ?_
              refine j_iald (pc := 64) hX 6 rfl i rfl (by omega) (by omega) dX4_fillSetsWith_64 ?_
              refine j_callVV (n := 2) (As := [.int (nI i), .int (v.2.2.1 i)]) (rest := []) (pc := 65) hX (c_X4_becomeTight g s s1 s2 s3 s4 (fU (fS v t i z) i) i (v.2.2.1 i) (by first | assumption | omega) (ht5)) (CV.of mw324 mw325 mw5 mw18 mw326 ⟨rfl, by decide +kernel, by decide +kernel, by decide +kernel⟩ (T := TX4) (N := 10) rfl) (Nat.le_of_ble_eq_true rfl) (Nat.le_of_ble_eq_true rfl) (Nat.le_of_ble_eq_true rfl) (Nat.le_of_ble_eq_true rfl) 0 rfl [0, 1, 2, 3, 4] (by decide +kernel) rfl rfl rfl (Nat.le_of_ble_eq_true rfl) dX4_fillSetsWith_65 (fun wz wnz hq8 => ?_)
              obtain ⟨rfl, rfl⟩ := hq8
              refine j_ws (ws2 := [(s, .inr (4, [.int ((bT (fU (fS v t i z) i) i (v.2.2.1 i)).1), .int ((bT (fU (fS v t i z) i) i (v.2.2.1 i)).2.1), .int (nI ((bT (fU (fS v t i z) i) i (v.2.2.1 i)).2.2.1)), .int ((bT (fU (fS v t i z) i) i (v.2.2.1 i)).2.2.2.1), .int (nI ((bT (fU (fS v t i z) i) i (v.2.2.1 i)).2.2.2.2.1)), .int ((bT (fU (fS v t i z) i) i (v.2.2.1 i)).2.2.2.2.2.1), .ref s1, .ref s2, .ref s3, .ref s4])), (s1, .inl (gI g, 18, .inl ((bT (fU (fS v t i z) i) i (v.2.2.1 i)).2.2.2.2.2.2.1))), (s2, .inl (gI g, 14, .inl ((bT (fU (fS v t i z) i) i (v.2.2.1 i)).2.2.2.2.2.2.2.1))), (s3, .inl (gI g, 14, .inl ((bT (fU (fS v t i z) i) i (v.2.2.1 i)).2.2.2.2.2.2.2.2.1))), (s4, .inl (gI g, 14, .inl (oI ((bT (fU (fS v t i z) i) i (v.2.2.1 i)).2.2.2.2.2.2.2.2.2)))), (q.1, .inr (6, [.int v.1, .int (nI v.2.1), .ref q.2.1, .ref q.2.2.1, .ref q.2.2.2])), (q.2.1, .inl (gI g, 14, .inl v.2.2.1)), (q.2.2.1, .inl (gI g, 14, .inl v.2.2.2.1)), (q.2.2.2, .inl (gI g, 14, .inl v.2.2.2.2))]) rfl ?_
              refine j_iinc (v := nI (i + 1)) (lv2 := [(0, .ref s), (1, .int (nI t)), (2, .ref q.1), (3, .int (nI (i + 1)))]) (pc := 68) hX dX4_fillSetsWith_68 3 rfl (nI_add i 1) [1, 2, 3, 0] (by decide) rfl ?_
              refine j_goto (tgt := 2) (pc := 71) hX dX4_fillSetsWith_71 (by decide) ?_
              exact j_eq (lv2 := [(0, .ref s), (1, .int (nI t)), (2, .ref q.1), (3, .int (nI (i + 1)))]) (ws2 := [(s, .inr (4, [.int ((fS v t (i + 1) z).1), .int ((fS v t (i + 1) z).2.1), .int (nI ((fS v t (i + 1) z).2.2.1)), .int ((fS v t (i + 1) z).2.2.2.1), .int (nI ((fS v t (i + 1) z).2.2.2.2.1)), .int ((fS v t (i + 1) z).2.2.2.2.2.1), .ref s1, .ref s2, .ref s3, .ref s4])), (s1, .inl (gI g, 18, .inl ((fS v t (i + 1) z).2.2.2.2.2.2.1))), (s2, .inl (gI g, 14, .inl ((fS v t (i + 1) z).2.2.2.2.2.2.2.1))), (s3, .inl (gI g, 14, .inl ((fS v t (i + 1) z).2.2.2.2.2.2.2.2.1))), (s4, .inl (gI g, 14, .inl (oI ((fS v t (i + 1) z).2.2.2.2.2.2.2.2.2)))), (q.1, .inr (6, [.int v.1, .int (nI v.2.1), .ref q.2.1, .ref q.2.2.1, .ref q.2.2.2])), (q.2.1, .inl (gI g, 14, .inl v.2.2.1)), (q.2.2.1, .inl (gI g, 14, .inl v.2.2.2.1)), (q.2.2.2, .inl (gI g, 14, .inl v.2.2.2.2))]) (by first | rfl | (simp only [fS, c7_1, c7_1n, c7_1m, c16_2, c29_5, c29_5b, c54_6, reduceIte, pk_us]; first | done | rfl)) (by first | rfl | (simp only [fS, c7_1, c7_1n, c7_1m, c16_2, c29_5, c29_5b, c54_6, reduceIte, pk_us]; first | done | rfl)) (ih2 _ (by omega) (i + 1) (by omega) rfl)
  exact j_eq (lv2 := [(0, .ref s), (1, .int (nI t)), (2, .ref q.1), (3, .int (nI 0))]) (ws2 := [(s, .inr (4, [.int ((fS v t 0 z).1), .int ((fS v t 0 z).2.1), .int (nI ((fS v t 0 z).2.2.1)), .int ((fS v t 0 z).2.2.2.1), .int (nI ((fS v t 0 z).2.2.2.2.1)), .int ((fS v t 0 z).2.2.2.2.2.1), .ref s1, .ref s2, .ref s3, .ref s4])), (s1, .inl (gI g, 18, .inl ((fS v t 0 z).2.2.2.2.2.2.1))), (s2, .inl (gI g, 14, .inl ((fS v t 0 z).2.2.2.2.2.2.2.1))), (s3, .inl (gI g, 14, .inl ((fS v t 0 z).2.2.2.2.2.2.2.2.1))), (s4, .inl (gI g, 14, .inl (oI ((fS v t 0 z).2.2.2.2.2.2.2.2.2)))), (q.1, .inr (6, [.int v.1, .int (nI v.2.1), .ref q.2.1, .ref q.2.2.1, .ref q.2.2.2])), (q.2.1, .inl (gI g, 14, .inl v.2.2.1)), (q.2.2.1, .inl (gI g, 14, .inl v.2.2.2.1)), (q.2.2.2, .inl (gI g, 14, .inl v.2.2.2.2))]) (rfl) (rfl) (L2 _ 0 (by omega) rfl)

set_option maxHeartbeats 4000000 in
set_option maxRecDepth 100000 in
theorem c_X4_makeRound (g : jG) (s : Nat) (s1 : Nat) (s2 : Nat) (s3 : Nat) (s4 : Nat) (z : SHT) (q : adT) (v : StT) (hv : v.2.1 ≤ 14) (htc : z.2.2.2.2.1 ≤ 14) : jMV g yX4_makeRound cX4_makeRound 3 2 45 0 0 [.ref s, .ref q.1] [(s, .inr (4, [.int z.1, .int z.2.1, .int (nI z.2.2.1), .int z.2.2.2.1, .int (nI z.2.2.2.2.1), .int z.2.2.2.2.2.1, .ref s1, .ref s2, .ref s3, .ref s4])), (s1, .inl (gI g, 18, .inl z.2.2.2.2.2.2.1)), (s2, .inl (gI g, 14, .inl z.2.2.2.2.2.2.2.1)), (s3, .inl (gI g, 14, .inl z.2.2.2.2.2.2.2.2.1)), (s4, .inl (gI g, 14, .inl (oI z.2.2.2.2.2.2.2.2.2))), (q.1, .inr (6, [.int v.1, .int (nI v.2.1), .ref q.2.1, .ref q.2.2.1, .ref q.2.2.2])), (q.2.1, .inl (gI g, 14, .inl v.2.2.1)), (q.2.2.1, .inl (gI g, 14, .inl v.2.2.2.1)), (q.2.2.2, .inl (gI g, 14, .inl v.2.2.2.2))] (fun wz wzn => wz = [(s, .inr (4, [.int ((mR v 18 (rdU z)).1), .int ((mR v 18 (rdU z)).2.1), .int (nI ((mR v 18 (rdU z)).2.2.1)), .int ((mR v 18 (rdU z)).2.2.2.1), .int (nI ((mR v 18 (rdU z)).2.2.2.2.1)), .int ((mR v 18 (rdU z)).2.2.2.2.2.1), .ref s1, .ref s2, .ref s3, .ref s4])), (s1, .inl (gI g, 18, .inl ((mR v 18 (rdU z)).2.2.2.2.2.2.1))), (s2, .inl (gI g, 14, .inl ((mR v 18 (rdU z)).2.2.2.2.2.2.2.1))), (s3, .inl (gI g, 14, .inl ((mR v 18 (rdU z)).2.2.2.2.2.2.2.2.1))), (s4, .inl (gI g, 14, .inl (oI ((mR v 18 (rdU z)).2.2.2.2.2.2.2.2.2)))), (q.1, .inr (6, [.int v.1, .int (nI v.2.1), .ref q.2.1, .ref q.2.2.1, .ref q.2.2.2])), (q.2.1, .inl (gI g, 14, .inl v.2.2.1)), (q.2.2.1, .inl (gI g, 14, .inl v.2.2.2.1)), (q.2.2.2, .inl (gI g, 14, .inl v.2.2.2.2))] ∧ wzn = []) := by
  refine jMV.intro (by decide +kernel) (Nat.le_of_ble_eq_true rfl) (fun x hX hQ hN => ?_)
  refine j_lv (lv2 := [(0, .ref s), (1, .ref q.1)]) rfl ?_
  refine j_aload_n (pc := 0) hX dX4_makeRound_0 0 rfl ?_
  refine j_dup (pc := 1) hX dX4_makeRound_1 rfl ?_
  refine j_get (ci := 4) (pc := 2) hX inG4 rfl 2 (by decide) mw127 0 rfl rfl dX4_makeRound_2 ?_
  refine j_iconst (v := 1) (pc := 5) hX dX4_makeRound_5 (by decide) ?_
  refine j_iadd (pc := 6) hX dX4_makeRound_6 ?_
  refine j_top (b := nI (z.2.2.1 + 1)) (nI_add z.2.2.1 1) ?_
  refine j_put (ci := 4) (ty := .int) (pc := 7) hX inG4 tyX4 tyX4_ok nmG4 rfl 2 (by decide) mw127 rfl (by decide +kernel) 0 rfl (Nat.le_of_ble_eq_true rfl) (rfl) rfl dX4_makeRound_7 ?_
  refine j_ws (ws2 := [(s, .inr (4, [.int z.1, .int z.2.1, .int (nI (z.2.2.1 + 1)), .int z.2.2.2.1, .int (nI z.2.2.2.2.1), .int z.2.2.2.2.2.1, .ref s1, .ref s2, .ref s3, .ref s4])), (s1, .inl (gI g, 18, .inl z.2.2.2.2.2.2.1)), (s2, .inl (gI g, 14, .inl z.2.2.2.2.2.2.2.1)), (s3, .inl (gI g, 14, .inl z.2.2.2.2.2.2.2.2.1)), (s4, .inl (gI g, 14, .inl (oI z.2.2.2.2.2.2.2.2.2))), (q.1, .inr (6, [.int v.1, .int (nI v.2.1), .ref q.2.1, .ref q.2.2.1, .ref q.2.2.2])), (q.2.1, .inl (gI g, 14, .inl v.2.2.1)), (q.2.2.1, .inl (gI g, 14, .inl v.2.2.2.1)), (q.2.2.2, .inl (gI g, 14, .inl v.2.2.2.2))]) rfl ?_
  refine j_iconst (v := 0) (pc := 10) hX dX4_makeRound_10 (by decide) ?_
  refine j_istore_n (lv2 := [(0, .ref s), (1, .ref q.1), (2, .int 0)]) (pc := 11) hX dX4_makeRound_11 [1, 2, 0] (by decide) rfl ?_
  have L12 : ∀ (d : Nat) (t : Nat), t ≤ 18 → 18 - t = d → J g x 3 0 0 12 [(0, .ref s), (1, .ref q.1), (2, .int (nI t))] [] [(s, .inr (4, [.int ((mR v t (rdU z)).1), .int ((mR v t (rdU z)).2.1), .int (nI ((mR v t (rdU z)).2.2.1)), .int ((mR v t (rdU z)).2.2.2.1), .int (nI ((mR v t (rdU z)).2.2.2.2.1)), .int ((mR v t (rdU z)).2.2.2.2.2.1), .ref s1, .ref s2, .ref s3, .ref s4])), (s1, .inl (gI g, 18, .inl ((mR v t (rdU z)).2.2.2.2.2.2.1))), (s2, .inl (gI g, 14, .inl ((mR v t (rdU z)).2.2.2.2.2.2.2.1))), (s3, .inl (gI g, 14, .inl ((mR v t (rdU z)).2.2.2.2.2.2.2.2.1))), (s4, .inl (gI g, 14, .inl (oI ((mR v t (rdU z)).2.2.2.2.2.2.2.2.2)))), (q.1, .inr (6, [.int v.1, .int (nI v.2.1), .ref q.2.1, .ref q.2.2.1, .ref q.2.2.2])), (q.2.1, .inl (gI g, 14, .inl v.2.2.1)), (q.2.2.1, .inl (gI g, 14, .inl v.2.2.2.1)), (q.2.2.2, .inl (gI g, 14, .inl v.2.2.2.2))] := by
    intro d
    induction d using Nat.strongRecOn with
    | _ d ih12 =>
      intro t ht hd12
      refine j_iload_n (pc := 12) hX dX4_makeRound_12 2 rfl ?_
      refine j_bipush (v := 18) (pc := 13) hX dX4_makeRound_13 (by decide) ?_
      refine j_icmp_ge (tgt := 58) (pc := 15) hX dX4_makeRound_15 (by decide) (fun c15_1 => ?_) (fun c15_1 => ?_)
      · skip
        have c15_1n : 18 ≤ t := (nI_leI (a := 18) (b := t) (by omega) (by omega)).mp c15_1
        have c15_1m : ¬ t < 18 := by omega
        exact j_vret (pc := 58) hX hQ dX4_makeRound_58 [(s, .inr (4, [.int ((mR v t (rdU z)).1), .int ((mR v t (rdU z)).2.1), .int (nI ((mR v t (rdU z)).2.2.1)), .int ((mR v t (rdU z)).2.2.2.1), .int (nI ((mR v t (rdU z)).2.2.2.2.1)), .int ((mR v t (rdU z)).2.2.2.2.2.1), .ref s1, .ref s2, .ref s3, .ref s4])), (s1, .inl (gI g, 18, .inl ((mR v t (rdU z)).2.2.2.2.2.2.1))), (s2, .inl (gI g, 14, .inl ((mR v t (rdU z)).2.2.2.2.2.2.2.1))), (s3, .inl (gI g, 14, .inl ((mR v t (rdU z)).2.2.2.2.2.2.2.2.1))), (s4, .inl (gI g, 14, .inl (oI ((mR v t (rdU z)).2.2.2.2.2.2.2.2.2)))), (q.1, .inr (6, [.int v.1, .int (nI v.2.1), .ref q.2.1, .ref q.2.2.1, .ref q.2.2.2])), (q.2.1, .inl (gI g, 14, .inl v.2.2.1)), (q.2.2.1, .inl (gI g, 14, .inl v.2.2.2.1)), (q.2.2.2, .inl (gI g, 14, .inl v.2.2.2.2))] [] rfl rfl ⟨(by rw [show t = 18 by omega]), (rfl)⟩
      · skip
        have c15_1n : ¬ 18 ≤ t := fun h9 => c15_1 ((nI_leI (a := 18) (b := t) (by omega) (by omega)).mpr h9)
        have c15_1m : t < 18 := by omega
        have ht5 := mR_tc v t (rdU z) htc
        refine j_aload_n (pc := 18) hX dX4_makeRound_18 0 rfl ?_
        refine j_get (ci := 4) (pc := 19) hX inG4 rfl 0 (by decide) mw125 0 rfl rfl dX4_makeRound_19 ?_
        refine j_aload_n (pc := 22) hX dX4_makeRound_22 0 rfl ?_
        refine j_get (ci := 4) (pc := 23) hX inG4 rfl 1 (by decide) mw126 0 rfl rfl dX4_makeRound_23 ?_
        refine j_iconst (v := (-1)) (pc := 26) hX dX4_makeRound_26 (by decide) ?_
        refine j_ixor (pc := 27) hX dX4_makeRound_27 ?_
        refine j_iand (pc := 28) hX dX4_makeRound_28 ?_
        refine j_top (b := lf (mR v t (rdU z))) (rfl) ?_
        refine j_iload_n (pc := 29) hX dX4_makeRound_29 2 rfl ?_
        refine j_callSNI (n := 2) (As := [.int (lf (mR v t (rdU z))), .int (nI t)]) (rest := []) (pc := 30) hX (c_X8_has g (lf (mR v t (rdU z))) t (by first | assumption | omega)) ⟨⟨_, mw320⟩, mw272, mw13, mw273, ⟨by decide +kernel, by decide +kernel, by decide +kernel⟩⟩ (Nat.le_of_ble_eq_true rfl) (Nat.le_of_ble_eq_true rfl) (Nat.le_of_ble_eq_true rfl) (Nat.le_of_ble_eq_true rfl) [] (by decide +kernel) rfl rfl rfl (Nat.le_of_ble_eq_true rfl) dX4_makeRound_30 (fun r2 wz hq3 => ?_)
        obtain ⟨rfl, rfl⟩ := hq3
        refine j_ws (ws2 := [(s, .inr (4, [.int ((mR v t (rdU z)).1), .int ((mR v t (rdU z)).2.1), .int (nI ((mR v t (rdU z)).2.2.1)), .int ((mR v t (rdU z)).2.2.2.1), .int (nI ((mR v t (rdU z)).2.2.2.2.1)), .int ((mR v t (rdU z)).2.2.2.2.2.1), .ref s1, .ref s2, .ref s3, .ref s4])), (s1, .inl (gI g, 18, .inl ((mR v t (rdU z)).2.2.2.2.2.2.1))), (s2, .inl (gI g, 14, .inl ((mR v t (rdU z)).2.2.2.2.2.2.2.1))), (s3, .inl (gI g, 14, .inl ((mR v t (rdU z)).2.2.2.2.2.2.2.2.1))), (s4, .inl (gI g, 14, .inl (oI ((mR v t (rdU z)).2.2.2.2.2.2.2.2.2)))), (q.1, .inr (6, [.int v.1, .int (nI v.2.1), .ref q.2.1, .ref q.2.2.1, .ref q.2.2.2])), (q.2.1, .inl (gI g, 14, .inl v.2.2.1)), (q.2.2.1, .inl (gI g, 14, .inl v.2.2.2.1)), (q.2.2.2, .inl (gI g, 14, .inl v.2.2.2.2))]) rfl ?_
        refine j_if_eq (tgt := 52) (pc := 33) hX dX4_makeRound_33 (by decide) (fun c33_4 => ?_) (fun c33_4 => ?_)
        · skip
          have c33_4b : (bt (lf (mR v t (rdU z))) t) = false := jb_0.mp c33_4
          refine j_iinc (v := nI (t + 1)) (lv2 := [(0, .ref s), (1, .ref q.1), (2, .int (nI (t + 1)))]) (pc := 52) hX dX4_makeRound_52 2 rfl (nI_add t 1) [1, 2, 0] (by decide) rfl ?_
          refine j_goto (tgt := 12) (pc := 55) hX dX4_makeRound_55 (by decide) ?_
          exact j_eq (lv2 := [(0, .ref s), (1, .ref q.1), (2, .int (nI (t + 1)))]) (ws2 := [(s, .inr (4, [.int ((mR v (t + 1) (rdU z)).1), .int ((mR v (t + 1) (rdU z)).2.1), .int (nI ((mR v (t + 1) (rdU z)).2.2.1)), .int ((mR v (t + 1) (rdU z)).2.2.2.1), .int (nI ((mR v (t + 1) (rdU z)).2.2.2.2.1)), .int ((mR v (t + 1) (rdU z)).2.2.2.2.2.1), .ref s1, .ref s2, .ref s3, .ref s4])), (s1, .inl (gI g, 18, .inl ((mR v (t + 1) (rdU z)).2.2.2.2.2.2.1))), (s2, .inl (gI g, 14, .inl ((mR v (t + 1) (rdU z)).2.2.2.2.2.2.2.1))), (s3, .inl (gI g, 14, .inl ((mR v (t + 1) (rdU z)).2.2.2.2.2.2.2.2.1))), (s4, .inl (gI g, 14, .inl (oI ((mR v (t + 1) (rdU z)).2.2.2.2.2.2.2.2.2)))), (q.1, .inr (6, [.int v.1, .int (nI v.2.1), .ref q.2.1, .ref q.2.2.1, .ref q.2.2.2])), (q.2.1, .inl (gI g, 14, .inl v.2.2.1)), (q.2.2.1, .inl (gI g, 14, .inl v.2.2.2.1)), (q.2.2.2, .inl (gI g, 14, .inl v.2.2.2.2))]) (by first | rfl | (simp only [mR, c15_1, c15_1n, c15_1m, c33_4, c33_4b, reduceIte]; first | done | rfl)) (by first | rfl | (simp only [mR, c15_1, c15_1n, c15_1m, c33_4, c33_4b, reduceIte]; first | done | rfl)) (ih12 _ (by omega) (t + 1) (by omega) rfl)
        · skip
          have c33_4b : (bt (lf (mR v t (rdU z))) t) = true := jb_1.mp c33_4
          refine j_aload_n (pc := 36) hX dX4_makeRound_36 0 rfl ?_
          refine j_get (ci := 4) (pc := 37) hX inG4 rfl 6 (by decide) mw135 0 rfl rfl dX4_makeRound_37 ?_
          refine j_iload_n (pc := 40) hX dX4_makeRound_40 2 rfl ?_
          refine j_dup2 (pc := 41) hX dX4_makeRound_41 rfl rfl ?_
          refine j_iald (pc := 42) hX 1 rfl t rfl (by omega) (by omega) dX4_makeRound_42 ?_
          refine j_iconst (v := 1) (pc := 43) hX dX4_makeRound_43 (by decide) ?_
          refine j_iadd (pc := 44) hX dX4_makeRound_44 ?_
          refine j_iast (pc := 45) hX 1 rfl t rfl (by omega) (by omega) dX4_makeRound_45 ?_
          refine j_ws (ws2 := [(s, .inr (4, [.int ((mR v t (rdU z)).1), .int ((mR v t (rdU z)).2.1), .int (nI ((mR v t (rdU z)).2.2.1)), .int ((mR v t (rdU z)).2.2.2.1), .int (nI ((mR v t (rdU z)).2.2.2.2.1)), .int ((mR v t (rdU z)).2.2.2.2.2.1), .ref s1, .ref s2, .ref s3, .ref s4])), (s1, .inl (gI g, 18, .inl (upd ((mR v t (rdU z)).2.2.2.2.2.2.1) t ((((mR v t (rdU z)).2.2.2.2.2.2.1) t) + 1)))), (s2, .inl (gI g, 14, .inl ((mR v t (rdU z)).2.2.2.2.2.2.2.1))), (s3, .inl (gI g, 14, .inl ((mR v t (rdU z)).2.2.2.2.2.2.2.2.1))), (s4, .inl (gI g, 14, .inl (oI ((mR v t (rdU z)).2.2.2.2.2.2.2.2.2)))), (q.1, .inr (6, [.int v.1, .int (nI v.2.1), .ref q.2.1, .ref q.2.2.1, .ref q.2.2.2])), (q.2.1, .inl (gI g, 14, .inl v.2.2.1)), (q.2.2.1, .inl (gI g, 14, .inl v.2.2.2.1)), (q.2.2.2, .inl (gI g, 14, .inl v.2.2.2.2))]) rfl ?_
          refine j_aload_n (pc := 46) hX dX4_makeRound_46 0 rfl ?_
          refine j_iload_n (pc := 47) hX dX4_makeRound_47 2 rfl ?_
          refine j_aload_n (pc := 48) hX dX4_makeRound_48 1 rfl ?_
          refine j_callVV (n := 2) (As := [.int (nI t), .ref q.1]) (rest := []) (pc := 49) hX (c_X4_fill g s s1 s2 s3 s4 (rU (mR v t (rdU z)) t) t q v (by first | assumption | omega) (by first | assumption | omega) (ht5)) (CV.of mw321 mw322 mw4 mw18 mw323 ⟨rfl, by decide +kernel, by decide +kernel, by decide +kernel⟩ (T := TX4) (N := 10) rfl) (Nat.le_of_ble_eq_true rfl) (Nat.le_of_ble_eq_true rfl) (Nat.le_of_ble_eq_true rfl) (Nat.le_of_ble_eq_true rfl) 0 rfl [0, 1, 2, 3, 4, 5, 6, 7, 8] (by decide +kernel) rfl rfl rfl (Nat.le_of_ble_eq_true rfl) dX4_makeRound_49 (fun wz wnz hq6 => ?_)
          obtain ⟨rfl, rfl⟩ := hq6
          refine j_ws (ws2 := [(s, .inr (4, [.int ((fS v t v.2.1 (rU (mR v t (rdU z)) t)).1), .int ((fS v t v.2.1 (rU (mR v t (rdU z)) t)).2.1), .int (nI ((fS v t v.2.1 (rU (mR v t (rdU z)) t)).2.2.1)), .int ((fS v t v.2.1 (rU (mR v t (rdU z)) t)).2.2.2.1), .int (nI ((fS v t v.2.1 (rU (mR v t (rdU z)) t)).2.2.2.2.1)), .int ((fS v t v.2.1 (rU (mR v t (rdU z)) t)).2.2.2.2.2.1), .ref s1, .ref s2, .ref s3, .ref s4])), (s1, .inl (gI g, 18, .inl ((fS v t v.2.1 (rU (mR v t (rdU z)) t)).2.2.2.2.2.2.1))), (s2, .inl (gI g, 14, .inl ((fS v t v.2.1 (rU (mR v t (rdU z)) t)).2.2.2.2.2.2.2.1))), (s3, .inl (gI g, 14, .inl ((fS v t v.2.1 (rU (mR v t (rdU z)) t)).2.2.2.2.2.2.2.2.1))), (s4, .inl (gI g, 14, .inl (oI ((fS v t v.2.1 (rU (mR v t (rdU z)) t)).2.2.2.2.2.2.2.2.2)))), (q.1, .inr (6, [.int v.1, .int (nI v.2.1), .ref q.2.1, .ref q.2.2.1, .ref q.2.2.2])), (q.2.1, .inl (gI g, 14, .inl v.2.2.1)), (q.2.2.1, .inl (gI g, 14, .inl v.2.2.2.1)), (q.2.2.2, .inl (gI g, 14, .inl v.2.2.2.2))]) rfl ?_
          refine j_iinc (v := nI (t + 1)) (lv2 := [(0, .ref s), (1, .ref q.1), (2, .int (nI (t + 1)))]) (pc := 52) hX dX4_makeRound_52 2 rfl (nI_add t 1) [1, 2, 0] (by decide) rfl ?_
          refine j_goto (tgt := 12) (pc := 55) hX dX4_makeRound_55 (by decide) ?_
          exact j_eq (lv2 := [(0, .ref s), (1, .ref q.1), (2, .int (nI (t + 1)))]) (ws2 := [(s, .inr (4, [.int ((mR v (t + 1) (rdU z)).1), .int ((mR v (t + 1) (rdU z)).2.1), .int (nI ((mR v (t + 1) (rdU z)).2.2.1)), .int ((mR v (t + 1) (rdU z)).2.2.2.1), .int (nI ((mR v (t + 1) (rdU z)).2.2.2.2.1)), .int ((mR v (t + 1) (rdU z)).2.2.2.2.2.1), .ref s1, .ref s2, .ref s3, .ref s4])), (s1, .inl (gI g, 18, .inl ((mR v (t + 1) (rdU z)).2.2.2.2.2.2.1))), (s2, .inl (gI g, 14, .inl ((mR v (t + 1) (rdU z)).2.2.2.2.2.2.2.1))), (s3, .inl (gI g, 14, .inl ((mR v (t + 1) (rdU z)).2.2.2.2.2.2.2.2.1))), (s4, .inl (gI g, 14, .inl (oI ((mR v (t + 1) (rdU z)).2.2.2.2.2.2.2.2.2)))), (q.1, .inr (6, [.int v.1, .int (nI v.2.1), .ref q.2.1, .ref q.2.2.1, .ref q.2.2.2])), (q.2.1, .inl (gI g, 14, .inl v.2.2.1)), (q.2.2.1, .inl (gI g, 14, .inl v.2.2.2.1)), (q.2.2.2, .inl (gI g, 14, .inl v.2.2.2.2))]) (by first | rfl | (simp only [mR, c15_1, c15_1n, c15_1m, c33_4, c33_4b, reduceIte]; first | done | rfl)) (by first | rfl | (simp only [mR, c15_1, c15_1n, c15_1m, c33_4, c33_4b, reduceIte]; first | done | rfl)) (ih12 _ (by omega) (t + 1) (by omega) rfl)
  exact j_eq (lv2 := [(0, .ref s), (1, .ref q.1), (2, .int (nI 0))]) (ws2 := [(s, .inr (4, [.int ((mR v 0 (rdU z)).1), .int ((mR v 0 (rdU z)).2.1), .int (nI ((mR v 0 (rdU z)).2.2.1)), .int ((mR v 0 (rdU z)).2.2.2.1), .int (nI ((mR v 0 (rdU z)).2.2.2.2.1)), .int ((mR v 0 (rdU z)).2.2.2.2.2.1), .ref s1, .ref s2, .ref s3, .ref s4])), (s1, .inl (gI g, 18, .inl ((mR v 0 (rdU z)).2.2.2.2.2.2.1))), (s2, .inl (gI g, 14, .inl ((mR v 0 (rdU z)).2.2.2.2.2.2.2.1))), (s3, .inl (gI g, 14, .inl ((mR v 0 (rdU z)).2.2.2.2.2.2.2.2.1))), (s4, .inl (gI g, 14, .inl (oI ((mR v 0 (rdU z)).2.2.2.2.2.2.2.2.2)))), (q.1, .inr (6, [.int v.1, .int (nI v.2.1), .ref q.2.1, .ref q.2.2.1, .ref q.2.2.2])), (q.2.1, .inl (gI g, 14, .inl v.2.2.1)), (q.2.2.1, .inl (gI g, 14, .inl v.2.2.2.1)), (q.2.2.2, .inl (gI g, 14, .inl v.2.2.2.2))]) (rfl) (rfl) (L12 _ 0 (by omega) rfl)

set_option maxHeartbeats 4000000 in
set_option maxRecDepth 100000 in
theorem c_X4_begin (g : jG) (s : Nat) (s1 : Nat) (s2 : Nat) (s3 : Nat) (s4 : Nat) (z : SHT) (q : adT) (v : StT) (hv : v.2.1 ≤ 14) : jMV g yX4_begin cX4_begin 2 3 65 0 0 [.ref s, .ref q.1] [(s, .inr (4, [.int z.1, .int z.2.1, .int (nI z.2.2.1), .int z.2.2.2.1, .int (nI z.2.2.2.2.1), .int z.2.2.2.2.2.1, .ref s1, .ref s2, .ref s3, .ref s4])), (s1, .inl (gI g, 18, .inl z.2.2.2.2.2.2.1)), (s2, .inl (gI g, 14, .inl z.2.2.2.2.2.2.2.1)), (s3, .inl (gI g, 14, .inl z.2.2.2.2.2.2.2.2.1)), (s4, .inl (gI g, 14, .inl (oI z.2.2.2.2.2.2.2.2.2))), (q.1, .inr (6, [.int v.1, .int (nI v.2.1), .ref q.2.1, .ref q.2.2.1, .ref q.2.2.2])), (q.2.1, .inl (gI g, 14, .inl v.2.2.1)), (q.2.2.1, .inl (gI g, 14, .inl v.2.2.2.1)), (q.2.2.2, .inl (gI g, 14, .inl v.2.2.2.2))] (fun wz wzn => wz = [(s, .inr (4, [.int ((bG v z).1), .int ((bG v z).2.1), .int (nI ((bG v z).2.2.1)), .int ((bG v z).2.2.2.1), .int (nI ((bG v z).2.2.2.2.1)), .int ((bG v z).2.2.2.2.2.1), .ref s1, .ref s2, .ref s3, .ref s4])), (s1, .inl (gI g, 18, .inl ((bG v z).2.2.2.2.2.2.1))), (s2, .inl (gI g, 14, .inl ((bG v z).2.2.2.2.2.2.2.1))), (s3, .inl (gI g, 14, .inl ((bG v z).2.2.2.2.2.2.2.2.1))), (s4, .inl (gI g, 14, .inl (oI ((bG v z).2.2.2.2.2.2.2.2.2)))), (q.1, .inr (6, [.int v.1, .int (nI v.2.1), .ref q.2.1, .ref q.2.2.1, .ref q.2.2.2])), (q.2.1, .inl (gI g, 14, .inl v.2.2.1)), (q.2.2.1, .inl (gI g, 14, .inl v.2.2.2.1)), (q.2.2.2, .inl (gI g, 14, .inl v.2.2.2.2))] ∧ wzn = []) := by
  refine jMV.intro (by decide +kernel) (Nat.le_of_ble_eq_true rfl) (fun x hX hQ hN => ?_)
  refine j_lv (lv2 := [(0, .ref s), (1, .ref q.1)]) rfl ?_
  refine j_aload_n (pc := 0) hX dX4_begin_0 0 rfl ?_
  refine j_aload_n (pc := 1) hX dX4_begin_1 1 rfl ?_
  refine j_aload_n (pc := 2) hX dX4_begin_2 1 rfl ?_
  refine j_iconst (v := 1) (pc := 3) hX dX4_begin_3 (by decide) ?_
  refine j_callVI (n := 1) (As := [.int 1]) (rest := [.ref q.1, .ref s]) (pc := 4) hX (c_X6_marked g q.1 q.2.1 q.2.2.1 q.2.2.2 v.1 v.2.1 v.2.2.1 v.2.2.2.1 v.2.2.2.2 1 (by first | assumption | omega)) (CV.of mw312 mw260 mw261 mw14 mw262 ⟨rfl, by decide +kernel, by decide +kernel, by decide +kernel⟩ (T := TX6) (N := 5) rfl) (Nat.le_of_ble_eq_true rfl) (Nat.le_of_ble_eq_true rfl) (Nat.le_of_ble_eq_true rfl) (Nat.le_of_ble_eq_true rfl) 5 rfl [5, 6, 7, 8] (by decide +kernel) rfl rfl rfl (Nat.le_of_ble_eq_true rfl) dX4_begin_4 (fun r1 wz hq2 => ?_)
  obtain ⟨rfl, rfl⟩ := hq2
  refine j_ws (ws2 := [(s, .inr (4, [.int z.1, .int z.2.1, .int (nI z.2.2.1), .int z.2.2.2.1, .int (nI z.2.2.2.2.1), .int z.2.2.2.2.2.1, .ref s1, .ref s2, .ref s3, .ref s4])), (s1, .inl (gI g, 18, .inl z.2.2.2.2.2.2.1)), (s2, .inl (gI g, 14, .inl z.2.2.2.2.2.2.2.1)), (s3, .inl (gI g, 14, .inl z.2.2.2.2.2.2.2.2.1)), (s4, .inl (gI g, 14, .inl (oI z.2.2.2.2.2.2.2.2.2))), (q.1, .inr (6, [.int v.1, .int (nI v.2.1), .ref q.2.1, .ref q.2.2.1, .ref q.2.2.2])), (q.2.1, .inl (gI g, 14, .inl v.2.2.1)), (q.2.2.1, .inl (gI g, 14, .inl v.2.2.2.1)), (q.2.2.2, .inl (gI g, 14, .inl v.2.2.2.2))]) rfl ?_
  refine j_callVI (n := 1) (As := [.int (S_mk v.2.2.2.2 1 v.2.1)]) (rest := [.ref s]) (pc := 7) hX (c_X6_missingIn g q.1 q.2.1 q.2.2.1 q.2.2.2 v.1 v.2.1 v.2.2.1 v.2.2.2.1 v.2.2.2.2 (S_mk v.2.2.2.2 1 v.2.1) (by first | assumption | omega)) (CV.of mw313 mw264 mw265 mw14 mw266 ⟨rfl, by decide +kernel, by decide +kernel, by decide +kernel⟩ (T := TX6) (N := 5) rfl) (Nat.le_of_ble_eq_true rfl) (Nat.le_of_ble_eq_true rfl) (Nat.le_of_ble_eq_true rfl) (Nat.le_of_ble_eq_true rfl) 5 rfl [5, 6, 7, 8] (by decide +kernel) rfl rfl rfl (Nat.le_of_ble_eq_true rfl) dX4_begin_7 (fun r3 wz hq4 => ?_)
  obtain ⟨rfl, rfl⟩ := hq4
  refine j_ws (ws2 := [(s, .inr (4, [.int z.1, .int z.2.1, .int (nI z.2.2.1), .int z.2.2.2.1, .int (nI z.2.2.2.2.1), .int z.2.2.2.2.2.1, .ref s1, .ref s2, .ref s3, .ref s4])), (s1, .inl (gI g, 18, .inl z.2.2.2.2.2.2.1)), (s2, .inl (gI g, 14, .inl z.2.2.2.2.2.2.2.1)), (s3, .inl (gI g, 14, .inl z.2.2.2.2.2.2.2.2.1)), (s4, .inl (gI g, 14, .inl (oI z.2.2.2.2.2.2.2.2.2))), (q.1, .inr (6, [.int v.1, .int (nI v.2.1), .ref q.2.1, .ref q.2.2.1, .ref q.2.2.2])), (q.2.1, .inl (gI g, 14, .inl v.2.2.1)), (q.2.2.1, .inl (gI g, 14, .inl v.2.2.2.1)), (q.2.2.2, .inl (gI g, 14, .inl v.2.2.2.2))]) rfl ?_
  refine j_put (ci := 4) (ty := .int) (pc := 10) hX inG4 tyX4 tyX4_ok nmG4 rfl 0 (by decide) mw125 rfl (by decide +kernel) 0 rfl (Nat.le_of_ble_eq_true rfl) (rfl) rfl dX4_begin_10 ?_
  refine j_ws (ws2 := [(s, .inr (4, [.int (S_miss v.2.2.1 v.1 v.2.1 (S_mk v.2.2.2.2 1 v.2.1)), .int z.2.1, .int (nI z.2.2.1), .int z.2.2.2.1, .int (nI z.2.2.2.2.1), .int z.2.2.2.2.2.1, .ref s1, .ref s2, .ref s3, .ref s4])), (s1, .inl (gI g, 18, .inl z.2.2.2.2.2.2.1)), (s2, .inl (gI g, 14, .inl z.2.2.2.2.2.2.2.1)), (s3, .inl (gI g, 14, .inl z.2.2.2.2.2.2.2.2.1)), (s4, .inl (gI g, 14, .inl (oI z.2.2.2.2.2.2.2.2.2))), (q.1, .inr (6, [.int v.1, .int (nI v.2.1), .ref q.2.1, .ref q.2.2.1, .ref q.2.2.2])), (q.2.1, .inl (gI g, 14, .inl v.2.2.1)), (q.2.2.1, .inl (gI g, 14, .inl v.2.2.2.1)), (q.2.2.2, .inl (gI g, 14, .inl v.2.2.2.2))]) rfl ?_
  refine j_aload_n (pc := 13) hX dX4_begin_13 0 rfl ?_
  refine j_iconst (v := 0) (pc := 14) hX dX4_begin_14 (by decide) ?_
  refine j_put (ci := 4) (ty := .int) (pc := 15) hX inG4 tyX4 tyX4_ok nmG4 rfl 1 (by decide) mw126 rfl (by decide +kernel) 0 rfl (Nat.le_of_ble_eq_true rfl) (rfl) rfl dX4_begin_15 ?_
  refine j_ws (ws2 := [(s, .inr (4, [.int (S_miss v.2.2.1 v.1 v.2.1 (S_mk v.2.2.2.2 1 v.2.1)), .int 0, .int (nI z.2.2.1), .int z.2.2.2.1, .int (nI z.2.2.2.2.1), .int z.2.2.2.2.2.1, .ref s1, .ref s2, .ref s3, .ref s4])), (s1, .inl (gI g, 18, .inl z.2.2.2.2.2.2.1)), (s2, .inl (gI g, 14, .inl z.2.2.2.2.2.2.2.1)), (s3, .inl (gI g, 14, .inl z.2.2.2.2.2.2.2.2.1)), (s4, .inl (gI g, 14, .inl (oI z.2.2.2.2.2.2.2.2.2))), (q.1, .inr (6, [.int v.1, .int (nI v.2.1), .ref q.2.1, .ref q.2.2.1, .ref q.2.2.2])), (q.2.1, .inl (gI g, 14, .inl v.2.2.1)), (q.2.2.1, .inl (gI g, 14, .inl v.2.2.2.1)), (q.2.2.2, .inl (gI g, 14, .inl v.2.2.2.2))]) rfl ?_
  refine j_aload_n (pc := 18) hX dX4_begin_18 0 rfl ?_
  refine j_iconst (v := 0) (pc := 19) hX dX4_begin_19 (by decide) ?_
  refine j_put (ci := 4) (ty := .int) (pc := 20) hX inG4 tyX4 tyX4_ok nmG4 rfl 2 (by decide) mw127 rfl (by decide +kernel) 0 rfl (Nat.le_of_ble_eq_true rfl) (rfl) rfl dX4_begin_20 ?_
  refine j_ws (ws2 := [(s, .inr (4, [.int (S_miss v.2.2.1 v.1 v.2.1 (S_mk v.2.2.2.2 1 v.2.1)), .int 0, .int 0, .int z.2.2.2.1, .int (nI z.2.2.2.2.1), .int z.2.2.2.2.2.1, .ref s1, .ref s2, .ref s3, .ref s4])), (s1, .inl (gI g, 18, .inl z.2.2.2.2.2.2.1)), (s2, .inl (gI g, 14, .inl z.2.2.2.2.2.2.2.1)), (s3, .inl (gI g, 14, .inl z.2.2.2.2.2.2.2.2.1)), (s4, .inl (gI g, 14, .inl (oI z.2.2.2.2.2.2.2.2.2))), (q.1, .inr (6, [.int v.1, .int (nI v.2.1), .ref q.2.1, .ref q.2.2.1, .ref q.2.2.2])), (q.2.1, .inl (gI g, 14, .inl v.2.2.1)), (q.2.2.1, .inl (gI g, 14, .inl v.2.2.2.1)), (q.2.2.2, .inl (gI g, 14, .inl v.2.2.2.2))]) rfl ?_
  refine j_aload_n (pc := 23) hX dX4_begin_23 0 rfl ?_
  refine j_iconst (v := 0) (pc := 24) hX dX4_begin_24 (by decide) ?_
  refine j_put (ci := 4) (ty := .int) (pc := 25) hX inG4 tyX4 tyX4_ok nmG4 rfl 3 (by decide) mw129 rfl (by decide +kernel) 0 rfl (Nat.le_of_ble_eq_true rfl) (rfl) rfl dX4_begin_25 ?_
  refine j_ws (ws2 := [(s, .inr (4, [.int (S_miss v.2.2.1 v.1 v.2.1 (S_mk v.2.2.2.2 1 v.2.1)), .int 0, .int 0, .int 0, .int (nI z.2.2.2.2.1), .int z.2.2.2.2.2.1, .ref s1, .ref s2, .ref s3, .ref s4])), (s1, .inl (gI g, 18, .inl z.2.2.2.2.2.2.1)), (s2, .inl (gI g, 14, .inl z.2.2.2.2.2.2.2.1)), (s3, .inl (gI g, 14, .inl z.2.2.2.2.2.2.2.2.1)), (s4, .inl (gI g, 14, .inl (oI z.2.2.2.2.2.2.2.2.2))), (q.1, .inr (6, [.int v.1, .int (nI v.2.1), .ref q.2.1, .ref q.2.2.1, .ref q.2.2.2])), (q.2.1, .inl (gI g, 14, .inl v.2.2.1)), (q.2.2.1, .inl (gI g, 14, .inl v.2.2.2.1)), (q.2.2.2, .inl (gI g, 14, .inl v.2.2.2.2))]) rfl ?_
  refine j_aload_n (pc := 28) hX dX4_begin_28 0 rfl ?_
  refine j_iconst (v := 0) (pc := 29) hX dX4_begin_29 (by decide) ?_
  refine j_put (ci := 4) (ty := .int) (pc := 30) hX inG4 tyX4 tyX4_ok nmG4 rfl 4 (by decide) mw131 rfl (by decide +kernel) 0 rfl (Nat.le_of_ble_eq_true rfl) (rfl) rfl dX4_begin_30 ?_
  refine j_ws (ws2 := [(s, .inr (4, [.int (S_miss v.2.2.1 v.1 v.2.1 (S_mk v.2.2.2.2 1 v.2.1)), .int 0, .int 0, .int 0, .int 0, .int z.2.2.2.2.2.1, .ref s1, .ref s2, .ref s3, .ref s4])), (s1, .inl (gI g, 18, .inl z.2.2.2.2.2.2.1)), (s2, .inl (gI g, 14, .inl z.2.2.2.2.2.2.2.1)), (s3, .inl (gI g, 14, .inl z.2.2.2.2.2.2.2.2.1)), (s4, .inl (gI g, 14, .inl (oI z.2.2.2.2.2.2.2.2.2))), (q.1, .inr (6, [.int v.1, .int (nI v.2.1), .ref q.2.1, .ref q.2.2.1, .ref q.2.2.2])), (q.2.1, .inl (gI g, 14, .inl v.2.2.1)), (q.2.2.1, .inl (gI g, 14, .inl v.2.2.2.1)), (q.2.2.2, .inl (gI g, 14, .inl v.2.2.2.2))]) rfl ?_
  refine j_aload_n (pc := 33) hX dX4_begin_33 0 rfl ?_
  refine j_iconst (v := 0) (pc := 34) hX dX4_begin_34 (by decide) ?_
  refine j_put (ci := 4) (ty := .int) (pc := 35) hX inG4 tyX4 tyX4_ok nmG4 rfl 5 (by decide) mw133 rfl (by decide +kernel) 0 rfl (Nat.le_of_ble_eq_true rfl) (rfl) rfl dX4_begin_35 ?_
  refine j_ws (ws2 := [(s, .inr (4, [.int (S_miss v.2.2.1 v.1 v.2.1 (S_mk v.2.2.2.2 1 v.2.1)), .int 0, .int 0, .int 0, .int 0, .int 0, .ref s1, .ref s2, .ref s3, .ref s4])), (s1, .inl (gI g, 18, .inl z.2.2.2.2.2.2.1)), (s2, .inl (gI g, 14, .inl z.2.2.2.2.2.2.2.1)), (s3, .inl (gI g, 14, .inl z.2.2.2.2.2.2.2.2.1)), (s4, .inl (gI g, 14, .inl (oI z.2.2.2.2.2.2.2.2.2))), (q.1, .inr (6, [.int v.1, .int (nI v.2.1), .ref q.2.1, .ref q.2.2.1, .ref q.2.2.2])), (q.2.1, .inl (gI g, 14, .inl v.2.2.1)), (q.2.2.1, .inl (gI g, 14, .inl v.2.2.2.1)), (q.2.2.2, .inl (gI g, 14, .inl v.2.2.2.2))]) rfl ?_
  refine j_aload_n (pc := 38) hX dX4_begin_38 0 rfl ?_
  refine j_get (ci := 4) (pc := 39) hX inG4 rfl 6 (by decide) mw135 0 rfl rfl dX4_begin_39 ?_
  refine j_iconst (v := 0) (pc := 42) hX dX4_begin_42 (by decide) ?_
  refine j_callSV (n := 2) (As := [.ref s1, .int 0]) (rest := []) (pc := 43) hX (c_J7_fill g s1 18 z.2.2.2.2.2.2.1 0 (by first | assumption | omega)) (CS.of mw314 mw315 mw24 mw316 ⟨by decide +kernel, by decide +kernel, by decide +kernel⟩) (Nat.le_of_ble_eq_true rfl) (Nat.le_of_ble_eq_true rfl) (Nat.le_of_ble_eq_true rfl) (Nat.le_of_ble_eq_true rfl) [1] (by decide +kernel) rfl rfl rfl (Nat.le_of_ble_eq_true rfl) dX4_begin_43 (fun wz wnz hq6 => ?_)
  obtain ⟨rfl, rfl⟩ := hq6
  refine j_ws (ws2 := [(s, .inr (4, [.int (S_miss v.2.2.1 v.1 v.2.1 (S_mk v.2.2.2.2 1 v.2.1)), .int 0, .int 0, .int 0, .int 0, .int 0, .ref s1, .ref s2, .ref s3, .ref s4])), (s1, .inl (gI g, 18, .inl (S_fill 0 z.2.2.2.2.2.2.1 18))), (s2, .inl (gI g, 14, .inl z.2.2.2.2.2.2.2.1)), (s3, .inl (gI g, 14, .inl z.2.2.2.2.2.2.2.2.1)), (s4, .inl (gI g, 14, .inl (oI z.2.2.2.2.2.2.2.2.2))), (q.1, .inr (6, [.int v.1, .int (nI v.2.1), .ref q.2.1, .ref q.2.2.1, .ref q.2.2.2])), (q.2.1, .inl (gI g, 14, .inl v.2.2.1)), (q.2.2.1, .inl (gI g, 14, .inl v.2.2.2.1)), (q.2.2.2, .inl (gI g, 14, .inl v.2.2.2.2))]) rfl ?_
  refine j_aload_n (pc := 46) hX dX4_begin_46 0 rfl ?_
  refine j_get (ci := 4) (pc := 47) hX inG4 rfl 7 (by decide) mw137 0 rfl rfl dX4_begin_47 ?_
  refine j_iconst (v := 0) (pc := 50) hX dX4_begin_50 (by decide) ?_
  refine j_callSV (n := 2) (As := [.ref s2, .int 0]) (rest := []) (pc := 51) hX (c_J7_fill g s2 14 z.2.2.2.2.2.2.2.1 0 (by first | assumption | omega)) (CS.of mw314 mw315 mw24 mw316 ⟨by decide +kernel, by decide +kernel, by decide +kernel⟩) (Nat.le_of_ble_eq_true rfl) (Nat.le_of_ble_eq_true rfl) (Nat.le_of_ble_eq_true rfl) (Nat.le_of_ble_eq_true rfl) [2] (by decide +kernel) rfl rfl rfl (Nat.le_of_ble_eq_true rfl) dX4_begin_51 (fun wz wnz hq8 => ?_)
  obtain ⟨rfl, rfl⟩ := hq8
  refine j_ws (ws2 := [(s, .inr (4, [.int (S_miss v.2.2.1 v.1 v.2.1 (S_mk v.2.2.2.2 1 v.2.1)), .int 0, .int 0, .int 0, .int 0, .int 0, .ref s1, .ref s2, .ref s3, .ref s4])), (s1, .inl (gI g, 18, .inl (S_fill 0 z.2.2.2.2.2.2.1 18))), (s2, .inl (gI g, 14, .inl (S_fill 0 z.2.2.2.2.2.2.2.1 14))), (s3, .inl (gI g, 14, .inl z.2.2.2.2.2.2.2.2.1)), (s4, .inl (gI g, 14, .inl (oI z.2.2.2.2.2.2.2.2.2))), (q.1, .inr (6, [.int v.1, .int (nI v.2.1), .ref q.2.1, .ref q.2.2.1, .ref q.2.2.2])), (q.2.1, .inl (gI g, 14, .inl v.2.2.1)), (q.2.2.1, .inl (gI g, 14, .inl v.2.2.2.1)), (q.2.2.2, .inl (gI g, 14, .inl v.2.2.2.2))]) rfl ?_
  refine j_aload_n (pc := 54) hX dX4_begin_54 0 rfl ?_
  refine j_get (ci := 4) (pc := 55) hX inG4 rfl 8 (by decide) mw139 0 rfl rfl dX4_begin_55 ?_
  refine j_bipush (v := (-6)) (pc := 58) hX dX4_begin_58 (by decide) ?_
  refine j_callSV (n := 2) (As := [.ref s3, .int (-6)]) (rest := []) (pc := 60) hX (c_J7_fill g s3 14 z.2.2.2.2.2.2.2.2.1 (-6) (by first | assumption | omega)) (CS.of mw314 mw315 mw24 mw316 ⟨by decide +kernel, by decide +kernel, by decide +kernel⟩) (Nat.le_of_ble_eq_true rfl) (Nat.le_of_ble_eq_true rfl) (Nat.le_of_ble_eq_true rfl) (Nat.le_of_ble_eq_true rfl) [3] (by decide +kernel) rfl rfl rfl (Nat.le_of_ble_eq_true rfl) dX4_begin_60 (fun wz wnz hq10 => ?_)
  obtain ⟨rfl, rfl⟩ := hq10
  refine j_ws (ws2 := [(s, .inr (4, [.int (S_miss v.2.2.1 v.1 v.2.1 (S_mk v.2.2.2.2 1 v.2.1)), .int 0, .int 0, .int 0, .int 0, .int 0, .ref s1, .ref s2, .ref s3, .ref s4])), (s1, .inl (gI g, 18, .inl (S_fill 0 z.2.2.2.2.2.2.1 18))), (s2, .inl (gI g, 14, .inl (S_fill 0 z.2.2.2.2.2.2.2.1 14))), (s3, .inl (gI g, 14, .inl (S_fill (-6) z.2.2.2.2.2.2.2.2.1 14))), (s4, .inl (gI g, 14, .inl (oI z.2.2.2.2.2.2.2.2.2))), (q.1, .inr (6, [.int v.1, .int (nI v.2.1), .ref q.2.1, .ref q.2.2.1, .ref q.2.2.2])), (q.2.1, .inl (gI g, 14, .inl v.2.2.1)), (q.2.2.1, .inl (gI g, 14, .inl v.2.2.2.1)), (q.2.2.2, .inl (gI g, 14, .inl v.2.2.2.2))]) rfl ?_
  exact j_vret (pc := 63) hX hQ dX4_begin_63 [(s, .inr (4, [.int (S_miss v.2.2.1 v.1 v.2.1 (S_mk v.2.2.2.2 1 v.2.1)), .int 0, .int 0, .int 0, .int 0, .int 0, .ref s1, .ref s2, .ref s3, .ref s4])), (s1, .inl (gI g, 18, .inl (S_fill 0 z.2.2.2.2.2.2.1 18))), (s2, .inl (gI g, 14, .inl (S_fill 0 z.2.2.2.2.2.2.2.1 14))), (s3, .inl (gI g, 14, .inl (S_fill (-6) z.2.2.2.2.2.2.2.2.1 14))), (s4, .inl (gI g, 14, .inl (oI z.2.2.2.2.2.2.2.2.2))), (q.1, .inr (6, [.int v.1, .int (nI v.2.1), .ref q.2.1, .ref q.2.2.1, .ref q.2.2.2])), (q.2.1, .inl (gI g, 14, .inl v.2.2.1)), (q.2.2.1, .inl (gI g, 14, .inl v.2.2.2.1)), (q.2.2.2, .inl (gI g, 14, .inl v.2.2.2.2))] [] rfl rfl ⟨(by first | rfl | first | (simp only [jb_t, jb_f, reduceIte, eq_self, decide_true, decide_false, Bool.and_true, Bool.true_and, Bool.and_false, Bool.false_and, Bool.and_self, not_true_eq_false, not_false_eq_true, and_true, true_and, and_false, false_and, and_self]; done) | (simp [jb_t, jb_f]; done)), (rfl)⟩

set_option maxHeartbeats 4000000 in
set_option maxRecDepth 100000 in
theorem c_X4_dropRev (g : jG) (s : Nat) (s1 : Nat) (s2 : Nat) (s3 : Nat) (s4 : Nat) (z : SHT) (q : adT) (v : StT) (hv : v.2.1 ≤ 14) (htc : z.2.2.2.2.1 ≤ 14) : jMV g yX4_dropInReverse cX4_dropInReverse 4 2 44 0 0 [.ref s, .ref q.1] [(s, .inr (4, [.int z.1, .int z.2.1, .int (nI z.2.2.1), .int z.2.2.2.1, .int (nI z.2.2.2.2.1), .int z.2.2.2.2.2.1, .ref s1, .ref s2, .ref s3, .ref s4])), (s1, .inl (gI g, 18, .inl z.2.2.2.2.2.2.1)), (s2, .inl (gI g, 14, .inl z.2.2.2.2.2.2.2.1)), (s3, .inl (gI g, 14, .inl z.2.2.2.2.2.2.2.2.1)), (s4, .inl (gI g, 14, .inl (oI z.2.2.2.2.2.2.2.2.2))), (q.1, .inr (6, [.int v.1, .int (nI v.2.1), .ref q.2.1, .ref q.2.2.1, .ref q.2.2.2])), (q.2.1, .inl (gI g, 14, .inl v.2.2.1)), (q.2.2.1, .inl (gI g, 14, .inl v.2.2.2.1)), (q.2.2.2, .inl (gI g, 14, .inl v.2.2.2.2))] (fun wz wzn => wz = [(s, .inr (4, [.int ((dR v z.2.2.2.2.1 z).1), .int ((dR v z.2.2.2.2.1 z).2.1), .int (nI ((dR v z.2.2.2.2.1 z).2.2.1)), .int ((dR v z.2.2.2.2.1 z).2.2.2.1), .int (nI ((dR v z.2.2.2.2.1 z).2.2.2.2.1)), .int ((dR v z.2.2.2.2.1 z).2.2.2.2.2.1), .ref s1, .ref s2, .ref s3, .ref s4])), (s1, .inl (gI g, 18, .inl ((dR v z.2.2.2.2.1 z).2.2.2.2.2.2.1))), (s2, .inl (gI g, 14, .inl ((dR v z.2.2.2.2.1 z).2.2.2.2.2.2.2.1))), (s3, .inl (gI g, 14, .inl ((dR v z.2.2.2.2.1 z).2.2.2.2.2.2.2.2.1))), (s4, .inl (gI g, 14, .inl (oI ((dR v z.2.2.2.2.1 z).2.2.2.2.2.2.2.2.2)))), (q.1, .inr (6, [.int v.1, .int (nI v.2.1), .ref q.2.1, .ref q.2.2.1, .ref q.2.2.2])), (q.2.1, .inl (gI g, 14, .inl v.2.2.1)), (q.2.2.1, .inl (gI g, 14, .inl v.2.2.2.1)), (q.2.2.2, .inl (gI g, 14, .inl v.2.2.2.2))] ∧ wzn = []) := by
  refine jMV.intro (by decide +kernel) (Nat.le_of_ble_eq_true rfl) (fun x hX hQ hN => ?_)
  refine j_lv (lv2 := [(0, .ref s), (1, .ref q.1)]) rfl ?_
  refine j_aload_n (pc := 0) hX dX4_dropInReverse_0 0 rfl ?_
  refine j_get (ci := 4) (pc := 1) hX inG4 rfl 4 (by decide) mw131 0 rfl rfl dX4_dropInReverse_1 ?_
  refine j_iconst (v := 1) (pc := 4) hX dX4_dropInReverse_4 (by decide) ?_
  refine j_isub (pc := 5) hX dX4_dropInReverse_5 ?_
  refine j_istore_n (lv2 := [(0, .ref s), (1, .ref q.1), (2, .int ((nI z.2.2.2.2.1) - 1))]) (pc := 6) hX dX4_dropInReverse_6 [1, 2, 0] (by decide) rfl ?_
  have L7 : ∀ (d : Nat) (a : Nat) (y : SHT), a ≤ 14 → dR v a y = dR v z.2.2.2.2.1 z → a = d → J g x 4 0 0 7 [(0, .ref s), (1, .ref q.1), (2, .int (nI a - 1))] [] [(s, .inr (4, [.int y.1, .int y.2.1, .int (nI y.2.2.1), .int y.2.2.2.1, .int (nI y.2.2.2.2.1), .int y.2.2.2.2.2.1, .ref s1, .ref s2, .ref s3, .ref s4])), (s1, .inl (gI g, 18, .inl y.2.2.2.2.2.2.1)), (s2, .inl (gI g, 14, .inl y.2.2.2.2.2.2.2.1)), (s3, .inl (gI g, 14, .inl y.2.2.2.2.2.2.2.2.1)), (s4, .inl (gI g, 14, .inl (oI y.2.2.2.2.2.2.2.2.2))), (q.1, .inr (6, [.int v.1, .int (nI v.2.1), .ref q.2.1, .ref q.2.2.1, .ref q.2.2.2])), (q.2.1, .inl (gI g, 14, .inl v.2.2.1)), (q.2.2.1, .inl (gI g, 14, .inl v.2.2.2.1)), (q.2.2.2, .inl (gI g, 14, .inl v.2.2.2.2))] := by
    intro d
    induction d using Nat.strongRecOn with
    | _ d ih7 =>
      intro a y ha hR hd7
      refine j_iload_n (pc := 7) hX dX4_dropInReverse_7 2 rfl ?_
      refine j_if_lt (tgt := 58) (pc := 8) hX dX4_dropInReverse_8 (by decide) (fun c8_1 => ?_) (fun c8_1 => ?_)
      · skip
        have ha0 : a = 0 := (dn_lt (by omega)).mp c8_1
        subst ha0
        exact j_vret (pc := 58) hX hQ dX4_dropInReverse_58 [(s, .inr (4, [.int y.1, .int y.2.1, .int (nI y.2.2.1), .int y.2.2.2.1, .int (nI y.2.2.2.2.1), .int y.2.2.2.2.2.1, .ref s1, .ref s2, .ref s3, .ref s4])), (s1, .inl (gI g, 18, .inl y.2.2.2.2.2.2.1)), (s2, .inl (gI g, 14, .inl y.2.2.2.2.2.2.2.1)), (s3, .inl (gI g, 14, .inl y.2.2.2.2.2.2.2.2.1)), (s4, .inl (gI g, 14, .inl (oI y.2.2.2.2.2.2.2.2.2))), (q.1, .inr (6, [.int v.1, .int (nI v.2.1), .ref q.2.1, .ref q.2.2.1, .ref q.2.2.2])), (q.2.1, .inl (gI g, 14, .inl v.2.2.1)), (q.2.2.1, .inl (gI g, 14, .inl v.2.2.2.1)), (q.2.2.2, .inl (gI g, 14, .inl v.2.2.2.2))] [] rfl rfl ⟨(by rw [← hR]; rfl), (rfl)⟩
      · skip
        have ha0 : 0 < a := Nat.pos_of_ne_zero (fun h9 => c8_1 ((dn_lt (by omega)).mpr h9))
        refine j_aload_n (pc := 11) hX dX4_dropInReverse_11 0 rfl ?_
        refine j_get (ci := 4) (pc := 12) hX inG4 rfl 5 (by decide) mw133 0 rfl rfl dX4_dropInReverse_12 ?_
        refine j_iconst (v := 1) (pc := 15) hX dX4_dropInReverse_15 (by decide) ?_
        refine j_aload_n (pc := 16) hX dX4_dropInReverse_16 0 rfl ?_
        refine j_get (ci := 4) (pc := 17) hX inG4 rfl 9 (by decide) mw141 0 rfl rfl dX4_dropInReverse_17 ?_
        refine j_iload_n (pc := 20) hX dX4_dropInReverse_20 2 rfl ?_
        refine j_top (b := nI (a - 1)) (pk_sub (a := a) (b := 1) (by omega)) ?_
        refine j_iald (pc := 21) hX 4 rfl (a - 1) rfl (by omega) (by omega) dX4_dropInReverse_21 ?_
        refine j_top (b := nI (y.2.2.2.2.2.2.2.2.2 (a - 1))) (rfl) ?_
        refine j_ishl (pc := 22) hX dX4_dropInReverse_22 ?_
        refine j_top (b := bI (y.2.2.2.2.2.2.2.2.2 (a - 1))) rfl ?_
        refine j_ior (pc := 23) hX dX4_dropInReverse_23 ?_
        refine j_top (b := dW y (a - 1)) (rfl) ?_
        refine j_istore_n (lv2 := [(0, .ref s), (1, .ref q.1), (2, .int (nI a - 1)), (3, .int (dW y (a - 1)))]) (pc := 24) hX dX4_dropInReverse_24 [1, 2, 3, 0] (by decide) rfl ?_
        refine j_aload_n (pc := 25) hX dX4_dropInReverse_25 0 rfl ?_
        refine j_get (ci := 4) (pc := 26) hX inG4 rfl 0 (by decide) mw125 0 rfl rfl dX4_dropInReverse_26 ?_
        refine j_aload_n (pc := 29) hX dX4_dropInReverse_29 1 rfl ?_
        refine j_aload_n (pc := 30) hX dX4_dropInReverse_30 0 rfl ?_
        refine j_get (ci := 4) (pc := 31) hX inG4 rfl 3 (by decide) mw129 0 rfl rfl dX4_dropInReverse_31 ?_
        refine j_iload_n (pc := 34) hX dX4_dropInReverse_34 3 rfl ?_
        refine j_iconst (v := (-1)) (pc := 35) hX dX4_dropInReverse_35 (by decide) ?_
        refine j_ixor (pc := 36) hX dX4_dropInReverse_36 ?_
        refine j_iand (pc := 37) hX dX4_dropInReverse_37 ?_
        refine j_callVI (n := 1) (As := [.int (y.2.2.2.1 &&& ((dW y (a - 1)) ^^^ (-1)))]) (rest := [.int y.1]) (pc := 38) hX (c_X6_thingsOf g q.1 q.2.1 q.2.2.1 q.2.2.2 v.1 v.2.1 v.2.2.1 v.2.2.2.1 v.2.2.2.2 (y.2.2.2.1 &&& ((dW y (a - 1)) ^^^ (-1))) (by first | assumption | omega)) (CV.of mw330 mw268 mw269 mw14 mw270 ⟨rfl, by decide +kernel, by decide +kernel, by decide +kernel⟩ (T := TX6) (N := 5) rfl) (Nat.le_of_ble_eq_true rfl) (Nat.le_of_ble_eq_true rfl) (Nat.le_of_ble_eq_true rfl) (Nat.le_of_ble_eq_true rfl) 5 rfl [5, 6, 7, 8] (by decide +kernel) rfl rfl rfl (Nat.le_of_ble_eq_true rfl) dX4_dropInReverse_38 (fun r2 wz hq3 => ?_)
        obtain ⟨rfl, rfl⟩ := hq3
        refine j_ws (ws2 := [(s, .inr (4, [.int y.1, .int y.2.1, .int (nI y.2.2.1), .int y.2.2.2.1, .int (nI y.2.2.2.2.1), .int y.2.2.2.2.2.1, .ref s1, .ref s2, .ref s3, .ref s4])), (s1, .inl (gI g, 18, .inl y.2.2.2.2.2.2.1)), (s2, .inl (gI g, 14, .inl y.2.2.2.2.2.2.2.1)), (s3, .inl (gI g, 14, .inl y.2.2.2.2.2.2.2.2.1)), (s4, .inl (gI g, 14, .inl (oI y.2.2.2.2.2.2.2.2.2))), (q.1, .inr (6, [.int v.1, .int (nI v.2.1), .ref q.2.1, .ref q.2.2.1, .ref q.2.2.2])), (q.2.1, .inl (gI g, 14, .inl v.2.2.1)), (q.2.2.1, .inl (gI g, 14, .inl v.2.2.2.1)), (q.2.2.2, .inl (gI g, 14, .inl v.2.2.2.2))]) rfl ?_
        refine j_iconst (v := (-1)) (pc := 41) hX dX4_dropInReverse_41 (by decide) ?_
        refine j_ixor (pc := 42) hX dX4_dropInReverse_42 ?_
        refine j_iand (pc := 43) hX dX4_dropInReverse_43 ?_
        refine j_if_ne (tgt := 52) (pc := 44) hX dX4_dropInReverse_44 (by decide) (fun c44_4 => ?_) (fun c44_4 => ?_)
        · skip
          refine j_iinc (v := (nI a - 1) + (-1)) (lv2 := [(0, .ref s), (1, .ref q.1), (2, .int ((nI a - 1) + (-1))), (3, .int (dW y (a - 1)))]) (pc := 52) hX dX4_dropInReverse_52 2 rfl (rfl) [1, 2, 0, 3] (by decide) rfl ?_
          refine j_goto (tgt := 7) (pc := 55) hX dX4_dropInReverse_55 (by decide) ?_
          refine j_lvs (lv2 := [(0, .ref s), (1, .ref q.1), (2, .int ((nI a - 1) + (-1)))]) [0, 1, 2] rfl ?_
          exact j_eq (lv2 := [(0, .ref s), (1, .ref q.1), (2, .int (nI (a - 1) - 1))]) (ws2 := [(s, .inr (4, [.int y.1, .int y.2.1, .int (nI y.2.2.1), .int y.2.2.2.1, .int (nI y.2.2.2.2.1), .int y.2.2.2.2.2.1, .ref s1, .ref s2, .ref s3, .ref s4])), (s1, .inl (gI g, 18, .inl y.2.2.2.2.2.2.1)), (s2, .inl (gI g, 14, .inl y.2.2.2.2.2.2.2.1)), (s3, .inl (gI g, 14, .inl y.2.2.2.2.2.2.2.2.1)), (s4, .inl (gI g, 14, .inl (oI y.2.2.2.2.2.2.2.2.2))), (q.1, .inr (6, [.int v.1, .int (nI v.2.1), .ref q.2.1, .ref q.2.2.1, .ref q.2.2.2])), (q.2.1, .inl (gI g, 14, .inl v.2.2.1)), (q.2.2.1, .inl (gI g, 14, .inl v.2.2.2.1)), (q.2.2.2, .inl (gI g, 14, .inl v.2.2.2.2))]) (by first | (rw [dn1 (by omega)]; done) | rfl) (by first | (rw [dn1 (by omega)]; done) | rfl) (ih7 _ (by omega) (a - 1) y (by omega) (by rw [dR_s v (by omega) y, if_neg c44_4] at hR; exact hR) rfl)
        · skip
          refine j_aload_n (pc := 47) hX dX4_dropInReverse_47 0 rfl ?_
          refine j_iload_n (pc := 48) hX dX4_dropInReverse_48 3 rfl ?_
          refine j_put (ci := 4) (ty := .int) (pc := 49) hX inG4 tyX4 tyX4_ok nmG4 rfl 5 (by decide) mw133 rfl (by decide +kernel) 0 rfl (Nat.le_of_ble_eq_true rfl) (rfl) rfl dX4_dropInReverse_49 ?_
          refine j_ws (ws2 := [(s, .inr (4, [.int y.1, .int y.2.1, .int (nI y.2.2.1), .int y.2.2.2.1, .int (nI y.2.2.2.2.1), .int (dW y (a - 1)), .ref s1, .ref s2, .ref s3, .ref s4])), (s1, .inl (gI g, 18, .inl y.2.2.2.2.2.2.1)), (s2, .inl (gI g, 14, .inl y.2.2.2.2.2.2.2.1)), (s3, .inl (gI g, 14, .inl y.2.2.2.2.2.2.2.2.1)), (s4, .inl (gI g, 14, .inl (oI y.2.2.2.2.2.2.2.2.2))), (q.1, .inr (6, [.int v.1, .int (nI v.2.1), .ref q.2.1, .ref q.2.2.1, .ref q.2.2.2])), (q.2.1, .inl (gI g, 14, .inl v.2.2.1)), (q.2.2.1, .inl (gI g, 14, .inl v.2.2.2.1)), (q.2.2.2, .inl (gI g, 14, .inl v.2.2.2.2))]) rfl ?_
          refine j_iinc (v := (nI a - 1) + (-1)) (lv2 := [(0, .ref s), (1, .ref q.1), (2, .int ((nI a - 1) + (-1))), (3, .int (dW y (a - 1)))]) (pc := 52) hX dX4_dropInReverse_52 2 rfl (rfl) [1, 2, 0, 3] (by decide) rfl ?_
          refine j_goto (tgt := 7) (pc := 55) hX dX4_dropInReverse_55 (by decide) ?_
          refine j_lvs (lv2 := [(0, .ref s), (1, .ref q.1), (2, .int ((nI a - 1) + (-1)))]) [0, 1, 2] rfl ?_
          exact j_eq (lv2 := [(0, .ref s), (1, .ref q.1), (2, .int (nI (a - 1) - 1))]) (ws2 := [(s, .inr (4, [.int (dU y (dW y (a - 1))).1, .int (dU y (dW y (a - 1))).2.1, .int (nI (dU y (dW y (a - 1))).2.2.1), .int (dU y (dW y (a - 1))).2.2.2.1, .int (nI (dU y (dW y (a - 1))).2.2.2.2.1), .int (dU y (dW y (a - 1))).2.2.2.2.2.1, .ref s1, .ref s2, .ref s3, .ref s4])), (s1, .inl (gI g, 18, .inl (dU y (dW y (a - 1))).2.2.2.2.2.2.1)), (s2, .inl (gI g, 14, .inl (dU y (dW y (a - 1))).2.2.2.2.2.2.2.1)), (s3, .inl (gI g, 14, .inl (dU y (dW y (a - 1))).2.2.2.2.2.2.2.2.1)), (s4, .inl (gI g, 14, .inl (oI (dU y (dW y (a - 1))).2.2.2.2.2.2.2.2.2))), (q.1, .inr (6, [.int v.1, .int (nI v.2.1), .ref q.2.1, .ref q.2.2.1, .ref q.2.2.2])), (q.2.1, .inl (gI g, 14, .inl v.2.2.1)), (q.2.2.1, .inl (gI g, 14, .inl v.2.2.2.1)), (q.2.2.2, .inl (gI g, 14, .inl v.2.2.2.2))]) (by first | (rw [dn1 (by omega)]; done) | rfl) (by first | (rw [dn1 (by omega)]; done) | rfl) (ih7 _ (by omega) (a - 1) (dU y (dW y (a - 1))) (by omega) (by rw [dR_s v (by omega) y, if_pos c44_4] at hR; exact hR) rfl)
  exact j_eq (lv2 := [(0, .ref s), (1, .ref q.1), (2, .int (nI z.2.2.2.2.1 - 1))]) (ws2 := [(s, .inr (4, [.int z.1, .int z.2.1, .int (nI z.2.2.1), .int z.2.2.2.1, .int (nI z.2.2.2.2.1), .int z.2.2.2.2.2.1, .ref s1, .ref s2, .ref s3, .ref s4])), (s1, .inl (gI g, 18, .inl z.2.2.2.2.2.2.1)), (s2, .inl (gI g, 14, .inl z.2.2.2.2.2.2.2.1)), (s3, .inl (gI g, 14, .inl z.2.2.2.2.2.2.2.2.1)), (s4, .inl (gI g, 14, .inl (oI z.2.2.2.2.2.2.2.2.2))), (q.1, .inr (6, [.int v.1, .int (nI v.2.1), .ref q.2.1, .ref q.2.2.1, .ref q.2.2.2])), (q.2.1, .inl (gI g, 14, .inl v.2.2.1)), (q.2.2.1, .inl (gI g, 14, .inl v.2.2.2.1)), (q.2.2.2, .inl (gI g, 14, .inl v.2.2.2.2))]) (by first | done | rfl) (by first | done | rfl) (L7 _ z.2.2.2.2.1 z (by omega) (rfl) rfl)

set_option maxHeartbeats 4000000 in
set_option maxRecDepth 100000 in
theorem c_X4_raiseAll (g : jG) (s : Nat) (s1 : Nat) (s2 : Nat) (s3 : Nat) (s4 : Nat) (z : SHT) (q : adT) (v : StT) (hv : v.2.1 ≤ 14) : jMV g yX4_raiseAll cX4_raiseAll 3 4 86 0 0 [.ref s, .ref q.1] [(s, .inr (4, [.int z.1, .int z.2.1, .int (nI z.2.2.1), .int z.2.2.2.1, .int (nI z.2.2.2.2.1), .int z.2.2.2.2.2.1, .ref s1, .ref s2, .ref s3, .ref s4])), (s1, .inl (gI g, 18, .inl z.2.2.2.2.2.2.1)), (s2, .inl (gI g, 14, .inl z.2.2.2.2.2.2.2.1)), (s3, .inl (gI g, 14, .inl z.2.2.2.2.2.2.2.2.1)), (s4, .inl (gI g, 14, .inl (oI z.2.2.2.2.2.2.2.2.2))), (q.1, .inr (6, [.int v.1, .int (nI v.2.1), .ref q.2.1, .ref q.2.2.1, .ref q.2.2.2])), (q.2.1, .inl (gI g, 14, .inl v.2.2.1)), (q.2.2.1, .inl (gI g, 14, .inl v.2.2.2.1)), (q.2.2.2, .inl (gI g, 14, .inl v.2.2.2.2))] (fun wz wzn => wz = [(s, .inr (4, [.int ((aLL v z).1), .int ((aLL v z).2.1), .int (nI ((aLL v z).2.2.1)), .int ((aLL v z).2.2.2.1), .int (nI ((aLL v z).2.2.2.2.1)), .int ((aLL v z).2.2.2.2.2.1), .ref s1, .ref s2, .ref s3, .ref s4])), (s1, .inl (gI g, 18, .inl ((aLL v z).2.2.2.2.2.2.1))), (s2, .inl (gI g, 14, .inl ((aLL v z).2.2.2.2.2.2.2.1))), (s3, .inl (gI g, 14, .inl ((aLL v z).2.2.2.2.2.2.2.2.1))), (s4, .inl (gI g, 14, .inl (oI ((aLL v z).2.2.2.2.2.2.2.2.2)))), (q.1, .inr (6, [.int v.1, .int (nI v.2.1), .ref q.2.1, .ref q.2.2.1, .ref q.2.2.2])), (q.2.1, .inl (gI g, 14, .inl v.2.2.1)), (q.2.2.1, .inl (gI g, 14, .inl v.2.2.2.1)), (q.2.2.2, .inl (gI g, 14, .inl v.2.2.2.2))] ∧ wzn = []) := by
  refine jMV.intro (by decide +kernel) (Nat.le_of_ble_eq_true rfl) (fun x hX hQ hN => ?_)
  refine j_lv (lv2 := [(0, .ref s), (1, .ref q.1)]) rfl ?_
  refine j_aload_n (pc := 0) hX dX4_raiseAll_0 0 rfl ?_
  refine j_aload_n (pc := 1) hX dX4_raiseAll_1 1 rfl ?_
  refine j_callVV (n := 1) (As := [.ref q.1]) (rest := []) (pc := 2) hX (c_X4_begin g s s1 s2 s3 s4 z q v (by first | assumption | omega)) (CV.of mw309 mw310 mw2 mw18 mw311 ⟨rfl, by decide +kernel, by decide +kernel, by decide +kernel⟩ (T := TX4) (N := 10) rfl) (Nat.le_of_ble_eq_true rfl) (Nat.le_of_ble_eq_true rfl) (Nat.le_of_ble_eq_true rfl) (Nat.le_of_ble_eq_true rfl) 0 rfl [0, 1, 2, 3, 4, 5, 6, 7, 8] (by decide +kernel) rfl rfl rfl (Nat.le_of_ble_eq_true rfl) dX4_raiseAll_2 (fun wz wnz hq2 => ?_)
  obtain ⟨rfl, rfl⟩ := hq2
  refine j_ws (ws2 := [(s, .inr (4, [.int ((bG v z).1), .int ((bG v z).2.1), .int (nI ((bG v z).2.2.1)), .int ((bG v z).2.2.2.1), .int (nI ((bG v z).2.2.2.2.1)), .int ((bG v z).2.2.2.2.2.1), .ref s1, .ref s2, .ref s3, .ref s4])), (s1, .inl (gI g, 18, .inl ((bG v z).2.2.2.2.2.2.1))), (s2, .inl (gI g, 14, .inl ((bG v z).2.2.2.2.2.2.2.1))), (s3, .inl (gI g, 14, .inl ((bG v z).2.2.2.2.2.2.2.2.1))), (s4, .inl (gI g, 14, .inl (oI ((bG v z).2.2.2.2.2.2.2.2.2)))), (q.1, .inr (6, [.int v.1, .int (nI v.2.1), .ref q.2.1, .ref q.2.2.1, .ref q.2.2.2])), (q.2.1, .inl (gI g, 14, .inl v.2.2.1)), (q.2.2.1, .inl (gI g, 14, .inl v.2.2.2.1)), (q.2.2.2, .inl (gI g, 14, .inl v.2.2.2.2))]) rfl ?_
  refine j_iconst (v := 0) (pc := 5) hX dX4_raiseAll_5 (by decide) ?_
  refine j_istore_n (lv2 := [(0, .ref s), (1, .ref q.1), (2, .int 0)]) (pc := 6) hX dX4_raiseAll_6 [1, 2, 0] (by decide) rfl ?_
  have L7 : ∀ (d : Nat) (i : Nat) (y : SHT), i ≤ 500 → y.2.2.2.2.1 ≤ 14 → rA v (500 - i) y = rA v 500 (bG v z) → 500 - i = d → J g x 3 0 0 7 [(0, .ref s), (1, .ref q.1), (2, .int (nI i))] [] [(s, .inr (4, [.int y.1, .int y.2.1, .int (nI y.2.2.1), .int y.2.2.2.1, .int (nI y.2.2.2.2.1), .int y.2.2.2.2.2.1, .ref s1, .ref s2, .ref s3, .ref s4])), (s1, .inl (gI g, 18, .inl y.2.2.2.2.2.2.1)), (s2, .inl (gI g, 14, .inl y.2.2.2.2.2.2.2.1)), (s3, .inl (gI g, 14, .inl y.2.2.2.2.2.2.2.2.1)), (s4, .inl (gI g, 14, .inl (oI y.2.2.2.2.2.2.2.2.2))), (q.1, .inr (6, [.int v.1, .int (nI v.2.1), .ref q.2.1, .ref q.2.2.1, .ref q.2.2.2])), (q.2.1, .inl (gI g, 14, .inl v.2.2.1)), (q.2.2.1, .inl (gI g, 14, .inl v.2.2.2.1)), (q.2.2.2, .inl (gI g, 14, .inl v.2.2.2.2))] := by
    intro d
    induction d using Nat.strongRecOn with
    | _ d ih7 =>
      intro i y hi htc hR hd7
      refine j_iload_n (pc := 7) hX dX4_raiseAll_7 2 rfl ?_
      refine j_sipush (v := 500) (pc := 8) hX dX4_raiseAll_8 (by decide) ?_
      refine j_icmp_ge (tgt := 39) (pc := 11) hX dX4_raiseAll_11 (by decide) (fun c11_3 => ?_) (fun c11_3 => ?_)
      · skip
        have c11_3n : 500 ≤ i := (nI_leI (a := 500) (b := i) (by omega) (by omega)).mp c11_3
        have c11_3m : ¬ i < 500 := by omega
        have hy : y = rA v 500 (bG v z) := by rw [show 500 - i = 0 by omega] at hR; exact hR
        subst hy
        refine j_aload_n (pc := 39) hX dX4_raiseAll_39 0 rfl ?_
        refine j_aload_n (pc := 40) hX dX4_raiseAll_40 1 rfl ?_
        refine j_callVV (n := 1) (As := [.ref q.1]) (rest := []) (pc := 41) hX (c_X4_dropRev g s s1 s2 s3 s4 (rA v 500 (bG v z)) q v (by first | assumption | omega) (htc)) (CV.of mw327 mw328 mw6 mw18 mw329 ⟨rfl, by decide +kernel, by decide +kernel, by decide +kernel⟩ (T := TX4) (N := 10) rfl) (Nat.le_of_ble_eq_true rfl) (Nat.le_of_ble_eq_true rfl) (Nat.le_of_ble_eq_true rfl) (Nat.le_of_ble_eq_true rfl) 0 rfl [0, 1, 2, 3, 4, 5, 6, 7, 8] (by decide +kernel) rfl rfl rfl (Nat.le_of_ble_eq_true rfl) dX4_raiseAll_41 (fun wz wnz hq5 => ?_)
        obtain ⟨rfl, rfl⟩ := hq5
        refine j_ws (ws2 := [(s, .inr (4, [.int ((dR v (rA v 500 (bG v z)).2.2.2.2.1 (rA v 500 (bG v z))).1), .int ((dR v (rA v 500 (bG v z)).2.2.2.2.1 (rA v 500 (bG v z))).2.1), .int (nI ((dR v (rA v 500 (bG v z)).2.2.2.2.1 (rA v 500 (bG v z))).2.2.1)), .int ((dR v (rA v 500 (bG v z)).2.2.2.2.1 (rA v 500 (bG v z))).2.2.2.1), .int (nI ((dR v (rA v 500 (bG v z)).2.2.2.2.1 (rA v 500 (bG v z))).2.2.2.2.1)), .int ((dR v (rA v 500 (bG v z)).2.2.2.2.1 (rA v 500 (bG v z))).2.2.2.2.2.1), .ref s1, .ref s2, .ref s3, .ref s4])), (s1, .inl (gI g, 18, .inl ((dR v (rA v 500 (bG v z)).2.2.2.2.1 (rA v 500 (bG v z))).2.2.2.2.2.2.1))), (s2, .inl (gI g, 14, .inl ((dR v (rA v 500 (bG v z)).2.2.2.2.1 (rA v 500 (bG v z))).2.2.2.2.2.2.2.1))), (s3, .inl (gI g, 14, .inl ((dR v (rA v 500 (bG v z)).2.2.2.2.1 (rA v 500 (bG v z))).2.2.2.2.2.2.2.2.1))), (s4, .inl (gI g, 14, .inl (oI ((dR v (rA v 500 (bG v z)).2.2.2.2.1 (rA v 500 (bG v z))).2.2.2.2.2.2.2.2.2)))), (q.1, .inr (6, [.int v.1, .int (nI v.2.1), .ref q.2.1, .ref q.2.2.1, .ref q.2.2.2])), (q.2.1, .inl (gI g, 14, .inl v.2.2.1)), (q.2.2.1, .inl (gI g, 14, .inl v.2.2.2.1)), (q.2.2.2, .inl (gI g, 14, .inl v.2.2.2.2))]) rfl ?_
        exact j_vret (pc := 44) hX hQ dX4_raiseAll_44 [(s, .inr (4, [.int ((dR v (rA v 500 (bG v z)).2.2.2.2.1 (rA v 500 (bG v z))).1), .int ((dR v (rA v 500 (bG v z)).2.2.2.2.1 (rA v 500 (bG v z))).2.1), .int (nI ((dR v (rA v 500 (bG v z)).2.2.2.2.1 (rA v 500 (bG v z))).2.2.1)), .int ((dR v (rA v 500 (bG v z)).2.2.2.2.1 (rA v 500 (bG v z))).2.2.2.1), .int (nI ((dR v (rA v 500 (bG v z)).2.2.2.2.1 (rA v 500 (bG v z))).2.2.2.2.1)), .int ((dR v (rA v 500 (bG v z)).2.2.2.2.1 (rA v 500 (bG v z))).2.2.2.2.2.1), .ref s1, .ref s2, .ref s3, .ref s4])), (s1, .inl (gI g, 18, .inl ((dR v (rA v 500 (bG v z)).2.2.2.2.1 (rA v 500 (bG v z))).2.2.2.2.2.2.1))), (s2, .inl (gI g, 14, .inl ((dR v (rA v 500 (bG v z)).2.2.2.2.1 (rA v 500 (bG v z))).2.2.2.2.2.2.2.1))), (s3, .inl (gI g, 14, .inl ((dR v (rA v 500 (bG v z)).2.2.2.2.1 (rA v 500 (bG v z))).2.2.2.2.2.2.2.2.1))), (s4, .inl (gI g, 14, .inl (oI ((dR v (rA v 500 (bG v z)).2.2.2.2.1 (rA v 500 (bG v z))).2.2.2.2.2.2.2.2.2)))), (q.1, .inr (6, [.int v.1, .int (nI v.2.1), .ref q.2.1, .ref q.2.2.1, .ref q.2.2.2])), (q.2.1, .inl (gI g, 14, .inl v.2.2.1)), (q.2.2.1, .inl (gI g, 14, .inl v.2.2.2.1)), (q.2.2.2, .inl (gI g, 14, .inl v.2.2.2.2))] [] rfl rfl ⟨(by first | rfl | first | (simp only [jb_t, jb_f, c11_3, c11_3n, c11_3m, reduceIte, eq_self, decide_true, decide_false, Bool.and_true, Bool.true_and, Bool.and_false, Bool.false_and, Bool.and_self, not_true_eq_false, not_false_eq_true, and_true, true_and, and_false, false_and, and_self]; done) | (simp [jb_t, jb_f, c11_3, c11_3n, c11_3m]; done)), (rfl)⟩
      · skip
        have c11_3n : ¬ 500 ≤ i := fun h9 => c11_3 ((nI_leI (a := 500) (b := i) (by omega) (by omega)).mpr h9)
        have c11_3m : i < 500 := by omega
        refine j_aload_n (pc := 14) hX dX4_raiseAll_14 0 rfl ?_
        refine j_get (ci := 4) (pc := 15) hX inG4 rfl 0 (by decide) mw125 0 rfl rfl dX4_raiseAll_15 ?_
        refine j_aload_n (pc := 18) hX dX4_raiseAll_18 0 rfl ?_
        refine j_get (ci := 4) (pc := 19) hX inG4 rfl 1 (by decide) mw126 0 rfl rfl dX4_raiseAll_19 ?_
        refine j_iconst (v := (-1)) (pc := 22) hX dX4_raiseAll_22 (by decide) ?_
        refine j_ixor (pc := 23) hX dX4_raiseAll_23 ?_
        refine j_iand (pc := 24) hX dX4_raiseAll_24 ?_
        refine j_top (b := lf y) (rfl) ?_
        refine j_if_eq (tgt := 39) (pc := 25) hX dX4_raiseAll_25 (by decide) (fun c25_6 => ?_) (fun c25_6 => ?_)
        · skip
          have hy : y = rA v 500 (bG v z) := by rw [show 500 - i = (500 - (i + 1)) + 1 by omega, rA, if_pos c25_6] at hR; exact hR
          subst hy
          refine j_aload_n (pc := 39) hX dX4_raiseAll_39 0 rfl ?_
          refine j_aload_n (pc := 40) hX dX4_raiseAll_40 1 rfl ?_
          refine j_callVV (n := 1) (As := [.ref q.1]) (rest := []) (pc := 41) hX (c_X4_dropRev g s s1 s2 s3 s4 (rA v 500 (bG v z)) q v (by first | assumption | omega) (htc)) (CV.of mw327 mw328 mw6 mw18 mw329 ⟨rfl, by decide +kernel, by decide +kernel, by decide +kernel⟩ (T := TX4) (N := 10) rfl) (Nat.le_of_ble_eq_true rfl) (Nat.le_of_ble_eq_true rfl) (Nat.le_of_ble_eq_true rfl) (Nat.le_of_ble_eq_true rfl) 0 rfl [0, 1, 2, 3, 4, 5, 6, 7, 8] (by decide +kernel) rfl rfl rfl (Nat.le_of_ble_eq_true rfl) dX4_raiseAll_41 (fun wz wnz hq8 => ?_)
          obtain ⟨rfl, rfl⟩ := hq8
          refine j_ws (ws2 := [(s, .inr (4, [.int ((dR v (rA v 500 (bG v z)).2.2.2.2.1 (rA v 500 (bG v z))).1), .int ((dR v (rA v 500 (bG v z)).2.2.2.2.1 (rA v 500 (bG v z))).2.1), .int (nI ((dR v (rA v 500 (bG v z)).2.2.2.2.1 (rA v 500 (bG v z))).2.2.1)), .int ((dR v (rA v 500 (bG v z)).2.2.2.2.1 (rA v 500 (bG v z))).2.2.2.1), .int (nI ((dR v (rA v 500 (bG v z)).2.2.2.2.1 (rA v 500 (bG v z))).2.2.2.2.1)), .int ((dR v (rA v 500 (bG v z)).2.2.2.2.1 (rA v 500 (bG v z))).2.2.2.2.2.1), .ref s1, .ref s2, .ref s3, .ref s4])), (s1, .inl (gI g, 18, .inl ((dR v (rA v 500 (bG v z)).2.2.2.2.1 (rA v 500 (bG v z))).2.2.2.2.2.2.1))), (s2, .inl (gI g, 14, .inl ((dR v (rA v 500 (bG v z)).2.2.2.2.1 (rA v 500 (bG v z))).2.2.2.2.2.2.2.1))), (s3, .inl (gI g, 14, .inl ((dR v (rA v 500 (bG v z)).2.2.2.2.1 (rA v 500 (bG v z))).2.2.2.2.2.2.2.2.1))), (s4, .inl (gI g, 14, .inl (oI ((dR v (rA v 500 (bG v z)).2.2.2.2.1 (rA v 500 (bG v z))).2.2.2.2.2.2.2.2.2)))), (q.1, .inr (6, [.int v.1, .int (nI v.2.1), .ref q.2.1, .ref q.2.2.1, .ref q.2.2.2])), (q.2.1, .inl (gI g, 14, .inl v.2.2.1)), (q.2.2.1, .inl (gI g, 14, .inl v.2.2.2.1)), (q.2.2.2, .inl (gI g, 14, .inl v.2.2.2.2))]) rfl ?_
          exact j_vret (pc := 44) hX hQ dX4_raiseAll_44 [(s, .inr (4, [.int ((dR v (rA v 500 (bG v z)).2.2.2.2.1 (rA v 500 (bG v z))).1), .int ((dR v (rA v 500 (bG v z)).2.2.2.2.1 (rA v 500 (bG v z))).2.1), .int (nI ((dR v (rA v 500 (bG v z)).2.2.2.2.1 (rA v 500 (bG v z))).2.2.1)), .int ((dR v (rA v 500 (bG v z)).2.2.2.2.1 (rA v 500 (bG v z))).2.2.2.1), .int (nI ((dR v (rA v 500 (bG v z)).2.2.2.2.1 (rA v 500 (bG v z))).2.2.2.2.1)), .int ((dR v (rA v 500 (bG v z)).2.2.2.2.1 (rA v 500 (bG v z))).2.2.2.2.2.1), .ref s1, .ref s2, .ref s3, .ref s4])), (s1, .inl (gI g, 18, .inl ((dR v (rA v 500 (bG v z)).2.2.2.2.1 (rA v 500 (bG v z))).2.2.2.2.2.2.1))), (s2, .inl (gI g, 14, .inl ((dR v (rA v 500 (bG v z)).2.2.2.2.1 (rA v 500 (bG v z))).2.2.2.2.2.2.2.1))), (s3, .inl (gI g, 14, .inl ((dR v (rA v 500 (bG v z)).2.2.2.2.1 (rA v 500 (bG v z))).2.2.2.2.2.2.2.2.1))), (s4, .inl (gI g, 14, .inl (oI ((dR v (rA v 500 (bG v z)).2.2.2.2.1 (rA v 500 (bG v z))).2.2.2.2.2.2.2.2.2)))), (q.1, .inr (6, [.int v.1, .int (nI v.2.1), .ref q.2.1, .ref q.2.2.1, .ref q.2.2.2])), (q.2.1, .inl (gI g, 14, .inl v.2.2.1)), (q.2.2.1, .inl (gI g, 14, .inl v.2.2.2.1)), (q.2.2.2, .inl (gI g, 14, .inl v.2.2.2.2))] [] rfl rfl ⟨(by first | rfl | first | (simp only [jb_t, jb_f, c11_3, c11_3n, c11_3m, c25_6, reduceIte, eq_self, decide_true, decide_false, Bool.and_true, Bool.true_and, Bool.and_false, Bool.false_and, Bool.and_self, not_true_eq_false, not_false_eq_true, and_true, true_and, and_false, false_and, and_self]; done) | (simp [jb_t, jb_f, c11_3, c11_3n, c11_3m, c25_6]; done)), (rfl)⟩
        · skip
          refine j_aload_n (pc := 28) hX dX4_raiseAll_28 0 rfl ?_
          refine j_aload_n (pc := 29) hX dX4_raiseAll_29 1 rfl ?_
          refine j_callVV (n := 1) (As := [.ref q.1]) (rest := []) (pc := 30) hX (c_X4_makeRound g s s1 s2 s3 s4 y q v (by first | assumption | omega) (by first | assumption | omega)) (CV.of mw317 mw318 mw3 mw18 mw319 ⟨rfl, by decide +kernel, by decide +kernel, by decide +kernel⟩ (T := TX4) (N := 10) rfl) (Nat.le_of_ble_eq_true rfl) (Nat.le_of_ble_eq_true rfl) (Nat.le_of_ble_eq_true rfl) (Nat.le_of_ble_eq_true rfl) 0 rfl [0, 1, 2, 3, 4, 5, 6, 7, 8] (by decide +kernel) rfl rfl rfl (Nat.le_of_ble_eq_true rfl) dX4_raiseAll_30 (fun wz wnz hq10 => ?_)
          obtain ⟨rfl, rfl⟩ := hq10
          refine j_ws (ws2 := [(s, .inr (4, [.int ((mR v 18 (rdU y)).1), .int ((mR v 18 (rdU y)).2.1), .int (nI ((mR v 18 (rdU y)).2.2.1)), .int ((mR v 18 (rdU y)).2.2.2.1), .int (nI ((mR v 18 (rdU y)).2.2.2.2.1)), .int ((mR v 18 (rdU y)).2.2.2.2.2.1), .ref s1, .ref s2, .ref s3, .ref s4])), (s1, .inl (gI g, 18, .inl ((mR v 18 (rdU y)).2.2.2.2.2.2.1))), (s2, .inl (gI g, 14, .inl ((mR v 18 (rdU y)).2.2.2.2.2.2.2.1))), (s3, .inl (gI g, 14, .inl ((mR v 18 (rdU y)).2.2.2.2.2.2.2.2.1))), (s4, .inl (gI g, 14, .inl (oI ((mR v 18 (rdU y)).2.2.2.2.2.2.2.2.2)))), (q.1, .inr (6, [.int v.1, .int (nI v.2.1), .ref q.2.1, .ref q.2.2.1, .ref q.2.2.2])), (q.2.1, .inl (gI g, 14, .inl v.2.2.1)), (q.2.2.1, .inl (gI g, 14, .inl v.2.2.2.1)), (q.2.2.2, .inl (gI g, 14, .inl v.2.2.2.2))]) rfl ?_
          refine j_iinc (v := nI (i + 1)) (lv2 := [(0, .ref s), (1, .ref q.1), (2, .int (nI (i + 1)))]) (pc := 33) hX dX4_raiseAll_33 2 rfl (nI_add i 1) [1, 2, 0] (by decide) rfl ?_
          refine j_goto (tgt := 7) (pc := 36) hX dX4_raiseAll_36 (by decide) ?_
          exact j_eq (lv2 := [(0, .ref s), (1, .ref q.1), (2, .int (nI (i + 1)))]) (ws2 := [(s, .inr (4, [.int (mR v 18 (rdU y)).1, .int (mR v 18 (rdU y)).2.1, .int (nI (mR v 18 (rdU y)).2.2.1), .int (mR v 18 (rdU y)).2.2.2.1, .int (nI (mR v 18 (rdU y)).2.2.2.2.1), .int (mR v 18 (rdU y)).2.2.2.2.2.1, .ref s1, .ref s2, .ref s3, .ref s4])), (s1, .inl (gI g, 18, .inl (mR v 18 (rdU y)).2.2.2.2.2.2.1)), (s2, .inl (gI g, 14, .inl (mR v 18 (rdU y)).2.2.2.2.2.2.2.1)), (s3, .inl (gI g, 14, .inl (mR v 18 (rdU y)).2.2.2.2.2.2.2.2.1)), (s4, .inl (gI g, 14, .inl (oI (mR v 18 (rdU y)).2.2.2.2.2.2.2.2.2))), (q.1, .inr (6, [.int v.1, .int (nI v.2.1), .ref q.2.1, .ref q.2.2.1, .ref q.2.2.2])), (q.2.1, .inl (gI g, 14, .inl v.2.2.1)), (q.2.2.1, .inl (gI g, 14, .inl v.2.2.2.1)), (q.2.2.2, .inl (gI g, 14, .inl v.2.2.2.2))]) (by first | rfl | first | (simp only [jb_t, jb_f, c11_3, c11_3n, c11_3m, c25_6, reduceIte, eq_self, decide_true, decide_false, Bool.and_true, Bool.true_and, Bool.and_false, Bool.false_and, Bool.and_self, not_true_eq_false, not_false_eq_true, and_true, true_and, and_false, false_and, and_self]; done) | (simp [jb_t, jb_f, c11_3, c11_3n, c11_3m, c25_6]; done)) (by first | rfl | first | (simp only [jb_t, jb_f, c11_3, c11_3n, c11_3m, c25_6, reduceIte, eq_self, decide_true, decide_false, Bool.and_true, Bool.true_and, Bool.and_false, Bool.false_and, Bool.and_self, not_true_eq_false, not_false_eq_true, and_true, true_and, and_false, false_and, and_self]; done) | (simp [jb_t, jb_f, c11_3, c11_3n, c11_3m, c25_6]; done)) (ih7 _ (by omega) (i + 1) (mR v 18 (rdU y)) (by omega) (mR_tc v 18 (rdU y) htc) (by rw [show 500 - i = (500 - (i + 1)) + 1 by omega, rA, if_neg (by assumption)] at hR; exact hR) rfl)
  exact j_eq (lv2 := [(0, .ref s), (1, .ref q.1), (2, .int (nI 0))]) (ws2 := [(s, .inr (4, [.int (bG v z).1, .int (bG v z).2.1, .int (nI (bG v z).2.2.1), .int (bG v z).2.2.2.1, .int (nI (bG v z).2.2.2.2.1), .int (bG v z).2.2.2.2.2.1, .ref s1, .ref s2, .ref s3, .ref s4])), (s1, .inl (gI g, 18, .inl (bG v z).2.2.2.2.2.2.1)), (s2, .inl (gI g, 14, .inl (bG v z).2.2.2.2.2.2.2.1)), (s3, .inl (gI g, 14, .inl (bG v z).2.2.2.2.2.2.2.2.1)), (s4, .inl (gI g, 14, .inl (oI (bG v z).2.2.2.2.2.2.2.2.2))), (q.1, .inr (6, [.int v.1, .int (nI v.2.1), .ref q.2.1, .ref q.2.2.1, .ref q.2.2.2])), (q.2.1, .inl (gI g, 14, .inl v.2.2.1)), (q.2.2.1, .inl (gI g, 14, .inl v.2.2.2.1)), (q.2.2.2, .inl (gI g, 14, .inl v.2.2.2.2))]) (rfl) (rfl) (L7 _ 0 (bG v z) (by omega) (Nat.zero_le 14) (rfl) rfl)

set_option maxHeartbeats 4000000 in
set_option maxRecDepth 100000 in
theorem c_X4_sum (g : jG) (s : Nat) (s1 : Nat) (s2 : Nat) (s3 : Nat) (s4 : Nat) (z : SHT)  : jMI g yX4_sum cX4_sum 3 .int 0 0 [.ref s] [(s, .inr (4, [.int z.1, .int z.2.1, .int (nI z.2.2.1), .int z.2.2.2.1, .int (nI z.2.2.2.2.1), .int z.2.2.2.2.2.1, .ref s1, .ref s2, .ref s3, .ref s4])), (s1, .inl (gI g, 18, .inl z.2.2.2.2.2.2.1)), (s2, .inl (gI g, 14, .inl z.2.2.2.2.2.2.2.1)), (s3, .inl (gI g, 14, .inl z.2.2.2.2.2.2.2.2.1)), (s4, .inl (gI g, 14, .inl (oI z.2.2.2.2.2.2.2.2.2)))] (fun rz wz => rz = S_rs z.2.2.2.2.2.2.1 18 ∧ wz = [(s, .inr (4, [.int z.1, .int z.2.1, .int (nI z.2.2.1), .int z.2.2.2.1, .int (nI z.2.2.2.2.1), .int z.2.2.2.2.2.1, .ref s1, .ref s2, .ref s3, .ref s4])), (s1, .inl (gI g, 18, .inl z.2.2.2.2.2.2.1)), (s2, .inl (gI g, 14, .inl z.2.2.2.2.2.2.2.1)), (s3, .inl (gI g, 14, .inl z.2.2.2.2.2.2.2.2.1)), (s4, .inl (gI g, 14, .inl (oI z.2.2.2.2.2.2.2.2.2)))]) := by
  refine jMI.intro (by decide +kernel) (Nat.le_of_ble_eq_true rfl) (fun x hX hQ => ?_)
  refine j_lv (lv2 := [(0, .ref s)]) rfl ?_
  refine j_iconst (v := 0) (pc := 0) hX dX4_sum_0 (by decide) ?_
  refine j_istore_n (lv2 := [(0, .ref s), (1, .int 0)]) (pc := 1) hX dX4_sum_1 [1, 0] (by decide) rfl ?_
  refine j_iconst (v := 0) (pc := 2) hX dX4_sum_2 (by decide) ?_
  refine j_istore_n (lv2 := [(0, .ref s), (1, .int 0), (2, .int 0)]) (pc := 3) hX dX4_sum_3 [1, 2, 0] (by decide) rfl ?_
  have L4 : ∀ (d : Nat) (t : Nat), t ≤ 18 → 18 - t = d → J g x 3 0 0 4 [(0, .ref s), (1, .int (S_rs z.2.2.2.2.2.2.1 t)), (2, .int (nI t))] [] [(s, .inr (4, [.int z.1, .int z.2.1, .int (nI z.2.2.1), .int z.2.2.2.1, .int (nI z.2.2.2.2.1), .int z.2.2.2.2.2.1, .ref s1, .ref s2, .ref s3, .ref s4])), (s1, .inl (gI g, 18, .inl z.2.2.2.2.2.2.1)), (s2, .inl (gI g, 14, .inl z.2.2.2.2.2.2.2.1)), (s3, .inl (gI g, 14, .inl z.2.2.2.2.2.2.2.2.1)), (s4, .inl (gI g, 14, .inl (oI z.2.2.2.2.2.2.2.2.2)))] := by
    intro d
    induction d using Nat.strongRecOn with
    | _ d ih4 =>
      intro t ht hd4
      refine j_iload_n (pc := 4) hX dX4_sum_4 2 rfl ?_
      refine j_bipush (v := 18) (pc := 5) hX dX4_sum_5 (by decide) ?_
      refine j_icmp_ge (tgt := 25) (pc := 7) hX dX4_sum_7 (by decide) (fun c7_1 => ?_) (fun c7_1 => ?_)
      · skip
        have c7_1n : 18 ≤ t := (nI_leI (a := 18) (b := t) (by omega) (by omega)).mp c7_1
        have c7_1m : ¬ t < 18 := by omega
        refine j_iload_n (pc := 25) hX dX4_sum_25 1 rfl ?_
        exact j_iret (pc := 26) hX hQ dX4_sum_26 rfl ⟨(by rw [show t = 18 by omega]), (by first | rfl | first | (simp only [jb_t, jb_f, S_rs, c7_1, c7_1n, c7_1m, reduceIte, eq_self, decide_true, decide_false, Bool.and_true, Bool.true_and, Bool.and_false, Bool.false_and, Bool.and_self, not_true_eq_false, not_false_eq_true, and_true, true_and, and_false, false_and, and_self]; done) | (simp [jb_t, jb_f, S_rs, c7_1, c7_1n, c7_1m]; done))⟩
      · skip
        have c7_1n : ¬ 18 ≤ t := fun h9 => c7_1 ((nI_leI (a := 18) (b := t) (by omega) (by omega)).mpr h9)
        have c7_1m : t < 18 := by omega
        refine j_iload_n (pc := 10) hX dX4_sum_10 1 rfl ?_
        refine j_aload_n (pc := 11) hX dX4_sum_11 0 rfl ?_
        refine j_get (ci := 4) (pc := 12) hX inG4 rfl 6 (by decide) mw135 0 rfl rfl dX4_sum_12 ?_
        refine j_iload_n (pc := 15) hX dX4_sum_15 2 rfl ?_
        refine j_iald (pc := 16) hX 1 rfl t rfl (by omega) (by omega) dX4_sum_16 ?_
        refine j_iadd (pc := 17) hX dX4_sum_17 ?_
        refine j_istore_n (lv2 := [(0, .ref s), (1, .int ((S_rs z.2.2.2.2.2.2.1 t) + (z.2.2.2.2.2.2.1 t))), (2, .int (nI t))]) (pc := 18) hX dX4_sum_18 [1, 0, 2] (by decide) rfl ?_
        refine j_iinc (v := nI (t + 1)) (lv2 := [(0, .ref s), (1, .int ((S_rs z.2.2.2.2.2.2.1 t) + (z.2.2.2.2.2.2.1 t))), (2, .int (nI (t + 1)))]) (pc := 19) hX dX4_sum_19 2 rfl (nI_add t 1) [1, 2, 0] (by decide) rfl ?_
        refine j_goto (tgt := 4) (pc := 22) hX dX4_sum_22 (by decide) ?_
        exact j_eq (lv2 := [(0, .ref s), (1, .int (S_rs z.2.2.2.2.2.2.1 (t + 1))), (2, .int (nI (t + 1)))]) (ws2 := [(s, .inr (4, [.int z.1, .int z.2.1, .int (nI z.2.2.1), .int z.2.2.2.1, .int (nI z.2.2.2.2.1), .int z.2.2.2.2.2.1, .ref s1, .ref s2, .ref s3, .ref s4])), (s1, .inl (gI g, 18, .inl z.2.2.2.2.2.2.1)), (s2, .inl (gI g, 14, .inl z.2.2.2.2.2.2.2.1)), (s3, .inl (gI g, 14, .inl z.2.2.2.2.2.2.2.2.1)), (s4, .inl (gI g, 14, .inl (oI z.2.2.2.2.2.2.2.2.2)))]) (by first | rfl | first | (simp only [jb_t, jb_f, S_rs, c7_1, c7_1n, c7_1m, reduceIte, eq_self, decide_true, decide_false, Bool.and_true, Bool.true_and, Bool.and_false, Bool.false_and, Bool.and_self, not_true_eq_false, not_false_eq_true, and_true, true_and, and_false, false_and, and_self]; done) | (simp [jb_t, jb_f, S_rs, c7_1, c7_1n, c7_1m]; done)) (by first | rfl | first | (simp only [jb_t, jb_f, S_rs, c7_1, c7_1n, c7_1m, reduceIte, eq_self, decide_true, decide_false, Bool.and_true, Bool.true_and, Bool.and_false, Bool.false_and, Bool.and_self, not_true_eq_false, not_false_eq_true, and_true, true_and, and_false, false_and, and_self]; done) | (simp [jb_t, jb_f, S_rs, c7_1, c7_1n, c7_1m]; done)) (ih4 _ (by omega) (t + 1) (by omega) rfl)
  exact j_eq (lv2 := [(0, .ref s), (1, .int (S_rs z.2.2.2.2.2.2.1 0)), (2, .int (nI 0))]) (ws2 := [(s, .inr (4, [.int z.1, .int z.2.1, .int (nI z.2.2.1), .int z.2.2.2.1, .int (nI z.2.2.2.2.1), .int z.2.2.2.2.2.1, .ref s1, .ref s2, .ref s3, .ref s4])), (s1, .inl (gI g, 18, .inl z.2.2.2.2.2.2.1)), (s2, .inl (gI g, 14, .inl z.2.2.2.2.2.2.2.1)), (s3, .inl (gI g, 14, .inl z.2.2.2.2.2.2.2.2.1)), (s4, .inl (gI g, 14, .inl (oI z.2.2.2.2.2.2.2.2.2)))]) (rfl) (rfl) (L4 _ 0 (by omega) rfl)

