/-! the greedy cover, by its loops -/
def oN (b : Option Nat) : Int32 := match b with
  | none => -6
  | some k => nI k
theorem oN_none {b : Option Nat} (h : ∀ k, b = some k → k < 100) (he : oN b = -6) : b = none := by
  cases b with
  | none => rfl
  | some k =>
    have hk := h k rfl
    have h1 : nI k = -6 := he
    have h2 : ¬ nI k < 0 := nI_pos (by omega)
    rw [h1] at h2
    exact absurd (by decide) h2
theorem oN_some {b : Option Nat} (h : ∀ k, b = some k → k < 100) (he : ¬ oN b = -6) : ∃ k, b = some k := by
  cases b with
  | none => exact absurd rfl he
  | some k => exact ⟨k, rfl⟩
abbrev BT : Type := Option Nat × Int32 × Int32
def bB (v : StT) (mi : Int32) : Nat → BT
  | 0 => (none, 0, 0)
  | i + 1 => if v.2.2.2.2 i = 0 then (if popC (v.2.2.1 i &&& mi) = 0 then bB v mi i else if oN (bB v mi i).1 = -6 then (some i, v.2.2.2.1 i, popC (v.2.2.1 i &&& mi)) else if (bB v mi i).2.1 * popC (v.2.2.1 i &&& mi) ≤ v.2.2.2.1 i * (bB v mi i).2.2 then bB v mi i else (some i, v.2.2.2.1 i, popC (v.2.2.1 i &&& mi))) else bB v mi i
theorem bB_lt (v : StT) (mi : Int32) : ∀ (i k : Nat), (bB v mi i).1 = some k → k < i
  | 0, k, h => by cases h
  | i + 1, k, h => by
    rw [bB] at h
    repeat' split at h
    all_goals first | (cases h; omega) | (have := bB_lt v mi i k h; omega)
def gCh (v : StT) : Nat → Int32 × Int32 → Int32 × Int32
  | 0, z => z
  | k + 1, z => if S_miss v.2.2.1 v.1 v.2.1 z.1 = 0 then z else match (bB v (S_miss v.2.2.1 v.1 v.2.1 z.1) v.2.1).1 with
    | none => z
    | some b => gCh v k (z.1 ||| bI b, nI b)
def gS0 (v : StT) : Int32 × Int32 := (S_mk v.2.2.2.2 1 v.2.1, -6)
/-! the walk: needed, free, freeThings, freePrices, freeMasks, sets, prices, things, thingsTwice -/
abbrev WT : Type := Int32 × Nat × (Nat → Int32) × (Nat → Int32) × (Nat → Int32) × (Nat → Int32) × (Nat → Int32) × (Nat → Int32) × (Nat → Int32)
def jn (z : WT) (l f : Nat) (mask th pr : Int32) : WT := (z.1, z.2.1, z.2.2.1, z.2.2.2.1, z.2.2.2.2.1, upd z.2.2.2.2.2.1 l (z.2.2.2.2.2.1 f ||| mask), upd z.2.2.2.2.2.2.1 l (z.2.2.2.2.2.2.1 f + pr), upd z.2.2.2.2.2.2.2.1 l (z.2.2.2.2.2.2.2.1 f ||| th), upd z.2.2.2.2.2.2.2.2 l (z.2.2.2.2.2.2.2.2 f ||| z.2.2.2.2.2.2.2.1 f &&& th))
def nF (z : WT) (mask th pr : Int32) : WT := if z.2.1 < 14 then (z.1, z.2.1 + 1, upd z.2.2.1 z.2.1 th, upd z.2.2.2.1 z.2.1 pr, upd z.2.2.2.2.1 z.2.1 mask, z.2.2.2.2.2.1, z.2.2.2.2.2.2.1, z.2.2.2.2.2.2.2.1, z.2.2.2.2.2.2.2.2) else z
def jL (z : WT) (mask th pr : Int32) : Nat → WT
  | 0 => z
  | l + 1 => jn (jL z mask th pr l) l l mask th pr
def wS (v : StT) : Nat → WT → WT
  | 0, z => z
  | i + 1, z => if v.2.2.2.2 i = 0 then nF (wS v i z) (bI i) (v.2.2.1 i) (v.2.2.2.1 i) else if v.2.2.2.2 i = 1 then jL (wS v i z) (bI i) (v.2.2.1 i) (v.2.2.2.1 i) 15 else wS v i z
def w0 (v : StT) (z : WT) : WT := (v.1, 0, z.2.2.1, z.2.2.2.1, z.2.2.2.2.1, S_fill 0 z.2.2.2.2.2.1 15, S_fill 0 z.2.2.2.2.2.2.1 15, S_fill 0 z.2.2.2.2.2.2.2.1 15, S_fill 0 z.2.2.2.2.2.2.2.2 15)
def wBg (v : StT) (z : WT) : WT := wS v v.2.1 (w0 v z)
def wN (v : StT) (z : WT) : Nat := 2 ^ (wBg v z).2.1
def tzr : Nat → Nat → Nat
  | 0, _ => 32
  | f + 1, s => if s % 2 = 1 then 0 else tzr f (s / 2) + 1
def tz (s : Nat) : Nat := if s = 0 then 32 else tzr 18 s
def gL (y : WT) (p : Nat) : Nat → WT
  | 0 => y
  | l + 1 => jn (gL y p l) l p 0 0 0
def gT (z : WT) (s : Nat) : WT := if z.2.1 ≤ tz s then z else if 14 ≤ tz s then z else gL (jn z (tz s) (tz s + 1) (z.2.2.2.2.1 (tz s)) (z.2.2.1 (tz s)) (z.2.2.2.1 (tz s))) (tz s) (tz s)
def wG (v : StT) (z : WT) : Nat → WT
  | 0 => wBg v z
  | s + 1 => gT (wG v z s) s
def wMs (w : WT) : Int32 := w.1 &&& (w.2.2.2.2.2.2.2.1 0 ^^^ (-1))
def wHo (w : WT) : Int32 := w.1 &&& (w.2.2.2.2.2.2.2.2 0 ^^^ (-1))
def nSb (w : WT) (i : Nat) : Bool := decide (w.2.2.2.2.2.1 0 &&& w.2.2.2.2.1 i = 0) || !(decide (w.2.2.1 i &&& wHo w = 0))
def nSp (w : WT) : Nat → Bool
  | 0 => true
  | i + 1 => nSp w i && nSb w i
theorem nSp_f (w : WT) {i : Nat} (h : nSp w i = false) : ∀ j, i ≤ j → nSp w j = false
  | 0, hj => by rw [show i = 0 by omega] at h; exact h
  | j + 1, hj => by
    by_cases he : i = j + 1
    · rw [← he]; exact h
    · rw [nSp, nSp_f w h j (by omega)]; rfl
theorem nF_fr {z : WT} {mask th pr : Int32} (h : z.2.1 ≤ 14) : (nF z mask th pr).2.1 ≤ 14 := by
  unfold nF
  split
  · show z.2.1 + 1 ≤ 14
    omega
  · exact h
theorem jL_fr (z : WT) (mask th pr : Int32) : ∀ l, (jL z mask th pr l).2.1 = z.2.1
  | 0 => rfl
  | l + 1 => jL_fr z mask th pr l
theorem wS_fr (v : StT) : ∀ (i : Nat) (z : WT), z.2.1 ≤ 14 → (wS v i z).2.1 ≤ 14
  | 0, _, h => h
  | i + 1, z, h => by
    have h1 := wS_fr v i z h
    unfold wS
    repeat' split
    · exact nF_fr h1
    · rw [jL_fr]; exact h1
    · exact h1
theorem wBg_fr (v : StT) (z : WT) : (wBg v z).2.1 ≤ 14 := wS_fr v v.2.1 (w0 v z) (Nat.zero_le 14)
theorem gL_fr (y : WT) (p : Nat) : ∀ l, (gL y p l).2.1 = y.2.1
  | 0 => rfl
  | l + 1 => gL_fr y p l
theorem gT_fr (z : WT) (s : Nat) : (gT z s).2.1 = z.2.1 := by
  unfold gT
  repeat' split
  · rfl
  · rfl
  · rw [gL_fr]; rfl
theorem wG_fr (v : StT) (z : WT) : ∀ s, (wG v z s).2.1 = (wBg v z).2.1
  | 0 => rfl
  | s + 1 => by rw [wG, gT_fr, wG_fr v z s]
theorem wG_14 (v : StT) (z : WT) (s : Nat) : (wG v z s).2.1 ≤ 14 := by rw [wG_fr]; exact wBg_fr v z
theorem pw14 {k : Nat} (h : k ≤ 14) : 2 ^ k ≤ 16384 := (Nat.pow_le_pow_right (n := 2) (by decide) h : 2 ^ k ≤ 2 ^ 14)
theorem bI_pow : ∀ k, k < 31 → bI k = nI (2 ^ k) := by decide +kernel
theorem tz_b : ∀ a, a < 128 → ∀ b, b < 128 → ntzC (nI (128 * a + b)) = nI (tz (128 * a + b)) := by decide +kernel
theorem tz_c {s : Nat} (h : s < 16384) : ntzC (nI s) = nI (tz s) := by
  have h1 := tz_b (s / 128) (by omega) (s % 128) (by omega)
  rwa [show 128 * (s / 128) + s % 128 = s by omega] at h1
theorem tz_k : ∀ k, k < 18 → ntzC (bI k) = nI k := by decide +kernel
theorem tzr_le : ∀ f s, tzr f s ≤ f + 32
  | 0, _ => Nat.le_refl 32
  | f + 1, s => by
    rw [tzr]
    split
    · omega
    · have := tzr_le f (s / 2)
      omega
theorem tz_le (s : Nat) : tz s ≤ 50 := by
  unfold tz
  split
  · omega
  · exact tzr_le 18 s

set_option maxHeartbeats 4000000 in
set_option maxRecDepth 100000 in
theorem c_X0_best (g : jG) (q : adT) (v : StT) (mi : Int32) (hv : v.2.1 ≤ 14) : jMI g yX0_bestByRate cX0_bestByRate 7 .int 1 20 [.ref q.1, .int mi] [(q.1, .inr (6, [.int v.1, .int (nI v.2.1), .ref q.2.1, .ref q.2.2.1, .ref q.2.2.2])), (q.2.1, .inl (gI g, 14, .inl v.2.2.1)), (q.2.2.1, .inl (gI g, 14, .inl v.2.2.2.1)), (q.2.2.2, .inl (gI g, 14, .inl v.2.2.2.2))] (fun rz wz => rz = oN (bB v mi v.2.1).1 ∧ wz = [(q.1, .inr (6, [.int v.1, .int (nI v.2.1), .ref q.2.1, .ref q.2.2.1, .ref q.2.2.2])), (q.2.1, .inl (gI g, 14, .inl v.2.2.1)), (q.2.2.1, .inl (gI g, 14, .inl v.2.2.2.1)), (q.2.2.2, .inl (gI g, 14, .inl v.2.2.2.2))]) := by
  refine jMI.intro (by decide +kernel) (Nat.le_of_ble_eq_true rfl) (fun x hX hQ => ?_)
  refine j_lv (lv2 := [(0, .ref q.1), (1, .int mi)]) rfl ?_
  refine j_bipush (v := (-6)) (pc := 0) hX dX0_bestByRate_0 (by decide) ?_
  refine j_istore_n (lv2 := [(0, .ref q.1), (1, .int mi), (2, .int (-6))]) (pc := 2) hX dX0_bestByRate_2 [1, 2, 0] (by decide) rfl ?_
  refine j_iconst (v := 0) (pc := 3) hX dX0_bestByRate_3 (by decide) ?_
  refine j_istore_n (lv2 := [(0, .ref q.1), (1, .int mi), (2, .int (-6)), (3, .int 0)]) (pc := 4) hX dX0_bestByRate_4 [1, 2, 3, 0] (by decide) rfl ?_
  refine j_iconst (v := 0) (pc := 5) hX dX0_bestByRate_5 (by decide) ?_
  refine j_istore (lv2 := [(0, .ref q.1), (1, .int mi), (2, .int (-6)), (3, .int 0), (4, .int 0)]) (pc := 6) hX dX0_bestByRate_6 [1, 2, 3, 4, 0] (by decide) rfl ?_
  refine j_iconst (v := 0) (pc := 8) hX dX0_bestByRate_8 (by decide) ?_
  refine j_istore (lv2 := [(0, .ref q.1), (1, .int mi), (2, .int (-6)), (3, .int 0), (4, .int 0), (5, .int 0)]) (pc := 9) hX dX0_bestByRate_9 [1, 2, 3, 4, 5, 0] (by decide) rfl ?_
  have L11 : ∀ (d : Nat) (i : Nat), i ≤ v.2.1 → v.2.1 - i = d → J g x 7 0 0 11 [(0, .ref q.1), (1, .int mi), (2, .int (oN (bB v mi i).1)), (3, .int ((bB v mi i).2.1)), (4, .int ((bB v mi i).2.2)), (5, .int (nI i))] [] [(q.1, .inr (6, [.int v.1, .int (nI v.2.1), .ref q.2.1, .ref q.2.2.1, .ref q.2.2.2])), (q.2.1, .inl (gI g, 14, .inl v.2.2.1)), (q.2.2.1, .inl (gI g, 14, .inl v.2.2.2.1)), (q.2.2.2, .inl (gI g, 14, .inl v.2.2.2.2))] := by
    intro d
    induction d using Nat.strongRecOn with
    | _ d ih11 =>
      intro i hi hd11
      refine j_iload (pc := 11) hX dX0_bestByRate_11 5 rfl ?_
      refine j_aload_n (pc := 13) hX dX0_bestByRate_13 0 rfl ?_
      refine j_getN (ci := 6) (pc := 14) hX inG6 rfl 1 (by decide) mw45 0 rfl rfl dX0_bestByRate_14 ?_
      refine j_icmp_ge (tgt := 96) (pc := 17) hX dX0_bestByRate_17 (by decide) (fun c17_1 => ?_) (fun c17_1 => ?_)
      · skip
        have c17_1n : v.2.1 ≤ i := (nI_leI (a := v.2.1) (b := i) (by omega) (by omega)).mp c17_1
        have c17_1m : ¬ i < v.2.1 := by omega
        refine j_iload_n (pc := 96) hX dX0_bestByRate_96 2 rfl ?_
        exact j_iret (pc := 97) hX hQ dX0_bestByRate_97 rfl ⟨(by rw [show i = v.2.1 by omega]), (by first | rfl | first | (simp only [jb_t, jb_f, c17_1, c17_1n, c17_1m, reduceIte, eq_self, decide_true, decide_false, Bool.and_true, Bool.true_and, Bool.and_false, Bool.false_and, Bool.and_self, not_true_eq_false, not_false_eq_true, and_true, true_and, and_false, false_and, and_self]; done) | (simp [jb_t, jb_f, c17_1, c17_1n, c17_1m]; done))⟩
      · skip
        have c17_1n : ¬ v.2.1 ≤ i := fun h9 => c17_1 ((nI_leI (a := v.2.1) (b := i) (by omega) (by omega)).mpr h9)
        have c17_1m : i < v.2.1 := by omega
        refine j_aload_n (pc := 20) hX dX0_bestByRate_20 0 rfl ?_
        refine j_getN (ci := 6) (pc := 21) hX inG6 rfl 2 (by decide) mw50 0 rfl rfl dX0_bestByRate_21 ?_
        refine j_iload (pc := 24) hX dX0_bestByRate_24 5 rfl ?_
        refine j_iald (pc := 26) hX 1 rfl i rfl (by omega) (by omega) dX0_bestByRate_26 ?_
        refine j_iload_n (pc := 27) hX dX0_bestByRate_27 1 rfl ?_
        refine j_iand (pc := 28) hX dX0_bestByRate_28 ?_
        refine j_callSI (n := 1) (As := [.int ((v.2.2.1 i) &&& mi)]) (rest := []) (pc := 29) hX (c_J6_bitCount g ((v.2.2.1 i) &&& mi) ) (CS.of mw391 mw283 mw22 mw284 ⟨by decide +kernel, by decide +kernel, by decide +kernel⟩) (Nat.le_of_ble_eq_true rfl) (Nat.le_of_ble_eq_true rfl) (Nat.le_of_ble_eq_true rfl) (Nat.le_of_ble_eq_true rfl) [] (by decide +kernel) rfl rfl rfl (Nat.le_of_ble_eq_true rfl) dX0_bestByRate_29 (fun r2 wz hq3 => ?_)
        obtain ⟨rfl, rfl⟩ := hq3
        refine j_ws (ws2 := [(q.1, .inr (6, [.int v.1, .int (nI v.2.1), .ref q.2.1, .ref q.2.2.1, .ref q.2.2.2])), (q.2.1, .inl (gI g, 14, .inl v.2.2.1)), (q.2.2.1, .inl (gI g, 14, .inl v.2.2.2.1)), (q.2.2.2, .inl (gI g, 14, .inl v.2.2.2.2))]) rfl ?_
        refine j_istore (lv2 := [(0, .ref q.1), (1, .int mi), (2, .int (oN (bB v mi i).1)), (3, .int ((bB v mi i).2.1)), (4, .int ((bB v mi i).2.2)), (5, .int (nI i)), (6, .int (popC ((v.2.2.1 i) &&& mi)))]) (pc := 32) hX dX0_bestByRate_32 [1, 2, 3, 4, 5, 6, 0] (by decide) rfl ?_
        refine j_aload_n (pc := 34) hX dX0_bestByRate_34 0 rfl ?_
        refine j_getN (ci := 6) (pc := 35) hX inG6 rfl 4 (by decide) mw60 0 rfl rfl dX0_bestByRate_35 ?_
        refine j_iload (pc := 38) hX dX0_bestByRate_38 5 rfl ?_
        refine j_iald (pc := 40) hX 3 rfl i rfl (by omega) (by omega) dX0_bestByRate_40 ?_
        refine j_if_ne (tgt := 90) (pc := 41) hX dX0_bestByRate_41 (by decide) (fun c41_4 => ?_) (fun c41_4 => ?_)
        · skip
          refine j_iinc (v := nI (i + 1)) (lv2 := [(0, .ref q.1), (1, .int mi), (2, .int (oN (bB v mi i).1)), (3, .int ((bB v mi i).2.1)), (4, .int ((bB v mi i).2.2)), (5, .int (nI (i + 1))), (6, .int (popC ((v.2.2.1 i) &&& mi)))]) (pc := 90) hX dX0_bestByRate_90 5 rfl (nI_add i 1) [1, 2, 3, 4, 5, 0, 6] (by decide) rfl ?_
          refine j_goto (tgt := 11) (pc := 93) hX dX0_bestByRate_93 (by decide) ?_
          refine j_lvs (lv2 := [(0, .ref q.1), (1, .int mi), (2, .int (oN (bB v mi i).1)), (3, .int ((bB v mi i).2.1)), (4, .int ((bB v mi i).2.2)), (5, .int (nI (i + 1)))]) [0, 1, 2, 3, 4, 5] rfl ?_
          exact j_eq (lv2 := [(0, .ref q.1), (1, .int mi), (2, .int (oN (bB v mi (i + 1)).1)), (3, .int ((bB v mi (i + 1)).2.1)), (4, .int ((bB v mi (i + 1)).2.2)), (5, .int (nI (i + 1)))]) (ws2 := [(q.1, .inr (6, [.int v.1, .int (nI v.2.1), .ref q.2.1, .ref q.2.2.1, .ref q.2.2.2])), (q.2.1, .inl (gI g, 14, .inl v.2.2.1)), (q.2.2.1, .inl (gI g, 14, .inl v.2.2.2.1)), (q.2.2.2, .inl (gI g, 14, .inl v.2.2.2.2))]) (by first | (simp only [bB, c17_1, c17_1n, c17_1m, c41_4, reduceIte, eq_self]; first | done | rfl) | rfl) (by first | (simp only [bB, c17_1, c17_1n, c17_1m, c41_4, reduceIte, eq_self]; first | done | rfl) | rfl) (ih11 _ (by omega) (i + 1) (by omega) rfl)
        · skip
          refine j_iload (pc := 44) hX dX0_bestByRate_44 6 rfl ?_
          refine j_if_ne (tgt := 52) (pc := 46) hX dX0_bestByRate_46 (by decide) (fun c46_5 => ?_) (fun c46_5 => ?_)
          · skip
            refine j_iload_n (pc := 52) hX dX0_bestByRate_52 2 rfl ?_
            refine j_bipush (v := (-6)) (pc := 53) hX dX0_bestByRate_53 (by decide) ?_
            refine j_icmp_eq (tgt := 75) (pc := 55) hX dX0_bestByRate_55 (by decide) (fun c55_6 => ?_) (fun c55_6 => ?_)
            · skip
              refine j_iload (pc := 75) hX dX0_bestByRate_75 5 rfl ?_
              refine j_istore_n (lv2 := [(0, .ref q.1), (1, .int mi), (2, .int (nI i)), (3, .int ((bB v mi i).2.1)), (4, .int ((bB v mi i).2.2)), (5, .int (nI i)), (6, .int (popC ((v.2.2.1 i) &&& mi)))]) (pc := 77) hX dX0_bestByRate_77 [1, 2, 0, 3, 4, 5, 6] (by decide) rfl ?_
              refine j_aload_n (pc := 78) hX dX0_bestByRate_78 0 rfl ?_
              refine j_getN (ci := 6) (pc := 79) hX inG6 rfl 3 (by decide) mw55 0 rfl rfl dX0_bestByRate_79 ?_
              refine j_iload (pc := 82) hX dX0_bestByRate_82 5 rfl ?_
              refine j_iald (pc := 84) hX 2 rfl i rfl (by omega) (by omega) dX0_bestByRate_84 ?_
              refine j_istore_n (lv2 := [(0, .ref q.1), (1, .int mi), (2, .int (nI i)), (3, .int (v.2.2.2.1 i)), (4, .int ((bB v mi i).2.2)), (5, .int (nI i)), (6, .int (popC ((v.2.2.1 i) &&& mi)))]) (pc := 85) hX dX0_bestByRate_85 [1, 2, 3, 0, 4, 5, 6] (by decide) rfl ?_
              refine j_iload (pc := 86) hX dX0_bestByRate_86 6 rfl ?_
              refine j_istore (lv2 := [(0, .ref q.1), (1, .int mi), (2, .int (nI i)), (3, .int (v.2.2.2.1 i)), (4, .int (popC ((v.2.2.1 i) &&& mi))), (5, .int (nI i)), (6, .int (popC ((v.2.2.1 i) &&& mi)))]) (pc := 88) hX dX0_bestByRate_88 [1, 2, 3, 4, 0, 5, 6] (by decide) rfl ?_
              refine j_iinc (v := nI (i + 1)) (lv2 := [(0, .ref q.1), (1, .int mi), (2, .int (nI i)), (3, .int (v.2.2.2.1 i)), (4, .int (popC ((v.2.2.1 i) &&& mi))), (5, .int (nI (i + 1))), (6, .int (popC ((v.2.2.1 i) &&& mi)))]) (pc := 90) hX dX0_bestByRate_90 5 rfl (nI_add i 1) [1, 2, 3, 4, 5, 0, 6] (by decide) rfl ?_
              refine j_goto (tgt := 11) (pc := 93) hX dX0_bestByRate_93 (by decide) ?_
              refine j_lvs (lv2 := [(0, .ref q.1), (1, .int mi), (2, .int (nI i)), (3, .int (v.2.2.2.1 i)), (4, .int (popC ((v.2.2.1 i) &&& mi))), (5, .int (nI (i + 1)))]) [0, 1, 2, 3, 4, 5] rfl ?_
              exact j_eq (lv2 := [(0, .ref q.1), (1, .int mi), (2, .int (oN (bB v mi (i + 1)).1)), (3, .int ((bB v mi (i + 1)).2.1)), (4, .int ((bB v mi (i + 1)).2.2)), (5, .int (nI (i + 1)))]) (ws2 := [(q.1, .inr (6, [.int v.1, .int (nI v.2.1), .ref q.2.1, .ref q.2.2.1, .ref q.2.2.2])), (q.2.1, .inl (gI g, 14, .inl v.2.2.1)), (q.2.2.1, .inl (gI g, 14, .inl v.2.2.2.1)), (q.2.2.2, .inl (gI g, 14, .inl v.2.2.2.2))]) (by first | (simp only [bB, c17_1, c17_1n, c17_1m, c41_4, c46_5, c55_6, reduceIte, eq_self]; first | done | rfl) | rfl) (by first | (simp only [bB, c17_1, c17_1n, c17_1m, c41_4, c46_5, c55_6, reduceIte, eq_self]; first | done | rfl) | rfl) (ih11 _ (by omega) (i + 1) (by omega) rfl)
            · skip
              refine j_aload_n (pc := 58) hX dX0_bestByRate_58 0 rfl ?_
              refine j_getN (ci := 6) (pc := 59) hX inG6 rfl 3 (by decide) mw55 0 rfl rfl dX0_bestByRate_59 ?_
              refine j_iload (pc := 62) hX dX0_bestByRate_62 5 rfl ?_
              refine j_iald (pc := 64) hX 2 rfl i rfl (by omega) (by omega) dX0_bestByRate_64 ?_
              refine j_iload (pc := 65) hX dX0_bestByRate_65 4 rfl ?_
              refine j_imul (pc := 67) hX dX0_bestByRate_67 ?_
              refine j_iload_n (pc := 68) hX dX0_bestByRate_68 3 rfl ?_
              refine j_iload (pc := 69) hX dX0_bestByRate_69 6 rfl ?_
              refine j_imul (pc := 71) hX dX0_bestByRate_71 ?_
              refine j_icmp_ge (tgt := 90) (pc := 72) hX dX0_bestByRate_72 (by decide) (fun c72_7 => ?_) (fun c72_7 => ?_)
              · skip
                refine j_iinc (v := nI (i + 1)) (lv2 := [(0, .ref q.1), (1, .int mi), (2, .int (oN (bB v mi i).1)), (3, .int ((bB v mi i).2.1)), (4, .int ((bB v mi i).2.2)), (5, .int (nI (i + 1))), (6, .int (popC ((v.2.2.1 i) &&& mi)))]) (pc := 90) hX dX0_bestByRate_90 5 rfl (nI_add i 1) [1, 2, 3, 4, 5, 0, 6] (by decide) rfl ?_
                refine j_goto (tgt := 11) (pc := 93) hX dX0_bestByRate_93 (by decide) ?_
                refine j_lvs (lv2 := [(0, .ref q.1), (1, .int mi), (2, .int (oN (bB v mi i).1)), (3, .int ((bB v mi i).2.1)), (4, .int ((bB v mi i).2.2)), (5, .int (nI (i + 1)))]) [0, 1, 2, 3, 4, 5] rfl ?_
                exact j_eq (lv2 := [(0, .ref q.1), (1, .int mi), (2, .int (oN (bB v mi (i + 1)).1)), (3, .int ((bB v mi (i + 1)).2.1)), (4, .int ((bB v mi (i + 1)).2.2)), (5, .int (nI (i + 1)))]) (ws2 := [(q.1, .inr (6, [.int v.1, .int (nI v.2.1), .ref q.2.1, .ref q.2.2.1, .ref q.2.2.2])), (q.2.1, .inl (gI g, 14, .inl v.2.2.1)), (q.2.2.1, .inl (gI g, 14, .inl v.2.2.2.1)), (q.2.2.2, .inl (gI g, 14, .inl v.2.2.2.2))]) (by first | (simp only [bB, c17_1, c17_1n, c17_1m, c41_4, c46_5, c55_6, c72_7, reduceIte, eq_self]; first | done | rfl) | rfl) (by first | (simp only [bB, c17_1, c17_1n, c17_1m, c41_4, c46_5, c55_6, c72_7, reduceIte, eq_self]; first | done | rfl) | rfl) (ih11 _ (by omega) (i + 1) (by omega) rfl)
              · skip
                refine j_iload (pc := 75) hX dX0_bestByRate_75 5 rfl ?_
                refine j_istore_n (lv2 := [(0, .ref q.1), (1, .int mi), (2, .int (nI i)), (3, .int ((bB v mi i).2.1)), (4, .int ((bB v mi i).2.2)), (5, .int (nI i)), (6, .int (popC ((v.2.2.1 i) &&& mi)))]) (pc := 77) hX dX0_bestByRate_77 [1, 2, 0, 3, 4, 5, 6] (by decide) rfl ?_
                refine j_aload_n (pc := 78) hX dX0_bestByRate_78 0 rfl ?_
                refine j_getN (ci := 6) (pc := 79) hX inG6 rfl 3 (by decide) mw55 0 rfl rfl dX0_bestByRate_79 ?_
                refine j_iload (pc := 82) hX dX0_bestByRate_82 5 rfl ?_
                refine j_iald (pc := 84) hX 2 rfl i rfl (by omega) (by omega) dX0_bestByRate_84 ?_
                refine j_istore_n (lv2 := [(0, .ref q.1), (1, .int mi), (2, .int (nI i)), (3, .int (v.2.2.2.1 i)), (4, .int ((bB v mi i).2.2)), (5, .int (nI i)), (6, .int (popC ((v.2.2.1 i) &&& mi)))]) (pc := 85) hX dX0_bestByRate_85 [1, 2, 3, 0, 4, 5, 6] (by decide) rfl ?_
                refine j_iload (pc := 86) hX dX0_bestByRate_86 6 rfl ?_
                refine j_istore (lv2 := [(0, .ref q.1), (1, .int mi), (2, .int (nI i)), (3, .int (v.2.2.2.1 i)), (4, .int (popC ((v.2.2.1 i) &&& mi))), (5, .int (nI i)), (6, .int (popC ((v.2.2.1 i) &&& mi)))]) (pc := 88) hX dX0_bestByRate_88 [1, 2, 3, 4, 0, 5, 6] (by decide) rfl ?_
                refine j_iinc (v := nI (i + 1)) (lv2 := [(0, .ref q.1), (1, .int mi), (2, .int (nI i)), (3, .int (v.2.2.2.1 i)), (4, .int (popC ((v.2.2.1 i) &&& mi))), (5, .int (nI (i + 1))), (6, .int (popC ((v.2.2.1 i) &&& mi)))]) (pc := 90) hX dX0_bestByRate_90 5 rfl (nI_add i 1) [1, 2, 3, 4, 5, 0, 6] (by decide) rfl ?_
                refine j_goto (tgt := 11) (pc := 93) hX dX0_bestByRate_93 (by decide) ?_
                refine j_lvs (lv2 := [(0, .ref q.1), (1, .int mi), (2, .int (nI i)), (3, .int (v.2.2.2.1 i)), (4, .int (popC ((v.2.2.1 i) &&& mi))), (5, .int (nI (i + 1)))]) [0, 1, 2, 3, 4, 5] rfl ?_
                exact j_eq (lv2 := [(0, .ref q.1), (1, .int mi), (2, .int (oN (bB v mi (i + 1)).1)), (3, .int ((bB v mi (i + 1)).2.1)), (4, .int ((bB v mi (i + 1)).2.2)), (5, .int (nI (i + 1)))]) (ws2 := [(q.1, .inr (6, [.int v.1, .int (nI v.2.1), .ref q.2.1, .ref q.2.2.1, .ref q.2.2.2])), (q.2.1, .inl (gI g, 14, .inl v.2.2.1)), (q.2.2.1, .inl (gI g, 14, .inl v.2.2.2.1)), (q.2.2.2, .inl (gI g, 14, .inl v.2.2.2.2))]) (by first | (simp only [bB, c17_1, c17_1n, c17_1m, c41_4, c46_5, c55_6, c72_7, reduceIte, eq_self]; first | done | rfl) | rfl) (by first | (simp only [bB, c17_1, c17_1n, c17_1m, c41_4, c46_5, c55_6, c72_7, reduceIte, eq_self]; first | done | rfl) | rfl) (ih11 _ (by omega) (i + 1) (by omega) rfl)
          · skip
            refine j_goto (tgt := 90) (pc := 49) hX dX0_bestByRate_49 (by decide) ?_
            refine j_iinc (v := nI (i + 1)) (lv2 := [(0, .ref q.1), (1, .int mi), (2, .int (oN (bB v mi i).1)), (3, .int ((bB v mi i).2.1)), (4, .int ((bB v mi i).2.2)), (5, .int (nI (i + 1))), (6, .int (popC ((v.2.2.1 i) &&& mi)))]) (pc := 90) hX dX0_bestByRate_90 5 rfl (nI_add i 1) [1, 2, 3, 4, 5, 0, 6] (by decide) rfl ?_
            refine j_goto (tgt := 11) (pc := 93) hX dX0_bestByRate_93 (by decide) ?_
            refine j_lvs (lv2 := [(0, .ref q.1), (1, .int mi), (2, .int (oN (bB v mi i).1)), (3, .int ((bB v mi i).2.1)), (4, .int ((bB v mi i).2.2)), (5, .int (nI (i + 1)))]) [0, 1, 2, 3, 4, 5] rfl ?_
            exact j_eq (lv2 := [(0, .ref q.1), (1, .int mi), (2, .int (oN (bB v mi (i + 1)).1)), (3, .int ((bB v mi (i + 1)).2.1)), (4, .int ((bB v mi (i + 1)).2.2)), (5, .int (nI (i + 1)))]) (ws2 := [(q.1, .inr (6, [.int v.1, .int (nI v.2.1), .ref q.2.1, .ref q.2.2.1, .ref q.2.2.2])), (q.2.1, .inl (gI g, 14, .inl v.2.2.1)), (q.2.2.1, .inl (gI g, 14, .inl v.2.2.2.1)), (q.2.2.2, .inl (gI g, 14, .inl v.2.2.2.2))]) (by first | (simp only [bB, c17_1, c17_1n, c17_1m, c41_4, c46_5, reduceIte, eq_self]; first | done | rfl) | rfl) (by first | (simp only [bB, c17_1, c17_1n, c17_1m, c41_4, c46_5, reduceIte, eq_self]; first | done | rfl) | rfl) (ih11 _ (by omega) (i + 1) (by omega) rfl)
  exact j_eq (lv2 := [(0, .ref q.1), (1, .int mi), (2, .int (oN (bB v mi 0).1)), (3, .int ((bB v mi 0).2.1)), (4, .int ((bB v mi 0).2.2)), (5, .int (nI 0))]) (ws2 := [(q.1, .inr (6, [.int v.1, .int (nI v.2.1), .ref q.2.1, .ref q.2.2.1, .ref q.2.2.2])), (q.2.1, .inl (gI g, 14, .inl v.2.2.1)), (q.2.2.1, .inl (gI g, 14, .inl v.2.2.2.1)), (q.2.2.2, .inl (gI g, 14, .inl v.2.2.2.2))]) (rfl) (rfl) (L11 _ 0 (by omega) rfl)

set_option maxHeartbeats 4000000 in
set_option maxRecDepth 100000 in
theorem c_X0_choose (g : jG) (gr : Nat) (g1 : Int32) (g2 : Int32) (q : adT) (v : StT) (hv : v.2.1 ≤ 14) : jMV g yX0_choose cX0_choose 4 3 65 0 0 [.ref gr, .ref q.1] [(gr, .inr (0, [.int g1, .int g2])), (q.1, .inr (6, [.int v.1, .int (nI v.2.1), .ref q.2.1, .ref q.2.2.1, .ref q.2.2.2])), (q.2.1, .inl (gI g, 14, .inl v.2.2.1)), (q.2.2.1, .inl (gI g, 14, .inl v.2.2.2.1)), (q.2.2.2, .inl (gI g, 14, .inl v.2.2.2.2))] (fun wz wzn => wz = [(gr, .inr (0, [.int ((gCh v 14 (gS0 v)).1), .int ((gCh v 14 (gS0 v)).2)])), (q.1, .inr (6, [.int v.1, .int (nI v.2.1), .ref q.2.1, .ref q.2.2.1, .ref q.2.2.2])), (q.2.1, .inl (gI g, 14, .inl v.2.2.1)), (q.2.2.1, .inl (gI g, 14, .inl v.2.2.2.1)), (q.2.2.2, .inl (gI g, 14, .inl v.2.2.2.2))] ∧ wzn = []) := by
  refine jMV.intro (by decide +kernel) (Nat.le_of_ble_eq_true rfl) (fun x hX hQ hN => ?_)
  refine j_lv (lv2 := [(0, .ref gr), (1, .ref q.1)]) rfl ?_
  refine j_aload_n (pc := 0) hX dX0_choose_0 0 rfl ?_
  refine j_aload_n (pc := 1) hX dX0_choose_1 1 rfl ?_
  refine j_iconst (v := 1) (pc := 2) hX dX0_choose_2 (by decide) ?_
  refine j_callVI (n := 1) (As := [.int 1]) (rest := [.ref gr]) (pc := 3) hX (c_X6_marked g q.1 q.2.1 q.2.2.1 q.2.2.2 v.1 v.2.1 v.2.2.1 v.2.2.2.1 v.2.2.2.2 1 (by first | assumption | omega)) (CV.of mw386 mw260 mw261 mw14 mw262 ⟨rfl, by decide +kernel, by decide +kernel, by decide +kernel⟩ (T := TX6) (N := 5) rfl) (Nat.le_of_ble_eq_true rfl) (Nat.le_of_ble_eq_true rfl) (Nat.le_of_ble_eq_true rfl) (Nat.le_of_ble_eq_true rfl) 1 rfl [1, 2, 3, 4] (by decide +kernel) rfl rfl rfl (Nat.le_of_ble_eq_true rfl) dX0_choose_3 (fun r1 wz hq2 => ?_)
  obtain ⟨rfl, rfl⟩ := hq2
  refine j_ws (ws2 := [(gr, .inr (0, [.int g1, .int g2])), (q.1, .inr (6, [.int v.1, .int (nI v.2.1), .ref q.2.1, .ref q.2.2.1, .ref q.2.2.2])), (q.2.1, .inl (gI g, 14, .inl v.2.2.1)), (q.2.2.1, .inl (gI g, 14, .inl v.2.2.2.1)), (q.2.2.2, .inl (gI g, 14, .inl v.2.2.2.2))]) rfl ?_
  refine j_put (ci := 0) (ty := .int) (pc := 6) hX inG0 tyX0 tyX0_ok nmG0 rfl 0 (by decide) mw158 rfl (by decide +kernel) 0 rfl (Nat.le_of_ble_eq_true rfl) (rfl) rfl dX0_choose_6 ?_
  refine j_ws (ws2 := [(gr, .inr (0, [.int (S_mk v.2.2.2.2 1 v.2.1), .int g2])), (q.1, .inr (6, [.int v.1, .int (nI v.2.1), .ref q.2.1, .ref q.2.2.1, .ref q.2.2.2])), (q.2.1, .inl (gI g, 14, .inl v.2.2.1)), (q.2.2.1, .inl (gI g, 14, .inl v.2.2.2.1)), (q.2.2.2, .inl (gI g, 14, .inl v.2.2.2.2))]) rfl ?_
  refine j_aload_n (pc := 9) hX dX0_choose_9 0 rfl ?_
  refine j_bipush (v := (-6)) (pc := 10) hX dX0_choose_10 (by decide) ?_
  refine j_put (ci := 0) (ty := .int) (pc := 12) hX inG0 tyX0 tyX0_ok nmG0 rfl 1 (by decide) mw160 rfl (by decide +kernel) 0 rfl (Nat.le_of_ble_eq_true rfl) (rfl) rfl dX0_choose_12 ?_
  refine j_ws (ws2 := [(gr, .inr (0, [.int (S_mk v.2.2.2.2 1 v.2.1), .int (-6)])), (q.1, .inr (6, [.int v.1, .int (nI v.2.1), .ref q.2.1, .ref q.2.2.1, .ref q.2.2.2])), (q.2.1, .inl (gI g, 14, .inl v.2.2.1)), (q.2.2.1, .inl (gI g, 14, .inl v.2.2.2.1)), (q.2.2.2, .inl (gI g, 14, .inl v.2.2.2.2))]) rfl ?_
  refine j_iconst (v := 0) (pc := 15) hX dX0_choose_15 (by decide) ?_
  refine j_istore_n (lv2 := [(0, .ref gr), (1, .ref q.1), (2, .int 0)]) (pc := 16) hX dX0_choose_16 [1, 2, 0] (by decide) rfl ?_
  have L17 : ∀ (d : Nat) (i : Nat) (y : Int32 × Int32), i ≤ 14 → gCh v (14 - i) y = gCh v 14 (gS0 v) → 14 - i = d → J g x 4 0 0 17 [(0, .ref gr), (1, .ref q.1), (2, .int (nI i))] [] [(gr, .inr (0, [.int y.1, .int y.2])), (q.1, .inr (6, [.int v.1, .int (nI v.2.1), .ref q.2.1, .ref q.2.2.1, .ref q.2.2.2])), (q.2.1, .inl (gI g, 14, .inl v.2.2.1)), (q.2.2.1, .inl (gI g, 14, .inl v.2.2.2.1)), (q.2.2.2, .inl (gI g, 14, .inl v.2.2.2.2))] := by
    intro d
    induction d using Nat.strongRecOn with
    | _ d ih17 =>
      intro i y hi hR hd17
      refine j_iload_n (pc := 17) hX dX0_choose_17 2 rfl ?_
      refine j_bipush (v := 14) (pc := 18) hX dX0_choose_18 (by decide) ?_
      refine j_icmp_ge (tgt := 77) (pc := 20) hX dX0_choose_20 (by decide) (fun c20_3 => ?_) (fun c20_3 => ?_)
      · skip
        have c20_3n : 14 ≤ i := (nI_leI (a := 14) (b := i) (by omega) (by omega)).mp c20_3
        have c20_3m : ¬ i < 14 := by omega
        have hy : y = gCh v 14 (gS0 v) := by rw [show 14 - i = 0 by omega] at hR; exact hR
        subst hy
        exact j_vret (pc := 77) hX hQ dX0_choose_77 [(gr, .inr (0, [.int ((gCh v 14 (gS0 v)).1), .int ((gCh v 14 (gS0 v)).2)])), (q.1, .inr (6, [.int v.1, .int (nI v.2.1), .ref q.2.1, .ref q.2.2.1, .ref q.2.2.2])), (q.2.1, .inl (gI g, 14, .inl v.2.2.1)), (q.2.2.1, .inl (gI g, 14, .inl v.2.2.2.1)), (q.2.2.2, .inl (gI g, 14, .inl v.2.2.2.2))] [] rfl rfl ⟨(by first | rfl | first | (simp only [jb_t, jb_f, c20_3, c20_3n, c20_3m, reduceIte, eq_self, decide_true, decide_false, Bool.and_true, Bool.true_and, Bool.and_false, Bool.false_and, Bool.and_self, not_true_eq_false, not_false_eq_true, and_true, true_and, and_false, false_and, and_self]; done) | (simp [jb_t, jb_f, c20_3, c20_3n, c20_3m]; done)), (rfl)⟩
      · skip
        have c20_3n : ¬ 14 ≤ i := fun h9 => c20_3 ((nI_leI (a := 14) (b := i) (by omega) (by omega)).mpr h9)
        have c20_3m : i < 14 := by omega
        refine j_aload_n (pc := 23) hX dX0_choose_23 1 rfl ?_
        refine j_aload_n (pc := 24) hX dX0_choose_24 0 rfl ?_
        refine j_get (ci := 0) (pc := 25) hX inG0 rfl 0 (by decide) mw158 0 rfl rfl dX0_choose_25 ?_
        refine j_callVI (n := 1) (As := [.int y.1]) (rest := []) (pc := 28) hX (c_X6_missingIn g q.1 q.2.1 q.2.2.1 q.2.2.2 v.1 v.2.1 v.2.2.1 v.2.2.2.1 v.2.2.2.2 y.1 (by first | assumption | omega)) (CV.of mw387 mw264 mw265 mw14 mw266 ⟨rfl, by decide +kernel, by decide +kernel, by decide +kernel⟩ (T := TX6) (N := 5) rfl) (Nat.le_of_ble_eq_true rfl) (Nat.le_of_ble_eq_true rfl) (Nat.le_of_ble_eq_true rfl) (Nat.le_of_ble_eq_true rfl) 1 rfl [1, 2, 3, 4] (by decide +kernel) rfl rfl rfl (Nat.le_of_ble_eq_true rfl) dX0_choose_28 (fun r4 wz hq5 => ?_)
        obtain ⟨rfl, rfl⟩ := hq5
        refine j_ws (ws2 := [(gr, .inr (0, [.int y.1, .int y.2])), (q.1, .inr (6, [.int v.1, .int (nI v.2.1), .ref q.2.1, .ref q.2.2.1, .ref q.2.2.2])), (q.2.1, .inl (gI g, 14, .inl v.2.2.1)), (q.2.2.1, .inl (gI g, 14, .inl v.2.2.2.1)), (q.2.2.2, .inl (gI g, 14, .inl v.2.2.2.2))]) rfl ?_
        refine j_if_eq (tgt := 77) (pc := 31) hX dX0_choose_31 (by decide) (fun c31_6 => ?_) (fun c31_6 => ?_)
        · skip
          have hy : y = gCh v 14 (gS0 v) := by rw [show 14 - i = (14 - (i + 1)) + 1 by omega, gCh, if_pos c31_6] at hR; exact hR
          subst hy
          exact j_vret (pc := 77) hX hQ dX0_choose_77 [(gr, .inr (0, [.int ((gCh v 14 (gS0 v)).1), .int ((gCh v 14 (gS0 v)).2)])), (q.1, .inr (6, [.int v.1, .int (nI v.2.1), .ref q.2.1, .ref q.2.2.1, .ref q.2.2.2])), (q.2.1, .inl (gI g, 14, .inl v.2.2.1)), (q.2.2.1, .inl (gI g, 14, .inl v.2.2.2.1)), (q.2.2.2, .inl (gI g, 14, .inl v.2.2.2.2))] [] rfl rfl ⟨(by first | rfl | first | (simp only [jb_t, jb_f, c20_3, c20_3n, c20_3m, c31_6, reduceIte, eq_self, decide_true, decide_false, Bool.and_true, Bool.true_and, Bool.and_false, Bool.false_and, Bool.and_self, not_true_eq_false, not_false_eq_true, and_true, true_and, and_false, false_and, and_self]; done) | (simp [jb_t, jb_f, c20_3, c20_3n, c20_3m, c31_6]; done)), (rfl)⟩
        · skip
          refine j_aload_n (pc := 34) hX dX0_choose_34 1 rfl ?_
          refine j_aload_n (pc := 35) hX dX0_choose_35 1 rfl ?_
          refine j_aload_n (pc := 36) hX dX0_choose_36 0 rfl ?_
          refine j_get (ci := 0) (pc := 37) hX inG0 rfl 0 (by decide) mw158 0 rfl rfl dX0_choose_37 ?_
          refine j_callVI (n := 1) (As := [.int y.1]) (rest := [.ref q.1]) (pc := 40) hX (c_X6_missingIn g q.1 q.2.1 q.2.2.1 q.2.2.2 v.1 v.2.1 v.2.2.1 v.2.2.2.1 v.2.2.2.2 y.1 (by first | assumption | omega)) (CV.of mw387 mw264 mw265 mw14 mw266 ⟨rfl, by decide +kernel, by decide +kernel, by decide +kernel⟩ (T := TX6) (N := 5) rfl) (Nat.le_of_ble_eq_true rfl) (Nat.le_of_ble_eq_true rfl) (Nat.le_of_ble_eq_true rfl) (Nat.le_of_ble_eq_true rfl) 1 rfl [1, 2, 3, 4] (by decide +kernel) rfl rfl rfl (Nat.le_of_ble_eq_true rfl) dX0_choose_40 (fun r7 wz hq8 => ?_)
          obtain ⟨rfl, rfl⟩ := hq8
          refine j_ws (ws2 := [(gr, .inr (0, [.int y.1, .int y.2])), (q.1, .inr (6, [.int v.1, .int (nI v.2.1), .ref q.2.1, .ref q.2.2.1, .ref q.2.2.2])), (q.2.1, .inl (gI g, 14, .inl v.2.2.1)), (q.2.2.1, .inl (gI g, 14, .inl v.2.2.2.1)), (q.2.2.2, .inl (gI g, 14, .inl v.2.2.2.2))]) rfl ?_
          refine j_callSI (n := 2) (As := [.ref q.1, .int (S_miss v.2.2.1 v.1 v.2.1 y.1)]) (rest := []) (pc := 43) hX (c_X0_best g q v (S_miss v.2.2.1 v.1 v.2.1 y.1) (by first | assumption | omega)) (CS.of mw388 mw389 mw19 mw390 ⟨by decide +kernel, by decide +kernel, by decide +kernel⟩) (Nat.le_of_ble_eq_true rfl) (Nat.le_of_ble_eq_true rfl) (Nat.le_of_ble_eq_true rfl) (Nat.le_of_ble_eq_true rfl) [1, 2, 3, 4] (by decide +kernel) rfl rfl rfl (Nat.le_of_ble_eq_true rfl) dX0_choose_43 (fun r9 wz hq10 => ?_)
          obtain ⟨rfl, rfl⟩ := hq10
          refine j_ws (ws2 := [(gr, .inr (0, [.int y.1, .int y.2])), (q.1, .inr (6, [.int v.1, .int (nI v.2.1), .ref q.2.1, .ref q.2.2.1, .ref q.2.2.2])), (q.2.1, .inl (gI g, 14, .inl v.2.2.1)), (q.2.2.1, .inl (gI g, 14, .inl v.2.2.2.1)), (q.2.2.2, .inl (gI g, 14, .inl v.2.2.2.2))]) rfl ?_
          refine j_istore_n (lv2 := [(0, .ref gr), (1, .ref q.1), (2, .int (nI i)), (3, .int (oN (bB v (S_miss v.2.2.1 v.1 v.2.1 y.1) v.2.1).1))]) (pc := 46) hX dX0_choose_46 [1, 2, 3, 0] (by decide) rfl ?_
          refine j_iload_n (pc := 47) hX dX0_choose_47 3 rfl ?_
          refine j_bipush (v := (-6)) (pc := 48) hX dX0_choose_48 (by decide) ?_
          refine j_icmp_ne (tgt := 54) (pc := 50) hX dX0_choose_50 (by decide) (fun c50_11 => ?_) (fun c50_11 => ?_)
          · skip
            obtain ⟨bz, hbz⟩ := oN_some (fun k h9 => by have := bB_lt v _ _ k h9; omega) c50_11
            have hbl := bB_lt v _ _ bz hbz
            refine j_lv (lv2 := [(0, .ref gr), (1, .ref q.1), (2, .int (nI i)), (3, .int (nI bz))]) (by rw [hbz]; rfl) ?_
            refine j_aload_n (pc := 54) hX dX0_choose_54 0 rfl ?_
            refine j_dup (pc := 55) hX dX0_choose_55 rfl ?_
            refine j_get (ci := 0) (pc := 56) hX inG0 rfl 0 (by decide) mw158 0 rfl rfl dX0_choose_56 ?_
            refine j_iconst (v := 1) (pc := 59) hX dX0_choose_59 (by decide) ?_
            refine j_iload_n (pc := 60) hX dX0_choose_60 3 rfl ?_
            refine j_ishl (pc := 61) hX dX0_choose_61 ?_
            refine j_top (b := bI bz) rfl ?_
            refine j_ior (pc := 62) hX dX0_choose_62 ?_
            refine j_put (ci := 0) (ty := .int) (pc := 63) hX inG0 tyX0 tyX0_ok nmG0 rfl 0 (by decide) mw158 rfl (by decide +kernel) 0 rfl (Nat.le_of_ble_eq_true rfl) (rfl) rfl dX0_choose_63 ?_
            refine j_ws (ws2 := [(gr, .inr (0, [.int (y.1 ||| (bI bz)), .int y.2])), (q.1, .inr (6, [.int v.1, .int (nI v.2.1), .ref q.2.1, .ref q.2.2.1, .ref q.2.2.2])), (q.2.1, .inl (gI g, 14, .inl v.2.2.1)), (q.2.2.1, .inl (gI g, 14, .inl v.2.2.2.1)), (q.2.2.2, .inl (gI g, 14, .inl v.2.2.2.2))]) rfl ?_
            refine j_aload_n (pc := 66) hX dX0_choose_66 0 rfl ?_
            refine j_iload_n (pc := 67) hX dX0_choose_67 3 rfl ?_
            refine j_put (ci := 0) (ty := .int) (pc := 68) hX inG0 tyX0 tyX0_ok nmG0 rfl 1 (by decide) mw160 rfl (by decide +kernel) 0 rfl (Nat.le_of_ble_eq_true rfl) (rfl) rfl dX0_choose_68 ?_
            refine j_ws (ws2 := [(gr, .inr (0, [.int (y.1 ||| (bI bz)), .int (nI bz)])), (q.1, .inr (6, [.int v.1, .int (nI v.2.1), .ref q.2.1, .ref q.2.2.1, .ref q.2.2.2])), (q.2.1, .inl (gI g, 14, .inl v.2.2.1)), (q.2.2.1, .inl (gI g, 14, .inl v.2.2.2.1)), (q.2.2.2, .inl (gI g, 14, .inl v.2.2.2.2))]) rfl ?_
            refine j_iinc (v := nI (i + 1)) (lv2 := [(0, .ref gr), (1, .ref q.1), (2, .int (nI (i + 1))), (3, .int (nI bz))]) (pc := 71) hX dX0_choose_71 2 rfl (nI_add i 1) [1, 2, 0, 3] (by decide) rfl ?_
            refine j_goto (tgt := 17) (pc := 74) hX dX0_choose_74 (by decide) ?_
            refine j_lvs (lv2 := [(0, .ref gr), (1, .ref q.1), (2, .int (nI (i + 1)))]) [0, 1, 2] rfl ?_
            exact j_eq (lv2 := [(0, .ref gr), (1, .ref q.1), (2, .int (nI (i + 1)))]) (ws2 := [(gr, .inr (0, [.int (y.1 ||| bI bz, nI bz).1, .int (y.1 ||| bI bz, nI bz).2])), (q.1, .inr (6, [.int v.1, .int (nI v.2.1), .ref q.2.1, .ref q.2.2.1, .ref q.2.2.2])), (q.2.1, .inl (gI g, 14, .inl v.2.2.1)), (q.2.2.1, .inl (gI g, 14, .inl v.2.2.2.1)), (q.2.2.2, .inl (gI g, 14, .inl v.2.2.2.2))]) (by first | rfl | first | (simp only [jb_t, jb_f, c20_3, c20_3n, c20_3m, c31_6, c50_11, reduceIte, eq_self, decide_true, decide_false, Bool.and_true, Bool.true_and, Bool.and_false, Bool.false_and, Bool.and_self, not_true_eq_false, not_false_eq_true, and_true, true_and, and_false, false_and, and_self]; done) | (simp [jb_t, jb_f, c20_3, c20_3n, c20_3m, c31_6, c50_11]; done)) (by first | rfl | first | (simp only [jb_t, jb_f, c20_3, c20_3n, c20_3m, c31_6, c50_11, reduceIte, eq_self, decide_true, decide_false, Bool.and_true, Bool.true_and, Bool.and_false, Bool.false_and, Bool.and_self, not_true_eq_false, not_false_eq_true, and_true, true_and, and_false, false_and, and_self]; done) | (simp [jb_t, jb_f, c20_3, c20_3n, c20_3m, c31_6, c50_11]; done)) (ih17 _ (by omega) (i + 1) (y.1 ||| bI bz, nI bz) (by omega) (by rw [show 14 - i = (14 - (i + 1)) + 1 by omega, gCh, if_neg c31_6, hbz] at hR; exact hR) rfl)
          · skip
            have hy : y = gCh v 14 (gS0 v) := by rw [show 14 - i = (14 - (i + 1)) + 1 by omega, gCh, if_neg c31_6, oN_none (fun k h9 => by have := bB_lt v _ _ k h9; omega) c50_11] at hR; exact hR
            subst hy
            exact j_vret (pc := 53) hX hQ dX0_choose_53 [(gr, .inr (0, [.int ((gCh v 14 (gS0 v)).1), .int ((gCh v 14 (gS0 v)).2)])), (q.1, .inr (6, [.int v.1, .int (nI v.2.1), .ref q.2.1, .ref q.2.2.1, .ref q.2.2.2])), (q.2.1, .inl (gI g, 14, .inl v.2.2.1)), (q.2.2.1, .inl (gI g, 14, .inl v.2.2.2.1)), (q.2.2.2, .inl (gI g, 14, .inl v.2.2.2.2))] [] rfl rfl ⟨(by first | rfl | first | (simp only [jb_t, jb_f, c20_3, c20_3n, c20_3m, c31_6, c50_11, reduceIte, eq_self, decide_true, decide_false, Bool.and_true, Bool.true_and, Bool.and_false, Bool.false_and, Bool.and_self, not_true_eq_false, not_false_eq_true, and_true, true_and, and_false, false_and, and_self]; done) | (simp [jb_t, jb_f, c20_3, c20_3n, c20_3m, c31_6, c50_11]; done)), (rfl)⟩
  exact j_eq (lv2 := [(0, .ref gr), (1, .ref q.1), (2, .int (nI 0))]) (ws2 := [(gr, .inr (0, [.int (gS0 v).1, .int (gS0 v).2])), (q.1, .inr (6, [.int v.1, .int (nI v.2.1), .ref q.2.1, .ref q.2.2.1, .ref q.2.2.2])), (q.2.1, .inl (gI g, 14, .inl v.2.2.1)), (q.2.2.1, .inl (gI g, 14, .inl v.2.2.2.1)), (q.2.2.2, .inl (gI g, 14, .inl v.2.2.2.2))]) (rfl) (rfl) (L17 _ 0 (gS0 v) (by omega) (rfl) rfl)

