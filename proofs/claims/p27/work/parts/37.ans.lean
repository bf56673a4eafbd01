/-! what the answers are: by a run of the shares from rows of zeros -/
def zD : SHT := (0, 0, 0, 0, 0, 0, fun _ => 0, fun _ => 0, fun _ => 0, fun _ => 0)
def oD : Nat → Nat := fun _ => 0
def RA (v : StT) : SHT := rA v 500 (bG v zD)
def FR (v : StT) : SHT := aLL v zD
theorem oD_100 : ∀ j, oD j < 100 := fun _ => (show (0 : Nat) < 100 by decide)
theorem RA_SI {v : StT} (hok : okS v) (hc : hasC v = true) : (∃ c, SI v (RA v) (RM v oD) c) ∧ lfM v (RM v oD) = 0 := R_sim hok hc zD oD_100
theorem FR_eq {v : StT} (hok : okS v) (hc : hasC v = true) : FR v = dU (RA v) (DM v oD) := by
  obtain ⟨⟨c, h⟩, -⟩ := RA_SI hok hc
  obtain ⟨⟨a1, a2, a3, a4, a5, a6, -⟩, -, -, hdr⟩ := h
  show dR v (RA v).2.2.2.2.1 (RA v) = _
  unfold DM
  rw [a2]
  exact dR_sim _ _ 0 a1 a5 a3 hdr
/-- the answers don't hang on what was in the rows -/
theorem aLL_z {v : StT} (hok : okS v) (hc : hasC v = true) (z : SHT) : (∀ t, t < 18 → (aLL v z).2.2.2.2.2.2.1 t = (RA v).2.2.2.2.2.2.1 t) ∧ (∀ k, k < v.2.1 → (aLL v z).2.2.2.2.2.2.2.1 k = (RA v).2.2.2.2.2.2.2.1 k) ∧ (aLL v z).2.2.2.1 = (RA v).2.2.2.1 ∧ (∀ k, k < v.2.1 → (aLL v z).2.2.2.2.2.2.2.2.1 k = (RA v).2.2.2.2.2.2.2.2.1 k) ∧ (aLL v z).2.2.2.2.2.1 = (FR v).2.2.2.2.2.1 ∧ (aLL v z).2.2.1 = (RA v).2.2.1 ∧ (aLL v z).2.2.2.2.1 = (RA v).2.2.2.2.1 := by
  obtain ⟨c, x, ⟨⟨a1, a2, a3, a4, a5, a6, a7, a8, a9, a10⟩, hra, hrd, hdr⟩, he⟩ := aLL_sim hok hc z oD_100
  obtain ⟨⟨c', ⟨b1, b2, b3, b4, b5, b6, b7, b8, b9, b10⟩, gra, grd, gdr⟩, -⟩ := RA_SI hok hc
  rw [he, FR_eq hok hc]
  refine ⟨fun t ht => ?_, fun k hk => ?_, ?_, fun k hk => ?_, rfl, ?_, ?_⟩
  · show x.2.2.2.2.2.2.1 t = _
    rw [(hra t ht).1, (gra t ht).1, ← (hra t ht).2, ← (gra t ht).2]
  · show x.2.2.2.2.2.2.2.1 k = _
    by_cases hM : v.2.2.2.2 k = 0
    · rw [a7 k hk hM, b7 k hk hM, if_neg (Nat.not_lt_zero k), if_neg (Nat.not_lt_zero k), ← S_fl_NF 18 (fun t ht => (hra t ht).2), ← S_fl_NF 18 (fun t ht => (gra t ht).2)]
    · rw [a8 k hk hM, b8 k hk hM]
  · show x.2.2.2.1 = _
    rw [a5, b5]
  · show x.2.2.2.2.2.2.2.2.1 k = _
    rw [a9 k hk, b9 k hk]
  · show x.2.2.1 = _
    rw [hrd, grd]
  · show x.2.2.2.2.1 = _
    rw [a2, b2]
theorem ro_0 {v : StT} {z : SHT} {j : Nat} (hv : v.2.1 ≤ 14) (hj : j < v.2.1) : rOfSet v z (nI j) 0 = v.2.2.1 j := by
  unfold rOfSet
  rw [if_pos (S_is_nI hv hj), kN_nI (by omega)]
  rfl
theorem ro_1 {v : StT} {z : SHT} {j : Nat} (hv : v.2.1 ≤ 14) (hj : j < v.2.1) : rOfSet v z (nI j) 1 = v.2.2.2.1 j := by
  unfold rOfSet
  rw [if_pos (S_is_nI hv hj), kN_nI (by omega)]
  rfl
theorem ro_2 {v : StT} {z : SHT} {j : Nat} (hv : v.2.1 ≤ 14) (hj : j < v.2.1) : rOfSet v z (nI j) 2 = v.2.2.2.2 j := by
  unfold rOfSet
  rw [if_pos (S_is_nI hv hj), kN_nI (by omega)]
  rfl
theorem ro_3 {v : StT} {z : SHT} {j : Nat} (hok : okS v) (hc : hasC v = true) (hj : j < v.2.1) : rOfSet v z (nI j) 3 = (RA v).2.2.2.2.2.2.2.1 j := by
  unfold rOfSet qSh
  rw [if_pos (S_is_nI hok.1 hj), kN_nI (by have := hok.1; omega), hc]
  exact (aLL_z hok hc z).2.1 j hj
theorem ro_4 {v : StT} {z : SHT} {j : Nat} (hok : okS v) (hc : hasC v = true) (hj : j < v.2.1) : rOfSet v z (nI j) 4 = jb (bt (RA v).2.2.2.1 j) := by
  unfold rOfSet qSh
  rw [if_pos (S_is_nI hok.1 hj), kN_nI (by have := hok.1; omega), hc, ← (aLL_z hok hc z).2.2.1]
  rfl
theorem ro_5 {v : StT} {z : SHT} {j : Nat} (hok : okS v) (hc : hasC v = true) (hj : j < v.2.1) : rOfSet v z (nI j) 5 = (RA v).2.2.2.2.2.2.2.2.1 j := by
  unfold rOfSet qSh
  rw [if_pos (S_is_nI hok.1 hj), kN_nI (by have := hok.1; omega), hc]
  exact (aLL_z hok hc z).2.2.2.1 j hj
theorem ro_6 {v : StT} {z : SHT} {j : Nat} (hok : okS v) (hc : hasC v = true) (hj : j < v.2.1) : rOfSet v z (nI j) 6 = jb (bt (FR v).2.2.2.2.2.1 j) := by
  unfold rOfSet qSh
  rw [if_pos (S_is_nI hok.1 hj), kN_nI (by have := hok.1; omega), hc, ← (aLL_z hok hc z).2.2.2.2.1]
  rfl
theorem ro_7 {v : StT} {z : SHT} {j : Nat} (hv : v.2.1 ≤ 14) (hj : j < v.2.1) : rOfSet v z (nI j) 7 = S_alone v.2.2.1 v.2.2.2.2 v.1 v.2.1 j := by
  unfold rOfSet
  rw [if_pos (S_is_nI hv hj), kN_nI (by omega)]
  rfl
theorem ro_3n {v : StT} {z : SHT} {j : Nat} (hv : v.2.1 ≤ 14) (hc : hasC v = false) (hj : j < v.2.1) : rOfSet v z (nI j) 3 = -5 := by
  unfold rOfSet qSh
  rw [if_pos (S_is_nI hv hj), hc]
  rfl
theorem ro_6n {v : StT} {z : SHT} {j : Nat} (hv : v.2.1 ≤ 14) (hc : hasC v = false) (hj : j < v.2.1) : rOfSet v z (nI j) 6 = -5 := by
  unfold rOfSet qSh
  rw [if_pos (S_is_nI hv hj), hc]
  rfl
theorem okTh_nI {t : Nat} (ht : t < 18) : okTh (nI t) = true := decide_eq_true ⟨nI_pos (by omega), (nI_ltI (a := t) (b := 18) (by omega) (by decide)).mpr ht⟩
theorem rt_0 {v : StT} {z : SHT} {t : Nat} (ht : t < 18) : rOfThing v z (nI t) 0 = jb (bt v.1 t) := by
  unfold rOfThing
  rw [if_pos (okTh_nI ht), kN_nI (by omega)]
  rfl
theorem rt_1 {v : StT} {z : SHT} {t : Nat} (ht : t < 18) : rOfThing v z (nI t) 1 = S_sw v.2.2.1 t v.2.1 := by
  unfold rOfThing
  rw [if_pos (okTh_nI ht), kN_nI (by omega)]
  rfl
theorem rt_2 {v : StT} {z : SHT} {t : Nat} (hok : okS v) (hc : hasC v = true) (ht : t < 18) : rOfThing v z (nI t) 2 = (RA v).2.2.2.2.2.2.1 t := by
  unfold rOfThing qTh
  rw [if_pos (okTh_nI ht), kN_nI (by omega), hc]
  exact (aLL_z hok hc z).1 t ht
theorem rt_2n {v : StT} {z : SHT} {t : Nat} (hc : hasC v = false) (ht : t < 18) : rOfThing v z (nI t) 2 = -5 := by
  unfold rOfThing qTh
  rw [if_pos (okTh_nI ht), hc]
  rfl
theorem rc_0 {v : StT} {n c : Nat} : rCount v n c 0 = nI v.2.1 := rfl
theorem rc_1 {v : StT} {n c : Nat} : rCount v n c 1 = v.1 := rfl
theorem rc_2 {v : StT} {n c : Nat} : rCount v n c 2 = jb (hasC v) := rfl
theorem rc_3 {v : StT} {n c : Nat} : rCount v n c 3 = S_most v.2.2.1 v.2.2.2.2 v.1 v.2.1 18 := rfl
/-- the shared cover -/
def shV (v : StT) : Int32 := S_mk v.2.2.2.2 1 v.2.1 ||| ((RA v).2.2.2.1 &&& ((FR v).2.2.2.2.2.1 ^^^ (-1)))
theorem shC_shV {v : StT} (hok : okS v) (hc : hasC v = true) (z : SHT) : shC v z = shV v := by
  unfold shC shV
  rw [(aLL_z hok hc z).2.2.1, (aLL_z hok hc z).2.2.2.2.1]
theorem rsh_0 {v : StT} {z : SHT} (hok : okS v) (hc : hasC v = true) : rShared v z 0 = shV v := by
  unfold rShared
  rw [hc, shC_shV hok hc]
  rfl
theorem rsh_1 {v : StT} {z : SHT} (hok : okS v) (hc : hasC v = true) : rShared v z 1 = S_sum v.2.2.2.1 (shV v) v.2.1 := by
  unfold rShared
  rw [hc, shC_shV hok hc]
  rfl
theorem rsh_2 {v : StT} {z : SHT} (hok : okS v) (hc : hasC v = true) : rShared v z 2 = S_rs (RA v).2.2.2.2.2.2.1 18 + S_sum v.2.2.2.1 (S_mk v.2.2.2.2 1 v.2.1) v.2.1 := by
  unfold rShared
  rw [hc, S_rs_c 18 (fun j hj => (aLL_z hok hc z).1 j hj)]
  rfl
theorem rsh_3 {v : StT} {z : SHT} (hok : okS v) (hc : hasC v = true) : rShared v z 3 = nI (RA v).2.2.1 := by
  unfold rShared
  rw [hc, (aLL_z hok hc z).2.2.2.2.2.1]
  rfl
theorem rsh_4 {v : StT} {z : SHT} (hok : okS v) (hc : hasC v = true) : rShared v z 4 = nI (RA v).2.2.2.2.1 := by
  unfold rShared
  rw [hc, (aLL_z hok hc z).2.2.2.2.2.2]
  rfl
theorem FR_18 {v : StT} (hok : okS v) (hc : hasC v = true) : in18 (FR v).2.2.2.2.2.1 := by
  rw [FR_eq hok hc]
  exact DM_18 hok.1 oD_100
theorem rsh_5 {v : StT} {z : SHT} (hok : okS v) (hc : hasC v = true) : rShared v z 5 = S_size (FR v).2.2.2.2.2.1 18 := by
  unfold rShared
  rw [hc, (aLL_z hok hc z).2.2.2.2.1, pop_size (FR_18 hok hc)]
  rfl
theorem rsh_n {v : StT} {z : SHT} (hc : hasC v = false) : rShared v z 0 = -5 := by
  unfold rShared
  rw [hc]
  rfl
theorem rg_0 {v : StT} (hc : hasC v = true) : rGreedy v 0 = (gR v).1 := by
  unfold rGreedy
  rw [hc]
  rfl
theorem rg_1 {v : StT} (hc : hasC v = true) : rGreedy v 1 = S_sum v.2.2.2.1 (gR v).1 v.2.1 := by
  unfold rGreedy
  rw [hc]
  rfl
theorem rg_2 {v : StT} (hc : hasC v = true) : rGreedy v 2 = (gR v).2 := by
  unfold rGreedy
  rw [hc]
  rfl
theorem rg_n {v : StT} (hc : hasC v = false) : rGreedy v 0 = -5 := by
  unfold rGreedy
  rw [hc]
  rfl
/-- the best of all masks -/
def BL (v : StT) : Int32 × Int32 := rng (fun s y => UL v (mN v.2.2.2.2 s v.2.1) y) 0 (2 ^ fr v.2.2.2.2 v.2.1) (0, 1000000)
theorem fL_BL {v : StT} (hok : okS v) (z : WT) : fL v z (wN v z) = BL v := by
  rw [wN_eq hok, fL_rng hok z _ (Nat.le_refl _)]
  rfl
theorem rl_0 {v : StT} {z : WT} (hok : okS v) (hc : hasC v = true) : rLeast v z 0 = (BL v).1 := by
  unfold rLeast
  rw [hc, fL_BL hok]
  rfl
theorem rl_1 {v : StT} {z : WT} (hok : okS v) (hc : hasC v = true) : rLeast v z 1 = (BL v).2 := by
  unfold rLeast
  rw [hc, fL_BL hok]
  rfl
theorem rl_n {v : StT} {z : WT} (hc : hasC v = false) : rLeast v z 0 = -5 := by
  unfold rLeast
  rw [hc]
  rfl
theorem rd_n {v : StT} {z : WT} {h : Nat → Int32} (hc : hasC v = false) : rDearest v z h 0 = -5 := by
  unfold rDearest
  rw [hc]
  rfl

