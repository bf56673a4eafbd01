/-! the law's own raising of the shares, step by step beside the class's -/
/-- what is left of the prices; the places -/
def LF (v : StT) (y : SHT) : Nat → Int32 := fun j => if j < v.2.1 then v.2.2.2.1 j - y.2.2.2.2.2.2.2.1 j else 0
def PL (v : StT) (y : SHT) : Nat → Int32 := fun j => if j < v.2.1 then y.2.2.2.2.2.2.2.2.1 j else 0
theorem LF_0 (v : StT) : S_cp v.2.2.2.1 (fun _ => 0) v.2.1 = LF v (bG v zD) := by
  funext j
  show (if j < v.2.1 then v.2.2.2.1 j else 0) = if j < v.2.1 then v.2.2.2.1 j - S_fill 0 (fun _ => 0) 14 j else 0
  have e : S_fill 0 (fun _ => 0) 14 j = 0 := by rw [S_fillE]; split <;> rfl
  rw [e, Int32.sub_zero]
theorem PL_0 {v : StT} (hv : v.2.1 ≤ 14) : S_fill (-6) (fun _ => 0) v.2.1 = PL v (bG v zD) := by
  funext j
  show (if j < v.2.1 then (-6 : Int32) else 0) = if j < v.2.1 then S_fill (-6) (fun _ => 0) 14 j else 0
  by_cases h : j < v.2.1
  · rw [if_pos h, if_pos h, S_fillE, if_pos (by omega)]
  · rw [if_neg h, if_neg h]
theorem bG_ra (v : StT) : (fun _ => 0 : Nat → Int32) = (bG v zD).2.2.2.2.2.2.1 := by
  funext j
  show 0 = S_fill 0 (fun _ => 0) 18 j
  rw [S_fillE]
  split <;> rfl
theorem rs_0 (v : StT) : S_rs (bG v zD).2.2.2.2.2.2.1 18 = 0 := by
  rw [← bG_ra]
  decide
theorem sub_1 (a b : Int32) : a - b - 1 = a - (b + 1) := by
  rw [Int32.sub_eq_add_neg, Int32.sub_eq_add_neg, Int32.sub_eq_add_neg, Int32.neg_add, Int32.add_assoc, Int32.sub_eq_add_neg]
theorem LF_fU {v : StT} {y : SHT} {i : Nat} (hi : i < v.2.1) : upd (LF v y) i (LF v y i - 1) = LF v (fU y i) := by
  funext j
  rw [upE]
  show _ = if j < v.2.1 then v.2.2.2.1 j - upd y.2.2.2.2.2.2.2.1 i (y.2.2.2.2.2.2.2.1 i + 1) j else 0
  rw [upE]
  by_cases he : j = i
  · subst he
    rw [if_pos rfl, if_pos hi, if_pos rfl]
    show (if j < v.2.1 then v.2.2.2.1 j - y.2.2.2.2.2.2.2.1 j else 0) - 1 = _
    rw [if_pos hi, sub_1]
  · rw [if_neg he, if_neg he]
    rfl
theorem LF_same {v : StT} {y : SHT} {i : Nat} : upd (LF v y) i (LF v y i - 0) = LF v y := by
  funext j
  rw [upE]
  by_cases he : j = i
  · subst he
    rw [if_pos rfl, Int32.sub_zero]
  · rw [if_neg he]
theorem LF_bT {v : StT} {y : SHT} {k : Nat} {th : Int32} : LF v (bT y k th) = LF v y := by
  unfold bT
  split <;> rfl
theorem PL_fU {v : StT} {y : SHT} {k : Nat} : PL v (fU y k) = PL v y := rfl
theorem PL_bT {v : StT} {y : SHT} {i : Nat} {th : Int32} (hi : i < v.2.1) (ht : y.2.2.2.2.1 < 14) : upd (PL v y) i (nI y.2.2.2.2.1) = PL v (bT y i th) := by
  unfold bT
  rw [if_pos ht]
  funext j
  rw [upE]
  show _ = if j < v.2.1 then upd y.2.2.2.2.2.2.2.2.1 i (nI y.2.2.2.2.1) j else 0
  rw [upE]
  by_cases he : j = i
  · subst he
    rw [if_pos rfl, if_pos hi, if_pos rfl]
  · rw [if_neg he, if_neg he]
    rfl
theorem bT_f {y : SHT} {k : Nat} {th : Int32} (ht : y.2.2.2.2.1 < 14) : y.2.2.2.1 ||| bI k = (bT y k th).2.2.2.1 ∧ nI (y.2.2.2.2.1 + 1) = nI (bT y k th).2.2.2.2.1 ∧ y.2.1 ||| th = (bT y k th).2.1 := by
  unfold bT
  rw [if_pos ht]
  exact ⟨rfl, rfl, rfl⟩
/-- where a raise of thing t stands at set i -/
def G4 (v : StT) (Z : SHT) (t : Nat) : Prop := ∃ y c, SI v Z y c ∧ bt (lfM v y) t = true
theorem st4 {v : StT} (hok : okS v) {Z : SHT} {t : Nat} (ht : t < 18) (hG : G4 v Z t) {i : Nat} (hi : i < v.2.1) :
    (¬ v.2.2.2.2 i = 0 ∧ fS v t (i + 1) (rU Z t) = fS v t i (rU Z t)) ∨
    (v.2.2.2.2 i = 0 ∧ bt (v.2.2.1 i) t = false ∧ fS v t (i + 1) (rU Z t) = fS v t i (rU Z t) ∧ (LF v (fS v t i (rU Z t)) i - 0 = 0 → ¬ PL v (fS v t i (rU Z t)) i < 0)) ∨
    (v.2.2.2.2 i = 0 ∧ bt (v.2.2.1 i) t = true ∧ fS v t (i + 1) (rU Z t) = fU (fS v t i (rU Z t)) i ∧ ¬ LF v (fS v t i (rU Z t)) i - 1 = 0) ∨
    (v.2.2.2.2 i = 0 ∧ bt (v.2.2.1 i) t = true ∧ fS v t (i + 1) (rU Z t) = bT (fU (fS v t i (rU Z t)) i) i (v.2.2.1 i) ∧ LF v (fS v t i (rU Z t)) i - 1 = 0 ∧ PL v (fS v t i (rU Z t)) i < 0 ∧ (fS v t i (rU Z t)).2.2.2.2.1 < 14) := by
  have h14 := hok.1
  obtain ⟨y, c, ⟨hJ, hra, hrd, hdr⟩, hl⟩ := hG
  have hT : TY v y := hJ.2.2.2.1
  obtain ⟨hop, hnt⟩ := (lf_bit (by omega) hok.1 hT).mp hl
  have hra2 : ∀ t2, t2 < 18 → upd y.1 t (y.1 t + 1) t2 = nI (updN c t (c t + 1) t2) := fun t2 h2 => by
    rw [upE, updE]
    by_cases he : t2 = t
    · rw [if_pos he, if_pos he, (hra t ht).2]
      exact nI_add _ 1
    · rw [if_neg he, if_neg he]
      exact (hra t2 h2).2
  have hJ2 : SJ v (rU Z t) y.2.2.2.2 (y.2.1, y.2.2.1) c (updN c t (c t + 1)) 0 := SJ_sw (c1 := c) hJ
  obtain ⟨g1, hb, -, -, -⟩ := SJ_step hok ht hop hra2 hnt i (Nat.le_of_lt hi) hJ2
  rw [fS]
  generalize fS v t i (rU Z t) = Y at g1
  generalize tG v y.2.2.2.2 (upd y.1 t (y.1 t + 1)) (y.2.1, y.2.2.1) i = q at g1 hb
  obtain ⟨a1, a2, a3, a4, a5, a6, a7, a8, a9, a10⟩ := g1
  obtain ⟨-, ⟨pr, hpr1, hpr2, hpr⟩, -⟩ := hok.2.2 i hi
  have eL : LF v Y i = v.2.2.2.1 i - Y.2.2.2.2.2.2.2.1 i := if_pos hi
  have eP : PL v Y i = Y.2.2.2.2.2.2.2.2.1 i := if_pos hi
  rw [eL, eP]
  by_cases hM : v.2.2.2.2 i = 0
  · rw [if_pos hM]
    have hfi := a7 i hi hM
    rw [if_neg (Nat.lt_irrefl i)] at hfi
    have hpl := a9 i hi
    by_cases hTt : bt (v.2.2.1 i) t = true
    · rw [if_pos hTt]
      have hno : S_po q.1 i q.2 = none := by
        cases hq : S_po q.1 i q.2 with
        | none => rfl
        | some j =>
          obtain ⟨hj, hji⟩ := S_po_lt hq
          rcases hb j hj with h9 | h9
          · rw [hji, hTt] at h9; cases h9
          · omega
      have hlt := a10 i hi hM hno pr hpr hpr2
      rw [if_neg (Nat.lt_irrefl i)] at hlt
      rw [hno] at hpl
      have e1 : v.2.2.2.1 i - Y.2.2.2.2.2.2.2.1 i - 1 = nI (pr - NF (v.2.2.1 i &&& y.2.2.2.2) c 18 - 1) := by
        rw [hpr, hfi, pk_sub (by omega)]
        exact pk_sub (b := 1) (by omega)
      have e2 : Y.2.2.2.2.2.2.2.1 i + 1 = nI (NF (v.2.2.1 i &&& y.2.2.2.2) c 18 + 1) := by rw [hfi]; exact nI_add _ 1
      by_cases heq : Y.2.2.2.2.2.2.2.1 i + 1 = v.2.2.2.1 i
      · right; right; right
        rw [if_pos heq]
        rw [e2, hpr] at heq
        have hN := (nI_eq (a := NF (v.2.2.1 i &&& y.2.2.2.2) c 18 + 1) (b := pr) (by omega) (by omega)).mp heq
        refine ⟨hM, hTt, rfl, ?_, ?_, ?_⟩
        · rw [e1, show pr - NF (v.2.2.1 i &&& y.2.2.2.2) c 18 - 1 = 0 by omega]
          rfl
        · rw [hpl]
          decide
        · obtain ⟨t1, -⟩ := TI_s h14 a4 hi hno
          rw [a2]
          exact t1
      · right; right; left
        rw [if_neg heq]
        refine ⟨hM, hTt, rfl, ?_⟩
        rw [e1]
        intro h9
        have hN := (nI_eq (a := pr - NF (v.2.2.1 i &&& y.2.2.2.2) c 18 - 1) (b := 0) (by omega) (by decide)).mp h9
        exact heq (by rw [e2, hpr, show NF (v.2.2.1 i &&& y.2.2.2.2) c 18 + 1 = pr by omega])
    · right; left
      rw [if_neg hTt]
      refine ⟨hM, by cases hq : bt (v.2.2.1 i) t with | false => rfl | true => exact absurd hq hTt, rfl, fun h0 h1 => ?_⟩
      have hno : S_po q.1 i q.2 = none := by
        cases hq : S_po q.1 i q.2 with
        | none => rfl
        | some j =>
          rw [hpl, hq] at h1
          have := S_po_100 a4.1 j hq
          exact absurd h1 (nI_pos (by omega))
      have hlt := a10 i hi hM hno pr hpr hpr2
      rw [if_neg (Nat.lt_irrefl i)] at hlt
      rw [Int32.sub_zero, hpr, hfi, pk_sub (by omega)] at h0
      have := (nI_eq (a := pr - NF (v.2.2.1 i &&& y.2.2.2.2) c 18) (b := 0) (by omega) (by decide)).mp h0
      omega
  · left
    rw [if_neg hM]
    exact ⟨hM, rfl⟩
theorem bT_ra {y : SHT} {k : Nat} {th : Int32} : (bT y k th).2.2.2.2.2.2.1 = y.2.2.2.2.2.2.1 := by
  unfold bT
  split <;> rfl
theorem fS_ra (v : StT) (t : Nat) (Z : SHT) : ∀ i, (fS v t i Z).2.2.2.2.2.2.1 = Z.2.2.2.2.2.2.1
  | 0 => rfl
  | i + 1 => by
    have ih := fS_ra v t Z i
    rw [fS]
    repeat' split
    · rw [bT_ra]; exact ih
    · exact ih
    · exact ih
    · exact ih
theorem rs_up {f : Nat → Int32} {t : Nat} : ∀ n, S_rs (upd f t (f t + 1)) n = if t < n then S_rs f n + 1 else S_rs f n
  | 0 => by rw [if_neg (Nat.not_lt_zero t)]; rfl
  | n + 1 => by
    rw [S_rs, S_rs, rs_up n, upE]
    by_cases he : n = t
    · subst he
      rw [if_neg (Nat.lt_irrefl n), if_pos rfl, if_pos (Nat.lt_succ_self n), Int32.add_assoc]
    · rw [if_neg he]
      by_cases hlt : t < n
      · rw [if_pos hlt, if_pos (by omega), Int32.add_assoc, Int32.add_comm 1, ← Int32.add_assoc]
      · rw [if_neg hlt, if_neg (by omega)]
/-- the rows behind one thing's raise -/
theorem mR_next {v : StT} {z : SHT} {t : Nat} (ht : t < 18) (hb : bt (lf (mR v t z)) t = true) : fS v t v.2.1 (rU (mR v t z) t) = mR v (t + 1) z ∧ upd (mR v t z).2.2.2.2.2.2.1 t ((mR v t z).2.2.2.2.2.2.1 t + 1) = (mR v (t + 1) z).2.2.2.2.2.2.1 ∧ S_rs (mR v t z).2.2.2.2.2.2.1 18 + 1 = S_rs (mR v (t + 1) z).2.2.2.2.2.2.1 18 := by
  have e : fS v t v.2.1 (rU (mR v t z) t) = mR v (t + 1) z := by rw [mR, if_pos hb]
  have e2 : upd (mR v t z).2.2.2.2.2.2.1 t ((mR v t z).2.2.2.2.2.2.1 t + 1) = (mR v (t + 1) z).2.2.2.2.2.2.1 := by
    rw [← e, fS_ra]
    rfl
  refine ⟨e, e2, ?_⟩
  rw [← e2, rs_up, if_pos ht]
theorem mR_stay {v : StT} {z : SHT} {t : Nat} (hb : bt (lf (mR v t z)) t = false) : mR v t z = mR v (t + 1) z := by
  rw [mR, hb]
  rfl
/-- where a round stands -/
def GH (v : StT) (y : SHT) (i : Nat) : Prop := ∃ ym c, SI v y ym c ∧ LC v ym c i 0 ∧ ym.2.2.2.2 = op0 v ∧ ym.2.2.2.1 = i
theorem GH_0 {v : StT} (hok : okS v) : GH v (bG v zD) 0 := ⟨_, _, bG_sim hok zD oD_100, fun t _ _ => by rw [if_neg (Nat.not_lt_zero t)], rfl, rfl⟩
theorem GH_op {v : StT} {y : SHT} {i : Nat} (h : GH v y i) : y.1 = op0 v ∧ y.2.2.1 = i := by
  obtain ⟨ym, c, ⟨⟨a1, -⟩, -, hrd, -⟩, -, ho, hr⟩ := h
  exact ⟨a1.trans ho, hrd.trans hr⟩
theorem GH_rd {v : StT} {y : SHT} {i : Nat} (h : GH v y i) : ∃ ym c, SI v (rdU y) (rdM ym) c ∧ LC v (rdM ym) c i 0 ∧ ym.2.2.2.2 = op0 v ∧ ym.2.2.2.1 = i := by
  obtain ⟨y2, c, h1, hL, ho, hr⟩ := h
  exact ⟨y2, c, ⟨h1.1, h1.2.1, by show y.2.2.1 + 1 = y2.2.2.2.1 + 1; rw [h1.2.2.1], h1.2.2.2⟩, hL, ho, hr⟩
theorem GH_t {v : StT} (hok : okS v) {y : SHT} {i t : Nat} (h : GH v y i) (ht : t < 18) : (mR v t (rdU y)).1 = op0 v ∧ (bt (lf (mR v t (rdU y))) t = true → G4 v (mR v t (rdU y)) t) := by
  obtain ⟨ym, c, h1, hL, ho, hr⟩ := GH_rd h
  obtain ⟨c2, h2, hL2, ho2, hr2⟩ := mR_sim hok h1 hL t (by omega)
  refine ⟨h2.1.1.trans (ho2.trans ho), fun hb => ⟨_, c2, h2, ?_⟩⟩
  rw [← SI_lf h2]
  exact hb
theorem GH_step {v : StT} (hok : okS v) (hc : hasC v = true) {y : SHT} {i : Nat} (h : GH v y i) (hl : ¬ lf y = 0) : i < 500 ∧ GH v (mR v 18 (rdU y)) (i + 1) := by
  obtain ⟨ym0, c0, s1, s2, s3, s4⟩ := h
  have hi : i < 500 := rd_lt hok hc s1 s2 s3 (by rw [← SI_lf s1]; exact hl)
  refine ⟨hi, ?_⟩
  obtain ⟨ym, c, h1, hL, ho, hr⟩ := GH_rd ⟨ym0, c0, s1, s2, s3, s4⟩
  obtain ⟨c2, h2, hL2, ho2, hr2⟩ := mR_sim hok h1 hL 18 (Nat.le_refl _)
  refine ⟨_, c2, h2, fun t ht hb => ?_, ho2.trans ho, ?_⟩
  · rw [hL2 t ht hb, if_pos ht, if_neg (Nat.not_lt_zero t)]
  · rw [hr2]
    show ym.2.2.2.1 + 1 = i + 1
    rw [hr]
theorem RA_lf {v : StT} (hok : okS v) (hc : hasC v = true) : lf (RA v) = 0 := by
  obtain ⟨⟨c, h⟩, h0⟩ := RA_SI hok hc
  rw [SI_lf h]
  exact h0
/-- the loop of rounds: on, or at its end -/
theorem rA_on {v : StT} {y : SHT} {i : Nat} (hi : i < 500) (hR : rA v (500 - i) y = RA v) (h : ¬ lf y = 0) : rA v (500 - (i + 1)) (mR v 18 (rdU y)) = RA v := by
  rw [show 500 - i = (500 - (i + 1)) + 1 by omega, rA, if_neg h] at hR
  exact hR
theorem rA_end {v : StT} {y : SHT} {i : Nat} (hR : rA v (500 - i) y = RA v) (h : lf y = 0) : y = RA v := by
  have e : ∀ f, rA v f y = y := fun f => by
    cases f with
    | zero => rfl
    | succ f => rw [rA, if_pos h]
  rw [e] at hR
  exact hR
/-- the tight sets' places -/
theorem RA_pl {v : StT} (hok : okS v) (hc : hasC v = true) : (RA v).2.2.2.2.1 ≤ 14 ∧ (∀ p, p < (RA v).2.2.2.2.1 → (RA v).2.2.2.2.2.2.2.2.2 p < v.2.1) ∧ ∀ k p, k < v.2.1 → p < (RA v).2.2.2.2.1 → (PL v (RA v) k = nI p ↔ k = (RA v).2.2.2.2.2.2.2.2.2 p) := by
  obtain ⟨⟨c, ⟨a1, a2, a3, a4, a5, a6, a7, a8, a9, a10⟩, -⟩, -⟩ := RA_SI hok hc
  have hT := a4
  obtain ⟨t1, t2, t3, t4⟩ := a4
  rw [a2]
  refine ⟨t1, fun p hp => by rw [a3 p hp]; exact t3 p hp, fun k p hk hp => ?_⟩
  have e : PL v (RA v) k = (RA v).2.2.2.2.2.2.2.2.1 k := if_pos hk
  rw [e, a9 k hk, a3 p hp]
  cases hq : S_po (RM v oD).2.1 k (RM v oD).2.2.1 with
  | none =>
    constructor
    · intro h9
      exact absurd h9.symm (nI_n6 (by have : (RM v oD).2.2.1 ≤ 14 := t1; have : p < (RM v oD).2.2.1 := hp; omega))
    · intro h9
      exact absurd h9.symm (S_po_n hq p hp)
  | some j =>
    obtain ⟨hj, hjk⟩ := S_po_lt hq
    have l1 : (RM v oD).2.2.1 ≤ 14 := t1
    have l2 : p < (RM v oD).2.2.1 := hp
    constructor
    · intro h9
      have := (nI_eq (a := j) (b := p) (by omega) (by omega)).mp h9
      subst this
      exact hjk.symm
    · intro h9
      have hjp : j = p := by
        rcases Nat.lt_trichotomy j p with h | h | h
        · exact absurd (hjk.trans h9) (t4 j p h hp)
        · exact h
        · exact absurd (h9.symm.trans hjk.symm) (t4 p j h hj)
      rw [hjp]
      rfl
/-- one step of the dropping -/
def dS (v : StT) (y : SHT) (p : Nat) : Int32 := if y.1 &&& (S_or v.2.2.1 (y.2.2.2.1 &&& (dW y p ^^^ (-1))) v.2.1 ^^^ (-1)) = 0 then dW y p else y.2.2.2.2.2.1
theorem dR_go {v : StT} {y : SHT} {a : Nat} {F : SHT} (h : 0 < a) (hR : dR v a y = F) : dR v (a - 1) (dU y (dS v y (a - 1))) = F := by
  rw [dR_s v h y] at hR
  unfold dS
  split at hR
  · rename_i h0
    rw [if_pos h0]
    exact hR
  · rename_i h0
    rw [if_neg h0]
    exact hR
theorem dR_all {v : StT} : dR v (RA v).2.2.2.2.1 (RA v) = FR v := rfl

