/-! THE JUDGEMENT J: a method's walk as (pc, locals, stack, cells); the machine's own heap, frame and tables stand in one context. Rows of the kit, one for one. -/
abbrev jG : Type := Launch × va_G × (ClassId × ClassId × ClassId × ClassId)
def jl (g : jG) : Launch := g.1
def jD (g : jG) : va_G := g.2.1
def gI (g : jG) : ClassId := g.2.2.1
def gC (g : jG) : ClassId := g.2.2.2.1
def gZ (g : jG) : ClassId := g.2.2.2.2.1
def gS (g : jG) : ClassId := g.2.2.2.2.2
abbrev jTy (g : jG) : List (ClassId × FieldType) := [(gI g, .int), (gC g, .char), (gZ g, .boolean), (gS g, .object RX6)]
def jK (g : jG) (U : State) : Prop := va_K (jD g) vwCl (jTy g) U ∧ va_AO RX6 U ∧ ∀ w ∈ wsN, va_Nw w U
theorem jNw_warm {w : Cond} (hw : jNest w = true) {s U : State} (hW : s.WarmedH U.vm) (h : va_Nw w s) : va_Nw w U := by
  cases w <;> first | exact va_Nw.warmF hW h | exact va_Nw.warmM hW h | cases hw
theorem jNw_on {w : Cond} (hw : jNest w = true) : w.onTables = true := by
  cases w <;> first | rfl | cases hw
theorem jN_is {w : Cond} (h : w ∈ wsN) : jNest w = true := (List.mem_filter.mp h).2
theorem jK.moved {g : jG} {u U : State} (hW : u.WarmedH U.vm) (h : jK g u) : jK g U := ⟨va_K.moved hW.alike h.1, h.2.1.moved hW.alike, fun w hw => jNw_warm (jN_is hw) hW (h.2.2 w hw)⟩
theorem jK.same {g : jG} {u U : State} (hv : u.vm = U.vm) (h : jK g u) : jK g U := ⟨va_K.moved (hv ▸ Vm.Alike.refl u.vm) h.1, h.2.1.moved (hv ▸ Vm.Alike.refl u.vm), fun w hw => va_Nw.same (jNw_on (jN_is hw)) hv (h.2.2 w hw)⟩
abbrev jC : Type := Program × Env × Room × State × MethodId × Array Value × List Frame × Method × Code × (State → Prop) × (Nat → Prop)
def J (g : jG) (x : jC) (nL cs sl pc : Nat) (lv : List (Nat × Value)) (st : List Value) (ws : va_W) : Prop :=
  match x with
  | (p, e, R, s, m, args, below, meth, c, Q, A) => ∀ (H : Heap) (locs : List Loc) (ls : Array Slot), va_P (jD g) vwCl ws H → va_D A ws → va_S A s.heap H locs → lv_has ls nL lv → W p (jl g) e R s m args below meth c H locs cs sl Q (F0 m pc ls st)
def JX (g : jG) (x : jC) (own : String) (cc : ByteArray) (nL : Nat) (ret : Option FieldType) (rm : Room) : Prop :=
  match x with
  | (p, _, R, s, m, args, _, meth, c, _, A) => p.tables.exec = Jvm.exec ∧ c.code = cc ∧ s.vm.findClass own = some m.cls ∧ (∀ w ∈ wsL_law, w.before args s = true) ∧ jK g s ∧ c.maxLocals = nL ∧ (∀ q : Nat, s.heap.size ≤ q → A q) ∧ meth.sig.returnType = ret ∧ meth.locks = false ∧ R = rm
/-- the context of a constructor -/
def JN (x : jC) : Prop :=
  match x with
  | (_, _, _, _, _, _, _, meth, _, _, _) => meth.name = "<init>"
/-- what a method's end has to say -/
def jB (g : jG) (A : Nat → Prop) (w0 : va_W) (u : va_W × va_W) (t : State) : Prop := va_P (jD g) vwCl (u.1 ++ u.2) t.heap ∧ va_D A (u.1 ++ u.2) ∧ u.1.map Prod.fst = w0.map Prod.fst
def jQI (g : jG) (post : Int32 → va_W → Prop) (A : Nat → Prop) (w0 : va_W) : Array Value → State → Outcome → State → Prop := va_Qi (S := va_W × va_W) (fun r u => post r u.1 ∧ u.2 = []) (jB g A w0) A
def jQV (g : jG) (post : va_W → va_W → Prop) (A : Nat → Prop) (w0 : va_W) : Array Value → State → Outcome → State → Prop := va_Qv (S := va_W × va_W) (fun u => post u.1 u.2) (jB g A w0) A
def JRI (g : jG) (x : jC) (post : Int32 → va_W → Prop) (w0 : va_W) : Prop :=
  match x with
  | (_, _, _, s, _, args, below, _, _, Q, A) => Q = MQ below (jQI g post A w0) args s 0 0 A
def JRV (g : jG) (x : jC) (mc ms : Nat) (post : va_W → va_W → Prop) (w0 : va_W) : Prop :=
  match x with
  | (_, _, _, s, _, args, below, _, _, Q, A) => Q = MQ below (jQV g post A w0) args s mc ms A
def jP (g : jG) (as : List Value) (ws : va_W) (sz : Nat) : Array Value → State → Prop := va_Pc as (fun U => U.heap.size = sz ∧ va_P (jD g) vwCl ws U.heap ∧ jK g U ∧ va_D (fun _ => True) ws)
/-- contracts: an int (or boolean) answer, no new cells; no answer, new cells behind -/
def jMI (g : jG) (y : MethodName) (cb : ByteArray) (maxL : Nat) (rt : FieldType) (nf nl : Nat) (as : List Value) (ws : va_W) (post : Int32 → va_W → Prop) : Prop :=
  ∀ sz, Met (jl g) y (.code y cb maxL (some rt) :: wsL_law) { frames := nf, cells := 0, slots := 0, locals := nl } (jP g as ws sz) (jQI g post (va_A ws sz) ws) 0 0 (va_A ws sz)
def jMV (g : jG) (y : MethodName) (cb : ByteArray) (maxL : Nat) (nf nl mc ms : Nat) (as : List Value) (ws : va_W) (post : va_W → va_W → Prop) : Prop :=
  ∀ sz, Met (jl g) y (.code y cb maxL none :: wsL_law) { frames := nf, cells := mc, slots := ms, locals := nl } (jP g as ws sz) (jQV g post (va_A ws sz) ws) mc ms (va_A ws sz)
theorem va_D_fst {A : Nat → Prop} {w1 w2 : va_W} (h : w1.map Prod.fst = w2.map Prod.fst) (hD : va_D A w2) : va_D A w1 := by
  have key : ∀ (k : Nat) (q : Nat × va_E), w1[k]? = some q → ∃ q0, w2[k]? = some q0 ∧ q0.1 = q.1 := by
    intro k q hk
    have h1 : (w1.map Prod.fst)[k]? = some q.1 := by rw [List.getElem?_map, hk]; rfl
    rw [h, List.getElem?_map] at h1
    cases hw : w2[k]? with
    | none => rw [hw] at h1; cases h1
    | some q0 => rw [hw] at h1; exact ⟨q0, rfl, Option.some.inj h1⟩
  refine ⟨fun i j p q hi hj hpq => ?_, fun k q hk => ?_⟩
  · obtain ⟨p0, a1, a2⟩ := key i p hi
    obtain ⟨q0, b1, b2⟩ := key j q hj
    exact hD.1 i j p0 q0 a1 b1 (a2.trans (hpq.trans b2.symm))
  · obtain ⟨q0, b1, b2⟩ := key k q hk
    exact b2 ▸ hD.2 k q0 b1
def jlook (j : Nat) : List Nat → va_W → Option (Nat × va_E)
  | i :: is, q :: qs => match Nat.beq i j with
    | true => some q
    | false => jlook j is qs
  | _, _ => none
def jmix (is : List Nat) (w : va_W) : Nat → va_W → va_W
  | _, [] => []
  | j, c :: ws => (match jlook j is w with
    | some q => q
    | none => c) :: jmix is w (j + 1) ws
def jput (ws : va_W) (is : List Nat) (w : va_W) : va_W := jmix is w 0 ws
theorem jlook_in : ∀ (is : List Nat) (w : va_W) (j : Nat) (q : Nat × va_E), jlook j is w = some q → ∃ k : Nat, is[k]? = some j ∧ w[k]? = some q
  | [], w, j, q, h => by cases w <;> cases h
  | _ :: _, [], j, q, h => by cases h
  | i :: is, z :: qs, j, q, h => by
    rw [jlook] at h
    cases hb : Nat.beq i j with
    | true =>
      rw [hb] at h
      cases h
      exact ⟨0, by rw [Nat.eq_of_beq_eq_true hb]; rfl, rfl⟩
    | false =>
      rw [hb] at h
      obtain ⟨k, h1, h2⟩ := jlook_in is qs j q h
      exact ⟨k + 1, h1, h2⟩
theorem jlook_none : ∀ (is : List Nat) (w : va_W) (j : Nat), is.length = w.length → jlook j is w = none → j ∉ is
  | [], _, _, _, _ => List.not_mem_nil
  | _ :: _, [], _, hl, _ => by cases hl
  | i :: is, z :: qs, j, hl, h => by
    rw [jlook] at h
    cases hb : Nat.beq i j with
    | true => rw [hb] at h; cases h
    | false =>
      rw [hb] at h
      intro hm
      rcases List.mem_cons.mp hm with e | hm
      · rw [e, Nat.beq_refl] at hb
        cases hb
      · exact jlook_none is qs j (Nat.succ.inj hl) h hm
theorem jmix_get (is : List Nat) (w : va_W) : ∀ (ws : va_W) (j k : Nat), (jmix is w j ws)[k]? = (ws[k]?).map fun c => match jlook (j + k) is w with
    | some q => q
    | none => c
  | [], j, k => by simp [jmix]
  | c :: ws, j, 0 => by simp [jmix]
  | c :: ws, j, k + 1 => by
    rw [jmix, List.getElem?_cons_succ, List.getElem?_cons_succ, jmix_get is w ws (j + 1) k, show j + 1 + k = j + (k + 1) by omega]
theorem jput_P {D : va_G} {H : Heap} (is : List Nat) (w ws : va_W) (hl : is.length = w.length) (hw : ∀ q ∈ w, va_at D vwCl q H) (h : ∀ (k : Nat) (q : Nat × va_E), k ∉ is → ws[k]? = some q → va_at D vwCl q H) : va_P D vwCl (jput ws is w) H := by
  intro k q hk
  rw [jput, jmix_get, Nat.zero_add] at hk
  cases hz : ws[k]? with
  | none => rw [hz] at hk; cases hk
  | some c =>
    rw [hz] at hk
    cases hj : jlook k is w with
    | none =>
      simp only [Option.map_some, hj] at hk
      cases hk
      exact h k _ (jlook_none is w k hl hj) hz
    | some z =>
      simp only [Option.map_some, hj] at hk
      cases hk
      obtain ⟨i, -, h2⟩ := jlook_in is w k _ hj
      exact hw _ (List.mem_of_getElem? h2)
theorem jput_fst (is : List Nat) (w ws : va_W) (h : is.map (fun i => (ws.map Prod.fst)[i]?) = (w.map Prod.fst).map some) : (jput ws is w).map Prod.fst = ws.map Prod.fst := by
  apply List.ext_getElem?
  intro k
  rw [List.getElem?_map, List.getElem?_map, jput, jmix_get, Nat.zero_add]
  cases hz : ws[k]? with
  | none => rfl
  | some c =>
    cases hj : jlook k is w with
    | none => simp [hj]
    | some z =>
      obtain ⟨i, h1, h2⟩ := jlook_in is w k _ hj
      have h3 : (is.map (fun i => (ws.map Prod.fst)[i]?))[i]? = some (some z.1) := by rw [h, List.getElem?_map, List.getElem?_map, h2]; rfl
      rw [List.getElem?_map, h1] at h3
      have h4 : (ws.map Prod.fst)[k]? = some z.1 := Option.some.inj h3
      rw [List.getElem?_map, hz] at h4
      simp only [Option.map_some, hj]
      exact h4.symm
theorem jsel_fst {is : List Nat} {ws wc w : va_W} (hC : is.map (fun i => ws[i]?) = wc.map some) (hf : w.map Prod.fst = wc.map Prod.fst) : is.map (fun i => (ws.map Prod.fst)[i]?) = (w.map Prod.fst).map some := by
  rw [hf]
  have h1 := congrArg (List.map (Option.map Prod.fst)) hC
  simpa [List.map_map, Function.comp_def] using h1
theorem jsel_len {is : List Nat} {ws wc w : va_W} (hC : is.map (fun i => ws[i]?) = wc.map some) (hf : w.map Prod.fst = wc.map Prod.fst) : is.length = w.length := by
  have h1 := congrArg List.length hC
  have h2 := congrArg List.length hf
  simp only [List.length_map] at h1 h2
  omega
theorem jsel_in {is : List Nat} {ws wc : va_W} (hC : is.map (fun i => ws[i]?) = wc.map some) {j : Nat} {q : Nat × va_E} (hq : wc[j]? = some q) : ∃ i, i ∈ is ∧ ws[i]? = some q := by
  have h1 : (is.map (fun i => ws[i]?))[j]? = some (some q) := by rw [hC, List.getElem?_map, hq]; rfl
  rw [List.getElem?_map] at h1
  cases hi : is[j]? with
  | none => rw [hi] at h1; cases h1
  | some i => rw [hi] at h1; exact ⟨i, List.mem_of_getElem? hi, Option.some.inj h1⟩
/-- behind a call: the callee's cells in their old places, its new ones behind -/
theorem jback {A0 : Nat → Prop} {D : va_G} {ws wc w wn : va_W} {H H1 : Heap} (hP : va_P D vwCl ws H) (hD : va_D A0 ws) (is : List Nat) (hC : is.map (fun i => ws[i]?) = wc.map some)
    (hk : ∀ q : Nat, q < H.size → ¬ va_A wc H.size q → H1[q]? = H[q]?) (hF : ∀ q, va_A wc H.size q → A0 q) (hP1 : va_P D vwCl (w ++ wn) H1) (hD1 : va_D (va_A wc H.size) (w ++ wn)) (hf : w.map Prod.fst = wc.map Prod.fst) : va_P D vwCl (jput ws is w ++ wn) H1 ∧ va_D A0 (jput ws is w ++ wn) := by
  have hPw : ∀ q ∈ w, va_at D vwCl q H1 := fun q hq => by
    obtain ⟨i, hi⟩ := List.getElem?_of_mem hq
    exact hP1 i q (by rw [List.getElem?_append_left (List.getElem?_eq_some_iff.mp hi).1]; exact hi)
  have hPn : va_P D vwCl wn H1 := fun k q hq => hP1 (w.length + k) q (by rw [List.getElem?_append_right (by omega), Nat.add_sub_cancel_left]; exact hq)
  have hfst := jput_fst is w ws (jsel_fst hC hf)
  refine ⟨va_P.app (jput_P is w ws (jsel_len hC hf) hPw (fun k q hki hq => ?_)) hPn, va_D.app (va_D_fst hfst hD) ⟨fun i j p q hi hj hpq => ?_, fun k q hq => ?_⟩ (fun i j p q hi hj hpq => ?_)⟩
  · refine (hP k q hq).kept (hk q.1 (hP k q hq).lt (fun h => ?_))
    rcases h with ⟨j, e, h⟩ | h
    · obtain ⟨i, h1, h2⟩ := jsel_in hC h
      have hij := hD.1 k i q (q.1, e) hq h2 rfl
      exact hki (hij ▸ h1)
    · have := (hP k q hq).lt
      omega
  · have a1 : (w ++ wn)[w.length + i]? = some p := by rw [List.getElem?_append_right (by omega), Nat.add_sub_cancel_left]; exact hi
    have a2 : (w ++ wn)[w.length + j]? = some q := by rw [List.getElem?_append_right (by omega), Nat.add_sub_cancel_left]; exact hj
    have := hD1.1 _ _ p q a1 a2 hpq
    omega
  · exact hF _ (hD1.2 (w.length + k) q (by rw [List.getElem?_append_right (by omega), Nat.add_sub_cancel_left]; exact hq))
  · have a2 : (w ++ wn)[w.length + j]? = some q := by rw [List.getElem?_append_right (by omega), Nat.add_sub_cancel_left]; exact hj
    have b1 : (ws.map Prod.fst)[i]? = some p.1 := by rw [← hfst, List.getElem?_map, hi]; rfl
    rw [List.getElem?_map] at b1
    cases hz : ws[i]? with
    | none => rw [hz] at b1; cases b1
    | some z =>
      rw [hz] at b1
      have ez : z.1 = p.1 := Option.some.inj b1
      have hlt := (hP i z hz).lt
      rcases hD1.2 _ q a2 with ⟨k2, e, h⟩ | h
      · have c1 : (w.map Prod.fst)[k2]? = some q.1 := by rw [hf, List.getElem?_map, h]; rfl
        rw [List.getElem?_map] at c1
        cases hy : w[k2]? with
        | none => rw [hy] at c1; cases c1
        | some y =>
          rw [hy] at c1
          have hl2 := (List.getElem?_eq_some_iff.mp hy).1
          have a3 : (w ++ wn)[k2]? = some y := by rw [List.getElem?_append_left hl2]; exact hy
          have := hD1.1 k2 (w.length + j) y q a3 a2 (Option.some.inj c1)
          omega
      · omega
def S_max (a b : Int32) : Int32 := if a < b then b else a
def S_min (a b : Int32) : Int32 := if b < a then b else a
section JROWS
variable {g : jG} {x : jC} {own : String} {cc : ByteArray} {nL : Nat} {ret : Option FieldType} {rm : Room} {pc cs sl : Nat} {lv : List (Nat × Value)} {st : List Value} {ws : va_W}

theorem j_iconst (hX : JX g x own cc nL ret rm) {n : Int} {v : Int32} (hdg : decode cc pc = .ok (.iconst n, 1)) (hv : Int32.ofInt n = v) (kk : J g x nL cs sl (pc + 1) lv (.int v :: st) ws) : J g x nL cs sl pc lv st ws := by
  obtain ⟨p, e, R, s, m, args, below, meth, c, Q, A⟩ := x
  obtain ⟨hx, hb, hown, hts, hK, hml, hA, hr, hlo, hR⟩ := hX
  intro H locs ls hP hD hS hls
  exact lv_iconst hx hb hdg hv (kk H locs ls hP hD hS hls)
theorem j_bipush (hX : JX g x own cc nL ret rm) {n : Int} {v : Int32} (hdg : decode cc pc = .ok (.bipush n, 2)) (hv : (Int8.ofInt n).toInt32 = v) (kk : J g x nL cs sl (pc + 2) lv (.int v :: st) ws) : J g x nL cs sl pc lv st ws := by
  obtain ⟨p, e, R, s, m, args, below, meth, c, Q, A⟩ := x
  obtain ⟨hx, hb, hown, hts, hK, hml, hA, hr, hlo, hR⟩ := hX
  intro H locs ls hP hD hS hls
  exact lv_bipush hx hb hdg hv (kk H locs ls hP hD hS hls)
theorem j_sipush (hX : JX g x own cc nL ret rm) {n : Int} {v : Int32} (hdg : decode cc pc = .ok (.sipush n, 3)) (hv : (Int16.ofInt n).toInt32 = v) (kk : J g x nL cs sl (pc + 3) lv (.int v :: st) ws) : J g x nL cs sl pc lv st ws := by
  obtain ⟨p, e, R, s, m, args, below, meth, c, Q, A⟩ := x
  obtain ⟨hx, hb, hown, hts, hK, hml, hA, hr, hlo, hR⟩ := hX
  intro H locs ls hP hD hS hls
  exact lv_sipush hx hb hdg hv (kk H locs ls hP hD hS hls)
theorem j_lconst (hX : JX g x own cc nL ret rm) {n : Fin 2} {v : Int64} (hdg : decode cc pc = .ok (.lconst n, 1)) (hv : Int64.ofNat (n : Nat) = v) (kk : J g x nL cs sl (pc + 1) lv (.long v :: st) ws) : J g x nL cs sl pc lv st ws := by
  obtain ⟨p, e, R, s, m, args, below, meth, c, Q, A⟩ := x
  obtain ⟨hx, hb, hown, hts, hK, hml, hA, hr, hlo, hR⟩ := hX
  intro H locs ls hP hD hS hls
  exact lv_lconst hx hb hdg hv (kk H locs ls hP hD hS hls)
theorem j_iload_n (hX : JX g x own cc nL ret rm) {k : Fin 4} {v : Int32} (hdg : decode cc pc = .ok (.iload_n k, 1)) (q : Nat) (hl : lv[q]? = some ((k : Nat), .int v)) (kk : J g x nL cs sl (pc + 1) lv (.int v :: st) ws) : J g x nL cs sl pc lv st ws := by
  obtain ⟨p, e, R, s, m, args, below, meth, c, Q, A⟩ := x
  obtain ⟨hx, hb, hown, hts, hK, hml, hA, hr, hlo, hR⟩ := hX
  intro H locs ls hP hD hS hls
  exact lv_iload_n hx hb hdg rfl (lv_at hls q hl) (kk H locs ls hP hD hS hls)
theorem j_iload (hX : JX g x own cc nL ret rm) {i : Nat} {v : Int32} (hdg : decode cc pc = .ok (.iload i, 2)) (q : Nat) (hl : lv[q]? = some (i, .int v)) (kk : J g x nL cs sl (pc + 2) lv (.int v :: st) ws) : J g x nL cs sl pc lv st ws := by
  obtain ⟨p, e, R, s, m, args, below, meth, c, Q, A⟩ := x
  obtain ⟨hx, hb, hown, hts, hK, hml, hA, hr, hlo, hR⟩ := hX
  intro H locs ls hP hD hS hls
  exact lv_iload hx hb hdg (lv_at hls q hl) (kk H locs ls hP hD hS hls)
theorem j_lload_n (hX : JX g x own cc nL ret rm) {k : Fin 4} {v : Int64} (hdg : decode cc pc = .ok (.lload_n k, 1)) (q : Nat) (hl : lv[q]? = some ((k : Nat), .long v)) (kk : J g x nL cs sl (pc + 1) lv (.long v :: st) ws) : J g x nL cs sl pc lv st ws := by
  obtain ⟨p, e, R, s, m, args, below, meth, c, Q, A⟩ := x
  obtain ⟨hx, hb, hown, hts, hK, hml, hA, hr, hlo, hR⟩ := hX
  intro H locs ls hP hD hS hls
  exact lv_lload_n hx hb hdg rfl (lv_at hls q hl) (kk H locs ls hP hD hS hls)
theorem j_lload (hX : JX g x own cc nL ret rm) {i : Nat} {v : Int64} (hdg : decode cc pc = .ok (.lload i, 2)) (q : Nat) (hl : lv[q]? = some (i, .long v)) (kk : J g x nL cs sl (pc + 2) lv (.long v :: st) ws) : J g x nL cs sl pc lv st ws := by
  obtain ⟨p, e, R, s, m, args, below, meth, c, Q, A⟩ := x
  obtain ⟨hx, hb, hown, hts, hK, hml, hA, hr, hlo, hR⟩ := hX
  intro H locs ls hP hD hS hls
  exact lv_lload hx hb hdg (lv_at hls q hl) (kk H locs ls hP hD hS hls)
theorem j_aload_n (hX : JX g x own cc nL ret rm) {k : Fin 4} {v : Nat} (hdg : decode cc pc = .ok (.aload_n k, 1)) (q : Nat) (hl : lv[q]? = some ((k : Nat), .ref v)) (kk : J g x nL cs sl (pc + 1) lv (.ref v :: st) ws) : J g x nL cs sl pc lv st ws := by
  obtain ⟨p, e, R, s, m, args, below, meth, c, Q, A⟩ := x
  obtain ⟨hx, hb, hown, hts, hK, hml, hA, hr, hlo, hR⟩ := hX
  intro H locs ls hP hD hS hls
  exact lv_aload_n hx hb hdg rfl (lv_at hls q hl) (kk H locs ls hP hD hS hls)
theorem j_aload (hX : JX g x own cc nL ret rm) {i : Nat} {v : Nat} (hdg : decode cc pc = .ok (.aload i, 2)) (q : Nat) (hl : lv[q]? = some (i, .ref v)) (kk : J g x nL cs sl (pc + 2) lv (.ref v :: st) ws) : J g x nL cs sl pc lv st ws := by
  obtain ⟨p, e, R, s, m, args, below, meth, c, Q, A⟩ := x
  obtain ⟨hx, hb, hown, hts, hK, hml, hA, hr, hlo, hR⟩ := hX
  intro H locs ls hP hD hS hls
  exact lv_aload hx hb hdg (lv_at hls q hl) (kk H locs ls hP hD hS hls)
theorem j_istore_n (hX : JX g x own cc nL ret rm) {k : Fin 4} {v : Int32} {lv2 : List (Nat × Value)} (hdg : decode cc pc = .ok (.istore_n k, 1)) (ks : List Nat) (hn : (k : Nat) < nL) (hl : lv_pick (((k : Nat), Value.int v) :: lv.filter (fun q => !(q.1 == (k : Nat)) && !(q.1 + 1 == (k : Nat) && q.2.category == 2))) ks = lv2) (kk : J g x nL cs sl (pc + 1) lv2 st ws) : J g x nL cs sl pc lv (.int v :: st) ws := by
  obtain ⟨p, e, R, s, m, args, below, meth, c, Q, A⟩ := x
  obtain ⟨hx, hb, hown, hts, hK, hml, hA, hr, hlo, hR⟩ := hX
  intro H locs ls hP hD hS hls
  exact lv_istore_n hx hb hdg rfl hls hn rfl (fun ls2 h2 => kk H locs ls2 hP hD hS (lv_sub h2 ks hl))
theorem j_istore (hX : JX g x own cc nL ret rm) {i : Nat} {v : Int32} {lv2 : List (Nat × Value)} (hdg : decode cc pc = .ok (.istore i, 2)) (ks : List Nat) (hn : i < nL) (hl : lv_pick ((i, Value.int v) :: lv.filter (fun q => !(q.1 == i) && !(q.1 + 1 == i && q.2.category == 2))) ks = lv2) (kk : J g x nL cs sl (pc + 2) lv2 st ws) : J g x nL cs sl pc lv (.int v :: st) ws := by
  obtain ⟨p, e, R, s, m, args, below, meth, c, Q, A⟩ := x
  obtain ⟨hx, hb, hown, hts, hK, hml, hA, hr, hlo, hR⟩ := hX
  intro H locs ls hP hD hS hls
  exact lv_istore hx hb hdg hls hn rfl (fun ls2 h2 => kk H locs ls2 hP hD hS (lv_sub h2 ks hl))
theorem j_astore_n (hX : JX g x own cc nL ret rm) {k : Fin 4} {v : Nat} {lv2 : List (Nat × Value)} (hdg : decode cc pc = .ok (.astore_n k, 1)) (ks : List Nat) (hn : (k : Nat) < nL) (hl : lv_pick (((k : Nat), Value.ref v) :: lv.filter (fun q => !(q.1 == (k : Nat)) && !(q.1 + 1 == (k : Nat) && q.2.category == 2))) ks = lv2) (kk : J g x nL cs sl (pc + 1) lv2 st ws) : J g x nL cs sl pc lv (.ref v :: st) ws := by
  obtain ⟨p, e, R, s, m, args, below, meth, c, Q, A⟩ := x
  obtain ⟨hx, hb, hown, hts, hK, hml, hA, hr, hlo, hR⟩ := hX
  intro H locs ls hP hD hS hls
  exact lv_astore_n hx hb hdg rfl hls hn rfl (fun ls2 h2 => kk H locs ls2 hP hD hS (lv_sub h2 ks hl))
theorem j_astore (hX : JX g x own cc nL ret rm) {i : Nat} {v : Nat} {lv2 : List (Nat × Value)} (hdg : decode cc pc = .ok (.astore i, 2)) (ks : List Nat) (hn : i < nL) (hl : lv_pick ((i, Value.ref v) :: lv.filter (fun q => !(q.1 == i) && !(q.1 + 1 == i && q.2.category == 2))) ks = lv2) (kk : J g x nL cs sl (pc + 2) lv2 st ws) : J g x nL cs sl pc lv (.ref v :: st) ws := by
  obtain ⟨p, e, R, s, m, args, below, meth, c, Q, A⟩ := x
  obtain ⟨hx, hb, hown, hts, hK, hml, hA, hr, hlo, hR⟩ := hX
  intro H locs ls hP hD hS hls
  exact lv_astore hx hb hdg hls hn rfl (fun ls2 h2 => kk H locs ls2 hP hD hS (lv_sub h2 ks hl))
theorem j_lstore_n (hX : JX g x own cc nL ret rm) {k : Fin 4} {v : Int64} {lv2 : List (Nat × Value)} (hdg : decode cc pc = .ok (.lstore_n k, 1)) (ks : List Nat) (hn : (k : Nat) + 1 < nL) (hl : lv_pick (((k : Nat), Value.long v) :: lv.filter (fun q => !(q.1 == (k : Nat)) && (!(q.1 == (k : Nat) + 1) && !(q.1 + 1 == (k : Nat) && q.2.category == 2)))) ks = lv2) (kk : J g x nL cs sl (pc + 1) lv2 st ws) : J g x nL cs sl pc lv (.long v :: st) ws := by
  obtain ⟨p, e, R, s, m, args, below, meth, c, Q, A⟩ := x
  obtain ⟨hx, hb, hown, hts, hK, hml, hA, hr, hlo, hR⟩ := hX
  intro H locs ls hP hD hS hls
  exact lv_lstore_n hx hb hdg rfl hls hn rfl (fun ls2 h2 => kk H locs ls2 hP hD hS (lv_sub h2 ks hl))
theorem j_lstore (hX : JX g x own cc nL ret rm) {i : Nat} {v : Int64} {lv2 : List (Nat × Value)} (hdg : decode cc pc = .ok (.lstore i, 2)) (ks : List Nat) (hn : i + 1 < nL) (hl : lv_pick ((i, Value.long v) :: lv.filter (fun q => !(q.1 == i) && (!(q.1 == i + 1) && !(q.1 + 1 == i && q.2.category == 2)))) ks = lv2) (kk : J g x nL cs sl (pc + 2) lv2 st ws) : J g x nL cs sl pc lv (.long v :: st) ws := by
  obtain ⟨p, e, R, s, m, args, below, meth, c, Q, A⟩ := x
  obtain ⟨hx, hb, hown, hts, hK, hml, hA, hr, hlo, hR⟩ := hX
  intro H locs ls hP hD hS hls
  exact lv_lstore hx hb hdg hls hn rfl (fun ls2 h2 => kk H locs ls2 hP hD hS (lv_sub h2 ks hl))
theorem j_iinc (hX : JX g x own cc nL ret rm) {i : Nat} {n : Int} {u v : Int32} {lv2 : List (Nat × Value)} (hdg : decode cc pc = .ok (.iinc i n, 3)) (k : Nat) (hk : lv[k]? = some (i, .int u)) (hv : u + Int32.ofInt n = v) (ks : List Nat) (hn : i < nL) (hl : lv_pick ((i, Value.int v) :: lv.filter (fun q => !(q.1 == i) && !(q.1 + 1 == i && q.2.category == 2))) ks = lv2) (kk : J g x nL cs sl (pc + 3) lv2 st ws) : J g x nL cs sl pc lv st ws := by
  obtain ⟨p, e, R, s, m, args, below, meth, c, Q, A⟩ := x
  obtain ⟨hx, hb, hown, hts, hK, hml, hA, hr, hlo, hR⟩ := hX
  intro H locs ls hP hD hS hls
  exact lv_iinc hx hb hdg hls hk hv hn rfl (fun ls2 h2 => kk H locs ls2 hP hD hS (lv_sub h2 ks hl))
theorem j_iadd (hX : JX g x own cc nL ret rm) {a b : Int32} (hdg : decode cc pc = .ok (.iadd, 1)) (kk : J g x nL cs sl (pc + 1) lv (.int (a + b) :: st) ws) : J g x nL cs sl pc lv (.int b :: .int a :: st) ws := by
  obtain ⟨p, e, R, s, m, args, below, meth, c, Q, A⟩ := x
  obtain ⟨hx, hb, hown, hts, hK, hml, hA, hr, hlo, hR⟩ := hX
  intro H locs ls hP hD hS hls
  exact lv_iadd hx hb hdg (kk H locs ls hP hD hS hls)
theorem j_isub (hX : JX g x own cc nL ret rm) {a b : Int32} (hdg : decode cc pc = .ok (.isub, 1)) (kk : J g x nL cs sl (pc + 1) lv (.int (a - b) :: st) ws) : J g x nL cs sl pc lv (.int b :: .int a :: st) ws := by
  obtain ⟨p, e, R, s, m, args, below, meth, c, Q, A⟩ := x
  obtain ⟨hx, hb, hown, hts, hK, hml, hA, hr, hlo, hR⟩ := hX
  intro H locs ls hP hD hS hls
  exact lv_isub hx hb hdg (kk H locs ls hP hD hS hls)
theorem j_imul (hX : JX g x own cc nL ret rm) {a b : Int32} (hdg : decode cc pc = .ok (.imul, 1)) (kk : J g x nL cs sl (pc + 1) lv (.int (a * b) :: st) ws) : J g x nL cs sl pc lv (.int b :: .int a :: st) ws := by
  obtain ⟨p, e, R, s, m, args, below, meth, c, Q, A⟩ := x
  obtain ⟨hx, hb, hown, hts, hK, hml, hA, hr, hlo, hR⟩ := hX
  intro H locs ls hP hD hS hls
  exact lv_imul hx hb hdg (kk H locs ls hP hD hS hls)
theorem j_iand (hX : JX g x own cc nL ret rm) {a b : Int32} (hdg : decode cc pc = .ok (.iand, 1)) (kk : J g x nL cs sl (pc + 1) lv (.int (a &&& b) :: st) ws) : J g x nL cs sl pc lv (.int b :: .int a :: st) ws := by
  obtain ⟨p, e, R, s, m, args, below, meth, c, Q, A⟩ := x
  obtain ⟨hx, hb, hown, hts, hK, hml, hA, hr, hlo, hR⟩ := hX
  intro H locs ls hP hD hS hls
  exact lv_iand hx hb hdg (kk H locs ls hP hD hS hls)
theorem j_ior (hX : JX g x own cc nL ret rm) {a b : Int32} (hdg : decode cc pc = .ok (.ior, 1)) (kk : J g x nL cs sl (pc + 1) lv (.int (a ||| b) :: st) ws) : J g x nL cs sl pc lv (.int b :: .int a :: st) ws := by
  obtain ⟨p, e, R, s, m, args, below, meth, c, Q, A⟩ := x
  obtain ⟨hx, hb, hown, hts, hK, hml, hA, hr, hlo, hR⟩ := hX
  intro H locs ls hP hD hS hls
  exact lv_ior hx hb hdg (kk H locs ls hP hD hS hls)
theorem j_ixor (hX : JX g x own cc nL ret rm) {a b : Int32} (hdg : decode cc pc = .ok (.ixor, 1)) (kk : J g x nL cs sl (pc + 1) lv (.int (a ^^^ b) :: st) ws) : J g x nL cs sl pc lv (.int b :: .int a :: st) ws := by
  obtain ⟨p, e, R, s, m, args, below, meth, c, Q, A⟩ := x
  obtain ⟨hx, hb, hown, hts, hK, hml, hA, hr, hlo, hR⟩ := hX
  intro H locs ls hP hD hS hls
  exact lv_ixor hx hb hdg (kk H locs ls hP hD hS hls)
theorem j_ishl (hX : JX g x own cc nL ret rm) {a b : Int32} (hdg : decode cc pc = .ok (.ishl, 1)) (kk : J g x nL cs sl (pc + 1) lv (.int (a <<< (b &&& 31)) :: st) ws) : J g x nL cs sl pc lv (.int b :: .int a :: st) ws := by
  obtain ⟨p, e, R, s, m, args, below, meth, c, Q, A⟩ := x
  obtain ⟨hx, hb, hown, hts, hK, hml, hA, hr, hlo, hR⟩ := hX
  intro H locs ls hP hD hS hls
  exact lv_ishl hx hb hdg (kk H locs ls hP hD hS hls)
theorem j_ishr (hX : JX g x own cc nL ret rm) {a b : Int32} (hdg : decode cc pc = .ok (.ishr, 1)) (kk : J g x nL cs sl (pc + 1) lv (.int (a >>> (b &&& 31)) :: st) ws) : J g x nL cs sl pc lv (.int b :: .int a :: st) ws := by
  obtain ⟨p, e, R, s, m, args, below, meth, c, Q, A⟩ := x
  obtain ⟨hx, hb, hown, hts, hK, hml, hA, hr, hlo, hR⟩ := hX
  intro H locs ls hP hD hS hls
  exact lv_ishr hx hb hdg (kk H locs ls hP hD hS hls)
theorem j_land (hX : JX g x own cc nL ret rm) {a b : Int64} (hdg : decode cc pc = .ok (.land, 1)) (kk : J g x nL cs sl (pc + 1) lv (.long (a &&& b) :: st) ws) : J g x nL cs sl pc lv (.long b :: .long a :: st) ws := by
  obtain ⟨p, e, R, s, m, args, below, meth, c, Q, A⟩ := x
  obtain ⟨hx, hb, hown, hts, hK, hml, hA, hr, hlo, hR⟩ := hX
  intro H locs ls hP hD hS hls
  exact lv_land hx hb hdg (kk H locs ls hP hD hS hls)
theorem j_lor (hX : JX g x own cc nL ret rm) {a b : Int64} (hdg : decode cc pc = .ok (.lor, 1)) (kk : J g x nL cs sl (pc + 1) lv (.long (a ||| b) :: st) ws) : J g x nL cs sl pc lv (.long b :: .long a :: st) ws := by
  obtain ⟨p, e, R, s, m, args, below, meth, c, Q, A⟩ := x
  obtain ⟨hx, hb, hown, hts, hK, hml, hA, hr, hlo, hR⟩ := hX
  intro H locs ls hP hD hS hls
  exact lv_lor hx hb hdg (kk H locs ls hP hD hS hls)
theorem j_iushr (hX : JX g x own cc nL ret rm) {a b : Int32} (hdg : decode cc pc = .ok (.iushr, 1)) (kk : J g x nL cs sl (pc + 1) lv (.int ((a.toUInt32 >>> (b.toUInt32 &&& Int32.toUInt32 31)).toInt32) :: st) ws) : J g x nL cs sl pc lv (.int b :: .int a :: st) ws := by
  obtain ⟨p, e, R, s, m, args, below, meth, c, Q, A⟩ := x
  obtain ⟨hx, hb, hown, hts, hK, hml, hA, hr, hlo, hR⟩ := hX
  intro H locs ls hP hD hS hls
  exact lv_iushr hx hb hdg rfl (kk H locs ls hP hD hS hls)
theorem j_lushr (hX : JX g x own cc nL ret rm) {a : Int64} {b : Int32} (hdg : decode cc pc = .ok (.lushr, 1)) (kk : J g x nL cs sl (pc + 1) lv (.long ((a.toUInt64 >>> (b.toInt64.toUInt64 &&& Int64.toUInt64 63)).toInt64) :: st) ws) : J g x nL cs sl pc lv (.int b :: .long a :: st) ws := by
  obtain ⟨p, e, R, s, m, args, below, meth, c, Q, A⟩ := x
  obtain ⟨hx, hb, hown, hts, hK, hml, hA, hr, hlo, hR⟩ := hX
  intro H locs ls hP hD hS hls
  exact lv_lushr hx hb hdg rfl (kk H locs ls hP hD hS hls)
theorem j_lshl (hX : JX g x own cc nL ret rm) {a : Int64} {b : Int32} (hdg : decode cc pc = .ok (.lshl, 1)) (kk : J g x nL cs sl (pc + 1) lv (.long (a <<< (b.toInt64 &&& 63)) :: st) ws) : J g x nL cs sl pc lv (.int b :: .long a :: st) ws := by
  obtain ⟨p, e, R, s, m, args, below, meth, c, Q, A⟩ := x
  obtain ⟨hx, hb, hown, hts, hK, hml, hA, hr, hlo, hR⟩ := hX
  intro H locs ls hP hD hS hls
  exact lv_lshl hx hb hdg rfl (kk H locs ls hP hD hS hls)
theorem j_i2l (hX : JX g x own cc nL ret rm) {a : Int32} (hdg : decode cc pc = .ok (.i2l, 1)) (kk : J g x nL cs sl (pc + 1) lv (.long a.toInt64 :: st) ws) : J g x nL cs sl pc lv (.int a :: st) ws := by
  obtain ⟨p, e, R, s, m, args, below, meth, c, Q, A⟩ := x
  obtain ⟨hx, hb, hown, hts, hK, hml, hA, hr, hlo, hR⟩ := hX
  intro H locs ls hP hD hS hls
  exact lv_i2l hx hb hdg rfl (kk H locs ls hP hD hS hls)
theorem j_l2i (hX : JX g x own cc nL ret rm) {a : Int64} (hdg : decode cc pc = .ok (.l2i, 1)) (kk : J g x nL cs sl (pc + 1) lv (.int a.toInt32 :: st) ws) : J g x nL cs sl pc lv (.long a :: st) ws := by
  obtain ⟨p, e, R, s, m, args, below, meth, c, Q, A⟩ := x
  obtain ⟨hx, hb, hown, hts, hK, hml, hA, hr, hlo, hR⟩ := hX
  intro H locs ls hP hD hS hls
  exact lv_l2i hx hb hdg rfl (kk H locs ls hP hD hS hls)
theorem j_i2c (hX : JX g x own cc nL ret rm) {a : Int32} (hdg : decode cc pc = .ok (.i2c, 1)) (kk : J g x nL cs sl (pc + 1) lv (.int (a.toUInt32 % 65536).toInt32 :: st) ws) : J g x nL cs sl pc lv (.int a :: st) ws := by
  obtain ⟨p, e, R, s, m, args, below, meth, c, Q, A⟩ := x
  obtain ⟨hx, hb, hown, hts, hK, hml, hA, hr, hlo, hR⟩ := hX
  intro H locs ls hP hD hS hls
  exact lv_i2c hx hb hdg rfl (kk H locs ls hP hD hS hls)
theorem j_lcmp (hX : JX g x own cc nL ret rm) {a b : Int64} (hdg : decode cc pc = .ok (.lcmp, 1)) (kk : J g x nL cs sl (pc + 1) lv (.int (lg_cmp a b) :: st) ws) : J g x nL cs sl pc lv (.long b :: .long a :: st) ws := by
  obtain ⟨p, e, R, s, m, args, below, meth, c, Q, A⟩ := x
  obtain ⟨hx, hb, hown, hts, hK, hml, hA, hr, hlo, hR⟩ := hX
  intro H locs ls hP hD hS hls
  exact W.lcmp hx hb hdg (kk H locs ls hP hD hS hls)
theorem j_dup (hX : JX g x own cc nL ret rm) {v : Value} (hdg : decode cc pc = .ok (.dup, 1)) (hv : v.category = 1) (kk : J g x nL cs sl (pc + 1) lv (v :: v :: st) ws) : J g x nL cs sl pc lv (v :: st) ws := by
  obtain ⟨p, e, R, s, m, args, below, meth, c, Q, A⟩ := x
  obtain ⟨hx, hb, hown, hts, hK, hml, hA, hr, hlo, hR⟩ := hX
  intro H locs ls hP hD hS hls
  exact lv_dup hx hb hdg hv (kk H locs ls hP hD hS hls)
theorem j_dup2 (hX : JX g x own cc nL ret rm) {v u : Value} (hdg : decode cc pc = .ok (.dup2, 1)) (hv : v.category = 1) (hu : u.category = 1) (kk : J g x nL cs sl (pc + 1) lv (v :: u :: v :: u :: st) ws) : J g x nL cs sl pc lv (v :: u :: st) ws := by
  obtain ⟨p, e, R, s, m, args, below, meth, c, Q, A⟩ := x
  obtain ⟨hx, hb, hown, hts, hK, hml, hA, hr, hlo, hR⟩ := hX
  intro H locs ls hP hD hS hls
  exact lv_dup2_11 hx hb hdg hv hu (kk H locs ls hP hD hS hls)
theorem j_if_eq (hX : JX g x own cc nL ret rm) {a : Int32} {off : Int} {tgt : Nat} (hdg : decode cc pc = .ok (.ifCond .eq off, 3)) (ht : (pc : Int) + off = (tgt : Int)) (kt : a = 0 → J g x nL cs sl tgt lv st ws) (kf : ¬ a = 0 → J g x nL cs sl (pc + 3) lv st ws) : J g x nL cs sl pc lv (.int a :: st) ws := by
  obtain ⟨p, e, R, s, m, args, below, meth, c, Q, A⟩ := x
  obtain ⟨hx, hb, hown, hts, hK, hml, hA, hr, hlo, hR⟩ := hX
  intro H locs ls hP hD hS hls
  exact lv_if_eq hx hb hdg ht (fun h => kt h H locs ls hP hD hS hls) (fun h => kf h H locs ls hP hD hS hls)
theorem j_icmp_eq (hX : JX g x own cc nL ret rm) {a b : Int32} {off : Int} {tgt : Nat} (hdg : decode cc pc = .ok (.if_icmp .eq off, 3)) (ht : (pc : Int) + off = (tgt : Int)) (kt : a = b → J g x nL cs sl tgt lv st ws) (kf : ¬ a = b → J g x nL cs sl (pc + 3) lv st ws) : J g x nL cs sl pc lv (.int b :: .int a :: st) ws := by
  obtain ⟨p, e, R, s, m, args, below, meth, c, Q, A⟩ := x
  obtain ⟨hx, hb, hown, hts, hK, hml, hA, hr, hlo, hR⟩ := hX
  intro H locs ls hP hD hS hls
  exact lv_icmp_eq hx hb hdg ht (fun h => kt h H locs ls hP hD hS hls) (fun h => kf h H locs ls hP hD hS hls)
theorem j_if_ne (hX : JX g x own cc nL ret rm) {a : Int32} {off : Int} {tgt : Nat} (hdg : decode cc pc = .ok (.ifCond .ne off, 3)) (ht : (pc : Int) + off = (tgt : Int)) (kt : ¬ a = 0 → J g x nL cs sl tgt lv st ws) (kf : a = 0 → J g x nL cs sl (pc + 3) lv st ws) : J g x nL cs sl pc lv (.int a :: st) ws := by
  obtain ⟨p, e, R, s, m, args, below, meth, c, Q, A⟩ := x
  obtain ⟨hx, hb, hown, hts, hK, hml, hA, hr, hlo, hR⟩ := hX
  intro H locs ls hP hD hS hls
  exact lv_if_ne hx hb hdg ht (fun h => kt h H locs ls hP hD hS hls) (fun h => kf h H locs ls hP hD hS hls)
theorem j_icmp_ne (hX : JX g x own cc nL ret rm) {a b : Int32} {off : Int} {tgt : Nat} (hdg : decode cc pc = .ok (.if_icmp .ne off, 3)) (ht : (pc : Int) + off = (tgt : Int)) (kt : ¬ a = b → J g x nL cs sl tgt lv st ws) (kf : a = b → J g x nL cs sl (pc + 3) lv st ws) : J g x nL cs sl pc lv (.int b :: .int a :: st) ws := by
  obtain ⟨p, e, R, s, m, args, below, meth, c, Q, A⟩ := x
  obtain ⟨hx, hb, hown, hts, hK, hml, hA, hr, hlo, hR⟩ := hX
  intro H locs ls hP hD hS hls
  exact lv_icmp_ne hx hb hdg ht (fun h => kt h H locs ls hP hD hS hls) (fun h => kf h H locs ls hP hD hS hls)
theorem j_if_lt (hX : JX g x own cc nL ret rm) {a : Int32} {off : Int} {tgt : Nat} (hdg : decode cc pc = .ok (.ifCond .lt off, 3)) (ht : (pc : Int) + off = (tgt : Int)) (kt : a < 0 → J g x nL cs sl tgt lv st ws) (kf : ¬ a < 0 → J g x nL cs sl (pc + 3) lv st ws) : J g x nL cs sl pc lv (.int a :: st) ws := by
  obtain ⟨p, e, R, s, m, args, below, meth, c, Q, A⟩ := x
  obtain ⟨hx, hb, hown, hts, hK, hml, hA, hr, hlo, hR⟩ := hX
  intro H locs ls hP hD hS hls
  exact lv_if_lt hx hb hdg ht (fun h => kt h H locs ls hP hD hS hls) (fun h => kf h H locs ls hP hD hS hls)
theorem j_icmp_lt (hX : JX g x own cc nL ret rm) {a b : Int32} {off : Int} {tgt : Nat} (hdg : decode cc pc = .ok (.if_icmp .lt off, 3)) (ht : (pc : Int) + off = (tgt : Int)) (kt : a < b → J g x nL cs sl tgt lv st ws) (kf : ¬ a < b → J g x nL cs sl (pc + 3) lv st ws) : J g x nL cs sl pc lv (.int b :: .int a :: st) ws := by
  obtain ⟨p, e, R, s, m, args, below, meth, c, Q, A⟩ := x
  obtain ⟨hx, hb, hown, hts, hK, hml, hA, hr, hlo, hR⟩ := hX
  intro H locs ls hP hD hS hls
  exact lv_icmp_lt hx hb hdg ht (fun h => kt h H locs ls hP hD hS hls) (fun h => kf h H locs ls hP hD hS hls)
theorem j_if_ge (hX : JX g x own cc nL ret rm) {a : Int32} {off : Int} {tgt : Nat} (hdg : decode cc pc = .ok (.ifCond .ge off, 3)) (ht : (pc : Int) + off = (tgt : Int)) (kt : 0 ≤ a → J g x nL cs sl tgt lv st ws) (kf : ¬ 0 ≤ a → J g x nL cs sl (pc + 3) lv st ws) : J g x nL cs sl pc lv (.int a :: st) ws := by
  obtain ⟨p, e, R, s, m, args, below, meth, c, Q, A⟩ := x
  obtain ⟨hx, hb, hown, hts, hK, hml, hA, hr, hlo, hR⟩ := hX
  intro H locs ls hP hD hS hls
  exact lv_if_ge hx hb hdg ht (fun h => kt h H locs ls hP hD hS hls) (fun h => kf h H locs ls hP hD hS hls)
theorem j_icmp_ge (hX : JX g x own cc nL ret rm) {a b : Int32} {off : Int} {tgt : Nat} (hdg : decode cc pc = .ok (.if_icmp .ge off, 3)) (ht : (pc : Int) + off = (tgt : Int)) (kt : b ≤ a → J g x nL cs sl tgt lv st ws) (kf : ¬ b ≤ a → J g x nL cs sl (pc + 3) lv st ws) : J g x nL cs sl pc lv (.int b :: .int a :: st) ws := by
  obtain ⟨p, e, R, s, m, args, below, meth, c, Q, A⟩ := x
  obtain ⟨hx, hb, hown, hts, hK, hml, hA, hr, hlo, hR⟩ := hX
  intro H locs ls hP hD hS hls
  exact lv_icmp_ge hx hb hdg ht (fun h => kt h H locs ls hP hD hS hls) (fun h => kf h H locs ls hP hD hS hls)
theorem j_if_gt (hX : JX g x own cc nL ret rm) {a : Int32} {off : Int} {tgt : Nat} (hdg : decode cc pc = .ok (.ifCond .gt off, 3)) (ht : (pc : Int) + off = (tgt : Int)) (kt : 0 < a → J g x nL cs sl tgt lv st ws) (kf : ¬ 0 < a → J g x nL cs sl (pc + 3) lv st ws) : J g x nL cs sl pc lv (.int a :: st) ws := by
  obtain ⟨p, e, R, s, m, args, below, meth, c, Q, A⟩ := x
  obtain ⟨hx, hb, hown, hts, hK, hml, hA, hr, hlo, hR⟩ := hX
  intro H locs ls hP hD hS hls
  exact lv_if_gt hx hb hdg ht (fun h => kt h H locs ls hP hD hS hls) (fun h => kf h H locs ls hP hD hS hls)
theorem j_icmp_gt (hX : JX g x own cc nL ret rm) {a b : Int32} {off : Int} {tgt : Nat} (hdg : decode cc pc = .ok (.if_icmp .gt off, 3)) (ht : (pc : Int) + off = (tgt : Int)) (kt : b < a → J g x nL cs sl tgt lv st ws) (kf : ¬ b < a → J g x nL cs sl (pc + 3) lv st ws) : J g x nL cs sl pc lv (.int b :: .int a :: st) ws := by
  obtain ⟨p, e, R, s, m, args, below, meth, c, Q, A⟩ := x
  obtain ⟨hx, hb, hown, hts, hK, hml, hA, hr, hlo, hR⟩ := hX
  intro H locs ls hP hD hS hls
  exact lv_icmp_gt hx hb hdg ht (fun h => kt h H locs ls hP hD hS hls) (fun h => kf h H locs ls hP hD hS hls)
theorem j_if_le (hX : JX g x own cc nL ret rm) {a : Int32} {off : Int} {tgt : Nat} (hdg : decode cc pc = .ok (.ifCond .le off, 3)) (ht : (pc : Int) + off = (tgt : Int)) (kt : a ≤ 0 → J g x nL cs sl tgt lv st ws) (kf : ¬ a ≤ 0 → J g x nL cs sl (pc + 3) lv st ws) : J g x nL cs sl pc lv (.int a :: st) ws := by
  obtain ⟨p, e, R, s, m, args, below, meth, c, Q, A⟩ := x
  obtain ⟨hx, hb, hown, hts, hK, hml, hA, hr, hlo, hR⟩ := hX
  intro H locs ls hP hD hS hls
  exact lv_if_le hx hb hdg ht (fun h => kt h H locs ls hP hD hS hls) (fun h => kf h H locs ls hP hD hS hls)
theorem j_icmp_le (hX : JX g x own cc nL ret rm) {a b : Int32} {off : Int} {tgt : Nat} (hdg : decode cc pc = .ok (.if_icmp .le off, 3)) (ht : (pc : Int) + off = (tgt : Int)) (kt : a ≤ b → J g x nL cs sl tgt lv st ws) (kf : ¬ a ≤ b → J g x nL cs sl (pc + 3) lv st ws) : J g x nL cs sl pc lv (.int b :: .int a :: st) ws := by
  obtain ⟨p, e, R, s, m, args, below, meth, c, Q, A⟩ := x
  obtain ⟨hx, hb, hown, hts, hK, hml, hA, hr, hlo, hR⟩ := hX
  intro H locs ls hP hD hS hls
  exact lv_icmp_le hx hb hdg ht (fun h => kt h H locs ls hP hD hS hls) (fun h => kf h H locs ls hP hD hS hls)
theorem j_goto (hX : JX g x own cc nL ret rm) {off : Int} {tgt : Nat} (hdg : decode cc pc = .ok (.goto off, 3)) (ht : (pc : Int) + off = (tgt : Int)) (kk : J g x nL cs sl tgt lv st ws) : J g x nL cs sl pc lv st ws := by
  obtain ⟨p, e, R, s, m, args, below, meth, c, Q, A⟩ := x
  obtain ⟨hx, hb, hown, hts, hK, hml, hA, hr, hlo, hR⟩ := hX
  intro H locs ls hP hD hS hls
  exact lv_goto hx hb hdg ht (kk H locs ls hP hD hS hls)
theorem j_tabOut (hX : JX g x own cc nL ret rm) {dflt lo hi : Int} {offs : Array Int} {len : Nat} {a : Int32} {tgt : Nat} (hdg : decode cc pc = .ok (.tableswitch dflt lo hi offs, len)) (h : a.toInt < lo ∨ hi < a.toInt) (ht : (pc : Int) + dflt = (tgt : Int)) (kk : J g x nL cs sl tgt lv st ws) : J g x nL cs sl pc lv (.int a :: st) ws := by
  obtain ⟨p, e, R, s, m, args, below, meth, c, Q, A⟩ := x
  obtain ⟨hx, hb, hown, hts, hK, hml, hA, hr, hlo, hR⟩ := hX
  intro H locs ls hP hD hS hls
  exact lv_tableOut hx hb hdg h ht (kk H locs ls hP hD hS hls)
theorem j_tabIn (hX : JX g x own cc nL ret rm) {dflt lo hi : Int} {offs : Array Int} {len : Nat} {a : Int32} {off : Int} {tgt : Nat} (hdg : decode cc pc = .ok (.tableswitch dflt lo hi offs, len)) (h1 : ¬ a.toInt < lo) (h2 : ¬ hi < a.toInt) (ho : offs[(a.toInt - lo).toNat]? = some off) (ht : (pc : Int) + off = (tgt : Int)) (kk : J g x nL cs sl tgt lv st ws) : J g x nL cs sl pc lv (.int a :: st) ws := by
  obtain ⟨p, e, R, s, m, args, below, meth, c, Q, A⟩ := x
  obtain ⟨hx, hb, hown, hts, hK, hml, hA, hr, hlo, hR⟩ := hX
  intro H locs ls hP hD hS hls
  exact lv_tableIn hx hb hdg h1 h2 ho ht (kk H locs ls hP hD hS hls)
theorem j_look (hX : JX g x own cc nL ret rm) {dflt : Int} {ps : Array (Int × Int)} {len : Nat} {a : Int32} {off : Int} {tgt : Nat} (hdg : decode cc pc = .ok (.lookupswitch dflt ps, len)) (hp : (ps.toList.zip (ps.toList.drop 1)).all (fun (a, next) => a.1 < next.1) = true) (ho : Op.lookupswitch.offset ps.toList dflt a.toInt = off) (ht : (pc : Int) + off = (tgt : Int)) (kk : J g x nL cs sl tgt lv st ws) : J g x nL cs sl pc lv (.int a :: st) ws := by
  obtain ⟨p, e, R, s, m, args, below, meth, c, Q, A⟩ := x
  obtain ⟨hx, hb, hown, hts, hK, hml, hA, hr, hlo, hR⟩ := hX
  intro H locs ls hP hD hS hls
  exact lv_lookup hx hb hdg hp ho ht (kk H locs ls hP hD hS hls)
theorem j_ldc (hX : JX g x own cc nL ret rm) {index : Nat} {v : Int32} (hw : Cond.constant own index v ∈ wsL_law) (hdg : decode cc pc = .ok (.ldc index, 2)) (kk : J g x nL cs sl (pc + 2) lv (.int v :: st) ws) : J g x nL cs sl pc lv st ws := by
  obtain ⟨p, e, R, s, m, args, below, meth, c, Q, A⟩ := x
  obtain ⟨hx, hb, hown, hts, hK, hml, hA, hr, hlo, hR⟩ := hX
  intro H locs ls hP hD hS hls
  exact lv_ldc hx hb hown (hts _ hw) hdg (kk H locs ls hP hD hS hls)
theorem j_ldcw (hX : JX g x own cc nL ret rm) {index : Nat} {v : Int32} (hw : Cond.constant own index v ∈ wsL_law) (hdg : decode cc pc = .ok (.ldc_w index, 3)) (kk : J g x nL cs sl (pc + 3) lv (.int v :: st) ws) : J g x nL cs sl pc lv st ws := by
  obtain ⟨p, e, R, s, m, args, below, meth, c, Q, A⟩ := x
  obtain ⟨hx, hb, hown, hts, hK, hml, hA, hr, hlo, hR⟩ := hX
  intro H locs ls hP hD hS hls
  exact lv_ldcw hx hb hown (hts _ hw) hdg (kk H locs ls hP hD hS hls)
theorem j_ldc2 (hX : JX g x own cc nL ret rm) {index : Nat} {v : Int64} (hw : Cond.constantLong own index v ∈ wsL_law) (hdg : decode cc pc = .ok (.ldc2_w index, 3)) (kk : J g x nL cs sl (pc + 3) lv (.long v :: st) ws) : J g x nL cs sl pc lv st ws := by
  obtain ⟨p, e, R, s, m, args, below, meth, c, Q, A⟩ := x
  obtain ⟨hx, hb, hown, hts, hK, hml, hA, hr, hlo, hR⟩ := hX
  intro H locs ls hP hD hS hls
  exact lv_ldc2 hx hb hown (hts _ hw) hdg (kk H locs ls hP hD hS hls)
theorem j_top {a b : Int32} (h : a = b) (kk : J g x nL cs sl pc lv (.int b :: st) ws) : J g x nL cs sl pc lv (.int a :: st) ws := h ▸ kk
theorem j_topl {a b : Int64} (h : a = b) (kk : J g x nL cs sl pc lv (.long b :: st) ws) : J g x nL cs sl pc lv (.long a :: st) ws := h ▸ kk
theorem j_wd {cs2 sl2 : Nat} (h1 : cs ≤ cs2) (h2 : sl ≤ sl2) (kk : J g x nL cs2 sl2 pc lv st ws) : J g x nL cs sl pc lv st ws := by
  obtain ⟨p, e, R, s, m, args, below, meth, c, Q, A⟩ := x
  intro H locs ls hP hD hS hls
  exact W.widen h1 h2 (kk H locs ls hP hD hS hls)
theorem j_get (hX : JX g x own cc nL ret rm) {C : String} {T : u_T} {N ci index : Nat} (hin : ∀ w ∈ u_ws C T N, w ∈ wsL_law) (hc : vwCl[ci]? = some (C, T, N)) (k : Nat) (hk : k < N) (hlink : Cond.fieldLink own index (T k).1 (T k).2.1 (T k).2.2.1 ∈ wsL_law) (q0 : Nat) {a : Nat} {fs : List Value} {v : Value} (he : ws[q0]? = some (a, .inr (ci, fs))) (hv : fs[k]? = some v) (hdg : decode cc pc = .ok (.getfield index, 3)) (kk : J g x nL cs sl (pc + 3) lv (v :: st) ws) : J g x nL cs sl pc lv (.ref a :: st) ws := by
  obtain ⟨p, e, R, s, m, args, below, meth, c, Q, A⟩ := x
  obtain ⟨hx, hb, hown, hts, hK, hml, hA, hr, hlo, hR⟩ := hX
  intro H locs ls hP hD hS hls
  exact va_get (D := jD g) hx hb hts hin hown hK.1 hP q0 he hc k hk (hts _ hlink) (fun _ h9 => h9) hv hdg (kk H locs ls hP hD hS hls)
theorem j_put (hX : JX g x own cc nL ret rm) {C : String} {T : u_T} {N ci index : Nat} (hin : ∀ w ∈ u_ws C T N, w ∈ wsL_law) (ty0 : Nat → FieldType) (hty : ∀ k, k < N → parseFieldDescriptor (T k).2.2.1 = some (ty0 k)) (hnm : ∀ a, a < N → ∀ b, b < N → a ≠ b → (T a).2.1 ≠ (T b).2.1) (hc : vwCl[ci]? = some (C, T, N)) (k : Nat) (hk : k < N) (hlink : Cond.fieldLink own index (T k).1 (T k).2.1 (T k).2.2.1 ∈ wsL_law) (hfin : (T k).2.2.2 = false) {ty : FieldType} (hd : parseFieldDescriptor (T k).2.2.1 = some ty) (q0 : Nat) {a : Nat} {fs : List Value} {v : Value} (he : ws[q0]? = some (a, .inr (ci, fs))) (hl : k < fs.length) (hn : narrow ty v = v) (hfit : fits ty v = true) (hdg : decode cc pc = .ok (.putfield index, 3)) (kk : J g x nL cs sl (pc + 3) lv st (ws.set q0 (a, .inr (ci, fs.set k v)))) : J g x nL cs sl pc lv (v :: .ref a :: st) ws := by
  obtain ⟨p, e, R, s, m, args, below, meth, c, Q, A⟩ := x
  obtain ⟨hx, hb, hown, hts, hK, hml, hA, hr, hlo, hR⟩ := hX
  intro H locs ls hP hD hS hls
  exact va_put (D := jD g) hx hb hts hin ty0 hty hnm hown hK.1 hP hD hS q0 he hc k hk (hts _ hlink) (fun _ h9 => h9) hfin hd hn hfit hl hdg (fun H1 locs1 p1 p2 p3 => kk H1 locs1 ls p1 p2 p3 hls)
theorem j_getN (hX : JX g x own cc nL ret rm) {C host : String} {T : u_T} {N ci index : Nat} (hin : ∀ w ∈ u_ws C T N, w ∈ wsL_law) (hc : vwCl[ci]? = some (C, T, N)) (k : Nat) (hk : k < N) (hlink : Cond.fieldLinkNest own index (T k).1 (T k).2.1 (T k).2.2.1 host ∈ wsN) (q0 : Nat) {a : Nat} {fs : List Value} {v : Value} (he : ws[q0]? = some (a, .inr (ci, fs))) (hv : fs[k]? = some v) (hdg : decode cc pc = .ok (.getfield index, 3)) (kk : J g x nL cs sl (pc + 3) lv (v :: st) ws) : J g x nL cs sl pc lv (.ref a :: st) ws := by
  obtain ⟨p, e, R, s, m, args, below, meth, c, Q, A⟩ := x
  obtain ⟨hx, hb, hown, hts, hK, hml, hA, hr, hlo, hR⟩ := hX
  intro H locs ls hP hD hS hls
  exact va_getN (D := jD g) hx hb hts hin hown hK.1 hP q0 he hc k hk (va_Nw.use rfl (hK.2.2 _ hlink)) (fun _ h9 => h9) hv hdg (kk H locs ls hP hD hS hls)
theorem j_putN (hX : JX g x own cc nL ret rm) {C host : String} {T : u_T} {N ci index : Nat} (hin : ∀ w ∈ u_ws C T N, w ∈ wsL_law) (ty0 : Nat → FieldType) (hty : ∀ k, k < N → parseFieldDescriptor (T k).2.2.1 = some (ty0 k)) (hnm : ∀ a, a < N → ∀ b, b < N → a ≠ b → (T a).2.1 ≠ (T b).2.1) (hc : vwCl[ci]? = some (C, T, N)) (k : Nat) (hk : k < N) (hlink : Cond.fieldLinkNest own index (T k).1 (T k).2.1 (T k).2.2.1 host ∈ wsN) (hfin : (T k).2.2.2 = false) {ty : FieldType} (hd : parseFieldDescriptor (T k).2.2.1 = some ty) (q0 : Nat) {a : Nat} {fs : List Value} {v : Value} (he : ws[q0]? = some (a, .inr (ci, fs))) (hl : k < fs.length) (hn : narrow ty v = v) (hfit : fits ty v = true) (hdg : decode cc pc = .ok (.putfield index, 3)) (kk : J g x nL cs sl (pc + 3) lv st (ws.set q0 (a, .inr (ci, fs.set k v)))) : J g x nL cs sl pc lv (v :: .ref a :: st) ws := by
  obtain ⟨p, e, R, s, m, args, below, meth, c, Q, A⟩ := x
  obtain ⟨hx, hb, hown, hts, hK, hml, hA, hr, hlo, hR⟩ := hX
  intro H locs ls hP hD hS hls
  exact va_putN (D := jD g) hx hb hts hin ty0 hty hnm hown hK.1 hP hD hS q0 he hc k hk (va_Nw.use rfl (hK.2.2 _ hlink)) (fun _ h9 => h9) hfin hd hn hfit hl hdg (fun H1 locs1 p1 p2 p3 => kk H1 locs1 ls p1 p2 p3 hls)
theorem j_putF (hX : JX g x own cc nL ret rm) (hI : JN x) {C : String} {T : u_T} {N ci index : Nat} (hin : ∀ w ∈ u_ws C T N, w ∈ wsL_law) (ty0 : Nat → FieldType) (hty : ∀ k, k < N → parseFieldDescriptor (T k).2.2.1 = some (ty0 k)) (hnm : ∀ a, a < N → ∀ b, b < N → a ≠ b → (T a).2.1 ≠ (T b).2.1) (hc : vwCl[ci]? = some (C, T, N)) (k : Nat) (hk : k < N) (hlink : Cond.fieldLink own index (T k).1 (T k).2.1 (T k).2.2.1 ∈ wsL_law) (hfin : (T k).2.2.2 = true) (hdecl : (T k).1 = own) {ty : FieldType} (hd : parseFieldDescriptor (T k).2.2.1 = some ty) (q0 : Nat) {a : Nat} {fs : List Value} {v : Value} (he : ws[q0]? = some (a, .inr (ci, fs))) (hl : k < fs.length) (hn : narrow ty v = v) (hfit : fits ty v = true) (hdg : decode cc pc = .ok (.putfield index, 3)) (kk : J g x nL cs sl (pc + 3) lv st (ws.set q0 (a, .inr (ci, fs.set k v)))) : J g x nL cs sl pc lv (v :: .ref a :: st) ws := by
  obtain ⟨p, e, R, s, m, args, below, meth, c, Q, A⟩ := x
  obtain ⟨hx, hb, hown, hts, hK, hml, hA, hr, hlo, hR⟩ := hX
  intro H locs ls hP hD hS hls
  exact va_putF (D := jD g) hx hb hts hin ty0 hty hnm hown hK.1 hP hD hS q0 he hc k hk (hts _ hlink) (fun _ h9 => h9) hfin hI hdecl hd hn hfit hl hdg (fun H1 locs1 p1 p2 p3 => kk H1 locs1 ls p1 p2 p3 hls)
theorem j_iald (hX : JX g x own cc nL ret rm) (q0 : Nat) {a n : Nat} {f : Nat → Int32} (ha : ws[q0]? = some (a, .inl (gI g, n, .inl f))) {i : Int32} (k : Nat) (hi : i = nI k) (hk : k < n) (h31 : n < 2147483648) (hdg : decode cc pc = .ok (.iaload, 1)) (kk : J g x nL cs sl (pc + 1) lv (.int (f k) :: st) ws) : J g x nL cs sl pc lv (.int i :: .ref a :: st) ws := by
  obtain ⟨p, e, R, s, m, args, below, meth, c, Q, A⟩ := x
  obtain ⟨hx, hb, hown, hts, hK, hml, hA, hr, hlo, hR⟩ := hX
  intro H locs ls hP hD hS hls
  subst hi
  have hc : (nI k).toNatClampNeg = k := nI_clamp (by omega)
  exact va_iald (D := jD g) hx hb hK.1 hP q0 0 ha rfl (vp_in_nI hk h31) hdg (by rw [hc]; exact (kk H locs ls hP hD hS hls))
theorem j_cald (hX : JX g x own cc nL ret rm) (q0 : Nat) {a n : Nat} {f : Nat → Int32} (ha : ws[q0]? = some (a, .inl (gC g, n, .inl f))) {i : Int32} (k : Nat) (hi : i = nI k) (hk : k < n) (h31 : n < 2147483648) (hdg : decode cc pc = .ok (.caload, 1)) (kk : J g x nL cs sl (pc + 1) lv (.int (f k) :: st) ws) : J g x nL cs sl pc lv (.int i :: .ref a :: st) ws := by
  obtain ⟨p, e, R, s, m, args, below, meth, c, Q, A⟩ := x
  obtain ⟨hx, hb, hown, hts, hK, hml, hA, hr, hlo, hR⟩ := hX
  intro H locs ls hP hD hS hls
  subst hi
  have hc : (nI k).toNatClampNeg = k := nI_clamp (by omega)
  exact va_cald (D := jD g) hx hb hK.1 hP q0 1 ha rfl (vp_in_nI hk h31) hdg (by rw [hc]; exact (kk H locs ls hP hD hS hls))
theorem j_zald (hX : JX g x own cc nL ret rm) (q0 : Nat) {a n : Nat} {f : Nat → Int32} (ha : ws[q0]? = some (a, .inl (gZ g, n, .inl f))) {i : Int32} (k : Nat) (hi : i = nI k) (hk : k < n) (h31 : n < 2147483648) (hdg : decode cc pc = .ok (.baload, 1)) (kk : J g x nL cs sl (pc + 1) lv (.int (f k) :: st) ws) : J g x nL cs sl pc lv (.int i :: .ref a :: st) ws := by
  obtain ⟨p, e, R, s, m, args, below, meth, c, Q, A⟩ := x
  obtain ⟨hx, hb, hown, hts, hK, hml, hA, hr, hlo, hR⟩ := hX
  intro H locs ls hP hD hS hls
  subst hi
  have hc : (nI k).toNatClampNeg = k := nI_clamp (by omega)
  exact va_zald (D := jD g) hx hb hK.1 hP q0 2 ha rfl (vp_in_nI hk h31) hdg (by rw [hc]; exact (kk H locs ls hP hD hS hls))
theorem j_aald (hX : JX g x own cc nL ret rm) (q0 : Nat) {a n : Nat} {f : Nat → Option Nat} (ha : ws[q0]? = some (a, .inl (gS g, n, .inr (.inr (.inr (.inr f)))))) {i : Int32} (k : Nat) (hi : i = nI k) (hk : k < n) (h31 : n < 2147483648) {v : Nat} (hv : f k = some v) (hdg : decode cc pc = .ok (.aaload, 1)) (kk : J g x nL cs sl (pc + 1) lv (.ref v :: st) ws) : J g x nL cs sl pc lv (.int i :: .ref a :: st) ws := by
  obtain ⟨p, e, R, s, m, args, below, meth, c, Q, A⟩ := x
  obtain ⟨hx, hb, hown, hts, hK, hml, hA, hr, hlo, hR⟩ := hX
  intro H locs ls hP hD hS hls
  subst hi
  have hc : (nI k).toNatClampNeg = k := nI_clamp (by omega)
  exact va_aldq (D := jD g) hx hb hK.1 hP q0 3 ha rfl (vp_in_nI hk h31) hdg (by rw [hc, hv]; exact (kk H locs ls hP hD hS hls))
theorem j_iast (hX : JX g x own cc nL ret rm) (q0 : Nat) {a n : Nat} {f : Nat → Int32} (ha : ws[q0]? = some (a, .inl (gI g, n, .inl f))) {i : Int32} (k : Nat) (hi : i = nI k) (hk : k < n) (h31 : n < 2147483648) {v : Int32} (hdg : decode cc pc = .ok (.iastore, 1)) (kk : J g x nL cs sl (pc + 1) lv st (ws.set q0 (a, .inl (gI g, n, .inl (upd f k v))))) : J g x nL cs sl pc lv (.int v :: .int i :: .ref a :: st) ws := by
  obtain ⟨p, e, R, s, m, args, below, meth, c, Q, A⟩ := x
  obtain ⟨hx, hb, hown, hts, hK, hml, hA, hr, hlo, hR⟩ := hX
  intro H locs ls hP hD hS hls
  subst hi
  have hc : (nI k).toNatClampNeg = k := nI_clamp (by omega)
  exact va_iast (D := jD g) hx hb hK.1 hP hD hS q0 0 ha rfl (vp_in_nI hk h31) hdg (by rw [hc]; exact fun H1 locs1 p1 p2 p3 => kk H1 locs1 ls p1 p2 p3 hls)
theorem j_cast (hX : JX g x own cc nL ret rm) (q0 : Nat) {a n : Nat} {f : Nat → Int32} (ha : ws[q0]? = some (a, .inl (gC g, n, .inl f))) {i : Int32} (k : Nat) (hi : i = nI k) (hk : k < n) (h31 : n < 2147483648) {v : Int32} (hdg : decode cc pc = .ok (.castore, 1)) (kk : J g x nL cs sl (pc + 1) lv st (ws.set q0 (a, .inl (gC g, n, .inl (upd f k (vp_nar .char v)))))) : J g x nL cs sl pc lv (.int v :: .int i :: .ref a :: st) ws := by
  obtain ⟨p, e, R, s, m, args, below, meth, c, Q, A⟩ := x
  obtain ⟨hx, hb, hown, hts, hK, hml, hA, hr, hlo, hR⟩ := hX
  intro H locs ls hP hD hS hls
  subst hi
  have hc : (nI k).toNatClampNeg = k := nI_clamp (by omega)
  exact va_cast (D := jD g) hx hb hK.1 hP hD hS q0 1 ha rfl (vp_in_nI hk h31) hdg (by rw [hc]; exact fun H1 locs1 p1 p2 p3 => kk H1 locs1 ls p1 p2 p3 hls)
theorem j_zast (hX : JX g x own cc nL ret rm) (q0 : Nat) {a n : Nat} {f : Nat → Int32} (ha : ws[q0]? = some (a, .inl (gZ g, n, .inl f))) {i : Int32} (k : Nat) (hi : i = nI k) (hk : k < n) (h31 : n < 2147483648) {v : Int32} (hdg : decode cc pc = .ok (.bastore, 1)) (kk : J g x nL cs sl (pc + 1) lv st (ws.set q0 (a, .inl (gZ g, n, .inl (upd f k (vp_nar .boolean v)))))) : J g x nL cs sl pc lv (.int v :: .int i :: .ref a :: st) ws := by
  obtain ⟨p, e, R, s, m, args, below, meth, c, Q, A⟩ := x
  obtain ⟨hx, hb, hown, hts, hK, hml, hA, hr, hlo, hR⟩ := hX
  intro H locs ls hP hD hS hls
  subst hi
  have hc : (nI k).toNatClampNeg = k := nI_clamp (by omega)
  exact va_zast (D := jD g) hx hb hK.1 hP hD hS q0 2 ha rfl (vp_in_nI hk h31) hdg (by rw [hc]; exact fun H1 locs1 p1 p2 p3 => kk H1 locs1 ls p1 p2 p3 hls)
theorem j_aast (hX : JX g x own cc nL ret rm) (q0 qk : Nat) {a n v : Nat} {vs : List Value} {f : Nat → Option Nat} (ha : ws[q0]? = some (a, .inl (gS g, n, .inr (.inr (.inr (.inr f)))))) (hv : ws[qk]? = some (v, .inr (6, vs))) {i : Int32} (k : Nat) (hi : i = nI k) (hk : k < n) (h31 : n < 2147483648) (hdg : decode cc pc = .ok (.aastore, 1)) (kk : J g x nL cs sl (pc + 1) lv st (ws.set q0 (a, .inl (gS g, n, .inr (.inr (.inr (.inr (va_up f k (some v))))))))) : J g x nL cs sl pc lv (.ref v :: .int i :: .ref a :: st) ws := by
  obtain ⟨p, e, R, s, m, args, below, meth, c, Q, A⟩ := x
  obtain ⟨hx, hb, hown, hts, hK, hml, hA, hr, hlo, hR⟩ := hX
  intro H locs ls hP hD hS hls
  subst hi
  have hc : (nI k).toNatClampNeg = k := nI_clamp (by omega)
  exact va_astq (D := jD g) (r := (RX6, TX6, 5)) hx hb hK.1 hP hD hS q0 3 qk 6 ha rfl hv rfl (vp_in_nI hk h31) hdg (by rw [hc]; exact fun H1 locs1 p1 p2 p3 => kk H1 locs1 ls p1 p2 p3 hls)
theorem j_alen (hX : JX g x own cc nL ret rm) (q0 : Nat) {a n : Nat} {f : Nat → Int32} (ha : ws[q0]? = some (a, .inl (gI g, n, .inl f))) (hdg : decode cc pc = .ok (.arraylength, 1)) (kk : J g x nL cs sl (pc + 1) lv (.int (nI n) :: st) ws) : J g x nL cs sl pc lv (.ref a :: st) ws := by
  obtain ⟨p, e, R, s, m, args, below, meth, c, Q, A⟩ := x
  obtain ⟨hx, hb, hown, hts, hK, hml, hA, hr, hlo, hR⟩ := hX
  intro H locs ls hP hD hS hls
  exact va_alen (D := jD g) hx hb hK.1 hP q0 0 ha rfl rfl hdg (kk H locs ls hP hD hS hls)
/-- the law's script -/
def JS (x : jC) (b L : Nat) (xs : Nat → Int32) : Prop :=
  match x with
  | (_, _, _, s, _, _, _, _, _, _, A) => va_X b L xs s s.heap ∧ b < s.heap.size ∧ ¬ A b
theorem j_slen (hX : JX g x own cc nL ret rm) {b L : Nat} {xs : Nat → Int32} (hSc : JS x b L xs) (hdg : decode cc pc = .ok (.arraylength, 1)) (kk : J g x nL cs sl (pc + 1) lv (.int (nI L) :: st) ws) : J g x nL cs sl pc lv (.ref b :: st) ws := by
  obtain ⟨p, e, R, s, m, args, below, meth, c, Q, A⟩ := x
  obtain ⟨hx, hb, hown, hts, hK, hml, hA, hr, hlo, hR⟩ := hX
  intro H locs ls hP hD hS hls
  obtain ⟨s1, s2, s3⟩ := hSc
  exact va_slen hx hb s1 s2 s3 hS hdg (kk H locs ls hP hD hS hls)
theorem j_sld (hX : JX g x own cc nL ret rm) {b L : Nat} {xs : Nat → Int32} (hSc : JS x b L xs) {i : Int32} (k : Nat) (hi : i = nI k) (hk : k < L) (h31 : L < 2147483648) (hdg : decode cc pc = .ok (.iaload, 1)) (kk : J g x nL cs sl (pc + 1) lv (.int (xs k) :: st) ws) : J g x nL cs sl pc lv (.int i :: .ref b :: st) ws := by
  obtain ⟨p, e, R, s, m, args, below, meth, c, Q, A⟩ := x
  obtain ⟨hx, hb, hown, hts, hK, hml, hA, hr, hlo, hR⟩ := hX
  intro H locs ls hP hD hS hls
  subst hi
  have hc : (nI k).toNatClampNeg = k := nI_clamp (by omega)
  obtain ⟨s1, s2, s3⟩ := hSc
  exact va_sld hx hb s1 s2 s3 hS (vp_in_nI hk h31) hdg (by rw [hc]; exact (kk H locs ls hP hD hS hls))
theorem jK_cls {g : jG} {s : State} {cA : ClassId} {ty : FieldType} {tys : List (ClassId × FieldType)} (hK : va_K (jD g) vwCl tys s) {i j : Nat} {cB : ClassId} (hi : tys[i]? = some (cA, ty)) (hj : tys[j]? = some (cB, ty)) : cA = cB := by
  have h1 := (hK.2 i _ hi).2
  have h2 := (hK.2 j _ hj).2
  cases ty with
  | object C =>
    obtain ⟨_, _, _, _, _, a⟩ := h1
    obtain ⟨_, _, _, _, _, b⟩ := h2
    exact Option.some.inj (a.symm.trans b)
  | _ => exact Option.some.inj (Eq.trans (Eq.symm h1) h2)
theorem j_newa_int (hX : JX g x own cc nL ret rm) (n : Nat) {v : Int32} (hv : v = nI n) (hn : n < 65536) (hw : Cond.arrayClass FieldType.int ∈ wsL_law) (h1 : cs + 1 ≤ rm.cells) (h2 : sl + n ≤ rm.slots) (hdg : decode cc pc = .ok (.newarray .int, 2)) (kk : ∀ q : Nat, J g x nL (cs + 1) (sl + n) (pc + 2) lv (.ref q :: st) (ws ++ [(q, .inl (gI g, n, .inl (fun _ => 0)))])) : J g x nL cs sl pc lv (.int v :: st) ws := by
  obtain ⟨p, e, R, s, m, args, below, meth, c, Q, A⟩ := x
  obtain ⟨hx, hb, hown, hts, hK, hml, hA, hr, hlo, hR⟩ := hX
  intro H locs ls hP hD hS hls
  subst hv
  subst hR
  have hc : (nI n).toNatClampNeg = n := nI_clamp (by omega)
  refine va_newa (D := jD g) (atype := .int) (ty := .int) (a0 := (n, .inl (fun _ => 0))) hx hb (hts _ hw) rfl hK.1 hP hD hS hA (fun cA => rfl) (nI_pos (by omega)) hc (by show n * 4 ≤ 536870912; omega) h1 h2 hdg (fun q cA H1 k1 p1 p2 p3 => ?_)
  have hcA : cA = gI g := jK_cls k1 (i := 4) (j := 0) rfl rfl
  subst hcA
  exact kk q H1 locs ls p1 p2 p3 hls
theorem j_newa_char (hX : JX g x own cc nL ret rm) (n : Nat) {v : Int32} (hv : v = nI n) (hn : n < 65536) (hw : Cond.arrayClass FieldType.char ∈ wsL_law) (h1 : cs + 1 ≤ rm.cells) (h2 : sl + n ≤ rm.slots) (hdg : decode cc pc = .ok (.newarray .char, 2)) (kk : ∀ q : Nat, J g x nL (cs + 1) (sl + n) (pc + 2) lv (.ref q :: st) (ws ++ [(q, .inl (gC g, n, .inl (fun _ => 0)))])) : J g x nL cs sl pc lv (.int v :: st) ws := by
  obtain ⟨p, e, R, s, m, args, below, meth, c, Q, A⟩ := x
  obtain ⟨hx, hb, hown, hts, hK, hml, hA, hr, hlo, hR⟩ := hX
  intro H locs ls hP hD hS hls
  subst hv
  subst hR
  have hc : (nI n).toNatClampNeg = n := nI_clamp (by omega)
  refine va_newa (D := jD g) (atype := .char) (ty := .char) (a0 := (n, .inl (fun _ => 0))) hx hb (hts _ hw) rfl hK.1 hP hD hS hA (fun cA => rfl) (nI_pos (by omega)) hc (by show n * 2 ≤ 536870912; omega) h1 h2 hdg (fun q cA H1 k1 p1 p2 p3 => ?_)
  have hcA : cA = gC g := jK_cls k1 (i := 4) (j := 1) rfl rfl
  subst hcA
  exact kk q H1 locs ls p1 p2 p3 hls
theorem j_newa_boolean (hX : JX g x own cc nL ret rm) (n : Nat) {v : Int32} (hv : v = nI n) (hn : n < 65536) (hw : Cond.arrayClass FieldType.boolean ∈ wsL_law) (h1 : cs + 1 ≤ rm.cells) (h2 : sl + n ≤ rm.slots) (hdg : decode cc pc = .ok (.newarray .boolean, 2)) (kk : ∀ q : Nat, J g x nL (cs + 1) (sl + n) (pc + 2) lv (.ref q :: st) (ws ++ [(q, .inl (gZ g, n, .inl (fun _ => 0)))])) : J g x nL cs sl pc lv (.int v :: st) ws := by
  obtain ⟨p, e, R, s, m, args, below, meth, c, Q, A⟩ := x
  obtain ⟨hx, hb, hown, hts, hK, hml, hA, hr, hlo, hR⟩ := hX
  intro H locs ls hP hD hS hls
  subst hv
  subst hR
  have hc : (nI n).toNatClampNeg = n := nI_clamp (by omega)
  refine va_newa (D := jD g) (atype := .boolean) (ty := .boolean) (a0 := (n, .inl (fun _ => 0))) hx hb (hts _ hw) rfl hK.1 hP hD hS hA (fun cA => rfl) (nI_pos (by omega)) hc (by show n * 1 ≤ 536870912; omega) h1 h2 hdg (fun q cA H1 k1 p1 p2 p3 => ?_)
  have hcA : cA = gZ g := jK_cls k1 (i := 4) (j := 2) rfl rfl
  subst hcA
  exact kk q H1 locs ls p1 p2 p3 hls
theorem j_newq (hX : JX g x own cc nL ret rm) (n : Nat) {v : Int32} {index : Nat} (hv : v = nI n) (hn : n < 65536) (hw : Cond.classLink own index RX6 ∈ wsL_law) (h1 : cs + 1 ≤ rm.cells) (h2 : sl + n ≤ rm.slots) (hdg : decode cc pc = .ok (.anewarray index, 3)) (kk : ∀ q : Nat, J g x nL (cs + 1) (sl + n) (pc + 3) lv (.ref q :: st) (ws ++ [(q, .inl (gS g, n, .inr (.inr (.inr (.inr (fun _ => none))))))])) : J g x nL cs sl pc lv (.int v :: st) ws := by
  obtain ⟨p, e, R, s, m, args, below, meth, c, Q, A⟩ := x
  obtain ⟨hx, hb, hown, hts, hK, hml, hA, hr, hlo, hR⟩ := hX
  intro H locs ls hP hD hS hls
  subst hv
  subst hR
  have hc : (nI n).toNatClampNeg = n := nI_clamp (by omega)
  refine va_newq (D := jD g) hx hb hown (hts _ hw) hK.2.1 hK.1 hP hD hS hA (nI_pos (by omega)) hc (by omega) h1 h2 hdg (fun q cA H1 k1 p1 p2 p3 => ?_)
  have hcA : cA = gS g := jK_cls k1 (i := 4) (j := 3) rfl rfl
  subst hcA
  exact kk q H1 locs ls p1 p2 p3 hls
theorem j_new (hX : JX g x own cc nL ret rm) {C : String} {T : u_T} {N ci index : Nat} (hin : ∀ w ∈ u_ws C T N, w ∈ wsL_law) (ty0 : Nat → FieldType) (hty : ∀ k, k < N → parseFieldDescriptor (T k).2.2.1 = some (ty0 k)) (hc : vwCl[ci]? = some (C, T, N)) {fs : List Value} (hfs : ∀ j, j < N → defaultValue (ty0 j) = vp_V fs j) (hw1 : Cond.classLink own index C ∈ wsL_law) (hw2 : Cond.instantiable C N ∈ wsL_law) (hw3 : Cond.initialized C ∈ wsL_law) (h1 : cs + 1 ≤ rm.cells) (h2 : sl + N ≤ rm.slots) (hdg : decode cc pc = .ok (.new index, 3)) (kk : ∀ q : Nat, J g x nL (cs + 1) (sl + N) (pc + 3) lv (.ref q :: st) (ws ++ [(q, .inr (ci, fs))])) : J g x nL cs sl pc lv st ws := by
  obtain ⟨p, e, R, s, m, args, below, meth, c, Q, A⟩ := x
  obtain ⟨hx, hb, hown, hts, hK, hml, hA, hr, hlo, hR⟩ := hX
  intro H locs ls hP hD hS hls
  subst hR
  exact va_new (D := jD g) hx hb hts hin ty0 hty hown (hts _ hw1) (hts _ hw2) (hts _ hw3) hK.1 hP hD hS hA hc hfs h1 h2 hdg (fun q H1 p1 p2 p3 => kk q H1 locs ls p1 p2 p3 hls)
theorem j_objInit (hX : JX g x own cc nL ret rm) {index : Nat} {a : Nat} (hw1 : Cond.methodLink own index objectInit ∈ wsL_law) (hw2 : Cond.instanceMethod objectInit ∈ wsL_law) (hw3 : Cond.code objectInit ⟨#[0xb1]⟩ 1 none ∈ wsL_law) (hdg : decode cc pc = .ok (.invokespecial index, 3)) (h1 : 1 ≤ rm.frames) (h2 : (st.map fun v => v.category).sum + 12 ≤ rm.locals) (kk : J g x nL cs sl (pc + 3) lv st ws) : J g x nL cs sl pc lv (.ref a :: st) ws := by
  obtain ⟨p, e, R, s, m, args, below, meth, c, Q, A⟩ := x
  obtain ⟨hx, hb, hown, hts, hK, hml, hA, hr, hlo, hR⟩ := hX
  intro H locs ls hP hD hS hls
  subst hR
  refine W.objInit hx hb hown (hts _ hw1) (hts _ hw2) (hts _ hw3) rfl (by rw [hml]; exact hls.1) rfl hdg h1 (by show 2 * 0 + _ + 12 ≤ _; omega) ?_
  exact W.eq (g2 := F0 m (pc + 3) ls st) rfl (kk H locs ls hP hD hS hls)
theorem j_mmax (hX : JX g x own cc nL ret rm) {index : Nat} (hw1 : Cond.methodLink own index Lib.Math.max.name ∈ wsL_law) (hw2 : Cond.static Lib.Math.max.name ∈ wsL_law) (hw3 : Cond.initialized "java/lang/Math" ∈ wsL_law) (hw4 : Cond.code Lib.Math.max.name Lib.Math.max.code 2 (some .int) ∈ wsL_law) (h1 : 1 ≤ rm.frames) (h2 : (st.map fun v => v.category).sum + 13 ≤ rm.locals) (h3 : cs ≤ rm.cells) (h4 : sl ≤ rm.slots) {a b : Int32} (hdg : decode cc pc = .ok (.invokestatic index, 3)) (kk : J g x nL cs sl (pc + 3) lv (.int (S_max a b) :: st) ws) : J g x nL cs sl pc lv (.int b :: .int a :: st) ws := by
  obtain ⟨p, e, R, s, m, args, below, meth, c, Q, A⟩ := x
  obtain ⟨hx, hb, hown, hts, hK, hml, hA, hr, hlo, hR⟩ := hX
  intro H locs ls hP hD hS hls
  subst hR
  exact va_mmax hx hb (by rw [hml]; exact hls.1.symm) hown (hts _ hw1) (hts _ hw2) (hts _ hw3) (hts _ hw4) h1 h2 h3 h4 hdg (kk H locs ls hP hD hS hls)
theorem j_mmin (hX : JX g x own cc nL ret rm) {index : Nat} (hw1 : Cond.methodLink own index Lib.Math.min.name ∈ wsL_law) (hw2 : Cond.static Lib.Math.min.name ∈ wsL_law) (hw3 : Cond.initialized "java/lang/Math" ∈ wsL_law) (hw4 : Cond.code Lib.Math.min.name Lib.Math.min.code 2 (some .int) ∈ wsL_law) (h1 : 1 ≤ rm.frames) (h2 : (st.map fun v => v.category).sum + 13 ≤ rm.locals) (h3 : cs ≤ rm.cells) (h4 : sl ≤ rm.slots) {a b : Int32} (hdg : decode cc pc = .ok (.invokestatic index, 3)) (kk : J g x nL cs sl (pc + 3) lv (.int (S_min a b) :: st) ws) : J g x nL cs sl pc lv (.int b :: .int a :: st) ws := by
  obtain ⟨p, e, R, s, m, args, below, meth, c, Q, A⟩ := x
  obtain ⟨hx, hb, hown, hts, hK, hml, hA, hr, hlo, hR⟩ := hX
  intro H locs ls hP hD hS hls
  subst hR
  exact va_mmin hx hb (by rw [hml]; exact hls.1.symm) hown (hts _ hw1) (hts _ hw2) (hts _ hw3) (hts _ hw4) h1 h2 h3 h4 hdg (kk H locs ls hP hD hS hls)
theorem j_iret (hX : JX g x own cc nL (some .int) rm) {post : Int32 → va_W → Prop} {w0 : va_W} (hQ : JRI g x post w0) {v : Int32} (hdg : decode cc pc = .ok (.ireturn, 1)) (hf : ws.map Prod.fst = w0.map Prod.fst) (hp : post v ws) : J g x nL 0 0 pc lv [.int v] ws := by
  obtain ⟨p, e, R, s, m, args, below, meth, c, Q, A⟩ := x
  obtain ⟨hx, hb, hown, hts, hK, hml, hA, hr, hlo, hR⟩ := hX
  intro H locs ls hP hD hS hls
  have hQ : Q = _ := hQ
  subst hQ
  exact W.iret (v := v) hx hb hr (fun t ht hW => ⟨⟨v, (ws, []), rfl, ⟨hp, rfl⟩, by rw [ht]; rw [List.append_nil]; exact hP, by rw [List.append_nil]; exact hD, hf⟩, hS.F ht⟩) hS.2.2 hdg
theorem j_zret (hX : JX g x own cc nL (some .boolean) rm) {post : Int32 → va_W → Prop} {w0 : va_W} (hQ : JRI g x post w0) {v : Int32} (hdg : decode cc pc = .ok (.ireturn, 1)) (hn : narrow .boolean (.int v) = .int v) (hf : ws.map Prod.fst = w0.map Prod.fst) (hp : post v ws) : J g x nL 0 0 pc lv [.int v] ws := by
  obtain ⟨p, e, R, s, m, args, below, meth, c, Q, A⟩ := x
  obtain ⟨hx, hb, hown, hts, hK, hml, hA, hr, hlo, hR⟩ := hX
  intro H locs ls hP hD hS hls
  have hQ : Q = _ := hQ
  subst hQ
  exact W.zret (v := v) hx hb hr hn (fun t ht hW => ⟨⟨v, (ws, []), rfl, ⟨hp, rfl⟩, by rw [ht]; rw [List.append_nil]; exact hP, by rw [List.append_nil]; exact hD, hf⟩, hS.F ht⟩) hS.2.2 hdg
theorem j_vret (hX : JX g x own cc nL none rm) {mc ms : Nat} {post : va_W → va_W → Prop} {w0 : va_W} (hQ : JRV g x mc ms post w0) (hdg : decode cc pc = .ok (.return_, 1)) (wa wn : va_W) (hw : ws = wa ++ wn) (hf : wa.map Prod.fst = w0.map Prod.fst) (hp : post wa wn) : J g x nL mc ms pc lv [] ws := by
  obtain ⟨p, e, R, s, m, args, below, meth, c, Q, A⟩ := x
  obtain ⟨hx, hb, hown, hts, hK, hml, hA, hr, hlo, hR⟩ := hX
  intro H locs ls hP hD hS hls
  have hQ : Q = _ := hQ
  subst hQ
  subst hw
  exact W.vret hx hb hr (fun t ht hW => ⟨⟨(wa, wn), rfl, hp, by rw [ht]; exact hP, hD, hf⟩, hS.F ht⟩) hS.2.2 hdg

end JROWS
theorem jgood (w : Cond) (h : w ∈ wsL_law) : (w.onTables && w.keeps) = true ∨ ∃ ty, w = .arrayClass ty := (wsL_gi w h).2
theorem jgi {y : MethodName} {cb : ByteArray} {maxL : Nat} {rt : Option FieldType} (hco : Cond.code y cb maxL rt ∈ wsL_law) : GoodIn wsL_law (.code y cb maxL rt :: wsL_law) := fun w h => (List.mem_cons.mp h).elim (fun e => by subst e; exact ⟨hco, jgood _ hco⟩) (fun h => ⟨h, jgood _ h⟩)
theorem jMI.intro {g : jG} {y : MethodName} {cb : ByteArray} {maxL : Nat} {rt : FieldType} {nf nl : Nat} {as : List Value} {ws : va_W} {post : Int32 → va_W → Prop} (hy : plainName y.cls = true) (hlen : (lg_sl as).length ≤ maxL)
    (h : ∀ x : jC, JX g x y.cls cb maxL (some rt) { frames := nf, cells := 0, slots := 0, locals := nl } → JRI g x post ws → J g x maxL 0 0 0 (lv_args 0 as) [] ws) : jMI g y cb maxL rt nf nl as ws post := by
  intro sz
  refine Met.ofW (cc := cb) (maxL := maxL) (ret := some rt) hy rfl ?_
  intro p e s m args below meth c s₁ B hml hv
  obtain ⟨rfl, hsz, hP, hK, hD0⟩ := hv
  subst hsz
  have hts : ∀ w ∈ wsL_law, w.before as.toArray s = true := fun w hw => atoms_spec (ws := .code y cb maxL (some rt) :: wsL_law) B.pre w (List.mem_cons_of_mem _ hw)
  have hl := lv_entry as (n := maxL) hlen
  rw [lg_entry_eq]
  exact h (p, e, { frames := nf, cells := 0, slots := 0, locals := nl }, s, m, as.toArray, below, meth, c, MQ below (jQI g post (va_A ws s.heap.size) ws) as.toArray s 0 0 (va_A ws s.heap.size), va_A ws s.heap.size) ⟨B.exec, B.bytes, findClass_of_methodNamed B.named, hts, hK, hml, fun q hq => Or.inr hq, B.returns, B.notSynchronized, rfl⟩ rfl s.heap [] _ hP hD0.self va_S.rf hl
theorem jMV.intro {g : jG} {y : MethodName} {cb : ByteArray} {maxL : Nat} {nf nl mc ms : Nat} {as : List Value} {ws : va_W} {post : va_W → va_W → Prop} (hy : plainName y.cls = true) (hlen : (lg_sl as).length ≤ maxL)
    (h : ∀ x : jC, JX g x y.cls cb maxL none { frames := nf, cells := mc, slots := ms, locals := nl } → JRV g x mc ms post ws → (y.name = "<init>" → JN x) → J g x maxL 0 0 0 (lv_args 0 as) [] ws) : jMV g y cb maxL nf nl mc ms as ws post := by
  intro sz
  refine Met.ofW (cc := cb) (maxL := maxL) (ret := none) hy rfl ?_
  intro p e s m args below meth c s₁ B hml hv
  obtain ⟨rfl, hsz, hP, hK, hD0⟩ := hv
  subst hsz
  have hts : ∀ w ∈ wsL_law, w.before as.toArray s = true := fun w hw => atoms_spec (ws := .code y cb maxL none :: wsL_law) B.pre w (List.mem_cons_of_mem _ hw)
  have hl := lv_entry as (n := maxL) hlen
  rw [lg_entry_eq]
  exact h (p, e, { frames := nf, cells := mc, slots := ms, locals := nl }, s, m, as.toArray, below, meth, c, MQ below (jQV g post (va_A ws s.heap.size) ws) as.toArray s mc ms (va_A ws s.heap.size), va_A ws s.heap.size) ⟨B.exec, B.bytes, findClass_of_methodNamed B.named, hts, hK, hml, fun q hq => Or.inr hq, B.returns, B.notSynchronized, rfl⟩ rfl (fun h9 => (name_of_methodNamed B.named B.method).1.trans h9) s.heap [] _ hP hD0.self va_S.rf hl
theorem jblind {g : jG} {as : List Value} {ws : va_W} {sz : Nat} : FrameBlind (jP g as ws sz) := fun a U f mk q => by
  obtain ⟨q0, q1, qP, qK, qD⟩ := q
  exact ⟨q0, q1, qP, jK.same (u := U) (U := U.calling f mk a) rfl qK, qD⟩
theorem va_D_sel {A : Nat → Prop} {ws wc : va_W} {is : List Nat} (hD : va_D A ws) (hn : va_nd is = true) (hC : is.map (fun i => ws[i]?) = wc.map some) : va_D (fun _ => True) wc := (hD.sub is hn hC).weaken (fun _ _ _ _ => trivial)
/-- what a call's place needs of the words: virtual, static, special -/
def CV (own : String) (index : Nat) (C : String) (ci : Nat) (y : MethodName) (cb : ByteArray) (maxL : Nat) (rt : Option FieldType) (n : Nat) : Prop :=
  GoodIn wsL_law (wsV own index C y (.code y cb maxL rt :: wsL_law)) ∧ (y.cls = C ∧ y.cls ≠ "java/lang/invoke/MethodHandle" ∧ y.cls ≠ "java/lang/invoke/VarHandle" ∧ (parseMethodDescriptor y.desc).map (fun d => d.parameters.length) = some n) ∧ ∃ (T : u_T) (N : Nat), vwCl[ci]? = some (C, T, N)
def CS (own : String) (index : Nat) (y : MethodName) (cb : ByteArray) (maxL : Nat) (rt : Option FieldType) (n : Nat) : Prop :=
  GoodIn wsL_law (va_wsS own index y (.code y cb maxL rt :: wsL_law)) ∧ (y.cls ≠ "java/lang/invoke/MethodHandle" ∧ y.cls ≠ "java/lang/invoke/VarHandle" ∧ (parseMethodDescriptor y.desc).map (fun d => d.parameters.length) = some n)
def CI (own : String) (index : Nat) (y : MethodName) (cb : ByteArray) (maxL : Nat) (n : Nat) : Prop :=
  Cond.code y cb maxL none ∈ wsL_law ∧ Cond.initialized y.cls ∈ wsL_law ∧ Cond.methodLink own index y ∈ wsL_law ∧ Cond.instanceMethod y ∈ wsL_law ∧ y.name = "<init>" ∧ (y.cls ≠ "java/lang/invoke/MethodHandle" ∧ y.cls ≠ "java/lang/invoke/VarHandle" ∧ (parseMethodDescriptor y.desc).map (fun d => d.parameters.length) = some n)
def CVN (own : String) (index : Nat) (C : String) (ci : Nat) (y : MethodName) (cb : ByteArray) (maxL : Nat) (rt : Option FieldType) (n : Nat) : Prop :=
  (∃ host : String, Cond.methodLinkNest own index y host ∈ wsN) ∧ Cond.instanceMethod y ∈ wsL_law ∧ Cond.selects C y y ∈ wsL_law ∧ Cond.initialized y.cls ∈ wsL_law ∧ Cond.code y cb maxL rt ∈ wsL_law ∧ (y.cls ≠ "java/lang/invoke/MethodHandle" ∧ y.cls ≠ "java/lang/invoke/VarHandle" ∧ (parseMethodDescriptor y.desc).map (fun d => d.parameters.length) = some n) ∧ ∃ (T : u_T) (N : Nat), vwCl[ci]? = some (C, T, N)
def CSN (own : String) (index : Nat) (y : MethodName) (cb : ByteArray) (maxL : Nat) (rt : Option FieldType) (n : Nat) : Prop :=
  (∃ host : String, Cond.methodLinkNest own index y host ∈ wsN) ∧ Cond.static y ∈ wsL_law ∧ Cond.initialized y.cls ∈ wsL_law ∧ Cond.code y cb maxL rt ∈ wsL_law ∧ (y.cls ≠ "java/lang/invoke/MethodHandle" ∧ y.cls ≠ "java/lang/invoke/VarHandle" ∧ (parseMethodDescriptor y.desc).map (fun d => d.parameters.length) = some n)
def CIN (own : String) (index : Nat) (y : MethodName) (cb : ByteArray) (maxL : Nat) (n : Nat) : Prop :=
  (∃ host : String, Cond.methodLinkNest own index y host ∈ wsN) ∧ Cond.instanceMethod y ∈ wsL_law ∧ y.name = "<init>" ∧ Cond.initialized y.cls ∈ wsL_law ∧ Cond.code y cb maxL none ∈ wsL_law ∧ (y.cls ≠ "java/lang/invoke/MethodHandle" ∧ y.cls ≠ "java/lang/invoke/VarHandle" ∧ (parseMethodDescriptor y.desc).map (fun d => d.parameters.length) = some n)
theorem CV.of {own : String} {index : Nat} {C : String} {ci : Nat} {y : MethodName} {cb : ByteArray} {maxL : Nat} {rt : Option FieldType} {n : Nat} (h1 : Cond.methodLink own index y ∈ wsL_law) (h2 : Cond.instanceMethod y ∈ wsL_law) (h3 : Cond.selects C y y ∈ wsL_law) (h4 : Cond.initialized C ∈ wsL_law) (h5 : Cond.code y cb maxL rt ∈ wsL_law)
    (hd : y.cls = C ∧ y.cls ≠ "java/lang/invoke/MethodHandle" ∧ y.cls ≠ "java/lang/invoke/VarHandle" ∧ (parseMethodDescriptor y.desc).map (fun d => d.parameters.length) = some n) {T : u_T} {N : Nat} (hc : vwCl[ci]? = some (C, T, N)) : CV own index C ci y cb maxL rt n := by
  refine ⟨fun w h => ?_, hd, T, N, hc⟩
  rcases List.mem_append.mp h with h | h
  · have hm : w ∈ wsL_law := by
      simp only [List.mem_cons, List.not_mem_nil, or_false] at h
      rcases h with rfl | rfl | rfl | rfl <;> assumption
    exact ⟨hm, jgood _ hm⟩
  · exact jgi h5 w h
theorem CS.of {own : String} {index : Nat} {y : MethodName} {cb : ByteArray} {maxL : Nat} {rt : Option FieldType} {n : Nat} (h1 : Cond.methodLink own index y ∈ wsL_law) (h2 : Cond.static y ∈ wsL_law) (h4 : Cond.initialized y.cls ∈ wsL_law) (h5 : Cond.code y cb maxL rt ∈ wsL_law)
    (hd : y.cls ≠ "java/lang/invoke/MethodHandle" ∧ y.cls ≠ "java/lang/invoke/VarHandle" ∧ (parseMethodDescriptor y.desc).map (fun d => d.parameters.length) = some n) : CS own index y cb maxL rt n := by
  refine ⟨fun w h => ?_, hd⟩
  rcases List.mem_append.mp h with h | h
  · have hm : w ∈ wsL_law := by
      simp only [List.mem_cons, List.not_mem_nil, or_false] at h
      rcases h with rfl | rfl | rfl <;> assumption
    exact ⟨hm, jgood _ hm⟩
  · exact jgi h5 w h
section JCALLS
variable {g : jG} {x : jC} {own : String} {cc : ByteArray} {nL : Nat} {ret : Option FieldType} {rm : Room} {pc cs sl : Nat} {lv : List (Nat × Value)} {st rest : List Value} {ws wc : va_W}
variable {y : MethodName} {cb : ByteArray} {maxL n index ci nf nl mc ms : Nat} {rt : FieldType} {C : String} {b : Nat} {fs : List Value} {As : List Value}

theorem j_callVI (hX : JX g x own cc nL ret rm) {post : Int32 → va_W → Prop} (hM : jMI g y cb maxL rt nf nl (.ref b :: As) wc post) (cw : CV own index C ci y cb maxL (some rt) n) (hR1 : nf + 1 ≤ rm.frames) (hR2 : 8 + (maxL + 11) + nl ≤ rm.locals) (hc1 : cs ≤ rm.cells) (hc2 : sl ≤ rm.slots) (q0 : Nat) (hq : ws[q0]? = some (b, .inr (ci, fs))) (is : List Nat) (hnd : va_nd is = true) (hC : is.map (fun i => ws[i]?) = wc.map some) (hn : As.length = n) (hst : st = As.reverse ++ .ref b :: rest) (hs8 : (rest.map fun v => v.category).sum ≤ 8) (hdg : decode cc pc = .ok (.invokevirtual index, 3)) (kk : ∀ (r : Int32) (w : va_W), post r w → J g x nL cs sl (pc + 3) lv (.int r :: rest) (jput ws is w)) : J g x nL cs sl pc lv st ws := by
  obtain ⟨p, e, R, s, m, args, below, meth, c, Q, A⟩ := x
  obtain ⟨hx, hb, hown, hts, hK, hml, hA, hr, hlo, hR⟩ := hX
  intro H locs ls hP hD hS hls
  subst hst
  subst hR
  have hPc : va_P (jD g) vwCl wc H := fun k q hk => by
    obtain ⟨i, -, hi⟩ := jsel_in hC hk
    exact hP i q hi
  have hDc : va_D (fun _ => True) wc := va_D_sel hD hnd hC
  have hFc := va_free (wc := wc) hD hS hA is hC
  have hpre : ∀ U : State, U.heap = H → s.WarmedH U.vm → jP g (.ref b :: As) wc H.size (.ref b :: As).toArray U := fun U hU hW => ⟨rfl, by rw [hU], by rw [hU]; exact hPc, hK.moved hW, hDc⟩
  obtain ⟨hG, hd, T, N, hcl⟩ := cw
  refine va_calli (va_runV (As := As) (rest := rest) ⟨hx, hb, hml, hown, hts⟩ (hM H.size) (cwV n hts hG rfl rfl rfl hd ⟨hR1, hR2⟩) ⟨jblind, va_recv (q := (C, T, N)) hK.1 hP hcl hq, hpre⟩ rfl hn hls.1 rfl (lv_room hs8) hdg ⟨hc1, hc2⟩) hS (fun q _ h => hFc q h) hFc (fun r u t H1 locs1 ht hvm hw hB hz1 hk1 hS1 => ?_)
  obtain ⟨w, wn⟩ := u
  obtain ⟨hp, hnil⟩ := hw
  have hnil : wn = [] := hnil
  subst hnil
  obtain ⟨hP1, hD1, hf1⟩ := hB
  rw [ht] at hP1
  obtain ⟨p1, p2⟩ := jback (w := w) (wn := []) hP hD is hC hk1 hFc hP1 hD1 hf1
  rw [List.append_nil] at p1 p2
  exact kk r w hp H1 locs1 ls p1 p2 hS1 hls
theorem j_callVV (hX : JX g x own cc nL ret rm) {post : va_W → va_W → Prop} (hM : jMV g y cb maxL nf nl mc ms (.ref b :: As) wc post) (cw : CV own index C ci y cb maxL none n) (hR1 : nf + 1 ≤ rm.frames) (hR2 : 8 + (maxL + 11) + nl ≤ rm.locals) (hm1 : cs + mc ≤ rm.cells) (hm2 : sl + ms ≤ rm.slots)  (q0 : Nat) (hq : ws[q0]? = some (b, .inr (ci, fs))) (is : List Nat) (hnd : va_nd is = true) (hC : is.map (fun i => ws[i]?) = wc.map some) (hn : As.length = n) (hst : st = As.reverse ++ .ref b :: rest) (hs8 : (rest.map fun v => v.category).sum ≤ 8) (hdg : decode cc pc = .ok (.invokevirtual index, 3)) (kk : ∀ (w wn : va_W), post w wn → J g x nL (cs + mc) (sl + ms) (pc + 3) lv rest (jput ws is w ++ wn)) : J g x nL cs sl pc lv st ws := by
  obtain ⟨p, e, R, s, m, args, below, meth, c, Q, A⟩ := x
  obtain ⟨hx, hb, hown, hts, hK, hml, hA, hr, hlo, hR⟩ := hX
  intro H locs ls hP hD hS hls
  subst hst
  subst hR
  have hPc : va_P (jD g) vwCl wc H := fun k q hk => by
    obtain ⟨i, -, hi⟩ := jsel_in hC hk
    exact hP i q hi
  have hDc : va_D (fun _ => True) wc := va_D_sel hD hnd hC
  have hFc := va_free (wc := wc) hD hS hA is hC
  have hpre : ∀ U : State, U.heap = H → s.WarmedH U.vm → jP g (.ref b :: As) wc H.size (.ref b :: As).toArray U := fun U hU hW => ⟨rfl, by rw [hU], by rw [hU]; exact hPc, hK.moved hW, hDc⟩
  obtain ⟨hG, hd, T, N, hcl⟩ := cw
  refine va_callv (va_runV (As := As) (rest := rest) ⟨hx, hb, hml, hown, hts⟩ (hM H.size) (cwV n hts hG rfl rfl rfl hd ⟨hR1, hR2⟩) ⟨jblind, va_recv (q := (C, T, N)) hK.1 hP hcl hq, hpre⟩ rfl hn hls.1 rfl (lv_room hs8) hdg ⟨hm1, hm2⟩) hS (fun q _ h => hFc q h) hFc (fun u t H1 locs1 ht hvm hw hB hz1 hk1 hS1 => ?_)
  obtain ⟨w, wn⟩ := u
  obtain ⟨hP1, hD1, hf1⟩ := hB
  rw [ht] at hP1
  obtain ⟨p1, p2⟩ := jback (w := w) (wn := wn) hP hD is hC hk1 hFc hP1 hD1 hf1
  exact kk w wn hw H1 locs1 ls p1 p2 hS1 hls
theorem j_callSI (hX : JX g x own cc nL ret rm) {post : Int32 → va_W → Prop} (hM : jMI g y cb maxL rt nf nl As wc post) (cw : CS own index y cb maxL (some rt) n) (hR1 : nf + 1 ≤ rm.frames) (hR2 : 8 + (maxL + 11) + nl ≤ rm.locals) (hc1 : cs ≤ rm.cells) (hc2 : sl ≤ rm.slots) (is : List Nat) (hnd : va_nd is = true) (hC : is.map (fun i => ws[i]?) = wc.map some) (hn : As.length = n) (hst : st = As.reverse ++ rest) (hs8 : (rest.map fun v => v.category).sum ≤ 8) (hdg : decode cc pc = .ok (.invokestatic index, 3)) (kk : ∀ (r : Int32) (w : va_W), post r w → J g x nL cs sl (pc + 3) lv (.int r :: rest) (jput ws is w)) : J g x nL cs sl pc lv st ws := by
  obtain ⟨p, e, R, s, m, args, below, meth, c, Q, A⟩ := x
  obtain ⟨hx, hb, hown, hts, hK, hml, hA, hr, hlo, hR⟩ := hX
  intro H locs ls hP hD hS hls
  subst hst
  subst hR
  have hPc : va_P (jD g) vwCl wc H := fun k q hk => by
    obtain ⟨i, -, hi⟩ := jsel_in hC hk
    exact hP i q hi
  have hDc : va_D (fun _ => True) wc := va_D_sel hD hnd hC
  have hFc := va_free (wc := wc) hD hS hA is hC
  have hpre : ∀ U : State, U.heap = H → s.WarmedH U.vm → jP g As wc H.size As.toArray U := fun U hU hW => ⟨rfl, by rw [hU], by rw [hU]; exact hPc, hK.moved hW, hDc⟩
  obtain ⟨hG, hd⟩ := cw
  refine va_calli (va_runS (As := As) (rest := rest) ⟨hx, hb, hml, hown, hts⟩ (hM H.size) (va_cwS n hts hG rfl rfl rfl hd ⟨hR1, hR2⟩) ⟨jblind, hpre⟩ rfl hn hls.1 rfl (lv_room hs8) hdg ⟨hc1, hc2⟩) hS (fun q _ h => hFc q h) hFc (fun r u t H1 locs1 ht hvm hw hB hz1 hk1 hS1 => ?_)
  obtain ⟨w, wn⟩ := u
  obtain ⟨hp, hnil⟩ := hw
  have hnil : wn = [] := hnil
  subst hnil
  obtain ⟨hP1, hD1, hf1⟩ := hB
  rw [ht] at hP1
  obtain ⟨p1, p2⟩ := jback (w := w) (wn := []) hP hD is hC hk1 hFc hP1 hD1 hf1
  rw [List.append_nil] at p1 p2
  exact kk r w hp H1 locs1 ls p1 p2 hS1 hls
theorem j_callSV (hX : JX g x own cc nL ret rm) {post : va_W → va_W → Prop} (hM : jMV g y cb maxL nf nl mc ms As wc post) (cw : CS own index y cb maxL none n) (hR1 : nf + 1 ≤ rm.frames) (hR2 : 8 + (maxL + 11) + nl ≤ rm.locals) (hm1 : cs + mc ≤ rm.cells) (hm2 : sl + ms ≤ rm.slots)  (is : List Nat) (hnd : va_nd is = true) (hC : is.map (fun i => ws[i]?) = wc.map some) (hn : As.length = n) (hst : st = As.reverse ++ rest) (hs8 : (rest.map fun v => v.category).sum ≤ 8) (hdg : decode cc pc = .ok (.invokestatic index, 3)) (kk : ∀ (w wn : va_W), post w wn → J g x nL (cs + mc) (sl + ms) (pc + 3) lv rest (jput ws is w ++ wn)) : J g x nL cs sl pc lv st ws := by
  obtain ⟨p, e, R, s, m, args, below, meth, c, Q, A⟩ := x
  obtain ⟨hx, hb, hown, hts, hK, hml, hA, hr, hlo, hR⟩ := hX
  intro H locs ls hP hD hS hls
  subst hst
  subst hR
  have hPc : va_P (jD g) vwCl wc H := fun k q hk => by
    obtain ⟨i, -, hi⟩ := jsel_in hC hk
    exact hP i q hi
  have hDc : va_D (fun _ => True) wc := va_D_sel hD hnd hC
  have hFc := va_free (wc := wc) hD hS hA is hC
  have hpre : ∀ U : State, U.heap = H → s.WarmedH U.vm → jP g As wc H.size As.toArray U := fun U hU hW => ⟨rfl, by rw [hU], by rw [hU]; exact hPc, hK.moved hW, hDc⟩
  obtain ⟨hG, hd⟩ := cw
  refine va_callv (va_runS (As := As) (rest := rest) ⟨hx, hb, hml, hown, hts⟩ (hM H.size) (va_cwS n hts hG rfl rfl rfl hd ⟨hR1, hR2⟩) ⟨jblind, hpre⟩ rfl hn hls.1 rfl (lv_room hs8) hdg ⟨hm1, hm2⟩) hS (fun q _ h => hFc q h) hFc (fun u t H1 locs1 ht hvm hw hB hz1 hk1 hS1 => ?_)
  obtain ⟨w, wn⟩ := u
  obtain ⟨hP1, hD1, hf1⟩ := hB
  rw [ht] at hP1
  obtain ⟨p1, p2⟩ := jback (w := w) (wn := wn) hP hD is hC hk1 hFc hP1 hD1 hf1
  exact kk w wn hw H1 locs1 ls p1 p2 hS1 hls
theorem j_callIV (hX : JX g x own cc nL ret rm) {post : va_W → va_W → Prop} (hM : jMV g y cb maxL nf nl mc ms (.ref b :: As) wc post) (cw : CI own index y cb maxL n) (hR1 : nf + 1 ≤ rm.frames) (hR2 : 8 + (maxL + 11) + nl ≤ rm.locals) (hm1 : cs + mc ≤ rm.cells) (hm2 : sl + ms ≤ rm.slots)  (is : List Nat) (hnd : va_nd is = true) (hC : is.map (fun i => ws[i]?) = wc.map some) (hn : As.length = n) (hst : st = As.reverse ++ .ref b :: rest) (hs8 : (rest.map fun v => v.category).sum ≤ 8) (hdg : decode cc pc = .ok (.invokespecial index, 3)) (kk : ∀ (w wn : va_W), post w wn → J g x nL (cs + mc) (sl + ms) (pc + 3) lv rest (jput ws is w ++ wn)) : J g x nL cs sl pc lv st ws := by
  obtain ⟨p, e, R, s, m, args, below, meth, c, Q, A⟩ := x
  obtain ⟨hx, hb, hown, hts, hK, hml, hA, hr, hlo, hR⟩ := hX
  intro H locs ls hP hD hS hls
  subst hst
  subst hR
  have hPc : va_P (jD g) vwCl wc H := fun k q hk => by
    obtain ⟨i, -, hi⟩ := jsel_in hC hk
    exact hP i q hi
  have hDc : va_D (fun _ => True) wc := va_D_sel hD hnd hC
  have hFc := va_free (wc := wc) hD hS hA is hC
  have hpre : ∀ U : State, U.heap = H → s.WarmedH U.vm → jP g (.ref b :: As) wc H.size (.ref b :: As).toArray U := fun U hU hW => ⟨rfl, by rw [hU], by rw [hU]; exact hPc, hK.moved hW, hDc⟩
  obtain ⟨h5, hini, hlk, hinm, hyn, hd⟩ := cw
  refine va_callv (va_runI (As := As) (rest := rest) ⟨hx, hb, hml, hown, hts⟩ (hM H.size) (cwI n hts (jgi h5) rfl rfl rfl (hts _ hini) (hts _ hlk) (hts _ hinm) hyn hd ⟨hR1, hR2⟩) ⟨jblind, hpre⟩ rfl hn hls.1 rfl (lv_room hs8) hdg ⟨hm1, hm2⟩) hS (fun q _ h => hFc q h) hFc (fun u t H1 locs1 ht hvm hw hB hz1 hk1 hS1 => ?_)
  obtain ⟨w, wn⟩ := u
  obtain ⟨hP1, hD1, hf1⟩ := hB
  rw [ht] at hP1
  obtain ⟨p1, p2⟩ := jback (w := w) (wn := wn) hP hD is hC hk1 hFc hP1 hD1 hf1
  exact kk w wn hw H1 locs1 ls p1 p2 hS1 hls
theorem j_callVNI (hX : JX g x own cc nL ret rm) {post : Int32 → va_W → Prop} (hM : jMI g y cb maxL rt nf nl (.ref b :: As) wc post) (cw : CVN own index C ci y cb maxL (some rt) n) (hR1 : nf + 1 ≤ rm.frames) (hR2 : 8 + (maxL + 11) + nl ≤ rm.locals) (hc1 : cs ≤ rm.cells) (hc2 : sl ≤ rm.slots) (q0 : Nat) (hq : ws[q0]? = some (b, .inr (ci, fs))) (is : List Nat) (hnd : va_nd is = true) (hC : is.map (fun i => ws[i]?) = wc.map some) (hn : As.length = n) (hst : st = As.reverse ++ .ref b :: rest) (hs8 : (rest.map fun v => v.category).sum ≤ 8) (hdg : decode cc pc = .ok (.invokevirtual index, 3)) (kk : ∀ (r : Int32) (w : va_W), post r w → J g x nL cs sl (pc + 3) lv (.int r :: rest) (jput ws is w)) : J g x nL cs sl pc lv st ws := by
  obtain ⟨p, e, R, s, m, args, below, meth, c, Q, A⟩ := x
  obtain ⟨hx, hb, hown, hts, hK, hml, hA, hr, hlo, hR⟩ := hX
  intro H locs ls hP hD hS hls
  subst hst
  subst hR
  have hPc : va_P (jD g) vwCl wc H := fun k q hk => by
    obtain ⟨i, -, hi⟩ := jsel_in hC hk
    exact hP i q hi
  have hDc : va_D (fun _ => True) wc := va_D_sel hD hnd hC
  have hFc := va_free (wc := wc) hD hS hA is hC
  have hpre : ∀ U : State, U.heap = H → s.WarmedH U.vm → jP g (.ref b :: As) wc H.size (.ref b :: As).toArray U := fun U hU hW => ⟨rfl, by rw [hU], by rw [hU]; exact hPc, hK.moved hW, hDc⟩
  obtain ⟨⟨host, hlk⟩, hinm, hse, hini, hco, hd, T, N, hcl⟩ := cw
  refine va_calli (va_runVN (As := As) (rest := rest) ⟨hx, hb, hml, hown, hts⟩ (hM H.size) ⟨(va_cnB n hts (jgi hco) rfl rfl rfl (va_Nw.of rfl (va_Nw.use (A := args) rfl (hK.2.2 _ hlk))) (hts _ hini) hd ⟨hR1, hR2⟩), hts _ hinm, hts _ hse⟩ ⟨jblind, va_recv (q := (C, T, N)) hK.1 hP hcl hq, hpre⟩ rfl hn hls.1 rfl (lv_room hs8) hdg ⟨hc1, hc2⟩) hS (fun q _ h => hFc q h) hFc (fun r u t H1 locs1 ht hvm hw hB hz1 hk1 hS1 => ?_)
  obtain ⟨w, wn⟩ := u
  obtain ⟨hp, hnil⟩ := hw
  have hnil : wn = [] := hnil
  subst hnil
  obtain ⟨hP1, hD1, hf1⟩ := hB
  rw [ht] at hP1
  obtain ⟨p1, p2⟩ := jback (w := w) (wn := []) hP hD is hC hk1 hFc hP1 hD1 hf1
  rw [List.append_nil] at p1 p2
  exact kk r w hp H1 locs1 ls p1 p2 hS1 hls
theorem j_callVNV (hX : JX g x own cc nL ret rm) {post : va_W → va_W → Prop} (hM : jMV g y cb maxL nf nl mc ms (.ref b :: As) wc post) (cw : CVN own index C ci y cb maxL none n) (hR1 : nf + 1 ≤ rm.frames) (hR2 : 8 + (maxL + 11) + nl ≤ rm.locals) (hm1 : cs + mc ≤ rm.cells) (hm2 : sl + ms ≤ rm.slots)  (q0 : Nat) (hq : ws[q0]? = some (b, .inr (ci, fs))) (is : List Nat) (hnd : va_nd is = true) (hC : is.map (fun i => ws[i]?) = wc.map some) (hn : As.length = n) (hst : st = As.reverse ++ .ref b :: rest) (hs8 : (rest.map fun v => v.category).sum ≤ 8) (hdg : decode cc pc = .ok (.invokevirtual index, 3)) (kk : ∀ (w wn : va_W), post w wn → J g x nL (cs + mc) (sl + ms) (pc + 3) lv rest (jput ws is w ++ wn)) : J g x nL cs sl pc lv st ws := by
  obtain ⟨p, e, R, s, m, args, below, meth, c, Q, A⟩ := x
  obtain ⟨hx, hb, hown, hts, hK, hml, hA, hr, hlo, hR⟩ := hX
  intro H locs ls hP hD hS hls
  subst hst
  subst hR
  have hPc : va_P (jD g) vwCl wc H := fun k q hk => by
    obtain ⟨i, -, hi⟩ := jsel_in hC hk
    exact hP i q hi
  have hDc : va_D (fun _ => True) wc := va_D_sel hD hnd hC
  have hFc := va_free (wc := wc) hD hS hA is hC
  have hpre : ∀ U : State, U.heap = H → s.WarmedH U.vm → jP g (.ref b :: As) wc H.size (.ref b :: As).toArray U := fun U hU hW => ⟨rfl, by rw [hU], by rw [hU]; exact hPc, hK.moved hW, hDc⟩
  obtain ⟨⟨host, hlk⟩, hinm, hse, hini, hco, hd, T, N, hcl⟩ := cw
  refine va_callv (va_runVN (As := As) (rest := rest) ⟨hx, hb, hml, hown, hts⟩ (hM H.size) ⟨(va_cnB n hts (jgi hco) rfl rfl rfl (va_Nw.of rfl (va_Nw.use (A := args) rfl (hK.2.2 _ hlk))) (hts _ hini) hd ⟨hR1, hR2⟩), hts _ hinm, hts _ hse⟩ ⟨jblind, va_recv (q := (C, T, N)) hK.1 hP hcl hq, hpre⟩ rfl hn hls.1 rfl (lv_room hs8) hdg ⟨hm1, hm2⟩) hS (fun q _ h => hFc q h) hFc (fun u t H1 locs1 ht hvm hw hB hz1 hk1 hS1 => ?_)
  obtain ⟨w, wn⟩ := u
  obtain ⟨hP1, hD1, hf1⟩ := hB
  rw [ht] at hP1
  obtain ⟨p1, p2⟩ := jback (w := w) (wn := wn) hP hD is hC hk1 hFc hP1 hD1 hf1
  exact kk w wn hw H1 locs1 ls p1 p2 hS1 hls
theorem j_callSNI (hX : JX g x own cc nL ret rm) {post : Int32 → va_W → Prop} (hM : jMI g y cb maxL rt nf nl As wc post) (cw : CSN own index y cb maxL (some rt) n) (hR1 : nf + 1 ≤ rm.frames) (hR2 : 8 + (maxL + 11) + nl ≤ rm.locals) (hc1 : cs ≤ rm.cells) (hc2 : sl ≤ rm.slots) (is : List Nat) (hnd : va_nd is = true) (hC : is.map (fun i => ws[i]?) = wc.map some) (hn : As.length = n) (hst : st = As.reverse ++ rest) (hs8 : (rest.map fun v => v.category).sum ≤ 8) (hdg : decode cc pc = .ok (.invokestatic index, 3)) (kk : ∀ (r : Int32) (w : va_W), post r w → J g x nL cs sl (pc + 3) lv (.int r :: rest) (jput ws is w)) : J g x nL cs sl pc lv st ws := by
  obtain ⟨p, e, R, s, m, args, below, meth, c, Q, A⟩ := x
  obtain ⟨hx, hb, hown, hts, hK, hml, hA, hr, hlo, hR⟩ := hX
  intro H locs ls hP hD hS hls
  subst hst
  subst hR
  have hPc : va_P (jD g) vwCl wc H := fun k q hk => by
    obtain ⟨i, -, hi⟩ := jsel_in hC hk
    exact hP i q hi
  have hDc : va_D (fun _ => True) wc := va_D_sel hD hnd hC
  have hFc := va_free (wc := wc) hD hS hA is hC
  have hpre : ∀ U : State, U.heap = H → s.WarmedH U.vm → jP g As wc H.size As.toArray U := fun U hU hW => ⟨rfl, by rw [hU], by rw [hU]; exact hPc, hK.moved hW, hDc⟩
  obtain ⟨⟨host, hlk⟩, hstt, hini, hco, hd⟩ := cw
  refine va_calli (va_runSN (As := As) (rest := rest) ⟨hx, hb, hml, hown, hts⟩ (hM H.size) ⟨(va_cnB n hts (jgi hco) rfl rfl rfl (va_Nw.of rfl (va_Nw.use (A := args) rfl (hK.2.2 _ hlk))) (hts _ hini) hd ⟨hR1, hR2⟩), hts _ hstt, trivial⟩ ⟨jblind, hpre⟩ rfl hn hls.1 rfl (lv_room hs8) hdg ⟨hc1, hc2⟩) hS (fun q _ h => hFc q h) hFc (fun r u t H1 locs1 ht hvm hw hB hz1 hk1 hS1 => ?_)
  obtain ⟨w, wn⟩ := u
  obtain ⟨hp, hnil⟩ := hw
  have hnil : wn = [] := hnil
  subst hnil
  obtain ⟨hP1, hD1, hf1⟩ := hB
  rw [ht] at hP1
  obtain ⟨p1, p2⟩ := jback (w := w) (wn := []) hP hD is hC hk1 hFc hP1 hD1 hf1
  rw [List.append_nil] at p1 p2
  exact kk r w hp H1 locs1 ls p1 p2 hS1 hls
theorem j_callSNV (hX : JX g x own cc nL ret rm) {post : va_W → va_W → Prop} (hM : jMV g y cb maxL nf nl mc ms As wc post) (cw : CSN own index y cb maxL none n) (hR1 : nf + 1 ≤ rm.frames) (hR2 : 8 + (maxL + 11) + nl ≤ rm.locals) (hm1 : cs + mc ≤ rm.cells) (hm2 : sl + ms ≤ rm.slots)  (is : List Nat) (hnd : va_nd is = true) (hC : is.map (fun i => ws[i]?) = wc.map some) (hn : As.length = n) (hst : st = As.reverse ++ rest) (hs8 : (rest.map fun v => v.category).sum ≤ 8) (hdg : decode cc pc = .ok (.invokestatic index, 3)) (kk : ∀ (w wn : va_W), post w wn → J g x nL (cs + mc) (sl + ms) (pc + 3) lv rest (jput ws is w ++ wn)) : J g x nL cs sl pc lv st ws := by
  obtain ⟨p, e, R, s, m, args, below, meth, c, Q, A⟩ := x
  obtain ⟨hx, hb, hown, hts, hK, hml, hA, hr, hlo, hR⟩ := hX
  intro H locs ls hP hD hS hls
  subst hst
  subst hR
  have hPc : va_P (jD g) vwCl wc H := fun k q hk => by
    obtain ⟨i, -, hi⟩ := jsel_in hC hk
    exact hP i q hi
  have hDc : va_D (fun _ => True) wc := va_D_sel hD hnd hC
  have hFc := va_free (wc := wc) hD hS hA is hC
  have hpre : ∀ U : State, U.heap = H → s.WarmedH U.vm → jP g As wc H.size As.toArray U := fun U hU hW => ⟨rfl, by rw [hU], by rw [hU]; exact hPc, hK.moved hW, hDc⟩
  obtain ⟨⟨host, hlk⟩, hstt, hini, hco, hd⟩ := cw
  refine va_callv (va_runSN (As := As) (rest := rest) ⟨hx, hb, hml, hown, hts⟩ (hM H.size) ⟨(va_cnB n hts (jgi hco) rfl rfl rfl (va_Nw.of rfl (va_Nw.use (A := args) rfl (hK.2.2 _ hlk))) (hts _ hini) hd ⟨hR1, hR2⟩), hts _ hstt, trivial⟩ ⟨jblind, hpre⟩ rfl hn hls.1 rfl (lv_room hs8) hdg ⟨hm1, hm2⟩) hS (fun q _ h => hFc q h) hFc (fun u t H1 locs1 ht hvm hw hB hz1 hk1 hS1 => ?_)
  obtain ⟨w, wn⟩ := u
  obtain ⟨hP1, hD1, hf1⟩ := hB
  rw [ht] at hP1
  obtain ⟨p1, p2⟩ := jback (w := w) (wn := wn) hP hD is hC hk1 hFc hP1 hD1 hf1
  exact kk w wn hw H1 locs1 ls p1 p2 hS1 hls
theorem j_callINV (hX : JX g x own cc nL ret rm) {post : va_W → va_W → Prop} (hM : jMV g y cb maxL nf nl mc ms (.ref b :: As) wc post) (cw : CIN own index y cb maxL n) (hR1 : nf + 1 ≤ rm.frames) (hR2 : 8 + (maxL + 11) + nl ≤ rm.locals) (hm1 : cs + mc ≤ rm.cells) (hm2 : sl + ms ≤ rm.slots)  (is : List Nat) (hnd : va_nd is = true) (hC : is.map (fun i => ws[i]?) = wc.map some) (hn : As.length = n) (hst : st = As.reverse ++ .ref b :: rest) (hs8 : (rest.map fun v => v.category).sum ≤ 8) (hdg : decode cc pc = .ok (.invokespecial index, 3)) (kk : ∀ (w wn : va_W), post w wn → J g x nL (cs + mc) (sl + ms) (pc + 3) lv rest (jput ws is w ++ wn)) : J g x nL cs sl pc lv st ws := by
  obtain ⟨p, e, R, s, m, args, below, meth, c, Q, A⟩ := x
  obtain ⟨hx, hb, hown, hts, hK, hml, hA, hr, hlo, hR⟩ := hX
  intro H locs ls hP hD hS hls
  subst hst
  subst hR
  have hPc : va_P (jD g) vwCl wc H := fun k q hk => by
    obtain ⟨i, -, hi⟩ := jsel_in hC hk
    exact hP i q hi
  have hDc : va_D (fun _ => True) wc := va_D_sel hD hnd hC
  have hFc := va_free (wc := wc) hD hS hA is hC
  have hpre : ∀ U : State, U.heap = H → s.WarmedH U.vm → jP g (.ref b :: As) wc H.size (.ref b :: As).toArray U := fun U hU hW => ⟨rfl, by rw [hU], by rw [hU]; exact hPc, hK.moved hW, hDc⟩
  obtain ⟨⟨host, hlk⟩, hinm, hyn, hini, hco, hd⟩ := cw
  refine va_callv (va_runIN (As := As) (rest := rest) ⟨hx, hb, hml, hown, hts⟩ (hM H.size) ⟨(va_cnB n hts (jgi hco) rfl rfl rfl (va_Nw.of rfl (va_Nw.use (A := args) rfl (hK.2.2 _ hlk))) (hts _ hini) hd ⟨hR1, hR2⟩), hyn, hts _ hinm⟩ ⟨jblind, hpre⟩ rfl hn hls.1 rfl (lv_room hs8) hdg ⟨hm1, hm2⟩) hS (fun q _ h => hFc q h) hFc (fun u t H1 locs1 ht hvm hw hB hz1 hk1 hS1 => ?_)
  obtain ⟨w, wn⟩ := u
  obtain ⟨hP1, hD1, hf1⟩ := hB
  rw [ht] at hP1
  obtain ⟨p1, p2⟩ := jback (w := w) (wn := wn) hP hD is hC hk1 hFc hP1 hD1 hf1
  exact kk w wn hw H1 locs1 ls p1 p2 hS1 hls
end JCALLS
