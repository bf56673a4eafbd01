/-! J: irem, pop; contracts that make cells and answer an int (jMN); contracts that read the law's script (jMS) -/
def jMN (g : jG) (y : MethodName) (cb : ByteArray) (maxL : Nat) (rt : FieldType) (nf nl mc ms : Nat) (as : List Value) (ws : va_W) (post : Int32 → va_W → Prop) : Prop :=
  ∀ sz, Met (jl g) y (.code y cb maxL (some rt) :: wsL_law) { frames := nf, cells := mc, slots := ms, locals := nl } (jP g as ws sz) (jQI g post (va_A ws sz) ws) mc ms (va_A ws sz)
def JRN (g : jG) (x : jC) (mc ms : Nat) (post : Int32 → va_W → Prop) (w0 : va_W) : Prop :=
  match x with
  | (_, _, _, s, _, args, below, _, _, Q, A) => Q = MQ below (jQI g post A w0) args s mc ms A
def jPs (g : jG) (as : List Value) (ws : va_W) (b L : Nat) (xs : Nat → Int32) (sz : Nat) : Array Value → State → Prop := va_Pc as (fun U => U.heap.size = sz ∧ va_P (jD g) vwCl ws U.heap ∧ jK g U ∧ va_D (fun _ => True) ws ∧ va_X b L xs U U.heap ∧ b < sz ∧ ¬ va_A ws sz b)
def jMS (g : jG) (y : MethodName) (cb : ByteArray) (maxL : Nat) (rt : FieldType) (nf nl : Nat) (as : List Value) (ws : va_W) (b L : Nat) (xs : Nat → Int32) (post : Int32 → va_W → Prop) : Prop :=
  ∀ sz, Met (jl g) y (.code y cb maxL (some rt) :: wsL_law) { frames := nf, cells := 0, slots := 0, locals := nl } (jPs g as ws b L xs sz) (jQI g post (va_A ws sz) ws) 0 0 (va_A ws sz)
section JROWS2
variable {g : jG} {x : jC} {own : String} {cc : ByteArray} {nL : Nat} {ret : Option FieldType} {rm : Room} {pc cs sl : Nat} {lv : List (Nat × Value)} {st : List Value} {ws : va_W}
theorem j_irem (hX : JX g x own cc nL ret rm) {a b : Int32} (hdg : decode cc pc = .ok (.irem, 1)) (hne : ¬ b = 0) (kk : J g x nL cs sl (pc + 1) lv (.int (a - a / b * b) :: st) ws) : J g x nL cs sl pc lv (.int b :: .int a :: st) ws := by
  obtain ⟨p, e, R, s, m, args, below, meth, c, Q, A⟩ := x
  obtain ⟨hx, hb, hown, hts, hK, hml, hA, hr, hlo, hR⟩ := hX
  intro H locs ls hP hD hS hls
  exact lv_irem hx hb hdg hne (kk H locs ls hP hD hS hls)
theorem j_pop (hX : JX g x own cc nL ret rm) {v : Value} (hdg : decode cc pc = .ok (.pop, 1)) (hv : v.category = 1) (kk : J g x nL cs sl (pc + 1) lv st ws) : J g x nL cs sl pc lv (v :: st) ws := by
  obtain ⟨p, e, R, s, m, args, below, meth, c, Q, A⟩ := x
  obtain ⟨hx, hb, hown, hts, hK, hml, hA, hr, hlo, hR⟩ := hX
  intro H locs ls hP hD hS hls
  exact lv_pop hx hb hdg hv (kk H locs ls hP hD hS hls)
/-- the end of a method that has made cells: what is told are the places is -/
theorem j_zretN (hX : JX g x own cc nL (some .boolean) rm) {mc ms : Nat} {post : Int32 → va_W → Prop} {w0 : va_W} (hQ : JRN g x mc ms post w0) {v : Int32} (hdg : decode cc pc = .ok (.ireturn, 1)) (hn : narrow .boolean (.int v) = .int v) (h1 : cs ≤ mc) (h2 : sl ≤ ms) (wr : va_W) (is : List Nat) (hnd : va_nd is = true) (hC : is.map (fun i => ws[i]?) = wr.map some) (hf : wr.map Prod.fst = w0.map Prod.fst) (hp : post v wr) : J g x nL cs sl pc lv [.int v] ws := by
  obtain ⟨p, e, R, s, m, args, below, meth, c, Q, A⟩ := x
  obtain ⟨hx, hb, hown, hts, hK, hml, hA, hr, hlo, hR⟩ := hX
  intro H locs ls hP hD hS hls
  have hQ : Q = _ := hQ
  subst hQ
  have hPr : va_P (jD g) vwCl wr H := fun k q hk => by
    obtain ⟨i, -, hi⟩ := jsel_in hC hk
    exact hP i q hi
  have hDr : va_D A wr := hD.sub is hnd hC
  refine W.widen h1 h2 ?_
  exact W.zret (v := v) hx hb hr hn (fun t ht hW => ⟨⟨v, (wr, []), rfl, ⟨hp, rfl⟩, by rw [ht]; rw [List.append_nil]; exact hPr, by rw [List.append_nil]; exact hDr, hf⟩, hS.F ht⟩) hS.2.2 hdg
end JROWS2
theorem jMN.intro {g : jG} {y : MethodName} {cb : ByteArray} {maxL : Nat} {rt : FieldType} {nf nl mc ms : Nat} {as : List Value} {ws : va_W} {post : Int32 → va_W → Prop} (hy : plainName y.cls = true) (hlen : (lg_sl as).length ≤ maxL)
    (h : ∀ x : jC, JX g x y.cls cb maxL (some rt) { frames := nf, cells := mc, slots := ms, locals := nl } → JRN g x mc ms post ws → J g x maxL 0 0 0 (lv_args 0 as) [] ws) : jMN g y cb maxL rt nf nl mc ms as ws post := by
  intro sz
  refine Met.ofW (cc := cb) (maxL := maxL) (ret := some rt) hy rfl ?_
  intro p e s m args below meth c s₁ B hml hv
  obtain ⟨rfl, hsz, hP, hK, hD0⟩ := hv
  subst hsz
  have hts : ∀ w ∈ wsL_law, w.before as.toArray s = true := fun w hw => atoms_spec (ws := .code y cb maxL (some rt) :: wsL_law) B.pre w (List.mem_cons_of_mem _ hw)
  have hl := lv_entry as (n := maxL) hlen
  rw [lg_entry_eq]
  exact h (p, e, { frames := nf, cells := mc, slots := ms, locals := nl }, s, m, as.toArray, below, meth, c, MQ below (jQI g post (va_A ws s.heap.size) ws) as.toArray s mc ms (va_A ws s.heap.size), va_A ws s.heap.size) ⟨B.exec, B.bytes, findClass_of_methodNamed B.named, hts, hK, hml, fun q hq => Or.inr hq, B.returns, B.notSynchronized, rfl⟩ rfl s.heap [] _ hP hD0.self va_S.rf hl
theorem jMS.intro {g : jG} {y : MethodName} {cb : ByteArray} {maxL : Nat} {rt : FieldType} {nf nl : Nat} {as : List Value} {ws : va_W} {b L : Nat} {xs : Nat → Int32} {post : Int32 → va_W → Prop} (hy : plainName y.cls = true) (hlen : (lg_sl as).length ≤ maxL)
    (h : ∀ x : jC, JX g x y.cls cb maxL (some rt) { frames := nf, cells := 0, slots := 0, locals := nl } → JRI g x post ws → JS x b L xs → J g x maxL 0 0 0 (lv_args 0 as) [] ws) : jMS g y cb maxL rt nf nl as ws b L xs post := by
  intro sz
  refine Met.ofW (cc := cb) (maxL := maxL) (ret := some rt) hy rfl ?_
  intro p e s m args below meth c s₁ B hml hv
  obtain ⟨rfl, hsz, hP, hK, hD0, hX, hb, hA⟩ := hv
  subst hsz
  have hts : ∀ w ∈ wsL_law, w.before as.toArray s = true := fun w hw => atoms_spec (ws := .code y cb maxL (some rt) :: wsL_law) B.pre w (List.mem_cons_of_mem _ hw)
  have hl := lv_entry as (n := maxL) hlen
  rw [lg_entry_eq]
  exact h (p, e, { frames := nf, cells := 0, slots := 0, locals := nl }, s, m, as.toArray, below, meth, c, MQ below (jQI g post (va_A ws s.heap.size) ws) as.toArray s 0 0 (va_A ws s.heap.size), va_A ws s.heap.size) ⟨B.exec, B.bytes, findClass_of_methodNamed B.named, hts, hK, hml, fun q hq => Or.inr hq, B.returns, B.notSynchronized, rfl⟩ rfl ⟨hX, hb, hA⟩ s.heap [] _ hP hD0.self va_S.rf hl
theorem jblindS {g : jG} {as : List Value} {ws : va_W} {b L sz : Nat} {xs : Nat → Int32} : FrameBlind (jPs g as ws b L xs sz) := fun a U f mk q => by
  obtain ⟨q0, q1, qP, qK, qD, qX, qb, qA⟩ := q
  exact ⟨q0, q1, qP, jK.same (u := U) (U := U.calling f mk a) rfl qK, qD, va_X.moved (u := U) (U := U.calling f mk a) (Vm.Alike.refl _) qX, qb, qA⟩
section JCALLS2
variable {g : jG} {x : jC} {own : String} {cc : ByteArray} {nL : Nat} {ret : Option FieldType} {rm : Room} {pc cs sl : Nat} {lv : List (Nat × Value)} {st rest : List Value} {ws wc : va_W}
variable {y : MethodName} {cb : ByteArray} {maxL n index ci nf nl mc ms : Nat} {rt : FieldType} {C : String} {b : Nat} {fs : List Value} {As : List Value}

theorem j_callSG (hX : JX g x own cc nL ret rm) {post : Int32 → va_W → Prop} (hM : jMN g y cb maxL rt nf nl mc ms As wc post) (cw : CS own index y cb maxL (some rt) n) (hR1 : nf + 1 ≤ rm.frames) (hR2 : 8 + (maxL + 11) + nl ≤ rm.locals) (hm1 : cs + mc ≤ rm.cells) (hm2 : sl + ms ≤ rm.slots) (is : List Nat) (hnd : va_nd is = true) (hC : is.map (fun i => ws[i]?) = wc.map some) (hn : As.length = n) (hst : st = As.reverse ++ rest) (hs8 : (rest.map fun v => v.category).sum ≤ 8) (hdg : decode cc pc = .ok (.invokestatic index, 3)) (kk : ∀ (r : Int32) (w : va_W), post r w → J g x nL (cs + mc) (sl + ms) (pc + 3) lv (.int r :: rest) (jput ws is w)) : J g x nL cs sl pc lv st ws := by
  obtain ⟨p, e, R, s, m, args, below, meth, c, Q, A⟩ := x
  obtain ⟨hx, hb, hown, hts, hK, hml, hA, hr, hlo, hR⟩ := hX
  intro H locs ls hP hD hS hls
  subst hst
  subst hR
  have hPc : va_P (jD g) vwCl wc H := fun k q hk => by
    obtain ⟨i, -, hi⟩ := jsel_in hC hk
    exact hP i q hi
  have hDc : va_D (fun _ => True) wc := va_D_sel hD hnd hC
  have hFc := va_free (wc := wc) hD hS hA is hC
  have hpre : ∀ U : State, U.heap = H → s.WarmedH U.vm → jP g As wc H.size As.toArray U := fun U hU hW => ⟨rfl, by rw [hU], by rw [hU]; exact hPc, hK.moved hW, hDc⟩
  obtain ⟨hG, hd⟩ := cw
  refine va_calli (va_runS (As := As) (rest := rest) ⟨hx, hb, hml, hown, hts⟩ (hM H.size) (va_cwS n hts hG rfl rfl rfl hd ⟨hR1, hR2⟩) ⟨jblind, hpre⟩ rfl hn hls.1 rfl (lv_room hs8) hdg ⟨hm1, hm2⟩) hS (fun q _ h => hFc q h) hFc (fun r u t H1 locs1 ht hvm hw hB hz1 hk1 hS1 => ?_)
  obtain ⟨w, wn⟩ := u
  obtain ⟨hp, hnil⟩ := hw
  have hnil : wn = [] := hnil
  subst hnil
  obtain ⟨hP1, hD1, hf1⟩ := hB
  rw [ht] at hP1
  obtain ⟨p1, p2⟩ := jback (w := w) (wn := []) hP hD is hC hk1 hFc hP1 hD1 hf1
  rw [List.append_nil] at p1 p2
  exact kk r w hp H1 locs1 ls p1 p2 hS1 hls
theorem j_callSS (hX : JX g x own cc nL ret rm) {post : Int32 → va_W → Prop} {bS L : Nat} {xs : Nat → Int32} (hSc : JS x bS L xs) (hM : jMS g y cb maxL rt nf nl As wc bS L xs post) (cw : CS own index y cb maxL (some rt) n) (hR1 : nf + 1 ≤ rm.frames) (hR2 : 8 + (maxL + 11) + nl ≤ rm.locals) (hc1 : cs ≤ rm.cells) (hc2 : sl ≤ rm.slots) (is : List Nat) (hnd : va_nd is = true) (hC : is.map (fun i => ws[i]?) = wc.map some) (hn : As.length = n) (hst : st = As.reverse ++ rest) (hs8 : (rest.map fun v => v.category).sum ≤ 8) (hdg : decode cc pc = .ok (.invokestatic index, 3)) (kk : ∀ (r : Int32) (w : va_W), post r w → J g x nL cs sl (pc + 3) lv (.int r :: rest) (jput ws is w)) : J g x nL cs sl pc lv st ws := by
  obtain ⟨p, e, R, s, m, args, below, meth, c, Q, A⟩ := x
  obtain ⟨hx, hb, hown, hts, hK, hml, hA, hr, hlo, hR⟩ := hX
  intro H locs ls hP hD hS hls
  subst hst
  subst hR
  have hPc : va_P (jD g) vwCl wc H := fun k q hk => by
    obtain ⟨i, -, hi⟩ := jsel_in hC hk
    exact hP i q hi
  have hDc : va_D (fun _ => True) wc := va_D_sel hD hnd hC
  have hFc := va_free (wc := wc) hD hS hA is hC
  obtain ⟨s1, s2, s3⟩ := hSc
  have hbk : H[bS]? = s.heap[bS]? := hS.2.1 bS s2 s3
  have hbl : bS < H.size := Nat.lt_of_lt_of_le s2 hS.1
  have hbA : ¬ va_A wc H.size bS := fun q => s3 (hFc bS q)
  have hpre : ∀ U : State, U.heap = H → s.WarmedH U.vm → jPs g As wc bS L xs H.size As.toArray U := fun U hU hW => ⟨rfl, by rw [hU], by rw [hU]; exact hPc, hK.moved hW, hDc, by rw [hU]; exact va_X.moved hW.alike (va_X.kept s1 hbk), hbl, hbA⟩
  obtain ⟨hG, hd⟩ := cw
  refine va_calli (va_runS (As := As) (rest := rest) ⟨hx, hb, hml, hown, hts⟩ (hM H.size) (va_cwS n hts hG rfl rfl rfl hd ⟨hR1, hR2⟩) ⟨jblindS, hpre⟩ rfl hn hls.1 rfl (lv_room hs8) hdg ⟨hc1, hc2⟩) hS (fun q _ h => hFc q h) hFc (fun r u t H1 locs1 ht hvm hw hB hz1 hk1 hS1 => ?_)
  obtain ⟨w, wn⟩ := u
  obtain ⟨hp, hnil⟩ := hw
  have hnil : wn = [] := hnil
  subst hnil
  obtain ⟨hP1, hD1, hf1⟩ := hB
  rw [ht] at hP1
  obtain ⟨p1, p2⟩ := jback (w := w) (wn := []) hP hD is hC hk1 hFc hP1 hD1 hf1
  rw [List.append_nil] at p1 p2
  exact kk r w hp H1 locs1 ls p1 p2 hS1 hls
end JCALLS2
