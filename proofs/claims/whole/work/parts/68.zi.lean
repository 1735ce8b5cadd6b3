/-! the machine keeps the rules of the plain logic; what is shown by the rules is a contract -/
def zcode (en : zMt) : Cond := .code en.1 en.2.1 en.2.2.1 en.2.2.2.2.2
def zyo (j : Nat) : MethodName := match zmt[j]? with
  | some en => en.1
  | none => yX13_fault
def zwA : List Cond := zct.map (fun q => .constant RX13 q.1 q.2) ++ (zcl.map (fun q => .constantLong RX13 q.1 q.2) ++ zft.map (fun q => .fieldLink RX13 q.1 "LiquidTongueModel" (TX13 q.2).2.1 (TX13 q.2).2.2.1))
def zwB : List Cond := zlt.map (fun q => .methodLink RX13 q.1 (zyo q.2)) ++ (zmt.map zcode ++ (zmt.map (fun en => if en.2.2.2.2.1 = true then .static en.1 else .instanceMethod en.1) ++ (zmt.filter (fun en => en.2.2.2.2.1 == false)).map (fun en => .selects RX13 en.1 en.1)))
/-- the words of all methods of the reference -/
def zwSt : List Cond := [.methodLink RX13 401 yJ0_length_8abf5, .instanceMethod yJ0_length_8abf5, .selects RJ0 yJ0_length_8abf5 yJ0_length_8abf5, .initialized RJ0, .methodLink RX13 406 yJ0_charAt_5068e, .instanceMethod yJ0_charAt_5068e, .selects RJ0 yJ0_charAt_5068e yJ0_charAt_5068e] ++ (wsJ0_length_8abf5 ++ wsJ0_charAt_5068e)
def wRx : List Cond := .initialized RX13 :: (zwA ++ (zwB ++ (wsX130 ++ zwSt)))
def zws (en : zMt) : List Cond := zcode en :: wRx
theorem wRx_good : wRx.all (fun w => w.onTables && w.keeps) = true := by decide +kernel
theorem zmt_ok : ∀ en ∈ zmt, en.1.cls = RX13 ∧ (parseMethodDescriptor en.1.desc).map (fun d => d.parameters.length) = some en.2.2.2.1 ∧ en.2.2.1 ≤ 13 ∧ plainName en.1.cls = true := by decide +kernel
theorem TX13_own : ∀ k, k < 196 → (TX13 k).1 = "LiquidTongueModel" := by decide +kernel
theorem wRx_f {ix f : Nat} (h : (ix, f) ∈ zft) : (Cond.fieldLink RX13 ix "LiquidTongueModel" (TX13 f).2.1 (TX13 f).2.2.1) ∈ wRx := List.mem_cons_of_mem _ (List.mem_append_left _ (List.mem_append_right _ (List.mem_append_right _ (List.mem_map.mpr ⟨(ix, f), h, rfl⟩))))
theorem wRx_ci {ix : Nat} {v : Int32} (h : (ix, v) ∈ zct) : (Cond.constant RX13 ix v) ∈ wRx := List.mem_cons_of_mem _ (List.mem_append_left _ (List.mem_append_left _ (List.mem_map.mpr ⟨(ix, v), h, rfl⟩)))
theorem wRx_cl {ix : Nat} {v : Int64} (h : (ix, v) ∈ zcl) : (Cond.constantLong RX13 ix v) ∈ wRx := List.mem_cons_of_mem _ (List.mem_append_left _ (List.mem_append_right _ (List.mem_append_left _ (List.mem_map.mpr ⟨(ix, v), h, rfl⟩))))
theorem wRx_u : ∀ w ∈ wsX130, w ∈ wRx := fun w h => List.mem_cons_of_mem _ (List.mem_append_right _ (List.mem_append_right _ (List.mem_append_left _ h)))
theorem wRx_C : ∀ w ∈ zwSt, w ∈ wRx := fun w h => List.mem_cons_of_mem _ (List.mem_append_right _ (List.mem_append_right _ (List.mem_append_right _ h)))
theorem wRx_B {w : Cond} (h : w ∈ zwB) : w ∈ wRx := List.mem_cons_of_mem _ (List.mem_append_right _ (List.mem_append_left _ h))
theorem wRx_link {ix j : Nat} {en : zMt} (h : (ix, j) ∈ zlt) (he : zmt[j]? = some en) : (Cond.methodLink RX13 ix en.1) ∈ wRx := wRx_B (List.mem_append_left _ (List.mem_map.mpr ⟨(ix, j), h, by simp [zyo, he]⟩))
theorem wRx_code {j : Nat} {en : zMt} (he : zmt[j]? = some en) : zcode en ∈ wRx := wRx_B (List.mem_append_right _ (List.mem_append_left _ (List.mem_map.mpr ⟨en, List.mem_of_getElem? he, rfl⟩)))
theorem wRx_inst {j : Nat} {en : zMt} (he : zmt[j]? = some en) (hs : en.2.2.2.2.1 = false) : (Cond.instanceMethod en.1) ∈ wRx := wRx_B (List.mem_append_right _ (List.mem_append_right _ (List.mem_append_left _ (List.mem_map.mpr ⟨en, List.mem_of_getElem? he, by simp [hs]⟩))))
theorem wRx_stat {j : Nat} {en : zMt} (he : zmt[j]? = some en) (hs : en.2.2.2.2.1 = true) : (Cond.static en.1) ∈ wRx := wRx_B (List.mem_append_right _ (List.mem_append_right _ (List.mem_append_left _ (List.mem_map.mpr ⟨en, List.mem_of_getElem? he, by simp [hs]⟩))))
theorem wRx_sel {j : Nat} {en : zMt} (he : zmt[j]? = some en) (hs : en.2.2.2.2.1 = false) : (Cond.selects RX13 en.1 en.1) ∈ wRx := wRx_B (List.mem_append_right _ (List.mem_append_right _ (List.mem_append_right _ (List.mem_map.mpr ⟨en, List.mem_filter.mpr ⟨List.mem_of_getElem? he, by simp [hs]⟩, rfl⟩))))
theorem zgood_of {e0 : zMt} {ws : List Cond} (h : ∀ w ∈ ws, w ∈ wRx) : GoodIn (zws e0) ws := fun w hw => ⟨List.mem_cons_of_mem _ (h w hw), Or.inl (List.all_eq_true.mp wRx_good w (h w hw))⟩
theorem zws_in {j : Nat} {en : zMt} (he : zmt[j]? = some en) : ∀ w ∈ zws en, w ∈ wRx := fun w h => by
  rcases List.mem_cons.mp h with h | h
  · rw [h]; exact wRx_code he
  · exact h
theorem zgoodV {e0 en : zMt} {ix j : Nat} (h : (ix, j) ∈ zlt) (he : zmt[j]? = some en) (hs : en.2.2.2.2.1 = false) : GoodIn (zws e0) (wsV RX13 ix RX13 en.1 (zws en)) := zgood_of (fun w hw => by
  rcases List.mem_append.mp hw with h1 | h1
  · simp only [List.mem_cons, List.not_mem_nil, or_false] at h1
    rcases h1 with h1 | h1 | h1 | h1
    · rw [h1]; exact wRx_link h he
    · rw [h1]; exact wRx_inst he hs
    · rw [h1]; exact wRx_sel he hs
    · rw [h1]; exact List.mem_cons_self
  · exact zws_in he w h1)
theorem zgoodS {e0 en : zMt} {ix j : Nat} (h : (ix, j) ∈ zlt) (he : zmt[j]? = some en) (hs : en.2.2.2.2.1 = true) : GoodIn (zws e0) (wsS RX13 ix en.1 (zws en)) := zgood_of (fun w hw => by
  rcases List.mem_append.mp hw with h1 | h1
  · simp only [List.mem_cons, List.not_mem_nil, or_false] at h1
    rcases h1 with h1 | h1 | h1
    · rw [h1]; exact wRx_link h he
    · rw [h1]; exact wRx_stat he hs
    · rw [h1]; exact List.mem_cons_self
  · exact zws_in he w h1)
/-- room: d calls may stand within -/
def zrm (d : Nat) : Room := { frames := d + 6, cells := 0, slots := 0, locals := 40 * d + 240 }
/-- room for the methods of String -/
def zr5 : Room := { frames := 5, cells := 0, slots := 0, locals := 200 }
theorem zgoodL {e0 : zMt} : GoodIn (zws e0) (wsV RX13 401 RJ0 yJ0_length_8abf5 wsJ0_length_8abf5) := zgood_of (fun w hw => by
  rcases List.mem_append.mp hw with h1 | h1
  · simp only [List.mem_cons, List.not_mem_nil, or_false] at h1
    refine wRx_C w (List.mem_append_left _ ?_)
    rcases h1 with h1 | h1 | h1 | h1 <;> subst h1 <;> simp
  · exact wRx_C w (List.mem_append_right _ (List.mem_append_left _ h1)))
theorem zgoodC {e0 : zMt} : GoodIn (zws e0) (wsV RX13 406 RJ0 yJ0_charAt_5068e wsJ0_charAt_5068e) := zgood_of (fun w hw => by
  rcases List.mem_append.mp hw with h1 | h1
  · simp only [List.mem_cons, List.not_mem_nil, or_false] at h1
    refine wRx_C w (List.mem_append_left _ ?_)
    rcases h1 with h1 | h1 | h1 | h1 <;> subst h1 <;> simp
  · exact wRx_C w (List.mem_append_right _ (List.mem_append_right _ h1)))
section ZRUN
variable {p : Program} {l : Launch} {e : Env} {R : Room} {s : State} {m : MethodId} {args : Array Value} {below : List Frame} {meth : Method} {c : Code} {H : Heap} {locs : List Loc} {cells slots : Nat}
variable {y : MethodName} {bytes cc : ByteArray} {maxL nL mc ms n index : Nat} {ret : Option FieldType} {ws : List Cond} {rm : Room} {Pc : Array Value → State → Prop} {Qc : Array Value → State → Outcome → State → Prop} {free : Addr → Prop} {Ts : List Cond} {own C : String} {b : Addr} {As rest : List Value} {g : JFrame}
/-- a call with up to 16 words below its arguments -/
theorem za_runV (S : CallFix p m c cc nL s args Ts own) (hM : Met l y ws rm Pc Qc mc ms free) (cw : CallW R s args own C index y bytes maxL ret ws rm mc ms n) (hlo : 16 + (maxL + 11) + rm.locals ≤ R.locals) (hp : PreV s H C b Pc As)
    (hg : g.method = m) (hn : As.length = n) (hsize : g.locals.size = nL) (hstack : g.stack = As.reverse ++ .ref b :: rest) (hW : 2 * g.monitorRoom + (rest.map fun v => v.category).sum ≤ 16) (hdg : decode cc g.pc = .ok (.invokevirtual index, 3)) (hf : cells + mc ≤ R.cells ∧ slots + ms ≤ R.slots) :
    va_Run p l e R s m args below meth c H locs cells slots mc ms g rest (Qc (Value.ref b :: As).toArray) (free) := by
  obtain ⟨⟨hrc, hrs, hfr, -, hws, hcw, hcode, hini, hy, hlen, hl⟩, hin, hse⟩ := cw
  have hK : Back l R p e below s args y 3 16 (PreOf R mc ms Pc) (PostOf Qc mc ms free) := back_of (bytes := bytes) (maxL := maxL) (ret := ret) hM hp.1 hrc hrs hfr hlo hws hcw (fun a' U hW => word_at hW (Or.inl (by first | rfl | simp [Cond.onTables, Cond.keeps, Cond.steady])) hini)
  obtain ⟨hx, hb, hml, ho, -⟩ := S
  obtain ⟨-, ⟨cellB, hcB, hoB, hclB⟩, hPc⟩ := hp
  intro T hT X
  obtain ⟨v, vm₁, ⟨U', l2, c2, s2⟩, hW₁, X', ⟨g', mk, t, L, e1, e2, hq, h1, hL, h2, h3⟩, st⟩ := callV X hx (C := C) (bytes := bytes) (maxL := maxL) (ret := ret) ho hl hin hse hcode hy hK (by rw [hT]; exact hcB) hoB hclB hg (hsize.trans hml.symm) (argsL := As) (rest := rest) (fun sig h => hn.trans (hlen sig h)) hstack hW (by rw [hb]; exact hdg)
    (fun vm₁ hW₁ => ⟨hf.1, hf.2, hPc (T.setVm vm₁) hT hW₁⟩)
  dsimp only [Pt.U, Pt.locs, Pt.cells, Pt.slots] at X' e1 e2 h1 h2 h3 st
  subst h1; subst h2; subst h3
  exact ⟨v, (T.setVm vm₁).calling g' mk (Value.ref b :: As).toArray, t, U', L, hT, X', hL, e1, e2, hq, st⟩
theorem za_runS (S : CallFix p m c cc nL s args Ts own) (hM : Met l y ws rm Pc Qc mc ms free) (cw : CallB R s args own index y bytes maxL ret ws rm mc ms n ∧ (Cond.static y).before args s = true) (hlo : 16 + (maxL + 11) + rm.locals ≤ R.locals) (hp : PreS s H Pc As)
    (hg : g.method = m) (hn : As.length = n) (hsize : g.locals.size = nL) (hstack : g.stack = As.reverse ++ rest) (hW : 2 * g.monitorRoom + (rest.map fun v => v.category).sum ≤ 16) (hdg : decode cc g.pc = .ok (.invokestatic index, 3)) (hf : cells + mc ≤ R.cells ∧ slots + ms ≤ R.slots) :
    va_Run p l e R s m args below meth c H locs cells slots mc ms g rest (Qc As.toArray) (free) := by
  obtain ⟨⟨hrc, hrs, hfr, -, hws, hcw, hcode, hini, hy, hlen, hl⟩, hstt⟩ := cw
  have hK : Back l R p e below s args y 3 16 (PreOf R mc ms Pc) (PostOf Qc mc ms free) := back_of (bytes := bytes) (maxL := maxL) (ret := ret) hM hp.1 hrc hrs hfr hlo hws hcw (fun a' U hW => word_at hW (Or.inl (by first | rfl | simp [Cond.onTables, Cond.keeps, Cond.steady])) hini)
  obtain ⟨hx, hb, hml, ho, -⟩ := S
  intro T hT X
  obtain ⟨v, vm₁, ⟨U', l2, c2, s2⟩, hW₁, X', ⟨g', mk, t, L, e1, e2, hq, h1, hL, h2, h3⟩, st⟩ := callS X hx (bytes := bytes) (maxL := maxL) (ret := ret) ho hl hstt hini hcode hy hK hg (hsize.trans hml.symm) (argsL := As) (rest := rest) (fun sig h => hn.trans (hlen sig h)) hstack hW (by rw [hb]; exact hdg)
    (fun vm₁ hW₁ => ⟨hf.1, hf.2, hp.2 (T.setVm vm₁) hT hW₁⟩)
  dsimp only [Pt.U, Pt.locs, Pt.cells, Pt.slots] at X' e1 e2 h1 h2 h3 st
  subst h1; subst h2; subst h3
  exact ⟨v, (T.setVm vm₁).calling g' mk As.toArray, t, U', L, hT, X', hL, e1, e2, hq, st⟩
theorem za_room {m : MethodId} {pc : Nat} {ls : Array Slot} {st0 st : List Value} (h : (st.map fun v => v.category).sum ≤ 16) : 2 * (F0 m pc ls st0).monitorRoom + (st.map fun v => v.category).sum ≤ 16 := by
  have h0 : (F0 m pc ls st0).monitorRoom = 0 := rfl
  rw [h0]
  omega
end ZRUN
/-- addresses of the reference, and what is new -/
def zAd (h0 : Nat) (qs : List Nat) (sz : Nat) : Nat → Prop := fun q => q = h0 ∨ q ∈ qs ∨ sz ≤ q
theorem zAd_D {h0 : Nat} {qs : List Nat} {cs : List ClassId} {σ : zSt} {sz : Nat} {A : Nat → Prop} (hq : qs.length = 122) (h : va_D A (zwR h0 qs cs σ)) : va_D (zAd h0 qs sz) (zwR h0 qs cs σ) := by
  refine ⟨h.1, fun k q hk => ?_⟩
  cases k with
  | zero => cases hk; exact Or.inl rfl
  | succ i =>
    have hi : i < 122 := by
      have := (List.getElem?_eq_some_iff.mp hk).1
      simp [zwR] at this
      omega
    rw [zwR_at hi] at hk
    cases hk
    refine Or.inr (Or.inl ?_)
    show qs.getD i 0 ∈ qs
    rw [List.getD_eq_getElem?_getD, List.getElem?_eq_getElem (by omega)]
    exact List.getElem_mem _
def zPr (dC : Nat → ClassId) (dI : Nat → Nat → Nat) (ks : Nat → Nat) (sz0 : Nat) (h0 : Nat) (qs : List Nat) (cs : List ClassId) (sz : Nat) (av : List Value) (σ : zSt) : Array Value → State → Prop := va_Pc av (fun U => U.heap.size = sz ∧ va_P (dC, dI) vwCl (zwR h0 qs cs σ) U.heap ∧ va_K (dC, dI) vwCl (ztys cs) U ∧ va_D (fun q => sz0 ≤ q) (zwR h0 qs cs σ) ∧ sz0 ≤ sz ∧ zKe ks sz0 U)
theorem zPr_blind {dC : Nat → ClassId} {dI : Nat → Nat → Nat} {ks : Nat → Nat} {sz0 : Nat} {h0 : Nat} {qs : List Nat} {cs : List ClassId} {sz : Nat} {av : List Value} {σ : zSt} : FrameBlind (zPr dC dI ks sz0 h0 qs cs sz av σ) := fun a U g mk q => by
  obtain ⟨q0, q1, qP, qK, qD, qz, qE⟩ := q
  exact ⟨q0, q1, qP, va_K.moved (u := U) (U := U.calling g mk a) (Vm.Alike.refl U.vm) qK, qD, qz, qE.calling g mk a⟩
theorem zPr_at {dC : Nat → ClassId} {dI : Nat → Nat → Nat} {ks : Nat → Nat} {sz0 : Nat} {h0 : Nat} {qs : List Nat} {cs : List ClassId} {av : List Value} {σ : zSt} {A : Nat → Prop} {s U : State} {H : Heap} {locs : List Loc} (hP : va_P (dC, dI) vwCl (zwR h0 qs cs σ) H) (hK : va_K (dC, dI) vwCl (ztys cs) s) (hD : va_D A (zwR h0 qs cs σ)) (hS : va_S A s.heap H locs) (hA0 : ∀ q, A q → sz0 ≤ q) (hz : sz0 ≤ s.heap.size) (hE : zKe ks sz0 s) (hU : U.heap = H) (hW : s.WarmedH U.vm) : zPr dC dI ks sz0 h0 qs cs H.size av σ av.toArray U := ⟨rfl, by rw [hU], by rw [hU]; exact hP, va_K.moved hW.alike hK, hD.weaken (fun _ _ _ h => hA0 _ h), Nat.le_trans hz hS.1, hE.call hA0 hS hU hW⟩
def zBw (dC : Nat → ClassId) (dI : Nat → Nat → Nat) (h0 : Nat) (qs : List Nat) (cs : List ClassId) (A : Nat → Prop) (u : zSt) (t : State) : Prop := va_P (dC, dI) vwCl (zwR h0 qs cs u) t.heap ∧ va_K (dC, dI) vwCl (ztys cs) t ∧ va_D A (zwR h0 qs cs u)
def zQ (ret : Option FieldType) (post : Option Value → zSt → Prop) (B : zSt → State → Prop) (A : Nat → Prop) : Array Value → State → Outcome → State → Prop := if ret = none then va_Qv (fun u => post none u) B A else if ret = some .long then va_Ql (fun r u => post (some (.long r)) u) B A else va_Qi (fun r u => post (some (.int r)) u) B A
theorem zQ_v {ret : Option FieldType} {post : Option Value → zSt → Prop} {B : zSt → State → Prop} {A : Nat → Prop} (h : ret = none) : zQ ret post B A = va_Qv (fun u => post none u) B A := if_pos h
theorem zQ_l {ret : Option FieldType} {post : Option Value → zSt → Prop} {B : zSt → State → Prop} {A : Nat → Prop} (h : ret = some .long) : zQ ret post B A = va_Ql (fun r u => post (some (.long r)) u) B A := by subst h; rfl
theorem zQ_i {ret : Option FieldType} {post : Option Value → zSt → Prop} {B : zSt → State → Prop} {A : Nat → Prop} (h : ret = some .int ∨ ret = some .boolean) : zQ ret post B A = va_Qi (fun r u => post (some (.int r)) u) B A := by rcases h with h | h <;> subst h <;> rfl
/-- the contract of a method of the reference -/
def zMe (l : Launch) (dC : Nat → ClassId) (dI : Nat → Nat → Nat) (ks : Nat → Nat) (sz0 : Nat) (h0 : Nat) (qs : List Nat) (cs : List ClassId) (d : Nat) (en : zMt) (av : List Value) (σ : zSt) (post : Option Value → zSt → Prop) : Prop := ∀ sz, Met l en.1 (zws en) (zrm d) (zPr dC dI ks sz0 h0 qs cs sz av σ) (zQ en.2.2.2.2.2 post (zBw dC dI h0 qs cs (zAd h0 qs sz)) (zAd h0 qs sz)) 0 0 (zAd h0 qs sz)
/-- the methods of String on the constants -/
def zSo (l : Launch) (dC : Nat → ClassId) (dI : Nat → Nat → Nat) (ks : Nat → Nat) (sz0 : Nat) (h0 : Nat) (qs : List Nat) (cs : List ClassId) : Prop := (∀ (a : Nat) (v : Int32) (σ : zSt), zslen ks a = some v → ∀ sz, Met l yJ0_length_8abf5 wsJ0_length_8abf5 zr5 (zPr dC dI ks sz0 h0 qs cs sz [.ref a] σ) (va_Qi (fun r u => r = v ∧ u = σ) (zBw dC dI h0 qs cs (zAd h0 qs sz)) (zAd h0 qs sz)) 0 0 (zAd h0 qs sz)) ∧ (∀ (a : Nat) (j v : Int32) (σ : zSt), zschr ks a j = some v → ∀ sz, Met l yJ0_charAt_5068e wsJ0_charAt_5068e zr5 (zPr dC dI ks sz0 h0 qs cs sz [.ref a, .int j] σ) (va_Qi (fun r u => r = v ∧ u = σ) (zBw dC dI h0 qs cs (zAd h0 qs sz)) (zAd h0 qs sz)) 0 0 (zAd h0 qs sz))
theorem zfind {ks : Nat → Nat} {a : Nat} {q : Nat × String} (h : zKm.find? (fun q => ks q.1 == a) = some q) : q ∈ zKm ∧ ks q.1 = a := ⟨List.mem_of_find?_eq_some h, by simpa using List.find?_some h⟩
theorem zslen_q {ks : Nat → Nat} {a : Nat} {v : Int32} (h : zslen ks a = some v) : ∃ q ∈ zKm, ks q.1 = a ∧ v = nI q.2.toList.length := by
  unfold zslen at h
  cases hf : zKm.find? (fun q => ks q.1 == a) with
  | none => rw [hf] at h; cases h
  | some q =>
    rw [hf] at h
    obtain ⟨h1, h2⟩ := zfind hf
    exact ⟨q, h1, h2, by simpa using h.symm⟩
theorem zschr_q {ks : Nat → Nat} {a : Nat} {j v : Int32} (h : zschr ks a j = some v) : ∃ q ∈ zKm, ks q.1 = a ∧ 0 ≤ j.toInt ∧ j.toInt < q.2.toList.length ∧ v = zch q.2 j.toNatClampNeg := by
  unfold zschr at h
  cases hf : zKm.find? (fun q => ks q.1 == a) with
  | none => rw [hf] at h; cases h
  | some q =>
    rw [hf] at h
    obtain ⟨h1, h2⟩ := zfind hf
    dsimp only at h
    split at h
    next hc => exact ⟨q, h1, h2, hc.1, hc.2, by simpa using h.symm⟩
    next => cases h
theorem zty_at {cs : List ClassId} {i : Nat} (hc : cs.length = 122) (hi : i < 122) : (ztys cs)[i]? = some (cs.getD i 0, ztyf i) := by simp [ztys, hc, hi]
section ZXI
variable {p : Program} {l : Launch} {e : Env} {R : Room} {s : State} {m : MethodId} {args : Array Value} {below : List Frame} {meth : Method} {c : Code}
variable {cc : ByteArray} {nL d0 sz0 : Nat} {ret : Option FieldType} {dC : Nat → ClassId} {dI : Nat → Nat → Nat} {h0 : Nat} {qs : List Nat} {cs : List ClassId} {ks : Nat → Nat} {e0 : zMt} {kc : Nat → List Value → zSt → (Option Value → zSt → Prop) → Prop} {post : Option Value → zSt → Prop}
/-- what holds all through a method's body -/
def zCx (p : Program) (l : Launch) (R : Room) (s : State) (m : MethodId) (args : Array Value) (meth : Method) (c : Code) (cc : ByteArray) (nL d0 : Nat) (ret : Option FieldType) (dC : Nat → ClassId) (dI : Nat → Nat → Nat) (ks : Nat → Nat) (sz0 : Nat) (h0 : Nat) (qs : List Nat) (cs : List ClassId) (e0 : zMt) (kc : Nat → List Value → zSt → (Option Value → zSt → Prop) → Prop) : Prop :=
  CallFix p m c cc nL s args (zws e0) RX13 ∧ va_K (dC, dI) vwCl (ztys cs) s ∧ qs.length = 122 ∧ cs.length = 122 ∧ (∀ σ, va_D (zAd h0 qs s.heap.size) (zwR h0 qs cs σ)) ∧ zKe ks sz0 s ∧ meth.sig.returnType = ret ∧ meth.locks = false ∧ (d0 + 6 ≤ R.frames ∧ 40 * d0 + 240 ≤ R.locals ∧ (∀ q, zAd h0 qs s.heap.size q → sz0 ≤ q) ∧ sz0 ≤ s.heap.size ∧ zSo l dC dI ks sz0 h0 qs cs) ∧ ∀ (j : Nat) (av : List Value) (σ : zSt) (P : Option Value → zSt → Prop), kc j av σ P → ∃ d, d + 1 ≤ d0 ∧ ∀ en, zmt[j]? = some en → zMe l dC dI ks sz0 h0 qs cs d en av σ P
/-- the machine at a place of a method's body -/
def zX (p : Program) (l : Launch) (e : Env) (R : Room) (s : State) (m : MethodId) (args : Array Value) (below : List Frame) (meth : Method) (c : Code) (nL : Nat) (ret : Option FieldType) (dC : Nat → ClassId) (dI : Nat → Nat → Nat) (h0 : Nat) (qs : List Nat) (cs : List ClassId) (post : Option Value → zSt → Prop) (pc : Nat) (lv : zLv) (st : List Value) (σ : zSt) : Prop :=
  ∀ (ls : Array Slot) (H : Heap) (locs : List Loc), zhas ls nL lv → va_P (dC, dI) vwCl (zwR h0 qs cs σ) H → va_S (zAd h0 qs s.heap.size) s.heap H locs → W p l e R s m args below meth c H locs 0 0 (MQ below (zQ ret post (zBw dC dI h0 qs cs (zAd h0 qs s.heap.size)) (zAd h0 qs s.heap.size)) args s 0 0 (zAd h0 qs s.heap.size)) (F0 m pc ls st)
theorem zi_iconst (C : zCx p l R s m args meth c cc nL d0 ret dC dI ks sz0 h0 qs cs e0 kc) : zr_iconst cc nL ret h0 qs ks kc post (zX p l e R s m args below meth c nL ret dC dI h0 qs cs post) := fun pc lv st σ n v d hv k ls H locs hl hP hS => lv_iconst C.1.1 C.1.2.1 d hv (k ls H locs hl hP hS)
theorem zi_bipush (C : zCx p l R s m args meth c cc nL d0 ret dC dI ks sz0 h0 qs cs e0 kc) : zr_bipush cc nL ret h0 qs ks kc post (zX p l e R s m args below meth c nL ret dC dI h0 qs cs post) := fun pc lv st σ n v d hv k ls H locs hl hP hS => lv_bipush C.1.1 C.1.2.1 d hv (k ls H locs hl hP hS)
theorem zi_sipush (C : zCx p l R s m args meth c cc nL d0 ret dC dI ks sz0 h0 qs cs e0 kc) : zr_sipush cc nL ret h0 qs ks kc post (zX p l e R s m args below meth c nL ret dC dI h0 qs cs post) := fun pc lv st σ n v d hv k ls H locs hl hP hS => lv_sipush C.1.1 C.1.2.1 d hv (k ls H locs hl hP hS)
theorem zi_lconst (C : zCx p l R s m args meth c cc nL d0 ret dC dI ks sz0 h0 qs cs e0 kc) : zr_lconst cc nL ret h0 qs ks kc post (zX p l e R s m args below meth c nL ret dC dI h0 qs cs post) := fun pc lv st σ n v d hv k ls H locs hl hP hS => lv_lconst C.1.1 C.1.2.1 d hv (k ls H locs hl hP hS)
theorem zi_ldc (C : zCx p l R s m args meth c cc nL d0 ret dC dI ks sz0 h0 qs cs e0 kc) : zr_ldc cc nL ret h0 qs ks kc post (zX p l e R s m args below meth c nL ret dC dI h0 qs cs post) := fun pc lv st σ ix v d hm k ls H locs hl hP hS => lv_ldc C.1.1 C.1.2.1 C.1.2.2.2.1 (C.1.2.2.2.2 _ (List.mem_cons_of_mem _ (wRx_ci hm))) d (k ls H locs hl hP hS)
theorem zi_ldc2 (C : zCx p l R s m args meth c cc nL d0 ret dC dI ks sz0 h0 qs cs e0 kc) : zr_ldc2 cc nL ret h0 qs ks kc post (zX p l e R s m args below meth c nL ret dC dI h0 qs cs post) := fun pc lv st σ ix v d hm k ls H locs hl hP hS => lv_ldc2 C.1.1 C.1.2.1 C.1.2.2.2.1 (C.1.2.2.2.2 _ (List.mem_cons_of_mem _ (wRx_cl hm))) d (k ls H locs hl hP hS)
theorem zi_ldcS (C : zCx p l R s m args meth c cc nL d0 ret dC dI ks sz0 h0 qs cs e0 kc) : zr_ldcS cc nL ret h0 qs ks kc post (zX p l e R s m args below meth c nL ret dC dI h0 qs cs post) := fun pc lv st σ ix tx d hm k ls H locs hl hP hS => za_ldcwS (tx := tx) C.1.1 C.1.2.1 C.1.2.2.2.1 (C.2.2.2.2.2.1.1 (ix, tx) hm) d (k ls H locs hl hP hS)
theorem zi_iload (C : zCx p l R s m args meth c cc nL d0 ret dC dI ks sz0 h0 qs cs e0 kc) : zr_iload cc nL ret h0 qs ks kc post (zX p l e R s m args below meth c nL ret dC dI h0 qs cs post) := fun pc lv st σ i x d h1 k ls H locs hl hP hS => lv_iload C.1.1 C.1.2.1 d (hl.2.2 i _ h1) (k ls H locs hl hP hS)
theorem zi_iload_n (C : zCx p l R s m args meth c cc nL d0 ret dC dI ks sz0 h0 qs cs e0 kc) : zr_iload_n cc nL ret h0 qs ks kc post (zX p l e R s m args below meth c nL ret dC dI h0 qs cs post) := fun pc lv st σ n i x d hi h1 k ls H locs hl hP hS => lv_iload_n C.1.1 C.1.2.1 d hi (hl.2.2 i _ h1) (k ls H locs hl hP hS)
theorem zi_lload (C : zCx p l R s m args meth c cc nL d0 ret dC dI ks sz0 h0 qs cs e0 kc) : zr_lload cc nL ret h0 qs ks kc post (zX p l e R s m args below meth c nL ret dC dI h0 qs cs post) := fun pc lv st σ i x d h1 k ls H locs hl hP hS => lv_lload C.1.1 C.1.2.1 d (hl.2.2 i _ h1) (k ls H locs hl hP hS)
theorem zi_lload_n (C : zCx p l R s m args meth c cc nL d0 ret dC dI ks sz0 h0 qs cs e0 kc) : zr_lload_n cc nL ret h0 qs ks kc post (zX p l e R s m args below meth c nL ret dC dI h0 qs cs post) := fun pc lv st σ n i x d hi h1 k ls H locs hl hP hS => lv_lload_n C.1.1 C.1.2.1 d hi (hl.2.2 i _ h1) (k ls H locs hl hP hS)
theorem zi_aload (C : zCx p l R s m args meth c cc nL d0 ret dC dI ks sz0 h0 qs cs e0 kc) : zr_aload cc nL ret h0 qs ks kc post (zX p l e R s m args below meth c nL ret dC dI h0 qs cs post) := fun pc lv st σ i x d h1 k ls H locs hl hP hS => lv_aload C.1.1 C.1.2.1 d (hl.2.2 i _ h1) (k ls H locs hl hP hS)
theorem zi_aload_n (C : zCx p l R s m args meth c cc nL d0 ret dC dI ks sz0 h0 qs cs e0 kc) : zr_aload_n cc nL ret h0 qs ks kc post (zX p l e R s m args below meth c nL ret dC dI h0 qs cs post) := fun pc lv st σ n i x d hi h1 k ls H locs hl hP hS => lv_aload_n C.1.1 C.1.2.1 d hi (hl.2.2 i _ h1) (k ls H locs hl hP hS)
theorem zi_istore (C : zCx p l R s m args meth c cc nL d0 ret dC dI ks sz0 h0 qs cs e0 kc) : zr_istore cc nL ret h0 qs ks kc post (zX p l e R s m args below meth c nL ret dC dI h0 qs cs post) := fun pc lv st σ i x d hn ho k ls H locs hl hP hS => lv_istore C.1.1 C.1.2.1 d hl.to hn rfl (fun ls1 h1 => k ls1 H locs (zhas.st1 ho h1) hP hS)
theorem zi_istore_n (C : zCx p l R s m args meth c cc nL d0 ret dC dI ks sz0 h0 qs cs e0 kc) : zr_istore_n cc nL ret h0 qs ks kc post (zX p l e R s m args below meth c nL ret dC dI h0 qs cs post) := fun pc lv st σ n i x d hi hn ho k ls H locs hl hP hS => lv_istore_n C.1.1 C.1.2.1 d hi hl.to hn rfl (fun ls1 h1 => k ls1 H locs (zhas.st1 ho h1) hP hS)
theorem zi_astore (C : zCx p l R s m args meth c cc nL d0 ret dC dI ks sz0 h0 qs cs e0 kc) : zr_astore cc nL ret h0 qs ks kc post (zX p l e R s m args below meth c nL ret dC dI h0 qs cs post) := fun pc lv st σ i x d hn ho k ls H locs hl hP hS => lv_astore C.1.1 C.1.2.1 d hl.to hn rfl (fun ls1 h1 => k ls1 H locs (zhas.st1 ho h1) hP hS)
theorem zi_astore_n (C : zCx p l R s m args meth c cc nL d0 ret dC dI ks sz0 h0 qs cs e0 kc) : zr_astore_n cc nL ret h0 qs ks kc post (zX p l e R s m args below meth c nL ret dC dI h0 qs cs post) := fun pc lv st σ n i x d hi hn ho k ls H locs hl hP hS => lv_astore_n C.1.1 C.1.2.1 d hi hl.to hn rfl (fun ls1 h1 => k ls1 H locs (zhas.st1 ho h1) hP hS)
theorem zi_lstore (C : zCx p l R s m args meth c cc nL d0 ret dC dI ks sz0 h0 qs cs e0 kc) : zr_lstore cc nL ret h0 qs ks kc post (zX p l e R s m args below meth c nL ret dC dI h0 qs cs post) := fun pc lv st σ i x d hn ho k ls H locs hl hP hS => lv_lstore C.1.1 C.1.2.1 d hl.to hn rfl (fun ls1 h1 => k ls1 H locs (zhas.st2 ho h1) hP hS)
theorem zi_lstore_n (C : zCx p l R s m args meth c cc nL d0 ret dC dI ks sz0 h0 qs cs e0 kc) : zr_lstore_n cc nL ret h0 qs ks kc post (zX p l e R s m args below meth c nL ret dC dI h0 qs cs post) := fun pc lv st σ n i x d hi hn ho k ls H locs hl hP hS => lv_lstore_n C.1.1 C.1.2.1 d hi hl.to hn rfl (fun ls1 h1 => k ls1 H locs (zhas.st2 ho h1) hP hS)
theorem zi_iinc (C : zCx p l R s m args meth c cc nL d0 ret dC dI ks sz0 h0 qs cs e0 kc) : zr_iinc cc nL ret h0 qs ks kc post (zX p l e R s m args below meth c nL ret dC dI h0 qs cs post) := fun pc lv st σ i n x v d h1 hv hn ho k ls H locs hl hP hS => by
  obtain ⟨n9, h9⟩ := List.getElem?_of_mem (zlist_mem.mpr h1)
  exact lv_iinc C.1.1 C.1.2.1 d hl.to h9 hv hn rfl (fun ls1 h2 => k ls1 H locs (zhas.st1 ho h2) hP hS)
theorem zi_weak (C : zCx p l R s m args meth c cc nL d0 ret dC dI ks sz0 h0 qs cs e0 kc) : zr_weak cc nL ret h0 qs ks kc post (zX p l e R s m args below meth c nL ret dC dI h0 qs cs post) := fun pc lv st σ lw hw k ls H locs hl hP hS => k ls H locs ⟨hl.1, hl.2.1, fun i v h => hl.2.2 i v (zle_at _ _ hw i v h)⟩ hP hS
theorem zi_iadd (C : zCx p l R s m args meth c cc nL d0 ret dC dI ks sz0 h0 qs cs e0 kc) : zr_iadd cc nL ret h0 qs ks kc post (zX p l e R s m args below meth c nL ret dC dI h0 qs cs post) := fun pc lv st σ x y d k ls H locs hl hP hS => lv_iadd C.1.1 C.1.2.1 d (k ls H locs hl hP hS)
theorem zi_isub (C : zCx p l R s m args meth c cc nL d0 ret dC dI ks sz0 h0 qs cs e0 kc) : zr_isub cc nL ret h0 qs ks kc post (zX p l e R s m args below meth c nL ret dC dI h0 qs cs post) := fun pc lv st σ x y d k ls H locs hl hP hS => lv_isub C.1.1 C.1.2.1 d (k ls H locs hl hP hS)
theorem zi_imul (C : zCx p l R s m args meth c cc nL d0 ret dC dI ks sz0 h0 qs cs e0 kc) : zr_imul cc nL ret h0 qs ks kc post (zX p l e R s m args below meth c nL ret dC dI h0 qs cs post) := fun pc lv st σ x y d k ls H locs hl hP hS => lv_imul C.1.1 C.1.2.1 d (k ls H locs hl hP hS)
theorem zi_ishr (C : zCx p l R s m args meth c cc nL d0 ret dC dI ks sz0 h0 qs cs e0 kc) : zr_ishr cc nL ret h0 qs ks kc post (zX p l e R s m args below meth c nL ret dC dI h0 qs cs post) := fun pc lv st σ x y d k ls H locs hl hP hS => lv_ishr C.1.1 C.1.2.1 d (k ls H locs hl hP hS)
theorem zi_iand (C : zCx p l R s m args meth c cc nL d0 ret dC dI ks sz0 h0 qs cs e0 kc) : zr_iand cc nL ret h0 qs ks kc post (zX p l e R s m args below meth c nL ret dC dI h0 qs cs post) := fun pc lv st σ x y d k ls H locs hl hP hS => lv_iand C.1.1 C.1.2.1 d (k ls H locs hl hP hS)
theorem zi_ixor (C : zCx p l R s m args meth c cc nL d0 ret dC dI ks sz0 h0 qs cs e0 kc) : zr_ixor cc nL ret h0 qs ks kc post (zX p l e R s m args below meth c nL ret dC dI h0 qs cs post) := fun pc lv st σ x y d k ls H locs hl hP hS => lv_ixor C.1.1 C.1.2.1 d (k ls H locs hl hP hS)
theorem zi_irem (C : zCx p l R s m args meth c cc nL d0 ret dC dI ks sz0 h0 qs cs e0 kc) : zr_irem cc nL ret h0 qs ks kc post (zX p l e R s m args below meth c nL ret dC dI h0 qs cs post) := fun pc lv st σ x y d hne k ls H locs hl hP hS => lv_irem C.1.1 C.1.2.1 d hne (k ls H locs hl hP hS)
theorem zi_ineg (C : zCx p l R s m args meth c cc nL d0 ret dC dI ks sz0 h0 qs cs e0 kc) : zr_ineg cc nL ret h0 qs ks kc post (zX p l e R s m args below meth c nL ret dC dI h0 qs cs post) := fun pc lv st σ x d k ls H locs hl hP hS => lv_ineg C.1.1 C.1.2.1 d (k ls H locs hl hP hS)
theorem zi_ladd (C : zCx p l R s m args meth c cc nL d0 ret dC dI ks sz0 h0 qs cs e0 kc) : zr_ladd cc nL ret h0 qs ks kc post (zX p l e R s m args below meth c nL ret dC dI h0 qs cs post) := fun pc lv st σ x y d k ls H locs hl hP hS => lv_ladd C.1.1 C.1.2.1 d (k ls H locs hl hP hS)
theorem zi_lsub (C : zCx p l R s m args meth c cc nL d0 ret dC dI ks sz0 h0 qs cs e0 kc) : zr_lsub cc nL ret h0 qs ks kc post (zX p l e R s m args below meth c nL ret dC dI h0 qs cs post) := fun pc lv st σ x y d k ls H locs hl hP hS => lv_lsub C.1.1 C.1.2.1 d (k ls H locs hl hP hS)
theorem zi_lmul (C : zCx p l R s m args meth c cc nL d0 ret dC dI ks sz0 h0 qs cs e0 kc) : zr_lmul cc nL ret h0 qs ks kc post (zX p l e R s m args below meth c nL ret dC dI h0 qs cs post) := fun pc lv st σ x y d k ls H locs hl hP hS => lv_lmul C.1.1 C.1.2.1 d (k ls H locs hl hP hS)
theorem zi_ldiv (C : zCx p l R s m args meth c cc nL d0 ret dC dI ks sz0 h0 qs cs e0 kc) : zr_ldiv cc nL ret h0 qs ks kc post (zX p l e R s m args below meth c nL ret dC dI h0 qs cs post) := fun pc lv st σ x y d hne k ls H locs hl hP hS => lv_ldiv C.1.1 C.1.2.1 d hne (k ls H locs hl hP hS)
theorem zi_lrem (C : zCx p l R s m args meth c cc nL d0 ret dC dI ks sz0 h0 qs cs e0 kc) : zr_lrem cc nL ret h0 qs ks kc post (zX p l e R s m args below meth c nL ret dC dI h0 qs cs post) := fun pc lv st σ x y d hne k ls H locs hl hP hS => lv_lrem C.1.1 C.1.2.1 d hne (k ls H locs hl hP hS)
theorem zi_lneg (C : zCx p l R s m args meth c cc nL d0 ret dC dI ks sz0 h0 qs cs e0 kc) : zr_lneg cc nL ret h0 qs ks kc post (zX p l e R s m args below meth c nL ret dC dI h0 qs cs post) := fun pc lv st σ x d k ls H locs hl hP hS => lv_lneg C.1.1 C.1.2.1 d (k ls H locs hl hP hS)
theorem zi_i2l (C : zCx p l R s m args meth c cc nL d0 ret dC dI ks sz0 h0 qs cs e0 kc) : zr_i2l cc nL ret h0 qs ks kc post (zX p l e R s m args below meth c nL ret dC dI h0 qs cs post) := fun pc lv st σ x d k ls H locs hl hP hS => lv_i2l C.1.1 C.1.2.1 d rfl (k ls H locs hl hP hS)
theorem zi_l2i (C : zCx p l R s m args meth c cc nL d0 ret dC dI ks sz0 h0 qs cs e0 kc) : zr_l2i cc nL ret h0 qs ks kc post (zX p l e R s m args below meth c nL ret dC dI h0 qs cs post) := fun pc lv st σ x d k ls H locs hl hP hS => lv_l2i C.1.1 C.1.2.1 d rfl (k ls H locs hl hP hS)
theorem zi_i2b (C : zCx p l R s m args meth c cc nL d0 ret dC dI ks sz0 h0 qs cs e0 kc) : zr_i2b cc nL ret h0 qs ks kc post (zX p l e R s m args below meth c nL ret dC dI h0 qs cs post) := fun pc lv st σ x d k ls H locs hl hP hS => lv_i2b C.1.1 C.1.2.1 d rfl (k ls H locs hl hP hS)
theorem zi_lcmp (C : zCx p l R s m args meth c cc nL d0 ret dC dI ks sz0 h0 qs cs e0 kc) : zr_lcmp cc nL ret h0 qs ks kc post (zX p l e R s m args below meth c nL ret dC dI h0 qs cs post) := fun pc lv st σ x y d k ls H locs hl hP hS => W.lcmp C.1.1 C.1.2.1 d (k ls H locs hl hP hS)
theorem zi_if_eq (C : zCx p l R s m args meth c cc nL d0 ret dC dI ks sz0 h0 qs cs e0 kc) : zr_if_eq cc nL ret h0 qs ks kc post (zX p l e R s m args below meth c nL ret dC dI h0 qs cs post) := fun pc lv st σ x off tgt d ht kt kf ls H locs hl hP hS => lv_if_eq C.1.1 C.1.2.1 d ht (fun h9 => kt h9 ls H locs hl hP hS) (fun h9 => kf h9 ls H locs hl hP hS)
theorem zi_if_ne (C : zCx p l R s m args meth c cc nL d0 ret dC dI ks sz0 h0 qs cs e0 kc) : zr_if_ne cc nL ret h0 qs ks kc post (zX p l e R s m args below meth c nL ret dC dI h0 qs cs post) := fun pc lv st σ x off tgt d ht kt kf ls H locs hl hP hS => lv_if_ne C.1.1 C.1.2.1 d ht (fun h9 => kt h9 ls H locs hl hP hS) (fun h9 => kf h9 ls H locs hl hP hS)
theorem zi_if_lt (C : zCx p l R s m args meth c cc nL d0 ret dC dI ks sz0 h0 qs cs e0 kc) : zr_if_lt cc nL ret h0 qs ks kc post (zX p l e R s m args below meth c nL ret dC dI h0 qs cs post) := fun pc lv st σ x off tgt d ht kt kf ls H locs hl hP hS => lv_if_lt C.1.1 C.1.2.1 d ht (fun h9 => kt h9 ls H locs hl hP hS) (fun h9 => kf h9 ls H locs hl hP hS)
theorem zi_if_ge (C : zCx p l R s m args meth c cc nL d0 ret dC dI ks sz0 h0 qs cs e0 kc) : zr_if_ge cc nL ret h0 qs ks kc post (zX p l e R s m args below meth c nL ret dC dI h0 qs cs post) := fun pc lv st σ x off tgt d ht kt kf ls H locs hl hP hS => lv_if_ge C.1.1 C.1.2.1 d ht (fun h9 => kt h9 ls H locs hl hP hS) (fun h9 => kf h9 ls H locs hl hP hS)
theorem zi_if_gt (C : zCx p l R s m args meth c cc nL d0 ret dC dI ks sz0 h0 qs cs e0 kc) : zr_if_gt cc nL ret h0 qs ks kc post (zX p l e R s m args below meth c nL ret dC dI h0 qs cs post) := fun pc lv st σ x off tgt d ht kt kf ls H locs hl hP hS => lv_if_gt C.1.1 C.1.2.1 d ht (fun h9 => kt h9 ls H locs hl hP hS) (fun h9 => kf h9 ls H locs hl hP hS)
theorem zi_if_le (C : zCx p l R s m args meth c cc nL d0 ret dC dI ks sz0 h0 qs cs e0 kc) : zr_if_le cc nL ret h0 qs ks kc post (zX p l e R s m args below meth c nL ret dC dI h0 qs cs post) := fun pc lv st σ x off tgt d ht kt kf ls H locs hl hP hS => lv_if_le C.1.1 C.1.2.1 d ht (fun h9 => kt h9 ls H locs hl hP hS) (fun h9 => kf h9 ls H locs hl hP hS)
theorem zi_icmp_eq (C : zCx p l R s m args meth c cc nL d0 ret dC dI ks sz0 h0 qs cs e0 kc) : zr_icmp_eq cc nL ret h0 qs ks kc post (zX p l e R s m args below meth c nL ret dC dI h0 qs cs post) := fun pc lv st σ x y off tgt d ht kt kf ls H locs hl hP hS => lv_icmp_eq C.1.1 C.1.2.1 d ht (fun h9 => kt h9 ls H locs hl hP hS) (fun h9 => kf h9 ls H locs hl hP hS)
theorem zi_icmp_ne (C : zCx p l R s m args meth c cc nL d0 ret dC dI ks sz0 h0 qs cs e0 kc) : zr_icmp_ne cc nL ret h0 qs ks kc post (zX p l e R s m args below meth c nL ret dC dI h0 qs cs post) := fun pc lv st σ x y off tgt d ht kt kf ls H locs hl hP hS => lv_icmp_ne C.1.1 C.1.2.1 d ht (fun h9 => kt h9 ls H locs hl hP hS) (fun h9 => kf h9 ls H locs hl hP hS)
theorem zi_icmp_lt (C : zCx p l R s m args meth c cc nL d0 ret dC dI ks sz0 h0 qs cs e0 kc) : zr_icmp_lt cc nL ret h0 qs ks kc post (zX p l e R s m args below meth c nL ret dC dI h0 qs cs post) := fun pc lv st σ x y off tgt d ht kt kf ls H locs hl hP hS => lv_icmp_lt C.1.1 C.1.2.1 d ht (fun h9 => kt h9 ls H locs hl hP hS) (fun h9 => kf h9 ls H locs hl hP hS)
theorem zi_icmp_ge (C : zCx p l R s m args meth c cc nL d0 ret dC dI ks sz0 h0 qs cs e0 kc) : zr_icmp_ge cc nL ret h0 qs ks kc post (zX p l e R s m args below meth c nL ret dC dI h0 qs cs post) := fun pc lv st σ x y off tgt d ht kt kf ls H locs hl hP hS => lv_icmp_ge C.1.1 C.1.2.1 d ht (fun h9 => kt h9 ls H locs hl hP hS) (fun h9 => kf h9 ls H locs hl hP hS)
theorem zi_icmp_gt (C : zCx p l R s m args meth c cc nL d0 ret dC dI ks sz0 h0 qs cs e0 kc) : zr_icmp_gt cc nL ret h0 qs ks kc post (zX p l e R s m args below meth c nL ret dC dI h0 qs cs post) := fun pc lv st σ x y off tgt d ht kt kf ls H locs hl hP hS => lv_icmp_gt C.1.1 C.1.2.1 d ht (fun h9 => kt h9 ls H locs hl hP hS) (fun h9 => kf h9 ls H locs hl hP hS)
theorem zi_icmp_le (C : zCx p l R s m args meth c cc nL d0 ret dC dI ks sz0 h0 qs cs e0 kc) : zr_icmp_le cc nL ret h0 qs ks kc post (zX p l e R s m args below meth c nL ret dC dI h0 qs cs post) := fun pc lv st σ x y off tgt d ht kt kf ls H locs hl hP hS => lv_icmp_le C.1.1 C.1.2.1 d ht (fun h9 => kt h9 ls H locs hl hP hS) (fun h9 => kf h9 ls H locs hl hP hS)
theorem zi_goto (C : zCx p l R s m args meth c cc nL d0 ret dC dI ks sz0 h0 qs cs e0 kc) : zr_goto cc nL ret h0 qs ks kc post (zX p l e R s m args below meth c nL ret dC dI h0 qs cs post) := fun pc lv st σ off tgt d ht k ls H locs hl hP hS => lv_goto C.1.1 C.1.2.1 d ht (k ls H locs hl hP hS)
theorem zi_tableIn (C : zCx p l R s m args meth c cc nL d0 ret dC dI ks sz0 h0 qs cs e0 kc) : zr_tableIn cc nL ret h0 qs ks kc post (zX p l e R s m args below meth c nL ret dC dI h0 qs cs post) := fun pc lv st σ dflt lo hi offs len x off tgt d h1 h2 ho ht k ls H locs hl hP hS => lv_tableIn C.1.1 C.1.2.1 d h1 h2 ho ht (k ls H locs hl hP hS)
theorem zi_tableOut (C : zCx p l R s m args meth c cc nL d0 ret dC dI ks sz0 h0 qs cs e0 kc) : zr_tableOut cc nL ret h0 qs ks kc post (zX p l e R s m args below meth c nL ret dC dI h0 qs cs post) := fun pc lv st σ dflt lo hi offs len x tgt d hx ht k ls H locs hl hP hS => lv_tableOut C.1.1 C.1.2.1 d hx ht (k ls H locs hl hP hS)
theorem zi_lookup (C : zCx p l R s m args meth c cc nL d0 ret dC dI ks sz0 h0 qs cs e0 kc) : zr_lookup cc nL ret h0 qs ks kc post (zX p l e R s m args below meth c nL ret dC dI h0 qs cs post) := fun pc lv st σ dflt ps len x off tgt d hp ho ht k ls H locs hl hP hS => lv_lookup C.1.1 C.1.2.1 d hp ho ht (k ls H locs hl hP hS)
theorem zi_dup (C : zCx p l R s m args meth c cc nL d0 ret dC dI ks sz0 h0 qs cs e0 kc) : zr_dup cc nL ret h0 qs ks kc post (zX p l e R s m args below meth c nL ret dC dI h0 qs cs post) := fun pc lv st σ va d hva k ls H locs hl hP hS => lv_dup C.1.1 C.1.2.1 d hva (k ls H locs hl hP hS)
theorem zi_dup2 (C : zCx p l R s m args meth c cc nL d0 ret dC dI ks sz0 h0 qs cs e0 kc) : zr_dup2 cc nL ret h0 qs ks kc post (zX p l e R s m args below meth c nL ret dC dI h0 qs cs post) := fun pc lv st σ va vb d hva hvb k ls H locs hl hP hS => lv_dup2_11 C.1.1 C.1.2.1 d hva hvb (k ls H locs hl hP hS)
theorem zi_pop (C : zCx p l R s m args meth c cc nL d0 ret dC dI ks sz0 h0 qs cs e0 kc) : zr_pop cc nL ret h0 qs ks kc post (zX p l e R s m args below meth c nL ret dC dI h0 qs cs post) := fun pc lv st σ va d hva k ls H locs hl hP hS => lv_pop C.1.1 C.1.2.1 d hva (k ls H locs hl hP hS)
theorem zi_getI (C : zCx p l R s m args meth c cc nL d0 ret dC dI ks sz0 h0 qs cs e0 kc) : zr_getI cc nL ret h0 qs ks kc post (zX p l e R s m args below meth c nL ret dC dI h0 qs cs post) := fun pc lv st σ ix f d hm hf hk k ls H locs hl hP hS => va_get (D := (dC, dI)) (ci := 15) (C := RX13) (T := TX13) (N := 196) (v := .int (σ.1 f)) C.1.1 C.1.2.1 C.1.2.2.2.2 (fun w h => List.mem_cons_of_mem _ (wRx_u w h)) C.1.2.2.2.1 C.2.1 hP 0 rfl rfl f hf (C.1.2.2.2.2 _ (List.mem_cons_of_mem _ (wRx_f hm))) (fun x h => by rw [TX13_own f hf] at h; exact h) (by rw [zfl_at hf]; simp [zval, hk]) d (k ls H locs hl hP hS)
theorem zi_getL (C : zCx p l R s m args meth c cc nL d0 ret dC dI ks sz0 h0 qs cs e0 kc) : zr_getL cc nL ret h0 qs ks kc post (zX p l e R s m args below meth c nL ret dC dI h0 qs cs post) := fun pc lv st σ ix f d hm hf hk k ls H locs hl hP hS => va_get (D := (dC, dI)) (ci := 15) (C := RX13) (T := TX13) (N := 196) (v := .long (σ.2.1 f)) C.1.1 C.1.2.1 C.1.2.2.2.2 (fun w h => List.mem_cons_of_mem _ (wRx_u w h)) C.1.2.2.2.1 C.2.1 hP 0 rfl rfl f hf (C.1.2.2.2.2 _ (List.mem_cons_of_mem _ (wRx_f hm))) (fun x h => by rw [TX13_own f hf] at h; exact h) (by rw [zfl_at hf]; simp [zval, hk]) d (k ls H locs hl hP hS)
theorem zi_getR (C : zCx p l R s m args meth c cc nL d0 ret dC dI ks sz0 h0 qs cs e0 kc) : zr_getR cc nL ret h0 qs ks kc post (zX p l e R s m args below meth c nL ret dC dI h0 qs cs post) := fun pc lv st σ ix f i d hm hf hk k ls H locs hl hP hS => va_get (D := (dC, dI)) (ci := 15) (C := RX13) (T := TX13) (N := 196) (v := .ref (qs.getD i 0)) C.1.1 C.1.2.1 C.1.2.2.2.2 (fun w h => List.mem_cons_of_mem _ (wRx_u w h)) C.1.2.2.2.1 C.2.1 hP 0 rfl rfl f hf (C.1.2.2.2.2 _ (List.mem_cons_of_mem _ (wRx_f hm))) (fun x h => by rw [TX13_own f hf] at h; exact h) (by rw [zfl_at hf]; simp [zval, hk]) d (k ls H locs hl hP hS)
theorem zi_putI (C : zCx p l R s m args meth c cc nL d0 ret dC dI ks sz0 h0 qs cs e0 kc) : zr_putI cc nL ret h0 qs ks kc post (zX p l e R s m args below meth c nL ret dC dI h0 qs cs post) := fun pc lv st σ ix f v d hm hf hk hfin hn hfit k ls H locs hl hP hS => va_put (D := (dC, dI)) (ci := 15) (C := RX13) (T := TX13) (N := 196) (v := .int v) (ty := tyX13 f) C.1.1 C.1.2.1 C.1.2.2.2.2 (fun w h => List.mem_cons_of_mem _ (wRx_u w h)) tyX13 tyX13_ok nmX13 C.1.2.2.2.1 C.2.1 hP (C.2.2.2.2.1 σ) hS 0 rfl rfl f hf (C.1.2.2.2.2 _ (List.mem_cons_of_mem _ (wRx_f hm))) (fun x h => by rw [TX13_own f hf] at h; exact h) hfin (tyX13_ok f hf) hn hfit (by rw [zfl_len]; exact hf) d (fun H1 locs1 hP1 _ hS1 => k ls H1 locs1 hl (by rw [← zwR_I hk]; exact hP1) hS1)
theorem zi_putL (C : zCx p l R s m args meth c cc nL d0 ret dC dI ks sz0 h0 qs cs e0 kc) : zr_putL cc nL ret h0 qs ks kc post (zX p l e R s m args below meth c nL ret dC dI h0 qs cs post) := fun pc lv st σ ix f v d hm hf hk hfin hn hfit k ls H locs hl hP hS => va_put (D := (dC, dI)) (ci := 15) (C := RX13) (T := TX13) (N := 196) (v := .long v) (ty := tyX13 f) C.1.1 C.1.2.1 C.1.2.2.2.2 (fun w h => List.mem_cons_of_mem _ (wRx_u w h)) tyX13 tyX13_ok nmX13 C.1.2.2.2.1 C.2.1 hP (C.2.2.2.2.1 σ) hS 0 rfl rfl f hf (C.1.2.2.2.2 _ (List.mem_cons_of_mem _ (wRx_f hm))) (fun x h => by rw [TX13_own f hf] at h; exact h) hfin (tyX13_ok f hf) hn hfit (by rw [zfl_len]; exact hf) d (fun H1 locs1 hP1 _ hS1 => k ls H1 locs1 hl (by rw [← zwR_J hk]; exact hP1) hS1)
theorem zi_iald (C : zCx p l R s m args meth c cc nL d0 ret dC dI ks sz0 h0 qs cs e0 kc) : zr_iald cc nL ret h0 qs ks kc post (zX p l e R s m args below meth c nL ret dC dI h0 qs cs post) := fun pc lv st σ i j d hi hg hy hin k ls H locs hl hP hS => va_iald C.1.1 C.1.2.1 C.2.1 hP (i + 1) i (zrw_i hi hg h0) (by rw [zty_at C.2.2.2.1 hi, hy]) hin d (k ls H locs hl hP hS)
theorem zi_bald (C : zCx p l R s m args meth c cc nL d0 ret dC dI ks sz0 h0 qs cs e0 kc) : zr_bald cc nL ret h0 qs ks kc post (zX p l e R s m args below meth c nL ret dC dI h0 qs cs post) := fun pc lv st σ i j d hi hg hy hin k ls H locs hl hP hS => va_bald C.1.1 C.1.2.1 C.2.1 hP (i + 1) i (zrw_i hi hg h0) (by rw [zty_at C.2.2.2.1 hi, hy]) hin d (k ls H locs hl hP hS)
theorem zi_zald (C : zCx p l R s m args meth c cc nL d0 ret dC dI ks sz0 h0 qs cs e0 kc) : zr_zald cc nL ret h0 qs ks kc post (zX p l e R s m args below meth c nL ret dC dI h0 qs cs post) := fun pc lv st σ i j d hi hg hy hin k ls H locs hl hP hS => va_zald C.1.1 C.1.2.1 C.2.1 hP (i + 1) i (zrw_i hi hg h0) (by rw [zty_at C.2.2.2.1 hi, hy]) hin d (k ls H locs hl hP hS)
theorem zi_lald (C : zCx p l R s m args meth c cc nL d0 ret dC dI ks sz0 h0 qs cs e0 kc) : zr_lald cc nL ret h0 qs ks kc post (zX p l e R s m args below meth c nL ret dC dI h0 qs cs post) := fun pc lv st σ i j d hi hg hy hin k ls H locs hl hP hS => va_lald C.1.1 C.1.2.1 C.2.1 hP (i + 1) i (zrw_l hi hg h0) (by rw [zty_at C.2.2.2.1 hi, hy]) hin d (k ls H locs hl hP hS)
theorem zi_iast (C : zCx p l R s m args meth c cc nL d0 ret dC dI ks sz0 h0 qs cs e0 kc) : zr_iast cc nL ret h0 qs ks kc post (zX p l e R s m args below meth c nL ret dC dI h0 qs cs post) := fun pc lv st σ i j x d hi hg hy hin k ls H locs hl hP hS => va_iast C.1.1 C.1.2.1 C.2.1 hP (C.2.2.2.2.1 σ) hS (i + 1) i (zrw_i hi hg h0) (by rw [zty_at C.2.2.2.1 hi, hy]) hin d (fun H1 locs1 hP1 _ hS1 => k ls H1 locs1 hl (by rw [← zwR_A hi hg]; exact hP1) hS1)
theorem zi_bast (C : zCx p l R s m args meth c cc nL d0 ret dC dI ks sz0 h0 qs cs e0 kc) : zr_bast cc nL ret h0 qs ks kc post (zX p l e R s m args below meth c nL ret dC dI h0 qs cs post) := fun pc lv st σ i j x d hi hg hy hin k ls H locs hl hP hS => va_bast C.1.1 C.1.2.1 C.2.1 hP (C.2.2.2.2.1 σ) hS (i + 1) i (zrw_i hi hg h0) (by rw [zty_at C.2.2.2.1 hi, hy]) hin d (fun H1 locs1 hP1 _ hS1 => k ls H1 locs1 hl (by rw [← zwR_A hi hg]; exact hP1) hS1)
theorem zi_zast (C : zCx p l R s m args meth c cc nL d0 ret dC dI ks sz0 h0 qs cs e0 kc) : zr_zast cc nL ret h0 qs ks kc post (zX p l e R s m args below meth c nL ret dC dI h0 qs cs post) := fun pc lv st σ i j x d hi hg hy hin k ls H locs hl hP hS => va_zast C.1.1 C.1.2.1 C.2.1 hP (C.2.2.2.2.1 σ) hS (i + 1) i (zrw_i hi hg h0) (by rw [zty_at C.2.2.2.1 hi, hy]) hin d (fun H1 locs1 hP1 _ hS1 => k ls H1 locs1 hl (by rw [← zwR_A hi hg]; exact hP1) hS1)
theorem zi_last (C : zCx p l R s m args meth c cc nL d0 ret dC dI ks sz0 h0 qs cs e0 kc) : zr_last cc nL ret h0 qs ks kc post (zX p l e R s m args below meth c nL ret dC dI h0 qs cs post) := fun pc lv st σ i j x d hi hg hy hin k ls H locs hl hP hS => va_last C.1.1 C.1.2.1 C.2.1 hP (C.2.2.2.2.1 σ) hS (i + 1) i (zrw_l hi hg h0) (by rw [zty_at C.2.2.2.1 hi, hy]) hin d (fun H1 locs1 hP1 _ hS1 => k ls H1 locs1 hl (by rw [← zwR_G hi hg]; exact hP1) hS1)
theorem zi_vret (C : zCx p l R s m args meth c cc nL d0 ret dC dI ks sz0 h0 qs cs e0 kc) : zr_vret cc nL ret h0 qs ks kc post (zX p l e R s m args below meth c nL ret dC dI h0 qs cs post) := fun pc lv σ d hr k ls H locs hl hP hS => W.vret C.1.1 C.1.2.1 (by rw [C.2.2.2.2.2.2.1, hr]) (fun t ht hW => by rw [zQ_v hr]; exact ⟨⟨σ, rfl, k, ⟨by rw [ht]; exact hP, va_K.moved hW.alike C.2.1, C.2.2.2.2.1 σ⟩⟩, hS.F ht⟩) hS.2.2 d C.2.2.2.2.2.2.2.1
theorem zi_iret (C : zCx p l R s m args meth c cc nL d0 ret dC dI ks sz0 h0 qs cs e0 kc) : zr_iret cc nL ret h0 qs ks kc post (zX p l e R s m args below meth c nL ret dC dI h0 qs cs post) := fun pc lv σ v d hr k ls H locs hl hP hS => W.iret C.1.1 C.1.2.1 (by rw [C.2.2.2.2.2.2.1, hr]) (fun t ht hW => by rw [zQ_i (Or.inl hr)]; exact ⟨⟨v, σ, rfl, k, ⟨by rw [ht]; exact hP, va_K.moved hW.alike C.2.1, C.2.2.2.2.1 σ⟩⟩, hS.F ht⟩) hS.2.2 d C.2.2.2.2.2.2.2.1
theorem zi_zret (C : zCx p l R s m args meth c cc nL d0 ret dC dI ks sz0 h0 qs cs e0 kc) : zr_zret cc nL ret h0 qs ks kc post (zX p l e R s m args below meth c nL ret dC dI h0 qs cs post) := fun pc lv σ v d hr hn k ls H locs hl hP hS => W.zret C.1.1 C.1.2.1 (by rw [C.2.2.2.2.2.2.1, hr]) hn (fun t ht hW => by rw [zQ_i (Or.inr hr)]; exact ⟨⟨v, σ, rfl, k, ⟨by rw [ht]; exact hP, va_K.moved hW.alike C.2.1, C.2.2.2.2.1 σ⟩⟩, hS.F ht⟩) hS.2.2 d C.2.2.2.2.2.2.2.1
theorem zi_lret (C : zCx p l R s m args meth c cc nL d0 ret dC dI ks sz0 h0 qs cs e0 kc) : zr_lret cc nL ret h0 qs ks kc post (zX p l e R s m args below meth c nL ret dC dI h0 qs cs post) := fun pc lv σ v d hr k ls H locs hl hP hS => W.lret C.1.1 C.1.2.1 (by rw [C.2.2.2.2.2.2.1, hr]) (fun t ht hW => by rw [zQ_l hr]; exact ⟨⟨v, σ, rfl, k, ⟨by rw [ht]; exact hP, va_K.moved hW.alike C.2.1, C.2.2.2.2.1 σ⟩⟩, hS.F ht⟩) hS.2.2 d C.2.2.2.2.2.2.2.1
theorem zi_callv (C : zCx p l R s m args meth c cc nL d0 ret dC dI ks sz0 h0 qs cs e0 kc) : zr_callv cc nL ret h0 qs ks kc post (zX p l e R s m args below meth c nL ret dC dI h0 qs cs post) := fun pc lv rest σ ix j en as P d hm he hs hr hl9 hc hk k ls H locs hl hP hS => by
  obtain ⟨d1, hd1, hM0⟩ := C.2.2.2.2.2.2.2.2.2 j _ σ P hk
  have hM := hM0 en he H.size
  rw [zQ_v hr] at hM
  have h13 := (zmt_ok en (List.mem_of_getElem? he)).2.2.1
  have hRR1 := (C.2.2.2.2.2.2.2.2.1).1
  have hRR2 := (C.2.2.2.2.2.2.2.2.1).2.1
  have hF : ∀ q, zAd h0 qs H.size q → zAd h0 qs s.heap.size q := fun q h => by
    rcases h with h | h | h
    · exact Or.inl h
    · exact Or.inr (Or.inl h)
    · exact Or.inr (Or.inr (Nat.le_trans hS.1 h))
  exact va_callv (za_runV (As := as) (rest := rest) C.1 hM (cwV en.2.2.2.1 C.1.2.2.2.2 (zgoodV hm he hs) rfl rfl rfl ⟨(zmt_ok en (List.mem_of_getElem? he)).1, by rw [(zmt_ok en (List.mem_of_getElem? he)).1]; decide, by rw [(zmt_ok en (List.mem_of_getElem? he)).1]; decide, (zmt_ok en (List.mem_of_getElem? he)).2.1⟩ ⟨show d1 + 6 + 1 ≤ R.frames by omega, show 8 + (en.2.2.1 + 11) + (40 * d1 + 240) ≤ R.locals by omega⟩) (show 16 + (en.2.2.1 + 11) + (40 * d1 + 240) ≤ R.locals by omega) ⟨zPr_blind, va_recv C.2.1 hP (ci := 15) (q0 := 0) rfl rfl, fun U hU hW => zPr_at hP C.2.1 (C.2.2.2.2.1 σ) hS C.2.2.2.2.2.2.2.2.1.2.2.1 C.2.2.2.2.2.2.2.2.1.2.2.2.1 C.2.2.2.2.2.1 hU hW⟩ rfl hl9 hl.1 rfl (za_room hc) d ⟨Nat.zero_le _, Nat.zero_le _⟩) hS (fun q _ h => hF q h) hF (fun u t H1 locs1 ht hvm hp hB hz1 hk1 hS1 => k u hp ls H1 locs1 hl (by rw [← ht]; exact hB.1) hS1)
theorem zi_calli (C : zCx p l R s m args meth c cc nL d0 ret dC dI ks sz0 h0 qs cs e0 kc) : zr_calli cc nL ret h0 qs ks kc post (zX p l e R s m args below meth c nL ret dC dI h0 qs cs post) := fun pc lv rest σ ix j en as P d hm he hs hr hl9 hc hk k ls H locs hl hP hS => by
  obtain ⟨d1, hd1, hM0⟩ := C.2.2.2.2.2.2.2.2.2 j _ σ P hk
  have hM := hM0 en he H.size
  rw [zQ_i hr] at hM
  have h13 := (zmt_ok en (List.mem_of_getElem? he)).2.2.1
  have hRR1 := (C.2.2.2.2.2.2.2.2.1).1
  have hRR2 := (C.2.2.2.2.2.2.2.2.1).2.1
  have hF : ∀ q, zAd h0 qs H.size q → zAd h0 qs s.heap.size q := fun q h => by
    rcases h with h | h | h
    · exact Or.inl h
    · exact Or.inr (Or.inl h)
    · exact Or.inr (Or.inr (Nat.le_trans hS.1 h))
  exact va_calli (za_runV (As := as) (rest := rest) C.1 hM (cwV en.2.2.2.1 C.1.2.2.2.2 (zgoodV hm he hs) rfl rfl rfl ⟨(zmt_ok en (List.mem_of_getElem? he)).1, by rw [(zmt_ok en (List.mem_of_getElem? he)).1]; decide, by rw [(zmt_ok en (List.mem_of_getElem? he)).1]; decide, (zmt_ok en (List.mem_of_getElem? he)).2.1⟩ ⟨show d1 + 6 + 1 ≤ R.frames by omega, show 8 + (en.2.2.1 + 11) + (40 * d1 + 240) ≤ R.locals by omega⟩) (show 16 + (en.2.2.1 + 11) + (40 * d1 + 240) ≤ R.locals by omega) ⟨zPr_blind, va_recv C.2.1 hP (ci := 15) (q0 := 0) rfl rfl, fun U hU hW => zPr_at hP C.2.1 (C.2.2.2.2.1 σ) hS C.2.2.2.2.2.2.2.2.1.2.2.1 C.2.2.2.2.2.2.2.2.1.2.2.2.1 C.2.2.2.2.2.1 hU hW⟩ rfl hl9 hl.1 rfl (za_room hc) d ⟨Nat.zero_le _, Nat.zero_le _⟩) hS (fun q _ h => hF q h) hF (fun r u t H1 locs1 ht hvm hp hB hz1 hk1 hS1 => k r u hp ls H1 locs1 hl (by rw [← ht]; exact hB.1) hS1)
theorem zi_calll (C : zCx p l R s m args meth c cc nL d0 ret dC dI ks sz0 h0 qs cs e0 kc) : zr_calll cc nL ret h0 qs ks kc post (zX p l e R s m args below meth c nL ret dC dI h0 qs cs post) := fun pc lv rest σ ix j en as P d hm he hs hr hl9 hc hk k ls H locs hl hP hS => by
  obtain ⟨d1, hd1, hM0⟩ := C.2.2.2.2.2.2.2.2.2 j _ σ P hk
  have hM := hM0 en he H.size
  rw [zQ_l hr] at hM
  have h13 := (zmt_ok en (List.mem_of_getElem? he)).2.2.1
  have hRR1 := (C.2.2.2.2.2.2.2.2.1).1
  have hRR2 := (C.2.2.2.2.2.2.2.2.1).2.1
  have hF : ∀ q, zAd h0 qs H.size q → zAd h0 qs s.heap.size q := fun q h => by
    rcases h with h | h | h
    · exact Or.inl h
    · exact Or.inr (Or.inl h)
    · exact Or.inr (Or.inr (Nat.le_trans hS.1 h))
  exact va_calll (za_runV (As := as) (rest := rest) C.1 hM (cwV en.2.2.2.1 C.1.2.2.2.2 (zgoodV hm he hs) rfl rfl rfl ⟨(zmt_ok en (List.mem_of_getElem? he)).1, by rw [(zmt_ok en (List.mem_of_getElem? he)).1]; decide, by rw [(zmt_ok en (List.mem_of_getElem? he)).1]; decide, (zmt_ok en (List.mem_of_getElem? he)).2.1⟩ ⟨show d1 + 6 + 1 ≤ R.frames by omega, show 8 + (en.2.2.1 + 11) + (40 * d1 + 240) ≤ R.locals by omega⟩) (show 16 + (en.2.2.1 + 11) + (40 * d1 + 240) ≤ R.locals by omega) ⟨zPr_blind, va_recv C.2.1 hP (ci := 15) (q0 := 0) rfl rfl, fun U hU hW => zPr_at hP C.2.1 (C.2.2.2.2.1 σ) hS C.2.2.2.2.2.2.2.2.1.2.2.1 C.2.2.2.2.2.2.2.2.1.2.2.2.1 C.2.2.2.2.2.1 hU hW⟩ rfl hl9 hl.1 rfl (za_room hc) d ⟨Nat.zero_le _, Nat.zero_le _⟩) hS (fun q _ h => hF q h) hF (fun r u t H1 locs1 ht hvm hp hB hz1 hk1 hS1 => k r u hp ls H1 locs1 hl (by rw [← ht]; exact hB.1) hS1)
theorem zi_scalli (C : zCx p l R s m args meth c cc nL d0 ret dC dI ks sz0 h0 qs cs e0 kc) : zr_scalli cc nL ret h0 qs ks kc post (zX p l e R s m args below meth c nL ret dC dI h0 qs cs post) := fun pc lv rest σ ix j en as P d hm he hs hr hl9 hc hk k ls H locs hl hP hS => by
  obtain ⟨d1, hd1, hM0⟩ := C.2.2.2.2.2.2.2.2.2 j _ σ P hk
  have hM := hM0 en he H.size
  rw [zQ_i hr] at hM
  have h13 := (zmt_ok en (List.mem_of_getElem? he)).2.2.1
  have hRR1 := (C.2.2.2.2.2.2.2.2.1).1
  have hRR2 := (C.2.2.2.2.2.2.2.2.1).2.1
  have hF : ∀ q, zAd h0 qs H.size q → zAd h0 qs s.heap.size q := fun q h => by
    rcases h with h | h | h
    · exact Or.inl h
    · exact Or.inr (Or.inl h)
    · exact Or.inr (Or.inr (Nat.le_trans hS.1 h))
  exact va_calli (za_runS (As := as) (rest := rest) C.1 hM (cwS en.2.2.2.1 C.1.2.2.2.2 (zgoodS hm he hs) rfl rfl rfl ⟨(zmt_ok en (List.mem_of_getElem? he)).1, by rw [(zmt_ok en (List.mem_of_getElem? he)).1]; decide, by rw [(zmt_ok en (List.mem_of_getElem? he)).1]; decide, (zmt_ok en (List.mem_of_getElem? he)).2.1⟩ ⟨show d1 + 6 + 1 ≤ R.frames by omega, show 8 + (en.2.2.1 + 11) + (40 * d1 + 240) ≤ R.locals by omega⟩) (show 16 + (en.2.2.1 + 11) + (40 * d1 + 240) ≤ R.locals by omega) ⟨zPr_blind, fun U hU hW => zPr_at hP C.2.1 (C.2.2.2.2.1 σ) hS C.2.2.2.2.2.2.2.2.1.2.2.1 C.2.2.2.2.2.2.2.2.1.2.2.2.1 C.2.2.2.2.2.1 hU hW⟩ rfl hl9 hl.1 rfl (za_room hc) d ⟨Nat.zero_le _, Nat.zero_le _⟩) hS (fun q _ h => hF q h) hF (fun r u t H1 locs1 ht hvm hp hB hz1 hk1 hS1 => k r u hp ls H1 locs1 hl (by rw [← ht]; exact hB.1) hS1)
theorem zi_scalll (C : zCx p l R s m args meth c cc nL d0 ret dC dI ks sz0 h0 qs cs e0 kc) : zr_scalll cc nL ret h0 qs ks kc post (zX p l e R s m args below meth c nL ret dC dI h0 qs cs post) := fun pc lv rest σ ix j en as P d hm he hs hr hl9 hc hk k ls H locs hl hP hS => by
  obtain ⟨d1, hd1, hM0⟩ := C.2.2.2.2.2.2.2.2.2 j _ σ P hk
  have hM := hM0 en he H.size
  rw [zQ_l hr] at hM
  have h13 := (zmt_ok en (List.mem_of_getElem? he)).2.2.1
  have hRR1 := (C.2.2.2.2.2.2.2.2.1).1
  have hRR2 := (C.2.2.2.2.2.2.2.2.1).2.1
  have hF : ∀ q, zAd h0 qs H.size q → zAd h0 qs s.heap.size q := fun q h => by
    rcases h with h | h | h
    · exact Or.inl h
    · exact Or.inr (Or.inl h)
    · exact Or.inr (Or.inr (Nat.le_trans hS.1 h))
  exact va_calll (za_runS (As := as) (rest := rest) C.1 hM (cwS en.2.2.2.1 C.1.2.2.2.2 (zgoodS hm he hs) rfl rfl rfl ⟨(zmt_ok en (List.mem_of_getElem? he)).1, by rw [(zmt_ok en (List.mem_of_getElem? he)).1]; decide, by rw [(zmt_ok en (List.mem_of_getElem? he)).1]; decide, (zmt_ok en (List.mem_of_getElem? he)).2.1⟩ ⟨show d1 + 6 + 1 ≤ R.frames by omega, show 8 + (en.2.2.1 + 11) + (40 * d1 + 240) ≤ R.locals by omega⟩) (show 16 + (en.2.2.1 + 11) + (40 * d1 + 240) ≤ R.locals by omega) ⟨zPr_blind, fun U hU hW => zPr_at hP C.2.1 (C.2.2.2.2.1 σ) hS C.2.2.2.2.2.2.2.2.1.2.2.1 C.2.2.2.2.2.2.2.2.1.2.2.2.1 C.2.2.2.2.2.1 hU hW⟩ rfl hl9 hl.1 rfl (za_room hc) d ⟨Nat.zero_le _, Nat.zero_le _⟩) hS (fun q _ h => hF q h) hF (fun r u t H1 locs1 ht hvm hp hB hz1 hk1 hS1 => k r u hp ls H1 locs1 hl (by rw [← ht]; exact hB.1) hS1)
theorem zi_slen (C : zCx p l R s m args meth c cc nL d0 ret dC dI ks sz0 h0 qs cs e0 kc) : zr_slen cc nL ret h0 qs ks kc post (zX p l e R s m args below meth c nL ret dC dI h0 qs cs post) := fun pc lv st σ a v d hv hc k ls H locs hl hP hS => by
  obtain ⟨q, hq, ha, -⟩ := zslen_q hv
  have hM := (C.2.2.2.2.2.2.2.2.1).2.2.2.2.1 a v σ hv H.size
  have hRR1 := (C.2.2.2.2.2.2.2.2.1).1
  have hRR2 := (C.2.2.2.2.2.2.2.2.1).2.1
  have hF : ∀ q, zAd h0 qs H.size q → zAd h0 qs s.heap.size q := fun q h => by
    rcases h with h | h | h
    · exact Or.inl h
    · exact Or.inr (Or.inl h)
    · exact Or.inr (Or.inr (Nat.le_trans hS.1 h))
  obtain ⟨vb, hO, -⟩ := (C.2.2.2.2.2.1).2.1 q hq
  have hcell : ∃ cellB : Cell, H[a]? = some cellB ∧ cellB.vm.isStatics = false ∧ s.vm.findClass RJ0 = some cellB.cls := by
    obtain ⟨cell, g1, g2, g3, -⟩ := hO.kept (H1 := H) (fun x g1 g3 => hS.2.1 x g1 (fun z => g3 ((C.2.2.2.2.2.2.2.2.1).2.2.1 x z)))
    rw [ha] at g1
    exact ⟨cell, g1, g2, g3⟩
  exact va_calli (za_runV (As := []) (rest := st) C.1 hM (cwV 0 C.1.2.2.2.2 zgoodL rfl rfl rfl (by decide +kernel) ⟨show 5 + 1 ≤ R.frames by omega, show 8 + (_ + 11) + 200 ≤ R.locals by omega⟩) (show 16 + (_ + 11) + 200 ≤ R.locals by omega) ⟨zPr_blind, hcell, fun U hU hW => zPr_at hP C.2.1 (C.2.2.2.2.1 σ) hS (C.2.2.2.2.2.2.2.2.1).2.2.1 (C.2.2.2.2.2.2.2.2.1).2.2.2.1 C.2.2.2.2.2.1 hU hW⟩ rfl rfl hl.1 rfl (za_room hc) d ⟨Nat.zero_le _, Nat.zero_le _⟩) hS (fun q _ h => hF q h) hF (fun r u t H1 locs1 ht hvm hp hB hz1 hk1 hS1 => by
    obtain ⟨hr, hu⟩ := hp
    subst hr; subst hu
    exact k ls H1 locs1 hl (by rw [← ht]; exact hB.1) hS1)
theorem zi_schr (C : zCx p l R s m args meth c cc nL d0 ret dC dI ks sz0 h0 qs cs e0 kc) : zr_schr cc nL ret h0 qs ks kc post (zX p l e R s m args below meth c nL ret dC dI h0 qs cs post) := fun pc lv st σ a j v d hv hc k ls H locs hl hP hS => by
  obtain ⟨q, hq, ha, -⟩ := zschr_q hv
  have hM := (C.2.2.2.2.2.2.2.2.1).2.2.2.2.2 a j v σ hv H.size
  have hRR1 := (C.2.2.2.2.2.2.2.2.1).1
  have hRR2 := (C.2.2.2.2.2.2.2.2.1).2.1
  have hF : ∀ q, zAd h0 qs H.size q → zAd h0 qs s.heap.size q := fun q h => by
    rcases h with h | h | h
    · exact Or.inl h
    · exact Or.inr (Or.inl h)
    · exact Or.inr (Or.inr (Nat.le_trans hS.1 h))
  obtain ⟨vb, hO, -⟩ := (C.2.2.2.2.2.1).2.1 q hq
  have hcell : ∃ cellB : Cell, H[a]? = some cellB ∧ cellB.vm.isStatics = false ∧ s.vm.findClass RJ0 = some cellB.cls := by
    obtain ⟨cell, g1, g2, g3, -⟩ := hO.kept (H1 := H) (fun x g1 g3 => hS.2.1 x g1 (fun z => g3 ((C.2.2.2.2.2.2.2.2.1).2.2.1 x z)))
    rw [ha] at g1
    exact ⟨cell, g1, g2, g3⟩
  exact va_calli (za_runV (As := [.int j]) (rest := st) C.1 hM (cwV 1 C.1.2.2.2.2 zgoodC rfl rfl rfl (by decide +kernel) ⟨show 5 + 1 ≤ R.frames by omega, show 8 + (_ + 11) + 200 ≤ R.locals by omega⟩) (show 16 + (_ + 11) + 200 ≤ R.locals by omega) ⟨zPr_blind, hcell, fun U hU hW => zPr_at hP C.2.1 (C.2.2.2.2.1 σ) hS (C.2.2.2.2.2.2.2.2.1).2.2.1 (C.2.2.2.2.2.2.2.2.1).2.2.2.1 C.2.2.2.2.2.1 hU hW⟩ rfl rfl hl.1 rfl (za_room hc) d ⟨Nat.zero_le _, Nat.zero_le _⟩) hS (fun q _ h => hF q h) hF (fun r u t H1 locs1 ht hvm hp hB hz1 hk1 hS1 => by
    obtain ⟨hr, hu⟩ := hp
    subst hr; subst hu
    exact k ls H1 locs1 hl (by rw [← ht]; exact hB.1) hS1)
theorem zi_all (C : zCx p l R s m args meth c cc nL d0 ret dC dI ks sz0 h0 qs cs e0 kc) : zSem cc nL ret h0 qs ks kc post (zX p l e R s m args below meth c nL ret dC dI h0 qs cs post) := fun n => match n with
  | 0 => zi_iconst C
  | 1 => zi_bipush C
  | 2 => zi_sipush C
  | 3 => zi_lconst C
  | 4 => zi_ldc C
  | 5 => zi_ldc2 C
  | 6 => zi_ldcS C
  | 7 => zi_iload C
  | 8 => zi_iload_n C
  | 9 => zi_lload C
  | 10 => zi_lload_n C
  | 11 => zi_aload C
  | 12 => zi_aload_n C
  | 13 => zi_istore C
  | 14 => zi_istore_n C
  | 15 => zi_astore C
  | 16 => zi_astore_n C
  | 17 => zi_lstore C
  | 18 => zi_lstore_n C
  | 19 => zi_iinc C
  | 20 => zi_weak C
  | 21 => zi_iadd C
  | 22 => zi_isub C
  | 23 => zi_imul C
  | 24 => zi_ishr C
  | 25 => zi_iand C
  | 26 => zi_ixor C
  | 27 => zi_irem C
  | 28 => zi_ineg C
  | 29 => zi_ladd C
  | 30 => zi_lsub C
  | 31 => zi_lmul C
  | 32 => zi_ldiv C
  | 33 => zi_lrem C
  | 34 => zi_lneg C
  | 35 => zi_i2l C
  | 36 => zi_l2i C
  | 37 => zi_i2b C
  | 38 => zi_lcmp C
  | 39 => zi_if_eq C
  | 40 => zi_if_ne C
  | 41 => zi_if_lt C
  | 42 => zi_if_ge C
  | 43 => zi_if_gt C
  | 44 => zi_if_le C
  | 45 => zi_icmp_eq C
  | 46 => zi_icmp_ne C
  | 47 => zi_icmp_lt C
  | 48 => zi_icmp_ge C
  | 49 => zi_icmp_gt C
  | 50 => zi_icmp_le C
  | 51 => zi_goto C
  | 52 => zi_tableIn C
  | 53 => zi_tableOut C
  | 54 => zi_lookup C
  | 55 => zi_dup C
  | 56 => zi_dup2 C
  | 57 => zi_pop C
  | 58 => zi_getI C
  | 59 => zi_getL C
  | 60 => zi_getR C
  | 61 => zi_putI C
  | 62 => zi_putL C
  | 63 => zi_iald C
  | 64 => zi_bald C
  | 65 => zi_zald C
  | 66 => zi_lald C
  | 67 => zi_iast C
  | 68 => zi_bast C
  | 69 => zi_zast C
  | 70 => zi_last C
  | 71 => zi_vret C
  | 72 => zi_iret C
  | 73 => zi_zret C
  | 74 => zi_lret C
  | 75 => zi_callv C
  | 76 => zi_calli C
  | 77 => zi_calll C
  | 78 => zi_scalli C
  | 79 => zi_scalll C
  | 80 => zi_slen C
  | 81 => zi_schr C
  | n + 82 => trivial
end ZXI
/-- a method's own places at its start -/
def zent (nL : Nat) (av : List Value) : zLv := (List.range nL).map (fun i => (lv_args 0 av).lookup i)
/-- method j with d calls within, from σ: it ends, and post holds of its answer and of the state behind it -/
def zTr (h0 : Nat) (qs : List Nat) (ks : Nat → Nat) : Nat → Nat → List Value → zSt → (Option Value → zSt → Prop) → Prop
  | 0, _, _, _, _ => False
  | d + 1, j, av, σ, post => ∃ en, zmt[j]? = some en ∧ (lg_sl av).length ≤ en.2.2.1 ∧ ∀ X, zSem en.2.1 en.2.2.1 en.2.2.2.2.2 h0 qs ks (zTr h0 qs ks d) post X → X 0 (zent en.2.2.1 av) [] σ
theorem zSem_kc {cc : ByteArray} {nL : Nat} {ret : Option FieldType} {h0 : Nat} {qs : List Nat} {ks : Nat → Nat} {kc kd : Nat → List Value → zSt → (Option Value → zSt → Prop) → Prop} {post : Option Value → zSt → Prop} {X : Nat → zLv → List Value → zSt → Prop} (hu : ∀ j av σ P, kd j av σ P → kc j av σ P) (h : zSem cc nL ret h0 qs ks kc post X) : zSem cc nL ret h0 qs ks kd post X := fun n => match n with
  | 0 => show zr_iconst cc nL ret h0 qs ks kd post X from h 0
  | 1 => show zr_bipush cc nL ret h0 qs ks kd post X from h 1
  | 2 => show zr_sipush cc nL ret h0 qs ks kd post X from h 2
  | 3 => show zr_lconst cc nL ret h0 qs ks kd post X from h 3
  | 4 => show zr_ldc cc nL ret h0 qs ks kd post X from h 4
  | 5 => show zr_ldc2 cc nL ret h0 qs ks kd post X from h 5
  | 6 => show zr_ldcS cc nL ret h0 qs ks kd post X from h 6
  | 7 => show zr_iload cc nL ret h0 qs ks kd post X from h 7
  | 8 => show zr_iload_n cc nL ret h0 qs ks kd post X from h 8
  | 9 => show zr_lload cc nL ret h0 qs ks kd post X from h 9
  | 10 => show zr_lload_n cc nL ret h0 qs ks kd post X from h 10
  | 11 => show zr_aload cc nL ret h0 qs ks kd post X from h 11
  | 12 => show zr_aload_n cc nL ret h0 qs ks kd post X from h 12
  | 13 => show zr_istore cc nL ret h0 qs ks kd post X from h 13
  | 14 => show zr_istore_n cc nL ret h0 qs ks kd post X from h 14
  | 15 => show zr_astore cc nL ret h0 qs ks kd post X from h 15
  | 16 => show zr_astore_n cc nL ret h0 qs ks kd post X from h 16
  | 17 => show zr_lstore cc nL ret h0 qs ks kd post X from h 17
  | 18 => show zr_lstore_n cc nL ret h0 qs ks kd post X from h 18
  | 19 => show zr_iinc cc nL ret h0 qs ks kd post X from h 19
  | 20 => show zr_weak cc nL ret h0 qs ks kd post X from h 20
  | 21 => show zr_iadd cc nL ret h0 qs ks kd post X from h 21
  | 22 => show zr_isub cc nL ret h0 qs ks kd post X from h 22
  | 23 => show zr_imul cc nL ret h0 qs ks kd post X from h 23
  | 24 => show zr_ishr cc nL ret h0 qs ks kd post X from h 24
  | 25 => show zr_iand cc nL ret h0 qs ks kd post X from h 25
  | 26 => show zr_ixor cc nL ret h0 qs ks kd post X from h 26
  | 27 => show zr_irem cc nL ret h0 qs ks kd post X from h 27
  | 28 => show zr_ineg cc nL ret h0 qs ks kd post X from h 28
  | 29 => show zr_ladd cc nL ret h0 qs ks kd post X from h 29
  | 30 => show zr_lsub cc nL ret h0 qs ks kd post X from h 30
  | 31 => show zr_lmul cc nL ret h0 qs ks kd post X from h 31
  | 32 => show zr_ldiv cc nL ret h0 qs ks kd post X from h 32
  | 33 => show zr_lrem cc nL ret h0 qs ks kd post X from h 33
  | 34 => show zr_lneg cc nL ret h0 qs ks kd post X from h 34
  | 35 => show zr_i2l cc nL ret h0 qs ks kd post X from h 35
  | 36 => show zr_l2i cc nL ret h0 qs ks kd post X from h 36
  | 37 => show zr_i2b cc nL ret h0 qs ks kd post X from h 37
  | 38 => show zr_lcmp cc nL ret h0 qs ks kd post X from h 38
  | 39 => show zr_if_eq cc nL ret h0 qs ks kd post X from h 39
  | 40 => show zr_if_ne cc nL ret h0 qs ks kd post X from h 40
  | 41 => show zr_if_lt cc nL ret h0 qs ks kd post X from h 41
  | 42 => show zr_if_ge cc nL ret h0 qs ks kd post X from h 42
  | 43 => show zr_if_gt cc nL ret h0 qs ks kd post X from h 43
  | 44 => show zr_if_le cc nL ret h0 qs ks kd post X from h 44
  | 45 => show zr_icmp_eq cc nL ret h0 qs ks kd post X from h 45
  | 46 => show zr_icmp_ne cc nL ret h0 qs ks kd post X from h 46
  | 47 => show zr_icmp_lt cc nL ret h0 qs ks kd post X from h 47
  | 48 => show zr_icmp_ge cc nL ret h0 qs ks kd post X from h 48
  | 49 => show zr_icmp_gt cc nL ret h0 qs ks kd post X from h 49
  | 50 => show zr_icmp_le cc nL ret h0 qs ks kd post X from h 50
  | 51 => show zr_goto cc nL ret h0 qs ks kd post X from h 51
  | 52 => show zr_tableIn cc nL ret h0 qs ks kd post X from h 52
  | 53 => show zr_tableOut cc nL ret h0 qs ks kd post X from h 53
  | 54 => show zr_lookup cc nL ret h0 qs ks kd post X from h 54
  | 55 => show zr_dup cc nL ret h0 qs ks kd post X from h 55
  | 56 => show zr_dup2 cc nL ret h0 qs ks kd post X from h 56
  | 57 => show zr_pop cc nL ret h0 qs ks kd post X from h 57
  | 58 => show zr_getI cc nL ret h0 qs ks kd post X from h 58
  | 59 => show zr_getL cc nL ret h0 qs ks kd post X from h 59
  | 60 => show zr_getR cc nL ret h0 qs ks kd post X from h 60
  | 61 => show zr_putI cc nL ret h0 qs ks kd post X from h 61
  | 62 => show zr_putL cc nL ret h0 qs ks kd post X from h 62
  | 63 => show zr_iald cc nL ret h0 qs ks kd post X from h 63
  | 64 => show zr_bald cc nL ret h0 qs ks kd post X from h 64
  | 65 => show zr_zald cc nL ret h0 qs ks kd post X from h 65
  | 66 => show zr_lald cc nL ret h0 qs ks kd post X from h 66
  | 67 => show zr_iast cc nL ret h0 qs ks kd post X from h 67
  | 68 => show zr_bast cc nL ret h0 qs ks kd post X from h 68
  | 69 => show zr_zast cc nL ret h0 qs ks kd post X from h 69
  | 70 => show zr_last cc nL ret h0 qs ks kd post X from h 70
  | 71 => show zr_vret cc nL ret h0 qs ks kd post X from h 71
  | 72 => show zr_iret cc nL ret h0 qs ks kd post X from h 72
  | 73 => show zr_zret cc nL ret h0 qs ks kd post X from h 73
  | 74 => show zr_lret cc nL ret h0 qs ks kd post X from h 74
  | 75 => fun pc lv rest σ ix j en as P d hm he hs hr hl hc hk k => zs_callv h d hm he hs hr hl hc (hu _ _ _ _ hk) k
  | 76 => fun pc lv rest σ ix j en as P d hm he hs hr hl hc hk k => zs_calli h d hm he hs hr hl hc (hu _ _ _ _ hk) k
  | 77 => fun pc lv rest σ ix j en as P d hm he hs hr hl hc hk k => zs_calll h d hm he hs hr hl hc (hu _ _ _ _ hk) k
  | 78 => fun pc lv rest σ ix j en as P d hm he hs hr hl hc hk k => zs_scalli h d hm he hs hr hl hc (hu _ _ _ _ hk) k
  | 79 => fun pc lv rest σ ix j en as P d hm he hs hr hl hc hk k => zs_scalll h d hm he hs hr hl hc (hu _ _ _ _ hk) k
  | 80 => show zr_slen cc nL ret h0 qs ks kd post X from h 80
  | 81 => show zr_schr cc nL ret h0 qs ks kd post X from h 81
  | n + 82 => trivial
theorem zSem_post {cc : ByteArray} {nL : Nat} {ret : Option FieldType} {h0 : Nat} {qs : List Nat} {ks : Nat → Nat} {kc : Nat → List Value → zSt → (Option Value → zSt → Prop) → Prop} {post qost : Option Value → zSt → Prop} {X : Nat → zLv → List Value → zSt → Prop} (hm : ∀ r σ, qost r σ → post r σ) (h : zSem cc nL ret h0 qs ks kc post X) : zSem cc nL ret h0 qs ks kc qost X := fun n => match n with
  | 0 => show zr_iconst cc nL ret h0 qs ks kc qost X from h 0
  | 1 => show zr_bipush cc nL ret h0 qs ks kc qost X from h 1
  | 2 => show zr_sipush cc nL ret h0 qs ks kc qost X from h 2
  | 3 => show zr_lconst cc nL ret h0 qs ks kc qost X from h 3
  | 4 => show zr_ldc cc nL ret h0 qs ks kc qost X from h 4
  | 5 => show zr_ldc2 cc nL ret h0 qs ks kc qost X from h 5
  | 6 => show zr_ldcS cc nL ret h0 qs ks kc qost X from h 6
  | 7 => show zr_iload cc nL ret h0 qs ks kc qost X from h 7
  | 8 => show zr_iload_n cc nL ret h0 qs ks kc qost X from h 8
  | 9 => show zr_lload cc nL ret h0 qs ks kc qost X from h 9
  | 10 => show zr_lload_n cc nL ret h0 qs ks kc qost X from h 10
  | 11 => show zr_aload cc nL ret h0 qs ks kc qost X from h 11
  | 12 => show zr_aload_n cc nL ret h0 qs ks kc qost X from h 12
  | 13 => show zr_istore cc nL ret h0 qs ks kc qost X from h 13
  | 14 => show zr_istore_n cc nL ret h0 qs ks kc qost X from h 14
  | 15 => show zr_astore cc nL ret h0 qs ks kc qost X from h 15
  | 16 => show zr_astore_n cc nL ret h0 qs ks kc qost X from h 16
  | 17 => show zr_lstore cc nL ret h0 qs ks kc qost X from h 17
  | 18 => show zr_lstore_n cc nL ret h0 qs ks kc qost X from h 18
  | 19 => show zr_iinc cc nL ret h0 qs ks kc qost X from h 19
  | 20 => show zr_weak cc nL ret h0 qs ks kc qost X from h 20
  | 21 => show zr_iadd cc nL ret h0 qs ks kc qost X from h 21
  | 22 => show zr_isub cc nL ret h0 qs ks kc qost X from h 22
  | 23 => show zr_imul cc nL ret h0 qs ks kc qost X from h 23
  | 24 => show zr_ishr cc nL ret h0 qs ks kc qost X from h 24
  | 25 => show zr_iand cc nL ret h0 qs ks kc qost X from h 25
  | 26 => show zr_ixor cc nL ret h0 qs ks kc qost X from h 26
  | 27 => show zr_irem cc nL ret h0 qs ks kc qost X from h 27
  | 28 => show zr_ineg cc nL ret h0 qs ks kc qost X from h 28
  | 29 => show zr_ladd cc nL ret h0 qs ks kc qost X from h 29
  | 30 => show zr_lsub cc nL ret h0 qs ks kc qost X from h 30
  | 31 => show zr_lmul cc nL ret h0 qs ks kc qost X from h 31
  | 32 => show zr_ldiv cc nL ret h0 qs ks kc qost X from h 32
  | 33 => show zr_lrem cc nL ret h0 qs ks kc qost X from h 33
  | 34 => show zr_lneg cc nL ret h0 qs ks kc qost X from h 34
  | 35 => show zr_i2l cc nL ret h0 qs ks kc qost X from h 35
  | 36 => show zr_l2i cc nL ret h0 qs ks kc qost X from h 36
  | 37 => show zr_i2b cc nL ret h0 qs ks kc qost X from h 37
  | 38 => show zr_lcmp cc nL ret h0 qs ks kc qost X from h 38
  | 39 => show zr_if_eq cc nL ret h0 qs ks kc qost X from h 39
  | 40 => show zr_if_ne cc nL ret h0 qs ks kc qost X from h 40
  | 41 => show zr_if_lt cc nL ret h0 qs ks kc qost X from h 41
  | 42 => show zr_if_ge cc nL ret h0 qs ks kc qost X from h 42
  | 43 => show zr_if_gt cc nL ret h0 qs ks kc qost X from h 43
  | 44 => show zr_if_le cc nL ret h0 qs ks kc qost X from h 44
  | 45 => show zr_icmp_eq cc nL ret h0 qs ks kc qost X from h 45
  | 46 => show zr_icmp_ne cc nL ret h0 qs ks kc qost X from h 46
  | 47 => show zr_icmp_lt cc nL ret h0 qs ks kc qost X from h 47
  | 48 => show zr_icmp_ge cc nL ret h0 qs ks kc qost X from h 48
  | 49 => show zr_icmp_gt cc nL ret h0 qs ks kc qost X from h 49
  | 50 => show zr_icmp_le cc nL ret h0 qs ks kc qost X from h 50
  | 51 => show zr_goto cc nL ret h0 qs ks kc qost X from h 51
  | 52 => show zr_tableIn cc nL ret h0 qs ks kc qost X from h 52
  | 53 => show zr_tableOut cc nL ret h0 qs ks kc qost X from h 53
  | 54 => show zr_lookup cc nL ret h0 qs ks kc qost X from h 54
  | 55 => show zr_dup cc nL ret h0 qs ks kc qost X from h 55
  | 56 => show zr_dup2 cc nL ret h0 qs ks kc qost X from h 56
  | 57 => show zr_pop cc nL ret h0 qs ks kc qost X from h 57
  | 58 => show zr_getI cc nL ret h0 qs ks kc qost X from h 58
  | 59 => show zr_getL cc nL ret h0 qs ks kc qost X from h 59
  | 60 => show zr_getR cc nL ret h0 qs ks kc qost X from h 60
  | 61 => show zr_putI cc nL ret h0 qs ks kc qost X from h 61
  | 62 => show zr_putL cc nL ret h0 qs ks kc qost X from h 62
  | 63 => show zr_iald cc nL ret h0 qs ks kc qost X from h 63
  | 64 => show zr_bald cc nL ret h0 qs ks kc qost X from h 64
  | 65 => show zr_zald cc nL ret h0 qs ks kc qost X from h 65
  | 66 => show zr_lald cc nL ret h0 qs ks kc qost X from h 66
  | 67 => show zr_iast cc nL ret h0 qs ks kc qost X from h 67
  | 68 => show zr_bast cc nL ret h0 qs ks kc qost X from h 68
  | 69 => show zr_zast cc nL ret h0 qs ks kc qost X from h 69
  | 70 => show zr_last cc nL ret h0 qs ks kc qost X from h 70
  | 71 => fun pc lv σ d hr k => zs_vret h d hr (hm _ _ k)
  | 72 => fun pc lv σ v d hr k => zs_iret h d hr (hm _ _ k)
  | 73 => fun pc lv σ v d hr hn k => zs_zret h d hr hn (hm _ _ k)
  | 74 => fun pc lv σ v d hr k => zs_lret h d hr (hm _ _ k)
  | 75 => show zr_callv cc nL ret h0 qs ks kc qost X from h 75
  | 76 => show zr_calli cc nL ret h0 qs ks kc qost X from h 76
  | 77 => show zr_calll cc nL ret h0 qs ks kc qost X from h 77
  | 78 => show zr_scalli cc nL ret h0 qs ks kc qost X from h 78
  | 79 => show zr_scalll cc nL ret h0 qs ks kc qost X from h 79
  | 80 => show zr_slen cc nL ret h0 qs ks kc qost X from h 80
  | 81 => show zr_schr cc nL ret h0 qs ks kc qost X from h 81
  | n + 82 => trivial
theorem zTr_up {h0 : Nat} {qs : List Nat} {ks : Nat → Nat} : ∀ (d j : Nat) (av : List Value) (σ : zSt) (post : Option Value → zSt → Prop), zTr h0 qs ks d j av σ post → zTr h0 qs ks (d + 1) j av σ post
  | 0, _, _, _, _, h => h.elim
  | d + 1, j, av, σ, post, h => by
    obtain ⟨en, h1, h2, h3⟩ := h
    exact ⟨en, h1, h2, fun X hX => h3 X (zSem_kc (zTr_up d) hX)⟩
theorem zTr_le {h0 : Nat} {qs : List Nat} {ks : Nat → Nat} {d f j : Nat} {av : List Value} {σ : zSt} {post : Option Value → zSt → Prop} (hd : d ≤ f) (h : zTr h0 qs ks d j av σ post) : zTr h0 qs ks f j av σ post := by
  induction hd with
  | refl => exact h
  | step _ ih => exact zTr_up _ _ _ _ _ ih
theorem zTr_post {h0 : Nat} {qs : List Nat} {ks : Nat → Nat} {d j : Nat} {av : List Value} {σ : zSt} {post qost : Option Value → zSt → Prop} (hm : ∀ r σ, post r σ → qost r σ) (h : zTr h0 qs ks d j av σ post) : zTr h0 qs ks d j av σ qost := by
  cases d with
  | zero => exact h.elim
  | succ d =>
    obtain ⟨en, h1, h2, h3⟩ := h
    exact ⟨en, h1, h2, fun X hX => h3 X (zSem_post hm hX)⟩
/-- what is shown by the rules is a contract -/
theorem zTr_met {l : Launch} {dC : Nat → ClassId} {dI : Nat → Nat → Nat} {ks : Nat → Nat} {sz0 : Nat} {h0 : Nat} {qs : List Nat} {cs : List ClassId} (hso : zSo l dC dI ks sz0 h0 qs cs) (hq : qs.length = 122) (hc : cs.length = 122) : ∀ (d j : Nat) (av : List Value) (σ : zSt) (post : Option Value → zSt → Prop), zTr h0 qs ks d j av σ post → ∀ en, zmt[j]? = some en → zMe l dC dI ks sz0 h0 qs cs d en av σ post
  | 0, _, _, _, _, h => h.elim
  | d + 1, j, av, σ, post, h => by
    obtain ⟨en, h1, h2, h3⟩ := h
    intro en' he sz
    cases he.symm.trans h1
    have hok := zmt_ok en (List.mem_of_getElem? h1)
    refine Met.ofW (cc := en.2.1) (maxL := en.2.2.1) (ret := en.2.2.2.2.2) hok.2.2.2 rfl ?_
    intro p e s m args below meth c s₁ B hml hv
    obtain ⟨rfl, hsz, hP, hK, hD0, hz0, hE⟩ := hv
    subst hsz
    have hown : s.vm.findClass RX13 = some m.cls := by
      have h9 := findClass_of_methodNamed B.named
      rw [hok.1] at h9
      exact h9
    have hA0 : ∀ q, zAd h0 qs s.heap.size q → sz0 ≤ q := fun q h => by
      rcases h with h | h | h
      · rw [h]; exact hD0.2 0 _ rfl
      · obtain ⟨i, hi⟩ := List.getElem?_of_mem h
        have hi1 : i < 122 := by
          have := (List.getElem?_eq_some_iff.mp hi).1
          omega
        have h9 := hD0.2 (i + 1) _ (zwR_at hi1)
        have h8 : qs.getD i 0 = q := by rw [List.getD_eq_getElem?_getD, hi]; rfl
        rw [← h8]
        exact h9
      · exact Nat.le_trans hz0 h
    have hC : zCx p l (headSpec (zws en) (zrm (d + 1))).room s m av.toArray meth c en.2.1 en.2.2.1 (d + 1) en.2.2.2.2.2 dC dI ks sz0 h0 qs cs en (zTr h0 qs ks d) := ⟨⟨B.exec, B.bytes, hml, hown, atoms_spec (ws := zws en) B.pre⟩, hK, hq, hc, fun τ => zwR_D (zAd_D hq hD0), hE, B.returns, B.notSynchronized, ⟨Nat.le_refl _, Nat.le_refl _, hA0, hz0, hso⟩, fun j' av' σ' P hk => ⟨d, Nat.le_refl _, fun en' he' => zTr_met hso hq hc d j' av' σ' P hk en' he'⟩⟩
    have h9 := h3 _ (zi_all (e := e) (below := below) (post := post) hC)
    rw [lg_entry_eq]
    have hl := lv_entry av (n := en.2.2.1) h2
    refine h9 _ s.heap [] ⟨hl.1, hl.2.1, fun i v hi => ?_⟩ hP va_S.rf
    have hi2 : i < en.2.2.1 := by
      have := (List.getElem?_eq_some_iff.mp hi).1
      simpa [zent] using this
    simp only [zent, List.getElem?_map, List.getElem?_range hi2, Option.map_some] at hi
    have hi3 : (lv_args 0 av).lookup i = some v := by simpa using hi
    refine hl.2.2 (i, v) ?_
    clear h9 hl
    generalize lv_args 0 av = L at hi3
    induction L with
    | nil => simp at hi3
    | cons x L ih =>
      obtain ⟨a, b⟩ := x
      simp only [List.lookup] at hi3
      split at hi3
      next h10 =>
        cases hi3
        have : i = a := by simpa using h10
        subst this
        exact List.mem_cons_self
      next => exact List.mem_cons_of_mem _ (ih hi3)
