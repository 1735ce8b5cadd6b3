/-! the machine keeps the rules of the class's plain logic (what stands in 82) -/
def wOf : List Cond := .fieldLink RJx4a65c 63 "java/util/ArrayList" "modCount" "I" :: .sameField "java/util/ArrayList" "java/util/AbstractList" "modCount" "I" :: .fieldLink RJ0 38 "java/lang/String" "COMPACT_STRINGS" "Z" :: .fieldLink RJx4a65c 39 "java/util/ArrayList" "DEFAULTCAPACITY_EMPTY_ELEMENTDATA" "[Ljava/lang/Object;" :: .fieldLink RJ0 1053 "jdk/internal/util/Preconditions" "SIOOBE_FORMATTER" "Ljava/util/function/BiFunction;" :: .fieldLink RJ0 9 "java/lang/String" "value" "[B" :: .fieldLink RJ0 15 "java/lang/String" "coder" "B" :: oft.map (fun q => .fieldLink q.1 q.2.1 ((oq q.2.2.1).2.1 q.2.2.2).1 ((oq q.2.2.1).2.1 q.2.2.2).2.1 ((oq q.2.2.1).2.1 q.2.2.2).2.2.1)
def wOu : List Cond := (List.range 15).flatMap (fun ci => u_ws (oq ci).1 (oq ci).2.1 (oq ci).2.2)
def ocode (en : oMt) : Cond := .code en.1 en.2.1 en.2.2.1 en.2.2.2.2.2.1
def oyo (j : Nat) : MethodName := match omt[j]? with
  | some en => en.1
  | none => yX12_fault
def oyG : MethodName := ⟨"java/lang/Object", "getClass", "()Ljava/lang/Class;"⟩
/-- words of natives, Math, class links, casts -/
def wOj : List Cond := .initialized "java/lang/System" :: .native arraycopyName :: .static arraycopyName :: .initialized "java/lang/Math" :: .static Lib.Math.max.name :: .code Lib.Math.max.name Lib.Math.max.code 2 (some .int) :: .static Lib.Math.min.name :: .code Lib.Math.min.name Lib.Math.min.code 2 (some .int) :: .static Lib.Math.abs.name :: .code Lib.Math.abs.name Lib.Math.abs.code 1 (some .int) :: .static Lib.MathLoose.min_long.x :: .code Lib.MathLoose.min_long.x Lib.MathLoose.min_long.code 4 (some .long) :: .static Lib.MathLoose.abs_long.x :: .code Lib.MathLoose.abs_long.x Lib.MathLoose.abs_long.code 2 (some .long) :: .instanceMethod objectInit :: .code objectInit ⟨#[0xb1]⟩ 1 none :: .classLink RJ7 110 "[Ljava/lang/Object;" :: .methodLink RJ7 86 oyG :: .selects "[Ljava/lang/Object;" oyG oyG :: .instanceMethod oyG :: .native oyG :: .classLink RX3 15 (FieldType.array .int).toString :: (ocp.map (fun q => .methodLink q.1 q.2 arraycopyName) ++ (ommax.map (fun q => .methodLink q.1 q.2 Lib.Math.max.name) ++ (ommin.map (fun q => .methodLink q.1 q.2 Lib.Math.min.name) ++ (omabs.map (fun q => .methodLink q.1 q.2 Lib.Math.abs.name) ++ (omminL.map (fun q => .methodLink q.1 q.2 Lib.MathLoose.min_long.x) ++ (omabsL.map (fun q => .methodLink q.1 q.2 Lib.MathLoose.abs_long.x) ++ (oil.map (fun q => .methodLink q.1 q.2 objectInit) ++ (okc.map (fun q => .classLink q.1 q.2.1 (oq q.2.2).1) ++ oOl.map (fun q => .classLink q.1 q.2 "java/lang/Object")))))))))
def wOk : List Cond := oci.map (fun q => .constant q.1 q.2.1 q.2.2) ++ (ocl.map (fun q => .constantLong q.1 q.2.1 q.2.2) ++ (onl.map (fun q => .classLink q.1 q.2.1 (oq q.2.2).1) ++ (onl.map (fun q => .instantiable (oq q.2.2).1 (oq q.2.2).2.2) ++ (onl.map (fun q => .initialized (oq q.2.2).1) ++ (oal.map (fun q => .classLink q.1 q.2.1 (oq q.2.2).1) ++ wOj)))))
def wOm : List Cond := olt.map (fun q => .methodLink q.1 q.2.1 (oyo q.2.2)) ++ (omt.map ocode ++ (omt.map (fun en => if en.2.2.2.2.1 = 1 then .static en.1 else .instanceMethod en.1) ++ ((omt.filter (fun en => en.2.2.2.2.1 == 0)).map (fun en => .selects en.2.2.2.2.2.2 en.1 en.1) ++ omt.map (fun en => .initialized en.2.2.2.2.2.2))))

/-- a contract out of a walk, for a method that no native stands for (Math's too) -/
theorem oMet_ofW {l : Launch} {y : MethodName} {ws ws' : List Cond} {rm : Room} {Pc : Array Value → State → Prop} {Qc : Array Value → State → Outcome → State → Prop} {mc ms : Nat} {free : Addr → Prop} {cc : ByteArray} {maxL : Nat} {ret : Option FieldType} (hy : plainFor y = true) (hw : ws = Cond.code y cc maxL ret :: ws') (body : ∀ p e s m args below meth c s₁, BodyLoose p l y (headSpec ws rm) cc maxL ret e s m args below meth c s₁ → c.maxLocals = maxL → Pc args s → W p l e (headSpec ws rm).room s m args below meth c s.heap [] 0 0 (MQ below Qc args s mc ms free) (entryFrame m args maxL)) : Met l y ws rm Pc Qc mc ms free := by
  refine MetFree.of_bodySF (code := cc) (maxLocals := maxL) (ret := ret) hy (fun args s m h hn => ?_) (fun p e s m args below meth c s₁ B hml hP _ => ?_)
  · obtain ⟨meth, c, h1, h2, h3, h4, h5, h6, -, -⟩ := Cond.code_spec hn (atoms_spec (ws := ws) h _ (by rw [hw]; exact List.mem_cons_self))
    exact ⟨meth, c, h1, h2, h3, h4, h5, h6⟩
  · have hh0 : s₁.heap = s.heap := by rw [B.state]; rfl
    obtain ⟨t, a1, o, b1, b2, b3⟩ := body p e s m args below meth c s₁ B hml hP s₁ hh0 (Stand.of_body B)
    exact ⟨t, o, a1, b1, b2, ⟨b3.1, b3.2⟩⟩
def wOa : List Cond := [.arrayClass .int, .arrayClass .boolean, .arrayClass .byte, .arrayClass .char, .arrayClass .long]
def wOx : List Cond := wOf ++ (wOu ++ (wOk ++ wOm))
def ows (en : oMt) : List Cond := ocode en :: (wOx ++ wOa)
theorem wOx_good : wOx.all (fun w => w.onTables && w.keeps) = true := by decide +kernel
theorem omt_ok : ∀ en ∈ omt, en.1.cls = en.2.2.2.2.2.2 ∧ (parseMethodDescriptor en.1.desc).map (fun d => d.parameters.length) = some en.2.2.2.1 ∧ en.2.2.1 ≤ 13 ∧ plainFor en.1 = true ∧ en.1.cls ≠ "java/lang/invoke/MethodHandle" ∧ en.1.cls ≠ "java/lang/invoke/VarHandle" := by decide +kernel
theorem onl_ok : ∀ q ∈ onl, q.2.2 < 15 := by decide +kernel
theorem oal_ok : ∀ q ∈ oal, q.2.2 < 15 := by decide +kernel
theorem wOx_k {w : Cond} (h : w ∈ wOk) : w ∈ wOx := List.mem_append_right _ (List.mem_append_right _ (List.mem_append_left _ h))
theorem wOx_m {w : Cond} (h : w ∈ wOm) : w ∈ wOx := List.mem_append_right _ (List.mem_append_right _ (List.mem_append_right _ h))
theorem wOm_link {own : String} {ix j : Nat} {en : oMt} (h : (own, ix, j) ∈ olt) (he : omt[j]? = some en) : (Cond.methodLink own ix en.1) ∈ wOx := wOx_m (List.mem_append_left _ (List.mem_map.mpr ⟨(own, ix, j), h, by simp [oyo, he]⟩))
theorem wOm_code {j : Nat} {en : oMt} (he : omt[j]? = some en) : ocode en ∈ wOx := wOx_m (List.mem_append_right _ (List.mem_append_left _ (List.mem_map.mpr ⟨en, List.mem_of_getElem? he, rfl⟩)))
theorem wOm_inst {j : Nat} {en : oMt} (he : omt[j]? = some en) (hs : ¬ en.2.2.2.2.1 = 1) : (Cond.instanceMethod en.1) ∈ wOx := wOx_m (List.mem_append_right _ (List.mem_append_right _ (List.mem_append_left _ (List.mem_map.mpr ⟨en, List.mem_of_getElem? he, by simp [hs]⟩))))
theorem wOm_stat {j : Nat} {en : oMt} (he : omt[j]? = some en) (hs : en.2.2.2.2.1 = 1) : (Cond.static en.1) ∈ wOx := wOx_m (List.mem_append_right _ (List.mem_append_right _ (List.mem_append_left _ (List.mem_map.mpr ⟨en, List.mem_of_getElem? he, by simp [hs]⟩))))
theorem wOm_sel {j : Nat} {en : oMt} (he : omt[j]? = some en) (hs : en.2.2.2.2.1 = 0) : (Cond.selects en.2.2.2.2.2.2 en.1 en.1) ∈ wOx := wOx_m (List.mem_append_right _ (List.mem_append_right _ (List.mem_append_right _ (List.mem_append_left _ (List.mem_map.mpr ⟨en, List.mem_filter.mpr ⟨List.mem_of_getElem? he, by simp [hs]⟩, rfl⟩)))))
theorem wOm_ini {j : Nat} {en : oMt} (he : omt[j]? = some en) : (Cond.initialized en.2.2.2.2.2.2) ∈ wOx := wOx_m (List.mem_append_right _ (List.mem_append_right _ (List.mem_append_right _ (List.mem_append_right _ (List.mem_map.mpr ⟨en, List.mem_of_getElem? he, rfl⟩)))))
theorem oarr_good : ∀ w ∈ wOa, (w.onTables && w.keeps) = true ∨ ∃ ty, w = .arrayClass ty := fun w h => by
  simp only [wOa, List.mem_cons, List.not_mem_nil, or_false] at h
  rcases h with h | h | h | h | h <;> exact Or.inr ⟨_, h⟩
theorem ogood_of {e0 : oMt} {ws : List Cond} (h : ∀ w ∈ ws, w ∈ wOx ∨ w ∈ wOa) : GoodIn (ows e0) ws := fun w hw => by
  rcases h w hw with h1 | h1
  · exact ⟨List.mem_cons_of_mem _ (List.mem_append_left _ h1), Or.inl (List.all_eq_true.mp wOx_good w h1)⟩
  · exact ⟨List.mem_cons_of_mem _ (List.mem_append_right _ h1), oarr_good w h1⟩
theorem ows_in {j : Nat} {en : oMt} (he : omt[j]? = some en) : ∀ w ∈ ows en, w ∈ wOx ∨ w ∈ wOa := fun w h => by
  rcases List.mem_cons.mp h with h | h
  · rw [h]; exact Or.inl (wOm_code he)
  · exact List.mem_append.mp h
theorem ogoodV {e0 en : oMt} {own : String} {ix j : Nat} (h : (own, ix, j) ∈ olt) (he : omt[j]? = some en) (hs : en.2.2.2.2.1 = 0) : GoodIn (ows e0) (wsV own ix en.2.2.2.2.2.2 en.1 (ows en)) := ogood_of (fun w hw => by
  rcases List.mem_append.mp hw with h1 | h1
  · simp only [List.mem_cons, List.not_mem_nil, or_false] at h1
    rcases h1 with h1 | h1 | h1 | h1
    · rw [h1]; exact Or.inl (wOm_link h he)
    · rw [h1]; exact Or.inl (wOm_inst he (by rw [hs]; decide))
    · rw [h1]; exact Or.inl (wOm_sel he hs)
    · rw [h1]; exact Or.inl (wOm_ini he)
  · exact ows_in he w h1)
theorem ogoodS {e0 en : oMt} {own : String} {ix j : Nat} (h : (own, ix, j) ∈ olt) (he : omt[j]? = some en) (hs : en.2.2.2.2.1 = 1) : GoodIn (ows e0) (va_wsS own ix en.1 (ows en)) := ogood_of (fun w hw => by
  rcases List.mem_append.mp hw with h1 | h1
  · simp only [List.mem_cons, List.not_mem_nil, or_false] at h1
    rcases h1 with h1 | h1 | h1
    · rw [h1]; exact Or.inl (wOm_link h he)
    · rw [h1]; exact Or.inl (wOm_stat he hs)
    · rw [h1, (omt_ok en (List.mem_of_getElem? he)).1]; exact Or.inl (wOm_ini he)
  · exact ows_in he w h1)
theorem okc_ok : ∀ q ∈ okc, q.2.2 < 15 := by decide +kernel
theorem oln_ok : ∀ q ∈ oln, ∀ en, omt[q.2.2]? = some en → ∀ U, zEv U → va_Nw (.methodLinkNest q.1 q.2.1 en.1 "LiquidTongue") U := by
  intro q hq en he U h
  simp only [oln, List.mem_cons, List.not_mem_nil, or_false] at hq
  rcases hq with rfl | rfl | rfl | rfl | rfl
  · cases he; exact h.n1
  · cases he; exact h.n2
  · cases he; exact h.n3
  · cases he; exact h.n4
  · cases he; exact h.n5
theorem oI_nm : ∀ en ∈ omt, en.2.2.2.2.1 = 2 → en.1.name = "<init>" := by decide +kernel
theorem oft_ok : ∀ q ∈ oft, q.2.2.1 < 15 ∧ q.2.2.2 < (oq q.2.2.1).2.2 := by decide +kernel
theorem oq_ty : ∀ ci, ci < 15 → ∀ k, k < (oq ci).2.2 → (parseFieldDescriptor ((oq ci).2.1 k).2.2.1).isSome = true := by decide +kernel
theorem oq_nm : ∀ ci, ci < 15 → ∀ a, a < (oq ci).2.2 → ∀ b, b < (oq ci).2.2 → a ≠ b → ((oq ci).2.1 a).2.1 ≠ ((oq ci).2.1 b).2.1 := by decide +kernel
theorem oq_at {ci : Nat} (h : ci < 15) : vwCl[ci]? = some (oq ci) := by
  have hl : ci < vwCl.length := Nat.lt_trans h (by decide)
  unfold oq
  rw [List.getD_eq_getElem?_getD, List.getElem?_eq_getElem hl]
  rfl
theorem oty_ok {ci : Nat} (h : ci < 15) : ∀ k, k < (oq ci).2.2 → parseFieldDescriptor ((oq ci).2.1 k).2.2.1 = some (oty ci k) := fun k hk => by
  have h1 := oq_ty ci h k hk
  unfold oty
  cases h2 : parseFieldDescriptor ((oq ci).2.1 k).2.2.1 with
  | none => rw [h2] at h1; cases h1
  | some x => rfl
/-- what holds of the machine beside the class's cells -/
def oKe (κ : oKv) (sz0 : Nat) (U : State) (H : Heap) : Prop := ∀ (i : Nat) (q : String × Nat × String), okt[i]? = some q → vk_R q.1 q.2.1 q.2.2 (κ.1 i) U ∧ va_O "java/lang/String" (κ.1 i) (fun x => sz0 ≤ x) U H ∧ va_OF "java/lang/String" "coder" "B" (.int 0) (κ.1 i) (fun x => sz0 ≤ x) U H ∧ va_OF "java/lang/String" "value" "[B" (.ref (κ.2.1 i)) (κ.1 i) (fun x => sz0 ≤ x) U H ∧ va_T .byte (κ.2.1 i) q.2.2.toList.length (fun j => .int (zch q.2.2 j)) (fun x => sz0 ≤ x) U H
def oEv (κ : oKv) (sz0 : Nat) (U : State) : Prop := zEv U ∧ oKe κ sz0 U U.heap ∧ va_Z "java/lang/String" "COMPACT_STRINGS" "Z" (.int 1) (fun x => sz0 ≤ x) U U.heap ∧ va_Z "java/util/ArrayList" "DEFAULTCAPACITY_EMPTY_ELEMENTDATA" "[Ljava/lang/Object;" (.ref κ.2.2.1) (fun x => sz0 ≤ x) U U.heap ∧ va_T (.object "java/lang/Object") κ.2.2.1 0 (fun _ => .null) (fun x => sz0 ≤ x) U U.heap ∧ va_Z "jdk/internal/util/Preconditions" "SIOOBE_FORMATTER" "Ljava/util/function/BiFunction;" (va_rf κ.2.2.2.2) (fun x => sz0 ≤ x) U U.heap ∧ (∀ ci, ci < 15 → ci ≠ 1 → va_Nw (.castable (oq ci).1 "java/lang/Object") U) ∧ va_Mi "[Ljava/lang/Object;" κ.2.2.2.1 U ∧ va_Dc U
theorem oEv.call {κ : oKv} {sz0 : Nat} {s U : State} {A : Nat → Prop} {H : Heap} {locs : List Loc} (h : oEv κ sz0 s) (hA0 : ∀ q, A q → sz0 ≤ q) (hS : va_S A s.heap H locs) (hU : U.heap = H) (hW : s.WarmedH U.vm) : oEv κ sz0 U := by
  obtain ⟨h1, h2, h3, h4, h5, h6, h7, h8, h9⟩ := h
  have hk : ∀ a : Nat, a < s.heap.size → ¬ (fun q : Nat => sz0 ≤ q) a → U.heap[a]? = s.heap[a]? := fun a g1 g3 => by rw [hU]; exact hS.2.1 a g1 (fun x => g3 (hA0 a x))
  refine ⟨h1.warm hW, fun i q hq => ?_, (va_Z.moved hW.alike h3).kept hk, (va_Z.moved hW.alike h4).kept hk, (va_T.moved hW.alike h5).kept hk, (va_Z.moved hW.alike h6).kept hk, fun ci hci hc1 => va_Nw.warmC hW (h7 ci hci hc1), va_Mi.moved hW.alike h8, va_Dc.moved hW.alike h9⟩
  obtain ⟨g1, g2, g3, g4, g5⟩ := h2 i q hq
  exact ⟨vk_R.warm hW g1, (va_O.moved hW.alike g2).kept hk, (va_OF.moved hW.alike g3).kept hk, (va_OF.moved hW.alike g4).kept hk, (va_T.moved hW.alike g5).kept hk⟩
theorem oEv.calling {κ : oKv} {sz0 : Nat} {U : State} (h : oEv κ sz0 U) (g : JFrame) (mk : MethodId) (a : Array Value) : oEv κ sz0 (U.calling g mk a) := by
  obtain ⟨h1, h2, h3, h4, h5, h6, h7, h8, h9⟩ := h
  have hv : U.vm.Alike (U.calling g mk a).vm := Vm.Alike.refl U.vm
  refine ⟨h1.same (U := U.calling g mk a) rfl, fun i q hq => ?_, va_Z.moved hv h3, va_Z.moved hv h4, va_T.moved hv h5, va_Z.moved hv h6, fun ci hci hc1 => va_Nw.same (u := U) (U := U.calling g mk a) rfl rfl (h7 ci hci hc1), va_Mi.moved hv h8, va_Dc.moved hv h9⟩
  obtain ⟨g1, g2, g3, g4, g5⟩ := h2 i q hq
  exact ⟨vk_R.same (u := U) (U := U.calling g mk a) rfl g1, va_O.moved hv g2, va_OF.moved hv g3, va_OF.moved hv g4, va_T.moved hv g5⟩
theorem oal_ao : ∀ q ∈ oal, ∀ U, zEv U → va_AO (oq q.2.2).1 U := by
  intro q hq U h
  have h9 : q.2.2 = 6 ∨ q.2.2 = 7 ∨ q.2.2 = 11 := (show ∀ q ∈ oal, q.2.2 = 6 ∨ q.2.2 = 7 ∨ q.2.2 = 11 by decide +kernel) q hq
  rcases h9 with e | e | e <;> rw [e]
  · exact h.ao_RX4
  · exact h.ao_RX5
  · exact h.ao_RX9
theorem okt_lt {i : Nat} {q : String × Nat × String} (h : okt[i]? = some q) : i < 17 := (List.getElem?_eq_some_iff.mp h).1
def oQ (ret : Option FieldType) (w0 : Option Value × oSt) (B : oSt → State → Prop) (A : Nat → Prop) : Array Value → State → Outcome → State → Prop := if okd ret = 0 then va_Qv (fun u => (none, u) = w0) B A else if okd ret = 1 then va_Ql (fun r u => (some (.long r), u) = w0) B A else if okd ret = 2 then va_Qi (fun r u => (some (.int r), u) = w0) B A else va_Qq (fun r u => (some (va_rf r), u) = w0) B A
theorem oQ_v {ret : Option FieldType} {w0 : Option Value × oSt} {B : oSt → State → Prop} {A : Nat → Prop} (h : okd ret = 0) : oQ ret w0 B A = va_Qv (fun u => (none, u) = w0) B A := if_pos h
theorem oQ_l {ret : Option FieldType} {w0 : Option Value × oSt} {B : oSt → State → Prop} {A : Nat → Prop} (h : okd ret = 1) : oQ ret w0 B A = va_Ql (fun r u => (some (.long r), u) = w0) B A := by unfold oQ; rw [if_neg (by rw [h]; decide), if_pos h]
theorem oQ_i {ret : Option FieldType} {w0 : Option Value × oSt} {B : oSt → State → Prop} {A : Nat → Prop} (h : okd ret = 2) : oQ ret w0 B A = va_Qi (fun r u => (some (.int r), u) = w0) B A := by unfold oQ; rw [if_neg (by rw [h]; decide), if_neg (by rw [h]; decide), if_pos h]
theorem oQ_q {ret : Option FieldType} {w0 : Option Value × oSt} {B : oSt → State → Prop} {A : Nat → Prop} (h : okd ret = 3) : oQ ret w0 B A = va_Qq (fun r u => (some (va_rf r), u) = w0) B A := by unfold oQ; rw [if_neg (by rw [h]; decide), if_neg (by rw [h]; decide), if_neg (by rw [h]; decide)]
/-- the world behind a method of the class that began at σ -/
def oBw (dC : Nat → ClassId) (dI : Nat → Nat → Nat) (σ u : oSt) (t : State) : Prop := oR dC dI (oA σ) t u t.heap ∧ (∀ a, (σ.1 a).isSome = true → (u.1 a).isSome = true) ∧ (∀ a, σ.2.1 ≤ a → a < u.2.1 → (u.1 a).isSome = true) ∧ σ.2.2.1 ≤ u.2.2.1 ∧ σ.2.2.2 ≤ u.2.2.2 ∧ u.2.1 = σ.2.1 + (u.2.2.1 - σ.2.2.1) ∧ u.2.1 ≤ t.heap.size
/-- what holds of state and heap all through a body -/
def oInv (dC : Nat → ClassId) (dI : Nat → Nat → Nat) (s : State) (σ0 σ : oSt) (H : Heap) (locs : List Loc) : Prop := oR dC dI (oA σ0) s σ H ∧ va_S (oA σ0) s.heap H locs ∧ oLc σ H locs ∧ oSz s σ0 σ H ∧ (∀ a, (σ0.1 a).isSome = true → (σ.1 a).isSome = true) ∧ (∀ a, σ0.2.1 ≤ a → a < σ.2.1 → (σ.1 a).isSome = true)
/-- room: d calls may stand within -/
def orm (d mc ms : Nat) : Room := { frames := d + 8, cells := mc, slots := ms, locals := 40 * d + 320 }
def oPr (dC : Nat → ClassId) (dI : Nat → Nat → Nat) (κ : oKv) (sz0 : Nat) (av : List Value) (σ : oSt) : Array Value → State → Prop := va_Pc av (fun U => σ.2.1 = U.heap.size ∧ oR dC dI (oA σ) U σ U.heap ∧ (∀ q, oA σ q → sz0 ≤ q) ∧ oEv κ sz0 U)
/-- the contract of a method of the class with the outcome w -/
def oMe (l : Launch) (dC : Nat → ClassId) (dI : Nat → Nat → Nat) (κ : oKv) (sz0 d : Nat) (en : oMt) (av : List Value) (σ : oSt) (w : Option Value × oSt) : Prop := Met l en.1 (ows en) (orm d (w.2.2.2.1 - σ.2.2.1) (w.2.2.2.2 - σ.2.2.2)) (oPr dC dI κ sz0 av σ) (oQ en.2.2.2.2.2.1 w (oBw dC dI σ) (oA σ)) (w.2.2.2.1 - σ.2.2.1) (w.2.2.2.2 - σ.2.2.2) (oA σ)
theorem orf_inj {x y : Option Nat} (h : va_rf x = va_rf y) : x = y := by
  rcases x with _ | a <;> rcases y with _ | b
  · rfl
  · cases h
  · cases h
  · cases h; rfl
section OXI
variable {p : Program} {l : Launch} {e : Env} {R : Room} {s : State} {m : MethodId} {args : Array Value} {below : List Frame} {meth : Method} {c : Code}
variable {own : String} {cc : ByteArray} {nL : Nat} {ret : Option FieldType} {dC : Nat → ClassId} {dI : Nat → Nat → Nat} {σ0 : oSt} {w0 : Option Value × oSt} {Ts : List Cond} {kc : Nat → List Value → oSt → Option Value × oSt → Prop}
variable {κ : oKv} {d0 sz0 kd : Nat} {e0 : oMt}
/-- the counters of the outcome are no smaller -/
def omo (σ : oSt) (w : Option Value × oSt) : Prop := σ.2.2.1 ≤ w.2.2.2.1 ∧ σ.2.2.2 ≤ w.2.2.2.2
/-- what holds all through a body of the class -/
def oCx (p : Program) (l : Launch) (R : Room) (s : State) (m : MethodId) (args : Array Value) (meth : Method) (c : Code) (own : String) (cc : ByteArray) (nL kd d0 : Nat) (ret : Option FieldType) (dC : Nat → ClassId) (dI : Nat → Nat → Nat) (κ : oKv) (sz0 : Nat) (σ0 : oSt) (w0 : Option Value × oSt) (e0 : oMt) (kc : Nat → List Value → oSt → Option Value × oSt → Prop) : Prop :=
  CallFix p m c cc nL s args (ows e0) own ∧ meth.sig.returnType = ret ∧ meth.locks = false ∧ (d0 + 8 ≤ R.frames ∧ 40 * d0 + 320 ≤ R.locals ∧ w0.2.2.2.1 - σ0.2.2.1 ≤ R.cells ∧ w0.2.2.2.2 - σ0.2.2.2 ≤ R.slots) ∧ (kd = 2 → meth.name = "<init>") ∧ (oEv κ sz0 s ∧ ∀ q, oA σ0 q → sz0 ≤ q) ∧ ∀ (j : Nat) (av : List Value) (σ : oSt) (w : Option Value × oSt), kc j av σ w → omo σ w ∧ ∃ d, d + 1 ≤ d0 ∧ ∀ en, omt[j]? = some en → oMe l dC dI κ sz0 d en av σ w
/-- the machine at a place of a body of the class -/
def oX (p : Program) (l : Launch) (e : Env) (R : Room) (s : State) (m : MethodId) (args : Array Value) (below : List Frame) (meth : Method) (c : Code) (nL : Nat) (ret : Option FieldType) (dC : Nat → ClassId) (dI : Nat → Nat → Nat) (σ0 : oSt) (w0 : Option Value × oSt) (pc : Nat) (lv : zLv) (st : List Value) (σ : oSt) : Prop :=
  omo σ w0 ∧ ∀ (ls : Array Slot) (H : Heap) (locs : List Loc), zhas ls nL lv → oInv dC dI s σ0 σ H locs → W p l e R s m args below meth c H locs (σ.2.2.1 - σ0.2.2.1) (σ.2.2.2 - σ0.2.2.2) (MQ below (oQ ret w0 (oBw dC dI σ0) (oA σ0)) args s (w0.2.2.2.1 - σ0.2.2.1) (w0.2.2.2.2 - σ0.2.2.2) (oA σ0)) (F0 m pc ls st)
theorem oSz.low {s : State} {σ0 σ : oSt} {H : Heap} (h : oSz s σ0 σ H) : s.heap.size + (σ.2.2.1 - σ0.2.2.1) ≤ H.size := by
  have h1 := h.2.2.2.1
  have h2 := h.2.2.2.2
  omega
theorem oSz.put {s : State} {σ0 σ : oSt} {H H1 : Heap} {a : Nat} {x : oC} (h : oSz s σ0 σ H) (hz : H1.size = H.size) : oSz s σ0 (oput σ a x) H1 := ⟨h.1, h.2.1, h.2.2.1, h.2.2.2.1, by rw [hz]; exact h.2.2.2.2⟩
theorem oInv.put {H H1 : Heap} {locs locs1 : List Loc} {σ : oSt} {a : Nat} {x : oC} (h : oInv dC dI s σ0 σ H locs) (hR1 : oR dC dI (oA σ0) s (oput σ a x) H1) (hS1 : va_S (oA σ0) s.heap H1 locs1) (hL1 : oLc (oput σ a x) H1 locs1) (hz : H1.size = H.size) : oInv dC dI s σ0 (oput σ a x) H1 locs1 := by
  have hd : ∀ b, (σ.1 b).isSome = true → ((oput σ a x).1 b).isSome = true := fun b hb => by
    by_cases e : b = a
    · simp [oput, e]
    · simpa [oput, e] using hb
  exact ⟨hR1, hS1, hL1, h.2.2.2.1.put hz, fun b hb => hd b (h.2.2.2.2.1 b hb), fun b h1 h2 => hd b (h.2.2.2.2.2 b h1 h2)⟩
theorem oInv.made {H H1 : Heap} {locs : List Loc} {σ : oSt} {n : Nat} {x : oC} (h : oInv dC dI s σ0 σ H locs) (hR1 : oR dC dI (oA σ0) s (onew σ x n) H1) (hS1 : va_S (oA σ0) s.heap H1 locs) (hL1 : oLc (onew σ x n) H1 locs) (hz : H1.size = H.size + 1) : oInv dC dI s σ0 (onew σ x n) H1 locs := by
  have hd : ∀ b, (σ.1 b).isSome = true → ((onew σ x n).1 b).isSome = true := fun b hb => by
    by_cases e : b = σ.2.1
    · simp [onew, e]
    · simpa [onew, e] using hb
  obtain ⟨z1, z2, z3, z4, z5⟩ := h.2.2.2.1
  refine ⟨hR1, hS1, hL1, ⟨z1, Nat.le_succ_of_le z2, Nat.le_trans z3 (Nat.le_add_right _ _), ?_, ?_⟩, fun b hb => hd b (h.2.2.2.2.1 b hb), fun b h1 h2 => ?_⟩
  · show σ.2.1 + 1 = s.heap.size + (σ.2.2.1 + 1 - σ0.2.2.1)
    omega
  · show σ.2.1 + 1 ≤ H1.size
    omega
  · by_cases e : b = σ.2.1
    · simp [onew, e]
    · have h3 : b < σ.2.1 + 1 := h2
      exact hd b (h.2.2.2.2.2 b h1 (by omega))
theorem oInv.size {H : Heap} {locs : List Loc} {σ : oSt} (h : oInv dC dI s σ0 σ H locs) (hup : H.size ≤ s.heap.size + (σ.2.2.1 - σ0.2.2.1)) : σ.2.1 = H.size := by
  obtain ⟨z1, z2, z3, z4, z5⟩ := h.2.2.2.1
  omega
theorem oPr_blind {av : List Value} {σ : oSt} : FrameBlind (oPr dC dI κ sz0 av σ) := fun a U g mk q => by
  obtain ⟨q0, q1, qR, qz, qE⟩ := q
  exact ⟨q0, q1, qR.moved (U := U.calling g mk a) (Vm.Alike.refl U.vm), qz, qE.calling g mk a⟩
theorem oInv.sub {H : Heap} {locs : List Loc} {σ : oSt} (h : oInv dC dI s σ0 σ H locs) (hnx : σ.2.1 = H.size) : ∀ q, oA σ q → oA σ0 q := fun q hq => by
  rcases hq with hq | hq
  · obtain ⟨d, hd⟩ := Option.isSome_iff_exists.mp hq
    exact h.1.in hd
  · refine Or.inr ?_
    rw [h.2.2.2.1.1]
    exact Nat.le_trans h.2.1.1 (by rw [← hnx]; exact hq)
/-- behind a call -/
theorem oInv.call {H H1 : Heap} {locs locs1 : List Loc} {σ u : oSt} {t : State} (h : oInv dC dI s σ0 σ H locs) (hnx : σ.2.1 = H.size) (ht : t.heap = H1) (hvm : s.vm.Alike t.vm) (hB : oBw dC dI σ u t) (hS1 : va_S (oA σ0) s.heap H1 locs1) (hL : ∀ x ∈ locs1, x ∈ locs ∨ oA σ x.base) (hup : H1.size ≤ s.heap.size + (u.2.2.1 - σ0.2.2.1)) : oInv dC dI s σ0 u H1 locs1 := by
  obtain ⟨b1, b2, b3, b4, b5, b6, b7⟩ := hB
  rw [ht] at b1 b7
  obtain ⟨z1, z2, z3, z4, z5⟩ := h.2.2.2.1
  have hdm : ∀ a c, u.1 a = some c → oA σ0 a := fun a c e => h.sub hnx a (b1.in e)
  have hfull : ∀ a, σ.2.1 ≤ a → (u.1 a).isSome = true ∨ H1.size ≤ a := fun a h1 => by
    by_cases h2 : a < u.2.1
    · exact Or.inl (b3 a h1 h2)
    · exact Or.inr (by omega)
  refine ⟨(b1.moved hvm.symm).weaken hdm, hS1, fun x hx => ?_, ⟨z1, Nat.le_trans z2 b4, Nat.le_trans z3 b5, by omega, b7⟩, fun a ha => b2 a (h.2.2.2.2.1 a ha), fun a h1 h2 => ?_⟩
  · rcases hL x hx with hl | hl
    · rcases h.2.2.1 x hl with h3 | h3
      · exact Or.inl (b2 _ h3)
      · exact hfull _ (by rw [hnx]; exact h3)
    · rcases hl with h3 | h3
      · exact Or.inl (b2 _ h3)
      · exact hfull _ h3
  · by_cases h3 : a < σ.2.1
    · exact b2 a (h.2.2.2.2.2 a h1 h3)
    · exact b3 a (by omega) h2
theorem oW_wide {H : Heap} {locs : List Loc} {σ : oSt} (hI : oInv dC dI s σ0 σ H locs) (h0 : ∀ q, oA σ0 q → sz0 ≤ q) : va_S (fun q => sz0 ≤ q) s.heap H locs := ⟨hI.2.1.1, fun q h1 h2 => hI.2.1.2.1 q h1 (fun h => h2 (h0 q h)), fun x hx => h0 _ (hI.2.1.2.2 x hx)⟩
theorem ocls (ci : Nat) (h : ci < 15) {σ : oSt} {A : Nat → Prop} {H : Heap} {a : Nat} {fs : List Value} (hR : oR dC dI A s σ H) (ha : σ.1 a = some (.inr (ci, fs))) : ∃ cell : Cell, H[a]? = some cell ∧ cell.vm.isStatics = false ∧ s.vm.findClass (oq ci).1 = some cell.cls := by
  obtain ⟨ws, tys, g1, g2, g3, g4⟩ := hR
  obtain ⟨q0, g5⟩ := g4.o ha
  exact va_recv (q := oq ci) g3 g1 (oq_at h) g5
theorem oi_iconst (C : oCx p l R s m args meth c own cc nL kd d0 ret dC dI κ sz0 σ0 w0 e0 kc) : or_iconst own cc nL kd ret κ kc w0 (oX p l e R s m args below meth c nL ret dC dI σ0 w0) := fun pc lv st σ n v d hv k => ⟨k.1, fun ls H locs hl hI => lv_iconst C.1.1 C.1.2.1 d hv (k.2 ls H locs hl hI)⟩
theorem oi_bipush (C : oCx p l R s m args meth c own cc nL kd d0 ret dC dI κ sz0 σ0 w0 e0 kc) : or_bipush own cc nL kd ret κ kc w0 (oX p l e R s m args below meth c nL ret dC dI σ0 w0) := fun pc lv st σ n v d hv k => ⟨k.1, fun ls H locs hl hI => lv_bipush C.1.1 C.1.2.1 d hv (k.2 ls H locs hl hI)⟩
theorem oi_sipush (C : oCx p l R s m args meth c own cc nL kd d0 ret dC dI κ sz0 σ0 w0 e0 kc) : or_sipush own cc nL kd ret κ kc w0 (oX p l e R s m args below meth c nL ret dC dI σ0 w0) := fun pc lv st σ n v d hv k => ⟨k.1, fun ls H locs hl hI => lv_sipush C.1.1 C.1.2.1 d hv (k.2 ls H locs hl hI)⟩
theorem oi_lconst (C : oCx p l R s m args meth c own cc nL kd d0 ret dC dI κ sz0 σ0 w0 e0 kc) : or_lconst own cc nL kd ret κ kc w0 (oX p l e R s m args below meth c nL ret dC dI σ0 w0) := fun pc lv st σ n v d hv k => ⟨k.1, fun ls H locs hl hI => lv_lconst C.1.1 C.1.2.1 d hv (k.2 ls H locs hl hI)⟩
theorem oi_iload (C : oCx p l R s m args meth c own cc nL kd d0 ret dC dI κ sz0 σ0 w0 e0 kc) : or_iload own cc nL kd ret κ kc w0 (oX p l e R s m args below meth c nL ret dC dI σ0 w0) := fun pc lv st σ i x d h1 k => ⟨k.1, fun ls H locs hl hI => lv_iload C.1.1 C.1.2.1 d (hl.2.2 i _ h1) (k.2 ls H locs hl hI)⟩
theorem oi_iload_n (C : oCx p l R s m args meth c own cc nL kd d0 ret dC dI κ sz0 σ0 w0 e0 kc) : or_iload_n own cc nL kd ret κ kc w0 (oX p l e R s m args below meth c nL ret dC dI σ0 w0) := fun pc lv st σ n i x d hi h1 k => ⟨k.1, fun ls H locs hl hI => lv_iload_n C.1.1 C.1.2.1 d hi (hl.2.2 i _ h1) (k.2 ls H locs hl hI)⟩
theorem oi_lload (C : oCx p l R s m args meth c own cc nL kd d0 ret dC dI κ sz0 σ0 w0 e0 kc) : or_lload own cc nL kd ret κ kc w0 (oX p l e R s m args below meth c nL ret dC dI σ0 w0) := fun pc lv st σ i x d h1 k => ⟨k.1, fun ls H locs hl hI => lv_lload C.1.1 C.1.2.1 d (hl.2.2 i _ h1) (k.2 ls H locs hl hI)⟩
theorem oi_lload_n (C : oCx p l R s m args meth c own cc nL kd d0 ret dC dI κ sz0 σ0 w0 e0 kc) : or_lload_n own cc nL kd ret κ kc w0 (oX p l e R s m args below meth c nL ret dC dI σ0 w0) := fun pc lv st σ n i x d hi h1 k => ⟨k.1, fun ls H locs hl hI => lv_lload_n C.1.1 C.1.2.1 d hi (hl.2.2 i _ h1) (k.2 ls H locs hl hI)⟩
theorem oi_istore (C : oCx p l R s m args meth c own cc nL kd d0 ret dC dI κ sz0 σ0 w0 e0 kc) : or_istore own cc nL kd ret κ kc w0 (oX p l e R s m args below meth c nL ret dC dI σ0 w0) := fun pc lv st σ i x d hn ho k => ⟨k.1, fun ls H locs hl hI => lv_istore C.1.1 C.1.2.1 d hl.to hn rfl (fun ls1 h1 => k.2 ls1 H locs (zhas.st1 ho h1) hI)⟩
theorem oi_istore_n (C : oCx p l R s m args meth c own cc nL kd d0 ret dC dI κ sz0 σ0 w0 e0 kc) : or_istore_n own cc nL kd ret κ kc w0 (oX p l e R s m args below meth c nL ret dC dI σ0 w0) := fun pc lv st σ n i x d hi hn ho k => ⟨k.1, fun ls H locs hl hI => lv_istore_n C.1.1 C.1.2.1 d hi hl.to hn rfl (fun ls1 h1 => k.2 ls1 H locs (zhas.st1 ho h1) hI)⟩
theorem oi_lstore (C : oCx p l R s m args meth c own cc nL kd d0 ret dC dI κ sz0 σ0 w0 e0 kc) : or_lstore own cc nL kd ret κ kc w0 (oX p l e R s m args below meth c nL ret dC dI σ0 w0) := fun pc lv st σ i x d hn ho k => ⟨k.1, fun ls H locs hl hI => lv_lstore C.1.1 C.1.2.1 d hl.to hn rfl (fun ls1 h1 => k.2 ls1 H locs (zhas.st2 ho h1) hI)⟩
theorem oi_lstore_n (C : oCx p l R s m args meth c own cc nL kd d0 ret dC dI κ sz0 σ0 w0 e0 kc) : or_lstore_n own cc nL kd ret κ kc w0 (oX p l e R s m args below meth c nL ret dC dI σ0 w0) := fun pc lv st σ n i x d hi hn ho k => ⟨k.1, fun ls H locs hl hI => lv_lstore_n C.1.1 C.1.2.1 d hi hl.to hn rfl (fun ls1 h1 => k.2 ls1 H locs (zhas.st2 ho h1) hI)⟩
theorem oi_iinc (C : oCx p l R s m args meth c own cc nL kd d0 ret dC dI κ sz0 σ0 w0 e0 kc) : or_iinc own cc nL kd ret κ kc w0 (oX p l e R s m args below meth c nL ret dC dI σ0 w0) := fun pc lv st σ i n x v d h1 hv hn ho k => ⟨k.1, fun ls H locs hl hI => by
  obtain ⟨n9, h9⟩ := List.getElem?_of_mem (zlist_mem.mpr h1)
  exact lv_iinc C.1.1 C.1.2.1 d hl.to h9 hv hn rfl (fun ls1 h2 => k.2 ls1 H locs (zhas.st1 ho h2) hI)⟩
theorem oi_weak (C : oCx p l R s m args meth c own cc nL kd d0 ret dC dI κ sz0 σ0 w0 e0 kc) : or_weak own cc nL kd ret κ kc w0 (oX p l e R s m args below meth c nL ret dC dI σ0 w0) := fun pc lv st σ lw hw k => ⟨k.1, fun ls H locs hl hI => k.2 ls H locs ⟨hl.1, hl.2.1, fun i v h => hl.2.2 i v (zle_at _ _ hw i v h)⟩ hI⟩
theorem oi_iadd (C : oCx p l R s m args meth c own cc nL kd d0 ret dC dI κ sz0 σ0 w0 e0 kc) : or_iadd own cc nL kd ret κ kc w0 (oX p l e R s m args below meth c nL ret dC dI σ0 w0) := fun pc lv st σ x y d k => ⟨k.1, fun ls H locs hl hI => lv_iadd C.1.1 C.1.2.1 d (k.2 ls H locs hl hI)⟩
theorem oi_isub (C : oCx p l R s m args meth c own cc nL kd d0 ret dC dI κ sz0 σ0 w0 e0 kc) : or_isub own cc nL kd ret κ kc w0 (oX p l e R s m args below meth c nL ret dC dI σ0 w0) := fun pc lv st σ x y d k => ⟨k.1, fun ls H locs hl hI => lv_isub C.1.1 C.1.2.1 d (k.2 ls H locs hl hI)⟩
theorem oi_imul (C : oCx p l R s m args meth c own cc nL kd d0 ret dC dI κ sz0 σ0 w0 e0 kc) : or_imul own cc nL kd ret κ kc w0 (oX p l e R s m args below meth c nL ret dC dI σ0 w0) := fun pc lv st σ x y d k => ⟨k.1, fun ls H locs hl hI => lv_imul C.1.1 C.1.2.1 d (k.2 ls H locs hl hI)⟩
theorem oi_ishr (C : oCx p l R s m args meth c own cc nL kd d0 ret dC dI κ sz0 σ0 w0 e0 kc) : or_ishr own cc nL kd ret κ kc w0 (oX p l e R s m args below meth c nL ret dC dI σ0 w0) := fun pc lv st σ x y d k => ⟨k.1, fun ls H locs hl hI => lv_ishr C.1.1 C.1.2.1 d (k.2 ls H locs hl hI)⟩
theorem oi_iand (C : oCx p l R s m args meth c own cc nL kd d0 ret dC dI κ sz0 σ0 w0 e0 kc) : or_iand own cc nL kd ret κ kc w0 (oX p l e R s m args below meth c nL ret dC dI σ0 w0) := fun pc lv st σ x y d k => ⟨k.1, fun ls H locs hl hI => lv_iand C.1.1 C.1.2.1 d (k.2 ls H locs hl hI)⟩
theorem oi_ixor (C : oCx p l R s m args meth c own cc nL kd d0 ret dC dI κ sz0 σ0 w0 e0 kc) : or_ixor own cc nL kd ret κ kc w0 (oX p l e R s m args below meth c nL ret dC dI σ0 w0) := fun pc lv st σ x y d k => ⟨k.1, fun ls H locs hl hI => lv_ixor C.1.1 C.1.2.1 d (k.2 ls H locs hl hI)⟩
theorem oi_irem (C : oCx p l R s m args meth c own cc nL kd d0 ret dC dI κ sz0 σ0 w0 e0 kc) : or_irem own cc nL kd ret κ kc w0 (oX p l e R s m args below meth c nL ret dC dI σ0 w0) := fun pc lv st σ x y d hne k => ⟨k.1, fun ls H locs hl hI => lv_irem C.1.1 C.1.2.1 d hne (k.2 ls H locs hl hI)⟩
theorem oi_ineg (C : oCx p l R s m args meth c own cc nL kd d0 ret dC dI κ sz0 σ0 w0 e0 kc) : or_ineg own cc nL kd ret κ kc w0 (oX p l e R s m args below meth c nL ret dC dI σ0 w0) := fun pc lv st σ x d k => ⟨k.1, fun ls H locs hl hI => lv_ineg C.1.1 C.1.2.1 d (k.2 ls H locs hl hI)⟩
theorem oi_ladd (C : oCx p l R s m args meth c own cc nL kd d0 ret dC dI κ sz0 σ0 w0 e0 kc) : or_ladd own cc nL kd ret κ kc w0 (oX p l e R s m args below meth c nL ret dC dI σ0 w0) := fun pc lv st σ x y d k => ⟨k.1, fun ls H locs hl hI => lv_ladd C.1.1 C.1.2.1 d (k.2 ls H locs hl hI)⟩
theorem oi_lsub (C : oCx p l R s m args meth c own cc nL kd d0 ret dC dI κ sz0 σ0 w0 e0 kc) : or_lsub own cc nL kd ret κ kc w0 (oX p l e R s m args below meth c nL ret dC dI σ0 w0) := fun pc lv st σ x y d k => ⟨k.1, fun ls H locs hl hI => lv_lsub C.1.1 C.1.2.1 d (k.2 ls H locs hl hI)⟩
theorem oi_lmul (C : oCx p l R s m args meth c own cc nL kd d0 ret dC dI κ sz0 σ0 w0 e0 kc) : or_lmul own cc nL kd ret κ kc w0 (oX p l e R s m args below meth c nL ret dC dI σ0 w0) := fun pc lv st σ x y d k => ⟨k.1, fun ls H locs hl hI => lv_lmul C.1.1 C.1.2.1 d (k.2 ls H locs hl hI)⟩
theorem oi_ldiv (C : oCx p l R s m args meth c own cc nL kd d0 ret dC dI κ sz0 σ0 w0 e0 kc) : or_ldiv own cc nL kd ret κ kc w0 (oX p l e R s m args below meth c nL ret dC dI σ0 w0) := fun pc lv st σ x y d hne k => ⟨k.1, fun ls H locs hl hI => lv_ldiv C.1.1 C.1.2.1 d hne (k.2 ls H locs hl hI)⟩
theorem oi_lrem (C : oCx p l R s m args meth c own cc nL kd d0 ret dC dI κ sz0 σ0 w0 e0 kc) : or_lrem own cc nL kd ret κ kc w0 (oX p l e R s m args below meth c nL ret dC dI σ0 w0) := fun pc lv st σ x y d hne k => ⟨k.1, fun ls H locs hl hI => lv_lrem C.1.1 C.1.2.1 d hne (k.2 ls H locs hl hI)⟩
theorem oi_lneg (C : oCx p l R s m args meth c own cc nL kd d0 ret dC dI κ sz0 σ0 w0 e0 kc) : or_lneg own cc nL kd ret κ kc w0 (oX p l e R s m args below meth c nL ret dC dI σ0 w0) := fun pc lv st σ x d k => ⟨k.1, fun ls H locs hl hI => lv_lneg C.1.1 C.1.2.1 d (k.2 ls H locs hl hI)⟩
theorem oi_i2l (C : oCx p l R s m args meth c own cc nL kd d0 ret dC dI κ sz0 σ0 w0 e0 kc) : or_i2l own cc nL kd ret κ kc w0 (oX p l e R s m args below meth c nL ret dC dI σ0 w0) := fun pc lv st σ x d k => ⟨k.1, fun ls H locs hl hI => lv_i2l C.1.1 C.1.2.1 d rfl (k.2 ls H locs hl hI)⟩
theorem oi_l2i (C : oCx p l R s m args meth c own cc nL kd d0 ret dC dI κ sz0 σ0 w0 e0 kc) : or_l2i own cc nL kd ret κ kc w0 (oX p l e R s m args below meth c nL ret dC dI σ0 w0) := fun pc lv st σ x d k => ⟨k.1, fun ls H locs hl hI => lv_l2i C.1.1 C.1.2.1 d rfl (k.2 ls H locs hl hI)⟩
theorem oi_i2b (C : oCx p l R s m args meth c own cc nL kd d0 ret dC dI κ sz0 σ0 w0 e0 kc) : or_i2b own cc nL kd ret κ kc w0 (oX p l e R s m args below meth c nL ret dC dI σ0 w0) := fun pc lv st σ x d k => ⟨k.1, fun ls H locs hl hI => lv_i2b C.1.1 C.1.2.1 d rfl (k.2 ls H locs hl hI)⟩
theorem oi_lcmp (C : oCx p l R s m args meth c own cc nL kd d0 ret dC dI κ sz0 σ0 w0 e0 kc) : or_lcmp own cc nL kd ret κ kc w0 (oX p l e R s m args below meth c nL ret dC dI σ0 w0) := fun pc lv st σ x y d k => ⟨k.1, fun ls H locs hl hI => W.lcmp C.1.1 C.1.2.1 d (k.2 ls H locs hl hI)⟩
theorem oi_if_eq (C : oCx p l R s m args meth c own cc nL kd d0 ret dC dI κ sz0 σ0 w0 e0 kc) : or_if_eq own cc nL kd ret κ kc w0 (oX p l e R s m args below meth c nL ret dC dI σ0 w0) := fun pc lv st σ x off tgt d ht kt kf => ⟨(by by_cases c9 : x = 0; exact (kt c9).1; exact (kf c9).1), fun ls H locs hl hI => lv_if_eq C.1.1 C.1.2.1 d ht (fun h9 => (kt h9).2 ls H locs hl hI) (fun h9 => (kf h9).2 ls H locs hl hI)⟩
theorem oi_if_ne (C : oCx p l R s m args meth c own cc nL kd d0 ret dC dI κ sz0 σ0 w0 e0 kc) : or_if_ne own cc nL kd ret κ kc w0 (oX p l e R s m args below meth c nL ret dC dI σ0 w0) := fun pc lv st σ x off tgt d ht kt kf => ⟨(by by_cases c9 : x = 0; exact (kf c9).1; exact (kt c9).1), fun ls H locs hl hI => lv_if_ne C.1.1 C.1.2.1 d ht (fun h9 => (kt h9).2 ls H locs hl hI) (fun h9 => (kf h9).2 ls H locs hl hI)⟩
theorem oi_if_lt (C : oCx p l R s m args meth c own cc nL kd d0 ret dC dI κ sz0 σ0 w0 e0 kc) : or_if_lt own cc nL kd ret κ kc w0 (oX p l e R s m args below meth c nL ret dC dI σ0 w0) := fun pc lv st σ x off tgt d ht kt kf => ⟨(by by_cases c9 : x < 0; exact (kt c9).1; exact (kf c9).1), fun ls H locs hl hI => lv_if_lt C.1.1 C.1.2.1 d ht (fun h9 => (kt h9).2 ls H locs hl hI) (fun h9 => (kf h9).2 ls H locs hl hI)⟩
theorem oi_if_ge (C : oCx p l R s m args meth c own cc nL kd d0 ret dC dI κ sz0 σ0 w0 e0 kc) : or_if_ge own cc nL kd ret κ kc w0 (oX p l e R s m args below meth c nL ret dC dI σ0 w0) := fun pc lv st σ x off tgt d ht kt kf => ⟨(by by_cases c9 : 0 ≤ x; exact (kt c9).1; exact (kf c9).1), fun ls H locs hl hI => lv_if_ge C.1.1 C.1.2.1 d ht (fun h9 => (kt h9).2 ls H locs hl hI) (fun h9 => (kf h9).2 ls H locs hl hI)⟩
theorem oi_if_gt (C : oCx p l R s m args meth c own cc nL kd d0 ret dC dI κ sz0 σ0 w0 e0 kc) : or_if_gt own cc nL kd ret κ kc w0 (oX p l e R s m args below meth c nL ret dC dI σ0 w0) := fun pc lv st σ x off tgt d ht kt kf => ⟨(by by_cases c9 : 0 < x; exact (kt c9).1; exact (kf c9).1), fun ls H locs hl hI => lv_if_gt C.1.1 C.1.2.1 d ht (fun h9 => (kt h9).2 ls H locs hl hI) (fun h9 => (kf h9).2 ls H locs hl hI)⟩
theorem oi_if_le (C : oCx p l R s m args meth c own cc nL kd d0 ret dC dI κ sz0 σ0 w0 e0 kc) : or_if_le own cc nL kd ret κ kc w0 (oX p l e R s m args below meth c nL ret dC dI σ0 w0) := fun pc lv st σ x off tgt d ht kt kf => ⟨(by by_cases c9 : x ≤ 0; exact (kt c9).1; exact (kf c9).1), fun ls H locs hl hI => lv_if_le C.1.1 C.1.2.1 d ht (fun h9 => (kt h9).2 ls H locs hl hI) (fun h9 => (kf h9).2 ls H locs hl hI)⟩
theorem oi_icmp_eq (C : oCx p l R s m args meth c own cc nL kd d0 ret dC dI κ sz0 σ0 w0 e0 kc) : or_icmp_eq own cc nL kd ret κ kc w0 (oX p l e R s m args below meth c nL ret dC dI σ0 w0) := fun pc lv st σ x y off tgt d ht kt kf => ⟨(by by_cases c9 : x = y; exact (kt c9).1; exact (kf c9).1), fun ls H locs hl hI => lv_icmp_eq C.1.1 C.1.2.1 d ht (fun h9 => (kt h9).2 ls H locs hl hI) (fun h9 => (kf h9).2 ls H locs hl hI)⟩
theorem oi_icmp_ne (C : oCx p l R s m args meth c own cc nL kd d0 ret dC dI κ sz0 σ0 w0 e0 kc) : or_icmp_ne own cc nL kd ret κ kc w0 (oX p l e R s m args below meth c nL ret dC dI σ0 w0) := fun pc lv st σ x y off tgt d ht kt kf => ⟨(by by_cases c9 : x = y; exact (kf c9).1; exact (kt c9).1), fun ls H locs hl hI => lv_icmp_ne C.1.1 C.1.2.1 d ht (fun h9 => (kt h9).2 ls H locs hl hI) (fun h9 => (kf h9).2 ls H locs hl hI)⟩
theorem oi_icmp_lt (C : oCx p l R s m args meth c own cc nL kd d0 ret dC dI κ sz0 σ0 w0 e0 kc) : or_icmp_lt own cc nL kd ret κ kc w0 (oX p l e R s m args below meth c nL ret dC dI σ0 w0) := fun pc lv st σ x y off tgt d ht kt kf => ⟨(by by_cases c9 : x < y; exact (kt c9).1; exact (kf c9).1), fun ls H locs hl hI => lv_icmp_lt C.1.1 C.1.2.1 d ht (fun h9 => (kt h9).2 ls H locs hl hI) (fun h9 => (kf h9).2 ls H locs hl hI)⟩
theorem oi_icmp_ge (C : oCx p l R s m args meth c own cc nL kd d0 ret dC dI κ sz0 σ0 w0 e0 kc) : or_icmp_ge own cc nL kd ret κ kc w0 (oX p l e R s m args below meth c nL ret dC dI σ0 w0) := fun pc lv st σ x y off tgt d ht kt kf => ⟨(by by_cases c9 : y ≤ x; exact (kt c9).1; exact (kf c9).1), fun ls H locs hl hI => lv_icmp_ge C.1.1 C.1.2.1 d ht (fun h9 => (kt h9).2 ls H locs hl hI) (fun h9 => (kf h9).2 ls H locs hl hI)⟩
theorem oi_icmp_gt (C : oCx p l R s m args meth c own cc nL kd d0 ret dC dI κ sz0 σ0 w0 e0 kc) : or_icmp_gt own cc nL kd ret κ kc w0 (oX p l e R s m args below meth c nL ret dC dI σ0 w0) := fun pc lv st σ x y off tgt d ht kt kf => ⟨(by by_cases c9 : y < x; exact (kt c9).1; exact (kf c9).1), fun ls H locs hl hI => lv_icmp_gt C.1.1 C.1.2.1 d ht (fun h9 => (kt h9).2 ls H locs hl hI) (fun h9 => (kf h9).2 ls H locs hl hI)⟩
theorem oi_icmp_le (C : oCx p l R s m args meth c own cc nL kd d0 ret dC dI κ sz0 σ0 w0 e0 kc) : or_icmp_le own cc nL kd ret κ kc w0 (oX p l e R s m args below meth c nL ret dC dI σ0 w0) := fun pc lv st σ x y off tgt d ht kt kf => ⟨(by by_cases c9 : x ≤ y; exact (kt c9).1; exact (kf c9).1), fun ls H locs hl hI => lv_icmp_le C.1.1 C.1.2.1 d ht (fun h9 => (kt h9).2 ls H locs hl hI) (fun h9 => (kf h9).2 ls H locs hl hI)⟩
theorem oi_goto (C : oCx p l R s m args meth c own cc nL kd d0 ret dC dI κ sz0 σ0 w0 e0 kc) : or_goto own cc nL kd ret κ kc w0 (oX p l e R s m args below meth c nL ret dC dI σ0 w0) := fun pc lv st σ off tgt d ht k => ⟨k.1, fun ls H locs hl hI => lv_goto C.1.1 C.1.2.1 d ht (k.2 ls H locs hl hI)⟩
theorem oi_tableIn (C : oCx p l R s m args meth c own cc nL kd d0 ret dC dI κ sz0 σ0 w0 e0 kc) : or_tableIn own cc nL kd ret κ kc w0 (oX p l e R s m args below meth c nL ret dC dI σ0 w0) := fun pc lv st σ dflt lo hi offs len x off tgt d h1 h2 ho ht k => ⟨k.1, fun ls H locs hl hI => lv_tableIn C.1.1 C.1.2.1 d h1 h2 ho ht (k.2 ls H locs hl hI)⟩
theorem oi_tableOut (C : oCx p l R s m args meth c own cc nL kd d0 ret dC dI κ sz0 σ0 w0 e0 kc) : or_tableOut own cc nL kd ret κ kc w0 (oX p l e R s m args below meth c nL ret dC dI σ0 w0) := fun pc lv st σ dflt lo hi offs len x tgt d hx ht k => ⟨k.1, fun ls H locs hl hI => lv_tableOut C.1.1 C.1.2.1 d hx ht (k.2 ls H locs hl hI)⟩
theorem oi_lookup (C : oCx p l R s m args meth c own cc nL kd d0 ret dC dI κ sz0 σ0 w0 e0 kc) : or_lookup own cc nL kd ret κ kc w0 (oX p l e R s m args below meth c nL ret dC dI σ0 w0) := fun pc lv st σ dflt ps len x off tgt d hp ho ht k => ⟨k.1, fun ls H locs hl hI => lv_lookup C.1.1 C.1.2.1 d hp ho ht (k.2 ls H locs hl hI)⟩
theorem oi_dup (C : oCx p l R s m args meth c own cc nL kd d0 ret dC dI κ sz0 σ0 w0 e0 kc) : or_dup own cc nL kd ret κ kc w0 (oX p l e R s m args below meth c nL ret dC dI σ0 w0) := fun pc lv st σ va d hva k => ⟨k.1, fun ls H locs hl hI => lv_dup C.1.1 C.1.2.1 d hva (k.2 ls H locs hl hI)⟩
theorem oi_dup2 (C : oCx p l R s m args meth c own cc nL kd d0 ret dC dI κ sz0 σ0 w0 e0 kc) : or_dup2 own cc nL kd ret κ kc w0 (oX p l e R s m args below meth c nL ret dC dI σ0 w0) := fun pc lv st σ va vb d hva hvb k => ⟨k.1, fun ls H locs hl hI => lv_dup2_11 C.1.1 C.1.2.1 d hva hvb (k.2 ls H locs hl hI)⟩
theorem oi_pop (C : oCx p l R s m args meth c own cc nL kd d0 ret dC dI κ sz0 σ0 w0 e0 kc) : or_pop own cc nL kd ret κ kc w0 (oX p l e R s m args below meth c nL ret dC dI σ0 w0) := fun pc lv st σ va d hva k => ⟨k.1, fun ls H locs hl hI => lv_pop C.1.1 C.1.2.1 d hva (k.2 ls H locs hl hI)⟩
theorem oi_land (C : oCx p l R s m args meth c own cc nL kd d0 ret dC dI κ sz0 σ0 w0 e0 kc) : or_land own cc nL kd ret κ kc w0 (oX p l e R s m args below meth c nL ret dC dI σ0 w0) := fun pc lv st σ x y d k => ⟨k.1, fun ls H locs hl hI => lv_land C.1.1 C.1.2.1 d (k.2 ls H locs hl hI)⟩
theorem oi_lxor (C : oCx p l R s m args meth c own cc nL kd d0 ret dC dI κ sz0 σ0 w0 e0 kc) : or_lxor own cc nL kd ret κ kc w0 (oX p l e R s m args below meth c nL ret dC dI σ0 w0) := fun pc lv st σ x y d k => ⟨k.1, fun ls H locs hl hI => lv_lxor C.1.1 C.1.2.1 d (k.2 ls H locs hl hI)⟩
theorem oi_iushr (C : oCx p l R s m args meth c own cc nL kd d0 ret dC dI κ sz0 σ0 w0 e0 kc) : or_iushr own cc nL kd ret κ kc w0 (oX p l e R s m args below meth c nL ret dC dI σ0 w0) := fun pc lv st σ x y d k => ⟨k.1, fun ls H locs hl hI => lv_iushr C.1.1 C.1.2.1 d rfl (k.2 ls H locs hl hI)⟩
theorem oi_dup_x1 (C : oCx p l R s m args meth c own cc nL kd d0 ret dC dI κ sz0 σ0 w0 e0 kc) : or_dup_x1 own cc nL kd ret κ kc w0 (oX p l e R s m args below meth c nL ret dC dI σ0 w0) := fun pc lv st σ va vb d hva hvb k => ⟨k.1, fun ls H locs hl hI => lv_dup_x1 C.1.1 C.1.2.1 d hva hvb (k.2 ls H locs hl hI)⟩
theorem oi_i2c (C : oCx p l R s m args meth c own cc nL kd d0 ret dC dI κ sz0 σ0 w0 e0 kc) : or_i2c own cc nL kd ret κ kc w0 (oX p l e R s m args below meth c nL ret dC dI σ0 w0) := fun pc lv st σ x d k => ⟨k.1, fun ls H locs hl hI => lv_i2c C.1.1 C.1.2.1 d rfl (k.2 ls H locs hl hI)⟩
theorem oi_aload (C : oCx p l R s m args meth c own cc nL kd d0 ret dC dI κ sz0 σ0 w0 e0 kc) : or_aload own cc nL kd ret κ kc w0 (oX p l e R s m args below meth c nL ret dC dI σ0 w0) := fun pc lv st σ i r d h1 k => ⟨k.1, fun ls H locs hl hI => by
  cases r with
  | none => exact lv_aloadN C.1.1 C.1.2.1 d (hl.2.2 i _ h1) (k.2 ls H locs hl hI)
  | some y => exact lv_aload C.1.1 C.1.2.1 d (hl.2.2 i _ h1) (k.2 ls H locs hl hI)⟩
theorem oi_aload_n (C : oCx p l R s m args meth c own cc nL kd d0 ret dC dI κ sz0 σ0 w0 e0 kc) : or_aload_n own cc nL kd ret κ kc w0 (oX p l e R s m args below meth c nL ret dC dI σ0 w0) := fun pc lv st σ n i r d hi h1 k => ⟨k.1, fun ls H locs hl hI => by
  cases r with
  | none => exact lv_aload_nN C.1.1 C.1.2.1 d hi (hl.2.2 i _ h1) (k.2 ls H locs hl hI)
  | some y => exact lv_aload_n C.1.1 C.1.2.1 d hi (hl.2.2 i _ h1) (k.2 ls H locs hl hI)⟩
theorem oi_astore (C : oCx p l R s m args meth c own cc nL kd d0 ret dC dI κ sz0 σ0 w0 e0 kc) : or_astore own cc nL kd ret κ kc w0 (oX p l e R s m args below meth c nL ret dC dI σ0 w0) := fun pc lv st σ i r d hn ho k => ⟨k.1, fun ls H locs hl hI => by
  cases r with
  | none => exact lv_astoreN C.1.1 C.1.2.1 d hl.to hn rfl (fun ls1 h1 => k.2 ls1 H locs (zhas.st1 ho h1) hI)
  | some y => exact lv_astore C.1.1 C.1.2.1 d hl.to hn rfl (fun ls1 h1 => k.2 ls1 H locs (zhas.st1 ho h1) hI)⟩
theorem oi_astore_n (C : oCx p l R s m args meth c own cc nL kd d0 ret dC dI κ sz0 σ0 w0 e0 kc) : or_astore_n own cc nL kd ret κ kc w0 (oX p l e R s m args below meth c nL ret dC dI σ0 w0) := fun pc lv st σ n i r d hi hn ho k => ⟨k.1, fun ls H locs hl hI => by
  cases r with
  | none => exact lv_astore_nN C.1.1 C.1.2.1 d hi hl.to hn rfl (fun ls1 h1 => k.2 ls1 H locs (zhas.st1 ho h1) hI)
  | some y => exact lv_astore_n C.1.1 C.1.2.1 d hi hl.to hn rfl (fun ls1 h1 => k.2 ls1 H locs (zhas.st1 ho h1) hI)⟩
theorem oi_null (C : oCx p l R s m args meth c own cc nL kd d0 ret dC dI κ sz0 σ0 w0 e0 kc) : or_null own cc nL kd ret κ kc w0 (oX p l e R s m args below meth c nL ret dC dI σ0 w0) := fun pc lv st σ d k => ⟨k.1, fun ls H locs hl hI => lv_null C.1.1 C.1.2.1 d (k.2 ls H locs hl hI)⟩
theorem oi_ifnull (C : oCx p l R s m args meth c own cc nL kd d0 ret dC dI κ sz0 σ0 w0 e0 kc) : or_ifnull own cc nL kd ret κ kc w0 (oX p l e R s m args below meth c nL ret dC dI σ0 w0) := fun pc lv st σ r off tgt d ht kt kf => ⟨(by by_cases c9 : r = none; exact (kt c9).1; exact (kf c9).1), fun ls H locs hl hI => by
  cases r with
  | none => exact lv_ifnullN C.1.1 C.1.2.1 d ht ((kt rfl).2 ls H locs hl hI)
  | some y => exact lv_ifnull C.1.1 C.1.2.1 d ((kf (fun h => by cases h)).2 ls H locs hl hI)⟩
theorem oi_ifnonnull (C : oCx p l R s m args meth c own cc nL kd d0 ret dC dI κ sz0 σ0 w0 e0 kc) : or_ifnonnull own cc nL kd ret κ kc w0 (oX p l e R s m args below meth c nL ret dC dI σ0 w0) := fun pc lv st σ r off tgt d ht kt kf => ⟨(by by_cases c9 : r = none; exact (kf c9).1; exact (kt c9).1), fun ls H locs hl hI => by
  cases r with
  | none => exact lv_ifnonnullN C.1.1 C.1.2.1 d ((kf rfl).2 ls H locs hl hI)
  | some y => exact lv_ifnonnull C.1.1 C.1.2.1 d ht ((kt (fun h => by cases h)).2 ls H locs hl hI)⟩
theorem oi_acmp_eq (C : oCx p l R s m args meth c own cc nL kd d0 ret dC dI κ sz0 σ0 w0 e0 kc) : or_acmp_eq own cc nL kd ret κ kc w0 (oX p l e R s m args below meth c nL ret dC dI σ0 w0) := fun pc lv st σ rx ry off tgt d ht kt kf => ⟨(by by_cases c9 : rx = ry; exact (kt c9).1; exact (kf c9).1), fun ls H locs hl hI => lv_acmp_eq C.1.1 C.1.2.1 d ht (fun h9 => (kt h9).2 ls H locs hl hI) (fun h9 => (kf h9).2 ls H locs hl hI)⟩
theorem oi_acmp_ne (C : oCx p l R s m args meth c own cc nL kd d0 ret dC dI κ sz0 σ0 w0 e0 kc) : or_acmp_ne own cc nL kd ret κ kc w0 (oX p l e R s m args below meth c nL ret dC dI σ0 w0) := fun pc lv st σ rx ry off tgt d ht kt kf => ⟨(by by_cases c9 : rx = ry; exact (kf c9).1; exact (kt c9).1), fun ls H locs hl hI => lv_acmp_ne C.1.1 C.1.2.1 d ht (fun h9 => (kt h9).2 ls H locs hl hI) (fun h9 => (kf h9).2 ls H locs hl hI)⟩
theorem oi_getf (C : oCx p l R s m args meth c own cc nL kd d0 ret dC dI κ sz0 σ0 w0 e0 kc) : or_getf own cc nL kd ret κ kc w0 (oX p l e R s m args below meth c nL ret dC dI σ0 w0) := fun pc lv st σ ix ci f a fs x d hm ha hv k => ⟨k.1, fun ls H locs hl hI => by
  have hci := oft_ok _ hm
  exact oo_get (C := (oq ci).1) (T := (oq ci).2.1) (N := (oq ci).2.2) C.1.1 C.1.2.1 C.1.2.2.2.2 (fun w h => List.mem_cons_of_mem _ (List.mem_append_left _ (List.mem_append_right _ (List.mem_append_left _ (List.mem_flatMap.mpr ⟨ci, List.mem_range.mpr hci.1, h⟩))))) C.1.2.2.2.1 hI.1 ha (oq_at hci.1) f hci.2 (C.1.2.2.2.2 _ (List.mem_cons_of_mem _ (List.mem_append_left _ (List.mem_append_left _ (List.mem_cons_of_mem _ (List.mem_cons_of_mem _ (List.mem_cons_of_mem _ (List.mem_cons_of_mem _ (List.mem_cons_of_mem _ (List.mem_cons_of_mem _ (List.mem_cons_of_mem _ (List.mem_map.mpr ⟨(own, ix, ci, f), hm, rfl⟩)))))))))))) (fun _ h9 => h9) hv d (k.2 ls H locs hl hI)⟩
theorem oi_putf (C : oCx p l R s m args meth c own cc nL kd d0 ret dC dI κ sz0 σ0 w0 e0 kc) : or_putf own cc nL kd ret κ kc w0 (oX p l e R s m args below meth c nL ret dC dI σ0 w0) := fun pc lv st σ ix ci f a fs x d hm ha hfin hn hfit hl9 k => ⟨k.1, fun ls H locs hl hI => by
  have hci := oft_ok _ hm
  exact oo_put (C := (oq ci).1) (T := (oq ci).2.1) (N := (oq ci).2.2) (ty := oty ci f) C.1.1 C.1.2.1 C.1.2.2.2.2 (fun w h => List.mem_cons_of_mem _ (List.mem_append_left _ (List.mem_append_right _ (List.mem_append_left _ (List.mem_flatMap.mpr ⟨ci, List.mem_range.mpr hci.1, h⟩))))) (oty ci) (oty_ok hci.1) (oq_nm ci hci.1) C.1.2.2.2.1 hI.2.2.2.1.1 hI.1 hI.2.1 hI.2.2.1 hI.2.2.2.1.low ha (oq_at hci.1) f hci.2 (C.1.2.2.2.2 _ (List.mem_cons_of_mem _ (List.mem_append_left _ (List.mem_append_left _ (List.mem_cons_of_mem _ (List.mem_cons_of_mem _ (List.mem_cons_of_mem _ (List.mem_cons_of_mem _ (List.mem_cons_of_mem _ (List.mem_cons_of_mem _ (List.mem_cons_of_mem _ (List.mem_map.mpr ⟨(own, ix, ci, f), hm, rfl⟩)))))))))))) (fun _ h9 => h9) hfin (oty_ok hci.1 f hci.2) hn hfit hl9 d (fun H1 locs1 hR1 hS1 hL1 hz => k.2 ls H1 locs1 hl (hI.put hR1 hS1 hL1 hz))⟩
theorem oi_putF (C : oCx p l R s m args meth c own cc nL kd d0 ret dC dI κ sz0 σ0 w0 e0 kc) : or_putF own cc nL kd ret κ kc w0 (oX p l e R s m args below meth c nL ret dC dI σ0 w0) := fun pc lv st σ ix ci f a fs x d hm ha hfin hkd hdc hn hfit hl9 k => ⟨k.1, fun ls H locs hl hI => by
  have hci := oft_ok _ hm
  exact oo_putF (C := (oq ci).1) (T := (oq ci).2.1) (N := (oq ci).2.2) (ty := oty ci f) C.1.1 C.1.2.1 C.1.2.2.2.2 (fun w h => List.mem_cons_of_mem _ (List.mem_append_left _ (List.mem_append_right _ (List.mem_append_left _ (List.mem_flatMap.mpr ⟨ci, List.mem_range.mpr hci.1, h⟩))))) (oty ci) (oty_ok hci.1) (oq_nm ci hci.1) C.1.2.2.2.1 hI.2.2.2.1.1 hI.1 hI.2.1 hI.2.2.1 hI.2.2.2.1.low ha (oq_at hci.1) f hci.2 (C.1.2.2.2.2 _ (List.mem_cons_of_mem _ (List.mem_append_left _ (List.mem_append_left _ (List.mem_cons_of_mem _ (List.mem_cons_of_mem _ (List.mem_cons_of_mem _ (List.mem_cons_of_mem _ (List.mem_cons_of_mem _ (List.mem_cons_of_mem _ (List.mem_cons_of_mem _ (List.mem_map.mpr ⟨(own, ix, ci, f), hm, rfl⟩)))))))))))) (fun _ h9 => h9) hfin (C.2.2.2.2.1 hkd) hdc (oty_ok hci.1 f hci.2) hn hfit hl9 d (fun H1 locs1 hR1 hS1 hL1 hz => k.2 ls H1 locs1 hl (hI.put hR1 hS1 hL1 hz))⟩
theorem oi_getM (C : oCx p l R s m args meth c own cc nL kd d0 ret dC dI κ sz0 σ0 w0 e0 kc) : or_getM own cc nL kd ret κ kc w0 (oX p l e R s m args below meth c nL ret dC dI σ0 w0) := fun pc lv st σ a fs x d ho ha hv k => ⟨k.1, fun ls H locs hl hI => by
  subst ho
  exact oo_get (ref := "java/util/ArrayList") (C := (oq 1).1) (T := (oq 1).2.1) (N := (oq 1).2.2) C.1.1 C.1.2.1 C.1.2.2.2.2 (fun w h => List.mem_cons_of_mem _ (List.mem_append_left _ (List.mem_append_right _ (List.mem_append_left _ (List.mem_flatMap.mpr ⟨1, List.mem_range.mpr (by decide), h⟩))))) C.1.2.2.2.1 hI.1 ha (oq_at (by decide)) 0 (by decide) (C.1.2.2.2.2 (.fieldLink RJx4a65c 63 "java/util/ArrayList" "modCount" "I") (List.mem_cons_of_mem _ (List.mem_append_left _ (List.mem_append_left _ (List.mem_of_getElem? (i := 0) rfl))))) (fun x h9 => u_same (C.1.2.2.2.2 (.sameField "java/util/ArrayList" "java/util/AbstractList" "modCount" "I") (List.mem_cons_of_mem _ (List.mem_append_left _ (List.mem_append_left _ (List.mem_of_getElem? (i := 1) rfl))))) x h9) hv d (k.2 ls H locs hl hI)⟩
theorem oi_putM (C : oCx p l R s m args meth c own cc nL kd d0 ret dC dI κ sz0 σ0 w0 e0 kc) : or_putM own cc nL kd ret κ kc w0 (oX p l e R s m args below meth c nL ret dC dI σ0 w0) := fun pc lv st σ a fs x d ho ha hn hfit hl9 k => ⟨k.1, fun ls H locs hl hI => by
  subst ho
  exact oo_put (ref := "java/util/ArrayList") (C := (oq 1).1) (T := (oq 1).2.1) (N := (oq 1).2.2) (ty := .int) C.1.1 C.1.2.1 C.1.2.2.2.2 (fun w h => List.mem_cons_of_mem _ (List.mem_append_left _ (List.mem_append_right _ (List.mem_append_left _ (List.mem_flatMap.mpr ⟨1, List.mem_range.mpr (by decide), h⟩))))) (oty 1) (oty_ok (by decide)) (oq_nm 1 (by decide)) C.1.2.2.2.1 hI.2.2.2.1.1 hI.1 hI.2.1 hI.2.2.1 hI.2.2.2.1.low ha (oq_at (by decide)) 0 (by decide) (C.1.2.2.2.2 (.fieldLink RJx4a65c 63 "java/util/ArrayList" "modCount" "I") (List.mem_cons_of_mem _ (List.mem_append_left _ (List.mem_append_left _ (List.mem_of_getElem? (i := 0) rfl))))) (fun x h9 => u_same (C.1.2.2.2.2 (.sameField "java/util/ArrayList" "java/util/AbstractList" "modCount" "I") (List.mem_cons_of_mem _ (List.mem_append_left _ (List.mem_append_left _ (List.mem_of_getElem? (i := 1) rfl))))) x h9) rfl (by decide +kernel) hn hfit hl9 d (fun H1 locs1 hR1 hS1 hL1 hz => k.2 ls H1 locs1 hl (hI.put hR1 hS1 hL1 hz))⟩
theorem oi_iald (C : oCx p l R s m args meth c own cc nL kd d0 ret dC dI κ sz0 σ0 w0 e0 kc) : or_iald own cc nL kd ret κ kc w0 (oX p l e R s m args below meth c nL ret dC dI σ0 w0) := fun pc lv st σ a n f j d ha hin k => ⟨k.1, fun ls H locs hl hI => oo_iald C.1.1 C.1.2.1 hI.1 ha hin d (k.2 ls H locs hl hI)⟩
theorem oi_bald (C : oCx p l R s m args meth c own cc nL kd d0 ret dC dI κ sz0 σ0 w0 e0 kc) : or_bald own cc nL kd ret κ kc w0 (oX p l e R s m args below meth c nL ret dC dI σ0 w0) := fun pc lv st σ a n f j d ha hin k => ⟨k.1, fun ls H locs hl hI => oo_bald C.1.1 C.1.2.1 hI.1 ha hin d (k.2 ls H locs hl hI)⟩
theorem oi_zald (C : oCx p l R s m args meth c own cc nL kd d0 ret dC dI κ sz0 σ0 w0 e0 kc) : or_zald own cc nL kd ret κ kc w0 (oX p l e R s m args below meth c nL ret dC dI σ0 w0) := fun pc lv st σ a n f j d ha hin k => ⟨k.1, fun ls H locs hl hI => oo_zald C.1.1 C.1.2.1 hI.1 ha hin d (k.2 ls H locs hl hI)⟩
theorem oi_cald (C : oCx p l R s m args meth c own cc nL kd d0 ret dC dI κ sz0 σ0 w0 e0 kc) : or_cald own cc nL kd ret κ kc w0 (oX p l e R s m args below meth c nL ret dC dI σ0 w0) := fun pc lv st σ a n f j d ha hin k => ⟨k.1, fun ls H locs hl hI => oo_cald C.1.1 C.1.2.1 hI.1 ha hin d (k.2 ls H locs hl hI)⟩
theorem oi_lald (C : oCx p l R s m args meth c own cc nL kd d0 ret dC dI κ sz0 σ0 w0 e0 kc) : or_lald own cc nL kd ret κ kc w0 (oX p l e R s m args below meth c nL ret dC dI σ0 w0) := fun pc lv st σ a n f j d ha hin k => ⟨k.1, fun ls H locs hl hI => oo_lald C.1.1 C.1.2.1 hI.1 ha hin d (k.2 ls H locs hl hI)⟩
theorem oi_aald (C : oCx p l R s m args meth c own cc nL kd d0 ret dC dI κ sz0 σ0 w0 e0 kc) : or_aald own cc nL kd ret κ kc w0 (oX p l e R s m args below meth c nL ret dC dI σ0 w0) := fun pc lv st σ a C9 n f j d ha hin k => ⟨k.1, fun ls H locs hl hI => oo_aald C.1.1 C.1.2.1 hI.1 ha hin d (k.2 ls H locs hl hI)⟩
theorem oi_aaldA (C : oCx p l R s m args meth c own cc nL kd d0 ret dC dI κ sz0 σ0 w0 e0 kc) : or_aaldA own cc nL kd ret κ kc w0 (oX p l e R s m args below meth c nL ret dC dI σ0 w0) := fun pc lv st σ a n f j d ha hin k => ⟨k.1, fun ls H locs hl hI => oo_aaldA C.1.1 C.1.2.1 hI.1 ha hin d (k.2 ls H locs hl hI)⟩
theorem oi_alen (C : oCx p l R s m args meth c own cc nL kd d0 ret dC dI κ sz0 σ0 w0 e0 kc) : or_alen own cc nL kd ret κ kc w0 (oX p l e R s m args below meth c nL ret dC dI σ0 w0) := fun pc lv st σ a x d ha k => ⟨k.1, fun ls H locs hl hI => oo_alen C.1.1 C.1.2.1 hI.1 ha d (k.2 ls H locs hl hI)⟩
theorem oi_iast (C : oCx p l R s m args meth c own cc nL kd d0 ret dC dI κ sz0 σ0 w0 e0 kc) : or_iast own cc nL kd ret κ kc w0 (oX p l e R s m args below meth c nL ret dC dI σ0 w0) := fun pc lv st σ a n f j x d ha hin k => ⟨k.1, fun ls H locs hl hI => oo_iast C.1.1 C.1.2.1 hI.2.2.2.1.1 hI.1 hI.2.1 hI.2.2.1 hI.2.2.2.1.low ha hin d (fun H1 locs1 hR1 hS1 hL1 hz => k.2 ls H1 locs1 hl (hI.put hR1 hS1 hL1 hz))⟩
theorem oi_bast (C : oCx p l R s m args meth c own cc nL kd d0 ret dC dI κ sz0 σ0 w0 e0 kc) : or_bast own cc nL kd ret κ kc w0 (oX p l e R s m args below meth c nL ret dC dI σ0 w0) := fun pc lv st σ a n f j x d ha hin k => ⟨k.1, fun ls H locs hl hI => oo_bast C.1.1 C.1.2.1 hI.2.2.2.1.1 hI.1 hI.2.1 hI.2.2.1 hI.2.2.2.1.low ha hin d (fun H1 locs1 hR1 hS1 hL1 hz => k.2 ls H1 locs1 hl (hI.put hR1 hS1 hL1 hz))⟩
theorem oi_zast (C : oCx p l R s m args meth c own cc nL kd d0 ret dC dI κ sz0 σ0 w0 e0 kc) : or_zast own cc nL kd ret κ kc w0 (oX p l e R s m args below meth c nL ret dC dI σ0 w0) := fun pc lv st σ a n f j x d ha hin k => ⟨k.1, fun ls H locs hl hI => oo_zast C.1.1 C.1.2.1 hI.2.2.2.1.1 hI.1 hI.2.1 hI.2.2.1 hI.2.2.2.1.low ha hin d (fun H1 locs1 hR1 hS1 hL1 hz => k.2 ls H1 locs1 hl (hI.put hR1 hS1 hL1 hz))⟩
theorem oi_cast (C : oCx p l R s m args meth c own cc nL kd d0 ret dC dI κ sz0 σ0 w0 e0 kc) : or_cast own cc nL kd ret κ kc w0 (oX p l e R s m args below meth c nL ret dC dI σ0 w0) := fun pc lv st σ a n f j x d ha hin k => ⟨k.1, fun ls H locs hl hI => oo_cast C.1.1 C.1.2.1 hI.2.2.2.1.1 hI.1 hI.2.1 hI.2.2.1 hI.2.2.2.1.low ha hin d (fun H1 locs1 hR1 hS1 hL1 hz => k.2 ls H1 locs1 hl (hI.put hR1 hS1 hL1 hz))⟩
theorem oi_last (C : oCx p l R s m args meth c own cc nL kd d0 ret dC dI κ sz0 σ0 w0 e0 kc) : or_last own cc nL kd ret κ kc w0 (oX p l e R s m args below meth c nL ret dC dI σ0 w0) := fun pc lv st σ a n f j x d ha hin k => ⟨k.1, fun ls H locs hl hI => oo_last C.1.1 C.1.2.1 hI.2.2.2.1.1 hI.1 hI.2.1 hI.2.2.1 hI.2.2.2.1.low ha hin d (fun H1 locs1 hR1 hS1 hL1 hz => k.2 ls H1 locs1 hl (hI.put hR1 hS1 hL1 hz))⟩
theorem oi_aast (C : oCx p l R s m args meth c own cc nL kd d0 ret dC dI κ sz0 σ0 w0 e0 kc) : or_aast own cc nL kd ret κ kc w0 (oX p l e R s m args below meth c nL ret dC dI σ0 w0) := fun pc lv st σ a n y ci w vs f j d ha hy hc hin k => ⟨k.1, fun ls H locs hl hI => oo_aast C.1.1 C.1.2.1 hI.2.2.2.1.1 hI.1 hI.2.1 hI.2.2.1 hI.2.2.2.1.low ha hy hc hin d (fun H1 locs1 hR1 hS1 hL1 hz => k.2 ls H1 locs1 hl (hI.put hR1 hS1 hL1 hz))⟩
theorem oi_aastN (C : oCx p l R s m args meth c own cc nL kd d0 ret dC dI κ sz0 σ0 w0 e0 kc) : or_aastN own cc nL kd ret κ kc w0 (oX p l e R s m args below meth c nL ret dC dI σ0 w0) := fun pc lv st σ a n C9 f j d ha hin k => ⟨k.1, fun ls H locs hl hI => oo_aastN C.1.1 C.1.2.1 hI.2.2.2.1.1 hI.1 hI.2.1 hI.2.2.1 hI.2.2.2.1.low ha hin d (fun H1 locs1 hR1 hS1 hL1 hz => k.2 ls H1 locs1 hl (hI.put hR1 hS1 hL1 hz))⟩
theorem oi_aastO (C : oCx p l R s m args meth c own cc nL kd d0 ret dC dI κ sz0 σ0 w0 e0 kc) : or_aastO own cc nL kd ret κ kc w0 (oX p l e R s m args below meth c nL ret dC dI σ0 w0) := fun pc lv st σ a n y ci vs f j d ha hy hci hin k => ⟨k.1, fun ls H locs hl hI => oo_aastO C.1.1 C.1.2.1 hI.2.2.2.1.1 hI.1 hI.2.1 hI.2.2.1 hI.2.2.2.1.low ha (C.2.2.2.2.2.1.1.2.2.2.2.2.2.1 ci hci.1 hci.2) hy (oq_at hci.1) hin d (fun H1 locs1 hR1 hS1 hL1 hz => k.2 ls H1 locs1 hl (hI.put hR1 hS1 hL1 hz))⟩
theorem oi_aastA (C : oCx p l R s m args meth c own cc nL kd d0 ret dC dI κ sz0 σ0 w0 e0 kc) : or_aastA own cc nL kd ret κ kc w0 (oX p l e R s m args below meth c nL ret dC dI σ0 w0) := fun pc lv st σ a n y nv fv f j d ha hy hin k => ⟨k.1, fun ls H locs hl hI => oo_aastA C.1.1 C.1.2.1 C.2.2.2.2.2.1.1.1.aa hI.2.2.2.1.1 hI.1 hI.2.1 hI.2.2.1 hI.2.2.2.1.low ha hy hin d (fun H1 locs1 hR1 hS1 hL1 hz => k.2 ls H1 locs1 hl (hI.put hR1 hS1 hL1 hz))⟩
theorem oi_ldc (C : oCx p l R s m args meth c own cc nL kd d0 ret dC dI κ sz0 σ0 w0 e0 kc) : or_ldc own cc nL kd ret κ kc w0 (oX p l e R s m args below meth c nL ret dC dI σ0 w0) := fun pc lv st σ ix x d hm k => ⟨k.1, fun ls H locs hl hI => lv_ldc C.1.1 C.1.2.1 C.1.2.2.2.1 (C.1.2.2.2.2 _ (List.mem_cons_of_mem _ (List.mem_append_left _ (wOx_k (List.mem_append_left _ (List.mem_map.mpr ⟨(own, ix, x), hm, rfl⟩)))))) d (k.2 ls H locs hl hI)⟩
theorem oi_ldcw (C : oCx p l R s m args meth c own cc nL kd d0 ret dC dI κ sz0 σ0 w0 e0 kc) : or_ldcw own cc nL kd ret κ kc w0 (oX p l e R s m args below meth c nL ret dC dI σ0 w0) := fun pc lv st σ ix x d hm k => ⟨k.1, fun ls H locs hl hI => lv_ldcw C.1.1 C.1.2.1 C.1.2.2.2.1 (C.1.2.2.2.2 _ (List.mem_cons_of_mem _ (List.mem_append_left _ (wOx_k (List.mem_append_left _ (List.mem_map.mpr ⟨(own, ix, x), hm, rfl⟩)))))) d (k.2 ls H locs hl hI)⟩
theorem oi_ldc2 (C : oCx p l R s m args meth c own cc nL kd d0 ret dC dI κ sz0 σ0 w0 e0 kc) : or_ldc2 own cc nL kd ret κ kc w0 (oX p l e R s m args below meth c nL ret dC dI σ0 w0) := fun pc lv st σ ix x d hm k => ⟨k.1, fun ls H locs hl hI => lv_ldc2 C.1.1 C.1.2.1 C.1.2.2.2.1 (C.1.2.2.2.2 _ (List.mem_cons_of_mem _ (List.mem_append_left _ (wOx_k (List.mem_append_right _ (List.mem_append_left _ (List.mem_map.mpr ⟨(own, ix, x), hm, rfl⟩))))))) d (k.2 ls H locs hl hI)⟩
theorem oi_ldcS (C : oCx p l R s m args meth c own cc nL kd d0 ret dC dI κ sz0 σ0 w0 e0 kc) : or_ldcS own cc nL kd ret κ kc w0 (oX p l e R s m args below meth c nL ret dC dI σ0 w0) := fun pc lv st σ i q d hm ho k => ⟨k.1, fun ls H locs hl hI => by
  subst ho
  exact va_ldcS C.1.1 C.1.2.1 C.1.2.2.2.1 (C.2.2.2.2.2.1.1.2.1 i q hm).1 d (k.2 ls H locs hl hI)⟩
theorem oi_ldcwS (C : oCx p l R s m args meth c own cc nL kd d0 ret dC dI κ sz0 σ0 w0 e0 kc) : or_ldcwS own cc nL kd ret κ kc w0 (oX p l e R s m args below meth c nL ret dC dI σ0 w0) := fun pc lv st σ i q d hm ho k => ⟨k.1, fun ls H locs hl hI => by
  subst ho
  exact za_ldcwS C.1.1 C.1.2.1 C.1.2.2.2.1 (C.2.2.2.2.2.1.1.2.1 i q hm).1 d (k.2 ls H locs hl hI)⟩
theorem oi_getKv (C : oCx p l R s m args meth c own cc nL kd d0 ret dC dI κ sz0 σ0 w0 e0 kc) : or_getKv own cc nL kd ret κ kc w0 (oX p l e R s m args below meth c nL ret dC dI σ0 w0) := fun pc lv st σ i q d hm ho k => ⟨k.1, fun ls H locs hl hI => by
  subst ho
  exact vk_getf C.1.1 C.1.2.1 (C.2.2.2.2.2.1.1.2.1 i q hm).2.2.2.1 (oW_wide hI C.2.2.2.2.2.1.2) C.1.2.2.2.1 (C.1.2.2.2.2 (.fieldLink RJ0 9 "java/lang/String" "value" "[B") (List.mem_cons_of_mem _ (List.mem_append_left _ (List.mem_append_left _ (List.mem_of_getElem? (i := 5) rfl))))) (fun _ h9 => h9) d (k.2 ls H locs hl hI)⟩
theorem oi_getKc (C : oCx p l R s m args meth c own cc nL kd d0 ret dC dI κ sz0 σ0 w0 e0 kc) : or_getKc own cc nL kd ret κ kc w0 (oX p l e R s m args below meth c nL ret dC dI σ0 w0) := fun pc lv st σ i q d hm ho k => ⟨k.1, fun ls H locs hl hI => by
  subst ho
  exact vk_getf C.1.1 C.1.2.1 (C.2.2.2.2.2.1.1.2.1 i q hm).2.2.1 (oW_wide hI C.2.2.2.2.2.1.2) C.1.2.2.2.1 (C.1.2.2.2.2 (.fieldLink RJ0 15 "java/lang/String" "coder" "B") (List.mem_cons_of_mem _ (List.mem_append_left _ (List.mem_append_left _ (List.mem_of_getElem? (i := 6) rfl))))) (fun _ h9 => h9) d (k.2 ls H locs hl hI)⟩
theorem oi_alenK (C : oCx p l R s m args meth c own cc nL kd d0 ret dC dI κ sz0 σ0 w0 e0 kc) : or_alenK own cc nL kd ret κ kc w0 (oX p l e R s m args below meth c nL ret dC dI σ0 w0) := fun pc lv st σ i q d hm k => ⟨k.1, fun ls H locs hl hI => va_tlen C.1.1 C.1.2.1 (C.2.2.2.2.2.1.1.2.1 i q hm).2.2.2.2 (oW_wide hI C.2.2.2.2.2.1.2) rfl d (k.2 ls H locs hl hI)⟩
theorem oi_baldK (C : oCx p l R s m args meth c own cc nL kd d0 ret dC dI κ sz0 σ0 w0 e0 kc) : or_baldK own cc nL kd ret κ kc w0 (oX p l e R s m args below meth c nL ret dC dI σ0 w0) := fun pc lv st σ i q j d hm hin k => ⟨k.1, fun ls H locs hl hI => va_tb C.1.1 C.1.2.1 (C.2.2.2.2.2.1.1.2.1 i q hm).2.2.2.2 (oW_wide hI C.2.2.2.2.2.1.2) hin rfl d (k.2 ls H locs hl hI)⟩
theorem oi_alenE (C : oCx p l R s m args meth c own cc nL kd d0 ret dC dI κ sz0 σ0 w0 e0 kc) : or_alenE own cc nL kd ret κ kc w0 (oX p l e R s m args below meth c nL ret dC dI σ0 w0) := fun pc lv st σ d k => ⟨k.1, fun ls H locs hl hI => va_tlen C.1.1 C.1.2.1 C.2.2.2.2.2.1.1.2.2.2.2.1 (oW_wide hI C.2.2.2.2.2.1.2) rfl d (k.2 ls H locs hl hI)⟩
theorem oi_getsC (C : oCx p l R s m args meth c own cc nL kd d0 ret dC dI κ sz0 σ0 w0 e0 kc) : or_getsC own cc nL kd ret κ kc w0 (oX p l e R s m args below meth c nL ret dC dI σ0 w0) := fun pc lv st σ d ho k => ⟨k.1, fun ls H locs hl hI => by
  subst ho
  exact va_gets C.1.1 C.1.2.1 C.2.2.2.2.2.1.1.2.2.1 (oW_wide hI C.2.2.2.2.2.1.2) C.1.2.2.2.1 (C.1.2.2.2.2 (.fieldLink RJ0 38 "java/lang/String" "COMPACT_STRINGS" "Z") (List.mem_cons_of_mem _ (List.mem_append_left _ (List.mem_append_left _ (List.mem_of_getElem? (i := 2) rfl))))) (fun _ h9 => h9) d (k.2 ls H locs hl hI)⟩
theorem oi_getsE (C : oCx p l R s m args meth c own cc nL kd d0 ret dC dI κ sz0 σ0 w0 e0 kc) : or_getsE own cc nL kd ret κ kc w0 (oX p l e R s m args below meth c nL ret dC dI σ0 w0) := fun pc lv st σ d ho k => ⟨k.1, fun ls H locs hl hI => by
  subst ho
  exact va_gets C.1.1 C.1.2.1 C.2.2.2.2.2.1.1.2.2.2.1 (oW_wide hI C.2.2.2.2.2.1.2) C.1.2.2.2.1 (C.1.2.2.2.2 (.fieldLink RJx4a65c 39 "java/util/ArrayList" "DEFAULTCAPACITY_EMPTY_ELEMENTDATA" "[Ljava/lang/Object;") (List.mem_cons_of_mem _ (List.mem_append_left _ (List.mem_append_left _ (List.mem_of_getElem? (i := 3) rfl))))) (fun _ h9 => h9) d (k.2 ls H locs hl hI)⟩
theorem oi_getsF (C : oCx p l R s m args meth c own cc nL kd d0 ret dC dI κ sz0 σ0 w0 e0 kc) : or_getsF own cc nL kd ret κ kc w0 (oX p l e R s m args below meth c nL ret dC dI σ0 w0) := fun pc lv st σ d ho k => ⟨k.1, fun ls H locs hl hI => by
  subst ho
  exact va_gets C.1.1 C.1.2.1 C.2.2.2.2.2.1.1.2.2.2.2.2.1 (oW_wide hI C.2.2.2.2.2.1.2) C.1.2.2.2.1 (C.1.2.2.2.2 (.fieldLink RJ0 1053 "jdk/internal/util/Preconditions" "SIOOBE_FORMATTER" "Ljava/util/function/BiFunction;") (List.mem_cons_of_mem _ (List.mem_append_left _ (List.mem_append_left _ (List.mem_of_getElem? (i := 4) rfl))))) (fun _ h9 => h9) d (k.2 ls H locs hl hI)⟩
theorem oi_ldcM (C : oCx p l R s m args meth c own cc nL kd d0 ret dC dI κ sz0 σ0 w0 e0 kc) : or_ldcM own cc nL kd ret κ kc w0 (oX p l e R s m args below meth c nL ret dC dI σ0 w0) := fun pc lv st σ d ho k => ⟨k.1, fun ls H locs hl hI => by
  subst ho
  exact va_ldcM C.1.1 C.1.2.1 C.1.2.2.2.1 (C.1.2.2.2.2 (.classLink RJ7 110 "[Ljava/lang/Object;") (List.mem_cons_of_mem _ (List.mem_append_left _ (wOx_k (List.mem_append_right _ (List.mem_append_right _ (List.mem_append_right _ (List.mem_append_right _ (List.mem_append_right _ (List.mem_append_right _ (List.mem_of_getElem? (i := 16) rfl))))))))))) C.2.2.2.2.2.1.1.2.2.2.2.2.2.2.1 d (k.2 ls H locs hl hI)⟩
theorem oi_getC (C : oCx p l R s m args meth c own cc nL kd d0 ret dC dI κ sz0 σ0 w0 e0 kc) : or_getC own cc nL kd ret κ kc w0 (oX p l e R s m args below meth c nL ret dC dI σ0 w0) := fun pc lv st σ a n f d ho ha hc k => ⟨k.1, fun ls H locs hl hI => by
  subst ho
  have hRm := C.2.2.2.1
  obtain ⟨ws, tys, g1, g2, g3, g4⟩ := hI.1
  obtain ⟨q0, cA, t0, g5, g6⟩ := g4.a ha
  have hnmO : s.vm.findClass "[Ljava/lang/Object;" = some cA := va_nmO (g3.2 t0 _ g6).2 (by decide)
  exact va_getC (C := "[Ljava/lang/Object;") C.1.1 C.1.2.1 (C.1.2.2.1.trans hl.1.symm) C.1.2.2.2.1 (C.1.2.2.2.2 (.methodLink RJ7 86 oyG) (List.mem_cons_of_mem _ (List.mem_append_left _ (wOx_k (List.mem_append_right _ (List.mem_append_right _ (List.mem_append_right _ (List.mem_append_right _ (List.mem_append_right _ (List.mem_append_right _ (List.mem_of_getElem? (i := 17) rfl))))))))))) C.2.2.2.2.2.1.1.2.2.2.2.2.2.2.2.use (C.1.2.2.2.2 (.selects "[Ljava/lang/Object;" oyG oyG) (List.mem_cons_of_mem _ (List.mem_append_left _ (wOx_k (List.mem_append_right _ (List.mem_append_right _ (List.mem_append_right _ (List.mem_append_right _ (List.mem_append_right _ (List.mem_append_right _ (List.mem_of_getElem? (i := 18) rfl))))))))))) (C.1.2.2.2.2 (.instanceMethod oyG) (List.mem_cons_of_mem _ (List.mem_append_left _ (wOx_k (List.mem_append_right _ (List.mem_append_right _ (List.mem_append_right _ (List.mem_append_right _ (List.mem_append_right _ (List.mem_append_right _ (List.mem_of_getElem? (i := 19) rfl))))))))))) (C.1.2.2.2.2 (.native oyG) (List.mem_cons_of_mem _ (List.mem_append_left _ (wOx_k (List.mem_append_right _ (List.mem_append_right _ (List.mem_append_right _ (List.mem_append_right _ (List.mem_append_right _ (List.mem_append_right _ (List.mem_of_getElem? (i := 20) rfl))))))))))) C.2.2.2.2.2.1.1.2.2.2.2.2.2.2.1 ⟨_, g1 q0 _ g5, rfl, hnmO⟩ (by omega) (by omega) d (k.2 ls H locs hl hI)⟩
theorem oi_castN (C : oCx p l R s m args meth c own cc nL kd d0 ret dC dI κ sz0 σ0 w0 e0 kc) : or_castN own cc nL kd ret κ kc w0 (oX p l e R s m args below meth c nL ret dC dI σ0 w0) := fun pc lv st σ ix d k => ⟨k.1, fun ls H locs hl hI => lv_castN C.1.1 C.1.2.1 d (k.2 ls H locs hl hI)⟩
theorem oi_cast_ (C : oCx p l R s m args meth c own cc nL kd d0 ret dC dI κ sz0 σ0 w0 e0 kc) : or_cast_ own cc nL kd ret κ kc w0 (oX p l e R s m args below meth c nL ret dC dI σ0 w0) := fun pc lv st σ ix ci a fs d hm ha k => ⟨k.1, fun ls H locs hl hI => by
  have hci := okc_ok _ hm
  exact va_castE C.1.1 C.1.2.1 C.1.2.2.2.1 (C.1.2.2.2.2 _ (List.mem_cons_of_mem _ (List.mem_append_left _ (wOx_k (List.mem_append_right _ (List.mem_append_right _ (List.mem_append_right _ (List.mem_append_right _ (List.mem_append_right _ (List.mem_append_right _ (List.mem_cons_of_mem _ (List.mem_cons_of_mem _ (List.mem_cons_of_mem _ (List.mem_cons_of_mem _ (List.mem_cons_of_mem _ (List.mem_cons_of_mem _ (List.mem_cons_of_mem _ (List.mem_cons_of_mem _ (List.mem_cons_of_mem _ (List.mem_cons_of_mem _ (List.mem_cons_of_mem _ (List.mem_cons_of_mem _ (List.mem_cons_of_mem _ (List.mem_cons_of_mem _ (List.mem_cons_of_mem _ (List.mem_cons_of_mem _ (List.mem_cons_of_mem _ (List.mem_cons_of_mem _ (List.mem_cons_of_mem _ (List.mem_cons_of_mem _ (List.mem_cons_of_mem _ (List.mem_cons_of_mem _ (List.mem_append_right _ (List.mem_append_right _ (List.mem_append_right _ (List.mem_append_right _ (List.mem_append_right _ (List.mem_append_right _ (List.mem_append_right _ (List.mem_append_left _ (List.mem_map.mpr ⟨(own, ix, ci), hm, rfl⟩))))))))))))))))))))))))))))))))))))))))) (ocls ci hci hI.1 ha) d (k.2 ls H locs hl hI)⟩
theorem oi_inst_ (C : oCx p l R s m args meth c own cc nL kd d0 ret dC dI κ sz0 σ0 w0 e0 kc) : or_inst_ own cc nL kd ret κ kc w0 (oX p l e R s m args below meth c nL ret dC dI σ0 w0) := fun pc lv st σ ix ci a fs d hm ha k => ⟨k.1, fun ls H locs hl hI => by
  have hci := okc_ok _ hm
  exact va_instE C.1.1 C.1.2.1 C.1.2.2.2.1 (C.1.2.2.2.2 _ (List.mem_cons_of_mem _ (List.mem_append_left _ (wOx_k (List.mem_append_right _ (List.mem_append_right _ (List.mem_append_right _ (List.mem_append_right _ (List.mem_append_right _ (List.mem_append_right _ (List.mem_cons_of_mem _ (List.mem_cons_of_mem _ (List.mem_cons_of_mem _ (List.mem_cons_of_mem _ (List.mem_cons_of_mem _ (List.mem_cons_of_mem _ (List.mem_cons_of_mem _ (List.mem_cons_of_mem _ (List.mem_cons_of_mem _ (List.mem_cons_of_mem _ (List.mem_cons_of_mem _ (List.mem_cons_of_mem _ (List.mem_cons_of_mem _ (List.mem_cons_of_mem _ (List.mem_cons_of_mem _ (List.mem_cons_of_mem _ (List.mem_cons_of_mem _ (List.mem_cons_of_mem _ (List.mem_cons_of_mem _ (List.mem_cons_of_mem _ (List.mem_cons_of_mem _ (List.mem_cons_of_mem _ (List.mem_append_right _ (List.mem_append_right _ (List.mem_append_right _ (List.mem_append_right _ (List.mem_append_right _ (List.mem_append_right _ (List.mem_append_right _ (List.mem_append_left _ (List.mem_map.mpr ⟨(own, ix, ci), hm, rfl⟩))))))))))))))))))))))))))))))))))))))))) (ocls ci hci hI.1 ha) d (k.2 ls H locs hl hI)⟩
theorem oi_new (C : oCx p l R s m args meth c own cc nL kd d0 ret dC dI κ sz0 σ0 w0 e0 kc) : or_new own cc nL kd ret κ kc w0 (oX p l e R s m args below meth c nL ret dC dI σ0 w0) := fun pc lv st σ ix ci d hm k => ⟨(have h9 := k.1; ⟨Nat.le_trans (Nat.le_add_right _ _) h9.1, Nat.le_trans (Nat.le_add_right _ _) h9.2⟩), fun ls H locs hl hI => by
  have hci := onl_ok _ hm
  refine oW_size (fun hup => ?_)
  have hnx := hI.size hup
  obtain ⟨z1, z2, z3, z4, z5⟩ := hI.2.2.2.1
  have hRm := C.2.2.2.1
  have k1 : σ.2.2.1 + 1 ≤ w0.2.2.2.1 := k.1.1
  have k2 : σ.2.2.2 + (oq ci).2.2 ≤ w0.2.2.2.2 := k.1.2
  refine oo_new (C := (oq ci).1) (T := (oq ci).2.1) (N := (oq ci).2.2) (fs := odef ci) C.1.1 C.1.2.1 C.1.2.2.2.2 (fun w h => List.mem_cons_of_mem _ (List.mem_append_left _ (List.mem_append_right _ (List.mem_append_left _ (List.mem_flatMap.mpr ⟨ci, List.mem_range.mpr hci, h⟩))))) (oty ci) (oty_ok hci) C.1.2.2.2.1 (C.1.2.2.2.2 _ (List.mem_cons_of_mem _ (List.mem_append_left _ (wOx_k (List.mem_append_right _ (List.mem_append_right _ (List.mem_append_left _ (List.mem_map.mpr ⟨(own, ix, ci), hm, rfl⟩)))))))) (C.1.2.2.2.2 _ (List.mem_cons_of_mem _ (List.mem_append_left _ (wOx_k (List.mem_append_right _ (List.mem_append_right _ (List.mem_append_right _ (List.mem_append_left _ (List.mem_map.mpr ⟨(own, ix, ci), hm, rfl⟩))))))))) (C.1.2.2.2.2 _ (List.mem_cons_of_mem _ (List.mem_append_left _ (wOx_k (List.mem_append_right _ (List.mem_append_right _ (List.mem_append_right _ (List.mem_append_right _ (List.mem_append_left _ (List.mem_map.mpr ⟨(own, ix, ci), hm, rfl⟩)))))))))) hI.2.2.2.1.1 hI.1 hI.2.1 hI.2.2.1 hI.2.2.2.1.low hup hnx (oq_at hci) (fun j hj => by simp [vp_V, odef, hj]) (show σ.2.2.1 - σ0.2.2.1 + 1 ≤ R.cells by omega) (show σ.2.2.2 - σ0.2.2.2 + (oq ci).2.2 ≤ R.slots by omega) d (fun H1 hR1 hS1 hL1 hz => ?_)
  have h9 := k.2 ls H1 locs hl (hI.made hR1 hS1 hL1 hz)
  have e1 : (onew σ (.inr (ci, odef ci)) (oq ci).2.2).2.2.1 - σ0.2.2.1 = σ.2.2.1 - σ0.2.2.1 + 1 := by
    show σ.2.2.1 + 1 - σ0.2.2.1 = _
    omega
  have e2 : (onew σ (.inr (ci, odef ci)) (oq ci).2.2).2.2.2 - σ0.2.2.2 = σ.2.2.2 - σ0.2.2.2 + (oq ci).2.2 := by
    show σ.2.2.2 + _ - σ0.2.2.2 = _
    omega
  rw [e1, e2] at h9
  exact h9⟩
theorem oi_newI (C : oCx p l R s m args meth c own cc nL kd d0 ret dC dI κ sz0 σ0 w0 e0 kc) : or_newI own cc nL kd ret κ kc w0 (oX p l e R s m args below meth c nL ret dC dI σ0 w0) := fun pc lv st σ n d hne hby k => ⟨(have h9 := k.1; ⟨Nat.le_trans (Nat.le_add_right _ _) h9.1, Nat.le_trans (Nat.le_add_right _ _) h9.2⟩), fun ls H locs hl hI => by
  refine oW_size (fun hup => ?_)
  have hnx := hI.size hup
  obtain ⟨z1, z2, z3, z4, z5⟩ := hI.2.2.2.1
  have hRm := C.2.2.2.1
  have k1 : σ.2.2.1 + 1 ≤ w0.2.2.2.1 := k.1.1
  have k2 : σ.2.2.2 + n.toNatClampNeg ≤ w0.2.2.2.2 := k.1.2
  refine oo_newa (atype := .int) (ty := .int) (a0 := (n.toNatClampNeg, .inl (fun _ => 0))) C.1.1 C.1.2.1 (C.1.2.2.2.2 (.arrayClass .int) (List.mem_cons_of_mem _ (List.mem_append_right _ (by simp [wOa])))) rfl hI.2.2.2.1.1 hI.1 hI.2.1 hI.2.2.1 hI.2.2.2.1.low hup hnx (fun _ => rfl) hne rfl (show n.toNatClampNeg * componentBytes .int ≤ 536870912 from Nat.le_trans (Nat.mul_le_mul_right _ hby) (Nat.le_of_ble_eq_true rfl)) (show σ.2.2.1 - σ0.2.2.1 + 1 ≤ R.cells by omega) (show σ.2.2.2 - σ0.2.2.2 + n.toNatClampNeg ≤ R.slots by omega) d (fun H1 hR1 hS1 hL1 hz => ?_)
  have h9 := k.2 ls H1 locs hl (hI.made hR1 hS1 hL1 hz)
  have e1 : (onew σ (.inl (.int, n.toNatClampNeg, .inl (fun _ => 0))) n.toNatClampNeg).2.2.1 - σ0.2.2.1 = σ.2.2.1 - σ0.2.2.1 + 1 := by
    show σ.2.2.1 + 1 - σ0.2.2.1 = _
    omega
  have e2 : (onew σ (.inl (.int, n.toNatClampNeg, .inl (fun _ => 0))) n.toNatClampNeg).2.2.2 - σ0.2.2.2 = σ.2.2.2 - σ0.2.2.2 + n.toNatClampNeg := by
    show σ.2.2.2 + _ - σ0.2.2.2 = _
    omega
  rw [e1, e2] at h9
  exact h9⟩
theorem oi_newZ (C : oCx p l R s m args meth c own cc nL kd d0 ret dC dI κ sz0 σ0 w0 e0 kc) : or_newZ own cc nL kd ret κ kc w0 (oX p l e R s m args below meth c nL ret dC dI σ0 w0) := fun pc lv st σ n d hne hby k => ⟨(have h9 := k.1; ⟨Nat.le_trans (Nat.le_add_right _ _) h9.1, Nat.le_trans (Nat.le_add_right _ _) h9.2⟩), fun ls H locs hl hI => by
  refine oW_size (fun hup => ?_)
  have hnx := hI.size hup
  obtain ⟨z1, z2, z3, z4, z5⟩ := hI.2.2.2.1
  have hRm := C.2.2.2.1
  have k1 : σ.2.2.1 + 1 ≤ w0.2.2.2.1 := k.1.1
  have k2 : σ.2.2.2 + n.toNatClampNeg ≤ w0.2.2.2.2 := k.1.2
  refine oo_newa (atype := .boolean) (ty := .boolean) (a0 := (n.toNatClampNeg, .inl (fun _ => 0))) C.1.1 C.1.2.1 (C.1.2.2.2.2 (.arrayClass .boolean) (List.mem_cons_of_mem _ (List.mem_append_right _ (by simp [wOa])))) rfl hI.2.2.2.1.1 hI.1 hI.2.1 hI.2.2.1 hI.2.2.2.1.low hup hnx (fun _ => rfl) hne rfl (show n.toNatClampNeg * componentBytes .boolean ≤ 536870912 from Nat.le_trans (Nat.mul_le_mul_right _ hby) (Nat.le_of_ble_eq_true rfl)) (show σ.2.2.1 - σ0.2.2.1 + 1 ≤ R.cells by omega) (show σ.2.2.2 - σ0.2.2.2 + n.toNatClampNeg ≤ R.slots by omega) d (fun H1 hR1 hS1 hL1 hz => ?_)
  have h9 := k.2 ls H1 locs hl (hI.made hR1 hS1 hL1 hz)
  have e1 : (onew σ (.inl (.boolean, n.toNatClampNeg, .inl (fun _ => 0))) n.toNatClampNeg).2.2.1 - σ0.2.2.1 = σ.2.2.1 - σ0.2.2.1 + 1 := by
    show σ.2.2.1 + 1 - σ0.2.2.1 = _
    omega
  have e2 : (onew σ (.inl (.boolean, n.toNatClampNeg, .inl (fun _ => 0))) n.toNatClampNeg).2.2.2 - σ0.2.2.2 = σ.2.2.2 - σ0.2.2.2 + n.toNatClampNeg := by
    show σ.2.2.2 + _ - σ0.2.2.2 = _
    omega
  rw [e1, e2] at h9
  exact h9⟩
theorem oi_newB (C : oCx p l R s m args meth c own cc nL kd d0 ret dC dI κ sz0 σ0 w0 e0 kc) : or_newB own cc nL kd ret κ kc w0 (oX p l e R s m args below meth c nL ret dC dI σ0 w0) := fun pc lv st σ n d hne hby k => ⟨(have h9 := k.1; ⟨Nat.le_trans (Nat.le_add_right _ _) h9.1, Nat.le_trans (Nat.le_add_right _ _) h9.2⟩), fun ls H locs hl hI => by
  refine oW_size (fun hup => ?_)
  have hnx := hI.size hup
  obtain ⟨z1, z2, z3, z4, z5⟩ := hI.2.2.2.1
  have hRm := C.2.2.2.1
  have k1 : σ.2.2.1 + 1 ≤ w0.2.2.2.1 := k.1.1
  have k2 : σ.2.2.2 + n.toNatClampNeg ≤ w0.2.2.2.2 := k.1.2
  refine oo_newa (atype := .byte) (ty := .byte) (a0 := (n.toNatClampNeg, .inl (fun _ => 0))) C.1.1 C.1.2.1 (C.1.2.2.2.2 (.arrayClass .byte) (List.mem_cons_of_mem _ (List.mem_append_right _ (by simp [wOa])))) rfl hI.2.2.2.1.1 hI.1 hI.2.1 hI.2.2.1 hI.2.2.2.1.low hup hnx (fun _ => rfl) hne rfl (show n.toNatClampNeg * componentBytes .byte ≤ 536870912 from Nat.le_trans (Nat.mul_le_mul_right _ hby) (Nat.le_of_ble_eq_true rfl)) (show σ.2.2.1 - σ0.2.2.1 + 1 ≤ R.cells by omega) (show σ.2.2.2 - σ0.2.2.2 + n.toNatClampNeg ≤ R.slots by omega) d (fun H1 hR1 hS1 hL1 hz => ?_)
  have h9 := k.2 ls H1 locs hl (hI.made hR1 hS1 hL1 hz)
  have e1 : (onew σ (.inl (.byte, n.toNatClampNeg, .inl (fun _ => 0))) n.toNatClampNeg).2.2.1 - σ0.2.2.1 = σ.2.2.1 - σ0.2.2.1 + 1 := by
    show σ.2.2.1 + 1 - σ0.2.2.1 = _
    omega
  have e2 : (onew σ (.inl (.byte, n.toNatClampNeg, .inl (fun _ => 0))) n.toNatClampNeg).2.2.2 - σ0.2.2.2 = σ.2.2.2 - σ0.2.2.2 + n.toNatClampNeg := by
    show σ.2.2.2 + _ - σ0.2.2.2 = _
    omega
  rw [e1, e2] at h9
  exact h9⟩
theorem oi_newC (C : oCx p l R s m args meth c own cc nL kd d0 ret dC dI κ sz0 σ0 w0 e0 kc) : or_newC own cc nL kd ret κ kc w0 (oX p l e R s m args below meth c nL ret dC dI σ0 w0) := fun pc lv st σ n d hne hby k => ⟨(have h9 := k.1; ⟨Nat.le_trans (Nat.le_add_right _ _) h9.1, Nat.le_trans (Nat.le_add_right _ _) h9.2⟩), fun ls H locs hl hI => by
  refine oW_size (fun hup => ?_)
  have hnx := hI.size hup
  obtain ⟨z1, z2, z3, z4, z5⟩ := hI.2.2.2.1
  have hRm := C.2.2.2.1
  have k1 : σ.2.2.1 + 1 ≤ w0.2.2.2.1 := k.1.1
  have k2 : σ.2.2.2 + n.toNatClampNeg ≤ w0.2.2.2.2 := k.1.2
  refine oo_newa (atype := .char) (ty := .char) (a0 := (n.toNatClampNeg, .inl (fun _ => 0))) C.1.1 C.1.2.1 (C.1.2.2.2.2 (.arrayClass .char) (List.mem_cons_of_mem _ (List.mem_append_right _ (by simp [wOa])))) rfl hI.2.2.2.1.1 hI.1 hI.2.1 hI.2.2.1 hI.2.2.2.1.low hup hnx (fun _ => rfl) hne rfl (show n.toNatClampNeg * componentBytes .char ≤ 536870912 from Nat.le_trans (Nat.mul_le_mul_right _ hby) (Nat.le_of_ble_eq_true rfl)) (show σ.2.2.1 - σ0.2.2.1 + 1 ≤ R.cells by omega) (show σ.2.2.2 - σ0.2.2.2 + n.toNatClampNeg ≤ R.slots by omega) d (fun H1 hR1 hS1 hL1 hz => ?_)
  have h9 := k.2 ls H1 locs hl (hI.made hR1 hS1 hL1 hz)
  have e1 : (onew σ (.inl (.char, n.toNatClampNeg, .inl (fun _ => 0))) n.toNatClampNeg).2.2.1 - σ0.2.2.1 = σ.2.2.1 - σ0.2.2.1 + 1 := by
    show σ.2.2.1 + 1 - σ0.2.2.1 = _
    omega
  have e2 : (onew σ (.inl (.char, n.toNatClampNeg, .inl (fun _ => 0))) n.toNatClampNeg).2.2.2 - σ0.2.2.2 = σ.2.2.2 - σ0.2.2.2 + n.toNatClampNeg := by
    show σ.2.2.2 + _ - σ0.2.2.2 = _
    omega
  rw [e1, e2] at h9
  exact h9⟩
theorem oi_newJ (C : oCx p l R s m args meth c own cc nL kd d0 ret dC dI κ sz0 σ0 w0 e0 kc) : or_newJ own cc nL kd ret κ kc w0 (oX p l e R s m args below meth c nL ret dC dI σ0 w0) := fun pc lv st σ n d hne hby k => ⟨(have h9 := k.1; ⟨Nat.le_trans (Nat.le_add_right _ _) h9.1, Nat.le_trans (Nat.le_add_right _ _) h9.2⟩), fun ls H locs hl hI => by
  refine oW_size (fun hup => ?_)
  have hnx := hI.size hup
  obtain ⟨z1, z2, z3, z4, z5⟩ := hI.2.2.2.1
  have hRm := C.2.2.2.1
  have k1 : σ.2.2.1 + 1 ≤ w0.2.2.2.1 := k.1.1
  have k2 : σ.2.2.2 + n.toNatClampNeg ≤ w0.2.2.2.2 := k.1.2
  refine oo_newa (atype := .long) (ty := .long) (a0 := (n.toNatClampNeg, .inr (.inl (fun _ => 0)))) C.1.1 C.1.2.1 (C.1.2.2.2.2 (.arrayClass .long) (List.mem_cons_of_mem _ (List.mem_append_right _ (by simp [wOa])))) rfl hI.2.2.2.1.1 hI.1 hI.2.1 hI.2.2.1 hI.2.2.2.1.low hup hnx (fun _ => rfl) hne rfl (show n.toNatClampNeg * componentBytes .long ≤ 536870912 from Nat.le_trans (Nat.mul_le_mul_right _ hby) (Nat.le_of_ble_eq_true rfl)) (show σ.2.2.1 - σ0.2.2.1 + 1 ≤ R.cells by omega) (show σ.2.2.2 - σ0.2.2.2 + n.toNatClampNeg ≤ R.slots by omega) d (fun H1 hR1 hS1 hL1 hz => ?_)
  have h9 := k.2 ls H1 locs hl (hI.made hR1 hS1 hL1 hz)
  have e1 : (onew σ (.inl (.long, n.toNatClampNeg, .inr (.inl (fun _ => 0)))) n.toNatClampNeg).2.2.1 - σ0.2.2.1 = σ.2.2.1 - σ0.2.2.1 + 1 := by
    show σ.2.2.1 + 1 - σ0.2.2.1 = _
    omega
  have e2 : (onew σ (.inl (.long, n.toNatClampNeg, .inr (.inl (fun _ => 0)))) n.toNatClampNeg).2.2.2 - σ0.2.2.2 = σ.2.2.2 - σ0.2.2.2 + n.toNatClampNeg := by
    show σ.2.2.2 + _ - σ0.2.2.2 = _
    omega
  rw [e1, e2] at h9
  exact h9⟩
theorem oi_newq (C : oCx p l R s m args meth c own cc nL kd d0 ret dC dI κ sz0 σ0 w0 e0 kc) : or_newq own cc nL kd ret κ kc w0 (oX p l e R s m args below meth c nL ret dC dI σ0 w0) := fun pc lv st σ ix ci n d hm hne hby k => ⟨(have h9 := k.1; ⟨Nat.le_trans (Nat.le_add_right _ _) h9.1, Nat.le_trans (Nat.le_add_right _ _) h9.2⟩), fun ls H locs hl hI => by
  refine oW_size (fun hup => ?_)
  have hnx := hI.size hup
  obtain ⟨z1, z2, z3, z4, z5⟩ := hI.2.2.2.1
  have hRm := C.2.2.2.1
  have k1 : σ.2.2.1 + 1 ≤ w0.2.2.2.1 := k.1.1
  have k2 : σ.2.2.2 + n.toNatClampNeg ≤ w0.2.2.2.2 := k.1.2
  refine oo_newq (C := (oq ci).1) C.1.1 C.1.2.1 C.1.2.2.2.1 (C.1.2.2.2.2 _ (List.mem_cons_of_mem _ (List.mem_append_left _ (wOx_k (List.mem_append_right _ (List.mem_append_right _ (List.mem_append_right _ (List.mem_append_right _ (List.mem_append_right _ (List.mem_append_left _ (List.mem_map.mpr ⟨(own, ix, ci), hm, rfl⟩))))))))))) (oal_ao _ hm s C.2.2.2.2.2.1.1.1) hI.2.2.2.1.1 hI.1 hI.2.1 hI.2.2.1 hI.2.2.2.1.low hup hnx hne rfl (Nat.le_trans (Nat.mul_le_mul_right _ hby) (Nat.le_of_ble_eq_true rfl)) (show σ.2.2.1 - σ0.2.2.1 + 1 ≤ R.cells by omega) (show σ.2.2.2 - σ0.2.2.2 + n.toNatClampNeg ≤ R.slots by omega) d (fun H1 hR1 hS1 hL1 hz => ?_)
  have h9 := k.2 ls H1 locs hl (hI.made hR1 hS1 hL1 hz)
  have e1 : (onew σ (.inl (.object (oq ci).1, n.toNatClampNeg, .inr (.inr (.inr (.inr (fun _ => none)))))) n.toNatClampNeg).2.2.1 - σ0.2.2.1 = σ.2.2.1 - σ0.2.2.1 + 1 := by
    show σ.2.2.1 + 1 - σ0.2.2.1 = _
    omega
  have e2 : (onew σ (.inl (.object (oq ci).1, n.toNatClampNeg, .inr (.inr (.inr (.inr (fun _ => none)))))) n.toNatClampNeg).2.2.2 - σ0.2.2.2 = σ.2.2.2 - σ0.2.2.2 + n.toNatClampNeg := by
    show σ.2.2.2 + _ - σ0.2.2.2 = _
    omega
  rw [e1, e2] at h9
  exact h9⟩
theorem oi_newO (C : oCx p l R s m args meth c own cc nL kd d0 ret dC dI κ sz0 σ0 w0 e0 kc) : or_newO own cc nL kd ret κ kc w0 (oX p l e R s m args below meth c nL ret dC dI σ0 w0) := fun pc lv st σ ix n d hm hne hby k => ⟨(have h9 := k.1; ⟨Nat.le_trans (Nat.le_add_right _ _) h9.1, Nat.le_trans (Nat.le_add_right _ _) h9.2⟩), fun ls H locs hl hI => by
  refine oW_size (fun hup => ?_)
  have hnx := hI.size hup
  obtain ⟨z1, z2, z3, z4, z5⟩ := hI.2.2.2.1
  have hRm := C.2.2.2.1
  have k1 : σ.2.2.1 + 1 ≤ w0.2.2.2.1 := k.1.1
  have k2 : σ.2.2.2 + n.toNatClampNeg ≤ w0.2.2.2.2 := k.1.2
  refine oo_newq (C := "java/lang/Object") C.1.1 C.1.2.1 C.1.2.2.2.1 (C.1.2.2.2.2 _ (List.mem_cons_of_mem _ (List.mem_append_left _ (wOx_k (List.mem_append_right _ (List.mem_append_right _ (List.mem_append_right _ (List.mem_append_right _ (List.mem_append_right _ (List.mem_append_right _ (List.mem_cons_of_mem _ (List.mem_cons_of_mem _ (List.mem_cons_of_mem _ (List.mem_cons_of_mem _ (List.mem_cons_of_mem _ (List.mem_cons_of_mem _ (List.mem_cons_of_mem _ (List.mem_cons_of_mem _ (List.mem_cons_of_mem _ (List.mem_cons_of_mem _ (List.mem_cons_of_mem _ (List.mem_cons_of_mem _ (List.mem_cons_of_mem _ (List.mem_cons_of_mem _ (List.mem_cons_of_mem _ (List.mem_cons_of_mem _ (List.mem_cons_of_mem _ (List.mem_cons_of_mem _ (List.mem_cons_of_mem _ (List.mem_cons_of_mem _ (List.mem_cons_of_mem _ (List.mem_cons_of_mem _ (List.mem_append_right _ (List.mem_append_right _ (List.mem_append_right _ (List.mem_append_right _ (List.mem_append_right _ (List.mem_append_right _ (List.mem_append_right _ (List.mem_append_right _ (List.mem_map.mpr ⟨(own, ix), hm, rfl⟩))))))))))))))))))))))))))))))))))))))))) C.2.2.2.2.2.1.1.1.ao_O hI.2.2.2.1.1 hI.1 hI.2.1 hI.2.2.1 hI.2.2.2.1.low hup hnx hne rfl (Nat.le_trans (Nat.mul_le_mul_right _ hby) (Nat.le_of_ble_eq_true rfl)) (show σ.2.2.1 - σ0.2.2.1 + 1 ≤ R.cells by omega) (show σ.2.2.2 - σ0.2.2.2 + n.toNatClampNeg ≤ R.slots by omega) d (fun H1 hR1 hS1 hL1 hz => ?_)
  have h9 := k.2 ls H1 locs hl (hI.made hR1 hS1 hL1 hz)
  have e1 : (onew σ (.inl (.object "java/lang/Object", n.toNatClampNeg, .inr (.inr (.inr (.inr (fun _ => none)))))) n.toNatClampNeg).2.2.1 - σ0.2.2.1 = σ.2.2.1 - σ0.2.2.1 + 1 := by
    show σ.2.2.1 + 1 - σ0.2.2.1 = _
    omega
  have e2 : (onew σ (.inl (.object "java/lang/Object", n.toNatClampNeg, .inr (.inr (.inr (.inr (fun _ => none)))))) n.toNatClampNeg).2.2.2 - σ0.2.2.2 = σ.2.2.2 - σ0.2.2.2 + n.toNatClampNeg := by
    show σ.2.2.2 + _ - σ0.2.2.2 = _
    omega
  rw [e1, e2] at h9
  exact h9⟩
theorem oi_newA (C : oCx p l R s m args meth c own cc nL kd d0 ret dC dI κ sz0 σ0 w0 e0 kc) : or_newA own cc nL kd ret κ kc w0 (oX p l e R s m args below meth c nL ret dC dI σ0 w0) := fun pc lv st σ n d ho hne hby k => ⟨(have h9 := k.1; ⟨Nat.le_trans (Nat.le_add_right _ _) h9.1, Nat.le_trans (Nat.le_add_right _ _) h9.2⟩), fun ls H locs hl hI => by
  subst ho
  refine oW_size (fun hup => ?_)
  have hnx := hI.size hup
  obtain ⟨z1, z2, z3, z4, z5⟩ := hI.2.2.2.1
  have hRm := C.2.2.2.1
  have k1 : σ.2.2.1 + 1 ≤ w0.2.2.2.1 := k.1.1
  have k2 : σ.2.2.2 + n.toNatClampNeg ≤ w0.2.2.2.2 := k.1.2
  refine oo_newA C.1.1 C.1.2.1 C.1.2.2.2.1 (C.1.2.2.2.2 (.classLink RX3 15 (FieldType.array .int).toString) (List.mem_cons_of_mem _ (List.mem_append_left _ (wOx_k (List.mem_append_right _ (List.mem_append_right _ (List.mem_append_right _ (List.mem_append_right _ (List.mem_append_right _ (List.mem_append_right _ (List.mem_of_getElem? (i := 21) rfl))))))))))) C.2.2.2.2.2.1.1.1.aa hI.2.2.2.1.1 hI.1 hI.2.1 hI.2.2.1 hI.2.2.2.1.low hup hnx hne rfl (Nat.le_trans (Nat.mul_le_mul_right _ hby) (Nat.le_of_ble_eq_true rfl)) (show σ.2.2.1 - σ0.2.2.1 + 1 ≤ R.cells by omega) (show σ.2.2.2 - σ0.2.2.2 + n.toNatClampNeg ≤ R.slots by omega) d (fun H1 hR1 hS1 hL1 hz => ?_)
  have h9 := k.2 ls H1 locs hl (hI.made hR1 hS1 hL1 hz)
  have e1 : (onew σ (.inl (.array .int, n.toNatClampNeg, .inr (.inr (.inr (.inr (fun _ => none)))))) n.toNatClampNeg).2.2.1 - σ0.2.2.1 = σ.2.2.1 - σ0.2.2.1 + 1 := by
    show σ.2.2.1 + 1 - σ0.2.2.1 = _
    omega
  have e2 : (onew σ (.inl (.array .int, n.toNatClampNeg, .inr (.inr (.inr (.inr (fun _ => none)))))) n.toNatClampNeg).2.2.2 - σ0.2.2.2 = σ.2.2.2 - σ0.2.2.2 + n.toNatClampNeg := by
    show σ.2.2.2 + _ - σ0.2.2.2 = _
    omega
  rw [e1, e2] at h9
  exact h9⟩
theorem oi_copyI (C : oCx p l R s m args meth c own cc nL kd d0 ret dC dI κ sz0 σ0 w0 e0 kc) : or_copyI own cc nL kd ret κ kc w0 (oX p l e R s m args below meth c nL ret dC dI σ0 w0) := fun pc lv st σ ix a0 a n0 n1 f g sp dp n d hm ha0 ha h1 h2 h3 h4 h5 hc k => ⟨k.1, fun ls H locs hl hI => by
  have hRm := C.2.2.2.1
  exact oo_copyI C.1.1 C.1.2.1 (C.1.2.2.1.trans hl.1.symm) C.1.2.2.2.1 (C.1.2.2.2.2 _ (List.mem_cons_of_mem _ (List.mem_append_left _ (wOx_k (List.mem_append_right _ (List.mem_append_right _ (List.mem_append_right _ (List.mem_append_right _ (List.mem_append_right _ (List.mem_append_right _ (List.mem_cons_of_mem _ (List.mem_cons_of_mem _ (List.mem_cons_of_mem _ (List.mem_cons_of_mem _ (List.mem_cons_of_mem _ (List.mem_cons_of_mem _ (List.mem_cons_of_mem _ (List.mem_cons_of_mem _ (List.mem_cons_of_mem _ (List.mem_cons_of_mem _ (List.mem_cons_of_mem _ (List.mem_cons_of_mem _ (List.mem_cons_of_mem _ (List.mem_cons_of_mem _ (List.mem_cons_of_mem _ (List.mem_cons_of_mem _ (List.mem_cons_of_mem _ (List.mem_cons_of_mem _ (List.mem_cons_of_mem _ (List.mem_cons_of_mem _ (List.mem_cons_of_mem _ (List.mem_cons_of_mem _ (List.mem_append_left _ (List.mem_map.mpr ⟨(own, ix), hm, rfl⟩)))))))))))))))))))))))))))))))))) (C.1.2.2.2.2 (.native arraycopyName) (List.mem_cons_of_mem _ (List.mem_append_left _ (wOx_k (List.mem_append_right _ (List.mem_append_right _ (List.mem_append_right _ (List.mem_append_right _ (List.mem_append_right _ (List.mem_append_right _ (List.mem_of_getElem? (i := 1) rfl))))))))))) (C.1.2.2.2.2 (.static arraycopyName) (List.mem_cons_of_mem _ (List.mem_append_left _ (wOx_k (List.mem_append_right _ (List.mem_append_right _ (List.mem_append_right _ (List.mem_append_right _ (List.mem_append_right _ (List.mem_append_right _ (List.mem_of_getElem? (i := 2) rfl))))))))))) (C.1.2.2.2.2 (.initialized "java/lang/System") (List.mem_cons_of_mem _ (List.mem_append_left _ (wOx_k (List.mem_append_right _ (List.mem_append_right _ (List.mem_append_right _ (List.mem_append_right _ (List.mem_append_right _ (List.mem_append_right _ (List.mem_of_getElem? (i := 0) rfl))))))))))) hI.2.2.2.1.1 hI.1 hI.2.1 hI.2.2.1 hI.2.2.2.1.low ha0 ha h1 h2 h3 h4 h5 (by omega) (by have hw5 : nativeFrameWords "java/lang/System" "arraycopy" 5 ≤ 60 := (by decide); omega) d (fun H1 locs1 hR1 hS1 hL1 hz => k.2 ls H1 locs1 hl (hI.put hR1 hS1 hL1 hz))⟩
theorem oi_copyB (C : oCx p l R s m args meth c own cc nL kd d0 ret dC dI κ sz0 σ0 w0 e0 kc) : or_copyB own cc nL kd ret κ kc w0 (oX p l e R s m args below meth c nL ret dC dI σ0 w0) := fun pc lv st σ ix a0 a n0 n1 f g sp dp n d hm ha0 ha h1 h2 h3 h4 h5 hfit hc k => ⟨k.1, fun ls H locs hl hI => by
  have hRm := C.2.2.2.1
  exact oo_copyB C.1.1 C.1.2.1 (C.1.2.2.1.trans hl.1.symm) C.1.2.2.2.1 (C.1.2.2.2.2 _ (List.mem_cons_of_mem _ (List.mem_append_left _ (wOx_k (List.mem_append_right _ (List.mem_append_right _ (List.mem_append_right _ (List.mem_append_right _ (List.mem_append_right _ (List.mem_append_right _ (List.mem_cons_of_mem _ (List.mem_cons_of_mem _ (List.mem_cons_of_mem _ (List.mem_cons_of_mem _ (List.mem_cons_of_mem _ (List.mem_cons_of_mem _ (List.mem_cons_of_mem _ (List.mem_cons_of_mem _ (List.mem_cons_of_mem _ (List.mem_cons_of_mem _ (List.mem_cons_of_mem _ (List.mem_cons_of_mem _ (List.mem_cons_of_mem _ (List.mem_cons_of_mem _ (List.mem_cons_of_mem _ (List.mem_cons_of_mem _ (List.mem_cons_of_mem _ (List.mem_cons_of_mem _ (List.mem_cons_of_mem _ (List.mem_cons_of_mem _ (List.mem_cons_of_mem _ (List.mem_cons_of_mem _ (List.mem_append_left _ (List.mem_map.mpr ⟨(own, ix), hm, rfl⟩)))))))))))))))))))))))))))))))))) (C.1.2.2.2.2 (.native arraycopyName) (List.mem_cons_of_mem _ (List.mem_append_left _ (wOx_k (List.mem_append_right _ (List.mem_append_right _ (List.mem_append_right _ (List.mem_append_right _ (List.mem_append_right _ (List.mem_append_right _ (List.mem_of_getElem? (i := 1) rfl))))))))))) (C.1.2.2.2.2 (.static arraycopyName) (List.mem_cons_of_mem _ (List.mem_append_left _ (wOx_k (List.mem_append_right _ (List.mem_append_right _ (List.mem_append_right _ (List.mem_append_right _ (List.mem_append_right _ (List.mem_append_right _ (List.mem_of_getElem? (i := 2) rfl))))))))))) (C.1.2.2.2.2 (.initialized "java/lang/System") (List.mem_cons_of_mem _ (List.mem_append_left _ (wOx_k (List.mem_append_right _ (List.mem_append_right _ (List.mem_append_right _ (List.mem_append_right _ (List.mem_append_right _ (List.mem_append_right _ (List.mem_of_getElem? (i := 0) rfl))))))))))) hI.2.2.2.1.1 hI.1 hI.2.1 hI.2.2.1 hI.2.2.2.1.low ha0 ha h1 h2 h3 h4 h5 hfit (by omega) (by have hw5 : nativeFrameWords "java/lang/System" "arraycopy" 5 ≤ 60 := (by decide); omega) d (fun H1 locs1 hR1 hS1 hL1 hz => k.2 ls H1 locs1 hl (hI.put hR1 hS1 hL1 hz))⟩
theorem oi_copyJ (C : oCx p l R s m args meth c own cc nL kd d0 ret dC dI κ sz0 σ0 w0 e0 kc) : or_copyJ own cc nL kd ret κ kc w0 (oX p l e R s m args below meth c nL ret dC dI σ0 w0) := fun pc lv st σ ix a0 a n0 n1 f g sp dp n d hm ha0 ha h1 h2 h3 h4 h5 hc k => ⟨k.1, fun ls H locs hl hI => by
  have hRm := C.2.2.2.1
  exact oo_copyJ C.1.1 C.1.2.1 (C.1.2.2.1.trans hl.1.symm) C.1.2.2.2.1 (C.1.2.2.2.2 _ (List.mem_cons_of_mem _ (List.mem_append_left _ (wOx_k (List.mem_append_right _ (List.mem_append_right _ (List.mem_append_right _ (List.mem_append_right _ (List.mem_append_right _ (List.mem_append_right _ (List.mem_cons_of_mem _ (List.mem_cons_of_mem _ (List.mem_cons_of_mem _ (List.mem_cons_of_mem _ (List.mem_cons_of_mem _ (List.mem_cons_of_mem _ (List.mem_cons_of_mem _ (List.mem_cons_of_mem _ (List.mem_cons_of_mem _ (List.mem_cons_of_mem _ (List.mem_cons_of_mem _ (List.mem_cons_of_mem _ (List.mem_cons_of_mem _ (List.mem_cons_of_mem _ (List.mem_cons_of_mem _ (List.mem_cons_of_mem _ (List.mem_cons_of_mem _ (List.mem_cons_of_mem _ (List.mem_cons_of_mem _ (List.mem_cons_of_mem _ (List.mem_cons_of_mem _ (List.mem_cons_of_mem _ (List.mem_append_left _ (List.mem_map.mpr ⟨(own, ix), hm, rfl⟩)))))))))))))))))))))))))))))))))) (C.1.2.2.2.2 (.native arraycopyName) (List.mem_cons_of_mem _ (List.mem_append_left _ (wOx_k (List.mem_append_right _ (List.mem_append_right _ (List.mem_append_right _ (List.mem_append_right _ (List.mem_append_right _ (List.mem_append_right _ (List.mem_of_getElem? (i := 1) rfl))))))))))) (C.1.2.2.2.2 (.static arraycopyName) (List.mem_cons_of_mem _ (List.mem_append_left _ (wOx_k (List.mem_append_right _ (List.mem_append_right _ (List.mem_append_right _ (List.mem_append_right _ (List.mem_append_right _ (List.mem_append_right _ (List.mem_of_getElem? (i := 2) rfl))))))))))) (C.1.2.2.2.2 (.initialized "java/lang/System") (List.mem_cons_of_mem _ (List.mem_append_left _ (wOx_k (List.mem_append_right _ (List.mem_append_right _ (List.mem_append_right _ (List.mem_append_right _ (List.mem_append_right _ (List.mem_append_right _ (List.mem_of_getElem? (i := 0) rfl))))))))))) hI.2.2.2.1.1 hI.1 hI.2.1 hI.2.2.1 hI.2.2.2.1.low ha0 ha h1 h2 h3 h4 h5 (by omega) (by have hw5 : nativeFrameWords "java/lang/System" "arraycopy" 5 ≤ 60 := (by decide); omega) d (fun H1 locs1 hR1 hS1 hL1 hz => k.2 ls H1 locs1 hl (hI.put hR1 hS1 hL1 hz))⟩
theorem oi_copyQ (C : oCx p l R s m args meth c own cc nL kd d0 ret dC dI κ sz0 σ0 w0 e0 kc) : or_copyQ own cc nL kd ret κ kc w0 (oX p l e R s m args below meth c nL ret dC dI σ0 w0) := fun pc lv st σ ix a0 a n0 n1 ci E f g sp dp n d hm ha0 ha h1 h2 h3 h4 h5 hci hE hel hc k => ⟨k.1, fun ls H locs hl hI => by
  have hRm := C.2.2.2.1
  refine oo_copyQ (w := oq ci) C.1.1 C.1.2.1 (C.1.2.2.1.trans hl.1.symm) C.1.2.2.2.1 (C.1.2.2.2.2 _ (List.mem_cons_of_mem _ (List.mem_append_left _ (wOx_k (List.mem_append_right _ (List.mem_append_right _ (List.mem_append_right _ (List.mem_append_right _ (List.mem_append_right _ (List.mem_append_right _ (List.mem_cons_of_mem _ (List.mem_cons_of_mem _ (List.mem_cons_of_mem _ (List.mem_cons_of_mem _ (List.mem_cons_of_mem _ (List.mem_cons_of_mem _ (List.mem_cons_of_mem _ (List.mem_cons_of_mem _ (List.mem_cons_of_mem _ (List.mem_cons_of_mem _ (List.mem_cons_of_mem _ (List.mem_cons_of_mem _ (List.mem_cons_of_mem _ (List.mem_cons_of_mem _ (List.mem_cons_of_mem _ (List.mem_cons_of_mem _ (List.mem_cons_of_mem _ (List.mem_cons_of_mem _ (List.mem_cons_of_mem _ (List.mem_cons_of_mem _ (List.mem_cons_of_mem _ (List.mem_cons_of_mem _ (List.mem_append_left _ (List.mem_map.mpr ⟨(own, ix), hm, rfl⟩)))))))))))))))))))))))))))))))))) (C.1.2.2.2.2 (.native arraycopyName) (List.mem_cons_of_mem _ (List.mem_append_left _ (wOx_k (List.mem_append_right _ (List.mem_append_right _ (List.mem_append_right _ (List.mem_append_right _ (List.mem_append_right _ (List.mem_append_right _ (List.mem_of_getElem? (i := 1) rfl))))))))))) (C.1.2.2.2.2 (.static arraycopyName) (List.mem_cons_of_mem _ (List.mem_append_left _ (wOx_k (List.mem_append_right _ (List.mem_append_right _ (List.mem_append_right _ (List.mem_append_right _ (List.mem_append_right _ (List.mem_append_right _ (List.mem_of_getElem? (i := 2) rfl))))))))))) (C.1.2.2.2.2 (.initialized "java/lang/System") (List.mem_cons_of_mem _ (List.mem_append_left _ (wOx_k (List.mem_append_right _ (List.mem_append_right _ (List.mem_append_right _ (List.mem_append_right _ (List.mem_append_right _ (List.mem_append_right _ (List.mem_of_getElem? (i := 0) rfl))))))))))) hI.2.2.2.1.1 hI.1 hI.2.1 hI.2.2.1 hI.2.2.2.1.low ha0 ha h1 h2 h3 h4 h5 (oq_at hci) hel (fun comp c0 g1 g2 => ?_) (by omega) (by have hw5 : nativeFrameWords "java/lang/System" "arraycopy" 5 ≤ 60 := (by decide); omega) d (fun H1 locs1 hR1 hS1 hL1 hz => k.2 ls H1 locs1 hl (hI.put hR1 hS1 hL1 hz))
  rcases hE with ⟨hE, hc1⟩ | hE
  · subst hE
    obtain ⟨c9, t9, f1, f2, f3⟩ := Cond.castable_spec (va_Nw.use (A := args) rfl (C.2.2.2.2.2.1.1.2.2.2.2.2.2.1 ci hci hc1))
    cases g2.symm.trans f1
    cases g1.symm.trans f2
    exact f3
  · rw [hE] at g1
    cases g1.symm.trans g2
    exact va_asg _ _⟩
theorem oi_mmax (C : oCx p l R s m args meth c own cc nL kd d0 ret dC dI κ sz0 σ0 w0 e0 kc) : or_mmax own cc nL kd ret κ kc w0 (oX p l e R s m args below meth c nL ret dC dI σ0 w0) := fun pc lv st σ ix x y d hm hc k => ⟨k.1, fun ls H locs hl hI => by
  have hRm := C.2.2.2.1
  have k1 := k.1.1
  have k2 := k.1.2
  obtain ⟨z1, z2, z3, z4, z5⟩ := hI.2.2.2.1
  exact va_mmax C.1.1 C.1.2.1 (C.1.2.2.1.trans hl.1.symm) C.1.2.2.2.1 (C.1.2.2.2.2 _ (List.mem_cons_of_mem _ (List.mem_append_left _ (wOx_k (List.mem_append_right _ (List.mem_append_right _ (List.mem_append_right _ (List.mem_append_right _ (List.mem_append_right _ (List.mem_append_right _ (List.mem_cons_of_mem _ (List.mem_cons_of_mem _ (List.mem_cons_of_mem _ (List.mem_cons_of_mem _ (List.mem_cons_of_mem _ (List.mem_cons_of_mem _ (List.mem_cons_of_mem _ (List.mem_cons_of_mem _ (List.mem_cons_of_mem _ (List.mem_cons_of_mem _ (List.mem_cons_of_mem _ (List.mem_cons_of_mem _ (List.mem_cons_of_mem _ (List.mem_cons_of_mem _ (List.mem_cons_of_mem _ (List.mem_cons_of_mem _ (List.mem_cons_of_mem _ (List.mem_cons_of_mem _ (List.mem_cons_of_mem _ (List.mem_cons_of_mem _ (List.mem_cons_of_mem _ (List.mem_cons_of_mem _ (List.mem_append_right _ (List.mem_append_left _ (List.mem_map.mpr ⟨(own, ix), hm, rfl⟩))))))))))))))))))))))))))))))))))) (C.1.2.2.2.2 (.static Lib.Math.max.name) (List.mem_cons_of_mem _ (List.mem_append_left _ (wOx_k (List.mem_append_right _ (List.mem_append_right _ (List.mem_append_right _ (List.mem_append_right _ (List.mem_append_right _ (List.mem_append_right _ (List.mem_of_getElem? (i := 4) rfl))))))))))) (C.1.2.2.2.2 (.initialized "java/lang/Math") (List.mem_cons_of_mem _ (List.mem_append_left _ (wOx_k (List.mem_append_right _ (List.mem_append_right _ (List.mem_append_right _ (List.mem_append_right _ (List.mem_append_right _ (List.mem_append_right _ (List.mem_of_getElem? (i := 3) rfl))))))))))) (C.1.2.2.2.2 (.code Lib.Math.max.name Lib.Math.max.code 2 (some .int)) (List.mem_cons_of_mem _ (List.mem_append_left _ (wOx_k (List.mem_append_right _ (List.mem_append_right _ (List.mem_append_right _ (List.mem_append_right _ (List.mem_append_right _ (List.mem_append_right _ (List.mem_of_getElem? (i := 5) rfl))))))))))) (by omega) (by omega) (by omega) (by omega) d (k.2 ls H locs hl hI)⟩
theorem oi_mmin (C : oCx p l R s m args meth c own cc nL kd d0 ret dC dI κ sz0 σ0 w0 e0 kc) : or_mmin own cc nL kd ret κ kc w0 (oX p l e R s m args below meth c nL ret dC dI σ0 w0) := fun pc lv st σ ix x y d hm hc k => ⟨k.1, fun ls H locs hl hI => by
  have hRm := C.2.2.2.1
  have k1 := k.1.1
  have k2 := k.1.2
  obtain ⟨z1, z2, z3, z4, z5⟩ := hI.2.2.2.1
  exact va_mmin C.1.1 C.1.2.1 (C.1.2.2.1.trans hl.1.symm) C.1.2.2.2.1 (C.1.2.2.2.2 _ (List.mem_cons_of_mem _ (List.mem_append_left _ (wOx_k (List.mem_append_right _ (List.mem_append_right _ (List.mem_append_right _ (List.mem_append_right _ (List.mem_append_right _ (List.mem_append_right _ (List.mem_cons_of_mem _ (List.mem_cons_of_mem _ (List.mem_cons_of_mem _ (List.mem_cons_of_mem _ (List.mem_cons_of_mem _ (List.mem_cons_of_mem _ (List.mem_cons_of_mem _ (List.mem_cons_of_mem _ (List.mem_cons_of_mem _ (List.mem_cons_of_mem _ (List.mem_cons_of_mem _ (List.mem_cons_of_mem _ (List.mem_cons_of_mem _ (List.mem_cons_of_mem _ (List.mem_cons_of_mem _ (List.mem_cons_of_mem _ (List.mem_cons_of_mem _ (List.mem_cons_of_mem _ (List.mem_cons_of_mem _ (List.mem_cons_of_mem _ (List.mem_cons_of_mem _ (List.mem_cons_of_mem _ (List.mem_append_right _ (List.mem_append_right _ (List.mem_append_left _ (List.mem_map.mpr ⟨(own, ix), hm, rfl⟩)))))))))))))))))))))))))))))))))))) (C.1.2.2.2.2 (.static Lib.Math.min.name) (List.mem_cons_of_mem _ (List.mem_append_left _ (wOx_k (List.mem_append_right _ (List.mem_append_right _ (List.mem_append_right _ (List.mem_append_right _ (List.mem_append_right _ (List.mem_append_right _ (List.mem_of_getElem? (i := 6) rfl))))))))))) (C.1.2.2.2.2 (.initialized "java/lang/Math") (List.mem_cons_of_mem _ (List.mem_append_left _ (wOx_k (List.mem_append_right _ (List.mem_append_right _ (List.mem_append_right _ (List.mem_append_right _ (List.mem_append_right _ (List.mem_append_right _ (List.mem_of_getElem? (i := 3) rfl))))))))))) (C.1.2.2.2.2 (.code Lib.Math.min.name Lib.Math.min.code 2 (some .int)) (List.mem_cons_of_mem _ (List.mem_append_left _ (wOx_k (List.mem_append_right _ (List.mem_append_right _ (List.mem_append_right _ (List.mem_append_right _ (List.mem_append_right _ (List.mem_append_right _ (List.mem_of_getElem? (i := 7) rfl))))))))))) (by omega) (by omega) (by omega) (by omega) d (k.2 ls H locs hl hI)⟩
theorem oi_mabs (C : oCx p l R s m args meth c own cc nL kd d0 ret dC dI κ sz0 σ0 w0 e0 kc) : or_mabs own cc nL kd ret κ kc w0 (oX p l e R s m args below meth c nL ret dC dI σ0 w0) := fun pc lv st σ ix x d hm hc k => ⟨k.1, fun ls H locs hl hI => by
  have hRm := C.2.2.2.1
  have k1 := k.1.1
  have k2 := k.1.2
  obtain ⟨z1, z2, z3, z4, z5⟩ := hI.2.2.2.1
  exact va_mabs C.1.1 C.1.2.1 (C.1.2.2.1.trans hl.1.symm) C.1.2.2.2.1 (C.1.2.2.2.2 _ (List.mem_cons_of_mem _ (List.mem_append_left _ (wOx_k (List.mem_append_right _ (List.mem_append_right _ (List.mem_append_right _ (List.mem_append_right _ (List.mem_append_right _ (List.mem_append_right _ (List.mem_cons_of_mem _ (List.mem_cons_of_mem _ (List.mem_cons_of_mem _ (List.mem_cons_of_mem _ (List.mem_cons_of_mem _ (List.mem_cons_of_mem _ (List.mem_cons_of_mem _ (List.mem_cons_of_mem _ (List.mem_cons_of_mem _ (List.mem_cons_of_mem _ (List.mem_cons_of_mem _ (List.mem_cons_of_mem _ (List.mem_cons_of_mem _ (List.mem_cons_of_mem _ (List.mem_cons_of_mem _ (List.mem_cons_of_mem _ (List.mem_cons_of_mem _ (List.mem_cons_of_mem _ (List.mem_cons_of_mem _ (List.mem_cons_of_mem _ (List.mem_cons_of_mem _ (List.mem_cons_of_mem _ (List.mem_append_right _ (List.mem_append_right _ (List.mem_append_right _ (List.mem_append_left _ (List.mem_map.mpr ⟨(own, ix), hm, rfl⟩))))))))))))))))))))))))))))))))))))) (C.1.2.2.2.2 (.static Lib.Math.abs.name) (List.mem_cons_of_mem _ (List.mem_append_left _ (wOx_k (List.mem_append_right _ (List.mem_append_right _ (List.mem_append_right _ (List.mem_append_right _ (List.mem_append_right _ (List.mem_append_right _ (List.mem_of_getElem? (i := 8) rfl))))))))))) (C.1.2.2.2.2 (.initialized "java/lang/Math") (List.mem_cons_of_mem _ (List.mem_append_left _ (wOx_k (List.mem_append_right _ (List.mem_append_right _ (List.mem_append_right _ (List.mem_append_right _ (List.mem_append_right _ (List.mem_append_right _ (List.mem_of_getElem? (i := 3) rfl))))))))))) (C.1.2.2.2.2 (.code Lib.Math.abs.name Lib.Math.abs.code 1 (some .int)) (List.mem_cons_of_mem _ (List.mem_append_left _ (wOx_k (List.mem_append_right _ (List.mem_append_right _ (List.mem_append_right _ (List.mem_append_right _ (List.mem_append_right _ (List.mem_append_right _ (List.mem_of_getElem? (i := 9) rfl))))))))))) (by omega) (by omega) (by omega) (by omega) d (k.2 ls H locs hl hI)⟩
theorem oi_mminL (C : oCx p l R s m args meth c own cc nL kd d0 ret dC dI κ sz0 σ0 w0 e0 kc) : or_mminL own cc nL kd ret κ kc w0 (oX p l e R s m args below meth c nL ret dC dI σ0 w0) := fun pc lv st σ ix x y d hm hc k => ⟨k.1, fun ls H locs hl hI => by
  have hRm := C.2.2.2.1
  have k1 := k.1.1
  have k2 := k.1.2
  obtain ⟨z1, z2, z3, z4, z5⟩ := hI.2.2.2.1
  exact va_mmin_long C.1.1 C.1.2.1 (C.1.2.2.1.trans hl.1.symm) C.1.2.2.2.1 (C.1.2.2.2.2 _ (List.mem_cons_of_mem _ (List.mem_append_left _ (wOx_k (List.mem_append_right _ (List.mem_append_right _ (List.mem_append_right _ (List.mem_append_right _ (List.mem_append_right _ (List.mem_append_right _ (List.mem_cons_of_mem _ (List.mem_cons_of_mem _ (List.mem_cons_of_mem _ (List.mem_cons_of_mem _ (List.mem_cons_of_mem _ (List.mem_cons_of_mem _ (List.mem_cons_of_mem _ (List.mem_cons_of_mem _ (List.mem_cons_of_mem _ (List.mem_cons_of_mem _ (List.mem_cons_of_mem _ (List.mem_cons_of_mem _ (List.mem_cons_of_mem _ (List.mem_cons_of_mem _ (List.mem_cons_of_mem _ (List.mem_cons_of_mem _ (List.mem_cons_of_mem _ (List.mem_cons_of_mem _ (List.mem_cons_of_mem _ (List.mem_cons_of_mem _ (List.mem_cons_of_mem _ (List.mem_cons_of_mem _ (List.mem_append_right _ (List.mem_append_right _ (List.mem_append_right _ (List.mem_append_right _ (List.mem_append_left _ (List.mem_map.mpr ⟨(own, ix), hm, rfl⟩)))))))))))))))))))))))))))))))))))))) (C.1.2.2.2.2 (.static Lib.MathLoose.min_long.x) (List.mem_cons_of_mem _ (List.mem_append_left _ (wOx_k (List.mem_append_right _ (List.mem_append_right _ (List.mem_append_right _ (List.mem_append_right _ (List.mem_append_right _ (List.mem_append_right _ (List.mem_of_getElem? (i := 10) rfl))))))))))) (C.1.2.2.2.2 (.initialized "java/lang/Math") (List.mem_cons_of_mem _ (List.mem_append_left _ (wOx_k (List.mem_append_right _ (List.mem_append_right _ (List.mem_append_right _ (List.mem_append_right _ (List.mem_append_right _ (List.mem_append_right _ (List.mem_of_getElem? (i := 3) rfl))))))))))) (C.1.2.2.2.2 (.code Lib.MathLoose.min_long.x Lib.MathLoose.min_long.code 4 (some .long)) (List.mem_cons_of_mem _ (List.mem_append_left _ (wOx_k (List.mem_append_right _ (List.mem_append_right _ (List.mem_append_right _ (List.mem_append_right _ (List.mem_append_right _ (List.mem_append_right _ (List.mem_of_getElem? (i := 11) rfl))))))))))) (by omega) (by omega) (by omega) (by omega) d (k.2 ls H locs hl hI)⟩
theorem oi_mabsL (C : oCx p l R s m args meth c own cc nL kd d0 ret dC dI κ sz0 σ0 w0 e0 kc) : or_mabsL own cc nL kd ret κ kc w0 (oX p l e R s m args below meth c nL ret dC dI σ0 w0) := fun pc lv st σ ix x d hm hc k => ⟨k.1, fun ls H locs hl hI => by
  have hRm := C.2.2.2.1
  have k1 := k.1.1
  have k2 := k.1.2
  obtain ⟨z1, z2, z3, z4, z5⟩ := hI.2.2.2.1
  exact va_mabs_long C.1.1 C.1.2.1 (C.1.2.2.1.trans hl.1.symm) C.1.2.2.2.1 (C.1.2.2.2.2 _ (List.mem_cons_of_mem _ (List.mem_append_left _ (wOx_k (List.mem_append_right _ (List.mem_append_right _ (List.mem_append_right _ (List.mem_append_right _ (List.mem_append_right _ (List.mem_append_right _ (List.mem_cons_of_mem _ (List.mem_cons_of_mem _ (List.mem_cons_of_mem _ (List.mem_cons_of_mem _ (List.mem_cons_of_mem _ (List.mem_cons_of_mem _ (List.mem_cons_of_mem _ (List.mem_cons_of_mem _ (List.mem_cons_of_mem _ (List.mem_cons_of_mem _ (List.mem_cons_of_mem _ (List.mem_cons_of_mem _ (List.mem_cons_of_mem _ (List.mem_cons_of_mem _ (List.mem_cons_of_mem _ (List.mem_cons_of_mem _ (List.mem_cons_of_mem _ (List.mem_cons_of_mem _ (List.mem_cons_of_mem _ (List.mem_cons_of_mem _ (List.mem_cons_of_mem _ (List.mem_cons_of_mem _ (List.mem_append_right _ (List.mem_append_right _ (List.mem_append_right _ (List.mem_append_right _ (List.mem_append_right _ (List.mem_append_left _ (List.mem_map.mpr ⟨(own, ix), hm, rfl⟩))))))))))))))))))))))))))))))))))))))) (C.1.2.2.2.2 (.static Lib.MathLoose.abs_long.x) (List.mem_cons_of_mem _ (List.mem_append_left _ (wOx_k (List.mem_append_right _ (List.mem_append_right _ (List.mem_append_right _ (List.mem_append_right _ (List.mem_append_right _ (List.mem_append_right _ (List.mem_of_getElem? (i := 12) rfl))))))))))) (C.1.2.2.2.2 (.initialized "java/lang/Math") (List.mem_cons_of_mem _ (List.mem_append_left _ (wOx_k (List.mem_append_right _ (List.mem_append_right _ (List.mem_append_right _ (List.mem_append_right _ (List.mem_append_right _ (List.mem_append_right _ (List.mem_of_getElem? (i := 3) rfl))))))))))) (C.1.2.2.2.2 (.code Lib.MathLoose.abs_long.x Lib.MathLoose.abs_long.code 2 (some .long)) (List.mem_cons_of_mem _ (List.mem_append_left _ (wOx_k (List.mem_append_right _ (List.mem_append_right _ (List.mem_append_right _ (List.mem_append_right _ (List.mem_append_right _ (List.mem_append_right _ (List.mem_of_getElem? (i := 13) rfl))))))))))) (by omega) (by omega) (by omega) (by omega) d (k.2 ls H locs hl hI)⟩
theorem oi_objI (C : oCx p l R s m args meth c own cc nL kd d0 ret dC dI κ sz0 σ0 w0 e0 kc) : or_objI own cc nL kd ret κ kc w0 (oX p l e R s m args below meth c nL ret dC dI σ0 w0) := fun pc lv st σ ix a d hm hc k => ⟨k.1, fun ls H locs hl hI => by
  have hRm := C.2.2.2.1
  exact W.objInit C.1.1 C.1.2.1 C.1.2.2.2.1 (C.1.2.2.2.2 _ (List.mem_cons_of_mem _ (List.mem_append_left _ (wOx_k (List.mem_append_right _ (List.mem_append_right _ (List.mem_append_right _ (List.mem_append_right _ (List.mem_append_right _ (List.mem_append_right _ (List.mem_cons_of_mem _ (List.mem_cons_of_mem _ (List.mem_cons_of_mem _ (List.mem_cons_of_mem _ (List.mem_cons_of_mem _ (List.mem_cons_of_mem _ (List.mem_cons_of_mem _ (List.mem_cons_of_mem _ (List.mem_cons_of_mem _ (List.mem_cons_of_mem _ (List.mem_cons_of_mem _ (List.mem_cons_of_mem _ (List.mem_cons_of_mem _ (List.mem_cons_of_mem _ (List.mem_cons_of_mem _ (List.mem_cons_of_mem _ (List.mem_cons_of_mem _ (List.mem_cons_of_mem _ (List.mem_cons_of_mem _ (List.mem_cons_of_mem _ (List.mem_cons_of_mem _ (List.mem_cons_of_mem _ (List.mem_append_right _ (List.mem_append_right _ (List.mem_append_right _ (List.mem_append_right _ (List.mem_append_right _ (List.mem_append_right _ (List.mem_append_left _ (List.mem_map.mpr ⟨(own, ix), hm, rfl⟩)))))))))))))))))))))))))))))))))))))))) (C.1.2.2.2.2 (.instanceMethod objectInit) (List.mem_cons_of_mem _ (List.mem_append_left _ (wOx_k (List.mem_append_right _ (List.mem_append_right _ (List.mem_append_right _ (List.mem_append_right _ (List.mem_append_right _ (List.mem_append_right _ (List.mem_of_getElem? (i := 14) rfl))))))))))) (C.1.2.2.2.2 (.code objectInit ⟨#[0xb1]⟩ 1 none) (List.mem_cons_of_mem _ (List.mem_append_left _ (wOx_k (List.mem_append_right _ (List.mem_append_right _ (List.mem_append_right _ (List.mem_append_right _ (List.mem_append_right _ (List.mem_append_right _ (List.mem_of_getElem? (i := 15) rfl))))))))))) rfl (by rw [C.1.2.2.1]; exact hl.1) rfl d (by omega) (by show 2 * 0 + _ + 12 ≤ _; omega) (k.2 ls H locs hl hI)⟩
theorem oi_callVv (C : oCx p l R s m args meth c own cc nL kd d0 ret dC dI κ sz0 σ0 w0 e0 kc) : or_callVv own cc nL kd ret κ kc w0 (oX p l e R s m args below meth c nL ret dC dI σ0 w0) := fun pc lv rest σ ix j en as u b ci fs d hm he hs hr hl9 hc hb9 hci hk k => ⟨(have h9 := k.1; have h8 := (C.2.2.2.2.2.2 j _ σ _ hk).1; ⟨Nat.le_trans h8.1 h9.1, Nat.le_trans h8.2 h9.2⟩), fun ls H locs hl hI => by
  obtain ⟨hmo, d1, hd1, hM0⟩ := C.2.2.2.2.2.2 j _ σ _ hk
  have hM : Met l en.1 (ows en) _ _ _ _ _ _ := hM0 en he
  rw [oQ_v hr] at hM
  have h13 := (omt_ok en (List.mem_of_getElem? he)).2.2.1
  have hRm := C.2.2.2.1
  have k1 := k.1.1
  have k2 := k.1.2
  have m1 : σ.2.2.1 ≤ u.2.2.1 := hmo.1
  have m2 : σ.2.2.2 ≤ u.2.2.2 := hmo.2
  refine oW_size (fun hup => ?_)
  have hnx := hI.size hup
  obtain ⟨z1, z2, z3, z4, z5⟩ := hI.2.2.2.1
  have hrecv : ∃ cellB : Cell, H[b]? = some cellB ∧ cellB.vm.isStatics = false ∧ s.vm.findClass en.2.2.2.2.2.2 = some cellB.cls := by
    have g6 := ocls ci hci.1 hI.1 hb9
    rw [hci.2] at g6
    exact g6
  have hpre : ∀ U : State, U.heap = H → s.WarmedH U.vm → oPr dC dI κ sz0 (.ref b :: as) σ ((.ref b :: as) : List Value).toArray U := fun U hU hW => ⟨rfl, by rw [hU]; exact hnx, by
    have h9 := (hI.1.moved hW.alike).weaken (B := oA σ) (fun a x hx => Or.inl (by rw [hx]; rfl))
    rw [← hU] at h9
    exact h9, fun q hq => C.2.2.2.2.2.1.2 q (hI.sub hnx q hq), C.2.2.2.2.2.1.1.call C.2.2.2.2.2.1.2 hI.2.1 hU hW⟩
  have hA9 : ∀ q, (σ.1 q).isSome = true → oA σ0 q := fun q h => by
    obtain ⟨x9, hx9⟩ := Option.isSome_iff_exists.mp h
    exact hI.1.in hx9
  have hAB : ∀ q, oA σ q → oB σ H q := fun q h => by
    rcases h with h | h
    · exact Or.inl h
    · exact Or.inr (by rw [← hnx]; exact h)
  refine va_callv (za_runV (As := as) (rest := rest) C.1 hM (cwV en.2.2.2.1 C.1.2.2.2.2 (ogoodV hm he hs) rfl rfl rfl ⟨(omt_ok en (List.mem_of_getElem? he)).1, (omt_ok en (List.mem_of_getElem? he)).2.2.2.2.1, (omt_ok en (List.mem_of_getElem? he)).2.2.2.2.2, (omt_ok en (List.mem_of_getElem? he)).2.1⟩ ⟨show d1 + 8 + 1 ≤ R.frames by omega, show 8 + (en.2.2.1 + 11) + (40 * d1 + 320) ≤ R.locals by omega⟩) (show 16 + (en.2.2.1 + 11) + (40 * d1 + 320) ≤ R.locals by omega) ⟨oPr_blind, hrecv, hpre⟩ rfl hl9 hl.1 rfl (za_room hc) d ⟨show σ.2.2.1 - σ0.2.2.1 + (u.2.2.1 - σ.2.2.1) ≤ R.cells by omega, show σ.2.2.2 - σ0.2.2.2 + (u.2.2.2 - σ.2.2.2) ≤ R.slots by omega⟩) (oB_S hI.2.2.1) (fun q _ h => hAB q h) hAB (fun u9 t H1 locs1 ht hvm hp hB hz1 hk1 hS1 => ?_)
  have hp9 : ((none : Option Value), u9) = (none, u) := hp
  cases hp9
  refine oW_size (fun hup1 => ?_)
  have b4 := hB.2.2.2.1
  have b5 := hB.2.2.2.2.1
  have e1 : σ.2.2.1 - σ0.2.2.1 + (u.2.2.1 - σ.2.2.1) = u.2.2.1 - σ0.2.2.1 := by omega
  have e2 : σ.2.2.2 - σ0.2.2.2 + (u.2.2.2 - σ.2.2.2) = u.2.2.2 - σ0.2.2.2 := by omega
  have hI1 : oInv dC dI s σ0 u H1 locs1 := hI.call hnx ht hvm hB (oB_up z1 hA9 hI.2.1 hS1) (fun x hx => Or.inr (by
    rcases hS1.2.2 x hx with h | h
    · exact Or.inl h
    · exact Or.inr (by rw [hnx]; exact h))) (by rw [← e1]; exact hup1)
  have h9 := k.2 ls H1 locs1 hl hI1
  rw [← e1, ← e2] at h9
  exact h9⟩
theorem oi_callSv (C : oCx p l R s m args meth c own cc nL kd d0 ret dC dI κ sz0 σ0 w0 e0 kc) : or_callSv own cc nL kd ret κ kc w0 (oX p l e R s m args below meth c nL ret dC dI σ0 w0) := fun pc lv rest σ ix j en as u d hm he hs hr hl9 hc hk k => ⟨(have h9 := k.1; have h8 := (C.2.2.2.2.2.2 j _ σ _ hk).1; ⟨Nat.le_trans h8.1 h9.1, Nat.le_trans h8.2 h9.2⟩), fun ls H locs hl hI => by
  obtain ⟨hmo, d1, hd1, hM0⟩ := C.2.2.2.2.2.2 j _ σ _ hk
  have hM : Met l en.1 (ows en) _ _ _ _ _ _ := hM0 en he
  rw [oQ_v hr] at hM
  have h13 := (omt_ok en (List.mem_of_getElem? he)).2.2.1
  have hRm := C.2.2.2.1
  have k1 := k.1.1
  have k2 := k.1.2
  have m1 : σ.2.2.1 ≤ u.2.2.1 := hmo.1
  have m2 : σ.2.2.2 ≤ u.2.2.2 := hmo.2
  refine oW_size (fun hup => ?_)
  have hnx := hI.size hup
  obtain ⟨z1, z2, z3, z4, z5⟩ := hI.2.2.2.1
  have hpre : ∀ U : State, U.heap = H → s.WarmedH U.vm → oPr dC dI κ sz0 as σ (as : List Value).toArray U := fun U hU hW => ⟨rfl, by rw [hU]; exact hnx, by
    have h9 := (hI.1.moved hW.alike).weaken (B := oA σ) (fun a x hx => Or.inl (by rw [hx]; rfl))
    rw [← hU] at h9
    exact h9, fun q hq => C.2.2.2.2.2.1.2 q (hI.sub hnx q hq), C.2.2.2.2.2.1.1.call C.2.2.2.2.2.1.2 hI.2.1 hU hW⟩
  have hA9 : ∀ q, (σ.1 q).isSome = true → oA σ0 q := fun q h => by
    obtain ⟨x9, hx9⟩ := Option.isSome_iff_exists.mp h
    exact hI.1.in hx9
  have hAB : ∀ q, oA σ q → oB σ H q := fun q h => by
    rcases h with h | h
    · exact Or.inl h
    · exact Or.inr (by rw [← hnx]; exact h)
  refine va_callv (za_runS (As := as) (rest := rest) C.1 hM (va_cwS en.2.2.2.1 C.1.2.2.2.2 (ogoodS hm he hs) rfl rfl rfl ⟨(omt_ok en (List.mem_of_getElem? he)).2.2.2.2.1, (omt_ok en (List.mem_of_getElem? he)).2.2.2.2.2, (omt_ok en (List.mem_of_getElem? he)).2.1⟩ ⟨show d1 + 8 + 1 ≤ R.frames by omega, show 8 + (en.2.2.1 + 11) + (40 * d1 + 320) ≤ R.locals by omega⟩) (show 16 + (en.2.2.1 + 11) + (40 * d1 + 320) ≤ R.locals by omega) ⟨oPr_blind, hpre⟩ rfl hl9 hl.1 rfl (za_room hc) d ⟨show σ.2.2.1 - σ0.2.2.1 + (u.2.2.1 - σ.2.2.1) ≤ R.cells by omega, show σ.2.2.2 - σ0.2.2.2 + (u.2.2.2 - σ.2.2.2) ≤ R.slots by omega⟩) (oB_S hI.2.2.1) (fun q _ h => hAB q h) hAB (fun u9 t H1 locs1 ht hvm hp hB hz1 hk1 hS1 => ?_)
  have hp9 : ((none : Option Value), u9) = (none, u) := hp
  cases hp9
  refine oW_size (fun hup1 => ?_)
  have b4 := hB.2.2.2.1
  have b5 := hB.2.2.2.2.1
  have e1 : σ.2.2.1 - σ0.2.2.1 + (u.2.2.1 - σ.2.2.1) = u.2.2.1 - σ0.2.2.1 := by omega
  have e2 : σ.2.2.2 - σ0.2.2.2 + (u.2.2.2 - σ.2.2.2) = u.2.2.2 - σ0.2.2.2 := by omega
  have hI1 : oInv dC dI s σ0 u H1 locs1 := hI.call hnx ht hvm hB (oB_up z1 hA9 hI.2.1 hS1) (fun x hx => Or.inr (by
    rcases hS1.2.2 x hx with h | h
    · exact Or.inl h
    · exact Or.inr (by rw [hnx]; exact h))) (by rw [← e1]; exact hup1)
  have h9 := k.2 ls H1 locs1 hl hI1
  rw [← e1, ← e2] at h9
  exact h9⟩
theorem oi_callVl (C : oCx p l R s m args meth c own cc nL kd d0 ret dC dI κ sz0 σ0 w0 e0 kc) : or_callVl own cc nL kd ret κ kc w0 (oX p l e R s m args below meth c nL ret dC dI σ0 w0) := fun pc lv rest σ ix j en as u b ci fs r d hm he hs hr hl9 hc hb9 hci hk k => ⟨(have h9 := k.1; have h8 := (C.2.2.2.2.2.2 j _ σ _ hk).1; ⟨Nat.le_trans h8.1 h9.1, Nat.le_trans h8.2 h9.2⟩), fun ls H locs hl hI => by
  obtain ⟨hmo, d1, hd1, hM0⟩ := C.2.2.2.2.2.2 j _ σ _ hk
  have hM : Met l en.1 (ows en) _ _ _ _ _ _ := hM0 en he
  rw [oQ_l hr] at hM
  have h13 := (omt_ok en (List.mem_of_getElem? he)).2.2.1
  have hRm := C.2.2.2.1
  have k1 := k.1.1
  have k2 := k.1.2
  have m1 : σ.2.2.1 ≤ u.2.2.1 := hmo.1
  have m2 : σ.2.2.2 ≤ u.2.2.2 := hmo.2
  refine oW_size (fun hup => ?_)
  have hnx := hI.size hup
  obtain ⟨z1, z2, z3, z4, z5⟩ := hI.2.2.2.1
  have hrecv : ∃ cellB : Cell, H[b]? = some cellB ∧ cellB.vm.isStatics = false ∧ s.vm.findClass en.2.2.2.2.2.2 = some cellB.cls := by
    have g6 := ocls ci hci.1 hI.1 hb9
    rw [hci.2] at g6
    exact g6
  have hpre : ∀ U : State, U.heap = H → s.WarmedH U.vm → oPr dC dI κ sz0 (.ref b :: as) σ ((.ref b :: as) : List Value).toArray U := fun U hU hW => ⟨rfl, by rw [hU]; exact hnx, by
    have h9 := (hI.1.moved hW.alike).weaken (B := oA σ) (fun a x hx => Or.inl (by rw [hx]; rfl))
    rw [← hU] at h9
    exact h9, fun q hq => C.2.2.2.2.2.1.2 q (hI.sub hnx q hq), C.2.2.2.2.2.1.1.call C.2.2.2.2.2.1.2 hI.2.1 hU hW⟩
  have hA9 : ∀ q, (σ.1 q).isSome = true → oA σ0 q := fun q h => by
    obtain ⟨x9, hx9⟩ := Option.isSome_iff_exists.mp h
    exact hI.1.in hx9
  have hAB : ∀ q, oA σ q → oB σ H q := fun q h => by
    rcases h with h | h
    · exact Or.inl h
    · exact Or.inr (by rw [← hnx]; exact h)
  refine va_calll (za_runV (As := as) (rest := rest) C.1 hM (cwV en.2.2.2.1 C.1.2.2.2.2 (ogoodV hm he hs) rfl rfl rfl ⟨(omt_ok en (List.mem_of_getElem? he)).1, (omt_ok en (List.mem_of_getElem? he)).2.2.2.2.1, (omt_ok en (List.mem_of_getElem? he)).2.2.2.2.2, (omt_ok en (List.mem_of_getElem? he)).2.1⟩ ⟨show d1 + 8 + 1 ≤ R.frames by omega, show 8 + (en.2.2.1 + 11) + (40 * d1 + 320) ≤ R.locals by omega⟩) (show 16 + (en.2.2.1 + 11) + (40 * d1 + 320) ≤ R.locals by omega) ⟨oPr_blind, hrecv, hpre⟩ rfl hl9 hl.1 rfl (za_room hc) d ⟨show σ.2.2.1 - σ0.2.2.1 + (u.2.2.1 - σ.2.2.1) ≤ R.cells by omega, show σ.2.2.2 - σ0.2.2.2 + (u.2.2.2 - σ.2.2.2) ≤ R.slots by omega⟩) (oB_S hI.2.2.1) (fun q _ h => hAB q h) hAB (fun r9 u9 t H1 locs1 ht hvm hp hB hz1 hk1 hS1 => ?_)
  have hp9 : (some (Value.long r9), u9) = (some (Value.long r), u) := hp
  cases hp9
  refine oW_size (fun hup1 => ?_)
  have b4 := hB.2.2.2.1
  have b5 := hB.2.2.2.2.1
  have e1 : σ.2.2.1 - σ0.2.2.1 + (u.2.2.1 - σ.2.2.1) = u.2.2.1 - σ0.2.2.1 := by omega
  have e2 : σ.2.2.2 - σ0.2.2.2 + (u.2.2.2 - σ.2.2.2) = u.2.2.2 - σ0.2.2.2 := by omega
  have hI1 : oInv dC dI s σ0 u H1 locs1 := hI.call hnx ht hvm hB (oB_up z1 hA9 hI.2.1 hS1) (fun x hx => Or.inr (by
    rcases hS1.2.2 x hx with h | h
    · exact Or.inl h
    · exact Or.inr (by rw [hnx]; exact h))) (by rw [← e1]; exact hup1)
  have h9 := k.2 ls H1 locs1 hl hI1
  rw [← e1, ← e2] at h9
  exact h9⟩
theorem oi_callSl (C : oCx p l R s m args meth c own cc nL kd d0 ret dC dI κ sz0 σ0 w0 e0 kc) : or_callSl own cc nL kd ret κ kc w0 (oX p l e R s m args below meth c nL ret dC dI σ0 w0) := fun pc lv rest σ ix j en as u r d hm he hs hr hl9 hc hk k => ⟨(have h9 := k.1; have h8 := (C.2.2.2.2.2.2 j _ σ _ hk).1; ⟨Nat.le_trans h8.1 h9.1, Nat.le_trans h8.2 h9.2⟩), fun ls H locs hl hI => by
  obtain ⟨hmo, d1, hd1, hM0⟩ := C.2.2.2.2.2.2 j _ σ _ hk
  have hM : Met l en.1 (ows en) _ _ _ _ _ _ := hM0 en he
  rw [oQ_l hr] at hM
  have h13 := (omt_ok en (List.mem_of_getElem? he)).2.2.1
  have hRm := C.2.2.2.1
  have k1 := k.1.1
  have k2 := k.1.2
  have m1 : σ.2.2.1 ≤ u.2.2.1 := hmo.1
  have m2 : σ.2.2.2 ≤ u.2.2.2 := hmo.2
  refine oW_size (fun hup => ?_)
  have hnx := hI.size hup
  obtain ⟨z1, z2, z3, z4, z5⟩ := hI.2.2.2.1
  have hpre : ∀ U : State, U.heap = H → s.WarmedH U.vm → oPr dC dI κ sz0 as σ (as : List Value).toArray U := fun U hU hW => ⟨rfl, by rw [hU]; exact hnx, by
    have h9 := (hI.1.moved hW.alike).weaken (B := oA σ) (fun a x hx => Or.inl (by rw [hx]; rfl))
    rw [← hU] at h9
    exact h9, fun q hq => C.2.2.2.2.2.1.2 q (hI.sub hnx q hq), C.2.2.2.2.2.1.1.call C.2.2.2.2.2.1.2 hI.2.1 hU hW⟩
  have hA9 : ∀ q, (σ.1 q).isSome = true → oA σ0 q := fun q h => by
    obtain ⟨x9, hx9⟩ := Option.isSome_iff_exists.mp h
    exact hI.1.in hx9
  have hAB : ∀ q, oA σ q → oB σ H q := fun q h => by
    rcases h with h | h
    · exact Or.inl h
    · exact Or.inr (by rw [← hnx]; exact h)
  refine va_calll (za_runS (As := as) (rest := rest) C.1 hM (va_cwS en.2.2.2.1 C.1.2.2.2.2 (ogoodS hm he hs) rfl rfl rfl ⟨(omt_ok en (List.mem_of_getElem? he)).2.2.2.2.1, (omt_ok en (List.mem_of_getElem? he)).2.2.2.2.2, (omt_ok en (List.mem_of_getElem? he)).2.1⟩ ⟨show d1 + 8 + 1 ≤ R.frames by omega, show 8 + (en.2.2.1 + 11) + (40 * d1 + 320) ≤ R.locals by omega⟩) (show 16 + (en.2.2.1 + 11) + (40 * d1 + 320) ≤ R.locals by omega) ⟨oPr_blind, hpre⟩ rfl hl9 hl.1 rfl (za_room hc) d ⟨show σ.2.2.1 - σ0.2.2.1 + (u.2.2.1 - σ.2.2.1) ≤ R.cells by omega, show σ.2.2.2 - σ0.2.2.2 + (u.2.2.2 - σ.2.2.2) ≤ R.slots by omega⟩) (oB_S hI.2.2.1) (fun q _ h => hAB q h) hAB (fun r9 u9 t H1 locs1 ht hvm hp hB hz1 hk1 hS1 => ?_)
  have hp9 : (some (Value.long r9), u9) = (some (Value.long r), u) := hp
  cases hp9
  refine oW_size (fun hup1 => ?_)
  have b4 := hB.2.2.2.1
  have b5 := hB.2.2.2.2.1
  have e1 : σ.2.2.1 - σ0.2.2.1 + (u.2.2.1 - σ.2.2.1) = u.2.2.1 - σ0.2.2.1 := by omega
  have e2 : σ.2.2.2 - σ0.2.2.2 + (u.2.2.2 - σ.2.2.2) = u.2.2.2 - σ0.2.2.2 := by omega
  have hI1 : oInv dC dI s σ0 u H1 locs1 := hI.call hnx ht hvm hB (oB_up z1 hA9 hI.2.1 hS1) (fun x hx => Or.inr (by
    rcases hS1.2.2 x hx with h | h
    · exact Or.inl h
    · exact Or.inr (by rw [hnx]; exact h))) (by rw [← e1]; exact hup1)
  have h9 := k.2 ls H1 locs1 hl hI1
  rw [← e1, ← e2] at h9
  exact h9⟩
theorem oi_callVi (C : oCx p l R s m args meth c own cc nL kd d0 ret dC dI κ sz0 σ0 w0 e0 kc) : or_callVi own cc nL kd ret κ kc w0 (oX p l e R s m args below meth c nL ret dC dI σ0 w0) := fun pc lv rest σ ix j en as u b ci fs r d hm he hs hr hl9 hc hb9 hci hk k => ⟨(have h9 := k.1; have h8 := (C.2.2.2.2.2.2 j _ σ _ hk).1; ⟨Nat.le_trans h8.1 h9.1, Nat.le_trans h8.2 h9.2⟩), fun ls H locs hl hI => by
  obtain ⟨hmo, d1, hd1, hM0⟩ := C.2.2.2.2.2.2 j _ σ _ hk
  have hM : Met l en.1 (ows en) _ _ _ _ _ _ := hM0 en he
  rw [oQ_i hr] at hM
  have h13 := (omt_ok en (List.mem_of_getElem? he)).2.2.1
  have hRm := C.2.2.2.1
  have k1 := k.1.1
  have k2 := k.1.2
  have m1 : σ.2.2.1 ≤ u.2.2.1 := hmo.1
  have m2 : σ.2.2.2 ≤ u.2.2.2 := hmo.2
  refine oW_size (fun hup => ?_)
  have hnx := hI.size hup
  obtain ⟨z1, z2, z3, z4, z5⟩ := hI.2.2.2.1
  have hrecv : ∃ cellB : Cell, H[b]? = some cellB ∧ cellB.vm.isStatics = false ∧ s.vm.findClass en.2.2.2.2.2.2 = some cellB.cls := by
    have g6 := ocls ci hci.1 hI.1 hb9
    rw [hci.2] at g6
    exact g6
  have hpre : ∀ U : State, U.heap = H → s.WarmedH U.vm → oPr dC dI κ sz0 (.ref b :: as) σ ((.ref b :: as) : List Value).toArray U := fun U hU hW => ⟨rfl, by rw [hU]; exact hnx, by
    have h9 := (hI.1.moved hW.alike).weaken (B := oA σ) (fun a x hx => Or.inl (by rw [hx]; rfl))
    rw [← hU] at h9
    exact h9, fun q hq => C.2.2.2.2.2.1.2 q (hI.sub hnx q hq), C.2.2.2.2.2.1.1.call C.2.2.2.2.2.1.2 hI.2.1 hU hW⟩
  have hA9 : ∀ q, (σ.1 q).isSome = true → oA σ0 q := fun q h => by
    obtain ⟨x9, hx9⟩ := Option.isSome_iff_exists.mp h
    exact hI.1.in hx9
  have hAB : ∀ q, oA σ q → oB σ H q := fun q h => by
    rcases h with h | h
    · exact Or.inl h
    · exact Or.inr (by rw [← hnx]; exact h)
  refine va_calli (za_runV (As := as) (rest := rest) C.1 hM (cwV en.2.2.2.1 C.1.2.2.2.2 (ogoodV hm he hs) rfl rfl rfl ⟨(omt_ok en (List.mem_of_getElem? he)).1, (omt_ok en (List.mem_of_getElem? he)).2.2.2.2.1, (omt_ok en (List.mem_of_getElem? he)).2.2.2.2.2, (omt_ok en (List.mem_of_getElem? he)).2.1⟩ ⟨show d1 + 8 + 1 ≤ R.frames by omega, show 8 + (en.2.2.1 + 11) + (40 * d1 + 320) ≤ R.locals by omega⟩) (show 16 + (en.2.2.1 + 11) + (40 * d1 + 320) ≤ R.locals by omega) ⟨oPr_blind, hrecv, hpre⟩ rfl hl9 hl.1 rfl (za_room hc) d ⟨show σ.2.2.1 - σ0.2.2.1 + (u.2.2.1 - σ.2.2.1) ≤ R.cells by omega, show σ.2.2.2 - σ0.2.2.2 + (u.2.2.2 - σ.2.2.2) ≤ R.slots by omega⟩) (oB_S hI.2.2.1) (fun q _ h => hAB q h) hAB (fun r9 u9 t H1 locs1 ht hvm hp hB hz1 hk1 hS1 => ?_)
  have hp9 : (some (Value.int r9), u9) = (some (Value.int r), u) := hp
  cases hp9
  refine oW_size (fun hup1 => ?_)
  have b4 := hB.2.2.2.1
  have b5 := hB.2.2.2.2.1
  have e1 : σ.2.2.1 - σ0.2.2.1 + (u.2.2.1 - σ.2.2.1) = u.2.2.1 - σ0.2.2.1 := by omega
  have e2 : σ.2.2.2 - σ0.2.2.2 + (u.2.2.2 - σ.2.2.2) = u.2.2.2 - σ0.2.2.2 := by omega
  have hI1 : oInv dC dI s σ0 u H1 locs1 := hI.call hnx ht hvm hB (oB_up z1 hA9 hI.2.1 hS1) (fun x hx => Or.inr (by
    rcases hS1.2.2 x hx with h | h
    · exact Or.inl h
    · exact Or.inr (by rw [hnx]; exact h))) (by rw [← e1]; exact hup1)
  have h9 := k.2 ls H1 locs1 hl hI1
  rw [← e1, ← e2] at h9
  exact h9⟩
theorem oi_callSi (C : oCx p l R s m args meth c own cc nL kd d0 ret dC dI κ sz0 σ0 w0 e0 kc) : or_callSi own cc nL kd ret κ kc w0 (oX p l e R s m args below meth c nL ret dC dI σ0 w0) := fun pc lv rest σ ix j en as u r d hm he hs hr hl9 hc hk k => ⟨(have h9 := k.1; have h8 := (C.2.2.2.2.2.2 j _ σ _ hk).1; ⟨Nat.le_trans h8.1 h9.1, Nat.le_trans h8.2 h9.2⟩), fun ls H locs hl hI => by
  obtain ⟨hmo, d1, hd1, hM0⟩ := C.2.2.2.2.2.2 j _ σ _ hk
  have hM : Met l en.1 (ows en) _ _ _ _ _ _ := hM0 en he
  rw [oQ_i hr] at hM
  have h13 := (omt_ok en (List.mem_of_getElem? he)).2.2.1
  have hRm := C.2.2.2.1
  have k1 := k.1.1
  have k2 := k.1.2
  have m1 : σ.2.2.1 ≤ u.2.2.1 := hmo.1
  have m2 : σ.2.2.2 ≤ u.2.2.2 := hmo.2
  refine oW_size (fun hup => ?_)
  have hnx := hI.size hup
  obtain ⟨z1, z2, z3, z4, z5⟩ := hI.2.2.2.1
  have hpre : ∀ U : State, U.heap = H → s.WarmedH U.vm → oPr dC dI κ sz0 as σ (as : List Value).toArray U := fun U hU hW => ⟨rfl, by rw [hU]; exact hnx, by
    have h9 := (hI.1.moved hW.alike).weaken (B := oA σ) (fun a x hx => Or.inl (by rw [hx]; rfl))
    rw [← hU] at h9
    exact h9, fun q hq => C.2.2.2.2.2.1.2 q (hI.sub hnx q hq), C.2.2.2.2.2.1.1.call C.2.2.2.2.2.1.2 hI.2.1 hU hW⟩
  have hA9 : ∀ q, (σ.1 q).isSome = true → oA σ0 q := fun q h => by
    obtain ⟨x9, hx9⟩ := Option.isSome_iff_exists.mp h
    exact hI.1.in hx9
  have hAB : ∀ q, oA σ q → oB σ H q := fun q h => by
    rcases h with h | h
    · exact Or.inl h
    · exact Or.inr (by rw [← hnx]; exact h)
  refine va_calli (za_runS (As := as) (rest := rest) C.1 hM (va_cwS en.2.2.2.1 C.1.2.2.2.2 (ogoodS hm he hs) rfl rfl rfl ⟨(omt_ok en (List.mem_of_getElem? he)).2.2.2.2.1, (omt_ok en (List.mem_of_getElem? he)).2.2.2.2.2, (omt_ok en (List.mem_of_getElem? he)).2.1⟩ ⟨show d1 + 8 + 1 ≤ R.frames by omega, show 8 + (en.2.2.1 + 11) + (40 * d1 + 320) ≤ R.locals by omega⟩) (show 16 + (en.2.2.1 + 11) + (40 * d1 + 320) ≤ R.locals by omega) ⟨oPr_blind, hpre⟩ rfl hl9 hl.1 rfl (za_room hc) d ⟨show σ.2.2.1 - σ0.2.2.1 + (u.2.2.1 - σ.2.2.1) ≤ R.cells by omega, show σ.2.2.2 - σ0.2.2.2 + (u.2.2.2 - σ.2.2.2) ≤ R.slots by omega⟩) (oB_S hI.2.2.1) (fun q _ h => hAB q h) hAB (fun r9 u9 t H1 locs1 ht hvm hp hB hz1 hk1 hS1 => ?_)
  have hp9 : (some (Value.int r9), u9) = (some (Value.int r), u) := hp
  cases hp9
  refine oW_size (fun hup1 => ?_)
  have b4 := hB.2.2.2.1
  have b5 := hB.2.2.2.2.1
  have e1 : σ.2.2.1 - σ0.2.2.1 + (u.2.2.1 - σ.2.2.1) = u.2.2.1 - σ0.2.2.1 := by omega
  have e2 : σ.2.2.2 - σ0.2.2.2 + (u.2.2.2 - σ.2.2.2) = u.2.2.2 - σ0.2.2.2 := by omega
  have hI1 : oInv dC dI s σ0 u H1 locs1 := hI.call hnx ht hvm hB (oB_up z1 hA9 hI.2.1 hS1) (fun x hx => Or.inr (by
    rcases hS1.2.2 x hx with h | h
    · exact Or.inl h
    · exact Or.inr (by rw [hnx]; exact h))) (by rw [← e1]; exact hup1)
  have h9 := k.2 ls H1 locs1 hl hI1
  rw [← e1, ← e2] at h9
  exact h9⟩
theorem oi_callVq (C : oCx p l R s m args meth c own cc nL kd d0 ret dC dI κ sz0 σ0 w0 e0 kc) : or_callVq own cc nL kd ret κ kc w0 (oX p l e R s m args below meth c nL ret dC dI σ0 w0) := fun pc lv rest σ ix j en as u b ci fs r d hm he hs hr hl9 hc hb9 hci hk k => ⟨(have h9 := k.1; have h8 := (C.2.2.2.2.2.2 j _ σ _ hk).1; ⟨Nat.le_trans h8.1 h9.1, Nat.le_trans h8.2 h9.2⟩), fun ls H locs hl hI => by
  obtain ⟨hmo, d1, hd1, hM0⟩ := C.2.2.2.2.2.2 j _ σ _ hk
  have hM : Met l en.1 (ows en) _ _ _ _ _ _ := hM0 en he
  rw [oQ_q hr] at hM
  have h13 := (omt_ok en (List.mem_of_getElem? he)).2.2.1
  have hRm := C.2.2.2.1
  have k1 := k.1.1
  have k2 := k.1.2
  have m1 : σ.2.2.1 ≤ u.2.2.1 := hmo.1
  have m2 : σ.2.2.2 ≤ u.2.2.2 := hmo.2
  refine oW_size (fun hup => ?_)
  have hnx := hI.size hup
  obtain ⟨z1, z2, z3, z4, z5⟩ := hI.2.2.2.1
  have hrecv : ∃ cellB : Cell, H[b]? = some cellB ∧ cellB.vm.isStatics = false ∧ s.vm.findClass en.2.2.2.2.2.2 = some cellB.cls := by
    have g6 := ocls ci hci.1 hI.1 hb9
    rw [hci.2] at g6
    exact g6
  have hpre : ∀ U : State, U.heap = H → s.WarmedH U.vm → oPr dC dI κ sz0 (.ref b :: as) σ ((.ref b :: as) : List Value).toArray U := fun U hU hW => ⟨rfl, by rw [hU]; exact hnx, by
    have h9 := (hI.1.moved hW.alike).weaken (B := oA σ) (fun a x hx => Or.inl (by rw [hx]; rfl))
    rw [← hU] at h9
    exact h9, fun q hq => C.2.2.2.2.2.1.2 q (hI.sub hnx q hq), C.2.2.2.2.2.1.1.call C.2.2.2.2.2.1.2 hI.2.1 hU hW⟩
  have hA9 : ∀ q, (σ.1 q).isSome = true → oA σ0 q := fun q h => by
    obtain ⟨x9, hx9⟩ := Option.isSome_iff_exists.mp h
    exact hI.1.in hx9
  have hAB : ∀ q, oA σ q → oB σ H q := fun q h => by
    rcases h with h | h
    · exact Or.inl h
    · exact Or.inr (by rw [← hnx]; exact h)
  refine va_callq (za_runV (As := as) (rest := rest) C.1 hM (cwV en.2.2.2.1 C.1.2.2.2.2 (ogoodV hm he hs) rfl rfl rfl ⟨(omt_ok en (List.mem_of_getElem? he)).1, (omt_ok en (List.mem_of_getElem? he)).2.2.2.2.1, (omt_ok en (List.mem_of_getElem? he)).2.2.2.2.2, (omt_ok en (List.mem_of_getElem? he)).2.1⟩ ⟨show d1 + 8 + 1 ≤ R.frames by omega, show 8 + (en.2.2.1 + 11) + (40 * d1 + 320) ≤ R.locals by omega⟩) (show 16 + (en.2.2.1 + 11) + (40 * d1 + 320) ≤ R.locals by omega) ⟨oPr_blind, hrecv, hpre⟩ rfl hl9 hl.1 rfl (za_room hc) d ⟨show σ.2.2.1 - σ0.2.2.1 + (u.2.2.1 - σ.2.2.1) ≤ R.cells by omega, show σ.2.2.2 - σ0.2.2.2 + (u.2.2.2 - σ.2.2.2) ≤ R.slots by omega⟩) (oB_S hI.2.2.1) (fun q _ h => hAB q h) hAB (fun r9 u9 t H1 locs1 ht hvm hp hB hz1 hk1 hS1 => ?_)
  have hp9 : (some (va_rf r9), u9) = (some (va_rf r), u) := hp
  obtain ⟨hr9, hu9⟩ := Prod.mk.inj hp9
  have hr8 := (orf_inj (Option.some.inj hr9)).symm
  have hu8 := hu9.symm
  subst hr8; subst hu8
  refine oW_size (fun hup1 => ?_)
  have b4 := hB.2.2.2.1
  have b5 := hB.2.2.2.2.1
  have e1 : σ.2.2.1 - σ0.2.2.1 + (u.2.2.1 - σ.2.2.1) = u.2.2.1 - σ0.2.2.1 := by omega
  have e2 : σ.2.2.2 - σ0.2.2.2 + (u.2.2.2 - σ.2.2.2) = u.2.2.2 - σ0.2.2.2 := by omega
  have hI1 : oInv dC dI s σ0 u H1 locs1 := hI.call hnx ht hvm hB (oB_up z1 hA9 hI.2.1 hS1) (fun x hx => Or.inr (by
    rcases hS1.2.2 x hx with h | h
    · exact Or.inl h
    · exact Or.inr (by rw [hnx]; exact h))) (by rw [← e1]; exact hup1)
  have h9 := k.2 ls H1 locs1 hl hI1
  rw [← e1, ← e2] at h9
  exact h9⟩
theorem oi_callSq (C : oCx p l R s m args meth c own cc nL kd d0 ret dC dI κ sz0 σ0 w0 e0 kc) : or_callSq own cc nL kd ret κ kc w0 (oX p l e R s m args below meth c nL ret dC dI σ0 w0) := fun pc lv rest σ ix j en as u r d hm he hs hr hl9 hc hk k => ⟨(have h9 := k.1; have h8 := (C.2.2.2.2.2.2 j _ σ _ hk).1; ⟨Nat.le_trans h8.1 h9.1, Nat.le_trans h8.2 h9.2⟩), fun ls H locs hl hI => by
  obtain ⟨hmo, d1, hd1, hM0⟩ := C.2.2.2.2.2.2 j _ σ _ hk
  have hM : Met l en.1 (ows en) _ _ _ _ _ _ := hM0 en he
  rw [oQ_q hr] at hM
  have h13 := (omt_ok en (List.mem_of_getElem? he)).2.2.1
  have hRm := C.2.2.2.1
  have k1 := k.1.1
  have k2 := k.1.2
  have m1 : σ.2.2.1 ≤ u.2.2.1 := hmo.1
  have m2 : σ.2.2.2 ≤ u.2.2.2 := hmo.2
  refine oW_size (fun hup => ?_)
  have hnx := hI.size hup
  obtain ⟨z1, z2, z3, z4, z5⟩ := hI.2.2.2.1
  have hpre : ∀ U : State, U.heap = H → s.WarmedH U.vm → oPr dC dI κ sz0 as σ (as : List Value).toArray U := fun U hU hW => ⟨rfl, by rw [hU]; exact hnx, by
    have h9 := (hI.1.moved hW.alike).weaken (B := oA σ) (fun a x hx => Or.inl (by rw [hx]; rfl))
    rw [← hU] at h9
    exact h9, fun q hq => C.2.2.2.2.2.1.2 q (hI.sub hnx q hq), C.2.2.2.2.2.1.1.call C.2.2.2.2.2.1.2 hI.2.1 hU hW⟩
  have hA9 : ∀ q, (σ.1 q).isSome = true → oA σ0 q := fun q h => by
    obtain ⟨x9, hx9⟩ := Option.isSome_iff_exists.mp h
    exact hI.1.in hx9
  have hAB : ∀ q, oA σ q → oB σ H q := fun q h => by
    rcases h with h | h
    · exact Or.inl h
    · exact Or.inr (by rw [← hnx]; exact h)
  refine va_callq (za_runS (As := as) (rest := rest) C.1 hM (va_cwS en.2.2.2.1 C.1.2.2.2.2 (ogoodS hm he hs) rfl rfl rfl ⟨(omt_ok en (List.mem_of_getElem? he)).2.2.2.2.1, (omt_ok en (List.mem_of_getElem? he)).2.2.2.2.2, (omt_ok en (List.mem_of_getElem? he)).2.1⟩ ⟨show d1 + 8 + 1 ≤ R.frames by omega, show 8 + (en.2.2.1 + 11) + (40 * d1 + 320) ≤ R.locals by omega⟩) (show 16 + (en.2.2.1 + 11) + (40 * d1 + 320) ≤ R.locals by omega) ⟨oPr_blind, hpre⟩ rfl hl9 hl.1 rfl (za_room hc) d ⟨show σ.2.2.1 - σ0.2.2.1 + (u.2.2.1 - σ.2.2.1) ≤ R.cells by omega, show σ.2.2.2 - σ0.2.2.2 + (u.2.2.2 - σ.2.2.2) ≤ R.slots by omega⟩) (oB_S hI.2.2.1) (fun q _ h => hAB q h) hAB (fun r9 u9 t H1 locs1 ht hvm hp hB hz1 hk1 hS1 => ?_)
  have hp9 : (some (va_rf r9), u9) = (some (va_rf r), u) := hp
  obtain ⟨hr9, hu9⟩ := Prod.mk.inj hp9
  have hr8 := (orf_inj (Option.some.inj hr9)).symm
  have hu8 := hu9.symm
  subst hr8; subst hu8
  refine oW_size (fun hup1 => ?_)
  have b4 := hB.2.2.2.1
  have b5 := hB.2.2.2.2.1
  have e1 : σ.2.2.1 - σ0.2.2.1 + (u.2.2.1 - σ.2.2.1) = u.2.2.1 - σ0.2.2.1 := by omega
  have e2 : σ.2.2.2 - σ0.2.2.2 + (u.2.2.2 - σ.2.2.2) = u.2.2.2 - σ0.2.2.2 := by omega
  have hI1 : oInv dC dI s σ0 u H1 locs1 := hI.call hnx ht hvm hB (oB_up z1 hA9 hI.2.1 hS1) (fun x hx => Or.inr (by
    rcases hS1.2.2 x hx with h | h
    · exact Or.inl h
    · exact Or.inr (by rw [hnx]; exact h))) (by rw [← e1]; exact hup1)
  have h9 := k.2 ls H1 locs1 hl hI1
  rw [← e1, ← e2] at h9
  exact h9⟩
theorem oi_callKi (C : oCx p l R s m args meth c own cc nL kd d0 ret dC dI κ sz0 σ0 w0 e0 kc) : or_callKi own cc nL kd ret κ kc w0 (oX p l e R s m args below meth c nL ret dC dI σ0 w0) := fun pc lv rest σ ix j en as u i q r d hm he hs hr hl9 hc hq hci hk k => ⟨(have h9 := k.1; have h8 := (C.2.2.2.2.2.2 j _ σ _ hk).1; ⟨Nat.le_trans h8.1 h9.1, Nat.le_trans h8.2 h9.2⟩), fun ls H locs hl hI => by
  obtain ⟨hmo, d1, hd1, hM0⟩ := C.2.2.2.2.2.2 j _ σ _ hk
  have hM : Met l en.1 (ows en) _ _ _ _ _ _ := hM0 en he
  rw [oQ_i hr] at hM
  have h13 := (omt_ok en (List.mem_of_getElem? he)).2.2.1
  have hRm := C.2.2.2.1
  have k1 := k.1.1
  have k2 := k.1.2
  have m1 : σ.2.2.1 ≤ u.2.2.1 := hmo.1
  have m2 : σ.2.2.2 ≤ u.2.2.2 := hmo.2
  refine oW_size (fun hup => ?_)
  have hnx := hI.size hup
  obtain ⟨z1, z2, z3, z4, z5⟩ := hI.2.2.2.1
  have hrecv : ∃ cellB : Cell, H[κ.1 i]? = some cellB ∧ cellB.vm.isStatics = false ∧ s.vm.findClass en.2.2.2.2.2.2 = some cellB.cls := by
    obtain ⟨cell, g1, g2, g3, -⟩ := (C.2.2.2.2.2.1.1.2.1 i q hq).2.1.kept (oW_wide hI C.2.2.2.2.2.1.2).2.1
    exact ⟨cell, g1, g2, by rw [← hci]; exact g3⟩
  have hpre : ∀ U : State, U.heap = H → s.WarmedH U.vm → oPr dC dI κ sz0 (.ref (κ.1 i) :: as) σ ((.ref (κ.1 i) :: as) : List Value).toArray U := fun U hU hW => ⟨rfl, by rw [hU]; exact hnx, by
    have h9 := (hI.1.moved hW.alike).weaken (B := oA σ) (fun a x hx => Or.inl (by rw [hx]; rfl))
    rw [← hU] at h9
    exact h9, fun q hq => C.2.2.2.2.2.1.2 q (hI.sub hnx q hq), C.2.2.2.2.2.1.1.call C.2.2.2.2.2.1.2 hI.2.1 hU hW⟩
  have hA9 : ∀ q, (σ.1 q).isSome = true → oA σ0 q := fun q h => by
    obtain ⟨x9, hx9⟩ := Option.isSome_iff_exists.mp h
    exact hI.1.in hx9
  have hAB : ∀ q, oA σ q → oB σ H q := fun q h => by
    rcases h with h | h
    · exact Or.inl h
    · exact Or.inr (by rw [← hnx]; exact h)
  refine va_calli (za_runV (As := as) (rest := rest) C.1 hM (cwV en.2.2.2.1 C.1.2.2.2.2 (ogoodV hm he hs) rfl rfl rfl ⟨(omt_ok en (List.mem_of_getElem? he)).1, (omt_ok en (List.mem_of_getElem? he)).2.2.2.2.1, (omt_ok en (List.mem_of_getElem? he)).2.2.2.2.2, (omt_ok en (List.mem_of_getElem? he)).2.1⟩ ⟨show d1 + 8 + 1 ≤ R.frames by omega, show 8 + (en.2.2.1 + 11) + (40 * d1 + 320) ≤ R.locals by omega⟩) (show 16 + (en.2.2.1 + 11) + (40 * d1 + 320) ≤ R.locals by omega) ⟨oPr_blind, hrecv, hpre⟩ rfl hl9 hl.1 rfl (za_room hc) d ⟨show σ.2.2.1 - σ0.2.2.1 + (u.2.2.1 - σ.2.2.1) ≤ R.cells by omega, show σ.2.2.2 - σ0.2.2.2 + (u.2.2.2 - σ.2.2.2) ≤ R.slots by omega⟩) (oB_S hI.2.2.1) (fun q _ h => hAB q h) hAB (fun r9 u9 t H1 locs1 ht hvm hp hB hz1 hk1 hS1 => ?_)
  have hp9 : (some (Value.int r9), u9) = (some (Value.int r), u) := hp
  cases hp9
  refine oW_size (fun hup1 => ?_)
  have b4 := hB.2.2.2.1
  have b5 := hB.2.2.2.2.1
  have e1 : σ.2.2.1 - σ0.2.2.1 + (u.2.2.1 - σ.2.2.1) = u.2.2.1 - σ0.2.2.1 := by omega
  have e2 : σ.2.2.2 - σ0.2.2.2 + (u.2.2.2 - σ.2.2.2) = u.2.2.2 - σ0.2.2.2 := by omega
  have hI1 : oInv dC dI s σ0 u H1 locs1 := hI.call hnx ht hvm hB (oB_up z1 hA9 hI.2.1 hS1) (fun x hx => Or.inr (by
    rcases hS1.2.2 x hx with h | h
    · exact Or.inl h
    · exact Or.inr (by rw [hnx]; exact h))) (by rw [← e1]; exact hup1)
  have h9 := k.2 ls H1 locs1 hl hI1
  rw [← e1, ← e2] at h9
  exact h9⟩
theorem oi_callI (C : oCx p l R s m args meth c own cc nL kd d0 ret dC dI κ sz0 σ0 w0 e0 kc) : or_callI own cc nL kd ret κ kc w0 (oX p l e R s m args below meth c nL ret dC dI σ0 w0) := fun pc lv rest σ ix j en as u b d hm he hs hr hl9 hc hk k => ⟨(have h9 := k.1; have h8 := (C.2.2.2.2.2.2 j _ σ _ hk).1; ⟨Nat.le_trans h8.1 h9.1, Nat.le_trans h8.2 h9.2⟩), fun ls H locs hl hI => by
  obtain ⟨hmo, d1, hd1, hM0⟩ := C.2.2.2.2.2.2 j _ σ _ hk
  have hM : Met l en.1 (ows en) _ _ _ _ _ _ := hM0 en he
  rw [oQ_v hr] at hM
  have h13 := (omt_ok en (List.mem_of_getElem? he)).2.2.1
  have hRm := C.2.2.2.1
  have k1 := k.1.1
  have k2 := k.1.2
  have m1 : σ.2.2.1 ≤ u.2.2.1 := hmo.1
  have m2 : σ.2.2.2 ≤ u.2.2.2 := hmo.2
  refine oW_size (fun hup => ?_)
  have hnx := hI.size hup
  obtain ⟨z1, z2, z3, z4, z5⟩ := hI.2.2.2.1
  have hr0 : en.2.2.2.2.2.1 = none := by
    cases h9 : en.2.2.2.2.2.1 with
    | none => rfl
    | some x9 =>
      rw [h9] at hr
      exfalso
      cases x9 <;> cases hr
  have hpre : ∀ U : State, U.heap = H → s.WarmedH U.vm → oPr dC dI κ sz0 (.ref b :: as) σ ((.ref b :: as) : List Value).toArray U := fun U hU hW => ⟨rfl, by rw [hU]; exact hnx, by
    have h9 := (hI.1.moved hW.alike).weaken (B := oA σ) (fun a x hx => Or.inl (by rw [hx]; rfl))
    rw [← hU] at h9
    exact h9, fun q hq => C.2.2.2.2.2.1.2 q (hI.sub hnx q hq), C.2.2.2.2.2.1.1.call C.2.2.2.2.2.1.2 hI.2.1 hU hW⟩
  have hA9 : ∀ q, (σ.1 q).isSome = true → oA σ0 q := fun q h => by
    obtain ⟨x9, hx9⟩ := Option.isSome_iff_exists.mp h
    exact hI.1.in hx9
  have hAB : ∀ q, oA σ q → oB σ H q := fun q h => by
    rcases h with h | h
    · exact Or.inl h
    · exact Or.inr (by rw [← hnx]; exact h)
  refine va_callv (va_runI (As := as) (rest := rest) C.1 hM (cwI en.2.2.2.1 C.1.2.2.2.2 (ogood_of (fun w h => ows_in he w h)) (show ows en = Cond.code en.1 en.2.1 en.2.2.1 none :: (wOx ++ wOa) by unfold ows ocode; rw [hr0]) rfl rfl (C.1.2.2.2.2 _ (List.mem_cons_of_mem _ (List.mem_append_left _ (by rw [(omt_ok en (List.mem_of_getElem? he)).1]; exact wOm_ini he)))) (C.1.2.2.2.2 _ (List.mem_cons_of_mem _ (List.mem_append_left _ (wOm_link hm he)))) (C.1.2.2.2.2 _ (List.mem_cons_of_mem _ (List.mem_append_left _ (wOm_inst he (by rw [hs]; decide))))) (oI_nm en (List.mem_of_getElem? he) hs) ⟨(omt_ok en (List.mem_of_getElem? he)).2.2.2.2.1, (omt_ok en (List.mem_of_getElem? he)).2.2.2.2.2, (omt_ok en (List.mem_of_getElem? he)).2.1⟩ ⟨show d1 + 8 + 1 ≤ R.frames by omega, show 8 + (en.2.2.1 + 11) + (40 * d1 + 320) ≤ R.locals by omega⟩) ⟨oPr_blind, hpre⟩ rfl hl9 hl.1 rfl (lv_room hc) d ⟨show σ.2.2.1 - σ0.2.2.1 + (u.2.2.1 - σ.2.2.1) ≤ R.cells by omega, show σ.2.2.2 - σ0.2.2.2 + (u.2.2.2 - σ.2.2.2) ≤ R.slots by omega⟩) (oB_S hI.2.2.1) (fun q _ h => hAB q h) hAB (fun u9 t H1 locs1 ht hvm hp hB hz1 hk1 hS1 => ?_)
  have hp9 : ((none : Option Value), u9) = (none, u) := hp
  cases hp9
  refine oW_size (fun hup1 => ?_)
  have b4 := hB.2.2.2.1
  have b5 := hB.2.2.2.2.1
  have e1 : σ.2.2.1 - σ0.2.2.1 + (u.2.2.1 - σ.2.2.1) = u.2.2.1 - σ0.2.2.1 := by omega
  have e2 : σ.2.2.2 - σ0.2.2.2 + (u.2.2.2 - σ.2.2.2) = u.2.2.2 - σ0.2.2.2 := by omega
  have hI1 : oInv dC dI s σ0 u H1 locs1 := hI.call hnx ht hvm hB (oB_up z1 hA9 hI.2.1 hS1) (fun x hx => Or.inr (by
    rcases hS1.2.2 x hx with h | h
    · exact Or.inl h
    · exact Or.inr (by rw [hnx]; exact h))) (by rw [← e1]; exact hup1)
  have h9 := k.2 ls H1 locs1 hl hI1
  rw [← e1, ← e2] at h9
  exact h9⟩
theorem oi_callN (C : oCx p l R s m args meth c own cc nL kd d0 ret dC dI κ sz0 σ0 w0 e0 kc) : or_callN own cc nL kd ret κ kc w0 (oX p l e R s m args below meth c nL ret dC dI σ0 w0) := fun pc lv rest σ ix j en as u b d hm he hs hr hl9 hc hk k => ⟨(have h9 := k.1; have h8 := (C.2.2.2.2.2.2 j _ σ _ hk).1; ⟨Nat.le_trans h8.1 h9.1, Nat.le_trans h8.2 h9.2⟩), fun ls H locs hl hI => by
  obtain ⟨hmo, d1, hd1, hM0⟩ := C.2.2.2.2.2.2 j _ σ _ hk
  have hM : Met l en.1 (ows en) _ _ _ _ _ _ := hM0 en he
  rw [oQ_v hr] at hM
  have h13 := (omt_ok en (List.mem_of_getElem? he)).2.2.1
  have hRm := C.2.2.2.1
  have k1 := k.1.1
  have k2 := k.1.2
  have m1 : σ.2.2.1 ≤ u.2.2.1 := hmo.1
  have m2 : σ.2.2.2 ≤ u.2.2.2 := hmo.2
  refine oW_size (fun hup => ?_)
  have hnx := hI.size hup
  obtain ⟨z1, z2, z3, z4, z5⟩ := hI.2.2.2.1
  have hr0 : en.2.2.2.2.2.1 = none := by
    cases h9 : en.2.2.2.2.2.1 with
    | none => rfl
    | some x9 =>
      rw [h9] at hr
      exfalso
      cases x9 <;> cases hr
  have hpre : ∀ U : State, U.heap = H → s.WarmedH U.vm → oPr dC dI κ sz0 (.ref b :: as) σ ((.ref b :: as) : List Value).toArray U := fun U hU hW => ⟨rfl, by rw [hU]; exact hnx, by
    have h9 := (hI.1.moved hW.alike).weaken (B := oA σ) (fun a x hx => Or.inl (by rw [hx]; rfl))
    rw [← hU] at h9
    exact h9, fun q hq => C.2.2.2.2.2.1.2 q (hI.sub hnx q hq), C.2.2.2.2.2.1.1.call C.2.2.2.2.2.1.2 hI.2.1 hU hW⟩
  have hA9 : ∀ q, (σ.1 q).isSome = true → oA σ0 q := fun q h => by
    obtain ⟨x9, hx9⟩ := Option.isSome_iff_exists.mp h
    exact hI.1.in hx9
  have hAB : ∀ q, oA σ q → oB σ H q := fun q h => by
    rcases h with h | h
    · exact Or.inl h
    · exact Or.inr (by rw [← hnx]; exact h)
  refine va_callv (va_runIN (As := as) (rest := rest) C.1 hM ⟨va_cnB en.2.2.2.1 C.1.2.2.2.2 (ogood_of (fun w h => ows_in he w h)) (show ows en = Cond.code en.1 en.2.1 en.2.2.1 none :: (wOx ++ wOa) by unfold ows ocode; rw [hr0]) rfl rfl (oln_ok _ hm en he s C.2.2.2.2.2.1.1.1) (C.1.2.2.2.2 _ (List.mem_cons_of_mem _ (List.mem_append_left _ (by rw [(omt_ok en (List.mem_of_getElem? he)).1]; exact wOm_ini he)))) ⟨(omt_ok en (List.mem_of_getElem? he)).2.2.2.2.1, (omt_ok en (List.mem_of_getElem? he)).2.2.2.2.2, (omt_ok en (List.mem_of_getElem? he)).2.1⟩ ⟨show d1 + 8 + 1 ≤ R.frames by omega, show 8 + (en.2.2.1 + 11) + (40 * d1 + 320) ≤ R.locals by omega⟩, oI_nm en (List.mem_of_getElem? he) hs, C.1.2.2.2.2 _ (List.mem_cons_of_mem _ (List.mem_append_left _ (wOm_inst he (by rw [hs]; decide))))⟩ ⟨oPr_blind, hpre⟩ rfl hl9 hl.1 rfl (lv_room hc) d ⟨show σ.2.2.1 - σ0.2.2.1 + (u.2.2.1 - σ.2.2.1) ≤ R.cells by omega, show σ.2.2.2 - σ0.2.2.2 + (u.2.2.2 - σ.2.2.2) ≤ R.slots by omega⟩) (oB_S hI.2.2.1) (fun q _ h => hAB q h) hAB (fun u9 t H1 locs1 ht hvm hp hB hz1 hk1 hS1 => ?_)
  have hp9 : ((none : Option Value), u9) = (none, u) := hp
  cases hp9
  refine oW_size (fun hup1 => ?_)
  have b4 := hB.2.2.2.1
  have b5 := hB.2.2.2.2.1
  have e1 : σ.2.2.1 - σ0.2.2.1 + (u.2.2.1 - σ.2.2.1) = u.2.2.1 - σ0.2.2.1 := by omega
  have e2 : σ.2.2.2 - σ0.2.2.2 + (u.2.2.2 - σ.2.2.2) = u.2.2.2 - σ0.2.2.2 := by omega
  have hI1 : oInv dC dI s σ0 u H1 locs1 := hI.call hnx ht hvm hB (oB_up z1 hA9 hI.2.1 hS1) (fun x hx => Or.inr (by
    rcases hS1.2.2 x hx with h | h
    · exact Or.inl h
    · exact Or.inr (by rw [hnx]; exact h))) (by rw [← e1]; exact hup1)
  have h9 := k.2 ls H1 locs1 hl hI1
  rw [← e1, ← e2] at h9
  exact h9⟩
theorem oi_vret (C : oCx p l R s m args meth c own cc nL kd d0 ret dC dI κ sz0 σ0 w0 e0 kc) : or_vret own cc nL kd ret κ kc w0 (oX p l e R s m args below meth c nL ret dC dI σ0 w0) := fun pc lv σ d hr k => ⟨(by subst k; exact ⟨Nat.le_refl _, Nat.le_refl _⟩), fun ls H locs hl hI => by
  subst k
  exact W.vret C.1.1 C.1.2.1 (by rw [C.2.1, hr]) (fun t ht hW => by rw [oQ_v (by rw [hr]; exact rfl)]; exact ⟨⟨σ, rfl, rfl, by
    have h9 := hI.1.moved hW.alike
    rw [← ht] at h9
    obtain ⟨z1, z2, z3, z4, z5⟩ := hI.2.2.2.1
    exact ⟨h9, hI.2.2.2.2.1, hI.2.2.2.2.2, z2, z3, by omega, by rw [ht]; exact z5⟩⟩, hI.2.1.F ht⟩) hI.2.1.2.2 d C.2.2.1⟩
theorem oi_iret (C : oCx p l R s m args meth c own cc nL kd d0 ret dC dI κ sz0 σ0 w0 e0 kc) : or_iret own cc nL kd ret κ kc w0 (oX p l e R s m args below meth c nL ret dC dI σ0 w0) := fun pc lv σ x d hr k => ⟨(by subst k; exact ⟨Nat.le_refl _, Nat.le_refl _⟩), fun ls H locs hl hI => by
  subst k
  exact W.iret (v := x) C.1.1 C.1.2.1 (by rw [C.2.1, hr]) (fun t ht hW => by rw [oQ_i (by rw [hr]; exact rfl)]; exact ⟨⟨x, σ, rfl, rfl, by
    have h9 := hI.1.moved hW.alike
    rw [← ht] at h9
    obtain ⟨z1, z2, z3, z4, z5⟩ := hI.2.2.2.1
    exact ⟨h9, hI.2.2.2.2.1, hI.2.2.2.2.2, z2, z3, by omega, by rw [ht]; exact z5⟩⟩, hI.2.1.F ht⟩) hI.2.1.2.2 d C.2.2.1⟩
theorem oi_nret (C : oCx p l R s m args meth c own cc nL kd d0 ret dC dI κ sz0 σ0 w0 e0 kc) : or_nret own cc nL kd ret κ kc w0 (oX p l e R s m args below meth c nL ret dC dI σ0 w0) := fun pc lv σ x ty d hr ho hn k => ⟨(by subst k; exact ⟨Nat.le_refl _, Nat.le_refl _⟩), fun ls H locs hl hI => by
  subst k
  exact W.zret (v := x) C.1.1 C.1.2.1 (by rw [C.2.1, hr]) hn (fun t ht hW => by rw [oQ_i (by rw [hr]; exact ho)]; exact ⟨⟨x, σ, rfl, rfl, by
    have h9 := hI.1.moved hW.alike
    rw [← ht] at h9
    obtain ⟨z1, z2, z3, z4, z5⟩ := hI.2.2.2.1
    exact ⟨h9, hI.2.2.2.2.1, hI.2.2.2.2.2, z2, z3, by omega, by rw [ht]; exact z5⟩⟩, hI.2.1.F ht⟩) hI.2.1.2.2 d C.2.2.1⟩
theorem oi_lret (C : oCx p l R s m args meth c own cc nL kd d0 ret dC dI κ sz0 σ0 w0 e0 kc) : or_lret own cc nL kd ret κ kc w0 (oX p l e R s m args below meth c nL ret dC dI σ0 w0) := fun pc lv σ x d hr k => ⟨(by subst k; exact ⟨Nat.le_refl _, Nat.le_refl _⟩), fun ls H locs hl hI => by
  subst k
  exact W.lret (v := x) C.1.1 C.1.2.1 (by rw [C.2.1, hr]) (fun t ht hW => by rw [oQ_l (by rw [hr]; exact rfl)]; exact ⟨⟨x, σ, rfl, rfl, by
    have h9 := hI.1.moved hW.alike
    rw [← ht] at h9
    obtain ⟨z1, z2, z3, z4, z5⟩ := hI.2.2.2.1
    exact ⟨h9, hI.2.2.2.2.1, hI.2.2.2.2.2, z2, z3, by omega, by rw [ht]; exact z5⟩⟩, hI.2.1.F ht⟩) hI.2.1.2.2 d C.2.2.1⟩
theorem oi_aret (C : oCx p l R s m args meth c own cc nL kd d0 ret dC dI κ sz0 σ0 w0 e0 kc) : or_aret own cc nL kd ret κ kc w0 (oX p l e R s m args below meth c nL ret dC dI σ0 w0) := fun pc lv σ r C9 d hr k => ⟨(by subst k; exact ⟨Nat.le_refl _, Nat.le_refl _⟩), fun ls H locs hl hI => by
  subst k
  exact W.aret (v := va_rf r) C.1.1 C.1.2.1 (by rw [C.2.1, hr]) (Or.inl ⟨C9, rfl⟩) (va_rf_or r) (fun t ht hW => by rw [oQ_q (by rw [hr]; exact rfl)]; exact ⟨⟨r, σ, rfl, rfl, by
    have h9 := hI.1.moved hW.alike
    rw [← ht] at h9
    obtain ⟨z1, z2, z3, z4, z5⟩ := hI.2.2.2.1
    exact ⟨h9, hI.2.2.2.2.1, hI.2.2.2.2.2, z2, z3, by omega, by rw [ht]; exact z5⟩⟩, hI.2.1.F ht⟩) hI.2.1.2.2 d C.2.2.1⟩
theorem oi_aretA (C : oCx p l R s m args meth c own cc nL kd d0 ret dC dI κ sz0 σ0 w0 e0 kc) : or_aretA own cc nL kd ret κ kc w0 (oX p l e R s m args below meth c nL ret dC dI σ0 w0) := fun pc lv σ r C9 d hr k => ⟨(by subst k; exact ⟨Nat.le_refl _, Nat.le_refl _⟩), fun ls H locs hl hI => by
  subst k
  exact W.aret (v := va_rf r) C.1.1 C.1.2.1 (by rw [C.2.1, hr]) (Or.inr ⟨C9, rfl⟩) (va_rf_or r) (fun t ht hW => by rw [oQ_q (by rw [hr]; exact rfl)]; exact ⟨⟨r, σ, rfl, rfl, by
    have h9 := hI.1.moved hW.alike
    rw [← ht] at h9
    obtain ⟨z1, z2, z3, z4, z5⟩ := hI.2.2.2.1
    exact ⟨h9, hI.2.2.2.2.1, hI.2.2.2.2.2, z2, z3, by omega, by rw [ht]; exact z5⟩⟩, hI.2.1.F ht⟩) hI.2.1.2.2 d C.2.2.1⟩
theorem oi_all (C : oCx p l R s m args meth c own cc nL kd d0 ret dC dI κ sz0 σ0 w0 e0 kc) : oSem own cc nL kd ret κ kc w0 (oX p l e R s m args below meth c nL ret dC dI σ0 w0) := fun n => match n with
  | 0 => oi_iconst (kc := kc) C
  | 1 => oi_bipush (kc := kc) C
  | 2 => oi_sipush (kc := kc) C
  | 3 => oi_lconst (kc := kc) C
  | 4 => oi_iload (kc := kc) C
  | 5 => oi_iload_n (kc := kc) C
  | 6 => oi_lload (kc := kc) C
  | 7 => oi_lload_n (kc := kc) C
  | 8 => oi_istore (kc := kc) C
  | 9 => oi_istore_n (kc := kc) C
  | 10 => oi_lstore (kc := kc) C
  | 11 => oi_lstore_n (kc := kc) C
  | 12 => oi_iinc (kc := kc) C
  | 13 => oi_weak (kc := kc) C
  | 14 => oi_iadd (kc := kc) C
  | 15 => oi_isub (kc := kc) C
  | 16 => oi_imul (kc := kc) C
  | 17 => oi_ishr (kc := kc) C
  | 18 => oi_iand (kc := kc) C
  | 19 => oi_ixor (kc := kc) C
  | 20 => oi_irem (kc := kc) C
  | 21 => oi_ineg (kc := kc) C
  | 22 => oi_ladd (kc := kc) C
  | 23 => oi_lsub (kc := kc) C
  | 24 => oi_lmul (kc := kc) C
  | 25 => oi_ldiv (kc := kc) C
  | 26 => oi_lrem (kc := kc) C
  | 27 => oi_lneg (kc := kc) C
  | 28 => oi_i2l (kc := kc) C
  | 29 => oi_l2i (kc := kc) C
  | 30 => oi_i2b (kc := kc) C
  | 31 => oi_lcmp (kc := kc) C
  | 32 => oi_if_eq (kc := kc) C
  | 33 => oi_if_ne (kc := kc) C
  | 34 => oi_if_lt (kc := kc) C
  | 35 => oi_if_ge (kc := kc) C
  | 36 => oi_if_gt (kc := kc) C
  | 37 => oi_if_le (kc := kc) C
  | 38 => oi_icmp_eq (kc := kc) C
  | 39 => oi_icmp_ne (kc := kc) C
  | 40 => oi_icmp_lt (kc := kc) C
  | 41 => oi_icmp_ge (kc := kc) C
  | 42 => oi_icmp_gt (kc := kc) C
  | 43 => oi_icmp_le (kc := kc) C
  | 44 => oi_goto (kc := kc) C
  | 45 => oi_tableIn (kc := kc) C
  | 46 => oi_tableOut (kc := kc) C
  | 47 => oi_lookup (kc := kc) C
  | 48 => oi_dup (kc := kc) C
  | 49 => oi_dup2 (kc := kc) C
  | 50 => oi_pop (kc := kc) C
  | 51 => oi_land (kc := kc) C
  | 52 => oi_lxor (kc := kc) C
  | 53 => oi_iushr (kc := kc) C
  | 54 => oi_dup_x1 (kc := kc) C
  | 55 => oi_i2c (kc := kc) C
  | 56 => oi_aload (kc := kc) C
  | 57 => oi_aload_n (kc := kc) C
  | 58 => oi_astore (kc := kc) C
  | 59 => oi_astore_n (kc := kc) C
  | 60 => oi_null (kc := kc) C
  | 61 => oi_ifnull (kc := kc) C
  | 62 => oi_ifnonnull (kc := kc) C
  | 63 => oi_acmp_eq (kc := kc) C
  | 64 => oi_acmp_ne (kc := kc) C
  | 65 => oi_getf (kc := kc) C
  | 66 => oi_putf (kc := kc) C
  | 67 => oi_putF (kc := kc) C
  | 68 => oi_getM (kc := kc) C
  | 69 => oi_putM (kc := kc) C
  | 70 => oi_iald (kc := kc) C
  | 71 => oi_bald (kc := kc) C
  | 72 => oi_zald (kc := kc) C
  | 73 => oi_cald (kc := kc) C
  | 74 => oi_lald (kc := kc) C
  | 75 => oi_aald (kc := kc) C
  | 76 => oi_aaldA (kc := kc) C
  | 77 => oi_alen (kc := kc) C
  | 78 => oi_iast (kc := kc) C
  | 79 => oi_bast (kc := kc) C
  | 80 => oi_zast (kc := kc) C
  | 81 => oi_cast (kc := kc) C
  | 82 => oi_last (kc := kc) C
  | 83 => oi_aast (kc := kc) C
  | 84 => oi_aastN (kc := kc) C
  | 85 => oi_aastO (kc := kc) C
  | 86 => oi_aastA (kc := kc) C
  | 87 => oi_ldc (kc := kc) C
  | 88 => oi_ldcw (kc := kc) C
  | 89 => oi_ldc2 (kc := kc) C
  | 90 => oi_ldcS (kc := kc) C
  | 91 => oi_ldcwS (kc := kc) C
  | 92 => oi_getKv (kc := kc) C
  | 93 => oi_getKc (kc := kc) C
  | 94 => oi_alenK (kc := kc) C
  | 95 => oi_baldK (kc := kc) C
  | 96 => oi_alenE (kc := kc) C
  | 97 => oi_getsC (kc := kc) C
  | 98 => oi_getsE (kc := kc) C
  | 99 => oi_getsF (kc := kc) C
  | 100 => oi_ldcM (kc := kc) C
  | 101 => oi_getC (kc := kc) C
  | 102 => oi_castN (kc := kc) C
  | 103 => oi_cast_ (kc := kc) C
  | 104 => oi_inst_ (kc := kc) C
  | 105 => oi_new (kc := kc) C
  | 106 => oi_newI (kc := kc) C
  | 107 => oi_newZ (kc := kc) C
  | 108 => oi_newB (kc := kc) C
  | 109 => oi_newC (kc := kc) C
  | 110 => oi_newJ (kc := kc) C
  | 111 => oi_newq (kc := kc) C
  | 112 => oi_newO (kc := kc) C
  | 113 => oi_newA (kc := kc) C
  | 114 => oi_copyI (kc := kc) C
  | 115 => oi_copyB (kc := kc) C
  | 116 => oi_copyJ (kc := kc) C
  | 117 => oi_copyQ (kc := kc) C
  | 118 => oi_mmax (kc := kc) C
  | 119 => oi_mmin (kc := kc) C
  | 120 => oi_mabs (kc := kc) C
  | 121 => oi_mminL (kc := kc) C
  | 122 => oi_mabsL (kc := kc) C
  | 123 => oi_objI (kc := kc) C
  | 124 => oi_callVv (kc := kc) C
  | 125 => oi_callSv (kc := kc) C
  | 126 => oi_callVl (kc := kc) C
  | 127 => oi_callSl (kc := kc) C
  | 128 => oi_callVi (kc := kc) C
  | 129 => oi_callSi (kc := kc) C
  | 130 => oi_callVq (kc := kc) C
  | 131 => oi_callSq (kc := kc) C
  | 132 => oi_callKi (kc := kc) C
  | 133 => oi_callI (kc := kc) C
  | 134 => oi_callN (kc := kc) C
  | 135 => oi_vret (kc := kc) C
  | 136 => oi_iret (kc := kc) C
  | 137 => oi_nret (kc := kc) C
  | 138 => oi_lret (kc := kc) C
  | 139 => oi_aret (kc := kc) C
  | 140 => oi_aretA (kc := kc) C
  | n + 141 => trivial
end OXI
/-! the counters alone keep the rules: so no outcome has smaller ones -/
section OMO
variable {own : String} {cc : ByteArray} {nL kd : Nat} {ret : Option FieldType} {κ : oKv} {kc : Nat → List Value → oSt → Option Value × oSt → Prop} {w0 : Option Value × oSt}
theorem om_iconst (hkm : ∀ j av σ w, kc j av σ w → omo σ w) : or_iconst own cc nL kd ret κ kc w0 (fun (_ : Nat) (_ : zLv) (_ : List Value) (σ : oSt) => omo σ w0) := fun pc lv st σ n v d hv k => k
theorem om_bipush (hkm : ∀ j av σ w, kc j av σ w → omo σ w) : or_bipush own cc nL kd ret κ kc w0 (fun (_ : Nat) (_ : zLv) (_ : List Value) (σ : oSt) => omo σ w0) := fun pc lv st σ n v d hv k => k
theorem om_sipush (hkm : ∀ j av σ w, kc j av σ w → omo σ w) : or_sipush own cc nL kd ret κ kc w0 (fun (_ : Nat) (_ : zLv) (_ : List Value) (σ : oSt) => omo σ w0) := fun pc lv st σ n v d hv k => k
theorem om_lconst (hkm : ∀ j av σ w, kc j av σ w → omo σ w) : or_lconst own cc nL kd ret κ kc w0 (fun (_ : Nat) (_ : zLv) (_ : List Value) (σ : oSt) => omo σ w0) := fun pc lv st σ n v d hv k => k
theorem om_iload (hkm : ∀ j av σ w, kc j av σ w → omo σ w) : or_iload own cc nL kd ret κ kc w0 (fun (_ : Nat) (_ : zLv) (_ : List Value) (σ : oSt) => omo σ w0) := fun pc lv st σ i x d hl k => k
theorem om_iload_n (hkm : ∀ j av σ w, kc j av σ w → omo σ w) : or_iload_n own cc nL kd ret κ kc w0 (fun (_ : Nat) (_ : zLv) (_ : List Value) (σ : oSt) => omo σ w0) := fun pc lv st σ n i x d hi hl k => k
theorem om_lload (hkm : ∀ j av σ w, kc j av σ w → omo σ w) : or_lload own cc nL kd ret κ kc w0 (fun (_ : Nat) (_ : zLv) (_ : List Value) (σ : oSt) => omo σ w0) := fun pc lv st σ i x d hl k => k
theorem om_lload_n (hkm : ∀ j av σ w, kc j av σ w → omo σ w) : or_lload_n own cc nL kd ret κ kc w0 (fun (_ : Nat) (_ : zLv) (_ : List Value) (σ : oSt) => omo σ w0) := fun pc lv st σ n i x d hi hl k => k
theorem om_istore (hkm : ∀ j av σ w, kc j av σ w → omo σ w) : or_istore own cc nL kd ret κ kc w0 (fun (_ : Nat) (_ : zLv) (_ : List Value) (σ : oSt) => omo σ w0) := fun pc lv st σ i x d hn ho k => k
theorem om_istore_n (hkm : ∀ j av σ w, kc j av σ w → omo σ w) : or_istore_n own cc nL kd ret κ kc w0 (fun (_ : Nat) (_ : zLv) (_ : List Value) (σ : oSt) => omo σ w0) := fun pc lv st σ n i x d hi hn ho k => k
theorem om_lstore (hkm : ∀ j av σ w, kc j av σ w → omo σ w) : or_lstore own cc nL kd ret κ kc w0 (fun (_ : Nat) (_ : zLv) (_ : List Value) (σ : oSt) => omo σ w0) := fun pc lv st σ i x d hn ho k => k
theorem om_lstore_n (hkm : ∀ j av σ w, kc j av σ w → omo σ w) : or_lstore_n own cc nL kd ret κ kc w0 (fun (_ : Nat) (_ : zLv) (_ : List Value) (σ : oSt) => omo σ w0) := fun pc lv st σ n i x d hi hn ho k => k
theorem om_iinc (hkm : ∀ j av σ w, kc j av σ w → omo σ w) : or_iinc own cc nL kd ret κ kc w0 (fun (_ : Nat) (_ : zLv) (_ : List Value) (σ : oSt) => omo σ w0) := fun pc lv st σ i n x v d hl hv hn ho k => k
theorem om_weak (hkm : ∀ j av σ w, kc j av σ w → omo σ w) : or_weak own cc nL kd ret κ kc w0 (fun (_ : Nat) (_ : zLv) (_ : List Value) (σ : oSt) => omo σ w0) := fun pc lv st σ lw hw k => k
theorem om_iadd (hkm : ∀ j av σ w, kc j av σ w → omo σ w) : or_iadd own cc nL kd ret κ kc w0 (fun (_ : Nat) (_ : zLv) (_ : List Value) (σ : oSt) => omo σ w0) := fun pc lv st σ x y d k => k
theorem om_isub (hkm : ∀ j av σ w, kc j av σ w → omo σ w) : or_isub own cc nL kd ret κ kc w0 (fun (_ : Nat) (_ : zLv) (_ : List Value) (σ : oSt) => omo σ w0) := fun pc lv st σ x y d k => k
theorem om_imul (hkm : ∀ j av σ w, kc j av σ w → omo σ w) : or_imul own cc nL kd ret κ kc w0 (fun (_ : Nat) (_ : zLv) (_ : List Value) (σ : oSt) => omo σ w0) := fun pc lv st σ x y d k => k
theorem om_ishr (hkm : ∀ j av σ w, kc j av σ w → omo σ w) : or_ishr own cc nL kd ret κ kc w0 (fun (_ : Nat) (_ : zLv) (_ : List Value) (σ : oSt) => omo σ w0) := fun pc lv st σ x y d k => k
theorem om_iand (hkm : ∀ j av σ w, kc j av σ w → omo σ w) : or_iand own cc nL kd ret κ kc w0 (fun (_ : Nat) (_ : zLv) (_ : List Value) (σ : oSt) => omo σ w0) := fun pc lv st σ x y d k => k
theorem om_ixor (hkm : ∀ j av σ w, kc j av σ w → omo σ w) : or_ixor own cc nL kd ret κ kc w0 (fun (_ : Nat) (_ : zLv) (_ : List Value) (σ : oSt) => omo σ w0) := fun pc lv st σ x y d k => k
theorem om_irem (hkm : ∀ j av σ w, kc j av σ w → omo σ w) : or_irem own cc nL kd ret κ kc w0 (fun (_ : Nat) (_ : zLv) (_ : List Value) (σ : oSt) => omo σ w0) := fun pc lv st σ x y d hne k => k
theorem om_ineg (hkm : ∀ j av σ w, kc j av σ w → omo σ w) : or_ineg own cc nL kd ret κ kc w0 (fun (_ : Nat) (_ : zLv) (_ : List Value) (σ : oSt) => omo σ w0) := fun pc lv st σ x d k => k
theorem om_ladd (hkm : ∀ j av σ w, kc j av σ w → omo σ w) : or_ladd own cc nL kd ret κ kc w0 (fun (_ : Nat) (_ : zLv) (_ : List Value) (σ : oSt) => omo σ w0) := fun pc lv st σ x y d k => k
theorem om_lsub (hkm : ∀ j av σ w, kc j av σ w → omo σ w) : or_lsub own cc nL kd ret κ kc w0 (fun (_ : Nat) (_ : zLv) (_ : List Value) (σ : oSt) => omo σ w0) := fun pc lv st σ x y d k => k
theorem om_lmul (hkm : ∀ j av σ w, kc j av σ w → omo σ w) : or_lmul own cc nL kd ret κ kc w0 (fun (_ : Nat) (_ : zLv) (_ : List Value) (σ : oSt) => omo σ w0) := fun pc lv st σ x y d k => k
theorem om_ldiv (hkm : ∀ j av σ w, kc j av σ w → omo σ w) : or_ldiv own cc nL kd ret κ kc w0 (fun (_ : Nat) (_ : zLv) (_ : List Value) (σ : oSt) => omo σ w0) := fun pc lv st σ x y d hne k => k
theorem om_lrem (hkm : ∀ j av σ w, kc j av σ w → omo σ w) : or_lrem own cc nL kd ret κ kc w0 (fun (_ : Nat) (_ : zLv) (_ : List Value) (σ : oSt) => omo σ w0) := fun pc lv st σ x y d hne k => k
theorem om_lneg (hkm : ∀ j av σ w, kc j av σ w → omo σ w) : or_lneg own cc nL kd ret κ kc w0 (fun (_ : Nat) (_ : zLv) (_ : List Value) (σ : oSt) => omo σ w0) := fun pc lv st σ x d k => k
theorem om_i2l (hkm : ∀ j av σ w, kc j av σ w → omo σ w) : or_i2l own cc nL kd ret κ kc w0 (fun (_ : Nat) (_ : zLv) (_ : List Value) (σ : oSt) => omo σ w0) := fun pc lv st σ x d k => k
theorem om_l2i (hkm : ∀ j av σ w, kc j av σ w → omo σ w) : or_l2i own cc nL kd ret κ kc w0 (fun (_ : Nat) (_ : zLv) (_ : List Value) (σ : oSt) => omo σ w0) := fun pc lv st σ x d k => k
theorem om_i2b (hkm : ∀ j av σ w, kc j av σ w → omo σ w) : or_i2b own cc nL kd ret κ kc w0 (fun (_ : Nat) (_ : zLv) (_ : List Value) (σ : oSt) => omo σ w0) := fun pc lv st σ x d k => k
theorem om_lcmp (hkm : ∀ j av σ w, kc j av σ w → omo σ w) : or_lcmp own cc nL kd ret κ kc w0 (fun (_ : Nat) (_ : zLv) (_ : List Value) (σ : oSt) => omo σ w0) := fun pc lv st σ x y d k => k
theorem om_if_eq (hkm : ∀ j av σ w, kc j av σ w → omo σ w) : or_if_eq own cc nL kd ret κ kc w0 (fun (_ : Nat) (_ : zLv) (_ : List Value) (σ : oSt) => omo σ w0) := fun pc lv st σ x off tgt d ht kt kf => (by by_cases c9 : x = 0; exact (kt c9); exact (kf c9))
theorem om_if_ne (hkm : ∀ j av σ w, kc j av σ w → omo σ w) : or_if_ne own cc nL kd ret κ kc w0 (fun (_ : Nat) (_ : zLv) (_ : List Value) (σ : oSt) => omo σ w0) := fun pc lv st σ x off tgt d ht kt kf => (by by_cases c9 : x = 0; exact (kf c9); exact (kt c9))
theorem om_if_lt (hkm : ∀ j av σ w, kc j av σ w → omo σ w) : or_if_lt own cc nL kd ret κ kc w0 (fun (_ : Nat) (_ : zLv) (_ : List Value) (σ : oSt) => omo σ w0) := fun pc lv st σ x off tgt d ht kt kf => (by by_cases c9 : x < 0; exact (kt c9); exact (kf c9))
theorem om_if_ge (hkm : ∀ j av σ w, kc j av σ w → omo σ w) : or_if_ge own cc nL kd ret κ kc w0 (fun (_ : Nat) (_ : zLv) (_ : List Value) (σ : oSt) => omo σ w0) := fun pc lv st σ x off tgt d ht kt kf => (by by_cases c9 : 0 ≤ x; exact (kt c9); exact (kf c9))
theorem om_if_gt (hkm : ∀ j av σ w, kc j av σ w → omo σ w) : or_if_gt own cc nL kd ret κ kc w0 (fun (_ : Nat) (_ : zLv) (_ : List Value) (σ : oSt) => omo σ w0) := fun pc lv st σ x off tgt d ht kt kf => (by by_cases c9 : 0 < x; exact (kt c9); exact (kf c9))
theorem om_if_le (hkm : ∀ j av σ w, kc j av σ w → omo σ w) : or_if_le own cc nL kd ret κ kc w0 (fun (_ : Nat) (_ : zLv) (_ : List Value) (σ : oSt) => omo σ w0) := fun pc lv st σ x off tgt d ht kt kf => (by by_cases c9 : x ≤ 0; exact (kt c9); exact (kf c9))
theorem om_icmp_eq (hkm : ∀ j av σ w, kc j av σ w → omo σ w) : or_icmp_eq own cc nL kd ret κ kc w0 (fun (_ : Nat) (_ : zLv) (_ : List Value) (σ : oSt) => omo σ w0) := fun pc lv st σ x y off tgt d ht kt kf => (by by_cases c9 : x = y; exact (kt c9); exact (kf c9))
theorem om_icmp_ne (hkm : ∀ j av σ w, kc j av σ w → omo σ w) : or_icmp_ne own cc nL kd ret κ kc w0 (fun (_ : Nat) (_ : zLv) (_ : List Value) (σ : oSt) => omo σ w0) := fun pc lv st σ x y off tgt d ht kt kf => (by by_cases c9 : x = y; exact (kf c9); exact (kt c9))
theorem om_icmp_lt (hkm : ∀ j av σ w, kc j av σ w → omo σ w) : or_icmp_lt own cc nL kd ret κ kc w0 (fun (_ : Nat) (_ : zLv) (_ : List Value) (σ : oSt) => omo σ w0) := fun pc lv st σ x y off tgt d ht kt kf => (by by_cases c9 : x < y; exact (kt c9); exact (kf c9))
theorem om_icmp_ge (hkm : ∀ j av σ w, kc j av σ w → omo σ w) : or_icmp_ge own cc nL kd ret κ kc w0 (fun (_ : Nat) (_ : zLv) (_ : List Value) (σ : oSt) => omo σ w0) := fun pc lv st σ x y off tgt d ht kt kf => (by by_cases c9 : y ≤ x; exact (kt c9); exact (kf c9))
theorem om_icmp_gt (hkm : ∀ j av σ w, kc j av σ w → omo σ w) : or_icmp_gt own cc nL kd ret κ kc w0 (fun (_ : Nat) (_ : zLv) (_ : List Value) (σ : oSt) => omo σ w0) := fun pc lv st σ x y off tgt d ht kt kf => (by by_cases c9 : y < x; exact (kt c9); exact (kf c9))
theorem om_icmp_le (hkm : ∀ j av σ w, kc j av σ w → omo σ w) : or_icmp_le own cc nL kd ret κ kc w0 (fun (_ : Nat) (_ : zLv) (_ : List Value) (σ : oSt) => omo σ w0) := fun pc lv st σ x y off tgt d ht kt kf => (by by_cases c9 : x ≤ y; exact (kt c9); exact (kf c9))
theorem om_goto (hkm : ∀ j av σ w, kc j av σ w → omo σ w) : or_goto own cc nL kd ret κ kc w0 (fun (_ : Nat) (_ : zLv) (_ : List Value) (σ : oSt) => omo σ w0) := fun pc lv st σ off tgt d ht k => k
theorem om_tableIn (hkm : ∀ j av σ w, kc j av σ w → omo σ w) : or_tableIn own cc nL kd ret κ kc w0 (fun (_ : Nat) (_ : zLv) (_ : List Value) (σ : oSt) => omo σ w0) := fun pc lv st σ dflt lo hi offs len x off tgt d h1 h2 ho ht k => k
theorem om_tableOut (hkm : ∀ j av σ w, kc j av σ w → omo σ w) : or_tableOut own cc nL kd ret κ kc w0 (fun (_ : Nat) (_ : zLv) (_ : List Value) (σ : oSt) => omo σ w0) := fun pc lv st σ dflt lo hi offs len x tgt d hx ht k => k
theorem om_lookup (hkm : ∀ j av σ w, kc j av σ w → omo σ w) : or_lookup own cc nL kd ret κ kc w0 (fun (_ : Nat) (_ : zLv) (_ : List Value) (σ : oSt) => omo σ w0) := fun pc lv st σ dflt ps len x off tgt d hp ho ht k => k
theorem om_dup (hkm : ∀ j av σ w, kc j av σ w → omo σ w) : or_dup own cc nL kd ret κ kc w0 (fun (_ : Nat) (_ : zLv) (_ : List Value) (σ : oSt) => omo σ w0) := fun pc lv st σ va d hva k => k
theorem om_dup2 (hkm : ∀ j av σ w, kc j av σ w → omo σ w) : or_dup2 own cc nL kd ret κ kc w0 (fun (_ : Nat) (_ : zLv) (_ : List Value) (σ : oSt) => omo σ w0) := fun pc lv st σ va vb d hva hvb k => k
theorem om_pop (hkm : ∀ j av σ w, kc j av σ w → omo σ w) : or_pop own cc nL kd ret κ kc w0 (fun (_ : Nat) (_ : zLv) (_ : List Value) (σ : oSt) => omo σ w0) := fun pc lv st σ va d hva k => k
theorem om_land (hkm : ∀ j av σ w, kc j av σ w → omo σ w) : or_land own cc nL kd ret κ kc w0 (fun (_ : Nat) (_ : zLv) (_ : List Value) (σ : oSt) => omo σ w0) := fun pc lv st σ x y d k => k
theorem om_lxor (hkm : ∀ j av σ w, kc j av σ w → omo σ w) : or_lxor own cc nL kd ret κ kc w0 (fun (_ : Nat) (_ : zLv) (_ : List Value) (σ : oSt) => omo σ w0) := fun pc lv st σ x y d k => k
theorem om_iushr (hkm : ∀ j av σ w, kc j av σ w → omo σ w) : or_iushr own cc nL kd ret κ kc w0 (fun (_ : Nat) (_ : zLv) (_ : List Value) (σ : oSt) => omo σ w0) := fun pc lv st σ x y d k => k
theorem om_dup_x1 (hkm : ∀ j av σ w, kc j av σ w → omo σ w) : or_dup_x1 own cc nL kd ret κ kc w0 (fun (_ : Nat) (_ : zLv) (_ : List Value) (σ : oSt) => omo σ w0) := fun pc lv st σ va vb d hva hvb k => k
theorem om_i2c (hkm : ∀ j av σ w, kc j av σ w → omo σ w) : or_i2c own cc nL kd ret κ kc w0 (fun (_ : Nat) (_ : zLv) (_ : List Value) (σ : oSt) => omo σ w0) := fun pc lv st σ x d k => k
theorem om_aload (hkm : ∀ j av σ w, kc j av σ w → omo σ w) : or_aload own cc nL kd ret κ kc w0 (fun (_ : Nat) (_ : zLv) (_ : List Value) (σ : oSt) => omo σ w0) := fun pc lv st σ i r d hl k => k
theorem om_aload_n (hkm : ∀ j av σ w, kc j av σ w → omo σ w) : or_aload_n own cc nL kd ret κ kc w0 (fun (_ : Nat) (_ : zLv) (_ : List Value) (σ : oSt) => omo σ w0) := fun pc lv st σ n i r d hi hl k => k
theorem om_astore (hkm : ∀ j av σ w, kc j av σ w → omo σ w) : or_astore own cc nL kd ret κ kc w0 (fun (_ : Nat) (_ : zLv) (_ : List Value) (σ : oSt) => omo σ w0) := fun pc lv st σ i r d hn ho k => k
theorem om_astore_n (hkm : ∀ j av σ w, kc j av σ w → omo σ w) : or_astore_n own cc nL kd ret κ kc w0 (fun (_ : Nat) (_ : zLv) (_ : List Value) (σ : oSt) => omo σ w0) := fun pc lv st σ n i r d hi hn ho k => k
theorem om_null (hkm : ∀ j av σ w, kc j av σ w → omo σ w) : or_null own cc nL kd ret κ kc w0 (fun (_ : Nat) (_ : zLv) (_ : List Value) (σ : oSt) => omo σ w0) := fun pc lv st σ d k => k
theorem om_ifnull (hkm : ∀ j av σ w, kc j av σ w → omo σ w) : or_ifnull own cc nL kd ret κ kc w0 (fun (_ : Nat) (_ : zLv) (_ : List Value) (σ : oSt) => omo σ w0) := fun pc lv st σ r off tgt d ht kt kf => (by by_cases c9 : r = none; exact (kt c9); exact (kf c9))
theorem om_ifnonnull (hkm : ∀ j av σ w, kc j av σ w → omo σ w) : or_ifnonnull own cc nL kd ret κ kc w0 (fun (_ : Nat) (_ : zLv) (_ : List Value) (σ : oSt) => omo σ w0) := fun pc lv st σ r off tgt d ht kt kf => (by by_cases c9 : r = none; exact (kf c9); exact (kt c9))
theorem om_acmp_eq (hkm : ∀ j av σ w, kc j av σ w → omo σ w) : or_acmp_eq own cc nL kd ret κ kc w0 (fun (_ : Nat) (_ : zLv) (_ : List Value) (σ : oSt) => omo σ w0) := fun pc lv st σ rx ry off tgt d ht kt kf => (by by_cases c9 : rx = ry; exact (kt c9); exact (kf c9))
theorem om_acmp_ne (hkm : ∀ j av σ w, kc j av σ w → omo σ w) : or_acmp_ne own cc nL kd ret κ kc w0 (fun (_ : Nat) (_ : zLv) (_ : List Value) (σ : oSt) => omo σ w0) := fun pc lv st σ rx ry off tgt d ht kt kf => (by by_cases c9 : rx = ry; exact (kf c9); exact (kt c9))
theorem om_getf (hkm : ∀ j av σ w, kc j av σ w → omo σ w) : or_getf own cc nL kd ret κ kc w0 (fun (_ : Nat) (_ : zLv) (_ : List Value) (σ : oSt) => omo σ w0) := fun pc lv st σ ix ci f a fs x d hm ha hv k => k
theorem om_putf (hkm : ∀ j av σ w, kc j av σ w → omo σ w) : or_putf own cc nL kd ret κ kc w0 (fun (_ : Nat) (_ : zLv) (_ : List Value) (σ : oSt) => omo σ w0) := fun pc lv st σ ix ci f a fs x d hm ha hfin hn hfit hl k => k
theorem om_putF (hkm : ∀ j av σ w, kc j av σ w → omo σ w) : or_putF own cc nL kd ret κ kc w0 (fun (_ : Nat) (_ : zLv) (_ : List Value) (σ : oSt) => omo σ w0) := fun pc lv st σ ix ci f a fs x d hm ha hfin hkd hdc hn hfit hl k => k
theorem om_getM (hkm : ∀ j av σ w, kc j av σ w → omo σ w) : or_getM own cc nL kd ret κ kc w0 (fun (_ : Nat) (_ : zLv) (_ : List Value) (σ : oSt) => omo σ w0) := fun pc lv st σ a fs x d ho ha hv k => k
theorem om_putM (hkm : ∀ j av σ w, kc j av σ w → omo σ w) : or_putM own cc nL kd ret κ kc w0 (fun (_ : Nat) (_ : zLv) (_ : List Value) (σ : oSt) => omo σ w0) := fun pc lv st σ a fs x d ho ha hn hfit hl k => k
theorem om_iald (hkm : ∀ j av σ w, kc j av σ w → omo σ w) : or_iald own cc nL kd ret κ kc w0 (fun (_ : Nat) (_ : zLv) (_ : List Value) (σ : oSt) => omo σ w0) := fun pc lv st σ a n f j d ha hin k => k
theorem om_bald (hkm : ∀ j av σ w, kc j av σ w → omo σ w) : or_bald own cc nL kd ret κ kc w0 (fun (_ : Nat) (_ : zLv) (_ : List Value) (σ : oSt) => omo σ w0) := fun pc lv st σ a n f j d ha hin k => k
theorem om_zald (hkm : ∀ j av σ w, kc j av σ w → omo σ w) : or_zald own cc nL kd ret κ kc w0 (fun (_ : Nat) (_ : zLv) (_ : List Value) (σ : oSt) => omo σ w0) := fun pc lv st σ a n f j d ha hin k => k
theorem om_cald (hkm : ∀ j av σ w, kc j av σ w → omo σ w) : or_cald own cc nL kd ret κ kc w0 (fun (_ : Nat) (_ : zLv) (_ : List Value) (σ : oSt) => omo σ w0) := fun pc lv st σ a n f j d ha hin k => k
theorem om_lald (hkm : ∀ j av σ w, kc j av σ w → omo σ w) : or_lald own cc nL kd ret κ kc w0 (fun (_ : Nat) (_ : zLv) (_ : List Value) (σ : oSt) => omo σ w0) := fun pc lv st σ a n f j d ha hin k => k
theorem om_aald (hkm : ∀ j av σ w, kc j av σ w → omo σ w) : or_aald own cc nL kd ret κ kc w0 (fun (_ : Nat) (_ : zLv) (_ : List Value) (σ : oSt) => omo σ w0) := fun pc lv st σ a C n f j d ha hin k => k
theorem om_aaldA (hkm : ∀ j av σ w, kc j av σ w → omo σ w) : or_aaldA own cc nL kd ret κ kc w0 (fun (_ : Nat) (_ : zLv) (_ : List Value) (σ : oSt) => omo σ w0) := fun pc lv st σ a n f j d ha hin k => k
theorem om_alen (hkm : ∀ j av σ w, kc j av σ w → omo σ w) : or_alen own cc nL kd ret κ kc w0 (fun (_ : Nat) (_ : zLv) (_ : List Value) (σ : oSt) => omo σ w0) := fun pc lv st σ a x d ha k => k
theorem om_iast (hkm : ∀ j av σ w, kc j av σ w → omo σ w) : or_iast own cc nL kd ret κ kc w0 (fun (_ : Nat) (_ : zLv) (_ : List Value) (σ : oSt) => omo σ w0) := fun pc lv st σ a n f j x d ha hin k => k
theorem om_bast (hkm : ∀ j av σ w, kc j av σ w → omo σ w) : or_bast own cc nL kd ret κ kc w0 (fun (_ : Nat) (_ : zLv) (_ : List Value) (σ : oSt) => omo σ w0) := fun pc lv st σ a n f j x d ha hin k => k
theorem om_zast (hkm : ∀ j av σ w, kc j av σ w → omo σ w) : or_zast own cc nL kd ret κ kc w0 (fun (_ : Nat) (_ : zLv) (_ : List Value) (σ : oSt) => omo σ w0) := fun pc lv st σ a n f j x d ha hin k => k
theorem om_cast (hkm : ∀ j av σ w, kc j av σ w → omo σ w) : or_cast own cc nL kd ret κ kc w0 (fun (_ : Nat) (_ : zLv) (_ : List Value) (σ : oSt) => omo σ w0) := fun pc lv st σ a n f j x d ha hin k => k
theorem om_last (hkm : ∀ j av σ w, kc j av σ w → omo σ w) : or_last own cc nL kd ret κ kc w0 (fun (_ : Nat) (_ : zLv) (_ : List Value) (σ : oSt) => omo σ w0) := fun pc lv st σ a n f j x d ha hin k => k
theorem om_aast (hkm : ∀ j av σ w, kc j av σ w → omo σ w) : or_aast own cc nL kd ret κ kc w0 (fun (_ : Nat) (_ : zLv) (_ : List Value) (σ : oSt) => omo σ w0) := fun pc lv st σ a n y ci w vs f j d ha hy hc hin k => k
theorem om_aastN (hkm : ∀ j av σ w, kc j av σ w → omo σ w) : or_aastN own cc nL kd ret κ kc w0 (fun (_ : Nat) (_ : zLv) (_ : List Value) (σ : oSt) => omo σ w0) := fun pc lv st σ a n C f j d ha hin k => k
theorem om_aastO (hkm : ∀ j av σ w, kc j av σ w → omo σ w) : or_aastO own cc nL kd ret κ kc w0 (fun (_ : Nat) (_ : zLv) (_ : List Value) (σ : oSt) => omo σ w0) := fun pc lv st σ a n y ci vs f j d ha hy hci hin k => k
theorem om_aastA (hkm : ∀ j av σ w, kc j av σ w → omo σ w) : or_aastA own cc nL kd ret κ kc w0 (fun (_ : Nat) (_ : zLv) (_ : List Value) (σ : oSt) => omo σ w0) := fun pc lv st σ a n y nv fv f j d ha hy hin k => k
theorem om_ldc (hkm : ∀ j av σ w, kc j av σ w → omo σ w) : or_ldc own cc nL kd ret κ kc w0 (fun (_ : Nat) (_ : zLv) (_ : List Value) (σ : oSt) => omo σ w0) := fun pc lv st σ ix x d hm k => k
theorem om_ldcw (hkm : ∀ j av σ w, kc j av σ w → omo σ w) : or_ldcw own cc nL kd ret κ kc w0 (fun (_ : Nat) (_ : zLv) (_ : List Value) (σ : oSt) => omo σ w0) := fun pc lv st σ ix x d hm k => k
theorem om_ldc2 (hkm : ∀ j av σ w, kc j av σ w → omo σ w) : or_ldc2 own cc nL kd ret κ kc w0 (fun (_ : Nat) (_ : zLv) (_ : List Value) (σ : oSt) => omo σ w0) := fun pc lv st σ ix x d hm k => k
theorem om_ldcS (hkm : ∀ j av σ w, kc j av σ w → omo σ w) : or_ldcS own cc nL kd ret κ kc w0 (fun (_ : Nat) (_ : zLv) (_ : List Value) (σ : oSt) => omo σ w0) := fun pc lv st σ i q d hm ho k => k
theorem om_ldcwS (hkm : ∀ j av σ w, kc j av σ w → omo σ w) : or_ldcwS own cc nL kd ret κ kc w0 (fun (_ : Nat) (_ : zLv) (_ : List Value) (σ : oSt) => omo σ w0) := fun pc lv st σ i q d hm ho k => k
theorem om_getKv (hkm : ∀ j av σ w, kc j av σ w → omo σ w) : or_getKv own cc nL kd ret κ kc w0 (fun (_ : Nat) (_ : zLv) (_ : List Value) (σ : oSt) => omo σ w0) := fun pc lv st σ i q d hm ho k => k
theorem om_getKc (hkm : ∀ j av σ w, kc j av σ w → omo σ w) : or_getKc own cc nL kd ret κ kc w0 (fun (_ : Nat) (_ : zLv) (_ : List Value) (σ : oSt) => omo σ w0) := fun pc lv st σ i q d hm ho k => k
theorem om_alenK (hkm : ∀ j av σ w, kc j av σ w → omo σ w) : or_alenK own cc nL kd ret κ kc w0 (fun (_ : Nat) (_ : zLv) (_ : List Value) (σ : oSt) => omo σ w0) := fun pc lv st σ i q d hm k => k
theorem om_baldK (hkm : ∀ j av σ w, kc j av σ w → omo σ w) : or_baldK own cc nL kd ret κ kc w0 (fun (_ : Nat) (_ : zLv) (_ : List Value) (σ : oSt) => omo σ w0) := fun pc lv st σ i q j d hm hin k => k
theorem om_alenE (hkm : ∀ j av σ w, kc j av σ w → omo σ w) : or_alenE own cc nL kd ret κ kc w0 (fun (_ : Nat) (_ : zLv) (_ : List Value) (σ : oSt) => omo σ w0) := fun pc lv st σ d k => k
theorem om_getsC (hkm : ∀ j av σ w, kc j av σ w → omo σ w) : or_getsC own cc nL kd ret κ kc w0 (fun (_ : Nat) (_ : zLv) (_ : List Value) (σ : oSt) => omo σ w0) := fun pc lv st σ d ho k => k
theorem om_getsE (hkm : ∀ j av σ w, kc j av σ w → omo σ w) : or_getsE own cc nL kd ret κ kc w0 (fun (_ : Nat) (_ : zLv) (_ : List Value) (σ : oSt) => omo σ w0) := fun pc lv st σ d ho k => k
theorem om_getsF (hkm : ∀ j av σ w, kc j av σ w → omo σ w) : or_getsF own cc nL kd ret κ kc w0 (fun (_ : Nat) (_ : zLv) (_ : List Value) (σ : oSt) => omo σ w0) := fun pc lv st σ d ho k => k
theorem om_ldcM (hkm : ∀ j av σ w, kc j av σ w → omo σ w) : or_ldcM own cc nL kd ret κ kc w0 (fun (_ : Nat) (_ : zLv) (_ : List Value) (σ : oSt) => omo σ w0) := fun pc lv st σ d ho k => k
theorem om_getC (hkm : ∀ j av σ w, kc j av σ w → omo σ w) : or_getC own cc nL kd ret κ kc w0 (fun (_ : Nat) (_ : zLv) (_ : List Value) (σ : oSt) => omo σ w0) := fun pc lv st σ a n f d ho ha hc k => k
theorem om_castN (hkm : ∀ j av σ w, kc j av σ w → omo σ w) : or_castN own cc nL kd ret κ kc w0 (fun (_ : Nat) (_ : zLv) (_ : List Value) (σ : oSt) => omo σ w0) := fun pc lv st σ ix d k => k
theorem om_cast_ (hkm : ∀ j av σ w, kc j av σ w → omo σ w) : or_cast_ own cc nL kd ret κ kc w0 (fun (_ : Nat) (_ : zLv) (_ : List Value) (σ : oSt) => omo σ w0) := fun pc lv st σ ix ci a fs d hm ha k => k
theorem om_inst_ (hkm : ∀ j av σ w, kc j av σ w → omo σ w) : or_inst_ own cc nL kd ret κ kc w0 (fun (_ : Nat) (_ : zLv) (_ : List Value) (σ : oSt) => omo σ w0) := fun pc lv st σ ix ci a fs d hm ha k => k
theorem om_new (hkm : ∀ j av σ w, kc j av σ w → omo σ w) : or_new own cc nL kd ret κ kc w0 (fun (_ : Nat) (_ : zLv) (_ : List Value) (σ : oSt) => omo σ w0) := fun pc lv st σ ix ci d hm k => (have h9 := k; ⟨Nat.le_trans (Nat.le_add_right _ _) h9.1, Nat.le_trans (Nat.le_add_right _ _) h9.2⟩)
theorem om_newI (hkm : ∀ j av σ w, kc j av σ w → omo σ w) : or_newI own cc nL kd ret κ kc w0 (fun (_ : Nat) (_ : zLv) (_ : List Value) (σ : oSt) => omo σ w0) := fun pc lv st σ n d hne hby k => (have h9 := k; ⟨Nat.le_trans (Nat.le_add_right _ _) h9.1, Nat.le_trans (Nat.le_add_right _ _) h9.2⟩)
theorem om_newZ (hkm : ∀ j av σ w, kc j av σ w → omo σ w) : or_newZ own cc nL kd ret κ kc w0 (fun (_ : Nat) (_ : zLv) (_ : List Value) (σ : oSt) => omo σ w0) := fun pc lv st σ n d hne hby k => (have h9 := k; ⟨Nat.le_trans (Nat.le_add_right _ _) h9.1, Nat.le_trans (Nat.le_add_right _ _) h9.2⟩)
theorem om_newB (hkm : ∀ j av σ w, kc j av σ w → omo σ w) : or_newB own cc nL kd ret κ kc w0 (fun (_ : Nat) (_ : zLv) (_ : List Value) (σ : oSt) => omo σ w0) := fun pc lv st σ n d hne hby k => (have h9 := k; ⟨Nat.le_trans (Nat.le_add_right _ _) h9.1, Nat.le_trans (Nat.le_add_right _ _) h9.2⟩)
theorem om_newC (hkm : ∀ j av σ w, kc j av σ w → omo σ w) : or_newC own cc nL kd ret κ kc w0 (fun (_ : Nat) (_ : zLv) (_ : List Value) (σ : oSt) => omo σ w0) := fun pc lv st σ n d hne hby k => (have h9 := k; ⟨Nat.le_trans (Nat.le_add_right _ _) h9.1, Nat.le_trans (Nat.le_add_right _ _) h9.2⟩)
theorem om_newJ (hkm : ∀ j av σ w, kc j av σ w → omo σ w) : or_newJ own cc nL kd ret κ kc w0 (fun (_ : Nat) (_ : zLv) (_ : List Value) (σ : oSt) => omo σ w0) := fun pc lv st σ n d hne hby k => (have h9 := k; ⟨Nat.le_trans (Nat.le_add_right _ _) h9.1, Nat.le_trans (Nat.le_add_right _ _) h9.2⟩)
theorem om_newq (hkm : ∀ j av σ w, kc j av σ w → omo σ w) : or_newq own cc nL kd ret κ kc w0 (fun (_ : Nat) (_ : zLv) (_ : List Value) (σ : oSt) => omo σ w0) := fun pc lv st σ ix ci n d hm hne hby k => (have h9 := k; ⟨Nat.le_trans (Nat.le_add_right _ _) h9.1, Nat.le_trans (Nat.le_add_right _ _) h9.2⟩)
theorem om_newO (hkm : ∀ j av σ w, kc j av σ w → omo σ w) : or_newO own cc nL kd ret κ kc w0 (fun (_ : Nat) (_ : zLv) (_ : List Value) (σ : oSt) => omo σ w0) := fun pc lv st σ ix n d hm hne hby k => (have h9 := k; ⟨Nat.le_trans (Nat.le_add_right _ _) h9.1, Nat.le_trans (Nat.le_add_right _ _) h9.2⟩)
theorem om_newA (hkm : ∀ j av σ w, kc j av σ w → omo σ w) : or_newA own cc nL kd ret κ kc w0 (fun (_ : Nat) (_ : zLv) (_ : List Value) (σ : oSt) => omo σ w0) := fun pc lv st σ n d ho hne hby k => (have h9 := k; ⟨Nat.le_trans (Nat.le_add_right _ _) h9.1, Nat.le_trans (Nat.le_add_right _ _) h9.2⟩)
theorem om_copyI (hkm : ∀ j av σ w, kc j av σ w → omo σ w) : or_copyI own cc nL kd ret κ kc w0 (fun (_ : Nat) (_ : zLv) (_ : List Value) (σ : oSt) => omo σ w0) := fun pc lv st σ ix a0 a n0 n1 f g sp dp n d hm ha0 ha h1 h2 h3 h4 h5 hc k => k
theorem om_copyB (hkm : ∀ j av σ w, kc j av σ w → omo σ w) : or_copyB own cc nL kd ret κ kc w0 (fun (_ : Nat) (_ : zLv) (_ : List Value) (σ : oSt) => omo σ w0) := fun pc lv st σ ix a0 a n0 n1 f g sp dp n d hm ha0 ha h1 h2 h3 h4 h5 hfit hc k => k
theorem om_copyJ (hkm : ∀ j av σ w, kc j av σ w → omo σ w) : or_copyJ own cc nL kd ret κ kc w0 (fun (_ : Nat) (_ : zLv) (_ : List Value) (σ : oSt) => omo σ w0) := fun pc lv st σ ix a0 a n0 n1 f g sp dp n d hm ha0 ha h1 h2 h3 h4 h5 hc k => k
theorem om_copyQ (hkm : ∀ j av σ w, kc j av σ w → omo σ w) : or_copyQ own cc nL kd ret κ kc w0 (fun (_ : Nat) (_ : zLv) (_ : List Value) (σ : oSt) => omo σ w0) := fun pc lv st σ ix a0 a n0 n1 ci E f g sp dp n d hm ha0 ha h1 h2 h3 h4 h5 hci hE hel hc k => k
theorem om_mmax (hkm : ∀ j av σ w, kc j av σ w → omo σ w) : or_mmax own cc nL kd ret κ kc w0 (fun (_ : Nat) (_ : zLv) (_ : List Value) (σ : oSt) => omo σ w0) := fun pc lv st σ ix x y d hm hc k => k
theorem om_mmin (hkm : ∀ j av σ w, kc j av σ w → omo σ w) : or_mmin own cc nL kd ret κ kc w0 (fun (_ : Nat) (_ : zLv) (_ : List Value) (σ : oSt) => omo σ w0) := fun pc lv st σ ix x y d hm hc k => k
theorem om_mabs (hkm : ∀ j av σ w, kc j av σ w → omo σ w) : or_mabs own cc nL kd ret κ kc w0 (fun (_ : Nat) (_ : zLv) (_ : List Value) (σ : oSt) => omo σ w0) := fun pc lv st σ ix x d hm hc k => k
theorem om_mminL (hkm : ∀ j av σ w, kc j av σ w → omo σ w) : or_mminL own cc nL kd ret κ kc w0 (fun (_ : Nat) (_ : zLv) (_ : List Value) (σ : oSt) => omo σ w0) := fun pc lv st σ ix x y d hm hc k => k
theorem om_mabsL (hkm : ∀ j av σ w, kc j av σ w → omo σ w) : or_mabsL own cc nL kd ret κ kc w0 (fun (_ : Nat) (_ : zLv) (_ : List Value) (σ : oSt) => omo σ w0) := fun pc lv st σ ix x d hm hc k => k
theorem om_objI (hkm : ∀ j av σ w, kc j av σ w → omo σ w) : or_objI own cc nL kd ret κ kc w0 (fun (_ : Nat) (_ : zLv) (_ : List Value) (σ : oSt) => omo σ w0) := fun pc lv st σ ix a d hm hc k => k
theorem om_callVv (hkm : ∀ j av σ w, kc j av σ w → omo σ w) : or_callVv own cc nL kd ret κ kc w0 (fun (_ : Nat) (_ : zLv) (_ : List Value) (σ : oSt) => omo σ w0) := fun pc lv rest σ ix j en as u b ci fs d hm he hs hr hl hc hb hci hk k => (have h9 := k; have h8 := hkm j _ σ _ hk; ⟨Nat.le_trans h8.1 h9.1, Nat.le_trans h8.2 h9.2⟩)
theorem om_callSv (hkm : ∀ j av σ w, kc j av σ w → omo σ w) : or_callSv own cc nL kd ret κ kc w0 (fun (_ : Nat) (_ : zLv) (_ : List Value) (σ : oSt) => omo σ w0) := fun pc lv rest σ ix j en as u d hm he hs hr hl hc hk k => (have h9 := k; have h8 := hkm j _ σ _ hk; ⟨Nat.le_trans h8.1 h9.1, Nat.le_trans h8.2 h9.2⟩)
theorem om_callVl (hkm : ∀ j av σ w, kc j av σ w → omo σ w) : or_callVl own cc nL kd ret κ kc w0 (fun (_ : Nat) (_ : zLv) (_ : List Value) (σ : oSt) => omo σ w0) := fun pc lv rest σ ix j en as u b ci fs r d hm he hs hr hl hc hb hci hk k => (have h9 := k; have h8 := hkm j _ σ _ hk; ⟨Nat.le_trans h8.1 h9.1, Nat.le_trans h8.2 h9.2⟩)
theorem om_callSl (hkm : ∀ j av σ w, kc j av σ w → omo σ w) : or_callSl own cc nL kd ret κ kc w0 (fun (_ : Nat) (_ : zLv) (_ : List Value) (σ : oSt) => omo σ w0) := fun pc lv rest σ ix j en as u r d hm he hs hr hl hc hk k => (have h9 := k; have h8 := hkm j _ σ _ hk; ⟨Nat.le_trans h8.1 h9.1, Nat.le_trans h8.2 h9.2⟩)
theorem om_callVi (hkm : ∀ j av σ w, kc j av σ w → omo σ w) : or_callVi own cc nL kd ret κ kc w0 (fun (_ : Nat) (_ : zLv) (_ : List Value) (σ : oSt) => omo σ w0) := fun pc lv rest σ ix j en as u b ci fs r d hm he hs hr hl hc hb hci hk k => (have h9 := k; have h8 := hkm j _ σ _ hk; ⟨Nat.le_trans h8.1 h9.1, Nat.le_trans h8.2 h9.2⟩)
theorem om_callSi (hkm : ∀ j av σ w, kc j av σ w → omo σ w) : or_callSi own cc nL kd ret κ kc w0 (fun (_ : Nat) (_ : zLv) (_ : List Value) (σ : oSt) => omo σ w0) := fun pc lv rest σ ix j en as u r d hm he hs hr hl hc hk k => (have h9 := k; have h8 := hkm j _ σ _ hk; ⟨Nat.le_trans h8.1 h9.1, Nat.le_trans h8.2 h9.2⟩)
theorem om_callVq (hkm : ∀ j av σ w, kc j av σ w → omo σ w) : or_callVq own cc nL kd ret κ kc w0 (fun (_ : Nat) (_ : zLv) (_ : List Value) (σ : oSt) => omo σ w0) := fun pc lv rest σ ix j en as u b ci fs r d hm he hs hr hl hc hb hci hk k => (have h9 := k; have h8 := hkm j _ σ _ hk; ⟨Nat.le_trans h8.1 h9.1, Nat.le_trans h8.2 h9.2⟩)
theorem om_callSq (hkm : ∀ j av σ w, kc j av σ w → omo σ w) : or_callSq own cc nL kd ret κ kc w0 (fun (_ : Nat) (_ : zLv) (_ : List Value) (σ : oSt) => omo σ w0) := fun pc lv rest σ ix j en as u r d hm he hs hr hl hc hk k => (have h9 := k; have h8 := hkm j _ σ _ hk; ⟨Nat.le_trans h8.1 h9.1, Nat.le_trans h8.2 h9.2⟩)
theorem om_callKi (hkm : ∀ j av σ w, kc j av σ w → omo σ w) : or_callKi own cc nL kd ret κ kc w0 (fun (_ : Nat) (_ : zLv) (_ : List Value) (σ : oSt) => omo σ w0) := fun pc lv rest σ ix j en as u i q r d hm he hs hr hl hc hq hci hk k => (have h9 := k; have h8 := hkm j _ σ _ hk; ⟨Nat.le_trans h8.1 h9.1, Nat.le_trans h8.2 h9.2⟩)
theorem om_callI (hkm : ∀ j av σ w, kc j av σ w → omo σ w) : or_callI own cc nL kd ret κ kc w0 (fun (_ : Nat) (_ : zLv) (_ : List Value) (σ : oSt) => omo σ w0) := fun pc lv rest σ ix j en as u b d hm he hs hr hl hc hk k => (have h9 := k; have h8 := hkm j _ σ _ hk; ⟨Nat.le_trans h8.1 h9.1, Nat.le_trans h8.2 h9.2⟩)
theorem om_callN (hkm : ∀ j av σ w, kc j av σ w → omo σ w) : or_callN own cc nL kd ret κ kc w0 (fun (_ : Nat) (_ : zLv) (_ : List Value) (σ : oSt) => omo σ w0) := fun pc lv rest σ ix j en as u b d hm he hs hr hl hc hk k => (have h9 := k; have h8 := hkm j _ σ _ hk; ⟨Nat.le_trans h8.1 h9.1, Nat.le_trans h8.2 h9.2⟩)
theorem om_vret (hkm : ∀ j av σ w, kc j av σ w → omo σ w) : or_vret own cc nL kd ret κ kc w0 (fun (_ : Nat) (_ : zLv) (_ : List Value) (σ : oSt) => omo σ w0) := fun pc lv σ d hr k => (by subst k; exact ⟨Nat.le_refl _, Nat.le_refl _⟩)
theorem om_iret (hkm : ∀ j av σ w, kc j av σ w → omo σ w) : or_iret own cc nL kd ret κ kc w0 (fun (_ : Nat) (_ : zLv) (_ : List Value) (σ : oSt) => omo σ w0) := fun pc lv σ x d hr k => (by subst k; exact ⟨Nat.le_refl _, Nat.le_refl _⟩)
theorem om_nret (hkm : ∀ j av σ w, kc j av σ w → omo σ w) : or_nret own cc nL kd ret κ kc w0 (fun (_ : Nat) (_ : zLv) (_ : List Value) (σ : oSt) => omo σ w0) := fun pc lv σ x ty d hr ho hn k => (by subst k; exact ⟨Nat.le_refl _, Nat.le_refl _⟩)
theorem om_lret (hkm : ∀ j av σ w, kc j av σ w → omo σ w) : or_lret own cc nL kd ret κ kc w0 (fun (_ : Nat) (_ : zLv) (_ : List Value) (σ : oSt) => omo σ w0) := fun pc lv σ x d hr k => (by subst k; exact ⟨Nat.le_refl _, Nat.le_refl _⟩)
theorem om_aret (hkm : ∀ j av σ w, kc j av σ w → omo σ w) : or_aret own cc nL kd ret κ kc w0 (fun (_ : Nat) (_ : zLv) (_ : List Value) (σ : oSt) => omo σ w0) := fun pc lv σ r C d hr k => (by subst k; exact ⟨Nat.le_refl _, Nat.le_refl _⟩)
theorem om_aretA (hkm : ∀ j av σ w, kc j av σ w → omo σ w) : or_aretA own cc nL kd ret κ kc w0 (fun (_ : Nat) (_ : zLv) (_ : List Value) (σ : oSt) => omo σ w0) := fun pc lv σ r C d hr k => (by subst k; exact ⟨Nat.le_refl _, Nat.le_refl _⟩)
theorem om_all (hkm : ∀ j av σ w, kc j av σ w → omo σ w) : oSem own cc nL kd ret κ kc w0 (fun (_ : Nat) (_ : zLv) (_ : List Value) (σ : oSt) => omo σ w0) := fun n => match n with
  | 0 => om_iconst (own := own) (cc := cc) (nL := nL) (kd := kd) (ret := ret) (κ := κ) (kc := kc) (w0 := w0) hkm
  | 1 => om_bipush (own := own) (cc := cc) (nL := nL) (kd := kd) (ret := ret) (κ := κ) (kc := kc) (w0 := w0) hkm
  | 2 => om_sipush (own := own) (cc := cc) (nL := nL) (kd := kd) (ret := ret) (κ := κ) (kc := kc) (w0 := w0) hkm
  | 3 => om_lconst (own := own) (cc := cc) (nL := nL) (kd := kd) (ret := ret) (κ := κ) (kc := kc) (w0 := w0) hkm
  | 4 => om_iload (own := own) (cc := cc) (nL := nL) (kd := kd) (ret := ret) (κ := κ) (kc := kc) (w0 := w0) hkm
  | 5 => om_iload_n (own := own) (cc := cc) (nL := nL) (kd := kd) (ret := ret) (κ := κ) (kc := kc) (w0 := w0) hkm
  | 6 => om_lload (own := own) (cc := cc) (nL := nL) (kd := kd) (ret := ret) (κ := κ) (kc := kc) (w0 := w0) hkm
  | 7 => om_lload_n (own := own) (cc := cc) (nL := nL) (kd := kd) (ret := ret) (κ := κ) (kc := kc) (w0 := w0) hkm
  | 8 => om_istore (own := own) (cc := cc) (nL := nL) (kd := kd) (ret := ret) (κ := κ) (kc := kc) (w0 := w0) hkm
  | 9 => om_istore_n (own := own) (cc := cc) (nL := nL) (kd := kd) (ret := ret) (κ := κ) (kc := kc) (w0 := w0) hkm
  | 10 => om_lstore (own := own) (cc := cc) (nL := nL) (kd := kd) (ret := ret) (κ := κ) (kc := kc) (w0 := w0) hkm
  | 11 => om_lstore_n (own := own) (cc := cc) (nL := nL) (kd := kd) (ret := ret) (κ := κ) (kc := kc) (w0 := w0) hkm
  | 12 => om_iinc (own := own) (cc := cc) (nL := nL) (kd := kd) (ret := ret) (κ := κ) (kc := kc) (w0 := w0) hkm
  | 13 => om_weak (own := own) (cc := cc) (nL := nL) (kd := kd) (ret := ret) (κ := κ) (kc := kc) (w0 := w0) hkm
  | 14 => om_iadd (own := own) (cc := cc) (nL := nL) (kd := kd) (ret := ret) (κ := κ) (kc := kc) (w0 := w0) hkm
  | 15 => om_isub (own := own) (cc := cc) (nL := nL) (kd := kd) (ret := ret) (κ := κ) (kc := kc) (w0 := w0) hkm
  | 16 => om_imul (own := own) (cc := cc) (nL := nL) (kd := kd) (ret := ret) (κ := κ) (kc := kc) (w0 := w0) hkm
  | 17 => om_ishr (own := own) (cc := cc) (nL := nL) (kd := kd) (ret := ret) (κ := κ) (kc := kc) (w0 := w0) hkm
  | 18 => om_iand (own := own) (cc := cc) (nL := nL) (kd := kd) (ret := ret) (κ := κ) (kc := kc) (w0 := w0) hkm
  | 19 => om_ixor (own := own) (cc := cc) (nL := nL) (kd := kd) (ret := ret) (κ := κ) (kc := kc) (w0 := w0) hkm
  | 20 => om_irem (own := own) (cc := cc) (nL := nL) (kd := kd) (ret := ret) (κ := κ) (kc := kc) (w0 := w0) hkm
  | 21 => om_ineg (own := own) (cc := cc) (nL := nL) (kd := kd) (ret := ret) (κ := κ) (kc := kc) (w0 := w0) hkm
  | 22 => om_ladd (own := own) (cc := cc) (nL := nL) (kd := kd) (ret := ret) (κ := κ) (kc := kc) (w0 := w0) hkm
  | 23 => om_lsub (own := own) (cc := cc) (nL := nL) (kd := kd) (ret := ret) (κ := κ) (kc := kc) (w0 := w0) hkm
  | 24 => om_lmul (own := own) (cc := cc) (nL := nL) (kd := kd) (ret := ret) (κ := κ) (kc := kc) (w0 := w0) hkm
  | 25 => om_ldiv (own := own) (cc := cc) (nL := nL) (kd := kd) (ret := ret) (κ := κ) (kc := kc) (w0 := w0) hkm
  | 26 => om_lrem (own := own) (cc := cc) (nL := nL) (kd := kd) (ret := ret) (κ := κ) (kc := kc) (w0 := w0) hkm
  | 27 => om_lneg (own := own) (cc := cc) (nL := nL) (kd := kd) (ret := ret) (κ := κ) (kc := kc) (w0 := w0) hkm
  | 28 => om_i2l (own := own) (cc := cc) (nL := nL) (kd := kd) (ret := ret) (κ := κ) (kc := kc) (w0 := w0) hkm
  | 29 => om_l2i (own := own) (cc := cc) (nL := nL) (kd := kd) (ret := ret) (κ := κ) (kc := kc) (w0 := w0) hkm
  | 30 => om_i2b (own := own) (cc := cc) (nL := nL) (kd := kd) (ret := ret) (κ := κ) (kc := kc) (w0 := w0) hkm
  | 31 => om_lcmp (own := own) (cc := cc) (nL := nL) (kd := kd) (ret := ret) (κ := κ) (kc := kc) (w0 := w0) hkm
  | 32 => om_if_eq (own := own) (cc := cc) (nL := nL) (kd := kd) (ret := ret) (κ := κ) (kc := kc) (w0 := w0) hkm
  | 33 => om_if_ne (own := own) (cc := cc) (nL := nL) (kd := kd) (ret := ret) (κ := κ) (kc := kc) (w0 := w0) hkm
  | 34 => om_if_lt (own := own) (cc := cc) (nL := nL) (kd := kd) (ret := ret) (κ := κ) (kc := kc) (w0 := w0) hkm
  | 35 => om_if_ge (own := own) (cc := cc) (nL := nL) (kd := kd) (ret := ret) (κ := κ) (kc := kc) (w0 := w0) hkm
  | 36 => om_if_gt (own := own) (cc := cc) (nL := nL) (kd := kd) (ret := ret) (κ := κ) (kc := kc) (w0 := w0) hkm
  | 37 => om_if_le (own := own) (cc := cc) (nL := nL) (kd := kd) (ret := ret) (κ := κ) (kc := kc) (w0 := w0) hkm
  | 38 => om_icmp_eq (own := own) (cc := cc) (nL := nL) (kd := kd) (ret := ret) (κ := κ) (kc := kc) (w0 := w0) hkm
  | 39 => om_icmp_ne (own := own) (cc := cc) (nL := nL) (kd := kd) (ret := ret) (κ := κ) (kc := kc) (w0 := w0) hkm
  | 40 => om_icmp_lt (own := own) (cc := cc) (nL := nL) (kd := kd) (ret := ret) (κ := κ) (kc := kc) (w0 := w0) hkm
  | 41 => om_icmp_ge (own := own) (cc := cc) (nL := nL) (kd := kd) (ret := ret) (κ := κ) (kc := kc) (w0 := w0) hkm
  | 42 => om_icmp_gt (own := own) (cc := cc) (nL := nL) (kd := kd) (ret := ret) (κ := κ) (kc := kc) (w0 := w0) hkm
  | 43 => om_icmp_le (own := own) (cc := cc) (nL := nL) (kd := kd) (ret := ret) (κ := κ) (kc := kc) (w0 := w0) hkm
  | 44 => om_goto (own := own) (cc := cc) (nL := nL) (kd := kd) (ret := ret) (κ := κ) (kc := kc) (w0 := w0) hkm
  | 45 => om_tableIn (own := own) (cc := cc) (nL := nL) (kd := kd) (ret := ret) (κ := κ) (kc := kc) (w0 := w0) hkm
  | 46 => om_tableOut (own := own) (cc := cc) (nL := nL) (kd := kd) (ret := ret) (κ := κ) (kc := kc) (w0 := w0) hkm
  | 47 => om_lookup (own := own) (cc := cc) (nL := nL) (kd := kd) (ret := ret) (κ := κ) (kc := kc) (w0 := w0) hkm
  | 48 => om_dup (own := own) (cc := cc) (nL := nL) (kd := kd) (ret := ret) (κ := κ) (kc := kc) (w0 := w0) hkm
  | 49 => om_dup2 (own := own) (cc := cc) (nL := nL) (kd := kd) (ret := ret) (κ := κ) (kc := kc) (w0 := w0) hkm
  | 50 => om_pop (own := own) (cc := cc) (nL := nL) (kd := kd) (ret := ret) (κ := κ) (kc := kc) (w0 := w0) hkm
  | 51 => om_land (own := own) (cc := cc) (nL := nL) (kd := kd) (ret := ret) (κ := κ) (kc := kc) (w0 := w0) hkm
  | 52 => om_lxor (own := own) (cc := cc) (nL := nL) (kd := kd) (ret := ret) (κ := κ) (kc := kc) (w0 := w0) hkm
  | 53 => om_iushr (own := own) (cc := cc) (nL := nL) (kd := kd) (ret := ret) (κ := κ) (kc := kc) (w0 := w0) hkm
  | 54 => om_dup_x1 (own := own) (cc := cc) (nL := nL) (kd := kd) (ret := ret) (κ := κ) (kc := kc) (w0 := w0) hkm
  | 55 => om_i2c (own := own) (cc := cc) (nL := nL) (kd := kd) (ret := ret) (κ := κ) (kc := kc) (w0 := w0) hkm
  | 56 => om_aload (own := own) (cc := cc) (nL := nL) (kd := kd) (ret := ret) (κ := κ) (kc := kc) (w0 := w0) hkm
  | 57 => om_aload_n (own := own) (cc := cc) (nL := nL) (kd := kd) (ret := ret) (κ := κ) (kc := kc) (w0 := w0) hkm
  | 58 => om_astore (own := own) (cc := cc) (nL := nL) (kd := kd) (ret := ret) (κ := κ) (kc := kc) (w0 := w0) hkm
  | 59 => om_astore_n (own := own) (cc := cc) (nL := nL) (kd := kd) (ret := ret) (κ := κ) (kc := kc) (w0 := w0) hkm
  | 60 => om_null (own := own) (cc := cc) (nL := nL) (kd := kd) (ret := ret) (κ := κ) (kc := kc) (w0 := w0) hkm
  | 61 => om_ifnull (own := own) (cc := cc) (nL := nL) (kd := kd) (ret := ret) (κ := κ) (kc := kc) (w0 := w0) hkm
  | 62 => om_ifnonnull (own := own) (cc := cc) (nL := nL) (kd := kd) (ret := ret) (κ := κ) (kc := kc) (w0 := w0) hkm
  | 63 => om_acmp_eq (own := own) (cc := cc) (nL := nL) (kd := kd) (ret := ret) (κ := κ) (kc := kc) (w0 := w0) hkm
  | 64 => om_acmp_ne (own := own) (cc := cc) (nL := nL) (kd := kd) (ret := ret) (κ := κ) (kc := kc) (w0 := w0) hkm
  | 65 => om_getf (own := own) (cc := cc) (nL := nL) (kd := kd) (ret := ret) (κ := κ) (kc := kc) (w0 := w0) hkm
  | 66 => om_putf (own := own) (cc := cc) (nL := nL) (kd := kd) (ret := ret) (κ := κ) (kc := kc) (w0 := w0) hkm
  | 67 => om_putF (own := own) (cc := cc) (nL := nL) (kd := kd) (ret := ret) (κ := κ) (kc := kc) (w0 := w0) hkm
  | 68 => om_getM (own := own) (cc := cc) (nL := nL) (kd := kd) (ret := ret) (κ := κ) (kc := kc) (w0 := w0) hkm
  | 69 => om_putM (own := own) (cc := cc) (nL := nL) (kd := kd) (ret := ret) (κ := κ) (kc := kc) (w0 := w0) hkm
  | 70 => om_iald (own := own) (cc := cc) (nL := nL) (kd := kd) (ret := ret) (κ := κ) (kc := kc) (w0 := w0) hkm
  | 71 => om_bald (own := own) (cc := cc) (nL := nL) (kd := kd) (ret := ret) (κ := κ) (kc := kc) (w0 := w0) hkm
  | 72 => om_zald (own := own) (cc := cc) (nL := nL) (kd := kd) (ret := ret) (κ := κ) (kc := kc) (w0 := w0) hkm
  | 73 => om_cald (own := own) (cc := cc) (nL := nL) (kd := kd) (ret := ret) (κ := κ) (kc := kc) (w0 := w0) hkm
  | 74 => om_lald (own := own) (cc := cc) (nL := nL) (kd := kd) (ret := ret) (κ := κ) (kc := kc) (w0 := w0) hkm
  | 75 => om_aald (own := own) (cc := cc) (nL := nL) (kd := kd) (ret := ret) (κ := κ) (kc := kc) (w0 := w0) hkm
  | 76 => om_aaldA (own := own) (cc := cc) (nL := nL) (kd := kd) (ret := ret) (κ := κ) (kc := kc) (w0 := w0) hkm
  | 77 => om_alen (own := own) (cc := cc) (nL := nL) (kd := kd) (ret := ret) (κ := κ) (kc := kc) (w0 := w0) hkm
  | 78 => om_iast (own := own) (cc := cc) (nL := nL) (kd := kd) (ret := ret) (κ := κ) (kc := kc) (w0 := w0) hkm
  | 79 => om_bast (own := own) (cc := cc) (nL := nL) (kd := kd) (ret := ret) (κ := κ) (kc := kc) (w0 := w0) hkm
  | 80 => om_zast (own := own) (cc := cc) (nL := nL) (kd := kd) (ret := ret) (κ := κ) (kc := kc) (w0 := w0) hkm
  | 81 => om_cast (own := own) (cc := cc) (nL := nL) (kd := kd) (ret := ret) (κ := κ) (kc := kc) (w0 := w0) hkm
  | 82 => om_last (own := own) (cc := cc) (nL := nL) (kd := kd) (ret := ret) (κ := κ) (kc := kc) (w0 := w0) hkm
  | 83 => om_aast (own := own) (cc := cc) (nL := nL) (kd := kd) (ret := ret) (κ := κ) (kc := kc) (w0 := w0) hkm
  | 84 => om_aastN (own := own) (cc := cc) (nL := nL) (kd := kd) (ret := ret) (κ := κ) (kc := kc) (w0 := w0) hkm
  | 85 => om_aastO (own := own) (cc := cc) (nL := nL) (kd := kd) (ret := ret) (κ := κ) (kc := kc) (w0 := w0) hkm
  | 86 => om_aastA (own := own) (cc := cc) (nL := nL) (kd := kd) (ret := ret) (κ := κ) (kc := kc) (w0 := w0) hkm
  | 87 => om_ldc (own := own) (cc := cc) (nL := nL) (kd := kd) (ret := ret) (κ := κ) (kc := kc) (w0 := w0) hkm
  | 88 => om_ldcw (own := own) (cc := cc) (nL := nL) (kd := kd) (ret := ret) (κ := κ) (kc := kc) (w0 := w0) hkm
  | 89 => om_ldc2 (own := own) (cc := cc) (nL := nL) (kd := kd) (ret := ret) (κ := κ) (kc := kc) (w0 := w0) hkm
  | 90 => om_ldcS (own := own) (cc := cc) (nL := nL) (kd := kd) (ret := ret) (κ := κ) (kc := kc) (w0 := w0) hkm
  | 91 => om_ldcwS (own := own) (cc := cc) (nL := nL) (kd := kd) (ret := ret) (κ := κ) (kc := kc) (w0 := w0) hkm
  | 92 => om_getKv (own := own) (cc := cc) (nL := nL) (kd := kd) (ret := ret) (κ := κ) (kc := kc) (w0 := w0) hkm
  | 93 => om_getKc (own := own) (cc := cc) (nL := nL) (kd := kd) (ret := ret) (κ := κ) (kc := kc) (w0 := w0) hkm
  | 94 => om_alenK (own := own) (cc := cc) (nL := nL) (kd := kd) (ret := ret) (κ := κ) (kc := kc) (w0 := w0) hkm
  | 95 => om_baldK (own := own) (cc := cc) (nL := nL) (kd := kd) (ret := ret) (κ := κ) (kc := kc) (w0 := w0) hkm
  | 96 => om_alenE (own := own) (cc := cc) (nL := nL) (kd := kd) (ret := ret) (κ := κ) (kc := kc) (w0 := w0) hkm
  | 97 => om_getsC (own := own) (cc := cc) (nL := nL) (kd := kd) (ret := ret) (κ := κ) (kc := kc) (w0 := w0) hkm
  | 98 => om_getsE (own := own) (cc := cc) (nL := nL) (kd := kd) (ret := ret) (κ := κ) (kc := kc) (w0 := w0) hkm
  | 99 => om_getsF (own := own) (cc := cc) (nL := nL) (kd := kd) (ret := ret) (κ := κ) (kc := kc) (w0 := w0) hkm
  | 100 => om_ldcM (own := own) (cc := cc) (nL := nL) (kd := kd) (ret := ret) (κ := κ) (kc := kc) (w0 := w0) hkm
  | 101 => om_getC (own := own) (cc := cc) (nL := nL) (kd := kd) (ret := ret) (κ := κ) (kc := kc) (w0 := w0) hkm
  | 102 => om_castN (own := own) (cc := cc) (nL := nL) (kd := kd) (ret := ret) (κ := κ) (kc := kc) (w0 := w0) hkm
  | 103 => om_cast_ (own := own) (cc := cc) (nL := nL) (kd := kd) (ret := ret) (κ := κ) (kc := kc) (w0 := w0) hkm
  | 104 => om_inst_ (own := own) (cc := cc) (nL := nL) (kd := kd) (ret := ret) (κ := κ) (kc := kc) (w0 := w0) hkm
  | 105 => om_new (own := own) (cc := cc) (nL := nL) (kd := kd) (ret := ret) (κ := κ) (kc := kc) (w0 := w0) hkm
  | 106 => om_newI (own := own) (cc := cc) (nL := nL) (kd := kd) (ret := ret) (κ := κ) (kc := kc) (w0 := w0) hkm
  | 107 => om_newZ (own := own) (cc := cc) (nL := nL) (kd := kd) (ret := ret) (κ := κ) (kc := kc) (w0 := w0) hkm
  | 108 => om_newB (own := own) (cc := cc) (nL := nL) (kd := kd) (ret := ret) (κ := κ) (kc := kc) (w0 := w0) hkm
  | 109 => om_newC (own := own) (cc := cc) (nL := nL) (kd := kd) (ret := ret) (κ := κ) (kc := kc) (w0 := w0) hkm
  | 110 => om_newJ (own := own) (cc := cc) (nL := nL) (kd := kd) (ret := ret) (κ := κ) (kc := kc) (w0 := w0) hkm
  | 111 => om_newq (own := own) (cc := cc) (nL := nL) (kd := kd) (ret := ret) (κ := κ) (kc := kc) (w0 := w0) hkm
  | 112 => om_newO (own := own) (cc := cc) (nL := nL) (kd := kd) (ret := ret) (κ := κ) (kc := kc) (w0 := w0) hkm
  | 113 => om_newA (own := own) (cc := cc) (nL := nL) (kd := kd) (ret := ret) (κ := κ) (kc := kc) (w0 := w0) hkm
  | 114 => om_copyI (own := own) (cc := cc) (nL := nL) (kd := kd) (ret := ret) (κ := κ) (kc := kc) (w0 := w0) hkm
  | 115 => om_copyB (own := own) (cc := cc) (nL := nL) (kd := kd) (ret := ret) (κ := κ) (kc := kc) (w0 := w0) hkm
  | 116 => om_copyJ (own := own) (cc := cc) (nL := nL) (kd := kd) (ret := ret) (κ := κ) (kc := kc) (w0 := w0) hkm
  | 117 => om_copyQ (own := own) (cc := cc) (nL := nL) (kd := kd) (ret := ret) (κ := κ) (kc := kc) (w0 := w0) hkm
  | 118 => om_mmax (own := own) (cc := cc) (nL := nL) (kd := kd) (ret := ret) (κ := κ) (kc := kc) (w0 := w0) hkm
  | 119 => om_mmin (own := own) (cc := cc) (nL := nL) (kd := kd) (ret := ret) (κ := κ) (kc := kc) (w0 := w0) hkm
  | 120 => om_mabs (own := own) (cc := cc) (nL := nL) (kd := kd) (ret := ret) (κ := κ) (kc := kc) (w0 := w0) hkm
  | 121 => om_mminL (own := own) (cc := cc) (nL := nL) (kd := kd) (ret := ret) (κ := κ) (kc := kc) (w0 := w0) hkm
  | 122 => om_mabsL (own := own) (cc := cc) (nL := nL) (kd := kd) (ret := ret) (κ := κ) (kc := kc) (w0 := w0) hkm
  | 123 => om_objI (own := own) (cc := cc) (nL := nL) (kd := kd) (ret := ret) (κ := κ) (kc := kc) (w0 := w0) hkm
  | 124 => om_callVv (own := own) (cc := cc) (nL := nL) (kd := kd) (ret := ret) (κ := κ) (kc := kc) (w0 := w0) hkm
  | 125 => om_callSv (own := own) (cc := cc) (nL := nL) (kd := kd) (ret := ret) (κ := κ) (kc := kc) (w0 := w0) hkm
  | 126 => om_callVl (own := own) (cc := cc) (nL := nL) (kd := kd) (ret := ret) (κ := κ) (kc := kc) (w0 := w0) hkm
  | 127 => om_callSl (own := own) (cc := cc) (nL := nL) (kd := kd) (ret := ret) (κ := κ) (kc := kc) (w0 := w0) hkm
  | 128 => om_callVi (own := own) (cc := cc) (nL := nL) (kd := kd) (ret := ret) (κ := κ) (kc := kc) (w0 := w0) hkm
  | 129 => om_callSi (own := own) (cc := cc) (nL := nL) (kd := kd) (ret := ret) (κ := κ) (kc := kc) (w0 := w0) hkm
  | 130 => om_callVq (own := own) (cc := cc) (nL := nL) (kd := kd) (ret := ret) (κ := κ) (kc := kc) (w0 := w0) hkm
  | 131 => om_callSq (own := own) (cc := cc) (nL := nL) (kd := kd) (ret := ret) (κ := κ) (kc := kc) (w0 := w0) hkm
  | 132 => om_callKi (own := own) (cc := cc) (nL := nL) (kd := kd) (ret := ret) (κ := κ) (kc := kc) (w0 := w0) hkm
  | 133 => om_callI (own := own) (cc := cc) (nL := nL) (kd := kd) (ret := ret) (κ := κ) (kc := kc) (w0 := w0) hkm
  | 134 => om_callN (own := own) (cc := cc) (nL := nL) (kd := kd) (ret := ret) (κ := κ) (kc := kc) (w0 := w0) hkm
  | 135 => om_vret (own := own) (cc := cc) (nL := nL) (kd := kd) (ret := ret) (κ := κ) (kc := kc) (w0 := w0) hkm
  | 136 => om_iret (own := own) (cc := cc) (nL := nL) (kd := kd) (ret := ret) (κ := κ) (kc := kc) (w0 := w0) hkm
  | 137 => om_nret (own := own) (cc := cc) (nL := nL) (kd := kd) (ret := ret) (κ := κ) (kc := kc) (w0 := w0) hkm
  | 138 => om_lret (own := own) (cc := cc) (nL := nL) (kd := kd) (ret := ret) (κ := κ) (kc := kc) (w0 := w0) hkm
  | 139 => om_aret (own := own) (cc := cc) (nL := nL) (kd := kd) (ret := ret) (κ := κ) (kc := kc) (w0 := w0) hkm
  | 140 => om_aretA (own := own) (cc := cc) (nL := nL) (kd := kd) (ret := ret) (κ := κ) (kc := kc) (w0 := w0) hkm
  | n + 141 => trivial
end OMO
