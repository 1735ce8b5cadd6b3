/-! what holds of the machine at every call: nest mates' links, classes of arrays, the static of ArrayList; starts with it -/
def zAA (U : State) : Prop := (Cond.arrayOver (.array .int)).before #[] U = true
theorem zAA.moved {u U : State} (hvm : u.vm.Alike U.vm) (h : zAA u) : zAA U := by
  obtain ⟨comp, c, k, h1, h2, h3, h4, h5⟩ := arrayOverA_spec h
  obtain ⟨k', hk', he⟩ := hvm.2.2 _ _ h3
  have hi : (U.vm.classes.findIdx? fun (x : Class) => match x.kind with | .array component _ => component == comp | _ => false) = some c := by
    have hb1 := va_idx_bare U.vm comp
    have hb2 := va_idx_bare u.vm comp
    have hb3 : U.vm.bare = u.vm.bare := by first | exact hvm.bare_eq | exact hvm.bare_eq.symm
    rw [hb3] at hb1
    exact hb1.symm.trans (hb2.trans h2)
  have hkind : k'.kind = .array comp (.array .int) := by rw [he]; exact h4
  have f1 : U.vm.findClass (FieldType.array .int).toString = some comp := by rw [hvm.findClass]; exact h1
  have f2 : U.vm.findClass ("[" ++ (FieldType.array .int).toString) = some c := by rw [hvm.findClass]; exact h5
  unfold zAA Cond.before Cond.holds
  simp only [Cond.value]
  rw [f1, Option.bind_some]
  refine (congrArg (fun o : Option Nat => (o.bind (fun c => (U.vm.classes[c]?).map fun (k : Class) => match k.kind with | .array _ ty => decide (ty = FieldType.array .int) && decide (U.vm.findClass ("[" ++ (FieldType.array .int).toString) = some c) | _ => false) == some true)) hi).trans ?_
  simp [hk', hkind, f2]
def zEv (U : State) : Prop := va_Nw (.methodLinkNest RX12 32 yX1_init "LiquidTongue") U ∧ va_Nw (.methodLinkNest RX1 11 yX6_init "LiquidTongue") U ∧ va_Nw (.methodLinkNest RX12 39 yX3_init "LiquidTongue") U ∧ va_Nw (.methodLinkNest RX7 263 yX9_init "LiquidTongue") U ∧ va_Nw (.methodLinkNest RX0 179 yX9_init "LiquidTongue") U ∧ va_AO RX4 U ∧ va_AO RX5 U ∧ va_AO RX9 U ∧ va_AO "java/lang/Object" U ∧ zAA U
theorem zEv.n1 {U : State} (h : zEv U) : va_Nw (.methodLinkNest RX12 32 yX1_init "LiquidTongue") U := h.1
theorem zEv.n2 {U : State} (h : zEv U) : va_Nw (.methodLinkNest RX1 11 yX6_init "LiquidTongue") U := h.2.1
theorem zEv.n3 {U : State} (h : zEv U) : va_Nw (.methodLinkNest RX12 39 yX3_init "LiquidTongue") U := h.2.2.1
theorem zEv.n4 {U : State} (h : zEv U) : va_Nw (.methodLinkNest RX7 263 yX9_init "LiquidTongue") U := h.2.2.2.1
theorem zEv.n5 {U : State} (h : zEv U) : va_Nw (.methodLinkNest RX0 179 yX9_init "LiquidTongue") U := h.2.2.2.2.1
theorem zEv.ao_RX4 {U : State} (h : zEv U) : va_AO RX4 U := h.2.2.2.2.2.1
theorem zEv.ao_RX5 {U : State} (h : zEv U) : va_AO RX5 U := h.2.2.2.2.2.2.1
theorem zEv.ao_RX9 {U : State} (h : zEv U) : va_AO RX9 U := h.2.2.2.2.2.2.2.1
theorem zEv.ao_O {U : State} (h : zEv U) : va_AO "java/lang/Object" U := h.2.2.2.2.2.2.2.2.1
theorem zEv.aa {U : State} (h : zEv U) : zAA U := h.2.2.2.2.2.2.2.2.2
theorem zEv.warm {s U : State} (hW : s.WarmedH U.vm) (h : zEv s) : zEv U := ⟨va_Nw.warmM hW h.n1, va_Nw.warmM hW h.n2, va_Nw.warmM hW h.n3, va_Nw.warmM hW h.n4, va_Nw.warmM hW h.n5, va_AO.moved hW.alike h.ao_RX4, va_AO.moved hW.alike h.ao_RX5, va_AO.moved hW.alike h.ao_RX9, va_AO.moved hW.alike h.ao_O, zAA.moved hW.alike h.aa⟩
theorem zEv.same {u U : State} (e : u.vm = U.vm) (h : zEv u) : zEv U := by
  have hal : u.vm.Alike U.vm := by rw [e]; exact Vm.Alike.refl _
  exact ⟨va_Nw.same rfl e h.n1, va_Nw.same rfl e h.n2, va_Nw.same rfl e h.n3, va_Nw.same rfl e h.n4, va_Nw.same rfl e h.n5, va_AO.moved hal h.ao_RX4, va_AO.moved hal h.ao_RX5, va_AO.moved hal h.ao_RX9, va_AO.moved hal h.ao_O, zAA.moved hal h.aa⟩
/-- ArrayList's static, an object e0 that is older than all cells of the system -/
def zEs (sz0 e0 : Nat) (U : State) : Prop := va_Z "java/util/ArrayList" "DEFAULTCAPACITY_EMPTY_ELEMENTDATA" "[Ljava/lang/Object;" (.ref e0) (fun q => sz0 ≤ q) U U.heap
def zE (sz0 e0 : Nat) (U : State) : Prop := zEv U ∧ zEs sz0 e0 U
theorem zE.call {sz0 e0 : Nat} {s U : State} {A : Nat → Prop} {H : Heap} {locs : List Loc} (h : zE sz0 e0 s) (hA0 : ∀ q, A q → sz0 ≤ q) (hS : va_S A s.heap H locs) (hU : U.heap = H) (hW : s.WarmedH U.vm) : zE sz0 e0 U := by
  refine ⟨h.1.warm hW, ?_⟩
  have h2 : va_Z "java/util/ArrayList" "DEFAULTCAPACITY_EMPTY_ELEMENTDATA" "[Ljava/lang/Object;" (.ref e0) (fun q => sz0 ≤ q) s s.heap := h.2
  exact (va_Z.moved hW.alike h2).kept (fun a h1 h3 => by rw [hU]; exact hS.2.1 a h1 (fun x => h3 (hA0 a x)))
theorem zA_ge {sz0 sz q : Nat} {ws : va_W} (hD : va_D (fun q => sz0 ≤ q) ws) (h : sz0 ≤ sz) (hq : va_A ws sz q) : sz0 ≤ q := by
  rcases hq with ⟨k, e, hk⟩ | h2
  · exact hD.2 k _ hk
  · exact Nat.le_trans h h2
/-- a contract's start, with what holds of the machine -/
def zPe (dC : Nat → ClassId) (dI : Nat → Nat → Nat) (sz0 e0 sz : Nat) (av : List Value) (ws : va_W) (tys : List (ClassId × FieldType)) : Array Value → State → Prop := va_Pc av (fun U => U.heap.size = sz ∧ va_P (dC, dI) vwCl ws U.heap ∧ va_K (dC, dI) vwCl tys U ∧ va_D (fun q => sz0 ≤ q) ws ∧ sz0 ≤ sz ∧ zE sz0 e0 U)
theorem zPc_blind {dC : Nat → ClassId} {dI : Nat → Nat → Nat} {sz : Nat} {av : List Value} {ws : va_W} {tys : List (ClassId × FieldType)} : FrameBlind (zPc dC dI sz av ws tys) := fun a U g mk q => by
  obtain ⟨q0, q1, qP, qK, qD⟩ := q
  exact ⟨q0, q1, qP, va_K.moved (u := U) (U := U.calling g mk a) (Vm.Alike.refl U.vm) qK, qD⟩
theorem zPe_blind {dC : Nat → ClassId} {dI : Nat → Nat → Nat} {sz0 e0 sz : Nat} {av : List Value} {ws : va_W} {tys : List (ClassId × FieldType)} : FrameBlind (zPe dC dI sz0 e0 sz av ws tys) := fun a U g mk q => by
  obtain ⟨q0, q1, qP, qK, qD, qz, qE, qs⟩ := q
  exact ⟨q0, q1, qP, va_K.moved (u := U) (U := U.calling g mk a) (Vm.Alike.refl U.vm) qK, qD, qz, qE.same (U := U.calling g mk a) rfl, va_Z.moved (u := U) (U := U.calling g mk a) (Vm.Alike.refl U.vm) qs⟩
theorem zPc_at {dC : Nat → ClassId} {dI : Nat → Nat → Nat} {av : List Value} {ws : va_W} {tys : List (ClassId × FieldType)} {A : Nat → Prop} {s U : State} {H : Heap} (hP : va_P (dC, dI) vwCl ws H) (hK : va_K (dC, dI) vwCl tys s) (hD : va_D A ws) (hU : U.heap = H) (hW : s.WarmedH U.vm) : zPc dC dI H.size av ws tys av.toArray U := ⟨rfl, by rw [hU], by rw [hU]; exact hP, va_K.moved hW.alike hK, hD.weaken (fun _ _ _ _ => trivial)⟩
theorem zPe_at {dC : Nat → ClassId} {dI : Nat → Nat → Nat} {sz0 e0 : Nat} {av : List Value} {ws : va_W} {tys : List (ClassId × FieldType)} {A : Nat → Prop} {s U : State} {H : Heap} {locs : List Loc} (hP : va_P (dC, dI) vwCl ws H) (hK : va_K (dC, dI) vwCl tys s) (hD : va_D A ws) (hS : va_S A s.heap H locs) (hA0 : ∀ q, A q → sz0 ≤ q) (hz : sz0 ≤ s.heap.size) (hE : zE sz0 e0 s) (hU : U.heap = H) (hW : s.WarmedH U.vm) : zPe dC dI sz0 e0 H.size av ws tys av.toArray U := ⟨rfl, by rw [hU], by rw [hU]; exact hP, va_K.moved hW.alike hK, hD.weaken (fun _ _ _ h => hA0 _ h), Nat.le_trans hz hS.1, hE.call hA0 hS hU hW⟩
/-- an object's fields as it is made -/
def zdef (ty : Nat → FieldType) (N : Nat) : List Value := (List.range N).map (fun j => defaultValue (ty j))
theorem zdef_len (ty : Nat → FieldType) (N : Nat) : (zdef ty N).length = N := by simp [zdef]
theorem zdef_get {ty : Nat → FieldType} {N k : Nat} {v : Value} (hk : k < N) (hv : defaultValue (ty k) = v) : (zdef ty N)[k]? = some v := by
  simp [zdef, hk, hv]
theorem zdef_V {ty : Nat → FieldType} {N j : Nat} (hj : j < N) : defaultValue (ty j) = vp_V (zdef ty N) j := by
  simp [vp_V, List.getD, zdef_get hj rfl]
section ZNA
variable {p : Program} {l : Launch} {e : Env} {R : Room} {s : State} {m : MethodId} {args : Array Value} {below : List Frame} {meth : Method} {c : Code} {H : Heap} {locs : List Loc} {cells slots : Nat} {Q : State → Prop}
variable {cc : ByteArray} {pc : Nat} {ls : Array Slot} {rest : List Value} {D : va_G} {cl : List vw_C} {A : Nat → Prop} {a : Nat} {tys : List (ClassId × FieldType)} {ws : va_W} {H0 : Heap}
/-- a new array of int arrays, none in it yet -/
theorem za_newA (hexec : p.tables.exec = Jvm.exec) (hb : c.code = cc) {own : String} {index : Nat} (hown : s.vm.findClass own = some m.cls) (hclink : (Cond.classLink own index (FieldType.array .int).toString).before args s = true) (hover : zAA s) (hK : va_K D cl tys s) (hP : va_P D cl ws H) (hD : va_D A ws) (hS : va_S A H0 H locs) (hA : ∀ q, H0.size ≤ q → A q)
    {n : Int32} {N' : Nat} (hn : ¬ n < 0) (hN : n.toNatClampNeg = N') (hbytes : N' * 4 ≤ 536870912) (hcells : cells + 1 ≤ R.cells) (hslots : slots + N' ≤ R.slots) (hdg : decode cc pc = .ok (.anewarray index, 3))
    (kk : ∀ (q : Nat) (cA : ClassId) (H1 : Heap), va_K D cl (tys ++ [(cA, .array .int)]) s → va_P D cl (ws ++ [(q, .inl (cA, N', .inr (.inr (.inr (.inr (fun _ => none))))))]) H1 → va_D A (ws ++ [(q, .inl (cA, N', .inr (.inr (.inr (.inr (fun _ => none))))))]) → va_S A H0 H1 locs →
      W p l e R s m args below meth c H1 locs (cells + 1) (slots + N') Q (F0 m (pc + 3) ls (.ref q :: rest))) : W p l e R s m args below meth c H locs cells slots Q (F0 m pc ls (.int n :: rest)) := by
  subst hN
  refine W.anewA (t := .int) hexec hb hown hclink hover rfl hdg rfl hn hbytes hcells hslots fun cA kA comp f1 f2 f3 f4 => ?_
  generalize hH1 : H.push ({ cls := cA, slots := Array.replicate n.toNatClampNeg .null, vm := .none } : Cell) = H1
  have z1 : H1.size = H.size + 1 := by rw [← hH1, Array.size_push]
  have e1 : H1[H.size]? = some (arrV cA n.toNatClampNeg (fun _ => .null)) := by rw [← hH1, Array.getElem?_push_size, ← arrV_new]
  have o1 : ∀ q : Nat, q < H.size → H1[q]? = H[q]? := fun q hq => by rw [← hH1, Array.getElem?_push, if_neg (Nat.ne_of_lt hq)]
  have hAr : ArrOfT s cA (.array .int) := fun N z => ⟨(fun k h => by cases h), kA, f2, comp, f3⟩
  have hk : ∀ (k : Nat) (x : Nat × va_E), ws[k]? = some x → H1[x.1]? = H[x.1]? := fun k x hx => o1 x.1 ((hP k x hx).lt)
  refine kk H.size cA H1 ⟨hK.1, fun k x hx => ?_⟩ ((hP.kept hk).app (fun k x hx => ?_)) (hD.push hP rfl (hA _ hS.1)) ⟨Nat.le_trans hS.1 (by omega), fun x h1 h2 => (o1 x (Nat.lt_of_lt_of_le h1 hS.1)).trans (hS.2.1 x h1 h2), hS.2.2⟩
  · by_cases hl : k < tys.length
    · rw [List.getElem?_append_left hl] at hx
      exact hK.2 k x hx
    · rw [List.getElem?_append_right (by omega)] at hx
      have hz : k - tys.length < 1 := (List.getElem?_eq_some_iff.mp hx).1
      rw [show k - tys.length = 0 by omega] at hx
      cases hx
      exact ⟨hAr, f1⟩
  · have hz : k < 1 := (List.getElem?_eq_some_iff.mp hx).1
    rw [show k = 0 by omega] at hx
    cases hx
    show H1[H.size]? = some (vp_cell _ _)
    rw [vp_cell_q]
    exact e1
end ZNA
