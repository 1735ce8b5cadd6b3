/-! more rows over the plain state of the class: final fields, rows of rows, Object[], copies -/
section OROWT
variable {p : Program} {l : Launch} {e : Env} {R : Room} {s : State} {m : MethodId} {args : Array Value} {below : List Frame} {meth : Method} {c : Code} {H : Heap} {locs : List Loc} {cells slots : Nat} {Q : State → Prop} {g : JFrame}
variable {cc : ByteArray} {pc : Nat} {ls : Array Slot} {rest : List Value} {dC : Nat → ClassId} {dI : Nat → Nat → Nat} {A : Nat → Prop} {a : Nat} {σ σ0 : oSt}
theorem oo_putF (hexec : p.tables.exec = Jvm.exec) (hb : c.code = cc) {own ref C : String} {T : u_T} {N ci index : Nat} {Ts : List Cond} (hts : ∀ w ∈ Ts, w.before args s = true) (hin : ∀ w ∈ u_ws C T N, w ∈ Ts) (ty0 : Nat → FieldType) (hty : ∀ k, k < N → parseFieldDescriptor (T k).2.2.1 = some (ty0 k)) (hnm : ∀ a, a < N → ∀ b, b < N → a ≠ b → (T a).2.1 ≠ (T b).2.1) (hown : s.vm.findClass own = some m.cls) (hn : σ0.2.1 = s.heap.size) (hR : oR dC dI (oA σ0) s σ H) (hS : va_S (oA σ0) s.heap H locs) (hL : oLc σ H locs) (hlow : s.heap.size + cells ≤ H.size) {fs : List Value} (ha : σ.1 a = some (.inr (ci, fs))) (hc : vwCl[ci]? = some (C, T, N)) (k : Nat) (hk : k < N) (hlink : (Cond.fieldLink own index ref (T k).2.1 (T k).2.2.1).before args s = true) (hsame : ∀ x, s.fieldFound? (T k).1 (T k).2.1 (T k).2.2.1 = some x → s.fieldFound? ref (T k).2.1 (T k).2.2.1 = some x) (hfin : (T k).2.2.2 = true) (hin2 : meth.name = "<init>") (hdecl : (T k).1 = own) {ty : FieldType} {v : Value} (hd : parseFieldDescriptor (T k).2.2.1 = some ty) (hnw : narrow ty v = v) (hfit : fits ty v = true) (hl : k < fs.length) (hdg : decode cc pc = .ok (.putfield index, 3))
    (kk : ∀ (H1 : Heap) (locs1 : List Loc), oR dC dI (oA σ0) s (oput σ a (.inr (ci, fs.set k v))) H1 → va_S (oA σ0) s.heap H1 locs1 → oLc (oput σ a (.inr (ci, fs.set k v))) H1 locs1 → H1.size = H.size → W p l e R s m args below meth c H1 locs1 cells slots Q (F0 m (pc + 3) ls rest)) : W p l e R s m args below meth c H locs cells slots Q (F0 m pc ls (v :: .ref a :: rest)) := by
  have hA : ∀ q, (σ.1 q).isSome = true → oA σ0 q := fun q h => by
    obtain ⟨d, hd⟩ := Option.isSome_iff_exists.mp h
    exact hR.in hd
  obtain ⟨ws, tys, hP, hD, hK, hr⟩ := oB_D hR
  obtain ⟨q0, he⟩ := hr.o ha
  exact va_putF hexec hb hts hin ty0 hty hnm hown hK hP hD (oB_S hL) q0 he hc k hk hlink hsame hfin hin2 hdecl hd hnw hfit hl hdg (fun H1 locs1 hP1 hD1 hS1 => oo_after hn hA hS hlow ha hK hr hD he oE_ob hP1 hD1 hS1 (kk H1 locs1))
theorem oo_aaldA (hexec : p.tables.exec = Jvm.exec) (hb : c.code = cc) (hR : oR dC dI A s σ H) {n : Nat} {f : Nat → Option Nat} (ha : σ.1 a = some (.inl (.array .int, n, .inr (.inr (.inr (.inr f)))))) {i : Int32} (hin : vp_in i n) (hdg : decode cc pc = .ok (.aaload, 1))
    (kk : W p l e R s m args below meth c H locs cells slots Q (F0 m (pc + 1) ls (va_rf (f i.toNatClampNeg) :: rest))) : W p l e R s m args below meth c H locs cells slots Q (F0 m pc ls (.int i :: .ref a :: rest)) := by
  obtain ⟨ws, tys, hP, hD, hK, hr⟩ := hR
  obtain ⟨k, cA, t, h1, h2⟩ := hr.a ha
  have hlt : i.toNatClampNeg < n := Nat.not_le.mp fun q => hin (Or.inr q)
  exact W.aald (v := va_rf (f i.toNatClampNeg)) (ty := .array .int) hexec hb (hP k _ h1) ((hK.2 t _ h2).1 n (fun j => va_rf (f j))) rfl (fun q => by cases q) (by show ¬ (i < 0 ∨ (arrV _ _ _).slots.size ≤ _); rw [arrV_size]; exact hin) (by show (arrV _ _ _).slots[_]? = _; rw [arrV_read _ _ hlt]) rfl rfl hdg kk
theorem oo_aastA (hexec : p.tables.exec = Jvm.exec) (hb : c.code = cc) (hzA : zAA s) (hn : σ0.2.1 = s.heap.size) (hR : oR dC dI (oA σ0) s σ H) (hS : va_S (oA σ0) s.heap H locs) (hL : oLc σ H locs) (hlow : s.heap.size + cells ≤ H.size) {n nv v : Nat} {fv : Nat → Int32} {f : Nat → Option Nat} (ha : σ.1 a = some (.inl (.array .int, n, .inr (.inr (.inr (.inr f)))))) (hv : σ.1 v = some (.inl (.int, nv, .inl fv))) {i : Int32} (hin : vp_in i n) (hdg : decode cc pc = .ok (.aastore, 1))
    (kk : ∀ (H1 : Heap) (locs1 : List Loc), oR dC dI (oA σ0) s (oput σ a (.inl (.array .int, n, .inr (.inr (.inr (.inr (va_up f i.toNatClampNeg (some v)))))))) H1 → va_S (oA σ0) s.heap H1 locs1 → oLc (oput σ a (.inl (.array .int, n, .inr (.inr (.inr (.inr (va_up f i.toNatClampNeg (some v)))))))) H1 locs1 → H1.size = H.size → W p l e R s m args below meth c H1 locs1 cells slots Q (F0 m (pc + 1) ls rest)) : W p l e R s m args below meth c H locs cells slots Q (F0 m pc ls (.ref v :: .int i :: .ref a :: rest)) := by
  have hA : ∀ q, (σ.1 q).isSome = true → oA σ0 q := fun q h => by
    obtain ⟨d, hd⟩ := Option.isSome_iff_exists.mp h
    exact hR.in hd
  obtain ⟨ws, tys, hP, hD, hK, hr⟩ := oB_D hR
  obtain ⟨k, cA, t, h1, h2⟩ := hr.a ha
  obtain ⟨k2, cV, t2, h3, h4⟩ := hr.a hv
  have hlt : i.toNatClampNeg < n := Nat.not_le.mp fun q => hin (Or.inr q)
  have h0 : ¬ i < 0 := fun q => hin (Or.inl q)
  obtain ⟨comp, c9, k9, g1, g2, g3, g4, g5⟩ := arrayOverA_spec hzA
  have e1 : s.vm.findClass ("[" ++ (FieldType.array .int).toString) = some cA := (hK.2 t _ h2).2
  have e2 : s.vm.findClass ("[" ++ FieldType.int.toString) = some cV := (hK.2 t2 _ h4).2
  have hcA : c9 = cA := Option.some.inj (g5.symm.trans e1)
  have hcV : comp = cV := Option.some.inj (g1.symm.trans e2)
  subst hcA
  subst hcV
  obtain ⟨kE, hkE, -⟩ := Vm.findClass_spec g1
  refine W.aast hexec hb (hP k _ h1) (fun q h => by cases h) (fun h => by cases h) g3 g4 rfl hkE ⟨h0, by show _ < (arrV _ _ _).slots.size; rw [arrV_size]; exact hlt⟩ (hP k2 _ h3) (fun q h => by cases h) hkE (va_asg _ _) rfl rfl hdg fun H1 e z oq => ?_
  refine oo_after hn hA hS hlow ha hK hr hD h1 (oE_mk h2) (hP.set hD h1 ?_ oq) (hD.set h1) ((oB_S hL).put z oq (hD.2 k _ h1)) (kk H1 _)
  show H1[a]? = some (vp_cell _ _)
  rw [e]
  rw [vp_cell_q, vp_cell_q, arrV_store]
  congr 2
  funext q
  by_cases hq : q = i.toNatClampNeg
  · subst hq
    simp [updV, va_up, va_rf]
  · simp [updV, va_up, hq]
theorem oo_aastO (hexec : p.tables.exec = Jvm.exec) (hb : c.code = cc) (hn : σ0.2.1 = s.heap.size) (hR : oR dC dI (oA σ0) s σ H) (hS : va_S (oA σ0) s.heap H locs) (hL : oLc σ H locs) (hlow : s.heap.size + cells ≤ H.size) {w : vw_C} {E : String} {n v ci : Nat} {vs : List Value} {f : Nat → Option Nat} (ha : σ.1 a = some (.inl (.object E, n, .inr (.inr (.inr (.inr f)))))) (hca : va_Nw (.castable w.1 E) s) (hv : σ.1 v = some (.inr (ci, vs))) (hc : vwCl[ci]? = some w) {i : Int32} (hin : vp_in i n) (hdg : decode cc pc = .ok (.aastore, 1))
    (kk : ∀ (H1 : Heap) (locs1 : List Loc), oR dC dI (oA σ0) s (oput σ a (.inl (.object E, n, .inr (.inr (.inr (.inr (va_up f i.toNatClampNeg (some v)))))))) H1 → va_S (oA σ0) s.heap H1 locs1 → oLc (oput σ a (.inl (.object E, n, .inr (.inr (.inr (.inr (va_up f i.toNatClampNeg (some v)))))))) H1 locs1 → H1.size = H.size → W p l e R s m args below meth c H1 locs1 cells slots Q (F0 m (pc + 1) ls rest)) : W p l e R s m args below meth c H locs cells slots Q (F0 m pc ls (.ref v :: .int i :: .ref a :: rest)) := by
  have hA : ∀ q, (σ.1 q).isSome = true → oA σ0 q := fun q h => by
    obtain ⟨d, hd⟩ := Option.isSome_iff_exists.mp h
    exact hR.in hd
  obtain ⟨ws, tys, hP, hD, hK, hr⟩ := oB_D hR
  obtain ⟨k, cA, t, h1, h2⟩ := hr.a ha
  obtain ⟨k2, h3⟩ := hr.o hv
  exact va_astqO hexec hb hK hP hD (oB_S hL) k t k2 ci h1 h2 hca h3 hc hin hdg (fun H1 locs1 hP1 hD1 hS1 => oo_after hn hA hS hlow ha hK hr hD h1 (oE_mk h2) hP1 hD1 hS1 (kk H1 locs1))
theorem oo_copyI (hexec : p.tables.exec = Jvm.exec) (hb : c.code = cc) (hml : c.maxLocals = ls.size) {own : String} {index : Nat} (hown : s.vm.findClass own = some m.cls) (hlink : (Cond.methodLink own index arraycopyName).before args s = true) (hnat : (Cond.native arraycopyName).before args s = true) (hstat : (Cond.static arraycopyName).before args s = true) (hini : (Cond.initialized "java/lang/System").before args s = true) (hn : σ0.2.1 = s.heap.size) (hR : oR dC dI (oA σ0) s σ H) (hS : va_S (oA σ0) s.heap H locs) (hL : oLc σ H locs) (hlow : s.heap.size + cells ≤ H.size) {a0 n0 n1 : Nat} {f g : Nat → Int32} (ha0 : σ.1 a0 = some (.inl (.int, n0, .inl f))) (ha : σ.1 a = some (.inl (.int, n1, .inl g))) {sp dp n : Int32} (h1 : ¬ sp < 0) (h2 : ¬ dp < 0) (h3 : ¬ n < 0) (h4 : sp.toNatClampNeg + n.toNatClampNeg ≤ n0) (h5 : dp.toNatClampNeg + n.toNatClampNeg ≤ n1) (hframes : 1 ≤ R.frames) (hlocals : (rest.map fun v => v.category).sum + (nativeFrameWords "java/lang/System" "arraycopy" 5 + 11) ≤ R.locals) (hdg : decode cc pc = .ok (.invokestatic index, 3))
    (kk : ∀ (H1 : Heap) (locs1 : List Loc), oR dC dI (oA σ0) s (oput σ a (.inl (.int, n1, .inl (va_cpy f g sp.toNatClampNeg dp.toNatClampNeg n.toNatClampNeg)))) H1 → va_S (oA σ0) s.heap H1 locs1 → oLc (oput σ a (.inl (.int, n1, .inl (va_cpy f g sp.toNatClampNeg dp.toNatClampNeg n.toNatClampNeg)))) H1 locs1 → H1.size = H.size → W p l e R s m args below meth c H1 locs1 cells slots Q (F0 m (pc + 3) ls rest)) : W p l e R s m args below meth c H locs cells slots Q (F0 m pc ls (.int n :: .int dp :: .ref a :: .int sp :: .ref a0 :: rest)) := by
  have hA : ∀ q, (σ.1 q).isSome = true → oA σ0 q := fun q h => by
    obtain ⟨d, hd⟩ := Option.isSome_iff_exists.mp h
    exact hR.in hd
  obtain ⟨ws, tys, hP, hD, hK, hr⟩ := oB_D hR
  obtain ⟨q0, c0, t0, k0, k1⟩ := hr.a ha0
  obtain ⟨q1, c1, t1, k2, k3⟩ := hr.a ha
  exact va_copyi hexec hb hml hown hlink hnat hstat hini hK hP hD (oB_S hL) q0 q1 t0 t1 k0 k2 k1 k3 rfl h1 h2 h3 h4 h5 (fun _ _ => rfl) hframes hlocals hdg (fun H1 locs1 hP1 hD1 hS1 => oo_after hn hA hS hlow ha hK hr hD k2 (oE_mk k3) hP1 hD1 hS1 (kk H1 locs1))
theorem oo_copyB (hexec : p.tables.exec = Jvm.exec) (hb : c.code = cc) (hml : c.maxLocals = ls.size) {own : String} {index : Nat} (hown : s.vm.findClass own = some m.cls) (hlink : (Cond.methodLink own index arraycopyName).before args s = true) (hnat : (Cond.native arraycopyName).before args s = true) (hstat : (Cond.static arraycopyName).before args s = true) (hini : (Cond.initialized "java/lang/System").before args s = true) (hn : σ0.2.1 = s.heap.size) (hR : oR dC dI (oA σ0) s σ H) (hS : va_S (oA σ0) s.heap H locs) (hL : oLc σ H locs) (hlow : s.heap.size + cells ≤ H.size) {a0 n0 n1 : Nat} {f g : Nat → Int32} (ha0 : σ.1 a0 = some (.inl (.byte, n0, .inl f))) (ha : σ.1 a = some (.inl (.byte, n1, .inl g))) {sp dp n : Int32} (h1 : ¬ sp < 0) (h2 : ¬ dp < 0) (h3 : ¬ n < 0) (h4 : sp.toNatClampNeg + n.toNatClampNeg ≤ n0) (h5 : dp.toNatClampNeg + n.toNatClampNeg ≤ n1) (hfit : ∀ i, i < n.toNatClampNeg → fits .byte (.int (f (sp.toNatClampNeg + i))) = true) (hframes : 1 ≤ R.frames) (hlocals : (rest.map fun v => v.category).sum + (nativeFrameWords "java/lang/System" "arraycopy" 5 + 11) ≤ R.locals) (hdg : decode cc pc = .ok (.invokestatic index, 3))
    (kk : ∀ (H1 : Heap) (locs1 : List Loc), oR dC dI (oA σ0) s (oput σ a (.inl (.byte, n1, .inl (va_cpy f g sp.toNatClampNeg dp.toNatClampNeg n.toNatClampNeg)))) H1 → va_S (oA σ0) s.heap H1 locs1 → oLc (oput σ a (.inl (.byte, n1, .inl (va_cpy f g sp.toNatClampNeg dp.toNatClampNeg n.toNatClampNeg)))) H1 locs1 → H1.size = H.size → W p l e R s m args below meth c H1 locs1 cells slots Q (F0 m (pc + 3) ls rest)) : W p l e R s m args below meth c H locs cells slots Q (F0 m pc ls (.int n :: .int dp :: .ref a :: .int sp :: .ref a0 :: rest)) := by
  have hA : ∀ q, (σ.1 q).isSome = true → oA σ0 q := fun q h => by
    obtain ⟨d, hd⟩ := Option.isSome_iff_exists.mp h
    exact hR.in hd
  obtain ⟨ws, tys, hP, hD, hK, hr⟩ := oB_D hR
  obtain ⟨q0, c0, t0, k0, k1⟩ := hr.a ha0
  obtain ⟨q1, c1, t1, k2, k3⟩ := hr.a ha
  exact va_copyi hexec hb hml hown hlink hnat hstat hini hK hP hD (oB_S hL) q0 q1 t0 t1 k0 k2 k1 k3 rfl h1 h2 h3 h4 h5 hfit hframes hlocals hdg (fun H1 locs1 hP1 hD1 hS1 => oo_after hn hA hS hlow ha hK hr hD k2 (oE_mk k3) hP1 hD1 hS1 (kk H1 locs1))
theorem oo_copyJ (hexec : p.tables.exec = Jvm.exec) (hb : c.code = cc) (hml : c.maxLocals = ls.size) {own : String} {index : Nat} (hown : s.vm.findClass own = some m.cls) (hlink : (Cond.methodLink own index arraycopyName).before args s = true) (hnat : (Cond.native arraycopyName).before args s = true) (hstat : (Cond.static arraycopyName).before args s = true) (hini : (Cond.initialized "java/lang/System").before args s = true) (hn : σ0.2.1 = s.heap.size) (hR : oR dC dI (oA σ0) s σ H) (hS : va_S (oA σ0) s.heap H locs) (hL : oLc σ H locs) (hlow : s.heap.size + cells ≤ H.size) {a0 n0 n1 : Nat} {f g : Nat → Int64} (ha0 : σ.1 a0 = some (.inl (.long, n0, .inr (.inl f)))) (ha : σ.1 a = some (.inl (.long, n1, .inr (.inl g)))) {sp dp n : Int32} (h1 : ¬ sp < 0) (h2 : ¬ dp < 0) (h3 : ¬ n < 0) (h4 : sp.toNatClampNeg + n.toNatClampNeg ≤ n0) (h5 : dp.toNatClampNeg + n.toNatClampNeg ≤ n1) (hframes : 1 ≤ R.frames) (hlocals : (rest.map fun v => v.category).sum + (nativeFrameWords "java/lang/System" "arraycopy" 5 + 11) ≤ R.locals) (hdg : decode cc pc = .ok (.invokestatic index, 3))
    (kk : ∀ (H1 : Heap) (locs1 : List Loc), oR dC dI (oA σ0) s (oput σ a (.inl (.long, n1, .inr (.inl (va_cpy f g sp.toNatClampNeg dp.toNatClampNeg n.toNatClampNeg))))) H1 → va_S (oA σ0) s.heap H1 locs1 → oLc (oput σ a (.inl (.long, n1, .inr (.inl (va_cpy f g sp.toNatClampNeg dp.toNatClampNeg n.toNatClampNeg))))) H1 locs1 → H1.size = H.size → W p l e R s m args below meth c H1 locs1 cells slots Q (F0 m (pc + 3) ls rest)) : W p l e R s m args below meth c H locs cells slots Q (F0 m pc ls (.int n :: .int dp :: .ref a :: .int sp :: .ref a0 :: rest)) := by
  have hA : ∀ q, (σ.1 q).isSome = true → oA σ0 q := fun q h => by
    obtain ⟨d, hd⟩ := Option.isSome_iff_exists.mp h
    exact hR.in hd
  obtain ⟨ws, tys, hP, hD, hK, hr⟩ := oB_D hR
  obtain ⟨q0, c0, t0, k0, k1⟩ := hr.a ha0
  obtain ⟨q1, c1, t1, k2, k3⟩ := hr.a ha
  exact va_copyl hexec hb hml hown hlink hnat hstat hini hK hP hD (oB_S hL) q0 q1 t0 t1 k0 k2 k1 k3 rfl h1 h2 h3 h4 h5 (fun _ _ => rfl) hframes hlocals hdg (fun H1 locs1 hP1 hD1 hS1 => oo_after hn hA hS hlow ha hK hr hD k2 (oE_mk k3) hP1 hD1 hS1 (kk H1 locs1))
theorem oo_copyQ (hexec : p.tables.exec = Jvm.exec) (hb : c.code = cc) (hml : c.maxLocals = ls.size) {own : String} {index : Nat} (hown : s.vm.findClass own = some m.cls) (hlink : (Cond.methodLink own index arraycopyName).before args s = true) (hnat : (Cond.native arraycopyName).before args s = true) (hstat : (Cond.static arraycopyName).before args s = true) (hini : (Cond.initialized "java/lang/System").before args s = true) (hn : σ0.2.1 = s.heap.size) (hR : oR dC dI (oA σ0) s σ H) (hS : va_S (oA σ0) s.heap H locs) (hL : oLc σ H locs) (hlow : s.heap.size + cells ≤ H.size) {a0 n0 n1 ci : Nat} {w : vw_C} {E0 E1 : String} {f g : Nat → Option Nat} (ha0 : σ.1 a0 = some (.inl (.object E0, n0, .inr (.inr (.inr (.inr f)))))) (ha : σ.1 a = some (.inl (.object E1, n1, .inr (.inr (.inr (.inr g)))))) {sp dp n : Int32} (h1 : ¬ sp < 0) (h2 : ¬ dp < 0) (h3 : ¬ n < 0) (h4 : sp.toNatClampNeg + n.toNatClampNeg ≤ n0) (h5 : dp.toNatClampNeg + n.toNatClampNeg ≤ n1) (hc : vwCl[ci]? = some w) (hel : ∀ i : Nat, i < n.toNatClampNeg → ∀ y : Nat, f (sp.toNatClampNeg + i) = some y → ∃ vs : List Value, σ.1 y = some (.inr (ci, vs))) (hasg : ∀ comp c0 : ClassId, s.vm.findClass E1 = some comp → s.vm.findClass w.1 = some c0 → s.vm.assignable c0 comp = true) (hframes : 1 ≤ R.frames) (hlocals : (rest.map fun v => v.category).sum + (nativeFrameWords "java/lang/System" "arraycopy" 5 + 11) ≤ R.locals) (hdg : decode cc pc = .ok (.invokestatic index, 3))
    (kk : ∀ (H1 : Heap) (locs1 : List Loc), oR dC dI (oA σ0) s (oput σ a (.inl (.object E1, n1, .inr (.inr (.inr (.inr (va_cpy f g sp.toNatClampNeg dp.toNatClampNeg n.toNatClampNeg))))))) H1 → va_S (oA σ0) s.heap H1 locs1 → oLc (oput σ a (.inl (.object E1, n1, .inr (.inr (.inr (.inr (va_cpy f g sp.toNatClampNeg dp.toNatClampNeg n.toNatClampNeg))))))) H1 locs1 → H1.size = H.size → W p l e R s m args below meth c H1 locs1 cells slots Q (F0 m (pc + 3) ls rest)) : W p l e R s m args below meth c H locs cells slots Q (F0 m pc ls (.int n :: .int dp :: .ref a :: .int sp :: .ref a0 :: rest)) := by
  have hA : ∀ q, (σ.1 q).isSome = true → oA σ0 q := fun q h => by
    obtain ⟨d, hd⟩ := Option.isSome_iff_exists.mp h
    exact hR.in hd
  obtain ⟨ws, tys, hP, hD, hK, hr⟩ := oB_D hR
  obtain ⟨q0, c0, t0, k0, k1⟩ := hr.a ha0
  obtain ⟨q1, c1, t1, k2, k3⟩ := hr.a ha
  refine va_copyq (C := w.1) hexec hb hml hown hlink hnat hstat hini hK hP hD (oB_S hL) q0 q1 t0 t1 k0 k2 k1 k3 h1 h2 h3 h4 h5 (fun i hi y hy => ?_) hasg hframes hlocals hdg (fun H1 locs1 hP1 hD1 hS1 => oo_after hn hA hS hlow ha hK hr hD k2 (oE_mk k3) hP1 hD1 hS1 (kk H1 locs1))
  obtain ⟨vs, hvs⟩ := hel i hi y hy
  obtain ⟨q9, g5⟩ := hr.o hvs
  exact va_recv (q := w) hK hP hc g5
end OROWT
