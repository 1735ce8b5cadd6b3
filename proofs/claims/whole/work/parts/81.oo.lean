/-! rows over the plain state of the class: reads, writes, new cells -/
theorem ocat (r : Option Nat) : (va_rf r).category = 1 := by cases r <;> rfl
theorem oE_mk {tys : List (ClassId × FieldType)} {t : Nat} {cA : ClassId} {ty : FieldType} {x : vp_A} (h : tys[t]? = some (cA, ty)) : oE tys (.inl (ty, x)) (.inl (cA, x)) := ⟨rfl, t, h⟩
theorem oE_ob {tys : List (ClassId × FieldType)} {x : Nat × List Value} : oE tys (.inr x) (.inr x) := rfl
section OROWS
variable {p : Program} {l : Launch} {e : Env} {R : Room} {s : State} {m : MethodId} {args : Array Value} {below : List Frame} {meth : Method} {c : Code} {H : Heap} {locs : List Loc} {cells slots : Nat} {Q : State → Prop} {g : JFrame}
variable {cc : ByteArray} {pc : Nat} {ls : Array Slot} {rest : List Value} {dC : Nat → ClassId} {dI : Nat → Nat → Nat} {A : Nat → Prop} {a : Nat} {σ σ0 : oSt}
/-- behind a write: the plain state with the cell anew -/
theorem oo_after {ws : va_W} {tys : List (ClassId × FieldType)} {H1 : Heap} {locs1 : List Loc} {k : Nat} {x x' : va_E} {c0 c' : oC} (hn : σ0.2.1 = s.heap.size) (hA : ∀ q, (σ.1 q).isSome = true → oA σ0 q) (hS : va_S (oA σ0) s.heap H locs) (hlow : s.heap.size + cells ≤ H.size) (ha : σ.1 a = some c0) (hK : va_K (dC, dI) vwCl tys s) (hr : oRep ws tys σ.1) (hD : va_D (oB σ H) ws) (hk : ws[k]? = some (a, x)) (he : oE tys c' x') (hP1 : va_P (dC, dI) vwCl (ws.set k (a, x')) H1) (hD1 : va_D (oB σ H) (ws.set k (a, x'))) (hS1 : va_S (oB σ H) H H1 locs1)
    (kk : oR dC dI (oA σ0) s (oput σ a c') H1 → va_S (oA σ0) s.heap H1 locs1 → oLc (oput σ a c') H1 locs1 → H1.size = H.size → W p l e R s m args below meth c H1 locs1 cells slots Q g) : W p l e R s m args below meth c H1 locs1 cells slots Q g := by
  refine oW_size (fun hsz => ?_)
  have hz : H1.size = H.size := Nat.le_antisymm (Nat.le_trans hsz hlow) hS1.1
  have hdom : ∀ q, ((oput σ a c').1 q).isSome = true → (σ.1 q).isSome = true := fun q h => by
    by_cases hq : q = a
    · subst hq; rw [ha]; rfl
    · simpa [oput, hq] using h
  have hdom2 : ∀ q, (σ.1 q).isSome = true → ((oput σ a c').1 q).isSome = true := fun q h => by
    by_cases hq : q = a
    · subst hq; simp [oput]
    · simpa [oput, hq] using h
  have h1 : oR dC dI (oB σ H) s (oput σ a c') H1 := ⟨_, tys, hP1, hD1, hK, hr.set hD hk he⟩
  refine kk (h1.weaken (fun b d hb => hA b (hdom b (by rw [hb]; rfl)))) (oB_up hn hA hS hS1) (fun y hy => ?_) hz
  rcases hS1.2.2 y hy with h | h
  · exact Or.inl (hdom2 _ h)
  · exact Or.inr (by rw [hz]; exact h)
/-- behind a new cell: it has the next address -/
theorem oo_made {ws : va_W} {tys ty2 : List (ClassId × FieldType)} {H1 : Heap} {q n : Nat} {x : va_E} {c' : oC} (hn : σ0.2.1 = s.heap.size) (hA : ∀ q, (σ.1 q).isSome = true → oA σ0 q) (hS : va_S (oA σ0) s.heap H locs) (hlow : s.heap.size + cells ≤ H.size) (hup : H.size ≤ s.heap.size + cells) (hnx : σ.2.1 = H.size) (hL : oLc σ H locs) (hR : oR dC dI A s σ H) (hK : va_K (dC, dI) vwCl (tys ++ ty2) s) (hr : oRep ws tys σ.1) (he : oE (tys ++ ty2) c' x) (hP1 : va_P (dC, dI) vwCl (ws ++ [(q, x)]) H1) (hD1 : va_D (oB σ H) (ws ++ [(q, x)])) (hS1 : va_S (oB σ H) H H1 locs)
    (kk : q = σ.2.1 → oR dC dI (oA σ0) s (onew σ c' n) H1 → va_S (oA σ0) s.heap H1 locs → oLc (onew σ c' n) H1 locs → H1.size = H.size + 1 → W p l e R s m args below meth c H1 locs (cells + 1) slots Q g) : W p l e R s m args below meth c H1 locs (cells + 1) slots Q g := by
  refine oW_size (fun hsz => ?_)
  have hat : (ws ++ [(q, x)])[ws.length]? = some (q, x) := by simp
  have hq1 : q < H1.size := (hP1 ws.length _ hat).lt
  have hq2 : H.size ≤ q := by
    rcases hD1.2 ws.length _ hat with h | h
    · exfalso
      obtain ⟨d, hd⟩ := Option.isSome_iff_exists.mp h
      obtain ⟨i, y, hi, -⟩ := hr.1 q d hd
      have hil : i < ws.length := (List.getElem?_eq_some_iff.mp hi).1
      have := hD1.1 i ws.length (q, y) (q, x) (by rw [List.getElem?_append_left hil]; exact hi) hat rfl
      omega
    · exact h
  have hqe : q = H.size := by omega
  have hz : H1.size = H.size + 1 := by omega
  subst hqe
  have h1 : oR dC dI (oB σ H) s (onew σ c' n) H1 := ⟨_, _, hP1, hD1, hK, by
    have := hr.push (ty2 := ty2) (q := H.size) (e := x) (c := c') (hR.none) he
    simpa [onew, hnx] using this⟩
  have hdom : ∀ b, ((onew σ c' n).1 b).isSome = true → oA σ0 b := fun b hb => by
    by_cases hbq : b = σ.2.1
    · rw [hbq, hnx]; exact Or.inr (by rw [hn]; exact hS.1)
    · exact hA b (by simpa [onew, hbq] using hb)
  refine kk hnx.symm (h1.weaken (fun b d hb => hdom b (by rw [hb]; rfl))) (oB_up hn hA hS hS1) (fun y hy => ?_) hz
  by_cases hyq : y.base = σ.2.1
  · exact Or.inl (by simp [onew, hyq])
  · rcases hL y hy with h | h
    · exact Or.inl (by simpa [onew, hyq] using h)
    · exact Or.inr (by rw [hz]; exact Nat.succ_le_of_lt (Nat.lt_of_le_of_ne h (fun z => hyq (by rw [hnx]; exact z.symm))))
theorem oo_iald (hexec : p.tables.exec = Jvm.exec) (hb : c.code = cc) (hR : oR dC dI A s σ H) {n : Nat} {f : Nat → Int32} (ha : σ.1 a = some (.inl (.int, n, .inl f))) {i : Int32} (hin : vp_in i n) (hdg : decode cc pc = .ok (.iaload, 1))
    (kk : W p l e R s m args below meth c H locs cells slots Q (F0 m (pc + 1) ls (.int (f i.toNatClampNeg) :: rest))) : W p l e R s m args below meth c H locs cells slots Q (F0 m pc ls (.int i :: .ref a :: rest)) := by
  obtain ⟨ws, tys, hP, hD, hK, hr⟩ := hR
  obtain ⟨k, cA, t, h1, h2⟩ := hr.a ha
  exact va_iald hexec hb hK hP k t h1 h2 hin hdg kk
theorem oo_bald (hexec : p.tables.exec = Jvm.exec) (hb : c.code = cc) (hR : oR dC dI A s σ H) {n : Nat} {f : Nat → Int32} (ha : σ.1 a = some (.inl (.byte, n, .inl f))) {i : Int32} (hin : vp_in i n) (hdg : decode cc pc = .ok (.baload, 1))
    (kk : W p l e R s m args below meth c H locs cells slots Q (F0 m (pc + 1) ls (.int (f i.toNatClampNeg) :: rest))) : W p l e R s m args below meth c H locs cells slots Q (F0 m pc ls (.int i :: .ref a :: rest)) := by
  obtain ⟨ws, tys, hP, hD, hK, hr⟩ := hR
  obtain ⟨k, cA, t, h1, h2⟩ := hr.a ha
  exact va_bald hexec hb hK hP k t h1 h2 hin hdg kk
theorem oo_zald (hexec : p.tables.exec = Jvm.exec) (hb : c.code = cc) (hR : oR dC dI A s σ H) {n : Nat} {f : Nat → Int32} (ha : σ.1 a = some (.inl (.boolean, n, .inl f))) {i : Int32} (hin : vp_in i n) (hdg : decode cc pc = .ok (.baload, 1))
    (kk : W p l e R s m args below meth c H locs cells slots Q (F0 m (pc + 1) ls (.int (f i.toNatClampNeg) :: rest))) : W p l e R s m args below meth c H locs cells slots Q (F0 m pc ls (.int i :: .ref a :: rest)) := by
  obtain ⟨ws, tys, hP, hD, hK, hr⟩ := hR
  obtain ⟨k, cA, t, h1, h2⟩ := hr.a ha
  exact va_zald hexec hb hK hP k t h1 h2 hin hdg kk
theorem oo_cald (hexec : p.tables.exec = Jvm.exec) (hb : c.code = cc) (hR : oR dC dI A s σ H) {n : Nat} {f : Nat → Int32} (ha : σ.1 a = some (.inl (.char, n, .inl f))) {i : Int32} (hin : vp_in i n) (hdg : decode cc pc = .ok (.caload, 1))
    (kk : W p l e R s m args below meth c H locs cells slots Q (F0 m (pc + 1) ls (.int (f i.toNatClampNeg) :: rest))) : W p l e R s m args below meth c H locs cells slots Q (F0 m pc ls (.int i :: .ref a :: rest)) := by
  obtain ⟨ws, tys, hP, hD, hK, hr⟩ := hR
  obtain ⟨k, cA, t, h1, h2⟩ := hr.a ha
  exact va_cald hexec hb hK hP k t h1 h2 hin hdg kk
theorem oo_lald (hexec : p.tables.exec = Jvm.exec) (hb : c.code = cc) (hR : oR dC dI A s σ H) {n : Nat} {f : Nat → Int64} (ha : σ.1 a = some (.inl (.long, n, .inr (.inl f)))) {i : Int32} (hin : vp_in i n) (hdg : decode cc pc = .ok (.laload, 1))
    (kk : W p l e R s m args below meth c H locs cells slots Q (F0 m (pc + 1) ls (.long (f i.toNatClampNeg) :: rest))) : W p l e R s m args below meth c H locs cells slots Q (F0 m pc ls (.int i :: .ref a :: rest)) := by
  obtain ⟨ws, tys, hP, hD, hK, hr⟩ := hR
  obtain ⟨k, cA, t, h1, h2⟩ := hr.a ha
  exact va_lald hexec hb hK hP k t h1 h2 hin hdg kk
theorem oo_aald (hexec : p.tables.exec = Jvm.exec) (hb : c.code = cc) (hR : oR dC dI A s σ H) {C : String} {n : Nat} {f : Nat → Option Nat} (ha : σ.1 a = some (.inl (.object C, n, .inr (.inr (.inr (.inr f)))))) {i : Int32} (hin : vp_in i n) (hdg : decode cc pc = .ok (.aaload, 1))
    (kk : W p l e R s m args below meth c H locs cells slots Q (F0 m (pc + 1) ls (va_rf (f i.toNatClampNeg) :: rest))) : W p l e R s m args below meth c H locs cells slots Q (F0 m pc ls (.int i :: .ref a :: rest)) := by
  obtain ⟨ws, tys, hP, hD, hK, hr⟩ := hR
  obtain ⟨k, cA, t, h1, h2⟩ := hr.a ha
  exact va_aldq hexec hb hK hP k t h1 h2 hin hdg kk
theorem oo_alen (hexec : p.tables.exec = Jvm.exec) (hb : c.code = cc) (hR : oR dC dI A s σ H) {x : FieldType × vp_A} (ha : σ.1 a = some (.inl x)) (hdg : decode cc pc = .ok (.arraylength, 1))
    (kk : W p l e R s m args below meth c H locs cells slots Q (F0 m (pc + 1) ls (.int (Int32.ofNat x.2.1) :: rest))) : W p l e R s m args below meth c H locs cells slots Q (F0 m pc ls (.ref a :: rest)) := by
  obtain ⟨ws, tys, hP, hD, hK, hr⟩ := hR
  obtain ⟨k, cA, t, h1, h2⟩ := hr.a ha
  exact va_alen hexec hb hK hP k t h1 h2 rfl hdg kk
theorem oo_get (hexec : p.tables.exec = Jvm.exec) (hb : c.code = cc) {own ref C : String} {T : u_T} {N ci index : Nat} {Ts : List Cond} (hts : ∀ w ∈ Ts, w.before args s = true) (hin : ∀ w ∈ u_ws C T N, w ∈ Ts) (hown : s.vm.findClass own = some m.cls) (hR : oR dC dI A s σ H) {fs : List Value} (ha : σ.1 a = some (.inr (ci, fs))) (hc : vwCl[ci]? = some (C, T, N)) (k : Nat) (hk : k < N) (hlink : (Cond.fieldLink own index ref (T k).2.1 (T k).2.2.1).before args s = true) (hsame : ∀ x, s.fieldFound? (T k).1 (T k).2.1 (T k).2.2.1 = some x → s.fieldFound? ref (T k).2.1 (T k).2.2.1 = some x) {v : Value} (hv : fs[k]? = some v) (hdg : decode cc pc = .ok (.getfield index, 3))
    (kk : W p l e R s m args below meth c H locs cells slots Q (F0 m (pc + 3) ls (v :: rest))) : W p l e R s m args below meth c H locs cells slots Q (F0 m pc ls (.ref a :: rest)) := by
  obtain ⟨ws, tys, hP, hD, hK, hr⟩ := hR
  obtain ⟨q0, he⟩ := hr.o ha
  exact va_get hexec hb hts hin hown hK hP q0 he hc k hk hlink hsame hv hdg kk
theorem oo_iast (hexec : p.tables.exec = Jvm.exec) (hb : c.code = cc) (hn : σ0.2.1 = s.heap.size) (hR : oR dC dI (oA σ0) s σ H) (hS : va_S (oA σ0) s.heap H locs) (hL : oLc σ H locs) (hlow : s.heap.size + cells ≤ H.size) {n : Nat} {f : Nat → Int32} (ha : σ.1 a = some (.inl (.int, n, .inl f))) {i x : Int32} (hin : vp_in i n) (hdg : decode cc pc = .ok (.iastore, 1))
    (kk : ∀ (H1 : Heap) (locs1 : List Loc), oR dC dI (oA σ0) s (oput σ a (.inl (.int, n, .inl (upd f i.toNatClampNeg x)))) H1 → va_S (oA σ0) s.heap H1 locs1 → oLc (oput σ a (.inl (.int, n, .inl (upd f i.toNatClampNeg x)))) H1 locs1 → H1.size = H.size → W p l e R s m args below meth c H1 locs1 cells slots Q (F0 m (pc + 1) ls rest)) : W p l e R s m args below meth c H locs cells slots Q (F0 m pc ls (.int x :: .int i :: .ref a :: rest)) := by
  have hA : ∀ q, (σ.1 q).isSome = true → oA σ0 q := fun q h => by
    obtain ⟨d, hd⟩ := Option.isSome_iff_exists.mp h
    exact hR.in hd
  obtain ⟨ws, tys, hP, hD, hK, hr⟩ := oB_D hR
  obtain ⟨k, cA, t, h1, h2⟩ := hr.a ha
  exact va_iast hexec hb hK hP hD (oB_S hL) k t h1 h2 hin hdg (fun H1 locs1 hP1 hD1 hS1 => oo_after hn hA hS hlow ha hK hr hD h1 (oE_mk h2) hP1 hD1 hS1 (kk H1 locs1))
theorem oo_bast (hexec : p.tables.exec = Jvm.exec) (hb : c.code = cc) (hn : σ0.2.1 = s.heap.size) (hR : oR dC dI (oA σ0) s σ H) (hS : va_S (oA σ0) s.heap H locs) (hL : oLc σ H locs) (hlow : s.heap.size + cells ≤ H.size) {n : Nat} {f : Nat → Int32} (ha : σ.1 a = some (.inl (.byte, n, .inl f))) {i x : Int32} (hin : vp_in i n) (hdg : decode cc pc = .ok (.bastore, 1))
    (kk : ∀ (H1 : Heap) (locs1 : List Loc), oR dC dI (oA σ0) s (oput σ a (.inl (.byte, n, .inl (upd f i.toNatClampNeg (vp_nar .byte x))))) H1 → va_S (oA σ0) s.heap H1 locs1 → oLc (oput σ a (.inl (.byte, n, .inl (upd f i.toNatClampNeg (vp_nar .byte x))))) H1 locs1 → H1.size = H.size → W p l e R s m args below meth c H1 locs1 cells slots Q (F0 m (pc + 1) ls rest)) : W p l e R s m args below meth c H locs cells slots Q (F0 m pc ls (.int x :: .int i :: .ref a :: rest)) := by
  have hA : ∀ q, (σ.1 q).isSome = true → oA σ0 q := fun q h => by
    obtain ⟨d, hd⟩ := Option.isSome_iff_exists.mp h
    exact hR.in hd
  obtain ⟨ws, tys, hP, hD, hK, hr⟩ := oB_D hR
  obtain ⟨k, cA, t, h1, h2⟩ := hr.a ha
  exact va_bast hexec hb hK hP hD (oB_S hL) k t h1 h2 hin hdg (fun H1 locs1 hP1 hD1 hS1 => oo_after hn hA hS hlow ha hK hr hD h1 (oE_mk h2) hP1 hD1 hS1 (kk H1 locs1))
theorem oo_zast (hexec : p.tables.exec = Jvm.exec) (hb : c.code = cc) (hn : σ0.2.1 = s.heap.size) (hR : oR dC dI (oA σ0) s σ H) (hS : va_S (oA σ0) s.heap H locs) (hL : oLc σ H locs) (hlow : s.heap.size + cells ≤ H.size) {n : Nat} {f : Nat → Int32} (ha : σ.1 a = some (.inl (.boolean, n, .inl f))) {i x : Int32} (hin : vp_in i n) (hdg : decode cc pc = .ok (.bastore, 1))
    (kk : ∀ (H1 : Heap) (locs1 : List Loc), oR dC dI (oA σ0) s (oput σ a (.inl (.boolean, n, .inl (upd f i.toNatClampNeg (vp_nar .boolean x))))) H1 → va_S (oA σ0) s.heap H1 locs1 → oLc (oput σ a (.inl (.boolean, n, .inl (upd f i.toNatClampNeg (vp_nar .boolean x))))) H1 locs1 → H1.size = H.size → W p l e R s m args below meth c H1 locs1 cells slots Q (F0 m (pc + 1) ls rest)) : W p l e R s m args below meth c H locs cells slots Q (F0 m pc ls (.int x :: .int i :: .ref a :: rest)) := by
  have hA : ∀ q, (σ.1 q).isSome = true → oA σ0 q := fun q h => by
    obtain ⟨d, hd⟩ := Option.isSome_iff_exists.mp h
    exact hR.in hd
  obtain ⟨ws, tys, hP, hD, hK, hr⟩ := oB_D hR
  obtain ⟨k, cA, t, h1, h2⟩ := hr.a ha
  exact va_zast hexec hb hK hP hD (oB_S hL) k t h1 h2 hin hdg (fun H1 locs1 hP1 hD1 hS1 => oo_after hn hA hS hlow ha hK hr hD h1 (oE_mk h2) hP1 hD1 hS1 (kk H1 locs1))
theorem oo_cast (hexec : p.tables.exec = Jvm.exec) (hb : c.code = cc) (hn : σ0.2.1 = s.heap.size) (hR : oR dC dI (oA σ0) s σ H) (hS : va_S (oA σ0) s.heap H locs) (hL : oLc σ H locs) (hlow : s.heap.size + cells ≤ H.size) {n : Nat} {f : Nat → Int32} (ha : σ.1 a = some (.inl (.char, n, .inl f))) {i x : Int32} (hin : vp_in i n) (hdg : decode cc pc = .ok (.castore, 1))
    (kk : ∀ (H1 : Heap) (locs1 : List Loc), oR dC dI (oA σ0) s (oput σ a (.inl (.char, n, .inl (upd f i.toNatClampNeg (vp_nar .char x))))) H1 → va_S (oA σ0) s.heap H1 locs1 → oLc (oput σ a (.inl (.char, n, .inl (upd f i.toNatClampNeg (vp_nar .char x))))) H1 locs1 → H1.size = H.size → W p l e R s m args below meth c H1 locs1 cells slots Q (F0 m (pc + 1) ls rest)) : W p l e R s m args below meth c H locs cells slots Q (F0 m pc ls (.int x :: .int i :: .ref a :: rest)) := by
  have hA : ∀ q, (σ.1 q).isSome = true → oA σ0 q := fun q h => by
    obtain ⟨d, hd⟩ := Option.isSome_iff_exists.mp h
    exact hR.in hd
  obtain ⟨ws, tys, hP, hD, hK, hr⟩ := oB_D hR
  obtain ⟨k, cA, t, h1, h2⟩ := hr.a ha
  exact va_cast hexec hb hK hP hD (oB_S hL) k t h1 h2 hin hdg (fun H1 locs1 hP1 hD1 hS1 => oo_after hn hA hS hlow ha hK hr hD h1 (oE_mk h2) hP1 hD1 hS1 (kk H1 locs1))
theorem oo_last (hexec : p.tables.exec = Jvm.exec) (hb : c.code = cc) (hn : σ0.2.1 = s.heap.size) (hR : oR dC dI (oA σ0) s σ H) (hS : va_S (oA σ0) s.heap H locs) (hL : oLc σ H locs) (hlow : s.heap.size + cells ≤ H.size) {n : Nat} {f : Nat → Int64} (ha : σ.1 a = some (.inl (.long, n, .inr (.inl f)))) {i : Int32} {x : Int64} (hin : vp_in i n) (hdg : decode cc pc = .ok (.lastore, 1))
    (kk : ∀ (H1 : Heap) (locs1 : List Loc), oR dC dI (oA σ0) s (oput σ a (.inl (.long, n, .inr (.inl (vp_updL f i.toNatClampNeg x))))) H1 → va_S (oA σ0) s.heap H1 locs1 → oLc (oput σ a (.inl (.long, n, .inr (.inl (vp_updL f i.toNatClampNeg x))))) H1 locs1 → H1.size = H.size → W p l e R s m args below meth c H1 locs1 cells slots Q (F0 m (pc + 1) ls rest)) : W p l e R s m args below meth c H locs cells slots Q (F0 m pc ls (.long x :: .int i :: .ref a :: rest)) := by
  have hA : ∀ q, (σ.1 q).isSome = true → oA σ0 q := fun q h => by
    obtain ⟨d, hd⟩ := Option.isSome_iff_exists.mp h
    exact hR.in hd
  obtain ⟨ws, tys, hP, hD, hK, hr⟩ := oB_D hR
  obtain ⟨k, cA, t, h1, h2⟩ := hr.a ha
  exact va_last hexec hb hK hP hD (oB_S hL) k t h1 h2 hin hdg (fun H1 locs1 hP1 hD1 hS1 => oo_after hn hA hS hlow ha hK hr hD h1 (oE_mk h2) hP1 hD1 hS1 (kk H1 locs1))
theorem oo_aast (hexec : p.tables.exec = Jvm.exec) (hb : c.code = cc) (hn : σ0.2.1 = s.heap.size) (hR : oR dC dI (oA σ0) s σ H) (hS : va_S (oA σ0) s.heap H locs) (hL : oLc σ H locs) (hlow : s.heap.size + cells ≤ H.size) {w : vw_C} {n v ci : Nat} {vs : List Value} {f : Nat → Option Nat} (ha : σ.1 a = some (.inl (.object w.1, n, .inr (.inr (.inr (.inr f)))))) (hv : σ.1 v = some (.inr (ci, vs))) (hc : vwCl[ci]? = some w) {i : Int32} (hin : vp_in i n) (hdg : decode cc pc = .ok (.aastore, 1))
    (kk : ∀ (H1 : Heap) (locs1 : List Loc), oR dC dI (oA σ0) s (oput σ a (.inl (.object w.1, n, .inr (.inr (.inr (.inr (va_up f i.toNatClampNeg (some v)))))))) H1 → va_S (oA σ0) s.heap H1 locs1 → oLc (oput σ a (.inl (.object w.1, n, .inr (.inr (.inr (.inr (va_up f i.toNatClampNeg (some v)))))))) H1 locs1 → H1.size = H.size → W p l e R s m args below meth c H1 locs1 cells slots Q (F0 m (pc + 1) ls rest)) : W p l e R s m args below meth c H locs cells slots Q (F0 m pc ls (.ref v :: .int i :: .ref a :: rest)) := by
  have hA : ∀ q, (σ.1 q).isSome = true → oA σ0 q := fun q h => by
    obtain ⟨d, hd⟩ := Option.isSome_iff_exists.mp h
    exact hR.in hd
  obtain ⟨ws, tys, hP, hD, hK, hr⟩ := oB_D hR
  obtain ⟨k, cA, t, h1, h2⟩ := hr.a ha
  obtain ⟨k2, h3⟩ := hr.o hv
  exact va_astq hexec hb hK hP hD (oB_S hL) k t k2 ci h1 h2 h3 hc hin hdg (fun H1 locs1 hP1 hD1 hS1 => oo_after hn hA hS hlow ha hK hr hD h1 (oE_mk h2) hP1 hD1 hS1 (kk H1 locs1))
theorem oo_aastN (hexec : p.tables.exec = Jvm.exec) (hb : c.code = cc) (hn : σ0.2.1 = s.heap.size) (hR : oR dC dI (oA σ0) s σ H) (hS : va_S (oA σ0) s.heap H locs) (hL : oLc σ H locs) (hlow : s.heap.size + cells ≤ H.size) {C : String} {n : Nat} {f : Nat → Option Nat} (ha : σ.1 a = some (.inl (.object C, n, .inr (.inr (.inr (.inr f)))))) {i : Int32} (hin : vp_in i n) (hdg : decode cc pc = .ok (.aastore, 1))
    (kk : ∀ (H1 : Heap) (locs1 : List Loc), oR dC dI (oA σ0) s (oput σ a (.inl (.object C, n, .inr (.inr (.inr (.inr (va_up f i.toNatClampNeg none))))))) H1 → va_S (oA σ0) s.heap H1 locs1 → oLc (oput σ a (.inl (.object C, n, .inr (.inr (.inr (.inr (va_up f i.toNatClampNeg none))))))) H1 locs1 → H1.size = H.size → W p l e R s m args below meth c H1 locs1 cells slots Q (F0 m (pc + 1) ls rest)) : W p l e R s m args below meth c H locs cells slots Q (F0 m pc ls (.null :: .int i :: .ref a :: rest)) := by
  have hA : ∀ q, (σ.1 q).isSome = true → oA σ0 q := fun q h => by
    obtain ⟨d, hd⟩ := Option.isSome_iff_exists.mp h
    exact hR.in hd
  obtain ⟨ws, tys, hP, hD, hK, hr⟩ := oB_D hR
  obtain ⟨k, cA, t, h1, h2⟩ := hr.a ha
  exact va_astqN hexec hb hK hP hD (oB_S hL) k t h1 h2 hin hdg (fun H1 locs1 hP1 hD1 hS1 => oo_after hn hA hS hlow ha hK hr hD h1 (oE_mk h2) hP1 hD1 hS1 (kk H1 locs1))
theorem oo_put (hexec : p.tables.exec = Jvm.exec) (hb : c.code = cc) {own ref C : String} {T : u_T} {N ci index : Nat} {Ts : List Cond} (hts : ∀ w ∈ Ts, w.before args s = true) (hin : ∀ w ∈ u_ws C T N, w ∈ Ts) (ty0 : Nat → FieldType) (hty : ∀ k, k < N → parseFieldDescriptor (T k).2.2.1 = some (ty0 k)) (hnm : ∀ a, a < N → ∀ b, b < N → a ≠ b → (T a).2.1 ≠ (T b).2.1) (hown : s.vm.findClass own = some m.cls) (hn : σ0.2.1 = s.heap.size) (hR : oR dC dI (oA σ0) s σ H) (hS : va_S (oA σ0) s.heap H locs) (hL : oLc σ H locs) (hlow : s.heap.size + cells ≤ H.size) {fs : List Value} (ha : σ.1 a = some (.inr (ci, fs))) (hc : vwCl[ci]? = some (C, T, N)) (k : Nat) (hk : k < N) (hlink : (Cond.fieldLink own index ref (T k).2.1 (T k).2.2.1).before args s = true) (hsame : ∀ x, s.fieldFound? (T k).1 (T k).2.1 (T k).2.2.1 = some x → s.fieldFound? ref (T k).2.1 (T k).2.2.1 = some x) (hfin : (T k).2.2.2 = false) {ty : FieldType} {v : Value} (hd : parseFieldDescriptor (T k).2.2.1 = some ty) (hnw : narrow ty v = v) (hfit : fits ty v = true) (hl : k < fs.length) (hdg : decode cc pc = .ok (.putfield index, 3))
    (kk : ∀ (H1 : Heap) (locs1 : List Loc), oR dC dI (oA σ0) s (oput σ a (.inr (ci, fs.set k v))) H1 → va_S (oA σ0) s.heap H1 locs1 → oLc (oput σ a (.inr (ci, fs.set k v))) H1 locs1 → H1.size = H.size → W p l e R s m args below meth c H1 locs1 cells slots Q (F0 m (pc + 3) ls rest)) : W p l e R s m args below meth c H locs cells slots Q (F0 m pc ls (v :: .ref a :: rest)) := by
  have hA : ∀ q, (σ.1 q).isSome = true → oA σ0 q := fun q h => by
    obtain ⟨d, hd⟩ := Option.isSome_iff_exists.mp h
    exact hR.in hd
  obtain ⟨ws, tys, hP, hD, hK, hr⟩ := oB_D hR
  obtain ⟨q0, he⟩ := hr.o ha
  exact va_put hexec hb hts hin ty0 hty hnm hown hK hP hD (oB_S hL) q0 he hc k hk hlink hsame hfin hd hnw hfit hl hdg (fun H1 locs1 hP1 hD1 hS1 => oo_after hn hA hS hlow ha hK hr hD he oE_ob hP1 hD1 hS1 (kk H1 locs1))
theorem oo_new (hexec : p.tables.exec = Jvm.exec) (hb : c.code = cc) {own C : String} {T : u_T} {N ci index : Nat} {Ts : List Cond} (hts : ∀ w ∈ Ts, w.before args s = true) (hin : ∀ w ∈ u_ws C T N, w ∈ Ts) (ty : Nat → FieldType) (hty : ∀ k, k < N → parseFieldDescriptor (T k).2.2.1 = some (ty k)) (hown : s.vm.findClass own = some m.cls) (hcl : (Cond.classLink own index C).before args s = true) (hinst : (Cond.instantiable C N).before args s = true) (hini : (Cond.initialized C).before args s = true) (hn : σ0.2.1 = s.heap.size) (hR : oR dC dI (oA σ0) s σ H) (hS : va_S (oA σ0) s.heap H locs) (hL : oLc σ H locs) (hlow : s.heap.size + cells ≤ H.size) (hup : H.size ≤ s.heap.size + cells) (hnx : σ.2.1 = H.size) (hc : vwCl[ci]? = some (C, T, N)) {fs : List Value} (hfs : ∀ j, j < N → defaultValue (ty j) = vp_V fs j) (hcells : cells + 1 ≤ R.cells) (hslots : slots + N ≤ R.slots) (hdg : decode cc pc = .ok (.new index, 3))
    (kk : ∀ H1 : Heap, oR dC dI (oA σ0) s (onew σ (.inr (ci, fs)) N) H1 → va_S (oA σ0) s.heap H1 locs → oLc (onew σ (.inr (ci, fs)) N) H1 locs → H1.size = H.size + 1 → W p l e R s m args below meth c H1 locs (cells + 1) (slots + N) Q (F0 m (pc + 3) ls (.ref σ.2.1 :: rest))) : W p l e R s m args below meth c H locs cells slots Q (F0 m pc ls rest) := by
  have hA : ∀ q, (σ.1 q).isSome = true → oA σ0 q := fun q h => by
    obtain ⟨d, hd⟩ := Option.isSome_iff_exists.mp h
    exact hR.in hd
  obtain ⟨ws, tys, hP, hD, hK, hr⟩ := oB_D hR
  refine va_new hexec hb hts hin ty hty hown hcl hinst hini hK hP hD (oB_S hL) (fun q h => Or.inr h) hc hfs hcells hslots hdg (fun q H1 hP1 hD1 hS1 => oo_made (ty2 := []) (n := N) hn hA hS hlow hup hnx hL hR (by rw [List.append_nil]; exact hK) hr oE_ob hP1 hD1 hS1 (fun hq k1 k2 k3 k4 => ?_))
  subst hq
  exact kk H1 k1 k2 k3 k4
theorem oo_newa (hexec : p.tables.exec = Jvm.exec) (hb : c.code = cc) {atype : ArrayType} (harr : (Cond.arrayClass (newarray.typeOf atype)).before args s = true) {ty : FieldType} (hty : newarray.typeOf atype = ty) (hn : σ0.2.1 = s.heap.size) (hR : oR dC dI (oA σ0) s σ H) (hS : va_S (oA σ0) s.heap H locs) (hL : oLc σ H locs) (hlow : s.heap.size + cells ≤ H.size) (hup : H.size ≤ s.heap.size + cells) (hnx : σ.2.1 = H.size) {n : Int32} {N : Nat} {a0 : vp_A} (ha : ∀ cA : ClassId, vp_cell cA a0 = arrV cA N (fun _ => defaultValue ty)) (hne : ¬ n < 0) (hN : n.toNatClampNeg = N) (hbytes : N * componentBytes ty ≤ 536870912) (hcells : cells + 1 ≤ R.cells) (hslots : slots + N ≤ R.slots) (hdg : decode cc pc = .ok (.newarray atype, 2))
    (kk : ∀ H1 : Heap, oR dC dI (oA σ0) s (onew σ (.inl (ty, a0)) N) H1 → va_S (oA σ0) s.heap H1 locs → oLc (onew σ (.inl (ty, a0)) N) H1 locs → H1.size = H.size + 1 → W p l e R s m args below meth c H1 locs (cells + 1) (slots + N) Q (F0 m (pc + 2) ls (.ref σ.2.1 :: rest))) : W p l e R s m args below meth c H locs cells slots Q (F0 m pc ls (.int n :: rest)) := by
  have hA : ∀ q, (σ.1 q).isSome = true → oA σ0 q := fun q h => by
    obtain ⟨d, hd⟩ := Option.isSome_iff_exists.mp h
    exact hR.in hd
  obtain ⟨ws, tys, hP, hD, hK, hr⟩ := oB_D hR
  refine va_newa hexec hb harr hty hK hP hD (oB_S hL) (fun q h => Or.inr h) ha hne hN hbytes hcells hslots hdg (fun q cA H1 hK1 hP1 hD1 hS1 => oo_made (ty2 := [(cA, ty)]) (c' := .inl (ty, a0)) (n := N) hn hA hS hlow hup hnx hL hR hK1 hr (oE_mk (t := tys.length) (by simp)) hP1 hD1 hS1 (fun hq k1 k2 k3 k4 => ?_))
  subst hq
  exact kk H1 k1 k2 k3 k4
theorem oo_newq (hexec : p.tables.exec = Jvm.exec) (hb : c.code = cc) {own C : String} {index : Nat} (hown : s.vm.findClass own = some m.cls) (hclink : (Cond.classLink own index C).before args s = true) (hover : va_AO C s) (hn : σ0.2.1 = s.heap.size) (hR : oR dC dI (oA σ0) s σ H) (hS : va_S (oA σ0) s.heap H locs) (hL : oLc σ H locs) (hlow : s.heap.size + cells ≤ H.size) (hup : H.size ≤ s.heap.size + cells) (hnx : σ.2.1 = H.size) {n : Int32} {N : Nat} (hne : ¬ n < 0) (hN : n.toNatClampNeg = N) (hbytes : N * 4 ≤ 536870912) (hcells : cells + 1 ≤ R.cells) (hslots : slots + N ≤ R.slots) (hdg : decode cc pc = .ok (.anewarray index, 3))
    (kk : ∀ H1 : Heap, oR dC dI (oA σ0) s (onew σ (.inl (.object C, N, .inr (.inr (.inr (.inr (fun _ => none)))))) N) H1 → va_S (oA σ0) s.heap H1 locs → oLc (onew σ (.inl (.object C, N, .inr (.inr (.inr (.inr (fun _ => none)))))) N) H1 locs → H1.size = H.size + 1 → W p l e R s m args below meth c H1 locs (cells + 1) (slots + N) Q (F0 m (pc + 3) ls (.ref σ.2.1 :: rest))) : W p l e R s m args below meth c H locs cells slots Q (F0 m pc ls (.int n :: rest)) := by
  have hA : ∀ q, (σ.1 q).isSome = true → oA σ0 q := fun q h => by
    obtain ⟨d, hd⟩ := Option.isSome_iff_exists.mp h
    exact hR.in hd
  obtain ⟨ws, tys, hP, hD, hK, hr⟩ := oB_D hR
  refine va_newq hexec hb hown hclink hover hK hP hD (oB_S hL) (fun q h => Or.inr h) hne hN hbytes hcells hslots hdg (fun q cA H1 hK1 hP1 hD1 hS1 => oo_made (ty2 := [(cA, .object C)]) (c' := .inl (.object C, N, .inr (.inr (.inr (.inr (fun _ => none)))))) (n := N) hn hA hS hlow hup hnx hL hR hK1 hr (oE_mk (t := tys.length) (by simp)) hP1 hD1 hS1 (fun hq k1 k2 k3 k4 => ?_))
  subst hq
  exact kk H1 k1 k2 k3 k4
theorem oo_newA (hexec : p.tables.exec = Jvm.exec) (hb : c.code = cc) {own : String} {index : Nat} (hown : s.vm.findClass own = some m.cls) (hclink : (Cond.classLink own index (FieldType.array .int).toString).before args s = true) (hover : zAA s) (hn : σ0.2.1 = s.heap.size) (hR : oR dC dI (oA σ0) s σ H) (hS : va_S (oA σ0) s.heap H locs) (hL : oLc σ H locs) (hlow : s.heap.size + cells ≤ H.size) (hup : H.size ≤ s.heap.size + cells) (hnx : σ.2.1 = H.size) {n : Int32} {N : Nat} (hne : ¬ n < 0) (hN : n.toNatClampNeg = N) (hbytes : N * 4 ≤ 536870912) (hcells : cells + 1 ≤ R.cells) (hslots : slots + N ≤ R.slots) (hdg : decode cc pc = .ok (.anewarray index, 3))
    (kk : ∀ H1 : Heap, oR dC dI (oA σ0) s (onew σ (.inl (.array .int, N, .inr (.inr (.inr (.inr (fun _ => none)))))) N) H1 → va_S (oA σ0) s.heap H1 locs → oLc (onew σ (.inl (.array .int, N, .inr (.inr (.inr (.inr (fun _ => none)))))) N) H1 locs → H1.size = H.size + 1 → W p l e R s m args below meth c H1 locs (cells + 1) (slots + N) Q (F0 m (pc + 3) ls (.ref σ.2.1 :: rest))) : W p l e R s m args below meth c H locs cells slots Q (F0 m pc ls (.int n :: rest)) := by
  have hA : ∀ q, (σ.1 q).isSome = true → oA σ0 q := fun q h => by
    obtain ⟨d, hd⟩ := Option.isSome_iff_exists.mp h
    exact hR.in hd
  obtain ⟨ws, tys, hP, hD, hK, hr⟩ := oB_D hR
  refine za_newA hexec hb hown hclink hover hK hP hD (oB_S hL) (fun q h => Or.inr h) hne hN hbytes hcells hslots hdg (fun q cA H1 hK1 hP1 hD1 hS1 => oo_made (ty2 := [(cA, .array .int)]) (c' := .inl (.array .int, N, .inr (.inr (.inr (.inr (fun _ => none)))))) (n := N) hn hA hS hlow hup hnx hL hR hK1 hr (oE_mk (t := tys.length) (by simp)) hP1 hD1 hS1 (fun hq k1 k2 k3 k4 => ?_))
  subst hq
  exact kk H1 k1 k2 k3 k4
end OROWS
