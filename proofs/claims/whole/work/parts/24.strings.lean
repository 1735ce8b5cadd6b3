/-! String constants of the reference: which objects they are; ldc_w of one; starts that have them -/
section ZLW
variable {p : Program} {l : Launch} {e : Env} {R : Room} {s : State} {m : MethodId} {args : Array Value} {below : List Frame} {meth : Method} {c : Code} {H : Heap} {locs : List Loc} {cells slots : Nat} {Q : State → Prop}
variable {cc : ByteArray} {pc : Nat} {ls : Array Slot} {rest : List Value}
theorem z_ldcw {T : State} (X : Stand p l e R s m args below meth c T locs cells slots) (hexec : p.tables.exec = Jvm.exec) {own text : String} {index : Nat} {a : Addr} (hown : s.vm.findClass own = some m.cls)
    (hconst : (Cond.stringRef own index text).before args s = true) (hev : (Term.string own index).eval args s none [] s = some (.ref a)) {g : JFrame} (hg : g.method = m) (hdg : decode c.code g.pc = .ok (.ldc_w index, 3)) :
    ∀ target, Steps p.tables e below (T.setTop { g with pc := g.pc + 3, stack := .ref a :: g.stack }) target → Steps p.tables e below (T.setTop g) target := by
  obtain ⟨k, cf, i, a', hk, hcf, hcp, -, hr, hev'⟩ := Cond.stringRef_spec hown hconst
  cases hev.symm.trans hev'
  obtain ⟨k', hk', he⟩ := X.warmed.alike.2.2 _ _ hk
  have hr' : k'.resolved[index]? = some (some (.string a)) := by
    rcases X.warmed.entry hk hk' index with h | ⟨h, -⟩
    · rw [h]; exact hr
    · rw [hr] at h; cases h
  intro target hrest
  subst hg
  jvm_step X.here [hexec, hdg, ldc_w.wp_string (e := e) (s := T) (f := g) X.here.top hk' (by rw [he]; exact hcf) hcp hr']
  exact hrest
/-- ldc_w of a String constant that is there already -/
theorem za_ldcwS (hexec : p.tables.exec = Jvm.exec) (hb : c.code = cc) {own tx : String} {index q : Nat} (hown : s.vm.findClass own = some m.cls) (hZ : vk_R own index tx q s) (hdg : decode cc pc = .ok (.ldc_w index, 3))
    (k : W p l e R s m args below meth c H locs cells slots Q (F0 m (pc + 3) ls (.ref q :: rest))) : W p l e R s m args below meth c H locs cells slots Q (F0 m pc ls rest) := by
  intro T hT X
  obtain ⟨t, a1, b1⟩ := k T hT X
  exact ⟨t, z_ldcw X hexec hown (text := tx) (a := q) hZ.1 hZ.2 (g := F0 m pc ls rest) rfl (by rw [hb]; exact hdg) t a1, b1⟩
end ZLW
/-- the reference's String constants that its reader asks for: entry and text -/
def zKl : List (Nat × String) := [(487, "qual"), (489, "array"), (491, "list"), (493, "int"), (495, ":"), (501, "v"), (457, "="), (459, "<"), (461, "<="), (463, ">"), (465, ">="), (467, "#"), (506, "-"), (508, "*"), (510, "+"), (515, ";"), (517, "input"), (522, "bool"), (530, "let"), (532, "rec"), (541, "in"), (543, "fun"), (545, "->"), (547, "if"), (622, "not"), (582, "("), (584, ")"), (578, "true"), (580, "false"), (609, "len"), (611, "size"), (620, "&&"), (615, "||"), (552, "then"), (554, "else"), (556, "assert"), (558, "set"), (560, "["), (565, "]"), (567, "new"), (569, "nil"), (571, "cons"), (573, "match"), (589, "with"), (598, "/"), (600, "%"), (1011, "size "), (1013, "len ")]
def zK (ks : Nat → Nat) (U : State) : Prop := ∀ q ∈ zKl, vk_R RX13 q.1 q.2 (ks q.1) U
theorem zK.warm {ks : Nat → Nat} {s U : State} (hW : s.WarmedH U.vm) (h : zK ks s) : zK ks U := fun q hq => vk_R.warm hW (h q hq)
theorem zK.same {ks : Nat → Nat} {u U : State} (e : U.vm = u.vm) (h : zK ks u) : zK ks U := fun q hq => vk_R.same e (h q hq)
/-- a contract's start, with the String constants -/
def zPk (dC : Nat → ClassId) (dI : Nat → Nat → Nat) (ks : Nat → Nat) (sz : Nat) (av : List Value) (ws : va_W) (tys : List (ClassId × FieldType)) : Array Value → State → Prop := va_Pc av (fun U => U.heap.size = sz ∧ va_P (dC, dI) vwCl ws U.heap ∧ va_K (dC, dI) vwCl tys U ∧ va_D (fun _ => True) ws ∧ zK ks U)
theorem zPk_blind {dC : Nat → ClassId} {dI : Nat → Nat → Nat} {ks : Nat → Nat} {sz : Nat} {av : List Value} {ws : va_W} {tys : List (ClassId × FieldType)} : FrameBlind (zPk dC dI ks sz av ws tys) := fun a U g mk q => by
  obtain ⟨q0, q1, qP, qK, qD, qE⟩ := q
  exact ⟨q0, q1, qP, va_K.moved (u := U) (U := U.calling g mk a) (Vm.Alike.refl U.vm) qK, qD, qE.same (U := U.calling g mk a) rfl⟩
theorem zPk_at {dC : Nat → ClassId} {dI : Nat → Nat → Nat} {ks : Nat → Nat} {av : List Value} {ws : va_W} {tys : List (ClassId × FieldType)} {A : Nat → Prop} {s U : State} {H : Heap} (hP : va_P (dC, dI) vwCl ws H) (hK : va_K (dC, dI) vwCl tys s) (hD : va_D A ws) (hE : zK ks s) (hU : U.heap = H) (hW : s.WarmedH U.vm) : zPk dC dI ks H.size av ws tys av.toArray U := ⟨rfl, by rw [hU], by rw [hU]; exact hP, va_K.moved hW.alike hK, hD.weaken (fun _ _ _ _ => trivial), hE.warm hW⟩
