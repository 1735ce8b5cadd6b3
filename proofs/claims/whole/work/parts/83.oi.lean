/-! the machine keeps the rules of the class's plain logic (what stands in 82) -/
def wOf : List Cond := oft.map (fun q => .fieldLink q.1 q.2.1 ((oq q.2.2.1).2.1 q.2.2.2).1 ((oq q.2.2.1).2.1 q.2.2.2).2.1 ((oq q.2.2.1).2.1 q.2.2.2).2.2.1)
def wOu : List Cond := (List.range 15).flatMap (fun ci => u_ws (oq ci).1 (oq ci).2.1 (oq ci).2.2)
def ocode (en : oMt) : Cond := .code en.1 en.2.1 en.2.2.1 en.2.2.2.2.2.1
def oyo (j : Nat) : MethodName := match omt[j]? with
  | some en => en.1
  | none => yX12_fault
def wOk : List Cond := oci.map (fun q => .constant q.1 q.2.1 q.2.2) ++ (ocl.map (fun q => .constantLong q.1 q.2.1 q.2.2) ++ (onl.map (fun q => .classLink q.1 q.2.1 (oq q.2.2).1) ++ (onl.map (fun q => .instantiable (oq q.2.2).1 (oq q.2.2).2.2) ++ (onl.map (fun q => .initialized (oq q.2.2).1) ++ oal.map (fun q => .classLink q.1 q.2.1 (oq q.2.2).1)))))
def wOm : List Cond := olt.map (fun q => .methodLink q.1 q.2.1 (oyo q.2.2)) ++ (omt.map ocode ++ (omt.map (fun en => if en.2.2.2.2.1 = 1 then .static en.1 else .instanceMethod en.1) ++ ((omt.filter (fun en => en.2.2.2.2.1 == 0)).map (fun en => .selects en.2.2.2.2.2.2 en.1 en.1) ++ omt.map (fun en => .initialized en.2.2.2.2.2.2))))
def wOa : List Cond := [.arrayClass .int, .arrayClass .boolean, .arrayClass .byte, .arrayClass .char, .arrayClass .long]
def wOx : List Cond := wOf ++ (wOu ++ (wOk ++ wOm))
def ows (en : oMt) : List Cond := ocode en :: (wOx ++ wOa)
theorem wOx_good : wOx.all (fun w => w.onTables && w.keeps) = true := by decide +kernel
theorem omt_ok : ∀ en ∈ omt, en.1.cls = en.2.2.2.2.2.2 ∧ (parseMethodDescriptor en.1.desc).map (fun d => d.parameters.length) = some en.2.2.2.1 ∧ en.2.2.1 ≤ 13 ∧ plainName en.1.cls = true ∧ en.1.cls ≠ "java/lang/invoke/MethodHandle" ∧ en.1.cls ≠ "java/lang/invoke/VarHandle" := by decide +kernel
theorem onl_ok : ∀ q ∈ onl, q.2.2 < 15 := by decide +kernel
theorem oal_ok : ∀ q ∈ oal, q.2.2 < 15 := by decide +kernel
theorem wOx_k {w : Cond} (h : w ∈ wOk) : w ∈ wOx := List.mem_append_right _ (List.mem_append_right _ (List.mem_append_left _ h))
theorem wOx_m {w : Cond} (h : w ∈ wOm) : w ∈ wOx := List.mem_append_right _ (List.mem_append_right _ (List.mem_append_right _ h))
theorem wOm_link {own : String} {ix j : Nat} {en : oMt} (h : (own, ix, j) ∈ olt) (he : omt[j]? = some en) : (Cond.methodLink own ix en.1) ∈ wOx := wOx_m (List.mem_append_left _ (List.mem_map.mpr ⟨(own, ix, j), h, by simp [oyo, he]⟩))
theorem wOm_code {j : Nat} {en : oMt} (he : omt[j]? = some en) : ocode en ∈ wOx := wOx_m (List.mem_append_right _ (List.mem_append_left _ (List.mem_map.mpr ⟨en, List.mem_of_getElem? he, rfl⟩)))
theorem wOm_inst {j : Nat} {en : oMt} (he : omt[j]? = some en) (hs : ¬ en.2.2.2.2.1 = 1) : (Cond.instanceMethod en.1) ∈ wOx := wOx_m (List.mem_append_right _ (List.mem_append_right _ (List.mem_append_left _ (List.mem_map.mpr ⟨en, List.mem_of_getElem? he, by simp [hs]⟩))))
theorem wOm_stat {j : Nat} {en : oMt} (he : omt[j]? = some en) (hs : en.2.2.2.2.1 = 1) : (Cond.static en.1) ∈ wOx := wOx_m (List.mem_append_right _ (List.mem_append_right _ (List.mem_append_left _ (List.mem_map.mpr ⟨en, List.mem_of_getElem? he, by simp [hs]⟩))))
theorem wOm_sel {j : Nat} {en : oMt} (he : omt[j]? = some en) (hs : en.2.2.2.2.1 = 0) : (Cond.selects en.2.2.2.2.2.2 en.1 en.1) ∈ wOx := wOx_m (List.mem_append_right _ (List.mem_append_right _ (List.mem_append_right _ (List.mem_append_left _ (List.mem_map.mpr ⟨en, List.mem_filter.mpr ⟨List.mem_of_getElem? he, by simp [hs]⟩, rfl⟩)))))
theorem wOm_ini {j : Nat} {en : oMt} (he : omt[j]? = some en) : (Cond.initialized en.2.2.2.2.2.2) ∈ wOx := wOx_m (List.mem_append_right _ (List.mem_append_right _ (List.mem_append_right _ (List.mem_append_right _ (List.mem_map.mpr ⟨en, List.mem_of_getElem? he, rfl⟩)))))
theorem oarr_good : ∀ w ∈ wOa, (w.onTables && w.keeps) = true ∨ ∃ ty, w = .arrayClass ty := fun w h => by
  simp only [wOa, List.mem_cons, List.not_mem_nil, or_false] at h
  rcases h with h | h | h | h | h <;> exact Or.inr ⟨_, h⟩
theorem ogood_of {e0 : oMt} {ws : List Cond} (h : ∀ w ∈ ws, w ∈ wOx ∨ w ∈ wOa) : GoodIn (ows e0) ws := fun w hw => by
  rcases h w hw with h1 | h1
  · exact ⟨List.mem_cons_of_mem _ (List.mem_append_left _ h1), Or.inl (List.all_eq_true.mp wOx_good w h1)⟩
  · exact ⟨List.mem_cons_of_mem _ (List.mem_append_right _ h1), oarr_good w h1⟩
theorem ows_in {j : Nat} {en : oMt} (he : omt[j]? = some en) : ∀ w ∈ ows en, w ∈ wOx ∨ w ∈ wOa := fun w h => by
  rcases List.mem_cons.mp h with h | h
  · rw [h]; exact Or.inl (wOm_code he)
  · exact List.mem_append.mp h
theorem ogoodV {e0 en : oMt} {own : String} {ix j : Nat} (h : (own, ix, j) ∈ olt) (he : omt[j]? = some en) (hs : en.2.2.2.2.1 = 0) : GoodIn (ows e0) (wsV own ix en.2.2.2.2.2.2 en.1 (ows en)) := ogood_of (fun w hw => by
  rcases List.mem_append.mp hw with h1 | h1
  · simp only [List.mem_cons, List.not_mem_nil, or_false] at h1
    rcases h1 with h1 | h1 | h1 | h1
    · rw [h1]; exact Or.inl (wOm_link h he)
    · rw [h1]; exact Or.inl (wOm_inst he (by rw [hs]; decide))
    · rw [h1]; exact Or.inl (wOm_sel he hs)
    · rw [h1]; exact Or.inl (wOm_ini he)
  · exact ows_in he w h1)
theorem ogoodS {e0 en : oMt} {own : String} {ix j : Nat} (h : (own, ix, j) ∈ olt) (he : omt[j]? = some en) (hs : en.2.2.2.2.1 = 1) : GoodIn (ows e0) (va_wsS own ix en.1 (ows en)) := ogood_of (fun w hw => by
  rcases List.mem_append.mp hw with h1 | h1
  · simp only [List.mem_cons, List.not_mem_nil, or_false] at h1
    rcases h1 with h1 | h1 | h1
    · rw [h1]; exact Or.inl (wOm_link h he)
    · rw [h1]; exact Or.inl (wOm_stat he hs)
    · rw [h1, (omt_ok en (List.mem_of_getElem? he)).1]; exact Or.inl (wOm_ini he)
  · exact ows_in he w h1)
theorem oft_ok : ∀ q ∈ oft, q.2.2.1 < 15 ∧ q.2.2.2 < (oq q.2.2.1).2.2 := by decide +kernel
theorem oq_ty : ∀ ci, ci < 15 → ∀ k, k < (oq ci).2.2 → (parseFieldDescriptor ((oq ci).2.1 k).2.2.1).isSome = true := by decide +kernel
theorem oq_nm : ∀ ci, ci < 15 → ∀ a, a < (oq ci).2.2 → ∀ b, b < (oq ci).2.2 → a ≠ b → ((oq ci).2.1 a).2.1 ≠ ((oq ci).2.1 b).2.1 := by decide +kernel
theorem oq_at {ci : Nat} (h : ci < 15) : vwCl[ci]? = some (oq ci) := by
  have hl : ci < vwCl.length := Nat.lt_trans h (by decide)
  unfold oq
  rw [List.getD_eq_getElem?_getD, List.getElem?_eq_getElem hl]
  rfl
theorem oty_ok {ci : Nat} (h : ci < 15) : ∀ k, k < (oq ci).2.2 → parseFieldDescriptor ((oq ci).2.1 k).2.2.1 = some (oty ci k) := fun k hk => by
  have h1 := oq_ty ci h k hk
  unfold oty
  cases h2 : parseFieldDescriptor ((oq ci).2.1 k).2.2.1 with
  | none => rw [h2] at h1; cases h1
  | some x => rfl
def oQ (ret : Option FieldType) (w0 : Option Value × oSt) (B : oSt → State → Prop) (A : Nat → Prop) : Array Value → State → Outcome → State → Prop := if okd ret = 0 then va_Qv (fun u => (none, u) = w0) B A else if okd ret = 1 then va_Ql (fun r u => (some (.long r), u) = w0) B A else if okd ret = 2 then va_Qi (fun r u => (some (.int r), u) = w0) B A else va_Qq (fun r u => (some (va_rf r), u) = w0) B A
theorem oQ_v {ret : Option FieldType} {w0 : Option Value × oSt} {B : oSt → State → Prop} {A : Nat → Prop} (h : okd ret = 0) : oQ ret w0 B A = va_Qv (fun u => (none, u) = w0) B A := if_pos h
theorem oQ_l {ret : Option FieldType} {w0 : Option Value × oSt} {B : oSt → State → Prop} {A : Nat → Prop} (h : okd ret = 1) : oQ ret w0 B A = va_Ql (fun r u => (some (.long r), u) = w0) B A := by unfold oQ; rw [if_neg (by rw [h]; decide), if_pos h]
theorem oQ_i {ret : Option FieldType} {w0 : Option Value × oSt} {B : oSt → State → Prop} {A : Nat → Prop} (h : okd ret = 2) : oQ ret w0 B A = va_Qi (fun r u => (some (.int r), u) = w0) B A := by unfold oQ; rw [if_neg (by rw [h]; decide), if_neg (by rw [h]; decide), if_pos h]
theorem oQ_q {ret : Option FieldType} {w0 : Option Value × oSt} {B : oSt → State → Prop} {A : Nat → Prop} (h : okd ret = 3) : oQ ret w0 B A = va_Qq (fun r u => (some (va_rf r), u) = w0) B A := by unfold oQ; rw [if_neg (by rw [h]; decide), if_neg (by rw [h]; decide), if_neg (by rw [h]; decide)]
/-- the world behind a method of the class that began at σ -/
def oBw (dC : Nat → ClassId) (dI : Nat → Nat → Nat) (σ u : oSt) (t : State) : Prop := oR dC dI (oA σ) t u t.heap ∧ (∀ a, (σ.1 a).isSome = true → (u.1 a).isSome = true) ∧ (∀ a, σ.2.1 ≤ a → a < u.2.1 → (u.1 a).isSome = true) ∧ σ.2.2.1 ≤ u.2.2.1 ∧ σ.2.2.2 ≤ u.2.2.2 ∧ u.2.1 = σ.2.1 + (u.2.2.1 - σ.2.2.1) ∧ u.2.1 ≤ t.heap.size
/-- what holds of state and heap all through a body -/
def oInv (dC : Nat → ClassId) (dI : Nat → Nat → Nat) (s : State) (σ0 σ : oSt) (H : Heap) (locs : List Loc) : Prop := oR dC dI (oA σ0) s σ H ∧ va_S (oA σ0) s.heap H locs ∧ oLc σ H locs ∧ oSz s σ0 σ H ∧ (∀ a, (σ0.1 a).isSome = true → (σ.1 a).isSome = true) ∧ (∀ a, σ0.2.1 ≤ a → a < σ.2.1 → (σ.1 a).isSome = true)
/-- room: d calls may stand within -/
def orm (d mc ms : Nat) : Room := { frames := d + 8, cells := mc, slots := ms, locals := 40 * d + 320 }
def oPr (dC : Nat → ClassId) (dI : Nat → Nat → Nat) (En : State → Prop) (sz0 : Nat) (av : List Value) (σ : oSt) : Array Value → State → Prop := va_Pc av (fun U => σ.2.1 = U.heap.size ∧ oR dC dI (oA σ) U σ U.heap ∧ (∀ q, oA σ q → sz0 ≤ q) ∧ En U)
/-- the contract of a method of the class with the outcome w -/
def oMe (l : Launch) (dC : Nat → ClassId) (dI : Nat → Nat → Nat) (En : State → Prop) (sz0 d : Nat) (en : oMt) (av : List Value) (σ : oSt) (w : Option Value × oSt) : Prop := Met l en.1 (ows en) (orm d (w.2.2.2.1 - σ.2.2.1) (w.2.2.2.2 - σ.2.2.2)) (oPr dC dI En sz0 av σ) (oQ en.2.2.2.2.2.1 w (oBw dC dI σ) (oA σ)) (w.2.2.2.1 - σ.2.2.1) (w.2.2.2.2 - σ.2.2.2) (oA σ)
theorem orf_inj {x y : Option Nat} (h : va_rf x = va_rf y) : x = y := by
  rcases x with _ | a <;> rcases y with _ | b
  · rfl
  · cases h
  · cases h
  · cases h; rfl
section OXI
variable {p : Program} {l : Launch} {e : Env} {R : Room} {s : State} {m : MethodId} {args : Array Value} {below : List Frame} {meth : Method} {c : Code}
variable {own : String} {cc : ByteArray} {nL : Nat} {ret : Option FieldType} {dC : Nat → ClassId} {dI : Nat → Nat → Nat} {σ0 : oSt} {w0 : Option Value × oSt} {Ts : List Cond} {kc : Nat → List Value → oSt → Option Value × oSt → Prop}
variable {En : State → Prop} {d0 sz0 : Nat} {e0 : oMt}
/-- what holds all through a body of the class -/
def oCx (p : Program) (l : Launch) (R : Room) (s : State) (m : MethodId) (args : Array Value) (meth : Method) (c : Code) (own : String) (cc : ByteArray) (nL d0 : Nat) (ret : Option FieldType) (dC : Nat → ClassId) (dI : Nat → Nat → Nat) (En : State → Prop) (sz0 : Nat) (σ0 : oSt) (w0 : Option Value × oSt) (e0 : oMt) (kc : Nat → List Value → oSt → Option Value × oSt → Prop) : Prop :=
  CallFix p m c cc nL s args (ows e0) own ∧ meth.sig.returnType = ret ∧ meth.locks = false ∧ (d0 + 8 ≤ R.frames ∧ 40 * d0 + 320 ≤ R.locals ∧ w0.2.2.2.1 - σ0.2.2.1 ≤ R.cells ∧ w0.2.2.2.2 - σ0.2.2.2 ≤ R.slots) ∧ (∀ q ∈ oal, va_AO (oq q.2.2).1 s) ∧ ((∀ (U : State) (g : JFrame) (mk : MethodId) (a : Array Value), En U → En (U.calling g mk a)) ∧ (∀ (U : State) (H : Heap) (locs : List Loc), va_S (oA σ0) s.heap H locs → U.heap = H → s.WarmedH U.vm → En U) ∧ ∀ q, oA σ0 q → sz0 ≤ q) ∧ ∀ (j : Nat) (av : List Value) (σ : oSt) (w : Option Value × oSt), kc j av σ w → ∃ d, d + 1 ≤ d0 ∧ ∀ en, omt[j]? = some en → oMe l dC dI En sz0 d en av σ w
/-- the machine at a place of a body of the class -/
def oX (p : Program) (l : Launch) (e : Env) (R : Room) (s : State) (m : MethodId) (args : Array Value) (below : List Frame) (meth : Method) (c : Code) (nL : Nat) (ret : Option FieldType) (dC : Nat → ClassId) (dI : Nat → Nat → Nat) (σ0 : oSt) (w0 : Option Value × oSt) (pc : Nat) (lv : zLv) (st : List Value) (σ : oSt) : Prop :=
  ∀ (ls : Array Slot) (H : Heap) (locs : List Loc), zhas ls nL lv → oInv dC dI s σ0 σ H locs → W p l e R s m args below meth c H locs (σ.2.2.1 - σ0.2.2.1) (σ.2.2.2 - σ0.2.2.2) (MQ below (oQ ret w0 (oBw dC dI σ0) (oA σ0)) args s (w0.2.2.2.1 - σ0.2.2.1) (w0.2.2.2.2 - σ0.2.2.2) (oA σ0)) (F0 m pc ls st)
theorem oSz.low {s : State} {σ0 σ : oSt} {H : Heap} (h : oSz s σ0 σ H) : s.heap.size + (σ.2.2.1 - σ0.2.2.1) ≤ H.size := by
  have h1 := h.2.2.2.1
  have h2 := h.2.2.2.2
  omega
theorem oSz.put {s : State} {σ0 σ : oSt} {H H1 : Heap} {a : Nat} {x : oC} (h : oSz s σ0 σ H) (hz : H1.size = H.size) : oSz s σ0 (oput σ a x) H1 := ⟨h.1, h.2.1, h.2.2.1, h.2.2.2.1, by rw [hz]; exact h.2.2.2.2⟩
theorem oInv.put {H H1 : Heap} {locs locs1 : List Loc} {σ : oSt} {a : Nat} {x : oC} (h : oInv dC dI s σ0 σ H locs) (hR1 : oR dC dI (oA σ0) s (oput σ a x) H1) (hS1 : va_S (oA σ0) s.heap H1 locs1) (hL1 : oLc (oput σ a x) H1 locs1) (hz : H1.size = H.size) : oInv dC dI s σ0 (oput σ a x) H1 locs1 := by
  have hd : ∀ b, (σ.1 b).isSome = true → ((oput σ a x).1 b).isSome = true := fun b hb => by
    by_cases e : b = a
    · simp [oput, e]
    · simpa [oput, e] using hb
  exact ⟨hR1, hS1, hL1, h.2.2.2.1.put hz, fun b hb => hd b (h.2.2.2.2.1 b hb), fun b h1 h2 => hd b (h.2.2.2.2.2 b h1 h2)⟩
theorem oInv.made {H H1 : Heap} {locs : List Loc} {σ : oSt} {n : Nat} {x : oC} (h : oInv dC dI s σ0 σ H locs) (hR1 : oR dC dI (oA σ0) s (onew σ x n) H1) (hS1 : va_S (oA σ0) s.heap H1 locs) (hL1 : oLc (onew σ x n) H1 locs) (hz : H1.size = H.size + 1) : oInv dC dI s σ0 (onew σ x n) H1 locs := by
  have hd : ∀ b, (σ.1 b).isSome = true → ((onew σ x n).1 b).isSome = true := fun b hb => by
    by_cases e : b = σ.2.1
    · simp [onew, e]
    · simpa [onew, e] using hb
  obtain ⟨z1, z2, z3, z4, z5⟩ := h.2.2.2.1
  refine ⟨hR1, hS1, hL1, ⟨z1, Nat.le_succ_of_le z2, Nat.le_trans z3 (Nat.le_add_right _ _), ?_, ?_⟩, fun b hb => hd b (h.2.2.2.2.1 b hb), fun b h1 h2 => ?_⟩
  · show σ.2.1 + 1 = s.heap.size + (σ.2.2.1 + 1 - σ0.2.2.1)
    omega
  · show σ.2.1 + 1 ≤ H1.size
    omega
  · by_cases e : b = σ.2.1
    · simp [onew, e]
    · have h3 : b < σ.2.1 + 1 := h2
      exact hd b (h.2.2.2.2.2 b h1 (by omega))
theorem oInv.size {H : Heap} {locs : List Loc} {σ : oSt} (h : oInv dC dI s σ0 σ H locs) (hup : H.size ≤ s.heap.size + (σ.2.2.1 - σ0.2.2.1)) : σ.2.1 = H.size := by
  obtain ⟨z1, z2, z3, z4, z5⟩ := h.2.2.2.1
  omega
theorem oPr_blind {av : List Value} {σ : oSt} (hb : ∀ (U : State) (g : JFrame) (mk : MethodId) (a : Array Value), En U → En (U.calling g mk a)) : FrameBlind (oPr dC dI En sz0 av σ) := fun a U g mk q => by
  obtain ⟨q0, q1, qR, qz, qE⟩ := q
  exact ⟨q0, q1, qR.moved (U := U.calling g mk a) (Vm.Alike.refl U.vm), qz, hb U g mk a qE⟩
theorem oInv.sub {H : Heap} {locs : List Loc} {σ : oSt} (h : oInv dC dI s σ0 σ H locs) (hnx : σ.2.1 = H.size) : ∀ q, oA σ q → oA σ0 q := fun q hq => by
  rcases hq with hq | hq
  · obtain ⟨d, hd⟩ := Option.isSome_iff_exists.mp hq
    exact h.1.in hd
  · refine Or.inr ?_
    rw [h.2.2.2.1.1]
    exact Nat.le_trans h.2.1.1 (by rw [← hnx]; exact hq)
/-- behind a call -/
theorem oInv.call {H H1 : Heap} {locs locs1 : List Loc} {σ u : oSt} {t : State} (h : oInv dC dI s σ0 σ H locs) (hnx : σ.2.1 = H.size) (ht : t.heap = H1) (hvm : s.vm.Alike t.vm) (hB : oBw dC dI σ u t) (hS1 : va_S (oA σ0) s.heap H1 locs1) (hL : ∀ x ∈ locs1, x ∈ locs ∨ oA σ x.base) (hup : H1.size ≤ s.heap.size + (u.2.2.1 - σ0.2.2.1)) : oInv dC dI s σ0 u H1 locs1 := by
  obtain ⟨b1, b2, b3, b4, b5, b6, b7⟩ := hB
  rw [ht] at b1 b7
  obtain ⟨z1, z2, z3, z4, z5⟩ := h.2.2.2.1
  have hdm : ∀ a c, u.1 a = some c → oA σ0 a := fun a c e => h.sub hnx a (b1.in e)
  have hfull : ∀ a, σ.2.1 ≤ a → (u.1 a).isSome = true ∨ H1.size ≤ a := fun a h1 => by
    by_cases h2 : a < u.2.1
    · exact Or.inl (b3 a h1 h2)
    · exact Or.inr (by omega)
  refine ⟨(b1.moved hvm.symm).weaken hdm, hS1, fun x hx => ?_, ⟨z1, Nat.le_trans z2 b4, Nat.le_trans z3 b5, by omega, b7⟩, fun a ha => b2 a (h.2.2.2.2.1 a ha), fun a h1 h2 => ?_⟩
  · rcases hL x hx with hl | hl
    · rcases h.2.2.1 x hl with h3 | h3
      · exact Or.inl (b2 _ h3)
      · exact hfull _ (by rw [hnx]; exact h3)
    · rcases hl with h3 | h3
      · exact Or.inl (b2 _ h3)
      · exact hfull _ h3
  · by_cases h3 : a < σ.2.1
    · exact b2 a (h.2.2.2.2.2 a h1 h3)
    · exact b3 a (by omega) h2
theorem oi_iconst (C : oCx p l R s m args meth c own cc nL d0 ret dC dI En sz0 σ0 w0 e0 kc) : or_iconst own cc nL ret kc w0 (oX p l e R s m args below meth c nL ret dC dI σ0 w0) := fun pc lv st σ n v d hv k ls H locs hl hI => lv_iconst C.1.1 C.1.2.1 d hv (k ls H locs hl hI)
theorem oi_bipush (C : oCx p l R s m args meth c own cc nL d0 ret dC dI En sz0 σ0 w0 e0 kc) : or_bipush own cc nL ret kc w0 (oX p l e R s m args below meth c nL ret dC dI σ0 w0) := fun pc lv st σ n v d hv k ls H locs hl hI => lv_bipush C.1.1 C.1.2.1 d hv (k ls H locs hl hI)
theorem oi_sipush (C : oCx p l R s m args meth c own cc nL d0 ret dC dI En sz0 σ0 w0 e0 kc) : or_sipush own cc nL ret kc w0 (oX p l e R s m args below meth c nL ret dC dI σ0 w0) := fun pc lv st σ n v d hv k ls H locs hl hI => lv_sipush C.1.1 C.1.2.1 d hv (k ls H locs hl hI)
theorem oi_lconst (C : oCx p l R s m args meth c own cc nL d0 ret dC dI En sz0 σ0 w0 e0 kc) : or_lconst own cc nL ret kc w0 (oX p l e R s m args below meth c nL ret dC dI σ0 w0) := fun pc lv st σ n v d hv k ls H locs hl hI => lv_lconst C.1.1 C.1.2.1 d hv (k ls H locs hl hI)
theorem oi_iload (C : oCx p l R s m args meth c own cc nL d0 ret dC dI En sz0 σ0 w0 e0 kc) : or_iload own cc nL ret kc w0 (oX p l e R s m args below meth c nL ret dC dI σ0 w0) := fun pc lv st σ i x d h1 k ls H locs hl hI => lv_iload C.1.1 C.1.2.1 d (hl.2.2 i _ h1) (k ls H locs hl hI)
theorem oi_iload_n (C : oCx p l R s m args meth c own cc nL d0 ret dC dI En sz0 σ0 w0 e0 kc) : or_iload_n own cc nL ret kc w0 (oX p l e R s m args below meth c nL ret dC dI σ0 w0) := fun pc lv st σ n i x d hi h1 k ls H locs hl hI => lv_iload_n C.1.1 C.1.2.1 d hi (hl.2.2 i _ h1) (k ls H locs hl hI)
theorem oi_lload (C : oCx p l R s m args meth c own cc nL d0 ret dC dI En sz0 σ0 w0 e0 kc) : or_lload own cc nL ret kc w0 (oX p l e R s m args below meth c nL ret dC dI σ0 w0) := fun pc lv st σ i x d h1 k ls H locs hl hI => lv_lload C.1.1 C.1.2.1 d (hl.2.2 i _ h1) (k ls H locs hl hI)
theorem oi_lload_n (C : oCx p l R s m args meth c own cc nL d0 ret dC dI En sz0 σ0 w0 e0 kc) : or_lload_n own cc nL ret kc w0 (oX p l e R s m args below meth c nL ret dC dI σ0 w0) := fun pc lv st σ n i x d hi h1 k ls H locs hl hI => lv_lload_n C.1.1 C.1.2.1 d hi (hl.2.2 i _ h1) (k ls H locs hl hI)
theorem oi_istore (C : oCx p l R s m args meth c own cc nL d0 ret dC dI En sz0 σ0 w0 e0 kc) : or_istore own cc nL ret kc w0 (oX p l e R s m args below meth c nL ret dC dI σ0 w0) := fun pc lv st σ i x d hn ho k ls H locs hl hI => lv_istore C.1.1 C.1.2.1 d hl.to hn rfl (fun ls1 h1 => k ls1 H locs (zhas.st1 ho h1) hI)
theorem oi_istore_n (C : oCx p l R s m args meth c own cc nL d0 ret dC dI En sz0 σ0 w0 e0 kc) : or_istore_n own cc nL ret kc w0 (oX p l e R s m args below meth c nL ret dC dI σ0 w0) := fun pc lv st σ n i x d hi hn ho k ls H locs hl hI => lv_istore_n C.1.1 C.1.2.1 d hi hl.to hn rfl (fun ls1 h1 => k ls1 H locs (zhas.st1 ho h1) hI)
theorem oi_lstore (C : oCx p l R s m args meth c own cc nL d0 ret dC dI En sz0 σ0 w0 e0 kc) : or_lstore own cc nL ret kc w0 (oX p l e R s m args below meth c nL ret dC dI σ0 w0) := fun pc lv st σ i x d hn ho k ls H locs hl hI => lv_lstore C.1.1 C.1.2.1 d hl.to hn rfl (fun ls1 h1 => k ls1 H locs (zhas.st2 ho h1) hI)
theorem oi_lstore_n (C : oCx p l R s m args meth c own cc nL d0 ret dC dI En sz0 σ0 w0 e0 kc) : or_lstore_n own cc nL ret kc w0 (oX p l e R s m args below meth c nL ret dC dI σ0 w0) := fun pc lv st σ n i x d hi hn ho k ls H locs hl hI => lv_lstore_n C.1.1 C.1.2.1 d hi hl.to hn rfl (fun ls1 h1 => k ls1 H locs (zhas.st2 ho h1) hI)
theorem oi_iinc (C : oCx p l R s m args meth c own cc nL d0 ret dC dI En sz0 σ0 w0 e0 kc) : or_iinc own cc nL ret kc w0 (oX p l e R s m args below meth c nL ret dC dI σ0 w0) := fun pc lv st σ i n x v d h1 hv hn ho k ls H locs hl hI => by
  obtain ⟨n9, h9⟩ := List.getElem?_of_mem (zlist_mem.mpr h1)
  exact lv_iinc C.1.1 C.1.2.1 d hl.to h9 hv hn rfl (fun ls1 h2 => k ls1 H locs (zhas.st1 ho h2) hI)
theorem oi_weak (C : oCx p l R s m args meth c own cc nL d0 ret dC dI En sz0 σ0 w0 e0 kc) : or_weak own cc nL ret kc w0 (oX p l e R s m args below meth c nL ret dC dI σ0 w0) := fun pc lv st σ lw hw k ls H locs hl hI => k ls H locs ⟨hl.1, hl.2.1, fun i v h => hl.2.2 i v (zle_at _ _ hw i v h)⟩ hI
theorem oi_iadd (C : oCx p l R s m args meth c own cc nL d0 ret dC dI En sz0 σ0 w0 e0 kc) : or_iadd own cc nL ret kc w0 (oX p l e R s m args below meth c nL ret dC dI σ0 w0) := fun pc lv st σ x y d k ls H locs hl hI => lv_iadd C.1.1 C.1.2.1 d (k ls H locs hl hI)
theorem oi_isub (C : oCx p l R s m args meth c own cc nL d0 ret dC dI En sz0 σ0 w0 e0 kc) : or_isub own cc nL ret kc w0 (oX p l e R s m args below meth c nL ret dC dI σ0 w0) := fun pc lv st σ x y d k ls H locs hl hI => lv_isub C.1.1 C.1.2.1 d (k ls H locs hl hI)
theorem oi_imul (C : oCx p l R s m args meth c own cc nL d0 ret dC dI En sz0 σ0 w0 e0 kc) : or_imul own cc nL ret kc w0 (oX p l e R s m args below meth c nL ret dC dI σ0 w0) := fun pc lv st σ x y d k ls H locs hl hI => lv_imul C.1.1 C.1.2.1 d (k ls H locs hl hI)
theorem oi_ishr (C : oCx p l R s m args meth c own cc nL d0 ret dC dI En sz0 σ0 w0 e0 kc) : or_ishr own cc nL ret kc w0 (oX p l e R s m args below meth c nL ret dC dI σ0 w0) := fun pc lv st σ x y d k ls H locs hl hI => lv_ishr C.1.1 C.1.2.1 d (k ls H locs hl hI)
theorem oi_iand (C : oCx p l R s m args meth c own cc nL d0 ret dC dI En sz0 σ0 w0 e0 kc) : or_iand own cc nL ret kc w0 (oX p l e R s m args below meth c nL ret dC dI σ0 w0) := fun pc lv st σ x y d k ls H locs hl hI => lv_iand C.1.1 C.1.2.1 d (k ls H locs hl hI)
theorem oi_ixor (C : oCx p l R s m args meth c own cc nL d0 ret dC dI En sz0 σ0 w0 e0 kc) : or_ixor own cc nL ret kc w0 (oX p l e R s m args below meth c nL ret dC dI σ0 w0) := fun pc lv st σ x y d k ls H locs hl hI => lv_ixor C.1.1 C.1.2.1 d (k ls H locs hl hI)
theorem oi_irem (C : oCx p l R s m args meth c own cc nL d0 ret dC dI En sz0 σ0 w0 e0 kc) : or_irem own cc nL ret kc w0 (oX p l e R s m args below meth c nL ret dC dI σ0 w0) := fun pc lv st σ x y d hne k ls H locs hl hI => lv_irem C.1.1 C.1.2.1 d hne (k ls H locs hl hI)
theorem oi_ineg (C : oCx p l R s m args meth c own cc nL d0 ret dC dI En sz0 σ0 w0 e0 kc) : or_ineg own cc nL ret kc w0 (oX p l e R s m args below meth c nL ret dC dI σ0 w0) := fun pc lv st σ x d k ls H locs hl hI => lv_ineg C.1.1 C.1.2.1 d (k ls H locs hl hI)
theorem oi_ladd (C : oCx p l R s m args meth c own cc nL d0 ret dC dI En sz0 σ0 w0 e0 kc) : or_ladd own cc nL ret kc w0 (oX p l e R s m args below meth c nL ret dC dI σ0 w0) := fun pc lv st σ x y d k ls H locs hl hI => lv_ladd C.1.1 C.1.2.1 d (k ls H locs hl hI)
theorem oi_lsub (C : oCx p l R s m args meth c own cc nL d0 ret dC dI En sz0 σ0 w0 e0 kc) : or_lsub own cc nL ret kc w0 (oX p l e R s m args below meth c nL ret dC dI σ0 w0) := fun pc lv st σ x y d k ls H locs hl hI => lv_lsub C.1.1 C.1.2.1 d (k ls H locs hl hI)
theorem oi_lmul (C : oCx p l R s m args meth c own cc nL d0 ret dC dI En sz0 σ0 w0 e0 kc) : or_lmul own cc nL ret kc w0 (oX p l e R s m args below meth c nL ret dC dI σ0 w0) := fun pc lv st σ x y d k ls H locs hl hI => lv_lmul C.1.1 C.1.2.1 d (k ls H locs hl hI)
theorem oi_ldiv (C : oCx p l R s m args meth c own cc nL d0 ret dC dI En sz0 σ0 w0 e0 kc) : or_ldiv own cc nL ret kc w0 (oX p l e R s m args below meth c nL ret dC dI σ0 w0) := fun pc lv st σ x y d hne k ls H locs hl hI => lv_ldiv C.1.1 C.1.2.1 d hne (k ls H locs hl hI)
theorem oi_lrem (C : oCx p l R s m args meth c own cc nL d0 ret dC dI En sz0 σ0 w0 e0 kc) : or_lrem own cc nL ret kc w0 (oX p l e R s m args below meth c nL ret dC dI σ0 w0) := fun pc lv st σ x y d hne k ls H locs hl hI => lv_lrem C.1.1 C.1.2.1 d hne (k ls H locs hl hI)
theorem oi_lneg (C : oCx p l R s m args meth c own cc nL d0 ret dC dI En sz0 σ0 w0 e0 kc) : or_lneg own cc nL ret kc w0 (oX p l e R s m args below meth c nL ret dC dI σ0 w0) := fun pc lv st σ x d k ls H locs hl hI => lv_lneg C.1.1 C.1.2.1 d (k ls H locs hl hI)
theorem oi_i2l (C : oCx p l R s m args meth c own cc nL d0 ret dC dI En sz0 σ0 w0 e0 kc) : or_i2l own cc nL ret kc w0 (oX p l e R s m args below meth c nL ret dC dI σ0 w0) := fun pc lv st σ x d k ls H locs hl hI => lv_i2l C.1.1 C.1.2.1 d rfl (k ls H locs hl hI)
theorem oi_l2i (C : oCx p l R s m args meth c own cc nL d0 ret dC dI En sz0 σ0 w0 e0 kc) : or_l2i own cc nL ret kc w0 (oX p l e R s m args below meth c nL ret dC dI σ0 w0) := fun pc lv st σ x d k ls H locs hl hI => lv_l2i C.1.1 C.1.2.1 d rfl (k ls H locs hl hI)
theorem oi_i2b (C : oCx p l R s m args meth c own cc nL d0 ret dC dI En sz0 σ0 w0 e0 kc) : or_i2b own cc nL ret kc w0 (oX p l e R s m args below meth c nL ret dC dI σ0 w0) := fun pc lv st σ x d k ls H locs hl hI => lv_i2b C.1.1 C.1.2.1 d rfl (k ls H locs hl hI)
theorem oi_lcmp (C : oCx p l R s m args meth c own cc nL d0 ret dC dI En sz0 σ0 w0 e0 kc) : or_lcmp own cc nL ret kc w0 (oX p l e R s m args below meth c nL ret dC dI σ0 w0) := fun pc lv st σ x y d k ls H locs hl hI => W.lcmp C.1.1 C.1.2.1 d (k ls H locs hl hI)
theorem oi_if_eq (C : oCx p l R s m args meth c own cc nL d0 ret dC dI En sz0 σ0 w0 e0 kc) : or_if_eq own cc nL ret kc w0 (oX p l e R s m args below meth c nL ret dC dI σ0 w0) := fun pc lv st σ x off tgt d ht kt kf ls H locs hl hI => lv_if_eq C.1.1 C.1.2.1 d ht (fun h9 => kt h9 ls H locs hl hI) (fun h9 => kf h9 ls H locs hl hI)
theorem oi_if_ne (C : oCx p l R s m args meth c own cc nL d0 ret dC dI En sz0 σ0 w0 e0 kc) : or_if_ne own cc nL ret kc w0 (oX p l e R s m args below meth c nL ret dC dI σ0 w0) := fun pc lv st σ x off tgt d ht kt kf ls H locs hl hI => lv_if_ne C.1.1 C.1.2.1 d ht (fun h9 => kt h9 ls H locs hl hI) (fun h9 => kf h9 ls H locs hl hI)
theorem oi_if_lt (C : oCx p l R s m args meth c own cc nL d0 ret dC dI En sz0 σ0 w0 e0 kc) : or_if_lt own cc nL ret kc w0 (oX p l e R s m args below meth c nL ret dC dI σ0 w0) := fun pc lv st σ x off tgt d ht kt kf ls H locs hl hI => lv_if_lt C.1.1 C.1.2.1 d ht (fun h9 => kt h9 ls H locs hl hI) (fun h9 => kf h9 ls H locs hl hI)
theorem oi_if_ge (C : oCx p l R s m args meth c own cc nL d0 ret dC dI En sz0 σ0 w0 e0 kc) : or_if_ge own cc nL ret kc w0 (oX p l e R s m args below meth c nL ret dC dI σ0 w0) := fun pc lv st σ x off tgt d ht kt kf ls H locs hl hI => lv_if_ge C.1.1 C.1.2.1 d ht (fun h9 => kt h9 ls H locs hl hI) (fun h9 => kf h9 ls H locs hl hI)
theorem oi_if_gt (C : oCx p l R s m args meth c own cc nL d0 ret dC dI En sz0 σ0 w0 e0 kc) : or_if_gt own cc nL ret kc w0 (oX p l e R s m args below meth c nL ret dC dI σ0 w0) := fun pc lv st σ x off tgt d ht kt kf ls H locs hl hI => lv_if_gt C.1.1 C.1.2.1 d ht (fun h9 => kt h9 ls H locs hl hI) (fun h9 => kf h9 ls H locs hl hI)
theorem oi_if_le (C : oCx p l R s m args meth c own cc nL d0 ret dC dI En sz0 σ0 w0 e0 kc) : or_if_le own cc nL ret kc w0 (oX p l e R s m args below meth c nL ret dC dI σ0 w0) := fun pc lv st σ x off tgt d ht kt kf ls H locs hl hI => lv_if_le C.1.1 C.1.2.1 d ht (fun h9 => kt h9 ls H locs hl hI) (fun h9 => kf h9 ls H locs hl hI)
theorem oi_icmp_eq (C : oCx p l R s m args meth c own cc nL d0 ret dC dI En sz0 σ0 w0 e0 kc) : or_icmp_eq own cc nL ret kc w0 (oX p l e R s m args below meth c nL ret dC dI σ0 w0) := fun pc lv st σ x y off tgt d ht kt kf ls H locs hl hI => lv_icmp_eq C.1.1 C.1.2.1 d ht (fun h9 => kt h9 ls H locs hl hI) (fun h9 => kf h9 ls H locs hl hI)
theorem oi_icmp_ne (C : oCx p l R s m args meth c own cc nL d0 ret dC dI En sz0 σ0 w0 e0 kc) : or_icmp_ne own cc nL ret kc w0 (oX p l e R s m args below meth c nL ret dC dI σ0 w0) := fun pc lv st σ x y off tgt d ht kt kf ls H locs hl hI => lv_icmp_ne C.1.1 C.1.2.1 d ht (fun h9 => kt h9 ls H locs hl hI) (fun h9 => kf h9 ls H locs hl hI)
theorem oi_icmp_lt (C : oCx p l R s m args meth c own cc nL d0 ret dC dI En sz0 σ0 w0 e0 kc) : or_icmp_lt own cc nL ret kc w0 (oX p l e R s m args below meth c nL ret dC dI σ0 w0) := fun pc lv st σ x y off tgt d ht kt kf ls H locs hl hI => lv_icmp_lt C.1.1 C.1.2.1 d ht (fun h9 => kt h9 ls H locs hl hI) (fun h9 => kf h9 ls H locs hl hI)
theorem oi_icmp_ge (C : oCx p l R s m args meth c own cc nL d0 ret dC dI En sz0 σ0 w0 e0 kc) : or_icmp_ge own cc nL ret kc w0 (oX p l e R s m args below meth c nL ret dC dI σ0 w0) := fun pc lv st σ x y off tgt d ht kt kf ls H locs hl hI => lv_icmp_ge C.1.1 C.1.2.1 d ht (fun h9 => kt h9 ls H locs hl hI) (fun h9 => kf h9 ls H locs hl hI)
theorem oi_icmp_gt (C : oCx p l R s m args meth c own cc nL d0 ret dC dI En sz0 σ0 w0 e0 kc) : or_icmp_gt own cc nL ret kc w0 (oX p l e R s m args below meth c nL ret dC dI σ0 w0) := fun pc lv st σ x y off tgt d ht kt kf ls H locs hl hI => lv_icmp_gt C.1.1 C.1.2.1 d ht (fun h9 => kt h9 ls H locs hl hI) (fun h9 => kf h9 ls H locs hl hI)
theorem oi_icmp_le (C : oCx p l R s m args meth c own cc nL d0 ret dC dI En sz0 σ0 w0 e0 kc) : or_icmp_le own cc nL ret kc w0 (oX p l e R s m args below meth c nL ret dC dI σ0 w0) := fun pc lv st σ x y off tgt d ht kt kf ls H locs hl hI => lv_icmp_le C.1.1 C.1.2.1 d ht (fun h9 => kt h9 ls H locs hl hI) (fun h9 => kf h9 ls H locs hl hI)
theorem oi_goto (C : oCx p l R s m args meth c own cc nL d0 ret dC dI En sz0 σ0 w0 e0 kc) : or_goto own cc nL ret kc w0 (oX p l e R s m args below meth c nL ret dC dI σ0 w0) := fun pc lv st σ off tgt d ht k ls H locs hl hI => lv_goto C.1.1 C.1.2.1 d ht (k ls H locs hl hI)
theorem oi_tableIn (C : oCx p l R s m args meth c own cc nL d0 ret dC dI En sz0 σ0 w0 e0 kc) : or_tableIn own cc nL ret kc w0 (oX p l e R s m args below meth c nL ret dC dI σ0 w0) := fun pc lv st σ dflt lo hi offs len x off tgt d h1 h2 ho ht k ls H locs hl hI => lv_tableIn C.1.1 C.1.2.1 d h1 h2 ho ht (k ls H locs hl hI)
theorem oi_tableOut (C : oCx p l R s m args meth c own cc nL d0 ret dC dI En sz0 σ0 w0 e0 kc) : or_tableOut own cc nL ret kc w0 (oX p l e R s m args below meth c nL ret dC dI σ0 w0) := fun pc lv st σ dflt lo hi offs len x tgt d hx ht k ls H locs hl hI => lv_tableOut C.1.1 C.1.2.1 d hx ht (k ls H locs hl hI)
theorem oi_lookup (C : oCx p l R s m args meth c own cc nL d0 ret dC dI En sz0 σ0 w0 e0 kc) : or_lookup own cc nL ret kc w0 (oX p l e R s m args below meth c nL ret dC dI σ0 w0) := fun pc lv st σ dflt ps len x off tgt d hp ho ht k ls H locs hl hI => lv_lookup C.1.1 C.1.2.1 d hp ho ht (k ls H locs hl hI)
theorem oi_dup (C : oCx p l R s m args meth c own cc nL d0 ret dC dI En sz0 σ0 w0 e0 kc) : or_dup own cc nL ret kc w0 (oX p l e R s m args below meth c nL ret dC dI σ0 w0) := fun pc lv st σ va d hva k ls H locs hl hI => lv_dup C.1.1 C.1.2.1 d hva (k ls H locs hl hI)
theorem oi_dup2 (C : oCx p l R s m args meth c own cc nL d0 ret dC dI En sz0 σ0 w0 e0 kc) : or_dup2 own cc nL ret kc w0 (oX p l e R s m args below meth c nL ret dC dI σ0 w0) := fun pc lv st σ va vb d hva hvb k ls H locs hl hI => lv_dup2_11 C.1.1 C.1.2.1 d hva hvb (k ls H locs hl hI)
theorem oi_pop (C : oCx p l R s m args meth c own cc nL d0 ret dC dI En sz0 σ0 w0 e0 kc) : or_pop own cc nL ret kc w0 (oX p l e R s m args below meth c nL ret dC dI σ0 w0) := fun pc lv st σ va d hva k ls H locs hl hI => lv_pop C.1.1 C.1.2.1 d hva (k ls H locs hl hI)
theorem oi_land (C : oCx p l R s m args meth c own cc nL d0 ret dC dI En sz0 σ0 w0 e0 kc) : or_land own cc nL ret kc w0 (oX p l e R s m args below meth c nL ret dC dI σ0 w0) := fun pc lv st σ x y d k ls H locs hl hI => lv_land C.1.1 C.1.2.1 d (k ls H locs hl hI)
theorem oi_i2c (C : oCx p l R s m args meth c own cc nL d0 ret dC dI En sz0 σ0 w0 e0 kc) : or_i2c own cc nL ret kc w0 (oX p l e R s m args below meth c nL ret dC dI σ0 w0) := fun pc lv st σ x d k ls H locs hl hI => lv_i2c C.1.1 C.1.2.1 d rfl (k ls H locs hl hI)
theorem oi_aload (C : oCx p l R s m args meth c own cc nL d0 ret dC dI En sz0 σ0 w0 e0 kc) : or_aload own cc nL ret kc w0 (oX p l e R s m args below meth c nL ret dC dI σ0 w0) := fun pc lv st σ i r d h1 k ls H locs hl hI => by
  cases r with
  | none => exact lv_aloadN C.1.1 C.1.2.1 d (hl.2.2 i _ h1) (k ls H locs hl hI)
  | some y => exact lv_aload C.1.1 C.1.2.1 d (hl.2.2 i _ h1) (k ls H locs hl hI)
theorem oi_aload_n (C : oCx p l R s m args meth c own cc nL d0 ret dC dI En sz0 σ0 w0 e0 kc) : or_aload_n own cc nL ret kc w0 (oX p l e R s m args below meth c nL ret dC dI σ0 w0) := fun pc lv st σ n i r d hi h1 k ls H locs hl hI => by
  cases r with
  | none => exact lv_aload_nN C.1.1 C.1.2.1 d hi (hl.2.2 i _ h1) (k ls H locs hl hI)
  | some y => exact lv_aload_n C.1.1 C.1.2.1 d hi (hl.2.2 i _ h1) (k ls H locs hl hI)
theorem oi_astore (C : oCx p l R s m args meth c own cc nL d0 ret dC dI En sz0 σ0 w0 e0 kc) : or_astore own cc nL ret kc w0 (oX p l e R s m args below meth c nL ret dC dI σ0 w0) := fun pc lv st σ i r d hn ho k ls H locs hl hI => by
  cases r with
  | none => exact lv_astoreN C.1.1 C.1.2.1 d hl.to hn rfl (fun ls1 h1 => k ls1 H locs (zhas.st1 ho h1) hI)
  | some y => exact lv_astore C.1.1 C.1.2.1 d hl.to hn rfl (fun ls1 h1 => k ls1 H locs (zhas.st1 ho h1) hI)
theorem oi_astore_n (C : oCx p l R s m args meth c own cc nL d0 ret dC dI En sz0 σ0 w0 e0 kc) : or_astore_n own cc nL ret kc w0 (oX p l e R s m args below meth c nL ret dC dI σ0 w0) := fun pc lv st σ n i r d hi hn ho k ls H locs hl hI => by
  cases r with
  | none => exact lv_astore_nN C.1.1 C.1.2.1 d hi hl.to hn rfl (fun ls1 h1 => k ls1 H locs (zhas.st1 ho h1) hI)
  | some y => exact lv_astore_n C.1.1 C.1.2.1 d hi hl.to hn rfl (fun ls1 h1 => k ls1 H locs (zhas.st1 ho h1) hI)
theorem oi_null (C : oCx p l R s m args meth c own cc nL d0 ret dC dI En sz0 σ0 w0 e0 kc) : or_null own cc nL ret kc w0 (oX p l e R s m args below meth c nL ret dC dI σ0 w0) := fun pc lv st σ d k ls H locs hl hI => lv_null C.1.1 C.1.2.1 d (k ls H locs hl hI)
theorem oi_ifnull (C : oCx p l R s m args meth c own cc nL d0 ret dC dI En sz0 σ0 w0 e0 kc) : or_ifnull own cc nL ret kc w0 (oX p l e R s m args below meth c nL ret dC dI σ0 w0) := fun pc lv st σ r off tgt d ht kt kf ls H locs hl hI => by
  cases r with
  | none => exact lv_ifnullN C.1.1 C.1.2.1 d ht (kt rfl ls H locs hl hI)
  | some y => exact lv_ifnull C.1.1 C.1.2.1 d (kf (fun h => by cases h) ls H locs hl hI)
theorem oi_ifnonnull (C : oCx p l R s m args meth c own cc nL d0 ret dC dI En sz0 σ0 w0 e0 kc) : or_ifnonnull own cc nL ret kc w0 (oX p l e R s m args below meth c nL ret dC dI σ0 w0) := fun pc lv st σ r off tgt d ht kt kf ls H locs hl hI => by
  cases r with
  | none => exact lv_ifnonnullN C.1.1 C.1.2.1 d (kf rfl ls H locs hl hI)
  | some y => exact lv_ifnonnull C.1.1 C.1.2.1 d ht (kt (fun h => by cases h) ls H locs hl hI)
theorem oi_acmp_eq (C : oCx p l R s m args meth c own cc nL d0 ret dC dI En sz0 σ0 w0 e0 kc) : or_acmp_eq own cc nL ret kc w0 (oX p l e R s m args below meth c nL ret dC dI σ0 w0) := fun pc lv st σ rx ry off tgt d ht kt kf ls H locs hl hI => lv_acmp_eq C.1.1 C.1.2.1 d ht (fun h9 => kt h9 ls H locs hl hI) (fun h9 => kf h9 ls H locs hl hI)
theorem oi_acmp_ne (C : oCx p l R s m args meth c own cc nL d0 ret dC dI En sz0 σ0 w0 e0 kc) : or_acmp_ne own cc nL ret kc w0 (oX p l e R s m args below meth c nL ret dC dI σ0 w0) := fun pc lv st σ rx ry off tgt d ht kt kf ls H locs hl hI => lv_acmp_ne C.1.1 C.1.2.1 d ht (fun h9 => kt h9 ls H locs hl hI) (fun h9 => kf h9 ls H locs hl hI)
theorem oi_getf (C : oCx p l R s m args meth c own cc nL d0 ret dC dI En sz0 σ0 w0 e0 kc) : or_getf own cc nL ret kc w0 (oX p l e R s m args below meth c nL ret dC dI σ0 w0) := fun pc lv st σ ix ci f a fs x d hm ha hv k ls H locs hl hI => by
  have hci := oft_ok _ hm
  exact oo_get (C := (oq ci).1) (T := (oq ci).2.1) (N := (oq ci).2.2) C.1.1 C.1.2.1 C.1.2.2.2.2 (fun w h => List.mem_cons_of_mem _ (List.mem_append_left _ (List.mem_append_right _ (List.mem_append_left _ (List.mem_flatMap.mpr ⟨ci, List.mem_range.mpr hci.1, h⟩))))) C.1.2.2.2.1 hI.1 ha (oq_at hci.1) f hci.2 (C.1.2.2.2.2 _ (List.mem_cons_of_mem _ (List.mem_append_left _ (List.mem_append_left _ (List.mem_map.mpr ⟨(own, ix, ci, f), hm, rfl⟩))))) (fun _ h9 => h9) hv d (k ls H locs hl hI)
theorem oi_putf (C : oCx p l R s m args meth c own cc nL d0 ret dC dI En sz0 σ0 w0 e0 kc) : or_putf own cc nL ret kc w0 (oX p l e R s m args below meth c nL ret dC dI σ0 w0) := fun pc lv st σ ix ci f a fs x d hm ha hfin hn hfit hl9 k ls H locs hl hI => by
  have hci := oft_ok _ hm
  exact oo_put (C := (oq ci).1) (T := (oq ci).2.1) (N := (oq ci).2.2) (ty := oty ci f) C.1.1 C.1.2.1 C.1.2.2.2.2 (fun w h => List.mem_cons_of_mem _ (List.mem_append_left _ (List.mem_append_right _ (List.mem_append_left _ (List.mem_flatMap.mpr ⟨ci, List.mem_range.mpr hci.1, h⟩))))) (oty ci) (oty_ok hci.1) (oq_nm ci hci.1) C.1.2.2.2.1 hI.2.2.2.1.1 hI.1 hI.2.1 hI.2.2.1 hI.2.2.2.1.low ha (oq_at hci.1) f hci.2 (C.1.2.2.2.2 _ (List.mem_cons_of_mem _ (List.mem_append_left _ (List.mem_append_left _ (List.mem_map.mpr ⟨(own, ix, ci, f), hm, rfl⟩))))) (fun _ h9 => h9) hfin (oty_ok hci.1 f hci.2) hn hfit hl9 d (fun H1 locs1 hR1 hS1 hL1 hz => k ls H1 locs1 hl (hI.put hR1 hS1 hL1 hz))
theorem oi_iald (C : oCx p l R s m args meth c own cc nL d0 ret dC dI En sz0 σ0 w0 e0 kc) : or_iald own cc nL ret kc w0 (oX p l e R s m args below meth c nL ret dC dI σ0 w0) := fun pc lv st σ a n f j d ha hin k ls H locs hl hI => oo_iald C.1.1 C.1.2.1 hI.1 ha hin d (k ls H locs hl hI)
theorem oi_bald (C : oCx p l R s m args meth c own cc nL d0 ret dC dI En sz0 σ0 w0 e0 kc) : or_bald own cc nL ret kc w0 (oX p l e R s m args below meth c nL ret dC dI σ0 w0) := fun pc lv st σ a n f j d ha hin k ls H locs hl hI => oo_bald C.1.1 C.1.2.1 hI.1 ha hin d (k ls H locs hl hI)
theorem oi_zald (C : oCx p l R s m args meth c own cc nL d0 ret dC dI En sz0 σ0 w0 e0 kc) : or_zald own cc nL ret kc w0 (oX p l e R s m args below meth c nL ret dC dI σ0 w0) := fun pc lv st σ a n f j d ha hin k ls H locs hl hI => oo_zald C.1.1 C.1.2.1 hI.1 ha hin d (k ls H locs hl hI)
theorem oi_cald (C : oCx p l R s m args meth c own cc nL d0 ret dC dI En sz0 σ0 w0 e0 kc) : or_cald own cc nL ret kc w0 (oX p l e R s m args below meth c nL ret dC dI σ0 w0) := fun pc lv st σ a n f j d ha hin k ls H locs hl hI => oo_cald C.1.1 C.1.2.1 hI.1 ha hin d (k ls H locs hl hI)
theorem oi_lald (C : oCx p l R s m args meth c own cc nL d0 ret dC dI En sz0 σ0 w0 e0 kc) : or_lald own cc nL ret kc w0 (oX p l e R s m args below meth c nL ret dC dI σ0 w0) := fun pc lv st σ a n f j d ha hin k ls H locs hl hI => oo_lald C.1.1 C.1.2.1 hI.1 ha hin d (k ls H locs hl hI)
theorem oi_aald (C : oCx p l R s m args meth c own cc nL d0 ret dC dI En sz0 σ0 w0 e0 kc) : or_aald own cc nL ret kc w0 (oX p l e R s m args below meth c nL ret dC dI σ0 w0) := fun pc lv st σ a C9 n f j d ha hin k ls H locs hl hI => oo_aald C.1.1 C.1.2.1 hI.1 ha hin d (k ls H locs hl hI)
theorem oi_alen (C : oCx p l R s m args meth c own cc nL d0 ret dC dI En sz0 σ0 w0 e0 kc) : or_alen own cc nL ret kc w0 (oX p l e R s m args below meth c nL ret dC dI σ0 w0) := fun pc lv st σ a x d ha k ls H locs hl hI => oo_alen C.1.1 C.1.2.1 hI.1 ha d (k ls H locs hl hI)
theorem oi_iast (C : oCx p l R s m args meth c own cc nL d0 ret dC dI En sz0 σ0 w0 e0 kc) : or_iast own cc nL ret kc w0 (oX p l e R s m args below meth c nL ret dC dI σ0 w0) := fun pc lv st σ a n f j x d ha hin k ls H locs hl hI => oo_iast C.1.1 C.1.2.1 hI.2.2.2.1.1 hI.1 hI.2.1 hI.2.2.1 hI.2.2.2.1.low ha hin d (fun H1 locs1 hR1 hS1 hL1 hz => k ls H1 locs1 hl (hI.put hR1 hS1 hL1 hz))
theorem oi_bast (C : oCx p l R s m args meth c own cc nL d0 ret dC dI En sz0 σ0 w0 e0 kc) : or_bast own cc nL ret kc w0 (oX p l e R s m args below meth c nL ret dC dI σ0 w0) := fun pc lv st σ a n f j x d ha hin k ls H locs hl hI => oo_bast C.1.1 C.1.2.1 hI.2.2.2.1.1 hI.1 hI.2.1 hI.2.2.1 hI.2.2.2.1.low ha hin d (fun H1 locs1 hR1 hS1 hL1 hz => k ls H1 locs1 hl (hI.put hR1 hS1 hL1 hz))
theorem oi_zast (C : oCx p l R s m args meth c own cc nL d0 ret dC dI En sz0 σ0 w0 e0 kc) : or_zast own cc nL ret kc w0 (oX p l e R s m args below meth c nL ret dC dI σ0 w0) := fun pc lv st σ a n f j x d ha hin k ls H locs hl hI => oo_zast C.1.1 C.1.2.1 hI.2.2.2.1.1 hI.1 hI.2.1 hI.2.2.1 hI.2.2.2.1.low ha hin d (fun H1 locs1 hR1 hS1 hL1 hz => k ls H1 locs1 hl (hI.put hR1 hS1 hL1 hz))
theorem oi_cast (C : oCx p l R s m args meth c own cc nL d0 ret dC dI En sz0 σ0 w0 e0 kc) : or_cast own cc nL ret kc w0 (oX p l e R s m args below meth c nL ret dC dI σ0 w0) := fun pc lv st σ a n f j x d ha hin k ls H locs hl hI => oo_cast C.1.1 C.1.2.1 hI.2.2.2.1.1 hI.1 hI.2.1 hI.2.2.1 hI.2.2.2.1.low ha hin d (fun H1 locs1 hR1 hS1 hL1 hz => k ls H1 locs1 hl (hI.put hR1 hS1 hL1 hz))
theorem oi_last (C : oCx p l R s m args meth c own cc nL d0 ret dC dI En sz0 σ0 w0 e0 kc) : or_last own cc nL ret kc w0 (oX p l e R s m args below meth c nL ret dC dI σ0 w0) := fun pc lv st σ a n f j x d ha hin k ls H locs hl hI => oo_last C.1.1 C.1.2.1 hI.2.2.2.1.1 hI.1 hI.2.1 hI.2.2.1 hI.2.2.2.1.low ha hin d (fun H1 locs1 hR1 hS1 hL1 hz => k ls H1 locs1 hl (hI.put hR1 hS1 hL1 hz))
theorem oi_aast (C : oCx p l R s m args meth c own cc nL d0 ret dC dI En sz0 σ0 w0 e0 kc) : or_aast own cc nL ret kc w0 (oX p l e R s m args below meth c nL ret dC dI σ0 w0) := fun pc lv st σ a n y ci w vs f j d ha hy hc hin k ls H locs hl hI => oo_aast C.1.1 C.1.2.1 hI.2.2.2.1.1 hI.1 hI.2.1 hI.2.2.1 hI.2.2.2.1.low ha hy hc hin d (fun H1 locs1 hR1 hS1 hL1 hz => k ls H1 locs1 hl (hI.put hR1 hS1 hL1 hz))
theorem oi_aastN (C : oCx p l R s m args meth c own cc nL d0 ret dC dI En sz0 σ0 w0 e0 kc) : or_aastN own cc nL ret kc w0 (oX p l e R s m args below meth c nL ret dC dI σ0 w0) := fun pc lv st σ a n C9 f j d ha hin k ls H locs hl hI => oo_aastN C.1.1 C.1.2.1 hI.2.2.2.1.1 hI.1 hI.2.1 hI.2.2.1 hI.2.2.2.1.low ha hin d (fun H1 locs1 hR1 hS1 hL1 hz => k ls H1 locs1 hl (hI.put hR1 hS1 hL1 hz))
theorem oi_ldc (C : oCx p l R s m args meth c own cc nL d0 ret dC dI En sz0 σ0 w0 e0 kc) : or_ldc own cc nL ret kc w0 (oX p l e R s m args below meth c nL ret dC dI σ0 w0) := fun pc lv st σ ix x d hm k ls H locs hl hI => lv_ldc C.1.1 C.1.2.1 C.1.2.2.2.1 (C.1.2.2.2.2 _ (List.mem_cons_of_mem _ (List.mem_append_left _ (wOx_k (List.mem_append_left _ (List.mem_map.mpr ⟨(own, ix, x), hm, rfl⟩)))))) d (k ls H locs hl hI)
theorem oi_ldc2 (C : oCx p l R s m args meth c own cc nL d0 ret dC dI En sz0 σ0 w0 e0 kc) : or_ldc2 own cc nL ret kc w0 (oX p l e R s m args below meth c nL ret dC dI σ0 w0) := fun pc lv st σ ix x d hm k ls H locs hl hI => lv_ldc2 C.1.1 C.1.2.1 C.1.2.2.2.1 (C.1.2.2.2.2 _ (List.mem_cons_of_mem _ (List.mem_append_left _ (wOx_k (List.mem_append_right _ (List.mem_append_left _ (List.mem_map.mpr ⟨(own, ix, x), hm, rfl⟩))))))) d (k ls H locs hl hI)
theorem oi_new (C : oCx p l R s m args meth c own cc nL d0 ret dC dI En sz0 σ0 w0 e0 kc) : or_new own cc nL ret kc w0 (oX p l e R s m args below meth c nL ret dC dI σ0 w0) := fun pc lv st σ ix ci d hm h1 h2 k ls H locs hl hI => by
  have hci := onl_ok _ hm
  refine oW_size (fun hup => ?_)
  have hnx := hI.size hup
  obtain ⟨z1, z2, z3, z4, z5⟩ := hI.2.2.2.1
  have hRm := C.2.2.2.1
  refine oo_new (C := (oq ci).1) (T := (oq ci).2.1) (N := (oq ci).2.2) (fs := odef ci) C.1.1 C.1.2.1 C.1.2.2.2.2 (fun w h => List.mem_cons_of_mem _ (List.mem_append_left _ (List.mem_append_right _ (List.mem_append_left _ (List.mem_flatMap.mpr ⟨ci, List.mem_range.mpr hci, h⟩))))) (oty ci) (oty_ok hci) C.1.2.2.2.1 (C.1.2.2.2.2 _ (List.mem_cons_of_mem _ (List.mem_append_left _ (wOx_k (List.mem_append_right _ (List.mem_append_right _ (List.mem_append_left _ (List.mem_map.mpr ⟨(own, ix, ci), hm, rfl⟩)))))))) (C.1.2.2.2.2 _ (List.mem_cons_of_mem _ (List.mem_append_left _ (wOx_k (List.mem_append_right _ (List.mem_append_right _ (List.mem_append_right _ (List.mem_append_left _ (List.mem_map.mpr ⟨(own, ix, ci), hm, rfl⟩))))))))) (C.1.2.2.2.2 _ (List.mem_cons_of_mem _ (List.mem_append_left _ (wOx_k (List.mem_append_right _ (List.mem_append_right _ (List.mem_append_right _ (List.mem_append_right _ (List.mem_append_left _ (List.mem_map.mpr ⟨(own, ix, ci), hm, rfl⟩)))))))))) hI.2.2.2.1.1 hI.1 hI.2.1 hI.2.2.1 hI.2.2.2.1.low hup hnx (oq_at hci) (fun j hj => by simp [vp_V, odef, hj]) (show σ.2.2.1 - σ0.2.2.1 + 1 ≤ R.cells by omega) (show σ.2.2.2 - σ0.2.2.2 + (oq ci).2.2 ≤ R.slots by omega) d (fun H1 hR1 hS1 hL1 hz => ?_)
  have h9 := k ls H1 locs hl (hI.made hR1 hS1 hL1 hz)
  have e1 : (onew σ (.inr (ci, odef ci)) (oq ci).2.2).2.2.1 - σ0.2.2.1 = σ.2.2.1 - σ0.2.2.1 + 1 := by
    show σ.2.2.1 + 1 - σ0.2.2.1 = _
    omega
  have e2 : (onew σ (.inr (ci, odef ci)) (oq ci).2.2).2.2.2 - σ0.2.2.2 = σ.2.2.2 - σ0.2.2.2 + (oq ci).2.2 := by
    show σ.2.2.2 + _ - σ0.2.2.2 = _
    omega
  rw [e1, e2] at h9
  exact h9
theorem oi_newI (C : oCx p l R s m args meth c own cc nL d0 ret dC dI En sz0 σ0 w0 e0 kc) : or_newI own cc nL ret kc w0 (oX p l e R s m args below meth c nL ret dC dI σ0 w0) := fun pc lv st σ n d hne hby h1 h2 k ls H locs hl hI => by
  refine oW_size (fun hup => ?_)
  have hnx := hI.size hup
  obtain ⟨z1, z2, z3, z4, z5⟩ := hI.2.2.2.1
  have hRm := C.2.2.2.1
  refine oo_newa (atype := .int) (ty := .int) (a0 := (n.toNatClampNeg, .inl (fun _ => 0))) C.1.1 C.1.2.1 (C.1.2.2.2.2 (.arrayClass .int) (List.mem_cons_of_mem _ (List.mem_append_right _ (by simp [wOa])))) rfl hI.2.2.2.1.1 hI.1 hI.2.1 hI.2.2.1 hI.2.2.2.1.low hup hnx (fun _ => rfl) hne rfl (show n.toNatClampNeg * componentBytes .int ≤ 536870912 from Nat.le_trans (Nat.mul_le_mul_right _ hby) (Nat.le_of_ble_eq_true rfl)) (show σ.2.2.1 - σ0.2.2.1 + 1 ≤ R.cells by omega) (show σ.2.2.2 - σ0.2.2.2 + n.toNatClampNeg ≤ R.slots by omega) d (fun H1 hR1 hS1 hL1 hz => ?_)
  have h9 := k ls H1 locs hl (hI.made hR1 hS1 hL1 hz)
  have e1 : (onew σ (.inl (.int, n.toNatClampNeg, .inl (fun _ => 0))) n.toNatClampNeg).2.2.1 - σ0.2.2.1 = σ.2.2.1 - σ0.2.2.1 + 1 := by
    show σ.2.2.1 + 1 - σ0.2.2.1 = _
    omega
  have e2 : (onew σ (.inl (.int, n.toNatClampNeg, .inl (fun _ => 0))) n.toNatClampNeg).2.2.2 - σ0.2.2.2 = σ.2.2.2 - σ0.2.2.2 + n.toNatClampNeg := by
    show σ.2.2.2 + _ - σ0.2.2.2 = _
    omega
  rw [e1, e2] at h9
  exact h9
theorem oi_newZ (C : oCx p l R s m args meth c own cc nL d0 ret dC dI En sz0 σ0 w0 e0 kc) : or_newZ own cc nL ret kc w0 (oX p l e R s m args below meth c nL ret dC dI σ0 w0) := fun pc lv st σ n d hne hby h1 h2 k ls H locs hl hI => by
  refine oW_size (fun hup => ?_)
  have hnx := hI.size hup
  obtain ⟨z1, z2, z3, z4, z5⟩ := hI.2.2.2.1
  have hRm := C.2.2.2.1
  refine oo_newa (atype := .boolean) (ty := .boolean) (a0 := (n.toNatClampNeg, .inl (fun _ => 0))) C.1.1 C.1.2.1 (C.1.2.2.2.2 (.arrayClass .boolean) (List.mem_cons_of_mem _ (List.mem_append_right _ (by simp [wOa])))) rfl hI.2.2.2.1.1 hI.1 hI.2.1 hI.2.2.1 hI.2.2.2.1.low hup hnx (fun _ => rfl) hne rfl (show n.toNatClampNeg * componentBytes .boolean ≤ 536870912 from Nat.le_trans (Nat.mul_le_mul_right _ hby) (Nat.le_of_ble_eq_true rfl)) (show σ.2.2.1 - σ0.2.2.1 + 1 ≤ R.cells by omega) (show σ.2.2.2 - σ0.2.2.2 + n.toNatClampNeg ≤ R.slots by omega) d (fun H1 hR1 hS1 hL1 hz => ?_)
  have h9 := k ls H1 locs hl (hI.made hR1 hS1 hL1 hz)
  have e1 : (onew σ (.inl (.boolean, n.toNatClampNeg, .inl (fun _ => 0))) n.toNatClampNeg).2.2.1 - σ0.2.2.1 = σ.2.2.1 - σ0.2.2.1 + 1 := by
    show σ.2.2.1 + 1 - σ0.2.2.1 = _
    omega
  have e2 : (onew σ (.inl (.boolean, n.toNatClampNeg, .inl (fun _ => 0))) n.toNatClampNeg).2.2.2 - σ0.2.2.2 = σ.2.2.2 - σ0.2.2.2 + n.toNatClampNeg := by
    show σ.2.2.2 + _ - σ0.2.2.2 = _
    omega
  rw [e1, e2] at h9
  exact h9
theorem oi_newB (C : oCx p l R s m args meth c own cc nL d0 ret dC dI En sz0 σ0 w0 e0 kc) : or_newB own cc nL ret kc w0 (oX p l e R s m args below meth c nL ret dC dI σ0 w0) := fun pc lv st σ n d hne hby h1 h2 k ls H locs hl hI => by
  refine oW_size (fun hup => ?_)
  have hnx := hI.size hup
  obtain ⟨z1, z2, z3, z4, z5⟩ := hI.2.2.2.1
  have hRm := C.2.2.2.1
  refine oo_newa (atype := .byte) (ty := .byte) (a0 := (n.toNatClampNeg, .inl (fun _ => 0))) C.1.1 C.1.2.1 (C.1.2.2.2.2 (.arrayClass .byte) (List.mem_cons_of_mem _ (List.mem_append_right _ (by simp [wOa])))) rfl hI.2.2.2.1.1 hI.1 hI.2.1 hI.2.2.1 hI.2.2.2.1.low hup hnx (fun _ => rfl) hne rfl (show n.toNatClampNeg * componentBytes .byte ≤ 536870912 from Nat.le_trans (Nat.mul_le_mul_right _ hby) (Nat.le_of_ble_eq_true rfl)) (show σ.2.2.1 - σ0.2.2.1 + 1 ≤ R.cells by omega) (show σ.2.2.2 - σ0.2.2.2 + n.toNatClampNeg ≤ R.slots by omega) d (fun H1 hR1 hS1 hL1 hz => ?_)
  have h9 := k ls H1 locs hl (hI.made hR1 hS1 hL1 hz)
  have e1 : (onew σ (.inl (.byte, n.toNatClampNeg, .inl (fun _ => 0))) n.toNatClampNeg).2.2.1 - σ0.2.2.1 = σ.2.2.1 - σ0.2.2.1 + 1 := by
    show σ.2.2.1 + 1 - σ0.2.2.1 = _
    omega
  have e2 : (onew σ (.inl (.byte, n.toNatClampNeg, .inl (fun _ => 0))) n.toNatClampNeg).2.2.2 - σ0.2.2.2 = σ.2.2.2 - σ0.2.2.2 + n.toNatClampNeg := by
    show σ.2.2.2 + _ - σ0.2.2.2 = _
    omega
  rw [e1, e2] at h9
  exact h9
theorem oi_newC (C : oCx p l R s m args meth c own cc nL d0 ret dC dI En sz0 σ0 w0 e0 kc) : or_newC own cc nL ret kc w0 (oX p l e R s m args below meth c nL ret dC dI σ0 w0) := fun pc lv st σ n d hne hby h1 h2 k ls H locs hl hI => by
  refine oW_size (fun hup => ?_)
  have hnx := hI.size hup
  obtain ⟨z1, z2, z3, z4, z5⟩ := hI.2.2.2.1
  have hRm := C.2.2.2.1
  refine oo_newa (atype := .char) (ty := .char) (a0 := (n.toNatClampNeg, .inl (fun _ => 0))) C.1.1 C.1.2.1 (C.1.2.2.2.2 (.arrayClass .char) (List.mem_cons_of_mem _ (List.mem_append_right _ (by simp [wOa])))) rfl hI.2.2.2.1.1 hI.1 hI.2.1 hI.2.2.1 hI.2.2.2.1.low hup hnx (fun _ => rfl) hne rfl (show n.toNatClampNeg * componentBytes .char ≤ 536870912 from Nat.le_trans (Nat.mul_le_mul_right _ hby) (Nat.le_of_ble_eq_true rfl)) (show σ.2.2.1 - σ0.2.2.1 + 1 ≤ R.cells by omega) (show σ.2.2.2 - σ0.2.2.2 + n.toNatClampNeg ≤ R.slots by omega) d (fun H1 hR1 hS1 hL1 hz => ?_)
  have h9 := k ls H1 locs hl (hI.made hR1 hS1 hL1 hz)
  have e1 : (onew σ (.inl (.char, n.toNatClampNeg, .inl (fun _ => 0))) n.toNatClampNeg).2.2.1 - σ0.2.2.1 = σ.2.2.1 - σ0.2.2.1 + 1 := by
    show σ.2.2.1 + 1 - σ0.2.2.1 = _
    omega
  have e2 : (onew σ (.inl (.char, n.toNatClampNeg, .inl (fun _ => 0))) n.toNatClampNeg).2.2.2 - σ0.2.2.2 = σ.2.2.2 - σ0.2.2.2 + n.toNatClampNeg := by
    show σ.2.2.2 + _ - σ0.2.2.2 = _
    omega
  rw [e1, e2] at h9
  exact h9
theorem oi_newJ (C : oCx p l R s m args meth c own cc nL d0 ret dC dI En sz0 σ0 w0 e0 kc) : or_newJ own cc nL ret kc w0 (oX p l e R s m args below meth c nL ret dC dI σ0 w0) := fun pc lv st σ n d hne hby h1 h2 k ls H locs hl hI => by
  refine oW_size (fun hup => ?_)
  have hnx := hI.size hup
  obtain ⟨z1, z2, z3, z4, z5⟩ := hI.2.2.2.1
  have hRm := C.2.2.2.1
  refine oo_newa (atype := .long) (ty := .long) (a0 := (n.toNatClampNeg, .inr (.inl (fun _ => 0)))) C.1.1 C.1.2.1 (C.1.2.2.2.2 (.arrayClass .long) (List.mem_cons_of_mem _ (List.mem_append_right _ (by simp [wOa])))) rfl hI.2.2.2.1.1 hI.1 hI.2.1 hI.2.2.1 hI.2.2.2.1.low hup hnx (fun _ => rfl) hne rfl (show n.toNatClampNeg * componentBytes .long ≤ 536870912 from Nat.le_trans (Nat.mul_le_mul_right _ hby) (Nat.le_of_ble_eq_true rfl)) (show σ.2.2.1 - σ0.2.2.1 + 1 ≤ R.cells by omega) (show σ.2.2.2 - σ0.2.2.2 + n.toNatClampNeg ≤ R.slots by omega) d (fun H1 hR1 hS1 hL1 hz => ?_)
  have h9 := k ls H1 locs hl (hI.made hR1 hS1 hL1 hz)
  have e1 : (onew σ (.inl (.long, n.toNatClampNeg, .inr (.inl (fun _ => 0)))) n.toNatClampNeg).2.2.1 - σ0.2.2.1 = σ.2.2.1 - σ0.2.2.1 + 1 := by
    show σ.2.2.1 + 1 - σ0.2.2.1 = _
    omega
  have e2 : (onew σ (.inl (.long, n.toNatClampNeg, .inr (.inl (fun _ => 0)))) n.toNatClampNeg).2.2.2 - σ0.2.2.2 = σ.2.2.2 - σ0.2.2.2 + n.toNatClampNeg := by
    show σ.2.2.2 + _ - σ0.2.2.2 = _
    omega
  rw [e1, e2] at h9
  exact h9
theorem oi_newq (C : oCx p l R s m args meth c own cc nL d0 ret dC dI En sz0 σ0 w0 e0 kc) : or_newq own cc nL ret kc w0 (oX p l e R s m args below meth c nL ret dC dI σ0 w0) := fun pc lv st σ ix ci n d hm hne hby h1 h2 k ls H locs hl hI => by
  have hci := oal_ok _ hm
  refine oW_size (fun hup => ?_)
  have hnx := hI.size hup
  obtain ⟨z1, z2, z3, z4, z5⟩ := hI.2.2.2.1
  have hRm := C.2.2.2.1
  refine oo_newq (C := (oq ci).1) C.1.1 C.1.2.1 C.1.2.2.2.1 (C.1.2.2.2.2 _ (List.mem_cons_of_mem _ (List.mem_append_left _ (wOx_k (List.mem_append_right _ (List.mem_append_right _ (List.mem_append_right _ (List.mem_append_right _ (List.mem_append_right _ (List.mem_map.mpr ⟨(own, ix, ci), hm, rfl⟩)))))))))) (C.2.2.2.2.1 _ hm) hI.2.2.2.1.1 hI.1 hI.2.1 hI.2.2.1 hI.2.2.2.1.low hup hnx hne rfl (Nat.le_trans (Nat.mul_le_mul_right _ hby) (Nat.le_of_ble_eq_true rfl)) (show σ.2.2.1 - σ0.2.2.1 + 1 ≤ R.cells by omega) (show σ.2.2.2 - σ0.2.2.2 + n.toNatClampNeg ≤ R.slots by omega) d (fun H1 hR1 hS1 hL1 hz => ?_)
  have h9 := k ls H1 locs hl (hI.made hR1 hS1 hL1 hz)
  have e1 : (onew σ (.inl (.object (oq ci).1, n.toNatClampNeg, .inr (.inr (.inr (.inr (fun _ => none)))))) n.toNatClampNeg).2.2.1 - σ0.2.2.1 = σ.2.2.1 - σ0.2.2.1 + 1 := by
    show σ.2.2.1 + 1 - σ0.2.2.1 = _
    omega
  have e2 : (onew σ (.inl (.object (oq ci).1, n.toNatClampNeg, .inr (.inr (.inr (.inr (fun _ => none)))))) n.toNatClampNeg).2.2.2 - σ0.2.2.2 = σ.2.2.2 - σ0.2.2.2 + n.toNatClampNeg := by
    show σ.2.2.2 + _ - σ0.2.2.2 = _
    omega
  rw [e1, e2] at h9
  exact h9
theorem oi_callVv (C : oCx p l R s m args meth c own cc nL d0 ret dC dI En sz0 σ0 w0 e0 kc) : or_callVv own cc nL ret kc w0 (oX p l e R s m args below meth c nL ret dC dI σ0 w0) := fun pc lv rest σ ix j en as u b ci fs d hm he hs hr hl9 hc hb9 hci hk h1 h2 h3 h4 k ls H locs hl hI => by
  obtain ⟨d1, hd1, hM0⟩ := C.2.2.2.2.2.2 j _ σ _ hk
  have hM : Met l en.1 (ows en) _ _ _ _ _ _ := hM0 en he
  rw [oQ_v hr] at hM
  have h13 := (omt_ok en (List.mem_of_getElem? he)).2.2.1
  have hRm := C.2.2.2.1
  refine oW_size (fun hup => ?_)
  have hnx := hI.size hup
  obtain ⟨z1, z2, z3, z4, z5⟩ := hI.2.2.2.1
  have hrecv : ∃ cellB : Cell, H[b]? = some cellB ∧ cellB.vm.isStatics = false ∧ s.vm.findClass en.2.2.2.2.2.2 = some cellB.cls := by
    obtain ⟨ws, tys, g1, g2, g3, g4⟩ := hI.1
    obtain ⟨q0, g5⟩ := g4.o hb9
    have g6 := va_recv (q := oq ci) g3 g1 (oq_at hci.1) g5
    rw [hci.2] at g6
    exact g6
  have hpre : ∀ U : State, U.heap = H → s.WarmedH U.vm → oPr dC dI En sz0 (.ref b :: as) σ ((.ref b :: as) : List Value).toArray U := fun U hU hW => ⟨rfl, by rw [hU]; exact hnx, by
    have h9 := (hI.1.moved hW.alike).weaken (B := oA σ) (fun a x hx => Or.inl (by rw [hx]; rfl))
    rw [← hU] at h9
    exact h9, fun q hq => C.2.2.2.2.2.1.2.2 q (hI.sub hnx q hq), C.2.2.2.2.2.1.2.1 U H locs hI.2.1 hU hW⟩
  have hA9 : ∀ q, (σ.1 q).isSome = true → oA σ0 q := fun q h => by
    obtain ⟨x9, hx9⟩ := Option.isSome_iff_exists.mp h
    exact hI.1.in hx9
  have hAB : ∀ q, oA σ q → oB σ H q := fun q h => by
    rcases h with h | h
    · exact Or.inl h
    · exact Or.inr (by rw [← hnx]; exact h)
  refine va_callv (za_runV (As := as) (rest := rest) C.1 hM (cwV en.2.2.2.1 C.1.2.2.2.2 (ogoodV hm he hs) rfl rfl rfl ⟨(omt_ok en (List.mem_of_getElem? he)).1, (omt_ok en (List.mem_of_getElem? he)).2.2.2.2.1, (omt_ok en (List.mem_of_getElem? he)).2.2.2.2.2, (omt_ok en (List.mem_of_getElem? he)).2.1⟩ ⟨show d1 + 8 + 1 ≤ R.frames by omega, show 8 + (en.2.2.1 + 11) + (40 * d1 + 320) ≤ R.locals by omega⟩) (show 16 + (en.2.2.1 + 11) + (40 * d1 + 320) ≤ R.locals by omega) ⟨oPr_blind C.2.2.2.2.2.1.1, hrecv, hpre⟩ rfl hl9 hl.1 rfl (za_room hc) d ⟨show σ.2.2.1 - σ0.2.2.1 + (u.2.2.1 - σ.2.2.1) ≤ R.cells by omega, show σ.2.2.2 - σ0.2.2.2 + (u.2.2.2 - σ.2.2.2) ≤ R.slots by omega⟩) (oB_S hI.2.2.1) (fun q _ h => hAB q h) hAB (fun u9 t H1 locs1 ht hvm hp hB hz1 hk1 hS1 => ?_)
  have hp9 : ((none : Option Value), u9) = (none, u) := hp
  cases hp9
  refine oW_size (fun hup1 => ?_)
  have b4 := hB.2.2.2.1
  have b5 := hB.2.2.2.2.1
  have e1 : σ.2.2.1 - σ0.2.2.1 + (u.2.2.1 - σ.2.2.1) = u.2.2.1 - σ0.2.2.1 := by omega
  have e2 : σ.2.2.2 - σ0.2.2.2 + (u.2.2.2 - σ.2.2.2) = u.2.2.2 - σ0.2.2.2 := by omega
  have hI1 : oInv dC dI s σ0 u H1 locs1 := hI.call hnx ht hvm hB (oB_up z1 hA9 hI.2.1 hS1) (fun x hx => Or.inr (by
    rcases hS1.2.2 x hx with h | h
    · exact Or.inl h
    · exact Or.inr (by rw [hnx]; exact h))) (by rw [← e1]; exact hup1)
  have h9 := k ls H1 locs1 hl hI1
  rw [← e1, ← e2] at h9
  exact h9
theorem oi_callSv (C : oCx p l R s m args meth c own cc nL d0 ret dC dI En sz0 σ0 w0 e0 kc) : or_callSv own cc nL ret kc w0 (oX p l e R s m args below meth c nL ret dC dI σ0 w0) := fun pc lv rest σ ix j en as u d hm he hs hr hl9 hc hk h1 h2 h3 h4 k ls H locs hl hI => by
  obtain ⟨d1, hd1, hM0⟩ := C.2.2.2.2.2.2 j _ σ _ hk
  have hM : Met l en.1 (ows en) _ _ _ _ _ _ := hM0 en he
  rw [oQ_v hr] at hM
  have h13 := (omt_ok en (List.mem_of_getElem? he)).2.2.1
  have hRm := C.2.2.2.1
  refine oW_size (fun hup => ?_)
  have hnx := hI.size hup
  obtain ⟨z1, z2, z3, z4, z5⟩ := hI.2.2.2.1
  have hpre : ∀ U : State, U.heap = H → s.WarmedH U.vm → oPr dC dI En sz0 as σ (as : List Value).toArray U := fun U hU hW => ⟨rfl, by rw [hU]; exact hnx, by
    have h9 := (hI.1.moved hW.alike).weaken (B := oA σ) (fun a x hx => Or.inl (by rw [hx]; rfl))
    rw [← hU] at h9
    exact h9, fun q hq => C.2.2.2.2.2.1.2.2 q (hI.sub hnx q hq), C.2.2.2.2.2.1.2.1 U H locs hI.2.1 hU hW⟩
  have hA9 : ∀ q, (σ.1 q).isSome = true → oA σ0 q := fun q h => by
    obtain ⟨x9, hx9⟩ := Option.isSome_iff_exists.mp h
    exact hI.1.in hx9
  have hAB : ∀ q, oA σ q → oB σ H q := fun q h => by
    rcases h with h | h
    · exact Or.inl h
    · exact Or.inr (by rw [← hnx]; exact h)
  refine va_callv (za_runS (As := as) (rest := rest) C.1 hM (va_cwS en.2.2.2.1 C.1.2.2.2.2 (ogoodS hm he hs) rfl rfl rfl ⟨(omt_ok en (List.mem_of_getElem? he)).2.2.2.2.1, (omt_ok en (List.mem_of_getElem? he)).2.2.2.2.2, (omt_ok en (List.mem_of_getElem? he)).2.1⟩ ⟨show d1 + 8 + 1 ≤ R.frames by omega, show 8 + (en.2.2.1 + 11) + (40 * d1 + 320) ≤ R.locals by omega⟩) (show 16 + (en.2.2.1 + 11) + (40 * d1 + 320) ≤ R.locals by omega) ⟨oPr_blind C.2.2.2.2.2.1.1, hpre⟩ rfl hl9 hl.1 rfl (za_room hc) d ⟨show σ.2.2.1 - σ0.2.2.1 + (u.2.2.1 - σ.2.2.1) ≤ R.cells by omega, show σ.2.2.2 - σ0.2.2.2 + (u.2.2.2 - σ.2.2.2) ≤ R.slots by omega⟩) (oB_S hI.2.2.1) (fun q _ h => hAB q h) hAB (fun u9 t H1 locs1 ht hvm hp hB hz1 hk1 hS1 => ?_)
  have hp9 : ((none : Option Value), u9) = (none, u) := hp
  cases hp9
  refine oW_size (fun hup1 => ?_)
  have b4 := hB.2.2.2.1
  have b5 := hB.2.2.2.2.1
  have e1 : σ.2.2.1 - σ0.2.2.1 + (u.2.2.1 - σ.2.2.1) = u.2.2.1 - σ0.2.2.1 := by omega
  have e2 : σ.2.2.2 - σ0.2.2.2 + (u.2.2.2 - σ.2.2.2) = u.2.2.2 - σ0.2.2.2 := by omega
  have hI1 : oInv dC dI s σ0 u H1 locs1 := hI.call hnx ht hvm hB (oB_up z1 hA9 hI.2.1 hS1) (fun x hx => Or.inr (by
    rcases hS1.2.2 x hx with h | h
    · exact Or.inl h
    · exact Or.inr (by rw [hnx]; exact h))) (by rw [← e1]; exact hup1)
  have h9 := k ls H1 locs1 hl hI1
  rw [← e1, ← e2] at h9
  exact h9
theorem oi_callVl (C : oCx p l R s m args meth c own cc nL d0 ret dC dI En sz0 σ0 w0 e0 kc) : or_callVl own cc nL ret kc w0 (oX p l e R s m args below meth c nL ret dC dI σ0 w0) := fun pc lv rest σ ix j en as u b ci fs r d hm he hs hr hl9 hc hb9 hci hk h1 h2 h3 h4 k ls H locs hl hI => by
  obtain ⟨d1, hd1, hM0⟩ := C.2.2.2.2.2.2 j _ σ _ hk
  have hM : Met l en.1 (ows en) _ _ _ _ _ _ := hM0 en he
  rw [oQ_l hr] at hM
  have h13 := (omt_ok en (List.mem_of_getElem? he)).2.2.1
  have hRm := C.2.2.2.1
  refine oW_size (fun hup => ?_)
  have hnx := hI.size hup
  obtain ⟨z1, z2, z3, z4, z5⟩ := hI.2.2.2.1
  have hrecv : ∃ cellB : Cell, H[b]? = some cellB ∧ cellB.vm.isStatics = false ∧ s.vm.findClass en.2.2.2.2.2.2 = some cellB.cls := by
    obtain ⟨ws, tys, g1, g2, g3, g4⟩ := hI.1
    obtain ⟨q0, g5⟩ := g4.o hb9
    have g6 := va_recv (q := oq ci) g3 g1 (oq_at hci.1) g5
    rw [hci.2] at g6
    exact g6
  have hpre : ∀ U : State, U.heap = H → s.WarmedH U.vm → oPr dC dI En sz0 (.ref b :: as) σ ((.ref b :: as) : List Value).toArray U := fun U hU hW => ⟨rfl, by rw [hU]; exact hnx, by
    have h9 := (hI.1.moved hW.alike).weaken (B := oA σ) (fun a x hx => Or.inl (by rw [hx]; rfl))
    rw [← hU] at h9
    exact h9, fun q hq => C.2.2.2.2.2.1.2.2 q (hI.sub hnx q hq), C.2.2.2.2.2.1.2.1 U H locs hI.2.1 hU hW⟩
  have hA9 : ∀ q, (σ.1 q).isSome = true → oA σ0 q := fun q h => by
    obtain ⟨x9, hx9⟩ := Option.isSome_iff_exists.mp h
    exact hI.1.in hx9
  have hAB : ∀ q, oA σ q → oB σ H q := fun q h => by
    rcases h with h | h
    · exact Or.inl h
    · exact Or.inr (by rw [← hnx]; exact h)
  refine va_calll (za_runV (As := as) (rest := rest) C.1 hM (cwV en.2.2.2.1 C.1.2.2.2.2 (ogoodV hm he hs) rfl rfl rfl ⟨(omt_ok en (List.mem_of_getElem? he)).1, (omt_ok en (List.mem_of_getElem? he)).2.2.2.2.1, (omt_ok en (List.mem_of_getElem? he)).2.2.2.2.2, (omt_ok en (List.mem_of_getElem? he)).2.1⟩ ⟨show d1 + 8 + 1 ≤ R.frames by omega, show 8 + (en.2.2.1 + 11) + (40 * d1 + 320) ≤ R.locals by omega⟩) (show 16 + (en.2.2.1 + 11) + (40 * d1 + 320) ≤ R.locals by omega) ⟨oPr_blind C.2.2.2.2.2.1.1, hrecv, hpre⟩ rfl hl9 hl.1 rfl (za_room hc) d ⟨show σ.2.2.1 - σ0.2.2.1 + (u.2.2.1 - σ.2.2.1) ≤ R.cells by omega, show σ.2.2.2 - σ0.2.2.2 + (u.2.2.2 - σ.2.2.2) ≤ R.slots by omega⟩) (oB_S hI.2.2.1) (fun q _ h => hAB q h) hAB (fun r9 u9 t H1 locs1 ht hvm hp hB hz1 hk1 hS1 => ?_)
  have hp9 : (some (Value.long r9), u9) = (some (Value.long r), u) := hp
  cases hp9
  refine oW_size (fun hup1 => ?_)
  have b4 := hB.2.2.2.1
  have b5 := hB.2.2.2.2.1
  have e1 : σ.2.2.1 - σ0.2.2.1 + (u.2.2.1 - σ.2.2.1) = u.2.2.1 - σ0.2.2.1 := by omega
  have e2 : σ.2.2.2 - σ0.2.2.2 + (u.2.2.2 - σ.2.2.2) = u.2.2.2 - σ0.2.2.2 := by omega
  have hI1 : oInv dC dI s σ0 u H1 locs1 := hI.call hnx ht hvm hB (oB_up z1 hA9 hI.2.1 hS1) (fun x hx => Or.inr (by
    rcases hS1.2.2 x hx with h | h
    · exact Or.inl h
    · exact Or.inr (by rw [hnx]; exact h))) (by rw [← e1]; exact hup1)
  have h9 := k ls H1 locs1 hl hI1
  rw [← e1, ← e2] at h9
  exact h9
theorem oi_callSl (C : oCx p l R s m args meth c own cc nL d0 ret dC dI En sz0 σ0 w0 e0 kc) : or_callSl own cc nL ret kc w0 (oX p l e R s m args below meth c nL ret dC dI σ0 w0) := fun pc lv rest σ ix j en as u r d hm he hs hr hl9 hc hk h1 h2 h3 h4 k ls H locs hl hI => by
  obtain ⟨d1, hd1, hM0⟩ := C.2.2.2.2.2.2 j _ σ _ hk
  have hM : Met l en.1 (ows en) _ _ _ _ _ _ := hM0 en he
  rw [oQ_l hr] at hM
  have h13 := (omt_ok en (List.mem_of_getElem? he)).2.2.1
  have hRm := C.2.2.2.1
  refine oW_size (fun hup => ?_)
  have hnx := hI.size hup
  obtain ⟨z1, z2, z3, z4, z5⟩ := hI.2.2.2.1
  have hpre : ∀ U : State, U.heap = H → s.WarmedH U.vm → oPr dC dI En sz0 as σ (as : List Value).toArray U := fun U hU hW => ⟨rfl, by rw [hU]; exact hnx, by
    have h9 := (hI.1.moved hW.alike).weaken (B := oA σ) (fun a x hx => Or.inl (by rw [hx]; rfl))
    rw [← hU] at h9
    exact h9, fun q hq => C.2.2.2.2.2.1.2.2 q (hI.sub hnx q hq), C.2.2.2.2.2.1.2.1 U H locs hI.2.1 hU hW⟩
  have hA9 : ∀ q, (σ.1 q).isSome = true → oA σ0 q := fun q h => by
    obtain ⟨x9, hx9⟩ := Option.isSome_iff_exists.mp h
    exact hI.1.in hx9
  have hAB : ∀ q, oA σ q → oB σ H q := fun q h => by
    rcases h with h | h
    · exact Or.inl h
    · exact Or.inr (by rw [← hnx]; exact h)
  refine va_calll (za_runS (As := as) (rest := rest) C.1 hM (va_cwS en.2.2.2.1 C.1.2.2.2.2 (ogoodS hm he hs) rfl rfl rfl ⟨(omt_ok en (List.mem_of_getElem? he)).2.2.2.2.1, (omt_ok en (List.mem_of_getElem? he)).2.2.2.2.2, (omt_ok en (List.mem_of_getElem? he)).2.1⟩ ⟨show d1 + 8 + 1 ≤ R.frames by omega, show 8 + (en.2.2.1 + 11) + (40 * d1 + 320) ≤ R.locals by omega⟩) (show 16 + (en.2.2.1 + 11) + (40 * d1 + 320) ≤ R.locals by omega) ⟨oPr_blind C.2.2.2.2.2.1.1, hpre⟩ rfl hl9 hl.1 rfl (za_room hc) d ⟨show σ.2.2.1 - σ0.2.2.1 + (u.2.2.1 - σ.2.2.1) ≤ R.cells by omega, show σ.2.2.2 - σ0.2.2.2 + (u.2.2.2 - σ.2.2.2) ≤ R.slots by omega⟩) (oB_S hI.2.2.1) (fun q _ h => hAB q h) hAB (fun r9 u9 t H1 locs1 ht hvm hp hB hz1 hk1 hS1 => ?_)
  have hp9 : (some (Value.long r9), u9) = (some (Value.long r), u) := hp
  cases hp9
  refine oW_size (fun hup1 => ?_)
  have b4 := hB.2.2.2.1
  have b5 := hB.2.2.2.2.1
  have e1 : σ.2.2.1 - σ0.2.2.1 + (u.2.2.1 - σ.2.2.1) = u.2.2.1 - σ0.2.2.1 := by omega
  have e2 : σ.2.2.2 - σ0.2.2.2 + (u.2.2.2 - σ.2.2.2) = u.2.2.2 - σ0.2.2.2 := by omega
  have hI1 : oInv dC dI s σ0 u H1 locs1 := hI.call hnx ht hvm hB (oB_up z1 hA9 hI.2.1 hS1) (fun x hx => Or.inr (by
    rcases hS1.2.2 x hx with h | h
    · exact Or.inl h
    · exact Or.inr (by rw [hnx]; exact h))) (by rw [← e1]; exact hup1)
  have h9 := k ls H1 locs1 hl hI1
  rw [← e1, ← e2] at h9
  exact h9
theorem oi_callVi (C : oCx p l R s m args meth c own cc nL d0 ret dC dI En sz0 σ0 w0 e0 kc) : or_callVi own cc nL ret kc w0 (oX p l e R s m args below meth c nL ret dC dI σ0 w0) := fun pc lv rest σ ix j en as u b ci fs r d hm he hs hr hl9 hc hb9 hci hk h1 h2 h3 h4 k ls H locs hl hI => by
  obtain ⟨d1, hd1, hM0⟩ := C.2.2.2.2.2.2 j _ σ _ hk
  have hM : Met l en.1 (ows en) _ _ _ _ _ _ := hM0 en he
  rw [oQ_i hr] at hM
  have h13 := (omt_ok en (List.mem_of_getElem? he)).2.2.1
  have hRm := C.2.2.2.1
  refine oW_size (fun hup => ?_)
  have hnx := hI.size hup
  obtain ⟨z1, z2, z3, z4, z5⟩ := hI.2.2.2.1
  have hrecv : ∃ cellB : Cell, H[b]? = some cellB ∧ cellB.vm.isStatics = false ∧ s.vm.findClass en.2.2.2.2.2.2 = some cellB.cls := by
    obtain ⟨ws, tys, g1, g2, g3, g4⟩ := hI.1
    obtain ⟨q0, g5⟩ := g4.o hb9
    have g6 := va_recv (q := oq ci) g3 g1 (oq_at hci.1) g5
    rw [hci.2] at g6
    exact g6
  have hpre : ∀ U : State, U.heap = H → s.WarmedH U.vm → oPr dC dI En sz0 (.ref b :: as) σ ((.ref b :: as) : List Value).toArray U := fun U hU hW => ⟨rfl, by rw [hU]; exact hnx, by
    have h9 := (hI.1.moved hW.alike).weaken (B := oA σ) (fun a x hx => Or.inl (by rw [hx]; rfl))
    rw [← hU] at h9
    exact h9, fun q hq => C.2.2.2.2.2.1.2.2 q (hI.sub hnx q hq), C.2.2.2.2.2.1.2.1 U H locs hI.2.1 hU hW⟩
  have hA9 : ∀ q, (σ.1 q).isSome = true → oA σ0 q := fun q h => by
    obtain ⟨x9, hx9⟩ := Option.isSome_iff_exists.mp h
    exact hI.1.in hx9
  have hAB : ∀ q, oA σ q → oB σ H q := fun q h => by
    rcases h with h | h
    · exact Or.inl h
    · exact Or.inr (by rw [← hnx]; exact h)
  refine va_calli (za_runV (As := as) (rest := rest) C.1 hM (cwV en.2.2.2.1 C.1.2.2.2.2 (ogoodV hm he hs) rfl rfl rfl ⟨(omt_ok en (List.mem_of_getElem? he)).1, (omt_ok en (List.mem_of_getElem? he)).2.2.2.2.1, (omt_ok en (List.mem_of_getElem? he)).2.2.2.2.2, (omt_ok en (List.mem_of_getElem? he)).2.1⟩ ⟨show d1 + 8 + 1 ≤ R.frames by omega, show 8 + (en.2.2.1 + 11) + (40 * d1 + 320) ≤ R.locals by omega⟩) (show 16 + (en.2.2.1 + 11) + (40 * d1 + 320) ≤ R.locals by omega) ⟨oPr_blind C.2.2.2.2.2.1.1, hrecv, hpre⟩ rfl hl9 hl.1 rfl (za_room hc) d ⟨show σ.2.2.1 - σ0.2.2.1 + (u.2.2.1 - σ.2.2.1) ≤ R.cells by omega, show σ.2.2.2 - σ0.2.2.2 + (u.2.2.2 - σ.2.2.2) ≤ R.slots by omega⟩) (oB_S hI.2.2.1) (fun q _ h => hAB q h) hAB (fun r9 u9 t H1 locs1 ht hvm hp hB hz1 hk1 hS1 => ?_)
  have hp9 : (some (Value.int r9), u9) = (some (Value.int r), u) := hp
  cases hp9
  refine oW_size (fun hup1 => ?_)
  have b4 := hB.2.2.2.1
  have b5 := hB.2.2.2.2.1
  have e1 : σ.2.2.1 - σ0.2.2.1 + (u.2.2.1 - σ.2.2.1) = u.2.2.1 - σ0.2.2.1 := by omega
  have e2 : σ.2.2.2 - σ0.2.2.2 + (u.2.2.2 - σ.2.2.2) = u.2.2.2 - σ0.2.2.2 := by omega
  have hI1 : oInv dC dI s σ0 u H1 locs1 := hI.call hnx ht hvm hB (oB_up z1 hA9 hI.2.1 hS1) (fun x hx => Or.inr (by
    rcases hS1.2.2 x hx with h | h
    · exact Or.inl h
    · exact Or.inr (by rw [hnx]; exact h))) (by rw [← e1]; exact hup1)
  have h9 := k ls H1 locs1 hl hI1
  rw [← e1, ← e2] at h9
  exact h9
theorem oi_callSi (C : oCx p l R s m args meth c own cc nL d0 ret dC dI En sz0 σ0 w0 e0 kc) : or_callSi own cc nL ret kc w0 (oX p l e R s m args below meth c nL ret dC dI σ0 w0) := fun pc lv rest σ ix j en as u r d hm he hs hr hl9 hc hk h1 h2 h3 h4 k ls H locs hl hI => by
  obtain ⟨d1, hd1, hM0⟩ := C.2.2.2.2.2.2 j _ σ _ hk
  have hM : Met l en.1 (ows en) _ _ _ _ _ _ := hM0 en he
  rw [oQ_i hr] at hM
  have h13 := (omt_ok en (List.mem_of_getElem? he)).2.2.1
  have hRm := C.2.2.2.1
  refine oW_size (fun hup => ?_)
  have hnx := hI.size hup
  obtain ⟨z1, z2, z3, z4, z5⟩ := hI.2.2.2.1
  have hpre : ∀ U : State, U.heap = H → s.WarmedH U.vm → oPr dC dI En sz0 as σ (as : List Value).toArray U := fun U hU hW => ⟨rfl, by rw [hU]; exact hnx, by
    have h9 := (hI.1.moved hW.alike).weaken (B := oA σ) (fun a x hx => Or.inl (by rw [hx]; rfl))
    rw [← hU] at h9
    exact h9, fun q hq => C.2.2.2.2.2.1.2.2 q (hI.sub hnx q hq), C.2.2.2.2.2.1.2.1 U H locs hI.2.1 hU hW⟩
  have hA9 : ∀ q, (σ.1 q).isSome = true → oA σ0 q := fun q h => by
    obtain ⟨x9, hx9⟩ := Option.isSome_iff_exists.mp h
    exact hI.1.in hx9
  have hAB : ∀ q, oA σ q → oB σ H q := fun q h => by
    rcases h with h | h
    · exact Or.inl h
    · exact Or.inr (by rw [← hnx]; exact h)
  refine va_calli (za_runS (As := as) (rest := rest) C.1 hM (va_cwS en.2.2.2.1 C.1.2.2.2.2 (ogoodS hm he hs) rfl rfl rfl ⟨(omt_ok en (List.mem_of_getElem? he)).2.2.2.2.1, (omt_ok en (List.mem_of_getElem? he)).2.2.2.2.2, (omt_ok en (List.mem_of_getElem? he)).2.1⟩ ⟨show d1 + 8 + 1 ≤ R.frames by omega, show 8 + (en.2.2.1 + 11) + (40 * d1 + 320) ≤ R.locals by omega⟩) (show 16 + (en.2.2.1 + 11) + (40 * d1 + 320) ≤ R.locals by omega) ⟨oPr_blind C.2.2.2.2.2.1.1, hpre⟩ rfl hl9 hl.1 rfl (za_room hc) d ⟨show σ.2.2.1 - σ0.2.2.1 + (u.2.2.1 - σ.2.2.1) ≤ R.cells by omega, show σ.2.2.2 - σ0.2.2.2 + (u.2.2.2 - σ.2.2.2) ≤ R.slots by omega⟩) (oB_S hI.2.2.1) (fun q _ h => hAB q h) hAB (fun r9 u9 t H1 locs1 ht hvm hp hB hz1 hk1 hS1 => ?_)
  have hp9 : (some (Value.int r9), u9) = (some (Value.int r), u) := hp
  cases hp9
  refine oW_size (fun hup1 => ?_)
  have b4 := hB.2.2.2.1
  have b5 := hB.2.2.2.2.1
  have e1 : σ.2.2.1 - σ0.2.2.1 + (u.2.2.1 - σ.2.2.1) = u.2.2.1 - σ0.2.2.1 := by omega
  have e2 : σ.2.2.2 - σ0.2.2.2 + (u.2.2.2 - σ.2.2.2) = u.2.2.2 - σ0.2.2.2 := by omega
  have hI1 : oInv dC dI s σ0 u H1 locs1 := hI.call hnx ht hvm hB (oB_up z1 hA9 hI.2.1 hS1) (fun x hx => Or.inr (by
    rcases hS1.2.2 x hx with h | h
    · exact Or.inl h
    · exact Or.inr (by rw [hnx]; exact h))) (by rw [← e1]; exact hup1)
  have h9 := k ls H1 locs1 hl hI1
  rw [← e1, ← e2] at h9
  exact h9
theorem oi_callVq (C : oCx p l R s m args meth c own cc nL d0 ret dC dI En sz0 σ0 w0 e0 kc) : or_callVq own cc nL ret kc w0 (oX p l e R s m args below meth c nL ret dC dI σ0 w0) := fun pc lv rest σ ix j en as u b ci fs r d hm he hs hr hl9 hc hb9 hci hk h1 h2 h3 h4 k ls H locs hl hI => by
  obtain ⟨d1, hd1, hM0⟩ := C.2.2.2.2.2.2 j _ σ _ hk
  have hM : Met l en.1 (ows en) _ _ _ _ _ _ := hM0 en he
  rw [oQ_q hr] at hM
  have h13 := (omt_ok en (List.mem_of_getElem? he)).2.2.1
  have hRm := C.2.2.2.1
  refine oW_size (fun hup => ?_)
  have hnx := hI.size hup
  obtain ⟨z1, z2, z3, z4, z5⟩ := hI.2.2.2.1
  have hrecv : ∃ cellB : Cell, H[b]? = some cellB ∧ cellB.vm.isStatics = false ∧ s.vm.findClass en.2.2.2.2.2.2 = some cellB.cls := by
    obtain ⟨ws, tys, g1, g2, g3, g4⟩ := hI.1
    obtain ⟨q0, g5⟩ := g4.o hb9
    have g6 := va_recv (q := oq ci) g3 g1 (oq_at hci.1) g5
    rw [hci.2] at g6
    exact g6
  have hpre : ∀ U : State, U.heap = H → s.WarmedH U.vm → oPr dC dI En sz0 (.ref b :: as) σ ((.ref b :: as) : List Value).toArray U := fun U hU hW => ⟨rfl, by rw [hU]; exact hnx, by
    have h9 := (hI.1.moved hW.alike).weaken (B := oA σ) (fun a x hx => Or.inl (by rw [hx]; rfl))
    rw [← hU] at h9
    exact h9, fun q hq => C.2.2.2.2.2.1.2.2 q (hI.sub hnx q hq), C.2.2.2.2.2.1.2.1 U H locs hI.2.1 hU hW⟩
  have hA9 : ∀ q, (σ.1 q).isSome = true → oA σ0 q := fun q h => by
    obtain ⟨x9, hx9⟩ := Option.isSome_iff_exists.mp h
    exact hI.1.in hx9
  have hAB : ∀ q, oA σ q → oB σ H q := fun q h => by
    rcases h with h | h
    · exact Or.inl h
    · exact Or.inr (by rw [← hnx]; exact h)
  refine va_callq (za_runV (As := as) (rest := rest) C.1 hM (cwV en.2.2.2.1 C.1.2.2.2.2 (ogoodV hm he hs) rfl rfl rfl ⟨(omt_ok en (List.mem_of_getElem? he)).1, (omt_ok en (List.mem_of_getElem? he)).2.2.2.2.1, (omt_ok en (List.mem_of_getElem? he)).2.2.2.2.2, (omt_ok en (List.mem_of_getElem? he)).2.1⟩ ⟨show d1 + 8 + 1 ≤ R.frames by omega, show 8 + (en.2.2.1 + 11) + (40 * d1 + 320) ≤ R.locals by omega⟩) (show 16 + (en.2.2.1 + 11) + (40 * d1 + 320) ≤ R.locals by omega) ⟨oPr_blind C.2.2.2.2.2.1.1, hrecv, hpre⟩ rfl hl9 hl.1 rfl (za_room hc) d ⟨show σ.2.2.1 - σ0.2.2.1 + (u.2.2.1 - σ.2.2.1) ≤ R.cells by omega, show σ.2.2.2 - σ0.2.2.2 + (u.2.2.2 - σ.2.2.2) ≤ R.slots by omega⟩) (oB_S hI.2.2.1) (fun q _ h => hAB q h) hAB (fun r9 u9 t H1 locs1 ht hvm hp hB hz1 hk1 hS1 => ?_)
  have hp9 : (some (va_rf r9), u9) = (some (va_rf r), u) := hp
  obtain ⟨hr9, hu9⟩ := Prod.mk.inj hp9
  have hr8 := (orf_inj (Option.some.inj hr9)).symm
  have hu8 := hu9.symm
  subst hr8; subst hu8
  refine oW_size (fun hup1 => ?_)
  have b4 := hB.2.2.2.1
  have b5 := hB.2.2.2.2.1
  have e1 : σ.2.2.1 - σ0.2.2.1 + (u.2.2.1 - σ.2.2.1) = u.2.2.1 - σ0.2.2.1 := by omega
  have e2 : σ.2.2.2 - σ0.2.2.2 + (u.2.2.2 - σ.2.2.2) = u.2.2.2 - σ0.2.2.2 := by omega
  have hI1 : oInv dC dI s σ0 u H1 locs1 := hI.call hnx ht hvm hB (oB_up z1 hA9 hI.2.1 hS1) (fun x hx => Or.inr (by
    rcases hS1.2.2 x hx with h | h
    · exact Or.inl h
    · exact Or.inr (by rw [hnx]; exact h))) (by rw [← e1]; exact hup1)
  have h9 := k ls H1 locs1 hl hI1
  rw [← e1, ← e2] at h9
  exact h9
theorem oi_callSq (C : oCx p l R s m args meth c own cc nL d0 ret dC dI En sz0 σ0 w0 e0 kc) : or_callSq own cc nL ret kc w0 (oX p l e R s m args below meth c nL ret dC dI σ0 w0) := fun pc lv rest σ ix j en as u r d hm he hs hr hl9 hc hk h1 h2 h3 h4 k ls H locs hl hI => by
  obtain ⟨d1, hd1, hM0⟩ := C.2.2.2.2.2.2 j _ σ _ hk
  have hM : Met l en.1 (ows en) _ _ _ _ _ _ := hM0 en he
  rw [oQ_q hr] at hM
  have h13 := (omt_ok en (List.mem_of_getElem? he)).2.2.1
  have hRm := C.2.2.2.1
  refine oW_size (fun hup => ?_)
  have hnx := hI.size hup
  obtain ⟨z1, z2, z3, z4, z5⟩ := hI.2.2.2.1
  have hpre : ∀ U : State, U.heap = H → s.WarmedH U.vm → oPr dC dI En sz0 as σ (as : List Value).toArray U := fun U hU hW => ⟨rfl, by rw [hU]; exact hnx, by
    have h9 := (hI.1.moved hW.alike).weaken (B := oA σ) (fun a x hx => Or.inl (by rw [hx]; rfl))
    rw [← hU] at h9
    exact h9, fun q hq => C.2.2.2.2.2.1.2.2 q (hI.sub hnx q hq), C.2.2.2.2.2.1.2.1 U H locs hI.2.1 hU hW⟩
  have hA9 : ∀ q, (σ.1 q).isSome = true → oA σ0 q := fun q h => by
    obtain ⟨x9, hx9⟩ := Option.isSome_iff_exists.mp h
    exact hI.1.in hx9
  have hAB : ∀ q, oA σ q → oB σ H q := fun q h => by
    rcases h with h | h
    · exact Or.inl h
    · exact Or.inr (by rw [← hnx]; exact h)
  refine va_callq (za_runS (As := as) (rest := rest) C.1 hM (va_cwS en.2.2.2.1 C.1.2.2.2.2 (ogoodS hm he hs) rfl rfl rfl ⟨(omt_ok en (List.mem_of_getElem? he)).2.2.2.2.1, (omt_ok en (List.mem_of_getElem? he)).2.2.2.2.2, (omt_ok en (List.mem_of_getElem? he)).2.1⟩ ⟨show d1 + 8 + 1 ≤ R.frames by omega, show 8 + (en.2.2.1 + 11) + (40 * d1 + 320) ≤ R.locals by omega⟩) (show 16 + (en.2.2.1 + 11) + (40 * d1 + 320) ≤ R.locals by omega) ⟨oPr_blind C.2.2.2.2.2.1.1, hpre⟩ rfl hl9 hl.1 rfl (za_room hc) d ⟨show σ.2.2.1 - σ0.2.2.1 + (u.2.2.1 - σ.2.2.1) ≤ R.cells by omega, show σ.2.2.2 - σ0.2.2.2 + (u.2.2.2 - σ.2.2.2) ≤ R.slots by omega⟩) (oB_S hI.2.2.1) (fun q _ h => hAB q h) hAB (fun r9 u9 t H1 locs1 ht hvm hp hB hz1 hk1 hS1 => ?_)
  have hp9 : (some (va_rf r9), u9) = (some (va_rf r), u) := hp
  obtain ⟨hr9, hu9⟩ := Prod.mk.inj hp9
  have hr8 := (orf_inj (Option.some.inj hr9)).symm
  have hu8 := hu9.symm
  subst hr8; subst hu8
  refine oW_size (fun hup1 => ?_)
  have b4 := hB.2.2.2.1
  have b5 := hB.2.2.2.2.1
  have e1 : σ.2.2.1 - σ0.2.2.1 + (u.2.2.1 - σ.2.2.1) = u.2.2.1 - σ0.2.2.1 := by omega
  have e2 : σ.2.2.2 - σ0.2.2.2 + (u.2.2.2 - σ.2.2.2) = u.2.2.2 - σ0.2.2.2 := by omega
  have hI1 : oInv dC dI s σ0 u H1 locs1 := hI.call hnx ht hvm hB (oB_up z1 hA9 hI.2.1 hS1) (fun x hx => Or.inr (by
    rcases hS1.2.2 x hx with h | h
    · exact Or.inl h
    · exact Or.inr (by rw [hnx]; exact h))) (by rw [← e1]; exact hup1)
  have h9 := k ls H1 locs1 hl hI1
  rw [← e1, ← e2] at h9
  exact h9
theorem oi_vret (C : oCx p l R s m args meth c own cc nL d0 ret dC dI En sz0 σ0 w0 e0 kc) : or_vret own cc nL ret kc w0 (oX p l e R s m args below meth c nL ret dC dI σ0 w0) := fun pc lv σ d hr k ls H locs hl hI => by
  subst k
  exact W.vret C.1.1 C.1.2.1 (by rw [C.2.1, hr]) (fun t ht hW => by rw [oQ_v (by rw [hr]; rfl)]; exact ⟨⟨σ, rfl, rfl, by
    have h9 := hI.1.moved hW.alike
    rw [← ht] at h9
    obtain ⟨z1, z2, z3, z4, z5⟩ := hI.2.2.2.1
    exact ⟨h9, hI.2.2.2.2.1, hI.2.2.2.2.2, z2, z3, by omega, by rw [ht]; exact z5⟩⟩, hI.2.1.F ht⟩) hI.2.1.2.2 d C.2.2.1
theorem oi_iret (C : oCx p l R s m args meth c own cc nL d0 ret dC dI En sz0 σ0 w0 e0 kc) : or_iret own cc nL ret kc w0 (oX p l e R s m args below meth c nL ret dC dI σ0 w0) := fun pc lv σ x d hr k ls H locs hl hI => by
  subst k
  exact W.iret (v := x) C.1.1 C.1.2.1 (by rw [C.2.1, hr]) (fun t ht hW => by rw [oQ_i (by rw [hr]; rfl)]; exact ⟨⟨x, σ, rfl, rfl, by
    have h9 := hI.1.moved hW.alike
    rw [← ht] at h9
    obtain ⟨z1, z2, z3, z4, z5⟩ := hI.2.2.2.1
    exact ⟨h9, hI.2.2.2.2.1, hI.2.2.2.2.2, z2, z3, by omega, by rw [ht]; exact z5⟩⟩, hI.2.1.F ht⟩) hI.2.1.2.2 d C.2.2.1
theorem oi_zret (C : oCx p l R s m args meth c own cc nL d0 ret dC dI En sz0 σ0 w0 e0 kc) : or_zret own cc nL ret kc w0 (oX p l e R s m args below meth c nL ret dC dI σ0 w0) := fun pc lv σ x d hr hn k ls H locs hl hI => by
  subst k
  exact W.zret (v := x) C.1.1 C.1.2.1 (by rw [C.2.1, hr]) hn (fun t ht hW => by rw [oQ_i (by rw [hr]; rfl)]; exact ⟨⟨x, σ, rfl, rfl, by
    have h9 := hI.1.moved hW.alike
    rw [← ht] at h9
    obtain ⟨z1, z2, z3, z4, z5⟩ := hI.2.2.2.1
    exact ⟨h9, hI.2.2.2.2.1, hI.2.2.2.2.2, z2, z3, by omega, by rw [ht]; exact z5⟩⟩, hI.2.1.F ht⟩) hI.2.1.2.2 d C.2.2.1
theorem oi_lret (C : oCx p l R s m args meth c own cc nL d0 ret dC dI En sz0 σ0 w0 e0 kc) : or_lret own cc nL ret kc w0 (oX p l e R s m args below meth c nL ret dC dI σ0 w0) := fun pc lv σ x d hr k ls H locs hl hI => by
  subst k
  exact W.lret (v := x) C.1.1 C.1.2.1 (by rw [C.2.1, hr]) (fun t ht hW => by rw [oQ_l (by rw [hr]; rfl)]; exact ⟨⟨x, σ, rfl, rfl, by
    have h9 := hI.1.moved hW.alike
    rw [← ht] at h9
    obtain ⟨z1, z2, z3, z4, z5⟩ := hI.2.2.2.1
    exact ⟨h9, hI.2.2.2.2.1, hI.2.2.2.2.2, z2, z3, by omega, by rw [ht]; exact z5⟩⟩, hI.2.1.F ht⟩) hI.2.1.2.2 d C.2.2.1
theorem oi_aret (C : oCx p l R s m args meth c own cc nL d0 ret dC dI En sz0 σ0 w0 e0 kc) : or_aret own cc nL ret kc w0 (oX p l e R s m args below meth c nL ret dC dI σ0 w0) := fun pc lv σ r C9 d hr k ls H locs hl hI => by
  subst k
  exact W.aret (v := va_rf r) C.1.1 C.1.2.1 (by rw [C.2.1, hr]) (Or.inl ⟨C9, rfl⟩) (va_rf_or r) (fun t ht hW => by rw [oQ_q (by rw [hr]; rfl)]; exact ⟨⟨r, σ, rfl, rfl, by
    have h9 := hI.1.moved hW.alike
    rw [← ht] at h9
    obtain ⟨z1, z2, z3, z4, z5⟩ := hI.2.2.2.1
    exact ⟨h9, hI.2.2.2.2.1, hI.2.2.2.2.2, z2, z3, by omega, by rw [ht]; exact z5⟩⟩, hI.2.1.F ht⟩) hI.2.1.2.2 d C.2.2.1
theorem oi_all (C : oCx p l R s m args meth c own cc nL d0 ret dC dI En sz0 σ0 w0 e0 kc) : oSem own cc nL ret kc w0 (oX p l e R s m args below meth c nL ret dC dI σ0 w0) := fun n => match n with
  | 0 => oi_iconst (kc := kc) C
  | 1 => oi_bipush (kc := kc) C
  | 2 => oi_sipush (kc := kc) C
  | 3 => oi_lconst (kc := kc) C
  | 4 => oi_iload (kc := kc) C
  | 5 => oi_iload_n (kc := kc) C
  | 6 => oi_lload (kc := kc) C
  | 7 => oi_lload_n (kc := kc) C
  | 8 => oi_istore (kc := kc) C
  | 9 => oi_istore_n (kc := kc) C
  | 10 => oi_lstore (kc := kc) C
  | 11 => oi_lstore_n (kc := kc) C
  | 12 => oi_iinc (kc := kc) C
  | 13 => oi_weak (kc := kc) C
  | 14 => oi_iadd (kc := kc) C
  | 15 => oi_isub (kc := kc) C
  | 16 => oi_imul (kc := kc) C
  | 17 => oi_ishr (kc := kc) C
  | 18 => oi_iand (kc := kc) C
  | 19 => oi_ixor (kc := kc) C
  | 20 => oi_irem (kc := kc) C
  | 21 => oi_ineg (kc := kc) C
  | 22 => oi_ladd (kc := kc) C
  | 23 => oi_lsub (kc := kc) C
  | 24 => oi_lmul (kc := kc) C
  | 25 => oi_ldiv (kc := kc) C
  | 26 => oi_lrem (kc := kc) C
  | 27 => oi_lneg (kc := kc) C
  | 28 => oi_i2l (kc := kc) C
  | 29 => oi_l2i (kc := kc) C
  | 30 => oi_i2b (kc := kc) C
  | 31 => oi_lcmp (kc := kc) C
  | 32 => oi_if_eq (kc := kc) C
  | 33 => oi_if_ne (kc := kc) C
  | 34 => oi_if_lt (kc := kc) C
  | 35 => oi_if_ge (kc := kc) C
  | 36 => oi_if_gt (kc := kc) C
  | 37 => oi_if_le (kc := kc) C
  | 38 => oi_icmp_eq (kc := kc) C
  | 39 => oi_icmp_ne (kc := kc) C
  | 40 => oi_icmp_lt (kc := kc) C
  | 41 => oi_icmp_ge (kc := kc) C
  | 42 => oi_icmp_gt (kc := kc) C
  | 43 => oi_icmp_le (kc := kc) C
  | 44 => oi_goto (kc := kc) C
  | 45 => oi_tableIn (kc := kc) C
  | 46 => oi_tableOut (kc := kc) C
  | 47 => oi_lookup (kc := kc) C
  | 48 => oi_dup (kc := kc) C
  | 49 => oi_dup2 (kc := kc) C
  | 50 => oi_pop (kc := kc) C
  | 51 => oi_land (kc := kc) C
  | 52 => oi_i2c (kc := kc) C
  | 53 => oi_aload (kc := kc) C
  | 54 => oi_aload_n (kc := kc) C
  | 55 => oi_astore (kc := kc) C
  | 56 => oi_astore_n (kc := kc) C
  | 57 => oi_null (kc := kc) C
  | 58 => oi_ifnull (kc := kc) C
  | 59 => oi_ifnonnull (kc := kc) C
  | 60 => oi_acmp_eq (kc := kc) C
  | 61 => oi_acmp_ne (kc := kc) C
  | 62 => oi_getf (kc := kc) C
  | 63 => oi_putf (kc := kc) C
  | 64 => oi_iald (kc := kc) C
  | 65 => oi_bald (kc := kc) C
  | 66 => oi_zald (kc := kc) C
  | 67 => oi_cald (kc := kc) C
  | 68 => oi_lald (kc := kc) C
  | 69 => oi_aald (kc := kc) C
  | 70 => oi_alen (kc := kc) C
  | 71 => oi_iast (kc := kc) C
  | 72 => oi_bast (kc := kc) C
  | 73 => oi_zast (kc := kc) C
  | 74 => oi_cast (kc := kc) C
  | 75 => oi_last (kc := kc) C
  | 76 => oi_aast (kc := kc) C
  | 77 => oi_aastN (kc := kc) C
  | 78 => oi_ldc (kc := kc) C
  | 79 => oi_ldc2 (kc := kc) C
  | 80 => oi_new (kc := kc) C
  | 81 => oi_newI (kc := kc) C
  | 82 => oi_newZ (kc := kc) C
  | 83 => oi_newB (kc := kc) C
  | 84 => oi_newC (kc := kc) C
  | 85 => oi_newJ (kc := kc) C
  | 86 => oi_newq (kc := kc) C
  | 87 => oi_callVv (kc := kc) C
  | 88 => oi_callSv (kc := kc) C
  | 89 => oi_callVl (kc := kc) C
  | 90 => oi_callSl (kc := kc) C
  | 91 => oi_callVi (kc := kc) C
  | 92 => oi_callSi (kc := kc) C
  | 93 => oi_callVq (kc := kc) C
  | 94 => oi_callSq (kc := kc) C
  | 95 => oi_vret (kc := kc) C
  | 96 => oi_iret (kc := kc) C
  | 97 => oi_zret (kc := kc) C
  | 98 => oi_lret (kc := kc) C
  | 99 => oi_aret (kc := kc) C
  | n + 100 => trivial
end OXI
