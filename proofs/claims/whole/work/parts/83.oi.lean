/-! the machine keeps the rules of the class's plain logic (what stands in 82) -/
def wOf : List Cond := oft.map (fun q => .fieldLink q.1 q.2.1 ((oq q.2.2.1).2.1 q.2.2.2).1 ((oq q.2.2.1).2.1 q.2.2.2).2.1 ((oq q.2.2.1).2.1 q.2.2.2).2.2.1)
def wOu : List Cond := (List.range 15).flatMap (fun ci => u_ws (oq ci).1 (oq ci).2.1 (oq ci).2.2)
theorem oft_ok : ∀ q ∈ oft, q.2.2.1 < 15 ∧ q.2.2.2 < (oq q.2.2.1).2.2 := by decide +kernel
theorem oq_ty : ∀ ci, ci < 15 → ∀ k, k < (oq ci).2.2 → (parseFieldDescriptor ((oq ci).2.1 k).2.2.1).isSome = true := by decide +kernel
theorem oq_nm : ∀ ci, ci < 15 → ∀ a, a < (oq ci).2.2 → ∀ b, b < (oq ci).2.2 → a ≠ b → ((oq ci).2.1 a).2.1 ≠ ((oq ci).2.1 b).2.1 := by decide +kernel
theorem oq_at {ci : Nat} (h : ci < 15) : vwCl[ci]? = some (oq ci) := by
  have hl : ci < vwCl.length := Nat.lt_trans h (by decide)
  unfold oq
  rw [List.getD_eq_getElem?_getD, List.getElem?_eq_getElem hl]
  rfl
theorem oty_ok {ci : Nat} (h : ci < 15) : ∀ k, k < (oq ci).2.2 → parseFieldDescriptor ((oq ci).2.1 k).2.2.1 = some (oty ci k) := fun k hk => by
  have h1 := oq_ty ci h k hk
  unfold oty
  cases h2 : parseFieldDescriptor ((oq ci).2.1 k).2.2.1 with
  | none => rw [h2] at h1; cases h1
  | some x => rfl
def okd (ret : Option FieldType) : Nat := match ret with
  | none => 0
  | some .long => 1
  | some (.object _) => 3
  | some (.array _) => 3
  | some _ => 2
def oQ (ret : Option FieldType) (w0 : Option Value × oSt) (B : oSt → State → Prop) (A : Nat → Prop) : Array Value → State → Outcome → State → Prop := if okd ret = 0 then va_Qv (fun u => (none, u) = w0) B A else if okd ret = 1 then va_Ql (fun r u => (some (.long r), u) = w0) B A else if okd ret = 2 then va_Qi (fun r u => (some (.int r), u) = w0) B A else va_Qq (fun r u => (some (va_rf r), u) = w0) B A
theorem oQ_v {ret : Option FieldType} {w0 : Option Value × oSt} {B : oSt → State → Prop} {A : Nat → Prop} (h : okd ret = 0) : oQ ret w0 B A = va_Qv (fun u => (none, u) = w0) B A := if_pos h
theorem oQ_l {ret : Option FieldType} {w0 : Option Value × oSt} {B : oSt → State → Prop} {A : Nat → Prop} (h : okd ret = 1) : oQ ret w0 B A = va_Ql (fun r u => (some (.long r), u) = w0) B A := by unfold oQ; rw [if_neg (by rw [h]; decide), if_pos h]
theorem oQ_i {ret : Option FieldType} {w0 : Option Value × oSt} {B : oSt → State → Prop} {A : Nat → Prop} (h : okd ret = 2) : oQ ret w0 B A = va_Qi (fun r u => (some (.int r), u) = w0) B A := by unfold oQ; rw [if_neg (by rw [h]; decide), if_neg (by rw [h]; decide), if_pos h]
theorem oQ_q {ret : Option FieldType} {w0 : Option Value × oSt} {B : oSt → State → Prop} {A : Nat → Prop} (h : okd ret = 3) : oQ ret w0 B A = va_Qq (fun r u => (some (va_rf r), u) = w0) B A := by unfold oQ; rw [if_neg (by rw [h]; decide), if_neg (by rw [h]; decide), if_neg (by rw [h]; decide)]
def oBw (dC : Nat → ClassId) (dI : Nat → Nat → Nat) (A : Nat → Prop) (u : oSt) (t : State) : Prop := oR dC dI A t u t.heap
section OXI
variable {p : Program} {l : Launch} {e : Env} {R : Room} {s : State} {m : MethodId} {args : Array Value} {below : List Frame} {meth : Method} {c : Code}
variable {own : String} {cc : ByteArray} {nL : Nat} {ret : Option FieldType} {dC : Nat → ClassId} {dI : Nat → Nat → Nat} {σ0 : oSt} {w0 : Option Value × oSt} {Ts : List Cond} {kc : Nat → List Value → oSt → Option Value × oSt → Prop}
/-- what holds all through a body of the class -/
def oCx (p : Program) (s : State) (m : MethodId) (args : Array Value) (meth : Method) (c : Code) (own : String) (cc : ByteArray) (nL : Nat) (ret : Option FieldType) (σ0 : oSt) (Ts : List Cond) : Prop :=
  CallFix p m c cc nL s args Ts own ∧ (∀ w ∈ wOf, w ∈ Ts) ∧ (∀ w ∈ wOu, w ∈ Ts) ∧ meth.sig.returnType = ret ∧ meth.locks = false
/-- the machine at a place of a body of the class -/
def oX (p : Program) (l : Launch) (e : Env) (R : Room) (s : State) (m : MethodId) (args : Array Value) (below : List Frame) (meth : Method) (c : Code) (nL : Nat) (ret : Option FieldType) (dC : Nat → ClassId) (dI : Nat → Nat → Nat) (σ0 : oSt) (w0 : Option Value × oSt) (pc : Nat) (lv : zLv) (st : List Value) (σ : oSt) : Prop :=
  ∀ (ls : Array Slot) (H : Heap) (locs : List Loc), zhas ls nL lv → oR dC dI (oA σ0) s σ H → va_S (oA σ0) s.heap H locs → oLc σ H locs → oSz s σ0 σ H → W p l e R s m args below meth c H locs (σ.2.2.1 - σ0.2.2.1) (σ.2.2.2 - σ0.2.2.2) (MQ below (oQ ret w0 (oBw dC dI (oA σ0)) (oA σ0)) args s (w0.2.2.2.1 - σ0.2.2.1) (w0.2.2.2.2 - σ0.2.2.2) (oA σ0)) (F0 m pc ls st)
theorem oSz.low {s : State} {σ0 σ : oSt} {H : Heap} (h : oSz s σ0 σ H) : s.heap.size + (σ.2.2.1 - σ0.2.2.1) ≤ H.size := by
  have h1 := h.2.2.2.1
  have h2 := h.2.2.2.2
  omega
theorem oSz.put {s : State} {σ0 σ : oSt} {H H1 : Heap} {a : Nat} {x : oC} (h : oSz s σ0 σ H) (hz : H1.size = H.size) : oSz s σ0 (oput σ a x) H1 := ⟨h.1, h.2.1, h.2.2.1, h.2.2.2.1, by rw [hz]; exact h.2.2.2.2⟩
theorem oi_iconst (C : oCx p s m args meth c own cc nL ret σ0 Ts) : or_iconst own cc nL ret kc w0 (oX p l e R s m args below meth c nL ret dC dI σ0 w0) := fun pc lv st σ n v d hv k ls H locs hl hR hS hL hZ => lv_iconst C.1.1 C.1.2.1 d hv (k ls H locs hl hR hS hL hZ)
theorem oi_bipush (C : oCx p s m args meth c own cc nL ret σ0 Ts) : or_bipush own cc nL ret kc w0 (oX p l e R s m args below meth c nL ret dC dI σ0 w0) := fun pc lv st σ n v d hv k ls H locs hl hR hS hL hZ => lv_bipush C.1.1 C.1.2.1 d hv (k ls H locs hl hR hS hL hZ)
theorem oi_sipush (C : oCx p s m args meth c own cc nL ret σ0 Ts) : or_sipush own cc nL ret kc w0 (oX p l e R s m args below meth c nL ret dC dI σ0 w0) := fun pc lv st σ n v d hv k ls H locs hl hR hS hL hZ => lv_sipush C.1.1 C.1.2.1 d hv (k ls H locs hl hR hS hL hZ)
theorem oi_lconst (C : oCx p s m args meth c own cc nL ret σ0 Ts) : or_lconst own cc nL ret kc w0 (oX p l e R s m args below meth c nL ret dC dI σ0 w0) := fun pc lv st σ n v d hv k ls H locs hl hR hS hL hZ => lv_lconst C.1.1 C.1.2.1 d hv (k ls H locs hl hR hS hL hZ)
theorem oi_iload (C : oCx p s m args meth c own cc nL ret σ0 Ts) : or_iload own cc nL ret kc w0 (oX p l e R s m args below meth c nL ret dC dI σ0 w0) := fun pc lv st σ i x d h1 k ls H locs hl hR hS hL hZ => lv_iload C.1.1 C.1.2.1 d (hl.2.2 i _ h1) (k ls H locs hl hR hS hL hZ)
theorem oi_iload_n (C : oCx p s m args meth c own cc nL ret σ0 Ts) : or_iload_n own cc nL ret kc w0 (oX p l e R s m args below meth c nL ret dC dI σ0 w0) := fun pc lv st σ n i x d hi h1 k ls H locs hl hR hS hL hZ => lv_iload_n C.1.1 C.1.2.1 d hi (hl.2.2 i _ h1) (k ls H locs hl hR hS hL hZ)
theorem oi_lload (C : oCx p s m args meth c own cc nL ret σ0 Ts) : or_lload own cc nL ret kc w0 (oX p l e R s m args below meth c nL ret dC dI σ0 w0) := fun pc lv st σ i x d h1 k ls H locs hl hR hS hL hZ => lv_lload C.1.1 C.1.2.1 d (hl.2.2 i _ h1) (k ls H locs hl hR hS hL hZ)
theorem oi_lload_n (C : oCx p s m args meth c own cc nL ret σ0 Ts) : or_lload_n own cc nL ret kc w0 (oX p l e R s m args below meth c nL ret dC dI σ0 w0) := fun pc lv st σ n i x d hi h1 k ls H locs hl hR hS hL hZ => lv_lload_n C.1.1 C.1.2.1 d hi (hl.2.2 i _ h1) (k ls H locs hl hR hS hL hZ)
theorem oi_istore (C : oCx p s m args meth c own cc nL ret σ0 Ts) : or_istore own cc nL ret kc w0 (oX p l e R s m args below meth c nL ret dC dI σ0 w0) := fun pc lv st σ i x d hn ho k ls H locs hl hR hS hL hZ => lv_istore C.1.1 C.1.2.1 d hl.to hn rfl (fun ls1 h1 => k ls1 H locs (zhas.st1 ho h1) hR hS hL hZ)
theorem oi_istore_n (C : oCx p s m args meth c own cc nL ret σ0 Ts) : or_istore_n own cc nL ret kc w0 (oX p l e R s m args below meth c nL ret dC dI σ0 w0) := fun pc lv st σ n i x d hi hn ho k ls H locs hl hR hS hL hZ => lv_istore_n C.1.1 C.1.2.1 d hi hl.to hn rfl (fun ls1 h1 => k ls1 H locs (zhas.st1 ho h1) hR hS hL hZ)
theorem oi_lstore (C : oCx p s m args meth c own cc nL ret σ0 Ts) : or_lstore own cc nL ret kc w0 (oX p l e R s m args below meth c nL ret dC dI σ0 w0) := fun pc lv st σ i x d hn ho k ls H locs hl hR hS hL hZ => lv_lstore C.1.1 C.1.2.1 d hl.to hn rfl (fun ls1 h1 => k ls1 H locs (zhas.st2 ho h1) hR hS hL hZ)
theorem oi_lstore_n (C : oCx p s m args meth c own cc nL ret σ0 Ts) : or_lstore_n own cc nL ret kc w0 (oX p l e R s m args below meth c nL ret dC dI σ0 w0) := fun pc lv st σ n i x d hi hn ho k ls H locs hl hR hS hL hZ => lv_lstore_n C.1.1 C.1.2.1 d hi hl.to hn rfl (fun ls1 h1 => k ls1 H locs (zhas.st2 ho h1) hR hS hL hZ)
theorem oi_iinc (C : oCx p s m args meth c own cc nL ret σ0 Ts) : or_iinc own cc nL ret kc w0 (oX p l e R s m args below meth c nL ret dC dI σ0 w0) := fun pc lv st σ i n x v d h1 hv hn ho k ls H locs hl hR hS hL hZ => by
  obtain ⟨n9, h9⟩ := List.getElem?_of_mem (zlist_mem.mpr h1)
  exact lv_iinc C.1.1 C.1.2.1 d hl.to h9 hv hn rfl (fun ls1 h2 => k ls1 H locs (zhas.st1 ho h2) hR hS hL hZ)
theorem oi_weak (C : oCx p s m args meth c own cc nL ret σ0 Ts) : or_weak own cc nL ret kc w0 (oX p l e R s m args below meth c nL ret dC dI σ0 w0) := fun pc lv st σ lw hw k ls H locs hl hR hS hL hZ => k ls H locs ⟨hl.1, hl.2.1, fun i v h => hl.2.2 i v (zle_at _ _ hw i v h)⟩ hR hS hL hZ
theorem oi_iadd (C : oCx p s m args meth c own cc nL ret σ0 Ts) : or_iadd own cc nL ret kc w0 (oX p l e R s m args below meth c nL ret dC dI σ0 w0) := fun pc lv st σ x y d k ls H locs hl hR hS hL hZ => lv_iadd C.1.1 C.1.2.1 d (k ls H locs hl hR hS hL hZ)
theorem oi_isub (C : oCx p s m args meth c own cc nL ret σ0 Ts) : or_isub own cc nL ret kc w0 (oX p l e R s m args below meth c nL ret dC dI σ0 w0) := fun pc lv st σ x y d k ls H locs hl hR hS hL hZ => lv_isub C.1.1 C.1.2.1 d (k ls H locs hl hR hS hL hZ)
theorem oi_imul (C : oCx p s m args meth c own cc nL ret σ0 Ts) : or_imul own cc nL ret kc w0 (oX p l e R s m args below meth c nL ret dC dI σ0 w0) := fun pc lv st σ x y d k ls H locs hl hR hS hL hZ => lv_imul C.1.1 C.1.2.1 d (k ls H locs hl hR hS hL hZ)
theorem oi_ishr (C : oCx p s m args meth c own cc nL ret σ0 Ts) : or_ishr own cc nL ret kc w0 (oX p l e R s m args below meth c nL ret dC dI σ0 w0) := fun pc lv st σ x y d k ls H locs hl hR hS hL hZ => lv_ishr C.1.1 C.1.2.1 d (k ls H locs hl hR hS hL hZ)
theorem oi_iand (C : oCx p s m args meth c own cc nL ret σ0 Ts) : or_iand own cc nL ret kc w0 (oX p l e R s m args below meth c nL ret dC dI σ0 w0) := fun pc lv st σ x y d k ls H locs hl hR hS hL hZ => lv_iand C.1.1 C.1.2.1 d (k ls H locs hl hR hS hL hZ)
theorem oi_ixor (C : oCx p s m args meth c own cc nL ret σ0 Ts) : or_ixor own cc nL ret kc w0 (oX p l e R s m args below meth c nL ret dC dI σ0 w0) := fun pc lv st σ x y d k ls H locs hl hR hS hL hZ => lv_ixor C.1.1 C.1.2.1 d (k ls H locs hl hR hS hL hZ)
theorem oi_irem (C : oCx p s m args meth c own cc nL ret σ0 Ts) : or_irem own cc nL ret kc w0 (oX p l e R s m args below meth c nL ret dC dI σ0 w0) := fun pc lv st σ x y d hne k ls H locs hl hR hS hL hZ => lv_irem C.1.1 C.1.2.1 d hne (k ls H locs hl hR hS hL hZ)
theorem oi_ineg (C : oCx p s m args meth c own cc nL ret σ0 Ts) : or_ineg own cc nL ret kc w0 (oX p l e R s m args below meth c nL ret dC dI σ0 w0) := fun pc lv st σ x d k ls H locs hl hR hS hL hZ => lv_ineg C.1.1 C.1.2.1 d (k ls H locs hl hR hS hL hZ)
theorem oi_ladd (C : oCx p s m args meth c own cc nL ret σ0 Ts) : or_ladd own cc nL ret kc w0 (oX p l e R s m args below meth c nL ret dC dI σ0 w0) := fun pc lv st σ x y d k ls H locs hl hR hS hL hZ => lv_ladd C.1.1 C.1.2.1 d (k ls H locs hl hR hS hL hZ)
theorem oi_lsub (C : oCx p s m args meth c own cc nL ret σ0 Ts) : or_lsub own cc nL ret kc w0 (oX p l e R s m args below meth c nL ret dC dI σ0 w0) := fun pc lv st σ x y d k ls H locs hl hR hS hL hZ => lv_lsub C.1.1 C.1.2.1 d (k ls H locs hl hR hS hL hZ)
theorem oi_lmul (C : oCx p s m args meth c own cc nL ret σ0 Ts) : or_lmul own cc nL ret kc w0 (oX p l e R s m args below meth c nL ret dC dI σ0 w0) := fun pc lv st σ x y d k ls H locs hl hR hS hL hZ => lv_lmul C.1.1 C.1.2.1 d (k ls H locs hl hR hS hL hZ)
theorem oi_ldiv (C : oCx p s m args meth c own cc nL ret σ0 Ts) : or_ldiv own cc nL ret kc w0 (oX p l e R s m args below meth c nL ret dC dI σ0 w0) := fun pc lv st σ x y d hne k ls H locs hl hR hS hL hZ => lv_ldiv C.1.1 C.1.2.1 d hne (k ls H locs hl hR hS hL hZ)
theorem oi_lrem (C : oCx p s m args meth c own cc nL ret σ0 Ts) : or_lrem own cc nL ret kc w0 (oX p l e R s m args below meth c nL ret dC dI σ0 w0) := fun pc lv st σ x y d hne k ls H locs hl hR hS hL hZ => lv_lrem C.1.1 C.1.2.1 d hne (k ls H locs hl hR hS hL hZ)
theorem oi_lneg (C : oCx p s m args meth c own cc nL ret σ0 Ts) : or_lneg own cc nL ret kc w0 (oX p l e R s m args below meth c nL ret dC dI σ0 w0) := fun pc lv st σ x d k ls H locs hl hR hS hL hZ => lv_lneg C.1.1 C.1.2.1 d (k ls H locs hl hR hS hL hZ)
theorem oi_i2l (C : oCx p s m args meth c own cc nL ret σ0 Ts) : or_i2l own cc nL ret kc w0 (oX p l e R s m args below meth c nL ret dC dI σ0 w0) := fun pc lv st σ x d k ls H locs hl hR hS hL hZ => lv_i2l C.1.1 C.1.2.1 d rfl (k ls H locs hl hR hS hL hZ)
theorem oi_l2i (C : oCx p s m args meth c own cc nL ret σ0 Ts) : or_l2i own cc nL ret kc w0 (oX p l e R s m args below meth c nL ret dC dI σ0 w0) := fun pc lv st σ x d k ls H locs hl hR hS hL hZ => lv_l2i C.1.1 C.1.2.1 d rfl (k ls H locs hl hR hS hL hZ)
theorem oi_i2b (C : oCx p s m args meth c own cc nL ret σ0 Ts) : or_i2b own cc nL ret kc w0 (oX p l e R s m args below meth c nL ret dC dI σ0 w0) := fun pc lv st σ x d k ls H locs hl hR hS hL hZ => lv_i2b C.1.1 C.1.2.1 d rfl (k ls H locs hl hR hS hL hZ)
theorem oi_lcmp (C : oCx p s m args meth c own cc nL ret σ0 Ts) : or_lcmp own cc nL ret kc w0 (oX p l e R s m args below meth c nL ret dC dI σ0 w0) := fun pc lv st σ x y d k ls H locs hl hR hS hL hZ => W.lcmp C.1.1 C.1.2.1 d (k ls H locs hl hR hS hL hZ)
theorem oi_if_eq (C : oCx p s m args meth c own cc nL ret σ0 Ts) : or_if_eq own cc nL ret kc w0 (oX p l e R s m args below meth c nL ret dC dI σ0 w0) := fun pc lv st σ x off tgt d ht kt kf ls H locs hl hR hS hL hZ => lv_if_eq C.1.1 C.1.2.1 d ht (fun h9 => kt h9 ls H locs hl hR hS hL hZ) (fun h9 => kf h9 ls H locs hl hR hS hL hZ)
theorem oi_if_ne (C : oCx p s m args meth c own cc nL ret σ0 Ts) : or_if_ne own cc nL ret kc w0 (oX p l e R s m args below meth c nL ret dC dI σ0 w0) := fun pc lv st σ x off tgt d ht kt kf ls H locs hl hR hS hL hZ => lv_if_ne C.1.1 C.1.2.1 d ht (fun h9 => kt h9 ls H locs hl hR hS hL hZ) (fun h9 => kf h9 ls H locs hl hR hS hL hZ)
theorem oi_if_lt (C : oCx p s m args meth c own cc nL ret σ0 Ts) : or_if_lt own cc nL ret kc w0 (oX p l e R s m args below meth c nL ret dC dI σ0 w0) := fun pc lv st σ x off tgt d ht kt kf ls H locs hl hR hS hL hZ => lv_if_lt C.1.1 C.1.2.1 d ht (fun h9 => kt h9 ls H locs hl hR hS hL hZ) (fun h9 => kf h9 ls H locs hl hR hS hL hZ)
theorem oi_if_ge (C : oCx p s m args meth c own cc nL ret σ0 Ts) : or_if_ge own cc nL ret kc w0 (oX p l e R s m args below meth c nL ret dC dI σ0 w0) := fun pc lv st σ x off tgt d ht kt kf ls H locs hl hR hS hL hZ => lv_if_ge C.1.1 C.1.2.1 d ht (fun h9 => kt h9 ls H locs hl hR hS hL hZ) (fun h9 => kf h9 ls H locs hl hR hS hL hZ)
theorem oi_if_gt (C : oCx p s m args meth c own cc nL ret σ0 Ts) : or_if_gt own cc nL ret kc w0 (oX p l e R s m args below meth c nL ret dC dI σ0 w0) := fun pc lv st σ x off tgt d ht kt kf ls H locs hl hR hS hL hZ => lv_if_gt C.1.1 C.1.2.1 d ht (fun h9 => kt h9 ls H locs hl hR hS hL hZ) (fun h9 => kf h9 ls H locs hl hR hS hL hZ)
theorem oi_if_le (C : oCx p s m args meth c own cc nL ret σ0 Ts) : or_if_le own cc nL ret kc w0 (oX p l e R s m args below meth c nL ret dC dI σ0 w0) := fun pc lv st σ x off tgt d ht kt kf ls H locs hl hR hS hL hZ => lv_if_le C.1.1 C.1.2.1 d ht (fun h9 => kt h9 ls H locs hl hR hS hL hZ) (fun h9 => kf h9 ls H locs hl hR hS hL hZ)
theorem oi_icmp_eq (C : oCx p s m args meth c own cc nL ret σ0 Ts) : or_icmp_eq own cc nL ret kc w0 (oX p l e R s m args below meth c nL ret dC dI σ0 w0) := fun pc lv st σ x y off tgt d ht kt kf ls H locs hl hR hS hL hZ => lv_icmp_eq C.1.1 C.1.2.1 d ht (fun h9 => kt h9 ls H locs hl hR hS hL hZ) (fun h9 => kf h9 ls H locs hl hR hS hL hZ)
theorem oi_icmp_ne (C : oCx p s m args meth c own cc nL ret σ0 Ts) : or_icmp_ne own cc nL ret kc w0 (oX p l e R s m args below meth c nL ret dC dI σ0 w0) := fun pc lv st σ x y off tgt d ht kt kf ls H locs hl hR hS hL hZ => lv_icmp_ne C.1.1 C.1.2.1 d ht (fun h9 => kt h9 ls H locs hl hR hS hL hZ) (fun h9 => kf h9 ls H locs hl hR hS hL hZ)
theorem oi_icmp_lt (C : oCx p s m args meth c own cc nL ret σ0 Ts) : or_icmp_lt own cc nL ret kc w0 (oX p l e R s m args below meth c nL ret dC dI σ0 w0) := fun pc lv st σ x y off tgt d ht kt kf ls H locs hl hR hS hL hZ => lv_icmp_lt C.1.1 C.1.2.1 d ht (fun h9 => kt h9 ls H locs hl hR hS hL hZ) (fun h9 => kf h9 ls H locs hl hR hS hL hZ)
theorem oi_icmp_ge (C : oCx p s m args meth c own cc nL ret σ0 Ts) : or_icmp_ge own cc nL ret kc w0 (oX p l e R s m args below meth c nL ret dC dI σ0 w0) := fun pc lv st σ x y off tgt d ht kt kf ls H locs hl hR hS hL hZ => lv_icmp_ge C.1.1 C.1.2.1 d ht (fun h9 => kt h9 ls H locs hl hR hS hL hZ) (fun h9 => kf h9 ls H locs hl hR hS hL hZ)
theorem oi_icmp_gt (C : oCx p s m args meth c own cc nL ret σ0 Ts) : or_icmp_gt own cc nL ret kc w0 (oX p l e R s m args below meth c nL ret dC dI σ0 w0) := fun pc lv st σ x y off tgt d ht kt kf ls H locs hl hR hS hL hZ => lv_icmp_gt C.1.1 C.1.2.1 d ht (fun h9 => kt h9 ls H locs hl hR hS hL hZ) (fun h9 => kf h9 ls H locs hl hR hS hL hZ)
theorem oi_icmp_le (C : oCx p s m args meth c own cc nL ret σ0 Ts) : or_icmp_le own cc nL ret kc w0 (oX p l e R s m args below meth c nL ret dC dI σ0 w0) := fun pc lv st σ x y off tgt d ht kt kf ls H locs hl hR hS hL hZ => lv_icmp_le C.1.1 C.1.2.1 d ht (fun h9 => kt h9 ls H locs hl hR hS hL hZ) (fun h9 => kf h9 ls H locs hl hR hS hL hZ)
theorem oi_goto (C : oCx p s m args meth c own cc nL ret σ0 Ts) : or_goto own cc nL ret kc w0 (oX p l e R s m args below meth c nL ret dC dI σ0 w0) := fun pc lv st σ off tgt d ht k ls H locs hl hR hS hL hZ => lv_goto C.1.1 C.1.2.1 d ht (k ls H locs hl hR hS hL hZ)
theorem oi_tableIn (C : oCx p s m args meth c own cc nL ret σ0 Ts) : or_tableIn own cc nL ret kc w0 (oX p l e R s m args below meth c nL ret dC dI σ0 w0) := fun pc lv st σ dflt lo hi offs len x off tgt d h1 h2 ho ht k ls H locs hl hR hS hL hZ => lv_tableIn C.1.1 C.1.2.1 d h1 h2 ho ht (k ls H locs hl hR hS hL hZ)
theorem oi_tableOut (C : oCx p s m args meth c own cc nL ret σ0 Ts) : or_tableOut own cc nL ret kc w0 (oX p l e R s m args below meth c nL ret dC dI σ0 w0) := fun pc lv st σ dflt lo hi offs len x tgt d hx ht k ls H locs hl hR hS hL hZ => lv_tableOut C.1.1 C.1.2.1 d hx ht (k ls H locs hl hR hS hL hZ)
theorem oi_lookup (C : oCx p s m args meth c own cc nL ret σ0 Ts) : or_lookup own cc nL ret kc w0 (oX p l e R s m args below meth c nL ret dC dI σ0 w0) := fun pc lv st σ dflt ps len x off tgt d hp ho ht k ls H locs hl hR hS hL hZ => lv_lookup C.1.1 C.1.2.1 d hp ho ht (k ls H locs hl hR hS hL hZ)
theorem oi_dup (C : oCx p s m args meth c own cc nL ret σ0 Ts) : or_dup own cc nL ret kc w0 (oX p l e R s m args below meth c nL ret dC dI σ0 w0) := fun pc lv st σ va d hva k ls H locs hl hR hS hL hZ => lv_dup C.1.1 C.1.2.1 d hva (k ls H locs hl hR hS hL hZ)
theorem oi_dup2 (C : oCx p s m args meth c own cc nL ret σ0 Ts) : or_dup2 own cc nL ret kc w0 (oX p l e R s m args below meth c nL ret dC dI σ0 w0) := fun pc lv st σ va vb d hva hvb k ls H locs hl hR hS hL hZ => lv_dup2_11 C.1.1 C.1.2.1 d hva hvb (k ls H locs hl hR hS hL hZ)
theorem oi_pop (C : oCx p s m args meth c own cc nL ret σ0 Ts) : or_pop own cc nL ret kc w0 (oX p l e R s m args below meth c nL ret dC dI σ0 w0) := fun pc lv st σ va d hva k ls H locs hl hR hS hL hZ => lv_pop C.1.1 C.1.2.1 d hva (k ls H locs hl hR hS hL hZ)
theorem oi_land (C : oCx p s m args meth c own cc nL ret σ0 Ts) : or_land own cc nL ret kc w0 (oX p l e R s m args below meth c nL ret dC dI σ0 w0) := fun pc lv st σ x y d k ls H locs hl hR hS hL hZ => lv_land C.1.1 C.1.2.1 d (k ls H locs hl hR hS hL hZ)
theorem oi_i2c (C : oCx p s m args meth c own cc nL ret σ0 Ts) : or_i2c own cc nL ret kc w0 (oX p l e R s m args below meth c nL ret dC dI σ0 w0) := fun pc lv st σ x d k ls H locs hl hR hS hL hZ => lv_i2c C.1.1 C.1.2.1 d rfl (k ls H locs hl hR hS hL hZ)
theorem oi_aload (C : oCx p s m args meth c own cc nL ret σ0 Ts) : or_aload own cc nL ret kc w0 (oX p l e R s m args below meth c nL ret dC dI σ0 w0) := fun pc lv st σ i r d h1 k ls H locs hl hR hS hL hZ => by
  cases r with
  | none => exact lv_aloadN C.1.1 C.1.2.1 d (hl.2.2 i _ h1) (k ls H locs hl hR hS hL hZ)
  | some y => exact lv_aload C.1.1 C.1.2.1 d (hl.2.2 i _ h1) (k ls H locs hl hR hS hL hZ)
theorem oi_aload_n (C : oCx p s m args meth c own cc nL ret σ0 Ts) : or_aload_n own cc nL ret kc w0 (oX p l e R s m args below meth c nL ret dC dI σ0 w0) := fun pc lv st σ n i r d hi h1 k ls H locs hl hR hS hL hZ => by
  cases r with
  | none => exact lv_aload_nN C.1.1 C.1.2.1 d hi (hl.2.2 i _ h1) (k ls H locs hl hR hS hL hZ)
  | some y => exact lv_aload_n C.1.1 C.1.2.1 d hi (hl.2.2 i _ h1) (k ls H locs hl hR hS hL hZ)
theorem oi_astore (C : oCx p s m args meth c own cc nL ret σ0 Ts) : or_astore own cc nL ret kc w0 (oX p l e R s m args below meth c nL ret dC dI σ0 w0) := fun pc lv st σ i r d hn ho k ls H locs hl hR hS hL hZ => by
  cases r with
  | none => exact lv_astoreN C.1.1 C.1.2.1 d hl.to hn rfl (fun ls1 h1 => k ls1 H locs (zhas.st1 ho h1) hR hS hL hZ)
  | some y => exact lv_astore C.1.1 C.1.2.1 d hl.to hn rfl (fun ls1 h1 => k ls1 H locs (zhas.st1 ho h1) hR hS hL hZ)
theorem oi_astore_n (C : oCx p s m args meth c own cc nL ret σ0 Ts) : or_astore_n own cc nL ret kc w0 (oX p l e R s m args below meth c nL ret dC dI σ0 w0) := fun pc lv st σ n i r d hi hn ho k ls H locs hl hR hS hL hZ => by
  cases r with
  | none => exact lv_astore_nN C.1.1 C.1.2.1 d hi hl.to hn rfl (fun ls1 h1 => k ls1 H locs (zhas.st1 ho h1) hR hS hL hZ)
  | some y => exact lv_astore_n C.1.1 C.1.2.1 d hi hl.to hn rfl (fun ls1 h1 => k ls1 H locs (zhas.st1 ho h1) hR hS hL hZ)
theorem oi_null (C : oCx p s m args meth c own cc nL ret σ0 Ts) : or_null own cc nL ret kc w0 (oX p l e R s m args below meth c nL ret dC dI σ0 w0) := fun pc lv st σ d k ls H locs hl hR hS hL hZ => lv_null C.1.1 C.1.2.1 d (k ls H locs hl hR hS hL hZ)
theorem oi_ifnull (C : oCx p s m args meth c own cc nL ret σ0 Ts) : or_ifnull own cc nL ret kc w0 (oX p l e R s m args below meth c nL ret dC dI σ0 w0) := fun pc lv st σ r off tgt d ht kt kf ls H locs hl hR hS hL hZ => by
  cases r with
  | none => exact lv_ifnullN C.1.1 C.1.2.1 d ht (kt rfl ls H locs hl hR hS hL hZ)
  | some y => exact lv_ifnull C.1.1 C.1.2.1 d (kf (fun h => by cases h) ls H locs hl hR hS hL hZ)
theorem oi_ifnonnull (C : oCx p s m args meth c own cc nL ret σ0 Ts) : or_ifnonnull own cc nL ret kc w0 (oX p l e R s m args below meth c nL ret dC dI σ0 w0) := fun pc lv st σ r off tgt d ht kt kf ls H locs hl hR hS hL hZ => by
  cases r with
  | none => exact lv_ifnonnullN C.1.1 C.1.2.1 d (kf rfl ls H locs hl hR hS hL hZ)
  | some y => exact lv_ifnonnull C.1.1 C.1.2.1 d ht (kt (fun h => by cases h) ls H locs hl hR hS hL hZ)
theorem oi_acmp_eq (C : oCx p s m args meth c own cc nL ret σ0 Ts) : or_acmp_eq own cc nL ret kc w0 (oX p l e R s m args below meth c nL ret dC dI σ0 w0) := fun pc lv st σ rx ry off tgt d ht kt kf ls H locs hl hR hS hL hZ => lv_acmp_eq C.1.1 C.1.2.1 d ht (fun h9 => kt h9 ls H locs hl hR hS hL hZ) (fun h9 => kf h9 ls H locs hl hR hS hL hZ)
theorem oi_acmp_ne (C : oCx p s m args meth c own cc nL ret σ0 Ts) : or_acmp_ne own cc nL ret kc w0 (oX p l e R s m args below meth c nL ret dC dI σ0 w0) := fun pc lv st σ rx ry off tgt d ht kt kf ls H locs hl hR hS hL hZ => lv_acmp_ne C.1.1 C.1.2.1 d ht (fun h9 => kt h9 ls H locs hl hR hS hL hZ) (fun h9 => kf h9 ls H locs hl hR hS hL hZ)
theorem oi_getf (C : oCx p s m args meth c own cc nL ret σ0 Ts) : or_getf own cc nL ret kc w0 (oX p l e R s m args below meth c nL ret dC dI σ0 w0) := fun pc lv st σ ix ci f a fs x d hm ha hv k ls H locs hl hR hS hL hZ => by
  have hci := oft_ok _ hm
  exact oo_get (C := (oq ci).1) (T := (oq ci).2.1) (N := (oq ci).2.2) C.1.1 C.1.2.1 C.1.2.2.2.2 (fun w h => C.2.2.1 w (List.mem_flatMap.mpr ⟨ci, List.mem_range.mpr hci.1, h⟩)) C.1.2.2.2.1 hR ha (oq_at hci.1) f hci.2 (C.1.2.2.2.2 _ (C.2.1 _ (List.mem_map.mpr ⟨(own, ix, ci, f), hm, rfl⟩))) (fun _ h9 => h9) hv d (k ls H locs hl hR hS hL hZ)
theorem oi_putf (C : oCx p s m args meth c own cc nL ret σ0 Ts) : or_putf own cc nL ret kc w0 (oX p l e R s m args below meth c nL ret dC dI σ0 w0) := fun pc lv st σ ix ci f a fs x d hm ha hfin hn hfit hl9 k ls H locs hl hR hS hL hZ => by
  have hci := oft_ok _ hm
  exact oo_put (C := (oq ci).1) (T := (oq ci).2.1) (N := (oq ci).2.2) (ty := oty ci f) C.1.1 C.1.2.1 C.1.2.2.2.2 (fun w h => C.2.2.1 w (List.mem_flatMap.mpr ⟨ci, List.mem_range.mpr hci.1, h⟩)) (oty ci) (oty_ok hci.1) (oq_nm ci hci.1) C.1.2.2.2.1 hZ.1 hR hS hL hZ.low ha (oq_at hci.1) f hci.2 (C.1.2.2.2.2 _ (C.2.1 _ (List.mem_map.mpr ⟨(own, ix, ci, f), hm, rfl⟩))) (fun _ h9 => h9) hfin (oty_ok hci.1 f hci.2) hn hfit hl9 d (fun H1 locs1 hR1 hS1 hL1 hz => k ls H1 locs1 hl hR1 hS1 hL1 (hZ.put hz))
theorem oi_iald (C : oCx p s m args meth c own cc nL ret σ0 Ts) : or_iald own cc nL ret kc w0 (oX p l e R s m args below meth c nL ret dC dI σ0 w0) := fun pc lv st σ a n f j d ha hin k ls H locs hl hR hS hL hZ => oo_iald C.1.1 C.1.2.1 hR ha hin d (k ls H locs hl hR hS hL hZ)
theorem oi_bald (C : oCx p s m args meth c own cc nL ret σ0 Ts) : or_bald own cc nL ret kc w0 (oX p l e R s m args below meth c nL ret dC dI σ0 w0) := fun pc lv st σ a n f j d ha hin k ls H locs hl hR hS hL hZ => oo_bald C.1.1 C.1.2.1 hR ha hin d (k ls H locs hl hR hS hL hZ)
theorem oi_zald (C : oCx p s m args meth c own cc nL ret σ0 Ts) : or_zald own cc nL ret kc w0 (oX p l e R s m args below meth c nL ret dC dI σ0 w0) := fun pc lv st σ a n f j d ha hin k ls H locs hl hR hS hL hZ => oo_zald C.1.1 C.1.2.1 hR ha hin d (k ls H locs hl hR hS hL hZ)
theorem oi_cald (C : oCx p s m args meth c own cc nL ret σ0 Ts) : or_cald own cc nL ret kc w0 (oX p l e R s m args below meth c nL ret dC dI σ0 w0) := fun pc lv st σ a n f j d ha hin k ls H locs hl hR hS hL hZ => oo_cald C.1.1 C.1.2.1 hR ha hin d (k ls H locs hl hR hS hL hZ)
theorem oi_lald (C : oCx p s m args meth c own cc nL ret σ0 Ts) : or_lald own cc nL ret kc w0 (oX p l e R s m args below meth c nL ret dC dI σ0 w0) := fun pc lv st σ a n f j d ha hin k ls H locs hl hR hS hL hZ => oo_lald C.1.1 C.1.2.1 hR ha hin d (k ls H locs hl hR hS hL hZ)
theorem oi_aald (C : oCx p s m args meth c own cc nL ret σ0 Ts) : or_aald own cc nL ret kc w0 (oX p l e R s m args below meth c nL ret dC dI σ0 w0) := fun pc lv st σ a C9 n f j d ha hin k ls H locs hl hR hS hL hZ => oo_aald C.1.1 C.1.2.1 hR ha hin d (k ls H locs hl hR hS hL hZ)
theorem oi_alen (C : oCx p s m args meth c own cc nL ret σ0 Ts) : or_alen own cc nL ret kc w0 (oX p l e R s m args below meth c nL ret dC dI σ0 w0) := fun pc lv st σ a x d ha k ls H locs hl hR hS hL hZ => oo_alen C.1.1 C.1.2.1 hR ha d (k ls H locs hl hR hS hL hZ)
theorem oi_iast (C : oCx p s m args meth c own cc nL ret σ0 Ts) : or_iast own cc nL ret kc w0 (oX p l e R s m args below meth c nL ret dC dI σ0 w0) := fun pc lv st σ a n f j x d ha hin k ls H locs hl hR hS hL hZ => oo_iast C.1.1 C.1.2.1 hZ.1 hR hS hL hZ.low ha hin d (fun H1 locs1 hR1 hS1 hL1 hz => k ls H1 locs1 hl hR1 hS1 hL1 (hZ.put hz))
theorem oi_bast (C : oCx p s m args meth c own cc nL ret σ0 Ts) : or_bast own cc nL ret kc w0 (oX p l e R s m args below meth c nL ret dC dI σ0 w0) := fun pc lv st σ a n f j x d ha hin k ls H locs hl hR hS hL hZ => oo_bast C.1.1 C.1.2.1 hZ.1 hR hS hL hZ.low ha hin d (fun H1 locs1 hR1 hS1 hL1 hz => k ls H1 locs1 hl hR1 hS1 hL1 (hZ.put hz))
theorem oi_zast (C : oCx p s m args meth c own cc nL ret σ0 Ts) : or_zast own cc nL ret kc w0 (oX p l e R s m args below meth c nL ret dC dI σ0 w0) := fun pc lv st σ a n f j x d ha hin k ls H locs hl hR hS hL hZ => oo_zast C.1.1 C.1.2.1 hZ.1 hR hS hL hZ.low ha hin d (fun H1 locs1 hR1 hS1 hL1 hz => k ls H1 locs1 hl hR1 hS1 hL1 (hZ.put hz))
theorem oi_cast (C : oCx p s m args meth c own cc nL ret σ0 Ts) : or_cast own cc nL ret kc w0 (oX p l e R s m args below meth c nL ret dC dI σ0 w0) := fun pc lv st σ a n f j x d ha hin k ls H locs hl hR hS hL hZ => oo_cast C.1.1 C.1.2.1 hZ.1 hR hS hL hZ.low ha hin d (fun H1 locs1 hR1 hS1 hL1 hz => k ls H1 locs1 hl hR1 hS1 hL1 (hZ.put hz))
theorem oi_last (C : oCx p s m args meth c own cc nL ret σ0 Ts) : or_last own cc nL ret kc w0 (oX p l e R s m args below meth c nL ret dC dI σ0 w0) := fun pc lv st σ a n f j x d ha hin k ls H locs hl hR hS hL hZ => oo_last C.1.1 C.1.2.1 hZ.1 hR hS hL hZ.low ha hin d (fun H1 locs1 hR1 hS1 hL1 hz => k ls H1 locs1 hl hR1 hS1 hL1 (hZ.put hz))
theorem oi_aast (C : oCx p s m args meth c own cc nL ret σ0 Ts) : or_aast own cc nL ret kc w0 (oX p l e R s m args below meth c nL ret dC dI σ0 w0) := fun pc lv st σ a n y ci w vs f j d ha hy hc hin k ls H locs hl hR hS hL hZ => oo_aast C.1.1 C.1.2.1 hZ.1 hR hS hL hZ.low ha hy hc hin d (fun H1 locs1 hR1 hS1 hL1 hz => k ls H1 locs1 hl hR1 hS1 hL1 (hZ.put hz))
theorem oi_aastN (C : oCx p s m args meth c own cc nL ret σ0 Ts) : or_aastN own cc nL ret kc w0 (oX p l e R s m args below meth c nL ret dC dI σ0 w0) := fun pc lv st σ a n C9 f j d ha hin k ls H locs hl hR hS hL hZ => oo_aastN C.1.1 C.1.2.1 hZ.1 hR hS hL hZ.low ha hin d (fun H1 locs1 hR1 hS1 hL1 hz => k ls H1 locs1 hl hR1 hS1 hL1 (hZ.put hz))
theorem oi_vret (C : oCx p s m args meth c own cc nL ret σ0 Ts) : or_vret own cc nL ret kc w0 (oX p l e R s m args below meth c nL ret dC dI σ0 w0) := fun pc lv σ d hr k ls H locs hl hR hS hL hZ => by
  subst k
  exact W.vret C.1.1 C.1.2.1 (by rw [C.2.2.2.1, hr]) (fun t ht hW => by rw [oQ_v (by rw [hr]; rfl)]; exact ⟨⟨σ, rfl, rfl, by
    have h9 := hR.moved hW.alike
    rw [← ht] at h9
    exact h9⟩, hS.F ht⟩) hS.2.2 d C.2.2.2.2
theorem oi_iret (C : oCx p s m args meth c own cc nL ret σ0 Ts) : or_iret own cc nL ret kc w0 (oX p l e R s m args below meth c nL ret dC dI σ0 w0) := fun pc lv σ x d hr k ls H locs hl hR hS hL hZ => by
  subst k
  exact W.iret (v := x) C.1.1 C.1.2.1 (by rw [C.2.2.2.1, hr]) (fun t ht hW => by rw [oQ_i (by rw [hr]; rfl)]; exact ⟨⟨x, σ, rfl, rfl, by
    have h9 := hR.moved hW.alike
    rw [← ht] at h9
    exact h9⟩, hS.F ht⟩) hS.2.2 d C.2.2.2.2
theorem oi_zret (C : oCx p s m args meth c own cc nL ret σ0 Ts) : or_zret own cc nL ret kc w0 (oX p l e R s m args below meth c nL ret dC dI σ0 w0) := fun pc lv σ x d hr hn k ls H locs hl hR hS hL hZ => by
  subst k
  exact W.zret (v := x) C.1.1 C.1.2.1 (by rw [C.2.2.2.1, hr]) hn (fun t ht hW => by rw [oQ_i (by rw [hr]; rfl)]; exact ⟨⟨x, σ, rfl, rfl, by
    have h9 := hR.moved hW.alike
    rw [← ht] at h9
    exact h9⟩, hS.F ht⟩) hS.2.2 d C.2.2.2.2
theorem oi_lret (C : oCx p s m args meth c own cc nL ret σ0 Ts) : or_lret own cc nL ret kc w0 (oX p l e R s m args below meth c nL ret dC dI σ0 w0) := fun pc lv σ x d hr k ls H locs hl hR hS hL hZ => by
  subst k
  exact W.lret (v := x) C.1.1 C.1.2.1 (by rw [C.2.2.2.1, hr]) (fun t ht hW => by rw [oQ_l (by rw [hr]; rfl)]; exact ⟨⟨x, σ, rfl, rfl, by
    have h9 := hR.moved hW.alike
    rw [← ht] at h9
    exact h9⟩, hS.F ht⟩) hS.2.2 d C.2.2.2.2
theorem oi_aret (C : oCx p s m args meth c own cc nL ret σ0 Ts) : or_aret own cc nL ret kc w0 (oX p l e R s m args below meth c nL ret dC dI σ0 w0) := fun pc lv σ r C9 d hr k ls H locs hl hR hS hL hZ => by
  subst k
  exact W.aret (v := va_rf r) C.1.1 C.1.2.1 (by rw [C.2.2.2.1, hr]) (Or.inl ⟨C9, rfl⟩) (va_rf_or r) (fun t ht hW => by rw [oQ_q (by rw [hr]; rfl)]; exact ⟨⟨r, σ, rfl, rfl, by
    have h9 := hR.moved hW.alike
    rw [← ht] at h9
    exact h9⟩, hS.F ht⟩) hS.2.2 d C.2.2.2.2
theorem oi_all (C : oCx p s m args meth c own cc nL ret σ0 Ts) : oSem own cc nL ret kc w0 (oX p l e R s m args below meth c nL ret dC dI σ0 w0) := fun n => match n with
  | 0 => oi_iconst (kc := kc) C
  | 1 => oi_bipush (kc := kc) C
  | 2 => oi_sipush (kc := kc) C
  | 3 => oi_lconst (kc := kc) C
  | 4 => oi_iload (kc := kc) C
  | 5 => oi_iload_n (kc := kc) C
  | 6 => oi_lload (kc := kc) C
  | 7 => oi_lload_n (kc := kc) C
  | 8 => oi_istore (kc := kc) C
  | 9 => oi_istore_n (kc := kc) C
  | 10 => oi_lstore (kc := kc) C
  | 11 => oi_lstore_n (kc := kc) C
  | 12 => oi_iinc (kc := kc) C
  | 13 => oi_weak (kc := kc) C
  | 14 => oi_iadd (kc := kc) C
  | 15 => oi_isub (kc := kc) C
  | 16 => oi_imul (kc := kc) C
  | 17 => oi_ishr (kc := kc) C
  | 18 => oi_iand (kc := kc) C
  | 19 => oi_ixor (kc := kc) C
  | 20 => oi_irem (kc := kc) C
  | 21 => oi_ineg (kc := kc) C
  | 22 => oi_ladd (kc := kc) C
  | 23 => oi_lsub (kc := kc) C
  | 24 => oi_lmul (kc := kc) C
  | 25 => oi_ldiv (kc := kc) C
  | 26 => oi_lrem (kc := kc) C
  | 27 => oi_lneg (kc := kc) C
  | 28 => oi_i2l (kc := kc) C
  | 29 => oi_l2i (kc := kc) C
  | 30 => oi_i2b (kc := kc) C
  | 31 => oi_lcmp (kc := kc) C
  | 32 => oi_if_eq (kc := kc) C
  | 33 => oi_if_ne (kc := kc) C
  | 34 => oi_if_lt (kc := kc) C
  | 35 => oi_if_ge (kc := kc) C
  | 36 => oi_if_gt (kc := kc) C
  | 37 => oi_if_le (kc := kc) C
  | 38 => oi_icmp_eq (kc := kc) C
  | 39 => oi_icmp_ne (kc := kc) C
  | 40 => oi_icmp_lt (kc := kc) C
  | 41 => oi_icmp_ge (kc := kc) C
  | 42 => oi_icmp_gt (kc := kc) C
  | 43 => oi_icmp_le (kc := kc) C
  | 44 => oi_goto (kc := kc) C
  | 45 => oi_tableIn (kc := kc) C
  | 46 => oi_tableOut (kc := kc) C
  | 47 => oi_lookup (kc := kc) C
  | 48 => oi_dup (kc := kc) C
  | 49 => oi_dup2 (kc := kc) C
  | 50 => oi_pop (kc := kc) C
  | 51 => oi_land (kc := kc) C
  | 52 => oi_i2c (kc := kc) C
  | 53 => oi_aload (kc := kc) C
  | 54 => oi_aload_n (kc := kc) C
  | 55 => oi_astore (kc := kc) C
  | 56 => oi_astore_n (kc := kc) C
  | 57 => oi_null (kc := kc) C
  | 58 => oi_ifnull (kc := kc) C
  | 59 => oi_ifnonnull (kc := kc) C
  | 60 => oi_acmp_eq (kc := kc) C
  | 61 => oi_acmp_ne (kc := kc) C
  | 62 => oi_getf (kc := kc) C
  | 63 => oi_putf (kc := kc) C
  | 64 => oi_iald (kc := kc) C
  | 65 => oi_bald (kc := kc) C
  | 66 => oi_zald (kc := kc) C
  | 67 => oi_cald (kc := kc) C
  | 68 => oi_lald (kc := kc) C
  | 69 => oi_aald (kc := kc) C
  | 70 => oi_alen (kc := kc) C
  | 71 => oi_iast (kc := kc) C
  | 72 => oi_bast (kc := kc) C
  | 73 => oi_zast (kc := kc) C
  | 74 => oi_cast (kc := kc) C
  | 75 => oi_last (kc := kc) C
  | 76 => oi_aast (kc := kc) C
  | 77 => oi_aastN (kc := kc) C
  | 78 => oi_vret (kc := kc) C
  | 79 => oi_iret (kc := kc) C
  | 80 => oi_zret (kc := kc) C
  | 81 => oi_lret (kc := kc) C
  | 82 => oi_aret (kc := kc) C
  | n + 83 => trivial
end OXI
