/-! the methods of the class as plain functions: what they are made of -/
abbrev oRs : Type := Option (Option Value × oSt)
abbrev oCl : Type := Nat → List Value → oSt → oRs
def obn {α : Type} (x : Option α) (f : α → oRs) : oRs := match x with
  | some a => f a
  | none => none
theorem obn_e {α : Type} {x : Option α} {f : α → oRs} {v : Option Value × oSt} (h : obn x f = some v) : ∃ a, x = some a ∧ f a = some v := by
  cases x with
  | none => cases h
  | some a => exact ⟨a, rfl, h⟩
def olet (s : oSt) (f : oSt → oRs) : oRs := f s
theorem olet_e {s : oSt} {f : oSt → oRs} {v : Option Value × oSt} (h : olet s f = some v) : ∃ s1, s1 = s ∧ f s1 = some v := ⟨s, rfl, h⟩
def ogd (b : Bool) (r : oRs) : oRs := if b = true then r else none
theorem ogd_e {b : Bool} {r : oRs} {v : Option Value × oSt} (h : ogd b r = some v) : b = true ∧ r = some v := by
  unfold ogd at h
  split at h
  · exact ⟨by assumption, h⟩
  · cases h
def ocv (r : oRs) (f : oSt → oRs) : oRs := match r with
  | some (none, s) => f s
  | _ => none
theorem ocv_e {r : oRs} {f : oSt → oRs} {v : Option Value × oSt} (h : ocv r f = some v) : ∃ s, r = some (none, s) ∧ f s = some v := by
  unfold ocv at h
  split at h
  · exact ⟨_, rfl, h⟩
  · cases h
def oin (r : oRs) (f : Int32 → oSt → oRs) : oRs := match r with
  | some (some (.int x), s) => f x s
  | _ => none
theorem oin_e {r : oRs} {f : Int32 → oSt → oRs} {v : Option Value × oSt} (h : oin r f = some v) : ∃ x s, r = some (some (.int x), s) ∧ f x s = some v := by
  unfold oin at h
  split at h
  · exact ⟨_, _, rfl, h⟩
  · cases h
def oln' (r : oRs) (f : Int64 → oSt → oRs) : oRs := match r with
  | some (some (.long x), s) => f x s
  | _ => none
theorem oln'_e {r : oRs} {f : Int64 → oSt → oRs} {v : Option Value × oSt} (h : oln' r f = some v) : ∃ x s, r = some (some (.long x), s) ∧ f x s = some v := by
  unfold oln' at h
  split at h
  · exact ⟨_, _, rfl, h⟩
  · cases h
def orn (r : oRs) (f : Option Nat → oSt → oRs) : oRs := match r with
  | some (some (.ref a), s) => f (some a) s
  | some (some .null, s) => f none s
  | _ => none
theorem orn_e {r : oRs} {f : Option Nat → oSt → oRs} {v : Option Value × oSt} (h : orn r f = some v) : ∃ x s, r = some (some (va_rf x), s) ∧ f x s = some v := by
  unfold orn at h
  split at h
  · exact ⟨some _, _, rfl, h⟩
  · exact ⟨none, _, rfl, h⟩
  · cases h
def ovi (x : Option Value) : Option Int32 := match x with
  | some (.int i) => some i
  | _ => none
theorem ovi_e {x : Option Value} {i : Int32} (h : ovi x = some i) : x = some (.int i) := by
  unfold ovi at h
  split at h
  · cases h; rfl
  · cases h
def ovl (x : Option Value) : Option Int64 := match x with
  | some (.long i) => some i
  | _ => none
theorem ovl_e {x : Option Value} {i : Int64} (h : ovl x = some i) : x = some (.long i) := by
  unfold ovl at h
  split at h
  · cases h; rfl
  · cases h
def ovr (x : Option Value) : Option (Option Nat) := match x with
  | some (.ref a) => some (some a)
  | some .null => some none
  | _ => none
theorem ovr_e {x : Option Value} {i : Option Nat} (h : ovr x = some i) : x = some (va_rf i) := by
  unfold ovr at h
  split at h
  · cases h; rfl
  · cases h; rfl
  · cases h
/-- field k of the object of kind ci at r -/
def ofd (σ : oSt) (r : Option Nat) (ci k : Nat) : Option Value := match r with
  | some a => match σ.1 a with
    | some (.inr o) => if o.1 = ci then o.2[k]? else none
    | _ => none
  | none => none
theorem ofd_e {σ : oSt} {r : Option Nat} {ci k : Nat} {x : Value} (h : ofd σ r ci k = some x) : ∃ (a : Nat) (fs : List Value), r = some a ∧ σ.1 a = some (.inr (ci, fs)) ∧ fs[k]? = some x := by
  unfold ofd at h
  cases r with
  | none => cases h
  | some a =>
    dsimp only at h
    split at h
    next o ho =>
      split at h
      next hc => exact ⟨a, o.2, rfl, by rw [ho, ← hc], h⟩
      next => cases h
    next => cases h
/-- is there an object of kind ci at r -/
def oob (σ : oSt) (r : Option Nat) (ci : Nat) : Option Nat := match r with
  | some a => match σ.1 a with
    | some (.inr o) => if o.1 = ci then some a else none
    | _ => none
  | none => none
theorem oob_e {σ : oSt} {r : Option Nat} {ci a : Nat} (h : oob σ r ci = some a) : r = some a ∧ ∃ fs, σ.1 a = some (.inr (ci, fs)) := by
  unfold oob at h
  cases r with
  | none => cases h
  | some b =>
    dsimp only at h
    split at h
    next o ho =>
      split at h
      next hc => cases h; exact ⟨rfl, o.2, by rw [ho, ← hc]⟩
      next => cases h
    next => cases h
def opf (σ : oSt) (r : Option Nat) (ci k : Nat) (x : Value) : Option oSt := match r with
  | some a => match σ.1 a with
    | some (.inr o) => if o.1 = ci ∧ k < o.2.length then some (oput σ a (.inr (ci, o.2.set k x))) else none
    | _ => none
  | none => none
theorem opf_e {σ s1 : oSt} {r : Option Nat} {ci k : Nat} {x : Value} (h : opf σ r ci k x = some s1) : ∃ (a : Nat) (fs : List Value), r = some a ∧ σ.1 a = some (.inr (ci, fs)) ∧ k < fs.length ∧ s1 = oput σ a (.inr (ci, fs.set k x)) := by
  unfold opf at h
  cases r with
  | none => cases h
  | some a =>
    dsimp only at h
    split at h
    next o ho =>
      split at h
      next hc => cases h; exact ⟨a, o.2, rfl, by rw [ho, ← hc.1], hc.2, rfl⟩
      next => cases h
    next => cases h
/-- the constant whose object is at a, whose letters are at a -/
def okA (κ : oKv) (a : Nat) : Option Nat := (List.range 17).find? (fun i => κ.1 i == a)
def okB (κ : oKv) (a : Nat) : Option Nat := (List.range 17).find? (fun i => κ.2.1 i == a)
theorem okA_e {κ : oKv} {a i : Nat} (h : okA κ a = some i) : κ.1 i = a ∧ ∃ q, okt[i]? = some q := by
  have h1 := List.find?_some h
  have h2 := List.mem_of_find?_eq_some h
  have h3 : i < okt.length := List.mem_range.mp h2
  exact ⟨by simpa using h1, okt[i], List.getElem?_eq_getElem h3⟩
theorem okB_e {κ : oKv} {a i : Nat} (h : okB κ a = some i) : κ.2.1 i = a ∧ ∃ q, okt[i]? = some q := by
  have h1 := List.find?_some h
  have h2 := List.mem_of_find?_eq_some h
  have h3 : i < okt.length := List.mem_range.mp h2
  exact ⟨by simpa using h1, okt[i], List.getElem?_eq_getElem h3⟩
def oktx (i : Nat) : String := match okt[i]? with
  | some q => q.2.2
  | none => ""
/-- value or coder (field k) of a String, made or constant -/
def ofk (κ : oKv) (σ : oSt) (r : Option Nat) (k : Nat) : Option Value := match ofd σ r 0 k with
  | some x => some x
  | none => match r with
    | some a => match okA κ a with
      | some i => if k = 0 then some (.ref (κ.2.1 i)) else if k = 1 then some (.int 0) else none
      | none => none
    | none => none
/-- an array's length -/
def oln2 (κ : oKv) (σ : oSt) (r : Option Nat) : Option Int32 := match r with
  | some a => match σ.1 a with
    | some (.inl x) => some (Int32.ofNat x.2.1)
    | some (.inr _) => none
    | none => if a = κ.2.2.1 then some 0 else match okB κ a with
      | some i => some (Int32.ofNat (oktx i).toList.length)
      | none => none
  | none => none
/-- element i of an array of ints, bytes, booleans, chars (ty) -/
def oai (σ : oSt) (r : Option Nat) (ty : FieldType) (i : Int32) : Option Int32 := match r with
  | some a => match σ.1 a with
    | some (.inl (t, n, .inl f)) => if t = ty ∧ zin i n = true then some (f i.toNatClampNeg) else none
    | _ => none
  | none => none
theorem oai_e {σ : oSt} {r : Option Nat} {ty : FieldType} {i x : Int32} (h : oai σ r ty i = some x) : ∃ a n f, r = some a ∧ σ.1 a = some (.inl (ty, n, .inl f)) ∧ vp_in i n ∧ x = f i.toNatClampNeg := by
  unfold oai at h
  cases r with
  | none => cases h
  | some a =>
    dsimp only at h
    split at h
    next t n f ho =>
      split at h
      next hc => cases h; exact ⟨a, n, f, rfl, by rw [ho, hc.1], zin_ok hc.2, rfl⟩
      next => cases h
    next => cases h
def oai8 (κ : oKv) (σ : oSt) (r : Option Nat) (i : Int32) : Option Int32 := match oai σ r .byte i with
  | some x => some x
  | none => match r with
    | some a => match okB κ a with
      | some q => if zin i (oktx q).toList.length = true then some (zch (oktx q) i.toNatClampNeg) else none
      | none => none
    | none => none
def oaj (σ : oSt) (r : Option Nat) (i : Int32) : Option Int64 := match r with
  | some a => match σ.1 a with
    | some (.inl (t, n, .inr (.inl f))) => if t = .long ∧ zin i n = true then some (f i.toNatClampNeg) else none
    | _ => none
  | none => none
theorem oaj_e {σ : oSt} {r : Option Nat} {i : Int32} {x : Int64} (h : oaj σ r i = some x) : ∃ a n f, r = some a ∧ σ.1 a = some (.inl (.long, n, .inr (.inl f))) ∧ vp_in i n ∧ x = f i.toNatClampNeg := by
  unfold oaj at h
  cases r with
  | none => cases h
  | some a =>
    dsimp only at h
    split at h
    next t n f ho =>
      split at h
      next hc => cases h; exact ⟨a, n, f, rfl, by rw [ho, hc.1], zin_ok hc.2, rfl⟩
      next => cases h
    next => cases h
def oar (σ : oSt) (r : Option Nat) (i : Int32) : Option (Option Nat) := match r with
  | some a => match σ.1 a with
    | some (.inl (.object _, n, .inr (.inr (.inr (.inr f))))) => if zin i n = true then some (f i.toNatClampNeg) else none
    | some (.inl (.array .int, n, .inr (.inr (.inr (.inr f))))) => if zin i n = true then some (f i.toNatClampNeg) else none
    | _ => none
  | none => none
theorem oar_e {σ : oSt} {r : Option Nat} {i : Int32} {x : Option Nat} (h : oar σ r i = some x) : ∃ a n f, r = some a ∧ ((∃ C, σ.1 a = some (.inl (.object C, n, .inr (.inr (.inr (.inr f)))))) ∨ σ.1 a = some (.inl (.array .int, n, .inr (.inr (.inr (.inr f)))))) ∧ vp_in i n ∧ x = f i.toNatClampNeg := by
  unfold oar at h
  cases r with
  | none => cases h
  | some a =>
    dsimp only at h
    split at h
    next C n f ho =>
      split at h
      next hc => cases h; exact ⟨a, n, f, rfl, Or.inl ⟨C, ho⟩, zin_ok hc, rfl⟩
      next => cases h
    next n f ho =>
      split at h
      next hc => cases h; exact ⟨a, n, f, rfl, Or.inr ho, zin_ok hc, rfl⟩
      next => cases h
    next => cases h
def osi (σ : oSt) (r : Option Nat) (ty : FieldType) (i x : Int32) : Option oSt := match r with
  | some a => match σ.1 a with
    | some (.inl (t, n, .inl f)) => if t = ty ∧ zin i n = true then some (oput σ a (.inl (ty, n, .inl (upd f i.toNatClampNeg x)))) else none
    | _ => none
  | none => none
theorem osi_e {σ s1 : oSt} {r : Option Nat} {ty : FieldType} {i x : Int32} (h : osi σ r ty i x = some s1) : ∃ a n f, r = some a ∧ σ.1 a = some (.inl (ty, n, .inl f)) ∧ vp_in i n ∧ s1 = oput σ a (.inl (ty, n, .inl (upd f i.toNatClampNeg x))) := by
  unfold osi at h
  cases r with
  | none => cases h
  | some a =>
    dsimp only at h
    split at h
    next t n f ho =>
      split at h
      next hc => cases h; exact ⟨a, n, f, rfl, by rw [ho, hc.1], zin_ok hc.2, rfl⟩
      next => cases h
    next => cases h
def osj (σ : oSt) (r : Option Nat) (i : Int32) (x : Int64) : Option oSt := match r with
  | some a => match σ.1 a with
    | some (.inl (t, n, .inr (.inl f))) => if t = .long ∧ zin i n = true then some (oput σ a (.inl (.long, n, .inr (.inl (vp_updL f i.toNatClampNeg x))))) else none
    | _ => none
  | none => none
theorem osj_e {σ s1 : oSt} {r : Option Nat} {i : Int32} {x : Int64} (h : osj σ r i x = some s1) : ∃ a n f, r = some a ∧ σ.1 a = some (.inl (.long, n, .inr (.inl f))) ∧ vp_in i n ∧ s1 = oput σ a (.inl (.long, n, .inr (.inl (vp_updL f i.toNatClampNeg x)))) := by
  unfold osj at h
  cases r with
  | none => cases h
  | some a =>
    dsimp only at h
    split at h
    next t n f ho =>
      split at h
      next hc => cases h; exact ⟨a, n, f, rfl, by rw [ho, hc.1], zin_ok hc.2, rfl⟩
      next => cases h
    next => cases h
/-- may an object of kind ci stand in a row of C -/
def ofits (C : String) (ci : Nat) : Bool := decide (ci < 15) && (decide (C = "java/lang/Object" ∧ ci ≠ 1) || decide (C = (oq ci).1))
def osr (σ : oSt) (r : Option Nat) (i : Int32) (y : Option Nat) : Option oSt := match r with
  | some a => match σ.1 a with
    | some (.inl (.object C, n, .inr (.inr (.inr (.inr f))))) => if zin i n = true then (match y with
      | none => some (oput σ a (.inl (.object C, n, .inr (.inr (.inr (.inr (va_up f i.toNatClampNeg none)))))))
      | some b => match σ.1 b with
        | some (.inr o) => if ofits C o.1 = true then some (oput σ a (.inl (.object C, n, .inr (.inr (.inr (.inr (va_up f i.toNatClampNeg (some b)))))))) else none
        | _ => none) else none
    | some (.inl (.array .int, n, .inr (.inr (.inr (.inr f))))) => if zin i n = true then (match y with
      | none => none
      | some b => match σ.1 b with
        | some (.inl (t, _, .inl _)) => if t = .int then some (oput σ a (.inl (.array .int, n, .inr (.inr (.inr (.inr (va_up f i.toNatClampNeg (some b)))))))) else none
        | _ => none) else none
    | _ => none
  | none => none
/-- are the n elements of f from sp on objects of kind ci (or null) -/
def oelm (σ : oSt) (f : Nat → Option Nat) (sp n ci : Nat) : Bool := (List.range n).all (fun i => match f (sp + i) with
  | none => true
  | some y => match σ.1 y with
    | some (.inr o) => decide (o.1 = ci)
    | _ => false)
theorem oelm_e {σ : oSt} {f : Nat → Option Nat} {sp n ci : Nat} (h : oelm σ f sp n ci = true) : ∀ i, i < n → ∀ y, f (sp + i) = some y → ∃ vs, σ.1 y = some (.inr (ci, vs)) := fun i hi y hy => by
  have h1 := List.all_eq_true.mp h i (List.mem_range.mpr hi)
  rw [hy] at h1
  dsimp only at h1
  split at h1
  next o ho =>
    have h2 := of_decide_eq_true h1
    exact ⟨o.2, by rw [ho, ← h2]⟩
  next => cases h1
def oix (sp dp n : Int32) (n0 n1 : Nat) : Bool := decide (¬ sp < 0) && (decide (¬ dp < 0) && (decide (¬ n < 0) && (decide (sp.toNatClampNeg + n.toNatClampNeg ≤ n0) && decide (dp.toNatClampNeg + n.toNatClampNeg ≤ n1))))
theorem oix_e {sp dp n : Int32} {n0 n1 : Nat} (h : oix sp dp n n0 n1 = true) : ¬ sp < 0 ∧ ¬ dp < 0 ∧ ¬ n < 0 ∧ sp.toNatClampNeg + n.toNatClampNeg ≤ n0 ∧ dp.toNatClampNeg + n.toNatClampNeg ≤ n1 := by
  simp only [oix, Bool.and_eq_true] at h
  exact ⟨of_decide_eq_true h.1, of_decide_eq_true h.2.1, of_decide_eq_true h.2.2.1, of_decide_eq_true h.2.2.2.1, of_decide_eq_true h.2.2.2.2⟩
/-- System.arraycopy(r0, sp, r1, dp, n) -/
def ocy (σ : oSt) (r0 : Option Nat) (sp : Int32) (r1 : Option Nat) (dp n : Int32) : Option oSt := match r0, r1 with
  | some a0, some a => match σ.1 a0, σ.1 a with
    | some (.inl (.int, n0, .inl f)), some (.inl (.int, n1, .inl g)) => if oix sp dp n n0 n1 = true then some (oput σ a (.inl (.int, n1, .inl (va_cpy f g sp.toNatClampNeg dp.toNatClampNeg n.toNatClampNeg)))) else none
    | some (.inl (.byte, n0, .inl f)), some (.inl (.byte, n1, .inl g)) => if oix sp dp n n0 n1 = true ∧ (List.range n.toNatClampNeg).all (fun i => fits .byte (.int (f (sp.toNatClampNeg + i)))) = true then some (oput σ a (.inl (.byte, n1, .inl (va_cpy f g sp.toNatClampNeg dp.toNatClampNeg n.toNatClampNeg)))) else none
    | some (.inl (.long, n0, .inr (.inl f))), some (.inl (.long, n1, .inr (.inl g))) => if oix sp dp n n0 n1 = true then some (oput σ a (.inl (.long, n1, .inr (.inl (va_cpy f g sp.toNatClampNeg dp.toNatClampNeg n.toNatClampNeg))))) else none
    | some (.inl (.object E, n0, .inr (.inr (.inr (.inr f))))), some (.inl (.object E1, n1, .inr (.inr (.inr (.inr g))))) => if oix sp dp n n0 n1 = true ∧ E1 = E then (match (List.range 15).find? (fun ci => ofits E ci && oelm σ f sp.toNatClampNeg n.toNatClampNeg ci) with
      | some _ => some (oput σ a (.inl (.object E, n1, .inr (.inr (.inr (.inr (va_cpy f g sp.toNatClampNeg dp.toNatClampNeg n.toNatClampNeg)))))))
      | none => none) else none
    | _, _ => none
  | _, _ => none
def onn (n : Int32) : Bool := decide (¬ n < 0) && decide (n.toNatClampNeg ≤ 60000000)
theorem onn_e {n : Int32} (h : onn n = true) : ¬ n < 0 ∧ n.toNatClampNeg ≤ 60000000 := by
  simp only [onn, Bool.and_eq_true] at h
  exact ⟨of_decide_eq_true h.1, of_decide_eq_true h.2⟩
def ocs (σ : oSt) (r : Option Nat) (ci : Nat) : Bool := match r with
  | none => true
  | some a => match σ.1 a with
    | some (.inr o) => decide (o.1 = ci)
    | _ => false
def oby (x : Int32) : Bool := decide (narrow .byte (.int x) = .int x) && fits .byte (.int x)
def ochr (x : Int32) : Bool := decide (narrow .char (.int x) = .int x)
def onar (ty : FieldType) (x : Int32) : Bool := decide (narrow ty (.int x) = .int x)
theorem orf_n {ty : FieldType} (h : (∃ C, ty = .object C) ∨ ∃ t, ty = .array t) (r : Option Nat) : narrow ty (va_rf r) = va_rf r ∧ fits ty (va_rf r) = true := by
  rcases h with ⟨C, h⟩ | ⟨t, h⟩ <;> subst h <;> cases r <;> exact ⟨rfl, rfl⟩
theorem oix2 {x v : Int32} {k : Int} (h : ¬ x = v) (hk : v.toInt = k) : x.toInt ≠ k := fun e => h (Int32.toInt_inj.mp (by rw [e, hk]))
section OWR
variable {own : String} {cc : ByteArray} {nL kd : Nat} {ret : Option FieldType} {κ : oKv} {kc : Nat → List Value → oSt → Option Value × oSt → Prop} {w0 : Option Value × oSt} {X : Nat → zLv → List Value → oSt → Prop} {pc : Nat} {lv : zLv} {st : List Value} {σ s1 : oSt}
theorem ow_get (hX : oSem own cc nL kd ret κ kc w0 X) {ix ci f : Nat} {r : Option Nat} {x : Value} (d : decode cc pc = .ok (.getfield ix, 3)) (hm : (own, ix, ci, f) ∈ oft) (hg : ofd σ r ci f = some x) (k : X (pc + 3) lv (x :: st) σ) : X pc lv (va_rf r :: st) σ := by
  obtain ⟨a, fs, rfl, h1, h2⟩ := ofd_e hg
  exact os_getf hX d hm h1 h2 k
theorem ow_getM (hX : oSem own cc nL kd ret κ kc w0 X) {r : Option Nat} {x : Value} (d : decode cc pc = .ok (.getfield 63, 3)) (ho : own = RJx4a65c) (hg : ofd σ r 1 0 = some x) (k : X (pc + 3) lv (x :: st) σ) : X pc lv (va_rf r :: st) σ := by
  obtain ⟨a, fs, rfl, h1, h2⟩ := ofd_e hg
  exact os_getM hX d ho h1 h2 k
theorem ow_getV (hX : oSem own cc nL kd ret κ kc w0 X) {r : Option Nat} {x : Value} (d : decode cc pc = .ok (.getfield 9, 3)) (ho : own = RJ0) (hm : (own, 9, 0, 0) ∈ oft) (hg : ofk κ σ r 0 = some x) (k : X (pc + 3) lv (x :: st) σ) : X pc lv (va_rf r :: st) σ := by
  unfold ofk at hg
  split at hg
  next y hy => cases hg; exact ow_get hX d hm hy k
  next =>
    split at hg
    next a =>
      split at hg
      next i hi =>
        cases hg
        obtain ⟨rfl, q, hq⟩ := okA_e hi
        exact os_getKv hX d hq ho k
      next => cases hg
    next => cases hg
theorem ow_getCo (hX : oSem own cc nL kd ret κ kc w0 X) {r : Option Nat} {x : Value} (d : decode cc pc = .ok (.getfield 15, 3)) (ho : own = RJ0) (hm : (own, 15, 0, 1) ∈ oft) (hg : ofk κ σ r 1 = some x) (k : X (pc + 3) lv (x :: st) σ) : X pc lv (va_rf r :: st) σ := by
  unfold ofk at hg
  split at hg
  next y hy => cases hg; exact ow_get hX d hm hy k
  next =>
    split at hg
    next a =>
      split at hg
      next i hi =>
        cases hg
        obtain ⟨rfl, q, hq⟩ := okA_e hi
        exact os_getKc hX d hq ho k
      next => cases hg
    next => cases hg
theorem ow_put (hX : oSem own cc nL kd ret κ kc w0 X) {ix ci f : Nat} {r : Option Nat} {x : Value} (d : decode cc pc = .ok (.putfield ix, 3)) (hm : (own, ix, ci, f) ∈ oft) (hfin : ofin ci f = false) (hn : narrow (oty ci f) x = x ∧ fits (oty ci f) x = true) (hp : opf σ r ci f x = some s1) (k : X (pc + 3) lv st s1) : X pc lv (x :: va_rf r :: st) σ := by
  obtain ⟨a, fs, rfl, h1, h2, rfl⟩ := opf_e hp
  exact os_putf hX d hm h1 hfin hn.1 hn.2 h2 k
theorem ow_putF (hX : oSem own cc nL kd ret κ kc w0 X) {ix ci f : Nat} {r : Option Nat} {x : Value} (d : decode cc pc = .ok (.putfield ix, 3)) (hm : (own, ix, ci, f) ∈ oft) (hfin : ofin ci f = true) (hkd : kd = 2) (hdc : ((oq ci).2.1 f).1 = own) (hn : narrow (oty ci f) x = x ∧ fits (oty ci f) x = true) (hp : opf σ r ci f x = some s1) (k : X (pc + 3) lv st s1) : X pc lv (x :: va_rf r :: st) σ := by
  obtain ⟨a, fs, rfl, h1, h2, rfl⟩ := opf_e hp
  exact os_putF hX d hm h1 hfin hkd hdc hn.1 hn.2 h2 k
theorem ow_putM (hX : oSem own cc nL kd ret κ kc w0 X) {r : Option Nat} {x : Int32} (d : decode cc pc = .ok (.putfield 63, 3)) (ho : own = RJx4a65c) (hp : opf σ r 1 0 (.int x) = some s1) (k : X (pc + 3) lv st s1) : X pc lv (.int x :: va_rf r :: st) σ := by
  obtain ⟨a, fs, rfl, h1, h2, rfl⟩ := opf_e hp
  exact os_putM hX d ho h1 rfl rfl h2 k
theorem ow_len (hX : oSem own cc nL kd ret κ kc w0 X) {r : Option Nat} {x : Int32} (d : decode cc pc = .ok (.arraylength, 1)) (hg : oln2 κ σ r = some x) (k : X (pc + 1) lv (.int x :: st) σ) : X pc lv (va_rf r :: st) σ := by
  unfold oln2 at hg
  split at hg
  next a =>
    split at hg
    next y hy => cases hg; exact os_alen hX d hy k
    next => cases hg
    next =>
      split at hg
      next he => cases hg; subst he; exact os_alenE hX d k
      next =>
        split at hg
        next i hi =>
          cases hg
          obtain ⟨rfl, q, hq⟩ := okB_e hi
          refine os_alenK hX d hq ?_
          simpa only [oktx, hq] using k
        next => cases hg
  next => cases hg
theorem ow_ai (hX : oSem own cc nL kd ret κ kc w0 X) {r : Option Nat} {i x : Int32} (d : decode cc pc = .ok (.iaload, 1)) (hg : oai σ r .int i = some x) (k : X (pc + 1) lv (.int x :: st) σ) : X pc lv (.int i :: va_rf r :: st) σ := by
  obtain ⟨a, n, f, rfl, h1, h2, rfl⟩ := oai_e hg
  exact os_iald hX d h1 h2 k
theorem ow_ab (hX : oSem own cc nL kd ret κ kc w0 X) {r : Option Nat} {i x : Int32} (d : decode cc pc = .ok (.baload, 1)) (hg : oai σ r .byte i = some x) (k : X (pc + 1) lv (.int x :: st) σ) : X pc lv (.int i :: va_rf r :: st) σ := by
  obtain ⟨a, n, f, rfl, h1, h2, rfl⟩ := oai_e hg
  exact os_bald hX d h1 h2 k
theorem ow_az (hX : oSem own cc nL kd ret κ kc w0 X) {r : Option Nat} {i x : Int32} (d : decode cc pc = .ok (.baload, 1)) (hg : oai σ r .boolean i = some x) (k : X (pc + 1) lv (.int x :: st) σ) : X pc lv (.int i :: va_rf r :: st) σ := by
  obtain ⟨a, n, f, rfl, h1, h2, rfl⟩ := oai_e hg
  exact os_zald hX d h1 h2 k
theorem ow_ac (hX : oSem own cc nL kd ret κ kc w0 X) {r : Option Nat} {i x : Int32} (d : decode cc pc = .ok (.caload, 1)) (hg : oai σ r .char i = some x) (k : X (pc + 1) lv (.int x :: st) σ) : X pc lv (.int i :: va_rf r :: st) σ := by
  obtain ⟨a, n, f, rfl, h1, h2, rfl⟩ := oai_e hg
  exact os_cald hX d h1 h2 k
theorem ow_a8 (hX : oSem own cc nL kd ret κ kc w0 X) {r : Option Nat} {i x : Int32} (d : decode cc pc = .ok (.baload, 1)) (hg : oai8 κ σ r i = some x) (k : X (pc + 1) lv (.int x :: st) σ) : X pc lv (.int i :: va_rf r :: st) σ := by
  unfold oai8 at hg
  split at hg
  next y hy => cases hg; exact ow_ab hX d hy k
  next =>
    split at hg
    next a =>
      split at hg
      next q hq =>
        split at hg
        next hin =>
          cases hg
          obtain ⟨rfl, q', hq'⟩ := okB_e hq
          have e : oktx q = q'.2.2 := by simp only [oktx, hq']
          rw [e] at hin k
          exact os_baldK hX d hq' (zin_ok hin) k
        next => cases hg
      next => cases hg
    next => cases hg
theorem ow_aj (hX : oSem own cc nL kd ret κ kc w0 X) {r : Option Nat} {i : Int32} {x : Int64} (d : decode cc pc = .ok (.laload, 1)) (hg : oaj σ r i = some x) (k : X (pc + 1) lv (.long x :: st) σ) : X pc lv (.int i :: va_rf r :: st) σ := by
  obtain ⟨a, n, f, rfl, h1, h2, rfl⟩ := oaj_e hg
  exact os_lald hX d h1 h2 k
theorem ow_ar (hX : oSem own cc nL kd ret κ kc w0 X) {r : Option Nat} {i : Int32} {x : Option Nat} (d : decode cc pc = .ok (.aaload, 1)) (hg : oar σ r i = some x) (k : X (pc + 1) lv (va_rf x :: st) σ) : X pc lv (.int i :: va_rf r :: st) σ := by
  obtain ⟨a, n, f, rfl, h1, h2, rfl⟩ := oar_e hg
  rcases h1 with ⟨C, h1⟩ | h1
  · exact os_aald hX d h1 h2 k
  · exact os_aaldA hX d h1 h2 k
theorem ow_si (hX : oSem own cc nL kd ret κ kc w0 X) {r : Option Nat} {i x : Int32} (d : decode cc pc = .ok (.iastore, 1)) (hg : osi σ r .int i x = some s1) (k : X (pc + 1) lv st s1) : X pc lv (.int x :: .int i :: va_rf r :: st) σ := by
  obtain ⟨a, n, f, rfl, h1, h2, rfl⟩ := osi_e hg
  exact os_iast hX d h1 h2 k
theorem ow_sb (hX : oSem own cc nL kd ret κ kc w0 X) {r : Option Nat} {i x : Int32} (d : decode cc pc = .ok (.bastore, 1)) (hg : osi σ r .byte i (vp_nar .byte x) = some s1) (k : X (pc + 1) lv st s1) : X pc lv (.int x :: .int i :: va_rf r :: st) σ := by
  obtain ⟨a, n, f, rfl, h1, h2, rfl⟩ := osi_e hg
  exact os_bast hX d h1 h2 k
theorem ow_sz (hX : oSem own cc nL kd ret κ kc w0 X) {r : Option Nat} {i x : Int32} (d : decode cc pc = .ok (.bastore, 1)) (hg : osi σ r .boolean i (vp_nar .boolean x) = some s1) (k : X (pc + 1) lv st s1) : X pc lv (.int x :: .int i :: va_rf r :: st) σ := by
  obtain ⟨a, n, f, rfl, h1, h2, rfl⟩ := osi_e hg
  exact os_zast hX d h1 h2 k
theorem ow_sc (hX : oSem own cc nL kd ret κ kc w0 X) {r : Option Nat} {i x : Int32} (d : decode cc pc = .ok (.castore, 1)) (hg : osi σ r .char i (vp_nar .char x) = some s1) (k : X (pc + 1) lv st s1) : X pc lv (.int x :: .int i :: va_rf r :: st) σ := by
  obtain ⟨a, n, f, rfl, h1, h2, rfl⟩ := osi_e hg
  exact os_cast hX d h1 h2 k
theorem ow_sj (hX : oSem own cc nL kd ret κ kc w0 X) {r : Option Nat} {i : Int32} {x : Int64} (d : decode cc pc = .ok (.lastore, 1)) (hg : osj σ r i x = some s1) (k : X (pc + 1) lv st s1) : X pc lv (.long x :: .int i :: va_rf r :: st) σ := by
  obtain ⟨a, n, f, rfl, h1, h2, rfl⟩ := osj_e hg
  exact os_last hX d h1 h2 k
theorem ow_sr (hX : oSem own cc nL kd ret κ kc w0 X) {r y : Option Nat} {i : Int32} (d : decode cc pc = .ok (.aastore, 1)) (hg : osr σ r i y = some s1) (k : X (pc + 1) lv st s1) : X pc lv (va_rf y :: .int i :: va_rf r :: st) σ := by
  unfold osr at hg
  split at hg
  next a =>
    split at hg
    next C n f ho =>
      split at hg
      next hin =>
        split at hg
        next => cases hg; exact os_aastN hX d ho (zin_ok hin) k
        next b =>
          split at hg
          next o hb =>
            split at hg
            next hf =>
              cases hg
              simp only [ofits, Bool.and_eq_true, Bool.or_eq_true] at hf
              have h1 : o.1 < 15 := of_decide_eq_true hf.1
              rcases hf.2 with h2 | h2
              · obtain ⟨h2, h3⟩ := of_decide_eq_true h2
                subst h2
                exact os_aastO (ci := o.1) (vs := o.2) hX d ho hb ⟨h1, h3⟩ (zin_ok hin) k
              · have h2 := of_decide_eq_true h2
                subst h2
                exact os_aast (ci := o.1) (vs := o.2) (w := oq o.1) hX d ho hb (oq_at h1) (zin_ok hin) k
            next => cases hg
          next => cases hg
      next => cases hg
    next n f ho =>
      split at hg
      next hin =>
        split at hg
        next => cases hg
        next b =>
          split at hg
          next t nv fv hb =>
            split at hg
            next hf =>
              cases hg
              subst hf
              exact os_aastA hX d ho hb (zin_ok hin) k
            next => cases hg
          next => cases hg
      next => cases hg
    next => cases hg
  next => cases hg
theorem ow_cpy (hX : oSem own cc nL kd ret κ kc w0 X) {ix : Nat} {r0 r1 : Option Nat} {sp dp n : Int32} (d : decode cc pc = .ok (.invokestatic ix, 3)) (hm : (own, ix) ∈ ocp) (hc : (st.map fun v => v.category).sum ≤ 16) (hg : ocy σ r0 sp r1 dp n = some s1) (k : X (pc + 3) lv st s1) : X pc lv (.int n :: .int dp :: va_rf r1 :: .int sp :: va_rf r0 :: st) σ := by
  unfold ocy at hg
  split at hg
  next a0 a =>
    split at hg
    next n0 f n1 g h0 h1 =>
      split at hg
      next hi =>
        cases hg
        obtain ⟨i1, i2, i3, i4, i5⟩ := oix_e hi
        exact os_copyI hX d hm h0 h1 i1 i2 i3 i4 i5 hc k
      next => cases hg
    next n0 f n1 g h0 h1 =>
      split at hg
      next hi =>
        cases hg
        obtain ⟨i1, i2, i3, i4, i5⟩ := oix_e hi.1
        exact os_copyB hX d hm h0 h1 i1 i2 i3 i4 i5 (fun i hi2 => List.all_eq_true.mp hi.2 i (List.mem_range.mpr hi2)) hc k
      next => cases hg
    next n0 f n1 g h0 h1 =>
      split at hg
      next hi =>
        cases hg
        obtain ⟨i1, i2, i3, i4, i5⟩ := oix_e hi
        exact os_copyJ hX d hm h0 h1 i1 i2 i3 i4 i5 hc k
      next => cases hg
    next E n0 f E1 n1 g h0 h1 =>
      split at hg
      next hi =>
        split at hg
        next ci hci =>
          cases hg
          obtain ⟨i1, i2, i3, i4, i5⟩ := oix_e hi.1
          have h2 := List.find?_some hci
          simp only [ofits, Bool.and_eq_true, Bool.or_eq_true] at h2
          obtain ⟨⟨h3, h4⟩, h5⟩ := h2
          have hE := hi.2
          subst hE
          exact os_copyQ (ci := ci) hX d hm h0 h1 i1 i2 i3 i4 i5 (of_decide_eq_true h3) (h4.imp of_decide_eq_true of_decide_eq_true) (oelm_e h5) hc k
        next => cases hg
      next => cases hg
    next => cases hg
  next => cases hg
theorem ow_cs (hX : oSem own cc nL kd ret κ kc w0 X) {ix ci : Nat} {r : Option Nat} (d : decode cc pc = .ok (.checkcast ix, 3)) (hm : (own, ix, ci) ∈ okc) (hg : ocs σ r ci = true) (k : X (pc + 3) lv (va_rf r :: st) σ) : X pc lv (va_rf r :: st) σ := by
  unfold ocs at hg
  split at hg
  next => exact os_castN hX d k
  next a =>
    split at hg
    next o ho =>
      have h2 := of_decide_eq_true hg
      exact os_cast_ (fs := o.2) hX d hm (by rw [ho, ← h2]) k
    next => cases hg
theorem ow_in (hX : oSem own cc nL kd ret κ kc w0 X) {ix ci a : Nat} {r : Option Nat} (d : decode cc pc = .ok (.instanceof ix, 3)) (hm : (own, ix, ci) ∈ okc) (hg : oob σ r ci = some a) (k : X (pc + 3) lv (.int 1 :: st) σ) : X pc lv (va_rf r :: st) σ := by
  obtain ⟨rfl, fs, h1⟩ := oob_e hg
  exact os_inst_ hX d hm h1 k
def oOb (σ : oSt) (r : Option Nat) : Option Nat := match r with
  | some a => match σ.1 a with
    | some (.inl (.object C, _, .inr (.inr (.inr (.inr _))))) => if C = "java/lang/Object" then some a else none
    | _ => none
  | none => none
theorem ow_gC (hX : oSem own cc nL kd ret κ kc w0 X) {a : Nat} {r : Option Nat} (d : decode cc pc = .ok (.invokevirtual 86, 3)) (ho : own = RJ7) (hc : (st.map fun v => v.category).sum ≤ 16) (hg : oOb σ r = some a) (k : X (pc + 3) lv (va_rf (some κ.2.2.2.1) :: st) σ) : X pc lv (va_rf r :: st) σ := by
  unfold oOb at hg
  split at hg
  next b =>
    split at hg
    next C n f hb =>
      split at hg
      next hC => cases hg; subst hC; exact os_getC hX d ho hb hc k
      next => cases hg
    next => cases hg
  next => cases hg
theorem ow_oI (hX : oSem own cc nL kd ret κ kc w0 X) {ix a : Nat} {r : Option Nat} (d : decode cc pc = .ok (.invokespecial ix, 3)) (hm : (own, ix) ∈ oil) (hc : (st.map fun v => v.category).sum ≤ 16) (hg : r = some a) (k : X (pc + 3) lv st σ) : X pc lv (va_rf r :: st) σ := by
  subst hg
  exact os_objI hX d hm hc k
theorem ow_cVv (hX : oSem own cc nL kd ret κ kc w0 X) {ix j b ci : Nat} {en : oMt} {as : List Value} {u : oSt} {rb : Option Nat} (d : decode cc pc = .ok (.invokevirtual ix, 3)) (hm : (own, ix, j) ∈ olt) (he : omt[j]? = some en) (hs : en.2.2.2.2.1 = 0) (hr : okd en.2.2.2.2.2.1 = 0) (hl : as.length = en.2.2.2.1) (hc : (st.map fun v => v.category).sum ≤ 16) (hb : oob σ rb ci = some b) (hci : ci < 15 ∧ (oq ci).1 = en.2.2.2.2.2.2) (hk : kc j (va_rf rb :: as) σ (none, u)) (k : X (pc + 3) lv (st) u) : X pc lv (as.reverse ++ va_rf rb :: st) σ := by
  obtain ⟨rfl, fs, h1⟩ := oob_e hb
  exact os_callVv hX d hm he hs hr hl hc h1 hci hk k
theorem ow_cVl (hX : oSem own cc nL kd ret κ kc w0 X) {ix j b ci : Nat} {en : oMt} {as : List Value} {u : oSt} {rb : Option Nat} {r : Int64} (d : decode cc pc = .ok (.invokevirtual ix, 3)) (hm : (own, ix, j) ∈ olt) (he : omt[j]? = some en) (hs : en.2.2.2.2.1 = 0) (hr : okd en.2.2.2.2.2.1 = 1) (hl : as.length = en.2.2.2.1) (hc : (st.map fun v => v.category).sum ≤ 16) (hb : oob σ rb ci = some b) (hci : ci < 15 ∧ (oq ci).1 = en.2.2.2.2.2.2) (hk : kc j (va_rf rb :: as) σ (some (.long r), u)) (k : X (pc + 3) lv (.long r :: st) u) : X pc lv (as.reverse ++ va_rf rb :: st) σ := by
  obtain ⟨rfl, fs, h1⟩ := oob_e hb
  exact os_callVl hX d hm he hs hr hl hc h1 hci hk k
theorem ow_cVi (hX : oSem own cc nL kd ret κ kc w0 X) {ix j b ci : Nat} {en : oMt} {as : List Value} {u : oSt} {rb : Option Nat} {r : Int32} (d : decode cc pc = .ok (.invokevirtual ix, 3)) (hm : (own, ix, j) ∈ olt) (he : omt[j]? = some en) (hs : en.2.2.2.2.1 = 0) (hr : okd en.2.2.2.2.2.1 = 2) (hl : as.length = en.2.2.2.1) (hc : (st.map fun v => v.category).sum ≤ 16) (hb : oob σ rb ci = some b) (hci : ci < 15 ∧ (oq ci).1 = en.2.2.2.2.2.2) (hk : kc j (va_rf rb :: as) σ (some (.int r), u)) (k : X (pc + 3) lv (.int r :: st) u) : X pc lv (as.reverse ++ va_rf rb :: st) σ := by
  obtain ⟨rfl, fs, h1⟩ := oob_e hb
  exact os_callVi hX d hm he hs hr hl hc h1 hci hk k
theorem ow_cVq (hX : oSem own cc nL kd ret κ kc w0 X) {ix j b ci : Nat} {en : oMt} {as : List Value} {u : oSt} {rb : Option Nat} {r : Option Nat} (d : decode cc pc = .ok (.invokevirtual ix, 3)) (hm : (own, ix, j) ∈ olt) (he : omt[j]? = some en) (hs : en.2.2.2.2.1 = 0) (hr : okd en.2.2.2.2.2.1 = 3) (hl : as.length = en.2.2.2.1) (hc : (st.map fun v => v.category).sum ≤ 16) (hb : oob σ rb ci = some b) (hci : ci < 15 ∧ (oq ci).1 = en.2.2.2.2.2.2) (hk : kc j (va_rf rb :: as) σ (some (va_rf r), u)) (k : X (pc + 3) lv (va_rf r :: st) u) : X pc lv (as.reverse ++ va_rf rb :: st) σ := by
  obtain ⟨rfl, fs, h1⟩ := oob_e hb
  exact os_callVq hX d hm he hs hr hl hc h1 hci hk k
theorem ow_cI (hX : oSem own cc nL kd ret κ kc w0 X) {ix j b : Nat} {en : oMt} {as : List Value} {u : oSt} {rb : Option Nat} (d : decode cc pc = .ok (.invokespecial ix, 3)) (hm : (own, ix, j) ∈ olt) (he : omt[j]? = some en) (hs : en.2.2.2.2.1 = 2) (hr : okd en.2.2.2.2.2.1 = 0) (hl : as.length = en.2.2.2.1) (hc : (st.map fun v => v.category).sum ≤ 8) (hb : rb = some b) (hk : kc j (va_rf rb :: as) σ (none, u)) (k : X (pc + 3) lv st u) : X pc lv (as.reverse ++ va_rf rb :: st) σ := by
  subst hb
  exact os_callI hX d hm he hs hr hl hc hk k
theorem ow_cN (hX : oSem own cc nL kd ret κ kc w0 X) {ix j b : Nat} {en : oMt} {as : List Value} {u : oSt} {rb : Option Nat} (d : decode cc pc = .ok (.invokespecial ix, 3)) (hm : (own, ix, j) ∈ oln) (he : omt[j]? = some en) (hs : en.2.2.2.2.1 = 2) (hr : okd en.2.2.2.2.2.1 = 0) (hl : as.length = en.2.2.2.1) (hc : (st.map fun v => v.category).sum ≤ 8) (hb : rb = some b) (hk : kc j (va_rf rb :: as) σ (none, u)) (k : X (pc + 3) lv st u) : X pc lv (as.reverse ++ va_rf rb :: st) σ := by
  subst hb
  exact os_callN hX d hm he hs hr hl hc hk k
/-- a String, made or constant -/
def oSt' (κ : oKv) (σ : oSt) (r : Option Nat) : Option Nat := match oob σ r 0 with
  | some a => some a
  | none => match r with
    | some a => match okA κ a with
      | some _ => some a
      | none => none
    | none => none
theorem ow_cKi (hX : oSem own cc nL kd ret κ kc w0 X) {ix j b : Nat} {en : oMt} {as : List Value} {u : oSt} {rb : Option Nat} {r : Int32} (d : decode cc pc = .ok (.invokevirtual ix, 3)) (hm : (own, ix, j) ∈ olt) (he : omt[j]? = some en) (hs : en.2.2.2.2.1 = 0) (hr : okd en.2.2.2.2.2.1 = 2) (hl : as.length = en.2.2.2.1) (hc : (st.map fun v => v.category).sum ≤ 16) (hb : oSt' κ σ rb = some b) (hci : RJ0 = en.2.2.2.2.2.2) (hk : kc j (va_rf rb :: as) σ (some (.int r), u)) (k : X (pc + 3) lv (.int r :: st) u) : X pc lv (as.reverse ++ va_rf rb :: st) σ := by
  unfold oSt' at hb
  split at hb
  next a ha => exact ow_cVi hX d hm he hs hr hl hc ha ⟨by decide, hci⟩ hk k
  next =>
    split at hb
    next a =>
      split at hb
      next i hi =>
        obtain ⟨rfl, q, hq⟩ := okA_e hi
        exact os_callKi hX d hm he hs hr hl hc hq hci hk k
      next => cases hb
    next => cases hb
end OWR
