/-! forms do not depend on the objects: NAMES by the words that tell them -/
section TRR
variable {φ : Nat → Nat} {E : Nat → Prop}
/-- another name for each -/
def rMp (φ : Nat → Nat) (L : List (Nat × Int32)) : List (Nat × Int32) := L.map (fun q => (φ q.1, q.2))
def rIn (E : Nat → Prop) (L : List (Nat × Int32)) : Prop := ∀ q ∈ L, E q.1
theorem sIx_mp (hφ : ∀ u v, E u → E v → φ u = φ v → u = v) {b : Nat} (hb : E b) : ∀ (L : List (Nat × Int32)), rIn E L → sIx (rMp φ L) (φ b) = sIx L b
  | [], _ => rfl
  | q :: L, h => by
    have I := sIx_mp hφ hb L (fun x hx => h x (List.mem_cons_of_mem _ hx))
    show (if φ q.1 = φ b then 0 else sIx (rMp φ L) (φ b) + 1) = if q.1 = b then 0 else sIx L b + 1
    rw [I]
    by_cases c : q.1 = b
    · rw [if_pos c, if_pos (by rw [c])]
    · rw [if_neg c, if_neg (fun z => c (hφ _ _ (h q (List.mem_cons_self ..)) hb z))]
theorem rMp_len (L : List (Nat × Int32)) : (rMp φ L).length = L.length := List.length_map ..
theorem rMp_at (L : List (Nat × Int32)) (k : Nat) : (rMp φ L)[k]? = (L[k]?).map (fun q => (φ q.1, q.2)) := List.getElem?_map ..
theorem sAt_mp (L : List (Nat × Int32)) (k : Nat) : sAt (rMp φ L) k = sAt L k := by
  unfold sAt
  rw [rMp_at]
  cases L[k]? <;> rfl
theorem sL1_mp (hφ : ∀ u v, E u → E v → φ u = φ v → u = v) {b : Nat} (hb : E b) {L : List (Nat × Int32)} (h : rIn E L) : sL1 (rMp φ L) (φ b) = rMp φ (sL1 L b) := by
  unfold sL1
  rw [sIx_mp hφ hb L h, rMp_len]
  split
  · unfold rMp; rw [List.map_append]; rfl
  · rfl
theorem sUp_mp (L : List (Nat × Int32)) (b k : Nat) (v : Int32) : sUp (rMp φ L) (φ b) k v = rMp φ (sUp L b k v) := by
  unfold sUp
  rw [sAt_mp, rMp_len, rMp_at]
  split
  · cases e : L[L.length - 1]? with
    | none => rfl
    | some q =>
      show List.take (L.length - 1) ((rMp φ L).set k (φ q.1, q.2)) = rMp φ ((L.set k q).take (L.length - 1))
      unfold rMp
      rw [List.map_take, List.map_set]
  · unfold rMp
    rw [List.map_set]
theorem sAdd_mp (hφ : ∀ u v, E u → E v → φ u = φ v → u = v) {b : Nat} (hb : E b) {L : List (Nat × Int32)} (h : rIn E L) (v : Int32) : sAdd (rMp φ L) (φ b) v = rMp φ (sAdd L b v) := by
  unfold sAdd
  rw [sL1_mp hφ hb h, sIx_mp hφ hb L h, sUp_mp]
theorem sAdd_in {b : Nat} (hb : E b) {L : List (Nat × Int32)} (h : rIn E L) (v : Int32) : rIn E (sAdd L b v) := by
  have h1 : rIn E (sL1 L b) := by
    unfold sL1
    split
    · intro q hq
      rcases List.mem_append.mp hq with z | z
      · exact h q z
      · rw [List.mem_singleton.mp z]; exact hb
    · exact h
  unfold sAdd sUp
  generalize sL1 L b = L1 at h1 ⊢
  split
  · cases e : L1[L1.length - 1]? with
    | none => exact h1
    | some p =>
      intro q hq
      rcases List.mem_or_eq_of_mem_set (List.mem_of_mem_take hq) with z | z
      · exact h1 q z
      · rw [z]; exact h1 p (List.mem_of_getElem? e)
  · intro q hq
    rcases List.mem_or_eq_of_mem_set hq with z | z
    · exact h1 q z
    · rw [z]; exact hb
theorem sAll_mp (hφ : ∀ u v, E u → E v → φ u = φ v → u = v) (v : Int32) : ∀ (L' L : List (Nat × Int32)), rIn E L' → rIn E L → sAll v (rMp φ L') (rMp φ L) = rMp φ (sAll v L' L) ∧ rIn E (sAll v L' L)
  | [], L, _, h => ⟨rfl, h⟩
  | q :: L', L, h', h => by
    have hq := h' q (List.mem_cons_self ..)
    have I := sAll_mp hφ v L' (sAdd L q.1 (v * q.2)) (fun x hx => h' x (List.mem_cons_of_mem _ hx)) (sAdd_in hq h _)
    rw [← sAdd_mp hφ hq h] at I
    exact I
theorem sL_mp (hφ : ∀ u v, E u → E v → φ u = φ v → u = v) {ns ns' : Nat → Option Nat} (hn : ∀ w, ns' w = (ns w).map φ) (hE : ∀ w u, ns w = some u → E u) : ∀ (l : List tP) (L : List (Nat × Int32)), rIn E L → l.foldl (fun L p => if p.1 = 0 then L else match ns' p.2.2 with | some b => sAdd L b (sg p.2.1) | none => L) (rMp φ L) = rMp φ (l.foldl (fun L p => if p.1 = 0 then L else match ns p.2.2 with | some b => sAdd L b (sg p.2.1) | none => L) L) ∧ rIn E (l.foldl (fun L p => if p.1 = 0 then L else match ns p.2.2 with | some b => sAdd L b (sg p.2.1) | none => L) L)
  | [], L, h => ⟨rfl, h⟩
  | p :: l, L, h => by
    rw [List.foldl_cons, List.foldl_cons]
    by_cases c : p.1 = 0
    · rw [if_pos c, if_pos c]
      exact sL_mp hφ hn hE l L h
    · rw [if_neg c, if_neg c, hn p.2.2]
      cases e : ns p.2.2 with
      | none => exact sL_mp hφ hn hE l L h
      | some b =>
        show List.foldl _ (sAdd (rMp φ L) (φ b) (sg p.2.1)) l = _ ∧ _
        rw [sAdd_mp hφ (hE _ _ e) h]
        exact sL_mp hφ hn hE l _ (sAdd_in (hE _ _ e) h _)
theorem sFa_mp (L : List (Nat × Int32)) : sFa (rMp φ L) = sFa L := by unfold sFa; rw [rMp_len, sAt_mp, sAt_mp]
theorem sTe_mp (L : List (Nat × Int32)) : sTe (rMp φ L) = sTe L := by unfold sTe; rw [rMp_len, sAt_mp]
theorem sL_mp' (hφ : ∀ u v, E u → E v → φ u = φ v → u = v) {ns ns' : Nat → Option Nat} (hn : ∀ w, ns' w = (ns w).map φ) (hE : ∀ w u, ns w = some u → E u) (l : List tP) : sL ns' l = rMp φ (sL ns l) ∧ rIn E (sL ns l) := sL_mp hφ hn hE l [] (fun q hq => by cases hq)
theorem sDf_mp (hφ : ∀ u v, E u → E v → φ u = φ v → u = v) {L L' : List (Nat × Int32)} (h : rIn E L) (h' : rIn E L') : sDf (rMp φ L) (rMp φ L') = rMp φ (sDf L L') := by
  unfold sDf
  have a := sAll_mp hφ 1 L [] h (fun q hq => by cases hq)
  rw [show sAll 1 (rMp φ L) [] = rMp φ (sAll 1 L []) from a.1]
  exact (sAll_mp hφ (-1) L' _ h' a.2).1
theorem fCt_mp {pp : Nat → Int32} (hφ : ∀ u v, E u → E v → φ u = φ v → u = v) {ns ns' : Nat → Option Nat} (hn : ∀ w, ns' w = (ns w).map φ) (hE : ∀ w u, ns w = some u → E u) : ∀ (t : tT) (ff : Int32), fCt pp ns' t ff = fCt pp ns t ff
  | .leaf, _ => rfl
  | .inner g d _ a b, ff => by
    unfold fCt
    split
    · have h1 := sL_mp' hφ hn hE d.2.2.2.1.2
      have h2 := sL_mp' hφ hn hE d.2.2.2.2.2
      rw [h1.1, h2.1, sDf_mp hφ h1.2 h2.2, sFa_mp]
    · rw [fCt_mp hφ hn hE a, fCt_mp hφ hn hE b]
end TRR
section TRQ
variable {κ : oKv} {T : Nat} {kk pp ee f : Nat → Int32} {D : cDt} {σ : oSt} {nm : Nat → Option Nat} {ν : nSt} {cd i : Nat} {nf : Int32}
/-- forms by objects are forms by words -/
theorem cQn.mp (h : cQn pp ee f σ D nm ν cd nf i) : ∃ (φ : Nat → Nat) (E : Nat → Prop), (∀ u v, E u → E v → φ u = φ v → u = v) ∧ (∀ w, nRes f pp ee nm ν w = (nFind f pp ee ν.1 w).map φ) ∧ (∀ w u, nFind f pp ee ν.1 w = some u → E u) := by
  obtain ⟨h1, -, h3, h4⟩ := h
  have S : ∀ w u, nFind f pp ee ν.1 w = some u → u ∈ ν.1 ∧ ∃ b, nm u = some b := fun w u e => by
    obtain ⟨k, hk, ek⟩ := nFind_mem e
    obtain ⟨b, -, b2, -⟩ := h1.2.1 k u ek hk
    exact ⟨List.mem_of_getElem? ek, b, b2⟩
  refine ⟨fun u => (nm u).getD 0, fun u => u ∈ ν.1 ∧ ∃ b, nm u = some b, ?_, ?_, S⟩
  · rintro u v ⟨hu, b, eb⟩ ⟨hv, c, ec⟩ z
    refine h3 u (h4 u hu) v (h4 v hv) ?_
    have z' : (nm u).getD 0 = (nm v).getD 0 := z
    rw [eb, ec] at z' ⊢
    exact congrArg some z'
  · intro w
    unfold nRes
    cases e : nFind f pp ee ν.1 w with
    | none => rfl
    | some u =>
      obtain ⟨-, b, eb⟩ := S w u e
      show nm u = some ((nm u).getD 0)
      rw [eb]; rfl
theorem cQn.fc (h : cQn pp ee f σ D nm ν cd nf i) (t : tT) (ff : Int32) : fCt pp (nRes f pp ee nm ν) t ff = fCt pp (nFind f pp ee ν.1) t ff := by
  obtain ⟨φ, E, a1, a2, a3⟩ := h.mp
  exact fCt_mp a1 a2 a3 t ff
theorem cQn.te (h : cQn pp ee f σ D nm ν cd nf i) (l : List tP) : sTe (sL (nRes f pp ee nm ν) l) = sTe (sL (nFind f pp ee ν.1) l) := by
  obtain ⟨φ, E, a1, a2, a3⟩ := h.mp
  rw [(sL_mp' a1 a2 a3 l).1, sTe_mp]
end TRQ
