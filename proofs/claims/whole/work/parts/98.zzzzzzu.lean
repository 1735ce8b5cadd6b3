/-! sums by how often each NAME stands in them -/
def sCf : List (Nat × Int32) → Nat → Int32
  | [], _ => 0
  | q :: L, x => (if q.1 = x then q.2 else 0) + sCf L x
/-- every NAME once, none 0 times -/
def sNi (L : List (Nat × Int32)) : Prop := (L.map Prod.fst).Nodup ∧ ∀ q, q ∈ L → q.2 ≠ 0
section SCF
variable {L M : List (Nat × Int32)} {x b k : Nat} {v : Int32}
theorem sCf_ap (L M : List (Nat × Int32)) (x : Nat) : sCf (L ++ M) x = sCf L x + sCf M x := by
  induction L with
  | nil => show sCf M x = 0 + _; grind
  | cons q L IH => show _ + sCf (L ++ M) x = _ + sCf L x + _; rw [IH]; grind
theorem sCf_set : ∀ (L : List (Nat × Int32)) (k : Nat) (p q : Nat × Int32) (x : Nat), L[k]? = some p → sCf (L.set k q) x = sCf L x - (if p.1 = x then p.2 else 0) + (if q.1 = x then q.2 else 0)
  | [], k, p, q, x, h => by cases h
  | r :: L, 0, p, q, x, h => by
    have h : some r = some p := h
    injection h with h
    subst h
    show (if q.1 = x then q.2 else 0) + sCf L x = (if r.1 = x then r.2 else 0) + sCf L x - _ + _
    grind
  | r :: L, k + 1, p, q, x, h => by
    have h : L[k]? = some p := h
    show (if r.1 = x then r.2 else 0) + sCf (L.set k q) x = (if r.1 = x then r.2 else 0) + sCf L x - _ + _
    rw [sCf_set L k p q x h]
    grind
theorem sCf_last {q : Nat × Int32} (x : Nat) (h : L[L.length - 1]? = some q) : sCf (L.take (L.length - 1)) x = sCf L x - (if q.1 = x then q.2 else 0) := by
  have hl : L.length - 1 < L.length := by
    by_cases z : L.length - 1 < L.length
    · exact z
    · rw [List.getElem?_eq_none (by omega)] at h; cases h
  have e : L = L.take (L.length - 1) ++ [q] := by
    have e2 : L.drop (L.length - 1) = [q] := by
      rw [List.drop_eq_getElem_cons hl, List.drop_eq_nil_of_le (by omega)]
      rw [List.getElem?_eq_getElem hl] at h
      injection h with h
      rw [h]
    rw [← e2, List.take_append_drop]
  have e3 := congrArg (fun l => sCf l x) e
  have e3 : sCf L x = sCf (L.take (L.length - 1) ++ [q]) x := e3
  rw [sCf_ap] at e3
  have e4 : sCf [q] x = (if q.1 = x then q.2 else 0) + 0 := rfl
  rw [e4] at e3
  grind
theorem sL1_at (L : List (Nat × Int32)) (b : Nat) : ∃ c, (sL1 L b)[sIx L b]? = some (b, c) := by
  unfold sL1
  by_cases e : sIx L b = L.length
  · rw [if_pos e, e, List.getElem?_append_right (Nat.le_refl _), Nat.sub_self]
    exact ⟨0, rfl⟩
  · rw [if_neg e]
    exact sIx_eq b L (by have := sIx_le b L; omega)
theorem sCf_L1 (L : List (Nat × Int32)) (b x : Nat) : sCf (sL1 L b) x = sCf L x := by
  unfold sL1
  split
  · rw [sCf_ap]
    show _ + ((if b = x then (0 : Int32) else 0) + 0) = _
    split <;> grind
  · rfl
theorem sCf_up {c : Int32} (h : L[k]? = some (b, c)) (v : Int32) (x : Nat) : sCf (sUp L b k v) x = sCf L x + (if b = x then v else 0) := by
  have eAt : sAt L k = c := by unfold sAt; rw [h]
  have hkl : k < L.length := by
    by_cases q : k < L.length
    · exact q
    · rw [List.getElem?_eq_none (by omega)] at h; cases h
  unfold sUp
  rw [eAt]
  by_cases c0 : c + v = 0
  · rw [if_pos c0]
    obtain ⟨q, hq⟩ : ∃ q, L[L.length - 1]? = some q := ⟨_, List.getElem?_eq_getElem (by omega)⟩
    rw [hq]
    show sCf ((L.set k q).take (L.length - 1)) x = _
    have hl : (L.set k q)[(L.set k q).length - 1]? = some q := by
      rw [List.length_set]
      by_cases e : k = L.length - 1
      · rw [← e, List.getElem?_set_self hkl]
      · rw [List.getElem?_set_ne e, hq]
    have := sCf_last x hl
    rw [List.length_set] at this
    rw [this, sCf_set L k (b, c) q x h]
    show _ - (if b = x then c else 0) + _ - _ = _
    split <;> grind
  · rw [if_neg c0, sCf_set L k (b, c) _ x h]
    show _ - (if b = x then c else 0) + (if b = x then c + v else 0) = _
    split <;> grind
theorem sCf_add (L : List (Nat × Int32)) (b : Nat) (v : Int32) (x : Nat) : sCf (sAdd L b v) x = sCf L x + (if b = x then v else 0) := by
  obtain ⟨c, hc⟩ := sL1_at L b
  unfold sAdd
  rw [sCf_up hc, sCf_L1]
theorem sCf_all (v : Int32) : ∀ (L' L : List (Nat × Int32)) (x : Nat), sCf (sAll v L' L) x = sCf L x + v * sCf L' x
  | [], L, x => by show sCf L x = sCf L x + v * 0; grind
  | q :: L', L, x => by
    show sCf (sAll v L' (sAdd L q.1 (v * q.2))) x = sCf L x + v * ((if q.1 = x then q.2 else 0) + sCf L' x)
    rw [sCf_all v L' _ x, sCf_add]
    split <;> grind
/-- keys stay different -/
theorem sKy_L1 (h : (L.map Prod.fst).Nodup) (b : Nat) : ((sL1 L b).map Prod.fst).Nodup := by
  unfold sL1
  split
  · rename_i e
    rw [List.map_append]
    refine List.nodup_append.mpr ⟨h, by show [b].Nodup; simp, fun u hu w hw z => ?_⟩
    obtain ⟨q, hq, rfl⟩ := List.mem_map.mp hu
    obtain ⟨j, hj, ej⟩ := List.mem_iff_getElem.mp hq
    have hw : w ∈ [b] := hw
    rw [List.mem_singleton.mp hw] at z
    exact sIx_lt b L j q (by omega) (by rw [List.getElem?_eq_getElem hj, ej]) z
  · exact h
theorem sNi_up {c : Int32} (h1 : (L.map Prod.fst).Nodup) (h2 : ∀ j q, L[j]? = some q → j ≠ k → q.2 ≠ 0) (h : L[k]? = some (b, c)) (v : Int32) : sNi (sUp L b k v) := by
  have eAt : sAt L k = c := by unfold sAt; rw [h]
  have hkl : k < L.length := by
    by_cases q : k < L.length
    · exact q
    · rw [List.getElem?_eq_none (by omega)] at h; cases h
  have inj : ∀ i j (p q : Nat × Int32), L[i]? = some p → L[j]? = some q → p.1 = q.1 → i = j := fun i j p q hi hj e => by
    have hi' : i < L.length := by
      by_cases z : i < L.length
      · exact z
      · rw [List.getElem?_eq_none (by omega)] at hi; cases hi
    have hj' : j < L.length := by
      by_cases z : j < L.length
      · exact z
      · rw [List.getElem?_eq_none (by omega)] at hj; cases hj
    rw [List.getElem?_eq_getElem hi'] at hi
    rw [List.getElem?_eq_getElem hj'] at hj
    injection hi with hi
    injection hj with hj
    refine (List.getElem_inj (i := i) (j := j) h1 (h₀ := by rw [List.length_map]; exact hi') (h₁ := by rw [List.length_map]; exact hj')).mp ?_
    rw [List.getElem_map, List.getElem_map, hi, hj, e]
  unfold sUp
  rw [eAt]
  by_cases c0 : c + v = 0
  · rw [if_pos c0]
    obtain ⟨q, hq⟩ : ∃ q, L[L.length - 1]? = some q := ⟨_, List.getElem?_eq_getElem (by omega)⟩
    rw [hq]
    show sNi ((L.set k q).take (L.length - 1))
    have at' : ∀ j, j < L.length - 1 → ((L.set k q).take (L.length - 1))[j]? = if j = k then some q else L[j]? := fun j hj => by
      rw [List.getElem?_take_of_lt hj, List.getElem?_set]
      by_cases e : k = j
      · rw [if_pos e, if_pos e.symm, if_pos (by omega)]
      · rw [if_neg e, if_neg (fun z => e z.symm)]
    have ln : ((L.set k q).take (L.length - 1)).length = L.length - 1 := by rw [List.length_take, List.length_set]; omega
    constructor
    · refine List.pairwise_iff_getElem.mpr (fun i j hi hj hij => ?_)
      rw [List.length_map, ln] at hi hj
      rw [List.getElem_map, List.getElem_map]
      intro e
      have ei := at' i hi
      have ej := at' j hj
      rw [List.getElem?_eq_getElem (by rw [ln]; exact hi)] at ei
      rw [List.getElem?_eq_getElem (by rw [ln]; exact hj)] at ej
      by_cases z1 : i = k
      · rw [if_pos z1] at ei
        rw [if_neg (by omega)] at ej
        injection ei with ei
        have := inj (L.length - 1) j _ _ hq ej.symm ((congrArg Prod.fst ei).symm.trans e)
        omega
      · rw [if_neg z1] at ei
        by_cases z2 : j = k
        · rw [if_pos z2] at ej
          injection ej with ej
          have := inj i (L.length - 1) _ _ ei.symm hq (e.trans (congrArg Prod.fst ej))
          omega
        · rw [if_neg z2] at ej
          have := inj i j _ _ ei.symm ej.symm e
          omega
    · intro p hp
      obtain ⟨j, hj, ej⟩ := List.mem_iff_getElem.mp hp
      rw [ln] at hj
      have e := at' j hj
      rw [List.getElem?_eq_getElem (by rw [ln]; exact hj), ej] at e
      by_cases z : j = k
      · rw [if_pos z] at e
        injection e with e
        rw [e]
        exact h2 (L.length - 1) q hq (by omega)
      · rw [if_neg z] at e
        exact h2 j p e.symm z
  · rw [if_neg c0]
    have at' : ∀ j, (L.set k (b, c + v))[j]? = if k = j then some (b, c + v) else L[j]? := fun j => by
      rw [List.getElem?_set]
      by_cases e : k = j
      · rw [if_pos e, if_pos e, if_pos hkl]
      · rw [if_neg e, if_neg e]
    constructor
    · have : (L.set k (b, c + v)).map Prod.fst = L.map Prod.fst := by
        rw [List.map_set]
        refine List.ext_getElem? (fun j => ?_)
        rw [List.getElem?_set]
        split
        · rename_i e
          rw [List.length_map, if_pos hkl, ← e, List.getElem?_map, h]
          rfl
        · rfl
      rw [this]
      exact h1
    · intro p hp
      obtain ⟨j, hj, ej⟩ := List.mem_iff_getElem.mp hp
      have e := at' j
      rw [List.getElem?_eq_getElem hj, ej] at e
      by_cases z : k = j
      · rw [if_pos z] at e
        injection e with e
        rw [e]
        exact c0
      · rw [if_neg z] at e
        exact h2 j p e.symm (fun y => z y.symm)
theorem sNi.add (h : sNi L) (b : Nat) (v : Int32) : sNi (sAdd L b v) := by
  obtain ⟨c, hc⟩ := sL1_at L b
  refine sNi_up (sKy_L1 h.1 b) (fun j q hj hne => ?_) hc v
  unfold sL1 at hj
  split at hj
  · rename_i e
    have hjl : j < L.length := by
      by_cases z : j < L.length
      · exact z
      · by_cases z2 : j = L.length
        · omega
        · rw [List.getElem?_eq_none (by rw [List.length_append]; show L.length + 1 ≤ j; omega)] at hj; cases hj
    rw [List.getElem?_append_left hjl] at hj
    exact h.2 q (List.mem_of_getElem? hj)
  · exact h.2 q (List.mem_of_getElem? hj)
theorem sNi.all (v : Int32) : ∀ (L' L : List (Nat × Int32)), sNi L → sNi (sAll v L' L)
  | [], L, h => h
  | q :: L', L, h => sNi.all v L' _ (h.add q.1 (v * q.2))
theorem sNi.nil : sNi [] := ⟨List.nodup_nil, fun q hq => by cases hq⟩
theorem sCf_no : ∀ (L : List (Nat × Int32)) (x : Nat), x ∉ L.map Prod.fst → sCf L x = 0
  | [], _, _ => rfl
  | q :: L, x, h => by
    show (if q.1 = x then q.2 else 0) + sCf L x = 0
    rw [if_neg (fun e => h (by rw [← e]; exact List.mem_cons_self ..)), sCf_no L x (fun z => h (List.mem_cons_of_mem _ z))]
    grind
theorem sNi.mem : ∀ {L : List (Nat × Int32)}, sNi L → ∀ q : Nat × Int32, q ∈ L ↔ q.2 ≠ 0 ∧ sCf L q.1 = q.2
  | [], _, q => ⟨fun z => (by cases z), fun ⟨h1, h2⟩ => absurd h2.symm h1⟩
  | p :: L, h, q => by
    obtain ⟨h1, h2⟩ := h
    have h1' := List.nodup_cons.mp h1
    have I := sNi.mem (L := L) ⟨h1'.2, fun r hr => h2 r (List.mem_cons_of_mem _ hr)⟩ q
    show _ ↔ q.2 ≠ 0 ∧ (if p.1 = q.1 then p.2 else 0) + sCf L q.1 = q.2
    by_cases e : p.1 = q.1
    · rw [if_pos e, sCf_no L q.1 (by rw [← e]; exact h1'.1)]
      constructor
      · intro hq
        rcases List.mem_cons.mp hq with z | z
        · rw [z]; exact ⟨h2 p (List.mem_cons_self ..), by grind⟩
        · exact absurd (List.mem_map_of_mem (f := Prod.fst) z) (fun y => h1'.1 (by rw [e]; exact y))
      · rintro ⟨-, z⟩
        have : p = q := Prod.ext e (by grind)
        rw [this]
        exact List.mem_cons_self ..
    · rw [if_neg e]
      constructor
      · intro hq
        rcases List.mem_cons.mp hq with z | z
        · exact absurd (by rw [z]) e
        · obtain ⟨a, b⟩ := I.mp z
          exact ⟨a, by grind⟩
      · rintro ⟨a, b⟩
        exact List.mem_cons_of_mem _ (I.mpr ⟨a, by grind⟩)
theorem sNi.perm (h : sNi L) (h' : sNi M) (e : ∀ x, sCf L x = sCf M x) : L.Perm M := by
  have nd : ∀ {L : List (Nat × Int32)}, sNi L → L.Nodup := fun h => by
    have := h.1
    exact (List.pairwise_map.mp this).imp (fun h e => h (by rw [e]))
  refine (List.perm_ext_iff_of_nodup (nd h) (nd h')).mpr (fun q => ?_)
  rw [h.mem, h'.mem, e]
end SCF
