/-! the class's conditions mean what the reading says -/
/-- the same ways, as far as it matters -/
def bE (A B : List oBr) : Prop := ∀ K, kInv K → ∀ L ts, exB A K L ts ↔ exB B K L ts
section BEE
variable {A B C A' B' : List oBr} {Bs : List (List oBr)}
theorem bE.rf (A : List oBr) : bE A A := fun _ _ _ _ => Iff.rfl
theorem bE.sy (h : bE A B) : bE B A := fun K hK L ts => (h K hK L ts).symm
theorem bE.tr (h : bE A B) (g : bE B C) : bE A C := fun K hK L ts => (h K hK L ts).trans (g K hK L ts)
theorem bE.an (h : bE A A') (g : bE B B') : bE (brAnd A B) (brAnd A' B') := fun K hK L ts => by
  rw [exB.and hK, exB.and hK, h _ (exB.inv hK)]
  exact exB.cg (fun L ts => g K hK L ts)
theorem bE.ap (h : bE A A') (g : bE B B') : bE (A ++ B) (A' ++ B') := fun K hK L ts => by
  rw [exB.or, exB.or, h K hK, g K hK]
theorem bE.al (h : bE (brAnd A B) C) : bE (brAll (A :: B :: Bs)) (brAll (C :: Bs)) := fun K hK L ts => by
  rw [exB.all hK, exB.all hK]
  show exB A (exB B (exL Bs K)) L ts ↔ exB C (exL Bs K) L ts
  rw [← exB.and (exL.inv hK Bs)]
  exact h _ (exL.inv hK Bs) L ts
theorem bE.eq (h : brEq A B) : bE A B := fun K hK L ts => h.ex hK
theorem bE.exl : ∀ {As Cs : List (List oBr)} {K : oKt}, kInv K → As.length = Cs.length → (∀ (i : Nat) (A C : List oBr), As[i]? = some A → Cs[i]? = some C → bE A C) → ∀ L ts, exL As K L ts ↔ exL Cs K L ts
  | [], [], _, _, _, _, _, _ => Iff.rfl
  | [], _ :: _, _, _, h, _, _, _ => by cases h
  | _ :: _, [], _, _, h, _, _, _ => by cases h
  | A :: As, C :: Cs, K, hK, hl, h, L, ts => by
    show exB A (exL As K) L ts ↔ exB C (exL Cs K) L ts
    rw [h 0 A C rfl rfl _ (exL.inv hK As)]
    refine exB.cg (fun L ts => ?_)
    exact bE.exl hK (by injection hl) (fun i A C e1 e2 => h (i + 1) A C e1 e2) L ts
end BEE
theorem xC_s2 (a b : Nat) (w : Int) : xC [(a, b, w)] = xC [(b, a, w)] := funext fun p => funext fun q => funext fun e => propext (by
  constructor
  · rintro ⟨l, hl, h1, h2⟩
    rw [List.mem_singleton.mp hl] at h1 h2
    exact ⟨_, List.mem_singleton_self _, Or.symm h1, h2⟩
  · rintro ⟨l, hl, h1, h2⟩
    rw [List.mem_singleton.mp hl] at h1 h2
    exact ⟨_, List.mem_singleton_self _, Or.symm h1, h2⟩)
theorem cmL_pm {l l' : List (Nat × Int)} (h : l.Perm l') (hl : l.length ≤ 2) (pl sg le : Int) : xC [cmL l pl sg le] = xC [cmL l' pl sg le] := by
  have hl' := h.length_eq
  match l, l', h, hl, hl' with
  | [], [], _, _, _ => rfl
  | [x], [y], h, _, _ =>
    have : x ∈ [y] := h.subset (List.mem_singleton_self _)
    rw [List.mem_singleton.mp this]
  | [x, y], [x', y'], h, _, _ =>
    have h1 : x ∈ [x', y'] := h.subset (List.mem_cons_self ..)
    have two : ([x, y] = [x', y']) ∨ ([x, y] = [y', x']) := by
      rcases List.mem_cons.mp h1 with e | e
      · left
        subst e
        have := (List.perm_cons x).mp h
        rw [List.perm_singleton.mp this]
      · right
        have e := List.mem_singleton.mp e
        subst e
        have h2 : [x, y].Perm [x, x'] := h.trans (List.Perm.swap ..)
        have := (List.perm_cons x).mp h2
        rw [List.perm_singleton.mp this]
    rcases two with e | e
    · rw [e]
    · injection e with e1 e
      injection e with e2 _
      rw [e1, e2]
      exact xC_s2 _ _ _
  | _ :: _ :: _ :: _, _, _, h, _ => exact absurd h (by simp only [List.length_cons]; omega)
theorem cmB_pm {l l' : List (Nat × Int)} (h : l.Perm l') (hl : l.length ≤ 2) (pl : Int) (r : Nat) : brEq (cmB l pl r) (cmB l' pl r) := by
  have e : ∀ sg le, xC [cmL l pl sg le] = xC [cmL l' pl sg le] := fun sg le => cmL_pm h hl pl sg le
  unfold cmB
  by_cases c : r = 5
  · rw [if_pos c, if_pos c]
    refine ⟨fun a ha => ?_, fun b hb => ?_⟩
    · rcases List.mem_cons.mp ha with z | z
      · exact ⟨_, List.mem_cons_self .., by rw [z]; exact e 1 1, by rw [z]⟩
      · exact ⟨_, List.mem_cons_of_mem _ (List.mem_singleton_self _), by rw [List.mem_singleton.mp z]; exact e (-1) 1, by rw [List.mem_singleton.mp z]⟩
    · rcases List.mem_cons.mp hb with z | z
      · exact ⟨_, List.mem_cons_self .., by rw [z]; exact e 1 1, by rw [z]⟩
      · exact ⟨_, List.mem_cons_of_mem _ (List.mem_singleton_self _), by rw [List.mem_singleton.mp z]; exact e (-1) 1, by rw [List.mem_singleton.mp z]⟩
  · rw [if_neg c, if_neg c]
    have key : xC ((if r < 3 then [cmL l pl 1 (if r = 1 then 1 else 0)] else []) ++ (if r = 0 ∨ 2 < r then [cmL l pl (-1) (if r = 3 then 1 else 0)] else [])) = xC ((if r < 3 then [cmL l' pl 1 (if r = 1 then 1 else 0)] else []) ++ (if r = 0 ∨ 2 < r then [cmL l' pl (-1) (if r = 3 then 1 else 0)] else [])) := by
      rw [xC.app, xC.app]
      have h1 : xC (if r < 3 then [cmL l pl 1 (if r = 1 then 1 else 0)] else []) = xC (if r < 3 then [cmL l' pl 1 (if r = 1 then 1 else 0)] else []) := by
        split
        · exact e _ _
        · rfl
      have h2 : xC (if r = 0 ∨ 2 < r then [cmL l pl (-1) (if r = 3 then 1 else 0)] else []) = xC (if r = 0 ∨ 2 < r then [cmL l' pl (-1) (if r = 3 then 1 else 0)] else []) := by
        split
        · exact e _ _
        · rfl
      rw [h1, h2]
    refine ⟨fun a ha => ⟨_, List.mem_singleton_self _, by rw [List.mem_singleton.mp ha]; exact key, by rw [List.mem_singleton.mp ha]⟩, fun b hb => ⟨_, List.mem_singleton_self _, by rw [List.mem_singleton.mp hb]; exact key, by rw [List.mem_singleton.mp hb]⟩⟩
section NPL
variable {T : Nat} {f pp ee : Nat → Int32}
theorem nLs_ng : ∀ (ps : List tP) (l l' : Int64), nLs T f pp ee (-1) ps (l - l') = l - nLs T f pp ee 1 ps l'
  | [], _, _ => rfl
  | p :: ps, l, l' => by
    have hs : ∀ b : Bool, (sg b * (-1 : Int32)).toInt64 = -(sg b * 1 : Int32).toInt64 := by decide
    show nLs T f pp ee (-1) ps (if p.1 = 0 then (l - l') + (sg p.2.1 * -1).toInt64 * (nW T f pp ee p.2.2).toInt64 else l - l') = l - nLs T f pp ee 1 ps (if p.1 = 0 then l' + (sg p.2.1 * 1).toInt64 * (nW T f pp ee p.2.2).toInt64 else l')
    by_cases c : p.1 = 0
    · rw [if_pos c, if_pos c, ← nLs_ng ps, hs]
      congr 1
      grind
    · rw [if_neg c, if_neg c, nLs_ng ps]
/-- the number of a comparison -/
theorem cmPl_d {T0 : Nat} {fc : Nat → Int32} (hsp : ∀ ps, sPl T0 (fun j => fc j &&& 255) pp ee ps = sPl T f pp ee ps) {p1 p2 : List tP} (h1 : sNw T f pp ee p1) (h2 : sNw T f pp ee p2) : (cmPl T0 pp ee fc p1 p2).toInt = dPl T f pp ee p1 p2 := by
  have e := nLs_ng (T := T) (f := f) (pp := pp) (ee := ee) p2 (nLs T f pp ee 1 p1 0) 0
  rw [nLs_s h1, nLs_s h2] at e
  unfold dPl cmPl
  rw [hsp, hsp, nLs_s h1, show sPl T f pp ee p1 = sPl T f pp ee p1 - 0 by grind, e]
  congr 1
  rw [show ((1 : Int32).toInt64 : Int64) = 1 from rfl, show ((-1 : Int32).toInt64 : Int64) = -1 from rfl]
  grind
end NPL
