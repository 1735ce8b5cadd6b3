/-! terms with what is put in, by NAMES; the reference's putIn() -/
def gTf (G : List (gN × gTe)) (a : gN) : Option gTe := (G.find? (fun g => decide (g.1 = a))).map Prod.snd
/-- the oldest that fits is put in, once -/
def gRs (G : List (gN × gTe)) (t : gTe) : gTe := match t.1 with
  | none => t
  | some (a, e) => match gTf G a with
    | none => t
    | some u => (u.1.map (fun x => (x.1, e * x.2)), t.2 + e * u.2)
/-- whether something is put in -/
def gRf (G : List (gN × gTe)) (t : gTe) : Bool := match t.1 with
  | none => false
  | some (a, _) => (gTf G a).isSome
def gTw (Γ : uGm) (t : gTe) : Prop := ∀ x e, t.1 = some (x, e) → uNm Γ x ∧ (e = 1 ∨ e = -1)
def oPo (Γ : uGm) (p : gN × gTe) : oPu := (nI (Γ.1 p.1), (uTe Γ p.2).1, (uTe Γ p.2).2.1, (uTe Γ p.2).2.2)
def uT4 (Γ : uGm) (t : gTe) (b : Bool) : oU := ((uTe Γ t).1, (uTe Γ t).2.1, (uTe Γ t).2.2, b01 b)
theorem uPu_r {Γ : uGm} {v : Nat → Nat} {τ : zSt} (hv : v 91 ≤ 24000) : ∀ (G : List (gN × gTe)) (l : Int32), uPu Γ v τ G l → rPu τ l (G.map (oPo Γ))
  | [], l, h => by
    have h : l = -1 := h
    rw [h]
    exact m1_lt.1
  | p :: G, l, ⟨i, ⟨h1, h2⟩, h3, h4, h5⟩ => by
    have a : τ.2.2.1 56 i = (uTe Γ p.2).1 := congrArg Prod.fst h4
    have b : (τ.2.2.1 57 i, τ.2.2.2 59 i) = (uTe Γ p.2).2 := congrArg Prod.snd h4
    exact ⟨i, ⟨h1, by omega⟩, h3, a, congrArg Prod.fst b, congrArg Prod.snd b, uPu_r hv G _ h5⟩
theorem gTf_ap (G : List (gN × gTe)) (p : gN × gTe) (a : gN) : gTf (G ++ [p]) a = match gTf G a with
    | some u => some u
    | none => if p.1 = a then some p.2 else none := by
  unfold gTf
  rw [List.find?_append]
  cases e : G.find? (fun g => decide (g.1 = a)) with
  | some u => rfl
  | none =>
    show Option.map Prod.snd (List.find? (fun g => decide (g.1 = a)) [p]) = if p.1 = a then some p.2 else none
    by_cases c : p.1 = a
    · rw [if_pos c, List.find?_cons_of_pos (by exact decide_eq_true c)]
      rfl
    · rw [if_neg c, List.find?_cons_of_neg (by simpa using c)]
      rfl
theorem pm_ml {e e' : Int} (h : e = 1 ∨ e = -1) (h' : e' = 1 ∨ e' = -1) : Int32.ofInt e * Int32.ofInt e' = Int32.ofInt (e * e') ∧ (e * e' = 1 ∨ e * e' = -1) ∧ Int32.ofInt (e * e') ≠ 0 ∧ Int32.ofInt e ≠ 0 := by
  rcases h with rfl | rfl <;> rcases h' with rfl | rfl <;> decide
theorem pm_64 {e : Int} {x y : Int} (h : e = 1 ∨ e = -1) : Int64.ofInt x + (Int32.ofInt e).toInt64 * Int64.ofInt y = Int64.ofInt (x + e * y) := by
  rw [Int64.ofInt_add, Int64.ofInt_mul]
  rcases h with rfl | rfl <;> rfl
section PIG
variable {Γ : uGm}
theorem gTw.rs {G : List (gN × gTe)} {t : gTe} (h : gTw Γ t) (hG : ∀ p, p ∈ G → gTw Γ p.2) : gTw Γ (gRs G t) := by
  unfold gRs
  rcases t with ⟨_ | ⟨a, e⟩, k⟩
  · exact h
  · show gTw Γ (match gTf G a with | none => _ | some u => _)
    cases eu : gTf G a with
    | none => exact h
    | some u =>
      intro x e' hx
      have hx : u.1.map (fun x => (x.1, e * x.2)) = some (x, e') := hx
      unfold gTf at eu
      cases ef : G.find? (fun g => decide (g.1 = a)) with
      | none => rw [ef] at eu; cases eu
      | some p =>
        rw [ef] at eu
        have eu : p.2 = u := by injection eu
        have hp := hG p (List.mem_of_find?_eq_some ef)
        rw [eu] at hp
        rcases u with ⟨_ | ⟨y, e2⟩, k2⟩
        · cases hx
        · have hx : some (y, e * e2) = some (x, e') := hx
          injection hx with hx
          injection hx with h1 h2
          obtain ⟨q1, q2⟩ := hp y e2 rfl
          obtain ⟨-, q3⟩ := h a e rfl
          rw [← h1, ← h2]
          exact ⟨q1, (pm_ml q3 q2).2.1⟩
set_option maxHeartbeats 1000000 in
/-- **putIn() of the reference** -/
theorem pIn_g {t : gTe} (ht : gTw Γ t) : ∀ (R : List (gN × gTe)), (∀ p, p ∈ R → uNm Γ p.1 ∧ gTw Γ p.2) → pIn (R.map (oPo Γ)) (uT4 Γ t false) = uT4 Γ (gRs R.reverse t) (gRf R.reverse t)
  | [], _ => by
    rcases t with ⟨_ | ⟨a, e⟩, k⟩ <;> rfl
  | p :: R, hR => by
    have I := pIn_g ht R (fun q hq => hR q (List.mem_cons_of_mem _ hq))
    obtain ⟨p1, p2⟩ := hR p (List.mem_cons_self ..)
    show (if (pIn (R.map (oPo Γ)) (uT4 Γ t false)).2.2.2 = 0 ∧ (pIn (R.map (oPo Γ)) (uT4 Γ t false)).2.1 ≠ 0 ∧ (pIn (R.map (oPo Γ)) (uT4 Γ t false)).1 = (oPo Γ p).1 then _ else _) = _
    rw [I, List.reverse_cons]
    rcases t with ⟨_ | ⟨a, e⟩, k⟩
    · rw [if_neg (fun z => z.2.1 rfl)]
      rfl
    · obtain ⟨a1, a2⟩ := ht a e rfl
      show _ = uT4 Γ (match gTf (R.reverse ++ [p]) a with | none => ((some (a, e), k) : gTe) | some u => (u.1.map (fun x => (x.1, e * x.2)), k + e * u.2)) (gTf (R.reverse ++ [p]) a).isSome
      rw [gTf_ap]
      have eR : gRs R.reverse (some (a, e), k) = (match gTf R.reverse a with | none => ((some (a, e), k) : gTe) | some u => (u.1.map (fun x => (x.1, e * x.2)), k + e * u.2)) := rfl
      have eF : gRf R.reverse (some (a, e), k) = (gTf R.reverse a).isSome := rfl
      rw [eR, eF]
      cases eu : gTf R.reverse a with
      | some u =>
        rw [if_neg (fun z => absurd z.1 (show ¬ (1 : Int32) = 0 by decide))]
      | none =>
        show (if (0 : Int32) = 0 ∧ Int32.ofInt e ≠ 0 ∧ nI (Γ.1 a) = nI (Γ.1 p.1) then _ else _) = uT4 Γ (match (if p.1 = a then some p.2 else none) with | none => ((some (a, e), k) : gTe) | some u => (u.1.map (fun x => (x.1, e * x.2)), k + e * u.2)) (if p.1 = a then some p.2 else none).isSome
        by_cases c : p.1 = a
        · rw [if_pos c, if_pos ⟨rfl, (pm_ml a2 a2).2.2.2, by rw [c]⟩]
          rcases hp : p.2 with ⟨_ | ⟨y, e2⟩, k2⟩
          · show ((if Int32.ofInt e * (oPo Γ p).2.2.1 = 0 then (-1 : Int32) else (oPo Γ p).2.1), Int32.ofInt e * (oPo Γ p).2.2.1, Int64.ofInt k + (Int32.ofInt e).toInt64 * (oPo Γ p).2.2.2, (1 : Int32)) = (-1, 0, Int64.ofInt (k + e * k2), 1)
            unfold oPo uTe
            rw [hp]
            show ((if Int32.ofInt e * 0 = 0 then (-1 : Int32) else -1), Int32.ofInt e * 0, Int64.ofInt k + (Int32.ofInt e).toInt64 * Int64.ofInt k2, (1 : Int32)) = _
            rw [pm_64 a2, Int32.mul_zero, if_pos rfl]
          · obtain ⟨q1, q2⟩ := p2 y e2 (by rw [hp])
            show ((if Int32.ofInt e * (oPo Γ p).2.2.1 = 0 then (-1 : Int32) else (oPo Γ p).2.1), Int32.ofInt e * (oPo Γ p).2.2.1, Int64.ofInt k + (Int32.ofInt e).toInt64 * (oPo Γ p).2.2.2, (1 : Int32)) = (nI (Γ.1 y), Int32.ofInt (e * e2), Int64.ofInt (k + e * k2), 1)
            unfold oPo uTe
            rw [hp]
            show ((if Int32.ofInt e * Int32.ofInt e2 = 0 then (-1 : Int32) else nI (Γ.1 y)), Int32.ofInt e * Int32.ofInt e2, Int64.ofInt k + (Int32.ofInt e).toInt64 * Int64.ofInt k2, (1 : Int32)) = _
            rw [pm_64 a2, (pm_ml a2 q2).1, if_neg (pm_ml a2 q2).2.2.1]
        · rw [if_neg c, if_neg (fun z => c ?_)]
          have e := nI_inj' (by have := a1.1; omega) (by have := p1.1; omega) z.2.2
          rw [← p1.2, ← a1.2, e]
end PIG
