/-! weakenAll(): a question to the Judge is the reading's -/
theorem ln_mem (R : Nat → Int32) : ∀ (ns : List Nat) (k : Nat) (l : oLm), l ∈ lnL R k ns ↔ ∃ i x, ns[i]? = some x ∧ R x ≠ 0 ∧ l = (2 * (k + i) + 1, 2 * (k + i) + 1, 0)
  | [], k, l => ⟨fun h => (by cases h), fun ⟨i, x, h, _⟩ => by cases h⟩
  | x :: ns, k, l => by
    have I := ln_mem R ns (k + 1) l
    show l ∈ (if R x = 0 then [] else [(2 * k + 1, 2 * k + 1, 0)]) ++ lnL R (k + 1) ns ↔ _
    rw [List.mem_append, I]
    constructor
    · rintro (h | ⟨i, y, h1, h2, h3⟩)
      · by_cases c : R x = 0
        · rw [if_pos c] at h; cases h
        · rw [if_neg c] at h
          exact ⟨0, x, rfl, c, List.mem_singleton.mp h⟩
      · exact ⟨i + 1, y, h1, h2, by rw [h3, (by omega : k + (i + 1) = k + 1 + i)]⟩
    · rintro ⟨i, y, h1, h2, h3⟩
      cases i with
      | zero =>
        have h1 : some x = some y := h1
        injection h1 with h1
        rw [h1, if_neg h2]
        exact Or.inl (List.mem_singleton.mpr h3)
      | succ i => exact Or.inr ⟨i, y, h1, h2, by rw [h3, (by omega : k + (i + 1) = k + 1 + i)]⟩
theorem gSl_ix : ∀ (S : List gN), S.Nodup → ∀ (i : Nat) (y : gN), S[i]? = some y → gSl S y = i + 1
  | [], _, _, _, h => by cases h
  | z :: S, n, i, y, h => by
    obtain ⟨n1, n2⟩ := List.nodup_cons.mp n
    unfold gSl
    rw [List.findIdx_cons]
    cases i with
    | zero =>
      have h : some z = some y := h
      injection h with h
      rw [decide_eq_true h]
      rfl
    | succ i =>
      have h : S[i]? = some y := h
      have c : z ≠ y := fun q => n1 (by rw [q]; exact List.mem_of_getElem? h)
      have I := gSl_ix S n2 i y h
      unfold gSl at I
      rw [decide_eq_false c]
      show _ + 1 + 1 = _
      omega
theorem cKd_2 : ∀ k, cKd k ≠ 210 ↔ k ≠ 2 := fun k => by
  unfold cKd
  by_cases c2 : k = 2
  · subst c2; decide
  · refine ⟨fun _ => c2, fun _ => ?_⟩
    repeat' split
    all_goals first | decide | omega
section LIM
variable {al : Nat × List Bool → Nat → Bool} {Γ : uGm} {R6 : Nat → Int32} {sc : List gEn} {Es : List (gN × Nat)} {Dk : Nat → Bool × List (Nat × kTe) × List kFc} {D : Bool × List (Nat × kTe) × List kFc} {X : gTy}
/-- what the Judge is told of a type -/
def dkR (al : Nat × List Bool → Nat → Bool) (Γ : uGm) (Es : List (gN × Nat)) (A : gTy) (d : Bool × List (Nat × kTe) × List kFc) : Prop := d.1 = decide (cKd (yK (gSy A)) ≠ 210) ∧ d.2.2.length = (gSa al Γ.2.2.1 Γ.2.2.2.1 A).length ∧ ∀ (i : Nat) (c : gFc), (gSa al Γ.2.2.1 Γ.2.2.2.1 A)[i]? = some c → ∃ u, d.2.2[i]? = some (c.1, u) ∧ teR (fun y b => (y, b) ∈ Es) (gRs A.2 c.2) (kRs d.2.1 u)
theorem dkR.lr {A : gTy} {d : Bool × List (Nat × kTe) × List kFc} {sl : Nat → Nat} {sl' : gN → Nat} (h : dkR al Γ Es A d) (hsl : ∀ y a, (y, a) ∈ Es → sl a = sl' y) (s : Nat) : lrnL sl s d.1 d.2.1 d.2.2 = (if yK (gSy A) = 2 then [] else [(2 * s + 1, 2 * s + 1, 0)]) ++ gLm al Γ.2.2.1 Γ.2.2.2.1 sl' s A := by
  obtain ⟨h1, h2, h3⟩ := h
  unfold lrnL
  rw [fac_gl h2 h3 hsl, h1]
  congr 1
  by_cases c : yK (gSy A) = 2
  · rw [if_pos c, if_neg (by rw [decide_eq_true_eq, cKd_2]; exact fun z => z c)]
  · rw [if_neg c, if_pos (by rw [decide_eq_true_eq, cKd_2]; exact c)]
/-- **the limits are the same** -/
theorem lim_eq (n1 : ((scN sc).map Prod.fst).Nodup) (n2 : (Es.map Prod.snd).Nodup) (hl : (scN sc).length = Es.length) (hE : ∀ (i : Nat) (y : gN) (A : gTy), (scN sc)[i]? = some (y, A) → ∃ a, Es[i]? = some (y, a) ∧ dkR al Γ Es A (Dk a)) (hR0 : R6 1500 = 0) (hR : ∀ y A, (y, A) ∈ scN sc → (R6 (Γ.1 y) = 0 ↔ yK (gSy A) = 2)) (lf : Option gTy) (Lf : List oLm) (hLf : ∀ l, l ∈ Lf ↔ l ∈ lfM al Γ.2.2.1 Γ.2.2.2.1 (gSl ((scN sc).map Prod.fst)) lf) : ∀ l, l ∈ (Es.map Prod.snd).flatMap (fun a => lrnL (slO (Es.map Prod.snd)) (slO (Es.map Prod.snd) a) (Dk a).1 (Dk a).2.1 (Dk a).2.2) ++ Lf ↔ l ∈ qLm al Γ R6 sc lf := by
  have eS : Es.map Prod.fst = (scN sc).map Prod.fst := List.ext_getElem? (fun i => by
    rw [List.getElem?_map, List.getElem?_map]
    cases e : (scN sc)[i]? with
    | none =>
      rw [List.getElem?_eq_none_iff] at e
      rw [List.getElem?_eq_none (by omega)]; rfl
    | some p =>
      obtain ⟨a, e1, -⟩ := hE i p.1 p.2 e
      rw [e1]; rfl)
  have sl : ∀ y a, (y, a) ∈ Es → slO (Es.map Prod.snd) a = gSl ((scN sc).map Prod.fst) y := fun y a h => by
    rw [slot_eq Es (by rw [eS]; exact n1) n2 y a h, eS]
  intro l
  unfold qLm
  rw [List.mem_append, List.mem_append, List.mem_append, hLf, List.mem_flatMap, List.mem_flatMap, ln_mem]
  have key : (∃ a, a ∈ Es.map Prod.snd ∧ l ∈ lrnL (slO (Es.map Prod.snd)) (slO (Es.map Prod.snd) a) (Dk a).1 (Dk a).2.1 (Dk a).2.2) ↔ ∃ i y A, (scN sc)[i]? = some (y, A) ∧ ((yK (gSy A) ≠ 2 ∧ l = (2 * (i + 1) + 1, 2 * (i + 1) + 1, 0)) ∨ l ∈ gLm al Γ.2.2.1 Γ.2.2.2.1 (gSl ((scN sc).map Prod.fst)) (gSl ((scN sc).map Prod.fst) y) A) := by
    constructor
    · rintro ⟨a, ha, h⟩
      obtain ⟨i, hi⟩ := List.getElem?_of_mem ha
      rw [List.getElem?_map] at hi
      cases e : Es[i]? with
      | none => rw [e] at hi; cases hi
      | some p =>
        rw [e] at hi
        have hi : some p.2 = some a := hi
        injection hi with hi
        have il : i < (scN sc).length := by
          rw [hl]
          exact Nat.lt_of_not_le (fun z => by rw [List.getElem?_eq_none z] at e; cases e)
        obtain ⟨q, hq⟩ : ∃ q, (scN sc)[i]? = some q := ⟨_, List.getElem?_eq_getElem il⟩
        obtain ⟨a', e1, d⟩ := hE i q.1 q.2 hq
        rw [e] at e1
        injection e1 with e1
        have ea : a = a' := by rw [← hi, e1]
        subst ea
        have hs := sl q.1 a (by rw [← e1]; exact List.mem_of_getElem? e)
        rw [d.lr sl, List.mem_append, hs] at h
        refine ⟨i, q.1, q.2, hq, ?_⟩
        rcases h with h | h
        · by_cases c : yK (gSy q.2) = 2
          · rw [if_pos c] at h; cases h
          · rw [if_neg c, gSl_ix _ n1 i q.1 (by rw [List.getElem?_map, hq]; rfl)] at h
            exact Or.inl ⟨c, List.mem_singleton.mp h⟩
        · exact Or.inr h
    · rintro ⟨i, y, A, hq, h⟩
      obtain ⟨a, e1, d⟩ := hE i y A hq
      have m1 := List.mem_of_getElem? e1
      refine ⟨a, List.mem_map.mpr ⟨_, m1, rfl⟩, ?_⟩
      rw [d.lr sl, List.mem_append, sl y a m1]
      rcases h with ⟨c, h⟩ | h
      · rw [if_neg c, gSl_ix _ n1 i y (by rw [List.getElem?_map, hq]; rfl)]
        exact Or.inl (List.mem_singleton.mpr h)
      · exact Or.inr h
  rw [key]
  constructor
  · rintro (⟨i, y, A, hq, ⟨c, h⟩ | h⟩ | h)
    · refine Or.inr (Or.inr ⟨i + 1, Γ.1 y, ?_, fun z => c ((hR y A (List.mem_of_getElem? hq)).mp z), by rw [h, Nat.zero_add]⟩)
      show ((scN sc).map (fun x => Γ.1 x.1))[i]? = _
      rw [List.getElem?_map, hq]; rfl
    · exact Or.inl ⟨(y, A), List.mem_of_getElem? hq, h⟩
    · exact Or.inr (Or.inl h)
  · rintro (⟨p, hp, h⟩ | h | ⟨i, x, h1, h2, h3⟩)
    · obtain ⟨i, hi⟩ := List.getElem?_of_mem hp
      exact Or.inl ⟨i, p.1, p.2, hi, Or.inr h⟩
    · exact Or.inr h
    · cases i with
      | zero =>
        have h1 : some 1500 = some x := h1
        injection h1 with h1
        rw [← h1] at h2
        exact absurd hR0 h2
      | succ i =>
        have h1 : ((scN sc).map (fun x => Γ.1 x.1))[i]? = some x := h1
        rw [List.getElem?_map] at h1
        cases e : (scN sc)[i]? with
        | none => rw [e] at h1; cases h1
        | some q =>
          rw [e] at h1
          have h1 : some (Γ.1 q.1) = some x := h1
          injection h1 with h1
          exact Or.inl ⟨i, q.1, q.2, e, Or.inl ⟨fun z => h2 (by rw [← h1]; exact (hR q.1 q.2 (List.mem_of_getElem? e)).mpr z), by rw [h3, Nat.zero_add]⟩⟩
end LIM
section ASK
variable {T : Nat} {f pp ee R : Nat → Int32} {sc : List gEn} {Ts : List (Nat × Bool)} {Mn : Nat → Bool → List oBr} {Qc Qr : List oLm → Prop} {LC LR : List oLm}
/-- **the question is the same** -/
theorem ask_eq (hl : Ts.length = (scC sc).length) (hb : ∀ (i m : Nat) (h : Bool), Ts[i]? = some (m, h) → ∃ c, (scC sc)[i]? = some (c, h) ∧ bE (Mn m h) ((cdM T f pp ee R (gSl ((scN sc).map Prod.fst)) c).2.2 h)) (hQ : ∀ L, Qc L ↔ Qr L) (hQi : ∀ L L', xC L = xC L' → Qr L → Qr L') (hL : ∀ l, l ∈ LC ↔ l ∈ LR) : exL (Ts.map (fun x => Mn x.1 x.2)) (kFe Qc) LC [] ↔ exL (qWy T f pp ee R sc) (kFe Qr) LR [] := by
  have hI := kFe.inv hQi
  rw [exL.cg (K' := kFe Qr) (fun L ts => by unfold kFe; rw [hQ L])]
  rw [bE.exl (Cs := qWy T f pp ee R sc) hI (by unfold qWy; rw [List.length_map, List.length_map, hl]) (fun i A C hA hC => ?_)]
  · exact (exL.inv hI _).iff (xC.cg hL) (fun _ => Iff.rfl)
  · rw [List.getElem?_map] at hA
    unfold qWy at hC
    rw [List.getElem?_map] at hC
    cases e : Ts[i]? with
    | none => rw [e] at hA; cases hA
    | some p =>
      obtain ⟨c, c1, c2⟩ := hb i p.1 p.2 e
      rw [e] at hA
      rw [c1] at hC
      have hA : some (Mn p.1 p.2) = some A := hA
      have hC : some ((cdM T f pp ee R (gSl ((scN sc).map Prod.fst)) c).2.2 p.2) = some C := hC
      injection hA with hA
      injection hC with hC
      rw [← hA, ← hC]
      exact c2
theorem qB_eq {E : gN → Nat → Prop} {sl : Nat → Nat} {sl' : gN → Nat} {G : List (Nat × kTe)} {G' : List (gN × gTe)} {u : kTe} {c : gFc} (h : teR E (gRs G' c.2) (kRs G u)) (hE : ∀ y a, E y a → sl a = sl' y) (L : List oLm) : qB sl G (c.1, u) L ↔ gQB sl' G' c L := by
  unfold qB gQB
  show (∀ l, l ∈ facL 0 (c.1, kSl sl (kRs G u)) → _) ↔ _
  rw [h.ks hE]
theorem gQB_i {sl' : gN → Nat} {G' : List (gN × gTe)} {c : gFc} (L L' : List oLm) (h : xC L = xC L') (w : ¬ gQB sl' G' c L) : ¬ gQB sl' G' c L' := fun z => w (fun l hl => by
  have := z l hl
  unfold lmQ at this ⊢
  rw [h]; exact this)
end ASK
