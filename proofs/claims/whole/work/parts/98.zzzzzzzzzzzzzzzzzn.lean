/-! types that gWk makes: places of TEMPLATES, and that they speak of what is in scope -/
/-- a place in a TEMPLATE by its way -/
def mGo (m : gTm) : List Bool → gTm
  | [] => m
  | b :: p => mGo (if b = true then mAn m else mTk m) p
/-- a NAME is in scope, or something in scope is put in for it -/
def gIt (G : List (gN × gTe)) (S : List gN) (s : gN) : Prop := match gTf G s with
  | none => s ∈ S
  | some u => ∀ y e, u.1 = some (y, e) → y ∈ S
/-- its parameters have NAMES of their own -/
def frM (m : gTm) : Prop := (∀ w, w ∈ m.2.2.2.1 → Sum.inl w ∉ m.2.2.2.2) ∧ (∀ k p, Sum.inr (k, p) ∈ m.2.2.2.2 → p.length < m.2.1.length) ∧ m.2.2.2.1.Nodup
/-- the type of a NAME in scope -/
def shN (tN : Nat → tY) (rt : Nat → gTm) : gN → tY
  | .inl w => tN w
  | .inr kp => yL (mGo (rt kp.1) kp.2).2.2.1
def ySz : tY → Nat
  | .leaf => 0
  | .inner _ _ _ l r => ySz l + ySz r + 1
/-- a type that can be spoken of where S is in scope; C: numbers that are put in, B: numbers that are said -/
def wfT (Γ : uGm) (C B : Int) (rt : Nat → gTm) (S : List gN) (A : gTy) : Prop := match A.1 with
  | .inl x => (A.2 = [] ∧ yK x.1 ≠ 1 ∧ x.2.length ≤ 2) ∧ ∀ c, c ∈ x.2 → c.1 ≤ 4 ∧ gTw Γ c.2 ∧ gTb B c.2 ∧ ∀ s e, c.2.1 = some (s, e) → s ∈ S
  | .inr m => (m = mGo (rt m.1) m.2.1 ∧ frM m ∧ m.2.1.length + yDp m.2.2.1 ≤ 100 ∧ m.2.2.2.2.length + ySx m.2.2.1 ≤ 60 ∧ ∀ s, s ∈ m.2.2.2.2 → uNm Γ s) ∧ (A.2.length ≤ m.2.1.length ∧ ∀ p, p ∈ A.2 → p.1 ∈ m.2.2.2.2 ∧ gTw Γ p.2 ∧ -C ≤ p.2.2 ∧ p.2.2 ≤ C) ∧ ∀ s, s ∈ m.2.2.2.2 → gIt A.2 S s
/-- parameters have numbers -/
def rtQ (Γ : uGm) (rt : Nat → gTm) : Prop := ∀ k p, yK (mGo (rt k) p).2.2.1 = 1 → uNm Γ (mPn (mGo (rt k) p))
/-- what is in scope -/
def scW (Γ : uGm) (C B : Int) (rt : Nat → gTm) (tN : Nat → tY) : List (gN × gTy) → Prop
  | [] => True
  | x :: r => x.1 ∉ r.map Prod.fst ∧ uNm Γ x.1 ∧ (wfT Γ C B rt (r.map Prod.fst) x.2 ∧ gMs (gSy x.2) = true ∧ gSy x.2 = shN tN rt x.1 ∧ ∀ kp, x.1 = .inr kp → yK (mGo (rt kp.1) kp.2).2.2.1 = 1) ∧ scW Γ C B rt tN r
section WFT
variable {Γ : uGm} {C B : Int} {rt : Nat → gTm} {S S' : List gN} {A : gTy} {m : gTm}
theorem mGo_ap : ∀ (p : List Bool) (m : gTm) (b : Bool), mGo m (p ++ [b]) = if b = true then mAn (mGo m p) else mTk (mGo m p)
  | [], _, _ => rfl
  | c :: p, m, b => mGo_ap p (if c = true then mAn m else mTk m) b
theorem gIt.mo {G : List (gN × gTe)} {s : gN} (hS : ∀ x, x ∈ S → x ∈ S') (h : gIt G S s) : gIt G S' s := by
  unfold gIt at h ⊢
  split
  · rename_i e; rw [e] at h; exact hS _ h
  · rename_i u e; rw [e] at h; exact fun y e' w => hS _ (h y e' w)
theorem gIt.rs {G : List (gN × gTe)} {s : gN} (h : gIt G S s) {e0 c : Int} {y : gN} {e : Int} (w : (gRs G (some (s, e0), c)).1 = some (y, e)) : y ∈ S := by
  unfold gIt at h
  unfold gRs at w
  cases g : gTf G s with
  | none =>
    rw [g] at h
    simp only [g] at w
    injection w with w
    injection w with w1 w2
    rw [← w1]; exact h
  | some u =>
    rw [g] at h
    simp only [g] at w
    cases hu : u.1 with
    | none => rw [hu] at w; cases w
    | some z =>
      rw [hu] at w
      injection w with w
      injection w with w1 w2
      rw [← w1]
      exact h z.1 z.2 hu
theorem wfT.mo (hS : ∀ x, x ∈ S → x ∈ S') (h : wfT Γ C B rt S A) : wfT Γ C B rt S' A := by
  unfold wfT at h ⊢
  split
  · rename_i x e; rw [e] at h; exact ⟨h.1, fun c hc => ⟨(h.2 c hc).1, (h.2 c hc).2.1, (h.2 c hc).2.2.1, fun s e' w => hS _ ((h.2 c hc).2.2.2 s e' w)⟩⟩
  · rename_i m e; rw [e] at h; exact ⟨h.1, h.2.1, fun s hs => (h.2.2 s hs).mo hS⟩
theorem frM.nm (h : frM m) : mPn m ∉ m.2.2.2.2 := by
  obtain ⟨h1, h2, -⟩ := h
  unfold mPn
  cases e : m.2.2.2.1 with
  | nil => exact fun z => Nat.lt_irrefl _ (h2 _ _ z)
  | cons w r => exact h1 w (by rw [e]; exact List.mem_cons_self ..)
theorem frM.tk (h : frM m) : frM (mTk m) := ⟨fun w hw => (by cases hw), fun k p z => by
  show p.length < (m.2.1 ++ [false]).length
  rw [List.length_append]
  exact Nat.lt_succ_of_lt (h.2.1 k p z), List.nodup_nil⟩
theorem frM.an (h : frM m) : frM (mAn m) := by
  obtain ⟨h1, h2, h3⟩ := h
  have mem : ∀ s, s ∈ (mAn m).2.2.2.2 → s ∈ m.2.2.2.2 ∨ s = mPn m := fun s hs => by
    unfold mAn at hs
    dsimp only at hs
    split at hs
    · rcases List.mem_append.mp hs with z | z
      · exact Or.inl z
      · exact Or.inr (List.mem_singleton.mp z)
    · exact Or.inl hs
  refine ⟨fun w hw z => ?_, fun k p z => ?_, ?_⟩
  · have hw : w ∈ m.2.2.2.1.tail := hw
    rcases mem _ z with z | z
    · exact h1 w (List.mem_of_mem_tail hw) z
    · unfold mPn at z
      cases e : m.2.2.2.1 with
      | nil => rw [e] at hw; cases hw
      | cons w' r =>
        rw [e] at z hw h3
        injection z with z
        subst z
        exact (List.nodup_cons.mp h3).1 hw
  · show p.length < (m.2.1 ++ [true]).length
    rw [List.length_append]
    show p.length < m.2.1.length + 1
    rcases mem _ z with z | z
    · exact Nat.lt_succ_of_lt (h2 k p z)
    · unfold mPn at z
      cases e : m.2.2.2.1 with
      | nil =>
        rw [e] at z
        injection z with z
        injection z with z1 z2
        rw [z2]
        exact Nat.lt_succ_self _
      | cons w' r => rw [e] at z; cases z
  · show m.2.2.2.1.tail.Nodup
    exact h3.sublist (List.tail_sublist _)
/-- a function is a TEMPLATE's place -/
theorem wfT.fn (h : wfT Γ C B rt S A) (hy : yK (gSy A) = 1) : ∃ m, A.1 = .inr m ∧ yK m.2.2.1 = 1 := by
  unfold wfT at h
  unfold gSy at hy
  split at h
  · rename_i x e; rw [e] at hy; exact absurd hy h.1.2.1
  · rename_i m e; rw [e] at hy; exact ⟨m, e, hy⟩
theorem yK_1 {y : tY} (h : yK y = 1) : ∃ l r, y = .inner 0 () () l r := by
  match y, h with
  | .inner k () () l r, h =>
    have h : k + 1 = 1 := h
    have : k = 0 := by omega
    subst this
    exact ⟨l, r, rfl⟩
theorem wfT.tk (h : wfT Γ C B rt S A) (hy : yK (gSy A) = 1) : wfT Γ C B rt S (gTk A) := by
  obtain ⟨m, e, h1⟩ := h.fn hy
  obtain ⟨l, r, ey⟩ := yK_1 h1
  obtain ⟨A1, G⟩ := A
  dsimp only at e
  subst e
  obtain ⟨⟨a1, a2, a3, a4, a5⟩, ⟨b1, b2⟩, c⟩ := h
  rw [ey] at a3 a4
  have a3 : m.2.1.length + (max (yDp l) (yDp r) + 1) ≤ 100 := a3
  have a4 : m.2.2.2.2.length + max (ySx l) (ySx r + if gMs l = true then 1 else 0) ≤ 60 := a4
  have el : yL m.2.2.1 = l := by rw [ey]; rfl
  have hl : (m.2.1 ++ [false]).length = m.2.1.length + 1 := by rw [List.length_append]; rfl
  refine ⟨⟨?_, a2.tk, ?_, ?_, a5⟩, ⟨?_, b2⟩, c⟩
  · show mTk m = mGo (rt m.1) (m.2.1 ++ [false])
    rw [mGo_ap, if_neg (by decide), ← a1]
  · show (m.2.1 ++ [false]).length + yDp (yL m.2.2.1) ≤ 100
    rw [hl, el]; omega
  · show m.2.2.2.2.length + ySx (yL m.2.2.1) ≤ 60
    rw [el]; omega
  · show G.length ≤ (m.2.1 ++ [false]).length
    rw [hl]
    have b1 : G.length ≤ m.2.1.length := b1
    omega
/-- what a function answers; its parameter is in scope, or G says what it is -/
theorem wfT.anG {G : List (gN × gTe)} (h : wfT Γ C B rt S A) (hQ : rtQ Γ rt) (hy : yK (gSy A) = 1) (hS : ∀ x, x ∈ S → x ∈ S') (hG : (G = [] ∧ (gMs (yL (gSy A)) = true → gPn A ∈ S')) ∨ ∃ t, G = [(gPn A, t)] ∧ gMs (yL (gSy A)) = true ∧ gTw Γ t ∧ (-C ≤ t.2 ∧ t.2 ≤ C) ∧ ∀ y e, t.1 = some (y, e) → y ∈ S') : wfT Γ C B rt S' ((gAn A).1, A.2 ++ G) := by
  obtain ⟨m, e, h1⟩ := h.fn hy
  obtain ⟨l, r, ey⟩ := yK_1 h1
  obtain ⟨A1, G0⟩ := A
  dsimp only at e
  subst e
  obtain ⟨⟨a1, a2, a3, a4, a5⟩, ⟨b1, b2⟩, c⟩ := h
  have u1 : uNm Γ (mPn m) := by
    have := hQ m.1 m.2.1 (by rw [← a1]; exact h1)
    rw [← a1] at this
    exact this
  rw [ey] at a3 a4
  have a3 : m.2.1.length + (max (yDp l) (yDp r) + 1) ≤ 100 := a3
  have a4 : m.2.2.2.2.length + max (ySx l) (ySx r + if gMs l = true then 1 else 0) ≤ 60 := a4
  have b1 : G0.length ≤ m.2.1.length := b1
  have b2 : ∀ p, p ∈ G0 → p.1 ∈ m.2.2.2.2 ∧ _ := b2
  have c : ∀ s, s ∈ m.2.2.2.2 → gIt G0 S s := c
  have el : yL m.2.2.1 = l := by rw [ey]; rfl
  have er : yR m.2.2.1 = r := by rw [ey]; rfl
  have hl : (m.2.1 ++ [true]).length = m.2.1.length + 1 := by rw [List.length_append]; rfl
  have hG : (G = [] ∧ (gMs (yL m.2.2.1) = true → mPn m ∈ S')) ∨ ∃ t, G = [(mPn m, t)] ∧ gMs (yL m.2.2.1) = true ∧ gTw Γ t ∧ (-C ≤ t.2 ∧ t.2 ≤ C) ∧ ∀ y e, t.1 = some (y, e) → y ∈ S' := hG
  rw [el] at hG
  have en : (mAn m).2.2.2.2 = if gMs l = true then m.2.2.2.2 ++ [mPn m] else m.2.2.2.2 := by
    show (if gMs (yL m.2.2.1) = true then m.2.2.2.2 ++ [mPn m] else m.2.2.2.2) = _
    rw [el]
  have mem : ∀ s, s ∈ (mAn m).2.2.2.2 → s ∈ m.2.2.2.2 ∨ (gMs l = true ∧ s = mPn m) := fun s hs => by
    rw [en] at hs
    split at hs
    · rename_i z
      rcases List.mem_append.mp hs with w | w
      · exact Or.inl w
      · exact Or.inr ⟨z, List.mem_singleton.mp w⟩
    · exact Or.inl hs
  have sub : ∀ s, s ∈ m.2.2.2.2 → s ∈ (mAn m).2.2.2.2 := fun s hs => by
    rw [en]
    split
    · exact List.mem_append_left _ hs
    · exact hs
  have fr : gTf G0 (mPn m) = none := by
    unfold gTf
    rw [Option.map_eq_none_iff, List.find?_eq_none]
    intro p hp z
    have z : p.1 = mPn m := of_decide_eq_true z
    have := (b2 p hp).1
    rw [z] at this
    exact a2.nm this
  refine ⟨⟨?_, a2.an, ?_, ?_, fun s hs => ?_⟩, ⟨?_, fun p hp => ?_⟩, fun s hs => ?_⟩
  · show mAn m = mGo (rt m.1) (m.2.1 ++ [true])
    rw [mGo_ap, if_pos rfl, ← a1]
  · show (m.2.1 ++ [true]).length + yDp (yR m.2.2.1) ≤ 100
    rw [hl, er]; omega
  · rw [en]
    show _ + ySx (yR m.2.2.1) ≤ 60
    rw [er]
    by_cases z : gMs l = true
    · rw [if_pos z] at a4 ⊢
      rw [List.length_append]
      show m.2.2.2.2.length + 1 + ySx r ≤ 60
      omega
    · rw [if_neg z] at a4 ⊢
      omega
  · rcases mem s hs with z | ⟨-, z⟩
    · exact a5 s z
    · rw [z]; exact u1
  · show (G0 ++ G).length ≤ (m.2.1 ++ [true]).length
    rw [List.length_append, hl]
    rcases hG with ⟨z, -⟩ | ⟨t, z, -⟩
    · rw [z]; show G0.length + 0 ≤ _; omega
    · rw [z]; show G0.length + 1 ≤ _; omega
  · have hp : p ∈ G0 ++ G := hp
    rcases List.mem_append.mp hp with z | z
    · exact ⟨sub _ (b2 p z).1, (b2 p z).2⟩
    · rcases hG with ⟨w, -⟩ | ⟨t, w, w1, w2, w3, -⟩
      · rw [w] at z; cases z
      · rw [w] at z
        rw [List.mem_singleton.mp z]
        refine ⟨?_, w2, w3⟩
        show mPn m ∈ (mAn m).2.2.2.2
        rw [en, if_pos w1]
        exact List.mem_append_right _ (List.mem_singleton_self _)
  · show gIt (G0 ++ G) S' s
    rcases hG with ⟨w, w1⟩ | ⟨t, w, w1, w2, w3, w4⟩
    · rw [w, List.append_nil]
      rcases mem s hs with z | ⟨z1, z⟩
      · exact (c s z).mo hS
      · rw [z]
        unfold gIt
        rw [fr]
        exact w1 z1
    · rw [w]
      unfold gIt
      rw [gTf_ap]
      rcases mem s hs with z | ⟨z1, z⟩
      · have := (c s z).mo hS
        unfold gIt at this
        cases e : gTf G0 s with
        | some u => rw [e] at this; exact this
        | none =>
          rw [e] at this
          dsimp only
          by_cases q : mPn m = s
          · rw [if_pos q]; exact w4
          · rw [if_neg q]; exact this
      · rw [z, fr]
        dsimp only
        rw [if_pos rfl]
        exact w4
theorem wfT.an (h : wfT Γ C B rt S A) (hQ : rtQ Γ rt) (hy : yK (gSy A) = 1) (hS : ∀ x, x ∈ S → x ∈ S') (hG : gMs (yL (gSy A)) = true → gPn A ∈ S') : wfT Γ C B rt S' (gAn A) := by
  have := h.anG (G := []) hQ hy hS (Or.inl ⟨rfl, hG⟩)
  obtain ⟨m, e, -⟩ := h.fn hy
  obtain ⟨A1, G0⟩ := A
  dsimp only at e
  subst e
  rw [List.append_nil] at this
  exact this
theorem wfT.pu {t : gTe} (h : wfT Γ C B rt S A) (hQ : rtQ Γ rt) (hy : yK (gSy A) = 1) (hS : ∀ x, x ∈ S → x ∈ S') (hm : gMs (yL (gSy A)) = true) (h1 : gTw Γ t) (h2 : -C ≤ t.2 ∧ t.2 ≤ C) (h3 : ∀ y e, t.1 = some (y, e) → y ∈ S') : wfT Γ C B rt S' (gPu (gAn A) (gPn A) t) := by
  have := h.anG (G := [(gPn A, t)]) hQ hy hS (Or.inr ⟨t, rfl, hm, h1, h2, h3⟩)
  obtain ⟨m, e, -⟩ := h.fn hy
  obtain ⟨A1, G0⟩ := A
  dsimp only at e
  subst e
  exact this
end WFT
