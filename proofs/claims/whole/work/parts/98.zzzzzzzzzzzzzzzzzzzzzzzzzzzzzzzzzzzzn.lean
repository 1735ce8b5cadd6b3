/-! type(): letters by their bytes; NAMES that a type may print -/
theorem tBt_255 {b : Int32} (h : sB b) : tBt (b &&& 255) = tBt b := by
  obtain ⟨k, -, h1, h2⟩ := sB_k h
  rw [h1]
  unfold tBt
  have : b.toInt8 = (nI k).toInt8 := by rw [h2, Int8.toInt8_toInt32]
  rw [this]
/-- the same bytes, the same NAMES without a word -/
def tEb (s s' : tPs) : Prop := s.1.map tBt = s'.1.map tBt ∧ s.2 = s'.2
theorem tEb.ap {s s' : tPs} (h : tEb s s') {L L' : List Int32} (e : L.map tBt = L'.map tBt) : tEb (s.1 ++ L, s.2) (s'.1 ++ L', s'.2) := ⟨by show (s.1 ++ L).map tBt = (s'.1 ++ L').map tBt; rw [List.map_append, List.map_append, h.1, e], h.2⟩
theorem tEb.len {s s' : tPs} (h : tEb s s') : s.1.length = s'.1.length := by
  have := congrArg List.length h.1
  rw [List.length_map, List.length_map] at this
  exact this
section TEB
variable {wd wd' : Nat → List Int32} {bk : gN → Nat} {sy : gTy → List gFc}
theorem tEb.nm (hw : ∀ w, (wd w).map tBt = (wd' w).map tBt) (a : gN) {s s' : tPs} (h : tEb s s') : tEb (tNm wd a s) (tNm wd' a s') := by
  cases a with
  | inl w => exact h.ap (hw w)
  | inr k =>
    have e := h.2
    refine ⟨?_, ?_⟩
    · show (s.1 ++ 36 :: tNu (nI (tIx (.inr k) s.2)).toInt64).map tBt = (s'.1 ++ 36 :: tNu (nI (tIx (.inr k) s'.2)).toInt64).map tBt
      rw [e, List.map_append, List.map_append, h.1]
    · show (if tIx (.inr k) s.2 < s.2.length then s.2 else s.2 ++ [.inr k]) = (if tIx (.inr k) s'.2 < s'.2.length then s'.2 else s'.2 ++ [.inr k])
      rw [e]
theorem tEb.tm (hw : ∀ w, (wd w).map tBt = (wd' w).map tBt) (t : gTe) {s s' : tPs} (h : tEb s s') : tEb (tTm wd bk t s) (tTm wd' bk t s') := by
  obtain ⟨t1, t2⟩ := t
  cases t1 with
  | none => exact h.ap rfl
  | some p =>
    obtain ⟨a, e⟩ := p
    have h1 := tEb.nm hw a ((h.ap (L := if e < 0 then [45] else []) (L' := if e < 0 then [45] else []) rfl).ap (L := tLn (bk a)) (L' := tLn (bk a)) rfl)
    exact (h1.ap (L := if 0 < t2 then [43] else []) (L' := if 0 < t2 then [43] else []) rfl).ap (L := if t2 = 0 then [] else tNu (Int64.ofInt t2)) (L' := if t2 = 0 then [] else tNu (Int64.ofInt t2)) rfl
theorem tEb.fs (hw : ∀ w, (wd w).map tBt = (wd' w).map tBt) : ∀ (C : List gFc) (b : Bool) {s s' : tPs}, tEb s s' → tEb (tFs wd bk b C s) (tFs wd' bk b C s')
  | [], _, _, _, h => h
  | c :: C, b, s, s', h => by
    unfold tFs
    refine tEb.fs hw C false ?_
    unfold tFa
    exact tEb.tm hw c.2 ((h.ap (L := if b = true then [123, 118] else [38, 118]) (L' := if b = true then [123, 118] else [38, 118]) rfl).ap (L := tRl c.1) (L' := tRl c.1) rfl)
theorem tEb.lf (hw : ∀ w, (wd w).map tBt = (wd' w).map tBt) (b : Bool) (C : List gFc) (m kw : Nat) {s s' : tPs} (h : tEb s s') : tEb (tLef wd bk b C m kw s) (tLef wd' bk b C m kw s') := by
  unfold tLef
  exact ((tEb.fs hw C b h).ap (L := if m = 0 then [] else [125]) (L' := if m = 0 then [] else [125]) rfl).ap (L := tKw kw) (L' := tKw kw) rfl
/-- a type, printed: its bytes hang on the NAMES' bytes alone -/
theorem tEb.ty (hw : ∀ w, (wd w).map tBt = (wd' w).map tBt) : ∀ (y : tY) (A : gTy) {s s' : tPs}, tEb s s' → tEb (tTy wd bk sy y A s) (tTy wd' bk sy y A s')
  | .leaf, A, s, s', h => tEb.lf hw _ _ _ _ h
  | .inner k _ _ a b, A, s, s', h => by
    unfold tTy
    by_cases c : k = 0
    · rw [if_pos c, if_pos c]
      have h2 := (tEb.nm hw (gPn A) h).ap (L := [58]) (L' := [58]) rfl
      by_cases ca : yK a = 1
      · simp only [if_pos ca]
        exact tEb.ty hw b (gAn A) (((tEb.ty hw a (gTk A) (h2.ap (L := [40]) (L' := [40]) rfl)).ap (L := [41]) (L' := [41]) rfl).ap (L := [45, 62]) (L' := [45, 62]) rfl)
      · simp only [if_neg ca]
        exact tEb.ty hw b (gAn A) ((tEb.ty hw a (gTk A) h2).ap (L := [45, 62]) (L' := [45, 62]) rfl)
    · rw [if_neg c, if_neg c]
      exact tEb.lf hw _ _ _ _ h
end TEB
/-- NAMES that a type may print: told ones, and its own -/
def nmA (Lp : Nat → Prop) (A : gTy) (a : gN) : Prop := (∃ v, Lp v ∧ a = .inl v) ∨ ∃ m p, A.1 = .inr m ∧ pUn m.2.2.1 m.2.2.2.1.length p ∧ a = .inr (m.1, m.2.1 ++ p)
theorem tAq_un {Nm : gN → Prop} : ∀ (y : tY) (m : gTm), m.2.2.1 = y → (∀ p, pUn y m.2.2.2.1.length p → Nm (.inr (m.1, m.2.1 ++ p))) → (∀ w, w ∈ m.2.2.2.1 → Nm (.inl w)) → tAq Nm y m
  | .leaf, _, _, _, _ => trivial
  | .inner k x v a b, m, hy, hp, hw => fun c => by
    subst c
    refine ⟨?_, tAq_un a (mTk m) (by show yL m.2.2.1 = a; rw [hy]; rfl) (fun p h => ?_) (fun w h => by cases h), tAq_un b (mAn m) (by show yR m.2.2.1 = b; rw [hy]; rfl) (fun p h => ?_) (fun w h => hw w (List.mem_of_mem_tail h))⟩
    · unfold mPn
      split
      · rename_i e
        have := hp [] ⟨rfl, by rw [e]; rfl⟩
        rw [List.append_nil] at this
        exact this
      · rename_i w l e
        exact hw w (by rw [e]; exact List.mem_cons_self ..)
    · have := hp (false :: p) ⟨rfl, h⟩
      show Nm (.inr (m.1, m.2.1 ++ [false] ++ p))
      rw [List.append_assoc]; exact this
    · have h : pUn b m.2.2.2.1.tail.length p := h
      rw [List.length_tail] at h
      have := hp (true :: p) ⟨rfl, h⟩
      show Nm (.inr (m.1, m.2.1 ++ [true] ++ p))
      rw [List.append_assoc]; exact this
theorem pUn_ty : ∀ (p : List Bool) (m : gTm), pUn m.2.2.1 m.2.2.2.1.length p → yK (mGo m p).2.2.1 = 1 ∧ (mGo m p).2.2.2.1 = []
  | [], m, h => by
    show yK m.2.2.1 = 1 ∧ m.2.2.2.1 = []
    cases e : m.2.2.1 with
    | leaf => rw [e] at h; exact h.elim
    | inner k x v a b =>
      rw [e] at h
      exact ⟨by show k + 1 = 1; have := h.1; omega, List.length_eq_zero_iff.mp h.2⟩
  | c :: p, m, h => by
    cases e : m.2.2.1 with
    | leaf => rw [e] at h; cases c <;> exact h.elim
    | inner k x v a b =>
      rw [e] at h
      cases c with
      | false =>
        exact pUn_ty p (mTk m) (by show pUn (yL m.2.2.1) 0 p; rw [e]; exact h.2)
      | true =>
        exact pUn_ty p (mAn m) (by show pUn (yR m.2.2.1) m.2.2.2.1.tail.length p; rw [e, List.length_tail]; exact h.2)
theorem mGo_cat : ∀ (p q : List Bool) (m : gTm), mGo m (p ++ q) = mGo (mGo m p) q
  | [], _, _ => rfl
  | b :: p, q, m => mGo_cat p q _
section NVA
variable {tE tN : Nat → tY} {t : tT} {env L : List Nat} {R : Nat → Int32} {nq : tQ → Int} {xs : List tQ} {inv : Nat → gN}
theorem nm_va {m : gTm} {p : List Bool} (hy : ∀ x : Nat × tY × List Nat, x ∈ tLs tE tN t → yPr x.2.1) (hm : m = mGo (rtO (tLe tE tN t env) m.1) m.2.1) (hp : pUn m.2.2.1 m.2.2.2.1.length p) : vaG L (tLs tE tN t) (.inr (m.1, m.2.1 ++ p)) := by
  obtain ⟨k1, k2⟩ := pUn_ty p m hp
  have e : mGo (rtO (tLe tE tN t env) m.1) (m.2.1 ++ p) = mGo m p := by rw [mGo_cat, ← hm]
  obtain ⟨l3, l4⟩ := tLe_3 (tE := tE) (tN := tN) t env
  have b := rtO_b (tLe tE tN t env) 0 0 m.1 l4
  rw [l3] at b
  cases hb : bFi (tLs tE tN t) 0 0 m.1 with
  | none =>
    rw [hb] at b
    have b : rtO (tLe tE tN t env) m.1 = (m.1, [], .leaf, [], []) := b
    rw [b] at e
    rw [← e, mGo_ty, pTy_lf] at k1
    cases k1
  | some q =>
    rw [hb] at b
    obtain ⟨-, -, b3, b4⟩ := (show (rtO (tLe tE tN t env) m.1).1 = m.1 ∧ (rtO (tLe tE tN t env) m.1).2.1 = [] ∧ (rtO (tLe tE tN t env) m.1).2.2.1 = q.1 ∧ (rtO (tLe tE tN t env) m.1).2.2.2.1 = q.2.1 from b)
    have pr : yPr (rtO (tLe tE tN t env) m.1).2.2.1 := by rw [b3]; exact hy _ (bFi_rg _ _ _ _ _ hb).2.2
    have := mGo_un (m.2.1 ++ p) (rtO (tLe tE tN t env) m.1) pr (by rw [← mGo_ty, e]; exact k1) (by rw [e]; exact k2)
    rw [b3, b4] at this
    exact ⟨q, hb, this⟩
/-- numbers of NAMES without a word -/
theorem nm_nu {kp : Nat × List Bool} (h : vaG L (tLs tE tN t) (.inr kp)) : 700 ≤ (gaM R (tLs tE tN t) tN nq xs inv).1 (.inr kp) ∧ (gaM R (tLs tE tN t) tN nq xs inv).1 (.inr kp) < 700 + g100 tE tN t := by
  obtain ⟨key, p⟩ := kp
  obtain ⟨e, e1, e2⟩ := h
  show 700 ≤ nuG R (tLs tE tN t) (.inr (key, p)) ∧ nuG R (tLs tE tN t) (.inr (key, p)) < 700 + g100 tE tN t
  rw [nuG_r e1]
  obtain ⟨r1, r2, -⟩ := bFi_rg _ _ _ _ _ e1
  have lt := pFz_lt _ _ _ e2
  rw [(tLs_s (tE := tE) (tN := tN) t).1] at r2
  omega
end NVA
