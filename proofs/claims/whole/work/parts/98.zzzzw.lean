/-! the class's infer: its contract -/
/-- only types of nodes that stand in the words from i to j and of NAMES of W change -/
def wF (V : oSt) (nm : Nat → Option Nat) (pp : Nat → Int32) (σ σ' : oSt) (i j : Nat) (W : List Nat) : Prop := (∀ a fs, V.1 a = some (.inr (7, fs)) → (∀ w, i ≤ w → w < j → fs[1]? ≠ some (.int (pp w))) → σ'.1 a = σ.1 a) ∧ (∀ b fs, V.1 b = some (.inr (6, fs)) → (∀ u, u ∈ W → nm u ≠ some b) → σ'.1 b = σ.1 b) ∧ σ'.2 = σ.2
/-- what stands fast while types are found -/
def wH (κ : oKv) (Tt mo y cnt : Nat) (A : Nat → Nat) (V : oSt) (nm : Nat → Option Nat) (pp : Nat → Int32) (U : List Nat) : Prop := (25000 ≤ Tt ∧ V.2.1 ≤ y ∧ (∀ i, i < 6 → V.2.1 ≤ A i) ∧ κ.2.2.1 < V.2.1 ∧ ∀ w, 0 ≤ pp w) ∧ (∀ w w', w < cnt → w' < cnt → pp w = pp w' → w = w') ∧ (∀ u ∈ U, ∃ b fs, nm u = some b ∧ V.1 b = some (.inr (6, fs)) ∧ 2 < fs.length ∧ ∃ w, fs[2]? = some (.int w)) ∧ ∀ u ∈ U, ∀ u' ∈ U, nm u = nm u' → u = u'
section CIN
variable {κ : oKv} {Tt T0 mo y cnt : Nat} {A B : Nat → Nat} {D : cDt} {V σ σ' σ'' : oSt} {nm : Nat → Option Nat} {env U W W' : List Nat} {kk f pp ee : Nat → Int32} {s : mS} {g : gG} {T : Nat → mF} {i j i' j' : Nat}
theorem wF.rf (σ : oSt) (i j : Nat) (W : List Nat) : wF V nm pp σ σ i j W := ⟨fun _ _ _ _ => rfl, fun _ _ _ _ => rfl, rfl⟩
theorem wF.tr (h : wF V nm pp σ σ' i j W) (h' : wF V nm pp σ' σ'' i j W) : wF V nm pp σ σ'' i j W := ⟨fun a fs e z => (h'.1 a fs e z).trans (h.1 a fs e z), fun b fs e z => (h'.2.1 b fs e z).trans (h.2.1 b fs e z), h'.2.2.trans h.2.2⟩
theorem wF.wd (h : wF V nm pp σ σ' i j W) (hi : i' ≤ i) (hj : j ≤ j') (hW : ∀ u, u ∈ W → u ∈ W') : wF V nm pp σ σ' i' j' W' := ⟨fun a fs e z => h.1 a fs e (fun w a1 a2 => z w (by omega) (by omega)), fun b fs e z => h.2.1 b fs e (fun u hu => z u (hW u hu)), h.2.2⟩
theorem wF.yF (hy : V.2.1 ≤ y) (hA : ∀ i, i < 6 → V.2.1 ≤ A i) (hv : vR V σ) (h : yF y A σ σ') (i j : Nat) (W : List Nat) : wF V nm pp σ σ' i j W := ⟨fun a fs e _ => h.lo hy hA (hv.lt e), fun b fs e _ => h.lo hy hA (hv.lt e), h.2.1⟩
/-- a NAME alone is one on both sides -/
def tSn (kk : Nat → Int32) : tT → Prop
  | .leaf => True
  | .inner g d _ a b => (g = 10 ∨ g = 33 → (tAl kk d.2.2.2.1 = 1 ↔ isN d.2.2.2.1.2 = true)) ∧ (if g = 4 ∨ g = 5 then True else tSn kk a) ∧ tSn kk b
/-- the contract of infer() -/
def cInf (κ : oKv) (Tt T0 mo y cnt : Nat) (A B : Nat → Nat) (D : cDt) (V : oSt) (nm : Nat → Option Nat) (kk f pp ee : Nat → Int32) (U : List Nat) (t : tT) : Prop := ∀ (env : List Nat) (σ : oSt) (s : mS) (g : gG) (T : Nat → mF) (m fk lo i j n : Nat), cTr κ T0 kk pp ee f B D lo V nm t env fk (fun _ => none) 0 m → tRg t i j → j ≤ cnt → (∀ u, u ∈ env → u ∉ tEv t) → (tEv t).Nodup → (tEv t).length ≤ 2000 → tWr (cFd f pp ee) t env = [] → tWf kk cnt t 0 → tKb 2000 t → tSn kk t → (∀ u, u ∈ env → u ∈ U) → (∀ u, u ∈ tW t → u ∈ U) → cXE V y A mo nm env σ s g T → g.n + tM t ≤ mo → tDc t + 6 ≤ n → ∃ σ' v g' T', oF κ Tt n 156 [va_rf (some y), va_rf (some m)] σ = some (some (.int v), σ') ∧ cXE V y A mo nm env σ' (mE f pp ee t env s).1 g' T' ∧ xE g T g' T' ∧ g'.n ≤ g.n + tM t ∧ (mSat (mE f pp ee t env s).1.1 → ∃ c, v = nI c ∧ gY g' T' (mE f pp ee t env s).1 c (mE f pp ee t env s).2) ∧ (∀ u, u ∈ tW t → nY V nm σ' g' T' (mE f pp ee t env s).1 u) ∧ wF V nm pp σ σ' i j (tW t) ∧ cTX κ T0 kk pp ee f B D (eY σ' g' T' (mE f pp ee t env s).1) lo V nm t env fk (fun _ => none) 0 m
theorem tW_ev : ∀ (t : tT) (u : Nat), u ∈ tW t → u ∈ tEv t
  | .leaf, u, h => h
  | .inner g d _ a b, u, h => by
    have Ia := tW_ev a u
    have Ib := tW_ev b u
    unfold tW at h
    unfold tEv
    by_cases c1 : g = 1
    · rw [if_pos c1] at h ⊢
      rcases List.mem_cons.mp h with z | z
      · rw [z]; exact List.mem_append_left _ (List.mem_singleton_self _)
      · rcases List.mem_append.mp z with z | z
        · exact List.mem_append_right _ (List.mem_append_left _ (Ia z))
        · exact List.mem_append_right _ (List.mem_append_right _ (Ib z))
    rw [if_neg c1] at h ⊢
    by_cases c2 : g = 2
    · rw [if_pos c2] at h ⊢
      rcases List.mem_cons.mp h with z | z
      · rw [z]; exact List.mem_append_left _ (List.mem_append_left _ (List.mem_singleton_self _))
      · rcases List.mem_append.mp z with z | z
        · exact List.mem_append_left _ (List.mem_append_right _ z)
        · rcases List.mem_append.mp z with z | z
          · exact List.mem_append_right _ (List.mem_append_left _ (Ia z))
          · exact List.mem_append_right _ (List.mem_append_right _ (Ib z))
    rw [if_neg c2] at h ⊢
    by_cases c3 : g = 3
    · rw [if_pos c3] at h ⊢
      rcases List.mem_cons.mp h with z | z
      · rw [z]; exact List.mem_append_left _ (List.mem_singleton_self _)
      · exact List.mem_append_right _ (Ia z)
    rw [if_neg c3] at h ⊢
    by_cases c4 : g = 4 ∨ g = 5
    · rw [if_pos c4] at h ⊢
      exact List.mem_append_right _ (Ib h)
    rw [if_neg c4] at h ⊢
    by_cases c6 : g = 6
    · rw [if_pos (Or.inl c6)] at h
      rw [if_pos c6]
      exact List.mem_append_right _ (List.mem_append_right _ (List.mem_append_right _ (Ia h)))
    rw [if_neg c6]
    by_cases c15 : g = 15
    · rw [if_pos (Or.inr c15)] at h
      rw [if_neg (by omega), if_pos c15]
      exact List.mem_append_right _ (Ia h)
    rw [if_neg (show ¬ (g = 6 ∨ g = 15) by omega)] at h
    by_cases c14 : g = 14
    · rw [if_pos (Or.inl c14)] at h; cases h
    rw [if_neg c14, if_neg c15]
    by_cases c18 : g = 18
    · rw [if_pos (Or.inr c18)] at h; cases h
    rw [if_neg (show ¬ (g = 14 ∨ g = 18) by omega)] at h
    rw [if_neg c18]
    by_cases c19 : g = 19
    · rw [if_pos c19] at h ⊢
      rcases List.mem_append.mp h with z | z
      · exact List.mem_append_right _ (List.mem_append_left _ (Ia z))
      · rcases List.mem_append.mp z with z | z
        · exact List.mem_append_right _ (List.mem_append_right _ (List.mem_append_left _ z))
        · exact List.mem_append_right _ (List.mem_append_right _ (List.mem_append_right _ (Ib z)))
    rw [if_neg c19] at h ⊢
    rcases List.mem_append.mp h with z | z
    · exact List.mem_append_right _ (List.mem_append_right _ (List.mem_append_left _ (Ia z)))
    · exact List.mem_append_right _ (List.mem_append_right _ (List.mem_append_right _ (Ib z)))
/-- a NAME that is not of W -/
theorem wF.nY (hH : wH κ Tt mo y cnt A V nm pp U) (h : wF V nm pp σ σ' i j W) {u : Nat} (hu : u ∈ U) (hW : ∀ w, w ∈ W → w ∈ U) (hn : u ∉ W) {g' : gG} {T' : Nat → mF} {s' : mS} {W2 : List Nat} (z : nY V nm σ g T s u) (e : xE g T g' T') (hs : mLe W2 s s') (hn2 : u ∉ W2) : nY V nm σ' g' T' s' u := by
  have z' := z
  obtain ⟨b, fs, v, h1, h2, h3, h4⟩ := z'
  refine z.up (fun b' e' => ofd_cg (h.2.1 b' fs ?_ (fun w hw q => ?_))) e hs hn2
  · rw [h1] at e'; injection e' with e'; rw [← e']; exact h2
  · have := hH.2.2.2 u hu w (hW w hw) (e'.trans q.symm)
    exact hn (by rw [this]; exact hw)
/-- behind a fault nothing happens -/
theorem c_infF (hH : wH κ Tt mo y cnt A V nm pp U) {t : tT} (env : List Nat) (m i j n : Nat) (hd : ∀ u, u ∈ env → u ∉ tEv t) (hU : ∀ u, u ∈ tW t → u ∈ U) (h : cXE V y A mo nm env σ s g T) (hs : ¬ mSat s.1) (hn : 2 ≤ n) {lo fk : Nat} (hc : cTr κ T0 kk pp ee f B D lo V nm t env fk (fun _ => none) 0 m) : ∃ σ' v g' T', oF κ Tt n 156 [va_rf (some y), va_rf (some m)] σ = some (some (.int v), σ') ∧ cXE V y A mo nm env σ' (mE f pp ee t env s).1 g' T' ∧ xE g T g' T' ∧ g'.n ≤ g.n + tM t ∧ (mSat (mE f pp ee t env s).1.1 → ∃ c, v = nI c ∧ gY g' T' (mE f pp ee t env s).1 c (mE f pp ee t env s).2) ∧ (∀ u, u ∈ tW t → nY V nm σ' g' T' (mE f pp ee t env s).1 u) ∧ wF V nm pp σ σ' i j (tW t) ∧ cTX κ T0 kk pp ee f B D (eY σ' g' T' (mE f pp ee t env s).1) lo V nm t env fk (fun _ => none) 0 m := by
  have le := mLe.e (f := f) (pp := pp) (ee := ee) t env s
  have ns : ¬ mSat (mE f pp ee t env s).1.1 := fun z => hs (le.sat z)
  obtain ⟨n, rfl⟩ : ∃ n', n = n' + 2 := ⟨n - 2, by omega⟩
  obtain ⟨⟨h0, hx⟩, hE⟩ := h
  rcases hx with ⟨z, -⟩ | ⟨pl, c, F, q1, q2, q3, q4⟩
  · exact absurd z hs
  refine ⟨σ, 0, g, T, ?_, ⟨⟨h0, Or.inr ⟨pl, c, F, q1.noS le, q2, q3, q4⟩⟩, fun u hu => (hE u hu).up (fun _ _ => rfl) (xE.rf g T) le (fun z => hd u hu (tW_ev t u z))⟩, xE.rf g T, by omega, fun z => absurd z ns, fun u hu => ?_, wF.rf σ i j _, cTX.of t lo env fk _ 0 m (fun _ _ z => absurd z ns) hc⟩
  · rw [oE_X10_infer]
    unfold ob_X10_infer
    rw [q4.row.2.2.2.2.2.2.2.2.1, obn_at, if_neg (fun z => by rw [Int32.lt_iff_toInt_lt] at z; rw [Int32.le_iff_toInt_le] at q2; omega), c_basic (n := n), oin_at]
    rfl
  · obtain ⟨b, fs, e1, e2, l, i2⟩ := hH.2.2.1 u (hU u hu)
    obtain ⟨v, e3, e4⟩ := h0.2.1 b fs e2
    obtain ⟨v, rfl⟩ := e4 i2
    exact ⟨b, fs, v, e1, e2, by rw [ofd_at e3, List.getElem?_set_self l], fun z => absurd z ns⟩
/-- a node's type is put, and answered -/
theorem c_end (hH : wH κ Tt mo y cnt A V nm pp U) {call : oCl} (h : cXE V y A mo nm env σ s g T) {m w i j : Nat} {fs : List Value} (e : V.1 m = some (.inr (7, fs))) (hl : 8 < fs.length) (hp : fs[1]? = some (.int (pp w))) (hw : i ≤ w ∧ w < j) (v : Int32) (t : mF) (W : List Nat) : ∃ σ', opf σ (some m) 7 8 (.int v) = some σ' ∧ oj_X10_infer_351 Tt call κ (some m) σ' = some (some (.int v), σ') ∧ cXE V y A mo nm env σ' (mEt w t s) g T ∧ ofd σ' (some m) 7 8 = some (.int v) ∧ wF V nm pp σ σ' i j W := by
  obtain ⟨σ', a1, a2, a3, a4, a5⟩ := h.1.node hH.1.2.1 hH.1.2.2.1 e hl v
  have nn : ∀ b fs', V.1 b = some (.inr (6, fs')) → b ≠ m := fun b fs' e' z => by rw [z, e] at e'; cases e'
  refine ⟨σ', a1, ?_, ⟨a2.cg rfl (Nat.le_refl _), fun u hu => ?_⟩, a3, ⟨fun a fs' e' z => a4 a (fun q => ?_), fun b fs' e' _ => a4 b (nn b fs' e'), a5⟩⟩
  · unfold oj_X10_infer_351
    rw [a3, ovi_in, obn_at]
  · obtain ⟨b, fb, v', n1, n2, n3, n4⟩ := h.2 u hu
    exact ⟨b, fb, v', n1, n2, (ofd_cg (a4 b (nn b fb n2))).trans n3, n4⟩
  · subst q
    rw [e] at e'; injection e' with e'; injection e' with e'; injection e' with _ e'; subst e'
    exact z w hw.1 hw.2 hp
theorem c_end2 (hH : wH κ Tt mo y cnt A V nm pp U) {call : oCl} (h : cXE V y A mo nm env σ s g T) {m w i j : Nat} {fs : List Value} (e : V.1 m = some (.inr (7, fs))) (hl : 8 < fs.length) (hp : fs[1]? = some (.int (pp w))) (hw : i ≤ w ∧ w < j) (v : Int32) (t : mF) (W : List Nat) : ∃ σ', opf σ (some m) 7 8 (.int v) = some σ' ∧ oj_X10_infer_351 Tt call κ (some m) σ' = some (some (.int v), σ') ∧ cXE V y A mo nm env σ' (mEt w t s) g T ∧ ofd σ' (some m) 7 8 = some (.int v) ∧ wF V nm pp σ σ' i j W ∧ ∀ a, a ≠ m → σ'.1 a = σ.1 a := by
  obtain ⟨σ', a1, a2, a3, a4, a5⟩ := h.1.node hH.1.2.1 hH.1.2.2.1 e hl v
  have nn : ∀ b fs', V.1 b = some (.inr (6, fs')) → b ≠ m := fun b fs' e' z => by rw [z, e] at e'; cases e'
  refine ⟨σ', a1, ?_, ⟨a2.cg rfl (Nat.le_refl _), fun u hu => ?_⟩, a3, ⟨fun a fs' e' z => a4 a (fun q => ?_), fun b fs' e' _ => a4 b (nn b fs' e'), a5⟩, a4⟩
  · unfold oj_X10_infer_351
    rw [a3, ovi_in, obn_at]
  · obtain ⟨b, fb, v', n1, n2, n3, n4⟩ := h.2 u hu
    exact ⟨b, fb, v', n1, n2, (ofd_cg (a4 b (nn b fb n2))).trans n3, n4⟩
  · subst q
    rw [e] at e'; injection e' with e'; injection e' with e'; injection e' with _ e'; subst e'
    exact z w hw.1 hw.2 hp
/-- a node outside of the words is as it was -/
theorem wF.nd (hH : wH κ Tt mo y cnt A V nm pp U) {m : Nat} (h : wF V nm pp σ σ' i j W) {w : Nat} {fs : List Value} (e : V.1 m = some (.inr (7, fs))) (hp : fs[1]? = some (.int (pp w))) (hw : w < cnt) (hj : j ≤ cnt) (ho : w < i ∨ j ≤ w) : σ'.1 m = σ.1 m := h.1 m fs e (fun w' a1 a2 q => by
  rw [hp] at q
  injection q with q
  injection q with q
  have := hH.2.1 w w' hw (by omega) q
  omega)
end CIN
