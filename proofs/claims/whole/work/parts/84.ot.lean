/-! what is shown by the rules of the class's plain logic is a contract -/
/-- method j of the class with d calls within, from σ: it ends with the outcome w -/
def oTr (κ : oKv) : Nat → Nat → List Value → oSt → Option Value × oSt → Prop
  | 0, _, _, _, _ => False
  | d + 1, j, av, σ, w => ∃ en, omt[j]? = some en ∧ (lg_sl av).length ≤ en.2.2.1 ∧ ∀ X, oSem en.2.2.2.2.2.2 en.2.1 en.2.2.1 en.2.2.2.2.1 en.2.2.2.2.2.1 κ (oTr κ d) w X → X 0 (zent en.2.2.1 av) [] σ
theorem oTr_mono {κ : oKv} : ∀ (d j : Nat) (av : List Value) (σ : oSt) (w : Option Value × oSt), oTr κ d j av σ w → omo σ w
  | 0, _, _, _, _, h => h.elim
  | d + 1, _, _, _, w, h => by
    obtain ⟨en, -, -, h3⟩ := h
    exact h3 (fun _ _ _ σ => omo σ w) (om_all (oTr_mono d))
theorem oTr_met {l : Launch} {dC : Nat → ClassId} {dI : Nat → Nat → Nat} {κ : oKv} {sz0 : Nat} : ∀ (d j : Nat) (av : List Value) (σ : oSt) (w : Option Value × oSt), oTr κ d j av σ w → ∀ en, omt[j]? = some en → oMe l dC dI κ sz0 d en av σ w
  | 0, _, _, _, _, h => h.elim
  | d + 1, j, av, σ, w, h => by
    have hmo := oTr_mono _ _ _ _ _ h
    obtain ⟨en, h1, h2, h3⟩ := h
    intro en1 he
    cases he.symm.trans h1
    have hok := omt_ok en (List.mem_of_getElem? h1)
    refine oMet_ofW (cc := en.2.1) (maxL := en.2.2.1) (ret := en.2.2.2.2.2.1) hok.2.2.2.1 rfl ?_
    intro p e s m args below meth c s₁ B hml hv
    obtain ⟨rfl, hsz, hR, hz, hE⟩ := hv
    have hown : s.vm.findClass en.2.2.2.2.2.2 = some m.cls := by
      have h9 := findClass_of_methodNamed B.named
      rw [hok.1] at h9
      exact h9
    have hnm : en.2.2.2.2.1 = 2 → meth.name = "<init>" := fun h9 => by
      have h8 := (name_of_methodNamed B.named B.method).1
      rw [h8]
      exact oI_nm en (List.mem_of_getElem? h1) h9
    have hC : oCx p l (headSpec (ows en) (orm (d + 1) (w.2.2.2.1 - σ.2.2.1) (w.2.2.2.2 - σ.2.2.2))).room s m av.toArray meth c en.2.2.2.2.2.2 en.2.1 en.2.2.1 en.2.2.2.2.1 (d + 1) en.2.2.2.2.2.1 dC dI κ sz0 σ w en (oTr κ d) := ⟨⟨B.exec, B.bytes, hml, hown, atoms_spec (ws := ows en) B.pre⟩, B.returns, B.notSynchronized, ⟨Nat.le_refl _, Nat.le_refl _, Nat.le_refl _, Nat.le_refl _⟩, hnm, ⟨hE, hz⟩, fun j1 av1 σ1 w1 hk => ⟨oTr_mono d j1 av1 σ1 w1 hk, d, Nat.le_refl _, fun en2 he2 => oTr_met d j1 av1 σ1 w1 hk en2 he2⟩⟩
    have h9 := h3 _ (oi_all (e := e) (below := below) hC)
    rw [lg_entry_eq]
    have hl := lv_entry av (n := en.2.2.1) h2
    have h10 := h9.2 _ s.heap [] ⟨hl.1, hl.2.1, fun i x hi => ?_⟩ ⟨hR, va_S.rf, fun x hx => (by cases hx), ⟨hsz, Nat.le_refl _, Nat.le_refl _, by rw [Nat.sub_self]; exact hsz, Nat.le_of_eq hsz⟩, fun a ha => ha, fun a g1 g2 => absurd g2 (Nat.not_lt.mpr g1)⟩
    · rw [Nat.sub_self, Nat.sub_self] at h10
      exact h10
    · have hi2 : i < en.2.2.1 := by
        have := (List.getElem?_eq_some_iff.mp hi).1
        simpa [zent] using this
      simp only [zent, List.getElem?_map, List.getElem?_range hi2, Option.map_some] at hi
      have hi3 : (lv_args 0 av).lookup i = some x := by simpa using hi
      refine hl.2.2 (i, x) ?_
      clear h9 hl
      generalize lv_args 0 av = L at hi3
      induction L with
      | nil => simp at hi3
      | cons y L ih =>
        obtain ⟨a, b⟩ := y
        simp only [List.lookup] at hi3
        split at hi3
        next h10 =>
          cases hi3
          have : i = a := by simpa using h10
          subst this
          exact List.mem_cons_self
        next => exact List.mem_cons_of_mem _ (ih hi3)
