/-! both forms: what is needed -/
/-- the words at which TEMPLATES are counted -/
def tTg : tT → List Nat
  | .leaf => []
  | .inner g d _ a b => (if g = 1 ∨ g = 2 ∨ g = 3 ∨ g = 4 ∨ g = 19 then [d.1] else []) ++ ((if g = 4 ∨ g = 5 ∨ g = 33 then [] else tTg a) ++ tTg b)
section TTG
variable {kk f fc pp ee : Nat → Int32} {cnt : Nat} {tE tE' tN tN' : Nat → tY}
theorem tOv_cg : ∀ (t : tT) (q : Nat × Int32), tGd kk cnt t → (∀ u, u ∈ tTg t → tE u = tE' u) → (∀ u, u ∈ tW t → tN u = tN' u) → tOv pp tE tN t q = tOv pp tE' tN' t q
  | .leaf, _, _, _, _ => rfl
  | .inner g d _ a b, q, hg, h1, h2 => by
    obtain ⟨-, -, ⟨-, g14, g6⟩, ga, gb⟩ := hg
    have Ia := fun q h2 => tOv_cg a q ga (fun u hu => h1 u (by
      unfold tTg
      rw [if_neg (show ¬ (g = 4 ∨ g = 5 ∨ g = 33) from h2)]
      exact List.mem_append_right _ (List.mem_append_left _ hu)))
    have Ib := fun q => tOv_cg b q gb (fun u hu => h1 u (by
      unfold tTg
      exact List.mem_append_right _ (List.mem_append_right _ hu)))
    have hE : (g = 1 ∨ g = 2 ∨ g = 3 ∨ g = 4 ∨ g = 19) → tE d.1 = tE' d.1 := fun c => h1 d.1 (by
      unfold tTg
      rw [if_pos c]
      exact List.mem_append_left _ (List.mem_singleton_self _))
    unfold tW at h2
    unfold tOv
    by_cases c1 : g = 1
    · rw [if_pos c1] at h2
      rw [if_pos (Or.inl c1), if_pos (Or.inl c1), hE (by omega), Ia _ (by omega) (fun u hu => h2 u (List.mem_cons_of_mem _ (List.mem_append_left _ hu))), Ib _ (fun u hu => h2 u (List.mem_cons_of_mem _ (List.mem_append_right _ hu)))]
    rw [if_neg c1] at h2
    by_cases c2 : g = 2
    · rw [if_pos c2] at h2
      rw [if_neg (show ¬ (g = 1 ∨ g = 19) by omega), if_neg (show ¬ (g = 1 ∨ g = 19) by omega), if_pos c2, if_pos c2, hE (by omega), h2 _ (List.mem_cons_self ..), Ia _ (by omega) (fun u hu => h2 u (List.mem_cons_of_mem _ (List.mem_append_right _ (List.mem_append_left _ hu)))), Ib _ (fun u hu => h2 u (List.mem_cons_of_mem _ (List.mem_append_right _ (List.mem_append_right _ hu))))]
    rw [if_neg c2] at h2
    by_cases c3 : g = 3
    · rw [if_pos c3] at h2
      rw [if_neg (show ¬ (g = 1 ∨ g = 19) by omega), if_neg (show ¬ (g = 1 ∨ g = 19) by omega), if_neg c2, if_neg c2, if_pos c3, if_pos c3, hE (by omega), Ia _ (by omega) (fun u hu => h2 u (List.mem_cons_of_mem _ hu))]
    rw [if_neg c3] at h2
    by_cases c4 : g = 4 ∨ g = 5
    · rw [if_pos c4] at h2
      rw [if_neg (show ¬ (g = 1 ∨ g = 19) by omega), if_neg (show ¬ (g = 1 ∨ g = 19) by omega), if_neg c2, if_neg c2, if_neg c3, if_neg c3]
      by_cases c44 : g = 4
      · rw [if_pos c44, if_pos c44, hE (by omega), Ib _ h2]
      · rw [if_neg c44, if_neg c44, if_pos (show g = 5 by omega), if_pos (show g = 5 by omega), Ib _ h2]
    rw [if_neg c4] at h2
    by_cases c19 : g = 19
    · rw [if_neg (by omega), if_neg (by omega), if_pos c19] at h2
      rw [if_pos (Or.inr c19), if_pos (Or.inr c19), hE (by omega), Ia _ (by omega) (fun u hu => h2 u (List.mem_append_left _ hu)), Ib _ (fun u hu => h2 u (List.mem_append_right _ (List.mem_append_right _ hu)))]
    rw [if_neg (show ¬ (g = 1 ∨ g = 19) by omega), if_neg (show ¬ (g = 1 ∨ g = 19) by omega), if_neg c2, if_neg c2, if_neg c3, if_neg c3, if_neg (show ¬ g = 4 by omega), if_neg (show ¬ g = 4 by omega), if_neg (show ¬ g = 5 by omega), if_neg (show ¬ g = 5 by omega)]
    by_cases c6 : g = 6 ∨ g = 15
    · rw [if_pos c6] at h2
      have hb : b = .leaf := g6 (by omega)
      subst hb
      rw [if_neg (by omega), if_neg (by omega), Ia _ (by omega) h2]
      rfl
    rw [if_neg c6] at h2
    by_cases c14 : g = 14 ∨ g = 18
    · obtain ⟨rfl, rfl⟩ := g14 c14
      rfl
    rw [if_neg c14, if_neg c19] at h2
    by_cases c33 : g = 33
    · rw [if_pos c33, if_pos c33, Ib _ (fun u hu => h2 u (List.mem_append_right _ hu))]
    · rw [if_neg c33, if_neg c33, Ia _ (by omega) (fun u hu => h2 u (List.mem_append_left _ hu)), Ib _ (fun u hu => h2 u (List.mem_append_right _ hu))]
theorem fCt_cg {ns ns' : Nat → Option Nat} (h : ns = ns') (t : tT) (ff : Int32) : fCt pp ns t ff = fCt pp ns' t ff := by rw [h]
theorem fE_cg (h : nFind fc pp ee = nFind f pp ee) : ∀ (t : tT) (env : List Nat) (cn ff : Int32), fE fc pp ee t env cn ff = fE f pp ee t env cn ff
  | .leaf, _, _, _ => rfl
  | .inner g d _ a b, env, cn, ff => by
    have Ia := fE_cg h a
    have Ib := fE_cg h b
    unfold fE
    simp only [Ia, Ib, h]
end TTG
section TT2
variable {κ : oKv} {T : Nat} {kk pp ee f : Nat → Int32} {A : Nat → Nat} {D : cDt} {σ : oSt} {nm : Nat → Option Nat} {X : Nat → Nat → Prop} {cnt : Nat}
theorem tTg_nil {g : Nat} {d : Nat × Nat × Nat × tS × tS} {z : Unit} {u : Nat} (hg : ¬ (g = 1 ∨ g = 2 ∨ g = 3 ∨ g = 4 ∨ g = 19)) : u ∉ tTg (.inner g d z .leaf .leaf) := by
  unfold tTg
  rw [if_neg hg]
  have e : tTg .leaf = [] := rfl
  rw [e, ite_self]
  exact fun h => by cases h
theorem cTX_tg : ∀ (t : tT) (lo : Nat) (env : List Nat) (fk : Nat) (gq : Nat → Option Nat) (k m l : Nat), tWf kk cnt t l → tGd kk cnt t → cTX κ T kk pp ee f A D X lo σ nm t env fk gq k m → ∀ u, u ∈ tTg t → ∃ m, X m u
  | .leaf, _, _, _, _, _, _, _, _, _, _, u, hu => by cases hu
  | .inner g d z a b, lo, env, fk, gq, k, m, l, wf, hg, h, u, hu => by
    obtain ⟨-, -, ⟨-, g14, g6⟩, ga, gb⟩ := hg
    have Ia := fun lo env fk gq k m l w h hu => cTX_tg a lo env fk gq k m l w ga h u hu
    have Ib := fun lo env fk gq k m l w h hu => cTX_tg b lo env fk gq k m l w gb h u hu
    have two : (∃ m, X m d.1) → (u ∈ tTg a → ∃ m, X m u) → (u ∈ tTg b → ∃ m, X m u) → u ∈ [d.1] ++ (tTg a ++ tTg b) → ∃ m, X m u := fun h1 h2 h3 hu => by
      rcases List.mem_append.mp hu with hu | hu
      · rw [List.mem_singleton.mp hu]; exact h1
      · exact (List.mem_append.mp hu).elim h2 h3
    rcases wf with ⟨-, rfl, -, wa, wb⟩ | ⟨-, -, wb, hk⟩ | ⟨-, wf⟩
    · obtain ⟨x, -, ta, tb⟩ := h
      have hu : u ∈ tTg a ++ tTg b := hu
      exact (List.mem_append.mp hu).elim (fun z => Ia _ _ _ _ _ _ _ wa ta z) (fun z => Ib _ _ _ _ _ _ _ wb tb z)
    · rcases hk with ⟨rfl, -, rfl⟩ | ⟨rfl, -, wa⟩ | ⟨rfl, -, rfl, -⟩
      · obtain ⟨x, su, -, -, tb⟩ := h
        exact Ib _ _ _ _ _ _ _ wb tb hu
      · obtain ⟨x, fs, -, -, ta, tb⟩ := h
        have hu : u ∈ tTg a ++ tTg b := hu
        exact (List.mem_append.mp hu).elim (fun z => Ia _ _ _ _ _ _ _ wa ta z) (fun z => Ib _ _ _ _ _ _ _ wb tb z)
      · obtain ⟨x, -, -, tb⟩ := h
        exact Ib _ _ _ _ _ _ _ wb tb hu
    · rcases wf with ⟨rfl, -, wa, wb⟩ | ⟨rfl, -, wa, wb⟩ | ⟨rfl, -, wa⟩ | ⟨rfl, -, wb⟩ | ⟨rfl, -, wb⟩ | ⟨rfl, -, -, wa⟩ | ⟨h7, -, -, rfl, rfl⟩ | ⟨h7, -, rfl, rfl⟩ | ⟨h7, -, rfl, rfl⟩ | ⟨rfl, -⟩ | ⟨rfl, -, wa⟩ | ⟨rfl, -, wa, rfl⟩ | ⟨rfl, -⟩ | ⟨rfl, -, wa, wb⟩
      · obtain ⟨hx, -, x, y, w, -, -, ta, tb⟩ := h
        exact two ⟨m, hx⟩ (Ia _ _ _ _ _ _ _ wa ta) (Ib _ _ _ _ _ _ _ wb tb) hu
      · obtain ⟨hx, -, x, y, w, q, -, -, -, -, ta, tb⟩ := h
        exact two ⟨m, hx⟩ (Ia _ _ _ _ _ _ _ wa ta) (Ib _ _ _ _ _ _ _ wb tb) hu
      · obtain ⟨hx, -, x, q, mk, -, -, -, ta⟩ := h
        obtain rfl : b = .leaf := g6 (Or.inl rfl)
        exact two ⟨m, hx⟩ (Ia _ _ _ _ _ _ _ wa ta) (fun z => by cases z) hu
      · obtain ⟨hx, -, c, x, y, -, -, tb⟩ := h
        have hu : u ∈ [d.1] ++ ([] ++ tTg b) := hu
        rcases List.mem_append.mp hu with hu | hu
        · rw [List.mem_singleton.mp hu]; exact ⟨m, hx⟩
        · exact Ib _ _ _ _ _ _ _ wb tb hu
      · obtain ⟨-, c, x, -, -, tb⟩ := h
        exact Ib _ _ _ _ _ _ _ wb tb hu
      · obtain ⟨-, x, l0, r0, nd, su, su', -, -, -, -, ta⟩ := h
        obtain rfl : b = .leaf := g6 (Or.inr (Or.inl rfl))
        have hu : u ∈ [] ++ (tTg a ++ []) := hu
        exact Ia _ _ _ _ _ _ _ wa ta (by simpa using hu)
      · exact absurd hu (tTg_nil (by omega))
      · exact absurd hu (tTg_nil (by omega))
      · exact absurd hu (tTg_nil (by omega))
      · obtain ⟨rfl, rfl⟩ := g14 (Or.inl rfl)
        exact absurd hu (tTg_nil (by decide))
      · obtain ⟨-, pa, q, g', -, -, ta⟩ := h
        obtain rfl : b = .leaf := g6 (Or.inr (Or.inr rfl))
        have hu : u ∈ [] ++ (tTg a ++ []) := hu
        exact Ia _ _ _ _ _ _ _ wa ta (by simpa using hu)
      · obtain ⟨-, x, -, ta⟩ := h
        have hu : u ∈ [] ++ (tTg a ++ []) := hu
        exact Ia _ _ _ _ _ _ _ wa ta (by simpa using hu)
      · obtain ⟨rfl, rfl⟩ := g14 (Or.inr rfl)
        exact absurd hu (tTg_nil (by decide))
      · obtain ⟨hx, -, x, y, c, q0, su, na, ta0, -, -, -, -, ta, tb⟩ := h
        exact two ⟨m, hx⟩ (Ia _ _ _ _ _ _ _ wa ta) (Ib _ _ _ _ _ _ _ wb tb) hu
theorem nE_tg (V : zSt) : ∀ (t : tT) (m0 m l : Nat), tWf kk cnt t l → tGd kk cnt t → ∀ u, u ∈ tTg t → ∃ p, p ∈ nE V t m0 m ∧ p.2 = u
  | .leaf, _, _, _, _, _, u, hu => by cases hu
  | .inner g d z a b, m0, m, l, wf, hg, u, hu => by
    obtain ⟨-, -, ⟨-, g14, g6⟩, ga, gb⟩ := hg
    have Ia := fun m0 m l w hu => nE_tg V a m0 m l w ga u hu
    have Ib := fun m0 m l w hu => nE_tg V b m0 m l w gb u hu
    have two : ∀ {M N : List (Nat × Nat)}, (u ∈ tTg a → ∃ p, p ∈ M ∧ p.2 = u) → (u ∈ tTg b → ∃ p, p ∈ N ∧ p.2 = u) → u ∈ [d.1] ++ (tTg a ++ tTg b) → ∃ p, p ∈ (m, d.1) :: (M ++ N) ∧ p.2 = u := fun h2 h3 hu => by
      rcases List.mem_append.mp hu with hu | hu
      · exact ⟨(m, d.1), List.mem_cons_self .., (List.mem_singleton.mp hu).symm⟩
      · rcases List.mem_append.mp hu with z | z
        · obtain ⟨p, p1, p2⟩ := h2 z
          exact ⟨p, List.mem_cons_of_mem _ (List.mem_append_left _ p1), p2⟩
        · obtain ⟨p, p1, p2⟩ := h3 z
          exact ⟨p, List.mem_cons_of_mem _ (List.mem_append_right _ p1), p2⟩
    have one : ∀ {M : List (Nat × Nat)}, (∃ p, p ∈ M ∧ p.2 = u) → ∃ p, p ∈ (m, d.1) :: M ∧ p.2 = u := fun ⟨p, p1, p2⟩ => ⟨p, List.mem_cons_of_mem _ p1, p2⟩
    have apl : ∀ {M N : List (Nat × Nat)}, (∃ p, p ∈ M ∧ p.2 = u) → ∃ p, p ∈ M ++ N ∧ p.2 = u := fun ⟨p, p1, p2⟩ => ⟨p, List.mem_append_left _ p1, p2⟩
    have apr : ∀ {M N : List (Nat × Nat)}, (∃ p, p ∈ N ∧ p.2 = u) → ∃ p, p ∈ M ++ N ∧ p.2 = u := fun ⟨p, p1, p2⟩ => ⟨p, List.mem_append_right _ p1, p2⟩
    rcases wf with ⟨-, rfl, -, wa, wb⟩ | ⟨-, -, wb, hk⟩ | ⟨-, wf⟩
    · have hu : u ∈ tTg a ++ tTg b := hu
      exact (List.mem_append.mp hu).elim (fun z => apl (Ia 0 m0 _ wa z)) (fun z => apr (Ib 0 m _ wb z))
    · rcases hk with ⟨rfl, -, rfl⟩ | ⟨rfl, -, wa⟩ | ⟨rfl, -, rfl, -⟩
      · exact Ib (m0 + 1) 0 _ wb hu
      · have hu : u ∈ tTg a ++ tTg b := hu
        exact (List.mem_append.mp hu).elim (fun z => apl (Ia 0 _ _ wa z)) (fun z => apr (Ib (m0 + 1) 0 _ wb z))
      · exact Ib (m0 + 1) 0 _ wb hu
    · rcases wf with ⟨rfl, -, wa, wb⟩ | ⟨rfl, -, wa, wb⟩ | ⟨rfl, -, wa⟩ | ⟨rfl, -, wb⟩ | ⟨rfl, -, wb⟩ | ⟨rfl, -, -, wa⟩ | ⟨h7, -, -, rfl, rfl⟩ | ⟨h7, -, rfl, rfl⟩ | ⟨h7, -, rfl, rfl⟩ | ⟨rfl, -⟩ | ⟨rfl, -, wa⟩ | ⟨rfl, -, wa, rfl⟩ | ⟨rfl, -⟩ | ⟨rfl, -, wa, wb⟩
      · exact two (Ia 0 _ _ wa) (Ib 0 _ _ wb) hu
      · exact two (Ia 0 _ _ wa) (Ib 0 _ _ wb) hu
      · obtain rfl : b = .leaf := g6 (Or.inl rfl)
        have := two (N := []) (Ia 0 (V.2.2.1 11 m).toNatClampNeg _ wa) (fun z => by cases z) hu
        rw [List.append_nil] at this
        exact this
      · have hu : u ∈ [d.1] ++ ([] ++ tTg b) := hu
        rcases List.mem_append.mp hu with hu | hu
        · exact ⟨(m, d.1), List.mem_cons_self .., (List.mem_singleton.mp hu).symm⟩
        · exact one (Ib _ _ _ wb hu)
      · exact one (Ib _ _ _ wb hu)
      · obtain rfl : b = .leaf := g6 (Or.inr (Or.inl rfl))
        have hu : u ∈ [] ++ (tTg a ++ []) := hu
        exact one (Ia _ _ _ wa (by simpa using hu))
      · exact absurd hu (tTg_nil (by omega))
      · exact absurd hu (tTg_nil (by omega))
      · exact absurd hu (tTg_nil (by omega))
      · obtain ⟨rfl, rfl⟩ := g14 (Or.inl rfl)
        exact absurd hu (tTg_nil (by decide))
      · obtain rfl : b = .leaf := g6 (Or.inr (Or.inr rfl))
        have hu : u ∈ [] ++ (tTg a ++ []) := hu
        exact one (Ia _ _ _ wa (by simpa using hu))
      · have hu : u ∈ [] ++ (tTg a ++ []) := hu
        exact one (Ia _ _ _ wa (by simpa using hu))
      · obtain ⟨rfl, rfl⟩ := g14 (Or.inr rfl)
        exact absurd hu (tTg_nil (by decide))
      · exact two (Ia 0 _ _ wa) (Ib 0 _ _ wb) hu
/-- all words told have their numbers -/
theorem rWo_to {R : Nat → Int32} {L : List Nat} : ∀ (t : tT) (env : List Nat), tGd kk cnt t → rWo f pp ee R L t env → ∀ u, u ∈ tW t → rTo R L u
  | .leaf, _, _, _, u, hu => by cases hu
  | .inner g d z a b, env, hg, h, u, hu => by
    obtain ⟨-, -, ⟨-, g14, g6⟩, ga, gb⟩ := hg
    have Ia := fun env h hu => rWo_to (R := R) (L := L) a env ga h u hu
    have Ib := fun env h hu => rWo_to (R := R) (L := L) b env gb h u hu
    unfold rWo at h
    unfold tW at hu
    by_cases c1 : g = 1
    · rw [if_pos c1] at h hu
      rcases List.mem_cons.mp hu with rfl | hu
      · exact h.1
      · exact (List.mem_append.mp hu).elim (Ia _ h.2.1) (Ib _ h.2.2)
    rw [if_neg c1] at h hu
    by_cases c2 : g = 2
    · rw [if_pos c2] at h hu
      rcases List.mem_cons.mp hu with rfl | hu
      · exact h.1.1
      · rcases List.mem_append.mp hu with hu | hu
        · obtain ⟨i, hi, rfl⟩ := List.mem_range'.mp hu
          have := h.1.2 i hi
          rw [Nat.one_mul]
          exact this
        · exact (List.mem_append.mp hu).elim (Ia _ h.2.1) (Ib _ h.2.2)
    rw [if_neg c2] at h hu
    by_cases c3 : g = 3
    · rw [if_pos c3] at h hu
      rcases List.mem_cons.mp hu with rfl | hu
      · exact h.1
      · exact Ia _ h.2 hu
    rw [if_neg c3] at h hu
    by_cases c4 : g = 4 ∨ g = 5
    · rw [if_pos c4] at h hu
      exact Ib _ h.2 hu
    rw [if_neg c4] at h hu
    by_cases c6 : g = 6
    · rw [if_pos c6] at h
      rw [if_pos (Or.inl c6)] at hu
      exact Ia _ h.2.2.2 hu
    rw [if_neg c6] at h
    by_cases c14 : g = 14
    · rw [if_neg (by omega), if_pos (Or.inl c14)] at hu
      cases hu
    rw [if_neg c14] at h
    by_cases c15 : g = 15
    · rw [if_pos c15] at h
      rw [if_pos (Or.inr c15)] at hu
      exact Ia _ h.2 hu
    rw [if_neg c15] at h
    by_cases c18 : g = 18
    · rw [if_neg (by omega), if_pos (Or.inr c18)] at hu
      cases hu
    rw [if_neg c18] at h
    rw [if_neg (by omega), if_neg (by omega)] at hu
    by_cases c19 : g = 19
    · rw [if_pos c19] at h hu
      rcases List.mem_append.mp hu with hu | hu
      · exact Ia _ h.2.1 hu
      · rcases List.mem_append.mp hu with hu | hu
        · rcases List.mem_cons.mp hu with rfl | hu
          · exact h.2.2.1.1
          · rw [List.mem_singleton.mp hu]; exact h.2.2.1.2
        · exact Ib _ h.2.2.2 hu
    rw [if_neg c19] at h hu
    exact (List.mem_append.mp hu).elim (Ia _ h.2.2.1) (Ib _ h.2.2.2)
/-- blameForm(), with what it reads alone -/
theorem c_blm {n p : Nat} {fs : List Value} {x ff : Int32} (h : σ.1 p = some (.inr (9, fs))) (hl : 17 < fs.length) (h17 : fs[17]? = some (.int ff)) : oF κ T (n + 1) 122 [va_rf (some p), .int x] σ = some (none, oput σ p (.inr (9, fs.set 17 (.int (fMin ff x))))) := by
  have f17 : ofd σ (some p) 9 17 = some (.int ff) := by rw [ofd_at h]; exact h17
  have same : oput σ p (.inr (9, fs.set 17 (.int ff))) = σ := by
    have : fs.set 17 (.int ff) = fs := by
      have e := List.getElem?_eq_getElem hl
      rw [h17] at e
      injection e with e
      rw [e]
      exact List.set_getElem_self hl
    rw [this]
    exact oput_same h
  rw [oE_X7_blameForm]
  unfold ob_X7_blameForm oj_X7_blameForm_19 fMin
  by_cases c1 : x < 0
  · rw [if_pos c1, if_pos c1, same]
  · rw [if_neg c1, if_neg c1, f17, ovi_in, obn_at]
    by_cases c2 : ff < 0
    · rw [if_pos c2, if_pos c2, opf_at h hl, obn_at]
    · rw [if_neg c2, if_neg c2, obn_at]
      by_cases c3 : ff ≤ x
      · rw [if_pos c3, if_pos c3, same]
      · rw [if_neg c3, if_neg c3, opf_at h hl, obn_at]
end TT2
