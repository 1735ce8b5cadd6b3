/-! findDoubt(): a C that must be SO -/
/-- a node of a C: its comparison is a FACT, and it is no test of match -/
def ifR (lo : Nat) (V : oSt) (m : Nat) : Prop := ∃ fs k, lo ≤ m ∧ V.1 m = some (.inr (7, fs)) ∧ fs[0]? = some (.int k) ∧ (k = 403 → (∃ su na ta cap L pl, fs[19]? = some (.ref su) ∧ cSm V su na ta cap L pl ∧ (lo ≤ su ∧ lo ≤ na ∧ lo ≤ ta) ∧ sFa L = true ∧ ∀ q, q ∈ L → lo ≤ q.1) ∧ ¬ mtN V m)
section CRT
variable {κ : oKv} {T0 cnt : Nat} {kk pp ee fc : Nat → Int32} {B : Nat → Nat} {D : cDt} {lo lo1 : Nat} {V : oSt} {cd : Nat} {ns : Nat → Option Nat} {Bb : Int} {cov : Nat → Prop}
theorem cCt_rt (hl : lo ≤ lo1) (hcov : ∀ x, cov x → lo ≤ x) : ∀ (t : tT) (l : Bool) (g : Nat → Option Nat) (k m : Nat), cWf cnt t l → cSoJ T0 pp ee fc ns cov Bb t → cCt κ T0 kk pp ee fc B D lo1 V cd ns t g k m → (l = false → ifR lo V m ∧ ∀ fs, V.1 m = some (.inr (7, fs)) → fs[0]? = some (.int 302) → ∃ li q g', fs[18]? = some (.ref li) ∧ cLn κ B D lo1 V li q g' ∧ (1 ≤ q ∧ q ≤ kN t + 1) ∧ ∀ i, i < q → ∃ x, g' i = some x ∧ ifR lo V x) ∧ (l = true → (k ≤ m ∧ m ≤ k + kN t) ∧ ∀ i, k ≤ i → i < m → ∃ x, g i = some x ∧ ifR lo V x)
  | .leaf, l, g, k, m, w, _, h => by
    have w : l = true := w
    have h : k = m := h
    exact ⟨fun z => (by rw [z] at w; cases w), fun _ => ⟨⟨by omega, by rw [h]; exact Nat.le_add_right _ _⟩, fun i a b => by omega⟩⟩
  | .inner n d z a b, l, g, k, m, w, so, h => by
    have Ia := cCt_rt hl hcov a
    have Ib := cCt_rt hl hcov b
    obtain ⟨so25, soa, sob⟩ := so
    have root : ∀ (fs : List Value) (kd : Int32), kd ≠ 403 → kd ≠ 302 → lo1 ≤ m → V.1 m = some (.inr (7, fs)) → fs[0]? = some (.int kd) → ifR lo V m ∧ ∀ fs, V.1 m = some (.inr (7, fs)) → fs[0]? = some (.int 302) → ∃ li q g', fs[18]? = some (.ref li) ∧ cLn κ B D lo1 V li q g' ∧ (1 ≤ q ∧ q ≤ kN (.inner n d z a b) + 1) ∧ ∀ i, i < q → ∃ x, g' i = some x ∧ ifR lo V x := fun fs kd n1 n2 hm e0 e1 => by
      refine ⟨⟨fs, kd, by omega, e0, e1, fun z => absurd z n1⟩, fun fs' e z => ?_⟩
      rw [e0] at e
      injection e with e; injection e with e; injection e with _ e
      rw [← e, e1] at z
      injection z with z; injection z with z
      exact absurd z n2
    rcases w with ⟨hl', rfl, wa, wb⟩ | ⟨hl', w⟩
    · refine ⟨fun z => (by rw [z] at hl'; cases hl'), fun _ => ?_⟩
      obtain ⟨x, h1, h2, h3⟩ := h
      obtain ⟨a1, -⟩ := (Ia false _ _ _ wa soa h2).1 rfl
      obtain ⟨⟨b1, b1'⟩, b2⟩ := (Ib true _ _ _ wb sob h3).2 rfl
      have ek : kN (.inner 30 d z a b) = kN a + kN b + 1 := rfl
      refine ⟨⟨by omega, by rw [ek]; omega⟩, fun i p q => ?_⟩
      by_cases c : i = k
      · exact ⟨x, by rw [c]; exact h1, a1⟩
      · exact b2 i (by omega) q
    · refine ⟨fun _ => ?_, fun z => (by rw [z] at hl'; cases hl')⟩
      rcases w with ⟨hg, wa, wb⟩ | ⟨rfl, wa, -⟩ | ⟨rfl, -, -⟩ | ⟨rfl, -⟩ | ⟨rfl, -⟩
      · rcases hg with rfl | rfl
        · obtain ⟨ok, pa, q, g', x, h1, -⟩ := h
          exact root _ 303 (by decide) (by decide) ok.1 h1 rfl
        · obtain ⟨ok, pa, q, g', x, h1, h2, h3, h4, h5⟩ := h
          obtain ⟨a1, -⟩ := (Ia false _ _ _ wa soa h4).1 rfl
          obtain ⟨⟨b1, b1'⟩, b2⟩ := (Ib true _ _ _ wb sob h5).2 rfl
          have ek : kN (.inner 21 d z a b) = kN a + kN b + 0 := rfl
          refine ⟨⟨_, 302, Nat.le_trans hl ok.1, h1, rfl, fun z => absurd z (by decide)⟩, fun fs' e _ => ?_⟩
          rw [h1] at e
          injection e with e; injection e with e; injection e with _ e
          rw [← e]
          refine ⟨pa, q, g', rfl, h2, ⟨b1, by rw [ek]; omega⟩, fun i hi => ?_⟩
          by_cases c : i = 0
          · exact ⟨x, by rw [c]; exact h3, a1⟩
          · exact b2 i (by omega) hi
      · obtain ⟨ok, x, h1, -⟩ := h
        exact root _ 217 (by decide) (by decide) ok.1 h1 rfl
      · obtain ⟨ok, h1⟩ := h
        by_cases c : d.2.1 = 1
        · rw [if_pos c] at h1
          exact root _ 223 (by decide) (by decide) ok.1 h1 rfl
        · rw [if_neg c] at h1
          exact root _ 205 (by decide) (by decide) ok.1 h1 rfl
      · obtain ⟨ok, h⟩ := h
        rcases h with ⟨e, l', al, pa, su, na, ta, cap, pc, h1, -⟩ | ⟨j, S, S', e, -⟩
        · exact root _ 402 (by decide) (by decide) ok.1 h1 rfl
        · injection e with e
          exact absurd e (by decide)
      · obtain ⟨ok, h⟩ := h
        obtain ⟨s1, s2, -⟩ := so25 rfl
        rcases h with ⟨e, -⟩ | ⟨j, S, S', e, l', al, pa, su, na, ta, cap, pc, r, al2, pa2, su2, na2, ta2, cap2, pc2, q, na3, ta3, cap3, h1, -, -, h2, o1, o2, o3⟩
        · injection e with e
          cases e
        · have ed : d = (d.1, j, aRl kk j, S, S') := by
            injection e with e1 e2 e3 e4 e5
          rw [ed] at s1 s2
          refine ⟨⟨_, 403, Nat.le_trans hl ok.1, h1, rfl, fun _ => ⟨⟨q, na3, ta3, cap3, _, _, rfl, h2, ⟨Nat.le_trans hl o1.1, Nat.le_trans hl o2.1, Nat.le_trans hl o3.1⟩, s1, fun p hp => hcov _ (s2 p hp).2⟩, fun ⟨su', pl', cd', z⟩ => ?_⟩⟩, fun fs' e z => ?_⟩
          · rw [h1] at z
            injection z with z; injection z with z; injection z with _ z
            have z15 := congrArg (fun l : List Value => l[15]?) z
            cases z15
          · rw [h1] at e
            injection e with e; injection e with e; injection e with _ e
            rw [← e] at z
            injection z with z; injection z with z
            exact absurd z (by decide)
end CRT
