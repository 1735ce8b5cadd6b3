/-! findAll's second loop: the base of each NAME -/
theorem set_self (l : List Value) (i : Nat) : ∃ w, l.set i w = l := by
  by_cases h : i < l.length
  · exact ⟨l[i], List.set_getElem_self h⟩
  · exact ⟨.null, List.set_eq_of_length_le (by omega)⟩
/-- V with types in its nodes, types and bases in its NAMES -/
def vK (V σ : oSt) : Prop := (∀ a fs, V.1 a = some (.inr (7, fs)) → ∃ v, σ.1 a = some (.inr (7, fs.set 8 v))) ∧ (∀ a fs, V.1 a = some (.inr (6, fs)) → ∃ v w, σ.1 a = some (.inr (6, (fs.set 2 v).set 3 w))) ∧ (∀ a, a < V.2.1 → (∀ fs, V.1 a ≠ some (.inr (7, fs))) → (∀ fs, V.1 a ≠ some (.inr (6, fs))) → σ.1 a = V.1 a) ∧ (∀ a, V.2.1 ≤ a → V.1 a = none) ∧ ∀ a, σ.2.1 ≤ a → σ.1 a = none
section VKK
variable {κ : oKv} {T n mo y : Nat} {A : Nat → Nat} {V σ σ' : oSt}
theorem vK.of (h : vR V σ) : vK V σ := by
  obtain ⟨h1, h2, h3⟩ := h
  refine ⟨fun a fs e => ?_, fun a fs e => ?_, h3⟩
  · obtain ⟨v, e', -⟩ := h1 a fs e
    exact ⟨v, e'⟩
  · obtain ⟨v, e', -⟩ := h2 a fs e
    obtain ⟨w, hw⟩ := set_self (fs.set 2 v) 3
    exact ⟨v, w, by rw [hw]; exact e'⟩
theorem vK.lt (h : vK V σ) {a : Nat} {c : oC} (e : V.1 a = some c) : a < V.2.1 := by
  by_cases z : a < V.2.1
  · exact z
  · rw [h.2.2.2.1 a (by omega)] at e; cases e
theorem vK.nd (h : vK V σ) {m k : Nat} {fs : List Value} (e : V.1 m = some (.inr (7, fs))) (hk : k ≠ 8) : ofd σ (some m) 7 k = fs[k]? := by
  obtain ⟨v, e'⟩ := h.1 m fs e
  rw [ofd_at e', List.getElem?_set_ne (fun z => hk z.symm)]
theorem vK.n6 (h : vK V σ) {b k : Nat} {fs : List Value} (e : V.1 b = some (.inr (6, fs))) (hk : k ≠ 2) (hk3 : k ≠ 3) : ofd σ (some b) 6 k = fs[k]? := by
  obtain ⟨v, w, e'⟩ := h.2.1 b fs e
  rw [ofd_at e', List.getElem?_set_ne (fun z => hk3 z.symm), List.getElem?_set_ne (fun z => hk z.symm)]
theorem vK.p9 (h : vK V σ) {b k : Nat} {fs : List Value} (e : V.1 b = some (.inr (9, fs))) : ofd σ (some b) 9 k = fs[k]? := by
  rw [ofd_at ((h.2.2.1 b (h.lt e) (fun fs z => by rw [e] at z; cases z) (fun fs z => by rw [e] at z; cases z)).trans e)]
theorem vK.oc {ci : Nat} (h : vK V σ) {m : Nat} {fs : List Value} (e : V.1 m = some (.inr (ci, fs))) : ∃ fs', σ.1 m = some (.inr (ci, fs')) := by
  by_cases c7 : ci = 7
  · subst c7
    obtain ⟨v, e'⟩ := h.1 m fs e
    exact ⟨_, e'⟩
  · by_cases c6 : ci = 6
    · subst c6
      obtain ⟨v, w, e'⟩ := h.2.1 m fs e
      exact ⟨_, e'⟩
    · refine ⟨fs, (h.2.2.1 m (h.lt e) (fun fs' z => ?_) (fun fs' z => ?_)).trans e⟩
      · rw [e] at z; injection z with z; injection z with z; injection z with z; exact c7 z
      · rw [e] at z; injection z with z; injection z with z; injection z with z; exact c6 z
theorem vK.ls (h : vK V σ) (hκ : κ.2.2.1 < V.2.1) {x d cap len ci : Nat} {mc : Int32} {g : Nat → Option Nat} (e : cLs κ V x d cap len mc g ci) : cLs κ σ x d cap len mc g ci := by
  have e' := e
  obtain ⟨e1, e2, e3⟩ := e'
  refine e.keep (h.2.2.1 x (h.lt e1) (fun fs z => by rw [e1] at z; cases z) (fun fs z => by rw [e1] at z; cases z)) ?_ (fun a fs z => h.oc z)
  rcases e2 with ⟨-, -, z1, z2⟩ | ⟨z, -⟩
  · exact h.2.2.1 d (by rw [z1]; exact hκ) (fun fs z => by rw [z2] at z; cases z) (fun fs z => by rw [z2] at z; cases z)
  · exact h.2.2.1 d (h.lt z) (fun fs w => by rw [z] at w; cases w) (fun fs w => by rw [z] at w; cases w)
theorem vK.yF (h : vK V σ) (hy : V.2.1 ≤ y) (hA : ∀ i, i < 6 → V.2.1 ≤ A i) (g : yF y A σ σ') : vK V σ' := by
  have low : ∀ a, a < V.2.1 → σ'.1 a = σ.1 a := fun a ha => g.1 a (by omega) (fun i hi => by have := hA i hi; omega)
  refine ⟨fun a fs e => ?_, fun a fs e => ?_, fun a ha n7 n6 => (low a ha).trans (h.2.2.1 a ha n7 n6), h.2.2.2.1, fun a ha => g.2.2 a (h.2.2.2.2 a (by rw [← g.2.1]; exact ha))⟩
  · obtain ⟨v, e'⟩ := h.1 a fs e
    exact ⟨v, (low a (h.lt e)).trans e'⟩
  · obtain ⟨v, w, e'⟩ := h.2.1 a fs e
    exact ⟨v, w, (low a (h.lt e)).trans e'⟩
theorem vK.put3 (h : vK V σ) {b : Nat} {fs gs : List Value} (e : V.1 b = some (.inr (6, fs))) (e' : σ.1 b = some (.inr (6, gs))) (w : Value) : vK V (oput σ b (.inr (6, gs.set 3 w))) := by
  have at' : (oput σ b (.inr (6, gs.set 3 w))).1 b = some (.inr (6, gs.set 3 w)) := by simp [oput]
  refine ⟨fun a fs' z => ?_, fun a fs' z => ?_, fun a ha n7 n6 => ?_, h.2.2.2.1, fun a ha => ?_⟩
  · have : a ≠ b := fun q => by rw [q, e] at z; cases z
    rw [oput_ne this]
    exact h.1 a fs' z
  · by_cases q : a = b
    · subst q
      obtain ⟨v, w0, e2⟩ := h.2.1 a fs' z
      rw [e'] at e2
      injection e2 with e2; injection e2 with e2; injection e2 with _ e2
      exact ⟨v, w, by rw [at', e2, List.set_set]⟩
    · rw [oput_ne q]
      exact h.2.1 a fs' z
  · have : a ≠ b := fun q => n6 fs (by rw [q]; exact e)
    rw [oput_ne this]
    exact h.2.2.1 a ha n7 n6
  · have : a ≠ b := fun q => by
      have := h.2.2.2.2 a ha
      rw [q, e'] at this; cases this
    rw [oput_ne this]
    exact h.2.2.2.2 a ha
theorem yTf.cg {g : gG} {ρ : Nat → tY} {lv ov : Int32} (h : yTf y A mo g ρ lv ov σ) (hy : σ'.1 y = σ.1 y) (hA : ∀ i, i < 6 → σ'.1 (A i) = σ.1 (A i)) : yTf y A mo g ρ lv ov σ' := by
  obtain ⟨F, ⟨h1, h2, h3⟩, h4⟩ := h
  exact ⟨F, ⟨hy.trans h1, fun i hi => (hA i hi).trans (h2 i hi), h3⟩, h4⟩
end VKK
/-- NAMES have their types -/
def nK (V : oSt) (nm : Nat → Option Nat) (g : gG) (ρ tN : Nat → tY) (σ : oSt) (u : Nat) : Prop := ∃ b fs c gs, nm u = some b ∧ V.1 b = some (.inr (6, fs)) ∧ σ.1 b = some (.inr (6, gs)) ∧ 3 < gs.length ∧ gs[2]? = some (.int (nI c)) ∧ c < g.n ∧ ρ c = tN u
section CFB
variable {κ : oKv} {Tt mo y cnt n p q0 d0 cap e0 : Nat} {A : Nat → Nat} {V : oSt} {nm gg : Nat → Option Nat} {L : List Nat} {pp : Nat → Int32} {mc : Int32} {ps : List Value} {g : gG} {ρ tN : Nat → tY} {lv ov : Int32}
/-- findAll's second loop -/
theorem c_fa2 (hH : wH κ Tt mo y cnt A V nm pp L) (e9 : V.1 p = some (.inr (9, ps))) (h2 : ps[2]? = some (.ref q0)) (h10 : ps[10]? = some (.ref e0)) (l1 : cLs κ V q0 d0 cap L.length mc gg 6) (hgg : ∀ k u, L[k]? = some u → gg k = nm u) (hl2 : L.length ≤ 2000) (hnd : L.Nodup) : ∀ (i k t : Nat) (σ : oSt), k + i = L.length → i < t → vK V σ → yTf y A mo g ρ lv ov σ → (∀ u, u ∈ L → nK V nm g ρ tN σ u) → (∀ j u, j < k → L[j]? = some u → ∃ b, nm u = some b ∧ ofd σ (some b) 6 3 = some (.int (cKd (yK (tN u))))) → ∃ σ', ol_X10_findAll_77 Tt (oF κ Tt (n + 3)) κ t (some y) (some p) (nI k) σ = (ocv (oF κ Tt (n + 3) 161 [va_rf (some y), va_rf (some e0)] σ') fun s13 => some (none, s13)) ∧ vK V σ' ∧ yTf y A mo g ρ lv ov σ' ∧ (∀ u, u ∈ L → nK V nm g ρ tN σ' u) ∧ (∀ u, u ∈ L → ∃ b, nm u = some b ∧ ofd σ' (some b) 6 3 = some (.int (cKd (yK (tN u))))) ∧ (∀ a, (∀ fs, V.1 a ≠ some (.inr (6, fs))) → σ'.1 a = σ.1 a) ∧ σ'.2 = σ.2
  | 0, k, t, σ, hk, ht, h, hy, hn, hb => by
    obtain ⟨t, rfl⟩ : ∃ t', t = t' + 1 := ⟨t - 1, by omega⟩
    have ls := h.ls hH.1.2.2.2.1 l1
    refine ⟨σ, ?_, h, hy, hn, fun u hu => ?_, fun _ _ => rfl, rfl⟩
    · obtain ⟨F, hF, -⟩ := id hy
      rw [ol_X10_findAll_77, h.p9 e9, h2, ovr_rf, obn_at, oob_at ls.1, obn_at, l_sz (n := n + 2) ls, oin_at, if_pos (nI_le (by omega) (by omega)), h.p9 e9, h10, ovr_rf, obn_at, hF.ob, obn_at]
    · obtain ⟨j, hj, e⟩ := List.mem_iff_getElem.mp hu
      exact hb j u (by omega) (by rw [List.getElem?_eq_getElem hj, e])
  | i + 1, k, t, σ, hk, ht, h, hy, hn, hb => by
    obtain ⟨t, rfl⟩ : ∃ t', t = t' + 1 := ⟨t - 1, by omega⟩
    have ls := h.ls hH.1.2.2.2.1 l1
    have hkl : k < L.length := by omega
    have hu : L[k]? = some L[k] := List.getElem?_eq_getElem hkl
    have hm : L[k] ∈ L := List.getElem_mem hkl
    obtain ⟨b, fs, c, gs, e1, e2, e3, e4, e5, e6, e7⟩ := hn _ hm
    have gb : gg k = some b := (hgg k _ hu).trans e1
    have lg : oF κ Tt (n + 3) 234 [va_rf (some q0), .int (nI k)] σ = some (some (va_rf (some b)), σ) := by rw [← gb]; exact l_get (ls.o (by omega)) (by omega)
    have oc : ocs σ (some b) 6 = true := by simp only [ocs, e3]; rfl
    have f2 : ofd σ (some b) 6 2 = some (.int (nI c)) := by rw [ofd_at e3]; exact e5
    have kd := c_kindOf (κ := κ) (T := Tt) (n := n + 1) (by have := hH.1.1; omega) hy e6
    rw [e7] at kd
    have hbV := h.lt e2
    have h1 := h.put3 e2 e3 (.int (cKd (yK (tN L[k]))))
    have at' : (oput σ b (.inr (6, gs.set 3 (.int (cKd (yK (tN L[k]))))))).1 b = some (.inr (6, gs.set 3 (.int (cKd (yK (tN L[k])))))) := by simp [oput]
    have y1 : yTf y A mo g ρ lv ov (oput σ b (.inr (6, gs.set 3 (.int (cKd (yK (tN L[k]))))))) := hy.cg (oput_ne (by have := hH.1.2.1; omega)) (fun i hi => oput_ne (by have := hH.1.2.2.1 i hi; omega))
    obtain ⟨σ', i1, i2, i3, i4, i5, i6, i7⟩ := c_fa2 hH e9 h2 h10 l1 hgg hl2 hnd i (k + 1) t _ (by omega) (by omega) h1 y1 (fun u hu' => by
      obtain ⟨b', fs', c', gs', q1, q2, q3, q4, q5, q6, q7⟩ := hn u hu'
      by_cases z : b' = b
      · have hz : u = L[k] := hH.2.2.2 u hu' _ hm (by rw [q1, e1, z])
        subst z
        rw [e3] at q3
        injection q3 with q3; injection q3 with q3; injection q3 with _ q3
        refine ⟨b', fs', c', _, q1, q2, at', ?_, ?_, q6, q7⟩
        · rw [List.length_set]; exact e4
        · rw [List.getElem?_set_ne (by decide), q3]; exact q5
      · exact ⟨b', fs', c', gs', q1, q2, by rw [oput_ne z]; exact q3, q4, q5, q6, q7⟩) (fun j u hj hju => by
      by_cases z : j = k
      · subst z
        rw [hu] at hju
        injection hju with hju
        subst hju
        refine ⟨b, e1, ?_⟩
        rw [ofd_at at', List.getElem?_set_self e4]
      · obtain ⟨b', q1, q2⟩ := hb j u (by omega) hju
        refine ⟨b', q1, ?_⟩
        have hne : b' ≠ b := fun q => z (by
          have hz : u = L[k] := hH.2.2.2 u (List.mem_of_getElem? hju) _ hm (by rw [q1, e1, q])
          have hjl : j < L.length := by omega
          rw [List.getElem?_eq_getElem hjl] at hju
          injection hju with hju
          exact (List.getElem_inj hnd).mp (hju.trans hz))
        rw [ofd_cg (oput_ne hne)]
        exact q2)
    refine ⟨σ', ?_, i2, i3, i4, i5, fun a ha => ?_, i7⟩
    · obtain ⟨F, hF, -⟩ := id hy
      rw [ol_X10_findAll_77, h.p9 e9, h2, ovr_rf, obn_at, oob_at ls.1, obn_at, l_sz (n := n + 2) ls, oin_at, if_neg (nI_ge (by omega) (by omega)), h.p9 e9, h2, ovr_rf, obn_at, oob_at ls.1, obn_at, lg, orn_at, ogd_at oc, h.p9 e9, h2, ovr_rf, obn_at, oob_at ls.1, obn_at, lg, orn_at, ogd_at oc, f2, ovi_in, obn_at, hF.ob, obn_at, kd, oin_at, opf_at e3 e4, obn_at, nI_p1]
      exact i1
    · rw [i6 a ha, oput_ne (fun z => ha fs (by rw [z]; exact e2))]
end CFB
