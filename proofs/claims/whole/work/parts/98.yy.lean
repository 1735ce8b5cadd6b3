/-! the class's parser over its cells: kind, expect, node -/
/-- the cells that it reads and its lists -/
def cSt (A : Nat → Nat) (D : cDt) (a : Nat) : Prop := a = A 1 ∨ a = A 2 ∨ a = A 3 ∨ a = A 4 ∨ a = A 5 ∨ a = A 6 ∨ a = A 7 ∨ a = A 8 ∨ a = A 9 ∨ a = D.1.1 ∨ a = D.1.2.1
section CPA
variable {κ : oKv} {sz T n len cnt : Nat} {kk pp ee f : Nat → Int32} {A : Nat → Nat} {nq ni : Int32} {rt : Value} {σ σ' : oSt} {D : cDt} {at' cd : Nat} {cn am bd nf ff : Int32} {s : Sum Nat Nat}
theorem cLs.keep {x d cap l ci : Nat} {mc : Int32} {g : Nat → Option Nat} (h : cLs κ σ x d cap l mc g ci) (hx : σ'.1 x = σ.1 x) (hd : σ'.1 d = σ.1 d) (hn : ∀ a fs, σ.1 a = some (.inr (ci, fs)) → ∃ fs', σ'.1 a = some (.inr (ci, fs'))) : cLs κ σ' x d cap l mc g ci := by
  obtain ⟨h1, h2, h3⟩ := h
  refine ⟨hx.trans h1, ?_, fun j hj => ?_⟩
  · rcases h2 with ⟨a1, a2, a3, a4⟩ | ⟨a1, a2⟩
    · exact Or.inl ⟨a1, a2, a3, hd.trans a4⟩
    · exact Or.inr ⟨hd.trans a1, a2⟩
  · obtain ⟨b, fs, e1, e2⟩ := h3 j hj
    obtain ⟨fs', e3⟩ := hn b fs e2
    exact ⟨b, fs', e1, e3⟩
/-- to a state where these cells are the same -/
theorem cG.gen (h : cG κ sz len cnt kk pp ee f A σ D) (hk : ∀ a, cSt A D a → σ'.1 a = σ.1 a) (h6 : ∀ a fs, σ.1 a = some (.inr (6, fs)) → ∃ fs', σ'.1 a = some (.inr (6, fs'))) (h7 : ∀ a fs, σ.1 a = some (.inr (7, fs)) → ∃ fs', σ'.1 a = some (.inr (7, fs'))) (hf : ∀ q, σ'.2.1 ≤ q → σ'.1 q = none) (hl : ∀ q, q < sz → σ'.1 q = none) (hn : σ.2.1 ≤ σ'.2.1) : cG κ sz len cnt kk pp ee f A σ' D := by
  obtain ⟨⟨a1, a2, a3, a4⟩, ⟨b1, b2, b3, b4, b5, b6, b7⟩, c1, ⟨⟨mc, d1⟩, ⟨mc', d2⟩, d3, d4, d5, d6⟩, e1⟩ := h
  refine ⟨⟨hf, hl, by omega, a4⟩, ⟨?_, b2.keep (hk _ (by unfold cSt; simp)) (hk _ (by unfold cSt; simp)), ?_, ?_, ?_, b6, b7⟩, ?_, ⟨⟨mc, d1.keep (hk _ (by unfold cSt; simp)) (hk _ (by unfold cSt; simp)) h6⟩, ⟨mc', d2.keep (hk _ (by unfold cSt; simp)) (hk _ (by unfold cSt; simp)) h7⟩, d3, d4, d5, d6⟩, e1⟩
  · rw [hk (A 1) (by unfold cSt; simp)]; exact b1
  · rw [hk (A 4) (by unfold cSt; simp)]; exact b3
  · rw [hk (A 5) (by unfold cSt; simp)]; exact b4
  · rw [hk (A 6) (by unfold cSt; simp)]; exact b5
  · rw [hk (A 7) (by unfold cSt; simp)]; exact c1
/-- no cell of these is the parser's own object, or a NAME's, or a node -/
theorem cG.nk (h : cG κ sz len cnt kk pp ee f A σ D) {a ci : Nat} {fs : List Value} (ha : cSt A D a) (e : σ.1 a = some (.inr (ci, fs))) (hc : ci = 9 ∨ ci = 6 ∨ ci = 7 ∨ ci = 11) : False := by
  obtain ⟨⟨a1, a2, a3, a4⟩, ⟨b1, b2, b3, b4, b5, b6, b7⟩, c1, ⟨⟨mc, d1⟩, ⟨mc', d2⟩, d3, d4, d5, d6⟩, e1⟩ := h
  unfold cSt at ha
  rcases ha with z | z | z | z | z | z | z | z | z | z | z
  · rw [z, b1] at e; cases e; omega
  · obtain ⟨fs', q⟩ := b2.r
    rw [z, q] at e; cases e; omega
  · rcases b2.v with ⟨fs', q⟩ | ⟨x', q⟩
    · rw [z, q] at e; cases e; omega
    · rw [z, q] at e; cases e
  · rw [z, b3] at e; cases e
  · rw [z, b4] at e; cases e
  · rw [z, b5] at e; cases e
  · rw [z, c1] at e; cases e
  · rw [z, d1.1] at e; cases e; omega
  · rw [z, d2.1] at e; cases e; omega
  · rcases d1.2.1 with ⟨-, -, -, q⟩ | ⟨q, -⟩
    · rw [z, q] at e; cases e
    · rw [z, q] at e; cases e
  · rcases d2.2.1 with ⟨-, -, -, q⟩ | ⟨q, -⟩
    · rw [z, q] at e; cases e
    · rw [z, q] at e; cases e
/-- these cells are not new ones -/
theorem cG.lt (h : cG κ sz len cnt kk pp ee f A σ D) {a : Nat} (ha : cSt A D a) : a < σ.2.1 := by
  have hh := h
  obtain ⟨⟨a1, a2, a3, a4⟩, ⟨b1, b2, b3, b4, b5, b6, b7⟩, c1, ⟨⟨mc, d1⟩, ⟨mc', d2⟩, d3, d4, d5, d6⟩, e1⟩ := h
  unfold cSt at ha
  rcases ha with z | z | z | z | z | z | z | z | z | z | z
  · rw [z]; exact alt a1 b1
  · obtain ⟨fs', q⟩ := b2.r
    rw [z]; exact alt a1 q
  · rcases b2.v with ⟨fs', q⟩ | ⟨x', q⟩
    · rw [z]; exact alt a1 q
    · rw [z]; exact alt a1 q
  · rw [z]; exact alt a1 b3
  · rw [z]; exact alt a1 b4
  · rw [z]; exact alt a1 b5
  · rw [z]; exact alt a1 c1
  · rw [z]; exact alt a1 d1.1
  · rw [z]; exact alt a1 d2.1
  · rcases d1.2.1 with ⟨-, -, q, -⟩ | ⟨q, -⟩
    · rw [z, q]; omega
    · rw [z]; exact alt a1 q
  · rcases d2.2.1 with ⟨-, -, q, -⟩ | ⟨q, -⟩
    · rw [z, q]; omega
    · rw [z]; exact alt a1 q
theorem cV.at (h : cV κ sz len cnt kk pp ee f A nq ni rt σ D at' cd cn am bd nf ff) : pAt σ (A 0) (A 1) (cPs A nq ni rt at' cd cn am bd nf ff) at' bd := ⟨h.2.1, rfl, rfl, rfl, rfl⟩
theorem cV.wd (h : cV κ sz len cnt kk pp ee f A nq ni rt σ D at' cd cn am bd nf ff) : pWd σ (A 1) (len + 1) cnt kk pp ee := by
  obtain ⟨⟨-, ⟨b1, b2, b3, b4, b5, b6, b7⟩, -⟩, -⟩ := h
  exact ⟨A 2, A 4, A 5, A 6, b1, b3, b4, b5, by omega, by omega⟩
/-- the parser's fields changed -/
theorem cV.put (h : cV κ sz len cnt kk pp ee f A nq ni rt σ D at' cd cn am bd nf ff) {at2 cd2 : Nat} {cn2 am2 bd2 nf2 ff2 : Int32} (h1 : at2 ≤ cnt) (h2 : cd2 ≤ 4000) (h3 : at' ≤ at2) : cV κ sz len cnt kk pp ee f A nq ni rt (oput σ (A 0) (.inr (9, cPs A nq ni rt at2 cd2 cn2 am2 bd2 nf2 ff2))) D at2 cd2 cn2 am2 bd2 nf2 ff2 ∧ cFr A σ D (oput σ (A 0) (.inr (9, cPs A nq ni rt at2 cd2 cn2 am2 bd2 nf2 ff2))) D := by
  obtain ⟨hg, h0, h4, h5, h6, h7⟩ := h
  have hlt := alt hg.1.1 h0
  refine ⟨⟨hg.gen (fun a ha => oput_ne (fun e => hg.nk ha (e ▸ h0) (Or.inl rfl))) (fun a fs e => ⟨fs, by rw [oput_ne (fun z => by rw [z, h0] at e; cases e)]; exact e⟩) (fun a fs e => ⟨fs, by rw [oput_ne (fun z => by rw [z, h0] at e; cases e)]; exact e⟩) (fun q hq => by rw [oput_ne (show q ≠ A 0 by have : σ.2.1 ≤ q := hq; omega)]; exact hg.1.1 q hq) (fun q hq => by rw [oput_ne (fun z => by rw [← z, hg.1.2.1 q hq] at h0; cases h0)]; exact hg.1.2.1 q hq) (Nat.le_refl _), oput_eq _ _ _, h1, h2, by omega, by omega⟩, Nat.le_refl _, fun a _ hm => oput_ne (fun e => hm (Or.inl e)), Or.inl rfl, Or.inl rfl⟩
theorem cV.pn (h : cV κ sz len cnt kk pp ee f A nq ni rt σ D at' cd cn am bd nf ff) {j : Nat} (hj : j ≤ cnt) : ∃ a, pp j = nI a ∧ a ≤ 2000 := by
  obtain ⟨⟨-, ⟨-, -, -, -, -, b6, b7⟩, -, -, e1, e2, e3⟩, -⟩ := h
  by_cases c : j < cnt
  · obtain ⟨a, e, q1, q2, q3, q4⟩ := e1 j c
    exact ⟨a, q1, by omega⟩
  · rw [show j = cnt by omega]
    exact ⟨len, e3, b7⟩
theorem cV.pos (h : cV κ sz len cnt kk pp ee f A nq ni rt σ D at' cd cn am bd nf ff) {j : Nat} (hj : j ≤ cnt) : ¬ pp j < 0 ∧ 0 ≤ pp j := by
  obtain ⟨a, e, ha⟩ := h.pn hj
  rw [e]
  exact ⟨nI_pos (by omega), show nI 0 ≤ nI a from nI_le (Nat.zero_le _) (by omega)⟩
/-- kind(): the word's code, 0 at a fault -/
def cK (kk : Nat → Int32) (s : Sum Nat Nat) : Int32 := match s with
  | .inl _ => 0
  | .inr i => kk i
theorem c_kind (h : cV κ sz len cnt kk pp ee f A nq ni rt σ D at' cd cn am bd nf ff) (ho : cO pp cnt at' bd s) (hm : 1 ≤ n) : oF κ T n 104 [va_rf (some (A 0))] σ = some (some (.int (cK kk s)), σ) := by
  obtain ⟨m, rfl⟩ : ∃ m, n = m + 1 := ⟨n - 1, by omega⟩
  rw [p_kind h.at h.wd h.2.2.1]
  cases s with
  | inl j => rw [if_neg (by rw [ho.1]; exact (h.pos ho.2).1)]; rfl
  | inr i => rw [if_pos (by rw [ho.1]; decide), ho.2.1]; rfl
theorem c_here (h : cV κ sz len cnt kk pp ee f A nq ni rt σ D at' cd cn am bd nf ff) (hm : 1 ≤ n) : oF κ T n 106 [va_rf (some (A 0))] σ = some (some (.int (pp at')), σ) := by
  obtain ⟨m, rfl⟩ : ∃ m, n = m + 1 := ⟨n - 1, by omega⟩
  exact p_here h.at h.wd h.2.2.1
/-- next() where a word stands -/
theorem c_next {i : Nat} (h : cV κ sz len cnt kk pp ee f A nq ni rt σ D at' cd cn am bd nf ff) (ho : cO pp cnt at' bd (.inr i)) (hi : i < cnt) (hm : 1 ≤ n) : oF κ T n 105 [va_rf (some (A 0))] σ = some (none, oput σ (A 0) (.inr (9, cPs A nq ni rt (i + 1) cd cn am bd nf ff))) ∧ cV κ sz len cnt kk pp ee f A nq ni rt (oput σ (A 0) (.inr (9, cPs A nq ni rt (i + 1) cd cn am bd nf ff))) D (i + 1) cd cn am bd nf ff ∧ cFr A σ D (oput σ (A 0) (.inr (9, cPs A nq ni rt (i + 1) cd cn am bd nf ff))) D ∧ cO pp cnt (i + 1) bd (.inr (i + 1)) := by
  obtain ⟨m, rfl⟩ : ∃ m, n = m + 1 := ⟨n - 1, by omega⟩
  obtain ⟨o1, o2, o3⟩ := ho
  subst o2
  have hp := h.put (at2 := at' + 1) (cd2 := cd) (cn2 := cn) (am2 := am) (bd2 := bd) (nf2 := nf) (ff2 := ff) (by omega) h.2.2.2.1 (by omega)
  refine ⟨?_, hp.1, hp.2, o1, rfl, by omega⟩
  rw [p_next h.at h.wd h.2.2.1, if_pos hi]
  rfl
/-- fail() -/
theorem c_fail (h : cV κ sz len cnt kk pp ee f A nq ni rt σ D at' cd cn am bd nf ff) (ho : cO pp cnt at' bd s) (hm : 2 ≤ n) : ∃ σ' bd', oF κ T n 107 [va_rf (some (A 0))] σ = some (none, σ') ∧ cV κ sz len cnt kk pp ee f A nq ni rt σ' D at' cd cn am bd' nf ff ∧ cO pp cnt at' bd' (.inl (aWr s)) ∧ cFr A σ D σ' D ∧ σ'.2 = σ.2 ∧ (∀ a, a ≠ A 0 → σ'.1 a = σ.1 a) := by
  obtain ⟨m, rfl⟩ : ∃ m, n = m + 2 := ⟨n - 2, by omega⟩
  rw [p_fail h.at h.wd h.2.2.1]
  cases s with
  | inl j =>
    rw [if_pos (by rw [ho.1]; exact (h.pos ho.2).2)]
    exact ⟨σ, bd, rfl, h, ho, cFr.rf _ _ _, rfl, fun _ _ => rfl⟩
  | inr i =>
    obtain ⟨o1, o2, o3⟩ := ho
    rw [if_neg (by rw [o1]; decide)]
    have hp := h.put (at2 := at') (cd2 := cd) (cn2 := cn) (am2 := am) (bd2 := pp at') (nf2 := nf) (ff2 := ff) h.2.2.1 h.2.2.2.1 (Nat.le_refl _)
    refine ⟨_, pp at', rfl, hp.1, ⟨by rw [o2]; rfl, o3⟩, hp.2, rfl, fun a ha => oput_ne ha⟩
/-- expect(k) -/
theorem c_expect {k : Nat} (h : cV κ sz len cnt kk pp ee f A nq ni rt σ D at' cd cn am bd nf ff) (ho : cO pp cnt at' bd s) (hk : 0 < k ∧ k < 400) (hm : 3 ≤ n) : ∃ σ' at2 bd', oF κ T n 108 [va_rf (some (A 0)), .int (nI k)] σ = some (none, σ') ∧ cV κ sz len cnt kk pp ee f A nq ni rt σ' D at2 cd cn am bd' nf ff ∧ cO pp cnt at2 bd' (aTo s (aMs kk k)) ∧ cFr A σ D σ' D ∧ σ'.2 = σ.2 ∧ (∀ a, a ≠ A 0 → σ'.1 a = σ.1 a) ∧ at' ≤ at2 := by
  obtain ⟨m, rfl⟩ : ∃ m, n = m + 1 := ⟨n - 1, by omega⟩
  rw [oE_X7_expect]
  unfold ob_X7_expect
  rw [oob_at h.2.1, obn_at, c_kind (n := m) h ho (by omega), oin_at]
  obtain ⟨σ1, bd1, f1, f2, f3, f4, f5, f6⟩ := c_fail (κ := κ) (T := T) (n := m) h ho (by omega)
  cases s with
  | inl j =>
    rw [if_neg (show ¬ cK kk (.inl j) = nI k from fun e => by have := nI_inj' (a := 0) (by omega) (by omega) (show nI 0 = nI k from e); omega), oob_at h.2.1, obn_at, f1, ocv_at]
    exact ⟨σ1, at', bd1, rfl, f2, f3, f4, f5, f6, Nat.le_refl _⟩
  | inr i =>
    by_cases c : kk i = nI k
    · have hi : i < cnt := by
        by_cases q : i < cnt
        · exact q
        · have : i = cnt := by have := ho.2.2; omega
          rw [this, h.1.2.2.2.2.2.1] at c
          have := nI_inj' (a := 0) (by omega) (by omega) c
          omega
      obtain ⟨g1, g2, g3, g4⟩ := c_next (κ := κ) (T := T) (n := m) h ho hi (by omega)
      rw [if_pos (show cK kk (.inr i) = nI k from c), oob_at h.2.1, obn_at, g1, ocv_at]
      refine ⟨_, i + 1, bd, rfl, g2, ?_, g3, rfl, fun a ha => oput_ne ha, by have := ho.2.1; omega⟩
      rw [aTo_ok]
      unfold aMs aIs
      rw [if_pos (decide_eq_true c)]
      exact g4
    · rw [if_neg (show ¬ cK kk (.inr i) = nI k from c), oob_at h.2.1, obn_at, f1, ocv_at]
      refine ⟨σ1, at', bd1, rfl, f2, ?_, f4, f5, f6, Nat.le_refl _⟩
      rw [aTo_ok]
      unfold aMs aIs
      rw [if_neg (fun e => c (of_decide_eq_true e))]
      exact f3
/-- a new node's fields -/
def cNd (k pl cd : Int32) : List Value := [.int k, .int pl, .int cd, .int pl, .int 0, .int 0, .int 0, .int 0, .int 0, .null, .null, .null, .null, .null, .null, .null, .null, .null, .null, .null, .null]
theorem odef_7 : odef 7 = [.int 0, .int 0, .int 0, .int 0, .int 0, .int 0, .int 0, .int 0, .int 0, .null, .null, .null, .null, .null, .null, .null, .null, .null, .null, .null, .null] := by decide +kernel
theorem oq_7 : (oq 7).2.2 = 21 := by decide +kernel
/-- a new cell and the parser's state -/
theorem cV.nw (h : cV κ sz len cnt kk pp ee f A nq ni rt σ D at' cd cn am bd nf ff) (c : oC) (k : Nat) : cV κ sz len cnt kk pp ee f A nq ni rt (onew σ c k) D at' cd cn am bd nf ff ∧ cFr A σ D (onew σ c k) D := by
  obtain ⟨hg, h0, h4, h5, h6⟩ := h
  have hlt := alt hg.1.1 h0
  refine ⟨⟨hg.gen (fun a ha => onew_ne (by have := hg.lt ha; omega)) (fun a fs e => ⟨fs, by rw [onew_ne (by have := alt hg.1.1 e; omega)]; exact e⟩) (fun a fs e => ⟨fs, by rw [onew_ne (by have := alt hg.1.1 e; omega)]; exact e⟩) (fun q hq => by have hq' : σ.2.1 + 1 ≤ q := hq; rw [onew_ne (by omega)]; exact hg.1.1 q (by omega)) (fun q hq => by have := hg.1.2.2.1; rw [onew_ne (by omega)]; exact hg.1.2.1 q hq) (Nat.le_succ _), by rw [onew_ne (by omega)]; exact h0, h4, h5, h6⟩, Nat.le_succ _, fun a ha _ => onew_ne (by omega), Or.inl rfl, Or.inl rfl⟩
/-- node(k) -/
theorem c_node {k : Int32} (h : cV κ sz len cnt kk pp ee f A nq ni rt σ D at' cd cn am bd nf ff) (hm : 2 ≤ n) : oF κ T n 118 [va_rf (some (A 0)), .int k] σ = some (some (va_rf (some σ.2.1)), onew σ (.inr (7, cNd k (pp at') (nI cd))) 21) ∧ cV κ sz len cnt kk pp ee f A nq ni rt (onew σ (.inr (7, cNd k (pp at') (nI cd))) 21) D at' cd cn am bd nf ff ∧ cFr A σ D (onew σ (.inr (7, cNd k (pp at') (nI cd))) 21) D := by
  obtain ⟨m, rfl⟩ : ∃ m, n = m + 2 := ⟨n - 2, by omega⟩
  refine ⟨?_, h.nw _ _⟩
  obtain ⟨g1, -⟩ := h.nw (.inr (7, odef 7)) 21
  rw [oE_X7_node]
  unfold ob_X7_node
  have f12 : ofd (onew σ (.inr (7, odef 7)) 21) (some (A 0)) 9 12 = some (.int (nI cd)) := by rw [ofd_at g1.2.1]; rfl
  rw [oq_7, olet_at, oob_at g1.2.1, obn_at, c_here (n := m + 1) g1 (by omega), oin_at, f12]
  simp only [ovi, obn]
  have e0 : (onew σ (.inr (7, odef 7)) 21).1 σ.2.1 = some (.inr (7, odef 7)) := onew_eq _ _ _
  rw [oE_X5_init]
  unfold ob_X5_init
  rw [odef_7] at e0 ⊢
  have p1 : opf (onew σ (.inr (7, [.int 0, .int 0, .int 0, .int 0, .int 0, .int 0, .int 0, .int 0, .int 0, .null, .null, .null, .null, .null, .null, .null, .null, .null, .null, .null, .null])) 21) (some σ.2.1) 7 0 (.int k) = some (onew σ (.inr (7, [.int k, .int 0, .int 0, .int 0, .int 0, .int 0, .int 0, .int 0, .int 0, .null, .null, .null, .null, .null, .null, .null, .null, .null, .null, .null, .null])) 21) := by rw [opf_at e0 (show 0 < 21 by decide), onew_put]; rfl
  rw [obn_at, p1, obn_at]
  have p2 : opf (onew σ (.inr (7, [.int k, .int 0, .int 0, .int 0, .int 0, .int 0, .int 0, .int 0, .int 0, .null, .null, .null, .null, .null, .null, .null, .null, .null, .null, .null, .null])) 21) (some σ.2.1) 7 1 (.int (pp at')) = some (onew σ (.inr (7, [.int k, .int (pp at'), .int 0, .int 0, .int 0, .int 0, .int 0, .int 0, .int 0, .null, .null, .null, .null, .null, .null, .null, .null, .null, .null, .null, .null])) 21) := by rw [opf_at (onew_eq _ _ _) (show 1 < 21 by decide), onew_put]; rfl
  rw [p2, obn_at]
  have p3 : opf (onew σ (.inr (7, [.int k, .int (pp at'), .int 0, .int 0, .int 0, .int 0, .int 0, .int 0, .int 0, .null, .null, .null, .null, .null, .null, .null, .null, .null, .null, .null, .null])) 21) (some σ.2.1) 7 2 (.int (nI cd)) = some (onew σ (.inr (7, [.int k, .int (pp at'), .int (nI cd), .int 0, .int 0, .int 0, .int 0, .int 0, .int 0, .null, .null, .null, .null, .null, .null, .null, .null, .null, .null, .null, .null])) 21) := by rw [opf_at (onew_eq _ _ _) (show 2 < 21 by decide), onew_put]; rfl
  rw [p3, obn_at]
  have p4 : opf (onew σ (.inr (7, [.int k, .int (pp at'), .int (nI cd), .int 0, .int 0, .int 0, .int 0, .int 0, .int 0, .null, .null, .null, .null, .null, .null, .null, .null, .null, .null, .null, .null])) 21) (some σ.2.1) 7 3 (.int (pp at')) = some (onew σ (.inr (7, cNd k (pp at') (nI cd))) 21) := by rw [opf_at (onew_eq _ _ _) (show 3 < 21 by decide), onew_put]; rfl
  rw [p4, obn_at, ocv_at]
end CPA
