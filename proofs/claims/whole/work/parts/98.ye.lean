/-! nodes, S, PARTS and ARGS are no more than words; within() -/
/-- from word i with X to s' with X': no more than words gone past, and c more at a fault -/
def aAk (cnt c X i X' : Nat) (s' : Sum Nat Nat) : Prop := X ≤ X' ∧ X' + i ≤ X + aPo cnt s' + bz s' c
def aA4 (cnt z c N S P A i N' S' P' A' : Nat) (s' : Sum Nat Nat) : Prop := aAk cnt z N i N' s' ∧ aAk cnt c S i S' s' ∧ aAk cnt 0 P i P' s' ∧ aAk cnt 0 A i A' s'
/-- behind the reading F of an E from s -/
def rPe (T len cnt : Nat) (kk pp ee f : Nat → Int32) (d C : Nat) (τ : zSt) (N S P A : Nat) (s : Sum Nat Nat) (F : Nat → aR tT) (z : Nat) (v : Int32) (τ' : zSt) : Prop := ∃ N' S' P' A' x, rR T len cnt kk pp ee f d τ' N' S' P' A' C (aTo s F) ∧ rAg N S P A C τ τ' ∧ (∀ i, s = .inr i → aA4 cnt z 5 N S P A i N' S' P' A' (aTo s F)) ∧ (∀ j, s = .inl j → N' = N ∧ S' = S ∧ P' = P ∧ A' = A) ∧ (v = nI x ∧ x < 2100) ∧ (∀ i t j, s = .inr i → F i = .inr (t, j) → i < j ∧ (N ≤ x ∧ x < N') ∧ rTr pp τ' N N' S' P' A' t 0 0 x)
def rE4 (N S P A : Nat) (s : Sum Nat Nat) : Prop := ∀ i, s = .inr i → N ≤ i ∧ S ≤ i ∧ P ≤ i ∧ A ≤ i
theorem bz0 (s : Sum Nat Nat) : bz s 0 = 0 := by cases s <;> rfl
theorem aAk.st {cnt c X i X' : Nat} {s s' : Sum Nat Nat} (h : aAk cnt c X i X' s) (h1 : aPo cnt s ≤ aPo cnt s') (h2 : bz s c ≤ bz s' c) : aAk cnt c X i X' s' := ⟨h.1, by have := h.2; omega⟩
theorem aA4.st {cnt z c N S P A i N' S' P' A' : Nat} {s s' : Sum Nat Nat} (h : aA4 cnt z c N S P A i N' S' P' A' s) (h1 : aPo cnt s ≤ aPo cnt s') (h2 : ∀ z, bz s z ≤ bz s' z) : aA4 cnt z c N S P A i N' S' P' A' s' := ⟨h.1.st h1 (h2 _), h.2.1.st h1 (h2 _), h.2.2.1.st h1 (h2 _), h.2.2.2.st h1 (h2 _)⟩
theorem aAk.mo {cnt c c' X i X' : Nat} {s : Sum Nat Nat} (h : aAk cnt c X i X' s) (hc : c ≤ c') : aAk cnt c' X i X' s := ⟨h.1, by have := h.2; have := bz_mo s hc; omega⟩
theorem aA4.mo {cnt z c z' c' N S P A i N' S' P' A' : Nat} {s : Sum Nat Nat} (h : aA4 cnt z c N S P A i N' S' P' A' s) (hz : z ≤ z') (hc : c ≤ c') : aA4 cnt z' c' N S P A i N' S' P' A' s := ⟨h.1.mo hz, h.2.1.mo hc, h.2.2.1, h.2.2.2⟩
theorem aA4.ms {T len cnt d k C z c N S P A i N' S' P' A' N0 S0 P0 A0 : Nat} {kk pp ee f : Nat → Int32} {τ : zSt} {s : Sum Nat Nat} (h : aA4 cnt z c N S P A i N' S' P' A' s) (hr : rR T len cnt kk pp ee f d τ N0 S0 P0 A0 C (aTo s (aMs kk k))) : aA4 cnt z c N S P A i N' S' P' A' (aTo s (aMs kk k)) := h.st (aMs_po hr) (fun z => bz_to _ _ _)
/-- one S more -/
theorem aA4.sm {T cnt z c N S P A i N' S' P' A' P'' : Nat} {kk : Nat → Int32} {s : Sum Nat Nat} (h : aA4 cnt z c N S P A i N' S' P' A' s) (hp : aPo cnt s ≤ cnt) (h1 : P' ≤ P'') (h2 : P'' + aPo cnt s ≤ P' + aPo cnt (aTo s (aSm kk T))) : aA4 cnt z (c + 1) N S P A i N' (S' + 1) P'' A' (aTo s (aSm kk T)) := by
  obtain ⟨⟨a1, a2⟩, ⟨b1, b2⟩, ⟨c1, c2⟩, d1, d2⟩ := h
  rw [bz0] at c2 d2
  cases s with
  | inl j => exact ⟨⟨a1, a2⟩, ⟨by omega, by show S' + 1 + i ≤ S + cnt + (c + 1); have : S' + i ≤ S + cnt + c := b2; omega⟩, ⟨by omega, by show P'' + i ≤ P + cnt + 0; have : P'' + cnt ≤ P' + cnt := h2; have : P' + i ≤ P + cnt + 0 := c2; omega⟩, ⟨d1, by show A' + i ≤ A + cnt + 0; exact d2⟩⟩
  | inr q =>
    have a2' : N' + i ≤ N + q + 0 := a2
    have b2' : S' + i ≤ S + q + 0 := b2
    have c2' : P' + i ≤ P + q + 0 := c2
    have d2' : A' + i ≤ A + q + 0 := d2
    have hq : q ≤ cnt := hp
    rw [aTo_ok] at h2 ⊢
    cases e : aSm kk T q with
    | inl j =>
      rw [e] at h2
      have h2' : P'' + q ≤ P' + cnt := h2
      refine ⟨⟨a1, ?_⟩, ⟨by omega, ?_⟩, ⟨by omega, ?_⟩, ⟨d1, ?_⟩⟩
      · show N' + i ≤ N + cnt + z; omega
      · show S' + 1 + i ≤ S + cnt + (c + 1); omega
      · show P'' + i ≤ P + cnt + 0; omega
      · show A' + i ≤ A + cnt + 0; omega
    | inr r =>
      obtain ⟨t, j⟩ := r
      have := (aSm_w e).2.1
      rw [e] at h2
      have h2' : P'' + q ≤ P' + j := h2
      refine ⟨⟨a1, ?_⟩, ⟨by omega, ?_⟩, ⟨by omega, ?_⟩, ⟨d1, ?_⟩⟩
      · show N' + i ≤ N + j + 0; omega
      · show S' + 1 + i ≤ S + j + 0; omega
      · show P'' + i ≤ P + j + 0; omega
      · show A' + i ≤ A + j + 0; omega
/-- one reading more, of another kind -/
theorem aAk.tr {cnt c c2 X i X' X'' : Nat} {s s' : Sum Nat Nat} (h : aAk cnt c X i X' s) (h1 : ∀ q, s = .inr q → aAk cnt c2 X' q X'' s') (h2 : ∀ j, s = .inl j → X'' = X' ∧ s' = .inl j) (hc : c2 ≤ c) : aAk cnt c X i X'' s' := by
  cases s with
  | inl j =>
    obtain ⟨rfl, rfl⟩ := h2 j rfl
    exact h
  | inr q =>
    obtain ⟨a1, a2⟩ := h1 q rfl
    obtain ⟨b1, b2⟩ := h
    have b2' : X' + i ≤ X + q + 0 := b2
    have := bz_mo s' hc
    exact ⟨by omega, by omega⟩
theorem aA4.en {cnt z c N S P A i N' S' P' A' : Nat} {s : Sum Nat Nat} (h : aA4 cnt z c N S P A i N' S' P' A' s) (hE : N ≤ i ∧ S ≤ i ∧ P ≤ i ∧ A ≤ i) : rE4 N' S' P' A' s := fun q e => by
  subst e
  obtain ⟨⟨a1, a2⟩, ⟨b1, b2⟩, ⟨c1, c2⟩, d1, d2⟩ := h
  have a2' : N' + i ≤ N + q + 0 := a2
  have b2' : S' + i ≤ S + q + 0 := b2
  have c2' : P' + i ≤ P + q + 0 := c2
  have d2' : A' + i ≤ A + q + 0 := d2
  omega
theorem aA4.bd {cnt z c N S P A i N' S' P' A' : Nat} {s : Sum Nat Nat} (h : aA4 cnt z c N S P A i N' S' P' A' s) (hE : N ≤ i ∧ S ≤ i ∧ P ≤ i ∧ A ≤ i) (hp : aPo cnt s ≤ cnt) : N' ≤ cnt + z ∧ S' ≤ cnt + c ∧ P' ≤ aPo cnt s ∧ A' ≤ aPo cnt s := by
  obtain ⟨⟨a1, a2⟩, ⟨b1, b2⟩, ⟨c1, c2⟩, d1, d2⟩ := h
  rw [bz0] at c2 d2
  have := bz_le s z
  have := bz_le s c
  omega
section RWI
variable {κ : oKv} {ks : Nat → Nat} {qs : List Nat} {T m h0 len cnt sz d N S P A C z : Nat} {τ : zSt} {s : Sum Nat Nat} {kk pp ee f : Nat → Int32}
/-- the next word and a node for it -/
theorem aA4.nd {cnt z c N S P A i : Nat} : aA4 cnt z c N S P A i (N + 1) S P A (.inr (i + 1)) := ⟨⟨by omega, by show N + 1 + i ≤ N + (i + 1) + 0; omega⟩, ⟨by omega, by show S + i ≤ S + (i + 1) + 0; omega⟩, ⟨by omega, by show P + i ≤ P + (i + 1) + 0; omega⟩, ⟨by omega, by show A + i ≤ A + (i + 1) + 0; omega⟩⟩
theorem aA4.wi {F : Nat → aR tT} {τ1 τ2 : zSt} {v : Int32} {z2 c i N1 S1 P1 A1 : Nat} (h : aA4 cnt z c N S P A i N1 S1 P1 A1 s) (hw : rPe T len cnt kk pp ee f d C τ1 N1 S1 P1 A1 s F z2 v τ2) (hz : z2 ≤ z) (hc : 5 ≤ c) : ∃ N' S' P' A' x, (rR T len cnt kk pp ee f d τ2 N' S' P' A' C (aTo s F) ∧ rAg N1 S1 P1 A1 C τ1 τ2) ∧ aA4 cnt z c N S P A i N' S' P' A' (aTo s F) ∧ (N1 ≤ N' ∧ S1 ≤ S' ∧ P1 ≤ P' ∧ A1 ≤ A') ∧ (v = nI x ∧ x < 2100) ∧ (∀ i t j, s = .inr i → F i = .inr (t, j) → i < j ∧ (N1 ≤ x ∧ x < N') ∧ rTr pp τ2 N1 N' S' P' A' t 0 0 x) := by
  obtain ⟨N', S', P', A', x, h1, h2, h3, h4, h5, h6⟩ := hw
  refine ⟨N', S', P', A', x, ⟨h1, h2⟩, ⟨?_, ?_, ?_, ?_⟩, ?_, h5, h6⟩
  · exact h.1.tr (fun q e => (h3 q e).1) (fun j e => ⟨(h4 j e).1, by rw [e]; rfl⟩) hz
  · exact h.2.1.tr (fun q e => (h3 q e).2.1) (fun j e => ⟨(h4 j e).2.1, by rw [e]; rfl⟩) hc
  · exact h.2.2.1.tr (fun q e => (h3 q e).2.2.1) (fun j e => ⟨(h4 j e).2.2.1, by rw [e]; rfl⟩) (Nat.le_refl _)
  · exact h.2.2.2.tr (fun q e => (h3 q e).2.2.2) (fun j e => ⟨(h4 j e).2.2.2, by rw [e]; rfl⟩) (Nat.le_refl _)
  · cases s with
    | inl j =>
      obtain ⟨rfl, rfl, rfl, rfl⟩ := h4 j rfl
      exact ⟨(Nat.le_refl _), (Nat.le_refl _), (Nat.le_refl _), (Nat.le_refl _)⟩
    | inr q =>
      have := h3 q rfl
      exact ⟨this.1.1, this.2.1.1, this.2.2.1.1, this.2.2.2.1⟩
theorem aA4.co {F : Nat → aR tT} {τ1 τ2 : zSt} {v : Int32} {z2 c i N1 S1 P1 : Nat} (h : aA4 cnt z c N S P A i N1 S1 P1 A s) (hw : rPc T len cnt kk pp ee f d A C τ1 N1 S1 P1 s F z2 v τ2) (hz : z2 ≤ z) (hc : 2 ≤ c) : ∃ N' S' P' x, (rR T len cnt kk pp ee f d τ2 N' S' P' A C (aTo s F) ∧ rAg N1 S1 P1 A C τ1 τ2) ∧ aA4 cnt z c N S P A i N' S' P' A (aTo s F) ∧ (N1 ≤ N' ∧ S1 ≤ S' ∧ P1 ≤ P') ∧ (v = nI x ∧ x < 2100) ∧ (∀ i t j, s = .inr i → F i = .inr (t, j) → i < j ∧ (N1 ≤ x ∧ x < N') ∧ rTr pp τ2 N1 N' S' P' A t 0 0 x) := by
  obtain ⟨N', S', P', x, h1, h2, h3, ⟨h4a, h4b, h4c⟩, h5, h6, h7⟩ := hw
  refine ⟨N', S', P', x, ⟨h1, h2⟩, ⟨?_, ?_, ?_, ?_⟩, h3, h6, h7⟩
  · exact h.1.tr (c2 := z2) (fun q e => by subst e; exact ⟨h3.1, h4a⟩) (fun j e => ⟨(h5 j e).1, by rw [e]; rfl⟩) hz
  · exact h.2.1.tr (c2 := 2) (fun q e => by subst e; exact ⟨h3.2.1, h4b⟩) (fun j e => ⟨(h5 j e).2.1, by rw [e]; rfl⟩) hc
  · exact h.2.2.1.tr (c2 := 0) (fun q e => by subst e; exact ⟨h3.2.2, by rw [bz0]; exact h4c⟩) (fun j e => ⟨(h5 j e).2.2, by rw [e]; rfl⟩) (Nat.le_refl _)
  · refine h.2.2.2.tr (c2 := 0) (fun q e => ?_) (fun j e => ⟨rfl, by rw [e]; rfl⟩) (Nat.le_refl _)
    subst e
    refine ⟨(Nat.le_refl _), ?_⟩
    have hq : P1 + q ≤ P1 + aPo cnt (aTo (.inr q) F) := by have : P' + q ≤ P1 + aPo cnt (aTo (.inr q) F) := h4c; have := h3.2.2; omega
    rw [bz0]; omega
/-- an E that is not begun -/
theorem rPe.b {j : Nat} {F : Nat → aR tT} (h : rR T len cnt kk pp ee f d τ N S P A C (.inl j)) : rPe T len cnt kk pp ee f d C τ N S P A (.inl j) F z 0 τ :=
  ⟨N, S, P, A, 0, h, rAg.rf τ, fun i e => (by cases e), fun _ _ => ⟨rfl, rfl, rfl, rfl⟩, ⟨rfl, by decide⟩, fun i t j e => by cases e⟩
theorem q_exprB {j : Nat} (h : rR T len cnt kk pp ee f d τ N S P A C (.inl j)) (hm : 3 ≤ m) : zF h0 qs ks T m 26 [.ref h0] τ = some (some (.int 0), τ) := by
  obtain ⟨n, rfl⟩ : ∃ n, m = n + 1 := ⟨m - 1, by omega⟩
  obtain ⟨w, w1, w2⟩ := h.wd
  have hcn := h.1.cn
  have e : j_expression_13 T (zF h0 qs ks T n) h0 qs ks τ = some (some (.int 0), τ) := by
    unfold j_expression_13
    rw [if_neg (show ¬ τ.1 11 = 0 by rw [h.2.2.1]; decide)]
  rw [zE_expression]
  unfold b_expression
  obtain ⟨n', rfl⟩ : ∃ n', n = n' + 2 := ⟨n - 2, by omega⟩
  rw [r_form (by omega) w2, rFl_bad h]
  simp only [zcv, e, ite_self]
/-- within(): an E one level deeper -/
theorem q_within {k : Nat} (hd : d + k = 30) (hm : 10 + 4 * k ≤ m) (h : rR T len cnt kk pp ee f d τ N S P A C s) (hE : rE4 N S P A s)
    (IH : ∀ k', k = k' + 1 → ∀ (s : Sum Nat Nat) (τ : zSt) (N S P A m : Nat), 13 + 4 * k' ≤ m → rR T len cnt kk pp ee f (d + 1) τ N S P A C s → rE4 N S P A s → ∃ v τ', zF h0 qs ks T m 26 [.ref h0] τ = some (some (.int v), τ') ∧ rPe T len cnt kk pp ee f (d + 1) C τ N S P A s (aE kk T (k' + 1)) (1 + k') v τ') :
    ∃ v τ', zF h0 qs ks T m 29 [.ref h0] τ = some (some (.int v), τ') ∧ rPe T len cnt kk pp ee f d C τ N S P A s (aE kk T k) k v τ' := by
  obtain ⟨n, rfl⟩ : ∃ n, m = n + 1 := ⟨m - 1, by omega⟩
  have w33 : τ.1 33 = nI d := h.2.1.1
  rw [zE_within]
  unfold b_within
  simp only [zlet, w33, nI_1]
  have h1 := h.dp (d + 1)
  have a1 : rAg N S P A C τ (zI τ 33 (nI (d + 1))) := (rAg.rf τ).i (by omega)
  have v33 : (zI τ 33 (nI (d + 1))).1 33 = nI (d + 1) := zIe _ _ _
  generalize zI τ 33 (nI (d + 1)) = τ1 at h1 a1 v33 ⊢
  -- the E
  have M : ∃ v τ2, zF h0 qs ks T n 26 [.ref h0] τ1 = some (some (.int v), τ2) ∧ rPe T len cnt kk pp ee f (d + 1) C τ1 N S P A s (aE kk T k) k v τ2 := by
    cases s with
    | inl j => exact ⟨0, τ1, q_exprB (h0 := h0) (qs := qs) (ks := ks) h1 (by omega), rPe.b h1⟩
    | inr i =>
      by_cases c : k = 0
      · subst c
        obtain ⟨n', rfl⟩ : ∃ n', n = n' + 1 := ⟨n - 1, by omega⟩
        obtain ⟨τ2, f1, f2, f3⟩ := q_form (h0 := h0) (qs := qs) (ks := ks) (m := n') h1 (by omega)
        rw [zE_expression]
        unfold b_expression
        rw [v33, if_neg (show ¬ nI (d + 1) ≤ 30 from show ¬ nI (d + 1) ≤ nI 30 from nI_ge (by omega) (by omega)), f1]
        simp only [zcv]
        unfold j_expression_13
        rw [if_neg (show ¬ τ2.1 11 = 0 by rw [f2.2.2.1]; decide)]
        refine ⟨0, τ2, rfl, N, S, P, A, 0, f2, f3, fun i' e => ?_, fun j e => (by cases e), ⟨rfl, by decide⟩, fun i' t j e e' => by cases e'⟩
        cases e
        have hi := h1.2.2.2.2
        refine ⟨⟨(Nat.le_refl _), ?_⟩, ⟨(Nat.le_refl _), ?_⟩, ⟨(Nat.le_refl _), ?_⟩, (Nat.le_refl _), ?_⟩
        · show N + i ≤ N + cnt + 0; omega
        · show S + i ≤ S + cnt + 5; omega
        · show P + i ≤ P + cnt + 0; omega
        · show A + i ≤ A + cnt + 0; omega
      · obtain ⟨k', rfl⟩ : ∃ k', k = k' + 1 := ⟨k - 1, by omega⟩
        obtain ⟨v, τ2, e1, e2⟩ := IH k' rfl (.inr i) τ1 N S P A n (by omega) h1 hE
        refine ⟨v, τ2, e1, ?_⟩
        rw [Nat.add_comm k' 1]
        rw [Nat.add_comm k' 1] at e2
        exact e2
  obtain ⟨v, τ2, e1, N', S', P', A', x, o1, o2, o3, o4, o5, o6⟩ := M
  rw [e1]
  have w2 : τ2.1 33 = nI (d + 1) := o1.2.1.1
  simp only [zci, w2]
  rw [nI_pred]
  have a2 : rAg N' S' P' A' C τ2 (zI τ2 33 (nI d)) := (rAg.rf τ2).i (by omega)
  refine ⟨v, _, rfl, N', S', P', A', x, o1.dp d, ?_, o3, o4, o5, fun i t j e e' => ?_⟩
  · exact (a1.tr o2 (Nat.le_refl _) (Nat.le_refl _) (Nat.le_refl _) (Nat.le_refl _) (Nat.le_refl _)).i (by omega)
  · obtain ⟨l1, l2, l3⟩ := o6 i t j e e'
    exact ⟨l1, l2, rTr.keep (a2.at N) (Nat.le_refl _) (Nat.le_refl _) (Nat.le_refl _) (Nat.le_refl _) (Nat.le_refl _) _ _ _ _ l3⟩
end RWI
