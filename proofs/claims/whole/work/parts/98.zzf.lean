/-! the class's parser: tell, count over NAMES; tellParameter -/
section CQP
variable {κ : oKv} {sz T n m len cnt : Nat} {kk pp ee f : Nat → Int32} {A : Nat → Nat} {nq ni : Int32} {rt : Value} {σ σ' : oSt} {D D' : cDt} {at' cd : Nat} {cn am bd nf ff : Int32} {s : Sum Nat Nat} {nm : Nat → Option Nat} {ν : nSt} {lo i : Nat}
/-- NAMES' objects and texts are kept -/
theorem cV.ty (h : cV κ sz len cnt kk pp ee f A nq ni rt σ D at' cd cn am bd nf ff) (hr : cFr A σ D σ' D') : ∀ a c, σ.1 a = some c → cTy c → σ'.1 a = some c := fun a c ea hc => by
  rw [hr.2.1 a (alt h.1.1.1 ea) (fun hm => ?_)]
  · exact ea
  · obtain ⟨⟨-, -, c1, ⟨⟨mc, d1⟩, ⟨mc', d2⟩, -⟩, -⟩, h0, -⟩ := h
    unfold cMu at hm
    rcases hm with z | z | z | z | z | z
    · rw [z, h0] at ea; injection ea with ea; rw [← ea] at hc; exact hc.n9
    · rw [z, c1] at ea; injection ea with ea; rw [← ea] at hc; exact hc.no
    · rw [z, d1.1] at ea; injection ea with ea; rw [← ea] at hc; exact hc.n1
    · rw [z, d2.1] at ea; injection ea with ea; rw [← ea] at hc; exact hc.n1
    · rcases d1.2.1 with ⟨-, -, -, q⟩ | ⟨q, -⟩
      · rw [z, q] at ea; cases ea
      · rw [z, q] at ea; injection ea with ea; rw [← ea] at hc; exact hc.no
    · rcases d2.2.1 with ⟨-, -, -, q⟩ | ⟨q, -⟩
      · rw [z, q] at ea; cases ea
      · rw [z, q] at ea; injection ea with ea; rw [← ea] at hc; exact hc.no
/-- told NAMES' objects are there -/
theorem cQn.ob (h : cV κ sz len cnt kk pp ee f A nq ni rt σ D at' cd cn am bd nf ff) (hq : cQn pp ee f σ D nm ν cd nf i) {u : Nat} (hu : u ∈ ν.2.1) : ∃ b, nm u = some b ∧ b < σ.2.1 := by
  obtain ⟨k, hk⟩ := List.getElem?_of_mem hu
  have e := hq.1.2.2.1.2 k u hk
  obtain ⟨mc, d1⟩ := h.1.2.2.2.1.1
  have hkl : k < D.1.2.2.2.2.1 := by
    rw [← hq.1.2.2.1.1]
    by_cases c : k < ν.2.1.length
    · exact c
    · rw [List.getElem?_eq_none (by omega)] at hk; cases hk
  obtain ⟨b, fs, e1, e2⟩ := d1.2.2 k hkl
  exact ⟨b, by rw [← e]; exact e1, alt h.1.1.1 e2⟩
theorem nPut_lt {b u : Nat} (h : u < i) : nPut nm i b u = nm u := if_neg (by omega)
theorem nPut_eq {b : Nat} : nPut nm i b i = some b := if_pos rfl
/-- tell over NAMES in one word -/
theorem c_tellQ (h : cV κ sz len cnt kk pp ee f A nq ni rt σ D at' cd cn am bd nf ff) (ho : cO pp cnt at' bd s) (hn : ∀ i, s = .inr i → cQn pp ee f σ D nm ν cd nf i) (hm : 9 ≤ n) (hT : 2010 ≤ T) (hwl : ∀ j, j < cnt → wL pp ee j ≤ 10) : ∃ σ' D' at2 bd2 nf2 b q, oF κ T n 115 [va_rf (some (A 0))] σ = some (some (va_rf (some b)), σ') ∧ cV κ sz len cnt kk pp ee f A nq ni rt σ' D' at2 cd cn am bd2 nf2 ff ∧ cO pp cnt at2 bd2 (aTo s (aMs kk 1)) ∧ cFr A σ D σ' D' ∧ (σ.2.1 ≤ b ∧ σ'.1 b = some (.inr (6, cNa q))) ∧ (σ'.2.2.1 ≤ σ.2.2.1 + 4 ∧ σ'.2.2.2 + 4 * D.1.2.2.1 + 4 * D.1.2.2.2.1 ≤ σ.2.2.2 + 22 + 4 * D'.1.2.2.1 + 4 * D'.1.2.2.2.1) ∧ (D'.2.2 = D.2.2 ∧ D'.1.2.2.2.2.2 = D.1.2.2.2.2.2 ∧ at' ≤ at2 ∧ at' + 1 ≤ at2 + fl (aTo s (aMs kk 1))) ∧ (∀ i, s = .inr i → aIs kk 1 i = true → cQn pp ee f σ' D' (nPut nm i b) (nTell f pp ee i ν) cd nf2 (i + 1) ∧ cNc pp ee f σ' b i ∧ wL pp ee i ≤ 2000) := by
  obtain ⟨σ1, D1, at1, bd1, nf1, b, q, a1, a2, a3, a4, a5, ⟨a6, a7⟩, ⟨a8, a9, a10, a11⟩, a12⟩ := c_tell (κ := κ) (T := T) (n := n) h ho (fun i e => ⟨(hn i e).1, (hn i e).2.1⟩) hm hT
  have hw : (if cK kk s = 1 then wL pp ee at' else 0) ≤ 10 := by
    split
    · rename_i ck
      cases s with
      | inl j => exact absurd (show (0 : Int32) = 1 from ck) (by decide)
      | inr i =>
        refine hwl at' ?_
        have ck' : kk i = nI 1 := ck
        by_cases q : i < cnt
        · rw [ho.2.1]; exact q
        · have : i = cnt := by have := ho.2.2; omega
          rw [this, h.1.2.2.2.2.2.1] at ck'
          exact absurd ck' (by decide)
    · omega
  refine ⟨σ1, D1, at1, bd1, nf1, b, q, a1, a2, a3, a4, a5, ⟨a6, by omega⟩, ⟨a9, a10, a11, ?_⟩, fun i hi g => ?_⟩
  · cases s with
    | inl j => have := fl_to (.inl j) (aMs kk 1); have : fl (Sum.inl j : Sum Nat Nat) = 1 := rfl; omega
    | inr i =>
      rw [aTo_ok] at a3 ⊢
      unfold aMs at a3 ⊢
      by_cases c : aIs kk 1 i = true
      · rw [if_pos c] at a3 ⊢
        have := a3.2.1; have := ho.2.1
        omega
      · rw [if_neg c]; show at' + 1 ≤ at1 + 1; omega
  · obtain ⟨b1, b2⟩ := a12 i hi g
    have hq := hn i hi
    obtain ⟨t1, t2⟩ := nTell_12 (f := f) (pp := pp) (ee := ee) i ν
    have lt : i < cnt := by
      by_cases q : i < cnt
      · exact q
      · rw [hi] at ho
        have : i = cnt := by have := ho.2.2; omega
        have g' : kk i = nI 1 := of_decide_eq_true g
        rw [this, h.1.2.2.2.2.2.1] at g'
        exact absurd g' (by decide)
    have ne : ∀ u, u ∈ ν.2.1 → nPut nm i b u ≠ some b := fun u hu z => by
      obtain ⟨c, c1, c2⟩ := hq.ob h hu
      rw [nPut_lt (hq.2.1 u (Or.inr hu)), c1] at z
      injection z with z
      have := a5.1
      omega
    refine ⟨⟨b1, fun x hx => ?_, ?_, ?_⟩, b2, by have := hwl i lt; omega⟩
    · rw [t1, t2] at hx
      rcases hx with z | z
      · have := hq.2.1 x (Or.inl z); omega
      · rcases List.mem_append.mp z with y | y
        · have := hq.2.1 x (Or.inr y); omega
        · rw [List.mem_singleton.mp y]; omega
    · rw [t2]
      intro u hu v hv z
      rcases List.mem_append.mp hu with y | y
      · rcases List.mem_append.mp hv with y' | y'
        · rw [nPut_lt (hq.2.1 u (Or.inr y)), nPut_lt (hq.2.1 v (Or.inr y'))] at z
          exact hq.2.2.1 u y v y' z
        · rw [List.mem_singleton.mp y', nPut_eq] at z
          exact absurd z (ne u y)
      · rcases List.mem_append.mp hv with y' | y'
        · rw [List.mem_singleton.mp y, nPut_eq] at z
          exact absurd z.symm (ne v y')
        · rw [List.mem_singleton.mp y, List.mem_singleton.mp y']
    · rw [t1, t2]
      exact fun u hu => List.mem_append.mpr (Or.inl (hq.2.2.2 u hu))
/-- count over NAMES in one word -/
theorem c_countQ {b : Nat} {fs : List Value} (h : cV κ sz len cnt kk pp ee f A nq ni rt σ D at' cd cn am bd nf ff) (hb : σ.1 b = some (.inr (6, fs))) (hfl : fs.length = 8) (hcd : cd < 3990) (hm : 1 ≤ n) : ∃ σ' D', oF κ T n 116 [va_rf (some (A 0)), va_rf (some b)] σ = some (none, σ') ∧ cV κ sz len cnt kk pp ee f A nq ni rt σ' D' at' (cd + 1) cn am bd nf ff ∧ (∀ a, a ≠ A 0 → a ≠ A 7 → a ≠ b → σ'.1 a = σ.1 a) ∧ σ'.2 = σ.2 ∧ σ'.1 b = some (.inr (6, fs.set 1 (.int (nI cd)))) ∧ (D'.1 = D.1 ∧ D'.2.2.2 = D.2.2.2) ∧ (∀ (nm : Nat → Option Nat) (ν : nSt) (i w : Nat), cQn pp ee f σ D nm ν cd nf i → cNc pp ee f σ b w → wL pp ee w ≤ 2000 → nm w = some b → w ∈ ν.2.1 → cQn pp ee f σ' D' nm (nCnt w ν) (cd + 1) nf i) := by
  obtain ⟨σ1, D1, a1, a2, a3, a4, a5, a6, a7, a8, a9⟩ := c_count (κ := κ) (T := T) (n := n) h hb hfl hcd hm
  refine ⟨σ1, D1, a1, a2, a3, a4, a5, ⟨a6, a8⟩, fun nm ν i w hq hw hl hnm hmem => ?_⟩
  have N := hq.1.ct (A := A) (σ' := σ1) (D' := D1) h.2.1 ⟨_, h.1.2.2.1⟩ hw hnm hl a3 (fun gs eg => by rw [hb] at eg; injection eg with eg; injection eg with eg; injection eg with e1 e2; rw [← e2]; exact a5) a6 a7 a9
  refine ⟨N.1, fun x hx => ?_, hq.2.2.1, fun u hu => ?_⟩
  · rcases hx with z | z
    · rcases List.mem_append.mp (show x ∈ ν.1 ++ [w] from z) with y | y
      · exact hq.2.1 x (Or.inl y)
      · rw [List.mem_singleton.mp y]; exact hq.2.1 w (Or.inr hmem)
    · exact hq.2.1 x (Or.inr z)
  · rcases List.mem_append.mp (show u ∈ ν.1 ++ [w] from hu) with y | y
    · exact hq.2.2.2 u y
    · rw [List.mem_singleton.mp y]; exact hmem
end CQP
