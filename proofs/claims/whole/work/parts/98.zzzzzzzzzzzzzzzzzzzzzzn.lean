/-! the class's gather(): taken(), answered() in walk(); a function's parameters -/
section GWP
variable {κ : oKv} {T n : Nat} {st : Nat} {l : Nat → Nat} {b0 : Nat} {nq : tQ → Int} {xs : List tQ} {pg ch ty : Nat} {cf : List Value} {At : Nat → Nat} {mo : Nat} {g : gG} {ρ : Nat → tY} {lv ov : Int32} {CN : Nat → gCd → Prop} {NR : Nat → (Nat × Nat × tT × List tP × List Nat × Nat) → Prop} {pp : Nat → Int32} {V : oSt} {lo g0 : Nat} {nm : Nat → Option Nat} {tN : Nat → tY} {φ : Nat → Nat} {Us : List Nat} {i cnt : Nat} {tl : List Nat} {Ψ : kGh} {Ls : List Nat} {σ σ' : oSt} {ln : Nat → Nat} {ct : Nat → Nat → Option Nat} {cs : Nat} {s : gSt} {E : gN → Nat → Prop} {A : gTy} {R : oRs} {sl : Nat} {m : gTm} {a b : tY}
/-- cells are made, NAMES too -/
theorem gwS.nx {d e : Nat} (h : gwS κ st l b0 nq xs pg ch ty cf At mo g ρ lv ov CN NR pp V lo g0 nm tN φ Us i tl Ψ Ls σ ln ct cs s) (o : oNl σ σ' d e) (h6 : oN6 σ σ') (hpp : ∀ u v, u < v → v < cnt → pp u < pp v) (hi : i ≤ cnt) : gwS κ st l b0 nq xs pg ch ty cf At mo g ρ lv ov CN NR pp V lo g0 nm tN φ Us i tl Ψ Ls σ' ln ct cs s ∧ (gKp st l b0 (fun _ => False) σ σ' ∧ shX st σ σ') ∧ gwC xs.length Ls Ls cs cs σ σ' d e := by
  obtain ⟨t1, c1, k1, s1, e1⟩ := h.2.1.nw (W := fun _ => False) o h6
  exact ⟨h.sh t1 k1 s1 (gAg.rf _ _) (fun _ _ z => z) (fun _ z => z) (h.2.2.2.1.2.2.up rfl rfl s1.2.2.2) hpp hi, ⟨k1, s1⟩, c1.c cs⟩
/-- taken(), answered() -/
theorem gwS.stp (h : gwS κ st l b0 nq xs pg ch ty cf At mo g ρ lv ov CN NR pp V lo g0 nm tN φ Us i tl Ψ Ls σ ln ct cs s) (k : kStp st l b0 nq xs Ψ σ E R A sl) (hpp : ∀ u v, u < v → v < cnt → pp u < pp v) (hi : i ≤ cnt) : ∃ σ' k', R = some (some (va_rf (some k')), σ') ∧ kRl st l b0 nq xs Ψ σ' E k' A ∧ gwS κ st l b0 nq xs pg ch ty cf At mo g ρ lv ov CN NR pp V lo g0 nm tN φ Us i tl Ψ Ls σ' ln ct cs s ∧ (gKp st l b0 (fun _ => False) σ σ' ∧ shX st σ σ') ∧ gwC xs.length Ls Ls cs cs σ σ' 3 sl := by
  obtain ⟨σ', k', d, e, r1, r2, r3, r4, r5, r6⟩ := k
  obtain ⟨a1, a2, a3, a4, a5⟩ := h.nx r2 r3 hpp hi
  exact ⟨σ', k', r1, r6, a1, a2, a3, by omega, by omega⟩
/-- a list, beside a cell that is made -/
theorem cLs.on {x d cap len ci q : Nat} {mc : Int32} {gl : Nat → Option Nat} {c : oC} (h : cLs κ σ x d cap len mc gl ci) (hl : 0 < len) (hfr : ∀ q, σ.2.1 ≤ q → σ.1 q = none) : cLs κ (onew σ c q) x d cap len mc gl ci := by
  have ne : ∀ {x cc}, σ.1 x = some cc → x ≠ σ.2.1 := fun e z => by rw [z, hfr _ (Nat.le_refl _)] at e; cases e
  obtain ⟨h1, h2, h3⟩ := h
  refine ⟨by rw [onew_ne (ne h1)]; exact h1, Or.inr ?_, fun j hj => ?_⟩
  · rcases h2 with ⟨z, -⟩ | ⟨z, z2⟩
    · omega
    · exact ⟨by rw [onew_ne (ne z)]; exact z, z2⟩
  · obtain ⟨b, fs, z1, z2⟩ := h3 j hj
    exact ⟨b, fs, z1, by rw [onew_ne (ne z2)]; exact z2⟩
/-- what a TEMPLATE's parameter is known by -/
theorem kRl.tkp {k : Nat} (hA : A.1 = .inr m) (hy : m.2.2.1 = .inner 0 () () a b) (hG : ∀ s, s ∈ m.2.2.2.2 → gTf A.2 s = none ∧ E s (Ψ.1 s)) (h : kRl st l b0 nq xs Ψ σ E k A) : kRl st l b0 nq xs Ψ σ E (Ψ.2.1 (m.1, m.2.1 ++ [false])) (gTk A) := by
  unfold kRl at h
  rw [hA] at h
  obtain ⟨h1, h2, G, h3, ⟨h4, h4', hN⟩, h5⟩ := h
  obtain ⟨-, ha, -⟩ := h2.fn hy
  have eA : (gTk A).1 = .inr (mTk m) ∧ (gTk A).2 = A.2 := by unfold gTk; rw [hA]; exact ⟨rfl, rfl⟩
  have eY : (mTk m).2.2.1 = a := by show yL m.2.2.1 = a; rw [hy]; rfl
  refine kRl.mk eA eY h1 ha ha.hd (Nat.zero_le _) (fun p hp => by cases hp) (fun s hs => ?_) (kNj.tk hy hN)
  unfold lkE
  rw [(hG s hs).1]
  exact Or.inl ⟨rfl, (hG s hs).2⟩
end GWP
