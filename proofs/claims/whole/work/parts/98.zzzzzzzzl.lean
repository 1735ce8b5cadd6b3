/-! INPUTS: give() of both: lr_give -/
/-- only INPUTS changed -/
def lKi (x : Nat) (σ u : oSt) : Prop := ∀ ma va ra fm fv gr, lMv x σ ma va ra fm fv gr → ∀ q, q < σ.2.1 → q ≠ va → q ≠ ra → (∀ i c, i < 6 → gr i = some c → q ≠ c) → u.1 q = σ.1 q
/-- and what the reference keeps -/
def zKi (τ v : zSt) : Prop := v.1 = τ.1 ∧ v.2.1 = τ.2.1 ∧ v.2.2.1 = τ.2.2.1 ∧ ∀ k, k ≠ 103 → k ≠ 104 → v.2.2.2 k = τ.2.2.2 k
theorem lMv.uq {x : Nat} {σ : oSt} {ma va ra ma' va' ra' : Nat} {fm fm' : List Value} {fv fv' : Nat → Int64} {gr gr' : Nat → Option Nat} (h : lMv x σ ma va ra fm fv gr) (h' : lMv x σ ma' va' ra' fm' fv' gr') : ma' = ma ∧ va' = va ∧ ra' = ra ∧ gr' = gr := by
  obtain ⟨⟨fs, h0, h0'⟩, ⟨h1, -, h2, h3⟩, h7, h8, -⟩ := h
  obtain ⟨⟨gs, k0, k0'⟩, ⟨k1, -, k2, k3⟩, k7, k8, -⟩ := h'
  rw [h0] at k0
  injection k0 with k0; injection k0 with k0; injection k0 with _ k0
  subst k0
  rw [h0'] at k0'
  injection k0' with k0'; injection k0' with k0'
  subst k0'
  rw [h1] at k1
  injection k1 with k1; injection k1 with k1; injection k1 with _ k1
  subst k1
  rw [h2] at k2
  injection k2 with k2; injection k2 with k2
  subst k2
  rw [h3] at k3
  injection k3 with k3; injection k3 with k3
  subst k3
  rw [h8] at k8
  injection k8 with k8; injection k8 with k8; injection k8 with _ k8; injection k8 with _ k8; injection k8 with k8; injection k8 with k8; injection k8 with k8; injection k8 with k8
  exact ⟨rfl, rfl, rfl, k8.symm⟩
theorem lRel.cg {x : Nat} {σ u : oSt} {τ v : zSt} (h : lRel x σ τ) (ho : ∀ q ci fs, σ.1 q = some (.inr (ci, fs)) → u.1 q = σ.1 q) (hb : ∀ q n f, σ.1 q = some (.inl (.byte, n, .inl f)) → u.1 q = σ.1 q) (hz : zKi τ v) : lRel x u v := by
  obtain ⟨z1, z2, z3, -⟩ := hz
  obtain ⟨gs, gm, ta, oa, ma, No, ft, go, ⟨g1, hfl⟩, f, ⟨t1, t2⟩, ⟨o1, o2⟩, ⟨m1, m2⟩⟩ := h
  refine ⟨gs, gm, ta, oa, ma, No, ft, go, ⟨(ho _ _ _ g1).trans g1, hfl⟩, ?_, ⟨(hb _ _ _ t1).trans t1, ?_⟩, ⟨(hb _ _ _ o1).trans o1, ?_⟩, ⟨(ho _ _ _ m1).trans m1, ?_⟩⟩
  · rw [z1]; exact f
  · rw [z1, z3]; exact t2
  · rw [z1, z3]; exact o2
  · rw [z1, z2]; exact m2
section LGI
variable {κ : oKv} {ks : Nat → Nat} {qs : List Nat} {T n n' x y sz : Nat} {a : Nat → Int32} {σ u : oSt} {τ v : zSt}
theorem i32_lt {i : Int32} {l : Nat} (h0 : ¬ i < 0) (h1 : ¬ nI l ≤ i) (hl : l < 2 ^ 31) : ∃ k, i = nI k ∧ k < l := by
  have p := i32_pos h0
  have c := i32_cl p
  have hlt : i.toInt < (l : Int) := by
    rw [Int32.le_iff_toInt_le, nI_toInt hl] at h1
    omega
  refine ⟨i.toNatClampNeg, ?_, by omega⟩
  rw [← Int32.toInt_inj, nI_toInt (by omega)]
  exact c.symm
/-- what both read of an INPUT -/
theorem pgB.rd {q0 : pgQt} (h : pgB κ T sz x q0 σ τ) (hκ : κ.2.2.1 < sz) (hR : oRm sz σ) : ∃ is p ma va ra fm fv gr, (is.length ≤ 6 ∧ ∀ y ∈ is, y.2 ≤ 2) ∧ ofd σ (some x) 14 2 = some (.ref p) ∧ ofd σ (some x) 14 12 = some (.ref ma) ∧ ofd σ (some p) 9 9 = some (.int (nI is.length)) ∧ ovr (ofd σ (some p) 9 2) = some (some (p + 2)) ∧ oob σ (some (p + 2)) 1 = some (p + 2) ∧ (∀ n i y, is[i]? = some y → ∃ b, oF κ T (n + 3) 234 [va_rf (some (p + 2)), .int (nI i)] σ = some (some (va_rf (some b)), σ) ∧ ocs σ (some b) 6 = true ∧ ofd σ (some b) 6 3 = some (.int (iCd y.2))) ∧ lMv x σ ma va ra fm fv gr ∧ lGv is σ τ fv gr ∧ (τ.1 66 = 1 ∧ τ.1 42 = nI is.length ∧ ∀ i y, is[i]? = some y → τ.2.2.1 28 i = nI y.2) ∧ ∀ u v, (∀ q ci fs, σ.1 q = some (.inr (ci, fs)) → u.1 q = σ.1 q) → lKi x σ u → σ.2.1 ≤ u.2.1 → zKi τ v → (∃ fv' gr', lMv x u ma va ra fm fv' gr' ∧ lGv is u v fv' gr' ∧ ∀ i b, i < 6 → gr' i = some b → gr i = some b ∨ σ.2.1 ≤ b) → pgB κ T sz x q0 u v := by
  have h' := h
  obtain ⟨len, cnt, j, kk, pp, ee, f, fc, xs, is, e, α, lo, p, B, V, D, at2, cd', am2, nm, e0, fb, fr, fz, fn, g, ρ, lv, N, S, P, A, x0, g', ρ'⟩ := q0
  obtain ⟨hT, hV, ⟨hB, hlo, hx, ta, hta, htl⟩, hS, hX, hRf, ma, va, ra, fm, fv, gr, hM, hG, ⟨b1, b2, b3, b4⟩, b5⟩ := h
  have pG' := hT.2.2.2.2.2.1.1
  have rd := fun n => pg_in (n := n) hV hS hB pG' hκ hR
  obtain ⟨fs', fm', ma', d1, d2, d3, d4, d5, d6, d7⟩ := hX
  have em : ma' = ma := by
    obtain ⟨⟨gs, k0, k0'⟩, -⟩ := hM
    rw [d1] at k0
    injection k0 with k0; injection k0 with k0; injection k0 with _ k0
    subst k0
    rw [d5] at k0'
    injection k0' with k0'; injection k0' with k0'
  subst em
  refine ⟨is, p, ma', va, ra, fm, fv, gr, ⟨pG'.1.1, fun y hy => (pG'.1.2 y hy).2⟩, by rw [ofd_at d1]; exact d3, by rw [ofd_at d1]; exact d5, (rd 0).1, (rd 0).2.1, (rd 0).2.2.1, fun n => (rd n).2.2.2, hM, hG, ⟨hRf.1, hRf.2.1.2.1.2.1, fun i y hi => (hRf.2.1.2.2.2.1 i y hi).2⟩, fun u v ho hk hn hz hin => ?_⟩
  obtain ⟨z1, z2, z3, -⟩ := hz
  obtain ⟨fv', gr', M', G', R'⟩ := hin
  have hp := hV.2.1
  refine ⟨hT, hV, ⟨hB, hlo, hx, ta, (ofd_cg (ho _ _ _ d1)).trans hta, htl⟩, hS.cg hp (fun q h1 h2 => ?_), ?_, ?_, ma', va, ra, fm, fv', gr', M', G', ⟨b1, b2, b3, by omega⟩, fun i b hi e => ?_⟩
  · exact hk ma' va ra fm fv gr hM q (by omega) (by omega) (by omega) (fun i c hi e => by have := b5 i c hi e; omega)
  · exact ⟨fs', fm', ma', (ho _ _ _ d1).trans d1, d2, d3, d4, d5, (ho _ _ _ d6).trans d6, d7⟩
  · obtain ⟨d1, d2, ⟨⟨k, ⟨a1, a2⟩, ⟨a3, a4⟩, a5⟩, a6⟩, d4, d5⟩ := hRf
    have nEk : nE v e 0 x0 = nE τ e 0 x0 := nE_keep (V := τ) (fun k _ => by rw [z3]) e 0 x0
    refine ⟨by rw [z1]; exact d1, d2.keep (fun k _ => by rw [z1]) (fun k _ _ _ _ => by rw [z3]), ⟨⟨k, ⟨by rw [z1]; exact a1, a2⟩, ⟨by rw [z1]; exact a3, a4⟩, by rw [z3]; exact a5⟩, a6⟩, fun q hq ht => ?_, fun jj u' hj => ?_⟩
    · rw [nEk] at hq
      obtain ⟨c, c1, c2⟩ := d4 q hq ht
      exact ⟨c, by rw [z3]; exact c1, c2⟩
    · obtain ⟨c, c1, c2⟩ := d5 jj u' hj
      exact ⟨c, by rw [z3]; exact c1, c2⟩
  · rcases R' i b hi e with z | z
    · exact b5 i b hi z
    · exact Or.inr (by omega)
end LGI
