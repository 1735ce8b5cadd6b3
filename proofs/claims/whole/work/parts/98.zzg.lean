/-! the class's parser: tellParameter -/
section CQR
variable {κ : oKv} {sz T n m len cnt : Nat} {kk pp ee f : Nat → Int32} {A : Nat → Nat} {nq ni : Int32} {rt : Value} {σ σ' : oSt} {D D' : cDt} {at' cd : Nat} {cn am bd nf ff : Int32} {s : Sum Nat Nat} {nm : Nat → Option Nat} {ν : nSt} {lo i : Nat}
set_option maxHeartbeats 1000000 in
theorem c_tpar {e0 pa d cap q : Nat} {fs : List Value} {mc : Int32} {g : Nat → Option Nat} (h : cV κ sz len cnt kk pp ee f A nq ni rt σ D at' cd cn am bd nf ff) (ho : cO pp cnt at' bd s) (hn : ∀ i, s = .inr i → cQn pp ee f σ D nm ν cd nf i) (he : σ.1 e0 = some (.inr (7, fs))) (hfs : fs[11]? = some (.ref pa)) (hA : ∀ k, 1 ≤ k → k ≤ 6 → A k < lo) (hl : cLs κ σ pa d cap q mc g 6) (hd : cOk A D lo σ d ∨ (d = κ.2.2.1 ∧ σ.1 d = none)) (hp : cOk A D lo σ pa) (hc : cap ≤ 10 + 2 * q) (hq : q ≤ 4000) (hcd : cd < 3990) (hm : 9 ≤ m) (hT : 2010 ≤ T) (hwl : ∀ j, j < cnt → wL pp ee j ≤ 10) : ∃ σ' D' at2 bd2 nf2 b d' cap' g', oF κ T (m + 1) 132 [va_rf (some (A 0)), va_rf (some e0)] σ = some (none, σ') ∧ cV κ sz len cnt kk pp ee f A nq ni rt σ' D' at2 (cd + 1) cn am bd2 nf2 ff ∧ cO pp cnt at2 bd2 (aTo s (aMs kk 1)) ∧ (cLs κ σ' pa d' cap' (q + 1) (mc + 1) g' 6 ∧ cOk A D' lo σ' d' ∧ cOk A D' lo σ' pa ∧ cap' ≤ 10 + 2 * (q + 1) ∧ (∀ j, j < q → g' j = g j) ∧ g' q = some b) ∧ (σ.2.1 ≤ σ'.2.1 ∧ (∀ a, a < σ.2.1 → ¬ cMu A D a → a ≠ pa → a ≠ d' → σ'.1 a = σ.1 a) ∧ (D'.1.1 = D.1.1 ∨ σ.2.1 ≤ D'.1.1) ∧ (D'.1.2.1 = D.1.2.1 ∨ σ.2.1 ≤ D'.1.2.1)) ∧ (σ.2.1 ≤ b ∧ cOk A D' lo σ' b ∧ ∃ q', σ'.1 b = some (.inr (6, (cNa q').set 1 (.int (nI cd))))) ∧ (σ'.2.2.1 ≤ σ.2.2.1 + 5 ∧ σ'.2.2.2 + 4 * D.1.2.2.1 + 4 * D.1.2.2.2.1 + 4 * cap ≤ σ.2.2.2 + 22 + 4 * D'.1.2.2.1 + 4 * D'.1.2.2.2.1 + 4 * cap') ∧ (D'.2.2.2 = D.2.2.2 ∧ D'.1.2.2.2.2.2 = D.1.2.2.2.2.2 ∧ at' ≤ at2 ∧ at' + 1 ≤ at2 + fl (aTo s (aMs kk 1)) ∧ (d' = d ∨ σ.2.1 ≤ d')) ∧ (∀ i, s = .inr i → aIs kk 1 i = true → cQn pp ee f σ' D' (nPut nm i b) (nCnt i (nTell f pp ee i ν)) (cd + 1) nf2 (i + 1)) := by
  rw [oE_X7_tellParameter]
  unfold ob_X7_tellParameter
  obtain ⟨σ1, D1, at1, bd1, nf1, b, q', a1, a2, a3, a4, ⟨a5, a5b⟩, ⟨a6, a7⟩, ⟨a8, a9, a10, a11⟩, a12⟩ := c_tellQ (κ := κ) (T := T) (n := m) h ho hn (by omega) hT hwl
  have lo1 : lo ≤ b := by have := hp.1; have := hp.2.1; omega
  have e1 : σ1.1 e0 = some (.inr (7, fs)) := h.kd a4 he (by omega)
  have p1 := hp.to a4
  have hd1 : cOk A D1 lo σ1 d ∨ (d = κ.2.2.1 ∧ σ1.1 d = none) := by
    rcases hd with y | ⟨y, y'⟩
    · exact Or.inl (y.to a4)
    · exact Or.inr ⟨y, by rw [y]; exact a2.1.1.2.1 _ a2.1.1.2.2.2⟩
  have kd : σ1.1 d = σ.1 d := by
    rcases hd with y | ⟨y, y'⟩
    · exact y.eq a4
    · rw [y', y]; exact a2.1.1.2.1 _ a2.1.1.2.2.2
  have l1 := hl.keep (σ' := σ1) (hp.eq a4) kd (fun a gs ea => ⟨gs, h.kd a4 ea (by omega)⟩)
  have f11 : ofd σ1 (some e0) 7 11 = some (.ref pa) := by rw [ofd_at e1]; exact hfs
  rw [oob_at h.2.1, obn_at, a1, orn_at, f11, ovr_rf, obn_at, oob_at l1.1, obn_at]
  obtain ⟨σ2, d', cap', g', b1, b2, b3, b4, b5, b6, ⟨b7, b7b⟩, b8, b9, b10, b11, b12⟩ := c_nadd (κ := κ) (T := T) (m := m) a2 hA l1 hd1 p1 hc hq a5b (by omega)
  rw [b1, oin_at, oob_at b2.2.1, obn_at]
  have lb : b < σ1.2.1 := alt a2.1.1.1 a5b
  have bpa : b ≠ pa := fun z => by have w := l1.1; rw [← z, a5b] at w; cases w
  have bd' : b ≠ d' := fun z => by
    rcases b9 with y | y
    · rw [z, y] at a5b
      rcases l1.2.1 with ⟨-, -, -, w⟩ | ⟨w, -⟩
      · rw [w] at a5b; cases a5b
      · rw [w] at a5b; cases a5b
    · omega
  have c2 : σ2.1 b = some (.inr (6, cNa q')) := by rw [b8 b bpa bd']; exact a5b
  have T2 : ∀ a c, σ1.1 a = some c → cTy c → σ2.1 a = some c := fun a c ea hc => by
    rw [b8 a (fun z => by rw [z, l1.1] at ea; injection ea with ea; rw [← ea] at hc; exact hc.n1) (fun z => by
      rcases b9 with y | y
      · rw [z, y] at ea
        rcases l1.2.1 with ⟨-, -, -, w⟩ | ⟨w, -⟩
        · rw [w] at ea; cases ea
        · rw [w] at ea; injection ea with ea; rw [← ea] at hc; exact hc.no
      · have := alt a2.1.1.1 ea; omega)]
    exact ea
  obtain ⟨σ3, D3, x1, x2, x3, x4, x5, ⟨x6, x7⟩, x8⟩ := c_countQ (κ := κ) (T := T) (n := m) b2 c2 rfl hcd (by omega)
  rw [x1, ocv_at]
  have nmu : ∀ {a ci : Nat} {gs : List Value}, σ2.1 a = some (.inr (ci, gs)) → (ci = 1 ∨ ci = 7) → a ≠ A 0 ∧ a ≠ A 7 ∧ a ≠ b := fun {a ci gs} ea hc => by
    refine ⟨fun z => ?_, fun z => ?_, fun z => ?_⟩
    · rw [z, b2.2.1] at ea; injection ea with ea; injection ea with ea; injection ea with ea; omega
    · rw [z, b2.1.2.2.1] at ea; cases ea
    · rw [z, c2] at ea; injection ea with ea; injection ea with ea; injection ea with ea; omega
  have cMuE : ∀ a, cMu A D3 a ↔ cMu A D1 a := fun a => by unfold cMu; rw [x6]
  have okE : ∀ a, cOk A D1 lo σ2 a → cOk A D3 lo σ3 a := fun a y => ⟨y.1, by rw [x4]; exact y.2.1, fun z => y.2.2 ((cMuE a).mp z)⟩
  have pa3 := nmu b3.1 (by omega)
  have d3 : σ3.1 d' = σ2.1 d' := x3 d' (fun z => b4.n0 z) (fun z => b4.2.2 (Or.inr (Or.inl z))) (fun z => bd' z.symm)
  have l3 := b3.keep (σ' := σ3) (x3 pa pa3.1 pa3.2.1 pa3.2.2) d3 (fun a gs ea => by
    by_cases z : a = b
    · rw [z]; exact ⟨_, x5⟩
    · exact ⟨gs, by rw [x3 a (fun w => by rw [w, b2.2.1] at ea; cases ea) (fun w => by rw [w, b2.1.2.2.1] at ea; cases ea) z]; exact ea⟩)
  have ok2 : ¬ cMu A D1 b := cMu.no a2 a5b (by omega)
  have z31 : σ3.2.1 = σ2.2.1 := by rw [x4]
  refine ⟨σ3, D3, at1, bd1, nf1, b, d', cap', g', rfl, x2, a3, ⟨l3, okE d' b4, okE pa b5, b6, b7, b7b⟩, ⟨by have := a4.1; omega, fun a ha hmu h1 h2 => ?_, by rw [x6]; exact a4.2.2.1, by rw [x6]; exact a4.2.2.2⟩, ⟨a5, ⟨lo1, by omega, fun z => ok2 ((cMuE b).mp z)⟩, q', x5⟩, ⟨?_, ?_⟩, ⟨?_, by rw [x6]; exact a9, a10, a11, by have := a4.1; omega⟩, fun i hi gg => ?_⟩
  · rw [x3 a (fun z => hmu (Or.inl z)) (fun z => hmu (Or.inr (Or.inl z))) (by omega), b8 a h1 h2, a4.2.1 a ha hmu]
  · have : σ3.2.2.1 = σ2.2.2.1 := by rw [x4]
    omega
  · have : σ3.2.2.2 = σ2.2.2.2 := by rw [x4]
    rw [x6]
    omega
  · rw [x7, a8]
  · obtain ⟨Q1, Q2, Q3⟩ := a12 i hi gg
    have Q1' : cQn pp ee f σ2 D1 (nPut nm i b) (nTell f pp ee i ν) cd nf1 (i + 1) := ⟨Q1.1.gn T2, Q1.2⟩
    exact x8 _ _ _ _ Q1' (Q2.keep T2) Q3 nPut_eq (by rw [(nTell_12 i ν).2]; exact List.mem_append.mpr (Or.inr (List.mem_singleton.mpr rfl)))
end CQR
