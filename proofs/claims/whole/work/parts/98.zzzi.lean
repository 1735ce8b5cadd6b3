/-! compile() of the class up to its tree; where the grammar is broken -/
section CGR
variable {κ : oKv} {ks : Nat → Nat} {sz T n m len cnt : Nat} {kk pp ee f : Nat → Int32} {U : oSt} {w r v ka pa ea x : Nat} {fs : List Value}
/-- the words are there -/
def cWs (κ : oKv) (sz len cnt : Nat) (kk pp ee f : Nat → Int32) (w r v ka pa ea : Nat) (U : oSt) : Prop := ((∀ q, U.2.1 ≤ q → U.1 q = none) ∧ (∀ q, q < sz → U.1 q = none) ∧ sz ≤ U.2.1 ∧ κ.2.2.1 < sz) ∧ (U.1 w = some (.inr (13, [.ref r, .ref ka, .ref pa, .ref ea, .int (nI cnt), .int (-1)])) ∧ cTz U r v len f ∧ U.1 ka = some (.inl (.int, len + 1, .inl kk)) ∧ U.1 pa = some (.inl (.int, len + 1, .inl pp)) ∧ U.1 ea = some (.inl (.int, len + 1, .inl ee))) ∧ (cnt ≤ len ∧ len ≤ 2000) ∧ ((∀ j, j < cnt → ∃ a e, pp j = nI a ∧ ee j = nI e ∧ a < e ∧ e ≤ len) ∧ kk cnt = 0 ∧ pp cnt = nI len) ∧ (∀ j, j < cnt → wL pp ee j ≤ 10) ∧ (∀ i, i < cnt → ¬ kk i = 0)
set_option maxHeartbeats 1000000 in
/-- Parser(words), readProgram() -/
theorem c_par' (h : cWs κ sz len cnt kk pp ee f w r v ka pa ea U) (hm : 231 ≤ m) (hT : 2010 ≤ T) : ∃ P V D' at2 am2 bd2 nf2 ff2 nm' q' n' cd' e fb' fr' fz' fn', oF κ T m 103 [va_rf (some U.2.1), va_rf (some w)] (onew U (.inr (9, odef 9)) (oq 9).2.2) = some (none, P) ∧ oob P (some U.2.1) 9 = some U.2.1 ∧ oF κ T m 145 [va_rf (some U.2.1)] P = some (none, V) ∧ cV κ sz len cnt kk pp ee f (pA w r v ka pa ea U.2.1) (nI q') (nI n') (.ref e) V D' at2 cd' 0 am2 bd2 nf2 ff2 ∧ cO pp cnt at2 bd2 (aPr kk T cnt).st ∧ ((∀ a, a < U.2.1 → V.1 a = U.1 a) ∧ U.2.1 ≤ V.2.1) ∧ cRw (pA w r v ka pa ea U.2.1) V fb' fr' fz' fn' ∧ (8 * V.2.2.1 + svG (aPr kk T cnt) ≤ 8 * U.2.2.1 + 496 + 240 * cnt ∧ (V.2.2.2 ≤ U.2.2.2 + 622 + 256 * cnt ∧ V.2.2.2 + svG (aPr kk T cnt) ≤ U.2.2.2 + 622 + 240 * cnt + 8 * D'.1.2.2.2.2.1 + 8 * D'.1.2.2.2.2.2)) ∧ (∀ qs is t j, aPr kk T cnt = .inr ((qs, is, t), j) → (q' = qs.length ∧ n' = is.length ∧ cd' = is.length ∧ j = cnt) ∧ (∀ k x, qs[k]? = some x → fb' k = bCd x.1 ∧ fr' k = rCd x.2.1 ∧ fz' k = zSr x.2.2 ∧ fn' k = zNu T f pp ee x.2.2.2.2) ∧ cIs (pA w r v ka pa ea U.2.1) D' U.2.1 V nm' is 0 ∧ cTr κ T kk pp ee f (pA w r v ka pa ea U.2.1) D' U.2.1 V nm' t (nIn f pp ee is (([], [], none) : nSt)).1 0 (fun _ => none) 0 e ∧ cQn pp ee f V D' nm' (nT f pp ee t (nIn f pp ee is (([], [], none) : nSt))) cd' nf2 j ∧ ff2 = fE f pp ee t (nIn f pp ee is (([], [], none) : nSt)).1 0 (-1) ∧ D'.1.2.2.2.2.2 = nF t) := by
  obtain ⟨⟨hfr, hlow, hsz, hκ⟩, ⟨hw, ht, hk, hp, he⟩, hc, hwd, hwl, hnz⟩ := h
  obtain ⟨P, a1, a2, a3, a4, a5⟩ := c_pinit (κ := κ) (T := T) (m := m) hfr hlow hsz hκ hw ht hk hp he hc hwd (by omega)
  obtain ⟨m1, hm1⟩ : ∃ m1, m = m1 + 1 := ⟨m - 1, by omega⟩
  obtain ⟨V, D', at2, am2, bd2, nf2, ff2, nm', q', n', cd', e, fb', fr', fz', fn', b1, b2, b3, ⟨b4, b5, b6, b7⟩, b8, ⟨b9, b10⟩, b11⟩ := c_program (κ := κ) (T := T) (m := m1) (by omega) hT hwl hnz a2 rfl a3 (fun _ => ⟨rfl, rfl⟩)
  rw [← hm1] at b1
  have p1 : P.2.1 = U.2.1 + 8 := by rw [a5]
  have p2 : P.2.2.1 = U.2.2.1 + 8 := by rw [a5]
  have p3 : P.2.2.2 = U.2.2.2 + 60 := by rw [a5]
  have KL : cKp κ (pA w r v ka pa ea U.2.1) D' P.2.1 V D' U.2.1 V := cKp.lw b2.low (by omega)
  refine ⟨P, V, D', at2, am2, bd2, nf2, ff2, nm', q', n', cd', e, fb', fr', fz', fn', a1, oob_at a2.2.1, b1, b2, b3, ⟨fun a ha => ?_, by omega⟩, b8, ⟨?_, ?_⟩, fun qs is t j hP => ?_⟩
  · by_cases c : a = κ.2.2.1
    · rw [c, b2.low, hlow _ hκ]
    · rw [b5 a (by omega) (fun hm => ?_) (show a ≠ U.2.1 + 4 by omega) (show a ≠ U.2.1 + 5 by omega) (show a ≠ U.2.1 + 6 by omega) (show a ≠ U.2.1 + 7 by omega)]
      · exact a4 a ha
      · unfold cMu at hm
        rcases hm with z | z | z | z | z | z
        · have z' : a = U.2.1 := z; omega
        · have z' : a = U.2.1 + 1 := z; omega
        · have z' : a = U.2.1 + 2 := z; omega
        · have z' : a = U.2.1 + 3 := z; omega
        · exact c z
        · exact c z
  · omega
  · have c1 := b2.1.2.2.2.1.2.2.2.2.1
    have c2 := b2.1.2.2.2.1.2.2.2.2.2
    have c3 := b2.2.2.2.2.1
    have c4 := b2.2.2.2.2.2
    have c5 := b2.2.2.1
    have c6 : (pD κ).1.2.2.1 = 0 := rfl
    have c7 : (pD κ).1.2.2.2.1 = 0 := rfl
    exact ⟨by omega, by omega⟩
  · obtain ⟨t1, t2, t3, t4, t5⟩ := b11 qs is t j hP
    have K : ∀ (xs : List (Nat × Nat)) (k : Nat), cIs (pA w r v ka pa ea U.2.1) D' P.2.1 V nm' xs k → cIs (pA w r v ka pa ea U.2.1) D' U.2.1 V nm' xs k := fun xs => by
      induction xs with
      | nil => intro k _; trivial
      | cons z zs ih =>
        intro k hk
        obtain ⟨⟨b', q', g1, g2, g3⟩, g4⟩ := hk
        exact ⟨⟨b', q', g1, ⟨by have := g2.1; omega, g2.2⟩, g3⟩, ih _ g4⟩
    exact ⟨t1, t2, K is 0 t3, t4.lw b2.low (by omega), t5⟩
/-- compile() where the grammar is broken: 2, and the place -/
theorem c_gram {j : Nat} (h : cWs κ sz len cnt kk pp ee f w r v ka pa ea U) (hx : U.1 x = some (.inr (14, fs))) (hl : 5 < fs.length) (hP : aPr kk T cnt = .inl j) (hm : 231 ≤ m) (hT : 2010 ≤ T) : ∃ V, cD (oF κ T m) (some x) w U = some (some (.int 2), oput V x (.inr (14, fs.set 5 (.int (pp j))))) ∧ (∀ a, a < U.2.1 → V.1 a = U.1 a) ∧ (∀ q, V.2.1 ≤ q → V.1 q = none) ∧ U.2.1 ≤ V.2.1 ∧ (V.2.2.1 ≤ U.2.2.1 + 62 + 30 * cnt ∧ V.2.2.2 ≤ U.2.2.2 + 622 + 256 * cnt) := by
  have hw := h.2.1.1
  obtain ⟨P, V, D', at2, am2, bd2, nf2, ff2, nm', q', n', cd', e, fb', fr', fz', fn', b1, b2, b3, v1, o1, ⟨k1, k2⟩, -, c1, -⟩ := c_par' (κ := κ) (T := T) h hm hT
  rw [hP] at o1
  have o2 : bd2 = pp j := o1.1
  have hpos := v1.pos o1.2
  have fw : ofd U (some w) 13 5 = some (.int (-1)) := by rw [ofd_at hw]; rfl
  have vp : V.1 U.2.1 = some (.inr (9, cPs (pA w r v ka pa ea U.2.1) (nI q') (nI n') (.ref e) at2 cd' 0 am2 bd2 nf2 ff2)) := v1.2.1
  have f15 : ofd V (some U.2.1) 9 15 = some (.int (pp j)) := by rw [ofd_at vp, o2]; rfl
  have hxV : V.1 x = some (.inr (14, fs)) := (k1 x (alt h.1.1 hx)).trans hx
  obtain ⟨m1, hm1⟩ : ∃ m1, m = m1 + 1 := ⟨m - 1, by omega⟩
  have hfa : oF κ T m 177 [va_rf (some x), .int 2, .int (pp j)] V = some (some (.int 2), oput V x (.inr (14, fs.set 5 (.int (pp j))))) := by
    rw [hm1, oE_X12_fault]
    unfold ob_X12_fault
    rw [opf_at hxV hl]
    simp only [obn]
  refine ⟨V, ?_, k1, v1.1.1.1, k2, by have := c1.1; omega, c1.2.1⟩
  unfold cD
  rw [fw, ovi_i, obn_at, if_pos (show (-1 : Int32) < 0 by decide), olet_at, obn_at, b1, ocv_at, b2, obn_at, b3, ocv_at, f15, ovi_i, obn_at, if_neg hpos.1, obn_at, oob_at hxV, obn_at, hfa, oin_at]
end CGR
