/-! accepted(): weakenAll() and findDoubt() of a PROGRAM, in the class -/
section AC3
variable {κ : oKv} {T sz len cnt j n lo p jd s0 N S P A x0 o ca pa ph ta th lenJ W0 b1 : Nat} {kk pp ee f fc R6 : Nat → Int32} {xs : List tQ} {is : List (Nat × Nat)} {e : tT} {α : Nat → tY} {B : Nat → Nat} {V : oSt} {D : cDt} {nm : Nat → Option Nat} {g g' : gG} {ρ ρ' : Nat → tY} {lv : Int32} {σ : oSt} {τ : zSt} {q0 : Nat → gTy} {A0 : gTy} {inv : Nat → gN} {Ψ : kGh} {Ls : List Nat} {ln : Nat → Nat} {ct : Nat → Nat → Option Nat} {cs : Nat} {K : Int} {cl0 fa0 rd ps : Int32} {fo : Nat → Int64} {wk : Option Nat} {Pj Tr : List (Nat × Bool)}
set_option maxHeartbeats 1000000 in
/-- **weakenAll() and findDoubt() of a PROGRAM** -/
theorem kTo_sb {st : Nat} {l : Nat → Nat} {b0 : Nat} {nq : tQ → Int} {A2 : List (gN × gTe)} : ∀ (y : tY) (m : gTm) (X : gTy), kTo st l b0 nq xs Ψ σ y m → sbT y (.inr m, A2) X → ∃ m', X = (.inr m', A2) ∧ m'.1 = m.1 ∧ ∃ fs, σ.1 (Ψ.2.1 (m'.1, m'.2.1)) = some (.inr (4, fs))
  | .leaf, _, _, _, h => h.elim
  | .inner k _ _ a b, m, X, t, h => by
    rcases h with h | ⟨c, h⟩
    · obtain ⟨fs, gn, ins, k1, -⟩ := t.hd.f
      exact ⟨m, h, rfl, fs, k1⟩
    · have t2 := t.2
      rw [if_pos c] at t2
      rcases h with h | h
      · obtain ⟨m', e1, e2, e3⟩ := kTo_sb a (mTk m) X t2.2.1 h
        exact ⟨m', e1, e2, e3⟩
      · obtain ⟨m', e1, e2, e3⟩ := kTo_sb b (mAn m) X t2.2.2 h
        exact ⟨m', e1, e2, e3⟩
theorem sbT_in {x : tY × List gFc} {A2 : List (gN × gTe)} : ∀ (y : tY) (X : gTy), sbT y (.inl x, A2) X → X = (.inl x, A2)
  | .leaf, _, h => h.elim
  | .inner k _ _ a b, X, h => by
    rcases h with h | ⟨-, h | h⟩
    · exact h
    · exact sbT_in a X h
    · exact sbT_in b X h
theorem mdT_sb {st : Nat} {l : Nat → Nat} {b0 : Nat} {nq : tQ → Int} {E : gN → Nat → Prop} {k : Nat} {A X : gTy} (h : kRl st l b0 nq xs Ψ σ E k A) (hX : sbT (gSy A) A X) : mdT Ψ σ X := fun m em => by
  obtain ⟨A1, A2⟩ := A
  match A1, h, hX with
  | .inl x, _, hX =>
    rw [sbT_in _ X hX] at em
    cases em
  | .inr m0, h, hX =>
    obtain ⟨m', e1, e2, e3⟩ := kTo_sb _ m0 X h.2.1 hX
    rw [e1] at em
    injection em with em
    rw [← em]
    exact ⟨by rw [e2]; exact h.1.1, e3⟩
theorem c_ac2 (hT : 200200 ≤ T) (hn : 162 ≤ n) (hp : pgT T len cnt j kk pp ee f fc xs is e α) (hR : pgR T len cnt kk pp ee f xs is e α N S P A x0 g' ρ' τ) (hi : pGi T f pp ee xs is e α (τ.2.2.1 32) inv) (mx : gMx f pp ee (pTE f pp ee is e α) (pTN f pp ee is e α) 59 e (is.map Prod.fst)) (h6 : dR6 (pGm T f pp ee xs is e α (τ.2.2.1 32) inv) (pWk T f pp ee is e α q0 A0).1.2.1 (pWk T f pp ee is e α q0 A0).1.2.2 R6) (h10 : (pWk T f pp ee is e α q0 A0).1.2.1.length ≤ 12000) (h11 : (pWk T f pp ee is e α q0 A0).1.2.2.length ≤ 12000) (hVs : V.2.1 ≤ s0) (Vfr : ∀ a, V.2.1 ≤ a → V.1 a = none) (hnm : ∀ u, u ∈ is.map Prod.fst ++ tW e → ∃ fs, V.1 ((nm u).getD 0) = some (.inr (6, fs))) (G : jS2 κ T lo cnt p jd kk pp ee f fc xs is e α B V D nm g ρ lv s0 (pWk T f pp ee is e α q0 A0).1 Ψ Ls σ ln ct cs) (P0 : acI sz K σ) (h0 : 0 < sz) (J : jSt σ jd o ca pa ph ta th lenJ W0 b1 cl0 fa0 fo rd wk ps Pj Tr) (hl : lenJ ≤ 201600) (hpa : pa < lo ∧ ph < lo ∧ ta < lo ∧ th < lo) (hs0 : σ.2.1 + 26 < T) : ∃ v σ3 σ4 Fc lk pl, oF κ T (n + 5) 68 [va_rf (some s0)] σ = some (none, σ3) ∧ oF κ T (n + 5) 65 [va_rf (some s0)] σ3 = some (none, σ4) ∧ wyI (s0 + 5) (fun i => s0 + 1 + i) lo (wyP Ψ σ.2.1).2.2.1 K jd o pa ph ta th s0 σ.2.1 (ln 0) lenJ ((chF p V.2.1 jd s0).set 8 (.int v)) (onew σ (.inl (.int, ln 0, .inl (fun _ => 0))) (ln 0)) (onew σ (.inl (.int, ln 0, .inl (fun _ => 0))) (ln 0)) σ3 Fc lk ∧ fdI (s0 + 5) (fun i => s0 + 1 + i) lo (wyP Ψ σ.2.1).2.2.1 K jd o pa ph ta th s0 lenJ ((chF p V.2.1 jd s0).set 8 (.int v)) (onew σ (.inl (.int, ln 0, .inl (fun _ => 0))) (ln 0)) (onew σ (.inl (.int, ln 0, .inl (fun _ => 0))) (ln 0)) σ4 Fc pl ∧ gGr T f pp ee (τ.2.2.1 32) R6 (pGm T f pp ee xs is e α (τ.2.2.1 32) inv) (pFK T f pp ee xs is e α (τ.2.2.1 32) inv (pWk T f pp ee is e α q0 A0).1) (pWk T f pp ee is e α q0 A0).1.2.1 (fun kp => Fc (Ψ.2.1 kp)) ∧ plQ pp (nSo T f pp ee (τ.2.2.1 32) R6 (fun kp => Fc (Ψ.2.1 kp)) (pGm T f pp ee xs is e α (τ.2.2.1 32) inv)) ((pWk T f pp ee is e α q0 A0).1.2.2.flatMap gN2) pl ∧ ln 0 ≤ 12000 := by
  obtain ⟨Dd, ⟨Fn, Nn⟩, hk⟩ := tx_6 (q0 := q0) (A0 := A0) (by omega) hp hR hi mx
  obtain ⟨Ks, k1, k2⟩ := Ks_ex Dd hk
  have gd := tx_gd (q0 := q0) (A0 := A0) (by omega) hp hR hi mx
  have nlf := tx_nl hR
  obtain ⟨-, -, -, t10, t11, t12⟩ := tx_1 (by omega) hp hR.2.1
  have rn := tx_rn (by omega) hp hR.2.1
  have sh : shQ (pGm T f pp ee xs is e α (τ.2.2.1 32) inv) (pTN f pp ee is e α) (pRt f pp ee is e α) := sh_gaM
  obtain ⟨⟨p1, p1', p1''⟩, p2, p3, p4, -, -, p7, p8, p9, p10, p11, p12⟩ := hp
  obtain ⟨-, ⟨r1, -⟩, -⟩ := hR
  obtain ⟨⟨v, ga⟩, tp, ⟨vm, pq⟩, ⟨q1, q2, q3⟩, nl, gn, ps'⟩ := G
  obtain ⟨i1, i2, i3, i4⟩ := P0
  have fl := ga.2.2.2.2
  have l0 : ln 0 ≤ 12000 := by
    rw [fl.1.1]
    exact Nat.le_trans (List.length_filter_le _ _) h10
  have W : wkH T T f fc pp ee (τ.2.2.1 32) (is.map Prod.fst ++ tW e) nm (fun u => (nm u).getD 0) 8008000000002 lo lo V σ Ψ pa ph ta th := ⟨⟨hpa, Nat.le_refl _⟩, ⟨vm.j, by omega, Vfr⟩, fun a ha => by have := q1 a ha; omega, ⟨fun env w => by rw [nFind_cg p9 p1''], fun ps => sPl_a r1 p1'' p9 p12 ps⟩, ⟨fun u hu => ⟨(gn.1 u hu).1, (gn.1 u hu).2.1.1, hnm u hu⟩, gn.2, rn.2.2, by have := rn.1; omega⟩, i1, ⟨by decide, by decide⟩, ps'.1⟩
  obtain ⟨σ3, Fc, lk, w1, w2, w3⟩ := c_wkA (κ := κ) (n := n) (Γ := pGm T f pp ee xs is e α (τ.2.2.1 32) inv) (FK := pFK T f pp ee xs is e α (τ.2.2.1 32) inv (pWk T f pp ee is e α q0 A0).1) (Hm := 102) (cnt := cnt) (kk := kk) (R6 := R6) (K := K) (Ks := Ks) (M := 21960) W hT (by omega) h6.1 ga rfl (by omega) q3 (i4.1 0 h0) ⟨i1, i2, i3⟩ J hl hs0 (fun x hx => by
    obtain ⟨hx1, hx2⟩ := List.mem_filter.mp hx
    obtain ⟨i, hi'⟩ := List.getElem?_of_mem hx
    obtain ⟨Sc, Es, ka, kb, -, -, -, -, -, -, hm⟩ := fl.2.1 i x hi'
    refine ⟨wyF_of sh Dd Fn h6 hx1 hx2 hm, fun m em => ?_⟩
    refine k2 _ ?_
    have h1 : tyK _ _ _ x.2.2 := (Dd.1 x hx1).2.2.2
    rw [← h1 m em]
    have h2 := of_decide_eq_true hx2
    unfold gFa at h2
    rw [em] at h2
    exact h2) (hK_of (fun X ⟨u, hu, hX⟩ => by
      obtain ⟨-, fs', k', -, -, kr⟩ := ps'.2 u ((gd u hu).ne (nlf u hu))
      exact mdT_sb kr (by rw [(gd u hu).1]; exact hX)) Dd fl.2.2 (fun x hx p hp => by
      obtain ⟨k, hk'⟩ := List.getElem?_of_mem hx
      obtain ⟨m, fs, os, Sc, Es, w, -, -, sc, -⟩ := nl.2 k x hk'
      exact scR.mT Sc os x.1 Es sc p hp)) k1 (by decide)
  obtain ⟨σ4, pl, d1, d2, d3⟩ := c_fdA (κ := κ) (n := n) (Γ := pGm T f pp ee xs is e α (τ.2.2.1 32) inv) (Hm := 102) (cnt := cnt) (kk := kk) (R6 := R6) (K := K) W t10 hT (by omega) h6.1 ga nl ⟨rfl, rfl, rfl⟩ (by rw [nl.1]; omega) hs0 i3 (fun x hx => fdF_of sh Dd Nn (fun ps hg hk => sNw_of (by omega) r1 ps hg hk) h6 hx) p7.2 J.ar w2
  exact ⟨v, σ3, σ4, Fc, lk, pl, w1, d1, w2, d2, w3, d3, l0⟩
end AC3
