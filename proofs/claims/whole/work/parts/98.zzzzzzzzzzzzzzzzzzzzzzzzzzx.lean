/-! findDoubt(): its loop -/
section PLQ
variable {pp : Nat → Int32} {so : gNd × Nat → Prop} {l l' : List (gNd × Nat)} {p mk : Int32}
theorem plQ.al (h : plQ pp so l p) (hs : ∀ y, y ∈ l' → so y) : plQ pp so (l ++ l') p := by
  rcases h with ⟨h1, h2⟩ | ⟨x, x1, x2, x3, x4⟩
  · exact Or.inl ⟨h1, fun y hy => (List.mem_append.mp hy).elim (h2 y) (hs y)⟩
  · exact Or.inr ⟨x, List.mem_append_left _ x1, x2, x3, fun y hy n => (List.mem_append.mp hy).elim (fun z => x4 y z n) (fun z => absurd (hs y z) n)⟩
theorem plQ.sk (h : plQ pp so l p) (h0 : 0 ≤ p) (hm : p ≤ mk) (hs : ∀ y, y ∈ l' → pp y.1.2.1 = mk) : plQ pp so (l ++ l') p := by
  rcases h with ⟨h1, h2⟩ | ⟨x, x1, x2, x3, x4⟩
  · rw [h1] at h0
    exact absurd h0 (by decide)
  · exact Or.inr ⟨x, List.mem_append_left _ x1, x2, x3, fun y hy n => (List.mem_append.mp hy).elim (fun z => x4 y z n) (fun z => by rw [hs y z, ← x3]; exact hm)⟩
theorem plQ.no (h : plQ pp so l p) (hm : p < 0 ∨ mk < p) (hs : ∀ y, y ∈ l' → pp y.1.2.1 = mk) (hn : ∃ y, y ∈ l' ∧ ¬ so y) (hp : ∀ w, 0 ≤ pp w) : plQ pp so (l ++ l') mk := by
  obtain ⟨y, y1, y2⟩ := hn
  refine Or.inr ⟨y, List.mem_append_right _ y1, y2, (hs y y1).symm, fun z hz n => ?_⟩
  rw [hs y y1]
  rcases List.mem_append.mp hz with q | q
  · rcases h with ⟨h1, h2⟩ | ⟨x, x1, x2, x3, x4⟩
    · exact absurd (h2 z q) n
    · have := x4 z q n
      rw [← x3] at this
      rcases hm with c | c
      · have := hp x.1.2.1
        rw [← x3] at this
        rw [Int32.le_iff_toInt_le] at this
        rw [Int32.lt_iff_toInt_lt] at c
        omega
      · rw [Int32.le_iff_toInt_le] at *
        rw [Int32.lt_iff_toInt_lt] at c
        omega
  · rw [hs z q]; exact Int32.le_refl _
end PLQ
/-- the state of findDoubt() -/
def fdI (st : Nat) (l : Nat → Nat) (b0 : Nat) (Q : Nat → Prop) (K : Int) (j o pa ph ta th ch len0 : Nat) (cf : List Value) (σ0 σG σ : oSt) (Fc : Nat → Nat → Bool) (p : Int32) : Prop := (∃ ca len W b cl fa fo rd wk ps P Tr, jSt σ j o ca pa ph ta th len W b cl fa fo rd wk ps P Tr ∧ len ≤ 201600 ∧ gMo len0 len σ0 σ) ∧ wFr Q pa ph ta th σG σ ∧ wkD st l b0 Q σG σ Fc ∧ (∀ w, ¬ Q w → ∀ i, Fc w i = true) ∧ (rwI 0 σ ∧ kn8 σ ∧ cnI K σ) ∧ σ.1 ch = some (.inr (2, cf.set 9 (.int p)))
section FDL
variable {κ : oKv} {T T0 cnt : Nat} {kk f fc pp ee R R6 : Nat → Int32} {L : List Nat} {nm : Nat → Option Nat} {φ : Nat → Nat} {Bb : Int} {B : Nat → Nat} {D : cDt} {lo : Nat} {V : oSt} {st : Nat} {l : Nat → Nat} {b0 : Nat} {Γ : uGm} {Ψ : kGh} {σ0 σG : oSt} {K : Int} {j o pa ph ta th ch N len0 n Hm i0 : Nat} {cf : List Value} {Dn : Nat → Prop} {ct : Nat → Nat → Option Nat} {Ns : List gNd} {Fc : Nat → Nat → Bool}
theorem jSt.n2 {σ : oSt} {ca len W b : Nat} {cl fa : Int32} {fo : Nat → Int64} {rd : Int32} {wk : Option Nat} {ps : Int32} {P Tr : List (Nat × Bool)} (J : jSt σ j o ca pa ph ta th len W b cl fa fo rd wk ps P Tr) {a : Nat} {fs : List Value} {c' : oC} (e : σ.1 a = some (.inr (2, fs))) : jSt (oput σ a c') j o ca pa ph ta th len W b cl fa fo rd wk ps P Tr := by
  obtain ⟨a1, ⟨a2, a3⟩, ⟨gp, hp, a4, a5, -⟩, ⟨gt, ht, a6, a7, -⟩, -⟩ := id J
  refine J.cg (fun x hx => oput_ne (fun z => ?_))
  subst z
  rcases hx with q | q | q | q | q | q | q <;> subst q
  · rw [a1] at e; injection e with e; injection e with e; injection e with e _; cases e
  · rw [a2] at e; injection e with e; injection e with e; injection e with e _; cases e
  · rw [a3] at e; cases e
  · rw [a4] at e; cases e
  · rw [a5] at e; cases e
  · rw [a6] at e; cases e
  · rw [a7] at e; cases e
/-- the first doubt is written -/
theorem fdI.pu {σ : oSt} {p p' : Int32} (h : fdI st l b0 Ψ.2.2.1 K j o pa ph ta th ch len0 cf σ0 σG σ Fc p) : fdI st l b0 Ψ.2.2.1 K j o pa ph ta th ch len0 cf σ0 σG (oput σ ch (.inr (2, (cf.set 9 (.int p)).set 9 (.int p')))) Fc p' := by
  obtain ⟨⟨ca, len, W, b, cl, fa, fo, rd, wk, ps, P, Tr, J, j1, j2⟩, h2, h3, h4, ⟨h5, h6, h7⟩, h8⟩ := h
  have no : ∀ {x cc}, σ.1 x = some cc → (∀ z, cc ≠ .inr (2, z)) → (oput σ ch (.inr (2, (cf.set 9 (.int p)).set 9 (.int p')))).1 x = some cc := fun {x cc} ex n => by
    rw [oput_ne (fun z => by rw [z, h8] at ex; injection ex with ex; exact n _ ex.symm)]; exact ex
  refine ⟨⟨ca, len, W, b, cl, fa, fo, rd, wk, ps, P, Tr, J.n2 h8, j1, j2⟩, h2.ck h8, fun x F hF => ?_, h4, ⟨h5.pu h8 (fun fs' i r z => by injection z with z; injection z with z; exact absurd z (by decide)), h6.pu (fun fs' z => by injection z with z; injection z with z; exact absurd z (by decide)), h7⟩, ?_⟩
  · obtain ⟨ra, sa, g1, g2⟩ := h3 x F hF
    refine ⟨ra, sa, g1.ag (fun x cc ex n hc => no ex (fun z q => ?_)) (fun x gs ex => ⟨gs, no ex (fun z q => by injection q with q; injection q with q; exact absurd q (by decide)), rfl, fun _ _ => rfl⟩), fun z => ⟨?_, (g2 z).2⟩⟩
    · rcases hc with ⟨w, hc⟩ | ⟨w, hc⟩ | ⟨w, hc⟩
      · rw [hc] at q; injection q with q; injection q with q; exact absurd q (by decide)
      · rw [hc] at q; injection q with q; injection q with q; exact absurd q (by decide)
      · rw [hc] at q; cases q
    · obtain ⟨⟨⟨y, r1⟩, ⟨y', r2⟩⟩, r3⟩ := (g2 z).1
      exact ⟨⟨⟨y, no r1 (fun z q => by cases q)⟩, y', no r2 (fun z q => by cases q)⟩, r3⟩
  · rw [oput_eq, List.set_set]
set_option maxHeartbeats 1000000 in
/-- **findDoubt()'s loop** -/
theorem c_fd2 (W : wkH T T0 f fc pp ee R L nm φ Bb lo b0 V σG Ψ pa ph ta th) (h0L : 0 ∉ L) (hT : 100200 ≤ T) (hN : Hm + 60 ≤ n) (hR0 : R6 1500 = 0) (hO : ∀ σ, wFr Ψ.2.2.1 pa ph ta th σG σ → oLs σ (some (l 3)) N (ct 3)) (hcf : cf.length = 10 ∧ cf[2]? = some (.ref j) ∧ cf[6]? = some (.ref (l 3))) (hs0 : σ0.2.1 + 25 < T) (hc0 : cnI K σ0) (hNs : Ns.length = N) (hnd : ∀ (k : Nat) (x : gNd), Ns[k]? = some x → ndR st l b0 Γ.2.2.1 Γ.2.2.2.1 Ψ σG (nCl κ T T0 kk pp ee f fc B D V nm lo) Dn (nRl κ T T0 kk pp ee f fc B D V nm lo) pp i0 (ct 3 k) x ∧ fdF T cnt kk pp ee f R R6 L Γ Bb Hm x) (hp0 : ∀ w, 0 ≤ pp w) : ∀ (d i : Nat) (σ : oSt) (p : Int32) (t : Nat), i + d = N → d < t → fdI st l b0 Ψ.2.2.1 K j o pa ph ta th ch len0 cf σ0 σG σ Fc p → plQ pp (nSo T f pp ee R R6 (fun kp => Fc (Ψ.2.1 kp)) Γ) ((Ns.take i).flatMap gN2) p → ∃ σ' p', ol_X0_findDoubt_2 T (oF κ T (n + 4)) κ t (some ch) (nI i) σ = some (none, σ') ∧ fdI st l b0 Ψ.2.2.1 K j o pa ph ta th ch len0 cf σ0 σG σ' Fc p' ∧ plQ pp (nSo T f pp ee R R6 (fun kp => Fc (Ψ.2.1 kp)) Γ) (Ns.flatMap gN2) p' := by
  intro d
  have hJ := W.1.1
  have hblo := W.1.2
  have cf6 : ∀ p : Int32, (cf.set 9 (.int p))[6]? = some (.ref (l 3)) := fun p => by rw [List.getElem?_set_ne (by decide)]; exact hcf.2.2
  have cf2 : ∀ p : Int32, (cf.set 9 (.int p))[2]? = some (.ref j) := fun p => by rw [List.getElem?_set_ne (by decide)]; exact hcf.2.1
  have cf9 : ∀ p : Int32, (cf.set 9 (.int p))[9]? = some (.int p) := fun p => List.getElem?_set_self (by omega)
  induction d with
  | zero =>
    intro i σ p t hi ht hI hq
    obtain ⟨t, rfl⟩ : ∃ t', t = t' + 1 := ⟨t - 1, by omega⟩
    have hf := hI.2.1
    have hch := hI.2.2.2.2.2
    have L3 := hO σ hf
    obtain ⟨_, _, ob, -⟩ := id L3
    have e1 : ovr (ofd σ (some ch) 2 6) = some (some (l 3)) := by rw [ofd_at hch, cf6]; rfl
    have sz := l_size (κ := κ) (T := T) (n := n + 3) L3
    refine ⟨σ, p, ?_, hI, ?_⟩
    · rw [ol_X0_findDoubt_2, e1, obn_at, ob, obn_at, sz, oin_at, if_pos (by rw [show i = N by omega]; exact Int32.le_refl _)]
    · rw [List.take_of_length_le (by omega)] at hq
      exact hq
  | succ d ih =>
    intro i σ p t hi ht hI hq
    obtain ⟨t, rfl⟩ : ∃ t', t = t' + 1 := ⟨t - 1, by omega⟩
    obtain ⟨⟨ca, len, W1, b, cl, fa, fo, rd, wk, ps, P, Tr, J, j1, j2⟩, hf, hD, hs, ⟨p1, p2, p3⟩, hch⟩ := id hI
    have L3 := hO σ hf
    obtain ⟨_, _, ob, -, -, N31, -⟩ := id L3
    have hiN : i < N := by omega
    have e1 : ovr (ofd σ (some ch) 2 6) = some (some (l 3)) := by rw [ofd_at hch, cf6]; rfl
    have sz := l_size (κ := κ) (T := T) (n := n + 3) L3
    have gt := l_get (κ := κ) (T := T) (n := n + 1) L3 hiN
    obtain ⟨x, hx⟩ : ∃ x, Ns[i]? = some x := ⟨_, List.getElem?_eq_getElem (by omega)⟩
    obtain ⟨⟨m, fs, os, Sc, Es, w, n0, ⟨n1, n2, n3, n4⟩, n5, n6, n7⟩, hxf⟩ := hnd i x hx
    rw [n0] at gt
    have lt2 : σ.2.1 < T := by
      have := j2.cn hc0 p3 j1
      omega
    have mσ : σ.1 m = some (.inr (7, fs)) := hf.o n1 (by decide) (by decide) (by decide) (by decide) (by decide)
    have cs : ocs σ (some m) 7 = true := by simp [ocs, mσ]
    have e9 : ovi (ofd σ (some ch) 2 9) = some p := by rw [ofd_at hch, cf9]; rfl
    have nx : nI i + 1 = nI (i + 1) := nI_p1 i
    have et : Ns.take (i + 1) = Ns.take i ++ [x] := by
      rw [List.take_add_one, hx]; rfl
    have eq : (Ns.take (i + 1)).flatMap gN2 = (Ns.take i).flatMap gN2 ++ gN2 x := by
      rw [et, List.flatMap_append]
      show _ ++ (gN2 x ++ []) = _
      rw [List.append_nil]
    have mkx : ∀ y, y ∈ gN2 x → pp y.1.2.1 = pp x.2.1 := fun y hy => by
      unfold gN2 at hy
      split at hy
      · rcases List.mem_cons.mp hy with z | z
        · rw [z]
        · rw [List.mem_singleton.mp z]
      · rw [List.mem_singleton.mp hy]
    obtain ⟨nd, fV, v, σ', ca', len', W', f', fa', ps', P', Tr', ⟨o1, o2, o3, o4⟩, R1, J1, K1, ⟨G1, G2⟩, V1⟩ := fd_one (κ := κ) (N := n + 3) (Hm := Hm) (R6 := R6) (x := x) W h0L hT (by omega) n5 n7 hxf hR0 hf hD hs J j1 p1.1 lt2
    have R1 : oF κ T (n + 4) 64 [va_rf (some j), va_rf os, va_rf (some nd)] σ = some (some (.int v), σ') := R1
    obtain ⟨gs, g1, g2⟩ := W.2.1.1.nx o1 o2
    rw [n1] at g1
    injection g1 with g1; injection g1 with g1; injection g1 with _ g1
    subst g1
    have m3 : fs[3]? = some (.int (pp x.2.1)) := (g2 3 (by decide) (by decide)).trans o3
    have m17 : fs[17]? = some (.ref nd) := (g2 17 (by decide) (by decide)).trans o4
    have e3 : ovi (ofd σ (some m) 7 3) = some (pp x.2.1) := by rw [ofd_at mσ, m3]; rfl
    -- the question
    have ask : ∀ (hm : p < 0 ∨ pp x.2.1 < p), ∃ σ'' p'', oj_X0_findDoubt_43 T (oF κ T (n + 4)) κ (ol_X0_findDoubt_2 T (oF κ T (n + 4)) κ t) (some ch) (nI i) (some m) σ = some (none, σ'') ∧ fdI st l b0 Ψ.2.2.1 K j o pa ph ta th ch len0 cf σ0 σG σ'' Fc p'' ∧ plQ pp (nSo T f pp ee R R6 (fun kp => Fc (Ψ.2.1 kp)) Γ) (Ns.flatMap gN2) p'' := fun hm => by
      have a2 : ovr (ofd σ (some ch) 2 2) = some (some j) := by rw [ofd_at hch, cf2]; rfl
      have a20 : ovr (ofd σ (some m) 7 20) = some os := by
        rw [ofd_at mσ, n4]
        cases os <;> rfl
      have a17 : ovr (ofd σ (some m) 7 17) = some (some nd) := by rw [ofd_at mσ, m17]; rfl
      have obj : oob σ (some j) 3 = some j := by simp [oob, J.1]
      have q1 : rwI 0 σ' := (cQo_oF (κ := κ) rwI_ok T (n + 4)).c64 _ _ _ σ p1 _ R1
      have q2 : kn8 σ' := (cQo_oF (κ := κ) kn8_ok T (n + 4)).c64 _ _ _ σ p2 _ R1
      have q3 : cnI K σ' := (cQo_oF (κ := κ) cnI_ok T (n + 4)).c64 _ _ _ σ p3 _ R1
      have hch' : σ'.1 ch = some (.inr (2, cf.set 9 (.int p))) := K1.1 ch _ hch ⟨by show (2 : Nat) ≠ 3; decide, by show (2 : Nat) ≠ 8; decide⟩ (fun f z => by injection z with z; injection z with z; exact absurd z (by decide)) (fun f z => by injection z with z; injection z with z; exact absurd z (by decide)) (fun y z => by cases z)
      have hD' : wkD st l b0 Ψ.2.2.1 σG σ' Fc := fun w F hF => by
        obtain ⟨ra, sa, k1, k2⟩ := hD w F hF
        refine ⟨ra, sa, k1.kx hJ K1 (fun _ _ _ _ z => z.elim) (fun z => z) (fun _ => ⟨fun z => z, fun z => z⟩), fun z => ⟨?_, (k2 z).2⟩⟩
        obtain ⟨⟨⟨y, r1⟩, ⟨y', r2⟩⟩, r3, r4, r5⟩ := (k2 z).1
        have r4 : b0 ≤ ra := r4
        have r5 : b0 ≤ sa := r5
        exact ⟨⟨⟨y, K1.1 _ _ r1 ⟨fun e => (by cases e), by omega, by omega, by omega, by omega⟩ (fun f z => by cases z) (fun f z => by cases z) (fun _ _ _ z => z)⟩, y', K1.1 _ _ r2 ⟨fun e => (by cases e), by omega, by omega, by omega, by omega⟩ (fun f z => by cases z) (fun f z => by cases z) (fun _ _ _ z => z)⟩, r3, r4, r5⟩
      have hI' : fdI st l b0 Ψ.2.2.1 K j o pa ph ta th ch len0 cf σ0 σG σ' Fc p := ⟨⟨ca', len', W', 0, 1, fa', f', rd + 1, none, ps', P', Tr', J1, G2, j2.tr G1⟩, hf.kx K1 (fun _ _ _ _ z => z.elim), hD', hs, ⟨q1, q2, q3⟩, hch'⟩
      have m' : σ'.1 m = some (.inr (7, fs)) := K1.1 m _ mσ ⟨by show (7 : Nat) ≠ 3; decide, by show (7 : Nat) ≠ 8; decide⟩ (fun f z => by injection z with z; injection z with z; exact absurd z (by decide)) (fun f z => by injection z with z; injection z with z; exact absurd z (by decide)) (fun y z => by cases z)
      unfold oj_X0_findDoubt_43
      rw [a2, obn_at, a20, obn_at, a17, obn_at, obj, obn_at, R1, oin_at]
      rcases V1 with ⟨v1, v2⟩ | ⟨v1, v2⟩
      · rw [v1, if_neg (by decide)]
        unfold oj_X0_findDoubt_69
        rw [nx]
        exact ih (i + 1) σ' p t (by omega) (by omega) hI' (by rw [eq]; exact hq.al v2)
      · have e3' : ovi (ofd σ' (some m) 7 3) = some (pp x.2.1) := by rw [ofd_at m', m3]; rfl
        rw [v1, if_pos rfl, e3', obn_at, opf_at hch' (by rw [List.length_set]; omega), obn_at]
        unfold oj_X0_findDoubt_69
        rw [nx]
        exact ih (i + 1) _ (pp x.2.1) t (by omega) (by omega) hI'.pu (by rw [eq]; exact hq.no hm mkx v2 hp0)
    rw [ol_X0_findDoubt_2, e1, obn_at, ob, obn_at, sz, oin_at, if_neg (nI_ge hiN N31), e1, obn_at, ob, obn_at, gt, orn_at, ogd_at cs, e9, obn_at]
    by_cases c1 : p < 0
    · rw [if_pos c1]
      exact ask (Or.inl c1)
    · rw [if_neg c1, e3, obn_at, obn_at]
      by_cases c2 : p ≤ pp x.2.1
      · rw [if_pos c2]
        unfold oj_X0_findDoubt_69
        rw [nx]
        exact ih (i + 1) σ p t (by omega) (by omega) hI (by rw [eq]; exact hq.sk (Int32.not_lt.mp c1) c2 mkx)
      · rw [if_neg c2]
        exact ask (Or.inr (Int32.not_le.mp c2))
end FDL
