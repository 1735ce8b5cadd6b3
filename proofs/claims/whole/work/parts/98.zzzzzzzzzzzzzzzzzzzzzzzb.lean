section CW5
def nCl (κ : oKv) (T T0 : Nat) (kk pp ee f fc : Nat → Int32) (B : Nat → Nat) (D : cDt) (V : oSt) (nm : Nat → Option Nat) (lo : Nat) (c : Nat) (x : gCd) : Prop := match x with
  | .inl y => cTxa T f pp ee y.1 ∧ ∃ lo1, lo ≤ lo1 ∧ cCt κ T0 kk pp ee fc B D lo1 V y.2.length (nR fc pp ee nm y.2) y.1 (fun _ => none) 0 c
  | .inr u => ∃ lo1 su na ta w env, lo ≤ lo1 ∧ nFind f pp ee env w = some u ∧ cCq B D lo1 V c su env.length 300 ∧ cSm V su na ta 2 (sNo (nR fc pp ee nm env w) 1 []) 0 ∧ cOk B D lo1 V su ∧ cOk B D lo1 V na ∧ cOk B D lo1 V ta
theorem ofd_7 {σ : oSt} {m k : Nat} {v : Value} (h : ofd σ (some m) 7 k = some v) : ∃ fs, σ.1 m = some (.inr (7, fs)) ∧ fs[k]? = some v := by
  simp only [ofd] at h
  split at h
  · rename_i o e
    split at h
    · rename_i c
      exact ⟨o.2, by rw [e, ← c], h⟩
    · cases h
  · cases h
theorem eXw.kp {st : Nat} {l : Nat → Nat} {b0 : Nat} {W : Nat → Prop} {σ σ' : oSt} {g : gG} {ρ tE : Nat → tY} {m u : Nat} (k : gKp st l b0 W σ σ') (h : eXw σ g ρ tE m u) : eXw σ' g ρ tE m u := by
  obtain ⟨c, h1, h2⟩ := h
  obtain ⟨fs, e1, e2⟩ := ofd_7 h1
  obtain ⟨fs', a1, -, a3⟩ := k.2.2.1 _ _ e1
  exact ⟨c, (ofd_at a1).trans ((a3 8 (by decide)).trans e2), h2⟩
theorem eW.ic {Γ : uGm} {C B : Int} {rt : Nat → gTm} {tN : Nat → tY} {env : List Nat} {sc : List gEn} {q : Nat → gTy} {x : gCd × Bool} (h : eW Γ C B rt tN env sc q) : eW Γ C B rt tN env (.inr x :: sc) q := h
variable {κ : oKv} {T T0 : Nat} {st : Nat} {l : Nat → Nat} {b0 : Nat} {nq : tQ → Int} {xs : List tQ} {pg ch ty : Nat} {cf : List Value} {At : Nat → Nat} {mo : Nat} {g : gG} {ρ : Nat → tY} {lv ov : Int32} {V : oSt} {lo g0 : Nat} {nm : Nat → Option Nat} {tE tN : Nat → tY} {φ : Nat → Nat} {Us : List Nat} {kk pp ee f fc : Nat → Int32} {B : Nat → Nat} {D : cDt} {Γ : uGm} {C Bd : Int} {rt : Nat → gTm} {M : Nat} {CB : List Nat → List (gCd × Bool) → Prop} {NB : List Nat → List (gCd × Bool) → (Nat × Nat × tT × List tP × List Nat × Nat) → Prop} {cnt : Nat}
theorem cTX.kp {W : Nat → Prop} {σ σ' : oSt} {t : tT} {env : List Nat} {fk k m lo1 : Nat} {gl : Nat → Option Nat} (kp : gKp st l b0 W σ σ') (h : cTX κ T0 kk pp ee fc B D (fun m u => eXw σ g ρ tE m u) lo1 V nm t env fk gl k m) : cTX κ T0 kk pp ee fc B D (fun m u => eXw σ' g ρ tE m u) lo1 V nm t env fk gl k m := cTX.imo (lo0 := 0) t lo1 env fk gl k m (Nat.zero_le _) (fun _ _ _ _ _ hx => eXw.kp kp hx) h
theorem cw_5 {d z} {a b : tT} (hcf : cf[6]? = some (.ref (l 3))) (hpp : ∀ u v, u < v → v < cnt → pp u < pp v) (ih : cWk κ T T0 st l b0 nq xs pg ch ty cf At mo g ρ lv ov (nCl κ T T0 kk pp ee f fc B D V nm lo) (nRl κ T T0 kk pp ee f fc B D V nm lo) V lo g0 nm tE tN φ Us kk pp ee f fc B D Γ C Bd rt M CB NB cnt b) (gr : ∀ env sc A s, s.2.2.length ≤ (gWk T f pp ee tE tN b env sc A s).1.2.2.length) : cWk κ T T0 st l b0 nq xs pg ch ty cf At mo g ρ lv ov (nCl κ T T0 kk pp ee f fc B D V nm lo) (nRl κ T T0 kk pp ee f fc B D V nm lo) V lo g0 nm tE tN φ Us kk pp ee f fc B D Γ C Bd rt M CB NB cnt (.inner 5 d z a b) := by
  intro env sc Sc os Es A s Ψ Ls σ ln ct cs i j m fk tl y N hE hI hN
  obtain ⟨⟨a1, a2, a3, a4⟩, ⟨h2, h2'⟩, ⟨lo1, h3, h3'⟩, h4, h5, h6, h7, h8, h9, h10, h11⟩ := hI
  obtain ⟨n, rfl⟩ : ∃ n, N = n + 7 := ⟨N - 7, by omega⟩
  obtain ⟨⟨r1, r2, -⟩, k, ⟨r3, -⟩, -, r5⟩ : (i ≤ d.1 ∧ d.1 < j ∧ (5 = 10 → d.2.2.2.1.1 = d.1) ∧ (5 = 33 → d.1 ≤ d.2.2.2.1.1 ∧ d.2.2.2.1.1 ≤ d.1 + 1)) ∧ ∃ k, (d.1 + 1 ≤ k ∧ (5 = 33 → d.2.2.2.1.1 < k)) ∧ True ∧ tRg b k j := h2
  obtain ⟨o1, c, x, o2, o3, o4⟩ := h3'
  have kj : k ≤ j := tRg.le b k j r5
  have hm : lo ≤ m := by have := o1.1; omega
  have a1 : CB env (scC sc) ∧ NB env (scC sc) (d.1, 0, a, [], env, 0) ∧ eT b ∧ gHq T f pp ee tE tN Γ C Bd rt M CB NB b env ((.inl (a, env), true) :: scC sc) := a1
  have a2 : gCk f pp ee tN env a ∧ gOk f pp ee tE tN b env y := a2
  have hH : tH (.inner 5 d z a b) = tH b + 1 := rfl
  obtain ⟨gs, g1, gl, g3⟩ := h7.2.2.1.1.nd hm o2
  have h11 : (gWk T f pp ee tE tN b env (.inr (.inl (a, env), true) :: sc) A (gNe (sc, d.1, 0, a, [], env, 0) s)).1.2.2.length ≤ 12000 := h11
  have l3 := h7.len.2
  have lg := gr env (.inr (.inl (a, env), true) :: sc) A (gNe (sc, d.1, 0, a, [], env, 0) s)
  have lg : (s.2.2 ++ [(sc, d.1, 0, a, [], env, 0)]).length ≤ _ := lg
  rw [List.length_append] at lg
  obtain ⟨σ1, ct1, cs1, R1, G1, ⟨k1, w1⟩, c1⟩ := (h7.ix r1).nd (T := T) (n := n) (w := d.1) (x := (d.1, 0, a, [], env, 0)) hcf h8.1 h8.2.1 g1 gl ((g3 1 (by decide) (by decide)).trans rfl) ⟨Nat.le_refl _, by omega⟩ ((g3 17 (by decide) (by decide)).trans rfl) ⟨lo1, _, c, ⟨h3, hm⟩, ⟨o2, rfl, rfl⟩, fun _ => ⟨a4.2.2.1, o3⟩, fun q => absurd q (show ¬ ((0 : Nat) = 1 ∨ (0 : Nat) = 2) by decide), fun q => absurd q (show ¬ (0 : Nat) = 3 by decide)⟩ (by omega) hpp
  obtain ⟨gs1, g11, -, g13⟩ := G1.2.2.1.1.nd hm o2
  have hfr := G1.2.1.1.1
  have E1 := h8.sp (Dn' := dnO g0 φ tl) (Ls' := Ls) (q' := s.1) k1 (gAg.rf _ _) h7.2.1.1.1 (fun _ _ z => z) (fun _ z => z) (fun _ z => z) (fun _ _ => rfl)
  have E2 := E1.cd (m := c) (c := .inl (a, env)) (hh := true) G1.2.1.1 ⟨a4.2.2.1, lo1, h3, o3⟩
  have on : oNl σ1 (onew σ1 (.inr (10, [va_rf none, .ref c, .int (b01 true), va_rf os])) 4) 1 4 := oNl.new hfr
  obtain ⟨G2, ⟨k2, s2⟩, c2⟩ := G1.nw on (o10_n6 hfr) hpp (by omega)
  have W := ih env (.inr (.inl (a, env), true) :: sc) (.inr (c, true) :: Sc) (some σ1.2.1) Es A (gNe (sc, d.1, 0, a, [], env, 0) s) Ψ Ls _ _ ct1 cs1 k j x fk tl y (n + 6) a1.2.2.1 ⟨⟨a1.2.2.2, a2.2, a3.ic, a4.1.2.2, a4.2.2.2⟩, ⟨r5, h2'⟩, ⟨lo1, h3, cTX.kp (k1.tr k2) o4⟩, h4, h5, fun q q1 q2 => h6 q (by omega) q2, G2.ix (by omega), E2, by show Sc.length + 1 + _ ≤ _; omega, h10, h11⟩ (by omega)
  have ne : ∀ {y cc}, σ1.1 y = some cc → y ≠ σ1.2.1 := fun e z => by rw [z, hfr _ (Nat.le_refl _)] at e; cases e
  have f12 : ofd σ1 (some m) 7 12 = some (.ref x) := (ofd_at g11).trans ((g13 12 (by decide) (by decide)).trans rfl)
  have f14 : ofd (onew σ1 (.inr (10, odef 10)) (oq 10).2.2) (some m) 7 14 = some (.ref c) := (ofd_at ((onew_ne (ne g11)).trans g11)).trans ((g13 14 (by decide) (by decide)).trans rfl)
  obtain ⟨v, hv⟩ := G2.2.1.2.2.2.1
  rw [R1]
  unfold oj_X0_walk_21
  rw [c_pl0 g11 ((g13 0 (by decide) (by decide)).trans rfl), ovi_i, obn_at, if_neg (by decide), if_pos rfl, f12, ovr_rf, obn_at, olet_at, f14, ovr_rf, obn_at, obn_at, show (Value.int 1) = .int (b01 true) from rfl, c_sc13 (n := n + 5), ocv_at, oob_at hv, obn_at]
  obtain ⟨σ', kk', Ψ', Ls', ln', ct', cs', w1', w2, w3, ⟨w4, w4'⟩, ⟨w5, w6⟩, w7, w8⟩ := W
  rw [w1', orn_at]
  refine ⟨σ', kk', Ψ', Ls', ln', ct', cs', rfl, w2, w3, ⟨(gAg.rf σ Ψ).tr w4 (k1.tr k2).2.2.2, fun q hq => (w4' q hq).imp id (fun z => ⟨by omega, z.2⟩)⟩, ⟨((k1.tr k2).mo (fun _ z => z.elim)).tr w5, ((w1.mo r1 (by omega)).tr s2.w7).tr (w6.mo (by omega) (Nat.le_refl _))⟩, w7, ?_⟩
  obtain ⟨x1, x2, x3⟩ := (c1.tr c2).tr w8
  exact ⟨x1, by show _ ≤ _ + 10 * (1 + ((wCo T f pp ee tE tN xs b env (.inr (.inl (a, env), true) :: sc) A (gNe (sc, d.1, 0, a, [], env, 0) s)).1 + 0)); omega, by show _ ≤ _ + (4 + ((wCo T f pp ee tE tN xs b env (.inr (.inl (a, env), true) :: sc) A (gNe (sc, d.1, 0, a, [], env, 0) s)).2 + 0)); omega⟩
end CW5
