section CW6
variable {κ : oKv} {T T0 : Nat} {st : Nat} {l : Nat → Nat} {b0 : Nat} {nq : tQ → Int} {xs : List tQ} {pg ch ty : Nat} {cf : List Value} {At : Nat → Nat} {mo : Nat} {g : gG} {ρ : Nat → tY} {lv ov : Int32} {CN : Nat → gCd → Prop} {V : oSt} {lo g0 : Nat} {nm : Nat → Option Nat} {tE tN : Nat → tY} {φ : Nat → Nat} {Us : List Nat} {kk pp ee f fc : Nat → Int32} {B : Nat → Nat} {D : cDt} {Γ : uGm} {C Bd : Int} {rt : Nat → gTm} {M : Nat} {CB : List Nat → List (gCd × Bool) → Prop} {NB : List Nat → List (gCd × Bool) → (Nat × Nat × tT × List tP × List Nat × Nat) → Prop} {cnt : Nat}
theorem cw_6 {d z} {a b : tT} (hcf : cf[6]? = some (.ref (l 3))) (hpp : ∀ u v, u < v → v < cnt → pp u < pp v) (ih : cWk κ T T0 st l b0 nq xs pg ch ty cf At mo g ρ lv ov CN (nRl κ T T0 kk pp ee f fc B D V nm lo) V lo g0 nm tE tN φ Us kk pp ee f fc B D Γ C Bd rt M CB NB cnt a) (gr : ∀ env sc A s, s.2.2.length ≤ (gWk T f pp ee tE tN a env sc A s).1.2.2.length) : cWk κ T T0 st l b0 nq xs pg ch ty cf At mo g ρ lv ov CN (nRl κ T T0 kk pp ee f fc B D V nm lo) V lo g0 nm tE tN φ Us kk pp ee f fc B D Γ C Bd rt M CB NB cnt (.inner 6 d z a b) := by
  intro env sc Sc os Es A s Ψ Ls σ ln ct cs i j m fk tl y N hE hI hN
  obtain ⟨⟨a1, a2, a3, a4⟩, ⟨h2, h2'⟩, ⟨lo1, h3, h3'⟩, h4, h5, h6, h7, h8, h9, h10, h11⟩ := hI
  obtain ⟨n, rfl⟩ : ∃ n, N = n + 7 := ⟨N - 7, by omega⟩
  obtain ⟨⟨r1, r2, -⟩, k, ⟨r3, -⟩, r4, r5⟩ : (i ≤ d.1 ∧ d.1 < j ∧ (6 = 10 → d.2.2.2.1.1 = d.1) ∧ (6 = 33 → d.1 ≤ d.2.2.2.1.1 ∧ d.2.2.2.1.1 ≤ d.1 + 1)) ∧ ∃ k, (d.1 + 1 ≤ k ∧ (6 = 33 → d.2.2.2.1.1 < k)) ∧ tRg a (d.1 + 1) k ∧ tRg b k j := h2
  obtain ⟨o1, x, le, ri, nd, su, su', o2, o3, -, o5, o4⟩ := h3'
  have kj : k ≤ j := tRg.le b k j r5
  have hm : lo ≤ m := by have := o1.1; omega
  have a1 : CB env (scC sc) ∧ NB env (scC sc) (d.1 + 2, 3, .leaf, d.2.2.2.1.2, env, gNu f pp ee env (d.1 + 1)) ∧ eT a ∧ gHq T f pp ee tE tN Γ C Bd rt M CB NB a env (scC sc) := a1
  have a2 : tN (gNu f pp ee env (d.1 + 1)) = yB 2 ∧ (gSo f pp ee tN env d.2.2.2.1.2 ∧ gSo f pp ee tN env d.2.2.2.2.2) ∧ gOk f pp ee tE tN a env y := a2
  have hH : tH (.inner 6 d z a b) = max (tH a) (tH b) + 1 := rfl
  obtain ⟨gs, g1, gl, g3⟩ := h7.2.2.1.1.nd hm o2
  have h11 : (gWk T f pp ee tE tN a env sc A (gNe (sc, d.1 + 2, 3, .leaf, d.2.2.2.1.2, env, gNu f pp ee env (d.1 + 1)) s)).1.2.2.length ≤ 12000 := h11
  have l3 := h7.len.2
  have lg := gr env sc A (gNe (sc, d.1 + 2, 3, .leaf, d.2.2.2.1.2, env, gNu f pp ee env (d.1 + 1)) s)
  have lg : (s.2.2 ++ [(sc, d.1 + 2, 3, Std.DTreeMap.Internal.Impl.leaf, d.2.2.2.1.2, env, gNu f pp ee env (d.1 + 1))]).length ≤ _ := lg
  rw [List.length_append] at lg
  obtain ⟨σ1, ct1, cs1, R1, G1, ⟨k1, w1⟩, c1⟩ := (h7.ix r1).nd (T := T) (n := n) (w := d.1) (x := (d.1 + 2, 3, .leaf, d.2.2.2.1.2, env, gNu f pp ee env (d.1 + 1))) hcf h8.1 h8.2.1 g1 gl ((g3 1 (by decide) (by decide)).trans rfl) ⟨Nat.le_refl _, by omega⟩ ((g3 17 (by decide) (by decide)).trans rfl) ⟨lo1, _, nd, ⟨h3, hm⟩, ⟨o2, rfl, rfl⟩, fun q => absurd q (show ¬ (3 : Nat) = 0 by decide), fun q => absurd q (show ¬ ((3 : Nat) = 1 ∨ (3 : Nat) = 2) by decide), fun _ => ⟨d.1 + 1, le, _, _, su, d.2.2.2.1, rfl, rfl, o3, o5⟩⟩ (by omega) hpp
  obtain ⟨gs1, g11, -, g13⟩ := G1.2.2.1.1.nd hm o2
  have E1 := h8.sp (Dn' := dnO g0 φ tl) (Ls' := Ls) (q' := s.1) k1 (gAg.rf _ _) h7.2.1.1.1 (fun _ _ z => z) (fun _ z => z) (fun _ z => z) (fun _ _ => rfl)
  have W := ih env sc Sc os Es A (gNe (sc, d.1 + 2, 3, .leaf, d.2.2.2.1.2, env, gNu f pp ee env (d.1 + 1)) s) Ψ Ls _ _ ct1 cs1 (d.1 + 1) k x fk tl y (n + 6) a1.2.2.1 ⟨⟨a1.2.2.2, a2.2.2, a3, a4.1.2.1, a4.2.2.1⟩, ⟨r4, by omega⟩, ⟨lo1, h3, cTX.kp k1 o4⟩, h4, h5, fun q q1 q2 => h6 q (by omega) (by omega), G1, E1, by omega, h10, h11⟩ (by omega)
  have f12 : ofd σ1 (some m) 7 12 = some (.ref x) := (ofd_at g11).trans ((g13 12 (by decide) (by decide)).trans rfl)
  obtain ⟨v, hv⟩ := G1.2.1.2.2.2.1
  rw [R1]
  unfold oj_X0_walk_21
  rw [c_pl0 g11 ((g13 0 (by decide) (by decide)).trans rfl), ovi_i, obn_at, if_neg (by decide), if_neg (by decide), if_neg (by decide), if_neg (by decide), if_neg (by decide), if_neg (by decide), if_neg (by decide), if_pos rfl, f12, ovr_rf, obn_at, oob_at hv, obn_at]
  obtain ⟨σ', kk', Ψ', Ls', ln', ct', cs', w1', w2, w3, ⟨w4, w4'⟩, ⟨w5, w6⟩, w7, w8⟩ := W
  rw [w1', orn_at]
  refine ⟨σ', kk', Ψ', Ls', ln', ct', cs', rfl, w2, w3.ix kj, ⟨(gAg.rf σ Ψ).tr w4 k1.2.2.2, fun q hq => (w4' q hq).imp id (fun z => ⟨by omega, by omega⟩)⟩, ⟨(k1.mo (fun _ z => z.elim)).tr w5, (w1.mo r1 (by omega)).tr (w6.mo (by omega) kj)⟩, w7, ?_⟩
  obtain ⟨x1, x2, x3⟩ := c1.tr w8
  exact ⟨x1, by show _ ≤ _ + 10 * (wCo T f pp ee tE tN xs a env sc A (gNe (sc, d.1 + 2, 3, .leaf, d.2.2.2.1.2, env, gNu f pp ee env (d.1 + 1)) s)).1; omega, by show _ ≤ _ + (wCo T f pp ee tE tN xs a env sc A (gNe (sc, d.1 + 2, 3, .leaf, d.2.2.2.1.2, env, gNu f pp ee env (d.1 + 1)) s)).2; omega⟩
end CW6
