section CW2
def nRl (κ : oKv) (T T0 : Nat) (kk pp ee f fc : Nat → Int32) (B : Nat → Nat) (D : cDt) (V : oSt) (nm : Nat → Option Nat) (lo : Nat) (m : Nat) (x : Nat × Nat × tT × List tP × List Nat × Nat) : Prop := ∃ lo1 fs nd, (lo ≤ lo1 ∧ lo ≤ m) ∧ (V.1 m = some (.inr (7, fs)) ∧ fs[3]? = some (.int (pp x.1)) ∧ fs[17]? = some (.ref nd)) ∧ (x.2.1 = 0 → cTxa T f pp ee x.2.2.1 ∧ cCt κ T0 kk pp ee fc B D lo1 V x.2.2.2.2.1.length (nR fc pp ee nm x.2.2.2.2.1) x.2.2.1 (fun _ => none) 0 nd) ∧ (x.2.1 = 1 ∨ x.2.1 = 2 → ∃ l mk al su sN, sN.2 = x.2.2.2.1 ∧ cSq κ T0 pp ee fc B D lo1 V l mk x.2.2.2.2.1.length (nR fc pp ee nm x.2.2.2.2.1) sN al su ∧ cCq B D lo1 V nd su x.2.2.2.2.1.length (if x.2.1 = 1 then 35 else 301)) ∧ (x.2.1 = 3 → ∃ w l mk al su sN, sN.2 = x.2.2.2.1 ∧ x.2.2.2.2.2 = gNu f pp ee x.2.2.2.2.1 w ∧ cSq κ T0 pp ee fc B D lo1 V l mk x.2.2.2.2.1.length (nR fc pp ee nm x.2.2.2.2.1) sN al su ∧ cIn κ T0 pp ee fc B D lo1 V nd su x.2.2.2.2.1.length (nR fc pp ee nm x.2.2.2.2.1) w sN)
variable {κ : oKv} {T T0 : Nat} {st : Nat} {l : Nat → Nat} {b0 : Nat} {nq : tQ → Int} {xs : List tQ} {pg ch ty : Nat} {cf : List Value} {At : Nat → Nat} {mo : Nat} {g : gG} {ρ : Nat → tY} {lv ov : Int32} {CN : Nat → gCd → Prop} {V : oSt} {lo g0 : Nat} {nm : Nat → Option Nat} {tE tN : Nat → tY} {φ : Nat → Nat} {Us : List Nat} {kk pp ee f fc : Nat → Int32} {B : Nat → Nat} {D : cDt} {Γ : uGm} {C Bd : Int} {rt : Nat → gTm} {M : Nat} {CB : List Nat → List (gCd × Bool) → Prop} {NB : List Nat → List (gCd × Bool) → (Nat × Nat × tT × List tP × List Nat × Nat) → Prop} {cnt : Nat}
theorem cw_12 {d z} {a b : tT} (hcf : cf[6]? = some (.ref (l 3))) (hpp : ∀ u v, u < v → v < cnt → pp u < pp v) : cWk κ T T0 st l b0 nq xs pg ch ty cf At mo g ρ lv ov CN (nRl κ T T0 kk pp ee f fc B D V nm lo) V lo g0 nm tE tN φ Us kk pp ee f fc B D Γ C Bd rt M CB NB cnt (.inner 12 d z a b) := by
  intro env sc Sc os Es A s Ψ Ls σ ln ct cs i j m fk tl y N hE hI hN
  obtain ⟨-, ⟨h2, h2'⟩, ⟨lo1, h3, h3'⟩, -, -, -, h7, h8, -, h10, h11⟩ := hI
  obtain ⟨n, rfl⟩ : ∃ n, N = n + 7 := ⟨N - 7, by omega⟩
  obtain ⟨⟨r1, r2, -⟩, -⟩ : (i ≤ d.1 ∧ d.1 < j ∧ (12 = 10 → d.2.2.2.1.1 = d.1) ∧ (12 = 33 → d.1 ≤ d.2.2.2.1.1 ∧ d.2.2.2.1.1 ≤ d.1 + 1)) ∧ ∃ k, (d.1 + 1 ≤ k ∧ (12 = 33 → d.2.2.2.1.1 < k)) ∧ tRg a (d.1 + 1) k ∧ tRg b k j := h2
  obtain ⟨o1, x1, x2, c, su, su', o2, o3, o4, o5⟩ := h3'
  have hm : lo ≤ m := by have := o1.1; omega
  obtain ⟨gs, g1, gl, g3⟩ := h7.2.2.1.1.nd hm o2
  have h0 : gs[0]? = some (.int 47) := (g3 0 (by decide) (by decide)).trans rfl
  have gS : gSg T f pp ee 12 env d.2.2.2.1.2 d.2.2.2.2.2 = gPl (yB 0) := by
    unfold gSg
    rw [if_neg (fun q => absurd q.1 (by decide)), if_neg (fun q => absurd q.1 (by decide))]
  have := wk_pn (κ := κ) (T := T) (n := n) (i := d.1) (j := j) (E := fun y b => (y, b) ∈ Es) (A := gPl (yB 0)) (dn := 1) (ds := 15) (x := (d.2.1, 1, .leaf, d.2.2.2.2.2, env, 0)) hcf (h7.ix r1) h8.1 h8.2.1 g1 gl ((g3 1 (by decide) (by decide)).trans rfl) (by omega) ((g3 17 (by decide) (by decide)).trans rfl) ⟨lo1, _, c, ⟨h3, hm⟩, ⟨o2, rfl, rfl⟩, fun q => absurd q (show ¬ (1 : Nat) = 0 by decide), fun _ => ⟨x2, _, _, su', d.2.2.2.2, rfl, o4, o5⟩, fun q => absurd q (show ¬ (1 : Nat) = 3 by decide)⟩ (by
    have e1 := h7.len.2
    have h11 : (s.2.2 ++ [(sc, d.2.1, 1, Std.DTreeMap.Internal.Impl.leaf, d.2.2.2.2.2, env, 0)]).length ≤ 12000 := h11
    rw [List.length_append] at h11
    omega) h0 (by decide) hpp (by omega) (fun σ1 k1 t1 v1 => by
    obtain ⟨gs1, q1, -, q3⟩ := v1.1.nd hm o2
    exact c_plI (κ := κ) (T := T) (n := n + 4) t1 q1 (Or.inl ((q3 0 (by decide) (by decide)).trans rfl)))
  have := (this.er r1).tu (tl2 := tl ++ wW (.inner 12 d z a b)) (fun u hu => List.mem_append_left _ hu)
  show wkR κ st l b0 nq xs pg ch ty cf At mo g ρ lv ov CN (nRl κ T T0 kk pp ee f fc B D V nm lo) pp V lo g0 nm tN φ Us (fun y b => (y, b) ∈ Es) i j tl (tl ++ wW (.inner 12 d z a b)) Ψ Ls σ cs (gNe (sc, d.2.1, 1, .leaf, d.2.2.2.2.2, env, 0) s) (gSg T f pp ee 12 env d.2.2.2.1.2 d.2.2.2.2.2) (1, 15) _
  rw [gS]
  exact this
theorem cw_14 {d z} {a b : tT} (hcf : cf[6]? = some (.ref (l 3))) (hpp : ∀ u v, u < v → v < cnt → pp u < pp v) : cWk κ T T0 st l b0 nq xs pg ch ty cf At mo g ρ lv ov CN (nRl κ T T0 kk pp ee f fc B D V nm lo) V lo g0 nm tE tN φ Us kk pp ee f fc B D Γ C Bd rt M CB NB cnt (.inner 14 d z a b) := by
  intro env sc Sc os Es A s Ψ Ls σ ln ct cs i j m fk tl y N hE hI hN
  obtain ⟨-, ⟨h2, h2'⟩, ⟨lo1, h3, h3'⟩, -, -, -, h7, h8, -, h10, h11⟩ := hI
  obtain ⟨n, rfl⟩ : ∃ n, N = n + 7 := ⟨N - 7, by omega⟩
  obtain ⟨⟨r1, r2, -⟩, -⟩ : (i ≤ d.1 ∧ d.1 < j ∧ (14 = 10 → d.2.2.2.1.1 = d.1) ∧ (14 = 33 → d.1 ≤ d.2.2.2.1.1 ∧ d.2.2.2.1.1 ≤ d.1 + 1)) ∧ ∃ k, (d.1 + 1 ≤ k ∧ (14 = 33 → d.2.2.2.1.1 < k)) ∧ tRg a (d.1 + 1) k ∧ tRg b k j := h2
  obtain ⟨o1, x1, nd, su, o2, o3, o4⟩ := h3'
  have hm : lo ≤ m := by have := o1.1; omega
  obtain ⟨gs, g1, gl, g3⟩ := h7.2.2.1.1.nd hm o2
  have h0 : gs[0]? = some (.int 91) := (g3 0 (by decide) (by decide)).trans rfl
  have := wk_pn (κ := κ) (T := T) (n := n) (i := d.1) (j := j) (E := fun y b => (y, b) ∈ Es) (A := gPl (yB 0)) (dn := 1) (ds := 15) (x := (d.1 + 1, 3, .leaf, d.2.2.2.1.2, env, gNu f pp ee env d.1)) hcf (h7.ix r1) h8.1 h8.2.1 g1 gl ((g3 1 (by decide) (by decide)).trans rfl) (by omega) ((g3 17 (by decide) (by decide)).trans rfl) ⟨lo1, _, nd, ⟨h3, hm⟩, ⟨o2, rfl, rfl⟩, fun q => absurd q (show ¬ (3 : Nat) = 0 by decide), fun q => absurd q (show ¬ ((3 : Nat) = 1 ∨ (3 : Nat) = 2) by decide), fun _ => ⟨d.1, x1, _, _, su, d.2.2.2.1, rfl, rfl, o3, o4⟩⟩ (by
    have e1 := h7.len.2
    have h11 : (s.2.2 ++ [(sc, d.1 + 1, 3, Std.DTreeMap.Internal.Impl.leaf, d.2.2.2.1.2, env, gNu f pp ee env d.1)]).length ≤ 12000 := h11
    rw [List.length_append] at h11
    omega) h0 (by decide) hpp (by omega) (fun σ1 k1 t1 v1 => by
    obtain ⟨gs1, q1, -, q3⟩ := v1.1.nd hm o2
    exact c_plI (κ := κ) (T := T) (n := n + 4) t1 q1 (Or.inr ((q3 0 (by decide) (by decide)).trans rfl)))
  exact (this.er r1).tu (tl2 := tl ++ wW (.inner 14 d z a b)) (fun u hu => List.mem_append_left _ hu)
end CW2
