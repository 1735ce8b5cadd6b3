section CW7
variable {κ : oKv} {T T0 : Nat} {st : Nat} {l : Nat → Nat} {b0 : Nat} {nq : tQ → Int} {xs : List tQ} {pg ch ty : Nat} {cf : List Value} {At : Nat → Nat} {mo : Nat} {g : gG} {ρ : Nat → tY} {lv ov : Int32} {CN : Nat → gCd → Prop} {V : oSt} {lo lo1 g0 : Nat} {nm : Nat → Option Nat} {tE tN : Nat → tY} {φ : Nat → Nat} {Us : List Nat} {kk pp ee f fc : Nat → Int32} {B : Nat → Nat} {D : cDt} {Γ : uGm} {C Bd : Int} {rt : Nat → gTm} {M : Nat} {CB : List Nat → List (gCd × Bool) → Prop} {NB : List Nat → List (gCd × Bool) → (Nat × Nat × tT × List tP × List Nat × Nat) → Prop} {cnt : Nat} {σ : oSt} {Q : Nat → Prop} {E : gN → Nat → Prop} {na : gN → Nat} {env : List Nat} {e cd su : Nat} {mk al : Int32} {sN : tS}
theorem cSq.at' (hc : cSq κ T0 pp ee fc B D lo1 V e mk cd (nR fc pp ee nm env) sN al su) (hlo : lo ≤ lo1) (h : enC nm na lo env) (hM : vM lo V σ) (hfc : ∀ w, nFind fc pp ee env w = nFind f pp ee env w) (hsp : sPl T0 (fun j => fc j &&& 255) pp ee sN.2 = sPl T f pp ee sN.2) : ∃ gx na' ta cap, σ.1 e = some (.inr (7, gx)) ∧ gx[19]? = some (.ref su) ∧ cSm σ su na' ta cap (sL (nR f pp ee nm env) sN.2) (sPl T f pp ee sN.2) ∧ cSm V su na' ta cap (sL (nR f pp ee nm env) sN.2) (sPl T f pp ee sN.2) ∧ (lo ≤ su ∧ lo ≤ na' ∧ lo ≤ ta ∧ ta < V.2.1) ∧ (sL (nR f pp ee nm env) sN.2).length = (sL (nFind f pp ee env) sN.2).length ∧ sTe (sL (nR f pp ee nm env) sN.2) = gTs f pp ee env sN.2 := by
  obtain ⟨pa, na', ta, cap, pc, q1, -, q3, q4, -, q6, q7, q8⟩ := hc
  have eR : nR fc pp ee nm env = nR f pp ee nm env := funext fun w => by unfold nR; rw [hfc]
  rw [eR] at q1 q3
  rw [hsp] at q3
  obtain ⟨gs, g1, -, g3⟩ := hM.nd (by have := q4.1; omega) q1
  obtain ⟨x1, x2⟩ := h.sl (f := f) (pp := pp) (ee := ee) sN.2
  have hN : ∀ p, p ∈ sL (nR f pp ee nm env) sN.2 → lo ≤ p.1 := fun p hp' => by
    rw [x1] at hp'
    obtain ⟨p0, z1, z2⟩ := List.mem_map.mp hp'
    rw [← z2]
    exact (h.1 p0.1 (x2 p0 z1)).2
  have l3 : lo ≤ su ∧ lo ≤ na' ∧ lo ≤ ta := ⟨by have := q6.1; omega, by have := q7.1; omega, by have := q8.1; omega⟩
  exact ⟨gs, na', ta, cap, g1, (g3 19 (by decide) (by decide)).trans rfl, hM.sm q3 l3 hN, q3, ⟨l3.1, l3.2.1, l3.2.2, q8.2.1⟩, by rw [x1, rMp_len], by rw [x1, sTe_mp]; rfl⟩
theorem cSq.su' (hc : cSq κ T0 pp ee fc B D lo1 V e mk cd (nR fc pp ee nm env) sN al su) (hlo : lo ≤ lo1) (h : enC nm na lo env) (hM : vM lo V σ) (q : pgQ lo V st l b0 σ) (hfc : ∀ w, nFind fc pp ee env w = nFind f pp ee env w) (hsp : sPl T0 (fun j => fc j &&& 255) pp ee sN.2 = sPl T f pp ee sN.2) (hb : b0 ≤ lo) (hQ : ∀ x, Q x → V.2.1 ≤ x) (hbd : -1125899906842624 ≤ (sPl T f pp ee sN.2).toInt ∧ (sPl T f pp ee sN.2).toInt ≤ 1125899906842624) (hE : gTs f pp ee env sN.2 = true → ∀ x e, (gOf T f pp ee env sN.2).1 = some (x, e) → E x (na x)) : suT st l b0 Q σ E su (gTs f pp ee env sN.2) (gOf T f pp ee env sN.2) := by
  obtain ⟨gx, na', ta, cap, -, -, s1, s2, ⟨l1, l2, l3, l4⟩, -, s3⟩ := hc.at' (T := T) (f := f) hlo h hM hfc hsp
  by_cases c : gTs f pp ee env sN.2 = true
  · exact h.su hM q s2 ⟨l1, l2, l3⟩ hb (fun z => by have := hQ _ z; omega) hbd rfl (hE c)
  · exact ⟨na', ta, cap, _, _, s1, s3, fun z => absurd z c⟩
theorem cw_7 {d z} {a b : tT} (hcf : cf[6]? = some (.ref (l 3))) (hpp : ∀ u v, u < v → v < cnt → pp u < pp v) (hfc : ∀ env w, nFind fc pp ee env w = nFind f pp ee env w) (hsp : ∀ ps, sPl T0 (fun j => fc j &&& 255) pp ee ps = sPl T f pp ee ps) (hb : b0 ≤ lo) (hV : V.2.1 ≤ g0) : cWk κ T T0 st l b0 nq xs pg ch ty cf At mo g ρ lv ov CN (nRl κ T T0 kk pp ee f fc B D V nm lo) V lo g0 nm tE tN φ Us kk pp ee f fc B D Γ C Bd rt M CB NB cnt (.inner 7 d z a b) := by
  intro env sc Sc os Es A s Ψ Ls σ ln ct cs i j m fk tl y N hE hI hN
  obtain ⟨⟨a1, a2, a3, a4, a5⟩, ⟨h2, h2'⟩, ⟨lo1, h3, h3'⟩, -, -, -, h7, h8, -, h10, h11⟩ := hI
  obtain ⟨n, rfl⟩ : ∃ n, N = n + 7 := ⟨N - 7, by omega⟩
  obtain ⟨⟨r1, r2, -⟩, -⟩ : (i ≤ d.1 ∧ d.1 < j ∧ (7 = 10 → d.2.2.2.1.1 = d.1) ∧ (7 = 33 → d.1 ≤ d.2.2.2.1.1 ∧ d.2.2.2.1.1 ≤ d.1 + 1)) ∧ ∃ k, (d.1 + 1 ≤ k ∧ (7 = 33 → d.2.2.2.1.1 < k)) ∧ tRg a (d.1 + 1) k ∧ tRg b k j := h2
  obtain ⟨o1, x1, c, su, o2, o3, o4⟩ := h3'
  have hm : lo ≤ m := by have := o1.1; omega
  have a1 : CB env (scC sc) ∧ NB env (scC sc) (d.1, 2, .leaf, d.2.2.2.1.2, env, 0) ∧ (gTs f pp ee env d.2.2.2.1.2 = true → tmW Γ C Bd (gSv tN env) (gOf T f pp ee env d.2.2.2.1.2)) := a1
  obtain ⟨gs, g1, gl, g3⟩ := h7.2.2.1.1.nd hm o2
  have h0 : gs[0]? = some (.int 215) := (g3 0 (by decide) (by decide)).trans rfl
  have sf := a5.1.1 (Or.inr (Or.inr rfl))
  have := wk_pn (κ := κ) (T := T) (n := n) (i := d.1) (j := j) (E := fun y b => (y, b) ∈ Es) (A := if gTs f pp ee env d.2.2.2.1.2 = true then gEq (yB 2) (gOf T f pp ee env d.2.2.2.1.2) else gPl (yB 2)) (dn := 3) (ds := 17) (x := (d.1, 2, .leaf, d.2.2.2.1.2, env, 0)) hcf (h7.ix r1) h8.1 h8.2.1 g1 gl ((g3 1 (by decide) (by decide)).trans rfl) (by omega) ((g3 17 (by decide) (by decide)).trans rfl) ⟨lo1, _, c, ⟨h3, hm⟩, ⟨o2, rfl, rfl⟩, fun q => absurd q (show ¬ (2 : Nat) = 0 by decide), fun _ => ⟨x1, _, _, su, d.2.2.2.1, rfl, o3, o4⟩, fun q => absurd q (show ¬ (2 : Nat) = 3 by decide)⟩ (by
    have e1 := h7.len.2
    have h11 : (s.2.2 ++ [(sc, d.1, 2, Std.DTreeMap.Internal.Impl.leaf, d.2.2.2.1.2, env, 0)]).length ≤ 12000 := h11
    rw [List.length_append] at h11
    omega) h0 (by decide) hpp (by omega) (fun σ1 k1 t1 v1 => by
    obtain ⟨gs1, q1, -, q3⟩ := v1.1.nd hm o2
    obtain ⟨gx, -, -, -, p1, p2, -⟩ := o3.at' (T := T) (f := f) h3 h8.2.2.2.1 v1.1 (hfc env) (hsp _)
    exact c_plA (κ := κ) (T := T) (n := n + 3) t1 q1 ((q3 0 (by decide) (by decide)).trans rfl) ((q3 15 (by decide) (by decide)).trans rfl) p1 p2 (o3.su' (T := T) (f := f) h3 h8.2.2.2.1 v1.1 v1.2 (hfc env) (hsp _) hb (fun x hx => by have := h7.2.2.2.1.1 x hx; omega) sf.1 (fun ht x e hx => h8.en (by
      rw [a3.1]
      exact List.mem_reverse.mpr ((a1.2.2 ht).2.2.2 x e hx)))))
  exact (this.er r1).tu (tl2 := tl ++ wW (.inner 7 d z a b)) (fun u hu => List.mem_append_left _ hu)
theorem cw_11 {NR : Nat → (Nat × Nat × tT × List tP × List Nat × Nat) → Prop} {d z} {a b : tT} (hT : 2010 ≤ T) (hpp : ∀ u v, u < v → v < cnt → pp u < pp v) (hfc : ∀ env w, nFind fc pp ee env w = nFind f pp ee env w) (hsp : ∀ ps, sPl T0 (fun j => fc j &&& 255) pp ee ps = sPl T f pp ee ps) : cWk κ T T0 st l b0 nq xs pg ch ty cf At mo g ρ lv ov CN NR V lo g0 nm tE tN φ Us kk pp ee f fc B D Γ C Bd rt M CB NB cnt (.inner 11 d z a b) := by
  intro env sc Sc os Es A s Ψ Ls σ ln ct cs i j m fk tl y N hE hI hN
  obtain ⟨⟨a1, a2, a3, a4, a5⟩, ⟨h2, h2'⟩, ⟨lo1, h3, h3'⟩, -, -, -, h7, h8, -⟩ := hI
  obtain ⟨n, rfl⟩ : ∃ n, N = n + 7 := ⟨N - 7, by omega⟩
  have ij : i ≤ j := tRg.le _ i j h2
  obtain ⟨o1, x1, x2, su, su', o2, o3, o4⟩ := h3'
  obtain ⟨gs, g1, -, g3⟩ := h7.2.2.1.1.nd (by have := o1.1; omega) o2
  obtain ⟨-, -, pb⟩ := a5.1.2.1 (Or.inl rfl)
  obtain ⟨gx, n1, t1, c1, p1, p2, p3, -, -, p4, -⟩ := o3.at' (T := T) (f := f) h3 h8.2.2.2.1 h7.2.2.1.1 (hfc env) (hsp _)
  obtain ⟨gz, n2, t2, c2, q1, q2, q3, -, -, q4, -⟩ := o4.at' (T := T) (f := f) h3 h8.2.2.2.1 h7.2.2.1.1 (hfc env) (hsp _)
  have := wk_pl (κ := κ) (T := T) (n := n + 6) (os := os) (E := fun y b => (y, b) ∈ Es) h7 g1 ((g3 17 (by decide) (by decide)).trans rfl) ((g3 0 (by decide) (by decide)).trans rfl) (by decide) (c_plP (κ := κ) (T := T) (n := n) hT h7.2.1 g1 ((g3 0 (by decide) (by decide)).trans rfl) ((g3 15 (by decide) (by decide)).trans rfl) ((g3 16 (by decide) (by decide)).trans rfl) p1 q1 p2 q2 p3 q3 pb) hpp (by omega) ij
  have := this.tu (tl2 := tl ++ wW (.inner 11 d z a b)) (fun u hu => List.mem_append_left _ hu)
  have gS : gSg T f pp ee 11 env d.2.2.2.1.2 d.2.2.2.2.2 = if (sL (nR f pp ee nm env) d.2.2.2.1.2).length = 0 ∧ (sL (nR f pp ee nm env) d.2.2.2.2.2).length = 0 then gEq (yB 0) (none, (sPl T f pp ee d.2.2.2.1.2).toInt * (sPl T f pp ee d.2.2.2.2.2).toInt) else gPl (yB 0) := by
    unfold gSg
    rw [if_neg (fun q => absurd q.1 (by decide)), p4, q4]
    by_cases c : (sL (nFind f pp ee env) d.2.2.2.1.2).length = 0 ∧ (sL (nFind f pp ee env) d.2.2.2.2.2).length = 0
    · rw [if_pos ⟨rfl, c.1, c.2⟩, if_pos c]
    · rw [if_neg (fun q => c ⟨q.2.1, q.2.2⟩), if_neg c]
  show wkR κ st l b0 nq xs pg ch ty cf At mo g ρ lv ov CN NR pp V lo g0 nm tN φ Us (fun y b => (y, b) ∈ Es) i j tl (tl ++ wW (.inner 11 d z a b)) Ψ Ls σ cs s (gSg T f pp ee 11 env d.2.2.2.1.2 d.2.2.2.2.2) (6, 25) _
  rw [gS]
  exact this
end CW7
