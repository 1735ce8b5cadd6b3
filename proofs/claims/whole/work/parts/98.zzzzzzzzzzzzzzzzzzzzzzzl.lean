section CW13
variable {κ : oKv} {T T0 : Nat} {st : Nat} {l : Nat → Nat} {b0 : Nat} {nq : tQ → Int} {xs : List tQ} {pg ch ty : Nat} {cf : List Value} {At : Nat → Nat} {mo : Nat} {g : gG} {ρ : Nat → tY} {lv ov : Int32} {CN : Nat → gCd → Prop} {V : oSt} {lo g0 : Nat} {nm : Nat → Option Nat} {tE tN : Nat → tY} {φ : Nat → Nat} {Us : List Nat} {kk pp ee f fc : Nat → Int32} {B : Nat → Nat} {D : cDt} {Γ : uGm} {C Bd : Int} {rt : Nat → gTm} {M : Nat} {CB : List Nat → List (gCd × Bool) → Prop} {NB : List Nat → List (gCd × Bool) → (Nat × Nat × tT × List tP × List Nat × Nat) → Prop} {cnt : Nat}
theorem cw_13 {d z} {a b : tT} (hcf : cf[6]? = some (.ref (l 3))) (hpp : ∀ u v, u < v → v < cnt → pp u < pp v) (hfc : ∀ env w, nFind fc pp ee env w = nFind f pp ee env w) (hsp : ∀ ps, sPl T0 (fun j => fc j &&& 255) pp ee ps = sPl T f pp ee ps) (hb : b0 ≤ lo) (hV : V.2.1 ≤ g0) (hal : tAl kk d.2.2.2.2 = 2 ↔ d.2.2.2.2.2.length = 1 ∧ (d.2.2.2.2.2.headD (0, false, 0)).1 = 0 ∧ (d.2.2.2.2.2.headD (0, false, 0)).2.1 = false) : cWk κ T T0 st l b0 nq xs pg ch ty cf At mo g ρ lv ov CN (nRl κ T T0 kk pp ee f fc B D V nm lo) V lo g0 nm tE tN φ Us kk pp ee f fc B D Γ C Bd rt M CB NB cnt (.inner 13 d z a b) := by
  intro env sc Sc os Es A s Ψ Ls σ ln ct cs i j m fk tl y N hE hI hN
  obtain ⟨⟨a1, a2, a3, a4, a5⟩, ⟨h2, h2'⟩, ⟨lo1, h3, h3'⟩, -, -, -, h7, h8, -, h10, h11⟩ := hI
  obtain ⟨n, rfl⟩ : ∃ n, N = n + 7 := ⟨N - 7, by omega⟩
  obtain ⟨⟨r1, r2, -⟩, -⟩ : (i ≤ d.1 ∧ d.1 < j ∧ (13 = 10 → d.2.2.2.1.1 = d.1) ∧ (13 = 33 → d.1 ≤ d.2.2.2.1.1 ∧ d.2.2.2.1.1 ≤ d.1 + 1)) ∧ ∃ k, (d.1 + 1 ≤ k ∧ (13 = 33 → d.2.2.2.1.1 < k)) ∧ tRg a (d.1 + 1) k ∧ tRg b k j := h2
  obtain ⟨o1, x1, x2, c, su, su', o2, o3, o4, o5⟩ := h3'
  have hm : lo ≤ m := by have := o1.1; omega
  obtain ⟨gs, g1, gl, g3⟩ := h7.2.2.1.1.nd hm o2
  have h0 : gs[0]? = some (.int 37) := (g3 0 (by decide) (by decide)).trans rfl
  obtain ⟨-, sf, -⟩ := a5.1.2.1 (Or.inr (Or.inr rfl))
  have l3 : ln 3 ≤ 12100 := by
    have e1 := h7.len.2
    have h11 : (s.2.2 ++ [(sc, d.2.1, 1, Std.DTreeMap.Internal.Impl.leaf, d.2.2.2.2.2, env, 0)]).length ≤ 12000 := h11
    rw [List.length_append] at h11
    omega
  have gS : gSg T f pp ee 13 env d.2.2.2.1.2 d.2.2.2.2.2 = if tAl kk d.2.2.2.2 = 2 ∧ 0 < (sPl T f pp ee d.2.2.2.2.2).toInt then (.inl (yB 0, [(4, (none, 0)), (1, (none, (sPl T f pp ee d.2.2.2.2.2).toInt))]), []) else gPl (yB 0) := by
    unfold gSg
    by_cases q : tAl kk d.2.2.2.2 = 2 ∧ 0 < (sPl T f pp ee d.2.2.2.2.2).toInt
    · rw [if_pos ⟨rfl, (hal.mp q.1).1, (hal.mp q.1).2.1, (hal.mp q.1).2.2, q.2⟩, if_pos q]
    · rw [if_neg (fun w => q ⟨hal.mpr ⟨w.2.1, w.2.2.1, w.2.2.2.1⟩, w.2.2.2.2⟩), if_neg (fun w => absurd w.1 (by decide)), if_neg q]
  have := wk_pn (κ := κ) (T := T) (n := n) (i := d.1) (j := j) (E := fun y b => (y, b) ∈ Es) (A := gSg T f pp ee 13 env d.2.2.2.1.2 d.2.2.2.2.2) (dn := 6) (ds := 27) (x := (d.2.1, 1, .leaf, d.2.2.2.2.2, env, 0)) hcf (h7.ix r1) h8.1 h8.2.1 g1 gl ((g3 1 (by decide) (by decide)).trans rfl) (by omega) ((g3 17 (by decide) (by decide)).trans rfl) ⟨lo1, _, c, ⟨h3, hm⟩, ⟨o2, rfl, rfl⟩, fun q => absurd q (show ¬ (1 : Nat) = 0 by decide), fun _ => ⟨x2, _, _, su', d.2.2.2.2, rfl, o4, o5⟩, fun q => absurd q (show ¬ (1 : Nat) = 3 by decide)⟩ l3 h0 (by decide) hpp (by omega) (fun σ1 k1 t1 v1 => by
    obtain ⟨gs1, q1, -, q3⟩ := v1.1.nd hm o2
    have o4' := o4
    obtain ⟨pa, na', ta, cap, pc, y1, -, -, y4, -⟩ := o4'
    obtain ⟨gx, p1, -, p3⟩ := v1.1.nd (by have := y4.1; omega) y1
    have p6 : gx[6]? = some (.int (tAl kk d.2.2.2.2)) := (p3 6 (by decide) (by decide)).trans rfl
    have p19 : gx[19]? = some (.ref su') := (p3 19 (by decide) (by decide)).trans rfl
    obtain ⟨-, n2, t2, c2, -, -, s1, -⟩ := o4.at' (T := T) (f := f) h3 h8.2.2.2.1 v1.1 (hfc env) (hsp _)
    obtain ⟨gg, hh, z1, -⟩ := id s1
    refine c_plR (κ := κ) (T := T) (n := n + 3) q1 ((q3 0 (by decide) (by decide)).trans rfl) ((q3 16 (by decide) (by decide)).trans rfl) ?_
    rw [gS]
    by_cases q : tAl kk d.2.2.2.2 = 2 ∧ 0 < (sPl T f pp ee d.2.2.2.2.2).toInt
    · rw [if_pos q]
      have hl : ∃ w, d.2.2.2.2.2 = [(0, false, w)] := by
        obtain ⟨w1, w2, w3⟩ := hal.mp q.1
        generalize d.2.2.2.2.2 = ps at w1 w2 w3
        match ps, w1, w2, w3 with
        | [(aa, bb, w)], _, w2, w3 =>
          have w2 : aa = 0 := w2
          have w3 : bb = false := w3
          subst w2 w3
          exact ⟨w, rfl⟩
      obtain ⟨w, hw⟩ := hl
      have hL : sL (nFind f pp ee env) d.2.2.2.2.2 = [] := by rw [hw]; rfl
      have eT : gTs f pp ee env d.2.2.2.2.2 = true := by unfold gTs; rw [hL]; rfl
      have eO : gOf T f pp ee env d.2.2.2.2.2 = (none, (sPl T f pp ee d.2.2.2.2.2).toInt) := by unfold gOf; rw [hL]
      obtain ⟨-, -, -, -, -, -, -, m3⟩ := o4.su' (T := T) (f := f) (Q := Ψ.2.2.1) (E := fun y b => (y, b) ∈ Es) h3 h8.2.2.2.1 v1.1 v1.2 (hfc env) (hsp _) hb (fun x hx => by have := h7.2.2.2.1.1 x hx; omega) sf.1 (fun _ x e hx => by rw [eO] at hx; cases hx)
      obtain ⟨u, u1, u2, u3⟩ := m3 eT
      rw [eO] at u2 u3
      have eu : u = (none, (sPl T f pp ee d.2.2.2.2.2).toInt) := by
        rcases u3 with ⟨-, w2⟩ | ⟨_, _, _, w1, -⟩
        · exact Prod.ext w2 u2.symm
        · cases w1
      rw [eu] at u1
      exact c_rem1 (κ := κ) (T := T) (n := n + 3) t1 p1 (by rw [p6, q.1]) p19 z1 rfl q.2 u1
    · rw [if_neg q]
      exact kMd.up (c_rem0 (κ := κ) (T := T) (n := n + 3) t1 p1 p6 p19 z1 rfl q) (by omega) (by omega))
  exact (this.er r1).tu (tl2 := tl ++ wW (.inner 13 d z a b)) (fun u hu => List.mem_append_left _ hu)
end CW13
