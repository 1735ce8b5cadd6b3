/-! run(): parts of an E that can be run can be run -/
section XMC
variable {T cnt : Nat} {kk f pp ee : Nat → Int32} {tE tN : Nat → tY} {R : Nat → Int32} {L : List Nat} {y0 : tY} {h h' : xmHp} {env : List Nat} {vs : List xmV} {y : tY} {v : xmV} {t : tT} {ps : List tP} {d : Nat × Nat × Nat × tS × tS} {z : Unit} {a b : tT}
theorem xmE.k1 (w : xmE cnt kk f pp ee tE tN R L (.inner 1 d z a b) env y) : xmE cnt kk f pp ee tE tN R L a env (tN (d.1 + 1)) ∧ xmE cnt kk f pp ee tE tN R L b (env ++ [d.1 + 1]) y := by
  obtain ⟨⟨g, r⟩, ⟨wf, p⟩, ⟨n1, n2, n3⟩, n4, n5⟩ := w
  unfold gOk at g
  unfold rWo at r
  unfold tWf at wf
  unfold tW at n2 n3
  unfold rEv at n5
  simp only [reduceIte, Nat.reduceEqDiff, or_false, or_self, false_or, false_and, true_and] at g r wf n2 n3 n5
  obtain ⟨e, ga, gb⟩ := g
  obtain ⟨r0, ra, rb⟩ := r
  obtain ⟨m1, m2⟩ := List.nodup_cons.mp n2
  obtain ⟨m3, m4, m5⟩ := List.nodup_append.mp m2
  have m0 := n3 _ (List.mem_cons_self ..)
  refine ⟨⟨⟨ga, ra⟩, ⟨by simp_all, p.a (by decide)⟩, ⟨n1, m3, fun u hu => n3 u (List.mem_cons_of_mem _ (List.mem_append_left _ hu))⟩, n4, n5.2.1⟩, ⟨gb, rb⟩, ⟨by simp_all, p.b⟩, ⟨?_, m4, fun u hu hm => ?_⟩, fun u hu => ?_, n5.2.2⟩
  · refine List.nodup_append.mpr ⟨n1, List.nodup_cons.mpr ⟨(fun z => by cases z), List.nodup_nil⟩, fun x hx y hy e => m0 ?_⟩
    rw [← List.mem_singleton.mp hy, ← e]; exact hx
  · rcases List.mem_append.mp hm with q | q
    · exact n3 u (List.mem_cons_of_mem _ (List.mem_append_right _ hu)) q
    · rw [List.mem_singleton.mp q] at hu
      exact m1 (List.mem_append_right _ hu)
  · rcases List.mem_append.mp hu with q | q
    · exact n4 u q
    · rw [List.mem_singleton.mp q]; exact r0
theorem xmE.k2 (w : xmE cnt kk f pp ee tE tN R L (.inner 2 d z a b) env y) : (∃ r, tN (d.1 + 2) = gFn tN d.2.1 (d.1 + 3) r ∧ xmE cnt kk f pp ee tE tN R L a ((env ++ [d.1 + 2]) ++ List.range' (d.1 + 3) d.2.1) r) ∧ xmE cnt kk f pp ee tE tN R L b (env ++ [d.1 + 2]) y ∧ 1 ≤ d.2.1 ∧ d.2.1 ≤ 4 := by
  obtain ⟨⟨g, r⟩, ⟨wf, p⟩, ⟨n1, n2, n3⟩, n4, n5⟩ := w
  unfold gOk at g
  unfold rWo at r
  unfold tWf at wf
  unfold tW at n2 n3
  unfold rEv at n5
  have p1 := p.2.1.1 rfl
  simp only [reduceIte, Nat.reduceEqDiff, or_false, or_self, false_or, false_and, true_and] at g r wf n2 n3 n5
  obtain ⟨e, ⟨r', er, ga⟩, gb⟩ := g
  obtain ⟨⟨r0, r1⟩, ra, rb⟩ := r
  obtain ⟨m1, m2⟩ := List.nodup_cons.mp n2
  obtain ⟨m3, m4, m5⟩ := List.nodup_append.mp m2
  obtain ⟨m6, m7, m8⟩ := List.nodup_append.mp m4
  have m0 := n3 _ (List.mem_cons_self ..)
  have nd1 : (env ++ [d.1 + 2]).Nodup := by
    refine List.nodup_append.mpr ⟨n1, List.nodup_cons.mpr ⟨(fun z => by cases z), List.nodup_nil⟩, fun x hx y hy e => m0 ?_⟩
    rw [← List.mem_singleton.mp hy, ← e]; exact hx
  have to1 : ∀ u, u ∈ env ++ [d.1 + 2] → rTo R L u := fun u hu => by
    rcases List.mem_append.mp hu with q | q
    · exact n4 u q
    · rw [List.mem_singleton.mp q]; exact r0
  have out : ∀ u, u ∈ List.range' (d.1 + 3) d.2.1 ++ (tW a ++ tW b) → u ∉ env ++ [d.1 + 2] := fun u hu hm => by
    rcases List.mem_append.mp hm with q | q
    · exact n3 u (List.mem_cons_of_mem _ hu) q
    · rw [List.mem_singleton.mp q] at hu
      exact m1 hu
  have ga' : gOk f pp ee tE tN a ((env ++ [d.1 + 2]) ++ List.range' (d.1 + 3) d.2.1) r' := by rw [List.append_assoc]; exact ga
  have ra' : rWo f pp ee R L a ((env ++ [d.1 + 2]) ++ List.range' (d.1 + 3) d.2.1) := by rw [List.append_assoc]; exact ra
  refine ⟨⟨r', er, ⟨ga', ra'⟩, ⟨by simp_all, p.a (by decide)⟩, ⟨?_, m6, fun u hu hm => ?_⟩, fun u hu => ?_, by rw [List.append_assoc]; exact n5.2.1⟩, ⟨⟨gb, rb⟩, ⟨by simp_all, p.b⟩, ⟨nd1, m7, fun u hu => out u (List.mem_append_right _ (List.mem_append_right _ hu))⟩, to1, n5.2.2⟩, p1, by simp_all⟩
  · exact List.nodup_append.mpr ⟨nd1, m3, fun x hx y hy e => out y (List.mem_append_left _ hy) (e ▸ hx)⟩
  · rcases List.mem_append.mp hm with q | q
    · exact out u (List.mem_append_right _ (List.mem_append_left _ hu)) q
    · exact m5 u q u (List.mem_append_left _ hu) rfl
  · rcases List.mem_append.mp hu with q | q
    · exact to1 u q
    · obtain ⟨i, hi, rfl⟩ := List.mem_range'.mp q
      have := r1 i hi
      rw [Nat.one_mul]
      exact this
theorem xmE.k3 (w : xmE cnt kk f pp ee tE tN R L (.inner 3 d z a b) env y) : tE d.1 = y ∧ ∃ r, y = yA (tN (d.1 + 1)) r ∧ xmE cnt kk f pp ee tE tN R L a (env ++ [d.1 + 1]) r := by
  obtain ⟨⟨g, r⟩, ⟨wf, p⟩, ⟨n1, n2, n3⟩, n4, n5⟩ := w
  unfold gOk at g
  unfold rWo at r
  unfold tWf at wf
  unfold tW at n2 n3
  unfold rEv at n5
  simp only [reduceIte, Nat.reduceEqDiff, or_false, or_self, false_or, false_and, true_and] at g r wf n2 n3 n5
  obtain ⟨e, r', er, ga⟩ := g
  obtain ⟨r0, ra⟩ := r
  obtain ⟨m1, m2⟩ := List.nodup_cons.mp n2
  have m0 := n3 _ (List.mem_cons_self ..)
  refine ⟨e, r', er, ⟨ga, ra⟩, ⟨by simp_all, p.a (by decide)⟩, ⟨?_, m2, fun u hu hm => ?_⟩, fun u hu => ?_, n5.2⟩
  · refine List.nodup_append.mpr ⟨n1, List.nodup_cons.mpr ⟨(fun z => by cases z), List.nodup_nil⟩, fun x hx y hy e => m0 ?_⟩
    rw [← List.mem_singleton.mp hy, ← e]; exact hx
  · rcases List.mem_append.mp hm with q | q
    · exact n3 u (List.mem_cons_of_mem _ hu) q
    · rw [List.mem_singleton.mp q] at hu
      exact m1 hu
  · rcases List.mem_append.mp hu with q | q
    · exact n4 u q
    · rw [List.mem_singleton.mp q]; exact r0
theorem xmE.k4 (w : xmE cnt kk f pp ee tE tN R L (.inner 4 d z a b) env y) : (gCk f pp ee tN env a ∧ rWs f pp ee R L env (cEv a) ∧ cWf cnt a false ∧ (tGd kk cnt a ∧ tO3 a ∧ xcR a ∧ kD a ≤ 1300)) ∧ ∃ d' z' x x', b = .inner 31 d' z' x x' ∧ xmE cnt kk f pp ee tE tN R L x env y ∧ xmE cnt kk f pp ee tE tN R L x' env y ∧ tE d.1 = y := by
  obtain ⟨⟨g, r⟩, ⟨wf, p⟩, ⟨n1, n2, n3⟩, n4, n5⟩ := w
  unfold gOk at g
  unfold rWo at r
  unfold tWf at wf
  unfold tW at n2 n3
  unfold rEv at n5
  simp only [reduceIte, Nat.reduceEqDiff, or_false, or_self, false_or, false_and, true_and, true_or] at g r wf n2 n3 n5
  have cr := p.2.2.2.2.2.2.2.1
  rw [if_pos (Or.inl rfl)] at cr
  obtain ⟨e, gc, gb⟩ := g
  obtain ⟨rc, rb⟩ := r
  have wc : cWf cnt a false ∧ tWf kk cnt b 1 := by simp_all
  refine ⟨⟨gc, rc, wc.1, p.2.2.1.2.2.2.1, p.2.2.2.2.1.2.2.1, cr⟩, ?_⟩
  have wb := wc.2
  have pb := p.b
  cases b with
  | leaf => cases wb
  | inner g' d' z' x x' =>
    rcases wb with ⟨-, c, -, w1, w2⟩ | ⟨c, -⟩ | ⟨c, -⟩
    · subst c
      unfold gOk at gb
      unfold rWo at rb
      unfold tW at n2 n3
      have n6 := n5.2
      unfold rEv at n6
      simp only [reduceIte, Nat.reduceEqDiff, or_false, or_self, false_or, false_and, true_and] at gb rb n2 n3 n6
      obtain ⟨m3, m4, m5⟩ := List.nodup_append.mp n2
      exact ⟨d', z', x, x', rfl, ⟨⟨gb.1, rb.2.2.1⟩, ⟨w1, pb.a (by decide)⟩, ⟨n1, m3, fun u hu => n3 u (List.mem_append_left _ hu)⟩, n4, n6.2.1⟩, ⟨⟨gb.2, rb.2.2.2⟩, ⟨w2, pb.b⟩, ⟨n1, m4, fun u hu => n3 u (List.mem_append_right _ hu)⟩, n4, n6.2.2⟩, e⟩
    · cases c
    · cases c
theorem xmE.k5 (w : xmE cnt kk f pp ee tE tN R L (.inner 5 d z a b) env y) : (gCk f pp ee tN env a ∧ rWs f pp ee R L env (cEv a) ∧ cWf cnt a false ∧ (tGd kk cnt a ∧ tO3 a ∧ xcR a ∧ kD a ≤ 1300)) ∧ xmE cnt kk f pp ee tE tN R L b env y := by
  obtain ⟨⟨g, r⟩, ⟨wf, p⟩, ⟨n1, n2, n3⟩, n4, n5⟩ := w
  unfold gOk at g
  unfold rWo at r
  unfold tWf at wf
  unfold tW at n2 n3
  unfold rEv at n5
  simp only [reduceIte, Nat.reduceEqDiff, or_false, or_self, false_or, false_and, true_and, or_true] at g r wf n2 n3 n5
  have cr := p.2.2.2.2.2.2.2.1
  rw [if_pos (Or.inr rfl)] at cr
  have wc : cWf cnt a false ∧ tWf kk cnt b 0 := by simp_all
  exact ⟨⟨g.1, r.1, wc.1, p.2.2.1.2.2.2.1, p.2.2.2.2.1.2.2.1, cr⟩, ⟨g.2, r.2⟩, ⟨wc.2, p.b⟩, ⟨n1, n2, n3⟩, n4, n5.2⟩
theorem xmE.k6 (w : xmE cnt kk f pp ee tE tN R L (.inner 6 d z a b) env y) : (tN (gNu f pp ee env (d.1 + 1)) = yB 2 ∧ (gSo f pp ee tN env d.2.2.2.1.2 ∧ gSo f pp ee tN env d.2.2.2.2.2) ∧ rUs f pp ee R L env (d.1 + 1) ∧ rWs f pp ee R L env (sEv d.2.2.2.1.2) ∧ rWs f pp ee R L env (sEv d.2.2.2.2.2)) ∧ xmE cnt kk f pp ee tE tN R L a env y := by
  obtain ⟨⟨g, r⟩, ⟨wf, p⟩, ⟨n1, n2, n3⟩, n4, n5⟩ := w
  unfold gOk at g
  unfold rWo at r
  unfold tWf at wf
  unfold tW at n2 n3
  unfold rEv at n5
  simp only [reduceIte, Nat.reduceEqDiff, or_false, or_self, false_or, false_and, true_and, true_or] at g r wf n2 n3 n5
  exact ⟨⟨g.1, g.2.1, r.1, r.2.1, r.2.2.1⟩, ⟨g.2.2, r.2.2.2⟩, ⟨by simp_all, p.a (by decide)⟩, ⟨n1, n2, n3⟩, n4, n5.2.1⟩
theorem xmE.k16 (w : xmE cnt kk f pp ee tE tN R L (.inner 16 d z a b) env y) : xmE cnt kk f pp ee tE tN R L a env y := by
  obtain ⟨⟨g, r⟩, ⟨wf, p⟩, ⟨n1, n2, n3⟩, n4, n5⟩ := w
  unfold gOk at g
  unfold rWo at r
  unfold tWf at wf
  unfold tW at n2 n3
  unfold rEv at n5
  simp only [reduceIte, Nat.reduceEqDiff, or_false, or_self, false_or, false_and, true_and] at g r wf n2 n3 n5
  exact ⟨⟨g, r.2.2.1⟩, ⟨by simp_all, p.a (by decide)⟩, ⟨n1, (List.nodup_append.mp n2).1, fun u hu => n3 u (List.mem_append_left _ hu)⟩, n4, n5.2.1⟩
theorem xmE.k19 (w : xmE cnt kk f pp ee tE tN R L (.inner 19 d z a b) env y) : (tN (gNu f pp ee env (d.1 + 1)) = yB 3 ∧ (tN d.2.1 = yB 0 ∧ tN (d.2.1 + 1) = yB 3) ∧ rUs f pp ee R L env (d.1 + 1)) ∧ xmE cnt kk f pp ee tE tN R L a env y ∧ xmE cnt kk f pp ee tE tN R L b (env ++ [d.2.1, d.2.1 + 1]) y := by
  obtain ⟨⟨g, r⟩, ⟨wf, p⟩, ⟨n1, n2, n3⟩, n4, n5⟩ := w
  unfold gOk at g
  unfold rWo at r
  unfold tWf at wf
  unfold tW at n2 n3
  unfold rEv at n5
  simp only [reduceIte, Nat.reduceEqDiff, or_false, or_self, false_or, false_and, true_and] at g r wf n2 n3 n5
  obtain ⟨e, g1, g2, ga, gb⟩ := g
  obtain ⟨r1, ra, r2, rb⟩ := r
  obtain ⟨m3, m4, m5⟩ := List.nodup_append.mp n2
  obtain ⟨m6, m7, m8⟩ := List.nodup_append.mp m4
  refine ⟨⟨g1, g2, r1⟩, ⟨⟨ga, ra⟩, ⟨by simp_all, p.a (by decide)⟩, ⟨n1, m3, fun u hu => n3 u (List.mem_append_left _ hu)⟩, n4, n5.2.1⟩, ⟨gb, rb⟩, ⟨by simp_all, p.b⟩, ⟨?_, m7, fun u hu hm => ?_⟩, fun u hu => ?_, n5.2.2⟩
  · exact List.nodup_append.mpr ⟨n1, m6, fun x hx y hy e => n3 y (List.mem_append_right _ (List.mem_append_left _ hy)) (e ▸ hx)⟩
  · rcases List.mem_append.mp hm with q | q
    · exact n3 u (List.mem_append_right _ (List.mem_append_right _ hu)) q
    · exact m8 u q u hu rfl
  · rcases List.mem_append.mp hu with q | q
    · exact n4 u q
    · rcases List.mem_cons.mp q with q | q
      · rw [q]; exact r2.1
      · rw [List.mem_singleton.mp q]; exact r2.2
end XMC
