/-! what a tree must be that all of it can be asked: put together -/
section GHR
variable {T cnt : Nat} {kk f pp ee R : Nat → Int32} {tE tN : Nat → tY} {L : List Nat} {Γ : uGm} {C B : Int} {rt : Nat → gTm} {M : Nat} {CB : List Nat → List (gCd × Bool) → Prop} {NB : List Nat → List (gCd × Bool) → (Nat × Nat × tT × List tP × List Nat × Nat) → Prop}
theorem rTo.m {w : Nat} (h : rTo R L w) : w ∈ L := by
  obtain ⟨n, _, h⟩ := h
  exact List.mem_of_getElem? h
theorem rUs.m {env : List Nat} {w : Nat} (h : rUs f pp ee R L env w) : gNu f pp ee env w ∈ env := by
  obtain ⟨n, u, _, _, h⟩ := h
  obtain ⟨k, _, e⟩ := nFind_mem h
  unfold gNu
  rw [h]
  exact List.mem_of_getElem? e
theorem gHq_of (hu : ∀ w, w ∈ L → uNm Γ (.inl w)) : ∀ (t : tT) (l : Nat) (env : List Nat) (cs : List (gCd × Bool)), tWf kk cnt t l → rWo f pp ee R L t env → (tW t).Nodup → (∀ w, w ∈ tW t → w ∉ env) → (∀ m, m ∈ tLe tE tN t env → rt m.1 = m) → gMx f pp ee tE tN M t env → gHb T f pp ee tN Γ C B rt CB NB t env cs → gHq T f pp ee tE tN Γ C B rt M CB NB t env cs
  | .leaf, _, _, _, _, _, _, _, _, _, _ => trivial
  | .inner g d z a b, l, env, cs, wf, wo, nd, nw, hr, mx, hb => by
    obtain ⟨w1, w2, w3, w4, w5, w6, w7, w8, w9⟩ := wf.ch
    have Ia := fun l env cs => gHq_of hu a l env cs
    have Ib := fun l env cs => gHq_of hu b l env cs
    have two : ∀ {x y : List Nat}, (x ++ y).Nodup → x.Nodup ∧ y.Nodup ∧ ∀ w, w ∈ x → w ∉ y := fun h => by
      obtain ⟨h1, h2, h3⟩ := List.nodup_append.mp h
      exact ⟨h1, h2, fun w hw hw' => h3 w hw w hw' rfl⟩
    have ex : ∀ {env : List Nat} {w x : Nat}, w ∉ env → w ≠ x → w ∉ env ++ [x] := fun h1 h2 h => (List.mem_append.mp h).elim h1 (fun z => h2 (List.mem_singleton.mp z))
    unfold rWo at wo
    unfold tW at nd nw
    unfold tLe at hr
    unfold gMx at mx
    unfold gHb at hb
    unfold gHq
    refine ⟨hb.1, ?_⟩
    replace hb := hb.2
    obtain ⟨m0, mx⟩ := mx
    rcases (by omega : g = 1 ∨ g = 2 ∨ g = 3 ∨ g = 4 ∨ g = 5 ∨ g = 6 ∨ g = 7 ∨ g = 8 ∨ g = 9 ∨ g = 10 ∨ g = 11 ∨ g = 12 ∨ g = 13 ∨ g = 14 ∨ g = 15 ∨ g = 16 ∨ g = 17 ∨ g = 18 ∨ g = 19 ∨ g = 31 ∨ g = 33 ∨ g = 34 ∨ g = 35) with h | h | h | h | h | h | h | h | h | h | h | h | h | h | h | h | h | h | h | h | h | h | h <;> subst h <;> simp only [reduceIte, Nat.reduceEqDiff, or_self, or_false, false_or, or_true, true_or] at wo nd nw hr mx hb m0 w1 w2 w3 w4 w5 w6 w7 ⊢
    · have rc := hr _ (List.mem_cons_self ..)
      obtain ⟨n0, n1⟩ := List.nodup_cons.mp nd
      obtain ⟨n2, n3, n4⟩ := two n1
      obtain ⟨wa, wb⟩ := w1 trivial
      refine ⟨⟨⟨rc, (m0 trivial).1, (m0 trivial).2, List.nodup_nil, fun w h => (by cases h)⟩, ⟨nw _ (List.mem_cons_self ..), hu _ wo.1.m⟩, mx.1, hb.1⟩, ⟨wa.e, wb.e⟩, Ia 0 env cs wa wo.2.1 n2 (fun w h => nw w (List.mem_cons_of_mem _ (List.mem_append_left _ h))) (fun m h => hr m (List.mem_cons_of_mem _ (List.mem_append_left _ h))) mx.2.1 hb.2.1, Ib 0 _ cs wb wo.2.2 n3 (fun w h => ex (nw w (List.mem_cons_of_mem _ (List.mem_append_right _ h))) (fun e => n0 (by rw [← e]; exact List.mem_append_right _ h))) (fun m h => hr m (List.mem_cons_of_mem _ (List.mem_append_right _ h))) mx.2.2 hb.2.2⟩
    · have rc := hr _ (List.mem_cons_self ..)
      have rc2 := hr _ (List.mem_cons_of_mem _ (List.mem_cons_self ..))
      obtain ⟨n0, n1⟩ := List.nodup_cons.mp nd
      obtain ⟨n2, n3, n4⟩ := two n1
      obtain ⟨n5, n6, n7⟩ := two n3
      obtain ⟨wa, wb⟩ := w1 trivial
      obtain ⟨⟨m1, m2, m3, m4, m5⟩, m6, m7⟩ := mx
      have np : ∀ x, x ∈ List.range' (d.1 + 3) d.2.1 → x ∉ env := fun x hx => nw x (List.mem_cons_of_mem _ (List.mem_append_left _ hx))
      have ta : ∀ w, w ∈ tW a → w ∉ env ∧ w ≠ d.1 + 2 ∧ w ∉ List.range' (d.1 + 3) d.2.1 := fun w h => ⟨nw w (List.mem_cons_of_mem _ (List.mem_append_right _ (List.mem_append_left _ h))), fun e => n0 (by rw [← e]; exact List.mem_append_right _ (List.mem_append_left _ h)), fun z => n4 w z (List.mem_append_left _ h)⟩
      refine ⟨⟨⟨rc, (m0 trivial).1, (m0 trivial).2, List.nodup_nil, fun w h => (by cases h)⟩, ⟨rc2, m1, m2, n2, np⟩, ⟨nw _ (List.mem_cons_self ..), hu _ wo.1.1.m⟩, fun x hx => ⟨ex (np x hx) (fun e => n0 (by rw [← e]; exact List.mem_append_left _ hx)), ?_⟩, m3, m4, hb.1, m5⟩, ⟨wa.e, wb.e⟩, Ia 0 _ cs wa wo.2.1 n5 (fun w h z => ?_) (fun m h => hr m (List.mem_cons_of_mem _ (List.mem_cons_of_mem _ (List.mem_append_left _ h)))) m6 hb.2.1, Ib 0 _ cs wb wo.2.2 n6 (fun w h => ex (nw w (List.mem_cons_of_mem _ (List.mem_append_right _ (List.mem_append_right _ h)))) (fun e => n0 (by rw [← e]; exact List.mem_append_right _ (List.mem_append_right _ h)))) (fun m h => hr m (List.mem_cons_of_mem _ (List.mem_cons_of_mem _ (List.mem_append_right _ h)))) m7 hb.2.2⟩
      · obtain ⟨q1, q2⟩ := List.mem_range'_1.mp hx
        have := wo.1.2 (x - (d.1 + 3)) (by omega)
        rw [show d.1 + 3 + (x - (d.1 + 3)) = x by omega] at this
        exact hu _ this.m
      · obtain ⟨t1, t2, t3⟩ := ta w h
        rcases List.mem_append.mp z with z | z
        · exact t1 z
        · rcases List.mem_append.mp z with z | z
          · exact t2 (List.mem_singleton.mp z)
          · exact t3 z
    · have rc := hr _ (List.mem_cons_self ..)
      obtain ⟨n0, n1⟩ := List.nodup_cons.mp nd
      have wa := w2 trivial
      refine ⟨⟨⟨rc, (m0 trivial).1, (m0 trivial).2, List.nodup_cons.mpr ⟨List.not_mem_nil, List.nodup_nil⟩, fun w h => by rw [List.mem_singleton.mp h]; exact nw _ (List.mem_cons_self ..)⟩, hu _ wo.1.m, mx.1, hb.1⟩, wa.e, Ia 0 _ cs wa wo.2 n1 (fun w h => ex (nw w (List.mem_cons_of_mem _ h)) (fun e => n0 (by rw [← e]; exact h))) (fun m h => hr m (List.mem_cons_of_mem _ h)) mx.2 hb.2⟩
    · have rc := hr _ (List.mem_cons_self ..)
      have wb := w3 trivial
      exact ⟨⟨⟨rc, (m0 trivial).1, (m0 trivial).2, List.nodup_nil, fun w h => (by cases h)⟩, mx.1⟩, wb.w, Ib 1 env _ wb wo.2 nd nw (fun m h => hr m (List.mem_cons_of_mem _ h)) mx.2 hb⟩
    · have wb := w4 trivial
      exact ⟨hb.1, wb.e, Ib 0 env _ wb wo.2 nd nw hr mx hb.2⟩
    · have wa := w2 trivial
      exact ⟨hb.1, wa.e, Ia 0 env cs wa wo.2.2.2 nd nw hr mx hb.2⟩
    · exact hb
    · exact hb
    · exact hb
    · exact hb
    · exact hb
    · exact hb
    · have wa := w5 trivial
      exact ⟨wo.1.m, wa.a, Ia 2 env cs wa wo.2 nd nw hr mx hb⟩
    · have wa := w2 trivial
      exact ⟨wa.e, Ia 0 env cs wa wo.2.2.1 (two nd).1 (fun w h => nw w (List.mem_append_left _ h)) hr mx hb⟩
    · exact wo.2.m
    · have rc := hr _ (List.mem_cons_self ..)
      obtain ⟨n2, n3, n4⟩ := two nd
      obtain ⟨n5, n6, n7⟩ := two n3
      obtain ⟨wa, wb⟩ := w1 trivial
      obtain ⟨o1, o2, ⟨o3, o4⟩, o5⟩ := wo
      refine ⟨⟨⟨rc, (m0 trivial).1, (m0 trivial).2, List.nodup_nil, fun w h => (by cases h)⟩, o1.m, ⟨nw _ (List.mem_append_right _ (List.mem_cons_self ..)), nw _ (List.mem_append_right _ (List.mem_cons_of_mem _ (List.mem_cons_self ..))), hu _ o3.m, hu _ o4.m⟩, mx.1, hb.1⟩, ⟨wa.e, wb.e⟩, Ia 0 env _ wa o2 n2 (fun w h => nw w (List.mem_append_left _ h)) (fun m h => hr m (List.mem_cons_of_mem _ (List.mem_append_left _ h))) mx.2.1 hb.2.1, Ib 0 _ _ wb o5 n6 (fun w h z => ?_) (fun m h => hr m (List.mem_cons_of_mem _ (List.mem_append_right _ h))) mx.2.2 hb.2.2⟩
      rcases List.mem_append.mp z with z | z
      · exact nw w (List.mem_append_right _ (List.mem_append_right _ h)) z
      · exact n7 w z h
    · obtain ⟨n2, n3, n4⟩ := two nd
      obtain ⟨wa, wb⟩ := w1 trivial
      exact ⟨hb.1, ⟨wa.e, wb.e⟩, Ia 0 env cs wa wo.2.2.1 n2 (fun w h => nw w (List.mem_append_left _ h)) (fun m h => hr m (List.mem_append_left _ h)) mx.1 hb.2.1, Ib 0 env _ wb wo.2.2.2 n3 (fun w h => nw w (List.mem_append_right _ h)) (fun m h => hr m (List.mem_append_right _ h)) mx.2 hb.2.2⟩
    · have wb := w6 trivial
      exact ⟨⟨hb.1.1, hb.1.2, mx.1⟩, wb.a, Ib 2 env cs wb wo.2.2.2 (two nd).2.1 (fun w h => nw w (List.mem_append_right _ h)) hr mx.2 hb.2⟩
    · obtain ⟨n2, n3, n4⟩ := two nd
      obtain ⟨wa, wb⟩ := w7 trivial
      exact ⟨mx.1, ⟨wa.e, wb.a⟩, Ia 0 env cs wa wo.2.2.1 n2 (fun w h => nw w (List.mem_append_left _ h)) (fun m h => hr m (List.mem_append_left _ h)) mx.2.1 hb.1, Ib 2 env cs wb wo.2.2.2 n3 (fun w h => nw w (List.mem_append_right _ h)) (fun m h => hr m (List.mem_append_right _ h)) mx.2.2 hb.2⟩
    · have wb := w6 trivial
      exact ⟨trivial, wb.a, Ib 2 env cs wb wo.2.2.2 (two nd).2.1 (fun w h => nw w (List.mem_append_right _ h)) hr mx hb⟩
end GHR
