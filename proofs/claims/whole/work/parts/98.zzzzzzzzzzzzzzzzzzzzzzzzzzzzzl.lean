/-! run(): one step keeps the types -/
/-- calls that have ARGS left -/
def xmRf : List xmFr → Nat
  | [] => 0
  | .inl _ :: fr => xmRf fr
  | .inr l :: fr => (if l = [] then 0 else 1) + xmRf fr
/-- how much there is, N0 the FUEL at first -/
def xmN (N0 : Nat) (m : xmM) : Prop := m.2.2.1 ≤ N0 ∧ m.1.1.length + xmRf m.2.1 ≤ N0 - m.2.2.1 ∧ m.1.2.1.length ≤ 6 + (N0 - m.2.2.1) ∧ m.1.2.2.length ≤ N0 - m.2.2.1
section XML
variable {T cnt : Nat} {kk f pp ee : Nat → Int32} {tE tN : Nat → tY} {R : Nat → Int32} {L : List Nat} {y0 : tY} {h h' : xmHp} {env : List Nat} {vs : List xmV} {y : tY} {v : xmV} {t : tT} {ps : List tP} {d : Nat × Nat × Nat × tS × tS} {z : Unit} {a b : tT}
/-- ARGS that can be run -/
def xmEa (cnt : Nat) (kk f pp ee : Nat → Int32) (tE tN : Nat → tY) (R : Nat → Int32) (L : List Nat) (t : tT) (env : List Nat) (y : tY) : Prop := (gOk f pp ee tE tN t env y ∧ rWo f pp ee R L t env) ∧ (tWf kk cnt t 2 ∧ xmP cnt kk t) ∧ (env.Nodup ∧ (tW t).Nodup ∧ ∀ u, u ∈ tW t → u ∉ env) ∧ (∀ u, u ∈ env → rTo R L u) ∧ rEv L t env
theorem xmE.k15 (w : xmE cnt kk f pp ee tE tN R L (.inner 15 d z a b) env y) : (y = yRs (tQn a) (tN (gNu f pp ee env d.1)) ∧ rUs f pp ee R L env d.1 ∧ a ≠ .leaf) ∧ xmEa cnt kk f pp ee tE tN R L a env (tN (gNu f pp ee env d.1)) := by
  obtain ⟨⟨g, r⟩, ⟨wf, p⟩, ⟨n1, n2, n3⟩, n4, n5⟩ := w
  have c1 := p.2.2.2.2.2.2.1 rfl
  unfold gOk at g
  unfold rWo at r
  unfold tWf at wf
  unfold tW at n2 n3
  unfold rEv at n5
  simp only [reduceIte, Nat.reduceEqDiff, or_false, or_self, false_or, false_and, true_and, or_true] at g r wf n2 n3 n5
  exact ⟨⟨g.1, r.1, c1.1⟩, ⟨g.2, r.2⟩, ⟨by simp_all, p.a (by decide)⟩, ⟨n1, n2, n3⟩, n4, n5.2.1⟩
/-- an S alone -/
theorem xmS_ty (hl : h.2.2.length ≤ 30000) (E : xmEn tE tN h env vs) (hw : rWs f pp ee R L env (sEv ps)) (hn : isN ps = true) : rUs f pp ee R L env (ps.headD (0, false, 0)).2.2 ∧ xmT tE tN h (tN (gNu f pp ee env (ps.headD (0, false, 0)).2.2)) (xmGet f pp ee env vs (ps.headD (0, false, 0)).2.2) := by
  obtain ⟨c1, c2, c3⟩ := of_decide_eq_true hn
  cases ps with
  | nil => cases c1
  | cons p ps =>
    have q : p.1 = 1 := c2
    have u := hw p.2.2 (xsEv (List.mem_cons_self ..) (by omega))
    exact ⟨u, (E.get u).2.2⟩
/-- **ARGS have their types** -/
theorem xm_ag : ∀ (a : tT) (h : xmHp) (n : Nat) (y : tY) (r : xmHp × Nat × List xmV), xmEa cnt kk f pp ee tE tN R L a env y → tH a ≤ 30 → xmH cnt kk f pp ee tE tN R L h → h.2.2.length ≤ 30000 → xmEn tE tN h env vs → xmAg T f pp ee env vs a h n = .inr r → xmH cnt kk f pp ee tE tN R L r.1 ∧ xmLe h r.1 ∧ xmAr tE tN r.1 y r.2.2 ∧ r.2.2.length = tQn a ∧ (r.2.1 ≤ n ∧ r.1.1.length + r.2.1 = h.1.length + n) ∧ r.1.2 = h.2
  | .leaf, h, n, y, r, w, hh, H, hl, E, e => by
    unfold xmAg at e
    injection e with e
    subst e
    exact ⟨H, xmLe.rf h, trivial, rfl, ⟨Nat.le_refl _, rfl⟩, rfl⟩
  | .inner g d z a b, h, n, y, r, w, hh, H, hl, E, e => by
    obtain ⟨⟨gk, rw'⟩, ⟨wf, p⟩, ⟨n1, n2, n3⟩, n4, n5⟩ := w
    rcases id wf with ⟨c, -⟩ | ⟨-, c0, wb, c⟩ | ⟨c, -⟩
    · cases c
    · rcases c with ⟨c, c1, c2⟩ | ⟨c, c1, wa⟩ | ⟨c, c1, c2, c3⟩
      · subst c c2
        have e2 : d.2.2.2.2.2 = [] := c0
        unfold gOk at gk
        unfold rWo at rw'
        unfold tW at n2 n3
        unfold rEv at n5
        unfold xmAg at e
        simp only [reduceIte, Nat.reduceEqDiff, or_false, or_self, false_or, false_and, true_and, or_true] at gk rw' n2 n3 n5 e
        obtain ⟨g1, ⟨g2, g3⟩, gb⟩ := gk
        obtain ⟨r1, -, -, rb⟩ := rw'
        have n2' : (tW b).Nodup := (List.nodup_append.mp n2).2.1
        have n3' : ∀ u, u ∈ tW b → u ∉ env := fun u hu => n3 u (List.mem_append_right _ hu)
        have hb : tH b ≤ 30 := by
          have q : tH (.inner 33 d z .leaf b) = max 0 (tH b) := rfl
          omega
        have wB : xmEa cnt kk f pp ee tE tN R L b env (yR y) := ⟨⟨gb, rb⟩, ⟨wb, p.b⟩, ⟨n1, n2', n3'⟩, n4, n5.2.2⟩
        have go : ∀ x, xmT tE tN h (yL y) x → (match xmAg T f pp ee env vs b h n with | .inl c => .inl c | .inr r => .inr (r.1, r.2.1, x :: r.2.2) : (Nat × Nat) ⊕ (xmHp × Nat × List xmV)) = .inr r → (xmH cnt kk f pp ee tE tN R L r.1 ∧ xmLe h r.1 ∧ xmAr tE tN r.1 y r.2.2 ∧ r.2.2.length = tQn (.inner 33 d z .leaf b) ∧ (r.2.1 ≤ n ∧ r.1.1.length + r.2.1 = h.1.length + n) ∧ r.1.2 = h.2) := fun x hx ex => by
          cases q : xmAg T f pp ee env vs b h n with
          | inl c => rw [q] at ex; cases ex
          | inr r' =>
            rw [q] at ex
            injection ex with ex
            subst ex
            obtain ⟨i1, i2, i3, i4, i5, i6⟩ := xm_ag b h n (yR y) r' wB hb H hl E q
            exact ⟨i1, i2, ⟨g1, hx.mo i2, i3⟩, (by show r'.2.2.length + 1 = tQn b + 1; rw [i4]), i5, i6⟩
        by_cases c : isN d.2.2.2.1.2 = true
        · rw [if_pos c] at e
          refine go _ ?_ e
          rw [g2]
          unfold gSk
          rw [if_pos c]
          exact (xmS_ty hl E r1 c).2
        · rw [if_neg c] at e
          by_cases c' : xmB (xmSm T f pp ee h env vs d.2.2.2.1.2) = true
          · rw [if_pos c'] at e
            refine go _ ?_ e
            rw [g2]
            unfold gSk
            rw [if_neg c]
            exact Or.inl ⟨rfl, rfl, c'⟩
          · rw [if_neg c'] at e; cases e
      · subst c
        obtain ⟨d', z', a', b', ea⟩ := p.1.1 rfl
        subst ea
        unfold gOk at gk
        unfold rWo at rw'
        unfold tW at n2 n3
        unfold rEv at n5
        unfold xmAg at e
        simp only [reduceIte, Nat.reduceEqDiff, or_false, or_self, false_or, false_and, true_and, or_true] at gk rw' n2 n3 n5 e
        obtain ⟨g1, ga, gb⟩ := gk
        obtain ⟨-, -, ra, rb⟩ := rw'
        obtain ⟨m1, m2, m3⟩ := List.nodup_append.mp n2
        have hh' : max (tH (.inner 3 d' z' a' b')) (tH b) ≤ 30 := hh
        have ha : tH a' ≤ 31 := by
          have q : tH (.inner 3 d' z' a' b') = max (tH a') (tH b') + 1 := rfl
          omega
        have wA : xmE cnt kk f pp ee tE tN R L (.inner 3 d' z' a' b') env (yL y) := ⟨⟨ga, ra⟩, ⟨wa, p.a (by decide)⟩, ⟨n1, m1, fun u hu => n3 u (List.mem_append_left _ hu)⟩, n4, n5.2.1⟩
        have wB : xmEa cnt kk f pp ee tE tN R L b env (yR y) := ⟨⟨gb, rb⟩, ⟨wb, p.b⟩, ⟨n1, m2, fun u hu => n3 u (List.mem_append_right _ hu)⟩, n4, n5.2.2⟩
        obtain ⟨F, ft, fk⟩ := xmFo.of3 wA ha E
        cases n with
        | zero => cases e
        | succ n =>
          have le := xmLe.nf h (.inner 3 d' z' a' b', env, vs, [])
          cases q : xmAg T f pp ee env vs b (xmNf h (.inner 3 d' z' a' b', env, vs, [])) n with
          | inl c => simp only [q] at e; cases e
          | inr r' =>
            simp only [q] at e
            injection e with e
            subst e
            obtain ⟨i1, i2, i3, i4, ⟨i5, i5'⟩, i6⟩ := xm_ag b _ n (yR y) r' wB (by omega) (H.nf F) hl (E.mo le) q
            have tv := xmT.fn (h := h) (tE := tE) (tN := tN) (fn := (.inner 3 d' z' a' b', env, vs, [])) (by
              show yK (xmTn tE tN (.inner 3 d' z' a' b')) = 1
              rw [ft]; exact fk)
            have tv : xmT tE tN (xmNf h (.inner 3 d' z' a' b', env, vs, [])) (xmTn tE tN (.inner 3 d' z' a' b')) (xmFv h) := tv
            rw [ft] at tv
            have ln : (xmNf h (.inner 3 d' z' a' b', env, vs, [])).1.length = h.1.length + 1 := by
              show (h.1 ++ [_]).length = _
              rw [List.length_append]; rfl
            rw [ln] at i5'
            exact ⟨i1, le.tr i2, ⟨g1, tv.mo i2, i3⟩, (by show r'.2.2.length + 1 = tQn b + 1; rw [i4]), ⟨(by show r'.2.1 ≤ n + 1; omega), (by show r'.1.1.length + r'.2.1 = h.1.length + (n + 1); omega)⟩, i6⟩
      · subst c c2
        unfold gOk at gk
        unfold rWo at rw'
        unfold tW at n2 n3
        unfold rEv at n5
        unfold xmAg at e
        simp only [reduceIte, Nat.reduceEqDiff, or_false, or_self, false_or, false_and, true_and, or_true] at gk rw' n2 n3 n5 e
        obtain ⟨g1, g2, gb⟩ := gk
        obtain ⟨-, -, -, rb⟩ := rw'
        have n2' : (tW b).Nodup := (List.nodup_append.mp n2).2.1
        have hb : tH b ≤ 30 := by
          have q : tH (.inner 35 d z .leaf b) = max 0 (tH b) := rfl
          omega
        have wB : xmEa cnt kk f pp ee tE tN R L b env (yR y) := ⟨⟨gb, rb⟩, ⟨wb, p.b⟩, ⟨n1, n2', fun u hu => n3 u (List.mem_append_right _ hu)⟩, n4, n5.2.2⟩
        cases q : xmAg T f pp ee env vs b h n with
        | inl c => rw [q] at e; cases e
        | inr r' =>
          rw [q] at e
          injection e with e
          subst e
          obtain ⟨i1, i2, i3, i4, i5, i6⟩ := xm_ag b h n (yR y) r' wB hb H hl E q
          exact ⟨i1, i2, ⟨g1, by rw [g2]; exact Or.inr (Or.inl ⟨rfl, rfl⟩), i3⟩, (by show r'.2.2.length + 1 = tQn b + 1; rw [i4]), i5, i6⟩
    · cases c
theorem xmE.q4 (w : xmE cnt kk f pp ee tE tN R L (.inner 15 d z a b) env y) : tQn a ≤ 4 := (w.2.1.2.2.2.2.2.2.2.1 rfl).2
theorem xmE.l12 {t : tT} (w : xmE cnt kk f pp ee tE tN R L t env y) : env.length ≤ 12 := by
  have q := w.2.2.2.2
  have wf := w.2.1.1
  cases t with
  | leaf => cases wf
  | inner g d z a b => exact q.1.1
end XML
