/-! type(): functions, the class -/
/-- how many places a type has that are no leaves -/
def tSz : tY → Nat
  | .leaf => 0
  | .inner _ _ _ a b => tSz a + tSz b + 1
/-- **a type, printed**; sy: what a leaf says -/
def tTy (wd : Nat → List Int32) (bk : gN → Nat) (sy : gTy → List gFc) : tY → gTy → tPs → tPs
  | .leaf, A, s => tLef wd bk true (sy A) (sy A).length (tKk (cKd 0)) s
  | .inner k _ _ a b, A, s => if k = 0 then
      let s1 := tNm wd (gPn A) s
      let s2 := (s1.1 ++ [58], s1.2)
      let s3 := if yK a = 1 then
          let s' := tTy wd bk sy a (gTk A) (s2.1 ++ [40], s2.2)
          (s'.1 ++ [41], s'.2)
        else tTy wd bk sy a (gTk A) s2
      tTy wd bk sy b (gAn A) (s3.1 ++ [45, 62], s3.2)
    else tLef wd bk true (sy A) (sy A).length (tKk (cKd (k + 1))) s
/-- a Known and where it comes from -/
def kPk (lo : Nat × (Nat → Prop)) (σ : oSt) (k w : Nat) (G : List (Nat × kTe)) (kd : Int32) : Prop := kGo lo σ k w G ∧ ∃ fs ins, σ.1 k = some (.inr (4, fs)) ∧ fs[10]? = some (va_rf ins) ∧ fs[0]? = some (.int kd)
/-- where it comes from: what is said there -/
def tOr (na : gN → Nat) (Nm : gN → Prop) (sy : gTy → List gFc) (lo : Nat × (Nat → Prop)) (σ : oSt) (G : List (Nat × kTe)) : tY → gTy → Nat → Prop
  | .leaf, A, w => kPk lo σ w w [] (cKd 0) ∧ ∃ ra sa F, kOr lo σ w ra sa F ∧ F.length ≤ 900 ∧ tFc na Nm F G (sy A)
  | .inner k _ _ a b, A, w => kPk lo σ w w [] (cKd (k + 1)) ∧ if k = 0 then ∃ fs wl wr, σ.1 w = some (.inr (4, fs)) ∧ (fs[2]? = some (.ref (na (gPn A))) ∧ Nm (gPn A) ∧ fs[3]? = some (.ref wl) ∧ fs[4]? = some (.ref wr)) ∧ tOr na Nm sy lo σ G a (gTk A) wl ∧ tOr na Nm sy lo σ G b (gAn A) wr else ∃ ra sa F, kOr lo σ w ra sa F ∧ F.length ≤ 900 ∧ tFc na Nm F G (sy A)
/-- what printing costs, with dn Knowns more -/
def cPyw (σ : oSt) (cap cl : Nat) (u : oSt) (cap' cl' dn : Nat) : Prop := u.2.2.2 + tPh cap + 4 * cl ≤ σ.2.2.2 + tPh cap' + 4 * cl' + 15 * dn ∧ u.2.2.1 + cap + cl ≤ σ.2.2.1 + cap' + cl' + dn
theorem tIx_mem (a : gN) : ∀ l, ¬ tIx a l < l.length → a ∉ l
  | [], _ => fun h => by cases h
  | b :: r, h => fun m => by
    unfold tIx at h
    by_cases c : b = a
    · rw [if_pos c, List.length_cons] at h; omega
    · rw [if_neg c, List.length_cons] at h
      rcases List.mem_cons.mp m with q | q
      · exact c q.symm
      · exact tIx_mem a r (by omega) q
theorem tNm_nd (wd : Nat → List Int32) (a : gN) (s : tPs) (h : s.2.Nodup) : (tNm wd a s).2.Nodup := by
  match a with
  | .inl w => exact h
  | .inr w =>
    show (if tIx (.inr w) s.2 < s.2.length then s.2 else s.2 ++ [.inr w]).Nodup
    split
    · exact h
    · next c => exact List.nodup_append.mpr ⟨h, List.nodup_cons.mpr ⟨List.not_mem_nil, List.nodup_nil⟩, fun x hx y hy => by
        rw [List.mem_singleton.mp hy]
        exact fun z => tIx_mem _ _ c (z ▸ hx)⟩
theorem tTm_nd (wd : Nat → List Int32) (bk : gN → Nat) (t : gTe) (s : tPs) (h : s.2.Nodup) : (tTm wd bk t s).2.Nodup := by
  obtain ⟨t1, t2⟩ := t
  match t1 with
  | none => exact h
  | some (a, e) => exact tNm_nd wd a _ h
theorem tFs_D (wd : Nat → List Int32) (bk : gN → Nat) (hw : ∀ w, (wd w).length ≤ 3000) (Nm : gN → Prop) : ∀ (C : List gFc) (b : Bool) (s : tPs), (∀ c, c ∈ C → ∀ a e, c.2.1 = some (a, e) → Nm a) → s.2.Nodup → (∀ a, a ∈ s.2 → Nm a) → (tFs wd bk b C s).2.Nodup ∧ (∀ a, a ∈ (tFs wd bk b C s).2 → Nm a) ∧ (tFs wd bk b C s).1.length ≤ s.1.length + 3200 * C.length
  | [], b, s, _, h1, h2 => ⟨h1, h2, by show s.1.length ≤ _; omega⟩
  | c :: C, b, s, hc, h1, h2 => by
    obtain ⟨d1, d2⟩ := tTm_D wd bk c.2 ((s.1 ++ (if b = true then [123, 118] else [38, 118])) ++ tRl c.1, s.2)
    have l1 := tTm_L wd bk hw c.2 ((s.1 ++ (if b = true then [123, 118] else [38, 118])) ++ tRl c.1, s.2)
    have l1 : (tFa wd bk b c s).1.length ≤ ((s.1 ++ (if b = true then [123, 118] else [38, 118])) ++ tRl c.1).length + 3100 := l1
    have rl := tRl_len c.1
    have wl : (if b = true then [(123 : Int32), 118] else [38, 118]).length = 2 := by split <;> rfl
    rw [List.length_append, List.length_append, wl] at l1
    obtain ⟨e1, e2, e3⟩ := tFs_D wd bk hw Nm C false (tFa wd bk b c s) (fun c' h' => hc c' (List.mem_cons_of_mem _ h')) (tTm_nd wd bk c.2 _ h1) (fun a ha => by
      rcases d1 a ha with r | ⟨e, r⟩
      · exact h2 a r
      · exact hc c (List.mem_cons_self) a e r)
    refine ⟨e1, e2, ?_⟩
    have e3 : (tFs wd bk b (c :: C) s).1.length ≤ (tFa wd bk b c s).1.length + 3200 * C.length := e3
    rw [List.length_cons]
    omega
theorem tFc.mm {na : gN → Nat} {Nm : gN → Prop} {F : List kFc} {G : List (Nat × kTe)} {C : List gFc} (h : tFc na Nm F G C) : ∀ c, c ∈ C → ∀ a e, c.2.1 = some (a, e) → Nm a := fun c hc a e he => by
  obtain ⟨i, hi⟩ := List.getElem?_of_mem hc
  have il : i < F.length := by rw [← h.1]; exact xget_lt hi
  obtain ⟨t', q1, -, -, -, q5⟩ := h.2 i _ (List.getElem?_eq_getElem il)
  rw [hi] at q1
  injection q1 with q1
  rw [q1] at he
  exact q5 a e he
section TSF
variable {κ : oKv} {ks : Nat → Nat} {wd : Nat → List Int32} {bk : gN → Nat} {sy : gTy → List gFc} {T n x nl sz k w da da' da2 d d' d2 cap cap' cap2 cl cl' cl2 dn dm : Nat} {lo : Nat × (Nat → Prop)} {na : gN → Nat} {Nm : gN → Prop} {σ u v : oSt} {s : tPs} {G : List (Nat × kTe)} {kd : Int32}
theorem cPyw.tr (h : cPyw σ cap cl u cap' cl' dn) (k : cPyw u cap' cl' v cap2 cl2 dm) : cPyw σ cap cl v cap2 cl2 (dn + dm) := by
  obtain ⟨h1, h2⟩ := h
  obtain ⟨k1, k2⟩ := k
  exact ⟨by omega, by omega⟩
theorem cPyz.up (h : cPyz σ cap cl u cap' cl') : cPyw σ cap cl u cap' cl' 0 := by
  obtain ⟨h1, h2⟩ := h
  exact ⟨by omega, by omega⟩
theorem cPyw.le (h : cPyw σ cap cl u cap' cl' dn) (e : dn ≤ dm) : cPyw σ cap cl u cap' cl' dm := by
  obtain ⟨h1, h2⟩ := h
  exact ⟨by omega, by omega⟩
theorem kPk.pw {s : tPs} (h : cTp κ x nl na s cap da d cl σ) (q : tFww x nl da d σ da' d' u) (c : kPk lo σ k w G kd) : kPk lo u k w G kd := by
  obtain ⟨c1, fs, ins, c2, c3, c4⟩ := c
  obtain ⟨fs', e1, e2, e3⟩ := q.2.2.2.2.2 k fs c2
  exact ⟨c1.pw h q, fs', ins, e1, (e3 10 (by decide)).trans c3, (e3 0 (by decide)).trans c4⟩
theorem tOr.pw {s : tPs} (h : cTp κ x nl na s cap da d cl σ) (q : tFww x nl da d σ da' d' u) : ∀ (y : tY) (A : gTy) (w : Nat), tOr na Nm sy lo σ G y A w → tOr na Nm sy lo u G y A w
  | .leaf, A, w, ⟨c1, ra, sa, F, c2, c3⟩ => ⟨c1.pw h q, ra, sa, F, c2.pw h q, c3⟩
  | .inner k _ _ a b, A, w, ⟨c1, c2⟩ => by
    refine ⟨c1.pw h q, ?_⟩
    by_cases c : k = 0
    · rw [if_pos c] at c2 ⊢
      obtain ⟨fs, wl, wr, m1, ⟨m2, m3, m4, m5⟩, m6, m7⟩ := c2
      obtain ⟨fs', e1, e2, e3⟩ := q.2.2.2.2.2 w fs m1
      exact ⟨fs', wl, wr, e1, ⟨(e3 2 (by decide)).trans m2, m3, (e3 3 (by decide)).trans m4, (e3 4 (by decide)).trans m5⟩, tOr.pw h q a _ _ m6, tOr.pw h q b _ _ m7⟩
    · rw [if_neg c] at c2 ⊢
      obtain ⟨ra, sa, F, c2, c3⟩ := c2
      exact ⟨ra, sa, F, c2.pw h q, c3⟩
theorem tOr.kp : ∀ (y : tY) {A : gTy} {w : Nat}, tOr na Nm sy lo σ G y A w → kPk lo σ w w [] (cKd (yK y))
  | .leaf, _, _, h => h.1
  | .inner _ _ _ _ _, _, _, h => h.1
/-- a Known more -/
theorem cTp.nw {f : List Value} (hκ : κ.2.2.1 < σ.2.1) (h : cTp κ x nl na s cap da d cl σ) : cTp κ x nl na s cap da d cl (onew σ (.inr (4, f)) 15) ∧ tFww x nl da d σ da d (onew σ (.inr (4, f)) 15) ∧ cPyw σ cap cl (onew σ (.inr (4, f)) 15) cap cl 1 := by
  obtain ⟨⟨fs, c1, c2, c3⟩, c4, mc, g, l, lg⟩ := id h
  obtain ⟨f1, d1, g1, -, ⟨e5, -⟩, -, -, e11, -, e13, -⟩ := id c1
  have lt : ∀ {q : Nat} {c : oC}, σ.1 q = some c → q < σ.2.1 := fun {q c} z => Nat.lt_of_not_le (fun w => by rw [e11 q w] at z; cases z)
  have hd : d1 = da := by have := lt e5; omega
  have xl := lt c2
  have dl := lt e5
  rw [hd] at dl
  have ne : ∀ q, q < σ.2.1 → (onew σ (.inr (4, f)) 15).1 q = σ.1 q := fun q hq => onew_ne (by omega)
  refine ⟨⟨⟨fs, c1.to (ne x xl) (ne da dl) (fun q hq => ?_) (Nat.le_succ _), (ne x xl).trans c2, c3⟩, c4, mc, g, ?_, lg⟩, ⟨fun q q1 _ _ _ _ _ => ne q q1, Or.inl rfl, Or.inl rfl, Nat.le_succ _, fun fs0 e => ⟨fs0, (ne x xl).trans e, fun _ _ _ => rfl⟩, fun q g e => ⟨g, (ne q (lt e)).trans e, rfl, fun _ _ => rfl⟩⟩, ?_⟩
  · have hq : σ.2.1 + 1 ≤ q := hq
    rw [onew_ne (by omega)]
    exact e11 q (by omega)
  · refine l.keep (ne nl (lt l.1)) (ne d ?_) (fun a fs e => ⟨fs, (ne a (lt e)).trans e⟩)
    rcases l.2.1 with ⟨-, -, m3, -⟩ | ⟨m1, -⟩
    · rw [m3]; exact hκ
    · exact lt m1
  · show σ.2.2.2 + 15 + tPh cap + 4 * cl ≤ σ.2.2.2 + tPh cap + 4 * cl + 15 * 1 ∧ σ.2.2.1 + 1 + cap + cl ≤ σ.2.2.1 + cap + cl + 1
    omega
/-- taken(), answered(null) -/
theorem p_stp {tk i : Nat} {fw : List Value} {kd' : Int32} {R : oRs} (hκ : κ.2.2.1 < σ.2.1) (h : cTp κ x nl na s cap da d cl σ) (hk : kPk lo σ k w G kd) (hw : σ.1 w = some (.inr (4, fw))) (hi : fw[i]? = some (.ref tk)) (ht : kPk lo σ tk tk [] kd') (hR : (i = 3 ∧ R = oF κ T (n + 2) 5 [va_rf (some k)] σ) ∨ (i = 4 ∧ R = oF κ T (n + 2) 4 [va_rf (some k), va_rf none] σ)) : ∃ u k', R = some (some (va_rf (some k')), u) ∧ kPk lo u k' tk G kd' ∧ cTp κ x nl na s cap da d cl u ∧ tFww x nl da d σ da d u ∧ cPyw σ cap cl u cap cl 1 := by
  obtain ⟨⟨fs, k1, k2, k3, k4, k5⟩, fs', ins, k6, k7, k8⟩ := hk
  rw [k1] at k6
  injection k6 with k6; injection k6 with k6; injection k6 with _ k6
  subst k6
  obtain ⟨t1, ft, tins, t2, t3, t4⟩ := id ht
  have hfr : ∀ q, σ.2.1 ≤ q → σ.1 q = none := by
    obtain ⟨⟨fs, c1, -⟩, -⟩ := h
    obtain ⟨f1, d1, g1, -, -, -, -, e11, -⟩ := c1
    exact e11
  obtain ⟨gn, h9⟩ : ∃ gn, fs[9]? = some (va_rf gn) := by
    rcases k5 with ⟨-, m⟩ | ⟨gn, ins, g, g', -, m, -⟩
    · exact ⟨none, m⟩
    · exact ⟨some gn, m⟩
  have e : R = if gn = none then some (some (va_rf (some tk)), σ) else some (some (va_rf (some σ.2.1)), onew σ (.inr (4, kF0 kd' tk gn ins)) 15) := by
    rcases hR with ⟨rfl, rfl⟩ | ⟨rfl, rfl⟩
    · exact c_taken k1 k3 h9 k7 hw hi t2 t4 hfr
    · exact c_ans0 k1 k3 h9 k7 hw hi t2 t4 hfr
  rcases k5 with ⟨m1, m2⟩ | ⟨gn', ins', g, g', m1, m2, m3, m4, m5, m6⟩
  · rw [h9] at m2
    have gn0 : gn = none := by
      cases gn with
      | none => rfl
      | some y => injection m2 with m2; cases m2
    rw [e, if_pos gn0]
    refine ⟨σ, tk, rfl, ?_, h, ⟨fun _ _ _ _ _ _ _ => rfl, Or.inl rfl, Or.inl rfl, Nat.le_refl _, fun fs0 e => ⟨fs0, e, fun _ _ _ => rfl⟩, fun q f e => ⟨f, e, rfl, fun _ _ => rfl⟩⟩, ⟨by omega, by omega⟩⟩
    rw [m1]
    exact ht
  · rw [h9] at m2
    have gn0 : gn = some gn' := by
      cases gn with
      | none => injection m2 with m2; cases m2
      | some y => injection m2 with m2; injection m2 with m2; rw [m2]
    have in0 : ins = some ins' := by
      rw [k7] at m3
      cases ins with
      | none => injection m3 with m3; cases m3
      | some y => injection m3 with m3; injection m3 with m3; rw [m3]
    obtain ⟨h', w', p'⟩ := h.nw (f := kF0 kd' tk gn ins) hκ
    rw [e, if_neg (by rw [gn0]; exact fun z => by cases z)]
    refine ⟨_, σ.2.1, rfl, ⟨⟨_, onew_eq _ _ _, rfl, rfl, k4, Or.inr ⟨gn', ins', g, g', m1, by rw [gn0]; rfl, by rw [in0]; rfl, h.rw w' m4 (by decide) (by decide), h.rw w' m5 (by decide) (by decide), fun i y e => ?_⟩⟩, _, ins, onew_eq _ _ _, rfl, rfl⟩, h', w', p'⟩
    obtain ⟨n1, su, n3, n4⟩ := m6 i y e
    exact ⟨n1, su, n3, n4.pw h w'⟩
end TSF
