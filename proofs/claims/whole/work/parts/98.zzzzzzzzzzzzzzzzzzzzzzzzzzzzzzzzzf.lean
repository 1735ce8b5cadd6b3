/-! run(), the class: ARGS in the heap -/
/-- two heaps, alike but at one place -/
def hAg (lk top : Nat) (hp hp2 : Nat → Int64) : Prop := ∀ i, 4 ≤ i → i < top → i ≠ lk → hp2 i = hp i
/-- a chain of ARGS whose last link is at lk -/
def hCh (G : hG) (Ar : Nat → Prop) (top : Nat) (hp : Nat → Int64) (l : List xmV) (f0 lk : Nat) : Prop := ∀ (G2 : hG) (top2 : Nat) (hp2 : Nat → Int64), hGe G G2 → top ≤ top2 → hAg lk top hp hp2 → ∀ b, hp2 lk = xmNi b → ∀ l2, hSc G2 Ar top2 hp2 l2 b → hSc G2 Ar top2 hp2 (l ++ l2) f0
def hCe (G : hG) (Ar : Nat → Prop) (top : Nat) (hp : Nat → Int64) (l : List xmV) (f0 la lk : Nat) : Prop := (l = [] ∧ f0 = 0 ∧ la = 0 ∧ lk = 1) ∨ (l ≠ [] ∧ 4 ≤ la ∧ lk = la + 1 ∧ lk < top ∧ hp lk = xmNi 0 ∧ hCh G Ar top hp l f0 lk)
section HZA
variable {κ : oKv} {T n cnt : Nat} {kk pp ee f fc : Nat → Int32} {tE tN : Nat → tY} {R : Nat → Int32} {L : List Nat} {y0 : tY} {B : Nat → Nat} {D : cDt} {V : oSt} {nm : Nat → Option Nat} {p : Nat} {σ0 : oSt} {nf ma ha0 wn ws wa : Nat} {fm0 : List Value} {hl0 : Nat} {σ σ' : oSt} {G G' : hG} {top ha hl top' ha' hl' : Nat} {hp hp' : Nat → Int64} {fm gm : List Value} {nu n' : Nat} {h h' : xmHp} {fr : List xmFr} {env : List Nat} {vs : List xmV} {nb : tT → List Nat → Nat → Prop} {Ar : Nat → Prop} {lk sc N : Nat} {l : List xmV} {f0 la : Nat}
theorem hHp.up4 (H : hHp nb G top hp h) (hk : ∀ i, 4 ≤ i → i < top → hp' i = hp i) : hHp nb G top hp' h := by
  have K : hKp (hAr G.2.1 h.2.1) (hAr G.2.1 h.2.1) top top hp hp' := fun a ha => ⟨ha, hk a ha.1 ha.2.1⟩
  obtain ⟨⟨a1, a2, a3, a4, a5⟩, b, c, d, e⟩ := H
  refine ⟨⟨a1, a2, a3, a4, a5⟩, fun i fn a e1 e2 => ?_, fun i y a e1 e2 => ?_, d, fun i l a e1 e2 => ?_⟩
  · obtain ⟨⟨p1, p2, p3⟩, ⟨u, p4, p4'⟩, ⟨s, p5, p6⟩, p7⟩ := b i fn a e1 e2
    exact ⟨⟨(K _ p1).1, (K _ p2).1, (K _ p3).1⟩, ⟨u, (K _ p1).2.trans p4, p4'⟩, ⟨s, (K _ p2).2.trans p5, p6.kp (hGe.rf _) K⟩, (K _ p3).2.trans p7⟩
  · obtain ⟨⟨p1, p2⟩, p3, p4⟩ := c i y a e1 e2
    exact ⟨⟨(K _ p1).1, by omega⟩, (K _ p1).2.trans p3, fun k x ex => by rw [hk _ (by have := p1.1; omega) (by have := xget_lt ex; omega)]; exact p4 k x ex⟩
  · obtain ⟨⟨p1, p2, p3⟩, p4, p5, p6⟩ := e i l a e1 e2
    exact ⟨⟨(K _ p1).1, (K _ p2).1, (K _ p3).1⟩, (K _ p1).2.trans p4, by rw [(K _ p2).2]; exact p5, (K _ p3).2.trans p6⟩
theorem hCh.gr (c : hCh G Ar top hp l f0 lk) (g : hGe G G') (ht : top ≤ top') (hk : ∀ i, 4 ≤ i → i < top → i ≠ lk → hp' i = hp i) : hCh G' Ar top' hp' l f0 lk := fun G2 top2 hp2 g2 t2 ag => c G2 top2 hp2 (g.tr g2) (by omega) (fun i h1 h2 h3 => (ag i h1 (by omega) h3).trans (hk i h1 h2 h3))
/-- the chain as it stands -/
theorem hCe.all (c : hCe G Ar top hp l f0 la lk) : hSc G Ar top hp l f0 := by
  rcases c with ⟨rfl, c, -⟩ | ⟨-, -, -, -, c1, c2⟩
  · exact c
  · have q := c2 G top hp (hGe.rf G) (Nat.le_refl _) (fun _ _ _ _ => rfl) 0 c1 [] rfl
    rw [List.append_nil] at q
    exact q
end HZA
section HZB
variable (κ : oKv) (T : Nat) (kk pp ee f fc : Nat → Int32) (tN : Nat → tY) (B : Nat → Nat) (D : cDt) (V : oSt) (nm : Nat → Option Nat) (p : Nat) (σ0 : oSt) (nf ma ha0 wn ws wa : Nat) (fm0 : List Value) (hl0 : Nat)
/-- the state while ARGS are laid: nothing hangs on the place lk -/
def hLi (σ : oSt) (G : hG) (top ha hl : Nat) (hp : Nat → Int64) (fm : List Value) (n : Nat) (h : xmHp) (fr : List xmFr) (vs : List xmV) (sc lk : Nat) : Prop := (hMa ma fm ha hl hp top σ ∧ hKe (hW wn ws wa) ma ha0 σ0 σ ha ∧ hCo σ0 hl0 σ hl) ∧ hFx [4, 5, 9, 10, 11, 12, 13, 14, 15] fm0 fm ∧ (fm[9]? = some (.int (nI fr.length)) ∧ fm[11]? = some (.int (nI n)) ∧ fm[12]? = some (.int 0) ∧ fm[13]? = some (.int (nI (xmDp fr))) ∧ fm[14]? = some (.int (nI (xmTot h))) ∧ fm[10]? = some (.int (nI sc))) ∧ ∃ WN WS WA, hWt ma fm wn ws wa WN WS WA σ ∧ ∀ hp2, hAg lk top hp hp2 → hHp (hNb κ T kk pp ee f fc tN B D V nm p σ0 nf) G top hp2 h ∧ hFk κ T kk pp ee f fc tN B D V nm p σ0 nf G (hAr G.2.1 h.2.1) top hp2 WN WS WA fr ∧ hSc G (hAr G.2.1 h.2.1) top hp2 vs.reverse sc
end HZB
section HZC
variable {κ : oKv} {T n cnt : Nat} {kk pp ee f fc : Nat → Int32} {tE tN : Nat → tY} {R : Nat → Int32} {L : List Nat} {y0 : tY} {B : Nat → Nat} {D : cDt} {V : oSt} {nm : Nat → Option Nat} {p : Nat} {σ0 : oSt} {nf ma ha0 wn ws wa : Nat} {fm0 : List Value} {hl0 : Nat} {σ σ' : oSt} {G G' : hG} {top ha hl top' ha' hl' : Nat} {hp hp' : Nat → Int64} {fm gm : List Value} {nu n' : Nat} {h h' : xmHp} {fr : List xmFr} {env : List Nat} {vs : List xmV} {lk lk' sc N : Nat} {l : List xmV} {f0 la : Nat}
theorem hXa.li (I : hXa κ T kk pp ee f fc tN B D V nm p σ0 nf ma ha0 wn ws wa fm0 hl0 σ G top ha hl hp fm nu h fr) (hsc : fm[10]? = some (.int (nI sc))) (hs : hSc G (hAr G.2.1 h.2.1) top hp vs.reverse sc) : hLi κ T kk pp ee f fc tN B D V nm p σ0 nf ma ha0 wn ws wa fm0 hl0 σ G top ha hl hp fm nu h fr vs sc 1 := by
  obtain ⟨⟨M, H⟩, ⟨K, C⟩, ⟨WN, WS, WA, Wt, Fk⟩, F, f9, f11, f12, f13, f14⟩ := I
  refine ⟨⟨M, K, C⟩, F, ⟨f9, f11, f12, f13, f14, hsc⟩, WN, WS, WA, Wt, fun hp2 ag => ?_⟩
  have hk : ∀ i, 4 ≤ i → i < top → hp2 i = hp i := fun i h1 h2 => ag i h1 h2 (by omega)
  have kp : hKp (hAr G.2.1 h.2.1) (hAr G.2.1 h.2.1) top top hp hp2 := fun a ha => ⟨ha, hk a ha.1 ha.2.1⟩
  exact ⟨H.up4 hk, Fk.kp (hGe.rf G) kp, hs.kp (hGe.rf G) kp⟩
theorem hLi.xa (I : hLi κ T kk pp ee f fc tN B D V nm p σ0 nf ma ha0 wn ws wa fm0 hl0 σ G top ha hl hp fm nu h fr vs sc lk) : hXa κ T kk pp ee f fc tN B D V nm p σ0 nf ma ha0 wn ws wa fm0 hl0 σ G top ha hl hp fm nu h fr ∧ fm[10]? = some (.int (nI sc)) ∧ hSc G (hAr G.2.1 h.2.1) top hp vs.reverse sc := by
  obtain ⟨⟨M, K, C⟩, F, ⟨f9, f11, f12, f13, f14, f10⟩, WN, WS, WA, Wt, Q⟩ := I
  obtain ⟨q1, q2, q3⟩ := Q hp (fun _ _ _ _ => rfl)
  exact ⟨⟨⟨M, q1⟩, ⟨K, C⟩, ⟨WN, WS, WA, Wt, q2⟩, F, f9, f11, f12, f13, f14⟩, f10, q3⟩
/-- a step -/
theorem hLi.gr (I : hLi κ T kk pp ee f fc tN B D V nm p σ0 nf ma ha0 wn ws wa fm0 hl0 σ G top ha hl hp fm nu h fr vs sc lk) (M' : hMa ma gm ha' hl' hp' top' σ') (k : hKe (fun _ => False) ma ha σ σ' ha') (co : hCo σ hl σ' hl') (g : hGe G G') (ht : top ≤ top') (hk : ∀ i, 4 ≤ i → i < top → i ≠ lk → hp' i = hp i ∧ i ≠ lk') (ea : G'.2.1 = G.2.1) (eh : h'.2.1 = h.2.1) (HN : ∀ hp2, hAg lk' top' hp' hp2 → hHp (hNb κ T kk pp ee f fc tN B D V nm p σ0 nf) G top hp2 h → hSc G (hAr G.2.1 h.2.1) top hp2 vs.reverse sc → hHp (hNb κ T kk pp ee f fc tN B D V nm p σ0 nf) G' top' hp2 h') (fx : hFx [4, 5, 11, 15] fm gm) (h11 : gm[11]? = some (.int (nI n'))) : hLi κ T kk pp ee f fc tN B D V nm p σ0 nf ma ha0 wn ws wa fm0 hl0 σ' G' top' ha' hl' hp' gm n' h' fr vs sc lk' := by
  obtain ⟨⟨M, K, C⟩, F, ⟨f9, f11, f12, f13, f14, f10⟩, WN, WS, WA, Wt, Q⟩ := I
  have xt : xmTot h' = xmTot h := by unfold xmTot; rw [eh]
  refine ⟨⟨M', K.tr k, C.tr co⟩, fun q hq => (fx q (fun w => hq ?_)).trans (F q hq), ⟨(fx 9 (by decide)).trans f9, h11, (fx 12 (by decide)).trans f12, (fx 13 (by decide)).trans f13, by rw [xt]; exact (fx 14 (by decide)).trans f14, (fx 10 (by decide)).trans f10⟩, WN, WS, WA, Wt.kp (Wt.ke M K.2.1 k) (fun q hq => fx q ?_), fun hp2 ag => ?_⟩
  · revert w
    simp only [List.mem_cons, List.not_mem_nil, or_false]
    omega
  · rcases hq with e | e | e <;> (rw [e]; decide)
  · obtain ⟨q1, q2, q3⟩ := Q hp2 (fun i h1 h2 h3 => (ag i h1 (by omega) (hk i h1 h2 h3).2).trans (hk i h1 h2 h3).1)
    have kp : hKp (hAr G.2.1 h.2.1) (hAr G'.2.1 h'.2.1) top top' hp2 hp2 := fun a ha => ⟨⟨ha.1, by have := ha.2.1; omega, by rw [ea, eh]; exact ha.2.2⟩, rfl⟩
    exact ⟨HN hp2 ag q1 q3, q2.kp g kp, q3.kp g kp⟩
/-- **one more ARG in the chain** -/
theorem hLi.ps {v : xmV} {x : Int64} (hml : ma < σ0.2.1) (I : hLi κ T kk pp ee f fc tN B D V nm p σ0 nf ma ha0 wn ws wa fm0 hl0 σ G top ha hl hp fm nu h fr vs sc lk) (Ce : hCe G (hAr G.2.1 h.2.1) top hp l f0 la lk) (hx : hV G v x) (ht : top + 2 ≤ 335000) : ∃ σ1 σ2 ha1 ha' hl' hp' gm, oF κ T (N + 3) 79 [va_rf (some ma), .long x, .int 0] σ = some (some (.int (nI top)), σ1) ∧ (la = 0 → σ2 = σ1) ∧ ovr (ofd σ1 (some ma) 5 4) = some (some ha1) ∧ (la ≠ 0 → osj σ1 (some ha1) (nI la + 1) (xmNi top) = some σ2) ∧ hLi κ T kk pp ee f fc tN B D V nm p σ0 nf ma ha0 wn ws wa fm0 hl0 σ2 G (top + 2) ha' hl' hp' gm nu h fr vs sc (top + 1) ∧ hCe G (hAr G.2.1 h.2.1) (top + 2) hp' (l ++ [v]) (if l = [] then top else f0) top (top + 1) := by
  obtain ⟨⟨M, K, C⟩, F, ⟨f9, f11, f12, f13, f14, f10⟩, WN, WS, WA, Wt, Q⟩ := id I
  have H := (Q hp (fun _ _ _ _ => rfl)).1
  have t4 := H.1.2.2.2.1
  have ml : ma < σ.2.1 := by have := K.2.2.1; omega
  have hne := K.2.2.2.2.2
  obtain ⟨σ1, ha1, hl1, hp1, P1, P2, ⟨P3, P4, P5⟩, P6, P7, P8⟩ := h_pair (κ := κ) (T := T) (n := N) (x := x) (b := 0) M (by omega) hne.symm ml K.2.2.2.2.1 K.2.1
  have k1 := (hKe.rf (W := fun _ => False) K.2.1 K.2.2.2.2.1 hne).gr P6 P7 P8
  have l1 := P6.le
  have NC : ∀ (top2 y : Nat), top + 2 ≤ top2 → top ≤ y → y < top + 2 → hC (hAr G.2.1 h.2.1) top2 y := fun top2 y q0 q1 q2 => ⟨by omega, by omega, fun w => by have := hAr_lt H w; omega⟩
  rcases Ce with ⟨e1, e2, e3, e4⟩ | ⟨e1, e2, e3, e4, e5, e6⟩
  · subst e1 e2 e3 e4
    refine ⟨σ1, σ1, ha1, ha1, hl1, hp1, _, P1, fun _ => rfl, P2.hp4, fun w => absurd rfl w, I.gr (n' := nu) (h' := h) P2 k1 l1.2 (hGe.rf G) (by omega) (fun i h1 h2 _ => ⟨P3 i h2, by omega⟩) rfl rfl (fun hp2 _ H2 _ => H2.up (by omega) (fun _ _ => rfl)) (((hFx.rf _ fm).st (by decide)).st (by decide)) (by rw [List.getElem?_set_ne (by decide), List.getElem?_set_ne (by decide)]; exact f11), Or.inr ⟨by simp, by omega, rfl, by omega, P5, fun G2 top2 hp2 g2 t2 ag b hb l2 h2 => ?_⟩⟩
    rw [if_pos rfl]
    exact ⟨⟨NC _ _ t2 (Nat.le_refl _) (by omega), NC _ _ t2 (by omega) (by omega)⟩, by rw [ag top (by omega) (by omega) (by omega), P4]; exact hx.mo g2, b, hb, h2⟩
  · obtain ⟨W1, W2⟩ := P2.sj P7 (i := lk) (by omega) (xmNi top)
    have k2 := k1.pt (c := .inl (.long, hl1, .inr (.inl (vp_updL hp1 lk (xmNi top))))) (x := ha1) (Or.inr (Or.inl rfl)) P8
    have hk2 : ∀ i, i < top → i ≠ lk → vp_updL hp1 lk (xmNi top) i = hp i := fun i h1 h2 => by rw [vp_L, if_neg h2, P3 i h1]
    refine ⟨σ1, _, ha1, ha1, hl1, _, _, P1, fun w => (by omega), P2.hp4, fun _ => (by rw [nI_p1, ← e3]; exact W1), I.gr (n' := nu) (h' := h) W2 k2 (show hCo σ hl _ hl1 from l1.2) (hGe.rf G) (by omega) (fun i h1 h2 h3 => ⟨hk2 i h2 h3, by omega⟩) rfl rfl (fun hp2 _ H2 _ => H2.up (by omega) (fun _ _ => rfl)) (((hFx.rf _ fm).st (by decide)).st (by decide)) (by rw [List.getElem?_set_ne (by decide), List.getElem?_set_ne (by decide)]; exact f11), Or.inr ⟨by simp, by omega, rfl, by omega, by rw [vp_L, if_neg (by omega)]; exact P5, fun G2 top2 hp2 g2 t2 ag b hb l2 h2 => ?_⟩⟩
    rw [if_neg e1, List.append_assoc]
    refine e6 G2 top2 hp2 g2 (by omega) (fun i h1 h2' h3 => (ag i h1 (by omega) (by omega)).trans (hk2 i h2' h3)) top ?_ (v :: l2) ⟨⟨NC _ _ t2 (Nat.le_refl _) (by omega), NC _ _ t2 (by omega) (by omega)⟩, ?_, b, hb, h2⟩
    · rw [ag lk (by omega) (by omega) (by omega), vp_L, if_pos rfl]
    · rw [ag top (by omega) (by omega) (by omega), vp_L, if_neg (by omega), P4]
      exact hx.mo g2
end HZC
