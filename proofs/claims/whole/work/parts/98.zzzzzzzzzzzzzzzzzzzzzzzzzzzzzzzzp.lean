/-! run(), the class: a C's nodes -/
section HPC
variable {κ : oKv} {T cnt : Nat} {kk pp ee f fc : Nat → Int32} {tE tN : Nat → tY} {R : Nat → Int32} {L : List Nat} {V : oSt} {nm : Nat → Option Nat} {p : Nat} {W : Nat → Prop} {ma ha0 : Nat} {σ0 σ : oSt} {ha : Nat} {B : Nat → Nat} {D : cDt} {lo1 cd : Nat} {ns : Nat → Option Nat} {env : List Nat} {vs : List xmV} {h : xmHp}
theorem cCt.kn : ∀ (t : tT) (g : Nat → Option Nat) (k m : Nat), cWf cnt t true → cCt κ T kk pp ee fc B D lo1 V cd ns t g k m → k ≤ m ∧ m ≤ k + kN t
  | .leaf, g, k, m, _, c => by
    have c : k = m := c
    exact ⟨by omega, by omega⟩
  | .inner n d z a b, g, k, m, w, c => by
    rcases w with ⟨-, e, wa, wb⟩ | ⟨e, -⟩
    · subst e
      obtain ⟨x, -, -, c3⟩ := c
      have I := cCt.kn b g (k + 1) m wb c3
      have e4 : kN (.inner 30 d z a b) = kN a + kN b + 1 := rfl
      omega
    · cases e
/-- a S of a C -/
theorem hPo.sp (P : hPo T pp ee f fc tN L V nm p W ma ha0 σ0) (K : hKe W ma ha0 σ0 σ ha) (E : hEv tN nm p σ0 env) (En : xmEn tE tN h env vs) (H : xmH cnt kk f pp ee tE tN R L h) (hl : h.2.2.length ≤ 30000) (hlo : p ≤ lo1) {e i pa su na ta cap pc : Nat} {ps : List tP} {al : Int32} (c : cSp κ T pp ee fc B D lo1 V e i env.length (nR fc pp ee nm env) ps al pa su na ta cap pc) (hw : rWs f pp ee R L env (sEv ps)) (hk : gSo f pp ee tN env ps) (ho : pO3 ps) (hn : ps.length ≤ 1001) (hN : sNw T f pp ee ps) : hSn T f pp ee h env vs σ e ps := by
  obtain ⟨c1, -, c3, c4, -, c5, c6, c7⟩ := c
  have := c4.1
  have := c5.1
  have := c6.1
  have := c7.1
  exact P.sn K E En H hl c1 rfl rfl c3 (by omega) (by omega) (by omega) (by omega) hw hk ho hn hN
/-- a S of an E -/
theorem hPo.sq (P : hPo T pp ee f fc tN L V nm p W ma ha0 σ0) (K : hKe W ma ha0 σ0 σ ha) (E : hEv tN nm p σ0 env) (En : xmEn tE tN h env vs) (H : xmH cnt kk f pp ee tE tN R L h) (hl : h.2.2.length ≤ 30000) (hlo : p ≤ lo1) {e su : Nat} {s : tS} {mk al : Int32} (c : cSq κ T pp ee fc B D lo1 V e mk env.length (nR fc pp ee nm env) s al su) (hw : rWs f pp ee R L env (sEv s.2)) (hk : gSo f pp ee tN env s.2) (ho : pO3 s.2) (hn : s.2.length ≤ 1001) (hN : sNw T f pp ee s.2) : hSn T f pp ee h env vs σ e s.2 := by
  obtain ⟨pa, na, ta, cap, pc, c1, -, c3, c4, -, c5, c6, c7⟩ := c
  have := c4.1
  have := c5.1
  have := c6.1
  have := c7.1
  exact P.sn K E En H hl c1 rfl rfl c3 (by omega) (by omega) (by omega) (by omega) hw hk ho hn hN
/-- **a C's nodes** -/
theorem hPo.cn (P : hPo T pp ee f fc tN L V nm p W ma ha0 σ0) (K : hKe W ma ha0 σ0 σ ha) (E : hEv tN nm p σ0 env) (En : xmEn tE tN h env vs) (H : xmH cnt kk f pp ee tE tN R L h) (hl : h.2.2.length ≤ 30000) (hlo : p ≤ lo1) : ∀ (t : tT) (l : Bool) (g : Nat → Option Nat) (k m : Nat), cWf cnt t l → cCt κ T kk pp ee fc B D lo1 V env.length (nR fc pp ee nm env) t g k m → gCk f pp ee tN env t → rWs f pp ee R L env (cEv t) → tGd kk cnt t → tO3 t → xcR t → cNw T f pp ee t → kN t ≤ 1300 → hCn T kk f pp ee h env vs σ t l g k m
  | .leaf, l, g, k, m, wf, c, _, _, _, _, _, _, _ => ⟨wf, c⟩
  | .inner n d z a b, l, g, k, m, wf, c, ck, rw', gd, o3, cr, nw, k13 => by
    have Ia := P.cn K E En H hl hlo a
    have Ib := P.cn K E En H hl hlo b
    obtain ⟨gs, -, -, ga, gb⟩ := gd
    obtain ⟨o1, o2, oa, ob⟩ := o3
    obtain ⟨cr25, cr23, cra, crb⟩ := cr
    obtain ⟨nw25, nwa, nwb⟩ := nw
    rcases wf with ⟨hl', hg, wa, wb⟩ | ⟨hl', hw⟩
    · subst hl' hg
      obtain ⟨x, c1, ca, cb⟩ := c
      have ck : gCk f pp ee tN env a ∧ gCk f pp ee tN env b := ck
      have ra : rWs f pp ee R L env (cEv a) := fun w q => rw' w (List.mem_append_left _ q)
      have rb : rWs f pp ee R L env (cEv b) := fun w q => rw' w (List.mem_append_right _ q)
      have kn : kN (.inner 30 d z a b) = kN a + kN b + 1 := rfl
      have le := cCt.kn b g (k + 1) m wb cb
      exact Or.inl ⟨rfl, rfl, by omega, x, c1, Ia false _ 0 x wa ca ck.1 ra ga oa cra nwa (by omega), Ib true g (k + 1) m wb cb ck.2 rb gb ob crb nwb (by omega)⟩
    · subst hl'
      refine Or.inr ⟨rfl, ?_⟩
      rcases hw with ⟨hg, wa, wb⟩ | ⟨hg, wa, hb⟩ | ⟨hg, ha, hb⟩ | ⟨hg, hd⟩ | ⟨hg, hp1, hp2⟩
      · -- || and &&
        have ck : gCk f pp ee tN env a ∧ gCk f pp ee tN env b := by
          rcases hg with q | q <;> (subst q; exact ck)
        have re : cEv (.inner n d z a b) = cEv a ++ cEv b := by
          rcases hg with q | q <;> (subst q; rfl)
        rw [re] at rw'
        have kn : kN (.inner n d z a b) = kN a + kN b + 0 := by
          rcases hg with q | q <;> (subst q; rfl)
        have ra : rWs f pp ee R L env (cEv a) := fun w q => rw' w (List.mem_append_left _ q)
        have rb : rWs f pp ee R L env (cEv b) := fun w q => rw' w (List.mem_append_right _ q)
        have c' : cOk B D lo1 V m ∧ ∃ kc pa q g' x, ((n = 20 ∧ kc = 303) ∨ (n = 21 ∧ kc = 302)) ∧ V.1 m = some (.inr (7, cLf kc (pp (tPl a)) (nI env.length) pa)) ∧ cLn κ B D lo1 V pa q g' ∧ g' 0 = some x ∧ cCt κ T kk pp ee fc B D lo1 V env.length (nR fc pp ee nm env) a (fun _ => none) 0 x ∧ cCt κ T kk pp ee fc B D lo1 V env.length (nR fc pp ee nm env) b g' 1 q := by
          rcases hg with q | q
          · subst q
            obtain ⟨c0, pa, q, g', x, c1, c2⟩ := c
            exact ⟨c0, _, pa, q, g', x, Or.inl ⟨rfl, rfl⟩, c1, c2⟩
          · subst q
            obtain ⟨c0, pa, q, g', x, c1, c2⟩ := c
            exact ⟨c0, _, pa, q, g', x, Or.inr ⟨rfl, rfl⟩, c1, c2⟩
        obtain ⟨c0, kc, pa, q, g', x, hk, c1, ⟨d', cap, mc, l1, l2, l3, -⟩, c3, ca, cb⟩ := c'
        have le := cCt.kn b g' 1 q wb cb
        obtain ⟨hs, g1, g2⟩ := P.nd K (show p ≤ m by have := c0.1; omega) c1
        have LS := P.ls K l1 (show p ≤ pa by have := l3.1; omega) (by
          rcases l2 with w | w
          · exact Or.inl (by have := w.1; omega)
          · exact Or.inr w) (by omega)
        have h0 : hs[0]? = some (.int kc) := by rw [g2 0 (by decide) (by decide)]; rfl
        refine ⟨hs, g1, Or.inl ⟨?_, pa, q, g', x, by rw [g2 18 (by decide) (by decide)]; rfl, LS.2, by omega, by omega, c3, Ia false _ 0 x wa ca ck.1 ra ga oa cra nwa (by omega), Ib true g' 1 q wb cb ck.2 rb gb ob crb nwb (by omega)⟩⟩
        rcases hk with ⟨w1, w2⟩ | ⟨w1, w2⟩
        · exact Or.inl ⟨w1, by rw [h0, w2]⟩
        · exact Or.inr ⟨w1, by rw [h0, w2]⟩
      · -- !
        subst hg hb
        obtain ⟨c0, x, c1, ca⟩ := c
        have ra : rWs f pp ee R L env (cEv a) := fun w q => rw' w (List.mem_append_left _ q)
        have ck : gCk f pp ee tN env a ∧ gCk f pp ee tN env .leaf := ck
        have kn : kN (.inner 22 d z a .leaf) = kN a + 0 + 0 := rfl
        obtain ⟨hs, g1, g2⟩ := P.nd K (show p ≤ m by have := c0.1; omega) c1
        exact ⟨hs, g1, Or.inr (Or.inl ⟨rfl, by rw [g2 0 (by decide) (by decide)]; rfl, x, by rw [g2 12 (by decide) (by decide)]; rfl, Ia false _ 0 x wa ca ck.1 ra ga oa cra nwa (by omega)⟩)⟩
      · subst hg
        obtain ⟨c0, c1⟩ := c
        obtain ⟨hs, g1, g2⟩ := P.nd K (show p ≤ m by have := c0.1; omega) c1
        exact ⟨hs, g1, Or.inr (Or.inr (Or.inl ⟨rfl, by rw [g2 0 (by decide) (by decide)]; rfl⟩))⟩
      · subst hg
        obtain ⟨c0, c⟩ := c
        rcases c with ⟨et, l', al, pa, su, na, ta, cap, pc, c1, -⟩ | ⟨j, S, S', et, -⟩
        · obtain ⟨hs, g1, g2⟩ := P.nd K (show p ≤ m by have := c0.1; omega) c1
          have ck : tN (gNu f pp ee env d.1) = yB 1 := ck
          have hu : rUs f pp ee R L env d.1 := rw' d.1 (List.mem_singleton_self _)
          obtain ⟨b', b1, b2⟩ := P.us K E En hu
          refine ⟨hs, g1, Or.inr (Or.inr (Or.inr (Or.inl ⟨rfl, by rw [g2 0 (by decide) (by decide)]; rfl, by rw [g2 2 (by decide) (by decide), En.1]; rfl, b', ?_, b2, ?_⟩)))⟩
          · rw [g2 9 (by decide) (by decide)]
            show some (va_rf (nR fc pp ee nm env d.1)) = _
            rw [b1]; rfl
          · have ty := (En.get hu).2.2
            rw [ck] at ty
            rcases ty with ⟨z, -⟩ | ⟨-, z⟩ | ⟨z, -⟩ | ⟨z, -⟩ | ⟨z, -⟩
            · exact absurd z (by decide)
            · omega
            all_goals exact absurd z (by decide)
        · have q : (24 : Nat) = 25 := congrArg (fun t : tT => match t with | .leaf => 0 | .inner g _ _ _ _ => g) et
          exact absurd q (by decide)
      · subst hg
        obtain ⟨c0, c⟩ := c
        rcases c with ⟨et, -⟩ | ⟨j, S, S', et, l', al, pa, su, na, ta, cap, pc, r', al2, pa2, su2, na2, ta2, cap2, pc2, q, na3, ta3, cap3, c1, c2, c3, -⟩
        · have q : (25 : Nat) = 24 := congrArg (fun t : tT => match t with | .leaf => 0 | .inner g _ _ _ _ => g) et
          exact absurd q (by decide)
        · obtain ⟨hs, g1, g2⟩ := P.nd K (show p ≤ m by have := c0.1; omega) c1
          have ck : gSo f pp ee tN env d.2.2.2.1.2 ∧ gSo f pp ee tN env d.2.2.2.2.2 := ck
          have rl : rWs f pp ee R L env (sEv d.2.2.2.1.2) := fun w q => rw' w (List.mem_append_left _ q)
          have rr : rWs f pp ee R L env (sEv d.2.2.2.2.2) := fun w q => rw' w (List.mem_append_right _ q)
          obtain ⟨nl, nr⟩ := nw25 rfl
          have c25 := cr25 rfl
          have ed : d = (d.1, j, aRl kk j, S, S') := congrArg (fun t : tT => match t with | .leaf => d | .inner _ d _ _ _ => d) et
          have eS : d.2.2.2.1 = S := by rw [ed]
          have eS' : d.2.2.2.2 = S' := by rw [ed]
          have eR : d.2.2.1 = aRl kk j := by rw [ed]
          subst eS eS'
          refine ⟨hs, g1, Or.inr (Or.inr (Or.inr (Or.inr ⟨rfl, by rw [g2 0 (by decide) (by decide)]; rfl, ⟨l', r', by rw [g2 15 (by decide) (by decide)]; rfl, by rw [g2 16 (by decide) (by decide)]; rfl, P.sp K E En H hl hlo c2 rl ck.1 o1 gs.1.2 nl, P.sp K E En H hl hlo c3 rr ck.2 o2 gs.2.2 nr⟩, j, by rw [g2 5 (by decide) (by decide)]; rfl, by omega, by omega⟩)))⟩
end HPC
