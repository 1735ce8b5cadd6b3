/-! run(), the class: call() -/
section HZD
variable {κ : oKv} {T n cnt : Nat} {kk pp ee f fc : Nat → Int32} {tE tN : Nat → tY} {R : Nat → Int32} {L : List Nat} {y0 : tY} {B : Nat → Nat} {D : cDt} {V : oSt} {nm : Nat → Option Nat} {p : Nat} {σ0 : oSt} {nf ma ha0 wn ws wa : Nat} {fm0 : List Value} {hl0 : Nat} {σ σ' : oSt} {G G' : hG} {top ha hl top' ha' hl' : Nat} {hp hp' : Nat → Int64} {fm gm : List Value} {nu n' : Nat} {h h' : xmHp} {fr : List xmFr} {env : List Nat} {vs : List xmV} {Kb N sc e pg lk lo1 fk : Nat} {l : List xmV} {f0 la q pa : Nat} {g' : Nat → Option Nat} {fs : List Value} {y : tY} {X : Nat → Nat → Prop}
theorem oln_lg (x : Int64) (s : oSt) (f : Int64 → oSt → oRs) : oln' (some (some (.long x), s)) f = f x s := rfl
/-- the list of ARGS -/
theorem hPo.ca (P : hPo T pp ee f fc tN L V nm p (hW wn ws wa) ma ha0 σ0) (K : hKe (hW wn ws wa) ma ha0 σ0 σ ha) (hlo : p ≤ lo1) (pe : p ≤ e) (c1 : V.1 e = some (.inr (7, fs))) (c18 : fs[18]? = some (.ref pa)) (cl : cLn κ B D lo1 V pa q g') (hq : q ≤ 4) : ∃ gs x, σ.1 e = some (.inr (7, gs)) ∧ (∀ k, k ≠ 8 → k ≠ 20 → gs[k]? = fs[k]?) ∧ ovr (ofd σ (some e) 7 18) = some (some pa) ∧ oob σ (some pa) 1 = some x ∧ oLs σ (some pa) q g' := by
  obtain ⟨d', cap, mc, l1, l2, l3, -⟩ := cl
  obtain ⟨gs, n1, F⟩ := P.nd K pe c1
  have LS := (P.ls K l1 (show p ≤ pa by have := l3.1; omega) (by
    rcases l2 with w | w
    · exact Or.inl (by have := w.1; omega)
    · exact Or.inr w) (by omega)).2
  obtain ⟨x, d, o1, -⟩ := id LS
  exact ⟨gs, x, n1, F, by rw [ofd_at n1, F 18 (by decide) (by decide), c18]; rfl, o1, LS⟩
/-- behind an ARG that ended the run -/
theorem h_caE {u k F' : Nat} {x : Int64} (P : hPo T pp ee f fc tN L V nm p (hW wn ws wa) ma ha0 σ0) (hlo : p ≤ lo1) (pe : p ≤ e) (c1 : V.1 e = some (.inr (7, fs))) (c18 : fs[18]? = some (.ref pa)) (cl : cLn κ B D lo1 V pa q g') (hq : q ≤ 4) (hk : k < q) (I : hLi κ T kk pp ee f fc tN B D V nm p σ0 nf ma ha0 wn ws wa fm0 hl0 σ G top ha hl hp fm nu h fr vs sc lk) (Ce : hCe G (hAr G.2.1 h.2.1) top hp l f0 la lk) (ht : top + 2 ≤ 335000) (hu : 1 ≤ u ∧ u ≤ 6) : ∃ σ', (obn (oob (oput σ ma (.inr (5, fm.set 12 (.int (nI u))))) (some ma) 5) fun _ => oin (oF κ T (N + 4) 79 [va_rf (some ma), .long x, .int 0] (oput σ ma (.inr (5, fm.set 12 (.int (nI u)))))) fun r29 s27 => if nI la = 0 then oj_X3_call_70 T (oF κ T (N + 4)) κ (ol_X3_call_7 T (oF κ T (N + 4)) κ (F' + 1)) (some ma) (some e) r29 (nI k) r29 s27 else obn (ovr (ofd s27 (some ma) 5 4)) fun v31 => obn (osj s27 v31 (nI la + 1) r29.toInt64) fun s33 => oj_X3_call_70 T (oF κ T (N + 4)) κ (ol_X3_call_7 T (oF κ T (N + 4)) κ (F' + 1)) (some ma) (some e) (nI f0) (nI k) r29 s33) = some (some (va_rf none), σ') ∧ hEd σ0 ma ha0 wn ws wa fm0 hl0 (u, nu) σ' := by
  have hml := P.2.2.2.1.2.2.2
  have IX := I.xa.1
  have M := IX.1.1
  have K := IX.2.1.1
  have ml := IX.ml hml
  have hne := K.2.2.2.2.2
  have t4 := M.2.2.2
  have Ed := IX.ed (e := u) hml (show top ≤ 335000 by omega)
  obtain ⟨ha1, hl1, hp1, top1, fm1, ⟨M1, -⟩, K1, TO⟩ := Ed.to
  have q1 := M1.1.1
  rw [oput_eq] at q1
  injection q1 with q1; injection q1 with q1; injection q1 with _ q1
  subst q1
  have q4 := M1.2.1.1
  rw [List.getElem?_set_ne (by decide), M.2.1.1] at q4
  injection q4 with q4; injection q4 with q4
  subst q4
  have q5 := M1.2.2.1
  rw [oput_ne hne, M.2.2.1] at q5
  injection q5 with q5; injection q5 with q5; injection q5 with _ q5; injection q5 with q5 q6
  subst q5
  have M2 := M.pt (gm := fm.set 12 (.int (nI u))) hne (by rw [List.length_set]; exact M.1.2) (List.getElem?_set_ne (by decide)) (List.getElem?_set_ne (by decide))
  obtain ⟨σ1, ha2, hl2, hp2, P1, P2, -, P6, P7, P8⟩ := h_pair (κ := κ) (T := T) (n := N + 1) (x := x) (b := 0) M2 (by omega) hne.symm ml K.2.2.2.2.1 K1.2.1
  obtain ⟨k1, co1⟩ := P6.ke K1.2.1 K1.2.2.2.2.1 hne P7 P8
  -- what stands behind it
  have FIN : ∀ (σ2 : oSt) (ha3 hl3 top3 : Nat) (hp3 : Nat → Int64) (gm3 : List Value) (x2 x5 : Int32), hMa ma gm3 ha3 hl3 hp3 top3 σ2 → top3 ≤ 335000 → hKe (fun _ => False) ma ha (oput σ ma (.inr (5, fm.set 12 (.int (nI u))))) σ2 ha3 → hCo (oput σ ma (.inr (5, fm.set 12 (.int (nI u))))) hl σ2 hl3 → hFx [4, 5] (fm.set 12 (.int (nI u))) gm3 → ∃ σ', oj_X3_call_70 T (oF κ T (N + 4)) κ (ol_X3_call_7 T (oF κ T (N + 4)) κ (F' + 1)) (some ma) (some e) x2 (nI k) x5 σ2 = some (some (va_rf none), σ') ∧ hEd σ0 ma ha0 wn ws wa fm0 hl0 (u, nu) σ' := fun σ2 ha3 hl3 top3 hp3 gm3 x2 x5 M3 t3 k3 co3 fx3 => by
    have Ed3 := TO σ2 ha3 hl3 hp3 top3 gm3 M3 t3 k3 co3 (fun j hj => fx3 j (fun w => hj (by revert w; simp only [List.mem_cons, List.not_mem_nil, or_false]; omega)))
    obtain ⟨gs, xo, n1, F, e18, o1, LS⟩ := P.ca (K1.tr k3) hlo pe c1 c18 cl hq
    have g12 : ovi (ofd σ2 (some ma) 5 12) = some (nI u) := by
      rw [ofd_at M3.1.1, fx3 12 (by decide), List.getElem?_set_self (by rw [M.1.2]; decide)]; rfl
    have nu0 : ¬ nI u = (0 : Int32) := fun w => by have := nI_inj' (b := 0) (by omega) (by omega) w; omega
    refine ⟨σ2, ?_, Ed3⟩
    unfold oj_X3_call_70
    rw [ol_X3_call_7, e18, obn_at, o1, obn_at, l_size LS, oin_at, nI_p1]
    unfold oj_X3_call_79
    split
    · rw [g12, obn_at, if_neg nu0]
    · rw [g12, obn_at, if_neg nu0, obn_at, if_neg nu0]
  have P1' : oF κ T (N + 4) 79 [va_rf (some ma), .long x, .int 0] (oput σ ma (.inr (5, fm.set 12 (.int (nI u))))) = some (some (.int (nI top)), σ1) := P1
  rw [oob_at M2.1.1, obn_at, P1', oin_at]
  rcases Ce with ⟨-, -, e3, -⟩ | ⟨-, e2, e3, e4, -⟩
  · rw [if_pos (by rw [e3]; rfl)]
    exact FIN σ1 ha2 hl2 (top + 2) hp2 _ _ _ P2 (by omega) k1 co1 (((hFx.rf _ _).st (by decide)).st (by decide))
  · have n0 : ¬ nI la = (0 : Int32) := fun w => by have := nI_inj' (b := 0) (by omega) (by omega) w; omega
    obtain ⟨W1, W2⟩ := P2.sj P7 (i := lk) (by omega) (xmNi top)
    have k2 := k1.pt (c := .inl (.long, hl2, .inr (.inl (vp_updL hp2 lk (xmNi top))))) (x := ha2) (Or.inr (Or.inl rfl)) P8
    have W1' : osj σ1 (some ha2) (nI (la + 1)) (nI top).toInt64 = some (oput σ1 ha2 (.inl (.long, hl2, .inr (.inl (vp_updL hp2 lk (xmNi top)))))) := by rw [← e3]; exact W1
    rw [if_neg n0, P2.hp4, obn_at, nI_p1, W1', obn_at]
    exact FIN _ ha2 hl2 (top + 2) _ _ _ _ W2 (by omega) k2 co1 (((hFx.rf _ _).st (by decide)).st (by decide))
end HZD
