/-! the reference's typed(): steps one behind the other -/
/-- told within: W; types at hand: Q -/
def rS (k0 : Nat) (Z : List (Nat × Nat)) (L env W : List Nat) (Q : List (Int32 × mF)) (τ0 : zSt) (g0 : gG) (T0 : Nat → mF) (c0 am B : Nat) (s : mS) (τ : zSt) : Prop := ∃ g' T' c', rXE k0 L env τ s g' T' c' am ∧ c' ≤ c0 + B ∧ tFm τ0 τ ∧ xE g0 T0 g' T' ∧ (∀ q, q ∈ Q → mSat s.1 → ∃ x, q.1 = nI x ∧ gY g' T' s x q.2) ∧ (∀ u, u ∈ W → dY L τ g' T' s u) ∧ (∀ j, (∀ u, u ∈ W → L[j]? ≠ some u) → τ.2.2.1 31 j = τ0.2.2.1 31 j) ∧ nZ Z τ0 τ g' T' s
section RSS
variable {ks : Nat → Nat} {qs : List Nat} {Tt h0 k0 len cnt lo N S P A aM c0 am n m B : Nat} {Z : List (Nat × Nat)} {L env W : List Nat} {Q : List (Int32 × mF)} {V τ0 τ : zSt} {s s' : mS} {g0 : gG} {T0 : Nat → mF} {kk pp ee f : Nat → Int32} {a : tT}
theorem rS.rf (h : rXE k0 L env τ s g0 T0 c0 am) : rS k0 [] L env [] [] τ g0 T0 c0 am 0 s τ := ⟨g0, T0, c0, h, Nat.le_refl _, tFm.rf τ, xE.rf g0 T0, fun q hq => (by cases hq), fun u hu => (by cases hu), fun _ _ => rfl, nZ.nil ..⟩
theorem rS.fm (h : rS k0 Z L env W Q τ0 g0 T0 c0 am B s τ) : tFm τ0 τ := by
  obtain ⟨g', T', c', h1, h2, h3, -⟩ := h
  exact h3
theorem rS.row (h : rS k0 Z L env W Q τ0 g0 T0 c0 am B s τ) (fm : tFm V τ0) {k j : Nat} {v : Int32} (hk : ¬ (k = 31 ∨ (34 ≤ k ∧ k ≤ 39))) (e : V.2.2.1 k j = v) : τ.2.2.1 k j = v := ((fm.tr h.fm).r hk j).trans e
theorem rS.mo {B' am' : Nat} (h : rS k0 Z L env W Q τ0 g0 T0 c0 am B s τ) (hB : B ≤ B') (ha : am ≤ am') : rS k0 Z L env W Q τ0 g0 T0 c0 am' B' s τ := by
  obtain ⟨g', T', c', h1, h2, h3⟩ := h
  exact ⟨g', T', c', h1.mo ha, by omega, h3⟩
/-- another env: of what is told and what was there -/
theorem rS.ev0 {env' : List Nat} (h : rS k0 Z L env W Q τ0 g0 T0 c0 am B s τ) (he : ∀ u, u ∈ env' → u ∈ env ∨ u ∈ W) : rS k0 Z L env' W Q τ0 g0 T0 c0 am B s τ := by
  obtain ⟨g', T', c', h1, h2, h3, h4, h5, h6, h7⟩ := h
  exact ⟨g', T', c', ⟨h1.1, fun u hu => (he u hu).elim (h1.2 u) (h6 u)⟩, h2, h3, h4, h5, h6, h7⟩
/-- nothing but what is noted of it changes -/
theorem rS.cg (h : rS k0 Z L env W Q τ0 g0 T0 c0 am B s τ) (e1 : s'.1 = s.1) (e2 : s.2.1 ≤ s'.2.1) (e3 : s'.2.2.1 = s.2.2.1) (e4 : ∀ p, p ∈ Z → s'.2.2.2.1 p.2 = s.2.2.2.1 p.2) : rS k0 Z L env W Q τ0 g0 T0 c0 am B s' τ := by
  obtain ⟨g', T', c', h1, h2, h3, h4, h5, h6, h7, h8⟩ := h
  have hl : mLe [] s s' := ⟨⟨[], by rw [e1, List.append_nil]⟩, e2, fun u _ => congrFun e3 u⟩
  exact ⟨g', T', c', ⟨h1.1.cg e1 e2, fun u hu => (h1.2 u hu).up (fun _ _ => rfl) (xE.rf g' T') hl (fun z => by cases z)⟩, h2, h3, h4, fun q hq z => by
    obtain ⟨x, x1, x2⟩ := h5 q hq (hl.sat z)
    exact ⟨x, x1, x2.up (xE.rf g' T') hl⟩, fun u hu => (h6 u hu).up (fun _ _ => rfl) (xE.rf g' T') hl (fun z => by cases z), h7, h8.go rfl (xE.rf g' T') hl e4⟩
/-- a step that tells nothing -/
theorem rS.go {B' : Nat} {τ' : zSt} (h : rS k0 Z L env W Q τ0 g0 T0 c0 am B s τ) (hl : mLe [] s s') (he : s'.2.2.2.1 = s.2.2.2.1) (H : ∀ g T c, c ≤ c0 + B → rXE k0 L env τ s g T c am → rGo k0 L env τ g T c am B' s' τ') : rS k0 Z L env W Q τ0 g0 T0 c0 am (B + B') s' τ' := by
  obtain ⟨g1, T1, c1, h1, h2, h3, h4, h5, h6, h7, h8⟩ := h
  obtain ⟨g2, T2, c2, q1, q2, q3, q4, q5⟩ := H g1 T1 c1 h2 h1
  exact ⟨g2, T2, c2, q1, by omega, h3.tr q3, h4.tr q4, fun q hq z => by
    obtain ⟨x, x1, x2⟩ := h5 q hq (hl.sat z)
    exact ⟨x, x1, x2.up q4 hl⟩, fun u hu => (h6 u hu).up (fun n _ => congrFun q5.1 n) q4 hl (fun z => by cases z), fun j hj => (congrFun q5.1 j).trans (h7 j hj), h8.go q5.2 q4 hl (fun p _ => congrFun he p.2)⟩
/-- a sum -/
theorem rS.sum {x : Nat} {t : tS} (H : rH Tt len cnt lo N S P A L V kk pp ee f) (fm : tFm V τ0) (G : rS k0 Z L env W Q τ0 g0 T0 c0 am B s τ) (hp : pOk cnt t.2) (h3 : pO3 t.2) (hu : rWs f pp ee (V.2.2.1 32) L env (sEv t.2)) (hs : rSm pp V S P x t) (hc : c0 + B + (sEv t.2).length ≤ 9000) (hn : am + 6 ≤ n) : ∃ τ2, zF h0 qs ks Tt n 46 [.ref h0, .int (nI x)] τ = some (none, τ2) ∧ rS k0 Z L env W Q τ0 g0 T0 c0 am (B + (sEv t.2).length) (mPs f pp ee env t.2 s) τ2 := by
  have fm' := fm.tr G.fm
  obtain ⟨g1, T1, c1, h1, h2, -⟩ := id G
  obtain ⟨τ2, e, -⟩ := (rGo.rf h1).sum (h0 := h0) (qs := qs) (ks := ks) (n := n) H fm' hp h3 hu hs (by omega) hn
  refine ⟨τ2, e, G.go (mLe.ps _ _ _) (congrArg (·.1) (mPs_tab _ _)) (fun g T c hc' hx => ?_)⟩
  obtain ⟨τ3, e', G'⟩ := (rGo.rf hx).sum (h0 := h0) (qs := qs) (ks := ks) (n := n) H fm' hp h3 hu hs (by omega) hn
  rw [e] at e'
  injection e' with e'
  injection e' with _ e'
  subst e'
  exact G'.mo (by omega)
/-- a C -/
theorem rS.cnd {x : Nat} {t : tT} (H : rH Tt len cnt lo N S P A L V kk pp ee f) (fm : tFm V τ0) (G : rS k0 Z L env W Q τ0 g0 T0 c0 am B s τ) (hp : cWf cnt t false) (h3 : tO3 t) (hu : rWs f pp ee (V.2.2.1 32) L env (cEv t)) (hs : rTr pp V lo N S P A t 0 0 x) (hc : c0 + B + (cEv t).length ≤ 9000) (hn : am + 7 + kD t ≤ n) : ∃ τ2, zF h0 qs ks Tt n 47 [.ref h0, .int (nI x)] τ = some (none, τ2) ∧ rS k0 Z L env W Q τ0 g0 T0 c0 am (B + (cEv t).length) (mCt f pp ee env t s) τ2 := by
  have fm' := fm.tr G.fm
  have K := (r_tcond (ks := ks) (qs := qs) (h0 := h0) (k0 := k0) (am := am) (env := env) H.1.1 H.1.2.1 H.1.2.2.1 H.1.2.2.2.1 H.2.1 H.2.2.1 t).1 x hp h3 hu hs
  obtain ⟨g1, T1, c1, h1, h2, -⟩ := id G
  obtain ⟨τ2, e, -⟩ := K n τ s g1 T1 c1 hn fm' h1 (by omega)
  refine ⟨τ2, e, G.go (mLe.ct _ _ _) (congrArg (·.1) (mCt_tab _ _)) (fun g T c hc' hx => ?_)⟩
  obtain ⟨τ3, e', G'⟩ := K n τ s g T c hn fm' hx (by omega)
  rw [e] at e'
  injection e' with e'
  injection e' with _ e'
  subst e'
  exact G'
/-- mustBe() of a NAME -/
theorem rS.mbn {w k : Nat} (H : rH Tt len cnt lo N S P A L V kk pp ee f) (fm : tFm V τ0) (G : rS k0 Z L env W Q τ0 g0 T0 c0 am B s τ) (hk : k < 4) (hw : w < cnt) (hu : rUs f pp ee (V.2.2.1 32) L env w) (hc : c0 + B + 1 ≤ 9000) (hn : am + 5 ≤ n) : ∃ x, (w < 2010 ∧ τ.2.2.1 32 w = nI x ∧ x < 700 ∧ τ.2.2.1 4 w = pp w) ∧ ∃ τ2, zF h0 qs ks Tt n 45 [.ref h0, .int (τ.2.2.1 31 x), .int (rKd (k + 2)), .int (pp w)] τ = some (none, τ2) ∧ rS k0 Z L env W Q τ0 g0 T0 c0 am (B + 1) (mMu (mNm f pp ee env w s) (mB k) (pp w) s) τ2 := by
  have fm' := fm.tr G.fm
  obtain ⟨g1, T1, c1, h1, h2, -⟩ := id G
  obtain ⟨x, hx', τ2, e, -⟩ := (rGo.rf h1).mbn (h0 := h0) (qs := qs) (ks := ks) (n := n) H fm' hk hw hu (by omega) hn
  refine ⟨x, hx', τ2, e, G.go (mLe.mu _ _ _ _) rfl (fun g T c hc' hx => ?_)⟩
  obtain ⟨x2, hx2, τ3, e', G'⟩ := (rGo.rf hx).mbn (h0 := h0) (qs := qs) (ks := ks) (n := n) H fm' hk hw hu (by omega) hn
  have ex : x2 = x := by
    have := hx2.2.1.symm.trans hx'.2.1
    exact nI_inj' (by omega) (by omega) this
  subst ex
  rw [e] at e'
  injection e' with e'
  injection e' with _ e'
  subst e'
  exact G'.mo (by omega)
/-- an E within -/
theorem rS.ev (H : rInf ks qs Tt h0 k0 cnt lo N S P A aM L V kk pp ee f a) (fm : tFm V τ0) (G : rS k0 Z L env W Q τ0 g0 T0 c0 am B s τ) (ht : rTe cnt lo N S P A L V kk pp ee f a env m) (hW : ∀ u, u ∈ W → u ∉ tW a) (hZ : ∀ p, p ∈ Z → ∀ r, r ∈ nE V a 0 m → p.1 ≠ r.1 ∧ p.2 ≠ r.2) (hc : c0 + B + tC a ≤ 9000) (ha : am + tA a ≤ aM) (hn : aM + 8 + tDr a ≤ n) : ∃ τ' v, zF h0 qs ks Tt n 49 [.ref h0, .int (nI m)] τ = some (some (.int v), τ') ∧ rS k0 (Z ++ nE V a 0 m) L env (W ++ tW a) ((v, (mE f pp ee a env s).2) :: Q) τ0 g0 T0 c0 (am + tA a) (B + tC a) (mE f pp ee a env s).1 τ' := by
  have fm' := fm.tr G.fm
  obtain ⟨g1, T1, c1, h1, h2, h3, h4, h5, h6, h7, h8⟩ := G
  obtain ⟨τ', v, e, g2, T2, c2, q1, q2, q3, q4, q5, q6, q7, q8⟩ := H env τ s g1 T1 c1 am m n ht fm' h1 (by omega) ha hn
  have hl := mLe.e (f := f) (pp := pp) (ee := ee) a env s
  refine ⟨τ', v, e, g2, T2, c2, q1, by omega, h3.tr q3, h4.tr q4, fun q hq z => ?_, fun u hu => ?_, fun j hj => ?_, fun p hp z => ?_, fun j hj => ?_⟩
  · rcases List.mem_cons.mp hq with y | y
    · rw [y]; exact q5 z
    · obtain ⟨x, x1, x2⟩ := h5 q y (hl.sat z)
      exact ⟨x, x1, x2.up q4 hl⟩
  · rcases List.mem_append.mp hu with y | y
    · refine (h6 u y).up (fun n hn => q7 n (fun w hw e => hW u y ?_)) q4 hl (hW u y)
      rw [hn] at e
      injection e with e
      rw [e]
      exact hw
    · exact q6 u y
  · exact (q7 j (fun u hu => hj u (List.mem_append_right _ hu))).trans (h7 j (fun u hu => hj u (List.mem_append_left _ hu)))
  · rcases List.mem_append.mp hp with y | y
    · obtain ⟨x, x1, x2⟩ := h8.1 p y (hl.sat z)
      refine ⟨x, (q8.2 p.1 (fun r hr e => (hZ p y r hr).1 e.symm)).trans x1, ?_⟩
      rw [mE_tb V a 0 m env s p.2 (fun r hr e => (hZ p y r hr).2 e.symm)]
      exact x2.up q4 hl
    · exact q8.1 p y z
  · exact (q8.2 j (fun p hp => hj p (List.mem_append_right _ hp))).trans (h8.2 j (fun p hp => hj p (List.mem_append_left _ hp)))
/-- a NAME is told -/
theorem rS.tell {w : Nat} {v : Int32} {ty : mF} (H : rH Tt len cnt lo N S P A L V kk pp ee f) (G : rS k0 Z L env W Q τ0 g0 T0 c0 am B s τ) (hu : rTo (V.2.2.1 32) L w) (he : w ∉ env) (hw : w ∉ W) (hq : (v, ty) ∈ Q) : ∃ x, (V.2.2.1 32 w = nI x ∧ x < 700) ∧ rS k0 Z L env (W ++ [w]) Q τ0 g0 T0 c0 am B (mNt w ty s) (zA τ 31 (upd (τ.2.2.1 31) x v)) := by
  obtain ⟨x, e1, e2⟩ := hu
  have hx : x < L.length := by
    by_cases z : x < L.length
    · exact z
    · rw [List.getElem?_eq_none (by omega)] at e2; cases e2
  obtain ⟨g', T', c', h1, h2, h3, h4, h5, h6, h7, h8⟩ := G
  have nx : ∀ n u, L[n]? = some u → u ≠ w → (upd (τ.2.2.1 31) x v) n = τ.2.2.1 31 n := fun n u hn hu => upd_ne _ _ (fun e => hu (by rw [e, e2] at hn; injection hn with hn; exact hn.symm))
  have hl := mLe.nt w ty s
  refine ⟨x, ⟨e1, by have := H.2.2.1; omega⟩, g', T', c', ⟨?_, fun u hu => ?_⟩, h2, h3.tr ⟨fun _ _ _ _ _ => rfl, rfl, fun k hk => zAn _ _ (fun e => hk (Or.inl e)), rfl, fnK.sm rfl rfl rfl rfl⟩, h4, fun q hq z => ?_, fun u hu => ?_, fun j hj => ?_, h8.go rfl (xE.rf g' T') hl (fun _ _ => rfl)⟩
  · obtain ⟨p0, p⟩ := h1.1
    refine ⟨p0, ?_⟩
    rcases p with ⟨p1, p2, p3, p4, k, p5, p6, p7, p8, p9⟩ | p
    · exact Or.inl ⟨p1, p2, p3, p4, k, p5, p6, p7, p8.cg rfl (Nat.le_refl _), p9⟩
    · exact Or.inr p
  · have ne : u ≠ w := fun e => he (by rw [← e]; exact hu)
    exact (h1.2 u hu).up (fun n hn => nx n u hn ne) (xE.rf g' T') hl (fun z => ne (List.mem_singleton.mp z))
  · obtain ⟨y, y1, y2⟩ := h5 q hq (hl.sat z)
    exact ⟨y, y1, y2.up (xE.rf g' T') hl⟩
  · rcases List.mem_append.mp hu with y | y
    · have ne : u ≠ w := fun e => hw (by rw [← e]; exact y)
      exact (h6 u y).up (fun n hn => nx n u hn ne) (xE.rf g' T') hl (fun z => ne (List.mem_singleton.mp z))
    · rw [List.mem_singleton.mp y]
      intro n hn z
      have en : n = x := by
        have hn' : n < L.length := by
          by_cases z : n < L.length
          · exact z
          · rw [List.getElem?_eq_none (by omega)] at hn; cases hn
        have e3 : L[n] = L[x] := by
          rw [List.getElem?_eq_getElem hn'] at hn
          rw [List.getElem?_eq_getElem hx] at e2
          injection hn with hn
          injection e2 with e2
          rw [hn, e2]
        exact (List.getElem_inj H.2.2.2).mp e3
      obtain ⟨y, y1, y2⟩ := h5 _ hq (hl.sat z)
      refine ⟨y, ?_, ?_⟩
      · rw [en]
        exact (upd_at _ _ _).trans y1
      · show gY g' T' _ y (mUp s.2.2.1 w ty w)
        rw [mUp_at]
        exact y2.up (xE.rf g' T') hl
  · have ne : j ≠ x := fun e => hj w (List.mem_append_right _ (List.mem_singleton_self _)) (by rw [e]; exact e2)
    exact (upd_ne _ _ ne).trans (h7 j (fun u hu => hj u (List.mem_append_left _ hu)))
/-- the end: what typed() gives -/
theorem rS.fin {v : Int32} {ty : mF} {W' : List Nat} (G : rS k0 Z L env W Q τ0 g0 T0 c0 am B s τ) (hq : (v, ty) ∈ Q) (hW : ∀ u, u ∈ W ↔ u ∈ W') (w : Nat) (hw : ∀ p, p ∈ Z → p.2 ≠ w) : rRes k0 Z L env W' τ0 g0 T0 c0 am B (mEt w ty s, ty) v τ := by
  have G := G.cg (s' := mEt w ty s) rfl (Nat.le_refl _) rfl (fun p hp => mUp_ne _ _ (hw p hp))
  obtain ⟨g', T', c', h1, h2, h3, h4, h5, h6, h7, h8⟩ := G
  exact ⟨g', T', c', h1, h2, h3, h4, h5 _ hq, fun u hu => h6 u ((hW u).mpr hu), fun j hj => h7 j (fun u hu => hj u ((hW u).mp hu)), h8⟩
end RSS
