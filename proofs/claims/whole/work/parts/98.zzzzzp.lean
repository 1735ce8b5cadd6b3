/-! the reference's typer: sums and conditions -/
/-- the NAME told at u has its type -/
def dY (L : List Nat) (τ : zSt) (g : gG) (T : Nat → mF) (s : mS) (u : Nat) : Prop := ∀ n, L[n]? = some u → mSat s.1 → ∃ c, τ.2.2.1 31 n = nI c ∧ gY g T s c (s.2.2.1 u)
def rXE (k0 : Nat) (L env : List Nat) (τ : zSt) (s : mS) (g : gG) (T : Nat → mF) (c am : Nat) : Prop := rX k0 τ s g T c am ∧ ∀ u, u ∈ env → dY L τ g T s u
/-- kinds of PARTS are 0 to 3 -/
def pO3 (ps : List tP) : Prop := ∀ p ∈ ps, p.1 ≤ 3
def tO3 : tT → Prop
  | .leaf => True
  | .inner _ d _ a b => pO3 d.2.2.2.1.2 ∧ pO3 d.2.2.2.2.2 ∧ tO3 a ∧ tO3 b
section RTS
variable {ks : Nat → Nat} {qs : List Nat} {Tt h0 k0 c am n len cnt lo N S P A : Nat} {V τ τ' : zSt} {s s' : mS} {g g' : gG} {T T' : Nat → mF} {L env W : List Nat} {kk pp ee f : Nat → Int32}
theorem tFm.rw (g : tFm τ τ') (h : rW τ Tt len cnt kk pp ee f) : rW τ' Tt len cnt kk pp ee f := h.keep (g.2.2.1 1 (by omega)) (g.2.2.1 3 (by omega)) (g.2.2.1 4 (by omega)) (g.2.2.1 5 (by omega))
theorem tFm.at (g : tFm τ τ') (lo N S P A : Nat) : rAt lo N S P A τ τ' :=
  ⟨fun m _ _ => funext fun k => congrFun (g.2.2.1 _ (by omega)) m, fun k j a b _ => congrFun (g.2.2.1 k (by omega)) j, fun k j a b _ => congrFun (g.2.2.1 k (by omega)) j, fun m _ => funext fun k => congrFun (g.2.2.1 _ (by omega)) m⟩
theorem dY.up {u : Nat} (h : dY L τ g T s u) (h31 : ∀ n, L[n]? = some u → τ'.2.2.1 31 n = τ.2.2.1 31 n) (e : xE g T g' T') (hs : mLe W s s') (hu : u ∉ W) : dY L τ' g' T' s' u := fun n hn z => by
  obtain ⟨c, q1, q2⟩ := h n hn (hs.sat z)
  exact ⟨c, (h31 n hn).trans q1, by rw [hs.2.2 u hu]; exact q2.up e hs⟩
/-- what a step leaves -/
def rGo (k0 : Nat) (L env : List Nat) (τ : zSt) (g : gG) (T : Nat → mF) (c am B : Nat) (s' : mS) (τ' : zSt) : Prop := ∃ g' T' c', rXE k0 L env τ' s' g' T' c' am ∧ c' ≤ c + B ∧ tFm τ τ' ∧ xE g T g' T' ∧ kR9 τ τ'
theorem rGo.rf (h : rXE k0 L env τ s g T c am) : rGo k0 L env τ g T c am 0 s τ := ⟨g, T, c, h, Nat.le_refl _, tFm.rf τ, xE.rf g T, kR9.rf τ⟩
theorem rGo.mo {B B' : Nat} (h : rGo k0 L env τ g T c am B s' τ') (hB : B ≤ B') : rGo k0 L env τ g T c am B' s' τ' := by
  obtain ⟨g', T', c', h1, h2, h3⟩ := h
  exact ⟨g', T', c', h1, by omega, h3⟩
/-- mustBe() of a NAME -/
theorem rXE.mbn (hT : 9010 ≤ Tt) (h : rXE k0 L env τ s g T c am) (hL : L.length ≤ 700) (hF : am + 5 ≤ n) (hc : c < 9000) {w k : Nat} {pl : Int32} (hk : k < 4) (hu : rUs f pp ee (τ.2.2.1 32) L env w) : ∃ x, τ.2.2.1 32 w = nI x ∧ x < 700 ∧ ∃ τ', zF h0 qs ks Tt n 45 [.ref h0, .int (τ.2.2.1 31 x), .int (rKd (k + 2)), .int pl] τ = some (none, τ') ∧ rGo k0 L env τ g T c am 1 (mMu (mNm f pp ee env w s) (mB k) pl s) τ' := by
  obtain ⟨x, u, e1, e2, e3⟩ := hu
  obtain ⟨j, -, ej⟩ := nFind_mem e3
  have hx : x < 700 := by
    have : x < L.length := by
      by_cases z : x < L.length
      · exact z
      · rw [List.getElem?_eq_none (by omega)] at e2; cases e2
    omega
  obtain ⟨F, rfl⟩ : ∃ F, n = F + 4 := ⟨n - 4, by omega⟩
  have em : mNm f pp ee env w s = s.2.2.1 u := by unfold mNm; rw [e3]; rfl
  obtain ⟨τ', g', T', c', a1, a2, a3, a4, a5, a6⟩ := h.1.mb (h0 := h0) (qs := qs) (ks := ks) (pl := pl) (F := F) hT (by omega) hc hk (fun z => h.2 u (List.mem_of_getElem? ej) x e2 z)
  rw [em]
  exact ⟨x, e1, hx, τ', a1, g', T', c', ⟨a2, fun v hv => (h.2 v hv).up (fun n _ => congrFun a6.1 n) a5 (mLe.mu _ _ _ _) (fun z => by cases z)⟩, a3, a4, a5, a6⟩
/-- typesOfSum(s), its loop -/
theorem r_tsL {s0 a l : Nat} (hT : 9010 ≤ Tt) (hs : s0 < 2100) (hl : l ≤ 2100) (hw : rW V Tt len cnt kk pp ee f) (hL : L.length ≤ 700) (hn : am + 5 ≤ n) : ∀ (ps : List tP) (t i : Nat) (τ : zSt) (s : mS) (g : gG) (T : Nat → mF) (c : Nat), tFm V τ → rXE k0 L env τ s g T c am → pOk cnt ps → pO3 ps → rWs f pp ee (V.2.2.1 32) L env (sEv ps) → V.2.2.1 14 s0 = nI l → i + ps.length = l → rPs V i ps → ps.length < t → c + (sEv ps).length ≤ 9000 → ∃ τ', l_typesOfSum_7 Tt (zF h0 qs ks Tt n) h0 qs ks t (nI s0) (nI i) τ = some (none, τ') ∧ rGo k0 L env τ g T c am (sEv ps).length (mPs f pp ee env ps s) τ' := by
  intro ps
  induction ps with
  | nil =>
    intro t i τ s g T c fm h hp h3 hu h14 hi hr ht hc
    obtain ⟨t, rfl⟩ : ∃ t', t = t' + 1 := ⟨t - 1, by omega⟩
    have hi : i = l := hi
    rw [l_typesOfSum_7]
    simp only [zgd, zin_n hs (by decide), if_true, nI_clamp (show s0 < 2 ^ 31 by omega), fm.2.2.1 14 (by omega), h14]
    rw [if_pos (nI_le (by omega) (by omega))]
    exact ⟨τ, rfl, rGo.rf h⟩
  | cons p ps IH =>
    intro t i τ s g T c fm h hp h3 hu h14 hi hr ht hc
    rw [List.length_cons] at hi ht
    obtain ⟨t, rfl⟩ : ∃ t', t = t' + 1 := ⟨t - 1, by omega⟩
    obtain ⟨r1, r2, r3⟩ := hr 0 p rfl
    rw [Nat.add_zero] at r1 r3
    obtain ⟨o1, o2⟩ := hp p (List.mem_cons_self ..)
    have o3 := h3 p (List.mem_cons_self ..)
    have hx : rPs V (i + 1) ps := fun a x ex => by
      have := hr (a + 1) x ex
      rw [show i + 1 + a = i + (a + 1) by omega]
      exact this
    have e2 : nI i + 1 = nI (i + 1) := nI_add i 1 ▸ rfl
    rw [sEv_cons] at hu hc ⊢
    rw [List.length_append] at hc ⊢
    have go : ∀ (υ : zSt) (B : Nat), B ≤ (sEv [p]).length → rGo k0 L env τ g T c am B (mPt f pp ee env p s) υ → ∃ τ', l_typesOfSum_7 Tt (zF h0 qs ks Tt n) h0 qs ks t (nI s0) (nI i + 1) υ = some (none, τ') ∧ rGo k0 L env τ g T c am ((sEv [p]).length + (sEv ps).length) (mPs f pp ee env (p :: ps) s) τ' := fun υ B hB gg => by
      obtain ⟨g1, T1, c1, q1, q2, q3, q4, q5⟩ := gg
      obtain ⟨τ', t1, g2, T2, c2, t2, t3, t4, t5, t6⟩ := IH t (i + 1) υ _ g1 T1 c1 (fm.tr q3) q1 (fun x hx => hp x (List.mem_cons_of_mem _ hx)) (fun x hx => h3 x (List.mem_cons_of_mem _ hx)) (fun w hw => hu w (List.mem_append_right _ hw)) h14 (by omega) hx (by omega) (by omega)
      rw [e2]
      exact ⟨τ', t1, g2, T2, c2, t2, by omega, q3.tr t4, q4.tr t5, t6.trans q5⟩
    rw [l_typesOfSum_7]
    simp only [zgd, zin_n hs (by decide), if_true, nI_clamp (show s0 < 2 ^ 31 by omega), fm.2.2.1 14 (by omega), fm.2.2.1 16 (by omega), fm.2.2.1 18 (by omega), fm.2.2.1 32 (by omega), h14]
    rw [if_neg (nI_ge (show i < l by omega) (by omega))]
    simp only [zin_n (show i < 2100 by omega) (by decide), if_true, nI_clamp (show i < 2 ^ 31 by omega), r1, r3, j_typesOfSum_86]
    by_cases c0 : p.1 = 0
    · rw [if_pos (show nI p.1 ≤ 0 by rw [c0]; decide)]
      refine go τ 0 (Nat.zero_le _) ?_
      unfold mPt
      rw [if_pos c0]
      exact rGo.rf h
    · rw [if_neg (show ¬ nI p.1 ≤ 0 from nI_ge (a := 0) (b := p.1) (by omega) (by omega))]
      have ev : sEv [p] = [p.2.2] := by
        unfold sEv sNm
        rw [List.filter_cons_of_pos (by simp; omega)]
        rfl
      have hw2 : p.2.2 < 2010 := by have := o2 c0; have := hw.2.2.2.2.2.2; omega
      have e4 : τ.2.2.1 4 p.2.2 = pp p.2.2 := by rw [fm.2.2.1 4 (by omega)]; exact hw.pl (by have := o2 c0; omega)
      have hu1 : rUs f pp ee (τ.2.2.1 32) L env p.2.2 := by rw [fm.2.2.1 32 (by omega)]; exact hu _ (List.mem_append_left _ (by rw [ev]; exact List.mem_singleton_self _))
      have hc1 : c < 9000 := by rw [ev] at hc; show c + 1 ≤ 9000; have : ([p.2.2] : List Nat).length = 1 := rfl; omega
      obtain ⟨x, x1, x2, υ, x3, x4⟩ := h.mbn (h0 := h0) (qs := qs) (ks := ks) (k := mPk p.1) (pl := pp p.2.2) (w := p.2.2) hT hL hn hc1 (by unfold mPk; split <;> (try split) <;> omega) hu1
      rw [fm.2.2.1 32 (by omega)] at x1
      have x4 : rGo k0 L env τ g T c am 1 (mPt f pp ee env p s) υ := by unfold mPt; rw [if_neg c0]; exact x4
      have fin := go υ 1 (by rw [ev]; exact Nat.le_refl _) x4
      have zz := zin_n hw2 (by decide)
      have zx := zin_n x2 (by decide)
      simp only [zz, if_true, nI_clamp (show p.2.2 < 2 ^ 31 by omega), x1, zx, nI_clamp (show x < 2 ^ 31 by omega), j_typesOfSum_72, zgd, zin_n (show i < 2100 by omega) (by decide), nI_clamp (show i < 2 ^ 31 by omega), fm.2.2.1 18 (by omega), r3, e4, j_typesOfSum_86]
      have h123 : p.1 = 1 ∨ p.1 = 2 ∨ p.1 = 3 := by omega
      rcases h123 with z | z | z
      · rw [z] at x3 ⊢
        rw [if_pos (by decide), show (1 : Int32) = rKd (mPk 1 + 2) from rfl, x3, zcv_at]
        exact fin
      · rw [z] at x3 ⊢
        rw [if_neg (by decide), if_pos (by decide), show (3 : Int32) = rKd (mPk 2 + 2) from rfl, x3, zcv_at]
        exact fin
      · rw [z] at x3 ⊢
        rw [if_neg (by decide), if_neg (by decide), show (5 : Int32) = rKd (mPk 3 + 2) from rfl, x3, zcv_at]
        exact fin
/-- a call of j at m, from every state in which V's tree stands, gives Fs -/
def tGo (ks : Nat → Nat) (qs : List Nat) (Tt h0 k0 : Nat) (L env : List Nat) (V : zSt) (am j m D B : Nat) (Fs : mS → mS) : Prop := ∀ n τ s g T c, D ≤ n → tFm V τ → rXE k0 L env τ s g T c am → c + B ≤ 9000 → ∃ τ', zF h0 qs ks Tt n j [.ref h0, .int (nI m)] τ = some (none, τ') ∧ rGo k0 L env τ g T c am B (Fs s) τ'
theorem tGo.mo {j m D D' B B' : Nat} {Fs : mS → mS} (h : tGo ks qs Tt h0 k0 L env V am j m D B Fs) (hD : D ≤ D') (hB : B ≤ B') : tGo ks qs Tt h0 k0 L env V am j m D' B' Fs := fun n τ s g T c h1 h2 h3 h4 => by
  obtain ⟨τ', a, b⟩ := h n τ s g T c (by omega) h2 h3 (by omega)
  exact ⟨τ', a, b.mo hB⟩
/-- typesOfSum(s) -/
theorem r_tsum {x : Nat} {t : tS} (hT : 9010 ≤ Tt) (hS : S ≤ 2100) (hP : P ≤ 2100) (hw : rW V Tt len cnt kk pp ee f) (hL : L.length ≤ 700) (hp : pOk cnt t.2) (h3 : pO3 t.2) (hu : rWs f pp ee (V.2.2.1 32) L env (sEv t.2)) (hs : rSm pp V S P x t) : tGo ks qs Tt h0 k0 L env V am 46 x (am + 6) (sEv t.2).length (mPs f pp ee env t.2) := fun n τ s g T c hn fm h hc => by
  obtain ⟨h1, h2, a, q3, q4, q5, q6⟩ := hs
  obtain ⟨n, rfl⟩ : ∃ n', n = n' + 1 := ⟨n - 1, by omega⟩
  rw [zE_typesOfSum]
  unfold b_typesOfSum
  simp only [zgd, zin_n (show x < 2100 by omega) (by decide), if_true, nI_clamp (show x < 2 ^ 31 by omega), fm.2.2.1 13 (by omega), q3]
  exact r_tsL (a := a) (l := a + t.2.length) hT (by omega) (by omega) hw hL (by omega) t.2 Tt a τ s g T c fm h hp h3 hu q4 rfl q6 (by omega) hc
end RTS
