/-! a PROGRAM is there: what the two hold alike -/
/-- V's cells from lo on, but for types, bases and what the Checker and the Judge put there -/
def vL (lo : Nat) (V σ : oSt) : Prop := (∀ a fs, lo ≤ a → V.1 a = some (.inr (7, fs)) → ∃ v w, σ.1 a = some (.inr (7, (fs.set 8 v).set 20 w))) ∧ (∀ a fs, lo ≤ a → V.1 a = some (.inr (6, fs)) → ∃ gs, σ.1 a = some (.inr (6, gs)) ∧ gs.length = fs.length ∧ gs[0]? = fs[0]? ∧ gs[1]? = fs[1]?) ∧ (∀ a cc, lo ≤ a → V.1 a = some cc → (∀ fs, cc ≠ .inr (7, fs)) → (∀ fs, cc ≠ .inr (6, fs)) → (∀ k fs, cc = .inr (k, fs) → k ∉ [2, 3, 4, 8, 14]) → (∀ y, cc ≠ .inl (.long, y)) → σ.1 a = some cc) ∧ (∀ a, V.2.1 ≤ a → V.1 a = none)
section VLL
variable {lo : Nat} {V σ σ' : oSt}
theorem vL.of (h : vK V σ) (hu : ∀ a, lo ≤ a → σ'.1 a = σ.1 a) : vL lo V σ' := by
  obtain ⟨h1, h2, h3, h4, -⟩ := h
  refine ⟨fun a fs hl e => ?_, fun a fs hl e => ?_, fun a cc hl e n7 n6 _ _ => ((hu a hl).trans (h3 a (Nat.lt_of_not_le (fun z => by rw [h4 a z] at e; cases e)) (fun fs z => by rw [e] at z; injection z with z; exact n7 fs z) (fun fs z => by rw [e] at z; injection z with z; exact n6 fs z))).trans e, h4⟩
  · obtain ⟨v, e'⟩ := h1 a fs e
    obtain ⟨w, hw⟩ := set_self (fs.set 8 v) 20
    exact ⟨v, w, by rw [hu a hl, hw]; exact e'⟩
  · obtain ⟨v, w, e'⟩ := h2 a fs e
    refine ⟨_, (hu a hl).trans e', by rw [List.length_set, List.length_set], ?_, ?_⟩
    · rw [List.getElem?_set_ne (by decide), List.getElem?_set_ne (by decide)]
    · rw [List.getElem?_set_ne (by decide), List.getElem?_set_ne (by decide)]
end VLL
/-- of the text: words, tree, NAMES, types -/
def pgT (T len cnt j : Nat) (kk pp ee f fc : Nat → Int32) (xs : List tQ) (is : List (Nat × Nat)) (e : tT) (α : Nat → tY) : Prop := (len ≤ 2000 ∧ cnt ≤ len ∧ ∀ i, i < len → fc i = f i) ∧ aPr kk T cnt = .inr ((xs, is, e), j) ∧ (nT f pp ee e (nIn f pp ee is ([], [], none))).2.2 = none ∧ mAll (mEnd f pp ee is e).1 α ∧ (fE f pp ee e (is.map Prod.fst) 0 (-1) = -1 ∧ (tOv pp (fun u => (mEnd f pp ee is e).2.2.2.1 u α) (fun u => (mEnd f pp ee is e).2.2.1 u α) e (0, -1)).2 = -1) ∧ (pG kk pp cnt is e ∧ tGd kk cnt e ∧ tH e ≤ 31 ∧ rEv (is.map Prod.fst ++ tW e) e (is.map Prod.fst)) ∧ oW pp ee cnt ∧ (∀ i, cnt ≤ i → kk i = 0) ∧ (∀ w, (ee w).toNatClampNeg ≤ len) ∧ (∀ u v, u < v → v < cnt → pp u < pp v) ∧ mCa f pp ee is e α ∧ ∀ i, cnt < i → ee i = 0
/-- behind the words there is none -/
theorem wLex_oue (T len : Nat) (g : Nat → Int32) : ∀ (m i : Nat) (kk pp ee : Nat → Int32) (cnt : Nat), cnt ≤ (wLex T len g m i kk pp ee cnt).2.2.2.1 ∧ ∀ j, (wLex T len g m i kk pp ee cnt).2.2.2.1 ≤ j → (wLex T len g m i kk pp ee cnt).2.2.1 j = ee j
  | 0, i, kk, pp, ee, cnt => by
    rw [wLex]
    exact ⟨Nat.le_refl _, fun _ _ => rfl⟩
  | m + 1, i, kk, pp, ee, cnt => by
    rw [wLex]
    split
    · split
      · exact wLex_oue T len g m _ _ _ _ _
      · split
        · exact wLex_oue T len g m _ _ _ _ _
        · split
          · exact ⟨Nat.le_refl _, fun _ _ => rfl⟩
          · have h := wLex_oue T len g m (wEnd len g i) (upd kk cnt (wKind T len g i (wEnd len g i))) (upd pp cnt (nI i)) (upd ee cnt (nI (wEnd len g i))) (cnt + 1)
            refine ⟨by omega, fun j hj => ?_⟩
            rw [h.2 j hj]
            have : ¬ j = cnt := by omega
            simp only [upd, if_neg this]
    · exact ⟨Nat.le_refl _, fun _ _ => rfl⟩
/-- of the class's parser as it had read: V -/
def pgV (κ : oKv) (T sz len cnt : Nat) (kk pp ee fc : Nat → Int32) (xs : List tQ) (is : List (Nat × Nat)) (e : tT) (B : Nat → Nat) (p : Nat) (V : oSt) (D : cDt) (at2 cd' : Nat) (am2 : Int32) (nm : Nat → Option Nat) (e0 : Nat) (fb fr fz fn : Nat → Int32) : Prop := cV κ sz len cnt kk pp ee fc B (nI xs.length) (nI is.length) (.ref e0) V D at2 cd' 0 am2 (-1) (-1) (-1) ∧ p < V.2.1 ∧ (cRw B V fb fr fz fn ∧ ∀ k x, xs[k]? = some x → fb k = bCd x.1 ∧ fr k = rCd x.2.1 ∧ fz k = zSr x.2.2 ∧ fn k = zNu T fc pp ee x.2.2.2.2) ∧ cIs B D p V nm is 0 ∧ D.1.2.2.2.2.1 = (is.map Prod.fst ++ tW e).length ∧ (∀ k u, (is.map Prod.fst ++ tW e)[k]? = some u → D.2.1 k = nm u) ∧ (D.1.2.2.2.2.2 = nF e ∧ (p ≤ D.1.1 ∨ D.1.1 = κ.2.2.1) ∧ (p ≤ D.1.2.1 ∨ D.1.2.1 = κ.2.2.1) ∧ ∀ u, u ∈ is.map Prod.fst ++ tW e → ∃ b, nm u = some b ∧ cNc pp ee fc V b u) ∧ wH κ T (4 * cnt + 8) V.2.1 cnt (fun i => V.2.1 + 1 + i) V nm pp (is.map Prod.fst ++ tW e)
/-- of the class's state -/
def pgS (κ : oKv) (T lo cnt : Nat) (kk pp ee f fc : Nat → Int32) (is : List (Nat × Nat)) (e : tT) (α : Nat → tY) (B : Nat → Nat) (p : Nat) (V : oSt) (D : cDt) (nm : Nat → Option Nat) (e0 : Nat) (g : gG) (ρ : Nat → tY) (lv : Int32) (σ : oSt) : Prop := vL lo V σ ∧ lo ≤ p ∧ yTf V.2.1 (fun i => V.2.1 + 1 + i) (4 * cnt + 8) g ρ lv (-1) σ ∧ (∀ u, u ∈ is.map Prod.fst ++ tW e → ∃ b fs c gs, nm u = some b ∧ p ≤ b ∧ V.1 b = some (.inr (6, fs)) ∧ σ.1 b = some (.inr (6, gs)) ∧ gs[2]? = some (.int (nI c)) ∧ c < g.n ∧ ρ c = (mEnd f pp ee is e).2.2.1 u α ∧ gs[3]? = some (.int (cKd (yK ((mEnd f pp ee is e).2.2.1 u α))))) ∧ cTX κ T kk pp ee fc B D (fun m u => eXw σ g ρ (fun u => (mEnd f pp ee is e).2.2.2.1 u α) m u ∧ p ≤ m) p V nm e (is.map Prod.fst) 0 (fun _ => none) 0 e0 ∧ (p ≤ e0 ∧ e0 < V.2.1) ∧ ∃ c, ofd σ (some e0) 7 8 = some (.int (nI c)) ∧ c < g.n ∧ ρ c = (mE f pp ee e (is.map Prod.fst) (mIn is mI0)).2 α
/-- of the class and its Machine -/
def pgX (x p y : Nat) (kd : Int32) (σ : oSt) : Prop := ∃ fs fm ma, σ.1 x = some (.inr (14, fs)) ∧ fs.length = 13 ∧ fs[2]? = some (.ref p) ∧ fs[3]? = some (.ref y) ∧ fs[12]? = some (.ref ma) ∧ σ.1 ma = some (.inr (5, fm)) ∧ fm.length = 18 ∧ fm[0]? = some (.ref p) ∧ fm[1]? = some (.int kd)
/-- of the reference -/
def pgR (T len cnt : Nat) (kk pp ee f : Nat → Int32) (xs : List tQ) (is : List (Nat × Nat)) (e : tT) (α : Nat → tY) (N S P A x0 : Nat) (g' : gG) (ρ' : Nat → tY) (τ : zSt) : Prop := τ.1 66 = 1 ∧ rPo T len cnt kk pp ee f xs is e N S P A x0 τ ∧ rTf τ g' ρ' ∧ (∀ p, p ∈ nE τ e 0 x0 → p.2 ∈ tTg e → nC τ g' ρ' (fun u => (mEnd f pp ee is e).2.2.2.1 u α) p) ∧ (∀ j u, (is.map Prod.fst ++ tW e)[j]? = some u → ∃ c, τ.2.2.1 31 j = nI c ∧ c < g'.n ∧ ρ' c = (mEnd f pp ee is e).2.2.1 u α)
/-- the Machine's INPUTS -/
def lMv (x : Nat) (σ : oSt) (ma va ra : Nat) (fm : List Value) (fv : Nat → Int64) (gr : Nat → Option Nat) : Prop := (∃ fs, σ.1 x = some (.inr (14, fs)) ∧ fs[12]? = some (.ref ma)) ∧ (σ.1 ma = some (.inr (5, fm)) ∧ fm.length = 18 ∧ fm[2]? = some (.ref va) ∧ fm[3]? = some (.ref ra)) ∧ σ.1 va = some (.inl (.long, 6, .inr (.inl fv))) ∧ σ.1 ra = some (.inl (.array .int, 6, .inr (.inr (.inr (.inr gr))))) ∧ (∀ i b, i < 6 → gr i = some b → ∃ h, σ.1 b = some (.inl (.int, 1000, .inl h))) ∧ ∀ i j b, i < 6 → j < 6 → gr i = some b → gr j = some b → i = j
/-- and the two hold them alike -/
def lGv (is : List (Nat × Nat)) (σ : oSt) (τ : zSt) (fv : Nat → Int64) (gr : Nat → Option Nat) : Prop := (∀ i, i < 6 → fv i = τ.2.2.2 103 i) ∧ ∀ i y, is[i]? = some y → y.2 = 2 → (0 ≤ (fv i).toInt ∧ (fv i).toInt ≤ 1000) ∧ ∀ k : Nat, (k : Int) < (fv i).toInt → ∃ b h, gr i = some b ∧ σ.1 b = some (.inl (.int, 1000, .inl h)) ∧ (h k).toInt64 = τ.2.2.2 104 (1000 * i + k)
/-- what a PROGRAM is made of -/
abbrev pgQt : Type := Nat × Nat × Nat × (Nat → Int32) × (Nat → Int32) × (Nat → Int32) × (Nat → Int32) × (Nat → Int32) × (List tQ) × (List (Nat × Nat)) × tT × (Nat → tY) × Nat × Nat × (Nat → Nat) × oSt × cDt × Nat × Nat × Int32 × (Nat → Option Nat) × Nat × (Nat → Int32) × (Nat → Int32) × (Nat → Int32) × (Nat → Int32) × gG × (Nat → tY) × Int32 × Nat × Nat × Nat × Nat × Nat × gG × (Nat → tY)
def pgB (κ : oKv) (T sz x : Nat) (q : pgQt) (σ : oSt) (τ : zSt) : Prop := match q with
  | (len, cnt, j, kk, pp, ee, f, fc, xs, is, e, α, lo, p, B, V, D, at2, cd', am2, nm, e0, fb, fr, fz, fn, g, ρ, lv, N, S, P, A, x0, g', ρ') => pgT T len cnt j kk pp ee f fc xs is e α ∧ pgV κ T sz len cnt kk pp ee fc xs is e B p V D at2 cd' am2 nm e0 fb fr fz fn ∧ ((∃ w r v ka pa ea, B = pA w r v ka pa ea p) ∧ sz ≤ lo ∧ x < lo ∧ ∃ ta, ofd σ (some x) 14 0 = some (.ref ta) ∧ ta < lo) ∧ pgS κ T lo cnt kk pp ee f fc is e α B p V D nm e0 g ρ lv σ ∧ pgX x p V.2.1 (cKd (yK ((mE f pp ee e (is.map Prod.fst) (mIn is mI0)).2 α))) σ ∧ pgR T len cnt kk pp ee f xs is e α N S P A x0 g' ρ' τ ∧ ∃ ma va ra fm fv gr, lMv x σ ma va ra fm fv gr ∧ lGv is σ τ fv gr ∧ (ma < lo ∧ va < lo ∧ ra < lo ∧ V.2.1 + 7 ≤ σ.2.1) ∧ ∀ i b, i < 6 → gr i = some b → b < lo ∨ V.2.1 + 7 ≤ b
/-- where its cells begin -/
def pgLo (q : pgQt) : Nat := match q with
  | (_, _, _, _, _, _, _, _, _, _, _, _, lo, _, _, _, _, _, _, _, _, _, _, _, _, _, _, _, _, _, _, _, _, _, _, _) => lo
def lPg (κ : oKv) (T sz x : Nat) (σ : oSt) (τ : zSt) : Prop := ∃ q, pgB κ T sz x q σ τ
section PGC
variable {κ : oKv} {T lo cnt : Nat} {kk pp ee f fc : Nat → Int32} {is : List (Nat × Nat)} {e : tT} {α : Nat → tY} {B : Nat → Nat} {p : Nat} {V : oSt} {D : cDt} {nm : Nat → Option Nat} {e0 : Nat} {g : gG} {ρ : Nat → tY} {lv : Int32} {σ σ' : oSt}
/-- other cells do not matter -/
theorem pgS.cg (h : pgS κ T lo cnt kk pp ee f fc is e α B p V D nm e0 g ρ lv σ) (hp : p < V.2.1) (hu : ∀ a, lo ≤ a → a < V.2.1 + 7 → σ'.1 a = σ.1 a) : pgS κ T lo cnt kk pp ee f fc is e α B p V D nm e0 g ρ lv σ' := by
  obtain ⟨⟨h1, h2, h3, h4⟩, hl, hy, hn, hX, he, c, c1, c2⟩ := h
  have lt : ∀ a c, V.1 a = some c → a < V.2.1 := fun a c e => by
    by_cases z : a < V.2.1
    · exact z
    · rw [h4 a (by omega)] at e; cases e
  refine ⟨⟨fun a fs ha e => ?_, fun a fs ha e => ?_, fun a cc ha e n7 n6 n2 n8 => (hu a ha (by have := lt a _ e; omega)).trans (h3 a cc ha e n7 n6 n2 n8), h4⟩, hl, hy.cg (hu _ (by omega) (by omega)) (fun i hi => hu _ (by show lo ≤ V.2.1 + 1 + i; omega) (by show V.2.1 + 1 + i < V.2.1 + 7; omega)), fun u hu' => ?_, ?_, he, c, (ofd_cg (hu e0 (by omega) (by omega))).trans c1, c2⟩
  · obtain ⟨v, w, q⟩ := h1 a fs ha e
    exact ⟨v, w, (hu a ha (by have := lt a _ e; omega)).trans q⟩
  · obtain ⟨gs, q1, q2⟩ := h2 a fs ha e
    exact ⟨gs, (hu a ha (by have := lt a _ e; omega)).trans q1, q2⟩
  · obtain ⟨b, fs, c, gs, b1, b2, b3, b4, b5⟩ := hn u hu'
    exact ⟨b, fs, c, gs, b1, b2, b3, (hu b (by omega) (by have := lt b _ b3; omega)).trans b4, b5⟩
  · exact cTX.imo (lo0 := 0) e p _ _ _ _ _ (Nat.zero_le _) (fun m u fs _ hm' hx => by
      obtain ⟨⟨c, d1, d2⟩, hm⟩ := hx
      exact ⟨⟨c, (ofd_cg (hu m (by omega) (by have := lt m _ hm'; omega))).trans d1, d2⟩, hm⟩) hX
end PGC
section LRU
variable {x sz : Nat} {σ u : oSt} {τ v : zSt}
/-- the relation, after a compile() -/
theorem lRel.up {fs fm fs' fm' : List Value} {ma : Nat} (hR : oRm sz σ) (h : lRel x σ τ) (h1 : σ.1 x = some (.inr (14, fs)) ∧ σ.1 ma = some (.inr (5, fm)) ∧ fs[12]? = some (.ref ma)) (hx : u.1 x = some (.inr (14, fs'))) (hl : fs'.length = 13) (k0 : fs'[0]? = fs[0]?) (k6 : fs'[6]? = fs[6]?) (k8 : fs'[8]? = fs[8]?) (k12 : fs'[12]? = fs[12]?) (f1' : fs'[1]? = some (.int 0)) (f5' : fs'[5]? = some (.int (v.1 69))) (hma : u.1 ma = some (.inr (5, fm'))) (m16 : fm'[16]? = some (.long 0)) (m17 : fm'[17]? = fm[17]?) (hk : ∀ p n g, σ.1 p = some (.inl (.byte, n, .inl g)) → u.1 p = σ.1 p) (v3 : v.1 3 = 0) (v5 : v.1 5 = τ.1 5) (v163 : v.1 163 = 0) (v165 : v.1 165 = τ.1 165) (hv2 : ∀ j, v.2.2.1 2 j = τ.2.2.1 2 j) : lRel x u v := by
  obtain ⟨gs, gm, ta, oa, ma', No, ft, go, ⟨g1, hfl⟩, ⟨f0, f1, f5, f6, f8, f12⟩, ⟨t1, t2, t3, t4⟩, ⟨o1, o2, o3, o4, o5, o6⟩, ⟨m1, m2, m3, m4⟩⟩ := h
  obtain ⟨h1a, h1b, h1d⟩ := h1
  rw [h1a] at g1
  injection g1 with g1; injection g1 with g1; injection g1 with _ g1
  subst g1
  rw [h1d] at f12
  injection f12 with f12; injection f12 with f12
  subst f12
  rw [h1b] at m1
  injection m1 with m1; injection m1 with m1; injection m1 with _ m1
  subst m1
  refine ⟨fs', fm', ta, oa, ma, No, ft, go, ⟨hx, hl⟩, ⟨k0.trans f0, by rw [f1', v3], f5', k6.trans f6, by rw [k8, v5]; exact f8, k12.trans h1d⟩, ⟨(hk ta _ _ t1).trans t1, by rw [v3]; decide, by rw [v3]; decide, fun j hj => ?_⟩, ⟨(hk oa _ _ o1).trans o1, by rw [v5]; exact o2, by rw [v5]; exact o3, o4, fun j hj => ?_, o6⟩, ⟨hma, by rw [v163, if_neg (by decide)]; exact m16, by rw [m17, v165]; exact m3, m4⟩⟩
  · rw [v3] at hj
    have : (j : Int) < (0 : Int32).toInt := hj
    exact absurd this (by rw [show (0 : Int32).toInt = 0 from rfl]; omega)
  · rw [v5] at hj
    rw [hv2]; exact o5 j hj
end LRU
