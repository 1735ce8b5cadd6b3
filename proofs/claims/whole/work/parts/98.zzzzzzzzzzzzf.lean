/-! the class's Judge: begin(), its second loop -/
/-- what begin() does not write -/
def jKb (pa ph ta th : Nat) (σ σ' : oSt) : Prop := (∀ x cc, σ.1 x = some cc → jFr pa ph ta th x cc → (∀ fs, cc ≠ .inr (4, fs)) → (∀ fs, cc ≠ .inr (6, fs)) → σ'.1 x = some cc) ∧ (∀ x fs, σ.1 x = some (.inr (4, fs)) → ∃ fs', σ'.1 x = some (.inr (4, fs')) ∧ fs'.length = fs.length ∧ ∀ i, i < 11 → fs'[i]? = fs[i]?) ∧ (∀ x fs, σ.1 x = some (.inr (6, fs)) → ∃ fs', σ'.1 x = some (.inr (6, fs')) ∧ fs'.length = fs.length ∧ ∀ i, i ≠ 6 → i ≠ 7 → fs'[i]? = fs[i]?) ∧ (∀ x, σ.1 x = none → (x < σ.2.1 ∨ σ'.2.1 ≤ x) → σ'.1 x = none) ∧ σ.2.1 ≤ σ'.2.1
section JKB
variable {lo : Nat × (Nat → Prop)} {pa ph ta th k w ra sa : Nat} {σ σ' : oSt} {F : List kFc} {G : List (Nat × kTe)} {bs : Nat → Int32} {kn : Nat → Nat} {X : Nat → Prop}
theorem jKb.rf (σ : oSt) : jKb pa ph ta th σ σ := ⟨fun _ _ h _ _ _ => h, fun _ fs h => ⟨fs, h, rfl, fun _ _ => rfl⟩, fun _ fs h => ⟨fs, h, rfl, fun _ _ _ => rfl⟩, fun _ h _ => h, Nat.le_refl _⟩
theorem jKb.tr {a b c : oSt} (h : jKb pa ph ta th a b) (g : jKb pa ph ta th b c) : jKb pa ph ta th a c := ⟨fun x cc e k l m => g.1 x cc (h.1 x cc e k l m) k l m, fun x fs e => by
  obtain ⟨f1, a1, a2, a3⟩ := h.2.1 x fs e
  obtain ⟨f2, b1, b2, b3⟩ := g.2.1 x f1 a1
  exact ⟨f2, b1, b2.trans a2, fun i hi => (b3 i hi).trans (a3 i hi)⟩, fun x fs e => by
  obtain ⟨f1, a1, a2, a3⟩ := h.2.2.1 x fs e
  obtain ⟨f2, b1, b2, b3⟩ := g.2.2.1 x f1 a1
  exact ⟨f2, b1, b2.trans a2, fun i h6 h7 => (b3 i h6 h7).trans (a3 i h6 h7)⟩, fun x e k => g.2.2.2.1 x (h.2.2.2.1 x e (k.imp id (fun w => Nat.le_trans g.2.2.2.2 w))) (k.imp (fun w => Nat.lt_of_lt_of_le w h.2.2.2.2) id), Nat.le_trans h.2.2.2.2 g.2.2.2.2⟩
theorem jK4.b (h : jK4 pa ph ta th σ σ') : jKb pa ph ta th σ σ' := ⟨fun x cc e k l _ => h.1 x cc e k l, h.2.1, fun x fs e => ⟨fs, h.ob e (by decide) (by decide) (by decide), rfl, fun _ _ _ => rfl⟩, h.2.2.1, h.2.2.2⟩
theorem jK4.kw (h : jK4 pa ph ta th σ σ') : jKw X pa ph ta th σ σ' := ⟨fun x cc e k l => h.1 x cc e k (fun fs w => by subst w; exact l rfl), h.2.2.1, h.2.2.2, fun x fs e => by
  obtain ⟨f1, a1, a2, a3⟩ := h.2.1 x fs e
  exact ⟨f1, a1, a2, fun i hi _ => a3 i hi⟩⟩
theorem jKn.b {A : List Nat} (h : jKn A σ σ') : jKb pa ph ta th σ σ' := ⟨fun x cc e _ _ h6 => h.ot e h6, fun x fs e => ⟨fs, h.ot e (fun f w => by injection w with w; injection w with w; exact absurd w (by decide)), rfl, fun _ _ => rfl⟩, fun x fs e => h.nm e, fun x e _ => (h.1 x (fun z => by
  obtain ⟨f1, f2, a1, -⟩ := h.2.2 x z
  rw [e] at a1
  cases a1)).trans e, by rw [h.2.1]; exact Nat.le_refl _⟩
theorem jKb.ob (h : jKb pa ph ta th σ σ') {x k : Nat} {fs : List Value} (e : σ.1 x = some (.inr (k, fs))) (h3 : k ≠ 3) (h8 : k ≠ 8) (h4 : k ≠ 4) (h6 : k ≠ 6) : σ'.1 x = some (.inr (k, fs)) := h.1 _ _ e ⟨h3, h8⟩ (fun fs' w => by injection w with w; injection w with w w2; exact h4 w) (fun fs' w => by injection w with w; injection w with w w2; exact h6 w)
theorem jKb.ar (h : jKb pa ph ta th σ σ') {x : Nat} {y} (e : σ.1 x = some (.inl y)) (hl : y.1 ≠ .long) (hx : x ≠ pa ∧ x ≠ ph ∧ x ≠ ta ∧ x ≠ th) : σ'.1 x = some (.inl y) := h.1 _ _ e ⟨hl, hx⟩ (fun fs' w => by cases w) (fun fs' w => by cases w)
theorem jKb.fr (h : jKb pa ph ta th σ σ') (hf : ∀ q, σ.2.1 ≤ q → σ.1 q = none) : ∀ q, σ'.2.1 ≤ q → σ'.1 q = none := fun q hq => h.2.2.2.1 q (hf q (Nat.le_trans h.2.2.2.2 hq)) (Or.inr hq)
theorem cTm.kb {su : Nat} {t : kTe} (hJ : pa < lo.1 ∧ ph < lo.1 ∧ ta < lo.1 ∧ th < lo.1) (h : jKb pa ph ta th σ σ') (g : cTm lo σ su t) : cTm lo σ' su t := by
  obtain ⟨na, ta', cap, Ls, pl, ⟨g, h', s1, s2, s3, s4, s5⟩, h2, ⟨h3, l1, l2, l3⟩, h4⟩ := g
  refine ⟨na, ta', cap, Ls, pl, ⟨g, h', h.ob s1 (by decide) (by decide) (by decide) (by decide), h.ar s2 (fun e => by cases e) (by omega), h.ar s3 (fun e => by cases e) (by omega), s4, fun k b c e => ?_⟩, h2, ⟨h3, l1, l2, l3⟩, h4⟩
  obtain ⟨q1, q2, fs, q3⟩ := s5 k b c e
  obtain ⟨f2, q4, -⟩ := h.2.2.1 _ _ q3
  exact ⟨q1, q2, f2, q4⟩
theorem kOr.kb (hJ : pa < lo.1 ∧ ph < lo.1 ∧ ta < lo.1 ∧ th < lo.1) (h : jKb pa ph ta th σ σ') (g : kOr lo σ w ra sa F) : kOr lo σ' w ra sa F := by
  obtain ⟨fo, cap, hr, gs, o1, o2, o3, o4, o5⟩ := g
  obtain ⟨f1, a1, a2, a3⟩ := h.2.1 _ _ o1
  refine ⟨f1, cap, hr, gs, a1, a2.trans o2, (a3 7 (by decide)).trans o3, o4, ?_⟩
  rcases o5 with o5 | ⟨o5, o6, o7, o8, ⟨o9, l1, l2, l3⟩, o10⟩
  · exact Or.inl o5
  · refine Or.inr ⟨(a3 5 (by decide)).trans o5, (a3 6 (by decide)).trans o6, h.ar o7 (fun e => by cases e) (by omega), h.ar o8 (fun e => by cases e) (by omega), ⟨o9, l1, l2, l3⟩, fun i x e => ?_⟩
    obtain ⟨p1, p2, su, p3, p4⟩ := o10 i x e
    exact ⟨p1, p2, su, p3, p4.kb hJ h⟩
theorem kGo.kb (hJ : pa < lo.1 ∧ ph < lo.1 ∧ ta < lo.1 ∧ th < lo.1) (h : jKb pa ph ta th σ σ') (g : kGo lo σ k w G) : kGo lo σ' k w G := by
  obtain ⟨fs, o1, o2, o3, o4, o5⟩ := g
  obtain ⟨f1, a1, a2, a3⟩ := h.2.1 _ _ o1
  refine ⟨f1, a1, a2.trans o2, (a3 1 (by decide)).trans o3, o4, ?_⟩
  rcases o5 with ⟨b1, b2⟩ | ⟨gn, ins, g, g', ⟨l1, l2, l3⟩, b1, b2, b3, b4, b5⟩
  · exact Or.inl ⟨b1, (a3 9 (by decide)).trans b2⟩
  · refine Or.inr ⟨gn, ins, g, g', ⟨l1, l2, l3⟩, (a3 9 (by decide)).trans b1, (a3 10 (by decide)).trans b2, h.ar b3 (fun e => by cases e) (by omega), h.ar b4 (fun e => by cases e) (by omega), fun i x e => ?_⟩
    obtain ⟨p1, su, p3, p4⟩ := b5 i x e
    exact ⟨p1, su, p3, p4.kb hJ h⟩
theorem cScp.kb (h : jKb pa ph ta th σ σ') : ∀ (Sc : List sEn) (s : Option Nat), cScp bs kn σ Sc s → cScp bs kn σ' Sc s
  | [], _, g => g
  | .inl a :: r, s, ⟨q, ou, v2, g1, g2, ⟨fs, g3, g4, g5, g6⟩, g7⟩ => by
    obtain ⟨f2, b1, b2, b3⟩ := h.2.2.1 _ _ g3
    exact ⟨q, ou, v2, g1, h.ob g2 (by decide) (by decide) (by decide) (by decide), ⟨f2, b1, b2.trans g4, (b3 3 (by decide) (by decide)).trans g5, fun w => (b3 4 (by decide) (by decide)).trans (g6 w)⟩, cScp.kb h r ou g7⟩
  | .inr (m, hh) :: r, s, ⟨q, ou, g1, g2, g7⟩ => ⟨q, ou, g1, h.ob g2 (by decide) (by decide) (by decide) (by decide), cScp.kb h r ou g7⟩
/-- a Known that can be learnt: ar no int, G what is put in, F its FACTS, of the NAMES ms -/
def kInf (lo : Nat × (Nat → Prop)) (σ : oSt) (B : Int) (ms : List Nat) (k : Nat) (D : Bool × List (Nat × kTe) × List kFc) : Prop := ∃ w ra sa fs kd, σ.1 k = some (.inr (4, fs)) ∧ fs[0]? = some (.int kd) ∧ D.1 = decide (kd ≠ 210) ∧ kGo lo σ k w D.2.1 ∧ kOr lo σ w ra sa D.2.2 ∧ ∀ x, x ∈ D.2.2 → (∀ a e, (kRs D.2.1 x.2).1 = some (a, e) → a ∈ ms) ∧ kBd B (kRs D.2.1 x.2)
theorem kInf.kb {B : Int} {ms : List Nat} {D : Bool × List (Nat × kTe) × List kFc} (hJ : pa < lo.1 ∧ ph < lo.1 ∧ ta < lo.1 ∧ th < lo.1) (h : jKb pa ph ta th σ σ') (g : kInf lo σ B ms k D) : kInf lo σ' B ms k D := by
  obtain ⟨w, ra, sa, fs, kd, g1, g2, g3, g4, g5, g6⟩ := g
  obtain ⟨f1, a1, a2, a3⟩ := h.2.1 _ _ g1
  exact ⟨w, ra, sa, f1, kd, a1, (a3 0 (by decide)).trans g2, g3, g4.kb hJ h, g5.kb hJ h, g6⟩
end JKB
/-- limits may be added first or last -/
theorem exL.sh {K : oKt} (hK : kInv K) (A : List oLm) : ∀ (Bs : List (List oBr)) (L : List oLm) (ts : List (Nat × Bool)), exL Bs K (A ++ L) ts ↔ exL Bs (fun L ts => K (A ++ L) ts) L ts
  | [], L, ts => Iff.rfl
  | B :: Bs, L, ts => by
    show (∃ b, b ∈ B ∧ exL Bs K (b.1 ++ (A ++ L)) (b.2 ++ ts)) ↔ ∃ b, b ∈ B ∧ exL Bs (fun L ts => K (A ++ L) ts) (b.1 ++ L) (b.2 ++ ts)
    have one : ∀ b : oBr, exL Bs K (b.1 ++ (A ++ L)) (b.2 ++ ts) ↔ exL Bs (fun L ts => K (A ++ L) ts) (b.1 ++ L) (b.2 ++ ts) := fun b => by
      rw [← exL.sh hK A Bs]
      refine (exL.inv hK Bs).iff (xC.cg fun l => ?_) (fun x => Iff.rfl)
      simp only [List.mem_append]
      exact ⟨fun z => by rcases z with z | z | z <;> simp [z], fun z => by rcases z with z | z | z <;> simp [z]⟩
    constructor
    · rintro ⟨b, h1, h2⟩; exact ⟨b, h1, (one b).mp h2⟩
    · rintro ⟨b, h1, h2⟩; exact ⟨b, h1, (one b).mpr h2⟩
theorem kDd.sh {K : oKt} (hK : kDd K) (A : List oLm) : kDd (fun L ts => K (A ++ L) ts) := ⟨fun L L' ts ts' h1 h2 k => hK.1 _ _ _ _ (by rw [xC.app, xC.app, h1]) h2 k, fun L ts k => ⟨xOk.mono (fun l w => List.mem_append_right _ w) (hK.2 _ _ k).1, (hK.2 _ _ k).2⟩⟩
section JB2
variable {lo : Nat × (Nat → Prop)} {κ : oKv} {T j o pa ph ta th W c ca len : Nat} {rd : Int32} {wk : Option Nat} {ps : Int32} {B : Int} {sl ti : Nat → Nat} {Mn : Nat → Bool → List oBr} {X : Nat → Prop} {bs : Nat → Int32} {kn : Nat → Nat}
/-- limits and conditions that are known so far: Wy the conditions' ways, Lp the FACTS' limits -/
def bgI (X : Nat → Prop) (κ : oKv) (j o ca pa ph ta th len W c : Nat) (rd : Int32) (wk : Option Nat) (ps : Int32) (B : Int) (sl ti : Nat → Nat) (Mn : Nat → Bool → List oBr) (Hm A0 : Nat) (σ : oSt) (f : Nat → Int64) (fa : Int32) (Tr : List (Nat × Bool)) (L : List oLm) (Z : List ((Nat × Bool) × Nat)) (Wy : List (List oBr)) (Lp : List oLm) : Prop := jSt σ j o ca pa ph ta th len W 0 0 fa f rd wk ps (Z.map Prod.fst) Tr ∧ oLv 0 B W 0 L f fa ∧ xLn B W L ∧ (∀ z, z ∈ Z → jMn X κ σ pa ph ta th rd sl ti c B Mn Hm z.2 z.1.1 ∧ jW σ z.1.1 z.1.2) ∧ (Z.map Prod.snd).sum + Tr.length ≤ A0 ∧ (xOk (xC L) → tCo Tr) ∧ ∀ K, kDd K → (exL (pMn Mn (Z.map Prod.fst)) K L (tMn ti Tr) ↔ exL Wy K Lp [])
theorem c_bg104 {N Hm : Nat} {at' : Nat → Nat} {ms : List Nat} {Dk : Nat → Bool × List (Nat × kTe) × List kFc} (hT : 100200 ≤ T) (hJ : pa < lo.1 ∧ ph < lo.1 ∧ ta < lo.1 ∧ th < lo.1) (hc : 0 < c ∧ c ≤ 60) (hWc : W = 2 * c) (hl : len < 2 ^ 31) (hm : W * W ≤ len) (hB : 2 ≤ B) (hBW : (W : Int) * B + B + 2 ≤ 4503599627370496) (hN : Hm + 6 ≤ N) : ∀ (Sc : List sEn) (s : Option Nat) (t A0 : Nat) (σ : oSt) (f : Nat → Int64) (fa : Int32) (Tr : List (Nat × Bool)) (L : List oLm) (Z : List ((Nat × Bool) × Nat)) (Wy : List (List oBr)) (Lp : List oLm), cScp bs kn σ Sc s → Sc.length < t → (∀ a, a ∈ msL bs Sc → kInf lo σ B ms (kn a) (Dk a) ∧ a ∈ ms) → (∀ a, a ∈ ms → nSl σ rd sl c a) → (∀ x, x ∈ tsL Sc → jMn X κ σ pa ph ta th rd sl ti c B Mn Hm (at' x.1) x.1) → A0 + ((tsL Sc).map (fun x => at' x.1)).sum ≤ 20 → bgI X κ j o ca pa ph ta th len W c rd wk ps B sl ti Mn Hm A0 σ f fa Tr L Z Wy Lp → ∃ σ' f' fa' Tr' L' Z', ol_X1_begin_104 T (oF κ T N) κ t (some j) s σ = some (none, σ') ∧ jK4 pa ph ta th σ σ' ∧ σ'.2 = σ.2 ∧ bgI X κ j o ca pa ph ta th len W c rd wk ps B sl ti Mn Hm (A0 + ((tsL Sc).map (fun x => at' x.1)).sum) σ' f' fa' Tr' L' Z' (Wy ++ (tsL Sc).map (fun x => Mn x.1 x.2)) ((msL bs Sc).flatMap (fun a => lrnL sl (sl a) (Dk a).1 (Dk a).2.1 (Dk a).2.2) ++ Lp)
  | [], s, t, A0, σ, f, fa, Tr, L, Z, Wy, Lp, hS, ht, hK, hn, hM, hA, hI => by
    obtain ⟨t, rfl⟩ : ∃ t', t = t' + 1 := ⟨t - 1, by omega⟩
    have hS : s = none := hS
    subst hS
    refine ⟨σ, f, fa, Tr, L, Z, by rw [ol_X1_begin_104, if_pos rfl], jK4.rf σ, rfl, ?_⟩
    show bgI X κ j o ca pa ph ta th len W c rd wk ps B sl ti Mn Hm A0 σ f fa Tr L Z (Wy ++ []) Lp
    rw [List.append_nil]
    exact hI
  | .inl a :: r, s, t, A0, σ, f, fa, Tr, L, Z, Wy, Lp, ⟨q, ou, v2, g1, g2, ⟨fs, g3, g4, g5, g6⟩, g7⟩, ht, hK, hn, hM, hA, hI => by
    obtain ⟨t, rfl⟩ : ∃ t', t = t' + 1 := ⟨t - 1, by omega⟩
    obtain ⟨N, rfl⟩ : ∃ N', N = N' + 4 := ⟨N - 4, by omega⟩
    subst g1
    have q0 : ofd σ (some q) 10 0 = some (.ref a) := ofd_at g2
    have q1 : ofd σ (some q) 10 1 = some (va_rf none) := ofd_at g2
    have q3 : ofd σ (some q) 10 3 = some (va_rf ou) := ofd_at g2
    have mes := c_meas (κ := κ) (T := T) (n := N + 3) g3 g5
    have ht' : r.length < t := by have := ht; simp only [List.length_cons] at this; omega
    by_cases z : isM (bs a) = true
    · have eM : msL bs (.inl a :: r) = a :: msL bs r := if_pos z
      rw [eM] at hK ⊢
      obtain ⟨⟨w, ra, sa, kf, kd, k1, k2, k3, k4, k5, k6⟩, ham⟩ := hK a (List.mem_cons_self ..)
      obtain ⟨nf, n1, n2, n3, n4⟩ := hn a ham
      have enf : nf = fs := by
        rw [n1] at g3
        injection g3 with e
        injection e with e
        injection e with e e2
      subst enf
      obtain ⟨J, i2, i3, i4, i5, i6, i7⟩ := hI
      obtain ⟨σ1, f1, fa1, L1, b1, b2, b3, b4, b5, b6, b7, b8⟩ := c_learn (κ := κ) (T := T) (n := N) (s := sl a) (sl := sl) (b := 0) hT hJ hc hWc hl (by omega) hB hBW i3 J i2 k1 k2 k4 k5 (fun x hx => ⟨fun a' e' w' => hn a' ((k6 x hx).1 a' e' w'), (k6 x hx).2⟩) n4
      rw [← k3] at b6
      have K1 : jKb pa ph ta th σ σ1 := b3.b
      have I1 : bgI X κ j o ca pa ph ta th len W c rd wk ps B sl ti Mn Hm A0 σ1 f1 fa1 Tr L1 Z Wy (lrnL sl (sl a) (Dk a).1 (Dk a).2.1 (Dk a).2.2 ++ Lp) := by
        refine ⟨b2, b5, b7, fun y hy => ⟨jMn.jw b3.kw _ _ _ (i4 y hy).1, (i4 y hy).2.jw (X := X) b3.kw⟩, i5, fun hO => i6 ?_, fun K hK' => ?_⟩
        · rw [b6] at hO
          exact xOk.mono (fun l w => List.mem_append_right _ w) hO
        · rw [(exL.inv hK'.1 _).iff b6 (fun x => Iff.rfl), exL.sh hK'.1, i7 _ (hK'.sh _), ← exL.sh hK'.1]
      obtain ⟨σ', f', fa', Tr', L', Z', r1, r2, r3, r4⟩ := c_bg104 (at' := at') (Dk := Dk) hT hJ hc hWc hl hm hB hBW hN r ou t A0 σ1 f1 fa1 Tr L1 Z Wy (lrnL sl (sl a) (Dk a).1 (Dk a).2.1 (Dk a).2.2 ++ Lp) (cScp.kb K1 r ou g7) ht' (fun a' ha' => ⟨(hK a' (List.mem_cons_of_mem _ ha')).1.kb hJ K1, (hK a' (List.mem_cons_of_mem _ ha')).2⟩) (fun a' ha' => (hn a' ha').k4 b3) (fun x hx => jMn.jw b3.kw _ _ _ (hM x hx)) hA I1
      refine ⟨σ', f', fa', Tr', L', Z', ?_, b3.tr r2, r3.trans b4, ?_⟩
      · have f4 : ofd σ (some a) 6 4 = some (.ref (kn a)) := (ofd_at g3).trans (g6 z)
        have f6 : ofd σ (some a) 6 6 = some (.int (nI (sl a))) := (ofd_at g3).trans n2
        have q3' : ofd σ1 (some q) 10 3 = some (va_rf ou) := ofd_at (K1.ob g2 (by decide) (by decide) (by decide) (by decide))
        rw [ol_X1_begin_104, if_neg (by simp), q1, ovr_va, obn_at, if_pos rfl, q0, ovr_rf, obn_at, oob_at g3, obn_at, mes, z, oin_at, if_neg (by decide), q0, ovr_rf, obn_at, f4, ovr_rf, obn_at, if_neg (by simp), obn_at, f4, ovr_rf, obn_at, obn_at, f6, ovi_i, obn_at, oob_at J.1, obn_at, b1, ocv_at]
        unfold oj_X1_begin_176
        rw [q3', ovr_va, obn_at]
        exact r1
      · rw [List.flatMap_cons]
        obtain ⟨u1, u2, u3, u4, u5, u6, u7⟩ := r4
        refine ⟨u1, u2, u3, u4, u5, u6, fun K hK' => ?_⟩
        rw [u7 K hK']
        refine (exL.inv hK'.1 _).iff (xC.cg fun l => ?_) (fun x => Iff.rfl)
        simp only [List.mem_append]
        exact ⟨fun z => by rcases z with z | z | z <;> simp [z], fun z => by rcases z with (z | z) | z <;> simp [z]⟩
    · have eM : msL bs (.inl a :: r) = msL bs r := if_neg z
      rw [eM] at hK ⊢
      obtain ⟨σ', f', fa', Tr', L', Z', r1, r2, r3, r4⟩ := c_bg104 (at' := at') (Dk := Dk) hT hJ hc hWc hl hm hB hBW hN r ou t A0 σ f fa Tr L Z Wy Lp g7 ht' hK hn hM hA hI
      refine ⟨σ', f', fa', Tr', L', Z', ?_, r2, r3, r4⟩
      rw [ol_X1_begin_104, if_neg (by simp), q1, ovr_va, obn_at, if_pos rfl, q0, ovr_rf, obn_at, oob_at g3, obn_at, mes, show isM (bs a) = false by simpa using z, oin_at, if_pos (by decide)]
      unfold oj_X1_begin_176
      rw [q3, ovr_va, obn_at]
      exact r1
  | .inr (m, hh) :: r, s, t, A0, σ, f, fa, Tr, L, Z, Wy, Lp, ⟨q, ou, g1, g2, g7⟩, ht, hK, hn, hM, hA, hI => by
    obtain ⟨t, rfl⟩ : ∃ t', t = t' + 1 := ⟨t - 1, by omega⟩
    subst g1
    have q1 : ofd σ (some q) 10 1 = some (.ref m) := ofd_at g2
    have q2 : ofd σ (some q) 10 2 = some (.int (b01 hh)) := ofd_at g2
    have ht' : r.length < t := by have := ht; simp only [List.length_cons] at this; omega
    have eA : ((tsL (.inr (m, hh) :: r)).map (fun x => at' x.1)).sum = at' m + ((tsL r).map (fun x => at' x.1)).sum := rfl
    rw [eA] at hA ⊢
    have mM := hM (m, hh) (List.mem_cons_self ..)
    obtain ⟨J, i2, i3, i4, i5, i6, i7⟩ := hI
    have zl : (Z.map Prod.fst).length ≤ (Z.map Prod.snd).sum := by
      have := wZ_le Z (fun z hz => (i4 z hz).1.nd.2)
      have h2 : Z.length ≤ (Z.map Prod.snd).sum := by
        have gen : ∀ l : List ((Nat × Bool) × Nat), (∀ y, y ∈ l → 1 ≤ y.2) → l.length ≤ (l.map Prod.snd).sum := fun l => by
          induction l with
          | nil => exact fun _ => Nat.le_refl _
          | cons y l il =>
            intro hy
            have := il (fun w hw => hy w (List.mem_cons_of_mem _ hw))
            have := hy y (List.mem_cons_self ..)
            simp only [List.map_cons, List.sum_cons, List.length_cons]
            omega
        exact gen Z (fun z hz => (i4 z hz).1.nd.2)
      rw [List.length_map]
      exact h2
    obtain ⟨σ1, f1, fa1, P1, Tr1, L1, a1, a2, ⟨a3, a4⟩, a5, a6, a7, ⟨a8, a8'⟩, ⟨⟨Zn, z1, z2, z3, z4⟩, Y, a10⟩, a12, a13⟩ := c_assume (κ := κ) (T := T) (X := X) (ti := ti) (b := 0) (cl := 0) (by omega) hc hWc hl (by omega) (by omega) hBW Hm (at' m) m N σ f fa (Z.map Prod.fst) Tr L hh hN mM J i2 i3 (by omega) (by omega)
    have eP : P1 = (Z ++ Zn).map Prod.fst := by rw [z1, List.map_append]
    subst eP
    have I1 : bgI X κ j o ca pa ph ta th len W c rd wk ps B sl ti Mn Hm (A0 + at' m) σ1 f1 fa1 Tr1 L1 (Z ++ Zn) (Wy ++ [Mn m hh]) Lp := by
      refine ⟨a2, a5, a6, fun y hy => ?_, by rw [List.map_append, List.sum_append]; omega, a12 i6, fun K hK' => ?_⟩
      · rcases List.mem_append.mp hy with hy | hy
        · exact ⟨jMn.jk a3 _ _ _ (i4 y hy).1, (i4 y hy).2.jk a3⟩
        · exact z3 y hy
      · have eM : pMn Mn ((Z ++ Zn).map Prod.fst) = pMn Mn (Z.map Prod.fst) ++ pMn Mn (Zn.map Prod.fst) := by unfold pMn; rw [List.map_append, List.map_append]
        rw [eM, exL.app, exL.swap hK'.1, z4 _ (exL.d hK' _), ← exL.pull hK'.1, i7 _ (exB.d hK'), exL.app]
        rfl
    have K1 : jKb pa ph ta th σ σ1 := a3.k4.b
    obtain ⟨σ', f', fa', Tr', L', Z', r1, r2, r3, r4⟩ := c_bg104 (at' := at') (Dk := Dk) hT hJ hc hWc hl hm hB hBW hN r ou t (A0 + at' m) σ1 f1 fa1 Tr1 L1 (Z ++ Zn) (Wy ++ [Mn m hh]) Lp (cScp.kb K1 r ou g7) ht' (fun a' ha' => ⟨(hK a' ha').1.kb hJ K1, (hK a' ha').2⟩) (fun a' ha' => (hn a' ha').jk a3) (fun x hx => jMn.jk a3 _ _ _ (hM x (List.mem_cons_of_mem _ hx))) (by omega) I1
    refine ⟨σ', f', fa', Tr', L', Z', ?_, a3.k4.tr r2, r3.trans a4, ?_⟩
    · have q3' : ofd σ1 (some q) 10 3 = some (va_rf ou) := ofd_at (K1.ob g2 (by decide) (by decide) (by decide) (by decide))
      rw [ol_X1_begin_104, if_neg (by simp), q1, ovr_rf, obn_at, if_neg (by simp), obn_at, q2, ovi_i, obn_at, oob_at J.1, obn_at, a1, ocv_at]
      unfold oj_X1_begin_176
      rw [q3', ovr_va, obn_at]
      exact r1
    · rw [List.append_assoc, Nat.add_assoc] at r4
      exact r4
end JB2
