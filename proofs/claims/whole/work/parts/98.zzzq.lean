/-! the reference: namesOfSum -/
def kPt (f pp ee : Nat → Int32) (p : tP) (q : kSt) : kSt := if p.1 = 0 then q else kUse f pp ee p.2.2 q
def kPs (f pp ee : Nat → Int32) (ps : List tP) (q : kSt) : kSt := ps.foldl (fun q p => kPt f pp ee p q) q
/-- PARTs' words in range -/
def pOk (cnt : Nat) (ps : List tP) : Prop := ∀ p ∈ ps, p.1 < 100 ∧ (p.1 ≠ 0 → p.2.2 < cnt)
section KRP
variable {ks : Nat → Nat} {qs : List Nat} {T n h0 len cnt : Nat} {kk pp ee f : Nat → Int32}
theorem kUse_12 (w : Nat) (q : kSt) : (kUse f pp ee w q).1 = q.1 ∧ (kUse f pp ee w q).2.1 = q.2.1 := by
  unfold kUse kUsO kBad
  cases kSee f pp ee q.2.1 q.1 w <;> exact ⟨rfl, rfl⟩
theorem kPt_12 (p : tP) (q : kSt) : (kPt f pp ee p q).1 = q.1 ∧ (kPt f pp ee p q).2.1 = q.2.1 := by
  unfold kPt
  by_cases c : p.1 = 0
  · rw [if_pos c]; exact ⟨rfl, rfl⟩
  · rw [if_neg c]; exact kUse_12 _ _
theorem kPs_12 : ∀ (ps : List tP) (q : kSt), (kPs f pp ee ps q).1 = q.1 ∧ (kPs f pp ee ps q).2.1 = q.2.1
  | [], _ => ⟨rfl, rfl⟩
  | p :: ps, q => by
    have h := kPs_12 ps (kPt f pp ee p q)
    have g := kPt_12 (f := f) (pp := pp) (ee := ee) p q
    exact ⟨h.1.trans g.1, h.2.trans g.2⟩
theorem kOk.of {q q' : kSt} (h : kOk cnt q) (g : q'.1 = q.1 ∧ q'.2.1 = q.2.1) : kOk cnt q' := by
  unfold kOk
  rw [g.1, g.2]
  exact h
theorem kFm.at {τ τ' : zSt} (g : kFm τ τ') (lo N S P A : Nat) : rAt lo N S P A τ τ' :=
  ⟨fun m _ _ => funext fun k => congrFun (g.2.2.1 _ (by omega) (by omega) (by omega)) m, fun k j a b _ => congrFun (g.2.2.1 k (by omega) (by omega) (by omega)) j, fun k j a b _ => congrFun (g.2.2.1 k (by omega) (by omega) (by omega)) j, fun m _ => funext fun k => congrFun (g.2.2.1 _ (by omega) (by omega) (by omega)) m⟩
theorem r_nsL {s a l : Nat} (hT : 2010 ≤ T) (hs : s < 2100) (hl : l ≤ 2100) : ∀ (ps : List tP) (t i : Nat) (τ : zSt) (q : kSt), rW τ T len cnt kk pp ee f → kR τ q → kOk cnt q → q.1.length ≤ 400 → pOk cnt ps → τ.2.2.1 14 s = nI l → i + ps.length = l → rPs τ i ps → ps.length < t → ∃ τ', l_namesOfSum_7 T (zF h0 qs ks T (n + 2)) h0 qs ks t (nI s) (nI i) τ = some (none, τ') ∧ kR τ' (kPs f pp ee ps q) ∧ kFm τ τ' := by
  intro ps
  induction ps with
  | nil =>
    intro t i τ q hw h ho hE hp h14 hi hr ht
    obtain ⟨t, rfl⟩ : ∃ t', t = t' + 1 := ⟨t - 1, by omega⟩
    have hi : i = l := hi
    rw [l_namesOfSum_7]
    simp only [zgd, zin_n hs (by decide), if_true, nI_clamp (show s < 2 ^ 31 by omega), h14]
    rw [if_pos (nI_le (by omega) (by omega))]
    exact ⟨τ, rfl, h, kFm.rf τ⟩
  | cons p ps IH =>
    intro t i τ q hw h ho hE hp h14 hi hr ht
    rw [List.length_cons] at hi ht
    obtain ⟨t, rfl⟩ : ∃ t', t = t' + 1 := ⟨t - 1, by omega⟩
    obtain ⟨r1, r2, r3⟩ := hr 0 p rfl
    rw [Nat.add_zero] at r1 r3
    obtain ⟨o1, o2⟩ := hp p (List.mem_cons_self ..)
    rw [l_namesOfSum_7]
    simp only [zgd, zin_n hs (by decide), if_true, nI_clamp (show s < 2 ^ 31 by omega), h14]
    rw [if_neg (nI_ge (show i < l by omega) (by omega))]
    simp only [zin_n (show i < 2100 by omega) (by decide), if_true, nI_clamp (show i < 2 ^ 31 by omega), r1, r3, j_namesOfSum_36]
    have e2 : nI i + 1 = nI (i + 1) := nI_add i 1 ▸ rfl
    have go : ∀ (υ : zSt) (q' : kSt), kFm τ υ → kR υ q' → q'.1 = q.1 ∧ q'.2.1 = q.2.1 → ∃ τ', l_namesOfSum_7 T (zF h0 qs ks T (n + 2)) h0 qs ks t (nI s) (nI i + 1) υ = some (none, τ') ∧ kR τ' (kPs f pp ee ps q') ∧ kFm τ τ' := fun υ q' gg gr g12 => by
      have hx : rPs υ (i + 1) ps := fun a x ex => by
        have := hr (a + 1) x ex
        rw [gg.2.2.1 16 (by decide) (by decide) (by decide), gg.2.2.1 17 (by decide) (by decide) (by decide), gg.2.2.1 18 (by decide) (by decide) (by decide), show i + 1 + a = i + (a + 1) by omega]
        exact this
      obtain ⟨τ', t1, t2, t3⟩ := IH t (i + 1) υ q' (gg.rw hw) gr (ho.of g12) (by rw [g12.1]; exact hE) (fun x hx => hp x (List.mem_cons_of_mem _ hx)) (by rw [gg.2.2.1 14 (by decide) (by decide) (by decide)]; exact h14) (by omega) hx (by omega)
      rw [e2]
      exact ⟨τ', t1, t2, gg.tr t3⟩
    show ∃ τ', _ ∧ kR τ' (kPs f pp ee ps (kPt f pp ee p q)) ∧ _
    unfold kPt
    by_cases c : p.1 = 0
    · rw [if_pos (show nI p.1 ≤ 0 by rw [c]; decide), if_pos c]
      exact go τ q (kFm.rf τ) h ⟨rfl, rfl⟩
    · rw [if_neg (show ¬ nI p.1 ≤ 0 from nI_ge (a := 0) (b := p.1) (by omega) (by omega)), if_neg c]
      obtain ⟨υ, u1, u2, u3⟩ := r_uses (n := n) (h0 := h0) (qs := qs) (ks := ks) hT hw h ho (o2 c) hE
      rw [u1]
      simp only [zcv]
      exact go υ _ u3 u2 (kUse_12 _ _)
/-- namesOfSum(s) -/
theorem r_nsum {s S P : Nat} {τ : zSt} {q : kSt} {t : tS} (hT : 2110 ≤ T) (hS : S ≤ 2100) (hP : P ≤ 2100) (hw : rW τ T len cnt kk pp ee f) (h : kR τ q) (ho : kOk cnt q) (hE : q.1.length ≤ 400) (hp : pOk cnt t.2) (hs : rSm pp τ S P s t) : ∃ τ', zF h0 qs ks T (n + 3) 36 [.ref h0, .int (nI s)] τ = some (none, τ') ∧ kR τ' (kPs f pp ee t.2 q) ∧ kFm τ τ' := by
  obtain ⟨h1, h2, a, h3, h4, h5, h6⟩ := hs
  rw [zE_namesOfSum]
  unfold b_namesOfSum
  simp only [zgd, zin_n (show s < 2100 by omega) (by decide), if_true, nI_clamp (show s < 2 ^ 31 by omega), h3]
  exact r_nsL (a := a) (l := a + t.2.length) (by omega) (by omega) (by omega) t.2 T a τ q hw h ho hE hp h4 rfl h6 (by omega)
end KRP
