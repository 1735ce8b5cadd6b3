/-! the class's parser: isRelation, blameForm, what a comparison needs -/
/-- isRelation -/
def cRl (v : Int32) : Bool := decide (v = 61) || (decide (v = 60) || (decide (v = 300) || (decide (v = 62) || decide (v = 301))))
theorem c_rel {κ : oKv} {T n : Nat} {v : Int32} {σ : oSt} : oF κ T (n + 1) 109 [.int v] σ = some (some (.int (if cRl v = true then 1 else 0)), σ) := by
  rw [oE_X7_isRelation]
  unfold ob_X7_isRelation oj_X7_isRelation_32 cRl
  by_cases c1 : v = 61
  · rw [if_pos c1, decide_eq_true c1]; rfl
  · rw [if_neg c1, decide_eq_false c1]
    by_cases c2 : v = 60
    · rw [if_pos c2, decide_eq_true c2]; rfl
    · rw [if_neg c2, decide_eq_false c2]
      by_cases c3 : v = 300
      · rw [if_pos c3, decide_eq_true c3]; rfl
      · rw [if_neg c3, decide_eq_false c3]
        by_cases c4 : v = 62
        · rw [if_pos c4, decide_eq_true c4]; rfl
        · rw [if_neg c4, decide_eq_false c4]
          by_cases c5 : v = 301
          · rw [if_pos c5, decide_eq_true c5]; rfl
          · rw [if_neg c5, decide_eq_false c5]; rfl
/-- a REL stands there -/
theorem aRl_cr {kk : Nat → Int32} {i : Nat} : aRl kk i < 6 ↔ (cRl (kk i) = true ∨ kk i = 35) := by
  unfold aRl cRl aIs
  by_cases c1 : kk i = nI 61
  · rw [if_pos (decide_eq_true c1)]
    exact ⟨fun _ => Or.inl (by rw [decide_eq_true (show kk i = 61 from c1)]; rfl), fun _ => by omega⟩
  · rw [if_neg (fun z => c1 (of_decide_eq_true z)), decide_eq_false (show ¬ kk i = 61 from c1)]
    by_cases c2 : kk i = nI 60
    · rw [if_pos (decide_eq_true c2)]
      exact ⟨fun _ => Or.inl (by rw [decide_eq_true (show kk i = 60 from c2)]; rfl), fun _ => by omega⟩
    · rw [if_neg (fun z => c2 (of_decide_eq_true z)), decide_eq_false (show ¬ kk i = 60 from c2)]
      by_cases c3 : kk i = nI 300
      · rw [if_pos (decide_eq_true c3)]
        exact ⟨fun _ => Or.inl (by rw [decide_eq_true (show kk i = 300 from c3)]; rfl), fun _ => by omega⟩
      · rw [if_neg (fun z => c3 (of_decide_eq_true z)), decide_eq_false (show ¬ kk i = 300 from c3)]
        by_cases c4 : kk i = nI 62
        · rw [if_pos (decide_eq_true c4)]
          exact ⟨fun _ => Or.inl (by rw [decide_eq_true (show kk i = 62 from c4)]; rfl), fun _ => by omega⟩
        · rw [if_neg (fun z => c4 (of_decide_eq_true z)), decide_eq_false (show ¬ kk i = 62 from c4)]
          by_cases c5 : kk i = nI 301
          · rw [if_pos (decide_eq_true c5)]
            exact ⟨fun _ => Or.inl (by rw [decide_eq_true (show kk i = 301 from c5)]; rfl), fun _ => by omega⟩
          · rw [if_neg (fun z => c5 (of_decide_eq_true z)), decide_eq_false (show ¬ kk i = 301 from c5)]
            by_cases c6 : kk i = nI 35
            · rw [if_pos (decide_eq_true c6)]
              exact ⟨fun _ => Or.inr c6, fun _ => by omega⟩
            · rw [if_neg (fun z => c6 (of_decide_eq_true z))]
              exact ⟨fun z => by omega, fun z => by
                rcases z with z | z
                · cases z
                · exact absurd z c6⟩
/-- blameForm -/
def fMin (ff x : Int32) : Int32 := if x < 0 then ff else if ff < 0 then x else if ff ≤ x then ff else x
section CPZ
variable {κ : oKv} {sz T n m len cnt : Nat} {kk pp ee f : Nat → Int32} {A : Nat → Nat} {nq ni : Int32} {rt : Value} {σ σ' : oSt} {D : cDt} {at' cd : Nat} {cn am bd nf ff : Int32} {s : Sum Nat Nat} {nm ns : Nat → Option Nat} {ν : nSt} {lo e i pa su na ta cap pc : Nat} {ps : List tP} {al : Int32}
theorem c_blame {x : Int32} (h : cV κ sz len cnt kk pp ee f A nq ni rt σ D at' cd cn am bd nf ff) : ∃ σ', oF κ T (n + 1) 122 [va_rf (some (A 0)), .int x] σ = some (none, σ') ∧ cV κ sz len cnt kk pp ee f A nq ni rt σ' D at' cd cn am bd nf (fMin ff x) ∧ cFr A σ D σ' D ∧ σ'.2 = σ.2 ∧ (∀ a, a ≠ A 0 → σ'.1 a = σ.1 a) := by
  rw [oE_X7_blameForm]
  unfold ob_X7_blameForm oj_X7_blameForm_19 fMin
  have f17 : ofd σ (some (A 0)) 9 17 = some (.int ff) := by rw [ofd_at h.2.1]; rfl
  have pe : opf σ (some (A 0)) 9 17 (.int x) = some (oput σ (A 0) (.inr (9, cPs A nq ni rt at' cd cn am bd nf x))) := by
    rw [opf_at h.2.1 (show 17 < 18 by decide)]
    rfl
  have hp := h.put (at2 := at') (cd2 := cd) (cn2 := cn) (am2 := am) (bd2 := bd) (nf2 := nf) (ff2 := x) h.2.2.1 h.2.2.2.1 (Nat.le_refl _)
  rw [f17, ovi_in, obn_at, obn_at, pe, obn_at]
  by_cases c1 : x < 0
  · rw [if_pos c1, if_pos c1]
    exact ⟨σ, rfl, h, cFr.rf _ _ _, rfl, fun _ _ => rfl⟩
  · rw [if_neg c1, if_neg c1]
    by_cases c2 : ff < 0
    · rw [if_pos c2, if_pos c2]
      exact ⟨_, rfl, hp.1, hp.2, rfl, fun a ha => oput_ne ha⟩
    · rw [if_neg c2, if_neg c2]
      by_cases c3 : ff ≤ x
      · rw [if_pos c3, if_pos c3]
        exact ⟨σ, rfl, h, cFr.rf _ _ _, rfl, fun _ _ => rfl⟩
      · rw [if_neg c3, if_neg c3]
        exact ⟨_, rfl, hp.1, hp.2, rfl, fun a ha => oput_ne ha⟩
/-- an S is kept where its own cells are -/
theorem cSp.gn {D' : cDt} (h : cSp κ T pp ee f A D lo σ e i cd ns ps al pa su na ta cap pc) (hk : ∀ a, cOk A D lo σ a → σ'.1 a = σ.1 a ∧ cOk A D' lo σ' a) (h6 : ∀ a fs, σ.1 a = some (.inr (6, fs)) → ∃ fs', σ'.1 a = some (.inr (6, fs'))) (h7 : ∀ a fs, σ.1 a = some (.inr (7, fs)) → ∃ fs', σ'.1 a = some (.inr (7, fs'))) (hlow : σ'.1 κ.2.2.1 = none) : cSp κ T pp ee f A D' lo σ' e i cd ns ps al pa su na ta cap pc := by
  obtain ⟨h1, ⟨d, mc, g, h2, h3, h4, h5⟩, h8, h9, h10, h11, h12, h13⟩ := h
  have hd : σ'.1 d = σ.1 d := by
    rcases h4 with z | ⟨z, z'⟩
    · exact (hk d z).1
    · rw [z', z]; exact hlow
  refine ⟨by rw [(hk e h9).1]; exact h1, ⟨d, mc, g, h2.keep (hk pa h10).1 hd h7, fun k p ek => ?_, ?_, h5⟩, ?_, (hk e h9).2, (hk pa h10).2, (hk su h11).2, (hk na h12).2, (hk ta h13).2⟩
  · obtain ⟨a, e1, e2, e3, e4⟩ := h3 k p ek
    exact ⟨a, e1, e2, (hk a e3).2, by rw [(hk a e3).1]; exact e4⟩
  · rcases h4 with z | ⟨z, z'⟩
    · exact Or.inl (hk d z).2
    · exact Or.inr ⟨z, hd.trans z'⟩
  · exact h8.keep (fun a ha => by
      rcases ha with z | z | z
      · rw [z]; exact (hk su h11).1
      · rw [z]; exact (hk na h12).1
      · rw [z]; exact (hk ta h13).1) h6
/-- a node from before the S is changed -/
theorem cSp.bf {b : Nat} {fs fs' : List Value} (h : cSp κ T pp ee f A D lo σ e i cd ns ps al pa su na ta cap pc) (hb : σ.1 b = some (.inr (7, fs))) (hl : b < lo) (hlow : σ.1 κ.2.2.1 = none) : cSp κ T pp ee f A D lo (oput σ b (.inr (7, fs'))) e i cd ns ps al pa su na ta cap pc := by
  refine h.gn (fun a ha => ⟨oput_ne (by have := ha.1; omega), ha⟩) (fun a gs ea => ⟨gs, by rw [oput_ne (fun z => by rw [z, hb] at ea; cases ea)]; exact ea⟩) (fun a gs ea => ?_) (by rw [oput_ne (fun z => by rw [← z, hlow] at hb; cases hb)]; exact hlow)
  by_cases z : a = b
  · rw [z]; exact ⟨_, oput_eq _ _ _⟩
  · exact ⟨gs, by rw [oput_ne z]; exact ea⟩
/-- an S of an older place -/
theorem cSp.lo' {lo' : Nat} (h : cSp κ T pp ee f A D lo σ e i cd ns ps al pa su na ta cap pc) (hl : lo' ≤ lo) : cSp κ T pp ee f A D lo' σ e i cd ns ps al pa su na ta cap pc := by
  have ok : ∀ a, cOk A D lo σ a → cOk A D lo' σ a := fun a ha => ⟨by have := ha.1; omega, ha.2⟩
  obtain ⟨h1, ⟨d, mc, g, h2, h3, h4, h5⟩, h8, h9, h10, h11, h12, h13⟩ := h
  refine ⟨h1, ⟨d, mc, g, h2, fun k p ek => ?_, ?_, h5⟩, h8, ok _ h9, ok _ h10, ok _ h11, ok _ h12, ok _ h13⟩
  · obtain ⟨a, e1, e2, e3, e4⟩ := h3 k p ek
    exact ⟨a, e1, e2, ok a e3, e4⟩
  · rcases h4 with z | z
    · exact Or.inl (ok _ z)
    · exact Or.inr z
/-- a NAME alone -/
theorem aSm_al {j : Nat} {t : tS} (h : aSm kk T i = .inr (t, j)) : tAl kk t = 1 ↔ t.2 = [(1, false, i)] := by
  unfold aSm at h
  obtain ⟨p, j1, ep, h⟩ := on_ok h
  obtain ⟨q, j2, eq, h⟩ := on_ok h
  cases h
  unfold tAl
  show (if aIs kk 45 i = true then 0 else if (p :: q).length = 1 then kk i else 0) = 1 ↔ p :: q = [(1, false, i)]
  by_cases c : aIs kk 45 i = true
  · rw [if_pos c]
    refine ⟨fun z => absurd z (by decide), fun z => ?_⟩
    have hp := (aPt_w ep).1
    rw [c] at hp
    have : p = (1, false, i) := by injection z
    rw [this] at hp
    cases hp
  · rw [if_neg c]
    rw [if_neg c] at ep
    have cf : aIs kk 45 i = false := by cases hh : aIs kk 45 i with
      | true => exact absurd hh c
      | false => rfl
    rw [cf] at ep
    cases q with
    | cons q0 q1 =>
      rw [if_neg (by simp)]
      exact ⟨fun z => absurd z (by decide), fun z => by cases z⟩
    | nil =>
      rw [if_pos (show [p].length = 1 from rfl)]
      constructor
      · intro z
        have n211 : ¬ aIs kk 211 i = true := fun w => by have := of_decide_eq_true w; rw [z] at this; exact absurd this (by decide)
        have n221 : ¬ aIs kk 221 i = true := fun w => by have := of_decide_eq_true w; rw [z] at this; exact absurd this (by decide)
        have n2 : ¬ aIs kk 2 i = true := fun w => by have := of_decide_eq_true w; rw [z] at this; exact absurd this (by decide)
        unfold aPt at ep
        rw [if_neg n211, if_neg n221, if_neg n2] at ep
        obtain ⟨u, j3, -, ep⟩ := on_ok ep
        cases ep
        rfl
      · intro z
        have hp : p = (1, false, i) := by injection z
        subst hp
        unfold aPt at ep
        by_cases c1 : aIs kk 211 i = true
        · rw [if_pos c1] at ep
          obtain ⟨u, j3, -, ep⟩ := on_ok ep
          cases ep
        · rw [if_neg c1] at ep
          by_cases c2 : aIs kk 221 i = true
          · rw [if_pos c2] at ep
            obtain ⟨u, j3, -, ep⟩ := on_ok ep
            cases ep
          · rw [if_neg c2] at ep
            by_cases c3 : aIs kk 2 i = true
            · rw [if_pos c3] at ep; cases ep
            · rw [if_neg c3] at ep
              obtain ⟨u, j3, e1, ep⟩ := on_ok ep
              exact of_decide_eq_true (aMs_ok e1).1
end CPZ
