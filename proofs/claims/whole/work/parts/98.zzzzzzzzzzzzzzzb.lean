/-! **the reference's richOf() is gWk** -/
/-- an ARG in brackets that is no S is a fun -/
def tF3 : tT → Prop
  | .leaf => True
  | .inner g _ _ a b => (g = 34 → ∃ d' z' a' b', a = .inner 3 d' z' a' b') ∧ (if g = 4 ∨ g = 5 then True else tF3 a) ∧ tF3 b
/-- NUMBERS where numbers are -/
def tKn (kk : Nat → Int32) : tT → Prop
  | .leaf => True
  | .inner g d _ a b => (sKn kk d.2.2.2.1.2 ∧ sKn kk d.2.2.2.2.2) ∧ (if g = 4 ∨ g = 5 then True else tKn kk a) ∧ tKn kk b
section URO
variable {ks : Nat → Nat} {qs : List Nat} {T h0 len cnt lo N S P A : Nat} {L : List Nat} {V : zSt} {kk pp ee f : Nat → Int32} {g : gG} {ρ tE tN : Nat → tY} {Γ : uGm} {CD : tT → Nat → Prop}
theorem r_rch (H : uH T len cnt lo N S P A L V kk pp ee f g ρ tN Γ CD) (hcn : cnt ≤ 2000) : ∀ (t : tT), tA3 pp t → tGd kk cnt t → tO3 t → tF3 t → tKn kk t → uRo ks qs T h0 cnt lo N S P A L V kk pp ee f g ρ tE tN Γ CD t ∧ uRg ks qs T h0 cnt lo N S P A L V kk pp ee f g ρ tE tN Γ CD t ∧ ∀ tg d z a b, t = .inner tg d z a b → tg = 31 → uRo ks qs T h0 cnt lo N S P A L V kk pp ee f g ρ tE tN Γ CD a ∧ uRo ks qs T h0 cnt lo N S P A L V kk pp ee f g ρ tE tN Γ CD b
  | .leaf, _, _, _, _, _ => ⟨fun env m sc s A0 x2 x3 n v τ y yc tr wf => (by cases wf), ua_Z, fun _ _ _ _ _ e => (by cases e)⟩
  | .inner g' d z a b, h3, hG, ho, hf, hk => by
    obtain ⟨-, h15, ha, hb⟩ := h3
    obtain ⟨gs, -, ⟨-, g14, -⟩, ga, gb⟩ := id hG
    obtain ⟨o1, o2, oa, ob⟩ := ho
    obtain ⟨f34, fa, fb⟩ := hf
    obtain ⟨⟨hk1, hk2⟩, ka, kb⟩ := hk
    have Ib := r_rch H hcn b hb gb ob fb kb
    have Ia : ¬ (g' = 4 ∨ g' = 5) → uRo ks qs T h0 cnt lo N S P A L V kk pp ee f g ρ tE tN Γ CD a ∧ uRg ks qs T h0 cnt lo N S P A L V kk pp ee f g ρ tE tN Γ CD a ∧ _ := fun c => r_rch H hcn a (by rw [if_neg c] at ha; exact ha) ga oa (by rw [if_neg c] at fa; exact fa) (by rw [if_neg c] at ka; exact ka)
    have hb1 : ∀ p, p ∈ d.2.2.2.1.2 → p.2.2 < 2010 := fun p hp => by have := gs.1.1 p hp; omega
    refine ⟨fun env m sc s A0 x2 x3 n v τ y yc tr wf => ?_, fun env m x u k sc s A0 t4 x2 x3 n fu v τ y hm h10 h11 hu tr wf => ?_, fun tg d' z' a' b' e h31 => ?_⟩
    · rcases id wf with ⟨h, _⟩ | ⟨h, _⟩ | ⟨_, h⟩
      · cases h
      · cases h
      · rcases h with ⟨rfl, w1, wa, wb⟩ | ⟨rfl, w2, wa, wb⟩ | ⟨rfl, w1, wa⟩ | ⟨rfl, wc, wb⟩ | ⟨rfl, wc, wb⟩ | ⟨rfl, w1, _, wa⟩ | ⟨h7, hp, _, hab⟩ | ⟨h7, _, hab⟩ | ⟨h7, hp, hab⟩ | ⟨rfl, w1, hp⟩ | ⟨rfl, w1, wa⟩ | ⟨rfl, _, wa, hb⟩ | ⟨rfl, w1, hp⟩ | ⟨rfl, w1, wa, wb⟩
        · exact ur_1 H (Ia (by decide)).1 Ib.1 wa wb (by omega) env m sc s A0 x2 x3 n v τ y yc tr wf
        · exact ur_2 H (Ia (by decide)).1 Ib.1 wa wb w2 hcn env m sc s A0 x2 x3 n v τ y yc tr wf
        · exact ur_3 H (Ia (by decide)).1 wa (by omega) env m sc s A0 x2 x3 n v τ y yc tr wf
        · match b, wb, Ib, tr, wf with
          | .leaf, wb, _, _, _ => cases wb
          | .inner g' d' z' b1 b2, wb, Ib, tr, wf =>
            rcases wb with ⟨_, rfl, _, w1, w2⟩ | ⟨h, _⟩ | ⟨h, _⟩
            · have I2 := Ib.2.2 31 d' z' b1 b2 rfl rfl
              exact ur_4 H I2.1 I2.2 wc w1 w2 env m sc s A0 x2 x3 n v τ y yc tr wf
            · cases h
            · cases h
        · exact ur_5 H Ib.1 wc wb env m sc s A0 x2 x3 n v τ y yc tr wf
        · exact ur_6 H (by omega) (Ia (by decide)).1 wa env m sc s A0 x2 x3 n v τ y yc tr wf
        · rcases h7 with rfl | rfl
          · exact ur_7 H hp hk1 env m sc s A0 x2 x3 n v τ y yc tr wf
          · exact ur_10 H hp hk1 o1 hb1 env m sc s A0 x2 x3 n v τ y yc tr wf
        · exact ur_8 h7 H hab env m sc s A0 x2 x3 n v τ y yc tr wf
        · exact ur_11 h7 H hp.1 hp.2 hk1 hk2 o2 env m sc s A0 x2 x3 n v τ y yc tr wf
        · exact ur_14 H (by omega) env m sc s A0 x2 x3 n v τ y yc tr wf
        · exact ur_15 H (h15 rfl) (by omega) (Ia (by decide)).2.1 wa env m sc s A0 x2 x3 n v τ y yc tr wf
        · exact ur_16 H (Ia (by decide)).1 wa hb env m sc s A0 x2 x3 n v τ y yc tr wf
        · exact ur_18 H (by omega) env m sc s A0 x2 x3 n v τ y yc tr wf
        · exact ur_19 H (Ia (by decide)).1 Ib.1 wa wb (by omega) env m sc s A0 x2 x3 n v τ y yc tr wf
    · rcases id wf with ⟨h, _⟩ | ⟨_, _, wb, h⟩ | ⟨h, _⟩
      · cases h
      · rcases h with ⟨rfl, hp, ha⟩ | ⟨rfl, _, wa⟩ | ⟨rfl, _, ha, hd⟩
        · exact ua_33 H Ib.2.1 ha hp hk1 o1 hb1 wb env m x u k sc s A0 t4 x2 x3 n fu v τ y hm h10 h11 hu tr wf
        · exact ua_34 H (Ia (by decide)).1 Ib.2.1 (f34 rfl) wa wb env m x u k sc s A0 t4 x2 x3 n fu v τ y hm h10 h11 hu tr wf
        · exact ua_35 H Ib.2.1 ha hd wb env m x u k sc s A0 t4 x2 x3 n fu v τ y hm h10 h11 hu tr wf
      · cases h
    · cases e
      subst h31
      exact ⟨(Ia (by decide)).1, Ib.1⟩
end URO
