/-! the reference's typer: all of it -/
section RTA
variable {ks : Nat → Nat} {qs : List Nat} {Tt h0 k0 len cnt lo N S P A aM : Nat} {L : List Nat} {V : zSt} {kk pp ee f : Nat → Int32}
theorem r_typ (H : rH Tt len cnt lo N S P A L V kk pp ee f) : ∀ (t : tT), tA3 pp t → rInf ks qs Tt h0 k0 cnt lo N S P A aM L V kk pp ee f t ∧ rArg ks qs Tt h0 k0 cnt lo N S P A aM L V kk pp ee f t ∧ ∀ tg d z a b, t = .inner tg d z a b → tg = 31 → rInf ks qs Tt h0 k0 cnt lo N S P A aM L V kk pp ee f a ∧ rInf ks qs Tt h0 k0 cnt lo N S P A aM L V kk pp ee f b
  | .leaf, _ => ⟨fun env τ s g T c am m n ht => (by have := ht.2.1; cases this), r_arZ, fun _ _ _ _ _ e => (by cases e)⟩
  | .inner g d z a b, h3 => by
    obtain ⟨h3, h15, ha, hb⟩ := h3
    have Ib := r_typ H b hb
    have Ia : ¬ (g = 4 ∨ g = 5) → rInf ks qs Tt h0 k0 cnt lo N S P A aM L V kk pp ee f a ∧ rArg ks qs Tt h0 k0 cnt lo N S P A aM L V kk pp ee f a ∧ _ := fun c => r_typ H a (by rw [if_neg c] at ha; exact ha)
    refine ⟨r_49 H (fun env m ht => ?_) (fun env τ s gg T c am m n ht => ?_), fun env τ0 τ s g0 T0 c0 am B Z W Q v m x q k n fu ht wf => ?_, fun tg d' z' a' b' e h31 => ?_⟩
    · have := (rTr_fw ht.1 ht.2.1).1
      have := H.1.2.1
      omega
    · have wf := ht.2.1
      rcases wf with ⟨h, _⟩ | ⟨h, _⟩ | ⟨_, h⟩
      · cases h
      · cases h
      · rcases h with ⟨rfl, _⟩ | ⟨rfl, _⟩ | ⟨rfl, _⟩ | ⟨rfl, _, wb⟩ | ⟨rfl, _⟩ | ⟨rfl, _⟩ | ⟨rfl | rfl, _⟩ | ⟨rfl | rfl | rfl, _⟩ | ⟨rfl | rfl | rfl, _⟩ | ⟨rfl, _⟩ | ⟨rfl, _⟩ | ⟨rfl, _⟩ | ⟨rfl, _⟩ | ⟨rfl, _⟩
        · exact rt_1 H (Ia (by decide)).1 Ib.1 env τ s gg T c am m n ht
        · exact rt_2 H (Ia (by decide)).1 Ib.1 env τ s gg T c am m n ht
        · exact rt_3 H (Ia (by decide)).1 env τ s gg T c am m n ht
        · match b, wb, Ib with
          | .leaf, wb, _ => cases wb
          | .inner g' d' z' b1 b2, wb, Ib =>
            rcases wb with ⟨_, rfl, _⟩ | ⟨h, _⟩ | ⟨h, _⟩
            · have I2 := Ib.2.2 31 d' z' b1 b2 rfl rfl
              exact rt_4 H I2.1 I2.2 env τ s gg T c am m n ht
            · cases h
            · cases h
        · exact rt_5 H Ib.1 env τ s gg T c am m n ht
        · exact rt_6 H (Ia (by decide)).1 env τ s gg T c am m n ht
        · exact rt_7 H env τ s gg T c am m n ht
        · exact rt_10 H env τ s gg T c am m n ht
        · exact rt_8 H env τ s gg T c am m n ht
        · exact rt_9 H env τ s gg T c am m n ht
        · exact rt_17 H env τ s gg T c am m n ht
        · exact rt_11 H env τ s gg T c am m n ht
        · exact rt_12 H env τ s gg T c am m n ht
        · exact rt_13 H env τ s gg T c am m n ht
        · exact rt_14 H env τ s gg T c am m n ht
        · exact rt_15 H (h15 rfl) (Ia (by decide)).2.1 env τ s gg T c am m n ht
        · exact rt_16 H (Ia (by decide)).1 env τ s gg T c am m n ht
        · exact rt_18 H env τ s gg T c am m n ht
        · exact rt_19 H (Ia (by decide)).1 Ib.1 env τ s gg T c am m n ht
    · rcases id wf with ⟨h, _⟩ | ⟨_, _, _, h⟩ | ⟨h, _⟩
      · cases h
      · rcases h with ⟨rfl, _⟩ | ⟨rfl, _⟩ | ⟨rfl, _⟩
        · exact r_ar33 H (h3 rfl) Ib.2.1 env τ0 τ s g0 T0 c0 am B Z W Q v m x q k n fu ht wf
        · exact r_ar34 H (Ia (by decide)).1 Ib.2.1 env τ0 τ s g0 T0 c0 am B Z W Q v m x q k n fu ht wf
        · exact r_ar35 H Ib.2.1 env τ0 τ s g0 T0 c0 am B Z W Q v m x q k n fu ht wf
      · cases h
    · cases e
      subst h31
      exact ⟨(Ia (by decide)).1, Ib.1⟩
end RTA
