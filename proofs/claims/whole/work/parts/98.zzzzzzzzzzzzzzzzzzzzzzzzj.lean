/-! the class's gather(): walk() of every E -/
/-- tag 13: the class's mark of a NUMBER alone -/
def tRm (kk : Nat → Int32) : tT → Prop
  | .leaf => True
  | .inner g d _ a b => (g = 13 → (tAl kk d.2.2.2.2 = 2 ↔ d.2.2.2.2.2.length = 1 ∧ (d.2.2.2.2.2.headD (0, false, 0)).1 = 0 ∧ (d.2.2.2.2.2.headD (0, false, 0)).2.1 = false)) ∧ (if g = 4 ∨ g = 5 then True else tRm kk a) ∧ tRm kk b
section WAL
variable {κ : oKv} {T T0 : Nat} {st : Nat} {l : Nat → Nat} {b0 : Nat} {nq : tQ → Int} {xs : List tQ} {pg ch ty : Nat} {cf : List Value} {At : Nat → Nat} {mo : Nat} {g : gG} {ρ : Nat → tY} {lv ov : Int32} {V : oSt} {lo g0 : Nat} {nm : Nat → Option Nat} {tE tN : Nat → tY} {φ : Nat → Nat} {Us : List Nat} {kk pp ee f fc : Nat → Int32} {B : Nat → Nat} {D : cDt} {Γ : uGm} {C Bd : Int} {rt : Nat → gTm} {M : Nat} {CB : List Nat → List (gCd × Bool) → Prop} {NB : List Nat → List (gCd × Bool) → (Nat × Nat × tT × List tP × List Nat × Nat) → Prop} {cnt : Nat}
/-- **walk() of every E** -/
theorem wk_all (hT : 9010 ≤ T) (hnq : ∀ x, x ∈ xs → -1125899906842624 ≤ nq x ∧ nq x ≤ 1125899906842624) (hcf : cfO pg ty st cf) (hc6 : cf[6]? = some (.ref (l 3))) (hpp : ∀ u v, u < v → v < cnt → pp u < pp v) (hQ : rtQ Γ rt) (hC : 0 ≤ C) (hB : 4 ≤ Bd) (hyd : ∀ key y ns env, rtC rt tN M key y ns env → yDp y ≤ 60 ∧ yLs y ≤ 60) (hyN : ∀ u, u ∈ Us → yDp (tN u) ≤ 60 ∧ yLs (tN u) ≤ 60) (hfc : ∀ env w, nFind fc pp ee env w = nFind f pp ee env w) (hsp : ∀ ps, sPl T0 (fun j => fc j &&& 255) pp ee ps = sPl T f pp ee ps) (hb : b0 ≤ lo) (hV : V.2.1 ≤ g0) (hcnt : cnt ≤ 2000) : ∀ t, tRm kk t → cWk κ T T0 st l b0 nq xs pg ch ty cf At mo g ρ lv ov (nCl κ T T0 kk pp ee f fc B D V nm lo) (nRl κ T T0 kk pp ee f fc B D V nm lo) V lo g0 nm tE tN φ Us kk pp ee f fc B D Γ C Bd rt M CB NB cnt t ∧ cWa κ T T0 st l b0 nq xs pg ch ty cf At mo g ρ lv ov (nCl κ T T0 kk pp ee f fc B D V nm lo) (nRl κ T T0 kk pp ee f fc B D V nm lo) V lo g0 nm tE tN φ Us kk pp ee f fc B D Γ C Bd rt M CB NB cnt t ∧ ∀ d' z' a' b', t = .inner 31 d' z' a' b' → cWk κ T T0 st l b0 nq xs pg ch ty cf At mo g ρ lv ov (nCl κ T T0 kk pp ee f fc B D V nm lo) (nRl κ T T0 kk pp ee f fc B D V nm lo) V lo g0 nm tE tN φ Us kk pp ee f fc B D Γ C Bd rt M CB NB cnt a' ∧ cWk κ T T0 st l b0 nq xs pg ch ty cf At mo g ρ lv ov (nCl κ T T0 kk pp ee f fc B D V nm lo) (nRl κ T T0 kk pp ee f fc B D V nm lo) V lo g0 nm tE tN φ Us kk pp ee f fc B D Γ C Bd rt M CB NB cnt b'
  | .leaf, _ => ⟨fun _ _ _ _ _ _ _ _ _ _ _ _ _ _ _ _ _ _ _ _ hE => hE.elim, wga_0, fun _ _ _ _ z => by cases z⟩
  | .inner gg d z a b, h => by
    have Ia := wk_all hT hnq hcf hc6 hpp hQ hC hB hyd hyN hfc hsp hb hV hcnt a
    have Ib := wk_all hT hnq hcf hc6 hpp hQ hC hB hyd hyN hfc hsp hb hV hcnt b
    refine ⟨?_, ?_, ?_⟩
    · by_cases c1 : gg = 1
      · subst c1; exact cw_1 hT hnq hcf hpp hQ hC hB hyd (Ia h.2.1).1 (Ib h.2.2).1
      by_cases c2 : gg = 2
      · subst c2; exact cw_2 hT hnq hcf hpp hQ hC hB hyd (Ia h.2.1).1 (Ib h.2.2).1
      by_cases c3 : gg = 3
      · subst c3; exact cw_3 hT hnq hcf hpp hQ hC hB hyd (Ia h.2.1).1
      by_cases c4 : gg = 4
      · subst c4; exact cw_4 hT hnq hcf hpp hQ hC hB hyd (Ib h.2.2).2.2
      by_cases c5 : gg = 5
      · subst c5; exact cw_5 hc6 hpp (Ib h.2.2).1 (fun env sc A s => (gWk_gr b env sc A s).2)
      by_cases c6 : gg = 6
      · subst c6; exact cw_6 hc6 hpp (Ia h.2.1).1 (fun env sc A s => (gWk_gr a env sc A s).2)
      by_cases c7 : gg = 7
      · subst c7; exact cw_7 hc6 hpp hfc hsp hb hV
      by_cases c8 : gg = 8 ∨ gg = 9
      · exact cw_8 c8 hpp
      by_cases c10 : gg = 10
      · subst c10; exact cw_10 hpp hfc hsp hb hV
      by_cases c11 : gg = 11
      · subst c11; exact cw_11 (by omega) hpp hfc hsp
      by_cases c12 : gg = 12
      · subst c12; exact cw_12 hc6 hpp
      by_cases c13 : gg = 13
      · subst c13; exact cw_13 hc6 hpp hfc hsp hb hV (h.1 rfl)
      by_cases c14 : gg = 14
      · subst c14; exact cw_14 hc6 hpp
      by_cases c15 : gg = 15
      · subst c15; exact cw_15 hT hfc hcnt hyN (Ia h.2.1).2.1
      by_cases c16 : gg = 16
      · subst c16; exact cw_16 (Ia h.2.1).1
      by_cases c17 : gg = 17
      · subst c17; exact cw_17 hpp
      by_cases c18 : gg = 18
      · subst c18
        exact cw_18 (by omega) hpp hfc (fun env y u ok hu => by
          have ok : y = yB 3 ∧ tN (gNu f pp ee env d.2.1) = yB 3 ∧ gSo f pp ee tN env d.2.2.2.1.2 := ok
          have gu : gNu f pp ee env d.2.1 = u := by unfold gNu; rw [hu]; rfl
          rw [← gu, ok.2.1]
          rfl)
      by_cases c19 : gg = 19
      · subst c19; exact cw_19 hT hnq hcf hpp hQ hC hB hyd hfc (Ia h.2.1).1 (Ib h.2.2).1
      intro env sc Sc os Es A s Ψ Ls σ ln ct cs i j m fk tl y N hE hI hN
      obtain ⟨-, a1⟩ := hI.1.1
      rw [if_neg c1, if_neg c2, if_neg c3, if_neg c4, if_neg c5, if_neg c6, if_neg c7, if_neg c8, if_neg c10, if_neg (show ¬ (gg = 11 ∨ gg = 12 ∨ gg = 13) by omega), if_neg c14, if_neg c15, if_neg c16, if_neg c17, if_neg c18, if_neg c19, if_neg hE.1, if_neg hE.2.1, if_neg hE.2.2.1] at a1
      exact absurd a1.1 hE.2.2.2
    · by_cases c33 : gg = 33
      · subst c33; exact wga_33 hT hpp hQ hC hB hfc hsp hb hV (Ib h.2.2).2.1
      by_cases c34 : gg = 34
      · subst c34; exact wga_34 hT hpp hQ hC hB (Ia h.2.1).1 (Ib h.2.2).2.1
      by_cases c35 : gg = 35
      · subst c35; exact wga_35 hT hpp hQ hC (Ib h.2.2).2.1
      intro env sc Sc os Es A s Ψ Ls σ ln ct cs i j m fk tl y N gl idx q pa kA tt lo1 gv hA
      exfalso
      rcases hA with e | e | e
      · exact c33 e
      · exact c34 e
      · exact c35 e
    · intro d' z' a' b' e
      injection e with e1 e2 e3 e4 e5
      subst e1 e4 e5
      exact ⟨(Ia h.2.1).1, (Ib h.2.2).1⟩
end WAL
