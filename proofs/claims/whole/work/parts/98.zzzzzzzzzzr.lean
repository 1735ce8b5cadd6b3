/-! go() of the reference -/
/-- both, or either -/
def bnM (an : Bool) (D1 D2 : Bool → List oBr) (h : Bool) : List oBr := if an = h then brAnd (D1 h) (D2 h) else D1 h ++ D2 h
/-- the condition m (a node, or below 0 a list's size) means D; s nodes, a comparisons and truths -/
def rMn (ks : Nat → Nat) (qs : List Nat) (T h0 : Nat) (V : zSt) (c : Nat) (B : Int) : Nat → Nat → Nat → Int32 → (Bool → List oBr) → Prop
  | 0, _, _, _, _ => False
  | H + 1, s, a, m, D => (∃ l k, m = (-2) - nI l ∧ l < 1501 ∧ k < c ∧ V.2.2.1 89 l = nI k ∧ s = 1 ∧ a = 1 ∧ D = fun h => cmB [(k, 1)] 0 (if h = true then 2 else 3)) ∨ ∃ u, (m = nI u ∧ u < 2100) ∧ ((∃ (an : Bool) (m1 m2 : Int32) (s1 s2 a1 a2 : Nat) (D1 D2 : Bool → List oBr), V.2.2.1 6 u = (if an = true then 21 else 20) ∧ V.2.2.1 9 u = m1 ∧ V.2.2.1 10 u = m2 ∧ rMn ks qs T h0 V c B H s1 a1 m1 D1 ∧ rMn ks qs T h0 V c B H s2 a2 m2 D2 ∧ s = s1 + s2 + 1 ∧ a = a1 + a2 ∧ D = bnM an D1 D2) ∨ (∃ (m1 : Int32) (s1 : Nat) (D1 : Bool → List oBr), V.2.2.1 6 u = 22 ∧ V.2.2.1 9 u = m1 ∧ rMn ks qs T h0 V c B H s1 a m1 D1 ∧ s = s1 + 1 ∧ D = fun h => D1 (!h)) ∨ (∃ b : Bool, V.2.2.1 6 u = 23 ∧ V.2.2.1 9 u = b01 b ∧ s = 1 ∧ a = 1 ∧ D = fun h => if b = h then [([], [])] else []) ∨ (∃ w x, V.2.2.1 6 u = 24 ∧ V.2.2.1 9 u = nI w ∧ w < 2010 ∧ V.2.2.1 32 w = nI x ∧ x < 2 ^ 31 ∧ s = 1 ∧ a = 1 ∧ D = fun h => [([], [(x, h)])]) ∨ ∃ M pl r, V.2.2.1 6 u = 25 ∧ rCm ks qs T h0 V c B u M pl r ∧ s = 1 ∧ a = 1 ∧ D = fun h => cmB (dLn V M) pl.toInt (if h = true then r else rNo r))
/-- what waits: node, which way, nodes, atoms, meaning -/
abbrev oIt : Type := Int32 × Bool × Nat × Nat × (Bool → List oBr)
def iSk (It : List oIt) : List (Int32 × Bool) := It.map (fun i => (i.1, i.2.1))
def iDs (It : List oIt) : List (List oBr) := It.map (fun i => i.2.2.2.2 i.2.1)
def iSs (It : List oIt) : Nat := (It.map (fun i => i.2.2.1)).sum
def iSa (It : List oIt) : Nat := (It.map (fun i => i.2.2.2.1)).sum
theorem neg_l : ∀ l : Nat, l < 1501 → ¬ (0 : Int32) ≤ (-2) - nI l ∧ (-2) - ((-2) - nI l) = nI l := by decide +kernel
section GOM
variable {ks : Nat → Nat} {qs : List Nat} {T h0 c k0 : Nat} {V : zSt} {B : Int} {L0 : List oLm} {Dm : Option Nat → Prop} {Q : Option Nat → List oLm → Prop}
theorem rMn.pos : ∀ (H s a : Nat) (m : Int32) (D : Bool → List oBr), rMn ks qs T h0 V c B H s a m D → 1 ≤ s ∧ 1 ≤ a
  | 0, _, _, _, _, h => False.elim h
  | H + 1, s, a, m, D, h => by
    rcases h with ⟨_, _, _, _, _, _, h1, h2, _⟩ | ⟨u, _, h⟩
    · omega
    · rcases h with ⟨an, m1, m2, s1, s2, a1, a2, D1, D2, _, _, _, r1, r2, e1, e2, _⟩ | ⟨m1, s1, D1, _, _, r1, e1, _⟩ | ⟨b, _, _, e1, e2, _⟩ | ⟨w, x, _, _, _, _, _, e1, e2, _⟩ | ⟨M, pl, r, _, _, e1, e2, _⟩
      · have := rMn.pos H _ _ _ _ r1
        have := rMn.pos H _ _ _ _ r2
        omega
      · have := rMn.pos H _ _ _ _ r1
        omega
      · omega
      · omega
      · omega
theorem iSk_ap (I : List oIt) (i : oIt) : iSk (I ++ [i]) = iSk I ++ [(i.1, i.2.1)] := by unfold iSk; rw [List.map_append]; rfl
theorem iDs_ap (I : List oIt) (i : oIt) : iDs (I ++ [i]) = iDs I ++ [i.2.2.2.2 i.2.1] := by unfold iDs; rw [List.map_append]; rfl
theorem iSs_ap (I : List oIt) (i : oIt) : iSs (I ++ [i]) = iSs I + i.2.2.1 := by unfold iSs; rw [List.map_append, List.sum_append]; simp
theorem iSa_ap (I : List oIt) (i : oIt) : iSa (I ++ [i]) = iSa I + i.2.2.2.1 := by unfold iSa; rw [List.map_append, List.sum_append]; simp
theorem iLn : ∀ I : List oIt, (∀ i, i ∈ I → 1 ≤ i.2.2.2.1) → (iSk I).length ≤ iSa I
  | [], _ => Nat.le_refl _
  | i :: I, h => by
    have := iLn I (fun j hj => h j (List.mem_cons_of_mem _ hj))
    have := h i (List.mem_cons_self ..)
    unfold iSk iSa at *
    simp only [List.map_cons, List.sum_cons, List.length_cons] at *
    omega
/-- **go()** -/
theorem r_go (hT : 100 ≤ T) (hc : 0 < c ∧ c ≤ 60) (hB : 2 ≤ B) (hK : ∀ o, kInv (kFe (Q o))) (hk0 : 4 ≤ k0) (leaf : ∀ n τ Ws Ts, k0 ≤ n → rJs V τ [] Ws Ts → (∀ w, w ∈ Ws → wyOk B c w) → tCo Ts → ∃ τ', zF h0 qs ks T n 98 [.ref h0] τ = some (none, τ') ∧ rJs V τ' [] Ws Ts ∧ ∀ o, Dm o → (rMa τ' o ↔ rMa τ o ∨ kFe (Q o) (Ws.map wLm ++ L0) Ts)) : ∀ (S : Nat) (It : List oIt) (n : Nat) (Ws : List oWy) (Ts : List (Nat × Bool)), (∀ i, i ∈ It → ∃ H, rMn ks qs T h0 V c B H i.2.2.1 i.2.2.2.1 i.1 i.2.2.2.2) → iSs It ≤ S → k0 + 2 * S + 1 ≤ n → iSa It + Ts.length ≤ 60 → Ws.length + 2 * iSa It ≤ 300 → (∀ w, w ∈ Ws → wyOk B c w) → tCo Ts → gGo ks qs T h0 V L0 Dm Q n (iSk It) (iDs It) Ws Ts := by
  intro S
  induction S with
  | zero =>
    intro It n Ws Ts hI hS hn ha hW hws hco τ J
    have : It = [] := by
      cases It with
      | nil => rfl
      | cons i I =>
        obtain ⟨H, hi⟩ := hI i (List.mem_cons_self ..)
        have := (rMn.pos H _ _ _ _ hi).1
        unfold iSs at hS
        simp only [List.map_cons, List.sum_cons] at hS
        omega
    subst this
    obtain ⟨n, rfl⟩ : ∃ n', n = n' + 1 := ⟨n - 1, by omega⟩
    obtain ⟨τ', a1, a2, a3⟩ := leaf n τ Ws Ts (by omega) J hws hco
    refine ⟨τ', ?_, a2, a3⟩
    rw [zE_go]
    unfold b_go
    rw [if_pos (show τ.1 144 = 0 from J.2.1.1), a1, zcv_at]
  | succ S ih =>
    intro It n Ws Ts hI hS hn ha hW hws hco τ J
    obtain ⟨n, rfl⟩ : ∃ n', n = n' + 1 := ⟨n - 1, by omega⟩
    rcases List.eq_nil_or_concat It with rfl | ⟨I, i, e⟩
    · obtain ⟨τ', a1, a2, a3⟩ := leaf n τ Ws Ts (by omega) J hws hco
      refine ⟨τ', ?_, a2, a3⟩
      rw [zE_go]
      unfold b_go
      rw [if_pos (show τ.1 144 = 0 from J.2.1.1), a1, zcv_at]
    · rw [List.concat_eq_append] at e
      subst e
      have hI0 : ∀ j, j ∈ I → ∃ H, rMn ks qs T h0 V c B H j.2.2.1 j.2.2.2.1 j.1 j.2.2.2.2 := fun j hj => hI j (List.mem_append_left _ hj)
      obtain ⟨H, hi⟩ := hI i (List.mem_append_right _ (List.mem_cons_self ..))
      rw [iSs_ap] at hS
      rw [iSa_ap] at ha hW
      rw [iSk_ap] at J ⊢
      rw [iDs_ap]
      obtain ⟨m, h, s, a, D⟩ := i
      have hpos := rMn.pos H _ _ _ _ hi
      have hln : (iSk I).length ≤ iSa I := iLn I (fun j hj => by obtain ⟨H', hj'⟩ := hI0 j hj; exact (rMn.pos H' _ _ _ _ hj').2)
      have hS : iSs I + s ≤ S + 1 := hS
      have ha : iSa I + a + Ts.length ≤ 60 := ha
      have hW : Ws.length + 2 * (iSa I + a) ≤ 300 := hW
      have hpos : 1 ≤ s ∧ 1 ≤ a := hpos
      have J : rJs V τ (iSk I ++ [(m, h)]) Ws Ts := J
      show ∃ τ', zF h0 qs ks T (n + 1) 101 [.ref h0] τ = some (none, τ') ∧ rJs V τ' (iSk I ++ [(m, h)]) Ws Ts ∧ ∀ o, Dm o → (rMa τ' o ↔ rMa τ o ∨ exL (iDs I ++ [D h]) (kFe (Q o)) (Ws.map wLm ++ L0) Ts)
      obtain ⟨J0, mk0⟩ := J.pop
      have top := J.2.1.2.2 (iSk I).length (m, h) (by rw [List.getElem?_append_right (Nat.le_refl _), Nat.sub_self]; rfl)
      have e144 : τ.1 144 = nI ((iSk I).length + 1) := by have := J.2.1.1; rw [List.length_append] at this; exact this
      -- what is gone through, then the condition put back
      have fin : ∀ (ρ : zSt), rJs V ρ (iSk I) Ws Ts → (∀ o, Dm o → (rMa ρ o ↔ rMa τ o ∨ exB (D h) (exL (iDs I) (kFe (Q o))) (Ws.map wLm ++ L0) Ts)) → ∃ τ', j_go_343 T (zF h0 qs ks T n) h0 qs ks m (b01 h) ρ = some (none, τ') ∧ rJs V τ' (iSk I ++ [(m, h)]) Ws Ts ∧ ∀ o, Dm o → (rMa τ' o ↔ rMa τ o ∨ exL (iDs I ++ [D h]) (kFe (Q o)) (Ws.map wLm ++ L0) Ts) := fun ρ Jρ hρ => by
        obtain ⟨p1, p2⟩ := Jρ.push (m := m) (h := h) (by omega)
        refine ⟨_, ?_, p1, fun o ho => ?_⟩
        · have e1 : ρ.1 144 = nI (iSk I).length := Jρ.2.1.1
          have e2 : ∀ v, (zA ρ 91 v).1 144 = nI (iSk I).length := fun _ => e1
          have e3 : ∀ v w, (zA (zA ρ 91 v) 92 w).1 144 = nI (iSk I).length := fun _ _ => e1
          unfold j_go_343 j_go_370
          simp only [e1, zgd, zin_n (show (iSk I).length < 300 by omega) (by decide), if_true, nI_clamp (show (iSk I).length < 2 ^ 31 by omega), zlet, e2, e3, nI_p1]
          cases h
          · rw [if_pos (show b01 false = 0 by decide)]; rfl
          · rw [if_neg (show ¬ b01 true = 0 by decide)]; rfl
        · rw [p2.mk, hρ o ho, exL.app]
          show _ ↔ _ ∨ exL (iDs I) (exB (D h) (kFe (Q o))) _ _
          rw [exL.pull (hK o)]
      -- one more condition, gone through, and away
      have one : ∀ (ρ : zSt) (m1 : Int32) (h1 : Bool) (s1 a1 H1 : Nat) (D1 : Bool → List oBr), rJs V ρ (iSk I) Ws Ts → rMn ks qs T h0 V c B H1 s1 a1 m1 D1 → iSs I + s1 ≤ S → a1 ≤ a → ∃ ρ1 ρ2, zF h0 qs ks T n 99 [.ref h0, .int m1, .int (b01 h1)] ρ = some (none, ρ1) ∧ zF h0 qs ks T n 101 [.ref h0] ρ1 = some (none, ρ2) ∧ ρ2.1 144 = nI ((iSk I).length + 1) ∧ rJs V (zI ρ2 144 (nI (iSk I).length)) (iSk I) Ws Ts ∧ ∀ o, Dm o → (rMa (zI ρ2 144 (nI (iSk I).length)) o ↔ rMa ρ o ∨ exB (D1 h1) (exL (iDs I) (kFe (Q o))) (Ws.map wLm ++ L0) Ts) := fun ρ m1 h1 s1 a1 H1 D1 Jρ r1 hs1 ha1 => by
        obtain ⟨n', rfl⟩ : ∃ n', n = n' + 1 := ⟨n - 1, by omega⟩
        obtain ⟨ρ1, b1, b2, b3⟩ := r_open (ks := ks) (qs := qs) (T := T) (n := n') (h0 := h0) (m := m1) (h := h1) Jρ (by omega)
        have G := ih (I ++ [(m1, h1, s1, a1, D1)]) (n' + 1) Ws Ts (fun j hj => by
          rcases List.mem_append.mp hj with hj | hj
          · exact hI0 j hj
          · rcases List.mem_cons.mp hj with rfl | hj
            · exact ⟨H1, r1⟩
            · cases hj) (by rw [iSs_ap]; exact hs1) (by omega) (by rw [iSa_ap]; show iSa I + a1 + Ts.length ≤ 60; omega) (by rw [iSa_ap]; show Ws.length + 2 * (iSa I + a1) ≤ 300; omega) hws hco
        rw [iSk_ap, iDs_ap] at G
        obtain ⟨ρ2, g1, g2, g3⟩ := G ρ1 b2
        have g2 : rJs V ρ2 (iSk I ++ [(m1, h1)]) Ws Ts := g2
        obtain ⟨p1, p2⟩ := g2.pop
        refine ⟨ρ1, ρ2, b1, g1, ?_, p1, fun o ho => ?_⟩
        · have := g2.2.1.1; rw [List.length_append] at this; exact this
        · rw [p2.mk, g3 o ho, b3.mk, exL.app]
          show _ ∨ exL (iDs I) (exB (D1 h1) (kFe (Q o))) _ _ ↔ _
          rw [exL.pull (hK o)]
      have G0 : ∀ (n' : Nat) (Xs : List oWy) (Ys : List (Nat × Bool)), k0 + 2 * S + 1 ≤ n' → Xs.length ≤ 2 → (∀ w, w ∈ Xs → wyOk B c w) → Ys.length ≤ 1 → tCo (Ts ++ Ys) → gGo ks qs T h0 V L0 Dm Q n' (iSk I) (iDs I) (Ws ++ Xs) (Ts ++ Ys) := fun n' Xs Ys x1 x2 x3 x4 x5 => ih I n' (Ws ++ Xs) (Ts ++ Ys) hI0 (by omega) x1 (by rw [List.length_append]; omega) (by rw [List.length_append]; omega) (fun w hw => by
        rcases List.mem_append.mp hw with hw | hw
        · exact hws w hw
        · exact x3 w hw) x5
      have start : zF h0 qs ks T (n + 1) 101 [.ref h0] τ = j_go_50 T (zF h0 qs ks T n) h0 qs ks m (b01 h) (zI τ 144 (nI (iSk I).length)) := by
        rw [zE_go]
        unfold b_go
        rw [e144, if_neg (fun e => by have := nI_inj' (by omega) (by decide) (e.trans (show (0 : Int32) = nI 0 from rfl)); omega), nI_s1]
        have e1 : (zI τ 144 (nI (iSk I).length)).1 144 = nI (iSk I).length := by
          show (if (144 : Nat) = 144 then nI (iSk I).length else τ.1 144) = _
          rw [if_pos rfl]
        have r91 : (zI τ 144 (nI (iSk I).length)).2.2.1 91 (iSk I).length = m := top.1
        have r92 : (zI τ 144 (nI (iSk I).length)).2.2.1 92 (iSk I).length = b01 h := top.2
        simp only [zlet, e1, zgd, zin_n (show (iSk I).length < 300 by omega) (by decide), if_true, nI_clamp (show (iSk I).length < 2 ^ 31 by omega), r91, r92]
        cases h
        · rw [if_neg (show ¬ b01 false = 1 by decide)]; rfl
        · rw [if_pos (show b01 true = 1 by decide)]; rfl
      rw [start]
      generalize hρ : zI τ 144 (nI (iSk I).length) = ρ at J0 mk0
      have row : ∀ k, k ∉ [40, 41, 91, 92, 93, 94, 95, 96, 97, 98, 100] → ρ.2.2.1 k = V.2.2.1 k := fun k hk => J0.1.2.2.1 k hk
      obtain ⟨H, rfl⟩ : ∃ H', H = H' + 1 := by
        cases H with
        | zero => exact False.elim hi
        | succ H => exact ⟨H, rfl⟩
      unfold j_go_50
      rcases hi with ⟨l, k, rfl, l1, l2, l3, rfl, rfl, rfl⟩ | ⟨u, ⟨rfl, hu⟩, hi⟩
      · -- a list's size
        obtain ⟨z1, z2⟩ := neg_l l l1
        rw [if_neg z1, z2]
        obtain ⟨n', rfl⟩ : ∃ n', n = n' + 2 := ⟨n - 2, by omega⟩
        obtain ⟨ρ1, a1, a2, a3⟩ := r_sized (ks := ks) (qs := qs) (T := T) (n := n') (h0 := h0) (h := h) hc hB l1 l2 l3 hK (by omega) J0 (fun w hw => by
          have := G0 (n' + 1) [w] [] (by omega) (show 1 ≤ 2 by decide) (fun v hv => by rcases List.mem_cons.mp hv with rfl | hv; exact hw; cases hv) (Nat.zero_le _) (by rw [List.append_nil]; exact hco)
          rw [List.append_nil] at this
          exact this)
        obtain ⟨τ', f1, f2⟩ := fin ρ1 a2 (fun o ho => by rw [a3 o ho, mk0.mk])
        refine ⟨τ', ?_, f2⟩
        rw [a1, zcv_at]
        exact f1
      · rw [if_pos (show (0 : Int32) ≤ nI u from nI_le (a := 0) (by omega) (by omega))]
        simp only [zgd, zin_n hu (by decide), if_true, nI_clamp (show u < 2 ^ 31 by omega), row 6 (by decide), row 9 (by decide)]
        rcases hi with ⟨an, m1, m2, s1, s2, a1, a2, D1, D2, q6, q9, q10, r1, r2, rfl, rfl, rfl⟩ | ⟨m1, s1, D1, q6, q9, r1, rfl, rfl⟩ | ⟨b, q6, q9, rfl, rfl, rfl⟩ | ⟨w, x, q6, q9, hw, q32, hx, rfl, rfl, rfl⟩ | ⟨M, pl, r, q6, hC, rfl, rfl, rfl⟩
        · -- both, either
          have both : j_go_160 T (zF h0 qs ks T n) h0 qs ks (nI u) (b01 h) (b01 an) ρ = j_go_160 T (zF h0 qs ks T n) h0 qs ks (nI u) (b01 h) (b01 an) ρ := rfl
          have pos1 := rMn.pos _ _ _ _ _ r1
          have pos2 := rMn.pos _ _ _ _ _ r2
          have go : ∃ τ', j_go_160 T (zF h0 qs ks T n) h0 qs ks (nI u) (b01 h) (b01 an) ρ = some (none, τ') ∧ rJs V τ' (iSk I ++ [(nI u, h)]) Ws Ts ∧ ∀ o, Dm o → (rMa τ' o ↔ rMa τ o ∨ exL (iDs I ++ [bnM an D1 D2 h]) (kFe (Q o)) (Ws.map wLm ++ L0) Ts) := by
            unfold j_go_160
            by_cases z : an = h
            · rw [if_pos (show b01 an = b01 h by rw [z])]
              obtain ⟨n', rfl⟩ : ∃ n', n = n' + 1 := ⟨n - 1, by omega⟩
              obtain ⟨ρ1, b1, b2, b3⟩ := r_open (ks := ks) (qs := qs) (T := T) (n := n') (h0 := h0) (m := m1) (h := h) J0 (by omega)
              obtain ⟨ρ2, c1, c2, c3⟩ := r_open (ks := ks) (qs := qs) (T := T) (n := n') (h0 := h0) (m := m2) (h := h) b2 (by rw [List.length_append]; show (iSk I).length + 1 < 100; omega)
              have G := ih (I ++ [(m1, h, s1, a1, D1)] ++ [(m2, h, s2, a2, D2)]) (n' + 1) Ws Ts (fun j hj => by
                rcases List.mem_append.mp hj with hj | hj
                · rcases List.mem_append.mp hj with hj | hj
                  · exact hI0 j hj
                  · rcases List.mem_cons.mp hj with rfl | hj
                    · exact ⟨H, r1⟩
                    · cases hj
                · rcases List.mem_cons.mp hj with rfl | hj
                  · exact ⟨H, r2⟩
                  · cases hj) (by rw [iSs_ap, iSs_ap]; show iSs I + s1 + s2 ≤ S; omega) (by omega) (by rw [iSa_ap, iSa_ap]; show iSa I + a1 + a2 + Ts.length ≤ 60; omega) (by rw [iSa_ap, iSa_ap]; show Ws.length + 2 * (iSa I + a1 + a2) ≤ 300; omega) hws hco
              rw [iSk_ap, iSk_ap, iDs_ap, iDs_ap] at G
              obtain ⟨ρ3, g1, g2, g3⟩ := G ρ2 c2
              have g2 : rJs V ρ3 (iSk I ++ [(m1, h)] ++ [(m2, h)]) Ws Ts := g2
              obtain ⟨p1, p2⟩ := g2.pop
              obtain ⟨p3, p4⟩ := p1.pop
              have e3 : ρ3.1 144 = nI ((iSk I).length + 2) := by have := g2.2.1.1; rw [List.length_append, List.length_append] at this; exact this
              have ez : zI (zI ρ3 144 (nI (iSk I ++ [(m1, h)]).length)) 144 (nI (iSk I).length) = zI ρ3 144 (nI (iSk I).length) := by
                unfold zI
                refine Prod.ext (funext fun j => ?_) rfl
                by_cases y : j = 144
                · simp only [if_pos y]
                · simp only [if_neg y]
              rw [ez] at p3 p4
              obtain ⟨τ', f1, f2⟩ := fin _ p3 (fun o ho => by
                rw [p4.mk, p2.mk, g3 o ho, c3.mk, b3.mk, mk0.mk, exL.app, exL.app]
                show _ ∨ exL (iDs I) (exB (D1 h) (exB (D2 h) (kFe (Q o)))) _ _ ↔ _ ∨ exB (bnM an D1 D2 h) (exL (iDs I) (kFe (Q o))) _ _
                have eb : bnM an D1 D2 h = brAnd (D1 h) (D2 h) := if_pos z
                rw [eb, exB.and (exL.inv (hK o) _), exL.pull (exB.inv (hK o)), exB.cg (fun L ts => exL.pull (hK o) (iDs I) L ts)])
              refine ⟨τ', ?_, f2⟩
              have q10' : ρ1.2.2.1 10 u = m2 := by rw [b2.1.2.2.1 10 (by decide)]; exact q10
              simp only [zgd, zin_n hu (by decide), if_true, nI_clamp (show u < 2 ^ 31 by omega), row 9 (by decide), q9]
              rw [b1, zcv_at]
              simp only [q10']
              rw [c1, zcv_at, g1, zcv_at]
              simp only [zlet]
              rw [e3, show nI ((iSk I).length + 2) - 2 = nI (iSk I).length from nI_sub' (b := 2) (by omega)]
              exact f1
            · rw [if_neg (show ¬ b01 an = b01 h from fun e => z (by cases an <;> cases h <;> first | rfl | exact absurd e (by decide)))]
              obtain ⟨ρ1, ρ2, b1, b2, b3, b4, b5⟩ := one ρ m1 h s1 a1 H D1 J0 r1 (by omega) (by omega)
              obtain ⟨ρ3, ρ4, d1, d2, d3, d4, d5⟩ := one (zI ρ2 144 (nI (iSk I).length)) m2 h s2 a2 H D2 b4 r2 (by omega) (by omega)
              obtain ⟨τ', f1, f2⟩ := fin _ d4 (fun o ho => by
                have eb : bnM an D1 D2 h = D1 h ++ D2 h := if_neg z
                rw [d5 o ho, b5 o ho, mk0.mk, eb, exB.or, or_assoc])
              refine ⟨τ', ?_, f2⟩
              simp only [zgd, zin_n hu (by decide), if_true, nI_clamp (show u < 2 ^ 31 by omega), row 9 (by decide), q9]
              rw [b1, zcv_at, b2, zcv_at]
              simp only [zlet]
              rw [b3, nI_s1]
              have q10' : (zI ρ2 144 (nI (iSk I).length)).2.2.1 10 u = m2 := by rw [b4.1.2.2.1 10 (by decide)]; exact q10
              rw [q10', d1, zcv_at, d2, zcv_at, d3, nI_s1]
              exact f1
          rw [q6]
          cases an
          · rw [if_pos (show (if false = true then (21 : Int32) else 20) = 20 by decide), if_neg (show ¬ (if false = true then (21 : Int32) else 20) = 21 by decide)]
            exact go
          · rw [if_neg (show ¬ (if true = true then (21 : Int32) else 20) = 20 by decide), if_pos (show (if true = true then (21 : Int32) else 20) = 21 by decide), if_pos (show (if true = true then (21 : Int32) else 20) = 21 by decide)]
            exact go
        · -- not
          rw [q6, if_neg (by decide), if_neg (by decide), if_pos rfl]
          obtain ⟨ρ1, ρ2, b1, b2, b3, b4, b5⟩ := one ρ m1 (!h) s1 a H D1 J0 r1 (by omega) (Nat.le_refl _)
          obtain ⟨τ', f1, f2⟩ := fin _ b4 (fun o ho => by rw [b5 o ho, mk0.mk])
          refine ⟨τ', ?_, f2⟩
          have go : j_go_272 T (zF h0 qs ks T n) h0 qs ks (nI u) (b01 h) m1 (b01 (!h)) ρ = some (none, τ') := by
            unfold j_go_272
            rw [b1, zcv_at, b2, zcv_at]
            simp only [zlet]
            rw [b3, nI_s1]
            exact f1
          rw [q9]
          cases h
          · rw [if_pos (show b01 false = 0 by decide)]; exact go
          · rw [if_neg (show ¬ b01 true = 0 by decide)]; exact go
        · -- true, false
          rw [q6, if_neg (by decide), if_neg (by decide), if_neg (by decide), if_pos rfl, q9]
          have go : ∃ τ', j_go_307 T (zF h0 qs ks T n) h0 qs ks (nI u) (b01 h) (b01 b) ρ = some (none, τ') ∧ rJs V τ' (iSk I ++ [(nI u, h)]) Ws Ts ∧ ∀ o, Dm o → (rMa τ' o ↔ rMa τ o ∨ exL (iDs I ++ [(fun h => if b = h then [([], [])] else [] : Bool → List oBr) h]) (kFe (Q o)) (Ws.map wLm ++ L0) Ts) := by
            unfold j_go_307
            by_cases z : b = h
            · rw [if_pos (show b01 b = b01 h by rw [z])]
              have G := G0 n [] [] (by omega) (Nat.zero_le _) (fun w hw => by cases hw) (Nat.zero_le _) (by rw [List.append_nil]; exact hco)
              rw [List.append_nil, List.append_nil] at G
              obtain ⟨ρ1, g1, g2, g3⟩ := G ρ J0
              obtain ⟨τ', f1, f2⟩ := fin ρ1 g2 (fun o ho => by
                rw [g3 o ho, mk0.mk, show (fun h => if b = h then [([], [])] else [] : Bool → List oBr) h = [([], [])] from if_pos z, exB.one]
                rfl)
              refine ⟨τ', ?_, f2⟩
              rw [g1, zcv_at]
              exact f1
            · rw [if_neg (show ¬ b01 b = b01 h from fun e => z (by cases b <;> cases h <;> first | rfl | exact absurd e (by decide)))]
              exact fin ρ J0 (fun o ho => by
                rw [mk0.mk, show (fun h => if b = h then [([], [])] else [] : Bool → List oBr) h = [] from if_neg z, exB.nil, or_false])
          cases b
          · rw [if_neg (show ¬ b01 false = 1 by decide)]; exact go
          · rw [if_pos (show b01 true = 1 by decide)]; exact go
        · -- a NAME
          rw [q6, if_neg (by decide), if_neg (by decide), if_neg (by decide), if_neg (by decide), if_pos rfl, q9]
          simp only [zin_n hw (by decide), if_true, nI_clamp (show w < 2 ^ 31 by omega), row 32 (by decide), q32]
          obtain ⟨n', rfl⟩ : ∃ n', n = n' + 1 := ⟨n - 1, by omega⟩
          have Ga := G0 n' [] [] (by omega) (Nat.zero_le _) (fun w hw => by cases hw) (Nat.zero_le _) (by rw [List.append_nil]; exact hco)
          rw [List.append_nil, List.append_nil] at Ga
          obtain ⟨ρ1, a1, a2, a3⟩ := r_truth (ks := ks) (qs := qs) (T := T) (n := n') (h0 := h0) (x := x) (h := h) hT hx hK hco (by omega) J0 Ga (fun nin => by
            have := G0 n' [] [(x, h)] (by omega) (Nat.zero_le _) (fun w hw => by cases hw) (Nat.le_refl _) (fun y b b' hb hb' => by
              have one1 : ∀ b, (y, b) ∈ [(x, h)] → y = x ∧ b = h := fun b k => by
                rcases List.mem_cons.mp k with e | k
                · injection e with e1 e2
                  exact ⟨e1, e2⟩
                · cases k
              rcases List.mem_append.mp hb with k1 | k1
              · rcases List.mem_append.mp hb' with k2 | k2
                · exact hco y b b' k1 k2
                · have := (one1 b' k2).1
                  rw [this] at k1
                  exact absurd k1 (nin b)
              · have q1 := one1 b k1
                rcases List.mem_append.mp hb' with k2 | k2
                · rw [q1.1] at k2
                  exact absurd k2 (nin b')
                · rw [q1.2, (one1 b' k2).2])
            rw [List.append_nil] at this
            exact this)
          obtain ⟨τ', f1, f2⟩ := fin ρ1 a2 (fun o ho => by rw [a3 o ho, mk0.mk])
          refine ⟨τ', ?_, f2⟩
          rw [a1, zcv_at]
          exact f1
        · -- a comparison
          rw [q6, if_neg (by decide), if_neg (by decide), if_neg (by decide), if_neg (by decide), if_neg (by decide)]
          obtain ⟨n', rfl⟩ : ∃ n', n = n' + 3 := ⟨n - 3, by omega⟩
          obtain ⟨ρ1, a1, a2, a3⟩ := r_compares (ks := ks) (qs := qs) (T := T) (n := n') (h0 := h0) (h := h) hc hu hK hC (by omega) J0 (fun Xs x1 x2 => by
            have := G0 (n' + 2) Xs [] (by omega) x1 x2 (Nat.zero_le _) (by rw [List.append_nil]; exact hco)
            rw [List.append_nil] at this
            exact this)
          obtain ⟨τ', f1, f2⟩ := fin ρ1 a2 (fun o ho => by rw [a3 o ho, mk0.mk])
          refine ⟨τ', ?_, f2⟩
          rw [a1, zcv_at]
          exact f1
end GOM
