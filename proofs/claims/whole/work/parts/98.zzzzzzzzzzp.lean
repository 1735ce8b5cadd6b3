/-! go() of the reference: truths, sizes -/
section GTR
variable {ks : Nat → Nat} {qs : List Nat} {T n h0 c : Nat} {V : zSt} {B : Int} {L0 : List oLm} {Dm : Option Nat → Prop} {Q : Option Nat → List oLm → Prop} {Sk : List (Int32 × Bool)} {Ds : List (List oBr)} {Ws : List oWy} {Ts : List (Nat × Bool)}
theorem rJs.tru {τ : zSt} {x : Nat} {h : Bool} (J : rJs V τ Sk Ws Ts) (hx : x < 2 ^ 31) (hl : Ts.length < 60) : rJs V (zI (zA (zA τ 97 (upd (τ.2.2.1 97) Ts.length (nI x))) 98 (upd (τ.2.2.1 98) Ts.length (b01 h))) 153 (nI (Ts.length + 1))) Sk Ws (Ts ++ [(x, h)]) ∧ mkE τ (zI (zA (zA τ 97 (upd (τ.2.2.1 97) Ts.length (nI x))) 98 (upd (τ.2.2.1 98) Ts.length (b01 h))) 153 (nI (Ts.length + 1))) := by
  obtain ⟨j1, j2, j3, j4⟩ := J
  refine ⟨⟨((j1.a (by decide)).a (by decide)).i (by decide), j2, j3, ⟨⟨?_, j4.1.2⟩, ?_, fun k y e => ?_⟩⟩, rfl, rfl⟩
  · rw [List.length_append]; rfl
  · rw [List.length_append]; show Ts.length + 1 ≤ 60; omega
  · show upd (τ.2.2.1 97) Ts.length (nI x) k = nI y.1 ∧ upd (τ.2.2.1 98) Ts.length (b01 h) k = b01 y.2 ∧ y.1 < 2 ^ 31
    unfold upd
    rcases get_ap e with ⟨rfl, rfl⟩ | ⟨z, e⟩
    · rw [if_pos rfl, if_pos rfl]; exact ⟨rfl, rfl, hx⟩
    · rw [if_neg (by omega), if_neg (by omega)]
      exact j4.2.2 k y e
theorem rJs.untru {τ : zSt} {x : Nat × Bool} (J : rJs V τ Sk Ws (Ts ++ [x])) : rJs V (zI τ 153 (nI Ts.length)) Sk Ws Ts ∧ mkE τ (zI τ 153 (nI Ts.length)) := by
  obtain ⟨j1, j2, j3, j4⟩ := J
  refine ⟨⟨j1.i (by decide), j2, j3, ⟨⟨rfl, j4.1.2⟩, ?_, fun k x e => ?_⟩⟩, rfl, rfl⟩
  · have := j4.2.1
    rw [List.length_append] at this
    omega
  · exact j4.2.2 k x (by rw [List.getElem?_append_left (get_lt e)]; exact e)
/-- truth(x, h) -/
theorem r_truth {x : Nat} {h : Bool} {τ : zSt} (hT : 100 ≤ T) (hx : x < 2 ^ 31) (hK : ∀ o, kInv (kFe (Q o))) (hco : tCo Ts) (hl : Ts.length < 60) (J : rJs V τ Sk Ws Ts) (G1 : gGo ks qs T h0 V L0 Dm Q n Sk Ds Ws Ts) (G2 : (∀ b, (x, b) ∉ Ts) → gGo ks qs T h0 V L0 Dm Q n Sk Ds Ws (Ts ++ [(x, h)])) : ∃ τ', zF h0 qs ks T (n + 1) 103 [.ref h0, .int (nI x), .int (b01 h)] τ = some (none, τ') ∧ rJs V τ' Sk Ws Ts ∧ ∀ o, Dm o → (rMa τ' o ↔ rMa τ o ∨ exB [([], [(x, h)])] (exL Ds (kFe (Q o))) (Ws.map wLm ++ L0) Ts) := by
  have e153 : τ.1 153 = nI Ts.length := J.2.2.2.1.1
  have loop : ∀ (d k t : Nat), k + d = Ts.length → d < t → (∀ j b, j < k → Ts[j]? ≠ some (x, b)) → ∃ τ', l_truth_2 T (zF h0 qs ks T n) h0 qs ks t (nI x) (b01 h) (nI k) τ = some (none, τ') ∧ rJs V τ' Sk Ws Ts ∧ ∀ o, Dm o → (rMa τ' o ↔ rMa τ o ∨ exB [([], [(x, h)])] (exL Ds (kFe (Q o))) (Ws.map wLm ++ L0) Ts) := by
    intro d
    induction d with
    | zero =>
      intro k t hk ht hno
      obtain ⟨t, rfl⟩ : ∃ t', t = t' + 1 := ⟨t - 1, by omega⟩
      have : k = Ts.length := by omega
      subst this
      have nin : ∀ b, (x, b) ∉ Ts := fun b hb => by
        obtain ⟨j, hj, e⟩ := List.getElem_of_mem hb
        exact hno j b hj (by rw [List.getElem?_eq_getElem hj, e])
      obtain ⟨p1, p2⟩ := J.tru (x := x) (h := h) hx hl
      obtain ⟨ρ, g1, g2, g3⟩ := G2 nin _ p1
      obtain ⟨q1, q2⟩ := g2.untru
      have e153' : ρ.1 153 = nI (Ts.length + 1) := by
        have := g2.2.2.2.1.1
        rw [List.length_append] at this
        exact this
      refine ⟨_, ?_, q1, fun o ho => ?_⟩
      · rw [l_truth_2, e153, if_pos (nI_le (by omega) (by omega))]
        unfold j_truth_80
        have e1 : ∀ v, (zA τ 97 v).1 153 = nI Ts.length := fun _ => e153
        have e2 : ∀ v u, (zA (zA τ 97 v) 98 u).1 153 = nI Ts.length := fun _ _ => e153
        simp only [zgd, zin_n hl (by decide), if_true, nI_clamp (show Ts.length < 2 ^ 31 by omega), zlet, e1, e2, nI_p1]
        have fin : ∀ v : Int32, v = b01 h → (zcv (zF h0 qs ks T n 101 [.ref h0] (zI (zA (zA τ 97 (upd (τ.2.2.1 97) Ts.length (nI x))) 98 (upd ((zA τ 97 (upd (τ.2.2.1 97) Ts.length (nI x))).2.2.1 98) Ts.length v)) 153 (nI (Ts.length + 1)))) fun s6 => some (none, zI s6 153 (s6.1 153 - 1))) = some (none, zI ρ 153 (nI Ts.length)) := fun v hv => by
          rw [hv]
          have : zF h0 qs ks T n 101 [.ref h0] (zI (zA (zA τ 97 (upd (τ.2.2.1 97) Ts.length (nI x))) 98 (upd ((zA τ 97 (upd (τ.2.2.1 97) Ts.length (nI x))).2.2.1 98) Ts.length (b01 h))) 153 (nI (Ts.length + 1))) = some (none, ρ) := g1
          rw [this, zcv_at, e153', nI_s1]
        cases h
        · rw [if_pos (show b01 false = 0 by decide)]; exact fin 0 rfl
        · rw [if_neg (show ¬ b01 true = 0 by decide)]; exact fin 1 rfl
      · rw [q2.mk, g3 o ho, p2.mk, exB.one]
        have := (exL.inv (hK o) Ds).iff (L := Ws.map wLm ++ L0) (L' := [] ++ (Ws.map wLm ++ L0)) (ts := Ts ++ [(x, h)]) (ts' := [(x, h)] ++ Ts) rfl (fun y => by simp only [List.mem_append, or_comm])
        rw [this]
    | succ d ih =>
      intro k t hk ht hno
      obtain ⟨t, rfl⟩ : ∃ t', t = t' + 1 := ⟨t - 1, by omega⟩
      have hkl : k < Ts.length := by omega
      have ek : Ts[k]? = some Ts[k] := List.getElem?_eq_getElem hkl
      have hmem : Ts[k] ∈ Ts := List.getElem_mem hkl
      obtain ⟨a1, a2, a3⟩ := J.2.2.2.2.2 k _ ek
      generalize Ts[k] = y at ek hmem a1 a2 a3
      obtain ⟨y1, y2⟩ := y
      rw [l_truth_2, e153, if_neg (nI_ge (by omega) (by omega))]
      simp only [zgd, zin_n (show k < 60 by omega) (by decide), if_true, nI_clamp (show k < 2 ^ 31 by omega), a1, a2]
      by_cases z : y1 = x
      · subst z
        rw [if_pos rfl]
        have fin : ∀ v : Int32, v = b01 y2 → ∃ τ', j_truth_38 T (zF h0 qs ks T n) h0 qs ks (l_truth_2 T (zF h0 qs ks T n) h0 qs ks t) (b01 h) v τ = some (none, τ') ∧ rJs V τ' Sk Ws Ts ∧ ∀ o, Dm o → (rMa τ' o ↔ rMa τ o ∨ exB [([], [(y1, h)])] (exL Ds (kFe (Q o))) (Ws.map wLm ++ L0) Ts) := fun v hv => by
          subst hv
          unfold j_truth_38
          by_cases w : y2 = h
          · subst w
            rw [if_pos rfl]
            obtain ⟨ρ, g1, g2, g3⟩ := G1 τ J
            refine ⟨ρ, by rw [g1, zcv_at], g2, fun o ho => ?_⟩
            rw [g3 o ho, exB.one]
            have := (exL.inv (hK o) Ds).iff (L := Ws.map wLm ++ L0) (L' := [] ++ (Ws.map wLm ++ L0)) (ts := Ts) (ts' := [(y1, y2)] ++ Ts) rfl (fun u => by
              simp only [List.mem_append, List.mem_cons, List.not_mem_nil, or_false]
              exact ⟨fun q => Or.inr q, fun q => by rcases q with rfl | q; exact hmem; exact q⟩)
            rw [this]
          · rw [if_neg (fun e => w (by cases y2 <;> cases h <;> first | rfl | exact absurd e (by decide)))]
            refine ⟨τ, rfl, J, fun o ho => ⟨Or.inl, fun q => ?_⟩⟩
            rcases q with q | q
            · exact q
            · exfalso
              rw [exB.one] at q
              exact exL.dead (L := []) (ts := [(y1, h), (y1, y2)]) (fun k => w (k.2 y1 y2 h (by simp) (by simp))) Ds _ _ (fun l hl => by cases hl) (fun u hu => by
                rcases List.mem_cons.mp hu with rfl | hu
                · exact List.mem_append_left _ (List.mem_cons_self ..)
                · rcases List.mem_cons.mp hu with rfl | hu
                  · exact List.mem_append_right _ hmem
                  · cases hu) q
        cases y2
        · rw [if_neg (show ¬ b01 false = 1 by decide)]; exact fin 0 rfl
        · rw [if_pos (show b01 true = 1 by decide)]; exact fin 1 rfl
      · rw [if_neg (fun e => z (nI_inj' a3 hx e)), nI_p1]
        exact ih (k + 1) t (by omega) (by omega) (fun j b hj e => by
          by_cases q : j = k
          · rw [q, ek] at e
            injection e with e
            injection e with e _
            exact z e
          · exact hno j b (by omega) e)
  rw [zE_truth]
  unfold b_truth
  exact loop Ts.length 0 T (Nat.zero_add _) (by omega) (fun j b hj => absurd hj (Nat.not_lt_zero _))
/-- sized(l, none) -/
theorem r_sized {l k : Nat} {h : Bool} {τ : zSt} (hc : 0 < c ∧ c ≤ 60) (hB : 2 ≤ B) (hl : l < 1501) (hk : k < c) (e89 : V.2.2.1 89 l = nI k) (hK : ∀ o, kInv (kFe (Q o))) (hW : Ws.length < 300) (J : rJs V τ Sk Ws Ts) (G : ∀ w, wyOk B c w → gGo ks qs T h0 V L0 Dm Q (n + 1) Sk Ds (Ws ++ [w]) Ts) : ∃ τ', zF h0 qs ks T (n + 2) 102 [.ref h0, .int (nI l), .int (b01 h)] τ = some (none, τ') ∧ rJs V τ' Sk Ws Ts ∧ ∀ o, Dm o → (rMa τ' o ↔ rMa τ o ∨ exB (cmB [(k, 1)] 0 (if h = true then 2 else 3)) (exL Ds (kFe (Q o))) (Ws.map wLm ++ L0) Ts) := by
  have c1 : zF h0 qs ks T (n + 1) 85 [.ref h0, .int (nI l)] τ = some (some (.int (nI k)), τ) := r_col hl (by omega) (by rw [J.1.2.2.1 89 (by decide)]; exact e89)
  have e152 : τ.1 152 = nI Ws.length := J.2.2.1.1
  have go : ∀ (w : oWy), wyOk B c w → ∃ τ', (zcv (zF h0 qs ks T (n + 1) 96 [.ref h0, .int (nI w.1), .int w.2.1, .int (nI w.2.2.1), .int w.2.2.2.1, .long w.2.2.2.2] τ) fun s5 => j_sized_39 T (zF h0 qs ks T (n + 1)) h0 qs ks (nI Ws.length) s5) = some (none, τ') ∧ rJs V τ' Sk Ws Ts ∧ ∀ o, Dm o → (rMa τ' o ↔ rMa τ o ∨ exB [([wLm w], [])] (exL Ds (kFe (Q o))) (Ws.map wLm ++ L0) Ts) := fun w hw => by
    obtain ⟨ρ, a1, a2, a3, -⟩ := r_way (ks := ks) (qs := qs) (T := T) (n := n) (h0 := h0) (w := w) J hW
    obtain ⟨ρ', b1, b2, b3⟩ := gGo.more (τ := τ) hK (G w hw) a2 a3
    obtain ⟨d1, d2⟩ := b2.unway
    refine ⟨_, ?_, d1, fun o ho => by rw [d2.mk, b3 o ho]; rfl⟩
    rw [a1, zcv_at]
    unfold j_sized_39
    rw [b1, zcv_at]
    rfl
  rw [show n + 2 = (n + 1) + 1 from rfl, zE_sized]
  unfold b_sized
  rw [c1]
  show ∃ τ', (if b01 h = 0 then _ else _) = _ ∧ _
  rw [e152]
  cases h
  · rw [if_pos (show b01 false = 0 by decide)]
    exact go (k, -1, 0, 0, 1) ⟨hk, hc.1, ⟨show -2 ≤ (-1 : Int32).toInt by decide, show (-1 : Int32).toInt ≤ 2 by decide⟩, ⟨show -2 ≤ (0 : Int32).toInt by decide, show (0 : Int32).toInt ≤ 2 by decide⟩, fun _ e => absurd rfl e, show -B ≤ 2 * (1 : Int64).toInt by rw [show (1 : Int64).toInt = 1 from rfl]; omega, show 2 * (1 : Int64).toInt ≤ B by rw [show (1 : Int64).toInt = 1 from rfl]; omega⟩
  · rw [if_neg (show ¬ b01 true = 0 by decide)]
    exact go (k, 1, 0, 0, 0) ⟨hk, hc.1, ⟨show -2 ≤ (1 : Int32).toInt by decide, show (1 : Int32).toInt ≤ 2 by decide⟩, ⟨show -2 ≤ (0 : Int32).toInt by decide, show (0 : Int32).toInt ≤ 2 by decide⟩, fun _ e => absurd rfl e, show -B ≤ 2 * (0 : Int64).toInt by rw [show (0 : Int64).toInt = 0 from rfl]; omega, show 2 * (0 : Int64).toInt ≤ B by rw [show (0 : Int64).toInt = 0 from rfl]; omega⟩
end GTR
