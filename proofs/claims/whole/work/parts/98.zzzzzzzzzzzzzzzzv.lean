/-! **the reference: isSo()** -/
/-- the line of what must be SO of an S: kd 3 less the length of u -/
def nLi (ns : Nat → Option Nat) (kd u : Nat) (p : List tP) : List (Nat × Int32) := if kd = 3 then sAdd (sLs ns 1 p []) u (-1) else sLs ns 1 p []
/-- that it is not so -/
def nLm (kd : Nat) (ℓ : List (Nat × Int)) (pl : Int) : List oLm := if kd = 1 then [cmL ℓ pl 1 0, cmL ℓ pl (-1) 0] else if kd = 2 then [cmL ℓ pl 1 1] else [cmL ℓ pl (-1) 0]
section ISO
variable {ks : Nat → Nat} {qs : List Nat} {T n h0 len cnt lo N Ss P A c : Nat} {Γ : uGm} {V τ : zSt} {v : Nat → Nat} {CD : tT → Nat → Prop} {L ns env : List Nat} {kk pp ee f : Nat → Int32} {B : Int}
theorem nLi_ok {kd u : Nat} {p : List tP} (he : env.length ≤ 12) (g : sGd cnt p) (hu : kd = 3 → u ∈ env) : sNi (nLi (nFind f pp ee env) kd u p) ∧ rIn (· ∈ env) (nLi (nFind f pp ee env) kd u p) ∧ (nLi (nFind f pp ee env) kd u p).length ≤ 12 ∧ sBd 3000 (nLi (nFind f pp ee env) kd u p) := by
  have hE : ∀ w u, nFind f pp ee env w = some u → u ∈ env := fun w u e => by
    obtain ⟨j, -, ej⟩ := nFind_mem e
    exact List.mem_of_getElem? ej
  have h1 : sNi (sLs (nFind f pp ee env) 1 p []) := sLs.ni _ _ sNi.nil
  have h2 : rIn (· ∈ env) (sLs (nFind f pp ee env) 1 p []) := sLs.in hE _ _ (fun q hq => by cases hq)
  have b1 := sLs.bd (ns := nFind f pp ee env) (Or.inl rfl : (1 : Int32) = 1 ∨ (1 : Int32) = -1) p [] 0 (by have := g.2; omega) (fun q hq => by cases hq)
  unfold nLi
  by_cases z : kd = 3
  · rw [if_pos z]
    have h3 := h1.add u (-1)
    have h4 : rIn (· ∈ env) (sAdd (sLs (nFind f pp ee env) 1 p []) u (-1)) := sAdd_in (hu z) h2 _
    exact ⟨h3, h4, by have := h3.len h4; omega, (b1.add (b := u) (v := -1) (by have := g.2; omega) (by decide)).mo (by have := g.2; omega)⟩
  · rw [if_neg z]
    exact ⟨h1, h2, by have := h1.len h2; omega, b1.mo (by have := g.2; omega)⟩
/-- its line in the reference -/
theorem r_nln {y w u kd : Nat} {p : List tP} (H : rLh T len cnt Ss P L env V kk pp ee f) (fm : gFm V τ) (hp : pOk cnt p) (hg : sGd cnt p) (hw : rWs f pp ee (V.2.2.1 32) L env (sEv p)) (hs : rSm pp V Ss P y (w, p)) (hu : kd = 3 → u ∈ env) : ∃ τ1 τ2 τ3, zF h0 qs ks T (n + 2) 53 [.ref h0] τ = some (none, τ1) ∧ gFm V τ1 ∧ zF h0 qs ks T (n + 2) 55 [.ref h0, .int (nI y), .int 1] τ1 = some (none, τ2) ∧ gFm V τ2 ∧ (if kd = 3 then zF h0 qs ks T (n + 2) 54 [.ref h0, .int (nI (nuO (V.2.2.1 32) u)), .int (-1)] τ2 = some (none, τ3) else τ3 = τ2) ∧ gFm V τ3 ∧ rLn τ3 (rMp (nuO (V.2.2.1 32)) (nLi (nFind f pp ee env) kd u p)) ∧ τ3.2.1 64 = nLs T f pp ee 1 p 0 := by
  have hE : ∀ w u, nFind f pp ee env w = some u → u ∈ env := fun w u e => by
    obtain ⟨j, -, ej⟩ := nFind_mem e
    exact List.mem_of_getElem? ej
  obtain ⟨τ1, a1, a2, a3, a4⟩ := r_clr (h0 := h0) (qs := qs) (ks := ks) (T := T) (n := n + 1) (τ := τ)
  obtain ⟨τ2, b1, b2, b3, b4⟩ := r_addSum (h0 := h0) (qs := qs) (ks := ks) (n := n) (sn := 1) (M := []) H (fm.tr a3) a2 sNi.nil (fun q hq => by cases hq) hp hg hw hs
  rw [a4] at b4
  have b2 : rLn τ2 (rMp (nuO (V.2.2.1 32)) (sLs (nFind f pp ee env) 1 p [])) := b2
  have h2 : rIn (· ∈ env) (sLs (nFind f pp ee env) 1 p []) := sLs.in hE _ _ (fun q hq => by cases hq)
  have h1 : sNi (sLs (nFind f pp ee env) 1 p []) := sLs.ni _ _ sNi.nil
  have hl := h1.len h2
  have he := H.2.2.2.2
  by_cases z : kd = 3
  · have hue := hu z
    have nu := H.2.2.1.at (H.2.2.2.1 u hue)
    obtain ⟨τ3, c1, c2, c3, c4⟩ := r_addName (h0 := h0) (qs := qs) (ks := ks) (T := T) (n := n + 1) (d := nuO (V.2.2.1 32) u) (v := -1) (by have := H.1.1; omega) b2 (by rw [rMp_len]; omega) (rMp_key h2 (fun w hw => (H.2.2.1.at (H.2.2.2.1 w hw)).2.2)) (by have := nu.2.2; omega)
    refine ⟨τ1, τ2, τ3, a1, fm.tr a3, b1, b3, by rw [if_pos z]; exact c1, b3.tr c3, ?_, by rw [c4]; exact b4⟩
    unfold nLi
    rw [if_pos z, ← sAdd_mp (E := (· ∈ env)) (fun a b ha hb e => H.2.2.1.inj a b (H.2.2.2.1 a ha) (H.2.2.2.1 b hb) e) hue h2 (-1)]
    exact c2
  · refine ⟨τ1, τ2, τ2, a1, fm.tr a3, b1, b3, by rw [if_neg z], b3, ?_, b4⟩
    unfold nLi
    rw [if_neg z]
    exact b2
theorem rFa_n {kd u : Nat} {p : List tP} (H : rLh T len cnt Ss P L env V kk pp ee f) (g : sGd cnt p) (hu : kd = 3 → u ∈ env) : rFa (rMp (nuO (V.2.2.1 32)) (nLi (nFind f pp ee env) kd u p)) = sFa (nLi (nFind f pp ee env) kd u p) := by
  obtain ⟨k1, k2, k3, k4⟩ := nLi_ok (f := f) (pp := pp) (ee := ee) (cnt := cnt) (kd := kd) (u := u) (p := p) H.2.2.2.2 g hu
  rw [← sFa_mp (φ := nuO (V.2.2.1 32))]
  generalize nLi (nFind f pp ee env) kd u p = M at k1 k2 k3 k4
  refine rFa_s (K := 3000) (by decide) ⟨?_, fun q hq => ?_⟩ (fun q hq => ?_)
  · have e : (rMp (nuO (V.2.2.1 32)) M).map Prod.fst = (M.map Prod.fst).map (nuO (V.2.2.1 32)) := by
      unfold rMp
      rw [List.map_map, List.map_map]
      rfl
    rw [e]
    refine List.pairwise_map.mpr (k1.1.imp_of_mem (fun {u v} hu hv h => fun z => h ?_))
    obtain ⟨q, hq, rfl⟩ := List.mem_map.mp hu
    obtain ⟨r, hr, rfl⟩ := List.mem_map.mp hv
    exact H.2.2.1.inj _ _ (H.2.2.2.1 _ (k2 q hq)) (H.2.2.2.1 _ (k2 r hr)) z
  · obtain ⟨p, hp, rfl⟩ := List.mem_map.mp hq
    exact k1.2 p hp
  · obtain ⟨p, hp, rfl⟩ := List.mem_map.mp hq
    exact k4 p hp
/-- the search of a question whether there is a way -/
theorem r_goN {sc sc' : List gEn} {Lm : List oLm} {Sk : List (Int32 × Bool)} {Ws : List oWy} (X : qCx T len cnt lo N Ss P A L V kk pp ee f CD Γ v B qs) (Q : qSg T cnt kk pp ee f (V.2.2.1 32) L Γ B sc) (hn : 1300 ≤ n) (hco : rCo V (1500 :: (scN sc).map (fun x => Γ.1 x.1))) (hcd : cdL CD Γ (scC sc) Sk) (hb : rTc B (2 * ((scN sc).length + 1)) (Lm.map rnd) (V.2.2.2 87)) (h155 : V.1 155 = -1) (hW : Ws.length ≤ 2 ∧ ∀ w, w ∈ Ws → wyOk B ((scN sc).length + 1) w) (J : rJs V τ Sk Ws []) : ∃ τ', zF h0 qs ks T n 101 [.ref h0] τ = some (none, τ') ∧ gQ V τ' ∧ (τ'.1 154 = 0 ∨ τ'.1 154 = 1) ∧ (τ'.1 154 = 1 ↔ τ.1 154 = 1 ∨ exL (qWy T f pp ee (V.2.2.1 32) sc) (kFe (fun _ => True)) (Ws.map wLm ++ Lm) []) := by
  obtain ⟨X1, X2, X3, X4, X5, X6, X7⟩ := id X
  obtain ⟨Q1, Q2, Q3, Q4, Q5, Q6, Q7, Q8, Q9⟩ := id Q
  have cl : (1500 :: (scN sc).map (fun x => Γ.1 x.1)).length = (scN sc).length + 1 := by rw [List.length_cons, List.length_map]
  have hS : ∀ y, y ∈ (scN sc).map Prod.fst → (1500 :: (scN sc).map (fun x => Γ.1 x.1))[gSl ((scN sc).map Prod.fst) y]? = some (Γ.1 y) := fun y hy => gSl_at hy
  have hSn : ∀ y, y ∈ (scN sc).map Prod.fst → uNm Γ y := fun y hy => by
    obtain ⟨x, hx, rfl⟩ := List.mem_map.mp hy
    exact Q2 x hx
  obtain ⟨It, i1, i2, i3, i4, i5⟩ := r_items (ks := ks) (qs := qs) (h0 := h0) (B := B) X1 hco cl Q3 hS (fun x y hx hy e => by rw [← (hSn x hx).2, e, (hSn y hy).2]) X4 Q4 (scC sc) Sk hcd Q6
  have hBW : ((2 * ((scN sc).length + 1) : Nat) : Int) * B + B < 1125899906842624 := by
    have h1 : ((2 * ((scN sc).length + 1) : Nat) : Int) ≤ 120 := by omega
    have h2 : ((2 * ((scN sc).length + 1) : Nat) : Int) * B ≤ 120 * B := Int.mul_le_mul_of_nonneg_right h1 (by omega)
    omega
  have h131 : V.1 131 = nI ((scN sc).length + 1) := by rw [hco.1, cl]
  have G0 := r_go (ks := ks) (qs := qs) (T := T) (h0 := h0) (k0 := 4) (V := V) (L0 := Lm) (c := (scN sc).length + 1) (B := B) (Dm := fun o => o = none) (Q := fun _ _ => True) (by omega) ⟨by omega, Q3⟩ X5.1 (fun o => kFe.inv (fun L L' e h => h)) (by decide) (fun n τ Ws Ts hn J hw ht => r_leafN X6 (by omega) Q3 h131 (by rw [h155]; exact m1_lt.1) (by omega) hBW hb n τ Ws Ts hn J hw ht) (iSs It) It n Ws [] i5 (Nat.le_refl _) (by rw [i3]; omega) (by rw [i4]; show _ + 0 ≤ 60; omega) (by rw [i4]; omega) hW.2 (fun x b b' h => by cases h)
  rw [← i1] at J
  obtain ⟨τ', g1, g2, g3⟩ := G0 τ J
  refine ⟨τ', g1, g2.1, g2.2.2.2.1.2, ?_⟩
  have g4 := g3 none rfl
  rw [i2] at g4
  exact g4
theorem r_gonR {x1 x2 x3 : Int32} {τ' : zSt} {r : Option Value} (hV : uVn τ v) (hl : v 110 < 12000) (h : zF h0 qs ks T (n + 1) 74 [.ref h0, .int x1, .int x2, .int x3] τ = some (r, τ')) : ∀ k, k ≠ 71 → k ≠ 72 → k ≠ 73 → τ'.2.2.1 k = τ.2.2.1 k := by
  obtain ⟨c1, c2⟩ := hV 110 (by decide)
  have z1 : zin (τ.1 110) 12000 = true := by rw [c1]; exact zin_n hl (by decide)
  rw [zE_gone] at h
  unfold b_gone at h
  simp only [zlet] at h
  rw [zgd_at z1, zgd_at (show zin ((zA τ 71 _).1 110) 12000 = true from z1), zgd_at (show zin ((zA (zA τ 71 _) 72 _).1 110) 12000 = true from z1)] at h
  injection h with h
  injection h with _ h
  intro k k1 k2 k3
  rw [← h]
  show (if k = 73 then _ else if k = 72 then _ else if k = 71 then _ else _ : Nat → Int32) = _
  rw [if_neg k3, if_neg k2, if_neg k1]
end ISO
