/-! run(), the class: what lies in the Machine's heap -/
/-- where functions, arrays and lists lie -/
abbrev hG : Type := List Nat × List Nat × List Nat
/-- a value as the Machine has it -/
def hV (G : hG) (v : xmV) (x : Int64) : Prop := (v.1 ≤ 1 ∧ x = v.2) ∨ (v.1 = 2 ∧ ∃ i a, v.2 = xmNi i ∧ G.2.1[i]? = some a ∧ x = xmNi a) ∨ (v.1 = 3 ∧ ∃ i a, v.2 = xmNi i ∧ G.1[i]? = some a ∧ x = xmNi a) ∨ (v.1 = 4 ∧ ((v.2 = -1 ∧ x = 0) ∨ ∃ i a, v.2 = xmNi i ∧ G.2.2[i]? = some a ∧ x = xmNi a))
/-- more of them -/
def hGe (G G' : hG) : Prop := (∃ l, G'.1 = G.1 ++ l) ∧ (∃ l, G'.2.1 = G.2.1 ++ l) ∧ ∃ l, G'.2.2 = G.2.2 ++ l
theorem hGe.rf (G : hG) : hGe G G := ⟨⟨[], by rw [List.append_nil]⟩, ⟨[], by rw [List.append_nil]⟩, ⟨[], by rw [List.append_nil]⟩⟩
theorem hGe.tr {G1 G2 G3 : hG} (h : hGe G1 G2) (g : hGe G2 G3) : hGe G1 G3 := by
  obtain ⟨⟨a, a'⟩, ⟨b, b'⟩, ⟨c, c'⟩⟩ := h
  obtain ⟨⟨d, d'⟩, ⟨e, e'⟩, ⟨f, f'⟩⟩ := g
  exact ⟨⟨a ++ d, by rw [d', a', List.append_assoc]⟩, ⟨b ++ e, by rw [e', b', List.append_assoc]⟩, ⟨c ++ f, by rw [f', c', List.append_assoc]⟩⟩
theorem ap_get {l l' : List Nat} {i a : Nat} (h : l[i]? = some a) : (l ++ l')[i]? = some a := by
  rw [List.getElem?_append_left (xget_lt h)]
  exact h
theorem hV.mo {G G' : hG} {v : xmV} {x : Int64} (g : hGe G G') (h : hV G v x) : hV G' v x := by
  obtain ⟨⟨l1, e1⟩, ⟨l2, e2⟩, ⟨l3, e3⟩⟩ := g
  rcases h with h | ⟨h, i, a, p1, p2, p3⟩ | ⟨h, i, a, p1, p2, p3⟩ | ⟨h, h' | ⟨i, a, p1, p2, p3⟩⟩
  · exact Or.inl h
  · exact Or.inr (Or.inl ⟨h, i, a, p1, by rw [e2]; exact ap_get p2, p3⟩)
  · exact Or.inr (Or.inr (Or.inl ⟨h, i, a, p1, by rw [e1]; exact ap_get p2, p3⟩))
  · exact Or.inr (Or.inr (Or.inr ⟨h, Or.inl h'⟩))
  · exact Or.inr (Or.inr (Or.inr ⟨h, Or.inr ⟨i, a, p1, by rw [e3]; exact ap_get p2, p3⟩⟩))
/-- a place that holds no element of an array: it stays -/
def hC (Ar : Nat → Prop) (top a : Nat) : Prop := 4 ≤ a ∧ a < top ∧ ¬ Ar a
/-- NAMES that count, the last one first -/
def hSc (G : hG) (Ar : Nat → Prop) (top : Nat) (hp : Nat → Int64) : List xmV → Nat → Prop
  | [], a => a = 0
  | v :: l, a => (hC Ar top a ∧ hC Ar top (a + 1)) ∧ hV G v (hp a) ∧ ∃ b, hp (a + 1) = xmNi b ∧ hSc G Ar top hp l b
/-- what stays -/
def hKp (Ar Ar' : Nat → Prop) (top top' : Nat) (hp hp' : Nat → Int64) : Prop := ∀ a, hC Ar top a → hC Ar' top' a ∧ hp' a = hp a
theorem hSc.kp {G G' : hG} {Ar Ar' : Nat → Prop} {top top' : Nat} {hp hp' : Nat → Int64} (g : hGe G G') (k : hKp Ar Ar' top top' hp hp') : ∀ (l : List xmV) (a : Nat), hSc G Ar top hp l a → hSc G' Ar' top' hp' l a
  | [], a, h => h
  | v :: l, a, h => by
    obtain ⟨⟨h1, h2⟩, h3, b, h4, h5⟩ := h
    exact ⟨⟨(k _ h1).1, (k _ h2).1⟩, by rw [(k _ h1).2]; exact h3.mo g, b, by rw [(k _ h2).2]; exact h4, hSc.kp g k l b h5⟩
theorem hSc.lt {G : hG} {Ar : Nat → Prop} {top : Nat} {hp : Nat → Int64} {l : List xmV} {a : Nat} (h : hSc G Ar top hp l a) (ht : 0 < top) : a < top := by
  cases l with
  | nil => have h : a = 0 := h; omega
  | cons v l => exact h.1.1.2.1
/-- elements of arrays -/
def hAr (YA : List Nat) (ys : List (List Int64)) (a : Nat) : Prop := ∃ (i : Nat) (y : List Int64) (b : Nat), ys[i]? = some y ∧ YA[i]? = some b ∧ b < a ∧ a ≤ b + y.length
/-- **the heap** (nb: which number a function has) -/
def hHp (nb : tT → List Nat → Nat → Prop) (G : hG) (top : Nat) (hp : Nat → Int64) (h : xmHp) : Prop := (G.1.length = h.1.length ∧ G.2.1.length = h.2.1.length ∧ G.2.2.length = h.2.2.length ∧ 4 ≤ top ∧ h.1.length + h.2.1.length + h.2.2.length < 2 ^ 31) ∧
  (∀ (i : Nat) (fn : xmFn) (a : Nat), h.1[i]? = some fn → G.1[i]? = some a → (hC (hAr G.2.1 h.2.1) top a ∧ hC (hAr G.2.1 h.2.1) top (a + 1) ∧ hC (hAr G.2.1 h.2.1) top (a + 2)) ∧ (∃ u, hp a = xmNi u ∧ nb fn.1 fn.2.1 u) ∧ (∃ s, hp (a + 1) = xmNi s ∧ hSc G (hAr G.2.1 h.2.1) top hp (fn.2.2.1 ++ fn.2.2.2).reverse s) ∧ hp (a + 2) = xmNi fn.2.2.2.length) ∧
  (∀ (i : Nat) (y : List Int64) (a : Nat), h.2.1[i]? = some y → G.2.1[i]? = some a → (hC (hAr G.2.1 h.2.1) top a ∧ a + y.length < top) ∧ hp a = xmNi y.length ∧ ∀ (k : Nat) (x : Int64), y[k]? = some x → hp (a + 1 + k) = x) ∧
  (∀ (i j : Nat) (y : List Int64) (a b : Nat), i < j → h.2.1[i]? = some y → G.2.1[i]? = some a → G.2.1[j]? = some b → a + y.length < b) ∧
  ∀ (i : Nat) (c : Int64 × Int64 × Nat) (a : Nat), h.2.2[i]? = some c → G.2.2[i]? = some a → (hC (hAr G.2.1 h.2.1) top a ∧ hC (hAr G.2.1 h.2.1) top (a + 1) ∧ hC (hAr G.2.1 h.2.1) top (a + 2)) ∧ hp a = c.1 ∧ hV G (4, c.2.1) (hp (a + 1)) ∧ hp (a + 2) = xmNi c.2.2
theorem gl_ex {l : List Nat} {α : Type} {l' : List α} {i : Nat} {x : α} (e : l.length = l'.length) (h : l'[i]? = some x) : ∃ a, l[i]? = some a := ⟨_, List.getElem?_eq_getElem (by rw [e]; exact xget_lt h)⟩
theorem gl_ex' {l : List Nat} {α : Type} {l' : List α} {i a : Nat} (e : l.length = l'.length) (h : l[i]? = some a) : ∃ x, l'[i]? = some x := ⟨_, List.getElem?_eq_getElem (by rw [← e]; exact xget_lt h)⟩
section HCL
variable {κ : oKv} {T n : Nat} {σ : oSt} {ma ha hl top : Nat} {fm : List Value} {hp : Nat → Int64} {G : hG} {Ar : Nat → Prop}
/-- the Machine's cell and its heap's -/
def hMa (ma : Nat) (fm : List Value) (ha hl : Nat) (hp : Nat → Int64) (top : Nat) (σ : oSt) : Prop := (σ.1 ma = some (.inr (5, fm)) ∧ fm.length = 18) ∧ (fm[4]? = some (.ref ha) ∧ fm[5]? = some (.int (nI top))) ∧ σ.1 ha = some (.inl (.long, hl, .inr (.inl hp))) ∧ (4 ≤ top ∧ top ≤ hl ∧ hl < 2 ^ 30 ∧ 64 ≤ hl)
theorem hMa.aj (h : hMa ma fm ha hl hp top σ) {i : Nat} (hi : i < top) : oaj σ (some ha) (nI i) = some (hp i) := by
  obtain ⟨-, -, h3, h4, h5, h6⟩ := h
  have z : zin (nI i) hl = true := zin_n (N := i) (c := hl) (by omega) (by omega)
  unfold oaj
  simp only [h3]
  rw [if_pos ⟨trivial, z⟩, nI_clamp (by omega)]
theorem hMa.hp4 (h : hMa ma fm ha hl hp top σ) : ovr (ofd σ (some ma) 5 4) = some (some ha) := by
  rw [ofd_at h.1.1, h.2.1.1]; rfl
/-- along NAMES that count -/
theorem c_vo13 {call : oCl} (M : hMa ma fm ha hl hp top σ) {L : Nat} (hL : L < 2 ^ 31) : ∀ (s : Nat) (l : List xmV) (a j f : Nat) (v : xmV), hSc G Ar top hp l a → l[s]? = some v → s < f → j + s = L → ∃ x, ol_X3_valueOf_13 T call κ f (some ma) (nI L) (nI a) (nI j) σ = some (some (.long x), σ) ∧ hV G v x
  | 0, l, a, j, f, v, hs, hv, hf, hj => by
    obtain ⟨f, rfl⟩ : ∃ g, f = g + 1 := ⟨f - 1, by omega⟩
    cases l with
    | nil => cases hv
    | cons w l =>
      injection hv with hv
      subst hv
      have ej : j = L := by omega
      rw [ol_X3_valueOf_13, ej, if_pos (Int32.le_refl _), M.hp4, obn_at, M.aj hs.1.1.2.1, obn_at]
      exact ⟨_, rfl, hs.2.1⟩
  | s + 1, l, a, j, f, v, hs, hv, hf, hj => by
    obtain ⟨f, rfl⟩ : ∃ g, f = g + 1 := ⟨f - 1, by omega⟩
    cases l with
    | nil => cases hv
    | cons w l =>
      rw [List.getElem?_cons_succ] at hv
      obtain ⟨⟨-, h2⟩, -, b, h4, h5⟩ := hs
      rw [ol_X3_valueOf_13, if_neg (by rw [Int32.le_iff_toInt_le, nI_toInt (by omega), nI_toInt (by omega)]; omega), M.hp4, obn_at, nI_p1, M.aj h2.2.1, obn_at, h4, xmNi_32, nI_p1]
      exact c_vo13 M hL s l b (j + 1) f v h5 hv (by omega) (by omega)
/-- **valueOf() (83)** -/
theorem c_valueOf (M : hMa ma fm ha hl hp top σ) {vs : List xmV} {a b k : Nat} {gs : List Value} {v : xmV} (hsc : fm[10]? = some (.int (nI a))) (hs : hSc G Ar top hp vs.reverse a) (hb : σ.1 b = some (.inr (6, gs))) (hk : gs[1]? = some (.int (nI k))) (hv : vs[k]? = some v) (hT : vs.length < T) (hl' : vs.length < 2 ^ 31) : ∃ x, oF κ T (n + 1) 83 [va_rf (some ma), va_rf (some b), .int (nI vs.length)] σ = some (some (.long x), σ) ∧ hV G v x := by
  have hkl := xget_lt hv
  rw [oE_X3_valueOf]
  unfold ob_X3_valueOf
  rw [ofd_at M.1.1, hsc, ovi_in, obn_at, ofd_at hb, hk, ovi_in, obn_at, nI_p1]
  refine c_vo13 M hl' (vs.length - 1 - k) vs.reverse a (k + 1) T v hs ?_ (by omega) (by omega)
  rw [List.getElem?_reverse (by omega), show vs.length - 1 - (vs.length - 1 - k) = k by omega]
  exact hv
/-- **measure() (84)** -/
theorem c_measure {nb : tT → List Nat → Nat → Prop} {h : xmHp} {v : xmV} {x : Int64} {c : Int32} (M : hMa ma fm ha hl hp top σ) (H : hHp nb G top hp h) (hv : hV G v x) (hc : (v.1 = 2 → c = 200) ∧ (v.1 = 3 → c = 206) ∧ (v.1 = 4 → c = 213) ∧ (v.1 ≤ 1 → c ≠ 200 ∧ c ≠ 206 ∧ c ≠ 213)) : oF κ T (n + 1) 84 [va_rf (some ma), .long x, .int c] σ = some (some (.long (xmOut h v)), σ) := by
  rw [oE_X3_measure]
  unfold ob_X3_measure xmOut
  obtain ⟨c2, c3, c4, c1⟩ := hc
  obtain ⟨-, -, -, t1, t2, t3⟩ := id M
  rcases hv with ⟨e, p⟩ | ⟨e, i, a, p1, p2, p3⟩ | ⟨e, i, a, p1, p2, p3⟩ | ⟨e, q⟩
  · obtain ⟨n1, n2, n3⟩ := c1 e
    rw [if_neg n1, if_neg n2, if_neg n3, if_neg (by omega), if_neg (by omega), if_neg (by omega), p]
  · obtain ⟨y, hy⟩ := gl_ex' H.1.2.1 p2
    obtain ⟨⟨q1, q2⟩, q3, -⟩ := H.2.2.1 i y a hy p2
    have hi := xget_lt p2
    have a31 : a < 2 ^ 31 := by have := q1.2.1; omega
    rw [if_pos (c2 e), M.hp4, obn_at, p3, xmNi_32, M.aj q1.2.1, obn_at, if_neg (by omega), if_pos e, q3]
    unfold xmLn
    have hi31 : i < 2 ^ 31 := by have h1 := H.1.2.1; have h2 := H.1.2.2.2.2; omega
    rw [p1, xmNi_ix hi31, List.getD_eq_getElem?_getD, hy]
    rfl
  · rw [if_neg (by rw [c3 e]; decide), if_pos (c3 e), if_pos e]
  · rw [if_neg (by rw [c4 e]; decide), if_neg (by rw [c4 e]; decide), if_pos (c4 e), if_neg (show ¬ v.1 = 3 by omega), if_neg (show ¬ v.1 = 2 by omega), if_pos e]
    rcases q with ⟨q1, q2⟩ | ⟨i, a, p1, p2, p3⟩
    · have e0 : (0 : Int64).toInt32 = 0 := rfl
      rw [q2, e0, if_pos rfl, q1]
      rfl
    · obtain ⟨y, hy⟩ := gl_ex' H.1.2.2.1 p2
      obtain ⟨⟨q1, q2, q3⟩, -, -, q4⟩ := H.2.2.2.2 i y a hy p2
      have a31 : a < 2 ^ 31 := by have := q1.2.1; omega
      have a4 : 4 ≤ a := q1.1
      have i31 : i < 2 ^ 31 := by have h1 := H.1.2.2.1; have h2 := H.1.2.2.2.2; have h3 := xget_lt p2; omega
      have n0 : ¬ nI a = (0 : Int32) := fun w => by have := nI_inj' (b := 0) a31 (by omega) w; omega
      rw [p3, xmNi_32, if_neg n0, M.hp4, obn_at, show (2 : Int32) = nI 2 from rfl, nI_add, M.aj q3.2.1, obn_at, q4]
      unfold xmSz
      rw [p1, if_neg (by rw [Int64.lt_iff_toInt_lt, xmNi_int i31]; show ¬ ((i : Int) < 0); omega), xmNi_ix i31, List.getD_eq_getElem?_getD, hy]
      rfl
end HCL
