/-! go() of the reference: its state, small steps -/
/-- what go() may change -/
def gQ (V τ : zSt) : Prop := (∀ k, k ∉ [63, 138, 139, 141, 144, 152, 153, 154] → τ.1 k = V.1 k) ∧ (∀ k, k ∉ [64, 140] → τ.2.1 k = V.2.1 k) ∧ (∀ k, k ∉ [40, 41, 91, 92, 93, 94, 95, 96, 97, 98, 100] → τ.2.2.1 k = V.2.2.1 k) ∧ (∀ k, k ∉ [88, 99] → τ.2.2.2 k = V.2.2.2 k)
section GQ
variable {V τ τ' : zSt} {k : Nat}
theorem gQ.rf (τ : zSt) : gQ τ τ := ⟨fun _ _ => rfl, fun _ _ => rfl, fun _ _ => rfl, fun _ _ => rfl⟩
theorem gQ.tr (h : gQ V τ) (g : gQ τ τ') : gQ V τ' := ⟨fun k a => (g.1 k a).trans (h.1 k a), fun k a => (g.2.1 k a).trans (h.2.1 k a), fun k a => (g.2.2.1 k a).trans (h.2.2.1 k a), fun k a => (g.2.2.2 k a).trans (h.2.2.2 k a)⟩
theorem gQ.i {v : Int32} (h : gQ V τ) (hk : k ∈ [63, 138, 139, 141, 144, 152, 153, 154]) : gQ V (zI τ k v) := ⟨fun j hj => (if_neg (fun e : j = k => hj (by rw [e]; exact hk))).trans (h.1 j hj), h.2⟩
theorem gQ.a {f : Nat → Int32} (h : gQ V τ) (hk : k ∈ [40, 41, 91, 92, 93, 94, 95, 96, 97, 98, 100]) : gQ V (zA τ k f) := ⟨h.1, h.2.1, fun j hj => (if_neg (fun e : j = k => hj (by rw [e]; exact hk))).trans (h.2.2.1 j hj), h.2.2.2⟩
theorem gQ.g {f : Nat → Int64} (h : gQ V τ) (hk : k ∈ [88, 99]) : gQ V (zG τ k f) := ⟨h.1, h.2.1, h.2.2.1, fun j hj => (if_neg (fun e : j = k => hj (by rw [e]; exact hk))).trans (h.2.2.2 j hj)⟩
theorem gQ.of (h : gFm τ τ') : gQ τ τ' := ⟨fun k hk => h.1 k (fun e => hk (by rw [e]; decide)), fun k hk => h.2.1 k (fun e => hk (by rw [e]; decide)), fun k hk => h.2.2.1 k (fun e => hk (by rw [e]; decide)) (fun e => hk (by rw [e]; decide)), fun k hk => congrFun h.2.2.2 k⟩
end GQ
/-- the conditions that wait, the last one first -/
def rOp (τ : zSt) (Sk : List (Int32 × Bool)) : Prop := τ.1 144 = nI Sk.length ∧ Sk.length ≤ 100 ∧ ∀ (k : Nat) (x : Int32 × Bool), Sk[k]? = some x → τ.2.2.1 91 k = x.1 ∧ τ.2.2.1 92 k = b01 x.2
/-- truths -/
def rTu (τ : zSt) (Ts : List (Nat × Bool)) : Prop := (τ.1 153 = nI Ts.length ∧ (τ.1 154 = 0 ∨ τ.1 154 = 1)) ∧ Ts.length ≤ 60 ∧ ∀ (k : Nat) (x : Nat × Bool), Ts[k]? = some x → τ.2.2.1 97 k = nI x.1 ∧ τ.2.2.1 98 k = b01 x.2 ∧ x.1 < 2 ^ 31
def rJs (V τ : zSt) (Sk : List (Int32 × Bool)) (Ws : List oWy) (Ts : List (Nat × Bool)) : Prop := gQ V τ ∧ rOp τ Sk ∧ rWy τ Ws ∧ rTu τ Ts
/-- found, and what fails -/
def rMa (τ : zSt) : Option Nat → Prop
  | none => τ.1 154 = 1
  | some i => ¬ τ.2.2.1 100 i = 0
def mkE (τ τ' : zSt) : Prop := τ'.1 154 = τ.1 154 ∧ τ'.2.2.1 100 = τ.2.2.1 100
theorem mkE.mk {τ τ' : zSt} (h : mkE τ τ') (o : Option Nat) : rMa τ' o ↔ rMa τ o := by
  cases o with
  | none => unfold rMa; rw [h.1]
  | some i => unfold rMa; rw [h.2]
theorem mkE.tr {a b c : zSt} (h : mkE a b) (g : mkE b c) : mkE a c := ⟨g.1.trans h.1, g.2.trans h.2⟩
theorem b01_ne (b : Bool) : b01 b = 1 ↔ b = true := by cases b <;> decide
section GOS
variable {ks : Nat → Nat} {qs : List Nat} {T n h0 : Nat} {V τ : zSt} {Sk : List (Int32 × Bool)} {Ws : List oWy} {Ts : List (Nat × Bool)}
theorem get_ap {α : Type} {l : List α} {x : α} {k : Nat} {y : α} (h : (l ++ [x])[k]? = some y) : (k = l.length ∧ y = x) ∨ (k < l.length ∧ l[k]? = some y) := by
  by_cases z : k < l.length
  · rw [List.getElem?_append_left z] at h
    exact Or.inr ⟨z, h⟩
  · rw [List.getElem?_append_right (by omega)] at h
    by_cases y' : k = l.length
    · subst y'
      rw [Nat.sub_self] at h
      exact Or.inl ⟨rfl, (Option.some.inj h).symm⟩
    · rw [List.getElem?_eq_none (by simp only [List.length_cons, List.length_nil]; omega)] at h
      cases h
theorem get_lt {α : Type} {l : List α} {k : Nat} {y : α} (h : l[k]? = some y) : k < l.length := by
  by_cases z : k < l.length
  · exact z
  · rw [List.getElem?_eq_none (by omega)] at h; cases h
/-- a condition more -/
theorem rJs.push {m : Int32} {h : Bool} (J : rJs V τ Sk Ws Ts) (hl : Sk.length < 100) : rJs V (zI (zA (zA τ 91 (upd (τ.2.2.1 91) Sk.length m)) 92 (upd (τ.2.2.1 92) Sk.length (b01 h))) 144 (nI (Sk.length + 1))) (Sk ++ [(m, h)]) Ws Ts ∧ mkE τ (zI (zA (zA τ 91 (upd (τ.2.2.1 91) Sk.length m)) 92 (upd (τ.2.2.1 92) Sk.length (b01 h))) 144 (nI (Sk.length + 1))) := by
  obtain ⟨j1, j2, j3, j4⟩ := J
  refine ⟨⟨((j1.a (by decide)).a (by decide)).i (by decide), ⟨?_, ?_, fun k x e => ?_⟩, j3, j4⟩, rfl, rfl⟩
  · rw [List.length_append]; rfl
  · rw [List.length_append]; show Sk.length + 1 ≤ 100; omega
  · show upd (τ.2.2.1 91) Sk.length m k = x.1 ∧ upd (τ.2.2.1 92) Sk.length (b01 h) k = b01 x.2
    unfold upd
    rcases get_ap e with ⟨rfl, rfl⟩ | ⟨z, e⟩
    · rw [if_pos rfl, if_pos rfl]; exact ⟨rfl, rfl⟩
    · rw [if_neg (by omega), if_neg (by omega)]
      exact j2.2.2 k x e
/-- the last one away -/
theorem rJs.pop {x : Int32 × Bool} (J : rJs V τ (Sk ++ [x]) Ws Ts) : rJs V (zI τ 144 (nI Sk.length)) Sk Ws Ts ∧ mkE τ (zI τ 144 (nI Sk.length)) := by
  obtain ⟨j1, j2, j3, j4⟩ := J
  refine ⟨⟨j1.i (by decide), ⟨rfl, ?_, fun k x e => ?_⟩, j3, j4⟩, rfl, rfl⟩
  · have := j2.2.1
    rw [List.length_append] at this
    have : Sk.length + 1 ≤ 100 := this
    omega
  · exact j2.2.2 k x (by rw [List.getElem?_append_left (get_lt e)]; exact e)
theorem rJs.way {w : oWy} (J : rJs V τ Sk Ws Ts) (hl : Ws.length < 300) : rJs V (zI (zG (zA (zA (zA (zA τ 93 (upd (τ.2.2.1 93) Ws.length (nI w.1))) 94 (upd (τ.2.2.1 94) Ws.length w.2.1)) 95 (upd (τ.2.2.1 95) Ws.length (nI w.2.2.1))) 96 (upd (τ.2.2.1 96) Ws.length w.2.2.2.1)) 99 (vp_updL (τ.2.2.2 99) Ws.length w.2.2.2.2)) 152 (nI (Ws.length + 1))) Sk (Ws ++ [w]) Ts := by
  obtain ⟨j1, j2, j3, j4⟩ := J
  refine ⟨((((((j1.a (by decide)).a (by decide)).a (by decide)).a (by decide)).g (by decide)).i (by decide)), j2, ⟨?_, ?_, fun k x e => ?_⟩, j4⟩
  · rw [List.length_append]; rfl
  · rw [List.length_append]; show Ws.length + 1 ≤ 300; omega
  · show upd (τ.2.2.1 93) Ws.length (nI w.1) k = nI x.1 ∧ upd (τ.2.2.1 94) Ws.length w.2.1 k = x.2.1 ∧ upd (τ.2.2.1 95) Ws.length (nI w.2.2.1) k = nI x.2.2.1 ∧ upd (τ.2.2.1 96) Ws.length w.2.2.2.1 k = x.2.2.2.1 ∧ vp_updL (τ.2.2.2 99) Ws.length w.2.2.2.2 k = x.2.2.2.2
    unfold upd
    rw [vp_L]
    rcases get_ap e with ⟨rfl, rfl⟩ | ⟨z, e⟩
    · simp only [if_true]; exact ⟨trivial, trivial, trivial, trivial, trivial⟩
    · rw [if_neg (by omega), if_neg (by omega), if_neg (by omega), if_neg (by omega), if_neg (by omega)]
      exact j3.2.2 k x e
theorem rJs.unway {Xs : List oWy} (J : rJs V τ Sk (Ws ++ Xs) Ts) : rJs V (zI τ 152 (nI Ws.length)) Sk Ws Ts ∧ mkE τ (zI τ 152 (nI Ws.length)) := by
  obtain ⟨j1, j2, j3, j4⟩ := J
  refine ⟨⟨j1.i (by decide), j2, ⟨rfl, ?_, fun k x e => ?_⟩, j4⟩, rfl, rfl⟩
  · have := j3.2.1
    rw [List.length_append] at this
    omega
  · exact j3.2.2 k x (by rw [List.getElem?_append_left (get_lt e)]; exact e)
theorem rJs.fm {τ' : zSt} (J : rJs V τ Sk Ws Ts) (g : gFm τ τ') : rJs V τ' Sk Ws Ts ∧ mkE τ τ' := by
  obtain ⟨j1, ⟨a1, a2, a3⟩, ⟨b1, b2, b3⟩, ⟨c1, c2, c3⟩⟩ := J
  refine ⟨⟨j1.tr (gQ.of g), ⟨(g.1 144 (by decide)).trans a1, a2, fun k x e => ?_⟩, ⟨(g.1 152 (by decide)).trans b1, b2, fun k x e => ?_⟩, ⟨(g.1 153 (by decide)).trans c1.1, by rw [g.1 154 (by decide)]; exact c1.2⟩, c2, fun k x e => ?_⟩, g.1 154 (by decide), g.2.2.1 100 (by decide) (by decide)⟩
  · rw [g.2.2.1 91 (by decide) (by decide), g.2.2.1 92 (by decide) (by decide)]; exact a3 k x e
  · rw [g.2.2.1 93 (by decide) (by decide), g.2.2.1 94 (by decide) (by decide), g.2.2.1 95 (by decide) (by decide), g.2.2.1 96 (by decide) (by decide), g.2.2.2]; exact b3 k x e
  · rw [g.2.2.1 97 (by decide) (by decide), g.2.2.1 98 (by decide) (by decide)]; exact c3 k x e
/-- open(m, is) -/
theorem r_open {m : Int32} {h : Bool} (J : rJs V τ Sk Ws Ts) (hl : Sk.length < 100) : ∃ τ', zF h0 qs ks T (n + 1) 99 [.ref h0, .int m, .int (b01 h)] τ = some (none, τ') ∧ rJs V τ' (Sk ++ [(m, h)]) Ws Ts ∧ mkE τ τ' := by
  obtain ⟨p1, p2⟩ := J.push (m := m) (h := h) hl
  refine ⟨_, ?_, p1, p2⟩
  have e144 : τ.1 144 = nI Sk.length := J.2.1.1
  rw [zE_open]
  unfold b_open j_open_27
  have e1 : (zA τ 91 (upd (τ.2.2.1 91) Sk.length m)).1 144 = nI Sk.length := e144
  simp only [e144, zgd, zin_n (show Sk.length < 300 by omega) (by decide), if_true, nI_clamp (show Sk.length < 2 ^ 31 by omega), zlet, e1]
  have e2 : ∀ v, (zA (zA τ 91 (upd (τ.2.2.1 91) Sk.length m)) 92 v).1 144 = nI Sk.length := fun _ => e144
  simp only [e2, nI_p1]
  cases h
  · rw [if_pos (show b01 false = 0 by decide)]; rfl
  · rw [if_neg (show ¬ b01 true = 0 by decide)]; rfl
/-- columnOf() of a NAME that has one -/
theorem r_col {d k : Nat} (hd : d < 1501) (hk : k < 2 ^ 31) (h : τ.2.2.1 89 d = nI k) : zF h0 qs ks T (n + 1) 85 [.ref h0, .int (nI d)] τ = some (some (.int (nI k)), τ) := by
  rw [zE_columnOf]
  unfold b_columnOf
  simp only [zgd, zin_n hd (by decide), if_true, nI_clamp (show d < 2 ^ 31 by omega), h, nI_neg1 hk, if_false]
theorem r_way {w : oWy} (J : rJs V τ Sk Ws Ts) (hl : Ws.length < 300) : ∃ τ', zF h0 qs ks T (n + 1) 96 [.ref h0, .int (nI w.1), .int w.2.1, .int (nI w.2.2.1), .int w.2.2.2.1, .long w.2.2.2.2] τ = some (none, τ') ∧ rJs V τ' Sk (Ws ++ [w]) Ts ∧ mkE τ τ' ∧ τ'.1 63 = τ.1 63 ∧ τ'.2.1 64 = τ.2.1 64 ∧ τ'.2.2.1 40 = τ.2.2.1 40 ∧ τ'.2.2.1 41 = τ.2.2.1 41 := by
  refine ⟨_, ?_, J.way (w := w) hl, ⟨rfl, rfl⟩, rfl, rfl, rfl, rfl⟩
  have e152 : τ.1 152 = nI Ws.length := J.2.2.1.1
  rw [zE_way]
  unfold b_way
  have e1 : ∀ v, (zA τ 93 v).1 152 = nI Ws.length := fun _ => e152
  have e2 : ∀ v u, (zA (zA τ 93 v) 94 u).1 152 = nI Ws.length := fun _ _ => e152
  have e3 : ∀ v u x, (zA (zA (zA τ 93 v) 94 u) 95 x).1 152 = nI Ws.length := fun _ _ _ => e152
  have e4 : ∀ v u x y, (zA (zA (zA (zA τ 93 v) 94 u) 95 x) 96 y).1 152 = nI Ws.length := fun _ _ _ _ => e152
  have e5 : ∀ v u x y z, (zG (zA (zA (zA (zA τ 93 v) 94 u) 95 x) 96 y) 99 z).1 152 = nI Ws.length := fun _ _ _ _ _ => e152
  simp only [e152, e1, e2, e3, e4, e5, zgd, zin_n hl (by decide), if_true, nI_clamp (show Ws.length < 2 ^ 31 by omega), zlet, nI_p1]
  rfl
end GOS
