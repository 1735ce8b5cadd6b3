/-! run(), the reference: chains of slots -/
/-- a chain of slots below c: names and values -/
def rCh (τ : zSt) (c : Nat) : List (Int32 × xmV) → Int32 → Prop
  | [], k => k = -1
  | x :: l, k => ∃ i, k = nI i ∧ i < c ∧ (τ.2.2.1 105 i = x.1 ∧ τ.2.2.1 106 i = nI x.2.1 ∧ τ.2.2.2 108 i = x.2.2) ∧ rCh τ c l (τ.2.2.1 107 i)
/-- the slots below c are as they were -/
def rSk (τ τ' : zSt) (c : Nat) : Prop := ∀ i, i < c → τ'.2.2.1 105 i = τ.2.2.1 105 i ∧ τ'.2.2.1 106 i = τ.2.2.1 106 i ∧ τ'.2.2.1 107 i = τ.2.2.1 107 i ∧ τ'.2.2.2 108 i = τ.2.2.2 108 i
theorem rSk.rf (τ : zSt) (c : Nat) : rSk τ τ c := fun _ _ => ⟨rfl, rfl, rfl, rfl⟩
theorem rSk.tr {a b d : zSt} {c c' : Nat} (h : rSk a b c) (g : rSk b d c') (hc : c ≤ c') : rSk a d c := fun i hi => by
  obtain ⟨h1, h2, h3, h4⟩ := h i hi
  obtain ⟨g1, g2, g3, g4⟩ := g i (by omega)
  exact ⟨g1.trans h1, g2.trans h2, g3.trans h3, g4.trans h4⟩
theorem rCh.kp {τ τ' : zSt} {c : Nat} (g : rSk τ τ' c) {c' : Nat} (hc : c ≤ c') : ∀ (l : List (Int32 × xmV)) (k : Int32), rCh τ c l k → rCh τ' c' l k
  | [], _, h => h
  | x :: l, k, h => by
    obtain ⟨i, e, hi, ⟨h1, h2, h3⟩, h4⟩ := h
    obtain ⟨g1, g2, g3, g4⟩ := g i hi
    exact ⟨i, e, by omega, ⟨g1.trans h1, g2.trans h2, g4.trans h3⟩, by rw [g3]; exact rCh.kp g hc l _ h4⟩
/-- what slot() makes -/
def slS (τ : zSt) (c : Nat) (x1 x2 x3 : Int32) (x4 : Int64) : zSt := (fun k => if k = 171 then nI (c + 1) else τ.1 k, τ.2.1, fun k => if k = 105 then upd (τ.2.2.1 105) c x2 else if k = 106 then upd (τ.2.2.1 106) c x3 else if k = 107 then upd (τ.2.2.1 107) c x1 else τ.2.2.1 k, fun k => if k = 108 then vp_updL (τ.2.2.2 108) c x4 else τ.2.2.2 k)
section XRS
variable {ks : Nat → Nat} {qs : List Nat} {T h0 n c : Nat} {τ : zSt} {x1 x2 x3 : Int32} {x4 : Int64}
theorem r_slot (h : τ.1 171 = nI c) (hc : c < 260000) : zF h0 qs ks T (n + 1) 121 [.ref h0, .int x1, .int x2, .int x3, .long x4] τ = some (some (.int (nI c)), slS τ c x1 x2 x3 x4) := by
  have z1 : zin (nI c) 260000 = true := zin_n hc (by decide)
  have cl : (nI c).toNatClampNeg = c := nI_clamp (by omega)
  have e1 : nI c + 1 - 1 = nI c := nI_pm c
  have e2 : nI c + 1 = nI (c + 1) := nI_p1 c
  rw [zE_slot]
  unfold b_slot
  simp only [zlet, zA, zI, zG, h, z1, zgd, if_true, cl, if_false, e1, e2, show ¬ (105 : Nat) = 106 by decide, show ¬ (105 : Nat) = 107 by decide, show ¬ (106 : Nat) = 105 by decide, show ¬ (106 : Nat) = 107 by decide, show ¬ (107 : Nat) = 105 by decide, show ¬ (107 : Nat) = 106 by decide]
  congr 2
  · congr 1
    rw [← e2, e1]
  · unfold slS
    refine Prod.ext ?_ (Prod.ext rfl (Prod.ext ?_ ?_))
    · funext k
      rfl
    · funext k
      dsimp only
      by_cases c5 : k = 105
      · subst c5; rfl
      · by_cases c6 : k = 106
        · subst c6; rfl
        · by_cases c7 : k = 107
          · subst c7; rfl
          · simp only [c5, c6, c7, if_false]
    · funext k
      rfl
theorem slS_sk (τ : zSt) (c : Nat) (x1 x2 x3 : Int32) (x4 : Int64) : rSk τ (slS τ c x1 x2 x3 x4) c := fun i hi => by
  have : ¬ i = c := by omega
  refine ⟨?_, ?_, ?_, ?_⟩
  · show upd (τ.2.2.1 105) c x2 i = _
    simp only [upd, if_neg this]
  · show upd (τ.2.2.1 106) c x3 i = _
    simp only [upd, if_neg this]
  · show upd (τ.2.2.1 107) c x1 i = _
    simp only [upd, if_neg this]
  · show vp_updL (τ.2.2.2 108) c x4 i = _
    rw [vp_L, if_neg this]
theorem slS_at (τ : zSt) (c : Nat) (x1 x2 x3 : Int32) (x4 : Int64) : (slS τ c x1 x2 x3 x4).2.2.1 105 c = x2 ∧ (slS τ c x1 x2 x3 x4).2.2.1 106 c = x3 ∧ (slS τ c x1 x2 x3 x4).2.2.1 107 c = x1 ∧ (slS τ c x1 x2 x3 x4).2.2.2 108 c = x4 := by
  refine ⟨?_, ?_, ?_, ?_⟩
  · show upd (τ.2.2.1 105) c x2 c = _
    simp only [upd, if_true]
  · show upd (τ.2.2.1 106) c x3 c = _
    simp only [upd, if_true]
  · show upd (τ.2.2.1 107) c x1 c = _
    simp only [upd, if_true]
  · show vp_updL (τ.2.2.2 108) c x4 c = _
    rw [vp_L, if_pos rfl]
/-- a slot ahead of a chain -/
theorem rCh.sl {l : List (Int32 × xmV)} {k nm : Int32} {v : xmV} (h : rCh τ c l k) : rCh (slS τ c k nm (nI v.1) v.2) (c + 1) ((nm, v) :: l) (nI c) := by
  obtain ⟨a1, a2, a3, a4⟩ := slS_at τ c k nm (nI v.1) v.2
  exact ⟨c, rfl, by omega, ⟨a1, a2, a4⟩, by rw [a3]; exact rCh.kp (slS_sk τ c k nm (nI v.1) v.2) (by omega) l k h⟩
theorem r_fnd0 (hc : c ≤ 260000) : ∀ (l : List (Int32 × xmV)) (k nm : Int32) (x : xmV) (pre post : List (Int32 × xmV)) (t : Nat), l = pre ++ (nm, x) :: post → (∀ p, p ∈ pre → p.1 ≠ nm) → rCh τ c l k → l.length < t → ∃ i, l_find_2 T (zF h0 qs ks T n) h0 qs ks t nm k τ = some (some (.int (nI i)), τ) ∧ i < c ∧ τ.2.2.1 106 i = nI x.1 ∧ τ.2.2.2 108 i = x.2
  | [], k, nm, x, pre, post, t, e, _, _, _ => by cases pre <;> cases e
  | y :: l, k, nm, x, pre, post, t, e, hp, h, ht => by
    obtain ⟨i, ek, hi, ⟨h1, h2, h3⟩, h4⟩ := h
    obtain ⟨t, rfl⟩ : ∃ s, t = s + 1 := ⟨t - 1, by rw [List.length_cons] at ht; omega⟩
    have z1 : zin (nI i) 260000 = true := zin_n (by omega) (by decide)
    have cl : (nI i).toNatClampNeg = i := nI_clamp (by omega)
    subst ek
    rw [l_find_2, zgd_at z1, cl, h1]
    cases pre with
    | nil =>
      injection e with e1 e2
      subst e1
      rw [if_pos rfl]
      exact ⟨i, rfl, hi, h2, h3⟩
    | cons p pre =>
      injection e with e1 e2
      subst e1
      rw [if_neg (hp y (List.mem_cons_self ..)), zgd_at z1]
      exact r_fnd0 hc l _ nm x pre post t e2 (fun p h => hp p (List.mem_cons_of_mem _ h)) h4 (by rw [List.length_cons] at ht; omega)
/-- find() -/
theorem r_fnd {l : List (Int32 × xmV)} {k nm : Int32} {x : xmV} {pre post : List (Int32 × xmV)} (hc : c ≤ 260000) (e : l = pre ++ (nm, x) :: post) (hp : ∀ p, p ∈ pre → p.1 ≠ nm) (h : rCh τ c l k) (hT : l.length < T) : ∃ i, zF h0 qs ks T (n + 1) 122 [.ref h0, .int k, .int nm] τ = some (some (.int (nI i)), τ) ∧ i < c ∧ τ.2.2.1 106 i = nI x.1 ∧ τ.2.2.2 108 i = x.2 := by
  rw [zE_find]
  unfold b_find
  exact r_fnd0 hc l k nm x pre post T e hp h hT
end XRS
/-- NAMES that count, in slots: each is found -/
def rEc (R : Nat → Int32) (τ : zSt) (c : Nat) (env : List Nat) (vs : List xmV) (k : Int32) : Prop := ∃ l, rCh τ c l k ∧ l.length = env.length ∧ ∀ (j u : Nat) (v : xmV), env[j]? = some u → vs[j]? = some v → ∃ pre post, l = pre ++ (R u, v) :: post ∧ ∀ p, p ∈ pre → p.1 ≠ R u
theorem rEc.kp {R : Nat → Int32} {τ τ' : zSt} {c c' : Nat} {env : List Nat} {vs : List xmV} {k : Int32} (g : rSk τ τ' c) (hc : c ≤ c') (h : rEc R τ c env vs k) : rEc R τ' c' env vs k := by
  obtain ⟨l, a, b⟩ := h
  exact ⟨l, rCh.kp g hc l k a, b⟩
section XRT
variable {R : Nat → Int32} {L : List Nat} {env : List Nat} {vs : List xmV}
theorem rTo_inj {u v : Nat} (hL : L.length < 2 ^ 31) (hu : rTo R L u) (hv : rTo R L v) (e : R u = R v) : u = v := by
  obtain ⟨a, a1, a2⟩ := hu
  obtain ⟨b, b1, b2⟩ := hv
  have la := xget_lt a2
  have lb := xget_lt b2
  rw [a1, b1] at e
  have ab : a = b := nI_inj' (by omega) (by omega) e
  subst ab
  rw [a2] at b2
  injection b2
/-- one NAME more -/
theorem rEc.sn {τ : zSt} {c u : Nat} {k : Int32} {v : xmV} (h : rEc R τ c env vs k) (hL : L.length < 2 ^ 31) (hto : ∀ w, w ∈ env → rTo R L w) (hu : rTo R L u) (hn : u ∉ env) (hl : vs.length = env.length) : rEc R (slS τ c k (R u) (nI v.1) v.2) (c + 1) (env ++ [u]) (vs ++ [v]) (nI c) := by
  obtain ⟨l, a, b, d⟩ := h
  refine ⟨(R u, v) :: l, rCh.sl a, by rw [List.length_cons, List.length_append, b]; rfl, fun j w x ew ex => ?_⟩
  by_cases cj : j < env.length
  · rw [List.getElem?_append_left cj] at ew
    rw [List.getElem?_append_left (by omega)] at ex
    obtain ⟨pre, post, e1, e2⟩ := d j w x ew ex
    have hw := List.mem_of_getElem? ew
    refine ⟨(R u, v) :: pre, post, by rw [e1]; rfl, fun p hp => ?_⟩
    rcases List.mem_cons.mp hp with q | q
    · rw [q]
      intro z
      have z : R u = R w := z
      rw [rTo_inj hL hu (hto w hw) z] at hn
      exact hn hw
    · exact e2 p q
  · rw [List.getElem?_append_right (by omega)] at ew
    rw [List.getElem?_append_right (by omega), hl] at ex
    cases hj : j - env.length with
    | zero =>
      rw [hj] at ew ex
      injection ew with ew
      injection ex with ex
      subst ew ex
      exact ⟨[], l, rfl, fun p hp => by cases hp⟩
    | succ i =>
      rw [hj] at ew
      cases ew
end XRT
