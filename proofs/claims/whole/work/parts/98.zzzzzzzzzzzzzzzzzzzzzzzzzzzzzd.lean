/-! run(): the machine's values have their types -/
def xmPw (t : tT) : Nat := match t with
  | .leaf => 0
  | .inner g d _ _ _ => if g = 3 then d.1 + 1 else d.1 + 3
theorem xmPa_r (t : tT) : xmPa t = List.range' (xmPw t) (xmWa t) := by
  cases t with
  | leaf => rfl
  | inner g d z a b =>
    by_cases c : g = 3
    · show (if g = 3 then [d.1 + 1] else List.range' (d.1 + 3) d.2.1) = List.range' (if g = 3 then d.1 + 1 else d.1 + 3) (if g = 3 then 1 else d.2.1)
      rw [if_pos c, if_pos c, if_pos c]
      rfl
    · show (if g = 3 then [d.1 + 1] else List.range' (d.1 + 3) d.2.1) = List.range' (if g = 3 then d.1 + 1 else d.1 + 3) (if g = 3 then 1 else d.2.1)
      rw [if_neg c, if_neg c, if_neg c]
/-- an index -/
def xmIn (n : Nat) (v : Int64) : Prop := ∃ i, i < n ∧ v = xmNi i
/-- lets that wait since the last call -/
def xmSg : List xmFr → Nat
  | [] => 0
  | .inl _ :: fr => xmSg fr + 1
  | .inr _ :: _ => 0
/-- a C: its relations, its truths -/
def xcR : tT → Prop
  | .leaf => True
  | .inner g d _ a b => (g = 25 → d.2.2.1 ≤ 5) ∧ (g = 23 → d.2.1 ≤ 1) ∧ xcR a ∧ xcR b
/-- a call has an ARG -/
def tC1 : tT → Prop
  | .leaf => True
  | .inner g _ _ a b => (g = 15 → a ≠ .leaf ∧ tQn a ≤ 4) ∧ (if g = 4 ∨ g = 5 then xcR a ∧ kD a ≤ 1300 else tC1 a) ∧ tC1 b
section XMT
variable (cnt : Nat) (kk f pp ee : Nat → Int32) (tE tN : Nat → tY) (R : Nat → Int32) (L : List Nat) (y0 : tY)
def xmTn (t : tT) : tY := match t with
  | .leaf => .leaf
  | .inner g d _ _ _ => if g = 3 then tE d.1 else tN (d.1 + 2)
def xmP (t : tT) : Prop := tF3 t ∧ tR1 t ∧ tGd kk cnt t ∧ tKn kk t ∧ tO3 t ∧ tSn kk t ∧ tC1 t
/-- an E that can be run -/
def xmE (t : tT) (env : List Nat) (y : tY) : Prop := (gOk f pp ee tE tN t env y ∧ rWo f pp ee R L t env) ∧ (tWf kk cnt t 0 ∧ xmP cnt kk t) ∧ (env.Nodup ∧ (tW t).Nodup ∧ ∀ u, u ∈ tW t → u ∉ env) ∧ (∀ u, u ∈ env → rTo R L u) ∧ rEv L t env
/-- a value of a type -/
def xmT (h : xmHp) (y : tY) (v : xmV) : Prop := (yK y = 2 ∧ v.1 = 0 ∧ xmB v.2 = true) ∨ (yK y = 3 ∧ v.1 = 1) ∨ (yK y = 4 ∧ v.1 = 2 ∧ xmIn h.2.1.length v.2) ∨ (yK y = 5 ∧ v.1 = 4 ∧ (v.2 = -1 ∨ xmIn h.2.2.length v.2)) ∨ (yK y = 1 ∧ v.1 = 3 ∧ ∃ i fn, v.2 = xmNi i ∧ h.1[i]? = some fn ∧ y = yRs fn.2.2.2.length (xmTn tE tN fn.1))
/-- NAMES that count have values of their types -/
def xmEn (h : xmHp) (env : List Nat) (vs : List xmV) : Prop := vs.length = env.length ∧ ∀ (k u : Nat) (v : xmV), env[k]? = some u → vs[k]? = some v → xmT tE tN h (tN u) v
/-- a function of the heap -/
def xmFo (h : xmHp) (fn : xmFn) : Prop := (∃ g d z a b, fn.1 = .inner g d z a b ∧ ((g = 2 ∨ g = 3) ∧ tWf kk cnt fn.1 0) ∧ ∃ r, xmE cnt kk f pp ee tE tN R L a (fn.2.1 ++ List.range' (xmPw fn.1) (xmWa fn.1)) r ∧ xmTn tE tN fn.1 = gFn tN (xmWa fn.1) (xmPw fn.1) r ∧ tH a ≤ 31) ∧ (1 ≤ xmWa fn.1 ∧ xmWa fn.1 ≤ 4 ∧ fn.2.2.2.length < xmWa fn.1) ∧ xmEn tE tN h fn.2.1 fn.2.2.1 ∧ ∀ (k : Nat) (v : xmV), fn.2.2.2[k]? = some v → xmT tE tN h (tN (xmPw fn.1 + k)) v
/-- the heap -/
def xmH (h : xmHp) : Prop := (∀ fn, fn ∈ h.1 → xmFo cnt kk f pp ee tE tN R L h fn) ∧ ((∀ a, a ∈ h.2.1 → a.length ≤ 1000 ∧ ∀ x, x ∈ a → xmB x = true) ∧ xmTot h ≤ 10000) ∧ ∀ (i : Nat) (c : Int64 × Int64 × Nat), h.2.2[i]? = some c → xmB c.1 = true ∧ (c.2.1 = -1 ∨ xmIn i c.2.1) ∧ c.2.2 ≤ i + 1
/-- ARGS for what has the type y -/
def xmAr (h : xmHp) : tY → List xmV → Prop
  | _, [] => True
  | y, v :: vs => yIs y ∧ xmT tE tN h (yL y) v ∧ xmAr h (yR y) vs
/-- what waits for a value of the type y -/
def xmK (h : xmHp) : tY → List xmFr → Prop
  | y, [] => y = y0
  | y, .inl x :: fr => tN x.1 = y ∧ ∃ yb, xmE cnt kk f pp ee tE tN R L x.2.1 (x.2.2.1 ++ [x.1]) yb ∧ xmEn tE tN h x.2.2.1 x.2.2.2 ∧ tH x.2.1 + xmSg fr ≤ 30 ∧ xmK h yb fr
  | y, .inr rest :: fr => xmAr tE tN h y rest ∧ xmK h (yRs rest.length y) fr
/-- **all of it** -/
def xmI (m : xmM) : Prop := xmH cnt kk f pp ee tE tN R L m.1 ∧ xmDp m.2.1 ≤ 50 ∧ match m.2.2.2 with
  | .inl x => ∃ y, xmE cnt kk f pp ee tE tN R L x.1 x.2.1 y ∧ xmEn tE tN m.1 x.2.1 x.2.2 ∧ tH x.1 + xmSg m.2.1 ≤ 31 ∧ xmK cnt kk f pp ee tE tN R L y0 m.1 y m.2.1
  | .inr v => ∃ y, xmT tE tN m.1 y v ∧ xmK cnt kk f pp ee tE tN R L y0 m.1 y m.2.1
end XMT
/-- the heap grows -/
def xmLe (h h' : xmHp) : Prop := (∃ l, h'.1 = h.1 ++ l) ∧ h.2.1.length ≤ h'.2.1.length ∧ h.2.2.length ≤ h'.2.2.length
section XMU
variable {cnt : Nat} {kk f pp ee : Nat → Int32} {tE tN : Nat → tY} {R : Nat → Int32} {L : List Nat} {y0 : tY} {h h' : xmHp} {env : List Nat} {vs : List xmV} {y : tY} {v : xmV} {t : tT}
theorem xmLe.rf (h : xmHp) : xmLe h h := ⟨⟨[], (List.append_nil _).symm⟩, Nat.le_refl _, Nat.le_refl _⟩
theorem xmLe.tr {a b c : xmHp} (h1 : xmLe a b) (h2 : xmLe b c) : xmLe a c := by
  obtain ⟨⟨l1, e1⟩, x1, y1⟩ := h1
  obtain ⟨⟨l2, e2⟩, x2, y2⟩ := h2
  exact ⟨⟨l1 ++ l2, by rw [e2, e1, List.append_assoc]⟩, by omega, by omega⟩
theorem xmLe.nf (h : xmHp) (fn : xmFn) : xmLe h (xmNf h fn) := ⟨⟨[fn], rfl⟩, Nat.le_refl _, Nat.le_refl _⟩
theorem xmIn.mo {n m : Nat} {v : Int64} (h : xmIn n v) (k : n ≤ m) : xmIn m v := by
  obtain ⟨i, a, b⟩ := h
  exact ⟨i, by omega, b⟩
theorem xget_ap {α : Type} {l m : List α} {i : Nat} {x : α} (h : l[i]? = some x) : (l ++ m)[i]? = some x := by
  have hi : i < l.length := by
    by_cases c : i < l.length
    · exact c
    · rw [List.getElem?_eq_none (by omega)] at h; cases h
  rw [List.getElem?_append_left hi]; exact h
theorem xget_lt {α : Type} {l : List α} {i : Nat} {x : α} (h : l[i]? = some x) : i < l.length := by
  by_cases c : i < l.length
  · exact c
  · rw [List.getElem?_eq_none (by omega)] at h; cases h
theorem xmT.mo (k : xmLe h h') (w : xmT tE tN h y v) : xmT tE tN h' y v := by
  rcases w with w | w | ⟨a, b, c⟩ | ⟨a, b, c⟩ | ⟨a, b, i, fn, e1, e2, e3⟩
  · exact Or.inl w
  · exact Or.inr (Or.inl w)
  · exact Or.inr (Or.inr (Or.inl ⟨a, b, c.mo k.2.1⟩))
  · exact Or.inr (Or.inr (Or.inr (Or.inl ⟨a, b, c.imp id (fun z => z.mo k.2.2)⟩)))
  · obtain ⟨l, e⟩ := k.1
    exact Or.inr (Or.inr (Or.inr (Or.inr ⟨a, b, i, fn, e1, by rw [e]; exact xget_ap e2, e3⟩)))
theorem xmEn.mo (k : xmLe h h') (w : xmEn tE tN h env vs) : xmEn tE tN h' env vs := ⟨w.1, fun i u v a b => (w.2 i u v a b).mo k⟩
theorem xmFo.mo {fn : xmFn} (k : xmLe h h') (w : xmFo cnt kk f pp ee tE tN R L h fn) : xmFo cnt kk f pp ee tE tN R L h' fn := ⟨w.1, w.2.1, w.2.2.1.mo k, fun i v a => (w.2.2.2 i v a).mo k⟩
theorem xmAr.mo (k : xmLe h h') : ∀ (l : List xmV) (y : tY), xmAr tE tN h y l → xmAr tE tN h' y l
  | [], _, _ => trivial
  | v :: l, y, w => ⟨w.1, w.2.1.mo k, xmAr.mo k l (yR y) w.2.2⟩
theorem xmK.mo (k : xmLe h h') : ∀ (fr : List xmFr) (y : tY), xmK cnt kk f pp ee tE tN R L y0 h y fr → xmK cnt kk f pp ee tE tN R L y0 h' y fr
  | [], _, w => w
  | .inl x :: fr, y, w => by
    obtain ⟨a, yb, b1, b2, b3, b4⟩ := w
    exact ⟨a, yb, b1, b2.mo k, b3, xmK.mo k fr yb b4⟩
  | .inr rest :: fr, y, w => ⟨w.1.mo k, xmK.mo k fr _ w.2⟩
/-- how many wait -/
theorem xmE.h1 (w : xmE cnt kk f pp ee tE tN R L t env y) : 1 ≤ tH t := by
  have q := w.2.1.1
  cases t with
  | leaf => cases q
  | inner g d z a b =>
    rcases q with ⟨z, -⟩ | ⟨z, -⟩ | ⟨-, q⟩
    · cases z
    · cases z
    · have hg : ¬ (g = 31 ∨ g = 33 ∨ g = 34 ∨ g = 35) := by omega
      show 1 ≤ (if g = 31 ∨ g = 33 ∨ g = 34 ∨ g = 35 then _ else if g = 4 ∨ g = 5 then tH b + 1 else max (tH a) (tH b) + 1)
      rw [if_neg hg]
      split <;> omega
theorem xmK.len : ∀ (fr : List xmFr) (y : tY), xmK cnt kk f pp ee tE tN R L y0 h y fr → fr.length ≤ 32 * xmDp fr + xmSg fr ∧ xmSg fr ≤ 31
  | [], _, _ => ⟨Nat.zero_le _, Nat.zero_le _⟩
  | .inl x :: fr, y, w => by
    obtain ⟨a, yb, b1, b2, b3, b4⟩ := w
    obtain ⟨i1, i2⟩ := xmK.len fr yb b4
    have := b1.h1
    have e : xmDp (.inl x :: fr) = xmDp fr := rfl
    have s : xmSg (.inl x :: fr) = xmSg fr + 1 := rfl
    rw [e, s, List.length_cons]
    omega
  | .inr rest :: fr, y, w => by
    obtain ⟨i1, i2⟩ := xmK.len fr _ w.2
    have e : xmDp (.inr rest :: fr) = xmDp fr + 1 := rfl
    have s : xmSg (.inr rest :: fr) = 0 := rfl
    rw [e, s, List.length_cons]
    omega
theorem xmP.a {g : Nat} {d : Nat × Nat × Nat × tS × tS} {z : Unit} {a b : tT} (w : xmP cnt kk (.inner g d z a b)) (c : ¬ (g = 4 ∨ g = 5)) : xmP cnt kk a := by
  obtain ⟨⟨-, a1, -⟩, ⟨-, a2, -⟩, ⟨-, -, -, a3, -⟩, ⟨-, a4, -⟩, ⟨-, -, a5, -⟩, ⟨-, a6, -⟩, ⟨-, a7, -⟩⟩ := w
  rw [if_neg c] at a1 a2 a4 a6 a7
  exact ⟨a1, a2, a3, a4, a5, a6, a7⟩
theorem xmP.b {g : Nat} {d : Nat × Nat × Nat × tS × tS} {z : Unit} {a b : tT} (w : xmP cnt kk (.inner g d z a b)) : xmP cnt kk b := by
  obtain ⟨⟨-, -, a1⟩, ⟨-, -, a2⟩, ⟨-, -, -, -, a3⟩, ⟨-, -, a4⟩, ⟨-, -, -, a5⟩, ⟨-, -, a6⟩, ⟨-, -, a7⟩⟩ := w
  exact ⟨a1, a2, a3, a4, a5, a6, a7⟩
/-- the value of a NAME has its type -/
theorem xmEn.get {w : Nat} (H : xmEn tE tN h env vs) (hu : rUs f pp ee R L env w) : (env[env.idxOf (gNu f pp ee env w)]? = some (gNu f pp ee env w) ∧ vs[env.idxOf (gNu f pp ee env w)]? = some (xmGet f pp ee env vs w)) ∧ gNu f pp ee env w ∈ env ∧ xmT tE tN h (tN (gNu f pp ee env w)) (xmGet f pp ee env vs w) := by
  obtain ⟨n, u, -, -, e⟩ := hu
  obtain ⟨k, hk, ek⟩ := nFind_mem e
  have eu : gNu f pp ee env w = u := by unfold gNu; rw [e]; rfl
  unfold xmGet
  rw [eu]
  have hm : u ∈ env := List.mem_of_getElem? ek
  have hi : env.idxOf u < env.length := List.idxOf_lt_length_of_mem hm
  have e1 : env[env.idxOf u]? = some u := by rw [List.getElem?_eq_getElem hi, List.getElem_idxOf hi]
  have hv : env.idxOf u < vs.length := by rw [H.1]; exact hi
  have e2 : vs.getD (env.idxOf u) (0, 0) = vs[env.idxOf u] := by
    rw [List.getD_eq_getElem?_getD, List.getElem?_eq_getElem hv]
    rfl
  rw [e2]
  exact ⟨⟨e1, List.getElem?_eq_getElem hv⟩, hm, H.2 _ u _ e1 (List.getElem?_eq_getElem hv)⟩
end XMU
