/-! instanceTerm() of the reference, and leaf()'s questions -/
/-- name, times, number, whether something was put in -/
abbrev oU : Type := Int32 × Int32 × Int64 × Int32
abbrev oPu : Type := Int32 × Int32 × Int32 × Int64
def uOf (τ : zSt) : oU := (τ.1 138, τ.1 139, τ.2.1 140, τ.1 141)
def uFm (τ τ' : zSt) : Prop := (∀ k, k ≠ 138 → k ≠ 139 → k ≠ 141 → τ'.1 k = τ.1 k) ∧ (∀ k, k ≠ 140 → τ'.2.1 k = τ.2.1 k) ∧ τ'.2.2 = τ.2.2
theorem uFm.rf (τ : zSt) : uFm τ τ := ⟨fun _ _ _ _ => rfl, fun _ _ => rfl, rfl⟩
theorem uFm.tr {a b c : zSt} (h : uFm a b) (g : uFm b c) : uFm a c := ⟨fun k x y z => (g.1 k x y z).trans (h.1 k x y z), fun k x => (g.2.1 k x).trans (h.2.1 k x), g.2.2.trans h.2.2⟩
/-- what is put in, the newest first -/
def rPu (V : zSt) : Int32 → List oPu → Prop
  | l, [] => ¬ 0 ≤ l
  | l, p :: Rs => ∃ i, (l = nI i ∧ i < 24000) ∧ V.2.2.1 55 i = p.1 ∧ V.2.2.1 56 i = p.2.1 ∧ V.2.2.1 57 i = p.2.2.1 ∧ V.2.2.2 59 i = p.2.2.2 ∧ rPu V (V.2.2.1 58 i) Rs
/-- the oldest that fits is put in, once -/
def pIn : List oPu → oU → oU
  | [], u => u
  | p :: Rs, u => if (pIn Rs u).2.2.2 = 0 ∧ (pIn Rs u).2.1 ≠ 0 ∧ (pIn Rs u).1 = p.1 then (if (pIn Rs u).2.1 * p.2.2.1 = 0 then -1 else p.2.1, (pIn Rs u).2.1 * p.2.2.1, (pIn Rs u).2.2.1 + (pIn Rs u).2.1.toInt64 * p.2.2.2, 1) else pIn Rs u
theorem rPu.cg {V τ : zSt} (h : τ.2.2 = V.2.2) : ∀ (Rs : List oPu) (l : Int32), rPu V l Rs → rPu τ l Rs
  | [], l, w => w
  | p :: Rs, l, ⟨i, a, b, c, d, e, f⟩ => ⟨i, a, by rw [h]; exact b, by rw [h]; exact c, by rw [h]; exact d, by rw [h]; exact e, by rw [h]; exact rPu.cg h Rs _ f⟩
section PUT
variable {ks : Nat → Nat} {qs : List Nat} {T h0 : Nat}
theorem r_putIn : ∀ (Rs : List oPu) (n : Nat) (l : Int32) (τ : zSt), rPu τ l Rs → Rs.length + 1 ≤ n → ∃ τ', zF h0 qs ks T n 91 [.ref h0, .int l] τ = some (none, τ') ∧ uFm τ τ' ∧ uOf τ' = pIn Rs (uOf τ)
  | [], n, l, τ, h, hn => by
    obtain ⟨n, rfl⟩ : ∃ n', n = n' + 1 := ⟨n - 1, by omega⟩
    refine ⟨τ, ?_, uFm.rf τ, rfl⟩
    rw [zE_putIn]
    unfold b_putIn
    rw [if_neg h]
  | p :: Rs, n, l, τ, h, hn => by
    obtain ⟨i, ⟨rfl, hi⟩, b, c, d, e, f⟩ := h
    obtain ⟨n, rfl⟩ : ∃ n', n = n' + 1 := ⟨n - 1, by omega⟩
    obtain ⟨s3, a1, a2, a3⟩ := r_putIn Rs n _ τ f (by simp only [List.length_cons] at hn; omega)
    have r55 : s3.2.2.1 55 i = p.1 := by rw [a2.2.2]; exact b
    have r56 : s3.2.2.1 56 i = p.2.1 := by rw [a2.2.2]; exact c
    have r57 : s3.2.2.1 57 i = p.2.2.1 := by rw [a2.2.2]; exact d
    have r59 : s3.2.2.2 59 i = p.2.2.2 := by rw [a2.2.2]; exact e
    have go : zF h0 qs ks T (n + 1) 91 [.ref h0, .int (nI i)] τ = if s3.1 141 = 0 then (if s3.1 139 = 0 then some (none, s3) else if s3.1 138 = p.1 then (if s3.1 139 * p.2.2.1 = 0 then some (none, zI (zI (zJ (zI s3 141 1) 140 (s3.2.1 140 + (s3.1 139).toInt64 * p.2.2.2)) 139 (s3.1 139 * p.2.2.1)) 138 (-1)) else some (none, zI (zI (zJ (zI s3 141 1) 140 (s3.2.1 140 + (s3.1 139).toInt64 * p.2.2.2)) 139 (s3.1 139 * p.2.2.1)) 138 p.2.1)) else some (none, s3)) else some (none, s3) := by
      rw [zE_putIn]
      unfold b_putIn
      rw [if_pos (show (0 : Int32) ≤ nI i from nI_le (a := 0) (by omega) (by omega))]
      simp only [zgd, zin_n hi (by decide), if_true, nI_clamp (show i < 2 ^ 31 by omega)]
      rw [a1, zcv_at]
      simp only [r55, zlet]
      have x1 : (zI s3 141 1).1 139 = s3.1 139 := rfl
      have x2 : (zI s3 141 1).2.1 140 = s3.2.1 140 := rfl
      have x3 : (zI s3 141 1).2.2.2 59 i = p.2.2.2 := r59
      simp only [x1, x2, x3]
      have x4 : ∀ v, (zJ (zI s3 141 1) 140 v).1 139 = s3.1 139 := fun _ => rfl
      have x5 : ∀ v, (zJ (zI s3 141 1) 140 v).2.2.1 57 i = p.2.2.1 := fun _ => r57
      simp only [x4, x5]
      have x6 : ∀ v w, (zI (zJ (zI s3 141 1) 140 v) 139 w).1 139 = w := fun v w => by simp [zI]
      have x7 : ∀ v w, (zI (zJ (zI s3 141 1) 140 v) 139 w).2.2.1 56 i = p.2.1 := fun _ _ => r56
      simp only [x6, x7]
    have fr : ∀ (a b : Int32) (v : Int64), uFm τ (zI (zI (zJ (zI s3 141 1) 140 v) 139 a) 138 b) ∧ uOf (zI (zI (zJ (zI s3 141 1) 140 v) 139 a) 138 b) = (b, a, v, 1) := fun a b v => by
      refine ⟨⟨fun k k1 k2 k3 => ?_, fun k k1 => ?_, a2.2.2⟩, ?_⟩
      · show (if k = 138 then b else if k = 139 then a else if k = 141 then 1 else s3.1 k) = _
        rw [if_neg k1, if_neg k2, if_neg k3]
        exact a2.1 k k1 k2 k3
      · show (if k = 140 then v else s3.2.1 k) = _
        rw [if_neg k1]
        exact a2.2.1 k k1
      · simp [uOf, zI, zJ]
    have e138 : s3.1 138 = (pIn Rs (uOf τ)).1 := congrArg Prod.fst a3
    have e139 : s3.1 139 = (pIn Rs (uOf τ)).2.1 := congrArg (fun u => u.2.1) a3
    have e140 : s3.2.1 140 = (pIn Rs (uOf τ)).2.2.1 := congrArg (fun u => u.2.2.1) a3
    have e141 : s3.1 141 = (pIn Rs (uOf τ)).2.2.2 := congrArg (fun u => u.2.2.2) a3
    rw [go, e138, e139, e140, e141, pIn]
    by_cases z1 : (pIn Rs (uOf τ)).2.2.2 = 0
    · rw [if_pos z1]
      by_cases z2 : (pIn Rs (uOf τ)).2.1 = 0
      · rw [if_pos z2, if_neg (fun w => w.2.1 z2)]
        exact ⟨s3, rfl, a2, a3⟩
      · rw [if_neg z2]
        by_cases z3 : (pIn Rs (uOf τ)).1 = p.1
        · rw [if_pos z3, if_pos (show (pIn Rs (uOf τ)).2.2.2 = 0 ∧ (pIn Rs (uOf τ)).2.1 ≠ 0 ∧ (pIn Rs (uOf τ)).1 = p.1 from ⟨z1, z2, z3⟩)]
          by_cases z4 : (pIn Rs (uOf τ)).2.1 * p.2.2.1 = 0
          · rw [if_pos z4]
            simp only [if_pos z4]
            exact ⟨_, rfl, (fr _ _ _).1, (fr _ _ _).2⟩
          · rw [if_neg z4]
            simp only [if_neg z4]
            exact ⟨_, rfl, (fr _ _ _).1, (fr _ _ _).2⟩
        · rw [if_neg z3, if_neg (fun w => z3 w.2.2)]
          exact ⟨s3, rfl, a2, a3⟩
    · rw [if_neg z1, if_neg (fun w => z1 w.1)]
      exact ⟨s3, rfl, a2, a3⟩
/-- termOf() -/
theorem r_termOf {Rs : List oPu} {n : Nat} {nm tm l : Int32} {nu : Int64} {τ : zSt} (h : rPu τ l Rs) (hn : Rs.length + 2 ≤ n) : ∃ τ', zF h0 qs ks T n 92 [.ref h0, .int nm, .int tm, .long nu, .int l] τ = some (none, τ') ∧ uFm τ τ' ∧ uOf τ' = pIn Rs (nm, if 0 ≤ nm then tm else 0, nu, 0) := by
  obtain ⟨n, rfl⟩ : ∃ n', n = n' + 1 := ⟨n - 1, by omega⟩
  have go : ∀ t : Int32, ∃ τ', j_termOf_15 T (zF h0 qs ks T n) h0 qs ks nu l t (zI τ 138 nm) = some (none, τ') ∧ uFm τ τ' ∧ uOf τ' = pIn Rs (nm, t, nu, 0) := fun t => by
    obtain ⟨τ', a1, a2, a3⟩ := r_putIn (ks := ks) (qs := qs) (T := T) (h0 := h0) Rs n l (zI (zJ (zI (zI τ 138 nm) 139 t) 140 nu) 141 0) (rPu.cg (V := τ) (τ := zI (zJ (zI (zI τ 138 nm) 139 t) 140 nu) 141 0) rfl Rs l h) (by omega)
    have fr : uFm τ (zI (zJ (zI (zI τ 138 nm) 139 t) 140 nu) 141 0) := by
      refine ⟨fun k k1 k2 k3 => ?_, fun k k1 => ?_, rfl⟩
      · show (if k = 141 then (0 : Int32) else if k = 139 then t else if k = 138 then nm else τ.1 k) = τ.1 k
        rw [if_neg k3, if_neg k2, if_neg k1]
      · show (if k = 140 then nu else τ.2.1 k) = τ.2.1 k
        rw [if_neg k1]
    refine ⟨τ', ?_, fr.tr a2, ?_⟩
    · unfold j_termOf_15
      simp only [zlet]
      rw [a1, zcv_at]
    · rw [a3]
      rfl
  rw [zE_termOf]
  unfold b_termOf
  simp only [zlet]
  by_cases z : 0 ≤ nm
  · rw [if_pos z, if_pos z]; exact go tm
  · rw [if_neg z, if_neg z]; exact go 0
/-- an INSTANCE's term -/
def iQ (V : zSt) (i : Nat) : Nat := (V.2.2.1 63 i).toNatClampNeg
def iU (V : zSt) (i : Nat) : oU := if V.2.2.1 25 (iQ V i) = 1 then (V.2.2.1 64 i, if 0 ≤ V.2.2.1 64 i then (if V.2.2.1 24 (iQ V i) = 1 then -1 else 1) else 0, (V.2.2.1 26 (iQ V i)).toInt64, 0) else (-1, 0, (V.2.2.1 26 (iQ V i)).toInt64, 0)
theorem r_insT {Rs : List oPu} {n i : Nat} {l : Int32} {τ : zSt} (hi : i < 8000) (hq : iQ τ i < 6 ∧ τ.2.2.1 63 i = nI (iQ τ i)) (h : rPu τ l Rs) (hn : Rs.length + 3 ≤ n) : ∃ τ', zF h0 qs ks T n 93 [.ref h0, .int (nI i), .int l] τ = some (none, τ') ∧ uFm τ τ' ∧ uOf τ' = pIn Rs (iU τ i) := by
  obtain ⟨n, rfl⟩ : ∃ n', n = n' + 1 := ⟨n - 1, by omega⟩
  have zq : zin (nI (iQ τ i)) 6 = true := zin_n hq.1 (by decide)
  have cq : (nI (iQ τ i)).toNatClampNeg = iQ τ i := nI_clamp (by have := hq.1; omega)
  rw [zE_instanceTerm]
  unfold b_instanceTerm j_instanceTerm_39 iU
  simp only [zgd, zin_n hi (by decide), if_true, nI_clamp (show i < 2 ^ 31 by omega), hq.2, zq, cq]
  by_cases z : τ.2.2.1 25 (iQ τ i) = 1
  · rw [if_pos z, if_pos z]
    by_cases y : τ.2.2.1 24 (iQ τ i) = 1
    · rw [if_pos y, if_pos y]
      obtain ⟨τ', a1, a2, a3⟩ := r_termOf (ks := ks) (qs := qs) (T := T) (h0 := h0) (n := n) (nm := τ.2.2.1 64 i) (tm := -1) (nu := (τ.2.2.1 26 (iQ τ i)).toInt64) h (by omega)
      exact ⟨τ', by rw [a1, zcv_at], a2, a3⟩
    · rw [if_neg y, if_neg y]
      obtain ⟨τ', a1, a2, a3⟩ := r_termOf (ks := ks) (qs := qs) (T := T) (h0 := h0) (n := n) (nm := τ.2.2.1 64 i) (tm := 1) (nu := (τ.2.2.1 26 (iQ τ i)).toInt64) h (by omega)
      exact ⟨τ', by rw [a1, zcv_at], a2, a3⟩
  · rw [if_neg z, if_neg z]
    obtain ⟨τ', a1, a2, a3⟩ := r_termOf (ks := ks) (qs := qs) (T := T) (h0 := h0) (n := n) (nm := -1) (tm := 0) (nu := (τ.2.2.1 26 (iQ τ i)).toInt64) h (by omega)
    exact ⟨τ', by rw [a1, zcv_at], a2, a3.trans (by rw [if_neg (by decide)])⟩
end PUT
