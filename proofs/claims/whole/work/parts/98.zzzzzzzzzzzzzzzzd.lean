/-! the reference: saysOf() -/
def gKt (sl : gN → Nat) (t : gTe) : kTe := (t.1.map (fun x => (sl x.1, x.2)), t.2)
def gTb (B : Int) (t : gTe) : Prop := (-1125899906842624 ≤ t.2 ∧ t.2 ≤ 1125899906842624) ∧ -B ≤ 2 * t.2 - 2 ∧ 2 * t.2 + 2 ≤ B
/-- those at the places where p holds -/
def fQk {α : Type} (p : Nat → Bool) : Nat → List α → List α
  | _, [] => []
  | k, x :: l => if p k = true then x :: fQk p (k + 1) l else fQk p (k + 1) l
/-- what a leaf says, where al tells which INSTANCES are left -/
def gSa (al : Nat × List Bool → Nat → Bool) (nq : tQ → Int) (xs : List tQ) (A : gTy) : List gFc := match A.1 with
  | .inl x => x.2
  | .inr m => fQk (al (m.1, m.2.1)) 0 (gIn nq xs m.2.2.1 m.2.2.2.2)
/-- its limits, s the column that it speaks of -/
def gLm (al : Nat × List Bool → Nat → Bool) (nq : tQ → Int) (xs : List tQ) (sl : gN → Nat) (s : Nat) (A : gTy) : List oLm := (gSa al nq xs A).flatMap (fun x => facL s (x.1, gKt sl (gRs A.2 x.2)))
/-- a leaf that can be asked about: its terms are right, its NAMES are among S, its numbers are not too large -/
def gAq (Γ : uGm) (S : List gN) (B : Int) (A : gTy) : Prop := (∀ x, x ∈ gFa Γ.2.2.1 Γ.2.2.2.1 A → x.1 ≤ 4 ∧ gTw Γ x.2 ∧ (∀ y e, (gRs A.2 x.2).1 = some (y, e) → y ∈ S) ∧ gTb B (gRs A.2 x.2)) ∧ (∀ p, p ∈ A.2 → uNm Γ p.1 ∧ gTw Γ p.2) ∧ (gFa Γ.2.2.1 Γ.2.2.2.1 A).length ≤ 8000 ∧ A.2.length ≤ 200
/-- QUALS in their rows -/
def uQr (Γ : uGm) (τ : zSt) : Prop := ∀ q qq, Γ.2.2.2.1[q]? = some qq → q < 6 ∧ (τ.2.2.1 23 q = nI qq.2.1 ∧ qq.2.1 ≤ 4) ∧ τ.2.2.1 24 q = b01 qq.2.2.1 ∧ τ.2.2.1 25 q = b01 qq.2.2.2.1 ∧ (τ.2.2.1 26 q).toInt64 = Int64.ofInt (Γ.2.2.1 qq)
/-- which INSTANCES are left in the reference -/
def alV (Γ : uGm) (V : zSt) (kp : Nat × List Bool) (i : Nat) : Bool := decide (¬ V.2.2.1 65 ((V.2.2.1 61 (Γ.2.1 kp)).toNatClampNeg + i) = 0)
/-- what the questions may change: the term at hand, the table -/
def sF (V τ : zSt) : Prop := (∀ k, k ≠ 138 → k ≠ 139 → k ≠ 141 → τ.1 k = V.1 k) ∧ (∀ k, k ≠ 140 → τ.2.1 k = V.2.1 k) ∧ τ.2.2.1 = V.2.2.1 ∧ ∀ k, k ≠ 87 → τ.2.2.2 k = V.2.2.2 k
theorem sF.rf (τ : zSt) : sF τ τ := ⟨fun _ _ _ _ => rfl, fun _ _ => rfl, rfl, fun _ _ => rfl⟩
theorem sF.tr {a b c : zSt} (h : sF a b) (g : sF b c) : sF a c := ⟨fun k x y z => (g.1 k x y z).trans (h.1 k x y z), fun k x => (g.2.1 k x).trans (h.2.1 k x), g.2.2.1.trans h.2.2.1, fun k x => (g.2.2.2 k x).trans (h.2.2.2 k x)⟩
theorem uFm.s {a b : zSt} (h : uFm a b) : sF a b := ⟨h.1, h.2.1, by rw [h.2.2], fun k _ => by rw [h.2.2]⟩
theorem sF.g (τ : zSt) (m : Nat → Int64) : sF τ (zG τ 87 m) := ⟨fun _ _ _ _ => rfl, fun _ _ => rfl, rfl, fun k hk => if_neg hk⟩
theorem sF.co {V τ : zSt} {ns : List Nat} (h : sF V τ) (w : rCo V ns) : rCo τ ns := w.cg (h.1 131 (by decide) (by decide) (by decide)) (by rw [h.2.2.1]) (by rw [h.2.2.1])
section SAY
variable {ks : Nat → Nat} {qs : List Nat} {T n h0 c : Nat} {B : Int} {ns : List Nat} {Γ : uGm} {V τ : zSt} {v : Nat → Nat} {sl : gN → Nat} {S : List gN} {nm a s : Nat} {L : List oLm}
/-- relates() of the term at hand -/
theorem r_st1 {t : gTe} {fl : Bool} {r : Nat} (hc : c ≤ 60) (hco : rCo τ ns) (hcl : ns.length = c) (ha : ns[a]? = some nm) (hr : r ≤ 4) (hB : B < 1125899906842624) (hw : gTw Γ t) (hb : gTb B t) (hs : ∀ y e, t.1 = some (y, e) → ns[sl y]? = some (Γ.1 y) ∧ Γ.1 y ≠ nm) (hu : uOf τ = uT4 Γ t fl) (h : rTc B (2 * c) (L.map rnd) (τ.2.2.2 87)) : ∃ m', zF h0 qs ks T (n + 4) 94 [.ref h0, .int (nI nm), .int (nI r)] τ = some (some (.int 1), zG τ 87 m') ∧ rTc B (2 * c) ((facL a (r, gKt sl t) ++ L).map rnd) m' := by
  have e138 : τ.1 138 = (uTe Γ t).1 := congrArg Prod.fst hu
  have e2 : (τ.1 139, τ.2.1 140, τ.1 141) = ((uTe Γ t).2.1, (uTe Γ t).2.2, b01 fl) := congrArg Prod.snd hu
  have e139 : τ.1 139 = (uTe Γ t).2.1 := congrArg Prod.fst e2
  have e140 : τ.2.1 140 = (uTe Γ t).2.2 := congrArg (fun x => x.2.1) e2
  rcases t with ⟨_ | ⟨y, e⟩, k⟩
  · have nk : (Int64.ofInt k).toInt = k := Int64.toInt_ofInt_of_le (by have := hb.1.1; have : -1125899906842624 ≤ k := this; show -9223372036854775808 ≤ k; omega) (by have := hb.1.2; have : k ≤ 1125899906842624 := this; show k < 9223372036854775808; omega)
    obtain ⟨m', a1, a2⟩ := r_rel (h0 := h0) (qs := qs) (ks := ks) (T := T) (n := n) (b := 0) (t := 0) (nu := Int64.ofInt k) hc hco hcl ha hr (Or.inl rfl) e139 e140 (fun z => absurd rfl z) (fun _ => rfl) hB (by rw [nk]; exact hb.1) (by rw [nk]; exact hb.2) h
    refine ⟨m', a1, ?_⟩
    rw [show uKm 0 0 (Int64.ofInt k) = gKt sl (none, k) by unfold uKm gKt; rw [if_pos rfl, nk]; rfl] at a2
    exact a2
  · obtain ⟨w1, w2⟩ := hw y e rfl
    obtain ⟨s1, s2⟩ := hs y e rfl
    have nk : (Int64.ofInt k).toInt = k := Int64.toInt_ofInt_of_le (by have := hb.1.1; have : -1125899906842624 ≤ k := this; show -9223372036854775808 ≤ k; omega) (by have := hb.1.2; have : k ≤ 1125899906842624 := this; show k < 9223372036854775808; omega)
    have te : (Int32.ofInt e).toInt = e ∧ Int32.ofInt e ≠ 0 := by rcases w2 with rfl | rfl <;> decide
    obtain ⟨m', a1, a2⟩ := r_rel (h0 := h0) (qs := qs) (ks := ks) (T := T) (n := n) (b := sl y) (t := Int32.ofInt e) (nu := Int64.ofInt k) hc hco hcl ha hr (by rw [te.1]; rcases w2 with z | z; exact Or.inr (Or.inl z); exact Or.inr (Or.inr z)) e139 e140 (fun _ => ⟨Γ.1 y, e138, s1, s2⟩) (fun z => absurd z te.2) hB (by rw [nk]; exact hb.1) (by rw [nk]; exact hb.2) h
    refine ⟨m', a1, ?_⟩
    rw [show uKm (sl y) (Int32.ofInt e) (Int64.ofInt k) = gKt sl (some (y, e), k) by unfold uKm gKt; rw [if_neg te.2, nk, te.1]; rfl] at a2
    exact a2
/-- what stands fast while it is asked what is said -/
def sQ (Γ : uGm) (V : zSt) (v : Nat → Nat) (S : List gN) (sl : gN → Nat) (ns : List Nat) (c : Nat) (B : Int) : Prop := c ≤ 60 ∧ rCo V ns ∧ ns.length = c ∧ B < 1125899906842624 ∧ uQr Γ V ∧ (∀ k, v k ≤ uLm k) ∧ (∀ y, y ∈ S → ns[sl y]? = some (Γ.1 y))
/-- where the FACTS end -/
def sEnd (T : Nat) (call : zCl) (h0 : Nat) (qs : List Nat) (ks : Nat → Nat) (s nm : Nat) (σ : zSt) : zRs := zgd (zin (nI s) 24000) (if 0 ≤ (σ.2.2.1 47 (nI s).toNatClampNeg) then zgd (zin (σ.2.2.1 47 (nI s).toNatClampNeg) 64) (l_saysOf_107 T call h0 qs ks T (nI s) (nI nm) 1 (σ.2.2.1 47 (nI s).toNatClampNeg) (σ.2.2.1 61 ((σ.2.2.1 47 (nI s).toNatClampNeg)).toNatClampNeg) σ) else zgd (zbo 1) (some (some (.int 1), σ)))
set_option maxHeartbeats 1000000 in
theorem r_syF {G : List (gN × gTe)} (H : sQ Γ V v S sl ns c B) (ha : ns[a]? = some nm) (hs : s < 24000) (hG : uPu Γ v V G.reverse (V.2.2.1 49 s)) (hGw : ∀ p, p ∈ G → uNm Γ p.1 ∧ gTw Γ p.2) (hn : G.length + 2 ≤ n) : ∀ (fs : List gFc) (l : Int32) (t : Nat) (τ : zSt) (L : List oLm), uFs Γ v V fs l → fs.length < t → (∀ x, x ∈ fs → x.1 ≤ 4 ∧ gTw Γ x.2 ∧ (∀ y e, (gRs G x.2).1 = some (y, e) → y ∈ S ∧ Γ.1 y ≠ nm) ∧ gTb B (gRs G x.2)) → sF V τ → rTc B (2 * c) (L.map rnd) (τ.2.2.2 87) → ∃ τ', l_saysOf_10 T (zF h0 qs ks T (n + 4)) h0 qs ks t (nI s) (nI nm) 1 l τ = sEnd T (zF h0 qs ks T (n + 4)) h0 qs ks s nm τ' ∧ sF V τ' ∧ rTc B (2 * c) ((fs.flatMap (fun x => facL a (x.1, gKt sl (gRs G x.2))) ++ L).map rnd) (τ'.2.2.2 87)
  | [], l, t, τ, L, h, ht, _, f, w => by
    obtain ⟨t, rfl⟩ : ∃ t', t = t' + 1 := ⟨t - 1, by omega⟩
    have h : l = -1 := h
    rw [l_saysOf_10, h, if_pos m1_lt.2]
    exact ⟨τ, rfl, f, w⟩
  | x :: fs, l, t, τ, L, ⟨i, ⟨h1, h2⟩, h3, h4, h5⟩, ht, hx, f, w => by
    obtain ⟨t, rfl⟩ : ∃ t', t = t' + 1 := ⟨t - 1, by omega⟩
    obtain ⟨H1, H2, H3, H4, H5, H6, H7⟩ := id H
    obtain ⟨x1, x2, x3, x4⟩ := hx x (List.mem_cons_self ..)
    have i12 : i < 12000 := by have : v 85 ≤ 12000 := H6 85; omega
    rw [l_saysOf_10, h1, if_neg (nI_nn (by omega))]
    iterate 3 rw [zgd_at (zin_n i12 (by decide))]
    rw [zgd_at (zin_n hs (by decide)), nI_clamp (show i < 2 ^ 31 by omega), nI_clamp (show s < 2 ^ 31 by omega), f.2.2.1, f.2.2.2 54 (by decide)]
    have hP : rPu τ (V.2.2.1 49 s) (G.reverse.map (oPo Γ)) := by
      have q := uPu_r (H6 91) _ _ hG
      have : ∀ (Rs : List oPu) (l : Int32), rPu V l Rs → rPu τ l Rs := by
        intro Rs
        induction Rs with
        | nil => exact fun l z => z
        | cons p Rs I =>
          rintro l ⟨j, b1, b2, b3, b4, b5, b6⟩
          refine ⟨j, b1, ?_, ?_, ?_, ?_, ?_⟩
          · rw [f.2.2.1]; exact b2
          · rw [f.2.2.1]; exact b3
          · rw [f.2.2.1]; exact b4
          · rw [f.2.2.2 59 (by decide)]; exact b5
          · rw [f.2.2.1]; exact I _ b6
      exact this _ _ q
    obtain ⟨τ1, a1, a2, a3⟩ := r_termOf (h0 := h0) (qs := qs) (ks := ks) (T := T) (n := n + 4) (nm := V.2.2.1 51 i) (tm := V.2.2.1 52 i) (nu := V.2.2.2 54 i) hP (by rw [List.length_map, List.length_reverse]; omega)
    rw [a1, zcv_at, zgd_at (zin_n i12 (by decide))]
    have f1 : sF V τ1 := f.tr a2.s
    have e51 : V.2.2.1 51 i = (uTe Γ x.2).1 := congrArg Prod.fst h4
    have e5b : (V.2.2.1 52 i, V.2.2.2 54 i) = (uTe Γ x.2).2 := congrArg Prod.snd h4
    have e52 : V.2.2.1 52 i = (uTe Γ x.2).2.1 := congrArg Prod.fst e5b
    have e54 : V.2.2.2 54 i = (uTe Γ x.2).2.2 := congrArg Prod.snd e5b
    have eu : uOf τ1 = uT4 Γ (gRs G x.2) (gRf G x.2) := by
      rw [a3, e51, e52, e54]
      have q := pIn_g x2 G.reverse (fun p hp => hGw p (List.mem_reverse.mp hp))
      rw [List.reverse_reverse] at q
      rw [← q]
      congr 1
      unfold uT4 uTe
      rcases ex : x.2 with ⟨_ | ⟨y, e⟩, k⟩
      · show ((-1 : Int32), (if (0 : Int32) ≤ -1 then (0 : Int32) else 0), Int64.ofInt k, (0 : Int32)) = (-1, 0, Int64.ofInt k, 0)
        rw [if_neg (by decide)]
      · show (nI (Γ.1 y), (if (0 : Int32) ≤ nI (Γ.1 y) then Int32.ofInt e else 0), Int64.ofInt k, (0 : Int32)) = (nI (Γ.1 y), Int32.ofInt e, Int64.ofInt k, 0)
        have h15 : Γ.1 y < 1500 := (x2 y e (by rw [ex])).1.1
        rw [if_pos (show (0 : Int32) ≤ nI (Γ.1 y) from nI_le (a := 0) (b := Γ.1 y) (by omega) (by omega))]
    obtain ⟨m', b1, b2⟩ := r_st1 (h0 := h0) (qs := qs) (ks := ks) (T := T) (n := n) (r := x.1) (sl := sl) H1 (f1.co H2) H3 ha x1 H4 (x2.rs (fun p hp => (hGw p hp).2)) x4 (fun y e z => ⟨H7 y (x3 y e z).1, (x3 y e z).2⟩) eu (by rw [show τ1.2.2.2 = τ.2.2.2 by rw [a2.2.2]]; exact w)
    rw [f1.2.2.1, h3, b1, zci_at, if_neg (by decide), if_neg (by decide)]
    unfold j_saysOf_70
    rw [zgd_at (zin_n i12 (by decide)), nI_clamp (show i < 2 ^ 31 by omega)]
    have f2 : sF V (zG τ1 87 m') := f1.tr (sF.g _ _)
    rw [show (zG τ1 87 m').2.2.1 53 i = V.2.2.1 53 i by rw [f2.2.2.1]]
    obtain ⟨τ', d1, d2, d3⟩ := r_syF H ha hs hG hGw hn fs _ t _ _ h5 (by have : fs.length + 1 < t + 1 := ht; omega) (fun y hy => hx y (List.mem_cons_of_mem _ hy)) f2 (by rw [zG_at]; exact b2)
    refine ⟨τ', d1, d2, rTc.cg (fun l => ?_) d3⟩
    simp only [List.flatMap_cons, List.map_append, List.mem_append]
    constructor
    · rintro (z | z | z)
      · exact Or.inl (Or.inr z)
      · exact Or.inl (Or.inl z)
      · exact Or.inr z
    · rintro ((z | z) | z)
      · exact Or.inr (Or.inl z)
      · exact Or.inl z
      · exact Or.inr (Or.inr z)
theorem rPu.sf (f : sF V τ) : ∀ (Rs : List oPu) (l : Int32), rPu V l Rs → rPu τ l Rs
  | [], _, z => z
  | p :: Rs, l, ⟨j, b1, b2, b3, b4, b5, b6⟩ => ⟨j, b1, by rw [f.2.2.1]; exact b2, by rw [f.2.2.1]; exact b3, by rw [f.2.2.1]; exact b4, by rw [f.2.2.2 59 (by decide)]; exact b5, by rw [f.2.2.1]; exact rPu.sf f Rs _ b6⟩
/-- an INSTANCE's term -/
theorem uIn_u {j : Nat} {x : gFc} (hQ : uQr Γ V) (h : uIn Γ V j x) (hw : gTw Γ x.2) : iU V j = uT4 Γ x.2 false ∧ iQ V j < 6 ∧ V.2.2.1 63 j = nI (iQ V j) ∧ V.2.2.1 23 (iQ V j) = nI x.1 := by
  obtain ⟨q, qq, h1, h2, h3⟩ := h
  obtain ⟨q1, ⟨q2, q2'⟩, q3, q4, q5⟩ := hQ q qq h1
  have eq : iQ V j = q := by unfold iQ; rw [h2, nI_clamp (by omega)]
  unfold iU
  rw [eq, q4, q5, q3]
  refine ⟨?_, q1, h2, ?_⟩
  · rcases h3 with ⟨g1, s', g2, g3⟩ | ⟨g1, g2, g3⟩
    · have h15 : Γ.1 s' < 1500 := (hw s' _ (by rw [g3])).1.1
      rw [g1, if_pos (show b01 true = 1 from rfl), g2, if_pos (show (0 : Int32) ≤ nI (Γ.1 s') from nI_le (a := 0) (b := Γ.1 s') (by omega) (by omega)), g3]
      unfold uT4 uTe
      cases qq.2.2.1 <;> rfl
    · rw [g1, if_neg (by decide), g3]
      rfl
  · rw [q2]
    rcases h3 with ⟨_, s', _, g3⟩ | ⟨_, _, g3⟩ <;> rw [g3]
set_option maxHeartbeats 1000000 in
theorem r_syC {G : List (gN × gTe)} {F : List gFc} {cc a0 : Nat} (H : sQ Γ V v S sl ns c B) (ha : ns[a]? = some nm) (hs : s < 24000) (hG : uPu Γ v V G.reverse (V.2.2.1 49 s)) (hGw : ∀ p, p ∈ G → uNm Γ p.1 ∧ gTw Γ p.2) (hn : G.length + 2 ≤ n) (hcc : cc < 64) (e62 : V.2.2.1 62 cc = nI (a0 + F.length)) (hl : a0 + F.length ≤ 8000) (hF : ∀ i x, F[i]? = some x → uIn Γ V (a0 + i) x ∧ x.1 ≤ 4 ∧ gTw Γ x.2 ∧ (∀ y e, (gRs G x.2).1 = some (y, e) → y ∈ S ∧ Γ.1 y ≠ nm) ∧ gTb B (gRs G x.2)) : ∀ (d k t : Nat) (τ : zSt) (L : List oLm), k + d = F.length → d < t → sF V τ → rTc B (2 * c) (L.map rnd) (τ.2.2.2 87) → ∃ τ', l_saysOf_107 T (zF h0 qs ks T (n + 4)) h0 qs ks t (nI s) (nI nm) 1 (nI cc) (nI (a0 + k)) τ = some (some (.int 1), τ') ∧ sF V τ' ∧ rTc B (2 * c) (((fQk (fun i => decide (¬ V.2.2.1 65 (a0 + i) = 0)) k (F.drop k)).flatMap (fun x => facL a (x.1, gKt sl (gRs G x.2))) ++ L).map rnd) (τ'.2.2.2 87)
  | 0, k, t, τ, L, hk, ht, f, w => by
    obtain ⟨t, rfl⟩ : ∃ t', t = t' + 1 := ⟨t - 1, by omega⟩
    rw [l_saysOf_107, zgd_at (zin_n hcc (by decide)), nI_clamp (show cc < 2 ^ 31 by omega), f.2.2.1, e62, if_pos (nI_le (by omega) (by omega)), zgd_at (by decide), List.drop_of_length_le (by omega)]
    exact ⟨τ, rfl, f, w⟩
  | d + 1, k, t, τ, L, hk, ht, f, w => by
    obtain ⟨t, rfl⟩ : ∃ t', t = t' + 1 := ⟨t - 1, by omega⟩
    obtain ⟨H1, H2, H3, H4, H5, H6, H7⟩ := id H
    have hkl : k < F.length := by omega
    have ek := List.getElem?_eq_getElem hkl
    obtain ⟨i0, x1, x2, x3, x4⟩ := hF k _ ek
    rw [l_saysOf_107, zgd_at (zin_n hcc (by decide)), nI_clamp (show cc < 2 ^ 31 by omega), f.2.2.1, e62, if_neg (nI_ge (by omega) (by omega)), zgd_at (zin_n (show a0 + k < 8000 by omega) (by decide)), nI_clamp (show a0 + k < 2 ^ 31 by omega), List.drop_eq_getElem_cons hkl]
    by_cases z : V.2.2.1 65 (a0 + k) = 0
    · rw [if_pos z]
      unfold j_saysOf_174
      rw [nI_p1]
      obtain ⟨τ', d1, d2, d3⟩ := r_syC H ha hs hG hGw hn hcc e62 hl hF d (k + 1) t τ L (by omega) (by omega) f w
      refine ⟨τ', d1, d2, ?_⟩
      rw [fQk, if_neg (by simpa using z)]
      exact d3
    · rw [if_neg z, zgd_at (zin_n hs (by decide)), nI_clamp (show s < 2 ^ 31 by omega)]
      obtain ⟨u1, u2, u3, u4⟩ := uIn_u H5 i0 x2
      have hP := rPu.sf f _ _ (uPu_r (H6 91) _ _ hG)
      have eiQ : iQ τ (a0 + k) = iQ V (a0 + k) := by unfold iQ; rw [f.2.2.1]
      obtain ⟨τ1, a1, a2, a3⟩ := r_insT (h0 := h0) (qs := qs) (ks := ks) (T := T) (n := n + 4) (i := a0 + k) (by omega) (by rw [eiQ, f.2.2.1]; exact ⟨u2, u3⟩) hP (by rw [List.length_map, List.length_reverse]; omega)
      rw [a1, zcv_at, zgd_at (zin_n (show a0 + k < 8000 by omega) (by decide))]
      have f1 : sF V τ1 := f.tr a2.s
      have eu : uOf τ1 = uT4 Γ (gRs G F[k].2) (gRf G F[k].2) := by
        rw [a3, show iU τ (a0 + k) = iU V (a0 + k) by unfold iU iQ; rw [f.2.2.1], u1]
        have q := pIn_g x2 G.reverse (fun p hp => hGw p (List.mem_reverse.mp hp))
        rw [List.reverse_reverse] at q
        exact q
      rw [f1.2.2.1, u3, zgd_at (zin_n u2 (by decide)), nI_clamp (show iQ V (a0 + k) < 2 ^ 31 by omega), u4]
      obtain ⟨m', b1, b2⟩ := r_st1 (h0 := h0) (qs := qs) (ks := ks) (T := T) (n := n) (r := F[k].1) (sl := sl) H1 (f1.co H2) H3 ha x1 H4 (x2.rs (fun p hp => (hGw p hp).2)) x4 (fun y e z => ⟨H7 y (x3 y e z).1, (x3 y e z).2⟩) eu (by rw [show τ1.2.2.2 = τ.2.2.2 by rw [a2.2.2]]; exact w)
      rw [b1, zci_at, if_neg (by decide), if_neg (by decide)]
      unfold j_saysOf_173 j_saysOf_174
      rw [nI_p1]
      obtain ⟨τ', d1, d2, d3⟩ := r_syC H ha hs hG hGw hn hcc e62 hl hF d (k + 1) t _ _ (by omega) (by omega) (f1.tr (sF.g _ m')) (by rw [zG_at]; exact b2)
      refine ⟨τ', d1, d2, rTc.cg (fun l => ?_) d3⟩
      rw [fQk, if_pos (by simpa using z)]
      simp only [List.flatMap_cons, List.map_append, List.mem_append]
      constructor
      · rintro (z | z | z)
        · exact Or.inl (Or.inr z)
        · exact Or.inl (Or.inl z)
        · exact Or.inr z
      · rintro ((z | z) | z)
        · exact Or.inr (Or.inl z)
        · exact Or.inl z
        · exact Or.inr (Or.inr z)
/-- **saysOf()** -/
theorem r_says95 {A : gTy} (H : sQ Γ V v S sl ns c B) (hT : 8400 ≤ T) (ha : ns[a]? = some nm) (hA : gAq Γ S B A) (hnm : ∀ y, y ∈ S → Γ.1 y = nm → ∀ x, x ∈ gFa Γ.2.2.1 Γ.2.2.2.1 A → ∀ e, (gRs A.2 x.2).1 ≠ some (y, e)) (hs : uSd Γ v V s A) (hn : 202 ≤ n) (f : sF V τ) (w : rTc B (2 * c) (L.map rnd) (τ.2.2.2 87)) : ∃ τ', zF h0 qs ks T (n + 5) 95 [.ref h0, .int (nI s), .int (nI nm)] τ = some (some (.int 1), τ') ∧ sF V τ' ∧ rTc B (2 * c) ((gLm (alV Γ V) Γ.2.2.1 Γ.2.2.2.1 sl a A ++ L).map rnd) (τ'.2.2.2 87) := by
  obtain ⟨s1, s2, s3⟩ := hs
  obtain ⟨h1, h2, h3, h4⟩ := hA
  have H6 := H.2.2.2.2.2.1
  have s24 : s < 24000 := by have : v 79 ≤ 24000 := H6 79; omega
  have hF : ∀ x, x ∈ gFa Γ.2.2.1 Γ.2.2.2.1 A → x.1 ≤ 4 ∧ gTw Γ x.2 ∧ (∀ y e, (gRs A.2 x.2).1 = some (y, e) → y ∈ S ∧ Γ.1 y ≠ nm) ∧ gTb B (gRs A.2 x.2) := fun x hx => by
    obtain ⟨a1, a2, a3, a4⟩ := h1 x hx
    exact ⟨a1, a2, fun y e z => ⟨a3 y e z, fun q => hnm y (a3 y e z) q x hx e z⟩, a4⟩
  rw [show n + 5 = (n + 4) + 1 from rfl, zE_saysOf]
  unfold b_saysOf
  rw [zgd_at (zin_n s24 (by decide)), nI_clamp (show s < 2 ^ 31 by omega), f.2.2.1]
  rcases A with ⟨x | m, G⟩
  · obtain ⟨s4, s5⟩ := s3
    obtain ⟨τ', d1, d2, d3⟩ := r_syF (h0 := h0) (qs := qs) (ks := ks) (T := T) (n := n) H ha s24 s2 h2 (by have : G.length ≤ 200 := h4; omega) x.2 _ T τ L s5 (by have : x.2.length ≤ 8000 := h3; omega) hF f w
    rw [d1]
    refine ⟨τ', ?_, d2, d3⟩
    unfold sEnd
    rw [zgd_at (zin_n s24 (by decide)), nI_clamp (show s < 2 ^ 31 by omega), d2.2.2.1, s4, if_neg m1_lt.1, zgd_at (by decide)]
  · obtain ⟨s4, s5, s6, a0, s7, s8, s9, s10⟩ := s3
    have c64 : Γ.2.1 (m.1, m.2.1) < 64 := by have : v 98 ≤ 64 := H6 98; omega
    have v99 : v 99 ≤ 8000 := H6 99
    obtain ⟨τ1, d1, d2, d3⟩ := r_syF (h0 := h0) (qs := qs) (ks := ks) (T := T) (n := n) H ha s24 s2 h2 (by have : G.length ≤ 200 := h4; omega) [] (V.2.2.1 48 s) T τ L s5 (by show 0 < T; omega) (fun x hx => by cases hx) f w
    rw [d1]
    unfold sEnd
    rw [zgd_at (zin_n s24 (by decide)), nI_clamp (show s < 2 ^ 31 by omega), d2.2.2.1, s4, if_pos (show (0 : Int32) ≤ nI _ from nI_le (a := 0) (by omega) (by omega)), zgd_at (zin_n c64 (by decide)), nI_clamp (by omega), s7]
    obtain ⟨τ', b1, b2, b3⟩ := r_syC (h0 := h0) (qs := qs) (ks := ks) (T := T) (n := n) (F := gIn Γ.2.2.1 Γ.2.2.2.1 m.2.2.1 m.2.2.2.2) H ha s24 s2 h2 (by have : G.length ≤ 200 := h4; omega) c64 s8 (by omega) (fun i x hx => ⟨s10 i x hx, hF x (List.mem_of_getElem? hx)⟩) _ 0 T τ1 L (by rw [Nat.zero_add]) (by have : (gIn Γ.2.2.1 Γ.2.2.2.1 m.2.2.1 m.2.2.2.2).length ≤ 8000 := h3; omega) d2 d3
    rw [Nat.add_zero] at b1
    refine ⟨τ', b1, b2, ?_⟩
    have e : gLm (alV Γ V) Γ.2.2.1 Γ.2.2.2.1 sl a (.inr m, G) = (fQk (fun i => decide (¬ V.2.2.1 65 (a0 + i) = 0)) 0 ((gIn Γ.2.2.1 Γ.2.2.2.1 m.2.2.1 m.2.2.2.2).drop 0)).flatMap (fun x => facL a (x.1, gKt sl (gRs G x.2))) := by
      show (fQk (alV Γ V (m.1, m.2.1)) 0 (gIn Γ.2.2.1 Γ.2.2.2.1 m.2.2.1 m.2.2.2.2)).flatMap _ = _
      have : alV Γ V (m.1, m.2.1) = fun i => decide (¬ V.2.2.1 65 (a0 + i) = 0) := by
        funext i
        unfold alV
        rw [s7, nI_clamp (by omega)]
      rw [this]
      rfl
    rw [e]
    exact b3
end SAY
