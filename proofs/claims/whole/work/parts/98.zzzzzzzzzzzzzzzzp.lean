/-! the reference: conditions as items of its search; what an INSTANCE asks -/
/-- what a condition means, columns sl, truths by told numbers -/
def cdM (T : Nat) (f pp ee R : Nat → Int32) (sl : gN → Nat) : gCd → dMg
  | .inl c => dW T f pp ee c.2 (fun u => sl (.inl u)) (nuO R) c.1 false dZ
  | .inr l => (1, 1, fun h => cmB [(sl (.inl l), 1)] 0 (if h = true then 2 else 3))
/-- an INSTANCE or FACT x, with what is put in, follows of L; s is VALUE -/
def gQB (sl : gN → Nat) (G : List (gN × gTe)) (x : gFc) (L : List oLm) : Prop := ∀ l, l ∈ facL 0 (x.1, gKt sl (gRs G x.2)) → lmQ L l
section ITM
variable {ks : Nat → Nat} {qs : List Nat} {T n h0 len cnt lo N Ss P A c : Nat} {Γ : uGm} {V : zSt} {v : Nat → Nat} {CD : tT → Nat → Prop} {L ns : List Nat} {kk pp ee f : Nat → Int32} {B : Int} {S : List gN} {sl : gN → Nat}
theorem r_items (W : uTr T len cnt lo N Ss P A L V kk pp ee f CD) (hco : rCo V ns) (hcl : ns.length = c) (hc : c ≤ 60) (hS : ∀ y, y ∈ S → ns[sl y]? = some (Γ.1 y)) (hinj : ∀ x y, x ∈ S → y ∈ S → Γ.1 x = Γ.1 y → x = y) (hΓ : ∀ u, u ∈ L → Γ.1 (.inl u) = nuO (V.2.2.1 32) u) (hSL : ∀ u, Sum.inl u ∈ S → u ∈ L) : ∀ (r : List (gCd × Bool)) (Sk : List (Int32 × Bool)), cdL CD Γ r Sk → (∀ x, x ∈ r → gCq T cnt kk pp ee f (V.2.2.1 32) L B S x.1) → ∃ It : List oIt, iSk It = Sk ∧ iDs It = r.map (fun x => (cdM T f pp ee (V.2.2.1 32) sl x.1).2.2 x.2) ∧ iSs It = (r.map (fun x => (cdM T f pp ee (V.2.2.1 32) sl x.1).1)).sum ∧ iSa It = (r.map (fun x => (cdM T f pp ee (V.2.2.1 32) sl x.1).2.1)).sum ∧ ∀ i, i ∈ It → ∃ Hh, rMn ks qs T h0 V c B Hh i.2.2.1 i.2.2.2.1 i.1 i.2.2.2.2
  | [], [], _, _ => ⟨[], rfl, rfl, rfl, rfl, fun i hi => by cases hi⟩
  | [], _ :: _, h, _ => False.elim h
  | _ :: _, [], h, _ => False.elim h
  | x :: r, y :: Sk, ⟨⟨h1, h2⟩, h3⟩, hC => by
    obtain ⟨It, a1, a2, a3, a4, a5⟩ := r_items W hco hcl hc hS hinj hΓ hSL r Sk h3 (fun z hz => hC z (List.mem_cons_of_mem _ hz))
    have hx := hC x (List.mem_cons_self ..)
    have col : ∀ z, z ∈ S → V.2.2.1 89 (Γ.1 z) = nI (sl z) ∧ sl z < c ∧ Γ.1 z < 1501 := fun z hz => by
      obtain ⟨q1, -, q3⟩ := hco.2.2.2.1 _ _ (hS z hz)
      have := get_lt (hS z hz)
      exact ⟨q3, by omega, q1⟩
    have M : ∃ Hh, rMn ks qs T h0 V c B Hh (cdM T f pp ee (V.2.2.1 32) sl x.1).1 (cdM T f pp ee (V.2.2.1 32) sl x.1).2.1 y.1 (cdM T f pp ee (V.2.2.1 32) sl x.1).2.2 := by
      rcases x with ⟨cc | l, hh⟩
      · obtain ⟨m, m1, m2, m3⟩ := h2
        obtain ⟨w1, w2⟩ := W.2.2 _ _ m3
        obtain ⟨c1, c2, c3, c4, c5, c6, c7⟩ := hx
        rw [m1]
        exact r_dW (cov := fun u => .inl u ∈ S) (sl := fun u => sl (.inl u)) W.1 (W.env c1 c2) (fun u hu => by
          obtain ⟨q1, q2, -⟩ := col _ hu
          rw [hΓ u (hSL u hu)] at q1
          exact ⟨q1, q2⟩) hc (fun u w hu hw e => by
          have e : sl (.inl u) = sl (.inl w) := e
          have q := hS _ hu
          rw [e, hS _ hw] at q
          injection q with q
          have := hinj _ _ hu hw q.symm
          injection this) cc.1 m w2 c3 c4 c5 c6 w1
      · have h2 : y.1 = (-2) - nI (Γ.1 (.inl l)) := h2
        obtain ⟨q1, q2, q3⟩ := col _ hx.1
        exact ⟨1, Or.inl ⟨_, _, h2, q3, q2, q1, rfl, rfl, rfl⟩⟩
    refine ⟨(y.1, y.2, (cdM T f pp ee (V.2.2.1 32) sl x.1).1, (cdM T f pp ee (V.2.2.1 32) sl x.1).2.1, (cdM T f pp ee (V.2.2.1 32) sl x.1).2.2) :: It, ?_, ?_, ?_, ?_, ?_⟩
    · show (y.1, y.2) :: iSk It = y :: Sk
      rw [a1]
    · show (cdM T f pp ee (V.2.2.1 32) sl x.1).2.2 y.2 :: iDs It = _
      rw [a2, h1]
      rfl
    · show _ + iSs It = _
      rw [a3]
      rfl
    · show _ + iSa It = _
      rw [a4]
      rfl
    · intro i hi
      rcases List.mem_cons.mp hi with e | hi
      · subst e
        exact M
      · exact a5 i hi
theorem iSy_B {t : gTe} {r : Nat} {Lm : List oLm} (hw : gTw Γ t) (hb : gTb B t) (hr : r ≤ 4) : iSy r (match t.1 with | none => 0 | some y => sl y.1) (uTe Γ t).2.1.toInt (uTe Γ t).2.2.toInt Lm ↔ ∀ l, l ∈ facL 0 (r, gKt sl t) → lmQ Lm l := by
  have key : ∀ (b : Nat) (tt : Int32) (nu : Int64), (tt.toInt = 0 ∨ tt.toInt = 1 ∨ tt.toInt = -1) → uKm b tt nu = gKt sl t → (iSy r b tt.toInt nu.toInt Lm ↔ ∀ l, l ∈ facL 0 (r, gKt sl t) → lmQ Lm l) := fun b tt nu ht e => by
    rw [← e]
    unfold iSy facL
    simp only [List.mem_append]
    have u : ∀ le : Int, aM 0 1 b (-tt.toInt) (nu.toInt - le) = fcl 0 1 le (uKm b tt nu) := fun le => by
      rw [fcl_aM ht (Or.inl rfl), show -1 * tt.toInt = -tt.toInt by omega, show 1 * nu.toInt - le = nu.toInt - le by omega]
    have d : ∀ le : Int, aM 0 (-1) b tt.toInt (-nu.toInt - le) = fcl 0 (-1) le (uKm b tt nu) := fun le => by
      rw [fcl_aM ht (Or.inr rfl), show - -1 * tt.toInt = tt.toInt by omega, show -1 * nu.toInt - le = -nu.toInt - le by omega]
    rw [u, d]
    constructor
    · rintro ⟨h1, h2⟩ l (h | h)
      · by_cases z : r < 3
        · rw [if_pos z] at h
          rw [List.mem_singleton.mp h]
          exact h1 z
        · rw [if_neg z] at h
          cases h
      · by_cases z : r = 0 ∨ 2 < r
        · rw [if_pos z] at h
          rw [List.mem_singleton.mp h]
          exact h2 z
        · rw [if_neg z] at h
          cases h
    · intro h
      exact ⟨fun z => h _ (Or.inl (by rw [if_pos z]; exact List.mem_singleton_self _)), fun z => h _ (Or.inr (by rw [if_pos z]; exact List.mem_singleton_self _))⟩
  rcases t with ⟨_ | ⟨y, e⟩, k⟩
  · have nk : (Int64.ofInt k).toInt = k := Int64.toInt_ofInt_of_le (by have := hb.1.1; have : -1125899906842624 ≤ k := this; show -9223372036854775808 ≤ k; omega) (by have := hb.1.2; have : k ≤ 1125899906842624 := this; show k < 9223372036854775808; omega)
    exact key 0 0 (Int64.ofInt k) (Or.inl rfl) (by unfold uKm gKt; rw [if_pos rfl, nk]; rfl)
  · obtain ⟨w1, w2⟩ := hw y e rfl
    have nk : (Int64.ofInt k).toInt = k := Int64.toInt_ofInt_of_le (by have := hb.1.1; have : -1125899906842624 ≤ k := this; show -9223372036854775808 ≤ k; omega) (by have := hb.1.2; have : k ≤ 1125899906842624 := this; show k < 9223372036854775808; omega)
    have te : (Int32.ofInt e).toInt = e ∧ Int32.ofInt e ≠ 0 := by rcases w2 with rfl | rfl <;> decide
    exact key (sl y) (Int32.ofInt e) (Int64.ofInt k) (by rw [te.1]; rcases w2 with z | z; exact Or.inr (Or.inl z); exact Or.inr (Or.inr z)) (by unfold uKm gKt; rw [if_neg te.2, nk, te.1]; rfl)
/-- what the INSTANCES of a CASE ask -/
theorem r_ask {s cc a0 : Nat} {G : List (gN × gTe)} {F : List gFc} (H : sQ Γ V v S sl ns c B) (hB4 : B ≤ 500000000000000) (h155 : V.1 155 = nI s) (hs : s < 24000) (e47 : V.2.2.1 47 s = nI cc) (hcc : cc < 64) (e61 : V.2.2.1 61 cc = nI a0) (e62 : V.2.2.1 62 cc = nI (a0 + F.length)) (hl : a0 + F.length ≤ 8000) (hG : uPu Γ v V G.reverse (V.2.2.1 49 s)) (hGw : ∀ p, p ∈ G → uNm Γ p.1 ∧ gTw Γ p.2) (h15 : ns[0]? = some 1500) (hF : ∀ i x, F[i]? = some x → uIn Γ V (a0 + i) x ∧ x.1 ≤ 4 ∧ gTw Γ x.2 ∧ (∀ y e, (gRs G x.2).1 = some (y, e) → y ∈ S) ∧ gTb B (gRs G x.2)) : rAsk V c s cc a0 (a0 + F.length) (G.reverse.map (oPo Γ)) (fun i => ((F[i - a0]?).getD (0, (none, 0))).1) (fun i => match (gRs G ((F[i - a0]?).getD (0, (none, 0))).2).1 with | none => 0 | some y => sl y.1) (fun i => (uTe Γ (gRs G ((F[i - a0]?).getD (0, (none, 0))).2)).2.1) (fun i => (uTe Γ (gRs G ((F[i - a0]?).getD (0, (none, 0))).2)).2.2) := by
  obtain ⟨H1, H2, H3, H4, H5, H6, H7⟩ := id H
  refine ⟨⟨h155, hs⟩, ⟨e47, hcc⟩, ⟨e61, e62, Nat.le_add_right _ _, hl⟩, uPu_r (H6 91) _ _ hG, ?_, fun i i1 i2 _ => ?_⟩
  · exact (H2.2.2.2.1 0 _ h15).2.2
  · have hil : i - a0 < F.length := by omega
    have ei := List.getElem?_eq_getElem hil
    obtain ⟨x1, x2, x3, x4, x5⟩ := hF _ _ ei
    rw [show a0 + (i - a0) = i by omega] at x1
    obtain ⟨u1, u2, u3, u4⟩ := uIn_u H5 x1 x3
    have q := pIn_g x3 G.reverse (fun p hp => hGw p (List.mem_reverse.mp hp))
    rw [List.reverse_reverse, ← u1] at q
    dsimp only
    rw [ei]
    show iOk V c _ i F[i - a0].1 (match (gRs G F[i - a0].2).1 with | none => 0 | some y => sl y.1) (uTe Γ (gRs G F[i - a0].2)).2.1 (uTe Γ (gRs G F[i - a0].2)).2.2
    have w := x3.rs (fun p hp => (hGw p hp).2)
    generalize gRs G F[i - a0].2 = t at q w x4 x5
    have c0 : 0 < c := by rw [← H3]; exact get_lt h15
    refine ⟨by omega, ⟨u2, u3⟩, ⟨u4, x2⟩, by rw [q]; rfl, by rw [q]; rfl, ?_⟩
    rcases t with ⟨_ | ⟨y, e⟩, k⟩
    · have nk : (Int64.ofInt k).toInt = k := Int64.toInt_ofInt_of_le (by have := x5.1.1; have : -1125899906842624 ≤ k := this; show -9223372036854775808 ≤ k; omega) (by have := x5.1.2; have : k ≤ 1125899906842624 := this; show k < 9223372036854775808; omega)
      have x5 : -B ≤ 2 * k - 2 ∧ 2 * k + 2 ≤ B := x5.2
      refine ⟨by show -1 ≤ (0 : Int32).toInt ∧ (0 : Int32).toInt ≤ 1; decide, ?_, c0, fun _ => rfl, fun z => absurd rfl z⟩
      show -281474976710656 ≤ (Int64.ofInt k).toInt ∧ (Int64.ofInt k).toInt ≤ 281474976710656
      rw [nk]
      omega
    · obtain ⟨w1, w2⟩ := w y e rfl
      have nk : (Int64.ofInt k).toInt = k := Int64.toInt_ofInt_of_le (by have := x5.1.1; have : -1125899906842624 ≤ k := this; show -9223372036854775808 ≤ k; omega) (by have := x5.1.2; have : k ≤ 1125899906842624 := this; show k < 9223372036854775808; omega)
      have x5 : -B ≤ 2 * k - 2 ∧ 2 * k + 2 ≤ B := x5.2
      have te : (Int32.ofInt e).toInt = e ∧ Int32.ofInt e ≠ 0 := by rcases w2 with rfl | rfl <;> decide
      have hy := H7 y (x4 y e rfl)
      have hyl := get_lt hy
      obtain ⟨q1, -, q3⟩ := H2.2.2.2.1 _ _ hy
      refine ⟨?_, ?_, by show sl y < c; omega, fun z => absurd z te.2, fun _ => ⟨Γ.1 y, by rw [q]; rfl, q1, q3⟩⟩
      · show -1 ≤ (Int32.ofInt e).toInt ∧ (Int32.ofInt e).toInt ≤ 1
        rw [te.1]
        omega
      · show -281474976710656 ≤ (Int64.ofInt k).toInt ∧ (Int64.ofInt k).toInt ≤ 281474976710656
        rw [nk]
        omega
end ITM
