/-! the class's gather(): walk()'s steps, a TEMPLATE -/
theorem nod_map {φ : Nat → Nat} : ∀ {ns : List Nat}, (∀ u v, u ∈ ns → v ∈ ns → φ u = φ v → u = v) → ns.Nodup → (ns.map φ).Nodup
  | [], _, _ => List.nodup_nil
  | a :: ns, h, hn => by
    obtain ⟨n1, n2⟩ := List.nodup_cons.mp hn
    rw [List.map_cons]
    refine List.nodup_cons.mpr ⟨fun z => ?_, nod_map (fun u v hu hv e => h u v (List.mem_cons_of_mem _ hu) (List.mem_cons_of_mem _ hv) e) n2⟩
    obtain ⟨b, b1, b2⟩ := List.mem_map.mp z
    have := h b a (List.mem_cons_of_mem _ b1) (List.mem_cons_self ..) b2
    rw [this] at b1
    exact n1 b1
/-- ghosts, nothing at ways that are none -/
def kVl (Ψ : kGh) (key : Nat) (y : tY) : kGh := (Ψ.1, fun kp => if kp.1 = key ∧ vPt y kp.2 = false then 0 else Ψ.2.1 kp, Ψ.2.2)
section KVL
variable {st : Nat} {l : Nat → Nat} {b0 : Nat} {nq : tQ → Int} {xs : List tQ} {Ψ Ψ' : kGh} {σ : oSt}
theorem vPt_nil (t : tY) : vPt t [] = true := by cases t <;> rfl
theorem kTo.vl (h1 : Ψ'.1 = Ψ.1) (hQ : Ψ'.2.2.1 = Ψ.2.2.1) : ∀ (t : tY) (m : gTm), (∀ r, vPt t r = true → Ψ'.2.1 (m.1, m.2.1 ++ r) = Ψ.2.1 (m.1, m.2.1 ++ r)) → kTo st l b0 nq xs Ψ σ t m → kTo st l b0 nq xs Ψ' σ t m
  | .leaf, m, e, h => by
    have e0 := e [] rfl
    rw [List.append_nil] at e0
    unfold kTo at h ⊢
    rw [e0, hQ]; exact h
  | .inner k _ _ a b, m, e, h => by
    have e0 := e [] rfl
    rw [List.append_nil] at e0
    unfold kTo at h ⊢
    rw [e0, hQ, h1]
    refine ⟨h.1, ?_⟩
    by_cases c : k = 0
    · have h2 := h.2
      rw [if_pos c] at h2 ⊢
      have ef : ∀ r, vPt a r = true → Ψ'.2.1 ((mTk m).1, (mTk m).2.1 ++ r) = Ψ.2.1 ((mTk m).1, (mTk m).2.1 ++ r) := fun r hr => by
        have := e (false :: r) (by show (decide (k = 0) && vPt a r) = true; rw [decide_eq_true c, hr]; rfl)
        show Ψ'.2.1 (m.1, m.2.1 ++ [false] ++ r) = Ψ.2.1 (m.1, m.2.1 ++ [false] ++ r)
        rw [List.append_assoc]; exact this
      have et : ∀ r, vPt b r = true → Ψ'.2.1 ((mAn m).1, (mAn m).2.1 ++ r) = Ψ.2.1 ((mAn m).1, (mAn m).2.1 ++ r) := fun r hr => by
        have := e (true :: r) (by show (decide (k = 0) && vPt b r) = true; rw [decide_eq_true c, hr]; rfl)
        show Ψ'.2.1 (m.1, m.2.1 ++ [true] ++ r) = Ψ.2.1 (m.1, m.2.1 ++ [true] ++ r)
        rw [List.append_assoc]; exact this
      have e1 : Ψ'.2.1 (m.1, m.2.1 ++ [false]) = Ψ.2.1 (m.1, m.2.1 ++ [false]) := by
        have := ef [] (vPt_nil a)
        rw [List.append_nil] at this; exact this
      have e2 : Ψ'.2.1 (m.1, m.2.1 ++ [true]) = Ψ.2.1 (m.1, m.2.1 ++ [true]) := by
        have := et [] (vPt_nil b)
        rw [List.append_nil] at this; exact this
      rw [e1, e2]
      exact ⟨h2.1, kTo.vl h1 hQ a (mTk m) ef h2.2.1, kTo.vl h1 hQ b (mAn m) et h2.2.2⟩
    · have h2 := h.2
      rw [if_neg c] at h2 ⊢
      exact h2
theorem toK.vl (h1 : Ψ'.1 = Ψ.1) : ∀ (t : tY) (m : gTm), (∀ r, vPt t r = true → Ψ'.2.1 (m.1, m.2.1 ++ r) = Ψ.2.1 (m.1, m.2.1 ++ r)) → toK Ψ σ t m → toK Ψ' σ t m
  | .leaf, _, _, h => h
  | .inner k _ _ a b, m, e, h => fun c => by
    obtain ⟨h2, h3⟩ := h c
    have e1 : Ψ'.2.1 (m.1, m.2.1 ++ [false]) = Ψ.2.1 (m.1, m.2.1 ++ [false]) := e [false] (by show (decide (k = 0) && vPt a []) = true; rw [decide_eq_true c, vPt_nil]; rfl)
    rw [h1, e1]
    refine ⟨h2, toK.vl h1 b (mAn m) (fun r hr => ?_) h3⟩
    have := e (true :: r) (by show (decide (k = 0) && vPt b r) = true; rw [decide_eq_true c, hr]; rfl)
    show Ψ'.2.1 (m.1, m.2.1 ++ [true] ++ r) = Ψ.2.1 (m.1, m.2.1 ++ [true] ++ r)
    rw [List.append_assoc]; exact this
end KVL
section GWT
variable {κ : oKv} {T n : Nat} {st : Nat} {l : Nat → Nat} {b0 : Nat} {nq : tQ → Int} {xs : List tQ} {pg ch ty : Nat} {cf : List Value} {At : Nat → Nat} {mo : Nat} {g : gG} {ρ : Nat → tY} {lv ov : Int32} {CN : Nat → gCd → Prop} {NR : Nat → (Nat × Nat × tT × List tP × List Nat × Nat) → Prop} {pp : Nat → Int32} {V : oSt} {lo g0 : Nat} {nm : Nat → Option Nat} {tN : Nat → tY} {φ : Nat → Nat} {Us : List Nat} {i cnt : Nat} {tl tl' : List Nat} {Ψ : kGh} {Ls : List Nat} {σ : oSt} {ln : Nat → Nat} {ct : Nat → Nat → Option Nat} {cs : Nat} {s : gSt} {env : List Nat} {sc : List gEn} {Sc : List sEn} {os : Option Nat} {Es : List (gN × Nat)} {q : Nat → gTy} {key c : Nat} {y : tY} {ns : List Nat} {nl : Option Nat}
theorem dnO.up (h : ∀ u, u ∈ tl → u ∈ tl') {x : Nat} (z : dnO g0 φ tl x) : dnO g0 φ tl' x := z.imp id (fun ⟨u, a, b⟩ => ⟨u, h u a, b⟩)
/-- more NAMES are done with -/
theorem gwS.dn (h : gwS κ st l b0 nq xs pg ch ty cf At mo g ρ lv ov CN NR pp V lo g0 nm tN φ Us i tl Ψ Ls σ ln ct cs s) (ht : ∀ u, u ∈ tl → u ∈ tl') : gwS κ st l b0 nq xs pg ch ty cf At mo g ρ lv ov CN NR pp V lo g0 nm tN φ Us i tl' Ψ Ls σ ln ct cs s := by
  obtain ⟨⟨v, a1, a2, a3, a4, a5⟩, h2, h3, h4, ⟨h5, h5'⟩, h6, h7, h8⟩ := h
  refine ⟨⟨v, a1, a2, a3, a4, a5.sp (W := fun _ => False) gKp.rf (gAg.rf _ _) a1.1 (fun _ _ z => z) (fun _ z => dnO.up ht z)⟩, h2, h3, h4, ⟨h5, fun k x e => ?_⟩, h6, h7, h8.dx ht⟩
  obtain ⟨m, fs, o, Sc, Es, w, b1, b2, b3, b4, b5⟩ := h5' k x e
  exact ⟨m, fs, o, Sc, Es, w, b1, b2, b3, fun a ha => dnO.up ht (b4 a ha), b5⟩
/-- a NAME is told -/
theorem gwS.tt {u : Nat} {A : gTy} (h : gwS κ st l b0 nq xs pg ch ty cf At mo g ρ lv ov CN NR pp V lo g0 nm tN φ Us i tl Ψ Ls σ ln ct cs s) (hu : u ∈ tl) (hU : u ∈ Us) (hk : ∃ fs k, σ.1 (φ u) = some (.inr (6, fs)) ∧ fs[4]? = some (.ref k) ∧ kRl st l b0 nq xs Ψ σ (fun y b => ∃ v, y = .inl v ∧ b = φ v) k A) : gwS κ st l b0 nq xs pg ch ty cf At mo g ρ lv ov CN NR pp V lo g0 nm tN φ Us i tl Ψ Ls σ ln ct cs (gTn u A s) := by
  obtain ⟨h1, h2, h3, h4, h5, h6, h7, h8⟩ := h
  exact ⟨h1, h2, h3, h4, h5, h6, h7, h8.tt hu hU hk⟩
theorem gwE.e0 {Dn : Nat → Prop} (hE : gwE st l b0 nq xs Ψ σ CN Dn nm tN lo Ls env sc Sc os Es q) (hφ : ∀ u, Ψ.1 (.inl u) = φ u) : ∀ x a, (x, a) ∈ Es → ∃ v, x = .inl v ∧ a = φ v := fun x a ha => by
  obtain ⟨⟨v, -, e1⟩, e2, -⟩ := hE.2.2.1 _ ha
  have e1 : x = .inl v := e1
  have e2 : a = Ψ.1 x := e2
  exact ⟨v, e1, by rw [e2, e1]; exact hφ v⟩
theorem gwE.t0 {u : Nat} {Dn : Nat → Prop} (hE : gwE st l b0 nq xs Ψ σ CN Dn nm tN lo Ls env sc Sc os Es q) (hφ : ∀ u, Ψ.1 (.inl u) = φ u) (hu : u ∈ env) : ∃ fs k, σ.1 (φ u) = some (.inr (6, fs)) ∧ fs[4]? = some (.ref k) ∧ kRl st l b0 nq xs Ψ σ (fun y b => ∃ v, y = .inl v ∧ b = φ v) k (q u) := by
  obtain ⟨-, fs, k, a1, -, a2, a3⟩ := hE.2.2.2.2 u hu
  rw [hφ u] at a1
  exact ⟨fs, k, a1, a2, a3.mo (fun x a ha => hE.e0 hφ x a ha)⟩
/-- **template()** at a place -/
theorem gwS.tm (hT : 9010 ≤ T) (hnq : ∀ x, x ∈ xs → -1125899906842624 ≤ nq x ∧ nq x ≤ 1125899906842624) (hcf : cfO pg ty st cf) (h : gwS κ st l b0 nq xs pg ch ty cf At mo g ρ lv ov CN NR pp V lo g0 nm tN φ Us i tl Ψ Ls σ ln ct cs s) (hE : gwE st l b0 nq xs Ψ σ CN (dnO g0 φ tl) nm tN lo Ls env sc Sc os Es q) (hk : ¬ Ψ.2.2.2 key) (hρ : ρ c = y) (hc : c < g.n) (tn : toN κ nl 0 Ψ.1 ns σ) (tb : toB Ψ.1 Ls ns y σ) (hns : ns.Nodup ∧ ∀ w, w ∈ ns → w ∈ Us ∧ w ∉ env ∧ w ∉ tl) (hen : ∀ u, u ∈ env → u ∈ Us) (htl : ∀ u, u ∈ tl → u ∈ Us) (hS : (gSs sc).length + ySx y ≤ 72) (hD : yDp y ≤ 60) (hn : 7 + yDp y ≤ n + 1) (hSc : Sc.length < T) (hpp : ∀ u v, u < v → v < cnt → pp u < pp v) (hi : i ≤ cnt) : ∃ σ' k Ψ' Ls', oF κ T (n + 2) 28 [va_rf (some ch), .int (nI c), va_rf nl, va_rf os] σ = some (some (va_rf (some k)), σ') ∧ kRl st l b0 nq xs Ψ' σ' (fun y b => (y, b) ∈ Es) k (gTp key y ns sc) ∧ gwS κ st l b0 nq xs pg ch ty cf At mo g ρ lv ov CN NR pp V lo g0 nm tN φ Us i tl Ψ' Ls' σ' ln ct cs s ∧ (gAg σ Ψ Ψ' ∧ ∀ k, Ψ'.2.2.2 k → Ψ.2.2.2 k ∨ k = key) ∧ (gKp st l b0 (fun x => ∃ w, w ∈ ns ∧ x = φ w) σ σ' ∧ shX st σ σ') ∧ (∀ z, z ∈ Ls → z ∈ Ls') ∧ gwC xs.length Ls Ls' cs cs σ σ' (tCn xs y) (tCs xs y (gSs sc).length) ∧ toK Ψ' σ' y (key, [], y, ns, gSs sc) := by
  obtain ⟨e1, e2, e3, e4, e5⟩ := id hE
  obtain ⟨N1, N2⟩ := h.2.2.2.2.2.1
  have hφ := h.2.2.2.2.2.2.1
  have eS : gSs sc = (Es.map Prod.fst).reverse := by rw [gSs_mS, e1.nm]
  have mS : ∀ x, x ∈ gSs sc → ∃ p, p ∈ Es ∧ p.1 = x := fun x hx => by
    rw [eS] at hx
    obtain ⟨p, p1, p2⟩ := List.mem_map.mp (List.mem_reverse.mp hx)
    exact ⟨p, p1, p2⟩
  obtain ⟨σ', Ψ1, Ls', r1, ⟨r2, -, rj⟩, r3, r4, ⟨r5, r6⟩, ⟨r7, -⟩, r8, r9⟩ := c_tmpl (κ := κ) (T := T) (n := n) (key := key) hT hnq hcf h.2.1 e1 (fun p hp => (e3 p hp).2) hSc hρ hc tn tb (by
    have : (fun w => Ψ.1 (Sum.inl w)) = φ := funext hφ
    rw [this]
    exact nod_map (fun u v hu hv e => N2 u v (hns.2 u hu).1 (hns.2 v hv).1 e) hns.1) (fun x hx => by
    obtain ⟨p, p1, p2⟩ := mS x hx
    obtain ⟨⟨u, u1, u2⟩, -⟩ := e3 p p1
    rw [← p2, u2]
    refine ⟨fun w hw z => ?_, fun r z => by cases z⟩
    rw [hφ u, hφ w] at z
    have := N2 u w (hen u u1) (hns.2 w hw).1 z
    subst this
    exact (hns.2 u hw).2.1 u1) hS hD hn
  have ag0 := r4.ag rfl hk
  have nk : ∀ k, Ψ.2.2.2 k → k ≠ key := fun k hk' e => hk (e ▸ hk')
  have ag : gAg σ Ψ (kVl (gMk Ψ1 key) key y) := ⟨ag0.1, fun k p hk' => (if_neg (fun z => nk k hk' z.1)).trans (ag0.2.1 k p hk'), ag0.2.2.1, ag0.2.2.2⟩
  have kv : ∀ r, vPt y r = true → (kVl (gMk Ψ1 key) key y).2.1 (key, r) = Ψ1.2.1 (key, r) := fun r hr => if_neg (fun z => by rw [hr] at z; cases z.2)
  have ro : kRo (kVl (gMk Ψ1 key) key y) σ' := by
    obtain ⟨R1, R2⟩ := h.2.2.2.1.2.2
    have pos : 0 < σ'.2.1 := by have := r3.1.2.2.1.2; omega
    have old : ∀ k p, Ψ.2.2.2 k → (kVl (gMk Ψ1 key) key y).2.1 (k, p) = Ψ.2.1 (k, p) := fun k p hk' => ag.2.1 k p hk'
    have md : ∀ k, (kVl (gMk Ψ1 key) key y).2.2.2 k → Ψ.2.2.2 k ∨ k = key := fun k hk' => Or.imp (fun z => by rw [r4.2.2.2] at z; exact z) id hk'
    have new : ∀ p, (kVl (gMk Ψ1 key) key y).2.1 (key, p) = 0 ∨ (vPt y p = true ∧ (σ.2.1 ≤ (kVl (gMk Ψ1 key) key y).2.1 (key, p) ∧ (kVl (gMk Ψ1 key) key y).2.1 (key, p) < σ'.2.1)) := fun p => by
      cases hp : vPt y p with
      | false => exact Or.inl (if_pos ⟨rfl, hp⟩)
      | true =>
        right
        rw [kv p hp]
        have := kTj.bd y (key, [], y, ns, gSs sc) p rj.1 hp
        exact ⟨rfl, this⟩
    have lt := r6.2.2.2
    refine ⟨fun k p hk' => ?_, fun k p k' p' hk1 hk2 nz e => ?_⟩
    · rcases md k hk' with z | z
      · rw [old k p z]
        exact Nat.lt_of_lt_of_le (R1 k p z) lt
      · rw [z]
        rcases new p with q | q
        · rw [q]; exact pos
        · exact q.2.2
    · rcases md k hk1 with z1 | z1 <;> rcases md k' hk2 with z2 | z2
      · rw [old k p z1] at nz e
        rw [old k' p' z2] at e
        exact R2 k p k' p' z1 z2 nz e
      · rw [z2] at e
        rw [old k p z1] at nz e
        have a1 := R1 k p z1
        rcases new p' with q | q
        · rw [q] at e; exact absurd e nz
        · have := q.2.1; omega
      · rw [z1] at nz e
        rw [old k' p' z2] at e
        have a1 := R1 k' p' z2
        rcases new p with q | q
        · exact absurd q nz
        · have := q.2.1; omega
      · rw [z1] at nz e
        rw [z2] at e
        refine ⟨by rw [z1, z2], ?_⟩
        rcases new p with q | q
        · exact absurd q nz
        · rcases new p' with q' | q'
          · rw [q'] at e; exact absurd e nz
          · rw [kv p q.1, kv p' q'.1] at e
            exact kTj.inj y (key, [], y, ns, gSs sc) p p' rj.1 q.1 q'.1 e
  have r5 : gKp st l b0 (fun x => ∃ w, w ∈ ns ∧ x = φ w) σ σ' := r5.mo (fun x ⟨w, w1, w2⟩ => ⟨w, w1, by rw [w2]; exact hφ w⟩)
  have eI : ∀ u, Ψ1.1 (.inl u) = Ψ.1 (.inl u) := fun u => r4.2.1 _ (fun r z => by cases z)
  have agm : agB Ψ1 (gMk Ψ1 key) (key, [], y, ns, gSs sc) := ⟨fun _ => rfl, fun _ => rfl, fun _ => rfl, fun _ _ => rfl⟩
  have kt : kTo st l b0 nq xs (gMk Ψ1 key) σ' y (key, [], y, ns, gSs sc) := kTo.sr (Ψ := Ψ1) (Ψ' := gMk Ψ1 key) (W := fun _ => False) gKp.rf (fun _ _ => Iff.rfl) r3.1.1 y _ agm r2
  have kt : kTo st l b0 nq xs (kVl (gMk Ψ1 key) key y) σ' y (key, [], y, ns, gSs sc) := kTo.vl (Ψ := gMk Ψ1 key) (Ψ' := kVl (gMk Ψ1 key) key y) rfl rfl y (key, [], y, ns, gSs sc) (fun r hr => kv r hr) kt
  have tk' : toK (kVl (gMk Ψ1 key) key y) σ' y (key, [], y, ns, gSs sc) := toK.vl (Ψ := Ψ1) (Ψ' := kVl (gMk Ψ1 key) key y) rfl y (key, [], y, ns, gSs sc) (fun r hr => kv r hr) r9
  have r1 : oF κ T (n + 2) 28 [va_rf (some ch), .int (nI c), va_rf nl, va_rf os] σ = some (some (va_rf (some ((kVl (gMk Ψ1 key) key y).2.1 (key, [])))), σ') := by rw [kv [] (vPt_nil y)]; exact r1
  refine ⟨σ', _, kVl (gMk Ψ1 key) key y, Ls', r1, ?_, h.sh r3 r5 r6 ag (fun a ha z => ?_) r7 ro hpp hi, ⟨ag, fun k hk' => hk'.imp (fun z => by rw [r4.2.2.2] at z; exact z) id⟩, ⟨r5, r6⟩, r7, r8.c cs, tk'⟩
  · refine kRl.mk (m := (key, [], y, ns, gSs sc)) (G2 := []) ⟨rfl, rfl⟩ rfl ⟨Or.inr rfl, fun x hx => ?_⟩ kt kt.hd (Nat.zero_le _) (fun p hp => by cases hp) (fun x hx => ?_) ⟨_, _, rj.2⟩
    · obtain ⟨p, p1, p2⟩ := mS x hx
      obtain ⟨⟨u, u1, u2⟩, -⟩ := e3 p p1
      rw [← p2, u2]
      trivial
    · obtain ⟨p, p1, p2⟩ := mS x hx
      obtain ⟨⟨u, u1, u2⟩, u3, -⟩ := e3 p p1
      refine Or.inl ⟨rfl, ?_⟩
      show (x, Ψ1.1 x) ∈ Es
      have : Ψ1.1 x = p.2 := by rw [u3, p2, ← p2, u2]; exact eI u
      rw [this, ← p2]
      exact p1
  · obtain ⟨w, w1, w2⟩ := z
    rcases ha with ha | ⟨u, u1, u2⟩
    · have := (N1 w (hns.2 w w1).1).2.1.2
      omega
    · have := N2 u w (htl u u1) (hns.2 w w1).1 (by rw [← u2, ← w2])
      subst this
      exact (hns.2 u w1).2.2 u1
end GWT
