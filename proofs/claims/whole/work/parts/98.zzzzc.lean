/-! a PROGRAM's NAMES -/
/-- INPUTS told and counted, as the reference does -/
def kIn (f pp ee : Nat → Int32) : List (Nat × Nat) → kSt → kSt
  | [], q => q
  | x :: xs, q => kIn f pp ee xs (kTc f pp ee x.1 q)
/-- the wrong ones of INPUTS -/
def inW (FD : List Nat → Nat → Bool) : List (Nat × Nat) → List Nat → List Nat
  | [], _ => []
  | x :: xs, env => tlW FD x.1 env ++ inW FD xs (env ++ [x.1])
section PNM
variable {f pp ee kk : Nat → Int32} {T cnt : Nat}
theorem kIn_12 : ∀ (is : List (Nat × Nat)) (q : kSt), (kIn f pp ee is q).1 = q.1 ++ List.range' q.2.1.length is.length ∧ (kIn f pp ee is q).2.1 = q.2.1 ++ is.map Prod.fst
  | [], q => ⟨(List.append_nil _).symm, (List.append_nil _).symm⟩
  | x :: xs, q => by
    have h := kIn_12 xs (kTc f pp ee x.1 q)
    have g := kTc_12 (f := f) (pp := pp) (ee := ee) x.1 q
    rw [g.1, g.2, List.length_append, List.append_assoc, List.append_assoc] at h
    rw [List.length_cons, List.range'_succ, List.map_cons]
    exact h
theorem kIn_4 (hp : ∀ w, 0 ≤ pp w) : ∀ (is : List (Nat × Nat)) (q : kSt) (l : List Nat), kK q → isL pp q.2.2.2 l → isL pp (kIn f pp ee is q).2.2.2 (l ++ inW (kFd f pp ee) is (kEnv q)) ∧ kEnv (kIn f pp ee is q) = kEnv q ++ is.map Prod.fst ∧ kK (kIn f pp ee is q)
  | [], q, l, hk, h => by
    refine ⟨?_, (List.append_nil _).symm, hk⟩
    show isL pp q.2.2.2 (l ++ [])
    rw [List.append_nil]; exact h
  | x :: xs, q, l, hk, h => by
    obtain ⟨a1, a2, a3⟩ := kTc_4 (f := f) (ee := ee) hp x.1 hk h
    obtain ⟨b1, b2, b3⟩ := kIn_4 hp xs (kTc f pp ee x.1 q) _ a3 a1
    rw [a2] at b1 b2
    refine ⟨?_, ?_, b3⟩
    · show isL pp (kIn f pp ee xs (kTc f pp ee x.1 q)).2.2.2 (l ++ (tlW (kFd f pp ee) x.1 (kEnv q) ++ inW (kFd f pp ee) xs (kEnv q ++ [x.1])))
      rw [← List.append_assoc]
      exact b1
    · show kEnv (kIn f pp ee xs (kTc f pp ee x.1 q)) = _
      rw [b2, List.append_assoc]
      rfl
theorem nIn_3 : ∀ (is : List (Nat × Nat)) (ν : nSt), (nIn f pp ee is ν).2.2 = nHd ν.2.2 (inW (cFd f pp ee) is ν.1) ∧ (nIn f pp ee is ν).1 = ν.1 ++ is.map Prod.fst
  | [], ν => ⟨(nHd_nil _).symm, (List.append_nil _).symm⟩
  | x :: xs, ν => by
    have h := nIn_3 xs (nCnt x.1 (nTell f pp ee x.1 ν))
    have e1 : (nCnt x.1 (nTell f pp ee x.1 ν)).1 = ν.1 ++ [x.1] := by show (nTell f pp ee x.1 ν).1 ++ [x.1] = _; rw [(nTell_12 x.1 ν).1]
    rw [e1, show (nCnt x.1 (nTell f pp ee x.1 ν)).2.2 = (nTell f pp ee x.1 ν).2.2 from rfl, nTell_3, nHd_ap, List.append_assoc] at h
    exact h
theorem inW_sub {FD : List Nat → Nat → Bool} : ∀ (is : List (Nat × Nat)) (env : List Nat), (inW FD is env).Sublist (is.map Prod.fst)
  | [], _ => List.Sublist.refl _
  | x :: xs, env => (tlW_sub (FD := FD) x.1 env).append (inW_sub xs (env ++ [x.1]))
theorem inW_hd {FD FD' : List Nat → Nat → Bool} (hF : ∀ env w, env.length ≤ 12 → FD env w = FD' env w) : ∀ (is : List (Nat × Nat)) (env : List Nat), env.length + is.length ≤ 12 → inW FD is env = inW FD' is env
  | [], _, _ => rfl
  | x :: xs, env, h => by
    rw [List.length_cons] at h
    unfold inW
    rw [tlW_eq hF x.1 (by omega), inW_hd hF xs (env ++ [x.1]) (by rw [List.length_append]; show env.length + 1 + xs.length ≤ 12; omega)]
/-- INPUTS as they are read -/
theorem aNs_rd (hz : ∀ i, cnt ≤ i → kk i = 0) : ∀ (q i : Nat) (xs : List (Nat × Nat)) (j : Nat), aNs kk q i = .inr (xs, j) → rgL (xs.map Prod.fst) i j ∧ xs.length ≤ q ∧ ∀ x ∈ xs, x.1 < cnt
  | 0, i, xs, j, h => by
    unfold aNs at h
    split at h
    · cases h
    · injection h with h; injection h with h3 h4; subst h3; subst h4
      exact ⟨rgL.nil (Nat.le_refl _), Nat.le_refl _, fun x hx => by cases hx⟩
  | q + 1, i, xs, j, h => by
    unfold aNs at h
    split at h
    · obtain ⟨x, j1, h1, h⟩ := on_inr h
      obtain ⟨ys, j2, h2, h⟩ := on_inr h
      injection h with h; injection h with h3 h4; subst h3; subst h4
      obtain ⟨b1, b2, b3⟩ := aNs_rd hz q j1 ys j2 h2
      unfold aNp at h1
      obtain ⟨_, i1, g1, h1⟩ := on_inr h1
      obtain ⟨_, i2, g2, h1⟩ := on_inr h1
      obtain ⟨b, i3, g3, h1⟩ := on_inr h1
      obtain ⟨_, i4, g4, h1⟩ := on_inr h1
      injection h1 with h1; injection h1 with h5 h6; subst h5; subst h6
      have w1 := aMs_inr g1
      have w2 := aMs_inr g2
      have w4 := aMs_inr g4
      have w3 : i3 = i2 + 1 := by
        unfold aBs at g3
        split at g3
        · injection g3 with g3; injection g3 with _ g3; exact g3.symm
        split at g3
        · injection g3 with g3; injection g3 with _ g3; exact g3.symm
        split at g3
        · injection g3 with g3; injection g3 with _ g3; exact g3.symm
        · cases g3
      refine ⟨?_, by rw [List.length_cons]; omega, fun x hx => ?_⟩
      · rw [List.map_cons]
        exact (rgL.one (Nat.le_succ i) (Nat.lt_succ_self (i + 1))).ap (b1.mo (show i + 1 + 1 ≤ i4 by omega) (Nat.le_refl _)) (Nat.le_refl _)
      · rcases List.mem_cons.mp hx with e | e
        · rw [e]
          have l := (nz.one w1.1 (by decide)).lt hz (Nat.lt_succ_self _)
          show i + 1 < cnt
          omega
        · exact b3 x e
    · injection h with h; injection h with h3 h4; subst h3; subst h4
      exact ⟨rgL.nil (Nat.le_refl _), Nat.zero_le _, fun x hx => by cases hx⟩
theorem aPr_rd {g : Nat → Nat} (hz : ∀ i, cnt ≤ i → kk i = 0) (hg : gW kk g) {xs : List tQ} {is : List (Nat × Nat)} {e : tT} {j : Nat} (h : aPr kk T cnt = .inr ((xs, is, e), j)) : j = cnt ∧ rgL (is.map Prod.fst ++ tEv e) 0 cnt ∧ (is.length ≤ 6 ∧ ∀ x ∈ is, x.1 < cnt) ∧ tWf kk cnt e 0 ∧ tH e ≤ 31 ∧ (∀ X, cnt ≤ 2 * X → tD e ≤ 217 + X) ∧ 3 * (tW e).length + 1 ≤ g cnt := by
  unfold aPr at h
  obtain ⟨qs, j1, h1, h⟩ := on_inr h
  obtain ⟨is', j2, h2, h⟩ := on_inr h
  obtain ⟨t, j3, h3, h⟩ := on_inr h
  split at h
  · rename_i c
    injection h with h
    injection h with h4 h5
    injection h4 with h6 h7
    injection h7 with h8 h9
    subst h8
    subst h9
    subst h5
    obtain ⟨a1, a2, a3⟩ := aNs_rd hz 6 j1 is' j2 h2
    obtain ⟨b1, b2, b3, b4, b5, b6⟩ := aE_rd (T := T) hz hg 31 _ _ _ h3
    rw [c] at h3 b1 b2 b5 b6
    exact ⟨c, (a1.mo (Nat.zero_le _) (Nat.le_refl _)).ap (aE_ev 31 _ _ _ h3) (Nat.le_refl _), ⟨a2, a3⟩, b3, b4, fun X hX => b5 X (by omega), by omega⟩
  · cases h
end PNM
/-! the reference's check up to its types -/
section RCK
variable {ks : Nat → Nat} {qs : List Nat} {T n h0 len cnt lo N S P A : Nat} {kk pp ee f : Nat → Int32}
theorem r_inL {τ : zSt} {is0 : List (Nat × Nat)} {X : zSt → zRs} (hT : 2110 ≤ T) (hw : rW τ T len cnt kk pp ee f) (h42 : τ.1 42 = nI is0.length) (h6 : is0.length ≤ 6) (hi : ∀ b y, is0[b]? = some y → iR τ b y) (hX : ∀ t υ, kFm τ υ → l_check_22 T (zF h0 qs ks T (n + 5)) h0 qs ks (t + 1) (nI is0.length) υ = X υ) : ∀ (is : List (Nat × Nat)) (i t : Nat) (υ : zSt) (q : kSt), is0.drop i = is → i + is.length = is0.length → is.length < t → kFm τ υ → kR υ q → kOk cnt q → (∀ x ∈ is, x.1 < cnt) → q.1.length + is.length ≤ 400 → q.2.1.length + is.length ≤ 700 → ∃ υ', l_check_22 T (zF h0 qs ks T (n + 5)) h0 qs ks t (nI i) υ = X υ' ∧ kR υ' (kIn f pp ee is q) ∧ kFm τ υ' ∧ kOk cnt (kIn f pp ee is q)
  | [], i, t, υ, q, hd, hl, ht, g, hr, ho, _, _, _ => by
    obtain ⟨t, rfl⟩ : ∃ t', t = t' + 1 := ⟨t - 1, by omega⟩
    have : i = is0.length := hl
    subst this
    exact ⟨υ, hX t υ g, hr, g, ho⟩
  | x :: xs, i, t, υ, q, hd, hl, ht, g, hr, ho, hc, hE, hM => by
    rw [List.length_cons] at hl ht hE hM
    obtain ⟨t, rfl⟩ : ∃ t', t = t' + 1 := ⟨t - 1, by omega⟩
    have hx : is0[i]? = some x := by
      have : (is0.drop i)[0]? = some x := by rw [hd]; rfl
      rw [List.getElem?_drop] at this
      exact this
    have hd' : is0.drop (i + 1) = xs := by
      rw [← List.drop_drop, hd]; rfl
    have h27 : υ.2.2.1 27 i = nI x.1 := (congrFun (g.2.2.1 27 (by decide) (by decide) (by decide)) i).trans (hi i x hx).1
    have e42 : υ.1 42 = nI is0.length := (g.1 42 (by decide) (by decide) (by decide)).trans h42
    have hxc := hc x (List.mem_cons_self ..)
    obtain ⟨s1, e1, r1, f1⟩ : ∃ τ', zF h0 qs ks T (n + 5) 33 [.ref h0, .int (nI x.1)] υ = some (some (.int (nI q.2.1.length)), τ') ∧ kR τ' (kTell x.1 q) ∧ kFm υ τ' := r_tell (n := n + 4) (g.rw hw) hr hxc (by omega)
    have o1 := ho.tell hxc (show q.2.1.length < 700 by omega)
    have l1 : q.2.1.length < (kTell x.1 q).2.1.length := by show _ < (q.2.1 ++ [x.1]).length; rw [List.length_append]; simp
    obtain ⟨s2, e2, r2, f2⟩ : ∃ τ', zF h0 qs ks T (n + 5) 34 [.ref h0, .int (nI q.2.1.length)] s1 = some (none, τ') ∧ kR τ' (kTc f pp ee x.1 q) ∧ kFm s1 τ' := r_counts (n := n + 3) (by omega) ((g.tr f1).rw hw) r1 o1 l1 (by show q.1.length < 400; omega)
    have c12 := kTc_12 (f := f) (pp := pp) (ee := ee) x.1 q
    have o2 : kOk cnt (kTc f pp ee x.1 q) := o1.app l1 (kCnt_12 _ _)
    obtain ⟨υ', u1, u2, u3, u4⟩ := r_inL hT hw h42 h6 hi hX xs (i + 1) t s2 (kTc f pp ee x.1 q) hd' (by omega) (by omega) ((g.tr f1).tr f2) r2 o2 (fun y hy => hc y (List.mem_cons_of_mem _ hy)) (by rw [c12.1, List.length_append]; show q.1.length + 1 + xs.length ≤ 400; omega) (by rw [c12.2, List.length_append]; show q.2.1.length + 1 + xs.length ≤ 700; omega)
    refine ⟨υ', ?_, u2, u3, u4⟩
    rw [← u1, l_check_22, e42, if_neg (nI_ge (show i < is0.length by omega) (by omega))]
    simp only [zgd, zin_n (show i < 6 by omega) (by decide), if_true, nI_clamp (show i < 2 ^ 31 by omega), h27, e1, zci, e2, zcv]
    rw [show nI i + 1 = nI (i + 1) from nI_add i 1 ▸ rfl]
/-- what check does behind NAMES -/
def rK (T : Nat) (call : zCl) (h0 : Nat) (qs : List Nat) (ks : Nat → Nat) (s2 : zSt) : zRs := if (s2.1 52) < 0 then l_check_77 T call h0 qs ks T 0 s2 else zcv (call 3 [.ref h0, .int 3, .int (s2.1 52)] s2) fun s5 => some (none, s5)
/-- check() up to its NAMES -/
theorem r_chk {τ : zSt} {is : List (Nat × Nat)} {e : tT} {x : Nat} (hT : 2110 ≤ T) (hN : N ≤ 2100) (hS : S ≤ 2100) (hP : P ≤ 2100) (hA : A ≤ 2100) (hw : rW τ T len cnt kk pp ee f) (h42 : τ.1 42 = nI is.length) (h43 : τ.1 43 = nI x) (h6 : is.length ≤ 6) (hi : ∀ b y, is[b]? = some y → iR τ b y) (hc : ∀ y ∈ is, y.1 < cnt) (wf : tWf kk cnt e 0) (hH : tH e ≤ 31) (hW : (tW e).length ≤ 690) (hD : tD e ≤ n) (ht : rTr pp τ lo N S P A e 0 0 x) : ∃ υ, zF h0 qs ks T (n + 6) 64 [.ref h0] τ = rK T (zF h0 qs ks T (n + 5)) h0 qs ks υ ∧ kR υ (kT f pp ee e (kIn f pp ee is ([], [], τ.2.2.1 32, -1))) ∧ kOk cnt (kT f pp ee e (kIn f pp ee is ([], [], τ.2.2.1 32, -1))) ∧ kFm (zI τ 59 0) υ := by
  obtain ⟨q0, hq0⟩ : ∃ q : kSt, q = ([], [], τ.2.2.1 32, -1) := ⟨_, rfl⟩
  rw [← hq0]
  have hw' : rW (zI τ 59 0) T len cnt kk pp ee f := hw
  have ht' : rTr pp (zI τ 59 0) lo N S P A e 0 0 x := rTr.keep (τ := τ) (τ' := zI τ 59 0) ⟨fun _ _ _ => rfl, fun _ _ _ _ _ => rfl, fun _ _ _ _ _ => rfl, fun _ _ => rfl⟩ (Nat.le_refl _) (Nat.le_refl _) (Nat.le_refl _) (Nat.le_refl _) (Nat.le_refl _) e 0 0 x ht
  have g0 : kFm (zI τ 59 0) (zI (zI (zI (zI τ 50 0) 51 0) 52 (-1)) 59 0) := by
    refine ⟨fun k a b c => ?_, rfl, fun _ _ _ _ => rfl, rfl⟩
    by_cases d : k = 59
    · subst d; rfl
    · rw [zIn _ _ d, zIn _ _ c, zIn _ _ b, zIn _ _ a, zIn _ _ d]
  have r0 : kR (zI (zI (zI (zI τ 50 0) 51 0) 52 (-1)) 59 0) q0 := by
    rw [hq0]
    exact ⟨⟨rfl, fun i w h => by cases h⟩, ⟨rfl, fun i w h => by cases h⟩, rfl, rfl⟩
  have o0 : kOk cnt q0 := by
    rw [hq0]
    exact ⟨fun w h => (by cases h), fun w h => (by cases h), Nat.zero_le _⟩
  have l0 : q0.1.length = 0 ∧ q0.2.1.length = 0 := by rw [hq0]; exact ⟨rfl, rfl⟩
  have i12 := kIn_12 (f := f) (pp := pp) (ee := ee) is q0
  have L1 : (kIn f pp ee is q0).1.length = is.length := by rw [i12.1, List.length_append, l0.1, List.length_range', Nat.zero_add]
  have M1 : (kIn f pp ee is q0).2.1.length = is.length := by rw [i12.2, List.length_append, l0.2, List.length_map, Nat.zero_add]
  have X := r_inL (n := n) (h0 := h0) (qs := qs) (ks := ks) (τ := zI τ 59 0) (is0 := is) (X := fun υ => zcv (zF h0 qs ks T (n + 5) 39 [.ref h0, .int (υ.1 43)] υ) fun s2 => rK T (zF h0 qs ks T (n + 5)) h0 qs ks s2) hT hw' h42 h6 hi (fun t υ g => by
    rw [l_check_22, (g.1 42 (by decide) (by decide) (by decide)).trans (show (zI τ 59 0).1 42 = nI is.length from h42), if_pos (nI_le (Nat.le_refl _) (by omega))]
    rfl) is 0 T _ q0 rfl (Nat.zero_add _) (by omega) g0 r0 o0 hc (by omega) (by omega)
  obtain ⟨υ, e1, r1, f1, o1⟩ := X
  obtain ⟨υ', e2, r2, f2⟩ := (r_names (ks := ks) (qs := qs) (T := T) (h0 := h0) (len := len) (cnt := cnt) (lo := lo) (N := N) (S := S) (P := P) (A := A) (kk := kk) (pp := pp) (ee := ee) (f := f) hT hN hS hP hA e).1 υ (kIn f pp ee is q0) x (f1.rw hw') r1 o1 (by omega) (by omega) wf (ht'.fm f1) n hD
  refine ⟨υ', ?_, r2, o1.tr (kT_12 _ _) (tWf_tW e 0 wf) (by omega), f1.tr f2⟩
  have e43 : υ.1 43 = nI x := (f1.1 43 (by decide) (by decide) (by decide)).trans h43
  rw [show n + 6 = (n + 5) + 1 from rfl, zE_check]
  unfold b_check
  simp only [zlet]
  refine e1.trans ?_
  show zcv (zF h0 qs ks T (n + 5) 39 [.ref h0, .int (υ.1 43)] υ) _ = _
  rw [e43, e2]
  rfl
end RCK
