/-! TEMPLATES of a tree with what counts where they are made -/
section TLE
variable (tE tN : Nat → tY)
/-- all TEMPLATES, in the order of tLs -/
def tLe : tT → List Nat → List gTm
  | .leaf, _ => []
  | .inner g d _ a b, env =>
    if g = 1 then (2 * d.1, [], tE d.1, [], gSv tN env) :: (tLe a env ++ tLe b (env ++ [d.1 + 1]))
    else if g = 19 then (2 * d.1, [], tE d.1, [], gSv tN env) :: (tLe a env ++ tLe b (env ++ [d.2.1, d.2.1 + 1]))
    else if g = 2 then (2 * d.1, [], tE d.1, [], gSv tN env) :: (2 * d.1 + 1, [], tN (d.1 + 2), List.range' (d.1 + 3) d.2.1, gSv tN env) :: (tLe a (env ++ ([d.1 + 2] ++ List.range' (d.1 + 3) d.2.1)) ++ tLe b (env ++ [d.1 + 2]))
    else if g = 3 then (2 * d.1, [], tE d.1, [d.1 + 1], gSv tN env) :: tLe a (env ++ [d.1 + 1])
    else if g = 4 then (2 * d.1, [], tE d.1, [], gSv tN env) :: tLe b env
    else if g = 5 ∨ g = 33 ∨ g = 35 then tLe b env
    else if g = 6 ∨ g = 15 ∨ g = 16 then tLe a env
    else if g = 31 ∨ g = 34 then tLe a env ++ tLe b env
    else []
end TLE
/-- the TEMPLATE of a key -/
def rtO : List gTm → Nat → gTm
  | [], k => (k, [], .leaf, [], [])
  | m :: l, k => if m.1 = k then m else rtO l k
def m3 (m : gTm) : Nat × tY × List Nat := (m.1, m.2.2.1, m.2.2.2.1)
section TLO
variable {tE tN : Nat → tY}
theorem tLe_3 : ∀ (t : tT) (env : List Nat), (tLe tE tN t env).map m3 = tLs tE tN t ∧ ∀ m, m ∈ tLe tE tN t env → m.2.1 = []
  | .leaf, _ => ⟨rfl, fun m h => (by cases h)⟩
  | .inner g d z a b, env => by
    have Ia := tLe_3 a
    have Ib := tLe_3 b
    have two : ∀ e1 e2, (tLe tE tN a e1 ++ tLe tE tN b e2).map m3 = tLs tE tN a ++ tLs tE tN b ∧ ∀ m, m ∈ tLe tE tN a e1 ++ tLe tE tN b e2 → m.2.1 = [] := fun e1 e2 => ⟨by rw [List.map_append, (Ia e1).1, (Ib e2).1], fun m h => (List.mem_append.mp h).elim ((Ia e1).2 m) ((Ib e2).2 m)⟩
    have one : ∀ (x : gTm) (l : List gTm) (l' : List (Nat × tY × List Nat)), x.2.1 = [] → (l.map m3 = l' ∧ ∀ m, m ∈ l → m.2.1 = []) → ((x :: l).map m3 = m3 x :: l' ∧ ∀ m, m ∈ x :: l → m.2.1 = []) := fun x l l' h1 h2 => ⟨by rw [List.map_cons, h2.1], fun m h => (List.mem_cons.mp h).elim (fun e => by rw [e]; exact h1) (h2.2 m)⟩
    unfold tLe tLs
    by_cases c1 : g = 1
    · rw [if_pos c1, if_pos (Or.inl c1)]
      exact one _ _ _ rfl (two _ _)
    rw [if_neg c1]
    by_cases c19 : g = 19
    · rw [if_pos c19, if_pos (Or.inr c19)]
      exact one _ _ _ rfl (two _ _)
    rw [if_neg c19, if_neg (show ¬ (g = 1 ∨ g = 19) by omega)]
    by_cases c2 : g = 2
    · rw [if_pos c2, if_pos c2]
      exact one _ _ _ rfl (one _ _ _ rfl (two _ _))
    rw [if_neg c2, if_neg c2]
    by_cases c3 : g = 3
    · rw [if_pos c3, if_pos c3]
      exact one _ _ _ rfl (Ia _)
    rw [if_neg c3, if_neg c3]
    by_cases c4 : g = 4
    · rw [if_pos c4, if_pos c4]
      exact one _ _ _ rfl (Ib _)
    rw [if_neg c4, if_neg c4]
    by_cases c5 : g = 5 ∨ g = 33 ∨ g = 35
    · rw [if_pos c5, if_pos c5]; exact Ib _
    rw [if_neg c5, if_neg c5]
    by_cases c6 : g = 6 ∨ g = 15 ∨ g = 16
    · rw [if_pos c6, if_pos c6]; exact Ia _
    rw [if_neg c6, if_neg c6]
    by_cases c7 : g = 31 ∨ g = 34
    · rw [if_pos c7, if_pos c7]; exact two _ _
    rw [if_neg c7, if_neg c7]
    exact ⟨rfl, fun m h => (by cases h)⟩
theorem rtO_me : ∀ (l : List gTm), (l.map Prod.fst).Nodup → ∀ m, m ∈ l → rtO l m.1 = m
  | [], _, m, h => by cases h
  | x :: l, hn, m, h => by
    obtain ⟨n1, n2⟩ := List.nodup_cons.mp (show (x.1 :: l.map Prod.fst).Nodup from hn)
    unfold rtO
    rcases List.mem_cons.mp h with e | e
    · rw [e, if_pos rfl]
    · rw [if_neg (fun z => n1 (by rw [z]; exact List.mem_map.mpr ⟨m, e, rfl⟩))]
      exact rtO_me l n2 m e
/-- it is what the numbers were made from -/
theorem rtO_b : ∀ (l : List gTm) (fb cb k : Nat), (∀ m, m ∈ l → m.2.1 = []) → (match bFi (l.map m3) fb cb k with
    | none => rtO l k = (k, [], .leaf, [], [])
    | some e => (rtO l k).1 = k ∧ (rtO l k).2.1 = [] ∧ (rtO l k).2.2.1 = e.1 ∧ (rtO l k).2.2.2.1 = e.2.1)
  | [], _, _, _, _ => rfl
  | m :: l, fb, cb, k, h => by
    rw [List.map_cons]
    unfold bFi rtO
    by_cases c : m.1 = k
    · rw [if_pos (show (m3 m).1 = k from c), if_pos c]
      exact ⟨c, h m (List.mem_cons_self ..), rfl, rfl⟩
    · rw [if_neg (show ¬ (m3 m).1 = k from c), if_neg c]
      exact rtO_b l _ _ k (fun x hx => h x (List.mem_cons_of_mem _ hx))
theorem bFi_rc : ∀ (l : List (Nat × tY × List Nat)) (fb cb key : Nat) (e : tY × List Nat × Nat × Nat), bFi l fb cb key = some e → cb ≤ e.2.2.2 ∧ e.2.2.2 + yLs e.1 ≤ cb + lsC l
  | [], _, _, _, _, h => by cases h
  | x :: r, fb, cb, key, e, h => by
    unfold bFi at h
    rw [lsC_c]
    by_cases c : x.1 = key
    · rw [if_pos c] at h
      injection h with h
      subst h
      refine ⟨Nat.le_refl _, ?_⟩
      show cb + yLs x.2.1 ≤ _
      omega
    · rw [if_neg c] at h
      obtain ⟨h1, h2⟩ := bFi_rc r _ _ key e h
      exact ⟨by omega, by omega⟩
theorem bFi_dc : ∀ (l : List (Nat × tY × List Nat)) (fb cb key key' : Nat) (e e' : tY × List Nat × Nat × Nat), key ≠ key' → bFi l fb cb key = some e → bFi l fb cb key' = some e' → e.2.2.2 + yLs e.1 ≤ e'.2.2.2 ∨ e'.2.2.2 + yLs e'.1 ≤ e.2.2.2
  | [], _, _, _, _, _, _, _, h, _ => by cases h
  | x :: r, fb, cb, key, key', e, e', hk, h, h' => by
    unfold bFi at h h'
    by_cases c : x.1 = key
    · rw [if_pos c] at h
      rw [if_neg (fun z => hk (c.symm.trans z))] at h'
      injection h with h
      subst h
      left
      exact (bFi_rc r _ _ key' e' h').1
    · rw [if_neg c] at h
      by_cases c' : x.1 = key'
      · rw [if_pos c'] at h'
        injection h' with h'
        subst h'
        right
        exact (bFi_rc r _ _ key e h).1
      · rw [if_neg c'] at h'
        exact bFi_dc r _ _ key key' e e' hk h h'
/-- **NAMES and CASES have numbers of their own**, with the numbers of gaM -/
theorem rt_gaM {R : Nat → Int32} {L : List Nat} {nq : tQ → Int} {xs : List tQ} {inv : Nat → gN} {t : tT} {env : List Nat} (hi : ∀ x, vaG L (tLs tE tN t) x → inv (nuG R (tLs tE tN t) x) = x) (hN : rNu R L) (hl : lsF (tLs tE tN t) ≤ 800) (hP : ∀ x : Nat × tY × List Nat, x ∈ tLs tE tN t → ∀ (i w : Nat), x.2.2[i]? = some w → w ∈ L) (hy : ∀ x : Nat × tY × List Nat, x ∈ tLs tE tN t → yPr x.2.1) : rtQ (gaM R (tLs tE tN t) tN nq xs inv) (rtO (tLe tE tN t env)) ∧ rtI (gaM R (tLs tE tN t) tN nq xs inv) (rtO (tLe tE tN t env)) := by
  obtain ⟨e3, en⟩ := tLe_3 (tE := tE) (tN := tN) t env
  have B := fun k => rtO_b (tLe tE tN t env) 0 0 k en
  rw [e3] at B
  have pr : ∀ k, (rtO (tLe tE tN t env) k).1 = k ∧ (rtO (tLe tE tN t env) k).2.1 = [] ∧ yPr (rtO (tLe tE tN t env) k).2.2.1 := fun k => by
    have b := B k
    cases e : bFi (tLs tE tN t) 0 0 k with
    | none => rw [e] at b; rw [b]; exact ⟨rfl, rfl, trivial⟩
    | some x =>
      rw [e] at b
      obtain ⟨b1, b2, b3, b4⟩ := b
      refine ⟨b1, b2, ?_⟩
      rw [b3]
      exact hy _ (bFi_rg _ _ _ _ _ e).2.2
  refine ⟨rtQ_of pr (fun k w hw => ?_) (fun k p hp => ?_), rtI_of (fun k => (pr k).2.2) (fun k => match bFi (tLs tE tN t) 0 0 k with | none => 0 | some e => e.2.2.2) (fun k p hp => ?_) (fun k k' hk h1 h2 => ?_)⟩
  · have b := B k
    cases e : bFi (tLs tE tN t) 0 0 k with
    | none => rw [e] at b; rw [b] at hw; cases hw
    | some x =>
      rw [e] at b
      rw [b.2.2.2] at hw
      obtain ⟨i, hi'⟩ := List.getElem?_of_mem hw
      exact gaM_nm hi hN hl _ (hP _ (bFi_rg _ _ _ _ _ e).2.2 i w hi')
  · have b := B k
    cases e : bFi (tLs tE tN t) 0 0 k with
    | none => rw [e] at b; rw [b] at hp; exact hp.elim
    | some x =>
      rw [e] at b
      rw [b.2.2.2, b.2.2.1] at hp
      exact gaM_nm hi hN hl _ ⟨x, e, hp⟩
  · have b := B k
    cases e : bFi (tLs tE tN t) 0 0 k with
    | none => rw [e] at b; rw [b] at hp; exact hp.elim
    | some x =>
      rw [e] at b
      rw [b.2.2.1]
      show (match bFi (tLs tE tN t) 0 0 k with | none => 0 | some e => e.2.2.2 + pLf e.1 p) = x.2.2.2 + pLf x.1 p
      rw [e]
  · have b := B k
    have b' := B k'
    cases e : bFi (tLs tE tN t) 0 0 k with
    | none => rw [e] at b; rw [b] at h1; exact absurd rfl h1
    | some x =>
      cases e' : bFi (tLs tE tN t) 0 0 k' with
      | none => rw [e'] at b'; rw [b'] at h2; exact absurd rfl h2
      | some x' =>
        rw [e] at b
        rw [e'] at b'
        rw [b.2.2.1, b'.2.2.1]
        exact bFi_dc _ _ _ k k' x x' hk e e'
end TLO
