/-! an E's cells, and what is known of the nodes that have TEMPLATES -/
section CTX
variable (κ : oKv) (T : Nat) (kk pp ee f : Nat → Int32) (A : Nat → Nat) (D : cDt)
/-- the cells of an E, with X of each let, fun, if, match and its first word -/
def cTX (X : Nat → Nat → Prop) (lo : Nat) (σ : oSt) (nm : Nat → Option Nat) : tT → List Nat → Nat → (Nat → Option Nat) → Nat → Nat → Prop
  | .leaf, _, _, _, k, m => k = m
  | .inner n d _ a b, env, fk, g, k, m => match n with
    | 1 => X m d.1 ∧ cOk A D lo σ m ∧ ∃ x y w, σ.1 m = some (.inr (7, cEn 212 (pp d.1) (nI env.length) (pp d.1) 0 0 .null (.ref w) .null (.ref x) (.ref y) .null .null .null .null .null)) ∧ cNx A D lo σ nm (d.1 + 1) env.length w ∧ cTX X lo σ nm a env fk (fun _ => none) 0 x ∧ cTX X lo σ nm b (env ++ [d.1 + 1]) (fk + nF a) (fun _ => none) 0 y
    | 2 => X m d.1 ∧ cOk A D lo σ m ∧ ∃ x y w q, σ.1 m = some (.inr (7, cEn 219 (pp d.1) (nI env.length) (pp d.1) 0 (nI fk) .null (.ref w) (.ref q) (.ref x) (.ref y) .null .null .null .null .null)) ∧ D.2.2.2 fk = some m ∧ cNx A D lo σ nm (d.1 + 2) env.length w ∧ cNl κ A D lo σ nm q (d.1 + 3) d.2.1 (env.length + 1) ∧ cTX X lo σ nm a (env ++ ([d.1 + 2] ++ List.range' (d.1 + 3) d.2.1)) (fk + 1) (fun _ => none) 0 x ∧ cTX X lo σ nm b (env ++ [d.1 + 2]) (fk + 1 + nF a) (fun _ => none) 0 y
    | 3 => X m d.1 ∧ cOk A D lo σ m ∧ ∃ x q mk, σ.1 m = some (.inr (7, cEn 206 (pp d.1) (nI env.length) mk 0 (nI fk) .null .null (.ref q) (.ref x) .null .null .null .null .null .null)) ∧ D.2.2.2 fk = some m ∧ cNl κ A D (m + 1) σ nm q (d.1 + 1) 1 env.length ∧ cTX X (m + 1) σ nm a (env ++ [d.1 + 1]) (fk + 1) (fun _ => none) 0 x
    | 4 => X m d.1 ∧ cOk A D lo σ m ∧ ∃ c x y, σ.1 m = some (.inr (7, cEn 207 (pp d.1) (nI env.length) (pp d.1) 0 0 .null .null .null (.ref x) (.ref y) (.ref c) .null .null .null .null)) ∧ cCt κ T kk pp ee f A D lo σ env.length (nR f pp ee nm env) a (fun _ => none) 0 c ∧ cTX X lo σ nm b env fk (fun _ => some x) 0 y
    | 5 => cOk A D lo σ m ∧ ∃ c x, σ.1 m = some (.inr (7, cEn 201 (pp d.1) (nI env.length) (pp d.1) 0 0 .null .null .null (.ref x) .null (.ref c) .null .null (.ref c) .null)) ∧ cCt κ T kk pp ee f A D lo σ env.length (nR f pp ee nm env) a (fun _ => none) 0 c ∧ cTX X lo σ nm b env fk (fun _ => none) 0 x
    | 6 => cOk A D lo σ m ∧ ∃ x l r nd su su', σ.1 m = some (.inr (7, cEn 220 (pp d.1) (nI env.length) (pp (d.1 + 2)) (pp (d.1 + 1)) 0 (va_rf (nR f pp ee nm env (d.1 + 1))) .null .null (.ref x) .null .null (.ref l) (.ref r) (.ref nd) .null)) ∧ cSq κ T pp ee f A D lo σ l (pp d.2.2.2.1.1) env.length (nR f pp ee nm env) d.2.2.2.1 (tAl kk d.2.2.2.1) su ∧ cSq κ T pp ee f A D lo σ r (pp d.2.2.2.2.1) env.length (nR f pp ee nm env) d.2.2.2.2 (tAl kk d.2.2.2.2) su' ∧ cIn κ T pp ee f A D lo σ nd su env.length (nR f pp ee nm env) (d.1 + 1) d.2.2.2.1 ∧ cTX X lo σ nm a env fk (fun _ => none) 0 x
    | 7 => cOk A D lo σ m ∧ ∃ l c su, σ.1 m = some (.inr (7, cEn 215 (pp d.1) (nI env.length) (pp d.1) 0 0 .null .null .null .null .null .null (.ref l) .null (.ref c) .null)) ∧ cSq κ T pp ee f A D lo σ l (pp d.2.2.2.1.1) env.length (nR f pp ee nm env) d.2.2.2.1 (tAl kk d.2.2.2.1) su ∧ cCq A D lo σ c su env.length 301
    | 8 => cOk A D lo σ m ∧ σ.1 m = some (.inr (7, cNd 223 (pp d.1) (nI env.length)))
    | 9 => cOk A D lo σ m ∧ σ.1 m = some (.inr (7, cNd 205 (pp d.1) (nI env.length)))
    | 10 => ∃ su, cSq κ T pp ee f A D lo σ m (pp d.2.2.2.1.1) env.length (nR f pp ee nm env) d.2.2.2.1 (tAl kk d.2.2.2.1) su
    | 11 => cOk A D lo σ m ∧ ∃ l r su su', σ.1 m = some (.inr (7, cEn 42 (pp d.1) (nI env.length) (pp d.2.1) 0 0 .null .null .null .null .null .null (.ref l) (.ref r) .null .null)) ∧ cSq κ T pp ee f A D lo σ l (pp d.2.2.2.1.1) env.length (nR f pp ee nm env) d.2.2.2.1 (tAl kk d.2.2.2.1) su ∧ cSq κ T pp ee f A D lo σ r (pp d.2.2.2.2.1) env.length (nR f pp ee nm env) d.2.2.2.2 (tAl kk d.2.2.2.2) su'
    | 12 => cOk A D lo σ m ∧ ∃ l r c su su', σ.1 m = some (.inr (7, cEn 47 (pp d.1) (nI env.length) (pp d.2.1) 0 0 .null .null .null .null .null .null (.ref l) (.ref r) (.ref c) .null)) ∧ cSq κ T pp ee f A D lo σ l (pp d.2.2.2.1.1) env.length (nR f pp ee nm env) d.2.2.2.1 (tAl kk d.2.2.2.1) su ∧ cSq κ T pp ee f A D lo σ r (pp d.2.2.2.2.1) env.length (nR f pp ee nm env) d.2.2.2.2 (tAl kk d.2.2.2.2) su' ∧ cCq A D lo σ c su' env.length 35
    | 13 => cOk A D lo σ m ∧ ∃ l r c su su', σ.1 m = some (.inr (7, cEn 37 (pp d.1) (nI env.length) (pp d.2.1) 0 0 .null .null .null .null .null .null (.ref l) (.ref r) (.ref c) .null)) ∧ cSq κ T pp ee f A D lo σ l (pp d.2.2.2.1.1) env.length (nR f pp ee nm env) d.2.2.2.1 (tAl kk d.2.2.2.1) su ∧ cSq κ T pp ee f A D lo σ r (pp d.2.2.2.2.1) env.length (nR f pp ee nm env) d.2.2.2.2 (tAl kk d.2.2.2.2) su' ∧ cCq A D lo σ c su' env.length 35
    | 14 => cOk A D lo σ m ∧ ∃ l nd su, σ.1 m = some (.inr (7, cEn 91 (pp d.1) (nI env.length) (pp (d.1 + 1)) (pp d.1) 0 (va_rf (nR f pp ee nm env d.1)) .null .null .null .null .null (.ref l) .null (.ref nd) .null)) ∧ cSq κ T pp ee f A D lo σ l (pp d.2.2.2.1.1) env.length (nR f pp ee nm env) d.2.2.2.1 (tAl kk d.2.2.2.1) su ∧ cIn κ T pp ee f A D lo σ nd su env.length (nR f pp ee nm env) d.1 d.2.2.2.1
    | 15 => cOk A D lo σ m ∧ ∃ pa q g', σ.1 m = some (.inr (7, cEn 401 (pp d.1) (nI env.length) (pp d.1) (pp d.1) 0 (va_rf (nR f pp ee nm env d.1)) .null .null .null .null .null .null .null .null (.ref pa))) ∧ cLn κ A D lo σ pa q g' ∧ cTX X lo σ nm a env fk g' 0 q
    | 16 => cOk A D lo σ m ∧ ∃ x, σ.1 m = some (.inr (7, cEn 40 (pp d.1) (nI env.length) (pp d.1) 0 0 .null .null .null (.ref x) .null .null .null .null .null .null)) ∧ cTX X lo σ nm a env fk (fun _ => none) 0 x
    | 17 => cOk A D lo σ m ∧ σ.1 m = some (.inr (7, cNd 216 (pp d.1) (nI env.length)))
    | 18 => cOk A D lo σ m ∧ ∃ l su, σ.1 m = some (.inr (7, cEn 203 (pp d.1) (nI env.length) (pp d.1) (pp d.2.1) 0 (va_rf (nR f pp ee nm env d.2.1)) .null .null .null .null .null (.ref l) .null .null .null)) ∧ cSq κ T pp ee f A D lo σ l (pp d.2.2.2.1.1) env.length (nR f pp ee nm env) d.2.2.2.1 (tAl kk d.2.2.2.1) su
    | 19 => X m d.1 ∧ cOk A D lo σ m ∧ ∃ x y c q su na ta, σ.1 m = some (.inr (7, cEn 214 (pp d.1) (nI env.length) (pp d.1) (pp (d.1 + 1)) 0 (va_rf (nR f pp ee nm env (d.1 + 1))) .null (.ref q) (.ref x) (.ref y) (.ref c) .null .null .null .null)) ∧ cCq A D lo σ c su env.length 300 ∧ (cSm σ su na ta 2 (sNo (nR f pp ee nm env (d.1 + 1)) 1 []) 0 ∧ cOk A D lo σ su ∧ cOk A D lo σ na ∧ cOk A D lo σ ta) ∧ cNl κ A D lo σ nm q d.2.1 2 env.length ∧ cTX X lo σ nm a env fk (fun _ => none) 0 x ∧ cTX X lo σ nm b (env ++ [d.2.1, d.2.1 + 1]) (fk + nF a) (fun _ => none) 0 y
    | 31 => ∃ x, g k = some x ∧ cTX X lo σ nm a env fk (fun _ => none) 0 x ∧ cTX X lo σ nm b env (fk + nF a) (fun _ => none) 0 m
    | 33 => ∃ x su, g k = some x ∧ cSq κ T pp ee f A D lo σ x (pp d.1) env.length (nR f pp ee nm env) d.2.2.2.1 (if d.2.1 = 1 then 0 else tAl kk d.2.2.2.1) su ∧ cTX X lo σ nm b env fk g (k + 1) m
    | 34 => ∃ x fs, g k = some x ∧ (cOk A D lo σ x ∧ σ.1 x = some (.inr (7, fs)) ∧ fs[3]? = some (.int (pp d.1))) ∧ cTX X lo σ nm a env fk (fun _ => none) 0 x ∧ cTX X lo σ nm b env (fk + nF a) g (k + 1) m
    | 35 => ∃ x, g k = some x ∧ (cOk A D lo σ x ∧ σ.1 x = some (.inr (7, cNd (if d.2.1 = 1 then 223 else 205) (pp d.1) (nI env.length)))) ∧ cTX X lo σ nm b env fk g (k + 1) m
    | _ => False
end CTX
section CTY
variable {κ : oKv} {T : Nat} {kk pp ee f : Nat → Int32} {A : Nat → Nat} {D : cDt} {σ : oSt} {nm : Nat → Option Nat} {X X' : Nat → Nat → Prop}
theorem cTX.imp : ∀ (t : tT) (lo i j : Nat) (env : List Nat) (fk : Nat) (g : Nat → Option Nat) (k m : Nat), tRg t i j → (∀ m u fs, i ≤ u → u < j → σ.1 m = some (.inr (7, fs)) → fs[1]? = some (.int (pp u)) → X m u → X' m u) → cTX κ T kk pp ee f A D X lo σ nm t env fk g k m → cTX κ T kk pp ee f A D X' lo σ nm t env fk g k m
  | .leaf, _, _, _, _, _, _, _, _, _, _, h => h
  | .inner n d _ a b, lo, i, j, env, fk, g, k, m, hr, hX, h => by
    have Ia := cTX.imp a
    have Ib := cTX.imp b
    by_cases c31 : n = 31
    · subst c31
      obtain ⟨l, r1, r2⟩ := hr
      have l1 := tRg.le _ _ _ r1
      have l2 := tRg.le _ _ _ r2
      obtain ⟨x, h1, h2, h3⟩ := h
      exact ⟨x, h1, Ia _ _ _ _ _ _ _ _ r1 (fun m u fs q1 q2 => hX m u fs q1 (by omega)) h2, Ib _ _ _ _ _ _ _ _ r2 (fun m u fs q1 q2 => hX m u fs (by omega) q2) h3⟩
    unfold tRg at hr
    rw [if_neg c31] at hr
    obtain ⟨⟨r1, r2, -, -⟩, l, ⟨r3, -⟩, ra, rb⟩ := hr
    have lb := tRg.le _ _ _ rb
    have Jb : ∀ lo env fk g k m, cTX κ T kk pp ee f A D X lo σ nm b env fk g k m → cTX κ T kk pp ee f A D X' lo σ nm b env fk g k m := fun lo env fk g k m => Ib lo _ _ env fk g k m rb (fun m u fs q1 q2 => hX m u fs (by omega) q2)
    have Ja : ¬ (n = 4 ∨ n = 5) → ∀ lo env fk g k m, cTX κ T kk pp ee f A D X lo σ nm a env fk g k m → cTX κ T kk pp ee f A D X' lo σ nm a env fk g k m := fun c lo env fk g k m => by
      rw [if_neg c] at ra
      have la := tRg.le _ _ _ ra
      exact Ia lo _ _ env fk g k m ra (fun m u fs q1 q2 => hX m u fs (by omega) (by omega))
    clear ra Ia Ib
    unfold cTX at h ⊢
    split at h
    · obtain ⟨h0, h1, x, y, w, h2, h3, h4, h5⟩ := h
      exact ⟨hX _ _ _ r1 r2 h2 rfl h0, h1, x, y, w, h2, h3, Ja (by decide) _ _ _ _ _ _ h4, Jb _ _ _ _ _ _ h5⟩
    · obtain ⟨h0, h1, x, y, w, q, h2, h3, h4, h5, h6, h7⟩ := h
      exact ⟨hX _ _ _ r1 r2 h2 rfl h0, h1, x, y, w, q, h2, h3, h4, h5, Ja (by decide) _ _ _ _ _ _ h6, Jb _ _ _ _ _ _ h7⟩
    · obtain ⟨h0, h1, x, q, mk, h2, h3, h4, h5⟩ := h
      exact ⟨hX _ _ _ r1 r2 h2 rfl h0, h1, x, q, mk, h2, h3, h4, Ja (by decide) _ _ _ _ _ _ h5⟩
    · obtain ⟨h0, h1, c, x, y, h2, h3, h4⟩ := h
      exact ⟨hX _ _ _ r1 r2 h2 rfl h0, h1, c, x, y, h2, h3, Jb _ _ _ _ _ _ h4⟩
    · obtain ⟨h1, c, x, h2, h3, h4⟩ := h
      exact ⟨h1, c, x, h2, h3, Jb _ _ _ _ _ _ h4⟩
    · obtain ⟨h1, x, l, r, nd, su, su', h2, h3, h4, h5, h6⟩ := h
      exact ⟨h1, x, l, r, nd, su, su', h2, h3, h4, h5, Ja (by decide) _ _ _ _ _ _ h6⟩
    · exact h
    · exact h
    · exact h
    · exact h
    · exact h
    · exact h
    · exact h
    · exact h
    · obtain ⟨h1, pa, q, g', h2, h3, h4⟩ := h
      exact ⟨h1, pa, q, g', h2, h3, Ja (by decide) _ _ _ _ _ _ h4⟩
    · obtain ⟨h1, x, h2, h3⟩ := h
      exact ⟨h1, x, h2, Ja (by decide) _ _ _ _ _ _ h3⟩
    · exact h
    · exact h
    · obtain ⟨h0, h1, x, y, c, q, su, na, ta, h2, h3, h4, h5, h6, h7⟩ := h
      exact ⟨hX _ _ _ r1 r2 h2 rfl h0, h1, x, y, c, q, su, na, ta, h2, h3, h4, h5, Ja (by decide) _ _ _ _ _ _ h6, Jb _ _ _ _ _ _ h7⟩
    · exact absurd rfl c31
    · obtain ⟨x, su, h1, h2, h3⟩ := h
      exact ⟨x, su, h1, h2, Jb _ _ _ _ _ _ h3⟩
    · obtain ⟨x, fs, h1, h2, h3, h4⟩ := h
      exact ⟨x, fs, h1, h2, Ja (by decide) _ _ _ _ _ _ h3, Jb _ _ _ _ _ _ h4⟩
    · obtain ⟨x, h1, h2, h3⟩ := h
      exact ⟨x, h1, h2, Jb _ _ _ _ _ _ h3⟩
    · exact h.elim
theorem cTX.of : ∀ (t : tT) (lo : Nat) (env : List Nat) (fk : Nat) (g : Nat → Option Nat) (k m : Nat), (∀ m u, X m u) → cTr κ T kk pp ee f A D lo σ nm t env fk g k m → cTX κ T kk pp ee f A D X lo σ nm t env fk g k m
  | .leaf, _, _, _, _, _, _, hX, h => h
  | .inner n d _ a b, lo, env, fk, g, k, m, hX, h => by
    have Ia := cTX.of a
    have Ib := cTX.of b
    unfold cTr at h
    unfold cTX
    split at h
    · obtain ⟨h1, x, y, w, h2, h3, h4, h5⟩ := h
      exact ⟨hX _ _, h1, x, y, w, h2, h3, Ia _ _ _ _ _ _ hX h4, Ib _ _ _ _ _ _ hX h5⟩
    · obtain ⟨h1, x, y, w, q, h2, h3, h4, h5, h6, h7⟩ := h
      exact ⟨hX _ _, h1, x, y, w, q, h2, h3, h4, h5, Ia _ _ _ _ _ _ hX h6, Ib _ _ _ _ _ _ hX h7⟩
    · obtain ⟨h1, x, q, mk, h2, h3, h4, h5⟩ := h
      exact ⟨hX _ _, h1, x, q, mk, h2, h3, h4, Ia _ _ _ _ _ _ hX h5⟩
    · obtain ⟨h1, c, x, y, h2, h3, h4⟩ := h
      exact ⟨hX _ _, h1, c, x, y, h2, h3, Ib _ _ _ _ _ _ hX h4⟩
    · obtain ⟨h1, c, x, h2, h3, h4⟩ := h
      exact ⟨h1, c, x, h2, h3, Ib _ _ _ _ _ _ hX h4⟩
    · obtain ⟨h1, x, l, r, nd, su, su', h2, h3, h4, h5, h6⟩ := h
      exact ⟨h1, x, l, r, nd, su, su', h2, h3, h4, h5, Ia _ _ _ _ _ _ hX h6⟩
    · exact h
    · exact h
    · exact h
    · exact h
    · exact h
    · exact h
    · exact h
    · exact h
    · obtain ⟨h1, pa, q, g', h2, h3, h4⟩ := h
      exact ⟨h1, pa, q, g', h2, h3, Ia _ _ _ _ _ _ hX h4⟩
    · obtain ⟨h1, x, h2, h3⟩ := h
      exact ⟨h1, x, h2, Ia _ _ _ _ _ _ hX h3⟩
    · exact h
    · exact h
    · obtain ⟨h1, x, y, c, q, su, na, ta, h2, h3, h4, h5, h6, h7⟩ := h
      exact ⟨hX _ _, h1, x, y, c, q, su, na, ta, h2, h3, h4, h5, Ia _ _ _ _ _ _ hX h6, Ib _ _ _ _ _ _ hX h7⟩
    · obtain ⟨x, h1, h2, h3⟩ := h
      exact ⟨x, h1, Ia _ _ _ _ _ _ hX h2, Ib _ _ _ _ _ _ hX h3⟩
    · obtain ⟨x, su, h1, h2, h3⟩ := h
      exact ⟨x, su, h1, h2, Ib _ _ _ _ _ _ hX h3⟩
    · obtain ⟨x, fs, h1, h2, h3, h4⟩ := h
      exact ⟨x, fs, h1, h2, Ia _ _ _ _ _ _ hX h3, Ib _ _ _ _ _ _ hX h4⟩
    · obtain ⟨x, h1, h2, h3⟩ := h
      exact ⟨x, h1, h2, Ib _ _ _ _ _ _ hX h3⟩
    · exact h.elim
theorem cTX.tr : ∀ (t : tT) (lo : Nat) (env : List Nat) (fk : Nat) (g : Nat → Option Nat) (k m : Nat), cTX κ T kk pp ee f A D X lo σ nm t env fk g k m → cTr κ T kk pp ee f A D lo σ nm t env fk g k m
  | .leaf, _, _, _, _, _, _, h => h
  | .inner n d _ a b, lo, env, fk, g, k, m, h => by
    have Ia := cTX.tr a
    have Ib := cTX.tr b
    unfold cTX at h
    unfold cTr
    split at h
    · obtain ⟨h0, h1, x, y, w, h2, h3, h4, h5⟩ := h
      exact ⟨h1, x, y, w, h2, h3, Ia _ _ _ _ _ _ h4, Ib _ _ _ _ _ _ h5⟩
    · obtain ⟨h0, h1, x, y, w, q, h2, h3, h4, h5, h6, h7⟩ := h
      exact ⟨h1, x, y, w, q, h2, h3, h4, h5, Ia _ _ _ _ _ _ h6, Ib _ _ _ _ _ _ h7⟩
    · obtain ⟨h0, h1, x, q, mk, h2, h3, h4, h5⟩ := h
      exact ⟨h1, x, q, mk, h2, h3, h4, Ia _ _ _ _ _ _ h5⟩
    · obtain ⟨h0, h1, c, x, y, h2, h3, h4⟩ := h
      exact ⟨h1, c, x, y, h2, h3, Ib _ _ _ _ _ _ h4⟩
    · obtain ⟨h1, c, x, h2, h3, h4⟩ := h
      exact ⟨h1, c, x, h2, h3, Ib _ _ _ _ _ _ h4⟩
    · obtain ⟨h1, x, l, r, nd, su, su', h2, h3, h4, h5, h6⟩ := h
      exact ⟨h1, x, l, r, nd, su, su', h2, h3, h4, h5, Ia _ _ _ _ _ _ h6⟩
    · exact h
    · exact h
    · exact h
    · exact h
    · exact h
    · exact h
    · exact h
    · exact h
    · obtain ⟨h1, pa, q, g', h2, h3, h4⟩ := h
      exact ⟨h1, pa, q, g', h2, h3, Ia _ _ _ _ _ _ h4⟩
    · obtain ⟨h1, x, h2, h3⟩ := h
      exact ⟨h1, x, h2, Ia _ _ _ _ _ _ h3⟩
    · exact h
    · exact h
    · obtain ⟨h0, h1, x, y, c, q, su, na, ta, h2, h3, h4, h5, h6, h7⟩ := h
      exact ⟨h1, x, y, c, q, su, na, ta, h2, h3, h4, h5, Ia _ _ _ _ _ _ h6, Ib _ _ _ _ _ _ h7⟩
    · obtain ⟨x, h1, h2, h3⟩ := h
      exact ⟨x, h1, Ia _ _ _ _ _ _ h2, Ib _ _ _ _ _ _ h3⟩
    · obtain ⟨x, su, h1, h2, h3⟩ := h
      exact ⟨x, su, h1, h2, Ib _ _ _ _ _ _ h3⟩
    · obtain ⟨x, fs, h1, h2, h3, h4⟩ := h
      exact ⟨x, fs, h1, h2, Ia _ _ _ _ _ _ h3, Ib _ _ _ _ _ _ h4⟩
    · obtain ⟨x, h1, h2, h3⟩ := h
      exact ⟨x, h1, h2, Ib _ _ _ _ _ _ h3⟩
    · exact h.elim
end CTY
/-- the node m has the type of the E at the word u -/
def eY (σ : oSt) (g : gG) (T : Nat → mF) (s : mS) (m u : Nat) : Prop := mSat s.1 → ∃ c, ofd σ (some m) 7 8 = some (.int (nI c)) ∧ gY g T s c (s.2.2.2.1 u)
theorem eY.up {σ σ' : oSt} {g g' : gG} {T T' : Nat → mF} {s s' : mS} {m u : Nat} {W : List Nat} (h : eY σ g T s m u) (hσ : σ'.1 m = σ.1 m) (e : xE g T g' T') (hs : mLe W s s') (ht : s'.2.2.2.1 u = s.2.2.2.1 u) : eY σ' g' T' s' m u := fun z => by
  obtain ⟨c, h1, h2⟩ := h (hs.sat z)
  refine ⟨c, (ofd_cg hσ).trans h1, ?_⟩
  rw [ht]
  exact h2.up e hs
section MTB
variable {f pp ee : Nat → Int32} {env : List Nat}
theorem mPs_tab (ps : List tP) (s : mS) : (mPs f pp ee env ps s).2.2.2 = s.2.2.2 := by
  unfold mPs
  induction ps generalizing s with
  | nil => rfl
  | cons p ps IH =>
    rw [List.foldl_cons, IH]
    unfold mPt
    split <;> rfl
theorem mCt_tab : ∀ (t : tT) (s : mS), (mCt f pp ee env t s).2.2.2 = s.2.2.2
  | .leaf, s => rfl
  | .inner g d _ a b, s => by
    unfold mCt
    split
    · rfl
    · split
      · rw [mPs_tab, mPs_tab]
      · rw [mCt_tab b, mCt_tab a]
theorem mSu_tab (ps : List tP) (s : mS) : (mSu f pp ee env ps s).1.2.2.2 = s.2.2.2 := by
  unfold mSu
  split
  · rfl
  · exact mPs_tab ps s
theorem mPa_tab : ∀ (q w v : Nat) (s : mS), (mPa q w v s).2.2.2 = s.2.2.2
  | 0, _, _, _ => rfl
  | q + 1, w, v, s => mPa_tab q (w + 1) (v + 1) (mNt w (mV v) s)
theorem mOp_tab (pl : Int32) : ∀ (q : Nat) (t : mF) (s : mS), (mOp pl q t s).2.2.2 = s.2.2.2
  | 0, _, _ => rfl
  | q + 1, t, s => mOp_tab pl q (fun α => yR (t α)) (mAdd (fun α => yIs (t α)) pl s)
/-- types of E's in the words from i to j alone are told -/
theorem mE_tab : ∀ (t : tT) (env : List Nat) (s : mS) (i j u : Nat), tRg t i j → (u < i ∨ j ≤ u) → (mE f pp ee t env s).1.2.2.2.1 u = s.2.2.2.1 u
  | .leaf, _, _, _, _, _, _, _ => rfl
  | .inner g d _ a b, env, s, i, j, u, hr, hu => by
    by_cases c31 : g = 31
    · subst c31
      obtain ⟨l, r1, r2⟩ := hr
      have l1 := tRg.le _ _ _ r1
      have l2 := tRg.le _ _ _ r2
      show (mE f pp ee b env (mE f pp ee a env s).1).1.2.2.2.1 u = _
      rw [mE_tab b _ _ _ _ u r2 (by omega), mE_tab a _ _ _ _ u r1 (by omega)]
    unfold tRg at hr
    rw [if_neg c31] at hr
    obtain ⟨⟨r1, r2, -, -⟩, l, ⟨r3, -⟩, ra, rb⟩ := hr
    have lb := tRg.le _ _ _ rb
    have ne : u ≠ d.1 := by omega
    have Jb : ∀ env s, (mE f pp ee b env s).1.2.2.2.1 u = s.2.2.2.1 u := fun env s => mE_tab b env s _ _ u rb (by omega)
    have Ja : ¬ (g = 4 ∨ g = 5) → ∀ env s, (mE f pp ee a env s).1.2.2.2.1 u = s.2.2.2.1 u := fun c env s => by
      rw [if_neg c] at ra
      have la := tRg.le _ _ _ ra
      exact mE_tab a env s _ _ u ra (by omega)
    have et : ∀ (t : mF) (s : mS), (mEt d.1 t s).2.2.2.1 u = s.2.2.2.1 u := fun t s => mUp_ne _ _ ne
    by_cases c1 : g = 1
    · subst c1
      show (mEt d.1 _ _).2.2.2.1 u = _
      rw [et, Jb]
      exact Ja (by decide) _ _
    by_cases c2 : g = 2
    · subst c2
      show (mEt d.1 _ _).2.2.2.1 u = _
      rw [et, Jb]
      show (mE f pp ee a _ _).1.2.2.2.1 u = _
      rw [Ja (by decide)]
      show (mPa d.2.1 (d.1 + 3) s.2.1 s).2.2.2.1 u = _
      rw [mPa_tab]
    by_cases c3 : g = 3
    · subst c3
      show (mEt d.1 _ _).2.2.2.1 u = _
      rw [et, Ja (by decide)]
      rfl
    by_cases c4 : g = 4 ∨ g = 5
    · have e : mE f pp ee (.inner g d () a b) env s = (mEt d.1 (mE f pp ee b env (mCt f pp ee env a s)).2 (mE f pp ee b env (mCt f pp ee env a s)).1, (mE f pp ee b env (mCt f pp ee env a s)).2) := by rcases c4 with rfl | rfl <;> rfl
      rw [e]
      show (mEt d.1 _ _).2.2.2.1 u = _
      rw [et, Jb, mCt_tab]
    by_cases c6 : g = 6
    · subst c6
      show (mEt d.1 _ _).2.2.2.1 u = _
      rw [et, Ja (by decide), mPs_tab, mPs_tab]
      rfl
    by_cases c7 : g = 7
    · subst c7
      show (mEt d.1 _ _).2.2.2.1 u = _
      rw [et, mPs_tab]
    by_cases c8 : g = 8 ∨ g = 9
    · rcases c8 with rfl | rfl <;> exact et _ _
    by_cases c10 : g = 10
    · subst c10
      show (mEt d.1 _ _).2.2.2.1 u = _
      rw [et, mSu_tab]
    by_cases c11 : g = 11 ∨ g = 12 ∨ g = 13
    · have e : mE f pp ee (.inner g d () a b) env s = (mEt d.1 (mB 0) (mPs f pp ee env d.2.2.2.2.2 (mPs f pp ee env d.2.2.2.1.2 s)), mB 0) := by rcases c11 with rfl | rfl | rfl <;> rfl
      rw [e]
      show (mEt d.1 _ _).2.2.2.1 u = _
      rw [et, mPs_tab, mPs_tab]
    by_cases c14 : g = 14
    · subst c14
      show (mEt d.1 _ _).2.2.2.1 u = _
      rw [et, mPs_tab]
      rfl
    by_cases c15 : g = 15
    · subst c15
      show (mEt d.1 _ _).2.2.2.1 u = _
      rw [et, Ja (by decide)]
      show (mOp (pp d.1) (tQn a) _ s).2.2.2.1 u = _
      rw [mOp_tab]
    by_cases c16 : g = 16
    · subst c16
      show (mEt d.1 _ _).2.2.2.1 u = _
      rw [et, Ja (by decide)]
    by_cases c17 : g = 17
    · subst c17; exact et _ _
    by_cases c18 : g = 18
    · subst c18
      show (mEt d.1 _ _).2.2.2.1 u = _
      rw [et]
      show (mPs f pp ee env d.2.2.2.1.2 s).2.2.2.1 u = _
      rw [mPs_tab]
    by_cases c19 : g = 19
    · subst c19
      show (mEt d.1 _ _).2.2.2.1 u = _
      rw [et]
      show (mE f pp ee b _ _).1.2.2.2.1 u = _
      rw [Jb]
      show (mE f pp ee a _ _).1.2.2.2.1 u = _
      rw [Ja (by decide)]
      rfl
    by_cases c33 : g = 33
    · subst c33
      show (mE f pp ee b _ _).1.2.2.2.1 u = _
      rw [Jb]
      show (if d.2.1 = 1 then (mPs f pp ee env d.2.2.2.1.2 s, mB 0) else mSu f pp ee env d.2.2.2.1.2 s).1.2.2.2.1 u = _
      split
      · show (mPs f pp ee env d.2.2.2.1.2 s).2.2.2.1 u = _
        rw [mPs_tab]
      · rw [mSu_tab]
    by_cases c34 : g = 34
    · subst c34
      show (mE f pp ee b _ _).1.2.2.2.1 u = _
      rw [Jb]
      exact Ja (by decide) _ _
    rw [mE, if_neg c1, if_neg c2, if_neg c3, if_neg c4, if_neg c6, if_neg c7, if_neg c8, if_neg c10, if_neg c11, if_neg c14, if_neg c15, if_neg c16, if_neg c17, if_neg c18, if_neg c19, if_neg c31, if_neg c33, if_neg c34, Jb]
    rfl
end MTB
