/-! the class's infer: calls; all of it -/
section CIC
variable {κ : oKv} {Tt T0 mo y cnt : Nat} {A B : Nat → Nat} {D : cDt} {V σ : oSt} {nm : Nat → Option Nat} {env U W : List Nat} {kk f pp ee : Nat → Int32} {s : mS} {g : gG} {T : Nat → mF} {n m lo fk i j : Nat}
variable {d : Nat × Nat × Nat × tS × tS} {z : Unit} {a b : tT}
/-- ARGS: all of them -/
theorem ar_all (hH : wH κ Tt mo y cnt A V nm pp U) {tg : Nat} (Ia : cInf κ Tt T0 mo y cnt A B D V nm kk f pp ee U a) (Ib : cAr κ Tt T0 mo y cnt A B D V nm kk f pp ee U b) : cAr κ Tt T0 mo y cnt A B D V nm kk f pp ee U (.inner tg d z a b) := fun env σ s g T m fs pa d0 cap q mc gl fk lo i j k t' n x2 c1 f18 l1 hq hc hr hj hd hnd hln hw wf hk hsn hE hWU h hM hn ht hfd => by
  rcases wf with ⟨c, _⟩ | ⟨-, e2, wb, wf⟩ | ⟨c, _⟩
  · cases c
  · rcases wf with ⟨rfl, p1, rfl⟩ | ⟨rfl, e1, wa⟩ | ⟨rfl, e1, rfl, h1⟩
    · have ev : tEv (.inner 33 d z .leaf b) = sEv d.2.2.2.1.2 ++ tEv b := by
        show sEv d.2.2.2.1.2 ++ (sEv d.2.2.2.2.2 ++ ([] ++ tEv b)) = _
        rw [e2]; rfl
      rw [ev] at hd hnd hln
      rw [List.length_append] at hln
      have hw : plW (cFd f pp ee) env (sEv d.2.2.2.1.2) ++ (plW (cFd f pp ee) env (sEv d.2.2.2.2.2) ++ ([] ++ tWr (cFd f pp ee) b env)) = [] := hw
      obtain ⟨u1, hw⟩ := List.append_eq_nil_iff.mp hw
      obtain ⟨-, hw⟩ := List.append_eq_nil_iff.mp hw
      obtain ⟨-, u2⟩ := List.append_eq_nil_iff.mp hw
      obtain ⟨⟨r1, r2, -, r3⟩, kb, ⟨r4, r5⟩, -, r6⟩ := hr
      obtain ⟨p, su, gp, sq, hcb⟩ := hc
      have hM : g.n + (0 + 0 + tM b) ≤ mo := hM
      have hn : max 0 (tDc b) + 6 ≤ n := hn
      have sq' := sq
      obtain ⟨pa', na, ta, cap', pc, ep, -⟩ := sq'
      obtain ⟨R, hR⟩ : ∃ R : mS × mF, R = (if d.2.1 = 1 then (mPs f pp ee env d.2.2.2.1.2 s, mB 0) else mSu f pp ee env d.2.2.2.1.2 s) := ⟨_, rfl⟩
      have le : mLe [] s R.1 := by
        rw [hR]
        split
        · exact mLe.ps _ _ _
        · exact mLe.su _ _ _
      have rw0 : i ≤ d.2.2.2.1.1 ∧ d.2.2.2.1.1 < kb := ⟨by have := (r3 rfl).1; omega, r5 rfl⟩
      obtain ⟨n, rfl⟩ : ∃ x, n = x + 6 := ⟨n - 6, by omega⟩
      have hI : cIo κ Tt mo y A V nm pp env σ g T (n + 6) p R [] 0 i kb (fun _ => True) := by
        by_cases hs : mSat s.1
        · have al := hsn.1 (Or.inr rfl)
          have P : cPl κ Tt y A mo V nm env σ g T (n + 5) p R.1 R.2 := pl_10 (n := n) hH h sq (by omega) u1 R (by
            rw [hR]
            by_cases c1 : d.2.1 = 1
            · rw [if_pos c1, if_pos c1]
              exact Or.inr ⟨by decide, rfl⟩
            · rw [if_neg c1, if_neg c1]
              by_cases c2 : tAl kk d.2.2.2.1 = 1
              · exact Or.inl ⟨c2, al.mp c2, rfl⟩
              · refine Or.inr ⟨c2, ?_⟩
                unfold mSu
                rw [if_neg (fun z => c2 (al.mpr z))])
          obtain ⟨σ', v, g', T', q1, q2, q3, q4, q5, q6, q7⟩ := c_pl (n := n + 5) (w := d.2.2.2.1.1) (i := i) (j := kb) hH ep (by show 8 < 21; omega) rfl (by decide) rfl rw0 h hs P
          exact ⟨σ', v, g', T', q1, q2.cg rfl (Nat.le_refl _) rfl, q3, q4, q5, fun u hu => (by cases hu), q7, trivial⟩
        · exact ⟨σ, 0, g, T, c_inf0 (n := n + 4) h hs p, h.app hH hs hE le g T, xE.rf g T, Nat.le_refl _, fun z => absurd (le.sat z) hs, fun u hu => (by cases hu), wF.rf σ i kb _, trivial⟩
      have := ar_1 (x2 := x2) (t' := t') (w0 := d.1) (M := 0) hH Ib c1 f18 l1 hq gp ep rfl hcb (by omega) r6 hj (fun u hu q => hd u hu (List.mem_append_right _ q)) (List.nodup_append.mp hnd).2.1 (by omega) u2 wb hk.2 hsn.2.2 hE hWU (Wa := []) (fun u hu => by cases hu) (fun u hu => by cases hu) le h (by omega) (by omega) ht hfd (fun _ _ _ z => z) hI
      obtain ⟨σ', g', T', q1, q2, q3, q4, q5, q6, -, q8⟩ := this
      have eR : (mE f pp ee (.inner 33 d z .leaf b) env s) = mE f pp ee b env (mCu (fun α => yR (s.2.2.2.2 α)) (mMu R.2 (fun α => yL (s.2.2.2.2 α)) (pp d.1) R.1)) := by rw [hR]; rfl
      rw [eR]
      exact ⟨σ', g', T', q1, q2, q3, by show g'.n ≤ g.n + (0 + 0 + tM b); omega, q5, q6, ⟨p, su, gp, sq, q8⟩⟩
    · have ev : tEv (.inner 34 d z a b) = tEv a ++ tEv b := by
        show sEv d.2.2.2.1.2 ++ (sEv d.2.2.2.2.2 ++ (tEv a ++ tEv b)) = _
        rw [e1, e2]; rfl
      rw [ev] at hd hnd hln
      rw [List.length_append] at hln
      have hw : plW (cFd f pp ee) env (sEv d.2.2.2.1.2) ++ (plW (cFd f pp ee) env (sEv d.2.2.2.2.2) ++ (tWr (cFd f pp ee) a env ++ tWr (cFd f pp ee) b env)) = [] := hw
      obtain ⟨-, hw⟩ := List.append_eq_nil_iff.mp hw
      obtain ⟨-, hw⟩ := List.append_eq_nil_iff.mp hw
      obtain ⟨u1, u2⟩ := List.append_eq_nil_iff.mp hw
      have hWU : ∀ u, u ∈ tW a ++ tW b → u ∈ U := hWU
      obtain ⟨na, nb, nab⟩ := List.nodup_append.mp hnd
      obtain ⟨⟨r1, r2, -⟩, kb, ⟨r4, -⟩, r5, r6⟩ := hr
      have r6' := tRg.le _ _ _ r6
      obtain ⟨p, fp, gp, ⟨ck, ep, f3⟩, hca, hcb⟩ := hc
      have hM : g.n + (0 + tM a + tM b) ≤ mo := hM
      have hn : max (tDc a) (tDc b) + 6 ≤ n := hn
      have aU : ∀ u, u ∈ tW a → u ∈ U := fun u hu => hWU u (List.mem_append_left _ hu)
      have bU : ∀ u, u ∈ tW b → u ∈ U := fun u hu => hWU u (List.mem_append_right _ hu)
      have hI : cIo κ Tt mo y A V nm pp env σ g T n p (mE f pp ee a env s) (tW a) (tM a) i kb (fun X => cTX κ T0 kk pp ee f B D X lo V nm a env fk (fun _ => none) 0 p) := by
        obtain ⟨σ', v, g', T', q1, q2, q3, q4, q5, q6, q7, q8⟩ := Ia env σ s g T p fk lo (d.1 + 1) kb n hca r5 (by omega) (fun u hu q => hd u hu (List.mem_append_left _ q)) na (by omega) u1 wa hk.1 hsn.2.1 hE aU h (by omega) (by omega)
        exact ⟨σ', v, g', T', q1, q2, q3, q4, q5, q6, q7.wd (by omega) (Nat.le_refl _) (fun u hu => hu), q8⟩
      obtain ⟨σ', g', T', q1, q2, q3, q4, q5, q6, q7, q8⟩ := ar_1 (x2 := x2) (t' := t') (w0 := d.1) (M := tM a) hH Ib c1 f18 l1 hq gp ep f3 hcb (by omega) r6 hj (fun u hu q => hd u hu (List.mem_append_right _ q)) nb (by omega) u2 wb hk.2 hsn.2.2 hE bU aU (fun u hu q => nab u (tW_ev a u hu) u (tW_ev b u q) rfl) (mLe.e a env s) h (by omega) (by omega) ht hfd (fun X X' hX z => cTX.imp a lo _ _ env fk _ 0 p r5 (fun m' u fs q1 q2 => hX m' u fs (by omega) q2) z) hI
      exact ⟨σ', g', T', q1, q2, q3, by show g'.n ≤ g.n + (0 + tM a + tM b); omega, q5, q6, ⟨p, fp, gp, ⟨ck, ep, f3⟩, q7, q8⟩⟩
    · have ev : tEv (.inner 35 d z .leaf b) = tEv b := by
        show sEv d.2.2.2.1.2 ++ (sEv d.2.2.2.2.2 ++ ([] ++ tEv b)) = _
        rw [e1, e2]; rfl
      rw [ev] at hd hnd hln
      have hw : plW (cFd f pp ee) env (sEv d.2.2.2.1.2) ++ (plW (cFd f pp ee) env (sEv d.2.2.2.2.2) ++ ([] ++ tWr (cFd f pp ee) b env)) = [] := hw
      obtain ⟨-, hw⟩ := List.append_eq_nil_iff.mp hw
      obtain ⟨-, hw⟩ := List.append_eq_nil_iff.mp hw
      obtain ⟨-, u2⟩ := List.append_eq_nil_iff.mp hw
      obtain ⟨⟨r1, r2, -⟩, kb, ⟨r4, -⟩, -, r6⟩ := hr
      obtain ⟨p, gp, ⟨ck, ep⟩, hcb⟩ := hc
      have hM : g.n + (0 + 0 + tM b) ≤ mo := hM
      have hn : max 0 (tDc b) + 6 ≤ n := hn
      obtain ⟨n, rfl⟩ : ∃ x, n = x + 6 := ⟨n - 6, by omega⟩
      have hI : cIo κ Tt mo y A V nm pp env σ g T (n + 6) p (s, mB 1) [] 0 i kb (fun _ => True) := by
        by_cases hs : mSat s.1
        · have P : cPl κ Tt y A mo V nm env σ g T (n + 5) p s (mB 1) := pl_bas (n := n + 3) (k := 1) (x := 202) (code := if d.2.1 = 1 then 223 else 205) h ep rfl (by decide) rfl (by
            by_cases c : d.2.1 = 1
            · rw [if_pos c]; exact Or.inr (Or.inl ⟨rfl, rfl⟩)
            · rw [if_neg c]; exact Or.inl ⟨rfl, rfl⟩)
          obtain ⟨σ', v, g', T', q1, q2, q3, q4, q5, q6, q7⟩ := c_pl (n := n + 5) (w := d.1) (i := i) (j := kb) (code := if d.2.1 = 1 then 223 else 205) hH ep (by show 8 < 21; omega) rfl (by split <;> decide) rfl ⟨r1, by omega⟩ h hs P
          exact ⟨σ', v, g', T', q1, q2.cg rfl (Nat.le_refl _) rfl, q3, q4, q5, fun u hu => (by cases hu), q7, trivial⟩
        · exact ⟨σ, 0, g, T, c_inf0 (n := n + 4) h hs p, h, xE.rf g T, Nat.le_refl _, fun z => absurd z hs, fun u hu => (by cases hu), wF.rf σ i kb _, trivial⟩
      obtain ⟨σ', g', T', q1, q2, q3, q4, q5, q6, -, q8⟩ := ar_1 (x2 := x2) (t' := t') (w0 := d.1) (M := 0) (R := (s, mB 1)) hH Ib c1 f18 l1 hq gp ep rfl hcb (by omega) r6 hj hd hnd hln u2 wb hk.2 hsn.2.2 hE hWU (Wa := []) (fun u hu => by cases hu) (fun u hu => by cases hu) (mLe.rf _ _) h (by omega) (by omega) ht hfd (fun _ _ _ z => z) hI
      exact ⟨σ', g', T', q1, q2, q3, by show g'.n ≤ g.n + (0 + 0 + tM b); omega, q5, q6, ⟨p, gp, ⟨ck, ep⟩, q8⟩⟩
  · cases c
end CIC
