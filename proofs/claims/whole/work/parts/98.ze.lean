/-! the class's parser: a PART with a NAME is read -/
def nSet (ns : Nat → Option Nat) (w : Nat) (r : Option Nat) : Nat → Option Nat := fun x => if x = w then r else ns x
theorem ovr_rf (a : Nat) : ovr (some (.ref a)) = some (some a) := rfl
section CPQ
variable {κ : oKv} {sz T n m len cnt : Nat} {kk pp ee f : Nat → Int32} {A : Nat → Nat} {nq ni : Int32} {rt : Value} {σ σ' : oSt} {D : cDt} {at' cd : Nat} {cn am bd nf ff : Int32} {s : Sum Nat Nat} {nm ns : Nat → Option Nat} {ν : nSt} {lo e i pa su na ta cap pc : Nat} {ps : List tP} {al : Int32}
theorem cOk.nst {a : Nat} (h : cOk A D lo σ a) (hA : ∀ k, 1 ≤ k → k ≤ 6 → A k < lo) : ¬ cSt A D a := fun hs => by
  obtain ⟨h1, h2, h3⟩ := h
  unfold cMu at h3
  unfold cSt at hs
  have q1 := hA 1 (by omega) (by omega)
  have q2 := hA 2 (by omega) (by omega)
  have q3 := hA 3 (by omega) (by omega)
  have q4 := hA 4 (by omega) (by omega)
  have q5 := hA 5 (by omega) (by omega)
  have q6 := hA 6 (by omega) (by omega)
  rcases hs with z | z | z | z | z | z | z | z | z | z | z
  · omega
  · omega
  · omega
  · omega
  · omega
  · omega
  · exact h3 (Or.inr (Or.inl z))
  · exact h3 (Or.inr (Or.inr (Or.inl z)))
  · exact h3 (Or.inr (Or.inr (Or.inr (Or.inl z))))
  · exact h3 (Or.inr (Or.inr (Or.inr (Or.inr (Or.inl z)))))
  · exact h3 (Or.inr (Or.inr (Or.inr (Or.inr (Or.inr z)))))
theorem cOk.n0 {a : Nat} (h : cOk A D lo σ a) : a ≠ A 0 := fun z => h.2.2 (Or.inl z)
theorem sNm_app {p : tP} (hp : 0 < p.1) : sNm (ps ++ [p]) = sNm ps ++ [p] := by
  unfold sNm
  rw [List.filter_append, List.filter_cons_of_pos (by simpa using hp)]
  rfl
theorem sL_app {p : tP} (hp : 0 < p.1) : sL ns (ps ++ [p]) = match ns p.2.2 with | some b => sAdd (sL ns ps) b (sg p.2.1) | none => sL ns ps := by
  unfold sL
  rw [List.foldl_append, List.foldl_cons, List.foldl_nil, if_neg (by omega)]
  rfl
theorem sPl_app {p : tP} (hp : 0 < p.1) : sPl T f pp ee (ps ++ [p]) = sPl T f pp ee ps := by
  unfold sPl
  rw [List.foldl_append, List.foldl_cons, List.foldl_nil, if_neg (by omega)]
theorem sLn_app {p : tP} (hp : 0 < p.1) : sLn ns (ps ++ [p]) = va_rf (ns p.2.2) := by
  unfold sLn
  rw [sNm_app hp, List.getLast?_concat]
theorem sAdd_len (L : List (Nat × Int32)) (b : Nat) (v : Int32) : (sAdd L b v).length ≤ L.length + 1 := by
  unfold sAdd sUp
  have h1 : (sL1 L b).length ≤ L.length + 1 := by
    unfold sL1
    split
    · rw [List.length_append]; exact Nat.le_refl _
    · omega
  split
  · split
    · rw [List.length_take, List.length_set]; omega
    · exact h1
  · rw [List.length_set]; exact h1
theorem sL_len : ∀ (l : List tP) (L : List (Nat × Int32)), (l.foldl (fun L p => if p.1 = 0 then L else match ns p.2.2 with | some b => sAdd L b (sg p.2.1) | none => L) L).length ≤ L.length + l.length
  | [], L => Nat.le_refl _
  | p :: l, L => by
    rw [List.foldl_cons, List.length_cons]
    refine Nat.le_trans (sL_len l _) ?_
    split
    · omega
    · split
      · have := sAdd_len L ‹Nat› (sg p.2.1); omega
      · omega
set_option maxHeartbeats 4000000 in
/-- a PART's node, its NAME, into the S -/
theorem c_190 {g : Nat} {neg : Bool} (h : cV κ sz len cnt kk pp ee f A nq ni rt σ D at' cd cn am bd nf ff) (ho : cO pp cnt at' bd s) (hn : ∀ i, s = .inr i → cNm pp ee f σ D nm ν cd nf) (hS : cSp κ T pp ee f A D lo σ e i cd ns ps al pa su na ta cap pc) (hA : ∀ k, 1 ≤ k → k ≤ 6 → A k < lo) (hp : ∀ p ∈ ps, p.2.2 < at') (hg : 0 < g) (hlen : ps.length ≤ 1000) (hm : 8 ≤ m) (hT : 2010 ≤ T) (k43 : Option Nat → Int32 → Option Nat → Int32 → Int32 → oSt → oRs) (x1 x4 : Int32) : ∃ σ' at2 bd2 nf2 r na' ta' cap' pc', oj_X7_sum__190 T (oF κ T m) κ k43 (some (A 0)) x1 (some e) x4 (sg neg) (some (A 0)) (sCd g) σ = oj_X7_sum__237 T (oF κ T m) κ k43 (some (A 0)) x1 (some e) x4 σ' ∧ cV κ sz len cnt kk pp ee f A nq ni rt σ' D at2 cd cn am bd2 nf2 ff ∧ cO pp cnt at2 bd2 (aTo s (aMs kk 1)) ∧ (σ.2.1 ≤ σ'.2.1 ∧ ∀ a, a < lo → ¬ cMu A D a → σ'.1 a = σ.1 a) ∧ cSp κ T pp ee f A D lo σ' e i cd (nSet ns at' r) (ps ++ [(g, neg, at')]) al pa su na' ta' cap' pc' ∧ (σ'.2.2.1 ≤ σ.2.2.1 + 6 ∧ σ'.2.2.2 + (4 * pc - 30) + 4 * cap ≤ σ.2.2.2 + 35 + (if cK kk s = 1 then wL pp ee at' else 0) + (4 * pc' - 30) + 4 * cap' ∧ at' ≤ at2) ∧ (∀ i, s = .inr i → aIs kk 1 i = true → r = nRes f pp ee nm ν i ∧ cNm pp ee f σ' D nm (nUse f pp ee i ν) cd nf2) := by
  -- the node
  obtain ⟨g1, v1, r1⟩ := c_node (κ := κ) (T := T) (n := m) (k := sCd g) h (by omega)
  have lowσ : κ.2.2.1 < sz := h.1.1.2.2.2
  unfold oj_X7_sum__190
  rw [oob_at h.2.1, obn_at, g1, orn_at]
  have e0 : (onew σ (.inr (7, cNd (sCd g) (pp at') (nI cd))) 21).1 σ.2.1 = some (.inr (7, cNd (sCd g) (pp at') (nI cd))) := onew_eq _ _ _
  have hN1 : ∀ i, s = .inr i → cNm pp ee f (onew σ (.inr (7, cNd (sCd g) (pp at') (nI cd))) 21) D nm ν cd nf := fun i hi => (hn i hi).ex h.1.1.1 (fun a ha => onew_ne (by omega))
  have s1 : (onew σ (.inr (7, cNd (sCd g) (pp at') (nI cd))) 21).2 = (σ.2.1 + 1, σ.2.2.1 + 1, σ.2.2.2 + 21) := rfl
  generalize onew σ (.inr (7, cNd (sCd g) (pp at') (nI cd))) 21 = σ1 at v1 r1 e0 hN1 s1 ⊢
  have s11 : σ1.2.1 = σ.2.1 + 1 := by rw [s1]
  -- the NAME
  rw [oob_at v1.2.1, obn_at]
  obtain ⟨σ2, at2, bd2, nf2, r, u1, u2, u3, u4, ⟨u5, u5b, u5c⟩, u6, u7⟩ := c_use (κ := κ) (T := T) (n := m) v1 ho hN1 hm hT
  rw [u1]
  have OR : ∀ (f : Option Nat → oSt → oRs), orn (some (some (va_rf r), σ2)) f = f r σ2 := fun f => by cases r <;> rfl
  rw [OR]
  have e2 : σ2.1 σ.2.1 = some (.inr (7, cNd (sCd g) (pp at') (nI cd))) := v1.kd u4 e0 (by omega)
  have pe : opf σ2 (some σ.2.1) 7 9 (va_rf r) = some (oput σ2 σ.2.1 (.inr (7, cPf pp (nSet ns at' r) cd (g, neg, at')))) := by
    rw [opf_at e2 (show 9 < 21 by decide)]
    have : (cNd (sCd g) (pp at') (nI cd)).set 9 (va_rf r) = cPf pp (nSet ns at' r) cd (g, neg, at') := by
      unfold cNd cPf nSet
      simp only [if_true]
      rfl
    rw [this]
  rw [pe, obn_at]
  have v3 := u2.fl (fs' := cPf pp (nSet ns at' r) cd (g, neg, at')) e2 (by omega)
  have e3 : (oput σ2 σ.2.1 (.inr (7, cPf pp (nSet ns at' r) cd (g, neg, at')))).1 σ.2.1 = some (.inr (7, cPf pp (nSet ns at' r) cd (g, neg, at'))) := oput_eq _ _ _
  have r3 : cFr A σ D (oput σ2 σ.2.1 (.inr (7, cPf pp (nSet ns at' r) cd (g, neg, at')))) D := by
    refine ⟨?_, fun a ha hmu => ?_, Or.inl rfl, Or.inl rfl⟩
    · show σ.2.1 ≤ σ2.2.1
      have := u4.1; omega
    · rw [oput_ne (by omega)]; exact (r1.tr u4).2.1 a ha hmu
  have hk3 : ∀ a, a ≠ σ.2.1 → (oput σ2 σ.2.1 (.inr (7, cPf pp (nSet ns at' r) cd (g, neg, at')))).1 a = σ2.1 a := fun a ha => oput_ne ha
  have hs3 : (oput σ2 σ.2.1 (.inr (7, cPf pp (nSet ns at' r) cd (g, neg, at')))).2 = σ2.2 := rfl
  have S3 := hS.to (ns' := nSet ns at' r) h r3 (v3.1.1.2.1 _ lowσ) (fun p hpp => by unfold nSet; rw [if_neg (by have := hp p hpp; omega)])
  generalize oput σ2 σ.2.1 (.inr (7, cPf pp (nSet ns at' r) cd (g, neg, at'))) = σ3 at v3 e3 r3 hk3 hs3 S3 ⊢
  obtain ⟨h1, ⟨d, mc, gg, h2, h3, h4, h5, hcap⟩, h8, h9, h10, h11, h12, h13⟩ := S3
  have lt3 : σ.2.1 < σ3.2.1 := alt v3.1.1.1 e3
  have ha_e : σ.2.1 ≠ e := by have := hS.2.2.2.1.2.1; omega
  -- its name into the S's node
  have f9 : ofd σ3 (some σ.2.1) 7 9 = some (va_rf r) := by
    rw [ofd_at e3]
    unfold cPf nSet
    simp only [if_true]
    rfl
  have OV : ovr (some (va_rf r)) = some r := by cases r <;> rfl
  rw [f9, OV, obn_at]
  have pe4 : opf σ3 (some e) 7 9 (va_rf r) = some (oput σ3 e (.inr (7, cSf (pp i) (nI cd) al (va_rf r) pa su))) := by
    rw [opf_at h1 (show 9 < 21 by decide)]
    rfl
  rw [pe4, obn_at]
  have v4 := v3.fl (fs' := cSf (pp i) (nI cd) al (va_rf r) pa su) h1 (by omega)
  have e4 : (oput σ3 e (.inr (7, cSf (pp i) (nI cd) al (va_rf r) pa su))).1 e = some (.inr (7, cSf (pp i) (nI cd) al (va_rf r) pa su)) := oput_eq _ _ _
  have hk4 : ∀ a, a ≠ e → (oput σ3 e (.inr (7, cSf (pp i) (nI cd) al (va_rf r) pa su))).1 a = σ3.1 a := fun a ha => oput_ne ha
  have hs4 : (oput σ3 e (.inr (7, cSf (pp i) (nI cd) al (va_rf r) pa su))).2 = σ3.2 := rfl
  generalize oput σ3 e (.inr (7, cSf (pp i) (nI cd) al (va_rf r) pa su)) = σ4 at v4 e4 hk4 hs4 ⊢
  have hs41 : σ4.2.1 = σ3.2.1 := by rw [hs4]
  have epa : pa ≠ e := fun z => by have w := h2.1; rw [z, h1] at w; cases w
  have esu : su ≠ e := fun z => by obtain ⟨_, _, w, -⟩ := h8; rw [z, h1] at w; cases w
  have ed : d ≠ e := fun z => by
    rcases h2.2.1 with ⟨-, -, -, q⟩ | ⟨q, -⟩
    · rw [z, h1] at q; cases q
    · rw [z, h1] at q; cases q
  have ena : na ≠ e := fun z => by obtain ⟨_, _, -, w, -⟩ := h8; rw [z, h1] at w; cases w
  have eta : ta ≠ e := fun z => by obtain ⟨_, _, -, -, w, -⟩ := h8; rw [z, h1] at w; cases w
  have k7 : ∀ a fs, σ3.1 a = some (.inr (7, fs)) → ∃ fs', σ4.1 a = some (.inr (7, fs')) := fun a fs ea => by
    by_cases z : a = e
    · rw [z]; exact ⟨_, e4⟩
    · exact ⟨fs, by rw [hk4 a z]; exact ea⟩
  have l4 := h2.keep (hk4 pa epa) (hk4 d ed) k7
  have a4 : σ4.1 σ.2.1 = some (.inr (7, cPf pp (nSet ns at' r) cd (g, neg, at'))) := by rw [hk4 _ ha_e]; exact e3
  have f18 : ofd σ4 (some e) 7 18 = some (.ref pa) := by rw [ofd_at e4]; rfl
  rw [f18, ovr_rf, obn_at, oob_at l4.1, obn_at]
  -- into the list
  have hNl : (sNm ps).length ≤ ps.length := List.length_filter_le _ _
  obtain ⟨m6, hm6⟩ : ∃ m6, m = m6 + 6 := ⟨m - 6, by omega⟩
  obtain ⟨σ5, d', pc', gg', q1, q2, q3, q4, q5, q6⟩ := l_add (κ := κ) (T := T) (n := m6) (v4.1.1.2.1 _ lowσ) (by have := v4.1.1.2.2.1; omega) l4 a4 (by decide) (by decide) (by omega) (v4.1.1.1 _ (Nat.le_refl _))
  rw [← hm6] at q1
  rw [q1, oin_at]
  have hd' : d' = d ∨ (d' = σ4.2.1 ∧ σ5.2.1 = σ4.2.1 + 1) := by
    rcases q6 with ⟨z, -⟩ | ⟨z, -, -, -, z2⟩
    · exact Or.inl z
    · exact Or.inr ⟨z, by rw [z2]⟩
  have hn5 : σ4.2.1 ≤ σ5.2.1 := by
    rcases q6 with ⟨-, -, z2⟩ | ⟨-, -, -, -, z2⟩
    · rw [z2]; exact Nat.le_refl _
    · rw [z2]; exact Nat.le_succ _
  -- the row of the list is the tree's own
  have okd : d' = d → cOk A D lo σ3 d := fun z => by
    rcases h4 with y | ⟨y, y'⟩
    · exact y
    · exfalso
      -- an empty row has grown
      have w := q2.2.1
      rcases w with ⟨w1, -⟩ | ⟨w1, w2, w3⟩
      · omega
      · rcases h2.2.1 with ⟨x1, x2, x3, x4⟩ | ⟨x1, -⟩
        · rcases q6 with ⟨-, z2, -⟩ | ⟨z2, -⟩
          · omega
          · have : d < sz := by rw [x3]; exact lowσ
            have := v4.1.1.2.2.1
            omega
        · rw [y'] at x1; cases x1
  have row4 : ∀ c, σ4.1 d = some c → ∃ y, c = .inl (.object "java/lang/Object", y) := fun c ec => by
    rcases l4.2.1 with ⟨-, -, -, y⟩ | ⟨y, -⟩
    · rw [y] at ec; cases ec
    · rw [y] at ec; cases ec; exact ⟨_, rfl⟩
  -- what told.add has left as it was
  have NEc : ∀ x c, σ4.1 x = some c → (∀ fs, c ≠ .inr (1, fs)) → (∀ y, c ≠ .inl (.object "java/lang/Object", y)) → σ5.1 x = some c := fun x c ec c1 c2 => by
    rw [q5 x (fun z => by rw [z, l4.1] at ec; cases ec; exact c1 _ rfl) (fun z => by
      rcases hd' with y | y
      · rw [z, y] at ec; obtain ⟨w, hw⟩ := row4 c ec; exact c2 w hw
      · rw [z, y.1, v4.1.1.1 _ (Nat.le_refl _)] at ec; cases ec)]
    exact ec
  have lo4 : lo < σ4.2.1 := by have := h9.2.1; have := h9.1; omega
  have NElo : ∀ x, x < lo → σ5.1 x = σ4.1 x := fun x hx => q5 x (by have := h10.1; omega) (fun z => by
    rcases hd' with y | y
    · have := (okd y).1; omega
    · omega)
  have NEo : ∀ x, cSt A D x ∨ x = A 0 → σ5.1 x = σ4.1 x := fun x hx => q5 x (fun z => by
    rcases hx with y | y
    · rw [z] at y; exact h10.nst hA y
    · exact h10.n0 (z.symm.trans y)) (fun z => by
    rcases hd' with w | w
    · rcases hx with y | y
      · rw [z, w] at y; exact (okd w).nst hA y
      · exact (okd w).n0 ((z.trans w).symm.trans y)
    · rcases hx with y | y
      · have := v4.1.lt y; omega
      · have := alt v4.1.1.1 v4.2.1; omega)
  have fr5 : ∀ q, σ5.2.1 ≤ q → σ5.1 q = none := fun q hq => by
    rw [q5 q (by have := alt v4.1.1.1 l4.1; omega) (fun z => by
      rcases hd' with y | y
      · have := (okd y).2.1; omega
      · omega)]
    exact v4.1.1.1 q (by omega)
  have szlo : sz ≤ lo := by
    have b1 := h.1.2.1.1
    have := hA 1 (by omega) (by omega)
    by_cases c : sz ≤ A 1
    · omega
    · rw [h.1.1.2.1 (A 1) (by omega)] at b1; cases b1
  have v5 : cV κ sz len cnt kk pp ee f A nq ni rt σ5 D at2 cd cn am bd2 nf2 ff := v4.gn (fun x hx => NEo x (Or.inl hx)) (NEo _ (Or.inr rfl)) (fun a fs ea => ⟨fs, NEc a _ ea (fun _ z => by cases z) (fun _ z => by cases z)⟩) (fun a fs ea => ⟨fs, NEc a _ ea (fun _ z => by cases z) (fun _ z => by cases z)⟩) fr5 (fun q hq => by rw [NElo q (by omega)]; exact v4.1.1.2.1 q hq) hn5
  -- the sum
  have sm5 : cSm σ5 su na ta cap (sL (nSet ns at' r) ps) (sPl T (fun j => f j &&& 255) pp ee ps) := by
    obtain ⟨g0, h0', w1, w2, w3, w4, w5⟩ := h8
    refine ⟨g0, h0', NEc _ _ ?_ (fun _ z => by cases z) (fun _ z => by cases z), NEc _ _ ?_ (fun _ z => by cases z) (fun y z => by injection z with z; injection z with z1 z2; injection z1 with z3; exact absurd z3 (by decide)), NEc _ _ ?_ (fun _ z => by cases z) (fun _ z => by cases z), w4, fun k b c ek => ?_⟩
    · rw [hk4 su esu]; exact w1
    · rw [hk4 na ena]; exact w2
    · rw [hk4 ta eta]; exact w3
    · obtain ⟨y1, y2, fs, y3⟩ := w5 k b c ek
      refine ⟨y1, y2, fs, NEc _ _ ?_ (fun _ z => by cases z) (fun _ z => by cases z)⟩
      rw [hk4 b (fun z => by rw [z, h1] at y3; cases y3)]; exact y3
  have e5 : σ5.1 e = some (.inr (7, cSf (pp i) (nI cd) al (va_rf r) pa su)) := NEc _ _ e4 (fun _ z => by cases z) (fun _ z => by cases z)
  have a5 : σ5.1 σ.2.1 = some (.inr (7, cPf pp (nSet ns at' r) cd (g, neg, at'))) := NEc _ _ a4 (fun _ z => by cases z) (fun _ z => by cases z)
  have f19 : ofd σ5 (some e) 7 19 = some (.ref su) := by rw [ofd_at e5]; rfl
  have f9' : ofd σ5 (some σ.2.1) 7 9 = some (va_rf r) := by
    rw [ofd_at a5]
    unfold cPf nSet
    simp only [if_true]
    rfl
  have osu : oob σ5 (some su) 11 = some su := by obtain ⟨_, _, w, -⟩ := sm5; exact oob_at w
  rw [f19, ovr_rf, obn_at, f9', OV, obn_at, osu, obn_at]
  -- the NAME into the sum
  have X : ∃ σ6 na' ta' cap', oF κ T m 10 [va_rf (some su), va_rf r, .int (sg neg)] σ5 = some (none, σ6) ∧ cSm σ6 su na' ta' cap' (sL (nSet ns at' r) (ps ++ [(g, neg, at')])) (sPl T (fun j => f j &&& 255) pp ee ps) ∧ (∀ a, a < σ5.2.1 → a ≠ su → a ≠ na → a ≠ ta → σ6.1 a = σ5.1 a) ∧ (∀ q, σ6.2.1 ≤ q → σ6.1 q = none) ∧ σ5.2.1 ≤ σ6.2.1 ∧ ((na' = na ∧ ta' = ta) ∨ (na' = σ5.2.1 ∧ ta' = σ5.2.1 + 1 ∧ σ6.2.1 = σ5.2.1 + 2)) ∧ (σ6.2.2.1 ≤ σ5.2.2.1 + 2 ∧ σ6.2.2.2 + 4 * cap ≤ σ5.2.2.2 + 4 * cap' ∧ cap' ≤ 2 + 2 * ps.length) := by
    have eL : sL (nSet ns at' r) (ps ++ [(g, neg, at')]) = match r with | some b => sAdd (sL (nSet ns at' r) ps) b (sg neg) | none => sL (nSet ns at' r) ps := by
      rw [sL_app (p := (g, neg, at')) hg]
      have e9 : nSet ns at' r at' = r := if_pos rfl
      show (match nSet ns at' r at' with | some b => sAdd (sL (nSet ns at' r) ps) b (sg neg) | none => sL (nSet ns at' r) ps) = _
      rw [e9]
      cases r <;> rfl
    rw [eL]
    cases r with
    | none =>
      obtain ⟨m1, hm1⟩ : ∃ m1, m = m1 + 1 := ⟨m - 1, by omega⟩
      refine ⟨σ5, na, ta, cap, ?_, sm5, fun a _ _ _ _ => rfl, fr5, Nat.le_refl _, Or.inl ⟨rfl, rfl⟩, by omega, by omega, by omega⟩
      rw [hm1]; exact x_add0
    | some b =>
      obtain ⟨fs, y1⟩ := u7 b rfl
      have y2 : σ5.1 b = some (.inr (6, fs)) := NEc _ _ (by rw [hk4 b (fun z => by rw [z, ← hk3 e (Ne.symm ha_e), h1] at y1; cases y1), hk3 b (fun z => by rw [z, e2] at y1; cases y1)]; exact y1) (fun _ z => by cases z) (fun _ z => by cases z)
      obtain ⟨m3, hm3⟩ : ∃ m3, m = m3 + 3 := ⟨m - 3, by omega⟩
      have hl : (sL (nSet ns at' (some b)) ps).length ≤ 2000 := by
        have q : (sL (nSet ns at' (some b)) ps).length ≤ 0 + ps.length := sL_len ps []
        omega
      obtain ⟨σ6, na', ta', cap', w1, w2, w3, w4, w5⟩ := x_add (κ := κ) (T := T) (n := m3) (v := sg neg) sm5 hl y2 fr5 hT
      rw [← hm3] at w1
      refine ⟨σ6, na', ta', cap', w1, w2, w3, w4, ?_, ?_, ?_⟩
      · rcases w5 with ⟨-, -, -, z⟩ | ⟨-, -, -, -, z⟩
        · rw [z]; exact Nat.le_refl _
        · rw [z]; exact Nat.le_add_right _ _
      · rcases w5 with ⟨z1, z2, -⟩ | ⟨z1, z2, -, -, z⟩
        · exact Or.inl ⟨z1, z2⟩
        · exact Or.inr ⟨z1, z2, by rw [z]⟩
      · rcases w5 with ⟨-, -, z1, z⟩ | ⟨-, -, z0, z1, z⟩
        · rw [z, z1]; omega
        · rw [z, z1]
          have q : (sL (nSet ns at' (some b)) ps).length ≤ 0 + ps.length := sL_len ps []
          exact ⟨Nat.le_refl _, show σ5.2.2.2 + 4 * cap + 4 * cap ≤ σ5.2.2.2 + 4 * (2 * cap) by omega, by omega⟩
  obtain ⟨σ6, na', ta', cap', x1', x2, x3, x4', x5, x6, x7, x8, x9⟩ := X
  rw [x1', ocv_at]
  have su5 : su < σ5.2.1 := by obtain ⟨_, _, w, -⟩ := sm5; exact alt fr5 w
  have na5 : na < σ5.2.1 := by obtain ⟨_, _, -, w, -⟩ := sm5; exact alt fr5 w
  have ta5 : ta < σ5.2.1 := by obtain ⟨_, _, -, -, w, -⟩ := sm5; exact alt fr5 w
  -- what the sum's change has left as it was
  have MEc : ∀ x c, σ5.1 x = some c → (∀ fs, c ≠ .inr (11, fs)) → (∀ y, c ≠ .inl (.object "LiquidTongue$Name", y)) → (∀ y, c ≠ .inl (.int, y)) → σ6.1 x = some c := fun x c ec c1 c2 c3 => by
    obtain ⟨_, _, w1, w2, w3, -⟩ := sm5
    rw [x3 x (alt fr5 ec) (fun z => by rw [z, w1] at ec; cases ec; exact c1 _ rfl) (fun z => by rw [z, w2] at ec; cases ec; exact c2 _ rfl) (fun z => by rw [z, w3] at ec; cases ec; exact c3 _ rfl)]
    exact ec
  have MElo : ∀ x, x < lo → σ6.1 x = σ5.1 x := fun x hx => x3 x (by omega) (by have := h11.1; omega) (by have := h12.1; omega) (by have := h13.1; omega)
  have MEo : ∀ x, cSt A D x ∨ x = A 0 → σ6.1 x = σ5.1 x := fun x hx => by
    have hx5 : x < σ5.2.1 := by
      rcases hx with y | y
      · exact v5.1.lt y
      · rw [y]; exact alt fr5 v5.2.1
    refine x3 x hx5 (fun z => ?_) (fun z => ?_) (fun z => ?_)
    · rcases hx with y | y
      · rw [z] at y; exact h11.nst hA y
      · exact h11.n0 (z.symm.trans y)
    · rcases hx with y | y
      · rw [z] at y; exact h12.nst hA y
      · exact h12.n0 (z.symm.trans y)
    · rcases hx with y | y
      · rw [z] at y; exact h13.nst hA y
      · exact h13.n0 (z.symm.trans y)
  have v6 : cV κ sz len cnt kk pp ee f A nq ni rt σ6 D at2 cd cn am bd2 nf2 ff := v5.gn (fun x hx => MEo x (Or.inl hx)) (MEo _ (Or.inr rfl)) (fun a fs ea => ⟨fs, MEc a _ ea (fun _ z => by cases z) (fun _ z => by cases z) (fun _ z => by cases z)⟩) (fun a fs ea => ⟨fs, MEc a _ ea (fun _ z => by cases z) (fun _ z => by cases z) (fun _ z => by cases z)⟩) x4' (fun q hq => by rw [MElo q (by omega)]; exact v5.1.1.2.1 q hq) x5
  have lo6 : lo ≤ σ.2.1 := by have := hS.2.2.2.1.1; have := hS.2.2.2.1.2.1; omega
  have gt6 : σ3.2.1 ≤ σ6.2.1 := by omega
  have e6 : σ6.1 e = some (.inr (7, cSf (pp i) (nI cd) al (va_rf r) pa su)) := MEc _ _ e5 (fun _ z => by cases z) (fun _ z => by cases z) (fun _ z => by cases z)
  have a6 : σ6.1 σ.2.1 = some (.inr (7, cPf pp (nSet ns at' r) cd (g, neg, at'))) := MEc _ _ a5 (fun _ z => by cases z) (fun _ z => by cases z) (fun _ z => by cases z)
  have OKn : ∀ x, σ4.2.1 ≤ x → x < σ6.2.1 → cOk A D lo σ6 x := fun x hx hx6 => ⟨by omega, hx6, fun hmu => by
    unfold cMu at hmu
    rcases hmu with z | z | z | z | z | z
    · have := alt v4.1.1.1 v4.2.1; omega
    · have := v4.1.lt (a := A 7) (by unfold cSt; simp); omega
    · have := v4.1.lt (a := A 8) (by unfold cSt; simp); omega
    · have := v4.1.lt (a := A 9) (by unfold cSt; simp); omega
    · have := v4.1.lt (a := D.1.1) (by unfold cSt; simp); omega
    · have := v4.1.lt (a := D.1.2.1) (by unfold cSt; simp); omega⟩
  have OK3 : ∀ x, cOk A D lo σ3 x → cOk A D lo σ6 x := fun x hx => ⟨hx.1, by have := hx.2.1; omega, hx.2.2⟩
  have ls6 : cLs κ σ6 pa d' pc' ((sNm ps).length + 1) (mc + 1) gg' 7 := by
    refine q2.keep ?_ ?_ (fun a fs ea => ⟨fs, MEc a _ ea (fun _ z => by cases z) (fun _ z => by cases z) (fun _ z => by cases z)⟩)
    · rw [MEc _ _ q2.1 (fun _ z => by cases z) (fun _ z => by cases z) (fun _ z => by cases z)]; exact q2.1.symm
    · rcases q2.2.1 with ⟨w1, -⟩ | ⟨w1, -⟩
      · omega
      · rw [MEc _ _ w1 (fun _ z => by cases z) (fun y z => by injection z with z; injection z with z1 z2; injection z1 with z3; exact absurd z3 (by decide)) (fun _ z => by cases z)]; exact w1.symm
  refine ⟨σ6, at2, bd2, nf2, r, na', ta', cap', pc', rfl, v6, u3, ⟨by have := r3.1; omega, fun a ha hmu => ?_⟩, ⟨?_, ⟨d', mc + 1, gg', ?_, fun k p ek => ?_, ?_, ?_, by rw [List.length_append]; show cap' ≤ 2 + 2 * (ps.length + 1 - 1); omega⟩, ?_, OK3 e h9, OK3 pa h10, OK3 su h11, ?_, ?_⟩, ⟨?_, ?_, u5c⟩, fun i' hi' hi2 => ?_⟩
  · rw [MElo a ha, NElo a ha, hk4 a (by have := h9.1; omega)]
    exact r3.2.1 a (by omega) hmu
  · rw [sLn_app (p := (g, neg, at')) hg]
    show σ6.1 e = some (.inr (7, cSf (pp i) (nI cd) al (va_rf (nSet ns at' r at')) pa su))
    unfold nSet
    rw [if_pos rfl]
    exact e6
  · rw [sNm_app (p := (g, neg, at')) hg, List.length_append]
    exact ls6
  · rw [sNm_app (p := (g, neg, at')) hg] at ek
    by_cases ekl : k = (sNm ps).length
    · rw [ekl, List.getElem?_append_right (Nat.le_refl _), Nat.sub_self] at ek
      cases ek
      exact ⟨σ.2.1, by rw [ekl]; exact q4, ha_e, ⟨lo6, by omega, cMu.no v6 a6 (by omega)⟩, a6⟩
    · have hkl : k < (sNm ps).length := by
        by_cases c : k < (sNm ps).length
        · exact c
        · rw [List.getElem?_append_right (by omega), List.getElem?_eq_none (by simp; omega)] at ek; cases ek
      rw [List.getElem?_append_left hkl] at ek
      obtain ⟨a, w1, w2, w3, w4⟩ := h3 k p ek
      refine ⟨a, by rw [q3 k hkl]; exact w1, w2, OK3 a w3, MEc _ _ (NEc _ _ (by rw [hk4 a w2]; exact w4) (fun _ z => by cases z) (fun _ z => by cases z)) (fun _ z => by cases z) (fun _ z => by cases z) (fun _ z => by cases z)⟩
  · left
    rcases hd' with y | y
    · rw [y]; exact OK3 d (okd y)
    · exact OKn d' (by omega) (by omega)
  · rw [sNm_app (p := (g, neg, at')) hg, List.length_append]
    show pc' ≤ 10 + 2 * ((sNm ps).length + 1 - 1)
    rcases q6 with ⟨-, z, -⟩ | ⟨-, z1, z2, z3, -⟩
    · omega
    · by_cases c : pc = 0
      · have := z2 c; omega
      · have := z3 (by omega); omega
  · rw [sPl_app (p := (g, neg, at')) hg]; exact x2
  · rcases x6 with ⟨y, -⟩ | ⟨y, -, y2⟩
    · rw [y]; exact OK3 na h12
    · exact OKn na' (by omega) (by omega)
  · rcases x6 with ⟨-, y⟩ | ⟨-, y, y2⟩
    · rw [y]; exact OK3 ta h13
    · exact OKn ta' (by omega) (by omega)
  · have w1 : σ1.2.2.1 = σ.2.2.1 + 1 := by rw [s1]
    have w2 : σ4.2.2.1 = σ2.2.2.1 := by rw [hs4, hs3]
    have w3 : σ5.2.2.1 ≤ σ4.2.2.1 + 1 := by
      rcases q6 with ⟨-, -, z⟩ | ⟨-, -, -, -, z⟩
      · rw [z]; omega
      · rw [z]; exact Nat.le_refl _
    omega
  · have w1 : σ1.2.2.2 = σ.2.2.2 + 21 := by rw [s1]
    have w2 : σ4.2.2.2 = σ2.2.2.2 := by rw [hs4, hs3]
    have w3 : σ5.2.2.2 + (4 * pc - 30) ≤ σ4.2.2.2 + (4 * pc' - 30) := by
      rcases q6 with ⟨-, z1, z⟩ | ⟨-, z0, z1, z2, z⟩
      · rw [z]; omega
      · rw [z]
        show σ4.2.2.2 + pc' + (4 * pc - 30) ≤ σ4.2.2.2 + (4 * pc' - 30)
        by_cases c : pc = 0
        · have := z1 c; omega
        · have := z2 (by omega)
          have h10' : 10 ≤ pc := by
            rcases h2.2.1 with ⟨-, y, -⟩ | ⟨-, -, y⟩
            · omega
            · exact y
          omega
    omega
  · obtain ⟨w1, w2⟩ := u6 i' hi' hi2
    refine ⟨w1, w2.gn (fun a c ea hc => ?_)⟩
    have n3 : σ3.1 a = some c := by rw [hk3 a (fun z => by rw [z, e2] at ea; cases ea; rcases hc with ⟨x, y⟩ | ⟨x, y⟩ | ⟨x, y⟩ <;> cases y)]; exact ea
    have n4 : σ4.1 a = some c := by rw [hk4 a (fun z => by rw [z, h1] at n3; cases n3; rcases hc with ⟨x, y⟩ | ⟨x, y⟩ | ⟨x, y⟩ <;> cases y)]; exact n3
    have n5 : σ5.1 a = some c := NEc _ _ n4 (fun fs z => by rw [z] at hc; exact hc.n1) (fun y z => by rw [z] at hc; exact hc.no)
    exact MEc _ _ n5 (fun fs z => by rw [z] at hc; rcases hc with ⟨x, y⟩ | ⟨x, y⟩ | ⟨x, y⟩ <;> cases y) (fun y z => by rw [z] at hc; exact hc.no) (fun y z => by rw [z] at hc; rcases hc with ⟨x, y⟩ | ⟨x, y⟩ | ⟨x, y⟩ <;> cases y)
end CPQ
