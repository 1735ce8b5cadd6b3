/-! the reference's lines: addSum, isForm, isTerm -/
/-- the numbers of NAMES -/
def rNu (R : Nat → Int32) (L : List Nat) : Prop := L.length ≤ 700 ∧ L.Nodup ∧ ∀ u, u ∈ L → ∃ n, R u = nI n ∧ L[n]? = some u
def nuO (R : Nat → Int32) (u : Nat) : Nat := (R u).toNatClampNeg
section RNU
variable {R : Nat → Int32} {L env : List Nat} {f pp ee : Nat → Int32}
theorem rNu.at (h : rNu R L) {u : Nat} (hu : u ∈ L) : R u = nI (nuO R u) ∧ L[nuO R u]? = some u ∧ nuO R u < 700 := by
  obtain ⟨n, h1, h2⟩ := h.2.2 u hu
  have hn : n < L.length := by
    by_cases z : n < L.length
    · exact z
    · rw [List.getElem?_eq_none (by omega)] at h2; cases h2
  have e : nuO R u = n := by unfold nuO; rw [h1, nI_clamp (by have := h.1; omega)]
  rw [e]
  exact ⟨h1, h2, by have := h.1; omega⟩
theorem rNu.inj (h : rNu R L) : ∀ u v, u ∈ L → v ∈ L → nuO R u = nuO R v → u = v := fun u v hu hv e => by
  have a := (h.at hu).2.1
  have b := (h.at hv).2.1
  rw [e, b] at a
  injection a with a
  exact a.symm
theorem rNu.us (h : rNu R L) {w : Nat} (hu : rUs f pp ee R L env w) : ∃ u, nFind f pp ee env w = some u ∧ u ∈ L ∧ R w = nI (nuO R u) := by
  obtain ⟨n, u, h1, h2, h3⟩ := hu
  have hm := List.mem_of_getElem? h2
  refine ⟨u, h3, hm, ?_⟩
  obtain ⟨a1, a2, a3⟩ := h.at hm
  have hn : n < L.length := by
    by_cases z : n < L.length
    · exact z
    · rw [List.getElem?_eq_none (by omega)] at h2; cases h2
  have hn' : nuO R u < L.length := by
    by_cases z : nuO R u < L.length
    · exact z
    · rw [List.getElem?_eq_none (by omega)] at a2; cases a2
  have e : n = nuO R u := by
    rw [List.getElem?_eq_getElem hn] at h2
    rw [List.getElem?_eq_getElem hn'] at a2
    injection h2 with h2
    injection a2 with a2
    exact (List.getElem_inj h.2.1).mp (h2.trans a2.symm)
  rw [h1, e]
end RNU
/-- PARTS added, s0 times -/
def sLs (ns : Nat → Option Nat) (s0 : Int32) (ps : List tP) (M : List (Nat × Int32)) : List (Nat × Int32) := ps.foldl (fun M p => if p.1 = 0 then M else match ns p.2.2 with | some b => sAdd M b (sg p.2.1 * s0) | none => M) M
def nLs (T : Nat) (f pp ee : Nat → Int32) (s0 : Int32) (ps : List tP) (l : Int64) : Int64 := ps.foldl (fun l p => if p.1 = 0 then l + (sg p.2.1 * s0).toInt64 * (nW T f pp ee p.2.2).toInt64 else l) l
section SLS
variable {ns : Nat → Option Nat} {s0 : Int32} {E : Nat → Prop}
theorem sLs.ni : ∀ (ps : List tP) (M : List (Nat × Int32)), sNi M → sNi (sLs ns s0 ps M)
  | [], M, h => h
  | p :: ps, M, h => by
    unfold sLs
    rw [List.foldl_cons]
    refine sLs.ni ps _ ?_
    split
    · exact h
    · split
      · exact h.add _ _
      · exact h
theorem sLs.in (hE : ∀ w u, ns w = some u → E u) : ∀ (ps : List tP) (M : List (Nat × Int32)), rIn E M → rIn E (sLs ns s0 ps M)
  | [], M, h => h
  | p :: ps, M, h => by
    unfold sLs
    rw [List.foldl_cons]
    refine sLs.in hE ps _ ?_
    split
    · exact h
    · split
      · rename_i e
        exact sAdd_in (hE _ _ e) h _
      · exact h
theorem sLs_cons (ns : Nat → Option Nat) (s0 : Int32) (p : tP) (ps : List tP) (M : List (Nat × Int32)) : sLs ns s0 (p :: ps) M = sLs ns s0 ps (if p.1 = 0 then M else match ns p.2.2 with | some b => sAdd M b (sg p.2.1 * s0) | none => M) := rfl
/-- how often a NAME stands among PARTS -/
def sPc (ns : Nat → Option Nat) : List tP → Nat → Int32
  | [], _ => 0
  | p :: ps, x => (if p.1 = 0 then 0 else if ns p.2.2 = some x then sg p.2.1 else 0) + sPc ns ps x
theorem sLs.cf : ∀ (ps : List tP) (M : List (Nat × Int32)) (x : Nat), sCf (sLs ns s0 ps M) x = sCf M x + s0 * sPc ns ps x
  | [], M, x => by show sCf M x = sCf M x + s0 * 0; grind
  | p :: ps, M, x => by
    rw [sLs_cons, sLs.cf ps _ x]
    show _ = sCf M x + s0 * ((if p.1 = 0 then 0 else if ns p.2.2 = some x then sg p.2.1 else 0) + sPc ns ps x)
    by_cases c : p.1 = 0
    · rw [if_pos c, if_pos c]
      grind
    · rw [if_neg c, if_neg c]
      cases en : ns p.2.2 with
      | none =>
        rw [if_neg (fun z => by cases z)]
        show sCf M x + _ = _
        grind
      | some b =>
        show sCf (sAdd M b (sg p.2.1 * s0)) x + _ = _
        rw [sCf_add]
        by_cases e : b = x
        · rw [if_pos e, if_pos (by rw [e])]
          grind
        · rw [if_neg e, if_neg (fun z => e (by injection z))]
          grind
theorem sg_bd (b : Bool) : -1 ≤ (sg b).toInt ∧ (sg b).toInt ≤ 1 := by cases b <;> decide
theorem sLs.bd (h0 : s0 = 1 ∨ s0 = -1) : ∀ (ps : List tP) (M : List (Nat × Int32)) (K : Nat), K + ps.length ≤ 100000 → sBd K M → sBd (K + ps.length) (sLs ns s0 ps M)
  | [], M, K, _, h => h
  | p :: ps, M, K, hK, h => by
    rw [List.length_cons] at hK ⊢
    rw [sLs_cons, show K + (ps.length + 1) = K + 1 + ps.length by omega]
    refine sLs.bd h0 ps _ (K + 1) (by omega) ?_
    split
    · exact h.mo (by omega)
    · split
      · refine h.add (by omega) ?_
        rcases h0 with rfl | rfl
        · cases p.2.1 <;> decide
        · cases p.2.1 <;> decide
      · exact h.mo (by omega)
theorem sNi.len {M : List (Nat × Int32)} {env : List Nat} (h : sNi M) (hi : rIn (· ∈ env) M) : M.length ≤ env.length := by
  have := List.Nodup.length_le_of_subset h.1 (l₂ := env) (fun u hu => by
    obtain ⟨q, hq, rfl⟩ := List.mem_map.mp hu
    exact hi q hq)
  rw [List.length_map] at this
  exact this
/-- the class's sum of PARTS -/
theorem sL_eq (ns : Nat → Option Nat) (ps : List tP) : sL ns ps = sLs ns 1 ps [] := by
  have : ∀ (ps : List tP) (M : List (Nat × Int32)), ps.foldl (fun L p => if p.1 = 0 then L else match ns p.2.2 with | some b => sAdd L b (sg p.2.1) | none => L) M = sLs ns 1 ps M := fun ps => by
    induction ps with
    | nil => intro M; rfl
    | cons p ps IH =>
      intro M
      rw [List.foldl_cons, sLs_cons, IH]
      congr 1
      split
      · rfl
      · cases ns p.2.2 with
        | none => rfl
        | some b =>
          show sAdd M b (sg p.2.1) = sAdd M b (sg p.2.1 * 1)
          rw [Int32.mul_one]
  exact this ps []
/-- one line of both sums -/
theorem sDf_pm (ns : Nat → Option Nat) (ps ps' : List tP) : (sDf (sL ns ps) (sL ns ps')).Perm (sLs ns (-1) ps' (sLs ns 1 ps [])) := by
  refine sNi.perm ?_ (sLs.ni _ _ (sLs.ni _ _ sNi.nil)) (fun x => ?_)
  · exact sNi.all _ _ _ (sNi.all _ _ _ sNi.nil)
  · unfold sDf
    rw [sCf_all, sCf_all, sL_eq, sL_eq, sLs.cf, sLs.cf, sLs.cf, sLs.cf]
    have e0 : sCf [] x = 0 := rfl
    rw [e0]
    grind
end SLS
section RWE
variable {T len cnt : Nat} {τ : zSt} {kk pp ee f : Nat → Int32}
theorem rW.we (h : rW τ T len cnt kk pp ee f) {i : Nat} (hi : i < cnt) : ∃ a e, pp i = nI a ∧ ee i = nI e ∧ a < e ∧ e ≤ len := by
  obtain ⟨a, h1, h2, h3, h4, h5, -⟩ := h.2.2.2.2.1 i hi
  exact ⟨a, _, h4, h5, h2, h3⟩
theorem rW.en (h : rW τ T len cnt kk pp ee f) {i : Nat} (hi : i < cnt) : τ.2.2.1 5 i = ee i := (h.2.2.1 i hi).2.2
end RWE
section RAS
variable {ks : Nat → Nat} {qs : List Nat} {T n h0 len cnt S P : Nat} {V : zSt} {L env : List Nat} {kk pp ee f : Nat → Int32}
theorem rMp_key {φ : Nat → Nat} {M : List (Nat × Int32)} {E : Nat → Prop} (h : rIn E M) (hb : ∀ u, E u → φ u < 700) : ∀ q, q ∈ rMp φ M → q.1 < 2 ^ 31 := fun q hq => by
  obtain ⟨p, hp, rfl⟩ := List.mem_map.mp hq
  have := hb p.1 (h p hp)
  show φ p.1 < 2 ^ 31
  omega
/-- addSum(s, sign) -/
theorem r_asL {s0 a l : Nat} {sn : Int32} (hT : 2010 ≤ T) (hw : rW V T len cnt kk pp ee f) (hN : rNu (V.2.2.1 32) L) (hE : ∀ u, u ∈ env → u ∈ L) (he : env.length ≤ 12) (hs : s0 < 2100) (hl : l ≤ 2100) : ∀ (ps : List tP) (t i : Nat) (τ : zSt) (M : List (Nat × Int32)), gFm V τ → rLn τ (rMp (nuO (V.2.2.1 32)) M) → sNi M → rIn (· ∈ env) M → pOk cnt ps → (∀ p, p ∈ ps → p.1 = 0 → p.2.2 < cnt) → rWs f pp ee (V.2.2.1 32) L env (sEv ps) → V.2.2.1 14 s0 = nI l → i + ps.length = l → rPs V i ps → ps.length < t → ∃ τ', l_addSum_7 T (zF h0 qs ks T (n + 1)) h0 qs ks t (nI s0) sn (nI i) τ = some (none, τ') ∧ rLn τ' (rMp (nuO (V.2.2.1 32)) (sLs (nFind f pp ee env) sn ps M)) ∧ gFm V τ' ∧ τ'.2.1 64 = nLs T f pp ee sn ps (τ.2.1 64) := by
  intro ps
  induction ps with
  | nil =>
    intro t i τ M fm h _ _ _ _ _ h14 hi _ ht
    obtain ⟨t, rfl⟩ : ∃ t', t = t' + 1 := ⟨t - 1, by omega⟩
    have hi : i = l := hi
    rw [l_addSum_7]
    simp only [zgd, zin_n hs (by decide), if_true, nI_clamp (show s0 < 2 ^ 31 by omega), fm.2.2.1 14 (by decide) (by decide), h14]
    rw [if_pos (nI_le (by omega) (by omega))]
    exact ⟨τ, rfl, h, fm, rfl⟩
  | cons p ps IH =>
    intro t i τ M fm h ni hin hp hpn hu h14 hi hr ht
    rw [List.length_cons] at hi ht
    obtain ⟨t, rfl⟩ : ∃ t', t = t' + 1 := ⟨t - 1, by omega⟩
    obtain ⟨r1, r2, r3⟩ := hr 0 p rfl
    rw [Nat.add_zero] at r1 r2 r3
    have hx : rPs V (i + 1) ps := fun a x ex => by
      have := hr (a + 1) x ex
      rw [show i + 1 + a = i + (a + 1) by omega]
      exact this
    have zi : zin (nI i) 2100 = true := zin_n (by omega) (by decide)
    have hcn : cnt ≤ 2000 := by have := hw.2.2.2.2.2.2; omega
    rw [sEv_cons] at hu
    have gor : ∀ (υ : zSt) (M' : List (Nat × Int32)) (l' : Int64), gFm V υ → rLn υ (rMp (nuO (V.2.2.1 32)) M') → sNi M' → rIn (· ∈ env) M' → υ.2.1 64 = l' → sLs (nFind f pp ee env) sn (p :: ps) M = sLs (nFind f pp ee env) sn ps M' → nLs T f pp ee sn (p :: ps) (τ.2.1 64) = nLs T f pp ee sn ps l' → ∃ τ', j_addSum_89 T (zF h0 qs ks T (n + 1)) h0 qs ks (l_addSum_7 T (zF h0 qs ks T (n + 1)) h0 qs ks t) (nI s0) sn (nI i) υ = some (none, τ') ∧ rLn τ' (rMp (nuO (V.2.2.1 32)) (sLs (nFind f pp ee env) sn (p :: ps) M)) ∧ gFm V τ' ∧ τ'.2.1 64 = nLs T f pp ee sn (p :: ps) (τ.2.1 64) := fun υ M' l' a1 a2 a3 a4 a5 a6 a7 => by
      unfold j_addSum_89
      rw [nI_p1, a6, a7, ← a5]
      exact IH t (i + 1) υ M' a1 a2 a3 a4 (fun x hx => hp x (List.mem_cons_of_mem _ hx)) (fun x hx => hpn x (List.mem_cons_of_mem _ hx)) (fun w hw => hu w (List.mem_append_right _ hw)) h14 (by omega) hx (by omega)
    rw [l_addSum_7]
    simp only [zgd, zin_n hs (by decide), if_true, nI_clamp (show s0 < 2 ^ 31 by omega), fm.2.2.1 14 (by decide) (by decide), fm.2.2.1 16 (by decide) (by decide), fm.2.2.1 17 (by decide) (by decide), fm.2.2.1 18 (by decide) (by decide), fm.2.2.1 32 (by decide) (by decide), h14]
    rw [if_neg (nI_ge (show i < l by omega) (by omega))]
    simp only [zi, if_true, nI_clamp (show i < 2 ^ 31 by omega), r1, r2, r3]
    by_cases c0 : p.1 = 0
    · rw [if_pos (by rw [c0]; rfl)]
      have hw2 := hpn p (List.mem_cons_self ..) c0
      obtain ⟨aa, ea, q1, q2, q3, q4⟩ := hw.we hw2
      have nn := rn_num (h0 := h0) (qs := qs) (ks := ks) (T := T) (n := n) (τ := τ) (c := p.2.2) (a := aa) (e := ea) (f := f) (by omega) (by rw [fm.2.2.1 4 (by decide) (by decide), hw.pl (by omega)]; exact q1) (by rw [fm.2.2.1 5 (by decide) (by decide), hw.en hw2]; exact q2) (by rw [fm.2.2.1 1 (by decide) (by decide)]; exact hw.1) (by omega) (by have := hw.2.2.2.2.2.2; omega) hT
      rw [nn, zci_at]
      simp only [zlet]
      have en : nVal f ea T aa 0 = nW T f pp ee p.2.2 := by unfold nW; rw [q1, q2, nI_clamp (by have := hw.2.2.2.2.2.2; omega), nI_clamp (by have := hw.2.2.2.2.2.2; omega)]
      rw [en]
      exact gor _ M (τ.2.1 64 + (sg p.2.1 * sn).toInt64 * (nW T f pp ee p.2.2).toInt64) ⟨fun k a => fm.1 k a, fun k a => (if_neg a).trans (fm.2.1 k a), fm.2.2.1, fm.2.2.2⟩ h ni hin rfl (by rw [sLs_cons, if_pos c0]) (by show List.foldl _ (if p.1 = 0 then _ else _) ps = _; rw [if_pos c0]; rfl)
    · have hpk := hp p (List.mem_cons_self ..)
      have hw2 := hpk.2 c0
      rw [if_neg (fun z => c0 (nI_inj' (by omega) (by decide) (z.trans (show (0 : Int32) = nI 0 from rfl)))), h.1, rMp_len]
      have ml := ni.len hin
      rw [if_neg (show ¬ (39 : Int32) ≤ nI M.length from nI_ge (a := M.length) (b := 39) (by omega) (by decide))]
      have ev : sEv [p] = [p.2.2] := by
        unfold sEv sNm
        rw [List.filter_cons_of_pos (by simp; omega)]
        rfl
      obtain ⟨u, u1, u2, u3⟩ := hN.us (hu p.2.2 (List.mem_append_left _ (by rw [ev]; exact List.mem_singleton_self _)))
      have ue : u ∈ env := by
        obtain ⟨j, -, ej⟩ := nFind_mem u1
        exact List.mem_of_getElem? ej
      obtain ⟨τ', a1, a2, a3, a4⟩ := r_addName (h0 := h0) (qs := qs) (ks := ks) (T := T) (n := n) (d := nuO (V.2.2.1 32) u) (v := sg p.2.1 * sn) (by omega) h (by rw [rMp_len]; omega) (rMp_key hin (fun u hu => (hN.at (hE u hu)).2.2)) (by have := (hN.at u2).2.2; omega)
      simp only [zin_n (show p.2.2 < 2010 by omega) (by decide), if_true, nI_clamp (show p.2.2 < 2 ^ 31 by omega), u3]
      rw [a1, zcv_at]
      rw [sAdd_mp (E := (· ∈ env)) (fun u v hu hv e => hN.inj u v (hE u hu) (hE v hv) e) ue hin] at a2
      exact gor τ' (sAdd M u (sg p.2.1 * sn)) _ (fm.tr a3) a2 (ni.add _ _) (sAdd_in ue hin _) (by rw [a4]) (by rw [sLs_cons, if_neg c0, u1]) (by show List.foldl _ (if p.1 = 0 then _ else _) ps = _; rw [if_neg c0]; rfl)
/-- what stands fast for lines -/
def rLh (T len cnt S P : Nat) (L env : List Nat) (V : zSt) (kk pp ee f : Nat → Int32) : Prop := (2010 ≤ T ∧ S ≤ 2100 ∧ P ≤ 2100) ∧ rW V T len cnt kk pp ee f ∧ rNu (V.2.2.1 32) L ∧ (∀ u, u ∈ env → u ∈ L) ∧ env.length ≤ 12
theorem r_addSum {x : Nat} {t : tS} {sn : Int32} {τ : zSt} {M : List (Nat × Int32)} (H : rLh T len cnt S P L env V kk pp ee f) (fm : gFm V τ) (h : rLn τ (rMp (nuO (V.2.2.1 32)) M)) (ni : sNi M) (hin : rIn (· ∈ env) M) (hp : pOk cnt t.2) (hg : sGd cnt t.2) (hu : rWs f pp ee (V.2.2.1 32) L env (sEv t.2)) (hs : rSm pp V S P x t) : ∃ τ', zF h0 qs ks T (n + 2) 55 [.ref h0, .int (nI x), .int sn] τ = some (none, τ') ∧ rLn τ' (rMp (nuO (V.2.2.1 32)) (sLs (nFind f pp ee env) sn t.2 M)) ∧ gFm V τ' ∧ τ'.2.1 64 = nLs T f pp ee sn t.2 (τ.2.1 64) := by
  obtain ⟨⟨hT, hS, hP⟩, hw, hN, hE, he⟩ := H
  obtain ⟨h1, h2, a, q3, q4, q5, q6⟩ := hs
  rw [zE_addSum]
  unfold b_addSum
  simp only [zgd, zin_n (show x < 2100 by omega) (by decide), if_true, nI_clamp (show x < 2 ^ 31 by omega), fm.2.2.1 13 (by decide) (by decide), q3]
  exact r_asL (a := a) (l := a + t.2.length) hT hw hN hE he (by omega) (by omega) t.2 T a τ M fm h ni hin hp (fun p hp _ => hg.1 p hp) hu q4 rfl q6 (by have := hg.2; omega)
/-- isForm() -/
theorem r_isForm {τ : zSt} {M : List (Nat × Int32)} (hT : 50 ≤ T) (h : rLn τ M) (hl : M.length ≤ 39) : zF h0 qs ks T (n + 1) 56 [.ref h0] τ = some (some (.int (b01 (rFa M))), τ) := by
  rw [zE_isForm]
  unfold b_isForm
  rw [h.1]
  by_cases c : M.length ≤ 2
  · rw [if_pos (show nI M.length ≤ 2 from nI_le (b := 2) c (by decide))]
    have lp : ∀ (t k : Nat), k ≤ M.length → M.length < k + t → (∀ i q, i < k → M[i]? = some q → (¬ 2 < q.2 ∧ ¬ q.2 < -2) ∧ (M.length = 2 → ¬ 1 < q.2 ∧ -1 ≤ q.2)) → l_isForm_12 T (zF h0 qs ks T n) h0 qs ks t (nI k) τ = some (some (.int (b01 (rFa M))), τ) := fun t => by
      induction t with
      | zero => intro k h1 h2; omega
      | succ t IH =>
        intro k h1 h2 h3
        rw [l_isForm_12, h.1]
        by_cases e : k = M.length
        · rw [if_pos (by rw [e]; exact nI_le (Nat.le_refl _) (by omega))]
          have : rFa M = true := by
            unfold rFa
            refine decide_eq_true ⟨c, fun q hq => ?_⟩
            obtain ⟨i, hi, ei⟩ := List.mem_iff_getElem.mp hq
            exact h3 i q (by omega) (by rw [List.getElem?_eq_getElem hi, ei])
          rw [this]
          rfl
        · rw [if_neg (nI_ge (by omega) (by omega))]
          have hk := List.getElem?_eq_getElem (show k < M.length by omega)
          obtain ⟨-, q2⟩ := h.2 k _ hk
          generalize M[k]'(by omega) = q at hk q2
          have no : ∀ (P : (¬ 2 < q.2 ∧ ¬ q.2 < -2) ∧ (M.length = 2 → ¬ 1 < q.2 ∧ -1 ≤ q.2) → False), rFa M = false := fun P => by
            unfold rFa
            refine decide_eq_false (fun z => P (z.2 q (List.mem_of_getElem? hk)))
          simp only [zgd, zin_n (show k < 40 by omega) (by decide), if_true, nI_clamp (show k < 2 ^ 31 by omega), q2]
          by_cases c1 : 2 < q.2
          · rw [if_pos c1, no (fun z => z.1.1 c1)]
            rfl
          rw [if_neg c1]
          by_cases c2 : q.2 < -2
          · rw [if_pos c2, no (fun z => z.1.2 c2)]
            rfl
          rw [if_neg c2]
          by_cases c3 : M.length = 2
          · rw [if_pos (by rw [c3]; rfl)]
            by_cases c4 : 1 < q.2
            · rw [if_pos c4, no (fun z => (z.2 c3).1 c4)]
              rfl
            rw [if_neg c4]
            by_cases c5 : -1 ≤ q.2
            · rw [if_pos c5]
              unfold j_isForm_71
              rw [nI_p1]
              refine IH (k + 1) (by omega) (by omega) (fun i p hi hp => ?_)
              by_cases e2 : i = k
              · rw [e2, hk] at hp
                injection hp with hp
                rw [← hp]
                exact ⟨⟨c1, c2⟩, fun _ => ⟨c4, c5⟩⟩
              · exact h3 i p (by omega) hp
            · rw [if_neg c5, no (fun z => c5 (z.2 c3).2)]
              rfl
          · rw [if_neg (fun z => c3 (nI_inj' (by omega) (by decide) (z.trans (show (2 : Int32) = nI 2 from rfl))))]
            unfold j_isForm_71
            rw [nI_p1]
            refine IH (k + 1) (by omega) (by omega) (fun i p hi hp => ?_)
            by_cases e2 : i = k
            · rw [e2, hk] at hp
              injection hp with hp
              rw [← hp]
              exact ⟨⟨c1, c2⟩, fun z => absurd z c3⟩
            · exact h3 i p (by omega) hp
    exact lp T 0 (Nat.zero_le _) (by omega) (fun i q hi => by omega)
  · rw [if_neg (show ¬ nI M.length ≤ 2 from nI_ge (a := 2) (by omega) (by omega))]
    have : rFa M = false := decide_eq_false (fun z => c z.1)
    rw [this]
    rfl
/-- isTerm(s) -/
theorem r_isTerm {x : Nat} {t : tS} {τ : zSt} (H : rLh T len cnt S P L env V kk pp ee f) (fm : gFm V τ) (hp : pOk cnt t.2) (hg : sGd cnt t.2) (hu : rWs f pp ee (V.2.2.1 32) L env (sEv t.2)) (hs : rSm pp V S P x t) : ∃ τ', zF h0 qs ks T (n + 3) 57 [.ref h0, .int (nI x)] τ = some (some (.int (b01 (sTe (sL (nFind f pp ee env) t.2)))), τ') ∧ rLn τ' (rMp (nuO (V.2.2.1 32)) (sL (nFind f pp ee env) t.2)) ∧ gFm V τ' ∧ τ'.2.1 64 = nLs T f pp ee 1 t.2 0 := by
  obtain ⟨τ1, a1, a2, a3, a4⟩ := r_clr (h0 := h0) (qs := qs) (ks := ks) (T := T) (n := n + 1) (τ := τ)
  obtain ⟨τ2, b1, b2, b3, b4⟩ := r_addSum (h0 := h0) (qs := qs) (ks := ks) (n := n) (sn := 1) (M := []) H (fm.tr a3) a2 sNi.nil (fun q hq => by cases hq) hp hg hu hs
  rw [← sL_eq] at b2
  rw [a4] at b4
  have bd : sBd 2000 (sL (nFind f pp ee env) t.2) := by
    rw [sL_eq]
    have := sLs.bd (ns := nFind f pp ee env) (Or.inl rfl : (1 : Int32) = 1 ∨ (1 : Int32) = -1) t.2 [] 0 (by have := hg.2; omega) (fun q hq => by cases hq)
    exact this.mo (by have := hg.2; omega)
  refine ⟨τ2, ?_, b2, b3, b4⟩
  rw [← rTq_s (by decide) bd, zE_isTerm]
  unfold b_isTerm
  rw [a1, zcv_at, b1, zcv_at, b2.1, rMp_len]
  have ml : (sL (nFind f pp ee env) t.2).length ≤ 12 := by
    have h1 : sNi (sL (nFind f pp ee env) t.2) := by rw [sL_eq]; exact sLs.ni _ _ sNi.nil
    have h2 : rIn (· ∈ env) (sL (nFind f pp ee env) t.2) := by
      rw [sL_eq]
      exact sLs.in (fun w u e => by
        obtain ⟨j, -, ej⟩ := nFind_mem e
        exact List.mem_of_getElem? ej) _ _ (fun q hq => by cases hq)
    have := h1.len h2
    have := H.2.2.2.2
    omega
  generalize sL (nFind f pp ee env) t.2 = Y at b2 ml
  match Y, b2, ml with
  | [], b2, ml =>
    rw [if_pos (show nI ([] : List (Nat × Int32)).length = 0 from rfl)]
    rfl
  | [q], b2, ml =>
    have hl : [q].length = 1 := rfl
    rw [hl, if_neg (show ¬ nI 1 = 0 by decide), if_pos (show nI 1 = 1 from rfl)]
    obtain ⟨-, q2⟩ := b2.2 0 (nuO (V.2.2.1 32) q.1, q.2) rfl
    have c0 : ((0 : Int32)).toNatClampNeg = 0 := rfl
    simp only [zgd, show zin 0 40 = true from rfl, if_true, c0, q2]
    by_cases c1 : q.2 = 1
    · rw [if_pos c1]
      have : rTq [q] = true := decide_eq_true (Or.inr ⟨rfl, fun p hp => by rw [List.mem_singleton.mp hp]; exact Or.inl c1⟩)
      rw [this]
      rfl
    · rw [if_neg c1]
      by_cases c2 : q.2 = -1
      · rw [if_pos c2]
        have : rTq [q] = true := decide_eq_true (Or.inr ⟨rfl, fun p hp => by rw [List.mem_singleton.mp hp]; exact Or.inr c2⟩)
        rw [this]
        rfl
      · rw [if_neg c2]
        have : rTq [q] = false := decide_eq_false (fun z => by
          rcases z with z | ⟨-, z⟩
          · cases z
          · exact (z q (List.mem_singleton_self _)).elim c1 c2)
        rw [this]
        rfl
  | q :: q' :: Y, b2, ml =>
    have hl : (q :: q' :: Y).length = Y.length + 2 := rfl
    rw [hl] at ml ⊢
    rw [if_neg (fun z => by have := nI_inj' (show Y.length + 2 < 2 ^ 31 by omega) (by decide) (z.trans (show (0 : Int32) = nI 0 from rfl)); omega), if_neg (fun z => by have := nI_inj' (show Y.length + 2 < 2 ^ 31 by omega) (by decide) (z.trans (show (1 : Int32) = nI 1 from rfl)); omega)]
    have : rTq (q :: q' :: Y) = false := decide_eq_false (fun z => by
      rcases z with z | ⟨z, -⟩
      · cases z
      · have z : Y.length + 2 = 1 := z; omega)
    rw [this]
    rfl
/-- wrongForm(place) -/
theorem r_wrong5 {τ : zSt} {pl : Int32} (hp : 0 ≤ pl) : zF h0 qs ks T (n + 1) 58 [.ref h0, .int pl] τ = some (none, zI τ 52 (fMin (τ.1 52) pl)) := by
  have np : ¬ pl < 0 := fun z => by
    rw [Int32.lt_iff_toInt_lt] at z
    rw [Int32.le_iff_toInt_le] at hp
    omega
  rw [zE_wrongForm]
  unfold b_wrongForm j_wrongForm_15 fMin
  simp only [zlet, if_neg np]
  split
  · rfl
  · split
    · have e : zI τ 52 (τ.1 52) = τ := by
        unfold zI
        refine Prod.ext (funext fun k => ?_) rfl
        show (if k = 52 then τ.1 52 else τ.1 k) = τ.1 k
        split
        · rename_i z; rw [z]
        · rfl
      rw [e]
    · rfl
end RAS
