/-! what counts where an E stands: types of told NAMES speak of what is in scope -/
/-- measured NAMES that count, the outermost first -/
def gSv (tN : Nat → tY) (env : List Nat) : List gN := (env.filter (fun u => gMs (tN u))).map Sum.inl
/-- what holds where an E stands -/
def eW (Γ : uGm) (C B : Int) (rt : Nat → gTm) (tN : Nat → tY) (env : List Nat) (sc : List gEn) (q : Nat → gTy) : Prop := nmS sc = (gSv tN env).reverse ∧ scW Γ C B rt tN (scN sc) ∧ ∀ u, u ∈ env → gSy (q u) = tN u ∧ wfT Γ C B rt (nmS sc) (q u)
/-- a TEMPLATE that is made where env counts -/
def rtC (rt : Nat → gTm) (tN : Nat → tY) (M : Nat) (key : Nat) (y : tY) (ns env : List Nat) : Prop := rt key = (key, [], y, ns, gSv tN env) ∧ yDp y ≤ 100 ∧ (gSv tN env).length + ySx y ≤ 60 ∧ ns.Nodup ∧ ∀ w, w ∈ ns → w ∉ env
/-- a term that can be put in -/
def tmW (Γ : uGm) (C B : Int) (S : List gN) (t : gTe) : Prop := gTw Γ t ∧ gTb B t ∧ (-C ≤ t.2 ∧ t.2 ≤ C) ∧ ∀ y e, t.1 = some (y, e) → y ∈ S
section EWS
variable {Γ : uGm} {C B : Int} {rt : Nat → gTm} {tN : Nat → tY} {env : List Nat} {sc : List gEn} {q : Nat → gTy} {M : Nat}
theorem gSs_mS (sc : List gEn) : gSs sc = (nmS sc).reverse := by
  unfold gSs nmS scN
  rw [List.map_filterMap]
  congr 2
  funext e
  cases e <;> rfl
theorem eW.ss (h : eW Γ C B rt tN env sc q) : gSs sc = gSv tN env := by rw [gSs_mS, h.1, List.reverse_reverse]
theorem eW.me (h : eW Γ C B rt tN env sc q) {s : gN} : s ∈ nmS sc ↔ s ∈ gSv tN env := by rw [h.1, List.mem_reverse]
theorem gSv_me {s : gN} : s ∈ gSv tN env ↔ ∃ u, u ∈ env ∧ gMs (tN u) = true ∧ s = .inl u := by
  unfold gSv
  rw [List.mem_map]
  constructor
  · rintro ⟨u, h1, h2⟩
    obtain ⟨h3, h4⟩ := List.mem_filter.mp h1
    exact ⟨u, h3, h4, h2.symm⟩
  · rintro ⟨u, h1, h2, h3⟩
    exact ⟨u, List.mem_filter.mpr ⟨h1, h2⟩, h3.symm⟩
theorem gSv_ap (w : Nat) : gSv tN (env ++ [w]) = gSv tN env ++ if gMs (tN w) = true then [.inl w] else [] := by
  unfold gSv
  rw [List.filter_append, List.map_append]
  congr 1
  by_cases c : gMs (tN w) = true
  · rw [if_pos c, List.filter_cons_of_pos (p := fun u => gMs (tN u)) c]; rfl
  · rw [if_neg c, List.filter_cons_of_neg (p := fun u => gMs (tN u)) c]; rfl
theorem eW.no (h : eW Γ C B rt tN env sc q) (k : Nat) (p : List Bool) : Sum.inr (k, p) ∉ nmS sc := fun z => by
  obtain ⟨u, -, -, e⟩ := gSv_me.mp (h.me.mp z)
  cases e
theorem scW.nm : ∀ (l : List (gN × gTy)), scW Γ C B rt tN l → ∀ s, s ∈ l.map Prod.fst → uNm Γ s
  | [], _, s, hs => by cases hs
  | x :: r, ⟨_, h2, _, h4⟩, s, hs => by
    rcases List.mem_cons.mp (show s ∈ x.1 :: r.map Prod.fst from hs) with z | z
    · rw [z]; exact h2
    · exact scW.nm r h4 s z
/-- one more NAME counts -/
theorem eW.tel {w : Nat} {A : gTy} (h : eW Γ C B rt tN env sc q) (hw : w ∉ env) (hu : uNm Γ (.inl w)) (hA : wfT Γ C B rt (nmS sc) A) (hy : gSy A = tN w) : eW Γ C B rt tN (env ++ [w]) (gNm (.inl w) A sc) (fun u => if u = w then A else q u) := by
  have sub : ∀ s, s ∈ nmS sc → s ∈ nmS (gNm (.inl w) A sc) := fun s hs => by
    rw [nmS_nm]
    split
    · exact List.mem_cons_of_mem _ hs
    · exact hs
  refine ⟨?_, ?_, fun u hu' => ?_⟩
  · rw [nmS_nm, gSv_ap, hy]
    split
    · rw [List.reverse_append, h.1]; rfl
    · rw [List.append_nil, h.1]
  · rw [scN_nm]
    split
    · rename_i gl
      refine ⟨fun z => ?_, hu, ⟨hA, gl, hy, fun kp e => by cases e⟩, h.2.1⟩
      obtain ⟨u, h1, -, e⟩ := gSv_me.mp (h.me.mp z)
      have : w = u := Sum.inl.inj e
      exact hw (this ▸ h1)
    · exact h.2.1
  · by_cases c : u = w
    · dsimp only
      rw [if_pos c, c]
      exact ⟨hy, hA.mo sub⟩
    · dsimp only
      rw [if_neg c]
      rcases List.mem_append.mp hu' with z | z
      · exact ⟨(h.2.2 u z).1, (h.2.2 u z).2.mo sub⟩
      · exact absurd (List.mem_singleton.mp z) c
theorem eW.cg {q' : Nat → gTy} (h : eW Γ C B rt tN env sc q) (e : ∀ u, u ∈ env → q' u = q u) : eW Γ C B rt tN env sc q' := ⟨h.1, h.2.1, fun u hu => by rw [e u hu]; exact h.2.2 u hu⟩
theorem eW.cd (h : eW Γ C B rt tN env sc q) (c : gCd × Bool) : eW Γ C B rt tN env (.inr c :: sc) q := h
theorem scN_fl (sc : List gEn) : scN (gFl sc) = scN sc := by
  match sc with
  | [] => rfl
  | .inl x :: r => rfl
  | .inr (c, h) :: r => rfl
theorem eW.fl (h : eW Γ C B rt tN env sc q) : eW Γ C B rt tN env (gFl sc) q := by
  unfold eW nmS at h ⊢
  rw [scN_fl]
  exact h
/-- a TEMPLATE -/
theorem eW.tp {key : Nat} {y : tY} {ns : List Nat} (h : eW Γ C B rt tN env sc q) (r : rtC rt tN M key y ns env) : wfT Γ C B rt (nmS sc) (gTp key y ns sc) := by
  obtain ⟨r1, r2, r3, r4, r5⟩ := r
  unfold gTp
  rw [h.ss]
  refine ⟨⟨r1.symm, ⟨fun w hw z => ?_, fun k p z => ?_, r4⟩, ?_, r3, fun s hs => ?_⟩, ⟨Nat.le_refl _, fun p hp => (by cases hp)⟩, fun s hs => ?_⟩
  · obtain ⟨u, h1, -, e⟩ := gSv_me.mp z
    have : w = u := Sum.inl.inj e
    exact r5 w hw (this ▸ h1)
  · obtain ⟨u, -, -, e⟩ := gSv_me.mp z
    cases e
  · show 0 + yDp y ≤ 100
    omega
  · exact scW.nm _ h.2.1 s (h.me.mpr hs)
  · exact h.me.mpr hs
theorem gEq_w {y : tY} {t : gTe} {S : List gN} (hy : yK y ≠ 1) (h1 : gTw Γ t) (h2 : gTb B t) (h3 : ∀ s e, t.1 = some (s, e) → s ∈ S) : wfT Γ C B rt S (gEq y t) := ⟨⟨rfl, hy, by show 1 ≤ 2; omega⟩, fun c hc => by
  rw [List.mem_singleton.mp (show c ∈ [(0, t)] from hc)]
  exact ⟨Nat.zero_le _, h1, h2, h3⟩⟩
theorem gPl_w {y : tY} {S : List gN} (hy : yK y ≠ 1) : wfT Γ C B rt S (gPl y) := ⟨⟨rfl, hy, Nat.zero_le _⟩, fun c hc => (by cases hc)⟩
theorem gMs_1 {y : tY} (h : gMs y = true) : yK y ≠ 1 := fun z => by
  unfold gMs at h
  rw [z] at h
  cases h
theorem gTb_0 (hB : 2 ≤ B) (o : Option (gN × Int)) : gTb B (o, 0) := ⟨⟨by show -1125899906842624 ≤ (0 : Int); omega, by show (0 : Int) ≤ 1125899906842624; omega⟩, by show -B ≤ 2 * 0 - 2; omega, by show 2 * (0 : Int) + 2 ≤ B; omega⟩
/-- the type of a NAME that counts -/
theorem eW.on {u : Nat} {s : gSt} (hB : 2 ≤ B) (h : eW Γ C B rt tN env sc s.1) (hu : u ∈ env) : gSy (gOn u s) = tN u ∧ wfT Γ C B rt (nmS sc) (gOn u s) := by
  obtain ⟨h1, h2⟩ := h.2.2 u hu
  unfold gOn
  by_cases c : gMs (gSy (s.1 u)) = true
  · rw [if_pos c]
    refine ⟨h1, gEq_w (gMs_1 c) (fun x e z => ?_) (gTb_0 hB _) (fun x e z => ?_)⟩
    · injection z with z; injection z with z1 z2
      rw [← z1, ← z2]
      refine ⟨scW.nm _ h.2.1 _ (h.me.mpr (gSv_me.mpr ⟨u, hu, by rw [← h1]; exact c, rfl⟩)), Or.inl rfl⟩
    · injection z with z; injection z with z1 z2
      rw [← z1]
      exact h.me.mpr (gSv_me.mpr ⟨u, hu, by rw [← h1]; exact c, rfl⟩)
  · rw [if_neg c]
    exact ⟨h1, h2⟩
end EWS
section EWP
variable {T : Nat} {f pp ee : Nat → Int32} {Γ : uGm} {C B : Int} {rt : Nat → gTm} {tN : Nat → tY} {env : List Nat} {sc : List gEn} {M : Nat}
/-- an S whose type can be said -/
def suW (T : Nat) (f pp ee : Nat → Int32) (Γ : uGm) (C B : Int) (tN : Nat → tY) (env : List Nat) (ps : List tP) : Prop := (isN ps = true → gNu f pp ee env (ps.headD (0, false, 0)).2.2 ∈ env) ∧ (isN ps = false → gTs f pp ee env ps = true → tmW Γ C B (gSv tN env) (gOf T f pp ee env ps))
theorem eW.su {ps : List tP} {s : gSt} (hB : 2 ≤ B) (h : eW Γ C B rt tN env sc s.1) (w : suW T f pp ee Γ C B tN env ps) : gSy (gSu T f pp ee env ps s) = gSk f pp ee tN env ps ∧ wfT Γ C B rt (nmS sc) (gSu T f pp ee env ps s) := by
  unfold gSu gSk
  cases c : isN ps with
  | true =>
    rw [if_pos rfl, if_pos rfl]
    exact h.on hB (w.1 c)
  | false =>
    rw [if_neg (show ¬ false = true by decide), if_neg (show ¬ false = true by decide)]
    by_cases d : gTs f pp ee env ps = true
    · rw [if_pos d]
      obtain ⟨t1, t2, -, t3⟩ := w.2 c d
      exact ⟨rfl, gEq_w (by decide) t1 t2 (fun x e z => h.me.mpr (t3 x e z))⟩
    · rw [if_neg d]
      exact ⟨rfl, gPl_w (by decide)⟩
/-- parameters are told -/
theorem gPa_w (hQ : rtQ Γ rt) {r : tY} : ∀ (qn w : Nat) (F : gTy) (sc : List gEn) (s : gSt) (env : List Nat), gSy F = gFn tN qn w r → eW Γ C B rt tN env sc s.1 → wfT Γ C B rt (nmS sc) F → (∀ m, F.1 = .inr m → m.2.2.2.1 = List.range' w qn) → (0 < qn → ∃ m, F.1 = .inr m) → (∀ x, x ∈ List.range' w qn → x ∉ env ∧ uNm Γ (.inl x)) → eW Γ C B rt tN (env ++ List.range' w qn) (gPa qn w F sc s).1 (gPa qn w F sc s).2.2.1 ∧ wfT Γ C B rt (nmS (gPa qn w F sc s).1) (gPa qn w F sc s).2.1 ∧ gSy (gPa qn w F sc s).2.1 = r ∧ (∀ m, (gPa qn w F sc s).2.1.1 = .inr m → m.2.2.2.1 = []) ∧ scC (gPa qn w F sc s).1 = scC sc ∧ (∀ u, u ∉ List.range' w qn → (gPa qn w F sc s).2.2.1 u = s.1 u) ∧ (gPa qn w F sc s).2.2.2 = s.2
  | 0, w, F, sc, s, env, hy, h, hF, hn, _, _ => by
    rw [show List.range' w 0 = [] from rfl, List.append_nil]
    exact ⟨h, hF, hy, hn, rfl, fun _ _ => rfl, rfl⟩
  | qn + 1, w, F, sc, s, env, hy, h, hF, hn, hi, hx => by
    have hy : gSy F = yA (tN w) (gFn tN qn (w + 1) r) := hy
    have k1 : yK (gSy F) = 1 := by rw [hy]; rfl
    obtain ⟨m, em, -⟩ := hF.fn k1
    have sy := gSy_tk em
    rw [hy] at sy
    have e0 : List.range' w (qn + 1) = w :: List.range' (w + 1) qn := List.range'_succ ..
    rw [e0] at hx hn ⊢
    obtain ⟨x1, x2⟩ := hx w (List.mem_cons_self ..)
    have pn : gPn F = .inl w := by
      unfold gPn
      rw [em]
      show mPn m = _
      unfold mPn
      rw [hn m em]
    have h1 := h.tel x1 x2 (hF.tk k1) sy.1
    have sub : ∀ s, s ∈ nmS sc → s ∈ nmS (gNm (.inl w) (gTk F) sc) := fun s hs => by
      rw [nmS_nm]
      split
      · exact List.mem_cons_of_mem _ hs
      · exact hs
    have hF1 : wfT Γ C B rt (nmS (gNm (.inl w) (gTk F) sc)) (gAn F) := hF.an hQ k1 sub (fun z => by
      rw [pn, nmS_nm, sy.1]
      rw [hy] at z
      have z : gMs (tN w) = true := z
      rw [show yL (yA (tN w) (gFn tN qn (w + 1) r)) = tN w from rfl, if_pos z]
      exact List.mem_cons_self ..)
    have hn1 : ∀ m', (gAn F).1 = .inr m' → m'.2.2.2.1 = List.range' (w + 1) qn := fun m' e => by
      unfold gAn at e
      rw [em] at e
      injection e with e
      rw [← e]
      show m.2.2.2.1.tail = _
      rw [hn m em]
      rfl
    obtain ⟨a1, a2, a3, a4, a5, a6, a7⟩ := gPa_w hQ qn (w + 1) (gAn F) (gNm (.inl w) (gTk F) sc) (gTn w (gTk F) s) (env ++ [w]) sy.2 h1 hF1 hn1 (fun _ => by unfold gAn; rw [em]; exact ⟨_, rfl⟩) (fun x hx' => by
      obtain ⟨y1, y2⟩ := hx x (List.mem_cons_of_mem _ hx')
      refine ⟨fun z => ?_, y2⟩
      rcases List.mem_append.mp z with z | z
      · exact y1 z
      · rw [List.mem_singleton.mp z] at hx'
        have := (List.mem_range'_1.mp hx').1
        omega)
    rw [List.append_assoc] at a1
    refine ⟨a1, a2, a3, a4, a5.trans (scC_nm _ _ _), fun u hu => ?_, a7⟩
    show (gPa qn (w + 1) (gAn F) (gNm (.inl w) (gTk F) sc) (gTn w (gTk F) s)).2.2.1 u = s.1 u
    rw [a6 u (fun z => hu (List.mem_cons_of_mem _ z))]
    exact if_neg (fun e => hu (by rw [e]; exact List.mem_cons_self ..))
end EWP
