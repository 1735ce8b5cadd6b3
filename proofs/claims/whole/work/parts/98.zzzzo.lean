/-! types of a tree, as equations -/
/-- a type, by what the free ones are -/
abbrev mF : Type := (Nat → tY) → tY
abbrev mC : Type := ((Nat → tY) → Prop) × Int32
/-- equations with their places, how many free ones, types of NAMES by their words, of E's by their first words, of what is called -/
abbrev mS : Type := List mC × Nat × (Nat → mF) × (Nat → mF) × mF
def mAll (l : List mC) (α : Nat → tY) : Prop := ∀ x, x ∈ l → x.1 α
def mSat (l : List mC) : Prop := ∃ α, mAll l α
/-- pl is the place of the first equation that can not be fulfilled with those before it -/
def mFt (l : List mC) (pl : Int32) : Prop := ∃ l1 P l2, l = l1 ++ (P, pl) :: l2 ∧ mSat l1 ∧ ¬ mSat (l1 ++ [(P, pl)])
def mB (k : Nat) : mF := fun _ => yB k
def mA (a b : mF) : mF := fun α => yA (a α) (b α)
def yL : tY → tY
  | .leaf => .leaf
  | .inner _ _ _ a _ => a
def yR : tY → tY
  | .leaf => .leaf
  | .inner _ _ _ _ b => b
def yIs (t : tY) : Prop := t = yA (yL t) (yR t)
def mAdd (P : (Nat → tY) → Prop) (pl : Int32) (s : mS) : mS := (s.1 ++ [(P, pl)], s.2)
def mMu (a b : mF) (pl : Int32) (s : mS) : mS := mAdd (fun α => a α = b α) pl s
def mUp (h : Nat → mF) (w : Nat) (t : mF) : Nat → mF := fun u => if u = w then t else h u
theorem mUp_at (h : Nat → mF) (w : Nat) (t : mF) : mUp h w t w = t := if_pos rfl
theorem mUp_ne (h : Nat → mF) {w u : Nat} (t : mF) (e : u ≠ w) : mUp h w t u = h u := if_neg e
def mNt (w : Nat) (t : mF) (s : mS) : mS := (s.1, s.2.1, mUp s.2.2.1 w t, s.2.2.2)
def mEt (w : Nat) (t : mF) (s : mS) : mS := (s.1, s.2.1, s.2.2.1, mUp s.2.2.2.1 w t, s.2.2.2.2)
def mCu (t : mF) (s : mS) : mS := (s.1, s.2.1, s.2.2.1, s.2.2.2.1, t)
/-- k free ones more -/
def mFr (k : Nat) (s : mS) : mS := (s.1, s.2.1 + k, s.2.2)
def mV (i : Nat) : mF := fun α => α i
section MTY
variable {l l' : List mC} {pl pl' : Int32}
theorem mAll_ap {α : Nat → tY} : mAll (l ++ l') α ↔ mAll l α ∧ mAll l' α := ⟨fun h => ⟨fun x hx => h x (List.mem_append_left _ hx), fun x hx => h x (List.mem_append_right _ hx)⟩, fun h x hx => by
  rcases List.mem_append.mp hx with z | z
  · exact h.1 x z
  · exact h.2 x z⟩
theorem mAll_one {α : Nat → tY} {P : (Nat → tY) → Prop} : mAll [(P, pl)] α ↔ P α := ⟨fun h => h _ (List.mem_singleton_self _), fun h x hx => by rw [List.mem_singleton.mp hx]; exact h⟩
theorem mSat.pre (h : mSat (l ++ l')) : mSat l := by
  obtain ⟨α, h⟩ := h
  exact ⟨α, (mAll_ap.mp h).1⟩
theorem mFt.ap (h : mFt l pl) (l' : List mC) : mFt (l ++ l') pl := by
  obtain ⟨l1, P, l2, e, h1, h2⟩ := h
  exact ⟨l1, P, l2 ++ l', by rw [e, List.append_assoc]; rfl, h1, h2⟩
theorem mFt.no (h : mFt l pl) : ¬ mSat l := by
  obtain ⟨l1, P, l2, e, h1, h2⟩ := h
  intro z
  rw [e, show l1 ++ (P, pl) :: l2 = (l1 ++ [(P, pl)]) ++ l2 by simp] at z
  exact h2 z.pre
theorem mFt.new {P : (Nat → tY) → Prop} (h : mSat l) (h' : ¬ mSat (l ++ [(P, pl)])) : mFt (l ++ [(P, pl)]) pl := ⟨l, P, [], rfl, h, h'⟩
theorem mFt.uq (h : mFt l pl) (h' : mFt l pl') : pl = pl' := by
  obtain ⟨l1, P, l2, e, h1, h2⟩ := h
  obtain ⟨l1', P', l2', e', h1', h2'⟩ := h'
  rw [e] at e'
  rcases List.append_eq_append_iff.mp e' with ⟨z, q1, q2⟩ | ⟨z, q1, q2⟩
  · cases z with
    | nil =>
      injection q2 with q2 _
      injection q2 with _ q2
    | cons y ys =>
      injection q2 with q2 _
      subst q2
      rw [q1] at h1'
      exact absurd (show mSat (l1 ++ [(P, pl)]) from by
        rw [show l1 ++ (P, pl) :: ys = (l1 ++ [(P, pl)]) ++ ys by simp] at h1'
        exact h1'.pre) h2
  · cases z with
    | nil =>
      injection q2 with q2 _
      injection q2 with _ q2
      exact q2.symm
    | cons y ys =>
      injection q2 with q2 _
      subst q2
      rw [q1] at h1
      exact absurd (show mSat (l1' ++ [(P', pl')]) from by
        rw [show l1' ++ (P', pl') :: ys = (l1' ++ [(P', pl')]) ++ ys by simp] at h1
        exact h1.pre) h2'
end MTY
/-- the graph g stands for the state: T c is what node c is -/
def gT (g : gG) (T : Nat → mF) (s : mS) : Prop := (∀ α, mAll s.1 α → gS g (fun c => T c α)) ∧ (∀ ρ, gS g ρ → ∃ α, mAll s.1 α ∧ ∀ c, c < g.n → ρ c = T c α) ∧ ∀ α α', (∀ i, i < s.2.1 → α i = α' i) → (mAll s.1 α ↔ mAll s.1 α') ∧ ∀ c, c < g.n → T c α = T c α'
/-- node c is of the type t -/
def gY (g : gG) (T : Nat → mF) (s : mS) (c : Nat) (t : mF) : Prop := c < g.n ∧ ∀ α, mAll s.1 α → T c α = t α
section GTT
variable {g g' : gG} {T : Nat → mF} {s : mS} {a b : Nat} {ta tb : mF} {pl : Int32}
theorem gT.sat (h : gT g T s) : (∃ ρ, gS g ρ) ↔ mSat s.1 := ⟨fun ⟨ρ, hρ⟩ => by obtain ⟨α, h1, -⟩ := h.2.1 ρ hρ; exact ⟨α, h1⟩, fun ⟨α, hα⟩ => ⟨_, h.1 α hα⟩⟩
theorem gT.must (h : gT g T s) (J : gJ g g' a b) (ha : gY g T s a ta) (hb : gY g T s b tb) : gT g' T (mMu ta tb pl s) := by
  obtain ⟨h1, h2, h3⟩ := h
  have hn : g'.n = g.n := J.1.1
  have key : ∀ α, mAll (mMu ta tb pl s).1 α ↔ mAll s.1 α ∧ T a α = T b α := fun α => by
    show mAll (s.1 ++ [_]) α ↔ _
    rw [mAll_ap, mAll_one]
    exact ⟨fun z => ⟨z.1, by rw [ha.2 α z.1, hb.2 α z.1]; exact z.2⟩, fun z => ⟨z.1, by show ta α = tb α; rw [← ha.2 α z.1, ← hb.2 α z.1]; exact z.2⟩⟩
  refine ⟨fun α hα => ?_, fun ρ hρ => ?_, fun α α' e => ⟨?_, fun c hc => (h3 α α' e).2 c (by rw [← hn]; exact hc)⟩⟩
  · obtain ⟨z1, z2⟩ := (key α).mp hα
    exact (J.2.2.2.2.2 _).mpr ⟨h1 α z1, z2⟩
  · obtain ⟨z1, z2⟩ := (J.2.2.2.2.2 ρ).mp hρ
    obtain ⟨α, q1, q2⟩ := h2 ρ z1
    exact ⟨α, (key α).mpr ⟨q1, by rw [← q2 a ha.1, ← q2 b hb.1]; exact z2⟩, fun c hc => q2 c (by rw [← hn]; exact hc)⟩
  · rw [key, key, (h3 α α' e).1, (h3 α α' e).2 a ha.1, (h3 α α' e).2 b hb.1]
theorem gT.no (h : gT g T s) (hn : ∀ ρ, gS g ρ → ¬ ρ a = ρ b) (ha : gY g T s a ta) (hb : gY g T s b tb) : ¬ mSat (mMu ta tb pl s).1 := fun ⟨α, hα⟩ => by
  have hα : mAll (s.1 ++ [_]) α := hα
  rw [mAll_ap, mAll_one] at hα
  refine hn _ (h.1 α hα.1) ?_
  show T a α = T b α
  rw [ha.2 α hα.1, hb.2 α hα.1]
  exact hα.2
theorem gY.mo {s' : mS} {T' : Nat → mF} {c : Nat} {t : mF} (h : gY g T s c t) (hn : g.n ≤ g'.n) (hT : ∀ c, c < g.n → T' c = T c) (hs : ∃ l, s'.1 = s.1 ++ l) : gY g' T' s' c t := by
  obtain ⟨l, e⟩ := hs
  refine ⟨Nat.lt_of_lt_of_le h.1 hn, fun α hα => ?_⟩
  rw [e, mAll_ap] at hα
  rw [hT c h.1]
  exact h.2 α hα.1
/-- nothing is said but of types -/
theorem gT.cg {s' : mS} (h : gT g T s) (e1 : s'.1 = s.1) (e2 : s.2.1 ≤ s'.2.1) : gT g T s' := by
  refine ⟨fun α hα => h.1 α (by rw [← e1]; exact hα), fun ρ hρ => ?_, fun α α' e => ?_⟩
  · obtain ⟨α, q1, q2⟩ := h.2.1 ρ hρ
    exact ⟨α, by rw [e1]; exact q1, q2⟩
  · rw [e1]
    exact h.2.2 α α' (fun i hi => e i (by omega))
/-- a new free one -/
theorem gT.free (h : gT g T s) (hK : gK g) (h0 : 0 < g.n) : gT (gNw g 0 0 0) (mUp T g.n (mV s.2.1)) (mFr 1 s) := by
  obtain ⟨h1, h2, h3⟩ := h
  have low : ∀ c, c < g.n → mUp T g.n (mV s.2.1) c = T c := fun c hc => mUp_ne _ _ (by omega)
  have loc : ∀ (ρ ρ' : Nat → tY), (∀ c, c < g.n → ρ c = ρ' c) → gS g ρ → gS g ρ' := fun ρ ρ' e z t ht => by
    obtain ⟨a1, a2, a3⟩ := z t ht
    have hs : g.S t < g.n := by obtain ⟨d, hd⟩ := hK.1; exact (hd t ht).1
    refine ⟨by rw [← e t ht, ← e _ hs]; exact a1, fun k => ?_, fun k e2 => by rw [← e t ht]; exact a3 k e2⟩
    have hl := (hK.2 t ht).1 k
    rw [← e t ht, ← e _ hl.1, ← e _ hl.2]
    exact a2 k
  refine ⟨fun α hα => (gS_nw hK h0 h0).mpr ⟨loc _ _ (fun c hc => by rw [low c hc]) (h1 α hα), fun z => (by cases z), fun j z => absurd z (by omega)⟩, fun ρ hρ => ?_, fun α α' e => ?_⟩
  · obtain ⟨q1, -, -⟩ := (gS_nw hK h0 h0).mp hρ
    obtain ⟨α, q2, q3⟩ := h2 ρ q1
    have ag : ∀ i, i < s.2.1 → α i = (fun i => if i = s.2.1 then ρ g.n else α i) i := fun i hi => (if_neg (by omega)).symm
    refine ⟨fun i => if i = s.2.1 then ρ g.n else α i, ((h3 _ _ ag).1).mp q2, fun c hc => ?_⟩
    have hc : c < g.n + 1 := hc
    by_cases e : c = g.n
    · rw [e, mUp_at]; exact (if_pos rfl).symm
    · rw [low c (by omega), q3 c (by omega)]
      exact (h3 _ _ ag).2 c (by omega)
  · have e' : ∀ i, i < s.2.1 → α i = α' i := fun i hi => e i (by show i < s.2.1 + 1; omega)
    refine ⟨(h3 α α' e').1, fun c hc => ?_⟩
    have hc : c < g.n + 1 := hc
    by_cases q : c = g.n
    · rw [q, mUp_at]; exact e s.2.1 (by show s.2.1 < s.2.1 + 1; omega)
    · rw [low c (by omega)]; exact (h3 α α' e').2 c (by omega)
/-- a new one that is given: a function or a plain one -/
theorem gT.give (h : gT g T s) (hK : gK g) {k l r : Nat} {t : mF} (hl : l < g.n) (hr : r < g.n) (hk : k ≠ 0) (ht : ∀ α, (k = 1 → t α = yA (T l α) (T r α)) ∧ ∀ j, k = j + 2 → t α = yB j) : gT (gNw g k l r) (mUp T g.n t) s := by
  obtain ⟨h1, h2, h3⟩ := h
  have low : ∀ c, c < g.n → mUp T g.n t c = T c := fun c hc => mUp_ne _ _ (by omega)
  have loc : ∀ (ρ ρ' : Nat → tY), (∀ c, c < g.n → ρ c = ρ' c) → gS g ρ → gS g ρ' := fun ρ ρ' e z t ht => by
    obtain ⟨a1, a2, a3⟩ := z t ht
    have hs : g.S t < g.n := by obtain ⟨d, hd⟩ := hK.1; exact (hd t ht).1
    refine ⟨by rw [← e t ht, ← e _ hs]; exact a1, fun k => ?_, fun k e2 => by rw [← e t ht]; exact a3 k e2⟩
    have hl := (hK.2 t ht).1 k
    rw [← e t ht, ← e _ hl.1, ← e _ hl.2]
    exact a2 k
  have eqt : ∀ (α ρ : Nat → tY), (∀ c, c < g.n → ρ c = T c α) → (k = 1 → ρ g.n = yA (ρ l) (ρ r)) → (∀ j, k = j + 2 → ρ g.n = yB j) → ρ g.n = t α := fun α ρ e z1 z2 => by
    by_cases c : k = 1
    · rw [z1 c, (ht α).1 c, e l hl, e r hr]
    · rw [z2 (k - 2) (by omega), (ht α).2 (k - 2) (by omega)]
  refine ⟨fun α hα => (gS_nw hK hl hr).mpr ⟨loc _ _ (fun c hc => by rw [low c hc]) (h1 α hα), fun z => ?_, fun j z => ?_⟩, fun ρ hρ => ?_, fun α α' e => ?_⟩
  · show mUp T g.n t g.n α = yA (mUp T g.n t l α) (mUp T g.n t r α)
    rw [mUp_at, low l hl, low r hr]
    exact (ht α).1 z
  · show mUp T g.n t g.n α = yB j
    rw [mUp_at]
    exact (ht α).2 j z
  · obtain ⟨q1, q2, q3⟩ := (gS_nw hK hl hr).mp hρ
    obtain ⟨α, q4, q5⟩ := h2 ρ q1
    refine ⟨α, q4, fun c hc => ?_⟩
    have hc : c < g.n + 1 := hc
    by_cases e : c = g.n
    · rw [e, mUp_at]; exact eqt α ρ q5 q2 q3
    · rw [low c (by omega)]; exact q5 c (by omega)
  · refine ⟨(h3 α α' e).1, fun c hc => ?_⟩
    have hc : c < g.n + 1 := hc
    by_cases q : c = g.n
    · rw [q, mUp_at]
      by_cases c1 : k = 1
      · rw [(ht α).1 c1, (ht α').1 c1, (h3 α α' e).2 l hl, (h3 α α' e).2 r hr]
      · rw [(ht α).2 (k - 2) (by omega), (ht α').2 (k - 2) (by omega)]
    · rw [low c (by omega)]; exact (h3 α α' e).2 c (by omega)
end GTT
