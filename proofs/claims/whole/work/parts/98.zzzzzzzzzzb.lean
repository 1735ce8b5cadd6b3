/-! ways in which conditions hold -/
abbrev oLm : Type := Nat × Nat × Int
/-- a way: limits, and NAMES that are truths -/
abbrev oBr : Type := List oLm × List (Nat × Bool)
abbrev oKt : Type := List oLm → List (Nat × Bool) → Prop
/-- the order does not matter -/
def kInv (K : oKt) : Prop := ∀ L L' ts ts', xC L = xC L' → (∀ x, x ∈ ts ↔ x ∈ ts') → K L ts → K L' ts'
theorem xC.cg {L L' : List oLm} (h : ∀ l, l ∈ L ↔ l ∈ L') : xC L = xC L' := funext fun p => funext fun q => funext fun e => propext ⟨xC.mono (fun l w => (h l).mp w) p q e, xC.mono (fun l w => (h l).mpr w) p q e⟩
theorem xC.app (A L : List oLm) : xC (A ++ L) = fun p q e => xC A p q e ∨ xC L p q e := funext fun p => funext fun q => funext fun e => propext (by
  unfold xC
  constructor
  · rintro ⟨l, h1, h2⟩
    rcases List.mem_append.mp h1 with h1 | h1
    · exact Or.inl ⟨l, h1, h2⟩
    · exact Or.inr ⟨l, h1, h2⟩
  · rintro (⟨l, h1, h2⟩ | ⟨l, h1, h2⟩)
    · exact ⟨l, List.mem_append_left _ h1, h2⟩
    · exact ⟨l, List.mem_append_right _ h1, h2⟩)
def exB (B : List oBr) (K : oKt) : oKt := fun L ts => ∃ b, b ∈ B ∧ K (b.1 ++ L) (b.2 ++ ts)
/-- one way of each -/
def exL : List (List oBr) → oKt → oKt
  | [], K => K
  | B :: Bs, K => exB B (exL Bs K)
def brAnd (A B : List oBr) : List oBr := A.flatMap (fun a => B.map (fun b => (a.1 ++ b.1, a.2 ++ b.2)))
def brAll : List (List oBr) → List oBr
  | [] => [([], [])]
  | B :: Bs => brAnd B (brAll Bs)
section EXB
variable {A B : List oBr} {Bs Cs : List (List oBr)} {K K' : oKt} {L L' : List oLm} {ts ts' : List (Nat × Bool)}
theorem kInv.iff (h : kInv K) (h1 : xC L = xC L') (h2 : ∀ x, x ∈ ts ↔ x ∈ ts') : K L ts ↔ K L' ts' := ⟨h _ _ _ _ h1 h2, h _ _ _ _ h1.symm (fun x => (h2 x).symm)⟩
theorem exB.inv (h : kInv K) : kInv (exB B K) := fun L L' ts ts' h1 h2 ⟨b, hb, hk⟩ => ⟨b, hb, h _ _ _ _ (by rw [xC.app, xC.app, h1]) (fun x => by rw [List.mem_append, List.mem_append, h2 x]) hk⟩
theorem exL.inv (h : kInv K) : ∀ Bs, kInv (exL Bs K)
  | [] => h
  | B :: Bs => exB.inv (exL.inv h Bs)
theorem exB.cg (h : ∀ L ts, K L ts ↔ K' L ts) : exB B K L ts ↔ exB B K' L ts := by
  unfold exB
  simp only [h]
theorem exB.comm (h : kInv K) : exB A (exB B K) L ts ↔ exB B (exB A K) L ts := by
  have one : ∀ {A B : List oBr}, exB A (exB B K) L ts → exB B (exB A K) L ts := fun {A B} ⟨a, ha, b, hb, hk⟩ => by
    refine ⟨b, hb, a, ha, h _ _ _ _ (xC.cg fun l => ?_) (fun x => ?_) hk⟩
    · simp only [List.mem_append]
      exact ⟨fun z => by rcases z with z | z | z <;> simp [z], fun z => by rcases z with z | z | z <;> simp [z]⟩
    · simp only [List.mem_append]
      exact ⟨fun z => by rcases z with z | z | z <;> simp [z], fun z => by rcases z with z | z | z <;> simp [z]⟩
  exact ⟨one, one⟩
theorem exB.and (h : kInv K) : exB (brAnd A B) K L ts ↔ exB A (exB B K) L ts := by
  unfold exB brAnd
  constructor
  · rintro ⟨c, hc, hk⟩
    obtain ⟨a, ha, hc⟩ := List.mem_flatMap.mp hc
    obtain ⟨b, hb, rfl⟩ := List.mem_map.mp hc
    refine ⟨a, ha, b, hb, h _ _ _ _ (xC.cg fun l => ?_) (fun x => ?_) hk⟩
    · simp only [List.mem_append]
      exact ⟨fun z => by rcases z with (z | z) | z <;> simp [z], fun z => by rcases z with z | z | z <;> simp [z]⟩
    · simp only [List.mem_append]
      exact ⟨fun z => by rcases z with (z | z) | z <;> simp [z], fun z => by rcases z with z | z | z <;> simp [z]⟩
  · rintro ⟨a, ha, b, hb, hk⟩
    refine ⟨_, List.mem_flatMap.mpr ⟨a, ha, List.mem_map.mpr ⟨b, hb, rfl⟩⟩, h _ _ _ _ (xC.cg fun l => ?_) (fun x => ?_) hk⟩
    · simp only [List.mem_append]
      exact ⟨fun z => by rcases z with z | z | z <;> simp [z], fun z => by rcases z with (z | z) | z <;> simp [z]⟩
    · simp only [List.mem_append]
      exact ⟨fun z => by rcases z with z | z | z <;> simp [z], fun z => by rcases z with (z | z) | z <;> simp [z]⟩
theorem exB.or : exB (A ++ B) K L ts ↔ exB A K L ts ∨ exB B K L ts := by
  unfold exB
  constructor
  · rintro ⟨b, hb, hk⟩
    rcases List.mem_append.mp hb with hb | hb
    · exact Or.inl ⟨b, hb, hk⟩
    · exact Or.inr ⟨b, hb, hk⟩
  · rintro (⟨b, hb, hk⟩ | ⟨b, hb, hk⟩)
    · exact ⟨b, List.mem_append_left _ hb, hk⟩
    · exact ⟨b, List.mem_append_right _ hb, hk⟩
theorem exB.nil : exB [] K L ts ↔ False := ⟨fun ⟨_, h, _⟩ => (by cases h), fun h => False.elim h⟩
theorem exB.one {a : oBr} : exB [a] K L ts ↔ K (a.1 ++ L) (a.2 ++ ts) := by
  unfold exB
  constructor
  · rintro ⟨b, hb, hk⟩
    rcases List.mem_cons.mp hb with rfl | hb
    · exact hk
    · cases hb
  · exact fun h => ⟨a, List.mem_cons_self .., h⟩
theorem exB.all (h : kInv K) : ∀ (Bs : List (List oBr)) (L : List oLm) (ts : List (Nat × Bool)), exB (brAll Bs) K L ts ↔ exL Bs K L ts
  | [], L, ts => exB.one
  | B :: Bs, L, ts => by
    show exB (brAnd B (brAll Bs)) K L ts ↔ exB B (exL Bs K) L ts
    rw [exB.and h]
    exact exB.cg (fun L ts => exB.all h Bs L ts)
theorem exL.cg (h : ∀ L ts, K L ts ↔ K' L ts) : ∀ (Bs : List (List oBr)) (L : List oLm) (ts : List (Nat × Bool)), exL Bs K L ts ↔ exL Bs K' L ts
  | [], L, ts => h L ts
  | B :: Bs, L, ts => exB.cg (fun L ts => exL.cg h Bs L ts)
theorem exL.app : ∀ (Bs Cs : List (List oBr)), exL (Bs ++ Cs) K = exL Bs (exL Cs K)
  | [], Cs => rfl
  | B :: Bs, Cs => by
    show exB B (exL (Bs ++ Cs) K) = exB B (exL Bs (exL Cs K))
    rw [exL.app Bs Cs]
/-- one may come first -/
theorem exL.pull (h : kInv K) : ∀ (Bs : List (List oBr)) (L : List oLm) (ts : List (Nat × Bool)), exL Bs (exB B K) L ts ↔ exB B (exL Bs K) L ts
  | [], L, ts => Iff.rfl
  | A :: Bs, L, ts => by
    show exB A (exL Bs (exB B K)) L ts ↔ exB B (exB A (exL Bs K)) L ts
    rw [exB.cg (fun L ts => exL.pull h Bs L ts)]
    exact exB.comm (exL.inv h Bs)
theorem exL.swap (h : kInv K) (Bs Cs : List (List oBr)) : ∀ (L : List oLm) (ts : List (Nat × Bool)), exL Bs (exL Cs K) L ts ↔ exL Cs (exL Bs K) L ts := by
  induction Cs with
  | nil => exact fun L ts => Iff.rfl
  | cons C Cs ih =>
    intro L ts
    show exL Bs (exB C (exL Cs K)) L ts ↔ exB C (exL Cs (exL Bs K)) L ts
    rw [exL.pull (exL.inv h Cs)]
    exact exB.cg (fun L ts => ih L ts)
theorem exL.rev (h : kInv K) : ∀ (Bs : List (List oBr)) (L : List oLm) (ts : List (Nat × Bool)), exL Bs.reverse K L ts ↔ exL Bs K L ts
  | [], L, ts => Iff.rfl
  | B :: Bs, L, ts => by
    rw [List.reverse_cons, exL.app]
    show exL Bs.reverse (exB B K) L ts ↔ exB B (exL Bs K) L ts
    rw [exL.pull h]
    exact exB.cg (fun L ts => exL.rev h Bs L ts)
end EXB
/-- no NAME is both -/
def tCo (ts : List (Nat × Bool)) : Prop := ∀ x b b', (x, b) ∈ ts → (x, b') ∈ ts → b = b'
/-- all holds, and Q of the limits -/
def kFe (Q : List oLm → Prop) : oKt := fun L ts => xOk (xC L) ∧ tCo ts ∧ Q L
theorem kFe.inv {Q : List oLm → Prop} (hQ : ∀ L L', xC L = xC L' → Q L → Q L') : kInv (kFe Q) := fun L L' ts ts' h1 h2 ⟨k1, k2, k3⟩ => ⟨by rw [← h1]; exact k1, fun x b b' w w' => k2 x b b' ((h2 _).mpr w) ((h2 _).mpr w'), hQ L L' h1 k3⟩
/-- the same ways -/
def brEq (A B : List oBr) : Prop := (∀ a, a ∈ A → ∃ b, b ∈ B ∧ xC a.1 = xC b.1 ∧ a.2 = b.2) ∧ ∀ b, b ∈ B → ∃ a, a ∈ A ∧ xC a.1 = xC b.1 ∧ a.2 = b.2
theorem brEq.ex {A B : List oBr} {K : oKt} (h : brEq A B) (hK : kInv K) {L : List oLm} {ts : List (Nat × Bool)} : exB A K L ts ↔ exB B K L ts := by
  constructor
  · rintro ⟨a, ha, hk⟩
    obtain ⟨b, hb, e1, e2⟩ := h.1 a ha
    exact ⟨b, hb, hK _ _ _ _ (by rw [xC.app, xC.app, e1]) (fun x => by rw [e2]) hk⟩
  · rintro ⟨b, hb, hk⟩
    obtain ⟨a, ha, e1, e2⟩ := h.2 b hb
    exact ⟨a, ha, hK _ _ _ _ (by rw [xC.app, xC.app, e1]) (fun x => by rw [e2]) hk⟩
/-- what can not be any more -/
theorem exL.dead {Q : List oLm → Prop} {L : List oLm} {ts : List (Nat × Bool)} (h : ¬ (xOk (xC L) ∧ tCo ts)) : ∀ (Bs : List (List oBr)) (A : List oLm) (us : List (Nat × Bool)), (∀ l, l ∈ L → l ∈ A) → (∀ x, x ∈ ts → x ∈ us) → ¬ exL Bs (kFe Q) A us
  | [], A, us, h1, h2, ⟨k1, k2, _⟩ => h ⟨xOk.mono h1 k1, fun x b b' w w' => k2 x b b' (h2 _ w) (h2 _ w')⟩
  | B :: Bs, A, us, h1, h2, ⟨b, _, hk⟩ => exL.dead h Bs _ _ (fun l w => List.mem_append_right _ (h1 l w)) (fun x w => List.mem_append_right _ (h2 x w)) hk
/-! a comparison's limits -/
def sd (s : Nat) (t : Int) : Nat := 2 * s + if 0 < t then 0 else 1
/-- the line (sides with times, and a number), or its opposite, is below 0 by le or more -/
def cmL (ℓ : List (Nat × Int)) (pl sg le : Int) : oLm := match ℓ with
  | [] => (0, 1, -sg * pl - le)
  | [(s, t)] => (sd s (sg * t), sd s (sg * t), if t = 1 ∨ t = -1 then 2 * (-sg * pl - le) else -sg * pl - le)
  | (s, t) :: (s', t') :: _ => (sd s (sg * t), sd s' (sg * t'), -sg * pl - le)
/-- a relation's opposite, by the reference's codes: 0 = 1 < 2 <= 3 > 4 >= 5 # -/
def rNo (r : Nat) : Nat := if r = 0 then 5 else if r = 5 then 0 else if r = 1 then 4 else if r = 4 then 1 else if r = 2 then 3 else 2
/-- the ways of a comparison -/
def cmB (ℓ : List (Nat × Int)) (pl : Int) (r : Nat) : List oBr := if r = 5 then [([cmL ℓ pl 1 1], []), ([cmL ℓ pl (-1) 1], [])] else [((if r < 3 then [cmL ℓ pl 1 (if r = 1 then 1 else 0)] else []) ++ (if r = 0 ∨ 2 < r then [cmL ℓ pl (-1) (if r = 3 then 1 else 0)] else []), [])]
