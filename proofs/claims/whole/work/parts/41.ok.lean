/-! what a function in Option answers -/
def Ok {T : Type} (x : Option T) (P : T → Prop) : Prop := ∃ a, x = some a ∧ P a
theorem Ok.some {T : Type} {a : T} {P : T → Prop} (h : P a) : Ok (some a) P := ⟨a, rfl, h⟩
theorem Ok.bind {T U : Type} {x : Option T} {k : T → Option U} {P : T → Prop} {Q : U → Prop} (h : Ok x P) (hk : ∀ a, P a → Ok (k a) Q) : Ok (Option.bind x k) Q := by
  obtain ⟨a, rfl, ha⟩ := h
  exact hk a ha
theorem Ok.bindE {T U : Type} {x : Option T} {k : T → Option U} {Q : U → Prop} {a : T} (h : x = Option.some a) (hk : Ok (k a) Q) : Ok (Option.bind x k) Q := by
  subst h
  exact hk
theorem Ok.map {T U : Type} {x : Option T} {f : T → U} {P : T → Prop} {Q : U → Prop} (h : Ok x P) (hk : ∀ a, P a → Q (f a)) : Ok (Option.map f x) Q := by
  obtain ⟨a, rfl, ha⟩ := h
  exact ⟨f a, rfl, hk a ha⟩
theorem Ok.mono {T : Type} {x : Option T} {P Q : T → Prop} (h : Ok x P) (hk : ∀ a, P a → Q a) : Ok x Q := by
  obtain ⟨a, e, ha⟩ := h
  exact ⟨a, e, hk a ha⟩
theorem Ok.ifp {T : Type} {x y : Option T} {P : T → Prop} {c : Prop} [Decidable c] (h : c) (hk : Ok x P) : Ok (if c then x else y) P := by rw [if_pos h]; exact hk
theorem Ok.ifn {T : Type} {x y : Option T} {P : T → Prop} {c : Prop} [Decidable c] (h : ¬ c) (hk : Ok y P) : Ok (if c then x else y) P := by rw [if_neg h]; exact hk
theorem Ok.ite {T : Type} {x y : Option T} {P : T → Prop} {c : Prop} [Decidable c] (h1 : c → Ok x P) (h2 : ¬ c → Ok y P) : Ok (if c then x else y) P := by
  by_cases h : c
  · exact Ok.ifp h (h1 h)
  · exact Ok.ifn h (h2 h)
/-- a step of a loop: goes on with I, or ends with P -/
def NxS {S R : Type} (I : S → Prop) (P : R → Prop) : S ⊕ R → Prop := fun x => (∃ s, x = .inl s ∧ I s) ∨ ∃ r, x = .inr r ∧ P r
theorem Ok.go {S R : Type} {I : S → Prop} {P : R → Prop} {s : S} (h : I s) : Ok (Option.some (Sum.inl s : S ⊕ R)) (NxS I P) := ⟨_, rfl, Or.inl ⟨s, rfl, h⟩⟩
theorem Ok.end {S R : Type} {I : S → Prop} {P : R → Prop} {r : R} (h : P r) : Ok (Option.some (Sum.inr r : S ⊕ R)) (NxS I P) := ⟨_, rfl, Or.inr ⟨r, rfl, h⟩⟩
theorem Ok.inr {S R : Type} {I : S → Prop} {P : R → Prop} {x : Option R} (h : Ok x P) : Ok (Option.map (fun z => (Sum.inr z : S ⊕ R)) x) (NxS I P) := h.map (fun a ha => Or.inr ⟨a, rfl, ha⟩)
theorem Ok.loop {S R : Type} {f : S → Option (S ⊕ R)} {P : R → Prop} (I : Nat → S → Prop) (h : ∀ n s, I n s → Ok (f s) (NxS (fun s' => ∃ n', n' < n ∧ I n' s') P)) : ∀ n s, I n s → Ok (loopC f s) P := by
  intro n
  induction n using Nat.strongRecOn with
  | _ n ih =>
    intro s hs
    obtain ⟨x, e, hx⟩ := h n s hs
    rcases hx with ⟨s', rfl, n', hn, hI⟩ | ⟨r, rfl, hr⟩
    · obtain ⟨r, e2, hr⟩ := ih n' hn s' hI
      exact ⟨r, by rw [loopC_next e]; exact e2, hr⟩
    · exact ⟨r, loopC_end e, hr⟩
/-- a counter from i to N, with a state behind it -/
theorem Ok.for {S R : Type} {f : Int32 × S → Option ((Int32 × S) ⊕ R)} {P : R → Prop} (N : Nat) (I : Nat → S → Prop)
    (hs : ∀ i s, i < N → I i s → Ok (f (nI i, s)) (NxS (fun v => v.1 = nI (i + 1) ∧ I (i + 1) v.2) P)) (he : ∀ s, I N s → Ok (f (nI N, s)) (NxS (fun _ => False) P)) {i : Nat} {s : S} (hi : i ≤ N) (h : I i s) : Ok (loopC f (nI i, s)) P := by
  refine Ok.loop (fun n v => ∃ j, j ≤ N ∧ n = N - j ∧ v.1 = nI j ∧ I j v.2) ?_ (N - i) (nI i, s) ⟨i, hi, rfl, rfl, h⟩
  rintro n ⟨c, s⟩ ⟨j, hj, rfl, e, hI⟩
  dsimp only at e hI
  subst e
  rcases Nat.lt_or_ge j N with q | q
  · exact (hs j s q hI).mono (fun x hx => by
      rcases hx with ⟨v, rfl, h1, h2⟩ | h
      · exact Or.inl ⟨v, rfl, N - (j + 1), by omega, j + 1, q, rfl, h1, h2⟩
      · exact Or.inr h)
  · have : j = N := by omega
    subst this
    exact (he s hI).mono (fun x hx => by
      rcases hx with ⟨v, -, h1⟩ | h
      · exact h1.elim
      · exact Or.inr h)
/-- a counter alone -/
theorem Ok.for0 {R : Type} {f : Int32 → Option (Int32 ⊕ R)} {P : R → Prop} (N : Nat) (I : Nat → Prop)
    (hs : ∀ i, i < N → I i → Ok (f (nI i)) (NxS (fun v => v = nI (i + 1) ∧ I (i + 1)) P)) (he : I N → Ok (f (nI N)) (NxS (fun _ => False) P)) {i : Nat} (hi : i ≤ N) (h : I i) : Ok (loopC f (nI i)) P := by
  refine Ok.loop (fun n v => ∃ j, j ≤ N ∧ n = N - j ∧ v = nI j ∧ I j) ?_ (N - i) (nI i) ⟨i, hi, rfl, rfl, h⟩
  rintro n c ⟨j, hj, rfl, rfl, hI⟩
  rcases Nat.lt_or_ge j N with q | q
  · exact (hs j q hI).mono (fun x hx => by
      rcases hx with ⟨v, rfl, h1, h2⟩ | h
      · exact Or.inl ⟨v, rfl, N - (j + 1), by omega, j + 1, q, rfl, h1, h2⟩
      · exact Or.inr h)
  · have : j = N := by omega
    subst this
    exact (he hI).mono (fun x hx => by
      rcases hx with ⟨v, -, h1⟩ | h
      · exact h1.elim
      · exact Or.inr h)
/-- a state, then the counter -/
theorem Ok.forR {S R : Type} {f : S × Int32 → Option ((S × Int32) ⊕ R)} {P : R → Prop} (N : Nat) (I : Nat → S → Prop)
    (hs : ∀ i s, i < N → I i s → Ok (f (s, nI i)) (NxS (fun v => v.2 = nI (i + 1) ∧ I (i + 1) v.1) P)) (he : ∀ s, I N s → Ok (f (s, nI N)) (NxS (fun _ => False) P)) {i : Nat} {s : S} (hi : i ≤ N) (h : I i s) : Ok (loopC f (s, nI i)) P := by
  refine Ok.loop (fun n v => ∃ j, j ≤ N ∧ n = N - j ∧ v.2 = nI j ∧ I j v.1) ?_ (N - i) (s, nI i) ⟨i, hi, rfl, rfl, h⟩
  rintro n ⟨s, c⟩ ⟨j, hj, rfl, e, hI⟩
  dsimp only at e hI
  subst e
  rcases Nat.lt_or_ge j N with q | q
  · exact (hs j s q hI).mono (fun x hx => by
      rcases hx with ⟨v, rfl, h1, h2⟩ | h
      · exact Or.inl ⟨v, rfl, N - (j + 1), by omega, j + 1, q, rfl, h1, h2⟩
      · exact Or.inr h)
  · have : j = N := by omega
    subst this
    exact (he s hI).mono (fun x hx => by
      rcases hx with ⟨v, -, h1⟩ | h
      · exact h1.elim
      · exact Or.inr h)
theorem fill_ok (N : Nat) (hN : N < 2 ^ 31) (f : Nat → Int32) (v : Int32) : Ok (f_X6_fill N f v) (fun f2 => ∀ j, j < N → f2 j = v) := by
  unfold f_X6_fill
  refine Ok.for (i := 0) N (fun i f2 => ∀ j, j < i → f2 j = v) (fun i s hi hI => ?_) (fun s hI => ?_) (Nat.zero_le _) (fun j hj => by omega)
  · show Ok (b_X6_fill N v (nI i) s) _
    unfold b_X6_fill
    refine Ok.ifn (nI_ge hi hN) (Ok.bindE (wr_nI hi hN) (Ok.go ⟨nI_1 i, fun j hj => ?_⟩))
    by_cases e : j = i
    · subst e; exact pk_us
    · exact (pk_un e).trans (hI j (by omega))
  · show Ok (b_X6_fill N v (nI N) s) _
    unfold b_X6_fill
    exact Ok.ifp (nI_le (Nat.le_refl N) hN) (Ok.end hI)
