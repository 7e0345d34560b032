/-! the model's rules 0 to 4 -/
theorem finLoop {R : Type} {n : Nat} {m : MS} {b : Int32 → MS → Option ((Int32 × MS) ⊕ R)} {P : R → Prop} (N : Nat) (G : Nat → Nat → Nat → Prop) {S : Nat → Nat → Prop}
    (hs : ∀ i z, i < N → MO n m (Uni S (UpTo i G)) z → Ok (b (nI i) z) (NxS (fun v => v.1 = nI (i + 1) ∧ MO n m (Uni (Uni S (UpTo i G)) (G i)) v.2) P))
    (he : ∀ z, MO n m (Uni S (UpTo N G)) z → Ok (b (nI N) z) (NxS (fun _ => False) P)) {z : MS} (h : MO n m S z) : Ok (loopC (fun v => b v.1 v.2) (nI 0, z)) P := by
  refine Ok.for (f := fun v => b v.1 v.2) (i := 0) N (fun i z => MO n m (Uni S (UpTo i G)) z) ?_ (fun z hz => he z hz) (Nat.zero_le _) ⟨h.1, h.2.congr (fun p c => ⟨Or.inl, fun z => z.elim id (fun ⟨i, hi, _⟩ => absurd hi (Nat.not_lt_zero i))⟩)⟩
  intro i z hi hz
  refine (hs i z hi hz).mono ?_
  rintro x (⟨v, rfl, h1, h2, h3⟩ | h)
  · refine Or.inl ⟨v, rfl, h1, h2, h3.congr (fun p c => ?_)⟩
    constructor
    · rintro ((q | ⟨j, hj, q⟩) | q)
      · exact Or.inl q
      · exact Or.inr ⟨j, by omega, q⟩
      · exact Or.inr ⟨i, by omega, q⟩
    · rintro (q | ⟨j, hj, q⟩)
      · exact Or.inl (Or.inl q)
      · by_cases e : j = i
        · subst e; exact Or.inr q
        · exact Or.inl (Or.inr ⟨j, by omega, q⟩)
  · exact Or.inr h
theorem MO.skip {n : Nat} {m z : MS} {S G : Nat → Nat → Prop} (h : MO n m S z) (hG : ∀ p c, ¬ G p c) : MO n m (Uni S G) z := ⟨h.1, h.2.congr (fun p c => ⟨Or.inl, fun q => q.elim id (fun w => absurd w (hG p c))⟩)⟩
theorem MO.to {n : Nat} {m z : MS} {S S' : Nat → Nat → Prop} (h : MO n m S z) (e : ∀ p c, S p c ↔ S' p c) : MO n m S' z := ⟨h.1, h.2.congr e⟩
theorem MO.one {n : Nat} {m z : MS} {S G : Nat → Nat → Prop} {num : Nat → Nat} {p0 c0 : Nat} (h : MO n m (Uni S (One num p0 c0)) z) (e : ∀ p c, One num p0 c0 p c ↔ G p c) : MO n m (Uni S G) z := ⟨h.1, h.2.congr (fun p c => ⟨fun q => q.elim Or.inl (fun w => Or.inr ((e p c).mp w)), fun q => q.elim Or.inl (fun w => Or.inr ((e p c).mpr w))⟩)⟩
def Bnd (S : Nat → Nat → Prop) (B : Nat) : Prop := ∀ p c, S p c → c < B
theorem Bnd.uni {S G : Nat → Nat → Prop} {B : Nat} (h1 : Bnd S B) (h2 : Bnd G B) : Bnd (Uni S G) B := fun p c h => h.elim (h1 p c) (h2 p c)
theorem Bnd.up {S : Nat → Nat → Prop} {A B : Nat} (h1 : Bnd S A) (h : A ≤ B) : Bnd S B := fun p c q => Nat.lt_of_lt_of_le (h1 p c q) h
theorem Bnd.upTo {G : Nat → Nat → Nat → Prop} {N B : Nat} (h : ∀ i, i < N → Bnd (G i) B) : Bnd (UpTo N G) B := fun p c ⟨i, hi, q⟩ => h i hi p c q
theorem fact_ok {z : MS} {k w : Nat} (hk : k < 2000) (hw : w < 9) : f_X7_fact z (nI k) (nI w) = some (z 15 (9 * k + w)) := by
  unfold f_X7_fact
  have e : (9 : Int32) * nI k + nI w = nI (9 * k + w) := by
    show nI 9 * nI k + nI w = _
    rw [nI_mul, nI_add]
  rw [e, rd_nI (by omega) (by omega)]
  rfl
def sd (t : Th) (x : Nat) : Prop := t 0 x = 0 ∨ t 0 x = 2
def LTo (pl : Nat → Nat) (K y w : Nat) : Prop := (w = 0 ∧ ∀ k, k < K → ¬ isTo pl k y) ∨ ∃ k, k < K ∧ w = k + 1 ∧ isTo pl k y ∧ ∀ j, j < k → ¬ isTo pl j y
def Bg (t : Th) (pl : Nat → Nat) (K x f : Nat) : Prop := (sd t x ∧ f = 0) ∨ (¬ sd t x ∧ f ≠ 0 ∧ LTo pl K x f)
section MRULES
variable {m z : MS} {t : Th} {n ax K : Nat} {pl num : Nat → Nat} {U : Nat → Nat → Bool}
theorem seed_ok (hw : Wf t n ax) (hB : BC z t n ax K pl num U) {x : Nat} (hx : x < n) [Decidable (sd t x)] : f_X7_isSeed z (nI x) = some (if sd t x then 1 else 0) := by
  have h20 := hw.n20
  have h5 := hw.s5 hx
  unfold f_X7_isSeed
  have e : rd 28 (z 2) (nI x) = some (nI (t 0 x)) := by rw [rd_nI (by omega) (by omega), (hB.1.2.2.1 x hx).1]
  rw [e]
  simp only [Option.bind_some]
  have e0 : nI (t 0 x) = (0 : Int32) ↔ t 0 x = 0 := nI_eq (b := 0) (by omega) (by omega)
  have e2 : nI (t 0 x) = (2 : Int32) ↔ t 0 x = 2 := nI_eq (b := 2) (by omega) (by omega)
  by_cases q0 : t 0 x = 0
  · rw [if_pos (e0.mpr q0), if_pos (show sd t x from Or.inl q0)]
  · rw [if_neg (fun w => q0 (e0.mp w))]
    by_cases q2 : t 0 x = 2
    · rw [if_pos (e2.mpr q2), if_pos (show sd t x from Or.inr q2)]
    · rw [if_neg (fun w => q2 (e2.mp w)), if_neg (fun w => w.elim q0 q2)]
theorem leastTo_ok (hw : Wf t n ax) (hB : BC z t n ax K pl num U) (hP : PN n K pl num) {y : Nat} (hy : y < n) : Ok (f_X7_leastTo z (nI y)) (fun v => ∃ w, w ≤ 2000 ∧ v = nO w ∧ LTo pl K y w) := by
  have h20 := hw.n20
  have hK := hP.1
  unfold f_X7_leastTo
  refine Ok.for0 (f := fun v => b_X7_leastTo_2 z (nI y) v) (i := 0) K (fun i => ∀ k, k < i → ¬ isTo pl k y) ?_ ?_ (Nat.zero_le _) (fun k hk => absurd hk (Nat.not_lt_zero k))
  · intro i hi hI
    show Ok (b_X7_leastTo_2 z (nI y) (nI i)) _
    unfold b_X7_leastTo_2
    refine Ok.ifn (show ¬ z 13 0 ≤ nI i by rw [hB.2.1]; exact nI_ge hi (by omega)) ?_
    obtain ⟨f0, f1, f2, f3⟩ := hB.2.2.1 i hi
    refine Ok.bindE (fact_ok (w := 0) (by omega) (by omega)) ?_
    rw [show 9 * i + 0 = 9 * i from rfl, f0]
    have next : (¬ isTo pl i y) → ∀ k, k < i + 1 → ¬ isTo pl k y := fun h k hk => by
      by_cases e : k = i
      · subst e; exact h
      · exact hI k (by omega)
    by_cases q : rh (pl i) = 0
    · rw [if_pos q]
      exact Ok.ifn (by decide) (Ok.go ⟨nI_1 i, next (fun w => w.1 q)⟩)
    · rw [if_neg q]
      refine Ok.ifp rfl (Ok.bindE (fact_ok (w := 2) (by omega) (by omega)) ?_)
      rw [f2]
      have e2 : nI (ob (pl i)) = nI y ↔ ob (pl i) = y := nI_eq (by have := ob_lt (pl i); omega) (by omega)
      by_cases q2 : ob (pl i) = y
      · exact Ok.ifp (e2.mpr q2) (Ok.end ⟨i + 1, by omega, (nO_s i).symm, Or.inr ⟨i, hi, rfl, ⟨q, q2⟩, hI⟩⟩)
      · exact Ok.ifn (fun w => q2 (e2.mp w)) (Ok.go ⟨nI_1 i, next (fun w => q2 w.2)⟩)
  · intro hI
    show Ok (b_X7_leastTo_2 z (nI y) (nI K)) _
    unfold b_X7_leastTo_2
    exact Ok.ifp (show z 13 0 ≤ nI K by rw [hB.2.1]; exact nI_le (Nat.le_refl _) (by omega)) (Ok.end ⟨0, by omega, nO_0.symm, Or.inl ⟨rfl, hI⟩⟩)
def gM0 (num : Nat → Nat) (t : Th) (pl : Nat → Nat) (K x : Nat) : Nat → Nat → Prop := fun p c => num p = 0 ∧ p = 101 * x ∧ ∃ f, f ≤ 2000 ∧ Bg t pl K x f ∧ c = cod 0 f 0 0
def gM1 (num : Nat → Nat) (t : Th) (pl : Nat → Nat) (K x : Nat) : Nat → Nat → Prop := fun p c => num p = 0 ∧ p = 100 * x ∧ ∃ f, f ≤ 2000 ∧ Bg t pl K x f ∧ c = cod 1 f 0 0
theorem LTo.uniq {K y w w' : Nat} (h : LTo pl K y w) (h' : LTo pl K y w') : w = w' := by
  rcases h with ⟨rfl, h⟩ | ⟨k, hk, rfl, h1, h2⟩ <;> rcases h' with ⟨rfl, h'⟩ | ⟨k', hk', rfl, h1', h2'⟩
  · rfl
  · exact absurd h1' (h k' hk')
  · exact absurd h1 (h' k hk)
  · rcases Nat.lt_trichotomy k k' with q | q | q
    · exact absurd h1 (h2' k q)
    · omega
    · exact absurd h1' (h2 k' q)
theorem Bg.uniq {x f f' : Nat} (h : Bg t pl K x f) (h' : Bg t pl K x f') : f = f' := by
  rcases h with ⟨h1, rfl⟩ | ⟨h1, h2, h3⟩ <;> rcases h' with ⟨h1', rfl⟩ | ⟨h1', h2', h3'⟩
  · rfl
  · exact absurd h1 h1'
  · exact absurd h1' h1
  · exact h3.uniq h3'
theorem ofBegun_ok (hw : Wf t n ax) (hB : BC m t n ax K pl num U) (hP : PN n K pl num) (hz : MO n m (fun _ _ => False) z) :
    Ok (f_X7_ofBegun z) (MO n m (Uni (UpTo n (gM0 num t pl K)) (UpTo n (gM1 num t pl K)))) := by
  classical
  have h20 := hw.n20
  have hK := hP.1
  have bnd0 : Bnd (UpTo n (gM0 num t pl K)) 268435456 := Bnd.upTo (fun i hi p c ⟨_, _, f, hf, _, hc⟩ => by rw [hc]; unfold cod; omega)
  unfold f_X7_ofBegun
  refine finLoop (b := b_X7_ofBegun_2) n (gM0 num t pl K) (S := fun _ _ => False) ?_ ?_ hz
  · intro i z hi hz
    have hBz := hB.fr hz.1
    unfold b_X7_ofBegun_2
    refine Ok.ifn (show ¬ z 0 0 ≤ nI i by rw [hBz.1.1]; exact nI_ge hi (by omega)) ?_
    have add : ∀ f, f ≤ 2000 → Bg t pl K i f → Ok (f_X7_findIs z (nI i) (nI i) 0 (nO f) (-1) (-1)) (MO n m (Uni (Uni (fun _ _ => False) (UpTo i (gM0 num t pl K))) (gM0 num t pl K i))) := by
      intro f hf hb
      have := findIs_ok hw hB hP hz (x := i) (d := i) (ru := 0) (f := f) (s := 0) (a := 0) hi hi (by omega) (by omega) (by omega) (by omega) (by
        rintro c (h | ⟨j, hj, -, e, -⟩)
        · exact h.elim
        · omega)
      rw [nO_0] at this
      refine this.mono (fun z' h => h.one (fun p c => ?_))
      constructor
      · rintro ⟨h1, h2, h3⟩
        exact ⟨h1, by omega, f, hf, hb, h3⟩
      · rintro ⟨h1, h2, f', hf', hb', h3⟩
        rw [hb'.uniq hb] at h3
        exact ⟨h1, by omega, h3⟩
    refine Ok.bindE (seed_ok hw hBz hi) ?_
    by_cases q : sd t i
    · rw [if_pos q]
      refine Ok.ifn (by decide) (Ok.bindE (seed_ok hw hBz hi) ?_)
      rw [if_pos q]
      refine Ok.ifn (by decide) (Ok.bind (add 0 (by omega) (Or.inl ⟨q, rfl⟩)) (fun z' h => Ok.go ⟨nI_1 i, h⟩))
    · rw [if_neg q]
      refine Ok.ifp rfl (Ok.bind (leastTo_ok hw hBz hP hi) ?_)
      rintro v ⟨w, hw2, rfl, hl⟩
      refine Ok.bindE (seed_ok hw hBz hi) ?_
      rw [if_neg q]
      refine Ok.ifp rfl ?_
      by_cases q2 : w = 0
      · refine Ok.ifp ((nO_m1 (by omega)).mpr q2) (Ok.go ⟨nI_1 i, hz.skip ?_⟩)
        rintro p c ⟨-, -, f, -, ⟨h1, -⟩ | ⟨-, h1, h2⟩, -⟩
        · exact q h1
        · exact h1 ((h2.uniq hl).trans q2)
      · refine Ok.ifn (fun y => q2 ((nO_m1 (by omega)).mp y)) (Ok.bind (add w hw2 (Or.inr ⟨q, q2, hl⟩)) (fun z' h => Ok.go ⟨nI_1 i, h⟩))
  · intro z hz
    have hBz := hB.fr hz.1
    unfold b_X7_ofBegun_2
    refine Ok.ifp (show z 0 0 ≤ nI n by rw [hBz.1.1]; exact nI_le (Nat.le_refl _) (by omega)) (Ok.inr ?_)
    have hz := hz.to (S' := UpTo n (gM0 num t pl K)) (fun p c => ⟨fun h => h.elim (fun w => w.elim) id, Or.inr⟩)
    refine finLoop (b := b_X7_ofBegun_59) n (gM1 num t pl K) ?_ ?_ hz
    · intro i z hi hz
      have hBz := hB.fr hz.1
      unfold b_X7_ofBegun_59
      refine Ok.ifn (show ¬ z 0 0 ≤ nI i by rw [hBz.1.1]; exact nI_ge hi (by omega)) ?_
      have add : ∀ f, f ≤ 2000 → Bg t pl K i f → Ok (f_X7_findIs z (nI i) 0 1 (nO f) (-1) (-1)) (MO n m (Uni (Uni (UpTo n (gM0 num t pl K)) (UpTo i (gM1 num t pl K))) (gM1 num t pl K i))) := by
        intro f hf hb
        have := findIs_ok hw hB hP hz (x := i) (d := 0) (ru := 1) (f := f) (s := 0) (a := 0) hi (by omega) (by omega) (by omega) (by omega) (by omega) (by
          rintro c (h | ⟨j, hj, -, e, -⟩)
          · have := bnd0 _ c h; unfold cod; omega
          · omega)
        rw [nO_0] at this
        refine Ok.mono this (fun z' h => h.one (fun p c => ?_))
        constructor
        · rintro ⟨h1, h2, h3⟩
          exact ⟨h1, by omega, f, hf, hb, h3⟩
        · rintro ⟨h1, h2, f', hf', hb', h3⟩
          rw [hb'.uniq hb] at h3
          exact ⟨h1, by omega, h3⟩
      refine Ok.bindE (seed_ok hw hBz hi) ?_
      by_cases q : sd t i
      · rw [if_pos q]
        refine Ok.ifn (by decide) (Ok.bindE (seed_ok hw hBz hi) ?_)
        rw [if_pos q]
        refine Ok.ifn (by decide) (Ok.bind (add 0 (by omega) (Or.inl ⟨q, rfl⟩)) (fun z' h => Ok.go ⟨nI_1 i, h⟩))
      · rw [if_neg q]
        refine Ok.ifp rfl (Ok.bind (leastTo_ok hw hBz hP hi) ?_)
        rintro v ⟨w, hw2, rfl, hl⟩
        refine Ok.bindE (seed_ok hw hBz hi) ?_
        rw [if_neg q]
        refine Ok.ifp rfl ?_
        by_cases q2 : w = 0
        · refine Ok.ifp ((nO_m1 (by omega)).mpr q2) (Ok.go ⟨nI_1 i, hz.skip ?_⟩)
          rintro p c ⟨-, -, f, -, ⟨h1, -⟩ | ⟨-, h1, h2⟩, -⟩
          · exact q h1
          · exact h1 ((h2.uniq hl).trans q2)
        · refine Ok.ifn (fun y => q2 ((nO_m1 (by omega)).mp y)) (Ok.bind (add w hw2 (Or.inr ⟨q, q2, hl⟩)) (fun z' h => Ok.go ⟨nI_1 i, h⟩))
    · intro z hz
      have hBz := hB.fr hz.1
      unfold b_X7_ofBegun_59
      exact Ok.ifp (show z 0 0 ≤ nI n by rw [hBz.1.1]; exact nI_le (Nat.le_refl _) (by omega)) (Ok.end hz)
end MRULES
