/-! the class's rules: what each offers -/
theorem Ok.now {S R : Type} {f : S → Option (S ⊕ R)} {P : R → Prop} {s : S} (h : Ok (f s) (NxS (fun _ => False) P)) : Ok (loopC f s) P := by
  obtain ⟨x, e, hx⟩ := h
  rcases hx with ⟨s', -, h⟩ | ⟨r, rfl, hr⟩
  · exact h.elim
  · exact ⟨r, loopC_end e, hr⟩
def Uni (S G : Nat → Nat → Prop) : Nat → Nat → Prop := fun p c => S p c ∨ G p c
def UpTo (N : Nat) (G : Nat → Nat → Nat → Prop) : Nat → Nat → Prop := fun p c => ∃ i, i < N ∧ G i p c
def XO (sx : XS) (S : Nat → Nat → Prop) (z : XS) : Prop := ∃ f, z = sL sx 15 f ∧ XT f S
theorem offLoop {R : Type} {sx : XS} {b : Int32 → XS → Option ((Int32 × XS) ⊕ R)} {P : R → Prop} (N : Nat) (G : Nat → Nat → Nat → Prop) {S : Nat → Nat → Prop}
    (hs : ∀ i f S', i < N → XT f S' → Ok (b (nI i) (sL sx 15 f)) (NxS (fun v => v.1 = nI (i + 1) ∧ XO sx (Uni S' (G i)) v.2) P))
    (he : ∀ f, XT f (Uni S (UpTo N G)) → Ok (b (nI N) (sL sx 15 f)) (NxS (fun _ => False) P)) {f : Nat → Int64} (h : XT f S) : Ok (loopC (fun v => b v.1 v.2) (nI 0, sL sx 15 f)) P := by
  refine Ok.for (f := fun v => b v.1 v.2) (i := 0) N (fun i z => XO sx (Uni S (UpTo i G)) z) ?_ ?_ (Nat.zero_le _) ⟨f, rfl, h.congr (fun p c => ⟨Or.inl, fun z => z.elim id (fun ⟨i, hi, _⟩ => absurd hi (Nat.not_lt_zero i))⟩)⟩
  · rintro i z hi ⟨f, rfl, hT⟩
    refine (hs i f _ hi hT).mono ?_
    rintro x (⟨v, rfl, h1, f', h2, h3⟩ | h)
    · refine Or.inl ⟨v, rfl, h1, f', h2, h3.congr (fun p c => ?_)⟩
      constructor
      · rintro ((q | ⟨j, hj, q⟩) | q)
        · exact Or.inl q
        · exact Or.inr ⟨j, by omega, q⟩
        · exact Or.inr ⟨i, by omega, q⟩
      · rintro (q | ⟨j, hj, q⟩)
        · exact Or.inl (Or.inl q)
        · by_cases e : j = i
          · subst e; exact Or.inr q
          · exact Or.inl (Or.inr ⟨j, by omega, q⟩)
    · exact Or.inr h
  · rintro z ⟨f, rfl, hT⟩
    exact he f hT
section RULES
variable {sx : XS} {num : Nat → Nat} {t : Th} {n ax : Nat} {U : Nat → Nat → Bool} {ch : Nat → Nat → Nat → Nat}
def XU (x : Nat → Nat → Int32) (U : Nat → Nat → Bool) : Prop := ∀ r s, r < 4 → s < 4 → x 6 (4 * r + s) = if U r s = true then 1 else 0
def XCh (x : Nat → Nat → Int32) (ch : Nat → Nat → Nat → Nat) : Prop := ∀ r s u, r < 4 → s < 4 → u < 4 → x 7 (16 * r + 4 * s + u) = nO (ch r s u) ∧ ch r s u ≤ 40
theorem under_ok (h : XU sx.1 U) {r s : Nat} (hr : r < 4) (hs : s < 4) : t_X4_goesUnder sx (nI r) (nI s) = if U r s = true then 1 else 0 := by
  unfold t_X4_goesUnder
  have e : t_X6_at 16 (sx.1 6) (nI r * 4 + nI s) = if U r s = true then 1 else 0 := by
    show t_X6_at 16 (sx.1 6) (nI r * nI 4 + nI s) = _
    rw [nI_mul, nI_add, at_nI (by omega) (by omega), Nat.mul_comm r 4]
    exact h r s hr hs
  rw [e]
  cases U r s <;> simp
theorem chain_ok (h : XCh sx.1 ch) {r s u : Nat} (hr : r < 4) (hs : s < 4) (hu : u < 4) : t_X4_axiomOfChain sx (nI r) (nI s) (nI u) = nO (ch r s u) := by
  unfold t_X4_axiomOfChain t_X4_placeOfChain
  show t_X6_at 64 (sx.1 7) ((nI r * nI 4 + nI s) * nI 4 + nI u) = _
  rw [nI_mul, nI_add, nI_mul, nI_add, at_nI (by omega) (by omega), show (r * 4 + s) * 4 + u = 16 * r + 4 * s + u by omega]
  exact (h r s u hr hs hu).1
/-- SELF and ALL of what is begun by f1 -/
def gBeg (num : Nat → Nat) (x f1 : Nat) : Nat → Nat → Prop := fun p c => num p = 0 ∧ ((p = 101 * x ∧ c = cod 0 f1 0 0) ∨ (p = 100 * x ∧ c = cod 1 f1 0 0))
def gSeed (num : Nat → Nat) (t : Th) (x : Nat) : Nat → Nat → Prop := fun p c => (t 0 x = 0 ∨ t 0 x = 2) ∧ gBeg num x 0 p c
theorem offSeeds_ok (hN : XN sx.1 t n ax) (hw : Wf t n ax) (hn : NumX sx.1 num) {f : Nat → Int64} {S : Nat → Nat → Prop} (hT : XT f S) :
    Ok (f_X5_offerSeeds (sL sx 15 f)) (XO sx (Uni S (UpTo n (gSeed num t)))) := by
  have h20 := hw.n20
  unfold f_X5_offerSeeds
  refine offLoop n (gSeed num t) ?_ ?_ hT
  · intro i f S' hi hT
    unfold b_X5_offerSeeds_2
    refine Ok.ifn (show ¬ sx.1 30 0 ≤ nI i by rw [hN.1]; exact nI_ge hi (by omega)) ?_
    have e := xseed_ok (sx := sL sx 15 f) hN hw hi
    rw [e]
    by_cases q : t 0 i = 0 ∨ t 0 i = 2
    · rw [if_pos q]
      refine Ok.ifn (by decide) ?_
      have hb := offBegun_ok hn hT (x := i) (f1 := 0) (by omega) (by omega)
      rw [nO_0] at hb
      refine Ok.bind hb ?_
      rintro z ⟨f', rfl, hz⟩
      exact Ok.go ⟨nI_1 i, f', rfl, hz.congr (fun p c => ⟨fun z => z.elim Or.inl (fun y => Or.inr ⟨q, y⟩), fun z => z.elim Or.inl (fun y => Or.inr y.2)⟩)⟩
    · rw [if_neg q]
      refine Ok.ifp rfl (Ok.go ⟨nI_1 i, f, rfl, hT.congr (fun p c => ⟨Or.inl, fun z => z.elim id (fun y => absurd y.1 q)⟩)⟩)
  · intro f hT
    unfold b_X5_offerSeeds_2
    exact Ok.ifp (show sx.1 30 0 ≤ nI n by rw [hN.1]; exact nI_le (Nat.le_refl _) (by omega)) (Ok.end ⟨f, rfl, hT⟩)
def gParts (num : Nat → Nat) (t : Th) (k x d : Nat) : Nat → Nat → Prop := fun p c => num p = 0 ∧ ((t 0 d = 3 ∧ (p = 100 * x + t 1 d ∨ p = 100 * x + t 2 d) ∧ c = cod 2 (k + 1) 0 0) ∨ (t 0 d = 4 ∧ p = 100 * x + 20 * (t 1 d + 1) + t 2 d ∧ c = cod 5 (k + 1) 0 0))
theorem tv1_3 {t : Th} {d : Nat} (h : 3 ≤ t 0 d) : tv1 t d = nI (t 1 d) := by unfold tv1; rw [if_neg (by omega)]
theorem tv2_3 {t : Th} {d : Nat} (h : 3 ≤ t 0 d) : tv2 t d = nI (t 2 d) := by unfold tv2; rw [if_neg (by omega)]
theorem offParts_ok (hN : XN sx.1 t n ax) (hw : Wf t n ax) (hn : NumX sx.1 num) {k x d : Nat} (hk : k < 2000) (hx : x < n) (hd : d < n) {f : Nat → Int64} {S : Nat → Nat → Prop} (hT : XT f S) :
    Ok (f_X5_offerByParts (sL sx 15 f) (nI k) (nI x) (nI d)) (XO sx (Uni S (gParts num t k x d))) := by
  have h20 := hw.n20
  have h5 := hw.s5 hd
  unfold f_X5_offerByParts
  rw [xsort_ok (sx := sL sx 15 f) hN hw hd, xfirst_ok (sx := sL sx 15 f) hN hw hd, xsecond_ok (sx := sL sx 15 f) hN hw hd]
  have w2 : t_X6_whyOf 2 (nI k) (-1) (-1) = lN (cod 2 (k + 1) 0 0) := by
    have := whyOf_ok (ru := 2) (f := k + 1) (s := 0) (a := 0) (by omega) (by omega) (by omega) (by omega)
    rw [nO_0, nO_s] at this; exact this
  have w5 : t_X6_whyOf 5 (nI k) (-1) (-1) = lN (cod 5 (k + 1) 0 0) := by
    have := whyOf_ok (ru := 5) (f := k + 1) (s := 0) (a := 0) (by omega) (by omega) (by omega) (by omega)
    rw [nO_0, nO_s] at this; exact this
  rw [w2, w5]
  have e3 : nI (t 0 d) = (3 : Int32) ↔ t 0 d = 3 := nI_eq (b := 3) (by omega) (by omega)
  have e4 : nI (t 0 d) = (4 : Int32) ↔ t 0 d = 4 := nI_eq (b := 4) (by omega) (by omega)
  by_cases q3 : t 0 d = 3
  · refine Ok.ifp (e3.mpr q3) ?_
    have hm := hw.meet hd q3
    rw [tv1_3 (by omega), tv2_3 (by omega), placeIs, placeIs]
    refine Ok.bind (offer_ok hn hT (by omega) (cod_lt (by omega) (by omega) (by omega) (by omega))) ?_
    rintro z ⟨f', rfl, hz⟩
    refine Ok.bind (offer_ok hn hz (by omega) (cod_lt (by omega) (by omega) (by omega) (by omega))) ?_
    rintro z ⟨f2, rfl, hz2⟩
    rw [xsort_ok (sx := sL sx 15 f2) hN hw hd]
    refine Ok.ifn (fun z => by have := e4.mp z; omega) (Ok.some ⟨f2, rfl, hz2.congr (fun p c => ?_)⟩)
    constructor
    · rintro ((h | ⟨h1, h2, h3⟩) | ⟨h1, h2, h3⟩)
      · exact Or.inl h
      · exact Or.inr ⟨h1, Or.inl ⟨q3, Or.inl h2, h3⟩⟩
      · exact Or.inr ⟨h1, Or.inl ⟨q3, Or.inr h2, h3⟩⟩
    · rintro (h | ⟨h1, ⟨-, h2 | h2, h3⟩ | ⟨h2, -⟩⟩)
      · exact Or.inl (Or.inl h)
      · exact Or.inl (Or.inr ⟨h1, h2, h3⟩)
      · exact Or.inr ⟨h1, h2, h3⟩
      · omega
  · refine Ok.ifn (fun z => q3 (e3.mp z)) ?_
    by_cases q4 : t 0 d = 4
    · refine Ok.ifp (e4.mpr q4) ?_
      have hm := hw.has hd q4
      rw [tv1_3 (by omega), tv2_3 (by omega), placeTo]
      refine Ok.bind (offer_ok hn hT (by omega) (cod_lt (by omega) (by omega) (by omega) (by omega))) ?_
      rintro z ⟨f', rfl, hz⟩
      refine Ok.some ⟨f', rfl, hz.congr (fun p c => ?_)⟩
      constructor
      · rintro (h | ⟨h1, h2, h3⟩)
        · exact Or.inl h
        · exact Or.inr ⟨h1, Or.inr ⟨q4, h2, h3⟩⟩
      · rintro (h | ⟨h1, ⟨h2, -⟩ | ⟨-, h2, h3⟩⟩)
        · exact Or.inl h
        · omega
        · exact Or.inr ⟨h1, h2, h3⟩
    · refine Ok.ifn (fun z => q4 (e4.mp z)) (Ok.some ⟨f, rfl, hT.congr (fun p c => ⟨Or.inl, ?_⟩)⟩)
      rintro (h | ⟨h1, ⟨h2, -⟩ | ⟨h2, -⟩⟩)
      · exact h
      · omega
      · omega
def gMeet (num : Nat → Nat) (t : Th) (k x d m : Nat) : Nat → Nat → Prop := fun p c => num p = 0 ∧ t 0 m = 3 ∧ t 1 m = d ∧ num (100 * x + t 2 m) ≠ 0 ∧ p = 100 * x + m ∧ c = cod 3 (k + 1) (num (100 * x + t 2 m)) 0
theorem offMeets_ok (hN : XN sx.1 t n ax) (hw : Wf t n ax) (hn : NumX sx.1 num) {k x d : Nat} (hk : k < 2000) (hx : x < n) (hd : d < n) {f : Nat → Int64} {S : Nat → Nat → Prop} (hT : XT f S) :
    Ok (f_X5_offerMeets (sL sx 15 f) (nI k) (nI x) (nI d)) (XO sx (Uni S (UpTo n (gMeet num t k x d)))) := by
  have h20 := hw.n20
  unfold f_X5_offerMeets
  refine offLoop (b := b_X5_offerMeets_3 (nI k) (nI x) (nI d)) n (gMeet num t k x d) ?_ ?_ hT
  · intro i f S' hi hT
    have h5 := hw.s5 hi
    unfold b_X5_offerMeets_3
    refine Ok.ifn (show ¬ sx.1 30 0 ≤ nI i by rw [hN.1]; exact nI_ge hi (by omega)) ?_
    rw [xsort_ok (sx := sL sx 15 f) hN hw hi, xfirst_ok (sx := sL sx 15 f) hN hw hi, xsecond_ok (sx := sL sx 15 f) hN hw hi]
    have e3 : nI (t 0 i) = (3 : Int32) ↔ t 0 i = 3 := nI_eq (b := 3) (by omega) (by omega)
    by_cases q3 : t 0 i = 3
    · refine Ok.ifp (e3.mpr q3) ?_
      have hm := hw.meet hi q3
      rw [tv1_3 (by omega), tv2_3 (by omega)]
      have e1 : nI (t 1 i) = nI d ↔ t 1 i = d := nI_eq (by omega) (by omega)
      by_cases q1 : t 1 i = d
      · refine Ok.ifp (e1.mpr q1) ?_
        rw [placeIs, numIs_ok (sx := sL sx 15 f) hn (by omega)]
        have h2 := (hn (100 * x + t 2 i) (by omega)).2
        have ho := offer2_ok hn hT (p0 := 100 * x + i) (ru := 3) (f1 := k + 1) (s1 := num (100 * x + t 2 i)) (by omega) (by omega) (by omega) (by omega)
        rw [nO_s] at ho
        refine Ok.bind ho ?_
        rintro z ⟨f', rfl, hz⟩
        exact Ok.go ⟨nI_1 i, f', rfl, hz.congr (fun p c => ⟨fun z => z.elim Or.inl (fun y => Or.inr ⟨y.1, q3, q1, y.2.2.1, y.2.1, y.2.2.2⟩), fun z => z.elim Or.inl (fun y => Or.inr ⟨y.1, y.2.2.2.2.1, y.2.2.2.1, y.2.2.2.2.2⟩)⟩)⟩
      · exact Ok.ifn (fun z => q1 (e1.mp z)) (Ok.go ⟨nI_1 i, f, rfl, hT.congr (fun p c => ⟨Or.inl, fun z => z.elim id (fun y => absurd y.2.2.1 q1)⟩)⟩)
    · exact Ok.ifn (fun z => q3 (e3.mp z)) (Ok.go ⟨nI_1 i, f, rfl, hT.congr (fun p c => ⟨Or.inl, fun z => z.elim id (fun y => absurd y.2.1 q3)⟩)⟩)
  · intro f hT
    unfold b_X5_offerMeets_3
    exact Ok.ifp (show sx.1 30 0 ≤ nI n by rw [hN.1]; exact nI_le (Nat.le_refl _) (by omega)) (Ok.end ⟨f, rfl, hT⟩)
def gAx (num : Nat → Nat) (t : Th) (k x d a : Nat) : Nat → Nat → Prop := fun p c => num p = 0 ∧ t 7 a = 1 ∧ t 3 a = 0 ∧ t 4 a = d ∧ p = 100 * x + t 5 a ∧ c = cod 4 (k + 1) 0 (a + 1)
theorem offAx_ok (hN : XN sx.1 t n ax) (hw : Wf t n ax) (hn : NumX sx.1 num) {k x d : Nat} (hk : k < 2000) (hx : x < n) (hd : d < n) {f : Nat → Int64} {S : Nat → Nat → Prop} (hT : XT f S) :
    Ok (f_X5_offerByAxioms (sL sx 15 f) (nI k) (nI x) (nI d)) (XO sx (Uni S (UpTo ax (gAx num t k x d)))) := by
  have h20 := hw.n20
  have h40 := hw.a40
  unfold f_X5_offerByAxioms
  refine offLoop (b := b_X5_offerByAxioms_3 (nI k) (nI x) (nI d)) ax (gAx num t k x d) ?_ ?_ hT
  · intro i f S' hi hT
    have h3 := hw.s3 hi
    unfold b_X5_offerByAxioms_3
    refine Ok.ifn (show ¬ sx.1 32 0 ≤ nI i by rw [hN.2.1]; exact nI_ge hi (by omega)) ?_
    have e0 : t_X0_holdingOf (sL sx 15 f) (nI i) 0 = _ := xholdOf_ok (sx := sL sx 15 f) hN hw hi (k := 0) (by omega)
    rw [e0, xa1_ok (sx := sL sx 15 f) hN hw hi, xa2_ok (sx := sL sx 15 f) hN hw hi]
    by_cases q : t 7 i = 1 ∧ t 3 i = 0
    · rw [if_pos q]
      refine Ok.ifn (by decide) ?_
      have hwa := hw.ax hi
      have e1 : nI (t 4 i) = nI d ↔ t 4 i = d := nI_eq (by omega) (by omega)
      by_cases q1 : t 4 i = d
      · refine Ok.ifp (e1.mpr q1) ?_
        have w4 : t_X6_whyOf 4 (nI k) (-1) (nI i) = lN (cod 4 (k + 1) 0 (i + 1)) := by
          have := whyOf_ok (ru := 4) (f := k + 1) (s := 0) (a := i + 1) (by omega) (by omega) (by omega) (by omega)
          rw [nO_0, nO_s, nO_s] at this; exact this
        rw [placeIs, w4]
        refine Ok.bind (offer_ok hn hT (by omega) (cod_lt (by omega) (by omega) (by omega) (by omega))) ?_
        rintro z ⟨f', rfl, hz⟩
        exact Ok.go ⟨nI_1 i, f', rfl, hz.congr (fun p c => ⟨fun z => z.elim Or.inl (fun y => Or.inr ⟨y.1, q.1, q.2, q1, y.2.1, y.2.2⟩), fun z => z.elim Or.inl (fun y => Or.inr ⟨y.1, y.2.2.2.2.1, y.2.2.2.2.2⟩)⟩)⟩
      · exact Ok.ifn (fun z => q1 (e1.mp z)) (Ok.go ⟨nI_1 i, f, rfl, hT.congr (fun p c => ⟨Or.inl, fun z => z.elim id (fun y => absurd y.2.2.2.1 q1)⟩)⟩)
    · rw [if_neg q]
      exact Ok.ifp rfl (Ok.go ⟨nI_1 i, f, rfl, hT.congr (fun p c => ⟨Or.inl, fun z => z.elim id (fun y => absurd ⟨y.2.1, y.2.2.1⟩ q)⟩)⟩)
  · intro f hT
    unfold b_X5_offerByAxioms_3
    exact Ok.ifp (show sx.1 32 0 ≤ nI ax by rw [hN.2.1]; exact nI_le (Nat.le_refl _) (by omega)) (Ok.end ⟨f, rfl, hT⟩)
def gBack (num : Nat → Nat) (t : Th) (U : Nat → Nat → Bool) (k x r y h : Nat) : Nat → Nat → Prop := fun p c => num p = 0 ∧ t 0 h = 4 ∧ U r (t 1 h) = true ∧ num (100 * y + t 2 h) ≠ 0 ∧ p = 100 * x + h ∧ c = cod 6 (k + 1) (num (100 * y + t 2 h)) 0
def gNone (num : Nat → Nat) (k x y : Nat) : Nat → Nat → Prop := fun p c => num p = 0 ∧ num (100 * y + 1) ≠ 0 ∧ p = 100 * x + 1 ∧ c = cod 7 (k + 1) (num (100 * y + 1)) 0
theorem offBack_ok (hN : XN sx.1 t n ax) (hw : Wf t n ax) (hn : NumX sx.1 num) (hU : XU sx.1 U) {k x r y : Nat} (hk : k < 2000) (hx : x < n) (hr : r < 4) (hy : y < n) {f : Nat → Int64} {S : Nat → Nat → Prop} (hT : XT f S) :
    Ok (f_X5_offerBack (sL sx 15 f) (nI k) (nI x) (nI r) (nI y)) (XO sx (Uni (Uni S (UpTo n (gBack num t U k x r y))) (gNone num k x y))) := by
  have h20 := hw.n20
  have h2 := hw.n2
  unfold f_X5_offerBack
  refine offLoop (b := b_X5_offerBack_3 (nI k) (nI x) (nI r) (nI y)) n (gBack num t U k x r y) ?_ ?_ hT
  · intro i f S' hi hT
    have h5 := hw.s5 hi
    unfold b_X5_offerBack_3
    refine Ok.ifn (show ¬ sx.1 30 0 ≤ nI i by rw [hN.1]; exact nI_ge hi (by omega)) ?_
    rw [xsort_ok (sx := sL sx 15 f) hN hw hi, xfirst_ok (sx := sL sx 15 f) hN hw hi, xsecond_ok (sx := sL sx 15 f) hN hw hi]
    have e4 : nI (t 0 i) = (4 : Int32) ↔ t 0 i = 4 := nI_eq (b := 4) (by omega) (by omega)
    by_cases q4 : t 0 i = 4
    · refine Ok.ifp (e4.mpr q4) ?_
      have hm := hw.has hi q4
      rw [tv1_3 (by omega), tv2_3 (by omega), under_ok (sx := sL sx 15 f) hU hr hm.1]
      by_cases q1 : U r (t 1 i) = true
      · rw [if_pos q1]
        refine Ok.ifn (by decide) ?_
        rw [placeIs, numIs_ok (sx := sL sx 15 f) hn (by omega)]
        have h2 := (hn (100 * y + t 2 i) (by omega)).2
        have ho := offer2_ok hn hT (p0 := 100 * x + i) (ru := 6) (f1 := k + 1) (s1 := num (100 * y + t 2 i)) (by omega) (by omega) (by omega) (by omega)
        rw [nO_s] at ho
        refine Ok.bind ho ?_
        rintro z ⟨f', rfl, hz⟩
        exact Ok.go ⟨nI_1 i, f', rfl, hz.congr (fun p c => ⟨fun z => z.elim Or.inl (fun y => Or.inr ⟨y.1, q4, q1, y.2.2.1, y.2.1, y.2.2.2⟩), fun z => z.elim Or.inl (fun y => Or.inr ⟨y.1, y.2.2.2.2.1, y.2.2.2.1, y.2.2.2.2.2⟩)⟩)⟩
      · rw [if_neg q1]
        exact Ok.ifp rfl (Ok.go ⟨nI_1 i, f, rfl, hT.congr (fun p c => ⟨Or.inl, fun z => z.elim id (fun y => absurd y.2.2.1 q1)⟩)⟩)
    · exact Ok.ifn (fun z => q4 (e4.mp z)) (Ok.go ⟨nI_1 i, f, rfl, hT.congr (fun p c => ⟨Or.inl, fun z => z.elim id (fun y => absurd y.2.1 q4)⟩)⟩)
  · intro f hT
    unfold b_X5_offerBack_3
    refine Ok.ifp (show sx.1 30 0 ≤ nI n by rw [hN.1]; exact nI_le (Nat.le_refl _) (by omega)) ?_
    have e1 : t_X6_placeOfIs (nI x) 1 = nI (100 * x + 1) := placeIs x 1
    have e2 : t_X1_numberOfIs (sL sx 15 f) (nI y) 1 = nO (num (100 * y + 1)) := numIs_ok (sx := sL sx 15 f) hn (x := y) (d := 1) (by omega)
    rw [e1, e2]
    have h2 := (hn (100 * y + 1) (by omega)).2
    have ho := offer2_ok hn hT (p0 := 100 * x + 1) (ru := 7) (f1 := k + 1) (s1 := num (100 * y + 1)) (by omega) (by omega) (by omega) (by omega)
    rw [nO_s] at ho
    refine Ok.bind ho ?_
    rintro z ⟨f', rfl, hz⟩
    exact Ok.end ⟨f', rfl, hz.congr (fun p c => ⟨fun z => z.elim Or.inl (fun y => Or.inr ⟨y.1, y.2.2.1, y.2.1, y.2.2.2⟩), fun z => z.elim Or.inl (fun y => Or.inr ⟨y.1, y.2.2.1, y.2.1, y.2.2.2⟩)⟩)⟩
def gChain (num : Nat → Nat) (ch : Nat → Nat → Nat → Nat) (k x r y s u z : Nat) : Nat → Nat → Prop := fun p c => num p = 0 ∧ ch r s u ≠ 0 ∧ num (100 * y + 20 * (s + 1) + z) ≠ 0 ∧ p = 100 * x + 20 * (u + 1) + z ∧ c = cod 8 (k + 1) (num (100 * y + 20 * (s + 1) + z)) (ch r s u)
theorem offChains_ok (hN : XN sx.1 t n ax) (hw : Wf t n ax) (hn : NumX sx.1 num) (hC : XCh sx.1 ch) {k x r y : Nat} (hk : k < 2000) (hx : x < n) (hr : r < 4) (hy : y < n) {f : Nat → Int64} {S : Nat → Nat → Prop} (hT : XT f S) :
    Ok (f_X5_offerChains (sL sx 15 f) (nI k) (nI x) (nI r) (nI y)) (XO sx (Uni S (UpTo 4 (fun s => UpTo 4 (fun u => UpTo n (gChain num ch k x r y s u)))))) := by
  have h20 := hw.n20
  have h2 := hw.n2
  unfold f_X5_offerChains
  refine offLoop (b := b_X5_offerChains_3 (nI k) (nI x) (nI r) (nI y)) 4 (fun s => UpTo 4 (fun u => UpTo n (gChain num ch k x r y s u))) ?_ ?_ hT
  · intro s f S' hs hT
    unfold b_X5_offerChains_3
    refine Ok.ifn (show ¬ (4 : Int32) ≤ nI s from nI_ge (b := 4) hs (by omega)) ?_
    refine offLoop (b := b_X5_offerChains_12 (nI k) (nI x) (nI r) (nI y) (nI s)) 4 (fun u => UpTo n (gChain num ch k x r y s u)) ?_ ?_ hT
    · intro u f S' hu hT
      unfold b_X5_offerChains_12
      refine Ok.ifn (show ¬ (4 : Int32) ≤ nI u from nI_ge (b := 4) hu (by omega)) ?_
      rw [chain_ok (sx := sL sx 15 f) hC hr hs hu]
      have hc40 := (hC r s u hr hs hu).2
      by_cases q : ch r s u = 0
      · refine Ok.now (f := fun v => b_X5_offerChains_35 (nI k) (nI x) (nI r) (nI y) (nI s) (nI u) (nO (ch r s u)) v.1 v.2) (s := (nI 0, sL sx 15 f)) ?_
        show Ok (b_X5_offerChains_35 (nI k) (nI x) (nI r) (nI y) (nI s) (nI u) (nO (ch r s u)) (nI 0) (sL sx 15 f)) _
        unfold b_X5_offerChains_35
        refine Ok.ifn (show ¬ sx.1 30 0 ≤ nI 0 by rw [hN.1]; exact nI_ge (by omega) (by omega)) (Ok.ifp ((nO_m1 (by omega)).mpr q) (Ok.end (Or.inl ⟨_, rfl, nI_1 u, f, rfl, hT.congr (fun p c => ⟨Or.inl, ?_⟩)⟩)))
        rintro (h | ⟨i, -, -, h, -⟩)
        · exact h
        · exact absurd q h
      · refine offLoop (b := b_X5_offerChains_35 (nI k) (nI x) (nI r) (nI y) (nI s) (nI u) (nO (ch r s u))) n (gChain num ch k x r y s u) ?_ ?_ hT
        · intro z f S' hz hT
          unfold b_X5_offerChains_35
          refine Ok.ifn (show ¬ sx.1 30 0 ≤ nI z by rw [hN.1]; exact nI_ge hz (by omega)) (Ok.ifn (fun w => q ((nO_m1 (by omega)).mp w)) ?_)
          rw [numTo_ok (sx := sL sx 15 f) hn (by omega)]
          have h2 := (hn (100 * y + 20 * (s + 1) + z) (by omega)).2
          by_cases q2 : num (100 * y + 20 * (s + 1) + z) = 0
          · exact Ok.ifp ((nO_m1 (by omega)).mpr q2) (Ok.go ⟨nI_1 z, f, rfl, hT.congr (fun p c => ⟨Or.inl, fun w => w.elim id (fun y => absurd q2 y.2.2.1)⟩)⟩)
          · refine Ok.ifn (fun w => q2 ((nO_m1 (by omega)).mp w)) ?_
            have w8 := whyOf_ok (ru := 8) (f := k + 1) (s := num (100 * y + 20 * (s + 1) + z)) (a := ch r s u) (by omega) (by omega) (by omega) (by omega)
            rw [nO_s] at w8
            have w8 : t_X6_whyOf 8 (nI k) (nO (num (100 * y + 20 * (s + 1) + z))) (nO (ch r s u)) = _ := w8
            rw [w8, placeTo]
            refine Ok.bind (offer_ok hn hT (by omega) (cod_lt (by omega) (by omega) (by omega) (by omega))) ?_
            rintro w ⟨f', rfl, hz⟩
            exact Ok.go ⟨nI_1 z, f', rfl, hz.congr (fun p c => ⟨fun z => z.elim Or.inl (fun y => Or.inr ⟨y.1, q, q2, y.2.1, y.2.2⟩), fun z => z.elim Or.inl (fun y => Or.inr ⟨y.1, y.2.2.2.1, y.2.2.2.2⟩)⟩)⟩
        · intro f hT
          unfold b_X5_offerChains_35
          exact Ok.ifp (show sx.1 30 0 ≤ nI n by rw [hN.1]; exact nI_le (Nat.le_refl _) (by omega)) (Ok.end (Or.inl ⟨_, rfl, nI_1 u, f, rfl, hT⟩))
    · intro f hT
      unfold b_X5_offerChains_12
      exact Ok.ifp (show (4 : Int32) ≤ nI 4 from nI_le (a := 4) (Nat.le_refl _) (by omega)) (Ok.end (Or.inl ⟨_, rfl, nI_1 s, f, rfl, hT⟩))
  · intro f hT
    unfold b_X5_offerChains_3
    exact Ok.ifp (show (4 : Int32) ≤ nI 4 from nI_le (a := 4) (Nat.le_refl _) (by omega)) (Ok.end ⟨f, rfl, hT⟩)
end RULES
