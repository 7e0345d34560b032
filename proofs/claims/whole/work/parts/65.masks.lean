/-! masks -/
def Mk (v : Int32) (n : Nat) (f : Nat → Bool) : Prop := ∀ i, i < 32 → bt v i = (decide (i < n) && f i)
theorem z_bt {v : Int32} : v = 0 ↔ ∀ i, i < 32 → bt v i = false := by
  constructor
  · rintro rfl i _
    exact b_0 i
  · intro h
    exact b_ext (fun i hi => by rw [h i hi, b_0])
theorem bit_bt : ∀ y, y < 20 → ∀ i, i < 32 → bt (t_X6_bit (nI y)) i = decide (i = y) := by decide +kernel
theorem Mk.congr {v : Int32} {n : Nat} {f g : Nat → Bool} (h : Mk v n f) (e : ∀ i, i < n → f i = g i) : Mk v n g := fun i hi => by
  rw [h i hi]
  by_cases q : i < n
  · rw [e i q]
  · simp [q]
theorem Mk.zero {n : Nat} : Mk 0 n (fun _ => false) := fun i _ => by rw [b_0]; simp
theorem Mk.bit {v : Int32} {n y : Nat} {f : Nat → Bool} (hn : n ≤ 20) (hy : y < n) (h : Mk v n f) : Mk (v ||| t_X6_bit (nI y)) n (fun i => f i || decide (i = y)) := fun i hi => by
  rw [b_or, h i hi, bit_bt y (by omega) i hi]
  by_cases q : i = y
  · subst q; simp [hy]
  · simp [q]
theorem Mk.and {v w : Int32} {n : Nat} {f g : Nat → Bool} (h : Mk v n f) (h2 : Mk w n g) : Mk (v &&& w) n (fun i => f i && g i) := fun i hi => by
  rw [b_and, h i hi, h2 i hi]
  by_cases q : i < n <;> simp [q]
theorem Mk.and0 {v w : Int32} {n : Nat} {f g : Nat → Bool} (hn : n ≤ 20) (h : Mk v n f) (h2 : Mk w n g) : (v &&& w) = 0 ↔ anyN (fun i => f i && g i) n = false := by
  rw [z_bt]
  constructor
  · intro hz
    cases e : anyN (fun i => f i && g i) n
    · rfl
    · obtain ⟨i, hi, w⟩ := anyN_t.mp e
      have := (h.and h2) i (by omega)
      rw [hz i (by omega)] at this
      simp [hi] at this
      simp at w
      rw [this w.1] at w
      exact absurd w.2 (by decide)
  · intro e i hi
    rw [(h.and h2) i hi]
    by_cases q : i < n
    · cases w : (f i && g i)
      · show (decide (i < n) && (f i && g i)) = false
        rw [w, Bool.and_false]
      · have := (anyN_t (f := fun i => f i && g i)).mpr ⟨i, q, w⟩
        rw [e] at this
        exact absurd this (by decide)
    · simp [q]
theorem Mk.has {v : Int32} {n y : Nat} {f : Nat → Bool} (hn : n ≤ 20) (hy : y < n) (h : Mk v n f) : t_X6_hasBit v (nI y) = b1 (f y) := by
  unfold t_X6_hasBit
  have e : (v &&& t_X6_bit (nI y)) = 0 ↔ f y = false := by
    rw [z_bt]
    constructor
    · intro hz
      have := hz y (by omega)
      rw [b_and, h y (by omega), bit_bt y (by omega) y (by omega)] at this
      simpa [hy] using this
    · intro e i hi
      rw [b_and, h i hi, bit_bt y (by omega) i hi]
      by_cases q : i = y
      · subst q; simp [e]
      · simp [q]
  cases w : f y
  · rw [if_pos (e.mpr w)]; rfl
  · rw [if_neg (fun z => by rw [e.mp z] at w; exact absurd w (by decide))]; rfl
theorem Mk.sub {v w : Int32} {n : Nat} {f g : Nat → Bool} (hn : n ≤ 20) (h : Mk v n f) (h2 : Mk w n g) : (v &&& (w ^^^ (-1 : Int32))) = 0 ↔ anyN (fun i => f i && !g i) n = false := by
  rw [z_bt]
  have key : ∀ i, i < 32 → bt (v &&& (w ^^^ (-1 : Int32))) i = (decide (i < n) && (f i && !g i)) := by
    intro i hi
    rw [b_and, b_xor, h i hi, h2 i hi, b_m1 i hi]
    by_cases q : i < n <;> simp [q]
  constructor
  · intro hz
    cases e : anyN (fun i => f i && !g i) n
    · rfl
    · obtain ⟨i, hi, w⟩ := anyN_t.mp e
      have := key i (by omega)
      rw [hz i (by omega), w] at this
      simp [hi] at this
  · intro e i hi
    rw [key i hi]
    by_cases q : i < n
    · cases w : (f i && !g i)
      · simp only [Bool.and_false]
      · have := (anyN_t (f := fun i => f i && !g i)).mpr ⟨i, q, w⟩
        rw [e] at this
        exact absurd this (by decide)
    · simp [q]
section XHOUSE
variable {sx z : XS} {t : Th} {n ax K : Nat} {pl num : Nat → Nat} {U : Nat → Nat → Bool}
def XH (x : Nat → Nat → Int32) (n : Nat) (P : Nat → Nat → Nat → Bool) (G : Nat → Nat → Bool) : Prop := (∀ j, j < n → Mk (x 17 j) n (G j)) ∧ ∀ r a, r < 4 → a < 20 → Mk (x 18 (20 * r + a)) n (P a r)
def FrB (x z : XS) : Prop := (∀ k, k ≠ 17 → k ≠ 18 → z.1 k = x.1 k) ∧ ∀ k, z.2 k = x.2 k
theorem FrB.s17 {x z : XS} (h : FrB x z) (f : Nat → Int32) : FrB x (sA z 17 f) := ⟨fun k h6 h7 => by show (if k = 17 then _ else z.1 k) = _; rw [if_neg h6]; exact h.1 k h6 h7, h.2⟩
theorem FrB.s18 {x z : XS} (h : FrB x z) (f : Nat → Int32) : FrB x (sA z 18 f) := ⟨fun k h6 h7 => by show (if k = 18 then _ else z.1 k) = _; rw [if_neg h7]; exact h.1 k h6 h7, h.2⟩
theorem FrB.xn {x z : XS} (h : FrB x z) (hN : XN x.1 t n ax) : XN z.1 t n ax := by
  obtain ⟨h1, h2, h3, h4⟩ := hN
  refine ⟨?_, ?_, fun i hi => ?_, fun a ha => ?_⟩
  · rw [h.1 30 (by omega) (by omega)]; exact h1
  · rw [h.1 32 (by omega) (by omega)]; exact h2
  · rw [h.1 2 (by omega) (by omega)]; exact h3 i hi
  · rw [h.1 4 (by omega) (by omega)]; exact h4 a ha
theorem FrB.nx {x z : XS} (h : FrB x z) (hn : NumX x.1 num) : NumX z.1 num := fun p hp => by rw [h.1 9 (by omega) (by omega)]; exact hn p hp
theorem FrB.u {x z : XS} (h : FrB x z) (hU : XU x.1 U) : XU z.1 U := fun r s hr hs => by rw [h.1 6 (by omega) (by omega)]; exact hU r s hr hs
theorem saysIs_ok (hn : NumX sx.1 num) {x d : Nat} (h : 100 * x + d < 2000) : t_X1_saysIs sx (nI x) (nI d) = b1 (decide (num (100 * x + d) ≠ 0)) := by
  unfold t_X1_saysIs
  rw [placeIs, at_nI h (by omega), (hn _ h).1]
  have := (hn _ h).2
  have e := nO_m1 (m := num (100 * x + d)) (by omega)
  by_cases q : num (100 * x + d) = 0
  · rw [if_pos (e.mpr q)]; simp [q, b1]
  · rw [if_neg (fun w => q (e.mp w))]; simp [q, b1]
theorem saysTo_ok (hn : NumX sx.1 num) {x r y : Nat} (h : 100 * x + 20 * (r + 1) + y < 2000) : t_X1_saysTo sx (nI x) (nI r) (nI y) = b1 (decide (num (100 * x + 20 * (r + 1) + y) ≠ 0)) := by
  unfold t_X1_saysTo
  rw [placeTo, at_nI h (by omega), (hn _ h).1]
  have := (hn _ h).2
  have e := nO_m1 (m := num (100 * x + 20 * (r + 1) + y)) (by omega)
  by_cases q : num (100 * x + 20 * (r + 1) + y) = 0
  · rw [if_pos (e.mpr q)]; simp [q, b1]
  · rw [if_neg (fun w => q (e.mp w))]; simp [q, b1]
theorem partners_ok {r a : Nat} (hr : r < 4) (ha : a < 20) : t_X2_partners z (nI r) (nI a) = z.1 18 (20 * r + a) := by
  unfold t_X2_partners t_X6_isRole
  have e1 : t_X6_within (nI r) 4 = 1 := (within_nI (n := 4) (by omega) (by omega)).trans (if_pos hr)
  have e2 : t_X6_within (nI a) 20 = 1 := (within_nI (n := 20) (by omega) (by omega)).trans (if_pos ha)
  rw [e1, e2, if_neg (by decide), if_neg (by decide)]
  have e3 : nI r * (20 : Int32) + nI a = nI (20 * r + a) := by
    show nI r * nI 20 + nI a = _
    rw [nI_mul, nI_add, Nat.mul_comm]
  rw [e3, at_nI (by omega) (by omega)]
theorem members_ok {j : Nat} (hj : j < 20) : t_X2_members z (nI j) = z.1 17 j := by
  unfold t_X2_members
  have e2 : t_X6_within (nI j) 20 = 1 := (within_nI (n := 20) (by omega) (by omega)).trans (if_pos hj)
  rw [e2, if_neg (by decide), at_nI hj (by omega)]
theorem pairPut {z : XS} {r a : Nat} (hr : r < 4) (ha : a < 20) (v : Int32) : t_X6_put 80 (z.1 18) (nI r * 20 + nI a) v = upd (z.1 18) (20 * r + a) v := by
  have e3 : nI r * (20 : Int32) + nI a = nI (20 * r + a) := by
    show nI r * nI 20 + nI a = _
    rw [nI_mul, nI_add, Nat.mul_comm]
  rw [e3, put_nI (by omega) (by omega)]
def XP (z : XS) (n : Nat) (D : Nat → Nat → Nat → Bool) : Prop := ∀ r a, r < 4 → a < 20 → Mk (z.1 18 (20 * r + a)) n (D a r)
theorem XP.congr {D D' : Nat → Nat → Nat → Bool} (h : XP z n D) (e : ∀ a r b, a < 20 → r < 4 → b < n → D a r b = D' a r b) : XP z n D' := fun r a hr ha => (h r a hr ha).congr (fun b hb => e a r b ha hr hb)
theorem pair_ok (hn20 : n ≤ 20) (hn : NumX sx.1 num) (hU : XU sx.1 U) {x y : Nat} (hx : x < n) (hy : y < n) {D : Nat → Nat → Nat → Bool} (hf : FrB sx z) (h17 : z.1 17 = sx.1 17) (h : XP z n D) :
    Ok (f_X2_buildPair z (nI x) (nI y)) (fun z' => FrB sx z' ∧ z'.1 17 = sx.1 17 ∧ XP z' n (fun a r b => D a r b || (decide (a = x) && decide (b = y) && anyN (hQ num U x r y) 4))) := by
  unfold f_X2_buildPair
  refine Ok.for (f := fun v => b_X2_buildPair_3 (nI x) (nI y) v.1 v.2) (i := 0) 4 (fun q z => FrB sx z ∧ z.1 17 = sx.1 17 ∧ XP z n (fun a r b => D a r b || (decide (a = x) && decide (b = y) && anyN (hQ num U x r y) q))) ?_ ?_ (Nat.zero_le _) ⟨hf, h17, h.congr (fun a r b _ _ _ => by simp [anyN])⟩
  · rintro q z hq ⟨hf, h17, h⟩
    show Ok (b_X2_buildPair_3 (nI x) (nI y) (nI q) z) _
    unfold b_X2_buildPair_3
    refine Ok.ifn (show ¬ (4 : Int32) ≤ nI q from nI_ge (b := 4) hq (by omega)) ?_
    refine Ok.for (f := fun v => b_X2_buildPair_12 (nI x) (nI y) (nI q) v.1 v.2) (i := 0) 4 (fun i z => FrB sx z ∧ z.1 17 = sx.1 17 ∧ XP z n (fun a r b => D a r b || (decide (a = x) && decide (b = y) && anyN (hQ num U x r y) (if r < i then q + 1 else q)))) ?_ ?_ (Nat.zero_le _) ⟨hf, h17, h.congr (fun a r b _ _ _ => by rw [if_neg (by omega)])⟩
    · rintro i z hi ⟨hf, h17, h⟩
      show Ok (b_X2_buildPair_12 (nI x) (nI y) (nI q) (nI i) z) _
      unfold b_X2_buildPair_12
      refine Ok.ifn (show ¬ (4 : Int32) ≤ nI i from nI_ge (b := 4) hi (by omega)) ?_
      rw [saysTo_ok (hf.nx hn) (by omega), under_ok (hf.u hU) hq hi, partners_ok hi (by omega), pairPut hi (by omega)]
      have skip : hQ num U x i y q = false → XP z n (fun a r b => D a r b || (decide (a = x) && decide (b = y) && anyN (hQ num U x r y) (if r < i + 1 then q + 1 else q))) := by
        intro hs
        refine h.congr (fun a r b _ _ _ => ?_)
        by_cases e : r = i
        · subst e
          rw [if_neg (by omega), if_pos (by omega)]
          show _ = (D a r b || (decide (a = x) && decide (b = y) && (anyN (hQ num U x r y) q || hQ num U x r y q)))
          rw [hs, Bool.or_false]
        · by_cases e2 : r < i
          · rw [if_pos e2, if_pos (by omega)]
          · rw [if_neg e2, if_neg (by omega)]
      by_cases q1 : num (100 * x + 20 * (q + 1) + y) = 0
      · exact Ok.ifp (by simp [q1, b1]) (Ok.go ⟨nI_1 i, hf, h17, skip (by simp [hQ, q1])⟩)
      · refine Ok.ifn (by simp [q1, b1]) ?_
        by_cases qu : U q i = true
        · rw [if_pos qu]
          refine Ok.ifn (by decide) (Ok.bindE rfl (Ok.go ⟨nI_1 i, hf.s18 _, h17, fun r a hr ha => ?_⟩))
          show Mk (upd (z.1 18) (20 * i + x) (z.1 18 (20 * i + x) ||| t_X6_bit (nI y)) (20 * r + a)) n _
          by_cases e : r = i ∧ a = x
          · obtain ⟨rfl, rfl⟩ := e
            rw [pk_us]
            refine ((h r a hr ha).bit hn20 hy).congr (fun b hb => ?_)
            have this : hQ num U a r y q = true := by simp [hQ, qu, q1]
            have l1 : (if r < r then q + 1 else q) = q := if_neg (by omega)
            have l2 : (if r < r + 1 then q + 1 else q) = q + 1 := if_pos (by omega)
            show ((D a r b || (decide (a = a) && decide (b = y) && anyN (hQ num U a r y) (if r < r then q + 1 else q))) || decide (b = y)) = (D a r b || (decide (a = a) && decide (b = y) && anyN (hQ num U a r y) (if r < r + 1 then q + 1 else q)))
            rw [l1, l2]
            show _ = (D a r b || (decide (a = a) && decide (b = y) && (anyN (hQ num U a r y) q || hQ num U a r y q)))
            rw [this]
            by_cases eb : b = y <;> simp [eb]
          · rw [pk_un (by omega)]
            refine (h r a hr ha).congr (fun b hb => ?_)
            by_cases ea : a = x
            · subst ea
              have er : r ≠ i := fun w => e ⟨w, rfl⟩
              have e3 : (if r < i then q + 1 else q) = (if r < i + 1 then q + 1 else q) := by
                by_cases e2 : r < i
                · rw [if_pos e2, if_pos (by omega)]
                · rw [if_neg e2, if_neg (by omega)]
              exact congrArg (fun w => D a r b || (decide (a = a) && decide (b = y) && anyN (hQ num U a r y) w)) e3
            · simp [ea]
        · rw [if_neg qu]
          have qu' : U q i = false := by simpa using qu
          exact Ok.ifp rfl (Ok.go ⟨nI_1 i, hf, h17, skip (by simp [hQ, qu'])⟩)
    · rintro z ⟨hf, h17, h⟩
      show Ok (b_X2_buildPair_12 (nI x) (nI y) (nI q) (nI 4) z) _
      unfold b_X2_buildPair_12
      exact Ok.ifp (show (4 : Int32) ≤ nI 4 from nI_le (a := 4) (Nat.le_refl _) (by omega)) (Ok.end (Or.inl ⟨_, rfl, nI_1 q, hf, h17, h.congr (fun a r b _ hr _ => by rw [if_pos hr])⟩))
  · rintro z hz
    show Ok (b_X2_buildPair_3 (nI x) (nI y) (nI 4) z) _
    unfold b_X2_buildPair_3
    exact Ok.ifp (show (4 : Int32) ≤ nI 4 from nI_le (a := 4) (Nat.le_refl _) (by omega)) (Ok.end hz)
end XHOUSE
