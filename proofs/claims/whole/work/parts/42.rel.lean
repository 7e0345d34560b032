/-! the theory t (sorts, parts; axioms) by natural numbers, and how both sides hold it -/
abbrev Th : Type := Nat → Nat → Nat
def Wf (t : Th) (n ax : Nat) : Prop := 2 ≤ n ∧ n ≤ 20 ∧ ax ≤ 40 ∧ t 0 0 = 0 ∧ t 0 1 = 1 ∧
  (∀ i, 2 ≤ i → i < n → t 0 i = 2 ∨ (t 0 i = 3 ∧ t 1 i < i ∧ t 2 i < i) ∨ (t 0 i = 4 ∧ t 1 i < 4 ∧ t 2 i < i)) ∧
  (∀ a, a < ax → (t 3 a = 0 ∧ t 4 a < n ∧ t 5 a < n) ∨ (t 3 a = 1 ∧ t 4 a < 4 ∧ t 5 a < 4) ∨ (t 3 a = 2 ∧ t 4 a < 4 ∧ t 5 a < 4 ∧ t 6 a < 4)) ∧
  ∀ a, a < ax → t 7 a ≤ 1
def tv1 (t : Th) (i : Nat) : Int32 := if t 0 i < 3 then -1 else nI (t 1 i)
def tv2 (t : Th) (i : Nat) : Int32 := if t 0 i < 3 then -1 else nI (t 2 i)
def tv6 (t : Th) (a : Nat) : Int32 := if t 3 a = 2 then nI (t 6 a) else -1
theorem Wf.n20 {t : Th} {n ax : Nat} (h : Wf t n ax) : n ≤ 20 := h.2.1
theorem Wf.n2 {t : Th} {n ax : Nat} (h : Wf t n ax) : 2 ≤ n := h.1
theorem Wf.a40 {t : Th} {n ax : Nat} (h : Wf t n ax) : ax ≤ 40 := h.2.2.1
theorem Wf.s5 {t : Th} {n ax : Nat} (h : Wf t n ax) {i : Nat} (hi : i < n) : t 0 i < 5 := by
  obtain ⟨-, -, -, h0, h1, h2, -⟩ := h
  rcases (show i = 0 ∨ i = 1 ∨ 2 ≤ i by omega) with rfl | rfl | q
  · omega
  · omega
  · have := h2 i q hi; omega
theorem Wf.meet {t : Th} {n ax : Nat} (h : Wf t n ax) {i : Nat} (hi : i < n) (h3 : t 0 i = 3) : t 1 i < i ∧ t 2 i < i := by
  obtain ⟨-, -, -, h0, h1, h2, -⟩ := h
  rcases (show i = 0 ∨ i = 1 ∨ 2 ≤ i by omega) with rfl | rfl | q
  · omega
  · omega
  · have := h2 i q hi; omega
theorem Wf.has {t : Th} {n ax : Nat} (h : Wf t n ax) {i : Nat} (hi : i < n) (h4 : t 0 i = 4) : t 1 i < 4 ∧ t 2 i < i := by
  obtain ⟨-, -, -, h0, h1, h2, -⟩ := h
  rcases (show i = 0 ∨ i = 1 ∨ 2 ≤ i by omega) with rfl | rfl | q
  · omega
  · omega
  · have := h2 i q hi; omega
theorem Wf.ax {t : Th} {n ax : Nat} (h : Wf t n ax) {a : Nat} (ha : a < ax) : (t 3 a = 0 ∧ t 4 a < n ∧ t 5 a < n) ∨ (t 3 a = 1 ∧ t 4 a < 4 ∧ t 5 a < 4) ∨ (t 3 a = 2 ∧ t 4 a < 4 ∧ t 5 a < 4 ∧ t 6 a < 4) := h.2.2.2.2.2.2.1 a ha
theorem Wf.h7 {t : Th} {n ax : Nat} (h : Wf t n ax) {a : Nat} (ha : a < ax) : t 7 a ≤ 1 := h.2.2.2.2.2.2.2 a ha
def XN (x : Nat → Nat → Int32) (t : Th) (n ax : Nat) : Prop := x 30 0 = nI n ∧ x 32 0 = nI ax ∧
  (∀ i, i < n → x 2 (3 * i) = nI (t 0 i) ∧ x 2 (3 * i + 1) = tv1 t i ∧ x 2 (3 * i + 2) = tv2 t i) ∧
  ∀ a, a < ax → x 4 (5 * a) = nI (t 3 a) ∧ x 4 (5 * a + 1) = nI (t 4 a) ∧ x 4 (5 * a + 2) = nI (t 5 a) ∧ x 4 (5 * a + 3) = tv6 t a ∧ x 4 (5 * a + 4) = nI (t 7 a)
def MN (m : MS) (t : Th) (n ax : Nat) : Prop := m 0 0 = nI n ∧ m 5 0 = nI ax ∧
  (∀ i, i < n → m 2 i = nI (t 0 i) ∧ m 3 i = tv1 t i ∧ m 4 i = tv2 t i) ∧
  ∀ a, a < ax → m 6 a = nI (t 3 a) ∧ m 7 a = nI (t 4 a) ∧ m 8 a = nI (t 5 a) ∧ m 9 a = tv6 t a ∧ m 10 a = nI (t 7 a)
section XREAD
variable {sx : XS} {t : Th} {n ax : Nat}
theorem xpart_ok (h : XN sx.1 t n ax) (hw : Wf t n ax) {i j : Nat} (hi : i < n) (hj : j < 3) : t_X3_part sx (nI i) (nI j) = sx.1 2 (3 * i + j) := by
  have h20 := hw.n20
  show t_X6_at 60 (sx.1 2) (nI i * nI 3 + nI j) = _
  rw [nI_mul, nI_add, at_nI (by omega) (by omega), Nat.mul_comm i 3]
theorem xsort_ok (h : XN sx.1 t n ax) (hw : Wf t n ax) {i : Nat} (hi : i < n) : t_X3_sort sx (nI i) = nI (t 0 i) := (xpart_ok h hw hi (j := 0) (by omega)).trans (h.2.2.1 i hi).1
theorem xfirst_ok (h : XN sx.1 t n ax) (hw : Wf t n ax) {i : Nat} (hi : i < n) : t_X3_first sx (nI i) = tv1 t i := (xpart_ok h hw hi (j := 1) (by omega)).trans (h.2.2.1 i hi).2.1
theorem xsecond_ok (h : XN sx.1 t n ax) (hw : Wf t n ax) {i : Nat} (hi : i < n) : t_X3_second sx (nI i) = tv2 t i := (xpart_ok h hw hi (j := 2) (by omega)).trans (h.2.2.1 i hi).2.2
theorem xapart_ok (h : XN sx.1 t n ax) (hw : Wf t n ax) {a j : Nat} (ha : a < ax) (hj : j < 5) : t_X0_part sx (nI a) (nI j) = sx.1 4 (5 * a + j) := by
  have h40 := hw.a40
  show t_X6_at 200 (sx.1 4) (nI a * nI 5 + nI j) = _
  rw [nI_mul, nI_add, at_nI (by omega) (by omega), Nat.mul_comm a 5]
theorem xa0_ok (h : XN sx.1 t n ax) (hw : Wf t n ax) {a : Nat} (ha : a < ax) : t_X0_part sx (nI a) 0 = nI (t 3 a) := (xapart_ok h hw ha (j := 0) (by omega)).trans (h.2.2.2 a ha).1
theorem xa1_ok (h : XN sx.1 t n ax) (hw : Wf t n ax) {a : Nat} (ha : a < ax) : t_X0_part sx (nI a) 1 = nI (t 4 a) := (xapart_ok h hw ha (j := 1) (by omega)).trans (h.2.2.2 a ha).2.1
theorem xa2_ok (h : XN sx.1 t n ax) (hw : Wf t n ax) {a : Nat} (ha : a < ax) : t_X0_part sx (nI a) 2 = nI (t 5 a) := (xapart_ok h hw ha (j := 2) (by omega)).trans (h.2.2.2 a ha).2.2.1
theorem xa3_ok (h : XN sx.1 t n ax) (hw : Wf t n ax) {a : Nat} (ha : a < ax) : t_X0_part sx (nI a) 3 = tv6 t a := (xapart_ok h hw ha (j := 3) (by omega)).trans (h.2.2.2 a ha).2.2.2.1
theorem xa4_ok (h : XN sx.1 t n ax) (hw : Wf t n ax) {a : Nat} (ha : a < ax) : t_X0_part sx (nI a) 4 = nI (t 7 a) := (xapart_ok h hw ha (j := 4) (by omega)).trans (h.2.2.2 a ha).2.2.2.2
theorem Wf.s3 (hw : Wf t n ax) {a : Nat} (ha : a < ax) : t 3 a < 3 := by
  have := hw.ax ha; omega
theorem xholdOf_ok (h : XN sx.1 t n ax) (hw : Wf t n ax) {a k : Nat} (ha : a < ax) (hk : k < 3) : t_X0_holdingOf sx (nI a) (nI k) = if t 7 a = 1 ∧ t 3 a = k then 1 else 0 := by
  unfold t_X0_holdingOf
  have h7 := hw.h7 ha
  have h3 := hw.s3 ha
  rw [xa4_ok h hw ha, xa0_ok h hw ha]
  have e1 : nI (t 7 a) = (1 : Int32) ↔ t 7 a = 1 := nI_eq (b := 1) (by omega) (by omega)
  have e2 : nI (t 3 a) = nI k ↔ t 3 a = k := nI_eq (by omega) (by omega)
  by_cases q1 : t 7 a = 1
  · rw [if_pos (e1.mpr q1)]
    by_cases q2 : t 3 a = k
    · rw [if_pos (e2.mpr q2), if_pos ⟨q1, q2⟩]
    · rw [if_neg (fun z => q2 (e2.mp z)), if_neg (fun z => q2 z.2)]
  · rw [if_neg (fun z => q1 (e1.mp z)), if_neg (fun z => q1 z.1)]
theorem xknows_ok (h : XN sx.1 t n ax) (hw : Wf t n ax) {i : Nat} (hi : i < 2 ^ 31) : t_X3_knows sx (nI i) = if i < n then 1 else 0 := by
  have := hw.n20
  unfold t_X3_knows
  rw [h.1, within_nI hi (by omega)]
theorem xseed_ok (h : XN sx.1 t n ax) (hw : Wf t n ax) {i : Nat} (hi : i < n) : t_X3_seed sx (nI i) = if t 0 i = 0 ∨ t 0 i = 2 then 1 else 0 := by
  have h20 := hw.n20
  have h5 := hw.s5 hi
  unfold t_X3_seed
  rw [xsort_ok h hw hi]
  have e2 : nI (t 0 i) = (2 : Int32) ↔ t 0 i = 2 := nI_eq (b := 2) (by omega) (by omega)
  have e0 : nI i = (0 : Int32) ↔ i = 0 := nI_eq (b := 0) (by omega) (by omega)
  obtain ⟨-, -, -, h0, h1, h2, -⟩ := hw
  by_cases q : i = 0
  · subst q
    rw [if_pos (e0.mpr rfl), if_pos (Or.inl h0)]
  · rw [if_neg (fun z => q (e0.mp z))]
    by_cases q2 : t 0 i = 2
    · rw [if_pos (e2.mpr q2), if_pos (Or.inr q2)]
    · rw [if_neg (fun z => q2 (e2.mp z)), if_neg]
      rintro (z | z)
      · rcases (show i = 1 ∨ 2 ≤ i by omega) with rfl | q3
        · omega
        · have := h2 i q3 hi; omega
      · exact q2 z
end XREAD
/-! the least code of a place -/
def LT (S : Nat → Nat → Prop) (p v : Nat) : Prop := (v = 0 ∧ ∀ c, ¬ S p c) ∨ ∃ c, v = c + 1 ∧ S p c ∧ ∀ c', S p c' → c ≤ c'
theorem LT.one {S : Nat → Nat → Prop} {p v w : Nat} (h1 : LT S p v) (h2 : LT S p w) : v = w := by
  rcases h1 with ⟨rfl, h1⟩ | ⟨c, rfl, h1, h3⟩ <;> rcases h2 with ⟨rfl, h2⟩ | ⟨d, rfl, h2, h4⟩
  · rfl
  · exact absurd h2 (h1 d)
  · exact absurd h1 (h2 c)
  · have := h3 d h2; have := h4 c h1; omega
theorem LT.congr {S S' : Nat → Nat → Prop} {p v : Nat} (h : LT S p v) (e : ∀ c, S p c ↔ S' p c) : LT S' p v := by
  rcases h with ⟨rfl, h⟩ | ⟨c, rfl, h1, h2⟩
  · exact Or.inl ⟨rfl, fun c hc => h c ((e c).mpr hc)⟩
  · exact Or.inr ⟨c, rfl, (e c).mp h1, fun c' hc => h2 c' ((e c').mpr hc)⟩
theorem LT.dom {S S' : Nat → Nat → Prop} {p v : Nat} (h : LT S p v) (h1 : ∀ c, S p c → S' p c) (h2 : ∀ c, S' p c → ∃ c', c' ≤ c ∧ S p c') : LT S' p v := by
  rcases h with ⟨rfl, h⟩ | ⟨c, rfl, g1, g2⟩
  · exact Or.inl ⟨rfl, fun c hc => by obtain ⟨c', -, h3⟩ := h2 c hc; exact h c' h3⟩
  · exact Or.inr ⟨c, rfl, h1 c g1, fun c' hc => by obtain ⟨d, hd, h3⟩ := h2 c' hc; have := g2 d h3; omega⟩
/-- one candidate more -/
theorem LT.add {S : Nat → Nat → Prop} {p v p0 c0 : Nat} (h : LT S p v) : LT (fun p c => S p c ∨ (p = p0 ∧ c = c0)) p (if p = p0 ∧ (v = 0 ∨ c0 + 1 < v) then c0 + 1 else v) := by
  by_cases hp : p = p0
  · subst hp
    rcases h with ⟨rfl, h⟩ | ⟨c, rfl, h1, h2⟩
    · rw [if_pos ⟨rfl, Or.inl rfl⟩]
      refine Or.inr ⟨c0, rfl, Or.inr ⟨rfl, rfl⟩, fun c' hc => ?_⟩
      rcases hc with hc | ⟨-, rfl⟩
      · exact absurd hc (h c')
      · exact Nat.le_refl _
    · by_cases q : c0 < c
      · rw [if_pos ⟨rfl, Or.inr (by omega)⟩]
        refine Or.inr ⟨c0, rfl, Or.inr ⟨rfl, rfl⟩, fun c' hc => ?_⟩
        rcases hc with hc | ⟨-, rfl⟩
        · have := h2 c' hc; omega
        · exact Nat.le_refl _
      · rw [if_neg (by rintro ⟨-, z⟩; omega)]
        refine Or.inr ⟨c, rfl, Or.inl h1, fun c' hc => ?_⟩
        rcases hc with hc | ⟨-, rfl⟩
        · exact h2 c' hc
        · omega
  · rw [if_neg (fun z => hp z.1)]
    exact h.congr (fun c => ⟨Or.inl, fun z => z.elim id (fun q => absurd q.1 hp)⟩)
