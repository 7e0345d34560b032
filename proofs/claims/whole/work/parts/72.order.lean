/-! the conclusions; the order of the named -/
theorem twin {S R : Type} {f g : S → Option (S ⊕ R)} (I : Nat → S → Prop) (h : ∀ n s, I n s → ∃ x, f s = some x ∧ g s = some x ∧ ∀ s', x = Sum.inl s' → ∃ n', n' < n ∧ I n' s') : ∀ n s, I n s → ∃ r, loopC f s = some r ∧ loopC g s = some r := by
  intro n
  induction n using Nat.strongRecOn with
  | _ n ih =>
    intro s hs
    obtain ⟨x, e1, e2, hx⟩ := h n s hs
    cases x with
    | inl s' =>
      obtain ⟨n', hn, hI⟩ := hx s' rfl
      obtain ⟨r, r1, r2⟩ := ih n' hn s' hI
      exact ⟨r, (loopC_next e1).trans r1, (loopC_next e2).trans r2⟩
    | inr r => exact ⟨r, loopC_end e1, loopC_end e2⟩
section ORDER
variable {t : Th} {n ax cl cc K rdn : Nat} {sx : XS} {sm : MS} {pl num rn cd : Nat → Nat} {U : Nat → Nat → Bool} {ch : Nat → Nat → Nat → Nat}
theorem fact_eq (hw : Wf t n ax) (hG : CS t n K pl num cd) (hX : XC sx K pl num rn cd rdn) (hM : MC sm n K pl num rn cd rdn) {k w : Nat} (hk : k < K) (hw9 : w < 9) : t_X1_part sx (nI k) (nI w) = sm 15 (9 * k + w) := by
  have h20 := hw.n20
  have hK := hG.1.1
  obtain ⟨x10, x11, x12⟩ := hX.2.2.1 k hk
  obtain ⟨f0, f1, f2, f3, f4, f5, f6, f7, f8⟩ := hM.2.2.1 k hk
  obtain ⟨ps, po, -⟩ := hG.1.2.1 k hk
  have h2000 : pl k < 2000 := by have := pl_eq (pl k); have := rh_lt (pl k); have := ob_lt (pl k); omega
  have ep : t_X1_placeOf sx (nI k) = nI (pl k) := (at_nI (f := sx.1 10) (by omega) (by omega)).trans x10
  have el : t_X6_longAt 2000 (sx.2 12) (nI k) = lN (cd k) := (longAt_nI (f := sx.2 12) (by omega) (by omega)).trans x12
  obtain ⟨ru, f, s, a, ec, c1, c2, c3, c4⟩ := hG.2.1 k hk
  have hlt : cd k < 2 ^ 62 := by rw [ec]; exact cod_lt c1 (by omega) (by omega) (by omega)
  unfold t_X1_part
  rw [ep, roleAt_ok h2000, subjectAt_ok h2000, objectAt_ok h2000]
  have hrl := rh_lt (pl k)
  have ne : ∀ i j, i < 9 → j < 9 → i ≠ j → ¬ nI i = nI j := fun i j hi hj hne w => hne ((nI_eq (by omega) (by omega)).mp w)
  have p17 : t_X6_partOfWhy (lN (cd k)) 17 11 = nI (cd k / 131072 % 2048) := part_ok (k := 17) (b := 11) hlt (by omega) (by omega)
  have p6 : t_X6_partOfWhy (lN (cd k)) 6 11 = nI (cd k / 64 % 2048) := part_ok (k := 6) (b := 11) hlt (by omega) (by omega)
  have p0 : t_X6_partOfWhy (lN (cd k)) 0 6 = nI (cd k / 1 % 64) := part_ok (k := 0) (b := 6) hlt (by omega) (by omega)
  have p28 : lN (cd k) >>> ((28 : Int32).toInt64 &&& 63) = lN (cd k / 268435456) := shr_ok (k := 28) hlt (by omega)
  rcases (show w = 0 ∨ w = 1 ∨ w = 2 ∨ w = 3 ∨ w = 4 ∨ w = 5 ∨ w = 6 ∨ w = 7 ∨ w = 8 by omega) with rfl | rfl | rfl | rfl | rfl | rfl | rfl | rfl | rfl
  · rw [if_pos (show nI 0 = (0 : Int32) from rfl)]
    show _ = sm 15 (9 * k)
    rw [f0]
    by_cases q : rh (pl k) = 0
    · rw [if_pos ((nO_m1 (by omega)).mpr q), if_pos q]; rfl
    · rw [if_neg (fun z => q ((nO_m1 (by omega)).mp z)), if_neg q]; rfl
  · rw [if_neg (show ¬ nI 1 = (0 : Int32) by decide), if_pos (show nI 1 = (1 : Int32) from rfl), f1]
  · rw [if_neg (show ¬ nI 2 = (0 : Int32) by decide), if_neg (show ¬ nI 2 = (1 : Int32) by decide), if_pos (show nI 2 = (2 : Int32) from rfl), f2]
  · rw [if_neg (show ¬ nI 3 = (0 : Int32) by decide), if_neg (show ¬ nI 3 = (1 : Int32) by decide), if_neg (show ¬ nI 3 = (2 : Int32) by decide), if_pos (show nI 3 = (3 : Int32) from rfl), f3]
  · rw [if_neg (show ¬ nI 4 = (0 : Int32) by decide), if_neg (show ¬ nI 4 = (1 : Int32) by decide), if_neg (show ¬ nI 4 = (2 : Int32) by decide), if_neg (show ¬ nI 4 = (3 : Int32) by decide), if_pos (show nI 4 = (4 : Int32) from rfl), f4, at_nI (by omega) (by omega), x11]
  · rw [if_neg (show ¬ nI 5 = (0 : Int32) by decide), if_neg (show ¬ nI 5 = (1 : Int32) by decide), if_neg (show ¬ nI 5 = (2 : Int32) by decide), if_neg (show ¬ nI 5 = (3 : Int32) by decide), if_neg (show ¬ nI 5 = (4 : Int32) by decide), if_pos (show nI 5 = (5 : Int32) from rfl), f5, el, p28, lN_i]
  · rw [if_neg (show ¬ nI 6 = (0 : Int32) by decide), if_neg (show ¬ nI 6 = (1 : Int32) by decide), if_neg (show ¬ nI 6 = (2 : Int32) by decide), if_neg (show ¬ nI 6 = (3 : Int32) by decide), if_neg (show ¬ nI 6 = (4 : Int32) by decide), if_neg (show ¬ nI 6 = (5 : Int32) by decide), if_pos (show nI 6 = (6 : Int32) from rfl), f6]
    unfold t_X1_firstPremise
    rw [el, p17]
    rfl
  · rw [if_neg (show ¬ nI 7 = (0 : Int32) by decide), if_neg (show ¬ nI 7 = (1 : Int32) by decide), if_neg (show ¬ nI 7 = (2 : Int32) by decide), if_neg (show ¬ nI 7 = (3 : Int32) by decide), if_neg (show ¬ nI 7 = (4 : Int32) by decide), if_neg (show ¬ nI 7 = (5 : Int32) by decide), if_neg (show ¬ nI 7 = (6 : Int32) by decide), if_pos (show nI 7 = (7 : Int32) from rfl), f7]
    unfold t_X1_secondPremise
    rw [el, p6]
    rfl
  · rw [if_neg (show ¬ nI 8 = (0 : Int32) by decide), if_neg (show ¬ nI 8 = (1 : Int32) by decide), if_neg (show ¬ nI 8 = (2 : Int32) by decide), if_neg (show ¬ nI 8 = (3 : Int32) by decide), if_neg (show ¬ nI 8 = (4 : Int32) by decide), if_neg (show ¬ nI 8 = (5 : Int32) by decide), if_neg (show ¬ nI 8 = (6 : Int32) by decide), if_neg (show ¬ nI 8 = (7 : Int32) by decide), f8, el, p0, Nat.div_one]
    rfl
theorem sim11 : Sim_11 Inv := by
  rintro sx sm v1 v2 hI
  refine ⟨_, rfl, ?_, hI⟩
  unfold t_X6_conclusion f_X7_conclusion
  rcases doneCases hI with ⟨h1, h2⟩ | ⟨t, n, ax, cl, cc, K, pl, num, rn, cd, rdn, U, ch, hc, h1, h2, hGG, hCl, hX, hM, -⟩
  · rw [h1, h2, if_pos zero0, if_pos zero0]
  · have hK := hGG.1.1
    unfold t_X1_knows
    rw [h1, h2, if_neg one0, if_neg one0, hX.1, hM.1]
    rcases arg2 v1 (n := K) (by omega) with ⟨k, hk, rfl, e1, e2⟩ | ⟨e1, e2⟩
    · rw [e1, e2, if_neg one0, if_neg one0]
      rcases arg2 v2 (n := 9) (by omega) with ⟨w, hw, rfl, e3, e4⟩ | ⟨e3, e4⟩
      · have e3 : t_X6_within (nI w) 9 = 1 := e3
        have e4 : t_X7_in (nI w) 0 8 = 1 := e4
        rw [e3, e4, if_neg one0, if_neg one0, fact_ok (by omega) hw, fact_eq hc.1 hGG hX hM hk hw]
        rfl
      · have e3 : t_X6_within v2 9 = 0 := e3
        have e4 : t_X7_in v2 0 8 = 0 := e4
        rw [e3, e4, if_pos zero0, if_pos zero0]
    · rw [e1, e2, if_pos zero0, if_pos zero0]
/-- goes under -/
def uB (num : Nat → Nat) (a b : Nat) : Bool := decide (a = 1) || decide (num (100 * a + b) ≠ 0) || decide (num (100 * a + 1) ≠ 0) || decide (num 1 ≠ 0)
def lB (num : Nat → Nat) (a b : Nat) : Bool := uB num a b && uB num b a
theorem xunder_ok (hw : Wf t n ax) (hX : XC sx K pl num rn cd rdn) {a b : Nat} (ha : a < n) (hb : b < n) : t_X6_isUnder sx (nI a) (nI b) = b1 (uB num a b) := by
  have h20 := hw.n20
  have h2 := hw.n2
  have s1 : t_X1_saysIs sx (nI a) 1 = _ := saysIs_ok hX.2.2.2 (x := a) (d := 1) (by omega)
  have s0 : t_X1_saysIs sx 0 1 = _ := saysIs_ok hX.2.2.2 (x := 0) (d := 1) (by omega)
  unfold t_X6_isUnder
  rw [saysIs_ok hX.2.2.2 (by omega), s1, s0]
  have e1 : nI a = (1 : Int32) ↔ a = 1 := nI_eq (b := 1) (by omega) (by omega)
  by_cases q : a = 1
  · rw [if_pos (e1.mpr q)]; simp [uB, q, b1]
  · rw [if_neg (fun w => q (e1.mp w))]
    have z : 100 * 0 + 1 = 1 := rfl
    rw [z]
    by_cases q1 : num (100 * a + b) = 0 <;> by_cases q2 : num (100 * a + 1) = 0 <;> by_cases q3 : num 1 = 0 <;> simp [uB, q, q1, q2, q3, b1]
theorem munder_ok (hw : Wf t n ax) (hG : CS t n K pl num cd) (hM : MC sm n K pl num rn cd rdn) {a b : Nat} (ha : a < n) (hb : b < n) : f_X7_isUnder sm (nI a) (nI b) = some (b1 (uB num a b)) := by
  have h20 := hw.n20
  have h2 := hw.n2
  have hK := hG.1.1
  have r16 : ∀ a b, a < n → b < n → rd 784 (sm 16) ((28 : Int32) * nI a + nI b) = some (nO (num (100 * a + b))) := by
    intro a b ha hb
    have e : (28 : Int32) * nI a + nI b = nI (28 * a + b) := by
      show nI 28 * nI a + nI b = _
      rw [nI_mul, nI_add]
    have hm := hM.2.2.2 a 0 b ha (by omega) hb
    rw [show 100 * a + 20 * 0 + b = 100 * a + b by omega] at hm
    have hm : sm 16 (28 * a + b) = _ := hm
    rw [e, rd_nI (by omega) (by omega), hm]
  have r1 : rd 784 (sm 16) ((28 : Int32) * nI a + 1) = _ := r16 a 1 ha (by omega)
  have r0 : rd 784 (sm 16) 1 = some (nO (num 1)) := r16 0 1 (by omega) (by omega)
  have n1 := (hG.1.2.2 (100 * a + b) (by omega)).1
  have n2 := (hG.1.2.2 (100 * a + 1) (by omega)).1
  have n3 := (hG.1.2.2 1 (by omega)).1
  have z1 := nO_m1 (m := num (100 * a + b)) (by omega)
  have z2 := nO_m1 (m := num (100 * a + 1)) (by omega)
  have z3 := nO_m1 (m := num 1) (by omega)
  unfold f_X7_isUnder
  rw [r16 a b ha hb, r1, r0, Option.bind_some, Option.bind_some, Option.bind_some]
  have e1 : nI a = (1 : Int32) ↔ a = 1 := nI_eq (b := 1) (by omega) (by omega)
  by_cases q : a = 1
  · rw [if_pos (e1.mpr q)]; simp [uB, q, b1]
  · rw [if_neg (fun w => q (e1.mp w))]
    by_cases q1 : num (100 * a + b) = 0
    · rw [if_pos (z1.mpr q1)]
      by_cases q2 : num (100 * a + 1) = 0
      · rw [if_pos (z2.mpr q2)]
        by_cases q3 : num 1 = 0
        · rw [if_pos (z3.mpr q3)]; simp [uB, q, q1, q2, q3, b1]
        · rw [if_neg (fun w => q3 (z3.mp w))]; simp [uB, q, q1, q2, q3, b1]
      · rw [if_neg (fun w => q2 (z2.mp w))]; simp [uB, q, q1, q2, b1]
    · rw [if_neg (fun w => q1 (z1.mp w))]; simp [uB, q, q1, b1]
theorem xlike_ok (hw : Wf t n ax) (hX : XC sx K pl num rn cd rdn) {a b : Nat} (ha : a < n) (hb : b < n) : t_X6_areLike sx (nI a) (nI b) = b1 (lB num a b) := by
  unfold t_X6_areLike lB
  rw [xunder_ok hw hX ha hb, xunder_ok hw hX hb ha]
  cases uB num a b <;> cases uB num b a <;> rfl
theorem mlike_ok (hw : Wf t n ax) (hG : CS t n K pl num cd) (hM : MC sm n K pl num rn cd rdn) {a b : Nat} (ha : a < n) (hb : b < n) : f_X7_areLike sm (nI a) (nI b) = some (b1 (lB num a b)) := by
  unfold f_X7_areLike lB
  rw [munder_ok hw hG hM ha hb, munder_ok hw hG hM hb ha]
  cases uB num a b <;> cases uB num b a <;> rfl
theorem argP (h : Core t n ax cl cc sx sm) (v : Int32) : (∃ a, a < n ∧ v = nI a ∧ t 0 a < 3 ∧ t_X3_named sx v = 1 ∧ f_X7_isPlain sm v = some 1) ∨ (t_X3_named sx v = 0 ∧ f_X7_isPlain sm v = some 0) := by
  have h20 := h.1.n20
  unfold t_X3_named f_X7_isPlain
  rcases argN h v with ⟨a, ha, rfl, e1, e2⟩ | ⟨e1, e2⟩
  · have h5 := h.1.s5 ha
    rw [e1, e2, if_neg one0, if_neg one0, xsort_ok h.2.1 h.1 ha, rd_nI (by omega) (by omega), (h.2.2.1.2.2.1 a ha).1, Option.bind_some]
    have l1 : (2 : Int32) < nI (t 0 a) ↔ 2 < t 0 a := nI_ltI (a := 2) (by omega) (by omega)
    have l2 : (3 : Int32) ≤ nI (t 0 a) ↔ 3 ≤ t 0 a := nI_leI (a := 3) (by omega) (by omega)
    by_cases q : 2 < t 0 a
    · rw [if_pos (l1.mpr q), if_pos (l2.mpr (by omega))]
      exact Or.inr ⟨rfl, rfl⟩
    · rw [if_neg (fun w => q (l1.mp w)), if_neg (fun w => by have := l2.mp w; omega)]
      exact Or.inl ⟨a, ha, rfl, by omega, rfl, rfl⟩
  · rw [e1, e2, if_pos zero0, if_pos zero0]
    exact Or.inr ⟨rfl, rfl⟩
theorem sim15 : Sim_15 Inv := by
  rintro sx sm v1 v2 hI
  refine ⟨_, rfl, ?_, hI⟩
  unfold t_X6_under f_X7_under
  rcases doneCases hI with ⟨h1, h2⟩ | ⟨t, n, ax, cl, cc, K, pl, num, rn, cd, rdn, U, ch, hc, h1, h2, hGG, hCl, hX, hM, -⟩
  · rw [h1, h2, if_pos zero0, if_pos zero0]
  · rw [h1, h2, if_neg one0, if_neg one0]
    rcases argP hc v1 with ⟨a, ha, rfl, -, e1, e2⟩ | ⟨e1, e2⟩
    · rw [e1, e2, Option.bind_some, if_neg one0, if_neg one0]
      rcases argP hc v2 with ⟨b, hb, rfl, -, e3, e4⟩ | ⟨e3, e4⟩
      · rw [e3, e4, Option.bind_some, if_neg one0, if_neg one0, xunder_ok hc.1 hX ha hb, munder_ok hc.1 hGG hM ha hb]
        cases uB num a b <;> rfl
      · rw [e3, e4, Option.bind_some, if_pos zero0, if_pos zero0]
    · rw [e1, e2, Option.bind_some, if_pos zero0, if_pos zero0]
end ORDER
