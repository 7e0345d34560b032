/-! arguments; the makers -/
theorem arg2 (v : Int32) {n : Nat} (hn : n < 2 ^ 31) : (∃ a, a < n ∧ v = nI a ∧ t_X6_within v (nI n) = 1 ∧ t_X7_in v 0 (nI n - 1) = 1) ∨ (t_X6_within v (nI n) = 0 ∧ t_X7_in v 0 (nI n - 1) = 0) := by
  by_cases h0 : v < 0
  · refine Or.inr ⟨within_neg h0, ?_⟩
    unfold t_X7_in
    rw [if_pos h0]
  · obtain ⟨k, hk, rfl⟩ : ∃ k, k < 2 ^ 31 ∧ v = nI k := by
      have h1 : (0 : Int) ≤ v.toInt := by
        have e0 : (0 : Int32).toInt = 0 := by decide
        by_cases w : v.toInt < 0
        · exact absurd (Int32.lt_iff_toInt_lt.mpr (by rw [e0]; exact w)) h0
        · omega
      have h2 := Int32.toInt_lt v
      refine ⟨v.toInt.toNat, by omega, ?_⟩
      apply Int32.toInt_inj.mp
      rw [nI_toInt (by omega)]
      omega
    by_cases q : k < n
    · refine Or.inl ⟨k, q, rfl, (within_nI hk hn).trans (if_pos q), ?_⟩
      unfold t_X7_in
      have e : nI n - 1 = nI (n - 1) := nI_sub (b := 1) (by omega)
      rw [if_neg h0, e, if_neg (fun w => by have := (nI_ltI (by omega) (by omega)).mp w; omega)]
    · refine Or.inr ⟨(within_nI hk hn).trans (if_neg q), ?_⟩
      unfold t_X7_in
      rw [if_neg h0, if_pos]
      by_cases z : n = 0
      · subst z
        have e : nI 0 - 1 = -1 := by decide
        rw [e]
        rw [Int32.lt_iff_toInt_lt, nI_toInt hk]
        have e1 : (-1 : Int32).toInt = -1 := by decide
        omega
      · have e : nI n - 1 = nI (n - 1) := nI_sub (b := 1) (by omega)
        rw [e]
        exact (nI_ltI (by omega) hk).mpr (by omega)
theorem argR (v : Int32) : (∃ a, a < 4 ∧ v = nI a ∧ t_X6_isRole v = 1 ∧ t_X7_isRole v = 1) ∨ (t_X6_isRole v = 0 ∧ t_X7_isRole v = 0) := arg2 v (n := 4) (by omega)
section MAKE
variable {t : Th} {n ax cl cc : Nat} {sx : XS} {sm : MS}
theorem argN (h : Core t n ax cl cc sx sm) (v : Int32) : (∃ a, a < n ∧ v = nI a ∧ t_X3_knows sx v = 1 ∧ t_X7_isNotion sm v = 1) ∨ (t_X3_knows sx v = 0 ∧ t_X7_isNotion sm v = 0) := by
  unfold t_X3_knows t_X7_isNotion
  rw [h.2.1.1, h.2.2.1.1]
  exact arg2 v (by have := h.1.n20; omega)
theorem argA (h : Core t n ax cl cc sx sm) (v : Int32) : (∃ a, a < ax ∧ v = nI a ∧ t_X0_knows sx v = 1 ∧ t_X7_in v 0 (sm 5 0 - 1) = 1) ∨ (t_X0_knows sx v = 0 ∧ t_X7_in v 0 (sm 5 0 - 1) = 0) := by
  unfold t_X0_knows
  rw [h.2.1.2.1, h.2.2.1.2.1]
  exact arg2 v (by have := h.1.a40; omega)
/-- a notion more -/
def tN (t : Th) (n s a b : Nat) : Th := fun k i => if i = n ∧ k < 3 then (if k = 0 then s else if k = 1 then a else b) else t k i
/-- an axiom more -/
def tA (t : Th) (ax s a b c : Nat) : Th := fun k i => if i = ax ∧ 3 ≤ k then (if k = 3 then s else if k = 4 then a else if k = 5 then b else if k = 6 then c else 1) else t k i
theorem tN_old {s a b k i : Nat} (hi : i < n) : tN t n s a b k i = t k i := by unfold tN; rw [if_neg (by omega)]
theorem tN_ax {s a b k i : Nat} (hk : 3 ≤ k) : tN t n s a b k i = t k i := by unfold tN; rw [if_neg (by omega)]
theorem tA_old {s a b c k i : Nat} (hi : i < ax) : tA t ax s a b c k i = t k i := by unfold tA; rw [if_neg (by omega)]
theorem tA_no {s a b c k i : Nat} (hk : k < 3) : tA t ax s a b c k i = t k i := by unfold tA; rw [if_neg (by omega)]
theorem tN_wf (h : Wf t n ax) (hn : n < 20) {s a b : Nat} (hs : s = 2 ∨ (s = 3 ∧ a < n ∧ b < n) ∨ (s = 4 ∧ a < 4 ∧ b < n)) : Wf (tN t n s a b) (n + 1) ax := by
  obtain ⟨h1, h2, h3, h4, h5, h6, h7, h8⟩ := h
  refine ⟨by omega, by omega, h3, ?_, ?_, fun i h2i hi => ?_, fun i hi => ?_, fun i hi => ?_⟩
  · rw [tN_old (by omega)]; exact h4
  · rw [tN_old (by omega)]; exact h5
  · by_cases e : i = n
    · subst e
      have e0 : tN t i s a b 0 i = s := by unfold tN; rw [if_pos ⟨rfl, by omega⟩, if_pos rfl]
      have e1 : tN t i s a b 1 i = a := by unfold tN; rw [if_pos ⟨rfl, by omega⟩, if_neg (by omega), if_pos rfl]
      have e2 : tN t i s a b 2 i = b := by unfold tN; rw [if_pos ⟨rfl, by omega⟩, if_neg (by omega), if_neg (by omega)]
      rw [e0, e1, e2]
      exact hs
    · rw [tN_old (by omega), tN_old (by omega), tN_old (by omega)]
      exact h6 i h2i (by omega)
  · rw [tN_ax (by omega), tN_ax (by omega), tN_ax (by omega), tN_ax (by omega)]
    rcases h7 i hi with h | h | h
    · exact Or.inl ⟨h.1, by omega, by omega⟩
    · exact Or.inr (Or.inl h)
    · exact Or.inr (Or.inr h)
  · rw [tN_ax (by omega)]
    exact h8 i hi
theorem tA_wf (h : Wf t n ax) (ha : ax < 40) {s a b c : Nat} (hs : (s = 0 ∧ a < n ∧ b < n) ∨ (s = 1 ∧ a < 4 ∧ b < 4) ∨ (s = 2 ∧ a < 4 ∧ b < 4 ∧ c < 4)) : Wf (tA t ax s a b c) n (ax + 1) := by
  obtain ⟨h1, h2, h3, h4, h5, h6, h7, h8⟩ := h
  refine ⟨h1, h2, by omega, ?_, ?_, fun i h2i hi => ?_, fun i hi => ?_, fun i hi => ?_⟩
  · rw [tA_no (by omega)]; exact h4
  · rw [tA_no (by omega)]; exact h5
  · rw [tA_no (by omega), tA_no (by omega), tA_no (by omega)]
    exact h6 i h2i hi
  · by_cases e : i = ax
    · subst e
      simp only [tA, Nat.le_refl, and_self, if_true, show (3 : Nat) ≤ 4 by omega, show (3 : Nat) ≤ 5 by omega, show (3 : Nat) ≤ 6 by omega, if_neg (show ¬ (4 : Nat) = 3 by omega), if_neg (show ¬ (5 : Nat) = 3 by omega), if_neg (show ¬ (5 : Nat) = 4 by omega), if_neg (show ¬ (6 : Nat) = 3 by omega), if_neg (show ¬ (6 : Nat) = 4 by omega), if_neg (show ¬ (6 : Nat) = 5 by omega)]
      exact hs
    · rw [tA_old (by omega), tA_old (by omega), tA_old (by omega), tA_old (by omega)]
      exact h7 i (by omega)
  · by_cases e : i = ax
    · subst e
      simp [tA]
    · rw [tA_old (by omega)]
      exact h8 i (by omega)
end MAKE
