/-! digest -/
section DIGEST
theorem sim24 : Sim_24 Inv := by
  rintro sx sm hI
  obtain ⟨t, n, ax, cl, cc, h, hd⟩ := id hI
  have h20 := h.1.n20
  have h40 := h.1.a40
  have inj : ∀ {A : Type} (N i : Nat) (v : A) (w : Int64) (s' : Int64 × Int32), i < N → (Sum.inl (w, nI i + 1) : (Int64 × Int32) ⊕ A) = Sum.inl s' → ∃ n', n' < N - i ∧ ∃ i', i' ≤ N ∧ n' = N - i' ∧ s'.2 = nI i' := fun N i v w s' hi e => ⟨N - (i + 1), by omega, i + 1, hi, rfl, by rw [← Sum.inl.inj e, nI_1]⟩
  -- the conclusions
  have hC : ∀ v : Int64, ∃ r, (if sx.1 36 0 = 0 then Option.map (fun z => (Sum.inr z : (Int64 × Int32) ⊕ Int64)) (loopC (fun v => b_X6_digest_130 sx (0 : Int32) v.1 v.2) (v, (0 : Int32))) else Option.map (fun z => Sum.inr z) (loopC (fun v => b_X6_digest_130 sx (sx.1 33 0) v.1 v.2) (v, (0 : Int32)))) = some (Sum.inr r) ∧ loopC (fun v => b_X7_digest_110 sm v.1 v.2) (v, (0 : Int32)) = some r := by
    intro v
    rcases doneCases hI with ⟨h1, h2⟩ | ⟨t, n, ax, cl, cc, K, pl, num, rn, cd, rdn, U, ch, hc, h1, h2, hGG, hCl, hX, hM, -⟩
    · refine ⟨v, ?_, ?_⟩
      · rw [if_pos h1, loopC_end (r := v)]
        · rfl
        · show b_X6_digest_130 sx 0 v 0 = _
          unfold b_X6_digest_130
          rw [if_pos (show (0 : Int32) ≤ 0 by decide)]
      · refine loopC_end ?_
        show b_X7_digest_110 sm v 0 = _
        unfold b_X7_digest_110
        rw [if_pos h2, ite_self]
    · have hK := hGG.1.1
      have tw : ∃ r, loopC (fun v => b_X6_digest_130 sx (sx.1 33 0) v.1 v.2) (v, nI 0) = some r ∧ loopC (fun v => b_X7_digest_110 sm v.1 v.2) (v, nI 0) = some r := by
        refine twin (fun k s => ∃ i, i ≤ K ∧ k = K - i ∧ s.2 = nI i) ?_ K _ ⟨0, by omega, rfl, rfl⟩
        rintro k ⟨v, c⟩ ⟨i, hi, rfl, e⟩
        dsimp only at e
        subst e
        show ∃ x, b_X6_digest_130 sx (sx.1 33 0) v (nI i) = some x ∧ b_X7_digest_110 sm v (nI i) = some x ∧ _
        unfold b_X6_digest_130 b_X7_digest_110
        rw [hX.1, hM.1, h2, if_neg one0]
        by_cases q : i = K
        · subst q
          rw [if_pos (nI_le (Nat.le_refl _) (by omega)), if_pos (nI_le (Nat.le_refl _) (by omega))]
          exact ⟨_, rfl, rfl, fun s' h => by simp at h⟩
        have hlt : i < K := by omega
        rw [if_neg (nI_ge hlt (by omega)), if_neg (nI_ge hlt (by omega))]
        obtain ⟨r, r1, r2, w, rfl⟩ : ∃ r, loopC (fun v => b_X6_digest_139 sx (nI K) (nI i) v.1 v.2) (v, nI 0) = some r ∧ loopC (fun v => b_X7_digest_128 sm (nI i) v.1 v.2) (v, nI 0) = some r ∧ ∃ w, r = Sum.inl (w, nI i + 1) := by
          refine twinP (fun k s => ∃ j, j ≤ 9 ∧ k = 9 - j ∧ s.2 = nI j) ?_ 9 _ ⟨0, by omega, rfl, rfl⟩
          rintro k ⟨v, c⟩ ⟨j, hj, rfl, e⟩
          dsimp only at e
          subst e
          show ∃ x, b_X6_digest_139 sx (nI K) (nI i) v (nI j) = some x ∧ b_X7_digest_128 sm (nI i) v (nI j) = some x ∧ _
          unfold b_X6_digest_139 b_X7_digest_128
          by_cases q : j = 9
          · subst q
            rw [if_pos (show (9 : Int32) ≤ nI 9 from nI_le (a := 9) (Nat.le_refl _) (by omega)), if_pos (show (9 : Int32) ≤ nI 9 from nI_le (a := 9) (Nat.le_refl _) (by omega))]
            exact ⟨_, rfl, rfl, fun s' h => by simp at h, fun r h => ⟨v, (Sum.inr.inj h).symm⟩⟩
          have hj9 : j < 9 := by omega
          rw [if_neg (show ¬ (9 : Int32) ≤ nI j from nI_ge (b := 9) hj9 (by omega)), if_neg (show ¬ (9 : Int32) ≤ nI j from nI_ge (b := 9) hj9 (by omega)), fact_ok (by omega) hj9, fact_eq hc.1 hGG hX hM hlt hj9, Option.bind_some]
          exact ⟨_, rfl, rfl, fun s' h => inj 9 j (Sum.inl (v, 0) : (Int64 × Int32) ⊕ Int64) _ s' hj9 h, fun r h => by simp at h⟩
        exact ⟨_, r1, r2, fun s' h => inj K i (0 : Int64) _ s' hlt h⟩
      obtain ⟨r, r1, r2⟩ := tw
      refine ⟨r, ?_, r2⟩
      rw [if_neg (show ¬ sx.1 36 0 = 0 by rw [h1]; decide)]
      have r1 : loopC (fun v => b_X6_digest_130 sx (sx.1 33 0) v.1 v.2) (v, (0 : Int32)) = some r := r1
      rw [r1]
      rfl
  -- the axioms
  have hA : ∀ v : Int64, ∃ r, loopC (fun v => b_X6_digest_58 sx v.1 v.2) (v, nI 0) = some r ∧ loopC (fun v => b_X7_digest_64 sm v.1 v.2) (v, nI 0) = some r := by
    intro v
    refine twin (fun k s => ∃ i, i ≤ ax ∧ k = ax - i ∧ s.2 = nI i) ?_ ax _ ⟨0, by omega, rfl, rfl⟩
    rintro k ⟨v, c⟩ ⟨i, hi, rfl, e⟩
    dsimp only at e
    subst e
    show ∃ x, b_X6_digest_58 sx v (nI i) = some x ∧ b_X7_digest_64 sm v (nI i) = some x ∧ _
    unfold b_X6_digest_58 b_X7_digest_64
    rw [h.2.1.2.1, h.2.2.1.2.1]
    by_cases q : i = ax
    · subst q
      rw [if_pos (nI_le (Nat.le_refl _) (by omega)), if_pos (nI_le (Nat.le_refl _) (by omega))]
      obtain ⟨r, r1, r2⟩ := hC v
      rw [r2]
      exact ⟨_, r1, rfl, fun s' h => by simp at h⟩
    have hlt : i < ax := by omega
    rw [if_neg (nI_ge hlt (by omega)), if_neg (nI_ge hlt (by omega))]
    obtain ⟨r, r1, r2, w, rfl⟩ : ∃ r, loopC (fun v => b_X6_digest_72 sx (nI i) v.1 v.2) (v, nI 0) = some r ∧ loopC (fun v => b_X7_digest_75 sm (nI i) v.1 v.2) (v, nI 0) = some r ∧ ∃ w, r = Sum.inl (w, nI i + 1) := by
      refine twinP (fun k s => ∃ j, j ≤ 5 ∧ k = 5 - j ∧ s.2 = nI j) ?_ 5 _ ⟨0, by omega, rfl, rfl⟩
      rintro k ⟨v, c⟩ ⟨j, hj, rfl, e⟩
      dsimp only at e
      subst e
      show ∃ x, b_X6_digest_72 sx (nI i) v (nI j) = some x ∧ b_X7_digest_75 sm (nI i) v (nI j) = some x ∧ _
      unfold b_X6_digest_72 b_X7_digest_75
      by_cases q : j = 5
      · subst q
        rw [if_pos (show (5 : Int32) ≤ nI 5 from nI_le (a := 5) (Nat.le_refl _) (by omega)), if_pos (show (5 : Int32) ≤ nI 5 from nI_le (a := 5) (Nat.le_refl _) (by omega))]
        exact ⟨_, rfl, rfl, fun s' h => by simp at h, fun r h => ⟨v, (Sum.inr.inj h).symm⟩⟩
      have hj5 : j < 5 := by omega
      obtain ⟨r, s1, s2, -⟩ := sim8 sx sm (nI i) (nI j) hI
      have e1 : t_X6_axiom sx (nI i) (nI j) = t_X0_part sx (nI i) (nI j) := by
        unfold t_X6_axiom t_X0_knows
        have w5 : t_X6_within (nI j) 5 = 1 := (within_nI (n := 5) (by omega) (by omega)).trans (if_pos hj5)
        rw [h.2.1.2.1, within_nI (by omega) (by omega), if_pos hlt, if_neg one0, w5, if_neg one0]
      rw [if_neg (show ¬ (5 : Int32) ≤ nI j from nI_ge (b := 5) hj5 (by omega)), if_neg (show ¬ (5 : Int32) ≤ nI j from nI_ge (b := 5) hj5 (by omega)), s2, Option.bind_some, ← s1, e1]
      exact ⟨_, rfl, rfl, fun s' h => inj 5 j (Sum.inl (v, 0) : (Int64 × Int32) ⊕ Int64) _ s' hj5 h, fun r h => by simp at h⟩
    exact ⟨_, r1, r2, fun s' h => inj ax i (0 : Int64) _ s' hlt h⟩
  -- the notions
  have hN : ∃ r, loopC (fun v => b_X6_digest_6 sx v.1 v.2) ((61 : Int64), nI 0) = some r ∧ loopC (fun v => b_X7_digest_6 sm v.1 v.2) ((61 : Int64), nI 0) = some r := by
    refine twin (fun k s => ∃ i, i ≤ n ∧ k = n - i ∧ s.2 = nI i) ?_ n _ ⟨0, by omega, rfl, rfl⟩
    rintro k ⟨v, c⟩ ⟨i, hi, rfl, e⟩
    dsimp only at e
    subst e
    show ∃ x, b_X6_digest_6 sx v (nI i) = some x ∧ b_X7_digest_6 sm v (nI i) = some x ∧ _
    unfold b_X6_digest_6 b_X7_digest_6
    rw [h.2.1.1, h.2.2.1.1]
    by_cases q : i = n
    · subst q
      rw [if_pos (nI_le (Nat.le_refl _) (by omega)), if_pos (nI_le (Nat.le_refl _) (by omega))]
      obtain ⟨r, r1, r2⟩ := hA v
      have r1 : loopC (fun v => b_X6_digest_58 sx v.1 v.2) (v, (0 : Int32)) = some r := r1
      have r2 : loopC (fun v => b_X7_digest_64 sm v.1 v.2) (v, (0 : Int32)) = some r := r2
      rw [r1, r2]
      exact ⟨_, rfl, rfl, fun s' h => by simp at h⟩
    have hlt : i < n := by omega
    obtain ⟨m2, m3, m4⟩ := h.2.2.1.2.2.1 i hlt
    rw [if_neg (nI_ge hlt (by omega)), if_neg (nI_ge hlt (by omega)), rd_nI (by omega) (by omega), rd_nI (by omega) (by omega), rd_nI (by omega) (by omega), m2, m3, m4, Option.bind_some, Option.bind_some, Option.bind_some]
    have x0 := (xpart_ok h.2.1 h.1 hlt (j := 0) (by omega)).trans (h.2.1.2.2.1 i hlt).1
    have x1 := (xpart_ok h.2.1 h.1 hlt (j := 1) (by omega)).trans (h.2.1.2.2.1 i hlt).2.1
    have x2 := (xpart_ok h.2.1 h.1 hlt (j := 2) (by omega)).trans (h.2.1.2.2.1 i hlt).2.2
    have st : ∀ (j : Nat) (v : Int64), j < 3 → b_X6_digest_20 sx (nI i) v (nI j) = some (Sum.inl ((31 : Int64) * v + (t_X3_part sx (nI i) (nI j)).toInt64, nI (j + 1))) := by
      intro j v hj
      unfold b_X6_digest_20
      rw [if_neg (show ¬ (3 : Int32) ≤ nI j from nI_ge (b := 3) hj (by omega)), nI_1]
    have en : ∀ (v : Int64), b_X6_digest_20 sx (nI i) v (nI 3) = some (Sum.inr (Sum.inl (v, nI i + 1))) := by
      intro v
      unfold b_X6_digest_20
      rw [if_pos (show (3 : Int32) ≤ nI 3 from nI_le (a := 3) (Nat.le_refl _) (by omega))]
    have run : loopC (fun v => b_X6_digest_20 sx (nI i) v.1 v.2) (v, nI 0) = some (Sum.inl ((31 : Int64) * ((31 : Int64) * ((31 : Int64) * v + (nI (t 0 i)).toInt64) + (tv1 t i).toInt64) + (tv2 t i).toInt64, nI i + 1)) := by
      rw [loopC_next (f := fun v => b_X6_digest_20 sx (nI i) v.1 v.2) (st 0 v (by omega)), loopC_next (f := fun v => b_X6_digest_20 sx (nI i) v.1 v.2) (st 1 _ (by omega)), loopC_next (f := fun v => b_X6_digest_20 sx (nI i) v.1 v.2) (st 2 _ (by omega)), loopC_end (f := fun v => b_X6_digest_20 sx (nI i) v.1 v.2) (en _), x0, x1, x2]
    have run : loopC (fun v => b_X6_digest_20 sx (nI i) v.1 v.2) (v, (0 : Int32)) = _ := run
    rw [run]
    exact ⟨_, rfl, rfl, fun s' h => inj n i (0 : Int64) _ s' hlt h⟩
  obtain ⟨r, r1, r2⟩ := hN
  exact ⟨r, r1, r2, hI⟩
end DIGEST
