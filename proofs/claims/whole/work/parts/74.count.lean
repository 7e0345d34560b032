/-! count, digest -/
theorem twinP {S R : Type} {f g : S → Option (S ⊕ R)} {P : R → Prop} (I : Nat → S → Prop) (h : ∀ n s, I n s → ∃ x, f s = some x ∧ g s = some x ∧ (∀ s', x = Sum.inl s' → ∃ n', n' < n ∧ I n' s') ∧ ∀ r, x = Sum.inr r → P r) : ∀ n s, I n s → ∃ r, loopC f s = some r ∧ loopC g s = some r ∧ P r := by
  intro n
  induction n using Nat.strongRecOn with
  | _ n ih =>
    intro s hs
    obtain ⟨x, e1, e2, hx, hP⟩ := h n s hs
    cases x with
    | inl s' =>
      obtain ⟨n', hn, hI⟩ := hx s' rfl
      obtain ⟨r, r1, r2, r3⟩ := ih n' hn s' hI
      exact ⟨r, (loopC_next e1).trans r1, (loopC_next e2).trans r2, r3⟩
    | inr r => exact ⟨r, loopC_end e1, loopC_end e2, hP r rfl⟩
section COUNT
variable {t : Th} {n ax cl cc K rdn : Nat} {sx : XS} {sm : MS} {pl num rn cd : Nat → Nat} {U : Nat → Nat → Bool} {ch : Nat → Nat → Nat → Nat}
theorem sim23 : Sim_23 Inv := by
  rintro sx sm v1 ⟨t, n, ax, cl, cc, h, hd⟩
  have hI : Inv sx sm := ⟨t, n, ax, cl, cc, h, hd⟩
  have h40 := h.1.a40
  obtain ⟨hw, hN, hMN, c1, c2, c3, d1, d2, d3⟩ := h
  have hX : Ok (f_X0_holdingCount sx) (fun v => v = nI (fb_ct (fun a => decide (t 7 a = 1)) ax)) := by
    unfold f_X0_holdingCount
    refine Ok.forR (f := fun v => b_X0_holdingCount_4 sx v.1 v.2) (i := 0) (s := (0 : Int32)) ax (fun i v => v = nI (fb_ct (fun a => decide (t 7 a = 1)) i)) ?_ ?_ (Nat.zero_le _) rfl
    · rintro i v hi rfl
      show Ok (b_X0_holdingCount_4 sx _ (nI i)) _
      unfold b_X0_holdingCount_4
      refine Ok.ifn (show ¬ sx.1 32 0 ≤ nI i by rw [hN.2.1]; exact nI_ge hi (by omega)) (Ok.go ⟨nI_1 i, ?_⟩)
      have kn : t_X0_knows sx (nI i) = 1 := by
        unfold t_X0_knows
        rw [hN.2.1, within_nI (by omega) (by omega), if_pos hi]
      unfold t_X0_holding
      rw [kn, if_neg one0, xa4_ok hN hw hi, fb_ct_succ]
      have h7 := hw.h7 hi
      rcases (show t 7 i = 0 ∨ t 7 i = 1 by omega) with q | q
      · rw [q]
        show nI _ + nI 0 = nI (_ + 0)
        rw [nI_add]
      · rw [q]
        show nI _ + nI 1 = nI (_ + 1)
        rw [nI_add]
    · rintro v rfl
      show Ok (b_X0_holdingCount_4 sx _ (nI ax)) _
      unfold b_X0_holdingCount_4
      exact Ok.ifp (show sx.1 32 0 ≤ nI ax by rw [hN.2.1]; exact nI_le (Nat.le_refl _) (by omega)) (Ok.end rfl)
  obtain ⟨vx, ex, rfl⟩ := hX
  have hM : Ok (f_X7_count sm v1) (fun r => f_X6_count sx v1 = some r) := by
    unfold f_X7_count
    refine Ok.forR (f := fun v => b_X7_count_4 sm v1 v.1 v.2) (i := 0) (s := (0 : Int32)) ax (fun i v => v = nI (fb_ct (fun a => decide (t 7 a = 1)) i)) ?_ ?_ (Nat.zero_le _) rfl
    · rintro i v hi rfl
      show Ok (b_X7_count_4 sm v1 _ (nI i)) _
      unfold b_X7_count_4
      refine Ok.ifn (show ¬ sm 5 0 ≤ nI i by rw [hMN.2.1]; exact nI_ge hi (by omega)) (Ok.bindE (rd_nI (by omega) (by omega)) ?_)
      rw [(hMN.2.2.2 i hi).2.2.2.2]
      have h7 := hw.h7 hi
      have e7 : nI (t 7 i) = (0 : Int32) ↔ t 7 i = 0 := nI_eq (b := 0) (by omega) (by omega)
      by_cases q : t 7 i = 0
      · refine Ok.ifp (e7.mpr q) (Ok.go ⟨nI_1 i, ?_⟩)
        rw [fb_ct_succ, q]
        show nI _ + nI 0 = nI (_ + 0)
        rw [nI_add]
      · refine Ok.ifn (fun w => q (e7.mp w)) (Ok.go ⟨nI_1 i, ?_⟩)
        rw [fb_ct_succ, show t 7 i = 1 by omega]
        show nI _ + nI 1 = nI (_ + 1)
        rw [nI_add]
    · rintro v rfl
      show Ok (b_X7_count_4 sm v1 _ (nI ax)) _
      unfold b_X7_count_4
      refine Ok.ifp (show sm 5 0 ≤ nI ax by rw [hMN.2.1]; exact nI_le (Nat.le_refl _) (by omega)) ?_
      unfold f_X6_count
      rw [ex, hN.1, c1, hN.2.1, d1, hMN.1, c2, hMN.2.1, d2]
      by_cases q0 : v1 = 0
      · rw [if_pos q0, if_pos q0]; exact Ok.end rfl
      rw [if_neg q0, if_neg q0]
      by_cases q1 : v1 = 1
      · rw [if_pos q1, if_pos q1]; exact Ok.end rfl
      rw [if_neg q1, if_neg q1]
      by_cases q2 : v1 = 2
      · rw [if_pos q2, if_pos q2]; exact Ok.end rfl
      rw [if_neg q2, if_neg q2]
      by_cases q3 : v1 = 3
      · rw [if_pos q3, if_pos q3]; exact Ok.end rfl
      rw [if_neg q3, if_neg q3]
      by_cases q4 : v1 = 4
      · rw [if_pos q4, if_pos q4]; exact Ok.end rfl
      rw [if_neg q4, if_neg q4]
      exact Ok.end rfl
  obtain ⟨r, er, e⟩ := hM
  exact ⟨r, e, er, hI⟩
end COUNT
