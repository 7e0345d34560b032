/-! the model's round, from what is concluded -/
section MROUND3
variable {m : MS} {t : Th} {n ax K rd' : Nat} {tv pl num : Nat → Nat} {U : Nat → Nat → Bool}
def RM (n : Nat) (m : MS) (K : Nat) (tv : Nat → Nat) (rd' : Nat) (z : MS) : Prop :=
  (∀ k, k < 13 ∨ 27 < k → z k = m k) ∧ z 26 = m 26 ∧ z 13 0 = nI (K + cn tv 2000) ∧ z 14 0 = nI (if cn tv 2000 = 0 then rd' else rd' + 1) ∧ (∀ i, i < 9 * K → z 15 i = m 15 i) ∧
  (∀ q, q < 2000 → tv q ≠ 0 → FE z (K + cn tv q) q (rd' + 1) (tv q - 1)) ∧
  (∀ x r y, x < n → r < 5 → y < n → z (tk r) (mq x r y) = if tv (100 * x + 20 * r + y) ≠ 0 then nI (K + cn tv (100 * x + 20 * r + y)) else m (tk r) (mq x r y))
theorem mround_ok (hw : Wf t n ax) (hB : BC m t n ax K pl num U) (hP : PN n K pl num) (h14 : m 14 0 = nI rd') (hS : ∀ x r y, x < n → r < 5 → y < n → LT (SM num t n ax U pl K) (100 * x + 20 * r + y) (tv (100 * x + 20 * r + y))) (ht : ∀ p, p < 2000 → tv p ≠ 0 → sb p < n ∧ ob p < n) (hct : K + cn tv 2000 ≤ 2000) :
    Ok (f_X7_round m) (fun r => r.1 = (if cn tv 2000 = 0 then 0 else 1) ∧ RM n m K tv rd' r.2) := by
  have h20 := hw.n20
  unfold f_X7_round
  refine Ok.for (f := fun v => b_X7_round_2 v.1 v.2) (i := 0) 784 (fun i z => FrM m z ∧ ∀ j, j < i → z 18 j = -1) ?_ ?_ (Nat.zero_le _) ⟨fun k _ => rfl, fun j hj => absurd hj (Nat.not_lt_zero j)⟩
  · rintro i z hi ⟨h1, h2⟩
    show Ok (b_X7_round_2 (nI i) z) _
    unfold b_X7_round_2
    refine Ok.ifn (show ¬ (784 : Int32) ≤ nI i from nI_ge (b := 784) hi (by omega)) (Ok.bindE (mwr_nI hi (by omega)) (Ok.go ⟨nI_1 i, ?_, ?_⟩))
    · intro k hk
      show (if k = 18 then _ else z k) = m k
      rw [if_neg (by omega)]
      exact h1 k hk
    · intro j hj
      show upd (z 18) i (-1) j = -1
      by_cases e : j = i
      · subst e; exact pk_us
      · rw [pk_un e]; exact h2 j (by omega)
  · rintro z ⟨h1, h2⟩
    show Ok (b_X7_round_2 (nI 784) z) _
    unfold b_X7_round_2
    refine Ok.ifp (show (784 : Int32) ≤ nI 784 from nI_le (a := 784) (Nat.le_refl _) (by omega)) (Ok.inr ?_)
    refine Ok.for (f := fun v => b_X7_round_24 v.1 v.2) (i := 0) 3136 (fun i z => FrM m z ∧ (∀ j, j < 784 → z 18 j = -1) ∧ ∀ j, j < i → z 22 j = -1) ?_ ?_ (Nat.zero_le _) ⟨h1, h2, fun j hj => absurd hj (Nat.not_lt_zero j)⟩
    · rintro i z hi ⟨h1, h2, h3⟩
      show Ok (b_X7_round_24 (nI i) z) _
      unfold b_X7_round_24
      refine Ok.ifn (show ¬ (3136 : Int32) ≤ nI i from nI_ge (b := 3136) hi (by omega)) (Ok.bindE (mwr_nI hi (by omega)) (Ok.go ⟨nI_1 i, ?_, h2, ?_⟩))
      · intro k hk
        show (if k = 22 then _ else z k) = m k
        rw [if_neg (by omega)]
        exact h1 k hk
      · intro j hj
        show upd (z 22) i (-1) j = -1
        by_cases e : j = i
        · subst e; exact pk_us
        · rw [pk_un e]; exact h3 j (by omega)
    · rintro z ⟨h1, h2, h3⟩
      show Ok (b_X7_round_24 (nI 3136) z) _
      unfold b_X7_round_24
      refine Ok.ifp (show (3136 : Int32) ≤ nI 3136 from nI_le (a := 3136) (Nat.le_refl _) (by omega)) ?_
      have hz : MO n m (fun _ _ => False) z := by
        refine ⟨h1, fun p c h => h.elim, fun x r y hx hr hy => ⟨0, Or.inl ⟨rfl, ?_⟩, Or.inl ⟨rfl, fun c h => h⟩⟩⟩
        unfold mk mq
        by_cases q : r = 0
        · rw [if_pos q, if_pos q]; exact h2 _ (by omega)
        · rw [if_neg q, if_neg q]; exact h3 _ (by omega)
      refine rules_ok hw hB hP hz (fun z7 h7 => Ok.bindE rfl (Ok.bindE rfl (Ok.inr ?_)))
      have hB7 := hB.fr h7.1
      have e14 : z7 14 0 = nI rd' := by rw [h7.1 14 (by omega)]; exact h14
      have fr : ∀ (a b : Nat → Int32) k, k ≠ 27 → k ≠ 14 → (mA (mA z7 27 a) 14 b) k = z7 k := by
        intro a b k h27 h14
        unfold mA
        simp only [if_neg h27, if_neg h14]
      have hv : ∀ x r y, x < n → r < 5 → y < n → MEnt (mA (mA z7 27 (fun _ => z7 13 0)) 14 (fun _ => (mA z7 27 (fun _ => z7 13 0)) 14 0 + 1)) x r y (tv (100 * x + 20 * r + y)) := by
        intro x r y hx hr hy
        obtain ⟨v, g1, g2⟩ := h7.2.2 x r y hx hr hy
        have := g2.one (hS x r y hx hr hy)
        subst this
        have hmk : mk r = 18 ∨ mk r = 22 := by unfold mk; split <;> simp
        unfold MEnt
        rw [fr _ _ (mk r) (by omega) (by omega), fr _ _ (mk r + 1) (by omega) (by omega), fr _ _ (mk r + 2) (by omega) (by omega), fr _ _ (mk r + 3) (by omega) (by omega)]
        exact g1
      refine (numAll_ok (rd' := rd') hw ?_ hv ht ?_ ?_ ?_ hct).mono ?_
      · rw [fr _ _ 0 (by omega) (by omega)]; exact hB7.1.1
      · show z7 14 0 + 1 = _
        rw [e14, nI_1]
      · rw [fr _ _ 13 (by omega) (by omega)]; exact hB7.2.1
      · exact hB7.2.1
      · rintro r ⟨r1, z9, hA, g13, g14, gf⟩
        obtain ⟨a1, a2, a3, a4, a5⟩ := hA
        refine ⟨r1, ?_, ?_, g13, g14, ?_, ?_, ?_⟩
        · intro k hk
          rw [gf k (by omega) (by omega), a1 k (by omega) (by omega) (by omega) (by omega), fr _ _ k (by omega) (by omega)]
          exact h7.1 k (by omega)
        · rw [gf 26 (by omega) (by omega), a1 26 (by omega) (by omega) (by omega) (by omega), fr _ _ 26 (by omega) (by omega)]
          exact h7.1 26 (by omega)
        · intro i hi
          rw [gf 15 (by omega) (by omega), a3 i hi, fr _ _ 15 (by omega) (by omega), h7.1 15 (by omega)]
        · intro q hq hne
          refine (a4 q hq hne).of (fun i _ => ?_)
          rw [gf 15 (by omega) (by omega)]
        · intro x r y hx hr hy
          have htk : tk r = 16 ∨ tk r = 17 := by unfold tk; split <;> simp
          rw [gf (tk r) (by omega) (by omega), a5 x r y hx hr hy, fr _ _ (tk r) (by omega) (by omega), h7.1 (tk r) (by omega)]
          by_cases w : tv (100 * x + 20 * r + y) = 0
          · rw [if_neg (fun w2 => w2.2 w), if_neg (fun w2 => w2 w)]
          · rw [if_pos ⟨by omega, w⟩, if_pos w]
end MROUND3
