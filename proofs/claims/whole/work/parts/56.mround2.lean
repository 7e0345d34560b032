/-! the model's round as a whole -/
section MROUND2
variable {m : MS} {t : Th} {n ax K rd' : Nat} {tv : Nat → Nat}
theorem numIs_step (hw : Wf t n ax) (hN : m 0 0 = nI n) (hv : ∀ x r y, x < n → r < 5 → y < n → MEnt m x r y (tv (100 * x + 20 * r + y))) (h14 : m 14 0 = nI rd') (hct : K + cn tv 2000 ≤ 2000) {R : Type} {P : R → Prop} {x y : Nat} (hx : x < n) (hy : y < n) {z : MS} (hA : AddM n m K tv rd' (100 * x + y) z) {b : Option ((Int32 × MS) ⊕ R)}
    (hb : b = (Option.bind (rd 784 (z 18) (((28 : Int32) * nI x) + nI y)) (fun r29 => (if r29 = (-1 : Int32) then some (Sum.inl ((nI y + 1), z)) else (Option.bind (mwr z 16 784 (((28 : Int32) * nI x) + nI y) (z 27 0)) (fun r31 => (Option.bind (rd 784 (r31 18) (((28 : Int32) * nI x) + nI y)) (fun r32 => (Option.bind (rd 784 (r31 19) (((28 : Int32) * nI x) + nI y)) (fun r33 => (Option.bind (rd 784 (r31 20) (((28 : Int32) * nI x) + nI y)) (fun r34 => (Option.bind (rd 784 (r31 21) (((28 : Int32) * nI x) + nI y)) (fun r35 => (Option.bind (f_X7_lay r31 (0 : Int32) (nI x) (nI y) (-1 : Int32) r32 r33 r34 r35) (fun r36 => some (Sum.inl ((nI y + 1), r36)))))))))))))))))) :
    Ok b (NxS (fun v => v.1 = nI (y + 1) ∧ AddM n m K tv rd' (100 * x + y + 1) v.2) P) := by
  have h20 := hw.n20
  subst hb
  have ei : (28 : Int32) * nI x + nI y = nI (28 * x + y) := by
    show nI 28 * nI x + nI y = _
    rw [nI_mul, nI_add]
  rw [ei]
  have hq : 28 * x + y < 784 := by omega
  have hm := hA.1
  have e0 : 100 * x + y = 100 * x + 20 * 0 + y := by omega
  have hvv := hv x 0 y hx (by omega) hy
  refine Ok.bindE (rd_nI hq (by omega)) ?_
  rw [hm 18 (by omega) (by omega) (by omega) (by omega)]
  by_cases q : tv (100 * x + y) = 0
  · rw [e0] at q
    rcases hvv with ⟨-, w⟩ | ⟨ru, f, s, a, w, -⟩
    · exact Ok.ifp w (Ok.go ⟨nI_1 y, hA.skip (by omega) (fun q1 h1 h2 => by have : q1 = 100 * x + 20 * 0 + y := by omega
                                                                            rw [this]; exact q)⟩)
    · omega
  · rw [e0] at q hA ⊢
    have hne : ¬ m 18 (28 * x + y) = -1 := by
      rcases hvv with ⟨w, -⟩ | ⟨ru, f, s, a, w, w1, -, -, -, w5, -⟩
      · exact absurd w q
      · show ¬ m (mk 0) (mq x 0 y) = -1
        rw [w5]
        exact nI_m1 (by omega)
    refine Ok.ifn hne (Ok.bindE (mwr_nI hq (by omega)) (Ok.bindE (rd_nI hq (by omega)) (Ok.bindE (rd_nI hq (by omega)) (Ok.bindE (rd_nI hq (by omega)) (Ok.bindE (rd_nI hq (by omega)) ?_)))))
    have st := AddM.step h20 hx (by omega) hy hA hvv h14 q hct (kd := 0) rfl
    have k18 : (mA z 16 (upd (z 16) (28 * x + y) (z 27 0))) 18 = m 18 := hm 18 (by omega) (by omega) (by omega) (by omega)
    have k19 : (mA z 16 (upd (z 16) (28 * x + y) (z 27 0))) 19 = m 19 := hm 19 (by omega) (by omega) (by omega) (by omega)
    have k20 : (mA z 16 (upd (z 16) (28 * x + y) (z 27 0))) 20 = m 20 := hm 20 (by omega) (by omega) (by omega) (by omega)
    have k21 : (mA z 16 (upd (z 16) (28 * x + y) (z 27 0))) 21 = m 21 := hm 21 (by omega) (by omega) (by omega) (by omega)
    rw [k18, k19, k20, k21]
    rw [nO_0] at st
    refine Ok.bind st (fun z' h => Ok.go ⟨nI_1 y, h⟩)
theorem numTo_step (hw : Wf t n ax) (hN : m 0 0 = nI n) (hv : ∀ x r y, x < n → r < 5 → y < n → MEnt m x r y (tv (100 * x + 20 * r + y))) (h14 : m 14 0 = nI rd') (hct : K + cn tv 2000 ≤ 2000) {x r y : Nat} (hx : x < n) (hr : r < 4) (hy : y < n) {z : MS} (hA : AddM n m K tv rd' (100 * x + 20 * (r + 1) + y) z) {P : (Int32 × MS) ⊕ ((Int32 × MS) ⊕ (Int32 × MS)) → Prop} :
    Ok (b_X7_round_176 (nI x) (nI r) (nI y) z) (NxS (fun v => v.1 = nI (y + 1) ∧ AddM n m K tv rd' (100 * x + 20 * (r + 1) + (y + 1)) v.2) (fun x => P x)) := by
  have h20 := hw.n20
  have hm := hA.1
  unfold b_X7_round_176
  refine Ok.ifn (show ¬ z 0 0 ≤ nI y by rw [hm 0 (by omega) (by omega) (by omega) (by omega), hN]; exact nI_ge hy (by omega)) ?_
  have ei : (112 : Int32) * nI x + (28 : Int32) * nI r + nI y = nI (112 * x + 28 * r + y) := by
    show nI 112 * nI x + nI 28 * nI r + nI y = _
    rw [nI_mul, nI_mul, nI_add, nI_add]
  rw [ei]
  have hq : 112 * x + 28 * r + y < 3136 := by omega
  have hvv := hv x (r + 1) y hx (by omega) hy
  refine Ok.bindE (rd_nI hq (by omega)) ?_
  rw [hm 22 (by omega) (by omega) (by omega) (by omega)]
  by_cases q : tv (100 * x + 20 * (r + 1) + y) = 0
  · rcases hvv with ⟨-, w⟩ | ⟨ru, f, s, a, w, -⟩
    · exact Ok.ifp w (Ok.go ⟨nI_1 y, hA.skip (by omega) (fun q1 h1 h2 => by have : q1 = 100 * x + 20 * (r + 1) + y := by omega
                                                                            rw [this]; exact q)⟩)
    · omega
  · have hne : ¬ m 22 (112 * x + 28 * r + y) = -1 := by
      rcases hvv with ⟨w, -⟩ | ⟨ru, f, s, a, w, w1, -, -, -, w5, -⟩
      · exact absurd w q
      · show ¬ m (mk (r + 1)) (mq x (r + 1) y) = -1
        rw [w5]
        exact nI_m1 (by omega)
    refine Ok.ifn hne (Ok.bindE (mwr_nI hq (by omega)) (Ok.bindE (rd_nI hq (by omega)) (Ok.bindE (rd_nI hq (by omega)) (Ok.bindE (rd_nI hq (by omega)) (Ok.bindE (rd_nI hq (by omega)) ?_)))))
    have st := AddM.step h20 hx (by omega) hy hA hvv h14 q hct (kd := 1) rfl
    have k22 : (mA z 17 (upd (z 17) (112 * x + 28 * r + y) (z 27 0))) 22 = m 22 := hm 22 (by omega) (by omega) (by omega) (by omega)
    have k23 : (mA z 17 (upd (z 17) (112 * x + 28 * r + y) (z 27 0))) 23 = m 23 := hm 23 (by omega) (by omega) (by omega) (by omega)
    have k24 : (mA z 17 (upd (z 17) (112 * x + 28 * r + y) (z 27 0))) 24 = m 24 := hm 24 (by omega) (by omega) (by omega) (by omega)
    have k25 : (mA z 17 (upd (z 17) (112 * x + 28 * r + y) (z 27 0))) 25 = m 25 := hm 25 (by omega) (by omega) (by omega) (by omega)
    rw [k22, k23, k24, k25]
    rw [nO_s] at st
    refine Ok.bind st (fun z' h => Ok.go ⟨nI_1 y, h⟩)
theorem numAll_ok (hw : Wf t n ax) (hN : m 0 0 = nI n) (hv : ∀ x r y, x < n → r < 5 → y < n → MEnt m x r y (tv (100 * x + 20 * r + y))) (ht : ∀ p, p < 2000 → tv p ≠ 0 → sb p < n ∧ ob p < n) (h14 : m 14 0 = nI (rd' + 1)) (h13 : m 13 0 = nI K) (h27 : m 27 0 = nI K) (hct : K + cn tv 2000 ≤ 2000) :
    Ok (loopC (fun v => b_X7_round_84 v.1 v.2) ((0 : Int32), m)) (fun r => r.1 = (if cn tv 2000 = 0 then 0 else 1) ∧ ∃ z, AddM n m K tv (rd' + 1) 2000 z ∧ r.2 13 0 = nI (K + cn tv 2000) ∧ r.2 14 0 = nI (if cn tv 2000 = 0 then rd' else rd' + 1) ∧ ∀ k, k ≠ 13 → k ≠ 14 → r.2 k = z k) := by
  have h20 := hw.n20
  refine Ok.for (f := fun v => b_X7_round_84 v.1 v.2) (i := 0) n (fun x z => AddM n m K tv (rd' + 1) (100 * x) z) ?_ ?_ (Nat.zero_le _) ?_
  · intro x z hx hA
    show Ok (b_X7_round_84 (nI x) z) _
    unfold b_X7_round_84
    refine Ok.ifn (show ¬ z 0 0 ≤ nI x by rw [hA.1 0 (by omega) (by omega) (by omega) (by omega), hN]; exact nI_ge hx (by omega)) ?_
    refine Ok.for (f := fun v => b_X7_round_94 (nI x) v.1 v.2) (i := 0) n (fun y z => AddM n m K tv (rd' + 1) (100 * x + y) z) ?_ ?_ (Nat.zero_le _) hA
    · intro y z hy hA
      show Ok (b_X7_round_94 (nI x) (nI y) z) _
      unfold b_X7_round_94
      refine Ok.ifn (show ¬ z 0 0 ≤ nI y by rw [hA.1 0 (by omega) (by omega) (by omega) (by omega), hN]; exact nI_ge hy (by omega)) ?_
      exact numIs_step hw hN hv h14 hct hx hy hA rfl
    · intro z hA
      show Ok (b_X7_round_94 (nI x) (nI n) z) _
      unfold b_X7_round_94
      refine Ok.ifp (show z 0 0 ≤ nI n by rw [hA.1 0 (by omega) (by omega) (by omega) (by omega), hN]; exact nI_le (Nat.le_refl _) (by omega)) (Ok.inr ?_)
      have hA2 : AddM n m K tv (rd' + 1) (100 * x + 20 * (0 + 1)) z := hA.skip (by omega) (fun q h1 h2 => by
        apply Classical.byContradiction
        intro w
        have := (ht q (by omega) w).2
        unfold ob at this
        omega)
      refine Ok.for (f := fun v => b_X7_round_169 (nI x) v.1 v.2) (i := 0) 4 (fun r z => AddM n m K tv (rd' + 1) (100 * x + 20 * (r + 1)) z) ?_ ?_ (Nat.zero_le _) hA2
      · intro r z hr hA
        show Ok (b_X7_round_169 (nI x) (nI r) z) _
        unfold b_X7_round_169
        refine Ok.ifn (show ¬ (4 : Int32) ≤ nI r from nI_ge (b := 4) hr (by omega)) ?_
        refine Ok.for (f := fun v => b_X7_round_176 (nI x) (nI r) v.1 v.2) (i := 0) n (fun y z => AddM n m K tv (rd' + 1) (100 * x + 20 * (r + 1) + y) z) ?_ ?_ (Nat.zero_le _) hA
        · intro y z hy hA
          exact numTo_step hw hN hv h14 hct hx hr hy hA
        · intro z hA
          show Ok (b_X7_round_176 (nI x) (nI r) (nI n) z) _
          unfold b_X7_round_176
          refine Ok.ifp (show z 0 0 ≤ nI n by rw [hA.1 0 (by omega) (by omega) (by omega) (by omega), hN]; exact nI_le (Nat.le_refl _) (by omega)) (Ok.end (Or.inl ⟨_, rfl, nI_1 r, ?_⟩))
          exact hA.skip (by omega) (fun q h1 h2 => by
            apply Classical.byContradiction
            intro w
            have := (ht q (by omega) w).2
            unfold ob at this
            omega)
      · intro z hA
        show Ok (b_X7_round_169 (nI x) (nI 4) z) _
        unfold b_X7_round_169
        refine Ok.ifp (show (4 : Int32) ≤ nI 4 from nI_le (a := 4) (Nat.le_refl _) (by omega)) (Ok.end (Or.inl ⟨_, rfl, nI_1 x, ?_⟩))
        have e : 100 * x + 20 * (4 + 1) = 100 * (x + 1) := by omega
        rw [e] at hA
        exact hA
  · intro z hA
    show Ok (b_X7_round_84 (nI n) z) _
    unfold b_X7_round_84
    have hA2 : AddM n m K tv (rd' + 1) 2000 z := hA.skip (by omega) (fun q h1 h2 => by
      apply Classical.byContradiction
      intro w
      have := (ht q (by omega) w).1
      unfold sb at this
      omega)
    refine Ok.ifp (show z 0 0 ≤ nI n by rw [hA.1 0 (by omega) (by omega) (by omega) (by omega), hN]; exact nI_le (Nat.le_refl _) (by omega)) ?_
    have e27 := hA2.2.1
    have e13 : z 13 0 = nI K := by rw [hA2.1 13 (by omega) (by omega) (by omega) (by omega)]; exact h13
    have e14 : z 14 0 = nI (rd' + 1) := by rw [hA2.1 14 (by omega) (by omega) (by omega) (by omega)]; exact h14
    rw [e27, e13]
    have frame : ∀ (v : Int32) k, k ≠ 13 → k ≠ 14 → (mA (mA z 14 (fun _ => v)) 13 (fun _ => (mA z 14 (fun _ => v)) 27 0)) k = z k := by
      intro v k h13 h14
      unfold mA
      simp only [if_neg h13, if_neg h14]
    by_cases q : cn tv 2000 = 0
    · refine Ok.ifp (by rw [q]; exact nI_le (Nat.le_refl _) (by omega)) (Ok.bindE rfl (Ok.bindE rfl (Ok.end ⟨by rw [if_pos q], z, hA2, ?_, ?_, frame _⟩)))
      · exact e27
      · rw [if_pos q]
        show z 14 0 - 1 = _
        rw [e14]
        exact nI_sub (a := rd' + 1) (b := 1) (by omega)
    · refine Ok.ifn (nI_ge (by omega) (by omega)) (Ok.bindE rfl (Ok.bindE rfl (Ok.end ⟨by rw [if_neg q], z, hA2, ?_, ?_, frame _⟩)))
      · exact e27
      · rw [if_neg q]
        show z 14 0 - 0 = _
        rw [e14]
        exact nI_sub (a := rd' + 1) (b := 0) (by omega)
  · refine ⟨fun k _ _ _ _ => rfl, ?_, fun i hi => rfl, fun q hq => absurd hq (Nat.not_lt_zero q), fun x r y _ _ _ => ?_⟩
    · exact h27
    · rw [if_neg (by rintro ⟨w, -⟩; omega)]
end MROUND2
