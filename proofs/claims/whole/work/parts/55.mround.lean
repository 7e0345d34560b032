/-! the model's round: numbering what was found -/
def tk (r : Nat) : Nat := if r = 0 then 16 else 17
def FE (z : MS) (j q rd c : Nat) : Prop := z 15 (9 * j) = nI (if rh q = 0 then 0 else 1) ∧ z 15 (9 * j + 1) = nI (sb q) ∧ z 15 (9 * j + 2) = nI (ob q) ∧ z 15 (9 * j + 3) = nO (rh q) ∧ z 15 (9 * j + 4) = nI rd ∧ z 15 (9 * j + 5) = nI (c / 268435456) ∧ z 15 (9 * j + 6) = nO (c / 131072 % 2048) ∧ z 15 (9 * j + 7) = nO (c / 64 % 2048) ∧ z 15 (9 * j + 8) = nO (c % 64)
theorem FE.of {z z' : MS} {j q rd c : Nat} (h : FE z j q rd c) (e : ∀ i, i < 9 → z' 15 (9 * j + i) = z 15 (9 * j + i)) : FE z' j q rd c := by
  obtain ⟨h0, h1, h2, h3, h4, h5, h6, h7, h8⟩ := h
  have e0 := e 0 (by omega)
  refine ⟨e0.trans h0, (e 1 (by omega)).trans h1, (e 2 (by omega)).trans h2, (e 3 (by omega)).trans h3, (e 4 (by omega)).trans h4, (e 5 (by omega)).trans h5, (e 6 (by omega)).trans h6, (e 7 (by omega)).trans h7, (e 8 (by omega)).trans h8⟩
theorem lay_ok {z : MS} {j : Nat} (h27 : z 27 0 = nI j) (hj : j < 2000) (p1 p2 p3 p4 p5 p6 p7 p8 : Int32) :
    Ok (f_X7_lay z p1 p2 p3 p4 p5 p6 p7 p8) (fun z' => (∀ k, k ≠ 15 → k ≠ 27 → z' k = z k) ∧ z' 27 0 = nI (j + 1) ∧ z' 15 = upd (upd (upd (upd (upd (upd (upd (upd (upd (z 15) (9 * j) p1) (9 * j + 1) p2) (9 * j + 2) p3) (9 * j + 3) p4) (9 * j + 4) (z 14 0)) (9 * j + 5) p5) (9 * j + 6) p6) (9 * j + 7) p7) (9 * j + 8) p8) := by
  unfold f_X7_lay
  rw [h27]
  have e0 : (9 : Int32) * nI j = nI (9 * j) := nI_mul 9 j
  have e1 : nI (9 * j) + (1 : Int32) = nI (9 * j + 1) := nI_add _ 1
  have e2 : nI (9 * j) + (2 : Int32) = nI (9 * j + 2) := nI_add _ 2
  have e3 : nI (9 * j) + (3 : Int32) = nI (9 * j + 3) := nI_add _ 3
  have e4 : nI (9 * j) + (4 : Int32) = nI (9 * j + 4) := nI_add _ 4
  have e5 : nI (9 * j) + (5 : Int32) = nI (9 * j + 5) := nI_add _ 5
  have e6 : nI (9 * j) + (6 : Int32) = nI (9 * j + 6) := nI_add _ 6
  have e7 : nI (9 * j) + (7 : Int32) = nI (9 * j + 7) := nI_add _ 7
  have e8 : nI (9 * j) + (8 : Int32) = nI (9 * j + 8) := nI_add _ 8
  rw [e0, e1, e2, e3, e4, e5, e6, e7, e8]
  refine Ok.bindE (mwr_nI (by omega) (by omega)) (Ok.bindE (mwr_nI (by omega) (by omega)) (Ok.bindE (mwr_nI (by omega) (by omega)) (Ok.bindE (mwr_nI (by omega) (by omega)) (Ok.bindE (mwr_nI (by omega) (by omega)) (Ok.bindE (mwr_nI (by omega) (by omega)) (Ok.bindE (mwr_nI (by omega) (by omega)) (Ok.bindE (mwr_nI (by omega) (by omega)) (Ok.bindE (mwr_nI (by omega) (by omega)) (Ok.bindE rfl (Ok.some ⟨?_, ?_, ?_⟩))))))))))
  · intro k h15 h27
    unfold mA
    simp only [if_neg h15, if_neg h27]
  · show z 27 0 + 1 = _
    rw [h27, nI_1]
  · rfl
def AddM (n : Nat) (m : MS) (K : Nat) (tv : Nat → Nat) (rd p : Nat) (z : MS) : Prop :=
  (∀ k, k ≠ 15 → k ≠ 16 → k ≠ 17 → k ≠ 27 → z k = m k) ∧ z 27 0 = nI (K + cn tv p) ∧ (∀ i, i < 9 * K → z 15 i = m 15 i) ∧
  (∀ q, q < p → tv q ≠ 0 → FE z (K + cn tv q) q rd (tv q - 1)) ∧
  (∀ x r y, x < n → r < 5 → y < n → z (tk r) (mq x r y) = if 100 * x + 20 * r + y < p ∧ tv (100 * x + 20 * r + y) ≠ 0 then nI (K + cn tv (100 * x + 20 * r + y)) else m (tk r) (mq x r y))
section ADDM
variable {n : Nat} {m z : MS} {K : Nat} {tv : Nat → Nat} {rd p : Nat}
theorem cn_skip {p p' : Nat} (h : p ≤ p') (h0 : ∀ q, p ≤ q → q < p' → tv q = 0) : cn tv p' = cn tv p := by
  induction p' with
  | zero => have : p = 0 := by omega
            rw [this]
  | succ i ih =>
    by_cases e : p = i + 1
    · rw [e]
    · rw [cn_s, if_neg (fun w => w (h0 i (by omega) (by omega))), ih (by omega) (fun q h1 h2 => h0 q h1 (by omega))]
      rfl
theorem AddM.skip {p' : Nat} (hA : AddM n m K tv rd p z) (h : p ≤ p') (h0 : ∀ q, p ≤ q → q < p' → tv q = 0) : AddM n m K tv rd p' z := by
  obtain ⟨h1, h2, h3, h4, h5⟩ := hA
  refine ⟨h1, ?_, h3, fun q hq hne => ?_, fun x r y hx hr hy => ?_⟩
  · rw [h2, cn_skip h h0]
  · refine h4 q ?_ hne
    apply Classical.byContradiction
    intro w
    exact hne (h0 q (by omega) hq)
  · rw [h5 x r y hx hr hy]
    by_cases w : 100 * x + 20 * r + y < p ∧ tv (100 * x + 20 * r + y) ≠ 0
    · rw [if_pos w, if_pos ⟨by omega, w.2⟩]
    · rw [if_neg w, if_neg]
      rintro ⟨g1, g2⟩
      refine w ⟨?_, g2⟩
      apply Classical.byContradiction
      intro w2
      exact g2 (h0 _ (by omega) g1)
theorem mq_inj {x r y x0 r0 y0 : Nat} (hn : n ≤ 20) (hx : x < n) (hr : r < 5) (hy : y < n) (hx0 : x0 < n) (hr0 : r0 < 5) (hy0 : y0 < n) (h1 : tk r = tk r0) (h2 : mq x r y = mq x0 r0 y0) : x = x0 ∧ r = r0 ∧ y = y0 := by
  unfold tk at h1
  unfold mq at h2
  split at h1 <;> split at h1 <;> simp_all <;> omega
theorem AddM.step (hn : n ≤ 20) {x r y : Nat} (hx : x < n) (hr : r < 5) (hy : y < n) (hA : AddM n m K tv rd (100 * x + 20 * r + y) z) (hv : MEnt m x r y (tv (100 * x + 20 * r + y))) (h14 : m 14 0 = nI rd) (hne : tv (100 * x + 20 * r + y) ≠ 0) (hct : K + cn tv 2000 ≤ 2000) {kd : Int32} (hkd : kd = nI (if r = 0 then 0 else 1)) :
    Ok (f_X7_lay (mA z (tk r) (upd (z (tk r)) (mq x r y) (z 27 0))) kd (nI x) (nI y) (nO r) (m (mk r) (mq x r y)) (m (mk r + 1) (mq x r y)) (m (mk r + 2) (mq x r y)) (m (mk r + 3) (mq x r y))) (AddM n m K tv rd (100 * x + 20 * r + y + 1)) := by
  obtain ⟨h1, h2, h3, h4, h5⟩ := hA
  obtain ⟨es, er, eo⟩ := pl_of (x := x) hr (show y < 20 by omega)
  have hlt : cn tv (100 * x + 20 * r + y) < cn tv 2000 := cn_lt (by omega) hne
  have htk : tk r ≠ 27 ∧ tk r ≠ 14 ∧ tk r ≠ 15 := by unfold tk; split <;> omega
  have e27 : (mA z (tk r) (upd (z (tk r)) (mq x r y) (z 27 0))) 27 0 = nI (K + cn tv (100 * x + 20 * r + y)) := by
    unfold mA
    rw [if_neg (fun w => htk.1 w.symm)]
    exact h2
  refine (lay_ok e27 (by omega) _ _ _ _ _ _ _ _).mono (fun z' hz' => ?_)
  obtain ⟨g1, g2, g3⟩ := hz'
  have e15 : (mA z (tk r) (upd (z (tk r)) (mq x r y) (z 27 0))) 15 = z 15 := by
    unfold mA
    rw [if_neg (fun w => htk.2.2 w.symm)]
  have e14 : (mA z (tk r) (upd (z (tk r)) (mq x r y) (z 27 0))) 14 0 = nI rd := by
    unfold mA
    rw [if_neg (fun w => htk.2.1 w.symm), h1 14 (by omega) (by omega) (by omega) (by omega)]
    exact h14
  rw [e15, e14] at g3
  have hout : ∀ i, i < 9 * (K + cn tv (100 * x + 20 * r + y)) → z' 15 i = z 15 i := by
    intro i hi
    rw [g3, pk_un (by omega), pk_un (by omega), pk_un (by omega), pk_un (by omega), pk_un (by omega), pk_un (by omega), pk_un (by omega), pk_un (by omega), pk_un (by omega)]
  refine ⟨?_, ?_, ?_, fun q hq hne2 => ?_, fun x2 r2 y2 hx2 hr2 hy2 => ?_⟩
  · intro k k1 k2 k3 k4
    rw [g1 k k1 k4]
    unfold mA
    rw [if_neg]
    · exact h1 k k1 k2 k3 k4
    · unfold tk
      split
      · exact k2
      · exact k3
  · rw [g2, cn_s, if_pos hne]
    rfl
  · intro i hi
    rw [hout i (by omega)]
    exact h3 i hi
  · by_cases e : q = 100 * x + 20 * r + y
    · subst e
      rcases hv with ⟨w, -⟩ | ⟨ru, f, s, a, w, w1, w2, w3, w4, w5, w6, w7, w8⟩
      · exact absurd w hne
      · obtain ⟨c1, c2, c3, c4⟩ := cod_a (ru := ru) w2 w3 w4
        have ec : tv (100 * x + 20 * r + y) - 1 = cod ru f s a := by omega
        unfold FE
        rw [ec, c1, c2, c3, c4, es, er, eo, g3]
        refine ⟨?_, ?_, ?_, ?_, ?_, ?_, ?_, ?_, ?_⟩
        · rw [pk_un (by omega), pk_un (by omega), pk_un (by omega), pk_un (by omega), pk_un (by omega), pk_un (by omega), pk_un (by omega), pk_un (by omega), pk_us]
          exact hkd
        · rw [pk_un (by omega), pk_un (by omega), pk_un (by omega), pk_un (by omega), pk_un (by omega), pk_un (by omega), pk_un (by omega), pk_us]
        · rw [pk_un (by omega), pk_un (by omega), pk_un (by omega), pk_un (by omega), pk_un (by omega), pk_un (by omega), pk_us]
        · rw [pk_un (by omega), pk_un (by omega), pk_un (by omega), pk_un (by omega), pk_un (by omega), pk_us]
        · rw [pk_un (by omega), pk_un (by omega), pk_un (by omega), pk_un (by omega), pk_us]
        · rw [pk_un (by omega), pk_un (by omega), pk_un (by omega), pk_us]
          exact w5
        · rw [pk_un (by omega), pk_un (by omega), pk_us]
          exact w6
        · rw [pk_un (by omega), pk_us]
          exact w7
        · rw [pk_us]
          exact w8
    · have hlt2 : cn tv q < cn tv (100 * x + 20 * r + y) := cn_lt (by omega) hne2
      refine (h4 q (by omega) hne2).of (fun i hi => hout _ (by omega))
  · have htk2 : tk r2 ≠ 15 ∧ tk r2 ≠ 27 := by unfold tk; split <;> omega
    rw [g1 (tk r2) htk2.1 htk2.2]
    by_cases e : x2 = x ∧ r2 = r ∧ y2 = y
    · obtain ⟨rfl, rfl, rfl⟩ := e
      rw [if_pos ⟨by omega, hne⟩]
      unfold mA
      rw [if_pos rfl, pk_us]
      exact h2
    · have hk : (mA z (tk r) (upd (z (tk r)) (mq x r y) (z 27 0))) (tk r2) (mq x2 r2 y2) = z (tk r2) (mq x2 r2 y2) := by
        unfold mA
        by_cases w : tk r2 = tk r
        · rw [if_pos w, w, pk_un (fun w2 => e (mq_inj hn hx2 hr2 hy2 hx hr hy w w2))]
        · rw [if_neg w]
      rw [hk, h5 x2 r2 y2 hx2 hr2 hy2]
      by_cases w : 100 * x2 + 20 * r2 + y2 < 100 * x + 20 * r + y ∧ tv (100 * x2 + 20 * r2 + y2) ≠ 0
      · rw [if_pos w, if_pos ⟨by omega, w.2⟩]
      · rw [if_neg w, if_neg]
        rintro ⟨w1, w2⟩
        refine w ⟨?_, w2⟩
        omega
end ADDM
