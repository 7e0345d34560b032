/-! taking back; the plain questions -/
section PLAIN
variable {t : Th} {n ax cl cc : Nat} {sx : XS} {sm : MS}
def tU (t : Th) (a : Nat) : Th := fun k i => if k = 7 ∧ i = a then 0 else t k i
theorem sim6 : Sim_6 Inv := by
  rintro sx sm v1 ⟨t, n, ax, cl, cc, h, hd⟩
  have hI : Inv sx sm := ⟨t, n, ax, cl, cc, h, hd⟩
  have h40 := h.1.a40
  unfold f_X6_unsay f_X7_unsay t_X0_holding
  rcases argA h v1 with ⟨a, ha, rfl, e1, e2⟩ | ⟨e1, e2⟩
  · obtain ⟨hw, hN, hMN, c1, c2, c3, d1, d2, d3⟩ := h
    obtain ⟨m6, m7, m8, m9, m10⟩ := hMN.2.2.2 a ha
    have h7 := hw.h7 ha
    rw [e1, e2, if_neg one0, if_neg one0, xa4_ok hN hw ha, rd_nI (by omega) (by omega), m10, Option.bind_some]
    have q1 : nI (t 7 a) = (1 : Int32) ↔ t 7 a = 1 := nI_eq (b := 1) (by omega) (by omega)
    have q0 : nI (t 7 a) = (0 : Int32) ↔ t 7 a = 0 := nI_eq (b := 0) (by omega) (by omega)
    by_cases q : t 7 a = 0
    · rw [if_neg (show ¬ nI (t 7 a) = (1 : Int32) from fun w => by have := q1.mp w; omega), if_pos zero0, if_pos (q0.mpr q)]
      exact ⟨_, _, _, rfl, rfl, hI⟩
    rw [if_pos (q1.mpr (by omega)), if_neg one0, if_neg (fun w => q (q0.mp w)), mwr_nI (by omega) (by omega)]
    have i4 : nI a * (5 : Int32) + (4 : Int32) = nI (5 * a + 4) := by
      show nI a * nI 5 + nI 4 = _
      rw [nI_mul, nI_add, Nat.mul_comm]
    unfold f_X0_takeBack
    rw [i4, put_nI (by omega) (by omega)]
    obtain ⟨a1, a2, a3, a4⟩ := hN
    obtain ⟨b1, b2, b3, b4⟩ := hMN
    have o3 : ∀ k i, k ≠ 7 → tU t a k i = t k i := fun k i hk => by unfold tU; rw [if_neg (fun w => hk w.1)]
    have o1 : ∀ i, tv1 (tU t a) i = tv1 t i := fun i => by unfold tv1; rw [o3 _ _ (by omega), o3 _ _ (by omega)]
    have o2 : ∀ i, tv2 (tU t a) i = tv2 t i := fun i => by unfold tv2; rw [o3 _ _ (by omega), o3 _ _ (by omega)]
    have o6 : ∀ i, tv6 (tU t a) i = tv6 t i := fun i => by unfold tv6; rw [o3 _ _ (by omega), o3 _ _ (by omega)]
    refine ⟨1, _, _, rfl, rfl, tU t a, n, ax, cl, cc, ⟨?_, ⟨a1, a2, fun i hi => ?_, fun i hi => ?_⟩, ⟨b1, b2, fun i hi => ?_, fun i hi => ?_⟩, c1, c2, c3, d1, d2, d3⟩, Or.inl ⟨rfl, rfl⟩⟩
    · obtain ⟨h1, h2, h3, h4, h5, h6, h7, h8⟩ := hw
      refine ⟨h1, h2, h3, ?_, ?_, fun i h2i hi => ?_, fun i hi => ?_, fun i hi => ?_⟩
      · rw [o3 _ _ (by omega)]; exact h4
      · rw [o3 _ _ (by omega)]; exact h5
      · rw [o3 _ _ (by omega), o3 _ _ (by omega), o3 _ _ (by omega)]; exact h6 i h2i hi
      · rw [o3 _ _ (by omega), o3 _ _ (by omega), o3 _ _ (by omega), o3 _ _ (by omega)]; exact h7 i hi
      · unfold tU
        split
        · omega
        · exact h8 i hi
    · rw [o3 _ _ (by omega), o1, o2]; exact a3 i hi
    · rw [o3 _ _ (by omega), o3 _ _ (by omega), o3 _ _ (by omega), o6]
      obtain ⟨r1, r2, r3, r4, r5⟩ := a4 i hi
      show upd (sx.1 4) (5 * a + 4) 0 (5 * i) = _ ∧ upd (sx.1 4) (5 * a + 4) 0 (5 * i + 1) = _ ∧ upd (sx.1 4) (5 * a + 4) 0 (5 * i + 2) = _ ∧ upd (sx.1 4) (5 * a + 4) 0 (5 * i + 3) = _ ∧ upd (sx.1 4) (5 * a + 4) 0 (5 * i + 4) = _
      refine ⟨by rw [pk_un (by omega)]; exact r1, by rw [pk_un (by omega)]; exact r2, by rw [pk_un (by omega)]; exact r3, by rw [pk_un (by omega)]; exact r4, ?_⟩
      by_cases e : i = a
      · subst e
        rw [pk_us]
        unfold tU
        rw [if_pos ⟨rfl, rfl⟩]
        rfl
      · rw [pk_un (by omega)]
        unfold tU
        rw [if_neg (fun w => e w.2)]
        exact r5
    · rw [o3 _ _ (by omega), o1, o2]; exact b3 i hi
    · rw [o3 _ _ (by omega), o3 _ _ (by omega), o3 _ _ (by omega), o6]
      obtain ⟨r1, r2, r3, r4, r5⟩ := b4 i hi
      refine ⟨r1, r2, r3, r4, ?_⟩
      show upd (sm 10) a 0 i = _
      by_cases e : i = a
      · subst e
        rw [pk_us]
        unfold tU
        rw [if_pos ⟨rfl, rfl⟩]
        rfl
      · rw [pk_un e]
        unfold tU
        rw [if_neg (fun w => e w.2)]
        exact r5
  · rw [e1, e2, if_pos zero0, if_pos zero0, if_pos zero0]
    exact ⟨_, _, _, rfl, rfl, hI⟩
theorem sim7 : Sim_7 Inv := by
  rintro sx sm v1 v2 ⟨t, n, ax, cl, cc, h, hd⟩
  have hI : Inv sx sm := ⟨t, n, ax, cl, cc, h, hd⟩
  refine ⟨_, rfl, ?_, hI⟩
  have h20 := h.1.n20
  unfold t_X6_notion f_X7_notion
  rcases argN h v1 with ⟨a, ha, rfl, e1, e2⟩ | ⟨e1, e2⟩
  · rw [e1, e2, if_neg one0, if_neg one0]
    obtain ⟨m2, m3, m4⟩ := h.2.2.1.2.2.1 a ha
    rw [rd_nI (by omega) (by omega), rd_nI (by omega) (by omega), rd_nI (by omega) (by omega), m2, m3, m4]
    have x0 := (xpart_ok h.2.1 h.1 ha (j := 0) (by omega)).trans (h.2.1.2.2.1 a ha).1
    have x1 := (xpart_ok h.2.1 h.1 ha (j := 1) (by omega)).trans (h.2.1.2.2.1 a ha).2.1
    have x2 := (xpart_ok h.2.1 h.1 ha (j := 2) (by omega)).trans (h.2.1.2.2.1 a ha).2.2
    have q0 : v2 = 0 → v2 = nI 0 := fun h => h
    rcases arg2 v2 (n := 3) (by omega) with ⟨b, hb, rfl, e3, -⟩ | ⟨e3, -⟩
    · have e3 : t_X6_within (nI b) 3 = 1 := e3
      rw [e3, if_neg one0]
      rcases (show b = 0 ∨ b = 1 ∨ b = 2 by omega) with rfl | rfl | rfl
      · rw [if_pos (show nI 0 = (0 : Int32) from rfl), x0]; rfl
      · rw [if_neg (show ¬ nI 1 = (0 : Int32) by decide), if_pos (show nI 1 = (1 : Int32) from rfl), x1]; rfl
      · rw [if_neg (show ¬ nI 2 = (0 : Int32) by decide), if_neg (show ¬ nI 2 = (1 : Int32) by decide), if_pos (show nI 2 = (2 : Int32) from rfl), x2]; rfl
    · have e3 : t_X6_within v2 3 = 0 := e3
      have hn : ∀ b, b < 3 → v2 ≠ nI b := by
        rintro b hb rfl
        have := (within_nI (a := b) (n := 3) (by omega) (by omega)).trans (if_pos hb)
        exact absurd ((e3.symm.trans this : (0 : Int32) = 1)) (by decide)
      rw [e3, if_pos zero0, if_neg (show ¬ v2 = 0 from hn 0 (by omega)), if_neg (show ¬ v2 = 1 from hn 1 (by omega)), if_neg (show ¬ v2 = 2 from hn 2 (by omega))]
  · rw [e1, e2, if_pos zero0, if_pos zero0]
theorem sim8 : Sim_8 Inv := by
  rintro sx sm v1 v2 ⟨t, n, ax, cl, cc, h, hd⟩
  have hI : Inv sx sm := ⟨t, n, ax, cl, cc, h, hd⟩
  refine ⟨_, rfl, ?_, hI⟩
  have h40 := h.1.a40
  unfold t_X6_axiom f_X7_axiom
  rcases argA h v1 with ⟨a, ha, rfl, e1, e2⟩ | ⟨e1, e2⟩
  · rw [e1, e2, if_neg one0, if_neg one0]
    obtain ⟨m6, m7, m8, m9, m10⟩ := h.2.2.1.2.2.2 a ha
    have h7 := h.1.h7 ha
    rw [rd_nI (by omega) (by omega), rd_nI (by omega) (by omega), rd_nI (by omega) (by omega), rd_nI (by omega) (by omega), rd_nI (by omega) (by omega), m6, m7, m8, m9, m10]
    have x0 := (xapart_ok h.2.1 h.1 ha (j := 0) (by omega)).trans (h.2.1.2.2.2 a ha).1
    have x1 := (xapart_ok h.2.1 h.1 ha (j := 1) (by omega)).trans (h.2.1.2.2.2 a ha).2.1
    have x2 := (xapart_ok h.2.1 h.1 ha (j := 2) (by omega)).trans (h.2.1.2.2.2 a ha).2.2.1
    have x3 := (xapart_ok h.2.1 h.1 ha (j := 3) (by omega)).trans (h.2.1.2.2.2 a ha).2.2.2.1
    have x4 := (xapart_ok h.2.1 h.1 ha (j := 4) (by omega)).trans (h.2.1.2.2.2 a ha).2.2.2.2
    rcases arg2 v2 (n := 5) (by omega) with ⟨b, hb, rfl, e3, -⟩ | ⟨e3, -⟩
    · have e3 : t_X6_within (nI b) 5 = 1 := e3
      rw [e3, if_neg one0]
      rcases (show b = 0 ∨ b = 1 ∨ b = 2 ∨ b = 3 ∨ b = 4 by omega) with rfl | rfl | rfl | rfl | rfl
      · rw [if_pos (show nI 0 = (0 : Int32) from rfl), x0]; rfl
      · rw [if_neg (show ¬ nI 1 = (0 : Int32) by decide), if_pos (show nI 1 = (1 : Int32) from rfl), x1]; rfl
      · rw [if_neg (show ¬ nI 2 = (0 : Int32) by decide), if_neg (show ¬ nI 2 = (1 : Int32) by decide), if_pos (show nI 2 = (2 : Int32) from rfl), x2]; rfl
      · rw [if_neg (show ¬ nI 3 = (0 : Int32) by decide), if_neg (show ¬ nI 3 = (1 : Int32) by decide), if_neg (show ¬ nI 3 = (2 : Int32) by decide), if_pos (show nI 3 = (3 : Int32) from rfl), x3]; rfl
      · rw [if_neg (show ¬ nI 4 = (0 : Int32) by decide), if_neg (show ¬ nI 4 = (1 : Int32) by decide), if_neg (show ¬ nI 4 = (2 : Int32) by decide), if_neg (show ¬ nI 4 = (3 : Int32) by decide), if_pos (show nI 4 = (4 : Int32) from rfl), x4, Option.bind_some]
        rcases (show t 7 a = 0 ∨ t 7 a = 1 by omega) with q | q
        · rw [q]; rfl
        · rw [q]; rfl
    · have e3 : t_X6_within v2 5 = 0 := e3
      have hn : ∀ b, b < 5 → v2 ≠ nI b := by
        rintro b hb rfl
        have := (within_nI (a := b) (n := 5) (by omega) (by omega)).trans (if_pos hb)
        exact absurd ((e3.symm.trans this : (0 : Int32) = 1)) (by decide)
      rw [e3, if_pos zero0, if_neg (show ¬ v2 = 0 from hn 0 (by omega)), if_neg (show ¬ v2 = 1 from hn 1 (by omega)), if_neg (show ¬ v2 = 2 from hn 2 (by omega)), if_neg (show ¬ v2 = 3 from hn 3 (by omega)), if_neg (show ¬ v2 = 4 from hn 4 (by omega))]
  · rw [e1, e2, if_pos zero0, if_pos zero0]
/-- how an answer of a concluded state is found on both sides -/
theorem doneCases {sx : XS} {sm : MS} (h : Inv sx sm) : (sx.1 36 0 = 0 ∧ sm 11 0 = 0) ∨ ∃ (t : Th) (n ax cl cc K : Nat) (pl num rn cd : Nat → Nat) (rd : Nat) (U : Nat → Nat → Bool) (ch : Nat → Nat → Nat → Nat), Core t n ax cl cc sx sm ∧ sx.1 36 0 = 1 ∧ sm 11 0 = 1 ∧ CS t n K pl num cd ∧ Closed num t n ax U ch pl K ∧ XC sx K pl num rn cd rd ∧ MC sm n K pl num rn cd rd ∧ XH sx.1 n (hP num U) (hG num U t n n) ∧ MH sm n (hT num) (hP num U) (hG num U t n n) := by
  obtain ⟨t, n, ax, cl, cc, hc, h | ⟨h1, h2, K, pl, num, rn, cd, rd, U, ch, r⟩⟩ := h
  · exact Or.inl h
  · exact Or.inr ⟨t, n, ax, cl, cc, K, pl, num, rn, cd, rd, U, ch, hc, h1, h2, r⟩
theorem sim10 : Sim_10 Inv := by
  rintro sx sm hI
  refine ⟨_, rfl, ?_, hI⟩
  unfold t_X6_rounds t_X7_rounds
  rcases doneCases hI with ⟨h1, h2⟩ | ⟨t, n, ax, cl, cc, K, pl, num, rn, cd, rd, U, ch, hc, h1, h2, hG, hCl, hX, hM, -⟩
  · rw [h1, h2, if_pos zero0, if_pos zero0]
  · rw [h1, h2, if_neg one0, if_neg one0, hX.2.1, hM.2.1]
theorem sim12 : Sim_12 Inv := by
  rintro sx sm v1 v2 hI
  refine ⟨_, rfl, ?_, hI⟩
  unfold t_X6_is f_X7_is
  rcases doneCases hI with ⟨h1, h2⟩ | ⟨t, n, ax, cl, cc, K, pl, num, rn, cd, rd, U, ch, hc, h1, h2, hG, hCl, hX, hM, -⟩
  · rw [h1, h2, if_pos zero0, if_pos zero0]
  · have h20 := hc.1.n20
    rw [h1, h2, if_neg one0, if_neg one0]
    rcases argN hc v1 with ⟨a, ha, rfl, e1, e2⟩ | ⟨e1, e2⟩
    · rw [e1, e2, if_neg one0, if_neg one0]
      rcases argN hc v2 with ⟨b, hb, rfl, e3, e4⟩ | ⟨e3, e4⟩
      · have e : (28 : Int32) * nI a + nI b = nI (28 * a + b) := by
          show nI 28 * nI a + nI b = _
          rw [nI_mul, nI_add]
        have hm := hM.2.2.2 a 0 b ha (by omega) hb
        rw [show 100 * a + 20 * 0 + b = 100 * a + b by omega] at hm
        have hm : sm 16 (28 * a + b) = _ := hm
        rw [e3, e4, if_neg one0, if_neg one0, numIs_ok hX.2.2.2 (by omega), e, rd_nI (by omega) (by omega), hm]
        rfl
      · rw [e3, e4, if_pos zero0, if_pos zero0]
    · rw [e1, e2, if_pos zero0, if_pos zero0]
theorem sim13 : Sim_13 Inv := by
  rintro sx sm v1 v2 v3 hI
  refine ⟨_, rfl, ?_, hI⟩
  unfold t_X6_to f_X7_to
  rcases doneCases hI with ⟨h1, h2⟩ | ⟨t, n, ax, cl, cc, K, pl, num, rn, cd, rd, U, ch, hc, h1, h2, hG, hCl, hX, hM, -⟩
  · rw [h1, h2, if_pos zero0, if_pos zero0]
  · have h20 := hc.1.n20
    rw [h1, h2, if_neg one0, if_neg one0]
    rcases argN hc v1 with ⟨a, ha, rfl, e1, e2⟩ | ⟨e1, e2⟩
    · rw [e1, e2, if_neg one0, if_neg one0]
      rcases argN hc v3 with ⟨b, hb, rfl, e3, e4⟩ | ⟨e3, e4⟩
      · rw [e3, e4, if_neg one0, if_neg one0]
        rcases argR v2 with ⟨r, hr, rfl, e5, e6⟩ | ⟨e5, e6⟩
        · have e : (112 : Int32) * nI a + (28 : Int32) * nI r + nI b = nI (112 * a + 28 * r + b) := by
            show nI 112 * nI a + nI 28 * nI r + nI b = _
            rw [nI_mul, nI_mul, nI_add, nI_add]
          have hm := hM.2.2.2 a (r + 1) b ha (by omega) hb
          have hm : sm 17 (112 * a + 28 * r + b) = _ := hm
          rw [e5, e6, if_neg one0, if_neg one0, numTo_ok hX.2.2.2 (by omega), e, rd_nI (by omega) (by omega), hm]
          rfl
        · rw [e5, e6, if_pos zero0, if_pos zero0]
      · rw [e3, e4, if_pos zero0, if_pos zero0]
    · rw [e1, e2, if_pos zero0, if_pos zero0]
theorem sim18 : Sim_18 Inv := by
  rintro sx sm hI
  refine ⟨_, rfl, ?_, hI⟩
  unfold t_X6_broken f_X7_broken
  rcases doneCases hI with ⟨h1, h2⟩ | ⟨t, n, ax, cl, cc, K, pl, num, rn, cd, rdn, U, ch, hc, h1, h2, hG, hCl, hX, hM, -⟩
  · rw [h1, h2, if_pos zero0, if_pos zero0]
  · have h20 := hc.1.n20
    have h2n := hc.1.n2
    have hm := hM.2.2.2 0 0 1 (by omega) (by omega) (by omega)
    have hm : sm 16 1 = nO (num 1) := hm
    have hl := (hX.2.2.2 1 (by omega)).2
    have e1 : t_X1_saysIs sx 0 1 = _ := saysIs_ok hX.2.2.2 (x := 0) (d := 1) (by omega)
    have e2 : rd 784 (sm 16) 1 = some (sm 16 1) := rd_nI (a := 1) (by omega) (by omega)
    rw [h1, h2, if_neg one0, if_neg one0, e1, e2, Option.bind_some, hm]
    by_cases q : num 1 = 0
    · rw [if_pos ((nO_m1 (by omega)).mpr q)]
      have : num (100 * 0 + 1) = 0 := q
      simp [this, b1, t_X6_oneIf]
    · rw [if_neg (fun w => q ((nO_m1 (by omega)).mp w))]
      have : ¬ num (100 * 0 + 1) = 0 := q
      simp [this, b1, t_X6_oneIf]
theorem sim21 : Sim_21 Inv := by
  rintro sx sm v1 v2 v3 hI
  refine ⟨_, rfl, ?_, hI⟩
  unfold t_X6_pair f_X7_pair
  rcases doneCases hI with ⟨h1, h2⟩ | ⟨t, n, ax, cl, cc, K, pl, num, rn, cd, rd, U, ch, hc, h1, h2, hG, hCl, hX, hM, hXH, hMH⟩
  · rw [h1, h2, if_pos zero0, if_pos zero0]
  · have h20 := hc.1.n20
    rw [h1, h2, if_neg one0, if_neg one0]
    rcases argN hc v1 with ⟨a, ha, rfl, e1, e2⟩ | ⟨e1, e2⟩
    · rw [e1, e2, if_neg one0, if_neg one0]
      rcases argN hc v3 with ⟨b, hb, rfl, e3, e4⟩ | ⟨e3, e4⟩
      · rw [e3, e4, if_neg one0, if_neg one0]
        rcases argR v2 with ⟨r, hr, rfl, e5, e6⟩ | ⟨e5, e6⟩
        · have e : (112 : Int32) * nI a + (28 : Int32) * nI r + nI b = nI (112 * a + 28 * r + b) := by
            show nI 112 * nI a + nI 28 * nI r + nI b = _
            rw [nI_mul, nI_mul, nI_add, nI_add]
          rw [e5, e6, if_neg one0, if_neg one0, partners_ok hr (by omega), (hXH.2 r a hr (by omega)).has h20 hb, e, rd_nI (by omega) (by omega), hMH.2.1 a r b ha hr hb, Option.bind_some]
          cases hP num U a r b <;> rfl
        · rw [e5, e6, if_pos zero0, if_pos zero0]
      · rw [e3, e4, if_pos zero0, if_pos zero0]
    · rw [e1, e2, if_pos zero0, if_pos zero0]
theorem hG0 (hw : Wf t n ax) {num : Nat → Nat} {U : Nat → Nat → Bool} : hG num U t n n 0 = hT num := by
  funext x
  have h2 := hw.n2
  have h0 := hw.2.2.2.1
  rw [hG_at (by omega)]
  unfold hS
  rw [if_pos h0]
theorem sim20 : Sim_20 Inv := by
  rintro sx sm v1 v2 hI
  refine ⟨_, rfl, ?_, hI⟩
  unfold t_X6_isOf f_X7_isOf
  rcases doneCases hI with ⟨h1, h2⟩ | ⟨t, n, ax, cl, cc, K, pl, num, rn, cd, rd, U, ch, hc, h1, h2, hGG, hCl, hX, hM, hXH, hMH⟩
  · rw [h1, h2, if_pos zero0, if_pos zero0]
  · have h20 := hc.1.n20
    have h2n := hc.1.n2
    rw [h1, h2, if_neg one0, if_neg one0]
    rcases argN hc v1 with ⟨a, ha, rfl, e1, e2⟩ | ⟨e1, e2⟩
    · rw [e1, e2, if_neg one0, if_neg one0]
      rcases argN hc v2 with ⟨b, hb, rfl, e3, e4⟩ | ⟨e3, e4⟩
      · have e : (28 : Int32) * nI a + nI b = nI (28 * a + b) := by
          show nI 28 * nI a + nI b = _
          rw [nI_mul, nI_add]
        have m0 : t_X2_members sx 0 = _ := members_ok (z := sx) (j := 0) (by omega)
        have k0 := hXH.1 0 (by omega)
        rw [hG0 hc.1] at k0
        rw [e3, e4, if_neg one0, if_neg one0, m0, members_ok (by omega), k0.has h20 ha, (hXH.1 b hb).has h20 ha, rd_nI (by omega) (by omega), hMH.1 a ha, Option.bind_some, e, rd_nI (by omega) (by omega), hMH.2.2 a b ha hb, Option.bind_some]
        cases hT num a
        · rfl
        · cases hG num U t n n b a <;> rfl
      · rw [e3, e4, if_pos zero0, if_pos zero0]
    · rw [e1, e2, if_pos zero0, if_pos zero0]
end PLAIN
