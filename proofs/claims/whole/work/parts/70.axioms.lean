/-! axioms on both sides; the plain questions -/
section MAKE3
variable {t : Th} {n ax cl cc : Nat} {sx : XS} {sm : MS}
theorem addA_sim (h : Core t n ax cl cc sx sm) (hI : Inv sx sm) {s a b c : Nat} {p1 p2 p3 p4 : Int32} (hs : (s = 0 ∧ a < n ∧ b < n) ∨ (s = 1 ∧ a < 4 ∧ b < 4) ∨ (s = 2 ∧ a < 4 ∧ b < 4 ∧ c < 4)) (e1 : p1 = nI s) (e2 : p2 = nI a) (e3 : p3 = nI b) (e4 : p4 = if s = 2 then nI c else -1) :
    ∃ (r : Int32) (sx' : XS) (sm' : MS), Option.bind (f_X6_addAxiom sx p1 p2 p3 p4) (fun r3 => some (r3.1, r3.2)) = some (r, sx') ∧ Option.bind (f_X7_said sm p1 p2 p3 p4) (fun r3 => some (r3.1, r3.2)) = some (r, sm') ∧ Inv sx' sm' := by
  obtain ⟨hw, ⟨a1, a2, a3, a4⟩, ⟨b1, b2, b3, b4⟩, c1, c2, c3, d1, d2, d3⟩ := h
  have h40 := hw.a40
  have en : sm 5 0 = (40 : Int32) ↔ ax = 40 := by rw [b2]; exact nI_eq (b := 40) (by omega) (by omega)
  have ln : sx.1 32 0 < (40 : Int32) ↔ ax < 40 := by rw [a2]; exact nI_ltI (b := 40) (by omega) (by omega)
  unfold f_X6_addAxiom f_X7_said
  by_cases q : ax = 40
  · rw [if_neg (fun w => by have := ln.mp w; omega), if_pos (en.mpr q)]
    exact ⟨_, _, _, rfl, rfl, hI⟩
  rw [if_pos (ln.mpr (by omega)), if_neg (fun w => q (en.mp w))]
  have hX : Ok (Option.bind (Option.bind (some (sA sx 36 (fun _ => (0 : Int32)))) (fun r2 => Option.bind (f_X0_add r2 p1 p2 p3 p4) (fun r3 => some (r3.1, r3.2)))) (fun r3 => some (r3.1, r3.2))) (fun r => r.1 = nI ax ∧ (∀ k, k ≠ 4 → k ≠ 32 → k ≠ 36 → r.2.1 k = sx.1 k) ∧ r.2.1 4 = upd (upd (upd (upd (upd (sx.1 4) (5 * ax) p1) (5 * ax + 1) p2) (5 * ax + 2) p3) (5 * ax + 3) p4) (5 * ax + 4) 1 ∧ r.2.1 32 0 = nI (ax + 1) ∧ r.2.1 36 0 = 0) := by
    unfold f_X0_add
    have q0 : (sA sx 36 (fun _ => 0)).1 32 0 = nI ax := a2
    have i0 : (nI ax * (5 : Int32)) = nI (5 * ax) := by
      show nI ax * nI 5 = _
      rw [nI_mul, Nat.mul_comm]
    have i1 : (nI (5 * ax) + (1 : Int32)) = nI (5 * ax + 1) := nI_add _ 1
    have i2 : (nI (5 * ax) + (2 : Int32)) = nI (5 * ax + 2) := nI_add _ 2
    have i3 : (nI (5 * ax) + (3 : Int32)) = nI (5 * ax + 3) := nI_add _ 3
    have i4 : (nI (5 * ax) + (4 : Int32)) = nI (5 * ax + 4) := nI_add _ 4
    rw [Option.bind_some, q0, i0, i1, i2, i3, i4]
    simp only [Option.bind_some]
    rw [put_nI (by omega) (by omega), put_nI (by omega) (by omega), put_nI (by omega) (by omega), put_nI (by omega) (by omega), put_nI (by omega) (by omega)]
    refine Ok.some ⟨a2, fun k k1 k2 k3 => ?_, rfl, ?_, rfl⟩
    · unfold sA
      simp only [if_neg k1, if_neg k2, if_neg k3]
    · show sx.1 32 0 + 1 = _
      rw [a2, nI_1]
  have hM : Ok (Option.bind (Option.bind (mwr sm 6 40 (sm 5 0) p1) (fun r2 => (Option.bind (mwr r2 7 40 (r2 5 0) p2) (fun r3 => (Option.bind (mwr r3 8 40 (r3 5 0) p3) (fun r4 => (Option.bind (mwr r4 9 40 (r4 5 0) p4) (fun r5 => (Option.bind (mwr r5 10 40 (r5 5 0) (1 : Int32)) (fun r6 => (Option.bind (some (mA r6 5 (fun _ => ((r6 5 0) + (1 : Int32))))) (fun r7 => (Option.bind (some (mA r7 11 (fun _ => (0 : Int32)))) (fun r8 => some ((((r8 5 0) - (1 : Int32)), r8)))))))))))))))) (fun r3 => some (r3.1, r3.2))) (fun r => r.1 = nI ax ∧ (∀ k, k ≠ 5 → k ≠ 6 → k ≠ 7 → k ≠ 8 → k ≠ 9 → k ≠ 10 → k ≠ 11 → r.2 k = sm k) ∧ r.2 6 = upd (sm 6) ax p1 ∧ r.2 7 = upd (sm 7) ax p2 ∧ r.2 8 = upd (sm 8) ax p3 ∧ r.2 9 = upd (sm 9) ax p4 ∧ r.2 10 = upd (sm 10) ax 1 ∧ r.2 5 0 = nI (ax + 1) ∧ r.2 11 0 = 0) := by
    refine Ok.bind (P := fun r => r.1 = nI ax ∧ (∀ k, k ≠ 5 → k ≠ 6 → k ≠ 7 → k ≠ 8 → k ≠ 9 → k ≠ 10 → k ≠ 11 → r.2 k = sm k) ∧ r.2 6 = upd (sm 6) ax p1 ∧ r.2 7 = upd (sm 7) ax p2 ∧ r.2 8 = upd (sm 8) ax p3 ∧ r.2 9 = upd (sm 9) ax p4 ∧ r.2 10 = upd (sm 10) ax 1 ∧ r.2 5 0 = nI (ax + 1) ∧ r.2 11 0 = 0) (Ok.bindE (mwr_at b2 (by omega) (by omega)) (Ok.bindE (mwr_at b2 (by omega) (by omega)) (Ok.bindE (mwr_at b2 (by omega) (by omega)) (Ok.bindE (mwr_at b2 (by omega) (by omega)) (Ok.bindE (mwr_at b2 (by omega) (by omega)) (Ok.bindE rfl (Ok.bindE rfl (Ok.some ⟨?_, fun k k1 k2 k3 k4 k5 k6 k7 => ?_, rfl, rfl, rfl, rfl, rfl, ?_, rfl⟩)))))))) (fun r hr => Ok.some hr)
    · show sm 5 0 + 1 - 1 = nI ax
      rw [b2, nI_1, nI_pred]
    · unfold mA
      simp only [if_neg k1, if_neg k2, if_neg k3, if_neg k4, if_neg k5, if_neg k6, if_neg k7]
    · show sm 5 0 + 1 = _
      rw [b2, nI_1]
  obtain ⟨r, er, r1, x1, x2, x3, x4⟩ := hX
  obtain ⟨r', er', r1', m1, m6, m7, m8, m9, m10, m5, m11⟩ := hM
  have f3 : tA t ax s a b c 3 ax = s := by simp [tA]
  have f4 : tA t ax s a b c 4 ax = a := by simp [tA]
  have f5 : tA t ax s a b c 5 ax = b := by simp [tA]
  have f6 : tA t ax s a b c 6 ax = c := by simp [tA]
  have f7 : tA t ax s a b c 7 ax = 1 := by simp [tA]
  have g6 : tv6 (tA t ax s a b c) ax = p4 := by unfold tv6; rw [f3, f6, e4]
  have o6 : ∀ i, i < ax → tv6 (tA t ax s a b c) i = tv6 t i := fun i hi => by unfold tv6; rw [tA_old hi, tA_old hi]
  have o1 : ∀ i, tv1 (tA t ax s a b c) i = tv1 t i := fun i => by unfold tv1; rw [tA_no (by omega), tA_no (by omega)]
  have o2 : ∀ i, tv2 (tA t ax s a b c) i = tv2 t i := fun i => by unfold tv2; rw [tA_no (by omega), tA_no (by omega)]
  refine ⟨nI ax, r.2, r'.2, ?_, ?_, tA t ax s a b c, n, ax + 1, cl, cc, ⟨tA_wf hw (by omega) hs, ⟨?_, x3, fun i hi => ?_, fun i hi => ?_⟩, ⟨?_, m5, fun i hi => ?_, fun i hi => ?_⟩, ?_, ?_, c3, ?_, ?_, d3⟩, Or.inl ⟨x4, m11⟩⟩
  · rw [er, ← r1]
  · rw [er', ← r1']
  · rw [x1 30 (by omega) (by omega) (by omega)]; exact a1
  · rw [x1 2 (by omega) (by omega) (by omega), tA_no (by omega), o1, o2]; exact a3 i hi
  · rw [x2]
    by_cases e : i = ax
    · subst e
      rw [f3, f4, f5, f7, g6]
      refine ⟨?_, ?_, ?_, ?_, ?_⟩
      · rw [pk_un (by omega), pk_un (by omega), pk_un (by omega), pk_un (by omega), pk_us, e1]
      · rw [pk_un (by omega), pk_un (by omega), pk_un (by omega), pk_us, e2]
      · rw [pk_un (by omega), pk_un (by omega), pk_us, e3]
      · rw [pk_un (by omega), pk_us]
      · rw [pk_us]; rfl
    · obtain ⟨r1, r2, r3, r4, r5⟩ := a4 i (by omega)
      rw [tA_old (by omega), tA_old (by omega), tA_old (by omega), tA_old (by omega), o6 i (by omega)]
      refine ⟨?_, ?_, ?_, ?_, ?_⟩
      · rw [pk_un (by omega), pk_un (by omega), pk_un (by omega), pk_un (by omega), pk_un (by omega)]; exact r1
      · rw [pk_un (by omega), pk_un (by omega), pk_un (by omega), pk_un (by omega), pk_un (by omega)]; exact r2
      · rw [pk_un (by omega), pk_un (by omega), pk_un (by omega), pk_un (by omega), pk_un (by omega)]; exact r3
      · rw [pk_un (by omega), pk_un (by omega), pk_un (by omega), pk_un (by omega), pk_un (by omega)]; exact r4
      · rw [pk_un (by omega), pk_un (by omega), pk_un (by omega), pk_un (by omega), pk_un (by omega)]; exact r5
  · rw [m1 0 (by omega) (by omega) (by omega) (by omega) (by omega) (by omega) (by omega)]; exact b1
  · rw [m1 2 (by omega) (by omega) (by omega) (by omega) (by omega) (by omega) (by omega), m1 3 (by omega) (by omega) (by omega) (by omega) (by omega) (by omega) (by omega), m1 4 (by omega) (by omega) (by omega) (by omega) (by omega) (by omega) (by omega), tA_no (by omega), o1, o2]
    exact b3 i hi
  · rw [m6, m7, m8, m9, m10]
    by_cases e : i = ax
    · subst e
      rw [pk_us, pk_us, pk_us, pk_us, pk_us, f3, f4, f5, f7, g6]
      exact ⟨e1, e2, e3, rfl, rfl⟩
    · rw [pk_un e, pk_un e, pk_un e, pk_un e, pk_un e, tA_old (by omega), tA_old (by omega), tA_old (by omega), tA_old (by omega), o6 i (by omega)]
      exact b4 i (by omega)
  · rw [x1 31 (by omega) (by omega) (by omega)]; exact c1
  · rw [m1 1 (by omega) (by omega) (by omega) (by omega) (by omega) (by omega) (by omega)]; exact c2
  · rw [x1 35 (by omega) (by omega) (by omega)]; exact d1
  · rw [m1 12 (by omega) (by omega) (by omega) (by omega) (by omega) (by omega) (by omega)]; exact d2
theorem sim3 : Sim_3 Inv := by
  rintro sx sm v1 v2 ⟨t, n, ax, cl, cc, h, hd⟩
  have hI : Inv sx sm := ⟨t, n, ax, cl, cc, h, hd⟩
  unfold f_X6_say f_X7_say
  rcases argN h v1 with ⟨a, ha, rfl, e1, e2⟩ | ⟨e1, e2⟩
  · rw [e1, e2, if_neg one0, if_neg one0]
    rcases argN h v2 with ⟨b, hb, rfl, e3, e4⟩ | ⟨e3, e4⟩
    · rw [e3, e4, if_neg one0, if_neg one0]
      exact addA_sim h hI (s := 0) (a := a) (b := b) (c := 0) (Or.inl ⟨rfl, ha, hb⟩) rfl rfl rfl rfl
    · rw [e3, e4, if_pos zero0, if_pos zero0]
      exact ⟨_, _, _, rfl, rfl, hI⟩
  · rw [e1, e2, if_pos zero0, if_pos zero0]
    exact ⟨_, _, _, rfl, rfl, hI⟩
theorem sim4 : Sim_4 Inv := by
  rintro sx sm v1 v2 ⟨t, n, ax, cl, cc, h, hd⟩
  have hI : Inv sx sm := ⟨t, n, ax, cl, cc, h, hd⟩
  unfold f_X6_role f_X7_role
  rcases argR v1 with ⟨a, ha, rfl, e1, e2⟩ | ⟨e1, e2⟩
  · rw [e1, e2, if_neg one0, if_neg one0]
    rcases argR v2 with ⟨b, hb, rfl, e3, e4⟩ | ⟨e3, e4⟩
    · rw [e3, e4, if_neg one0, if_neg one0]
      exact addA_sim h hI (s := 1) (a := a) (b := b) (c := 0) (Or.inr (Or.inl ⟨rfl, ha, hb⟩)) rfl rfl rfl rfl
    · rw [e3, e4, if_pos zero0, if_pos zero0]
      exact ⟨_, _, _, rfl, rfl, hI⟩
  · rw [e1, e2, if_pos zero0, if_pos zero0]
    exact ⟨_, _, _, rfl, rfl, hI⟩
theorem sim5 : Sim_5 Inv := by
  rintro sx sm v1 v2 v3 ⟨t, n, ax, cl, cc, h, hd⟩
  have hI : Inv sx sm := ⟨t, n, ax, cl, cc, h, hd⟩
  unfold f_X6_chain f_X7_chain
  rcases argR v1 with ⟨a, ha, rfl, e1, e2⟩ | ⟨e1, e2⟩
  · rw [e1, e2, if_neg one0, if_neg one0]
    rcases argR v2 with ⟨b, hb, rfl, e3, e4⟩ | ⟨e3, e4⟩
    · rw [e3, e4, if_neg one0, if_neg one0]
      rcases argR v3 with ⟨c, hc, rfl, e5, e6⟩ | ⟨e5, e6⟩
      · rw [e5, e6, if_neg one0, if_neg one0]
        exact addA_sim h hI (s := 2) (a := a) (b := b) (c := c) (Or.inr (Or.inr ⟨rfl, ha, hb, hc⟩)) rfl rfl rfl rfl
      · rw [e5, e6, if_pos zero0, if_pos zero0]
        exact ⟨_, _, _, rfl, rfl, hI⟩
    · rw [e3, e4, if_pos zero0, if_pos zero0]
      exact ⟨_, _, _, rfl, rfl, hI⟩
  · rw [e1, e2, if_pos zero0, if_pos zero0]
    exact ⟨_, _, _, rfl, rfl, hI⟩
end MAKE3
