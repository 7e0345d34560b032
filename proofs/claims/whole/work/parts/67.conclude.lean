/-! the invariant; conclude -/
def Done (t : Th) (n ax : Nat) (sx : XS) (sm : MS) : Prop := ∃ (K : Nat) (pl num rn cd : Nat → Nat) (rd : Nat) (U : Nat → Nat → Bool) (ch : Nat → Nat → Nat → Nat), CS t n K pl num cd ∧ Closed num t n ax U ch pl K ∧ XC sx K pl num rn cd rd ∧ MC sm n K pl num rn cd rd ∧ XH sx.1 n (hP num U) (hG num U t n n) ∧ MH sm n (hT num) (hP num U) (hG num U t n n)
def Core (t : Th) (n ax cl cc : Nat) (sx : XS) (sm : MS) : Prop := Wf t n ax ∧ XN sx.1 t n ax ∧ MN sm t n ax ∧ sx.1 31 0 = nI cl ∧ sm 1 0 = nI cl ∧ cl ≤ 10 ∧ sx.1 35 0 = nI cc ∧ sm 12 0 = nI cc ∧ cc ≤ 20
def Inv (sx : XS) (sm : MS) : Prop := ∃ (t : Th) (n ax cl cc : Nat), Core t n ax cl cc sx sm ∧ ((sx.1 36 0 = 0 ∧ sm 11 0 = 0) ∨ (sx.1 36 0 = 1 ∧ sm 11 0 = 1 ∧ Done t n ax sx sm))
section CONCLUDE
variable {t : Th} {n ax : Nat} {U : Nat → Nat → Bool} {ch : Nat → Nat → Nat → Nat}
theorem beg_eq (hw : Wf t n ax) {K : Nat} {pl num cd : Nat → Nat} (hG : CS t n K pl num cd) (hC : Closed num t n ax U ch pl K) {x : Nat} (hx : x < n) : Beg t pl K x ↔ num (101 * x) ≠ 0 := by
  have h20 := hw.n20
  constructor
  · intro hb h0
    rcases hb with h | ⟨k, hk, h1, h2⟩
    · exact hC (101 * x) (cod 0 0 0 0) (Or.inl ⟨x, hx, h, h0, Or.inl ⟨rfl, rfl⟩⟩)
    · subst h2
      exact hC (101 * ob (pl k)) (cod 0 (k + 1) 0 0) (Or.inr ⟨k, hk, Or.inr ⟨h1, Or.inl ⟨h0, Or.inl ⟨rfl, rfl⟩⟩⟩⟩)
  · intro h
    obtain ⟨l, hl, en, el⟩ := pl_num hG.1 (p := 101 * x) (by omega) h
    have := hG.2.2.2 l hl
    rw [el, show sb (101 * x) = x by unfold sb; omega] at this
    exact this
theorem xstart (hw : Wf t n ax) {sx : XS} (hN : XN sx.1 t n ax) : Ok (f_X1_clear sx) (fun z => (∀ k, k ≠ 9 → k ≠ 33 → k ≠ 34 → z.1 k = sx.1 k) ∧ (∀ k, z.2 k = sx.2 k) ∧ (∀ p, p < 2000 → z.1 9 p = -1) ∧ z.1 33 0 = 0 ∧ z.1 34 0 = 0) := by
  unfold f_X1_clear
  refine Ok.bind (P := fun z => (∀ k, k ≠ 9 → z.1 k = sx.1 k) ∧ (∀ k, z.2 k = sx.2 k) ∧ (∀ p, p < 2000 → z.1 9 p = -1)) ((fill_ok 2000 (by omega) (sx.1 9) (-1)).map (fun f2 h => ⟨fun k hk => ?_, fun _ => rfl, h⟩)) ?_
  · show (if k = 9 then _ else sx.1 k) = _
    rw [if_neg hk]
  rintro z ⟨h1, h2, h3⟩
  refine Ok.bindE rfl (Ok.bindE rfl (Ok.some ⟨fun k k1 k2 k3 => ?_, h2, h3, rfl, rfl⟩))
  show (if k = 34 then _ else if k = 33 then _ else z.1 k) = _
  rw [if_neg k3, if_neg k2]
  exact h1 k k1
theorem mfill_ok {m2 : MS} {Q : Int32 × MS → Prop} (hk : ∀ z : MS, (∀ k, k ≠ 13 → k ≠ 14 → k ≠ 16 → k ≠ 17 → z k = m2 k) → z 13 0 = 0 → z 14 0 = 0 → (∀ j, j < 784 → z 16 j = -1) → (∀ j, j < 3136 → z 17 j = -1) → Ok (loopC (fun v => b_X7_conclude_82 v.1 v.2) ((1 : Int32), z)) Q) :
    Ok (loopC (fun v => b_X7_conclude_38 v.1 v.2) ((0 : Int32), mA (mA m2 13 (fun _ => 0)) 14 (fun _ => 0))) Q := by
  refine Ok.for (f := fun v => b_X7_conclude_38 v.1 v.2) (i := 0) 784 (fun i z => (∀ k, k ≠ 13 → k ≠ 14 → k ≠ 16 → k ≠ 17 → z k = m2 k) ∧ z 13 0 = 0 ∧ z 14 0 = 0 ∧ ∀ j, j < i → z 16 j = -1) ?_ ?_ (Nat.zero_le _) ⟨fun k h1 h2 _ _ => by unfold mA; simp only [if_neg h1, if_neg h2], rfl, rfl, fun j hj => absurd hj (Nat.not_lt_zero j)⟩
  · rintro i z hi ⟨h1, h2, h3, h4⟩
    show Ok (b_X7_conclude_38 (nI i) z) _
    unfold b_X7_conclude_38
    refine Ok.ifn (show ¬ (784 : Int32) ≤ nI i from nI_ge (b := 784) hi (by omega)) (Ok.bindE (mwr_nI hi (by omega)) (Ok.go ⟨nI_1 i, fun k k1 k2 k3 k4 => ?_, h2, h3, fun j hj => ?_⟩))
    · show (if k = 16 then _ else z k) = _
      rw [if_neg k3]
      exact h1 k k1 k2 k3 k4
    · show upd (z 16) i (-1) j = -1
      by_cases e : j = i
      · subst e; exact pk_us
      · rw [pk_un e]; exact h4 j (by omega)
  rintro z ⟨h1, h2, h3, h4⟩
  show Ok (b_X7_conclude_38 (nI 784) z) _
  unfold b_X7_conclude_38
  refine Ok.ifp (show (784 : Int32) ≤ nI 784 from nI_le (a := 784) (Nat.le_refl _) (by omega)) (Ok.inr ?_)
  refine Ok.for (f := fun v => b_X7_conclude_60 v.1 v.2) (i := 0) 3136 (fun i z => (∀ k, k ≠ 13 → k ≠ 14 → k ≠ 16 → k ≠ 17 → z k = m2 k) ∧ z 13 0 = 0 ∧ z 14 0 = 0 ∧ (∀ j, j < 784 → z 16 j = -1) ∧ ∀ j, j < i → z 17 j = -1) ?_ ?_ (Nat.zero_le _) ⟨h1, h2, h3, h4, fun j hj => absurd hj (Nat.not_lt_zero j)⟩
  · rintro i z hi ⟨h1, h2, h3, h4, h5⟩
    show Ok (b_X7_conclude_60 (nI i) z) _
    unfold b_X7_conclude_60
    refine Ok.ifn (show ¬ (3136 : Int32) ≤ nI i from nI_ge (b := 3136) hi (by omega)) (Ok.bindE (mwr_nI hi (by omega)) (Ok.go ⟨nI_1 i, fun k k1 k2 k3 k4 => ?_, h2, h3, h4, fun j hj => ?_⟩))
    · show (if k = 17 then _ else z k) = _
      rw [if_neg k4]
      exact h1 k k1 k2 k3 k4
    · show upd (z 17) i (-1) j = -1
      by_cases e : j = i
      · subst e; exact pk_us
      · rw [pk_un e]; exact h5 j (by omega)
  rintro z ⟨h1, h2, h3, h4, h5⟩
  show Ok (b_X7_conclude_60 (nI 3136) z) _
  unfold b_X7_conclude_60
  exact Ok.ifp (show (3136 : Int32) ≤ nI 3136 from nI_le (a := 3136) (Nat.le_refl _) (by omega)) (Ok.inr (hk z h1 h2 h3 h4 h5))
theorem sim9 : Sim_9 Inv := by
  rintro sx sm ⟨t, n, ax, cl, cc, ⟨hw, hN, hMN, hc1, hc2, hc3, hd1, hd2, hd3⟩, hdone⟩
  have h20 := hw.n20
  by_cases hcc : cc = 20
  · subst hcc
    refine ⟨-103, sx, sm, ?_, ?_, t, n, ax, cl, 20, ⟨hw, hN, hMN, hc1, hc2, hc3, hd1, hd2, hd3⟩, hdone⟩
    · unfold f_X6_conclude
      rw [hd1, if_neg (by decide)]
    · unfold f_X7_conclude
      rw [hd2, if_pos (show nI 20 = (20 : Int32) from rfl)]
  -- the class begins
  generalize hs1 : sA sx 35 (fun _ => sx.1 35 0 + 1) = s1
  have f1 : (∀ k, k ≠ 35 → s1.1 k = sx.1 k) ∧ s1.1 35 0 = nI (cc + 1) := by
    subst hs1
    refine ⟨fun k hk => ?_, ?_⟩
    · show (if k = 35 then _ else sx.1 k) = _
      rw [if_neg hk]
    · show sx.1 35 0 + 1 = _
      rw [hd1, nI_1]
  have hN1 : XN s1.1 t n ax := by
    obtain ⟨a1, a2, a3, a4⟩ := hN
    exact ⟨by rw [f1.1 30 (by omega)]; exact a1, by rw [f1.1 32 (by omega)]; exact a2, fun i hi => by rw [f1.1 2 (by omega)]; exact a3 i hi, fun a ha => by rw [f1.1 4 (by omega)]; exact a4 a ha⟩
  obtain ⟨s2, e2, g1, g2, g3, g4, g5⟩ := xstart hw hN1
  have hN2 : XN s2.1 t n ax := by
    obtain ⟨a1, a2, a3, a4⟩ := hN1
    exact ⟨by rw [g1 30 (by omega) (by omega) (by omega)]; exact a1, by rw [g1 32 (by omega) (by omega) (by omega)]; exact a2, fun i hi => by rw [g1 2 (by omega) (by omega) (by omega)]; exact a3 i hi, fun a ha => by rw [g1 4 (by omega) (by omega) (by omega)]; exact a4 a ha⟩
  obtain ⟨s3, e3, hf3, hU3, ch, hCh3, hCS⟩ := learn_ok hw hN2
  have hN3 := hf3.xn hN2
  have hX3 : XC s3 0 (fun _ => 0) (fun _ => 0) (fun _ => 0) (fun _ => 0) 0 := by
    refine ⟨?_, ?_, fun k hk => absurd hk (Nat.not_lt_zero k), fun p hp => ⟨?_, Nat.zero_le _⟩⟩
    · rw [hf3.1 33 (by omega) (by omega)]; exact g4
    · rw [hf3.1 34 (by omega) (by omega)]; exact g5
    · rw [hf3.1 9 (by omega) (by omega), g3 p hp]; exact nO_0.symm
  -- the model begins
  generalize hm1 : mA sm 12 (fun _ => sm 12 0 + 1) = m1
  have k1 : (∀ k, k ≠ 12 → m1 k = sm k) ∧ m1 12 0 = nI (cc + 1) := by
    subst hm1
    refine ⟨fun k hk => ?_, ?_⟩
    · unfold mA
      rw [if_neg hk]
    · show sm 12 0 + 1 = _
      rw [hd2, nI_1]
  have hMN1 : MN m1 t n ax := by
    obtain ⟨a1, a2, a3, a4⟩ := hMN
    exact ⟨by rw [k1.1 0 (by omega)]; exact a1, by rw [k1.1 5 (by omega)]; exact a2, fun i hi => by rw [k1.1 2 (by omega), k1.1 3 (by omega), k1.1 4 (by omega)]; exact a3 i hi, fun a ha => by rw [k1.1 6 (by omega), k1.1 7 (by omega), k1.1 8 (by omega), k1.1 9 (by omega), k1.1 10 (by omega)]; exact a4 a ha⟩
  obtain ⟨m2, em2, hf2, hMU2⟩ := close_ok hw hMN1
  have hMN2 := hf2.mn hMN1
  have hMN3 : ∀ z : MS, (∀ k, k ≠ 13 → k ≠ 14 → k ≠ 16 → k ≠ 17 → z k = m2 k) → MN z t n ax := fun z a => by
    obtain ⟨a1, a2, a3, a4⟩ := hMN2
    exact ⟨by rw [a 0 (by omega) (by omega) (by omega) (by omega)]; exact a1, by rw [a 5 (by omega) (by omega) (by omega) (by omega)]; exact a2, fun i hi => by rw [a 2 (by omega) (by omega) (by omega) (by omega), a 3 (by omega) (by omega) (by omega) (by omega), a 4 (by omega) (by omega) (by omega) (by omega)]; exact a3 i hi, fun i hi => by rw [a 6 (by omega) (by omega) (by omega) (by omega), a 7 (by omega) (by omega) (by omega) (by omega), a 8 (by omega) (by omega) (by omega) (by omega), a 9 (by omega) (by omega) (by omega) (by omega), a 10 (by omega) (by omega) (by omega) (by omega)]; exact a4 i hi⟩
  have hend : Ok (loopC (fun v => b_X7_conclude_38 v.1 v.2) ((0 : Int32), mA (mA m2 13 (fun _ => 0)) 14 (fun _ => 0))) (fun r => ∃ sx', Option.bind (f_X5_concludeAll s1) (fun r3 => Option.bind (f_X2_build r3) (fun r4 => Option.bind (some (sA r4 36 (fun _ => (1 : Int32)))) (fun r5 => some (r5.1 33 0, r5)))) = some (r.1, sx') ∧ Inv sx' r.2) := by
    refine mfill_ok (m2 := m2) (fun z a1 a2 a3 a4 a5 => ?_)
    have hMNz := hMN3 z a1
    have hMUz : MU z (uT t ax) := fun r s hr hs => by rw [a1 26 (by omega) (by omega) (by omega) (by omega)]; exact hMU2 r s hr hs
    have hMz : MC z n 0 (fun _ => 0) (fun _ => 0) (fun _ => 0) (fun _ => 0) 0 := by
      refine ⟨a2, a3, fun k hk => absurd hk (Nat.not_lt_zero k), fun x r y hx hr hy => ?_⟩
      show z (tk r) (mq x r y) = -1
      unfold tk mq
      by_cases q : r = 0
      · rw [if_pos q, if_pos q]; exact a4 _ (by omega)
      · rw [if_neg q, if_neg q]; exact a5 _ (by omega)
    have hG0 : CS t n 0 (fun _ => 0) (fun _ => 0) (fun _ => 0) := by
      refine ⟨⟨by omega, fun k hk => absurd hk (Nat.not_lt_zero k), fun p hp => ⟨Nat.le_refl _, fun h => absurd rfl h⟩⟩, fun k hk => absurd hk (Nat.not_lt_zero k), ?_, fun k hk => absurd hk (Nat.not_lt_zero k)⟩
      exact (fb_ct_zero.mpr (fun k _ => rfl)).symm
    obtain ⟨K, pl, num, rn, cd, rd, s4, m4, j1, j2, j3, j4, j5, j6, j7, j8⟩ := joint hw hCS 2000 0 (fun _ => 0) (fun _ => 0) (fun _ => 0) (fun _ => 0) 0 s3 z (by omega) hG0 (Nat.le_refl _) hN3 hU3 hCh3 hX3 hMNz hMUz hMz
    have hN4 := hN3.fr j4
    have hU4 := hU3.fr j4
    obtain ⟨s5, e5, hf5, hH5⟩ := xbuild_ok hw j1.1 hN4 j5.2.2.2 hU4
    have hN5 := hf5.xn hN4
    rw [j6]
    refine Ok.now ?_
    show Ok (b_X7_conclude_82 0 m4) _
    unfold b_X7_conclude_82
    refine Ok.ifp rfl (Ok.bindE rfl ?_)
    have hMN4 := hMNz.fr j7
    have hMU4 := hMUz.fr j7
    generalize hm5 : mA m4 11 (fun _ => (1 : Int32)) = m5
    have k5 : (∀ k, k ≠ 11 → m5 k = m4 k) ∧ m5 11 0 = 1 := by
      subst hm5
      refine ⟨fun k hk => ?_, rfl⟩
      unfold mA
      rw [if_neg hk]
    have hMN5 : MN m5 t n ax := by
      obtain ⟨a1, a2, a3, a4⟩ := hMN4
      exact ⟨by rw [k5.1 0 (by omega)]; exact a1, by rw [k5.1 5 (by omega)]; exact a2, fun i hi => by rw [k5.1 2 (by omega), k5.1 3 (by omega), k5.1 4 (by omega)]; exact a3 i hi, fun a ha => by rw [k5.1 6 (by omega), k5.1 7 (by omega), k5.1 8 (by omega), k5.1 9 (by omega), k5.1 10 (by omega)]; exact a4 a ha⟩
    have hMU5 : MU m5 (uT t ax) := fun r s hr hs => by rw [k5.1 26 (by omega)]; exact hMU4 r s hr hs
    have hM5 : MC m5 n K pl num rn cd rd := by
      obtain ⟨y1, y2, y3, y4⟩ := j8
      refine ⟨by rw [k5.1 13 (by omega)]; exact y1, by rw [k5.1 14 (by omega)]; exact y2, fun k hk => (y3 k hk).of (fun i hi => by rw [k5.1 15 (by omega)]), fun x r y hx hr hy => ?_⟩
      have htk : tk r = 16 ∨ tk r = 17 := by unfold tk; split <;> simp
      rw [k5.1 (tk r) (by omega)]
      exact y4 x r y hx hr hy
    refine Ok.bind (mhouse_ok hw (hM5.bc hMN5 hMU5) j1.1 (fun x hx => beg_eq hw j1 j2 hx)) ?_
    rintro m6 ⟨hf6, hH6⟩
    have hM6 : MC m6 n K pl num rn cd rd := by
      obtain ⟨y1, y2, y3, y4⟩ := hM5
      refine ⟨by rw [hf6 13 (by omega)]; exact y1, by rw [hf6 14 (by omega)]; exact y2, fun k hk => (y3 k hk).of (fun i hi => by rw [hf6 15 (by omega)]), fun x r y hx hr hy => ?_⟩
      have htk : tk r = 16 ∨ tk r = 17 := by unfold tk; split <;> simp
      rw [hf6 (tk r) (by omega)]
      exact y4 x r y hx hr hy
    have hMN6 : MN m6 t n ax := by
      obtain ⟨a1, a2, a3, a4⟩ := hMN5
      exact ⟨by rw [hf6 0 (by omega)]; exact a1, by rw [hf6 5 (by omega)]; exact a2, fun i hi => by rw [hf6 2 (by omega), hf6 3 (by omega), hf6 4 (by omega)]; exact a3 i hi, fun a ha => by rw [hf6 6 (by omega), hf6 7 (by omega), hf6 8 (by omega), hf6 9 (by omega), hf6 10 (by omega)]; exact a4 a ha⟩
    have low : ∀ k, k < 11 → m6 k = sm k := by
      intro k hk
      rw [hf6 k (by omega), k5.1 k (by omega), j7.1 k (by omega), a1 k (by omega) (by omega) (by omega) (by omega), hf2 k (by omega), k1.1 k (by omega)]
    generalize hs6 : sA s5 36 (fun _ => (1 : Int32)) = s6
    have f6 : (∀ k, k ≠ 36 → s6.1 k = s5.1 k) ∧ s6.1 36 0 = 1 ∧ s6.2 = s5.2 := by
      subst hs6
      refine ⟨fun k hk => ?_, rfl, rfl⟩
      show (if k = 36 then _ else s5.1 k) = _
      rw [if_neg hk]
    have e33 : s6.1 33 0 = nI K := by rw [f6.1 33 (by omega), hf5.1 33 (by omega) (by omega)]; exact j5.1
    have eX : f_X5_concludeAll s1 = some s4 := by
      unfold f_X5_concludeAll
      rw [e2, Option.bind_some, e3, Option.bind_some]
      exact j3
    refine Ok.end ⟨s6, ?_, t, n, ax, cl, cc + 1, ⟨hw, ?_, hMN6, ?_, ?_, hc3, ?_, ?_, by omega⟩, Or.inr ⟨f6.2.1, ?_, K, pl, num, rn, cd, rd, uT t ax, ch, j1, j2, ?_, hM6, ?_, hH6⟩⟩
    · rw [eX, Option.bind_some, e5, Option.bind_some, Option.bind_some, hs6, e33, hM6.1]
    · obtain ⟨a1, a2, a3, a4⟩ := hN5
      exact ⟨by rw [f6.1 30 (by omega)]; exact a1, by rw [f6.1 32 (by omega)]; exact a2, fun i hi => by rw [f6.1 2 (by omega)]; exact a3 i hi, fun a ha => by rw [f6.1 4 (by omega)]; exact a4 a ha⟩
    · rw [f6.1 31 (by omega), hf5.1 31 (by omega) (by omega), j4.1 31 (by omega) (by omega) (by omega) (by omega) (by omega), hf3.1 31 (by omega) (by omega), g1 31 (by omega) (by omega) (by omega), f1.1 31 (by omega)]
      exact hc1
    · show m6 1 0 = _
      rw [low 1 (by omega)]; exact hc2
    · rw [f6.1 35 (by omega), hf5.1 35 (by omega) (by omega), j4.1 35 (by omega) (by omega) (by omega) (by omega) (by omega), hf3.1 35 (by omega) (by omega), g1 35 (by omega) (by omega) (by omega)]
      exact f1.2
    · show m6 12 0 = _
      rw [hf6 12 (by omega), k5.1 12 (by omega), j7.1 12 (by omega), a1 12 (by omega) (by omega) (by omega) (by omega), hf2 12 (by omega)]
      exact k1.2
    · show m6 11 0 = _
      rw [hf6 11 (by omega)]; exact k5.2
    · obtain ⟨y1, y2, y3, y4⟩ := j5
      refine ⟨e33, ?_, fun k hk => ?_, fun p hp => ?_⟩
      · rw [f6.1 34 (by omega), hf5.1 34 (by omega) (by omega)]; exact y2
      · rw [f6.1 10 (by omega), f6.1 11 (by omega), f6.2.2, hf5.1 10 (by omega) (by omega), hf5.1 11 (by omega) (by omega), hf5.2 12]; exact y3 k hk
      · rw [f6.1 9 (by omega), hf5.1 9 (by omega) (by omega)]; exact y4 p hp
    · refine ⟨fun j hj => ?_, fun r a hr ha => ?_⟩
      · rw [f6.1 17 (by omega)]; exact hH5.1 j hj
      · rw [f6.1 18 (by omega)]; exact hH5.2 r a hr ha
  obtain ⟨r, er, sx', ex, hInv⟩ := hend
  refine ⟨r.1, sx', r.2, ?_, ?_, hInv⟩
  · unfold f_X6_conclude
    rw [if_pos (show sx.1 35 0 < (20 : Int32) from by rw [hd1]; exact (nI_ltI (b := 20) (by omega) (by omega)).mpr (by omega)), Option.bind_some, hs1]
    exact ex
  · unfold f_X7_conclude
    rw [if_neg (show ¬ sm 12 0 = (20 : Int32) from by rw [hd2]; exact fun w => hcc ((nI_eq (b := 20) (by omega) (by omega)).mp w)), Option.bind_some, hm1, em2, Option.bind_some, Option.bind_some, Option.bind_some]
    exact er
end CONCLUDE
