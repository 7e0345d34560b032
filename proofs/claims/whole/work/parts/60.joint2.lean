/-! all rounds, on both sides -/
section JOINT2
variable {t : Th} {n ax : Nat} {U : Nat → Nat → Bool} {ch : Nat → Nat → Nat → Nat}
theorem XN.fr {x z : XS} (h : XN x.1 t n ax) (f : FrX x z) : XN z.1 t n ax := by
  obtain ⟨h1, h2, h3, h4⟩ := h
  refine ⟨?_, ?_, fun i hi => ?_, fun a ha => ?_⟩
  · rw [f.1 30 (by omega) (by omega) (by omega) (by omega) (by omega)]; exact h1
  · rw [f.1 32 (by omega) (by omega) (by omega) (by omega) (by omega)]; exact h2
  · rw [f.1 2 (by omega) (by omega) (by omega) (by omega) (by omega)]; exact h3 i hi
  · rw [f.1 4 (by omega) (by omega) (by omega) (by omega) (by omega)]; exact h4 a ha
theorem XU.fr {x z : XS} (h : XU x.1 U) (f : FrX x z) : XU z.1 U := fun r s hr hs => by rw [f.1 6 (by omega) (by omega) (by omega) (by omega) (by omega)]; exact h r s hr hs
theorem XCh.fr {x z : XS} (h : XCh x.1 ch) (f : FrX x z) : XCh z.1 ch := fun r s u hr hs hu => by rw [f.1 7 (by omega) (by omega) (by omega) (by omega) (by omega)]; exact h r s u hr hs hu
theorem MN.fr {m z : MS} (h : MN m t n ax) (f : FrR m z) : MN z t n ax := by
  obtain ⟨h1, h2, h3, h4⟩ := h
  refine ⟨?_, ?_, fun i hi => ?_, fun a ha => ?_⟩
  · rw [f.1 0 (by omega)]; exact h1
  · rw [f.1 5 (by omega)]; exact h2
  · rw [f.1 2 (by omega), f.1 3 (by omega), f.1 4 (by omega)]; exact h3 i hi
  · rw [f.1 6 (by omega), f.1 7 (by omega), f.1 8 (by omega), f.1 9 (by omega), f.1 10 (by omega)]; exact h4 a ha
theorem MU.fr {m z : MS} (h : MU m U) (f : FrR m z) : MU z U := fun r s hr hs => by rw [f.2]; exact h r s hr hs
theorem xround1 {sx : XS} {K rd : Nat} {pl num rn cd tv pl' num' rn' cd' : Nat → Nat} (hw : Wf t n ax) (hN : XN sx.1 t n ax) (hU : XU sx.1 U) (hC : XCh sx.1 ch) (hG : CS t n K pl num cd) (hX : XC sx K pl num rn cd rd) (hrd : rd < 2000)
    (hS : ∀ p, LT (SX num t n ax U ch pl K) p (tv p)) (hct : K + cn tv 2000 ≤ 2000) (hG' : CS t n (K + cn tv 2000) pl' num' cd')
    (g1 : ∀ k, k < K → pl' k = pl k ∧ rn' k = rn k ∧ cd' k = cd k) (g2 : ∀ q, q < 2000 → tv q ≠ 0 → pl' (K + cn tv q) = q ∧ rn' (K + cn tv q) = rd + 1 ∧ cd' (K + cn tv q) = tv q - 1)
    (g3 : ∀ q, num' q = if tv q ≠ 0 then K + cn tv q + 1 else num q) (g4 : ∀ k, K ≤ k → k < K + cn tv 2000 → ∃ q, q < 2000 ∧ tv q ≠ 0 ∧ k = K + cn tv q) :
    Ok (b_X5_concludeAll_22 1 (nI (rd + 1)) sx) (fun r => ∃ z, r = Sum.inl ((if cn tv 2000 = 0 then 0 else 1), nI (rd + 2), z) ∧ FrX sx z ∧ XC z (K + cn tv 2000) pl' num' rn' cd' (if cn tv 2000 = 0 then rd else rd + 1)) := by
  have hP := hG.1
  obtain ⟨x1, x2, x3, x4⟩ := hX
  unfold b_X5_concludeAll_22
  refine Ok.ifn (show ¬ nI 2000 < nI (rd + 1) from fun w => by have := (nI_ltI (by omega) (by omega)).mp w; omega) (Ok.ifn (by decide) ?_)
  refine xoffers_ok hN hw x4 hU hC hP.1 x1 (fun k hk => ⟨(x3 k hk).1, (hP.2.1 k hk).1, (hP.2.1 k hk).2.1⟩) (fun f hT => ?_)
  have hf : ∀ p, p < 2000 → (sL sx 15 f).2 15 p = XV (tv p) ∧ tv p ≤ NOC := by
    intro p hp
    obtain ⟨v, h1, h2⟩ := hT.2 p hp
    have e := h2.one (hS p)
    subst e
    exact ⟨h1, h2.lt (hT.1 p)⟩
  refine (addOff_ok (sx := sL sx 15 f) hf x1 hct (rd + 1)).mono ?_
  rintro r ⟨r1, a1, a2, a3, a4, a5, a6, a7⟩
  refine ⟨r.2, by rw [r1, nI_1], ⟨fun k b1 b2 b3 b4 b5 => a1 k b1 b2 b3 b4 b5, fun k b1 b2 => ?_⟩, a3, ?_, fun k hk => ?_, fun p hp => ⟨?_, ?_⟩⟩
  · rw [a2 k b1]
    show (if k = 15 then _ else sx.2 k) = _
    rw [if_neg b2]
  · rw [a4]
    by_cases q : cn tv 2000 = 0
    · rw [if_pos q, if_pos q]; exact x2
    · rw [if_neg q, if_neg q]
  · by_cases q : k < K
    · obtain ⟨c1, c2, c3⟩ := a6 k q
      obtain ⟨d1, d2, d3⟩ := g1 k q
      obtain ⟨e1, e2, e3⟩ := x3 k q
      rw [d1, d2, d3]
      exact ⟨c1.trans e1, c2.trans e2, c3.trans e3⟩
    · obtain ⟨p, h1, h2, rfl⟩ := g4 k (by omega) hk
      obtain ⟨d1, d2, d3⟩ := g2 p h1 h2
      rw [d1, d2, d3]
      exact a7 p h1 h2
  · rw [a5 p hp, g3]
    by_cases q : tv p = 0
    · rw [if_neg (fun w => w.2 q), if_neg (fun w => w q)]
      exact (x4 p hp).1
    · rw [if_pos ⟨hp, q⟩, if_pos q, nO_s]
  · have := (hG'.1.2.2 p hp).1
    omega
theorem mround1 {m : MS} {K rd : Nat} {pl num rn cd tv pl' num' rn' cd' : Nat → Nat} (hw : Wf t n ax) (hN : MN m t n ax) (hU : MU m U) (hC : ChS t ax U ch) (hG : CS t n K pl num cd) (hM : MC m n K pl num rn cd rd)
    (hS : ∀ p, LT (SX num t n ax U ch pl K) p (tv p)) (hct : K + cn tv 2000 ≤ 2000) (hat : ∀ p, tv p ≠ 0 → num p = 0 ∧ p < 2000 ∧ sb p < n ∧ ob p < n)
    (g1 : ∀ k, k < K → pl' k = pl k ∧ rn' k = rn k ∧ cd' k = cd k) (g2 : ∀ q, q < 2000 → tv q ≠ 0 → pl' (K + cn tv q) = q ∧ rn' (K + cn tv q) = rd + 1 ∧ cd' (K + cn tv q) = tv q - 1)
    (g3 : ∀ q, num' q = if tv q ≠ 0 then K + cn tv q + 1 else num q) (g4 : ∀ k, K ≤ k → k < K + cn tv 2000 → ∃ q, q < 2000 ∧ tv q ≠ 0 ∧ k = K + cn tv q) :
    Ok (b_X7_conclude_82 1 m) (fun r => ∃ z, r = Sum.inl ((if cn tv 2000 = 0 then 0 else 1), z) ∧ FrR m z ∧ MC z n (K + cn tv 2000) pl' num' rn' cd' (if cn tv 2000 = 0 then rd else rd + 1)) := by
  have hP := hG.1
  unfold b_X7_conclude_82
  refine Ok.ifn (by decide) (Ok.bind (mround_ok (tv := tv) hw (MC.bc hN hU hM) hP hM.2.1 (fun x r y _ _ _ => (hS _).two (fun c h => xm hw hP hC h) (fun c h => mx hw hP hC h)) (fun p _ h => (hat p h).2.2) hct) ?_)
  obtain ⟨x1, x2, x3, x4⟩ := hM
  rintro r ⟨r1, a1, a2, a3, a4, a5, a6, a7⟩
  refine Ok.some ⟨r.2, by rw [r1], ⟨a1, a2⟩, a3, a4, fun k hk => ?_, fun x r y hx hr hy => ?_⟩
  · by_cases q : k < K
    · obtain ⟨d1, d2, d3⟩ := g1 k q
      rw [d1, d2, d3]
      exact (x3 k q).of (fun i hi => a5 _ (by omega))
    · obtain ⟨p, h1, h2, rfl⟩ := g4 k (by omega) hk
      obtain ⟨d1, d2, d3⟩ := g2 p h1 h2
      rw [d1, d2, d3]
      exact a6 p h1 h2
  · rw [a7 x r y hx hr hy, g3]
    by_cases q : tv (100 * x + 20 * r + y) = 0
    · rw [if_neg (fun w => w q), if_neg (fun w => w q)]
      exact x4 x r y hx hr hy
    · rw [if_pos q, if_pos q, nO_s]
def Closed (num : Nat → Nat) (t : Th) (n ax : Nat) (U : Nat → Nat → Bool) (ch : Nat → Nat → Nat → Nat) (pl : Nat → Nat) (K : Nat) : Prop := ∀ p c, ¬ SX num t n ax U ch pl K p c
theorem joint_stop {sx : XS} {m : MS} {K rd : Nat} {pl num rn cd tv : Nat → Nat} (hw : Wf t n ax) (hCs : ChS t ax U ch) (hG : CS t n K pl num cd) (hrd : rd ≤ K) (hN : XN sx.1 t n ax) (hU : XU sx.1 U) (hC : XCh sx.1 ch) (hX : XC sx K pl num rn cd rd) (hMN : MN m t n ax) (hMU : MU m U) (hM : MC m n K pl num rn cd rd)
    (hS : ∀ p, LT (SX num t n ax U ch pl K) p (tv p)) (h0 : cn tv 2000 = 0) : Closed num t n ax U ch pl K ∧ ∃ (sx' : XS) (m' : MS),
      loopC (fun v => b_X5_concludeAll_22 v.1 v.2.1 v.2.2) ((1 : Int32), nI (rd + 1), sx) = some sx' ∧ FrX sx sx' ∧ XC sx' K pl num rn cd rd ∧
      loopC (fun v => b_X7_conclude_82 v.1 v.2) ((1 : Int32), m) = loopC (fun v => b_X7_conclude_82 v.1 v.2) ((0 : Int32), m') ∧ FrR m m' ∧ MC m' n K pl num rn cd rd := by
  obtain ⟨hct, hat, pl', num', rn', cd', hG', g1, g2, g3, g4⟩ := grow (rd := rd + 1) (rn := rn) hw hCs hG hS
  have hz : ∀ p, tv p = 0 := by
    intro p
    apply Classical.byContradiction
    intro w
    have := cn_lt (hat p w).2.1 w
    omega
  have en : num' = num := by
    funext p
    rw [g3, if_neg (fun w => w (hz p))]
  subst en
  refine ⟨fun p c h => ?_, ?_⟩
  · rcases hS p with ⟨-, w⟩ | ⟨c', w, -⟩
    · exact w c h
    · rw [hz] at w; omega
  obtain ⟨r, er, z, rfl, hf, hz1⟩ := mround1 hw hMN hMU hCs hG hM hS hct hat g1 g2 g3 g4
  rw [h0, Nat.add_zero, if_pos rfl] at hz1
  have hz2 : MC z n K pl num' rn cd rd := by
    obtain ⟨y1, y2, y3, y4⟩ := hz1
    refine ⟨y1, y2, fun k hk => ?_, y4⟩
    obtain ⟨d1, d2, d3⟩ := g1 k hk
    rw [← d1, ← d2, ← d3]
    exact y3 k hk
  have em : loopC (fun v => b_X7_conclude_82 v.1 v.2) ((1 : Int32), m) = loopC (fun v => b_X7_conclude_82 v.1 v.2) ((0 : Int32), z) := by
    refine loopC_next ?_
    show b_X7_conclude_82 1 m = _
    rw [er, if_pos h0]
  by_cases q : rd < 2000
  · obtain ⟨r, er, z2, rfl, hf2, hx1⟩ := xround1 hw hN hU hC hG hX q hS hct hG' g1 g2 g3 g4
    rw [h0, Nat.add_zero, if_pos rfl] at hx1
    refine ⟨z2, z, ?_, hf2, ?_, em, hf, hz2⟩
    · rw [loopC_next (s' := ((0 : Int32), nI (rd + 2), z2)) (by show b_X5_concludeAll_22 1 (nI (rd + 1)) sx = _; rw [er, if_pos h0])]
      refine loopC_end ?_
      show b_X5_concludeAll_22 0 (nI (rd + 2)) z2 = _
      unfold b_X5_concludeAll_22
      rw [if_pos rfl, ite_self]
    · obtain ⟨y1, y2, y3, y4⟩ := hx1
      refine ⟨y1, y2, fun k hk => ?_, y4⟩
      obtain ⟨d1, d2, d3⟩ := g1 k hk
      rw [← d1, ← d2, ← d3]
      exact y3 k hk
  · refine ⟨sx, z, loopC_end ?_, ⟨fun k _ _ _ _ _ => rfl, fun k _ _ => rfl⟩, hX, em, hf, hz2⟩
    show b_X5_concludeAll_22 1 (nI (rd + 1)) sx = _
    unfold b_X5_concludeAll_22
    have hK := hG.1.1
    rw [if_pos (show (2000 : Int32) < nI (rd + 1) from (nI_ltI (a := 2000) (by omega) (by omega)).mpr (by omega))]
theorem joint (hw : Wf t n ax) (hCs : ChS t ax U ch) : ∀ d K pl num rn cd rd sx m, 2000 ≤ K + d → CS t n K pl num cd → rd ≤ K → XN sx.1 t n ax → XU sx.1 U → XCh sx.1 ch → XC sx K pl num rn cd rd → MN m t n ax → MU m U → MC m n K pl num rn cd rd →
    ∃ (K' : Nat) (pl' num' rn' cd' : Nat → Nat) (rd' : Nat) (sx' : XS) (m' : MS), CS t n K' pl' num' cd' ∧ Closed num' t n ax U ch pl' K' ∧
      loopC (fun v => b_X5_concludeAll_22 v.1 v.2.1 v.2.2) ((1 : Int32), nI (rd + 1), sx) = some sx' ∧ FrX sx sx' ∧ XC sx' K' pl' num' rn' cd' rd' ∧
      loopC (fun v => b_X7_conclude_82 v.1 v.2) ((1 : Int32), m) = loopC (fun v => b_X7_conclude_82 v.1 v.2) ((0 : Int32), m') ∧ FrR m m' ∧ MC m' n K' pl' num' rn' cd' rd' := by
  intro d
  induction d with
  | zero =>
    intro K pl num rn cd rd sx m hd hG hrd hN hU hC hX hMN hMU hM
    obtain ⟨tv, hS⟩ : ∃ tv : Nat → Nat, ∀ p, LT (SX num t n ax U ch pl K) p (tv p) := ⟨fun p => Classical.choose (LT.ex _ p), fun p => Classical.choose_spec (LT.ex _ p)⟩
    have hct := (grow (rd := rd + 1) (rn := rn) hw hCs hG hS).1
    obtain ⟨h1, sx', m', h2⟩ := joint_stop hw hCs hG hrd hN hU hC hX hMN hMU hM hS (by omega)
    exact ⟨K, pl, num, rn, cd, rd, sx', m', hG, h1, h2⟩
  | succ d ih =>
    intro K pl num rn cd rd sx m hd hG hrd hN hU hC hX hMN hMU hM
    obtain ⟨tv, hS⟩ : ∃ tv : Nat → Nat, ∀ p, LT (SX num t n ax U ch pl K) p (tv p) := ⟨fun p => Classical.choose (LT.ex _ p), fun p => Classical.choose_spec (LT.ex _ p)⟩
    by_cases q : cn tv 2000 = 0
    · obtain ⟨h1, sx', m', h2⟩ := joint_stop hw hCs hG hrd hN hU hC hX hMN hMU hM hS q
      exact ⟨K, pl, num, rn, cd, rd, sx', m', hG, h1, h2⟩
    · obtain ⟨hct, hat, pl', num', rn', cd', hG', g1, g2, g3, g4⟩ := grow (rd := rd + 1) (rn := rn) hw hCs hG hS
      obtain ⟨r, er, z, rfl, hf, hz1⟩ := mround1 hw hMN hMU hCs hG hM hS hct hat g1 g2 g3 g4
      obtain ⟨r, er2, z2, rfl, hf2, hx1⟩ := xround1 hw hN hU hC hG hX (by omega) hS hct hG' g1 g2 g3 g4
      rw [if_neg q] at hz1 hx1
      rw [if_neg q] at er er2
      obtain ⟨K', pl2, num2, rn2, cd2, rd2, sx', m', k1, k2, k3, k4, k5, k6, k7, k8⟩ := ih (K + cn tv 2000) pl' num' rn' cd' (rd + 1) z2 z (by omega) hG' (by omega) (hN.fr hf2) (hU.fr hf2) (hC.fr hf2) hx1 (hMN.fr hf) (hMU.fr hf) hz1
      refine ⟨K', pl2, num2, rn2, cd2, rd2, sx', m', k1, k2, ?_, hf2.trans k4, k5, ?_, hf.trans k7, k8⟩
      · rw [← k3]
        exact loopC_next er2
      · rw [← k6]
        exact loopC_next er
end JOINT2
