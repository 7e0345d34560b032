/-! the model's tables: the first way found to each place -/
def isTo (pl : Nat → Nat) (k y : Nat) : Prop := rh (pl k) ≠ 0 ∧ ob (pl k) = y
def FC (m : MS) (K : Nat) (pl : Nat → Nat) : Prop := ∀ k, k < K → m 15 (9 * k) = nI (if rh (pl k) = 0 then 0 else 1) ∧ m 15 (9 * k + 1) = nI (sb (pl k)) ∧ m 15 (9 * k + 2) = nI (ob (pl k)) ∧ m 15 (9 * k + 3) = nO (rh (pl k))
def NM (m : MS) (n : Nat) (num : Nat → Nat) : Prop := (∀ x d, x < n → d < n → m 16 (28 * x + d) = nO (num (100 * x + d))) ∧ ∀ x r y, x < n → r < 4 → y < n → m 17 (112 * x + 28 * r + y) = nO (num (100 * x + 20 * (r + 1) + y))
def MU (m : MS) (U : Nat → Nat → Bool) : Prop := ∀ r s, r < 4 → s < 4 → m 26 (4 * r + s) = if U r s = true then 1 else 0
def PN (n K : Nat) (pl num : Nat → Nat) : Prop := K ≤ 2000 ∧ (∀ k, k < K → sb (pl k) < n ∧ ob (pl k) < n ∧ num (pl k) = k + 1) ∧ ∀ p, p < 2000 → num p ≤ K ∧ (num p ≠ 0 → pl (num p - 1) = p)
def BC (m : MS) (t : Th) (n ax K : Nat) (pl num : Nat → Nat) (U : Nat → Nat → Bool) : Prop := MN m t n ax ∧ m 13 0 = nI K ∧ FC m K pl ∧ NM m n num ∧ MU m U
def FrM (m z : MS) : Prop := ∀ k, k < 18 ∨ 25 < k → z k = m k
theorem BC.fr {m z : MS} {t : Th} {n ax K : Nat} {pl num : Nat → Nat} {U : Nat → Nat → Bool} (h : BC m t n ax K pl num U) (f : FrM m z) : BC z t n ax K pl num U := by
  obtain ⟨⟨a1, a2, a3, a4⟩, b, c, ⟨d1, d2⟩, e⟩ := h
  refine ⟨⟨?_, ?_, fun i hi => ?_, fun a ha => ?_⟩, ?_, fun k hk => ?_, ⟨fun x d hx hd => ?_, fun x r y hx hr hy => ?_⟩, fun r s hr hs => ?_⟩
  · rw [f 0 (by omega)]; exact a1
  · rw [f 5 (by omega)]; exact a2
  · rw [f 2 (by omega), f 3 (by omega), f 4 (by omega)]; exact a3 i hi
  · rw [f 6 (by omega), f 7 (by omega), f 8 (by omega), f 9 (by omega), f 10 (by omega)]; exact a4 a ha
  · rw [f 13 (by omega)]; exact b
  · rw [f 15 (by omega)]; exact c k hk
  · rw [f 16 (by omega)]; exact d1 x d hx hd
  · rw [f 17 (by omega)]; exact d2 x r y hx hr hy
  · rw [f 26 (by omega)]; exact e r s hr hs
def mk (r : Nat) : Nat := if r = 0 then 18 else 22
def mq (x r y : Nat) : Nat := if r = 0 then 28 * x + y else 112 * x + 28 * (r - 1) + y
def MEnt (z : MS) (x r y v : Nat) : Prop := (v = 0 ∧ z (mk r) (mq x r y) = -1) ∨ ∃ ru f s a, v = cod ru f s a + 1 ∧ ru < 9 ∧ f < 2048 ∧ s < 2048 ∧ a < 64 ∧ z (mk r) (mq x r y) = nI ru ∧ z (mk r + 1) (mq x r y) = nO f ∧ z (mk r + 2) (mq x r y) = nO s ∧ z (mk r + 3) (mq x r y) = nO a
def MT (n : Nat) (z : MS) (S : Nat → Nat → Prop) : Prop := (∀ p c, S p c → c < NOC) ∧ ∀ x r y, x < n → r < 5 → y < n → ∃ v, MEnt z x r y v ∧ LT S (100 * x + 20 * r + y) v
theorem MT.congr {n : Nat} {z : MS} {S S' : Nat → Nat → Prop} (h : MT n z S) (e : ∀ p c, S p c ↔ S' p c) : MT n z S' :=
  ⟨fun p c hc => h.1 p c ((e p c).mpr hc), fun x r y hx hr hy => by obtain ⟨v, h1, h2⟩ := h.2 x r y hx hr hy; exact ⟨v, h1, h2.congr (e _)⟩⟩
def MO (n : Nat) (m : MS) (S : Nat → Nat → Prop) (z : MS) : Prop := FrM m z ∧ MT n z S
/-- one candidate more, no less than what was found for its place -/
def One (num : Nat → Nat) (p0 c0 : Nat) : Nat → Nat → Prop := fun p c => num p = 0 ∧ p = p0 ∧ c = c0
theorem MT.keep {n : Nat} {z : MS} {S : Nat → Nat → Prop} {num : Nat → Nat} {x0 r0 y0 c0 : Nat} (hn : n ≤ 20) (h : MT n z S) (hx : x0 < n) (hr : r0 < 5) (hy : y0 < n) (hc : c0 < NOC) (hm : ∀ c, S (100 * x0 + 20 * r0 + y0) c → c ≤ c0)
    (hk : num (100 * x0 + 20 * r0 + y0) ≠ 0 ∨ ¬ z (mk r0) (mq x0 r0 y0) = -1) : MT n z (Uni S (One num (100 * x0 + 20 * r0 + y0) c0)) := by
  refine ⟨?_, fun x r y hx2 hr2 hy2 => ?_⟩
  · rintro p c (q | ⟨-, -, rfl⟩)
    · exact h.1 p c q
    · exact hc
  · obtain ⟨v, h1, h2⟩ := h.2 x r y hx2 hr2 hy2
    refine ⟨v, h1, ?_⟩
    by_cases hnum : num (100 * x0 + 20 * r0 + y0) = 0
    · have hz := hk.resolve_left (fun q => q hnum)
      refine h2.dom (fun c q => Or.inl q) (fun c q => ?_)
      rcases q with q | ⟨q1, q2, rfl⟩
      · exact ⟨c, Nat.le_refl _, q⟩
      · have e : x = x0 ∧ r = r0 ∧ y = y0 := by omega
        obtain ⟨rfl, rfl, rfl⟩ := e
        rcases h1 with ⟨-, h1⟩ | ⟨ru, f, s, a, rfl, -⟩
        · exact absurd h1 hz
        · rcases h2 with ⟨h2, -⟩ | ⟨c', h2, h3, -⟩
          · omega
          · exact ⟨c', hm c' h3, h3⟩
    · refine h2.congr (fun c => ⟨Or.inl, fun q => q.elim id (fun w => ?_)⟩)
      exact absurd (by rw [← w.2.1]; exact w.1) hnum
theorem MT.set {n : Nat} {z z' : MS} {S : Nat → Nat → Prop} {num : Nat → Nat} {x0 r0 y0 ru f s a : Nat} (hn : n ≤ 20) (h : MT n z S) (hx : x0 < n) (hr : r0 < 5) (hy : y0 < n) (h1 : ru < 9) (h2 : f < 2048) (h3 : s < 2048) (h4 : a < 64)
    (hnum : num (100 * x0 + 20 * r0 + y0) = 0) (hz : z (mk r0) (mq x0 r0 y0) = -1)
    (e1 : ∀ k, k ≠ mk r0 → k ≠ mk r0 + 1 → k ≠ mk r0 + 2 → k ≠ mk r0 + 3 → z' k = z k)
    (e2 : z' (mk r0) = upd (z (mk r0)) (mq x0 r0 y0) (nI ru)) (e3 : z' (mk r0 + 1) = upd (z (mk r0 + 1)) (mq x0 r0 y0) (nO f)) (e4 : z' (mk r0 + 2) = upd (z (mk r0 + 2)) (mq x0 r0 y0) (nO s)) (e5 : z' (mk r0 + 3) = upd (z (mk r0 + 3)) (mq x0 r0 y0) (nO a)) :
    MT n z' (Uni S (One num (100 * x0 + 20 * r0 + y0) (cod ru f s a))) := by
  refine ⟨?_, fun x r y hx2 hr2 hy2 => ?_⟩
  · rintro p c (q | ⟨-, -, rfl⟩)
    · exact h.1 p c q
    · exact cod_lt h1 h2 h3 h4
  · obtain ⟨v, g1, g2⟩ := h.2 x r y hx2 hr2 hy2
    by_cases e : x = x0 ∧ r = r0 ∧ y = y0
    · obtain ⟨rfl, rfl, rfl⟩ := e
      refine ⟨cod ru f s a + 1, Or.inr ⟨ru, f, s, a, rfl, h1, h2, h3, h4, ?_, ?_, ?_, ?_⟩, Or.inr ⟨cod ru f s a, rfl, Or.inr ⟨hnum, rfl, rfl⟩, ?_⟩⟩
      · rw [e2, pk_us]
      · rw [e3, pk_us]
      · rw [e4, pk_us]
      · rw [e5, pk_us]
      · rintro c' (q | ⟨-, -, rfl⟩)
        · have g3 : v = 0 := by
            rcases g1 with ⟨g1, -⟩ | ⟨ru', f', s', a', -, hr', -, -, -, g1, -⟩
            · exact g1
            · rw [hz] at g1
              exact absurd g1.symm (nI_m1 (by omega))
          rcases g2 with ⟨-, g2⟩ | ⟨c2, g2, -⟩
          · exact absurd q (g2 c')
          · omega
        · exact Nat.le_refl _
    · have hne : ¬ (mk r = mk r0 ∧ mq x r y = mq x0 r0 y0) := by
        rintro ⟨q1, q2⟩
        apply e
        unfold mk at q1
        unfold mq at q2
        split at q1 <;> split at q1 <;> simp_all <;> omega
      have hkeep : ∀ j, j < 4 → z' (mk r + j) (mq x r y) = z (mk r + j) (mq x r y) := by
        intro j hj
        by_cases q : mk r = mk r0
        · have q2 : mq x r y ≠ mq x0 r0 y0 := fun w => hne ⟨q, w⟩
          rw [q]
          rcases (show j = 0 ∨ j = 1 ∨ j = 2 ∨ j = 3 by omega) with rfl | rfl | rfl | rfl
          · show z' (mk r0) _ = z (mk r0) _
            rw [e2, pk_un q2]
          · rw [e3, pk_un q2]
          · rw [e4, pk_un q2]
          · rw [e5, pk_un q2]
        · have hk : mk r + 4 ≤ mk r0 ∨ mk r0 + 4 ≤ mk r := by
            unfold mk at q ⊢
            split <;> split <;> simp_all
          rw [e1 (mk r + j) (by omega) (by omega) (by omega) (by omega)]
      refine ⟨v, ?_, g2.congr (fun c => ⟨Or.inl, fun q => q.elim id (fun w => ?_)⟩)⟩
      · have k0 : z' (mk r) (mq x r y) = z (mk r) (mq x r y) := hkeep 0 (by omega)
        unfold MEnt
        rw [k0, hkeep 1 (by omega), hkeep 2 (by omega), hkeep 3 (by omega)]
        exact g1
      · have := w.2.1
        exact absurd (by omega) e
section FIND
variable {m z : MS} {t : Th} {n ax K : Nat} {pl num : Nat → Nat} {U : Nat → Nat → Bool}
theorem findIs_ok (hw : Wf t n ax) (hB : BC m t n ax K pl num U) (hP : PN n K pl num) {S : Nat → Nat → Prop} (hz : MO n m S z) {x d ru f s a : Nat} (hx : x < n) (hd : d < n) (h1 : ru < 9) (h2 : f < 2048) (h3 : s < 2048) (h4 : a < 64) (hm : ∀ c, S (100 * x + d) c → c ≤ cod ru f s a) :
    Ok (f_X7_findIs z (nI x) (nI d) (nI ru) (nO f) (nO s) (nO a)) (MO n m (Uni S (One num (100 * x + d) (cod ru f s a)))) := by
  have h20 := hw.n20
  have hB2 := hB.fr hz.1
  unfold f_X7_findIs
  have ei : (28 : Int32) * nI x + nI d = nI (28 * x + d) := by
    show nI 28 * nI x + nI d = _
    rw [nI_mul, nI_add]
  rw [ei]
  have hq : 28 * x + d < 784 := by omega
  have e0 : 100 * x + d = 100 * x + 20 * 0 + d := by omega
  have hnl := (hP.2.2 (100 * x + d) (by omega)).1
  have hK := hP.1
  refine Ok.bindE (rd_nI hq (by omega)) ?_
  rw [hB2.2.2.2.1.1 x d hx hd]
  refine Ok.ite (fun q => ?_) (fun q => ?_)
  · have hnum : num (100 * x + d) = 0 := (nO_m1 (by omega)).mp q
    refine Ok.bindE (rd_nI hq (by omega)) ?_
    refine Ok.ite (fun q2 => ?_) (fun q2 => ?_)
    · refine Ok.bindE (mwr_nI hq (by omega)) (Ok.bindE (mwr_nI hq (by omega)) (Ok.bindE (mwr_nI hq (by omega)) (Ok.bindE (mwr_nI hq (by omega)) (Ok.some ⟨?_, ?_⟩))))
      · intro k hk
        show (if k = 21 then _ else if k = 20 then _ else if k = 19 then _ else if k = 18 then _ else z k) = m k
        rw [if_neg (by omega), if_neg (by omega), if_neg (by omega), if_neg (by omega)]
        exact hz.1 k hk
      · rw [e0] at hnum ⊢
        refine MT.set h20 hz.2 hx (by omega) hd h1 h2 h3 h4 hnum q2 ?_ rfl rfl rfl rfl
        intro k k1 k2 k3 k4
        show (if k = 21 then _ else if k = 20 then _ else if k = 19 then _ else if k = 18 then _ else z k) = z k
        rw [if_neg (show ¬ k = 21 from k4), if_neg (show ¬ k = 20 from k3), if_neg (show ¬ k = 19 from k2), if_neg (show ¬ k = 18 from k1)]
    · refine Ok.some ⟨hz.1, ?_⟩
      rw [e0] at hm ⊢
      exact MT.keep h20 hz.2 hx (by omega) hd (cod_lt h1 h2 h3 h4) hm (Or.inr q2)
  · refine Ok.some ⟨hz.1, ?_⟩
    have hnum : num (100 * x + d) ≠ 0 := fun w => q ((nO_m1 (by omega)).mpr w)
    rw [e0] at hm hnum ⊢
    exact MT.keep h20 hz.2 hx (by omega) hd (cod_lt h1 h2 h3 h4) hm (Or.inl hnum)
theorem findTo_ok (hw : Wf t n ax) (hB : BC m t n ax K pl num U) (hP : PN n K pl num) {S : Nat → Nat → Prop} (hz : MO n m S z) {x r y ru f s a : Nat} (hx : x < n) (hr : r < 4) (hy : y < n) (h1 : ru < 9) (h2 : f < 2048) (h3 : s < 2048) (h4 : a < 64) (hm : ∀ c, S (100 * x + 20 * (r + 1) + y) c → c ≤ cod ru f s a) :
    Ok (f_X7_findTo z (nI x) (nI r) (nI y) (nI ru) (nO f) (nO s) (nO a)) (MO n m (Uni S (One num (100 * x + 20 * (r + 1) + y) (cod ru f s a)))) := by
  have h20 := hw.n20
  have hB2 := hB.fr hz.1
  unfold f_X7_findTo
  have ei : (112 : Int32) * nI x + (28 : Int32) * nI r + nI y = nI (112 * x + 28 * r + y) := by
    show nI 112 * nI x + nI 28 * nI r + nI y = _
    rw [nI_mul, nI_mul, nI_add, nI_add]
  rw [ei]
  have hq : 112 * x + 28 * r + y < 3136 := by omega
  have hnl := (hP.2.2 (100 * x + 20 * (r + 1) + y) (by omega)).1
  have hK := hP.1
  refine Ok.bindE (rd_nI hq (by omega)) ?_
  rw [hB2.2.2.2.1.2 x r y hx hr hy]
  refine Ok.ite (fun q => ?_) (fun q => ?_)
  · have hnum : num (100 * x + 20 * (r + 1) + y) = 0 := (nO_m1 (by omega)).mp q
    refine Ok.bindE (rd_nI hq (by omega)) ?_
    refine Ok.ite (fun q2 => ?_) (fun q2 => ?_)
    · refine Ok.bindE (mwr_nI hq (by omega)) (Ok.bindE (mwr_nI hq (by omega)) (Ok.bindE (mwr_nI hq (by omega)) (Ok.bindE (mwr_nI hq (by omega)) (Ok.some ⟨?_, ?_⟩))))
      · intro k hk
        show (if k = 25 then _ else if k = 24 then _ else if k = 23 then _ else if k = 22 then _ else z k) = m k
        rw [if_neg (by omega), if_neg (by omega), if_neg (by omega), if_neg (by omega)]
        exact hz.1 k hk
      · refine MT.set h20 hz.2 hx (by omega) hy h1 h2 h3 h4 hnum q2 ?_ rfl rfl rfl rfl
        intro k k1 k2 k3 k4
        show (if k = 25 then _ else if k = 24 then _ else if k = 23 then _ else if k = 22 then _ else z k) = z k
        rw [if_neg (show ¬ k = 25 from k4), if_neg (show ¬ k = 24 from k3), if_neg (show ¬ k = 23 from k2), if_neg (show ¬ k = 22 from k1)]
    · refine Ok.some ⟨hz.1, ?_⟩
      exact MT.keep h20 hz.2 hx (by omega) hy (cod_lt h1 h2 h3 h4) hm (Or.inr q2)
  · refine Ok.some ⟨hz.1, ?_⟩
    have hnum : num (100 * x + 20 * (r + 1) + y) ≠ 0 := fun w => q ((nO_m1 (by omega)).mpr w)
    exact MT.keep h20 hz.2 hx (by omega) hy (cod_lt h1 h2 h3 h4) hm (Or.inl hnum)
end FIND
