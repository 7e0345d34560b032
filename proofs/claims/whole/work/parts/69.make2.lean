/-! the makers on both sides -/
theorem mwr_at {st : MS} {k N a : Nat} {x i : Int32} (hi : i = nI a) (h : a < N) (hN : N < 2 ^ 31) : mwr st k N i x = some (mA st k (upd (st k) a x)) := by
  subst hi
  exact mwr_nI h hN
theorem LC.uniq {C : Nat → Prop} {N v w : Nat} (h : LC C N v) (h' : LC C N w) : v = w := by
  rcases h with ⟨rfl, h⟩ | ⟨k, hk, rfl, h1, h2⟩ <;> rcases h' with ⟨rfl, h'⟩ | ⟨k', hk', rfl, h1', h2'⟩
  · rfl
  · exact absurd h1' (h k' hk')
  · exact absurd h1 (h' k hk)
  · rcases Nat.lt_trichotomy k k' with q | q | q
    · exact absurd h1 (h2' k q)
    · omega
    · exact absurd h1' (h2 k' q)
section MAKE2
variable {t : Th} {n ax cl cc : Nat} {sx : XS} {sm : MS}
def Cf (t : Th) (p1 p2 p3 : Int32) (i : Nat) : Prop := nI (t 0 i) = p1 ∧ tv1 t i = p2 ∧ tv2 t i = p3
theorem xfind_ok (h : Core t n ax cl cc sx sm) (p1 p2 p3 : Int32) : Ok (f_X3_find sx p1 p2 p3) (fun v => ∃ w, w ≤ n ∧ v = nO w ∧ LC (Cf t p1 p2 p3) n w) := by
  obtain ⟨hw, hN, hMN, -⟩ := h
  have h20 := hw.n20
  unfold f_X3_find
  refine Ok.for0 (f := fun v => b_X3_find_3 sx p1 p2 p3 v) (i := 0) n (fun i => ∀ k, k < i → ¬ Cf t p1 p2 p3 k) ?_ ?_ (Nat.zero_le _) (fun k hk => absurd hk (Nat.not_lt_zero k))
  · intro i hi hI
    have next : ¬ Cf t p1 p2 p3 i → ∀ k, k < i + 1 → ¬ Cf t p1 p2 p3 k := fun hc k hk => by
      by_cases e : k = i
      · subst e; exact hc
      · exact hI k (by omega)
    show Ok (b_X3_find_3 sx p1 p2 p3 (nI i)) _
    unfold b_X3_find_3
    refine Ok.ifn (show ¬ sx.1 30 0 ≤ nI i by rw [hN.1]; exact nI_ge hi (by omega)) ?_
    rw [xsort_ok hN hw hi, xfirst_ok hN hw hi, xsecond_ok hN hw hi]
    refine Ok.ite (fun q1 => Ok.ite (fun q2 => Ok.ite (fun q3 => ?_) (fun q => ?_)) (fun q => ?_)) (fun q => ?_)
    · exact Ok.end ⟨i + 1, hi, (nO_s i).symm, Or.inr ⟨i, hi, rfl, ⟨q1, q2, q3⟩, hI⟩⟩
    · exact Ok.go ⟨nI_1 i, next (fun w => q w.2.2)⟩
    · exact Ok.go ⟨nI_1 i, next (fun w => q w.2.1)⟩
    · exact Ok.go ⟨nI_1 i, next (fun w => q w.1)⟩
  · intro hI
    show Ok (b_X3_find_3 sx p1 p2 p3 (nI n)) _
    unfold b_X3_find_3
    exact Ok.ifp (show sx.1 30 0 ≤ nI n by rw [hN.1]; exact nI_le (Nat.le_refl _) (by omega)) (Ok.end ⟨0, by omega, nO_0.symm, Or.inl ⟨rfl, hI⟩⟩)
theorem mfind_ok (h : Core t n ax cl cc sx sm) (p1 p2 p3 : Int32) : Ok (f_X7_found sm p1 p2 p3) (fun v => ∃ w, w ≤ n ∧ v = nO w ∧ LC (Cf t p1 p2 p3) n w) := by
  obtain ⟨hw, hN, hMN, -⟩ := h
  have h20 := hw.n20
  unfold f_X7_found
  refine Ok.for0 (f := fun v => b_X7_found_3 sm p1 p2 p3 v) (i := 0) n (fun i => ∀ k, k < i → ¬ Cf t p1 p2 p3 k) ?_ ?_ (Nat.zero_le _) (fun k hk => absurd hk (Nat.not_lt_zero k))
  · intro i hi hI
    have next : ¬ Cf t p1 p2 p3 i → ∀ k, k < i + 1 → ¬ Cf t p1 p2 p3 k := fun hc k hk => by
      by_cases e : k = i
      · subst e; exact hc
      · exact hI k (by omega)
    obtain ⟨m2, m3, m4⟩ := hMN.2.2.1 i hi
    show Ok (b_X7_found_3 sm p1 p2 p3 (nI i)) _
    unfold b_X7_found_3
    refine Ok.ifn (show ¬ sm 0 0 ≤ nI i by rw [hMN.1]; exact nI_ge hi (by omega)) (Ok.bindE (rd_nI (by omega) (by omega)) ?_)
    rw [m2]
    refine Ok.ite (fun q1 => Ok.bindE (rd_nI (by omega) (by omega)) ?_) (fun q => ?_)
    · rw [m3]
      refine Ok.ite (fun q2 => Ok.bindE (rd_nI (by omega) (by omega)) ?_) (fun q => ?_)
      · rw [m4]
        refine Ok.ite (fun q3 => ?_) (fun q => ?_)
        · exact Ok.end ⟨i + 1, hi, (nO_s i).symm, Or.inr ⟨i, hi, rfl, ⟨q1, q2, q3⟩, hI⟩⟩
        · exact Ok.go ⟨nI_1 i, next (fun w => q w.2.2)⟩
      · exact Ok.go ⟨nI_1 i, next (fun w => q w.2.1)⟩
    · exact Ok.go ⟨nI_1 i, next (fun w => q w.1)⟩
  · intro hI
    show Ok (b_X7_found_3 sm p1 p2 p3 (nI n)) _
    unfold b_X7_found_3
    exact Ok.ifp (show sm 0 0 ≤ nI n by rw [hMN.1]; exact nI_le (Nat.le_refl _) (by omega)) (Ok.end ⟨0, by omega, nO_0.symm, Or.inl ⟨rfl, hI⟩⟩)
theorem xaddN_ok (h30 : sx.1 30 0 = nI n) (hn : n < 20) (p1 p2 p3 : Int32) : Ok (f_X6_addNotion sx p1 p2 p3) (fun r => r.1 = nI n ∧ (∀ k, k ≠ 2 → k ≠ 30 → k ≠ 31 → k ≠ 36 → r.2.1 k = sx.1 k) ∧ r.2.1 2 = upd (upd (upd (sx.1 2) (3 * n) p1) (3 * n + 1) p2) (3 * n + 2) p3 ∧ r.2.1 30 0 = nI (n + 1) ∧ r.2.1 36 0 = 0 ∧ r.2.1 31 0 = if p1 = 2 then sx.1 31 0 + 1 else sx.1 31 0) := by
  unfold f_X6_addNotion f_X3_add
  have q0 : (sA sx 36 (fun _ => 0)).1 30 0 = nI n := h30
  have i0 : (nI n * (3 : Int32)) = nI (3 * n) := by
    show nI n * nI 3 = _
    rw [nI_mul, Nat.mul_comm]
  have i1 : (nI (3 * n) + (1 : Int32)) = nI (3 * n + 1) := nI_add _ 1
  have i2 : (nI (3 * n) + (2 : Int32)) = nI (3 * n + 2) := nI_add _ 2
  refine Ok.ifp (by rw [h30]; exact (nI_ltI (b := 20) (by omega) (by omega)).mpr hn) (Ok.bindE rfl ?_)
  rw [q0, i0, i1, i2, put_nI (by omega) (by omega)]
  refine Ok.bind (P := fun r => r.1 = nI n ∧ (∀ k, k ≠ 2 → k ≠ 30 → k ≠ 31 → k ≠ 36 → r.2.1 k = sx.1 k) ∧ r.2.1 2 = upd (upd (upd (sx.1 2) (3 * n) p1) (3 * n + 1) p2) (3 * n + 2) p3 ∧ r.2.1 30 0 = nI (n + 1) ∧ r.2.1 36 0 = 0 ∧ r.2.1 31 0 = if p1 = 2 then sx.1 31 0 + 1 else sx.1 31 0) (Ok.bindE rfl (Ok.bindE rfl (Ok.bindE rfl ?_))) (fun r hr => Ok.some hr)
  rw [put_nI (by omega) (by omega), put_nI (by omega) (by omega)]
  refine Ok.ite (fun q => Ok.bindE rfl (Ok.bindE rfl (Ok.some ⟨h30, fun k k1 k2 k3 k4 => ?_, rfl, ?_, rfl, ?_⟩))) (fun q => Ok.bindE rfl (Ok.some ⟨h30, fun k k1 k2 k3 k4 => ?_, rfl, ?_, rfl, ?_⟩))
  · unfold sA
    simp only [if_neg k1, if_neg k2, if_neg k3, if_neg k4]
  · show sx.1 30 0 + 1 = _
    rw [h30, nI_1]
  · rw [if_pos q]; rfl
  · unfold sA
    simp only [if_neg k1, if_neg k2, if_neg k4]
  · show sx.1 30 0 + 1 = _
    rw [h30, nI_1]
  · rw [if_neg q]; rfl
theorem made_ok (h0 : sm 0 0 = nI n) (hn : n < 20) (p1 p2 p3 : Int32) : Ok (f_X7_made sm p1 p2 p3) (fun r => r.1 = nI n ∧ (∀ k, k ≠ 0 → k ≠ 2 → k ≠ 3 → k ≠ 4 → k ≠ 11 → r.2 k = sm k) ∧ r.2 2 = upd (sm 2) n p1 ∧ r.2 3 = upd (sm 3) n p2 ∧ r.2 4 = upd (sm 4) n p3 ∧ r.2 0 0 = nI (n + 1) ∧ r.2 11 0 = 0) := by
  unfold f_X7_made
  refine Ok.bindE (mwr_at h0 (by omega) (by omega)) (Ok.bindE (mwr_at h0 (by omega) (by omega)) (Ok.bindE (mwr_at h0 (by omega) (by omega)) (Ok.bindE rfl (Ok.bindE rfl (Ok.some ⟨?_, fun k k1 k2 k3 k4 k5 => ?_, rfl, rfl, rfl, ?_, rfl⟩)))))
  · show sm 0 0 + 1 - 1 = nI n
    rw [h0, nI_1, nI_pred]
  · unfold mA
    simp only [if_neg k1, if_neg k2, if_neg k3, if_neg k4, if_neg k5]
  · show sm 0 0 + 1 = _
    rw [h0, nI_1]
theorem newN_inv (h : Core t n ax cl cc sx sm) (hn : n < 20) {s a b cl' : Nat} (hs : s = 2 ∨ (s = 3 ∧ a < n ∧ b < n) ∨ (s = 4 ∧ a < 4 ∧ b < n)) (hcl : cl' ≤ 10) {x' : XS} {m' : MS} {p1 p2 p3 : Int32} (e1 : p1 = nI s) (e2 : p2 = if s < 3 then -1 else nI a) (e3 : p3 = if s < 3 then -1 else nI b)
    (x1 : ∀ k, k ≠ 2 → k ≠ 30 → k ≠ 31 → k ≠ 36 → x'.1 k = sx.1 k) (x2 : x'.1 2 = upd (upd (upd (sx.1 2) (3 * n) p1) (3 * n + 1) p2) (3 * n + 2) p3) (x3 : x'.1 30 0 = nI (n + 1)) (x4 : x'.1 36 0 = 0) (x5 : x'.1 31 0 = nI cl')
    (m1 : ∀ k, k ≠ 0 → k ≠ 1 → k ≠ 2 → k ≠ 3 → k ≠ 4 → k ≠ 11 → m' k = sm k) (m2 : m' 2 = upd (sm 2) n p1) (m3 : m' 3 = upd (sm 3) n p2) (m4 : m' 4 = upd (sm 4) n p3) (m5 : m' 0 0 = nI (n + 1)) (m6 : m' 11 0 = 0) (m7 : m' 1 0 = nI cl') : Inv x' m' := by
  obtain ⟨hw, ⟨a1, a2, a3, a4⟩, ⟨b1, b2, b3, b4⟩, c1, c2, c3, d1, d2, d3⟩ := h
  have f0 : tN t n s a b 0 n = s := by unfold tN; rw [if_pos ⟨rfl, by omega⟩, if_pos rfl]
  have f1 : tN t n s a b 1 n = a := by unfold tN; rw [if_pos ⟨rfl, by omega⟩, if_neg (by omega), if_pos rfl]
  have f2 : tN t n s a b 2 n = b := by unfold tN; rw [if_pos ⟨rfl, by omega⟩, if_neg (by omega), if_neg (by omega)]
  have g1 : tv1 (tN t n s a b) n = p2 := by unfold tv1; rw [f0, f1, e2]
  have g2 : tv2 (tN t n s a b) n = p3 := by unfold tv2; rw [f0, f2, e3]
  have o1 : ∀ i, i < n → tv1 (tN t n s a b) i = tv1 t i := fun i hi => by unfold tv1; rw [tN_old hi, tN_old hi]
  have o2 : ∀ i, i < n → tv2 (tN t n s a b) i = tv2 t i := fun i hi => by unfold tv2; rw [tN_old hi, tN_old hi]
  have o6 : ∀ i, tv6 (tN t n s a b) i = tv6 t i := fun i => by unfold tv6; rw [tN_ax (by omega), tN_ax (by omega)]
  refine ⟨tN t n s a b, n + 1, ax, cl', cc, ⟨tN_wf hw hn hs, ⟨x3, ?_, fun i hi => ?_, fun i hi => ?_⟩, ⟨m5, ?_, fun i hi => ?_, fun i hi => ?_⟩, x5, m7, hcl, ?_, ?_, d3⟩, Or.inl ⟨x4, m6⟩⟩
  · rw [x1 32 (by omega) (by omega) (by omega) (by omega)]; exact a2
  · rw [x2]
    by_cases e : i = n
    · subst e
      refine ⟨?_, ?_, ?_⟩
      · rw [pk_un (by omega), pk_un (by omega), pk_us, f0, e1]
      · rw [pk_un (by omega), pk_us, g1]
      · rw [pk_us, g2]
    · obtain ⟨r1, r2, r3⟩ := a3 i (by omega)
      rw [tN_old (by omega), o1 i (by omega), o2 i (by omega)]
      refine ⟨?_, ?_, ?_⟩
      · rw [pk_un (by omega), pk_un (by omega), pk_un (by omega)]; exact r1
      · rw [pk_un (by omega), pk_un (by omega), pk_un (by omega)]; exact r2
      · rw [pk_un (by omega), pk_un (by omega), pk_un (by omega)]; exact r3
  · rw [x1 4 (by omega) (by omega) (by omega) (by omega), tN_ax (by omega), tN_ax (by omega), tN_ax (by omega), tN_ax (by omega), o6]
    exact a4 i hi
  · rw [m1 5 (by omega) (by omega) (by omega) (by omega) (by omega) (by omega)]; exact b2
  · rw [m2, m3, m4]
    by_cases e : i = n
    · subst e
      rw [pk_us, pk_us, pk_us, f0, g1, g2]
      exact ⟨e1, rfl, rfl⟩
    · rw [pk_un e, pk_un e, pk_un e, tN_old (by omega), o1 i (by omega), o2 i (by omega)]
      exact b3 i (by omega)
  · rw [m1 6 (by omega) (by omega) (by omega) (by omega) (by omega) (by omega), m1 7 (by omega) (by omega) (by omega) (by omega) (by omega) (by omega), m1 8 (by omega) (by omega) (by omega) (by omega) (by omega) (by omega), m1 9 (by omega) (by omega) (by omega) (by omega) (by omega) (by omega), m1 10 (by omega) (by omega) (by omega) (by omega) (by omega) (by omega), tN_ax (by omega), tN_ax (by omega), tN_ax (by omega), tN_ax (by omega), o6]
    exact b4 i hi
  · rw [x1 35 (by omega) (by omega) (by omega) (by omega)]; exact d1
  · rw [m1 12 (by omega) (by omega) (by omega) (by omega) (by omega) (by omega)]; exact d2
theorem sim0 : Sim_0 Inv := by
  rintro sx sm ⟨t, n, ax, cl, cc, h, hd⟩
  have hI : Inv sx sm := ⟨t, n, ax, cl, cc, h, hd⟩
  have h20 := h.1.n20
  have c1 := h.2.2.2.1
  have c2 := h.2.2.2.2.1
  have c3 := h.2.2.2.2.2.1
  unfold f_X6_make f_X7_make
  have ec : sm 1 0 = (10 : Int32) ↔ cl = 10 := by rw [c2]; exact nI_eq (b := 10) (by omega) (by omega)
  have en : sm 0 0 = (20 : Int32) ↔ n = 20 := by rw [h.2.2.1.1]; exact nI_eq (b := 20) (by omega) (by omega)
  have lc : sx.1 31 0 < (10 : Int32) ↔ cl < 10 := by rw [c1]; exact nI_ltI (b := 10) (by omega) (by omega)
  have ln : sx.1 30 0 < (20 : Int32) ↔ n < 20 := by rw [h.2.1.1]; exact nI_ltI (b := 20) (by omega) (by omega)
  by_cases q : cl = 10
  · rw [if_neg (fun w => by have := lc.mp w; omega), if_pos (ec.mpr q)]
    exact ⟨_, _, _, rfl, rfl, hI⟩
  rw [if_pos (lc.mpr (by omega)), if_neg (fun w => q (ec.mp w))]
  by_cases q2 : n = 20
  · rw [if_pos (en.mpr q2)]
    refine ⟨-104, sx, sm, ?_, rfl, hI⟩
    unfold f_X6_addNotion
    rw [if_neg (fun w => by have := ln.mp w; omega)]
    rfl
  rw [if_neg (fun w => q2 (en.mp w))]
  obtain ⟨r, er, r1, x1, x2, x3, x4, x5⟩ := xaddN_ok h.2.1.1 (show n < 20 by omega) 2 (-1) (-1)
  obtain ⟨r', er', r1', m1, m2, m3, m4, m5, m6⟩ := made_ok (sm := mA sm 1 (fun _ => sm 1 0 + 1)) (n := n) h.2.2.1.1 (by omega) 2 (-1) (-1)
  refine ⟨nI n, r.2, r'.2, ?_, ?_, newN_inv h (by omega) (s := 2) (a := 0) (b := 0) (cl' := cl + 1) (Or.inl rfl) (by omega) rfl rfl rfl x1 x2 x3 x4 ?_ ?_ m2 m3 m4 m5 m6 ?_⟩
  · rw [er, Option.bind_some, r1]
  · rw [Option.bind_some, er', Option.bind_some, r1']
  · rw [x5, if_pos rfl, c1, nI_1]
  · intro k k0 k1 k2 k3 k4 k11
    rw [m1 k k0 k2 k3 k4 k11]
    unfold mA
    rw [if_neg k1]
  · rw [m1 1 (by omega) (by omega) (by omega) (by omega) (by omega)]
    show sm 1 0 + 1 = _
    rw [c2, nI_1]
theorem findMake (h : Core t n ax cl cc sx sm) (hI : Inv sx sm) {s a b : Nat} (hs : (s = 3 ∧ a < n ∧ b < n) ∨ (s = 4 ∧ a < 4 ∧ b < n)) :
    ∃ (r : Int32) (sx' : XS) (sm' : MS), Option.bind (f_X6_findOrAddNotion sx (nI s) (nI a) (nI b)) (fun r3 => some (r3.1, r3.2)) = some (r, sx') ∧ Option.bind (f_X7_found sm (nI s) (nI a) (nI b)) (fun r3 => (if r3 = (-1 : Int32) then (if (sm 0 0) = (20 : Int32) then some (((-104 : Int32), sm)) else (Option.bind (f_X7_made sm (nI s) (nI a) (nI b)) (fun r6 => some ((r6.1, r6.2))))) else some ((r3, sm)))) = some (r, sm') ∧ Inv sx' sm' := by
  have h20 := h.1.n20
  have en : sm 0 0 = (20 : Int32) ↔ n = 20 := by rw [h.2.2.1.1]; exact nI_eq (b := 20) (by omega) (by omega)
  have ln : sx.1 30 0 < (20 : Int32) ↔ n < 20 := by rw [h.2.1.1]; exact nI_ltI (b := 20) (by omega) (by omega)
  obtain ⟨v, ev, w, hw1, rfl, hl⟩ := xfind_ok h (nI s) (nI a) (nI b)
  obtain ⟨v', ev', w', hw1', rfl, hl'⟩ := mfind_ok h (nI s) (nI a) (nI b)
  have := hl.uniq hl'
  subst this
  unfold f_X6_findOrAddNotion
  rw [ev, ev', Option.bind_some, Option.bind_some]
  by_cases q : w = 0
  · subst q
    rw [if_pos nO_0, if_pos nO_0]
    by_cases q2 : n = 20
    · rw [if_pos (en.mpr q2)]
      refine ⟨-104, sx, sm, ?_, rfl, hI⟩
      unfold f_X6_addNotion
      rw [if_neg (fun w => by have := ln.mp w; omega)]
      rfl
    rw [if_neg (fun w => q2 (en.mp w))]
    obtain ⟨r, er, r1, x1, x2, x3, x4, x5⟩ := xaddN_ok h.2.1.1 (show n < 20 by omega) (nI s) (nI a) (nI b)
    obtain ⟨r', er', r1', m1, m2, m3, m4, m5, m6⟩ := made_ok h.2.2.1.1 (show n < 20 by omega) (nI s) (nI a) (nI b)
    refine ⟨nI n, r.2, r'.2, ?_, ?_, newN_inv h (by omega) (s := s) (a := a) (b := b) (cl' := cl) (Or.inr hs) h.2.2.2.2.2.1 rfl (by rw [if_neg (by omega)]) (by rw [if_neg (by omega)]) x1 x2 x3 x4 ?_ ?_ m2 m3 m4 m5 m6 ?_⟩
    · rw [er, Option.bind_some, Option.bind_some, r1]
    · rw [er', Option.bind_some, r1']
    · rw [x5, if_neg (fun w => by have := (nI_eq (a := s) (b := 2) (by omega) (by omega)).mp w; omega)]
      exact h.2.2.2.1
    · intro k k0 k1 k2 k3 k4 k11
      exact m1 k k0 k2 k3 k4 k11
    · rw [m1 1 (by omega) (by omega) (by omega) (by omega) (by omega)]
      exact h.2.2.2.2.1
  · have hne : ¬ nO w = -1 := fun y => q ((nO_m1 (by omega)).mp y)
    rw [if_neg hne, if_neg hne]
    exact ⟨nO w, sx, sm, rfl, rfl, hI⟩
theorem one0 : ¬ (1 : Int32) = 0 := by decide
theorem zero0 : (0 : Int32) = 0 := rfl
theorem sim1 : Sim_1 Inv := by
  rintro sx sm v1 v2 ⟨t, n, ax, cl, cc, h, hd⟩
  have hI : Inv sx sm := ⟨t, n, ax, cl, cc, h, hd⟩
  have h20 := h.1.n20
  unfold f_X6_meet f_X7_meet
  rcases argN h v1 with ⟨a, ha, rfl, e1, e2⟩ | ⟨e1, e2⟩
  · rw [e1, e2, if_neg one0, if_neg one0]
    rcases argN h v2 with ⟨b, hb, rfl, e3, e4⟩ | ⟨e3, e4⟩
    · rw [e3, e4, if_neg one0, if_neg one0]
      have eab : nI a = nI b ↔ a = b := nI_eq (by omega) (by omega)
      have lab : nI a < nI b ↔ a < b := nI_ltI (by omega) (by omega)
      have lba : nI b < nI a ↔ b < a := nI_ltI (by omega) (by omega)
      have leb : nI b ≤ nI a ↔ b ≤ a := nI_leI (by omega) (by omega)
      by_cases q : a = b
      · rw [if_pos (eab.mpr q), if_pos (eab.mpr q)]
        exact ⟨_, _, _, rfl, rfl, hI⟩
      rw [if_neg (fun w => q (eab.mp w)), if_neg (fun w => q (eab.mp w))]
      by_cases q2 : a < b
      · rw [if_neg (show ¬ nI b < nI a from fun w => by have := lba.mp w; omega), if_pos (lab.mpr q2), if_neg (show ¬ nI b ≤ nI a from fun w => by have := leb.mp w; omega), if_neg (show ¬ nI b ≤ nI a from fun w => by have := leb.mp w; omega)]
        exact findMake h hI (s := 3) (Or.inl ⟨rfl, ha, hb⟩)
      · rw [if_pos (lba.mpr (by omega)), if_neg (fun w => q2 (lab.mp w)), if_pos (leb.mpr (by omega)), if_pos (leb.mpr (by omega))]
        exact findMake h hI (s := 3) (Or.inl ⟨rfl, hb, ha⟩)
    · rw [e3, e4, if_pos zero0, if_pos zero0]
      exact ⟨_, _, _, rfl, rfl, hI⟩
  · rw [e1, e2, if_pos zero0, if_pos zero0]
    exact ⟨_, _, _, rfl, rfl, hI⟩
theorem sim2 : Sim_2 Inv := by
  rintro sx sm v1 v2 ⟨t, n, ax, cl, cc, h, hd⟩
  have hI : Inv sx sm := ⟨t, n, ax, cl, cc, h, hd⟩
  unfold f_X6_has f_X7_has
  rcases argN h v2 with ⟨b, hb, rfl, e3, e4⟩ | ⟨e3, e4⟩
  · rw [e3, e4, if_neg one0, if_neg one0]
    rcases argR v1 with ⟨a, ha, rfl, e1, e2⟩ | ⟨e1, e2⟩
    · rw [e1, e2, if_neg one0, if_neg one0]
      exact findMake h hI (s := 4) (Or.inr ⟨rfl, ha, hb⟩)
    · rw [e1, e2, if_pos zero0, if_pos zero0]
      exact ⟨_, _, _, rfl, rfl, hI⟩
  · rw [e3, e4, if_pos zero0, if_pos zero0]
    exact ⟨_, _, _, rfl, rfl, hI⟩
end MAKE2
