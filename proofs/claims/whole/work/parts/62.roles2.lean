/-! roles on both sides -/
section ROLES2
variable {t : Th} {n ax : Nat}
theorem uA_miss {a : Nat} (h : ¬ (t 7 a = 1 ∧ t 3 a = 1)) (r s : Nat) : uA t (a + 1) r s = uA t a r s := by
  show (uA t a r s || decide _) = _
  have : ¬ (t 7 a = 1 ∧ t 3 a = 1 ∧ t 4 a = r ∧ t 5 a = s) := fun w => h ⟨w.1, w.2.1⟩
  simp [this]
theorem uA_hit {a : Nat} (h7 : t 7 a = 1) (h3 : t 3 a = 1) (r s : Nat) : uA t (a + 1) r s = if r = t 4 a ∧ s = t 5 a then true else uA t a r s := by
  show (uA t a r s || decide _) = _
  by_cases q : r = t 4 a ∧ s = t 5 a
  · rw [if_pos q]
    simp [h7, h3, q.1, q.2]
  · rw [if_neg q]
    have : ¬ (t 7 a = 1 ∧ t 3 a = 1 ∧ t 4 a = r ∧ t 5 a = s) := fun w => q ⟨w.2.2.1.symm, w.2.2.2.symm⟩
    simp [this]
theorem XLC.ch {x : Nat → Nat → Int32} {U : Nat → Nat → Bool} (hl : XLC x t U (fun _ _ => ax)) (h40 : ax ≤ 40) : ∃ ch, XCh x ch ∧ ChS t ax U ch := by
  have hl2 : ∀ r s u, ∃ v, r < 4 → s < 4 → u < 4 → x 7 (16 * r + 4 * s + u) = nO v ∧ LC (CA t U r s u) ax v := by
    intro r s u
    by_cases hh : r < 4 ∧ s < 4 ∧ u < 4
    · obtain ⟨v, v1, v2⟩ := hl r s u hh.1 hh.2.1 hh.2.2
      exact ⟨v, fun _ _ _ => ⟨v1, v2⟩⟩
    · exact ⟨0, fun h1 h2 h3 => absurd ⟨h1, h2, h3⟩ hh⟩
  refine ⟨fun r s u => Classical.choose (hl2 r s u), fun r s u hr hs hu => ?_, fun r s u hr hs hu => ?_⟩
  · obtain ⟨v1, v2⟩ := Classical.choose_spec (hl2 r s u) hr hs hu
    exact ⟨v1, Nat.le_trans (LC.le v2) h40⟩
  · exact (Classical.choose_spec (hl2 r s u) hr hs hu).2
theorem learn_ok {x0 : XS} (hw : Wf t n ax) (hN : XN x0.1 t n ax) :
    Ok (f_X4_learn x0) (fun z => Fr6 x0 z ∧ XU z.1 (uT t ax) ∧ ∃ ch, XCh z.1 ch ∧ ChS t ax (uT t ax) ch) := by
  have h40 := hw.a40
  unfold f_X4_learn
  refine Ok.bind (P := fun z => Fr6 x0 z ∧ (∀ j, j < 16 → z.1 6 j = 0) ∧ z.1 7 = x0.1 7) ((fill_ok 16 (by omega) (x0.1 6) 0).map (fun f2 h => ⟨(show Fr6 x0 x0 from ⟨fun _ _ _ => rfl, fun _ => rfl⟩).sA6 f2, h, rfl⟩)) ?_
  rintro z ⟨hf, h0, h7⟩
  refine Ok.for (f := fun v => b_X4_learn_10 v.1 v.2) (i := 0) 4 (fun i z => Fr6 x0 z ∧ XU z.1 (fun r s => decide (r = s ∧ r < i)) ∧ z.1 7 = x0.1 7) ?_ ?_ (Nat.zero_le _) ⟨hf, fun r s hr hs => by rw [h0 _ (by omega)]; simp, h7⟩
  · rintro i z hi ⟨hf, h, h7⟩
    show Ok (b_X4_learn_10 (nI i) z) _
    unfold b_X4_learn_10
    refine Ok.ifn (show ¬ (4 : Int32) ≤ nI i from nI_ge (b := 4) hi (by omega)) ?_
    rw [xput6 hi hi]
    refine Ok.bindE rfl (Ok.go ⟨nI_1 i, hf.sA6 _, (h.set hi hi).congr (fun a b ha hb => ?_), h7⟩)
    by_cases q : a = i ∧ b = i
    · rw [if_pos q]
      symm
      exact decide_eq_true (by omega)
    · rw [if_neg q]
      apply decide_eq_decide.mpr
      omega
  rintro z ⟨hf, h, h7⟩
  show Ok (b_X4_learn_10 (nI 4) z) _
  unfold b_X4_learn_10
  refine Ok.ifp (show (4 : Int32) ≤ nI 4 from nI_le (a := 4) (Nat.le_refl _) (by omega)) (Ok.inr ?_)
  have h : XU z.1 (uA t 0) := h.congr (fun a b ha hb => by
    show _ = decide (a = b)
    apply decide_eq_decide.mpr
    omega)
  refine Ok.for (f := fun v => b_X4_learn_36 v.1 v.2) (i := 0) ax (fun a z => Fr6 x0 z ∧ XU z.1 (uA t a) ∧ z.1 7 = x0.1 7) ?_ ?_ (Nat.zero_le _) ⟨hf, h, h7⟩
  · rintro a z ha ⟨hf, h, h7⟩
    have hNz := hf.xn hN
    have hwa := hw.ax ha
    show Ok (b_X4_learn_36 (nI a) z) _
    unfold b_X4_learn_36
    refine Ok.ifn (show ¬ z.1 32 0 ≤ nI a by rw [hNz.2.1]; exact nI_ge ha (by omega)) ?_
    have e0 : t_X0_holdingOf z (nI a) 1 = _ := xholdOf_ok hNz hw ha (k := 1) (by omega)
    rw [e0, xa1_ok hNz hw ha, xa2_ok hNz hw ha]
    by_cases q : t 7 a = 1 ∧ t 3 a = 1
    · rw [if_pos q]
      refine Ok.ifn (by decide) ?_
      rw [xput6 (by omega) (by omega)]
      refine Ok.bindE rfl (Ok.go ⟨nI_1 a, hf.sA6 _, (h.set (by omega) (by omega)).congr (fun r s hr hs => (uA_hit q.1 q.2 r s).symm), h7⟩)
    · rw [if_neg q]
      exact Ok.ifp rfl (Ok.go ⟨nI_1 a, hf, h.congr (fun r s _ _ => (uA_miss q r s).symm), h7⟩)
  rintro z ⟨hf, h, h7⟩
  have hNz := hf.xn hN
  show Ok (b_X4_learn_36 (nI ax) z) _
  unfold b_X4_learn_36
  refine Ok.ifp (show z.1 32 0 ≤ nI ax by rw [hNz.2.1]; exact nI_le (Nat.le_refl _) (by omega)) (Ok.inr ?_)
  refine Ok.for (f := fun v => b_X4_learn_84 v.1 v.2) (i := 0) 4 (fun j z => Fr6 x0 z ∧ XU z.1 (wJ (uA t ax) j) ∧ z.1 7 = x0.1 7) ?_ ?_ (Nat.zero_le _) ⟨hf, h, h7⟩
  · rintro j z hj ⟨hf, h, h7⟩
    show Ok (b_X4_learn_84 (nI j) z) _
    unfold b_X4_learn_84
    refine Ok.ifn (show ¬ (4 : Int32) ≤ nI j from nI_ge (b := 4) hj (by omega)) (Ok.bind (join_ok hj hf h h7) (fun z' hz' => Ok.go ⟨nI_1 j, hz'⟩))
  rintro z ⟨hf, h, h7⟩
  show Ok (b_X4_learn_84 (nI 4) z) _
  unfold b_X4_learn_84
  refine Ok.ifp (show (4 : Int32) ≤ nI 4 from nI_le (a := 4) (Nat.le_refl _) (by omega)) ?_
  refine Ok.bind (P := fun z => Fr6 x0 z ∧ XU z.1 (uT t ax) ∧ XLC z.1 t (uT t ax) (fun _ _ => 0)) ((fill_ok 64 (by omega) (z.1 7) (-1)).map (fun f2 hf2 => ⟨hf.sA7 f2, h, fun r s u hr hs hu => ⟨0, ?_, Or.inl ⟨rfl, fun a ha => absurd ha (Nat.not_lt_zero a)⟩⟩⟩)) ?_
  · rw [nO_0]
    exact hf2 _ (by omega)
  rintro z ⟨hf, h, hl⟩
  refine Ok.inr ?_
  refine Ok.for (f := fun v => b_X4_learn_110 v.1 v.2) (i := 0) ax (fun a z => Fr6 x0 z ∧ XU z.1 (uT t ax) ∧ XLC z.1 t (uT t ax) (fun _ _ => a)) ?_ ?_ (Nat.zero_le _) ⟨hf, h, hl⟩
  · rintro a z ha ⟨hf, h, hl⟩
    have hNz := hf.xn hN
    have hwa := hw.ax ha
    show Ok (b_X4_learn_110 (nI a) z) _
    unfold b_X4_learn_110
    refine Ok.ifn (show ¬ z.1 32 0 ≤ nI a by rw [hNz.2.1]; exact nI_ge ha (by omega)) ?_
    have e0 : t_X0_holdingOf z (nI a) 2 = _ := xholdOf_ok hNz hw ha (k := 2) (by omega)
    rw [e0, xa1_ok hNz hw ha, xa2_ok hNz hw ha, xa3_ok hNz hw ha]
    by_cases q : t 7 a = 1 ∧ t 3 a = 2
    · rw [if_pos q]
      have e6 : tv6 t a = nI (t 6 a) := by unfold tv6; rw [if_pos q.2]
      rw [e6]
      refine Ok.ifn (by decide) (Ok.bind (learnChain_ok (by omega) q.1 q.2 (by omega) (by omega) (by omega) hf h hl) (fun z' hz' => Ok.go ⟨nI_1 a, hz'⟩))
    · rw [if_neg q]
      refine Ok.ifp rfl (Ok.go ⟨nI_1 a, hf, h, fun r s u hr hs hu => ?_⟩)
      obtain ⟨v, v1, v2⟩ := hl r s u hr hs hu
      exact ⟨v, v1, LC.miss v2 (fun w => q ⟨w.1, w.2.1⟩)⟩
  rintro z ⟨hf, h, hl⟩
  have hNz := hf.xn hN
  show Ok (b_X4_learn_110 (nI ax) z) _
  unfold b_X4_learn_110
  refine Ok.ifp (show z.1 32 0 ≤ nI ax by rw [hNz.2.1]; exact nI_le (Nat.le_refl _) (by omega)) (Ok.end ⟨hf, h, ?_⟩)
  exact hl.ch h40
def Fr26 (m z : MS) : Prop := ∀ k, k ≠ 26 → z k = m k
theorem Fr26.set {m z : MS} (h : Fr26 m z) (f : Nat → Int32) : Fr26 m (mA z 26 f) := fun k hk => by
  unfold mA
  rw [if_neg hk]
  exact h k hk
theorem Fr26.mn {m z : MS} (f : Fr26 m z) (h : MN m t n ax) : MN z t n ax := by
  obtain ⟨h1, h2, h3, h4⟩ := h
  refine ⟨?_, ?_, fun i hi => ?_, fun a ha => ?_⟩
  · rw [f 0 (by omega)]; exact h1
  · rw [f 5 (by omega)]; exact h2
  · rw [f 2 (by omega), f 3 (by omega), f 4 (by omega)]; exact h3 i hi
  · rw [f 6 (by omega), f 7 (by omega), f 8 (by omega), f 9 (by omega), f 10 (by omega)]; exact h4 a ha
theorem MU.set {z : MS} {U : Nat → Nat → Bool} (h : MU z U) {i s : Nat} (hi : i < 4) (hs : s < 4) (v : Bool) : MU (mA z 26 (upd (z 26) (4 * i + s) (if v = true then 1 else 0))) (fun a b => if a = i ∧ b = s then v else U a b) := by
  intro a b ha hb
  show upd (z 26) (4 * i + s) (if v = true then 1 else 0) (4 * a + b) = _
  by_cases q : a = i ∧ b = s
  · obtain ⟨rfl, rfl⟩ := q
    rw [pk_us]
    simp
  · rw [pk_un (by omega), h a b ha hb]
    simp [q]
theorem MU.congr {x : MS} {U U' : Nat → Nat → Bool} (h : MU x U) (e : ∀ a b, a < 4 → b < 4 → U a b = U' a b) : MU x U' := fun a b ha hb => by rw [← e a b ha hb]; exact h a b ha hb
theorem rdU2 {z : MS} {U : Nat → Nat → Bool} (h : MU z U) {r s : Nat} (hr : r < 4) (hs : s < 4) : rd 16 (z 26) ((4 : Int32) * nI r + nI s) = some (if U r s = true then 1 else 0) := by
  have e : (4 : Int32) * nI r + nI s = nI (4 * r + s) := by
    show nI 4 * nI r + nI s = _
    rw [nI_mul, nI_add]
  rw [e, rd_nI (by omega) (by omega), h r s hr hs]
theorem wr26 {z : MS} {r s : Nat} (hr : r < 4) (hs : s < 4) (v : Int32) : mwr z 26 16 ((4 : Int32) * nI r + nI s) v = some (mA z 26 (upd (z 26) (4 * r + s) v)) := by
  have e : (4 : Int32) * nI r + nI s = nI (4 * r + s) := by
    show nI 4 * nI r + nI s = _
    rw [nI_mul, nI_add]
  rw [e, mwr_nI (by omega) (by omega)]
theorem close_ok {m : MS} (hw : Wf t n ax) (hN : MN m t n ax) : Ok (f_X7_closeRoles m) (fun z => Fr26 m z ∧ MU z (uT t ax)) := by
  have h40 := hw.a40
  unfold f_X7_closeRoles
  refine Ok.for (f := fun v => b_X7_closeRoles_2 v.1 v.2) (i := 0) 16 (fun i z => Fr26 m z ∧ ∀ r s, r < 4 → s < 4 → 4 * r + s < i → z 26 (4 * r + s) = if r = s then 1 else 0) ?_ ?_ (Nat.zero_le _) ⟨fun _ _ => rfl, fun r s _ _ h => absurd h (Nat.not_lt_zero _)⟩
  · rintro i z hi ⟨hf, h⟩
    show Ok (b_X7_closeRoles_2 (nI i) z) _
    unfold b_X7_closeRoles_2
    refine Ok.ifn (show ¬ (16 : Int32) ≤ nI i from nI_ge (b := 16) hi (by omega)) ?_
    have e1 : nI i / (4 : Int32) = nI (i / 4) := nI_div (b := 4) (by omega) (by omega)
    have e2 : nI i - nI (i / 4) * (4 : Int32) = nI (i - i / 4 * 4) := by
      show nI i - nI (i / 4) * nI 4 = _
      rw [nI_mul, nI_sub (by omega)]
    rw [e1, e2]
    have ee : nI (i / 4) = nI (i - i / 4 * 4) ↔ i / 4 = i - i / 4 * 4 := nI_eq (by omega) (by omega)
    have nxt : ∀ v : Int32, v = (if i / 4 = i - i / 4 * 4 then 1 else 0) → ∀ r s, r < 4 → s < 4 → 4 * r + s < i + 1 → upd (z 26) i v (4 * r + s) = if r = s then 1 else 0 := by
      intro v hv r s hr hs hlt
      by_cases q : 4 * r + s = i
      · rw [q, pk_us, hv]
        by_cases w : r = s
        · rw [if_pos w, if_pos (by omega)]
        · rw [if_neg w, if_neg (by omega)]
      · rw [pk_un q]
        exact h r s hr hs (by omega)
    by_cases q : i / 4 = i - i / 4 * 4
    · exact Ok.ifp (ee.mpr q) (Ok.bindE (mwr_nI hi (by omega)) (Ok.go ⟨nI_1 i, hf.set _, nxt 1 (by rw [if_pos q])⟩))
    · exact Ok.ifn (fun w => q (ee.mp w)) (Ok.bindE (mwr_nI hi (by omega)) (Ok.go ⟨nI_1 i, hf.set _, nxt 0 (by rw [if_neg q])⟩))
  rintro z ⟨hf, h⟩
  show Ok (b_X7_closeRoles_2 (nI 16) z) _
  unfold b_X7_closeRoles_2
  refine Ok.ifp (show (16 : Int32) ≤ nI 16 from nI_le (a := 16) (Nat.le_refl _) (by omega)) (Ok.inr ?_)
  have h : MU z (uA t 0) := fun r s hr hs => by
    rw [h r s hr hs (by omega)]
    show _ = if decide (r = s) = true then 1 else 0
    by_cases q : r = s <;> simp [q]
  refine Ok.for (f := fun v => b_X7_closeRoles_36 v.1 v.2) (i := 0) ax (fun a z => Fr26 m z ∧ MU z (uA t a)) ?_ ?_ (Nat.zero_le _) ⟨hf, h⟩
  · rintro a z ha ⟨hf, h⟩
    have hNz := hf.mn hN
    have hwa := hw.ax ha
    have h3 := hw.s3 ha
    have h7 := hw.h7 ha
    obtain ⟨a3, a4, a5, a6, a7⟩ := hNz.2.2.2 a ha
    show Ok (b_X7_closeRoles_36 (nI a) z) _
    unfold b_X7_closeRoles_36
    refine Ok.ifn (show ¬ z 5 0 ≤ nI a by rw [hNz.2.1]; exact nI_ge ha (by omega)) (Ok.bindE (rd_nI (by omega) (by omega)) ?_)
    rw [a7]
    have e7 : nI (t 7 a) = (0 : Int32) ↔ t 7 a = 0 := nI_eq (b := 0) (by omega) (by omega)
    by_cases q7 : t 7 a = 0
    · exact Ok.ifp (e7.mpr q7) (Ok.go ⟨nI_1 a, hf, h.congr (fun r s _ _ => (uA_miss (fun w => by omega) r s).symm)⟩)
    · refine Ok.ifn (fun w => q7 (e7.mp w)) (Ok.bindE (rd_nI (by omega) (by omega)) ?_)
      rw [a3]
      have e3 : nI (t 3 a) = (1 : Int32) ↔ t 3 a = 1 := nI_eq (b := 1) (by omega) (by omega)
      by_cases q3 : t 3 a = 1
      · refine Ok.ifp (e3.mpr q3) (Ok.bindE (rd_nI (by omega) (by omega)) (Ok.bindE (rd_nI (by omega) (by omega)) ?_))
        rw [a4, a5]
        refine Ok.bindE (wr26 (by omega) (by omega) 1) (Ok.go ⟨nI_1 a, hf.set _, MU.congr (h.set (by omega) (by omega) true) (fun r s _ _ => (uA_hit (by omega) q3 r s).symm)⟩)
      · exact Ok.ifn (fun w => q3 (e3.mp w)) (Ok.go ⟨nI_1 a, hf, h.congr (fun r s _ _ => (uA_miss (fun w => q3 w.2) r s).symm)⟩)
  rintro z ⟨hf, h⟩
  have hNz := hf.mn hN
  show Ok (b_X7_closeRoles_36 (nI ax) z) _
  unfold b_X7_closeRoles_36
  refine Ok.ifp (show z 5 0 ≤ nI ax by rw [hNz.2.1]; exact nI_le (Nat.le_refl _) (by omega)) (Ok.inr ?_)
  refine Ok.for (f := fun v => b_X7_closeRoles_92 v.1 v.2) (i := 0) 4 (fun j z => Fr26 m z ∧ MU z (wJ (uA t ax) j)) ?_ ?_ (Nat.zero_le _) ⟨hf, h⟩
  · rintro j z hj ⟨hf, h⟩
    show Ok (b_X7_closeRoles_92 (nI j) z) _
    unfold b_X7_closeRoles_92
    refine Ok.ifn (show ¬ (4 : Int32) ≤ nI j from nI_ge (b := 4) hj (by omega)) ?_
    refine Ok.for (f := fun v => b_X7_closeRoles_99 (nI j) v.1 v.2) (i := 0) 4 (fun i z => Fr26 m z ∧ MU z (wI (wJ (uA t ax) j) j i)) ?_ ?_ (Nat.zero_le _) ⟨hf, h⟩
    · rintro i z hi ⟨hf, h⟩
      show Ok (b_X7_closeRoles_99 (nI j) (nI i) z) _
      unfold b_X7_closeRoles_99
      refine Ok.ifn (show ¬ (4 : Int32) ≤ nI i from nI_ge (b := 4) hi (by omega)) ?_
      refine Ok.for (f := fun v => b_X7_closeRoles_106 (nI j) (nI i) v.1 v.2) (i := 0) 4 (fun s z => Fr26 m z ∧ MU z (wS (wI (wJ (uA t ax) j) j i) j i s)) ?_ ?_ (Nat.zero_le _) ⟨hf, h⟩
      · rintro s z hs ⟨hf, h⟩
        generalize hWW : wI (wJ (uA t ax) j) j i = W at h ⊢
        show Ok (b_X7_closeRoles_106 (nI j) (nI i) (nI s) z) _
        unfold b_X7_closeRoles_106
        refine Ok.ifn (show ¬ (4 : Int32) ≤ nI s from nI_ge (b := 4) hs (by omega)) (Ok.bindE (rdU2 h hi hs) ?_)
        have fin : ∀ (v : Bool) (w : Int32), w = (if v = true then 1 else 0) → v = (wS W j i s i s || (wS W j i s i j && wS W j i s j s)) → Ok (Option.bind (mwr z 26 16 ((4 : Int32) * nI i + nI s) w) (fun r11 => some (Sum.inl ((nI s + 1), r11)))) (NxS (S := Int32 × MS) (R := (Int32 × MS) ⊕ ((Int32 × MS) ⊕ MS)) (fun v => v.1 = nI (s + 1) ∧ Fr26 m v.2 ∧ MU v.2 (wS W j i (s + 1))) (NxS (fun v => v.1 = nI (i + 1) ∧ Fr26 m v.2 ∧ MU v.2 (wI (wJ (uA t ax) j) j (i + 1))) (NxS (fun v => v.1 = nI (j + 1) ∧ Fr26 m v.2 ∧ MU v.2 (wJ (uA t ax) (j + 1))) (fun z => Fr26 m z ∧ MU z (uT t ax))))) := by
          rintro v w rfl rfl
          exact Ok.bindE (wr26 hi hs _) (Ok.go ⟨nI_1 s, hf.set _, h.set hi hs _⟩)
        by_cases q0 : wS W j i s i s = true
        · rw [if_pos q0]
          exact Ok.ifn (by decide) (fin true 1 rfl (by rw [q0]; rfl))
        · have q0' : wS W j i s i s = false := by simpa using q0
          rw [if_neg q0]
          refine Ok.ifp rfl (Ok.bindE (rdU2 h hi hj) ?_)
          by_cases q1 : wS W j i s i j = true
          · rw [if_pos q1]
            refine Ok.ifn (by decide) (Ok.bindE (rdU2 h hj hs) ?_)
            by_cases q2 : wS W j i s j s = true
            · rw [if_pos q2]
              exact Ok.ifn (by decide) (fin true 1 rfl (by rw [q1, q2]; simp))
            · have q2' : wS W j i s j s = false := by simpa using q2
              rw [if_neg q2]
              exact Ok.ifp rfl (fin false 0 rfl (by rw [q0', q2']; simp))
          · have q1' : wS W j i s i j = false := by simpa using q1
            rw [if_neg q1]
            exact Ok.ifp rfl (fin false 0 rfl (by rw [q0', q1']; rfl))
      · rintro z hz
        show Ok (b_X7_closeRoles_106 (nI j) (nI i) (nI 4) z) _
        unfold b_X7_closeRoles_106
        exact Ok.ifp (show (4 : Int32) ≤ nI 4 from nI_le (a := 4) (Nat.le_refl _) (by omega)) (Ok.end (Or.inl ⟨_, rfl, nI_1 i, hz⟩))
    · rintro z hz
      show Ok (b_X7_closeRoles_99 (nI j) (nI 4) z) _
      unfold b_X7_closeRoles_99
      exact Ok.ifp (show (4 : Int32) ≤ nI 4 from nI_le (a := 4) (Nat.le_refl _) (by omega)) (Ok.end (Or.inl ⟨_, rfl, nI_1 j, hz⟩))
  · rintro z hz
    show Ok (b_X7_closeRoles_92 (nI 4) z) _
    unfold b_X7_closeRoles_92
    exact Ok.ifp (show (4 : Int32) ≤ nI 4 from nI_le (a := 4) (Nat.le_refl _) (by omega)) (Ok.end hz)
end ROLES2
