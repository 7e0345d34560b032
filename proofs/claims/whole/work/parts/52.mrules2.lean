/-! the model's rules 2 to 4 -/
section MRULES2
variable {m z : MS} {t : Th} {n ax K : Nat} {pl num : Nat → Nat} {U : Nat → Nat → Bool}
theorem rdS (hw : Wf t n ax) (hB : BC z t n ax K pl num U) {i : Nat} (hi : i < n) : rd 28 (z 2) (nI i) = some (nI (t 0 i)) := by
  have h20 := hw.n20
  rw [rd_nI (by omega) (by omega), (hB.1.2.2.1 i hi).1]
theorem rdP1 (hw : Wf t n ax) (hB : BC z t n ax K pl num U) {i : Nat} (hi : i < n) : rd 28 (z 3) (nI i) = some (tv1 t i) := by
  have h20 := hw.n20
  rw [rd_nI (by omega) (by omega), (hB.1.2.2.1 i hi).2.1]
theorem rdP2 (hw : Wf t n ax) (hB : BC z t n ax K pl num U) {i : Nat} (hi : i < n) : rd 28 (z 4) (nI i) = some (tv2 t i) := by
  have h20 := hw.n20
  rw [rd_nI (by omega) (by omega), (hB.1.2.2.1 i hi).2.2]
theorem rdA3 (hw : Wf t n ax) (hB : BC z t n ax K pl num U) {a : Nat} (ha : a < ax) : rd 40 (z 6) (nI a) = some (nI (t 3 a)) := by
  have h40 := hw.a40
  rw [rd_nI (by omega) (by omega), (hB.1.2.2.2 a ha).1]
theorem rdA4 (hw : Wf t n ax) (hB : BC z t n ax K pl num U) {a : Nat} (ha : a < ax) : rd 40 (z 7) (nI a) = some (nI (t 4 a)) := by
  have h40 := hw.a40
  rw [rd_nI (by omega) (by omega), (hB.1.2.2.2 a ha).2.1]
theorem rdA5 (hw : Wf t n ax) (hB : BC z t n ax K pl num U) {a : Nat} (ha : a < ax) : rd 40 (z 8) (nI a) = some (nI (t 5 a)) := by
  have h40 := hw.a40
  rw [rd_nI (by omega) (by omega), (hB.1.2.2.2 a ha).2.2.1]
theorem rdA6 (hw : Wf t n ax) (hB : BC z t n ax K pl num U) {a : Nat} (ha : a < ax) : rd 40 (z 9) (nI a) = some (tv6 t a) := by
  have h40 := hw.a40
  rw [rd_nI (by omega) (by omega), (hB.1.2.2.2 a ha).2.2.2.1]
theorem rdA7 (hw : Wf t n ax) (hB : BC z t n ax K pl num U) {a : Nat} (ha : a < ax) : rd 40 (z 10) (nI a) = some (nI (t 7 a)) := by
  have h40 := hw.a40
  rw [rd_nI (by omega) (by omega), (hB.1.2.2.2 a ha).2.2.2.2]
theorem rdIs (hw : Wf t n ax) (hB : BC z t n ax K pl num U) {x d : Nat} (hx : x < n) (hd : d < n) : rd 784 (z 16) ((28 : Int32) * nI x + nI d) = some (nO (num (100 * x + d))) := by
  have h20 := hw.n20
  have e : (28 : Int32) * nI x + nI d = nI (28 * x + d) := by
    show nI 28 * nI x + nI d = _
    rw [nI_mul, nI_add]
  rw [e, rd_nI (by omega) (by omega), hB.2.2.2.1.1 x d hx hd]
theorem rdU (hB : BC z t n ax K pl num U) {r s : Nat} (hr : r < 4) (hs : s < 4) : rd 16 (z 26) ((4 : Int32) * nI r + nI s) = some (if U r s = true then 1 else 0) := by
  have e : (4 : Int32) * nI r + nI s = nI (4 * r + s) := by
    show nI 4 * nI r + nI s = _
    rw [nI_mul, nI_add]
  rw [e, rd_nI (by omega) (by omega), hB.2.2.2.2 r s hr hs]
theorem factK (hB : BC z t n ax K pl num U) (hP : PN n K pl num) {k : Nat} (hk : k < K) : f_X7_fact z (nI k) 0 = some (if rh (pl k) = 0 then 0 else 1) := by
  have hK := hP.1
  have e : f_X7_fact z (nI k) 0 = _ := fact_ok (w := 0) (by omega) (by omega)
  rw [e]
  show some (z 15 (9 * k)) = _
  rw [(hB.2.2.1 k hk).1]
  split <;> rfl
theorem factX (hB : BC z t n ax K pl num U) (hP : PN n K pl num) {k : Nat} (hk : k < K) : f_X7_fact z (nI k) 1 = some (nI (sb (pl k))) := by
  have hK := hP.1
  have e : f_X7_fact z (nI k) 1 = _ := fact_ok (w := 1) (by omega) (by omega)
  rw [e, (hB.2.2.1 k hk).2.1]
theorem factD (hB : BC z t n ax K pl num U) (hP : PN n K pl num) {k : Nat} (hk : k < K) : f_X7_fact z (nI k) 2 = some (nI (ob (pl k))) := by
  have hK := hP.1
  have e : f_X7_fact z (nI k) 2 = _ := fact_ok (w := 2) (by omega) (by omega)
  rw [e, (hB.2.2.1 k hk).2.2.1]
theorem factR (hB : BC z t n ax K pl num U) (hP : PN n K pl num) {k : Nat} (hk : k < K) : f_X7_fact z (nI k) 3 = some (nO (rh (pl k))) := by
  have hK := hP.1
  have e : f_X7_fact z (nI k) 3 = _ := fact_ok (w := 3) (by omega) (by omega)
  rw [e, (hB.2.2.1 k hk).2.2.2]
def gM2 (num : Nat → Nat) (t : Th) (pl : Nat → Nat) (k : Nat) : Nat → Nat → Prop := fun p c => num p = 0 ∧ rh (pl k) = 0 ∧ t 0 (ob (pl k)) = 3 ∧ (p = 100 * sb (pl k) + t 1 (ob (pl k)) ∨ p = 100 * sb (pl k) + t 2 (ob (pl k))) ∧ c = cod 2 (k + 1) 0 0
def gM3 (num : Nat → Nat) (t : Th) (x h : Nat) : Nat → Nat → Prop := fun p c => num p = 0 ∧ t 0 h = 3 ∧ num (100 * x + t 1 h) ≠ 0 ∧ num (100 * x + t 2 h) ≠ 0 ∧ p = 100 * x + h ∧ c = cod 3 (num (100 * x + t 1 h)) (num (100 * x + t 2 h)) 0
def gM4 (num : Nat → Nat) (t : Th) (pl : Nat → Nat) (k a : Nat) : Nat → Nat → Prop := fun p c => num p = 0 ∧ rh (pl k) = 0 ∧ t 7 a = 1 ∧ t 3 a = 0 ∧ t 4 a = ob (pl k) ∧ p = 100 * sb (pl k) + t 5 a ∧ c = cod 4 (k + 1) 0 (a + 1)
theorem bnd2 (hK : K ≤ 2000) : Bnd (UpTo K (gM2 num t pl)) (3 * 268435456) := Bnd.upTo (fun k hk p c ⟨_, _, _, _, hc⟩ => by rw [hc]; unfold cod; omega)
theorem bnd3 (hw : Wf t n ax) (hP : PN n K pl num) : Bnd (UpTo n (fun x => UpTo n (gM3 num t x))) (4 * 268435456) := by
  have h20 := hw.n20
  have hK := hP.1
  refine Bnd.upTo (fun x hx => Bnd.upTo (fun h hh p c => ?_))
  rintro ⟨-, q3, -, -, -, hc⟩
  have hm := hw.meet hh q3
  have h1 := (hP.2.2 (100 * x + t 1 h) (by omega)).1
  have h2 := (hP.2.2 (100 * x + t 2 h) (by omega)).1
  rw [hc]; unfold cod; omega
theorem bnd4 (hw : Wf t n ax) (hK : K ≤ 2000) : Bnd (UpTo K (fun k => UpTo ax (gM4 num t pl k))) (5 * 268435456) := by
  have h40 := hw.a40
  exact Bnd.upTo (fun k hk => Bnd.upTo (fun a ha p c ⟨_, _, _, _, _, _, hc⟩ => by rw [hc]; unfold cod; omega))
theorem ofMeets_ok (hw : Wf t n ax) (hB : BC m t n ax K pl num U) (hP : PN n K pl num) {S : Nat → Nat → Prop} (hS : Bnd S (2 * 268435456)) (hz : MO n m S z) :
    Ok (f_X7_ofMeets z) (MO n m (Uni (Uni S (UpTo K (gM2 num t pl))) (UpTo n (fun x => UpTo n (gM3 num t x))))) := by
  have h20 := hw.n20
  have hK := hP.1
  unfold f_X7_ofMeets
  refine finLoop (b := b_X7_ofMeets_2) K (gM2 num t pl) ?_ ?_ hz
  · intro k z hk hz
    have hBz := hB.fr hz.1
    obtain ⟨hs, ho, -⟩ := hP.2.1 k hk
    have h5 := hw.s5 ho
    unfold b_X7_ofMeets_2
    refine Ok.ifn (show ¬ z 13 0 ≤ nI k by rw [hBz.2.1]; exact nI_ge hk (by omega)) ?_
    refine Ok.bindE (factD hBz hP hk) (Ok.bindE (factK hBz hP hk) ?_)
    by_cases q : rh (pl k) = 0
    · rw [if_pos q]
      refine Ok.ifp rfl (Ok.bindE (rdS hw hBz ho) ?_)
      have e3 : nI (t 0 (ob (pl k))) = (3 : Int32) ↔ t 0 (ob (pl k)) = 3 := nI_eq (b := 3) (by omega) (by omega)
      by_cases q3 : t 0 (ob (pl k)) = 3
      · have hm := hw.meet ho q3
        refine Ok.ifp (e3.mpr q3) (Ok.bindE (factX hBz hP hk) (Ok.bindE (rdP1 hw hBz ho) ?_))
        rw [tv1_3 (by omega)]
        have mono : ∀ p, p < 2000 → ∀ c, Uni S (UpTo k (gM2 num t pl)) p c → c ≤ cod 2 (k + 1) 0 0 := by
          rintro p hp c (h | ⟨j, hj, -, -, -, -, hc⟩)
          · have := hS _ c h; unfold cod; omega
          · rw [hc]; unfold cod; omega
        have f1 := findIs_ok hw hB hP hz (x := sb (pl k)) (d := t 1 (ob (pl k))) (ru := 2) (f := k + 1) (s := 0) (a := 0) hs (by omega) (by omega) (by omega) (by omega) (by omega) (mono _ (by omega))
        rw [nO_0, nO_s] at f1
        refine Ok.bind f1 (fun z1 h1 => ?_)
        have hBz1 := hB.fr h1.1
        refine Ok.bindE (factX hBz1 hP hk) (Ok.bindE (rdP2 hw hBz1 ho) ?_)
        rw [tv2_3 (by omega)]
        have f2 := findIs_ok hw hB hP h1 (x := sb (pl k)) (d := t 2 (ob (pl k))) (ru := 2) (f := k + 1) (s := 0) (a := 0) hs (by omega) (by omega) (by omega) (by omega) (by omega) (by
          rintro c (h | ⟨-, -, rfl⟩)
          · exact mono _ (by omega) c h
          · exact Nat.le_refl _)
        rw [nO_0, nO_s] at f2
        refine Ok.bind f2 (fun z2 h2 => Ok.go ⟨nI_1 k, h2.to (fun p c => ?_)⟩)
        constructor
        · rintro ((h | ⟨g1, g2, g3⟩) | ⟨g1, g2, g3⟩)
          · exact Or.inl h
          · exact Or.inr ⟨g1, q, q3, Or.inl g2, g3⟩
          · exact Or.inr ⟨g1, q, q3, Or.inr g2, g3⟩
        · rintro (h | ⟨g1, -, -, g2 | g2, g3⟩)
          · exact Or.inl (Or.inl h)
          · exact Or.inl (Or.inr ⟨g1, g2, g3⟩)
          · exact Or.inr ⟨g1, g2, g3⟩
      · exact Ok.ifn (fun w => q3 (e3.mp w)) (Ok.go ⟨nI_1 k, hz.skip (fun p c h => q3 h.2.2.1)⟩)
    · rw [if_neg q]
      exact Ok.ifn (by decide) (Ok.go ⟨nI_1 k, hz.skip (fun p c h => q h.2.1)⟩)
  · intro z hz
    have hBz := hB.fr hz.1
    unfold b_X7_ofMeets_2
    refine Ok.ifp (show z 13 0 ≤ nI K by rw [hBz.2.1]; exact nI_le (Nat.le_refl _) (by omega)) (Ok.inr ?_)
    have hS2 : Bnd (Uni S (UpTo K (gM2 num t pl))) (3 * 268435456) := (hS.up (by omega)).uni (bnd2 hK)
    refine finLoop (b := b_X7_ofMeets_84) n (fun x => UpTo n (gM3 num t x)) ?_ ?_ hz
    · intro x z hx hz
      have hBz := hB.fr hz.1
      unfold b_X7_ofMeets_84
      refine Ok.ifn (show ¬ z 0 0 ≤ nI x by rw [hBz.1.1]; exact nI_ge hx (by omega)) ?_
      refine finLoop (b := b_X7_ofMeets_94 (nI x)) n (gM3 num t x) ?_ ?_ hz
      · intro h z hh hz
        have hBz := hB.fr hz.1
        have h5 := hw.s5 hh
        unfold b_X7_ofMeets_94
        refine Ok.ifn (show ¬ z 0 0 ≤ nI h by rw [hBz.1.1]; exact nI_ge hh (by omega)) (Ok.bindE (rdS hw hBz hh) ?_)
        have e3 : nI (t 0 h) = (3 : Int32) ↔ t 0 h = 3 := nI_eq (b := 3) (by omega) (by omega)
        by_cases q3 : t 0 h = 3
        · have hm := hw.meet hh q3
          refine Ok.ifp (e3.mpr q3) (Ok.bindE (rdP1 hw hBz hh) ?_)
          rw [tv1_3 (by omega)]
          have n1 := (hP.2.2 (100 * x + t 1 h) (by omega)).1
          have n2 := (hP.2.2 (100 * x + t 2 h) (by omega)).1
          refine Ok.bindE (rdIs hw hBz hx (by omega)) ?_
          by_cases q1 : num (100 * x + t 1 h) = 0
          · exact Ok.ifp ((nO_m1 (by omega)).mpr q1) (Ok.go ⟨nI_1 h, hz.skip (fun p c w => w.2.2.1 q1)⟩)
          · refine Ok.ifn (fun w => q1 ((nO_m1 (by omega)).mp w)) (Ok.bindE (rdP2 hw hBz hh) ?_)
            rw [tv2_3 (by omega)]
            refine Ok.bindE (rdIs hw hBz hx (by omega)) ?_
            by_cases q2 : num (100 * x + t 2 h) = 0
            · exact Ok.ifp ((nO_m1 (by omega)).mpr q2) (Ok.go ⟨nI_1 h, hz.skip (fun p c w => w.2.2.2.1 q2)⟩)
            · refine Ok.ifn (fun w => q2 ((nO_m1 (by omega)).mp w)) (Ok.bindE (rdP1 hw hBz hh) ?_)
              rw [tv1_3 (by omega)]
              refine Ok.bindE (rdIs hw hBz hx (by omega)) (Ok.bindE (rdP2 hw hBz hh) ?_)
              rw [tv2_3 (by omega)]
              refine Ok.bindE (rdIs hw hBz hx (by omega)) ?_
              have f1 := findIs_ok hw hB hP hz (x := x) (d := h) (ru := 3) (f := num (100 * x + t 1 h)) (s := num (100 * x + t 2 h)) (a := 0) hx hh (by omega) (by omega) (by omega) (by omega) (by
                rintro c ((w | ⟨x', hx', h', hh', -, -, -, -, e, -⟩) | ⟨h', hh', -, -, -, -, e, -⟩)
                · have := hS2 _ c w; unfold cod; omega
                · omega
                · omega)
              rw [nO_0] at f1
              refine Ok.bind f1 (fun z1 h1 => Ok.go ⟨nI_1 h, h1.one (fun p c => ?_)⟩)
              exact ⟨fun w => ⟨w.1, q3, q1, q2, w.2.1, w.2.2⟩, fun w => ⟨w.1, w.2.2.2.2.1, w.2.2.2.2.2⟩⟩
        · exact Ok.ifn (fun w => q3 (e3.mp w)) (Ok.go ⟨nI_1 h, hz.skip (fun p c w => q3 w.2.1)⟩)
      · intro z hz
        have hBz := hB.fr hz.1
        unfold b_X7_ofMeets_94
        exact Ok.ifp (show z 0 0 ≤ nI n by rw [hBz.1.1]; exact nI_le (Nat.le_refl _) (by omega)) (Ok.end (Or.inl ⟨_, rfl, nI_1 x, hz⟩))
    · intro z hz
      have hBz := hB.fr hz.1
      unfold b_X7_ofMeets_84
      exact Ok.ifp (show z 0 0 ≤ nI n by rw [hBz.1.1]; exact nI_le (Nat.le_refl _) (by omega)) (Ok.end hz)
theorem ofAxioms_ok (hw : Wf t n ax) (hB : BC m t n ax K pl num U) (hP : PN n K pl num) {S : Nat → Nat → Prop} (hS : Bnd S (4 * 268435456)) (hz : MO n m S z) :
    Ok (f_X7_ofAxioms z) (MO n m (Uni S (UpTo K (fun k => UpTo ax (gM4 num t pl k))))) := by
  have h20 := hw.n20
  have h40 := hw.a40
  have hK := hP.1
  unfold f_X7_ofAxioms
  refine finLoop (b := b_X7_ofAxioms_2) K (fun k => UpTo ax (gM4 num t pl k)) ?_ ?_ hz
  · intro k z hk hz
    have hBz := hB.fr hz.1
    obtain ⟨hs, ho, -⟩ := hP.2.1 k hk
    have hob := ob_lt (pl k)
    unfold b_X7_ofAxioms_2
    refine Ok.ifn (show ¬ z 13 0 ≤ nI k by rw [hBz.2.1]; exact nI_ge hk (by omega)) ?_
    by_cases q : rh (pl k) = 0
    · refine finLoop (b := b_X7_ofAxioms_12 (nI k)) ax (gM4 num t pl k) ?_ ?_ hz
      · intro a z ha hz
        have hBz := hB.fr hz.1
        have h3 := hw.s3 ha
        have h7 := hw.h7 ha
        have hwa := hw.ax ha
        unfold b_X7_ofAxioms_12
        refine Ok.ifn (show ¬ z 5 0 ≤ nI a by rw [hBz.1.2.1]; exact nI_ge ha (by omega)) (Ok.bindE (factK hBz hP hk) ?_)
        rw [if_pos q]
        refine Ok.ifp rfl (Ok.bindE (rdA7 hw hBz ha) ?_)
        have e7 : nI (t 7 a) = (0 : Int32) ↔ t 7 a = 0 := nI_eq (b := 0) (by omega) (by omega)
        by_cases q7 : t 7 a = 0
        · exact Ok.ifp (e7.mpr q7) (Ok.go ⟨nI_1 a, hz.skip (fun p c w => by have := w.2.2.1; omega)⟩)
        · refine Ok.ifn (fun w => q7 (e7.mp w)) (Ok.bindE (rdA3 hw hBz ha) ?_)
          have e3 : nI (t 3 a) = (0 : Int32) ↔ t 3 a = 0 := nI_eq (b := 0) (by omega) (by omega)
          by_cases q3 : t 3 a = 0
          · refine Ok.ifp (e3.mpr q3) (Ok.bindE (rdA4 hw hBz ha) (Ok.bindE (factD hBz hP hk) ?_))
            have e4 : nI (t 4 a) = nI (ob (pl k)) ↔ t 4 a = ob (pl k) := nI_eq (by omega) (by omega)
            by_cases q4 : t 4 a = ob (pl k)
            · refine Ok.ifp (e4.mpr q4) (Ok.bindE (factX hBz hP hk) (Ok.bindE (rdA5 hw hBz ha) ?_))
              have f1 := findIs_ok hw hB hP hz (x := sb (pl k)) (d := t 5 a) (ru := 4) (f := k + 1) (s := 0) (a := a + 1) hs (by omega) (by omega) (by omega) (by omega) (by omega) (by
                rintro c ((w | ⟨k', hk', a', ha', -, -, -, -, -, -, hc⟩) | ⟨a', ha', -, -, -, -, -, -, hc⟩)
                · have := hS _ c w; unfold cod; omega
                · rw [hc]; unfold cod; omega
                · rw [hc]; unfold cod; omega)
              rw [nO_0, nO_s, nO_s] at f1
              refine Ok.bind f1 (fun z1 h1 => Ok.go ⟨nI_1 a, h1.one (fun p c => ?_)⟩)
              exact ⟨fun w => ⟨w.1, q, by omega, q3, q4, w.2.1, w.2.2⟩, fun w => ⟨w.1, w.2.2.2.2.2.1, w.2.2.2.2.2.2⟩⟩
            · exact Ok.ifn (fun w => q4 (e4.mp w)) (Ok.go ⟨nI_1 a, hz.skip (fun p c w => q4 w.2.2.2.2.1)⟩)
          · exact Ok.ifn (fun w => q3 (e3.mp w)) (Ok.go ⟨nI_1 a, hz.skip (fun p c w => q3 w.2.2.2.1)⟩)
      · intro z hz
        have hBz := hB.fr hz.1
        unfold b_X7_ofAxioms_12
        exact Ok.ifp (show z 5 0 ≤ nI ax by rw [hBz.1.2.1]; exact nI_le (Nat.le_refl _) (by omega)) (Ok.end (Or.inl ⟨_, rfl, nI_1 k, hz⟩))
    · have hz' : MO n m (Uni (Uni S (UpTo k (fun k => UpTo ax (gM4 num t pl k)))) (UpTo ax (gM4 num t pl k))) z := hz.skip (fun p c ⟨a, _, w⟩ => q w.2.1)
      refine Ok.now (f := fun v => b_X7_ofAxioms_12 (nI k) v.1 v.2) (s := (nI 0, z)) ?_
      show Ok (b_X7_ofAxioms_12 (nI k) (nI 0) z) _
      unfold b_X7_ofAxioms_12
      refine Ok.ite (fun _ => Ok.end (Or.inl ⟨_, rfl, nI_1 k, hz'⟩)) (fun _ => Ok.bindE (factK hBz hP hk) ?_)
      rw [if_neg q]
      exact Ok.ifn (by decide) (Ok.end (Or.inl ⟨_, rfl, nI_1 k, hz'⟩))
  · intro z hz
    have hBz := hB.fr hz.1
    unfold b_X7_ofAxioms_2
    exact Ok.ifp (show z 13 0 ≤ nI K by rw [hBz.2.1]; exact nI_le (Nat.le_refl _) (by omega)) (Ok.end hz)
end MRULES2
