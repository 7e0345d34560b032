/-! the model's rules 5 to 7 -/
section MRULES3
variable {m z : MS} {t : Th} {n ax K : Nat} {pl num : Nat → Nat} {U : Nat → Nat → Bool}
theorem rdIs1 (hw : Wf t n ax) (hB : BC z t n ax K pl num U) {x : Nat} (hx : x < n) : rd 784 (z 16) ((28 : Int32) * nI x + 1) = some (nO (num (100 * x + 1))) := by
  have h2 := hw.n2
  exact rdIs hw hB hx (d := 1) (by omega)
def gM5 (num : Nat → Nat) (t : Th) (pl : Nat → Nat) (k : Nat) : Nat → Nat → Prop := fun p c => num p = 0 ∧ rh (pl k) = 0 ∧ t 0 (ob (pl k)) = 4 ∧ p = 100 * sb (pl k) + 20 * (t 1 (ob (pl k)) + 1) + t 2 (ob (pl k)) ∧ c = cod 5 (k + 1) 0 0
def gM6 (num : Nat → Nat) (t : Th) (U : Nat → Nat → Bool) (pl : Nat → Nat) (k h : Nat) : Nat → Nat → Prop := fun p c => num p = 0 ∧ rh (pl k) ≠ 0 ∧ t 0 h = 4 ∧ U (rh (pl k) - 1) (t 1 h) = true ∧ num (100 * ob (pl k) + t 2 h) ≠ 0 ∧ p = 100 * sb (pl k) + h ∧ c = cod 6 (k + 1) (num (100 * ob (pl k) + t 2 h)) 0
def gM7 (num : Nat → Nat) (pl : Nat → Nat) (k : Nat) : Nat → Nat → Prop := fun p c => num p = 0 ∧ rh (pl k) ≠ 0 ∧ num (100 * ob (pl k) + 1) ≠ 0 ∧ p = 100 * sb (pl k) + 1 ∧ c = cod 7 (k + 1) (num (100 * ob (pl k) + 1)) 0
theorem bnd5 (hK : K ≤ 2000) : Bnd (UpTo K (gM5 num t pl)) (6 * 268435456) := Bnd.upTo (fun k hk p c ⟨_, _, _, _, hc⟩ => by rw [hc]; unfold cod; omega)
theorem bnd6 (hw : Wf t n ax) (hP : PN n K pl num) : Bnd (UpTo K (fun k => UpTo n (gM6 num t U pl k))) (7 * 268435456) := by
  have h20 := hw.n20
  have hK := hP.1
  refine Bnd.upTo (fun k hk => Bnd.upTo (fun h hh p c => ?_))
  rintro ⟨-, -, q4, -, -, -, hc⟩
  have hm := hw.has hh q4
  have ho := (hP.2.1 k hk).2.1
  have h1 := (hP.2.2 (100 * ob (pl k) + t 2 h) (by omega)).1
  rw [hc]; unfold cod; omega
theorem bnd7 (hw : Wf t n ax) (hP : PN n K pl num) : Bnd (UpTo K (gM7 num pl)) (8 * 268435456) := by
  have h20 := hw.n20
  have hK := hP.1
  refine Bnd.upTo (fun k hk p c => ?_)
  rintro ⟨-, -, -, -, hc⟩
  have ho := (hP.2.1 k hk).2.1
  have h1 := (hP.2.2 (100 * ob (pl k) + 1) (by omega)).1
  rw [hc]; unfold cod; omega
theorem ofRoles_ok (hw : Wf t n ax) (hB : BC m t n ax K pl num U) (hP : PN n K pl num) {S : Nat → Nat → Prop} (hS : Bnd S (5 * 268435456)) (hz : MO n m S z) :
    Ok (f_X7_ofRoles z) (MO n m (Uni (Uni (Uni S (UpTo K (gM5 num t pl))) (UpTo K (fun k => UpTo n (gM6 num t U pl k)))) (UpTo K (gM7 num pl)))) := by
  have h20 := hw.n20
  have h2 := hw.n2
  have hK := hP.1
  unfold f_X7_ofRoles
  refine finLoop (b := b_X7_ofRoles_2) K (gM5 num t pl) ?_ ?_ hz
  · intro k z hk hz
    have hBz := hB.fr hz.1
    obtain ⟨hs, ho, -⟩ := hP.2.1 k hk
    have h5 := hw.s5 ho
    unfold b_X7_ofRoles_2
    refine Ok.ifn (show ¬ z 13 0 ≤ nI k by rw [hBz.2.1]; exact nI_ge hk (by omega)) ?_
    refine Ok.bindE (factD hBz hP hk) (Ok.bindE (factK hBz hP hk) ?_)
    by_cases q : rh (pl k) = 0
    · rw [if_pos q]
      refine Ok.ifp rfl (Ok.bindE (rdS hw hBz ho) ?_)
      have e4 : nI (t 0 (ob (pl k))) = (4 : Int32) ↔ t 0 (ob (pl k)) = 4 := nI_eq (b := 4) (by omega) (by omega)
      by_cases q4 : t 0 (ob (pl k)) = 4
      · have hm := hw.has ho q4
        refine Ok.ifp (e4.mpr q4) (Ok.bindE (factX hBz hP hk) (Ok.bindE (rdP1 hw hBz ho) (Ok.bindE (rdP2 hw hBz ho) ?_)))
        rw [tv1_3 (by omega), tv2_3 (by omega)]
        have f1 := findTo_ok hw hB hP hz (x := sb (pl k)) (r := t 1 (ob (pl k))) (y := t 2 (ob (pl k))) (ru := 5) (f := k + 1) (s := 0) (a := 0) hs hm.1 (by omega) (by omega) (by omega) (by omega) (by omega) (by
          rintro c (h | ⟨j, hj, -, -, -, -, hc⟩)
          · have := hS _ c h; unfold cod; omega
          · rw [hc]; unfold cod; omega)
        rw [nO_0, nO_s] at f1
        refine Ok.bind f1 (fun z1 h1 => Ok.go ⟨nI_1 k, h1.one (fun p c => ?_)⟩)
        exact ⟨fun w => ⟨w.1, q, q4, w.2.1, w.2.2⟩, fun w => ⟨w.1, w.2.2.2.1, w.2.2.2.2⟩⟩
      · exact Ok.ifn (fun w => q4 (e4.mp w)) (Ok.go ⟨nI_1 k, hz.skip (fun p c h => q4 h.2.2.1)⟩)
    · rw [if_neg q]
      exact Ok.ifn (by decide) (Ok.go ⟨nI_1 k, hz.skip (fun p c h => q h.2.1)⟩)
  · intro z hz
    have hBz := hB.fr hz.1
    unfold b_X7_ofRoles_2
    refine Ok.ifp (show z 13 0 ≤ nI K by rw [hBz.2.1]; exact nI_le (Nat.le_refl _) (by omega)) (Ok.inr ?_)
    have hS2 : Bnd (Uni S (UpTo K (gM5 num t pl))) (6 * 268435456) := (hS.up (by omega)).uni (bnd5 hK)
    refine finLoop (b := b_X7_ofRoles_70) K (fun k => UpTo n (gM6 num t U pl k)) ?_ ?_ hz
    · intro k z hk hz
      have hBz := hB.fr hz.1
      obtain ⟨hs, ho, -⟩ := hP.2.1 k hk
      unfold b_X7_ofRoles_70
      refine Ok.ifn (show ¬ z 13 0 ≤ nI k by rw [hBz.2.1]; exact nI_ge hk (by omega)) (Ok.bindE (factK hBz hP hk) ?_)
      by_cases q : rh (pl k) = 0
      · rw [if_pos q]
        exact Ok.ifn (by decide) (Ok.go ⟨nI_1 k, hz.skip (fun p c ⟨h, _, w⟩ => w.2.1 q)⟩)
      · rw [if_neg q]
        refine Ok.ifp rfl (Ok.bindE (factD hBz hP hk) ?_)
        obtain ⟨r, hr⟩ : ∃ r, rh (pl k) = r + 1 := ⟨rh (pl k) - 1, by omega⟩
        have hr4 : r < 4 := by have := rh_lt (pl k); omega
        refine finLoop (b := b_X7_ofRoles_97 (nI k) (nI (ob (pl k)))) n (gM6 num t U pl k) ?_ ?_ hz
        · intro h z hh hz
          have hBz := hB.fr hz.1
          have h5 := hw.s5 hh
          unfold b_X7_ofRoles_97
          refine Ok.ifn (show ¬ z 0 0 ≤ nI h by rw [hBz.1.1]; exact nI_ge hh (by omega)) (Ok.bindE (rdS hw hBz hh) ?_)
          have e4 : nI (t 0 h) = (4 : Int32) ↔ t 0 h = 4 := nI_eq (b := 4) (by omega) (by omega)
          by_cases q4 : t 0 h = 4
          · have hm := hw.has hh q4
            refine Ok.ifp (e4.mpr q4) (Ok.bindE (factR hBz hP hk) (Ok.bindE (rdP1 hw hBz hh) ?_))
            rw [tv1_3 (by omega), hr, nO_s]
            refine Ok.bindE (rdU hBz hr4 hm.1) ?_
            have er : rh (pl k) - 1 = r := by omega
            by_cases qu : U r (t 1 h) = true
            · rw [if_pos qu]
              refine Ok.ifn (by decide) (Ok.bindE (rdP2 hw hBz hh) ?_)
              rw [tv2_3 (by omega)]
              have n1 := (hP.2.2 (100 * ob (pl k) + t 2 h) (by omega)).1
              refine Ok.bindE (rdIs hw hBz ho (by omega)) ?_
              by_cases q1 : num (100 * ob (pl k) + t 2 h) = 0
              · exact Ok.ifp ((nO_m1 (by omega)).mpr q1) (Ok.go ⟨nI_1 h, hz.skip (fun p c w => w.2.2.2.2.1 q1)⟩)
              · refine Ok.ifn (fun w => q1 ((nO_m1 (by omega)).mp w)) (Ok.bindE (factX hBz hP hk) (Ok.bindE (rdP2 hw hBz hh) ?_))
                rw [tv2_3 (by omega)]
                refine Ok.bindE (rdIs hw hBz ho (by omega)) ?_
                have f1 := findIs_ok hw hB hP hz (x := sb (pl k)) (d := h) (ru := 6) (f := k + 1) (s := num (100 * ob (pl k) + t 2 h)) (a := 0) hs hh (by omega) (by omega) (by omega) (by omega) (by
                  rintro c ((w | ⟨k', hk', h', hh', -, -, w4, -, -, -, hc⟩) | ⟨h', hh', -, -, -, -, -, e, -⟩)
                  · have := hS2 _ c w; unfold cod; omega
                  · have hm' := hw.has hh' w4
                    have ho' := (hP.2.1 k' (by omega)).2.1
                    have n2 := (hP.2.2 (100 * ob (pl k') + t 2 h') (by omega)).1
                    rw [hc]; unfold cod; omega
                  · omega)
                rw [nO_0, nO_s] at f1
                refine Ok.bind f1 (fun z1 h1 => Ok.go ⟨nI_1 h, h1.one (fun p c => ?_)⟩)
                exact ⟨fun w => ⟨w.1, q, q4, by rw [er]; exact qu, q1, w.2.1, w.2.2⟩, fun w => ⟨w.1, w.2.2.2.2.2.1, w.2.2.2.2.2.2⟩⟩
            · rw [if_neg qu]
              exact Ok.ifp rfl (Ok.go ⟨nI_1 h, hz.skip (fun p c w => qu (by have := w.2.2.2.1; rw [er] at this; exact this))⟩)
          · exact Ok.ifn (fun w => q4 (e4.mp w)) (Ok.go ⟨nI_1 h, hz.skip (fun p c w => q4 w.2.2.1)⟩)
        · intro z hz
          have hBz := hB.fr hz.1
          unfold b_X7_ofRoles_97
          exact Ok.ifp (show z 0 0 ≤ nI n by rw [hBz.1.1]; exact nI_le (Nat.le_refl _) (by omega)) (Ok.end (Or.inl ⟨_, rfl, nI_1 k, hz⟩))
    · intro z hz
      have hBz := hB.fr hz.1
      unfold b_X7_ofRoles_70
      refine Ok.ifp (show z 13 0 ≤ nI K by rw [hBz.2.1]; exact nI_le (Nat.le_refl _) (by omega)) (Ok.inr ?_)
      have hS3 : Bnd (Uni (Uni S (UpTo K (gM5 num t pl))) (UpTo K (fun k => UpTo n (gM6 num t U pl k)))) (7 * 268435456) := (hS2.up (by omega)).uni (bnd6 hw hP)
      refine finLoop (b := b_X7_ofRoles_203) K (gM7 num pl) ?_ ?_ hz
      · intro k z hk hz
        have hBz := hB.fr hz.1
        obtain ⟨hs, ho, -⟩ := hP.2.1 k hk
        unfold b_X7_ofRoles_203
        refine Ok.ifn (show ¬ z 13 0 ≤ nI k by rw [hBz.2.1]; exact nI_ge hk (by omega)) (Ok.bindE (factK hBz hP hk) ?_)
        by_cases q : rh (pl k) = 0
        · rw [if_pos q]
          exact Ok.ifn (by decide) (Ok.go ⟨nI_1 k, hz.skip (fun p c w => w.2.1 q)⟩)
        · rw [if_neg q]
          refine Ok.ifp rfl (Ok.bindE (factD hBz hP hk) ?_)
          have n1 := (hP.2.2 (100 * ob (pl k) + 1) (by omega)).1
          refine Ok.bindE (rdIs1 hw hBz ho) ?_
          by_cases q1 : num (100 * ob (pl k) + 1) = 0
          · exact Ok.ifp ((nO_m1 (by omega)).mpr q1) (Ok.go ⟨nI_1 k, hz.skip (fun p c w => w.2.2.1 q1)⟩)
          · refine Ok.ifn (fun w => q1 ((nO_m1 (by omega)).mp w)) (Ok.bindE (factX hBz hP hk) (Ok.bindE (factD hBz hP hk) (Ok.bindE (rdIs1 hw hBz ho) ?_)))
            have f1 := findIs_ok hw hB hP hz (x := sb (pl k)) (d := 1) (ru := 7) (f := k + 1) (s := num (100 * ob (pl k) + 1)) (a := 0) hs (by omega) (by omega) (by omega) (by omega) (by omega) (by
              rintro c (w | ⟨k', hk', -, -, -, -, hc⟩)
              · have := hS3 _ c w; unfold cod; omega
              · have ho' := (hP.2.1 k' (by omega)).2.1
                have n2 := (hP.2.2 (100 * ob (pl k') + 1) (by omega)).1
                rw [hc]; unfold cod; omega)
            rw [nO_0, nO_s] at f1
            refine Ok.bind f1 (fun z1 h1 => Ok.go ⟨nI_1 k, h1.one (fun p c => ?_)⟩)
            exact ⟨fun w => ⟨w.1, q, q1, w.2.1, w.2.2⟩, fun w => ⟨w.1, w.2.2.2.1, w.2.2.2.2⟩⟩
      · intro z hz
        have hBz := hB.fr hz.1
        unfold b_X7_ofRoles_203
        exact Ok.ifp (show z 13 0 ≤ nI K by rw [hBz.2.1]; exact nI_le (Nat.le_refl _) (by omega)) (Ok.end hz)
end MRULES3
