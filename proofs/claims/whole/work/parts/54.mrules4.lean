/-! the model's rule 8 -/
section MRULES4
variable {m z : MS} {t : Th} {n ax K : Nat} {pl num : Nat → Nat} {U : Nat → Nat → Bool}
def gM8 (num : Nat → Nat) (t : Th) (U : Nat → Nat → Bool) (pl : Nat → Nat) (k l a : Nat) : Nat → Nat → Prop := fun p c => num p = 0 ∧ rh (pl k) ≠ 0 ∧ rh (pl l) ≠ 0 ∧ sb (pl l) = ob (pl k) ∧ t 7 a = 1 ∧ t 3 a = 2 ∧ U (rh (pl k) - 1) (t 4 a) = true ∧ U (rh (pl l) - 1) (t 5 a) = true ∧ p = 100 * sb (pl k) + 20 * (t 6 a + 1) + ob (pl l) ∧ c = cod 8 (k + 1) (l + 1) (a + 1)
theorem ofChains_ok (hw : Wf t n ax) (hB : BC m t n ax K pl num U) (hP : PN n K pl num) {S : Nat → Nat → Prop} (hS : Bnd S (8 * 268435456)) (hz : MO n m S z) :
    Ok (f_X7_ofChains z) (MO n m (Uni S (UpTo K (fun k => UpTo K (fun l => UpTo ax (gM8 num t U pl k l)))))) := by
  have h20 := hw.n20
  have h40 := hw.a40
  have hK := hP.1
  unfold f_X7_ofChains
  refine finLoop (b := b_X7_ofChains_2) K (fun k => UpTo K (fun l => UpTo ax (gM8 num t U pl k l))) ?_ ?_ hz
  · intro k z hk hz
    have hBz := hB.fr hz.1
    obtain ⟨hs, ho, -⟩ := hP.2.1 k hk
    unfold b_X7_ofChains_2
    refine Ok.ifn (show ¬ z 13 0 ≤ nI k by rw [hBz.2.1]; exact nI_ge hk (by omega)) ?_
    by_cases q : rh (pl k) = 0
    · have hz' : MO n m (Uni (Uni S (UpTo k (fun k => UpTo K (fun l => UpTo ax (gM8 num t U pl k l))))) (UpTo K (fun l => UpTo ax (gM8 num t U pl k l)))) z := hz.skip (fun p c ⟨l, _, a, _, w⟩ => w.2.1 q)
      refine Ok.now (f := fun v => b_X7_ofChains_12 (nI k) v.1 v.2) (s := (nI 0, z)) ?_
      show Ok (b_X7_ofChains_12 (nI k) (nI 0) z) _
      unfold b_X7_ofChains_12
      refine Ok.ite (fun _ => Ok.end (Or.inl ⟨_, rfl, nI_1 k, hz'⟩)) (fun _ => Ok.bindE (factK hBz hP hk) ?_)
      rw [if_pos q]
      exact Ok.ifn (by decide) (Ok.end (Or.inl ⟨_, rfl, nI_1 k, hz'⟩))
    · refine finLoop (b := b_X7_ofChains_12 (nI k)) K (fun l => UpTo ax (gM8 num t U pl k l)) ?_ ?_ hz
      · intro l z hl hz
        have hBz := hB.fr hz.1
        obtain ⟨hsl, hol, -⟩ := hP.2.1 l hl
        unfold b_X7_ofChains_12
        refine Ok.ifn (show ¬ z 13 0 ≤ nI l by rw [hBz.2.1]; exact nI_ge hl (by omega)) (Ok.bindE (factK hBz hP hk) ?_)
        rw [if_neg q]
        refine Ok.ifp rfl (Ok.bindE (factK hBz hP hl) ?_)
        by_cases ql : rh (pl l) = 0
        · rw [if_pos ql]
          exact Ok.ifn (by decide) (Ok.go ⟨nI_1 l, hz.skip (fun p c ⟨a, _, w⟩ => w.2.2.1 ql)⟩)
        · rw [if_neg ql]
          refine Ok.ifp rfl (Ok.bindE (factX hBz hP hl) (Ok.bindE (factD hBz hP hk) ?_))
          have es : nI (sb (pl l)) = nI (ob (pl k)) ↔ sb (pl l) = ob (pl k) := nI_eq (by omega) (by omega)
          by_cases qs : sb (pl l) = ob (pl k)
          · refine Ok.ifp (es.mpr qs) ?_
            obtain ⟨r, hr⟩ : ∃ r, rh (pl k) = r + 1 := ⟨rh (pl k) - 1, by omega⟩
            obtain ⟨s, hsr⟩ : ∃ s, rh (pl l) = s + 1 := ⟨rh (pl l) - 1, by omega⟩
            have hr4 : r < 4 := by have := rh_lt (pl k); omega
            have hs4 : s < 4 := by have := rh_lt (pl l); omega
            have er : rh (pl k) - 1 = r := by omega
            have esr : rh (pl l) - 1 = s := by omega
            refine finLoop (b := b_X7_ofChains_57 (nI k) (nI l)) ax (gM8 num t U pl k l) ?_ ?_ hz
            · intro a z ha hz
              have hBz := hB.fr hz.1
              have h3 := hw.s3 ha
              have h7 := hw.h7 ha
              have hwa := hw.ax ha
              unfold b_X7_ofChains_57
              refine Ok.ifn (show ¬ z 5 0 ≤ nI a by rw [hBz.1.2.1]; exact nI_ge ha (by omega)) (Ok.bindE (rdA7 hw hBz ha) ?_)
              have e7 : nI (t 7 a) = (0 : Int32) ↔ t 7 a = 0 := nI_eq (b := 0) (by omega) (by omega)
              by_cases q7 : t 7 a = 0
              · exact Ok.ifp (e7.mpr q7) (Ok.go ⟨nI_1 a, hz.skip (fun p c w => by have := w.2.2.2.2.1; omega)⟩)
              · refine Ok.ifn (fun w => q7 (e7.mp w)) (Ok.bindE (rdA3 hw hBz ha) ?_)
                have e3 : nI (t 3 a) = (2 : Int32) ↔ t 3 a = 2 := nI_eq (b := 2) (by omega) (by omega)
                by_cases q3 : t 3 a = 2
                · refine Ok.ifp (e3.mpr q3) (Ok.bindE (factR hBz hP hk) (Ok.bindE (rdA4 hw hBz ha) ?_))
                  rw [hr, nO_s]
                  refine Ok.bindE (rdU hBz hr4 (by omega)) ?_
                  by_cases q4 : U r (t 4 a) = true
                  · rw [if_pos q4]
                    refine Ok.ifn (by decide) (Ok.bindE (factR hBz hP hl) (Ok.bindE (rdA5 hw hBz ha) ?_))
                    rw [hsr, nO_s]
                    refine Ok.bindE (rdU hBz hs4 (by omega)) ?_
                    by_cases q5 : U s (t 5 a) = true
                    · rw [if_pos q5]
                      refine Ok.ifn (by decide) (Ok.bindE (factX hBz hP hk) (Ok.bindE (rdA6 hw hBz ha) (Ok.bindE (factD hBz hP hl) ?_)))
                      have e6 : tv6 t a = nI (t 6 a) := by unfold tv6; rw [if_pos q3]
                      rw [e6]
                      have f1 := findTo_ok hw hB hP hz (x := sb (pl k)) (r := t 6 a) (y := ob (pl l)) (ru := 8) (f := k + 1) (s := l + 1) (a := a + 1) hs (by omega) hol (by omega) (by omega) (by omega) (by omega) (by
                        rintro c (((w | ⟨k', hk', l', hl', a', ha', w⟩) | ⟨l', hl', a', ha', w⟩) | ⟨a', ha', w⟩)
                        · have := hS _ c w; unfold cod; omega
                        · rw [w.2.2.2.2.2.2.2.2.2]; unfold cod; omega
                        · rw [w.2.2.2.2.2.2.2.2.2]; unfold cod; omega
                        · rw [w.2.2.2.2.2.2.2.2.2]; unfold cod; omega)
                      rw [nO_s, nO_s, nO_s] at f1
                      refine Ok.bind f1 (fun z1 h1 => Ok.go ⟨nI_1 a, h1.one (fun p c => ?_)⟩)
                      exact ⟨fun w => ⟨w.1, q, ql, qs, by omega, q3, by rw [er]; exact q4, by rw [esr]; exact q5, w.2.1, w.2.2⟩, fun w => ⟨w.1, w.2.2.2.2.2.2.2.2⟩⟩
                    · rw [if_neg q5]
                      exact Ok.ifp rfl (Ok.go ⟨nI_1 a, hz.skip (fun p c w => q5 (by have := w.2.2.2.2.2.2.2.1; rw [esr] at this; exact this))⟩)
                  · rw [if_neg q4]
                    exact Ok.ifp rfl (Ok.go ⟨nI_1 a, hz.skip (fun p c w => q4 (by have := w.2.2.2.2.2.2.1; rw [er] at this; exact this))⟩)
                · exact Ok.ifn (fun w => q3 (e3.mp w)) (Ok.go ⟨nI_1 a, hz.skip (fun p c w => q3 w.2.2.2.2.2.1)⟩)
            · intro z hz
              have hBz := hB.fr hz.1
              unfold b_X7_ofChains_57
              exact Ok.ifp (show z 5 0 ≤ nI ax by rw [hBz.1.2.1]; exact nI_le (Nat.le_refl _) (by omega)) (Ok.end (Or.inl ⟨_, rfl, nI_1 l, hz⟩))
          · exact Ok.ifn (fun w => qs (es.mp w)) (Ok.go ⟨nI_1 l, hz.skip (fun p c ⟨a, _, w⟩ => qs w.2.2.2.1)⟩)
      · intro z hz
        have hBz := hB.fr hz.1
        unfold b_X7_ofChains_12
        exact Ok.ifp (show z 13 0 ≤ nI K by rw [hBz.2.1]; exact nI_le (Nat.le_refl _) (by omega)) (Ok.end (Or.inl ⟨_, rfl, nI_1 k, hz⟩))
  · intro z hz
    have hBz := hB.fr hz.1
    unfold b_X7_ofChains_2
    exact Ok.ifp (show z 13 0 ≤ nI K by rw [hBz.2.1]; exact nI_le (Nat.le_refl _) (by omega)) (Ok.end hz)
/-- all that the model finds in a round -/
def SM (num : Nat → Nat) (t : Th) (n ax : Nat) (U : Nat → Nat → Bool) (pl : Nat → Nat) (K : Nat) : Nat → Nat → Prop :=
  Uni (Uni (Uni (Uni (Uni (Uni (Uni (Uni (UpTo n (gM0 num t pl K)) (UpTo n (gM1 num t pl K))) (UpTo K (gM2 num t pl))) (UpTo n (fun x => UpTo n (gM3 num t x)))) (UpTo K (fun k => UpTo ax (gM4 num t pl k)))) (UpTo K (gM5 num t pl))) (UpTo K (fun k => UpTo n (gM6 num t U pl k)))) (UpTo K (gM7 num pl))) (UpTo K (fun k => UpTo K (fun l => UpTo ax (gM8 num t U pl k l))))
theorem bnd01 : Bnd (Uni (UpTo n (gM0 num t pl K)) (UpTo n (gM1 num t pl K))) (2 * 268435456) := by
  refine Bnd.uni (Bnd.upTo (fun i hi p c ⟨_, _, f, hf, _, hc⟩ => ?_)) (Bnd.upTo (fun i hi p c ⟨_, _, f, hf, _, hc⟩ => ?_))
  · rw [hc]; unfold cod; omega
  · rw [hc]; unfold cod; omega
theorem rules_ok (hw : Wf t n ax) (hB : BC m t n ax K pl num U) (hP : PN n K pl num) (hz : MO n m (fun _ _ => False) z) {T : Type} {k : MS → Option T} {P : T → Prop} (hk : ∀ z', MO n m (SM num t n ax U pl K) z' → Ok (k z') P) :
    Ok (Option.bind (f_X7_ofBegun z) (fun r3 => Option.bind (f_X7_ofMeets r3) (fun r4 => Option.bind (f_X7_ofAxioms r4) (fun r5 => Option.bind (f_X7_ofRoles r5) (fun r6 => Option.bind (f_X7_ofChains r6) k))))) P := by
  have hK := hP.1
  have b1 := bnd01 (n := n) (t := t) (K := K) (pl := pl) (num := num)
  have b3 := ((b1.up (B := 3 * 268435456) (by omega)).uni (bnd2 (num := num) (t := t) (pl := pl) hK)).up (B := 4 * 268435456) (by omega) |>.uni (bnd3 hw hP)
  have b4 := (b3.up (B := 5 * 268435456) (by omega)).uni (bnd4 (num := num) (t := t) (pl := pl) hw hK)
  have b7 := ((((b4.up (B := 6 * 268435456) (by omega)).uni (bnd5 (num := num) (t := t) (pl := pl) hK)).up (B := 7 * 268435456) (by omega)).uni (bnd6 (U := U) hw hP)).up (B := 8 * 268435456) (by omega) |>.uni (bnd7 hw hP)
  refine Ok.bind (ofBegun_ok hw hB hP hz) (fun z1 h1 => Ok.bind (ofMeets_ok hw hB hP b1 h1) (fun z2 h2 => Ok.bind (ofAxioms_ok hw hB hP b3 h2) (fun z3 h3 => Ok.bind (ofRoles_ok hw hB hP b4 h3) (fun z4 h4 => Ok.bind (ofChains_ok hw hB hP b7 h4) hk))))
end MRULES4
