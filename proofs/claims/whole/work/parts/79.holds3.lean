/-! holds, the class's: chains; holds -/
section HOLDS3
variable {t : Th} {n ax K : Nat} {sx : XS} {num pl : Nat → Nat} {U : Nat → Nat → Bool} {G : Nat → Nat → Bool}
theorem Mk.no {v : Int32} {n y : Nat} {f : Nat → Bool} (hy : y < 20) (hn : n ≤ y) (h : Mk v n f) : t_X6_hasBit v (nI y) = 0 := by
  unfold t_X6_hasBit
  refine if_pos ?_
  rw [z_bt]
  intro i hi
  rw [b_and, h i hi, bit_bt y hy i hi]
  by_cases q : i = y
  · subst q
    have : ¬ i < n := by omega
    simp [this]
  · simp [q]
theorem xso2 (hw : Wf t n ax) (hPN : PN n K pl num) (hN : XN sx.1 t n ax) (hH : XH sx.1 n (hP num U) G) {a : Nat} (ha : a < ax) (h3 : t 3 a = 2) : f_X6_isSo sx (nI a) = some (b1 (!no2 (hP num U) (t 4 a) (t 5 a) (t 6 a) n)) := by
  have h20 := hw.n20
  have hwa := hw.ax ha
  have e6 : tv6 t a = nI (t 6 a) := by unfold tv6; rw [if_pos h3]
  have big : ∀ x y, ¬ (x < n ∧ y < n) → x < 20 → y < 20 → hP num U x (t 4 a) y = false := by
    intro x y hxy hx hy
    cases e : hP num U x (t 4 a) y
    · rfl
    · obtain ⟨e1, e2⟩ := hP_T e
      by_cases q : x < n
      · rw [hT_big hPN (show n ≤ y by omega) hy] at e2
        exact absurd e2 (by decide)
      · rw [hT_big hPN (show n ≤ x by omega) hx] at e1
        exact absurd e1 (by decide)
  generalize hB : (fun x y => anyN (fun z => hP num U x (t 4 a) y && hP num U y (t 5 a) z && !hP num U x (t 6 a) z) n) = B
  have hBe : ∀ x y, B x y = anyN (fun z => hP num U x (t 4 a) y && hP num U y (t 5 a) z && !hP num U x (t 6 a) z) n := fun x y => by rw [← hB]
  have hno : no2 (hP num U) (t 4 a) (t 5 a) (t 6 a) n = anyN (fun x => anyN (fun y => B x y) n) n := by
    unfold no2
    rw [← hB]
  have z1' : ∀ x y, hP num U x (t 4 a) y = false → B x y = false := by
    intro x y e
    rw [hBe]
    cases q : anyN (fun z => hP num U x (t 4 a) y && hP num U y (t 5 a) z && !hP num U x (t 6 a) z) n
    · rfl
    · obtain ⟨z, hz, w⟩ := anyN_t.mp q
      rw [e] at w
      exact absurd w (by simp)
  have z2' : ∀ x y, hP num U x (t 4 a) y = true → B x y = anyN (fun z => hP num U y (t 5 a) z && !hP num U x (t 6 a) z) n := by
    intro x y e
    rw [hBe, e]
    simp only [Bool.true_and]
  have key : Ok (f_X2_chainWithin sx (nI (t 4 a)) (nI (t 5 a)) (nI (t 6 a))) (fun r => r = b1 (!no2 (hP num U) (t 4 a) (t 5 a) (t 6 a) n)) := by
    unfold f_X2_chainWithin
    refine Ok.for0 (f := fun v => b_X2_chainWithin_3 sx (nI (t 4 a)) (nI (t 5 a)) (nI (t 6 a)) v) (i := 0) 20 (fun i => ∀ x, x < i → ∀ y, y < 20 → B x y = false) ?_ ?_ (Nat.zero_le _) (fun x hx => absurd hx (Nat.not_lt_zero x))
    · intro i hi hI
      show Ok (b_X2_chainWithin_3 sx (nI (t 4 a)) (nI (t 5 a)) (nI (t 6 a)) (nI i)) _
      unfold b_X2_chainWithin_3
      refine Ok.ifn (show ¬ (20 : Int32) ≤ nI i from nI_ge (b := 20) hi (by omega)) ?_
      refine Ok.for0 (f := fun v => b_X2_chainWithin_13 sx (nI (t 4 a)) (nI (t 5 a)) (nI (t 6 a)) (nI i) v) (i := 0) 20 (fun j => ∀ y, y < j → B i y = false) ?_ ?_ (Nat.zero_le _) (fun x hx => absurd hx (Nat.not_lt_zero x))
      · intro j hj hJ
        show Ok (b_X2_chainWithin_13 sx (nI (t 4 a)) (nI (t 5 a)) (nI (t 6 a)) (nI i) (nI j)) _
        unfold b_X2_chainWithin_13
        refine Ok.ifn (show ¬ (20 : Int32) ≤ nI j from nI_ge (b := 20) hj (by omega)) ?_
        rw [partners_ok (by omega) hi, partners_ok (by omega) hj, partners_ok (by omega) hi]
        have m1 := hH.2 (t 4 a) i (by omega) hi
        have e := (hH.2 (t 5 a) j (by omega) hj).sub h20 (hH.2 (t 6 a) i (by omega) hi)
        have goOn : B i j = false → ∀ y, y < j + 1 → B i y = false := by
          intro w y hy
          by_cases q : y = j
          · subst q; exact w
          · exact hJ y (by omega)
        by_cases qb : hP num U i (t 4 a) j = true
        · have hin : i < n ∧ j < n := by
            apply Classical.byContradiction
            intro z
            rw [big i j z hi hj] at qb
            exact absurd qb (by decide)
          rw [m1.has h20 hin.2, qb]
          refine Ok.ifn one0 ?_
          refine Ok.ite (fun w => Ok.go ⟨nI_1 j, goOn ?_⟩) (fun w => Ok.end (Or.inr ⟨_, rfl, ?_⟩))
          · rw [z2' _ _ qb]; exact e.mp w
          · have q : ¬ anyN (fun z => hP num U j (t 5 a) z && !hP num U i (t 6 a) z) n = false := fun z => w (e.mpr z)
            have : no2 (hP num U) (t 4 a) (t 5 a) (t 6 a) n = true := by
              rw [hno]
              refine anyN_t.mpr ⟨i, hin.1, anyN_t.mpr ⟨j, hin.2, ?_⟩⟩
              rw [z2' _ _ qb]
              simpa using q
            rw [this]; rfl
        · have qf : hP num U i (t 4 a) j = false := by simpa using qb
          have h0 : t_X6_hasBit (sx.1 18 (20 * t 4 a + i)) (nI j) = 0 := by
            by_cases q : j < n
            · rw [m1.has h20 q, qf]; rfl
            · exact m1.no hj (by omega)
          exact Ok.ifp h0 (Ok.go ⟨nI_1 j, goOn (z1' _ _ qf)⟩)
      · intro hJ
        show Ok (b_X2_chainWithin_13 sx (nI (t 4 a)) (nI (t 5 a)) (nI (t 6 a)) (nI i) (nI 20)) _
        unfold b_X2_chainWithin_13
        refine Ok.ifp (show (20 : Int32) ≤ nI 20 from nI_le (a := 20) (Nat.le_refl _) (by omega)) (Ok.end (Or.inl ⟨_, rfl, nI_1 i, fun x hx y hy => ?_⟩))
        by_cases q : x = i
        · subst q; exact hJ y hy
        · exact hI x (by omega) y hy
    · intro hI
      show Ok (b_X2_chainWithin_3 sx (nI (t 4 a)) (nI (t 5 a)) (nI (t 6 a)) (nI 20)) _
      unfold b_X2_chainWithin_3
      refine Ok.ifp (show (20 : Int32) ≤ nI 20 from nI_le (a := 20) (Nat.le_refl _) (by omega)) (Ok.end ?_)
      have : no2 (hP num U) (t 4 a) (t 5 a) (t 6 a) n = false := by
        rw [hno]
        cases e : anyN (fun x => anyN (fun y => B x y) n) n
        · rfl
        · obtain ⟨x, hx, hz⟩ := anyN_t.mp e
          obtain ⟨y, hy, hz⟩ := anyN_t.mp hz
          rw [hI x (by omega) y (by omega)] at hz
          exact absurd hz (by decide)
      rw [this]; rfl
  obtain ⟨r, e, rfl⟩ := key
  unfold f_X6_isSo
  rw [xa0_ok hN hw ha, xa1_ok hN hw ha, xa2_ok hN hw ha, xa3_ok hN hw ha, e6, h3, if_neg (show ¬ nI 2 = (0 : Int32) by decide), if_neg (show ¬ nI 2 = (1 : Int32) by decide), e, Option.bind_some, z1]
  rfl
theorem one1 : ∀ b : Bool, t_X6_oneIf (b1 b) = b1 b := by decide
theorem one2 : ∀ b : Bool, (if b1 b = 0 then some (0 : Int32) else some (1 : Int32)) = some (b1 b) := by decide
theorem sim22 : Sim_22 Inv := by
  rintro sx sm v1 hI
  unfold f_X6_holds f_X7_holds
  rcases doneCases hI with ⟨h1, h2⟩ | ⟨t, n, ax, cl, cc, K, pl, num, rn, cd, rdn, U, ch, hc, h1, h2, hGG, hCl, hX, hM, hXH, hMH⟩
  · rw [h1, h2, if_pos zero0, if_pos zero0]
    exact ⟨_, rfl, rfl, hI⟩
  · rw [h1, h2, if_neg one0, if_neg one0]
    rcases argA hc v1 with ⟨a, ha, rfl, e1, e2⟩ | ⟨e1, e2⟩
    · rw [e1, e2, if_neg one0, if_neg one0]
      have h3 := hc.1.s3 ha
      have both : ∃ b, f_X6_isSo sx (nI a) = some (b1 b) ∧ f_X7_isSo sm (nI a) = some (b1 b) := by
        rcases (show t 3 a = 0 ∨ t 3 a = 1 ∨ t 3 a = 2 by omega) with q | q | q
        · exact ⟨_, xso0 hc.1 hc.2.1 hXH ha q, mso0 hc.1 hc.2.2.1 hMH ha q⟩
        · exact ⟨_, xso1 hc.1 hGG.1 hc.2.1 hXH ha q, mso1 hc.1 hc.2.2.1 hMH ha q⟩
        · exact ⟨_, xso2 hc.1 hGG.1 hc.2.1 hXH ha q, mso2 hc.1 hc.2.2.1 hMH ha q⟩
      obtain ⟨b, x1, x2⟩ := both
      rw [x1, x2, Option.bind_some, Option.bind_some, one1, one2]
      exact ⟨_, rfl, rfl, hI⟩
    · rw [e1, e2, if_pos zero0, if_pos zero0]
      exact ⟨_, rfl, rfl, hI⟩
end HOLDS3
