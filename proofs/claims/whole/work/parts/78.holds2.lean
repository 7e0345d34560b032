/-! holds, the class's: classes and roles -/
section HOLDS2
variable {t : Th} {n ax K : Nat} {sx : XS} {num pl : Nat → Nat} {U : Nat → Nat → Bool} {G : Nat → Nat → Bool}
theorem z1 : ∀ b, zg (b1 b) = some (b1 b) := by decide
theorem xso0 (hw : Wf t n ax) (hN : XN sx.1 t n ax) (hH : XH sx.1 n (hP num U) G) {a : Nat} (ha : a < ax) (h3 : t 3 a = 0) : f_X6_isSo sx (nI a) = some (b1 (!no0 G (t 4 a) (t 5 a) n)) := by
  have h20 := hw.n20
  have hwa := hw.ax ha
  unfold f_X6_isSo
  rw [xa0_ok hN hw ha, xa1_ok hN hw ha, xa2_ok hN hw ha, h3, if_pos (show nI 0 = (0 : Int32) from rfl), members_ok (by omega), members_ok (by omega)]
  have e := (hH.1 (t 4 a) (by omega)).sub h20 (hH.1 (t 5 a) (by omega))
  unfold no0
  by_cases q : anyN (fun i => G (t 4 a) i && !G (t 5 a) i) n = false
  · rw [if_pos (e.mpr q), q]; rfl
  · rw [if_neg (fun w => q (e.mp w))]
    have q' : anyN (fun i => G (t 4 a) i && !G (t 5 a) i) n = true := by simpa using q
    rw [q']; rfl
theorem xso1 (hw : Wf t n ax) (hPN : PN n K pl num) (hN : XN sx.1 t n ax) (hH : XH sx.1 n (hP num U) G) {a : Nat} (ha : a < ax) (h3 : t 3 a = 1) : f_X6_isSo sx (nI a) = some (b1 (!no1 (hP num U) (t 4 a) (t 5 a) n)) := by
  have h20 := hw.n20
  have hwa := hw.ax ha
  have big : ∀ x, ¬ x < n → x < 20 → anyN (fun y => hP num U x (t 4 a) y && !hP num U x (t 5 a) y) n = false := by
    intro x hx hx2
    cases e : anyN (fun y => hP num U x (t 4 a) y && !hP num U x (t 5 a) y) n
    · rfl
    · obtain ⟨y, hy, hz⟩ := anyN_t.mp e
      have h1 : hP num U x (t 4 a) y = true := (Bool.and_eq_true_iff.mp hz).1
      have := (hP_T h1).1
      rw [hT_big hPN (by omega) hx2] at this
      exact absurd this (by decide)
  have key : Ok (f_X2_roleWithin sx (nI (t 4 a)) (nI (t 5 a))) (fun r => r = b1 (!no1 (hP num U) (t 4 a) (t 5 a) n)) := by
    unfold f_X2_roleWithin
    refine Ok.for0 (f := fun v => b_X2_roleWithin_2 sx (nI (t 4 a)) (nI (t 5 a)) v) (i := 0) 20 (fun i => ∀ x, x < i → anyN (fun y => hP num U x (t 4 a) y && !hP num U x (t 5 a) y) n = false) ?_ ?_ (Nat.zero_le _) (fun x hx => absurd hx (Nat.not_lt_zero x))
    · intro i hi hI
      show Ok (b_X2_roleWithin_2 sx (nI (t 4 a)) (nI (t 5 a)) (nI i)) _
      unfold b_X2_roleWithin_2
      refine Ok.ifn (show ¬ (20 : Int32) ≤ nI i from nI_ge (b := 20) hi (by omega)) ?_
      rw [partners_ok (by omega) hi, partners_ok (by omega) hi]
      have e := (hH.2 (t 4 a) i (by omega) hi).sub h20 (hH.2 (t 5 a) i (by omega) hi)
      refine Ok.ite (fun w => Ok.go ⟨nI_1 i, fun x hx => ?_⟩) (fun w => Ok.end ?_)
      · by_cases q : x = i
        · subst q; exact e.mp w
        · exact hI x (by omega)
      · have q : ¬ anyN (fun y => hP num U i (t 4 a) y && !hP num U i (t 5 a) y) n = false := fun z => w (e.mpr z)
        have hin : i < n := by
          apply Classical.byContradiction
          intro z
          exact q (big i z hi)
        have : no1 (hP num U) (t 4 a) (t 5 a) n = true := anyN_t.mpr ⟨i, hin, by simpa using q⟩
        rw [this]; rfl
    · intro hI
      show Ok (b_X2_roleWithin_2 sx (nI (t 4 a)) (nI (t 5 a)) (nI 20)) _
      unfold b_X2_roleWithin_2
      refine Ok.ifp (show (20 : Int32) ≤ nI 20 from nI_le (a := 20) (Nat.le_refl _) (by omega)) (Ok.end ?_)
      have : no1 (hP num U) (t 4 a) (t 5 a) n = false := by
        cases e : no1 (hP num U) (t 4 a) (t 5 a) n
        · rfl
        · obtain ⟨x, hx, hz⟩ := anyN_t.mp e
          have := hI x (by omega)
          rw [this] at hz
          exact absurd hz (by decide)
      rw [this]; rfl
  obtain ⟨r, e, rfl⟩ := key
  unfold f_X6_isSo
  rw [xa0_ok hN hw ha, xa1_ok hN hw ha, xa2_ok hN hw ha, h3, if_neg (show ¬ nI 1 = (0 : Int32) by decide), if_pos (show nI 1 = (1 : Int32) from rfl), e, Option.bind_some, z1]
  rfl
end HOLDS2
