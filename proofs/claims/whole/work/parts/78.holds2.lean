/-! holds, the class's: classes and roles -/
section HOLDS2
variable {t : Th} {n ax K : Nat} {sx : XS} {num pl : Nat → Nat} {U : Nat → Nat → Bool} {G : Nat → Nat → Bool}
theorem z1 : ∀ b, zg (b1 b) = some (b1 b) := by decide
theorem xso0 (hw : Wf t n ax) (hN : XN sx.1 t n ax) (hH : XH sx.1 n (hP num U) G) {a : Nat} (ha : a < ax) (h3 : t 3 a = 0) : f_X6_isSo sx (nI a) = some (b1 (!no0 G (t 4 a) (t 5 a) n)) := by
  have h20 := hw.n20
  have hwa := hw.ax ha
  unfold f_X6_isSo
  rw [xa0_ok hN hw ha, xa1_ok hN hw ha, xa2_ok hN hw ha, h3, if_pos (show nI 0 = (0 : Int32) from rfl), members_ok (by omega), members_ok (by omega)]
  have e := (hH.1 (t 4 a) (by omega)).sub h20 (hH.1 (t 5 a) (by omega))
  unfold no0
  by_cases q : anyN (fun i => G (t 4 a) i && !G (t 5 a) i) n = false
  · rw [if_pos (e.mpr q), q]; rfl
  · rw [if_neg (fun w => q (e.mp w))]
    have q' : anyN (fun i => G (t 4 a) i && !G (t 5 a) i) n = true := by simpa using q
    rw [q']; rfl
end HOLDS2
