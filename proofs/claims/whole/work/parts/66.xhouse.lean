/-! the house, the class's -/
section XHOUSE2
variable {sx z : XS} {t : Th} {n ax K : Nat} {pl num : Nat → Nat} {U : Nat → Nat → Bool}
theorem hT_big (hPN : PN n K pl num) {x : Nat} (hx : n ≤ x) (h20 : x < 20) : hT num x = false := by
  unfold hT
  have : num (101 * x) = 0 := by
    apply Classical.byContradiction
    intro w
    obtain ⟨l, hl, en, el⟩ := pl_num hPN (p := 101 * x) (by omega) w
    have := (hPN.2.1 l hl).1
    rw [el] at this
    unfold sb at this
    omega
  simp [this]
theorem hP_T {x r y : Nat} (h : hP num U x r y = true) : hT num x = true ∧ hT num y = true := by
  unfold hP at h
  simp at h
  exact ⟨h.1.2, h.2⟩
/-- pairs laid so far -/
def hD (num : Nat → Nat) (U : Nat → Nat → Bool) (x y : Nat) (a r b : Nat) : Bool := hP num U a r b && (decide (a < x) || (decide (a = x) && decide (b < y)))
theorem hD_same {x y x' y' : Nat} {a r b : Nat} (h : hP num U a r b = true → ((a < x ∨ (a = x ∧ b < y)) ↔ (a < x' ∨ (a = x' ∧ b < y')))) : hD num U x y a r b = hD num U x' y' a r b := by
  unfold hD
  cases e : hP num U a r b
  · rfl
  · have := h e
    have e1 : (decide (a < x) || (decide (a = x) && decide (b < y))) = decide (a < x ∨ (a = x ∧ b < y)) := by simp
    have e2 : (decide (a < x') || (decide (a = x') && decide (b < y'))) = decide (a < x' ∨ (a = x' ∧ b < y')) := by simp
    rw [e1, e2, decide_eq_decide.mpr this]
theorem hav_ok (h20 : n ≤ 20) (hPN : PN n K pl num) {G : Nat → Bool} {c : Int32} (hc : Mk c n G) (hp : XP z n (hP num U)) {r : Nat} (hr : r < 4) :
    Ok (f_X2_havers z (nI r) c) (fun v => Mk v n (fun x => anyN (fun y => hP num U x r y && G y) n)) := by
  unfold f_X2_havers
  refine Ok.forR (f := fun v => b_X2_havers_5 z (nI r) c v.1 v.2) (i := 0) (s := (0 : Int32)) 20 (fun i v => Mk v n (fun x => decide (x < i) && anyN (fun y => hP num U x r y && G y) n)) ?_ ?_ (Nat.zero_le _) (Mk.zero.congr (fun i _ => by simp))
  · rintro i v hi h
    show Ok (b_X2_havers_5 z (nI r) c v (nI i)) _
    unfold b_X2_havers_5
    refine Ok.ifn (show ¬ (20 : Int32) ≤ nI i from nI_ge (b := 20) hi (by omega)) ?_
    rw [partners_ok hr hi]
    have e := (hp r i hr hi).and0 h20 hc
    by_cases q : anyN (fun y => hP num U i r y && G y) n = false
    · refine Ok.ifp (e.mpr q) (Ok.go ⟨nI_1 i, h.congr (fun x hx => ?_)⟩)
      by_cases w : x = i
      · subst w; rw [q]; simp
      · have this : decide (x < i) = decide (x < i + 1) := decide_eq_decide.mpr (by omega)
        rw [this]
    · have q' : anyN (fun y => hP num U i r y && G y) n = true := by simpa using q
      have hin : i < n := by
        apply Classical.byContradiction
        intro w
        obtain ⟨y, hy, hz⟩ := anyN_t.mp q'
        simp at hz
        have := (hP_T hz.1).1
        rw [hT_big hPN (by omega) hi] at this
        exact absurd this (by decide)
      refine Ok.ifn (fun w => q (e.mp w)) (Ok.go ⟨nI_1 i, (h.bit h20 hin).congr (fun x hx => ?_)⟩)
      by_cases w : x = i
      · subst w; rw [q']; simp
      · have this : decide (x < i) = decide (x < i + 1) := decide_eq_decide.mpr (by omega)
        rw [this]
        simp [w]
  · rintro v h
    show Ok (b_X2_havers_5 z (nI r) c v (nI 20)) _
    unfold b_X2_havers_5
    refine Ok.ifp (show (20 : Int32) ≤ nI 20 from nI_le (a := 20) (Nat.le_refl _) (by omega)) (Ok.end (h.congr (fun x hx => ?_)))
    have : x < 20 := by omega
    simp [this]
theorem subj_ok (h20 : n ≤ 20) (hw : Wf t n ax) (hN : XN z.1 t n ax) (hn : NumX z.1 num) {d : Nat} (hd : d < n) :
    Ok (f_X2_subjects z (nI d)) (fun v => Mk v n (fun x => decide (num (100 * x + d) ≠ 0))) := by
  unfold f_X2_subjects
  refine Ok.forR (f := fun v => b_X2_subjects_5 z (nI d) v.1 v.2) (i := 0) (s := (0 : Int32)) n (fun i v => Mk v n (fun x => decide (x < i) && decide (num (100 * x + d) ≠ 0))) ?_ ?_ (Nat.zero_le _) (Mk.zero.congr (fun i _ => by simp))
  · rintro i v hi h
    show Ok (b_X2_subjects_5 z (nI d) v (nI i)) _
    unfold b_X2_subjects_5
    refine Ok.ifn (show ¬ z.1 30 0 ≤ nI i by rw [hN.1]; exact nI_ge hi (by omega)) ?_
    rw [saysIs_ok hn (by omega)]
    by_cases q : num (100 * i + d) = 0
    · refine Ok.ifp (by simp [q, b1]) (Ok.go ⟨nI_1 i, h.congr (fun x hx => ?_)⟩)
      by_cases w : x = i
      · subst w; simp [q]
      · have this : decide (x < i) = decide (x < i + 1) := decide_eq_decide.mpr (by omega)
        rw [this]
    · refine Ok.ifn (by simp [q, b1]) (Ok.go ⟨nI_1 i, (h.bit h20 hi).congr (fun x hx => ?_)⟩)
      by_cases w : x = i
      · subst w; simp [q]
      · have this : decide (x < i) = decide (x < i + 1) := decide_eq_decide.mpr (by omega)
        rw [this]
        simp [w]
  · rintro v h
    show Ok (b_X2_subjects_5 z (nI d) v (nI n)) _
    unfold b_X2_subjects_5
    refine Ok.ifp (show z.1 30 0 ≤ nI n by rw [hN.1]; exact nI_le (Nat.le_refl _) (by omega)) (Ok.end (h.congr (fun x hx => by simp [hx])))
theorem meaning_ok (hw : Wf t n ax) (hPN : PN n K pl num) (hN : XN z.1 t n ax) (hn : NumX z.1 num) (hp : XP z n (hP num U)) {c : Int32} (hc : Mk c n (hT num)) {i : Nat} (hi : i < n) (hm : ∀ j, j < i → Mk (z.1 17 j) n (hG num U t n n j)) :
    Ok (f_X2_membersByMeaning z (nI i) c) (fun v => Mk v n (hG num U t n n i)) := by
  have h20 := hw.n20
  have h5 := hw.s5 hi
  unfold f_X2_membersByMeaning
  rw [xsort_ok hN hw hi, xfirst_ok hN hw hi, xsecond_ok hN hw hi]
  have q0 : nI (t 0 i) = (0 : Int32) ↔ t 0 i = 0 := nI_eq (b := 0) (by omega) (by omega)
  have q1 : nI (t 0 i) = (1 : Int32) ↔ t 0 i = 1 := nI_eq (b := 1) (by omega) (by omega)
  have q2 : nI (t 0 i) = (2 : Int32) ↔ t 0 i = 2 := nI_eq (b := 2) (by omega) (by omega)
  have q3 : nI (t 0 i) = (3 : Int32) ↔ t 0 i = 3 := nI_eq (b := 3) (by omega) (by omega)
  have eG : ∀ x, hG num U t n n i x = hS num U t n (hG num U t n i) i x := fun x => hG_at hi x
  by_cases s0 : t 0 i = 0
  · exact Ok.ifp (q0.mpr s0) (Ok.some (hc.congr (fun x hx => by rw [eG]; simp [hS, s0])))
  refine Ok.ifn (fun w => s0 (q0.mp w)) ?_
  by_cases s1 : t 0 i = 1
  · exact Ok.ifp (q1.mpr s1) (Ok.some (Mk.zero.congr (fun x hx => by rw [eG]; simp [hS, s1])))
  refine Ok.ifn (fun w => s1 (q1.mp w)) ?_
  by_cases s2 : t 0 i = 2
  · refine Ok.ifp (q2.mpr s2) (Ok.bind (subj_ok h20 hw hN hn hi) (fun v hv => Ok.some ((hc.and hv).congr (fun x hx => ?_))))
    rw [eG]
    simp [hS, s2, Bool.and_comm]
  refine Ok.ifn (fun w => s2 (q2.mp w)) ?_
  by_cases s3 : t 0 i = 3
  · have hmm := hw.meet hi s3
    rw [tv1_3 (by omega), tv2_3 (by omega), members_ok (by omega), members_ok (by omega)]
    refine Ok.ifp (q3.mpr s3) (Ok.some (((hm _ hmm.1).and (hm _ hmm.2)).congr (fun x hx => ?_)))
    rw [eG]
    unfold hS
    rw [if_neg s0, if_neg s2, if_pos s3, hG_old hi hmm.1, hG_old hi hmm.2]
    cases e : hG num U t n n (t 1 i) x
    · simp
    · have e2 := e
      rw [hG_at (by omega)] at e2
      rw [hS_T e2]
      simp
  · have s4 : t 0 i = 4 := by omega
    have hmm := hw.has hi s4
    rw [tv1_3 (by omega), tv2_3 (by omega), members_ok (z := z) (j := t 2 i) (by omega)]
    refine Ok.ifn (fun w => s3 (q3.mp w)) (Ok.bind (hav_ok h20 hPN (hm _ hmm.2) hp hmm.1) (fun v hv => Ok.some (hv.congr (fun x hx => ?_))))
    rw [eG]
    unfold hS
    rw [if_neg s0, if_neg s2, if_neg s3, if_pos s4, hG_old hi hmm.2]
    cases e : anyN (fun y => hP num U x (t 1 i) y && hG num U t n n (t 2 i) y) n
    · simp
    · obtain ⟨y, hy, hz⟩ := anyN_t.mp e
      simp at hz
      rw [(hP_T hz.1).1]
      simp
theorem xbuild_ok (hw : Wf t n ax) (hPN : PN n K pl num) (hN : XN sx.1 t n ax) (hn : NumX sx.1 num) (hU : XU sx.1 U) :
    Ok (f_X2_build sx) (fun z => FrB sx z ∧ XH z.1 n (hP num U) (hG num U t n n)) := by
  have h20 := hw.n20
  have h2 := hw.n2
  unfold f_X2_build
  refine Ok.forR (f := fun v => b_X2_build_6 sx v.1 v.2) (i := 0) (s := (0 : Int32)) n (fun i v => Mk v n (fun x => decide (x < i) && hT num x)) ?_ ?_ (Nat.zero_le _) (Mk.zero.congr (fun i _ => by simp))
  · rintro i v hi h
    show Ok (b_X2_build_6 sx v (nI i)) _
    unfold b_X2_build_6
    refine Ok.ifn (show ¬ sx.1 30 0 ≤ nI i by rw [hN.1]; exact nI_ge hi (by omega)) ?_
    have e1 : t_X1_saysIs sx (nI i) (nI i) = _ := saysIs_ok hn (x := i) (d := i) (by omega)
    have e2 : t_X1_saysIs sx (nI i) 1 = _ := saysIs_ok hn (x := i) (d := 1) (by omega)
    rw [e1, e2, show 100 * i + i = 101 * i by omega]
    have skip : hT num i = false → Mk v n (fun x => decide (x < i + 1) && hT num x) := fun hT0 => h.congr (fun x hx => by
      by_cases w : x = i
      · subst w; simp [hT0]
      · have this : decide (x < i) = decide (x < i + 1) := decide_eq_decide.mpr (by omega)
        rw [this])
    by_cases q : num (101 * i) = 0
    · exact Ok.ifp (by simp [q, b1]) (Ok.go ⟨nI_1 i, skip (by simp [hT, q])⟩)
    refine Ok.ifn (by simp [q, b1]) ?_
    by_cases q1 : num (100 * i + 1) = 0
    · refine Ok.ifp (by simp [q1, b1]) (Ok.go ⟨nI_1 i, (h.bit h20 hi).congr (fun x hx => ?_)⟩)
      by_cases w : x = i
      · subst w; simp [hT, q, q1]
      · have this : decide (x < i) = decide (x < i + 1) := decide_eq_decide.mpr (by omega)
        rw [this]
        simp [w]
    · exact Ok.ifn (by simp [q1, b1]) (Ok.go ⟨nI_1 i, skip (by simp [hT, q1])⟩)
  rintro c hc
  have hc : Mk c n (hT num) := hc.congr (fun x hx => by simp [hx])
  show Ok (b_X2_build_6 sx c (nI n)) _
  unfold b_X2_build_6
  refine Ok.ifp (show sx.1 30 0 ≤ nI n by rw [hN.1]; exact nI_le (Nat.le_refl _) (by omega)) ?_
  refine Ok.bind (P := fun z => FrB sx z ∧ z.1 17 = sx.1 17 ∧ XP z n (hD num U 0 0)) ((fill_ok 80 (by omega) (sx.1 18) 0).map (fun f2 hf2 => ⟨(show FrB sx sx from ⟨fun _ _ _ => rfl, fun _ => rfl⟩).s18 f2, rfl, fun r a hr ha => ?_⟩)) ?_
  · show Mk (f2 (20 * r + a)) n _
    rw [hf2 _ (by omega)]
    exact Mk.zero.congr (fun b hb => by simp [hD])
  rintro z ⟨hf, h17, hp⟩
  refine Ok.inr ?_
  refine Ok.for (f := fun v => b_X2_build_63 c v.1 v.2) (i := 0) n (fun x z => FrB sx z ∧ z.1 17 = sx.1 17 ∧ XP z n (hD num U x 0)) ?_ ?_ (Nat.zero_le _) ⟨hf, h17, hp⟩
  · rintro x z hx ⟨hf, h17, hp⟩
    have hNz := hf.xn hN
    show Ok (b_X2_build_63 c (nI x) z) _
    unfold b_X2_build_63
    refine Ok.ifn (show ¬ z.1 30 0 ≤ nI x by rw [hNz.1]; exact nI_ge hx (by omega)) ?_
    refine Ok.for (f := fun v => b_X2_build_75 c (nI x) v.1 v.2) (i := 0) n (fun y z => FrB sx z ∧ z.1 17 = sx.1 17 ∧ XP z n (hD num U x y)) ?_ ?_ (Nat.zero_le _) ⟨hf, h17, hp⟩
    · rintro y z hy ⟨hf, h17, hp⟩
      have hNz := hf.xn hN
      show Ok (b_X2_build_75 c (nI x) (nI y) z) _
      unfold b_X2_build_75
      refine Ok.ifn (show ¬ z.1 30 0 ≤ nI y by rw [hNz.1]; exact nI_ge hy (by omega)) ?_
      rw [hc.has h20 hx, hc.has h20 hy]
      have skip : (hT num x = false ∨ hT num y = false) → XP z n (hD num U x (y + 1)) := fun hh => hp.congr (fun a r b _ _ _ => hD_same (fun he => by
        have h1 := hP_T he
        constructor
        · omega
        · rintro (w | ⟨rfl, w⟩)
          · exact Or.inl w
          · by_cases eb : b = y
            · subst eb
              rcases hh with hh | hh
              · rw [hh] at h1; exact absurd h1.1 (by decide)
              · rw [hh] at h1; exact absurd h1.2 (by decide)
            · exact Or.inr ⟨rfl, by omega⟩))
      by_cases q1 : hT num x = false
      · exact Ok.ifp ((b1_0 _).mpr q1) (Ok.go ⟨nI_1 y, hf, h17, skip (Or.inl q1)⟩)
      have q1' : hT num x = true := by simpa using q1
      refine Ok.ifn (fun w => q1 ((b1_0 _).mp w)) ?_
      by_cases q2 : hT num y = false
      · exact Ok.ifp ((b1_0 _).mpr q2) (Ok.go ⟨nI_1 y, hf, h17, skip (Or.inr q2)⟩)
      have q2' : hT num y = true := by simpa using q2
      refine Ok.ifn (fun w => q2 ((b1_0 _).mp w)) (Ok.bind (pair_ok h20 hn hU hx hy hf h17 hp) (fun z' ⟨g1, g2, g3⟩ => Ok.go ⟨nI_1 y, g1, g2, g3.congr (fun a r b _ _ _ => ?_)⟩))
      by_cases e : a = x ∧ b = y
      · obtain ⟨rfl, rfl⟩ := e
        show (hD num U a b a r b || (decide (a = a) && decide (b = b) && anyN (hQ num U a r b) 4)) = _
        unfold hD hP
        rw [q1', q2']
        simp
      · have e3 : (decide (a = x) && decide (b = y)) = false := by
          rw [← Bool.decide_and]
          exact decide_eq_false e
        show (hD num U x y a r b || (decide (a = x) && decide (b = y) && anyN (hQ num U x r y) 4)) = _
        rw [e3, Bool.false_and, Bool.or_false]
        exact hD_same (fun _ => by omega)
    · rintro z ⟨hf, h17, hp⟩
      have hNz := hf.xn hN
      show Ok (b_X2_build_75 c (nI x) (nI n) z) _
      unfold b_X2_build_75
      exact Ok.ifp (show z.1 30 0 ≤ nI n by rw [hNz.1]; exact nI_le (Nat.le_refl _) (by omega)) (Ok.end (Or.inl ⟨_, rfl, nI_1 x, hf, h17, hp.congr (fun a r b _ _ hb => hD_same (fun _ => by omega))⟩))
  rintro z ⟨hf, h17, hp⟩
  have hNz := hf.xn hN
  show Ok (b_X2_build_63 c (nI n) z) _
  unfold b_X2_build_63
  refine Ok.ifp (show z.1 30 0 ≤ nI n by rw [hNz.1]; exact nI_le (Nat.le_refl _) (by omega)) (Ok.inr ?_)
  have hp : XP z n (hP num U) := hp.congr (fun a r b ha _ hb => by
    unfold hD
    cases e : hP num U a r b
    · rfl
    · have h1 := (hP_T e).1
      have : a < n := by
        apply Classical.byContradiction
        intro w
        rw [hT_big hPN (by omega) ha] at h1
        exact absurd h1 (by decide)
      simp [this])
  refine Ok.for (f := fun v => b_X2_build_129 c v.1 v.2) (i := 0) n (fun i z => FrB sx z ∧ XP z n (hP num U) ∧ ∀ j, j < i → Mk (z.1 17 j) n (hG num U t n n j)) ?_ ?_ (Nat.zero_le _) ⟨hf, hp, fun j hj => absurd hj (Nat.not_lt_zero j)⟩
  · rintro i z hi ⟨hf, hp, hm⟩
    have hNz := hf.xn hN
    show Ok (b_X2_build_129 c (nI i) z) _
    unfold b_X2_build_129
    refine Ok.ifn (show ¬ z.1 30 0 ≤ nI i by rw [hNz.1]; exact nI_ge hi (by omega)) (Ok.bind (meaning_ok hw hPN hNz (hf.nx hn) hp hc hi hm) (fun v hv => Ok.bindE rfl (Ok.go ⟨nI_1 i, hf.s17 _, hp, fun j hj => ?_⟩)))
    show Mk (t_X6_put 20 (z.1 17) (nI i) v j) n _
    rw [put_nI (by omega) (by omega)]
    by_cases e : j = i
    · subst e; rw [pk_us]; exact hv
    · rw [pk_un e]; exact hm j (by omega)
  · rintro z ⟨hf, hp, hm⟩
    have hNz := hf.xn hN
    show Ok (b_X2_build_129 c (nI n) z) _
    unfold b_X2_build_129
    exact Ok.ifp (show z.1 30 0 ≤ nI n by rw [hNz.1]; exact nI_le (Nat.le_refl _) (by omega)) (Ok.end ⟨hf, hm, hp⟩)
end XHOUSE2
