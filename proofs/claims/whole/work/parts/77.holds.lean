/-! holds -/
section HOLDS
/-- a flag that falls where f is -/
theorem fall {f : Nat → Bool} {i : Nat} (v : Bool) (hv : v = !anyN f i) : b1 (v && !f i) = b1 (!anyN f (i + 1)) := by
  subst hv
  show _ = b1 (!(anyN f i || f i))
  cases anyN f i <;> cases f i <;> rfl
def no0 (G : Nat → Nat → Bool) (a b n : Nat) : Bool := anyN (fun x => G a x && !G b x) n
def no1 (P : Nat → Nat → Nat → Bool) (r s n : Nat) : Bool := anyN (fun x => anyN (fun y => P x r y && !P x s y) n) n
def no2 (P : Nat → Nat → Nat → Bool) (r s u n : Nat) : Bool := anyN (fun x => anyN (fun y => anyN (fun z => P x r y && P y s z && !P x u z) n) n) n
variable {t : Th} {n ax : Nat} {sm : MS} {T : Nat → Bool} {P : Nat → Nat → Nat → Bool} {G : Nat → Nat → Bool}
theorem mso0 (hw : Wf t n ax) (hN : MN sm t n ax) (hH : MH sm n T P G) {a : Nat} (ha : a < ax) (h3 : t 3 a = 0) : f_X7_isSo sm (nI a) = some (b1 (!no0 G (t 4 a) (t 5 a) n)) := by
  have h20 := hw.n20
  have h40 := hw.a40
  obtain ⟨m6, m7, m8, m9, m10⟩ := hN.2.2.2 a ha
  have hwa := hw.ax ha
  have key : Ok (f_X7_isSo sm (nI a)) (fun r => r = b1 (!no0 G (t 4 a) (t 5 a) n)) := by
    unfold f_X7_isSo
    refine Ok.bindE (rd_nI (by omega) (by omega)) (Ok.bindE (rd_nI (by omega) (by omega)) ?_)
    rw [m7, m8]
    refine Ok.forR (f := fun v => b_X7_isSo_20 sm (nI a) (nI (t 4 a)) (nI (t 5 a)) v.1 v.2) (i := 0) (s := (1 : Int32)) n (fun i v => v = b1 (!anyN (fun x => G (t 4 a) x && !G (t 5 a) x) i)) ?_ ?_ (Nat.zero_le _) rfl
    · rintro i v hi rfl
      show Ok (b_X7_isSo_20 sm (nI a) (nI (t 4 a)) (nI (t 5 a)) _ (nI i)) _
      unfold b_X7_isSo_20
      refine Ok.ifn (show ¬ sm 0 0 ≤ nI i by rw [hN.1]; exact nI_ge hi (by omega)) (Ok.bindE (rd_nI (by omega) (by omega)) ?_)
      rw [m6, h3]
      refine Ok.ifp rfl ?_
      have r31 : ∀ j, j < n → rd 784 (sm 31) ((28 : Int32) * nI i + nI j) = some (b1 (G j i)) := by
        intro j hj
        have e : (28 : Int32) * nI i + nI j = nI (28 * i + j) := by
          show nI 28 * nI i + nI j = _
          rw [nI_mul, nI_add]
        rw [e, rd_nI (by omega) (by omega), hH.2.2 i j hi hj]
      have fl := fall (f := fun x => G (t 4 a) x && !G (t 5 a) x) (i := i) _ rfl
      rw [r31 _ (by omega), r31 _ (by omega), Option.bind_some, Option.bind_some]
      by_cases q : (!anyN (fun x => G (t 4 a) x && !G (t 5 a) x) i) = true
      · rw [q] at fl ⊢
        refine Ok.ifn one0 ?_
        cases e1 : G (t 4 a) i
        · refine Ok.ifp rfl (Ok.go ⟨nI_1 i, ?_⟩)
          rw [← fl, e1]; rfl
        · refine Ok.ifn one0 ?_
          cases e2 : G (t 5 a) i
          · refine Ok.ifp rfl (Ok.go ⟨nI_1 i, ?_⟩)
            rw [← fl, e1, e2]; rfl
          · refine Ok.ifn one0 (Ok.go ⟨nI_1 i, ?_⟩)
            rw [← fl, e1, e2]; rfl
      · have q' : (!anyN (fun x => G (t 4 a) x && !G (t 5 a) x) i) = false := by simpa using q
        rw [q'] at fl ⊢
        refine Ok.ifp rfl (Ok.go ⟨nI_1 i, ?_⟩)
        rw [← fl]; rfl
    · rintro v rfl
      show Ok (b_X7_isSo_20 sm (nI a) (nI (t 4 a)) (nI (t 5 a)) _ (nI n)) _
      unfold b_X7_isSo_20
      refine Ok.ifp (show sm 0 0 ≤ nI n by rw [hN.1]; exact nI_le (Nat.le_refl _) (by omega)) ?_
      have z : ∀ b, zg (b1 b) = some (b1 b) := by decide
      rw [z]
      exact Ok.end rfl
  obtain ⟨r, e, rfl⟩ := key
  exact e
theorem fall2 {f : Nat → Bool} {i : Nat} (A v : Bool) (hv : v = !(A || anyN f i)) : b1 (v && !f i) = b1 (!(A || anyN f (i + 1))) := by
  subst hv
  show _ = b1 (!(A || (anyN f i || f i)))
  cases A <;> cases anyN f i <;> cases f i <;> rfl
theorem mso1 (hw : Wf t n ax) (hN : MN sm t n ax) (hH : MH sm n T P G) {a : Nat} (ha : a < ax) (h3 : t 3 a = 1) : f_X7_isSo sm (nI a) = some (b1 (!no1 P (t 4 a) (t 5 a) n)) := by
  have h20 := hw.n20
  have h40 := hw.a40
  obtain ⟨m6, m7, m8, m9, m10⟩ := hN.2.2.2 a ha
  have hwa := hw.ax ha
  have key : Ok (f_X7_isSo sm (nI a)) (fun r => r = b1 (!no1 P (t 4 a) (t 5 a) n)) := by
    unfold f_X7_isSo
    refine Ok.bindE (rd_nI (by omega) (by omega)) (Ok.bindE (rd_nI (by omega) (by omega)) ?_)
    rw [m7, m8]
    refine Ok.forR (f := fun v => b_X7_isSo_20 sm (nI a) (nI (t 4 a)) (nI (t 5 a)) v.1 v.2) (i := 0) (s := (1 : Int32)) n (fun i v => v = b1 (!anyN (fun x => anyN (fun y => P x (t 4 a) y && !P x (t 5 a) y) n) i)) ?_ ?_ (Nat.zero_le _) rfl
    · rintro x v hx rfl
      show Ok (b_X7_isSo_20 sm (nI a) (nI (t 4 a)) (nI (t 5 a)) _ (nI x)) _
      unfold b_X7_isSo_20
      refine Ok.ifn (show ¬ sm 0 0 ≤ nI x by rw [hN.1]; exact nI_ge hx (by omega)) (Ok.bindE (rd_nI (by omega) (by omega)) ?_)
      rw [m6, h3]
      refine Ok.ifn (by decide) ?_
      generalize hA : anyN (fun x => anyN (fun y => P x (t 4 a) y && !P x (t 5 a) y) n) x = A
      refine Ok.forR (f := fun v => b_X7_isSo_85 sm (nI a) (nI (t 4 a)) (nI (t 5 a)) (nI x) v.1 v.2) (i := 0) n (fun i v => v = b1 (!(A || anyN (fun y => P x (t 4 a) y && !P x (t 5 a) y) i))) ?_ ?_ (Nat.zero_le _) (by simp [anyN])
      · rintro y v hy rfl
        show Ok (b_X7_isSo_85 sm (nI a) (nI (t 4 a)) (nI (t 5 a)) (nI x) _ (nI y)) _
        unfold b_X7_isSo_85
        refine Ok.ifn (show ¬ sm 0 0 ≤ nI y by rw [hN.1]; exact nI_ge hy (by omega)) (Ok.bindE (rd_nI (by omega) (by omega)) ?_)
        rw [m6, h3]
        refine Ok.ifp rfl ?_
        have r30 : ∀ r, r < 4 → rd 3136 (sm 30) ((112 : Int32) * nI x + (28 : Int32) * nI r + nI y) = some (b1 (P x r y)) := by
          intro r hr
          have e : (112 : Int32) * nI x + (28 : Int32) * nI r + nI y = nI (112 * x + 28 * r + y) := by
            show nI 112 * nI x + nI 28 * nI r + nI y = _
            rw [nI_mul, nI_mul, nI_add, nI_add]
          rw [e, rd_nI (by omega) (by omega), hH.2.1 x r y hx hr hy]
        have fl := fall2 (f := fun y => P x (t 4 a) y && !P x (t 5 a) y) (i := y) A _ rfl
        rw [r30 _ (by omega), r30 _ (by omega), Option.bind_some, Option.bind_some]
        by_cases q : (!(A || anyN (fun y => P x (t 4 a) y && !P x (t 5 a) y) y)) = true
        · rw [q] at fl ⊢
          refine Ok.ifn one0 ?_
          cases e1 : P x (t 4 a) y
          · refine Ok.ifp rfl (Ok.go ⟨nI_1 y, ?_⟩)
            rw [← fl, e1]; rfl
          · refine Ok.ifn one0 ?_
            cases e2 : P x (t 5 a) y
            · refine Ok.ifp rfl (Ok.go ⟨nI_1 y, ?_⟩)
              rw [← fl, e1, e2]; rfl
            · refine Ok.ifn one0 (Ok.go ⟨nI_1 y, ?_⟩)
              rw [← fl, e1, e2]; rfl
        · have q' : (!(A || anyN (fun y => P x (t 4 a) y && !P x (t 5 a) y) y)) = false := by simpa using q
          rw [q'] at fl ⊢
          refine Ok.ifp rfl (Ok.go ⟨nI_1 y, ?_⟩)
          rw [← fl]; rfl
      · rintro v rfl
        show Ok (b_X7_isSo_85 sm (nI a) (nI (t 4 a)) (nI (t 5 a)) (nI x) _ (nI n)) _
        unfold b_X7_isSo_85
        refine Ok.ifp (show sm 0 0 ≤ nI n by rw [hN.1]; exact nI_le (Nat.le_refl _) (by omega)) (Ok.end (Or.inl ⟨_, rfl, nI_1 x, ?_⟩))
        subst hA
        rfl
    · rintro v rfl
      show Ok (b_X7_isSo_20 sm (nI a) (nI (t 4 a)) (nI (t 5 a)) _ (nI n)) _
      unfold b_X7_isSo_20
      refine Ok.ifp (show sm 0 0 ≤ nI n by rw [hN.1]; exact nI_le (Nat.le_refl _) (by omega)) ?_
      have z : ∀ b, zg (b1 b) = some (b1 b) := by decide
      rw [z]
      exact Ok.end rfl
  obtain ⟨r, e, rfl⟩ := key
  exact e
theorem mso2 (hw : Wf t n ax) (hN : MN sm t n ax) (hH : MH sm n T P G) {a : Nat} (ha : a < ax) (h3 : t 3 a = 2) : f_X7_isSo sm (nI a) = some (b1 (!no2 P (t 4 a) (t 5 a) (t 6 a) n)) := by
  have h20 := hw.n20
  have h40 := hw.a40
  obtain ⟨m6, m7, m8, m9, m10⟩ := hN.2.2.2 a ha
  have hwa := hw.ax ha
  have e6 : tv6 t a = nI (t 6 a) := by unfold tv6; rw [if_pos h3]
  have r30 : ∀ x r y, x < n → r < 4 → y < n → rd 3136 (sm 30) ((112 : Int32) * nI x + (28 : Int32) * nI r + nI y) = some (b1 (P x r y)) := by
    intro x r y hx hr hy
    have e : (112 : Int32) * nI x + (28 : Int32) * nI r + nI y = nI (112 * x + 28 * r + y) := by
      show nI 112 * nI x + nI 28 * nI r + nI y = _
      rw [nI_mul, nI_mul, nI_add, nI_add]
    rw [e, rd_nI (by omega) (by omega), hH.2.1 x r y hx hr hy]
  have key : Ok (f_X7_isSo sm (nI a)) (fun r => r = b1 (!no2 P (t 4 a) (t 5 a) (t 6 a) n)) := by
    unfold f_X7_isSo
    refine Ok.bindE (rd_nI (by omega) (by omega)) (Ok.bindE (rd_nI (by omega) (by omega)) ?_)
    rw [m7, m8]
    refine Ok.forR (f := fun v => b_X7_isSo_20 sm (nI a) (nI (t 4 a)) (nI (t 5 a)) v.1 v.2) (i := 0) (s := (1 : Int32)) n (fun i v => v = b1 (!anyN (fun x => anyN (fun y => anyN (fun z => P x (t 4 a) y && P y (t 5 a) z && !P x (t 6 a) z) n) n) i)) ?_ ?_ (Nat.zero_le _) rfl
    · rintro x v hx rfl
      show Ok (b_X7_isSo_20 sm (nI a) (nI (t 4 a)) (nI (t 5 a)) _ (nI x)) _
      unfold b_X7_isSo_20
      refine Ok.ifn (show ¬ sm 0 0 ≤ nI x by rw [hN.1]; exact nI_ge hx (by omega)) (Ok.bindE (rd_nI (by omega) (by omega)) ?_)
      rw [m6, h3]
      refine Ok.ifn (by decide) ?_
      generalize hA : anyN (fun x => anyN (fun y => anyN (fun z => P x (t 4 a) y && P y (t 5 a) z && !P x (t 6 a) z) n) n) x = A
      refine Ok.forR (f := fun v => b_X7_isSo_85 sm (nI a) (nI (t 4 a)) (nI (t 5 a)) (nI x) v.1 v.2) (i := 0) n (fun i v => v = b1 (!(A || anyN (fun y => anyN (fun z => P x (t 4 a) y && P y (t 5 a) z && !P x (t 6 a) z) n) i))) ?_ ?_ (Nat.zero_le _) (by simp [anyN])
      · rintro y v hy rfl
        show Ok (b_X7_isSo_85 sm (nI a) (nI (t 4 a)) (nI (t 5 a)) (nI x) _ (nI y)) _
        unfold b_X7_isSo_85
        refine Ok.ifn (show ¬ sm 0 0 ≤ nI y by rw [hN.1]; exact nI_ge hy (by omega)) (Ok.bindE (rd_nI (by omega) (by omega)) ?_)
        rw [m6, h3]
        refine Ok.ifn (by decide) ?_
        generalize hB : (A || anyN (fun y => anyN (fun z => P x (t 4 a) y && P y (t 5 a) z && !P x (t 6 a) z) n) y) = B
        refine Ok.forR (f := fun v => b_X7_isSo_163 sm (nI a) (nI (t 4 a)) (nI (t 5 a)) (nI x) (nI y) v.1 v.2) (i := 0) n (fun i v => v = b1 (!(B || anyN (fun z => P x (t 4 a) y && P y (t 5 a) z && !P x (t 6 a) z) i))) ?_ ?_ (Nat.zero_le _) (by simp [anyN])
        · rintro z v hz rfl
          show Ok (b_X7_isSo_163 sm (nI a) (nI (t 4 a)) (nI (t 5 a)) (nI x) (nI y) _ (nI z)) _
          unfold b_X7_isSo_163
          refine Ok.ifn (show ¬ sm 0 0 ≤ nI z by rw [hN.1]; exact nI_ge hz (by omega)) ?_
          have fl := fall2 (f := (fun z => P x (t 4 a) y && P y (t 5 a) z && !P x (t 6 a) z)) (i := z) B _ rfl
          rw [r30 x _ y hx (by omega) hy, r30 y _ z hy (by omega) hz, rd_nI (f := sm 9) (by omega) (by omega), m9, e6, Option.bind_some, Option.bind_some, Option.bind_some, r30 x _ z hx (by omega) hz, Option.bind_some]
          by_cases q : (!(B || anyN (fun z => P x (t 4 a) y && P y (t 5 a) z && !P x (t 6 a) z) z)) = true
          · rw [q] at fl ⊢
            refine Ok.ifn one0 ?_
            have tt : ∀ b : Bool, ¬ b1 b = 0 → b = true := fun b hb => by cases b; exact absurd rfl hb; rfl
            refine Ok.ite (fun w1 => Ok.go ⟨nI_1 z, ?_⟩) (fun w1 => Ok.ite (fun w2 => Ok.go ⟨nI_1 z, ?_⟩) (fun w2 => Ok.ite (fun w3 => Ok.go ⟨nI_1 z, ?_⟩) (fun w3 => Ok.go ⟨nI_1 z, ?_⟩)))
            · refine Eq.trans ?_ fl
              rw [(b1_0 _).mp w1]; rfl
            · refine Eq.trans ?_ fl
              rw [tt _ w1, (b1_0 _).mp w2]; rfl
            · refine Eq.trans ?_ fl
              rw [tt _ w1, tt _ w2, (b1_0 _).mp w3]; rfl
            · refine Eq.trans ?_ fl
              rw [tt _ w1, tt _ w2, tt _ w3]; rfl
          · have q' : (!(B || anyN (fun z => P x (t 4 a) y && P y (t 5 a) z && !P x (t 6 a) z) z)) = false := by simpa using q
            rw [q'] at fl ⊢
            refine Ok.ifp rfl (Ok.go ⟨nI_1 z, ?_⟩)
            rw [← fl]; rfl
        · rintro v rfl
          show Ok (b_X7_isSo_163 sm (nI a) (nI (t 4 a)) (nI (t 5 a)) (nI x) (nI y) _ (nI n)) _
          unfold b_X7_isSo_163
          refine Ok.ifp (show sm 0 0 ≤ nI n by rw [hN.1]; exact nI_le (Nat.le_refl _) (by omega)) (Ok.end (Or.inl ⟨_, rfl, nI_1 y, ?_⟩))
          subst hB
          show b1 (!((A || anyN (fun y => anyN (fun z => P x (t 4 a) y && P y (t 5 a) z && !P x (t 6 a) z) n) y) || anyN (fun z => P x (t 4 a) y && P y (t 5 a) z && !P x (t 6 a) z) n)) = b1 (!(A || (anyN (fun y => anyN (fun z => P x (t 4 a) y && P y (t 5 a) z && !P x (t 6 a) z) n) y || anyN (fun z => P x (t 4 a) y && P y (t 5 a) z && !P x (t 6 a) z) n)))
          rw [Bool.or_assoc]
      · rintro v rfl
        show Ok (b_X7_isSo_85 sm (nI a) (nI (t 4 a)) (nI (t 5 a)) (nI x) _ (nI n)) _
        unfold b_X7_isSo_85
        refine Ok.ifp (show sm 0 0 ≤ nI n by rw [hN.1]; exact nI_le (Nat.le_refl _) (by omega)) (Ok.end (Or.inl ⟨_, rfl, nI_1 x, ?_⟩))
        subst hA
        rfl
    · rintro v rfl
      show Ok (b_X7_isSo_20 sm (nI a) (nI (t 4 a)) (nI (t 5 a)) _ (nI n)) _
      unfold b_X7_isSo_20
      refine Ok.ifp (show sm 0 0 ≤ nI n by rw [hN.1]; exact nI_le (Nat.le_refl _) (by omega)) ?_
      have z : ∀ b, zg (b1 b) = some (b1 b) := by decide
      rw [z]
      exact Ok.end rfl
  obtain ⟨r, e, rfl⟩ := key
  exact e
end HOLDS
