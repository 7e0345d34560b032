/-! the members, the model's -/
section MHOUSE2
variable {m z : MS} {t : Th} {n ax K : Nat} {pl num : Nat → Nat} {U : Nat → Nat → Bool}
def MGo (z : MS) (n : Nat) (G : Nat → Nat → Bool) (i x : Nat) : Prop := ∀ x2 j, x2 < n → j < n → (j < i ∨ (j = i ∧ x2 < x)) → z 31 (28 * x2 + j) = b1 (G j x2)
theorem MGo.set {z : MS} {G : Nat → Nat → Bool} {i x : Nat} {v : Int32} (hn : n ≤ 20) (hi : i < n) (hx : x < n) (h : MGo z n G i x) (hv : v = b1 (G i x)) : MGo (mA z 31 (upd (z 31) (28 * x + i) v)) n G i (x + 1) := by
  intro x2 j hx2 hj hlt
  show upd (z 31) (28 * x + i) v (28 * x2 + j) = _
  by_cases e : 28 * x2 + j = 28 * x + i
  · have : x2 = x ∧ j = i := by omega
    obtain ⟨rfl, rfl⟩ := this
    rw [pk_us, hv]
  · rw [pk_un e]
    exact h x2 j hx2 hj (by omega)
theorem MGo.up {z : MS} {G : Nat → Nat → Bool} {i x i' x' : Nat} (h : MGo z n G i x) (e : ∀ x2 j, x2 < n → j < n → (j < i' ∨ (j = i' ∧ x2 < x')) → (j < i ∨ (j = i ∧ x2 < x))) : MGo z n G i' x' := fun x2 j hx2 hj hlt => h x2 j hx2 hj (e x2 j hx2 hj hlt)
theorem hG_lt {i j : Nat} (h : j < i) : ∀ k, hG num U t n (i + k) j = hG num U t n i j := by
  intro k
  induction k with
  | zero => rfl
  | succ k ih =>
    rw [← ih]
    funext x
    show (if j = i + k then _ else hG num U t n (i + k) j x) = _
    rw [if_neg (by omega)]
theorem hG_at {i : Nat} (hi : i < n) (x : Nat) : hG num U t n n i x = hS num U t n (hG num U t n i) i x := by
  have h := hG_lt (num := num) (U := U) (t := t) (n := n) (i := i + 1) (j := i) (by omega) (n - (i + 1))
  rw [show i + 1 + (n - (i + 1)) = n by omega] at h
  rw [h]
  show (if i = i then _ else _) = _
  rw [if_pos rfl]
theorem hG_old {i j : Nat} (hi : i < n) (hj : j < i) : hG num U t n i j = hG num U t n n j := by
  have h := hG_lt (num := num) (U := U) (t := t) (n := n) hj (n - i)
  rw [show i + (n - i) = n by omega] at h
  exact h.symm
theorem hS_T {G : Nat → Nat → Bool} {i x : Nat} (h : hS num U t n G i x = true) : hT num x = true := by
  unfold hS at h
  split at h
  · exact h
  · split at h
    · exact (Bool.and_eq_true_iff.mp h).2
    · split at h
      · exact (Bool.and_eq_true_iff.mp h).2
      · split at h
        · exact (Bool.and_eq_true_iff.mp h).2
        · exact absurd h (by decide)
theorem house3_ok (hw : Wf t n ax) (hB : BC m t n ax K pl num U) (hPN : PN n K pl num) {z : MS} (hf : Fr28 m z) (h29 : ∀ x, x < n → z 29 x = b1 (hT num x)) (h30 : ∀ x r y, x < n → r < 4 → y < n → z 30 (112 * x + 28 * r + y) = b1 (hP num U x r y)) :
    Ok (loopC (fun v => b_X7_makeHouse_206 v.1 v.2) ((0 : Int32), z)) (fun z => Fr28 m z ∧ MH z n (hT num) (hP num U) (hG num U t n n)) := by
  have h20 := hw.n20
  have h2 := hw.n2
  have hK := hPN.1
  generalize hI : (fun (z : MS) => Fr28 m z ∧ (∀ x, x < n → z 29 x = b1 (hT num x)) ∧ ∀ x r y, x < n → r < 4 → y < n → z 30 (112 * x + 28 * r + y) = b1 (hP num U x r y)) = I
  have hz : I z := by rw [← hI]; exact ⟨hf, h29, h30⟩
  refine Ok.for (f := fun v => b_X7_makeHouse_206 v.1 v.2) (i := 0) n (fun i z => I z ∧ MGo z n (hG num U t n n) i 0) ?_ ?_ (Nat.zero_le _) ⟨hz, fun x j hx hj h => by omega⟩
  · rintro i z hi ⟨hc, hm⟩
    have hc' := hc
    rw [← hI] at hc'
    have hBz := hB.fr28 hc'.1
    show Ok (b_X7_makeHouse_206 (nI i) z) _
    unfold b_X7_makeHouse_206
    refine Ok.ifn (show ¬ z 0 0 ≤ nI i by rw [hBz.1.1]; exact nI_ge hi (by omega)) ?_
    refine Ok.for (f := fun v => b_X7_makeHouse_216 (nI i) v.1 v.2) (i := 0) n (fun x z => I z ∧ MGo z n (hG num U t n n) i x) ?_ ?_ (Nat.zero_le _) ⟨hc, hm⟩
    · rintro x z hx ⟨hc, hm⟩
      have hc' := hc
      rw [← hI] at hc'
      obtain ⟨hf, h29, h30⟩ := hc'
      have hBz := hB.fr28 hf
      have h5 := hw.s5 hi
      have ei : ∀ a b, (28 : Int32) * nI a + nI b = nI (28 * a + b) := by
        intro a b
        show nI 28 * nI a + nI b = _
        rw [nI_mul, nI_add]
      have cI : ∀ v, I (mA z 31 v) := by
        intro v
        rw [← hI]
        exact ⟨hf.set (by omega) _, h29, h30⟩
      have rT : rd 28 (z 29) (nI x) = some (b1 (hT num x)) := by rw [rd_nI (by omega) (by omega), h29 x hx]
      have eG : hG num U t n n i x = hS num U t n (hG num U t n i) i x := hG_at hi x
      have rG : ∀ a j, a < n → j < i → rd 784 (z 31) ((28 : Int32) * nI a + nI j) = some (b1 (hG num U t n i j a)) := by
        intro a j ha hj
        rw [ei, rd_nI (by omega) (by omega), hm a j ha (by omega) (Or.inl hj), hG_old hi hj]
      have q0 : nI (t 0 i) = (0 : Int32) ↔ t 0 i = 0 := nI_eq (b := 0) (by omega) (by omega)
      have q2 : nI (t 0 i) = (2 : Int32) ↔ t 0 i = 2 := nI_eq (b := 2) (by omega) (by omega)
      have q3 : nI (t 0 i) = (3 : Int32) ↔ t 0 i = 3 := nI_eq (b := 3) (by omega) (by omega)
      have q4 : nI (t 0 i) = (4 : Int32) ↔ t 0 i = 4 := nI_eq (b := 4) (by omega) (by omega)
      have fin : ∀ v : Int32, v = b1 (hG num U t n n i x) → Ok (Option.bind (mwr z 31 784 ((28 : Int32) * nI x + nI i) v) (fun r => some (Sum.inl ((nI x + 1), r)))) (NxS (S := Int32 × MS) (R := (Int32 × MS) ⊕ MS) (fun v => v.1 = nI (x + 1) ∧ I v.2 ∧ MGo v.2 n (hG num U t n n) i (x + 1)) (NxS (fun v => v.1 = nI (i + 1) ∧ I v.2 ∧ MGo v.2 n (hG num U t n n) (i + 1) 0) (fun z => Fr28 m z ∧ MH z n (hT num) (hP num U) (hG num U t n n)))) := by
        intro v hv
        rw [ei]
        exact Ok.bindE (mwr_nI (by omega) (by omega)) (Ok.go ⟨nI_1 x, cI _, hm.set h20 hi hx hv⟩)
      show Ok (b_X7_makeHouse_216 (nI i) (nI x) z) _
      unfold b_X7_makeHouse_216
      refine Ok.ifn (show ¬ z 0 0 ≤ nI x by rw [hBz.1.1]; exact nI_ge hx (by omega)) (Ok.bindE (rdS hw hBz hi) ?_)
      by_cases s0 : t 0 i = 0
      · refine Ok.ifp (q0.mpr s0) (Ok.bindE rT ?_)
        by_cases w : hT num x = false
        · exact Ok.ifp ((b1_0 _).mpr w) (fin 0 (by rw [eG]; simp [hS, s0, w, b1]))
        · have w' : hT num x = true := by simpa using w
          exact Ok.ifn (fun y => w ((b1_0 _).mp y)) (fin 1 (by rw [eG]; simp [hS, s0, w', b1]))
      refine Ok.ifn (fun w => s0 (q0.mp w)) (Ok.bindE (rdS hw hBz hi) ?_)
      by_cases s2 : t 0 i = 2
      · refine Ok.ifp (q2.mpr s2) (Ok.bindE (rdIs hw hBz hx hi) ?_)
        have hl := (hPN.2.2 (100 * x + i) (by omega)).1
        by_cases qn : num (100 * x + i) = 0
        · exact Ok.ifp ((nO_m1 (by omega)).mpr qn) (fin 0 (by rw [eG]; simp [hS, s2, qn, b1]))
        · refine Ok.ifn (fun w => qn ((nO_m1 (by omega)).mp w)) (Ok.bindE rT ?_)
          by_cases w : hT num x = false
          · exact Ok.ifp ((b1_0 _).mpr w) (fin 0 (by rw [eG]; simp [hS, s2, w, b1]))
          · have w' : hT num x = true := by simpa using w
            exact Ok.ifn (fun y => w ((b1_0 _).mp y)) (fin 1 (by rw [eG]; simp [hS, s2, w', qn, b1]))
      refine Ok.ifn (fun w => s2 (q2.mp w)) (Ok.bindE (rdS hw hBz hi) ?_)
      by_cases s3 : t 0 i = 3
      · have hmm := hw.meet hi s3
        refine Ok.ifp (q3.mpr s3) (Ok.bindE (rdP1 hw hBz hi) ?_)
        rw [tv1_3 (by omega)]
        refine Ok.bindE (rG x _ hx hmm.1) ?_
        by_cases g1 : hG num U t n i (t 1 i) x = false
        · exact Ok.ifp ((b1_0 _).mpr g1) (fin 0 (by rw [eG]; simp [hS, s3, g1, b1]))
        · have g1' : hG num U t n i (t 1 i) x = true := by simpa using g1
          refine Ok.ifn (fun y => g1 ((b1_0 _).mp y)) (Ok.bindE (rdP2 hw hBz hi) ?_)
          rw [tv2_3 (by omega)]
          refine Ok.bindE (rG x _ hx hmm.2) ?_
          by_cases g2 : hG num U t n i (t 2 i) x = false
          · exact Ok.ifp ((b1_0 _).mpr g2) (fin 0 (by rw [eG]; simp [hS, s3, g2, b1]))
          · have g2' : hG num U t n i (t 2 i) x = true := by simpa using g2
            refine Ok.ifn (fun y => g2 ((b1_0 _).mp y)) (Ok.bindE rT ?_)
            by_cases w : hT num x = false
            · exact Ok.ifp ((b1_0 _).mpr w) (fin 0 (by rw [eG]; simp [hS, s3, w, b1]))
            · have w' : hT num x = true := by simpa using w
              exact Ok.ifn (fun y => w ((b1_0 _).mp y)) (fin 1 (by rw [eG]; simp [hS, s3, w', g1', g2', b1]))
      refine Ok.ifn (fun w => s3 (q3.mp w)) (Ok.bindE (rdS hw hBz hi) ?_)
      by_cases s4 : t 0 i = 4
      · have hmm := hw.has hi s4
        refine Ok.ifp (q4.mpr s4) ?_
        generalize hfy : (fun y => hP num U x (t 1 i) y && hG num U t n i (t 2 i) y) = fy
        refine Ok.forR (f := fun v => b_X7_makeHouse_344 z (nI i) (nI x) v.1 v.2) (i := 0) (s := b1 false) n (fun y v => v = b1 (anyN fy y)) ?_ ?_ (Nat.zero_le _) rfl
        · rintro y v hy rfl
          show Ok (b_X7_makeHouse_344 z (nI i) (nI x) (b1 (anyN fy y)) (nI y)) _
          unfold b_X7_makeHouse_344
          have nx : anyN fy (y + 1) = (anyN fy y || fy y) := rfl
          have fyy : fy y = (hP num U x (t 1 i) y && hG num U t n i (t 2 i) y) := by rw [← hfy]
          refine Ok.ifn (show ¬ z 0 0 ≤ nI y by rw [hBz.1.1]; exact nI_ge hy (by omega)) ?_
          by_cases a0 : anyN fy y = false
          · refine Ok.ifp ((b1_0 _).mpr a0) (Ok.bindE (rdP1 hw hBz hi) ?_)
            rw [tv1_3 (by omega)]
            have e30 : (112 : Int32) * nI x + (28 : Int32) * nI (t 1 i) + nI y = nI (112 * x + 28 * t 1 i + y) := by
              show nI 112 * nI x + nI 28 * nI (t 1 i) + nI y = _
              rw [nI_mul, nI_mul, nI_add, nI_add]
            rw [e30]
            refine Ok.bindE (rd_nI (by omega) (by omega)) ?_
            rw [h30 x (t 1 i) y hx hmm.1 hy]
            by_cases p0 : hP num U x (t 1 i) y = false
            · refine Ok.ifp ((b1_0 _).mpr p0) (Ok.go ⟨nI_1 y, ?_⟩)
              rw [nx, a0, fyy, p0]; rfl
            · have p0' : hP num U x (t 1 i) y = true := by simpa using p0
              refine Ok.ifn (fun w => p0 ((b1_0 _).mp w)) (Ok.bindE (rdP2 hw hBz hi) ?_)
              rw [tv2_3 (by omega)]
              refine Ok.bindE (rG y _ hy hmm.2) ?_
              by_cases g0 : hG num U t n i (t 2 i) y = false
              · refine Ok.ifp ((b1_0 _).mpr g0) (Ok.go ⟨nI_1 y, ?_⟩)
                rw [nx, a0, fyy, g0, p0']; rfl
              · have g0' : hG num U t n i (t 2 i) y = true := by simpa using g0
                refine Ok.ifn (fun w => g0 ((b1_0 _).mp w)) (Ok.go ⟨nI_1 y, ?_⟩)
                rw [nx, a0, fyy, g0', p0']; rfl
          · have a0' : anyN fy y = true := by simpa using a0
            refine Ok.ifn (fun w => a0 ((b1_0 _).mp w)) (Ok.go ⟨nI_1 y, ?_⟩)
            rw [nx, a0']; rfl
        · rintro v rfl
          show Ok (b_X7_makeHouse_344 z (nI i) (nI x) (b1 (anyN fy n)) (nI n)) _
          unfold b_X7_makeHouse_344
          refine Ok.ifp (show z 0 0 ≤ nI n by rw [hBz.1.1]; exact nI_le (Nat.le_refl _) (by omega)) ?_
          have fin2 : ∀ v : Int32, v = b1 (hG num U t n n i x) → Ok (Option.bind (mwr z 31 784 ((28 : Int32) * nI x + nI i) v) (fun r17 => some (Sum.inr (Sum.inl ((nI x + 1), r17))))) (NxS (S := Int32 × Int32) (R := (Int32 × MS) ⊕ ((Int32 × MS) ⊕ MS)) (fun _ => False) (NxS (fun v => v.1 = nI (x + 1) ∧ I v.2 ∧ MGo v.2 n (hG num U t n n) i (x + 1)) (NxS (fun v => v.1 = nI (i + 1) ∧ I v.2 ∧ MGo v.2 n (hG num U t n n) (i + 1) 0) (fun z => Fr28 m z ∧ MH z n (hT num) (hP num U) (hG num U t n n))))) := by
            intro v hv
            rw [ei]
            exact Ok.bindE (mwr_nI (by omega) (by omega)) (Ok.end (Or.inl ⟨_, rfl, nI_1 x, cI _, hm.set h20 hi hx hv⟩))
          have eS : hS num U t n (hG num U t n i) i x = (anyN fy n && hT num x) := by
            unfold hS
            rw [if_neg s0, if_neg s2, if_neg s3, if_pos s4, hfy]
          by_cases a0 : anyN fy n = false
          · exact Ok.ifp ((b1_0 _).mpr a0) (fin2 0 (by rw [eG, eS, a0]; rfl))
          · have a0' : anyN fy n = true := by simpa using a0
            refine Ok.ifn (fun w => a0 ((b1_0 _).mp w)) (Ok.bindE rT ?_)
            by_cases w : hT num x = false
            · exact Ok.ifp ((b1_0 _).mpr w) (fin2 0 (by rw [eG, eS, w, a0']; rfl))
            · have w' : hT num x = true := by simpa using w
              exact Ok.ifn (fun y => w ((b1_0 _).mp y)) (fin2 1 (by rw [eG, eS, w', a0']; rfl))
      · refine Ok.ifn (fun w => s4 (q4.mp w)) (fin 0 ?_)
        rw [eG]
        simp [hS, s0, s2, s3, s4, b1]
    · rintro z ⟨hc, hm⟩
      have hc' := hc
      rw [← hI] at hc'
      have hBz := hB.fr28 hc'.1
      show Ok (b_X7_makeHouse_216 (nI i) (nI n) z) _
      unfold b_X7_makeHouse_216
      refine Ok.ifp (show z 0 0 ≤ nI n by rw [hBz.1.1]; exact nI_le (Nat.le_refl _) (by omega)) (Ok.end (Or.inl ⟨_, rfl, nI_1 i, hc, hm.up (fun x2 j hx2 hj h => by omega)⟩))
  · rintro z ⟨hc, hm⟩
    rw [← hI] at hc
    have hBz := hB.fr28 hc.1
    show Ok (b_X7_makeHouse_206 (nI n) z) _
    unfold b_X7_makeHouse_206
    exact Ok.ifp (show z 0 0 ≤ nI n by rw [hBz.1.1]; exact nI_le (Nat.le_refl _) (by omega)) (Ok.end ⟨hc.1, hc.2.1, hc.2.2, fun x j hx hj => hm x j hx hj (by omega)⟩)
theorem mhouse_ok (hw : Wf t n ax) (hB : BC m t n ax K pl num U) (hPN : PN n K pl num) (hE : ∀ x, x < n → (Beg t pl K x ↔ num (101 * x) ≠ 0)) : Ok (f_X7_makeHouse m) (fun z => Fr28 m z ∧ MH z n (hT num) (hP num U) (hG num U t n n)) :=
  house1_ok hw hB hPN hE (fun _ hf h29 => house2_ok hw hB hPN hf h29 (fun _ hf2 h29' h30 => house3_ok hw hB hPN hf2 h29' h30))
end MHOUSE2
