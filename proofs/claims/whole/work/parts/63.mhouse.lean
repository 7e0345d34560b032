/-! the house: things, pairs, members; the model's -/
def anyN (f : Nat → Bool) : Nat → Bool
  | 0 => false
  | n + 1 => anyN f n || f n
theorem anyN_t {f : Nat → Bool} : ∀ {n : Nat}, anyN f n = true ↔ ∃ i, i < n ∧ f i = true
  | 0 => ⟨fun h => absurd h (by simp [anyN]), fun ⟨i, hi, _⟩ => absurd hi (Nat.not_lt_zero i)⟩
  | n + 1 => by
    show (anyN f n || f n) = true ↔ _
    rw [Bool.or_eq_true, anyN_t]
    constructor
    · rintro (⟨i, hi, h⟩ | h)
      · exact ⟨i, by omega, h⟩
      · exact ⟨n, by omega, h⟩
    · rintro ⟨i, hi, h⟩
      by_cases e : i = n
      · subst e; exact Or.inr h
      · exact Or.inl ⟨i, by omega, h⟩
def hT (num : Nat → Nat) (x : Nat) : Bool := decide (num (101 * x) ≠ 0) && decide (num (100 * x + 1) = 0)
def hQ (num : Nat → Nat) (U : Nat → Nat → Bool) (x r y : Nat) (q : Nat) : Bool := U q r && decide (num (100 * x + 20 * (q + 1) + y) ≠ 0)
def hP (num : Nat → Nat) (U : Nat → Nat → Bool) (x r y : Nat) : Bool := anyN (hQ num U x r y) 4 && hT num x && hT num y
def hS (num : Nat → Nat) (U : Nat → Nat → Bool) (t : Th) (n : Nat) (G : Nat → Nat → Bool) (i x : Nat) : Bool :=
  if t 0 i = 0 then hT num x else if t 0 i = 2 then decide (num (100 * x + i) ≠ 0) && hT num x else if t 0 i = 3 then G (t 1 i) x && G (t 2 i) x && hT num x else if t 0 i = 4 then anyN (fun y => hP num U x (t 1 i) y && G (t 2 i) y) n && hT num x else false
def hG (num : Nat → Nat) (U : Nat → Nat → Bool) (t : Th) (n : Nat) : Nat → Nat → Nat → Bool
  | 0 => fun _ _ => false
  | i + 1 => fun j x => if j = i then hS num U t n (hG num U t n i) i x else hG num U t n i j x
def b1 (b : Bool) : Int32 := if b = true then 1 else 0
theorem b1_0 (b : Bool) : b1 b = 0 ↔ b = false := by cases b <;> decide
def MH (m : MS) (n : Nat) (T : Nat → Bool) (P : Nat → Nat → Nat → Bool) (G : Nat → Nat → Bool) : Prop := (∀ x, x < n → m 29 x = b1 (T x)) ∧ (∀ x r y, x < n → r < 4 → y < n → m 30 (112 * x + 28 * r + y) = b1 (P x r y)) ∧ ∀ x j, x < n → j < n → m 31 (28 * x + j) = b1 (G j x)
def Fr28 (m z : MS) : Prop := ∀ k, k < 29 ∨ 31 < k → z k = m k
theorem Fr28.set {m z : MS} (h : Fr28 m z) {j : Nat} (hj : ¬ (j < 29 ∨ 31 < j)) (f : Nat → Int32) : Fr28 m (mA z j f) := fun k hk => by
  unfold mA
  rw [if_neg (show ¬ k = j by omega)]
  exact h k hk
theorem BC.fr28 {m z : MS} {t : Th} {n ax K : Nat} {pl num : Nat → Nat} {U : Nat → Nat → Bool} (h : BC m t n ax K pl num U) (f : Fr28 m z) : BC z t n ax K pl num U := by
  obtain ⟨⟨a1, a2, a3, a4⟩, b, c, ⟨d1, d2⟩, e⟩ := h
  refine ⟨⟨?_, ?_, fun i hi => ?_, fun a ha => ?_⟩, ?_, fun k hk => ?_, ⟨fun x d hx hd => ?_, fun x r y hx hr hy => ?_⟩, fun r s hr hs => ?_⟩
  · rw [f 0 (by omega)]; exact a1
  · rw [f 5 (by omega)]; exact a2
  · rw [f 2 (by omega), f 3 (by omega), f 4 (by omega)]; exact a3 i hi
  · rw [f 6 (by omega), f 7 (by omega), f 8 (by omega), f 9 (by omega), f 10 (by omega)]; exact a4 a ha
  · rw [f 13 (by omega)]; exact b
  · rw [f 15 (by omega)]; exact c k hk
  · rw [f 16 (by omega)]; exact d1 x d hx hd
  · rw [f 17 (by omega)]; exact d2 x r y hx hr hy
  · rw [f 26 (by omega)]; exact e r s hr hs
section MHOUSE
variable {m z : MS} {t : Th} {n ax K : Nat} {pl num : Nat → Nat} {U : Nat → Nat → Bool}
theorem begun_ok (hw : Wf t n ax) (hB : BC z t n ax K pl num U) (hP : PN n K pl num) (hE : ∀ x, x < n → (Beg t pl K x ↔ num (101 * x) ≠ 0)) {x : Nat} (hx : x < n) : f_X7_isBegun z (nI x) = some (b1 (decide (num (101 * x) ≠ 0))) := by
  classical
  have h20 := hw.n20
  unfold f_X7_isBegun
  rw [seed_ok hw hB hx]
  simp only [Option.bind_some]
  by_cases q : sd t x
  · have : num (101 * x) ≠ 0 := (hE x hx).mp (Or.inl q)
    rw [if_pos q, if_neg (by decide)]
    simp [b1, this]
  · rw [if_neg q, if_pos rfl]
    obtain ⟨v, e, w, hw2, rfl, hl⟩ := leastTo_ok hw hB hP hx
    rw [e]
    simp only [Option.bind_some]
    have h1 := nO_m1 (m := w) (by omega)
    rcases hl with ⟨rfl, hl⟩ | ⟨k, hk, rfl, hl, -⟩
    · have : ¬ num (101 * x) ≠ 0 := fun w => by
        rcases (hE x hx).mpr w with h | ⟨k, hk, h⟩
        · exact q h
        · exact hl k hk h
      rw [if_pos nO_0]
      simp [b1, this]
    · have : num (101 * x) ≠ 0 := (hE x hx).mp (Or.inr ⟨k, hk, hl⟩)
      rw [if_neg (nO_ne (by omega))]
      simp [b1, this]
theorem mset29 {i n : Nat} {T : Nat → Bool} {v : Int32} {z : MS} (h : ∀ x, x < i → z 29 x = b1 (T x)) (hv : v = b1 (T i)) : ∀ x, x < i + 1 → (mA z 29 (upd (z 29) i v)) 29 x = b1 (T x) := by
  intro x hx
  show upd (z 29) i v x = _
  by_cases e : x = i
  · subst e; rw [pk_us, hv]
  · rw [pk_un e]; exact h x (by omega)
theorem house1_ok (hw : Wf t n ax) (hB : BC m t n ax K pl num U) (hP : PN n K pl num) (hE : ∀ x, x < n → (Beg t pl K x ↔ num (101 * x) ≠ 0)) {Q : MS → Prop}
    (hk : ∀ z, Fr28 m z → (∀ x, x < n → z 29 x = b1 (hT num x)) → Ok (loopC (fun v => b_X7_makeHouse_52 v.1 v.2) ((0 : Int32), z)) Q) : Ok (f_X7_makeHouse m) Q := by
  have h20 := hw.n20
  have h2 := hw.n2
  unfold f_X7_makeHouse
  refine Ok.for (f := fun v => b_X7_makeHouse_2 v.1 v.2) (i := 0) n (fun i z => Fr28 m z ∧ ∀ x, x < i → z 29 x = b1 (hT num x)) ?_ ?_ (Nat.zero_le _) ⟨fun _ _ => rfl, fun x hx => absurd hx (Nat.not_lt_zero x)⟩
  · rintro i z hi ⟨hf, h⟩
    have hBz := hB.fr28 hf
    show Ok (b_X7_makeHouse_2 (nI i) z) _
    unfold b_X7_makeHouse_2
    refine Ok.ifn (show ¬ z 0 0 ≤ nI i by rw [hBz.1.1]; exact nI_ge hi (by omega)) (Ok.bindE (begun_ok hw hBz hP hE hi) ?_)
    have fin : ∀ v : Int32, v = b1 (hT num i) → Ok (Option.bind (mwr z 29 28 (nI i) v) (fun r77 => some (Sum.inl ((nI i + 1), r77)))) (NxS (S := Int32 × MS) (R := MS) (fun v => v.1 = nI (i + 1) ∧ Fr28 m v.2 ∧ ∀ x, x < i + 1 → v.2 29 x = b1 (hT num x)) Q) := fun v hv => Ok.bindE (mwr_nI (by omega) (by omega)) (Ok.go ⟨nI_1 i, hf.set (by omega) _, mset29 (n := n) h hv⟩)
    by_cases q : num (101 * i) = 0
    · refine Ok.ifp ((b1_0 _).mpr (by simp [q])) (fin 0 (by simp [hT, q, b1]))
    · refine Ok.ifn (fun w => by have := (b1_0 _).mp w; simp [q] at this) (Ok.bindE (rdIs1 hw hBz hi) ?_)
      have hl := (hP.2.2 (100 * i + 1) (by omega)).1
      have hK := hP.1
      by_cases q1 : num (100 * i + 1) = 0
      · exact Ok.ifp ((nO_m1 (by omega)).mpr q1) (fin 1 (by simp [hT, q, q1, b1]))
      · exact Ok.ifn (fun w => q1 ((nO_m1 (by omega)).mp w)) (fin 0 (by simp [hT, q1, b1]))
  · rintro z ⟨hf, h⟩
    have hBz := hB.fr28 hf
    show Ok (b_X7_makeHouse_2 (nI n) z) _
    unfold b_X7_makeHouse_2
    exact Ok.ifp (show z 0 0 ≤ nI n by rw [hBz.1.1]; exact nI_le (Nat.le_refl _) (by omega)) (Ok.inr (hk z hf h))
def MP (z : MS) (n : Nat) (P : Nat → Nat → Nat → Bool) (p : Nat) : Prop := ∀ x r y, x < n → r < 4 → y < n → 112 * x + 28 * r + y < p → z 30 (112 * x + 28 * r + y) = b1 (P x r y)
theorem MP.set {z : MS} {P : Nat → Nat → Nat → Bool} {x r y : Nat} {v : Int32} (hn : n ≤ 20) (hx : x < n) (hr : r < 4) (hy : y < n) (h : MP z n P (112 * x + 28 * r + y)) (hv : v = b1 (P x r y)) : MP (mA z 30 (upd (z 30) (112 * x + 28 * r + y) v)) n P (112 * x + 28 * r + (y + 1)) := by
  intro x2 r2 y2 hx2 hr2 hy2 hlt
  show upd (z 30) (112 * x + 28 * r + y) v (112 * x2 + 28 * r2 + y2) = _
  by_cases e : 112 * x2 + 28 * r2 + y2 = 112 * x + 28 * r + y
  · have : x2 = x ∧ r2 = r ∧ y2 = y := by omega
    obtain ⟨rfl, rfl, rfl⟩ := this
    rw [pk_us, hv]
  · rw [pk_un e]
    exact h x2 r2 y2 hx2 hr2 hy2 (by omega)
theorem MP.up {z : MS} {P : Nat → Nat → Nat → Bool} {p p' : Nat} (h : MP z n P p) (hp : ∀ x r y, x < n → r < 4 → y < n → 112 * x + 28 * r + y < p' → 112 * x + 28 * r + y < p) : MP z n P p' := fun x r y hx hr hy hlt => h x r y hx hr hy (hp x r y hx hr hy hlt)
theorem house2_ok (hw : Wf t n ax) (hB : BC m t n ax K pl num U) (hPN : PN n K pl num) {z : MS} (hf : Fr28 m z) (h29 : ∀ x, x < n → z 29 x = b1 (hT num x)) {Q : MS → Prop}
    (hk : ∀ z, Fr28 m z → (∀ x, x < n → z 29 x = b1 (hT num x)) → (∀ x r y, x < n → r < 4 → y < n → z 30 (112 * x + 28 * r + y) = b1 (hP num U x r y)) → Ok (loopC (fun v => b_X7_makeHouse_206 v.1 v.2) ((0 : Int32), z)) Q) :
    Ok (loopC (fun v => b_X7_makeHouse_52 v.1 v.2) ((0 : Int32), z)) Q := by
  have h20 := hw.n20
  have h2 := hw.n2
  have hK := hPN.1
  refine Ok.for (f := fun v => b_X7_makeHouse_52 v.1 v.2) (i := 0) n (fun x z => (Fr28 m z ∧ ∀ x, x < n → z 29 x = b1 (hT num x)) ∧ MP z n (hP num U) (112 * x)) ?_ ?_ (Nat.zero_le _) ⟨⟨hf, h29⟩, fun x r y _ _ _ h => by omega⟩
  · rintro x z hx ⟨hc, hm⟩
    have hBz := hB.fr28 hc.1
    show Ok (b_X7_makeHouse_52 (nI x) z) _
    unfold b_X7_makeHouse_52
    refine Ok.ifn (show ¬ z 0 0 ≤ nI x by rw [hBz.1.1]; exact nI_ge hx (by omega)) ?_
    refine Ok.for (f := fun v => b_X7_makeHouse_62 (nI x) v.1 v.2) (i := 0) 4 (fun r z => (Fr28 m z ∧ ∀ x, x < n → z 29 x = b1 (hT num x)) ∧ MP z n (hP num U) (112 * x + 28 * r)) ?_ ?_ (Nat.zero_le _) ⟨hc, hm⟩
    · rintro r z hr ⟨hc, hm⟩
      show Ok (b_X7_makeHouse_62 (nI x) (nI r) z) _
      unfold b_X7_makeHouse_62
      refine Ok.ifn (show ¬ (4 : Int32) ≤ nI r from nI_ge (b := 4) hr (by omega)) ?_
      refine Ok.for (f := fun v => b_X7_makeHouse_69 (nI x) (nI r) v.1 v.2) (i := 0) n (fun y z => (Fr28 m z ∧ ∀ x, x < n → z 29 x = b1 (hT num x)) ∧ MP z n (hP num U) (112 * x + 28 * r + y)) ?_ ?_ (Nat.zero_le _) ⟨hc, hm⟩
      · rintro y z hy ⟨hc, hm⟩
        have hBz := hB.fr28 hc.1
        show Ok (b_X7_makeHouse_69 (nI x) (nI r) (nI y) z) _
        unfold b_X7_makeHouse_69
        refine Ok.ifn (show ¬ z 0 0 ≤ nI y by rw [hBz.1.1]; exact nI_ge hy (by omega)) ?_
        have ei : ∀ q, (112 : Int32) * nI x + (28 : Int32) * nI q + nI y = nI (112 * x + 28 * q + y) := by
          intro q
          show nI 112 * nI x + nI 28 * nI q + nI y = _
          rw [nI_mul, nI_mul, nI_add, nI_add]
        refine Ok.forR (f := fun v => b_X7_makeHouse_83 z (nI x) (nI r) (nI y) v.1 v.2) (i := 0) (s := b1 false) 4 (fun q v => v = b1 (anyN (hQ num U x r y) q)) ?_ ?_ (Nat.zero_le _) rfl
        · rintro q v hq rfl
          show Ok (b_X7_makeHouse_83 z (nI x) (nI r) (nI y) (b1 (anyN (hQ num U x r y) q)) (nI q)) _
          unfold b_X7_makeHouse_83
          refine Ok.ifn (show ¬ (4 : Int32) ≤ nI q from nI_ge (b := 4) hq (by omega)) ?_
          have hl := (hPN.2.2 (100 * x + 20 * (q + 1) + y) (by omega)).1
          have nx : anyN (hQ num U x r y) (q + 1) = (anyN (hQ num U x r y) q || hQ num U x r y q) := rfl
          by_cases q0 : anyN (hQ num U x r y) q = true
          · refine Ok.ifn (fun w => by rw [(b1_0 _).mp w] at q0; exact absurd q0 (by decide)) (Ok.go ⟨nI_1 q, ?_⟩)
            rw [nx, q0]; rfl
          · have q0' : anyN (hQ num U x r y) q = false := by simpa using q0
            refine Ok.ifp ((b1_0 _).mpr q0') (Ok.bindE (rdU hBz hq hr) ?_)
            by_cases qu : U q r = true
            · rw [if_pos qu]
              refine Ok.ifn (by decide) ?_
              rw [ei q]
              refine Ok.bindE (rd_nI (by omega) (by omega)) ?_
              rw [hBz.2.2.2.1.2 x q y hx hq hy]
              by_cases qn : num (100 * x + 20 * (q + 1) + y) = 0
              · refine Ok.ifp ((nO_m1 (by omega)).mpr qn) (Ok.go ⟨nI_1 q, ?_⟩)
                rw [nx, q0']
                simp [hQ, qn, b1]
              · refine Ok.ifn (fun w => qn ((nO_m1 (by omega)).mp w)) (Ok.go ⟨nI_1 q, ?_⟩)
                rw [nx, q0']
                simp [hQ, qn, qu, b1]
            · rw [if_neg qu]
              refine Ok.ifp rfl (Ok.go ⟨nI_1 q, ?_⟩)
              have qu' : U q r = false := by simpa using qu
              rw [nx, q0']
              simp [hQ, qu', b1]
        · rintro v rfl
          show Ok (b_X7_makeHouse_83 z (nI x) (nI r) (nI y) (b1 (anyN (hQ num U x r y) 4)) (nI 4)) _
          unfold b_X7_makeHouse_83
          refine Ok.ifp (show (4 : Int32) ≤ nI 4 from nI_le (a := 4) (Nat.le_refl _) (by omega)) ?_
          have r29 : ∀ x, x < n → rd 28 (z 29) (nI x) = some (b1 (hT num x)) := fun x hx => by rw [rd_nI (by omega) (by omega), hc.2 x hx]
          rw [ei r]
          have fin : ∀ v : Int32, v = b1 (hP num U x r y) → Ok (Option.bind (mwr z 30 3136 (nI (112 * x + 28 * r + y)) v) (fun r62 => some (Sum.inr (Sum.inl ((nI y + 1), r62))))) (NxS (S := Int32 × Int32) (R := (Int32 × MS) ⊕ ((Int32 × MS) ⊕ ((Int32 × MS) ⊕ MS))) (fun _ => False) (NxS (fun v => v.1 = nI (y + 1) ∧ (Fr28 m v.2 ∧ ∀ x, x < n → v.2 29 x = b1 (hT num x)) ∧ MP v.2 n (hP num U) (112 * x + 28 * r + (y + 1))) (NxS (fun v => v.1 = nI (r + 1) ∧ (Fr28 m v.2 ∧ ∀ x, x < n → v.2 29 x = b1 (hT num x)) ∧ MP v.2 n (hP num U) (112 * x + 28 * (r + 1))) (NxS (fun v => v.1 = nI (x + 1) ∧ (Fr28 m v.2 ∧ ∀ x, x < n → v.2 29 x = b1 (hT num x)) ∧ MP v.2 n (hP num U) (112 * (x + 1))) Q)))) := fun v hv => Ok.bindE (mwr_nI (by omega) (by omega)) (Ok.end (Or.inl ⟨_, rfl, nI_1 y, ⟨hc.1.set (by omega) _, hc.2⟩, hm.set h20 hx hr hy hv⟩))
          by_cases q0 : anyN (hQ num U x r y) 4 = false
          · exact Ok.ifp ((b1_0 _).mpr q0) (fin 0 (by simp [hP, q0, b1]))
          · have q0' : anyN (hQ num U x r y) 4 = true := by simpa using q0
            refine Ok.ifn (fun w => q0 ((b1_0 _).mp w)) (Ok.bindE (r29 x hx) ?_)
            by_cases q1 : hT num x = false
            · exact Ok.ifp ((b1_0 _).mpr q1) (fin 0 (by simp [hP, q1, b1]))
            · have q1' : hT num x = true := by simpa using q1
              refine Ok.ifn (fun w => q1 ((b1_0 _).mp w)) (Ok.bindE (r29 y hy) ?_)
              by_cases q2 : hT num y = false
              · exact Ok.ifp ((b1_0 _).mpr q2) (fin 0 (by simp [hP, q2, b1]))
              · have q2' : hT num y = true := by simpa using q2
                exact Ok.ifn (fun w => q2 ((b1_0 _).mp w)) (fin 1 (by simp [hP, q0', q1', q2', b1]))
      · rintro z ⟨hc, hm⟩
        have hBz := hB.fr28 hc.1
        show Ok (b_X7_makeHouse_69 (nI x) (nI r) (nI n) z) _
        unfold b_X7_makeHouse_69
        refine Ok.ifp (show z 0 0 ≤ nI n by rw [hBz.1.1]; exact nI_le (Nat.le_refl _) (by omega)) (Ok.end (Or.inl ⟨_, rfl, nI_1 r, hc, hm.up (fun x2 r2 y2 hx2 hr2 hy2 h => by omega)⟩))
    · rintro z ⟨hc, hm⟩
      show Ok (b_X7_makeHouse_62 (nI x) (nI 4) z) _
      unfold b_X7_makeHouse_62
      refine Ok.ifp (show (4 : Int32) ≤ nI 4 from nI_le (a := 4) (Nat.le_refl _) (by omega)) (Ok.end (Or.inl ⟨_, rfl, nI_1 x, hc, hm.up (fun x2 r2 y2 hx2 hr2 hy2 h => by omega)⟩))
  · rintro z ⟨hc, hm⟩
    have hBz := hB.fr28 hc.1
    show Ok (b_X7_makeHouse_52 (nI n) z) _
    unfold b_X7_makeHouse_52
    exact Ok.ifp (show z 0 0 ≤ nI n by rw [hBz.1.1]; exact nI_le (Nat.le_refl _) (by omega)) (Ok.inr (hk z hc.1 hc.2 (fun x r y hx hr hy => hm x r y hx hr hy (by omega))))
end MHOUSE
