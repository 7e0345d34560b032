/-! the class's offers of one round -/
def sb (p : Nat) : Nat := p / 100
def rh (p : Nat) : Nat := p % 100 / 20
def ob (p : Nat) : Nat := p % 20
theorem pl_eq (p : Nat) : p = 100 * sb p + 20 * rh p + ob p := by unfold sb rh ob; omega
theorem rh_lt (p : Nat) : rh p < 5 := by unfold rh; omega
theorem ob_lt (p : Nat) : ob p < 20 := by unfold ob; omega
theorem sb_lt {p : Nat} (h : p < 2000) : sb p < 20 := by unfold sb; omega
theorem pl_of {x r y : Nat} (hr : r < 5) (hy : y < 20) : sb (100 * x + 20 * r + y) = x ∧ rh (100 * x + 20 * r + y) = r ∧ ob (100 * x + 20 * r + y) = y := by unfold sb rh ob; omega
theorem subjectAt_ok {p : Nat} (h : p < 2000) : t_X6_subjectAt (nI p) = nI (sb p) := nI_div (b := 100) (by omega) (by omega)
theorem rest_ok {p : Nat} (h : p < 2000) : (nI p - nI p / (100 : Int32) * (100 : Int32)) = nI (p % 100) := by
  have e : nI p / (100 : Int32) = nI (p / 100) := nI_div (b := 100) (by omega) (by omega)
  rw [e]
  have e2 : nI (p / 100) * (100 : Int32) = nI (p / 100 * 100) := nI_mul (p / 100) 100
  rw [e2, nI_sub (by omega)]
  congr 1
  omega
theorem roleAt_ok {p : Nat} (h : p < 2000) : t_X6_roleAt (nI p) = nO (rh p) := by
  unfold t_X6_roleAt
  rw [rest_ok h]
  have e : nI (p % 100) / (20 : Int32) = nI (p % 100 / 20) := nI_div (b := 20) (by omega) (by omega)
  rw [e]
  rfl
theorem objectAt_ok {p : Nat} (h : p < 2000) : t_X6_objectAt (nI p) = nI (ob p) := by
  unfold t_X6_objectAt
  rw [rest_ok h]
  have e : nI (p % 100) / (20 : Int32) = nI (p % 100 / 20) := nI_div (b := 20) (by omega) (by omega)
  rw [e]
  have e2 : nI (p % 100 / 20) * (20 : Int32) = nI (p % 100 / 20 * 20) := nI_mul (p % 100 / 20) 20
  rw [e2, nI_sub (by omega)]
  congr 1
  unfold ob
  omega
theorem sL_self (st : XS) (k : Nat) : sL st k (st.2 k) = st := by
  unfold sL
  refine Prod.ext rfl ?_
  funext j
  by_cases h : j = k
  · simp [h]
  · simp [h]
def gFrom (num : Nat → Nat) (t : Th) (n ax : Nat) (U : Nat → Nat → Bool) (ch : Nat → Nat → Nat → Nat) (pl : Nat → Nat) (k : Nat) : Nat → Nat → Prop := fun p c =>
  (rh (pl k) = 0 ∧ (gParts num t k (sb (pl k)) (ob (pl k)) p c ∨ UpTo n (gMeet num t k (sb (pl k)) (ob (pl k))) p c ∨ UpTo ax (gAx num t k (sb (pl k)) (ob (pl k))) p c)) ∨
  (rh (pl k) ≠ 0 ∧ (gBeg num (ob (pl k)) (k + 1) p c ∨ UpTo n (gBack num t U k (sb (pl k)) (rh (pl k) - 1) (ob (pl k))) p c ∨ gNone num k (sb (pl k)) (ob (pl k)) p c ∨ UpTo 4 (fun s => UpTo 4 (fun u => UpTo n (gChain num ch k (sb (pl k)) (rh (pl k) - 1) (ob (pl k)) s u))) p c))
section XROUND
variable {sx : XS} {num pl : Nat → Nat} {t : Th} {n ax K : Nat} {U : Nat → Nat → Bool} {ch : Nat → Nat → Nat → Nat}
theorem offFrom_ok (hN : XN sx.1 t n ax) (hw : Wf t n ax) (hn : NumX sx.1 num) (hU : XU sx.1 U) (hC : XCh sx.1 ch) {k : Nat} (hk : k < 2000) (hp : sx.1 10 k = nI (pl k)) (hs : sb (pl k) < n) (ho : ob (pl k) < n) {f : Nat → Int64} {S : Nat → Nat → Prop} (hT : XT f S) :
    Ok (f_X5_offerFrom (sL sx 15 f) (nI k)) (XO sx (Uni S (gFrom num t n ax U ch pl k))) := by
  have h20 := hw.n20
  have h2000 : pl k < 2000 := by have := pl_eq (pl k); have := rh_lt (pl k); have := ob_lt (pl k); omega
  unfold f_X5_offerFrom
  have ep : t_X1_placeOf (sL sx 15 f) (nI k) = nI (pl k) := (at_nI (f := sx.1 10) hk (by omega)).trans hp
  rw [ep, subjectAt_ok h2000, roleAt_ok h2000, objectAt_ok h2000]
  have hrl := rh_lt (pl k)
  by_cases q : rh (pl k) = 0
  · refine Ok.ifp ((nO_m1 (by omega)).mpr q) ?_
    refine Ok.bind (offParts_ok hN hw hn hk hs ho hT) ?_
    rintro z ⟨f1, rfl, h1⟩
    refine Ok.bind (offMeets_ok hN hw hn hk hs ho h1) ?_
    rintro z ⟨f2, rfl, h2⟩
    refine Ok.bind (offAx_ok hN hw hn hk hs ho h2) ?_
    rintro z ⟨f3, rfl, h3⟩
    refine Ok.some ⟨f3, rfl, h3.congr (fun p c => ?_)⟩
    constructor
    · rintro (((h | h) | h) | h)
      · exact Or.inl h
      · exact Or.inr (Or.inl ⟨q, Or.inl h⟩)
      · exact Or.inr (Or.inl ⟨q, Or.inr (Or.inl h)⟩)
      · exact Or.inr (Or.inl ⟨q, Or.inr (Or.inr h)⟩)
    · rintro (h | ⟨-, h | h | h⟩ | ⟨h, -⟩)
      · exact Or.inl (Or.inl (Or.inl h))
      · exact Or.inl (Or.inl (Or.inr h))
      · exact Or.inl (Or.inr h)
      · exact Or.inr h
      · exact absurd q h
  · refine Ok.ifn (fun z => q ((nO_m1 (by omega)).mp z)) ?_
    obtain ⟨r, hr⟩ : ∃ r, rh (pl k) = r + 1 := ⟨rh (pl k) - 1, by omega⟩
    have er : nO (rh (pl k)) = nI r := by rw [hr, nO_s]
    rw [er]
    have hb := offBegun_ok hn hT (x := ob (pl k)) (f1 := k + 1) (by omega) (by omega)
    rw [nO_s] at hb
    refine Ok.bind hb ?_
    rintro z ⟨f1, rfl, h1⟩
    refine Ok.bind (offBack_ok hN hw hn hU hk hs (by omega) ho h1) ?_
    rintro z ⟨f2, rfl, h2⟩
    refine Ok.bind (offChains_ok hN hw hn hC hk hs (by omega) ho h2) ?_
    rintro z ⟨f3, rfl, h3⟩
    have e1 : rh (pl k) - 1 = r := by omega
    refine Ok.some ⟨f3, rfl, h3.congr (fun p c => ?_)⟩
    unfold gFrom Uni
    rw [e1]
    constructor
    · rintro ((((h | h) | h) | h) | h)
      · exact Or.inl h
      · exact Or.inr (Or.inr ⟨q, Or.inl h⟩)
      · exact Or.inr (Or.inr ⟨q, Or.inr (Or.inl h)⟩)
      · exact Or.inr (Or.inr ⟨q, Or.inr (Or.inr (Or.inl h))⟩)
      · exact Or.inr (Or.inr ⟨q, Or.inr (Or.inr (Or.inr h))⟩)
    · rintro (h | ⟨h, -⟩ | ⟨-, h | h | h | h⟩)
      · exact Or.inl (Or.inl (Or.inl (Or.inl h)))
      · exact absurd h q
      · exact Or.inl (Or.inl (Or.inl (Or.inr h)))
      · exact Or.inl (Or.inl (Or.inr h))
      · exact Or.inl (Or.inr h)
      · exact Or.inr h
theorem clearOff_ok (sx : XS) : Ok (f_X5_clearOffers sx) (XO sx (fun _ _ => False)) := by
  unfold f_X5_clearOffers
  refine Ok.for (f := fun v => b_X5_clearOffers_2 v.1 v.2) (i := 0) 2000 (fun i z => ∃ f, z = sL sx 15 f ∧ ∀ j, j < i → f j = lN NOC) ?_ ?_ (Nat.zero_le _) ⟨sx.2 15, (sL_self sx 15).symm, fun j hj => by omega⟩
  · rintro i z hi ⟨f, rfl, hf⟩
    show Ok (b_X5_clearOffers_2 (nI i) (sL sx 15 f)) _
    unfold b_X5_clearOffers_2
    refine Ok.ifn (show ¬ (2000 : Int32) ≤ nI i from nI_ge (b := 2000) hi (by omega)) ?_
    have e : (wrL 2000 ((sL sx 15 f).2 15) (nI i) 4611686018427387904).map (sL (sL sx 15 f) 15) = some (sL (sL sx 15 f) 15 (vp_updL f i 4611686018427387904)) := by
      have := wrL_nI (f := f) (x := 4611686018427387904) hi (show 2000 < 2 ^ 31 by omega)
      show (wrL 2000 f (nI i) 4611686018427387904).map _ = _
      rw [this]
      rfl
    refine Ok.bindE e (Ok.go ⟨nI_1 i, vp_updL f i 4611686018427387904, sL_sL _ _ _ _, fun j hj => ?_⟩)
    by_cases q : j = i
    · subst q; rw [pk_uLs]; exact lN_no
    · rw [pk_uLn q]; exact hf j (by omega)
  · rintro z ⟨f, rfl, hf⟩
    show Ok (b_X5_clearOffers_2 (nI 2000) (sL sx 15 f)) _
    unfold b_X5_clearOffers_2
    refine Ok.ifp (show (2000 : Int32) ≤ nI 2000 from nI_le (a := 2000) (Nat.le_refl _) (by omega)) (Ok.end ⟨f, rfl, fun p c h => h.elim, fun p hp => ⟨0, hf p hp, Or.inl ⟨rfl, fun c h => h⟩⟩⟩)
/-- all that the class offers in a round -/
def SX (num : Nat → Nat) (t : Th) (n ax : Nat) (U : Nat → Nat → Bool) (ch : Nat → Nat → Nat → Nat) (pl : Nat → Nat) (K : Nat) : Nat → Nat → Prop := fun p c =>
  UpTo n (gSeed num t) p c ∨ UpTo K (gFrom num t n ax U ch pl) p c
theorem xoffers_ok (hN : XN sx.1 t n ax) (hw : Wf t n ax) (hn : NumX sx.1 num) (hU : XU sx.1 U) (hC : XCh sx.1 ch) (hK : K ≤ 2000) (h33 : sx.1 33 0 = nI K) (hp : ∀ k, k < K → sx.1 10 k = nI (pl k) ∧ sb (pl k) < n ∧ ob (pl k) < n) {rd : Int32} {P : (Int32 × Int32 × XS) ⊕ XS → Prop}
    (hadd : ∀ f, XT f (SX num t n ax U ch pl K) → Ok (f_X5_addOffered (sL sx 15 f) rd) (fun r => P (Sum.inl (r.1, rd + 1, r.2)))) :
    Ok (Option.bind (f_X5_clearOffers sx) (fun r5 => Option.bind (f_X5_offerSeeds r5) (fun r6 => loopC (fun v => b_X5_concludeAll_43 rd v.1 v.2) ((0 : Int32), r6)))) P := by
  refine Ok.bind (clearOff_ok sx) ?_
  rintro z ⟨f, rfl, hT⟩
  refine Ok.bind (offSeeds_ok hN hw hn hT) ?_
  rintro z ⟨f1, rfl, hT1⟩
  refine offLoop (b := b_X5_concludeAll_43 rd) K (gFrom num t n ax U ch pl) ?_ ?_ hT1
  · intro i f S' hi hT
    unfold b_X5_concludeAll_43
    refine Ok.ifn (show ¬ sx.1 33 0 ≤ nI i by rw [h33]; exact nI_ge hi (by omega)) ?_
    obtain ⟨g1, g2, g3⟩ := hp i hi
    refine Ok.bind (offFrom_ok hN hw hn hU hC (by omega) g1 g2 g3 hT) ?_
    rintro z ⟨f', rfl, hz⟩
    exact Ok.go ⟨nI_1 i, f', rfl, hz⟩
  · intro f hT
    unfold b_X5_concludeAll_43
    refine Ok.ifp (show sx.1 33 0 ≤ nI K by rw [h33]; exact nI_le (Nat.le_refl _) (by omega)) ?_
    refine Ok.bind (hadd f (hT.congr (fun p c => ⟨fun z => ?_, fun z => ?_⟩))) (fun r hr => Ok.end hr)
    · rcases z with (z | z) | z
      · exact z.elim
      · exact Or.inl z
      · exact Or.inr z
    · rcases z with z | z
      · exact Or.inl (Or.inr z)
      · exact Or.inr z
end XROUND
