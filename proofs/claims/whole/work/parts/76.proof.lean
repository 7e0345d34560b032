/-! proof -/
section PROOF
theorem sA_sA (st : XS) (k : Nat) (f g : Nat → Int32) : sA (sA st k f) k g = sA st k g := by
  unfold sA
  refine Prod.ext ?_ rfl
  funext j
  by_cases h : j = k
  · simp [h]
  · simp [h]
theorem mA_mA (st : MS) (k : Nat) (f g : Nat → Int32) : mA (mA st k f) k g = mA st k g := by
  unfold mA
  funext j
  by_cases h : j = k
  · simp [h]
  · simp [h]
theorem mA_self (st : MS) (k : Nat) : mA st k (st k) = st := by
  unfold mA
  funext j
  by_cases h : j = k
  · simp [h]
  · simp [h]
theorem Inv.marks {sx : XS} {sm : MS} (h : Inv sx sm) (f g : Nat → Int32) : Inv (sA sx 13 f) (mA sm 28 g) := by
  obtain ⟨t, n, ax, cl, cc, hc, h | ⟨h1, h2, K, pl, num, rn, cd, rdn, U, ch, r1, r2, r3, ⟨y1, y2, y3, y4⟩, r5, r6⟩⟩ := h
  · exact ⟨t, n, ax, cl, cc, hc, Or.inl h⟩
  · refine ⟨t, n, ax, cl, cc, hc, Or.inr ⟨h1, h2, K, pl, num, rn, cd, rdn, U, ch, r1, r2, r3, ⟨y1, y2, y3, fun x r y hx hr hy => ?_⟩, r5, r6⟩⟩
    have htk : tk r = 16 ∨ tk r = 17 := by unfold tk; split <;> simp
    unfold mA
    rw [if_neg (show ¬ tk r = 28 by omega)]
    exact y4 x r y hx hr hy
def mp (f : Nat → Int32) (F : Nat) : Nat → Int32 := if F = 0 then f else upd f (F - 1) 1
theorem mp_put {f : Nat → Int32} {F : Nat} (h : F ≤ 2000) : t_X6_put 2000 f (nO F) 1 = mp f F := by
  unfold mp
  by_cases q : F = 0
  · subst q
    rw [if_pos rfl, nO_0, put_m1]
  · obtain ⟨i, rfl⟩ : ∃ i, F = i + 1 := ⟨F - 1, by omega⟩
    rw [if_neg q, nO_s, put_nI (by omega) (by omega)]
    rfl
theorem mp_same {f g : Nat → Int32} {F : Nat} {i : Nat} (h : ∀ j, j < i → f j = g j ∧ (g j = 0 ∨ g j = 1)) : ∀ j, j < i → mp f F j = mp g F j ∧ (mp g F j = 0 ∨ mp g F j = 1) := by
  intro j hj
  unfold mp
  by_cases q : F = 0
  · rw [if_pos q, if_pos q]; exact h j hj
  · rw [if_neg q, if_neg q]
    by_cases e : j = F - 1
    · subst e; rw [pk_us, pk_us]; exact ⟨rfl, Or.inr rfl⟩
    · rw [pk_un e, pk_un e]; exact h j hj
theorem proof_joint {t : Th} {n ax K rdn : Nat} {sx : XS} {sm : MS} {pl num rn cd : Nat → Nat} (hw : Wf t n ax) (hG : CS t n K pl num cd) (hX : XC sx K pl num rn cd rdn) (hM : MC sm n K pl num rn cd rdn) : ∀ (i : Nat) (c : Int32) (f g : Nat → Int32), i ≤ K → (∀ j, j < i → f j = g j ∧ (g j = 0 ∨ g j = 1)) →
    ∃ (r : Int32) (f' g' : Nat → Int32), loopC (fun v => b_X1_proofSize_21 v.1 v.2.1 v.2.2) (c, nO i, sA sx 13 f) = some (r, sA sx 13 f') ∧ loopC (fun v => b_X7_proof_58 v.1 v.2.1 v.2.2) (c, nO i, mA sm 28 g) = some (r, mA sm 28 g') := by
  have hK := hG.1.1
  intro i
  induction i with
  | zero =>
    intro c f g _ _
    refine ⟨c, f, g, loopC_end ?_, loopC_end ?_⟩
    · show b_X1_proofSize_21 c (nO 0) (sA sx 13 f) = _
      unfold b_X1_proofSize_21
      rw [nO_0, if_pos (by decide)]
    · show b_X7_proof_58 c (nO 0) (mA sm 28 g) = _
      unfold b_X7_proof_58
      rw [nO_0, if_pos (by decide)]
  | succ i ih =>
    intro c f g hi h
    obtain ⟨hfg, h01⟩ := h i (by omega)
    have dec : nI i + (-1 : Int32) = nO i := by unfold nO; rw [Int32.sub_eq_add_neg]
    have eX : t_X6_at 2000 ((sA sx 13 f).1 13) (nI i) = f i := at_nI (f := f) (by omega) (by omega)
    have eM : rd 4000 ((mA sm 28 g) 28) (nI i) = some (g i) := rd_nI (f := g) (by omega) (by omega)
    have hneg : ¬ nI i < 0 := nI_pos (by omega)
    rcases h01 with h0 | h1
    · obtain ⟨r, f', g', r1, r2⟩ := ih c f g (by omega) (fun j hj => h j (by omega))
      refine ⟨r, f', g', ?_, ?_⟩
      · rw [← r1]
        refine loopC_next ?_
        show b_X1_proofSize_21 c (nO (i + 1)) (sA sx 13 f) = _
        unfold b_X1_proofSize_21
        rw [nO_s, if_neg hneg, eX, hfg, h0, if_neg (by decide), dec]
      · rw [← r2]
        refine loopC_next ?_
        show b_X7_proof_58 c (nO (i + 1)) (mA sm 28 g) = _
        unfold b_X7_proof_58
        rw [nO_s, if_neg hneg, eM, Option.bind_some, h0, if_pos zero0, dec]
    · obtain ⟨ru, F, S, a, ec, c1, c2, c3, c4⟩ := hG.2.1 i (by omega)
      obtain ⟨d1, d2, d3, d4⟩ := cod_a (ru := ru) (f := F) (s := S) (a := a) (by omega) (by omega) (by omega)
      obtain ⟨f0, f1, f2, f3, f4, f5, f6, f7, f8⟩ := hM.2.2.1 i (by omega)
      rw [ec, d3] at f6
      rw [ec, d2] at f7
      have p6 : ∀ f, t_X1_firstPremise (sA sx 13 f) (nI i) = nO F := fun f => by
        have e := fact_eq hw hG hX hM (show i < K by omega) (show 6 < 9 by omega)
        rw [f6] at e
        exact e
      have p7 : ∀ f, t_X1_secondPremise (sA sx 13 f) (nI i) = nO S := fun f => by
        have e := fact_eq hw hG hX hM (show i < K by omega) (show 7 < 9 by omega)
        rw [f7] at e
        exact e
      obtain ⟨r, f', g', r1, r2⟩ := ih (c + 1) (mp (mp f F) S) (mp (mp g F) S) (by omega) (mp_same (mp_same (fun j hj => h j (by omega))))
      refine ⟨r, f', g', ?_, ?_⟩
      · rw [← r1]
        refine loopC_next ?_
        show b_X1_proofSize_21 c (nO (i + 1)) (sA sx 13 f) = _
        unfold b_X1_proofSize_21
        rw [nO_s, if_neg hneg, eX, hfg, h1, if_pos rfl, p6, Option.bind_some, Option.bind_some, sA_sA, dec]
        have e1 : t_X6_put 2000 ((sA sx 13 f).1 13) (nO F) 1 = mp f F := mp_put (by omega)
        rw [e1, sA_sA sx 13 f (mp f F), p7]
        have e2 : t_X6_put 2000 ((sA sx 13 (mp f F)).1 13) (nO S) 1 = mp (mp f F) S := mp_put (by omega)
        rw [e2, sA_sA]
      · rw [← r2]
        refine loopC_next ?_
        show b_X7_proof_58 c (nO (i + 1)) (mA sm 28 g) = _
        unfold b_X7_proof_58
        rw [nO_s, if_neg hneg, eM, Option.bind_some, h1, if_neg one0]
        have st : ∀ (w P : Nat) (g : Nat → Int32), w < 8 → sm 15 (9 * i + w) = nO P → P ≤ i → b_X7_proof_78 (c + 1) (nI i) (nI w) (mA sm 28 g) = some (Sum.inl (nI (w + 1), mA sm 28 (mp g P))) := by
          intro w P g hw8 he hP
          unfold b_X7_proof_78
          have ef : f_X7_fact (mA sm 28 g) (nI i) (nI w) = some (nO P) := by
            rw [fact_ok (by omega) (by omega)]
            exact congrArg some he
          rw [if_neg (show ¬ (8 : Int32) ≤ nI w from nI_ge (b := 8) hw8 (by omega)), ef, Option.bind_some, Option.bind_some, nI_1]
          unfold mp
          by_cases q : P = 0
          · rw [if_pos ((nO_m1 (by omega)).mpr q), if_pos q]
          · obtain ⟨P', rfl⟩ : ∃ P', P = P' + 1 := ⟨P - 1, by omega⟩
            rw [if_neg (nO_ne (by omega)), if_neg q, nO_s, mwr_nI (by omega) (by omega), Option.bind_some, mA_mA]
            rfl
        have en : ∀ g, b_X7_proof_78 (c + 1) (nI i) (nI 8) (mA sm 28 g) = some (Sum.inr (Sum.inl (c + 1, nI i + (-1), mA sm 28 g))) := by
          intro g
          unfold b_X7_proof_78
          rw [if_pos (show (8 : Int32) ≤ nI 8 from nI_le (a := 8) (Nat.le_refl _) (by omega))]
        have run : loopC (fun v => b_X7_proof_78 (c + 1) (nI i) v.1 v.2) (nI 6, mA sm 28 g) = some (Sum.inl (c + 1, nI i + (-1), mA sm 28 (mp (mp g F) S))) := by
          rw [loopC_next (f := fun v => b_X7_proof_78 (c + 1) (nI i) v.1 v.2) (st 6 F g (by omega) f6 (by omega)), loopC_next (f := fun v => b_X7_proof_78 (c + 1) (nI i) v.1 v.2) (st 7 S _ (by omega) f7 (by omega)), loopC_end (f := fun v => b_X7_proof_78 (c + 1) (nI i) v.1 v.2) (en _)]
        have run : loopC (fun v => b_X7_proof_78 (c + 1) (nI i) v.1 v.2) ((6 : Int32), mA sm 28 g) = _ := run
        rw [run, dec]
theorem sim14 : Sim_14 Inv := by
  rintro sx sm v1 hI
  unfold f_X6_proof f_X7_proof
  rcases doneCases hI with ⟨h1, h2⟩ | ⟨t, n, ax, cl, cc, K, pl, num, rn, cd, rdn, U, ch, hc, h1, h2, hGG, hCl, hX, hM, -⟩
  · rw [h1, h2, if_pos zero0, if_pos zero0]
    exact ⟨_, _, _, rfl, rfl, hI⟩
  · have hK := hGG.1.1
    unfold t_X1_knows
    rw [h1, h2, if_neg one0, if_neg one0, hX.1, hM.1]
    rcases arg2 v1 (n := K) (by omega) with ⟨k, hk, rfl, e1, e2⟩ | ⟨e1, e2⟩
    · rw [e1, e2, if_neg one0, if_neg one0]
      obtain ⟨f0, ef, hf0⟩ := fill_ok 2000 (by omega) (sx.1 13) 0
      have hM29 : Ok (loopC (fun v => b_X7_proof_29 (nI k) v.1 v.2) (nI 0, sm)) (fun r => ∃ sx', f_X1_proofSize sx (nI k) = some (r.1, sx') ∧ Inv sx' r.2) := by
        refine Ok.for (f := fun v => b_X7_proof_29 (nI k) v.1 v.2) (i := 0) (k + 1) (fun i z => ∃ g, z = mA sm 28 g ∧ ∀ j, j < i → g j = 0) ?_ ?_ (Nat.zero_le _) ⟨sm 28, (mA_self sm 28).symm, fun j hj => absurd hj (Nat.not_lt_zero j)⟩
        · rintro i z hi ⟨g, rfl, hg⟩
          show Ok (b_X7_proof_29 (nI k) (nI i) (mA sm 28 g)) _
          unfold b_X7_proof_29
          refine Ok.ifn (fun w => by have := (nI_ltI (by omega) (by omega)).mp w; omega) (Ok.bindE (mwr_nI (by omega) (by omega)) (Ok.go ⟨nI_1 i, upd g i 0, mA_mA _ _ _ _, fun j hj => ?_⟩))
          by_cases e : j = i
          · subst e; exact pk_us
          · rw [pk_un e]; exact hg j (by omega)
        · rintro z ⟨g, rfl, hg⟩
          show Ok (b_X7_proof_29 (nI k) (nI (k + 1)) (mA sm 28 g)) _
          unfold b_X7_proof_29
          refine Ok.ifp ((nI_ltI (by omega) (by omega)).mpr (by omega)) (Ok.bindE (mwr_nI (by omega) (by omega)) ?_)
          rw [mA_mA]
          show Ok (Option.map _ (loopC _ ((0 : Int32), nI k, mA sm 28 (upd g k 1)))) _
          obtain ⟨r, f', g', r1, r2⟩ := proof_joint hc.1 hGG hX hM (k + 1) 0 (upd f0 k 1) (upd g k 1) (by omega) (fun j hj => by
            by_cases e : j = k
            · subst e; rw [pk_us, pk_us]; exact ⟨rfl, Or.inr rfl⟩
            · rw [pk_un e, pk_un e, hf0 j (by omega), hg j (by omega)]; exact ⟨rfl, Or.inl rfl⟩)
          rw [nO_s] at r1 r2
          rw [r2]
          refine Ok.end ⟨sA sx 13 f', ?_, hI.marks f' g'⟩
          unfold f_X1_proofSize
          rw [ef]
          show loopC _ ((0 : Int32), nI k, sA (sA sx 13 f0) 13 (t_X6_put 2000 f0 (nI k) 1)) = _
          rw [sA_sA, put_nI (by omega) (by omega)]
          exact r1
      obtain ⟨r, er, sx', ex, hInv⟩ := hM29
      have er : loopC (fun v => b_X7_proof_29 (nI k) v.1 v.2) ((0 : Int32), sm) = some r := er
      rw [ex, er]
      exact ⟨_, _, _, rfl, rfl, hInv⟩
    · rw [e1, e2, if_pos zero0, if_pos zero0]
      exact ⟨_, _, _, rfl, rfl, hI⟩
end PROOF
