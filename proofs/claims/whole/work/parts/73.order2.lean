/-! like, parent, count, digest -/
section ORDER2
variable {t : Th} {n ax cl cc K rdn : Nat} {sx : XS} {sm : MS} {pl num rn cd : Nat → Nat} {U : Nat → Nat → Bool} {ch : Nat → Nat → Nat → Nat}
theorem lB_self (hw : Wf t n ax) (hG : CS t n K pl num cd) (hCl : Closed num t n ax U ch pl K) {a : Nat} (ha : a < n) (h3 : t 0 a < 3) : lB num a a = true := by
  have hu : uB num a a = true := by
    unfold uB
    by_cases q : a = 1
    · simp [q]
    · have hs : sd t a := by
        obtain ⟨-, -, -, h0, h1, h2, -⟩ := hw
        rcases (show a = 0 ∨ 2 ≤ a by omega) with rfl | q2
        · exact Or.inl h0
        · have := h2 a q2 ha
          exact Or.inr (by omega)
      have := (beg_eq hw hG hCl ha).mp (Or.inl hs)
      rw [show 100 * a + a = 101 * a by omega]
      simp [this]
  unfold lB
  rw [hu]
  rfl
def Lk (t : Th) (num : Nat → Nat) (p w : Nat) : Prop := t 0 w < 3 ∧ lB num p w = true
theorem least_twin (hc : Core t n ax cl cc sx sm) (hG : CS t n K pl num cd) (hCl : Closed num t n ax U ch pl K) (hX : XC sx K pl num rn cd rdn) (hM : MC sm n K pl num rn cd rdn) {p : Nat} (hp : p < n) (h3 : t 0 p < 3) :
    ∃ w, w ≤ p ∧ f_X6_leastLike sx (nI p) = some (nI w) ∧ f_X7_leastLike sm (nI p) = some (nI w) := by
  have h20 := hc.1.n20
  have hX6 : Ok (f_X6_leastLike sx (nI p)) (fun v => ∃ w, w ≤ p ∧ v = nI w ∧ Lk t num p w ∧ ∀ j, j < w → ¬ Lk t num p j) := by
    unfold f_X6_leastLike
    refine Ok.for0 (f := fun v => b_X6_leastLike_2 sx (nI p) v) (i := 0) p (fun i => ∀ j, j < i → ¬ Lk t num p j) ?_ ?_ (Nat.zero_le _) (fun j hj => absurd hj (Nat.not_lt_zero j))
    · intro i hi hI
      have next : ¬ Lk t num p i → ∀ k, k < i + 1 → ¬ Lk t num p k := fun hc k hk => by
        by_cases e : k = i
        · subst e; exact hc
        · exact hI k (by omega)
      show Ok (b_X6_leastLike_2 sx (nI p) (nI i)) _
      unfold b_X6_leastLike_2
      refine Ok.ifn (nI_ge hi (by omega)) ?_
      rw [xlike_ok hc.1 hX hp (show i < n by omega)]
      rcases argP hc (nI i) with ⟨a, ha, e, q3, e1, -⟩ | ⟨e1, e2⟩
      · have : i = a := (nI_eq (by omega) (by omega)).mp e
        subst this
        rw [e1]
        refine Ok.ifn one0 ?_
        by_cases q : lB num p i = true
        · exact Ok.ifn (fun w => by rw [(b1_0 _).mp w] at q; exact absurd q (by decide)) (Ok.end ⟨i, by omega, rfl, ⟨q3, q⟩, hI⟩)
        · exact Ok.ifp ((b1_0 _).mpr (by simpa using q)) (Ok.go ⟨nI_1 i, next (fun w => q w.2)⟩)
      · rw [e1]
        refine Ok.ifp zero0 (Ok.go ⟨nI_1 i, next (fun w => ?_)⟩)
        have h5 := hc.1.s5 (show i < n by omega)
        unfold f_X7_isPlain at e2
        rcases argN hc (nI i) with ⟨a, ha, e, -, k2⟩ | ⟨k1, -⟩
        · have : i = a := (nI_eq (by omega) (by omega)).mp e
          subst this
          rw [k2, if_neg one0, rd_nI (by omega) (by omega), (hc.2.2.1.2.2.1 i ha).1, Option.bind_some, if_neg (fun y => by have := (nI_leI (a := 3) (by omega) (by omega)).mp y; have := w.1; omega)] at e2
          exact absurd (Option.some.inj e2) (by decide)
        · have := xknows_ok hc.2.1 hc.1 (i := i) (by omega)
          rw [k1, if_pos (by omega)] at this
          exact absurd this (by decide)
    · intro hI
      show Ok (b_X6_leastLike_2 sx (nI p) (nI p)) _
      unfold b_X6_leastLike_2
      exact Ok.ifp (nI_le (Nat.le_refl _) (by omega)) (Ok.end ⟨p, Nat.le_refl _, rfl, ⟨h3, lB_self hc.1 hG hCl hp h3⟩, hI⟩)
  obtain ⟨v, ev, w, hw, rfl, hl, hlt⟩ := hX6
  refine ⟨w, hw, ev, ?_⟩
  unfold f_X7_leastLike
  have key : Ok (loopC (fun v => b_X7_leastLike_2 sm (nI p) v) (nI 0)) (fun v => v = nI w) := by
    refine Ok.for0 (f := fun v => b_X7_leastLike_2 sm (nI p) v) (i := 0) w (fun _ => True) ?_ ?_ (Nat.zero_le _) trivial
    · intro i hi _
      show Ok (b_X7_leastLike_2 sm (nI p) (nI i)) _
      unfold b_X7_leastLike_2
      rcases argP hc (nI i) with ⟨a, ha, e, q3, -, e1⟩ | ⟨-, e1⟩
      · have : i = a := (nI_eq (by omega) (by omega)).mp e
        subst this
        refine Ok.bindE e1 (Ok.ifn one0 (Ok.bindE (mlike_ok hc.1 hG hM hp ha) ?_))
        refine Ok.ifp ((b1_0 _).mpr ?_) (Ok.go ⟨nI_1 i, trivial⟩)
        cases e : lB num p i
        · rfl
        · exact absurd ⟨q3, e⟩ (hlt i hi)
      · exact Ok.bindE e1 (Ok.ifp zero0 (Ok.go ⟨nI_1 i, trivial⟩))
    · intro _
      show Ok (b_X7_leastLike_2 sm (nI p) (nI w)) _
      unfold b_X7_leastLike_2
      rcases argP hc (nI w) with ⟨a, ha, e, q3, -, e1⟩ | ⟨e0, e1⟩
      · have : w = a := (nI_eq (by omega) (by omega)).mp e
        subst this
        refine Ok.bindE e1 (Ok.ifn one0 (Ok.bindE (mlike_ok hc.1 hG hM hp ha) ?_))
        exact Ok.ifn (fun z => by have := (b1_0 _).mp z; rw [hl.2] at this; exact absurd this (by decide)) (Ok.end rfl)
      · exfalso
        unfold t_X3_named at e0
        have h5 := hc.1.s5 (show w < n by omega)
        rw [xknows_ok hc.2.1 hc.1 (by omega), if_pos (show w < n by omega), if_neg one0, xsort_ok hc.2.1 hc.1 (by omega), if_neg (fun y => by have := (nI_ltI (a := 2) (by omega) (by omega)).mp y; have := hl.1; omega)] at e0
        exact absurd e0 (by decide)
  obtain ⟨v, ev, rfl⟩ := key
  exact ev
theorem sim16 : Sim_16 Inv := by
  rintro sx sm v1 hI
  unfold f_X6_like f_X7_like
  rcases doneCases hI with ⟨h1, h2⟩ | ⟨t, n, ax, cl, cc, K, pl, num, rn, cd, rdn, U, ch, hc, h1, h2, hGG, hCl, hX, hM, -⟩
  · rw [h1, h2, if_pos zero0, if_pos zero0]
    exact ⟨_, rfl, rfl, hI⟩
  · rw [h1, h2, if_neg one0, if_neg one0]
    rcases argP hc v1 with ⟨a, ha, rfl, h3, e1, e2⟩ | ⟨e1, e2⟩
    · rw [e1, e2, Option.bind_some, if_neg one0, if_neg one0]
      obtain ⟨w, -, l1, l2⟩ := least_twin hc hGG hCl hX hM ha h3
      rw [l1, l2]
      exact ⟨_, rfl, rfl, hI⟩
    · rw [e1, e2, Option.bind_some, if_pos zero0, if_pos zero0]
      exact ⟨_, rfl, rfl, hI⟩
theorem par_twin (hc : Core t n ax cl cc sx sm) (hG : CS t n K pl num cd) (hCl : Closed num t n ax U ch pl K) (hX : XC sx K pl num rn cd rdn) (hM : MC sm n K pl num rn cd rdn) {a b : Nat} (ha : a < n) (hb : b < n) (h3 : t 0 b < 3) (hpb : f_X7_isPlain sm (nI b) = some 1) :
    ∃ r, f_X6_isParent sx (nI a) (nI b) = some r ∧ f_X7_isParent sm (nI a) (nI b) = some r := by
  have h20 := hc.1.n20
  unfold f_X6_isParent f_X7_isParent
  obtain ⟨w, -, l1, l2⟩ := least_twin hc hG hCl hX hM hb h3
  rw [hpb, Option.bind_some, if_neg one0, xunder_ok hc.1 hX ha hb, xlike_ok hc.1 hX ha hb, mlike_ok hc.1 hG hM ha hb, munder_ok hc.1 hG hM ha hb, Option.bind_some, Option.bind_some, l1, l2, Option.bind_some, Option.bind_some]
  have loop : ∃ r, loopC (fun v => b_X6_isParent_31 sx (nI a) (nI b) v) (nI 0) = some r ∧ loopC (fun v => b_X7_isParent_39 sm (nI a) (nI b) v) (nI 0) = some r := by
    refine twin (fun k v => ∃ i, i ≤ n ∧ k = n - i ∧ v = nI i) ?_ n (nI 0) ⟨0, by omega, rfl, rfl⟩
    rintro k v ⟨i, hi, rfl, rfl⟩
    have nx : ∀ s', (Sum.inl (nI i + 1) : Int32 ⊕ Int32) = Sum.inl s' → i < n → ∃ n', n' < n - i ∧ ∃ i', i' ≤ n ∧ n' = n - i' ∧ s' = nI i' := fun s' hs hlt => ⟨n - (i + 1), by omega, i + 1, hlt, rfl, by rw [← Sum.inl.inj hs, nI_1]⟩
    show ∃ x, b_X6_isParent_31 sx (nI a) (nI b) (nI i) = some x ∧ b_X7_isParent_39 sm (nI a) (nI b) (nI i) = some x ∧ _
    unfold b_X6_isParent_31 b_X7_isParent_39
    rw [hc.2.1.1, hc.2.2.1.1]
    by_cases q : i = n
    · subst q
      rw [if_pos (nI_le (Nat.le_refl _) (by omega)), if_pos (nI_le (Nat.le_refl _) (by omega))]
      exact ⟨_, rfl, rfl, fun s' h => by simp at h⟩
    have hlt : i < n := by omega
    rw [if_neg (nI_ge hlt (by omega)), if_neg (nI_ge hlt (by omega))]
    rcases argP hc (nI i) with ⟨c, hcc, e, q3, e0, e1⟩ | ⟨e0, e1⟩
    · rw [e0, e1, Option.bind_some, if_neg one0, if_neg one0, xunder_ok hc.1 hX ha hlt, munder_ok hc.1 hG hM ha hlt, xunder_ok hc.1 hX hlt hb, munder_ok hc.1 hG hM hlt hb, xlike_ok hc.1 hX hlt ha, mlike_ok hc.1 hG hM hlt ha, xlike_ok hc.1 hX hlt hb, mlike_ok hc.1 hG hM hlt hb]
      simp only [Option.bind_some]
      have go : ∃ x, (some (Sum.inl (nI i + 1)) : Option (Int32 ⊕ Int32)) = some x ∧ (some (Sum.inl (nI i + 1)) : Option (Int32 ⊕ Int32)) = some x ∧ ∀ s', x = Sum.inl s' → ∃ n', n' < n - i ∧ ∃ i', i' ≤ n ∧ n' = n - i' ∧ s' = nI i' := ⟨_, rfl, rfl, fun s' h => nx s' h hlt⟩
      cases uB num a i
      · exact go
      · cases uB num i b
        · exact go
        · cases lB num i a
          · cases lB num i b
            · exact ⟨_, rfl, rfl, fun s' h => by simp at h⟩
            · exact go
          · exact go
    · rw [e0, e1, Option.bind_some, if_pos zero0, if_pos zero0]
      exact ⟨_, rfl, rfl, fun s' h => nx s' h hlt⟩
  obtain ⟨r, r1, r2⟩ := loop
  have r1 : loopC (fun v => b_X6_isParent_31 sx (nI a) (nI b) v) 0 = some r := r1
  have r2 : loopC (fun v => b_X7_isParent_39 sm (nI a) (nI b) v) 0 = some r := r2
  rw [r1, r2]
  cases uB num a b <;> cases lB num a b
  · exact ⟨0, rfl, rfl⟩
  · exact ⟨0, rfl, rfl⟩
  · by_cases q : nI w = nI b
    · rw [if_pos q]
      exact ⟨r, rfl, rfl⟩
    · rw [if_neg q]
      exact ⟨0, rfl, rfl⟩
  · exact ⟨0, rfl, rfl⟩
theorem sim17 : Sim_17 Inv := by
  rintro sx sm v1 v2 hI
  unfold f_X6_parent f_X7_parent
  rcases doneCases hI with ⟨h1, h2⟩ | ⟨t, n, ax, cl, cc, K, pl, num, rn, cd, rdn, U, ch, hc, h1, h2, hGG, hCl, hX, hM, -⟩
  · rw [h1, h2, if_pos zero0, if_pos zero0]
    exact ⟨_, rfl, rfl, hI⟩
  · have h20 := hc.1.n20
    rw [h1, h2, if_neg one0, if_neg one0]
    rcases argP hc v1 with ⟨a, ha, rfl, h3, e1, e2⟩ | ⟨e1, e2⟩
    · rw [e1, e2, Option.bind_some, if_neg one0, if_neg one0]
      have loop : ∃ r, loopC (fun v => b_X6_parent_29 sx (nI a) v2 v.1 v.2) ((0 : Int32), nI 0) = some r ∧ loopC (fun v => b_X7_parent_26 sm (nI a) v2 v.1 v.2) ((0 : Int32), nI 0) = some r := by
        refine twin (fun k v => ∃ i, i ≤ n ∧ k = n - i ∧ v.2 = nI i) ?_ n _ ⟨0, by omega, rfl, rfl⟩
        rintro k ⟨c, v⟩ ⟨i, hi, rfl, e⟩
        dsimp only at e
        subst e
        have nx : ∀ c' s', (Sum.inl (c', nI i + 1) : (Int32 × Int32) ⊕ Int32) = Sum.inl s' → i < n → ∃ n', n' < n - i ∧ ∃ i', i' ≤ n ∧ n' = n - i' ∧ s'.2 = nI i' := fun c' s' hs hlt => ⟨n - (i + 1), by omega, i + 1, hlt, rfl, by rw [← Sum.inl.inj hs, nI_1]⟩
        show ∃ x, b_X6_parent_29 sx (nI a) v2 c (nI i) = some x ∧ b_X7_parent_26 sm (nI a) v2 c (nI i) = some x ∧ _
        unfold b_X6_parent_29 b_X7_parent_26
        rw [hc.2.1.1, hc.2.2.1.1]
        by_cases q : i = n
        · subst q
          rw [if_pos (nI_le (Nat.le_refl _) (by omega)), if_pos (nI_le (Nat.le_refl _) (by omega))]
          exact ⟨_, rfl, rfl, fun s' h => by simp at h⟩
        have hlt : i < n := by omega
        rw [if_neg (nI_ge hlt (by omega)), if_neg (nI_ge hlt (by omega))]
        rcases argP hc (nI i) with ⟨b, hb, e, q3, e0, e1⟩ | ⟨e0, e1⟩
        · have : i = b := (nI_eq (by omega) (by omega)).mp e
          subst this
          obtain ⟨r, r1, r2⟩ := par_twin hc hGG hCl hX hM ha hlt q3 e1
          rw [e0, if_neg one0, r1, r2, Option.bind_some]
          by_cases z : r = 0
          · rw [if_pos z]
            exact ⟨_, rfl, rfl, fun s' h => nx _ s' h hlt⟩
          · rw [if_neg z]
            by_cases y : c = v2
            · rw [if_pos y]
              exact ⟨_, rfl, rfl, fun s' h => by simp at h⟩
            · rw [if_neg y]
              exact ⟨_, rfl, rfl, fun s' h => nx _ s' h hlt⟩
        · have e2 : f_X7_isParent sm (nI a) (nI i) = some 0 := by
            unfold f_X7_isParent
            rw [e1, Option.bind_some, if_pos zero0]
          rw [e0, if_pos zero0, e2, Option.bind_some, if_pos zero0]
          exact ⟨_, rfl, rfl, fun s' h => nx _ s' h hlt⟩
      obtain ⟨r, r1, r2⟩ := loop
      exact ⟨r, r1, r2, hI⟩
    · rw [e1, e2, Option.bind_some, if_pos zero0, if_pos zero0]
      exact ⟨_, rfl, rfl, hI⟩
end ORDER2
