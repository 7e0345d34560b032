/-! roles: what goes under what, and the chains -/
def uA (t : Th) : Nat → Nat → Nat → Bool
  | 0 => fun r s => decide (r = s)
  | a + 1 => fun r s => uA t a r s || decide (t 7 a = 1 ∧ t 3 a = 1 ∧ t 4 a = r ∧ t 5 a = s)
def wS (U : Nat → Nat → Bool) (j i : Nat) : Nat → Nat → Nat → Bool
  | 0 => U
  | s + 1 => fun a b => if a = i ∧ b = s then (wS U j i s i s || (wS U j i s i j && wS U j i s j s)) else wS U j i s a b
def wI (U : Nat → Nat → Bool) (j : Nat) : Nat → Nat → Nat → Bool
  | 0 => U
  | i + 1 => wS (wI U j i) j i 4
def wJ (U : Nat → Nat → Bool) : Nat → Nat → Nat → Bool
  | 0 => U
  | j + 1 => wI (wJ U j) j 4
/-- what goes under what -/
def uT (t : Th) (ax : Nat) : Nat → Nat → Bool := wJ (uA t ax) 4
section ROLES
variable {t : Th} {n ax : Nat}
theorem xput6 {f : Nat → Int32} {r s : Nat} (hr : r < 4) (hs : s < 4) (v : Int32) : t_X6_put 16 f (nI r * 4 + nI s) v = upd f (4 * r + s) v := by
  show t_X6_put 16 f (nI r * nI 4 + nI s) v = _
  rw [nI_mul, nI_add, Nat.mul_comm r 4, put_nI (by omega) (by omega)]
def Fr6 (x z : XS) : Prop := (∀ k, k ≠ 6 → k ≠ 7 → z.1 k = x.1 k) ∧ ∀ k, z.2 k = x.2 k
theorem Fr6.sA6 {x z : XS} (h : Fr6 x z) (f : Nat → Int32) : Fr6 x (sA z 6 f) := ⟨fun k h6 h7 => by show (if k = 6 then _ else z.1 k) = _; rw [if_neg h6]; exact h.1 k h6 h7, h.2⟩
theorem Fr6.sA7 {x z : XS} (h : Fr6 x z) (f : Nat → Int32) : Fr6 x (sA z 7 f) := ⟨fun k h6 h7 => by show (if k = 7 then _ else z.1 k) = _; rw [if_neg h7]; exact h.1 k h6 h7, h.2⟩
theorem Fr6.xn {x z : XS} (h : Fr6 x z) (hN : XN x.1 t n ax) : XN z.1 t n ax := by
  obtain ⟨h1, h2, h3, h4⟩ := hN
  refine ⟨?_, ?_, fun i hi => ?_, fun a ha => ?_⟩
  · rw [h.1 30 (by omega) (by omega)]; exact h1
  · rw [h.1 32 (by omega) (by omega)]; exact h2
  · rw [h.1 2 (by omega) (by omega)]; exact h3 i hi
  · rw [h.1 4 (by omega) (by omega)]; exact h4 a ha
theorem XU.set {z : XS} {U : Nat → Nat → Bool} (h : XU z.1 U) {i s : Nat} (hi : i < 4) (hs : s < 4) : XU (sA z 6 (upd (z.1 6) (4 * i + s) 1)).1 (fun a b => if a = i ∧ b = s then true else U a b) := by
  intro a b ha hb
  show upd (z.1 6) (4 * i + s) 1 (4 * a + b) = _
  by_cases q : a = i ∧ b = s
  · obtain ⟨rfl, rfl⟩ := q
    rw [pk_us]
    simp
  · rw [pk_un (by omega), h a b ha hb]
    simp [q]
theorem XU.congr {x : Nat → Nat → Int32} {U U' : Nat → Nat → Bool} (h : XU x U) (e : ∀ a b, a < 4 → b < 4 → U a b = U' a b) : XU x U' := fun a b ha hb => by rw [← e a b ha hb]; exact h a b ha hb
theorem join_ok {x0 z : XS} {U : Nat → Nat → Bool} {j : Nat} (hj : j < 4) (hf : Fr6 x0 z) (h : XU z.1 U) (h7 : z.1 7 = x0.1 7) :
    Ok (f_X4_joinThrough z (nI j)) (fun z' => Fr6 x0 z' ∧ XU z'.1 (wI U j 4) ∧ z'.1 7 = x0.1 7) := by
  unfold f_X4_joinThrough
  refine Ok.for (f := fun v => b_X4_joinThrough_2 (nI j) v.1 v.2) (i := 0) 4 (fun i z => Fr6 x0 z ∧ XU z.1 (wI U j i) ∧ z.1 7 = x0.1 7) ?_ ?_ (Nat.zero_le _) ⟨hf, h, h7⟩
  · rintro i z hi ⟨hf, h, h7⟩
    show Ok (b_X4_joinThrough_2 (nI j) (nI i) z) _
    unfold b_X4_joinThrough_2
    refine Ok.ifn (show ¬ (4 : Int32) ≤ nI i from nI_ge (b := 4) hi (by omega)) ?_
    refine Ok.for (f := fun v => b_X4_joinThrough_9 (nI j) (nI i) v.1 v.2) (i := 0) 4 (fun s z => Fr6 x0 z ∧ XU z.1 (wS (wI U j i) j i s) ∧ z.1 7 = x0.1 7) ?_ ?_ (Nat.zero_le _) ⟨hf, h, h7⟩
    · rintro s z hs ⟨hf, h, h7⟩
      show Ok (b_X4_joinThrough_9 (nI j) (nI i) (nI s) z) _
      unfold b_X4_joinThrough_9
      refine Ok.ifn (show ¬ (4 : Int32) ≤ nI s from nI_ge (b := 4) hs (by omega)) ?_
      rw [under_ok h hi hj, under_ok h hj hs, xput6 hi hs]
      by_cases q1 : wS (wI U j i) j i s i j = true
      · rw [if_pos q1]
        refine Ok.ifn (by decide) ?_
        by_cases q2 : wS (wI U j i) j i s j s = true
        · rw [if_pos q2]
          refine Ok.ifn (by decide) (Ok.bindE rfl (Ok.go ⟨nI_1 s, hf.sA6 _, (h.set hi hs).congr (fun a b _ _ => ?_), h7⟩))
          show _ = (if a = i ∧ b = s then (wS (wI U j i) j i s i s || (wS (wI U j i) j i s i j && wS (wI U j i) j i s j s)) else wS (wI U j i) j i s a b)
          rw [q1, q2]
          simp
        · rw [if_neg q2]
          refine Ok.ifp rfl (Ok.go ⟨nI_1 s, hf, h.congr (fun a b _ _ => ?_), h7⟩)
          show _ = (if a = i ∧ b = s then (wS (wI U j i) j i s i s || (wS (wI U j i) j i s i j && wS (wI U j i) j i s j s)) else wS (wI U j i) j i s a b)
          have q2' : wS (wI U j i) j i s j s = false := by simpa using q2
          rw [q2']
          split
          · rename_i w; rw [w.1, w.2]; simp
          · rfl
      · rw [if_neg q1]
        refine Ok.ifp rfl (Ok.go ⟨nI_1 s, hf, h.congr (fun a b _ _ => ?_), h7⟩)
        show _ = (if a = i ∧ b = s then (wS (wI U j i) j i s i s || (wS (wI U j i) j i s i j && wS (wI U j i) j i s j s)) else wS (wI U j i) j i s a b)
        have q1' : wS (wI U j i) j i s i j = false := by simpa using q1
        rw [q1']
        split
        · rename_i w; rw [w.1, w.2]; simp
        · rfl
    · rintro z hz
      show Ok (b_X4_joinThrough_9 (nI j) (nI i) (nI 4) z) _
      unfold b_X4_joinThrough_9
      exact Ok.ifp (show (4 : Int32) ≤ nI 4 from nI_le (a := 4) (Nat.le_refl _) (by omega)) (Ok.end (Or.inl ⟨_, rfl, nI_1 i, hz⟩))
  · rintro z hz
    show Ok (b_X4_joinThrough_2 (nI j) (nI 4) z) _
    unfold b_X4_joinThrough_2
    exact Ok.ifp (show (4 : Int32) ≤ nI 4 from nI_le (a := 4) (Nat.le_refl _) (by omega)) (Ok.end hz)
def XLC (x : Nat → Nat → Int32) (t : Th) (U : Nat → Nat → Bool) (lim : Nat → Nat → Nat) : Prop := ∀ r s u, r < 4 → s < 4 → u < 4 → ∃ v, x 7 (16 * r + 4 * s + u) = nO v ∧ LC (CA t U r s u) (lim r s) v
theorem LC.miss {C : Nat → Prop} {a v : Nat} (h : LC C a v) (hc : ¬ C a) : LC C (a + 1) v := by
  rcases h with ⟨rfl, h⟩ | ⟨b, hb, rfl, h1, h2⟩
  · refine Or.inl ⟨rfl, fun b hb => ?_⟩
    by_cases e : b = a
    · subst e; exact hc
    · exact h b (by omega)
  · exact Or.inr ⟨b, by omega, rfl, h1, h2⟩
theorem LC.hit {C : Nat → Prop} {a : Nat} (h : LC C a 0) (hc : C a) : LC C (a + 1) (a + 1) := by
  rcases h with ⟨-, h⟩ | ⟨b, hb, w, h1, h2⟩
  · exact Or.inr ⟨a, by omega, rfl, hc, h⟩
  · omega
theorem LC.old {C : Nat → Prop} {a v : Nat} (h : LC C a v) (hv : v ≠ 0) : LC C (a + 1) v := by
  rcases h with ⟨rfl, h⟩ | ⟨b, hb, rfl, h1, h2⟩
  · exact absurd rfl hv
  · exact Or.inr ⟨b, by omega, rfl, h1, h2⟩
theorem LC.le {C : Nat → Prop} {a v : Nat} (h : LC C a v) : v ≤ a := by
  rcases h with ⟨rfl, h⟩ | ⟨b, hb, rfl, h1, h2⟩ <;> omega
theorem XLC.congr {x : Nat → Nat → Int32} {U : Nat → Nat → Bool} {l l' : Nat → Nat → Nat} (h : XLC x t U l) (e : ∀ r s, r < 4 → s < 4 → l r s = l' r s) : XLC x t U l' := fun r s u hr hs hu => by rw [← e r s hr hs]; exact h r s u hr hs hu
theorem learnChain_ok {x0 z : XS} {U : Nat → Nat → Bool} {a : Nat} (ha : a < 40) (h7 : t 7 a = 1) (h3 : t 3 a = 2) (h4 : t 4 a < 4) (h5 : t 5 a < 4) (h6 : t 6 a < 4) (hf : Fr6 x0 z) (hU : XU z.1 U) (h : XLC z.1 t U (fun _ _ => a)) :
    Ok (f_X4_learnChain z (nI a) (nI (t 4 a)) (nI (t 5 a)) (nI (t 6 a))) (fun z' => Fr6 x0 z' ∧ XU z'.1 U ∧ XLC z'.1 t U (fun _ _ => a + 1)) := by
  unfold f_X4_learnChain
  refine Ok.for (f := fun v => b_X4_learnChain_3 (nI a) (nI (t 4 a)) (nI (t 5 a)) (nI (t 6 a)) v.1 v.2) (i := 0) 4 (fun i z => Fr6 x0 z ∧ XU z.1 U ∧ XLC z.1 t U (fun r _ => if r < i then a + 1 else a)) ?_ ?_ (Nat.zero_le _) ⟨hf, hU, h.congr (fun r s _ _ => by rw [if_neg (by omega)])⟩
  · rintro i z hi ⟨hf, hU, h⟩
    show Ok (b_X4_learnChain_3 _ _ _ _ (nI i) z) _
    unfold b_X4_learnChain_3
    refine Ok.ifn (show ¬ (4 : Int32) ≤ nI i from nI_ge (b := 4) hi (by omega)) ?_
    refine Ok.for (f := fun v => b_X4_learnChain_12 (nI a) (nI (t 4 a)) (nI (t 5 a)) (nI (t 6 a)) (nI i) v.1 v.2) (i := 0) 4 (fun j z => Fr6 x0 z ∧ XU z.1 U ∧ XLC z.1 t U (fun r s => if r < i ∨ (r = i ∧ s < j) then a + 1 else a)) ?_ ?_ (Nat.zero_le _) ⟨hf, hU, h.congr (fun r s _ _ => ?_)⟩
    · rintro j z hj ⟨hf, hU, h⟩
      show Ok (b_X4_learnChain_12 (nI a) (nI (t 4 a)) (nI (t 5 a)) (nI (t 6 a)) (nI i) (nI j) z) _
      unfold b_X4_learnChain_12
      refine Ok.ifn (show ¬ (4 : Int32) ≤ nI j from nI_ge (b := 4) hj (by omega)) ?_
      have lims : ∀ r s, r < 4 → s < 4 → ¬ (r = i ∧ s = j) → (if r < i ∨ (r = i ∧ s < j) then a + 1 else a) = (if r < i ∨ (r = i ∧ s < j + 1) then a + 1 else a) := by
        intro r s hr hs hne
        by_cases q : r < i ∨ (r = i ∧ s < j)
        · rw [if_pos q, if_pos (by omega)]
        · rw [if_neg q, if_neg (by omega)]
      have limn : (if i < i ∨ (i = i ∧ j < j) then a + 1 else a) = a := if_neg (by omega)
      have limy : (if i < i ∨ (i = i ∧ j < j + 1) then a + 1 else a) = a + 1 := if_pos (by omega)
      have hmiss : (∀ u, u < 4 → ¬ CA t U i j u a) → XLC z.1 t U (fun r s => if r < i ∨ (r = i ∧ s < j + 1) then a + 1 else a) := by
        intro hm r s u hr hs hu
        obtain ⟨v, v1, v2⟩ := h r s u hr hs hu
        refine ⟨v, v1, ?_⟩
        by_cases q : r = i ∧ s = j
        · obtain ⟨rfl, rfl⟩ := q
          replace v2 := (congrArg (fun w => LC (CA t U _ _ _) w _) limn).mp v2
          refine (congrArg (fun w => LC (CA t U _ _ _) w _) limy).mpr ?_
          exact v2.miss (hm u hu)
        · exact (congrArg (fun w => LC (CA t U _ _ _) w _) (lims r s hr hs q)).mp v2
      rw [under_ok hU hi h4]
      by_cases q4 : U i (t 4 a) = true
      · rw [if_pos q4]
        refine Ok.ifn (by decide) ?_
        rw [under_ok hU hj h5]
        by_cases q5 : U j (t 5 a) = true
        · rw [if_pos q5]
          refine Ok.ifn (by decide) ?_
          have hca : ∀ u, u < 4 → (CA t U i j u a ↔ u = t 6 a) := fun u hu => ⟨fun w => w.2.2.2.2.symm, fun w => ⟨h7, h3, q4, q5, w.symm⟩⟩
          obtain ⟨v, v1, v2⟩ := h i j (t 6 a) hi hj h6
          replace v2 := (congrArg (fun w => LC (CA t U _ _ _) w _) limn).mp v2
          have epl : t_X4_placeOfChain (nI i) (nI j) (nI (t 6 a)) = nI (16 * i + 4 * j + t 6 a) := by
            show (nI i * nI 4 + nI j) * nI 4 + nI (t 6 a) = _
            rw [nI_mul, nI_add, nI_mul, nI_add]
            congr 1
            omega
          have ech : t_X4_axiomOfChain z (nI i) (nI j) (nI (t 6 a)) = nO v := by
            unfold t_X4_axiomOfChain
            rw [epl, at_nI (by omega) (by omega)]
            exact v1
          rw [ech, epl]
          have hvle := v2.le
          by_cases qv : v = 0
          · subst qv
            refine Ok.ifp nO_0 (Ok.bindE rfl (Ok.go ⟨nI_1 j, hf.sA7 _, hU, fun r s u hr hs hu => ?_⟩))
            show ∃ v, t_X6_put 64 (z.1 7) (nI (16 * i + 4 * j + t 6 a)) (nI a) (16 * r + 4 * s + u) = nO v ∧ _
            rw [put_nI (by omega) (by omega)]
            by_cases q : r = i ∧ s = j ∧ u = t 6 a
            · obtain ⟨rfl, rfl, rfl⟩ := q
              refine ⟨a + 1, ?_, ?_⟩
              · rw [pk_us, nO_s]
              · refine (congrArg (fun w => LC (CA t U _ _ _) w _) limy).mpr ?_
                exact v2.hit ((hca _ hu).mpr rfl)
            · rw [pk_un (by omega)]
              obtain ⟨v', w1, w2⟩ := h r s u hr hs hu
              refine ⟨v', w1, ?_⟩
              by_cases q2 : r = i ∧ s = j
              · obtain ⟨rfl, rfl⟩ := q2
                replace w2 := (congrArg (fun w => LC (CA t U _ _ _) w _) limn).mp w2
                refine (congrArg (fun w => LC (CA t U _ _ _) w _) limy).mpr ?_
                exact w2.miss (fun w => q ⟨rfl, rfl, (hca u hu).mp w⟩)
              · exact (congrArg (fun w => LC (CA t U _ _ _) w _) (lims r s hr hs q2)).mp w2
          · refine Ok.ifn (fun w => qv ((nO_m1 (by omega)).mp w)) (Ok.go ⟨nI_1 j, hf, hU, fun r s u hr hs hu => ?_⟩)
            obtain ⟨v', w1, w2⟩ := h r s u hr hs hu
            refine ⟨v', w1, ?_⟩
            by_cases q2 : r = i ∧ s = j
            · obtain ⟨rfl, rfl⟩ := q2
              replace w2 := (congrArg (fun w => LC (CA t U _ _ _) w _) limn).mp w2
              refine (congrArg (fun w => LC (CA t U _ _ _) w _) limy).mpr ?_
              by_cases q3 : u = t 6 a
              · subst q3
                have : v' = v := nO_inj (by have := w2.le; omega) (by omega) (w1.symm.trans v1)
                subst this
                exact w2.old qv
              · exact w2.miss (fun w => q3 ((hca u hu).mp w))
            · exact (congrArg (fun w => LC (CA t U _ _ _) w _) (lims r s hr hs q2)).mp w2
        · rw [if_neg q5]
          exact Ok.ifp rfl (Ok.go ⟨nI_1 j, hf, hU, hmiss (fun u _ w => q5 w.2.2.2.1)⟩)
      · rw [if_neg q4]
        exact Ok.ifp rfl (Ok.go ⟨nI_1 j, hf, hU, hmiss (fun u _ w => q4 w.2.2.1)⟩)
    · rintro z ⟨hf, hU, h⟩
      show Ok (b_X4_learnChain_12 (nI a) (nI (t 4 a)) (nI (t 5 a)) (nI (t 6 a)) (nI i) (nI 4) z) _
      unfold b_X4_learnChain_12
      refine Ok.ifp (show (4 : Int32) ≤ nI 4 from nI_le (a := 4) (Nat.le_refl _) (by omega)) (Ok.end (Or.inl ⟨_, rfl, nI_1 i, hf, hU, h.congr (fun r s hr hs => ?_)⟩))
      by_cases q : r < i ∨ (r = i ∧ s < 4)
      · rw [if_pos q, if_pos (by omega)]
      · rw [if_neg q, if_neg (by omega)]
    · by_cases q : r < i
      · rw [if_pos q, if_pos (Or.inl q)]
      · rw [if_neg q, if_neg (by omega)]
  · rintro z ⟨hf, hU, h⟩
    show Ok (b_X4_learnChain_3 _ _ _ _ (nI 4) z) _
    unfold b_X4_learnChain_3
    exact Ok.ifp (show (4 : Int32) ≤ nI 4 from nI_le (a := 4) (Nat.le_refl _) (by omega)) (Ok.end ⟨hf, hU, h.congr (fun r s hr _ => by rw [if_pos hr])⟩)
end ROLES
