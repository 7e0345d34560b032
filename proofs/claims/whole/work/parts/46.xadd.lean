/-! the class numbers a round's conclusions by their places -/
def cn (tv : Nat → Nat) (p : Nat) : Nat := fb_ct (fun q => decide (tv q ≠ 0)) p
theorem cn_s (tv : Nat → Nat) (p : Nat) : cn tv (p + 1) = cn tv p + (if tv p ≠ 0 then 1 else 0) := by
  unfold cn
  rw [fb_ct_succ]
  by_cases h : tv p = 0 <;> simp [h]
theorem cn_mono (tv : Nat → Nat) {p q : Nat} (h : p ≤ q) : cn tv p ≤ cn tv q := fb_ct_mono _ h
theorem cn_lt {tv : Nat → Nat} {p q : Nat} (h : p < q) (hp : tv p ≠ 0) : cn tv p < cn tv q := by
  have h1 := cn_mono tv (show p + 1 ≤ q from h)
  rw [cn_s, if_pos hp] at h1
  omega
theorem add_eq {z : XS} {s p : Nat} (hs : z.1 33 0 = nI s) (hs2 : s < 2000) (hp : p < 2000) (rd : Int32) (w : Int64) :
    ∃ z', f_X1_add z (nI p) rd w = some z' ∧ (∀ k, k ≠ 9 → k ≠ 10 → k ≠ 11 → k ≠ 33 → k ≠ 34 → z'.1 k = z.1 k) ∧ (∀ k, k ≠ 12 → z'.2 k = z.2 k) ∧ z'.1 9 = upd (z.1 9) p (nI s) ∧ z'.1 10 = upd (z.1 10) s (nI p) ∧ z'.1 11 = upd (z.1 11) s rd ∧ z'.2 12 = vp_updL (z.2 12) s w ∧ z'.1 33 0 = nI (s + 1) ∧ z'.1 34 0 = rd := by
  unfold f_X1_add
  simp only [Option.bind_some]
  refine ⟨_, rfl, ?_, ?_, ?_, ?_, ?_, ?_, ?_, ?_⟩
  · intro k h9 h10 h11 h33 h34
    show (if k = 34 then _ else if k = 33 then _ else if k = 11 then _ else if k = 10 then _ else if k = 9 then _ else z.1 k) = z.1 k
    rw [if_neg h34, if_neg h33, if_neg h11, if_neg h10, if_neg h9]
  · intro k h12
    show (if k = 12 then _ else z.2 k) = z.2 k
    rw [if_neg h12]
  · show t_X6_put 2000 (z.1 9) (nI p) (z.1 33 0) = _
    rw [hs, put_nI hp (by omega)]
  · show t_X6_put 2000 (z.1 10) (z.1 33 0) (nI p) = _
    rw [hs, put_nI hs2 (by omega)]
  · show t_X6_put 2000 (z.1 11) (z.1 33 0) rd = _
    rw [hs, put_nI hs2 (by omega)]
  · show t_X6_putLong 2000 (z.2 12) (z.1 33 0) w = _
    rw [hs, putLong_nI hs2 (by omega)]
  · show z.1 33 0 + 1 = _
    rw [hs, nI_1]
  · rfl
def AddX (sx : XS) (K : Nat) (tv : Nat → Nat) (rd : Nat) (p : Nat) (z : XS) : Prop :=
  (∀ k, k ≠ 9 → k ≠ 10 → k ≠ 11 → k ≠ 33 → k ≠ 34 → z.1 k = sx.1 k) ∧ (∀ k, k ≠ 12 → z.2 k = sx.2 k) ∧ z.1 33 0 = nI (K + cn tv p) ∧ z.1 34 0 = (if cn tv p = 0 then sx.1 34 0 else nI rd) ∧
  (∀ q, q < 2000 → z.1 9 q = if q < p ∧ tv q ≠ 0 then nI (K + cn tv q) else sx.1 9 q) ∧
  (∀ j, j < K → z.1 10 j = sx.1 10 j ∧ z.1 11 j = sx.1 11 j ∧ z.2 12 j = sx.2 12 j) ∧
  (∀ q, q < p → tv q ≠ 0 → z.1 10 (K + cn tv q) = nI q ∧ z.1 11 (K + cn tv q) = nI rd ∧ z.2 12 (K + cn tv q) = lN (tv q - 1))
theorem addOff_ok {sx : XS} {tv : Nat → Nat} {K : Nat} (hf : ∀ p, p < 2000 → sx.2 15 p = XV (tv p) ∧ tv p ≤ NOC) (h33 : sx.1 33 0 = nI K) (hct : K + cn tv 2000 ≤ 2000) (rd : Nat) :
    Ok (f_X5_addOffered sx (nI rd)) (fun r => r.1 = (if cn tv 2000 = 0 then 0 else 1) ∧ AddX sx K tv rd 2000 r.2) := by
  have hNOC : NOC = 4611686018427387904 := rfl
  unfold f_X5_addOffered
  refine Ok.for (f := fun v => b_X5_addOffered_10 (nI rd) (sx.1 33 0) v.1 v.2) (i := 0) 2000 (fun i z => AddX sx K tv rd i z) ?_ ?_ (Nat.zero_le _) ?_
  · rintro i z hi ⟨h1, h2, h3, h4, h5, h6, h7⟩
    show Ok (b_X5_addOffered_10 (nI rd) (sx.1 33 0) (nI i) z) _
    unfold b_X5_addOffered_10
    refine Ok.ifn (show ¬ (2000 : Int32) ≤ nI i from nI_ge (b := 2000) hi (by omega)) ?_
    obtain ⟨g1, g2⟩ := hf i hi
    have e15 : z.2 15 i = XV (tv i) := by rw [h2 15 (by omega)]; exact g1
    refine Ok.bindE (rd_nI hi (by omega)) ?_
    rw [e15]
    have hval : (if tv i = 0 then NOC else tv i - 1) < 2 ^ 63 := by
      split
      · omega
      · omega
    have ec : lg_cmp (XV (tv i)) 4611686018427387904 = 0 ↔ (if tv i = 0 then NOC else tv i - 1) = NOC := cmp_eq (b := NOC) hval (by omega)
    by_cases q : tv i = 0
    · rw [if_pos q] at ec
      refine Ok.ifp (ec.mpr rfl) (Ok.go ⟨nI_1 i, h1, h2, ?_, ?_, fun q2 hq2 => ?_, h6, fun q2 hq2 hne => ?_⟩)
      · rw [h3, cn_s, if_neg (fun z => z q)]; rfl
      · have e : cn tv (i + 1) = cn tv i := by rw [cn_s, if_neg (fun z => z q)]; rfl
        rw [e]; exact h4
      · rw [h5 q2 hq2]
        by_cases z : q2 < i ∧ tv q2 ≠ 0
        · rw [if_pos z, if_pos ⟨by omega, z.2⟩]
        · rw [if_neg z, if_neg]
          rintro ⟨y1, y2⟩
          have : q2 = i := by
            apply Classical.byContradiction
            intro y
            exact z ⟨by omega, y2⟩
          subst this
          exact y2 q
      · have : q2 ≠ i := fun z => hne (by rw [z]; exact q)
        exact h7 q2 (by omega) hne
    · rw [if_neg q] at ec
      refine Ok.ifn (fun z => by have := ec.mp z; omega) ?_
      refine Ok.bindE (rd_nI hi (by omega)) ?_
      rw [e15]
      have hlt : cn tv i < cn tv 2000 := cn_lt hi q
      obtain ⟨z', e, a1, a2, a3, a4, a5, a6, a7, a8⟩ := add_eq h3 (by omega) hi (nI rd) (XV (tv i))
      refine Ok.bindE e (Ok.go ⟨nI_1 i, ?_, ?_, ?_, ?_, fun q2 hq2 => ?_, fun j hj => ?_, fun q2 hq2 hne => ?_⟩)
      · intro k h9 h10 h11 h33 h34
        rw [a1 k h9 h10 h11 h33 h34]
        exact h1 k h9 h10 h11 h33 h34
      · intro k h12
        rw [a2 k h12]
        exact h2 k h12
      · rw [a7, cn_s, if_pos q]; rfl
      · rw [a8, cn_s, if_pos q, if_neg (by omega)]
      · rw [a3]
        by_cases y : q2 = i
        · subst y
          rw [pk_us, if_pos ⟨by omega, q⟩]
        · rw [pk_un y, h5 q2 hq2]
          by_cases z : q2 < i ∧ tv q2 ≠ 0
          · rw [if_pos z, if_pos ⟨by omega, z.2⟩]
          · rw [if_neg z, if_neg]
            rintro ⟨y1, y2⟩
            exact z ⟨by omega, y2⟩
      · obtain ⟨b1, b2, b3⟩ := h6 j hj
        refine ⟨?_, ?_, ?_⟩
        · rw [a4, pk_un (by omega)]; exact b1
        · rw [a5, pk_un (by omega)]; exact b2
        · rw [a6, pk_uLn (by omega)]; exact b3
      · by_cases y : q2 = i
        · subst y
          refine ⟨?_, ?_, ?_⟩
          · rw [a4, pk_us]
          · rw [a5, pk_us]
          · rw [a6, pk_uLs]
            unfold XV
            rw [if_neg q]
        · have hlt2 : cn tv q2 < cn tv i := cn_lt (by omega) hne
          obtain ⟨b1, b2, b3⟩ := h7 q2 (by omega) hne
          refine ⟨?_, ?_, ?_⟩
          · rw [a4, pk_un (by omega)]; exact b1
          · rw [a5, pk_un (by omega)]; exact b2
          · rw [a6, pk_uLn (by omega)]; exact b3
  · rintro z ⟨h1, h2, h3, h4, h5, h6, h7⟩
    show Ok (b_X5_addOffered_10 (nI rd) (sx.1 33 0) (nI 2000) z) _
    unfold b_X5_addOffered_10
    refine Ok.ifp (show (2000 : Int32) ≤ nI 2000 from nI_le (a := 2000) (Nat.le_refl _) (by omega)) ?_
    rw [h3, h33]
    by_cases q : cn tv 2000 = 0
    · refine Ok.ifp (by rw [q]; exact nI_le (Nat.le_refl _) (by omega)) (Ok.end ⟨by rw [if_pos q], h1, h2, h3, h4, h5, h6, h7⟩)
    · refine Ok.ifn (nI_ge (by omega) (by omega)) (Ok.end ⟨by rw [if_neg q], h1, h2, h3, h4, h5, h6, h7⟩)
  · refine ⟨fun k _ _ _ _ _ => rfl, fun k _ => rfl, h33, ?_, fun q hq => ?_, fun j hj => ⟨rfl, rfl, rfl⟩, fun q hq => absurd hq (Nat.not_lt_zero q)⟩
    · exact (if_pos (show cn tv 0 = 0 from rfl)).symm
    · rw [if_neg (by rintro ⟨z, -⟩; omega)]
