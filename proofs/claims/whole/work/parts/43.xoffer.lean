/-! the class's offers: the row keeps the least code of each place -/
abbrev NOC : Nat := 4611686018427387904
def XV (v : Nat) : Int64 := lN (if v = 0 then NOC else v - 1)
def XT (f : Nat → Int64) (S : Nat → Nat → Prop) : Prop := (∀ p c, S p c → c < NOC) ∧ ∀ p, p < 2000 → ∃ v, f p = XV v ∧ LT S p v
theorem XT.congr {f : Nat → Int64} {S S' : Nat → Nat → Prop} (h : XT f S) (e : ∀ p c, S p c ↔ S' p c) : XT f S' :=
  ⟨fun p c hc => h.1 p c ((e p c).mpr hc), fun p hp => by obtain ⟨v, h1, h2⟩ := h.2 p hp; exact ⟨v, h1, h2.congr (e p)⟩⟩
theorem LT.lt {S : Nat → Nat → Prop} {p v : Nat} (h : LT S p v) (hb : ∀ c, S p c → c < NOC) : v ≤ NOC := by
  rcases h with ⟨rfl, -⟩ | ⟨c, rfl, h1, -⟩
  · exact Nat.zero_le _
  · exact hb c h1
theorem sL_sL (st : XS) (k : Nat) (f g : Nat → Int64) : sL (sL st k f) k g = sL st k g := by
  unfold sL
  refine Prod.ext rfl ?_
  funext j
  by_cases h : j = k
  · simp [h]
  · simp [h]
section OFFER
variable {sx : XS} {num : Nat → Nat} {t : Th} {n ax : Nat}
/-- numbers by places, raised by one -/
def NumX (x : Nat → Nat → Int32) (num : Nat → Nat) : Prop := ∀ p, p < 2000 → x 9 p = nO (num p) ∧ num p ≤ 2000
theorem offer_ok (hn : NumX sx.1 num) {f : Nat → Int64} {S : Nat → Nat → Prop} (hT : XT f S) {p0 c0 : Nat} (hp : p0 < 2000) (hc : c0 < NOC) :
    Ok (f_X5_offer (sL sx 15 f) (nI p0) (lN c0)) (fun z => ∃ f', z = sL sx 15 f' ∧ XT f' (fun p c => S p c ∨ (num p = 0 ∧ p = p0 ∧ c = c0))) := by
  have hNOC : NOC = 4611686018427387904 := rfl
  obtain ⟨v, hv, hL⟩ := hT.2 p0 hp
  have hvl := hL.lt (hT.1 p0)
  unfold f_X5_offer
  have e1 : t_X6_longAt 2000 ((sL sx 15 f).2 15) (nI p0) = XV v := (longAt_nI (f := f) hp (by omega)).trans hv
  rw [e1]
  have hval : (if v = 0 then NOC else v - 1) < 2 ^ 63 := by
    split
    · decide
    · omega
  have e2 := cmp_ge (a := c0) (b := if v = 0 then NOC else v - 1) (by omega) hval
  have e3 : t_X1_saysAt (sL sx 15 f) (nI p0) = if num p0 = 0 then 0 else 1 := by
    show (if t_X6_at 2000 (sx.1 9) (nI p0) = -1 then (0 : Int32) else 1) = _
    rw [at_nI hp (by omega), (hn p0 hp).1]
    have := (hn p0 hp).2
    have e := nO_m1 (m := num p0) (by omega)
    by_cases q : num p0 = 0
    · rw [if_pos (e.mpr q), if_pos q]
    · rw [if_neg (fun z => q (e.mp z)), if_neg q]
  have bnd : ∀ p c, (S p c ∨ (num p = 0 ∧ p = p0 ∧ c = c0)) → c < NOC := by
    rintro p c (h | ⟨-, -, rfl⟩)
    · exact hT.1 p c h
    · exact hc
  refine Ok.ite (fun h => ?_) (fun h => Ok.ite (fun h2 => ?_) (fun h2 => ?_))
  · have h3 := e2.mp h
    refine Ok.some ⟨f, rfl, bnd, fun p hp2 => ?_⟩
    obtain ⟨w, g1, g2⟩ := hT.2 p hp2
    refine ⟨w, g1, ?_⟩
    by_cases hpp : num p0 = 0
    · have g3 := g2.add (p0 := p0) (c0 := c0)
      have hw : (if p = p0 ∧ (w = 0 ∨ c0 + 1 < w) then c0 + 1 else w) = w := by
        rw [if_neg]
        rintro ⟨rfl, q⟩
        have : w = v := g2.one hL
        subst this
        by_cases z : w = 0
        · rw [if_pos z] at h3; omega
        · rw [if_neg z] at h3; omega
      rw [hw] at g3
      exact g3.congr (fun c => ⟨fun z => z.elim Or.inl (fun q => Or.inr ⟨by rw [q.1]; exact hpp, q.1, q.2⟩), fun z => z.elim Or.inl (fun q => Or.inr q.2)⟩)
    · exact g2.congr (fun c => ⟨Or.inl, fun z => z.elim id (fun q => absurd (by rw [← q.2.1]; exact q.1) hpp)⟩)
  · have h3 : ¬ (if v = 0 then NOC else v - 1) ≤ c0 := fun q => h (e2.mpr q)
    have hpp : num p0 = 0 := by
      rw [e3] at h2
      by_cases q : num p0 = 0
      · exact q
      · rw [if_neg q] at h2; exact absurd h2 (by decide)
    refine Ok.bindE rfl (Ok.some ⟨t_X6_putLong 2000 f (nI p0) (lN c0), sL_sL _ _ _ _, bnd, fun p hp2 => ?_⟩)
    rw [putLong_nI hp (by omega)]
    obtain ⟨w, g1, g2⟩ := hT.2 p hp2
    have g3 := g2.add (p0 := p0) (c0 := c0)
    refine ⟨_, ?_, g3.congr (fun c => ⟨fun z => z.elim Or.inl (fun q => Or.inr ⟨by rw [q.1]; exact hpp, q.1, q.2⟩), fun z => z.elim Or.inl (fun q => Or.inr q.2)⟩)⟩
    by_cases q : p = p0
    · subst q
      have : w = v := g2.one hL
      subst this
      rw [pk_uLs, if_pos]
      · unfold XV
        rw [if_neg (by omega)]
        rfl
      · refine ⟨rfl, ?_⟩
        by_cases z : w = 0
        · exact Or.inl z
        · rw [if_neg z] at h3; exact Or.inr (by omega)
    · rw [pk_uLn q, if_neg (fun z => q z.1)]
      exact g1
  · have hpp : ¬ num p0 = 0 := by
      rw [e3] at h2
      intro q
      rw [if_pos q] at h2
      exact h2 rfl
    refine Ok.some ⟨f, rfl, bnd, fun p hp2 => ?_⟩
    obtain ⟨w, g1, g2⟩ := hT.2 p hp2
    exact ⟨w, g1, g2.congr (fun c => ⟨Or.inl, fun z => z.elim id (fun q => absurd (by rw [← q.2.1]; exact q.1) hpp)⟩)⟩
/-- no why at all is never taken -/
theorem offer_no (hn : NumX sx.1 num) {f : Nat → Int64} {S : Nat → Nat → Prop} (hT : XT f S) {p0 : Nat} (hp : p0 < 2000) :
    f_X5_offer (sL sx 15 f) (nI p0) (lN NOC) = some (sL sx 15 f) := by
  have hNOC : NOC = 4611686018427387904 := rfl
  obtain ⟨v, hv, hL⟩ := hT.2 p0 hp
  have hvl := hL.lt (hT.1 p0)
  unfold f_X5_offer
  have e1 : t_X6_longAt 2000 ((sL sx 15 f).2 15) (nI p0) = XV v := (longAt_nI (f := f) hp (by omega)).trans hv
  rw [e1, if_pos]
  have hval : (if v = 0 then NOC else v - 1) ≤ NOC := by
    split
    · exact Nat.le_refl _
    · omega
  exact (cmp_ge (by decide) (by omega)).mpr hval
theorem offer2_ok (hn : NumX sx.1 num) {f : Nat → Int64} {S : Nat → Nat → Prop} (hT : XT f S) {p0 ru f1 s1 : Nat} (hp : p0 < 2000) (h1 : ru < 9) (h2 : f1 < 2048) (h3 : s1 < 2048) :
    Ok (f_X5_offer (sL sx 15 f) (nI p0) (t_X6_whyOfTwo (nI ru) (nO f1) (nO s1))) (fun z => ∃ f', z = sL sx 15 f' ∧ XT f' (fun p c => S p c ∨ (num p = 0 ∧ p = p0 ∧ s1 ≠ 0 ∧ c = cod ru f1 s1 0))) := by
  rw [whyOfTwo_ok h1 h2 h3]
  by_cases q : s1 = 0
  · rw [if_pos q]
    exact ⟨_, offer_no hn hT hp, f, rfl, hT.congr (fun p c => ⟨Or.inl, fun z => z.elim id (fun y => absurd q y.2.2.1)⟩)⟩
  · rw [if_neg q]
    refine (offer_ok hn hT hp (cod_lt h1 h2 h3 (by omega))).mono ?_
    rintro z ⟨f', rfl, hz⟩
    exact ⟨f', rfl, hz.congr (fun p c => ⟨fun z => z.elim Or.inl (fun y => Or.inr ⟨y.1, y.2.1, q, y.2.2⟩), fun z => z.elim Or.inl (fun y => Or.inr ⟨y.1, y.2.1, y.2.2.2⟩)⟩)⟩
theorem placeIs (x d : Nat) : t_X6_placeOfIs (nI x) (nI d) = nI (100 * x + d) := by
  show nI x * nI 100 + nI d = _
  rw [nI_mul, nI_add, Nat.mul_comm]
theorem placeTo (x r y : Nat) : t_X6_placeOfTo (nI x) (nI r) (nI y) = nI (100 * x + 20 * (r + 1) + y) := by
  show nI x * nI 100 + nI 20 + nI r * nI 20 + nI y = _
  rw [nI_mul, nI_mul, nI_add, nI_add, nI_add]
  congr 1
  omega
theorem numIs_ok (hn : NumX sx.1 num) {x d : Nat} (h : 100 * x + d < 2000) : t_X1_numberOfIs sx (nI x) (nI d) = nO (num (100 * x + d)) := by
  unfold t_X1_numberOfIs
  rw [placeIs, at_nI h (by omega), (hn _ h).1]
theorem numTo_ok (hn : NumX sx.1 num) {x r y : Nat} (h : 100 * x + 20 * (r + 1) + y < 2000) : t_X1_numberOfTo sx (nI x) (nI r) (nI y) = nO (num (100 * x + 20 * (r + 1) + y)) := by
  unfold t_X1_numberOfTo
  rw [placeTo, at_nI h (by omega), (hn _ h).1]
/-- offers of what is begun -/
theorem offBegun_ok (hn : NumX sx.1 num) {f : Nat → Int64} {S : Nat → Nat → Prop} (hT : XT f S) {x f1 : Nat} (hx : x < 20) (hf : f1 < 2048) :
    Ok (f_X5_offerBegun (sL sx 15 f) (nI x) (nO f1)) (fun z => ∃ f', z = sL sx 15 f' ∧ XT f' (fun p c => S p c ∨ (num p = 0 ∧ ((p = 101 * x ∧ c = cod 0 f1 0 0) ∨ (p = 100 * x ∧ c = cod 1 f1 0 0))))) := by
  unfold f_X5_offerBegun
  have w0 : t_X6_whyOf 0 (nO f1) (-1) (-1) = lN (cod 0 f1 0 0) := by
    have := whyOf_ok (ru := 0) (s := 0) (a := 0) (by omega) hf (by omega) (by omega)
    rw [nO_0] at this; exact this
  have w1 : t_X6_whyOf 1 (nO f1) (-1) (-1) = lN (cod 1 f1 0 0) := by
    have := whyOf_ok (ru := 1) (s := 0) (a := 0) (by omega) hf (by omega) (by omega)
    rw [nO_0] at this; exact this
  rw [w0, w1, placeIs]
  have e0 : t_X6_placeOfIs (nI x) 0 = nI (100 * x + 0) := placeIs x 0
  rw [e0]
  refine Ok.bind (offer_ok hn hT (by omega) (cod_lt (by omega) hf (by omega) (by omega))) ?_
  rintro z ⟨f', rfl, hz⟩
  refine Ok.bind (offer_ok hn hz (by omega) (cod_lt (by omega) hf (by omega) (by omega))) ?_
  rintro z ⟨f2, rfl, hz2⟩
  refine Ok.some ⟨f2, rfl, hz2.congr (fun p c => ?_)⟩
  constructor
  · rintro ((h | ⟨h1, h2, h3⟩) | ⟨h1, h2, h3⟩)
    · exact Or.inl h
    · exact Or.inr ⟨h1, Or.inl ⟨by omega, h3⟩⟩
    · exact Or.inr ⟨h1, Or.inr ⟨by omega, h3⟩⟩
  · rintro (h | ⟨h1, ⟨h2, h3⟩ | ⟨h2, h3⟩⟩)
    · exact Or.inl (Or.inl h)
    · exact Or.inl (Or.inr ⟨h1, by omega, h3⟩)
    · exact Or.inr ⟨h1, by omega, h3⟩
end OFFER
