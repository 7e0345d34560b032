/-! one round more, on both sides -/
theorem LT.ex (S : Nat → Nat → Prop) (p : Nat) : ∃ v, LT S p v := by
  classical
  by_cases h : ∃ c, S p c
  · obtain ⟨c, hc⟩ := h
    induction c using Nat.strongRecOn with
    | _ c ih =>
      by_cases q : ∃ d, d < c ∧ S p d
      · obtain ⟨d, hd, hs⟩ := q
        exact ih d hd hs
      · refine ⟨c + 1, Or.inr ⟨c, rfl, hc, fun d hd => ?_⟩⟩
        apply Classical.byContradiction
        intro w
        exact q ⟨d, by omega, hd⟩
  · exact ⟨0, Or.inl ⟨rfl, fun c hc => h ⟨c, hc⟩⟩⟩
/-- begun: a seed, or what something goes to -/
def Beg (t : Th) (pl : Nat → Nat) (K x : Nat) : Prop := sd t x ∨ ∃ k, k < K ∧ isTo pl k x
def CS (t : Th) (n K : Nat) (pl num cd : Nat → Nat) : Prop := PN n K pl num ∧ (∀ k, k < K → ∃ ru f s a, cd k = cod ru f s a ∧ ru < 9 ∧ f ≤ k ∧ s ≤ k ∧ a ≤ 40) ∧ K = fb_ct (fun q => decide (num q ≠ 0)) 2000 ∧ ∀ k, k < K → Beg t pl K (sb (pl k))
def XC (x : XS) (K : Nat) (pl num rn cd : Nat → Nat) (rd : Nat) : Prop := x.1 33 0 = nI K ∧ x.1 34 0 = nI rd ∧ (∀ k, k < K → x.1 10 k = nI (pl k) ∧ x.1 11 k = nI (rn k) ∧ x.2 12 k = lN (cd k)) ∧ NumX x.1 num
def MC (m : MS) (n K : Nat) (pl num rn cd : Nat → Nat) (rd : Nat) : Prop := m 13 0 = nI K ∧ m 14 0 = nI rd ∧ (∀ k, k < K → FE m k (pl k) (rn k) (cd k)) ∧ ∀ x r y, x < n → r < 5 → y < n → m (tk r) (mq x r y) = nO (num (100 * x + 20 * r + y))
def FrX (x z : XS) : Prop := (∀ k, k ≠ 9 → k ≠ 10 → k ≠ 11 → k ≠ 33 → k ≠ 34 → z.1 k = x.1 k) ∧ ∀ k, k ≠ 12 → k ≠ 15 → z.2 k = x.2 k
def FrR (m z : MS) : Prop := (∀ k, k < 13 ∨ 27 < k → z k = m k) ∧ z 26 = m 26
theorem FrX.trans {x y z : XS} (h1 : FrX x y) (h2 : FrX y z) : FrX x z := ⟨fun k a b c d e => (h2.1 k a b c d e).trans (h1.1 k a b c d e), fun k a b => (h2.2 k a b).trans (h1.2 k a b)⟩
theorem FrR.trans {x y z : MS} (h1 : FrR x y) (h2 : FrR y z) : FrR x z := ⟨fun k h => (h2.1 k h).trans (h1.1 k h), h2.2.trans h1.2⟩
section JOINT
variable {t : Th} {n ax : Nat} {U : Nat → Nat → Bool} {ch : Nat → Nat → Nat → Nat}
theorem MC.bc {m : MS} {K rd : Nat} {pl num rn cd : Nat → Nat} (hN : MN m t n ax) (hU : MU m U) (h : MC m n K pl num rn cd rd) : BC m t n ax K pl num U := by
  obtain ⟨h1, h2, h3, h4⟩ := h
  refine ⟨hN, h1, fun k hk => ?_, ⟨fun x d hx hd => ?_, fun x r y hx hr hy => ?_⟩, hU⟩
  · obtain ⟨a0, a1, a2, a3, -⟩ := h3 k hk
    exact ⟨a0, a1, a2, a3⟩
  · have := h4 x 0 d hx (by omega) hd
    rw [show 100 * x + 20 * 0 + d = 100 * x + d by omega] at this
    exact this
  · exact h4 x (r + 1) y hx (by omega) hy
theorem sx_beg (hw : Wf t n ax) {K : Nat} {pl num : Nat → Nat} (hb : ∀ k, k < K → Beg t pl K (sb (pl k))) (ho : ∀ k, k < K → ob (pl k) < n) {p c : Nat} (h : SX num t n ax U ch pl K p c) : Beg t pl K (sb p) := by
  have h20 := hw.n20
  have h2n := hw.n2
  have sbe : ∀ x d, d < 100 → p = 100 * x + d → sb p = x := by
    rintro x d hd rfl
    unfold sb
    omega
  rcases h with ⟨x, hx, hs, h0, h⟩ | ⟨k, hk, ⟨q, h⟩ | ⟨q, h⟩⟩
  · have e : sb p = x := by
      rcases h with ⟨hp, -⟩ | ⟨hp, -⟩
      · exact sbe x x (by omega) (by omega)
      · exact sbe x 0 (by omega) (by omega)
    rw [e]
    exact Or.inl hs
  · have po := ho k hk
    have e : sb p = sb (pl k) := by
      rcases h with ⟨h0, ⟨h3, hp, hc⟩ | ⟨h4, hp, hc⟩⟩ | ⟨m, hm, h0, h3, h1, h2, hp, hc⟩ | ⟨a, ha, h0, h7, h3, h4, hp, hc⟩
      · have hm := hw.meet po h3
        rcases hp with hp | hp
        · exact sbe _ _ (by omega) hp
        · exact sbe _ _ (by omega) hp
      · have hm := hw.has po h4
        exact sbe _ (20 * (t 1 (ob (pl k)) + 1) + t 2 (ob (pl k))) (by omega) (by omega)
      · exact sbe _ _ (by omega) hp
      · have hwa := hw.ax ha
        exact sbe _ _ (by omega) hp
    rw [e]
    exact hb k hk
  · have po := ho k hk
    rcases h with ⟨h0, h⟩ | ⟨h, hh, h0, h4, hu, h2, hp, hc⟩ | ⟨h0, h1, hp, hc⟩ | ⟨s, hs, u, hu, z, hz, h0, h1, h2, hp, hc⟩
    · have e : sb p = ob (pl k) := by
        rcases h with ⟨hp, -⟩ | ⟨hp, -⟩
        · exact sbe _ (ob (pl k)) (by omega) (by omega)
        · exact sbe _ 0 (by omega) (by omega)
      rw [e]
      exact Or.inr ⟨k, hk, q, rfl⟩
    · rw [sbe _ _ (by omega) hp]
      exact hb k hk
    · rw [sbe _ _ (by omega) hp]
      exact hb k hk
    · rw [sbe (sb (pl k)) (20 * (u + 1) + z) (by omega) (by omega)]
      exact hb k hk
theorem Beg.mono {K K' : Nat} {pl pl' : Nat → Nat} {x : Nat} (h : Beg t pl K x) (hK : K ≤ K') (e : ∀ k, k < K → pl' k = pl k) : Beg t pl' K' x := by
  rcases h with h | ⟨k, hk, h1, h2⟩
  · exact Or.inl h
  · refine Or.inr ⟨k, by omega, ?_, ?_⟩
    · rw [e k hk]; exact h1
    · rw [e k hk]; exact h2
/-- what is concluded grows -/
theorem grow {K rd : Nat} {pl num rn cd tv : Nat → Nat} (hw : Wf t n ax) (hC : ChS t ax U ch) (hG : CS t n K pl num cd) (hS : ∀ p, LT (SX num t n ax U ch pl K) p (tv p)) :
    K + cn tv 2000 ≤ 2000 ∧ (∀ p, tv p ≠ 0 → num p = 0 ∧ p < 2000 ∧ sb p < n ∧ ob p < n) ∧ ∃ pl' num' rn' cd' : Nat → Nat, CS t n (K + cn tv 2000) pl' num' cd' ∧
      (∀ k, k < K → pl' k = pl k ∧ rn' k = rn k ∧ cd' k = cd k) ∧ (∀ q, q < 2000 → tv q ≠ 0 → pl' (K + cn tv q) = q ∧ rn' (K + cn tv q) = rd ∧ cd' (K + cn tv q) = tv q - 1) ∧
      (∀ q, num' q = if tv q ≠ 0 then K + cn tv q + 1 else num q) ∧ ∀ k, K ≤ k → k < K + cn tv 2000 → ∃ q, q < 2000 ∧ tv q ≠ 0 ∧ k = K + cn tv q := by
  classical
  obtain ⟨hP, hcd, hct, hbg⟩ := hG
  have hsb : ∀ p, tv p ≠ 0 → Beg t pl K (sb p) := by
    intro p hne
    rcases hS p with ⟨w, -⟩ | ⟨c, w, hc, -⟩
    · exact absurd w hne
    · exact sx_beg hw hbg (fun k hk => (hP.2.1 k hk).2.1) hc
  have hat : ∀ p, tv p ≠ 0 → num p = 0 ∧ p < 2000 ∧ sb p < n ∧ ob p < n ∧ ∃ ru f s a, tv p - 1 = cod ru f s a ∧ ru < 9 ∧ f ≤ K ∧ s ≤ K ∧ a ≤ 40 := by
    intro p hne
    rcases hS p with ⟨w, -⟩ | ⟨c, w, hc, -⟩
    · exact absurd w hne
    · have e : tv p - 1 = c := by omega
      rw [e]
      exact sx_at hw hP hC hc
  have hor : fb_ct (fun q => decide (num q ≠ 0) || decide (tv q ≠ 0)) 2000 = K + cn tv 2000 := by
    have := fb_ct_or (p := fun q => decide (num q ≠ 0)) (q := fun q => decide (tv q ≠ 0)) (n := 2000) (fun k hk h => by
      obtain ⟨h1, h2⟩ := h
      exact (of_decide_eq_true h1) (hat k (of_decide_eq_true h2)).1)
    rw [this, ← hct]
    rfl
  have hle : K + cn tv 2000 ≤ 2000 := by rw [← hor]; exact fb_ct_le _ _
  have hex : ∀ k, K ≤ k → k < K + cn tv 2000 → ∃ q, q < 2000 ∧ tv q ≠ 0 ∧ k = K + cn tv q := by
    intro k h1 h2
    obtain ⟨i, hi, hp, hc⟩ := fb_ct_kth (p := fun q => decide (tv q ≠ 0)) (k := k - K) (n := 2000) (show k - K < cn tv 2000 by omega)
    have : cn tv i = k - K := hc
    exact ⟨i, hi, of_decide_eq_true hp, by omega⟩
  refine ⟨hle, fun p h => by obtain ⟨a, b, c, d, -⟩ := hat p h; exact ⟨a, b, c, d⟩, ?_⟩
  let at' : Nat → Nat := fun k => if h : ∃ q, q < 2000 ∧ tv q ≠ 0 ∧ k = K + cn tv q then Classical.choose h else 0
  have hat' : ∀ q, q < 2000 → tv q ≠ 0 → at' (K + cn tv q) = q := by
    intro q hq hne
    have h : ∃ q', q' < 2000 ∧ tv q' ≠ 0 ∧ K + cn tv q = K + cn tv q' := ⟨q, hq, hne, rfl⟩
    have e : at' (K + cn tv q) = Classical.choose h := dif_pos h
    rw [e]
    obtain ⟨g1, g2, g3⟩ := Classical.choose_spec h
    refine fb_ct_kth_one (p := fun q => decide (tv q ≠ 0)) (decide_eq_true g2) (decide_eq_true hne) ?_
    show cn tv _ = cn tv q
    omega
  refine ⟨fun k => if k < K then pl k else at' k, fun q => if tv q ≠ 0 then K + cn tv q + 1 else num q, fun k => if k < K then rn k else rd, fun k => if k < K then cd k else tv (at' k) - 1, ⟨⟨hle, fun k hk => ?_, fun p hp => ?_⟩, fun k hk => ?_, ?_, fun k hk => ?_⟩, fun k hk => ⟨if_pos hk, if_pos hk, if_pos hk⟩, fun q hq hne => ⟨?_, ?_, ?_⟩, fun q => rfl, hex⟩
  · by_cases q : k < K
    · obtain ⟨a, b, c⟩ := hP.2.1 k q
      simp only [if_pos q]
      refine ⟨a, b, ?_⟩
      rw [if_neg]
      · exact c
      · intro w
        have := (hat _ w).1
        omega
    · obtain ⟨p, h1, h2, rfl⟩ := hex k (by omega) hk
      simp only [if_neg q]
      rw [hat' p h1 h2, if_pos h2]
      obtain ⟨a, b, c, d, -⟩ := hat p h2
      exact ⟨c, d, rfl⟩
  · by_cases q : tv p ≠ 0
    · simp only [if_pos q]
      have hlt := cn_lt hp q
      refine ⟨by omega, fun _ => ?_⟩
      rw [if_neg (by omega)]
      exact hat' p hp q
    · simp only [if_neg q]
      obtain ⟨a, b⟩ := hP.2.2 p hp
      refine ⟨by omega, fun w => ?_⟩
      rw [if_pos (by omega)]
      exact b w
  · by_cases q : k < K
    · obtain ⟨ru, f, s, a, h⟩ := hcd k q
      simp only [if_pos q]
      exact ⟨ru, f, s, a, h⟩
    · obtain ⟨p, h1, h2, rfl⟩ := hex k (by omega) hk
      simp only [if_neg q]
      rw [hat' p h1 h2]
      obtain ⟨-, -, -, -, ru, f, s, a, g1, g2, g3, g4, g5⟩ := hat p h2
      exact ⟨ru, f, s, a, g1, g2, by omega, by omega, g5⟩
  · rw [← hor]
    refine fb_ct_cong (fun p hp => ?_)
    by_cases q : tv p = 0
    · simp [q]
    · simp [q]
  · by_cases q : k < K
    · simp only [if_pos q]
      exact (hbg k q).mono (by omega) (fun j hj => if_pos hj)
    · obtain ⟨p, h1, h2, rfl⟩ := hex k (by omega) hk
      simp only [if_neg q]
      rw [hat' p h1 h2]
      exact (hsb p h2).mono (by omega) (fun j hj => if_pos hj)
  · show (if K + cn tv q < K then _ else at' (K + cn tv q)) = q
    rw [if_neg (by omega)]
    exact hat' q hq hne
  · show (if K + cn tv q < K then _ else rd) = rd
    rw [if_neg (by omega)]
  · show (if K + cn tv q < K then _ else tv (at' (K + cn tv q)) - 1) = _
    rw [if_neg (by omega), hat' q hq hne]
end JOINT
