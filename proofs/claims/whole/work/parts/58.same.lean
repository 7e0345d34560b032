/-! both sides find the same least ways -/
theorem LT.two {S S' : Nat → Nat → Prop} {p v : Nat} (h : LT S p v) (hA : ∀ c, S p c → ∃ c', c' ≤ c ∧ S' p c') (hB : ∀ c, S' p c → ∃ c', c' ≤ c ∧ S p c') : LT S' p v := by
  rcases h with ⟨rfl, h⟩ | ⟨c, rfl, h1, h2⟩
  · exact Or.inl ⟨rfl, fun c hc => by obtain ⟨c', -, h3⟩ := hB c hc; exact h c' h3⟩
  · obtain ⟨c', g1, g2⟩ := hA c h1
    obtain ⟨c2, g3, g4⟩ := hB c' g2
    have := h2 c2 g4
    have e : c' = c := by omega
    subst e
    exact Or.inr ⟨c', rfl, g2, fun d hd => by obtain ⟨d', g5, g6⟩ := hB d hd; have := h2 d' g6; omega⟩
/-- an axiom that gives the chain -/
def CA (t : Th) (U : Nat → Nat → Bool) (r s u a : Nat) : Prop := t 7 a = 1 ∧ t 3 a = 2 ∧ U r (t 4 a) = true ∧ U s (t 5 a) = true ∧ t 6 a = u
def LC (C : Nat → Prop) (N v : Nat) : Prop := (v = 0 ∧ ∀ a, a < N → ¬ C a) ∨ ∃ a, a < N ∧ v = a + 1 ∧ C a ∧ ∀ b, b < a → ¬ C b
def ChS (t : Th) (ax : Nat) (U : Nat → Nat → Bool) (ch : Nat → Nat → Nat → Nat) : Prop := ∀ r s u, r < 4 → s < 4 → u < 4 → LC (CA t U r s u) ax (ch r s u)
theorem LTo.ex {pl : Nat → Nat} {K y k : Nat} (hk : k < K) (h : isTo pl k y) : ∃ w, LTo pl K y w ∧ w ≠ 0 ∧ w ≤ k + 1 := by
  induction k using Nat.strongRecOn with
  | _ k ih =>
    by_cases q : ∃ j, j < k ∧ isTo pl j y
    · obtain ⟨j, hj, hy⟩ := q
      obtain ⟨w, h1, h2, h3⟩ := ih j hj (by omega) hy
      exact ⟨w, h1, h2, by omega⟩
    · exact ⟨k + 1, Or.inr ⟨k, hk, rfl, h, fun j hj hy => q ⟨j, hj, hy⟩⟩, by omega, Nat.le_refl _⟩
section SAME
variable {t : Th} {n ax K : Nat} {pl num : Nat → Nat} {U : Nat → Nat → Bool} {ch : Nat → Nat → Nat → Nat}
theorem pl_num (hP : PN n K pl num) {p : Nat} (hp : p < 2000) (h : num p ≠ 0) : ∃ l, l < K ∧ num p = l + 1 ∧ pl l = p := by
  obtain ⟨h1, h2⟩ := hP.2.2 p hp
  exact ⟨num p - 1, by omega, by omega, h2 h⟩
theorem xm (hw : Wf t n ax) (hP : PN n K pl num) (hC : ChS t ax U ch) {p c : Nat} (h : SX num t n ax U ch pl K p c) : ∃ c', c' ≤ c ∧ SM num t n ax U pl K p c' := by
  have h20 := hw.n20
  have hK := hP.1
  unfold SM Uni
  rcases h with ⟨x, hx, hs, h0, ⟨hp, hc⟩ | ⟨hp, hc⟩⟩ | ⟨k, hk, ⟨q, h⟩ | ⟨q, h⟩⟩
  · exact ⟨c, Nat.le_refl _, Or.inl (Or.inl (Or.inl (Or.inl (Or.inl (Or.inl (Or.inl (Or.inl ⟨x, hx, h0, hp, 0, by omega, Or.inl ⟨hs, rfl⟩, hc⟩)))))))⟩
  · exact ⟨c, Nat.le_refl _, Or.inl (Or.inl (Or.inl (Or.inl (Or.inl (Or.inl (Or.inl (Or.inr ⟨x, hx, h0, hp, 0, by omega, Or.inl ⟨hs, rfl⟩, hc⟩)))))))⟩
  · obtain ⟨ps, po, pn⟩ := hP.2.1 k hk
    rcases h with ⟨h0, ⟨h3, hp, hc⟩ | ⟨h4, hp, hc⟩⟩ | ⟨m, hm, h0, h3, h1, h2, hp, hc⟩ | ⟨a, ha, h0, h7, h3, h4, hp, hc⟩
    · exact ⟨c, Nat.le_refl _, Or.inl (Or.inl (Or.inl (Or.inl (Or.inl (Or.inl (Or.inr ⟨k, hk, h0, q, h3, hp, hc⟩))))))⟩
    · exact ⟨c, Nat.le_refl _, Or.inl (Or.inl (Or.inl (Or.inr ⟨k, hk, h0, q, h4, hp, hc⟩)))⟩
    · have e : pl k = 100 * sb (pl k) + t 1 m := by
        have := pl_eq (pl k)
        omega
      have en : num (100 * sb (pl k) + t 1 m) = k + 1 := by rw [← e]; exact pn
      exact ⟨c, Nat.le_refl _, Or.inl (Or.inl (Or.inl (Or.inl (Or.inl (Or.inr ⟨sb (pl k), ps, m, hm, h0, h3, by omega, h2, hp, by rw [en]; exact hc⟩)))))⟩
    · exact ⟨c, Nat.le_refl _, Or.inl (Or.inl (Or.inl (Or.inl (Or.inr ⟨k, hk, a, ha, h0, q, h7, h3, h4, hp, hc⟩))))⟩
  · obtain ⟨ps, po, pn⟩ := hP.2.1 k hk
    have hit : isTo pl k (ob (pl k)) := ⟨q, rfl⟩
    rcases h with ⟨h0, h⟩ | ⟨h, hh, h0, h4, hu, h2, hp, hc⟩ | ⟨h0, h1, hp, hc⟩ | ⟨s, hs, u, hu, z, hz, h0, h1, h2, hp, hc⟩
    · have bg : ∃ f, f ≤ k + 1 ∧ Bg t pl K (ob (pl k)) f := by
        by_cases w : sd t (ob (pl k))
        · exact ⟨0, by omega, Or.inl ⟨w, rfl⟩⟩
        · obtain ⟨f, g1, g2, g3⟩ := LTo.ex hk hit
          exact ⟨f, g3, Or.inr ⟨w, g2, g1⟩⟩
      obtain ⟨f, f1, f2⟩ := bg
      rcases h with ⟨hp, hc⟩ | ⟨hp, hc⟩
      · exact ⟨cod 0 f 0 0, by rw [hc]; unfold cod; omega, Or.inl (Or.inl (Or.inl (Or.inl (Or.inl (Or.inl (Or.inl (Or.inl ⟨ob (pl k), po, h0, hp, f, by omega, f2, rfl⟩)))))))⟩
      · exact ⟨cod 1 f 0 0, by rw [hc]; unfold cod; omega, Or.inl (Or.inl (Or.inl (Or.inl (Or.inl (Or.inl (Or.inl (Or.inr ⟨ob (pl k), po, h0, hp, f, by omega, f2, rfl⟩)))))))⟩
    · exact ⟨c, Nat.le_refl _, Or.inl (Or.inl (Or.inr ⟨k, hk, h, hh, h0, q, h4, hu, h2, hp, hc⟩))⟩
    · exact ⟨c, Nat.le_refl _, Or.inl (Or.inr ⟨k, hk, h0, q, h1, hp, hc⟩)⟩
    · obtain ⟨l, hl, en, el⟩ := pl_num hP (p := 100 * ob (pl k) + 20 * (s + 1) + z) (by omega) h2
      obtain ⟨e1, e2, e3⟩ := pl_of (x := ob (pl k)) (r := s + 1) (y := z) (by omega) (by omega)
      rw [← el] at e1 e2 e3
      have hr := rh_lt (pl k)
      rcases hC (rh (pl k) - 1) s u (by omega) hs hu with ⟨w, -⟩ | ⟨a, ha, w, ⟨w7, w3, w4, w5, w6⟩, -⟩
      · exact absurd w h1
      · refine ⟨c, Nat.le_refl _, Or.inr ⟨k, hk, l, hl, a, ha, h0, q, by omega, e1, w7, w3, w4, ?_, ?_, ?_⟩⟩
        · rw [show rh (pl l) - 1 = s by omega]; exact w5
        · rw [w6, e3]; exact hp
        · rw [hc, en, w]
theorem mx (hw : Wf t n ax) (hP : PN n K pl num) (hC : ChS t ax U ch) {p c : Nat} (h : SM num t n ax U pl K p c) : ∃ c', c' ≤ c ∧ SX num t n ax U ch pl K p c' := by
  have h20 := hw.n20
  have hK := hP.1
  unfold SX
  rcases h with (((((((⟨x, hx, h0, hp, f, hf, hb, hc⟩ | ⟨x, hx, h0, hp, f, hf, hb, hc⟩) | ⟨k, hk, h0, q, h3, hp, hc⟩) | ⟨x, hx, h, hh, h0, h3, h1, h2, hp, hc⟩) | ⟨k, hk, a, ha, h0, q, h7, h3, h4, hp, hc⟩) | ⟨k, hk, h0, q, h4, hp, hc⟩) | ⟨k, hk, h, hh, h0, q, h4, hu, h2, hp, hc⟩) | ⟨k, hk, h0, q, h1, hp, hc⟩) | ⟨k, hk, l, hl, a, ha, h0, q, ql, hs, h7, h3, h4, h5, hp, hc⟩
  · rcases hb with ⟨w, rfl⟩ | ⟨w, w1, ⟨w2, -⟩ | ⟨k, hk, rfl, ⟨w2, rfl⟩, -⟩⟩
    · exact ⟨c, Nat.le_refl _, Or.inl ⟨x, hx, w, h0, Or.inl ⟨hp, hc⟩⟩⟩
    · exact absurd w2 w1
    · exact ⟨c, Nat.le_refl _, Or.inr ⟨k, hk, Or.inr ⟨w2, Or.inl ⟨h0, Or.inl ⟨hp, hc⟩⟩⟩⟩⟩
  · rcases hb with ⟨w, rfl⟩ | ⟨w, w1, ⟨w2, -⟩ | ⟨k, hk, rfl, ⟨w2, rfl⟩, -⟩⟩
    · exact ⟨c, Nat.le_refl _, Or.inl ⟨x, hx, w, h0, Or.inr ⟨hp, hc⟩⟩⟩
    · exact absurd w2 w1
    · exact ⟨c, Nat.le_refl _, Or.inr ⟨k, hk, Or.inr ⟨w2, Or.inl ⟨h0, Or.inr ⟨hp, hc⟩⟩⟩⟩⟩
  · exact ⟨c, Nat.le_refl _, Or.inr ⟨k, hk, Or.inl ⟨q, Or.inl ⟨h0, Or.inl ⟨h3, hp, hc⟩⟩⟩⟩⟩
  · have hm := hw.meet hh h3
    obtain ⟨k, hk, en, el⟩ := pl_num hP (p := 100 * x + t 1 h) (by omega) h1
    have e := pl_of (x := x) (r := 0) (y := t 1 h) (by omega) (by omega)
    rw [show 100 * x + 20 * 0 + t 1 h = 100 * x + t 1 h by omega, ← el] at e
    obtain ⟨e1, e2, e3⟩ := e
    refine ⟨c, Nat.le_refl _, Or.inr ⟨k, hk, Or.inl ⟨e2, Or.inr (Or.inl ⟨h, hh, h0, h3, e3.symm, ?_, ?_, ?_⟩)⟩⟩⟩
    · rw [e1]; exact h2
    · rw [e1]; exact hp
    · rw [e1, hc, en]
  · exact ⟨c, Nat.le_refl _, Or.inr ⟨k, hk, Or.inl ⟨q, Or.inr (Or.inr ⟨a, ha, h0, h7, h3, h4, hp, hc⟩)⟩⟩⟩
  · exact ⟨c, Nat.le_refl _, Or.inr ⟨k, hk, Or.inl ⟨q, Or.inl ⟨h0, Or.inr ⟨h4, hp, hc⟩⟩⟩⟩⟩
  · exact ⟨c, Nat.le_refl _, Or.inr ⟨k, hk, Or.inr ⟨q, Or.inr (Or.inl ⟨h, hh, h0, h4, hu, h2, hp, hc⟩)⟩⟩⟩
  · exact ⟨c, Nat.le_refl _, Or.inr ⟨k, hk, Or.inr ⟨q, Or.inr (Or.inr (Or.inl ⟨h0, h1, hp, hc⟩))⟩⟩⟩
  · obtain ⟨ps, po, pn⟩ := hP.2.1 k hk
    obtain ⟨ps2, po2, pn2⟩ := hP.2.1 l hl
    have hr := rh_lt (pl k)
    have hr2 := rh_lt (pl l)
    have hwa := hw.ax ha
    have hca : CA t U (rh (pl k) - 1) (rh (pl l) - 1) (t 6 a) a := ⟨h7, h3, h4, h5, rfl⟩
    have e : 100 * ob (pl k) + 20 * (rh (pl l) - 1 + 1) + ob (pl l) = pl l := by
      have := pl_eq (pl l)
      omega
    have fin : ∀ b, b ≤ a → ch (rh (pl k) - 1) (rh (pl l) - 1) (t 6 a) = b + 1 → ∃ c', c' ≤ c ∧ (UpTo n (gSeed num t) p c' ∨ UpTo K (gFrom num t n ax U ch pl) p c') := by
      intro b hb eb
      refine ⟨cod 8 (k + 1) (l + 1) (b + 1), by rw [hc]; unfold cod; omega, Or.inr ⟨k, hk, Or.inr ⟨q, Or.inr (Or.inr (Or.inr ⟨rh (pl l) - 1, by omega, t 6 a, by omega, ob (pl l), po2, h0, by omega, ?_, hp, ?_⟩))⟩⟩⟩
      · rw [e, pn2]; omega
      · rw [e, pn2, eb]
    rcases hC (rh (pl k) - 1) (rh (pl l) - 1) (t 6 a) (by omega) (by omega) (by omega) with ⟨w, w2⟩ | ⟨b, hb, w, w2, w3⟩
    · exact absurd hca (w2 a ha)
    · refine fin b ?_ w
      apply Classical.byContradiction
      intro w4
      exact w3 a (by omega) hca
/-- what a candidate of a round is -/
theorem sx_at (hw : Wf t n ax) (hP : PN n K pl num) (hC : ChS t ax U ch) {p c : Nat} (h : SX num t n ax U ch pl K p c) : num p = 0 ∧ p < 2000 ∧ sb p < n ∧ ob p < n ∧ ∃ ru f s a, c = cod ru f s a ∧ ru < 9 ∧ f ≤ K ∧ s ≤ K ∧ a ≤ 40 := by
  have h20 := hw.n20
  have h40 := hw.a40
  have h2n := hw.n2
  have hK := hP.1
  have at_of : ∀ x r y, x < n → r < 5 → y < n → p = 100 * x + 20 * r + y → p < 2000 ∧ sb p < n ∧ ob p < n := by
    rintro x r y hx hr hy rfl
    obtain ⟨e1, e2, e3⟩ := pl_of (x := x) hr (show y < 20 by omega)
    exact ⟨by omega, by omega, by omega⟩
  have num_le : ∀ q, q < 2000 → num q ≤ K := fun q hq => (hP.2.2 q hq).1
  rcases h with ⟨x, hx, hs, h0, h⟩ | ⟨k, hk, ⟨q, h⟩ | ⟨q, h⟩⟩
  · rcases h with ⟨hp, hc⟩ | ⟨hp, hc⟩
    · obtain ⟨g1, g2, g3⟩ := at_of x 0 x hx (by omega) hx (by omega)
      exact ⟨h0, g1, g2, g3, 0, 0, 0, 0, hc, by omega, by omega, by omega, by omega⟩
    · obtain ⟨g1, g2, g3⟩ := at_of x 0 0 hx (by omega) (by omega) (by omega)
      exact ⟨h0, g1, g2, g3, 1, 0, 0, 0, hc, by omega, by omega, by omega, by omega⟩
  · obtain ⟨ps, po, pn⟩ := hP.2.1 k hk
    rcases h with ⟨h0, ⟨h3, hp, hc⟩ | ⟨h4, hp, hc⟩⟩ | ⟨m, hm, h0, h3, h1, h2, hp, hc⟩ | ⟨a, ha, h0, h7, h3, h4, hp, hc⟩
    · have hm := hw.meet po h3
      rcases hp with hp | hp
      · obtain ⟨g1, g2, g3⟩ := at_of (sb (pl k)) 0 (t 1 (ob (pl k))) ps (by omega) (by omega) (by omega)
        exact ⟨h0, g1, g2, g3, 2, k + 1, 0, 0, hc, by omega, by omega, by omega, by omega⟩
      · obtain ⟨g1, g2, g3⟩ := at_of (sb (pl k)) 0 (t 2 (ob (pl k))) ps (by omega) (by omega) (by omega)
        exact ⟨h0, g1, g2, g3, 2, k + 1, 0, 0, hc, by omega, by omega, by omega, by omega⟩
    · have hm := hw.has po h4
      obtain ⟨g1, g2, g3⟩ := at_of (sb (pl k)) (t 1 (ob (pl k)) + 1) (t 2 (ob (pl k))) ps (by omega) (by omega) hp
      exact ⟨h0, g1, g2, g3, 5, k + 1, 0, 0, hc, by omega, by omega, by omega, by omega⟩
    · have hm2 := hw.meet hm h3
      obtain ⟨g1, g2, g3⟩ := at_of (sb (pl k)) 0 m ps (by omega) hm (by omega)
      have := num_le (100 * sb (pl k) + t 2 m) (by omega)
      exact ⟨h0, g1, g2, g3, 3, k + 1, _, 0, hc, by omega, by omega, by omega, by omega⟩
    · have hwa := hw.ax ha
      obtain ⟨g1, g2, g3⟩ := at_of (sb (pl k)) 0 (t 5 a) ps (by omega) (by omega) (by omega)
      exact ⟨h0, g1, g2, g3, 4, k + 1, 0, a + 1, hc, by omega, by omega, by omega, by omega⟩
  · obtain ⟨ps, po, pn⟩ := hP.2.1 k hk
    rcases h with ⟨h0, h⟩ | ⟨h, hh, h0, h4, hu, h2, hp, hc⟩ | ⟨h0, h1, hp, hc⟩ | ⟨s, hs, u, hu, z, hz, h0, h1, h2, hp, hc⟩
    · rcases h with ⟨hp, hc⟩ | ⟨hp, hc⟩
      · obtain ⟨g1, g2, g3⟩ := at_of (ob (pl k)) 0 (ob (pl k)) po (by omega) po (by omega)
        exact ⟨h0, g1, g2, g3, 0, k + 1, 0, 0, hc, by omega, by omega, by omega, by omega⟩
      · obtain ⟨g1, g2, g3⟩ := at_of (ob (pl k)) 0 0 po (by omega) (by omega) (by omega)
        exact ⟨h0, g1, g2, g3, 1, k + 1, 0, 0, hc, by omega, by omega, by omega, by omega⟩
    · have hm := hw.has hh h4
      obtain ⟨g1, g2, g3⟩ := at_of (sb (pl k)) 0 h ps (by omega) hh (by omega)
      have := num_le (100 * ob (pl k) + t 2 h) (by omega)
      exact ⟨h0, g1, g2, g3, 6, k + 1, _, 0, hc, by omega, by omega, by omega, by omega⟩
    · obtain ⟨g1, g2, g3⟩ := at_of (sb (pl k)) 0 1 ps (by omega) (by omega) (by omega)
      have := num_le (100 * ob (pl k) + 1) (by omega)
      exact ⟨h0, g1, g2, g3, 7, k + 1, _, 0, hc, by omega, by omega, by omega, by omega⟩
    · obtain ⟨g1, g2, g3⟩ := at_of (sb (pl k)) (u + 1) z ps (by omega) hz hp
      have := num_le (100 * ob (pl k) + 20 * (s + 1) + z) (by omega)
      have hr := rh_lt (pl k)
      have hc40 : ch (rh (pl k) - 1) s u ≤ 40 := by
        rcases hC (rh (pl k) - 1) s u (by omega) hs hu with ⟨w, -⟩ | ⟨a, ha, w, -⟩ <;> omega
      exact ⟨h0, g1, g2, g3, 8, k + 1, _, _, hc, by omega, by omega, by omega, hc40⟩
theorem tv_ex {f : Nat → Int64} {S : Nat → Nat → Prop} (h : XT f S) : ∃ tv : Nat → Nat, ∀ p, p < 2000 → f p = XV (tv p) ∧ LT S p (tv p) ∧ tv p ≤ NOC := by
  classical
  refine ⟨fun p => if hp : p < 2000 then Classical.choose (h.2 p hp) else 0, fun p hp => ?_⟩
  obtain ⟨g1, g2⟩ := Classical.choose_spec (h.2 p hp)
  simp only [dif_pos hp]
  exact ⟨g1, g2, g2.lt (h.1 p)⟩
end SAME
