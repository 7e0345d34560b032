/-! things: how many bits are set -/
section BITS2
theorem bt_nI (k i : Nat) : bt (nI k) i = (decide (i < 32) && k.testBit i) := by
  unfold bt
  show (BitVec.ofNat 32 k).getLsbD i = _
  rw [BitVec.getLsbD_ofNat]
theorem ush_nI {k j : Nat} (hk : k < 2 ^ 32) (hj : j < 32) : ((nI k).toUInt32 >>> ((nI j).toUInt32 &&& Int32.toUInt32 31)).toInt32 = nI (k / 2 ^ j) := by
  refine b_ext (fun i hi => ?_)
  rw [b_ushr j hj, bt_nI, bt_nI, Nat.testBit_div_two_pow, Nat.add_comm i j]
  by_cases q : j + i < 32
  · simp [q, hi]
  · have : k.testBit (j + i) = false := Nat.testBit_lt_two_pow (Nat.lt_of_lt_of_le hk (Nat.pow_le_pow_right (by decide) (by omega)))
    simp [this]
def bc1 (p : Int32) : Int32 := p - (((p.toUInt32 >>> ((1 : Int32).toUInt32 &&& Int32.toUInt32 31)).toInt32) &&& (1431655765 : Int32))
def bc2 (p : Int32) : Int32 := (p &&& (858993459 : Int32)) + (((p.toUInt32 >>> ((2 : Int32).toUInt32 &&& Int32.toUInt32 31)).toInt32) &&& (858993459 : Int32))
def bc3 (p : Int32) : Int32 := (p + ((p.toUInt32 >>> ((4 : Int32).toUInt32 &&& Int32.toUInt32 31)).toInt32)) &&& (252645135 : Int32)
def bc4 (p : Int32) : Int32 := p + ((p.toUInt32 >>> ((8 : Int32).toUInt32 &&& Int32.toUInt32 31)).toInt32)
def bc5 (p : Int32) : Int32 := p + ((p.toUInt32 >>> ((16 : Int32).toUInt32 &&& Int32.toUInt32 31)).toInt32)
theorem bc_eq (p : Int32) : t_J6_bitCount_0f7a4 p = bc5 (bc4 (bc3 (bc2 (bc1 p)))) &&& (63 : Int32) := by
  unfold t_J6_bitCount_0f7a4 bc5 bc4 bc3 bc2 bc1
  rfl
theorem bc1_ok {m : Nat} (h : m < 2 ^ 32) : bc1 (nI m) = nI (m - (m / 2 &&& 1431655765)) := by
  have e : ((nI m).toUInt32 >>> ((1 : Int32).toUInt32 &&& Int32.toUInt32 31)).toInt32 = nI (m / 2) := ush_nI (j := 1) h (by omega)
  have e2 : nI (m / 2) &&& (1431655765 : Int32) = nI (m / 2 &&& 1431655765) := nx_and _ _
  unfold bc1
  rw [e, e2, nI_sub (Nat.le_trans Nat.and_le_left (Nat.div_le_self m 2))]
theorem bc2_ok {m : Nat} (h : m < 2 ^ 32) : bc2 (nI m) = nI ((m &&& 858993459) + (m / 4 &&& 858993459)) := by
  have e : ((nI m).toUInt32 >>> ((2 : Int32).toUInt32 &&& Int32.toUInt32 31)).toInt32 = nI (m / 4) := ush_nI (j := 2) h (by omega)
  have e2 : ∀ k, nI k &&& (858993459 : Int32) = nI (k &&& 858993459) := fun k => nx_and _ _
  unfold bc2
  rw [e, e2, e2, nI_add]
theorem bc3_ok {m : Nat} (h : m < 2 ^ 32) : bc3 (nI m) = nI ((m + m / 16) &&& 252645135) := by
  have e : ((nI m).toUInt32 >>> ((4 : Int32).toUInt32 &&& Int32.toUInt32 31)).toInt32 = nI (m / 16) := ush_nI (j := 4) h (by omega)
  have e2 : ∀ k, nI k &&& (252645135 : Int32) = nI (k &&& 252645135) := fun k => nx_and _ _
  unfold bc3
  rw [e, nI_add, e2]
theorem bc4_ok {m : Nat} (h : m < 2 ^ 32) : bc4 (nI m) = nI (m + m / 256) := by
  have e : ((nI m).toUInt32 >>> ((8 : Int32).toUInt32 &&& Int32.toUInt32 31)).toInt32 = nI (m / 256) := ush_nI (j := 8) h (by omega)
  unfold bc4
  rw [e, nI_add]
theorem bc5_ok {m : Nat} (h : m < 2 ^ 32) : bc5 (nI m) = nI (m + m / 65536) := by
  have e : ((nI m).toUInt32 >>> ((16 : Int32).toUInt32 &&& Int32.toUInt32 31)).toInt32 = nI (m / 65536) := ush_nI (j := 16) h (by omega)
  unfold bc5
  rw [e, nI_add]
def V3 (a b c : Nat) : Nat := a + 256 * (b + 256 * c)
theorem and8 {a x : Nat} (r y : Nat) (ha : a < 256) (hx : x < 256) : (a + 256 * r) &&& (x + 256 * y) = (a &&& x) + 256 * (r &&& y) := by
  apply Nat.eq_of_testBit_eq
  intro j
  have e : ∀ u v, u < 256 → (u + 256 * v).testBit j = if j < 8 then u.testBit j else v.testBit (j - 8) := fun u v hu => by
    rw [Nat.add_comm]
    exact Nat.testBit_two_pow_mul_add v (i := 8) hu j
  rw [Nat.testBit_and, e _ _ ha, e _ _ hx, e _ _ (Nat.lt_of_le_of_lt Nat.and_le_left ha)]
  by_cases q : j < 8 <;> simp [q]
theorem V3_and {a b x y : Nat} (c z : Nat) (ha : a < 256) (hb : b < 256) (hx : x < 256) (hy : y < 256) : V3 a b c &&& V3 x y z = V3 (a &&& x) (b &&& y) (c &&& z) := by
  unfold V3
  rw [and8 _ _ ha hx, and8 _ _ hb hy]
def p1 (a : Nat) : Nat := a - (a / 2 &&& 85)
def p2 (a : Nat) : Nat := (a &&& 51) + (a / 4 &&& 51)
def p3 (a : Nat) : Nat := (a + a / 16) % 16
theorem d1 : ∀ a, a < 256 → ∀ t, t < 2 → (a / 2 + 128 * t) &&& 85 = a / 2 &&& 85 := by decide +kernel
theorem d1c : ∀ a, a < 256 → a / 2 &&& 21845 = a / 2 &&& 85 := by decide +kernel
theorem d2 : ∀ a, a < 256 → ∀ t, t < 4 → (a / 4 + 64 * t) &&& 51 = a / 4 &&& 51 := by decide +kernel
theorem d2c : ∀ a, a < 256 → a / 4 &&& 13107 = a / 4 &&& 51 := by decide +kernel
theorem d2d : ∀ a, a < 256 → a &&& 13107 = a &&& 51 := by decide +kernel
theorem d3 : ∀ a, a < 256 → p2 (p1 a) ≤ 68 ∧ p2 (p1 a) % 16 ≤ 4 := by decide +kernel
theorem d4 : ∀ a, a < 256 → a &&& 15 = a % 16 ∧ a &&& 3855 = a % 16 := by decide +kernel
theorem d5 : ∀ a, a < 256 → p3 (p2 (p1 a)) = fb_ct (fun i => a.testBit i) 8 := by decide +kernel
theorem s1_V {a b c : Nat} (ha : a < 256) (hb : b < 256) (hc : c < 256) : V3 a b c - (V3 a b c / 2 &&& 1431655765) = V3 (p1 a) (p1 b) (p1 c) := by
  have e : V3 a b c / 2 = V3 (a / 2 + 128 * (b % 2)) (b / 2 + 128 * (c % 2)) (c / 2) := by unfold V3; omega
  have em : 1431655765 = V3 85 85 21845 := rfl
  rw [e, em, V3_and _ _ (by omega) (by omega) (by omega) (by omega), d1 a ha _ (by omega), d1 b hb _ (by omega), d1c c hc]
  have la : a / 2 &&& 85 ≤ a / 2 := Nat.and_le_left
  have lb : b / 2 &&& 85 ≤ b / 2 := Nat.and_le_left
  have lc : c / 2 &&& 85 ≤ c / 2 := Nat.and_le_left
  unfold V3 p1
  omega
theorem s2_V {a b c : Nat} (ha : a < 256) (hb : b < 256) (hc : c < 256) : (V3 a b c &&& 858993459) + (V3 a b c / 4 &&& 858993459) = V3 (p2 a) (p2 b) (p2 c) := by
  have e : V3 a b c / 4 = V3 (a / 4 + 64 * (b % 4)) (b / 4 + 64 * (c % 4)) (c / 4) := by unfold V3; omega
  have em : 858993459 = V3 51 51 13107 := rfl
  rw [e, em, V3_and _ _ (by omega) (by omega) (by omega) (by omega), V3_and _ _ (by omega) (by omega) (by omega) (by omega), d2 a ha _ (by omega), d2 b hb _ (by omega), d2c c hc, d2d c hc]
  unfold V3 p2
  omega
theorem s3_V {a b c : Nat} (ha : a ≤ 68) (hb : b ≤ 68) (hc : c ≤ 68) (hb2 : b % 16 ≤ 4) (hc2 : c % 16 ≤ 4) : (V3 a b c + V3 a b c / 16) &&& 252645135 = V3 (p3 a) (p3 b) (p3 c) := by
  have e : V3 a b c + V3 a b c / 16 = V3 (a + a / 16 + 16 * (b % 16)) (b + b / 16 + 16 * (c % 16)) (c + c / 16) := by unfold V3; omega
  have em : 252645135 = V3 15 15 3855 := rfl
  rw [e, em, V3_and _ _ (by omega) (by omega) (by omega) (by omega), (d4 _ (show a + a / 16 + 16 * (b % 16) < 256 by omega)).1, (d4 _ (show b + b / 16 + 16 * (c % 16) < 256 by omega)).1, (d4 _ (show c + c / 16 < 256 by omega)).2]
  unfold V3 p3
  omega
theorem bc_V {a b c : Nat} (ha : a < 256) (hb : b < 256) (hc : c < 256) : t_J6_bitCount_0f7a4 (nI (V3 a b c)) = nI (p3 (p2 (p1 a)) + p3 (p2 (p1 b)) + p3 (p2 (p1 c))) := by
  have lt : ∀ {x y z : Nat}, x < 256 → y < 256 → z < 256 → V3 x y z < 2 ^ 32 := by
    intro x y z hx hy hz
    unfold V3
    omega
  have l1 : ∀ {x : Nat}, x < 256 → p1 x < 256 := by
    intro x hx
    unfold p1
    omega
  obtain ⟨a1, a2⟩ := d3 a ha
  obtain ⟨b1, b2⟩ := d3 b hb
  obtain ⟨c1, c2⟩ := d3 c hc
  have l3 : ∀ x, p3 x < 16 := fun x => Nat.mod_lt _ (by decide)
  have qa := l3 (p2 (p1 a))
  have qb := l3 (p2 (p1 b))
  have qc := l3 (p2 (p1 c))
  rw [bc_eq, bc1_ok (lt ha hb hc), s1_V ha hb hc, bc2_ok (lt (l1 ha) (l1 hb) (l1 hc)), s2_V (l1 ha) (l1 hb) (l1 hc), bc3_ok (lt (by omega) (by omega) (by omega)), s3_V a1 b1 c1 b2 c2, bc4_ok (lt (by omega) (by omega) (by omega))]
  generalize p3 (p2 (p1 a)) = A at qa ⊢
  generalize p3 (p2 (p1 b)) = B at qb ⊢
  generalize p3 (p2 (p1 c)) = C at qc ⊢
  have k4 : V3 A B C + V3 A B C / 256 < 2 ^ 32 := by unfold V3; omega
  rw [bc5_ok k4]
  have e2 : ∀ k, nI k &&& (63 : Int32) = nI (k % 64) := fun k => (nx_and k 63).trans (congrArg nI (Nat.and_two_pow_sub_one_eq_mod k 6))
  rw [e2]
  congr 1
  have g1 : V3 A B C / 256 = B + 256 * C := by unfold V3; omega
  have g2 : V3 A B C + (B + 256 * C) = A + B + 256 * (B + C + 256 * C) := by unfold V3; omega
  have g3 : (A + B + 256 * (B + C + 256 * C)) / 65536 = C := by omega
  rw [g1, g2, g3]
  omega
theorem bc_nat {m : Nat} (h : m < 2 ^ 24) : t_J6_bitCount_0f7a4 (nI m) = nI (fb_ct (fun i => m.testBit i) 24) := by
  have e : m = V3 (m % 256) (m / 256 % 256) (m / 65536) := by unfold V3; omega
  have c1 : fb_ct (fun i => (m % 256).testBit i) 8 = fb_ct (fun i => m.testBit i) 8 := fb_ct_cong (fun k hk => by
    have := Nat.testBit_mod_two_pow m 8 k
    rw [show (2 : Nat) ^ 8 = 256 from rfl] at this
    rw [this, decide_eq_true hk, Bool.true_and])
  have c2 : fb_ct (fun i => (m / 256 % 256).testBit i) 8 = fb_ct (fun i => m.testBit (8 + i)) 8 := fb_ct_cong (fun k hk => by
    have := Nat.testBit_mod_two_pow (m / 256) 8 k
    rw [show (2 : Nat) ^ 8 = 256 from rfl] at this
    have w : (m / 256).testBit k = m.testBit (k + 8) := Nat.testBit_div_two_pow (n := 8) m k
    rw [this, decide_eq_true hk, Bool.true_and, w, Nat.add_comm])
  have c3 : fb_ct (fun i => (m / 65536).testBit i) 8 = fb_ct (fun i => m.testBit (16 + i)) 8 := fb_ct_cong (fun k hk => by
    have w : (m / 65536).testBit k = m.testBit (k + 16) := Nat.testBit_div_two_pow (n := 16) m k
    rw [w, Nat.add_comm])
  have s1 : fb_ct (fun i => m.testBit i) 24 = fb_ct (fun i => m.testBit i) 8 + fb_ct (fun i => m.testBit (8 + i)) 16 := fb_ct_split (fun i => m.testBit i) 8 16
  have s2 : fb_ct (fun i => m.testBit (8 + i)) 16 = fb_ct (fun i => m.testBit (8 + i)) 8 + fb_ct (fun k => m.testBit (8 + (8 + k))) 8 := fb_ct_split (fun i => m.testBit (8 + i)) 8 8
  have s3 : fb_ct (fun k => m.testBit (8 + (8 + k))) 8 = fb_ct (fun i => m.testBit (16 + i)) 8 := fb_ct_cong (fun k hk => by rw [show 8 + (8 + k) = 16 + k by omega])
  rw [show t_J6_bitCount_0f7a4 (nI m) = t_J6_bitCount_0f7a4 (nI (V3 (m % 256) (m / 256 % 256) (m / 65536))) from congrArg (fun k => t_J6_bitCount_0f7a4 (nI k)) e, bc_V (by omega) (by omega) (by omega), d5 _ (by omega), d5 _ (by omega), d5 _ (by omega), c1, c2, c3]
  congr 1
  omega
theorem Mk.ct {v : Int32} {n : Nat} {f : Nat → Bool} (hn : n ≤ 20) (h : Mk v n f) : t_J6_bitCount_0f7a4 v = nI (fb_ct f n) := by
  obtain ⟨m, hm, rfl⟩ := wb_of32 v
  have tb : ∀ i, m.testBit i = (decide (i < n) && f i) := by
    intro i
    by_cases q : i < 32
    · have := h i q
      rw [bt_nI, decide_eq_true q, Bool.true_and] at this
      exact this
    · rw [Nat.testBit_lt_two_pow (Nat.lt_of_lt_of_le hm (Nat.pow_le_pow_right (by decide) (by omega)))]
      have : ¬ i < n := by omega
      simp [this]
  have hl : m < 2 ^ 24 := Nat.lt_pow_two_of_testBit m (fun i hi => by
    rw [tb i]
    have : ¬ i < n := by omega
    simp [this])
  rw [bc_nat hl]
  congr 1
  have s := fb_ct_split (fun i => m.testBit i) n (24 - n)
  rw [show n + (24 - n) = 24 by omega] at s
  rw [s]
  have z : fb_ct (fun k => m.testBit (n + k)) (24 - n) = 0 := fb_ct_zero.mpr (fun k hk => by
    show m.testBit (n + k) = false
    rw [tb, decide_eq_false (show ¬ n + k < n by omega)]
    rfl)
  rw [z, Nat.add_zero]
  exact fb_ct_cong (fun k hk => by rw [tb, decide_eq_true hk, Bool.true_and])
end BITS2
theorem sim19 : Sim_19 Inv := by
  rintro sx sm hI
  unfold t_X6_things f_X7_things
  rcases doneCases hI with ⟨h1, h2⟩ | ⟨t, n, ax, cl, cc, K, pl, num, rn, cd, rdn, U, ch, hc, h1, h2, hGG, hCl, hX, hM, hXH, hMH⟩
  · rw [h1, h2, if_pos zero0, if_pos zero0]
    exact ⟨_, rfl, rfl, hI⟩
  · have h20 := hc.1.n20
    have h2n := hc.1.n2
    rw [h1, h2, if_neg one0, if_neg one0]
    have m0 : t_X2_members sx 0 = _ := members_ok (z := sx) (j := 0) (by omega)
    have k0 := hXH.1 0 (by omega)
    rw [hG0 hc.1] at k0
    have hN0 := hc.2.2.1.1
    have key : Ok (loopC (fun v => b_X7_things_14 sm v.1 v.2) ((0 : Int32), (0 : Int32))) (fun r => r = nI (fb_ct (hT num) n)) := by
      refine Ok.forR (f := fun v => b_X7_things_14 sm v.1 v.2) (i := 0) (s := (0 : Int32)) n (fun i v => v = nI (fb_ct (hT num) i)) ?_ ?_ (Nat.zero_le _) rfl
      · rintro i v hi rfl
        show Ok (b_X7_things_14 sm _ (nI i)) _
        unfold b_X7_things_14
        refine Ok.ifn (show ¬ sm 0 0 ≤ nI i by rw [hN0]; exact nI_ge hi (by omega)) (Ok.bindE (rd_nI (by omega) (by omega)) ?_)
        rw [hMH.1 i hi, fb_ct_succ]
        cases hT num i
        · refine Ok.ifp rfl (Ok.go ⟨nI_1 i, ?_⟩)
          show nI _ + nI 0 = nI (_ + 0)
          rw [nI_add]
        · refine Ok.ifn one0 (Ok.go ⟨nI_1 i, ?_⟩)
          show nI _ + nI 1 = nI (_ + 1)
          rw [nI_add]
      · rintro v rfl
        show Ok (b_X7_things_14 sm _ (nI n)) _
        unfold b_X7_things_14
        exact Ok.ifp (show sm 0 0 ≤ nI n by rw [hN0]; exact nI_le (Nat.le_refl _) (by omega)) (Ok.end rfl)
    obtain ⟨r, e, rfl⟩ := key
    exact ⟨_, by rw [m0]; exact k0.ct h20, e, hI⟩
