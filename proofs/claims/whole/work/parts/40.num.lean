/-! numbers: ints as natural numbers; NONE raised by one (nO) -/
theorem nI_mul (a b : Nat) : nI a * nI b = nI (a * b) := (Int32.ofNat_mul a b).symm
theorem nI_m1 {a : Nat} (h : a < 2 ^ 31) : ¬ nI a = -1 := by
  intro q
  have e := nI_toInt h
  rw [q] at e
  have e2 : (-1 : Int32).toInt = -1 := by decide
  omega
/-- NONE is 0, k is k + 1 -/
def nO (m : Nat) : Int32 := nI m - 1
theorem nO_0 : nO 0 = -1 := by decide
theorem nO_s (k : Nat) : nO (k + 1) = nI k := nI_pred k
theorem nO_1 (m : Nat) : nO m + 1 = nI m := by
  unfold nO
  rw [Int32.sub_eq_add_neg, Int32.add_assoc, Int32.add_comm (-1) 1, ← Int32.sub_eq_add_neg, Int32.sub_self, Int32.add_zero]
theorem nO_inj {a b : Nat} (ha : a < 2 ^ 31) (hb : b < 2 ^ 31) (h : nO a = nO b) : a = b := by
  have h2 : nO a + 1 = nO b + 1 := by rw [h]
  rw [nO_1, nO_1] at h2
  exact (nI_eq ha hb).mp h2
theorem nO_m1 {m : Nat} (h : m < 2 ^ 31) : nO m = -1 ↔ m = 0 := by
  constructor
  · intro q
    exact nO_inj h (by omega) (by rw [q, nO_0])
  · rintro rfl
    exact nO_0
theorem nO_ne {k : Nat} (h : k < 2 ^ 31) : ¬ nO (k + 1) = -1 := by
  rw [nO_s]
  exact nI_m1 h
theorem rd_nI {T : Type} {N a : Nat} {f : Nat → T} (h : a < N) (hN : N < 2 ^ 31) : rd N f (nI a) = some (f a) := by
  rw [rd_of (vp_in_nI h hN), nI_clamp (by omega)]
theorem wr_nI {N a : Nat} {f : Nat → Int32} {x : Int32} (h : a < N) (hN : N < 2 ^ 31) : wr N f (nI a) x = some (upd f a x) := by
  rw [wr_of (vp_in_nI h hN), nI_clamp (by omega)]
theorem wrL_nI {N a : Nat} {f : Nat → Int64} {x : Int64} (h : a < N) (hN : N < 2 ^ 31) : wrL N f (nI a) x = some (vp_updL f a x) := by
  rw [wrL_of (vp_in_nI h hN), nI_clamp (by omega)]
theorem mwr_nI {st : MS} {k N a : Nat} {x : Int32} (h : a < N) (hN : N < 2 ^ 31) : mwr st k N (nI a) x = some (mA st k (upd (st k) a x)) := by
  unfold mwr
  rw [wr_nI h hN]
  rfl
theorem at_nI {N a : Nat} {f : Nat → Int32} (h : a < N) (hN : N < 2 ^ 31) : t_X6_at N f (nI a) = f a := by
  unfold t_X6_at
  rw [if_neg (nI_pos (by omega)), if_neg (show ¬ Int32.ofNat N ≤ nI a from nI_ge h hN), nI_clamp (by omega)]
theorem at_neg {N : Nat} {f : Nat → Int32} {v : Int32} (h : v < 0) : t_X6_at N f v = -1 := by
  unfold t_X6_at
  rw [if_pos h]
theorem longAt_nI {N a : Nat} {f : Nat → Int64} (h : a < N) (hN : N < 2 ^ 31) : t_X6_longAt N f (nI a) = f a := by
  unfold t_X6_longAt
  rw [if_neg (nI_pos (by omega)), if_neg (show ¬ Int32.ofNat N ≤ nI a from nI_ge h hN), nI_clamp (by omega)]
theorem put_nI {N a : Nat} {f : Nat → Int32} {v : Int32} (h : a < N) (hN : N < 2 ^ 31) : t_X6_put N f (nI a) v = upd f a v := by
  unfold t_X6_put
  rw [if_neg (nI_pos (by omega)), if_neg (show ¬ Int32.ofNat N ≤ nI a from nI_ge h hN), nI_clamp (by omega)]
theorem put_m1 {N : Nat} {f : Nat → Int32} {v : Int32} : t_X6_put N f (-1) v = f := by
  unfold t_X6_put
  rw [if_pos (by decide)]
theorem putLong_nI {N a : Nat} {f : Nat → Int64} {v : Int64} (h : a < N) (hN : N < 2 ^ 31) : t_X6_putLong N f (nI a) v = vp_updL f a v := by
  unfold t_X6_putLong
  rw [if_neg (nI_pos (by omega)), if_neg (show ¬ Int32.ofNat N ≤ nI a from nI_ge h hN), nI_clamp (by omega)]
theorem within_nI {a n : Nat} (ha : a < 2 ^ 31) (hn : n < 2 ^ 31) : t_X6_within (nI a) (nI n) = if a < n then 1 else 0 := by
  unfold t_X6_within
  rw [if_neg (nI_pos ha)]
  by_cases h : a < n
  · rw [if_neg (nI_ge h hn), if_pos h]
  · rw [if_pos (nI_le (by omega) ha), if_neg h]
theorem within_neg {v w : Int32} (h : v < 0) : t_X6_within v w = 0 := by
  unfold t_X6_within
  rw [if_pos h]
theorem nI_div {a b : Nat} (ha : a < 2 ^ 31) (hb : b < 2 ^ 31) : nI a / nI b = nI (a / b) := by
  apply Int32.toInt_inj.mp
  have hle : a / b ≤ a := Nat.div_le_self a b
  rw [Int32.toInt_div, nI_toInt ha, nI_toInt hb, nI_toInt (by omega), ← Int.ofNat_tdiv]
  generalize a / b = q at hle ⊢
  exact fb_bmod (by omega) (by omega)
theorem nI_sub {a b : Nat} (h : b ≤ a) : nI a - nI b = nI (a - b) := by
  have e : nI a = nI (a - b) + nI b := by rw [nI_add, Nat.sub_add_cancel h]
  rw [e, Int32.sub_eq_add_neg, Int32.add_assoc, ← Int32.sub_eq_add_neg, Int32.sub_self, Int32.add_zero]
theorem cmp_ge {a b : Nat} (ha : a < 2 ^ 63) (hb : b < 2 ^ 63) : 0 ≤ lg_cmp (lN a) (lN b) ↔ b ≤ a := by
  rw [lg_cmp_ge, Int64.le_iff_toInt_le, lN_ti (by omega), lN_ti (by omega), if_pos ha, if_pos hb]
  omega
theorem cmp_eq {a b : Nat} (ha : a < 2 ^ 63) (hb : b < 2 ^ 63) : lg_cmp (lN a) (lN b) = 0 ↔ a = b := by
  unfold lg_cmp
  have h1 : lN a > lN b ↔ b < a := by
    show lN b < lN a ↔ b < a
    rw [Int64.lt_iff_toInt_lt, lN_ti (by omega), lN_ti (by omega), if_pos ha, if_pos hb]
    omega
  have h2 := fb_lN_inj ha hb
  by_cases q1 : b < a
  · rw [if_pos (h1.mpr q1)]
    constructor
    · intro h; exact absurd h (by decide)
    · intro h; omega
  · rw [if_neg (fun h => q1 (h1.mp h))]
    by_cases q2 : a = b
    · rw [if_pos (h2.mpr q2)]
      exact ⟨fun _ => q2, fun _ => rfl⟩
    · rw [if_neg (fun h => q2 (h2.mp h))]
      constructor
      · intro h; exact absurd h (by decide)
      · intro h; exact absurd h q2
theorem lN_no : (4611686018427387904 : Int64) = lN 4611686018427387904 := by rfl
/-- the number of a why: rule, first premise, second premise, axiom, the last three raised by one -/
def cod (ru f s a : Nat) : Nat := ru * 268435456 + f * 131072 + s * 64 + a
theorem cod_lt {ru f s a : Nat} (h1 : ru < 9) (h2 : f < 2048) (h3 : s < 2048) (h4 : a < 64) : cod ru f s a < 4611686018427387904 := by
  unfold cod
  omega
theorem whyOf_ok {ru f s a : Nat} (h1 : ru < 9) (h2 : f < 2048) (h3 : s < 2048) (h4 : a < 64) : t_X6_whyOf (nI ru) (nO f) (nO s) (nO a) = lN (cod ru f s a) := by
  unfold t_X6_whyOf
  rw [nO_1, nO_1, nO_1, nI_l (by omega), nI_l (by omega), nI_l (by omega), nI_l (by omega)]
  have e28 : (28 : Int32) = nI 28 := rfl
  have e17 : (17 : Int32) = nI 17 := rfl
  have e6 : (6 : Int32) = nI 6 := rfl
  rw [e28, e17, e6, wb_shl _ (by omega), wb_shl _ (by omega), wb_shl _ (by omega)]
  have g1 : lN (ru * 2 ^ 28) ||| lN (f * 2 ^ 17) = lN (ru * 2 ^ 28 + f * 2 ^ 17) := g_or (k := 28) (p := 2 ^ 28) rfl (by omega) (by omega)
  rw [g1]
  have g2 : lN (ru * 2 ^ 28 + f * 2 ^ 17) ||| lN (s * 2 ^ 6) = lN (ru * 2 ^ 28 + f * 2 ^ 17 + s * 2 ^ 6) := by
    have e : ru * 2 ^ 28 + f * 2 ^ 17 = (ru * 2 ^ 11 + f) * 2 ^ 17 := by omega
    rw [e]
    exact g_or (k := 17) (p := 2 ^ 17) rfl (by omega) (by omega)
  rw [g2]
  have g3 : lN (ru * 2 ^ 28 + f * 2 ^ 17 + s * 2 ^ 6) ||| lN a = lN (ru * 2 ^ 28 + f * 2 ^ 17 + s * 2 ^ 6 + a) := by
    have e : ru * 2 ^ 28 + f * 2 ^ 17 + s * 2 ^ 6 = (ru * 2 ^ 22 + f * 2 ^ 11 + s) * 2 ^ 6 := by omega
    rw [e]
    exact g_or (k := 6) (p := 2 ^ 6) rfl (by omega) (by omega)
  rw [g3]
  unfold cod
  congr 1
theorem whyOfTwo_ok {ru f s : Nat} (h1 : ru < 9) (h2 : f < 2048) (h3 : s < 2048) : t_X6_whyOfTwo (nI ru) (nO f) (nO s) = if s = 0 then lN 4611686018427387904 else lN (cod ru f s 0) := by
  unfold t_X6_whyOfTwo
  by_cases h : s = 0
  · rw [if_pos ((nO_m1 (by omega)).mpr h), if_pos h, lN_no]
  · rw [if_neg (fun q => h ((nO_m1 (by omega)).mp q)), if_neg h]
    have := whyOf_ok (a := 0) h1 h2 h3 (by omega)
    rw [nO_0] at this
    exact this
theorem shr_ok {c k : Nat} (hc : c < 2 ^ 62) (hk : k < 64) : lN c >>> ((nI k).toInt64 &&& 63) = lN (c / 2 ^ k) := by
  have e := wb_c k hk
  rw [e]
  refine pf_shr ?_ hc
  rw [wb_tb]
  have h := wb_sm k hk
  rw [h]
  simp
  omega
theorem part_ok {c k b : Nat} (hc : c < 2 ^ 62) (hk : k < 64) (hb : b < 31) : t_X6_partOfWhy (lN c) (nI k) (nI b) = nI (c / 2 ^ k % 2 ^ b) := by
  unfold t_X6_partOfWhy
  rw [shr_ok hc hk, lN_i]
  have e1 : ((1 : Int32) <<< (nI b &&& 31)) - (1 : Int32) = nI (2 ^ b - 1) := by
    have h2 : (1 : Int32) <<< (nI b &&& 31) = nI (2 ^ b) := by
      have key : ∀ j, j < 31 → (1 : Int32) <<< (nI j &&& 31) = nI (2 ^ j) := by decide +kernel
      exact key b hb
    rw [h2]
    exact nI_sub (b := 1) (Nat.one_le_two_pow)
  rw [e1]
  exact fa_mask _ _
theorem cod_a {ru f s a : Nat} (h2 : f < 2048) (h3 : s < 2048) (h4 : a < 64) : cod ru f s a % 64 = a ∧ cod ru f s a / 64 % 2048 = s ∧ cod ru f s a / 131072 % 2048 = f ∧ cod ru f s a / 268435456 = ru := by
  unfold cod
  omega
