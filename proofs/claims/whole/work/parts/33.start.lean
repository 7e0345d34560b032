theorem arr_known {args : Array Value} {s : State} {ty : FieldType} (h : (Cond.arrayClass ty).before args s = true) (hp : ∀ C, ty ≠ .object C) : ∃ cA : ClassId, ArrOfT s cA ty ∧ va_RA s cA ty := by
  obtain ⟨cA, kA, comp, h1, h2, h3⟩ := Cond.arrayClass_spec h
  refine ⟨cA, fun n z => ⟨fun k h => (by cases h), kA, h2, comp, h3⟩, ?_⟩
  cases ty with
  | object C => exact absurd rfl (hp C)
  | _ => exact h1
set_option maxHeartbeats 8000000 in
set_option maxRecDepth 100000 in
theorem whole_open {Inv : XS → MS → Prop} (SIM : SimAll Inv) {m0 : MS} (hm0 : f_X7_init = some m0) (hI : Inv x0 m0) {p : Program} {e : Env} {s : State} {m : MethodId} {below : List Frame} {meth : Method} {c : Code} (l : Launch) {b L : Nat} {xs : Nat → Int32} (hL : L ≤ 2048) (C0 : lw_At p s m meth c b L xs) : W p l e room_1 s m #[Value.ref b] below meth c s.heap [] 0 0 (lw_Z below #[Value.ref b] s) (entryFrame m ([Value.ref b] : List Value).toArray 4) := by
  obtain ⟨hx, hb, hr, hml, hown, hts, hX, hbl, hlocks, hgv⟩ := id C0
  have hB : ∀ w ∈ BIG, w.before #[Value.ref b] s = true := fun w h => hts w (bigIn w h)
  have hown : s.vm.findClass RL = some m.cls := hown
  have hA : ∀ q : Nat, s.heap.size ≤ q → (fun q : Nat => s.heap.size ≤ q) q := fun _ h => h
  obtain ⟨c0, iS0, hKn0⟩ := u_known (C := RX0) (T := TX0) (N := 2) (n := 2) hB inB_0 (hB _ bw_1_17)
  obtain ⟨c1, iS1, hKn1⟩ := u_known (C := RX1) (T := TX1) (N := 7) (n := 7) hB inB_1 (hB _ bw_2_1)
  obtain ⟨c2, iS2, hKn2⟩ := u_known (C := RX2) (T := TX2) (N := 2) (n := 2) hB inB_2 (hB _ bw_2_9)
  obtain ⟨c3, iS3, hKn3⟩ := u_known (C := RX3) (T := TX3) (N := 3) (n := 3) hB inB_3 (hB _ bw_1_13)
  obtain ⟨c4, iS4, hKn4⟩ := u_known (C := RX4) (T := TX4) (N := 2) (n := 2) hB inB_4 (hB _ bw_1_21)
  obtain ⟨c5, iS5, hKn5⟩ := u_known (C := RX5) (T := TX5) (N := 5) (n := 5) hB inB_5 (hB _ bw_2_5)
  obtain ⟨c6, iS6, hKn6⟩ := u_known (C := RX6) (T := TX6) (N := 8) (n := 8) hB inB_6 (hB _ bw_1_1)
  obtain ⟨c7, iS7, hKn7⟩ := u_known (C := RX7) (T := TX7) (N := 32) (n := 32) hB inB_7 (hB _ bw_1_4)
  obtain ⟨cyI, hyI⟩ := arr_known (hB _ bw_2_18) (fun C => by intro h; cases h)
  obtain ⟨cyJ, hyJ⟩ := arr_known (hB _ bw_3_19) (fun C => by intro h; cases h)
  obtain ⟨cyZ, hyZ⟩ := arr_known (hB _ bw_4_23) (fun C => by intro h; cases h)
  obtain ⟨dC, dI, hKc⟩ : ∃ (dC : Nat → ClassId) (dI : Nat → Nat → Nat), ∀ (k : Nat) (q : vw_C), vwCl[k]? = some q → u_Kn s q.1 q.2.1 q.2.2 (dC k) (dI k) := by
    refine ⟨fun k => if k = 0 then c0 else if k = 1 then c1 else if k = 2 then c2 else if k = 3 then c3 else if k = 4 then c4 else if k = 5 then c5 else if k = 6 then c6 else c7, fun k => if k = 0 then iS0 else if k = 1 then iS1 else if k = 2 then iS2 else if k = 3 then iS3 else if k = 4 then iS4 else if k = 5 then iS5 else if k = 6 then iS6 else iS7, ?_⟩
    intro k q hq
    rcases (show k = 0 ∨ k = 1 ∨ k = 2 ∨ k = 3 ∨ k = 4 ∨ k = 5 ∨ k = 6 ∨ k = 7 ∨ 8 ≤ k by omega) with rfl | rfl | rfl | rfl | rfl | rfl | rfl | rfl | hk
    · cases hq; exact hKn0
    · cases hq; exact hKn1
    · cases hq; exact hKn2
    · cases hq; exact hKn3
    · cases hq; exact hKn4
    · cases hq; exact hKn5
    · cases hq; exact hKn6
    · cases hq; exact hKn7
    · have := (List.getElem?_eq_some_iff.mp hq).1
      simp at this
      omega
  obtain ⟨g, hg⟩ : ∃ g : GG, g = ((dC, dI), cyI, cyJ, cyZ) := ⟨_, rfl⟩
  have hK : KK g s := by
    subst hg
    refine ⟨⟨hKc, fun k q hq => ?_⟩, fun w hw => ?_⟩
    · rcases (show k = 0 ∨ k = 1 ∨ k = 2 ∨ 3 ≤ k by omega) with rfl | rfl | rfl | hk
      · cases hq; exact hyI
      · cases hq; exact hyJ
      · cases hq; exact hyZ
      · have := (List.getElem?_eq_some_iff.mp hq).1
        simp [tysOf] at this
        omega
    · have h1 := hts w (List.mem_append_right _ (nestIn w hw))
      rcases isNest_cases (nestL_ok w hw) with ⟨a, i, b, n, d, e, rfl⟩ | ⟨a, i, x, e, rfl⟩
      · exact va_Nw.of rfl h1
      · exact va_Nw.of rfl h1
  have hC : CallFix p m c cL_law 4 s #[Value.ref b] BIG RL := ⟨hx, hb, hml, hown, hB⟩
  have hS : va_S (fun q : Nat => s.heap.size ≤ q) s.heap s.heap [] := va_S.rf
  have hP : va_P g.1 vwCl [] s.heap := fun k q h => by simp at h
  have hD : va_D (fun q : Nat => s.heap.size ≤ q) [] := ⟨fun i j p q h => by simp at h, fun k q h => by simp at h⟩
  have hl := lv_entry ([.ref b]) (n := 4) (Nat.le_of_ble_eq_true rfl)
  rw [lg_entry_eq]
  generalize (lg_sl ([.ref b]) ++ List.replicate (4 - (lg_sl ([.ref b])).length) Slot.unset).toArray = ls at hl ⊢
  have hl : lv_has ls 4 [(0, .ref b)] := hl
  refine va_new (ci := 6) (fs := [.null, .null, .null, .null, .null, .null, .int 0, .int 0]) (C := RX6) (T := TX6) (N := 8) hx hb hB inB_6 tyX6 tyX6_ok hown (hB _ bw_1_0) (hB _ bw_1_1) (hB _ bw_1_2) hK.1 hP hD hS hA rfl (fun j hj => by rcases (show j = 0 ∨ j = 1 ∨ j = 2 ∨ j = 3 ∨ j = 4 ∨ j = 5 ∨ j = 6 ∨ j = 7 by omega) with rfl | rfl | rfl | rfl | rfl | rfl | rfl | rfl <;> rfl) (Nat.le_of_ble_eq_true rfl) (Nat.le_of_ble_eq_true rfl) dL_law_0 (fun qx H hP hD hS => ?_)
  have hP : va_P g.1 vwCl [(qx, .inr (6, [.null, .null, .null, .null, .null, .null, .int 0, .int 0]))] H := hP
  have hD : va_D (fun q : Nat => s.heap.size ≤ q) [(qx, .inr (6, [.null, .null, .null, .null, .null, .null, .int 0, .int 0]))] := hD
  refine W.widen (k := 1) (n := 8) (Nat.le_of_ble_eq_true rfl) (Nat.le_of_ble_eq_true rfl) ?_
  refine lv_dup hx hb dL_law_3 rfl ?_
  have hFc := va_free (wc := [(qx, .inr (6, [.null, .null, .null, .null, .null, .null, .int 0, .int 0]))]) hD hS hA [0] rfl
  refine va_callv (va_runI (As := []) (rest := [.ref qx]) hC (m_X6_init l g qx H.size) (kI_of hB bw_1_8 bw_1_7 bw_1_2 kd_X6_init bw_1_6 rfl rfl rfl ⟨Nat.le_of_ble_eq_true rfl, Nat.le_of_ble_eq_true rfl⟩) (pre_rw hK hP hD) rfl rfl hl.1 rfl (lv_room (Nat.le_of_ble_eq_true rfl)) dL_law_4 ⟨Nat.le_of_ble_eq_true rfl, Nat.le_of_ble_eq_true rfl⟩) hS (fun q _ h => hFc q h) hFc (fun a t H1 locs ht hvm ha hB1 hz1 hk1 hS => ?_)
  obtain ⟨hP1, hD1⟩ := hB1
  rw [ht] at hP1
  have hD : va_D (fun q : Nat => s.heap.size ≤ q) (xW g a x0) := hD1.weaken (fun _ _ _ h => hFc _ h)
  have hP := hP1
  clear hP1 hD1 hFc hk1
  generalize H1 = H at hP hS ⊢
  refine W.widen (k := 19) (n := 12469) (Nat.le_of_ble_eq_true rfl) (Nat.le_of_ble_eq_true rfl) ?_
  refine lv_astore_n (lv' := [(1, .ref qx), (0, .ref b)]) hx hb dL_law_7 rfl hl (by decide) rfl (fun ls hl => ?_)
  refine va_new (ci := 7) (fs := [.int 0, .int 0, .null, .null, .null, .int 0, .null, .null, .null, .null, .null, .int 0, .int 0, .int 0, .int 0, .null, .null, .null, .null, .null, .null, .null, .null, .null, .null, .null, .null, .int 0, .null, .null, .null, .null]) (C := RX7) (T := TX7) (N := 32) hx hb hB inB_7 tyX7 tyX7_ok hown (hB _ bw_1_3) (hB _ bw_1_4) (hB _ bw_1_5) hK.1 hP hD hS hA rfl (fun j hj => by rcases (show j = 0 ∨ j = 1 ∨ j = 2 ∨ j = 3 ∨ j = 4 ∨ j = 5 ∨ j = 6 ∨ j = 7 ∨ j = 8 ∨ j = 9 ∨ j = 10 ∨ j = 11 ∨ j = 12 ∨ j = 13 ∨ j = 14 ∨ j = 15 ∨ j = 16 ∨ j = 17 ∨ j = 18 ∨ j = 19 ∨ j = 20 ∨ j = 21 ∨ j = 22 ∨ j = 23 ∨ j = 24 ∨ j = 25 ∨ j = 26 ∨ j = 27 ∨ j = 28 ∨ j = 29 ∨ j = 30 ∨ j = 31 by omega) with rfl | rfl | rfl | rfl | rfl | rfl | rfl | rfl | rfl | rfl | rfl | rfl | rfl | rfl | rfl | rfl | rfl | rfl | rfl | rfl | rfl | rfl | rfl | rfl | rfl | rfl | rfl | rfl | rfl | rfl | rfl | rfl <;> rfl) (Nat.le_of_ble_eq_true rfl) (Nat.le_of_ble_eq_true rfl) dL_law_8 (fun qm H hP hD hS => ?_)
  refine W.widen (k := 20) (n := 12501) (Nat.le_of_ble_eq_true rfl) (Nat.le_of_ble_eq_true rfl) ?_
  refine lv_dup hx hb dL_law_11 rfl ?_
  have hDr := va_D_r hD
  have hFc : ∀ q, va_A [(qm, .inr (7, [.int 0, .int 0, .null, .null, .null, .int 0, .null, .null, .null, .null, .null, .int 0, .int 0, .int 0, .int 0, .null, .null, .null, .null, .null, .null, .null, .null, .null, .null, .null, .null, .int 0, .null, .null, .null, .null]))] H.size q → s.heap.size ≤ q := fun q h => va_AD hDr hA hS q h
  refine va_callv (va_runI (As := []) (rest := [.ref qm]) hC (m_X7_init l g qm m0 hm0 H.size) (kI_of hB bw_4_14 bw_4_13 bw_1_5 kd_X7_init bw_4_12 rfl rfl rfl ⟨Nat.le_of_ble_eq_true rfl, Nat.le_of_ble_eq_true rfl⟩) (pre_rw hK (va_P_r hP) hDr) rfl rfl hl.1 rfl (lv_room (Nat.le_of_ble_eq_true rfl)) dL_law_12 ⟨Nat.le_of_ble_eq_true rfl, Nat.le_of_ble_eq_true rfl⟩) hS (fun q _ h => hFc q h) hFc (fun bb t H1 locs ht hvm hbq hB1 hz1 hk1 hS1 => ?_)
  obtain ⟨hP1, hD1⟩ := hB1
  rw [ht] at hP1
  have hPx : va_P g.1 vwCl (xW g a x0) H1 := kept_l hP hD hk1
  have hPn : va_P g.1 vwCl (xW g a x0 ++ mW g bb m0) H1 := hPx.app hP1
  have hDn : va_D (fun q : Nat => s.heap.size ≤ q) (xW g a x0 ++ mW g bb m0) := by
    refine va_D.app (va_D_l hD) (hD1.weaken (fun _ _ _ h => hFc _ h)) (fun i j x y hi hj hxy => ?_)
    have hlx := ((va_P_l hP) i x hi).lt
    rcases hD1.2 j y hj with ⟨k, e, hk⟩ | h
    · have h1 : (xW g a x0 ++ [(qm, .inr (7, [.int 0, .int 0, .null, .null, .null, .int 0, .null, .null, .null, .null, .null, .int 0, .int 0, .int 0, .int 0, .null, .null, .null, .null, .null, .null, .null, .null, .null, .null, .null, .null, .int 0, .null, .null, .null, .null]))])[i]? = some x := by rw [List.getElem?_append_left (List.getElem?_eq_some_iff.mp hi).1]; exact hi
      have h2 : (xW g a x0 ++ [(qm, .inr (7, [.int 0, .int 0, .null, .null, .null, .int 0, .null, .null, .null, .null, .null, .int 0, .int 0, .int 0, .int 0, .null, .null, .null, .null, .null, .null, .null, .null, .null, .null, .null, .null, .int 0, .null, .null, .null, .null]))])[(xW g a x0).length + k]? = some (y.1, e) := by rw [List.getElem?_append_right (by omega), show (xW g a x0).length + k - (xW g a x0).length = k by omega]; exact hk
      have h3 := hD.1 _ _ _ _ h1 h2 hxy
      have h4 := (List.getElem?_eq_some_iff.mp hi).1
      omega
    · omega
  have hDD : ∀ (sx : XS) (sm : MS), va_D (fun q : Nat => s.heap.size ≤ q) (xW g a sx ++ mW g bb sm) := fun sx sm => wd_congr (w := xW g a x0 ++ mW g bb m0) (w' := xW g a sx ++ mW g bb sm) rfl hDn
  refine va_forget (fun q hq => hS1.2.2 q hq) ?_
  refine W.widen (k := 600000) (n := 7302250) (Nat.le_of_ble_eq_true rfl) (Nat.le_of_ble_eq_true rfl) ?_
  refine lv_astore_n (lv' := [(2, .ref qm), (1, .ref qx), (0, .ref b)]) hx hb dL_law_15 rfl hl (by decide) rfl (fun ls hl => ?_)
  refine lv_iconst (v := 0) hx hb dL_law_16 (by decide) ?_
  refine lv_istore_n (lv' := [(3, .int 0), (2, .ref qm), (1, .ref qx), (0, .ref b)]) hx hb dL_law_17 rfl hl (by decide) rfl (fun ls hl => ?_)
  have hS2 : va_S (fun q : Nat => s.heap.size ≤ q) s.heap H1 [] := ⟨hS1.1, hS1.2.1, fun _ h => by cases h⟩
  subst ha
  subst hbq
  exact law_loop SIM hL C0 hB hK hDD (L + 1) 0 0 (Nat.zero_le L) (by omega) nI_0.symm x0 m0 hI H1 [] hPn hS2 ls (lv_sub hl [3, 2, 1, 0] rfl)
