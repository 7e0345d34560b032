noncomputable def f_X3_add (st : XS) (p1 : Int32) (p2 : Int32) (p3 : Int32) : Option (Int32 × XS) :=
  (Option.bind (some (sA st 2 (t_X6_put 60 (st.1 2) ((st.1 30 0) * (3 : Int32)) p1))) (fun r1 => (Option.bind (some (sA r1 2 (t_X6_put 60 (r1.1 2) (((st.1 30 0) * (3 : Int32)) + (1 : Int32)) p2))) (fun r2 => (Option.bind (some (sA r2 2 (t_X6_put 60 (r2.1 2) (((st.1 30 0) * (3 : Int32)) + (2 : Int32)) p3))) (fun r3 => (if p1 = (2 : Int32) then (Option.bind (some (sA r3 31 (fun _ => ((r3.1 31 0) + (1 : Int32))))) (fun r6 => (Option.bind (some (sA r6 30 (fun _ => ((r6.1 30 0) + (1 : Int32))))) (fun r7 => some (((r6.1 30 0), r7)))))) else (Option.bind (some (sA r3 30 (fun _ => ((r3.1 30 0) + (1 : Int32))))) (fun r5 => some (((r3.1 30 0), r5)))))))))))
set_option maxHeartbeats 4000000 in
set_option maxRecDepth 100000 in
theorem m_X3_add (l : Launch) (g : GG) (a : Nat → Nat) (st : XS) (sz : Nat) (p1 : Int32) (p2 : Int32) (p3 : Int32) (res : (Int32 × XS)) (hs : f_X3_add st p1 p2 p3 = some res) : Met l yX3_add (Cond.code yX3_add cX3_add 5 (some .int) :: BIG) ({ frames := 1, cells := 0, slots := 0, locals := 22 } : Room) (va_Pc [.ref (a 1), .int p1, .int p2, .int p3] (RWp g (xW g a st) sz)) (RWi res.1 g (xW g a res.2) (va_A (xW g a st) sz)) 0 0 (va_A (xW g a st) sz) := by
  refine rw_start (cc := cX3_add) (maxL := 5) (ret := (some .int)) (lv := [(0, .ref (a 1)), (1, .int p1), (2, .int p2), (3, .int p3)]) (Qc := fun A => (RWi res.1 g (xW g a res.2) A)) (by decide) rfl (Nat.le_of_ble_eq_true rfl) rfl ?_
  intro p e s m args below meth c hx hb hml hr hts hown hlk hK A hD0 hA H locs hP hS ls hl
  have hD : ∀ st' : XS, va_D A (xW g a st') := fun _ => xW_D hD0
  have hB : ∀ w ∈ BIG, w.before args s = true := fun w h => hts w (List.mem_cons_of_mem _ h)
  have hC : CallFix p m c cX3_add 5 s args BIG RX3 := ⟨hx, hb, hml, hown, hB⟩
  unfold f_X3_add at hs
  refine lv_aload_n hx hb dX3_add_0 rfl (lv_at hl 0 rfl) ?_
  refine xg_3_1 hx hb hB hown hK hP dX3_add_1 ?_
  refine lv_iconst (v := 3) hx hb dX3_add_4 (by decide) ?_
  refine lv_imul hx hb dX3_add_5 ?_
  refine lv_istore (lv' := [(4, .int ((st.1 30 0) * (3 : Int32))), (0, .ref (a 1)), (1, .int p1), (2, .int p2), (3, .int p3)]) hx hb dX3_add_6 hl (by decide) rfl (fun ls hl => ?_)
  refine lv_aload_n hx hb dX3_add_8 rfl (lv_at hl 1 rfl) ?_
  refine xg_3_0 hx hb hB hown hK hP dX3_add_9 ?_
  refine lv_iload hx hb dX3_add_12 (lv_at hl 0 rfl) ?_
  refine lv_iload_n hx hb dX3_add_14 rfl (lv_at hl 2 rfl) ?_
  obtain ⟨r1, e1, hs⟩ := Option.bind_eq_some_iff.mp hs
  have e1 := Option.some.inj e1
  refine cN_rwv (As := [.ref (a 2), .int ((st.1 30 0) * (3 : Int32)), .int p1]) (rest := []) hC (m_X6_put_2 l g a st r1 H.size ((st.1 30 0) * (3 : Int32)) p1 e1) (kn_of (host := "NotionRounds") hB bw_3_3 bw_3_2 bw_1_2 kd_X6_put (hK.2 _ (List.mem_of_getElem? (i := 0) rfl)) rfl rfl ⟨Nat.le_of_ble_eq_true rfl, Nat.le_of_ble_eq_true rfl⟩) hK hP (hD _) hA hS rfl hl.1 rfl (Nat.le_of_ble_eq_true rfl) dX3_add_15 ⟨Nat.zero_le _, Nat.zero_le _⟩ (fun H locs hP hS => ?_)
  refine lv_aload_n hx hb dX3_add_18 rfl (lv_at hl 1 rfl) ?_
  refine xg_3_0 hx hb hB hown hK hP dX3_add_19 ?_
  refine lv_iload hx hb dX3_add_22 (lv_at hl 0 rfl) ?_
  refine lv_iconst (v := 1) hx hb dX3_add_24 (by decide) ?_
  refine lv_iadd hx hb dX3_add_25 ?_
  refine lv_iload_n hx hb dX3_add_26 rfl (lv_at hl 3 rfl) ?_
  obtain ⟨r2, e2, hs⟩ := Option.bind_eq_some_iff.mp hs
  have e2 := Option.some.inj e2
  refine cN_rwv (As := [.ref (a 2), .int (((st.1 30 0) * (3 : Int32)) + (1 : Int32)), .int p2]) (rest := []) hC (m_X6_put_2 l g a r1 r2 H.size (((st.1 30 0) * (3 : Int32)) + (1 : Int32)) p2 e2) (kn_of (host := "NotionRounds") hB bw_3_3 bw_3_2 bw_1_2 kd_X6_put (hK.2 _ (List.mem_of_getElem? (i := 0) rfl)) rfl rfl ⟨Nat.le_of_ble_eq_true rfl, Nat.le_of_ble_eq_true rfl⟩) hK hP (hD _) hA hS rfl hl.1 rfl (Nat.le_of_ble_eq_true rfl) dX3_add_27 ⟨Nat.zero_le _, Nat.zero_le _⟩ (fun H locs hP hS => ?_)
  refine lv_aload_n hx hb dX3_add_30 rfl (lv_at hl 1 rfl) ?_
  refine xg_3_0 hx hb hB hown hK hP dX3_add_31 ?_
  refine lv_iload hx hb dX3_add_34 (lv_at hl 0 rfl) ?_
  refine lv_iconst (v := 2) hx hb dX3_add_36 (by decide) ?_
  refine lv_iadd hx hb dX3_add_37 ?_
  refine lv_iload_n hx hb dX3_add_38 rfl (lv_at hl 4 rfl) ?_
  obtain ⟨r3, e3, hs⟩ := Option.bind_eq_some_iff.mp hs
  have e3 := Option.some.inj e3
  refine cN_rwv (As := [.ref (a 2), .int (((st.1 30 0) * (3 : Int32)) + (2 : Int32)), .int p3]) (rest := []) hC (m_X6_put_2 l g a r2 r3 H.size (((st.1 30 0) * (3 : Int32)) + (2 : Int32)) p3 e3) (kn_of (host := "NotionRounds") hB bw_3_3 bw_3_2 bw_1_2 kd_X6_put (hK.2 _ (List.mem_of_getElem? (i := 0) rfl)) rfl rfl ⟨Nat.le_of_ble_eq_true rfl, Nat.le_of_ble_eq_true rfl⟩) hK hP (hD _) hA hS rfl hl.1 rfl (Nat.le_of_ble_eq_true rfl) dX3_add_39 ⟨Nat.zero_le _, Nat.zero_le _⟩ (fun H locs hP hS => ?_)
  refine lv_iload_n hx hb dX3_add_42 rfl (lv_at hl 2 rfl) ?_
  refine lv_iconst (v := 2) hx hb dX3_add_43 (by decide) ?_
  refine lv_icmp_ne (tgt := 57) hx hb dX3_add_44 (by decide) (fun c4 => ?_) (fun c4 => ?_)
  · have hs := ifn c4 hs
    refine lv_aload_n hx hb dX3_add_57 rfl (lv_at hl 1 rfl) ?_
    refine lv_dup hx hb dX3_add_58 rfl ?_
    refine xg_3_1 hx hb hB hown hK hP dX3_add_59 ?_
    refine lv_dup_x1 hx hb dX3_add_62 rfl rfl ?_
    refine lv_iconst (v := 1) hx hb dX3_add_63 (by decide) ?_
    refine lv_iadd hx hb dX3_add_64 ?_
    obtain ⟨r5, e5, hs⟩ := Option.bind_eq_some_iff.mp hs
    have e5 := Option.some.inj e5
    refine xp_30 hx hb hB hown hK hP hD hS e5 dX3_add_65 (fun H locs hP hS => ?_)
    cases hs
    exact ret_rwi hx hb hr hlk hP hS dX3_add_68
  · have hs := ifp c4 hs
    refine lv_aload_n hx hb dX3_add_47 rfl (lv_at hl 1 rfl) ?_
    refine lv_dup hx hb dX3_add_48 rfl ?_
    refine xg_3_2 hx hb hB hown hK hP dX3_add_49 ?_
    refine lv_iconst (v := 1) hx hb dX3_add_52 (by decide) ?_
    refine lv_iadd hx hb dX3_add_53 ?_
    obtain ⟨r6, e6, hs⟩ := Option.bind_eq_some_iff.mp hs
    have e6 := Option.some.inj e6
    refine xp_31 hx hb hB hown hK hP hD hS e6 dX3_add_54 (fun H locs hP hS => ?_)
    refine lv_aload_n hx hb dX3_add_57 rfl (lv_at hl 1 rfl) ?_
    refine lv_dup hx hb dX3_add_58 rfl ?_
    refine xg_3_1 hx hb hB hown hK hP dX3_add_59 ?_
    refine lv_dup_x1 hx hb dX3_add_62 rfl rfl ?_
    refine lv_iconst (v := 1) hx hb dX3_add_63 (by decide) ?_
    refine lv_iadd hx hb dX3_add_64 ?_
    obtain ⟨r7, e7, hs⟩ := Option.bind_eq_some_iff.mp hs
    have e7 := Option.some.inj e7
    refine xp_30 hx hb hB hown hK hP hD hS e7 dX3_add_65 (fun H locs hP hS => ?_)
    cases hs
    exact ret_rwi hx hb hr hlk hP hS dX3_add_68
noncomputable def f_X6_addNotion (st : XS) (p1 : Int32) (p2 : Int32) (p3 : Int32) : Option (Int32 × XS) :=
  (if (st.1 30 0) < (20 : Int32) then (Option.bind (some (sA st 36 (fun _ => (0 : Int32)))) (fun r2 => (Option.bind (f_X3_add r2 p1 p2 p3) (fun r3 => some ((r3.1, r3.2)))))) else some (((-104 : Int32), st)))
set_option maxHeartbeats 4000000 in
set_option maxRecDepth 100000 in
theorem m_X6_addNotion (l : Launch) (g : GG) (a : Nat → Nat) (st : XS) (sz : Nat) (p1 : Int32) (p2 : Int32) (p3 : Int32) (res : (Int32 × XS)) (hs : f_X6_addNotion st p1 p2 p3 = some res) : Met l yX6_addNotion (Cond.code yX6_addNotion cX6_addNotion 4 (some .int) :: BIG) ({ frames := 2, cells := 0, slots := 0, locals := 46 } : Room) (va_Pc [.ref (a 0), .int p1, .int p2, .int p3] (RWp g (xW g a st) sz)) (RWi res.1 g (xW g a res.2) (va_A (xW g a st) sz)) 0 0 (va_A (xW g a st) sz) := by
  refine rw_start (cc := cX6_addNotion) (maxL := 4) (ret := (some .int)) (lv := [(0, .ref (a 0)), (1, .int p1), (2, .int p2), (3, .int p3)]) (Qc := fun A => (RWi res.1 g (xW g a res.2) A)) (by decide) rfl (Nat.le_of_ble_eq_true rfl) rfl ?_
  intro p e s m args below meth c hx hb hml hr hts hown hlk hK A hD0 hA H locs hP hS ls hl
  have hD : ∀ st' : XS, va_D A (xW g a st') := fun _ => xW_D hD0
  have hB : ∀ w ∈ BIG, w.before args s = true := fun w h => hts w (List.mem_cons_of_mem _ h)
  have hC : CallFix p m c cX6_addNotion 4 s args BIG RX6 := ⟨hx, hb, hml, hown, hB⟩
  unfold f_X6_addNotion at hs
  refine lv_aload_n hx hb dX6_addNotion_0 rfl (lv_at hl 0 rfl) ?_
  refine xg_6_0 hx hb hB hown hK hP dX6_addNotion_1 ?_
  refine xn_RX6_145 hx hb hB hown hK hP dX6_addNotion_4 ?_
  refine lv_bipush (v := 20) hx hb dX6_addNotion_7 (by decide) ?_
  refine lv_icmp_lt (tgt := 15) hx hb dX6_addNotion_9 (by decide) (fun c1 => ?_) (fun c1 => ?_)
  · have hs := ifp c1 hs
    refine lv_aload_n hx hb dX6_addNotion_15 rfl (lv_at hl 0 rfl) ?_
    refine lv_iconst (v := 0) hx hb dX6_addNotion_16 (by decide) ?_
    obtain ⟨r2, e2, hs⟩ := Option.bind_eq_some_iff.mp hs
    have e2 := Option.some.inj e2
    refine xp_36 hx hb hB hown hK hP hD hS (Or.inl rfl) e2 dX6_addNotion_17 (fun H locs hP hS => ?_)
    refine lv_aload_n hx hb dX6_addNotion_20 rfl (lv_at hl 0 rfl) ?_
    refine xg_6_0 hx hb hB hown hK hP dX6_addNotion_21 ?_
    refine lv_iload_n hx hb dX6_addNotion_24 rfl (lv_at hl 1 rfl) ?_
    refine lv_iload_n hx hb dX6_addNotion_25 rfl (lv_at hl 2 rfl) ?_
    refine lv_iload_n hx hb dX6_addNotion_26 rfl (lv_at hl 3 rfl) ?_
    obtain ⟨r3, e3, hs⟩ := Option.bind_eq_some_iff.mp hs
    refine cV_rwi (As := [.int p1, .int p2, .int p3]) (rest := []) hC (m_X3_add l g a r2 H.size p1 p2 p3 r3 e3) (kv_of hB bw_2_23 bw_2_21 bw_2_22 bw_1_14 kd_X3_add bw_6_3 rfl rfl ⟨Nat.le_of_ble_eq_true rfl, Nat.le_of_ble_eq_true rfl⟩) hK hP (hD _) hA hS (xW_1 g a r2) rfl rfl hl.1 rfl (Nat.le_of_ble_eq_true rfl) dX6_addNotion_27 ⟨Nat.zero_le _, Nat.zero_le _⟩ (fun H locs hP hS => ?_)
    cases hs
    exact ret_rwi hx hb hr hlk hP hS dX6_addNotion_30
  · have hs := ifn c1 hs
    refine lv_bipush (v := -104) hx hb dX6_addNotion_12 (by decide) ?_
    cases hs
    exact ret_rwi hx hb hr hlk hP hS dX6_addNotion_14
noncomputable def f_X6_make (st : XS) : Option (Int32 × XS) :=
  (if (st.1 31 0) < (10 : Int32) then (Option.bind (f_X6_addNotion st (2 : Int32) (-1 : Int32) (-1 : Int32)) (fun r2 => some ((r2.1, r2.2)))) else some (((-104 : Int32), st)))
set_option maxHeartbeats 4000000 in
set_option maxRecDepth 100000 in
theorem m_X6_make (l : Launch) (g : GG) (a : Nat → Nat) (st : XS) (sz : Nat)  (res : (Int32 × XS)) (hs : f_X6_make st = some res) : Met l yX6_make (Cond.code yX6_make cX6_make 1 (some .int) :: BIG) ({ frames := 3, cells := 0, slots := 0, locals := 69 } : Room) (va_Pc [.ref (a 0)] (RWp g (xW g a st) sz)) (RWi res.1 g (xW g a res.2) (va_A (xW g a st) sz)) 0 0 (va_A (xW g a st) sz) := by
  refine rw_start (cc := cX6_make) (maxL := 1) (ret := (some .int)) (lv := [(0, .ref (a 0))]) (Qc := fun A => (RWi res.1 g (xW g a res.2) A)) (by decide) rfl (Nat.le_of_ble_eq_true rfl) rfl ?_
  intro p e s m args below meth c hx hb hml hr hts hown hlk hK A hD0 hA H locs hP hS ls hl
  have hD : ∀ st' : XS, va_D A (xW g a st') := fun _ => xW_D hD0
  have hB : ∀ w ∈ BIG, w.before args s = true := fun w h => hts w (List.mem_cons_of_mem _ h)
  have hC : CallFix p m c cX6_make 1 s args BIG RX6 := ⟨hx, hb, hml, hown, hB⟩
  unfold f_X6_make at hs
  refine lv_aload_n hx hb dX6_make_0 rfl (lv_at hl 0 rfl) ?_
  refine xg_6_0 hx hb hB hown hK hP dX6_make_1 ?_
  refine xn_RX6_61 hx hb hB hown hK hP dX6_make_4 ?_
  refine lv_bipush (v := 10) hx hb dX6_make_7 (by decide) ?_
  refine lv_icmp_lt (tgt := 15) hx hb dX6_make_9 (by decide) (fun c1 => ?_) (fun c1 => ?_)
  · have hs := ifp c1 hs
    refine lv_aload_n hx hb dX6_make_15 rfl (lv_at hl 0 rfl) ?_
    refine lv_iconst (v := 2) hx hb dX6_make_16 (by decide) ?_
    refine lv_iconst (v := -1) hx hb dX6_make_17 (by decide) ?_
    refine lv_iconst (v := -1) hx hb dX6_make_18 (by decide) ?_
    obtain ⟨r2, e2, hs⟩ := Option.bind_eq_some_iff.mp hs
    refine cV_rwi (As := [.int (2 : Int32), .int (-1 : Int32), .int (-1 : Int32)]) (rest := []) hC (m_X6_addNotion l g a st H.size (2 : Int32) (-1 : Int32) (-1 : Int32) r2 e2) (kv_of hB bw_6_2 bw_6_0 bw_6_1 bw_1_2 kd_X6_addNotion bw_5_23 rfl rfl ⟨Nat.le_of_ble_eq_true rfl, Nat.le_of_ble_eq_true rfl⟩) hK hP (hD _) hA hS (xW_0 g a st) rfl rfl hl.1 rfl (Nat.le_of_ble_eq_true rfl) dX6_make_19 ⟨Nat.zero_le _, Nat.zero_le _⟩ (fun H locs hP hS => ?_)
    cases hs
    exact ret_rwi hx hb hr hlk hP hS dX6_make_22
  · have hs := ifn c1 hs
    refine lv_bipush (v := -104) hx hb dX6_make_12 (by decide) ?_
    cases hs
    exact ret_rwi hx hb hr hlk hP hS dX6_make_14
def t_X6_within (p0 : Int32) (p1 : Int32) : Int32 :=
  (if p0 < 0 then (0 : Int32) else (if p1 ≤ p0 then (0 : Int32) else (1 : Int32)))
theorem z_X6_within (p0 : Int32) (p1 : Int32) : t_X6_within p0 p1 = 0 ∨ t_X6_within p0 p1 = 1 := by
  unfold t_X6_within
  (repeat' split) <;> first | exact Or.inl rfl | exact Or.inr rfl
set_option maxHeartbeats 4000000 in
set_option maxRecDepth 100000 in
theorem m_X6_within (l : Launch) (g : GG) (w : va_W) (p0 : Int32) (p1 : Int32) : Met l yX6_within (Cond.code yX6_within cX6_within 2 (some .boolean) :: BIG) ({ frames := 0, cells := 0, slots := 0, locals := 0 } : Room) (va_Pc [.int p0, .int p1] (ROp g w)) (ROi (t_X6_within p0 p1)) 0 0 (fun _ => False) := by
  obtain ⟨res, hs⟩ : ∃ z, t_X6_within p0 p1 = z := ⟨_, rfl⟩
  rw [hs]
  refine ro_start (cc := cX6_within) (maxL := 2) (ret := (some .boolean)) (lv := [(0, .int p0), (1, .int p1)]) (by decide) rfl (Nat.le_of_ble_eq_true rfl) rfl ?_
  intro p e s m args below meth c hx hb hml hr hts hown hlk hK H locs hP hS ls hl
  have hB : ∀ w ∈ BIG, w.before args s = true := fun w h => hts w (List.mem_cons_of_mem _ h)
  have hC : CallFix p m c cX6_within 2 s args BIG RX6 := ⟨hx, hb, hml, hown, hB⟩
  unfold t_X6_within at hs
  refine lv_iload_n hx hb dX6_within_0 rfl (lv_at hl 0 rfl) ?_
  refine lv_if_lt (tgt := 13) hx hb dX6_within_1 (by decide) (fun c1 => ?_) (fun c1 => ?_)
  · have hs := ifp c1 hs
    refine lv_iconst (v := 0) hx hb dX6_within_13 (by decide) ?_
    subst hs
    exact ret_roz hx hb hr (zn_of (Or.inl rfl)) hlk hS dX6_within_14
  · have hs := ifn c1 hs
    refine lv_iload_n hx hb dX6_within_4 rfl (lv_at hl 0 rfl) ?_
    refine lv_iload_n hx hb dX6_within_5 rfl (lv_at hl 1 rfl) ?_
    refine lv_icmp_ge (tgt := 13) hx hb dX6_within_6 (by decide) (fun c2 => ?_) (fun c2 => ?_)
    · have hs := ifp c2 hs
      refine lv_iconst (v := 0) hx hb dX6_within_13 (by decide) ?_
      subst hs
      exact ret_roz hx hb hr (zn_of (Or.inl rfl)) hlk hS dX6_within_14
    · have hs := ifn c2 hs
      refine lv_iconst (v := 1) hx hb dX6_within_9 (by decide) ?_
      refine lv_goto (tgt := 14) hx hb dX6_within_10 (by decide) ?_
      subst hs
      exact ret_roz hx hb hr (zn_of (Or.inr rfl)) hlk hS dX6_within_14
def t_X3_knows (st : XS) (p1 : Int32) : Int32 :=
  (t_X6_within p1 (st.1 30 0))
theorem z_X3_knows (st : XS) (p1 : Int32) : t_X3_knows st p1 = 0 ∨ t_X3_knows st p1 = 1 := by
  unfold t_X3_knows
  (repeat' split) <;> first | exact Or.inl rfl | exact Or.inr rfl | exact z_X6_within _ _
set_option maxHeartbeats 4000000 in
set_option maxRecDepth 100000 in
theorem m_X3_knows (l : Launch) (g : GG) (a : Nat → Nat) (st : XS) (p1 : Int32) : Met l yX3_knows (Cond.code yX3_knows cX3_knows 2 (some .boolean) :: BIG) ({ frames := 1, cells := 0, slots := 0, locals := 21 } : Room) (va_Pc [.ref (a 1), .int p1] (ROp g (xW g a st))) (ROi (t_X3_knows st p1)) 0 0 (fun _ => False) := by
  obtain ⟨res, hs⟩ : ∃ z, t_X3_knows st p1 = z := ⟨_, rfl⟩
  rw [hs]
  refine ro_start (cc := cX3_knows) (maxL := 2) (ret := (some .boolean)) (lv := [(0, .ref (a 1)), (1, .int p1)]) (by decide) rfl (Nat.le_of_ble_eq_true rfl) rfl ?_
  intro p e s m args below meth c hx hb hml hr hts hown hlk hK H locs hP hS ls hl
  have hB : ∀ w ∈ BIG, w.before args s = true := fun w h => hts w (List.mem_cons_of_mem _ h)
  have hC : CallFix p m c cX3_knows 2 s args BIG RX3 := ⟨hx, hb, hml, hown, hB⟩
  unfold t_X3_knows at hs
  refine lv_iload_n hx hb dX3_knows_0 rfl (lv_at hl 1 rfl) ?_
  refine lv_aload_n hx hb dX3_knows_1 rfl (lv_at hl 0 rfl) ?_
  refine xg_3_1 hx hb hB hown hK hP dX3_knows_2 ?_
  refine cN_roi (As := [.int p1, .int (st.1 30 0)]) (rest := []) hC (m_X6_within l g (xW g a st) p1 (st.1 30 0)) (kn_of (host := "NotionRounds") hB bw_7_6 bw_7_5 bw_1_2 kd_X6_within (hK.2 _ (List.mem_of_getElem? (i := 15) rfl)) rfl rfl ⟨Nat.le_of_ble_eq_true rfl, Nat.le_of_ble_eq_true rfl⟩) hK hP hP hS rfl hl.1 rfl (Nat.le_of_ble_eq_true rfl) dX3_knows_5 ⟨Nat.zero_le _, Nat.zero_le _⟩ (fun H locs hP hS => ?_)
  subst hs
  exact ret_roz hx hb hr (zn_of (z_X6_within _ _)) hlk hS dX3_knows_8
def t_X3_part (st : XS) (p1 : Int32) (p2 : Int32) : Int32 :=
  (t_X6_at 60 (st.1 2) ((p1 * (3 : Int32)) + p2))
set_option maxHeartbeats 4000000 in
set_option maxRecDepth 100000 in
theorem m_X3_part (l : Launch) (g : GG) (a : Nat → Nat) (st : XS) (p1 : Int32) (p2 : Int32) : Met l yX3_part (Cond.code yX3_part cX3_part 3 (some .int) :: BIG) ({ frames := 1, cells := 0, slots := 0, locals := 21 } : Room) (va_Pc [.ref (a 1), .int p1, .int p2] (ROp g (xW g a st))) (ROi (t_X3_part st p1 p2)) 0 0 (fun _ => False) := by
  obtain ⟨res, hs⟩ : ∃ z, t_X3_part st p1 p2 = z := ⟨_, rfl⟩
  rw [hs]
  refine ro_start (cc := cX3_part) (maxL := 3) (ret := (some .int)) (lv := [(0, .ref (a 1)), (1, .int p1), (2, .int p2)]) (by decide) rfl (Nat.le_of_ble_eq_true rfl) rfl ?_
  intro p e s m args below meth c hx hb hml hr hts hown hlk hK H locs hP hS ls hl
  have hB : ∀ w ∈ BIG, w.before args s = true := fun w h => hts w (List.mem_cons_of_mem _ h)
  have hC : CallFix p m c cX3_part 3 s args BIG RX3 := ⟨hx, hb, hml, hown, hB⟩
  unfold t_X3_part at hs
  refine lv_aload_n hx hb dX3_part_0 rfl (lv_at hl 0 rfl) ?_
  refine xg_3_0 hx hb hB hown hK hP dX3_part_1 ?_
  refine lv_iload_n hx hb dX3_part_4 rfl (lv_at hl 1 rfl) ?_
  refine lv_iconst (v := 3) hx hb dX3_part_5 (by decide) ?_
  refine lv_imul hx hb dX3_part_6 ?_
  refine lv_iload_n hx hb dX3_part_7 rfl (lv_at hl 2 rfl) ?_
  refine lv_iadd hx hb dX3_part_8 ?_
  refine cN_roi (As := [.ref (a 2), .int ((p1 * (3 : Int32)) + p2)]) (rest := []) hC (m_X6_at l g (xW g a st) 2 60 (st.1 2) (a 2) (xW_2 g a st) (by decide) ((p1 * (3 : Int32)) + p2)) (kn_of (host := "NotionRounds") hB bw_8_0 bw_7_23 bw_1_2 kd_X6_at (hK.2 _ (List.mem_of_getElem? (i := 16) rfl)) rfl rfl ⟨Nat.le_of_ble_eq_true rfl, Nat.le_of_ble_eq_true rfl⟩) hK hP hP hS rfl hl.1 rfl (Nat.le_of_ble_eq_true rfl) dX3_part_9 ⟨Nat.zero_le _, Nat.zero_le _⟩ (fun H locs hP hS => ?_)
  subst hs
  exact ret_roi hx hb hr hlk hS dX3_part_12
def t_X3_sort (st : XS) (p1 : Int32) : Int32 :=
  (t_X3_part st p1 (0 : Int32))
set_option maxHeartbeats 4000000 in
set_option maxRecDepth 100000 in
theorem m_X3_sort (l : Launch) (g : GG) (a : Nat → Nat) (st : XS) (p1 : Int32) : Met l yX3_sort (Cond.code yX3_sort cX3_sort 2 (some .int) :: BIG) ({ frames := 2, cells := 0, slots := 0, locals := 43 } : Room) (va_Pc [.ref (a 1), .int p1] (ROp g (xW g a st))) (ROi (t_X3_sort st p1)) 0 0 (fun _ => False) := by
  obtain ⟨res, hs⟩ : ∃ z, t_X3_sort st p1 = z := ⟨_, rfl⟩
  rw [hs]
  refine ro_start (cc := cX3_sort) (maxL := 2) (ret := (some .int)) (lv := [(0, .ref (a 1)), (1, .int p1)]) (by decide) rfl (Nat.le_of_ble_eq_true rfl) rfl ?_
  intro p e s m args below meth c hx hb hml hr hts hown hlk hK H locs hP hS ls hl
  have hB : ∀ w ∈ BIG, w.before args s = true := fun w h => hts w (List.mem_cons_of_mem _ h)
  have hC : CallFix p m c cX3_sort 2 s args BIG RX3 := ⟨hx, hb, hml, hown, hB⟩
  unfold t_X3_sort at hs
  refine lv_aload_n hx hb dX3_sort_0 rfl (lv_at hl 0 rfl) ?_
  refine lv_iload_n hx hb dX3_sort_1 rfl (lv_at hl 1 rfl) ?_
  refine lv_iconst (v := 0) hx hb dX3_sort_2 (by decide) ?_
  refine cV_roi (As := [.int p1, .int (0 : Int32)]) (rest := []) hC (m_X3_part l g a st p1 (0 : Int32)) (kv_of hB bw_7_22 bw_7_20 bw_7_21 bw_1_14 kd_X3_part bw_7_19 rfl rfl ⟨Nat.le_of_ble_eq_true rfl, Nat.le_of_ble_eq_true rfl⟩) hK hP hP hS (xW_1 g a st) rfl rfl hl.1 rfl (Nat.le_of_ble_eq_true rfl) dX3_sort_3 ⟨Nat.zero_le _, Nat.zero_le _⟩ (fun H locs hP hS => ?_)
  subst hs
  exact ret_roi hx hb hr hlk hS dX3_sort_6
def t_X3_first (st : XS) (p1 : Int32) : Int32 :=
  (t_X3_part st p1 (1 : Int32))
set_option maxHeartbeats 4000000 in
set_option maxRecDepth 100000 in
theorem m_X3_first (l : Launch) (g : GG) (a : Nat → Nat) (st : XS) (p1 : Int32) : Met l yX3_first (Cond.code yX3_first cX3_first 2 (some .int) :: BIG) ({ frames := 2, cells := 0, slots := 0, locals := 43 } : Room) (va_Pc [.ref (a 1), .int p1] (ROp g (xW g a st))) (ROi (t_X3_first st p1)) 0 0 (fun _ => False) := by
  obtain ⟨res, hs⟩ : ∃ z, t_X3_first st p1 = z := ⟨_, rfl⟩
  rw [hs]
  refine ro_start (cc := cX3_first) (maxL := 2) (ret := (some .int)) (lv := [(0, .ref (a 1)), (1, .int p1)]) (by decide) rfl (Nat.le_of_ble_eq_true rfl) rfl ?_
  intro p e s m args below meth c hx hb hml hr hts hown hlk hK H locs hP hS ls hl
  have hB : ∀ w ∈ BIG, w.before args s = true := fun w h => hts w (List.mem_cons_of_mem _ h)
  have hC : CallFix p m c cX3_first 2 s args BIG RX3 := ⟨hx, hb, hml, hown, hB⟩
  unfold t_X3_first at hs
  refine lv_aload_n hx hb dX3_first_0 rfl (lv_at hl 0 rfl) ?_
  refine lv_iload_n hx hb dX3_first_1 rfl (lv_at hl 1 rfl) ?_
  refine lv_iconst (v := 1) hx hb dX3_first_2 (by decide) ?_
  refine cV_roi (As := [.int p1, .int (1 : Int32)]) (rest := []) hC (m_X3_part l g a st p1 (1 : Int32)) (kv_of hB bw_7_22 bw_7_20 bw_7_21 bw_1_14 kd_X3_part bw_7_19 rfl rfl ⟨Nat.le_of_ble_eq_true rfl, Nat.le_of_ble_eq_true rfl⟩) hK hP hP hS (xW_1 g a st) rfl rfl hl.1 rfl (Nat.le_of_ble_eq_true rfl) dX3_first_3 ⟨Nat.zero_le _, Nat.zero_le _⟩ (fun H locs hP hS => ?_)
  subst hs
  exact ret_roi hx hb hr hlk hS dX3_first_6
def t_X3_second (st : XS) (p1 : Int32) : Int32 :=
  (t_X3_part st p1 (2 : Int32))
set_option maxHeartbeats 4000000 in
set_option maxRecDepth 100000 in
theorem m_X3_second (l : Launch) (g : GG) (a : Nat → Nat) (st : XS) (p1 : Int32) : Met l yX3_second (Cond.code yX3_second cX3_second 2 (some .int) :: BIG) ({ frames := 2, cells := 0, slots := 0, locals := 43 } : Room) (va_Pc [.ref (a 1), .int p1] (ROp g (xW g a st))) (ROi (t_X3_second st p1)) 0 0 (fun _ => False) := by
  obtain ⟨res, hs⟩ : ∃ z, t_X3_second st p1 = z := ⟨_, rfl⟩
  rw [hs]
  refine ro_start (cc := cX3_second) (maxL := 2) (ret := (some .int)) (lv := [(0, .ref (a 1)), (1, .int p1)]) (by decide) rfl (Nat.le_of_ble_eq_true rfl) rfl ?_
  intro p e s m args below meth c hx hb hml hr hts hown hlk hK H locs hP hS ls hl
  have hB : ∀ w ∈ BIG, w.before args s = true := fun w h => hts w (List.mem_cons_of_mem _ h)
  have hC : CallFix p m c cX3_second 2 s args BIG RX3 := ⟨hx, hb, hml, hown, hB⟩
  unfold t_X3_second at hs
  refine lv_aload_n hx hb dX3_second_0 rfl (lv_at hl 0 rfl) ?_
  refine lv_iload_n hx hb dX3_second_1 rfl (lv_at hl 1 rfl) ?_
  refine lv_iconst (v := 2) hx hb dX3_second_2 (by decide) ?_
  refine cV_roi (As := [.int p1, .int (2 : Int32)]) (rest := []) hC (m_X3_part l g a st p1 (2 : Int32)) (kv_of hB bw_7_22 bw_7_20 bw_7_21 bw_1_14 kd_X3_part bw_7_19 rfl rfl ⟨Nat.le_of_ble_eq_true rfl, Nat.le_of_ble_eq_true rfl⟩) hK hP hP hS (xW_1 g a st) rfl rfl hl.1 rfl (Nat.le_of_ble_eq_true rfl) dX3_second_3 ⟨Nat.zero_le _, Nat.zero_le _⟩ (fun H locs hP hS => ?_)
  subst hs
  exact ret_roi hx hb hr hlk hS dX3_second_6
noncomputable def b_X3_find_3 (st : XS) (c3_1 : Int32) (c3_2 : Int32) (c3_3 : Int32) (v3_4 : Int32) : Option (Int32 ⊕ Int32) :=
  (if (st.1 30 0) ≤ v3_4 then some (Sum.inr ((-1 : Int32))) else (if (t_X3_sort st v3_4) = c3_1 then (if (t_X3_first st v3_4) = c3_2 then (if (t_X3_second st v3_4) = c3_3 then some (Sum.inr (v3_4)) else some (Sum.inl (v3_4 + 1))) else some (Sum.inl (v3_4 + 1))) else some (Sum.inl (v3_4 + 1))))
noncomputable def f_X3_find (st : XS) (p1 : Int32) (p2 : Int32) (p3 : Int32) : Option Int32 :=
  (loopC (fun v => b_X3_find_3 st p1 p2 p3 v) (0 : Int32))
set_option maxHeartbeats 4000000 in
set_option maxRecDepth 100000 in
theorem m_X3_find (l : Launch) (g : GG) (a : Nat → Nat) (st : XS) (p1 : Int32) (p2 : Int32) (p3 : Int32) (res : Int32) (hs : f_X3_find st p1 p2 p3 = some res) : Met l yX3_find (Cond.code yX3_find cX3_find 5 (some .int) :: BIG) ({ frames := 3, cells := 0, slots := 0, locals := 64 } : Room) (va_Pc [.ref (a 1), .int p1, .int p2, .int p3] (ROp g (xW g a st))) (ROi res) 0 0 (fun _ => False) := by
  refine ro_start (cc := cX3_find) (maxL := 5) (ret := (some .int)) (lv := [(0, .ref (a 1)), (1, .int p1), (2, .int p2), (3, .int p3)]) (by decide) rfl (Nat.le_of_ble_eq_true rfl) rfl ?_
  intro p e s m args below meth c hx hb hml hr hts hown hlk hK H locs hP hS ls hl
  have hB : ∀ w ∈ BIG, w.before args s = true := fun w h => hts w (List.mem_cons_of_mem _ h)
  have hC : CallFix p m c cX3_find 5 s args BIG RX3 := ⟨hx, hb, hml, hown, hB⟩
  unfold f_X3_find at hs
  refine lv_iconst (v := 0) hx hb dX3_find_0 (by decide) ?_
  refine lv_istore (lv' := [(4, .int (0 : Int32)), (0, .ref (a 1)), (1, .int p1), (2, .int p2), (3, .int p3)]) hx hb dX3_find_1 hl (by decide) rfl (fun ls hl => ?_)
  obtain ⟨n3, hs⟩ := loopC_iter hs
  have L3 : ∀ (n : Nat) (v3_4 : Int32), iterO (fun v => b_X3_find_3 st p1 p2 p3 v) n v3_4 = some res → ∀ (H : Heap) (locs : List Loc), va_P g.1 vwCl (xW g a st) H → va_S (fun _ => False) s.heap H locs → ∀ ls : Array Slot, lv_has ls 5 [(0, .ref (a 1)), (1, .int p1), (2, .int p2), (3, .int p3), (4, .int v3_4)] → W p l e ({ frames := 3, cells := 0, slots := 0, locals := 64 } : Room) s m args below meth c H locs 0 0 (MQ below (ROi res) args s 0 0 (fun _ => False)) (F0 m 3 ls []) := by
    intro n
    induction n with
    | zero => intro v3_4 hs; exact (iterO_zero hs).elim
    | succ n ih3 =>
      intro v3_4 hs H locs hP hS ls hl
      obtain ⟨y3, hs, hk3⟩ := iterO_succ hs
      have hs : b_X3_find_3 st p1 p2 p3 v3_4 = some y3 := hs
      unfold b_X3_find_3 at hs
      refine lv_iload hx hb dX3_find_3 (lv_at hl 4 rfl) ?_
      refine lv_aload_n hx hb dX3_find_5 rfl (lv_at hl 0 rfl) ?_
      refine xg_3_1 hx hb hB hown hK hP dX3_find_6 ?_
      refine lv_icmp_ge (tgt := 51) hx hb dX3_find_9 (by decide) (fun c1 => ?_) (fun c1 => ?_)
      · have hs := ifp c1 hs
        refine lv_iconst (v := -1) hx hb dX3_find_51 (by decide) ?_
        cases hs
        cases elim_inr hk3
        exact ret_roi hx hb hr hlk hS dX3_find_52
      · have hs := ifn c1 hs
        refine lv_aload_n hx hb dX3_find_12 rfl (lv_at hl 0 rfl) ?_
        refine lv_iload hx hb dX3_find_13 (lv_at hl 4 rfl) ?_
        refine cV_roi (As := [.int v3_4]) (rest := []) hC (m_X3_sort l g a st v3_4) (kv_of hB bw_7_18 bw_7_16 bw_7_17 bw_1_14 kd_X3_sort bw_7_15 rfl rfl ⟨Nat.le_of_ble_eq_true rfl, Nat.le_of_ble_eq_true rfl⟩) hK hP hP hS (xW_1 g a st) rfl rfl hl.1 rfl (Nat.le_of_ble_eq_true rfl) dX3_find_15 ⟨Nat.zero_le _, Nat.zero_le _⟩ (fun H locs hP hS => ?_)
        refine lv_iload_n hx hb dX3_find_18 rfl (lv_at hl 1 rfl) ?_
        refine lv_icmp_ne (tgt := 45) hx hb dX3_find_19 (by decide) (fun c2 => ?_) (fun c2 => ?_)
        · have hs := ifn c2 hs
          refine lv_iinc (v := (v3_4 + 1)) (lv' := [(4, .int (v3_4 + 1)), (0, .ref (a 1)), (1, .int p1), (2, .int p2), (3, .int p3)]) hx hb dX3_find_45 hl (k := 4) rfl (by rfl) (by decide) rfl (fun ls hl => ?_)
          refine lv_goto (tgt := 3) hx hb dX3_find_48 (by decide) ?_
          cases hs
          exact ih3 (v3_4 + 1) hk3 _ _ hP hS _ (lv_sub hl [1, 2, 3, 4, 0] rfl)
        · have hs := ifp c2 hs
          refine lv_aload_n hx hb dX3_find_22 rfl (lv_at hl 0 rfl) ?_
          refine lv_iload hx hb dX3_find_23 (lv_at hl 4 rfl) ?_
          refine cV_roi (As := [.int v3_4]) (rest := []) hC (m_X3_first l g a st v3_4) (kv_of hB bw_8_4 bw_8_2 bw_8_3 bw_1_14 kd_X3_first bw_8_1 rfl rfl ⟨Nat.le_of_ble_eq_true rfl, Nat.le_of_ble_eq_true rfl⟩) hK hP hP hS (xW_1 g a st) rfl rfl hl.1 rfl (Nat.le_of_ble_eq_true rfl) dX3_find_25 ⟨Nat.zero_le _, Nat.zero_le _⟩ (fun H locs hP hS => ?_)
          refine lv_iload_n hx hb dX3_find_28 rfl (lv_at hl 2 rfl) ?_
          refine lv_icmp_ne (tgt := 45) hx hb dX3_find_29 (by decide) (fun c3 => ?_) (fun c3 => ?_)
          · have hs := ifn c3 hs
            refine lv_iinc (v := (v3_4 + 1)) (lv' := [(4, .int (v3_4 + 1)), (0, .ref (a 1)), (1, .int p1), (2, .int p2), (3, .int p3)]) hx hb dX3_find_45 hl (k := 4) rfl (by rfl) (by decide) rfl (fun ls hl => ?_)
            refine lv_goto (tgt := 3) hx hb dX3_find_48 (by decide) ?_
            cases hs
            exact ih3 (v3_4 + 1) hk3 _ _ hP hS _ (lv_sub hl [1, 2, 3, 4, 0] rfl)
          · have hs := ifp c3 hs
            refine lv_aload_n hx hb dX3_find_32 rfl (lv_at hl 0 rfl) ?_
            refine lv_iload hx hb dX3_find_33 (lv_at hl 4 rfl) ?_
            refine cV_roi (As := [.int v3_4]) (rest := []) hC (m_X3_second l g a st v3_4) (kv_of hB bw_8_8 bw_8_6 bw_8_7 bw_1_14 kd_X3_second bw_8_5 rfl rfl ⟨Nat.le_of_ble_eq_true rfl, Nat.le_of_ble_eq_true rfl⟩) hK hP hP hS (xW_1 g a st) rfl rfl hl.1 rfl (Nat.le_of_ble_eq_true rfl) dX3_find_35 ⟨Nat.zero_le _, Nat.zero_le _⟩ (fun H locs hP hS => ?_)
            refine lv_iload_n hx hb dX3_find_38 rfl (lv_at hl 3 rfl) ?_
            refine lv_icmp_ne (tgt := 45) hx hb dX3_find_39 (by decide) (fun c4 => ?_) (fun c4 => ?_)
            · have hs := ifn c4 hs
              refine lv_iinc (v := (v3_4 + 1)) (lv' := [(4, .int (v3_4 + 1)), (0, .ref (a 1)), (1, .int p1), (2, .int p2), (3, .int p3)]) hx hb dX3_find_45 hl (k := 4) rfl (by rfl) (by decide) rfl (fun ls hl => ?_)
              refine lv_goto (tgt := 3) hx hb dX3_find_48 (by decide) ?_
              cases hs
              exact ih3 (v3_4 + 1) hk3 _ _ hP hS _ (lv_sub hl [1, 2, 3, 4, 0] rfl)
            · have hs := ifp c4 hs
              refine lv_iload hx hb dX3_find_42 (lv_at hl 4 rfl) ?_
              cases hs
              cases elim_inr hk3
              exact ret_roi hx hb hr hlk hS dX3_find_44
  exact L3 n3 (0 : Int32) hs _ _ hP hS _ (lv_sub hl [1, 2, 3, 4, 0] rfl)
noncomputable def f_X6_findOrAddNotion (st : XS) (p1 : Int32) (p2 : Int32) (p3 : Int32) : Option (Int32 × XS) :=
  (Option.bind (f_X3_find st p1 p2 p3) (fun r1 => (if r1 = (-1 : Int32) then (Option.bind (f_X6_addNotion st p1 p2 p3) (fun r3 => some ((r3.1, r3.2)))) else some ((r1, st)))))
set_option maxHeartbeats 4000000 in
set_option maxRecDepth 100000 in
theorem m_X6_findOrAddNotion (l : Launch) (g : GG) (a : Nat → Nat) (st : XS) (sz : Nat) (p1 : Int32) (p2 : Int32) (p3 : Int32) (res : (Int32 × XS)) (hs : f_X6_findOrAddNotion st p1 p2 p3 = some res) : Met l yX6_findOrAddNotion (Cond.code yX6_findOrAddNotion cX6_findOrAddNotion 5 (some .int) :: BIG) ({ frames := 4, cells := 0, slots := 0, locals := 88 } : Room) (va_Pc [.ref (a 0), .int p1, .int p2, .int p3] (RWp g (xW g a st) sz)) (RWi res.1 g (xW g a res.2) (va_A (xW g a st) sz)) 0 0 (va_A (xW g a st) sz) := by
  refine rw_start (cc := cX6_findOrAddNotion) (maxL := 5) (ret := (some .int)) (lv := [(0, .ref (a 0)), (1, .int p1), (2, .int p2), (3, .int p3)]) (Qc := fun A => (RWi res.1 g (xW g a res.2) A)) (by decide) rfl (Nat.le_of_ble_eq_true rfl) rfl ?_
  intro p e s m args below meth c hx hb hml hr hts hown hlk hK A hD0 hA H locs hP hS ls hl
  have hD : ∀ st' : XS, va_D A (xW g a st') := fun _ => xW_D hD0
  have hB : ∀ w ∈ BIG, w.before args s = true := fun w h => hts w (List.mem_cons_of_mem _ h)
  have hC : CallFix p m c cX6_findOrAddNotion 5 s args BIG RX6 := ⟨hx, hb, hml, hown, hB⟩
  unfold f_X6_findOrAddNotion at hs
  refine lv_aload_n hx hb dX6_findOrAddNotion_0 rfl (lv_at hl 0 rfl) ?_
  refine xg_6_0 hx hb hB hown hK hP dX6_findOrAddNotion_1 ?_
  refine lv_iload_n hx hb dX6_findOrAddNotion_4 rfl (lv_at hl 1 rfl) ?_
  refine lv_iload_n hx hb dX6_findOrAddNotion_5 rfl (lv_at hl 2 rfl) ?_
  refine lv_iload_n hx hb dX6_findOrAddNotion_6 rfl (lv_at hl 3 rfl) ?_
  obtain ⟨r1, e1, hs⟩ := Option.bind_eq_some_iff.mp hs
  refine cV_roi (As := [.int p1, .int p2, .int p3]) (rest := []) hC (m_X3_find l g a st p1 p2 p3 r1 e1) (kv_of hB bw_7_14 bw_7_12 bw_7_13 bw_1_14 kd_X3_find bw_7_11 rfl rfl ⟨Nat.le_of_ble_eq_true rfl, Nat.le_of_ble_eq_true rfl⟩) hK hP hP hS (xW_1 g a st) rfl rfl hl.1 rfl (Nat.le_of_ble_eq_true rfl) dX6_findOrAddNotion_7 ⟨Nat.zero_le _, Nat.zero_le _⟩ (fun H locs hP hS => ?_)
  refine lv_istore (lv' := [(4, .int r1), (0, .ref (a 0)), (1, .int p1), (2, .int p2), (3, .int p3)]) hx hb dX6_findOrAddNotion_10 hl (by decide) rfl (fun ls hl => ?_)
  refine lv_iload hx hb dX6_findOrAddNotion_12 (lv_at hl 0 rfl) ?_
  refine lv_iconst (v := -1) hx hb dX6_findOrAddNotion_14 (by decide) ?_
  refine lv_icmp_eq (tgt := 23) hx hb dX6_findOrAddNotion_15 (by decide) (fun c2 => ?_) (fun c2 => ?_)
  · have hs := ifp c2 hs
    refine lv_aload_n hx hb dX6_findOrAddNotion_23 rfl (lv_at hl 1 rfl) ?_
    refine lv_iload_n hx hb dX6_findOrAddNotion_24 rfl (lv_at hl 2 rfl) ?_
    refine lv_iload_n hx hb dX6_findOrAddNotion_25 rfl (lv_at hl 3 rfl) ?_
    refine lv_iload_n hx hb dX6_findOrAddNotion_26 rfl (lv_at hl 4 rfl) ?_
    obtain ⟨r3, e3, hs⟩ := Option.bind_eq_some_iff.mp hs
    refine cV_rwi (As := [.int p1, .int p2, .int p3]) (rest := []) hC (m_X6_addNotion l g a st H.size p1 p2 p3 r3 e3) (kv_of hB bw_6_2 bw_6_0 bw_6_1 bw_1_2 kd_X6_addNotion bw_5_23 rfl rfl ⟨Nat.le_of_ble_eq_true rfl, Nat.le_of_ble_eq_true rfl⟩) hK hP (hD _) hA hS (xW_0 g a st) rfl rfl hl.1 rfl (Nat.le_of_ble_eq_true rfl) dX6_findOrAddNotion_27 ⟨Nat.zero_le _, Nat.zero_le _⟩ (fun H locs hP hS => ?_)
    cases hs
    exact ret_rwi hx hb hr hlk hP hS dX6_findOrAddNotion_30
  · have hs := ifn c2 hs
    refine lv_iload hx hb dX6_findOrAddNotion_18 (lv_at hl 0 rfl) ?_
    refine lv_goto (tgt := 30) hx hb dX6_findOrAddNotion_20 (by decide) ?_
    cases hs
    exact ret_rwi hx hb hr hlk hP hS dX6_findOrAddNotion_30
noncomputable def f_X6_meet (st : XS) (p1 : Int32) (p2 : Int32) : Option (Int32 × XS) :=
  (if (t_X3_knows st p1) = 0 then some (((-101 : Int32), st)) else (if (t_X3_knows st p2) = 0 then some (((-101 : Int32), st)) else (if p1 = p2 then some ((p1, st)) else (Option.bind (f_X6_findOrAddNotion st (3 : Int32) (if p2 < p1 then p2 else p1) (if p1 < p2 then p2 else p1)) (fun r4 => some ((r4.1, r4.2)))))))
set_option maxHeartbeats 4000000 in
set_option maxRecDepth 100000 in
theorem m_X6_meet (l : Launch) (g : GG) (a : Nat → Nat) (st : XS) (sz : Nat) (p1 : Int32) (p2 : Int32) (res : (Int32 × XS)) (hs : f_X6_meet st p1 p2 = some res) : Met l yX6_meet (Cond.code yX6_meet cX6_meet 3 (some .int) :: BIG) ({ frames := 5, cells := 0, slots := 0, locals := 112 } : Room) (va_Pc [.ref (a 0), .int p1, .int p2] (RWp g (xW g a st) sz)) (RWi res.1 g (xW g a res.2) (va_A (xW g a st) sz)) 0 0 (va_A (xW g a st) sz) := by
  refine rw_start (cc := cX6_meet) (maxL := 3) (ret := (some .int)) (lv := [(0, .ref (a 0)), (1, .int p1), (2, .int p2)]) (Qc := fun A => (RWi res.1 g (xW g a res.2) A)) (by decide) rfl (Nat.le_of_ble_eq_true rfl) rfl ?_
  intro p e s m args below meth c hx hb hml hr hts hown hlk hK A hD0 hA H locs hP hS ls hl
  have hD : ∀ st' : XS, va_D A (xW g a st') := fun _ => xW_D hD0
  have hB : ∀ w ∈ BIG, w.before args s = true := fun w h => hts w (List.mem_cons_of_mem _ h)
  have hC : CallFix p m c cX6_meet 3 s args BIG RX6 := ⟨hx, hb, hml, hown, hB⟩
  unfold f_X6_meet at hs
  refine lv_aload_n hx hb dX6_meet_0 rfl (lv_at hl 0 rfl) ?_
  refine xg_6_0 hx hb hB hown hK hP dX6_meet_1 ?_
  refine lv_iload_n hx hb dX6_meet_4 rfl (lv_at hl 1 rfl) ?_
  refine cV_roi (As := [.int p1]) (rest := []) hC (m_X3_knows l g a st p1) (kv_of hB bw_7_4 bw_7_2 bw_7_3 bw_1_14 kd_X3_knows bw_7_1 rfl rfl ⟨Nat.le_of_ble_eq_true rfl, Nat.le_of_ble_eq_true rfl⟩) hK hP hP hS (xW_1 g a st) rfl rfl hl.1 rfl (Nat.le_of_ble_eq_true rfl) dX6_meet_5 ⟨Nat.zero_le _, Nat.zero_le _⟩ (fun H locs hP hS => ?_)
  refine lv_if_eq (tgt := 22) hx hb dX6_meet_8 (by decide) (fun c1 => ?_) (fun c1 => ?_)
  · have hs := ifp c1 hs
    refine lv_bipush (v := -101) hx hb dX6_meet_22 (by decide) ?_
    cases hs
    exact ret_rwi hx hb hr hlk hP hS dX6_meet_24
  · have hs := ifn c1 hs
    refine lv_aload_n hx hb dX6_meet_11 rfl (lv_at hl 0 rfl) ?_
    refine xg_6_0 hx hb hB hown hK hP dX6_meet_12 ?_
    refine lv_iload_n hx hb dX6_meet_15 rfl (lv_at hl 2 rfl) ?_
    refine cV_roi (As := [.int p2]) (rest := []) hC (m_X3_knows l g a st p2) (kv_of hB bw_7_4 bw_7_2 bw_7_3 bw_1_14 kd_X3_knows bw_7_1 rfl rfl ⟨Nat.le_of_ble_eq_true rfl, Nat.le_of_ble_eq_true rfl⟩) hK hP hP hS (xW_1 g a st) rfl rfl hl.1 rfl (Nat.le_of_ble_eq_true rfl) dX6_meet_16 ⟨Nat.zero_le _, Nat.zero_le _⟩ (fun H locs hP hS => ?_)
    refine lv_if_ne (tgt := 25) hx hb dX6_meet_19 (by decide) (fun c2 => ?_) (fun c2 => ?_)
    · have hs := ifn c2 hs
      refine lv_iload_n hx hb dX6_meet_25 rfl (lv_at hl 1 rfl) ?_
      refine lv_iload_n hx hb dX6_meet_26 rfl (lv_at hl 2 rfl) ?_
      refine lv_icmp_ne (tgt := 32) hx hb dX6_meet_27 (by decide) (fun c3 => ?_) (fun c3 => ?_)
      · have hs := ifn c3 hs
        refine lv_aload_n hx hb dX6_meet_32 rfl (lv_at hl 0 rfl) ?_
        refine lv_iconst (v := 3) hx hb dX6_meet_33 (by decide) ?_
        refine lv_iload_n hx hb dX6_meet_34 rfl (lv_at hl 1 rfl) ?_
        refine lv_iload_n hx hb dX6_meet_35 rfl (lv_at hl 2 rfl) ?_
        refine va_mmin hx hb (hml.trans hl.1.symm) hown (hB _ bw_6_18) (hB _ bw_6_19) (hB _ bw_6_20) (hB _ bw_6_21) (Nat.le_of_ble_eq_true rfl) (Nat.le_of_ble_eq_true rfl) (Nat.zero_le _) (Nat.zero_le _) dX6_meet_36 ?_
        refine lv_iload_n hx hb dX6_meet_39 rfl (lv_at hl 1 rfl) ?_
        refine lv_iload_n hx hb dX6_meet_40 rfl (lv_at hl 2 rfl) ?_
        refine va_mmax hx hb (hml.trans hl.1.symm) hown (hB _ bw_6_22) (hB _ bw_6_23) (hB _ bw_6_20) (hB _ bw_7_0) (Nat.le_of_ble_eq_true rfl) (Nat.le_of_ble_eq_true rfl) (Nat.zero_le _) (Nat.zero_le _) dX6_meet_41 ?_
        obtain ⟨r4, e4, hs⟩ := Option.bind_eq_some_iff.mp hs
        refine cV_rwi (As := [.int (3 : Int32), .int (if p2 < p1 then p2 else p1), .int (if p1 < p2 then p2 else p1)]) (rest := []) hC (m_X6_findOrAddNotion l g a st H.size (3 : Int32) (if p2 < p1 then p2 else p1) (if p1 < p2 then p2 else p1) r4 e4) (kv_of hB bw_7_10 bw_7_8 bw_7_9 bw_1_2 kd_X6_findOrAddNotion bw_7_7 rfl rfl ⟨Nat.le_of_ble_eq_true rfl, Nat.le_of_ble_eq_true rfl⟩) hK hP (hD _) hA hS (xW_0 g a st) rfl rfl hl.1 rfl (Nat.le_of_ble_eq_true rfl) dX6_meet_44 ⟨Nat.zero_le _, Nat.zero_le _⟩ (fun H locs hP hS => ?_)
        cases hs
        exact ret_rwi hx hb hr hlk hP hS dX6_meet_47
      · have hs := ifp c3 hs
        refine lv_iload_n hx hb dX6_meet_30 rfl (lv_at hl 1 rfl) ?_
        cases hs
        exact ret_rwi hx hb hr hlk hP hS dX6_meet_31
    · have hs := ifp c2 hs
      refine lv_bipush (v := -101) hx hb dX6_meet_22 (by decide) ?_
      cases hs
      exact ret_rwi hx hb hr hlk hP hS dX6_meet_24
def t_X6_isRole (p0 : Int32) : Int32 :=
  (t_X6_within p0 (4 : Int32))
theorem z_X6_isRole (p0 : Int32) : t_X6_isRole p0 = 0 ∨ t_X6_isRole p0 = 1 := by
  unfold t_X6_isRole
  (repeat' split) <;> first | exact Or.inl rfl | exact Or.inr rfl | exact z_X6_within _ _
set_option maxHeartbeats 4000000 in
set_option maxRecDepth 100000 in
theorem m_X6_isRole (l : Launch) (g : GG) (w : va_W) (p0 : Int32) : Met l yX6_isRole (Cond.code yX6_isRole cX6_isRole 1 (some .boolean) :: BIG) ({ frames := 1, cells := 0, slots := 0, locals := 21 } : Room) (va_Pc [.int p0] (ROp g w)) (ROi (t_X6_isRole p0)) 0 0 (fun _ => False) := by
  obtain ⟨res, hs⟩ : ∃ z, t_X6_isRole p0 = z := ⟨_, rfl⟩
  rw [hs]
  refine ro_start (cc := cX6_isRole) (maxL := 1) (ret := (some .boolean)) (lv := [(0, .int p0)]) (by decide) rfl (Nat.le_of_ble_eq_true rfl) rfl ?_
  intro p e s m args below meth c hx hb hml hr hts hown hlk hK H locs hP hS ls hl
  have hB : ∀ w ∈ BIG, w.before args s = true := fun w h => hts w (List.mem_cons_of_mem _ h)
  have hC : CallFix p m c cX6_isRole 1 s args BIG RX6 := ⟨hx, hb, hml, hown, hB⟩
  unfold t_X6_isRole at hs
  refine lv_iload_n hx hb dX6_isRole_0 rfl (lv_at hl 0 rfl) ?_
  refine lv_iconst (v := 4) hx hb dX6_isRole_1 (by decide) ?_
  refine cS_roi (As := [.int p0, .int (4 : Int32)]) (rest := []) hC (m_X6_within l g w p0 (4 : Int32)) (ks_of hB bw_7_6 bw_7_5 bw_1_2 kd_X6_within bw_9_7 rfl rfl ⟨Nat.le_of_ble_eq_true rfl, Nat.le_of_ble_eq_true rfl⟩) hK hP hP hS rfl hl.1 rfl (Nat.le_of_ble_eq_true rfl) dX6_isRole_2 ⟨Nat.zero_le _, Nat.zero_le _⟩ (fun H locs hP hS => ?_)
  subst hs
  exact ret_roz hx hb hr (zn_of (z_X6_within _ _)) hlk hS dX6_isRole_5
noncomputable def f_X6_has (st : XS) (p1 : Int32) (p2 : Int32) : Option (Int32 × XS) :=
  (if (t_X3_knows st p2) = 0 then some (((-101 : Int32), st)) else (if (t_X6_isRole p1) = 0 then some (((-102 : Int32), st)) else (Option.bind (f_X6_findOrAddNotion st (4 : Int32) p1 p2) (fun r3 => some ((r3.1, r3.2))))))
set_option maxHeartbeats 4000000 in
set_option maxRecDepth 100000 in
theorem m_X6_has (l : Launch) (g : GG) (a : Nat → Nat) (st : XS) (sz : Nat) (p1 : Int32) (p2 : Int32) (res : (Int32 × XS)) (hs : f_X6_has st p1 p2 = some res) : Met l yX6_has (Cond.code yX6_has cX6_has 3 (some .int) :: BIG) ({ frames := 5, cells := 0, slots := 0, locals := 112 } : Room) (va_Pc [.ref (a 0), .int p1, .int p2] (RWp g (xW g a st) sz)) (RWi res.1 g (xW g a res.2) (va_A (xW g a st) sz)) 0 0 (va_A (xW g a st) sz) := by
  refine rw_start (cc := cX6_has) (maxL := 3) (ret := (some .int)) (lv := [(0, .ref (a 0)), (1, .int p1), (2, .int p2)]) (Qc := fun A => (RWi res.1 g (xW g a res.2) A)) (by decide) rfl (Nat.le_of_ble_eq_true rfl) rfl ?_
  intro p e s m args below meth c hx hb hml hr hts hown hlk hK A hD0 hA H locs hP hS ls hl
  have hD : ∀ st' : XS, va_D A (xW g a st') := fun _ => xW_D hD0
  have hB : ∀ w ∈ BIG, w.before args s = true := fun w h => hts w (List.mem_cons_of_mem _ h)
  have hC : CallFix p m c cX6_has 3 s args BIG RX6 := ⟨hx, hb, hml, hown, hB⟩
  unfold f_X6_has at hs
  refine lv_aload_n hx hb dX6_has_0 rfl (lv_at hl 0 rfl) ?_
  refine xg_6_0 hx hb hB hown hK hP dX6_has_1 ?_
  refine lv_iload_n hx hb dX6_has_4 rfl (lv_at hl 2 rfl) ?_
  refine cV_roi (As := [.int p2]) (rest := []) hC (m_X3_knows l g a st p2) (kv_of hB bw_7_4 bw_7_2 bw_7_3 bw_1_14 kd_X3_knows bw_7_1 rfl rfl ⟨Nat.le_of_ble_eq_true rfl, Nat.le_of_ble_eq_true rfl⟩) hK hP hP hS (xW_1 g a st) rfl rfl hl.1 rfl (Nat.le_of_ble_eq_true rfl) dX6_has_5 ⟨Nat.zero_le _, Nat.zero_le _⟩ (fun H locs hP hS => ?_)
  refine lv_if_ne (tgt := 14) hx hb dX6_has_8 (by decide) (fun c1 => ?_) (fun c1 => ?_)
  · have hs := ifn c1 hs
    refine lv_iload_n hx hb dX6_has_14 rfl (lv_at hl 1 rfl) ?_
    refine cS_roi (As := [.int p1]) (rest := []) hC (m_X6_isRole l g (xW g a st) p1) (ks_of hB bw_9_6 bw_9_5 bw_1_2 kd_X6_isRole bw_9_4 rfl rfl ⟨Nat.le_of_ble_eq_true rfl, Nat.le_of_ble_eq_true rfl⟩) hK hP hP hS rfl hl.1 rfl (Nat.le_of_ble_eq_true rfl) dX6_has_15 ⟨Nat.zero_le _, Nat.zero_le _⟩ (fun H locs hP hS => ?_)
    refine lv_if_ne (tgt := 24) hx hb dX6_has_18 (by decide) (fun c2 => ?_) (fun c2 => ?_)
    · have hs := ifn c2 hs
      refine lv_aload_n hx hb dX6_has_24 rfl (lv_at hl 0 rfl) ?_
      refine lv_iconst (v := 4) hx hb dX6_has_25 (by decide) ?_
      refine lv_iload_n hx hb dX6_has_26 rfl (lv_at hl 1 rfl) ?_
      refine lv_iload_n hx hb dX6_has_27 rfl (lv_at hl 2 rfl) ?_
      obtain ⟨r3, e3, hs⟩ := Option.bind_eq_some_iff.mp hs
      refine cV_rwi (As := [.int (4 : Int32), .int p1, .int p2]) (rest := []) hC (m_X6_findOrAddNotion l g a st H.size (4 : Int32) p1 p2 r3 e3) (kv_of hB bw_7_10 bw_7_8 bw_7_9 bw_1_2 kd_X6_findOrAddNotion bw_7_7 rfl rfl ⟨Nat.le_of_ble_eq_true rfl, Nat.le_of_ble_eq_true rfl⟩) hK hP (hD _) hA hS (xW_0 g a st) rfl rfl hl.1 rfl (Nat.le_of_ble_eq_true rfl) dX6_has_28 ⟨Nat.zero_le _, Nat.zero_le _⟩ (fun H locs hP hS => ?_)
      cases hs
      exact ret_rwi hx hb hr hlk hP hS dX6_has_31
    · have hs := ifp c2 hs
      refine lv_bipush (v := -102) hx hb dX6_has_21 (by decide) ?_
      cases hs
      exact ret_rwi hx hb hr hlk hP hS dX6_has_23
  · have hs := ifp c1 hs
    refine lv_bipush (v := -101) hx hb dX6_has_11 (by decide) ?_
    cases hs
    exact ret_rwi hx hb hr hlk hP hS dX6_has_13
noncomputable def f_X0_add (st : XS) (p1 : Int32) (p2 : Int32) (p3 : Int32) (p4 : Int32) : Option (Int32 × XS) :=
  (Option.bind (some (sA st 4 (t_X6_put 200 (st.1 4) ((st.1 32 0) * (5 : Int32)) p1))) (fun r1 => (Option.bind (some (sA r1 4 (t_X6_put 200 (r1.1 4) (((st.1 32 0) * (5 : Int32)) + (1 : Int32)) p2))) (fun r2 => (Option.bind (some (sA r2 4 (t_X6_put 200 (r2.1 4) (((st.1 32 0) * (5 : Int32)) + (2 : Int32)) p3))) (fun r3 => (Option.bind (some (sA r3 4 (t_X6_put 200 (r3.1 4) (((st.1 32 0) * (5 : Int32)) + (3 : Int32)) p4))) (fun r4 => (Option.bind (some (sA r4 4 (t_X6_put 200 (r4.1 4) (((st.1 32 0) * (5 : Int32)) + (4 : Int32)) (1 : Int32)))) (fun r5 => (Option.bind (some (sA r5 32 (fun _ => ((r5.1 32 0) + (1 : Int32))))) (fun r6 => some (((r5.1 32 0), r6))))))))))))))
set_option maxHeartbeats 4000000 in
set_option maxRecDepth 100000 in
theorem m_X0_add (l : Launch) (g : GG) (a : Nat → Nat) (st : XS) (sz : Nat) (p1 : Int32) (p2 : Int32) (p3 : Int32) (p4 : Int32) (res : (Int32 × XS)) (hs : f_X0_add st p1 p2 p3 p4 = some res) : Met l yX0_add (Cond.code yX0_add cX0_add 6 (some .int) :: BIG) ({ frames := 1, cells := 0, slots := 0, locals := 22 } : Room) (va_Pc [.ref (a 3), .int p1, .int p2, .int p3, .int p4] (RWp g (xW g a st) sz)) (RWi res.1 g (xW g a res.2) (va_A (xW g a st) sz)) 0 0 (va_A (xW g a st) sz) := by
  refine rw_start (cc := cX0_add) (maxL := 6) (ret := (some .int)) (lv := [(0, .ref (a 3)), (1, .int p1), (2, .int p2), (3, .int p3), (4, .int p4)]) (Qc := fun A => (RWi res.1 g (xW g a res.2) A)) (by decide) rfl (Nat.le_of_ble_eq_true rfl) rfl ?_
  intro p e s m args below meth c hx hb hml hr hts hown hlk hK A hD0 hA H locs hP hS ls hl
  have hD : ∀ st' : XS, va_D A (xW g a st') := fun _ => xW_D hD0
  have hB : ∀ w ∈ BIG, w.before args s = true := fun w h => hts w (List.mem_cons_of_mem _ h)
  have hC : CallFix p m c cX0_add 6 s args BIG RX0 := ⟨hx, hb, hml, hown, hB⟩
  unfold f_X0_add at hs
  refine lv_aload_n hx hb dX0_add_0 rfl (lv_at hl 0 rfl) ?_
  refine xg_0_1 hx hb hB hown hK hP dX0_add_1 ?_
  refine lv_iconst (v := 5) hx hb dX0_add_4 (by decide) ?_
  refine lv_imul hx hb dX0_add_5 ?_
  refine lv_istore (lv' := [(5, .int ((st.1 32 0) * (5 : Int32))), (0, .ref (a 3)), (1, .int p1), (2, .int p2), (3, .int p3), (4, .int p4)]) hx hb dX0_add_6 hl (by decide) rfl (fun ls hl => ?_)
  refine lv_aload_n hx hb dX0_add_8 rfl (lv_at hl 1 rfl) ?_
  refine xg_0_0 hx hb hB hown hK hP dX0_add_9 ?_
  refine lv_iload hx hb dX0_add_12 (lv_at hl 0 rfl) ?_
  refine lv_iload_n hx hb dX0_add_14 rfl (lv_at hl 2 rfl) ?_
  obtain ⟨r1, e1, hs⟩ := Option.bind_eq_some_iff.mp hs
  have e1 := Option.some.inj e1
  refine cN_rwv (As := [.ref (a 4), .int ((st.1 32 0) * (5 : Int32)), .int p1]) (rest := []) hC (m_X6_put_4 l g a st r1 H.size ((st.1 32 0) * (5 : Int32)) p1 e1) (kn_of (host := "NotionRounds") hB bw_3_3 bw_3_2 bw_1_2 kd_X6_put (hK.2 _ (List.mem_of_getElem? (i := 17) rfl)) rfl rfl ⟨Nat.le_of_ble_eq_true rfl, Nat.le_of_ble_eq_true rfl⟩) hK hP (hD _) hA hS rfl hl.1 rfl (Nat.le_of_ble_eq_true rfl) dX0_add_15 ⟨Nat.zero_le _, Nat.zero_le _⟩ (fun H locs hP hS => ?_)
  refine lv_aload_n hx hb dX0_add_18 rfl (lv_at hl 1 rfl) ?_
  refine xg_0_0 hx hb hB hown hK hP dX0_add_19 ?_
  refine lv_iload hx hb dX0_add_22 (lv_at hl 0 rfl) ?_
  refine lv_iconst (v := 1) hx hb dX0_add_24 (by decide) ?_
  refine lv_iadd hx hb dX0_add_25 ?_
  refine lv_iload_n hx hb dX0_add_26 rfl (lv_at hl 3 rfl) ?_
  obtain ⟨r2, e2, hs⟩ := Option.bind_eq_some_iff.mp hs
  have e2 := Option.some.inj e2
  refine cN_rwv (As := [.ref (a 4), .int (((st.1 32 0) * (5 : Int32)) + (1 : Int32)), .int p2]) (rest := []) hC (m_X6_put_4 l g a r1 r2 H.size (((st.1 32 0) * (5 : Int32)) + (1 : Int32)) p2 e2) (kn_of (host := "NotionRounds") hB bw_3_3 bw_3_2 bw_1_2 kd_X6_put (hK.2 _ (List.mem_of_getElem? (i := 17) rfl)) rfl rfl ⟨Nat.le_of_ble_eq_true rfl, Nat.le_of_ble_eq_true rfl⟩) hK hP (hD _) hA hS rfl hl.1 rfl (Nat.le_of_ble_eq_true rfl) dX0_add_27 ⟨Nat.zero_le _, Nat.zero_le _⟩ (fun H locs hP hS => ?_)
  refine lv_aload_n hx hb dX0_add_30 rfl (lv_at hl 1 rfl) ?_
  refine xg_0_0 hx hb hB hown hK hP dX0_add_31 ?_
  refine lv_iload hx hb dX0_add_34 (lv_at hl 0 rfl) ?_
  refine lv_iconst (v := 2) hx hb dX0_add_36 (by decide) ?_
  refine lv_iadd hx hb dX0_add_37 ?_
  refine lv_iload_n hx hb dX0_add_38 rfl (lv_at hl 4 rfl) ?_
  obtain ⟨r3, e3, hs⟩ := Option.bind_eq_some_iff.mp hs
  have e3 := Option.some.inj e3
  refine cN_rwv (As := [.ref (a 4), .int (((st.1 32 0) * (5 : Int32)) + (2 : Int32)), .int p3]) (rest := []) hC (m_X6_put_4 l g a r2 r3 H.size (((st.1 32 0) * (5 : Int32)) + (2 : Int32)) p3 e3) (kn_of (host := "NotionRounds") hB bw_3_3 bw_3_2 bw_1_2 kd_X6_put (hK.2 _ (List.mem_of_getElem? (i := 17) rfl)) rfl rfl ⟨Nat.le_of_ble_eq_true rfl, Nat.le_of_ble_eq_true rfl⟩) hK hP (hD _) hA hS rfl hl.1 rfl (Nat.le_of_ble_eq_true rfl) dX0_add_39 ⟨Nat.zero_le _, Nat.zero_le _⟩ (fun H locs hP hS => ?_)
  refine lv_aload_n hx hb dX0_add_42 rfl (lv_at hl 1 rfl) ?_
  refine xg_0_0 hx hb hB hown hK hP dX0_add_43 ?_
  refine lv_iload hx hb dX0_add_46 (lv_at hl 0 rfl) ?_
  refine lv_iconst (v := 3) hx hb dX0_add_48 (by decide) ?_
  refine lv_iadd hx hb dX0_add_49 ?_
  refine lv_iload hx hb dX0_add_50 (lv_at hl 5 rfl) ?_
  obtain ⟨r4, e4, hs⟩ := Option.bind_eq_some_iff.mp hs
  have e4 := Option.some.inj e4
  refine cN_rwv (As := [.ref (a 4), .int (((st.1 32 0) * (5 : Int32)) + (3 : Int32)), .int p4]) (rest := []) hC (m_X6_put_4 l g a r3 r4 H.size (((st.1 32 0) * (5 : Int32)) + (3 : Int32)) p4 e4) (kn_of (host := "NotionRounds") hB bw_3_3 bw_3_2 bw_1_2 kd_X6_put (hK.2 _ (List.mem_of_getElem? (i := 17) rfl)) rfl rfl ⟨Nat.le_of_ble_eq_true rfl, Nat.le_of_ble_eq_true rfl⟩) hK hP (hD _) hA hS rfl hl.1 rfl (Nat.le_of_ble_eq_true rfl) dX0_add_52 ⟨Nat.zero_le _, Nat.zero_le _⟩ (fun H locs hP hS => ?_)
  refine lv_aload_n hx hb dX0_add_55 rfl (lv_at hl 1 rfl) ?_
  refine xg_0_0 hx hb hB hown hK hP dX0_add_56 ?_
  refine lv_iload hx hb dX0_add_59 (lv_at hl 0 rfl) ?_
  refine lv_iconst (v := 4) hx hb dX0_add_61 (by decide) ?_
  refine lv_iadd hx hb dX0_add_62 ?_
  refine lv_iconst (v := 1) hx hb dX0_add_63 (by decide) ?_
  obtain ⟨r5, e5, hs⟩ := Option.bind_eq_some_iff.mp hs
  have e5 := Option.some.inj e5
  refine cN_rwv (As := [.ref (a 4), .int (((st.1 32 0) * (5 : Int32)) + (4 : Int32)), .int (1 : Int32)]) (rest := []) hC (m_X6_put_4 l g a r4 r5 H.size (((st.1 32 0) * (5 : Int32)) + (4 : Int32)) (1 : Int32) e5) (kn_of (host := "NotionRounds") hB bw_3_3 bw_3_2 bw_1_2 kd_X6_put (hK.2 _ (List.mem_of_getElem? (i := 17) rfl)) rfl rfl ⟨Nat.le_of_ble_eq_true rfl, Nat.le_of_ble_eq_true rfl⟩) hK hP (hD _) hA hS rfl hl.1 rfl (Nat.le_of_ble_eq_true rfl) dX0_add_64 ⟨Nat.zero_le _, Nat.zero_le _⟩ (fun H locs hP hS => ?_)
  refine lv_aload_n hx hb dX0_add_67 rfl (lv_at hl 1 rfl) ?_
  refine lv_dup hx hb dX0_add_68 rfl ?_
  refine xg_0_1 hx hb hB hown hK hP dX0_add_69 ?_
  refine lv_dup_x1 hx hb dX0_add_72 rfl rfl ?_
  refine lv_iconst (v := 1) hx hb dX0_add_73 (by decide) ?_
  refine lv_iadd hx hb dX0_add_74 ?_
  obtain ⟨r6, e6, hs⟩ := Option.bind_eq_some_iff.mp hs
  have e6 := Option.some.inj e6
  refine xp_32 hx hb hB hown hK hP hD hS e6 dX0_add_75 (fun H locs hP hS => ?_)
  cases hs
  exact ret_rwi hx hb hr hlk hP hS dX0_add_78
noncomputable def f_X6_addAxiom (st : XS) (p1 : Int32) (p2 : Int32) (p3 : Int32) (p4 : Int32) : Option (Int32 × XS) :=
  (if (st.1 32 0) < (40 : Int32) then (Option.bind (some (sA st 36 (fun _ => (0 : Int32)))) (fun r2 => (Option.bind (f_X0_add r2 p1 p2 p3 p4) (fun r3 => some ((r3.1, r3.2)))))) else some (((-104 : Int32), st)))
set_option maxHeartbeats 4000000 in
set_option maxRecDepth 100000 in
theorem m_X6_addAxiom (l : Launch) (g : GG) (a : Nat → Nat) (st : XS) (sz : Nat) (p1 : Int32) (p2 : Int32) (p3 : Int32) (p4 : Int32) (res : (Int32 × XS)) (hs : f_X6_addAxiom st p1 p2 p3 p4 = some res) : Met l yX6_addAxiom (Cond.code yX6_addAxiom cX6_addAxiom 5 (some .int) :: BIG) ({ frames := 2, cells := 0, slots := 0, locals := 47 } : Room) (va_Pc [.ref (a 0), .int p1, .int p2, .int p3, .int p4] (RWp g (xW g a st) sz)) (RWi res.1 g (xW g a res.2) (va_A (xW g a st) sz)) 0 0 (va_A (xW g a st) sz) := by
  refine rw_start (cc := cX6_addAxiom) (maxL := 5) (ret := (some .int)) (lv := [(0, .ref (a 0)), (1, .int p1), (2, .int p2), (3, .int p3), (4, .int p4)]) (Qc := fun A => (RWi res.1 g (xW g a res.2) A)) (by decide) rfl (Nat.le_of_ble_eq_true rfl) rfl ?_
  intro p e s m args below meth c hx hb hml hr hts hown hlk hK A hD0 hA H locs hP hS ls hl
  have hD : ∀ st' : XS, va_D A (xW g a st') := fun _ => xW_D hD0
  have hB : ∀ w ∈ BIG, w.before args s = true := fun w h => hts w (List.mem_cons_of_mem _ h)
  have hC : CallFix p m c cX6_addAxiom 5 s args BIG RX6 := ⟨hx, hb, hml, hown, hB⟩
  unfold f_X6_addAxiom at hs
  refine lv_aload_n hx hb dX6_addAxiom_0 rfl (lv_at hl 0 rfl) ?_
  refine xg_6_1 hx hb hB hown hK hP dX6_addAxiom_1 ?_
  refine xn_RX6_169 hx hb hB hown hK hP dX6_addAxiom_4 ?_
  refine lv_bipush (v := 40) hx hb dX6_addAxiom_7 (by decide) ?_
  refine lv_icmp_lt (tgt := 15) hx hb dX6_addAxiom_9 (by decide) (fun c1 => ?_) (fun c1 => ?_)
  · have hs := ifp c1 hs
    refine lv_aload_n hx hb dX6_addAxiom_15 rfl (lv_at hl 0 rfl) ?_
    refine lv_iconst (v := 0) hx hb dX6_addAxiom_16 (by decide) ?_
    obtain ⟨r2, e2, hs⟩ := Option.bind_eq_some_iff.mp hs
    have e2 := Option.some.inj e2
    refine xp_36 hx hb hB hown hK hP hD hS (Or.inl rfl) e2 dX6_addAxiom_17 (fun H locs hP hS => ?_)
    refine lv_aload_n hx hb dX6_addAxiom_20 rfl (lv_at hl 0 rfl) ?_
    refine xg_6_1 hx hb hB hown hK hP dX6_addAxiom_21 ?_
    refine lv_iload_n hx hb dX6_addAxiom_24 rfl (lv_at hl 1 rfl) ?_
    refine lv_iload_n hx hb dX6_addAxiom_25 rfl (lv_at hl 2 rfl) ?_
    refine lv_iload_n hx hb dX6_addAxiom_26 rfl (lv_at hl 3 rfl) ?_
    refine lv_iload hx hb dX6_addAxiom_27 (lv_at hl 4 rfl) ?_
    obtain ⟨r3, e3, hs⟩ := Option.bind_eq_some_iff.mp hs
    refine cV_rwi (As := [.int p1, .int p2, .int p3, .int p4]) (rest := []) hC (m_X0_add l g a r2 H.size p1 p2 p3 p4 r3 e3) (kv_of hB bw_10_2 bw_10_0 bw_10_1 bw_1_18 kd_X0_add bw_9_23 rfl rfl ⟨Nat.le_of_ble_eq_true rfl, Nat.le_of_ble_eq_true rfl⟩) hK hP (hD _) hA hS (xW_3 g a r2) rfl rfl hl.1 rfl (Nat.le_of_ble_eq_true rfl) dX6_addAxiom_29 ⟨Nat.zero_le _, Nat.zero_le _⟩ (fun H locs hP hS => ?_)
    cases hs
    exact ret_rwi hx hb hr hlk hP hS dX6_addAxiom_32
  · have hs := ifn c1 hs
    refine lv_bipush (v := -104) hx hb dX6_addAxiom_12 (by decide) ?_
    cases hs
    exact ret_rwi hx hb hr hlk hP hS dX6_addAxiom_14
noncomputable def f_X6_say (st : XS) (p1 : Int32) (p2 : Int32) : Option (Int32 × XS) :=
  (if (t_X3_knows st p1) = 0 then some (((-101 : Int32), st)) else (if (t_X3_knows st p2) = 0 then some (((-101 : Int32), st)) else (Option.bind (f_X6_addAxiom st (0 : Int32) p1 p2 (-1 : Int32)) (fun r3 => some ((r3.1, r3.2))))))
set_option maxHeartbeats 4000000 in
set_option maxRecDepth 100000 in
theorem m_X6_say (l : Launch) (g : GG) (a : Nat → Nat) (st : XS) (sz : Nat) (p1 : Int32) (p2 : Int32) (res : (Int32 × XS)) (hs : f_X6_say st p1 p2 = some res) : Met l yX6_say (Cond.code yX6_say cX6_say 3 (some .int) :: BIG) ({ frames := 3, cells := 0, slots := 0, locals := 71 } : Room) (va_Pc [.ref (a 0), .int p1, .int p2] (RWp g (xW g a st) sz)) (RWi res.1 g (xW g a res.2) (va_A (xW g a st) sz)) 0 0 (va_A (xW g a st) sz) := by
  refine rw_start (cc := cX6_say) (maxL := 3) (ret := (some .int)) (lv := [(0, .ref (a 0)), (1, .int p1), (2, .int p2)]) (Qc := fun A => (RWi res.1 g (xW g a res.2) A)) (by decide) rfl (Nat.le_of_ble_eq_true rfl) rfl ?_
  intro p e s m args below meth c hx hb hml hr hts hown hlk hK A hD0 hA H locs hP hS ls hl
  have hD : ∀ st' : XS, va_D A (xW g a st') := fun _ => xW_D hD0
  have hB : ∀ w ∈ BIG, w.before args s = true := fun w h => hts w (List.mem_cons_of_mem _ h)
  have hC : CallFix p m c cX6_say 3 s args BIG RX6 := ⟨hx, hb, hml, hown, hB⟩
  unfold f_X6_say at hs
  refine lv_aload_n hx hb dX6_say_0 rfl (lv_at hl 0 rfl) ?_
  refine xg_6_0 hx hb hB hown hK hP dX6_say_1 ?_
  refine lv_iload_n hx hb dX6_say_4 rfl (lv_at hl 1 rfl) ?_
  refine cV_roi (As := [.int p1]) (rest := []) hC (m_X3_knows l g a st p1) (kv_of hB bw_7_4 bw_7_2 bw_7_3 bw_1_14 kd_X3_knows bw_7_1 rfl rfl ⟨Nat.le_of_ble_eq_true rfl, Nat.le_of_ble_eq_true rfl⟩) hK hP hP hS (xW_1 g a st) rfl rfl hl.1 rfl (Nat.le_of_ble_eq_true rfl) dX6_say_5 ⟨Nat.zero_le _, Nat.zero_le _⟩ (fun H locs hP hS => ?_)
  refine lv_if_eq (tgt := 22) hx hb dX6_say_8 (by decide) (fun c1 => ?_) (fun c1 => ?_)
  · have hs := ifp c1 hs
    refine lv_bipush (v := -101) hx hb dX6_say_22 (by decide) ?_
    cases hs
    exact ret_rwi hx hb hr hlk hP hS dX6_say_24
  · have hs := ifn c1 hs
    refine lv_aload_n hx hb dX6_say_11 rfl (lv_at hl 0 rfl) ?_
    refine xg_6_0 hx hb hB hown hK hP dX6_say_12 ?_
    refine lv_iload_n hx hb dX6_say_15 rfl (lv_at hl 2 rfl) ?_
    refine cV_roi (As := [.int p2]) (rest := []) hC (m_X3_knows l g a st p2) (kv_of hB bw_7_4 bw_7_2 bw_7_3 bw_1_14 kd_X3_knows bw_7_1 rfl rfl ⟨Nat.le_of_ble_eq_true rfl, Nat.le_of_ble_eq_true rfl⟩) hK hP hP hS (xW_1 g a st) rfl rfl hl.1 rfl (Nat.le_of_ble_eq_true rfl) dX6_say_16 ⟨Nat.zero_le _, Nat.zero_le _⟩ (fun H locs hP hS => ?_)
    refine lv_if_ne (tgt := 25) hx hb dX6_say_19 (by decide) (fun c2 => ?_) (fun c2 => ?_)
    · have hs := ifn c2 hs
      refine lv_aload_n hx hb dX6_say_25 rfl (lv_at hl 0 rfl) ?_
      refine lv_iconst (v := 0) hx hb dX6_say_26 (by decide) ?_
      refine lv_iload_n hx hb dX6_say_27 rfl (lv_at hl 1 rfl) ?_
      refine lv_iload_n hx hb dX6_say_28 rfl (lv_at hl 2 rfl) ?_
      refine lv_iconst (v := -1) hx hb dX6_say_29 (by decide) ?_
      obtain ⟨r3, e3, hs⟩ := Option.bind_eq_some_iff.mp hs
      refine cV_rwi (As := [.int (0 : Int32), .int p1, .int p2, .int (-1 : Int32)]) (rest := []) hC (m_X6_addAxiom l g a st H.size (0 : Int32) p1 p2 (-1 : Int32) r3 e3) (kv_of hB bw_9_22 bw_9_20 bw_9_21 bw_1_2 kd_X6_addAxiom bw_9_19 rfl rfl ⟨Nat.le_of_ble_eq_true rfl, Nat.le_of_ble_eq_true rfl⟩) hK hP (hD _) hA hS (xW_0 g a st) rfl rfl hl.1 rfl (Nat.le_of_ble_eq_true rfl) dX6_say_30 ⟨Nat.zero_le _, Nat.zero_le _⟩ (fun H locs hP hS => ?_)
      cases hs
      exact ret_rwi hx hb hr hlk hP hS dX6_say_33
    · have hs := ifp c2 hs
      refine lv_bipush (v := -101) hx hb dX6_say_22 (by decide) ?_
      cases hs
      exact ret_rwi hx hb hr hlk hP hS dX6_say_24
noncomputable def f_X6_role (st : XS) (p1 : Int32) (p2 : Int32) : Option (Int32 × XS) :=
  (if (t_X6_isRole p1) = 0 then some (((-102 : Int32), st)) else (if (t_X6_isRole p2) = 0 then some (((-102 : Int32), st)) else (Option.bind (f_X6_addAxiom st (1 : Int32) p1 p2 (-1 : Int32)) (fun r3 => some ((r3.1, r3.2))))))
set_option maxHeartbeats 4000000 in
set_option maxRecDepth 100000 in
theorem m_X6_role (l : Launch) (g : GG) (a : Nat → Nat) (st : XS) (sz : Nat) (p1 : Int32) (p2 : Int32) (res : (Int32 × XS)) (hs : f_X6_role st p1 p2 = some res) : Met l yX6_role (Cond.code yX6_role cX6_role 3 (some .int) :: BIG) ({ frames := 3, cells := 0, slots := 0, locals := 71 } : Room) (va_Pc [.ref (a 0), .int p1, .int p2] (RWp g (xW g a st) sz)) (RWi res.1 g (xW g a res.2) (va_A (xW g a st) sz)) 0 0 (va_A (xW g a st) sz) := by
  refine rw_start (cc := cX6_role) (maxL := 3) (ret := (some .int)) (lv := [(0, .ref (a 0)), (1, .int p1), (2, .int p2)]) (Qc := fun A => (RWi res.1 g (xW g a res.2) A)) (by decide) rfl (Nat.le_of_ble_eq_true rfl) rfl ?_
  intro p e s m args below meth c hx hb hml hr hts hown hlk hK A hD0 hA H locs hP hS ls hl
  have hD : ∀ st' : XS, va_D A (xW g a st') := fun _ => xW_D hD0
  have hB : ∀ w ∈ BIG, w.before args s = true := fun w h => hts w (List.mem_cons_of_mem _ h)
  have hC : CallFix p m c cX6_role 3 s args BIG RX6 := ⟨hx, hb, hml, hown, hB⟩
  unfold f_X6_role at hs
  refine lv_iload_n hx hb dX6_role_0 rfl (lv_at hl 1 rfl) ?_
  refine cS_roi (As := [.int p1]) (rest := []) hC (m_X6_isRole l g (xW g a st) p1) (ks_of hB bw_9_6 bw_9_5 bw_1_2 kd_X6_isRole bw_9_4 rfl rfl ⟨Nat.le_of_ble_eq_true rfl, Nat.le_of_ble_eq_true rfl⟩) hK hP hP hS rfl hl.1 rfl (Nat.le_of_ble_eq_true rfl) dX6_role_1 ⟨Nat.zero_le _, Nat.zero_le _⟩ (fun H locs hP hS => ?_)
  refine lv_if_eq (tgt := 14) hx hb dX6_role_4 (by decide) (fun c1 => ?_) (fun c1 => ?_)
  · have hs := ifp c1 hs
    refine lv_bipush (v := -102) hx hb dX6_role_14 (by decide) ?_
    cases hs
    exact ret_rwi hx hb hr hlk hP hS dX6_role_16
  · have hs := ifn c1 hs
    refine lv_iload_n hx hb dX6_role_7 rfl (lv_at hl 2 rfl) ?_
    refine cS_roi (As := [.int p2]) (rest := []) hC (m_X6_isRole l g (xW g a st) p2) (ks_of hB bw_9_6 bw_9_5 bw_1_2 kd_X6_isRole bw_9_4 rfl rfl ⟨Nat.le_of_ble_eq_true rfl, Nat.le_of_ble_eq_true rfl⟩) hK hP hP hS rfl hl.1 rfl (Nat.le_of_ble_eq_true rfl) dX6_role_8 ⟨Nat.zero_le _, Nat.zero_le _⟩ (fun H locs hP hS => ?_)
    refine lv_if_ne (tgt := 17) hx hb dX6_role_11 (by decide) (fun c2 => ?_) (fun c2 => ?_)
    · have hs := ifn c2 hs
      refine lv_aload_n hx hb dX6_role_17 rfl (lv_at hl 0 rfl) ?_
      refine lv_iconst (v := 1) hx hb dX6_role_18 (by decide) ?_
      refine lv_iload_n hx hb dX6_role_19 rfl (lv_at hl 1 rfl) ?_
      refine lv_iload_n hx hb dX6_role_20 rfl (lv_at hl 2 rfl) ?_
      refine lv_iconst (v := -1) hx hb dX6_role_21 (by decide) ?_
      obtain ⟨r3, e3, hs⟩ := Option.bind_eq_some_iff.mp hs
      refine cV_rwi (As := [.int (1 : Int32), .int p1, .int p2, .int (-1 : Int32)]) (rest := []) hC (m_X6_addAxiom l g a st H.size (1 : Int32) p1 p2 (-1 : Int32) r3 e3) (kv_of hB bw_9_22 bw_9_20 bw_9_21 bw_1_2 kd_X6_addAxiom bw_9_19 rfl rfl ⟨Nat.le_of_ble_eq_true rfl, Nat.le_of_ble_eq_true rfl⟩) hK hP (hD _) hA hS (xW_0 g a st) rfl rfl hl.1 rfl (Nat.le_of_ble_eq_true rfl) dX6_role_22 ⟨Nat.zero_le _, Nat.zero_le _⟩ (fun H locs hP hS => ?_)
      cases hs
      exact ret_rwi hx hb hr hlk hP hS dX6_role_25
    · have hs := ifp c2 hs
      refine lv_bipush (v := -102) hx hb dX6_role_14 (by decide) ?_
      cases hs
      exact ret_rwi hx hb hr hlk hP hS dX6_role_16
noncomputable def f_X6_chain (st : XS) (p1 : Int32) (p2 : Int32) (p3 : Int32) : Option (Int32 × XS) :=
  (if (t_X6_isRole p1) = 0 then some (((-102 : Int32), st)) else (if (t_X6_isRole p2) = 0 then some (((-102 : Int32), st)) else (if (t_X6_isRole p3) = 0 then some (((-102 : Int32), st)) else (Option.bind (f_X6_addAxiom st (2 : Int32) p1 p2 p3) (fun r4 => some ((r4.1, r4.2)))))))
set_option maxHeartbeats 4000000 in
set_option maxRecDepth 100000 in
theorem m_X6_chain (l : Launch) (g : GG) (a : Nat → Nat) (st : XS) (sz : Nat) (p1 : Int32) (p2 : Int32) (p3 : Int32) (res : (Int32 × XS)) (hs : f_X6_chain st p1 p2 p3 = some res) : Met l yX6_chain (Cond.code yX6_chain cX6_chain 4 (some .int) :: BIG) ({ frames := 3, cells := 0, slots := 0, locals := 71 } : Room) (va_Pc [.ref (a 0), .int p1, .int p2, .int p3] (RWp g (xW g a st) sz)) (RWi res.1 g (xW g a res.2) (va_A (xW g a st) sz)) 0 0 (va_A (xW g a st) sz) := by
  refine rw_start (cc := cX6_chain) (maxL := 4) (ret := (some .int)) (lv := [(0, .ref (a 0)), (1, .int p1), (2, .int p2), (3, .int p3)]) (Qc := fun A => (RWi res.1 g (xW g a res.2) A)) (by decide) rfl (Nat.le_of_ble_eq_true rfl) rfl ?_
  intro p e s m args below meth c hx hb hml hr hts hown hlk hK A hD0 hA H locs hP hS ls hl
  have hD : ∀ st' : XS, va_D A (xW g a st') := fun _ => xW_D hD0
  have hB : ∀ w ∈ BIG, w.before args s = true := fun w h => hts w (List.mem_cons_of_mem _ h)
  have hC : CallFix p m c cX6_chain 4 s args BIG RX6 := ⟨hx, hb, hml, hown, hB⟩
  unfold f_X6_chain at hs
  refine lv_iload_n hx hb dX6_chain_0 rfl (lv_at hl 1 rfl) ?_
  refine cS_roi (As := [.int p1]) (rest := []) hC (m_X6_isRole l g (xW g a st) p1) (ks_of hB bw_9_6 bw_9_5 bw_1_2 kd_X6_isRole bw_9_4 rfl rfl ⟨Nat.le_of_ble_eq_true rfl, Nat.le_of_ble_eq_true rfl⟩) hK hP hP hS rfl hl.1 rfl (Nat.le_of_ble_eq_true rfl) dX6_chain_1 ⟨Nat.zero_le _, Nat.zero_le _⟩ (fun H locs hP hS => ?_)
  refine lv_if_eq (tgt := 21) hx hb dX6_chain_4 (by decide) (fun c1 => ?_) (fun c1 => ?_)
  · have hs := ifp c1 hs
    refine lv_bipush (v := -102) hx hb dX6_chain_21 (by decide) ?_
    cases hs
    exact ret_rwi hx hb hr hlk hP hS dX6_chain_23
  · have hs := ifn c1 hs
    refine lv_iload_n hx hb dX6_chain_7 rfl (lv_at hl 2 rfl) ?_
    refine cS_roi (As := [.int p2]) (rest := []) hC (m_X6_isRole l g (xW g a st) p2) (ks_of hB bw_9_6 bw_9_5 bw_1_2 kd_X6_isRole bw_9_4 rfl rfl ⟨Nat.le_of_ble_eq_true rfl, Nat.le_of_ble_eq_true rfl⟩) hK hP hP hS rfl hl.1 rfl (Nat.le_of_ble_eq_true rfl) dX6_chain_8 ⟨Nat.zero_le _, Nat.zero_le _⟩ (fun H locs hP hS => ?_)
    refine lv_if_eq (tgt := 21) hx hb dX6_chain_11 (by decide) (fun c2 => ?_) (fun c2 => ?_)
    · have hs := ifp c2 hs
      refine lv_bipush (v := -102) hx hb dX6_chain_21 (by decide) ?_
      cases hs
      exact ret_rwi hx hb hr hlk hP hS dX6_chain_23
    · have hs := ifn c2 hs
      refine lv_iload_n hx hb dX6_chain_14 rfl (lv_at hl 3 rfl) ?_
      refine cS_roi (As := [.int p3]) (rest := []) hC (m_X6_isRole l g (xW g a st) p3) (ks_of hB bw_9_6 bw_9_5 bw_1_2 kd_X6_isRole bw_9_4 rfl rfl ⟨Nat.le_of_ble_eq_true rfl, Nat.le_of_ble_eq_true rfl⟩) hK hP hP hS rfl hl.1 rfl (Nat.le_of_ble_eq_true rfl) dX6_chain_15 ⟨Nat.zero_le _, Nat.zero_le _⟩ (fun H locs hP hS => ?_)
      refine lv_if_ne (tgt := 24) hx hb dX6_chain_18 (by decide) (fun c3 => ?_) (fun c3 => ?_)
      · have hs := ifn c3 hs
        refine lv_aload_n hx hb dX6_chain_24 rfl (lv_at hl 0 rfl) ?_
        refine lv_iconst (v := 2) hx hb dX6_chain_25 (by decide) ?_
        refine lv_iload_n hx hb dX6_chain_26 rfl (lv_at hl 1 rfl) ?_
        refine lv_iload_n hx hb dX6_chain_27 rfl (lv_at hl 2 rfl) ?_
        refine lv_iload_n hx hb dX6_chain_28 rfl (lv_at hl 3 rfl) ?_
        obtain ⟨r4, e4, hs⟩ := Option.bind_eq_some_iff.mp hs
        refine cV_rwi (As := [.int (2 : Int32), .int p1, .int p2, .int p3]) (rest := []) hC (m_X6_addAxiom l g a st H.size (2 : Int32) p1 p2 p3 r4 e4) (kv_of hB bw_9_22 bw_9_20 bw_9_21 bw_1_2 kd_X6_addAxiom bw_9_19 rfl rfl ⟨Nat.le_of_ble_eq_true rfl, Nat.le_of_ble_eq_true rfl⟩) hK hP (hD _) hA hS (xW_0 g a st) rfl rfl hl.1 rfl (Nat.le_of_ble_eq_true rfl) dX6_chain_29 ⟨Nat.zero_le _, Nat.zero_le _⟩ (fun H locs hP hS => ?_)
        cases hs
        exact ret_rwi hx hb hr hlk hP hS dX6_chain_32
      · have hs := ifp c3 hs
        refine lv_bipush (v := -102) hx hb dX6_chain_21 (by decide) ?_
        cases hs
        exact ret_rwi hx hb hr hlk hP hS dX6_chain_23
def t_X0_knows (st : XS) (p1 : Int32) : Int32 :=
  (t_X6_within p1 (st.1 32 0))
theorem z_X0_knows (st : XS) (p1 : Int32) : t_X0_knows st p1 = 0 ∨ t_X0_knows st p1 = 1 := by
  unfold t_X0_knows
  (repeat' split) <;> first | exact Or.inl rfl | exact Or.inr rfl | exact z_X6_within _ _
set_option maxHeartbeats 4000000 in
set_option maxRecDepth 100000 in
theorem m_X0_knows (l : Launch) (g : GG) (a : Nat → Nat) (st : XS) (p1 : Int32) : Met l yX0_knows (Cond.code yX0_knows cX0_knows 2 (some .boolean) :: BIG) ({ frames := 1, cells := 0, slots := 0, locals := 21 } : Room) (va_Pc [.ref (a 3), .int p1] (ROp g (xW g a st))) (ROi (t_X0_knows st p1)) 0 0 (fun _ => False) := by
  obtain ⟨res, hs⟩ : ∃ z, t_X0_knows st p1 = z := ⟨_, rfl⟩
  rw [hs]
  refine ro_start (cc := cX0_knows) (maxL := 2) (ret := (some .boolean)) (lv := [(0, .ref (a 3)), (1, .int p1)]) (by decide) rfl (Nat.le_of_ble_eq_true rfl) rfl ?_
  intro p e s m args below meth c hx hb hml hr hts hown hlk hK H locs hP hS ls hl
  have hB : ∀ w ∈ BIG, w.before args s = true := fun w h => hts w (List.mem_cons_of_mem _ h)
  have hC : CallFix p m c cX0_knows 2 s args BIG RX0 := ⟨hx, hb, hml, hown, hB⟩
  unfold t_X0_knows at hs
  refine lv_iload_n hx hb dX0_knows_0 rfl (lv_at hl 1 rfl) ?_
  refine lv_aload_n hx hb dX0_knows_1 rfl (lv_at hl 0 rfl) ?_
  refine xg_0_1 hx hb hB hown hK hP dX0_knows_2 ?_
  refine cN_roi (As := [.int p1, .int (st.1 32 0)]) (rest := []) hC (m_X6_within l g (xW g a st) p1 (st.1 32 0)) (kn_of (host := "NotionRounds") hB bw_7_6 bw_7_5 bw_1_2 kd_X6_within (hK.2 _ (List.mem_of_getElem? (i := 18) rfl)) rfl rfl ⟨Nat.le_of_ble_eq_true rfl, Nat.le_of_ble_eq_true rfl⟩) hK hP hP hS rfl hl.1 rfl (Nat.le_of_ble_eq_true rfl) dX0_knows_5 ⟨Nat.zero_le _, Nat.zero_le _⟩ (fun H locs hP hS => ?_)
  subst hs
  exact ret_roz hx hb hr (zn_of (z_X6_within _ _)) hlk hS dX0_knows_8
def t_X0_part (st : XS) (p1 : Int32) (p2 : Int32) : Int32 :=
  (t_X6_at 200 (st.1 4) ((p1 * (5 : Int32)) + p2))
set_option maxHeartbeats 4000000 in
set_option maxRecDepth 100000 in
theorem m_X0_part (l : Launch) (g : GG) (a : Nat → Nat) (st : XS) (p1 : Int32) (p2 : Int32) : Met l yX0_part (Cond.code yX0_part cX0_part 3 (some .int) :: BIG) ({ frames := 1, cells := 0, slots := 0, locals := 21 } : Room) (va_Pc [.ref (a 3), .int p1, .int p2] (ROp g (xW g a st))) (ROi (t_X0_part st p1 p2)) 0 0 (fun _ => False) := by
  obtain ⟨res, hs⟩ : ∃ z, t_X0_part st p1 p2 = z := ⟨_, rfl⟩
  rw [hs]
  refine ro_start (cc := cX0_part) (maxL := 3) (ret := (some .int)) (lv := [(0, .ref (a 3)), (1, .int p1), (2, .int p2)]) (by decide) rfl (Nat.le_of_ble_eq_true rfl) rfl ?_
  intro p e s m args below meth c hx hb hml hr hts hown hlk hK H locs hP hS ls hl
  have hB : ∀ w ∈ BIG, w.before args s = true := fun w h => hts w (List.mem_cons_of_mem _ h)
  have hC : CallFix p m c cX0_part 3 s args BIG RX0 := ⟨hx, hb, hml, hown, hB⟩
  unfold t_X0_part at hs
  refine lv_aload_n hx hb dX0_part_0 rfl (lv_at hl 0 rfl) ?_
  refine xg_0_0 hx hb hB hown hK hP dX0_part_1 ?_
  refine lv_iload_n hx hb dX0_part_4 rfl (lv_at hl 1 rfl) ?_
  refine lv_iconst (v := 5) hx hb dX0_part_5 (by decide) ?_
  refine lv_imul hx hb dX0_part_6 ?_
  refine lv_iload_n hx hb dX0_part_7 rfl (lv_at hl 2 rfl) ?_
  refine lv_iadd hx hb dX0_part_8 ?_
  refine cN_roi (As := [.ref (a 4), .int ((p1 * (5 : Int32)) + p2)]) (rest := []) hC (m_X6_at l g (xW g a st) 4 200 (st.1 4) (a 4) (xW_4 g a st) (by decide) ((p1 * (5 : Int32)) + p2)) (kn_of (host := "NotionRounds") hB bw_8_0 bw_7_23 bw_1_2 kd_X6_at (hK.2 _ (List.mem_of_getElem? (i := 19) rfl)) rfl rfl ⟨Nat.le_of_ble_eq_true rfl, Nat.le_of_ble_eq_true rfl⟩) hK hP hP hS rfl hl.1 rfl (Nat.le_of_ble_eq_true rfl) dX0_part_9 ⟨Nat.zero_le _, Nat.zero_le _⟩ (fun H locs hP hS => ?_)
  subst hs
  exact ret_roi hx hb hr hlk hS dX0_part_12
