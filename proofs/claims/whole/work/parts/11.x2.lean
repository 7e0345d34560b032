def t_X0_holding (st : XS) (p1 : Int32) : Int32 :=
  (if (t_X0_knows st p1) = 0 then (0 : Int32) else (if (t_X0_part st p1 (4 : Int32)) = (1 : Int32) then (1 : Int32) else (0 : Int32)))
theorem z_X0_holding (st : XS) (p1 : Int32) : t_X0_holding st p1 = 0 ∨ t_X0_holding st p1 = 1 := by
  unfold t_X0_holding
  (repeat' split) <;> first | exact Or.inl rfl | exact Or.inr rfl | exact z_X0_knows _ _
set_option maxHeartbeats 4000000 in
set_option maxRecDepth 100000 in
theorem m_X0_holding (l : Launch) (g : GG) (a : Nat → Nat) (st : XS) (p1 : Int32) : Met l yX0_holding (Cond.code yX0_holding cX0_holding 2 (some .boolean) :: BIG) ({ frames := 2, cells := 0, slots := 0, locals := 43 } : Room) (va_Pc [.ref (a 3), .int p1] (ROp g (xW g a st))) (ROi (t_X0_holding st p1)) 0 0 (fun _ => False) := by
  obtain ⟨res, hs⟩ : ∃ z, t_X0_holding st p1 = z := ⟨_, rfl⟩
  rw [hs]
  refine ro_start (cc := cX0_holding) (maxL := 2) (ret := (some .boolean)) (lv := [(0, .ref (a 3)), (1, .int p1)]) (by decide) rfl (Nat.le_of_ble_eq_true rfl) rfl ?_
  intro p e s m args below meth c hx hb hml hr hts hown hlk hK H locs hP hS ls hl
  have hB : ∀ w ∈ BIG, w.before args s = true := fun w h => hts w (List.mem_cons_of_mem _ h)
  have hC : CallFix p m c cX0_holding 2 s args BIG RX0 := ⟨hx, hb, hml, hown, hB⟩
  unfold t_X0_holding at hs
  refine lv_aload_n hx hb dX0_holding_0 rfl (lv_at hl 0 rfl) ?_
  refine lv_iload_n hx hb dX0_holding_1 rfl (lv_at hl 1 rfl) ?_
  refine cV_roi (As := [.int p1]) (rest := []) hC (m_X0_knows l g a st p1) (kv_of hB bw_11_16 bw_11_14 bw_11_15 bw_1_18 kd_X0_knows bw_11_13 rfl rfl ⟨Nat.le_of_ble_eq_true rfl, Nat.le_of_ble_eq_true rfl⟩) hK hP hP hS (xW_3 g a st) rfl rfl hl.1 rfl (Nat.le_of_ble_eq_true rfl) dX0_holding_2 ⟨Nat.zero_le _, Nat.zero_le _⟩ (fun H locs hP hS => ?_)
  refine lv_if_eq (tgt := 22) hx hb dX0_holding_5 (by decide) (fun c1 => ?_) (fun c1 => ?_)
  · have hs := ifp c1 hs
    refine lv_iconst (v := 0) hx hb dX0_holding_22 (by decide) ?_
    subst hs
    exact ret_roz hx hb hr (zn_of (Or.inl rfl)) hlk hS dX0_holding_23
  · have hs := ifn c1 hs
    refine lv_aload_n hx hb dX0_holding_8 rfl (lv_at hl 0 rfl) ?_
    refine lv_iload_n hx hb dX0_holding_9 rfl (lv_at hl 1 rfl) ?_
    refine lv_iconst (v := 4) hx hb dX0_holding_10 (by decide) ?_
    refine cV_roi (As := [.int p1, .int (4 : Int32)]) (rest := []) hC (m_X0_part l g a st p1 (4 : Int32)) (kv_of hB bw_11_20 bw_11_18 bw_11_19 bw_1_18 kd_X0_part bw_11_17 rfl rfl ⟨Nat.le_of_ble_eq_true rfl, Nat.le_of_ble_eq_true rfl⟩) hK hP hP hS (xW_3 g a st) rfl rfl hl.1 rfl (Nat.le_of_ble_eq_true rfl) dX0_holding_11 ⟨Nat.zero_le _, Nat.zero_le _⟩ (fun H locs hP hS => ?_)
    refine lv_iconst (v := 1) hx hb dX0_holding_14 (by decide) ?_
    refine lv_icmp_ne (tgt := 22) hx hb dX0_holding_15 (by decide) (fun c2 => ?_) (fun c2 => ?_)
    · have hs := ifn c2 hs
      refine lv_iconst (v := 0) hx hb dX0_holding_22 (by decide) ?_
      subst hs
      exact ret_roz hx hb hr (zn_of (Or.inl rfl)) hlk hS dX0_holding_23
    · have hs := ifp c2 hs
      refine lv_iconst (v := 1) hx hb dX0_holding_18 (by decide) ?_
      refine lv_goto (tgt := 23) hx hb dX0_holding_19 (by decide) ?_
      subst hs
      exact ret_roz hx hb hr (zn_of (Or.inr rfl)) hlk hS dX0_holding_23
noncomputable def f_X0_takeBack (st : XS) (p1 : Int32) : Option XS :=
  (Option.bind (some (sA st 4 (t_X6_put 200 (st.1 4) ((p1 * (5 : Int32)) + (4 : Int32)) (0 : Int32)))) (fun r1 => some (r1)))
set_option maxHeartbeats 4000000 in
set_option maxRecDepth 100000 in
theorem m_X0_takeBack (l : Launch) (g : GG) (a : Nat → Nat) (st : XS) (sz : Nat) (p1 : Int32) (res : XS) (hs : f_X0_takeBack st p1 = some res) : Met l yX0_takeBack (Cond.code yX0_takeBack cX0_takeBack 2 none :: BIG) ({ frames := 1, cells := 0, slots := 0, locals := 22 } : Room) (va_Pc [.ref (a 3), .int p1] (RWp g (xW g a st) sz)) (RWv g (xW g a res) (va_A (xW g a st) sz)) 0 0 (va_A (xW g a st) sz) := by
  refine rw_start (cc := cX0_takeBack) (maxL := 2) (ret := none) (lv := [(0, .ref (a 3)), (1, .int p1)]) (Qc := fun A => (RWv g (xW g a res) A)) (by decide) rfl (Nat.le_of_ble_eq_true rfl) rfl ?_
  intro p e s m args below meth c hx hb hml hr hts hown hlk hK A hD0 hA H locs hP hS ls hl
  have hD : ∀ st' : XS, va_D A (xW g a st') := fun _ => xW_D hD0
  have hB : ∀ w ∈ BIG, w.before args s = true := fun w h => hts w (List.mem_cons_of_mem _ h)
  have hC : CallFix p m c cX0_takeBack 2 s args BIG RX0 := ⟨hx, hb, hml, hown, hB⟩
  unfold f_X0_takeBack at hs
  refine lv_aload_n hx hb dX0_takeBack_0 rfl (lv_at hl 0 rfl) ?_
  refine xg_0_0 hx hb hB hown hK hP dX0_takeBack_1 ?_
  refine lv_iload_n hx hb dX0_takeBack_4 rfl (lv_at hl 1 rfl) ?_
  refine lv_iconst (v := 5) hx hb dX0_takeBack_5 (by decide) ?_
  refine lv_imul hx hb dX0_takeBack_6 ?_
  refine lv_iconst (v := 4) hx hb dX0_takeBack_7 (by decide) ?_
  refine lv_iadd hx hb dX0_takeBack_8 ?_
  refine lv_iconst (v := 0) hx hb dX0_takeBack_9 (by decide) ?_
  obtain ⟨r1, e1, hs⟩ := Option.bind_eq_some_iff.mp hs
  have e1 := Option.some.inj e1
  refine cN_rwv (As := [.ref (a 4), .int ((p1 * (5 : Int32)) + (4 : Int32)), .int (0 : Int32)]) (rest := []) hC (m_X6_put_4 l g a st r1 H.size ((p1 * (5 : Int32)) + (4 : Int32)) (0 : Int32) e1) (kn_of (host := "NotionRounds") hB bw_3_3 bw_3_2 bw_1_2 kd_X6_put (hK.2 _ (List.mem_of_getElem? (i := 17) rfl)) rfl rfl ⟨Nat.le_of_ble_eq_true rfl, Nat.le_of_ble_eq_true rfl⟩) hK hP (hD _) hA hS rfl hl.1 rfl (Nat.le_of_ble_eq_true rfl) dX0_takeBack_10 ⟨Nat.zero_le _, Nat.zero_le _⟩ (fun H locs hP hS => ?_)
  cases hs
  exact ret_rwv hx hb hr hlk hP hS dX0_takeBack_13
noncomputable def f_X6_unsay (st : XS) (p1 : Int32) : Option (Int32 × XS) :=
  (if (t_X0_holding st p1) = 0 then some (((-101 : Int32), st)) else (Option.bind (f_X0_takeBack st p1) (fun r2 => (Option.bind (some (sA r2 36 (fun _ => (0 : Int32)))) (fun r3 => some (((1 : Int32), r3)))))))
set_option maxHeartbeats 4000000 in
set_option maxRecDepth 100000 in
theorem m_X6_unsay (l : Launch) (g : GG) (a : Nat → Nat) (st : XS) (sz : Nat) (p1 : Int32) (res : (Int32 × XS)) (hs : f_X6_unsay st p1 = some res) : Met l yX6_unsay (Cond.code yX6_unsay cX6_unsay 2 (some .int) :: BIG) ({ frames := 3, cells := 0, slots := 0, locals := 64 } : Room) (va_Pc [.ref (a 0), .int p1] (RWp g (xW g a st) sz)) (RWi res.1 g (xW g a res.2) (va_A (xW g a st) sz)) 0 0 (va_A (xW g a st) sz) := by
  refine rw_start (cc := cX6_unsay) (maxL := 2) (ret := (some .int)) (lv := [(0, .ref (a 0)), (1, .int p1)]) (Qc := fun A => (RWi res.1 g (xW g a res.2) A)) (by decide) rfl (Nat.le_of_ble_eq_true rfl) rfl ?_
  intro p e s m args below meth c hx hb hml hr hts hown hlk hK A hD0 hA H locs hP hS ls hl
  have hD : ∀ st' : XS, va_D A (xW g a st') := fun _ => xW_D hD0
  have hB : ∀ w ∈ BIG, w.before args s = true := fun w h => hts w (List.mem_cons_of_mem _ h)
  have hC : CallFix p m c cX6_unsay 2 s args BIG RX6 := ⟨hx, hb, hml, hown, hB⟩
  unfold f_X6_unsay at hs
  refine lv_aload_n hx hb dX6_unsay_0 rfl (lv_at hl 0 rfl) ?_
  refine xg_6_1 hx hb hB hown hK hP dX6_unsay_1 ?_
  refine lv_iload_n hx hb dX6_unsay_4 rfl (lv_at hl 1 rfl) ?_
  refine cV_roi (As := [.int p1]) (rest := []) hC (m_X0_holding l g a st p1) (kv_of hB bw_11_12 bw_11_10 bw_11_11 bw_1_18 kd_X0_holding bw_11_9 rfl rfl ⟨Nat.le_of_ble_eq_true rfl, Nat.le_of_ble_eq_true rfl⟩) hK hP hP hS (xW_3 g a st) rfl rfl hl.1 rfl (Nat.le_of_ble_eq_true rfl) dX6_unsay_5 ⟨Nat.zero_le _, Nat.zero_le _⟩ (fun H locs hP hS => ?_)
  refine lv_if_ne (tgt := 14) hx hb dX6_unsay_8 (by decide) (fun c1 => ?_) (fun c1 => ?_)
  · have hs := ifn c1 hs
    refine lv_aload_n hx hb dX6_unsay_14 rfl (lv_at hl 0 rfl) ?_
    refine xg_6_1 hx hb hB hown hK hP dX6_unsay_15 ?_
    refine lv_iload_n hx hb dX6_unsay_18 rfl (lv_at hl 1 rfl) ?_
    obtain ⟨r2, e2, hs⟩ := Option.bind_eq_some_iff.mp hs
    refine cV_rwv (As := [.int p1]) (rest := []) hC (m_X0_takeBack l g a st H.size p1 r2 e2) (kv_of hB bw_12_0 bw_11_22 bw_11_23 bw_1_18 kd_X0_takeBack bw_11_21 rfl rfl ⟨Nat.le_of_ble_eq_true rfl, Nat.le_of_ble_eq_true rfl⟩) hK hP (hD _) hA hS (xW_3 g a st) rfl rfl hl.1 rfl (Nat.le_of_ble_eq_true rfl) dX6_unsay_19 ⟨Nat.zero_le _, Nat.zero_le _⟩ (fun H locs hP hS => ?_)
    refine lv_aload_n hx hb dX6_unsay_22 rfl (lv_at hl 0 rfl) ?_
    refine lv_iconst (v := 0) hx hb dX6_unsay_23 (by decide) ?_
    obtain ⟨r3, e3, hs⟩ := Option.bind_eq_some_iff.mp hs
    have e3 := Option.some.inj e3
    refine xp_36 hx hb hB hown hK hP hD hS (Or.inl rfl) e3 dX6_unsay_24 (fun H locs hP hS => ?_)
    refine lv_iconst (v := 1) hx hb dX6_unsay_27 (by decide) ?_
    cases hs
    exact ret_rwi hx hb hr hlk hP hS dX6_unsay_28
  · have hs := ifp c1 hs
    refine lv_bipush (v := -101) hx hb dX6_unsay_11 (by decide) ?_
    cases hs
    exact ret_rwi hx hb hr hlk hP hS dX6_unsay_13
def t_X6_notion (st : XS) (p1 : Int32) (p2 : Int32) : Int32 :=
  (if (t_X3_knows st p1) = 0 then (-101 : Int32) else (if (t_X6_within p2 (3 : Int32)) = 0 then (-102 : Int32) else (t_X3_part st p1 p2)))
set_option maxHeartbeats 4000000 in
set_option maxRecDepth 100000 in
theorem m_X6_notion (l : Launch) (g : GG) (a : Nat → Nat) (st : XS) (p1 : Int32) (p2 : Int32) : Met l yX6_notion (Cond.code yX6_notion cX6_notion 3 (some .int) :: BIG) ({ frames := 2, cells := 0, slots := 0, locals := 43 } : Room) (va_Pc [.ref (a 0), .int p1, .int p2] (ROp g (xW g a st))) (ROi (t_X6_notion st p1 p2)) 0 0 (fun _ => False) := by
  obtain ⟨res, hs⟩ : ∃ z, t_X6_notion st p1 p2 = z := ⟨_, rfl⟩
  rw [hs]
  refine ro_start (cc := cX6_notion) (maxL := 3) (ret := (some .int)) (lv := [(0, .ref (a 0)), (1, .int p1), (2, .int p2)]) (by decide) rfl (Nat.le_of_ble_eq_true rfl) rfl ?_
  intro p e s m args below meth c hx hb hml hr hts hown hlk hK H locs hP hS ls hl
  have hB : ∀ w ∈ BIG, w.before args s = true := fun w h => hts w (List.mem_cons_of_mem _ h)
  have hC : CallFix p m c cX6_notion 3 s args BIG RX6 := ⟨hx, hb, hml, hown, hB⟩
  unfold t_X6_notion at hs
  refine lv_aload_n hx hb dX6_notion_0 rfl (lv_at hl 0 rfl) ?_
  refine xg_6_0 hx hb hB hown hK hP dX6_notion_1 ?_
  refine lv_iload_n hx hb dX6_notion_4 rfl (lv_at hl 1 rfl) ?_
  refine cV_roi (As := [.int p1]) (rest := []) hC (m_X3_knows l g a st p1) (kv_of hB bw_7_4 bw_7_2 bw_7_3 bw_1_14 kd_X3_knows bw_7_1 rfl rfl ⟨Nat.le_of_ble_eq_true rfl, Nat.le_of_ble_eq_true rfl⟩) hK hP hP hS (xW_1 g a st) rfl rfl hl.1 rfl (Nat.le_of_ble_eq_true rfl) dX6_notion_5 ⟨Nat.zero_le _, Nat.zero_le _⟩ (fun H locs hP hS => ?_)
  refine lv_if_ne (tgt := 14) hx hb dX6_notion_8 (by decide) (fun c1 => ?_) (fun c1 => ?_)
  · have hs := ifn c1 hs
    refine lv_iload_n hx hb dX6_notion_14 rfl (lv_at hl 2 rfl) ?_
    refine lv_iconst (v := 3) hx hb dX6_notion_15 (by decide) ?_
    refine cS_roi (As := [.int p2, .int (3 : Int32)]) (rest := []) hC (m_X6_within l g (xW g a st) p2 (3 : Int32)) (ks_of hB bw_7_6 bw_7_5 bw_1_2 kd_X6_within bw_9_7 rfl rfl ⟨Nat.le_of_ble_eq_true rfl, Nat.le_of_ble_eq_true rfl⟩) hK hP hP hS rfl hl.1 rfl (Nat.le_of_ble_eq_true rfl) dX6_notion_16 ⟨Nat.zero_le _, Nat.zero_le _⟩ (fun H locs hP hS => ?_)
    refine lv_if_ne (tgt := 25) hx hb dX6_notion_19 (by decide) (fun c2 => ?_) (fun c2 => ?_)
    · have hs := ifn c2 hs
      refine lv_aload_n hx hb dX6_notion_25 rfl (lv_at hl 0 rfl) ?_
      refine xg_6_0 hx hb hB hown hK hP dX6_notion_26 ?_
      refine lv_iload_n hx hb dX6_notion_29 rfl (lv_at hl 1 rfl) ?_
      refine lv_iload_n hx hb dX6_notion_30 rfl (lv_at hl 2 rfl) ?_
      refine cV_roi (As := [.int p1, .int p2]) (rest := []) hC (m_X3_part l g a st p1 p2) (kv_of hB bw_7_22 bw_7_20 bw_7_21 bw_1_14 kd_X3_part bw_12_9 rfl rfl ⟨Nat.le_of_ble_eq_true rfl, Nat.le_of_ble_eq_true rfl⟩) hK hP hP hS (xW_1 g a st) rfl rfl hl.1 rfl (Nat.le_of_ble_eq_true rfl) dX6_notion_31 ⟨Nat.zero_le _, Nat.zero_le _⟩ (fun H locs hP hS => ?_)
      subst hs
      exact ret_roi hx hb hr hlk hS dX6_notion_34
    · have hs := ifp c2 hs
      refine lv_bipush (v := -102) hx hb dX6_notion_22 (by decide) ?_
      subst hs
      exact ret_roi hx hb hr hlk hS dX6_notion_24
  · have hs := ifp c1 hs
    refine lv_bipush (v := -101) hx hb dX6_notion_11 (by decide) ?_
    subst hs
    exact ret_roi hx hb hr hlk hS dX6_notion_13
def t_X6_axiom (st : XS) (p1 : Int32) (p2 : Int32) : Int32 :=
  (if (t_X0_knows st p1) = 0 then (-101 : Int32) else (if (t_X6_within p2 (5 : Int32)) = 0 then (-102 : Int32) else (t_X0_part st p1 p2)))
set_option maxHeartbeats 4000000 in
set_option maxRecDepth 100000 in
theorem m_X6_axiom (l : Launch) (g : GG) (a : Nat → Nat) (st : XS) (p1 : Int32) (p2 : Int32) : Met l yX6_axiom (Cond.code yX6_axiom cX6_axiom 3 (some .int) :: BIG) ({ frames := 2, cells := 0, slots := 0, locals := 43 } : Room) (va_Pc [.ref (a 0), .int p1, .int p2] (ROp g (xW g a st))) (ROi (t_X6_axiom st p1 p2)) 0 0 (fun _ => False) := by
  obtain ⟨res, hs⟩ : ∃ z, t_X6_axiom st p1 p2 = z := ⟨_, rfl⟩
  rw [hs]
  refine ro_start (cc := cX6_axiom) (maxL := 3) (ret := (some .int)) (lv := [(0, .ref (a 0)), (1, .int p1), (2, .int p2)]) (by decide) rfl (Nat.le_of_ble_eq_true rfl) rfl ?_
  intro p e s m args below meth c hx hb hml hr hts hown hlk hK H locs hP hS ls hl
  have hB : ∀ w ∈ BIG, w.before args s = true := fun w h => hts w (List.mem_cons_of_mem _ h)
  have hC : CallFix p m c cX6_axiom 3 s args BIG RX6 := ⟨hx, hb, hml, hown, hB⟩
  unfold t_X6_axiom at hs
  refine lv_aload_n hx hb dX6_axiom_0 rfl (lv_at hl 0 rfl) ?_
  refine xg_6_1 hx hb hB hown hK hP dX6_axiom_1 ?_
  refine lv_iload_n hx hb dX6_axiom_4 rfl (lv_at hl 1 rfl) ?_
  refine cV_roi (As := [.int p1]) (rest := []) hC (m_X0_knows l g a st p1) (kv_of hB bw_11_16 bw_11_14 bw_11_15 bw_1_18 kd_X0_knows bw_12_18 rfl rfl ⟨Nat.le_of_ble_eq_true rfl, Nat.le_of_ble_eq_true rfl⟩) hK hP hP hS (xW_3 g a st) rfl rfl hl.1 rfl (Nat.le_of_ble_eq_true rfl) dX6_axiom_5 ⟨Nat.zero_le _, Nat.zero_le _⟩ (fun H locs hP hS => ?_)
  refine lv_if_ne (tgt := 14) hx hb dX6_axiom_8 (by decide) (fun c1 => ?_) (fun c1 => ?_)
  · have hs := ifn c1 hs
    refine lv_iload_n hx hb dX6_axiom_14 rfl (lv_at hl 2 rfl) ?_
    refine lv_iconst (v := 5) hx hb dX6_axiom_15 (by decide) ?_
    refine cS_roi (As := [.int p2, .int (5 : Int32)]) (rest := []) hC (m_X6_within l g (xW g a st) p2 (5 : Int32)) (ks_of hB bw_7_6 bw_7_5 bw_1_2 kd_X6_within bw_9_7 rfl rfl ⟨Nat.le_of_ble_eq_true rfl, Nat.le_of_ble_eq_true rfl⟩) hK hP hP hS rfl hl.1 rfl (Nat.le_of_ble_eq_true rfl) dX6_axiom_16 ⟨Nat.zero_le _, Nat.zero_le _⟩ (fun H locs hP hS => ?_)
    refine lv_if_ne (tgt := 25) hx hb dX6_axiom_19 (by decide) (fun c2 => ?_) (fun c2 => ?_)
    · have hs := ifn c2 hs
      refine lv_aload_n hx hb dX6_axiom_25 rfl (lv_at hl 0 rfl) ?_
      refine xg_6_1 hx hb hB hown hK hP dX6_axiom_26 ?_
      refine lv_iload_n hx hb dX6_axiom_29 rfl (lv_at hl 1 rfl) ?_
      refine lv_iload_n hx hb dX6_axiom_30 rfl (lv_at hl 2 rfl) ?_
      refine cV_roi (As := [.int p1, .int p2]) (rest := []) hC (m_X0_part l g a st p1 p2) (kv_of hB bw_11_20 bw_11_18 bw_11_19 bw_1_18 kd_X0_part bw_12_19 rfl rfl ⟨Nat.le_of_ble_eq_true rfl, Nat.le_of_ble_eq_true rfl⟩) hK hP hP hS (xW_3 g a st) rfl rfl hl.1 rfl (Nat.le_of_ble_eq_true rfl) dX6_axiom_31 ⟨Nat.zero_le _, Nat.zero_le _⟩ (fun H locs hP hS => ?_)
      subst hs
      exact ret_roi hx hb hr hlk hS dX6_axiom_34
    · have hs := ifp c2 hs
      refine lv_bipush (v := -102) hx hb dX6_axiom_22 (by decide) ?_
      subst hs
      exact ret_roi hx hb hr hlk hS dX6_axiom_24
  · have hs := ifp c1 hs
    refine lv_bipush (v := -101) hx hb dX6_axiom_11 (by decide) ?_
    subst hs
    exact ret_roi hx hb hr hlk hS dX6_axiom_13
noncomputable def f_X1_clear (st : XS) : Option XS :=
  (Option.bind ((f_X6_fill 2000 (st.1 9) (-1 : Int32)).map (sA st 9)) (fun r1 => (Option.bind (some (sA r1 33 (fun _ => (0 : Int32)))) (fun r2 => (Option.bind (some (sA r2 34 (fun _ => (0 : Int32)))) (fun r3 => some (r3)))))))
set_option maxHeartbeats 4000000 in
set_option maxRecDepth 100000 in
theorem m_X1_clear (l : Launch) (g : GG) (a : Nat → Nat) (st : XS) (sz : Nat)  (res : XS) (hs : f_X1_clear st = some res) : Met l yX1_clear (Cond.code yX1_clear cX1_clear 1 none :: BIG) ({ frames := 1, cells := 0, slots := 0, locals := 22 } : Room) (va_Pc [.ref (a 8)] (RWp g (xW g a st) sz)) (RWv g (xW g a res) (va_A (xW g a st) sz)) 0 0 (va_A (xW g a st) sz) := by
  refine rw_start (cc := cX1_clear) (maxL := 1) (ret := none) (lv := [(0, .ref (a 8))]) (Qc := fun A => (RWv g (xW g a res) A)) (by decide) rfl (Nat.le_of_ble_eq_true rfl) rfl ?_
  intro p e s m args below meth c hx hb hml hr hts hown hlk hK A hD0 hA H locs hP hS ls hl
  have hD : ∀ st' : XS, va_D A (xW g a st') := fun _ => xW_D hD0
  have hB : ∀ w ∈ BIG, w.before args s = true := fun w h => hts w (List.mem_cons_of_mem _ h)
  have hC : CallFix p m c cX1_clear 1 s args BIG RX1 := ⟨hx, hb, hml, hown, hB⟩
  unfold f_X1_clear at hs
  refine lv_aload_n hx hb dX1_clear_0 rfl (lv_at hl 0 rfl) ?_
  refine xg_1_0 hx hb hB hown hK hP dX1_clear_1 ?_
  refine lv_iconst (v := -1) hx hb dX1_clear_4 (by decide) ?_
  obtain ⟨r1, e1, hs⟩ := Option.bind_eq_some_iff.mp hs
  refine cN_rwv (As := [.ref (a 9), .int (-1 : Int32)]) (rest := []) hC (m_X6_fill_9 l g a st r1 H.size (-1 : Int32) e1) (kn_of (host := "NotionRounds") hB bw_13_15 bw_13_14 bw_1_2 kd_X6_fill (hK.2 _ (List.mem_of_getElem? (i := 20) rfl)) rfl rfl ⟨Nat.le_of_ble_eq_true rfl, Nat.le_of_ble_eq_true rfl⟩) hK hP (hD _) hA hS rfl hl.1 rfl (Nat.le_of_ble_eq_true rfl) dX1_clear_5 ⟨Nat.zero_le _, Nat.zero_le _⟩ (fun H locs hP hS => ?_)
  refine lv_aload_n hx hb dX1_clear_8 rfl (lv_at hl 0 rfl) ?_
  refine lv_iconst (v := 0) hx hb dX1_clear_9 (by decide) ?_
  obtain ⟨r2, e2, hs⟩ := Option.bind_eq_some_iff.mp hs
  have e2 := Option.some.inj e2
  refine xp_33 hx hb hB hown hK hP hD hS e2 dX1_clear_10 (fun H locs hP hS => ?_)
  refine lv_aload_n hx hb dX1_clear_13 rfl (lv_at hl 0 rfl) ?_
  refine lv_iconst (v := 0) hx hb dX1_clear_14 (by decide) ?_
  obtain ⟨r3, e3, hs⟩ := Option.bind_eq_some_iff.mp hs
  have e3 := Option.some.inj e3
  refine xp_34 hx hb hB hown hK hP hD hS e3 dX1_clear_15 (fun H locs hP hS => ?_)
  cases hs
  exact ret_rwv hx hb hr hlk hP hS dX1_clear_18
def t_X0_holdingOf (st : XS) (p1 : Int32) (p2 : Int32) : Int32 :=
  (if (t_X0_part st p1 (4 : Int32)) = (1 : Int32) then (if (t_X0_part st p1 (0 : Int32)) = p2 then (1 : Int32) else (0 : Int32)) else (0 : Int32))
theorem z_X0_holdingOf (st : XS) (p1 : Int32) (p2 : Int32) : t_X0_holdingOf st p1 p2 = 0 ∨ t_X0_holdingOf st p1 p2 = 1 := by
  unfold t_X0_holdingOf
  (repeat' split) <;> first | exact Or.inl rfl | exact Or.inr rfl
set_option maxHeartbeats 4000000 in
set_option maxRecDepth 100000 in
theorem m_X0_holdingOf (l : Launch) (g : GG) (a : Nat → Nat) (st : XS) (p1 : Int32) (p2 : Int32) : Met l yX0_holdingOf (Cond.code yX0_holdingOf cX0_holdingOf 3 (some .boolean) :: BIG) ({ frames := 2, cells := 0, slots := 0, locals := 43 } : Room) (va_Pc [.ref (a 3), .int p1, .int p2] (ROp g (xW g a st))) (ROi (t_X0_holdingOf st p1 p2)) 0 0 (fun _ => False) := by
  obtain ⟨res, hs⟩ : ∃ z, t_X0_holdingOf st p1 p2 = z := ⟨_, rfl⟩
  rw [hs]
  refine ro_start (cc := cX0_holdingOf) (maxL := 3) (ret := (some .boolean)) (lv := [(0, .ref (a 3)), (1, .int p1), (2, .int p2)]) (by decide) rfl (Nat.le_of_ble_eq_true rfl) rfl ?_
  intro p e s m args below meth c hx hb hml hr hts hown hlk hK H locs hP hS ls hl
  have hB : ∀ w ∈ BIG, w.before args s = true := fun w h => hts w (List.mem_cons_of_mem _ h)
  have hC : CallFix p m c cX0_holdingOf 3 s args BIG RX0 := ⟨hx, hb, hml, hown, hB⟩
  unfold t_X0_holdingOf at hs
  refine lv_aload_n hx hb dX0_holdingOf_0 rfl (lv_at hl 0 rfl) ?_
  refine lv_iload_n hx hb dX0_holdingOf_1 rfl (lv_at hl 1 rfl) ?_
  refine lv_iconst (v := 4) hx hb dX0_holdingOf_2 (by decide) ?_
  refine cV_roi (As := [.int p1, .int (4 : Int32)]) (rest := []) hC (m_X0_part l g a st p1 (4 : Int32)) (kv_of hB bw_11_20 bw_11_18 bw_11_19 bw_1_18 kd_X0_part bw_11_17 rfl rfl ⟨Nat.le_of_ble_eq_true rfl, Nat.le_of_ble_eq_true rfl⟩) hK hP hP hS (xW_3 g a st) rfl rfl hl.1 rfl (Nat.le_of_ble_eq_true rfl) dX0_holdingOf_3 ⟨Nat.zero_le _, Nat.zero_le _⟩ (fun H locs hP hS => ?_)
  refine lv_iconst (v := 1) hx hb dX0_holdingOf_6 (by decide) ?_
  refine lv_icmp_ne (tgt := 24) hx hb dX0_holdingOf_7 (by decide) (fun c1 => ?_) (fun c1 => ?_)
  · have hs := ifn c1 hs
    refine lv_iconst (v := 0) hx hb dX0_holdingOf_24 (by decide) ?_
    subst hs
    exact ret_roz hx hb hr (zn_of (Or.inl rfl)) hlk hS dX0_holdingOf_25
  · have hs := ifp c1 hs
    refine lv_aload_n hx hb dX0_holdingOf_10 rfl (lv_at hl 0 rfl) ?_
    refine lv_iload_n hx hb dX0_holdingOf_11 rfl (lv_at hl 1 rfl) ?_
    refine lv_iconst (v := 0) hx hb dX0_holdingOf_12 (by decide) ?_
    refine cV_roi (As := [.int p1, .int (0 : Int32)]) (rest := []) hC (m_X0_part l g a st p1 (0 : Int32)) (kv_of hB bw_11_20 bw_11_18 bw_11_19 bw_1_18 kd_X0_part bw_11_17 rfl rfl ⟨Nat.le_of_ble_eq_true rfl, Nat.le_of_ble_eq_true rfl⟩) hK hP hP hS (xW_3 g a st) rfl rfl hl.1 rfl (Nat.le_of_ble_eq_true rfl) dX0_holdingOf_13 ⟨Nat.zero_le _, Nat.zero_le _⟩ (fun H locs hP hS => ?_)
    refine lv_iload_n hx hb dX0_holdingOf_16 rfl (lv_at hl 2 rfl) ?_
    refine lv_icmp_ne (tgt := 24) hx hb dX0_holdingOf_17 (by decide) (fun c2 => ?_) (fun c2 => ?_)
    · have hs := ifn c2 hs
      refine lv_iconst (v := 0) hx hb dX0_holdingOf_24 (by decide) ?_
      subst hs
      exact ret_roz hx hb hr (zn_of (Or.inl rfl)) hlk hS dX0_holdingOf_25
    · have hs := ifp c2 hs
      refine lv_iconst (v := 1) hx hb dX0_holdingOf_20 (by decide) ?_
      refine lv_goto (tgt := 25) hx hb dX0_holdingOf_21 (by decide) ?_
      subst hs
      exact ret_roz hx hb hr (zn_of (Or.inr rfl)) hlk hS dX0_holdingOf_25
def t_X4_goesUnder (st : XS) (p1 : Int32) (p2 : Int32) : Int32 :=
  (if (t_X6_at 16 (st.1 6) ((p1 * (4 : Int32)) + p2)) = (1 : Int32) then (1 : Int32) else (0 : Int32))
theorem z_X4_goesUnder (st : XS) (p1 : Int32) (p2 : Int32) : t_X4_goesUnder st p1 p2 = 0 ∨ t_X4_goesUnder st p1 p2 = 1 := by
  unfold t_X4_goesUnder
  (repeat' split) <;> first | exact Or.inl rfl | exact Or.inr rfl
set_option maxHeartbeats 4000000 in
set_option maxRecDepth 100000 in
theorem m_X4_goesUnder (l : Launch) (g : GG) (a : Nat → Nat) (st : XS) (p1 : Int32) (p2 : Int32) : Met l yX4_goesUnder (Cond.code yX4_goesUnder cX4_goesUnder 3 (some .boolean) :: BIG) ({ frames := 1, cells := 0, slots := 0, locals := 21 } : Room) (va_Pc [.ref (a 5), .int p1, .int p2] (ROp g (xW g a st))) (ROi (t_X4_goesUnder st p1 p2)) 0 0 (fun _ => False) := by
  obtain ⟨res, hs⟩ : ∃ z, t_X4_goesUnder st p1 p2 = z := ⟨_, rfl⟩
  rw [hs]
  refine ro_start (cc := cX4_goesUnder) (maxL := 3) (ret := (some .boolean)) (lv := [(0, .ref (a 5)), (1, .int p1), (2, .int p2)]) (by decide) rfl (Nat.le_of_ble_eq_true rfl) rfl ?_
  intro p e s m args below meth c hx hb hml hr hts hown hlk hK H locs hP hS ls hl
  have hB : ∀ w ∈ BIG, w.before args s = true := fun w h => hts w (List.mem_cons_of_mem _ h)
  have hC : CallFix p m c cX4_goesUnder 3 s args BIG RX4 := ⟨hx, hb, hml, hown, hB⟩
  unfold t_X4_goesUnder at hs
  refine lv_aload_n hx hb dX4_goesUnder_0 rfl (lv_at hl 0 rfl) ?_
  refine xg_4_0 hx hb hB hown hK hP dX4_goesUnder_1 ?_
  refine lv_iload_n hx hb dX4_goesUnder_4 rfl (lv_at hl 1 rfl) ?_
  refine lv_iconst (v := 4) hx hb dX4_goesUnder_5 (by decide) ?_
  refine lv_imul hx hb dX4_goesUnder_6 ?_
  refine lv_iload_n hx hb dX4_goesUnder_7 rfl (lv_at hl 2 rfl) ?_
  refine lv_iadd hx hb dX4_goesUnder_8 ?_
  refine cN_roi (As := [.ref (a 6), .int ((p1 * (4 : Int32)) + p2)]) (rest := []) hC (m_X6_at l g (xW g a st) 6 16 (st.1 6) (a 6) (xW_6 g a st) (by decide) ((p1 * (4 : Int32)) + p2)) (kn_of (host := "NotionRounds") hB bw_8_0 bw_7_23 bw_1_2 kd_X6_at (hK.2 _ (List.mem_of_getElem? (i := 23) rfl)) rfl rfl ⟨Nat.le_of_ble_eq_true rfl, Nat.le_of_ble_eq_true rfl⟩) hK hP hP hS rfl hl.1 rfl (Nat.le_of_ble_eq_true rfl) dX4_goesUnder_9 ⟨Nat.zero_le _, Nat.zero_le _⟩ (fun H locs hP hS => ?_)
  refine lv_iconst (v := 1) hx hb dX4_goesUnder_12 (by decide) ?_
  refine lv_icmp_ne (tgt := 20) hx hb dX4_goesUnder_13 (by decide) (fun c1 => ?_) (fun c1 => ?_)
  · have hs := ifn c1 hs
    refine lv_iconst (v := 0) hx hb dX4_goesUnder_20 (by decide) ?_
    subst hs
    exact ret_roz hx hb hr (zn_of (Or.inl rfl)) hlk hS dX4_goesUnder_21
  · have hs := ifp c1 hs
    refine lv_iconst (v := 1) hx hb dX4_goesUnder_16 (by decide) ?_
    refine lv_goto (tgt := 21) hx hb dX4_goesUnder_17 (by decide) ?_
    subst hs
    exact ret_roz hx hb hr (zn_of (Or.inr rfl)) hlk hS dX4_goesUnder_21
noncomputable def b_X4_joinThrough_9 (c9_1 : Int32) (c9_2 : Int32) (v9_3 : Int32) (z9 : XS) : Option ((Int32 × XS) ⊕ ((Int32 × XS) ⊕ XS)) :=
  (if (4 : Int32) ≤ v9_3 then some (Sum.inr (Sum.inl ((c9_2 + 1), z9))) else (if (t_X4_goesUnder z9 c9_2 c9_1) = 0 then some (Sum.inl ((v9_3 + 1), z9)) else (if (t_X4_goesUnder z9 c9_1 v9_3) = 0 then some (Sum.inl ((v9_3 + 1), z9)) else (Option.bind (some (sA z9 6 (t_X6_put 16 (z9.1 6) ((c9_2 * (4 : Int32)) + v9_3) (1 : Int32)))) (fun r5 => some (Sum.inl ((v9_3 + 1), r5)))))))
noncomputable def b_X4_joinThrough_2 (c2_1 : Int32) (v2_2 : Int32) (z2 : XS) : Option ((Int32 × XS) ⊕ XS) :=
  (if (4 : Int32) ≤ v2_2 then some (Sum.inr (z2)) else (loopC (fun v => b_X4_joinThrough_9 c2_1 v2_2 v.1 v.2) ((0 : Int32), z2)))
noncomputable def f_X4_joinThrough (st : XS) (p1 : Int32) : Option XS :=
  (loopC (fun v => b_X4_joinThrough_2 p1 v.1 v.2) ((0 : Int32), st))
set_option maxHeartbeats 4000000 in
set_option maxRecDepth 100000 in
theorem m_X4_joinThrough (l : Launch) (g : GG) (a : Nat → Nat) (st : XS) (sz : Nat) (p1 : Int32) (res : XS) (hs : f_X4_joinThrough st p1 = some res) : Met l yX4_joinThrough (Cond.code yX4_joinThrough cX4_joinThrough 4 none :: BIG) ({ frames := 2, cells := 0, slots := 0, locals := 43 } : Room) (va_Pc [.ref (a 5), .int p1] (RWp g (xW g a st) sz)) (RWv g (xW g a res) (va_A (xW g a st) sz)) 0 0 (va_A (xW g a st) sz) := by
  refine rw_start (cc := cX4_joinThrough) (maxL := 4) (ret := none) (lv := [(0, .ref (a 5)), (1, .int p1)]) (Qc := fun A => (RWv g (xW g a res) A)) (by decide) rfl (Nat.le_of_ble_eq_true rfl) rfl ?_
  intro p e s m args below meth c hx hb hml hr hts hown hlk hK A hD0 hA H locs hP hS ls hl
  have hD : ∀ st' : XS, va_D A (xW g a st') := fun _ => xW_D hD0
  have hB : ∀ w ∈ BIG, w.before args s = true := fun w h => hts w (List.mem_cons_of_mem _ h)
  have hC : CallFix p m c cX4_joinThrough 4 s args BIG RX4 := ⟨hx, hb, hml, hown, hB⟩
  unfold f_X4_joinThrough at hs
  refine lv_iconst (v := 0) hx hb dX4_joinThrough_0 (by decide) ?_
  refine lv_istore_n (lv' := [(2, .int (0 : Int32)), (0, .ref (a 5)), (1, .int p1)]) hx hb dX4_joinThrough_1 rfl hl (by decide) rfl (fun ls hl => ?_)
  obtain ⟨n2, hs⟩ := loopC_iter hs
  have L2 : ∀ (n : Nat) (v2_2 : Int32) (z2 : XS), iterO (fun v => b_X4_joinThrough_2 p1 v.1 v.2) n (v2_2, z2) = some res → ∀ (H : Heap) (locs : List Loc), va_P g.1 vwCl (xW g a z2) H → va_S A s.heap H locs → ∀ ls : Array Slot, lv_has ls 4 [(0, .ref (a 5)), (1, .int p1), (2, .int v2_2)] → W p l e ({ frames := 2, cells := 0, slots := 0, locals := 43 } : Room) s m args below meth c H locs 0 0 (MQ below (RWv g (xW g a res) A) args s 0 0 A) (F0 m 2 ls []) := by
    intro n
    induction n with
    | zero => intro v2_2 z2 hs; exact (iterO_zero hs).elim
    | succ n ih2 =>
      intro v2_2 z2 hs H locs hP hS ls hl
      obtain ⟨y2, hs, hk2⟩ := iterO_succ hs
      have hs : b_X4_joinThrough_2 p1 v2_2 z2 = some y2 := hs
      unfold b_X4_joinThrough_2 at hs
      refine lv_iload_n hx hb dX4_joinThrough_2 rfl (lv_at hl 2 rfl) ?_
      refine lv_iconst (v := 4) hx hb dX4_joinThrough_3 (by decide) ?_
      refine lv_icmp_ge (tgt := 57) hx hb dX4_joinThrough_4 (by decide) (fun c1 => ?_) (fun c1 => ?_)
      · have hs := ifp c1 hs
        cases hs
        cases elim_inr hk2
        exact ret_rwv hx hb hr hlk hP hS dX4_joinThrough_57
      · have hs := ifn c1 hs
        refine lv_iconst (v := 0) hx hb dX4_joinThrough_7 (by decide) ?_
        refine lv_istore_n (lv' := [(3, .int (0 : Int32)), (0, .ref (a 5)), (1, .int p1), (2, .int v2_2)]) hx hb dX4_joinThrough_8 rfl hl (by decide) rfl (fun ls hl => ?_)
        obtain ⟨n9, hs⟩ := loopC_iter hs
        have L9 : ∀ (n : Nat) (v9_3 : Int32) (z9 : XS), iterO (fun v => b_X4_joinThrough_9 p1 v2_2 v.1 v.2) n (v9_3, z9) = some y2 → ∀ (H : Heap) (locs : List Loc), va_P g.1 vwCl (xW g a z9) H → va_S A s.heap H locs → ∀ ls : Array Slot, lv_has ls 4 [(0, .ref (a 5)), (1, .int p1), (2, .int v2_2), (3, .int v9_3)] → W p l e ({ frames := 2, cells := 0, slots := 0, locals := 43 } : Room) s m args below meth c H locs 0 0 (MQ below (RWv g (xW g a res) A) args s 0 0 A) (F0 m 9 ls []) := by
          intro n
          induction n with
          | zero => intro v9_3 z9 hs; exact (iterO_zero hs).elim
          | succ n ih9 =>
            intro v9_3 z9 hs H locs hP hS ls hl
            obtain ⟨y9, hs, hk9⟩ := iterO_succ hs
            have hs : b_X4_joinThrough_9 p1 v2_2 v9_3 z9 = some y9 := hs
            unfold b_X4_joinThrough_9 at hs
            refine lv_iload_n hx hb dX4_joinThrough_9 rfl (lv_at hl 3 rfl) ?_
            refine lv_iconst (v := 4) hx hb dX4_joinThrough_10 (by decide) ?_
            refine lv_icmp_ge (tgt := 51) hx hb dX4_joinThrough_11 (by decide) (fun c2 => ?_) (fun c2 => ?_)
            · have hs := ifp c2 hs
              refine lv_iinc (v := (v2_2 + 1)) (lv' := [(2, .int (v2_2 + 1)), (0, .ref (a 5)), (1, .int p1), (3, .int v9_3)]) hx hb dX4_joinThrough_51 hl (k := 2) rfl (by rfl) (by decide) rfl (fun ls hl => ?_)
              refine lv_goto (tgt := 2) hx hb dX4_joinThrough_54 (by decide) ?_
              cases hs
              cases elim_inr hk9
              exact ih2 (v2_2 + 1) z9 hk2 _ _ hP hS _ (lv_sub hl [1, 2, 0] rfl)
            · have hs := ifn c2 hs
              refine lv_aload_n hx hb dX4_joinThrough_14 rfl (lv_at hl 0 rfl) ?_
              refine lv_iload_n hx hb dX4_joinThrough_15 rfl (lv_at hl 2 rfl) ?_
              refine lv_iload_n hx hb dX4_joinThrough_16 rfl (lv_at hl 1 rfl) ?_
              refine cV_roi (As := [.int v2_2, .int p1]) (rest := []) hC (m_X4_goesUnder l g a z9 v2_2 p1) (kv_of hB bw_14_8 bw_14_6 bw_14_7 bw_1_22 kd_X4_goesUnder bw_14_5 rfl rfl ⟨Nat.le_of_ble_eq_true rfl, Nat.le_of_ble_eq_true rfl⟩) hK hP hP hS (xW_5 g a z9) rfl rfl hl.1 rfl (Nat.le_of_ble_eq_true rfl) dX4_joinThrough_17 ⟨Nat.zero_le _, Nat.zero_le _⟩ (fun H locs hP hS => ?_)
              refine lv_if_eq (tgt := 45) hx hb dX4_joinThrough_20 (by decide) (fun c3 => ?_) (fun c3 => ?_)
              · have hs := ifp c3 hs
                refine lv_iinc (v := (v9_3 + 1)) (lv' := [(3, .int (v9_3 + 1)), (0, .ref (a 5)), (1, .int p1), (2, .int v2_2)]) hx hb dX4_joinThrough_45 hl (k := 3) rfl (by rfl) (by decide) rfl (fun ls hl => ?_)
                refine lv_goto (tgt := 9) hx hb dX4_joinThrough_48 (by decide) ?_
                cases hs
                exact ih9 (v9_3 + 1) z9 hk9 _ _ hP hS _ (lv_sub hl [1, 2, 3, 0] rfl)
              · have hs := ifn c3 hs
                refine lv_aload_n hx hb dX4_joinThrough_23 rfl (lv_at hl 0 rfl) ?_
                refine lv_iload_n hx hb dX4_joinThrough_24 rfl (lv_at hl 1 rfl) ?_
                refine lv_iload_n hx hb dX4_joinThrough_25 rfl (lv_at hl 3 rfl) ?_
                refine cV_roi (As := [.int p1, .int v9_3]) (rest := []) hC (m_X4_goesUnder l g a z9 p1 v9_3) (kv_of hB bw_14_8 bw_14_6 bw_14_7 bw_1_22 kd_X4_goesUnder bw_14_5 rfl rfl ⟨Nat.le_of_ble_eq_true rfl, Nat.le_of_ble_eq_true rfl⟩) hK hP hP hS (xW_5 g a z9) rfl rfl hl.1 rfl (Nat.le_of_ble_eq_true rfl) dX4_joinThrough_26 ⟨Nat.zero_le _, Nat.zero_le _⟩ (fun H locs hP hS => ?_)
                refine lv_if_eq (tgt := 45) hx hb dX4_joinThrough_29 (by decide) (fun c4 => ?_) (fun c4 => ?_)
                · have hs := ifp c4 hs
                  refine lv_iinc (v := (v9_3 + 1)) (lv' := [(3, .int (v9_3 + 1)), (0, .ref (a 5)), (1, .int p1), (2, .int v2_2)]) hx hb dX4_joinThrough_45 hl (k := 3) rfl (by rfl) (by decide) rfl (fun ls hl => ?_)
                  refine lv_goto (tgt := 9) hx hb dX4_joinThrough_48 (by decide) ?_
                  cases hs
                  exact ih9 (v9_3 + 1) z9 hk9 _ _ hP hS _ (lv_sub hl [1, 2, 3, 0] rfl)
                · have hs := ifn c4 hs
                  refine lv_aload_n hx hb dX4_joinThrough_32 rfl (lv_at hl 0 rfl) ?_
                  refine xg_4_0 hx hb hB hown hK hP dX4_joinThrough_33 ?_
                  refine lv_iload_n hx hb dX4_joinThrough_36 rfl (lv_at hl 2 rfl) ?_
                  refine lv_iconst (v := 4) hx hb dX4_joinThrough_37 (by decide) ?_
                  refine lv_imul hx hb dX4_joinThrough_38 ?_
                  refine lv_iload_n hx hb dX4_joinThrough_39 rfl (lv_at hl 3 rfl) ?_
                  refine lv_iadd hx hb dX4_joinThrough_40 ?_
                  refine lv_iconst (v := 1) hx hb dX4_joinThrough_41 (by decide) ?_
                  obtain ⟨r5, e5, hs⟩ := Option.bind_eq_some_iff.mp hs
                  have e5 := Option.some.inj e5
                  refine cN_rwv (As := [.ref (a 6), .int ((v2_2 * (4 : Int32)) + v9_3), .int (1 : Int32)]) (rest := []) hC (m_X6_put_6 l g a z9 r5 H.size ((v2_2 * (4 : Int32)) + v9_3) (1 : Int32) e5) (kn_of (host := "NotionRounds") hB bw_3_3 bw_3_2 bw_1_2 kd_X6_put (hK.2 _ (List.mem_of_getElem? (i := 22) rfl)) rfl rfl ⟨Nat.le_of_ble_eq_true rfl, Nat.le_of_ble_eq_true rfl⟩) hK hP (hD _) hA hS rfl hl.1 rfl (Nat.le_of_ble_eq_true rfl) dX4_joinThrough_42 ⟨Nat.zero_le _, Nat.zero_le _⟩ (fun H locs hP hS => ?_)
                  refine lv_iinc (v := (v9_3 + 1)) (lv' := [(3, .int (v9_3 + 1)), (0, .ref (a 5)), (1, .int p1), (2, .int v2_2)]) hx hb dX4_joinThrough_45 hl (k := 3) rfl (by rfl) (by decide) rfl (fun ls hl => ?_)
                  refine lv_goto (tgt := 9) hx hb dX4_joinThrough_48 (by decide) ?_
                  cases hs
                  exact ih9 (v9_3 + 1) r5 hk9 _ _ hP hS _ (lv_sub hl [1, 2, 3, 0] rfl)
        exact L9 n9 (0 : Int32) z2 hs _ _ hP hS _ (lv_sub hl [1, 2, 3, 0] rfl)
  exact L2 n2 (0 : Int32) st hs _ _ hP hS _ (lv_sub hl [1, 2, 0] rfl)
def t_X4_placeOfChain (p0 : Int32) (p1 : Int32) (p2 : Int32) : Int32 :=
  ((((p0 * (4 : Int32)) + p1) * (4 : Int32)) + p2)
set_option maxHeartbeats 4000000 in
set_option maxRecDepth 100000 in
theorem m_X4_placeOfChain (l : Launch) (g : GG) (w : va_W) (p0 : Int32) (p1 : Int32) (p2 : Int32) : Met l yX4_placeOfChain (Cond.code yX4_placeOfChain cX4_placeOfChain 3 (some .int) :: BIG) ({ frames := 0, cells := 0, slots := 0, locals := 0 } : Room) (va_Pc [.int p0, .int p1, .int p2] (ROp g w)) (ROi (t_X4_placeOfChain p0 p1 p2)) 0 0 (fun _ => False) := by
  obtain ⟨res, hs⟩ : ∃ z, t_X4_placeOfChain p0 p1 p2 = z := ⟨_, rfl⟩
  rw [hs]
  refine ro_start (cc := cX4_placeOfChain) (maxL := 3) (ret := (some .int)) (lv := [(0, .int p0), (1, .int p1), (2, .int p2)]) (by decide) rfl (Nat.le_of_ble_eq_true rfl) rfl ?_
  intro p e s m args below meth c hx hb hml hr hts hown hlk hK H locs hP hS ls hl
  have hB : ∀ w ∈ BIG, w.before args s = true := fun w h => hts w (List.mem_cons_of_mem _ h)
  have hC : CallFix p m c cX4_placeOfChain 3 s args BIG RX4 := ⟨hx, hb, hml, hown, hB⟩
  unfold t_X4_placeOfChain at hs
  refine lv_iload_n hx hb dX4_placeOfChain_0 rfl (lv_at hl 0 rfl) ?_
  refine lv_iconst (v := 4) hx hb dX4_placeOfChain_1 (by decide) ?_
  refine lv_imul hx hb dX4_placeOfChain_2 ?_
  refine lv_iload_n hx hb dX4_placeOfChain_3 rfl (lv_at hl 1 rfl) ?_
  refine lv_iadd hx hb dX4_placeOfChain_4 ?_
  refine lv_iconst (v := 4) hx hb dX4_placeOfChain_5 (by decide) ?_
  refine lv_imul hx hb dX4_placeOfChain_6 ?_
  refine lv_iload_n hx hb dX4_placeOfChain_7 rfl (lv_at hl 2 rfl) ?_
  refine lv_iadd hx hb dX4_placeOfChain_8 ?_
  subst hs
  exact ret_roi hx hb hr hlk hS dX4_placeOfChain_9
def t_X4_axiomOfChain (st : XS) (p1 : Int32) (p2 : Int32) (p3 : Int32) : Int32 :=
  (t_X6_at 64 (st.1 7) (t_X4_placeOfChain p1 p2 p3))
set_option maxHeartbeats 4000000 in
set_option maxRecDepth 100000 in
theorem m_X4_axiomOfChain (l : Launch) (g : GG) (a : Nat → Nat) (st : XS) (p1 : Int32) (p2 : Int32) (p3 : Int32) : Met l yX4_axiomOfChain (Cond.code yX4_axiomOfChain cX4_axiomOfChain 4 (some .int) :: BIG) ({ frames := 1, cells := 0, slots := 0, locals := 22 } : Room) (va_Pc [.ref (a 5), .int p1, .int p2, .int p3] (ROp g (xW g a st))) (ROi (t_X4_axiomOfChain st p1 p2 p3)) 0 0 (fun _ => False) := by
  obtain ⟨res, hs⟩ : ∃ z, t_X4_axiomOfChain st p1 p2 p3 = z := ⟨_, rfl⟩
  rw [hs]
  refine ro_start (cc := cX4_axiomOfChain) (maxL := 4) (ret := (some .int)) (lv := [(0, .ref (a 5)), (1, .int p1), (2, .int p2), (3, .int p3)]) (by decide) rfl (Nat.le_of_ble_eq_true rfl) rfl ?_
  intro p e s m args below meth c hx hb hml hr hts hown hlk hK H locs hP hS ls hl
  have hB : ∀ w ∈ BIG, w.before args s = true := fun w h => hts w (List.mem_cons_of_mem _ h)
  have hC : CallFix p m c cX4_axiomOfChain 4 s args BIG RX4 := ⟨hx, hb, hml, hown, hB⟩
  unfold t_X4_axiomOfChain at hs
  refine lv_aload_n hx hb dX4_axiomOfChain_0 rfl (lv_at hl 0 rfl) ?_
  refine xg_4_1 hx hb hB hown hK hP dX4_axiomOfChain_1 ?_
  refine lv_iload_n hx hb dX4_axiomOfChain_4 rfl (lv_at hl 1 rfl) ?_
  refine lv_iload_n hx hb dX4_axiomOfChain_5 rfl (lv_at hl 2 rfl) ?_
  refine lv_iload_n hx hb dX4_axiomOfChain_6 rfl (lv_at hl 3 rfl) ?_
  refine cS_roi (As := [.int p1, .int p2, .int p3]) (rest := [.ref (a 7)]) hC (m_X4_placeOfChain l g (xW g a st) p1 p2 p3) (ks_of hB bw_14_19 bw_14_18 bw_1_22 kd_X4_placeOfChain bw_14_17 rfl rfl ⟨Nat.le_of_ble_eq_true rfl, Nat.le_of_ble_eq_true rfl⟩) hK hP hP hS rfl hl.1 rfl (Nat.le_of_ble_eq_true rfl) dX4_axiomOfChain_7 ⟨Nat.zero_le _, Nat.zero_le _⟩ (fun H locs hP hS => ?_)
  refine cN_roi (As := [.ref (a 7), .int (t_X4_placeOfChain p1 p2 p3)]) (rest := []) hC (m_X6_at l g (xW g a st) 7 64 (st.1 7) (a 7) (xW_7 g a st) (by decide) (t_X4_placeOfChain p1 p2 p3)) (kn_of (host := "NotionRounds") hB bw_8_0 bw_7_23 bw_1_2 kd_X6_at (hK.2 _ (List.mem_of_getElem? (i := 23) rfl)) rfl rfl ⟨Nat.le_of_ble_eq_true rfl, Nat.le_of_ble_eq_true rfl⟩) hK hP hP hS rfl hl.1 rfl (Nat.le_of_ble_eq_true rfl) dX4_axiomOfChain_10 ⟨Nat.zero_le _, Nat.zero_le _⟩ (fun H locs hP hS => ?_)
  subst hs
  exact ret_roi hx hb hr hlk hS dX4_axiomOfChain_13
noncomputable def b_X4_learnChain_12 (c12_1 : Int32) (c12_2 : Int32) (c12_3 : Int32) (c12_4 : Int32) (c12_5 : Int32) (v12_6 : Int32) (z12 : XS) : Option ((Int32 × XS) ⊕ ((Int32 × XS) ⊕ XS)) :=
  (if (4 : Int32) ≤ v12_6 then some (Sum.inr (Sum.inl ((c12_5 + 1), z12))) else (if (t_X4_goesUnder z12 c12_5 c12_2) = 0 then some (Sum.inl ((v12_6 + 1), z12)) else (if (t_X4_goesUnder z12 v12_6 c12_3) = 0 then some (Sum.inl ((v12_6 + 1), z12)) else (if (t_X4_axiomOfChain z12 c12_5 v12_6 c12_4) = (-1 : Int32) then (Option.bind (some (sA z12 7 (t_X6_put 64 (z12.1 7) (t_X4_placeOfChain c12_5 v12_6 c12_4) c12_1))) (fun r6 => some (Sum.inl ((v12_6 + 1), r6)))) else some (Sum.inl ((v12_6 + 1), z12))))))
noncomputable def b_X4_learnChain_3 (c3_1 : Int32) (c3_2 : Int32) (c3_3 : Int32) (c3_4 : Int32) (v3_5 : Int32) (z3 : XS) : Option ((Int32 × XS) ⊕ XS) :=
  (if (4 : Int32) ≤ v3_5 then some (Sum.inr (z3)) else (loopC (fun v => b_X4_learnChain_12 c3_1 c3_2 c3_3 c3_4 v3_5 v.1 v.2) ((0 : Int32), z3)))
noncomputable def f_X4_learnChain (st : XS) (p1 : Int32) (p2 : Int32) (p3 : Int32) (p4 : Int32) : Option XS :=
  (loopC (fun v => b_X4_learnChain_3 p1 p2 p3 p4 v.1 v.2) ((0 : Int32), st))
set_option maxHeartbeats 4000000 in
set_option maxRecDepth 100000 in
theorem m_X4_learnChain (l : Launch) (g : GG) (a : Nat → Nat) (st : XS) (sz : Nat) (p1 : Int32) (p2 : Int32) (p3 : Int32) (p4 : Int32) (res : XS) (hs : f_X4_learnChain st p1 p2 p3 p4 = some res) : Met l yX4_learnChain (Cond.code yX4_learnChain cX4_learnChain 7 none :: BIG) ({ frames := 2, cells := 0, slots := 0, locals := 45 } : Room) (va_Pc [.ref (a 5), .int p1, .int p2, .int p3, .int p4] (RWp g (xW g a st) sz)) (RWv g (xW g a res) (va_A (xW g a st) sz)) 0 0 (va_A (xW g a st) sz) := by
  refine rw_start (cc := cX4_learnChain) (maxL := 7) (ret := none) (lv := [(0, .ref (a 5)), (1, .int p1), (2, .int p2), (3, .int p3), (4, .int p4)]) (Qc := fun A => (RWv g (xW g a res) A)) (by decide) rfl (Nat.le_of_ble_eq_true rfl) rfl ?_
  intro p e s m args below meth c hx hb hml hr hts hown hlk hK A hD0 hA H locs hP hS ls hl
  have hD : ∀ st' : XS, va_D A (xW g a st') := fun _ => xW_D hD0
  have hB : ∀ w ∈ BIG, w.before args s = true := fun w h => hts w (List.mem_cons_of_mem _ h)
  have hC : CallFix p m c cX4_learnChain 7 s args BIG RX4 := ⟨hx, hb, hml, hown, hB⟩
  unfold f_X4_learnChain at hs
  refine lv_iconst (v := 0) hx hb dX4_learnChain_0 (by decide) ?_
  refine lv_istore (lv' := [(5, .int (0 : Int32)), (0, .ref (a 5)), (1, .int p1), (2, .int p2), (3, .int p3), (4, .int p4)]) hx hb dX4_learnChain_1 hl (by decide) rfl (fun ls hl => ?_)
  obtain ⟨n3, hs⟩ := loopC_iter hs
  have L3 : ∀ (n : Nat) (v3_5 : Int32) (z3 : XS), iterO (fun v => b_X4_learnChain_3 p1 p2 p3 p4 v.1 v.2) n (v3_5, z3) = some res → ∀ (H : Heap) (locs : List Loc), va_P g.1 vwCl (xW g a z3) H → va_S A s.heap H locs → ∀ ls : Array Slot, lv_has ls 7 [(0, .ref (a 5)), (1, .int p1), (2, .int p2), (3, .int p3), (4, .int p4), (5, .int v3_5)] → W p l e ({ frames := 2, cells := 0, slots := 0, locals := 45 } : Room) s m args below meth c H locs 0 0 (MQ below (RWv g (xW g a res) A) args s 0 0 A) (F0 m 3 ls []) := by
    intro n
    induction n with
    | zero => intro v3_5 z3 hs; exact (iterO_zero hs).elim
    | succ n ih3 =>
      intro v3_5 z3 hs H locs hP hS ls hl
      obtain ⟨y3, hs, hk3⟩ := iterO_succ hs
      have hs : b_X4_learnChain_3 p1 p2 p3 p4 v3_5 z3 = some y3 := hs
      unfold b_X4_learnChain_3 at hs
      refine lv_iload hx hb dX4_learnChain_3 (lv_at hl 5 rfl) ?_
      refine lv_iconst (v := 4) hx hb dX4_learnChain_5 (by decide) ?_
      refine lv_icmp_ge (tgt := 81) hx hb dX4_learnChain_6 (by decide) (fun c1 => ?_) (fun c1 => ?_)
      · have hs := ifp c1 hs
        cases hs
        cases elim_inr hk3
        exact ret_rwv hx hb hr hlk hP hS dX4_learnChain_81
      · have hs := ifn c1 hs
        refine lv_iconst (v := 0) hx hb dX4_learnChain_9 (by decide) ?_
        refine lv_istore (lv' := [(6, .int (0 : Int32)), (0, .ref (a 5)), (1, .int p1), (2, .int p2), (3, .int p3), (4, .int p4), (5, .int v3_5)]) hx hb dX4_learnChain_10 hl (by decide) rfl (fun ls hl => ?_)
        obtain ⟨n12, hs⟩ := loopC_iter hs
        have L12 : ∀ (n : Nat) (v12_6 : Int32) (z12 : XS), iterO (fun v => b_X4_learnChain_12 p1 p2 p3 p4 v3_5 v.1 v.2) n (v12_6, z12) = some y3 → ∀ (H : Heap) (locs : List Loc), va_P g.1 vwCl (xW g a z12) H → va_S A s.heap H locs → ∀ ls : Array Slot, lv_has ls 7 [(0, .ref (a 5)), (1, .int p1), (2, .int p2), (3, .int p3), (4, .int p4), (5, .int v3_5), (6, .int v12_6)] → W p l e ({ frames := 2, cells := 0, slots := 0, locals := 45 } : Room) s m args below meth c H locs 0 0 (MQ below (RWv g (xW g a res) A) args s 0 0 A) (F0 m 12 ls []) := by
          intro n
          induction n with
          | zero => intro v12_6 z12 hs; exact (iterO_zero hs).elim
          | succ n ih12 =>
            intro v12_6 z12 hs H locs hP hS ls hl
            obtain ⟨y12, hs, hk12⟩ := iterO_succ hs
            have hs : b_X4_learnChain_12 p1 p2 p3 p4 v3_5 v12_6 z12 = some y12 := hs
            unfold b_X4_learnChain_12 at hs
            refine lv_iload hx hb dX4_learnChain_12 (lv_at hl 6 rfl) ?_
            refine lv_iconst (v := 4) hx hb dX4_learnChain_14 (by decide) ?_
            refine lv_icmp_ge (tgt := 75) hx hb dX4_learnChain_15 (by decide) (fun c2 => ?_) (fun c2 => ?_)
            · have hs := ifp c2 hs
              refine lv_iinc (v := (v3_5 + 1)) (lv' := [(5, .int (v3_5 + 1)), (0, .ref (a 5)), (1, .int p1), (2, .int p2), (3, .int p3), (4, .int p4), (6, .int v12_6)]) hx hb dX4_learnChain_75 hl (k := 5) rfl (by rfl) (by decide) rfl (fun ls hl => ?_)
              refine lv_goto (tgt := 3) hx hb dX4_learnChain_78 (by decide) ?_
              cases hs
              cases elim_inr hk12
              exact ih3 (v3_5 + 1) z12 hk3 _ _ hP hS _ (lv_sub hl [1, 2, 3, 4, 5, 0] rfl)
            · have hs := ifn c2 hs
              refine lv_aload_n hx hb dX4_learnChain_18 rfl (lv_at hl 0 rfl) ?_
              refine lv_iload hx hb dX4_learnChain_19 (lv_at hl 5 rfl) ?_
              refine lv_iload_n hx hb dX4_learnChain_21 rfl (lv_at hl 2 rfl) ?_
              refine cV_roi (As := [.int v3_5, .int p2]) (rest := []) hC (m_X4_goesUnder l g a z12 v3_5 p2) (kv_of hB bw_14_8 bw_14_6 bw_14_7 bw_1_22 kd_X4_goesUnder bw_14_5 rfl rfl ⟨Nat.le_of_ble_eq_true rfl, Nat.le_of_ble_eq_true rfl⟩) hK hP hP hS (xW_5 g a z12) rfl rfl hl.1 rfl (Nat.le_of_ble_eq_true rfl) dX4_learnChain_22 ⟨Nat.zero_le _, Nat.zero_le _⟩ (fun H locs hP hS => ?_)
              refine lv_if_eq (tgt := 69) hx hb dX4_learnChain_25 (by decide) (fun c3 => ?_) (fun c3 => ?_)
              · have hs := ifp c3 hs
                refine lv_iinc (v := (v12_6 + 1)) (lv' := [(6, .int (v12_6 + 1)), (0, .ref (a 5)), (1, .int p1), (2, .int p2), (3, .int p3), (4, .int p4), (5, .int v3_5)]) hx hb dX4_learnChain_69 hl (k := 6) rfl (by rfl) (by decide) rfl (fun ls hl => ?_)
                refine lv_goto (tgt := 12) hx hb dX4_learnChain_72 (by decide) ?_
                cases hs
                exact ih12 (v12_6 + 1) z12 hk12 _ _ hP hS _ (lv_sub hl [1, 2, 3, 4, 5, 6, 0] rfl)
              · have hs := ifn c3 hs
                refine lv_aload_n hx hb dX4_learnChain_28 rfl (lv_at hl 0 rfl) ?_
                refine lv_iload hx hb dX4_learnChain_29 (lv_at hl 6 rfl) ?_
                refine lv_iload_n hx hb dX4_learnChain_31 rfl (lv_at hl 3 rfl) ?_
                refine cV_roi (As := [.int v12_6, .int p3]) (rest := []) hC (m_X4_goesUnder l g a z12 v12_6 p3) (kv_of hB bw_14_8 bw_14_6 bw_14_7 bw_1_22 kd_X4_goesUnder bw_14_5 rfl rfl ⟨Nat.le_of_ble_eq_true rfl, Nat.le_of_ble_eq_true rfl⟩) hK hP hP hS (xW_5 g a z12) rfl rfl hl.1 rfl (Nat.le_of_ble_eq_true rfl) dX4_learnChain_32 ⟨Nat.zero_le _, Nat.zero_le _⟩ (fun H locs hP hS => ?_)
                refine lv_if_eq (tgt := 69) hx hb dX4_learnChain_35 (by decide) (fun c4 => ?_) (fun c4 => ?_)
                · have hs := ifp c4 hs
                  refine lv_iinc (v := (v12_6 + 1)) (lv' := [(6, .int (v12_6 + 1)), (0, .ref (a 5)), (1, .int p1), (2, .int p2), (3, .int p3), (4, .int p4), (5, .int v3_5)]) hx hb dX4_learnChain_69 hl (k := 6) rfl (by rfl) (by decide) rfl (fun ls hl => ?_)
                  refine lv_goto (tgt := 12) hx hb dX4_learnChain_72 (by decide) ?_
                  cases hs
                  exact ih12 (v12_6 + 1) z12 hk12 _ _ hP hS _ (lv_sub hl [1, 2, 3, 4, 5, 6, 0] rfl)
                · have hs := ifn c4 hs
                  refine lv_aload_n hx hb dX4_learnChain_38 rfl (lv_at hl 0 rfl) ?_
                  refine lv_iload hx hb dX4_learnChain_39 (lv_at hl 5 rfl) ?_
                  refine lv_iload hx hb dX4_learnChain_41 (lv_at hl 6 rfl) ?_
                  refine lv_iload hx hb dX4_learnChain_43 (lv_at hl 4 rfl) ?_
                  refine cV_roi (As := [.int v3_5, .int v12_6, .int p4]) (rest := []) hC (m_X4_axiomOfChain l g a z12 v3_5 v12_6 p4) (kv_of hB bw_14_16 bw_14_14 bw_14_15 bw_1_22 kd_X4_axiomOfChain bw_14_13 rfl rfl ⟨Nat.le_of_ble_eq_true rfl, Nat.le_of_ble_eq_true rfl⟩) hK hP hP hS (xW_5 g a z12) rfl rfl hl.1 rfl (Nat.le_of_ble_eq_true rfl) dX4_learnChain_45 ⟨Nat.zero_le _, Nat.zero_le _⟩ (fun H locs hP hS => ?_)
                  refine lv_iconst (v := -1) hx hb dX4_learnChain_48 (by decide) ?_
                  refine lv_icmp_ne (tgt := 69) hx hb dX4_learnChain_49 (by decide) (fun c5 => ?_) (fun c5 => ?_)
                  · have hs := ifn c5 hs
                    refine lv_iinc (v := (v12_6 + 1)) (lv' := [(6, .int (v12_6 + 1)), (0, .ref (a 5)), (1, .int p1), (2, .int p2), (3, .int p3), (4, .int p4), (5, .int v3_5)]) hx hb dX4_learnChain_69 hl (k := 6) rfl (by rfl) (by decide) rfl (fun ls hl => ?_)
                    refine lv_goto (tgt := 12) hx hb dX4_learnChain_72 (by decide) ?_
                    cases hs
                    exact ih12 (v12_6 + 1) z12 hk12 _ _ hP hS _ (lv_sub hl [1, 2, 3, 4, 5, 6, 0] rfl)
                  · have hs := ifp c5 hs
                    refine lv_aload_n hx hb dX4_learnChain_52 rfl (lv_at hl 0 rfl) ?_
                    refine xg_4_1 hx hb hB hown hK hP dX4_learnChain_53 ?_
                    refine lv_iload hx hb dX4_learnChain_56 (lv_at hl 5 rfl) ?_
                    refine lv_iload hx hb dX4_learnChain_58 (lv_at hl 6 rfl) ?_
                    refine lv_iload hx hb dX4_learnChain_60 (lv_at hl 4 rfl) ?_
                    refine cS_roi (As := [.int v3_5, .int v12_6, .int p4]) (rest := [.ref (a 7)]) hC (m_X4_placeOfChain l g (xW g a z12) v3_5 v12_6 p4) (ks_of hB bw_14_19 bw_14_18 bw_1_22 kd_X4_placeOfChain bw_14_17 rfl rfl ⟨Nat.le_of_ble_eq_true rfl, Nat.le_of_ble_eq_true rfl⟩) hK hP hP hS rfl hl.1 rfl (Nat.le_of_ble_eq_true rfl) dX4_learnChain_62 ⟨Nat.zero_le _, Nat.zero_le _⟩ (fun H locs hP hS => ?_)
                    refine lv_iload_n hx hb dX4_learnChain_65 rfl (lv_at hl 1 rfl) ?_
                    obtain ⟨r6, e6, hs⟩ := Option.bind_eq_some_iff.mp hs
                    have e6 := Option.some.inj e6
                    refine cN_rwv (As := [.ref (a 7), .int (t_X4_placeOfChain v3_5 v12_6 p4), .int p1]) (rest := []) hC (m_X6_put_7 l g a z12 r6 H.size (t_X4_placeOfChain v3_5 v12_6 p4) p1 e6) (kn_of (host := "NotionRounds") hB bw_3_3 bw_3_2 bw_1_2 kd_X6_put (hK.2 _ (List.mem_of_getElem? (i := 22) rfl)) rfl rfl ⟨Nat.le_of_ble_eq_true rfl, Nat.le_of_ble_eq_true rfl⟩) hK hP (hD _) hA hS rfl hl.1 rfl (Nat.le_of_ble_eq_true rfl) dX4_learnChain_66 ⟨Nat.zero_le _, Nat.zero_le _⟩ (fun H locs hP hS => ?_)
                    refine lv_iinc (v := (v12_6 + 1)) (lv' := [(6, .int (v12_6 + 1)), (0, .ref (a 5)), (1, .int p1), (2, .int p2), (3, .int p3), (4, .int p4), (5, .int v3_5)]) hx hb dX4_learnChain_69 hl (k := 6) rfl (by rfl) (by decide) rfl (fun ls hl => ?_)
                    refine lv_goto (tgt := 12) hx hb dX4_learnChain_72 (by decide) ?_
                    cases hs
                    exact ih12 (v12_6 + 1) r6 hk12 _ _ hP hS _ (lv_sub hl [1, 2, 3, 4, 5, 6, 0] rfl)
        exact L12 n12 (0 : Int32) z3 hs _ _ hP hS _ (lv_sub hl [1, 2, 3, 4, 5, 6, 0] rfl)
  exact L3 n3 (0 : Int32) st hs _ _ hP hS _ (lv_sub hl [1, 2, 3, 4, 5, 0] rfl)
