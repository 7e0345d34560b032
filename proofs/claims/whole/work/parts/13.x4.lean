noncomputable def f_X5_offerByParts (st : XS) (p1 : Int32) (p2 : Int32) (p3 : Int32) : Option XS :=
  (if (t_X3_sort st p3) = (3 : Int32) then (Option.bind (f_X5_offer st (t_X6_placeOfIs p2 (t_X3_first st p3)) (t_X6_whyOf (2 : Int32) p1 (-1 : Int32) (-1 : Int32))) (fun r4 => (Option.bind (f_X5_offer r4 (t_X6_placeOfIs p2 (t_X3_second st p3)) (t_X6_whyOf (2 : Int32) p1 (-1 : Int32) (-1 : Int32))) (fun r5 => (if (t_X3_sort r5 p3) = (4 : Int32) then (Option.bind (f_X5_offer r5 (t_X6_placeOfTo p2 (t_X3_first st p3) (t_X3_second st p3)) (t_X6_whyOf (5 : Int32) p1 (-1 : Int32) (-1 : Int32))) (fun r7 => some (r7))) else some (r5)))))) else (if (t_X3_sort st p3) = (4 : Int32) then (Option.bind (f_X5_offer st (t_X6_placeOfTo p2 (t_X3_first st p3) (t_X3_second st p3)) (t_X6_whyOf (5 : Int32) p1 (-1 : Int32) (-1 : Int32))) (fun r3 => some (r3))) else some (st)))
set_option maxHeartbeats 4000000 in
set_option maxRecDepth 100000 in
theorem m_X5_offerByParts (l : Launch) (g : GG) (a : Nat → Nat) (st : XS) (sz : Nat) (p1 : Int32) (p2 : Int32) (p3 : Int32) (res : XS) (hs : f_X5_offerByParts st p1 p2 p3 = some res) : Met l yX5_offerByParts (Cond.code yX5_offerByParts cX5_offerByParts 6 none :: BIG) ({ frames := 3, cells := 0, slots := 0, locals := 65 } : Room) (va_Pc [.ref (a 14), .int p1, .int p2, .int p3] (RWp g (xW g a st) sz)) (RWv g (xW g a res) (va_A (xW g a st) sz)) 0 0 (va_A (xW g a st) sz) := by
  refine rw_start (cc := cX5_offerByParts) (maxL := 6) (ret := none) (lv := [(0, .ref (a 14)), (1, .int p1), (2, .int p2), (3, .int p3)]) (Qc := fun A => (RWv g (xW g a res) A)) (by decide) rfl (Nat.le_of_ble_eq_true rfl) rfl ?_
  intro p e s m args below meth c hx hb hml hr hts hown hlk hK A hD0 hA H locs hP hS ls hl
  have hD : ∀ st' : XS, va_D A (xW g a st') := fun _ => xW_D hD0
  have hB : ∀ w ∈ BIG, w.before args s = true := fun w h => hts w (List.mem_cons_of_mem _ h)
  have hC : CallFix p m c cX5_offerByParts 6 s args BIG RX5 := ⟨hx, hb, hml, hown, hB⟩
  unfold f_X5_offerByParts at hs
  refine lv_aload_n hx hb dX5_offerByParts_0 rfl (lv_at hl 0 rfl) ?_
  refine xg_5_0 hx hb hB hown hK hP dX5_offerByParts_1 ?_
  refine lv_iload_n hx hb dX5_offerByParts_4 rfl (lv_at hl 3 rfl) ?_
  refine cV_roi (As := [.int p3]) (rest := []) hC (m_X3_first l g a st p3) (kv_of hB bw_8_4 bw_8_2 bw_8_3 bw_1_14 kd_X3_first bw_17_0 rfl rfl ⟨Nat.le_of_ble_eq_true rfl, Nat.le_of_ble_eq_true rfl⟩) hK hP hP hS (xW_1 g a st) rfl rfl hl.1 rfl (Nat.le_of_ble_eq_true rfl) dX5_offerByParts_5 ⟨Nat.zero_le _, Nat.zero_le _⟩ (fun H locs hP hS => ?_)
  refine lv_istore (lv' := [(4, .int (t_X3_first st p3)), (0, .ref (a 14)), (1, .int p1), (2, .int p2), (3, .int p3)]) hx hb dX5_offerByParts_8 hl (by decide) rfl (fun ls hl => ?_)
  refine lv_aload_n hx hb dX5_offerByParts_10 rfl (lv_at hl 1 rfl) ?_
  refine xg_5_0 hx hb hB hown hK hP dX5_offerByParts_11 ?_
  refine lv_iload_n hx hb dX5_offerByParts_14 rfl (lv_at hl 4 rfl) ?_
  refine cV_roi (As := [.int p3]) (rest := []) hC (m_X3_second l g a st p3) (kv_of hB bw_8_8 bw_8_6 bw_8_7 bw_1_14 kd_X3_second bw_17_1 rfl rfl ⟨Nat.le_of_ble_eq_true rfl, Nat.le_of_ble_eq_true rfl⟩) hK hP hP hS (xW_1 g a st) rfl rfl hl.1 rfl (Nat.le_of_ble_eq_true rfl) dX5_offerByParts_15 ⟨Nat.zero_le _, Nat.zero_le _⟩ (fun H locs hP hS => ?_)
  refine lv_istore (lv' := [(5, .int (t_X3_second st p3)), (4, .int (t_X3_first st p3)), (0, .ref (a 14)), (1, .int p1), (2, .int p2), (3, .int p3)]) hx hb dX5_offerByParts_18 hl (by decide) rfl (fun ls hl => ?_)
  refine lv_aload_n hx hb dX5_offerByParts_20 rfl (lv_at hl 2 rfl) ?_
  refine xg_5_0 hx hb hB hown hK hP dX5_offerByParts_21 ?_
  refine lv_iload_n hx hb dX5_offerByParts_24 rfl (lv_at hl 5 rfl) ?_
  refine cV_roi (As := [.int p3]) (rest := []) hC (m_X3_sort l g a st p3) (kv_of hB bw_7_18 bw_7_16 bw_7_17 bw_1_14 kd_X3_sort bw_17_2 rfl rfl ⟨Nat.le_of_ble_eq_true rfl, Nat.le_of_ble_eq_true rfl⟩) hK hP hP hS (xW_1 g a st) rfl rfl hl.1 rfl (Nat.le_of_ble_eq_true rfl) dX5_offerByParts_25 ⟨Nat.zero_le _, Nat.zero_le _⟩ (fun H locs hP hS => ?_)
  refine lv_iconst (v := 3) hx hb dX5_offerByParts_28 (by decide) ?_
  refine lv_icmp_ne (tgt := 66) hx hb dX5_offerByParts_29 (by decide) (fun c1 => ?_) (fun c1 => ?_)
  · have hs := ifn c1 hs
    refine lv_aload_n hx hb dX5_offerByParts_66 rfl (lv_at hl 2 rfl) ?_
    refine xg_5_0 hx hb hB hown hK hP dX5_offerByParts_67 ?_
    refine lv_iload_n hx hb dX5_offerByParts_70 rfl (lv_at hl 5 rfl) ?_
    refine cV_roi (As := [.int p3]) (rest := []) hC (m_X3_sort l g a st p3) (kv_of hB bw_7_18 bw_7_16 bw_7_17 bw_1_14 kd_X3_sort bw_17_2 rfl rfl ⟨Nat.le_of_ble_eq_true rfl, Nat.le_of_ble_eq_true rfl⟩) hK hP hP hS (xW_1 g a st) rfl rfl hl.1 rfl (Nat.le_of_ble_eq_true rfl) dX5_offerByParts_71 ⟨Nat.zero_le _, Nat.zero_le _⟩ (fun H locs hP hS => ?_)
    refine lv_iconst (v := 4) hx hb dX5_offerByParts_74 (by decide) ?_
    refine lv_icmp_ne (tgt := 97) hx hb dX5_offerByParts_75 (by decide) (fun c2 => ?_) (fun c2 => ?_)
    · have hs := ifn c2 hs
      cases hs
      exact ret_rwv hx hb hr hlk hP hS dX5_offerByParts_97
    · have hs := ifp c2 hs
      refine lv_aload_n hx hb dX5_offerByParts_78 rfl (lv_at hl 2 rfl) ?_
      refine lv_iload_n hx hb dX5_offerByParts_79 rfl (lv_at hl 4 rfl) ?_
      refine lv_iload hx hb dX5_offerByParts_80 (lv_at hl 1 rfl) ?_
      refine lv_iload hx hb dX5_offerByParts_82 (lv_at hl 0 rfl) ?_
      refine cN_roi (As := [.int p2, .int (t_X3_first st p3), .int (t_X3_second st p3)]) (rest := [.ref (a 14)]) hC (m_X6_placeOfTo l g (xW g a st) p2 (t_X3_first st p3) (t_X3_second st p3)) (kn_of (host := "NotionRounds") hB bw_17_4 bw_17_3 bw_1_2 kd_X6_placeOfTo (hK.2 _ (List.mem_of_getElem? (i := 32) rfl)) rfl rfl ⟨Nat.le_of_ble_eq_true rfl, Nat.le_of_ble_eq_true rfl⟩) hK hP hP hS rfl hl.1 rfl (Nat.le_of_ble_eq_true rfl) dX5_offerByParts_84 ⟨Nat.zero_le _, Nat.zero_le _⟩ (fun H locs hP hS => ?_)
      refine lv_iconst (v := 5) hx hb dX5_offerByParts_87 (by decide) ?_
      refine lv_iload_n hx hb dX5_offerByParts_88 rfl (lv_at hl 3 rfl) ?_
      refine lv_iconst (v := -1) hx hb dX5_offerByParts_89 (by decide) ?_
      refine lv_iconst (v := -1) hx hb dX5_offerByParts_90 (by decide) ?_
      refine cN_rol (As := [.int (5 : Int32), .int p1, .int (-1 : Int32), .int (-1 : Int32)]) (rest := [.int (t_X6_placeOfTo p2 (t_X3_first st p3) (t_X3_second st p3)), .ref (a 14)]) hC (m_X6_whyOf l g (xW g a st) (5 : Int32) p1 (-1 : Int32) (-1 : Int32)) (kn_of (host := "NotionRounds") hB bw_15_16 bw_15_15 bw_1_2 kd_X6_whyOf (hK.2 _ (List.mem_of_getElem? (i := 25) rfl)) rfl rfl ⟨Nat.le_of_ble_eq_true rfl, Nat.le_of_ble_eq_true rfl⟩) hK hP hP hS rfl hl.1 rfl (Nat.le_of_ble_eq_true rfl) dX5_offerByParts_91 ⟨Nat.zero_le _, Nat.zero_le _⟩ (fun H locs hP hS => ?_)
      obtain ⟨r3, e3, hs⟩ := Option.bind_eq_some_iff.mp hs
      refine cV_rwv (As := [.int (t_X6_placeOfTo p2 (t_X3_first st p3) (t_X3_second st p3)), .long (t_X6_whyOf (5 : Int32) p1 (-1 : Int32) (-1 : Int32))]) (rest := []) hC (m_X5_offer l g a st H.size (t_X6_placeOfTo p2 (t_X3_first st p3) (t_X3_second st p3)) (t_X6_whyOf (5 : Int32) p1 (-1 : Int32) (-1 : Int32)) r3 e3) (kv_of hB bw_15_20 bw_15_18 bw_15_19 bw_2_6 kd_X5_offer bw_15_17 rfl rfl ⟨Nat.le_of_ble_eq_true rfl, Nat.le_of_ble_eq_true rfl⟩) hK hP (hD _) hA hS (xW_14 g a st) rfl rfl hl.1 rfl (Nat.le_of_ble_eq_true rfl) dX5_offerByParts_94 ⟨Nat.zero_le _, Nat.zero_le _⟩ (fun H locs hP hS => ?_)
      cases hs
      exact ret_rwv hx hb hr hlk hP hS dX5_offerByParts_97
  · have hs := ifp c1 hs
    refine lv_aload_n hx hb dX5_offerByParts_32 rfl (lv_at hl 2 rfl) ?_
    refine lv_iload_n hx hb dX5_offerByParts_33 rfl (lv_at hl 4 rfl) ?_
    refine lv_iload hx hb dX5_offerByParts_34 (lv_at hl 1 rfl) ?_
    refine cN_roi (As := [.int p2, .int (t_X3_first st p3)]) (rest := [.ref (a 14)]) hC (m_X6_placeOfIs l g (xW g a st) p2 (t_X3_first st p3)) (kn_of (host := "NotionRounds") hB bw_15_14 bw_15_13 bw_1_2 kd_X6_placeOfIs (hK.2 _ (List.mem_of_getElem? (i := 24) rfl)) rfl rfl ⟨Nat.le_of_ble_eq_true rfl, Nat.le_of_ble_eq_true rfl⟩) hK hP hP hS rfl hl.1 rfl (Nat.le_of_ble_eq_true rfl) dX5_offerByParts_36 ⟨Nat.zero_le _, Nat.zero_le _⟩ (fun H locs hP hS => ?_)
    refine lv_iconst (v := 2) hx hb dX5_offerByParts_39 (by decide) ?_
    refine lv_iload_n hx hb dX5_offerByParts_40 rfl (lv_at hl 3 rfl) ?_
    refine lv_iconst (v := -1) hx hb dX5_offerByParts_41 (by decide) ?_
    refine lv_iconst (v := -1) hx hb dX5_offerByParts_42 (by decide) ?_
    refine cN_rol (As := [.int (2 : Int32), .int p1, .int (-1 : Int32), .int (-1 : Int32)]) (rest := [.int (t_X6_placeOfIs p2 (t_X3_first st p3)), .ref (a 14)]) hC (m_X6_whyOf l g (xW g a st) (2 : Int32) p1 (-1 : Int32) (-1 : Int32)) (kn_of (host := "NotionRounds") hB bw_15_16 bw_15_15 bw_1_2 kd_X6_whyOf (hK.2 _ (List.mem_of_getElem? (i := 25) rfl)) rfl rfl ⟨Nat.le_of_ble_eq_true rfl, Nat.le_of_ble_eq_true rfl⟩) hK hP hP hS rfl hl.1 rfl (Nat.le_of_ble_eq_true rfl) dX5_offerByParts_43 ⟨Nat.zero_le _, Nat.zero_le _⟩ (fun H locs hP hS => ?_)
    obtain ⟨r4, e4, hs⟩ := Option.bind_eq_some_iff.mp hs
    refine cV_rwv (As := [.int (t_X6_placeOfIs p2 (t_X3_first st p3)), .long (t_X6_whyOf (2 : Int32) p1 (-1 : Int32) (-1 : Int32))]) (rest := []) hC (m_X5_offer l g a st H.size (t_X6_placeOfIs p2 (t_X3_first st p3)) (t_X6_whyOf (2 : Int32) p1 (-1 : Int32) (-1 : Int32)) r4 e4) (kv_of hB bw_15_20 bw_15_18 bw_15_19 bw_2_6 kd_X5_offer bw_15_17 rfl rfl ⟨Nat.le_of_ble_eq_true rfl, Nat.le_of_ble_eq_true rfl⟩) hK hP (hD _) hA hS (xW_14 g a st) rfl rfl hl.1 rfl (Nat.le_of_ble_eq_true rfl) dX5_offerByParts_46 ⟨Nat.zero_le _, Nat.zero_le _⟩ (fun H locs hP hS => ?_)
    refine lv_aload_n hx hb dX5_offerByParts_49 rfl (lv_at hl 2 rfl) ?_
    refine lv_iload_n hx hb dX5_offerByParts_50 rfl (lv_at hl 4 rfl) ?_
    refine lv_iload hx hb dX5_offerByParts_51 (lv_at hl 0 rfl) ?_
    refine cN_roi (As := [.int p2, .int (t_X3_second st p3)]) (rest := [.ref (a 14)]) hC (m_X6_placeOfIs l g (xW g a r4) p2 (t_X3_second st p3)) (kn_of (host := "NotionRounds") hB bw_15_14 bw_15_13 bw_1_2 kd_X6_placeOfIs (hK.2 _ (List.mem_of_getElem? (i := 24) rfl)) rfl rfl ⟨Nat.le_of_ble_eq_true rfl, Nat.le_of_ble_eq_true rfl⟩) hK hP hP hS rfl hl.1 rfl (Nat.le_of_ble_eq_true rfl) dX5_offerByParts_53 ⟨Nat.zero_le _, Nat.zero_le _⟩ (fun H locs hP hS => ?_)
    refine lv_iconst (v := 2) hx hb dX5_offerByParts_56 (by decide) ?_
    refine lv_iload_n hx hb dX5_offerByParts_57 rfl (lv_at hl 3 rfl) ?_
    refine lv_iconst (v := -1) hx hb dX5_offerByParts_58 (by decide) ?_
    refine lv_iconst (v := -1) hx hb dX5_offerByParts_59 (by decide) ?_
    refine cN_rol (As := [.int (2 : Int32), .int p1, .int (-1 : Int32), .int (-1 : Int32)]) (rest := [.int (t_X6_placeOfIs p2 (t_X3_second st p3)), .ref (a 14)]) hC (m_X6_whyOf l g (xW g a r4) (2 : Int32) p1 (-1 : Int32) (-1 : Int32)) (kn_of (host := "NotionRounds") hB bw_15_16 bw_15_15 bw_1_2 kd_X6_whyOf (hK.2 _ (List.mem_of_getElem? (i := 25) rfl)) rfl rfl ⟨Nat.le_of_ble_eq_true rfl, Nat.le_of_ble_eq_true rfl⟩) hK hP hP hS rfl hl.1 rfl (Nat.le_of_ble_eq_true rfl) dX5_offerByParts_60 ⟨Nat.zero_le _, Nat.zero_le _⟩ (fun H locs hP hS => ?_)
    obtain ⟨r5, e5, hs⟩ := Option.bind_eq_some_iff.mp hs
    refine cV_rwv (As := [.int (t_X6_placeOfIs p2 (t_X3_second st p3)), .long (t_X6_whyOf (2 : Int32) p1 (-1 : Int32) (-1 : Int32))]) (rest := []) hC (m_X5_offer l g a r4 H.size (t_X6_placeOfIs p2 (t_X3_second st p3)) (t_X6_whyOf (2 : Int32) p1 (-1 : Int32) (-1 : Int32)) r5 e5) (kv_of hB bw_15_20 bw_15_18 bw_15_19 bw_2_6 kd_X5_offer bw_15_17 rfl rfl ⟨Nat.le_of_ble_eq_true rfl, Nat.le_of_ble_eq_true rfl⟩) hK hP (hD _) hA hS (xW_14 g a r4) rfl rfl hl.1 rfl (Nat.le_of_ble_eq_true rfl) dX5_offerByParts_63 ⟨Nat.zero_le _, Nat.zero_le _⟩ (fun H locs hP hS => ?_)
    refine lv_aload_n hx hb dX5_offerByParts_66 rfl (lv_at hl 2 rfl) ?_
    refine xg_5_0 hx hb hB hown hK hP dX5_offerByParts_67 ?_
    refine lv_iload_n hx hb dX5_offerByParts_70 rfl (lv_at hl 5 rfl) ?_
    refine cV_roi (As := [.int p3]) (rest := []) hC (m_X3_sort l g a r5 p3) (kv_of hB bw_7_18 bw_7_16 bw_7_17 bw_1_14 kd_X3_sort bw_17_2 rfl rfl ⟨Nat.le_of_ble_eq_true rfl, Nat.le_of_ble_eq_true rfl⟩) hK hP hP hS (xW_1 g a r5) rfl rfl hl.1 rfl (Nat.le_of_ble_eq_true rfl) dX5_offerByParts_71 ⟨Nat.zero_le _, Nat.zero_le _⟩ (fun H locs hP hS => ?_)
    refine lv_iconst (v := 4) hx hb dX5_offerByParts_74 (by decide) ?_
    refine lv_icmp_ne (tgt := 97) hx hb dX5_offerByParts_75 (by decide) (fun c6 => ?_) (fun c6 => ?_)
    · have hs := ifn c6 hs
      cases hs
      exact ret_rwv hx hb hr hlk hP hS dX5_offerByParts_97
    · have hs := ifp c6 hs
      refine lv_aload_n hx hb dX5_offerByParts_78 rfl (lv_at hl 2 rfl) ?_
      refine lv_iload_n hx hb dX5_offerByParts_79 rfl (lv_at hl 4 rfl) ?_
      refine lv_iload hx hb dX5_offerByParts_80 (lv_at hl 1 rfl) ?_
      refine lv_iload hx hb dX5_offerByParts_82 (lv_at hl 0 rfl) ?_
      refine cN_roi (As := [.int p2, .int (t_X3_first st p3), .int (t_X3_second st p3)]) (rest := [.ref (a 14)]) hC (m_X6_placeOfTo l g (xW g a r5) p2 (t_X3_first st p3) (t_X3_second st p3)) (kn_of (host := "NotionRounds") hB bw_17_4 bw_17_3 bw_1_2 kd_X6_placeOfTo (hK.2 _ (List.mem_of_getElem? (i := 32) rfl)) rfl rfl ⟨Nat.le_of_ble_eq_true rfl, Nat.le_of_ble_eq_true rfl⟩) hK hP hP hS rfl hl.1 rfl (Nat.le_of_ble_eq_true rfl) dX5_offerByParts_84 ⟨Nat.zero_le _, Nat.zero_le _⟩ (fun H locs hP hS => ?_)
      refine lv_iconst (v := 5) hx hb dX5_offerByParts_87 (by decide) ?_
      refine lv_iload_n hx hb dX5_offerByParts_88 rfl (lv_at hl 3 rfl) ?_
      refine lv_iconst (v := -1) hx hb dX5_offerByParts_89 (by decide) ?_
      refine lv_iconst (v := -1) hx hb dX5_offerByParts_90 (by decide) ?_
      refine cN_rol (As := [.int (5 : Int32), .int p1, .int (-1 : Int32), .int (-1 : Int32)]) (rest := [.int (t_X6_placeOfTo p2 (t_X3_first st p3) (t_X3_second st p3)), .ref (a 14)]) hC (m_X6_whyOf l g (xW g a r5) (5 : Int32) p1 (-1 : Int32) (-1 : Int32)) (kn_of (host := "NotionRounds") hB bw_15_16 bw_15_15 bw_1_2 kd_X6_whyOf (hK.2 _ (List.mem_of_getElem? (i := 25) rfl)) rfl rfl ⟨Nat.le_of_ble_eq_true rfl, Nat.le_of_ble_eq_true rfl⟩) hK hP hP hS rfl hl.1 rfl (Nat.le_of_ble_eq_true rfl) dX5_offerByParts_91 ⟨Nat.zero_le _, Nat.zero_le _⟩ (fun H locs hP hS => ?_)
      obtain ⟨r7, e7, hs⟩ := Option.bind_eq_some_iff.mp hs
      refine cV_rwv (As := [.int (t_X6_placeOfTo p2 (t_X3_first st p3) (t_X3_second st p3)), .long (t_X6_whyOf (5 : Int32) p1 (-1 : Int32) (-1 : Int32))]) (rest := []) hC (m_X5_offer l g a r5 H.size (t_X6_placeOfTo p2 (t_X3_first st p3) (t_X3_second st p3)) (t_X6_whyOf (5 : Int32) p1 (-1 : Int32) (-1 : Int32)) r7 e7) (kv_of hB bw_15_20 bw_15_18 bw_15_19 bw_2_6 kd_X5_offer bw_15_17 rfl rfl ⟨Nat.le_of_ble_eq_true rfl, Nat.le_of_ble_eq_true rfl⟩) hK hP (hD _) hA hS (xW_14 g a r5) rfl rfl hl.1 rfl (Nat.le_of_ble_eq_true rfl) dX5_offerByParts_94 ⟨Nat.zero_le _, Nat.zero_le _⟩ (fun H locs hP hS => ?_)
      cases hs
      exact ret_rwv hx hb hr hlk hP hS dX5_offerByParts_97
def t_X1_numberOfIs (st : XS) (p1 : Int32) (p2 : Int32) : Int32 :=
  (t_X6_at 2000 (st.1 9) (t_X6_placeOfIs p1 p2))
set_option maxHeartbeats 4000000 in
set_option maxRecDepth 100000 in
theorem m_X1_numberOfIs (l : Launch) (g : GG) (a : Nat → Nat) (st : XS) (p1 : Int32) (p2 : Int32) : Met l yX1_numberOfIs (Cond.code yX1_numberOfIs cX1_numberOfIs 3 (some .int) :: BIG) ({ frames := 1, cells := 0, slots := 0, locals := 21 } : Room) (va_Pc [.ref (a 8), .int p1, .int p2] (ROp g (xW g a st))) (ROi (t_X1_numberOfIs st p1 p2)) 0 0 (fun _ => False) := by
  obtain ⟨res, hs⟩ : ∃ z, t_X1_numberOfIs st p1 p2 = z := ⟨_, rfl⟩
  rw [hs]
  refine ro_start (cc := cX1_numberOfIs) (maxL := 3) (ret := (some .int)) (lv := [(0, .ref (a 8)), (1, .int p1), (2, .int p2)]) (by decide) rfl (Nat.le_of_ble_eq_true rfl) rfl ?_
  intro p e s m args below meth c hx hb hml hr hts hown hlk hK H locs hP hS ls hl
  have hB : ∀ w ∈ BIG, w.before args s = true := fun w h => hts w (List.mem_cons_of_mem _ h)
  have hC : CallFix p m c cX1_numberOfIs 3 s args BIG RX1 := ⟨hx, hb, hml, hown, hB⟩
  unfold t_X1_numberOfIs at hs
  refine lv_aload_n hx hb dX1_numberOfIs_0 rfl (lv_at hl 0 rfl) ?_
  refine xg_1_0 hx hb hB hown hK hP dX1_numberOfIs_1 ?_
  refine lv_iload_n hx hb dX1_numberOfIs_4 rfl (lv_at hl 1 rfl) ?_
  refine lv_iload_n hx hb dX1_numberOfIs_5 rfl (lv_at hl 2 rfl) ?_
  refine cN_roi (As := [.int p1, .int p2]) (rest := [.ref (a 9)]) hC (m_X6_placeOfIs l g (xW g a st) p1 p2) (kn_of (host := "NotionRounds") hB bw_15_14 bw_15_13 bw_1_2 kd_X6_placeOfIs (hK.2 _ (List.mem_of_getElem? (i := 33) rfl)) rfl rfl ⟨Nat.le_of_ble_eq_true rfl, Nat.le_of_ble_eq_true rfl⟩) hK hP hP hS rfl hl.1 rfl (Nat.le_of_ble_eq_true rfl) dX1_numberOfIs_6 ⟨Nat.zero_le _, Nat.zero_le _⟩ (fun H locs hP hS => ?_)
  refine cN_roi (As := [.ref (a 9), .int (t_X6_placeOfIs p1 p2)]) (rest := []) hC (m_X6_at l g (xW g a st) 9 2000 (st.1 9) (a 9) (xW_9 g a st) (by decide) (t_X6_placeOfIs p1 p2)) (kn_of (host := "NotionRounds") hB bw_8_0 bw_7_23 bw_1_2 kd_X6_at (hK.2 _ (List.mem_of_getElem? (i := 27) rfl)) rfl rfl ⟨Nat.le_of_ble_eq_true rfl, Nat.le_of_ble_eq_true rfl⟩) hK hP hP hS rfl hl.1 rfl (Nat.le_of_ble_eq_true rfl) dX1_numberOfIs_9 ⟨Nat.zero_le _, Nat.zero_le _⟩ (fun H locs hP hS => ?_)
  subst hs
  exact ret_roi hx hb hr hlk hS dX1_numberOfIs_12
def t_X6_whyOfTwo (p0 : Int32) (p1 : Int32) (p2 : Int32) : Int64 :=
  (if p2 = (-1 : Int32) then (4611686018427387904 : Int64) else (t_X6_whyOf p0 p1 p2 (-1 : Int32)))
set_option maxHeartbeats 4000000 in
set_option maxRecDepth 100000 in
theorem m_X6_whyOfTwo (l : Launch) (g : GG) (w : va_W) (p0 : Int32) (p1 : Int32) (p2 : Int32) : Met l yX6_whyOfTwo (Cond.code yX6_whyOfTwo cX6_whyOfTwo 3 (some .long) :: BIG) ({ frames := 1, cells := 0, slots := 0, locals := 23 } : Room) (va_Pc [.int p0, .int p1, .int p2] (ROp g w)) (ROl (t_X6_whyOfTwo p0 p1 p2)) 0 0 (fun _ => False) := by
  obtain ⟨res, hs⟩ : ∃ z, t_X6_whyOfTwo p0 p1 p2 = z := ⟨_, rfl⟩
  rw [hs]
  refine ro_start (cc := cX6_whyOfTwo) (maxL := 3) (ret := (some .long)) (lv := [(0, .int p0), (1, .int p1), (2, .int p2)]) (by decide) rfl (Nat.le_of_ble_eq_true rfl) rfl ?_
  intro p e s m args below meth c hx hb hml hr hts hown hlk hK H locs hP hS ls hl
  have hB : ∀ w ∈ BIG, w.before args s = true := fun w h => hts w (List.mem_cons_of_mem _ h)
  have hC : CallFix p m c cX6_whyOfTwo 3 s args BIG RX6 := ⟨hx, hb, hml, hown, hB⟩
  unfold t_X6_whyOfTwo at hs
  refine lv_iload_n hx hb dX6_whyOfTwo_0 rfl (lv_at hl 2 rfl) ?_
  refine lv_iconst (v := -1) hx hb dX6_whyOfTwo_1 (by decide) ?_
  refine lv_icmp_ne (tgt := 11) hx hb dX6_whyOfTwo_2 (by decide) (fun c1 => ?_) (fun c1 => ?_)
  · have hs := ifn c1 hs
    refine lv_iload_n hx hb dX6_whyOfTwo_11 rfl (lv_at hl 0 rfl) ?_
    refine lv_iload_n hx hb dX6_whyOfTwo_12 rfl (lv_at hl 1 rfl) ?_
    refine lv_iload_n hx hb dX6_whyOfTwo_13 rfl (lv_at hl 2 rfl) ?_
    refine lv_iconst (v := -1) hx hb dX6_whyOfTwo_14 (by decide) ?_
    refine cS_rol (As := [.int p0, .int p1, .int p2, .int (-1 : Int32)]) (rest := []) hC (m_X6_whyOf l g w p0 p1 p2 (-1 : Int32)) (ks_of hB bw_15_16 bw_15_15 bw_1_2 kd_X6_whyOf bw_17_15 rfl rfl ⟨Nat.le_of_ble_eq_true rfl, Nat.le_of_ble_eq_true rfl⟩) hK hP hP hS rfl hl.1 rfl (Nat.le_of_ble_eq_true rfl) dX6_whyOfTwo_15 ⟨Nat.zero_le _, Nat.zero_le _⟩ (fun H locs hP hS => ?_)
    subst hs
    exact ret_rol hx hb hr hlk hS dX6_whyOfTwo_18
  · have hs := ifp c1 hs
    refine lv_ldc2 hx hb hown (hB _ bw_15_23) dX6_whyOfTwo_5 ?_
    refine lv_goto (tgt := 18) hx hb dX6_whyOfTwo_8 (by decide) ?_
    subst hs
    exact ret_rol hx hb hr hlk hS dX6_whyOfTwo_18
noncomputable def b_X5_offerMeets_3 (c3_1 : Int32) (c3_2 : Int32) (c3_3 : Int32) (v3_4 : Int32) (z3 : XS) : Option ((Int32 × XS) ⊕ XS) :=
  (if (z3.1 30 0) ≤ v3_4 then some (Sum.inr (z3)) else (if (t_X3_sort z3 v3_4) = (3 : Int32) then (if (t_X3_first z3 v3_4) = c3_3 then (Option.bind (f_X5_offer z3 (t_X6_placeOfIs c3_2 v3_4) (t_X6_whyOfTwo (3 : Int32) c3_1 (t_X1_numberOfIs z3 c3_2 (t_X3_second z3 v3_4)))) (fun r4 => some (Sum.inl ((v3_4 + 1), r4)))) else some (Sum.inl ((v3_4 + 1), z3))) else some (Sum.inl ((v3_4 + 1), z3))))
noncomputable def f_X5_offerMeets (st : XS) (p1 : Int32) (p2 : Int32) (p3 : Int32) : Option XS :=
  (loopC (fun v => b_X5_offerMeets_3 p1 p2 p3 v.1 v.2) ((0 : Int32), st))
set_option maxHeartbeats 4000000 in
set_option maxRecDepth 100000 in
theorem m_X5_offerMeets (l : Launch) (g : GG) (a : Nat → Nat) (st : XS) (sz : Nat) (p1 : Int32) (p2 : Int32) (p3 : Int32) (res : XS) (hs : f_X5_offerMeets st p1 p2 p3 = some res) : Met l yX5_offerMeets (Cond.code yX5_offerMeets cX5_offerMeets 6 none :: BIG) ({ frames := 3, cells := 0, slots := 0, locals := 65 } : Room) (va_Pc [.ref (a 14), .int p1, .int p2, .int p3] (RWp g (xW g a st) sz)) (RWv g (xW g a res) (va_A (xW g a st) sz)) 0 0 (va_A (xW g a st) sz) := by
  refine rw_start (cc := cX5_offerMeets) (maxL := 6) (ret := none) (lv := [(0, .ref (a 14)), (1, .int p1), (2, .int p2), (3, .int p3)]) (Qc := fun A => (RWv g (xW g a res) A)) (by decide) rfl (Nat.le_of_ble_eq_true rfl) rfl ?_
  intro p e s m args below meth c hx hb hml hr hts hown hlk hK A hD0 hA H locs hP hS ls hl
  have hD : ∀ st' : XS, va_D A (xW g a st') := fun _ => xW_D hD0
  have hB : ∀ w ∈ BIG, w.before args s = true := fun w h => hts w (List.mem_cons_of_mem _ h)
  have hC : CallFix p m c cX5_offerMeets 6 s args BIG RX5 := ⟨hx, hb, hml, hown, hB⟩
  unfold f_X5_offerMeets at hs
  refine lv_iconst (v := 0) hx hb dX5_offerMeets_0 (by decide) ?_
  refine lv_istore (lv' := [(4, .int (0 : Int32)), (0, .ref (a 14)), (1, .int p1), (2, .int p2), (3, .int p3)]) hx hb dX5_offerMeets_1 hl (by decide) rfl (fun ls hl => ?_)
  obtain ⟨n3, hs⟩ := loopC_iter hs
  have L3 : ∀ (n : Nat) (v3_4 : Int32) (z3 : XS), iterO (fun v => b_X5_offerMeets_3 p1 p2 p3 v.1 v.2) n (v3_4, z3) = some res → ∀ (H : Heap) (locs : List Loc), va_P g.1 vwCl (xW g a z3) H → va_S A s.heap H locs → ∀ ls : Array Slot, lv_has ls 6 [(0, .ref (a 14)), (1, .int p1), (2, .int p2), (3, .int p3), (4, .int v3_4)] → W p l e ({ frames := 3, cells := 0, slots := 0, locals := 65 } : Room) s m args below meth c H locs 0 0 (MQ below (RWv g (xW g a res) A) args s 0 0 A) (F0 m 3 ls []) := by
    intro n
    induction n with
    | zero => intro v3_4 z3 hs; exact (iterO_zero hs).elim
    | succ n ih3 =>
      intro v3_4 z3 hs H locs hP hS ls hl
      obtain ⟨y3, hs, hk3⟩ := iterO_succ hs
      have hs : b_X5_offerMeets_3 p1 p2 p3 v3_4 z3 = some y3 := hs
      unfold b_X5_offerMeets_3 at hs
      refine lv_iload hx hb dX5_offerMeets_3 (lv_at hl 4 rfl) ?_
      refine lv_aload_n hx hb dX5_offerMeets_5 rfl (lv_at hl 0 rfl) ?_
      refine xg_5_0 hx hb hB hown hK hP dX5_offerMeets_6 ?_
      refine xn_RX5_77 hx hb hB hown hK hP dX5_offerMeets_9 ?_
      refine lv_icmp_ge (tgt := 83) hx hb dX5_offerMeets_12 (by decide) (fun c1 => ?_) (fun c1 => ?_)
      · have hs := ifp c1 hs
        cases hs
        cases elim_inr hk3
        exact ret_rwv hx hb hr hlk hP hS dX5_offerMeets_83
      · have hs := ifn c1 hs
        refine lv_aload_n hx hb dX5_offerMeets_15 rfl (lv_at hl 0 rfl) ?_
        refine xg_5_0 hx hb hB hown hK hP dX5_offerMeets_16 ?_
        refine lv_iload hx hb dX5_offerMeets_19 (lv_at hl 4 rfl) ?_
        refine cV_roi (As := [.int v3_4]) (rest := []) hC (m_X3_sort l g a z3 v3_4) (kv_of hB bw_7_18 bw_7_16 bw_7_17 bw_1_14 kd_X3_sort bw_17_2 rfl rfl ⟨Nat.le_of_ble_eq_true rfl, Nat.le_of_ble_eq_true rfl⟩) hK hP hP hS (xW_1 g a z3) rfl rfl hl.1 rfl (Nat.le_of_ble_eq_true rfl) dX5_offerMeets_21 ⟨Nat.zero_le _, Nat.zero_le _⟩ (fun H locs hP hS => ?_)
        refine lv_iconst (v := 3) hx hb dX5_offerMeets_24 (by decide) ?_
        refine lv_icmp_ne (tgt := 77) hx hb dX5_offerMeets_25 (by decide) (fun c2 => ?_) (fun c2 => ?_)
        · have hs := ifn c2 hs
          refine lv_iinc (v := (v3_4 + 1)) (lv' := [(4, .int (v3_4 + 1)), (0, .ref (a 14)), (1, .int p1), (2, .int p2), (3, .int p3)]) hx hb dX5_offerMeets_77 hl (k := 4) rfl (by rfl) (by decide) rfl (fun ls hl => ?_)
          refine lv_goto (tgt := 3) hx hb dX5_offerMeets_80 (by decide) ?_
          cases hs
          exact ih3 (v3_4 + 1) z3 hk3 _ _ hP hS _ (lv_sub hl [1, 2, 3, 4, 0] rfl)
        · have hs := ifp c2 hs
          refine lv_aload_n hx hb dX5_offerMeets_28 rfl (lv_at hl 0 rfl) ?_
          refine xg_5_0 hx hb hB hown hK hP dX5_offerMeets_29 ?_
          refine lv_iload hx hb dX5_offerMeets_32 (lv_at hl 4 rfl) ?_
          refine cV_roi (As := [.int v3_4]) (rest := []) hC (m_X3_first l g a z3 v3_4) (kv_of hB bw_8_4 bw_8_2 bw_8_3 bw_1_14 kd_X3_first bw_17_0 rfl rfl ⟨Nat.le_of_ble_eq_true rfl, Nat.le_of_ble_eq_true rfl⟩) hK hP hP hS (xW_1 g a z3) rfl rfl hl.1 rfl (Nat.le_of_ble_eq_true rfl) dX5_offerMeets_34 ⟨Nat.zero_le _, Nat.zero_le _⟩ (fun H locs hP hS => ?_)
          refine lv_iload_n hx hb dX5_offerMeets_37 rfl (lv_at hl 3 rfl) ?_
          refine lv_icmp_ne (tgt := 77) hx hb dX5_offerMeets_38 (by decide) (fun c3 => ?_) (fun c3 => ?_)
          · have hs := ifn c3 hs
            refine lv_iinc (v := (v3_4 + 1)) (lv' := [(4, .int (v3_4 + 1)), (0, .ref (a 14)), (1, .int p1), (2, .int p2), (3, .int p3)]) hx hb dX5_offerMeets_77 hl (k := 4) rfl (by rfl) (by decide) rfl (fun ls hl => ?_)
            refine lv_goto (tgt := 3) hx hb dX5_offerMeets_80 (by decide) ?_
            cases hs
            exact ih3 (v3_4 + 1) z3 hk3 _ _ hP hS _ (lv_sub hl [1, 2, 3, 4, 0] rfl)
          · have hs := ifp c3 hs
            refine lv_aload_n hx hb dX5_offerMeets_41 rfl (lv_at hl 0 rfl) ?_
            refine xg_5_3 hx hb hB hown hK hP dX5_offerMeets_42 ?_
            refine lv_iload_n hx hb dX5_offerMeets_45 rfl (lv_at hl 2 rfl) ?_
            refine lv_aload_n hx hb dX5_offerMeets_46 rfl (lv_at hl 0 rfl) ?_
            refine xg_5_0 hx hb hB hown hK hP dX5_offerMeets_47 ?_
            refine lv_iload hx hb dX5_offerMeets_50 (lv_at hl 4 rfl) ?_
            refine cV_roi (As := [.int v3_4]) (rest := [.int p2, .ref (a 8)]) hC (m_X3_second l g a z3 v3_4) (kv_of hB bw_8_8 bw_8_6 bw_8_7 bw_1_14 kd_X3_second bw_17_1 rfl rfl ⟨Nat.le_of_ble_eq_true rfl, Nat.le_of_ble_eq_true rfl⟩) hK hP hP hS (xW_1 g a z3) rfl rfl hl.1 rfl (Nat.le_of_ble_eq_true rfl) dX5_offerMeets_52 ⟨Nat.zero_le _, Nat.zero_le _⟩ (fun H locs hP hS => ?_)
            refine cV_roi (As := [.int p2, .int (t_X3_second z3 v3_4)]) (rest := []) hC (m_X1_numberOfIs l g a z3 p2 (t_X3_second z3 v3_4)) (kv_of hB bw_17_12 bw_17_10 bw_17_11 bw_2_2 kd_X1_numberOfIs bw_17_9 rfl rfl ⟨Nat.le_of_ble_eq_true rfl, Nat.le_of_ble_eq_true rfl⟩) hK hP hP hS (xW_8 g a z3) rfl rfl hl.1 rfl (Nat.le_of_ble_eq_true rfl) dX5_offerMeets_55 ⟨Nat.zero_le _, Nat.zero_le _⟩ (fun H locs hP hS => ?_)
            refine lv_istore (lv' := [(5, .int (t_X1_numberOfIs z3 p2 (t_X3_second z3 v3_4))), (0, .ref (a 14)), (1, .int p1), (2, .int p2), (3, .int p3), (4, .int v3_4)]) hx hb dX5_offerMeets_58 hl (by decide) rfl (fun ls hl => ?_)
            refine lv_aload_n hx hb dX5_offerMeets_60 rfl (lv_at hl 1 rfl) ?_
            refine lv_iload_n hx hb dX5_offerMeets_61 rfl (lv_at hl 3 rfl) ?_
            refine lv_iload hx hb dX5_offerMeets_62 (lv_at hl 5 rfl) ?_
            refine cN_roi (As := [.int p2, .int v3_4]) (rest := [.ref (a 14)]) hC (m_X6_placeOfIs l g (xW g a z3) p2 v3_4) (kn_of (host := "NotionRounds") hB bw_15_14 bw_15_13 bw_1_2 kd_X6_placeOfIs (hK.2 _ (List.mem_of_getElem? (i := 24) rfl)) rfl rfl ⟨Nat.le_of_ble_eq_true rfl, Nat.le_of_ble_eq_true rfl⟩) hK hP hP hS rfl hl.1 rfl (Nat.le_of_ble_eq_true rfl) dX5_offerMeets_64 ⟨Nat.zero_le _, Nat.zero_le _⟩ (fun H locs hP hS => ?_)
            refine lv_iconst (v := 3) hx hb dX5_offerMeets_67 (by decide) ?_
            refine lv_iload_n hx hb dX5_offerMeets_68 rfl (lv_at hl 2 rfl) ?_
            refine lv_iload hx hb dX5_offerMeets_69 (lv_at hl 0 rfl) ?_
            refine cN_rol (As := [.int (3 : Int32), .int p1, .int (t_X1_numberOfIs z3 p2 (t_X3_second z3 v3_4))]) (rest := [.int (t_X6_placeOfIs p2 v3_4), .ref (a 14)]) hC (m_X6_whyOfTwo l g (xW g a z3) (3 : Int32) p1 (t_X1_numberOfIs z3 p2 (t_X3_second z3 v3_4))) (kn_of (host := "NotionRounds") hB bw_17_14 bw_17_13 bw_1_2 kd_X6_whyOfTwo (hK.2 _ (List.mem_of_getElem? (i := 34) rfl)) rfl rfl ⟨Nat.le_of_ble_eq_true rfl, Nat.le_of_ble_eq_true rfl⟩) hK hP hP hS rfl hl.1 rfl (Nat.le_of_ble_eq_true rfl) dX5_offerMeets_71 ⟨Nat.zero_le _, Nat.zero_le _⟩ (fun H locs hP hS => ?_)
            obtain ⟨r4, e4, hs⟩ := Option.bind_eq_some_iff.mp hs
            refine cV_rwv (As := [.int (t_X6_placeOfIs p2 v3_4), .long (t_X6_whyOfTwo (3 : Int32) p1 (t_X1_numberOfIs z3 p2 (t_X3_second z3 v3_4)))]) (rest := []) hC (m_X5_offer l g a z3 H.size (t_X6_placeOfIs p2 v3_4) (t_X6_whyOfTwo (3 : Int32) p1 (t_X1_numberOfIs z3 p2 (t_X3_second z3 v3_4))) r4 e4) (kv_of hB bw_15_20 bw_15_18 bw_15_19 bw_2_6 kd_X5_offer bw_15_17 rfl rfl ⟨Nat.le_of_ble_eq_true rfl, Nat.le_of_ble_eq_true rfl⟩) hK hP (hD _) hA hS (xW_14 g a z3) rfl rfl hl.1 rfl (Nat.le_of_ble_eq_true rfl) dX5_offerMeets_74 ⟨Nat.zero_le _, Nat.zero_le _⟩ (fun H locs hP hS => ?_)
            refine lv_iinc (v := (v3_4 + 1)) (lv' := [(4, .int (v3_4 + 1)), (5, .int (t_X1_numberOfIs z3 p2 (t_X3_second z3 v3_4))), (0, .ref (a 14)), (1, .int p1), (2, .int p2), (3, .int p3)]) hx hb dX5_offerMeets_77 hl (k := 5) rfl (by rfl) (by decide) rfl (fun ls hl => ?_)
            refine lv_goto (tgt := 3) hx hb dX5_offerMeets_80 (by decide) ?_
            cases hs
            exact ih3 (v3_4 + 1) r4 hk3 _ _ hP hS _ (lv_sub hl [2, 3, 4, 5, 0] rfl)
  exact L3 n3 (0 : Int32) st hs _ _ hP hS _ (lv_sub hl [1, 2, 3, 4, 0] rfl)
noncomputable def b_X5_offerByAxioms_3 (c3_1 : Int32) (c3_2 : Int32) (c3_3 : Int32) (v3_4 : Int32) (z3 : XS) : Option ((Int32 × XS) ⊕ XS) :=
  (if (z3.1 32 0) ≤ v3_4 then some (Sum.inr (z3)) else (if (t_X0_holdingOf z3 v3_4 (0 : Int32)) = 0 then some (Sum.inl ((v3_4 + 1), z3)) else (if (t_X0_part z3 v3_4 (1 : Int32)) = c3_3 then (Option.bind (f_X5_offer z3 (t_X6_placeOfIs c3_2 (t_X0_part z3 v3_4 (2 : Int32))) (t_X6_whyOf (4 : Int32) c3_1 (-1 : Int32) v3_4)) (fun r4 => some (Sum.inl ((v3_4 + 1), r4)))) else some (Sum.inl ((v3_4 + 1), z3)))))
noncomputable def f_X5_offerByAxioms (st : XS) (p1 : Int32) (p2 : Int32) (p3 : Int32) : Option XS :=
  (loopC (fun v => b_X5_offerByAxioms_3 p1 p2 p3 v.1 v.2) ((0 : Int32), st))
set_option maxHeartbeats 4000000 in
set_option maxRecDepth 100000 in
theorem m_X5_offerByAxioms (l : Launch) (g : GG) (a : Nat → Nat) (st : XS) (sz : Nat) (p1 : Int32) (p2 : Int32) (p3 : Int32) (res : XS) (hs : f_X5_offerByAxioms st p1 p2 p3 = some res) : Met l yX5_offerByAxioms (Cond.code yX5_offerByAxioms cX5_offerByAxioms 5 none :: BIG) ({ frames := 3, cells := 0, slots := 0, locals := 65 } : Room) (va_Pc [.ref (a 14), .int p1, .int p2, .int p3] (RWp g (xW g a st) sz)) (RWv g (xW g a res) (va_A (xW g a st) sz)) 0 0 (va_A (xW g a st) sz) := by
  refine rw_start (cc := cX5_offerByAxioms) (maxL := 5) (ret := none) (lv := [(0, .ref (a 14)), (1, .int p1), (2, .int p2), (3, .int p3)]) (Qc := fun A => (RWv g (xW g a res) A)) (by decide) rfl (Nat.le_of_ble_eq_true rfl) rfl ?_
  intro p e s m args below meth c hx hb hml hr hts hown hlk hK A hD0 hA H locs hP hS ls hl
  have hD : ∀ st' : XS, va_D A (xW g a st') := fun _ => xW_D hD0
  have hB : ∀ w ∈ BIG, w.before args s = true := fun w h => hts w (List.mem_cons_of_mem _ h)
  have hC : CallFix p m c cX5_offerByAxioms 5 s args BIG RX5 := ⟨hx, hb, hml, hown, hB⟩
  unfold f_X5_offerByAxioms at hs
  refine lv_iconst (v := 0) hx hb dX5_offerByAxioms_0 (by decide) ?_
  refine lv_istore (lv' := [(4, .int (0 : Int32)), (0, .ref (a 14)), (1, .int p1), (2, .int p2), (3, .int p3)]) hx hb dX5_offerByAxioms_1 hl (by decide) rfl (fun ls hl => ?_)
  obtain ⟨n3, hs⟩ := loopC_iter hs
  have L3 : ∀ (n : Nat) (v3_4 : Int32) (z3 : XS), iterO (fun v => b_X5_offerByAxioms_3 p1 p2 p3 v.1 v.2) n (v3_4, z3) = some res → ∀ (H : Heap) (locs : List Loc), va_P g.1 vwCl (xW g a z3) H → va_S A s.heap H locs → ∀ ls : Array Slot, lv_has ls 5 [(0, .ref (a 14)), (1, .int p1), (2, .int p2), (3, .int p3), (4, .int v3_4)] → W p l e ({ frames := 3, cells := 0, slots := 0, locals := 65 } : Room) s m args below meth c H locs 0 0 (MQ below (RWv g (xW g a res) A) args s 0 0 A) (F0 m 3 ls []) := by
    intro n
    induction n with
    | zero => intro v3_4 z3 hs; exact (iterO_zero hs).elim
    | succ n ih3 =>
      intro v3_4 z3 hs H locs hP hS ls hl
      obtain ⟨y3, hs, hk3⟩ := iterO_succ hs
      have hs : b_X5_offerByAxioms_3 p1 p2 p3 v3_4 z3 = some y3 := hs
      unfold b_X5_offerByAxioms_3 at hs
      refine lv_iload hx hb dX5_offerByAxioms_3 (lv_at hl 4 rfl) ?_
      refine lv_aload_n hx hb dX5_offerByAxioms_5 rfl (lv_at hl 0 rfl) ?_
      refine xg_5_1 hx hb hB hown hK hP dX5_offerByAxioms_6 ?_
      refine xn_RX5_149 hx hb hB hown hK hP dX5_offerByAxioms_9 ?_
      refine lv_icmp_ge (tgt := 74) hx hb dX5_offerByAxioms_12 (by decide) (fun c1 => ?_) (fun c1 => ?_)
      · have hs := ifp c1 hs
        cases hs
        cases elim_inr hk3
        exact ret_rwv hx hb hr hlk hP hS dX5_offerByAxioms_74
      · have hs := ifn c1 hs
        refine lv_aload_n hx hb dX5_offerByAxioms_15 rfl (lv_at hl 0 rfl) ?_
        refine xg_5_1 hx hb hB hown hK hP dX5_offerByAxioms_16 ?_
        refine lv_iload hx hb dX5_offerByAxioms_19 (lv_at hl 4 rfl) ?_
        refine lv_iconst (v := 0) hx hb dX5_offerByAxioms_21 (by decide) ?_
        refine cV_roi (As := [.int v3_4, .int (0 : Int32)]) (rest := []) hC (m_X0_holdingOf l g a z3 v3_4 (0 : Int32)) (kv_of hB bw_13_23 bw_13_21 bw_13_22 bw_1_18 kd_X0_holdingOf bw_17_20 rfl rfl ⟨Nat.le_of_ble_eq_true rfl, Nat.le_of_ble_eq_true rfl⟩) hK hP hP hS (xW_3 g a z3) rfl rfl hl.1 rfl (Nat.le_of_ble_eq_true rfl) dX5_offerByAxioms_22 ⟨Nat.zero_le _, Nat.zero_le _⟩ (fun H locs hP hS => ?_)
        refine lv_if_eq (tgt := 68) hx hb dX5_offerByAxioms_25 (by decide) (fun c2 => ?_) (fun c2 => ?_)
        · have hs := ifp c2 hs
          refine lv_iinc (v := (v3_4 + 1)) (lv' := [(4, .int (v3_4 + 1)), (0, .ref (a 14)), (1, .int p1), (2, .int p2), (3, .int p3)]) hx hb dX5_offerByAxioms_68 hl (k := 4) rfl (by rfl) (by decide) rfl (fun ls hl => ?_)
          refine lv_goto (tgt := 3) hx hb dX5_offerByAxioms_71 (by decide) ?_
          cases hs
          exact ih3 (v3_4 + 1) z3 hk3 _ _ hP hS _ (lv_sub hl [1, 2, 3, 4, 0] rfl)
        · have hs := ifn c2 hs
          refine lv_aload_n hx hb dX5_offerByAxioms_28 rfl (lv_at hl 0 rfl) ?_
          refine xg_5_1 hx hb hB hown hK hP dX5_offerByAxioms_29 ?_
          refine lv_iload hx hb dX5_offerByAxioms_32 (lv_at hl 4 rfl) ?_
          refine lv_iconst (v := 1) hx hb dX5_offerByAxioms_34 (by decide) ?_
          refine cV_roi (As := [.int v3_4, .int (1 : Int32)]) (rest := []) hC (m_X0_part l g a z3 v3_4 (1 : Int32)) (kv_of hB bw_11_20 bw_11_18 bw_11_19 bw_1_18 kd_X0_part bw_17_21 rfl rfl ⟨Nat.le_of_ble_eq_true rfl, Nat.le_of_ble_eq_true rfl⟩) hK hP hP hS (xW_3 g a z3) rfl rfl hl.1 rfl (Nat.le_of_ble_eq_true rfl) dX5_offerByAxioms_35 ⟨Nat.zero_le _, Nat.zero_le _⟩ (fun H locs hP hS => ?_)
          refine lv_iload_n hx hb dX5_offerByAxioms_38 rfl (lv_at hl 3 rfl) ?_
          refine lv_icmp_ne (tgt := 68) hx hb dX5_offerByAxioms_39 (by decide) (fun c3 => ?_) (fun c3 => ?_)
          · have hs := ifn c3 hs
            refine lv_iinc (v := (v3_4 + 1)) (lv' := [(4, .int (v3_4 + 1)), (0, .ref (a 14)), (1, .int p1), (2, .int p2), (3, .int p3)]) hx hb dX5_offerByAxioms_68 hl (k := 4) rfl (by rfl) (by decide) rfl (fun ls hl => ?_)
            refine lv_goto (tgt := 3) hx hb dX5_offerByAxioms_71 (by decide) ?_
            cases hs
            exact ih3 (v3_4 + 1) z3 hk3 _ _ hP hS _ (lv_sub hl [1, 2, 3, 4, 0] rfl)
          · have hs := ifp c3 hs
            refine lv_aload_n hx hb dX5_offerByAxioms_42 rfl (lv_at hl 0 rfl) ?_
            refine lv_iload_n hx hb dX5_offerByAxioms_43 rfl (lv_at hl 2 rfl) ?_
            refine lv_aload_n hx hb dX5_offerByAxioms_44 rfl (lv_at hl 0 rfl) ?_
            refine xg_5_1 hx hb hB hown hK hP dX5_offerByAxioms_45 ?_
            refine lv_iload hx hb dX5_offerByAxioms_48 (lv_at hl 4 rfl) ?_
            refine lv_iconst (v := 2) hx hb dX5_offerByAxioms_50 (by decide) ?_
            refine cV_roi (As := [.int v3_4, .int (2 : Int32)]) (rest := [.int p2, .ref (a 14)]) hC (m_X0_part l g a z3 v3_4 (2 : Int32)) (kv_of hB bw_11_20 bw_11_18 bw_11_19 bw_1_18 kd_X0_part bw_17_21 rfl rfl ⟨Nat.le_of_ble_eq_true rfl, Nat.le_of_ble_eq_true rfl⟩) hK hP hP hS (xW_3 g a z3) rfl rfl hl.1 rfl (Nat.le_of_ble_eq_true rfl) dX5_offerByAxioms_51 ⟨Nat.zero_le _, Nat.zero_le _⟩ (fun H locs hP hS => ?_)
            refine cN_roi (As := [.int p2, .int (t_X0_part z3 v3_4 (2 : Int32))]) (rest := [.ref (a 14)]) hC (m_X6_placeOfIs l g (xW g a z3) p2 (t_X0_part z3 v3_4 (2 : Int32))) (kn_of (host := "NotionRounds") hB bw_15_14 bw_15_13 bw_1_2 kd_X6_placeOfIs (hK.2 _ (List.mem_of_getElem? (i := 24) rfl)) rfl rfl ⟨Nat.le_of_ble_eq_true rfl, Nat.le_of_ble_eq_true rfl⟩) hK hP hP hS rfl hl.1 rfl (Nat.le_of_ble_eq_true rfl) dX5_offerByAxioms_54 ⟨Nat.zero_le _, Nat.zero_le _⟩ (fun H locs hP hS => ?_)
            refine lv_iconst (v := 4) hx hb dX5_offerByAxioms_57 (by decide) ?_
            refine lv_iload_n hx hb dX5_offerByAxioms_58 rfl (lv_at hl 1 rfl) ?_
            refine lv_iconst (v := -1) hx hb dX5_offerByAxioms_59 (by decide) ?_
            refine lv_iload hx hb dX5_offerByAxioms_60 (lv_at hl 4 rfl) ?_
            refine cN_rol (As := [.int (4 : Int32), .int p1, .int (-1 : Int32), .int v3_4]) (rest := [.int (t_X6_placeOfIs p2 (t_X0_part z3 v3_4 (2 : Int32))), .ref (a 14)]) hC (m_X6_whyOf l g (xW g a z3) (4 : Int32) p1 (-1 : Int32) v3_4) (kn_of (host := "NotionRounds") hB bw_15_16 bw_15_15 bw_1_2 kd_X6_whyOf (hK.2 _ (List.mem_of_getElem? (i := 25) rfl)) rfl rfl ⟨Nat.le_of_ble_eq_true rfl, Nat.le_of_ble_eq_true rfl⟩) hK hP hP hS rfl hl.1 rfl (Nat.le_of_ble_eq_true rfl) dX5_offerByAxioms_62 ⟨Nat.zero_le _, Nat.zero_le _⟩ (fun H locs hP hS => ?_)
            obtain ⟨r4, e4, hs⟩ := Option.bind_eq_some_iff.mp hs
            refine cV_rwv (As := [.int (t_X6_placeOfIs p2 (t_X0_part z3 v3_4 (2 : Int32))), .long (t_X6_whyOf (4 : Int32) p1 (-1 : Int32) v3_4)]) (rest := []) hC (m_X5_offer l g a z3 H.size (t_X6_placeOfIs p2 (t_X0_part z3 v3_4 (2 : Int32))) (t_X6_whyOf (4 : Int32) p1 (-1 : Int32) v3_4) r4 e4) (kv_of hB bw_15_20 bw_15_18 bw_15_19 bw_2_6 kd_X5_offer bw_15_17 rfl rfl ⟨Nat.le_of_ble_eq_true rfl, Nat.le_of_ble_eq_true rfl⟩) hK hP (hD _) hA hS (xW_14 g a z3) rfl rfl hl.1 rfl (Nat.le_of_ble_eq_true rfl) dX5_offerByAxioms_65 ⟨Nat.zero_le _, Nat.zero_le _⟩ (fun H locs hP hS => ?_)
            refine lv_iinc (v := (v3_4 + 1)) (lv' := [(4, .int (v3_4 + 1)), (0, .ref (a 14)), (1, .int p1), (2, .int p2), (3, .int p3)]) hx hb dX5_offerByAxioms_68 hl (k := 4) rfl (by rfl) (by decide) rfl (fun ls hl => ?_)
            refine lv_goto (tgt := 3) hx hb dX5_offerByAxioms_71 (by decide) ?_
            cases hs
            exact ih3 (v3_4 + 1) r4 hk3 _ _ hP hS _ (lv_sub hl [1, 2, 3, 4, 0] rfl)
  exact L3 n3 (0 : Int32) st hs _ _ hP hS _ (lv_sub hl [1, 2, 3, 4, 0] rfl)
noncomputable def b_X5_offerBack_3 (c3_1 : Int32) (c3_2 : Int32) (c3_3 : Int32) (c3_4 : Int32) (v3_5 : Int32) (z3 : XS) : Option ((Int32 × XS) ⊕ XS) :=
  (if (z3.1 30 0) ≤ v3_5 then (Option.bind (f_X5_offer z3 (t_X6_placeOfIs c3_2 (1 : Int32)) (t_X6_whyOfTwo (7 : Int32) c3_1 (t_X1_numberOfIs z3 c3_4 (1 : Int32)))) (fun r2 => some (Sum.inr (r2)))) else (if (t_X3_sort z3 v3_5) = (4 : Int32) then (if (t_X4_goesUnder z3 c3_3 (t_X3_first z3 v3_5)) = 0 then some (Sum.inl ((v3_5 + 1), z3)) else (Option.bind (f_X5_offer z3 (t_X6_placeOfIs c3_2 v3_5) (t_X6_whyOfTwo (6 : Int32) c3_1 (t_X1_numberOfIs z3 c3_4 (t_X3_second z3 v3_5)))) (fun r5 => some (Sum.inl ((v3_5 + 1), r5))))) else some (Sum.inl ((v3_5 + 1), z3))))
noncomputable def f_X5_offerBack (st : XS) (p1 : Int32) (p2 : Int32) (p3 : Int32) (p4 : Int32) : Option XS :=
  (loopC (fun v => b_X5_offerBack_3 p1 p2 p3 p4 v.1 v.2) ((0 : Int32), st))
set_option maxHeartbeats 4000000 in
set_option maxRecDepth 100000 in
theorem m_X5_offerBack (l : Launch) (g : GG) (a : Nat → Nat) (st : XS) (sz : Nat) (p1 : Int32) (p2 : Int32) (p3 : Int32) (p4 : Int32) (res : XS) (hs : f_X5_offerBack st p1 p2 p3 p4 = some res) : Met l yX5_offerBack (Cond.code yX5_offerBack cX5_offerBack 7 none :: BIG) ({ frames := 3, cells := 0, slots := 0, locals := 65 } : Room) (va_Pc [.ref (a 14), .int p1, .int p2, .int p3, .int p4] (RWp g (xW g a st) sz)) (RWv g (xW g a res) (va_A (xW g a st) sz)) 0 0 (va_A (xW g a st) sz) := by
  refine rw_start (cc := cX5_offerBack) (maxL := 7) (ret := none) (lv := [(0, .ref (a 14)), (1, .int p1), (2, .int p2), (3, .int p3), (4, .int p4)]) (Qc := fun A => (RWv g (xW g a res) A)) (by decide) rfl (Nat.le_of_ble_eq_true rfl) rfl ?_
  intro p e s m args below meth c hx hb hml hr hts hown hlk hK A hD0 hA H locs hP hS ls hl
  have hD : ∀ st' : XS, va_D A (xW g a st') := fun _ => xW_D hD0
  have hB : ∀ w ∈ BIG, w.before args s = true := fun w h => hts w (List.mem_cons_of_mem _ h)
  have hC : CallFix p m c cX5_offerBack 7 s args BIG RX5 := ⟨hx, hb, hml, hown, hB⟩
  unfold f_X5_offerBack at hs
  refine lv_iconst (v := 0) hx hb dX5_offerBack_0 (by decide) ?_
  refine lv_istore (lv' := [(5, .int (0 : Int32)), (0, .ref (a 14)), (1, .int p1), (2, .int p2), (3, .int p3), (4, .int p4)]) hx hb dX5_offerBack_1 hl (by decide) rfl (fun ls hl => ?_)
  obtain ⟨n3, hs⟩ := loopC_iter hs
  have L3 : ∀ (n : Nat) (v3_5 : Int32) (z3 : XS), iterO (fun v => b_X5_offerBack_3 p1 p2 p3 p4 v.1 v.2) n (v3_5, z3) = some res → ∀ (H : Heap) (locs : List Loc), va_P g.1 vwCl (xW g a z3) H → va_S A s.heap H locs → ∀ ls : Array Slot, lv_has ls 7 [(0, .ref (a 14)), (1, .int p1), (2, .int p2), (3, .int p3), (4, .int p4), (5, .int v3_5)] → W p l e ({ frames := 3, cells := 0, slots := 0, locals := 65 } : Room) s m args below meth c H locs 0 0 (MQ below (RWv g (xW g a res) A) args s 0 0 A) (F0 m 3 ls []) := by
    intro n
    induction n with
    | zero => intro v3_5 z3 hs; exact (iterO_zero hs).elim
    | succ n ih3 =>
      intro v3_5 z3 hs H locs hP hS ls hl
      obtain ⟨y3, hs, hk3⟩ := iterO_succ hs
      have hs : b_X5_offerBack_3 p1 p2 p3 p4 v3_5 z3 = some y3 := hs
      unfold b_X5_offerBack_3 at hs
      refine lv_iload hx hb dX5_offerBack_3 (lv_at hl 5 rfl) ?_
      refine lv_aload_n hx hb dX5_offerBack_5 rfl (lv_at hl 0 rfl) ?_
      refine xg_5_0 hx hb hB hown hK hP dX5_offerBack_6 ?_
      refine xn_RX5_77 hx hb hB hown hK hP dX5_offerBack_9 ?_
      refine lv_icmp_ge (tgt := 92) hx hb dX5_offerBack_12 (by decide) (fun c1 => ?_) (fun c1 => ?_)
      · have hs := ifp c1 hs
        refine lv_aload_n hx hb dX5_offerBack_92 rfl (lv_at hl 0 rfl) ?_
        refine xg_5_3 hx hb hB hown hK hP dX5_offerBack_93 ?_
        refine lv_iload hx hb dX5_offerBack_96 (lv_at hl 4 rfl) ?_
        refine lv_iconst (v := 1) hx hb dX5_offerBack_98 (by decide) ?_
        refine cV_roi (As := [.int p4, .int (1 : Int32)]) (rest := []) hC (m_X1_numberOfIs l g a z3 p4 (1 : Int32)) (kv_of hB bw_17_12 bw_17_10 bw_17_11 bw_2_2 kd_X1_numberOfIs bw_17_9 rfl rfl ⟨Nat.le_of_ble_eq_true rfl, Nat.le_of_ble_eq_true rfl⟩) hK hP hP hS (xW_8 g a z3) rfl rfl hl.1 rfl (Nat.le_of_ble_eq_true rfl) dX5_offerBack_99 ⟨Nat.zero_le _, Nat.zero_le _⟩ (fun H locs hP hS => ?_)
        refine lv_istore (lv' := [(5, .int (t_X1_numberOfIs z3 p4 (1 : Int32))), (0, .ref (a 14)), (1, .int p1), (2, .int p2), (3, .int p3), (4, .int p4)]) hx hb dX5_offerBack_102 hl (by decide) rfl (fun ls hl => ?_)
        refine lv_aload_n hx hb dX5_offerBack_104 rfl (lv_at hl 1 rfl) ?_
        refine lv_iload_n hx hb dX5_offerBack_105 rfl (lv_at hl 3 rfl) ?_
        refine lv_iconst (v := 1) hx hb dX5_offerBack_106 (by decide) ?_
        refine cN_roi (As := [.int p2, .int (1 : Int32)]) (rest := [.ref (a 14)]) hC (m_X6_placeOfIs l g (xW g a z3) p2 (1 : Int32)) (kn_of (host := "NotionRounds") hB bw_15_14 bw_15_13 bw_1_2 kd_X6_placeOfIs (hK.2 _ (List.mem_of_getElem? (i := 24) rfl)) rfl rfl ⟨Nat.le_of_ble_eq_true rfl, Nat.le_of_ble_eq_true rfl⟩) hK hP hP hS rfl hl.1 rfl (Nat.le_of_ble_eq_true rfl) dX5_offerBack_107 ⟨Nat.zero_le _, Nat.zero_le _⟩ (fun H locs hP hS => ?_)
        refine lv_bipush (v := 7) hx hb dX5_offerBack_110 (by decide) ?_
        refine lv_iload_n hx hb dX5_offerBack_112 rfl (lv_at hl 2 rfl) ?_
        refine lv_iload hx hb dX5_offerBack_113 (lv_at hl 0 rfl) ?_
        refine cN_rol (As := [.int (7 : Int32), .int p1, .int (t_X1_numberOfIs z3 p4 (1 : Int32))]) (rest := [.int (t_X6_placeOfIs p2 (1 : Int32)), .ref (a 14)]) hC (m_X6_whyOfTwo l g (xW g a z3) (7 : Int32) p1 (t_X1_numberOfIs z3 p4 (1 : Int32))) (kn_of (host := "NotionRounds") hB bw_17_14 bw_17_13 bw_1_2 kd_X6_whyOfTwo (hK.2 _ (List.mem_of_getElem? (i := 34) rfl)) rfl rfl ⟨Nat.le_of_ble_eq_true rfl, Nat.le_of_ble_eq_true rfl⟩) hK hP hP hS rfl hl.1 rfl (Nat.le_of_ble_eq_true rfl) dX5_offerBack_115 ⟨Nat.zero_le _, Nat.zero_le _⟩ (fun H locs hP hS => ?_)
        obtain ⟨r2, e2, hs⟩ := Option.bind_eq_some_iff.mp hs
        refine cV_rwv (As := [.int (t_X6_placeOfIs p2 (1 : Int32)), .long (t_X6_whyOfTwo (7 : Int32) p1 (t_X1_numberOfIs z3 p4 (1 : Int32)))]) (rest := []) hC (m_X5_offer l g a z3 H.size (t_X6_placeOfIs p2 (1 : Int32)) (t_X6_whyOfTwo (7 : Int32) p1 (t_X1_numberOfIs z3 p4 (1 : Int32))) r2 e2) (kv_of hB bw_15_20 bw_15_18 bw_15_19 bw_2_6 kd_X5_offer bw_15_17 rfl rfl ⟨Nat.le_of_ble_eq_true rfl, Nat.le_of_ble_eq_true rfl⟩) hK hP (hD _) hA hS (xW_14 g a z3) rfl rfl hl.1 rfl (Nat.le_of_ble_eq_true rfl) dX5_offerBack_118 ⟨Nat.zero_le _, Nat.zero_le _⟩ (fun H locs hP hS => ?_)
        cases hs
        cases elim_inr hk3
        exact ret_rwv hx hb hr hlk hP hS dX5_offerBack_121
      · have hs := ifn c1 hs
        refine lv_aload_n hx hb dX5_offerBack_15 rfl (lv_at hl 0 rfl) ?_
        refine xg_5_0 hx hb hB hown hK hP dX5_offerBack_16 ?_
        refine lv_iload hx hb dX5_offerBack_19 (lv_at hl 5 rfl) ?_
        refine cV_roi (As := [.int v3_5]) (rest := []) hC (m_X3_sort l g a z3 v3_5) (kv_of hB bw_7_18 bw_7_16 bw_7_17 bw_1_14 kd_X3_sort bw_17_2 rfl rfl ⟨Nat.le_of_ble_eq_true rfl, Nat.le_of_ble_eq_true rfl⟩) hK hP hP hS (xW_1 g a z3) rfl rfl hl.1 rfl (Nat.le_of_ble_eq_true rfl) dX5_offerBack_21 ⟨Nat.zero_le _, Nat.zero_le _⟩ (fun H locs hP hS => ?_)
        refine lv_iconst (v := 4) hx hb dX5_offerBack_24 (by decide) ?_
        refine lv_icmp_ne (tgt := 86) hx hb dX5_offerBack_25 (by decide) (fun c3 => ?_) (fun c3 => ?_)
        · have hs := ifn c3 hs
          refine lv_iinc (v := (v3_5 + 1)) (lv' := [(5, .int (v3_5 + 1)), (0, .ref (a 14)), (1, .int p1), (2, .int p2), (3, .int p3), (4, .int p4)]) hx hb dX5_offerBack_86 hl (k := 5) rfl (by rfl) (by decide) rfl (fun ls hl => ?_)
          refine lv_goto (tgt := 3) hx hb dX5_offerBack_89 (by decide) ?_
          cases hs
          exact ih3 (v3_5 + 1) z3 hk3 _ _ hP hS _ (lv_sub hl [1, 2, 3, 4, 5, 0] rfl)
        · have hs := ifp c3 hs
          refine lv_aload_n hx hb dX5_offerBack_28 rfl (lv_at hl 0 rfl) ?_
          refine xg_5_2 hx hb hB hown hK hP dX5_offerBack_29 ?_
          refine lv_iload_n hx hb dX5_offerBack_32 rfl (lv_at hl 3 rfl) ?_
          refine lv_aload_n hx hb dX5_offerBack_33 rfl (lv_at hl 0 rfl) ?_
          refine xg_5_0 hx hb hB hown hK hP dX5_offerBack_34 ?_
          refine lv_iload hx hb dX5_offerBack_37 (lv_at hl 5 rfl) ?_
          refine cV_roi (As := [.int v3_5]) (rest := [.int p3, .ref (a 5)]) hC (m_X3_first l g a z3 v3_5) (kv_of hB bw_8_4 bw_8_2 bw_8_3 bw_1_14 kd_X3_first bw_17_0 rfl rfl ⟨Nat.le_of_ble_eq_true rfl, Nat.le_of_ble_eq_true rfl⟩) hK hP hP hS (xW_1 g a z3) rfl rfl hl.1 rfl (Nat.le_of_ble_eq_true rfl) dX5_offerBack_39 ⟨Nat.zero_le _, Nat.zero_le _⟩ (fun H locs hP hS => ?_)
          refine cV_roi (As := [.int p3, .int (t_X3_first z3 v3_5)]) (rest := []) hC (m_X4_goesUnder l g a z3 p3 (t_X3_first z3 v3_5)) (kv_of hB bw_14_8 bw_14_6 bw_14_7 bw_1_22 kd_X4_goesUnder bw_18_2 rfl rfl ⟨Nat.le_of_ble_eq_true rfl, Nat.le_of_ble_eq_true rfl⟩) hK hP hP hS (xW_5 g a z3) rfl rfl hl.1 rfl (Nat.le_of_ble_eq_true rfl) dX5_offerBack_42 ⟨Nat.zero_le _, Nat.zero_le _⟩ (fun H locs hP hS => ?_)
          refine lv_if_eq (tgt := 86) hx hb dX5_offerBack_45 (by decide) (fun c4 => ?_) (fun c4 => ?_)
          · have hs := ifp c4 hs
            refine lv_iinc (v := (v3_5 + 1)) (lv' := [(5, .int (v3_5 + 1)), (0, .ref (a 14)), (1, .int p1), (2, .int p2), (3, .int p3), (4, .int p4)]) hx hb dX5_offerBack_86 hl (k := 5) rfl (by rfl) (by decide) rfl (fun ls hl => ?_)
            refine lv_goto (tgt := 3) hx hb dX5_offerBack_89 (by decide) ?_
            cases hs
            exact ih3 (v3_5 + 1) z3 hk3 _ _ hP hS _ (lv_sub hl [1, 2, 3, 4, 5, 0] rfl)
          · have hs := ifn c4 hs
            refine lv_aload_n hx hb dX5_offerBack_48 rfl (lv_at hl 0 rfl) ?_
            refine xg_5_3 hx hb hB hown hK hP dX5_offerBack_49 ?_
            refine lv_iload hx hb dX5_offerBack_52 (lv_at hl 4 rfl) ?_
            refine lv_aload_n hx hb dX5_offerBack_54 rfl (lv_at hl 0 rfl) ?_
            refine xg_5_0 hx hb hB hown hK hP dX5_offerBack_55 ?_
            refine lv_iload hx hb dX5_offerBack_58 (lv_at hl 5 rfl) ?_
            refine cV_roi (As := [.int v3_5]) (rest := [.int p4, .ref (a 8)]) hC (m_X3_second l g a z3 v3_5) (kv_of hB bw_8_8 bw_8_6 bw_8_7 bw_1_14 kd_X3_second bw_17_1 rfl rfl ⟨Nat.le_of_ble_eq_true rfl, Nat.le_of_ble_eq_true rfl⟩) hK hP hP hS (xW_1 g a z3) rfl rfl hl.1 rfl (Nat.le_of_ble_eq_true rfl) dX5_offerBack_60 ⟨Nat.zero_le _, Nat.zero_le _⟩ (fun H locs hP hS => ?_)
            refine cV_roi (As := [.int p4, .int (t_X3_second z3 v3_5)]) (rest := []) hC (m_X1_numberOfIs l g a z3 p4 (t_X3_second z3 v3_5)) (kv_of hB bw_17_12 bw_17_10 bw_17_11 bw_2_2 kd_X1_numberOfIs bw_17_9 rfl rfl ⟨Nat.le_of_ble_eq_true rfl, Nat.le_of_ble_eq_true rfl⟩) hK hP hP hS (xW_8 g a z3) rfl rfl hl.1 rfl (Nat.le_of_ble_eq_true rfl) dX5_offerBack_63 ⟨Nat.zero_le _, Nat.zero_le _⟩ (fun H locs hP hS => ?_)
            refine lv_istore (lv' := [(6, .int (t_X1_numberOfIs z3 p4 (t_X3_second z3 v3_5))), (0, .ref (a 14)), (1, .int p1), (2, .int p2), (3, .int p3), (4, .int p4), (5, .int v3_5)]) hx hb dX5_offerBack_66 hl (by decide) rfl (fun ls hl => ?_)
            refine lv_aload_n hx hb dX5_offerBack_68 rfl (lv_at hl 1 rfl) ?_
            refine lv_iload_n hx hb dX5_offerBack_69 rfl (lv_at hl 3 rfl) ?_
            refine lv_iload hx hb dX5_offerBack_70 (lv_at hl 6 rfl) ?_
            refine cN_roi (As := [.int p2, .int v3_5]) (rest := [.ref (a 14)]) hC (m_X6_placeOfIs l g (xW g a z3) p2 v3_5) (kn_of (host := "NotionRounds") hB bw_15_14 bw_15_13 bw_1_2 kd_X6_placeOfIs (hK.2 _ (List.mem_of_getElem? (i := 24) rfl)) rfl rfl ⟨Nat.le_of_ble_eq_true rfl, Nat.le_of_ble_eq_true rfl⟩) hK hP hP hS rfl hl.1 rfl (Nat.le_of_ble_eq_true rfl) dX5_offerBack_72 ⟨Nat.zero_le _, Nat.zero_le _⟩ (fun H locs hP hS => ?_)
            refine lv_bipush (v := 6) hx hb dX5_offerBack_75 (by decide) ?_
            refine lv_iload_n hx hb dX5_offerBack_77 rfl (lv_at hl 2 rfl) ?_
            refine lv_iload hx hb dX5_offerBack_78 (lv_at hl 0 rfl) ?_
            refine cN_rol (As := [.int (6 : Int32), .int p1, .int (t_X1_numberOfIs z3 p4 (t_X3_second z3 v3_5))]) (rest := [.int (t_X6_placeOfIs p2 v3_5), .ref (a 14)]) hC (m_X6_whyOfTwo l g (xW g a z3) (6 : Int32) p1 (t_X1_numberOfIs z3 p4 (t_X3_second z3 v3_5))) (kn_of (host := "NotionRounds") hB bw_17_14 bw_17_13 bw_1_2 kd_X6_whyOfTwo (hK.2 _ (List.mem_of_getElem? (i := 34) rfl)) rfl rfl ⟨Nat.le_of_ble_eq_true rfl, Nat.le_of_ble_eq_true rfl⟩) hK hP hP hS rfl hl.1 rfl (Nat.le_of_ble_eq_true rfl) dX5_offerBack_80 ⟨Nat.zero_le _, Nat.zero_le _⟩ (fun H locs hP hS => ?_)
            obtain ⟨r5, e5, hs⟩ := Option.bind_eq_some_iff.mp hs
            refine cV_rwv (As := [.int (t_X6_placeOfIs p2 v3_5), .long (t_X6_whyOfTwo (6 : Int32) p1 (t_X1_numberOfIs z3 p4 (t_X3_second z3 v3_5)))]) (rest := []) hC (m_X5_offer l g a z3 H.size (t_X6_placeOfIs p2 v3_5) (t_X6_whyOfTwo (6 : Int32) p1 (t_X1_numberOfIs z3 p4 (t_X3_second z3 v3_5))) r5 e5) (kv_of hB bw_15_20 bw_15_18 bw_15_19 bw_2_6 kd_X5_offer bw_15_17 rfl rfl ⟨Nat.le_of_ble_eq_true rfl, Nat.le_of_ble_eq_true rfl⟩) hK hP (hD _) hA hS (xW_14 g a z3) rfl rfl hl.1 rfl (Nat.le_of_ble_eq_true rfl) dX5_offerBack_83 ⟨Nat.zero_le _, Nat.zero_le _⟩ (fun H locs hP hS => ?_)
            refine lv_iinc (v := (v3_5 + 1)) (lv' := [(5, .int (v3_5 + 1)), (6, .int (t_X1_numberOfIs z3 p4 (t_X3_second z3 v3_5))), (0, .ref (a 14)), (1, .int p1), (2, .int p2), (3, .int p3), (4, .int p4)]) hx hb dX5_offerBack_86 hl (k := 6) rfl (by rfl) (by decide) rfl (fun ls hl => ?_)
            refine lv_goto (tgt := 3) hx hb dX5_offerBack_89 (by decide) ?_
            cases hs
            exact ih3 (v3_5 + 1) r5 hk3 _ _ hP hS _ (lv_sub hl [2, 3, 4, 5, 6, 0] rfl)
  exact L3 n3 (0 : Int32) st hs _ _ hP hS _ (lv_sub hl [1, 2, 3, 4, 5, 0] rfl)
def t_X1_numberOfTo (st : XS) (p1 : Int32) (p2 : Int32) (p3 : Int32) : Int32 :=
  (t_X6_at 2000 (st.1 9) (t_X6_placeOfTo p1 p2 p3))
set_option maxHeartbeats 4000000 in
set_option maxRecDepth 100000 in
theorem m_X1_numberOfTo (l : Launch) (g : GG) (a : Nat → Nat) (st : XS) (p1 : Int32) (p2 : Int32) (p3 : Int32) : Met l yX1_numberOfTo (Cond.code yX1_numberOfTo cX1_numberOfTo 4 (some .int) :: BIG) ({ frames := 1, cells := 0, slots := 0, locals := 22 } : Room) (va_Pc [.ref (a 8), .int p1, .int p2, .int p3] (ROp g (xW g a st))) (ROi (t_X1_numberOfTo st p1 p2 p3)) 0 0 (fun _ => False) := by
  obtain ⟨res, hs⟩ : ∃ z, t_X1_numberOfTo st p1 p2 p3 = z := ⟨_, rfl⟩
  rw [hs]
  refine ro_start (cc := cX1_numberOfTo) (maxL := 4) (ret := (some .int)) (lv := [(0, .ref (a 8)), (1, .int p1), (2, .int p2), (3, .int p3)]) (by decide) rfl (Nat.le_of_ble_eq_true rfl) rfl ?_
  intro p e s m args below meth c hx hb hml hr hts hown hlk hK H locs hP hS ls hl
  have hB : ∀ w ∈ BIG, w.before args s = true := fun w h => hts w (List.mem_cons_of_mem _ h)
  have hC : CallFix p m c cX1_numberOfTo 4 s args BIG RX1 := ⟨hx, hb, hml, hown, hB⟩
  unfold t_X1_numberOfTo at hs
  refine lv_aload_n hx hb dX1_numberOfTo_0 rfl (lv_at hl 0 rfl) ?_
  refine xg_1_0 hx hb hB hown hK hP dX1_numberOfTo_1 ?_
  refine lv_iload_n hx hb dX1_numberOfTo_4 rfl (lv_at hl 1 rfl) ?_
  refine lv_iload_n hx hb dX1_numberOfTo_5 rfl (lv_at hl 2 rfl) ?_
  refine lv_iload_n hx hb dX1_numberOfTo_6 rfl (lv_at hl 3 rfl) ?_
  refine cN_roi (As := [.int p1, .int p2, .int p3]) (rest := [.ref (a 9)]) hC (m_X6_placeOfTo l g (xW g a st) p1 p2 p3) (kn_of (host := "NotionRounds") hB bw_17_4 bw_17_3 bw_1_2 kd_X6_placeOfTo (hK.2 _ (List.mem_of_getElem? (i := 35) rfl)) rfl rfl ⟨Nat.le_of_ble_eq_true rfl, Nat.le_of_ble_eq_true rfl⟩) hK hP hP hS rfl hl.1 rfl (Nat.le_of_ble_eq_true rfl) dX1_numberOfTo_7 ⟨Nat.zero_le _, Nat.zero_le _⟩ (fun H locs hP hS => ?_)
  refine cN_roi (As := [.ref (a 9), .int (t_X6_placeOfTo p1 p2 p3)]) (rest := []) hC (m_X6_at l g (xW g a st) 9 2000 (st.1 9) (a 9) (xW_9 g a st) (by decide) (t_X6_placeOfTo p1 p2 p3)) (kn_of (host := "NotionRounds") hB bw_8_0 bw_7_23 bw_1_2 kd_X6_at (hK.2 _ (List.mem_of_getElem? (i := 27) rfl)) rfl rfl ⟨Nat.le_of_ble_eq_true rfl, Nat.le_of_ble_eq_true rfl⟩) hK hP hP hS rfl hl.1 rfl (Nat.le_of_ble_eq_true rfl) dX1_numberOfTo_10 ⟨Nat.zero_le _, Nat.zero_le _⟩ (fun H locs hP hS => ?_)
  subst hs
  exact ret_roi hx hb hr hlk hS dX1_numberOfTo_13
