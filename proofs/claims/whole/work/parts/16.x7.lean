def t_X1_secondPremise (st : XS) (p1 : Int32) : Int32 :=
  ((t_X6_partOfWhy (t_X6_longAt 2000 (st.2 12) p1) (6 : Int32) (11 : Int32)) - (1 : Int32))
set_option maxHeartbeats 4000000 in
set_option maxRecDepth 100000 in
theorem m_X1_secondPremise (l : Launch) (g : GG) (a : Nat → Nat) (st : XS) (p1 : Int32) : Met l yX1_secondPremise (Cond.code yX1_secondPremise cX1_secondPremise 2 (some .int) :: BIG) ({ frames := 1, cells := 0, slots := 0, locals := 23 } : Room) (va_Pc [.ref (a 8), .int p1] (ROp g (xW g a st))) (ROi (t_X1_secondPremise st p1)) 0 0 (fun _ => False) := by
  obtain ⟨res, hs⟩ : ∃ z, t_X1_secondPremise st p1 = z := ⟨_, rfl⟩
  rw [hs]
  refine ro_start (cc := cX1_secondPremise) (maxL := 2) (ret := (some .int)) (lv := [(0, .ref (a 8)), (1, .int p1)]) (by decide) rfl (Nat.le_of_ble_eq_true rfl) rfl ?_
  intro p e s m args below meth c hx hb hml hr hts hown hlk hK H locs hP hS ls hl
  have hB : ∀ w ∈ BIG, w.before args s = true := fun w h => hts w (List.mem_cons_of_mem _ h)
  have hC : CallFix p m c cX1_secondPremise 2 s args BIG RX1 := ⟨hx, hb, hml, hown, hB⟩
  unfold t_X1_secondPremise at hs
  refine lv_aload_n hx hb dX1_secondPremise_0 rfl (lv_at hl 0 rfl) ?_
  refine xg_1_3 hx hb hB hown hK hP dX1_secondPremise_1 ?_
  refine lv_iload_n hx hb dX1_secondPremise_4 rfl (lv_at hl 1 rfl) ?_
  refine cN_rol (As := [.ref (a 12), .int p1]) (rest := []) hC (m_X6_longAt l g (xW g a st) 12 2000 (st.2 12) (a 12) (xW_12 g a st) (by decide) p1) (kn_of (host := "NotionRounds") hB bw_15_22 bw_15_21 bw_1_2 kd_X6_longAt (hK.2 _ (List.mem_of_getElem? (i := 50) rfl)) rfl rfl ⟨Nat.le_of_ble_eq_true rfl, Nat.le_of_ble_eq_true rfl⟩) hK hP hP hS rfl hl.1 rfl (Nat.le_of_ble_eq_true rfl) dX1_secondPremise_5 ⟨Nat.zero_le _, Nat.zero_le _⟩ (fun H locs hP hS => ?_)
  refine lv_bipush (v := 6) hx hb dX1_secondPremise_8 (by decide) ?_
  refine lv_bipush (v := 11) hx hb dX1_secondPremise_10 (by decide) ?_
  refine cN_roi (As := [.long (t_X6_longAt 2000 (st.2 12) p1), .int (6 : Int32), .int (11 : Int32)]) (rest := []) hC (m_X6_partOfWhy l g (xW g a st) (t_X6_longAt 2000 (st.2 12) p1) (6 : Int32) (11 : Int32)) (kn_of (host := "NotionRounds") hB bw_24_16 bw_24_15 bw_1_2 kd_X6_partOfWhy (hK.2 _ (List.mem_of_getElem? (i := 51) rfl)) rfl rfl ⟨Nat.le_of_ble_eq_true rfl, Nat.le_of_ble_eq_true rfl⟩) hK hP hP hS rfl hl.1 rfl (Nat.le_of_ble_eq_true rfl) dX1_secondPremise_12 ⟨Nat.zero_le _, Nat.zero_le _⟩ (fun H locs hP hS => ?_)
  refine lv_iconst (v := 1) hx hb dX1_secondPremise_15 (by decide) ?_
  refine lv_isub hx hb dX1_secondPremise_16 ?_
  subst hs
  exact ret_roi hx hb hr hlk hS dX1_secondPremise_17
def t_X1_part (st : XS) (p1 : Int32) (p2 : Int32) : Int32 :=
  (if p2 = 0 then (if (t_X6_roleAt (t_X1_placeOf st p1)) = (-1 : Int32) then (t_X6_oneIf (0 : Int32)) else (t_X6_oneIf (1 : Int32))) else (if p2 = 1 then (t_X6_subjectAt (t_X1_placeOf st p1)) else (if p2 = 2 then (t_X6_objectAt (t_X1_placeOf st p1)) else (if p2 = 3 then (t_X6_roleAt (t_X1_placeOf st p1)) else (if p2 = 4 then (t_X6_at 2000 (st.1 11) p1) else (if p2 = 5 then (((t_X6_longAt 2000 (st.2 12) p1) >>> ((28 : Int32).toInt64 &&& 63)).toInt32) else (if p2 = 6 then (t_X1_firstPremise st p1) else (if p2 = 7 then (t_X1_secondPremise st p1) else ((t_X6_partOfWhy (t_X6_longAt 2000 (st.2 12) p1) (0 : Int32) (6 : Int32)) - (1 : Int32))))))))))
set_option maxHeartbeats 4000000 in
set_option maxRecDepth 100000 in
theorem m_X1_part (l : Launch) (g : GG) (a : Nat → Nat) (st : XS) (p1 : Int32) (p2 : Int32) : Met l yX1_part (Cond.code yX1_part cX1_part 3 (some .int) :: BIG) ({ frames := 2, cells := 0, slots := 0, locals := 44 } : Room) (va_Pc [.ref (a 8), .int p1, .int p2] (ROp g (xW g a st))) (ROi (t_X1_part st p1 p2)) 0 0 (fun _ => False) := by
  obtain ⟨res, hs⟩ : ∃ z, t_X1_part st p1 p2 = z := ⟨_, rfl⟩
  rw [hs]
  refine ro_start (cc := cX1_part) (maxL := 3) (ret := (some .int)) (lv := [(0, .ref (a 8)), (1, .int p1), (2, .int p2)]) (by decide) rfl (Nat.le_of_ble_eq_true rfl) rfl ?_
  intro p e s m args below meth c hx hb hml hr hts hown hlk hK H locs hP hS ls hl
  have hB : ∀ w ∈ BIG, w.before args s = true := fun w h => hts w (List.mem_cons_of_mem _ h)
  have hC : CallFix p m c cX1_part 3 s args BIG RX1 := ⟨hx, hb, hml, hown, hB⟩
  unfold t_X1_part at hs
  refine lv_iload_n hx hb dX1_part_0 rfl (lv_at hl 2 rfl) ?_
  by_cases c1 : p2 = 0
  · have hs := ifp c1 hs
    refine lv_tableIn (tgt := 48) (off := 47) hx hb dX1_part_1 (by rw [sw_in (a := 0) c1 (by decide)]; decide) (by rw [sw_in (a := 0) c1 (by decide)]; decide) (by rw [sw_in (a := 0) c1 (by decide)]; rfl) (by decide) ?_
    refine lv_aload_n hx hb dX1_part_48 rfl (lv_at hl 0 rfl) ?_
    refine lv_iload_n hx hb dX1_part_49 rfl (lv_at hl 1 rfl) ?_
    refine cV_roi (As := [.int p1]) (rest := []) hC (m_X1_placeOf l g a st p1) (kv_of hB bw_16_13 bw_16_11 bw_16_12 bw_2_2 kd_X1_placeOf bw_24_8 rfl rfl ⟨Nat.le_of_ble_eq_true rfl, Nat.le_of_ble_eq_true rfl⟩) hK hP hP hS (xW_8 g a st) rfl rfl hl.1 rfl (Nat.le_of_ble_eq_true rfl) dX1_part_50 ⟨Nat.zero_le _, Nat.zero_le _⟩ (fun H locs hP hS => ?_)
    refine cN_roi (As := [.int (t_X1_placeOf st p1)]) (rest := []) hC (m_X6_roleAt l g (xW g a st) (t_X1_placeOf st p1)) (kn_of (host := "NotionRounds") hB bw_16_17 bw_16_16 bw_1_2 kd_X6_roleAt (hK.2 _ (List.mem_of_getElem? (i := 46) rfl)) rfl rfl ⟨Nat.le_of_ble_eq_true rfl, Nat.le_of_ble_eq_true rfl⟩) hK hP hP hS rfl hl.1 rfl (Nat.le_of_ble_eq_true rfl) dX1_part_53 ⟨Nat.zero_le _, Nat.zero_le _⟩ (fun H locs hP hS => ?_)
    refine lv_iconst (v := -1) hx hb dX1_part_56 (by decide) ?_
    refine lv_icmp_eq (tgt := 64) hx hb dX1_part_57 (by decide) (fun c2 => ?_) (fun c2 => ?_)
    · have hs := ifp c2 hs
      refine lv_iconst (v := 0) hx hb dX1_part_64 (by decide) ?_
      refine cN_roi (As := [.int (0 : Int32)]) (rest := []) hC (m_X6_oneIf l g (xW g a st) (0 : Int32)) (kn_of (host := "NotionRounds") hB bw_24_10 bw_24_9 bw_1_2 kd_X6_oneIf (hK.2 _ (List.mem_of_getElem? (i := 47) rfl)) rfl rfl ⟨Nat.le_of_ble_eq_true rfl, Nat.le_of_ble_eq_true rfl⟩) hK hP hP hS rfl hl.1 rfl (Nat.le_of_ble_eq_true rfl) dX1_part_65 ⟨Nat.zero_le _, Nat.zero_le _⟩ (fun H locs hP hS => ?_)
      subst hs
      exact ret_roi hx hb hr hlk hS dX1_part_68
    · have hs := ifn c2 hs
      refine lv_iconst (v := 1) hx hb dX1_part_60 (by decide) ?_
      refine lv_goto (tgt := 65) hx hb dX1_part_61 (by decide) ?_
      refine cN_roi (As := [.int (1 : Int32)]) (rest := []) hC (m_X6_oneIf l g (xW g a st) (1 : Int32)) (kn_of (host := "NotionRounds") hB bw_24_10 bw_24_9 bw_1_2 kd_X6_oneIf (hK.2 _ (List.mem_of_getElem? (i := 47) rfl)) rfl rfl ⟨Nat.le_of_ble_eq_true rfl, Nat.le_of_ble_eq_true rfl⟩) hK hP hP hS rfl hl.1 rfl (Nat.le_of_ble_eq_true rfl) dX1_part_65 ⟨Nat.zero_le _, Nat.zero_le _⟩ (fun H locs hP hS => ?_)
      subst hs
      exact ret_roi hx hb hr hlk hS dX1_part_68
  · have hs := ifn c1 hs
    by_cases c3 : p2 = 1
    · have hs := ifp c3 hs
      refine lv_tableIn (tgt := 69) (off := 68) hx hb dX1_part_1 (by rw [sw_in (a := 1) c3 (by decide)]; decide) (by rw [sw_in (a := 1) c3 (by decide)]; decide) (by rw [sw_in (a := 1) c3 (by decide)]; rfl) (by decide) ?_
      refine lv_aload_n hx hb dX1_part_69 rfl (lv_at hl 0 rfl) ?_
      refine lv_iload_n hx hb dX1_part_70 rfl (lv_at hl 1 rfl) ?_
      refine cV_roi (As := [.int p1]) (rest := []) hC (m_X1_placeOf l g a st p1) (kv_of hB bw_16_13 bw_16_11 bw_16_12 bw_2_2 kd_X1_placeOf bw_24_8 rfl rfl ⟨Nat.le_of_ble_eq_true rfl, Nat.le_of_ble_eq_true rfl⟩) hK hP hP hS (xW_8 g a st) rfl rfl hl.1 rfl (Nat.le_of_ble_eq_true rfl) dX1_part_71 ⟨Nat.zero_le _, Nat.zero_le _⟩ (fun H locs hP hS => ?_)
      refine cN_roi (As := [.int (t_X1_placeOf st p1)]) (rest := []) hC (m_X6_subjectAt l g (xW g a st) (t_X1_placeOf st p1)) (kn_of (host := "NotionRounds") hB bw_16_15 bw_16_14 bw_1_2 kd_X6_subjectAt (hK.2 _ (List.mem_of_getElem? (i := 48) rfl)) rfl rfl ⟨Nat.le_of_ble_eq_true rfl, Nat.le_of_ble_eq_true rfl⟩) hK hP hP hS rfl hl.1 rfl (Nat.le_of_ble_eq_true rfl) dX1_part_74 ⟨Nat.zero_le _, Nat.zero_le _⟩ (fun H locs hP hS => ?_)
      subst hs
      exact ret_roi hx hb hr hlk hS dX1_part_77
    · have hs := ifn c3 hs
      by_cases c4 : p2 = 2
      · have hs := ifp c4 hs
        refine lv_tableIn (tgt := 78) (off := 77) hx hb dX1_part_1 (by rw [sw_in (a := 2) c4 (by decide)]; decide) (by rw [sw_in (a := 2) c4 (by decide)]; decide) (by rw [sw_in (a := 2) c4 (by decide)]; rfl) (by decide) ?_
        refine lv_aload_n hx hb dX1_part_78 rfl (lv_at hl 0 rfl) ?_
        refine lv_iload_n hx hb dX1_part_79 rfl (lv_at hl 1 rfl) ?_
        refine cV_roi (As := [.int p1]) (rest := []) hC (m_X1_placeOf l g a st p1) (kv_of hB bw_16_13 bw_16_11 bw_16_12 bw_2_2 kd_X1_placeOf bw_24_8 rfl rfl ⟨Nat.le_of_ble_eq_true rfl, Nat.le_of_ble_eq_true rfl⟩) hK hP hP hS (xW_8 g a st) rfl rfl hl.1 rfl (Nat.le_of_ble_eq_true rfl) dX1_part_80 ⟨Nat.zero_le _, Nat.zero_le _⟩ (fun H locs hP hS => ?_)
        refine cN_roi (As := [.int (t_X1_placeOf st p1)]) (rest := []) hC (m_X6_objectAt l g (xW g a st) (t_X1_placeOf st p1)) (kn_of (host := "NotionRounds") hB bw_16_19 bw_16_18 bw_1_2 kd_X6_objectAt (hK.2 _ (List.mem_of_getElem? (i := 49) rfl)) rfl rfl ⟨Nat.le_of_ble_eq_true rfl, Nat.le_of_ble_eq_true rfl⟩) hK hP hP hS rfl hl.1 rfl (Nat.le_of_ble_eq_true rfl) dX1_part_83 ⟨Nat.zero_le _, Nat.zero_le _⟩ (fun H locs hP hS => ?_)
        subst hs
        exact ret_roi hx hb hr hlk hS dX1_part_86
      · have hs := ifn c4 hs
        by_cases c5 : p2 = 3
        · have hs := ifp c5 hs
          refine lv_tableIn (tgt := 87) (off := 86) hx hb dX1_part_1 (by rw [sw_in (a := 3) c5 (by decide)]; decide) (by rw [sw_in (a := 3) c5 (by decide)]; decide) (by rw [sw_in (a := 3) c5 (by decide)]; rfl) (by decide) ?_
          refine lv_aload_n hx hb dX1_part_87 rfl (lv_at hl 0 rfl) ?_
          refine lv_iload_n hx hb dX1_part_88 rfl (lv_at hl 1 rfl) ?_
          refine cV_roi (As := [.int p1]) (rest := []) hC (m_X1_placeOf l g a st p1) (kv_of hB bw_16_13 bw_16_11 bw_16_12 bw_2_2 kd_X1_placeOf bw_24_8 rfl rfl ⟨Nat.le_of_ble_eq_true rfl, Nat.le_of_ble_eq_true rfl⟩) hK hP hP hS (xW_8 g a st) rfl rfl hl.1 rfl (Nat.le_of_ble_eq_true rfl) dX1_part_89 ⟨Nat.zero_le _, Nat.zero_le _⟩ (fun H locs hP hS => ?_)
          refine cN_roi (As := [.int (t_X1_placeOf st p1)]) (rest := []) hC (m_X6_roleAt l g (xW g a st) (t_X1_placeOf st p1)) (kn_of (host := "NotionRounds") hB bw_16_17 bw_16_16 bw_1_2 kd_X6_roleAt (hK.2 _ (List.mem_of_getElem? (i := 46) rfl)) rfl rfl ⟨Nat.le_of_ble_eq_true rfl, Nat.le_of_ble_eq_true rfl⟩) hK hP hP hS rfl hl.1 rfl (Nat.le_of_ble_eq_true rfl) dX1_part_92 ⟨Nat.zero_le _, Nat.zero_le _⟩ (fun H locs hP hS => ?_)
          subst hs
          exact ret_roi hx hb hr hlk hS dX1_part_95
        · have hs := ifn c5 hs
          by_cases c6 : p2 = 4
          · have hs := ifp c6 hs
            refine lv_tableIn (tgt := 96) (off := 95) hx hb dX1_part_1 (by rw [sw_in (a := 4) c6 (by decide)]; decide) (by rw [sw_in (a := 4) c6 (by decide)]; decide) (by rw [sw_in (a := 4) c6 (by decide)]; rfl) (by decide) ?_
            refine lv_aload_n hx hb dX1_part_96 rfl (lv_at hl 0 rfl) ?_
            refine xg_1_2 hx hb hB hown hK hP dX1_part_97 ?_
            refine lv_iload_n hx hb dX1_part_100 rfl (lv_at hl 1 rfl) ?_
            refine cN_roi (As := [.ref (a 11), .int p1]) (rest := []) hC (m_X6_at l g (xW g a st) 11 2000 (st.1 11) (a 11) (xW_11 g a st) (by decide) p1) (kn_of (host := "NotionRounds") hB bw_8_0 bw_7_23 bw_1_2 kd_X6_at (hK.2 _ (List.mem_of_getElem? (i := 27) rfl)) rfl rfl ⟨Nat.le_of_ble_eq_true rfl, Nat.le_of_ble_eq_true rfl⟩) hK hP hP hS rfl hl.1 rfl (Nat.le_of_ble_eq_true rfl) dX1_part_101 ⟨Nat.zero_le _, Nat.zero_le _⟩ (fun H locs hP hS => ?_)
            subst hs
            exact ret_roi hx hb hr hlk hS dX1_part_104
          · have hs := ifn c6 hs
            by_cases c7 : p2 = 5
            · have hs := ifp c7 hs
              refine lv_tableIn (tgt := 105) (off := 104) hx hb dX1_part_1 (by rw [sw_in (a := 5) c7 (by decide)]; decide) (by rw [sw_in (a := 5) c7 (by decide)]; decide) (by rw [sw_in (a := 5) c7 (by decide)]; rfl) (by decide) ?_
              refine lv_aload_n hx hb dX1_part_105 rfl (lv_at hl 0 rfl) ?_
              refine xg_1_3 hx hb hB hown hK hP dX1_part_106 ?_
              refine lv_iload_n hx hb dX1_part_109 rfl (lv_at hl 1 rfl) ?_
              refine cN_rol (As := [.ref (a 12), .int p1]) (rest := []) hC (m_X6_longAt l g (xW g a st) 12 2000 (st.2 12) (a 12) (xW_12 g a st) (by decide) p1) (kn_of (host := "NotionRounds") hB bw_15_22 bw_15_21 bw_1_2 kd_X6_longAt (hK.2 _ (List.mem_of_getElem? (i := 50) rfl)) rfl rfl ⟨Nat.le_of_ble_eq_true rfl, Nat.le_of_ble_eq_true rfl⟩) hK hP hP hS rfl hl.1 rfl (Nat.le_of_ble_eq_true rfl) dX1_part_110 ⟨Nat.zero_le _, Nat.zero_le _⟩ (fun H locs hP hS => ?_)
              refine lv_bipush (v := 28) hx hb dX1_part_113 (by decide) ?_
              refine lv_lshr (v := ((t_X6_longAt 2000 (st.2 12) p1) >>> ((28 : Int32).toInt64 &&& 63))) hx hb dX1_part_115 rfl ?_
              refine lv_l2i (v := (((t_X6_longAt 2000 (st.2 12) p1) >>> ((28 : Int32).toInt64 &&& 63)).toInt32)) hx hb dX1_part_116 rfl ?_
              subst hs
              exact ret_roi hx hb hr hlk hS dX1_part_117
            · have hs := ifn c7 hs
              by_cases c8 : p2 = 6
              · have hs := ifp c8 hs
                refine lv_tableIn (tgt := 118) (off := 117) hx hb dX1_part_1 (by rw [sw_in (a := 6) c8 (by decide)]; decide) (by rw [sw_in (a := 6) c8 (by decide)]; decide) (by rw [sw_in (a := 6) c8 (by decide)]; rfl) (by decide) ?_
                refine lv_aload_n hx hb dX1_part_118 rfl (lv_at hl 0 rfl) ?_
                refine lv_iload_n hx hb dX1_part_119 rfl (lv_at hl 1 rfl) ?_
                refine cV_roi (As := [.int p1]) (rest := []) hC (m_X1_firstPremise l g a st p1) (kv_of hB bw_24_14 bw_24_12 bw_24_13 bw_2_2 kd_X1_firstPremise bw_24_11 rfl rfl ⟨Nat.le_of_ble_eq_true rfl, Nat.le_of_ble_eq_true rfl⟩) hK hP hP hS (xW_8 g a st) rfl rfl hl.1 rfl (Nat.le_of_ble_eq_true rfl) dX1_part_120 ⟨Nat.zero_le _, Nat.zero_le _⟩ (fun H locs hP hS => ?_)
                subst hs
                exact ret_roi hx hb hr hlk hS dX1_part_123
              · have hs := ifn c8 hs
                by_cases c9 : p2 = 7
                · have hs := ifp c9 hs
                  refine lv_tableIn (tgt := 124) (off := 123) hx hb dX1_part_1 (by rw [sw_in (a := 7) c9 (by decide)]; decide) (by rw [sw_in (a := 7) c9 (by decide)]; decide) (by rw [sw_in (a := 7) c9 (by decide)]; rfl) (by decide) ?_
                  refine lv_aload_n hx hb dX1_part_124 rfl (lv_at hl 0 rfl) ?_
                  refine lv_iload_n hx hb dX1_part_125 rfl (lv_at hl 1 rfl) ?_
                  refine cV_roi (As := [.int p1]) (rest := []) hC (m_X1_secondPremise l g a st p1) (kv_of hB bw_24_20 bw_24_18 bw_24_19 bw_2_2 kd_X1_secondPremise bw_24_17 rfl rfl ⟨Nat.le_of_ble_eq_true rfl, Nat.le_of_ble_eq_true rfl⟩) hK hP hP hS (xW_8 g a st) rfl rfl hl.1 rfl (Nat.le_of_ble_eq_true rfl) dX1_part_126 ⟨Nat.zero_le _, Nat.zero_le _⟩ (fun H locs hP hS => ?_)
                  subst hs
                  exact ret_roi hx hb hr hlk hS dX1_part_129
                · have hs := ifn c9 hs
                  have q1 := lv_neT (a := 0) c1 (by decide)
                  have q3 := lv_neT (a := 1) c3 (by decide)
                  have q4 := lv_neT (a := 2) c4 (by decide)
                  have q5 := lv_neT (a := 3) c5 (by decide)
                  have q6 := lv_neT (a := 4) c6 (by decide)
                  have q7 := lv_neT (a := 5) c7 (by decide)
                  have q8 := lv_neT (a := 6) c8 (by decide)
                  have q9 := lv_neT (a := 7) c9 (by decide)
                  refine lv_tableOut (tgt := 130) hx hb dX1_part_1 (by omega) (by decide) ?_
                  refine lv_aload_n hx hb dX1_part_130 rfl (lv_at hl 0 rfl) ?_
                  refine xg_1_3 hx hb hB hown hK hP dX1_part_131 ?_
                  refine lv_iload_n hx hb dX1_part_134 rfl (lv_at hl 1 rfl) ?_
                  refine cN_rol (As := [.ref (a 12), .int p1]) (rest := []) hC (m_X6_longAt l g (xW g a st) 12 2000 (st.2 12) (a 12) (xW_12 g a st) (by decide) p1) (kn_of (host := "NotionRounds") hB bw_15_22 bw_15_21 bw_1_2 kd_X6_longAt (hK.2 _ (List.mem_of_getElem? (i := 50) rfl)) rfl rfl ⟨Nat.le_of_ble_eq_true rfl, Nat.le_of_ble_eq_true rfl⟩) hK hP hP hS rfl hl.1 rfl (Nat.le_of_ble_eq_true rfl) dX1_part_135 ⟨Nat.zero_le _, Nat.zero_le _⟩ (fun H locs hP hS => ?_)
                  refine lv_iconst (v := 0) hx hb dX1_part_138 (by decide) ?_
                  refine lv_bipush (v := 6) hx hb dX1_part_139 (by decide) ?_
                  refine cN_roi (As := [.long (t_X6_longAt 2000 (st.2 12) p1), .int (0 : Int32), .int (6 : Int32)]) (rest := []) hC (m_X6_partOfWhy l g (xW g a st) (t_X6_longAt 2000 (st.2 12) p1) (0 : Int32) (6 : Int32)) (kn_of (host := "NotionRounds") hB bw_24_16 bw_24_15 bw_1_2 kd_X6_partOfWhy (hK.2 _ (List.mem_of_getElem? (i := 51) rfl)) rfl rfl ⟨Nat.le_of_ble_eq_true rfl, Nat.le_of_ble_eq_true rfl⟩) hK hP hP hS rfl hl.1 rfl (Nat.le_of_ble_eq_true rfl) dX1_part_141 ⟨Nat.zero_le _, Nat.zero_le _⟩ (fun H locs hP hS => ?_)
                  refine lv_iconst (v := 1) hx hb dX1_part_144 (by decide) ?_
                  refine lv_isub hx hb dX1_part_145 ?_
                  subst hs
                  exact ret_roi hx hb hr hlk hS dX1_part_146
def t_X6_conclusion (st : XS) (p1 : Int32) (p2 : Int32) : Int32 :=
  (if (st.1 36 0) = 0 then (-103 : Int32) else (if (t_X1_knows st p1) = 0 then (-101 : Int32) else (if (t_X6_within p2 (9 : Int32)) = 0 then (-102 : Int32) else (t_X1_part st p1 p2))))
set_option maxHeartbeats 4000000 in
set_option maxRecDepth 100000 in
theorem m_X6_conclusion (l : Launch) (g : GG) (a : Nat → Nat) (st : XS) (p1 : Int32) (p2 : Int32) : Met l yX6_conclusion (Cond.code yX6_conclusion cX6_conclusion 3 (some .int) :: BIG) ({ frames := 3, cells := 0, slots := 0, locals := 66 } : Room) (va_Pc [.ref (a 0), .int p1, .int p2] (ROp g (xW g a st))) (ROi (t_X6_conclusion st p1 p2)) 0 0 (fun _ => False) := by
  obtain ⟨res, hs⟩ : ∃ z, t_X6_conclusion st p1 p2 = z := ⟨_, rfl⟩
  rw [hs]
  refine ro_start (cc := cX6_conclusion) (maxL := 3) (ret := (some .int)) (lv := [(0, .ref (a 0)), (1, .int p1), (2, .int p2)]) (by decide) rfl (Nat.le_of_ble_eq_true rfl) rfl ?_
  intro p e s m args below meth c hx hb hml hr hts hown hlk hK H locs hP hS ls hl
  have hB : ∀ w ∈ BIG, w.before args s = true := fun w h => hts w (List.mem_cons_of_mem _ h)
  have hC : CallFix p m c cX6_conclusion 3 s args BIG RX6 := ⟨hx, hb, hml, hown, hB⟩
  unfold t_X6_conclusion at hs
  refine lv_aload_n hx hb dX6_conclusion_0 rfl (lv_at hl 0 rfl) ?_
  refine xg_6_7 hx hb hB hown hK hP dX6_conclusion_1 ?_
  refine lv_if_ne (tgt := 10) hx hb dX6_conclusion_4 (by decide) (fun c1 => ?_) (fun c1 => ?_)
  · have hs := ifn c1 hs
    refine lv_aload_n hx hb dX6_conclusion_10 rfl (lv_at hl 0 rfl) ?_
    refine xg_6_3 hx hb hB hown hK hP dX6_conclusion_11 ?_
    refine lv_iload_n hx hb dX6_conclusion_14 rfl (lv_at hl 1 rfl) ?_
    refine cV_roi (As := [.int p1]) (rest := []) hC (m_X1_knows l g a st p1) (kv_of hB bw_24_3 bw_24_1 bw_24_2 bw_2_2 kd_X1_knows bw_24_0 rfl rfl ⟨Nat.le_of_ble_eq_true rfl, Nat.le_of_ble_eq_true rfl⟩) hK hP hP hS (xW_8 g a st) rfl rfl hl.1 rfl (Nat.le_of_ble_eq_true rfl) dX6_conclusion_15 ⟨Nat.zero_le _, Nat.zero_le _⟩ (fun H locs hP hS => ?_)
    refine lv_if_ne (tgt := 24) hx hb dX6_conclusion_18 (by decide) (fun c2 => ?_) (fun c2 => ?_)
    · have hs := ifn c2 hs
      refine lv_iload_n hx hb dX6_conclusion_24 rfl (lv_at hl 2 rfl) ?_
      refine lv_bipush (v := 9) hx hb dX6_conclusion_25 (by decide) ?_
      refine cS_roi (As := [.int p2, .int (9 : Int32)]) (rest := []) hC (m_X6_within l g (xW g a st) p2 (9 : Int32)) (ks_of hB bw_7_6 bw_7_5 bw_1_2 kd_X6_within bw_9_7 rfl rfl ⟨Nat.le_of_ble_eq_true rfl, Nat.le_of_ble_eq_true rfl⟩) hK hP hP hS rfl hl.1 rfl (Nat.le_of_ble_eq_true rfl) dX6_conclusion_27 ⟨Nat.zero_le _, Nat.zero_le _⟩ (fun H locs hP hS => ?_)
      refine lv_if_ne (tgt := 36) hx hb dX6_conclusion_30 (by decide) (fun c3 => ?_) (fun c3 => ?_)
      · have hs := ifn c3 hs
        refine lv_aload_n hx hb dX6_conclusion_36 rfl (lv_at hl 0 rfl) ?_
        refine xg_6_3 hx hb hB hown hK hP dX6_conclusion_37 ?_
        refine lv_iload_n hx hb dX6_conclusion_40 rfl (lv_at hl 1 rfl) ?_
        refine lv_iload_n hx hb dX6_conclusion_41 rfl (lv_at hl 2 rfl) ?_
        refine cV_roi (As := [.int p1, .int p2]) (rest := []) hC (m_X1_part l g a st p1 p2) (kv_of hB bw_24_7 bw_24_5 bw_24_6 bw_2_2 kd_X1_part bw_24_4 rfl rfl ⟨Nat.le_of_ble_eq_true rfl, Nat.le_of_ble_eq_true rfl⟩) hK hP hP hS (xW_8 g a st) rfl rfl hl.1 rfl (Nat.le_of_ble_eq_true rfl) dX6_conclusion_42 ⟨Nat.zero_le _, Nat.zero_le _⟩ (fun H locs hP hS => ?_)
        subst hs
        exact ret_roi hx hb hr hlk hS dX6_conclusion_45
      · have hs := ifp c3 hs
        refine lv_bipush (v := -102) hx hb dX6_conclusion_33 (by decide) ?_
        subst hs
        exact ret_roi hx hb hr hlk hS dX6_conclusion_35
    · have hs := ifp c2 hs
      refine lv_bipush (v := -101) hx hb dX6_conclusion_21 (by decide) ?_
      subst hs
      exact ret_roi hx hb hr hlk hS dX6_conclusion_23
  · have hs := ifp c1 hs
    refine lv_bipush (v := -103) hx hb dX6_conclusion_7 (by decide) ?_
    subst hs
    exact ret_roi hx hb hr hlk hS dX6_conclusion_9
def t_X6_is (st : XS) (p1 : Int32) (p2 : Int32) : Int32 :=
  (if (st.1 36 0) = 0 then (-103 : Int32) else (if (t_X3_knows st p1) = 0 then (-101 : Int32) else (if (t_X3_knows st p2) = 0 then (-101 : Int32) else (t_X1_numberOfIs st p1 p2))))
set_option maxHeartbeats 4000000 in
set_option maxRecDepth 100000 in
theorem m_X6_is (l : Launch) (g : GG) (a : Nat → Nat) (st : XS) (p1 : Int32) (p2 : Int32) : Met l yX6_is (Cond.code yX6_is cX6_is 3 (some .int) :: BIG) ({ frames := 2, cells := 0, slots := 0, locals := 43 } : Room) (va_Pc [.ref (a 0), .int p1, .int p2] (ROp g (xW g a st))) (ROi (t_X6_is st p1 p2)) 0 0 (fun _ => False) := by
  obtain ⟨res, hs⟩ : ∃ z, t_X6_is st p1 p2 = z := ⟨_, rfl⟩
  rw [hs]
  refine ro_start (cc := cX6_is) (maxL := 3) (ret := (some .int)) (lv := [(0, .ref (a 0)), (1, .int p1), (2, .int p2)]) (by decide) rfl (Nat.le_of_ble_eq_true rfl) rfl ?_
  intro p e s m args below meth c hx hb hml hr hts hown hlk hK H locs hP hS ls hl
  have hB : ∀ w ∈ BIG, w.before args s = true := fun w h => hts w (List.mem_cons_of_mem _ h)
  have hC : CallFix p m c cX6_is 3 s args BIG RX6 := ⟨hx, hb, hml, hown, hB⟩
  unfold t_X6_is at hs
  refine lv_aload_n hx hb dX6_is_0 rfl (lv_at hl 0 rfl) ?_
  refine xg_6_7 hx hb hB hown hK hP dX6_is_1 ?_
  refine lv_if_ne (tgt := 10) hx hb dX6_is_4 (by decide) (fun c1 => ?_) (fun c1 => ?_)
  · have hs := ifn c1 hs
    refine lv_aload_n hx hb dX6_is_10 rfl (lv_at hl 0 rfl) ?_
    refine xg_6_0 hx hb hB hown hK hP dX6_is_11 ?_
    refine lv_iload_n hx hb dX6_is_14 rfl (lv_at hl 1 rfl) ?_
    refine cV_roi (As := [.int p1]) (rest := []) hC (m_X3_knows l g a st p1) (kv_of hB bw_7_4 bw_7_2 bw_7_3 bw_1_14 kd_X3_knows bw_7_1 rfl rfl ⟨Nat.le_of_ble_eq_true rfl, Nat.le_of_ble_eq_true rfl⟩) hK hP hP hS (xW_1 g a st) rfl rfl hl.1 rfl (Nat.le_of_ble_eq_true rfl) dX6_is_15 ⟨Nat.zero_le _, Nat.zero_le _⟩ (fun H locs hP hS => ?_)
    refine lv_if_eq (tgt := 32) hx hb dX6_is_18 (by decide) (fun c2 => ?_) (fun c2 => ?_)
    · have hs := ifp c2 hs
      refine lv_bipush (v := -101) hx hb dX6_is_32 (by decide) ?_
      subst hs
      exact ret_roi hx hb hr hlk hS dX6_is_34
    · have hs := ifn c2 hs
      refine lv_aload_n hx hb dX6_is_21 rfl (lv_at hl 0 rfl) ?_
      refine xg_6_0 hx hb hB hown hK hP dX6_is_22 ?_
      refine lv_iload_n hx hb dX6_is_25 rfl (lv_at hl 2 rfl) ?_
      refine cV_roi (As := [.int p2]) (rest := []) hC (m_X3_knows l g a st p2) (kv_of hB bw_7_4 bw_7_2 bw_7_3 bw_1_14 kd_X3_knows bw_7_1 rfl rfl ⟨Nat.le_of_ble_eq_true rfl, Nat.le_of_ble_eq_true rfl⟩) hK hP hP hS (xW_1 g a st) rfl rfl hl.1 rfl (Nat.le_of_ble_eq_true rfl) dX6_is_26 ⟨Nat.zero_le _, Nat.zero_le _⟩ (fun H locs hP hS => ?_)
      refine lv_if_ne (tgt := 35) hx hb dX6_is_29 (by decide) (fun c3 => ?_) (fun c3 => ?_)
      · have hs := ifn c3 hs
        refine lv_aload_n hx hb dX6_is_35 rfl (lv_at hl 0 rfl) ?_
        refine xg_6_3 hx hb hB hown hK hP dX6_is_36 ?_
        refine lv_iload_n hx hb dX6_is_39 rfl (lv_at hl 1 rfl) ?_
        refine lv_iload_n hx hb dX6_is_40 rfl (lv_at hl 2 rfl) ?_
        refine cV_roi (As := [.int p1, .int p2]) (rest := []) hC (m_X1_numberOfIs l g a st p1 p2) (kv_of hB bw_17_12 bw_17_10 bw_17_11 bw_2_2 kd_X1_numberOfIs bw_25_5 rfl rfl ⟨Nat.le_of_ble_eq_true rfl, Nat.le_of_ble_eq_true rfl⟩) hK hP hP hS (xW_8 g a st) rfl rfl hl.1 rfl (Nat.le_of_ble_eq_true rfl) dX6_is_41 ⟨Nat.zero_le _, Nat.zero_le _⟩ (fun H locs hP hS => ?_)
        subst hs
        exact ret_roi hx hb hr hlk hS dX6_is_44
      · have hs := ifp c3 hs
        refine lv_bipush (v := -101) hx hb dX6_is_32 (by decide) ?_
        subst hs
        exact ret_roi hx hb hr hlk hS dX6_is_34
  · have hs := ifp c1 hs
    refine lv_bipush (v := -103) hx hb dX6_is_7 (by decide) ?_
    subst hs
    exact ret_roi hx hb hr hlk hS dX6_is_9
def t_X6_to (st : XS) (p1 : Int32) (p2 : Int32) (p3 : Int32) : Int32 :=
  (if (st.1 36 0) = 0 then (-103 : Int32) else (if (t_X3_knows st p1) = 0 then (-101 : Int32) else (if (t_X3_knows st p3) = 0 then (-101 : Int32) else (if (t_X6_isRole p2) = 0 then (-102 : Int32) else (t_X1_numberOfTo st p1 p2 p3)))))
set_option maxHeartbeats 4000000 in
set_option maxRecDepth 100000 in
theorem m_X6_to (l : Launch) (g : GG) (a : Nat → Nat) (st : XS) (p1 : Int32) (p2 : Int32) (p3 : Int32) : Met l yX6_to (Cond.code yX6_to cX6_to 4 (some .int) :: BIG) ({ frames := 2, cells := 0, slots := 0, locals := 45 } : Room) (va_Pc [.ref (a 0), .int p1, .int p2, .int p3] (ROp g (xW g a st))) (ROi (t_X6_to st p1 p2 p3)) 0 0 (fun _ => False) := by
  obtain ⟨res, hs⟩ : ∃ z, t_X6_to st p1 p2 p3 = z := ⟨_, rfl⟩
  rw [hs]
  refine ro_start (cc := cX6_to) (maxL := 4) (ret := (some .int)) (lv := [(0, .ref (a 0)), (1, .int p1), (2, .int p2), (3, .int p3)]) (by decide) rfl (Nat.le_of_ble_eq_true rfl) rfl ?_
  intro p e s m args below meth c hx hb hml hr hts hown hlk hK H locs hP hS ls hl
  have hB : ∀ w ∈ BIG, w.before args s = true := fun w h => hts w (List.mem_cons_of_mem _ h)
  have hC : CallFix p m c cX6_to 4 s args BIG RX6 := ⟨hx, hb, hml, hown, hB⟩
  unfold t_X6_to at hs
  refine lv_aload_n hx hb dX6_to_0 rfl (lv_at hl 0 rfl) ?_
  refine xg_6_7 hx hb hB hown hK hP dX6_to_1 ?_
  refine lv_if_ne (tgt := 10) hx hb dX6_to_4 (by decide) (fun c1 => ?_) (fun c1 => ?_)
  · have hs := ifn c1 hs
    refine lv_aload_n hx hb dX6_to_10 rfl (lv_at hl 0 rfl) ?_
    refine xg_6_0 hx hb hB hown hK hP dX6_to_11 ?_
    refine lv_iload_n hx hb dX6_to_14 rfl (lv_at hl 1 rfl) ?_
    refine cV_roi (As := [.int p1]) (rest := []) hC (m_X3_knows l g a st p1) (kv_of hB bw_7_4 bw_7_2 bw_7_3 bw_1_14 kd_X3_knows bw_7_1 rfl rfl ⟨Nat.le_of_ble_eq_true rfl, Nat.le_of_ble_eq_true rfl⟩) hK hP hP hS (xW_1 g a st) rfl rfl hl.1 rfl (Nat.le_of_ble_eq_true rfl) dX6_to_15 ⟨Nat.zero_le _, Nat.zero_le _⟩ (fun H locs hP hS => ?_)
    refine lv_if_eq (tgt := 32) hx hb dX6_to_18 (by decide) (fun c2 => ?_) (fun c2 => ?_)
    · have hs := ifp c2 hs
      refine lv_bipush (v := -101) hx hb dX6_to_32 (by decide) ?_
      subst hs
      exact ret_roi hx hb hr hlk hS dX6_to_34
    · have hs := ifn c2 hs
      refine lv_aload_n hx hb dX6_to_21 rfl (lv_at hl 0 rfl) ?_
      refine xg_6_0 hx hb hB hown hK hP dX6_to_22 ?_
      refine lv_iload_n hx hb dX6_to_25 rfl (lv_at hl 3 rfl) ?_
      refine cV_roi (As := [.int p3]) (rest := []) hC (m_X3_knows l g a st p3) (kv_of hB bw_7_4 bw_7_2 bw_7_3 bw_1_14 kd_X3_knows bw_7_1 rfl rfl ⟨Nat.le_of_ble_eq_true rfl, Nat.le_of_ble_eq_true rfl⟩) hK hP hP hS (xW_1 g a st) rfl rfl hl.1 rfl (Nat.le_of_ble_eq_true rfl) dX6_to_26 ⟨Nat.zero_le _, Nat.zero_le _⟩ (fun H locs hP hS => ?_)
      refine lv_if_ne (tgt := 35) hx hb dX6_to_29 (by decide) (fun c3 => ?_) (fun c3 => ?_)
      · have hs := ifn c3 hs
        refine lv_iload_n hx hb dX6_to_35 rfl (lv_at hl 2 rfl) ?_
        refine cS_roi (As := [.int p2]) (rest := []) hC (m_X6_isRole l g (xW g a st) p2) (ks_of hB bw_9_6 bw_9_5 bw_1_2 kd_X6_isRole bw_9_4 rfl rfl ⟨Nat.le_of_ble_eq_true rfl, Nat.le_of_ble_eq_true rfl⟩) hK hP hP hS rfl hl.1 rfl (Nat.le_of_ble_eq_true rfl) dX6_to_36 ⟨Nat.zero_le _, Nat.zero_le _⟩ (fun H locs hP hS => ?_)
        refine lv_if_ne (tgt := 45) hx hb dX6_to_39 (by decide) (fun c4 => ?_) (fun c4 => ?_)
        · have hs := ifn c4 hs
          refine lv_aload_n hx hb dX6_to_45 rfl (lv_at hl 0 rfl) ?_
          refine xg_6_3 hx hb hB hown hK hP dX6_to_46 ?_
          refine lv_iload_n hx hb dX6_to_49 rfl (lv_at hl 1 rfl) ?_
          refine lv_iload_n hx hb dX6_to_50 rfl (lv_at hl 2 rfl) ?_
          refine lv_iload_n hx hb dX6_to_51 rfl (lv_at hl 3 rfl) ?_
          refine cV_roi (As := [.int p1, .int p2, .int p3]) (rest := []) hC (m_X1_numberOfTo l g a st p1 p2 p3) (kv_of hB bw_18_11 bw_18_9 bw_18_10 bw_2_2 kd_X1_numberOfTo bw_25_14 rfl rfl ⟨Nat.le_of_ble_eq_true rfl, Nat.le_of_ble_eq_true rfl⟩) hK hP hP hS (xW_8 g a st) rfl rfl hl.1 rfl (Nat.le_of_ble_eq_true rfl) dX6_to_52 ⟨Nat.zero_le _, Nat.zero_le _⟩ (fun H locs hP hS => ?_)
          subst hs
          exact ret_roi hx hb hr hlk hS dX6_to_55
        · have hs := ifp c4 hs
          refine lv_bipush (v := -102) hx hb dX6_to_42 (by decide) ?_
          subst hs
          exact ret_roi hx hb hr hlk hS dX6_to_44
      · have hs := ifp c3 hs
        refine lv_bipush (v := -101) hx hb dX6_to_32 (by decide) ?_
        subst hs
        exact ret_roi hx hb hr hlk hS dX6_to_34
  · have hs := ifp c1 hs
    refine lv_bipush (v := -103) hx hb dX6_to_7 (by decide) ?_
    subst hs
    exact ret_roi hx hb hr hlk hS dX6_to_9
noncomputable def b_X1_proofSize_21 (v21_2 : Int32) (v21_3 : Int32) (z21 : XS) : Option ((Int32 × Int32 × XS) ⊕ (Int32 × XS)) :=
  (if v21_3 < 0 then some (Sum.inr ((v21_2, z21))) else (if (t_X6_at 2000 (z21.1 13) v21_3) = (1 : Int32) then (Option.bind (some (sA z21 13 (t_X6_put 2000 (z21.1 13) (t_X1_firstPremise z21 v21_3) (1 : Int32)))) (fun r5 => (Option.bind (some (sA r5 13 (t_X6_put 2000 (r5.1 13) (t_X1_secondPremise r5 v21_3) (1 : Int32)))) (fun r6 => some (Sum.inl ((v21_2 + 1), (v21_3 + (-1)), r6)))))) else some (Sum.inl (v21_2, (v21_3 + (-1)), z21))))
noncomputable def f_X1_proofSize (st : XS) (p1 : Int32) : Option (Int32 × XS) :=
  (Option.bind ((f_X6_fill 2000 (st.1 13) (0 : Int32)).map (sA st 13)) (fun r1 => (Option.bind (some (sA r1 13 (t_X6_put 2000 (r1.1 13) p1 (1 : Int32)))) (fun r2 => (loopC (fun v => b_X1_proofSize_21 v.1 v.2.1 v.2.2) ((0 : Int32), p1, r2))))))
set_option maxHeartbeats 4000000 in
set_option maxRecDepth 100000 in
theorem m_X1_proofSize (l : Launch) (g : GG) (a : Nat → Nat) (st : XS) (sz : Nat) (p1 : Int32) (res : (Int32 × XS)) (hs : f_X1_proofSize st p1 = some res) : Met l yX1_proofSize (Cond.code yX1_proofSize cX1_proofSize 4 (some .int) :: BIG) ({ frames := 2, cells := 0, slots := 0, locals := 44 } : Room) (va_Pc [.ref (a 8), .int p1] (RWp g (xW g a st) sz)) (RWi res.1 g (xW g a res.2) (va_A (xW g a st) sz)) 0 0 (va_A (xW g a st) sz) := by
  refine rw_start (cc := cX1_proofSize) (maxL := 4) (ret := (some .int)) (lv := [(0, .ref (a 8)), (1, .int p1)]) (Qc := fun A => (RWi res.1 g (xW g a res.2) A)) (by decide) rfl (Nat.le_of_ble_eq_true rfl) rfl ?_
  intro p e s m args below meth c hx hb hml hr hts hown hlk hK A hD0 hA H locs hP hS ls hl
  have hD : ∀ st' : XS, va_D A (xW g a st') := fun _ => xW_D hD0
  have hB : ∀ w ∈ BIG, w.before args s = true := fun w h => hts w (List.mem_cons_of_mem _ h)
  have hC : CallFix p m c cX1_proofSize 4 s args BIG RX1 := ⟨hx, hb, hml, hown, hB⟩
  unfold f_X1_proofSize at hs
  refine lv_aload_n hx hb dX1_proofSize_0 rfl (lv_at hl 0 rfl) ?_
  refine xg_1_4 hx hb hB hown hK hP dX1_proofSize_1 ?_
  refine lv_iconst (v := 0) hx hb dX1_proofSize_4 (by decide) ?_
  obtain ⟨r1, e1, hs⟩ := Option.bind_eq_some_iff.mp hs
  refine cN_rwv (As := [.ref (a 13), .int (0 : Int32)]) (rest := []) hC (m_X6_fill_13 l g a st r1 H.size (0 : Int32) e1) (kn_of (host := "NotionRounds") hB bw_13_15 bw_13_14 bw_1_2 kd_X6_fill (hK.2 _ (List.mem_of_getElem? (i := 20) rfl)) rfl rfl ⟨Nat.le_of_ble_eq_true rfl, Nat.le_of_ble_eq_true rfl⟩) hK hP (hD _) hA hS rfl hl.1 rfl (Nat.le_of_ble_eq_true rfl) dX1_proofSize_5 ⟨Nat.zero_le _, Nat.zero_le _⟩ (fun H locs hP hS => ?_)
  refine lv_aload_n hx hb dX1_proofSize_8 rfl (lv_at hl 0 rfl) ?_
  refine xg_1_4 hx hb hB hown hK hP dX1_proofSize_9 ?_
  refine lv_iload_n hx hb dX1_proofSize_12 rfl (lv_at hl 1 rfl) ?_
  refine lv_iconst (v := 1) hx hb dX1_proofSize_13 (by decide) ?_
  obtain ⟨r2, e2, hs⟩ := Option.bind_eq_some_iff.mp hs
  have e2 := Option.some.inj e2
  refine cN_rwv (As := [.ref (a 13), .int p1, .int (1 : Int32)]) (rest := []) hC (m_X6_put_13 l g a r1 r2 H.size p1 (1 : Int32) e2) (kn_of (host := "NotionRounds") hB bw_3_3 bw_3_2 bw_1_2 kd_X6_put (hK.2 _ (List.mem_of_getElem? (i := 36) rfl)) rfl rfl ⟨Nat.le_of_ble_eq_true rfl, Nat.le_of_ble_eq_true rfl⟩) hK hP (hD _) hA hS rfl hl.1 rfl (Nat.le_of_ble_eq_true rfl) dX1_proofSize_14 ⟨Nat.zero_le _, Nat.zero_le _⟩ (fun H locs hP hS => ?_)
  refine lv_iconst (v := 0) hx hb dX1_proofSize_17 (by decide) ?_
  refine lv_istore_n (lv' := [(2, .int (0 : Int32)), (0, .ref (a 8)), (1, .int p1)]) hx hb dX1_proofSize_18 rfl hl (by decide) rfl (fun ls hl => ?_)
  refine lv_iload_n hx hb dX1_proofSize_19 rfl (lv_at hl 2 rfl) ?_
  refine lv_istore_n (lv' := [(3, .int p1), (2, .int (0 : Int32)), (0, .ref (a 8)), (1, .int p1)]) hx hb dX1_proofSize_20 rfl hl (by decide) rfl (fun ls hl => ?_)
  obtain ⟨n21, hs⟩ := loopC_iter hs
  have L21 : ∀ (n : Nat) (v21_2 : Int32) (v21_3 : Int32) (z21 : XS), iterO (fun v => b_X1_proofSize_21 v.1 v.2.1 v.2.2) n (v21_2, v21_3, z21) = some res → ∀ (H : Heap) (locs : List Loc), va_P g.1 vwCl (xW g a z21) H → va_S A s.heap H locs → ∀ ls : Array Slot, lv_has ls 4 [(0, .ref (a 8)), (2, .int v21_2), (3, .int v21_3)] → W p l e ({ frames := 2, cells := 0, slots := 0, locals := 44 } : Room) s m args below meth c H locs 0 0 (MQ below (RWi res.1 g (xW g a res.2) A) args s 0 0 A) (F0 m 21 ls []) := by
    intro n
    induction n with
    | zero => intro v21_2 v21_3 z21 hs; exact (iterO_zero hs).elim
    | succ n ih21 =>
      intro v21_2 v21_3 z21 hs H locs hP hS ls hl
      obtain ⟨y21, hs, hk21⟩ := iterO_succ hs
      have hs : b_X1_proofSize_21 v21_2 v21_3 z21 = some y21 := hs
      unfold b_X1_proofSize_21 at hs
      refine lv_iload_n hx hb dX1_proofSize_21 rfl (lv_at hl 2 rfl) ?_
      refine lv_if_lt (tgt := 72) hx hb dX1_proofSize_22 (by decide) (fun c3 => ?_) (fun c3 => ?_)
      · have hs := ifp c3 hs
        refine lv_iload_n hx hb dX1_proofSize_72 rfl (lv_at hl 1 rfl) ?_
        cases hs
        cases elim_inr hk21
        exact ret_rwi hx hb hr hlk hP hS dX1_proofSize_73
      · have hs := ifn c3 hs
        refine lv_aload_n hx hb dX1_proofSize_25 rfl (lv_at hl 0 rfl) ?_
        refine xg_1_4 hx hb hB hown hK hP dX1_proofSize_26 ?_
        refine lv_iload_n hx hb dX1_proofSize_29 rfl (lv_at hl 2 rfl) ?_
        refine cN_roi (As := [.ref (a 13), .int v21_3]) (rest := []) hC (m_X6_at l g (xW g a z21) 13 2000 (z21.1 13) (a 13) (xW_13 g a z21) (by decide) v21_3) (kn_of (host := "NotionRounds") hB bw_8_0 bw_7_23 bw_1_2 kd_X6_at (hK.2 _ (List.mem_of_getElem? (i := 27) rfl)) rfl rfl ⟨Nat.le_of_ble_eq_true rfl, Nat.le_of_ble_eq_true rfl⟩) hK hP hP hS rfl hl.1 rfl (Nat.le_of_ble_eq_true rfl) dX1_proofSize_30 ⟨Nat.zero_le _, Nat.zero_le _⟩ (fun H locs hP hS => ?_)
        refine lv_iconst (v := 1) hx hb dX1_proofSize_33 (by decide) ?_
        refine lv_icmp_ne (tgt := 66) hx hb dX1_proofSize_34 (by decide) (fun c4 => ?_) (fun c4 => ?_)
        · have hs := ifn c4 hs
          refine lv_iinc (v := (v21_3 + (-1))) (lv' := [(3, .int (v21_3 + (-1))), (0, .ref (a 8)), (2, .int v21_2)]) hx hb dX1_proofSize_66 hl (k := 2) rfl (by rfl) (by decide) rfl (fun ls hl => ?_)
          refine lv_goto (tgt := 21) hx hb dX1_proofSize_69 (by decide) ?_
          cases hs
          exact ih21 v21_2 (v21_3 + (-1)) z21 hk21 _ _ hP hS _ (lv_sub hl [1, 2, 0] rfl)
        · have hs := ifp c4 hs
          refine lv_iinc (v := (v21_2 + 1)) (lv' := [(2, .int (v21_2 + 1)), (0, .ref (a 8)), (3, .int v21_3)]) hx hb dX1_proofSize_37 hl (k := 1) rfl (by rfl) (by decide) rfl (fun ls hl => ?_)
          refine lv_aload_n hx hb dX1_proofSize_40 rfl (lv_at hl 1 rfl) ?_
          refine xg_1_4 hx hb hB hown hK hP dX1_proofSize_41 ?_
          refine lv_aload_n hx hb dX1_proofSize_44 rfl (lv_at hl 1 rfl) ?_
          refine lv_iload_n hx hb dX1_proofSize_45 rfl (lv_at hl 2 rfl) ?_
          refine cV_roi (As := [.int v21_3]) (rest := [.ref (a 13)]) hC (m_X1_firstPremise l g a z21 v21_3) (kv_of hB bw_24_14 bw_24_12 bw_24_13 bw_2_2 kd_X1_firstPremise bw_24_11 rfl rfl ⟨Nat.le_of_ble_eq_true rfl, Nat.le_of_ble_eq_true rfl⟩) hK hP hP hS (xW_8 g a z21) rfl rfl hl.1 rfl (Nat.le_of_ble_eq_true rfl) dX1_proofSize_46 ⟨Nat.zero_le _, Nat.zero_le _⟩ (fun H locs hP hS => ?_)
          refine lv_iconst (v := 1) hx hb dX1_proofSize_49 (by decide) ?_
          obtain ⟨r5, e5, hs⟩ := Option.bind_eq_some_iff.mp hs
          have e5 := Option.some.inj e5
          refine cN_rwv (As := [.ref (a 13), .int (t_X1_firstPremise z21 v21_3), .int (1 : Int32)]) (rest := []) hC (m_X6_put_13 l g a z21 r5 H.size (t_X1_firstPremise z21 v21_3) (1 : Int32) e5) (kn_of (host := "NotionRounds") hB bw_3_3 bw_3_2 bw_1_2 kd_X6_put (hK.2 _ (List.mem_of_getElem? (i := 36) rfl)) rfl rfl ⟨Nat.le_of_ble_eq_true rfl, Nat.le_of_ble_eq_true rfl⟩) hK hP (hD _) hA hS rfl hl.1 rfl (Nat.le_of_ble_eq_true rfl) dX1_proofSize_50 ⟨Nat.zero_le _, Nat.zero_le _⟩ (fun H locs hP hS => ?_)
          refine lv_aload_n hx hb dX1_proofSize_53 rfl (lv_at hl 1 rfl) ?_
          refine xg_1_4 hx hb hB hown hK hP dX1_proofSize_54 ?_
          refine lv_aload_n hx hb dX1_proofSize_57 rfl (lv_at hl 1 rfl) ?_
          refine lv_iload_n hx hb dX1_proofSize_58 rfl (lv_at hl 2 rfl) ?_
          refine cV_roi (As := [.int v21_3]) (rest := [.ref (a 13)]) hC (m_X1_secondPremise l g a r5 v21_3) (kv_of hB bw_24_20 bw_24_18 bw_24_19 bw_2_2 kd_X1_secondPremise bw_24_17 rfl rfl ⟨Nat.le_of_ble_eq_true rfl, Nat.le_of_ble_eq_true rfl⟩) hK hP hP hS (xW_8 g a r5) rfl rfl hl.1 rfl (Nat.le_of_ble_eq_true rfl) dX1_proofSize_59 ⟨Nat.zero_le _, Nat.zero_le _⟩ (fun H locs hP hS => ?_)
          refine lv_iconst (v := 1) hx hb dX1_proofSize_62 (by decide) ?_
          obtain ⟨r6, e6, hs⟩ := Option.bind_eq_some_iff.mp hs
          have e6 := Option.some.inj e6
          refine cN_rwv (As := [.ref (a 13), .int (t_X1_secondPremise r5 v21_3), .int (1 : Int32)]) (rest := []) hC (m_X6_put_13 l g a r5 r6 H.size (t_X1_secondPremise r5 v21_3) (1 : Int32) e6) (kn_of (host := "NotionRounds") hB bw_3_3 bw_3_2 bw_1_2 kd_X6_put (hK.2 _ (List.mem_of_getElem? (i := 36) rfl)) rfl rfl ⟨Nat.le_of_ble_eq_true rfl, Nat.le_of_ble_eq_true rfl⟩) hK hP (hD _) hA hS rfl hl.1 rfl (Nat.le_of_ble_eq_true rfl) dX1_proofSize_63 ⟨Nat.zero_le _, Nat.zero_le _⟩ (fun H locs hP hS => ?_)
          refine lv_iinc (v := (v21_3 + (-1))) (lv' := [(3, .int (v21_3 + (-1))), (2, .int (v21_2 + 1)), (0, .ref (a 8))]) hx hb dX1_proofSize_66 hl (k := 2) rfl (by rfl) (by decide) rfl (fun ls hl => ?_)
          refine lv_goto (tgt := 21) hx hb dX1_proofSize_69 (by decide) ?_
          cases hs
          exact ih21 (v21_2 + 1) (v21_3 + (-1)) r6 hk21 _ _ hP hS _ (lv_sub hl [2, 1, 0] rfl)
  exact L21 n21 (0 : Int32) p1 r2 hs _ _ hP hS _ (lv_sub hl [2, 1, 0] rfl)
noncomputable def f_X6_proof (st : XS) (p1 : Int32) : Option (Int32 × XS) :=
  (if (st.1 36 0) = 0 then some (((-103 : Int32), st)) else (if (t_X1_knows st p1) = 0 then some (((-101 : Int32), st)) else (Option.bind (f_X1_proofSize st p1) (fun r3 => some ((r3.1, r3.2))))))
set_option maxHeartbeats 4000000 in
set_option maxRecDepth 100000 in
theorem m_X6_proof (l : Launch) (g : GG) (a : Nat → Nat) (st : XS) (sz : Nat) (p1 : Int32) (res : (Int32 × XS)) (hs : f_X6_proof st p1 = some res) : Met l yX6_proof (Cond.code yX6_proof cX6_proof 2 (some .int) :: BIG) ({ frames := 3, cells := 0, slots := 0, locals := 67 } : Room) (va_Pc [.ref (a 0), .int p1] (RWp g (xW g a st) sz)) (RWi res.1 g (xW g a res.2) (va_A (xW g a st) sz)) 0 0 (va_A (xW g a st) sz) := by
  refine rw_start (cc := cX6_proof) (maxL := 2) (ret := (some .int)) (lv := [(0, .ref (a 0)), (1, .int p1)]) (Qc := fun A => (RWi res.1 g (xW g a res.2) A)) (by decide) rfl (Nat.le_of_ble_eq_true rfl) rfl ?_
  intro p e s m args below meth c hx hb hml hr hts hown hlk hK A hD0 hA H locs hP hS ls hl
  have hD : ∀ st' : XS, va_D A (xW g a st') := fun _ => xW_D hD0
  have hB : ∀ w ∈ BIG, w.before args s = true := fun w h => hts w (List.mem_cons_of_mem _ h)
  have hC : CallFix p m c cX6_proof 2 s args BIG RX6 := ⟨hx, hb, hml, hown, hB⟩
  unfold f_X6_proof at hs
  refine lv_aload_n hx hb dX6_proof_0 rfl (lv_at hl 0 rfl) ?_
  refine xg_6_7 hx hb hB hown hK hP dX6_proof_1 ?_
  refine lv_if_ne (tgt := 10) hx hb dX6_proof_4 (by decide) (fun c1 => ?_) (fun c1 => ?_)
  · have hs := ifn c1 hs
    refine lv_aload_n hx hb dX6_proof_10 rfl (lv_at hl 0 rfl) ?_
    refine xg_6_3 hx hb hB hown hK hP dX6_proof_11 ?_
    refine lv_iload_n hx hb dX6_proof_14 rfl (lv_at hl 1 rfl) ?_
    refine cV_roi (As := [.int p1]) (rest := []) hC (m_X1_knows l g a st p1) (kv_of hB bw_24_3 bw_24_1 bw_24_2 bw_2_2 kd_X1_knows bw_24_0 rfl rfl ⟨Nat.le_of_ble_eq_true rfl, Nat.le_of_ble_eq_true rfl⟩) hK hP hP hS (xW_8 g a st) rfl rfl hl.1 rfl (Nat.le_of_ble_eq_true rfl) dX6_proof_15 ⟨Nat.zero_le _, Nat.zero_le _⟩ (fun H locs hP hS => ?_)
    refine lv_if_ne (tgt := 24) hx hb dX6_proof_18 (by decide) (fun c2 => ?_) (fun c2 => ?_)
    · have hs := ifn c2 hs
      refine lv_aload_n hx hb dX6_proof_24 rfl (lv_at hl 0 rfl) ?_
      refine xg_6_3 hx hb hB hown hK hP dX6_proof_25 ?_
      refine lv_iload_n hx hb dX6_proof_28 rfl (lv_at hl 1 rfl) ?_
      obtain ⟨r3, e3, hs⟩ := Option.bind_eq_some_iff.mp hs
      refine cV_rwi (As := [.int p1]) (rest := []) hC (m_X1_proofSize l g a st H.size p1 r3 e3) (kv_of hB bw_26_2 bw_26_0 bw_26_1 bw_2_2 kd_X1_proofSize bw_25_23 rfl rfl ⟨Nat.le_of_ble_eq_true rfl, Nat.le_of_ble_eq_true rfl⟩) hK hP (hD _) hA hS (xW_8 g a st) rfl rfl hl.1 rfl (Nat.le_of_ble_eq_true rfl) dX6_proof_29 ⟨Nat.zero_le _, Nat.zero_le _⟩ (fun H locs hP hS => ?_)
      cases hs
      exact ret_rwi hx hb hr hlk hP hS dX6_proof_32
    · have hs := ifp c2 hs
      refine lv_bipush (v := -101) hx hb dX6_proof_21 (by decide) ?_
      cases hs
      exact ret_rwi hx hb hr hlk hP hS dX6_proof_23
  · have hs := ifp c1 hs
    refine lv_bipush (v := -103) hx hb dX6_proof_7 (by decide) ?_
    cases hs
    exact ret_rwi hx hb hr hlk hP hS dX6_proof_9
def t_X3_named (st : XS) (p1 : Int32) : Int32 :=
  (if (t_X3_knows st p1) = 0 then (0 : Int32) else (if (2 : Int32) < (t_X3_sort st p1) then (0 : Int32) else (1 : Int32)))
theorem z_X3_named (st : XS) (p1 : Int32) : t_X3_named st p1 = 0 ∨ t_X3_named st p1 = 1 := by
  unfold t_X3_named
  (repeat' split) <;> first | exact Or.inl rfl | exact Or.inr rfl | exact z_X3_knows _ _
set_option maxHeartbeats 4000000 in
set_option maxRecDepth 100000 in
theorem m_X3_named (l : Launch) (g : GG) (a : Nat → Nat) (st : XS) (p1 : Int32) : Met l yX3_named (Cond.code yX3_named cX3_named 2 (some .boolean) :: BIG) ({ frames := 3, cells := 0, slots := 0, locals := 64 } : Room) (va_Pc [.ref (a 1), .int p1] (ROp g (xW g a st))) (ROi (t_X3_named st p1)) 0 0 (fun _ => False) := by
  obtain ⟨res, hs⟩ : ∃ z, t_X3_named st p1 = z := ⟨_, rfl⟩
  rw [hs]
  refine ro_start (cc := cX3_named) (maxL := 2) (ret := (some .boolean)) (lv := [(0, .ref (a 1)), (1, .int p1)]) (by decide) rfl (Nat.le_of_ble_eq_true rfl) rfl ?_
  intro p e s m args below meth c hx hb hml hr hts hown hlk hK H locs hP hS ls hl
  have hB : ∀ w ∈ BIG, w.before args s = true := fun w h => hts w (List.mem_cons_of_mem _ h)
  have hC : CallFix p m c cX3_named 2 s args BIG RX3 := ⟨hx, hb, hml, hown, hB⟩
  unfold t_X3_named at hs
  refine lv_aload_n hx hb dX3_named_0 rfl (lv_at hl 0 rfl) ?_
  refine lv_iload_n hx hb dX3_named_1 rfl (lv_at hl 1 rfl) ?_
  refine cV_roi (As := [.int p1]) (rest := []) hC (m_X3_knows l g a st p1) (kv_of hB bw_7_4 bw_7_2 bw_7_3 bw_1_14 kd_X3_knows bw_26_15 rfl rfl ⟨Nat.le_of_ble_eq_true rfl, Nat.le_of_ble_eq_true rfl⟩) hK hP hP hS (xW_1 g a st) rfl rfl hl.1 rfl (Nat.le_of_ble_eq_true rfl) dX3_named_2 ⟨Nat.zero_le _, Nat.zero_le _⟩ (fun H locs hP hS => ?_)
  refine lv_if_eq (tgt := 21) hx hb dX3_named_5 (by decide) (fun c1 => ?_) (fun c1 => ?_)
  · have hs := ifp c1 hs
    refine lv_iconst (v := 0) hx hb dX3_named_21 (by decide) ?_
    subst hs
    exact ret_roz hx hb hr (zn_of (Or.inl rfl)) hlk hS dX3_named_22
  · have hs := ifn c1 hs
    refine lv_aload_n hx hb dX3_named_8 rfl (lv_at hl 0 rfl) ?_
    refine lv_iload_n hx hb dX3_named_9 rfl (lv_at hl 1 rfl) ?_
    refine cV_roi (As := [.int p1]) (rest := []) hC (m_X3_sort l g a st p1) (kv_of hB bw_7_18 bw_7_16 bw_7_17 bw_1_14 kd_X3_sort bw_7_15 rfl rfl ⟨Nat.le_of_ble_eq_true rfl, Nat.le_of_ble_eq_true rfl⟩) hK hP hP hS (xW_1 g a st) rfl rfl hl.1 rfl (Nat.le_of_ble_eq_true rfl) dX3_named_10 ⟨Nat.zero_le _, Nat.zero_le _⟩ (fun H locs hP hS => ?_)
    refine lv_iconst (v := 2) hx hb dX3_named_13 (by decide) ?_
    refine lv_icmp_gt (tgt := 21) hx hb dX3_named_14 (by decide) (fun c2 => ?_) (fun c2 => ?_)
    · have hs := ifp c2 hs
      refine lv_iconst (v := 0) hx hb dX3_named_21 (by decide) ?_
      subst hs
      exact ret_roz hx hb hr (zn_of (Or.inl rfl)) hlk hS dX3_named_22
    · have hs := ifn c2 hs
      refine lv_iconst (v := 1) hx hb dX3_named_17 (by decide) ?_
      refine lv_goto (tgt := 22) hx hb dX3_named_18 (by decide) ?_
      subst hs
      exact ret_roz hx hb hr (zn_of (Or.inr rfl)) hlk hS dX3_named_22
def t_X6_isUnder (st : XS) (p1 : Int32) (p2 : Int32) : Int32 :=
  (if p1 = (1 : Int32) then (1 : Int32) else (if (t_X1_saysIs st p1 p2) = 0 then (if (t_X1_saysIs st p1 (1 : Int32)) = 0 then (if (t_X1_saysIs st (0 : Int32) (1 : Int32)) = 0 then (0 : Int32) else (1 : Int32)) else (1 : Int32)) else (1 : Int32)))
theorem z_X6_isUnder (st : XS) (p1 : Int32) (p2 : Int32) : t_X6_isUnder st p1 p2 = 0 ∨ t_X6_isUnder st p1 p2 = 1 := by
  unfold t_X6_isUnder
  (repeat' split) <;> first | exact Or.inl rfl | exact Or.inr rfl | exact z_X1_saysIs _ _ _ | exact z_X1_saysIs _ _ _ | exact z_X1_saysIs _ _ _
set_option maxHeartbeats 4000000 in
set_option maxRecDepth 100000 in
theorem m_X6_isUnder (l : Launch) (g : GG) (a : Nat → Nat) (st : XS) (p1 : Int32) (p2 : Int32) : Met l yX6_isUnder (Cond.code yX6_isUnder cX6_isUnder 3 (some .boolean) :: BIG) ({ frames := 2, cells := 0, slots := 0, locals := 43 } : Room) (va_Pc [.ref (a 0), .int p1, .int p2] (ROp g (xW g a st))) (ROi (t_X6_isUnder st p1 p2)) 0 0 (fun _ => False) := by
  obtain ⟨res, hs⟩ : ∃ z, t_X6_isUnder st p1 p2 = z := ⟨_, rfl⟩
  rw [hs]
  refine ro_start (cc := cX6_isUnder) (maxL := 3) (ret := (some .boolean)) (lv := [(0, .ref (a 0)), (1, .int p1), (2, .int p2)]) (by decide) rfl (Nat.le_of_ble_eq_true rfl) rfl ?_
  intro p e s m args below meth c hx hb hml hr hts hown hlk hK H locs hP hS ls hl
  have hB : ∀ w ∈ BIG, w.before args s = true := fun w h => hts w (List.mem_cons_of_mem _ h)
  have hC : CallFix p m c cX6_isUnder 3 s args BIG RX6 := ⟨hx, hb, hml, hown, hB⟩
  unfold t_X6_isUnder at hs
  refine lv_iload_n hx hb dX6_isUnder_0 rfl (lv_at hl 1 rfl) ?_
  refine lv_iconst (v := 1) hx hb dX6_isUnder_1 (by decide) ?_
  refine lv_icmp_eq (tgt := 41) hx hb dX6_isUnder_2 (by decide) (fun c1 => ?_) (fun c1 => ?_)
  · have hs := ifp c1 hs
    refine lv_iconst (v := 1) hx hb dX6_isUnder_41 (by decide) ?_
    refine lv_goto (tgt := 46) hx hb dX6_isUnder_42 (by decide) ?_
    subst hs
    exact ret_roz hx hb hr (zn_of (Or.inr rfl)) hlk hS dX6_isUnder_46
  · have hs := ifn c1 hs
    refine lv_aload_n hx hb dX6_isUnder_5 rfl (lv_at hl 0 rfl) ?_
    refine xg_6_3 hx hb hB hown hK hP dX6_isUnder_6 ?_
    refine lv_iload_n hx hb dX6_isUnder_9 rfl (lv_at hl 1 rfl) ?_
    refine lv_iload_n hx hb dX6_isUnder_10 rfl (lv_at hl 2 rfl) ?_
    refine cV_roi (As := [.int p1, .int p2]) (rest := []) hC (m_X1_saysIs l g a st p1 p2) (kv_of hB bw_19_3 bw_19_1 bw_19_2 bw_2_2 kd_X1_saysIs bw_26_20 rfl rfl ⟨Nat.le_of_ble_eq_true rfl, Nat.le_of_ble_eq_true rfl⟩) hK hP hP hS (xW_8 g a st) rfl rfl hl.1 rfl (Nat.le_of_ble_eq_true rfl) dX6_isUnder_11 ⟨Nat.zero_le _, Nat.zero_le _⟩ (fun H locs hP hS => ?_)
    refine lv_if_ne (tgt := 41) hx hb dX6_isUnder_14 (by decide) (fun c2 => ?_) (fun c2 => ?_)
    · have hs := ifn c2 hs
      refine lv_iconst (v := 1) hx hb dX6_isUnder_41 (by decide) ?_
      refine lv_goto (tgt := 46) hx hb dX6_isUnder_42 (by decide) ?_
      subst hs
      exact ret_roz hx hb hr (zn_of (Or.inr rfl)) hlk hS dX6_isUnder_46
    · have hs := ifp c2 hs
      refine lv_aload_n hx hb dX6_isUnder_17 rfl (lv_at hl 0 rfl) ?_
      refine xg_6_3 hx hb hB hown hK hP dX6_isUnder_18 ?_
      refine lv_iload_n hx hb dX6_isUnder_21 rfl (lv_at hl 1 rfl) ?_
      refine lv_iconst (v := 1) hx hb dX6_isUnder_22 (by decide) ?_
      refine cV_roi (As := [.int p1, .int (1 : Int32)]) (rest := []) hC (m_X1_saysIs l g a st p1 (1 : Int32)) (kv_of hB bw_19_3 bw_19_1 bw_19_2 bw_2_2 kd_X1_saysIs bw_26_20 rfl rfl ⟨Nat.le_of_ble_eq_true rfl, Nat.le_of_ble_eq_true rfl⟩) hK hP hP hS (xW_8 g a st) rfl rfl hl.1 rfl (Nat.le_of_ble_eq_true rfl) dX6_isUnder_23 ⟨Nat.zero_le _, Nat.zero_le _⟩ (fun H locs hP hS => ?_)
      refine lv_if_ne (tgt := 41) hx hb dX6_isUnder_26 (by decide) (fun c3 => ?_) (fun c3 => ?_)
      · have hs := ifn c3 hs
        refine lv_iconst (v := 1) hx hb dX6_isUnder_41 (by decide) ?_
        refine lv_goto (tgt := 46) hx hb dX6_isUnder_42 (by decide) ?_
        subst hs
        exact ret_roz hx hb hr (zn_of (Or.inr rfl)) hlk hS dX6_isUnder_46
      · have hs := ifp c3 hs
        refine lv_aload_n hx hb dX6_isUnder_29 rfl (lv_at hl 0 rfl) ?_
        refine xg_6_3 hx hb hB hown hK hP dX6_isUnder_30 ?_
        refine lv_iconst (v := 0) hx hb dX6_isUnder_33 (by decide) ?_
        refine lv_iconst (v := 1) hx hb dX6_isUnder_34 (by decide) ?_
        refine cV_roi (As := [.int (0 : Int32), .int (1 : Int32)]) (rest := []) hC (m_X1_saysIs l g a st (0 : Int32) (1 : Int32)) (kv_of hB bw_19_3 bw_19_1 bw_19_2 bw_2_2 kd_X1_saysIs bw_26_20 rfl rfl ⟨Nat.le_of_ble_eq_true rfl, Nat.le_of_ble_eq_true rfl⟩) hK hP hP hS (xW_8 g a st) rfl rfl hl.1 rfl (Nat.le_of_ble_eq_true rfl) dX6_isUnder_35 ⟨Nat.zero_le _, Nat.zero_le _⟩ (fun H locs hP hS => ?_)
        refine lv_if_eq (tgt := 45) hx hb dX6_isUnder_38 (by decide) (fun c4 => ?_) (fun c4 => ?_)
        · have hs := ifp c4 hs
          refine lv_iconst (v := 0) hx hb dX6_isUnder_45 (by decide) ?_
          subst hs
          exact ret_roz hx hb hr (zn_of (Or.inl rfl)) hlk hS dX6_isUnder_46
        · have hs := ifn c4 hs
          refine lv_iconst (v := 1) hx hb dX6_isUnder_41 (by decide) ?_
          refine lv_goto (tgt := 46) hx hb dX6_isUnder_42 (by decide) ?_
          subst hs
          exact ret_roz hx hb hr (zn_of (Or.inr rfl)) hlk hS dX6_isUnder_46
def t_X6_under (st : XS) (p1 : Int32) (p2 : Int32) : Int32 :=
  (if (st.1 36 0) = 0 then (-103 : Int32) else (if (t_X3_named st p1) = 0 then (-101 : Int32) else (if (t_X3_named st p2) = 0 then (-101 : Int32) else (t_X6_oneIf (t_X6_isUnder st p1 p2)))))
set_option maxHeartbeats 4000000 in
set_option maxRecDepth 100000 in
theorem m_X6_under (l : Launch) (g : GG) (a : Nat → Nat) (st : XS) (p1 : Int32) (p2 : Int32) : Met l yX6_under (Cond.code yX6_under cX6_under 3 (some .int) :: BIG) ({ frames := 4, cells := 0, slots := 0, locals := 85 } : Room) (va_Pc [.ref (a 0), .int p1, .int p2] (ROp g (xW g a st))) (ROi (t_X6_under st p1 p2)) 0 0 (fun _ => False) := by
  obtain ⟨res, hs⟩ : ∃ z, t_X6_under st p1 p2 = z := ⟨_, rfl⟩
  rw [hs]
  refine ro_start (cc := cX6_under) (maxL := 3) (ret := (some .int)) (lv := [(0, .ref (a 0)), (1, .int p1), (2, .int p2)]) (by decide) rfl (Nat.le_of_ble_eq_true rfl) rfl ?_
  intro p e s m args below meth c hx hb hml hr hts hown hlk hK H locs hP hS ls hl
  have hB : ∀ w ∈ BIG, w.before args s = true := fun w h => hts w (List.mem_cons_of_mem _ h)
  have hC : CallFix p m c cX6_under 3 s args BIG RX6 := ⟨hx, hb, hml, hown, hB⟩
  unfold t_X6_under at hs
  refine lv_aload_n hx hb dX6_under_0 rfl (lv_at hl 0 rfl) ?_
  refine xg_6_7 hx hb hB hown hK hP dX6_under_1 ?_
  refine lv_if_ne (tgt := 10) hx hb dX6_under_4 (by decide) (fun c1 => ?_) (fun c1 => ?_)
  · have hs := ifn c1 hs
    refine lv_aload_n hx hb dX6_under_10 rfl (lv_at hl 0 rfl) ?_
    refine xg_6_0 hx hb hB hown hK hP dX6_under_11 ?_
    refine lv_iload_n hx hb dX6_under_14 rfl (lv_at hl 1 rfl) ?_
    refine cV_roi (As := [.int p1]) (rest := []) hC (m_X3_named l g a st p1) (kv_of hB bw_26_14 bw_26_12 bw_26_13 bw_1_14 kd_X3_named bw_26_11 rfl rfl ⟨Nat.le_of_ble_eq_true rfl, Nat.le_of_ble_eq_true rfl⟩) hK hP hP hS (xW_1 g a st) rfl rfl hl.1 rfl (Nat.le_of_ble_eq_true rfl) dX6_under_15 ⟨Nat.zero_le _, Nat.zero_le _⟩ (fun H locs hP hS => ?_)
    refine lv_if_eq (tgt := 32) hx hb dX6_under_18 (by decide) (fun c2 => ?_) (fun c2 => ?_)
    · have hs := ifp c2 hs
      refine lv_bipush (v := -101) hx hb dX6_under_32 (by decide) ?_
      subst hs
      exact ret_roi hx hb hr hlk hS dX6_under_34
    · have hs := ifn c2 hs
      refine lv_aload_n hx hb dX6_under_21 rfl (lv_at hl 0 rfl) ?_
      refine xg_6_0 hx hb hB hown hK hP dX6_under_22 ?_
      refine lv_iload_n hx hb dX6_under_25 rfl (lv_at hl 2 rfl) ?_
      refine cV_roi (As := [.int p2]) (rest := []) hC (m_X3_named l g a st p2) (kv_of hB bw_26_14 bw_26_12 bw_26_13 bw_1_14 kd_X3_named bw_26_11 rfl rfl ⟨Nat.le_of_ble_eq_true rfl, Nat.le_of_ble_eq_true rfl⟩) hK hP hP hS (xW_1 g a st) rfl rfl hl.1 rfl (Nat.le_of_ble_eq_true rfl) dX6_under_26 ⟨Nat.zero_le _, Nat.zero_le _⟩ (fun H locs hP hS => ?_)
      refine lv_if_ne (tgt := 35) hx hb dX6_under_29 (by decide) (fun c3 => ?_) (fun c3 => ?_)
      · have hs := ifn c3 hs
        refine lv_aload_n hx hb dX6_under_35 rfl (lv_at hl 0 rfl) ?_
        refine lv_iload_n hx hb dX6_under_36 rfl (lv_at hl 1 rfl) ?_
        refine lv_iload_n hx hb dX6_under_37 rfl (lv_at hl 2 rfl) ?_
        refine cV_roi (As := [.int p1, .int p2]) (rest := []) hC (m_X6_isUnder l g a st p1 p2) (kv_of hB bw_26_19 bw_26_17 bw_26_18 bw_1_2 kd_X6_isUnder bw_26_16 rfl rfl ⟨Nat.le_of_ble_eq_true rfl, Nat.le_of_ble_eq_true rfl⟩) hK hP hP hS (xW_0 g a st) rfl rfl hl.1 rfl (Nat.le_of_ble_eq_true rfl) dX6_under_38 ⟨Nat.zero_le _, Nat.zero_le _⟩ (fun H locs hP hS => ?_)
        refine cS_roi (As := [.int (t_X6_isUnder st p1 p2)]) (rest := []) hC (m_X6_oneIf l g (xW g a st) (t_X6_isUnder st p1 p2)) (ks_of hB bw_24_10 bw_24_9 bw_1_2 kd_X6_oneIf bw_26_21 rfl rfl ⟨Nat.le_of_ble_eq_true rfl, Nat.le_of_ble_eq_true rfl⟩) hK hP hP hS rfl hl.1 rfl (Nat.le_of_ble_eq_true rfl) dX6_under_41 ⟨Nat.zero_le _, Nat.zero_le _⟩ (fun H locs hP hS => ?_)
        subst hs
        exact ret_roi hx hb hr hlk hS dX6_under_44
      · have hs := ifp c3 hs
        refine lv_bipush (v := -101) hx hb dX6_under_32 (by decide) ?_
        subst hs
        exact ret_roi hx hb hr hlk hS dX6_under_34
  · have hs := ifp c1 hs
    refine lv_bipush (v := -103) hx hb dX6_under_7 (by decide) ?_
    subst hs
    exact ret_roi hx hb hr hlk hS dX6_under_9
def t_X6_areLike (st : XS) (p1 : Int32) (p2 : Int32) : Int32 :=
  (if (t_X6_isUnder st p1 p2) = 0 then (0 : Int32) else (if (t_X6_isUnder st p2 p1) = 0 then (0 : Int32) else (1 : Int32)))
theorem z_X6_areLike (st : XS) (p1 : Int32) (p2 : Int32) : t_X6_areLike st p1 p2 = 0 ∨ t_X6_areLike st p1 p2 = 1 := by
  unfold t_X6_areLike
  (repeat' split) <;> first | exact Or.inl rfl | exact Or.inr rfl | exact z_X6_isUnder _ _ _ | exact z_X6_isUnder _ _ _
set_option maxHeartbeats 4000000 in
set_option maxRecDepth 100000 in
theorem m_X6_areLike (l : Launch) (g : GG) (a : Nat → Nat) (st : XS) (p1 : Int32) (p2 : Int32) : Met l yX6_areLike (Cond.code yX6_areLike cX6_areLike 3 (some .boolean) :: BIG) ({ frames := 3, cells := 0, slots := 0, locals := 65 } : Room) (va_Pc [.ref (a 0), .int p1, .int p2] (ROp g (xW g a st))) (ROi (t_X6_areLike st p1 p2)) 0 0 (fun _ => False) := by
  obtain ⟨res, hs⟩ : ∃ z, t_X6_areLike st p1 p2 = z := ⟨_, rfl⟩
  rw [hs]
  refine ro_start (cc := cX6_areLike) (maxL := 3) (ret := (some .boolean)) (lv := [(0, .ref (a 0)), (1, .int p1), (2, .int p2)]) (by decide) rfl (Nat.le_of_ble_eq_true rfl) rfl ?_
  intro p e s m args below meth c hx hb hml hr hts hown hlk hK H locs hP hS ls hl
  have hB : ∀ w ∈ BIG, w.before args s = true := fun w h => hts w (List.mem_cons_of_mem _ h)
  have hC : CallFix p m c cX6_areLike 3 s args BIG RX6 := ⟨hx, hb, hml, hown, hB⟩
  unfold t_X6_areLike at hs
  refine lv_aload_n hx hb dX6_areLike_0 rfl (lv_at hl 0 rfl) ?_
  refine lv_iload_n hx hb dX6_areLike_1 rfl (lv_at hl 1 rfl) ?_
  refine lv_iload_n hx hb dX6_areLike_2 rfl (lv_at hl 2 rfl) ?_
  refine cV_roi (As := [.int p1, .int p2]) (rest := []) hC (m_X6_isUnder l g a st p1 p2) (kv_of hB bw_26_19 bw_26_17 bw_26_18 bw_1_2 kd_X6_isUnder bw_26_16 rfl rfl ⟨Nat.le_of_ble_eq_true rfl, Nat.le_of_ble_eq_true rfl⟩) hK hP hP hS (xW_0 g a st) rfl rfl hl.1 rfl (Nat.le_of_ble_eq_true rfl) dX6_areLike_3 ⟨Nat.zero_le _, Nat.zero_le _⟩ (fun H locs hP hS => ?_)
  refine lv_if_eq (tgt := 22) hx hb dX6_areLike_6 (by decide) (fun c1 => ?_) (fun c1 => ?_)
  · have hs := ifp c1 hs
    refine lv_iconst (v := 0) hx hb dX6_areLike_22 (by decide) ?_
    subst hs
    exact ret_roz hx hb hr (zn_of (Or.inl rfl)) hlk hS dX6_areLike_23
  · have hs := ifn c1 hs
    refine lv_aload_n hx hb dX6_areLike_9 rfl (lv_at hl 0 rfl) ?_
    refine lv_iload_n hx hb dX6_areLike_10 rfl (lv_at hl 2 rfl) ?_
    refine lv_iload_n hx hb dX6_areLike_11 rfl (lv_at hl 1 rfl) ?_
    refine cV_roi (As := [.int p2, .int p1]) (rest := []) hC (m_X6_isUnder l g a st p2 p1) (kv_of hB bw_26_19 bw_26_17 bw_26_18 bw_1_2 kd_X6_isUnder bw_26_16 rfl rfl ⟨Nat.le_of_ble_eq_true rfl, Nat.le_of_ble_eq_true rfl⟩) hK hP hP hS (xW_0 g a st) rfl rfl hl.1 rfl (Nat.le_of_ble_eq_true rfl) dX6_areLike_12 ⟨Nat.zero_le _, Nat.zero_le _⟩ (fun H locs hP hS => ?_)
    refine lv_if_eq (tgt := 22) hx hb dX6_areLike_15 (by decide) (fun c2 => ?_) (fun c2 => ?_)
    · have hs := ifp c2 hs
      refine lv_iconst (v := 0) hx hb dX6_areLike_22 (by decide) ?_
      subst hs
      exact ret_roz hx hb hr (zn_of (Or.inl rfl)) hlk hS dX6_areLike_23
    · have hs := ifn c2 hs
      refine lv_iconst (v := 1) hx hb dX6_areLike_18 (by decide) ?_
      refine lv_goto (tgt := 23) hx hb dX6_areLike_19 (by decide) ?_
      subst hs
      exact ret_roz hx hb hr (zn_of (Or.inr rfl)) hlk hS dX6_areLike_23
noncomputable def b_X6_leastLike_2 (st : XS) (c2_1 : Int32) (v2_2 : Int32) : Option (Int32 ⊕ Int32) :=
  (if c2_1 ≤ v2_2 then some (Sum.inr (c2_1)) else (if (t_X3_named st v2_2) = 0 then some (Sum.inl (v2_2 + 1)) else (if (t_X6_areLike st c2_1 v2_2) = 0 then some (Sum.inl (v2_2 + 1)) else some (Sum.inr (v2_2)))))
noncomputable def f_X6_leastLike (st : XS) (p1 : Int32) : Option Int32 :=
  (loopC (fun v => b_X6_leastLike_2 st p1 v) (0 : Int32))
set_option maxHeartbeats 4000000 in
set_option maxRecDepth 100000 in
theorem m_X6_leastLike (l : Launch) (g : GG) (a : Nat → Nat) (st : XS) (p1 : Int32) (res : Int32) (hs : f_X6_leastLike st p1 = some res) : Met l yX6_leastLike (Cond.code yX6_leastLike cX6_leastLike 3 (some .int) :: BIG) ({ frames := 4, cells := 0, slots := 0, locals := 87 } : Room) (va_Pc [.ref (a 0), .int p1] (ROp g (xW g a st))) (ROi res) 0 0 (fun _ => False) := by
  refine ro_start (cc := cX6_leastLike) (maxL := 3) (ret := (some .int)) (lv := [(0, .ref (a 0)), (1, .int p1)]) (by decide) rfl (Nat.le_of_ble_eq_true rfl) rfl ?_
  intro p e s m args below meth c hx hb hml hr hts hown hlk hK H locs hP hS ls hl
  have hB : ∀ w ∈ BIG, w.before args s = true := fun w h => hts w (List.mem_cons_of_mem _ h)
  have hC : CallFix p m c cX6_leastLike 3 s args BIG RX6 := ⟨hx, hb, hml, hown, hB⟩
  unfold f_X6_leastLike at hs
  refine lv_iconst (v := 0) hx hb dX6_leastLike_0 (by decide) ?_
  refine lv_istore_n (lv' := [(2, .int (0 : Int32)), (0, .ref (a 0)), (1, .int p1)]) hx hb dX6_leastLike_1 rfl hl (by decide) rfl (fun ls hl => ?_)
  obtain ⟨n2, hs⟩ := loopC_iter hs
  have L2 : ∀ (n : Nat) (v2_2 : Int32), iterO (fun v => b_X6_leastLike_2 st p1 v) n v2_2 = some res → ∀ (H : Heap) (locs : List Loc), va_P g.1 vwCl (xW g a st) H → va_S (fun _ => False) s.heap H locs → ∀ ls : Array Slot, lv_has ls 3 [(0, .ref (a 0)), (1, .int p1), (2, .int v2_2)] → W p l e ({ frames := 4, cells := 0, slots := 0, locals := 87 } : Room) s m args below meth c H locs 0 0 (MQ below (ROi res) args s 0 0 (fun _ => False)) (F0 m 2 ls []) := by
    intro n
    induction n with
    | zero => intro v2_2 hs; exact (iterO_zero hs).elim
    | succ n ih2 =>
      intro v2_2 hs H locs hP hS ls hl
      obtain ⟨y2, hs, hk2⟩ := iterO_succ hs
      have hs : b_X6_leastLike_2 st p1 v2_2 = some y2 := hs
      unfold b_X6_leastLike_2 at hs
      refine lv_iload_n hx hb dX6_leastLike_2 rfl (lv_at hl 2 rfl) ?_
      refine lv_iload_n hx hb dX6_leastLike_3 rfl (lv_at hl 1 rfl) ?_
      refine lv_icmp_ge (tgt := 35) hx hb dX6_leastLike_4 (by decide) (fun c1 => ?_) (fun c1 => ?_)
      · have hs := ifp c1 hs
        refine lv_iload_n hx hb dX6_leastLike_35 rfl (lv_at hl 1 rfl) ?_
        cases hs
        cases elim_inr hk2
        exact ret_roi hx hb hr hlk hS dX6_leastLike_36
      · have hs := ifn c1 hs
        refine lv_aload_n hx hb dX6_leastLike_7 rfl (lv_at hl 0 rfl) ?_
        refine xg_6_0 hx hb hB hown hK hP dX6_leastLike_8 ?_
        refine lv_iload_n hx hb dX6_leastLike_11 rfl (lv_at hl 2 rfl) ?_
        refine cV_roi (As := [.int v2_2]) (rest := []) hC (m_X3_named l g a st v2_2) (kv_of hB bw_26_14 bw_26_12 bw_26_13 bw_1_14 kd_X3_named bw_26_11 rfl rfl ⟨Nat.le_of_ble_eq_true rfl, Nat.le_of_ble_eq_true rfl⟩) hK hP hP hS (xW_1 g a st) rfl rfl hl.1 rfl (Nat.le_of_ble_eq_true rfl) dX6_leastLike_12 ⟨Nat.zero_le _, Nat.zero_le _⟩ (fun H locs hP hS => ?_)
        refine lv_if_eq (tgt := 29) hx hb dX6_leastLike_15 (by decide) (fun c2 => ?_) (fun c2 => ?_)
        · have hs := ifp c2 hs
          refine lv_iinc (v := (v2_2 + 1)) (lv' := [(2, .int (v2_2 + 1)), (0, .ref (a 0)), (1, .int p1)]) hx hb dX6_leastLike_29 hl (k := 2) rfl (by rfl) (by decide) rfl (fun ls hl => ?_)
          refine lv_goto (tgt := 2) hx hb dX6_leastLike_32 (by decide) ?_
          cases hs
          exact ih2 (v2_2 + 1) hk2 _ _ hP hS _ (lv_sub hl [1, 2, 0] rfl)
        · have hs := ifn c2 hs
          refine lv_aload_n hx hb dX6_leastLike_18 rfl (lv_at hl 0 rfl) ?_
          refine lv_iload_n hx hb dX6_leastLike_19 rfl (lv_at hl 1 rfl) ?_
          refine lv_iload_n hx hb dX6_leastLike_20 rfl (lv_at hl 2 rfl) ?_
          refine cV_roi (As := [.int p1, .int v2_2]) (rest := []) hC (m_X6_areLike l g a st p1 v2_2) (kv_of hB bw_27_21 bw_27_19 bw_27_20 bw_1_2 kd_X6_areLike bw_27_18 rfl rfl ⟨Nat.le_of_ble_eq_true rfl, Nat.le_of_ble_eq_true rfl⟩) hK hP hP hS (xW_0 g a st) rfl rfl hl.1 rfl (Nat.le_of_ble_eq_true rfl) dX6_leastLike_21 ⟨Nat.zero_le _, Nat.zero_le _⟩ (fun H locs hP hS => ?_)
          refine lv_if_eq (tgt := 29) hx hb dX6_leastLike_24 (by decide) (fun c3 => ?_) (fun c3 => ?_)
          · have hs := ifp c3 hs
            refine lv_iinc (v := (v2_2 + 1)) (lv' := [(2, .int (v2_2 + 1)), (0, .ref (a 0)), (1, .int p1)]) hx hb dX6_leastLike_29 hl (k := 2) rfl (by rfl) (by decide) rfl (fun ls hl => ?_)
            refine lv_goto (tgt := 2) hx hb dX6_leastLike_32 (by decide) ?_
            cases hs
            exact ih2 (v2_2 + 1) hk2 _ _ hP hS _ (lv_sub hl [1, 2, 0] rfl)
          · have hs := ifn c3 hs
            refine lv_iload_n hx hb dX6_leastLike_27 rfl (lv_at hl 2 rfl) ?_
            cases hs
            cases elim_inr hk2
            exact ret_roi hx hb hr hlk hS dX6_leastLike_28
  exact L2 n2 (0 : Int32) hs _ _ hP hS _ (lv_sub hl [1, 2, 0] rfl)
noncomputable def f_X6_like (st : XS) (p1 : Int32) : Option Int32 :=
  (if (st.1 36 0) = 0 then some ((-103 : Int32)) else (if (t_X3_named st p1) = 0 then some ((-101 : Int32)) else (Option.bind (f_X6_leastLike st p1) (fun r3 => some (r3)))))
set_option maxHeartbeats 4000000 in
set_option maxRecDepth 100000 in
theorem m_X6_like (l : Launch) (g : GG) (a : Nat → Nat) (st : XS) (p1 : Int32) (res : Int32) (hs : f_X6_like st p1 = some res) : Met l yX6_like (Cond.code yX6_like cX6_like 2 (some .int) :: BIG) ({ frames := 5, cells := 0, slots := 0, locals := 109 } : Room) (va_Pc [.ref (a 0), .int p1] (ROp g (xW g a st))) (ROi res) 0 0 (fun _ => False) := by
  refine ro_start (cc := cX6_like) (maxL := 2) (ret := (some .int)) (lv := [(0, .ref (a 0)), (1, .int p1)]) (by decide) rfl (Nat.le_of_ble_eq_true rfl) rfl ?_
  intro p e s m args below meth c hx hb hml hr hts hown hlk hK H locs hP hS ls hl
  have hB : ∀ w ∈ BIG, w.before args s = true := fun w h => hts w (List.mem_cons_of_mem _ h)
  have hC : CallFix p m c cX6_like 2 s args BIG RX6 := ⟨hx, hb, hml, hown, hB⟩
  unfold f_X6_like at hs
  refine lv_aload_n hx hb dX6_like_0 rfl (lv_at hl 0 rfl) ?_
  refine xg_6_7 hx hb hB hown hK hP dX6_like_1 ?_
  refine lv_if_ne (tgt := 10) hx hb dX6_like_4 (by decide) (fun c1 => ?_) (fun c1 => ?_)
  · have hs := ifn c1 hs
    refine lv_aload_n hx hb dX6_like_10 rfl (lv_at hl 0 rfl) ?_
    refine xg_6_0 hx hb hB hown hK hP dX6_like_11 ?_
    refine lv_iload_n hx hb dX6_like_14 rfl (lv_at hl 1 rfl) ?_
    refine cV_roi (As := [.int p1]) (rest := []) hC (m_X3_named l g a st p1) (kv_of hB bw_26_14 bw_26_12 bw_26_13 bw_1_14 kd_X3_named bw_26_11 rfl rfl ⟨Nat.le_of_ble_eq_true rfl, Nat.le_of_ble_eq_true rfl⟩) hK hP hP hS (xW_1 g a st) rfl rfl hl.1 rfl (Nat.le_of_ble_eq_true rfl) dX6_like_15 ⟨Nat.zero_le _, Nat.zero_le _⟩ (fun H locs hP hS => ?_)
    refine lv_if_ne (tgt := 24) hx hb dX6_like_18 (by decide) (fun c2 => ?_) (fun c2 => ?_)
    · have hs := ifn c2 hs
      refine lv_aload_n hx hb dX6_like_24 rfl (lv_at hl 0 rfl) ?_
      refine lv_iload_n hx hb dX6_like_25 rfl (lv_at hl 1 rfl) ?_
      obtain ⟨r3, e3, hs⟩ := Option.bind_eq_some_iff.mp hs
      refine cV_roi (As := [.int p1]) (rest := []) hC (m_X6_leastLike l g a st p1 r3 e3) (kv_of hB bw_27_17 bw_27_15 bw_27_16 bw_1_2 kd_X6_leastLike bw_27_14 rfl rfl ⟨Nat.le_of_ble_eq_true rfl, Nat.le_of_ble_eq_true rfl⟩) hK hP hP hS (xW_0 g a st) rfl rfl hl.1 rfl (Nat.le_of_ble_eq_true rfl) dX6_like_26 ⟨Nat.zero_le _, Nat.zero_le _⟩ (fun H locs hP hS => ?_)
      cases hs
      exact ret_roi hx hb hr hlk hS dX6_like_29
    · have hs := ifp c2 hs
      refine lv_bipush (v := -101) hx hb dX6_like_21 (by decide) ?_
      cases hs
      exact ret_roi hx hb hr hlk hS dX6_like_23
  · have hs := ifp c1 hs
    refine lv_bipush (v := -103) hx hb dX6_like_7 (by decide) ?_
    cases hs
    exact ret_roi hx hb hr hlk hS dX6_like_9
