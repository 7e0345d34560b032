noncomputable def b_X2_chainWithin_13 (st : XS) (c13_1 : Int32) (c13_2 : Int32) (c13_3 : Int32) (c13_4 : Int32) (v13_5 : Int32) : Option (Int32 ⊕ (Int32 ⊕ Int32)) :=
  (if (20 : Int32) ≤ v13_5 then some (Sum.inr (Sum.inl (c13_4 + 1))) else (if (t_X6_hasBit (t_X2_partners st c13_1 c13_4) v13_5) = 0 then some (Sum.inl (v13_5 + 1)) else (if ((t_X2_partners st c13_2 v13_5) &&& ((t_X2_partners st c13_3 c13_4) ^^^ (-1 : Int32))) = 0 then some (Sum.inl (v13_5 + 1)) else some (Sum.inr (Sum.inr ((0 : Int32)))))))
noncomputable def b_X2_chainWithin_3 (st : XS) (c3_1 : Int32) (c3_2 : Int32) (c3_3 : Int32) (v3_4 : Int32) : Option (Int32 ⊕ Int32) :=
  (if (20 : Int32) ≤ v3_4 then some (Sum.inr ((1 : Int32))) else (loopC (fun v => b_X2_chainWithin_13 st c3_1 c3_2 c3_3 v3_4 v) (0 : Int32)))
noncomputable def f_X2_chainWithin (st : XS) (p1 : Int32) (p2 : Int32) (p3 : Int32) : Option Int32 :=
  (loopC (fun v => b_X2_chainWithin_3 st p1 p2 p3 v) (0 : Int32))
set_option maxHeartbeats 4000000 in
set_option maxRecDepth 100000 in
theorem m_X2_chainWithin (l : Launch) (g : GG) (a : Nat → Nat) (st : XS) (p1 : Int32) (p2 : Int32) (p3 : Int32) (res : Int32) (hs : f_X2_chainWithin st p1 p2 p3 = some res) : Met l yX2_chainWithin (Cond.code yX2_chainWithin cX2_chainWithin 6 (some .boolean) :: BIG) ({ frames := 3, cells := 0, slots := 0, locals := 63 } : Room) (va_Pc [.ref (a 16), .int p1, .int p2, .int p3] (ROp g (xW g a st))) (ROi res) 0 0 (fun _ => False) := by
  refine ro_start (cc := cX2_chainWithin) (maxL := 6) (ret := (some .boolean)) (lv := [(0, .ref (a 16)), (1, .int p1), (2, .int p2), (3, .int p3)]) (by decide) rfl (Nat.le_of_ble_eq_true rfl) rfl ?_
  intro p e s m args below meth c hx hb hml hr hts hown hlk hK H locs hP hS ls hl
  have hB : ∀ w ∈ BIG, w.before args s = true := fun w h => hts w (List.mem_cons_of_mem _ h)
  have hC : CallFix p m c cX2_chainWithin 6 s args BIG RX2 := ⟨hx, hb, hml, hown, hB⟩
  unfold f_X2_chainWithin at hs
  refine lv_iconst (v := 0) hx hb dX2_chainWithin_0 (by decide) ?_
  refine lv_istore (lv' := [(4, .int (0 : Int32)), (0, .ref (a 16)), (1, .int p1), (2, .int p2), (3, .int p3)]) hx hb dX2_chainWithin_1 hl (by decide) rfl (fun ls hl => ?_)
  obtain ⟨n3, hs⟩ := loopC_iter hs
  have L3 : ∀ (n : Nat) (v3_4 : Int32), iterO (fun v => b_X2_chainWithin_3 st p1 p2 p3 v) n v3_4 = some res → ∀ (H : Heap) (locs : List Loc), va_P g.1 vwCl (xW g a st) H → va_S (fun _ => False) s.heap H locs → ∀ ls : Array Slot, lv_has ls 6 [(0, .ref (a 16)), (1, .int p1), (2, .int p2), (3, .int p3), (4, .int v3_4)] → W p l e ({ frames := 3, cells := 0, slots := 0, locals := 63 } : Room) s m args below meth c H locs 0 0 (MQ below (ROi res) args s 0 0 (fun _ => False)) (F0 m 3 ls []) := by
    intro n
    induction n with
    | zero => intro v3_4 hs; exact (iterO_zero hs).elim
    | succ n ih3 =>
      intro v3_4 hs H locs hP hS ls hl
      obtain ⟨y3, hs, hk3⟩ := iterO_succ hs
      have hs : b_X2_chainWithin_3 st p1 p2 p3 v3_4 = some y3 := hs
      unfold b_X2_chainWithin_3 at hs
      refine lv_iload hx hb dX2_chainWithin_3 (lv_at hl 4 rfl) ?_
      refine lv_bipush (v := 20) hx hb dX2_chainWithin_5 (by decide) ?_
      refine lv_icmp_ge (tgt := 69) hx hb dX2_chainWithin_7 (by decide) (fun c1 => ?_) (fun c1 => ?_)
      · have hs := ifp c1 hs
        refine lv_iconst (v := 1) hx hb dX2_chainWithin_69 (by decide) ?_
        cases hs
        cases elim_inr hk3
        exact ret_roz hx hb hr (zn_of (Or.inr rfl)) hlk hS dX2_chainWithin_70
      · have hs := ifn c1 hs
        refine lv_iconst (v := 0) hx hb dX2_chainWithin_10 (by decide) ?_
        refine lv_istore (lv' := [(5, .int (0 : Int32)), (0, .ref (a 16)), (1, .int p1), (2, .int p2), (3, .int p3), (4, .int v3_4)]) hx hb dX2_chainWithin_11 hl (by decide) rfl (fun ls hl => ?_)
        obtain ⟨n13, hs⟩ := loopC_iter hs
        have L13 : ∀ (n : Nat) (v13_5 : Int32), iterO (fun v => b_X2_chainWithin_13 st p1 p2 p3 v3_4 v) n v13_5 = some y3 → ∀ (H : Heap) (locs : List Loc), va_P g.1 vwCl (xW g a st) H → va_S (fun _ => False) s.heap H locs → ∀ ls : Array Slot, lv_has ls 6 [(0, .ref (a 16)), (1, .int p1), (2, .int p2), (3, .int p3), (4, .int v3_4), (5, .int v13_5)] → W p l e ({ frames := 3, cells := 0, slots := 0, locals := 63 } : Room) s m args below meth c H locs 0 0 (MQ below (ROi res) args s 0 0 (fun _ => False)) (F0 m 13 ls []) := by
          intro n
          induction n with
          | zero => intro v13_5 hs; exact (iterO_zero hs).elim
          | succ n ih13 =>
            intro v13_5 hs H locs hP hS ls hl
            obtain ⟨y13, hs, hk13⟩ := iterO_succ hs
            have hs : b_X2_chainWithin_13 st p1 p2 p3 v3_4 v13_5 = some y13 := hs
            unfold b_X2_chainWithin_13 at hs
            refine lv_iload hx hb dX2_chainWithin_13 (lv_at hl 5 rfl) ?_
            refine lv_bipush (v := 20) hx hb dX2_chainWithin_15 (by decide) ?_
            refine lv_icmp_ge (tgt := 63) hx hb dX2_chainWithin_17 (by decide) (fun c2 => ?_) (fun c2 => ?_)
            · have hs := ifp c2 hs
              refine lv_iinc (v := (v3_4 + 1)) (lv' := [(4, .int (v3_4 + 1)), (0, .ref (a 16)), (1, .int p1), (2, .int p2), (3, .int p3), (5, .int v13_5)]) hx hb dX2_chainWithin_63 hl (k := 4) rfl (by rfl) (by decide) rfl (fun ls hl => ?_)
              refine lv_goto (tgt := 3) hx hb dX2_chainWithin_66 (by decide) ?_
              cases hs
              cases elim_inr hk13
              exact ih3 (v3_4 + 1) hk3 _ _ hP hS _ (lv_sub hl [1, 2, 3, 4, 0] rfl)
            · have hs := ifn c2 hs
              refine lv_aload_n hx hb dX2_chainWithin_20 rfl (lv_at hl 0 rfl) ?_
              refine lv_iload_n hx hb dX2_chainWithin_21 rfl (lv_at hl 1 rfl) ?_
              refine lv_iload hx hb dX2_chainWithin_22 (lv_at hl 4 rfl) ?_
              refine cV_roi (As := [.int p1, .int v3_4]) (rest := []) hC (m_X2_partners l g a st p1 v3_4) (kv_of hB bw_19_21 bw_19_19 bw_19_20 bw_2_10 kd_X2_partners bw_19_18 rfl rfl ⟨Nat.le_of_ble_eq_true rfl, Nat.le_of_ble_eq_true rfl⟩) hK hP hP hS (xW_16 g a st) rfl rfl hl.1 rfl (Nat.le_of_ble_eq_true rfl) dX2_chainWithin_24 ⟨Nat.zero_le _, Nat.zero_le _⟩ (fun H locs hP hS => ?_)
              refine lv_iload hx hb dX2_chainWithin_27 (lv_at hl 5 rfl) ?_
              refine cN_roi (As := [.int (t_X2_partners st p1 v3_4), .int v13_5]) (rest := []) hC (m_X6_hasBit l g (xW g a st) (t_X2_partners st p1 v3_4) v13_5) (kn_of (host := "NotionRounds") hB bw_19_7 bw_19_6 bw_1_2 kd_X6_hasBit (hK.2 _ (List.mem_of_getElem? (i := 40) rfl)) rfl rfl ⟨Nat.le_of_ble_eq_true rfl, Nat.le_of_ble_eq_true rfl⟩) hK hP hP hS rfl hl.1 rfl (Nat.le_of_ble_eq_true rfl) dX2_chainWithin_29 ⟨Nat.zero_le _, Nat.zero_le _⟩ (fun H locs hP hS => ?_)
              refine lv_if_eq (tgt := 57) hx hb dX2_chainWithin_32 (by decide) (fun c3 => ?_) (fun c3 => ?_)
              · have hs := ifp c3 hs
                refine lv_iinc (v := (v13_5 + 1)) (lv' := [(5, .int (v13_5 + 1)), (0, .ref (a 16)), (1, .int p1), (2, .int p2), (3, .int p3), (4, .int v3_4)]) hx hb dX2_chainWithin_57 hl (k := 5) rfl (by rfl) (by decide) rfl (fun ls hl => ?_)
                refine lv_goto (tgt := 13) hx hb dX2_chainWithin_60 (by decide) ?_
                cases hs
                exact ih13 (v13_5 + 1) hk13 _ _ hP hS _ (lv_sub hl [1, 2, 3, 4, 5, 0] rfl)
              · have hs := ifn c3 hs
                refine lv_aload_n hx hb dX2_chainWithin_35 rfl (lv_at hl 0 rfl) ?_
                refine lv_iload_n hx hb dX2_chainWithin_36 rfl (lv_at hl 2 rfl) ?_
                refine lv_iload hx hb dX2_chainWithin_37 (lv_at hl 5 rfl) ?_
                refine cV_roi (As := [.int p2, .int v13_5]) (rest := []) hC (m_X2_partners l g a st p2 v13_5) (kv_of hB bw_19_21 bw_19_19 bw_19_20 bw_2_10 kd_X2_partners bw_19_18 rfl rfl ⟨Nat.le_of_ble_eq_true rfl, Nat.le_of_ble_eq_true rfl⟩) hK hP hP hS (xW_16 g a st) rfl rfl hl.1 rfl (Nat.le_of_ble_eq_true rfl) dX2_chainWithin_39 ⟨Nat.zero_le _, Nat.zero_le _⟩ (fun H locs hP hS => ?_)
                refine lv_aload_n hx hb dX2_chainWithin_42 rfl (lv_at hl 0 rfl) ?_
                refine lv_iload_n hx hb dX2_chainWithin_43 rfl (lv_at hl 3 rfl) ?_
                refine lv_iload hx hb dX2_chainWithin_44 (lv_at hl 4 rfl) ?_
                refine cV_roi (As := [.int p3, .int v3_4]) (rest := [.int (t_X2_partners st p2 v13_5)]) hC (m_X2_partners l g a st p3 v3_4) (kv_of hB bw_19_21 bw_19_19 bw_19_20 bw_2_10 kd_X2_partners bw_19_18 rfl rfl ⟨Nat.le_of_ble_eq_true rfl, Nat.le_of_ble_eq_true rfl⟩) hK hP hP hS (xW_16 g a st) rfl rfl hl.1 rfl (Nat.le_of_ble_eq_true rfl) dX2_chainWithin_46 ⟨Nat.zero_le _, Nat.zero_le _⟩ (fun H locs hP hS => ?_)
                refine lv_iconst (v := -1) hx hb dX2_chainWithin_49 (by decide) ?_
                refine lv_ixor hx hb dX2_chainWithin_50 ?_
                refine lv_iand hx hb dX2_chainWithin_51 ?_
                refine lv_if_eq (tgt := 57) hx hb dX2_chainWithin_52 (by decide) (fun c4 => ?_) (fun c4 => ?_)
                · have hs := ifp c4 hs
                  refine lv_iinc (v := (v13_5 + 1)) (lv' := [(5, .int (v13_5 + 1)), (0, .ref (a 16)), (1, .int p1), (2, .int p2), (3, .int p3), (4, .int v3_4)]) hx hb dX2_chainWithin_57 hl (k := 5) rfl (by rfl) (by decide) rfl (fun ls hl => ?_)
                  refine lv_goto (tgt := 13) hx hb dX2_chainWithin_60 (by decide) ?_
                  cases hs
                  exact ih13 (v13_5 + 1) hk13 _ _ hP hS _ (lv_sub hl [1, 2, 3, 4, 5, 0] rfl)
                · have hs := ifn c4 hs
                  refine lv_iconst (v := 0) hx hb dX2_chainWithin_55 (by decide) ?_
                  cases hs
                  cases elim_inr hk13
                  cases elim_inr hk3
                  exact ret_roz hx hb hr (zn_of (Or.inl rfl)) hlk hS dX2_chainWithin_56
        exact L13 n13 (0 : Int32) hs _ _ hP hS _ (lv_sub hl [1, 2, 3, 4, 5, 0] rfl)
  exact L3 n3 (0 : Int32) hs _ _ hP hS _ (lv_sub hl [1, 2, 3, 4, 0] rfl)
noncomputable def f_X6_isSo (st : XS) (p1 : Int32) : Option Int32 :=
  (if (t_X0_part st p1 (0 : Int32)) = 0 then (if ((t_X2_members st (t_X0_part st p1 (1 : Int32))) &&& ((t_X2_members st (t_X0_part st p1 (2 : Int32))) ^^^ (-1 : Int32))) = 0 then some ((1 : Int32)) else some ((0 : Int32))) else (if (t_X0_part st p1 (0 : Int32)) = 1 then (Option.bind (f_X2_roleWithin st (t_X0_part st p1 (1 : Int32)) (t_X0_part st p1 (2 : Int32))) (fun r4 => (Option.bind (zg r4) (fun r5 => some (r5))))) else (Option.bind (f_X2_chainWithin st (t_X0_part st p1 (1 : Int32)) (t_X0_part st p1 (2 : Int32)) (t_X0_part st p1 (3 : Int32))) (fun r6 => (Option.bind (zg r6) (fun r7 => some (r7)))))))
set_option maxHeartbeats 4000000 in
set_option maxRecDepth 100000 in
theorem m_X6_isSo (l : Launch) (g : GG) (a : Nat → Nat) (st : XS) (p1 : Int32) (res : Int32) (hs : f_X6_isSo st p1 = some res) : Met l yX6_isSo (Cond.code yX6_isSo cX6_isSo 4 (some .boolean) :: BIG) ({ frames := 4, cells := 0, slots := 0, locals := 88 } : Room) (va_Pc [.ref (a 0), .int p1] (ROp g (xW g a st))) (ROi res) 0 0 (fun _ => False) := by
  refine ro_start (cc := cX6_isSo) (maxL := 4) (ret := (some .boolean)) (lv := [(0, .ref (a 0)), (1, .int p1)]) (by decide) rfl (Nat.le_of_ble_eq_true rfl) rfl ?_
  intro p e s m args below meth c hx hb hml hr hts hown hlk hK H locs hP hS ls hl
  have hB : ∀ w ∈ BIG, w.before args s = true := fun w h => hts w (List.mem_cons_of_mem _ h)
  have hC : CallFix p m c cX6_isSo 4 s args BIG RX6 := ⟨hx, hb, hml, hown, hB⟩
  unfold f_X6_isSo at hs
  refine lv_aload_n hx hb dX6_isSo_0 rfl (lv_at hl 0 rfl) ?_
  refine xg_6_1 hx hb hB hown hK hP dX6_isSo_1 ?_
  refine lv_iload_n hx hb dX6_isSo_4 rfl (lv_at hl 1 rfl) ?_
  refine lv_iconst (v := 1) hx hb dX6_isSo_5 (by decide) ?_
  refine cV_roi (As := [.int p1, .int (1 : Int32)]) (rest := []) hC (m_X0_part l g a st p1 (1 : Int32)) (kv_of hB bw_11_20 bw_11_18 bw_11_19 bw_1_18 kd_X0_part bw_12_19 rfl rfl ⟨Nat.le_of_ble_eq_true rfl, Nat.le_of_ble_eq_true rfl⟩) hK hP hP hS (xW_3 g a st) rfl rfl hl.1 rfl (Nat.le_of_ble_eq_true rfl) dX6_isSo_6 ⟨Nat.zero_le _, Nat.zero_le _⟩ (fun H locs hP hS => ?_)
  refine lv_istore_n (lv' := [(2, .int (t_X0_part st p1 (1 : Int32))), (0, .ref (a 0)), (1, .int p1)]) hx hb dX6_isSo_9 rfl hl (by decide) rfl (fun ls hl => ?_)
  refine lv_aload_n hx hb dX6_isSo_10 rfl (lv_at hl 1 rfl) ?_
  refine xg_6_1 hx hb hB hown hK hP dX6_isSo_11 ?_
  refine lv_iload_n hx hb dX6_isSo_14 rfl (lv_at hl 2 rfl) ?_
  refine lv_iconst (v := 2) hx hb dX6_isSo_15 (by decide) ?_
  refine cV_roi (As := [.int p1, .int (2 : Int32)]) (rest := []) hC (m_X0_part l g a st p1 (2 : Int32)) (kv_of hB bw_11_20 bw_11_18 bw_11_19 bw_1_18 kd_X0_part bw_12_19 rfl rfl ⟨Nat.le_of_ble_eq_true rfl, Nat.le_of_ble_eq_true rfl⟩) hK hP hP hS (xW_3 g a st) rfl rfl hl.1 rfl (Nat.le_of_ble_eq_true rfl) dX6_isSo_16 ⟨Nat.zero_le _, Nat.zero_le _⟩ (fun H locs hP hS => ?_)
  refine lv_istore_n (lv' := [(3, .int (t_X0_part st p1 (2 : Int32))), (2, .int (t_X0_part st p1 (1 : Int32))), (0, .ref (a 0)), (1, .int p1)]) hx hb dX6_isSo_19 rfl hl (by decide) rfl (fun ls hl => ?_)
  refine lv_aload_n hx hb dX6_isSo_20 rfl (lv_at hl 2 rfl) ?_
  refine xg_6_1 hx hb hB hown hK hP dX6_isSo_21 ?_
  refine lv_iload_n hx hb dX6_isSo_24 rfl (lv_at hl 3 rfl) ?_
  refine lv_iconst (v := 0) hx hb dX6_isSo_25 (by decide) ?_
  refine cV_roi (As := [.int p1, .int (0 : Int32)]) (rest := []) hC (m_X0_part l g a st p1 (0 : Int32)) (kv_of hB bw_11_20 bw_11_18 bw_11_19 bw_1_18 kd_X0_part bw_12_19 rfl rfl ⟨Nat.le_of_ble_eq_true rfl, Nat.le_of_ble_eq_true rfl⟩) hK hP hP hS (xW_3 g a st) rfl rfl hl.1 rfl (Nat.le_of_ble_eq_true rfl) dX6_isSo_26 ⟨Nat.zero_le _, Nat.zero_le _⟩ (fun H locs hP hS => ?_)
  by_cases c1 : (t_X0_part st p1 (0 : Int32)) = 0
  · have hs := ifp c1 hs
    refine lv_lookup (tgt := 56) (off := 27) hx hb dX6_isSo_29 (by decide) (by rw [sw_in (a := 0) c1 (by decide)]; rfl) (by decide) ?_
    refine lv_aload_n hx hb dX6_isSo_56 rfl (lv_at hl 2 rfl) ?_
    refine xg_6_5 hx hb hB hown hK hP dX6_isSo_57 ?_
    refine lv_iload_n hx hb dX6_isSo_60 rfl (lv_at hl 1 rfl) ?_
    refine cV_roi (As := [.int (t_X0_part st p1 (1 : Int32))]) (rest := []) hC (m_X2_members l g a st (t_X0_part st p1 (1 : Int32))) (kv_of hB bw_20_11 bw_20_9 bw_20_10 bw_2_10 kd_X2_members bw_29_14 rfl rfl ⟨Nat.le_of_ble_eq_true rfl, Nat.le_of_ble_eq_true rfl⟩) hK hP hP hS (xW_16 g a st) rfl rfl hl.1 rfl (Nat.le_of_ble_eq_true rfl) dX6_isSo_61 ⟨Nat.zero_le _, Nat.zero_le _⟩ (fun H locs hP hS => ?_)
    refine lv_aload_n hx hb dX6_isSo_64 rfl (lv_at hl 2 rfl) ?_
    refine xg_6_5 hx hb hB hown hK hP dX6_isSo_65 ?_
    refine lv_iload_n hx hb dX6_isSo_68 rfl (lv_at hl 0 rfl) ?_
    refine cV_roi (As := [.int (t_X0_part st p1 (2 : Int32))]) (rest := [.int (t_X2_members st (t_X0_part st p1 (1 : Int32)))]) hC (m_X2_members l g a st (t_X0_part st p1 (2 : Int32))) (kv_of hB bw_20_11 bw_20_9 bw_20_10 bw_2_10 kd_X2_members bw_29_14 rfl rfl ⟨Nat.le_of_ble_eq_true rfl, Nat.le_of_ble_eq_true rfl⟩) hK hP hP hS (xW_16 g a st) rfl rfl hl.1 rfl (Nat.le_of_ble_eq_true rfl) dX6_isSo_69 ⟨Nat.zero_le _, Nat.zero_le _⟩ (fun H locs hP hS => ?_)
    refine lv_iconst (v := -1) hx hb dX6_isSo_72 (by decide) ?_
    refine lv_ixor hx hb dX6_isSo_73 ?_
    refine lv_iand hx hb dX6_isSo_74 ?_
    refine lv_if_ne (tgt := 82) hx hb dX6_isSo_75 (by decide) (fun c2 => ?_) (fun c2 => ?_)
    · have hs := ifn c2 hs
      refine lv_iconst (v := 0) hx hb dX6_isSo_82 (by decide) ?_
      cases hs
      exact ret_roz hx hb hr (zn_of (Or.inl rfl)) hlk hS dX6_isSo_83
    · have hs := ifp c2 hs
      refine lv_iconst (v := 1) hx hb dX6_isSo_78 (by decide) ?_
      refine lv_goto (tgt := 83) hx hb dX6_isSo_79 (by decide) ?_
      cases hs
      exact ret_roz hx hb hr (zn_of (Or.inr rfl)) hlk hS dX6_isSo_83
  · have hs := ifn c1 hs
    by_cases c3 : (t_X0_part st p1 (0 : Int32)) = 1
    · have hs := ifp c3 hs
      refine lv_lookup (tgt := 84) (off := 55) hx hb dX6_isSo_29 (by decide) (by rw [sw_in (a := 1) c3 (by decide)]; rfl) (by decide) ?_
      refine lv_aload_n hx hb dX6_isSo_84 rfl (lv_at hl 2 rfl) ?_
      refine xg_6_5 hx hb hB hown hK hP dX6_isSo_85 ?_
      refine lv_iload_n hx hb dX6_isSo_88 rfl (lv_at hl 1 rfl) ?_
      refine lv_iload_n hx hb dX6_isSo_89 rfl (lv_at hl 0 rfl) ?_
      obtain ⟨r4, e4, hs⟩ := Option.bind_eq_some_iff.mp hs
      refine cV_roi (As := [.int (t_X0_part st p1 (1 : Int32)), .int (t_X0_part st p1 (2 : Int32))]) (rest := []) hC (m_X2_roleWithin l g a st (t_X0_part st p1 (1 : Int32)) (t_X0_part st p1 (2 : Int32)) r4 e4) (kv_of hB bw_31_7 bw_31_5 bw_31_6 bw_2_10 kd_X2_roleWithin bw_31_4 rfl rfl ⟨Nat.le_of_ble_eq_true rfl, Nat.le_of_ble_eq_true rfl⟩) hK hP hP hS (xW_16 g a st) rfl rfl hl.1 rfl (Nat.le_of_ble_eq_true rfl) dX6_isSo_90 ⟨Nat.zero_le _, Nat.zero_le _⟩ (fun H locs hP hS => ?_)
      obtain ⟨r5, e5, hs⟩ := Option.bind_eq_some_iff.mp hs
      obtain ⟨z5, e5⟩ := zg_some e5
      subst e5
      cases hs
      exact ret_roz hx hb hr z5 hlk hS dX6_isSo_93
    · have hs := ifn c3 hs
      have q1 := lv_neT (a := 0) c1 (by decide)
      have q3 := lv_neT (a := 1) c3 (by decide)
      refine lv_lookup (tgt := 94) (off := 65) hx hb dX6_isSo_29 (by decide) (by rw [lv_osw (a := 0) c1 (by decide), lv_osw (a := 1) c3 (by decide)]; rfl) (by decide) ?_
      refine lv_aload_n hx hb dX6_isSo_94 rfl (lv_at hl 2 rfl) ?_
      refine xg_6_5 hx hb hB hown hK hP dX6_isSo_95 ?_
      refine lv_iload_n hx hb dX6_isSo_98 rfl (lv_at hl 1 rfl) ?_
      refine lv_iload_n hx hb dX6_isSo_99 rfl (lv_at hl 0 rfl) ?_
      refine lv_aload_n hx hb dX6_isSo_100 rfl (lv_at hl 2 rfl) ?_
      refine xg_6_1 hx hb hB hown hK hP dX6_isSo_101 ?_
      refine lv_iload_n hx hb dX6_isSo_104 rfl (lv_at hl 3 rfl) ?_
      refine lv_iconst (v := 3) hx hb dX6_isSo_105 (by decide) ?_
      refine cV_roi (As := [.int p1, .int (3 : Int32)]) (rest := [.int (t_X0_part st p1 (2 : Int32)), .int (t_X0_part st p1 (1 : Int32)), .ref (a 16)]) hC (m_X0_part l g a st p1 (3 : Int32)) (kv_of hB bw_11_20 bw_11_18 bw_11_19 bw_1_18 kd_X0_part bw_12_19 rfl rfl ⟨Nat.le_of_ble_eq_true rfl, Nat.le_of_ble_eq_true rfl⟩) hK hP hP hS (xW_3 g a st) rfl rfl hl.1 rfl (Nat.le_of_ble_eq_true rfl) dX6_isSo_106 ⟨Nat.zero_le _, Nat.zero_le _⟩ (fun H locs hP hS => ?_)
      obtain ⟨r6, e6, hs⟩ := Option.bind_eq_some_iff.mp hs
      refine cV_roi (As := [.int (t_X0_part st p1 (1 : Int32)), .int (t_X0_part st p1 (2 : Int32)), .int (t_X0_part st p1 (3 : Int32))]) (rest := []) hC (m_X2_chainWithin l g a st (t_X0_part st p1 (1 : Int32)) (t_X0_part st p1 (2 : Int32)) (t_X0_part st p1 (3 : Int32)) r6 e6) (kv_of hB bw_31_11 bw_31_9 bw_31_10 bw_2_10 kd_X2_chainWithin bw_31_8 rfl rfl ⟨Nat.le_of_ble_eq_true rfl, Nat.le_of_ble_eq_true rfl⟩) hK hP hP hS (xW_16 g a st) rfl rfl hl.1 rfl (Nat.le_of_ble_eq_true rfl) dX6_isSo_109 ⟨Nat.zero_le _, Nat.zero_le _⟩ (fun H locs hP hS => ?_)
      obtain ⟨r7, e7, hs⟩ := Option.bind_eq_some_iff.mp hs
      obtain ⟨z7, e7⟩ := zg_some e7
      subst e7
      cases hs
      exact ret_roz hx hb hr z7 hlk hS dX6_isSo_112
noncomputable def f_X6_holds (st : XS) (p1 : Int32) : Option Int32 :=
  (if (st.1 36 0) = 0 then some ((-103 : Int32)) else (if (t_X0_knows st p1) = 0 then some ((-101 : Int32)) else (Option.bind (f_X6_isSo st p1) (fun r3 => some ((t_X6_oneIf r3))))))
set_option maxHeartbeats 4000000 in
set_option maxRecDepth 100000 in
theorem m_X6_holds (l : Launch) (g : GG) (a : Nat → Nat) (st : XS) (p1 : Int32) (res : Int32) (hs : f_X6_holds st p1 = some res) : Met l yX6_holds (Cond.code yX6_holds cX6_holds 2 (some .int) :: BIG) ({ frames := 5, cells := 0, slots := 0, locals := 111 } : Room) (va_Pc [.ref (a 0), .int p1] (ROp g (xW g a st))) (ROi res) 0 0 (fun _ => False) := by
  refine ro_start (cc := cX6_holds) (maxL := 2) (ret := (some .int)) (lv := [(0, .ref (a 0)), (1, .int p1)]) (by decide) rfl (Nat.le_of_ble_eq_true rfl) rfl ?_
  intro p e s m args below meth c hx hb hml hr hts hown hlk hK H locs hP hS ls hl
  have hB : ∀ w ∈ BIG, w.before args s = true := fun w h => hts w (List.mem_cons_of_mem _ h)
  have hC : CallFix p m c cX6_holds 2 s args BIG RX6 := ⟨hx, hb, hml, hown, hB⟩
  unfold f_X6_holds at hs
  refine lv_aload_n hx hb dX6_holds_0 rfl (lv_at hl 0 rfl) ?_
  refine xg_6_7 hx hb hB hown hK hP dX6_holds_1 ?_
  refine lv_if_ne (tgt := 10) hx hb dX6_holds_4 (by decide) (fun c1 => ?_) (fun c1 => ?_)
  · have hs := ifn c1 hs
    refine lv_aload_n hx hb dX6_holds_10 rfl (lv_at hl 0 rfl) ?_
    refine xg_6_1 hx hb hB hown hK hP dX6_holds_11 ?_
    refine lv_iload_n hx hb dX6_holds_14 rfl (lv_at hl 1 rfl) ?_
    refine cV_roi (As := [.int p1]) (rest := []) hC (m_X0_knows l g a st p1) (kv_of hB bw_11_16 bw_11_14 bw_11_15 bw_1_18 kd_X0_knows bw_12_18 rfl rfl ⟨Nat.le_of_ble_eq_true rfl, Nat.le_of_ble_eq_true rfl⟩) hK hP hP hS (xW_3 g a st) rfl rfl hl.1 rfl (Nat.le_of_ble_eq_true rfl) dX6_holds_15 ⟨Nat.zero_le _, Nat.zero_le _⟩ (fun H locs hP hS => ?_)
    refine lv_if_ne (tgt := 24) hx hb dX6_holds_18 (by decide) (fun c2 => ?_) (fun c2 => ?_)
    · have hs := ifn c2 hs
      refine lv_aload_n hx hb dX6_holds_24 rfl (lv_at hl 0 rfl) ?_
      refine lv_iload_n hx hb dX6_holds_25 rfl (lv_at hl 1 rfl) ?_
      obtain ⟨r3, e3, hs⟩ := Option.bind_eq_some_iff.mp hs
      refine cV_roi (As := [.int p1]) (rest := []) hC (m_X6_isSo l g a st p1 r3 e3) (kv_of hB bw_31_3 bw_31_1 bw_31_2 bw_1_2 kd_X6_isSo bw_31_0 rfl rfl ⟨Nat.le_of_ble_eq_true rfl, Nat.le_of_ble_eq_true rfl⟩) hK hP hP hS (xW_0 g a st) rfl rfl hl.1 rfl (Nat.le_of_ble_eq_true rfl) dX6_holds_26 ⟨Nat.zero_le _, Nat.zero_le _⟩ (fun H locs hP hS => ?_)
      refine cS_roi (As := [.int r3]) (rest := []) hC (m_X6_oneIf l g (xW g a st) r3) (ks_of hB bw_24_10 bw_24_9 bw_1_2 kd_X6_oneIf bw_26_21 rfl rfl ⟨Nat.le_of_ble_eq_true rfl, Nat.le_of_ble_eq_true rfl⟩) hK hP hP hS rfl hl.1 rfl (Nat.le_of_ble_eq_true rfl) dX6_holds_29 ⟨Nat.zero_le _, Nat.zero_le _⟩ (fun H locs hP hS => ?_)
      cases hs
      exact ret_roi hx hb hr hlk hS dX6_holds_32
    · have hs := ifp c2 hs
      refine lv_bipush (v := -101) hx hb dX6_holds_21 (by decide) ?_
      cases hs
      exact ret_roi hx hb hr hlk hS dX6_holds_23
  · have hs := ifp c1 hs
    refine lv_bipush (v := -103) hx hb dX6_holds_7 (by decide) ?_
    cases hs
    exact ret_roi hx hb hr hlk hS dX6_holds_9
noncomputable def b_X0_holdingCount_4 (st : XS) (v4_1 : Int32) (v4_2 : Int32) : Option ((Int32 × Int32) ⊕ Int32) :=
  (if (st.1 32 0) ≤ v4_2 then some (Sum.inr (v4_1)) else some (Sum.inl ((v4_1 + (t_X6_oneIf (t_X0_holding st v4_2))), (v4_2 + 1))))
noncomputable def f_X0_holdingCount (st : XS) : Option Int32 :=
  (loopC (fun v => b_X0_holdingCount_4 st v.1 v.2) ((0 : Int32), (0 : Int32)))
set_option maxHeartbeats 4000000 in
set_option maxRecDepth 100000 in
theorem m_X0_holdingCount (l : Launch) (g : GG) (a : Nat → Nat) (st : XS)  (res : Int32) (hs : f_X0_holdingCount st = some res) : Met l yX0_holdingCount (Cond.code yX0_holdingCount cX0_holdingCount 3 (some .int) :: BIG) ({ frames := 3, cells := 0, slots := 0, locals := 64 } : Room) (va_Pc [.ref (a 3)] (ROp g (xW g a st))) (ROi res) 0 0 (fun _ => False) := by
  refine ro_start (cc := cX0_holdingCount) (maxL := 3) (ret := (some .int)) (lv := [(0, .ref (a 3))]) (by decide) rfl (Nat.le_of_ble_eq_true rfl) rfl ?_
  intro p e s m args below meth c hx hb hml hr hts hown hlk hK H locs hP hS ls hl
  have hB : ∀ w ∈ BIG, w.before args s = true := fun w h => hts w (List.mem_cons_of_mem _ h)
  have hC : CallFix p m c cX0_holdingCount 3 s args BIG RX0 := ⟨hx, hb, hml, hown, hB⟩
  unfold f_X0_holdingCount at hs
  refine lv_iconst (v := 0) hx hb dX0_holdingCount_0 (by decide) ?_
  refine lv_istore_n (lv' := [(1, .int (0 : Int32)), (0, .ref (a 3))]) hx hb dX0_holdingCount_1 rfl hl (by decide) rfl (fun ls hl => ?_)
  refine lv_iconst (v := 0) hx hb dX0_holdingCount_2 (by decide) ?_
  refine lv_istore_n (lv' := [(2, .int (0 : Int32)), (1, .int (0 : Int32)), (0, .ref (a 3))]) hx hb dX0_holdingCount_3 rfl hl (by decide) rfl (fun ls hl => ?_)
  obtain ⟨n4, hs⟩ := loopC_iter hs
  have L4 : ∀ (n : Nat) (v4_1 : Int32) (v4_2 : Int32), iterO (fun v => b_X0_holdingCount_4 st v.1 v.2) n (v4_1, v4_2) = some res → ∀ (H : Heap) (locs : List Loc), va_P g.1 vwCl (xW g a st) H → va_S (fun _ => False) s.heap H locs → ∀ ls : Array Slot, lv_has ls 3 [(0, .ref (a 3)), (1, .int v4_1), (2, .int v4_2)] → W p l e ({ frames := 3, cells := 0, slots := 0, locals := 64 } : Room) s m args below meth c H locs 0 0 (MQ below (ROi res) args s 0 0 (fun _ => False)) (F0 m 4 ls []) := by
    intro n
    induction n with
    | zero => intro v4_1 v4_2 hs; exact (iterO_zero hs).elim
    | succ n ih4 =>
      intro v4_1 v4_2 hs H locs hP hS ls hl
      obtain ⟨y4, hs, hk4⟩ := iterO_succ hs
      have hs : b_X0_holdingCount_4 st v4_1 v4_2 = some y4 := hs
      unfold b_X0_holdingCount_4 at hs
      refine lv_iload_n hx hb dX0_holdingCount_4 rfl (lv_at hl 2 rfl) ?_
      refine lv_aload_n hx hb dX0_holdingCount_5 rfl (lv_at hl 0 rfl) ?_
      refine xg_0_1 hx hb hB hown hK hP dX0_holdingCount_6 ?_
      refine lv_icmp_ge (tgt := 29) hx hb dX0_holdingCount_9 (by decide) (fun c1 => ?_) (fun c1 => ?_)
      · have hs := ifp c1 hs
        refine lv_iload_n hx hb dX0_holdingCount_29 rfl (lv_at hl 1 rfl) ?_
        cases hs
        cases elim_inr hk4
        exact ret_roi hx hb hr hlk hS dX0_holdingCount_30
      · have hs := ifn c1 hs
        refine lv_iload_n hx hb dX0_holdingCount_12 rfl (lv_at hl 1 rfl) ?_
        refine lv_aload_n hx hb dX0_holdingCount_13 rfl (lv_at hl 0 rfl) ?_
        refine lv_iload_n hx hb dX0_holdingCount_14 rfl (lv_at hl 2 rfl) ?_
        refine cV_roi (As := [.int v4_2]) (rest := [.int v4_1]) hC (m_X0_holding l g a st v4_2) (kv_of hB bw_11_12 bw_11_10 bw_11_11 bw_1_18 kd_X0_holding bw_32_4 rfl rfl ⟨Nat.le_of_ble_eq_true rfl, Nat.le_of_ble_eq_true rfl⟩) hK hP hP hS (xW_3 g a st) rfl rfl hl.1 rfl (Nat.le_of_ble_eq_true rfl) dX0_holdingCount_15 ⟨Nat.zero_le _, Nat.zero_le _⟩ (fun H locs hP hS => ?_)
        refine cN_roi (As := [.int (t_X0_holding st v4_2)]) (rest := [.int v4_1]) hC (m_X6_oneIf l g (xW g a st) (t_X0_holding st v4_2)) (kn_of (host := "NotionRounds") hB bw_24_10 bw_24_9 bw_1_2 kd_X6_oneIf (hK.2 _ (List.mem_of_getElem? (i := 52) rfl)) rfl rfl ⟨Nat.le_of_ble_eq_true rfl, Nat.le_of_ble_eq_true rfl⟩) hK hP hP hS rfl hl.1 rfl (Nat.le_of_ble_eq_true rfl) dX0_holdingCount_18 ⟨Nat.zero_le _, Nat.zero_le _⟩ (fun H locs hP hS => ?_)
        refine lv_iadd hx hb dX0_holdingCount_21 ?_
        refine lv_istore_n (lv' := [(1, .int (v4_1 + (t_X6_oneIf (t_X0_holding st v4_2)))), (0, .ref (a 3)), (2, .int v4_2)]) hx hb dX0_holdingCount_22 rfl hl (by decide) rfl (fun ls hl => ?_)
        refine lv_iinc (v := (v4_2 + 1)) (lv' := [(2, .int (v4_2 + 1)), (1, .int (v4_1 + (t_X6_oneIf (t_X0_holding st v4_2)))), (0, .ref (a 3))]) hx hb dX0_holdingCount_23 hl (k := 2) rfl (by rfl) (by decide) rfl (fun ls hl => ?_)
        refine lv_goto (tgt := 4) hx hb dX0_holdingCount_26 (by decide) ?_
        cases hs
        exact ih4 (v4_1 + (t_X6_oneIf (t_X0_holding st v4_2))) (v4_2 + 1) hk4 _ _ hP hS _ (lv_sub hl [2, 1, 0] rfl)
  exact L4 n4 (0 : Int32) (0 : Int32) hs _ _ hP hS _ (lv_sub hl [2, 1, 0] rfl)
noncomputable def f_X6_count (st : XS) (p1 : Int32) : Option Int32 :=
  (if p1 = 0 then some ((st.1 30 0)) else (if p1 = 1 then some ((st.1 31 0)) else (if p1 = 2 then some ((st.1 32 0)) else (if p1 = 3 then (Option.bind (f_X0_holdingCount st) (fun r5 => some (r5))) else (if p1 = 4 then some ((st.1 35 0)) else some ((-102 : Int32)))))))
set_option maxHeartbeats 4000000 in
set_option maxRecDepth 100000 in
theorem m_X6_count (l : Launch) (g : GG) (a : Nat → Nat) (st : XS) (p1 : Int32) (res : Int32) (hs : f_X6_count st p1 = some res) : Met l yX6_count (Cond.code yX6_count cX6_count 2 (some .int) :: BIG) ({ frames := 4, cells := 0, slots := 0, locals := 86 } : Room) (va_Pc [.ref (a 0), .int p1] (ROp g (xW g a st))) (ROi res) 0 0 (fun _ => False) := by
  refine ro_start (cc := cX6_count) (maxL := 2) (ret := (some .int)) (lv := [(0, .ref (a 0)), (1, .int p1)]) (by decide) rfl (Nat.le_of_ble_eq_true rfl) rfl ?_
  intro p e s m args below meth c hx hb hml hr hts hown hlk hK H locs hP hS ls hl
  have hB : ∀ w ∈ BIG, w.before args s = true := fun w h => hts w (List.mem_cons_of_mem _ h)
  have hC : CallFix p m c cX6_count 2 s args BIG RX6 := ⟨hx, hb, hml, hown, hB⟩
  unfold f_X6_count at hs
  refine lv_iload_n hx hb dX6_count_0 rfl (lv_at hl 1 rfl) ?_
  by_cases c1 : p1 = 0
  · have hs := ifp c1 hs
    refine lv_tableIn (tgt := 36) (off := 35) hx hb dX6_count_1 (by rw [sw_in (a := 0) c1 (by decide)]; decide) (by rw [sw_in (a := 0) c1 (by decide)]; decide) (by rw [sw_in (a := 0) c1 (by decide)]; rfl) (by decide) ?_
    refine lv_aload_n hx hb dX6_count_36 rfl (lv_at hl 0 rfl) ?_
    refine xg_6_0 hx hb hB hown hK hP dX6_count_37 ?_
    refine xn_RX6_145 hx hb hB hown hK hP dX6_count_40 ?_
    cases hs
    exact ret_roi hx hb hr hlk hS dX6_count_43
  · have hs := ifn c1 hs
    by_cases c2 : p1 = 1
    · have hs := ifp c2 hs
      refine lv_tableIn (tgt := 44) (off := 43) hx hb dX6_count_1 (by rw [sw_in (a := 1) c2 (by decide)]; decide) (by rw [sw_in (a := 1) c2 (by decide)]; decide) (by rw [sw_in (a := 1) c2 (by decide)]; rfl) (by decide) ?_
      refine lv_aload_n hx hb dX6_count_44 rfl (lv_at hl 0 rfl) ?_
      refine xg_6_0 hx hb hB hown hK hP dX6_count_45 ?_
      refine xn_RX6_61 hx hb hB hown hK hP dX6_count_48 ?_
      cases hs
      exact ret_roi hx hb hr hlk hS dX6_count_51
    · have hs := ifn c2 hs
      by_cases c3 : p1 = 2
      · have hs := ifp c3 hs
        refine lv_tableIn (tgt := 52) (off := 51) hx hb dX6_count_1 (by rw [sw_in (a := 2) c3 (by decide)]; decide) (by rw [sw_in (a := 2) c3 (by decide)]; decide) (by rw [sw_in (a := 2) c3 (by decide)]; rfl) (by decide) ?_
        refine lv_aload_n hx hb dX6_count_52 rfl (lv_at hl 0 rfl) ?_
        refine xg_6_1 hx hb hB hown hK hP dX6_count_53 ?_
        refine xn_RX6_169 hx hb hB hown hK hP dX6_count_56 ?_
        cases hs
        exact ret_roi hx hb hr hlk hS dX6_count_59
      · have hs := ifn c3 hs
        by_cases c4 : p1 = 3
        · have hs := ifp c4 hs
          refine lv_tableIn (tgt := 60) (off := 59) hx hb dX6_count_1 (by rw [sw_in (a := 3) c4 (by decide)]; decide) (by rw [sw_in (a := 3) c4 (by decide)]; decide) (by rw [sw_in (a := 3) c4 (by decide)]; rfl) (by decide) ?_
          refine lv_aload_n hx hb dX6_count_60 rfl (lv_at hl 0 rfl) ?_
          refine xg_6_1 hx hb hB hown hK hP dX6_count_61 ?_
          obtain ⟨r5, e5, hs⟩ := Option.bind_eq_some_iff.mp hs
          refine cV_roi (As := []) (rest := []) hC (m_X0_holdingCount l g a st r5 e5) (kv_of hB bw_32_3 bw_32_1 bw_32_2 bw_1_18 kd_X0_holdingCount bw_32_0 rfl rfl ⟨Nat.le_of_ble_eq_true rfl, Nat.le_of_ble_eq_true rfl⟩) hK hP hP hS (xW_3 g a st) rfl rfl hl.1 rfl (Nat.le_of_ble_eq_true rfl) dX6_count_64 ⟨Nat.zero_le _, Nat.zero_le _⟩ (fun H locs hP hS => ?_)
          cases hs
          exact ret_roi hx hb hr hlk hS dX6_count_67
        · have hs := ifn c4 hs
          by_cases c6 : p1 = 4
          · have hs := ifp c6 hs
            refine lv_tableIn (tgt := 68) (off := 67) hx hb dX6_count_1 (by rw [sw_in (a := 4) c6 (by decide)]; decide) (by rw [sw_in (a := 4) c6 (by decide)]; decide) (by rw [sw_in (a := 4) c6 (by decide)]; rfl) (by decide) ?_
            refine lv_aload_n hx hb dX6_count_68 rfl (lv_at hl 0 rfl) ?_
            refine xg_6_6 hx hb hB hown hK hP dX6_count_69 ?_
            cases hs
            exact ret_roi hx hb hr hlk hS dX6_count_72
          · have hs := ifn c6 hs
            have q1 := lv_neT (a := 0) c1 (by decide)
            have q2 := lv_neT (a := 1) c2 (by decide)
            have q3 := lv_neT (a := 2) c3 (by decide)
            have q4 := lv_neT (a := 3) c4 (by decide)
            have q6 := lv_neT (a := 4) c6 (by decide)
            refine lv_tableOut (tgt := 73) hx hb dX6_count_1 (by omega) (by decide) ?_
            refine lv_bipush (v := -102) hx hb dX6_count_73 (by decide) ?_
            cases hs
            exact ret_roi hx hb hr hlk hS dX6_count_75
noncomputable def b_X6_digest_139 (st : XS) (c139_3 : Int32) (c139_4 : Int32) (v139_1 : Int64) (v139_5 : Int32) : Option ((Int64 × Int32) ⊕ ((Int64 × Int32) ⊕ Int64)) :=
  (if (9 : Int32) ≤ v139_5 then some (Sum.inr (Sum.inl (v139_1, (c139_4 + 1)))) else some (Sum.inl ((((31 : Int64) * v139_1) + ((t_X1_part st c139_4 v139_5).toInt64)), (v139_5 + 1))))
noncomputable def b_X6_digest_130 (st : XS) (c130_3 : Int32) (v130_1 : Int64) (v130_4 : Int32) : Option ((Int64 × Int32) ⊕ Int64) :=
  (if c130_3 ≤ v130_4 then some (Sum.inr (v130_1)) else (loopC (fun v => b_X6_digest_139 st c130_3 v130_4 v.1 v.2) (v130_1, (0 : Int32))))
noncomputable def b_X6_digest_72 (st : XS) (c72_3 : Int32) (v72_1 : Int64) (v72_4 : Int32) : Option ((Int64 × Int32) ⊕ ((Int64 × Int32) ⊕ Int64)) :=
  (if (5 : Int32) ≤ v72_4 then some (Sum.inr (Sum.inl (v72_1, (c72_3 + 1)))) else some (Sum.inl ((((31 : Int64) * v72_1) + ((t_X0_part st c72_3 v72_4).toInt64)), (v72_4 + 1))))
noncomputable def b_X6_digest_58 (st : XS) (v58_1 : Int64) (v58_3 : Int32) : Option ((Int64 × Int32) ⊕ Int64) :=
  (if (st.1 32 0) ≤ v58_3 then (if (st.1 36 0) = 0 then (Option.map (fun z => Sum.inr (z)) (loopC (fun v => b_X6_digest_130 st (0 : Int32) v.1 v.2) (v58_1, (0 : Int32)))) else (Option.map (fun z => Sum.inr (z)) (loopC (fun v => b_X6_digest_130 st (st.1 33 0) v.1 v.2) (v58_1, (0 : Int32))))) else (loopC (fun v => b_X6_digest_72 st v58_3 v.1 v.2) (v58_1, (0 : Int32))))
noncomputable def b_X6_digest_20 (st : XS) (c20_3 : Int32) (v20_1 : Int64) (v20_4 : Int32) : Option ((Int64 × Int32) ⊕ ((Int64 × Int32) ⊕ Int64)) :=
  (if (3 : Int32) ≤ v20_4 then some (Sum.inr (Sum.inl (v20_1, (c20_3 + 1)))) else some (Sum.inl ((((31 : Int64) * v20_1) + ((t_X3_part st c20_3 v20_4).toInt64)), (v20_4 + 1))))
noncomputable def b_X6_digest_6 (st : XS) (v6_1 : Int64) (v6_3 : Int32) : Option ((Int64 × Int32) ⊕ Int64) :=
  (if (st.1 30 0) ≤ v6_3 then (Option.map (fun z => Sum.inr (z)) (loopC (fun v => b_X6_digest_58 st v.1 v.2) (v6_1, (0 : Int32)))) else (loopC (fun v => b_X6_digest_20 st v6_3 v.1 v.2) (v6_1, (0 : Int32))))
noncomputable def f_X6_digest (st : XS) : Option Int64 :=
  (loopC (fun v => b_X6_digest_6 st v.1 v.2) ((61 : Int64), (0 : Int32)))
set_option maxHeartbeats 4000000 in
set_option maxRecDepth 100000 in
theorem m_X6_digest (l : Launch) (g : GG) (a : Nat → Nat) (st : XS)  (res : Int64) (hs : f_X6_digest st = some res) : Met l yX6_digest (Cond.code yX6_digest cX6_digest 6 (some .long) :: BIG) ({ frames := 3, cells := 0, slots := 0, locals := 66 } : Room) (va_Pc [.ref (a 0)] (ROp g (xW g a st))) (ROl res) 0 0 (fun _ => False) := by
  refine ro_start (cc := cX6_digest) (maxL := 6) (ret := (some .long)) (lv := [(0, .ref (a 0))]) (by decide) rfl (Nat.le_of_ble_eq_true rfl) rfl ?_
  intro p e s m args below meth c hx hb hml hr hts hown hlk hK H locs hP hS ls hl
  have hB : ∀ w ∈ BIG, w.before args s = true := fun w h => hts w (List.mem_cons_of_mem _ h)
  have hC : CallFix p m c cX6_digest 6 s args BIG RX6 := ⟨hx, hb, hml, hown, hB⟩
  unfold f_X6_digest at hs
  refine lv_ldc2 hx hb hown (hB _ bw_32_13) dX6_digest_0 ?_
  refine lv_lstore_n (lv' := [(1, .long (61 : Int64)), (0, .ref (a 0))]) hx hb dX6_digest_3 rfl hl (by decide) rfl (fun ls hl => ?_)
  refine lv_iconst (v := 0) hx hb dX6_digest_4 (by decide) ?_
  refine lv_istore_n (lv' := [(3, .int (0 : Int32)), (1, .long (61 : Int64)), (0, .ref (a 0))]) hx hb dX6_digest_5 rfl hl (by decide) rfl (fun ls hl => ?_)
  obtain ⟨n6, hs⟩ := loopC_iter hs
  have L6 : ∀ (n : Nat) (v6_1 : Int64) (v6_3 : Int32), iterO (fun v => b_X6_digest_6 st v.1 v.2) n (v6_1, v6_3) = some res → ∀ (H : Heap) (locs : List Loc), va_P g.1 vwCl (xW g a st) H → va_S (fun _ => False) s.heap H locs → ∀ ls : Array Slot, lv_has ls 6 [(0, .ref (a 0)), (1, .long v6_1), (3, .int v6_3)] → W p l e ({ frames := 3, cells := 0, slots := 0, locals := 66 } : Room) s m args below meth c H locs 0 0 (MQ below (ROl res) args s 0 0 (fun _ => False)) (F0 m 6 ls []) := by
    intro n
    induction n with
    | zero => intro v6_1 v6_3 hs; exact (iterO_zero hs).elim
    | succ n ih6 =>
      intro v6_1 v6_3 hs H locs hP hS ls hl
      obtain ⟨y6, hs, hk6⟩ := iterO_succ hs
      have hs : b_X6_digest_6 st v6_1 v6_3 = some y6 := hs
      unfold b_X6_digest_6 at hs
      refine lv_iload_n hx hb dX6_digest_6 rfl (lv_at hl 2 rfl) ?_
      refine lv_aload_n hx hb dX6_digest_7 rfl (lv_at hl 0 rfl) ?_
      refine xg_6_0 hx hb hB hown hK hP dX6_digest_8 ?_
      refine xn_RX6_145 hx hb hB hown hK hP dX6_digest_11 ?_
      refine lv_icmp_ge (tgt := 56) hx hb dX6_digest_14 (by decide) (fun c1 => ?_) (fun c1 => ?_)
      · have hs := ifp c1 hs
        refine lv_iconst (v := 0) hx hb dX6_digest_56 (by decide) ?_
        refine lv_istore_n (lv' := [(3, .int (0 : Int32)), (0, .ref (a 0)), (1, .long v6_1)]) hx hb dX6_digest_57 rfl hl (by decide) rfl (fun ls hl => ?_)
        obtain ⟨w58, hm58, hw58⟩ := Option.map_eq_some_iff.mp hs
        clear hs
        cases hw58
        cases elim_inr hk6
        have hs := hm58
        obtain ⟨n58, hs⟩ := loopC_iter hs
        have L58 : ∀ (n : Nat) (v58_1 : Int64) (v58_3 : Int32), iterO (fun v => b_X6_digest_58 st v.1 v.2) n (v58_1, v58_3) = some res → ∀ (H : Heap) (locs : List Loc), va_P g.1 vwCl (xW g a st) H → va_S (fun _ => False) s.heap H locs → ∀ ls : Array Slot, lv_has ls 6 [(0, .ref (a 0)), (1, .long v58_1), (3, .int v58_3)] → W p l e ({ frames := 3, cells := 0, slots := 0, locals := 66 } : Room) s m args below meth c H locs 0 0 (MQ below (ROl res) args s 0 0 (fun _ => False)) (F0 m 58 ls []) := by
          intro n
          induction n with
          | zero => intro v58_1 v58_3 hs; exact (iterO_zero hs).elim
          | succ n ih58 =>
            intro v58_1 v58_3 hs H locs hP hS ls hl
            obtain ⟨y58, hs, hk58⟩ := iterO_succ hs
            have hs : b_X6_digest_58 st v58_1 v58_3 = some y58 := hs
            unfold b_X6_digest_58 at hs
            refine lv_iload_n hx hb dX6_digest_58 rfl (lv_at hl 2 rfl) ?_
            refine lv_aload_n hx hb dX6_digest_59 rfl (lv_at hl 0 rfl) ?_
            refine xg_6_1 hx hb hB hown hK hP dX6_digest_60 ?_
            refine xn_RX6_169 hx hb hB hown hK hP dX6_digest_63 ?_
            refine lv_icmp_ge (tgt := 108) hx hb dX6_digest_66 (by decide) (fun c2 => ?_) (fun c2 => ?_)
            · have hs := ifp c2 hs
              refine lv_aload_n hx hb dX6_digest_108 rfl (lv_at hl 0 rfl) ?_
              refine xg_6_7 hx hb hB hown hK hP dX6_digest_109 ?_
              refine lv_if_eq (tgt := 125) hx hb dX6_digest_112 (by decide) (fun c3 => ?_) (fun c3 => ?_)
              · have hs := ifp c3 hs
                refine lv_iconst (v := 0) hx hb dX6_digest_125 (by decide) ?_
                refine lv_istore_n (lv' := [(3, .int (0 : Int32)), (0, .ref (a 0)), (1, .long v58_1)]) hx hb dX6_digest_126 rfl hl (by decide) rfl (fun ls hl => ?_)
                refine lv_iconst (v := 0) hx hb dX6_digest_127 (by decide) ?_
                refine lv_istore (lv' := [(4, .int (0 : Int32)), (3, .int (0 : Int32)), (0, .ref (a 0)), (1, .long v58_1)]) hx hb dX6_digest_128 hl (by decide) rfl (fun ls hl => ?_)
                obtain ⟨w130, hm130, hw130⟩ := Option.map_eq_some_iff.mp hs
                clear hs
                cases hw130
                cases elim_inr hk58
                have hs := hm130
                obtain ⟨n130, hs⟩ := loopC_iter hs
                have L130 : ∀ (n : Nat) (v130_1 : Int64) (v130_4 : Int32), iterO (fun v => b_X6_digest_130 st (0 : Int32) v.1 v.2) n (v130_1, v130_4) = some res → ∀ (H : Heap) (locs : List Loc), va_P g.1 vwCl (xW g a st) H → va_S (fun _ => False) s.heap H locs → ∀ ls : Array Slot, lv_has ls 6 [(0, .ref (a 0)), (1, .long v130_1), (3, .int (0 : Int32)), (4, .int v130_4)] → W p l e ({ frames := 3, cells := 0, slots := 0, locals := 66 } : Room) s m args below meth c H locs 0 0 (MQ below (ROl res) args s 0 0 (fun _ => False)) (F0 m 130 ls []) := by
                  intro n
                  induction n with
                  | zero => intro v130_1 v130_4 hs; exact (iterO_zero hs).elim
                  | succ n ih130 =>
                    intro v130_1 v130_4 hs H locs hP hS ls hl
                    obtain ⟨y130, hs, hk130⟩ := iterO_succ hs
                    have hs : b_X6_digest_130 st (0 : Int32) v130_1 v130_4 = some y130 := hs
                    unfold b_X6_digest_130 at hs
                    refine lv_iload hx hb dX6_digest_130 (lv_at hl 3 rfl) ?_
                    refine lv_iload_n hx hb dX6_digest_132 rfl (lv_at hl 2 rfl) ?_
                    refine lv_icmp_ge (tgt := 177) hx hb dX6_digest_133 (by decide) (fun c4 => ?_) (fun c4 => ?_)
                    · have hs := ifp c4 hs
                      refine lv_lload_n hx hb dX6_digest_177 rfl (lv_at hl 1 rfl) ?_
                      cases hs
                      cases elim_inr hk130
                      exact ret_rol hx hb hr hlk hS dX6_digest_178
                    · have hs := ifn c4 hs
                      refine lv_iconst (v := 0) hx hb dX6_digest_136 (by decide) ?_
                      refine lv_istore (lv' := [(5, .int (0 : Int32)), (0, .ref (a 0)), (1, .long v130_1), (3, .int (0 : Int32)), (4, .int v130_4)]) hx hb dX6_digest_137 hl (by decide) rfl (fun ls hl => ?_)
                      obtain ⟨n139, hs⟩ := loopC_iter hs
                      have L139 : ∀ (n : Nat) (v139_1 : Int64) (v139_5 : Int32), iterO (fun v => b_X6_digest_139 st (0 : Int32) v130_4 v.1 v.2) n (v139_1, v139_5) = some y130 → ∀ (H : Heap) (locs : List Loc), va_P g.1 vwCl (xW g a st) H → va_S (fun _ => False) s.heap H locs → ∀ ls : Array Slot, lv_has ls 6 [(0, .ref (a 0)), (1, .long v139_1), (3, .int (0 : Int32)), (4, .int v130_4), (5, .int v139_5)] → W p l e ({ frames := 3, cells := 0, slots := 0, locals := 66 } : Room) s m args below meth c H locs 0 0 (MQ below (ROl res) args s 0 0 (fun _ => False)) (F0 m 139 ls []) := by
                        intro n
                        induction n with
                        | zero => intro v139_1 v139_5 hs; exact (iterO_zero hs).elim
                        | succ n ih139 =>
                          intro v139_1 v139_5 hs H locs hP hS ls hl
                          obtain ⟨y139, hs, hk139⟩ := iterO_succ hs
                          have hs : b_X6_digest_139 st (0 : Int32) v130_4 v139_1 v139_5 = some y139 := hs
                          unfold b_X6_digest_139 at hs
                          refine lv_iload hx hb dX6_digest_139 (lv_at hl 4 rfl) ?_
                          refine lv_bipush (v := 9) hx hb dX6_digest_141 (by decide) ?_
                          refine lv_icmp_ge (tgt := 171) hx hb dX6_digest_143 (by decide) (fun c5 => ?_) (fun c5 => ?_)
                          · have hs := ifp c5 hs
                            refine lv_iinc (v := (v130_4 + 1)) (lv' := [(4, .int (v130_4 + 1)), (0, .ref (a 0)), (1, .long v139_1), (3, .int (0 : Int32)), (5, .int v139_5)]) hx hb dX6_digest_171 hl (k := 3) rfl (by rfl) (by decide) rfl (fun ls hl => ?_)
                            refine lv_goto (tgt := 130) hx hb dX6_digest_174 (by decide) ?_
                            cases hs
                            cases elim_inr hk139
                            exact ih130 v139_1 (v130_4 + 1) hk130 _ _ hP hS _ (lv_sub hl [1, 2, 3, 0] rfl)
                          · have hs := ifn c5 hs
                            refine lv_ldc2 hx hb hown (hB _ bw_32_14) dX6_digest_146 ?_
                            refine lv_lload_n hx hb dX6_digest_149 rfl (lv_at hl 1 rfl) ?_
                            refine lv_lmul hx hb dX6_digest_150 ?_
                            refine lv_aload_n hx hb dX6_digest_151 rfl (lv_at hl 0 rfl) ?_
                            refine xg_6_3 hx hb hB hown hK hP dX6_digest_152 ?_
                            refine lv_iload hx hb dX6_digest_155 (lv_at hl 3 rfl) ?_
                            refine lv_iload hx hb dX6_digest_157 (lv_at hl 4 rfl) ?_
                            refine cV_roi (As := [.int v130_4, .int v139_5]) (rest := [.long ((31 : Int64) * v139_1)]) hC (m_X1_part l g a st v130_4 v139_5) (kv_of hB bw_24_7 bw_24_5 bw_24_6 bw_2_2 kd_X1_part bw_24_4 rfl rfl ⟨Nat.le_of_ble_eq_true rfl, Nat.le_of_ble_eq_true rfl⟩) hK hP hP hS (xW_8 g a st) rfl rfl hl.1 rfl (Nat.le_of_ble_eq_true rfl) dX6_digest_159 ⟨Nat.zero_le _, Nat.zero_le _⟩ (fun H locs hP hS => ?_)
                            refine lv_i2l (v := ((t_X1_part st v130_4 v139_5).toInt64)) hx hb dX6_digest_162 rfl ?_
                            refine lv_ladd hx hb dX6_digest_163 ?_
                            refine lv_lstore_n (lv' := [(1, .long (((31 : Int64) * v139_1) + ((t_X1_part st v130_4 v139_5).toInt64))), (0, .ref (a 0)), (3, .int (0 : Int32)), (4, .int v130_4), (5, .int v139_5)]) hx hb dX6_digest_164 rfl hl (by decide) rfl (fun ls hl => ?_)
                            refine lv_iinc (v := (v139_5 + 1)) (lv' := [(5, .int (v139_5 + 1)), (1, .long (((31 : Int64) * v139_1) + ((t_X1_part st v130_4 v139_5).toInt64))), (0, .ref (a 0)), (3, .int (0 : Int32)), (4, .int v130_4)]) hx hb dX6_digest_165 hl (k := 4) rfl (by rfl) (by decide) rfl (fun ls hl => ?_)
                            refine lv_goto (tgt := 139) hx hb dX6_digest_168 (by decide) ?_
                            cases hs
                            exact ih139 (((31 : Int64) * v139_1) + ((t_X1_part st v130_4 v139_5).toInt64)) (v139_5 + 1) hk139 _ _ hP hS _ (lv_sub hl [2, 1, 3, 4, 0] rfl)
                      exact L139 n139 v130_1 (0 : Int32) hs _ _ hP hS _ (lv_sub hl [1, 2, 3, 4, 0] rfl)
                exact L130 n130 v58_1 (0 : Int32) hs _ _ hP hS _ (lv_sub hl [2, 3, 1, 0] rfl)
              · have hs := ifn c3 hs
                refine lv_aload_n hx hb dX6_digest_115 rfl (lv_at hl 0 rfl) ?_
                refine xg_6_3 hx hb hB hown hK hP dX6_digest_116 ?_
                refine xn_RX6_114 hx hb hB hown hK hP dX6_digest_119 ?_
                refine lv_goto (tgt := 126) hx hb dX6_digest_122 (by decide) ?_
                refine lv_istore_n (lv' := [(3, .int (st.1 33 0)), (0, .ref (a 0)), (1, .long v58_1)]) hx hb dX6_digest_126 rfl hl (by decide) rfl (fun ls hl => ?_)
                refine lv_iconst (v := 0) hx hb dX6_digest_127 (by decide) ?_
                refine lv_istore (lv' := [(4, .int (0 : Int32)), (3, .int (st.1 33 0)), (0, .ref (a 0)), (1, .long v58_1)]) hx hb dX6_digest_128 hl (by decide) rfl (fun ls hl => ?_)
                obtain ⟨w130, hm130, hw130⟩ := Option.map_eq_some_iff.mp hs
                clear hs
                cases hw130
                cases elim_inr hk58
                have hs := hm130
                obtain ⟨n130, hs⟩ := loopC_iter hs
                have L130 : ∀ (n : Nat) (v130_1 : Int64) (v130_4 : Int32), iterO (fun v => b_X6_digest_130 st (st.1 33 0) v.1 v.2) n (v130_1, v130_4) = some res → ∀ (H : Heap) (locs : List Loc), va_P g.1 vwCl (xW g a st) H → va_S (fun _ => False) s.heap H locs → ∀ ls : Array Slot, lv_has ls 6 [(0, .ref (a 0)), (1, .long v130_1), (3, .int (st.1 33 0)), (4, .int v130_4)] → W p l e ({ frames := 3, cells := 0, slots := 0, locals := 66 } : Room) s m args below meth c H locs 0 0 (MQ below (ROl res) args s 0 0 (fun _ => False)) (F0 m 130 ls []) := by
                  intro n
                  induction n with
                  | zero => intro v130_1 v130_4 hs; exact (iterO_zero hs).elim
                  | succ n ih130 =>
                    intro v130_1 v130_4 hs H locs hP hS ls hl
                    obtain ⟨y130, hs, hk130⟩ := iterO_succ hs
                    have hs : b_X6_digest_130 st (st.1 33 0) v130_1 v130_4 = some y130 := hs
                    unfold b_X6_digest_130 at hs
                    refine lv_iload hx hb dX6_digest_130 (lv_at hl 3 rfl) ?_
                    refine lv_iload_n hx hb dX6_digest_132 rfl (lv_at hl 2 rfl) ?_
                    refine lv_icmp_ge (tgt := 177) hx hb dX6_digest_133 (by decide) (fun c6 => ?_) (fun c6 => ?_)
                    · have hs := ifp c6 hs
                      refine lv_lload_n hx hb dX6_digest_177 rfl (lv_at hl 1 rfl) ?_
                      cases hs
                      cases elim_inr hk130
                      exact ret_rol hx hb hr hlk hS dX6_digest_178
                    · have hs := ifn c6 hs
                      refine lv_iconst (v := 0) hx hb dX6_digest_136 (by decide) ?_
                      refine lv_istore (lv' := [(5, .int (0 : Int32)), (0, .ref (a 0)), (1, .long v130_1), (3, .int (st.1 33 0)), (4, .int v130_4)]) hx hb dX6_digest_137 hl (by decide) rfl (fun ls hl => ?_)
                      obtain ⟨n139, hs⟩ := loopC_iter hs
                      have L139 : ∀ (n : Nat) (v139_1 : Int64) (v139_5 : Int32), iterO (fun v => b_X6_digest_139 st (st.1 33 0) v130_4 v.1 v.2) n (v139_1, v139_5) = some y130 → ∀ (H : Heap) (locs : List Loc), va_P g.1 vwCl (xW g a st) H → va_S (fun _ => False) s.heap H locs → ∀ ls : Array Slot, lv_has ls 6 [(0, .ref (a 0)), (1, .long v139_1), (3, .int (st.1 33 0)), (4, .int v130_4), (5, .int v139_5)] → W p l e ({ frames := 3, cells := 0, slots := 0, locals := 66 } : Room) s m args below meth c H locs 0 0 (MQ below (ROl res) args s 0 0 (fun _ => False)) (F0 m 139 ls []) := by
                        intro n
                        induction n with
                        | zero => intro v139_1 v139_5 hs; exact (iterO_zero hs).elim
                        | succ n ih139 =>
                          intro v139_1 v139_5 hs H locs hP hS ls hl
                          obtain ⟨y139, hs, hk139⟩ := iterO_succ hs
                          have hs : b_X6_digest_139 st (st.1 33 0) v130_4 v139_1 v139_5 = some y139 := hs
                          unfold b_X6_digest_139 at hs
                          refine lv_iload hx hb dX6_digest_139 (lv_at hl 4 rfl) ?_
                          refine lv_bipush (v := 9) hx hb dX6_digest_141 (by decide) ?_
                          refine lv_icmp_ge (tgt := 171) hx hb dX6_digest_143 (by decide) (fun c7 => ?_) (fun c7 => ?_)
                          · have hs := ifp c7 hs
                            refine lv_iinc (v := (v130_4 + 1)) (lv' := [(4, .int (v130_4 + 1)), (0, .ref (a 0)), (1, .long v139_1), (3, .int (st.1 33 0)), (5, .int v139_5)]) hx hb dX6_digest_171 hl (k := 3) rfl (by rfl) (by decide) rfl (fun ls hl => ?_)
                            refine lv_goto (tgt := 130) hx hb dX6_digest_174 (by decide) ?_
                            cases hs
                            cases elim_inr hk139
                            exact ih130 v139_1 (v130_4 + 1) hk130 _ _ hP hS _ (lv_sub hl [1, 2, 3, 0] rfl)
                          · have hs := ifn c7 hs
                            refine lv_ldc2 hx hb hown (hB _ bw_32_14) dX6_digest_146 ?_
                            refine lv_lload_n hx hb dX6_digest_149 rfl (lv_at hl 1 rfl) ?_
                            refine lv_lmul hx hb dX6_digest_150 ?_
                            refine lv_aload_n hx hb dX6_digest_151 rfl (lv_at hl 0 rfl) ?_
                            refine xg_6_3 hx hb hB hown hK hP dX6_digest_152 ?_
                            refine lv_iload hx hb dX6_digest_155 (lv_at hl 3 rfl) ?_
                            refine lv_iload hx hb dX6_digest_157 (lv_at hl 4 rfl) ?_
                            refine cV_roi (As := [.int v130_4, .int v139_5]) (rest := [.long ((31 : Int64) * v139_1)]) hC (m_X1_part l g a st v130_4 v139_5) (kv_of hB bw_24_7 bw_24_5 bw_24_6 bw_2_2 kd_X1_part bw_24_4 rfl rfl ⟨Nat.le_of_ble_eq_true rfl, Nat.le_of_ble_eq_true rfl⟩) hK hP hP hS (xW_8 g a st) rfl rfl hl.1 rfl (Nat.le_of_ble_eq_true rfl) dX6_digest_159 ⟨Nat.zero_le _, Nat.zero_le _⟩ (fun H locs hP hS => ?_)
                            refine lv_i2l (v := ((t_X1_part st v130_4 v139_5).toInt64)) hx hb dX6_digest_162 rfl ?_
                            refine lv_ladd hx hb dX6_digest_163 ?_
                            refine lv_lstore_n (lv' := [(1, .long (((31 : Int64) * v139_1) + ((t_X1_part st v130_4 v139_5).toInt64))), (0, .ref (a 0)), (3, .int (st.1 33 0)), (4, .int v130_4), (5, .int v139_5)]) hx hb dX6_digest_164 rfl hl (by decide) rfl (fun ls hl => ?_)
                            refine lv_iinc (v := (v139_5 + 1)) (lv' := [(5, .int (v139_5 + 1)), (1, .long (((31 : Int64) * v139_1) + ((t_X1_part st v130_4 v139_5).toInt64))), (0, .ref (a 0)), (3, .int (st.1 33 0)), (4, .int v130_4)]) hx hb dX6_digest_165 hl (k := 4) rfl (by rfl) (by decide) rfl (fun ls hl => ?_)
                            refine lv_goto (tgt := 139) hx hb dX6_digest_168 (by decide) ?_
                            cases hs
                            exact ih139 (((31 : Int64) * v139_1) + ((t_X1_part st v130_4 v139_5).toInt64)) (v139_5 + 1) hk139 _ _ hP hS _ (lv_sub hl [2, 1, 3, 4, 0] rfl)
                      exact L139 n139 v130_1 (0 : Int32) hs _ _ hP hS _ (lv_sub hl [1, 2, 3, 4, 0] rfl)
                exact L130 n130 v58_1 (0 : Int32) hs _ _ hP hS _ (lv_sub hl [2, 3, 1, 0] rfl)
            · have hs := ifn c2 hs
              refine lv_iconst (v := 0) hx hb dX6_digest_69 (by decide) ?_
              refine lv_istore (lv' := [(4, .int (0 : Int32)), (0, .ref (a 0)), (1, .long v58_1), (3, .int v58_3)]) hx hb dX6_digest_70 hl (by decide) rfl (fun ls hl => ?_)
              obtain ⟨n72, hs⟩ := loopC_iter hs
              have L72 : ∀ (n : Nat) (v72_1 : Int64) (v72_4 : Int32), iterO (fun v => b_X6_digest_72 st v58_3 v.1 v.2) n (v72_1, v72_4) = some y58 → ∀ (H : Heap) (locs : List Loc), va_P g.1 vwCl (xW g a st) H → va_S (fun _ => False) s.heap H locs → ∀ ls : Array Slot, lv_has ls 6 [(0, .ref (a 0)), (1, .long v72_1), (3, .int v58_3), (4, .int v72_4)] → W p l e ({ frames := 3, cells := 0, slots := 0, locals := 66 } : Room) s m args below meth c H locs 0 0 (MQ below (ROl res) args s 0 0 (fun _ => False)) (F0 m 72 ls []) := by
                intro n
                induction n with
                | zero => intro v72_1 v72_4 hs; exact (iterO_zero hs).elim
                | succ n ih72 =>
                  intro v72_1 v72_4 hs H locs hP hS ls hl
                  obtain ⟨y72, hs, hk72⟩ := iterO_succ hs
                  have hs : b_X6_digest_72 st v58_3 v72_1 v72_4 = some y72 := hs
                  unfold b_X6_digest_72 at hs
                  refine lv_iload hx hb dX6_digest_72 (lv_at hl 3 rfl) ?_
                  refine lv_iconst (v := 5) hx hb dX6_digest_74 (by decide) ?_
                  refine lv_icmp_ge (tgt := 102) hx hb dX6_digest_75 (by decide) (fun c8 => ?_) (fun c8 => ?_)
                  · have hs := ifp c8 hs
                    refine lv_iinc (v := (v58_3 + 1)) (lv' := [(3, .int (v58_3 + 1)), (0, .ref (a 0)), (1, .long v72_1), (4, .int v72_4)]) hx hb dX6_digest_102 hl (k := 2) rfl (by rfl) (by decide) rfl (fun ls hl => ?_)
                    refine lv_goto (tgt := 58) hx hb dX6_digest_105 (by decide) ?_
                    cases hs
                    cases elim_inr hk72
                    exact ih58 v72_1 (v58_3 + 1) hk58 _ _ hP hS _ (lv_sub hl [1, 2, 0] rfl)
                  · have hs := ifn c8 hs
                    refine lv_ldc2 hx hb hown (hB _ bw_32_14) dX6_digest_78 ?_
                    refine lv_lload_n hx hb dX6_digest_81 rfl (lv_at hl 1 rfl) ?_
                    refine lv_lmul hx hb dX6_digest_82 ?_
                    refine lv_aload_n hx hb dX6_digest_83 rfl (lv_at hl 0 rfl) ?_
                    refine xg_6_1 hx hb hB hown hK hP dX6_digest_84 ?_
                    refine lv_iload_n hx hb dX6_digest_87 rfl (lv_at hl 2 rfl) ?_
                    refine lv_iload hx hb dX6_digest_88 (lv_at hl 3 rfl) ?_
                    refine cV_roi (As := [.int v58_3, .int v72_4]) (rest := [.long ((31 : Int64) * v72_1)]) hC (m_X0_part l g a st v58_3 v72_4) (kv_of hB bw_11_20 bw_11_18 bw_11_19 bw_1_18 kd_X0_part bw_12_19 rfl rfl ⟨Nat.le_of_ble_eq_true rfl, Nat.le_of_ble_eq_true rfl⟩) hK hP hP hS (xW_3 g a st) rfl rfl hl.1 rfl (Nat.le_of_ble_eq_true rfl) dX6_digest_90 ⟨Nat.zero_le _, Nat.zero_le _⟩ (fun H locs hP hS => ?_)
                    refine lv_i2l (v := ((t_X0_part st v58_3 v72_4).toInt64)) hx hb dX6_digest_93 rfl ?_
                    refine lv_ladd hx hb dX6_digest_94 ?_
                    refine lv_lstore_n (lv' := [(1, .long (((31 : Int64) * v72_1) + ((t_X0_part st v58_3 v72_4).toInt64))), (0, .ref (a 0)), (3, .int v58_3), (4, .int v72_4)]) hx hb dX6_digest_95 rfl hl (by decide) rfl (fun ls hl => ?_)
                    refine lv_iinc (v := (v72_4 + 1)) (lv' := [(4, .int (v72_4 + 1)), (1, .long (((31 : Int64) * v72_1) + ((t_X0_part st v58_3 v72_4).toInt64))), (0, .ref (a 0)), (3, .int v58_3)]) hx hb dX6_digest_96 hl (k := 3) rfl (by rfl) (by decide) rfl (fun ls hl => ?_)
                    refine lv_goto (tgt := 72) hx hb dX6_digest_99 (by decide) ?_
                    cases hs
                    exact ih72 (((31 : Int64) * v72_1) + ((t_X0_part st v58_3 v72_4).toInt64)) (v72_4 + 1) hk72 _ _ hP hS _ (lv_sub hl [2, 1, 3, 0] rfl)
              exact L72 n72 v58_1 (0 : Int32) hs _ _ hP hS _ (lv_sub hl [1, 2, 3, 0] rfl)
        exact L58 n58 v6_1 (0 : Int32) hs _ _ hP hS _ (lv_sub hl [1, 2, 0] rfl)
      · have hs := ifn c1 hs
        refine lv_iconst (v := 0) hx hb dX6_digest_17 (by decide) ?_
        refine lv_istore (lv' := [(4, .int (0 : Int32)), (0, .ref (a 0)), (1, .long v6_1), (3, .int v6_3)]) hx hb dX6_digest_18 hl (by decide) rfl (fun ls hl => ?_)
        obtain ⟨n20, hs⟩ := loopC_iter hs
        have L20 : ∀ (n : Nat) (v20_1 : Int64) (v20_4 : Int32), iterO (fun v => b_X6_digest_20 st v6_3 v.1 v.2) n (v20_1, v20_4) = some y6 → ∀ (H : Heap) (locs : List Loc), va_P g.1 vwCl (xW g a st) H → va_S (fun _ => False) s.heap H locs → ∀ ls : Array Slot, lv_has ls 6 [(0, .ref (a 0)), (1, .long v20_1), (3, .int v6_3), (4, .int v20_4)] → W p l e ({ frames := 3, cells := 0, slots := 0, locals := 66 } : Room) s m args below meth c H locs 0 0 (MQ below (ROl res) args s 0 0 (fun _ => False)) (F0 m 20 ls []) := by
          intro n
          induction n with
          | zero => intro v20_1 v20_4 hs; exact (iterO_zero hs).elim
          | succ n ih20 =>
            intro v20_1 v20_4 hs H locs hP hS ls hl
            obtain ⟨y20, hs, hk20⟩ := iterO_succ hs
            have hs : b_X6_digest_20 st v6_3 v20_1 v20_4 = some y20 := hs
            unfold b_X6_digest_20 at hs
            refine lv_iload hx hb dX6_digest_20 (lv_at hl 3 rfl) ?_
            refine lv_iconst (v := 3) hx hb dX6_digest_22 (by decide) ?_
            refine lv_icmp_ge (tgt := 50) hx hb dX6_digest_23 (by decide) (fun c9 => ?_) (fun c9 => ?_)
            · have hs := ifp c9 hs
              refine lv_iinc (v := (v6_3 + 1)) (lv' := [(3, .int (v6_3 + 1)), (0, .ref (a 0)), (1, .long v20_1), (4, .int v20_4)]) hx hb dX6_digest_50 hl (k := 2) rfl (by rfl) (by decide) rfl (fun ls hl => ?_)
              refine lv_goto (tgt := 6) hx hb dX6_digest_53 (by decide) ?_
              cases hs
              cases elim_inr hk20
              exact ih6 v20_1 (v6_3 + 1) hk6 _ _ hP hS _ (lv_sub hl [1, 2, 0] rfl)
            · have hs := ifn c9 hs
              refine lv_ldc2 hx hb hown (hB _ bw_32_14) dX6_digest_26 ?_
              refine lv_lload_n hx hb dX6_digest_29 rfl (lv_at hl 1 rfl) ?_
              refine lv_lmul hx hb dX6_digest_30 ?_
              refine lv_aload_n hx hb dX6_digest_31 rfl (lv_at hl 0 rfl) ?_
              refine xg_6_0 hx hb hB hown hK hP dX6_digest_32 ?_
              refine lv_iload_n hx hb dX6_digest_35 rfl (lv_at hl 2 rfl) ?_
              refine lv_iload hx hb dX6_digest_36 (lv_at hl 3 rfl) ?_
              refine cV_roi (As := [.int v6_3, .int v20_4]) (rest := [.long ((31 : Int64) * v20_1)]) hC (m_X3_part l g a st v6_3 v20_4) (kv_of hB bw_7_22 bw_7_20 bw_7_21 bw_1_14 kd_X3_part bw_12_9 rfl rfl ⟨Nat.le_of_ble_eq_true rfl, Nat.le_of_ble_eq_true rfl⟩) hK hP hP hS (xW_1 g a st) rfl rfl hl.1 rfl (Nat.le_of_ble_eq_true rfl) dX6_digest_38 ⟨Nat.zero_le _, Nat.zero_le _⟩ (fun H locs hP hS => ?_)
              refine lv_i2l (v := ((t_X3_part st v6_3 v20_4).toInt64)) hx hb dX6_digest_41 rfl ?_
              refine lv_ladd hx hb dX6_digest_42 ?_
              refine lv_lstore_n (lv' := [(1, .long (((31 : Int64) * v20_1) + ((t_X3_part st v6_3 v20_4).toInt64))), (0, .ref (a 0)), (3, .int v6_3), (4, .int v20_4)]) hx hb dX6_digest_43 rfl hl (by decide) rfl (fun ls hl => ?_)
              refine lv_iinc (v := (v20_4 + 1)) (lv' := [(4, .int (v20_4 + 1)), (1, .long (((31 : Int64) * v20_1) + ((t_X3_part st v6_3 v20_4).toInt64))), (0, .ref (a 0)), (3, .int v6_3)]) hx hb dX6_digest_44 hl (k := 3) rfl (by rfl) (by decide) rfl (fun ls hl => ?_)
              refine lv_goto (tgt := 20) hx hb dX6_digest_47 (by decide) ?_
              cases hs
              exact ih20 (((31 : Int64) * v20_1) + ((t_X3_part st v6_3 v20_4).toInt64)) (v20_4 + 1) hk20 _ _ hP hS _ (lv_sub hl [2, 1, 3, 0] rfl)
        exact L20 n20 v6_1 (0 : Int32) hs _ _ hP hS _ (lv_sub hl [1, 2, 3, 0] rfl)
  exact L6 n6 (61 : Int64) (0 : Int32) hs _ _ hP hS _ (lv_sub hl [2, 1, 0] rfl)
