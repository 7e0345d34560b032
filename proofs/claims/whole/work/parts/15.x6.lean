noncomputable def b_X2_buildPair_12 (c12_3 : Int32) (c12_4 : Int32) (c12_5 : Int32) (v12_6 : Int32) (z12 : XS) : Option ((Int32 × XS) ⊕ ((Int32 × XS) ⊕ XS)) :=
  (if (4 : Int32) ≤ v12_6 then some (Sum.inr (Sum.inl ((c12_5 + 1), z12))) else (if (t_X1_saysTo z12 c12_3 c12_5 c12_4) = 0 then some (Sum.inl ((v12_6 + 1), z12)) else (if (t_X4_goesUnder z12 c12_5 v12_6) = 0 then some (Sum.inl ((v12_6 + 1), z12)) else (Option.bind (some (sA z12 18 (t_X6_put 80 (z12.1 18) ((v12_6 * (20 : Int32)) + c12_3) ((t_X2_partners z12 v12_6 c12_3) ||| (t_X6_bit c12_4))))) (fun r5 => some (Sum.inl ((v12_6 + 1), r5)))))))
noncomputable def b_X2_buildPair_3 (c3_3 : Int32) (c3_4 : Int32) (v3_5 : Int32) (z3 : XS) : Option ((Int32 × XS) ⊕ XS) :=
  (if (4 : Int32) ≤ v3_5 then some (Sum.inr (z3)) else (loopC (fun v => b_X2_buildPair_12 c3_3 c3_4 v3_5 v.1 v.2) ((0 : Int32), z3)))
noncomputable def f_X2_buildPair (st : XS) (p3 : Int32) (p4 : Int32) : Option XS :=
  (loopC (fun v => b_X2_buildPair_3 p3 p4 v.1 v.2) ((0 : Int32), st))
set_option maxHeartbeats 4000000 in
set_option maxRecDepth 100000 in
theorem m_X2_buildPair (l : Launch) (g : GG) (a : Nat → Nat) (st : XS) (sz : Nat) (p3 : Int32) (p4 : Int32) (res : XS) (hs : f_X2_buildPair st p3 p4 = some res) : Met l yX2_buildPair (Cond.code yX2_buildPair cX2_buildPair 7 none :: BIG) ({ frames := 3, cells := 0, slots := 0, locals := 63 } : Room) (va_Pc [.ref (a 16), .ref (a 5), .ref (a 8), .int p3, .int p4] (RWp g (xW g a st) sz)) (RWv g (xW g a res) (va_A (xW g a st) sz)) 0 0 (va_A (xW g a st) sz) := by
  refine rw_start (cc := cX2_buildPair) (maxL := 7) (ret := none) (lv := [(0, .ref (a 16)), (1, .ref (a 5)), (2, .ref (a 8)), (3, .int p3), (4, .int p4)]) (Qc := fun A => (RWv g (xW g a res) A)) (by decide) rfl (Nat.le_of_ble_eq_true rfl) rfl ?_
  intro p e s m args below meth c hx hb hml hr hts hown hlk hK A hD0 hA H locs hP hS ls hl
  have hD : ∀ st' : XS, va_D A (xW g a st') := fun _ => xW_D hD0
  have hB : ∀ w ∈ BIG, w.before args s = true := fun w h => hts w (List.mem_cons_of_mem _ h)
  have hC : CallFix p m c cX2_buildPair 7 s args BIG RX2 := ⟨hx, hb, hml, hown, hB⟩
  unfold f_X2_buildPair at hs
  refine lv_iconst (v := 0) hx hb dX2_buildPair_0 (by decide) ?_
  refine lv_istore (lv' := [(5, .int (0 : Int32)), (0, .ref (a 16)), (1, .ref (a 5)), (2, .ref (a 8)), (3, .int p3), (4, .int p4)]) hx hb dX2_buildPair_1 hl (by decide) rfl (fun ls hl => ?_)
  obtain ⟨n3, hs⟩ := loopC_iter hs
  have L3 : ∀ (n : Nat) (v3_5 : Int32) (z3 : XS), iterO (fun v => b_X2_buildPair_3 p3 p4 v.1 v.2) n (v3_5, z3) = some res → ∀ (H : Heap) (locs : List Loc), va_P g.1 vwCl (xW g a z3) H → va_S A s.heap H locs → ∀ ls : Array Slot, lv_has ls 7 [(0, .ref (a 16)), (1, .ref (a 5)), (2, .ref (a 8)), (3, .int p3), (4, .int p4), (5, .int v3_5)] → W p l e ({ frames := 3, cells := 0, slots := 0, locals := 63 } : Room) s m args below meth c H locs 0 0 (MQ below (RWv g (xW g a res) A) args s 0 0 A) (F0 m 3 ls []) := by
    intro n
    induction n with
    | zero => intro v3_5 z3 hs; exact (iterO_zero hs).elim
    | succ n ih3 =>
      intro v3_5 z3 hs H locs hP hS ls hl
      obtain ⟨y3, hs, hk3⟩ := iterO_succ hs
      have hs : b_X2_buildPair_3 p3 p4 v3_5 z3 = some y3 := hs
      unfold b_X2_buildPair_3 at hs
      refine lv_iload hx hb dX2_buildPair_3 (lv_at hl 5 rfl) ?_
      refine lv_iconst (v := 4) hx hb dX2_buildPair_5 (by decide) ?_
      refine lv_icmp_ge (tgt := 80) hx hb dX2_buildPair_6 (by decide) (fun c1 => ?_) (fun c1 => ?_)
      · have hs := ifp c1 hs
        cases hs
        cases elim_inr hk3
        exact ret_rwv hx hb hr hlk hP hS dX2_buildPair_80
      · have hs := ifn c1 hs
        refine lv_iconst (v := 0) hx hb dX2_buildPair_9 (by decide) ?_
        refine lv_istore (lv' := [(6, .int (0 : Int32)), (0, .ref (a 16)), (1, .ref (a 5)), (2, .ref (a 8)), (3, .int p3), (4, .int p4), (5, .int v3_5)]) hx hb dX2_buildPair_10 hl (by decide) rfl (fun ls hl => ?_)
        obtain ⟨n12, hs⟩ := loopC_iter hs
        have L12 : ∀ (n : Nat) (v12_6 : Int32) (z12 : XS), iterO (fun v => b_X2_buildPair_12 p3 p4 v3_5 v.1 v.2) n (v12_6, z12) = some y3 → ∀ (H : Heap) (locs : List Loc), va_P g.1 vwCl (xW g a z12) H → va_S A s.heap H locs → ∀ ls : Array Slot, lv_has ls 7 [(0, .ref (a 16)), (1, .ref (a 5)), (2, .ref (a 8)), (3, .int p3), (4, .int p4), (5, .int v3_5), (6, .int v12_6)] → W p l e ({ frames := 3, cells := 0, slots := 0, locals := 63 } : Room) s m args below meth c H locs 0 0 (MQ below (RWv g (xW g a res) A) args s 0 0 A) (F0 m 12 ls []) := by
          intro n
          induction n with
          | zero => intro v12_6 z12 hs; exact (iterO_zero hs).elim
          | succ n ih12 =>
            intro v12_6 z12 hs H locs hP hS ls hl
            obtain ⟨y12, hs, hk12⟩ := iterO_succ hs
            have hs : b_X2_buildPair_12 p3 p4 v3_5 v12_6 z12 = some y12 := hs
            unfold b_X2_buildPair_12 at hs
            refine lv_iload hx hb dX2_buildPair_12 (lv_at hl 6 rfl) ?_
            refine lv_iconst (v := 4) hx hb dX2_buildPair_14 (by decide) ?_
            refine lv_icmp_ge (tgt := 74) hx hb dX2_buildPair_15 (by decide) (fun c2 => ?_) (fun c2 => ?_)
            · have hs := ifp c2 hs
              refine lv_iinc (v := (v3_5 + 1)) (lv' := [(5, .int (v3_5 + 1)), (0, .ref (a 16)), (1, .ref (a 5)), (2, .ref (a 8)), (3, .int p3), (4, .int p4), (6, .int v12_6)]) hx hb dX2_buildPair_74 hl (k := 5) rfl (by rfl) (by decide) rfl (fun ls hl => ?_)
              refine lv_goto (tgt := 3) hx hb dX2_buildPair_77 (by decide) ?_
              cases hs
              cases elim_inr hk12
              exact ih3 (v3_5 + 1) z12 hk3 _ _ hP hS _ (lv_sub hl [1, 2, 3, 4, 5, 0] rfl)
            · have hs := ifn c2 hs
              refine lv_aload_n hx hb dX2_buildPair_18 rfl (lv_at hl 2 rfl) ?_
              refine lv_iload_n hx hb dX2_buildPair_19 rfl (lv_at hl 3 rfl) ?_
              refine lv_iload hx hb dX2_buildPair_20 (lv_at hl 5 rfl) ?_
              refine lv_iload hx hb dX2_buildPair_22 (lv_at hl 4 rfl) ?_
              refine cV_roi (As := [.int p3, .int v3_5, .int p4]) (rest := []) hC (m_X1_saysTo l g a z12 p3 v3_5 p4) (kv_of hB bw_19_16 bw_19_14 bw_19_15 bw_2_2 kd_X1_saysTo bw_19_13 rfl rfl ⟨Nat.le_of_ble_eq_true rfl, Nat.le_of_ble_eq_true rfl⟩) hK hP hP hS (xW_8 g a z12) rfl rfl hl.1 rfl (Nat.le_of_ble_eq_true rfl) dX2_buildPair_24 ⟨Nat.zero_le _, Nat.zero_le _⟩ (fun H locs hP hS => ?_)
              refine lv_if_eq (tgt := 68) hx hb dX2_buildPair_27 (by decide) (fun c3 => ?_) (fun c3 => ?_)
              · have hs := ifp c3 hs
                refine lv_iinc (v := (v12_6 + 1)) (lv' := [(6, .int (v12_6 + 1)), (0, .ref (a 16)), (1, .ref (a 5)), (2, .ref (a 8)), (3, .int p3), (4, .int p4), (5, .int v3_5)]) hx hb dX2_buildPair_68 hl (k := 6) rfl (by rfl) (by decide) rfl (fun ls hl => ?_)
                refine lv_goto (tgt := 12) hx hb dX2_buildPair_71 (by decide) ?_
                cases hs
                exact ih12 (v12_6 + 1) z12 hk12 _ _ hP hS _ (lv_sub hl [1, 2, 3, 4, 5, 6, 0] rfl)
              · have hs := ifn c3 hs
                refine lv_aload_n hx hb dX2_buildPair_30 rfl (lv_at hl 1 rfl) ?_
                refine lv_iload hx hb dX2_buildPair_31 (lv_at hl 5 rfl) ?_
                refine lv_iload hx hb dX2_buildPair_33 (lv_at hl 6 rfl) ?_
                refine cV_roi (As := [.int v3_5, .int v12_6]) (rest := []) hC (m_X4_goesUnder l g a z12 v3_5 v12_6) (kv_of hB bw_14_8 bw_14_6 bw_14_7 bw_1_22 kd_X4_goesUnder bw_19_17 rfl rfl ⟨Nat.le_of_ble_eq_true rfl, Nat.le_of_ble_eq_true rfl⟩) hK hP hP hS (xW_5 g a z12) rfl rfl hl.1 rfl (Nat.le_of_ble_eq_true rfl) dX2_buildPair_35 ⟨Nat.zero_le _, Nat.zero_le _⟩ (fun H locs hP hS => ?_)
                refine lv_if_eq (tgt := 68) hx hb dX2_buildPair_38 (by decide) (fun c4 => ?_) (fun c4 => ?_)
                · have hs := ifp c4 hs
                  refine lv_iinc (v := (v12_6 + 1)) (lv' := [(6, .int (v12_6 + 1)), (0, .ref (a 16)), (1, .ref (a 5)), (2, .ref (a 8)), (3, .int p3), (4, .int p4), (5, .int v3_5)]) hx hb dX2_buildPair_68 hl (k := 6) rfl (by rfl) (by decide) rfl (fun ls hl => ?_)
                  refine lv_goto (tgt := 12) hx hb dX2_buildPair_71 (by decide) ?_
                  cases hs
                  exact ih12 (v12_6 + 1) z12 hk12 _ _ hP hS _ (lv_sub hl [1, 2, 3, 4, 5, 6, 0] rfl)
                · have hs := ifn c4 hs
                  refine lv_aload_n hx hb dX2_buildPair_41 rfl (lv_at hl 0 rfl) ?_
                  refine xg_2_1 hx hb hB hown hK hP dX2_buildPair_42 ?_
                  refine lv_iload hx hb dX2_buildPair_45 (lv_at hl 6 rfl) ?_
                  refine lv_bipush (v := 20) hx hb dX2_buildPair_47 (by decide) ?_
                  refine lv_imul hx hb dX2_buildPair_49 ?_
                  refine lv_iload_n hx hb dX2_buildPair_50 rfl (lv_at hl 3 rfl) ?_
                  refine lv_iadd hx hb dX2_buildPair_51 ?_
                  refine lv_aload_n hx hb dX2_buildPair_52 rfl (lv_at hl 0 rfl) ?_
                  refine lv_iload hx hb dX2_buildPair_53 (lv_at hl 6 rfl) ?_
                  refine lv_iload_n hx hb dX2_buildPair_55 rfl (lv_at hl 3 rfl) ?_
                  refine cV_roi (As := [.int v12_6, .int p3]) (rest := [.int ((v12_6 * (20 : Int32)) + p3), .ref (a 18)]) hC (m_X2_partners l g a z12 v12_6 p3) (kv_of hB bw_19_21 bw_19_19 bw_19_20 bw_2_10 kd_X2_partners bw_19_18 rfl rfl ⟨Nat.le_of_ble_eq_true rfl, Nat.le_of_ble_eq_true rfl⟩) hK hP hP hS (xW_16 g a z12) rfl rfl hl.1 rfl (Nat.le_of_ble_eq_true rfl) dX2_buildPair_56 ⟨Nat.zero_le _, Nat.zero_le _⟩ (fun H locs hP hS => ?_)
                  refine lv_iload hx hb dX2_buildPair_59 (lv_at hl 4 rfl) ?_
                  refine cN_roi (As := [.int p4]) (rest := [.int (t_X2_partners z12 v12_6 p3), .int ((v12_6 * (20 : Int32)) + p3), .ref (a 18)]) hC (m_X6_bit l g (xW g a z12) p4) (kn_of (host := "NotionRounds") hB bw_19_5 bw_19_4 bw_1_2 kd_X6_bit (hK.2 _ (List.mem_of_getElem? (i := 38) rfl)) rfl rfl ⟨Nat.le_of_ble_eq_true rfl, Nat.le_of_ble_eq_true rfl⟩) hK hP hP hS rfl hl.1 rfl (Nat.le_of_ble_eq_true rfl) dX2_buildPair_61 ⟨Nat.zero_le _, Nat.zero_le _⟩ (fun H locs hP hS => ?_)
                  refine lv_ior hx hb dX2_buildPair_64 ?_
                  obtain ⟨r5, e5, hs⟩ := Option.bind_eq_some_iff.mp hs
                  have e5 := Option.some.inj e5
                  refine cN_rwv (As := [.ref (a 18), .int ((v12_6 * (20 : Int32)) + p3), .int ((t_X2_partners z12 v12_6 p3) ||| (t_X6_bit p4))]) (rest := []) hC (m_X6_put_18 l g a z12 r5 H.size ((v12_6 * (20 : Int32)) + p3) ((t_X2_partners z12 v12_6 p3) ||| (t_X6_bit p4)) e5) (kn_of (host := "NotionRounds") hB bw_3_3 bw_3_2 bw_1_2 kd_X6_put (hK.2 _ (List.mem_of_getElem? (i := 44) rfl)) rfl rfl ⟨Nat.le_of_ble_eq_true rfl, Nat.le_of_ble_eq_true rfl⟩) hK hP (hD _) hA hS rfl hl.1 rfl (Nat.le_of_ble_eq_true rfl) dX2_buildPair_65 ⟨Nat.zero_le _, Nat.zero_le _⟩ (fun H locs hP hS => ?_)
                  refine lv_iinc (v := (v12_6 + 1)) (lv' := [(6, .int (v12_6 + 1)), (0, .ref (a 16)), (1, .ref (a 5)), (2, .ref (a 8)), (3, .int p3), (4, .int p4), (5, .int v3_5)]) hx hb dX2_buildPair_68 hl (k := 6) rfl (by rfl) (by decide) rfl (fun ls hl => ?_)
                  refine lv_goto (tgt := 12) hx hb dX2_buildPair_71 (by decide) ?_
                  cases hs
                  exact ih12 (v12_6 + 1) r5 hk12 _ _ hP hS _ (lv_sub hl [1, 2, 3, 4, 5, 6, 0] rfl)
        exact L12 n12 (0 : Int32) z3 hs _ _ hP hS _ (lv_sub hl [1, 2, 3, 4, 5, 6, 0] rfl)
  exact L3 n3 (0 : Int32) st hs _ _ hP hS _ (lv_sub hl [1, 2, 3, 4, 5, 0] rfl)
noncomputable def b_X2_subjects_5 (st : XS) (c5_2 : Int32) (v5_3 : Int32) (v5_4 : Int32) : Option ((Int32 × Int32) ⊕ Int32) :=
  (if (st.1 30 0) ≤ v5_4 then some (Sum.inr (v5_3)) else (if (t_X1_saysIs st v5_4 c5_2) = 0 then some (Sum.inl (v5_3, (v5_4 + 1))) else some (Sum.inl ((v5_3 ||| (t_X6_bit v5_4)), (v5_4 + 1)))))
noncomputable def f_X2_subjects (st : XS) (p2 : Int32) : Option Int32 :=
  (loopC (fun v => b_X2_subjects_5 st p2 v.1 v.2) ((0 : Int32), (0 : Int32)))
set_option maxHeartbeats 4000000 in
set_option maxRecDepth 100000 in
theorem m_X2_subjects (l : Launch) (g : GG) (a : Nat → Nat) (st : XS) (p2 : Int32) (res : Int32) (hs : f_X2_subjects st p2 = some res) : Met l yX2_subjects (Cond.code yX2_subjects cX2_subjects 5 (some .int) :: BIG) ({ frames := 2, cells := 0, slots := 0, locals := 43 } : Room) (va_Pc [.ref (a 1), .ref (a 8), .int p2] (ROp g (xW g a st))) (ROi res) 0 0 (fun _ => False) := by
  refine ro_start (cc := cX2_subjects) (maxL := 5) (ret := (some .int)) (lv := [(0, .ref (a 1)), (1, .ref (a 8)), (2, .int p2)]) (by decide) rfl (Nat.le_of_ble_eq_true rfl) rfl ?_
  intro p e s m args below meth c hx hb hml hr hts hown hlk hK H locs hP hS ls hl
  have hB : ∀ w ∈ BIG, w.before args s = true := fun w h => hts w (List.mem_cons_of_mem _ h)
  have hC : CallFix p m c cX2_subjects 5 s args BIG RX2 := ⟨hx, hb, hml, hown, hB⟩
  unfold f_X2_subjects at hs
  refine lv_iconst (v := 0) hx hb dX2_subjects_0 (by decide) ?_
  refine lv_istore_n (lv' := [(3, .int (0 : Int32)), (0, .ref (a 1)), (1, .ref (a 8)), (2, .int p2)]) hx hb dX2_subjects_1 rfl hl (by decide) rfl (fun ls hl => ?_)
  refine lv_iconst (v := 0) hx hb dX2_subjects_2 (by decide) ?_
  refine lv_istore (lv' := [(4, .int (0 : Int32)), (3, .int (0 : Int32)), (0, .ref (a 1)), (1, .ref (a 8)), (2, .int p2)]) hx hb dX2_subjects_3 hl (by decide) rfl (fun ls hl => ?_)
  obtain ⟨n5, hs⟩ := loopC_iter hs
  have L5 : ∀ (n : Nat) (v5_3 : Int32) (v5_4 : Int32), iterO (fun v => b_X2_subjects_5 st p2 v.1 v.2) n (v5_3, v5_4) = some res → ∀ (H : Heap) (locs : List Loc), va_P g.1 vwCl (xW g a st) H → va_S (fun _ => False) s.heap H locs → ∀ ls : Array Slot, lv_has ls 5 [(0, .ref (a 1)), (1, .ref (a 8)), (2, .int p2), (3, .int v5_3), (4, .int v5_4)] → W p l e ({ frames := 2, cells := 0, slots := 0, locals := 43 } : Room) s m args below meth c H locs 0 0 (MQ below (ROi res) args s 0 0 (fun _ => False)) (F0 m 5 ls []) := by
    intro n
    induction n with
    | zero => intro v5_3 v5_4 hs; exact (iterO_zero hs).elim
    | succ n ih5 =>
      intro v5_3 v5_4 hs H locs hP hS ls hl
      obtain ⟨y5, hs, hk5⟩ := iterO_succ hs
      have hs : b_X2_subjects_5 st p2 v5_3 v5_4 = some y5 := hs
      unfold b_X2_subjects_5 at hs
      refine lv_iload hx hb dX2_subjects_5 (lv_at hl 4 rfl) ?_
      refine lv_aload_n hx hb dX2_subjects_7 rfl (lv_at hl 0 rfl) ?_
      refine xn_RX2_18 hx hb hB hown hK hP dX2_subjects_8 ?_
      refine lv_icmp_ge (tgt := 38) hx hb dX2_subjects_11 (by decide) (fun c1 => ?_) (fun c1 => ?_)
      · have hs := ifp c1 hs
        refine lv_iload_n hx hb dX2_subjects_38 rfl (lv_at hl 3 rfl) ?_
        cases hs
        cases elim_inr hk5
        exact ret_roi hx hb hr hlk hS dX2_subjects_39
      · have hs := ifn c1 hs
        refine lv_aload_n hx hb dX2_subjects_14 rfl (lv_at hl 1 rfl) ?_
        refine lv_iload hx hb dX2_subjects_15 (lv_at hl 4 rfl) ?_
        refine lv_iload_n hx hb dX2_subjects_17 rfl (lv_at hl 2 rfl) ?_
        refine cV_roi (As := [.int v5_4, .int p2]) (rest := []) hC (m_X1_saysIs l g a st v5_4 p2) (kv_of hB bw_19_3 bw_19_1 bw_19_2 bw_2_2 kd_X1_saysIs bw_19_0 rfl rfl ⟨Nat.le_of_ble_eq_true rfl, Nat.le_of_ble_eq_true rfl⟩) hK hP hP hS (xW_8 g a st) rfl rfl hl.1 rfl (Nat.le_of_ble_eq_true rfl) dX2_subjects_18 ⟨Nat.zero_le _, Nat.zero_le _⟩ (fun H locs hP hS => ?_)
        refine lv_if_eq (tgt := 32) hx hb dX2_subjects_21 (by decide) (fun c2 => ?_) (fun c2 => ?_)
        · have hs := ifp c2 hs
          refine lv_iinc (v := (v5_4 + 1)) (lv' := [(4, .int (v5_4 + 1)), (0, .ref (a 1)), (1, .ref (a 8)), (2, .int p2), (3, .int v5_3)]) hx hb dX2_subjects_32 hl (k := 4) rfl (by rfl) (by decide) rfl (fun ls hl => ?_)
          refine lv_goto (tgt := 5) hx hb dX2_subjects_35 (by decide) ?_
          cases hs
          exact ih5 v5_3 (v5_4 + 1) hk5 _ _ hP hS _ (lv_sub hl [1, 2, 3, 4, 0] rfl)
        · have hs := ifn c2 hs
          refine lv_iload_n hx hb dX2_subjects_24 rfl (lv_at hl 3 rfl) ?_
          refine lv_iload hx hb dX2_subjects_25 (lv_at hl 4 rfl) ?_
          refine cN_roi (As := [.int v5_4]) (rest := [.int v5_3]) hC (m_X6_bit l g (xW g a st) v5_4) (kn_of (host := "NotionRounds") hB bw_19_5 bw_19_4 bw_1_2 kd_X6_bit (hK.2 _ (List.mem_of_getElem? (i := 38) rfl)) rfl rfl ⟨Nat.le_of_ble_eq_true rfl, Nat.le_of_ble_eq_true rfl⟩) hK hP hP hS rfl hl.1 rfl (Nat.le_of_ble_eq_true rfl) dX2_subjects_27 ⟨Nat.zero_le _, Nat.zero_le _⟩ (fun H locs hP hS => ?_)
          refine lv_ior hx hb dX2_subjects_30 ?_
          refine lv_istore_n (lv' := [(3, .int (v5_3 ||| (t_X6_bit v5_4))), (0, .ref (a 1)), (1, .ref (a 8)), (2, .int p2), (4, .int v5_4)]) hx hb dX2_subjects_31 rfl hl (by decide) rfl (fun ls hl => ?_)
          refine lv_iinc (v := (v5_4 + 1)) (lv' := [(4, .int (v5_4 + 1)), (3, .int (v5_3 ||| (t_X6_bit v5_4))), (0, .ref (a 1)), (1, .ref (a 8)), (2, .int p2)]) hx hb dX2_subjects_32 hl (k := 4) rfl (by rfl) (by decide) rfl (fun ls hl => ?_)
          refine lv_goto (tgt := 5) hx hb dX2_subjects_35 (by decide) ?_
          cases hs
          exact ih5 (v5_3 ||| (t_X6_bit v5_4)) (v5_4 + 1) hk5 _ _ hP hS _ (lv_sub hl [2, 3, 4, 1, 0] rfl)
  exact L5 n5 (0 : Int32) (0 : Int32) hs _ _ hP hS _ (lv_sub hl [2, 3, 4, 1, 0] rfl)
def t_X2_members (st : XS) (p1 : Int32) : Int32 :=
  (if (t_X6_within p1 (20 : Int32)) = 0 then (0 : Int32) else (t_X6_at 20 (st.1 17) p1))
set_option maxHeartbeats 4000000 in
set_option maxRecDepth 100000 in
theorem m_X2_members (l : Launch) (g : GG) (a : Nat → Nat) (st : XS) (p1 : Int32) : Met l yX2_members (Cond.code yX2_members cX2_members 2 (some .int) :: BIG) ({ frames := 1, cells := 0, slots := 0, locals := 21 } : Room) (va_Pc [.ref (a 16), .int p1] (ROp g (xW g a st))) (ROi (t_X2_members st p1)) 0 0 (fun _ => False) := by
  obtain ⟨res, hs⟩ : ∃ z, t_X2_members st p1 = z := ⟨_, rfl⟩
  rw [hs]
  refine ro_start (cc := cX2_members) (maxL := 2) (ret := (some .int)) (lv := [(0, .ref (a 16)), (1, .int p1)]) (by decide) rfl (Nat.le_of_ble_eq_true rfl) rfl ?_
  intro p e s m args below meth c hx hb hml hr hts hown hlk hK H locs hP hS ls hl
  have hB : ∀ w ∈ BIG, w.before args s = true := fun w h => hts w (List.mem_cons_of_mem _ h)
  have hC : CallFix p m c cX2_members 2 s args BIG RX2 := ⟨hx, hb, hml, hown, hB⟩
  unfold t_X2_members at hs
  refine lv_iload_n hx hb dX2_members_0 rfl (lv_at hl 1 rfl) ?_
  refine lv_bipush (v := 20) hx hb dX2_members_1 (by decide) ?_
  refine cN_roi (As := [.int p1, .int (20 : Int32)]) (rest := []) hC (m_X6_within l g (xW g a st) p1 (20 : Int32)) (kn_of (host := "NotionRounds") hB bw_7_6 bw_7_5 bw_1_2 kd_X6_within (hK.2 _ (List.mem_of_getElem? (i := 42) rfl)) rfl rfl ⟨Nat.le_of_ble_eq_true rfl, Nat.le_of_ble_eq_true rfl⟩) hK hP hP hS rfl hl.1 rfl (Nat.le_of_ble_eq_true rfl) dX2_members_3 ⟨Nat.zero_le _, Nat.zero_le _⟩ (fun H locs hP hS => ?_)
  refine lv_if_eq (tgt := 20) hx hb dX2_members_6 (by decide) (fun c1 => ?_) (fun c1 => ?_)
  · have hs := ifp c1 hs
    refine lv_iconst (v := 0) hx hb dX2_members_20 (by decide) ?_
    subst hs
    exact ret_roi hx hb hr hlk hS dX2_members_21
  · have hs := ifn c1 hs
    refine lv_aload_n hx hb dX2_members_9 rfl (lv_at hl 0 rfl) ?_
    refine xg_2_0 hx hb hB hown hK hP dX2_members_10 ?_
    refine lv_iload_n hx hb dX2_members_13 rfl (lv_at hl 1 rfl) ?_
    refine cN_roi (As := [.ref (a 17), .int p1]) (rest := []) hC (m_X6_at l g (xW g a st) 17 20 (st.1 17) (a 17) (xW_17 g a st) (by decide) p1) (kn_of (host := "NotionRounds") hB bw_8_0 bw_7_23 bw_1_2 kd_X6_at (hK.2 _ (List.mem_of_getElem? (i := 43) rfl)) rfl rfl ⟨Nat.le_of_ble_eq_true rfl, Nat.le_of_ble_eq_true rfl⟩) hK hP hP hS rfl hl.1 rfl (Nat.le_of_ble_eq_true rfl) dX2_members_14 ⟨Nat.zero_le _, Nat.zero_le _⟩ (fun H locs hP hS => ?_)
    refine lv_goto (tgt := 21) hx hb dX2_members_17 (by decide) ?_
    subst hs
    exact ret_roi hx hb hr hlk hS dX2_members_21
noncomputable def b_X2_havers_5 (st : XS) (c5_1 : Int32) (c5_2 : Int32) (v5_3 : Int32) (v5_4 : Int32) : Option ((Int32 × Int32) ⊕ Int32) :=
  (if (20 : Int32) ≤ v5_4 then some (Sum.inr (v5_3)) else (if ((t_X2_partners st c5_1 v5_4) &&& c5_2) = 0 then some (Sum.inl (v5_3, (v5_4 + 1))) else some (Sum.inl ((v5_3 ||| (t_X6_bit v5_4)), (v5_4 + 1)))))
noncomputable def f_X2_havers (st : XS) (p1 : Int32) (p2 : Int32) : Option Int32 :=
  (loopC (fun v => b_X2_havers_5 st p1 p2 v.1 v.2) ((0 : Int32), (0 : Int32)))
set_option maxHeartbeats 4000000 in
set_option maxRecDepth 100000 in
theorem m_X2_havers (l : Launch) (g : GG) (a : Nat → Nat) (st : XS) (p1 : Int32) (p2 : Int32) (res : Int32) (hs : f_X2_havers st p1 p2 = some res) : Met l yX2_havers (Cond.code yX2_havers cX2_havers 5 (some .int) :: BIG) ({ frames := 3, cells := 0, slots := 0, locals := 63 } : Room) (va_Pc [.ref (a 16), .int p1, .int p2] (ROp g (xW g a st))) (ROi res) 0 0 (fun _ => False) := by
  refine ro_start (cc := cX2_havers) (maxL := 5) (ret := (some .int)) (lv := [(0, .ref (a 16)), (1, .int p1), (2, .int p2)]) (by decide) rfl (Nat.le_of_ble_eq_true rfl) rfl ?_
  intro p e s m args below meth c hx hb hml hr hts hown hlk hK H locs hP hS ls hl
  have hB : ∀ w ∈ BIG, w.before args s = true := fun w h => hts w (List.mem_cons_of_mem _ h)
  have hC : CallFix p m c cX2_havers 5 s args BIG RX2 := ⟨hx, hb, hml, hown, hB⟩
  unfold f_X2_havers at hs
  refine lv_iconst (v := 0) hx hb dX2_havers_0 (by decide) ?_
  refine lv_istore_n (lv' := [(3, .int (0 : Int32)), (0, .ref (a 16)), (1, .int p1), (2, .int p2)]) hx hb dX2_havers_1 rfl hl (by decide) rfl (fun ls hl => ?_)
  refine lv_iconst (v := 0) hx hb dX2_havers_2 (by decide) ?_
  refine lv_istore (lv' := [(4, .int (0 : Int32)), (3, .int (0 : Int32)), (0, .ref (a 16)), (1, .int p1), (2, .int p2)]) hx hb dX2_havers_3 hl (by decide) rfl (fun ls hl => ?_)
  obtain ⟨n5, hs⟩ := loopC_iter hs
  have L5 : ∀ (n : Nat) (v5_3 : Int32) (v5_4 : Int32), iterO (fun v => b_X2_havers_5 st p1 p2 v.1 v.2) n (v5_3, v5_4) = some res → ∀ (H : Heap) (locs : List Loc), va_P g.1 vwCl (xW g a st) H → va_S (fun _ => False) s.heap H locs → ∀ ls : Array Slot, lv_has ls 5 [(0, .ref (a 16)), (1, .int p1), (2, .int p2), (3, .int v5_3), (4, .int v5_4)] → W p l e ({ frames := 3, cells := 0, slots := 0, locals := 63 } : Room) s m args below meth c H locs 0 0 (MQ below (ROi res) args s 0 0 (fun _ => False)) (F0 m 5 ls []) := by
    intro n
    induction n with
    | zero => intro v5_3 v5_4 hs; exact (iterO_zero hs).elim
    | succ n ih5 =>
      intro v5_3 v5_4 hs H locs hP hS ls hl
      obtain ⟨y5, hs, hk5⟩ := iterO_succ hs
      have hs : b_X2_havers_5 st p1 p2 v5_3 v5_4 = some y5 := hs
      unfold b_X2_havers_5 at hs
      refine lv_iload hx hb dX2_havers_5 (lv_at hl 4 rfl) ?_
      refine lv_bipush (v := 20) hx hb dX2_havers_7 (by decide) ?_
      refine lv_icmp_ge (tgt := 38) hx hb dX2_havers_9 (by decide) (fun c1 => ?_) (fun c1 => ?_)
      · have hs := ifp c1 hs
        refine lv_iload_n hx hb dX2_havers_38 rfl (lv_at hl 3 rfl) ?_
        cases hs
        cases elim_inr hk5
        exact ret_roi hx hb hr hlk hS dX2_havers_39
      · have hs := ifn c1 hs
        refine lv_aload_n hx hb dX2_havers_12 rfl (lv_at hl 0 rfl) ?_
        refine lv_iload_n hx hb dX2_havers_13 rfl (lv_at hl 1 rfl) ?_
        refine lv_iload hx hb dX2_havers_14 (lv_at hl 4 rfl) ?_
        refine cV_roi (As := [.int p1, .int v5_4]) (rest := []) hC (m_X2_partners l g a st p1 v5_4) (kv_of hB bw_19_21 bw_19_19 bw_19_20 bw_2_10 kd_X2_partners bw_19_18 rfl rfl ⟨Nat.le_of_ble_eq_true rfl, Nat.le_of_ble_eq_true rfl⟩) hK hP hP hS (xW_16 g a st) rfl rfl hl.1 rfl (Nat.le_of_ble_eq_true rfl) dX2_havers_16 ⟨Nat.zero_le _, Nat.zero_le _⟩ (fun H locs hP hS => ?_)
        refine lv_iload_n hx hb dX2_havers_19 rfl (lv_at hl 2 rfl) ?_
        refine lv_iand hx hb dX2_havers_20 ?_
        refine lv_if_eq (tgt := 32) hx hb dX2_havers_21 (by decide) (fun c2 => ?_) (fun c2 => ?_)
        · have hs := ifp c2 hs
          refine lv_iinc (v := (v5_4 + 1)) (lv' := [(4, .int (v5_4 + 1)), (0, .ref (a 16)), (1, .int p1), (2, .int p2), (3, .int v5_3)]) hx hb dX2_havers_32 hl (k := 4) rfl (by rfl) (by decide) rfl (fun ls hl => ?_)
          refine lv_goto (tgt := 5) hx hb dX2_havers_35 (by decide) ?_
          cases hs
          exact ih5 v5_3 (v5_4 + 1) hk5 _ _ hP hS _ (lv_sub hl [1, 2, 3, 4, 0] rfl)
        · have hs := ifn c2 hs
          refine lv_iload_n hx hb dX2_havers_24 rfl (lv_at hl 3 rfl) ?_
          refine lv_iload hx hb dX2_havers_25 (lv_at hl 4 rfl) ?_
          refine cN_roi (As := [.int v5_4]) (rest := [.int v5_3]) hC (m_X6_bit l g (xW g a st) v5_4) (kn_of (host := "NotionRounds") hB bw_19_5 bw_19_4 bw_1_2 kd_X6_bit (hK.2 _ (List.mem_of_getElem? (i := 38) rfl)) rfl rfl ⟨Nat.le_of_ble_eq_true rfl, Nat.le_of_ble_eq_true rfl⟩) hK hP hP hS rfl hl.1 rfl (Nat.le_of_ble_eq_true rfl) dX2_havers_27 ⟨Nat.zero_le _, Nat.zero_le _⟩ (fun H locs hP hS => ?_)
          refine lv_ior hx hb dX2_havers_30 ?_
          refine lv_istore_n (lv' := [(3, .int (v5_3 ||| (t_X6_bit v5_4))), (0, .ref (a 16)), (1, .int p1), (2, .int p2), (4, .int v5_4)]) hx hb dX2_havers_31 rfl hl (by decide) rfl (fun ls hl => ?_)
          refine lv_iinc (v := (v5_4 + 1)) (lv' := [(4, .int (v5_4 + 1)), (3, .int (v5_3 ||| (t_X6_bit v5_4))), (0, .ref (a 16)), (1, .int p1), (2, .int p2)]) hx hb dX2_havers_32 hl (k := 4) rfl (by rfl) (by decide) rfl (fun ls hl => ?_)
          refine lv_goto (tgt := 5) hx hb dX2_havers_35 (by decide) ?_
          cases hs
          exact ih5 (v5_3 ||| (t_X6_bit v5_4)) (v5_4 + 1) hk5 _ _ hP hS _ (lv_sub hl [2, 3, 4, 1, 0] rfl)
  exact L5 n5 (0 : Int32) (0 : Int32) hs _ _ hP hS _ (lv_sub hl [2, 3, 4, 1, 0] rfl)
noncomputable def f_X2_membersByMeaning (st : XS) (p3 : Int32) (p4 : Int32) : Option Int32 :=
  (if (t_X3_sort st p3) = 0 then some (p4) else (if (t_X3_sort st p3) = 1 then some ((0 : Int32)) else (if (t_X3_sort st p3) = 2 then (Option.bind (f_X2_subjects st p3) (fun r4 => some ((p4 &&& r4)))) else (if (t_X3_sort st p3) = 3 then some (((t_X2_members st (t_X3_first st p3)) &&& (t_X2_members st (t_X3_second st p3)))) else (Option.bind (f_X2_havers st (t_X3_first st p3) (t_X2_members st (t_X3_second st p3))) (fun r6 => some (r6)))))))
set_option maxHeartbeats 4000000 in
set_option maxRecDepth 100000 in
theorem m_X2_membersByMeaning (l : Launch) (g : GG) (a : Nat → Nat) (st : XS) (p3 : Int32) (p4 : Int32) (res : Int32) (hs : f_X2_membersByMeaning st p3 p4 = some res) : Met l yX2_membersByMeaning (Cond.code yX2_membersByMeaning cX2_membersByMeaning 7 (some .int) :: BIG) ({ frames := 4, cells := 0, slots := 0, locals := 87 } : Room) (va_Pc [.ref (a 16), .ref (a 1), .ref (a 8), .int p3, .int p4] (ROp g (xW g a st))) (ROi res) 0 0 (fun _ => False) := by
  refine ro_start (cc := cX2_membersByMeaning) (maxL := 7) (ret := (some .int)) (lv := [(0, .ref (a 16)), (1, .ref (a 1)), (2, .ref (a 8)), (3, .int p3), (4, .int p4)]) (by decide) rfl (Nat.le_of_ble_eq_true rfl) rfl ?_
  intro p e s m args below meth c hx hb hml hr hts hown hlk hK H locs hP hS ls hl
  have hB : ∀ w ∈ BIG, w.before args s = true := fun w h => hts w (List.mem_cons_of_mem _ h)
  have hC : CallFix p m c cX2_membersByMeaning 7 s args BIG RX2 := ⟨hx, hb, hml, hown, hB⟩
  unfold f_X2_membersByMeaning at hs
  refine lv_aload_n hx hb dX2_membersByMeaning_0 rfl (lv_at hl 1 rfl) ?_
  refine lv_iload_n hx hb dX2_membersByMeaning_1 rfl (lv_at hl 3 rfl) ?_
  refine cV_roi (As := [.int p3]) (rest := []) hC (m_X3_first l g a st p3) (kv_of hB bw_8_4 bw_8_2 bw_8_3 bw_1_14 kd_X3_first bw_20_2 rfl rfl ⟨Nat.le_of_ble_eq_true rfl, Nat.le_of_ble_eq_true rfl⟩) hK hP hP hS (xW_1 g a st) rfl rfl hl.1 rfl (Nat.le_of_ble_eq_true rfl) dX2_membersByMeaning_2 ⟨Nat.zero_le _, Nat.zero_le _⟩ (fun H locs hP hS => ?_)
  refine lv_istore (lv' := [(5, .int (t_X3_first st p3)), (0, .ref (a 16)), (1, .ref (a 1)), (2, .ref (a 8)), (3, .int p3), (4, .int p4)]) hx hb dX2_membersByMeaning_5 hl (by decide) rfl (fun ls hl => ?_)
  refine lv_aload_n hx hb dX2_membersByMeaning_7 rfl (lv_at hl 2 rfl) ?_
  refine lv_iload_n hx hb dX2_membersByMeaning_8 rfl (lv_at hl 4 rfl) ?_
  refine cV_roi (As := [.int p3]) (rest := []) hC (m_X3_second l g a st p3) (kv_of hB bw_8_8 bw_8_6 bw_8_7 bw_1_14 kd_X3_second bw_20_3 rfl rfl ⟨Nat.le_of_ble_eq_true rfl, Nat.le_of_ble_eq_true rfl⟩) hK hP hP hS (xW_1 g a st) rfl rfl hl.1 rfl (Nat.le_of_ble_eq_true rfl) dX2_membersByMeaning_9 ⟨Nat.zero_le _, Nat.zero_le _⟩ (fun H locs hP hS => ?_)
  refine lv_istore (lv' := [(6, .int (t_X3_second st p3)), (5, .int (t_X3_first st p3)), (0, .ref (a 16)), (1, .ref (a 1)), (2, .ref (a 8)), (3, .int p3), (4, .int p4)]) hx hb dX2_membersByMeaning_12 hl (by decide) rfl (fun ls hl => ?_)
  refine lv_aload_n hx hb dX2_membersByMeaning_14 rfl (lv_at hl 3 rfl) ?_
  refine lv_iload_n hx hb dX2_membersByMeaning_15 rfl (lv_at hl 5 rfl) ?_
  refine cV_roi (As := [.int p3]) (rest := []) hC (m_X3_sort l g a st p3) (kv_of hB bw_7_18 bw_7_16 bw_7_17 bw_1_14 kd_X3_sort bw_20_4 rfl rfl ⟨Nat.le_of_ble_eq_true rfl, Nat.le_of_ble_eq_true rfl⟩) hK hP hP hS (xW_1 g a st) rfl rfl hl.1 rfl (Nat.le_of_ble_eq_true rfl) dX2_membersByMeaning_16 ⟨Nat.zero_le _, Nat.zero_le _⟩ (fun H locs hP hS => ?_)
  by_cases c1 : (t_X3_sort st p3) = 0
  · have hs := ifp c1 hs
    refine lv_tableIn (tgt := 48) (off := 29) hx hb dX2_membersByMeaning_19 (by rw [sw_in (a := 0) c1 (by decide)]; decide) (by rw [sw_in (a := 0) c1 (by decide)]; decide) (by rw [sw_in (a := 0) c1 (by decide)]; rfl) (by decide) ?_
    refine lv_iload hx hb dX2_membersByMeaning_48 (lv_at hl 6 rfl) ?_
    cases hs
    exact ret_roi hx hb hr hlk hS dX2_membersByMeaning_50
  · have hs := ifn c1 hs
    by_cases c2 : (t_X3_sort st p3) = 1
    · have hs := ifp c2 hs
      refine lv_tableIn (tgt := 51) (off := 32) hx hb dX2_membersByMeaning_19 (by rw [sw_in (a := 1) c2 (by decide)]; decide) (by rw [sw_in (a := 1) c2 (by decide)]; decide) (by rw [sw_in (a := 1) c2 (by decide)]; rfl) (by decide) ?_
      refine lv_iconst (v := 0) hx hb dX2_membersByMeaning_51 (by decide) ?_
      cases hs
      exact ret_roi hx hb hr hlk hS dX2_membersByMeaning_52
    · have hs := ifn c2 hs
      by_cases c3 : (t_X3_sort st p3) = 2
      · have hs := ifp c3 hs
        refine lv_tableIn (tgt := 53) (off := 34) hx hb dX2_membersByMeaning_19 (by rw [sw_in (a := 2) c3 (by decide)]; decide) (by rw [sw_in (a := 2) c3 (by decide)]; decide) (by rw [sw_in (a := 2) c3 (by decide)]; rfl) (by decide) ?_
        refine lv_iload hx hb dX2_membersByMeaning_53 (lv_at hl 6 rfl) ?_
        refine lv_aload_n hx hb dX2_membersByMeaning_55 rfl (lv_at hl 3 rfl) ?_
        refine lv_aload_n hx hb dX2_membersByMeaning_56 rfl (lv_at hl 4 rfl) ?_
        refine lv_iload_n hx hb dX2_membersByMeaning_57 rfl (lv_at hl 5 rfl) ?_
        obtain ⟨r4, e4, hs⟩ := Option.bind_eq_some_iff.mp hs
        refine cS_roi (As := [.ref (a 1), .ref (a 8), .int p3]) (rest := [.int p4]) hC (m_X2_subjects l g a st p3 r4 e4) (ks_of hB bw_20_7 bw_20_6 bw_2_10 kd_X2_subjects bw_20_5 rfl rfl ⟨Nat.le_of_ble_eq_true rfl, Nat.le_of_ble_eq_true rfl⟩) hK hP hP hS rfl hl.1 rfl (Nat.le_of_ble_eq_true rfl) dX2_membersByMeaning_58 ⟨Nat.zero_le _, Nat.zero_le _⟩ (fun H locs hP hS => ?_)
        refine lv_iand hx hb dX2_membersByMeaning_61 ?_
        cases hs
        exact ret_roi hx hb hr hlk hS dX2_membersByMeaning_62
      · have hs := ifn c3 hs
        by_cases c5 : (t_X3_sort st p3) = 3
        · have hs := ifp c5 hs
          refine lv_tableIn (tgt := 63) (off := 44) hx hb dX2_membersByMeaning_19 (by rw [sw_in (a := 3) c5 (by decide)]; decide) (by rw [sw_in (a := 3) c5 (by decide)]; decide) (by rw [sw_in (a := 3) c5 (by decide)]; rfl) (by decide) ?_
          refine lv_aload_n hx hb dX2_membersByMeaning_63 rfl (lv_at hl 2 rfl) ?_
          refine lv_iload hx hb dX2_membersByMeaning_64 (lv_at hl 1 rfl) ?_
          refine cV_roi (As := [.int (t_X3_first st p3)]) (rest := []) hC (m_X2_members l g a st (t_X3_first st p3)) (kv_of hB bw_20_11 bw_20_9 bw_20_10 bw_2_10 kd_X2_members bw_20_8 rfl rfl ⟨Nat.le_of_ble_eq_true rfl, Nat.le_of_ble_eq_true rfl⟩) hK hP hP hS (xW_16 g a st) rfl rfl hl.1 rfl (Nat.le_of_ble_eq_true rfl) dX2_membersByMeaning_66 ⟨Nat.zero_le _, Nat.zero_le _⟩ (fun H locs hP hS => ?_)
          refine lv_aload_n hx hb dX2_membersByMeaning_69 rfl (lv_at hl 2 rfl) ?_
          refine lv_iload hx hb dX2_membersByMeaning_70 (lv_at hl 0 rfl) ?_
          refine cV_roi (As := [.int (t_X3_second st p3)]) (rest := [.int (t_X2_members st (t_X3_first st p3))]) hC (m_X2_members l g a st (t_X3_second st p3)) (kv_of hB bw_20_11 bw_20_9 bw_20_10 bw_2_10 kd_X2_members bw_20_8 rfl rfl ⟨Nat.le_of_ble_eq_true rfl, Nat.le_of_ble_eq_true rfl⟩) hK hP hP hS (xW_16 g a st) rfl rfl hl.1 rfl (Nat.le_of_ble_eq_true rfl) dX2_membersByMeaning_72 ⟨Nat.zero_le _, Nat.zero_le _⟩ (fun H locs hP hS => ?_)
          refine lv_iand hx hb dX2_membersByMeaning_75 ?_
          cases hs
          exact ret_roi hx hb hr hlk hS dX2_membersByMeaning_76
        · have hs := ifn c5 hs
          have q1 := lv_neT (a := 0) c1 (by decide)
          have q2 := lv_neT (a := 1) c2 (by decide)
          have q3 := lv_neT (a := 2) c3 (by decide)
          have q5 := lv_neT (a := 3) c5 (by decide)
          refine lv_tableOut (tgt := 77) hx hb dX2_membersByMeaning_19 (by omega) (by decide) ?_
          refine lv_aload_n hx hb dX2_membersByMeaning_77 rfl (lv_at hl 2 rfl) ?_
          refine lv_iload hx hb dX2_membersByMeaning_78 (lv_at hl 1 rfl) ?_
          refine lv_aload_n hx hb dX2_membersByMeaning_80 rfl (lv_at hl 2 rfl) ?_
          refine lv_iload hx hb dX2_membersByMeaning_81 (lv_at hl 0 rfl) ?_
          refine cV_roi (As := [.int (t_X3_second st p3)]) (rest := [.int (t_X3_first st p3), .ref (a 16)]) hC (m_X2_members l g a st (t_X3_second st p3)) (kv_of hB bw_20_11 bw_20_9 bw_20_10 bw_2_10 kd_X2_members bw_20_8 rfl rfl ⟨Nat.le_of_ble_eq_true rfl, Nat.le_of_ble_eq_true rfl⟩) hK hP hP hS (xW_16 g a st) rfl rfl hl.1 rfl (Nat.le_of_ble_eq_true rfl) dX2_membersByMeaning_83 ⟨Nat.zero_le _, Nat.zero_le _⟩ (fun H locs hP hS => ?_)
          obtain ⟨r6, e6, hs⟩ := Option.bind_eq_some_iff.mp hs
          refine cV_roi (As := [.int (t_X3_first st p3), .int (t_X2_members st (t_X3_second st p3))]) (rest := []) hC (m_X2_havers l g a st (t_X3_first st p3) (t_X2_members st (t_X3_second st p3)) r6 e6) (kv_of hB bw_20_15 bw_20_13 bw_20_14 bw_2_10 kd_X2_havers bw_20_12 rfl rfl ⟨Nat.le_of_ble_eq_true rfl, Nat.le_of_ble_eq_true rfl⟩) hK hP hP hS (xW_16 g a st) rfl rfl hl.1 rfl (Nat.le_of_ble_eq_true rfl) dX2_membersByMeaning_86 ⟨Nat.zero_le _, Nat.zero_le _⟩ (fun H locs hP hS => ?_)
          cases hs
          exact ret_roi hx hb hr hlk hS dX2_membersByMeaning_89
noncomputable def b_X2_build_129 (c129_4 : Int32) (v129_5 : Int32) (z129 : XS) : Option ((Int32 × XS) ⊕ XS) :=
  (if (z129.1 30 0) ≤ v129_5 then some (Sum.inr (z129)) else (Option.bind (f_X2_membersByMeaning z129 v129_5 c129_4) (fun r5 => (Option.bind (some (sA z129 17 (t_X6_put 20 (z129.1 17) v129_5 r5))) (fun r6 => some (Sum.inl ((v129_5 + 1), r6)))))))
noncomputable def b_X2_build_75 (c75_4 : Int32) (c75_5 : Int32) (v75_6 : Int32) (z75 : XS) : Option ((Int32 × XS) ⊕ ((Int32 × XS) ⊕ XS)) :=
  (if (z75.1 30 0) ≤ v75_6 then some (Sum.inr (Sum.inl ((c75_5 + 1), z75))) else (if (t_X6_hasBit c75_4 c75_5) = 0 then some (Sum.inl ((v75_6 + 1), z75)) else (if (t_X6_hasBit c75_4 v75_6) = 0 then some (Sum.inl ((v75_6 + 1), z75)) else (Option.bind (f_X2_buildPair z75 c75_5 v75_6) (fun r10 => some (Sum.inl ((v75_6 + 1), r10)))))))
noncomputable def b_X2_build_63 (c63_4 : Int32) (v63_5 : Int32) (z63 : XS) : Option ((Int32 × XS) ⊕ XS) :=
  (if (z63.1 30 0) ≤ v63_5 then (Option.map (fun z => Sum.inr (z)) (loopC (fun v => b_X2_build_129 c63_4 v.1 v.2) ((0 : Int32), z63))) else (loopC (fun v => b_X2_build_75 c63_4 v63_5 v.1 v.2) ((0 : Int32), z63)))
noncomputable def b_X2_build_6 (st : XS) (v6_4 : Int32) (v6_5 : Int32) : Option ((Int32 × Int32) ⊕ XS) :=
  (if (st.1 30 0) ≤ v6_5 then (Option.bind ((f_X6_fill 80 (st.1 18) (0 : Int32)).map (sA st 18)) (fun r2 => (Option.map (fun z => Sum.inr (z)) (loopC (fun v => b_X2_build_63 v6_4 v.1 v.2) ((0 : Int32), r2))))) else (if (t_X1_saysIs st v6_5 v6_5) = 0 then some (Sum.inl (v6_4, (v6_5 + 1))) else (if (t_X1_saysIs st v6_5 (1 : Int32)) = 0 then some (Sum.inl ((v6_4 ||| (t_X6_bit v6_5)), (v6_5 + 1))) else some (Sum.inl (v6_4, (v6_5 + 1))))))
noncomputable def f_X2_build (st : XS) : Option XS :=
  (loopC (fun v => b_X2_build_6 st v.1 v.2) ((0 : Int32), (0 : Int32)))
set_option maxHeartbeats 4000000 in
set_option maxRecDepth 100000 in
theorem m_X2_build (l : Launch) (g : GG) (a : Nat → Nat) (st : XS) (sz : Nat)  (res : XS) (hs : f_X2_build st = some res) : Met l yX2_build (Cond.code yX2_build cX2_build 7 none :: BIG) ({ frames := 5, cells := 0, slots := 0, locals := 113 } : Room) (va_Pc [.ref (a 16), .ref (a 1), .ref (a 5), .ref (a 8)] (RWp g (xW g a st) sz)) (RWv g (xW g a res) (va_A (xW g a st) sz)) 0 0 (va_A (xW g a st) sz) := by
  refine rw_start (cc := cX2_build) (maxL := 7) (ret := none) (lv := [(0, .ref (a 16)), (1, .ref (a 1)), (2, .ref (a 5)), (3, .ref (a 8))]) (Qc := fun A => (RWv g (xW g a res) A)) (by decide) rfl (Nat.le_of_ble_eq_true rfl) rfl ?_
  intro p e s m args below meth c hx hb hml hr hts hown hlk hK A hD0 hA H locs hP hS ls hl
  have hD : ∀ st' : XS, va_D A (xW g a st') := fun _ => xW_D hD0
  have hB : ∀ w ∈ BIG, w.before args s = true := fun w h => hts w (List.mem_cons_of_mem _ h)
  have hC : CallFix p m c cX2_build 7 s args BIG RX2 := ⟨hx, hb, hml, hown, hB⟩
  unfold f_X2_build at hs
  refine lv_iconst (v := 0) hx hb dX2_build_0 (by decide) ?_
  refine lv_istore (lv' := [(4, .int (0 : Int32)), (0, .ref (a 16)), (1, .ref (a 1)), (2, .ref (a 5)), (3, .ref (a 8))]) hx hb dX2_build_1 hl (by decide) rfl (fun ls hl => ?_)
  refine lv_iconst (v := 0) hx hb dX2_build_3 (by decide) ?_
  refine lv_istore (lv' := [(5, .int (0 : Int32)), (4, .int (0 : Int32)), (0, .ref (a 16)), (1, .ref (a 1)), (2, .ref (a 5)), (3, .ref (a 8))]) hx hb dX2_build_4 hl (by decide) rfl (fun ls hl => ?_)
  obtain ⟨n6, hs⟩ := loopC_iter hs
  have L6 : ∀ (n : Nat) (v6_4 : Int32) (v6_5 : Int32), iterO (fun v => b_X2_build_6 st v.1 v.2) n (v6_4, v6_5) = some res → ∀ (H : Heap) (locs : List Loc), va_P g.1 vwCl (xW g a st) H → va_S A s.heap H locs → ∀ ls : Array Slot, lv_has ls 7 [(0, .ref (a 16)), (1, .ref (a 1)), (2, .ref (a 5)), (3, .ref (a 8)), (4, .int v6_4), (5, .int v6_5)] → W p l e ({ frames := 5, cells := 0, slots := 0, locals := 113 } : Room) s m args below meth c H locs 0 0 (MQ below (RWv g (xW g a res) A) args s 0 0 A) (F0 m 6 ls []) := by
    intro n
    induction n with
    | zero => intro v6_4 v6_5 hs; exact (iterO_zero hs).elim
    | succ n ih6 =>
      intro v6_4 v6_5 hs H locs hP hS ls hl
      obtain ⟨y6, hs, hk6⟩ := iterO_succ hs
      have hs : b_X2_build_6 st v6_4 v6_5 = some y6 := hs
      unfold b_X2_build_6 at hs
      refine lv_iload hx hb dX2_build_6 (lv_at hl 5 rfl) ?_
      refine lv_aload_n hx hb dX2_build_8 rfl (lv_at hl 1 rfl) ?_
      refine xn_RX2_18 hx hb hB hown hK hP dX2_build_9 ?_
      refine lv_icmp_ge (tgt := 52) hx hb dX2_build_12 (by decide) (fun c1 => ?_) (fun c1 => ?_)
      · have hs := ifp c1 hs
        refine lv_aload_n hx hb dX2_build_52 rfl (lv_at hl 0 rfl) ?_
        refine xg_2_1 hx hb hB hown hK hP dX2_build_53 ?_
        refine lv_iconst (v := 0) hx hb dX2_build_56 (by decide) ?_
        obtain ⟨r2, e2, hs⟩ := Option.bind_eq_some_iff.mp hs
        refine cN_rwv (As := [.ref (a 18), .int (0 : Int32)]) (rest := []) hC (m_X6_fill_18 l g a st r2 H.size (0 : Int32) e2) (kn_of (host := "NotionRounds") hB bw_13_15 bw_13_14 bw_1_2 kd_X6_fill (hK.2 _ (List.mem_of_getElem? (i := 39) rfl)) rfl rfl ⟨Nat.le_of_ble_eq_true rfl, Nat.le_of_ble_eq_true rfl⟩) hK hP (hD _) hA hS rfl hl.1 rfl (Nat.le_of_ble_eq_true rfl) dX2_build_57 ⟨Nat.zero_le _, Nat.zero_le _⟩ (fun H locs hP hS => ?_)
        refine lv_iconst (v := 0) hx hb dX2_build_60 (by decide) ?_
        refine lv_istore (lv' := [(5, .int (0 : Int32)), (0, .ref (a 16)), (1, .ref (a 1)), (2, .ref (a 5)), (3, .ref (a 8)), (4, .int v6_4)]) hx hb dX2_build_61 hl (by decide) rfl (fun ls hl => ?_)
        obtain ⟨w63, hm63, hw63⟩ := Option.map_eq_some_iff.mp hs
        clear hs
        cases hw63
        cases elim_inr hk6
        have hs := hm63
        obtain ⟨n63, hs⟩ := loopC_iter hs
        have L63 : ∀ (n : Nat) (v63_5 : Int32) (z63 : XS), iterO (fun v => b_X2_build_63 v6_4 v.1 v.2) n (v63_5, z63) = some res → ∀ (H : Heap) (locs : List Loc), va_P g.1 vwCl (xW g a z63) H → va_S A s.heap H locs → ∀ ls : Array Slot, lv_has ls 7 [(0, .ref (a 16)), (1, .ref (a 1)), (2, .ref (a 5)), (3, .ref (a 8)), (4, .int v6_4), (5, .int v63_5)] → W p l e ({ frames := 5, cells := 0, slots := 0, locals := 113 } : Room) s m args below meth c H locs 0 0 (MQ below (RWv g (xW g a res) A) args s 0 0 A) (F0 m 63 ls []) := by
          intro n
          induction n with
          | zero => intro v63_5 z63 hs; exact (iterO_zero hs).elim
          | succ n ih63 =>
            intro v63_5 z63 hs H locs hP hS ls hl
            obtain ⟨y63, hs, hk63⟩ := iterO_succ hs
            have hs : b_X2_build_63 v6_4 v63_5 z63 = some y63 := hs
            unfold b_X2_build_63 at hs
            refine lv_iload hx hb dX2_build_63 (lv_at hl 5 rfl) ?_
            refine lv_aload_n hx hb dX2_build_65 rfl (lv_at hl 1 rfl) ?_
            refine xn_RX2_18 hx hb hB hown hK hP dX2_build_66 ?_
            refine lv_icmp_ge (tgt := 126) hx hb dX2_build_69 (by decide) (fun c3 => ?_) (fun c3 => ?_)
            · have hs := ifp c3 hs
              refine lv_iconst (v := 0) hx hb dX2_build_126 (by decide) ?_
              refine lv_istore (lv' := [(5, .int (0 : Int32)), (0, .ref (a 16)), (1, .ref (a 1)), (2, .ref (a 5)), (3, .ref (a 8)), (4, .int v6_4)]) hx hb dX2_build_127 hl (by decide) rfl (fun ls hl => ?_)
              obtain ⟨w129, hm129, hw129⟩ := Option.map_eq_some_iff.mp hs
              clear hs
              cases hw129
              cases elim_inr hk63
              have hs := hm129
              obtain ⟨n129, hs⟩ := loopC_iter hs
              have L129 : ∀ (n : Nat) (v129_5 : Int32) (z129 : XS), iterO (fun v => b_X2_build_129 v6_4 v.1 v.2) n (v129_5, z129) = some res → ∀ (H : Heap) (locs : List Loc), va_P g.1 vwCl (xW g a z129) H → va_S A s.heap H locs → ∀ ls : Array Slot, lv_has ls 7 [(0, .ref (a 16)), (1, .ref (a 1)), (3, .ref (a 8)), (4, .int v6_4), (5, .int v129_5)] → W p l e ({ frames := 5, cells := 0, slots := 0, locals := 113 } : Room) s m args below meth c H locs 0 0 (MQ below (RWv g (xW g a res) A) args s 0 0 A) (F0 m 129 ls []) := by
                intro n
                induction n with
                | zero => intro v129_5 z129 hs; exact (iterO_zero hs).elim
                | succ n ih129 =>
                  intro v129_5 z129 hs H locs hP hS ls hl
                  obtain ⟨y129, hs, hk129⟩ := iterO_succ hs
                  have hs : b_X2_build_129 v6_4 v129_5 z129 = some y129 := hs
                  unfold b_X2_build_129 at hs
                  refine lv_iload hx hb dX2_build_129 (lv_at hl 4 rfl) ?_
                  refine lv_aload_n hx hb dX2_build_131 rfl (lv_at hl 1 rfl) ?_
                  refine xn_RX2_18 hx hb hB hown hK hP dX2_build_132 ?_
                  refine lv_icmp_ge (tgt := 163) hx hb dX2_build_135 (by decide) (fun c4 => ?_) (fun c4 => ?_)
                  · have hs := ifp c4 hs
                    cases hs
                    cases elim_inr hk129
                    exact ret_rwv hx hb hr hlk hP hS dX2_build_163
                  · have hs := ifn c4 hs
                    refine lv_aload_n hx hb dX2_build_138 rfl (lv_at hl 0 rfl) ?_
                    refine xg_2_0 hx hb hB hown hK hP dX2_build_139 ?_
                    refine lv_iload hx hb dX2_build_142 (lv_at hl 4 rfl) ?_
                    refine lv_aload_n hx hb dX2_build_144 rfl (lv_at hl 0 rfl) ?_
                    refine lv_aload_n hx hb dX2_build_145 rfl (lv_at hl 1 rfl) ?_
                    refine lv_aload_n hx hb dX2_build_146 rfl (lv_at hl 2 rfl) ?_
                    refine lv_iload hx hb dX2_build_147 (lv_at hl 4 rfl) ?_
                    refine lv_iload hx hb dX2_build_149 (lv_at hl 3 rfl) ?_
                    obtain ⟨r5, e5, hs⟩ := Option.bind_eq_some_iff.mp hs
                    refine cV_roi (As := [.ref (a 1), .ref (a 8), .int v129_5, .int v6_4]) (rest := [.int v129_5, .ref (a 17)]) hC (m_X2_membersByMeaning l g a z129 v129_5 v6_4 r5 e5) (kv_of hB bw_20_1 bw_19_23 bw_20_0 bw_2_10 kd_X2_membersByMeaning bw_19_22 rfl rfl ⟨Nat.le_of_ble_eq_true rfl, Nat.le_of_ble_eq_true rfl⟩) hK hP hP hS (xW_16 g a z129) rfl rfl hl.1 rfl (Nat.le_of_ble_eq_true rfl) dX2_build_151 ⟨Nat.zero_le _, Nat.zero_le _⟩ (fun H locs hP hS => ?_)
                    obtain ⟨r6, e6, hs⟩ := Option.bind_eq_some_iff.mp hs
                    have e6 := Option.some.inj e6
                    refine cN_rwv (As := [.ref (a 17), .int v129_5, .int r5]) (rest := []) hC (m_X6_put_17 l g a z129 r6 H.size v129_5 r5 e6) (kn_of (host := "NotionRounds") hB bw_3_3 bw_3_2 bw_1_2 kd_X6_put (hK.2 _ (List.mem_of_getElem? (i := 44) rfl)) rfl rfl ⟨Nat.le_of_ble_eq_true rfl, Nat.le_of_ble_eq_true rfl⟩) hK hP (hD _) hA hS rfl hl.1 rfl (Nat.le_of_ble_eq_true rfl) dX2_build_154 ⟨Nat.zero_le _, Nat.zero_le _⟩ (fun H locs hP hS => ?_)
                    refine lv_iinc (v := (v129_5 + 1)) (lv' := [(5, .int (v129_5 + 1)), (0, .ref (a 16)), (1, .ref (a 1)), (3, .ref (a 8)), (4, .int v6_4)]) hx hb dX2_build_157 hl (k := 4) rfl (by rfl) (by decide) rfl (fun ls hl => ?_)
                    refine lv_goto (tgt := 129) hx hb dX2_build_160 (by decide) ?_
                    cases hs
                    exact ih129 (v129_5 + 1) r6 hk129 _ _ hP hS _ (lv_sub hl [1, 2, 3, 4, 0] rfl)
              exact L129 n129 (0 : Int32) z63 hs _ _ hP hS _ (lv_sub hl [1, 2, 4, 5, 0] rfl)
            · have hs := ifn c3 hs
              refine lv_iconst (v := 0) hx hb dX2_build_72 (by decide) ?_
              refine lv_istore (lv' := [(6, .int (0 : Int32)), (0, .ref (a 16)), (1, .ref (a 1)), (2, .ref (a 5)), (3, .ref (a 8)), (4, .int v6_4), (5, .int v63_5)]) hx hb dX2_build_73 hl (by decide) rfl (fun ls hl => ?_)
              obtain ⟨n75, hs⟩ := loopC_iter hs
              have L75 : ∀ (n : Nat) (v75_6 : Int32) (z75 : XS), iterO (fun v => b_X2_build_75 v6_4 v63_5 v.1 v.2) n (v75_6, z75) = some y63 → ∀ (H : Heap) (locs : List Loc), va_P g.1 vwCl (xW g a z75) H → va_S A s.heap H locs → ∀ ls : Array Slot, lv_has ls 7 [(0, .ref (a 16)), (1, .ref (a 1)), (2, .ref (a 5)), (3, .ref (a 8)), (4, .int v6_4), (5, .int v63_5), (6, .int v75_6)] → W p l e ({ frames := 5, cells := 0, slots := 0, locals := 113 } : Room) s m args below meth c H locs 0 0 (MQ below (RWv g (xW g a res) A) args s 0 0 A) (F0 m 75 ls []) := by
                intro n
                induction n with
                | zero => intro v75_6 z75 hs; exact (iterO_zero hs).elim
                | succ n ih75 =>
                  intro v75_6 z75 hs H locs hP hS ls hl
                  obtain ⟨y75, hs, hk75⟩ := iterO_succ hs
                  have hs : b_X2_build_75 v6_4 v63_5 v75_6 z75 = some y75 := hs
                  unfold b_X2_build_75 at hs
                  refine lv_iload hx hb dX2_build_75 (lv_at hl 6 rfl) ?_
                  refine lv_aload_n hx hb dX2_build_77 rfl (lv_at hl 1 rfl) ?_
                  refine xn_RX2_18 hx hb hB hown hK hP dX2_build_78 ?_
                  refine lv_icmp_ge (tgt := 120) hx hb dX2_build_81 (by decide) (fun c7 => ?_) (fun c7 => ?_)
                  · have hs := ifp c7 hs
                    refine lv_iinc (v := (v63_5 + 1)) (lv' := [(5, .int (v63_5 + 1)), (0, .ref (a 16)), (1, .ref (a 1)), (2, .ref (a 5)), (3, .ref (a 8)), (4, .int v6_4), (6, .int v75_6)]) hx hb dX2_build_120 hl (k := 5) rfl (by rfl) (by decide) rfl (fun ls hl => ?_)
                    refine lv_goto (tgt := 63) hx hb dX2_build_123 (by decide) ?_
                    cases hs
                    cases elim_inr hk75
                    exact ih63 (v63_5 + 1) z75 hk63 _ _ hP hS _ (lv_sub hl [1, 2, 3, 4, 5, 0] rfl)
                  · have hs := ifn c7 hs
                    refine lv_iload hx hb dX2_build_84 (lv_at hl 4 rfl) ?_
                    refine lv_iload hx hb dX2_build_86 (lv_at hl 5 rfl) ?_
                    refine cN_roi (As := [.int v6_4, .int v63_5]) (rest := []) hC (m_X6_hasBit l g (xW g a z75) v6_4 v63_5) (kn_of (host := "NotionRounds") hB bw_19_7 bw_19_6 bw_1_2 kd_X6_hasBit (hK.2 _ (List.mem_of_getElem? (i := 40) rfl)) rfl rfl ⟨Nat.le_of_ble_eq_true rfl, Nat.le_of_ble_eq_true rfl⟩) hK hP hP hS rfl hl.1 rfl (Nat.le_of_ble_eq_true rfl) dX2_build_88 ⟨Nat.zero_le _, Nat.zero_le _⟩ (fun H locs hP hS => ?_)
                    refine lv_if_eq (tgt := 114) hx hb dX2_build_91 (by decide) (fun c8 => ?_) (fun c8 => ?_)
                    · have hs := ifp c8 hs
                      refine lv_iinc (v := (v75_6 + 1)) (lv' := [(6, .int (v75_6 + 1)), (0, .ref (a 16)), (1, .ref (a 1)), (2, .ref (a 5)), (3, .ref (a 8)), (4, .int v6_4), (5, .int v63_5)]) hx hb dX2_build_114 hl (k := 6) rfl (by rfl) (by decide) rfl (fun ls hl => ?_)
                      refine lv_goto (tgt := 75) hx hb dX2_build_117 (by decide) ?_
                      cases hs
                      exact ih75 (v75_6 + 1) z75 hk75 _ _ hP hS _ (lv_sub hl [1, 2, 3, 4, 5, 6, 0] rfl)
                    · have hs := ifn c8 hs
                      refine lv_iload hx hb dX2_build_94 (lv_at hl 4 rfl) ?_
                      refine lv_iload hx hb dX2_build_96 (lv_at hl 6 rfl) ?_
                      refine cN_roi (As := [.int v6_4, .int v75_6]) (rest := []) hC (m_X6_hasBit l g (xW g a z75) v6_4 v75_6) (kn_of (host := "NotionRounds") hB bw_19_7 bw_19_6 bw_1_2 kd_X6_hasBit (hK.2 _ (List.mem_of_getElem? (i := 40) rfl)) rfl rfl ⟨Nat.le_of_ble_eq_true rfl, Nat.le_of_ble_eq_true rfl⟩) hK hP hP hS rfl hl.1 rfl (Nat.le_of_ble_eq_true rfl) dX2_build_98 ⟨Nat.zero_le _, Nat.zero_le _⟩ (fun H locs hP hS => ?_)
                      refine lv_if_eq (tgt := 114) hx hb dX2_build_101 (by decide) (fun c9 => ?_) (fun c9 => ?_)
                      · have hs := ifp c9 hs
                        refine lv_iinc (v := (v75_6 + 1)) (lv' := [(6, .int (v75_6 + 1)), (0, .ref (a 16)), (1, .ref (a 1)), (2, .ref (a 5)), (3, .ref (a 8)), (4, .int v6_4), (5, .int v63_5)]) hx hb dX2_build_114 hl (k := 6) rfl (by rfl) (by decide) rfl (fun ls hl => ?_)
                        refine lv_goto (tgt := 75) hx hb dX2_build_117 (by decide) ?_
                        cases hs
                        exact ih75 (v75_6 + 1) z75 hk75 _ _ hP hS _ (lv_sub hl [1, 2, 3, 4, 5, 6, 0] rfl)
                      · have hs := ifn c9 hs
                        refine lv_aload_n hx hb dX2_build_104 rfl (lv_at hl 0 rfl) ?_
                        refine lv_aload_n hx hb dX2_build_105 rfl (lv_at hl 2 rfl) ?_
                        refine lv_aload_n hx hb dX2_build_106 rfl (lv_at hl 3 rfl) ?_
                        refine lv_iload hx hb dX2_build_107 (lv_at hl 5 rfl) ?_
                        refine lv_iload hx hb dX2_build_109 (lv_at hl 6 rfl) ?_
                        obtain ⟨r10, e10, hs⟩ := Option.bind_eq_some_iff.mp hs
                        refine cV_rwv (As := [.ref (a 5), .ref (a 8), .int v63_5, .int v75_6]) (rest := []) hC (m_X2_buildPair l g a z75 H.size v63_5 v75_6 r10 e10) (kv_of hB bw_19_12 bw_19_10 bw_19_11 bw_2_10 kd_X2_buildPair bw_19_9 rfl rfl ⟨Nat.le_of_ble_eq_true rfl, Nat.le_of_ble_eq_true rfl⟩) hK hP (hD _) hA hS (xW_16 g a z75) rfl rfl hl.1 rfl (Nat.le_of_ble_eq_true rfl) dX2_build_111 ⟨Nat.zero_le _, Nat.zero_le _⟩ (fun H locs hP hS => ?_)
                        refine lv_iinc (v := (v75_6 + 1)) (lv' := [(6, .int (v75_6 + 1)), (0, .ref (a 16)), (1, .ref (a 1)), (2, .ref (a 5)), (3, .ref (a 8)), (4, .int v6_4), (5, .int v63_5)]) hx hb dX2_build_114 hl (k := 6) rfl (by rfl) (by decide) rfl (fun ls hl => ?_)
                        refine lv_goto (tgt := 75) hx hb dX2_build_117 (by decide) ?_
                        cases hs
                        exact ih75 (v75_6 + 1) r10 hk75 _ _ hP hS _ (lv_sub hl [1, 2, 3, 4, 5, 6, 0] rfl)
              exact L75 n75 (0 : Int32) z63 hs _ _ hP hS _ (lv_sub hl [1, 2, 3, 4, 5, 6, 0] rfl)
        exact L63 n63 (0 : Int32) r2 hs _ _ hP hS _ (lv_sub hl [1, 2, 3, 4, 5, 0] rfl)
      · have hs := ifn c1 hs
        refine lv_aload_n hx hb dX2_build_15 rfl (lv_at hl 3 rfl) ?_
        refine lv_iload hx hb dX2_build_16 (lv_at hl 5 rfl) ?_
        refine lv_iload hx hb dX2_build_18 (lv_at hl 5 rfl) ?_
        refine cV_roi (As := [.int v6_5, .int v6_5]) (rest := []) hC (m_X1_saysIs l g a st v6_5 v6_5) (kv_of hB bw_19_3 bw_19_1 bw_19_2 bw_2_2 kd_X1_saysIs bw_19_0 rfl rfl ⟨Nat.le_of_ble_eq_true rfl, Nat.le_of_ble_eq_true rfl⟩) hK hP hP hS (xW_8 g a st) rfl rfl hl.1 rfl (Nat.le_of_ble_eq_true rfl) dX2_build_20 ⟨Nat.zero_le _, Nat.zero_le _⟩ (fun H locs hP hS => ?_)
        refine lv_if_eq (tgt := 46) hx hb dX2_build_23 (by decide) (fun c11 => ?_) (fun c11 => ?_)
        · have hs := ifp c11 hs
          refine lv_iinc (v := (v6_5 + 1)) (lv' := [(5, .int (v6_5 + 1)), (0, .ref (a 16)), (1, .ref (a 1)), (2, .ref (a 5)), (3, .ref (a 8)), (4, .int v6_4)]) hx hb dX2_build_46 hl (k := 5) rfl (by rfl) (by decide) rfl (fun ls hl => ?_)
          refine lv_goto (tgt := 6) hx hb dX2_build_49 (by decide) ?_
          cases hs
          exact ih6 v6_4 (v6_5 + 1) hk6 _ _ hP hS _ (lv_sub hl [1, 2, 3, 4, 5, 0] rfl)
        · have hs := ifn c11 hs
          refine lv_aload_n hx hb dX2_build_26 rfl (lv_at hl 3 rfl) ?_
          refine lv_iload hx hb dX2_build_27 (lv_at hl 5 rfl) ?_
          refine lv_iconst (v := 1) hx hb dX2_build_29 (by decide) ?_
          refine cV_roi (As := [.int v6_5, .int (1 : Int32)]) (rest := []) hC (m_X1_saysIs l g a st v6_5 (1 : Int32)) (kv_of hB bw_19_3 bw_19_1 bw_19_2 bw_2_2 kd_X1_saysIs bw_19_0 rfl rfl ⟨Nat.le_of_ble_eq_true rfl, Nat.le_of_ble_eq_true rfl⟩) hK hP hP hS (xW_8 g a st) rfl rfl hl.1 rfl (Nat.le_of_ble_eq_true rfl) dX2_build_30 ⟨Nat.zero_le _, Nat.zero_le _⟩ (fun H locs hP hS => ?_)
          refine lv_if_ne (tgt := 46) hx hb dX2_build_33 (by decide) (fun c12 => ?_) (fun c12 => ?_)
          · have hs := ifn c12 hs
            refine lv_iinc (v := (v6_5 + 1)) (lv' := [(5, .int (v6_5 + 1)), (0, .ref (a 16)), (1, .ref (a 1)), (2, .ref (a 5)), (3, .ref (a 8)), (4, .int v6_4)]) hx hb dX2_build_46 hl (k := 5) rfl (by rfl) (by decide) rfl (fun ls hl => ?_)
            refine lv_goto (tgt := 6) hx hb dX2_build_49 (by decide) ?_
            cases hs
            exact ih6 v6_4 (v6_5 + 1) hk6 _ _ hP hS _ (lv_sub hl [1, 2, 3, 4, 5, 0] rfl)
          · have hs := ifp c12 hs
            refine lv_iload hx hb dX2_build_36 (lv_at hl 4 rfl) ?_
            refine lv_iload hx hb dX2_build_38 (lv_at hl 5 rfl) ?_
            refine cN_roi (As := [.int v6_5]) (rest := [.int v6_4]) hC (m_X6_bit l g (xW g a st) v6_5) (kn_of (host := "NotionRounds") hB bw_19_5 bw_19_4 bw_1_2 kd_X6_bit (hK.2 _ (List.mem_of_getElem? (i := 38) rfl)) rfl rfl ⟨Nat.le_of_ble_eq_true rfl, Nat.le_of_ble_eq_true rfl⟩) hK hP hP hS rfl hl.1 rfl (Nat.le_of_ble_eq_true rfl) dX2_build_40 ⟨Nat.zero_le _, Nat.zero_le _⟩ (fun H locs hP hS => ?_)
            refine lv_ior hx hb dX2_build_43 ?_
            refine lv_istore (lv' := [(4, .int (v6_4 ||| (t_X6_bit v6_5))), (0, .ref (a 16)), (1, .ref (a 1)), (2, .ref (a 5)), (3, .ref (a 8)), (5, .int v6_5)]) hx hb dX2_build_44 hl (by decide) rfl (fun ls hl => ?_)
            refine lv_iinc (v := (v6_5 + 1)) (lv' := [(5, .int (v6_5 + 1)), (4, .int (v6_4 ||| (t_X6_bit v6_5))), (0, .ref (a 16)), (1, .ref (a 1)), (2, .ref (a 5)), (3, .ref (a 8))]) hx hb dX2_build_46 hl (k := 5) rfl (by rfl) (by decide) rfl (fun ls hl => ?_)
            refine lv_goto (tgt := 6) hx hb dX2_build_49 (by decide) ?_
            cases hs
            exact ih6 (v6_4 ||| (t_X6_bit v6_5)) (v6_5 + 1) hk6 _ _ hP hS _ (lv_sub hl [2, 3, 4, 5, 1, 0] rfl)
  exact L6 n6 (0 : Int32) (0 : Int32) hs _ _ hP hS _ (lv_sub hl [2, 3, 4, 5, 1, 0] rfl)
noncomputable def f_X6_conclude (st : XS) : Option (Int32 × XS) :=
  (if (st.1 35 0) < (20 : Int32) then (Option.bind (some (sA st 35 (fun _ => ((st.1 35 0) + (1 : Int32))))) (fun r2 => (Option.bind (f_X5_concludeAll r2) (fun r3 => (Option.bind (f_X2_build r3) (fun r4 => (Option.bind (some (sA r4 36 (fun _ => (1 : Int32)))) (fun r5 => some (((r5.1 33 0), r5)))))))))) else some (((-103 : Int32), st)))
set_option maxHeartbeats 4000000 in
set_option maxRecDepth 100000 in
theorem m_X6_conclude (l : Launch) (g : GG) (a : Nat → Nat) (st : XS) (sz : Nat)  (res : (Int32 × XS)) (hs : f_X6_conclude st = some res) : Met l yX6_conclude (Cond.code yX6_conclude cX6_conclude 1 (some .int) :: BIG) ({ frames := 6, cells := 0, slots := 0, locals := 141 } : Room) (va_Pc [.ref (a 0)] (RWp g (xW g a st) sz)) (RWi res.1 g (xW g a res.2) (va_A (xW g a st) sz)) 0 0 (va_A (xW g a st) sz) := by
  refine rw_start (cc := cX6_conclude) (maxL := 1) (ret := (some .int)) (lv := [(0, .ref (a 0))]) (Qc := fun A => (RWi res.1 g (xW g a res.2) A)) (by decide) rfl (Nat.le_of_ble_eq_true rfl) rfl ?_
  intro p e s m args below meth c hx hb hml hr hts hown hlk hK A hD0 hA H locs hP hS ls hl
  have hD : ∀ st' : XS, va_D A (xW g a st') := fun _ => xW_D hD0
  have hB : ∀ w ∈ BIG, w.before args s = true := fun w h => hts w (List.mem_cons_of_mem _ h)
  have hC : CallFix p m c cX6_conclude 1 s args BIG RX6 := ⟨hx, hb, hml, hown, hB⟩
  unfold f_X6_conclude at hs
  refine lv_aload_n hx hb dX6_conclude_0 rfl (lv_at hl 0 rfl) ?_
  refine xg_6_6 hx hb hB hown hK hP dX6_conclude_1 ?_
  refine lv_bipush (v := 20) hx hb dX6_conclude_4 (by decide) ?_
  refine lv_icmp_lt (tgt := 12) hx hb dX6_conclude_6 (by decide) (fun c1 => ?_) (fun c1 => ?_)
  · have hs := ifp c1 hs
    refine lv_aload_n hx hb dX6_conclude_12 rfl (lv_at hl 0 rfl) ?_
    refine lv_dup hx hb dX6_conclude_13 rfl ?_
    refine xg_6_6 hx hb hB hown hK hP dX6_conclude_14 ?_
    refine lv_iconst (v := 1) hx hb dX6_conclude_17 (by decide) ?_
    refine lv_iadd hx hb dX6_conclude_18 ?_
    obtain ⟨r2, e2, hs⟩ := Option.bind_eq_some_iff.mp hs
    have e2 := Option.some.inj e2
    refine xp_35 hx hb hB hown hK hP hD hS e2 dX6_conclude_19 (fun H locs hP hS => ?_)
    refine lv_aload_n hx hb dX6_conclude_22 rfl (lv_at hl 0 rfl) ?_
    refine xg_6_4 hx hb hB hown hK hP dX6_conclude_23 ?_
    obtain ⟨r3, e3, hs⟩ := Option.bind_eq_some_iff.mp hs
    refine cV_rwv (As := []) (rest := []) hC (m_X5_concludeAll l g a r2 H.size r3 e3) (kv_of hB bw_13_7 bw_13_5 bw_13_6 bw_2_6 kd_X5_concludeAll bw_13_4 rfl rfl ⟨Nat.le_of_ble_eq_true rfl, Nat.le_of_ble_eq_true rfl⟩) hK hP (hD _) hA hS (xW_14 g a r2) rfl rfl hl.1 rfl (Nat.le_of_ble_eq_true rfl) dX6_conclude_26 ⟨Nat.zero_le _, Nat.zero_le _⟩ (fun H locs hP hS => ?_)
    refine lv_aload_n hx hb dX6_conclude_29 rfl (lv_at hl 0 rfl) ?_
    refine xg_6_5 hx hb hB hown hK hP dX6_conclude_30 ?_
    refine lv_aload_n hx hb dX6_conclude_33 rfl (lv_at hl 0 rfl) ?_
    refine xg_6_0 hx hb hB hown hK hP dX6_conclude_34 ?_
    refine lv_aload_n hx hb dX6_conclude_37 rfl (lv_at hl 0 rfl) ?_
    refine xg_6_2 hx hb hB hown hK hP dX6_conclude_38 ?_
    refine lv_aload_n hx hb dX6_conclude_41 rfl (lv_at hl 0 rfl) ?_
    refine xg_6_3 hx hb hB hown hK hP dX6_conclude_42 ?_
    obtain ⟨r4, e4, hs⟩ := Option.bind_eq_some_iff.mp hs
    refine cV_rwv (As := [.ref (a 1), .ref (a 5), .ref (a 8)]) (rest := []) hC (m_X2_build l g a r3 H.size r4 e4) (kv_of hB bw_18_23 bw_18_21 bw_18_22 bw_2_10 kd_X2_build bw_18_20 rfl rfl ⟨Nat.le_of_ble_eq_true rfl, Nat.le_of_ble_eq_true rfl⟩) hK hP (hD _) hA hS (xW_16 g a r3) rfl rfl hl.1 rfl (Nat.le_of_ble_eq_true rfl) dX6_conclude_45 ⟨Nat.zero_le _, Nat.zero_le _⟩ (fun H locs hP hS => ?_)
    refine lv_aload_n hx hb dX6_conclude_48 rfl (lv_at hl 0 rfl) ?_
    refine lv_iconst (v := 1) hx hb dX6_conclude_49 (by decide) ?_
    obtain ⟨r5, e5, hs⟩ := Option.bind_eq_some_iff.mp hs
    have e5 := Option.some.inj e5
    refine xp_36 hx hb hB hown hK hP hD hS (Or.inr rfl) e5 dX6_conclude_50 (fun H locs hP hS => ?_)
    refine lv_aload_n hx hb dX6_conclude_53 rfl (lv_at hl 0 rfl) ?_
    refine xg_6_3 hx hb hB hown hK hP dX6_conclude_54 ?_
    refine xn_RX6_114 hx hb hB hown hK hP dX6_conclude_57 ?_
    cases hs
    exact ret_rwi hx hb hr hlk hP hS dX6_conclude_60
  · have hs := ifn c1 hs
    refine lv_bipush (v := -103) hx hb dX6_conclude_9 (by decide) ?_
    cases hs
    exact ret_rwi hx hb hr hlk hP hS dX6_conclude_11
def t_X6_rounds (st : XS) : Int32 :=
  (if (st.1 36 0) = 0 then (-103 : Int32) else (st.1 34 0))
set_option maxHeartbeats 4000000 in
set_option maxRecDepth 100000 in
theorem m_X6_rounds (l : Launch) (g : GG) (a : Nat → Nat) (st : XS)  : Met l yX6_rounds (Cond.code yX6_rounds cX6_rounds 1 (some .int) :: BIG) ({ frames := 0, cells := 0, slots := 0, locals := 0 } : Room) (va_Pc [.ref (a 0)] (ROp g (xW g a st))) (ROi (t_X6_rounds st)) 0 0 (fun _ => False) := by
  obtain ⟨res, hs⟩ : ∃ z, t_X6_rounds st = z := ⟨_, rfl⟩
  rw [hs]
  refine ro_start (cc := cX6_rounds) (maxL := 1) (ret := (some .int)) (lv := [(0, .ref (a 0))]) (by decide) rfl (Nat.le_of_ble_eq_true rfl) rfl ?_
  intro p e s m args below meth c hx hb hml hr hts hown hlk hK H locs hP hS ls hl
  have hB : ∀ w ∈ BIG, w.before args s = true := fun w h => hts w (List.mem_cons_of_mem _ h)
  have hC : CallFix p m c cX6_rounds 1 s args BIG RX6 := ⟨hx, hb, hml, hown, hB⟩
  unfold t_X6_rounds at hs
  refine lv_aload_n hx hb dX6_rounds_0 rfl (lv_at hl 0 rfl) ?_
  refine xg_6_7 hx hb hB hown hK hP dX6_rounds_1 ?_
  refine lv_if_eq (tgt := 17) hx hb dX6_rounds_4 (by decide) (fun c1 => ?_) (fun c1 => ?_)
  · have hs := ifp c1 hs
    refine lv_bipush (v := -103) hx hb dX6_rounds_17 (by decide) ?_
    subst hs
    exact ret_roi hx hb hr hlk hS dX6_rounds_19
  · have hs := ifn c1 hs
    refine lv_aload_n hx hb dX6_rounds_7 rfl (lv_at hl 0 rfl) ?_
    refine xg_6_3 hx hb hB hown hK hP dX6_rounds_8 ?_
    refine xn_RX6_117 hx hb hB hown hK hP dX6_rounds_11 ?_
    refine lv_goto (tgt := 19) hx hb dX6_rounds_14 (by decide) ?_
    subst hs
    exact ret_roi hx hb hr hlk hS dX6_rounds_19
def t_X1_knows (st : XS) (p1 : Int32) : Int32 :=
  (t_X6_within p1 (st.1 33 0))
theorem z_X1_knows (st : XS) (p1 : Int32) : t_X1_knows st p1 = 0 ∨ t_X1_knows st p1 = 1 := by
  unfold t_X1_knows
  (repeat' split) <;> first | exact Or.inl rfl | exact Or.inr rfl | exact z_X6_within _ _
set_option maxHeartbeats 4000000 in
set_option maxRecDepth 100000 in
theorem m_X1_knows (l : Launch) (g : GG) (a : Nat → Nat) (st : XS) (p1 : Int32) : Met l yX1_knows (Cond.code yX1_knows cX1_knows 2 (some .boolean) :: BIG) ({ frames := 1, cells := 0, slots := 0, locals := 21 } : Room) (va_Pc [.ref (a 8), .int p1] (ROp g (xW g a st))) (ROi (t_X1_knows st p1)) 0 0 (fun _ => False) := by
  obtain ⟨res, hs⟩ : ∃ z, t_X1_knows st p1 = z := ⟨_, rfl⟩
  rw [hs]
  refine ro_start (cc := cX1_knows) (maxL := 2) (ret := (some .boolean)) (lv := [(0, .ref (a 8)), (1, .int p1)]) (by decide) rfl (Nat.le_of_ble_eq_true rfl) rfl ?_
  intro p e s m args below meth c hx hb hml hr hts hown hlk hK H locs hP hS ls hl
  have hB : ∀ w ∈ BIG, w.before args s = true := fun w h => hts w (List.mem_cons_of_mem _ h)
  have hC : CallFix p m c cX1_knows 2 s args BIG RX1 := ⟨hx, hb, hml, hown, hB⟩
  unfold t_X1_knows at hs
  refine lv_iload_n hx hb dX1_knows_0 rfl (lv_at hl 1 rfl) ?_
  refine lv_aload_n hx hb dX1_knows_1 rfl (lv_at hl 0 rfl) ?_
  refine xg_1_5 hx hb hB hown hK hP dX1_knows_2 ?_
  refine cN_roi (As := [.int p1, .int (st.1 33 0)]) (rest := []) hC (m_X6_within l g (xW g a st) p1 (st.1 33 0)) (kn_of (host := "NotionRounds") hB bw_7_6 bw_7_5 bw_1_2 kd_X6_within (hK.2 _ (List.mem_of_getElem? (i := 45) rfl)) rfl rfl ⟨Nat.le_of_ble_eq_true rfl, Nat.le_of_ble_eq_true rfl⟩) hK hP hP hS rfl hl.1 rfl (Nat.le_of_ble_eq_true rfl) dX1_knows_5 ⟨Nat.zero_le _, Nat.zero_le _⟩ (fun H locs hP hS => ?_)
  subst hs
  exact ret_roz hx hb hr (zn_of (z_X6_within _ _)) hlk hS dX1_knows_8
def t_X6_oneIf (p0 : Int32) : Int32 :=
  (if p0 = 0 then (0 : Int32) else (1 : Int32))
set_option maxHeartbeats 4000000 in
set_option maxRecDepth 100000 in
theorem m_X6_oneIf (l : Launch) (g : GG) (w : va_W) (p0 : Int32) : Met l yX6_oneIf (Cond.code yX6_oneIf cX6_oneIf 1 (some .int) :: BIG) ({ frames := 0, cells := 0, slots := 0, locals := 0 } : Room) (va_Pc [.int p0] (ROp g w)) (ROi (t_X6_oneIf p0)) 0 0 (fun _ => False) := by
  obtain ⟨res, hs⟩ : ∃ z, t_X6_oneIf p0 = z := ⟨_, rfl⟩
  rw [hs]
  refine ro_start (cc := cX6_oneIf) (maxL := 1) (ret := (some .int)) (lv := [(0, .int p0)]) (by decide) rfl (Nat.le_of_ble_eq_true rfl) rfl ?_
  intro p e s m args below meth c hx hb hml hr hts hown hlk hK H locs hP hS ls hl
  have hB : ∀ w ∈ BIG, w.before args s = true := fun w h => hts w (List.mem_cons_of_mem _ h)
  have hC : CallFix p m c cX6_oneIf 1 s args BIG RX6 := ⟨hx, hb, hml, hown, hB⟩
  unfold t_X6_oneIf at hs
  refine lv_iload_n hx hb dX6_oneIf_0 rfl (lv_at hl 0 rfl) ?_
  refine lv_if_eq (tgt := 8) hx hb dX6_oneIf_1 (by decide) (fun c1 => ?_) (fun c1 => ?_)
  · have hs := ifp c1 hs
    refine lv_iconst (v := 0) hx hb dX6_oneIf_8 (by decide) ?_
    subst hs
    exact ret_roi hx hb hr hlk hS dX6_oneIf_9
  · have hs := ifn c1 hs
    refine lv_iconst (v := 1) hx hb dX6_oneIf_4 (by decide) ?_
    refine lv_goto (tgt := 9) hx hb dX6_oneIf_5 (by decide) ?_
    subst hs
    exact ret_roi hx hb hr hlk hS dX6_oneIf_9
def t_X6_partOfWhy (p0 : Int64) (p2 : Int32) (p3 : Int32) : Int32 :=
  (((p0 >>> (p2.toInt64 &&& 63)).toInt32) &&& (((1 : Int32) <<< (p3 &&& 31)) - (1 : Int32)))
set_option maxHeartbeats 4000000 in
set_option maxRecDepth 100000 in
theorem m_X6_partOfWhy (l : Launch) (g : GG) (w : va_W) (p0 : Int64) (p2 : Int32) (p3 : Int32) : Met l yX6_partOfWhy (Cond.code yX6_partOfWhy cX6_partOfWhy 4 (some .int) :: BIG) ({ frames := 0, cells := 0, slots := 0, locals := 0 } : Room) (va_Pc [.long p0, .int p2, .int p3] (ROp g w)) (ROi (t_X6_partOfWhy p0 p2 p3)) 0 0 (fun _ => False) := by
  obtain ⟨res, hs⟩ : ∃ z, t_X6_partOfWhy p0 p2 p3 = z := ⟨_, rfl⟩
  rw [hs]
  refine ro_start (cc := cX6_partOfWhy) (maxL := 4) (ret := (some .int)) (lv := [(0, .long p0), (2, .int p2), (3, .int p3)]) (by decide) rfl (Nat.le_of_ble_eq_true rfl) rfl ?_
  intro p e s m args below meth c hx hb hml hr hts hown hlk hK H locs hP hS ls hl
  have hB : ∀ w ∈ BIG, w.before args s = true := fun w h => hts w (List.mem_cons_of_mem _ h)
  have hC : CallFix p m c cX6_partOfWhy 4 s args BIG RX6 := ⟨hx, hb, hml, hown, hB⟩
  unfold t_X6_partOfWhy at hs
  refine lv_lload_n hx hb dX6_partOfWhy_0 rfl (lv_at hl 0 rfl) ?_
  refine lv_iload_n hx hb dX6_partOfWhy_1 rfl (lv_at hl 1 rfl) ?_
  refine lv_lshr (v := (p0 >>> (p2.toInt64 &&& 63))) hx hb dX6_partOfWhy_2 rfl ?_
  refine lv_l2i (v := ((p0 >>> (p2.toInt64 &&& 63)).toInt32)) hx hb dX6_partOfWhy_3 rfl ?_
  refine lv_iconst (v := 1) hx hb dX6_partOfWhy_4 (by decide) ?_
  refine lv_iload_n hx hb dX6_partOfWhy_5 rfl (lv_at hl 2 rfl) ?_
  refine lv_ishl hx hb dX6_partOfWhy_6 ?_
  refine lv_iconst (v := 1) hx hb dX6_partOfWhy_7 (by decide) ?_
  refine lv_isub hx hb dX6_partOfWhy_8 ?_
  refine lv_iand hx hb dX6_partOfWhy_9 ?_
  subst hs
  exact ret_roi hx hb hr hlk hS dX6_partOfWhy_10
def t_X1_firstPremise (st : XS) (p1 : Int32) : Int32 :=
  ((t_X6_partOfWhy (t_X6_longAt 2000 (st.2 12) p1) (17 : Int32) (11 : Int32)) - (1 : Int32))
set_option maxHeartbeats 4000000 in
set_option maxRecDepth 100000 in
theorem m_X1_firstPremise (l : Launch) (g : GG) (a : Nat → Nat) (st : XS) (p1 : Int32) : Met l yX1_firstPremise (Cond.code yX1_firstPremise cX1_firstPremise 2 (some .int) :: BIG) ({ frames := 1, cells := 0, slots := 0, locals := 23 } : Room) (va_Pc [.ref (a 8), .int p1] (ROp g (xW g a st))) (ROi (t_X1_firstPremise st p1)) 0 0 (fun _ => False) := by
  obtain ⟨res, hs⟩ : ∃ z, t_X1_firstPremise st p1 = z := ⟨_, rfl⟩
  rw [hs]
  refine ro_start (cc := cX1_firstPremise) (maxL := 2) (ret := (some .int)) (lv := [(0, .ref (a 8)), (1, .int p1)]) (by decide) rfl (Nat.le_of_ble_eq_true rfl) rfl ?_
  intro p e s m args below meth c hx hb hml hr hts hown hlk hK H locs hP hS ls hl
  have hB : ∀ w ∈ BIG, w.before args s = true := fun w h => hts w (List.mem_cons_of_mem _ h)
  have hC : CallFix p m c cX1_firstPremise 2 s args BIG RX1 := ⟨hx, hb, hml, hown, hB⟩
  unfold t_X1_firstPremise at hs
  refine lv_aload_n hx hb dX1_firstPremise_0 rfl (lv_at hl 0 rfl) ?_
  refine xg_1_3 hx hb hB hown hK hP dX1_firstPremise_1 ?_
  refine lv_iload_n hx hb dX1_firstPremise_4 rfl (lv_at hl 1 rfl) ?_
  refine cN_rol (As := [.ref (a 12), .int p1]) (rest := []) hC (m_X6_longAt l g (xW g a st) 12 2000 (st.2 12) (a 12) (xW_12 g a st) (by decide) p1) (kn_of (host := "NotionRounds") hB bw_15_22 bw_15_21 bw_1_2 kd_X6_longAt (hK.2 _ (List.mem_of_getElem? (i := 50) rfl)) rfl rfl ⟨Nat.le_of_ble_eq_true rfl, Nat.le_of_ble_eq_true rfl⟩) hK hP hP hS rfl hl.1 rfl (Nat.le_of_ble_eq_true rfl) dX1_firstPremise_5 ⟨Nat.zero_le _, Nat.zero_le _⟩ (fun H locs hP hS => ?_)
  refine lv_bipush (v := 17) hx hb dX1_firstPremise_8 (by decide) ?_
  refine lv_bipush (v := 11) hx hb dX1_firstPremise_10 (by decide) ?_
  refine cN_roi (As := [.long (t_X6_longAt 2000 (st.2 12) p1), .int (17 : Int32), .int (11 : Int32)]) (rest := []) hC (m_X6_partOfWhy l g (xW g a st) (t_X6_longAt 2000 (st.2 12) p1) (17 : Int32) (11 : Int32)) (kn_of (host := "NotionRounds") hB bw_24_16 bw_24_15 bw_1_2 kd_X6_partOfWhy (hK.2 _ (List.mem_of_getElem? (i := 51) rfl)) rfl rfl ⟨Nat.le_of_ble_eq_true rfl, Nat.le_of_ble_eq_true rfl⟩) hK hP hP hS rfl hl.1 rfl (Nat.le_of_ble_eq_true rfl) dX1_firstPremise_12 ⟨Nat.zero_le _, Nat.zero_le _⟩ (fun H locs hP hS => ?_)
  refine lv_iconst (v := 1) hx hb dX1_firstPremise_15 (by decide) ?_
  refine lv_isub hx hb dX1_firstPremise_16 ?_
  subst hs
  exact ret_roi hx hb hr hlk hS dX1_firstPremise_17
