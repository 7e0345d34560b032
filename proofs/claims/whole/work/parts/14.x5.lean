noncomputable def b_X5_offerChains_35 (c35_1 : Int32) (c35_2 : Int32) (c35_3 : Int32) (c35_4 : Int32) (c35_5 : Int32) (c35_6 : Int32) (c35_7 : Int32) (v35_8 : Int32) (z35 : XS) : Option ((Int32 × XS) ⊕ ((Int32 × XS) ⊕ ((Int32 × XS) ⊕ XS))) :=
  (if (z35.1 30 0) ≤ v35_8 then some (Sum.inr (Sum.inl ((c35_6 + 1), z35))) else (if c35_7 = (-1 : Int32) then some (Sum.inr (Sum.inl ((c35_6 + 1), z35))) else (if (t_X1_numberOfTo z35 c35_4 c35_5 v35_8) = (-1 : Int32) then some (Sum.inl ((v35_8 + 1), z35)) else (Option.bind (f_X5_offer z35 (t_X6_placeOfTo c35_2 c35_6 v35_8) (t_X6_whyOf (8 : Int32) c35_1 (t_X1_numberOfTo z35 c35_4 c35_5 v35_8) c35_7)) (fun r6 => some (Sum.inl ((v35_8 + 1), r6)))))))
noncomputable def b_X5_offerChains_12 (c12_1 : Int32) (c12_2 : Int32) (c12_3 : Int32) (c12_4 : Int32) (c12_5 : Int32) (v12_6 : Int32) (z12 : XS) : Option ((Int32 × XS) ⊕ ((Int32 × XS) ⊕ XS)) :=
  (if (4 : Int32) ≤ v12_6 then some (Sum.inr (Sum.inl ((c12_5 + 1), z12))) else (loopC (fun v => b_X5_offerChains_35 c12_1 c12_2 c12_3 c12_4 c12_5 v12_6 (t_X4_axiomOfChain z12 c12_3 c12_5 v12_6) v.1 v.2) ((0 : Int32), z12)))
noncomputable def b_X5_offerChains_3 (c3_1 : Int32) (c3_2 : Int32) (c3_3 : Int32) (c3_4 : Int32) (v3_5 : Int32) (z3 : XS) : Option ((Int32 × XS) ⊕ XS) :=
  (if (4 : Int32) ≤ v3_5 then some (Sum.inr (z3)) else (loopC (fun v => b_X5_offerChains_12 c3_1 c3_2 c3_3 c3_4 v3_5 v.1 v.2) ((0 : Int32), z3)))
noncomputable def f_X5_offerChains (st : XS) (p1 : Int32) (p2 : Int32) (p3 : Int32) (p4 : Int32) : Option XS :=
  (loopC (fun v => b_X5_offerChains_3 p1 p2 p3 p4 v.1 v.2) ((0 : Int32), st))
set_option maxHeartbeats 4000000 in
set_option maxRecDepth 100000 in
theorem m_X5_offerChains (l : Launch) (g : GG) (a : Nat → Nat) (st : XS) (sz : Nat) (p1 : Int32) (p2 : Int32) (p3 : Int32) (p4 : Int32) (res : XS) (hs : f_X5_offerChains st p1 p2 p3 p4 = some res) : Met l yX5_offerChains (Cond.code yX5_offerChains cX5_offerChains 10 none :: BIG) ({ frames := 3, cells := 0, slots := 0, locals := 65 } : Room) (va_Pc [.ref (a 14), .int p1, .int p2, .int p3, .int p4] (RWp g (xW g a st) sz)) (RWv g (xW g a res) (va_A (xW g a st) sz)) 0 0 (va_A (xW g a st) sz) := by
  refine rw_start (cc := cX5_offerChains) (maxL := 10) (ret := none) (lv := [(0, .ref (a 14)), (1, .int p1), (2, .int p2), (3, .int p3), (4, .int p4)]) (Qc := fun A => (RWv g (xW g a res) A)) (by decide) rfl (Nat.le_of_ble_eq_true rfl) rfl ?_
  intro p e s m args below meth c hx hb hml hr hts hown hlk hK A hD0 hA H locs hP hS ls hl
  have hD : ∀ st' : XS, va_D A (xW g a st') := fun _ => xW_D hD0
  have hB : ∀ w ∈ BIG, w.before args s = true := fun w h => hts w (List.mem_cons_of_mem _ h)
  have hC : CallFix p m c cX5_offerChains 10 s args BIG RX5 := ⟨hx, hb, hml, hown, hB⟩
  unfold f_X5_offerChains at hs
  refine lv_iconst (v := 0) hx hb dX5_offerChains_0 (by decide) ?_
  refine lv_istore (lv' := [(5, .int (0 : Int32)), (0, .ref (a 14)), (1, .int p1), (2, .int p2), (3, .int p3), (4, .int p4)]) hx hb dX5_offerChains_1 hl (by decide) rfl (fun ls hl => ?_)
  obtain ⟨n3, hs⟩ := loopC_iter hs
  have L3 : ∀ (n : Nat) (v3_5 : Int32) (z3 : XS), iterO (fun v => b_X5_offerChains_3 p1 p2 p3 p4 v.1 v.2) n (v3_5, z3) = some res → ∀ (H : Heap) (locs : List Loc), va_P g.1 vwCl (xW g a z3) H → va_S A s.heap H locs → ∀ ls : Array Slot, lv_has ls 10 [(0, .ref (a 14)), (1, .int p1), (2, .int p2), (3, .int p3), (4, .int p4), (5, .int v3_5)] → W p l e ({ frames := 3, cells := 0, slots := 0, locals := 65 } : Room) s m args below meth c H locs 0 0 (MQ below (RWv g (xW g a res) A) args s 0 0 A) (F0 m 3 ls []) := by
    intro n
    induction n with
    | zero => intro v3_5 z3 hs; exact (iterO_zero hs).elim
    | succ n ih3 =>
      intro v3_5 z3 hs H locs hP hS ls hl
      obtain ⟨y3, hs, hk3⟩ := iterO_succ hs
      have hs : b_X5_offerChains_3 p1 p2 p3 p4 v3_5 z3 = some y3 := hs
      unfold b_X5_offerChains_3 at hs
      refine lv_iload hx hb dX5_offerChains_3 (lv_at hl 5 rfl) ?_
      refine lv_iconst (v := 4) hx hb dX5_offerChains_5 (by decide) ?_
      refine lv_icmp_ge (tgt := 114) hx hb dX5_offerChains_6 (by decide) (fun c1 => ?_) (fun c1 => ?_)
      · have hs := ifp c1 hs
        cases hs
        cases elim_inr hk3
        exact ret_rwv hx hb hr hlk hP hS dX5_offerChains_114
      · have hs := ifn c1 hs
        refine lv_iconst (v := 0) hx hb dX5_offerChains_9 (by decide) ?_
        refine lv_istore (lv' := [(6, .int (0 : Int32)), (0, .ref (a 14)), (1, .int p1), (2, .int p2), (3, .int p3), (4, .int p4), (5, .int v3_5)]) hx hb dX5_offerChains_10 hl (by decide) rfl (fun ls hl => ?_)
        obtain ⟨n12, hs⟩ := loopC_iter hs
        have L12 : ∀ (n : Nat) (v12_6 : Int32) (z12 : XS), iterO (fun v => b_X5_offerChains_12 p1 p2 p3 p4 v3_5 v.1 v.2) n (v12_6, z12) = some y3 → ∀ (H : Heap) (locs : List Loc), va_P g.1 vwCl (xW g a z12) H → va_S A s.heap H locs → ∀ ls : Array Slot, lv_has ls 10 [(0, .ref (a 14)), (1, .int p1), (2, .int p2), (3, .int p3), (4, .int p4), (5, .int v3_5), (6, .int v12_6)] → W p l e ({ frames := 3, cells := 0, slots := 0, locals := 65 } : Room) s m args below meth c H locs 0 0 (MQ below (RWv g (xW g a res) A) args s 0 0 A) (F0 m 12 ls []) := by
          intro n
          induction n with
          | zero => intro v12_6 z12 hs; exact (iterO_zero hs).elim
          | succ n ih12 =>
            intro v12_6 z12 hs H locs hP hS ls hl
            obtain ⟨y12, hs, hk12⟩ := iterO_succ hs
            have hs : b_X5_offerChains_12 p1 p2 p3 p4 v3_5 v12_6 z12 = some y12 := hs
            unfold b_X5_offerChains_12 at hs
            refine lv_iload hx hb dX5_offerChains_12 (lv_at hl 6 rfl) ?_
            refine lv_iconst (v := 4) hx hb dX5_offerChains_14 (by decide) ?_
            refine lv_icmp_ge (tgt := 108) hx hb dX5_offerChains_15 (by decide) (fun c2 => ?_) (fun c2 => ?_)
            · have hs := ifp c2 hs
              refine lv_iinc (v := (v3_5 + 1)) (lv' := [(5, .int (v3_5 + 1)), (0, .ref (a 14)), (1, .int p1), (2, .int p2), (3, .int p3), (4, .int p4), (6, .int v12_6)]) hx hb dX5_offerChains_108 hl (k := 5) rfl (by rfl) (by decide) rfl (fun ls hl => ?_)
              refine lv_goto (tgt := 3) hx hb dX5_offerChains_111 (by decide) ?_
              cases hs
              cases elim_inr hk12
              exact ih3 (v3_5 + 1) z12 hk3 _ _ hP hS _ (lv_sub hl [1, 2, 3, 4, 5, 0] rfl)
            · have hs := ifn c2 hs
              refine lv_aload_n hx hb dX5_offerChains_18 rfl (lv_at hl 0 rfl) ?_
              refine xg_5_2 hx hb hB hown hK hP dX5_offerChains_19 ?_
              refine lv_iload_n hx hb dX5_offerChains_22 rfl (lv_at hl 3 rfl) ?_
              refine lv_iload hx hb dX5_offerChains_23 (lv_at hl 5 rfl) ?_
              refine lv_iload hx hb dX5_offerChains_25 (lv_at hl 6 rfl) ?_
              refine cV_roi (As := [.int p3, .int v3_5, .int v12_6]) (rest := []) hC (m_X4_axiomOfChain l g a z12 p3 v3_5 v12_6) (kv_of hB bw_14_16 bw_14_14 bw_14_15 bw_1_22 kd_X4_axiomOfChain bw_18_7 rfl rfl ⟨Nat.le_of_ble_eq_true rfl, Nat.le_of_ble_eq_true rfl⟩) hK hP hP hS (xW_5 g a z12) rfl rfl hl.1 rfl (Nat.le_of_ble_eq_true rfl) dX5_offerChains_27 ⟨Nat.zero_le _, Nat.zero_le _⟩ (fun H locs hP hS => ?_)
              refine lv_istore (lv' := [(7, .int (t_X4_axiomOfChain z12 p3 v3_5 v12_6)), (0, .ref (a 14)), (1, .int p1), (2, .int p2), (3, .int p3), (4, .int p4), (5, .int v3_5), (6, .int v12_6)]) hx hb dX5_offerChains_30 hl (by decide) rfl (fun ls hl => ?_)
              refine lv_iconst (v := 0) hx hb dX5_offerChains_32 (by decide) ?_
              refine lv_istore (lv' := [(8, .int (0 : Int32)), (7, .int (t_X4_axiomOfChain z12 p3 v3_5 v12_6)), (0, .ref (a 14)), (1, .int p1), (2, .int p2), (3, .int p3), (4, .int p4), (5, .int v3_5), (6, .int v12_6)]) hx hb dX5_offerChains_33 hl (by decide) rfl (fun ls hl => ?_)
              obtain ⟨n35, hs⟩ := loopC_iter hs
              have L35 : ∀ (n : Nat) (v35_8 : Int32) (z35 : XS), iterO (fun v => b_X5_offerChains_35 p1 p2 p3 p4 v3_5 v12_6 (t_X4_axiomOfChain z12 p3 v3_5 v12_6) v.1 v.2) n (v35_8, z35) = some y12 → ∀ (H : Heap) (locs : List Loc), va_P g.1 vwCl (xW g a z35) H → va_S A s.heap H locs → ∀ ls : Array Slot, lv_has ls 10 [(0, .ref (a 14)), (1, .int p1), (2, .int p2), (3, .int p3), (4, .int p4), (5, .int v3_5), (6, .int v12_6), (7, .int (t_X4_axiomOfChain z12 p3 v3_5 v12_6)), (8, .int v35_8)] → W p l e ({ frames := 3, cells := 0, slots := 0, locals := 65 } : Room) s m args below meth c H locs 0 0 (MQ below (RWv g (xW g a res) A) args s 0 0 A) (F0 m 35 ls []) := by
                intro n
                induction n with
                | zero => intro v35_8 z35 hs; exact (iterO_zero hs).elim
                | succ n ih35 =>
                  intro v35_8 z35 hs H locs hP hS ls hl
                  obtain ⟨y35, hs, hk35⟩ := iterO_succ hs
                  have hs : b_X5_offerChains_35 p1 p2 p3 p4 v3_5 v12_6 (t_X4_axiomOfChain z12 p3 v3_5 v12_6) v35_8 z35 = some y35 := hs
                  unfold b_X5_offerChains_35 at hs
                  refine lv_iload hx hb dX5_offerChains_35 (lv_at hl 8 rfl) ?_
                  refine lv_aload_n hx hb dX5_offerChains_37 rfl (lv_at hl 0 rfl) ?_
                  refine xg_5_0 hx hb hB hown hK hP dX5_offerChains_38 ?_
                  refine xn_RX5_77 hx hb hB hown hK hP dX5_offerChains_41 ?_
                  refine lv_icmp_ge (tgt := 102) hx hb dX5_offerChains_44 (by decide) (fun c3 => ?_) (fun c3 => ?_)
                  · have hs := ifp c3 hs
                    refine lv_iinc (v := (v12_6 + 1)) (lv' := [(6, .int (v12_6 + 1)), (0, .ref (a 14)), (1, .int p1), (2, .int p2), (3, .int p3), (4, .int p4), (5, .int v3_5), (7, .int (t_X4_axiomOfChain z12 p3 v3_5 v12_6)), (8, .int v35_8)]) hx hb dX5_offerChains_102 hl (k := 6) rfl (by rfl) (by decide) rfl (fun ls hl => ?_)
                    refine lv_goto (tgt := 12) hx hb dX5_offerChains_105 (by decide) ?_
                    cases hs
                    cases elim_inr hk35
                    exact ih12 (v12_6 + 1) z35 hk12 _ _ hP hS _ (lv_sub hl [1, 2, 3, 4, 5, 6, 0] rfl)
                  · have hs := ifn c3 hs
                    refine lv_iload hx hb dX5_offerChains_47 (lv_at hl 7 rfl) ?_
                    refine lv_iconst (v := -1) hx hb dX5_offerChains_49 (by decide) ?_
                    refine lv_icmp_eq (tgt := 102) hx hb dX5_offerChains_50 (by decide) (fun c4 => ?_) (fun c4 => ?_)
                    · have hs := ifp c4 hs
                      refine lv_iinc (v := (v12_6 + 1)) (lv' := [(6, .int (v12_6 + 1)), (0, .ref (a 14)), (1, .int p1), (2, .int p2), (3, .int p3), (4, .int p4), (5, .int v3_5), (7, .int (t_X4_axiomOfChain z12 p3 v3_5 v12_6)), (8, .int v35_8)]) hx hb dX5_offerChains_102 hl (k := 6) rfl (by rfl) (by decide) rfl (fun ls hl => ?_)
                      refine lv_goto (tgt := 12) hx hb dX5_offerChains_105 (by decide) ?_
                      cases hs
                      cases elim_inr hk35
                      exact ih12 (v12_6 + 1) z35 hk12 _ _ hP hS _ (lv_sub hl [1, 2, 3, 4, 5, 6, 0] rfl)
                    · have hs := ifn c4 hs
                      refine lv_aload_n hx hb dX5_offerChains_53 rfl (lv_at hl 0 rfl) ?_
                      refine xg_5_3 hx hb hB hown hK hP dX5_offerChains_54 ?_
                      refine lv_iload hx hb dX5_offerChains_57 (lv_at hl 4 rfl) ?_
                      refine lv_iload hx hb dX5_offerChains_59 (lv_at hl 5 rfl) ?_
                      refine lv_iload hx hb dX5_offerChains_61 (lv_at hl 8 rfl) ?_
                      refine cV_roi (As := [.int p4, .int v3_5, .int v35_8]) (rest := []) hC (m_X1_numberOfTo l g a z35 p4 v3_5 v35_8) (kv_of hB bw_18_11 bw_18_9 bw_18_10 bw_2_2 kd_X1_numberOfTo bw_18_8 rfl rfl ⟨Nat.le_of_ble_eq_true rfl, Nat.le_of_ble_eq_true rfl⟩) hK hP hP hS (xW_8 g a z35) rfl rfl hl.1 rfl (Nat.le_of_ble_eq_true rfl) dX5_offerChains_63 ⟨Nat.zero_le _, Nat.zero_le _⟩ (fun H locs hP hS => ?_)
                      refine lv_istore (lv' := [(9, .int (t_X1_numberOfTo z35 p4 v3_5 v35_8)), (0, .ref (a 14)), (1, .int p1), (2, .int p2), (3, .int p3), (4, .int p4), (5, .int v3_5), (6, .int v12_6), (7, .int (t_X4_axiomOfChain z12 p3 v3_5 v12_6)), (8, .int v35_8)]) hx hb dX5_offerChains_66 hl (by decide) rfl (fun ls hl => ?_)
                      refine lv_iload hx hb dX5_offerChains_68 (lv_at hl 0 rfl) ?_
                      refine lv_iconst (v := -1) hx hb dX5_offerChains_70 (by decide) ?_
                      refine lv_icmp_eq (tgt := 96) hx hb dX5_offerChains_71 (by decide) (fun c5 => ?_) (fun c5 => ?_)
                      · have hs := ifp c5 hs
                        refine lv_iinc (v := (v35_8 + 1)) (lv' := [(8, .int (v35_8 + 1)), (9, .int (t_X1_numberOfTo z35 p4 v3_5 v35_8)), (0, .ref (a 14)), (1, .int p1), (2, .int p2), (3, .int p3), (4, .int p4), (5, .int v3_5), (6, .int v12_6), (7, .int (t_X4_axiomOfChain z12 p3 v3_5 v12_6))]) hx hb dX5_offerChains_96 hl (k := 9) rfl (by rfl) (by decide) rfl (fun ls hl => ?_)
                        refine lv_goto (tgt := 35) hx hb dX5_offerChains_99 (by decide) ?_
                        cases hs
                        exact ih35 (v35_8 + 1) z35 hk35 _ _ hP hS _ (lv_sub hl [2, 3, 4, 5, 6, 7, 8, 9, 0] rfl)
                      · have hs := ifn c5 hs
                        refine lv_aload_n hx hb dX5_offerChains_74 rfl (lv_at hl 1 rfl) ?_
                        refine lv_iload_n hx hb dX5_offerChains_75 rfl (lv_at hl 3 rfl) ?_
                        refine lv_iload hx hb dX5_offerChains_76 (lv_at hl 7 rfl) ?_
                        refine lv_iload hx hb dX5_offerChains_78 (lv_at hl 9 rfl) ?_
                        refine cN_roi (As := [.int p2, .int v12_6, .int v35_8]) (rest := [.ref (a 14)]) hC (m_X6_placeOfTo l g (xW g a z35) p2 v12_6 v35_8) (kn_of (host := "NotionRounds") hB bw_17_4 bw_17_3 bw_1_2 kd_X6_placeOfTo (hK.2 _ (List.mem_of_getElem? (i := 32) rfl)) rfl rfl ⟨Nat.le_of_ble_eq_true rfl, Nat.le_of_ble_eq_true rfl⟩) hK hP hP hS rfl hl.1 rfl (Nat.le_of_ble_eq_true rfl) dX5_offerChains_80 ⟨Nat.zero_le _, Nat.zero_le _⟩ (fun H locs hP hS => ?_)
                        refine lv_bipush (v := 8) hx hb dX5_offerChains_83 (by decide) ?_
                        refine lv_iload_n hx hb dX5_offerChains_85 rfl (lv_at hl 2 rfl) ?_
                        refine lv_iload hx hb dX5_offerChains_86 (lv_at hl 0 rfl) ?_
                        refine lv_iload hx hb dX5_offerChains_88 (lv_at hl 8 rfl) ?_
                        refine cN_rol (As := [.int (8 : Int32), .int p1, .int (t_X1_numberOfTo z35 p4 v3_5 v35_8), .int (t_X4_axiomOfChain z12 p3 v3_5 v12_6)]) (rest := [.int (t_X6_placeOfTo p2 v12_6 v35_8), .ref (a 14)]) hC (m_X6_whyOf l g (xW g a z35) (8 : Int32) p1 (t_X1_numberOfTo z35 p4 v3_5 v35_8) (t_X4_axiomOfChain z12 p3 v3_5 v12_6)) (kn_of (host := "NotionRounds") hB bw_15_16 bw_15_15 bw_1_2 kd_X6_whyOf (hK.2 _ (List.mem_of_getElem? (i := 25) rfl)) rfl rfl ⟨Nat.le_of_ble_eq_true rfl, Nat.le_of_ble_eq_true rfl⟩) hK hP hP hS rfl hl.1 rfl (Nat.le_of_ble_eq_true rfl) dX5_offerChains_90 ⟨Nat.zero_le _, Nat.zero_le _⟩ (fun H locs hP hS => ?_)
                        obtain ⟨r6, e6, hs⟩ := Option.bind_eq_some_iff.mp hs
                        refine cV_rwv (As := [.int (t_X6_placeOfTo p2 v12_6 v35_8), .long (t_X6_whyOf (8 : Int32) p1 (t_X1_numberOfTo z35 p4 v3_5 v35_8) (t_X4_axiomOfChain z12 p3 v3_5 v12_6))]) (rest := []) hC (m_X5_offer l g a z35 H.size (t_X6_placeOfTo p2 v12_6 v35_8) (t_X6_whyOf (8 : Int32) p1 (t_X1_numberOfTo z35 p4 v3_5 v35_8) (t_X4_axiomOfChain z12 p3 v3_5 v12_6)) r6 e6) (kv_of hB bw_15_20 bw_15_18 bw_15_19 bw_2_6 kd_X5_offer bw_15_17 rfl rfl ⟨Nat.le_of_ble_eq_true rfl, Nat.le_of_ble_eq_true rfl⟩) hK hP (hD _) hA hS (xW_14 g a z35) rfl rfl hl.1 rfl (Nat.le_of_ble_eq_true rfl) dX5_offerChains_93 ⟨Nat.zero_le _, Nat.zero_le _⟩ (fun H locs hP hS => ?_)
                        refine lv_iinc (v := (v35_8 + 1)) (lv' := [(8, .int (v35_8 + 1)), (9, .int (t_X1_numberOfTo z35 p4 v3_5 v35_8)), (0, .ref (a 14)), (1, .int p1), (2, .int p2), (3, .int p3), (4, .int p4), (5, .int v3_5), (6, .int v12_6), (7, .int (t_X4_axiomOfChain z12 p3 v3_5 v12_6))]) hx hb dX5_offerChains_96 hl (k := 9) rfl (by rfl) (by decide) rfl (fun ls hl => ?_)
                        refine lv_goto (tgt := 35) hx hb dX5_offerChains_99 (by decide) ?_
                        cases hs
                        exact ih35 (v35_8 + 1) r6 hk35 _ _ hP hS _ (lv_sub hl [2, 3, 4, 5, 6, 7, 8, 9, 0] rfl)
              exact L35 n35 (0 : Int32) z12 hs _ _ hP hS _ (lv_sub hl [2, 3, 4, 5, 6, 7, 8, 1, 0] rfl)
        exact L12 n12 (0 : Int32) z3 hs _ _ hP hS _ (lv_sub hl [1, 2, 3, 4, 5, 6, 0] rfl)
  exact L3 n3 (0 : Int32) st hs _ _ hP hS _ (lv_sub hl [1, 2, 3, 4, 5, 0] rfl)
noncomputable def f_X5_offerFrom (st : XS) (p1 : Int32) : Option XS :=
  (if (t_X6_roleAt (t_X1_placeOf st p1)) = (-1 : Int32) then (Option.bind (f_X5_offerByParts st p1 (t_X6_subjectAt (t_X1_placeOf st p1)) (t_X6_objectAt (t_X1_placeOf st p1))) (fun r5 => (Option.bind (f_X5_offerMeets r5 p1 (t_X6_subjectAt (t_X1_placeOf st p1)) (t_X6_objectAt (t_X1_placeOf st p1))) (fun r6 => (Option.bind (f_X5_offerByAxioms r6 p1 (t_X6_subjectAt (t_X1_placeOf st p1)) (t_X6_objectAt (t_X1_placeOf st p1))) (fun r7 => some (r7))))))) else (Option.bind (f_X5_offerBegun st (t_X6_objectAt (t_X1_placeOf st p1)) p1) (fun r2 => (Option.bind (f_X5_offerBack r2 p1 (t_X6_subjectAt (t_X1_placeOf st p1)) (t_X6_roleAt (t_X1_placeOf st p1)) (t_X6_objectAt (t_X1_placeOf st p1))) (fun r3 => (Option.bind (f_X5_offerChains r3 p1 (t_X6_subjectAt (t_X1_placeOf st p1)) (t_X6_roleAt (t_X1_placeOf st p1)) (t_X6_objectAt (t_X1_placeOf st p1))) (fun r4 => some (r4))))))))
set_option maxHeartbeats 4000000 in
set_option maxRecDepth 100000 in
theorem m_X5_offerFrom (l : Launch) (g : GG) (a : Nat → Nat) (st : XS) (sz : Nat) (p1 : Int32) (res : XS) (hs : f_X5_offerFrom st p1 = some res) : Met l yX5_offerFrom (Cond.code yX5_offerFrom cX5_offerFrom 5 none :: BIG) ({ frames := 4, cells := 0, slots := 0, locals := 94 } : Room) (va_Pc [.ref (a 14), .int p1] (RWp g (xW g a st) sz)) (RWv g (xW g a res) (va_A (xW g a st) sz)) 0 0 (va_A (xW g a st) sz) := by
  refine rw_start (cc := cX5_offerFrom) (maxL := 5) (ret := none) (lv := [(0, .ref (a 14)), (1, .int p1)]) (Qc := fun A => (RWv g (xW g a res) A)) (by decide) rfl (Nat.le_of_ble_eq_true rfl) rfl ?_
  intro p e s m args below meth c hx hb hml hr hts hown hlk hK A hD0 hA H locs hP hS ls hl
  have hD : ∀ st' : XS, va_D A (xW g a st') := fun _ => xW_D hD0
  have hB : ∀ w ∈ BIG, w.before args s = true := fun w h => hts w (List.mem_cons_of_mem _ h)
  have hC : CallFix p m c cX5_offerFrom 5 s args BIG RX5 := ⟨hx, hb, hml, hown, hB⟩
  unfold f_X5_offerFrom at hs
  refine lv_aload_n hx hb dX5_offerFrom_0 rfl (lv_at hl 0 rfl) ?_
  refine xg_5_3 hx hb hB hown hK hP dX5_offerFrom_1 ?_
  refine lv_iload_n hx hb dX5_offerFrom_4 rfl (lv_at hl 1 rfl) ?_
  refine cV_roi (As := [.int p1]) (rest := []) hC (m_X1_placeOf l g a st p1) (kv_of hB bw_16_13 bw_16_11 bw_16_12 bw_2_2 kd_X1_placeOf bw_16_10 rfl rfl ⟨Nat.le_of_ble_eq_true rfl, Nat.le_of_ble_eq_true rfl⟩) hK hP hP hS (xW_8 g a st) rfl rfl hl.1 rfl (Nat.le_of_ble_eq_true rfl) dX5_offerFrom_5 ⟨Nat.zero_le _, Nat.zero_le _⟩ (fun H locs hP hS => ?_)
  refine lv_istore_n (lv' := [(2, .int (t_X1_placeOf st p1)), (0, .ref (a 14)), (1, .int p1)]) hx hb dX5_offerFrom_8 rfl hl (by decide) rfl (fun ls hl => ?_)
  refine lv_iload_n hx hb dX5_offerFrom_9 rfl (lv_at hl 0 rfl) ?_
  refine cN_roi (As := [.int (t_X1_placeOf st p1)]) (rest := []) hC (m_X6_subjectAt l g (xW g a st) (t_X1_placeOf st p1)) (kn_of (host := "NotionRounds") hB bw_16_15 bw_16_14 bw_1_2 kd_X6_subjectAt (hK.2 _ (List.mem_of_getElem? (i := 29) rfl)) rfl rfl ⟨Nat.le_of_ble_eq_true rfl, Nat.le_of_ble_eq_true rfl⟩) hK hP hP hS rfl hl.1 rfl (Nat.le_of_ble_eq_true rfl) dX5_offerFrom_10 ⟨Nat.zero_le _, Nat.zero_le _⟩ (fun H locs hP hS => ?_)
  refine lv_istore_n (lv' := [(3, .int (t_X6_subjectAt (t_X1_placeOf st p1))), (2, .int (t_X1_placeOf st p1)), (0, .ref (a 14)), (1, .int p1)]) hx hb dX5_offerFrom_13 rfl hl (by decide) rfl (fun ls hl => ?_)
  refine lv_iload_n hx hb dX5_offerFrom_14 rfl (lv_at hl 1 rfl) ?_
  refine cN_roi (As := [.int (t_X1_placeOf st p1)]) (rest := []) hC (m_X6_roleAt l g (xW g a st) (t_X1_placeOf st p1)) (kn_of (host := "NotionRounds") hB bw_16_17 bw_16_16 bw_1_2 kd_X6_roleAt (hK.2 _ (List.mem_of_getElem? (i := 30) rfl)) rfl rfl ⟨Nat.le_of_ble_eq_true rfl, Nat.le_of_ble_eq_true rfl⟩) hK hP hP hS rfl hl.1 rfl (Nat.le_of_ble_eq_true rfl) dX5_offerFrom_15 ⟨Nat.zero_le _, Nat.zero_le _⟩ (fun H locs hP hS => ?_)
  refine lv_istore (lv' := [(4, .int (t_X6_roleAt (t_X1_placeOf st p1))), (3, .int (t_X6_subjectAt (t_X1_placeOf st p1))), (2, .int (t_X1_placeOf st p1)), (0, .ref (a 14)), (1, .int p1)]) hx hb dX5_offerFrom_18 hl (by decide) rfl (fun ls hl => ?_)
  refine lv_iload hx hb dX5_offerFrom_20 (lv_at hl 0 rfl) ?_
  refine lv_iconst (v := -1) hx hb dX5_offerFrom_22 (by decide) ?_
  refine lv_icmp_ne (tgt := 59) hx hb dX5_offerFrom_23 (by decide) (fun c1 => ?_) (fun c1 => ?_)
  · have hs := ifn c1 hs
    refine lv_aload_n hx hb dX5_offerFrom_59 rfl (lv_at hl 3 rfl) ?_
    refine lv_iload_n hx hb dX5_offerFrom_60 rfl (lv_at hl 2 rfl) ?_
    refine cN_roi (As := [.int (t_X1_placeOf st p1)]) (rest := [.ref (a 14)]) hC (m_X6_objectAt l g (xW g a st) (t_X1_placeOf st p1)) (kn_of (host := "NotionRounds") hB bw_16_19 bw_16_18 bw_1_2 kd_X6_objectAt (hK.2 _ (List.mem_of_getElem? (i := 31) rfl)) rfl rfl ⟨Nat.le_of_ble_eq_true rfl, Nat.le_of_ble_eq_true rfl⟩) hK hP hP hS rfl hl.1 rfl (Nat.le_of_ble_eq_true rfl) dX5_offerFrom_61 ⟨Nat.zero_le _, Nat.zero_le _⟩ (fun H locs hP hS => ?_)
    refine lv_iload_n hx hb dX5_offerFrom_64 rfl (lv_at hl 4 rfl) ?_
    obtain ⟨r2, e2, hs⟩ := Option.bind_eq_some_iff.mp hs
    refine cV_rwv (As := [.int (t_X6_objectAt (t_X1_placeOf st p1)), .int p1]) (rest := []) hC (m_X5_offerBegun l g a st H.size (t_X6_objectAt (t_X1_placeOf st p1)) p1 r2 e2) (kv_of hB bw_15_12 bw_15_10 bw_15_11 bw_2_6 kd_X5_offerBegun bw_15_9 rfl rfl ⟨Nat.le_of_ble_eq_true rfl, Nat.le_of_ble_eq_true rfl⟩) hK hP (hD _) hA hS (xW_14 g a st) rfl rfl hl.1 rfl (Nat.le_of_ble_eq_true rfl) dX5_offerFrom_65 ⟨Nat.zero_le _, Nat.zero_le _⟩ (fun H locs hP hS => ?_)
    refine lv_aload_n hx hb dX5_offerFrom_68 rfl (lv_at hl 3 rfl) ?_
    refine lv_iload_n hx hb dX5_offerFrom_69 rfl (lv_at hl 4 rfl) ?_
    refine lv_iload_n hx hb dX5_offerFrom_70 rfl (lv_at hl 1 rfl) ?_
    refine lv_iload hx hb dX5_offerFrom_71 (lv_at hl 0 rfl) ?_
    refine lv_iload_n hx hb dX5_offerFrom_73 rfl (lv_at hl 2 rfl) ?_
    refine cN_roi (As := [.int (t_X1_placeOf st p1)]) (rest := [.int (t_X6_roleAt (t_X1_placeOf st p1)), .int (t_X6_subjectAt (t_X1_placeOf st p1)), .int p1, .ref (a 14)]) hC (m_X6_objectAt l g (xW g a r2) (t_X1_placeOf st p1)) (kn_of (host := "NotionRounds") hB bw_16_19 bw_16_18 bw_1_2 kd_X6_objectAt (hK.2 _ (List.mem_of_getElem? (i := 31) rfl)) rfl rfl ⟨Nat.le_of_ble_eq_true rfl, Nat.le_of_ble_eq_true rfl⟩) hK hP hP hS rfl hl.1 rfl (Nat.le_of_ble_eq_true rfl) dX5_offerFrom_74 ⟨Nat.zero_le _, Nat.zero_le _⟩ (fun H locs hP hS => ?_)
    obtain ⟨r3, e3, hs⟩ := Option.bind_eq_some_iff.mp hs
    refine cV_rwv (As := [.int p1, .int (t_X6_subjectAt (t_X1_placeOf st p1)), .int (t_X6_roleAt (t_X1_placeOf st p1)), .int (t_X6_objectAt (t_X1_placeOf st p1))]) (rest := []) hC (m_X5_offerBack l g a r2 H.size p1 (t_X6_subjectAt (t_X1_placeOf st p1)) (t_X6_roleAt (t_X1_placeOf st p1)) (t_X6_objectAt (t_X1_placeOf st p1)) r3 e3) (kv_of hB bw_18_1 bw_17_23 bw_18_0 bw_2_6 kd_X5_offerBack bw_17_22 rfl rfl ⟨Nat.le_of_ble_eq_true rfl, Nat.le_of_ble_eq_true rfl⟩) hK hP (hD _) hA hS (xW_14 g a r2) rfl rfl hl.1 rfl (Nat.le_of_ble_eq_true rfl) dX5_offerFrom_77 ⟨Nat.zero_le _, Nat.zero_le _⟩ (fun H locs hP hS => ?_)
    refine lv_aload_n hx hb dX5_offerFrom_80 rfl (lv_at hl 3 rfl) ?_
    refine lv_iload_n hx hb dX5_offerFrom_81 rfl (lv_at hl 4 rfl) ?_
    refine lv_iload_n hx hb dX5_offerFrom_82 rfl (lv_at hl 1 rfl) ?_
    refine lv_iload hx hb dX5_offerFrom_83 (lv_at hl 0 rfl) ?_
    refine lv_iload_n hx hb dX5_offerFrom_85 rfl (lv_at hl 2 rfl) ?_
    refine cN_roi (As := [.int (t_X1_placeOf st p1)]) (rest := [.int (t_X6_roleAt (t_X1_placeOf st p1)), .int (t_X6_subjectAt (t_X1_placeOf st p1)), .int p1, .ref (a 14)]) hC (m_X6_objectAt l g (xW g a r3) (t_X1_placeOf st p1)) (kn_of (host := "NotionRounds") hB bw_16_19 bw_16_18 bw_1_2 kd_X6_objectAt (hK.2 _ (List.mem_of_getElem? (i := 31) rfl)) rfl rfl ⟨Nat.le_of_ble_eq_true rfl, Nat.le_of_ble_eq_true rfl⟩) hK hP hP hS rfl hl.1 rfl (Nat.le_of_ble_eq_true rfl) dX5_offerFrom_86 ⟨Nat.zero_le _, Nat.zero_le _⟩ (fun H locs hP hS => ?_)
    obtain ⟨r4, e4, hs⟩ := Option.bind_eq_some_iff.mp hs
    refine cV_rwv (As := [.int p1, .int (t_X6_subjectAt (t_X1_placeOf st p1)), .int (t_X6_roleAt (t_X1_placeOf st p1)), .int (t_X6_objectAt (t_X1_placeOf st p1))]) (rest := []) hC (m_X5_offerChains l g a r3 H.size p1 (t_X6_subjectAt (t_X1_placeOf st p1)) (t_X6_roleAt (t_X1_placeOf st p1)) (t_X6_objectAt (t_X1_placeOf st p1)) r4 e4) (kv_of hB bw_18_6 bw_18_4 bw_18_5 bw_2_6 kd_X5_offerChains bw_18_3 rfl rfl ⟨Nat.le_of_ble_eq_true rfl, Nat.le_of_ble_eq_true rfl⟩) hK hP (hD _) hA hS (xW_14 g a r3) rfl rfl hl.1 rfl (Nat.le_of_ble_eq_true rfl) dX5_offerFrom_89 ⟨Nat.zero_le _, Nat.zero_le _⟩ (fun H locs hP hS => ?_)
    cases hs
    exact ret_rwv hx hb hr hlk hP hS dX5_offerFrom_92
  · have hs := ifp c1 hs
    refine lv_aload_n hx hb dX5_offerFrom_26 rfl (lv_at hl 3 rfl) ?_
    refine lv_iload_n hx hb dX5_offerFrom_27 rfl (lv_at hl 4 rfl) ?_
    refine lv_iload_n hx hb dX5_offerFrom_28 rfl (lv_at hl 1 rfl) ?_
    refine lv_iload_n hx hb dX5_offerFrom_29 rfl (lv_at hl 2 rfl) ?_
    refine cN_roi (As := [.int (t_X1_placeOf st p1)]) (rest := [.int (t_X6_subjectAt (t_X1_placeOf st p1)), .int p1, .ref (a 14)]) hC (m_X6_objectAt l g (xW g a st) (t_X1_placeOf st p1)) (kn_of (host := "NotionRounds") hB bw_16_19 bw_16_18 bw_1_2 kd_X6_objectAt (hK.2 _ (List.mem_of_getElem? (i := 31) rfl)) rfl rfl ⟨Nat.le_of_ble_eq_true rfl, Nat.le_of_ble_eq_true rfl⟩) hK hP hP hS rfl hl.1 rfl (Nat.le_of_ble_eq_true rfl) dX5_offerFrom_30 ⟨Nat.zero_le _, Nat.zero_le _⟩ (fun H locs hP hS => ?_)
    obtain ⟨r5, e5, hs⟩ := Option.bind_eq_some_iff.mp hs
    refine cV_rwv (As := [.int p1, .int (t_X6_subjectAt (t_X1_placeOf st p1)), .int (t_X6_objectAt (t_X1_placeOf st p1))]) (rest := []) hC (m_X5_offerByParts l g a st H.size p1 (t_X6_subjectAt (t_X1_placeOf st p1)) (t_X6_objectAt (t_X1_placeOf st p1)) r5 e5) (kv_of hB bw_16_23 bw_16_21 bw_16_22 bw_2_6 kd_X5_offerByParts bw_16_20 rfl rfl ⟨Nat.le_of_ble_eq_true rfl, Nat.le_of_ble_eq_true rfl⟩) hK hP (hD _) hA hS (xW_14 g a st) rfl rfl hl.1 rfl (Nat.le_of_ble_eq_true rfl) dX5_offerFrom_33 ⟨Nat.zero_le _, Nat.zero_le _⟩ (fun H locs hP hS => ?_)
    refine lv_aload_n hx hb dX5_offerFrom_36 rfl (lv_at hl 3 rfl) ?_
    refine lv_iload_n hx hb dX5_offerFrom_37 rfl (lv_at hl 4 rfl) ?_
    refine lv_iload_n hx hb dX5_offerFrom_38 rfl (lv_at hl 1 rfl) ?_
    refine lv_iload_n hx hb dX5_offerFrom_39 rfl (lv_at hl 2 rfl) ?_
    refine cN_roi (As := [.int (t_X1_placeOf st p1)]) (rest := [.int (t_X6_subjectAt (t_X1_placeOf st p1)), .int p1, .ref (a 14)]) hC (m_X6_objectAt l g (xW g a r5) (t_X1_placeOf st p1)) (kn_of (host := "NotionRounds") hB bw_16_19 bw_16_18 bw_1_2 kd_X6_objectAt (hK.2 _ (List.mem_of_getElem? (i := 31) rfl)) rfl rfl ⟨Nat.le_of_ble_eq_true rfl, Nat.le_of_ble_eq_true rfl⟩) hK hP hP hS rfl hl.1 rfl (Nat.le_of_ble_eq_true rfl) dX5_offerFrom_40 ⟨Nat.zero_le _, Nat.zero_le _⟩ (fun H locs hP hS => ?_)
    obtain ⟨r6, e6, hs⟩ := Option.bind_eq_some_iff.mp hs
    refine cV_rwv (As := [.int p1, .int (t_X6_subjectAt (t_X1_placeOf st p1)), .int (t_X6_objectAt (t_X1_placeOf st p1))]) (rest := []) hC (m_X5_offerMeets l g a r5 H.size p1 (t_X6_subjectAt (t_X1_placeOf st p1)) (t_X6_objectAt (t_X1_placeOf st p1)) r6 e6) (kv_of hB bw_17_8 bw_17_6 bw_17_7 bw_2_6 kd_X5_offerMeets bw_17_5 rfl rfl ⟨Nat.le_of_ble_eq_true rfl, Nat.le_of_ble_eq_true rfl⟩) hK hP (hD _) hA hS (xW_14 g a r5) rfl rfl hl.1 rfl (Nat.le_of_ble_eq_true rfl) dX5_offerFrom_43 ⟨Nat.zero_le _, Nat.zero_le _⟩ (fun H locs hP hS => ?_)
    refine lv_aload_n hx hb dX5_offerFrom_46 rfl (lv_at hl 3 rfl) ?_
    refine lv_iload_n hx hb dX5_offerFrom_47 rfl (lv_at hl 4 rfl) ?_
    refine lv_iload_n hx hb dX5_offerFrom_48 rfl (lv_at hl 1 rfl) ?_
    refine lv_iload_n hx hb dX5_offerFrom_49 rfl (lv_at hl 2 rfl) ?_
    refine cN_roi (As := [.int (t_X1_placeOf st p1)]) (rest := [.int (t_X6_subjectAt (t_X1_placeOf st p1)), .int p1, .ref (a 14)]) hC (m_X6_objectAt l g (xW g a r6) (t_X1_placeOf st p1)) (kn_of (host := "NotionRounds") hB bw_16_19 bw_16_18 bw_1_2 kd_X6_objectAt (hK.2 _ (List.mem_of_getElem? (i := 31) rfl)) rfl rfl ⟨Nat.le_of_ble_eq_true rfl, Nat.le_of_ble_eq_true rfl⟩) hK hP hP hS rfl hl.1 rfl (Nat.le_of_ble_eq_true rfl) dX5_offerFrom_50 ⟨Nat.zero_le _, Nat.zero_le _⟩ (fun H locs hP hS => ?_)
    obtain ⟨r7, e7, hs⟩ := Option.bind_eq_some_iff.mp hs
    refine cV_rwv (As := [.int p1, .int (t_X6_subjectAt (t_X1_placeOf st p1)), .int (t_X6_objectAt (t_X1_placeOf st p1))]) (rest := []) hC (m_X5_offerByAxioms l g a r6 H.size p1 (t_X6_subjectAt (t_X1_placeOf st p1)) (t_X6_objectAt (t_X1_placeOf st p1)) r7 e7) (kv_of hB bw_17_19 bw_17_17 bw_17_18 bw_2_6 kd_X5_offerByAxioms bw_17_16 rfl rfl ⟨Nat.le_of_ble_eq_true rfl, Nat.le_of_ble_eq_true rfl⟩) hK hP (hD _) hA hS (xW_14 g a r6) rfl rfl hl.1 rfl (Nat.le_of_ble_eq_true rfl) dX5_offerFrom_53 ⟨Nat.zero_le _, Nat.zero_le _⟩ (fun H locs hP hS => ?_)
    refine lv_goto (tgt := 92) hx hb dX5_offerFrom_56 (by decide) ?_
    cases hs
    exact ret_rwv hx hb hr hlk hP hS dX5_offerFrom_92
noncomputable def f_X1_add (st : XS) (p1 : Int32) (p2 : Int32) (p3 : Int64) : Option XS :=
  (Option.bind (some (sA st 9 (t_X6_put 2000 (st.1 9) p1 (st.1 33 0)))) (fun r1 => (Option.bind (some (sA r1 10 (t_X6_put 2000 (r1.1 10) (r1.1 33 0) p1))) (fun r2 => (Option.bind (some (sA r2 11 (t_X6_put 2000 (r2.1 11) (r2.1 33 0) p2))) (fun r3 => (Option.bind (some (sL r3 12 (t_X6_putLong 2000 (r3.2 12) (r3.1 33 0) p3))) (fun r4 => (Option.bind (some (sA r4 33 (fun _ => ((r4.1 33 0) + (1 : Int32))))) (fun r5 => (Option.bind (some (sA r5 34 (fun _ => p2))) (fun r6 => some (r6)))))))))))))
set_option maxHeartbeats 4000000 in
set_option maxRecDepth 100000 in
theorem m_X1_add (l : Launch) (g : GG) (a : Nat → Nat) (st : XS) (sz : Nat) (p1 : Int32) (p2 : Int32) (p3 : Int64) (res : XS) (hs : f_X1_add st p1 p2 p3 = some res) : Met l yX1_add (Cond.code yX1_add cX1_add 5 none :: BIG) ({ frames := 1, cells := 0, slots := 0, locals := 23 } : Room) (va_Pc [.ref (a 8), .int p1, .int p2, .long p3] (RWp g (xW g a st) sz)) (RWv g (xW g a res) (va_A (xW g a st) sz)) 0 0 (va_A (xW g a st) sz) := by
  refine rw_start (cc := cX1_add) (maxL := 5) (ret := none) (lv := [(0, .ref (a 8)), (1, .int p1), (2, .int p2), (3, .long p3)]) (Qc := fun A => (RWv g (xW g a res) A)) (by decide) rfl (Nat.le_of_ble_eq_true rfl) rfl ?_
  intro p e s m args below meth c hx hb hml hr hts hown hlk hK A hD0 hA H locs hP hS ls hl
  have hD : ∀ st' : XS, va_D A (xW g a st') := fun _ => xW_D hD0
  have hB : ∀ w ∈ BIG, w.before args s = true := fun w h => hts w (List.mem_cons_of_mem _ h)
  have hC : CallFix p m c cX1_add 5 s args BIG RX1 := ⟨hx, hb, hml, hown, hB⟩
  unfold f_X1_add at hs
  refine lv_aload_n hx hb dX1_add_0 rfl (lv_at hl 0 rfl) ?_
  refine xg_1_0 hx hb hB hown hK hP dX1_add_1 ?_
  refine lv_iload_n hx hb dX1_add_4 rfl (lv_at hl 1 rfl) ?_
  refine lv_aload_n hx hb dX1_add_5 rfl (lv_at hl 0 rfl) ?_
  refine xg_1_5 hx hb hB hown hK hP dX1_add_6 ?_
  obtain ⟨r1, e1, hs⟩ := Option.bind_eq_some_iff.mp hs
  have e1 := Option.some.inj e1
  refine cN_rwv (As := [.ref (a 9), .int p1, .int (st.1 33 0)]) (rest := []) hC (m_X6_put_9 l g a st r1 H.size p1 (st.1 33 0) e1) (kn_of (host := "NotionRounds") hB bw_3_3 bw_3_2 bw_1_2 kd_X6_put (hK.2 _ (List.mem_of_getElem? (i := 36) rfl)) rfl rfl ⟨Nat.le_of_ble_eq_true rfl, Nat.le_of_ble_eq_true rfl⟩) hK hP (hD _) hA hS rfl hl.1 rfl (Nat.le_of_ble_eq_true rfl) dX1_add_9 ⟨Nat.zero_le _, Nat.zero_le _⟩ (fun H locs hP hS => ?_)
  refine lv_aload_n hx hb dX1_add_12 rfl (lv_at hl 0 rfl) ?_
  refine xg_1_1 hx hb hB hown hK hP dX1_add_13 ?_
  refine lv_aload_n hx hb dX1_add_16 rfl (lv_at hl 0 rfl) ?_
  refine xg_1_5 hx hb hB hown hK hP dX1_add_17 ?_
  refine lv_iload_n hx hb dX1_add_20 rfl (lv_at hl 1 rfl) ?_
  obtain ⟨r2, e2, hs⟩ := Option.bind_eq_some_iff.mp hs
  have e2 := Option.some.inj e2
  refine cN_rwv (As := [.ref (a 10), .int (r1.1 33 0), .int p1]) (rest := []) hC (m_X6_put_10 l g a r1 r2 H.size (r1.1 33 0) p1 e2) (kn_of (host := "NotionRounds") hB bw_3_3 bw_3_2 bw_1_2 kd_X6_put (hK.2 _ (List.mem_of_getElem? (i := 36) rfl)) rfl rfl ⟨Nat.le_of_ble_eq_true rfl, Nat.le_of_ble_eq_true rfl⟩) hK hP (hD _) hA hS rfl hl.1 rfl (Nat.le_of_ble_eq_true rfl) dX1_add_21 ⟨Nat.zero_le _, Nat.zero_le _⟩ (fun H locs hP hS => ?_)
  refine lv_aload_n hx hb dX1_add_24 rfl (lv_at hl 0 rfl) ?_
  refine xg_1_2 hx hb hB hown hK hP dX1_add_25 ?_
  refine lv_aload_n hx hb dX1_add_28 rfl (lv_at hl 0 rfl) ?_
  refine xg_1_5 hx hb hB hown hK hP dX1_add_29 ?_
  refine lv_iload_n hx hb dX1_add_32 rfl (lv_at hl 2 rfl) ?_
  obtain ⟨r3, e3, hs⟩ := Option.bind_eq_some_iff.mp hs
  have e3 := Option.some.inj e3
  refine cN_rwv (As := [.ref (a 11), .int (r2.1 33 0), .int p2]) (rest := []) hC (m_X6_put_11 l g a r2 r3 H.size (r2.1 33 0) p2 e3) (kn_of (host := "NotionRounds") hB bw_3_3 bw_3_2 bw_1_2 kd_X6_put (hK.2 _ (List.mem_of_getElem? (i := 36) rfl)) rfl rfl ⟨Nat.le_of_ble_eq_true rfl, Nat.le_of_ble_eq_true rfl⟩) hK hP (hD _) hA hS rfl hl.1 rfl (Nat.le_of_ble_eq_true rfl) dX1_add_33 ⟨Nat.zero_le _, Nat.zero_le _⟩ (fun H locs hP hS => ?_)
  refine lv_aload_n hx hb dX1_add_36 rfl (lv_at hl 0 rfl) ?_
  refine xg_1_3 hx hb hB hown hK hP dX1_add_37 ?_
  refine lv_aload_n hx hb dX1_add_40 rfl (lv_at hl 0 rfl) ?_
  refine xg_1_5 hx hb hB hown hK hP dX1_add_41 ?_
  refine lv_lload_n hx hb dX1_add_44 rfl (lv_at hl 3 rfl) ?_
  obtain ⟨r4, e4, hs⟩ := Option.bind_eq_some_iff.mp hs
  have e4 := Option.some.inj e4
  refine cN_rwv (As := [.ref (a 12), .int (r3.1 33 0), .long p3]) (rest := []) hC (m_X6_putLong_12 l g a r3 r4 H.size (r3.1 33 0) p3 e4) (kn_of (host := "NotionRounds") hB bw_16_5 bw_16_4 bw_1_2 kd_X6_putLong (hK.2 _ (List.mem_of_getElem? (i := 37) rfl)) rfl rfl ⟨Nat.le_of_ble_eq_true rfl, Nat.le_of_ble_eq_true rfl⟩) hK hP (hD _) hA hS rfl hl.1 rfl (Nat.le_of_ble_eq_true rfl) dX1_add_45 ⟨Nat.zero_le _, Nat.zero_le _⟩ (fun H locs hP hS => ?_)
  refine lv_aload_n hx hb dX1_add_48 rfl (lv_at hl 0 rfl) ?_
  refine lv_dup hx hb dX1_add_49 rfl ?_
  refine xg_1_5 hx hb hB hown hK hP dX1_add_50 ?_
  refine lv_iconst (v := 1) hx hb dX1_add_53 (by decide) ?_
  refine lv_iadd hx hb dX1_add_54 ?_
  obtain ⟨r5, e5, hs⟩ := Option.bind_eq_some_iff.mp hs
  have e5 := Option.some.inj e5
  refine xp_33 hx hb hB hown hK hP hD hS e5 dX1_add_55 (fun H locs hP hS => ?_)
  refine lv_aload_n hx hb dX1_add_58 rfl (lv_at hl 0 rfl) ?_
  refine lv_iload_n hx hb dX1_add_59 rfl (lv_at hl 2 rfl) ?_
  obtain ⟨r6, e6, hs⟩ := Option.bind_eq_some_iff.mp hs
  have e6 := Option.some.inj e6
  refine xp_34 hx hb hB hown hK hP hD hS e6 dX1_add_60 (fun H locs hP hS => ?_)
  cases hs
  exact ret_rwv hx hb hr hlk hP hS dX1_add_63
noncomputable def b_X5_addOffered_10 (c10_1 : Int32) (c10_2 : Int32) (v10_3 : Int32) (z10 : XS) : Option ((Int32 × XS) ⊕ (Int32 × XS)) :=
  (if (2000 : Int32) ≤ v10_3 then (if (z10.1 33 0) ≤ c10_2 then some (Sum.inr (((0 : Int32), z10))) else some (Sum.inr (((1 : Int32), z10)))) else (Option.bind (rd 2000 (z10.2 15) v10_3) (fun r3 => (if (lg_cmp r3 (4611686018427387904 : Int64)) = 0 then some (Sum.inl ((v10_3 + 1), z10)) else (Option.bind (rd 2000 (z10.2 15) v10_3) (fun r5 => (Option.bind (f_X1_add z10 v10_3 c10_1 r5) (fun r6 => some (Sum.inl ((v10_3 + 1), r6))))))))))
noncomputable def f_X5_addOffered (st : XS) (p1 : Int32) : Option (Int32 × XS) :=
  (loopC (fun v => b_X5_addOffered_10 p1 (st.1 33 0) v.1 v.2) ((0 : Int32), st))
set_option maxHeartbeats 4000000 in
set_option maxRecDepth 100000 in
theorem m_X5_addOffered (l : Launch) (g : GG) (a : Nat → Nat) (st : XS) (sz : Nat) (p1 : Int32) (res : (Int32 × XS)) (hs : f_X5_addOffered st p1 = some res) : Met l yX5_addOffered (Cond.code yX5_addOffered cX5_addOffered 4 (some .boolean) :: BIG) ({ frames := 2, cells := 0, slots := 0, locals := 47 } : Room) (va_Pc [.ref (a 14), .int p1] (RWp g (xW g a st) sz)) (RWi res.1 g (xW g a res.2) (va_A (xW g a st) sz)) 0 0 (va_A (xW g a st) sz) := by
  refine rw_start (cc := cX5_addOffered) (maxL := 4) (ret := (some .boolean)) (lv := [(0, .ref (a 14)), (1, .int p1)]) (Qc := fun A => (RWi res.1 g (xW g a res.2) A)) (by decide) rfl (Nat.le_of_ble_eq_true rfl) rfl ?_
  intro p e s m args below meth c hx hb hml hr hts hown hlk hK A hD0 hA H locs hP hS ls hl
  have hD : ∀ st' : XS, va_D A (xW g a st') := fun _ => xW_D hD0
  have hB : ∀ w ∈ BIG, w.before args s = true := fun w h => hts w (List.mem_cons_of_mem _ h)
  have hC : CallFix p m c cX5_addOffered 4 s args BIG RX5 := ⟨hx, hb, hml, hown, hB⟩
  unfold f_X5_addOffered at hs
  refine lv_aload_n hx hb dX5_addOffered_0 rfl (lv_at hl 0 rfl) ?_
  refine xg_5_3 hx hb hB hown hK hP dX5_addOffered_1 ?_
  refine xn_RX5_48 hx hb hB hown hK hP dX5_addOffered_4 ?_
  refine lv_istore_n (lv' := [(2, .int (st.1 33 0)), (0, .ref (a 14)), (1, .int p1)]) hx hb dX5_addOffered_7 rfl hl (by decide) rfl (fun ls hl => ?_)
  refine lv_iconst (v := 0) hx hb dX5_addOffered_8 (by decide) ?_
  refine lv_istore_n (lv' := [(3, .int (0 : Int32)), (2, .int (st.1 33 0)), (0, .ref (a 14)), (1, .int p1)]) hx hb dX5_addOffered_9 rfl hl (by decide) rfl (fun ls hl => ?_)
  obtain ⟨n10, hs⟩ := loopC_iter hs
  have L10 : ∀ (n : Nat) (v10_3 : Int32) (z10 : XS), iterO (fun v => b_X5_addOffered_10 p1 (st.1 33 0) v.1 v.2) n (v10_3, z10) = some res → ∀ (H : Heap) (locs : List Loc), va_P g.1 vwCl (xW g a z10) H → va_S A s.heap H locs → ∀ ls : Array Slot, lv_has ls 4 [(0, .ref (a 14)), (1, .int p1), (2, .int (st.1 33 0)), (3, .int v10_3)] → W p l e ({ frames := 2, cells := 0, slots := 0, locals := 47 } : Room) s m args below meth c H locs 0 0 (MQ below (RWi res.1 g (xW g a res.2) A) args s 0 0 A) (F0 m 10 ls []) := by
    intro n
    induction n with
    | zero => intro v10_3 z10 hs; exact (iterO_zero hs).elim
    | succ n ih10 =>
      intro v10_3 z10 hs H locs hP hS ls hl
      obtain ⟨y10, hs, hk10⟩ := iterO_succ hs
      have hs : b_X5_addOffered_10 p1 (st.1 33 0) v10_3 z10 = some y10 := hs
      unfold b_X5_addOffered_10 at hs
      refine lv_iload_n hx hb dX5_addOffered_10 rfl (lv_at hl 3 rfl) ?_
      refine lv_aload_n hx hb dX5_addOffered_11 rfl (lv_at hl 0 rfl) ?_
      refine xg_5_4 hx hb hB hown hK hP dX5_addOffered_12 ?_
      refine len_J (v := 2000) hx hb hK hP (xW_15 g a z10) (by decide) dX5_addOffered_15 ?_
      refine lv_icmp_ge (tgt := 53) hx hb dX5_addOffered_16 (by decide) (fun c1 => ?_) (fun c1 => ?_)
      · have hs := ifp c1 hs
        refine lv_aload_n hx hb dX5_addOffered_53 rfl (lv_at hl 0 rfl) ?_
        refine xg_5_3 hx hb hB hown hK hP dX5_addOffered_54 ?_
        refine xn_RX5_48 hx hb hB hown hK hP dX5_addOffered_57 ?_
        refine lv_iload_n hx hb dX5_addOffered_60 rfl (lv_at hl 2 rfl) ?_
        refine lv_icmp_le (tgt := 68) hx hb dX5_addOffered_61 (by decide) (fun c2 => ?_) (fun c2 => ?_)
        · have hs := ifp c2 hs
          refine lv_iconst (v := 0) hx hb dX5_addOffered_68 (by decide) ?_
          cases hs
          cases elim_inr hk10
          exact ret_rwz hx hb hr (zn_of (Or.inl rfl)) hlk hP hS dX5_addOffered_69
        · have hs := ifn c2 hs
          refine lv_iconst (v := 1) hx hb dX5_addOffered_64 (by decide) ?_
          refine lv_goto (tgt := 69) hx hb dX5_addOffered_65 (by decide) ?_
          cases hs
          cases elim_inr hk10
          exact ret_rwz hx hb hr (zn_of (Or.inr rfl)) hlk hP hS dX5_addOffered_69
      · have hs := ifn c1 hs
        refine lv_aload_n hx hb dX5_addOffered_19 rfl (lv_at hl 0 rfl) ?_
        refine xg_5_4 hx hb hB hown hK hP dX5_addOffered_20 ?_
        refine lv_iload_n hx hb dX5_addOffered_23 rfl (lv_at hl 3 rfl) ?_
        obtain ⟨r3, e3, hs⟩ := Option.bind_eq_some_iff.mp hs
        refine ld_J hx hb hK hP (xW_15 g a z10) e3 dX5_addOffered_24 ?_
        refine lv_ldc2 hx hb hown (hB _ bw_15_0) dX5_addOffered_25 ?_
        refine W.lcmp hx hb dX5_addOffered_28 ?_
        refine lv_if_eq (tgt := 47) hx hb dX5_addOffered_29 (by decide) (fun c4 => ?_) (fun c4 => ?_)
        · have hs := ifp c4 hs
          refine lv_iinc (v := (v10_3 + 1)) (lv' := [(3, .int (v10_3 + 1)), (0, .ref (a 14)), (1, .int p1), (2, .int (st.1 33 0))]) hx hb dX5_addOffered_47 hl (k := 3) rfl (by rfl) (by decide) rfl (fun ls hl => ?_)
          refine lv_goto (tgt := 10) hx hb dX5_addOffered_50 (by decide) ?_
          cases hs
          exact ih10 (v10_3 + 1) z10 hk10 _ _ hP hS _ (lv_sub hl [1, 2, 3, 0] rfl)
        · have hs := ifn c4 hs
          refine lv_aload_n hx hb dX5_addOffered_32 rfl (lv_at hl 0 rfl) ?_
          refine xg_5_3 hx hb hB hown hK hP dX5_addOffered_33 ?_
          refine lv_iload_n hx hb dX5_addOffered_36 rfl (lv_at hl 3 rfl) ?_
          refine lv_iload_n hx hb dX5_addOffered_37 rfl (lv_at hl 1 rfl) ?_
          refine lv_aload_n hx hb dX5_addOffered_38 rfl (lv_at hl 0 rfl) ?_
          refine xg_5_4 hx hb hB hown hK hP dX5_addOffered_39 ?_
          refine lv_iload_n hx hb dX5_addOffered_42 rfl (lv_at hl 3 rfl) ?_
          obtain ⟨r5, e5, hs⟩ := Option.bind_eq_some_iff.mp hs
          refine ld_J hx hb hK hP (xW_15 g a z10) e5 dX5_addOffered_43 ?_
          obtain ⟨r6, e6, hs⟩ := Option.bind_eq_some_iff.mp hs
          refine cV_rwv (As := [.int v10_3, .int p1, .long r5]) (rest := []) hC (m_X1_add l g a z10 H.size v10_3 p1 r5 r6 e6) (kv_of hB bw_18_19 bw_18_17 bw_18_18 bw_2_2 kd_X1_add bw_18_16 rfl rfl ⟨Nat.le_of_ble_eq_true rfl, Nat.le_of_ble_eq_true rfl⟩) hK hP (hD _) hA hS (xW_8 g a z10) rfl rfl hl.1 rfl (Nat.le_of_ble_eq_true rfl) dX5_addOffered_44 ⟨Nat.zero_le _, Nat.zero_le _⟩ (fun H locs hP hS => ?_)
          refine lv_iinc (v := (v10_3 + 1)) (lv' := [(3, .int (v10_3 + 1)), (0, .ref (a 14)), (1, .int p1), (2, .int (st.1 33 0))]) hx hb dX5_addOffered_47 hl (k := 3) rfl (by rfl) (by decide) rfl (fun ls hl => ?_)
          refine lv_goto (tgt := 10) hx hb dX5_addOffered_50 (by decide) ?_
          cases hs
          exact ih10 (v10_3 + 1) r6 hk10 _ _ hP hS _ (lv_sub hl [1, 2, 3, 0] rfl)
  exact L10 n10 (0 : Int32) st hs _ _ hP hS _ (lv_sub hl [2, 3, 1, 0] rfl)
noncomputable def b_X5_concludeAll_43 (c43_2 : Int32) (v43_3 : Int32) (z43 : XS) : Option ((Int32 × XS) ⊕ ((Int32 × Int32 × XS) ⊕ XS)) :=
  (if (z43.1 33 0) ≤ v43_3 then (Option.bind (f_X5_addOffered z43 c43_2) (fun r8 => some (Sum.inr (Sum.inl (r8.1, (c43_2 + 1), r8.2))))) else (Option.bind (f_X5_offerFrom z43 v43_3) (fun r9 => some (Sum.inl ((v43_3 + 1), r9)))))
noncomputable def b_X5_concludeAll_22 (v22_1 : Int32) (v22_2 : Int32) (z22 : XS) : Option ((Int32 × Int32 × XS) ⊕ XS) :=
  (if (2000 : Int32) < v22_2 then some (Sum.inr (z22)) else (if v22_1 = 0 then some (Sum.inr (z22)) else (Option.bind (f_X5_clearOffers z22) (fun r5 => (Option.bind (f_X5_offerSeeds r5) (fun r6 => (loopC (fun v => b_X5_concludeAll_43 v22_2 v.1 v.2) ((0 : Int32), r6))))))))
noncomputable def f_X5_concludeAll (st : XS) : Option XS :=
  (Option.bind (f_X1_clear st) (fun r1 => (Option.bind (f_X4_learn r1) (fun r2 => (loopC (fun v => b_X5_concludeAll_22 v.1 v.2.1 v.2.2) ((1 : Int32), (1 : Int32), r2))))))
set_option maxHeartbeats 4000000 in
set_option maxRecDepth 100000 in
theorem m_X5_concludeAll (l : Launch) (g : GG) (a : Nat → Nat) (st : XS) (sz : Nat)  (res : XS) (hs : f_X5_concludeAll st = some res) : Met l yX5_concludeAll (Cond.code yX5_concludeAll cX5_concludeAll 4 none :: BIG) ({ frames := 5, cells := 0, slots := 0, locals := 118 } : Room) (va_Pc [.ref (a 14)] (RWp g (xW g a st) sz)) (RWv g (xW g a res) (va_A (xW g a st) sz)) 0 0 (va_A (xW g a st) sz) := by
  refine rw_start (cc := cX5_concludeAll) (maxL := 4) (ret := none) (lv := [(0, .ref (a 14))]) (Qc := fun A => (RWv g (xW g a res) A)) (by decide) rfl (Nat.le_of_ble_eq_true rfl) rfl ?_
  intro p e s m args below meth c hx hb hml hr hts hown hlk hK A hD0 hA H locs hP hS ls hl
  have hD : ∀ st' : XS, va_D A (xW g a st') := fun _ => xW_D hD0
  have hB : ∀ w ∈ BIG, w.before args s = true := fun w h => hts w (List.mem_cons_of_mem _ h)
  have hC : CallFix p m c cX5_concludeAll 4 s args BIG RX5 := ⟨hx, hb, hml, hown, hB⟩
  unfold f_X5_concludeAll at hs
  refine lv_aload_n hx hb dX5_concludeAll_0 rfl (lv_at hl 0 rfl) ?_
  refine xg_5_3 hx hb hB hown hK hP dX5_concludeAll_1 ?_
  obtain ⟨r1, e1, hs⟩ := Option.bind_eq_some_iff.mp hs
  refine cV_rwv (As := []) (rest := []) hC (m_X1_clear l g a st H.size r1 e1) (kv_of hB bw_13_11 bw_13_9 bw_13_10 bw_2_2 kd_X1_clear bw_13_8 rfl rfl ⟨Nat.le_of_ble_eq_true rfl, Nat.le_of_ble_eq_true rfl⟩) hK hP (hD _) hA hS (xW_8 g a st) rfl rfl hl.1 rfl (Nat.le_of_ble_eq_true rfl) dX5_concludeAll_4 ⟨Nat.zero_le _, Nat.zero_le _⟩ (fun H locs hP hS => ?_)
  refine lv_aload_n hx hb dX5_concludeAll_7 rfl (lv_at hl 0 rfl) ?_
  refine xg_5_2 hx hb hB hown hK hP dX5_concludeAll_8 ?_
  refine lv_aload_n hx hb dX5_concludeAll_11 rfl (lv_at hl 0 rfl) ?_
  refine xg_5_1 hx hb hB hown hK hP dX5_concludeAll_12 ?_
  obtain ⟨r2, e2, hs⟩ := Option.bind_eq_some_iff.mp hs
  refine cV_rwv (As := [.ref (a 3)]) (rest := []) hC (m_X4_learn l g a r1 H.size r2 e2) (kv_of hB bw_13_19 bw_13_17 bw_13_18 bw_1_22 kd_X4_learn bw_13_16 rfl rfl ⟨Nat.le_of_ble_eq_true rfl, Nat.le_of_ble_eq_true rfl⟩) hK hP (hD _) hA hS (xW_5 g a r1) rfl rfl hl.1 rfl (Nat.le_of_ble_eq_true rfl) dX5_concludeAll_15 ⟨Nat.zero_le _, Nat.zero_le _⟩ (fun H locs hP hS => ?_)
  refine lv_iconst (v := 1) hx hb dX5_concludeAll_18 (by decide) ?_
  refine lv_istore_n (lv' := [(1, .int (1 : Int32)), (0, .ref (a 14))]) hx hb dX5_concludeAll_19 rfl hl (by decide) rfl (fun ls hl => ?_)
  refine lv_iconst (v := 1) hx hb dX5_concludeAll_20 (by decide) ?_
  refine lv_istore_n (lv' := [(2, .int (1 : Int32)), (1, .int (1 : Int32)), (0, .ref (a 14))]) hx hb dX5_concludeAll_21 rfl hl (by decide) rfl (fun ls hl => ?_)
  obtain ⟨n22, hs⟩ := loopC_iter hs
  have L22 : ∀ (n : Nat) (v22_1 : Int32) (v22_2 : Int32) (z22 : XS), iterO (fun v => b_X5_concludeAll_22 v.1 v.2.1 v.2.2) n (v22_1, v22_2, z22) = some res → ∀ (H : Heap) (locs : List Loc), va_P g.1 vwCl (xW g a z22) H → va_S A s.heap H locs → ∀ ls : Array Slot, lv_has ls 4 [(0, .ref (a 14)), (1, .int v22_1), (2, .int v22_2)] → W p l e ({ frames := 5, cells := 0, slots := 0, locals := 118 } : Room) s m args below meth c H locs 0 0 (MQ below (RWv g (xW g a res) A) args s 0 0 A) (F0 m 22 ls []) := by
    intro n
    induction n with
    | zero => intro v22_1 v22_2 z22 hs; exact (iterO_zero hs).elim
    | succ n ih22 =>
      intro v22_1 v22_2 z22 hs H locs hP hS ls hl
      obtain ⟨y22, hs, hk22⟩ := iterO_succ hs
      have hs : b_X5_concludeAll_22 v22_1 v22_2 z22 = some y22 := hs
      unfold b_X5_concludeAll_22 at hs
      refine lv_iload_n hx hb dX5_concludeAll_22 rfl (lv_at hl 2 rfl) ?_
      refine lv_sipush (v := 2000) hx hb dX5_concludeAll_23 (by decide) ?_
      refine lv_icmp_gt (tgt := 77) hx hb dX5_concludeAll_26 (by decide) (fun c3 => ?_) (fun c3 => ?_)
      · have hs := ifp c3 hs
        cases hs
        cases elim_inr hk22
        exact ret_rwv hx hb hr hlk hP hS dX5_concludeAll_77
      · have hs := ifn c3 hs
        refine lv_iload_n hx hb dX5_concludeAll_29 rfl (lv_at hl 1 rfl) ?_
        refine lv_if_eq (tgt := 77) hx hb dX5_concludeAll_30 (by decide) (fun c4 => ?_) (fun c4 => ?_)
        · have hs := ifp c4 hs
          cases hs
          cases elim_inr hk22
          exact ret_rwv hx hb hr hlk hP hS dX5_concludeAll_77
        · have hs := ifn c4 hs
          refine lv_aload_n hx hb dX5_concludeAll_33 rfl (lv_at hl 0 rfl) ?_
          obtain ⟨r5, e5, hs⟩ := Option.bind_eq_some_iff.mp hs
          refine cV_rwv (As := []) (rest := []) hC (m_X5_clearOffers l g a z22 H.size r5 e5) (kv_of hB bw_14_23 bw_14_21 bw_14_22 bw_2_6 kd_X5_clearOffers bw_14_20 rfl rfl ⟨Nat.le_of_ble_eq_true rfl, Nat.le_of_ble_eq_true rfl⟩) hK hP (hD _) hA hS (xW_14 g a z22) rfl rfl hl.1 rfl (Nat.le_of_ble_eq_true rfl) dX5_concludeAll_34 ⟨Nat.zero_le _, Nat.zero_le _⟩ (fun H locs hP hS => ?_)
          refine lv_aload_n hx hb dX5_concludeAll_37 rfl (lv_at hl 0 rfl) ?_
          obtain ⟨r6, e6, hs⟩ := Option.bind_eq_some_iff.mp hs
          refine cV_rwv (As := []) (rest := []) hC (m_X5_offerSeeds l g a r5 H.size r6 e6) (kv_of hB bw_15_4 bw_15_2 bw_15_3 bw_2_6 kd_X5_offerSeeds bw_15_1 rfl rfl ⟨Nat.le_of_ble_eq_true rfl, Nat.le_of_ble_eq_true rfl⟩) hK hP (hD _) hA hS (xW_14 g a r5) rfl rfl hl.1 rfl (Nat.le_of_ble_eq_true rfl) dX5_concludeAll_38 ⟨Nat.zero_le _, Nat.zero_le _⟩ (fun H locs hP hS => ?_)
          refine lv_iconst (v := 0) hx hb dX5_concludeAll_41 (by decide) ?_
          refine lv_istore_n (lv' := [(3, .int (0 : Int32)), (0, .ref (a 14)), (1, .int v22_1), (2, .int v22_2)]) hx hb dX5_concludeAll_42 rfl hl (by decide) rfl (fun ls hl => ?_)
          obtain ⟨n43, hs⟩ := loopC_iter hs
          have L43 : ∀ (n : Nat) (v43_3 : Int32) (z43 : XS), iterO (fun v => b_X5_concludeAll_43 v22_2 v.1 v.2) n (v43_3, z43) = some y22 → ∀ (H : Heap) (locs : List Loc), va_P g.1 vwCl (xW g a z43) H → va_S A s.heap H locs → ∀ ls : Array Slot, lv_has ls 4 [(0, .ref (a 14)), (2, .int v22_2), (3, .int v43_3)] → W p l e ({ frames := 5, cells := 0, slots := 0, locals := 118 } : Room) s m args below meth c H locs 0 0 (MQ below (RWv g (xW g a res) A) args s 0 0 A) (F0 m 43 ls []) := by
            intro n
            induction n with
            | zero => intro v43_3 z43 hs; exact (iterO_zero hs).elim
            | succ n ih43 =>
              intro v43_3 z43 hs H locs hP hS ls hl
              obtain ⟨y43, hs, hk43⟩ := iterO_succ hs
              have hs : b_X5_concludeAll_43 v22_2 v43_3 z43 = some y43 := hs
              unfold b_X5_concludeAll_43 at hs
              refine lv_iload_n hx hb dX5_concludeAll_43 rfl (lv_at hl 2 rfl) ?_
              refine lv_aload_n hx hb dX5_concludeAll_44 rfl (lv_at hl 0 rfl) ?_
              refine xg_5_3 hx hb hB hown hK hP dX5_concludeAll_45 ?_
              refine xn_RX5_48 hx hb hB hown hK hP dX5_concludeAll_48 ?_
              refine lv_icmp_ge (tgt := 65) hx hb dX5_concludeAll_51 (by decide) (fun c7 => ?_) (fun c7 => ?_)
              · have hs := ifp c7 hs
                refine lv_aload_n hx hb dX5_concludeAll_65 rfl (lv_at hl 0 rfl) ?_
                refine lv_iload_n hx hb dX5_concludeAll_66 rfl (lv_at hl 1 rfl) ?_
                obtain ⟨r8, e8, hs⟩ := Option.bind_eq_some_iff.mp hs
                refine cV_rwi (As := [.int v22_2]) (rest := []) hC (m_X5_addOffered l g a z43 H.size v22_2 r8 e8) (kv_of hB bw_18_15 bw_18_13 bw_18_14 bw_2_6 kd_X5_addOffered bw_18_12 rfl rfl ⟨Nat.le_of_ble_eq_true rfl, Nat.le_of_ble_eq_true rfl⟩) hK hP (hD _) hA hS (xW_14 g a z43) rfl rfl hl.1 rfl (Nat.le_of_ble_eq_true rfl) dX5_concludeAll_67 ⟨Nat.zero_le _, Nat.zero_le _⟩ (fun H locs hP hS => ?_)
                refine lv_istore_n (lv' := [(1, .int r8.1), (0, .ref (a 14)), (2, .int v22_2), (3, .int v43_3)]) hx hb dX5_concludeAll_70 rfl hl (by decide) rfl (fun ls hl => ?_)
                refine lv_iinc (v := (v22_2 + 1)) (lv' := [(2, .int (v22_2 + 1)), (1, .int r8.1), (0, .ref (a 14)), (3, .int v43_3)]) hx hb dX5_concludeAll_71 hl (k := 2) rfl (by rfl) (by decide) rfl (fun ls hl => ?_)
                refine lv_goto (tgt := 22) hx hb dX5_concludeAll_74 (by decide) ?_
                cases hs
                cases elim_inr hk43
                exact ih22 r8.1 (v22_2 + 1) r8.2 hk22 _ _ hP hS _ (lv_sub hl [2, 1, 0] rfl)
              · have hs := ifn c7 hs
                refine lv_aload_n hx hb dX5_concludeAll_54 rfl (lv_at hl 0 rfl) ?_
                refine lv_iload_n hx hb dX5_concludeAll_55 rfl (lv_at hl 2 rfl) ?_
                obtain ⟨r9, e9, hs⟩ := Option.bind_eq_some_iff.mp hs
                refine cV_rwv (As := [.int v43_3]) (rest := []) hC (m_X5_offerFrom l g a z43 H.size v43_3 r9 e9) (kv_of hB bw_16_9 bw_16_7 bw_16_8 bw_2_6 kd_X5_offerFrom bw_16_6 rfl rfl ⟨Nat.le_of_ble_eq_true rfl, Nat.le_of_ble_eq_true rfl⟩) hK hP (hD _) hA hS (xW_14 g a z43) rfl rfl hl.1 rfl (Nat.le_of_ble_eq_true rfl) dX5_concludeAll_56 ⟨Nat.zero_le _, Nat.zero_le _⟩ (fun H locs hP hS => ?_)
                refine lv_iinc (v := (v43_3 + 1)) (lv' := [(3, .int (v43_3 + 1)), (0, .ref (a 14)), (2, .int v22_2)]) hx hb dX5_concludeAll_59 hl (k := 2) rfl (by rfl) (by decide) rfl (fun ls hl => ?_)
                refine lv_goto (tgt := 43) hx hb dX5_concludeAll_62 (by decide) ?_
                cases hs
                exact ih43 (v43_3 + 1) r9 hk43 _ _ hP hS _ (lv_sub hl [1, 2, 0] rfl)
          exact L43 n43 (0 : Int32) r6 hs _ _ hP hS _ (lv_sub hl [1, 3, 0] rfl)
  exact L22 n22 (1 : Int32) (1 : Int32) r2 hs _ _ hP hS _ (lv_sub hl [2, 1, 0] rfl)
def t_X1_saysIs (st : XS) (p1 : Int32) (p2 : Int32) : Int32 :=
  (if (t_X6_at 2000 (st.1 9) (t_X6_placeOfIs p1 p2)) = (-1 : Int32) then (0 : Int32) else (1 : Int32))
theorem z_X1_saysIs (st : XS) (p1 : Int32) (p2 : Int32) : t_X1_saysIs st p1 p2 = 0 ∨ t_X1_saysIs st p1 p2 = 1 := by
  unfold t_X1_saysIs
  (repeat' split) <;> first | exact Or.inl rfl | exact Or.inr rfl
set_option maxHeartbeats 4000000 in
set_option maxRecDepth 100000 in
theorem m_X1_saysIs (l : Launch) (g : GG) (a : Nat → Nat) (st : XS) (p1 : Int32) (p2 : Int32) : Met l yX1_saysIs (Cond.code yX1_saysIs cX1_saysIs 3 (some .boolean) :: BIG) ({ frames := 1, cells := 0, slots := 0, locals := 21 } : Room) (va_Pc [.ref (a 8), .int p1, .int p2] (ROp g (xW g a st))) (ROi (t_X1_saysIs st p1 p2)) 0 0 (fun _ => False) := by
  obtain ⟨res, hs⟩ : ∃ z, t_X1_saysIs st p1 p2 = z := ⟨_, rfl⟩
  rw [hs]
  refine ro_start (cc := cX1_saysIs) (maxL := 3) (ret := (some .boolean)) (lv := [(0, .ref (a 8)), (1, .int p1), (2, .int p2)]) (by decide) rfl (Nat.le_of_ble_eq_true rfl) rfl ?_
  intro p e s m args below meth c hx hb hml hr hts hown hlk hK H locs hP hS ls hl
  have hB : ∀ w ∈ BIG, w.before args s = true := fun w h => hts w (List.mem_cons_of_mem _ h)
  have hC : CallFix p m c cX1_saysIs 3 s args BIG RX1 := ⟨hx, hb, hml, hown, hB⟩
  unfold t_X1_saysIs at hs
  refine lv_aload_n hx hb dX1_saysIs_0 rfl (lv_at hl 0 rfl) ?_
  refine xg_1_0 hx hb hB hown hK hP dX1_saysIs_1 ?_
  refine lv_iload_n hx hb dX1_saysIs_4 rfl (lv_at hl 1 rfl) ?_
  refine lv_iload_n hx hb dX1_saysIs_5 rfl (lv_at hl 2 rfl) ?_
  refine cN_roi (As := [.int p1, .int p2]) (rest := [.ref (a 9)]) hC (m_X6_placeOfIs l g (xW g a st) p1 p2) (kn_of (host := "NotionRounds") hB bw_15_14 bw_15_13 bw_1_2 kd_X6_placeOfIs (hK.2 _ (List.mem_of_getElem? (i := 33) rfl)) rfl rfl ⟨Nat.le_of_ble_eq_true rfl, Nat.le_of_ble_eq_true rfl⟩) hK hP hP hS rfl hl.1 rfl (Nat.le_of_ble_eq_true rfl) dX1_saysIs_6 ⟨Nat.zero_le _, Nat.zero_le _⟩ (fun H locs hP hS => ?_)
  refine cN_roi (As := [.ref (a 9), .int (t_X6_placeOfIs p1 p2)]) (rest := []) hC (m_X6_at l g (xW g a st) 9 2000 (st.1 9) (a 9) (xW_9 g a st) (by decide) (t_X6_placeOfIs p1 p2)) (kn_of (host := "NotionRounds") hB bw_8_0 bw_7_23 bw_1_2 kd_X6_at (hK.2 _ (List.mem_of_getElem? (i := 27) rfl)) rfl rfl ⟨Nat.le_of_ble_eq_true rfl, Nat.le_of_ble_eq_true rfl⟩) hK hP hP hS rfl hl.1 rfl (Nat.le_of_ble_eq_true rfl) dX1_saysIs_9 ⟨Nat.zero_le _, Nat.zero_le _⟩ (fun H locs hP hS => ?_)
  refine lv_iconst (v := -1) hx hb dX1_saysIs_12 (by decide) ?_
  refine lv_icmp_eq (tgt := 20) hx hb dX1_saysIs_13 (by decide) (fun c1 => ?_) (fun c1 => ?_)
  · have hs := ifp c1 hs
    refine lv_iconst (v := 0) hx hb dX1_saysIs_20 (by decide) ?_
    subst hs
    exact ret_roz hx hb hr (zn_of (Or.inl rfl)) hlk hS dX1_saysIs_21
  · have hs := ifn c1 hs
    refine lv_iconst (v := 1) hx hb dX1_saysIs_16 (by decide) ?_
    refine lv_goto (tgt := 21) hx hb dX1_saysIs_17 (by decide) ?_
    subst hs
    exact ret_roz hx hb hr (zn_of (Or.inr rfl)) hlk hS dX1_saysIs_21
def t_X6_bit (p0 : Int32) : Int32 :=
  (if (t_X6_within p0 (20 : Int32)) = 0 then (0 : Int32) else ((1 : Int32) <<< (p0 &&& 31)))
set_option maxHeartbeats 4000000 in
set_option maxRecDepth 100000 in
theorem m_X6_bit (l : Launch) (g : GG) (w : va_W) (p0 : Int32) : Met l yX6_bit (Cond.code yX6_bit cX6_bit 1 (some .int) :: BIG) ({ frames := 1, cells := 0, slots := 0, locals := 21 } : Room) (va_Pc [.int p0] (ROp g w)) (ROi (t_X6_bit p0)) 0 0 (fun _ => False) := by
  obtain ⟨res, hs⟩ : ∃ z, t_X6_bit p0 = z := ⟨_, rfl⟩
  rw [hs]
  refine ro_start (cc := cX6_bit) (maxL := 1) (ret := (some .int)) (lv := [(0, .int p0)]) (by decide) rfl (Nat.le_of_ble_eq_true rfl) rfl ?_
  intro p e s m args below meth c hx hb hml hr hts hown hlk hK H locs hP hS ls hl
  have hB : ∀ w ∈ BIG, w.before args s = true := fun w h => hts w (List.mem_cons_of_mem _ h)
  have hC : CallFix p m c cX6_bit 1 s args BIG RX6 := ⟨hx, hb, hml, hown, hB⟩
  unfold t_X6_bit at hs
  refine lv_iload_n hx hb dX6_bit_0 rfl (lv_at hl 0 rfl) ?_
  refine lv_bipush (v := 20) hx hb dX6_bit_1 (by decide) ?_
  refine cS_roi (As := [.int p0, .int (20 : Int32)]) (rest := []) hC (m_X6_within l g w p0 (20 : Int32)) (ks_of hB bw_7_6 bw_7_5 bw_1_2 kd_X6_within bw_9_7 rfl rfl ⟨Nat.le_of_ble_eq_true rfl, Nat.le_of_ble_eq_true rfl⟩) hK hP hP hS rfl hl.1 rfl (Nat.le_of_ble_eq_true rfl) dX6_bit_3 ⟨Nat.zero_le _, Nat.zero_le _⟩ (fun H locs hP hS => ?_)
  refine lv_if_eq (tgt := 15) hx hb dX6_bit_6 (by decide) (fun c1 => ?_) (fun c1 => ?_)
  · have hs := ifp c1 hs
    refine lv_iconst (v := 0) hx hb dX6_bit_15 (by decide) ?_
    subst hs
    exact ret_roi hx hb hr hlk hS dX6_bit_16
  · have hs := ifn c1 hs
    refine lv_iconst (v := 1) hx hb dX6_bit_9 (by decide) ?_
    refine lv_iload_n hx hb dX6_bit_10 rfl (lv_at hl 0 rfl) ?_
    refine lv_ishl hx hb dX6_bit_11 ?_
    refine lv_goto (tgt := 16) hx hb dX6_bit_12 (by decide) ?_
    subst hs
    exact ret_roi hx hb hr hlk hS dX6_bit_16
def t_X6_hasBit (p0 : Int32) (p1 : Int32) : Int32 :=
  (if (p0 &&& (t_X6_bit p1)) = 0 then (0 : Int32) else (1 : Int32))
theorem z_X6_hasBit (p0 : Int32) (p1 : Int32) : t_X6_hasBit p0 p1 = 0 ∨ t_X6_hasBit p0 p1 = 1 := by
  unfold t_X6_hasBit
  (repeat' split) <;> first | exact Or.inl rfl | exact Or.inr rfl
set_option maxHeartbeats 4000000 in
set_option maxRecDepth 100000 in
theorem m_X6_hasBit (l : Launch) (g : GG) (w : va_W) (p0 : Int32) (p1 : Int32) : Met l yX6_hasBit (Cond.code yX6_hasBit cX6_hasBit 2 (some .boolean) :: BIG) ({ frames := 2, cells := 0, slots := 0, locals := 41 } : Room) (va_Pc [.int p0, .int p1] (ROp g w)) (ROi (t_X6_hasBit p0 p1)) 0 0 (fun _ => False) := by
  obtain ⟨res, hs⟩ : ∃ z, t_X6_hasBit p0 p1 = z := ⟨_, rfl⟩
  rw [hs]
  refine ro_start (cc := cX6_hasBit) (maxL := 2) (ret := (some .boolean)) (lv := [(0, .int p0), (1, .int p1)]) (by decide) rfl (Nat.le_of_ble_eq_true rfl) rfl ?_
  intro p e s m args below meth c hx hb hml hr hts hown hlk hK H locs hP hS ls hl
  have hB : ∀ w ∈ BIG, w.before args s = true := fun w h => hts w (List.mem_cons_of_mem _ h)
  have hC : CallFix p m c cX6_hasBit 2 s args BIG RX6 := ⟨hx, hb, hml, hown, hB⟩
  unfold t_X6_hasBit at hs
  refine lv_iload_n hx hb dX6_hasBit_0 rfl (lv_at hl 0 rfl) ?_
  refine lv_iload_n hx hb dX6_hasBit_1 rfl (lv_at hl 1 rfl) ?_
  refine cS_roi (As := [.int p1]) (rest := [.int p0]) hC (m_X6_bit l g w p1) (ks_of hB bw_19_5 bw_19_4 bw_1_2 kd_X6_bit bw_19_8 rfl rfl ⟨Nat.le_of_ble_eq_true rfl, Nat.le_of_ble_eq_true rfl⟩) hK hP hP hS rfl hl.1 rfl (Nat.le_of_ble_eq_true rfl) dX6_hasBit_2 ⟨Nat.zero_le _, Nat.zero_le _⟩ (fun H locs hP hS => ?_)
  refine lv_iand hx hb dX6_hasBit_5 ?_
  refine lv_if_eq (tgt := 13) hx hb dX6_hasBit_6 (by decide) (fun c1 => ?_) (fun c1 => ?_)
  · have hs := ifp c1 hs
    refine lv_iconst (v := 0) hx hb dX6_hasBit_13 (by decide) ?_
    subst hs
    exact ret_roz hx hb hr (zn_of (Or.inl rfl)) hlk hS dX6_hasBit_14
  · have hs := ifn c1 hs
    refine lv_iconst (v := 1) hx hb dX6_hasBit_9 (by decide) ?_
    refine lv_goto (tgt := 14) hx hb dX6_hasBit_10 (by decide) ?_
    subst hs
    exact ret_roz hx hb hr (zn_of (Or.inr rfl)) hlk hS dX6_hasBit_14
def t_X1_saysTo (st : XS) (p1 : Int32) (p2 : Int32) (p3 : Int32) : Int32 :=
  (if (t_X6_at 2000 (st.1 9) (t_X6_placeOfTo p1 p2 p3)) = (-1 : Int32) then (0 : Int32) else (1 : Int32))
theorem z_X1_saysTo (st : XS) (p1 : Int32) (p2 : Int32) (p3 : Int32) : t_X1_saysTo st p1 p2 p3 = 0 ∨ t_X1_saysTo st p1 p2 p3 = 1 := by
  unfold t_X1_saysTo
  (repeat' split) <;> first | exact Or.inl rfl | exact Or.inr rfl
set_option maxHeartbeats 4000000 in
set_option maxRecDepth 100000 in
theorem m_X1_saysTo (l : Launch) (g : GG) (a : Nat → Nat) (st : XS) (p1 : Int32) (p2 : Int32) (p3 : Int32) : Met l yX1_saysTo (Cond.code yX1_saysTo cX1_saysTo 4 (some .boolean) :: BIG) ({ frames := 1, cells := 0, slots := 0, locals := 22 } : Room) (va_Pc [.ref (a 8), .int p1, .int p2, .int p3] (ROp g (xW g a st))) (ROi (t_X1_saysTo st p1 p2 p3)) 0 0 (fun _ => False) := by
  obtain ⟨res, hs⟩ : ∃ z, t_X1_saysTo st p1 p2 p3 = z := ⟨_, rfl⟩
  rw [hs]
  refine ro_start (cc := cX1_saysTo) (maxL := 4) (ret := (some .boolean)) (lv := [(0, .ref (a 8)), (1, .int p1), (2, .int p2), (3, .int p3)]) (by decide) rfl (Nat.le_of_ble_eq_true rfl) rfl ?_
  intro p e s m args below meth c hx hb hml hr hts hown hlk hK H locs hP hS ls hl
  have hB : ∀ w ∈ BIG, w.before args s = true := fun w h => hts w (List.mem_cons_of_mem _ h)
  have hC : CallFix p m c cX1_saysTo 4 s args BIG RX1 := ⟨hx, hb, hml, hown, hB⟩
  unfold t_X1_saysTo at hs
  refine lv_aload_n hx hb dX1_saysTo_0 rfl (lv_at hl 0 rfl) ?_
  refine xg_1_0 hx hb hB hown hK hP dX1_saysTo_1 ?_
  refine lv_iload_n hx hb dX1_saysTo_4 rfl (lv_at hl 1 rfl) ?_
  refine lv_iload_n hx hb dX1_saysTo_5 rfl (lv_at hl 2 rfl) ?_
  refine lv_iload_n hx hb dX1_saysTo_6 rfl (lv_at hl 3 rfl) ?_
  refine cN_roi (As := [.int p1, .int p2, .int p3]) (rest := [.ref (a 9)]) hC (m_X6_placeOfTo l g (xW g a st) p1 p2 p3) (kn_of (host := "NotionRounds") hB bw_17_4 bw_17_3 bw_1_2 kd_X6_placeOfTo (hK.2 _ (List.mem_of_getElem? (i := 35) rfl)) rfl rfl ⟨Nat.le_of_ble_eq_true rfl, Nat.le_of_ble_eq_true rfl⟩) hK hP hP hS rfl hl.1 rfl (Nat.le_of_ble_eq_true rfl) dX1_saysTo_7 ⟨Nat.zero_le _, Nat.zero_le _⟩ (fun H locs hP hS => ?_)
  refine cN_roi (As := [.ref (a 9), .int (t_X6_placeOfTo p1 p2 p3)]) (rest := []) hC (m_X6_at l g (xW g a st) 9 2000 (st.1 9) (a 9) (xW_9 g a st) (by decide) (t_X6_placeOfTo p1 p2 p3)) (kn_of (host := "NotionRounds") hB bw_8_0 bw_7_23 bw_1_2 kd_X6_at (hK.2 _ (List.mem_of_getElem? (i := 27) rfl)) rfl rfl ⟨Nat.le_of_ble_eq_true rfl, Nat.le_of_ble_eq_true rfl⟩) hK hP hP hS rfl hl.1 rfl (Nat.le_of_ble_eq_true rfl) dX1_saysTo_10 ⟨Nat.zero_le _, Nat.zero_le _⟩ (fun H locs hP hS => ?_)
  refine lv_iconst (v := -1) hx hb dX1_saysTo_13 (by decide) ?_
  refine lv_icmp_eq (tgt := 21) hx hb dX1_saysTo_14 (by decide) (fun c1 => ?_) (fun c1 => ?_)
  · have hs := ifp c1 hs
    refine lv_iconst (v := 0) hx hb dX1_saysTo_21 (by decide) ?_
    subst hs
    exact ret_roz hx hb hr (zn_of (Or.inl rfl)) hlk hS dX1_saysTo_22
  · have hs := ifn c1 hs
    refine lv_iconst (v := 1) hx hb dX1_saysTo_17 (by decide) ?_
    refine lv_goto (tgt := 22) hx hb dX1_saysTo_18 (by decide) ?_
    subst hs
    exact ret_roz hx hb hr (zn_of (Or.inr rfl)) hlk hS dX1_saysTo_22
def t_X2_partners (st : XS) (p1 : Int32) (p2 : Int32) : Int32 :=
  (if (t_X6_isRole p1) = 0 then (0 : Int32) else (if (t_X6_within p2 (20 : Int32)) = 0 then (0 : Int32) else (t_X6_at 80 (st.1 18) ((p1 * (20 : Int32)) + p2))))
set_option maxHeartbeats 4000000 in
set_option maxRecDepth 100000 in
theorem m_X2_partners (l : Launch) (g : GG) (a : Nat → Nat) (st : XS) (p1 : Int32) (p2 : Int32) : Met l yX2_partners (Cond.code yX2_partners cX2_partners 3 (some .int) :: BIG) ({ frames := 2, cells := 0, slots := 0, locals := 41 } : Room) (va_Pc [.ref (a 16), .int p1, .int p2] (ROp g (xW g a st))) (ROi (t_X2_partners st p1 p2)) 0 0 (fun _ => False) := by
  obtain ⟨res, hs⟩ : ∃ z, t_X2_partners st p1 p2 = z := ⟨_, rfl⟩
  rw [hs]
  refine ro_start (cc := cX2_partners) (maxL := 3) (ret := (some .int)) (lv := [(0, .ref (a 16)), (1, .int p1), (2, .int p2)]) (by decide) rfl (Nat.le_of_ble_eq_true rfl) rfl ?_
  intro p e s m args below meth c hx hb hml hr hts hown hlk hK H locs hP hS ls hl
  have hB : ∀ w ∈ BIG, w.before args s = true := fun w h => hts w (List.mem_cons_of_mem _ h)
  have hC : CallFix p m c cX2_partners 3 s args BIG RX2 := ⟨hx, hb, hml, hown, hB⟩
  unfold t_X2_partners at hs
  refine lv_iload_n hx hb dX2_partners_0 rfl (lv_at hl 1 rfl) ?_
  refine cN_roi (As := [.int p1]) (rest := []) hC (m_X6_isRole l g (xW g a st) p1) (kn_of (host := "NotionRounds") hB bw_9_6 bw_9_5 bw_1_2 kd_X6_isRole (hK.2 _ (List.mem_of_getElem? (i := 41) rfl)) rfl rfl ⟨Nat.le_of_ble_eq_true rfl, Nat.le_of_ble_eq_true rfl⟩) hK hP hP hS rfl hl.1 rfl (Nat.le_of_ble_eq_true rfl) dX2_partners_1 ⟨Nat.zero_le _, Nat.zero_le _⟩ (fun H locs hP hS => ?_)
  refine lv_if_eq (tgt := 32) hx hb dX2_partners_4 (by decide) (fun c1 => ?_) (fun c1 => ?_)
  · have hs := ifp c1 hs
    refine lv_iconst (v := 0) hx hb dX2_partners_32 (by decide) ?_
    subst hs
    exact ret_roi hx hb hr hlk hS dX2_partners_33
  · have hs := ifn c1 hs
    refine lv_iload_n hx hb dX2_partners_7 rfl (lv_at hl 2 rfl) ?_
    refine lv_bipush (v := 20) hx hb dX2_partners_8 (by decide) ?_
    refine cN_roi (As := [.int p2, .int (20 : Int32)]) (rest := []) hC (m_X6_within l g (xW g a st) p2 (20 : Int32)) (kn_of (host := "NotionRounds") hB bw_7_6 bw_7_5 bw_1_2 kd_X6_within (hK.2 _ (List.mem_of_getElem? (i := 42) rfl)) rfl rfl ⟨Nat.le_of_ble_eq_true rfl, Nat.le_of_ble_eq_true rfl⟩) hK hP hP hS rfl hl.1 rfl (Nat.le_of_ble_eq_true rfl) dX2_partners_10 ⟨Nat.zero_le _, Nat.zero_le _⟩ (fun H locs hP hS => ?_)
    refine lv_if_eq (tgt := 32) hx hb dX2_partners_13 (by decide) (fun c2 => ?_) (fun c2 => ?_)
    · have hs := ifp c2 hs
      refine lv_iconst (v := 0) hx hb dX2_partners_32 (by decide) ?_
      subst hs
      exact ret_roi hx hb hr hlk hS dX2_partners_33
    · have hs := ifn c2 hs
      refine lv_aload_n hx hb dX2_partners_16 rfl (lv_at hl 0 rfl) ?_
      refine xg_2_1 hx hb hB hown hK hP dX2_partners_17 ?_
      refine lv_iload_n hx hb dX2_partners_20 rfl (lv_at hl 1 rfl) ?_
      refine lv_bipush (v := 20) hx hb dX2_partners_21 (by decide) ?_
      refine lv_imul hx hb dX2_partners_23 ?_
      refine lv_iload_n hx hb dX2_partners_24 rfl (lv_at hl 2 rfl) ?_
      refine lv_iadd hx hb dX2_partners_25 ?_
      refine cN_roi (As := [.ref (a 18), .int ((p1 * (20 : Int32)) + p2)]) (rest := []) hC (m_X6_at l g (xW g a st) 18 80 (st.1 18) (a 18) (xW_18 g a st) (by decide) ((p1 * (20 : Int32)) + p2)) (kn_of (host := "NotionRounds") hB bw_8_0 bw_7_23 bw_1_2 kd_X6_at (hK.2 _ (List.mem_of_getElem? (i := 43) rfl)) rfl rfl ⟨Nat.le_of_ble_eq_true rfl, Nat.le_of_ble_eq_true rfl⟩) hK hP hP hS rfl hl.1 rfl (Nat.le_of_ble_eq_true rfl) dX2_partners_26 ⟨Nat.zero_le _, Nat.zero_le _⟩ (fun H locs hP hS => ?_)
      refine lv_goto (tgt := 33) hx hb dX2_partners_29 (by decide) ?_
      subst hs
      exact ret_roi hx hb hr hlk hS dX2_partners_33
