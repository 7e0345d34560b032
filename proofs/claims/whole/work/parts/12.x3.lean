noncomputable def b_X4_learn_110 (v110_2 : Int32) (z110 : XS) : Option ((Int32 × XS) ⊕ XS) :=
  (if (z110.1 32 0) ≤ v110_2 then some (Sum.inr (z110)) else (if (t_X0_holdingOf z110 v110_2 (2 : Int32)) = 0 then some (Sum.inl ((v110_2 + 1), z110)) else (Option.bind (f_X4_learnChain z110 v110_2 (t_X0_part z110 v110_2 (1 : Int32)) (t_X0_part z110 v110_2 (2 : Int32)) (t_X0_part z110 v110_2 (3 : Int32))) (fun r8 => some (Sum.inl ((v110_2 + 1), r8))))))
noncomputable def b_X4_learn_84 (v84_2 : Int32) (z84 : XS) : Option ((Int32 × XS) ⊕ XS) :=
  (if (4 : Int32) ≤ v84_2 then (Option.bind ((f_X6_fill 64 (z84.1 7) (-1 : Int32)).map (sA z84 7)) (fun r5 => (Option.map (fun z => Sum.inr (z)) (loopC (fun v => b_X4_learn_110 v.1 v.2) ((0 : Int32), r5))))) else (Option.bind (f_X4_joinThrough z84 v84_2) (fun r9 => some (Sum.inl ((v84_2 + 1), r9)))))
noncomputable def b_X4_learn_36 (v36_2 : Int32) (z36 : XS) : Option ((Int32 × XS) ⊕ XS) :=
  (if (z36.1 32 0) ≤ v36_2 then (Option.map (fun z => Sum.inr (z)) (loopC (fun v => b_X4_learn_84 v.1 v.2) ((0 : Int32), z36))) else (if (t_X0_holdingOf z36 v36_2 (1 : Int32)) = 0 then some (Sum.inl ((v36_2 + 1), z36)) else (Option.bind (some (sA z36 6 (t_X6_put 16 (z36.1 6) (((t_X0_part z36 v36_2 (1 : Int32)) * (4 : Int32)) + (t_X0_part z36 v36_2 (2 : Int32))) (1 : Int32)))) (fun r11 => some (Sum.inl ((v36_2 + 1), r11))))))
noncomputable def b_X4_learn_10 (v10_2 : Int32) (z10 : XS) : Option ((Int32 × XS) ⊕ XS) :=
  (if (4 : Int32) ≤ v10_2 then (Option.map (fun z => Sum.inr (z)) (loopC (fun v => b_X4_learn_36 v.1 v.2) ((0 : Int32), z10))) else (Option.bind (some (sA z10 6 (t_X6_put 16 (z10.1 6) ((v10_2 * (4 : Int32)) + v10_2) (1 : Int32)))) (fun r12 => some (Sum.inl ((v10_2 + 1), r12)))))
noncomputable def f_X4_learn (st : XS) : Option XS :=
  (Option.bind ((f_X6_fill 16 (st.1 6) (0 : Int32)).map (sA st 6)) (fun r1 => (loopC (fun v => b_X4_learn_10 v.1 v.2) ((0 : Int32), r1))))
set_option maxHeartbeats 4000000 in
set_option maxRecDepth 100000 in
theorem m_X4_learn (l : Launch) (g : GG) (a : Nat → Nat) (st : XS) (sz : Nat)  (res : XS) (hs : f_X4_learn st = some res) : Met l yX4_learn (Cond.code yX4_learn cX4_learn 3 none :: BIG) ({ frames := 3, cells := 0, slots := 0, locals := 71 } : Room) (va_Pc [.ref (a 5), .ref (a 3)] (RWp g (xW g a st) sz)) (RWv g (xW g a res) (va_A (xW g a st) sz)) 0 0 (va_A (xW g a st) sz) := by
  refine rw_start (cc := cX4_learn) (maxL := 3) (ret := none) (lv := [(0, .ref (a 5)), (1, .ref (a 3))]) (Qc := fun A => (RWv g (xW g a res) A)) (by decide) rfl (Nat.le_of_ble_eq_true rfl) rfl ?_
  intro p e s m args below meth c hx hb hml hr hts hown hlk hK A hD0 hA H locs hP hS ls hl
  have hD : ∀ st' : XS, va_D A (xW g a st') := fun _ => xW_D hD0
  have hB : ∀ w ∈ BIG, w.before args s = true := fun w h => hts w (List.mem_cons_of_mem _ h)
  have hC : CallFix p m c cX4_learn 3 s args BIG RX4 := ⟨hx, hb, hml, hown, hB⟩
  unfold f_X4_learn at hs
  refine lv_aload_n hx hb dX4_learn_0 rfl (lv_at hl 0 rfl) ?_
  refine xg_4_0 hx hb hB hown hK hP dX4_learn_1 ?_
  refine lv_iconst (v := 0) hx hb dX4_learn_4 (by decide) ?_
  obtain ⟨r1, e1, hs⟩ := Option.bind_eq_some_iff.mp hs
  refine cN_rwv (As := [.ref (a 6), .int (0 : Int32)]) (rest := []) hC (m_X6_fill_6 l g a st r1 H.size (0 : Int32) e1) (kn_of (host := "NotionRounds") hB bw_13_15 bw_13_14 bw_1_2 kd_X6_fill (hK.2 _ (List.mem_of_getElem? (i := 21) rfl)) rfl rfl ⟨Nat.le_of_ble_eq_true rfl, Nat.le_of_ble_eq_true rfl⟩) hK hP (hD _) hA hS rfl hl.1 rfl (Nat.le_of_ble_eq_true rfl) dX4_learn_5 ⟨Nat.zero_le _, Nat.zero_le _⟩ (fun H locs hP hS => ?_)
  refine lv_iconst (v := 0) hx hb dX4_learn_8 (by decide) ?_
  refine lv_istore_n (lv' := [(2, .int (0 : Int32)), (0, .ref (a 5)), (1, .ref (a 3))]) hx hb dX4_learn_9 rfl hl (by decide) rfl (fun ls hl => ?_)
  obtain ⟨n10, hs⟩ := loopC_iter hs
  have L10 : ∀ (n : Nat) (v10_2 : Int32) (z10 : XS), iterO (fun v => b_X4_learn_10 v.1 v.2) n (v10_2, z10) = some res → ∀ (H : Heap) (locs : List Loc), va_P g.1 vwCl (xW g a z10) H → va_S A s.heap H locs → ∀ ls : Array Slot, lv_has ls 3 [(0, .ref (a 5)), (1, .ref (a 3)), (2, .int v10_2)] → W p l e ({ frames := 3, cells := 0, slots := 0, locals := 71 } : Room) s m args below meth c H locs 0 0 (MQ below (RWv g (xW g a res) A) args s 0 0 A) (F0 m 10 ls []) := by
    intro n
    induction n with
    | zero => intro v10_2 z10 hs; exact (iterO_zero hs).elim
    | succ n ih10 =>
      intro v10_2 z10 hs H locs hP hS ls hl
      obtain ⟨y10, hs, hk10⟩ := iterO_succ hs
      have hs : b_X4_learn_10 v10_2 z10 = some y10 := hs
      unfold b_X4_learn_10 at hs
      refine lv_iload_n hx hb dX4_learn_10 rfl (lv_at hl 2 rfl) ?_
      refine lv_iconst (v := 4) hx hb dX4_learn_11 (by decide) ?_
      refine lv_icmp_ge (tgt := 34) hx hb dX4_learn_12 (by decide) (fun c2 => ?_) (fun c2 => ?_)
      · have hs := ifp c2 hs
        refine lv_iconst (v := 0) hx hb dX4_learn_34 (by decide) ?_
        refine lv_istore_n (lv' := [(2, .int (0 : Int32)), (0, .ref (a 5)), (1, .ref (a 3))]) hx hb dX4_learn_35 rfl hl (by decide) rfl (fun ls hl => ?_)
        obtain ⟨w36, hm36, hw36⟩ := Option.map_eq_some_iff.mp hs
        clear hs
        cases hw36
        cases elim_inr hk10
        have hs := hm36
        obtain ⟨n36, hs⟩ := loopC_iter hs
        have L36 : ∀ (n : Nat) (v36_2 : Int32) (z36 : XS), iterO (fun v => b_X4_learn_36 v.1 v.2) n (v36_2, z36) = some res → ∀ (H : Heap) (locs : List Loc), va_P g.1 vwCl (xW g a z36) H → va_S A s.heap H locs → ∀ ls : Array Slot, lv_has ls 3 [(0, .ref (a 5)), (1, .ref (a 3)), (2, .int v36_2)] → W p l e ({ frames := 3, cells := 0, slots := 0, locals := 71 } : Room) s m args below meth c H locs 0 0 (MQ below (RWv g (xW g a res) A) args s 0 0 A) (F0 m 36 ls []) := by
          intro n
          induction n with
          | zero => intro v36_2 z36 hs; exact (iterO_zero hs).elim
          | succ n ih36 =>
            intro v36_2 z36 hs H locs hP hS ls hl
            obtain ⟨y36, hs, hk36⟩ := iterO_succ hs
            have hs : b_X4_learn_36 v36_2 z36 = some y36 := hs
            unfold b_X4_learn_36 at hs
            refine lv_iload_n hx hb dX4_learn_36 rfl (lv_at hl 2 rfl) ?_
            refine lv_aload_n hx hb dX4_learn_37 rfl (lv_at hl 1 rfl) ?_
            refine xn_RX4_26 hx hb hB hown hK hP dX4_learn_38 ?_
            refine lv_icmp_ge (tgt := 82) hx hb dX4_learn_41 (by decide) (fun c3 => ?_) (fun c3 => ?_)
            · have hs := ifp c3 hs
              refine lv_iconst (v := 0) hx hb dX4_learn_82 (by decide) ?_
              refine lv_istore_n (lv' := [(2, .int (0 : Int32)), (0, .ref (a 5)), (1, .ref (a 3))]) hx hb dX4_learn_83 rfl hl (by decide) rfl (fun ls hl => ?_)
              obtain ⟨w84, hm84, hw84⟩ := Option.map_eq_some_iff.mp hs
              clear hs
              cases hw84
              cases elim_inr hk36
              have hs := hm84
              obtain ⟨n84, hs⟩ := loopC_iter hs
              have L84 : ∀ (n : Nat) (v84_2 : Int32) (z84 : XS), iterO (fun v => b_X4_learn_84 v.1 v.2) n (v84_2, z84) = some res → ∀ (H : Heap) (locs : List Loc), va_P g.1 vwCl (xW g a z84) H → va_S A s.heap H locs → ∀ ls : Array Slot, lv_has ls 3 [(0, .ref (a 5)), (1, .ref (a 3)), (2, .int v84_2)] → W p l e ({ frames := 3, cells := 0, slots := 0, locals := 71 } : Room) s m args below meth c H locs 0 0 (MQ below (RWv g (xW g a res) A) args s 0 0 A) (F0 m 84 ls []) := by
                intro n
                induction n with
                | zero => intro v84_2 z84 hs; exact (iterO_zero hs).elim
                | succ n ih84 =>
                  intro v84_2 z84 hs H locs hP hS ls hl
                  obtain ⟨y84, hs, hk84⟩ := iterO_succ hs
                  have hs : b_X4_learn_84 v84_2 z84 = some y84 := hs
                  unfold b_X4_learn_84 at hs
                  refine lv_iload_n hx hb dX4_learn_84 rfl (lv_at hl 2 rfl) ?_
                  refine lv_iconst (v := 4) hx hb dX4_learn_85 (by decide) ?_
                  refine lv_icmp_ge (tgt := 100) hx hb dX4_learn_86 (by decide) (fun c4 => ?_) (fun c4 => ?_)
                  · have hs := ifp c4 hs
                    refine lv_aload_n hx hb dX4_learn_100 rfl (lv_at hl 0 rfl) ?_
                    refine xg_4_1 hx hb hB hown hK hP dX4_learn_101 ?_
                    refine lv_iconst (v := -1) hx hb dX4_learn_104 (by decide) ?_
                    obtain ⟨r5, e5, hs⟩ := Option.bind_eq_some_iff.mp hs
                    refine cN_rwv (As := [.ref (a 7), .int (-1 : Int32)]) (rest := []) hC (m_X6_fill_7 l g a z84 r5 H.size (-1 : Int32) e5) (kn_of (host := "NotionRounds") hB bw_13_15 bw_13_14 bw_1_2 kd_X6_fill (hK.2 _ (List.mem_of_getElem? (i := 21) rfl)) rfl rfl ⟨Nat.le_of_ble_eq_true rfl, Nat.le_of_ble_eq_true rfl⟩) hK hP (hD _) hA hS rfl hl.1 rfl (Nat.le_of_ble_eq_true rfl) dX4_learn_105 ⟨Nat.zero_le _, Nat.zero_le _⟩ (fun H locs hP hS => ?_)
                    refine lv_iconst (v := 0) hx hb dX4_learn_108 (by decide) ?_
                    refine lv_istore_n (lv' := [(2, .int (0 : Int32)), (0, .ref (a 5)), (1, .ref (a 3))]) hx hb dX4_learn_109 rfl hl (by decide) rfl (fun ls hl => ?_)
                    obtain ⟨w110, hm110, hw110⟩ := Option.map_eq_some_iff.mp hs
                    clear hs
                    cases hw110
                    cases elim_inr hk84
                    have hs := hm110
                    obtain ⟨n110, hs⟩ := loopC_iter hs
                    have L110 : ∀ (n : Nat) (v110_2 : Int32) (z110 : XS), iterO (fun v => b_X4_learn_110 v.1 v.2) n (v110_2, z110) = some res → ∀ (H : Heap) (locs : List Loc), va_P g.1 vwCl (xW g a z110) H → va_S A s.heap H locs → ∀ ls : Array Slot, lv_has ls 3 [(0, .ref (a 5)), (1, .ref (a 3)), (2, .int v110_2)] → W p l e ({ frames := 3, cells := 0, slots := 0, locals := 71 } : Room) s m args below meth c H locs 0 0 (MQ below (RWv g (xW g a res) A) args s 0 0 A) (F0 m 110 ls []) := by
                      intro n
                      induction n with
                      | zero => intro v110_2 z110 hs; exact (iterO_zero hs).elim
                      | succ n ih110 =>
                        intro v110_2 z110 hs H locs hP hS ls hl
                        obtain ⟨y110, hs, hk110⟩ := iterO_succ hs
                        have hs : b_X4_learn_110 v110_2 z110 = some y110 := hs
                        unfold b_X4_learn_110 at hs
                        refine lv_iload_n hx hb dX4_learn_110 rfl (lv_at hl 2 rfl) ?_
                        refine lv_aload_n hx hb dX4_learn_111 rfl (lv_at hl 1 rfl) ?_
                        refine xn_RX4_26 hx hb hB hown hK hP dX4_learn_112 ?_
                        refine lv_icmp_ge (tgt := 156) hx hb dX4_learn_115 (by decide) (fun c6 => ?_) (fun c6 => ?_)
                        · have hs := ifp c6 hs
                          cases hs
                          cases elim_inr hk110
                          exact ret_rwv hx hb hr hlk hP hS dX4_learn_156
                        · have hs := ifn c6 hs
                          refine lv_aload_n hx hb dX4_learn_118 rfl (lv_at hl 1 rfl) ?_
                          refine lv_iload_n hx hb dX4_learn_119 rfl (lv_at hl 2 rfl) ?_
                          refine lv_iconst (v := 2) hx hb dX4_learn_120 (by decide) ?_
                          refine cV_roi (As := [.int v110_2, .int (2 : Int32)]) (rest := []) hC (m_X0_holdingOf l g a z110 v110_2 (2 : Int32)) (kv_of hB bw_13_23 bw_13_21 bw_13_22 bw_1_18 kd_X0_holdingOf bw_13_20 rfl rfl ⟨Nat.le_of_ble_eq_true rfl, Nat.le_of_ble_eq_true rfl⟩) hK hP hP hS (xW_3 g a z110) rfl rfl hl.1 rfl (Nat.le_of_ble_eq_true rfl) dX4_learn_121 ⟨Nat.zero_le _, Nat.zero_le _⟩ (fun H locs hP hS => ?_)
                          refine lv_if_eq (tgt := 150) hx hb dX4_learn_124 (by decide) (fun c7 => ?_) (fun c7 => ?_)
                          · have hs := ifp c7 hs
                            refine lv_iinc (v := (v110_2 + 1)) (lv' := [(2, .int (v110_2 + 1)), (0, .ref (a 5)), (1, .ref (a 3))]) hx hb dX4_learn_150 hl (k := 2) rfl (by rfl) (by decide) rfl (fun ls hl => ?_)
                            refine lv_goto (tgt := 110) hx hb dX4_learn_153 (by decide) ?_
                            cases hs
                            exact ih110 (v110_2 + 1) z110 hk110 _ _ hP hS _ (lv_sub hl [1, 2, 0] rfl)
                          · have hs := ifn c7 hs
                            refine lv_aload_n hx hb dX4_learn_127 rfl (lv_at hl 0 rfl) ?_
                            refine lv_iload_n hx hb dX4_learn_128 rfl (lv_at hl 2 rfl) ?_
                            refine lv_aload_n hx hb dX4_learn_129 rfl (lv_at hl 1 rfl) ?_
                            refine lv_iload_n hx hb dX4_learn_130 rfl (lv_at hl 2 rfl) ?_
                            refine lv_iconst (v := 1) hx hb dX4_learn_131 (by decide) ?_
                            refine cV_roi (As := [.int v110_2, .int (1 : Int32)]) (rest := [.int v110_2, .ref (a 5)]) hC (m_X0_part l g a z110 v110_2 (1 : Int32)) (kv_of hB bw_11_20 bw_11_18 bw_11_19 bw_1_18 kd_X0_part bw_14_0 rfl rfl ⟨Nat.le_of_ble_eq_true rfl, Nat.le_of_ble_eq_true rfl⟩) hK hP hP hS (xW_3 g a z110) rfl rfl hl.1 rfl (Nat.le_of_ble_eq_true rfl) dX4_learn_132 ⟨Nat.zero_le _, Nat.zero_le _⟩ (fun H locs hP hS => ?_)
                            refine lv_aload_n hx hb dX4_learn_135 rfl (lv_at hl 1 rfl) ?_
                            refine lv_iload_n hx hb dX4_learn_136 rfl (lv_at hl 2 rfl) ?_
                            refine lv_iconst (v := 2) hx hb dX4_learn_137 (by decide) ?_
                            refine cV_roi (As := [.int v110_2, .int (2 : Int32)]) (rest := [.int (t_X0_part z110 v110_2 (1 : Int32)), .int v110_2, .ref (a 5)]) hC (m_X0_part l g a z110 v110_2 (2 : Int32)) (kv_of hB bw_11_20 bw_11_18 bw_11_19 bw_1_18 kd_X0_part bw_14_0 rfl rfl ⟨Nat.le_of_ble_eq_true rfl, Nat.le_of_ble_eq_true rfl⟩) hK hP hP hS (xW_3 g a z110) rfl rfl hl.1 rfl (Nat.le_of_ble_eq_true rfl) dX4_learn_138 ⟨Nat.zero_le _, Nat.zero_le _⟩ (fun H locs hP hS => ?_)
                            refine lv_aload_n hx hb dX4_learn_141 rfl (lv_at hl 1 rfl) ?_
                            refine lv_iload_n hx hb dX4_learn_142 rfl (lv_at hl 2 rfl) ?_
                            refine lv_iconst (v := 3) hx hb dX4_learn_143 (by decide) ?_
                            refine cV_roi (As := [.int v110_2, .int (3 : Int32)]) (rest := [.int (t_X0_part z110 v110_2 (2 : Int32)), .int (t_X0_part z110 v110_2 (1 : Int32)), .int v110_2, .ref (a 5)]) hC (m_X0_part l g a z110 v110_2 (3 : Int32)) (kv_of hB bw_11_20 bw_11_18 bw_11_19 bw_1_18 kd_X0_part bw_14_0 rfl rfl ⟨Nat.le_of_ble_eq_true rfl, Nat.le_of_ble_eq_true rfl⟩) hK hP hP hS (xW_3 g a z110) rfl rfl hl.1 rfl (Nat.le_of_ble_eq_true rfl) dX4_learn_144 ⟨Nat.zero_le _, Nat.zero_le _⟩ (fun H locs hP hS => ?_)
                            obtain ⟨r8, e8, hs⟩ := Option.bind_eq_some_iff.mp hs
                            refine cV_rwv (As := [.int v110_2, .int (t_X0_part z110 v110_2 (1 : Int32)), .int (t_X0_part z110 v110_2 (2 : Int32)), .int (t_X0_part z110 v110_2 (3 : Int32))]) (rest := []) hC (m_X4_learnChain l g a z110 H.size v110_2 (t_X0_part z110 v110_2 (1 : Int32)) (t_X0_part z110 v110_2 (2 : Int32)) (t_X0_part z110 v110_2 (3 : Int32)) r8 e8) (kv_of hB bw_14_12 bw_14_10 bw_14_11 bw_1_22 kd_X4_learnChain bw_14_9 rfl rfl ⟨Nat.le_of_ble_eq_true rfl, Nat.le_of_ble_eq_true rfl⟩) hK hP (hD _) hA hS (xW_5 g a z110) rfl rfl hl.1 rfl (Nat.le_of_ble_eq_true rfl) dX4_learn_147 ⟨Nat.zero_le _, Nat.zero_le _⟩ (fun H locs hP hS => ?_)
                            refine lv_iinc (v := (v110_2 + 1)) (lv' := [(2, .int (v110_2 + 1)), (0, .ref (a 5)), (1, .ref (a 3))]) hx hb dX4_learn_150 hl (k := 2) rfl (by rfl) (by decide) rfl (fun ls hl => ?_)
                            refine lv_goto (tgt := 110) hx hb dX4_learn_153 (by decide) ?_
                            cases hs
                            exact ih110 (v110_2 + 1) r8 hk110 _ _ hP hS _ (lv_sub hl [1, 2, 0] rfl)
                    exact L110 n110 (0 : Int32) r5 hs _ _ hP hS _ (lv_sub hl [1, 2, 0] rfl)
                  · have hs := ifn c4 hs
                    refine lv_aload_n hx hb dX4_learn_89 rfl (lv_at hl 0 rfl) ?_
                    refine lv_iload_n hx hb dX4_learn_90 rfl (lv_at hl 2 rfl) ?_
                    obtain ⟨r9, e9, hs⟩ := Option.bind_eq_some_iff.mp hs
                    refine cV_rwv (As := [.int v84_2]) (rest := []) hC (m_X4_joinThrough l g a z84 H.size v84_2 r9 e9) (kv_of hB bw_14_4 bw_14_2 bw_14_3 bw_1_22 kd_X4_joinThrough bw_14_1 rfl rfl ⟨Nat.le_of_ble_eq_true rfl, Nat.le_of_ble_eq_true rfl⟩) hK hP (hD _) hA hS (xW_5 g a z84) rfl rfl hl.1 rfl (Nat.le_of_ble_eq_true rfl) dX4_learn_91 ⟨Nat.zero_le _, Nat.zero_le _⟩ (fun H locs hP hS => ?_)
                    refine lv_iinc (v := (v84_2 + 1)) (lv' := [(2, .int (v84_2 + 1)), (0, .ref (a 5)), (1, .ref (a 3))]) hx hb dX4_learn_94 hl (k := 2) rfl (by rfl) (by decide) rfl (fun ls hl => ?_)
                    refine lv_goto (tgt := 84) hx hb dX4_learn_97 (by decide) ?_
                    cases hs
                    exact ih84 (v84_2 + 1) r9 hk84 _ _ hP hS _ (lv_sub hl [1, 2, 0] rfl)
              exact L84 n84 (0 : Int32) z36 hs _ _ hP hS _ (lv_sub hl [1, 2, 0] rfl)
            · have hs := ifn c3 hs
              refine lv_aload_n hx hb dX4_learn_44 rfl (lv_at hl 1 rfl) ?_
              refine lv_iload_n hx hb dX4_learn_45 rfl (lv_at hl 2 rfl) ?_
              refine lv_iconst (v := 1) hx hb dX4_learn_46 (by decide) ?_
              refine cV_roi (As := [.int v36_2, .int (1 : Int32)]) (rest := []) hC (m_X0_holdingOf l g a z36 v36_2 (1 : Int32)) (kv_of hB bw_13_23 bw_13_21 bw_13_22 bw_1_18 kd_X0_holdingOf bw_13_20 rfl rfl ⟨Nat.le_of_ble_eq_true rfl, Nat.le_of_ble_eq_true rfl⟩) hK hP hP hS (xW_3 g a z36) rfl rfl hl.1 rfl (Nat.le_of_ble_eq_true rfl) dX4_learn_47 ⟨Nat.zero_le _, Nat.zero_le _⟩ (fun H locs hP hS => ?_)
              refine lv_if_eq (tgt := 76) hx hb dX4_learn_50 (by decide) (fun c10 => ?_) (fun c10 => ?_)
              · have hs := ifp c10 hs
                refine lv_iinc (v := (v36_2 + 1)) (lv' := [(2, .int (v36_2 + 1)), (0, .ref (a 5)), (1, .ref (a 3))]) hx hb dX4_learn_76 hl (k := 2) rfl (by rfl) (by decide) rfl (fun ls hl => ?_)
                refine lv_goto (tgt := 36) hx hb dX4_learn_79 (by decide) ?_
                cases hs
                exact ih36 (v36_2 + 1) z36 hk36 _ _ hP hS _ (lv_sub hl [1, 2, 0] rfl)
              · have hs := ifn c10 hs
                refine lv_aload_n hx hb dX4_learn_53 rfl (lv_at hl 0 rfl) ?_
                refine xg_4_0 hx hb hB hown hK hP dX4_learn_54 ?_
                refine lv_aload_n hx hb dX4_learn_57 rfl (lv_at hl 1 rfl) ?_
                refine lv_iload_n hx hb dX4_learn_58 rfl (lv_at hl 2 rfl) ?_
                refine lv_iconst (v := 1) hx hb dX4_learn_59 (by decide) ?_
                refine cV_roi (As := [.int v36_2, .int (1 : Int32)]) (rest := [.ref (a 6)]) hC (m_X0_part l g a z36 v36_2 (1 : Int32)) (kv_of hB bw_11_20 bw_11_18 bw_11_19 bw_1_18 kd_X0_part bw_14_0 rfl rfl ⟨Nat.le_of_ble_eq_true rfl, Nat.le_of_ble_eq_true rfl⟩) hK hP hP hS (xW_3 g a z36) rfl rfl hl.1 rfl (Nat.le_of_ble_eq_true rfl) dX4_learn_60 ⟨Nat.zero_le _, Nat.zero_le _⟩ (fun H locs hP hS => ?_)
                refine lv_iconst (v := 4) hx hb dX4_learn_63 (by decide) ?_
                refine lv_imul hx hb dX4_learn_64 ?_
                refine lv_aload_n hx hb dX4_learn_65 rfl (lv_at hl 1 rfl) ?_
                refine lv_iload_n hx hb dX4_learn_66 rfl (lv_at hl 2 rfl) ?_
                refine lv_iconst (v := 2) hx hb dX4_learn_67 (by decide) ?_
                refine cV_roi (As := [.int v36_2, .int (2 : Int32)]) (rest := [.int ((t_X0_part z36 v36_2 (1 : Int32)) * (4 : Int32)), .ref (a 6)]) hC (m_X0_part l g a z36 v36_2 (2 : Int32)) (kv_of hB bw_11_20 bw_11_18 bw_11_19 bw_1_18 kd_X0_part bw_14_0 rfl rfl ⟨Nat.le_of_ble_eq_true rfl, Nat.le_of_ble_eq_true rfl⟩) hK hP hP hS (xW_3 g a z36) rfl rfl hl.1 rfl (Nat.le_of_ble_eq_true rfl) dX4_learn_68 ⟨Nat.zero_le _, Nat.zero_le _⟩ (fun H locs hP hS => ?_)
                refine lv_iadd hx hb dX4_learn_71 ?_
                refine lv_iconst (v := 1) hx hb dX4_learn_72 (by decide) ?_
                obtain ⟨r11, e11, hs⟩ := Option.bind_eq_some_iff.mp hs
                have e11 := Option.some.inj e11
                refine cN_rwv (As := [.ref (a 6), .int (((t_X0_part z36 v36_2 (1 : Int32)) * (4 : Int32)) + (t_X0_part z36 v36_2 (2 : Int32))), .int (1 : Int32)]) (rest := []) hC (m_X6_put_6 l g a z36 r11 H.size (((t_X0_part z36 v36_2 (1 : Int32)) * (4 : Int32)) + (t_X0_part z36 v36_2 (2 : Int32))) (1 : Int32) e11) (kn_of (host := "NotionRounds") hB bw_3_3 bw_3_2 bw_1_2 kd_X6_put (hK.2 _ (List.mem_of_getElem? (i := 22) rfl)) rfl rfl ⟨Nat.le_of_ble_eq_true rfl, Nat.le_of_ble_eq_true rfl⟩) hK hP (hD _) hA hS rfl hl.1 rfl (Nat.le_of_ble_eq_true rfl) dX4_learn_73 ⟨Nat.zero_le _, Nat.zero_le _⟩ (fun H locs hP hS => ?_)
                refine lv_iinc (v := (v36_2 + 1)) (lv' := [(2, .int (v36_2 + 1)), (0, .ref (a 5)), (1, .ref (a 3))]) hx hb dX4_learn_76 hl (k := 2) rfl (by rfl) (by decide) rfl (fun ls hl => ?_)
                refine lv_goto (tgt := 36) hx hb dX4_learn_79 (by decide) ?_
                cases hs
                exact ih36 (v36_2 + 1) r11 hk36 _ _ hP hS _ (lv_sub hl [1, 2, 0] rfl)
        exact L36 n36 (0 : Int32) z10 hs _ _ hP hS _ (lv_sub hl [1, 2, 0] rfl)
      · have hs := ifn c2 hs
        refine lv_aload_n hx hb dX4_learn_15 rfl (lv_at hl 0 rfl) ?_
        refine xg_4_0 hx hb hB hown hK hP dX4_learn_16 ?_
        refine lv_iload_n hx hb dX4_learn_19 rfl (lv_at hl 2 rfl) ?_
        refine lv_iconst (v := 4) hx hb dX4_learn_20 (by decide) ?_
        refine lv_imul hx hb dX4_learn_21 ?_
        refine lv_iload_n hx hb dX4_learn_22 rfl (lv_at hl 2 rfl) ?_
        refine lv_iadd hx hb dX4_learn_23 ?_
        refine lv_iconst (v := 1) hx hb dX4_learn_24 (by decide) ?_
        obtain ⟨r12, e12, hs⟩ := Option.bind_eq_some_iff.mp hs
        have e12 := Option.some.inj e12
        refine cN_rwv (As := [.ref (a 6), .int ((v10_2 * (4 : Int32)) + v10_2), .int (1 : Int32)]) (rest := []) hC (m_X6_put_6 l g a z10 r12 H.size ((v10_2 * (4 : Int32)) + v10_2) (1 : Int32) e12) (kn_of (host := "NotionRounds") hB bw_3_3 bw_3_2 bw_1_2 kd_X6_put (hK.2 _ (List.mem_of_getElem? (i := 22) rfl)) rfl rfl ⟨Nat.le_of_ble_eq_true rfl, Nat.le_of_ble_eq_true rfl⟩) hK hP (hD _) hA hS rfl hl.1 rfl (Nat.le_of_ble_eq_true rfl) dX4_learn_25 ⟨Nat.zero_le _, Nat.zero_le _⟩ (fun H locs hP hS => ?_)
        refine lv_iinc (v := (v10_2 + 1)) (lv' := [(2, .int (v10_2 + 1)), (0, .ref (a 5)), (1, .ref (a 3))]) hx hb dX4_learn_28 hl (k := 2) rfl (by rfl) (by decide) rfl (fun ls hl => ?_)
        refine lv_goto (tgt := 10) hx hb dX4_learn_31 (by decide) ?_
        cases hs
        exact ih10 (v10_2 + 1) r12 hk10 _ _ hP hS _ (lv_sub hl [1, 2, 0] rfl)
  exact L10 n10 (0 : Int32) r1 hs _ _ hP hS _ (lv_sub hl [1, 2, 0] rfl)
noncomputable def b_X5_clearOffers_2 (v2_1 : Int32) (z2 : XS) : Option ((Int32 × XS) ⊕ XS) :=
  (if (2000 : Int32) ≤ v2_1 then some (Sum.inr (z2)) else (Option.bind ((wrL 2000 (z2.2 15) v2_1 (4611686018427387904 : Int64)).map (sL z2 15)) (fun r2 => some (Sum.inl ((v2_1 + 1), r2)))))
noncomputable def f_X5_clearOffers (st : XS) : Option XS :=
  (loopC (fun v => b_X5_clearOffers_2 v.1 v.2) ((0 : Int32), st))
set_option maxHeartbeats 4000000 in
set_option maxRecDepth 100000 in
theorem m_X5_clearOffers (l : Launch) (g : GG) (a : Nat → Nat) (st : XS) (sz : Nat)  (res : XS) (hs : f_X5_clearOffers st = some res) : Met l yX5_clearOffers (Cond.code yX5_clearOffers cX5_clearOffers 2 none :: BIG) ({ frames := 0, cells := 0, slots := 0, locals := 0 } : Room) (va_Pc [.ref (a 14)] (RWp g (xW g a st) sz)) (RWv g (xW g a res) (va_A (xW g a st) sz)) 0 0 (va_A (xW g a st) sz) := by
  refine rw_start (cc := cX5_clearOffers) (maxL := 2) (ret := none) (lv := [(0, .ref (a 14))]) (Qc := fun A => (RWv g (xW g a res) A)) (by decide) rfl (Nat.le_of_ble_eq_true rfl) rfl ?_
  intro p e s m args below meth c hx hb hml hr hts hown hlk hK A hD0 hA H locs hP hS ls hl
  have hD : ∀ st' : XS, va_D A (xW g a st') := fun _ => xW_D hD0
  have hB : ∀ w ∈ BIG, w.before args s = true := fun w h => hts w (List.mem_cons_of_mem _ h)
  have hC : CallFix p m c cX5_clearOffers 2 s args BIG RX5 := ⟨hx, hb, hml, hown, hB⟩
  unfold f_X5_clearOffers at hs
  refine lv_iconst (v := 0) hx hb dX5_clearOffers_0 (by decide) ?_
  refine lv_istore_n (lv' := [(1, .int (0 : Int32)), (0, .ref (a 14))]) hx hb dX5_clearOffers_1 rfl hl (by decide) rfl (fun ls hl => ?_)
  obtain ⟨n2, hs⟩ := loopC_iter hs
  have L2 : ∀ (n : Nat) (v2_1 : Int32) (z2 : XS), iterO (fun v => b_X5_clearOffers_2 v.1 v.2) n (v2_1, z2) = some res → ∀ (H : Heap) (locs : List Loc), va_P g.1 vwCl (xW g a z2) H → va_S A s.heap H locs → ∀ ls : Array Slot, lv_has ls 2 [(0, .ref (a 14)), (1, .int v2_1)] → W p l e ({ frames := 0, cells := 0, slots := 0, locals := 0 } : Room) s m args below meth c H locs 0 0 (MQ below (RWv g (xW g a res) A) args s 0 0 A) (F0 m 2 ls []) := by
    intro n
    induction n with
    | zero => intro v2_1 z2 hs; exact (iterO_zero hs).elim
    | succ n ih2 =>
      intro v2_1 z2 hs H locs hP hS ls hl
      obtain ⟨y2, hs, hk2⟩ := iterO_succ hs
      have hs : b_X5_clearOffers_2 v2_1 z2 = some y2 := hs
      unfold b_X5_clearOffers_2 at hs
      refine lv_iload_n hx hb dX5_clearOffers_2 rfl (lv_at hl 1 rfl) ?_
      refine lv_aload_n hx hb dX5_clearOffers_3 rfl (lv_at hl 0 rfl) ?_
      refine xg_5_4 hx hb hB hown hK hP dX5_clearOffers_4 ?_
      refine len_J (v := 2000) hx hb hK hP (xW_15 g a z2) (by decide) dX5_clearOffers_7 ?_
      refine lv_icmp_ge (tgt := 26) hx hb dX5_clearOffers_8 (by decide) (fun c1 => ?_) (fun c1 => ?_)
      · have hs := ifp c1 hs
        cases hs
        cases elim_inr hk2
        exact ret_rwv hx hb hr hlk hP hS dX5_clearOffers_26
      · have hs := ifn c1 hs
        refine lv_aload_n hx hb dX5_clearOffers_11 rfl (lv_at hl 0 rfl) ?_
        refine xg_5_4 hx hb hB hown hK hP dX5_clearOffers_12 ?_
        refine lv_iload_n hx hb dX5_clearOffers_15 rfl (lv_at hl 1 rfl) ?_
        refine lv_ldc2 hx hb hown (hB _ bw_15_0) dX5_clearOffers_16 ?_
        obtain ⟨r2, e2, hs⟩ := Option.bind_eq_some_iff.mp hs
        refine xsl_15 hx hb hK hP hD hS e2 dX5_clearOffers_19 (fun H locs hP hS => ?_)
        refine lv_iinc (v := (v2_1 + 1)) (lv' := [(1, .int (v2_1 + 1)), (0, .ref (a 14))]) hx hb dX5_clearOffers_20 hl (k := 1) rfl (by rfl) (by decide) rfl (fun ls hl => ?_)
        refine lv_goto (tgt := 2) hx hb dX5_clearOffers_23 (by decide) ?_
        cases hs
        exact ih2 (v2_1 + 1) r2 hk2 _ _ hP hS _ (lv_sub hl [1, 0] rfl)
  exact L2 n2 (0 : Int32) st hs _ _ hP hS _ (lv_sub hl [1, 0] rfl)
def t_X3_seed (st : XS) (p1 : Int32) : Int32 :=
  (if p1 = 0 then (1 : Int32) else (if (t_X3_sort st p1) = (2 : Int32) then (1 : Int32) else (0 : Int32)))
theorem z_X3_seed (st : XS) (p1 : Int32) : t_X3_seed st p1 = 0 ∨ t_X3_seed st p1 = 1 := by
  unfold t_X3_seed
  (repeat' split) <;> first | exact Or.inl rfl | exact Or.inr rfl
set_option maxHeartbeats 4000000 in
set_option maxRecDepth 100000 in
theorem m_X3_seed (l : Launch) (g : GG) (a : Nat → Nat) (st : XS) (p1 : Int32) : Met l yX3_seed (Cond.code yX3_seed cX3_seed 2 (some .boolean) :: BIG) ({ frames := 3, cells := 0, slots := 0, locals := 64 } : Room) (va_Pc [.ref (a 1), .int p1] (ROp g (xW g a st))) (ROi (t_X3_seed st p1)) 0 0 (fun _ => False) := by
  obtain ⟨res, hs⟩ : ∃ z, t_X3_seed st p1 = z := ⟨_, rfl⟩
  rw [hs]
  refine ro_start (cc := cX3_seed) (maxL := 2) (ret := (some .boolean)) (lv := [(0, .ref (a 1)), (1, .int p1)]) (by decide) rfl (Nat.le_of_ble_eq_true rfl) rfl ?_
  intro p e s m args below meth c hx hb hml hr hts hown hlk hK H locs hP hS ls hl
  have hB : ∀ w ∈ BIG, w.before args s = true := fun w h => hts w (List.mem_cons_of_mem _ h)
  have hC : CallFix p m c cX3_seed 2 s args BIG RX3 := ⟨hx, hb, hml, hown, hB⟩
  unfold t_X3_seed at hs
  refine lv_iload_n hx hb dX3_seed_0 rfl (lv_at hl 1 rfl) ?_
  refine lv_if_eq (tgt := 13) hx hb dX3_seed_1 (by decide) (fun c1 => ?_) (fun c1 => ?_)
  · have hs := ifp c1 hs
    refine lv_iconst (v := 1) hx hb dX3_seed_13 (by decide) ?_
    refine lv_goto (tgt := 18) hx hb dX3_seed_14 (by decide) ?_
    subst hs
    exact ret_roz hx hb hr (zn_of (Or.inr rfl)) hlk hS dX3_seed_18
  · have hs := ifn c1 hs
    refine lv_aload_n hx hb dX3_seed_4 rfl (lv_at hl 0 rfl) ?_
    refine lv_iload_n hx hb dX3_seed_5 rfl (lv_at hl 1 rfl) ?_
    refine cV_roi (As := [.int p1]) (rest := []) hC (m_X3_sort l g a st p1) (kv_of hB bw_7_18 bw_7_16 bw_7_17 bw_1_14 kd_X3_sort bw_7_15 rfl rfl ⟨Nat.le_of_ble_eq_true rfl, Nat.le_of_ble_eq_true rfl⟩) hK hP hP hS (xW_1 g a st) rfl rfl hl.1 rfl (Nat.le_of_ble_eq_true rfl) dX3_seed_6 ⟨Nat.zero_le _, Nat.zero_le _⟩ (fun H locs hP hS => ?_)
    refine lv_iconst (v := 2) hx hb dX3_seed_9 (by decide) ?_
    refine lv_icmp_ne (tgt := 17) hx hb dX3_seed_10 (by decide) (fun c2 => ?_) (fun c2 => ?_)
    · have hs := ifn c2 hs
      refine lv_iconst (v := 0) hx hb dX3_seed_17 (by decide) ?_
      subst hs
      exact ret_roz hx hb hr (zn_of (Or.inl rfl)) hlk hS dX3_seed_18
    · have hs := ifp c2 hs
      refine lv_iconst (v := 1) hx hb dX3_seed_13 (by decide) ?_
      refine lv_goto (tgt := 18) hx hb dX3_seed_14 (by decide) ?_
      subst hs
      exact ret_roz hx hb hr (zn_of (Or.inr rfl)) hlk hS dX3_seed_18
def t_X6_placeOfIs (p0 : Int32) (p1 : Int32) : Int32 :=
  ((p0 * (100 : Int32)) + p1)
set_option maxHeartbeats 4000000 in
set_option maxRecDepth 100000 in
theorem m_X6_placeOfIs (l : Launch) (g : GG) (w : va_W) (p0 : Int32) (p1 : Int32) : Met l yX6_placeOfIs (Cond.code yX6_placeOfIs cX6_placeOfIs 2 (some .int) :: BIG) ({ frames := 0, cells := 0, slots := 0, locals := 0 } : Room) (va_Pc [.int p0, .int p1] (ROp g w)) (ROi (t_X6_placeOfIs p0 p1)) 0 0 (fun _ => False) := by
  obtain ⟨res, hs⟩ : ∃ z, t_X6_placeOfIs p0 p1 = z := ⟨_, rfl⟩
  rw [hs]
  refine ro_start (cc := cX6_placeOfIs) (maxL := 2) (ret := (some .int)) (lv := [(0, .int p0), (1, .int p1)]) (by decide) rfl (Nat.le_of_ble_eq_true rfl) rfl ?_
  intro p e s m args below meth c hx hb hml hr hts hown hlk hK H locs hP hS ls hl
  have hB : ∀ w ∈ BIG, w.before args s = true := fun w h => hts w (List.mem_cons_of_mem _ h)
  have hC : CallFix p m c cX6_placeOfIs 2 s args BIG RX6 := ⟨hx, hb, hml, hown, hB⟩
  unfold t_X6_placeOfIs at hs
  refine lv_iload_n hx hb dX6_placeOfIs_0 rfl (lv_at hl 0 rfl) ?_
  refine lv_bipush (v := 100) hx hb dX6_placeOfIs_1 (by decide) ?_
  refine lv_imul hx hb dX6_placeOfIs_3 ?_
  refine lv_iload_n hx hb dX6_placeOfIs_4 rfl (lv_at hl 1 rfl) ?_
  refine lv_iadd hx hb dX6_placeOfIs_5 ?_
  subst hs
  exact ret_roi hx hb hr hlk hS dX6_placeOfIs_6
def t_X6_whyOf (p0 : Int32) (p1 : Int32) (p2 : Int32) (p3 : Int32) : Int64 :=
  (((((p0.toInt64) <<< ((28 : Int32).toInt64 &&& 63)) ||| (((p1 + (1 : Int32)).toInt64) <<< ((17 : Int32).toInt64 &&& 63))) ||| (((p2 + (1 : Int32)).toInt64) <<< ((6 : Int32).toInt64 &&& 63))) ||| ((p3 + (1 : Int32)).toInt64))
set_option maxHeartbeats 4000000 in
set_option maxRecDepth 100000 in
theorem m_X6_whyOf (l : Launch) (g : GG) (w : va_W) (p0 : Int32) (p1 : Int32) (p2 : Int32) (p3 : Int32) : Met l yX6_whyOf (Cond.code yX6_whyOf cX6_whyOf 4 (some .long) :: BIG) ({ frames := 0, cells := 0, slots := 0, locals := 0 } : Room) (va_Pc [.int p0, .int p1, .int p2, .int p3] (ROp g w)) (ROl (t_X6_whyOf p0 p1 p2 p3)) 0 0 (fun _ => False) := by
  obtain ⟨res, hs⟩ : ∃ z, t_X6_whyOf p0 p1 p2 p3 = z := ⟨_, rfl⟩
  rw [hs]
  refine ro_start (cc := cX6_whyOf) (maxL := 4) (ret := (some .long)) (lv := [(0, .int p0), (1, .int p1), (2, .int p2), (3, .int p3)]) (by decide) rfl (Nat.le_of_ble_eq_true rfl) rfl ?_
  intro p e s m args below meth c hx hb hml hr hts hown hlk hK H locs hP hS ls hl
  have hB : ∀ w ∈ BIG, w.before args s = true := fun w h => hts w (List.mem_cons_of_mem _ h)
  have hC : CallFix p m c cX6_whyOf 4 s args BIG RX6 := ⟨hx, hb, hml, hown, hB⟩
  unfold t_X6_whyOf at hs
  refine lv_iload_n hx hb dX6_whyOf_0 rfl (lv_at hl 0 rfl) ?_
  refine lv_i2l (v := (p0.toInt64)) hx hb dX6_whyOf_1 rfl ?_
  refine lv_bipush (v := 28) hx hb dX6_whyOf_2 (by decide) ?_
  refine lv_lshl (v := ((p0.toInt64) <<< ((28 : Int32).toInt64 &&& 63))) hx hb dX6_whyOf_4 rfl ?_
  refine lv_iload_n hx hb dX6_whyOf_5 rfl (lv_at hl 1 rfl) ?_
  refine lv_iconst (v := 1) hx hb dX6_whyOf_6 (by decide) ?_
  refine lv_iadd hx hb dX6_whyOf_7 ?_
  refine lv_i2l (v := ((p1 + (1 : Int32)).toInt64)) hx hb dX6_whyOf_8 rfl ?_
  refine lv_bipush (v := 17) hx hb dX6_whyOf_9 (by decide) ?_
  refine lv_lshl (v := (((p1 + (1 : Int32)).toInt64) <<< ((17 : Int32).toInt64 &&& 63))) hx hb dX6_whyOf_11 rfl ?_
  refine lv_lor hx hb dX6_whyOf_12 ?_
  refine lv_iload_n hx hb dX6_whyOf_13 rfl (lv_at hl 2 rfl) ?_
  refine lv_iconst (v := 1) hx hb dX6_whyOf_14 (by decide) ?_
  refine lv_iadd hx hb dX6_whyOf_15 ?_
  refine lv_i2l (v := ((p2 + (1 : Int32)).toInt64)) hx hb dX6_whyOf_16 rfl ?_
  refine lv_bipush (v := 6) hx hb dX6_whyOf_17 (by decide) ?_
  refine lv_lshl (v := (((p2 + (1 : Int32)).toInt64) <<< ((6 : Int32).toInt64 &&& 63))) hx hb dX6_whyOf_19 rfl ?_
  refine lv_lor hx hb dX6_whyOf_20 ?_
  refine lv_iload_n hx hb dX6_whyOf_21 rfl (lv_at hl 3 rfl) ?_
  refine lv_iconst (v := 1) hx hb dX6_whyOf_22 (by decide) ?_
  refine lv_iadd hx hb dX6_whyOf_23 ?_
  refine lv_i2l (v := ((p3 + (1 : Int32)).toInt64)) hx hb dX6_whyOf_24 rfl ?_
  refine lv_lor hx hb dX6_whyOf_25 ?_
  subst hs
  exact ret_rol hx hb hr hlk hS dX6_whyOf_26
def t_X1_saysAt (st : XS) (p1 : Int32) : Int32 :=
  (if (t_X6_at 2000 (st.1 9) p1) = (-1 : Int32) then (0 : Int32) else (1 : Int32))
theorem z_X1_saysAt (st : XS) (p1 : Int32) : t_X1_saysAt st p1 = 0 ∨ t_X1_saysAt st p1 = 1 := by
  unfold t_X1_saysAt
  (repeat' split) <;> first | exact Or.inl rfl | exact Or.inr rfl
set_option maxHeartbeats 4000000 in
set_option maxRecDepth 100000 in
theorem m_X1_saysAt (l : Launch) (g : GG) (a : Nat → Nat) (st : XS) (p1 : Int32) : Met l yX1_saysAt (Cond.code yX1_saysAt cX1_saysAt 2 (some .boolean) :: BIG) ({ frames := 1, cells := 0, slots := 0, locals := 21 } : Room) (va_Pc [.ref (a 8), .int p1] (ROp g (xW g a st))) (ROi (t_X1_saysAt st p1)) 0 0 (fun _ => False) := by
  obtain ⟨res, hs⟩ : ∃ z, t_X1_saysAt st p1 = z := ⟨_, rfl⟩
  rw [hs]
  refine ro_start (cc := cX1_saysAt) (maxL := 2) (ret := (some .boolean)) (lv := [(0, .ref (a 8)), (1, .int p1)]) (by decide) rfl (Nat.le_of_ble_eq_true rfl) rfl ?_
  intro p e s m args below meth c hx hb hml hr hts hown hlk hK H locs hP hS ls hl
  have hB : ∀ w ∈ BIG, w.before args s = true := fun w h => hts w (List.mem_cons_of_mem _ h)
  have hC : CallFix p m c cX1_saysAt 2 s args BIG RX1 := ⟨hx, hb, hml, hown, hB⟩
  unfold t_X1_saysAt at hs
  refine lv_aload_n hx hb dX1_saysAt_0 rfl (lv_at hl 0 rfl) ?_
  refine xg_1_0 hx hb hB hown hK hP dX1_saysAt_1 ?_
  refine lv_iload_n hx hb dX1_saysAt_4 rfl (lv_at hl 1 rfl) ?_
  refine cN_roi (As := [.ref (a 9), .int p1]) (rest := []) hC (m_X6_at l g (xW g a st) 9 2000 (st.1 9) (a 9) (xW_9 g a st) (by decide) p1) (kn_of (host := "NotionRounds") hB bw_8_0 bw_7_23 bw_1_2 kd_X6_at (hK.2 _ (List.mem_of_getElem? (i := 27) rfl)) rfl rfl ⟨Nat.le_of_ble_eq_true rfl, Nat.le_of_ble_eq_true rfl⟩) hK hP hP hS rfl hl.1 rfl (Nat.le_of_ble_eq_true rfl) dX1_saysAt_5 ⟨Nat.zero_le _, Nat.zero_le _⟩ (fun H locs hP hS => ?_)
  refine lv_iconst (v := -1) hx hb dX1_saysAt_8 (by decide) ?_
  refine lv_icmp_eq (tgt := 16) hx hb dX1_saysAt_9 (by decide) (fun c1 => ?_) (fun c1 => ?_)
  · have hs := ifp c1 hs
    refine lv_iconst (v := 0) hx hb dX1_saysAt_16 (by decide) ?_
    subst hs
    exact ret_roz hx hb hr (zn_of (Or.inl rfl)) hlk hS dX1_saysAt_17
  · have hs := ifn c1 hs
    refine lv_iconst (v := 1) hx hb dX1_saysAt_12 (by decide) ?_
    refine lv_goto (tgt := 17) hx hb dX1_saysAt_13 (by decide) ?_
    subst hs
    exact ret_roz hx hb hr (zn_of (Or.inr rfl)) hlk hS dX1_saysAt_17
noncomputable def f_X5_offer (st : XS) (p1 : Int32) (p2 : Int64) : Option XS :=
  (if 0 ≤ (lg_cmp p2 (t_X6_longAt 2000 (st.2 15) p1)) then some (st) else (if (t_X1_saysAt st p1) = 0 then (Option.bind (some (sL st 15 (t_X6_putLong 2000 (st.2 15) p1 p2))) (fun r3 => some (r3))) else some (st)))
set_option maxHeartbeats 4000000 in
set_option maxRecDepth 100000 in
theorem m_X5_offer (l : Launch) (g : GG) (a : Nat → Nat) (st : XS) (sz : Nat) (p1 : Int32) (p2 : Int64) (res : XS) (hs : f_X5_offer st p1 p2 = some res) : Met l yX5_offer (Cond.code yX5_offer cX5_offer 4 none :: BIG) ({ frames := 2, cells := 0, slots := 0, locals := 42 } : Room) (va_Pc [.ref (a 14), .int p1, .long p2] (RWp g (xW g a st) sz)) (RWv g (xW g a res) (va_A (xW g a st) sz)) 0 0 (va_A (xW g a st) sz) := by
  refine rw_start (cc := cX5_offer) (maxL := 4) (ret := none) (lv := [(0, .ref (a 14)), (1, .int p1), (2, .long p2)]) (Qc := fun A => (RWv g (xW g a res) A)) (by decide) rfl (Nat.le_of_ble_eq_true rfl) rfl ?_
  intro p e s m args below meth c hx hb hml hr hts hown hlk hK A hD0 hA H locs hP hS ls hl
  have hD : ∀ st' : XS, va_D A (xW g a st') := fun _ => xW_D hD0
  have hB : ∀ w ∈ BIG, w.before args s = true := fun w h => hts w (List.mem_cons_of_mem _ h)
  have hC : CallFix p m c cX5_offer 4 s args BIG RX5 := ⟨hx, hb, hml, hown, hB⟩
  unfold f_X5_offer at hs
  refine lv_lload_n hx hb dX5_offer_0 rfl (lv_at hl 2 rfl) ?_
  refine lv_aload_n hx hb dX5_offer_1 rfl (lv_at hl 0 rfl) ?_
  refine xg_5_4 hx hb hB hown hK hP dX5_offer_2 ?_
  refine lv_iload_n hx hb dX5_offer_5 rfl (lv_at hl 1 rfl) ?_
  refine cN_rol (As := [.ref (a 15), .int p1]) (rest := [.long p2]) hC (m_X6_longAt l g (xW g a st) 15 2000 (st.2 15) (a 15) (xW_15 g a st) (by decide) p1) (kn_of (host := "NotionRounds") hB bw_15_22 bw_15_21 bw_1_2 kd_X6_longAt (hK.2 _ (List.mem_of_getElem? (i := 26) rfl)) rfl rfl ⟨Nat.le_of_ble_eq_true rfl, Nat.le_of_ble_eq_true rfl⟩) hK hP hP hS rfl hl.1 rfl (Nat.le_of_ble_eq_true rfl) dX5_offer_6 ⟨Nat.zero_le _, Nat.zero_le _⟩ (fun H locs hP hS => ?_)
  refine W.lcmp hx hb dX5_offer_9 ?_
  refine lv_if_ge (tgt := 33) hx hb dX5_offer_10 (by decide) (fun c1 => ?_) (fun c1 => ?_)
  · have hs := ifp c1 hs
    cases hs
    exact ret_rwv hx hb hr hlk hP hS dX5_offer_33
  · have hs := ifn c1 hs
    refine lv_aload_n hx hb dX5_offer_13 rfl (lv_at hl 0 rfl) ?_
    refine xg_5_3 hx hb hB hown hK hP dX5_offer_14 ?_
    refine lv_iload_n hx hb dX5_offer_17 rfl (lv_at hl 1 rfl) ?_
    refine cV_roi (As := [.int p1]) (rest := []) hC (m_X1_saysAt l g a st p1) (kv_of hB bw_16_3 bw_16_1 bw_16_2 bw_2_2 kd_X1_saysAt bw_16_0 rfl rfl ⟨Nat.le_of_ble_eq_true rfl, Nat.le_of_ble_eq_true rfl⟩) hK hP hP hS (xW_8 g a st) rfl rfl hl.1 rfl (Nat.le_of_ble_eq_true rfl) dX5_offer_18 ⟨Nat.zero_le _, Nat.zero_le _⟩ (fun H locs hP hS => ?_)
    refine lv_if_ne (tgt := 33) hx hb dX5_offer_21 (by decide) (fun c2 => ?_) (fun c2 => ?_)
    · have hs := ifn c2 hs
      cases hs
      exact ret_rwv hx hb hr hlk hP hS dX5_offer_33
    · have hs := ifp c2 hs
      refine lv_aload_n hx hb dX5_offer_24 rfl (lv_at hl 0 rfl) ?_
      refine xg_5_4 hx hb hB hown hK hP dX5_offer_25 ?_
      refine lv_iload_n hx hb dX5_offer_28 rfl (lv_at hl 1 rfl) ?_
      refine lv_lload_n hx hb dX5_offer_29 rfl (lv_at hl 2 rfl) ?_
      obtain ⟨r3, e3, hs⟩ := Option.bind_eq_some_iff.mp hs
      have e3 := Option.some.inj e3
      refine cN_rwv (As := [.ref (a 15), .int p1, .long p2]) (rest := []) hC (m_X6_putLong_15 l g a st r3 H.size p1 p2 e3) (kn_of (host := "NotionRounds") hB bw_16_5 bw_16_4 bw_1_2 kd_X6_putLong (hK.2 _ (List.mem_of_getElem? (i := 28) rfl)) rfl rfl ⟨Nat.le_of_ble_eq_true rfl, Nat.le_of_ble_eq_true rfl⟩) hK hP (hD _) hA hS rfl hl.1 rfl (Nat.le_of_ble_eq_true rfl) dX5_offer_30 ⟨Nat.zero_le _, Nat.zero_le _⟩ (fun H locs hP hS => ?_)
      cases hs
      exact ret_rwv hx hb hr hlk hP hS dX5_offer_33
noncomputable def f_X5_offerBegun (st : XS) (p1 : Int32) (p2 : Int32) : Option XS :=
  (Option.bind (f_X5_offer st (t_X6_placeOfIs p1 p1) (t_X6_whyOf (0 : Int32) p2 (-1 : Int32) (-1 : Int32))) (fun r1 => (Option.bind (f_X5_offer r1 (t_X6_placeOfIs p1 (0 : Int32)) (t_X6_whyOf (1 : Int32) p2 (-1 : Int32) (-1 : Int32))) (fun r2 => some (r2)))))
set_option maxHeartbeats 4000000 in
set_option maxRecDepth 100000 in
theorem m_X5_offerBegun (l : Launch) (g : GG) (a : Nat → Nat) (st : XS) (sz : Nat) (p1 : Int32) (p2 : Int32) (res : XS) (hs : f_X5_offerBegun st p1 p2 = some res) : Met l yX5_offerBegun (Cond.code yX5_offerBegun cX5_offerBegun 3 none :: BIG) ({ frames := 3, cells := 0, slots := 0, locals := 65 } : Room) (va_Pc [.ref (a 14), .int p1, .int p2] (RWp g (xW g a st) sz)) (RWv g (xW g a res) (va_A (xW g a st) sz)) 0 0 (va_A (xW g a st) sz) := by
  refine rw_start (cc := cX5_offerBegun) (maxL := 3) (ret := none) (lv := [(0, .ref (a 14)), (1, .int p1), (2, .int p2)]) (Qc := fun A => (RWv g (xW g a res) A)) (by decide) rfl (Nat.le_of_ble_eq_true rfl) rfl ?_
  intro p e s m args below meth c hx hb hml hr hts hown hlk hK A hD0 hA H locs hP hS ls hl
  have hD : ∀ st' : XS, va_D A (xW g a st') := fun _ => xW_D hD0
  have hB : ∀ w ∈ BIG, w.before args s = true := fun w h => hts w (List.mem_cons_of_mem _ h)
  have hC : CallFix p m c cX5_offerBegun 3 s args BIG RX5 := ⟨hx, hb, hml, hown, hB⟩
  unfold f_X5_offerBegun at hs
  refine lv_aload_n hx hb dX5_offerBegun_0 rfl (lv_at hl 0 rfl) ?_
  refine lv_iload_n hx hb dX5_offerBegun_1 rfl (lv_at hl 1 rfl) ?_
  refine lv_iload_n hx hb dX5_offerBegun_2 rfl (lv_at hl 1 rfl) ?_
  refine cN_roi (As := [.int p1, .int p1]) (rest := [.ref (a 14)]) hC (m_X6_placeOfIs l g (xW g a st) p1 p1) (kn_of (host := "NotionRounds") hB bw_15_14 bw_15_13 bw_1_2 kd_X6_placeOfIs (hK.2 _ (List.mem_of_getElem? (i := 24) rfl)) rfl rfl ⟨Nat.le_of_ble_eq_true rfl, Nat.le_of_ble_eq_true rfl⟩) hK hP hP hS rfl hl.1 rfl (Nat.le_of_ble_eq_true rfl) dX5_offerBegun_3 ⟨Nat.zero_le _, Nat.zero_le _⟩ (fun H locs hP hS => ?_)
  refine lv_iconst (v := 0) hx hb dX5_offerBegun_6 (by decide) ?_
  refine lv_iload_n hx hb dX5_offerBegun_7 rfl (lv_at hl 2 rfl) ?_
  refine lv_iconst (v := -1) hx hb dX5_offerBegun_8 (by decide) ?_
  refine lv_iconst (v := -1) hx hb dX5_offerBegun_9 (by decide) ?_
  refine cN_rol (As := [.int (0 : Int32), .int p2, .int (-1 : Int32), .int (-1 : Int32)]) (rest := [.int (t_X6_placeOfIs p1 p1), .ref (a 14)]) hC (m_X6_whyOf l g (xW g a st) (0 : Int32) p2 (-1 : Int32) (-1 : Int32)) (kn_of (host := "NotionRounds") hB bw_15_16 bw_15_15 bw_1_2 kd_X6_whyOf (hK.2 _ (List.mem_of_getElem? (i := 25) rfl)) rfl rfl ⟨Nat.le_of_ble_eq_true rfl, Nat.le_of_ble_eq_true rfl⟩) hK hP hP hS rfl hl.1 rfl (Nat.le_of_ble_eq_true rfl) dX5_offerBegun_10 ⟨Nat.zero_le _, Nat.zero_le _⟩ (fun H locs hP hS => ?_)
  obtain ⟨r1, e1, hs⟩ := Option.bind_eq_some_iff.mp hs
  refine cV_rwv (As := [.int (t_X6_placeOfIs p1 p1), .long (t_X6_whyOf (0 : Int32) p2 (-1 : Int32) (-1 : Int32))]) (rest := []) hC (m_X5_offer l g a st H.size (t_X6_placeOfIs p1 p1) (t_X6_whyOf (0 : Int32) p2 (-1 : Int32) (-1 : Int32)) r1 e1) (kv_of hB bw_15_20 bw_15_18 bw_15_19 bw_2_6 kd_X5_offer bw_15_17 rfl rfl ⟨Nat.le_of_ble_eq_true rfl, Nat.le_of_ble_eq_true rfl⟩) hK hP (hD _) hA hS (xW_14 g a st) rfl rfl hl.1 rfl (Nat.le_of_ble_eq_true rfl) dX5_offerBegun_13 ⟨Nat.zero_le _, Nat.zero_le _⟩ (fun H locs hP hS => ?_)
  refine lv_aload_n hx hb dX5_offerBegun_16 rfl (lv_at hl 0 rfl) ?_
  refine lv_iload_n hx hb dX5_offerBegun_17 rfl (lv_at hl 1 rfl) ?_
  refine lv_iconst (v := 0) hx hb dX5_offerBegun_18 (by decide) ?_
  refine cN_roi (As := [.int p1, .int (0 : Int32)]) (rest := [.ref (a 14)]) hC (m_X6_placeOfIs l g (xW g a r1) p1 (0 : Int32)) (kn_of (host := "NotionRounds") hB bw_15_14 bw_15_13 bw_1_2 kd_X6_placeOfIs (hK.2 _ (List.mem_of_getElem? (i := 24) rfl)) rfl rfl ⟨Nat.le_of_ble_eq_true rfl, Nat.le_of_ble_eq_true rfl⟩) hK hP hP hS rfl hl.1 rfl (Nat.le_of_ble_eq_true rfl) dX5_offerBegun_19 ⟨Nat.zero_le _, Nat.zero_le _⟩ (fun H locs hP hS => ?_)
  refine lv_iconst (v := 1) hx hb dX5_offerBegun_22 (by decide) ?_
  refine lv_iload_n hx hb dX5_offerBegun_23 rfl (lv_at hl 2 rfl) ?_
  refine lv_iconst (v := -1) hx hb dX5_offerBegun_24 (by decide) ?_
  refine lv_iconst (v := -1) hx hb dX5_offerBegun_25 (by decide) ?_
  refine cN_rol (As := [.int (1 : Int32), .int p2, .int (-1 : Int32), .int (-1 : Int32)]) (rest := [.int (t_X6_placeOfIs p1 (0 : Int32)), .ref (a 14)]) hC (m_X6_whyOf l g (xW g a r1) (1 : Int32) p2 (-1 : Int32) (-1 : Int32)) (kn_of (host := "NotionRounds") hB bw_15_16 bw_15_15 bw_1_2 kd_X6_whyOf (hK.2 _ (List.mem_of_getElem? (i := 25) rfl)) rfl rfl ⟨Nat.le_of_ble_eq_true rfl, Nat.le_of_ble_eq_true rfl⟩) hK hP hP hS rfl hl.1 rfl (Nat.le_of_ble_eq_true rfl) dX5_offerBegun_26 ⟨Nat.zero_le _, Nat.zero_le _⟩ (fun H locs hP hS => ?_)
  obtain ⟨r2, e2, hs⟩ := Option.bind_eq_some_iff.mp hs
  refine cV_rwv (As := [.int (t_X6_placeOfIs p1 (0 : Int32)), .long (t_X6_whyOf (1 : Int32) p2 (-1 : Int32) (-1 : Int32))]) (rest := []) hC (m_X5_offer l g a r1 H.size (t_X6_placeOfIs p1 (0 : Int32)) (t_X6_whyOf (1 : Int32) p2 (-1 : Int32) (-1 : Int32)) r2 e2) (kv_of hB bw_15_20 bw_15_18 bw_15_19 bw_2_6 kd_X5_offer bw_15_17 rfl rfl ⟨Nat.le_of_ble_eq_true rfl, Nat.le_of_ble_eq_true rfl⟩) hK hP (hD _) hA hS (xW_14 g a r1) rfl rfl hl.1 rfl (Nat.le_of_ble_eq_true rfl) dX5_offerBegun_29 ⟨Nat.zero_le _, Nat.zero_le _⟩ (fun H locs hP hS => ?_)
  cases hs
  exact ret_rwv hx hb hr hlk hP hS dX5_offerBegun_32
noncomputable def b_X5_offerSeeds_2 (v2_1 : Int32) (z2 : XS) : Option ((Int32 × XS) ⊕ XS) :=
  (if (z2.1 30 0) ≤ v2_1 then some (Sum.inr (z2)) else (if (t_X3_seed z2 v2_1) = 0 then some (Sum.inl ((v2_1 + 1), z2)) else (Option.bind (f_X5_offerBegun z2 v2_1 (-1 : Int32)) (fun r3 => some (Sum.inl ((v2_1 + 1), r3))))))
noncomputable def f_X5_offerSeeds (st : XS) : Option XS :=
  (loopC (fun v => b_X5_offerSeeds_2 v.1 v.2) ((0 : Int32), st))
set_option maxHeartbeats 4000000 in
set_option maxRecDepth 100000 in
theorem m_X5_offerSeeds (l : Launch) (g : GG) (a : Nat → Nat) (st : XS) (sz : Nat)  (res : XS) (hs : f_X5_offerSeeds st = some res) : Met l yX5_offerSeeds (Cond.code yX5_offerSeeds cX5_offerSeeds 2 none :: BIG) ({ frames := 4, cells := 0, slots := 0, locals := 87 } : Room) (va_Pc [.ref (a 14)] (RWp g (xW g a st) sz)) (RWv g (xW g a res) (va_A (xW g a st) sz)) 0 0 (va_A (xW g a st) sz) := by
  refine rw_start (cc := cX5_offerSeeds) (maxL := 2) (ret := none) (lv := [(0, .ref (a 14))]) (Qc := fun A => (RWv g (xW g a res) A)) (by decide) rfl (Nat.le_of_ble_eq_true rfl) rfl ?_
  intro p e s m args below meth c hx hb hml hr hts hown hlk hK A hD0 hA H locs hP hS ls hl
  have hD : ∀ st' : XS, va_D A (xW g a st') := fun _ => xW_D hD0
  have hB : ∀ w ∈ BIG, w.before args s = true := fun w h => hts w (List.mem_cons_of_mem _ h)
  have hC : CallFix p m c cX5_offerSeeds 2 s args BIG RX5 := ⟨hx, hb, hml, hown, hB⟩
  unfold f_X5_offerSeeds at hs
  refine lv_iconst (v := 0) hx hb dX5_offerSeeds_0 (by decide) ?_
  refine lv_istore_n (lv' := [(1, .int (0 : Int32)), (0, .ref (a 14))]) hx hb dX5_offerSeeds_1 rfl hl (by decide) rfl (fun ls hl => ?_)
  obtain ⟨n2, hs⟩ := loopC_iter hs
  have L2 : ∀ (n : Nat) (v2_1 : Int32) (z2 : XS), iterO (fun v => b_X5_offerSeeds_2 v.1 v.2) n (v2_1, z2) = some res → ∀ (H : Heap) (locs : List Loc), va_P g.1 vwCl (xW g a z2) H → va_S A s.heap H locs → ∀ ls : Array Slot, lv_has ls 2 [(0, .ref (a 14)), (1, .int v2_1)] → W p l e ({ frames := 4, cells := 0, slots := 0, locals := 87 } : Room) s m args below meth c H locs 0 0 (MQ below (RWv g (xW g a res) A) args s 0 0 A) (F0 m 2 ls []) := by
    intro n
    induction n with
    | zero => intro v2_1 z2 hs; exact (iterO_zero hs).elim
    | succ n ih2 =>
      intro v2_1 z2 hs H locs hP hS ls hl
      obtain ⟨y2, hs, hk2⟩ := iterO_succ hs
      have hs : b_X5_offerSeeds_2 v2_1 z2 = some y2 := hs
      unfold b_X5_offerSeeds_2 at hs
      refine lv_iload_n hx hb dX5_offerSeeds_2 rfl (lv_at hl 1 rfl) ?_
      refine lv_aload_n hx hb dX5_offerSeeds_3 rfl (lv_at hl 0 rfl) ?_
      refine xg_5_0 hx hb hB hown hK hP dX5_offerSeeds_4 ?_
      refine xn_RX5_77 hx hb hB hown hK hP dX5_offerSeeds_7 ?_
      refine lv_icmp_ge (tgt := 36) hx hb dX5_offerSeeds_10 (by decide) (fun c1 => ?_) (fun c1 => ?_)
      · have hs := ifp c1 hs
        cases hs
        cases elim_inr hk2
        exact ret_rwv hx hb hr hlk hP hS dX5_offerSeeds_36
      · have hs := ifn c1 hs
        refine lv_aload_n hx hb dX5_offerSeeds_13 rfl (lv_at hl 0 rfl) ?_
        refine xg_5_0 hx hb hB hown hK hP dX5_offerSeeds_14 ?_
        refine lv_iload_n hx hb dX5_offerSeeds_17 rfl (lv_at hl 1 rfl) ?_
        refine cV_roi (As := [.int v2_1]) (rest := []) hC (m_X3_seed l g a z2 v2_1) (kv_of hB bw_15_8 bw_15_6 bw_15_7 bw_1_14 kd_X3_seed bw_15_5 rfl rfl ⟨Nat.le_of_ble_eq_true rfl, Nat.le_of_ble_eq_true rfl⟩) hK hP hP hS (xW_1 g a z2) rfl rfl hl.1 rfl (Nat.le_of_ble_eq_true rfl) dX5_offerSeeds_18 ⟨Nat.zero_le _, Nat.zero_le _⟩ (fun H locs hP hS => ?_)
        refine lv_if_eq (tgt := 30) hx hb dX5_offerSeeds_21 (by decide) (fun c2 => ?_) (fun c2 => ?_)
        · have hs := ifp c2 hs
          refine lv_iinc (v := (v2_1 + 1)) (lv' := [(1, .int (v2_1 + 1)), (0, .ref (a 14))]) hx hb dX5_offerSeeds_30 hl (k := 1) rfl (by rfl) (by decide) rfl (fun ls hl => ?_)
          refine lv_goto (tgt := 2) hx hb dX5_offerSeeds_33 (by decide) ?_
          cases hs
          exact ih2 (v2_1 + 1) z2 hk2 _ _ hP hS _ (lv_sub hl [1, 0] rfl)
        · have hs := ifn c2 hs
          refine lv_aload_n hx hb dX5_offerSeeds_24 rfl (lv_at hl 0 rfl) ?_
          refine lv_iload_n hx hb dX5_offerSeeds_25 rfl (lv_at hl 1 rfl) ?_
          refine lv_iconst (v := -1) hx hb dX5_offerSeeds_26 (by decide) ?_
          obtain ⟨r3, e3, hs⟩ := Option.bind_eq_some_iff.mp hs
          refine cV_rwv (As := [.int v2_1, .int (-1 : Int32)]) (rest := []) hC (m_X5_offerBegun l g a z2 H.size v2_1 (-1 : Int32) r3 e3) (kv_of hB bw_15_12 bw_15_10 bw_15_11 bw_2_6 kd_X5_offerBegun bw_15_9 rfl rfl ⟨Nat.le_of_ble_eq_true rfl, Nat.le_of_ble_eq_true rfl⟩) hK hP (hD _) hA hS (xW_14 g a z2) rfl rfl hl.1 rfl (Nat.le_of_ble_eq_true rfl) dX5_offerSeeds_27 ⟨Nat.zero_le _, Nat.zero_le _⟩ (fun H locs hP hS => ?_)
          refine lv_iinc (v := (v2_1 + 1)) (lv' := [(1, .int (v2_1 + 1)), (0, .ref (a 14))]) hx hb dX5_offerSeeds_30 hl (k := 1) rfl (by rfl) (by decide) rfl (fun ls hl => ?_)
          refine lv_goto (tgt := 2) hx hb dX5_offerSeeds_33 (by decide) ?_
          cases hs
          exact ih2 (v2_1 + 1) r3 hk2 _ _ hP hS _ (lv_sub hl [1, 0] rfl)
  exact L2 n2 (0 : Int32) st hs _ _ hP hS _ (lv_sub hl [1, 0] rfl)
def t_X1_placeOf (st : XS) (p1 : Int32) : Int32 :=
  (t_X6_at 2000 (st.1 10) p1)
set_option maxHeartbeats 4000000 in
set_option maxRecDepth 100000 in
theorem m_X1_placeOf (l : Launch) (g : GG) (a : Nat → Nat) (st : XS) (p1 : Int32) : Met l yX1_placeOf (Cond.code yX1_placeOf cX1_placeOf 2 (some .int) :: BIG) ({ frames := 1, cells := 0, slots := 0, locals := 21 } : Room) (va_Pc [.ref (a 8), .int p1] (ROp g (xW g a st))) (ROi (t_X1_placeOf st p1)) 0 0 (fun _ => False) := by
  obtain ⟨res, hs⟩ : ∃ z, t_X1_placeOf st p1 = z := ⟨_, rfl⟩
  rw [hs]
  refine ro_start (cc := cX1_placeOf) (maxL := 2) (ret := (some .int)) (lv := [(0, .ref (a 8)), (1, .int p1)]) (by decide) rfl (Nat.le_of_ble_eq_true rfl) rfl ?_
  intro p e s m args below meth c hx hb hml hr hts hown hlk hK H locs hP hS ls hl
  have hB : ∀ w ∈ BIG, w.before args s = true := fun w h => hts w (List.mem_cons_of_mem _ h)
  have hC : CallFix p m c cX1_placeOf 2 s args BIG RX1 := ⟨hx, hb, hml, hown, hB⟩
  unfold t_X1_placeOf at hs
  refine lv_aload_n hx hb dX1_placeOf_0 rfl (lv_at hl 0 rfl) ?_
  refine xg_1_1 hx hb hB hown hK hP dX1_placeOf_1 ?_
  refine lv_iload_n hx hb dX1_placeOf_4 rfl (lv_at hl 1 rfl) ?_
  refine cN_roi (As := [.ref (a 10), .int p1]) (rest := []) hC (m_X6_at l g (xW g a st) 10 2000 (st.1 10) (a 10) (xW_10 g a st) (by decide) p1) (kn_of (host := "NotionRounds") hB bw_8_0 bw_7_23 bw_1_2 kd_X6_at (hK.2 _ (List.mem_of_getElem? (i := 27) rfl)) rfl rfl ⟨Nat.le_of_ble_eq_true rfl, Nat.le_of_ble_eq_true rfl⟩) hK hP hP hS rfl hl.1 rfl (Nat.le_of_ble_eq_true rfl) dX1_placeOf_5 ⟨Nat.zero_le _, Nat.zero_le _⟩ (fun H locs hP hS => ?_)
  subst hs
  exact ret_roi hx hb hr hlk hS dX1_placeOf_8
def t_X6_subjectAt (p0 : Int32) : Int32 :=
  (p0 / (100 : Int32))
set_option maxHeartbeats 4000000 in
set_option maxRecDepth 100000 in
theorem m_X6_subjectAt (l : Launch) (g : GG) (w : va_W) (p0 : Int32) : Met l yX6_subjectAt (Cond.code yX6_subjectAt cX6_subjectAt 1 (some .int) :: BIG) ({ frames := 0, cells := 0, slots := 0, locals := 0 } : Room) (va_Pc [.int p0] (ROp g w)) (ROi (t_X6_subjectAt p0)) 0 0 (fun _ => False) := by
  obtain ⟨res, hs⟩ : ∃ z, t_X6_subjectAt p0 = z := ⟨_, rfl⟩
  rw [hs]
  refine ro_start (cc := cX6_subjectAt) (maxL := 1) (ret := (some .int)) (lv := [(0, .int p0)]) (by decide) rfl (Nat.le_of_ble_eq_true rfl) rfl ?_
  intro p e s m args below meth c hx hb hml hr hts hown hlk hK H locs hP hS ls hl
  have hB : ∀ w ∈ BIG, w.before args s = true := fun w h => hts w (List.mem_cons_of_mem _ h)
  have hC : CallFix p m c cX6_subjectAt 1 s args BIG RX6 := ⟨hx, hb, hml, hown, hB⟩
  unfold t_X6_subjectAt at hs
  refine lv_iload_n hx hb dX6_subjectAt_0 rfl (lv_at hl 0 rfl) ?_
  refine lv_bipush (v := 100) hx hb dX6_subjectAt_1 (by decide) ?_
  refine lv_idiv hx hb dX6_subjectAt_3 (by decide) ?_
  subst hs
  exact ret_roi hx hb hr hlk hS dX6_subjectAt_4
def t_X6_roleAt (p0 : Int32) : Int32 :=
  (((p0 - p0 / (100 : Int32) * (100 : Int32)) / (20 : Int32)) - (1 : Int32))
set_option maxHeartbeats 4000000 in
set_option maxRecDepth 100000 in
theorem m_X6_roleAt (l : Launch) (g : GG) (w : va_W) (p0 : Int32) : Met l yX6_roleAt (Cond.code yX6_roleAt cX6_roleAt 1 (some .int) :: BIG) ({ frames := 0, cells := 0, slots := 0, locals := 0 } : Room) (va_Pc [.int p0] (ROp g w)) (ROi (t_X6_roleAt p0)) 0 0 (fun _ => False) := by
  obtain ⟨res, hs⟩ : ∃ z, t_X6_roleAt p0 = z := ⟨_, rfl⟩
  rw [hs]
  refine ro_start (cc := cX6_roleAt) (maxL := 1) (ret := (some .int)) (lv := [(0, .int p0)]) (by decide) rfl (Nat.le_of_ble_eq_true rfl) rfl ?_
  intro p e s m args below meth c hx hb hml hr hts hown hlk hK H locs hP hS ls hl
  have hB : ∀ w ∈ BIG, w.before args s = true := fun w h => hts w (List.mem_cons_of_mem _ h)
  have hC : CallFix p m c cX6_roleAt 1 s args BIG RX6 := ⟨hx, hb, hml, hown, hB⟩
  unfold t_X6_roleAt at hs
  refine lv_iload_n hx hb dX6_roleAt_0 rfl (lv_at hl 0 rfl) ?_
  refine lv_bipush (v := 100) hx hb dX6_roleAt_1 (by decide) ?_
  refine lv_irem hx hb dX6_roleAt_3 (by decide) ?_
  refine lv_bipush (v := 20) hx hb dX6_roleAt_4 (by decide) ?_
  refine lv_idiv hx hb dX6_roleAt_6 (by decide) ?_
  refine lv_iconst (v := 1) hx hb dX6_roleAt_7 (by decide) ?_
  refine lv_isub hx hb dX6_roleAt_8 ?_
  subst hs
  exact ret_roi hx hb hr hlk hS dX6_roleAt_9
def t_X6_objectAt (p0 : Int32) : Int32 :=
  ((p0 - p0 / (100 : Int32) * (100 : Int32)) - (p0 - p0 / (100 : Int32) * (100 : Int32)) / (20 : Int32) * (20 : Int32))
set_option maxHeartbeats 4000000 in
set_option maxRecDepth 100000 in
theorem m_X6_objectAt (l : Launch) (g : GG) (w : va_W) (p0 : Int32) : Met l yX6_objectAt (Cond.code yX6_objectAt cX6_objectAt 1 (some .int) :: BIG) ({ frames := 0, cells := 0, slots := 0, locals := 0 } : Room) (va_Pc [.int p0] (ROp g w)) (ROi (t_X6_objectAt p0)) 0 0 (fun _ => False) := by
  obtain ⟨res, hs⟩ : ∃ z, t_X6_objectAt p0 = z := ⟨_, rfl⟩
  rw [hs]
  refine ro_start (cc := cX6_objectAt) (maxL := 1) (ret := (some .int)) (lv := [(0, .int p0)]) (by decide) rfl (Nat.le_of_ble_eq_true rfl) rfl ?_
  intro p e s m args below meth c hx hb hml hr hts hown hlk hK H locs hP hS ls hl
  have hB : ∀ w ∈ BIG, w.before args s = true := fun w h => hts w (List.mem_cons_of_mem _ h)
  have hC : CallFix p m c cX6_objectAt 1 s args BIG RX6 := ⟨hx, hb, hml, hown, hB⟩
  unfold t_X6_objectAt at hs
  refine lv_iload_n hx hb dX6_objectAt_0 rfl (lv_at hl 0 rfl) ?_
  refine lv_bipush (v := 100) hx hb dX6_objectAt_1 (by decide) ?_
  refine lv_irem hx hb dX6_objectAt_3 (by decide) ?_
  refine lv_bipush (v := 20) hx hb dX6_objectAt_4 (by decide) ?_
  refine lv_irem hx hb dX6_objectAt_6 (by decide) ?_
  subst hs
  exact ret_roi hx hb hr hlk hS dX6_objectAt_7
def t_X6_placeOfTo (p0 : Int32) (p1 : Int32) (p2 : Int32) : Int32 :=
  ((((p0 * (100 : Int32)) + (20 : Int32)) + (p1 * (20 : Int32))) + p2)
set_option maxHeartbeats 4000000 in
set_option maxRecDepth 100000 in
theorem m_X6_placeOfTo (l : Launch) (g : GG) (w : va_W) (p0 : Int32) (p1 : Int32) (p2 : Int32) : Met l yX6_placeOfTo (Cond.code yX6_placeOfTo cX6_placeOfTo 3 (some .int) :: BIG) ({ frames := 0, cells := 0, slots := 0, locals := 0 } : Room) (va_Pc [.int p0, .int p1, .int p2] (ROp g w)) (ROi (t_X6_placeOfTo p0 p1 p2)) 0 0 (fun _ => False) := by
  obtain ⟨res, hs⟩ : ∃ z, t_X6_placeOfTo p0 p1 p2 = z := ⟨_, rfl⟩
  rw [hs]
  refine ro_start (cc := cX6_placeOfTo) (maxL := 3) (ret := (some .int)) (lv := [(0, .int p0), (1, .int p1), (2, .int p2)]) (by decide) rfl (Nat.le_of_ble_eq_true rfl) rfl ?_
  intro p e s m args below meth c hx hb hml hr hts hown hlk hK H locs hP hS ls hl
  have hB : ∀ w ∈ BIG, w.before args s = true := fun w h => hts w (List.mem_cons_of_mem _ h)
  have hC : CallFix p m c cX6_placeOfTo 3 s args BIG RX6 := ⟨hx, hb, hml, hown, hB⟩
  unfold t_X6_placeOfTo at hs
  refine lv_iload_n hx hb dX6_placeOfTo_0 rfl (lv_at hl 0 rfl) ?_
  refine lv_bipush (v := 100) hx hb dX6_placeOfTo_1 (by decide) ?_
  refine lv_imul hx hb dX6_placeOfTo_3 ?_
  refine lv_bipush (v := 20) hx hb dX6_placeOfTo_4 (by decide) ?_
  refine lv_iadd hx hb dX6_placeOfTo_6 ?_
  refine lv_iload_n hx hb dX6_placeOfTo_7 rfl (lv_at hl 1 rfl) ?_
  refine lv_bipush (v := 20) hx hb dX6_placeOfTo_8 (by decide) ?_
  refine lv_imul hx hb dX6_placeOfTo_10 ?_
  refine lv_iadd hx hb dX6_placeOfTo_11 ?_
  refine lv_iload_n hx hb dX6_placeOfTo_12 rfl (lv_at hl 2 rfl) ?_
  refine lv_iadd hx hb dX6_placeOfTo_13 ?_
  subst hs
  exact ret_roi hx hb hr hlk hS dX6_placeOfTo_14
