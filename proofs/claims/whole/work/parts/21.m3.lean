noncomputable def b_X7_ofBegun_59 (v59_1 : Int32) (z59 : MS) : Option ((Int32 × MS) ⊕ MS) :=
  (if (z59 0 0) ≤ v59_1 then some (Sum.inr (z59)) else (Option.bind (f_X7_isSeed z59 v59_1) (fun r3 => (if r3 = 0 then (Option.bind (f_X7_leastTo z59 v59_1) (fun r5 => (Option.bind (f_X7_isSeed z59 v59_1) (fun r6 => (if r6 = 0 then (if r5 = (-1 : Int32) then some (Sum.inl ((v59_1 + 1), z59)) else (Option.bind (f_X7_findIs z59 v59_1 (0 : Int32) (1 : Int32) r5 (-1 : Int32) (-1 : Int32)) (fun r10 => some (Sum.inl ((v59_1 + 1), r10))))) else (Option.bind (f_X7_findIs z59 v59_1 (0 : Int32) (1 : Int32) r5 (-1 : Int32) (-1 : Int32)) (fun r8 => some (Sum.inl ((v59_1 + 1), r8))))))))) else (Option.bind (f_X7_isSeed z59 v59_1) (fun r11 => (if r11 = 0 then some (Sum.inl ((v59_1 + 1), z59)) else (Option.bind (f_X7_findIs z59 v59_1 (0 : Int32) (1 : Int32) (-1 : Int32) (-1 : Int32) (-1 : Int32)) (fun r13 => some (Sum.inl ((v59_1 + 1), r13)))))))))))
noncomputable def b_X7_ofBegun_2 (v2_1 : Int32) (z2 : MS) : Option ((Int32 × MS) ⊕ MS) :=
  (if (z2 0 0) ≤ v2_1 then (Option.map (fun z => Sum.inr (z)) (loopC (fun v => b_X7_ofBegun_59 v.1 v.2) ((0 : Int32), z2))) else (Option.bind (f_X7_isSeed z2 v2_1) (fun r15 => (if r15 = 0 then (Option.bind (f_X7_leastTo z2 v2_1) (fun r17 => (Option.bind (f_X7_isSeed z2 v2_1) (fun r18 => (if r18 = 0 then (if r17 = (-1 : Int32) then some (Sum.inl ((v2_1 + 1), z2)) else (Option.bind (f_X7_findIs z2 v2_1 v2_1 (0 : Int32) r17 (-1 : Int32) (-1 : Int32)) (fun r22 => some (Sum.inl ((v2_1 + 1), r22))))) else (Option.bind (f_X7_findIs z2 v2_1 v2_1 (0 : Int32) r17 (-1 : Int32) (-1 : Int32)) (fun r20 => some (Sum.inl ((v2_1 + 1), r20))))))))) else (Option.bind (f_X7_isSeed z2 v2_1) (fun r23 => (if r23 = 0 then some (Sum.inl ((v2_1 + 1), z2)) else (Option.bind (f_X7_findIs z2 v2_1 v2_1 (0 : Int32) (-1 : Int32) (-1 : Int32) (-1 : Int32)) (fun r25 => some (Sum.inl ((v2_1 + 1), r25)))))))))))
noncomputable def f_X7_ofBegun (st : MS) : Option MS :=
  (loopC (fun v => b_X7_ofBegun_2 v.1 v.2) ((0 : Int32), st))
set_option maxHeartbeats 4000000 in
set_option maxRecDepth 100000 in
theorem m_X7_ofBegun (l : Launch) (g : GG) (b : Nat → Nat) (st : MS) (sz : Nat)  (res : MS) (hs : f_X7_ofBegun st = some res) : Met l yX7_ofBegun (Cond.code yX7_ofBegun cX7_ofBegun 3 none :: BIG) ({ frames := 2, cells := 0, slots := 0, locals := 44 } : Room) (va_Pc [.ref (b 0)] (RWp g (mW g b st) sz)) (RWv g (mW g b res) (va_A (mW g b st) sz)) 0 0 (va_A (mW g b st) sz) := by
  refine rw_start (cc := cX7_ofBegun) (maxL := 3) (ret := none) (lv := [(0, .ref (b 0))]) (Qc := fun A => (RWv g (mW g b res) A)) (by decide) rfl (Nat.le_of_ble_eq_true rfl) rfl ?_
  intro p e s m args below meth c hx hb hml hr hts hown hlk hK A hD0 hA H locs hP hS ls hl
  have hD : ∀ st' : MS, va_D A (mW g b st') := fun _ => mW_D hD0
  have hB : ∀ w ∈ BIG, w.before args s = true := fun w h => hts w (List.mem_cons_of_mem _ h)
  have hC : CallFix p m c cX7_ofBegun 3 s args BIG RX7 := ⟨hx, hb, hml, hown, hB⟩
  unfold f_X7_ofBegun at hs
  refine lv_iconst (v := 0) hx hb dX7_ofBegun_0 (by decide) ?_
  refine lv_istore_n (lv' := [(1, .int (0 : Int32)), (0, .ref (b 0))]) hx hb dX7_ofBegun_1 rfl hl (by decide) rfl (fun ls hl => ?_)
  obtain ⟨n2, hs⟩ := loopC_iter hs
  have L2 : ∀ (n : Nat) (v2_1 : Int32) (z2 : MS), iterO (fun v => b_X7_ofBegun_2 v.1 v.2) n (v2_1, z2) = some res → ∀ (H : Heap) (locs : List Loc), va_P g.1 vwCl (mW g b z2) H → va_S A s.heap H locs → ∀ ls : Array Slot, lv_has ls 3 [(0, .ref (b 0)), (1, .int v2_1)] → W p l e ({ frames := 2, cells := 0, slots := 0, locals := 44 } : Room) s m args below meth c H locs 0 0 (MQ below (RWv g (mW g b res) A) args s 0 0 A) (F0 m 2 ls []) := by
    intro n
    induction n with
    | zero => intro v2_1 z2 hs; exact (iterO_zero hs).elim
    | succ n ih2 =>
      intro v2_1 z2 hs H locs hP hS ls hl
      obtain ⟨y2, hs, hk2⟩ := iterO_succ hs
      have hs : b_X7_ofBegun_2 v2_1 z2 = some y2 := hs
      unfold b_X7_ofBegun_2 at hs
      refine lv_iload_n hx hb dX7_ofBegun_2 rfl (lv_at hl 1 rfl) ?_
      refine lv_aload_n hx hb dX7_ofBegun_3 rfl (lv_at hl 0 rfl) ?_
      refine mg_0 hx hb hB hown hK hP dX7_ofBegun_4 ?_
      refine lv_icmp_ge (tgt := 57) hx hb dX7_ofBegun_7 (by decide) (fun c1 => ?_) (fun c1 => ?_)
      · have hs := ifp c1 hs
        refine lv_iconst (v := 0) hx hb dX7_ofBegun_57 (by decide) ?_
        refine lv_istore_n (lv' := [(1, .int (0 : Int32)), (0, .ref (b 0))]) hx hb dX7_ofBegun_58 rfl hl (by decide) rfl (fun ls hl => ?_)
        obtain ⟨w59, hm59, hw59⟩ := Option.map_eq_some_iff.mp hs
        clear hs
        cases hw59
        cases elim_inr hk2
        have hs := hm59
        obtain ⟨n59, hs⟩ := loopC_iter hs
        have L59 : ∀ (n : Nat) (v59_1 : Int32) (z59 : MS), iterO (fun v => b_X7_ofBegun_59 v.1 v.2) n (v59_1, z59) = some res → ∀ (H : Heap) (locs : List Loc), va_P g.1 vwCl (mW g b z59) H → va_S A s.heap H locs → ∀ ls : Array Slot, lv_has ls 3 [(0, .ref (b 0)), (1, .int v59_1)] → W p l e ({ frames := 2, cells := 0, slots := 0, locals := 44 } : Room) s m args below meth c H locs 0 0 (MQ below (RWv g (mW g b res) A) args s 0 0 A) (F0 m 59 ls []) := by
          intro n
          induction n with
          | zero => intro v59_1 z59 hs; exact (iterO_zero hs).elim
          | succ n ih59 =>
            intro v59_1 z59 hs H locs hP hS ls hl
            obtain ⟨y59, hs, hk59⟩ := iterO_succ hs
            have hs : b_X7_ofBegun_59 v59_1 z59 = some y59 := hs
            unfold b_X7_ofBegun_59 at hs
            refine lv_iload_n hx hb dX7_ofBegun_59 rfl (lv_at hl 1 rfl) ?_
            refine lv_aload_n hx hb dX7_ofBegun_60 rfl (lv_at hl 0 rfl) ?_
            refine mg_0 hx hb hB hown hK hP dX7_ofBegun_61 ?_
            refine lv_icmp_ge (tgt := 114) hx hb dX7_ofBegun_64 (by decide) (fun c2 => ?_) (fun c2 => ?_)
            · have hs := ifp c2 hs
              cases hs
              cases elim_inr hk59
              exact ret_rwv hx hb hr hlk hP hS dX7_ofBegun_114
            · have hs := ifn c2 hs
              refine lv_aload_n hx hb dX7_ofBegun_67 rfl (lv_at hl 0 rfl) ?_
              refine lv_iload_n hx hb dX7_ofBegun_68 rfl (lv_at hl 1 rfl) ?_
              obtain ⟨r3, e3, hs⟩ := Option.bind_eq_some_iff.mp hs
              refine cV_roi (As := [.int v59_1]) (rest := []) hC (m_X7_isSeed l g b z59 v59_1 r3 e3) (kv_of hB bw_21_15 bw_21_13 bw_21_14 bw_1_5 kd_X7_isSeed bw_21_12 rfl rfl ⟨Nat.le_of_ble_eq_true rfl, Nat.le_of_ble_eq_true rfl⟩) hK hP hP hS (mW_0 g b z59) rfl rfl hl.1 rfl (Nat.le_of_ble_eq_true rfl) dX7_ofBegun_69 ⟨Nat.zero_le _, Nat.zero_le _⟩ (fun H locs hP hS => ?_)
              refine lv_if_eq (tgt := 79) hx hb dX7_ofBegun_72 (by decide) (fun c4 => ?_) (fun c4 => ?_)
              · have hs := ifp c4 hs
                refine lv_aload_n hx hb dX7_ofBegun_79 rfl (lv_at hl 0 rfl) ?_
                refine lv_iload_n hx hb dX7_ofBegun_80 rfl (lv_at hl 1 rfl) ?_
                obtain ⟨r5, e5, hs⟩ := Option.bind_eq_some_iff.mp hs
                refine cV_roi (As := [.int v59_1]) (rest := []) hC (m_X7_leastTo l g b z59 v59_1 r5 e5) (kv_of hB bw_21_19 bw_21_17 bw_21_18 bw_1_5 kd_X7_leastTo bw_21_16 rfl rfl ⟨Nat.le_of_ble_eq_true rfl, Nat.le_of_ble_eq_true rfl⟩) hK hP hP hS (mW_0 g b z59) rfl rfl hl.1 rfl (Nat.le_of_ble_eq_true rfl) dX7_ofBegun_81 ⟨Nat.zero_le _, Nat.zero_le _⟩ (fun H locs hP hS => ?_)
                refine lv_istore_n (lv' := [(2, .int r5), (0, .ref (b 0)), (1, .int v59_1)]) hx hb dX7_ofBegun_84 rfl hl (by decide) rfl (fun ls hl => ?_)
                refine lv_aload_n hx hb dX7_ofBegun_85 rfl (lv_at hl 1 rfl) ?_
                refine lv_iload_n hx hb dX7_ofBegun_86 rfl (lv_at hl 2 rfl) ?_
                obtain ⟨r6, e6, hs⟩ := Option.bind_eq_some_iff.mp hs
                refine cV_roi (As := [.int v59_1]) (rest := []) hC (m_X7_isSeed l g b z59 v59_1 r6 e6) (kv_of hB bw_21_15 bw_21_13 bw_21_14 bw_1_5 kd_X7_isSeed bw_21_12 rfl rfl ⟨Nat.le_of_ble_eq_true rfl, Nat.le_of_ble_eq_true rfl⟩) hK hP hP hS (mW_0 g b z59) rfl rfl hl.1 rfl (Nat.le_of_ble_eq_true rfl) dX7_ofBegun_87 ⟨Nat.zero_le _, Nat.zero_le _⟩ (fun H locs hP hS => ?_)
                refine lv_if_ne (tgt := 98) hx hb dX7_ofBegun_90 (by decide) (fun c7 => ?_) (fun c7 => ?_)
                · have hs := ifn c7 hs
                  refine lv_aload_n hx hb dX7_ofBegun_98 rfl (lv_at hl 1 rfl) ?_
                  refine lv_iload_n hx hb dX7_ofBegun_99 rfl (lv_at hl 2 rfl) ?_
                  refine lv_iconst (v := 0) hx hb dX7_ofBegun_100 (by decide) ?_
                  refine lv_iconst (v := 1) hx hb dX7_ofBegun_101 (by decide) ?_
                  refine lv_iload_n hx hb dX7_ofBegun_102 rfl (lv_at hl 0 rfl) ?_
                  refine lv_iconst (v := -1) hx hb dX7_ofBegun_103 (by decide) ?_
                  refine lv_iconst (v := -1) hx hb dX7_ofBegun_104 (by decide) ?_
                  obtain ⟨r8, e8, hs⟩ := Option.bind_eq_some_iff.mp hs
                  refine cV_rwv (As := [.int v59_1, .int (0 : Int32), .int (1 : Int32), .int r5, .int (-1 : Int32), .int (-1 : Int32)]) (rest := []) hC (m_X7_findIs l g b z59 H.size v59_1 (0 : Int32) (1 : Int32) r5 (-1 : Int32) (-1 : Int32) r8 e8) (kv_of hB bw_22_3 bw_22_1 bw_22_2 bw_1_5 kd_X7_findIs bw_22_0 rfl rfl ⟨Nat.le_of_ble_eq_true rfl, Nat.le_of_ble_eq_true rfl⟩) hK hP (hD _) hA hS (mW_0 g b z59) rfl rfl hl.1 rfl (Nat.le_of_ble_eq_true rfl) dX7_ofBegun_105 ⟨Nat.zero_le _, Nat.zero_le _⟩ (fun H locs hP hS => ?_)
                  refine lv_iinc (v := (v59_1 + 1)) (lv' := [(1, .int (v59_1 + 1)), (2, .int r5), (0, .ref (b 0))]) hx hb dX7_ofBegun_108 hl (k := 2) rfl (by rfl) (by decide) rfl (fun ls hl => ?_)
                  refine lv_goto (tgt := 59) hx hb dX7_ofBegun_111 (by decide) ?_
                  cases hs
                  exact ih59 (v59_1 + 1) r8 hk59 _ _ hP hS _ (lv_sub hl [2, 0] rfl)
                · have hs := ifp c7 hs
                  refine lv_iload_n hx hb dX7_ofBegun_93 rfl (lv_at hl 0 rfl) ?_
                  refine lv_iconst (v := -1) hx hb dX7_ofBegun_94 (by decide) ?_
                  refine lv_icmp_eq (tgt := 108) hx hb dX7_ofBegun_95 (by decide) (fun c9 => ?_) (fun c9 => ?_)
                  · have hs := ifp c9 hs
                    refine lv_iinc (v := (v59_1 + 1)) (lv' := [(1, .int (v59_1 + 1)), (2, .int r5), (0, .ref (b 0))]) hx hb dX7_ofBegun_108 hl (k := 2) rfl (by rfl) (by decide) rfl (fun ls hl => ?_)
                    refine lv_goto (tgt := 59) hx hb dX7_ofBegun_111 (by decide) ?_
                    cases hs
                    exact ih59 (v59_1 + 1) z59 hk59 _ _ hP hS _ (lv_sub hl [2, 0] rfl)
                  · have hs := ifn c9 hs
                    refine lv_aload_n hx hb dX7_ofBegun_98 rfl (lv_at hl 1 rfl) ?_
                    refine lv_iload_n hx hb dX7_ofBegun_99 rfl (lv_at hl 2 rfl) ?_
                    refine lv_iconst (v := 0) hx hb dX7_ofBegun_100 (by decide) ?_
                    refine lv_iconst (v := 1) hx hb dX7_ofBegun_101 (by decide) ?_
                    refine lv_iload_n hx hb dX7_ofBegun_102 rfl (lv_at hl 0 rfl) ?_
                    refine lv_iconst (v := -1) hx hb dX7_ofBegun_103 (by decide) ?_
                    refine lv_iconst (v := -1) hx hb dX7_ofBegun_104 (by decide) ?_
                    obtain ⟨r10, e10, hs⟩ := Option.bind_eq_some_iff.mp hs
                    refine cV_rwv (As := [.int v59_1, .int (0 : Int32), .int (1 : Int32), .int r5, .int (-1 : Int32), .int (-1 : Int32)]) (rest := []) hC (m_X7_findIs l g b z59 H.size v59_1 (0 : Int32) (1 : Int32) r5 (-1 : Int32) (-1 : Int32) r10 e10) (kv_of hB bw_22_3 bw_22_1 bw_22_2 bw_1_5 kd_X7_findIs bw_22_0 rfl rfl ⟨Nat.le_of_ble_eq_true rfl, Nat.le_of_ble_eq_true rfl⟩) hK hP (hD _) hA hS (mW_0 g b z59) rfl rfl hl.1 rfl (Nat.le_of_ble_eq_true rfl) dX7_ofBegun_105 ⟨Nat.zero_le _, Nat.zero_le _⟩ (fun H locs hP hS => ?_)
                    refine lv_iinc (v := (v59_1 + 1)) (lv' := [(1, .int (v59_1 + 1)), (2, .int r5), (0, .ref (b 0))]) hx hb dX7_ofBegun_108 hl (k := 2) rfl (by rfl) (by decide) rfl (fun ls hl => ?_)
                    refine lv_goto (tgt := 59) hx hb dX7_ofBegun_111 (by decide) ?_
                    cases hs
                    exact ih59 (v59_1 + 1) r10 hk59 _ _ hP hS _ (lv_sub hl [2, 0] rfl)
              · have hs := ifn c4 hs
                refine lv_iconst (v := -1) hx hb dX7_ofBegun_75 (by decide) ?_
                refine lv_goto (tgt := 84) hx hb dX7_ofBegun_76 (by decide) ?_
                refine lv_istore_n (lv' := [(2, .int (-1 : Int32)), (0, .ref (b 0)), (1, .int v59_1)]) hx hb dX7_ofBegun_84 rfl hl (by decide) rfl (fun ls hl => ?_)
                refine lv_aload_n hx hb dX7_ofBegun_85 rfl (lv_at hl 1 rfl) ?_
                refine lv_iload_n hx hb dX7_ofBegun_86 rfl (lv_at hl 2 rfl) ?_
                obtain ⟨r11, e11, hs⟩ := Option.bind_eq_some_iff.mp hs
                refine cV_roi (As := [.int v59_1]) (rest := []) hC (m_X7_isSeed l g b z59 v59_1 r11 e11) (kv_of hB bw_21_15 bw_21_13 bw_21_14 bw_1_5 kd_X7_isSeed bw_21_12 rfl rfl ⟨Nat.le_of_ble_eq_true rfl, Nat.le_of_ble_eq_true rfl⟩) hK hP hP hS (mW_0 g b z59) rfl rfl hl.1 rfl (Nat.le_of_ble_eq_true rfl) dX7_ofBegun_87 ⟨Nat.zero_le _, Nat.zero_le _⟩ (fun H locs hP hS => ?_)
                refine lv_if_ne (tgt := 98) hx hb dX7_ofBegun_90 (by decide) (fun c12 => ?_) (fun c12 => ?_)
                · have hs := ifn c12 hs
                  refine lv_aload_n hx hb dX7_ofBegun_98 rfl (lv_at hl 1 rfl) ?_
                  refine lv_iload_n hx hb dX7_ofBegun_99 rfl (lv_at hl 2 rfl) ?_
                  refine lv_iconst (v := 0) hx hb dX7_ofBegun_100 (by decide) ?_
                  refine lv_iconst (v := 1) hx hb dX7_ofBegun_101 (by decide) ?_
                  refine lv_iload_n hx hb dX7_ofBegun_102 rfl (lv_at hl 0 rfl) ?_
                  refine lv_iconst (v := -1) hx hb dX7_ofBegun_103 (by decide) ?_
                  refine lv_iconst (v := -1) hx hb dX7_ofBegun_104 (by decide) ?_
                  obtain ⟨r13, e13, hs⟩ := Option.bind_eq_some_iff.mp hs
                  refine cV_rwv (As := [.int v59_1, .int (0 : Int32), .int (1 : Int32), .int (-1 : Int32), .int (-1 : Int32), .int (-1 : Int32)]) (rest := []) hC (m_X7_findIs l g b z59 H.size v59_1 (0 : Int32) (1 : Int32) (-1 : Int32) (-1 : Int32) (-1 : Int32) r13 e13) (kv_of hB bw_22_3 bw_22_1 bw_22_2 bw_1_5 kd_X7_findIs bw_22_0 rfl rfl ⟨Nat.le_of_ble_eq_true rfl, Nat.le_of_ble_eq_true rfl⟩) hK hP (hD _) hA hS (mW_0 g b z59) rfl rfl hl.1 rfl (Nat.le_of_ble_eq_true rfl) dX7_ofBegun_105 ⟨Nat.zero_le _, Nat.zero_le _⟩ (fun H locs hP hS => ?_)
                  refine lv_iinc (v := (v59_1 + 1)) (lv' := [(1, .int (v59_1 + 1)), (2, .int (-1 : Int32)), (0, .ref (b 0))]) hx hb dX7_ofBegun_108 hl (k := 2) rfl (by rfl) (by decide) rfl (fun ls hl => ?_)
                  refine lv_goto (tgt := 59) hx hb dX7_ofBegun_111 (by decide) ?_
                  cases hs
                  exact ih59 (v59_1 + 1) r13 hk59 _ _ hP hS _ (lv_sub hl [2, 0] rfl)
                · have hs := ifp c12 hs
                  refine lv_iload_n hx hb dX7_ofBegun_93 rfl (lv_at hl 0 rfl) ?_
                  refine lv_iconst (v := -1) hx hb dX7_ofBegun_94 (by decide) ?_
                  refine lv_icmp_eq (tgt := 108) hx hb dX7_ofBegun_95 (by decide) (fun _ => ?_) (fun c14 => absurd (by decide) c14)
                  refine lv_iinc (v := (v59_1 + 1)) (lv' := [(1, .int (v59_1 + 1)), (2, .int (-1 : Int32)), (0, .ref (b 0))]) hx hb dX7_ofBegun_108 hl (k := 2) rfl (by rfl) (by decide) rfl (fun ls hl => ?_)
                  refine lv_goto (tgt := 59) hx hb dX7_ofBegun_111 (by decide) ?_
                  cases hs
                  exact ih59 (v59_1 + 1) z59 hk59 _ _ hP hS _ (lv_sub hl [2, 0] rfl)
        exact L59 n59 (0 : Int32) z2 hs _ _ hP hS _ (lv_sub hl [1, 0] rfl)
      · have hs := ifn c1 hs
        refine lv_aload_n hx hb dX7_ofBegun_10 rfl (lv_at hl 0 rfl) ?_
        refine lv_iload_n hx hb dX7_ofBegun_11 rfl (lv_at hl 1 rfl) ?_
        obtain ⟨r15, e15, hs⟩ := Option.bind_eq_some_iff.mp hs
        refine cV_roi (As := [.int v2_1]) (rest := []) hC (m_X7_isSeed l g b z2 v2_1 r15 e15) (kv_of hB bw_21_15 bw_21_13 bw_21_14 bw_1_5 kd_X7_isSeed bw_21_12 rfl rfl ⟨Nat.le_of_ble_eq_true rfl, Nat.le_of_ble_eq_true rfl⟩) hK hP hP hS (mW_0 g b z2) rfl rfl hl.1 rfl (Nat.le_of_ble_eq_true rfl) dX7_ofBegun_12 ⟨Nat.zero_le _, Nat.zero_le _⟩ (fun H locs hP hS => ?_)
        refine lv_if_eq (tgt := 22) hx hb dX7_ofBegun_15 (by decide) (fun c16 => ?_) (fun c16 => ?_)
        · have hs := ifp c16 hs
          refine lv_aload_n hx hb dX7_ofBegun_22 rfl (lv_at hl 0 rfl) ?_
          refine lv_iload_n hx hb dX7_ofBegun_23 rfl (lv_at hl 1 rfl) ?_
          obtain ⟨r17, e17, hs⟩ := Option.bind_eq_some_iff.mp hs
          refine cV_roi (As := [.int v2_1]) (rest := []) hC (m_X7_leastTo l g b z2 v2_1 r17 e17) (kv_of hB bw_21_19 bw_21_17 bw_21_18 bw_1_5 kd_X7_leastTo bw_21_16 rfl rfl ⟨Nat.le_of_ble_eq_true rfl, Nat.le_of_ble_eq_true rfl⟩) hK hP hP hS (mW_0 g b z2) rfl rfl hl.1 rfl (Nat.le_of_ble_eq_true rfl) dX7_ofBegun_24 ⟨Nat.zero_le _, Nat.zero_le _⟩ (fun H locs hP hS => ?_)
          refine lv_istore_n (lv' := [(2, .int r17), (0, .ref (b 0)), (1, .int v2_1)]) hx hb dX7_ofBegun_27 rfl hl (by decide) rfl (fun ls hl => ?_)
          refine lv_aload_n hx hb dX7_ofBegun_28 rfl (lv_at hl 1 rfl) ?_
          refine lv_iload_n hx hb dX7_ofBegun_29 rfl (lv_at hl 2 rfl) ?_
          obtain ⟨r18, e18, hs⟩ := Option.bind_eq_some_iff.mp hs
          refine cV_roi (As := [.int v2_1]) (rest := []) hC (m_X7_isSeed l g b z2 v2_1 r18 e18) (kv_of hB bw_21_15 bw_21_13 bw_21_14 bw_1_5 kd_X7_isSeed bw_21_12 rfl rfl ⟨Nat.le_of_ble_eq_true rfl, Nat.le_of_ble_eq_true rfl⟩) hK hP hP hS (mW_0 g b z2) rfl rfl hl.1 rfl (Nat.le_of_ble_eq_true rfl) dX7_ofBegun_30 ⟨Nat.zero_le _, Nat.zero_le _⟩ (fun H locs hP hS => ?_)
          refine lv_if_ne (tgt := 41) hx hb dX7_ofBegun_33 (by decide) (fun c19 => ?_) (fun c19 => ?_)
          · have hs := ifn c19 hs
            refine lv_aload_n hx hb dX7_ofBegun_41 rfl (lv_at hl 1 rfl) ?_
            refine lv_iload_n hx hb dX7_ofBegun_42 rfl (lv_at hl 2 rfl) ?_
            refine lv_iload_n hx hb dX7_ofBegun_43 rfl (lv_at hl 2 rfl) ?_
            refine lv_iconst (v := 0) hx hb dX7_ofBegun_44 (by decide) ?_
            refine lv_iload_n hx hb dX7_ofBegun_45 rfl (lv_at hl 0 rfl) ?_
            refine lv_iconst (v := -1) hx hb dX7_ofBegun_46 (by decide) ?_
            refine lv_iconst (v := -1) hx hb dX7_ofBegun_47 (by decide) ?_
            obtain ⟨r20, e20, hs⟩ := Option.bind_eq_some_iff.mp hs
            refine cV_rwv (As := [.int v2_1, .int v2_1, .int (0 : Int32), .int r17, .int (-1 : Int32), .int (-1 : Int32)]) (rest := []) hC (m_X7_findIs l g b z2 H.size v2_1 v2_1 (0 : Int32) r17 (-1 : Int32) (-1 : Int32) r20 e20) (kv_of hB bw_22_3 bw_22_1 bw_22_2 bw_1_5 kd_X7_findIs bw_22_0 rfl rfl ⟨Nat.le_of_ble_eq_true rfl, Nat.le_of_ble_eq_true rfl⟩) hK hP (hD _) hA hS (mW_0 g b z2) rfl rfl hl.1 rfl (Nat.le_of_ble_eq_true rfl) dX7_ofBegun_48 ⟨Nat.zero_le _, Nat.zero_le _⟩ (fun H locs hP hS => ?_)
            refine lv_iinc (v := (v2_1 + 1)) (lv' := [(1, .int (v2_1 + 1)), (2, .int r17), (0, .ref (b 0))]) hx hb dX7_ofBegun_51 hl (k := 2) rfl (by rfl) (by decide) rfl (fun ls hl => ?_)
            refine lv_goto (tgt := 2) hx hb dX7_ofBegun_54 (by decide) ?_
            cases hs
            exact ih2 (v2_1 + 1) r20 hk2 _ _ hP hS _ (lv_sub hl [2, 0] rfl)
          · have hs := ifp c19 hs
            refine lv_iload_n hx hb dX7_ofBegun_36 rfl (lv_at hl 0 rfl) ?_
            refine lv_iconst (v := -1) hx hb dX7_ofBegun_37 (by decide) ?_
            refine lv_icmp_eq (tgt := 51) hx hb dX7_ofBegun_38 (by decide) (fun c21 => ?_) (fun c21 => ?_)
            · have hs := ifp c21 hs
              refine lv_iinc (v := (v2_1 + 1)) (lv' := [(1, .int (v2_1 + 1)), (2, .int r17), (0, .ref (b 0))]) hx hb dX7_ofBegun_51 hl (k := 2) rfl (by rfl) (by decide) rfl (fun ls hl => ?_)
              refine lv_goto (tgt := 2) hx hb dX7_ofBegun_54 (by decide) ?_
              cases hs
              exact ih2 (v2_1 + 1) z2 hk2 _ _ hP hS _ (lv_sub hl [2, 0] rfl)
            · have hs := ifn c21 hs
              refine lv_aload_n hx hb dX7_ofBegun_41 rfl (lv_at hl 1 rfl) ?_
              refine lv_iload_n hx hb dX7_ofBegun_42 rfl (lv_at hl 2 rfl) ?_
              refine lv_iload_n hx hb dX7_ofBegun_43 rfl (lv_at hl 2 rfl) ?_
              refine lv_iconst (v := 0) hx hb dX7_ofBegun_44 (by decide) ?_
              refine lv_iload_n hx hb dX7_ofBegun_45 rfl (lv_at hl 0 rfl) ?_
              refine lv_iconst (v := -1) hx hb dX7_ofBegun_46 (by decide) ?_
              refine lv_iconst (v := -1) hx hb dX7_ofBegun_47 (by decide) ?_
              obtain ⟨r22, e22, hs⟩ := Option.bind_eq_some_iff.mp hs
              refine cV_rwv (As := [.int v2_1, .int v2_1, .int (0 : Int32), .int r17, .int (-1 : Int32), .int (-1 : Int32)]) (rest := []) hC (m_X7_findIs l g b z2 H.size v2_1 v2_1 (0 : Int32) r17 (-1 : Int32) (-1 : Int32) r22 e22) (kv_of hB bw_22_3 bw_22_1 bw_22_2 bw_1_5 kd_X7_findIs bw_22_0 rfl rfl ⟨Nat.le_of_ble_eq_true rfl, Nat.le_of_ble_eq_true rfl⟩) hK hP (hD _) hA hS (mW_0 g b z2) rfl rfl hl.1 rfl (Nat.le_of_ble_eq_true rfl) dX7_ofBegun_48 ⟨Nat.zero_le _, Nat.zero_le _⟩ (fun H locs hP hS => ?_)
              refine lv_iinc (v := (v2_1 + 1)) (lv' := [(1, .int (v2_1 + 1)), (2, .int r17), (0, .ref (b 0))]) hx hb dX7_ofBegun_51 hl (k := 2) rfl (by rfl) (by decide) rfl (fun ls hl => ?_)
              refine lv_goto (tgt := 2) hx hb dX7_ofBegun_54 (by decide) ?_
              cases hs
              exact ih2 (v2_1 + 1) r22 hk2 _ _ hP hS _ (lv_sub hl [2, 0] rfl)
        · have hs := ifn c16 hs
          refine lv_iconst (v := -1) hx hb dX7_ofBegun_18 (by decide) ?_
          refine lv_goto (tgt := 27) hx hb dX7_ofBegun_19 (by decide) ?_
          refine lv_istore_n (lv' := [(2, .int (-1 : Int32)), (0, .ref (b 0)), (1, .int v2_1)]) hx hb dX7_ofBegun_27 rfl hl (by decide) rfl (fun ls hl => ?_)
          refine lv_aload_n hx hb dX7_ofBegun_28 rfl (lv_at hl 1 rfl) ?_
          refine lv_iload_n hx hb dX7_ofBegun_29 rfl (lv_at hl 2 rfl) ?_
          obtain ⟨r23, e23, hs⟩ := Option.bind_eq_some_iff.mp hs
          refine cV_roi (As := [.int v2_1]) (rest := []) hC (m_X7_isSeed l g b z2 v2_1 r23 e23) (kv_of hB bw_21_15 bw_21_13 bw_21_14 bw_1_5 kd_X7_isSeed bw_21_12 rfl rfl ⟨Nat.le_of_ble_eq_true rfl, Nat.le_of_ble_eq_true rfl⟩) hK hP hP hS (mW_0 g b z2) rfl rfl hl.1 rfl (Nat.le_of_ble_eq_true rfl) dX7_ofBegun_30 ⟨Nat.zero_le _, Nat.zero_le _⟩ (fun H locs hP hS => ?_)
          refine lv_if_ne (tgt := 41) hx hb dX7_ofBegun_33 (by decide) (fun c24 => ?_) (fun c24 => ?_)
          · have hs := ifn c24 hs
            refine lv_aload_n hx hb dX7_ofBegun_41 rfl (lv_at hl 1 rfl) ?_
            refine lv_iload_n hx hb dX7_ofBegun_42 rfl (lv_at hl 2 rfl) ?_
            refine lv_iload_n hx hb dX7_ofBegun_43 rfl (lv_at hl 2 rfl) ?_
            refine lv_iconst (v := 0) hx hb dX7_ofBegun_44 (by decide) ?_
            refine lv_iload_n hx hb dX7_ofBegun_45 rfl (lv_at hl 0 rfl) ?_
            refine lv_iconst (v := -1) hx hb dX7_ofBegun_46 (by decide) ?_
            refine lv_iconst (v := -1) hx hb dX7_ofBegun_47 (by decide) ?_
            obtain ⟨r25, e25, hs⟩ := Option.bind_eq_some_iff.mp hs
            refine cV_rwv (As := [.int v2_1, .int v2_1, .int (0 : Int32), .int (-1 : Int32), .int (-1 : Int32), .int (-1 : Int32)]) (rest := []) hC (m_X7_findIs l g b z2 H.size v2_1 v2_1 (0 : Int32) (-1 : Int32) (-1 : Int32) (-1 : Int32) r25 e25) (kv_of hB bw_22_3 bw_22_1 bw_22_2 bw_1_5 kd_X7_findIs bw_22_0 rfl rfl ⟨Nat.le_of_ble_eq_true rfl, Nat.le_of_ble_eq_true rfl⟩) hK hP (hD _) hA hS (mW_0 g b z2) rfl rfl hl.1 rfl (Nat.le_of_ble_eq_true rfl) dX7_ofBegun_48 ⟨Nat.zero_le _, Nat.zero_le _⟩ (fun H locs hP hS => ?_)
            refine lv_iinc (v := (v2_1 + 1)) (lv' := [(1, .int (v2_1 + 1)), (2, .int (-1 : Int32)), (0, .ref (b 0))]) hx hb dX7_ofBegun_51 hl (k := 2) rfl (by rfl) (by decide) rfl (fun ls hl => ?_)
            refine lv_goto (tgt := 2) hx hb dX7_ofBegun_54 (by decide) ?_
            cases hs
            exact ih2 (v2_1 + 1) r25 hk2 _ _ hP hS _ (lv_sub hl [2, 0] rfl)
          · have hs := ifp c24 hs
            refine lv_iload_n hx hb dX7_ofBegun_36 rfl (lv_at hl 0 rfl) ?_
            refine lv_iconst (v := -1) hx hb dX7_ofBegun_37 (by decide) ?_
            refine lv_icmp_eq (tgt := 51) hx hb dX7_ofBegun_38 (by decide) (fun _ => ?_) (fun c26 => absurd (by decide) c26)
            refine lv_iinc (v := (v2_1 + 1)) (lv' := [(1, .int (v2_1 + 1)), (2, .int (-1 : Int32)), (0, .ref (b 0))]) hx hb dX7_ofBegun_51 hl (k := 2) rfl (by rfl) (by decide) rfl (fun ls hl => ?_)
            refine lv_goto (tgt := 2) hx hb dX7_ofBegun_54 (by decide) ?_
            cases hs
            exact ih2 (v2_1 + 1) z2 hk2 _ _ hP hS _ (lv_sub hl [2, 0] rfl)
  exact L2 n2 (0 : Int32) st hs _ _ hP hS _ (lv_sub hl [1, 0] rfl)
noncomputable def b_X7_ofMeets_94 (c94_1 : Int32) (v94_2 : Int32) (z94 : MS) : Option ((Int32 × MS) ⊕ ((Int32 × MS) ⊕ MS)) :=
  (if (z94 0 0) ≤ v94_2 then some (Sum.inr (Sum.inl ((c94_1 + 1), z94))) else (Option.bind (rd 28 (z94 2) v94_2) (fun r4 => (if r4 = (3 : Int32) then (Option.bind (rd 28 (z94 3) v94_2) (fun r6 => (Option.bind (rd 784 (z94 16) (((28 : Int32) * c94_1) + r6)) (fun r7 => (if r7 = (-1 : Int32) then some (Sum.inl ((v94_2 + 1), z94)) else (Option.bind (rd 28 (z94 4) v94_2) (fun r9 => (Option.bind (rd 784 (z94 16) (((28 : Int32) * c94_1) + r9)) (fun r10 => (if r10 = (-1 : Int32) then some (Sum.inl ((v94_2 + 1), z94)) else (Option.bind (rd 28 (z94 3) v94_2) (fun r12 => (Option.bind (rd 784 (z94 16) (((28 : Int32) * c94_1) + r12)) (fun r13 => (Option.bind (rd 28 (z94 4) v94_2) (fun r14 => (Option.bind (rd 784 (z94 16) (((28 : Int32) * c94_1) + r14)) (fun r15 => (Option.bind (f_X7_findIs z94 c94_1 v94_2 (3 : Int32) r13 r15 (-1 : Int32)) (fun r16 => some (Sum.inl ((v94_2 + 1), r16)))))))))))))))))))))) else some (Sum.inl ((v94_2 + 1), z94))))))
noncomputable def b_X7_ofMeets_84 (v84_1 : Int32) (z84 : MS) : Option ((Int32 × MS) ⊕ MS) :=
  (if (z84 0 0) ≤ v84_1 then some (Sum.inr (z84)) else (loopC (fun v => b_X7_ofMeets_94 v84_1 v.1 v.2) ((0 : Int32), z84)))
noncomputable def b_X7_ofMeets_2 (v2_1 : Int32) (z2 : MS) : Option ((Int32 × MS) ⊕ MS) :=
  (if (z2 13 0) ≤ v2_1 then (Option.map (fun z => Sum.inr (z)) (loopC (fun v => b_X7_ofMeets_84 v.1 v.2) ((0 : Int32), z2))) else (Option.bind (f_X7_fact z2 v2_1 (2 : Int32)) (fun r17 => (Option.bind (f_X7_fact z2 v2_1 (0 : Int32)) (fun r18 => (if r18 = 0 then (Option.bind (rd 28 (z2 2) r17) (fun r20 => (if r20 = (3 : Int32) then (Option.bind (f_X7_fact z2 v2_1 (1 : Int32)) (fun r22 => (Option.bind (rd 28 (z2 3) r17) (fun r23 => (Option.bind (f_X7_findIs z2 r22 r23 (2 : Int32) v2_1 (-1 : Int32) (-1 : Int32)) (fun r24 => (Option.bind (f_X7_fact r24 v2_1 (1 : Int32)) (fun r25 => (Option.bind (rd 28 (r24 4) r17) (fun r26 => (Option.bind (f_X7_findIs r24 r25 r26 (2 : Int32) v2_1 (-1 : Int32) (-1 : Int32)) (fun r27 => some (Sum.inl ((v2_1 + 1), r27)))))))))))))) else some (Sum.inl ((v2_1 + 1), z2))))) else some (Sum.inl ((v2_1 + 1), z2))))))))
noncomputable def f_X7_ofMeets (st : MS) : Option MS :=
  (loopC (fun v => b_X7_ofMeets_2 v.1 v.2) ((0 : Int32), st))
set_option maxHeartbeats 4000000 in
set_option maxRecDepth 100000 in
theorem m_X7_ofMeets (l : Launch) (g : GG) (b : Nat → Nat) (st : MS) (sz : Nat)  (res : MS) (hs : f_X7_ofMeets st = some res) : Met l yX7_ofMeets (Cond.code yX7_ofMeets cX7_ofMeets 3 none :: BIG) ({ frames := 1, cells := 0, slots := 0, locals := 27 } : Room) (va_Pc [.ref (b 0)] (RWp g (mW g b st) sz)) (RWv g (mW g b res) (va_A (mW g b st) sz)) 0 0 (va_A (mW g b st) sz) := by
  refine rw_start (cc := cX7_ofMeets) (maxL := 3) (ret := none) (lv := [(0, .ref (b 0))]) (Qc := fun A => (RWv g (mW g b res) A)) (by decide) rfl (Nat.le_of_ble_eq_true rfl) rfl ?_
  intro p e s m args below meth c hx hb hml hr hts hown hlk hK A hD0 hA H locs hP hS ls hl
  have hD : ∀ st' : MS, va_D A (mW g b st') := fun _ => mW_D hD0
  have hB : ∀ w ∈ BIG, w.before args s = true := fun w h => hts w (List.mem_cons_of_mem _ h)
  have hC : CallFix p m c cX7_ofMeets 3 s args BIG RX7 := ⟨hx, hb, hml, hown, hB⟩
  unfold f_X7_ofMeets at hs
  refine lv_iconst (v := 0) hx hb dX7_ofMeets_0 (by decide) ?_
  refine lv_istore_n (lv' := [(1, .int (0 : Int32)), (0, .ref (b 0))]) hx hb dX7_ofMeets_1 rfl hl (by decide) rfl (fun ls hl => ?_)
  obtain ⟨n2, hs⟩ := loopC_iter hs
  have L2 : ∀ (n : Nat) (v2_1 : Int32) (z2 : MS), iterO (fun v => b_X7_ofMeets_2 v.1 v.2) n (v2_1, z2) = some res → ∀ (H : Heap) (locs : List Loc), va_P g.1 vwCl (mW g b z2) H → va_S A s.heap H locs → ∀ ls : Array Slot, lv_has ls 3 [(0, .ref (b 0)), (1, .int v2_1)] → W p l e ({ frames := 1, cells := 0, slots := 0, locals := 27 } : Room) s m args below meth c H locs 0 0 (MQ below (RWv g (mW g b res) A) args s 0 0 A) (F0 m 2 ls []) := by
    intro n
    induction n with
    | zero => intro v2_1 z2 hs; exact (iterO_zero hs).elim
    | succ n ih2 =>
      intro v2_1 z2 hs H locs hP hS ls hl
      obtain ⟨y2, hs, hk2⟩ := iterO_succ hs
      have hs : b_X7_ofMeets_2 v2_1 z2 = some y2 := hs
      unfold b_X7_ofMeets_2 at hs
      refine lv_iload_n hx hb dX7_ofMeets_2 rfl (lv_at hl 1 rfl) ?_
      refine lv_aload_n hx hb dX7_ofMeets_3 rfl (lv_at hl 0 rfl) ?_
      refine mg_13 hx hb hB hown hK hP dX7_ofMeets_4 ?_
      refine lv_icmp_ge (tgt := 82) hx hb dX7_ofMeets_7 (by decide) (fun c1 => ?_) (fun c1 => ?_)
      · have hs := ifp c1 hs
        refine lv_iconst (v := 0) hx hb dX7_ofMeets_82 (by decide) ?_
        refine lv_istore_n (lv' := [(1, .int (0 : Int32)), (0, .ref (b 0))]) hx hb dX7_ofMeets_83 rfl hl (by decide) rfl (fun ls hl => ?_)
        obtain ⟨w84, hm84, hw84⟩ := Option.map_eq_some_iff.mp hs
        clear hs
        cases hw84
        cases elim_inr hk2
        have hs := hm84
        obtain ⟨n84, hs⟩ := loopC_iter hs
        have L84 : ∀ (n : Nat) (v84_1 : Int32) (z84 : MS), iterO (fun v => b_X7_ofMeets_84 v.1 v.2) n (v84_1, z84) = some res → ∀ (H : Heap) (locs : List Loc), va_P g.1 vwCl (mW g b z84) H → va_S A s.heap H locs → ∀ ls : Array Slot, lv_has ls 3 [(0, .ref (b 0)), (1, .int v84_1)] → W p l e ({ frames := 1, cells := 0, slots := 0, locals := 27 } : Room) s m args below meth c H locs 0 0 (MQ below (RWv g (mW g b res) A) args s 0 0 A) (F0 m 84 ls []) := by
          intro n
          induction n with
          | zero => intro v84_1 z84 hs; exact (iterO_zero hs).elim
          | succ n ih84 =>
            intro v84_1 z84 hs H locs hP hS ls hl
            obtain ⟨y84, hs, hk84⟩ := iterO_succ hs
            have hs : b_X7_ofMeets_84 v84_1 z84 = some y84 := hs
            unfold b_X7_ofMeets_84 at hs
            refine lv_iload_n hx hb dX7_ofMeets_84 rfl (lv_at hl 1 rfl) ?_
            refine lv_aload_n hx hb dX7_ofMeets_85 rfl (lv_at hl 0 rfl) ?_
            refine mg_0 hx hb hB hown hK hP dX7_ofMeets_86 ?_
            refine lv_icmp_ge (tgt := 204) hx hb dX7_ofMeets_89 (by decide) (fun c2 => ?_) (fun c2 => ?_)
            · have hs := ifp c2 hs
              cases hs
              cases elim_inr hk84
              exact ret_rwv hx hb hr hlk hP hS dX7_ofMeets_204
            · have hs := ifn c2 hs
              refine lv_iconst (v := 0) hx hb dX7_ofMeets_92 (by decide) ?_
              refine lv_istore_n (lv' := [(2, .int (0 : Int32)), (0, .ref (b 0)), (1, .int v84_1)]) hx hb dX7_ofMeets_93 rfl hl (by decide) rfl (fun ls hl => ?_)
              obtain ⟨n94, hs⟩ := loopC_iter hs
              have L94 : ∀ (n : Nat) (v94_2 : Int32) (z94 : MS), iterO (fun v => b_X7_ofMeets_94 v84_1 v.1 v.2) n (v94_2, z94) = some y84 → ∀ (H : Heap) (locs : List Loc), va_P g.1 vwCl (mW g b z94) H → va_S A s.heap H locs → ∀ ls : Array Slot, lv_has ls 3 [(0, .ref (b 0)), (1, .int v84_1), (2, .int v94_2)] → W p l e ({ frames := 1, cells := 0, slots := 0, locals := 27 } : Room) s m args below meth c H locs 0 0 (MQ below (RWv g (mW g b res) A) args s 0 0 A) (F0 m 94 ls []) := by
                intro n
                induction n with
                | zero => intro v94_2 z94 hs; exact (iterO_zero hs).elim
                | succ n ih94 =>
                  intro v94_2 z94 hs H locs hP hS ls hl
                  obtain ⟨y94, hs, hk94⟩ := iterO_succ hs
                  have hs : b_X7_ofMeets_94 v84_1 v94_2 z94 = some y94 := hs
                  unfold b_X7_ofMeets_94 at hs
                  refine lv_iload_n hx hb dX7_ofMeets_94 rfl (lv_at hl 2 rfl) ?_
                  refine lv_aload_n hx hb dX7_ofMeets_95 rfl (lv_at hl 0 rfl) ?_
                  refine mg_0 hx hb hB hown hK hP dX7_ofMeets_96 ?_
                  refine lv_icmp_ge (tgt := 198) hx hb dX7_ofMeets_99 (by decide) (fun c3 => ?_) (fun c3 => ?_)
                  · have hs := ifp c3 hs
                    refine lv_iinc (v := (v84_1 + 1)) (lv' := [(1, .int (v84_1 + 1)), (0, .ref (b 0)), (2, .int v94_2)]) hx hb dX7_ofMeets_198 hl (k := 1) rfl (by rfl) (by decide) rfl (fun ls hl => ?_)
                    refine lv_goto (tgt := 84) hx hb dX7_ofMeets_201 (by decide) ?_
                    cases hs
                    cases elim_inr hk94
                    exact ih84 (v84_1 + 1) z94 hk84 _ _ hP hS _ (lv_sub hl [1, 0] rfl)
                  · have hs := ifn c3 hs
                    refine lv_aload_n hx hb dX7_ofMeets_102 rfl (lv_at hl 0 rfl) ?_
                    refine mg_2 hx hb hB hown hK hP dX7_ofMeets_103 ?_
                    refine lv_iload_n hx hb dX7_ofMeets_106 rfl (lv_at hl 2 rfl) ?_
                    obtain ⟨r4, e4, hs⟩ := Option.bind_eq_some_iff.mp hs
                    refine ml_2 hx hb hK hP e4 dX7_ofMeets_107 ?_
                    refine lv_iconst (v := 3) hx hb dX7_ofMeets_108 (by decide) ?_
                    refine lv_icmp_ne (tgt := 192) hx hb dX7_ofMeets_109 (by decide) (fun c5 => ?_) (fun c5 => ?_)
                    · have hs := ifn c5 hs
                      refine lv_iinc (v := (v94_2 + 1)) (lv' := [(2, .int (v94_2 + 1)), (0, .ref (b 0)), (1, .int v84_1)]) hx hb dX7_ofMeets_192 hl (k := 2) rfl (by rfl) (by decide) rfl (fun ls hl => ?_)
                      refine lv_goto (tgt := 94) hx hb dX7_ofMeets_195 (by decide) ?_
                      cases hs
                      exact ih94 (v94_2 + 1) z94 hk94 _ _ hP hS _ (lv_sub hl [1, 2, 0] rfl)
                    · have hs := ifp c5 hs
                      refine lv_aload_n hx hb dX7_ofMeets_112 rfl (lv_at hl 0 rfl) ?_
                      refine mg_16 hx hb hB hown hK hP dX7_ofMeets_113 ?_
                      refine lv_bipush (v := 28) hx hb dX7_ofMeets_116 (by decide) ?_
                      refine lv_iload_n hx hb dX7_ofMeets_118 rfl (lv_at hl 1 rfl) ?_
                      refine lv_imul hx hb dX7_ofMeets_119 ?_
                      refine lv_aload_n hx hb dX7_ofMeets_120 rfl (lv_at hl 0 rfl) ?_
                      refine mg_3 hx hb hB hown hK hP dX7_ofMeets_121 ?_
                      refine lv_iload_n hx hb dX7_ofMeets_124 rfl (lv_at hl 2 rfl) ?_
                      obtain ⟨r6, e6, hs⟩ := Option.bind_eq_some_iff.mp hs
                      refine ml_3 hx hb hK hP e6 dX7_ofMeets_125 ?_
                      refine lv_iadd hx hb dX7_ofMeets_126 ?_
                      obtain ⟨r7, e7, hs⟩ := Option.bind_eq_some_iff.mp hs
                      refine ml_16 hx hb hK hP e7 dX7_ofMeets_127 ?_
                      refine lv_iconst (v := -1) hx hb dX7_ofMeets_128 (by decide) ?_
                      refine lv_icmp_eq (tgt := 192) hx hb dX7_ofMeets_129 (by decide) (fun c8 => ?_) (fun c8 => ?_)
                      · have hs := ifp c8 hs
                        refine lv_iinc (v := (v94_2 + 1)) (lv' := [(2, .int (v94_2 + 1)), (0, .ref (b 0)), (1, .int v84_1)]) hx hb dX7_ofMeets_192 hl (k := 2) rfl (by rfl) (by decide) rfl (fun ls hl => ?_)
                        refine lv_goto (tgt := 94) hx hb dX7_ofMeets_195 (by decide) ?_
                        cases hs
                        exact ih94 (v94_2 + 1) z94 hk94 _ _ hP hS _ (lv_sub hl [1, 2, 0] rfl)
                      · have hs := ifn c8 hs
                        refine lv_aload_n hx hb dX7_ofMeets_132 rfl (lv_at hl 0 rfl) ?_
                        refine mg_16 hx hb hB hown hK hP dX7_ofMeets_133 ?_
                        refine lv_bipush (v := 28) hx hb dX7_ofMeets_136 (by decide) ?_
                        refine lv_iload_n hx hb dX7_ofMeets_138 rfl (lv_at hl 1 rfl) ?_
                        refine lv_imul hx hb dX7_ofMeets_139 ?_
                        refine lv_aload_n hx hb dX7_ofMeets_140 rfl (lv_at hl 0 rfl) ?_
                        refine mg_4 hx hb hB hown hK hP dX7_ofMeets_141 ?_
                        refine lv_iload_n hx hb dX7_ofMeets_144 rfl (lv_at hl 2 rfl) ?_
                        obtain ⟨r9, e9, hs⟩ := Option.bind_eq_some_iff.mp hs
                        refine ml_4 hx hb hK hP e9 dX7_ofMeets_145 ?_
                        refine lv_iadd hx hb dX7_ofMeets_146 ?_
                        obtain ⟨r10, e10, hs⟩ := Option.bind_eq_some_iff.mp hs
                        refine ml_16 hx hb hK hP e10 dX7_ofMeets_147 ?_
                        refine lv_iconst (v := -1) hx hb dX7_ofMeets_148 (by decide) ?_
                        refine lv_icmp_eq (tgt := 192) hx hb dX7_ofMeets_149 (by decide) (fun c11 => ?_) (fun c11 => ?_)
                        · have hs := ifp c11 hs
                          refine lv_iinc (v := (v94_2 + 1)) (lv' := [(2, .int (v94_2 + 1)), (0, .ref (b 0)), (1, .int v84_1)]) hx hb dX7_ofMeets_192 hl (k := 2) rfl (by rfl) (by decide) rfl (fun ls hl => ?_)
                          refine lv_goto (tgt := 94) hx hb dX7_ofMeets_195 (by decide) ?_
                          cases hs
                          exact ih94 (v94_2 + 1) z94 hk94 _ _ hP hS _ (lv_sub hl [1, 2, 0] rfl)
                        · have hs := ifn c11 hs
                          refine lv_aload_n hx hb dX7_ofMeets_152 rfl (lv_at hl 0 rfl) ?_
                          refine lv_iload_n hx hb dX7_ofMeets_153 rfl (lv_at hl 1 rfl) ?_
                          refine lv_iload_n hx hb dX7_ofMeets_154 rfl (lv_at hl 2 rfl) ?_
                          refine lv_iconst (v := 3) hx hb dX7_ofMeets_155 (by decide) ?_
                          refine lv_aload_n hx hb dX7_ofMeets_156 rfl (lv_at hl 0 rfl) ?_
                          refine mg_16 hx hb hB hown hK hP dX7_ofMeets_157 ?_
                          refine lv_bipush (v := 28) hx hb dX7_ofMeets_160 (by decide) ?_
                          refine lv_iload_n hx hb dX7_ofMeets_162 rfl (lv_at hl 1 rfl) ?_
                          refine lv_imul hx hb dX7_ofMeets_163 ?_
                          refine lv_aload_n hx hb dX7_ofMeets_164 rfl (lv_at hl 0 rfl) ?_
                          refine mg_3 hx hb hB hown hK hP dX7_ofMeets_165 ?_
                          refine lv_iload_n hx hb dX7_ofMeets_168 rfl (lv_at hl 2 rfl) ?_
                          obtain ⟨r12, e12, hs⟩ := Option.bind_eq_some_iff.mp hs
                          refine ml_3 hx hb hK hP e12 dX7_ofMeets_169 ?_
                          refine lv_iadd hx hb dX7_ofMeets_170 ?_
                          obtain ⟨r13, e13, hs⟩ := Option.bind_eq_some_iff.mp hs
                          refine ml_16 hx hb hK hP e13 dX7_ofMeets_171 ?_
                          refine lv_aload_n hx hb dX7_ofMeets_172 rfl (lv_at hl 0 rfl) ?_
                          refine mg_16 hx hb hB hown hK hP dX7_ofMeets_173 ?_
                          refine lv_bipush (v := 28) hx hb dX7_ofMeets_176 (by decide) ?_
                          refine lv_iload_n hx hb dX7_ofMeets_178 rfl (lv_at hl 1 rfl) ?_
                          refine lv_imul hx hb dX7_ofMeets_179 ?_
                          refine lv_aload_n hx hb dX7_ofMeets_180 rfl (lv_at hl 0 rfl) ?_
                          refine mg_4 hx hb hB hown hK hP dX7_ofMeets_181 ?_
                          refine lv_iload_n hx hb dX7_ofMeets_184 rfl (lv_at hl 2 rfl) ?_
                          obtain ⟨r14, e14, hs⟩ := Option.bind_eq_some_iff.mp hs
                          refine ml_4 hx hb hK hP e14 dX7_ofMeets_185 ?_
                          refine lv_iadd hx hb dX7_ofMeets_186 ?_
                          obtain ⟨r15, e15, hs⟩ := Option.bind_eq_some_iff.mp hs
                          refine ml_16 hx hb hK hP e15 dX7_ofMeets_187 ?_
                          refine lv_iconst (v := -1) hx hb dX7_ofMeets_188 (by decide) ?_
                          obtain ⟨r16, e16, hs⟩ := Option.bind_eq_some_iff.mp hs
                          refine cV_rwv (As := [.int v84_1, .int v94_2, .int (3 : Int32), .int r13, .int r15, .int (-1 : Int32)]) (rest := []) hC (m_X7_findIs l g b z94 H.size v84_1 v94_2 (3 : Int32) r13 r15 (-1 : Int32) r16 e16) (kv_of hB bw_22_3 bw_22_1 bw_22_2 bw_1_5 kd_X7_findIs bw_22_0 rfl rfl ⟨Nat.le_of_ble_eq_true rfl, Nat.le_of_ble_eq_true rfl⟩) hK hP (hD _) hA hS (mW_0 g b z94) rfl rfl hl.1 rfl (Nat.le_of_ble_eq_true rfl) dX7_ofMeets_189 ⟨Nat.zero_le _, Nat.zero_le _⟩ (fun H locs hP hS => ?_)
                          refine lv_iinc (v := (v94_2 + 1)) (lv' := [(2, .int (v94_2 + 1)), (0, .ref (b 0)), (1, .int v84_1)]) hx hb dX7_ofMeets_192 hl (k := 2) rfl (by rfl) (by decide) rfl (fun ls hl => ?_)
                          refine lv_goto (tgt := 94) hx hb dX7_ofMeets_195 (by decide) ?_
                          cases hs
                          exact ih94 (v94_2 + 1) r16 hk94 _ _ hP hS _ (lv_sub hl [1, 2, 0] rfl)
              exact L94 n94 (0 : Int32) z84 hs _ _ hP hS _ (lv_sub hl [1, 2, 0] rfl)
        exact L84 n84 (0 : Int32) z2 hs _ _ hP hS _ (lv_sub hl [1, 0] rfl)
      · have hs := ifn c1 hs
        refine lv_aload_n hx hb dX7_ofMeets_10 rfl (lv_at hl 0 rfl) ?_
        refine lv_iload_n hx hb dX7_ofMeets_11 rfl (lv_at hl 1 rfl) ?_
        refine lv_iconst (v := 2) hx hb dX7_ofMeets_12 (by decide) ?_
        obtain ⟨r17, e17, hs⟩ := Option.bind_eq_some_iff.mp hs
        refine cV_roi (As := [.int v2_1, .int (2 : Int32)]) (rest := []) hC (m_X7_fact l g b z2 v2_1 (2 : Int32) r17 e17) (kv_of hB bw_21_23 bw_21_21 bw_21_22 bw_1_5 kd_X7_fact bw_21_20 rfl rfl ⟨Nat.le_of_ble_eq_true rfl, Nat.le_of_ble_eq_true rfl⟩) hK hP hP hS (mW_0 g b z2) rfl rfl hl.1 rfl (Nat.le_of_ble_eq_true rfl) dX7_ofMeets_13 ⟨Nat.zero_le _, Nat.zero_le _⟩ (fun H locs hP hS => ?_)
        refine lv_istore_n (lv' := [(2, .int r17), (0, .ref (b 0)), (1, .int v2_1)]) hx hb dX7_ofMeets_16 rfl hl (by decide) rfl (fun ls hl => ?_)
        refine lv_aload_n hx hb dX7_ofMeets_17 rfl (lv_at hl 1 rfl) ?_
        refine lv_iload_n hx hb dX7_ofMeets_18 rfl (lv_at hl 2 rfl) ?_
        refine lv_iconst (v := 0) hx hb dX7_ofMeets_19 (by decide) ?_
        obtain ⟨r18, e18, hs⟩ := Option.bind_eq_some_iff.mp hs
        refine cV_roi (As := [.int v2_1, .int (0 : Int32)]) (rest := []) hC (m_X7_fact l g b z2 v2_1 (0 : Int32) r18 e18) (kv_of hB bw_21_23 bw_21_21 bw_21_22 bw_1_5 kd_X7_fact bw_21_20 rfl rfl ⟨Nat.le_of_ble_eq_true rfl, Nat.le_of_ble_eq_true rfl⟩) hK hP hP hS (mW_0 g b z2) rfl rfl hl.1 rfl (Nat.le_of_ble_eq_true rfl) dX7_ofMeets_20 ⟨Nat.zero_le _, Nat.zero_le _⟩ (fun H locs hP hS => ?_)
        refine lv_if_ne (tgt := 76) hx hb dX7_ofMeets_23 (by decide) (fun c19 => ?_) (fun c19 => ?_)
        · have hs := ifn c19 hs
          refine lv_iinc (v := (v2_1 + 1)) (lv' := [(1, .int (v2_1 + 1)), (2, .int r17), (0, .ref (b 0))]) hx hb dX7_ofMeets_76 hl (k := 2) rfl (by rfl) (by decide) rfl (fun ls hl => ?_)
          refine lv_goto (tgt := 2) hx hb dX7_ofMeets_79 (by decide) ?_
          cases hs
          exact ih2 (v2_1 + 1) z2 hk2 _ _ hP hS _ (lv_sub hl [2, 0] rfl)
        · have hs := ifp c19 hs
          refine lv_aload_n hx hb dX7_ofMeets_26 rfl (lv_at hl 1 rfl) ?_
          refine mg_2 hx hb hB hown hK hP dX7_ofMeets_27 ?_
          refine lv_iload_n hx hb dX7_ofMeets_30 rfl (lv_at hl 0 rfl) ?_
          obtain ⟨r20, e20, hs⟩ := Option.bind_eq_some_iff.mp hs
          refine ml_2 hx hb hK hP e20 dX7_ofMeets_31 ?_
          refine lv_iconst (v := 3) hx hb dX7_ofMeets_32 (by decide) ?_
          refine lv_icmp_ne (tgt := 76) hx hb dX7_ofMeets_33 (by decide) (fun c21 => ?_) (fun c21 => ?_)
          · have hs := ifn c21 hs
            refine lv_iinc (v := (v2_1 + 1)) (lv' := [(1, .int (v2_1 + 1)), (2, .int r17), (0, .ref (b 0))]) hx hb dX7_ofMeets_76 hl (k := 2) rfl (by rfl) (by decide) rfl (fun ls hl => ?_)
            refine lv_goto (tgt := 2) hx hb dX7_ofMeets_79 (by decide) ?_
            cases hs
            exact ih2 (v2_1 + 1) z2 hk2 _ _ hP hS _ (lv_sub hl [2, 0] rfl)
          · have hs := ifp c21 hs
            refine lv_aload_n hx hb dX7_ofMeets_36 rfl (lv_at hl 1 rfl) ?_
            refine lv_aload_n hx hb dX7_ofMeets_37 rfl (lv_at hl 1 rfl) ?_
            refine lv_iload_n hx hb dX7_ofMeets_38 rfl (lv_at hl 2 rfl) ?_
            refine lv_iconst (v := 1) hx hb dX7_ofMeets_39 (by decide) ?_
            obtain ⟨r22, e22, hs⟩ := Option.bind_eq_some_iff.mp hs
            refine cV_roi (As := [.int v2_1, .int (1 : Int32)]) (rest := [.ref (b 0)]) hC (m_X7_fact l g b z2 v2_1 (1 : Int32) r22 e22) (kv_of hB bw_21_23 bw_21_21 bw_21_22 bw_1_5 kd_X7_fact bw_21_20 rfl rfl ⟨Nat.le_of_ble_eq_true rfl, Nat.le_of_ble_eq_true rfl⟩) hK hP hP hS (mW_0 g b z2) rfl rfl hl.1 rfl (Nat.le_of_ble_eq_true rfl) dX7_ofMeets_40 ⟨Nat.zero_le _, Nat.zero_le _⟩ (fun H locs hP hS => ?_)
            refine lv_aload_n hx hb dX7_ofMeets_43 rfl (lv_at hl 1 rfl) ?_
            refine mg_3 hx hb hB hown hK hP dX7_ofMeets_44 ?_
            refine lv_iload_n hx hb dX7_ofMeets_47 rfl (lv_at hl 0 rfl) ?_
            obtain ⟨r23, e23, hs⟩ := Option.bind_eq_some_iff.mp hs
            refine ml_3 hx hb hK hP e23 dX7_ofMeets_48 ?_
            refine lv_iconst (v := 2) hx hb dX7_ofMeets_49 (by decide) ?_
            refine lv_iload_n hx hb dX7_ofMeets_50 rfl (lv_at hl 2 rfl) ?_
            refine lv_iconst (v := -1) hx hb dX7_ofMeets_51 (by decide) ?_
            refine lv_iconst (v := -1) hx hb dX7_ofMeets_52 (by decide) ?_
            obtain ⟨r24, e24, hs⟩ := Option.bind_eq_some_iff.mp hs
            refine cV_rwv (As := [.int r22, .int r23, .int (2 : Int32), .int v2_1, .int (-1 : Int32), .int (-1 : Int32)]) (rest := []) hC (m_X7_findIs l g b z2 H.size r22 r23 (2 : Int32) v2_1 (-1 : Int32) (-1 : Int32) r24 e24) (kv_of hB bw_22_3 bw_22_1 bw_22_2 bw_1_5 kd_X7_findIs bw_22_0 rfl rfl ⟨Nat.le_of_ble_eq_true rfl, Nat.le_of_ble_eq_true rfl⟩) hK hP (hD _) hA hS (mW_0 g b z2) rfl rfl hl.1 rfl (Nat.le_of_ble_eq_true rfl) dX7_ofMeets_53 ⟨Nat.zero_le _, Nat.zero_le _⟩ (fun H locs hP hS => ?_)
            refine lv_aload_n hx hb dX7_ofMeets_56 rfl (lv_at hl 1 rfl) ?_
            refine lv_aload_n hx hb dX7_ofMeets_57 rfl (lv_at hl 1 rfl) ?_
            refine lv_iload_n hx hb dX7_ofMeets_58 rfl (lv_at hl 2 rfl) ?_
            refine lv_iconst (v := 1) hx hb dX7_ofMeets_59 (by decide) ?_
            obtain ⟨r25, e25, hs⟩ := Option.bind_eq_some_iff.mp hs
            refine cV_roi (As := [.int v2_1, .int (1 : Int32)]) (rest := [.ref (b 0)]) hC (m_X7_fact l g b r24 v2_1 (1 : Int32) r25 e25) (kv_of hB bw_21_23 bw_21_21 bw_21_22 bw_1_5 kd_X7_fact bw_21_20 rfl rfl ⟨Nat.le_of_ble_eq_true rfl, Nat.le_of_ble_eq_true rfl⟩) hK hP hP hS (mW_0 g b r24) rfl rfl hl.1 rfl (Nat.le_of_ble_eq_true rfl) dX7_ofMeets_60 ⟨Nat.zero_le _, Nat.zero_le _⟩ (fun H locs hP hS => ?_)
            refine lv_aload_n hx hb dX7_ofMeets_63 rfl (lv_at hl 1 rfl) ?_
            refine mg_4 hx hb hB hown hK hP dX7_ofMeets_64 ?_
            refine lv_iload_n hx hb dX7_ofMeets_67 rfl (lv_at hl 0 rfl) ?_
            obtain ⟨r26, e26, hs⟩ := Option.bind_eq_some_iff.mp hs
            refine ml_4 hx hb hK hP e26 dX7_ofMeets_68 ?_
            refine lv_iconst (v := 2) hx hb dX7_ofMeets_69 (by decide) ?_
            refine lv_iload_n hx hb dX7_ofMeets_70 rfl (lv_at hl 2 rfl) ?_
            refine lv_iconst (v := -1) hx hb dX7_ofMeets_71 (by decide) ?_
            refine lv_iconst (v := -1) hx hb dX7_ofMeets_72 (by decide) ?_
            obtain ⟨r27, e27, hs⟩ := Option.bind_eq_some_iff.mp hs
            refine cV_rwv (As := [.int r25, .int r26, .int (2 : Int32), .int v2_1, .int (-1 : Int32), .int (-1 : Int32)]) (rest := []) hC (m_X7_findIs l g b r24 H.size r25 r26 (2 : Int32) v2_1 (-1 : Int32) (-1 : Int32) r27 e27) (kv_of hB bw_22_3 bw_22_1 bw_22_2 bw_1_5 kd_X7_findIs bw_22_0 rfl rfl ⟨Nat.le_of_ble_eq_true rfl, Nat.le_of_ble_eq_true rfl⟩) hK hP (hD _) hA hS (mW_0 g b r24) rfl rfl hl.1 rfl (Nat.le_of_ble_eq_true rfl) dX7_ofMeets_73 ⟨Nat.zero_le _, Nat.zero_le _⟩ (fun H locs hP hS => ?_)
            refine lv_iinc (v := (v2_1 + 1)) (lv' := [(1, .int (v2_1 + 1)), (2, .int r17), (0, .ref (b 0))]) hx hb dX7_ofMeets_76 hl (k := 2) rfl (by rfl) (by decide) rfl (fun ls hl => ?_)
            refine lv_goto (tgt := 2) hx hb dX7_ofMeets_79 (by decide) ?_
            cases hs
            exact ih2 (v2_1 + 1) r27 hk2 _ _ hP hS _ (lv_sub hl [2, 0] rfl)
  exact L2 n2 (0 : Int32) st hs _ _ hP hS _ (lv_sub hl [1, 0] rfl)
noncomputable def b_X7_ofAxioms_12 (c12_1 : Int32) (v12_2 : Int32) (z12 : MS) : Option ((Int32 × MS) ⊕ ((Int32 × MS) ⊕ MS)) :=
  (if (z12 5 0) ≤ v12_2 then some (Sum.inr (Sum.inl ((c12_1 + 1), z12))) else (Option.bind (f_X7_fact z12 c12_1 (0 : Int32)) (fun r3 => (if r3 = 0 then (Option.bind (rd 40 (z12 10) v12_2) (fun r5 => (if r5 = 0 then some (Sum.inl ((v12_2 + 1), z12)) else (Option.bind (rd 40 (z12 6) v12_2) (fun r7 => (if r7 = 0 then (Option.bind (rd 40 (z12 7) v12_2) (fun r9 => (Option.bind (f_X7_fact z12 c12_1 (2 : Int32)) (fun r10 => (if r9 = r10 then (Option.bind (f_X7_fact z12 c12_1 (1 : Int32)) (fun r12 => (Option.bind (rd 40 (z12 8) v12_2) (fun r13 => (Option.bind (f_X7_findIs z12 r12 r13 (4 : Int32) c12_1 (-1 : Int32) v12_2) (fun r14 => some (Sum.inl ((v12_2 + 1), r14)))))))) else some (Sum.inl ((v12_2 + 1), z12))))))) else some (Sum.inl ((v12_2 + 1), z12)))))))) else some (Sum.inr (Sum.inl ((c12_1 + 1), z12)))))))
noncomputable def b_X7_ofAxioms_2 (v2_1 : Int32) (z2 : MS) : Option ((Int32 × MS) ⊕ MS) :=
  (if (z2 13 0) ≤ v2_1 then some (Sum.inr (z2)) else (loopC (fun v => b_X7_ofAxioms_12 v2_1 v.1 v.2) ((0 : Int32), z2)))
noncomputable def f_X7_ofAxioms (st : MS) : Option MS :=
  (loopC (fun v => b_X7_ofAxioms_2 v.1 v.2) ((0 : Int32), st))
set_option maxHeartbeats 4000000 in
set_option maxRecDepth 100000 in
theorem m_X7_ofAxioms (l : Launch) (g : GG) (b : Nat → Nat) (st : MS) (sz : Nat)  (res : MS) (hs : f_X7_ofAxioms st = some res) : Met l yX7_ofAxioms (Cond.code yX7_ofAxioms cX7_ofAxioms 3 none :: BIG) ({ frames := 1, cells := 0, slots := 0, locals := 27 } : Room) (va_Pc [.ref (b 0)] (RWp g (mW g b st) sz)) (RWv g (mW g b res) (va_A (mW g b st) sz)) 0 0 (va_A (mW g b st) sz) := by
  refine rw_start (cc := cX7_ofAxioms) (maxL := 3) (ret := none) (lv := [(0, .ref (b 0))]) (Qc := fun A => (RWv g (mW g b res) A)) (by decide) rfl (Nat.le_of_ble_eq_true rfl) rfl ?_
  intro p e s m args below meth c hx hb hml hr hts hown hlk hK A hD0 hA H locs hP hS ls hl
  have hD : ∀ st' : MS, va_D A (mW g b st') := fun _ => mW_D hD0
  have hB : ∀ w ∈ BIG, w.before args s = true := fun w h => hts w (List.mem_cons_of_mem _ h)
  have hC : CallFix p m c cX7_ofAxioms 3 s args BIG RX7 := ⟨hx, hb, hml, hown, hB⟩
  unfold f_X7_ofAxioms at hs
  refine lv_iconst (v := 0) hx hb dX7_ofAxioms_0 (by decide) ?_
  refine lv_istore_n (lv' := [(1, .int (0 : Int32)), (0, .ref (b 0))]) hx hb dX7_ofAxioms_1 rfl hl (by decide) rfl (fun ls hl => ?_)
  obtain ⟨n2, hs⟩ := loopC_iter hs
  have L2 : ∀ (n : Nat) (v2_1 : Int32) (z2 : MS), iterO (fun v => b_X7_ofAxioms_2 v.1 v.2) n (v2_1, z2) = some res → ∀ (H : Heap) (locs : List Loc), va_P g.1 vwCl (mW g b z2) H → va_S A s.heap H locs → ∀ ls : Array Slot, lv_has ls 3 [(0, .ref (b 0)), (1, .int v2_1)] → W p l e ({ frames := 1, cells := 0, slots := 0, locals := 27 } : Room) s m args below meth c H locs 0 0 (MQ below (RWv g (mW g b res) A) args s 0 0 A) (F0 m 2 ls []) := by
    intro n
    induction n with
    | zero => intro v2_1 z2 hs; exact (iterO_zero hs).elim
    | succ n ih2 =>
      intro v2_1 z2 hs H locs hP hS ls hl
      obtain ⟨y2, hs, hk2⟩ := iterO_succ hs
      have hs : b_X7_ofAxioms_2 v2_1 z2 = some y2 := hs
      unfold b_X7_ofAxioms_2 at hs
      refine lv_iload_n hx hb dX7_ofAxioms_2 rfl (lv_at hl 1 rfl) ?_
      refine lv_aload_n hx hb dX7_ofAxioms_3 rfl (lv_at hl 0 rfl) ?_
      refine mg_13 hx hb hB hown hK hP dX7_ofAxioms_4 ?_
      refine lv_icmp_ge (tgt := 94) hx hb dX7_ofAxioms_7 (by decide) (fun c1 => ?_) (fun c1 => ?_)
      · have hs := ifp c1 hs
        cases hs
        cases elim_inr hk2
        exact ret_rwv hx hb hr hlk hP hS dX7_ofAxioms_94
      · have hs := ifn c1 hs
        refine lv_iconst (v := 0) hx hb dX7_ofAxioms_10 (by decide) ?_
        refine lv_istore_n (lv' := [(2, .int (0 : Int32)), (0, .ref (b 0)), (1, .int v2_1)]) hx hb dX7_ofAxioms_11 rfl hl (by decide) rfl (fun ls hl => ?_)
        obtain ⟨n12, hs⟩ := loopC_iter hs
        have L12 : ∀ (n : Nat) (v12_2 : Int32) (z12 : MS), iterO (fun v => b_X7_ofAxioms_12 v2_1 v.1 v.2) n (v12_2, z12) = some y2 → ∀ (H : Heap) (locs : List Loc), va_P g.1 vwCl (mW g b z12) H → va_S A s.heap H locs → ∀ ls : Array Slot, lv_has ls 3 [(0, .ref (b 0)), (1, .int v2_1), (2, .int v12_2)] → W p l e ({ frames := 1, cells := 0, slots := 0, locals := 27 } : Room) s m args below meth c H locs 0 0 (MQ below (RWv g (mW g b res) A) args s 0 0 A) (F0 m 12 ls []) := by
          intro n
          induction n with
          | zero => intro v12_2 z12 hs; exact (iterO_zero hs).elim
          | succ n ih12 =>
            intro v12_2 z12 hs H locs hP hS ls hl
            obtain ⟨y12, hs, hk12⟩ := iterO_succ hs
            have hs : b_X7_ofAxioms_12 v2_1 v12_2 z12 = some y12 := hs
            unfold b_X7_ofAxioms_12 at hs
            refine lv_iload_n hx hb dX7_ofAxioms_12 rfl (lv_at hl 2 rfl) ?_
            refine lv_aload_n hx hb dX7_ofAxioms_13 rfl (lv_at hl 0 rfl) ?_
            refine mg_5 hx hb hB hown hK hP dX7_ofAxioms_14 ?_
            refine lv_icmp_ge (tgt := 88) hx hb dX7_ofAxioms_17 (by decide) (fun c2 => ?_) (fun c2 => ?_)
            · have hs := ifp c2 hs
              refine lv_iinc (v := (v2_1 + 1)) (lv' := [(1, .int (v2_1 + 1)), (0, .ref (b 0)), (2, .int v12_2)]) hx hb dX7_ofAxioms_88 hl (k := 1) rfl (by rfl) (by decide) rfl (fun ls hl => ?_)
              refine lv_goto (tgt := 2) hx hb dX7_ofAxioms_91 (by decide) ?_
              cases hs
              cases elim_inr hk12
              exact ih2 (v2_1 + 1) z12 hk2 _ _ hP hS _ (lv_sub hl [1, 0] rfl)
            · have hs := ifn c2 hs
              refine lv_aload_n hx hb dX7_ofAxioms_20 rfl (lv_at hl 0 rfl) ?_
              refine lv_iload_n hx hb dX7_ofAxioms_21 rfl (lv_at hl 1 rfl) ?_
              refine lv_iconst (v := 0) hx hb dX7_ofAxioms_22 (by decide) ?_
              obtain ⟨r3, e3, hs⟩ := Option.bind_eq_some_iff.mp hs
              refine cV_roi (As := [.int v2_1, .int (0 : Int32)]) (rest := []) hC (m_X7_fact l g b z12 v2_1 (0 : Int32) r3 e3) (kv_of hB bw_21_23 bw_21_21 bw_21_22 bw_1_5 kd_X7_fact bw_21_20 rfl rfl ⟨Nat.le_of_ble_eq_true rfl, Nat.le_of_ble_eq_true rfl⟩) hK hP hP hS (mW_0 g b z12) rfl rfl hl.1 rfl (Nat.le_of_ble_eq_true rfl) dX7_ofAxioms_23 ⟨Nat.zero_le _, Nat.zero_le _⟩ (fun H locs hP hS => ?_)
              refine lv_if_ne (tgt := 88) hx hb dX7_ofAxioms_26 (by decide) (fun c4 => ?_) (fun c4 => ?_)
              · have hs := ifn c4 hs
                refine lv_iinc (v := (v2_1 + 1)) (lv' := [(1, .int (v2_1 + 1)), (0, .ref (b 0)), (2, .int v12_2)]) hx hb dX7_ofAxioms_88 hl (k := 1) rfl (by rfl) (by decide) rfl (fun ls hl => ?_)
                refine lv_goto (tgt := 2) hx hb dX7_ofAxioms_91 (by decide) ?_
                cases hs
                cases elim_inr hk12
                exact ih2 (v2_1 + 1) z12 hk2 _ _ hP hS _ (lv_sub hl [1, 0] rfl)
              · have hs := ifp c4 hs
                refine lv_aload_n hx hb dX7_ofAxioms_29 rfl (lv_at hl 0 rfl) ?_
                refine mg_10 hx hb hB hown hK hP dX7_ofAxioms_30 ?_
                refine lv_iload_n hx hb dX7_ofAxioms_33 rfl (lv_at hl 2 rfl) ?_
                obtain ⟨r5, e5, hs⟩ := Option.bind_eq_some_iff.mp hs
                refine ml_10 hx hb hK hP e5 dX7_ofAxioms_34 ?_
                refine lv_if_eq (tgt := 82) hx hb dX7_ofAxioms_35 (by decide) (fun c6 => ?_) (fun c6 => ?_)
                · have hs := ifp c6 hs
                  refine lv_iinc (v := (v12_2 + 1)) (lv' := [(2, .int (v12_2 + 1)), (0, .ref (b 0)), (1, .int v2_1)]) hx hb dX7_ofAxioms_82 hl (k := 2) rfl (by rfl) (by decide) rfl (fun ls hl => ?_)
                  refine lv_goto (tgt := 12) hx hb dX7_ofAxioms_85 (by decide) ?_
                  cases hs
                  exact ih12 (v12_2 + 1) z12 hk12 _ _ hP hS _ (lv_sub hl [1, 2, 0] rfl)
                · have hs := ifn c6 hs
                  refine lv_aload_n hx hb dX7_ofAxioms_38 rfl (lv_at hl 0 rfl) ?_
                  refine mg_6 hx hb hB hown hK hP dX7_ofAxioms_39 ?_
                  refine lv_iload_n hx hb dX7_ofAxioms_42 rfl (lv_at hl 2 rfl) ?_
                  obtain ⟨r7, e7, hs⟩ := Option.bind_eq_some_iff.mp hs
                  refine ml_6 hx hb hK hP e7 dX7_ofAxioms_43 ?_
                  refine lv_if_ne (tgt := 82) hx hb dX7_ofAxioms_44 (by decide) (fun c8 => ?_) (fun c8 => ?_)
                  · have hs := ifn c8 hs
                    refine lv_iinc (v := (v12_2 + 1)) (lv' := [(2, .int (v12_2 + 1)), (0, .ref (b 0)), (1, .int v2_1)]) hx hb dX7_ofAxioms_82 hl (k := 2) rfl (by rfl) (by decide) rfl (fun ls hl => ?_)
                    refine lv_goto (tgt := 12) hx hb dX7_ofAxioms_85 (by decide) ?_
                    cases hs
                    exact ih12 (v12_2 + 1) z12 hk12 _ _ hP hS _ (lv_sub hl [1, 2, 0] rfl)
                  · have hs := ifp c8 hs
                    refine lv_aload_n hx hb dX7_ofAxioms_47 rfl (lv_at hl 0 rfl) ?_
                    refine mg_7 hx hb hB hown hK hP dX7_ofAxioms_48 ?_
                    refine lv_iload_n hx hb dX7_ofAxioms_51 rfl (lv_at hl 2 rfl) ?_
                    obtain ⟨r9, e9, hs⟩ := Option.bind_eq_some_iff.mp hs
                    refine ml_7 hx hb hK hP e9 dX7_ofAxioms_52 ?_
                    refine lv_aload_n hx hb dX7_ofAxioms_53 rfl (lv_at hl 0 rfl) ?_
                    refine lv_iload_n hx hb dX7_ofAxioms_54 rfl (lv_at hl 1 rfl) ?_
                    refine lv_iconst (v := 2) hx hb dX7_ofAxioms_55 (by decide) ?_
                    obtain ⟨r10, e10, hs⟩ := Option.bind_eq_some_iff.mp hs
                    refine cV_roi (As := [.int v2_1, .int (2 : Int32)]) (rest := [.int r9]) hC (m_X7_fact l g b z12 v2_1 (2 : Int32) r10 e10) (kv_of hB bw_21_23 bw_21_21 bw_21_22 bw_1_5 kd_X7_fact bw_21_20 rfl rfl ⟨Nat.le_of_ble_eq_true rfl, Nat.le_of_ble_eq_true rfl⟩) hK hP hP hS (mW_0 g b z12) rfl rfl hl.1 rfl (Nat.le_of_ble_eq_true rfl) dX7_ofAxioms_56 ⟨Nat.zero_le _, Nat.zero_le _⟩ (fun H locs hP hS => ?_)
                    refine lv_icmp_ne (tgt := 82) hx hb dX7_ofAxioms_59 (by decide) (fun c11 => ?_) (fun c11 => ?_)
                    · have hs := ifn c11 hs
                      refine lv_iinc (v := (v12_2 + 1)) (lv' := [(2, .int (v12_2 + 1)), (0, .ref (b 0)), (1, .int v2_1)]) hx hb dX7_ofAxioms_82 hl (k := 2) rfl (by rfl) (by decide) rfl (fun ls hl => ?_)
                      refine lv_goto (tgt := 12) hx hb dX7_ofAxioms_85 (by decide) ?_
                      cases hs
                      exact ih12 (v12_2 + 1) z12 hk12 _ _ hP hS _ (lv_sub hl [1, 2, 0] rfl)
                    · have hs := ifp c11 hs
                      refine lv_aload_n hx hb dX7_ofAxioms_62 rfl (lv_at hl 0 rfl) ?_
                      refine lv_aload_n hx hb dX7_ofAxioms_63 rfl (lv_at hl 0 rfl) ?_
                      refine lv_iload_n hx hb dX7_ofAxioms_64 rfl (lv_at hl 1 rfl) ?_
                      refine lv_iconst (v := 1) hx hb dX7_ofAxioms_65 (by decide) ?_
                      obtain ⟨r12, e12, hs⟩ := Option.bind_eq_some_iff.mp hs
                      refine cV_roi (As := [.int v2_1, .int (1 : Int32)]) (rest := [.ref (b 0)]) hC (m_X7_fact l g b z12 v2_1 (1 : Int32) r12 e12) (kv_of hB bw_21_23 bw_21_21 bw_21_22 bw_1_5 kd_X7_fact bw_21_20 rfl rfl ⟨Nat.le_of_ble_eq_true rfl, Nat.le_of_ble_eq_true rfl⟩) hK hP hP hS (mW_0 g b z12) rfl rfl hl.1 rfl (Nat.le_of_ble_eq_true rfl) dX7_ofAxioms_66 ⟨Nat.zero_le _, Nat.zero_le _⟩ (fun H locs hP hS => ?_)
                      refine lv_aload_n hx hb dX7_ofAxioms_69 rfl (lv_at hl 0 rfl) ?_
                      refine mg_8 hx hb hB hown hK hP dX7_ofAxioms_70 ?_
                      refine lv_iload_n hx hb dX7_ofAxioms_73 rfl (lv_at hl 2 rfl) ?_
                      obtain ⟨r13, e13, hs⟩ := Option.bind_eq_some_iff.mp hs
                      refine ml_8 hx hb hK hP e13 dX7_ofAxioms_74 ?_
                      refine lv_iconst (v := 4) hx hb dX7_ofAxioms_75 (by decide) ?_
                      refine lv_iload_n hx hb dX7_ofAxioms_76 rfl (lv_at hl 1 rfl) ?_
                      refine lv_iconst (v := -1) hx hb dX7_ofAxioms_77 (by decide) ?_
                      refine lv_iload_n hx hb dX7_ofAxioms_78 rfl (lv_at hl 2 rfl) ?_
                      obtain ⟨r14, e14, hs⟩ := Option.bind_eq_some_iff.mp hs
                      refine cV_rwv (As := [.int r12, .int r13, .int (4 : Int32), .int v2_1, .int (-1 : Int32), .int v12_2]) (rest := []) hC (m_X7_findIs l g b z12 H.size r12 r13 (4 : Int32) v2_1 (-1 : Int32) v12_2 r14 e14) (kv_of hB bw_22_3 bw_22_1 bw_22_2 bw_1_5 kd_X7_findIs bw_22_0 rfl rfl ⟨Nat.le_of_ble_eq_true rfl, Nat.le_of_ble_eq_true rfl⟩) hK hP (hD _) hA hS (mW_0 g b z12) rfl rfl hl.1 rfl (Nat.le_of_ble_eq_true rfl) dX7_ofAxioms_79 ⟨Nat.zero_le _, Nat.zero_le _⟩ (fun H locs hP hS => ?_)
                      refine lv_iinc (v := (v12_2 + 1)) (lv' := [(2, .int (v12_2 + 1)), (0, .ref (b 0)), (1, .int v2_1)]) hx hb dX7_ofAxioms_82 hl (k := 2) rfl (by rfl) (by decide) rfl (fun ls hl => ?_)
                      refine lv_goto (tgt := 12) hx hb dX7_ofAxioms_85 (by decide) ?_
                      cases hs
                      exact ih12 (v12_2 + 1) r14 hk12 _ _ hP hS _ (lv_sub hl [1, 2, 0] rfl)
        exact L12 n12 (0 : Int32) z2 hs _ _ hP hS _ (lv_sub hl [1, 2, 0] rfl)
  exact L2 n2 (0 : Int32) st hs _ _ hP hS _ (lv_sub hl [1, 0] rfl)
