noncomputable def b_X7_isParent_39 (st : MS) (c39_1 : Int32) (c39_2 : Int32) (v39_3 : Int32) : Option (Int32 ⊕ Int32) :=
  (if (st 0 0) ≤ v39_3 then some (Sum.inr ((1 : Int32))) else (Option.bind (f_X7_isPlain st v39_3) (fun r10 => (if r10 = 0 then some (Sum.inl (v39_3 + 1)) else (Option.bind (f_X7_isUnder st c39_1 v39_3) (fun r12 => (if r12 = 0 then some (Sum.inl (v39_3 + 1)) else (Option.bind (f_X7_isUnder st v39_3 c39_2) (fun r14 => (if r14 = 0 then some (Sum.inl (v39_3 + 1)) else (Option.bind (f_X7_areLike st v39_3 c39_1) (fun r16 => (if r16 = 0 then (Option.bind (f_X7_areLike st v39_3 c39_2) (fun r18 => (if r18 = 0 then some (Sum.inr ((0 : Int32))) else some (Sum.inl (v39_3 + 1))))) else some (Sum.inl (v39_3 + 1)))))))))))))))
noncomputable def f_X7_isParent (st : MS) (p1 : Int32) (p2 : Int32) : Option Int32 :=
  (Option.bind (f_X7_isPlain st p2) (fun r1 => (if r1 = 0 then some ((0 : Int32)) else (Option.bind (f_X7_areLike st p1 p2) (fun r3 => (if r3 = 0 then (Option.bind (f_X7_isUnder st p1 p2) (fun r5 => (if r5 = 0 then some ((0 : Int32)) else (Option.bind (f_X7_leastLike st p2) (fun r7 => (if r7 = p2 then (loopC (fun v => b_X7_isParent_39 st p1 p2 v) (0 : Int32)) else some ((0 : Int32)))))))) else some ((0 : Int32))))))))
set_option maxHeartbeats 4000000 in
set_option maxRecDepth 100000 in
theorem m_X7_isParent (l : Launch) (g : GG) (b : Nat → Nat) (st : MS) (p1 : Int32) (p2 : Int32) (res : Int32) (hs : f_X7_isParent st p1 p2 = some res) : Met l yX7_isParent (Cond.code yX7_isParent cX7_isParent 4 (some .boolean) :: BIG) ({ frames := 4, cells := 0, slots := 0, locals := 86 } : Room) (va_Pc [.ref (b 0), .int p1, .int p2] (ROp g (mW g b st))) (ROi res) 0 0 (fun _ => False) := by
  refine ro_start (cc := cX7_isParent) (maxL := 4) (ret := (some .boolean)) (lv := [(0, .ref (b 0)), (1, .int p1), (2, .int p2)]) (by decide) rfl (Nat.le_of_ble_eq_true rfl) rfl ?_
  intro p e s m args below meth c hx hb hml hr hts hown hlk hK H locs hP hS ls hl
  have hB : ∀ w ∈ BIG, w.before args s = true := fun w h => hts w (List.mem_cons_of_mem _ h)
  have hC : CallFix p m c cX7_isParent 4 s args BIG RX7 := ⟨hx, hb, hml, hown, hB⟩
  unfold f_X7_isParent at hs
  refine lv_aload_n hx hb dX7_isParent_0 rfl (lv_at hl 0 rfl) ?_
  refine lv_iload_n hx hb dX7_isParent_1 rfl (lv_at hl 2 rfl) ?_
  obtain ⟨r1, e1, hs⟩ := Option.bind_eq_some_iff.mp hs
  refine cV_roi (As := [.int p2]) (rest := []) hC (m_X7_isPlain l g b st p2 r1 e1) (kv_of hB bw_27_5 bw_27_3 bw_27_4 bw_1_5 kd_X7_isPlain bw_27_2 rfl rfl ⟨Nat.le_of_ble_eq_true rfl, Nat.le_of_ble_eq_true rfl⟩) hK hP hP hS (mW_0 g b st) rfl rfl hl.1 rfl (Nat.le_of_ble_eq_true rfl) dX7_isParent_2 ⟨Nat.zero_le _, Nat.zero_le _⟩ (fun H locs hP hS => ?_)
  refine lv_if_eq (tgt := 35) hx hb dX7_isParent_5 (by decide) (fun c2 => ?_) (fun c2 => ?_)
  · have hs := ifp c2 hs
    refine lv_iconst (v := 0) hx hb dX7_isParent_35 (by decide) ?_
    cases hs
    exact ret_roz hx hb hr (zn_of (Or.inl rfl)) hlk hS dX7_isParent_36
  · have hs := ifn c2 hs
    refine lv_aload_n hx hb dX7_isParent_8 rfl (lv_at hl 0 rfl) ?_
    refine lv_iload_n hx hb dX7_isParent_9 rfl (lv_at hl 1 rfl) ?_
    refine lv_iload_n hx hb dX7_isParent_10 rfl (lv_at hl 2 rfl) ?_
    obtain ⟨r3, e3, hs⟩ := Option.bind_eq_some_iff.mp hs
    refine cV_roi (As := [.int p1, .int p2]) (rest := []) hC (m_X7_areLike l g b st p1 p2 r3 e3) (kv_of hB bw_28_9 bw_28_7 bw_28_8 bw_1_5 kd_X7_areLike bw_28_6 rfl rfl ⟨Nat.le_of_ble_eq_true rfl, Nat.le_of_ble_eq_true rfl⟩) hK hP hP hS (mW_0 g b st) rfl rfl hl.1 rfl (Nat.le_of_ble_eq_true rfl) dX7_isParent_11 ⟨Nat.zero_le _, Nat.zero_le _⟩ (fun H locs hP hS => ?_)
    refine lv_if_ne (tgt := 35) hx hb dX7_isParent_14 (by decide) (fun c4 => ?_) (fun c4 => ?_)
    · have hs := ifn c4 hs
      refine lv_iconst (v := 0) hx hb dX7_isParent_35 (by decide) ?_
      cases hs
      exact ret_roz hx hb hr (zn_of (Or.inl rfl)) hlk hS dX7_isParent_36
    · have hs := ifp c4 hs
      refine lv_aload_n hx hb dX7_isParent_17 rfl (lv_at hl 0 rfl) ?_
      refine lv_iload_n hx hb dX7_isParent_18 rfl (lv_at hl 1 rfl) ?_
      refine lv_iload_n hx hb dX7_isParent_19 rfl (lv_at hl 2 rfl) ?_
      obtain ⟨r5, e5, hs⟩ := Option.bind_eq_some_iff.mp hs
      refine cV_roi (As := [.int p1, .int p2]) (rest := []) hC (m_X7_isUnder l g b st p1 p2 r5 e5) (kv_of hB bw_27_9 bw_27_7 bw_27_8 bw_1_5 kd_X7_isUnder bw_27_6 rfl rfl ⟨Nat.le_of_ble_eq_true rfl, Nat.le_of_ble_eq_true rfl⟩) hK hP hP hS (mW_0 g b st) rfl rfl hl.1 rfl (Nat.le_of_ble_eq_true rfl) dX7_isParent_20 ⟨Nat.zero_le _, Nat.zero_le _⟩ (fun H locs hP hS => ?_)
      refine lv_if_eq (tgt := 35) hx hb dX7_isParent_23 (by decide) (fun c6 => ?_) (fun c6 => ?_)
      · have hs := ifp c6 hs
        refine lv_iconst (v := 0) hx hb dX7_isParent_35 (by decide) ?_
        cases hs
        exact ret_roz hx hb hr (zn_of (Or.inl rfl)) hlk hS dX7_isParent_36
      · have hs := ifn c6 hs
        refine lv_aload_n hx hb dX7_isParent_26 rfl (lv_at hl 0 rfl) ?_
        refine lv_iload_n hx hb dX7_isParent_27 rfl (lv_at hl 2 rfl) ?_
        obtain ⟨r7, e7, hs⟩ := Option.bind_eq_some_iff.mp hs
        refine cV_roi (As := [.int p2]) (rest := []) hC (m_X7_leastLike l g b st p2 r7 e7) (kv_of hB bw_28_5 bw_28_3 bw_28_4 bw_1_5 kd_X7_leastLike bw_28_2 rfl rfl ⟨Nat.le_of_ble_eq_true rfl, Nat.le_of_ble_eq_true rfl⟩) hK hP hP hS (mW_0 g b st) rfl rfl hl.1 rfl (Nat.le_of_ble_eq_true rfl) dX7_isParent_28 ⟨Nat.zero_le _, Nat.zero_le _⟩ (fun H locs hP hS => ?_)
        refine lv_iload_n hx hb dX7_isParent_31 rfl (lv_at hl 2 rfl) ?_
        refine lv_icmp_eq (tgt := 37) hx hb dX7_isParent_32 (by decide) (fun c8 => ?_) (fun c8 => ?_)
        · have hs := ifp c8 hs
          refine lv_iconst (v := 0) hx hb dX7_isParent_37 (by decide) ?_
          refine lv_istore_n (lv' := [(3, .int (0 : Int32)), (0, .ref (b 0)), (1, .int p1), (2, .int p2)]) hx hb dX7_isParent_38 rfl hl (by decide) rfl (fun ls hl => ?_)
          obtain ⟨n39, hs⟩ := loopC_iter hs
          have L39 : ∀ (n : Nat) (v39_3 : Int32), iterO (fun v => b_X7_isParent_39 st p1 p2 v) n v39_3 = some res → ∀ (H : Heap) (locs : List Loc), va_P g.1 vwCl (mW g b st) H → va_S (fun _ => False) s.heap H locs → ∀ ls : Array Slot, lv_has ls 4 [(0, .ref (b 0)), (1, .int p1), (2, .int p2), (3, .int v39_3)] → W p l e ({ frames := 4, cells := 0, slots := 0, locals := 86 } : Room) s m args below meth c H locs 0 0 (MQ below (ROi res) args s 0 0 (fun _ => False)) (F0 m 39 ls []) := by
            intro n
            induction n with
            | zero => intro v39_3 hs; exact (iterO_zero hs).elim
            | succ n ih39 =>
              intro v39_3 hs H locs hP hS ls hl
              obtain ⟨y39, hs, hk39⟩ := iterO_succ hs
              have hs : b_X7_isParent_39 st p1 p2 v39_3 = some y39 := hs
              unfold b_X7_isParent_39 at hs
              refine lv_iload_n hx hb dX7_isParent_39 rfl (lv_at hl 3 rfl) ?_
              refine lv_aload_n hx hb dX7_isParent_40 rfl (lv_at hl 0 rfl) ?_
              refine mg_0 hx hb hB hown hK hP dX7_isParent_41 ?_
              refine lv_icmp_ge (tgt := 99) hx hb dX7_isParent_44 (by decide) (fun c9 => ?_) (fun c9 => ?_)
              · have hs := ifp c9 hs
                refine lv_iconst (v := 1) hx hb dX7_isParent_99 (by decide) ?_
                cases hs
                cases elim_inr hk39
                exact ret_roz hx hb hr (zn_of (Or.inr rfl)) hlk hS dX7_isParent_100
              · have hs := ifn c9 hs
                refine lv_aload_n hx hb dX7_isParent_47 rfl (lv_at hl 0 rfl) ?_
                refine lv_iload_n hx hb dX7_isParent_48 rfl (lv_at hl 3 rfl) ?_
                obtain ⟨r10, e10, hs⟩ := Option.bind_eq_some_iff.mp hs
                refine cV_roi (As := [.int v39_3]) (rest := []) hC (m_X7_isPlain l g b st v39_3 r10 e10) (kv_of hB bw_27_5 bw_27_3 bw_27_4 bw_1_5 kd_X7_isPlain bw_27_2 rfl rfl ⟨Nat.le_of_ble_eq_true rfl, Nat.le_of_ble_eq_true rfl⟩) hK hP hP hS (mW_0 g b st) rfl rfl hl.1 rfl (Nat.le_of_ble_eq_true rfl) dX7_isParent_49 ⟨Nat.zero_le _, Nat.zero_le _⟩ (fun H locs hP hS => ?_)
                refine lv_if_eq (tgt := 93) hx hb dX7_isParent_52 (by decide) (fun c11 => ?_) (fun c11 => ?_)
                · have hs := ifp c11 hs
                  refine lv_iinc (v := (v39_3 + 1)) (lv' := [(3, .int (v39_3 + 1)), (0, .ref (b 0)), (1, .int p1), (2, .int p2)]) hx hb dX7_isParent_93 hl (k := 3) rfl (by rfl) (by decide) rfl (fun ls hl => ?_)
                  refine lv_goto (tgt := 39) hx hb dX7_isParent_96 (by decide) ?_
                  cases hs
                  exact ih39 (v39_3 + 1) hk39 _ _ hP hS _ (lv_sub hl [1, 2, 3, 0] rfl)
                · have hs := ifn c11 hs
                  refine lv_aload_n hx hb dX7_isParent_55 rfl (lv_at hl 0 rfl) ?_
                  refine lv_iload_n hx hb dX7_isParent_56 rfl (lv_at hl 1 rfl) ?_
                  refine lv_iload_n hx hb dX7_isParent_57 rfl (lv_at hl 3 rfl) ?_
                  obtain ⟨r12, e12, hs⟩ := Option.bind_eq_some_iff.mp hs
                  refine cV_roi (As := [.int p1, .int v39_3]) (rest := []) hC (m_X7_isUnder l g b st p1 v39_3 r12 e12) (kv_of hB bw_27_9 bw_27_7 bw_27_8 bw_1_5 kd_X7_isUnder bw_27_6 rfl rfl ⟨Nat.le_of_ble_eq_true rfl, Nat.le_of_ble_eq_true rfl⟩) hK hP hP hS (mW_0 g b st) rfl rfl hl.1 rfl (Nat.le_of_ble_eq_true rfl) dX7_isParent_58 ⟨Nat.zero_le _, Nat.zero_le _⟩ (fun H locs hP hS => ?_)
                  refine lv_if_eq (tgt := 93) hx hb dX7_isParent_61 (by decide) (fun c13 => ?_) (fun c13 => ?_)
                  · have hs := ifp c13 hs
                    refine lv_iinc (v := (v39_3 + 1)) (lv' := [(3, .int (v39_3 + 1)), (0, .ref (b 0)), (1, .int p1), (2, .int p2)]) hx hb dX7_isParent_93 hl (k := 3) rfl (by rfl) (by decide) rfl (fun ls hl => ?_)
                    refine lv_goto (tgt := 39) hx hb dX7_isParent_96 (by decide) ?_
                    cases hs
                    exact ih39 (v39_3 + 1) hk39 _ _ hP hS _ (lv_sub hl [1, 2, 3, 0] rfl)
                  · have hs := ifn c13 hs
                    refine lv_aload_n hx hb dX7_isParent_64 rfl (lv_at hl 0 rfl) ?_
                    refine lv_iload_n hx hb dX7_isParent_65 rfl (lv_at hl 3 rfl) ?_
                    refine lv_iload_n hx hb dX7_isParent_66 rfl (lv_at hl 2 rfl) ?_
                    obtain ⟨r14, e14, hs⟩ := Option.bind_eq_some_iff.mp hs
                    refine cV_roi (As := [.int v39_3, .int p2]) (rest := []) hC (m_X7_isUnder l g b st v39_3 p2 r14 e14) (kv_of hB bw_27_9 bw_27_7 bw_27_8 bw_1_5 kd_X7_isUnder bw_27_6 rfl rfl ⟨Nat.le_of_ble_eq_true rfl, Nat.le_of_ble_eq_true rfl⟩) hK hP hP hS (mW_0 g b st) rfl rfl hl.1 rfl (Nat.le_of_ble_eq_true rfl) dX7_isParent_67 ⟨Nat.zero_le _, Nat.zero_le _⟩ (fun H locs hP hS => ?_)
                    refine lv_if_eq (tgt := 93) hx hb dX7_isParent_70 (by decide) (fun c15 => ?_) (fun c15 => ?_)
                    · have hs := ifp c15 hs
                      refine lv_iinc (v := (v39_3 + 1)) (lv' := [(3, .int (v39_3 + 1)), (0, .ref (b 0)), (1, .int p1), (2, .int p2)]) hx hb dX7_isParent_93 hl (k := 3) rfl (by rfl) (by decide) rfl (fun ls hl => ?_)
                      refine lv_goto (tgt := 39) hx hb dX7_isParent_96 (by decide) ?_
                      cases hs
                      exact ih39 (v39_3 + 1) hk39 _ _ hP hS _ (lv_sub hl [1, 2, 3, 0] rfl)
                    · have hs := ifn c15 hs
                      refine lv_aload_n hx hb dX7_isParent_73 rfl (lv_at hl 0 rfl) ?_
                      refine lv_iload_n hx hb dX7_isParent_74 rfl (lv_at hl 3 rfl) ?_
                      refine lv_iload_n hx hb dX7_isParent_75 rfl (lv_at hl 1 rfl) ?_
                      obtain ⟨r16, e16, hs⟩ := Option.bind_eq_some_iff.mp hs
                      refine cV_roi (As := [.int v39_3, .int p1]) (rest := []) hC (m_X7_areLike l g b st v39_3 p1 r16 e16) (kv_of hB bw_28_9 bw_28_7 bw_28_8 bw_1_5 kd_X7_areLike bw_28_6 rfl rfl ⟨Nat.le_of_ble_eq_true rfl, Nat.le_of_ble_eq_true rfl⟩) hK hP hP hS (mW_0 g b st) rfl rfl hl.1 rfl (Nat.le_of_ble_eq_true rfl) dX7_isParent_76 ⟨Nat.zero_le _, Nat.zero_le _⟩ (fun H locs hP hS => ?_)
                      refine lv_if_ne (tgt := 93) hx hb dX7_isParent_79 (by decide) (fun c17 => ?_) (fun c17 => ?_)
                      · have hs := ifn c17 hs
                        refine lv_iinc (v := (v39_3 + 1)) (lv' := [(3, .int (v39_3 + 1)), (0, .ref (b 0)), (1, .int p1), (2, .int p2)]) hx hb dX7_isParent_93 hl (k := 3) rfl (by rfl) (by decide) rfl (fun ls hl => ?_)
                        refine lv_goto (tgt := 39) hx hb dX7_isParent_96 (by decide) ?_
                        cases hs
                        exact ih39 (v39_3 + 1) hk39 _ _ hP hS _ (lv_sub hl [1, 2, 3, 0] rfl)
                      · have hs := ifp c17 hs
                        refine lv_aload_n hx hb dX7_isParent_82 rfl (lv_at hl 0 rfl) ?_
                        refine lv_iload_n hx hb dX7_isParent_83 rfl (lv_at hl 3 rfl) ?_
                        refine lv_iload_n hx hb dX7_isParent_84 rfl (lv_at hl 2 rfl) ?_
                        obtain ⟨r18, e18, hs⟩ := Option.bind_eq_some_iff.mp hs
                        refine cV_roi (As := [.int v39_3, .int p2]) (rest := []) hC (m_X7_areLike l g b st v39_3 p2 r18 e18) (kv_of hB bw_28_9 bw_28_7 bw_28_8 bw_1_5 kd_X7_areLike bw_28_6 rfl rfl ⟨Nat.le_of_ble_eq_true rfl, Nat.le_of_ble_eq_true rfl⟩) hK hP hP hS (mW_0 g b st) rfl rfl hl.1 rfl (Nat.le_of_ble_eq_true rfl) dX7_isParent_85 ⟨Nat.zero_le _, Nat.zero_le _⟩ (fun H locs hP hS => ?_)
                        refine lv_if_ne (tgt := 93) hx hb dX7_isParent_88 (by decide) (fun c19 => ?_) (fun c19 => ?_)
                        · have hs := ifn c19 hs
                          refine lv_iinc (v := (v39_3 + 1)) (lv' := [(3, .int (v39_3 + 1)), (0, .ref (b 0)), (1, .int p1), (2, .int p2)]) hx hb dX7_isParent_93 hl (k := 3) rfl (by rfl) (by decide) rfl (fun ls hl => ?_)
                          refine lv_goto (tgt := 39) hx hb dX7_isParent_96 (by decide) ?_
                          cases hs
                          exact ih39 (v39_3 + 1) hk39 _ _ hP hS _ (lv_sub hl [1, 2, 3, 0] rfl)
                        · have hs := ifp c19 hs
                          refine lv_iconst (v := 0) hx hb dX7_isParent_91 (by decide) ?_
                          cases hs
                          cases elim_inr hk39
                          exact ret_roz hx hb hr (zn_of (Or.inl rfl)) hlk hS dX7_isParent_92
          exact L39 n39 (0 : Int32) hs _ _ hP hS _ (lv_sub hl [1, 2, 3, 0] rfl)
        · have hs := ifn c8 hs
          refine lv_iconst (v := 0) hx hb dX7_isParent_35 (by decide) ?_
          cases hs
          exact ret_roz hx hb hr (zn_of (Or.inl rfl)) hlk hS dX7_isParent_36
noncomputable def b_X7_parent_26 (st : MS) (c26_1 : Int32) (c26_2 : Int32) (v26_3 : Int32) (v26_4 : Int32) : Option ((Int32 × Int32) ⊕ Int32) :=
  (if (st 0 0) ≤ v26_4 then some (Sum.inr ((-1 : Int32))) else (Option.bind (f_X7_isParent st c26_1 v26_4) (fun r5 => (if r5 = 0 then some (Sum.inl (v26_3, (v26_4 + 1))) else (if v26_3 = c26_2 then some (Sum.inr (v26_4)) else some (Sum.inl ((v26_3 + 1), (v26_4 + 1))))))))
noncomputable def f_X7_parent (st : MS) (p1 : Int32) (p2 : Int32) : Option Int32 :=
  (if (st 11 0) = 0 then some ((-103 : Int32)) else (Option.bind (f_X7_isPlain st p1) (fun r2 => (if r2 = 0 then some ((-101 : Int32)) else (loopC (fun v => b_X7_parent_26 st p1 p2 v.1 v.2) ((0 : Int32), (0 : Int32)))))))
set_option maxHeartbeats 4000000 in
set_option maxRecDepth 100000 in
theorem m_X7_parent (l : Launch) (g : GG) (b : Nat → Nat) (st : MS) (p1 : Int32) (p2 : Int32) (res : Int32) (hs : f_X7_parent st p1 p2 = some res) : Met l yX7_parent (Cond.code yX7_parent cX7_parent 5 (some .int) :: BIG) ({ frames := 5, cells := 0, slots := 0, locals := 109 } : Room) (va_Pc [.ref (b 0), .int p1, .int p2] (ROp g (mW g b st))) (ROi res) 0 0 (fun _ => False) := by
  refine ro_start (cc := cX7_parent) (maxL := 5) (ret := (some .int)) (lv := [(0, .ref (b 0)), (1, .int p1), (2, .int p2)]) (by decide) rfl (Nat.le_of_ble_eq_true rfl) rfl ?_
  intro p e s m args below meth c hx hb hml hr hts hown hlk hK H locs hP hS ls hl
  have hB : ∀ w ∈ BIG, w.before args s = true := fun w h => hts w (List.mem_cons_of_mem _ h)
  have hC : CallFix p m c cX7_parent 5 s args BIG RX7 := ⟨hx, hb, hml, hown, hB⟩
  unfold f_X7_parent at hs
  refine lv_aload_n hx hb dX7_parent_0 rfl (lv_at hl 0 rfl) ?_
  refine mg_11 hx hb hB hown hK hP dX7_parent_1 ?_
  refine lv_if_ne (tgt := 10) hx hb dX7_parent_4 (by decide) (fun c1 => ?_) (fun c1 => ?_)
  · have hs := ifn c1 hs
    refine lv_aload_n hx hb dX7_parent_10 rfl (lv_at hl 0 rfl) ?_
    refine lv_iload_n hx hb dX7_parent_11 rfl (lv_at hl 1 rfl) ?_
    obtain ⟨r2, e2, hs⟩ := Option.bind_eq_some_iff.mp hs
    refine cV_roi (As := [.int p1]) (rest := []) hC (m_X7_isPlain l g b st p1 r2 e2) (kv_of hB bw_27_5 bw_27_3 bw_27_4 bw_1_5 kd_X7_isPlain bw_27_2 rfl rfl ⟨Nat.le_of_ble_eq_true rfl, Nat.le_of_ble_eq_true rfl⟩) hK hP hP hS (mW_0 g b st) rfl rfl hl.1 rfl (Nat.le_of_ble_eq_true rfl) dX7_parent_12 ⟨Nat.zero_le _, Nat.zero_le _⟩ (fun H locs hP hS => ?_)
    refine lv_if_ne (tgt := 21) hx hb dX7_parent_15 (by decide) (fun c3 => ?_) (fun c3 => ?_)
    · have hs := ifn c3 hs
      refine lv_iconst (v := 0) hx hb dX7_parent_21 (by decide) ?_
      refine lv_istore_n (lv' := [(3, .int (0 : Int32)), (0, .ref (b 0)), (1, .int p1), (2, .int p2)]) hx hb dX7_parent_22 rfl hl (by decide) rfl (fun ls hl => ?_)
      refine lv_iconst (v := 0) hx hb dX7_parent_23 (by decide) ?_
      refine lv_istore (lv' := [(4, .int (0 : Int32)), (3, .int (0 : Int32)), (0, .ref (b 0)), (1, .int p1), (2, .int p2)]) hx hb dX7_parent_24 hl (by decide) rfl (fun ls hl => ?_)
      obtain ⟨n26, hs⟩ := loopC_iter hs
      have L26 : ∀ (n : Nat) (v26_3 : Int32) (v26_4 : Int32), iterO (fun v => b_X7_parent_26 st p1 p2 v.1 v.2) n (v26_3, v26_4) = some res → ∀ (H : Heap) (locs : List Loc), va_P g.1 vwCl (mW g b st) H → va_S (fun _ => False) s.heap H locs → ∀ ls : Array Slot, lv_has ls 5 [(0, .ref (b 0)), (1, .int p1), (2, .int p2), (3, .int v26_3), (4, .int v26_4)] → W p l e ({ frames := 5, cells := 0, slots := 0, locals := 109 } : Room) s m args below meth c H locs 0 0 (MQ below (ROi res) args s 0 0 (fun _ => False)) (F0 m 26 ls []) := by
        intro n
        induction n with
        | zero => intro v26_3 v26_4 hs; exact (iterO_zero hs).elim
        | succ n ih26 =>
          intro v26_3 v26_4 hs H locs hP hS ls hl
          obtain ⟨y26, hs, hk26⟩ := iterO_succ hs
          have hs : b_X7_parent_26 st p1 p2 v26_3 v26_4 = some y26 := hs
          unfold b_X7_parent_26 at hs
          refine lv_iload hx hb dX7_parent_26 (lv_at hl 4 rfl) ?_
          refine lv_aload_n hx hb dX7_parent_28 rfl (lv_at hl 0 rfl) ?_
          refine mg_0 hx hb hB hown hK hP dX7_parent_29 ?_
          refine lv_icmp_ge (tgt := 62) hx hb dX7_parent_32 (by decide) (fun c4 => ?_) (fun c4 => ?_)
          · have hs := ifp c4 hs
            refine lv_iconst (v := -1) hx hb dX7_parent_62 (by decide) ?_
            cases hs
            cases elim_inr hk26
            exact ret_roi hx hb hr hlk hS dX7_parent_63
          · have hs := ifn c4 hs
            refine lv_aload_n hx hb dX7_parent_35 rfl (lv_at hl 0 rfl) ?_
            refine lv_iload_n hx hb dX7_parent_36 rfl (lv_at hl 1 rfl) ?_
            refine lv_iload hx hb dX7_parent_37 (lv_at hl 4 rfl) ?_
            obtain ⟨r5, e5, hs⟩ := Option.bind_eq_some_iff.mp hs
            refine cV_roi (As := [.int p1, .int v26_4]) (rest := []) hC (m_X7_isParent l g b st p1 v26_4 r5 e5) (kv_of hB bw_29_1 bw_28_23 bw_29_0 bw_1_5 kd_X7_isParent bw_28_22 rfl rfl ⟨Nat.le_of_ble_eq_true rfl, Nat.le_of_ble_eq_true rfl⟩) hK hP hP hS (mW_0 g b st) rfl rfl hl.1 rfl (Nat.le_of_ble_eq_true rfl) dX7_parent_39 ⟨Nat.zero_le _, Nat.zero_le _⟩ (fun H locs hP hS => ?_)
            refine lv_if_eq (tgt := 56) hx hb dX7_parent_42 (by decide) (fun c6 => ?_) (fun c6 => ?_)
            · have hs := ifp c6 hs
              refine lv_iinc (v := (v26_4 + 1)) (lv' := [(4, .int (v26_4 + 1)), (0, .ref (b 0)), (1, .int p1), (2, .int p2), (3, .int v26_3)]) hx hb dX7_parent_56 hl (k := 4) rfl (by rfl) (by decide) rfl (fun ls hl => ?_)
              refine lv_goto (tgt := 26) hx hb dX7_parent_59 (by decide) ?_
              cases hs
              exact ih26 v26_3 (v26_4 + 1) hk26 _ _ hP hS _ (lv_sub hl [1, 2, 3, 4, 0] rfl)
            · have hs := ifn c6 hs
              refine lv_iload_n hx hb dX7_parent_45 rfl (lv_at hl 3 rfl) ?_
              refine lv_iload_n hx hb dX7_parent_46 rfl (lv_at hl 2 rfl) ?_
              refine lv_icmp_ne (tgt := 53) hx hb dX7_parent_47 (by decide) (fun c7 => ?_) (fun c7 => ?_)
              · have hs := ifn c7 hs
                refine lv_iinc (v := (v26_3 + 1)) (lv' := [(3, .int (v26_3 + 1)), (0, .ref (b 0)), (1, .int p1), (2, .int p2), (4, .int v26_4)]) hx hb dX7_parent_53 hl (k := 3) rfl (by rfl) (by decide) rfl (fun ls hl => ?_)
                refine lv_iinc (v := (v26_4 + 1)) (lv' := [(4, .int (v26_4 + 1)), (3, .int (v26_3 + 1)), (0, .ref (b 0)), (1, .int p1), (2, .int p2)]) hx hb dX7_parent_56 hl (k := 4) rfl (by rfl) (by decide) rfl (fun ls hl => ?_)
                refine lv_goto (tgt := 26) hx hb dX7_parent_59 (by decide) ?_
                cases hs
                exact ih26 (v26_3 + 1) (v26_4 + 1) hk26 _ _ hP hS _ (lv_sub hl [2, 3, 4, 1, 0] rfl)
              · have hs := ifp c7 hs
                refine lv_iload hx hb dX7_parent_50 (lv_at hl 4 rfl) ?_
                cases hs
                cases elim_inr hk26
                exact ret_roi hx hb hr hlk hS dX7_parent_52
      exact L26 n26 (0 : Int32) (0 : Int32) hs _ _ hP hS _ (lv_sub hl [2, 3, 4, 1, 0] rfl)
    · have hs := ifp c3 hs
      refine lv_bipush (v := -101) hx hb dX7_parent_18 (by decide) ?_
      cases hs
      exact ret_roi hx hb hr hlk hS dX7_parent_20
  · have hs := ifp c1 hs
    refine lv_bipush (v := -103) hx hb dX7_parent_7 (by decide) ?_
    cases hs
    exact ret_roi hx hb hr hlk hS dX7_parent_9
noncomputable def f_X7_broken (st : MS) : Option Int32 :=
  (if (st 11 0) = 0 then some ((-103 : Int32)) else (Option.bind (rd 784 (st 16) (1 : Int32)) (fun r2 => (if r2 = (-1 : Int32) then some ((0 : Int32)) else some ((1 : Int32))))))
set_option maxHeartbeats 4000000 in
set_option maxRecDepth 100000 in
theorem m_X7_broken (l : Launch) (g : GG) (b : Nat → Nat) (st : MS)  (res : Int32) (hs : f_X7_broken st = some res) : Met l yX7_broken (Cond.code yX7_broken cX7_broken 1 (some .int) :: BIG) ({ frames := 0, cells := 0, slots := 0, locals := 0 } : Room) (va_Pc [.ref (b 0)] (ROp g (mW g b st))) (ROi res) 0 0 (fun _ => False) := by
  refine ro_start (cc := cX7_broken) (maxL := 1) (ret := (some .int)) (lv := [(0, .ref (b 0))]) (by decide) rfl (Nat.le_of_ble_eq_true rfl) rfl ?_
  intro p e s m args below meth c hx hb hml hr hts hown hlk hK H locs hP hS ls hl
  have hB : ∀ w ∈ BIG, w.before args s = true := fun w h => hts w (List.mem_cons_of_mem _ h)
  have hC : CallFix p m c cX7_broken 1 s args BIG RX7 := ⟨hx, hb, hml, hown, hB⟩
  unfold f_X7_broken at hs
  refine lv_aload_n hx hb dX7_broken_0 rfl (lv_at hl 0 rfl) ?_
  refine mg_11 hx hb hB hown hK hP dX7_broken_1 ?_
  refine lv_if_ne (tgt := 12) hx hb dX7_broken_4 (by decide) (fun c1 => ?_) (fun c1 => ?_)
  · have hs := ifn c1 hs
    refine lv_aload_n hx hb dX7_broken_12 rfl (lv_at hl 0 rfl) ?_
    refine mg_16 hx hb hB hown hK hP dX7_broken_13 ?_
    refine lv_iconst (v := 1) hx hb dX7_broken_16 (by decide) ?_
    obtain ⟨r2, e2, hs⟩ := Option.bind_eq_some_iff.mp hs
    refine ml_16 hx hb hK hP e2 dX7_broken_17 ?_
    refine lv_iconst (v := -1) hx hb dX7_broken_18 (by decide) ?_
    refine lv_icmp_eq (tgt := 26) hx hb dX7_broken_19 (by decide) (fun c3 => ?_) (fun c3 => ?_)
    · have hs := ifp c3 hs
      refine lv_iconst (v := 0) hx hb dX7_broken_26 (by decide) ?_
      cases hs
      exact ret_roi hx hb hr hlk hS dX7_broken_27
    · have hs := ifn c3 hs
      refine lv_iconst (v := 1) hx hb dX7_broken_22 (by decide) ?_
      refine lv_goto (tgt := 27) hx hb dX7_broken_23 (by decide) ?_
      cases hs
      exact ret_roi hx hb hr hlk hS dX7_broken_27
  · have hs := ifp c1 hs
    refine lv_bipush (v := -103) hx hb dX7_broken_7 (by decide) ?_
    refine lv_goto (tgt := 27) hx hb dX7_broken_9 (by decide) ?_
    cases hs
    exact ret_roi hx hb hr hlk hS dX7_broken_27
noncomputable def b_X7_things_14 (st : MS) (v14_1 : Int32) (v14_2 : Int32) : Option ((Int32 × Int32) ⊕ Int32) :=
  (if (st 0 0) ≤ v14_2 then some (Sum.inr (v14_1)) else (Option.bind (rd 28 (st 29) v14_2) (fun r3 => (if r3 = 0 then some (Sum.inl ((v14_1 + (0 : Int32)), (v14_2 + 1))) else some (Sum.inl ((v14_1 + (1 : Int32)), (v14_2 + 1)))))))
noncomputable def f_X7_things (st : MS) : Option Int32 :=
  (if (st 11 0) = 0 then some ((-103 : Int32)) else (loopC (fun v => b_X7_things_14 st v.1 v.2) ((0 : Int32), (0 : Int32))))
set_option maxHeartbeats 4000000 in
set_option maxRecDepth 100000 in
theorem m_X7_things (l : Launch) (g : GG) (b : Nat → Nat) (st : MS)  (res : Int32) (hs : f_X7_things st = some res) : Met l yX7_things (Cond.code yX7_things cX7_things 3 (some .int) :: BIG) ({ frames := 0, cells := 0, slots := 0, locals := 0 } : Room) (va_Pc [.ref (b 0)] (ROp g (mW g b st))) (ROi res) 0 0 (fun _ => False) := by
  refine ro_start (cc := cX7_things) (maxL := 3) (ret := (some .int)) (lv := [(0, .ref (b 0))]) (by decide) rfl (Nat.le_of_ble_eq_true rfl) rfl ?_
  intro p e s m args below meth c hx hb hml hr hts hown hlk hK H locs hP hS ls hl
  have hB : ∀ w ∈ BIG, w.before args s = true := fun w h => hts w (List.mem_cons_of_mem _ h)
  have hC : CallFix p m c cX7_things 3 s args BIG RX7 := ⟨hx, hb, hml, hown, hB⟩
  unfold f_X7_things at hs
  refine lv_aload_n hx hb dX7_things_0 rfl (lv_at hl 0 rfl) ?_
  refine mg_11 hx hb hB hown hK hP dX7_things_1 ?_
  refine lv_if_ne (tgt := 10) hx hb dX7_things_4 (by decide) (fun c1 => ?_) (fun c1 => ?_)
  · have hs := ifn c1 hs
    refine lv_iconst (v := 0) hx hb dX7_things_10 (by decide) ?_
    refine lv_istore_n (lv' := [(1, .int (0 : Int32)), (0, .ref (b 0))]) hx hb dX7_things_11 rfl hl (by decide) rfl (fun ls hl => ?_)
    refine lv_iconst (v := 0) hx hb dX7_things_12 (by decide) ?_
    refine lv_istore_n (lv' := [(2, .int (0 : Int32)), (1, .int (0 : Int32)), (0, .ref (b 0))]) hx hb dX7_things_13 rfl hl (by decide) rfl (fun ls hl => ?_)
    obtain ⟨n14, hs⟩ := loopC_iter hs
    have L14 : ∀ (n : Nat) (v14_1 : Int32) (v14_2 : Int32), iterO (fun v => b_X7_things_14 st v.1 v.2) n (v14_1, v14_2) = some res → ∀ (H : Heap) (locs : List Loc), va_P g.1 vwCl (mW g b st) H → va_S (fun _ => False) s.heap H locs → ∀ ls : Array Slot, lv_has ls 3 [(0, .ref (b 0)), (1, .int v14_1), (2, .int v14_2)] → W p l e ({ frames := 0, cells := 0, slots := 0, locals := 0 } : Room) s m args below meth c H locs 0 0 (MQ below (ROi res) args s 0 0 (fun _ => False)) (F0 m 14 ls []) := by
      intro n
      induction n with
      | zero => intro v14_1 v14_2 hs; exact (iterO_zero hs).elim
      | succ n ih14 =>
        intro v14_1 v14_2 hs H locs hP hS ls hl
        obtain ⟨y14, hs, hk14⟩ := iterO_succ hs
        have hs : b_X7_things_14 st v14_1 v14_2 = some y14 := hs
        unfold b_X7_things_14 at hs
        refine lv_iload_n hx hb dX7_things_14 rfl (lv_at hl 2 rfl) ?_
        refine lv_aload_n hx hb dX7_things_15 rfl (lv_at hl 0 rfl) ?_
        refine mg_0 hx hb hB hown hK hP dX7_things_16 ?_
        refine lv_icmp_ge (tgt := 45) hx hb dX7_things_19 (by decide) (fun c2 => ?_) (fun c2 => ?_)
        · have hs := ifp c2 hs
          refine lv_iload_n hx hb dX7_things_45 rfl (lv_at hl 1 rfl) ?_
          cases hs
          cases elim_inr hk14
          exact ret_roi hx hb hr hlk hS dX7_things_46
        · have hs := ifn c2 hs
          refine lv_iload_n hx hb dX7_things_22 rfl (lv_at hl 1 rfl) ?_
          refine lv_aload_n hx hb dX7_things_23 rfl (lv_at hl 0 rfl) ?_
          refine mg_29 hx hb hB hown hK hP dX7_things_24 ?_
          refine lv_iload_n hx hb dX7_things_27 rfl (lv_at hl 2 rfl) ?_
          obtain ⟨r3, e3, hs⟩ := Option.bind_eq_some_iff.mp hs
          refine ml_29 hx hb hK hP e3 dX7_things_28 ?_
          refine lv_if_eq (tgt := 36) hx hb dX7_things_29 (by decide) (fun c4 => ?_) (fun c4 => ?_)
          · have hs := ifp c4 hs
            refine lv_iconst (v := 0) hx hb dX7_things_36 (by decide) ?_
            refine lv_iadd hx hb dX7_things_37 ?_
            refine lv_istore_n (lv' := [(1, .int (v14_1 + (0 : Int32))), (0, .ref (b 0)), (2, .int v14_2)]) hx hb dX7_things_38 rfl hl (by decide) rfl (fun ls hl => ?_)
            refine lv_iinc (v := (v14_2 + 1)) (lv' := [(2, .int (v14_2 + 1)), (1, .int (v14_1 + (0 : Int32))), (0, .ref (b 0))]) hx hb dX7_things_39 hl (k := 2) rfl (by rfl) (by decide) rfl (fun ls hl => ?_)
            refine lv_goto (tgt := 14) hx hb dX7_things_42 (by decide) ?_
            cases hs
            exact ih14 (v14_1 + (0 : Int32)) (v14_2 + 1) hk14 _ _ hP hS _ (lv_sub hl [2, 1, 0] rfl)
          · have hs := ifn c4 hs
            refine lv_iconst (v := 1) hx hb dX7_things_32 (by decide) ?_
            refine lv_goto (tgt := 37) hx hb dX7_things_33 (by decide) ?_
            refine lv_iadd hx hb dX7_things_37 ?_
            refine lv_istore_n (lv' := [(1, .int (v14_1 + (1 : Int32))), (0, .ref (b 0)), (2, .int v14_2)]) hx hb dX7_things_38 rfl hl (by decide) rfl (fun ls hl => ?_)
            refine lv_iinc (v := (v14_2 + 1)) (lv' := [(2, .int (v14_2 + 1)), (1, .int (v14_1 + (1 : Int32))), (0, .ref (b 0))]) hx hb dX7_things_39 hl (k := 2) rfl (by rfl) (by decide) rfl (fun ls hl => ?_)
            refine lv_goto (tgt := 14) hx hb dX7_things_42 (by decide) ?_
            cases hs
            exact ih14 (v14_1 + (1 : Int32)) (v14_2 + 1) hk14 _ _ hP hS _ (lv_sub hl [2, 1, 0] rfl)
    exact L14 n14 (0 : Int32) (0 : Int32) hs _ _ hP hS _ (lv_sub hl [2, 1, 0] rfl)
  · have hs := ifp c1 hs
    refine lv_bipush (v := -103) hx hb dX7_things_7 (by decide) ?_
    cases hs
    exact ret_roi hx hb hr hlk hS dX7_things_9
noncomputable def f_X7_isOf (st : MS) (p1 : Int32) (p2 : Int32) : Option Int32 :=
  (if (st 11 0) = 0 then some ((-103 : Int32)) else (if (t_X7_isNotion st p1) = 0 then some ((-101 : Int32)) else (if (t_X7_isNotion st p2) = 0 then some ((-101 : Int32)) else (Option.bind (rd 28 (st 29) p1) (fun r4 => (if r4 = 0 then some ((-1 : Int32)) else (Option.bind (rd 784 (st 31) (((28 : Int32) * p1) + p2)) (fun r6 => (if r6 = 0 then some ((0 : Int32)) else some ((1 : Int32)))))))))))
set_option maxHeartbeats 4000000 in
set_option maxRecDepth 100000 in
theorem m_X7_isOf (l : Launch) (g : GG) (b : Nat → Nat) (st : MS) (p1 : Int32) (p2 : Int32) (res : Int32) (hs : f_X7_isOf st p1 p2 = some res) : Met l yX7_isOf (Cond.code yX7_isOf cX7_isOf 3 (some .int) :: BIG) ({ frames := 2, cells := 0, slots := 0, locals := 43 } : Room) (va_Pc [.ref (b 0), .int p1, .int p2] (ROp g (mW g b st))) (ROi res) 0 0 (fun _ => False) := by
  refine ro_start (cc := cX7_isOf) (maxL := 3) (ret := (some .int)) (lv := [(0, .ref (b 0)), (1, .int p1), (2, .int p2)]) (by decide) rfl (Nat.le_of_ble_eq_true rfl) rfl ?_
  intro p e s m args below meth c hx hb hml hr hts hown hlk hK H locs hP hS ls hl
  have hB : ∀ w ∈ BIG, w.before args s = true := fun w h => hts w (List.mem_cons_of_mem _ h)
  have hC : CallFix p m c cX7_isOf 3 s args BIG RX7 := ⟨hx, hb, hml, hown, hB⟩
  unfold f_X7_isOf at hs
  refine lv_aload_n hx hb dX7_isOf_0 rfl (lv_at hl 0 rfl) ?_
  refine mg_11 hx hb hB hown hK hP dX7_isOf_1 ?_
  refine lv_if_ne (tgt := 10) hx hb dX7_isOf_4 (by decide) (fun c1 => ?_) (fun c1 => ?_)
  · have hs := ifn c1 hs
    refine lv_aload_n hx hb dX7_isOf_10 rfl (lv_at hl 0 rfl) ?_
    refine lv_iload_n hx hb dX7_isOf_11 rfl (lv_at hl 1 rfl) ?_
    refine cV_roi (As := [.int p1]) (rest := []) hC (m_X7_isNotion l g b st p1) (kv_of hB bw_8_16 bw_8_14 bw_8_15 bw_1_5 kd_X7_isNotion bw_8_13 rfl rfl ⟨Nat.le_of_ble_eq_true rfl, Nat.le_of_ble_eq_true rfl⟩) hK hP hP hS (mW_0 g b st) rfl rfl hl.1 rfl (Nat.le_of_ble_eq_true rfl) dX7_isOf_12 ⟨Nat.zero_le _, Nat.zero_le _⟩ (fun H locs hP hS => ?_)
    refine lv_if_eq (tgt := 26) hx hb dX7_isOf_15 (by decide) (fun c2 => ?_) (fun c2 => ?_)
    · have hs := ifp c2 hs
      refine lv_bipush (v := -101) hx hb dX7_isOf_26 (by decide) ?_
      cases hs
      exact ret_roi hx hb hr hlk hS dX7_isOf_28
    · have hs := ifn c2 hs
      refine lv_aload_n hx hb dX7_isOf_18 rfl (lv_at hl 0 rfl) ?_
      refine lv_iload_n hx hb dX7_isOf_19 rfl (lv_at hl 2 rfl) ?_
      refine cV_roi (As := [.int p2]) (rest := []) hC (m_X7_isNotion l g b st p2) (kv_of hB bw_8_16 bw_8_14 bw_8_15 bw_1_5 kd_X7_isNotion bw_8_13 rfl rfl ⟨Nat.le_of_ble_eq_true rfl, Nat.le_of_ble_eq_true rfl⟩) hK hP hP hS (mW_0 g b st) rfl rfl hl.1 rfl (Nat.le_of_ble_eq_true rfl) dX7_isOf_20 ⟨Nat.zero_le _, Nat.zero_le _⟩ (fun H locs hP hS => ?_)
      refine lv_if_ne (tgt := 29) hx hb dX7_isOf_23 (by decide) (fun c3 => ?_) (fun c3 => ?_)
      · have hs := ifn c3 hs
        refine lv_aload_n hx hb dX7_isOf_29 rfl (lv_at hl 0 rfl) ?_
        refine mg_29 hx hb hB hown hK hP dX7_isOf_30 ?_
        refine lv_iload_n hx hb dX7_isOf_33 rfl (lv_at hl 1 rfl) ?_
        obtain ⟨r4, e4, hs⟩ := Option.bind_eq_some_iff.mp hs
        refine ml_29 hx hb hK hP e4 dX7_isOf_34 ?_
        refine lv_if_ne (tgt := 42) hx hb dX7_isOf_35 (by decide) (fun c5 => ?_) (fun c5 => ?_)
        · have hs := ifn c5 hs
          refine lv_aload_n hx hb dX7_isOf_42 rfl (lv_at hl 0 rfl) ?_
          refine mg_31 hx hb hB hown hK hP dX7_isOf_43 ?_
          refine lv_bipush (v := 28) hx hb dX7_isOf_46 (by decide) ?_
          refine lv_iload_n hx hb dX7_isOf_48 rfl (lv_at hl 1 rfl) ?_
          refine lv_imul hx hb dX7_isOf_49 ?_
          refine lv_iload_n hx hb dX7_isOf_50 rfl (lv_at hl 2 rfl) ?_
          refine lv_iadd hx hb dX7_isOf_51 ?_
          obtain ⟨r6, e6, hs⟩ := Option.bind_eq_some_iff.mp hs
          refine ml_31 hx hb hK hP e6 dX7_isOf_52 ?_
          refine lv_if_eq (tgt := 60) hx hb dX7_isOf_53 (by decide) (fun c7 => ?_) (fun c7 => ?_)
          · have hs := ifp c7 hs
            refine lv_iconst (v := 0) hx hb dX7_isOf_60 (by decide) ?_
            cases hs
            exact ret_roi hx hb hr hlk hS dX7_isOf_61
          · have hs := ifn c7 hs
            refine lv_iconst (v := 1) hx hb dX7_isOf_56 (by decide) ?_
            refine lv_goto (tgt := 61) hx hb dX7_isOf_57 (by decide) ?_
            cases hs
            exact ret_roi hx hb hr hlk hS dX7_isOf_61
        · have hs := ifp c5 hs
          refine lv_iconst (v := -1) hx hb dX7_isOf_38 (by decide) ?_
          refine lv_goto (tgt := 61) hx hb dX7_isOf_39 (by decide) ?_
          cases hs
          exact ret_roi hx hb hr hlk hS dX7_isOf_61
      · have hs := ifp c3 hs
        refine lv_bipush (v := -101) hx hb dX7_isOf_26 (by decide) ?_
        cases hs
        exact ret_roi hx hb hr hlk hS dX7_isOf_28
  · have hs := ifp c1 hs
    refine lv_bipush (v := -103) hx hb dX7_isOf_7 (by decide) ?_
    cases hs
    exact ret_roi hx hb hr hlk hS dX7_isOf_9
noncomputable def f_X7_pair (st : MS) (p1 : Int32) (p2 : Int32) (p3 : Int32) : Option Int32 :=
  (if (st 11 0) = 0 then some ((-103 : Int32)) else (if (t_X7_isNotion st p1) = 0 then some ((-101 : Int32)) else (if (t_X7_isNotion st p3) = 0 then some ((-101 : Int32)) else (if (t_X7_isRole p2) = 0 then some ((-102 : Int32)) else (Option.bind (rd 3136 (st 30) ((((112 : Int32) * p1) + ((28 : Int32) * p2)) + p3)) (fun r5 => (if r5 = 0 then some ((0 : Int32)) else some ((1 : Int32)))))))))
set_option maxHeartbeats 4000000 in
set_option maxRecDepth 100000 in
theorem m_X7_pair (l : Launch) (g : GG) (b : Nat → Nat) (st : MS) (p1 : Int32) (p2 : Int32) (p3 : Int32) (res : Int32) (hs : f_X7_pair st p1 p2 p3 = some res) : Met l yX7_pair (Cond.code yX7_pair cX7_pair 4 (some .int) :: BIG) ({ frames := 2, cells := 0, slots := 0, locals := 43 } : Room) (va_Pc [.ref (b 0), .int p1, .int p2, .int p3] (ROp g (mW g b st))) (ROi res) 0 0 (fun _ => False) := by
  refine ro_start (cc := cX7_pair) (maxL := 4) (ret := (some .int)) (lv := [(0, .ref (b 0)), (1, .int p1), (2, .int p2), (3, .int p3)]) (by decide) rfl (Nat.le_of_ble_eq_true rfl) rfl ?_
  intro p e s m args below meth c hx hb hml hr hts hown hlk hK H locs hP hS ls hl
  have hB : ∀ w ∈ BIG, w.before args s = true := fun w h => hts w (List.mem_cons_of_mem _ h)
  have hC : CallFix p m c cX7_pair 4 s args BIG RX7 := ⟨hx, hb, hml, hown, hB⟩
  unfold f_X7_pair at hs
  refine lv_aload_n hx hb dX7_pair_0 rfl (lv_at hl 0 rfl) ?_
  refine mg_11 hx hb hB hown hK hP dX7_pair_1 ?_
  refine lv_if_ne (tgt := 10) hx hb dX7_pair_4 (by decide) (fun c1 => ?_) (fun c1 => ?_)
  · have hs := ifn c1 hs
    refine lv_aload_n hx hb dX7_pair_10 rfl (lv_at hl 0 rfl) ?_
    refine lv_iload_n hx hb dX7_pair_11 rfl (lv_at hl 1 rfl) ?_
    refine cV_roi (As := [.int p1]) (rest := []) hC (m_X7_isNotion l g b st p1) (kv_of hB bw_8_16 bw_8_14 bw_8_15 bw_1_5 kd_X7_isNotion bw_8_13 rfl rfl ⟨Nat.le_of_ble_eq_true rfl, Nat.le_of_ble_eq_true rfl⟩) hK hP hP hS (mW_0 g b st) rfl rfl hl.1 rfl (Nat.le_of_ble_eq_true rfl) dX7_pair_12 ⟨Nat.zero_le _, Nat.zero_le _⟩ (fun H locs hP hS => ?_)
    refine lv_if_eq (tgt := 26) hx hb dX7_pair_15 (by decide) (fun c2 => ?_) (fun c2 => ?_)
    · have hs := ifp c2 hs
      refine lv_bipush (v := -101) hx hb dX7_pair_26 (by decide) ?_
      cases hs
      exact ret_roi hx hb hr hlk hS dX7_pair_28
    · have hs := ifn c2 hs
      refine lv_aload_n hx hb dX7_pair_18 rfl (lv_at hl 0 rfl) ?_
      refine lv_iload_n hx hb dX7_pair_19 rfl (lv_at hl 3 rfl) ?_
      refine cV_roi (As := [.int p3]) (rest := []) hC (m_X7_isNotion l g b st p3) (kv_of hB bw_8_16 bw_8_14 bw_8_15 bw_1_5 kd_X7_isNotion bw_8_13 rfl rfl ⟨Nat.le_of_ble_eq_true rfl, Nat.le_of_ble_eq_true rfl⟩) hK hP hP hS (mW_0 g b st) rfl rfl hl.1 rfl (Nat.le_of_ble_eq_true rfl) dX7_pair_20 ⟨Nat.zero_le _, Nat.zero_le _⟩ (fun H locs hP hS => ?_)
      refine lv_if_ne (tgt := 29) hx hb dX7_pair_23 (by decide) (fun c3 => ?_) (fun c3 => ?_)
      · have hs := ifn c3 hs
        refine lv_iload_n hx hb dX7_pair_29 rfl (lv_at hl 2 rfl) ?_
        refine cS_roi (As := [.int p2]) (rest := []) hC (m_X7_isRole l g (mW g b st) p2) (ks_of hB bw_9_14 bw_9_13 bw_1_5 kd_X7_isRole bw_9_12 rfl rfl ⟨Nat.le_of_ble_eq_true rfl, Nat.le_of_ble_eq_true rfl⟩) hK hP hP hS rfl hl.1 rfl (Nat.le_of_ble_eq_true rfl) dX7_pair_30 ⟨Nat.zero_le _, Nat.zero_le _⟩ (fun H locs hP hS => ?_)
        refine lv_if_ne (tgt := 41) hx hb dX7_pair_33 (by decide) (fun c4 => ?_) (fun c4 => ?_)
        · have hs := ifn c4 hs
          refine lv_aload_n hx hb dX7_pair_41 rfl (lv_at hl 0 rfl) ?_
          refine mg_30 hx hb hB hown hK hP dX7_pair_42 ?_
          refine lv_bipush (v := 112) hx hb dX7_pair_45 (by decide) ?_
          refine lv_iload_n hx hb dX7_pair_47 rfl (lv_at hl 1 rfl) ?_
          refine lv_imul hx hb dX7_pair_48 ?_
          refine lv_bipush (v := 28) hx hb dX7_pair_49 (by decide) ?_
          refine lv_iload_n hx hb dX7_pair_51 rfl (lv_at hl 2 rfl) ?_
          refine lv_imul hx hb dX7_pair_52 ?_
          refine lv_iadd hx hb dX7_pair_53 ?_
          refine lv_iload_n hx hb dX7_pair_54 rfl (lv_at hl 3 rfl) ?_
          refine lv_iadd hx hb dX7_pair_55 ?_
          obtain ⟨r5, e5, hs⟩ := Option.bind_eq_some_iff.mp hs
          refine ml_30 hx hb hK hP e5 dX7_pair_56 ?_
          refine lv_if_eq (tgt := 64) hx hb dX7_pair_57 (by decide) (fun c6 => ?_) (fun c6 => ?_)
          · have hs := ifp c6 hs
            refine lv_iconst (v := 0) hx hb dX7_pair_64 (by decide) ?_
            cases hs
            exact ret_roi hx hb hr hlk hS dX7_pair_65
          · have hs := ifn c6 hs
            refine lv_iconst (v := 1) hx hb dX7_pair_60 (by decide) ?_
            refine lv_goto (tgt := 65) hx hb dX7_pair_61 (by decide) ?_
            cases hs
            exact ret_roi hx hb hr hlk hS dX7_pair_65
        · have hs := ifp c4 hs
          refine lv_bipush (v := -102) hx hb dX7_pair_36 (by decide) ?_
          refine lv_goto (tgt := 65) hx hb dX7_pair_38 (by decide) ?_
          cases hs
          exact ret_roi hx hb hr hlk hS dX7_pair_65
      · have hs := ifp c3 hs
        refine lv_bipush (v := -101) hx hb dX7_pair_26 (by decide) ?_
        cases hs
        exact ret_roi hx hb hr hlk hS dX7_pair_28
  · have hs := ifp c1 hs
    refine lv_bipush (v := -103) hx hb dX7_pair_7 (by decide) ?_
    cases hs
    exact ret_roi hx hb hr hlk hS dX7_pair_9
