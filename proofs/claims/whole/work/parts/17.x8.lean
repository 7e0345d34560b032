noncomputable def b_X6_isParent_31 (st : XS) (c31_1 : Int32) (c31_2 : Int32) (v31_3 : Int32) : Option (Int32 ⊕ Int32) :=
  (if (st.1 30 0) ≤ v31_3 then some (Sum.inr ((1 : Int32))) else (if (t_X3_named st v31_3) = 0 then some (Sum.inl (v31_3 + 1)) else (if (t_X6_isUnder st c31_1 v31_3) = 0 then some (Sum.inl (v31_3 + 1)) else (if (t_X6_isUnder st v31_3 c31_2) = 0 then some (Sum.inl (v31_3 + 1)) else (if (t_X6_areLike st v31_3 c31_1) = 0 then (if (t_X6_areLike st v31_3 c31_2) = 0 then some (Sum.inr ((0 : Int32))) else some (Sum.inl (v31_3 + 1))) else some (Sum.inl (v31_3 + 1)))))))
noncomputable def f_X6_isParent (st : XS) (p1 : Int32) (p2 : Int32) : Option Int32 :=
  (if (t_X6_isUnder st p1 p2) = 0 then some ((0 : Int32)) else (if (t_X6_areLike st p1 p2) = 0 then (Option.bind (f_X6_leastLike st p2) (fun r3 => (if r3 = p2 then (loopC (fun v => b_X6_isParent_31 st p1 p2 v) (0 : Int32)) else some ((0 : Int32))))) else some ((0 : Int32))))
set_option maxHeartbeats 4000000 in
set_option maxRecDepth 100000 in
theorem m_X6_isParent (l : Launch) (g : GG) (a : Nat → Nat) (st : XS) (p1 : Int32) (p2 : Int32) (res : Int32) (hs : f_X6_isParent st p1 p2 = some res) : Met l yX6_isParent (Cond.code yX6_isParent cX6_isParent 5 (some .boolean) :: BIG) ({ frames := 5, cells := 0, slots := 0, locals := 109 } : Room) (va_Pc [.ref (a 0), .int p1, .int p2] (ROp g (xW g a st))) (ROi res) 0 0 (fun _ => False) := by
  refine ro_start (cc := cX6_isParent) (maxL := 5) (ret := (some .boolean)) (lv := [(0, .ref (a 0)), (1, .int p1), (2, .int p2)]) (by decide) rfl (Nat.le_of_ble_eq_true rfl) rfl ?_
  intro p e s m args below meth c hx hb hml hr hts hown hlk hK H locs hP hS ls hl
  have hB : ∀ w ∈ BIG, w.before args s = true := fun w h => hts w (List.mem_cons_of_mem _ h)
  have hC : CallFix p m c cX6_isParent 5 s args BIG RX6 := ⟨hx, hb, hml, hown, hB⟩
  unfold f_X6_isParent at hs
  refine lv_aload_n hx hb dX6_isParent_0 rfl (lv_at hl 0 rfl) ?_
  refine lv_iload_n hx hb dX6_isParent_1 rfl (lv_at hl 1 rfl) ?_
  refine lv_iload_n hx hb dX6_isParent_2 rfl (lv_at hl 2 rfl) ?_
  refine cV_roi (As := [.int p1, .int p2]) (rest := []) hC (m_X6_isUnder l g a st p1 p2) (kv_of hB bw_26_19 bw_26_17 bw_26_18 bw_1_2 kd_X6_isUnder bw_26_16 rfl rfl ⟨Nat.le_of_ble_eq_true rfl, Nat.le_of_ble_eq_true rfl⟩) hK hP hP hS (xW_0 g a st) rfl rfl hl.1 rfl (Nat.le_of_ble_eq_true rfl) dX6_isParent_3 ⟨Nat.zero_le _, Nat.zero_le _⟩ (fun H locs hP hS => ?_)
  refine lv_if_eq (tgt := 27) hx hb dX6_isParent_6 (by decide) (fun c1 => ?_) (fun c1 => ?_)
  · have hs := ifp c1 hs
    refine lv_iconst (v := 0) hx hb dX6_isParent_27 (by decide) ?_
    cases hs
    exact ret_roz hx hb hr (zn_of (Or.inl rfl)) hlk hS dX6_isParent_28
  · have hs := ifn c1 hs
    refine lv_aload_n hx hb dX6_isParent_9 rfl (lv_at hl 0 rfl) ?_
    refine lv_iload_n hx hb dX6_isParent_10 rfl (lv_at hl 1 rfl) ?_
    refine lv_iload_n hx hb dX6_isParent_11 rfl (lv_at hl 2 rfl) ?_
    refine cV_roi (As := [.int p1, .int p2]) (rest := []) hC (m_X6_areLike l g a st p1 p2) (kv_of hB bw_27_21 bw_27_19 bw_27_20 bw_1_2 kd_X6_areLike bw_27_18 rfl rfl ⟨Nat.le_of_ble_eq_true rfl, Nat.le_of_ble_eq_true rfl⟩) hK hP hP hS (xW_0 g a st) rfl rfl hl.1 rfl (Nat.le_of_ble_eq_true rfl) dX6_isParent_12 ⟨Nat.zero_le _, Nat.zero_le _⟩ (fun H locs hP hS => ?_)
    refine lv_if_ne (tgt := 27) hx hb dX6_isParent_15 (by decide) (fun c2 => ?_) (fun c2 => ?_)
    · have hs := ifn c2 hs
      refine lv_iconst (v := 0) hx hb dX6_isParent_27 (by decide) ?_
      cases hs
      exact ret_roz hx hb hr (zn_of (Or.inl rfl)) hlk hS dX6_isParent_28
    · have hs := ifp c2 hs
      refine lv_aload_n hx hb dX6_isParent_18 rfl (lv_at hl 0 rfl) ?_
      refine lv_iload_n hx hb dX6_isParent_19 rfl (lv_at hl 2 rfl) ?_
      obtain ⟨r3, e3, hs⟩ := Option.bind_eq_some_iff.mp hs
      refine cV_roi (As := [.int p2]) (rest := []) hC (m_X6_leastLike l g a st p2 r3 e3) (kv_of hB bw_27_17 bw_27_15 bw_27_16 bw_1_2 kd_X6_leastLike bw_27_14 rfl rfl ⟨Nat.le_of_ble_eq_true rfl, Nat.le_of_ble_eq_true rfl⟩) hK hP hP hS (xW_0 g a st) rfl rfl hl.1 rfl (Nat.le_of_ble_eq_true rfl) dX6_isParent_20 ⟨Nat.zero_le _, Nat.zero_le _⟩ (fun H locs hP hS => ?_)
      refine lv_iload_n hx hb dX6_isParent_23 rfl (lv_at hl 2 rfl) ?_
      refine lv_icmp_eq (tgt := 29) hx hb dX6_isParent_24 (by decide) (fun c4 => ?_) (fun c4 => ?_)
      · have hs := ifp c4 hs
        refine lv_iconst (v := 0) hx hb dX6_isParent_29 (by decide) ?_
        refine lv_istore_n (lv' := [(3, .int (0 : Int32)), (0, .ref (a 0)), (1, .int p1), (2, .int p2)]) hx hb dX6_isParent_30 rfl hl (by decide) rfl (fun ls hl => ?_)
        obtain ⟨n31, hs⟩ := loopC_iter hs
        have L31 : ∀ (n : Nat) (v31_3 : Int32), iterO (fun v => b_X6_isParent_31 st p1 p2 v) n v31_3 = some res → ∀ (H : Heap) (locs : List Loc), va_P g.1 vwCl (xW g a st) H → va_S (fun _ => False) s.heap H locs → ∀ ls : Array Slot, lv_has ls 5 [(0, .ref (a 0)), (1, .int p1), (2, .int p2), (3, .int v31_3)] → W p l e ({ frames := 5, cells := 0, slots := 0, locals := 109 } : Room) s m args below meth c H locs 0 0 (MQ below (ROi res) args s 0 0 (fun _ => False)) (F0 m 31 ls []) := by
          intro n
          induction n with
          | zero => intro v31_3 hs; exact (iterO_zero hs).elim
          | succ n ih31 =>
            intro v31_3 hs H locs hP hS ls hl
            obtain ⟨y31, hs, hk31⟩ := iterO_succ hs
            have hs : b_X6_isParent_31 st p1 p2 v31_3 = some y31 := hs
            unfold b_X6_isParent_31 at hs
            refine lv_iload_n hx hb dX6_isParent_31 rfl (lv_at hl 3 rfl) ?_
            refine lv_aload_n hx hb dX6_isParent_32 rfl (lv_at hl 0 rfl) ?_
            refine xg_6_0 hx hb hB hown hK hP dX6_isParent_33 ?_
            refine xn_RX6_145 hx hb hB hown hK hP dX6_isParent_36 ?_
            refine lv_icmp_ge (tgt := 109) hx hb dX6_isParent_39 (by decide) (fun c5 => ?_) (fun c5 => ?_)
            · have hs := ifp c5 hs
              refine lv_iconst (v := 1) hx hb dX6_isParent_109 (by decide) ?_
              cases hs
              cases elim_inr hk31
              exact ret_roz hx hb hr (zn_of (Or.inr rfl)) hlk hS dX6_isParent_110
            · have hs := ifn c5 hs
              refine lv_aload_n hx hb dX6_isParent_42 rfl (lv_at hl 0 rfl) ?_
              refine xg_6_0 hx hb hB hown hK hP dX6_isParent_43 ?_
              refine lv_iload_n hx hb dX6_isParent_46 rfl (lv_at hl 3 rfl) ?_
              refine cV_roi (As := [.int v31_3]) (rest := []) hC (m_X3_named l g a st v31_3) (kv_of hB bw_26_14 bw_26_12 bw_26_13 bw_1_14 kd_X3_named bw_26_11 rfl rfl ⟨Nat.le_of_ble_eq_true rfl, Nat.le_of_ble_eq_true rfl⟩) hK hP hP hS (xW_1 g a st) rfl rfl hl.1 rfl (Nat.le_of_ble_eq_true rfl) dX6_isParent_47 ⟨Nat.zero_le _, Nat.zero_le _⟩ (fun H locs hP hS => ?_)
              refine lv_if_eq (tgt := 75) hx hb dX6_isParent_50 (by decide) (fun c6 => ?_) (fun c6 => ?_)
              · have hs := ifp c6 hs
                refine lv_iconst (v := 0) hx hb dX6_isParent_75 (by decide) ?_
                refine lv_istore (lv' := [(4, .int (0 : Int32)), (0, .ref (a 0)), (1, .int p1), (2, .int p2), (3, .int v31_3)]) hx hb dX6_isParent_76 hl (by decide) rfl (fun ls hl => ?_)
                refine lv_iload hx hb dX6_isParent_78 (lv_at hl 0 rfl) ?_
                refine lv_if_eq (tgt := 103) hx hb dX6_isParent_80 (by decide) (fun _ => ?_) (fun c7 => absurd (by decide) c7)
                refine lv_iinc (v := (v31_3 + 1)) (lv' := [(3, .int (v31_3 + 1)), (4, .int (0 : Int32)), (0, .ref (a 0)), (1, .int p1), (2, .int p2)]) hx hb dX6_isParent_103 hl (k := 4) rfl (by rfl) (by decide) rfl (fun ls hl => ?_)
                refine lv_goto (tgt := 31) hx hb dX6_isParent_106 (by decide) ?_
                cases hs
                exact ih31 (v31_3 + 1) hk31 _ _ hP hS _ (lv_sub hl [2, 3, 4, 0] rfl)
              · have hs := ifn c6 hs
                refine lv_aload_n hx hb dX6_isParent_53 rfl (lv_at hl 0 rfl) ?_
                refine lv_iload_n hx hb dX6_isParent_54 rfl (lv_at hl 1 rfl) ?_
                refine lv_iload_n hx hb dX6_isParent_55 rfl (lv_at hl 3 rfl) ?_
                refine cV_roi (As := [.int p1, .int v31_3]) (rest := []) hC (m_X6_isUnder l g a st p1 v31_3) (kv_of hB bw_26_19 bw_26_17 bw_26_18 bw_1_2 kd_X6_isUnder bw_26_16 rfl rfl ⟨Nat.le_of_ble_eq_true rfl, Nat.le_of_ble_eq_true rfl⟩) hK hP hP hS (xW_0 g a st) rfl rfl hl.1 rfl (Nat.le_of_ble_eq_true rfl) dX6_isParent_56 ⟨Nat.zero_le _, Nat.zero_le _⟩ (fun H locs hP hS => ?_)
                refine lv_if_eq (tgt := 75) hx hb dX6_isParent_59 (by decide) (fun c8 => ?_) (fun c8 => ?_)
                · have hs := ifp c8 hs
                  refine lv_iconst (v := 0) hx hb dX6_isParent_75 (by decide) ?_
                  refine lv_istore (lv' := [(4, .int (0 : Int32)), (0, .ref (a 0)), (1, .int p1), (2, .int p2), (3, .int v31_3)]) hx hb dX6_isParent_76 hl (by decide) rfl (fun ls hl => ?_)
                  refine lv_iload hx hb dX6_isParent_78 (lv_at hl 0 rfl) ?_
                  refine lv_if_eq (tgt := 103) hx hb dX6_isParent_80 (by decide) (fun _ => ?_) (fun c9 => absurd (by decide) c9)
                  refine lv_iinc (v := (v31_3 + 1)) (lv' := [(3, .int (v31_3 + 1)), (4, .int (0 : Int32)), (0, .ref (a 0)), (1, .int p1), (2, .int p2)]) hx hb dX6_isParent_103 hl (k := 4) rfl (by rfl) (by decide) rfl (fun ls hl => ?_)
                  refine lv_goto (tgt := 31) hx hb dX6_isParent_106 (by decide) ?_
                  cases hs
                  exact ih31 (v31_3 + 1) hk31 _ _ hP hS _ (lv_sub hl [2, 3, 4, 0] rfl)
                · have hs := ifn c8 hs
                  refine lv_aload_n hx hb dX6_isParent_62 rfl (lv_at hl 0 rfl) ?_
                  refine lv_iload_n hx hb dX6_isParent_63 rfl (lv_at hl 3 rfl) ?_
                  refine lv_iload_n hx hb dX6_isParent_64 rfl (lv_at hl 2 rfl) ?_
                  refine cV_roi (As := [.int v31_3, .int p2]) (rest := []) hC (m_X6_isUnder l g a st v31_3 p2) (kv_of hB bw_26_19 bw_26_17 bw_26_18 bw_1_2 kd_X6_isUnder bw_26_16 rfl rfl ⟨Nat.le_of_ble_eq_true rfl, Nat.le_of_ble_eq_true rfl⟩) hK hP hP hS (xW_0 g a st) rfl rfl hl.1 rfl (Nat.le_of_ble_eq_true rfl) dX6_isParent_65 ⟨Nat.zero_le _, Nat.zero_le _⟩ (fun H locs hP hS => ?_)
                  refine lv_if_eq (tgt := 75) hx hb dX6_isParent_68 (by decide) (fun c10 => ?_) (fun c10 => ?_)
                  · have hs := ifp c10 hs
                    refine lv_iconst (v := 0) hx hb dX6_isParent_75 (by decide) ?_
                    refine lv_istore (lv' := [(4, .int (0 : Int32)), (0, .ref (a 0)), (1, .int p1), (2, .int p2), (3, .int v31_3)]) hx hb dX6_isParent_76 hl (by decide) rfl (fun ls hl => ?_)
                    refine lv_iload hx hb dX6_isParent_78 (lv_at hl 0 rfl) ?_
                    refine lv_if_eq (tgt := 103) hx hb dX6_isParent_80 (by decide) (fun _ => ?_) (fun c11 => absurd (by decide) c11)
                    refine lv_iinc (v := (v31_3 + 1)) (lv' := [(3, .int (v31_3 + 1)), (4, .int (0 : Int32)), (0, .ref (a 0)), (1, .int p1), (2, .int p2)]) hx hb dX6_isParent_103 hl (k := 4) rfl (by rfl) (by decide) rfl (fun ls hl => ?_)
                    refine lv_goto (tgt := 31) hx hb dX6_isParent_106 (by decide) ?_
                    cases hs
                    exact ih31 (v31_3 + 1) hk31 _ _ hP hS _ (lv_sub hl [2, 3, 4, 0] rfl)
                  · have hs := ifn c10 hs
                    refine lv_iconst (v := 1) hx hb dX6_isParent_71 (by decide) ?_
                    refine lv_goto (tgt := 76) hx hb dX6_isParent_72 (by decide) ?_
                    refine lv_istore (lv' := [(4, .int (1 : Int32)), (0, .ref (a 0)), (1, .int p1), (2, .int p2), (3, .int v31_3)]) hx hb dX6_isParent_76 hl (by decide) rfl (fun ls hl => ?_)
                    refine lv_iload hx hb dX6_isParent_78 (lv_at hl 0 rfl) ?_
                    refine lv_if_eq (tgt := 103) hx hb dX6_isParent_80 (by decide) (fun c12 => absurd c12 (by decide)) (fun _ => ?_)
                    refine lv_aload_n hx hb dX6_isParent_83 rfl (lv_at hl 1 rfl) ?_
                    refine lv_iload_n hx hb dX6_isParent_84 rfl (lv_at hl 4 rfl) ?_
                    refine lv_iload_n hx hb dX6_isParent_85 rfl (lv_at hl 2 rfl) ?_
                    refine cV_roi (As := [.int v31_3, .int p1]) (rest := []) hC (m_X6_areLike l g a st v31_3 p1) (kv_of hB bw_27_21 bw_27_19 bw_27_20 bw_1_2 kd_X6_areLike bw_27_18 rfl rfl ⟨Nat.le_of_ble_eq_true rfl, Nat.le_of_ble_eq_true rfl⟩) hK hP hP hS (xW_0 g a st) rfl rfl hl.1 rfl (Nat.le_of_ble_eq_true rfl) dX6_isParent_86 ⟨Nat.zero_le _, Nat.zero_le _⟩ (fun H locs hP hS => ?_)
                    refine lv_if_ne (tgt := 103) hx hb dX6_isParent_89 (by decide) (fun c13 => ?_) (fun c13 => ?_)
                    · have hs := ifn c13 hs
                      refine lv_iinc (v := (v31_3 + 1)) (lv' := [(3, .int (v31_3 + 1)), (4, .int (1 : Int32)), (0, .ref (a 0)), (1, .int p1), (2, .int p2)]) hx hb dX6_isParent_103 hl (k := 4) rfl (by rfl) (by decide) rfl (fun ls hl => ?_)
                      refine lv_goto (tgt := 31) hx hb dX6_isParent_106 (by decide) ?_
                      cases hs
                      exact ih31 (v31_3 + 1) hk31 _ _ hP hS _ (lv_sub hl [2, 3, 4, 0] rfl)
                    · have hs := ifp c13 hs
                      refine lv_aload_n hx hb dX6_isParent_92 rfl (lv_at hl 1 rfl) ?_
                      refine lv_iload_n hx hb dX6_isParent_93 rfl (lv_at hl 4 rfl) ?_
                      refine lv_iload_n hx hb dX6_isParent_94 rfl (lv_at hl 3 rfl) ?_
                      refine cV_roi (As := [.int v31_3, .int p2]) (rest := []) hC (m_X6_areLike l g a st v31_3 p2) (kv_of hB bw_27_21 bw_27_19 bw_27_20 bw_1_2 kd_X6_areLike bw_27_18 rfl rfl ⟨Nat.le_of_ble_eq_true rfl, Nat.le_of_ble_eq_true rfl⟩) hK hP hP hS (xW_0 g a st) rfl rfl hl.1 rfl (Nat.le_of_ble_eq_true rfl) dX6_isParent_95 ⟨Nat.zero_le _, Nat.zero_le _⟩ (fun H locs hP hS => ?_)
                      refine lv_if_ne (tgt := 103) hx hb dX6_isParent_98 (by decide) (fun c14 => ?_) (fun c14 => ?_)
                      · have hs := ifn c14 hs
                        refine lv_iinc (v := (v31_3 + 1)) (lv' := [(3, .int (v31_3 + 1)), (4, .int (1 : Int32)), (0, .ref (a 0)), (1, .int p1), (2, .int p2)]) hx hb dX6_isParent_103 hl (k := 4) rfl (by rfl) (by decide) rfl (fun ls hl => ?_)
                        refine lv_goto (tgt := 31) hx hb dX6_isParent_106 (by decide) ?_
                        cases hs
                        exact ih31 (v31_3 + 1) hk31 _ _ hP hS _ (lv_sub hl [2, 3, 4, 0] rfl)
                      · have hs := ifp c14 hs
                        refine lv_iconst (v := 0) hx hb dX6_isParent_101 (by decide) ?_
                        cases hs
                        cases elim_inr hk31
                        exact ret_roz hx hb hr (zn_of (Or.inl rfl)) hlk hS dX6_isParent_102
        exact L31 n31 (0 : Int32) hs _ _ hP hS _ (lv_sub hl [1, 2, 3, 0] rfl)
      · have hs := ifn c4 hs
        refine lv_iconst (v := 0) hx hb dX6_isParent_27 (by decide) ?_
        cases hs
        exact ret_roz hx hb hr (zn_of (Or.inl rfl)) hlk hS dX6_isParent_28
noncomputable def b_X6_parent_29 (st : XS) (c29_1 : Int32) (c29_2 : Int32) (v29_3 : Int32) (v29_4 : Int32) : Option ((Int32 × Int32) ⊕ Int32) :=
  (if (st.1 30 0) ≤ v29_4 then some (Sum.inr ((-1 : Int32))) else (if (t_X3_named st v29_4) = 0 then some (Sum.inl (v29_3, (v29_4 + 1))) else (Option.bind (f_X6_isParent st c29_1 v29_4) (fun r5 => (if r5 = 0 then some (Sum.inl (v29_3, (v29_4 + 1))) else (if v29_3 = c29_2 then some (Sum.inr (v29_4)) else some (Sum.inl ((v29_3 + 1), (v29_4 + 1)))))))))
noncomputable def f_X6_parent (st : XS) (p1 : Int32) (p2 : Int32) : Option Int32 :=
  (if (st.1 36 0) = 0 then some ((-103 : Int32)) else (if (t_X3_named st p1) = 0 then some ((-101 : Int32)) else (loopC (fun v => b_X6_parent_29 st p1 p2 v.1 v.2) ((0 : Int32), (0 : Int32)))))
set_option maxHeartbeats 4000000 in
set_option maxRecDepth 100000 in
theorem m_X6_parent (l : Launch) (g : GG) (a : Nat → Nat) (st : XS) (p1 : Int32) (p2 : Int32) (res : Int32) (hs : f_X6_parent st p1 p2 = some res) : Met l yX6_parent (Cond.code yX6_parent cX6_parent 5 (some .int) :: BIG) ({ frames := 6, cells := 0, slots := 0, locals := 133 } : Room) (va_Pc [.ref (a 0), .int p1, .int p2] (ROp g (xW g a st))) (ROi res) 0 0 (fun _ => False) := by
  refine ro_start (cc := cX6_parent) (maxL := 5) (ret := (some .int)) (lv := [(0, .ref (a 0)), (1, .int p1), (2, .int p2)]) (by decide) rfl (Nat.le_of_ble_eq_true rfl) rfl ?_
  intro p e s m args below meth c hx hb hml hr hts hown hlk hK H locs hP hS ls hl
  have hB : ∀ w ∈ BIG, w.before args s = true := fun w h => hts w (List.mem_cons_of_mem _ h)
  have hC : CallFix p m c cX6_parent 5 s args BIG RX6 := ⟨hx, hb, hml, hown, hB⟩
  unfold f_X6_parent at hs
  refine lv_aload_n hx hb dX6_parent_0 rfl (lv_at hl 0 rfl) ?_
  refine xg_6_7 hx hb hB hown hK hP dX6_parent_1 ?_
  refine lv_if_ne (tgt := 10) hx hb dX6_parent_4 (by decide) (fun c1 => ?_) (fun c1 => ?_)
  · have hs := ifn c1 hs
    refine lv_aload_n hx hb dX6_parent_10 rfl (lv_at hl 0 rfl) ?_
    refine xg_6_0 hx hb hB hown hK hP dX6_parent_11 ?_
    refine lv_iload_n hx hb dX6_parent_14 rfl (lv_at hl 1 rfl) ?_
    refine cV_roi (As := [.int p1]) (rest := []) hC (m_X3_named l g a st p1) (kv_of hB bw_26_14 bw_26_12 bw_26_13 bw_1_14 kd_X3_named bw_26_11 rfl rfl ⟨Nat.le_of_ble_eq_true rfl, Nat.le_of_ble_eq_true rfl⟩) hK hP hP hS (xW_1 g a st) rfl rfl hl.1 rfl (Nat.le_of_ble_eq_true rfl) dX6_parent_15 ⟨Nat.zero_le _, Nat.zero_le _⟩ (fun H locs hP hS => ?_)
    refine lv_if_ne (tgt := 24) hx hb dX6_parent_18 (by decide) (fun c2 => ?_) (fun c2 => ?_)
    · have hs := ifn c2 hs
      refine lv_iconst (v := 0) hx hb dX6_parent_24 (by decide) ?_
      refine lv_istore_n (lv' := [(3, .int (0 : Int32)), (0, .ref (a 0)), (1, .int p1), (2, .int p2)]) hx hb dX6_parent_25 rfl hl (by decide) rfl (fun ls hl => ?_)
      refine lv_iconst (v := 0) hx hb dX6_parent_26 (by decide) ?_
      refine lv_istore (lv' := [(4, .int (0 : Int32)), (3, .int (0 : Int32)), (0, .ref (a 0)), (1, .int p1), (2, .int p2)]) hx hb dX6_parent_27 hl (by decide) rfl (fun ls hl => ?_)
      obtain ⟨n29, hs⟩ := loopC_iter hs
      have L29 : ∀ (n : Nat) (v29_3 : Int32) (v29_4 : Int32), iterO (fun v => b_X6_parent_29 st p1 p2 v.1 v.2) n (v29_3, v29_4) = some res → ∀ (H : Heap) (locs : List Loc), va_P g.1 vwCl (xW g a st) H → va_S (fun _ => False) s.heap H locs → ∀ ls : Array Slot, lv_has ls 5 [(0, .ref (a 0)), (1, .int p1), (2, .int p2), (3, .int v29_3), (4, .int v29_4)] → W p l e ({ frames := 6, cells := 0, slots := 0, locals := 133 } : Room) s m args below meth c H locs 0 0 (MQ below (ROi res) args s 0 0 (fun _ => False)) (F0 m 29 ls []) := by
        intro n
        induction n with
        | zero => intro v29_3 v29_4 hs; exact (iterO_zero hs).elim
        | succ n ih29 =>
          intro v29_3 v29_4 hs H locs hP hS ls hl
          obtain ⟨y29, hs, hk29⟩ := iterO_succ hs
          have hs : b_X6_parent_29 st p1 p2 v29_3 v29_4 = some y29 := hs
          unfold b_X6_parent_29 at hs
          refine lv_iload hx hb dX6_parent_29 (lv_at hl 4 rfl) ?_
          refine lv_aload_n hx hb dX6_parent_31 rfl (lv_at hl 0 rfl) ?_
          refine xg_6_0 hx hb hB hown hK hP dX6_parent_32 ?_
          refine xn_RX6_145 hx hb hB hown hK hP dX6_parent_35 ?_
          refine lv_icmp_ge (tgt := 80) hx hb dX6_parent_38 (by decide) (fun c3 => ?_) (fun c3 => ?_)
          · have hs := ifp c3 hs
            refine lv_iconst (v := -1) hx hb dX6_parent_80 (by decide) ?_
            cases hs
            cases elim_inr hk29
            exact ret_roi hx hb hr hlk hS dX6_parent_81
          · have hs := ifn c3 hs
            refine lv_aload_n hx hb dX6_parent_41 rfl (lv_at hl 0 rfl) ?_
            refine xg_6_0 hx hb hB hown hK hP dX6_parent_42 ?_
            refine lv_iload hx hb dX6_parent_45 (lv_at hl 4 rfl) ?_
            refine cV_roi (As := [.int v29_4]) (rest := []) hC (m_X3_named l g a st v29_4) (kv_of hB bw_26_14 bw_26_12 bw_26_13 bw_1_14 kd_X3_named bw_26_11 rfl rfl ⟨Nat.le_of_ble_eq_true rfl, Nat.le_of_ble_eq_true rfl⟩) hK hP hP hS (xW_1 g a st) rfl rfl hl.1 rfl (Nat.le_of_ble_eq_true rfl) dX6_parent_47 ⟨Nat.zero_le _, Nat.zero_le _⟩ (fun H locs hP hS => ?_)
            refine lv_if_eq (tgt := 74) hx hb dX6_parent_50 (by decide) (fun c4 => ?_) (fun c4 => ?_)
            · have hs := ifp c4 hs
              refine lv_iinc (v := (v29_4 + 1)) (lv' := [(4, .int (v29_4 + 1)), (0, .ref (a 0)), (1, .int p1), (2, .int p2), (3, .int v29_3)]) hx hb dX6_parent_74 hl (k := 4) rfl (by rfl) (by decide) rfl (fun ls hl => ?_)
              refine lv_goto (tgt := 29) hx hb dX6_parent_77 (by decide) ?_
              cases hs
              exact ih29 v29_3 (v29_4 + 1) hk29 _ _ hP hS _ (lv_sub hl [1, 2, 3, 4, 0] rfl)
            · have hs := ifn c4 hs
              refine lv_aload_n hx hb dX6_parent_53 rfl (lv_at hl 0 rfl) ?_
              refine lv_iload_n hx hb dX6_parent_54 rfl (lv_at hl 1 rfl) ?_
              refine lv_iload hx hb dX6_parent_55 (lv_at hl 4 rfl) ?_
              obtain ⟨r5, e5, hs⟩ := Option.bind_eq_some_iff.mp hs
              refine cV_roi (As := [.int p1, .int v29_4]) (rest := []) hC (m_X6_isParent l g a st p1 v29_4 r5 e5) (kv_of hB bw_28_17 bw_28_15 bw_28_16 bw_1_2 kd_X6_isParent bw_28_14 rfl rfl ⟨Nat.le_of_ble_eq_true rfl, Nat.le_of_ble_eq_true rfl⟩) hK hP hP hS (xW_0 g a st) rfl rfl hl.1 rfl (Nat.le_of_ble_eq_true rfl) dX6_parent_57 ⟨Nat.zero_le _, Nat.zero_le _⟩ (fun H locs hP hS => ?_)
              refine lv_if_eq (tgt := 74) hx hb dX6_parent_60 (by decide) (fun c6 => ?_) (fun c6 => ?_)
              · have hs := ifp c6 hs
                refine lv_iinc (v := (v29_4 + 1)) (lv' := [(4, .int (v29_4 + 1)), (0, .ref (a 0)), (1, .int p1), (2, .int p2), (3, .int v29_3)]) hx hb dX6_parent_74 hl (k := 4) rfl (by rfl) (by decide) rfl (fun ls hl => ?_)
                refine lv_goto (tgt := 29) hx hb dX6_parent_77 (by decide) ?_
                cases hs
                exact ih29 v29_3 (v29_4 + 1) hk29 _ _ hP hS _ (lv_sub hl [1, 2, 3, 4, 0] rfl)
              · have hs := ifn c6 hs
                refine lv_iload_n hx hb dX6_parent_63 rfl (lv_at hl 3 rfl) ?_
                refine lv_iload_n hx hb dX6_parent_64 rfl (lv_at hl 2 rfl) ?_
                refine lv_icmp_ne (tgt := 71) hx hb dX6_parent_65 (by decide) (fun c7 => ?_) (fun c7 => ?_)
                · have hs := ifn c7 hs
                  refine lv_iinc (v := (v29_3 + 1)) (lv' := [(3, .int (v29_3 + 1)), (0, .ref (a 0)), (1, .int p1), (2, .int p2), (4, .int v29_4)]) hx hb dX6_parent_71 hl (k := 3) rfl (by rfl) (by decide) rfl (fun ls hl => ?_)
                  refine lv_iinc (v := (v29_4 + 1)) (lv' := [(4, .int (v29_4 + 1)), (3, .int (v29_3 + 1)), (0, .ref (a 0)), (1, .int p1), (2, .int p2)]) hx hb dX6_parent_74 hl (k := 4) rfl (by rfl) (by decide) rfl (fun ls hl => ?_)
                  refine lv_goto (tgt := 29) hx hb dX6_parent_77 (by decide) ?_
                  cases hs
                  exact ih29 (v29_3 + 1) (v29_4 + 1) hk29 _ _ hP hS _ (lv_sub hl [2, 3, 4, 1, 0] rfl)
                · have hs := ifp c7 hs
                  refine lv_iload hx hb dX6_parent_68 (lv_at hl 4 rfl) ?_
                  cases hs
                  cases elim_inr hk29
                  exact ret_roi hx hb hr hlk hS dX6_parent_70
      exact L29 n29 (0 : Int32) (0 : Int32) hs _ _ hP hS _ (lv_sub hl [2, 3, 4, 1, 0] rfl)
    · have hs := ifp c2 hs
      refine lv_bipush (v := -101) hx hb dX6_parent_21 (by decide) ?_
      cases hs
      exact ret_roi hx hb hr hlk hS dX6_parent_23
  · have hs := ifp c1 hs
    refine lv_bipush (v := -103) hx hb dX6_parent_7 (by decide) ?_
    cases hs
    exact ret_roi hx hb hr hlk hS dX6_parent_9
def t_X6_broken (st : XS) : Int32 :=
  (if (st.1 36 0) = 0 then (-103 : Int32) else (t_X6_oneIf (t_X1_saysIs st (0 : Int32) (1 : Int32))))
set_option maxHeartbeats 4000000 in
set_option maxRecDepth 100000 in
theorem m_X6_broken (l : Launch) (g : GG) (a : Nat → Nat) (st : XS)  : Met l yX6_broken (Cond.code yX6_broken cX6_broken 1 (some .int) :: BIG) ({ frames := 2, cells := 0, slots := 0, locals := 43 } : Room) (va_Pc [.ref (a 0)] (ROp g (xW g a st))) (ROi (t_X6_broken st)) 0 0 (fun _ => False) := by
  obtain ⟨res, hs⟩ : ∃ z, t_X6_broken st = z := ⟨_, rfl⟩
  rw [hs]
  refine ro_start (cc := cX6_broken) (maxL := 1) (ret := (some .int)) (lv := [(0, .ref (a 0))]) (by decide) rfl (Nat.le_of_ble_eq_true rfl) rfl ?_
  intro p e s m args below meth c hx hb hml hr hts hown hlk hK H locs hP hS ls hl
  have hB : ∀ w ∈ BIG, w.before args s = true := fun w h => hts w (List.mem_cons_of_mem _ h)
  have hC : CallFix p m c cX6_broken 1 s args BIG RX6 := ⟨hx, hb, hml, hown, hB⟩
  unfold t_X6_broken at hs
  refine lv_aload_n hx hb dX6_broken_0 rfl (lv_at hl 0 rfl) ?_
  refine xg_6_7 hx hb hB hown hK hP dX6_broken_1 ?_
  refine lv_if_eq (tgt := 22) hx hb dX6_broken_4 (by decide) (fun c1 => ?_) (fun c1 => ?_)
  · have hs := ifp c1 hs
    refine lv_bipush (v := -103) hx hb dX6_broken_22 (by decide) ?_
    subst hs
    exact ret_roi hx hb hr hlk hS dX6_broken_24
  · have hs := ifn c1 hs
    refine lv_aload_n hx hb dX6_broken_7 rfl (lv_at hl 0 rfl) ?_
    refine xg_6_3 hx hb hB hown hK hP dX6_broken_8 ?_
    refine lv_iconst (v := 0) hx hb dX6_broken_11 (by decide) ?_
    refine lv_iconst (v := 1) hx hb dX6_broken_12 (by decide) ?_
    refine cV_roi (As := [.int (0 : Int32), .int (1 : Int32)]) (rest := []) hC (m_X1_saysIs l g a st (0 : Int32) (1 : Int32)) (kv_of hB bw_19_3 bw_19_1 bw_19_2 bw_2_2 kd_X1_saysIs bw_26_20 rfl rfl ⟨Nat.le_of_ble_eq_true rfl, Nat.le_of_ble_eq_true rfl⟩) hK hP hP hS (xW_8 g a st) rfl rfl hl.1 rfl (Nat.le_of_ble_eq_true rfl) dX6_broken_13 ⟨Nat.zero_le _, Nat.zero_le _⟩ (fun H locs hP hS => ?_)
    refine cS_roi (As := [.int (t_X1_saysIs st (0 : Int32) (1 : Int32))]) (rest := []) hC (m_X6_oneIf l g (xW g a st) (t_X1_saysIs st (0 : Int32) (1 : Int32))) (ks_of hB bw_24_10 bw_24_9 bw_1_2 kd_X6_oneIf bw_26_21 rfl rfl ⟨Nat.le_of_ble_eq_true rfl, Nat.le_of_ble_eq_true rfl⟩) hK hP hP hS rfl hl.1 rfl (Nat.le_of_ble_eq_true rfl) dX6_broken_16 ⟨Nat.zero_le _, Nat.zero_le _⟩ (fun H locs hP hS => ?_)
    refine lv_goto (tgt := 24) hx hb dX6_broken_19 (by decide) ?_
    subst hs
    exact ret_roi hx hb hr hlk hS dX6_broken_24
def t_J6_bitCount_0f7a4 (p0 : Int32) : Int32 :=
  ((((((((p0 - (((p0.toUInt32 >>> ((1 : Int32).toUInt32 &&& Int32.toUInt32 31)).toInt32) &&& (1431655765 : Int32))) &&& (858993459 : Int32)) + ((((p0 - (((p0.toUInt32 >>> ((1 : Int32).toUInt32 &&& Int32.toUInt32 31)).toInt32) &&& (1431655765 : Int32))).toUInt32 >>> ((2 : Int32).toUInt32 &&& Int32.toUInt32 31)).toInt32) &&& (858993459 : Int32))) + (((((p0 - (((p0.toUInt32 >>> ((1 : Int32).toUInt32 &&& Int32.toUInt32 31)).toInt32) &&& (1431655765 : Int32))) &&& (858993459 : Int32)) + ((((p0 - (((p0.toUInt32 >>> ((1 : Int32).toUInt32 &&& Int32.toUInt32 31)).toInt32) &&& (1431655765 : Int32))).toUInt32 >>> ((2 : Int32).toUInt32 &&& Int32.toUInt32 31)).toInt32) &&& (858993459 : Int32))).toUInt32 >>> ((4 : Int32).toUInt32 &&& Int32.toUInt32 31)).toInt32)) &&& (252645135 : Int32)) + (((((((p0 - (((p0.toUInt32 >>> ((1 : Int32).toUInt32 &&& Int32.toUInt32 31)).toInt32) &&& (1431655765 : Int32))) &&& (858993459 : Int32)) + ((((p0 - (((p0.toUInt32 >>> ((1 : Int32).toUInt32 &&& Int32.toUInt32 31)).toInt32) &&& (1431655765 : Int32))).toUInt32 >>> ((2 : Int32).toUInt32 &&& Int32.toUInt32 31)).toInt32) &&& (858993459 : Int32))) + (((((p0 - (((p0.toUInt32 >>> ((1 : Int32).toUInt32 &&& Int32.toUInt32 31)).toInt32) &&& (1431655765 : Int32))) &&& (858993459 : Int32)) + ((((p0 - (((p0.toUInt32 >>> ((1 : Int32).toUInt32 &&& Int32.toUInt32 31)).toInt32) &&& (1431655765 : Int32))).toUInt32 >>> ((2 : Int32).toUInt32 &&& Int32.toUInt32 31)).toInt32) &&& (858993459 : Int32))).toUInt32 >>> ((4 : Int32).toUInt32 &&& Int32.toUInt32 31)).toInt32)) &&& (252645135 : Int32)).toUInt32 >>> ((8 : Int32).toUInt32 &&& Int32.toUInt32 31)).toInt32)) + ((((((((p0 - (((p0.toUInt32 >>> ((1 : Int32).toUInt32 &&& Int32.toUInt32 31)).toInt32) &&& (1431655765 : Int32))) &&& (858993459 : Int32)) + ((((p0 - (((p0.toUInt32 >>> ((1 : Int32).toUInt32 &&& Int32.toUInt32 31)).toInt32) &&& (1431655765 : Int32))).toUInt32 >>> ((2 : Int32).toUInt32 &&& Int32.toUInt32 31)).toInt32) &&& (858993459 : Int32))) + (((((p0 - (((p0.toUInt32 >>> ((1 : Int32).toUInt32 &&& Int32.toUInt32 31)).toInt32) &&& (1431655765 : Int32))) &&& (858993459 : Int32)) + ((((p0 - (((p0.toUInt32 >>> ((1 : Int32).toUInt32 &&& Int32.toUInt32 31)).toInt32) &&& (1431655765 : Int32))).toUInt32 >>> ((2 : Int32).toUInt32 &&& Int32.toUInt32 31)).toInt32) &&& (858993459 : Int32))).toUInt32 >>> ((4 : Int32).toUInt32 &&& Int32.toUInt32 31)).toInt32)) &&& (252645135 : Int32)) + (((((((p0 - (((p0.toUInt32 >>> ((1 : Int32).toUInt32 &&& Int32.toUInt32 31)).toInt32) &&& (1431655765 : Int32))) &&& (858993459 : Int32)) + ((((p0 - (((p0.toUInt32 >>> ((1 : Int32).toUInt32 &&& Int32.toUInt32 31)).toInt32) &&& (1431655765 : Int32))).toUInt32 >>> ((2 : Int32).toUInt32 &&& Int32.toUInt32 31)).toInt32) &&& (858993459 : Int32))) + (((((p0 - (((p0.toUInt32 >>> ((1 : Int32).toUInt32 &&& Int32.toUInt32 31)).toInt32) &&& (1431655765 : Int32))) &&& (858993459 : Int32)) + ((((p0 - (((p0.toUInt32 >>> ((1 : Int32).toUInt32 &&& Int32.toUInt32 31)).toInt32) &&& (1431655765 : Int32))).toUInt32 >>> ((2 : Int32).toUInt32 &&& Int32.toUInt32 31)).toInt32) &&& (858993459 : Int32))).toUInt32 >>> ((4 : Int32).toUInt32 &&& Int32.toUInt32 31)).toInt32)) &&& (252645135 : Int32)).toUInt32 >>> ((8 : Int32).toUInt32 &&& Int32.toUInt32 31)).toInt32)).toUInt32 >>> ((16 : Int32).toUInt32 &&& Int32.toUInt32 31)).toInt32)) &&& (63 : Int32))
set_option maxHeartbeats 4000000 in
set_option maxRecDepth 100000 in
theorem m_J6_bitCount_0f7a4 (l : Launch) (g : GG) (w : va_W) (p0 : Int32) : Met l yJ6_bitCount_0f7a4 (Cond.code yJ6_bitCount_0f7a4 cJ6_bitCount_0f7a4 1 (some .int) :: BIG) ({ frames := 0, cells := 0, slots := 0, locals := 0 } : Room) (va_Pc [.int p0] (ROp g w)) (ROi (t_J6_bitCount_0f7a4 p0)) 0 0 (fun _ => False) := by
  obtain ⟨res, hs⟩ : ∃ z, t_J6_bitCount_0f7a4 p0 = z := ⟨_, rfl⟩
  rw [hs]
  refine ro_start (cc := cJ6_bitCount_0f7a4) (maxL := 1) (ret := (some .int)) (lv := [(0, .int p0)]) (by decide) rfl (Nat.le_of_ble_eq_true rfl) rfl ?_
  intro p e s m args below meth c hx hb hml hr hts hown hlk hK H locs hP hS ls hl
  have hB : ∀ w ∈ BIG, w.before args s = true := fun w h => hts w (List.mem_cons_of_mem _ h)
  have hC : CallFix p m c cJ6_bitCount_0f7a4 1 s args BIG RJ6 := ⟨hx, hb, hml, hown, hB⟩
  unfold t_J6_bitCount_0f7a4 at hs
  refine lv_iload_n hx hb dJ6_bitCount_0f7a4_0 rfl (lv_at hl 0 rfl) ?_
  refine lv_iload_n hx hb dJ6_bitCount_0f7a4_1 rfl (lv_at hl 0 rfl) ?_
  refine lv_iconst (v := 1) hx hb dJ6_bitCount_0f7a4_2 (by decide) ?_
  refine lv_iushr (v := (p0.toUInt32 >>> ((1 : Int32).toUInt32 &&& Int32.toUInt32 31)).toInt32) hx hb dJ6_bitCount_0f7a4_3 rfl ?_
  refine lv_ldcw hx hb hown (hB _ bw_29_19) dJ6_bitCount_0f7a4_4 ?_
  refine lv_iand hx hb dJ6_bitCount_0f7a4_7 ?_
  refine lv_isub hx hb dJ6_bitCount_0f7a4_8 ?_
  refine lv_istore_n (lv' := [(0, .int (p0 - (((p0.toUInt32 >>> ((1 : Int32).toUInt32 &&& Int32.toUInt32 31)).toInt32) &&& (1431655765 : Int32))))]) hx hb dJ6_bitCount_0f7a4_9 rfl hl (by decide) rfl (fun ls hl => ?_)
  refine lv_iload_n hx hb dJ6_bitCount_0f7a4_10 rfl (lv_at hl 0 rfl) ?_
  refine lv_ldcw hx hb hown (hB _ bw_29_20) dJ6_bitCount_0f7a4_11 ?_
  refine lv_iand hx hb dJ6_bitCount_0f7a4_14 ?_
  refine lv_iload_n hx hb dJ6_bitCount_0f7a4_15 rfl (lv_at hl 0 rfl) ?_
  refine lv_iconst (v := 2) hx hb dJ6_bitCount_0f7a4_16 (by decide) ?_
  refine lv_iushr (v := ((p0 - (((p0.toUInt32 >>> ((1 : Int32).toUInt32 &&& Int32.toUInt32 31)).toInt32) &&& (1431655765 : Int32))).toUInt32 >>> ((2 : Int32).toUInt32 &&& Int32.toUInt32 31)).toInt32) hx hb dJ6_bitCount_0f7a4_17 rfl ?_
  refine lv_ldcw hx hb hown (hB _ bw_29_20) dJ6_bitCount_0f7a4_18 ?_
  refine lv_iand hx hb dJ6_bitCount_0f7a4_21 ?_
  refine lv_iadd hx hb dJ6_bitCount_0f7a4_22 ?_
  refine lv_istore_n (lv' := [(0, .int (((p0 - (((p0.toUInt32 >>> ((1 : Int32).toUInt32 &&& Int32.toUInt32 31)).toInt32) &&& (1431655765 : Int32))) &&& (858993459 : Int32)) + ((((p0 - (((p0.toUInt32 >>> ((1 : Int32).toUInt32 &&& Int32.toUInt32 31)).toInt32) &&& (1431655765 : Int32))).toUInt32 >>> ((2 : Int32).toUInt32 &&& Int32.toUInt32 31)).toInt32) &&& (858993459 : Int32))))]) hx hb dJ6_bitCount_0f7a4_23 rfl hl (by decide) rfl (fun ls hl => ?_)
  refine lv_iload_n hx hb dJ6_bitCount_0f7a4_24 rfl (lv_at hl 0 rfl) ?_
  refine lv_iload_n hx hb dJ6_bitCount_0f7a4_25 rfl (lv_at hl 0 rfl) ?_
  refine lv_iconst (v := 4) hx hb dJ6_bitCount_0f7a4_26 (by decide) ?_
  refine lv_iushr (v := ((((p0 - (((p0.toUInt32 >>> ((1 : Int32).toUInt32 &&& Int32.toUInt32 31)).toInt32) &&& (1431655765 : Int32))) &&& (858993459 : Int32)) + ((((p0 - (((p0.toUInt32 >>> ((1 : Int32).toUInt32 &&& Int32.toUInt32 31)).toInt32) &&& (1431655765 : Int32))).toUInt32 >>> ((2 : Int32).toUInt32 &&& Int32.toUInt32 31)).toInt32) &&& (858993459 : Int32))).toUInt32 >>> ((4 : Int32).toUInt32 &&& Int32.toUInt32 31)).toInt32) hx hb dJ6_bitCount_0f7a4_27 rfl ?_
  refine lv_iadd hx hb dJ6_bitCount_0f7a4_28 ?_
  refine lv_ldcw hx hb hown (hB _ bw_29_21) dJ6_bitCount_0f7a4_29 ?_
  refine lv_iand hx hb dJ6_bitCount_0f7a4_32 ?_
  refine lv_istore_n (lv' := [(0, .int (((((p0 - (((p0.toUInt32 >>> ((1 : Int32).toUInt32 &&& Int32.toUInt32 31)).toInt32) &&& (1431655765 : Int32))) &&& (858993459 : Int32)) + ((((p0 - (((p0.toUInt32 >>> ((1 : Int32).toUInt32 &&& Int32.toUInt32 31)).toInt32) &&& (1431655765 : Int32))).toUInt32 >>> ((2 : Int32).toUInt32 &&& Int32.toUInt32 31)).toInt32) &&& (858993459 : Int32))) + (((((p0 - (((p0.toUInt32 >>> ((1 : Int32).toUInt32 &&& Int32.toUInt32 31)).toInt32) &&& (1431655765 : Int32))) &&& (858993459 : Int32)) + ((((p0 - (((p0.toUInt32 >>> ((1 : Int32).toUInt32 &&& Int32.toUInt32 31)).toInt32) &&& (1431655765 : Int32))).toUInt32 >>> ((2 : Int32).toUInt32 &&& Int32.toUInt32 31)).toInt32) &&& (858993459 : Int32))).toUInt32 >>> ((4 : Int32).toUInt32 &&& Int32.toUInt32 31)).toInt32)) &&& (252645135 : Int32)))]) hx hb dJ6_bitCount_0f7a4_33 rfl hl (by decide) rfl (fun ls hl => ?_)
  refine lv_iload_n hx hb dJ6_bitCount_0f7a4_34 rfl (lv_at hl 0 rfl) ?_
  refine lv_iload_n hx hb dJ6_bitCount_0f7a4_35 rfl (lv_at hl 0 rfl) ?_
  refine lv_bipush (v := 8) hx hb dJ6_bitCount_0f7a4_36 (by decide) ?_
  refine lv_iushr (v := ((((((p0 - (((p0.toUInt32 >>> ((1 : Int32).toUInt32 &&& Int32.toUInt32 31)).toInt32) &&& (1431655765 : Int32))) &&& (858993459 : Int32)) + ((((p0 - (((p0.toUInt32 >>> ((1 : Int32).toUInt32 &&& Int32.toUInt32 31)).toInt32) &&& (1431655765 : Int32))).toUInt32 >>> ((2 : Int32).toUInt32 &&& Int32.toUInt32 31)).toInt32) &&& (858993459 : Int32))) + (((((p0 - (((p0.toUInt32 >>> ((1 : Int32).toUInt32 &&& Int32.toUInt32 31)).toInt32) &&& (1431655765 : Int32))) &&& (858993459 : Int32)) + ((((p0 - (((p0.toUInt32 >>> ((1 : Int32).toUInt32 &&& Int32.toUInt32 31)).toInt32) &&& (1431655765 : Int32))).toUInt32 >>> ((2 : Int32).toUInt32 &&& Int32.toUInt32 31)).toInt32) &&& (858993459 : Int32))).toUInt32 >>> ((4 : Int32).toUInt32 &&& Int32.toUInt32 31)).toInt32)) &&& (252645135 : Int32)).toUInt32 >>> ((8 : Int32).toUInt32 &&& Int32.toUInt32 31)).toInt32) hx hb dJ6_bitCount_0f7a4_38 rfl ?_
  refine lv_iadd hx hb dJ6_bitCount_0f7a4_39 ?_
  refine lv_istore_n (lv' := [(0, .int ((((((p0 - (((p0.toUInt32 >>> ((1 : Int32).toUInt32 &&& Int32.toUInt32 31)).toInt32) &&& (1431655765 : Int32))) &&& (858993459 : Int32)) + ((((p0 - (((p0.toUInt32 >>> ((1 : Int32).toUInt32 &&& Int32.toUInt32 31)).toInt32) &&& (1431655765 : Int32))).toUInt32 >>> ((2 : Int32).toUInt32 &&& Int32.toUInt32 31)).toInt32) &&& (858993459 : Int32))) + (((((p0 - (((p0.toUInt32 >>> ((1 : Int32).toUInt32 &&& Int32.toUInt32 31)).toInt32) &&& (1431655765 : Int32))) &&& (858993459 : Int32)) + ((((p0 - (((p0.toUInt32 >>> ((1 : Int32).toUInt32 &&& Int32.toUInt32 31)).toInt32) &&& (1431655765 : Int32))).toUInt32 >>> ((2 : Int32).toUInt32 &&& Int32.toUInt32 31)).toInt32) &&& (858993459 : Int32))).toUInt32 >>> ((4 : Int32).toUInt32 &&& Int32.toUInt32 31)).toInt32)) &&& (252645135 : Int32)) + (((((((p0 - (((p0.toUInt32 >>> ((1 : Int32).toUInt32 &&& Int32.toUInt32 31)).toInt32) &&& (1431655765 : Int32))) &&& (858993459 : Int32)) + ((((p0 - (((p0.toUInt32 >>> ((1 : Int32).toUInt32 &&& Int32.toUInt32 31)).toInt32) &&& (1431655765 : Int32))).toUInt32 >>> ((2 : Int32).toUInt32 &&& Int32.toUInt32 31)).toInt32) &&& (858993459 : Int32))) + (((((p0 - (((p0.toUInt32 >>> ((1 : Int32).toUInt32 &&& Int32.toUInt32 31)).toInt32) &&& (1431655765 : Int32))) &&& (858993459 : Int32)) + ((((p0 - (((p0.toUInt32 >>> ((1 : Int32).toUInt32 &&& Int32.toUInt32 31)).toInt32) &&& (1431655765 : Int32))).toUInt32 >>> ((2 : Int32).toUInt32 &&& Int32.toUInt32 31)).toInt32) &&& (858993459 : Int32))).toUInt32 >>> ((4 : Int32).toUInt32 &&& Int32.toUInt32 31)).toInt32)) &&& (252645135 : Int32)).toUInt32 >>> ((8 : Int32).toUInt32 &&& Int32.toUInt32 31)).toInt32)))]) hx hb dJ6_bitCount_0f7a4_40 rfl hl (by decide) rfl (fun ls hl => ?_)
  refine lv_iload_n hx hb dJ6_bitCount_0f7a4_41 rfl (lv_at hl 0 rfl) ?_
  refine lv_iload_n hx hb dJ6_bitCount_0f7a4_42 rfl (lv_at hl 0 rfl) ?_
  refine lv_bipush (v := 16) hx hb dJ6_bitCount_0f7a4_43 (by decide) ?_
  refine lv_iushr (v := (((((((p0 - (((p0.toUInt32 >>> ((1 : Int32).toUInt32 &&& Int32.toUInt32 31)).toInt32) &&& (1431655765 : Int32))) &&& (858993459 : Int32)) + ((((p0 - (((p0.toUInt32 >>> ((1 : Int32).toUInt32 &&& Int32.toUInt32 31)).toInt32) &&& (1431655765 : Int32))).toUInt32 >>> ((2 : Int32).toUInt32 &&& Int32.toUInt32 31)).toInt32) &&& (858993459 : Int32))) + (((((p0 - (((p0.toUInt32 >>> ((1 : Int32).toUInt32 &&& Int32.toUInt32 31)).toInt32) &&& (1431655765 : Int32))) &&& (858993459 : Int32)) + ((((p0 - (((p0.toUInt32 >>> ((1 : Int32).toUInt32 &&& Int32.toUInt32 31)).toInt32) &&& (1431655765 : Int32))).toUInt32 >>> ((2 : Int32).toUInt32 &&& Int32.toUInt32 31)).toInt32) &&& (858993459 : Int32))).toUInt32 >>> ((4 : Int32).toUInt32 &&& Int32.toUInt32 31)).toInt32)) &&& (252645135 : Int32)) + (((((((p0 - (((p0.toUInt32 >>> ((1 : Int32).toUInt32 &&& Int32.toUInt32 31)).toInt32) &&& (1431655765 : Int32))) &&& (858993459 : Int32)) + ((((p0 - (((p0.toUInt32 >>> ((1 : Int32).toUInt32 &&& Int32.toUInt32 31)).toInt32) &&& (1431655765 : Int32))).toUInt32 >>> ((2 : Int32).toUInt32 &&& Int32.toUInt32 31)).toInt32) &&& (858993459 : Int32))) + (((((p0 - (((p0.toUInt32 >>> ((1 : Int32).toUInt32 &&& Int32.toUInt32 31)).toInt32) &&& (1431655765 : Int32))) &&& (858993459 : Int32)) + ((((p0 - (((p0.toUInt32 >>> ((1 : Int32).toUInt32 &&& Int32.toUInt32 31)).toInt32) &&& (1431655765 : Int32))).toUInt32 >>> ((2 : Int32).toUInt32 &&& Int32.toUInt32 31)).toInt32) &&& (858993459 : Int32))).toUInt32 >>> ((4 : Int32).toUInt32 &&& Int32.toUInt32 31)).toInt32)) &&& (252645135 : Int32)).toUInt32 >>> ((8 : Int32).toUInt32 &&& Int32.toUInt32 31)).toInt32)).toUInt32 >>> ((16 : Int32).toUInt32 &&& Int32.toUInt32 31)).toInt32) hx hb dJ6_bitCount_0f7a4_45 rfl ?_
  refine lv_iadd hx hb dJ6_bitCount_0f7a4_46 ?_
  refine lv_istore_n (lv' := [(0, .int (((((((p0 - (((p0.toUInt32 >>> ((1 : Int32).toUInt32 &&& Int32.toUInt32 31)).toInt32) &&& (1431655765 : Int32))) &&& (858993459 : Int32)) + ((((p0 - (((p0.toUInt32 >>> ((1 : Int32).toUInt32 &&& Int32.toUInt32 31)).toInt32) &&& (1431655765 : Int32))).toUInt32 >>> ((2 : Int32).toUInt32 &&& Int32.toUInt32 31)).toInt32) &&& (858993459 : Int32))) + (((((p0 - (((p0.toUInt32 >>> ((1 : Int32).toUInt32 &&& Int32.toUInt32 31)).toInt32) &&& (1431655765 : Int32))) &&& (858993459 : Int32)) + ((((p0 - (((p0.toUInt32 >>> ((1 : Int32).toUInt32 &&& Int32.toUInt32 31)).toInt32) &&& (1431655765 : Int32))).toUInt32 >>> ((2 : Int32).toUInt32 &&& Int32.toUInt32 31)).toInt32) &&& (858993459 : Int32))).toUInt32 >>> ((4 : Int32).toUInt32 &&& Int32.toUInt32 31)).toInt32)) &&& (252645135 : Int32)) + (((((((p0 - (((p0.toUInt32 >>> ((1 : Int32).toUInt32 &&& Int32.toUInt32 31)).toInt32) &&& (1431655765 : Int32))) &&& (858993459 : Int32)) + ((((p0 - (((p0.toUInt32 >>> ((1 : Int32).toUInt32 &&& Int32.toUInt32 31)).toInt32) &&& (1431655765 : Int32))).toUInt32 >>> ((2 : Int32).toUInt32 &&& Int32.toUInt32 31)).toInt32) &&& (858993459 : Int32))) + (((((p0 - (((p0.toUInt32 >>> ((1 : Int32).toUInt32 &&& Int32.toUInt32 31)).toInt32) &&& (1431655765 : Int32))) &&& (858993459 : Int32)) + ((((p0 - (((p0.toUInt32 >>> ((1 : Int32).toUInt32 &&& Int32.toUInt32 31)).toInt32) &&& (1431655765 : Int32))).toUInt32 >>> ((2 : Int32).toUInt32 &&& Int32.toUInt32 31)).toInt32) &&& (858993459 : Int32))).toUInt32 >>> ((4 : Int32).toUInt32 &&& Int32.toUInt32 31)).toInt32)) &&& (252645135 : Int32)).toUInt32 >>> ((8 : Int32).toUInt32 &&& Int32.toUInt32 31)).toInt32)) + ((((((((p0 - (((p0.toUInt32 >>> ((1 : Int32).toUInt32 &&& Int32.toUInt32 31)).toInt32) &&& (1431655765 : Int32))) &&& (858993459 : Int32)) + ((((p0 - (((p0.toUInt32 >>> ((1 : Int32).toUInt32 &&& Int32.toUInt32 31)).toInt32) &&& (1431655765 : Int32))).toUInt32 >>> ((2 : Int32).toUInt32 &&& Int32.toUInt32 31)).toInt32) &&& (858993459 : Int32))) + (((((p0 - (((p0.toUInt32 >>> ((1 : Int32).toUInt32 &&& Int32.toUInt32 31)).toInt32) &&& (1431655765 : Int32))) &&& (858993459 : Int32)) + ((((p0 - (((p0.toUInt32 >>> ((1 : Int32).toUInt32 &&& Int32.toUInt32 31)).toInt32) &&& (1431655765 : Int32))).toUInt32 >>> ((2 : Int32).toUInt32 &&& Int32.toUInt32 31)).toInt32) &&& (858993459 : Int32))).toUInt32 >>> ((4 : Int32).toUInt32 &&& Int32.toUInt32 31)).toInt32)) &&& (252645135 : Int32)) + (((((((p0 - (((p0.toUInt32 >>> ((1 : Int32).toUInt32 &&& Int32.toUInt32 31)).toInt32) &&& (1431655765 : Int32))) &&& (858993459 : Int32)) + ((((p0 - (((p0.toUInt32 >>> ((1 : Int32).toUInt32 &&& Int32.toUInt32 31)).toInt32) &&& (1431655765 : Int32))).toUInt32 >>> ((2 : Int32).toUInt32 &&& Int32.toUInt32 31)).toInt32) &&& (858993459 : Int32))) + (((((p0 - (((p0.toUInt32 >>> ((1 : Int32).toUInt32 &&& Int32.toUInt32 31)).toInt32) &&& (1431655765 : Int32))) &&& (858993459 : Int32)) + ((((p0 - (((p0.toUInt32 >>> ((1 : Int32).toUInt32 &&& Int32.toUInt32 31)).toInt32) &&& (1431655765 : Int32))).toUInt32 >>> ((2 : Int32).toUInt32 &&& Int32.toUInt32 31)).toInt32) &&& (858993459 : Int32))).toUInt32 >>> ((4 : Int32).toUInt32 &&& Int32.toUInt32 31)).toInt32)) &&& (252645135 : Int32)).toUInt32 >>> ((8 : Int32).toUInt32 &&& Int32.toUInt32 31)).toInt32)).toUInt32 >>> ((16 : Int32).toUInt32 &&& Int32.toUInt32 31)).toInt32)))]) hx hb dJ6_bitCount_0f7a4_47 rfl hl (by decide) rfl (fun ls hl => ?_)
  refine lv_iload_n hx hb dJ6_bitCount_0f7a4_48 rfl (lv_at hl 0 rfl) ?_
  refine lv_bipush (v := 63) hx hb dJ6_bitCount_0f7a4_49 (by decide) ?_
  refine lv_iand hx hb dJ6_bitCount_0f7a4_51 ?_
  subst hs
  exact ret_roi hx hb hr hlk hS dJ6_bitCount_0f7a4_52
def t_X6_things (st : XS) : Int32 :=
  (if (st.1 36 0) = 0 then (-103 : Int32) else (t_J6_bitCount_0f7a4 (t_X2_members st (0 : Int32))))
set_option maxHeartbeats 4000000 in
set_option maxRecDepth 100000 in
theorem m_X6_things (l : Launch) (g : GG) (a : Nat → Nat) (st : XS)  : Met l yX6_things (Cond.code yX6_things cX6_things 1 (some .int) :: BIG) ({ frames := 2, cells := 0, slots := 0, locals := 42 } : Room) (va_Pc [.ref (a 0)] (ROp g (xW g a st))) (ROi (t_X6_things st)) 0 0 (fun _ => False) := by
  obtain ⟨res, hs⟩ : ∃ z, t_X6_things st = z := ⟨_, rfl⟩
  rw [hs]
  refine ro_start (cc := cX6_things) (maxL := 1) (ret := (some .int)) (lv := [(0, .ref (a 0))]) (by decide) rfl (Nat.le_of_ble_eq_true rfl) rfl ?_
  intro p e s m args below meth c hx hb hml hr hts hown hlk hK H locs hP hS ls hl
  have hB : ∀ w ∈ BIG, w.before args s = true := fun w h => hts w (List.mem_cons_of_mem _ h)
  have hC : CallFix p m c cX6_things 1 s args BIG RX6 := ⟨hx, hb, hml, hown, hB⟩
  unfold t_X6_things at hs
  refine lv_aload_n hx hb dX6_things_0 rfl (lv_at hl 0 rfl) ?_
  refine xg_6_7 hx hb hB hown hK hP dX6_things_1 ?_
  refine lv_if_eq (tgt := 21) hx hb dX6_things_4 (by decide) (fun c1 => ?_) (fun c1 => ?_)
  · have hs := ifp c1 hs
    refine lv_bipush (v := -103) hx hb dX6_things_21 (by decide) ?_
    subst hs
    exact ret_roi hx hb hr hlk hS dX6_things_23
  · have hs := ifn c1 hs
    refine lv_aload_n hx hb dX6_things_7 rfl (lv_at hl 0 rfl) ?_
    refine xg_6_5 hx hb hB hown hK hP dX6_things_8 ?_
    refine lv_iconst (v := 0) hx hb dX6_things_11 (by decide) ?_
    refine cV_roi (As := [.int (0 : Int32)]) (rest := []) hC (m_X2_members l g a st (0 : Int32)) (kv_of hB bw_20_11 bw_20_9 bw_20_10 bw_2_10 kd_X2_members bw_29_14 rfl rfl ⟨Nat.le_of_ble_eq_true rfl, Nat.le_of_ble_eq_true rfl⟩) hK hP hP hS (xW_16 g a st) rfl rfl hl.1 rfl (Nat.le_of_ble_eq_true rfl) dX6_things_12 ⟨Nat.zero_le _, Nat.zero_le _⟩ (fun H locs hP hS => ?_)
    refine cS_roi (As := [.int (t_X2_members st (0 : Int32))]) (rest := []) hC (m_J6_bitCount_0f7a4 l g (xW g a st) (t_X2_members st (0 : Int32))) (ks_of hB bw_29_18 bw_29_16 bw_29_17 kd_J6_bitCount_0f7a4 bw_29_15 rfl rfl ⟨Nat.le_of_ble_eq_true rfl, Nat.le_of_ble_eq_true rfl⟩) hK hP hP hS rfl hl.1 rfl (Nat.le_of_ble_eq_true rfl) dX6_things_15 ⟨Nat.zero_le _, Nat.zero_le _⟩ (fun H locs hP hS => ?_)
    refine lv_goto (tgt := 23) hx hb dX6_things_18 (by decide) ?_
    subst hs
    exact ret_roi hx hb hr hlk hS dX6_things_23
def t_X6_isOf (st : XS) (p1 : Int32) (p2 : Int32) : Int32 :=
  (if (st.1 36 0) = 0 then (-103 : Int32) else (if (t_X3_knows st p1) = 0 then (-101 : Int32) else (if (t_X3_knows st p2) = 0 then (-101 : Int32) else (if (t_X6_hasBit (t_X2_members st (0 : Int32)) p1) = 0 then (-1 : Int32) else (t_X6_oneIf (t_X6_hasBit (t_X2_members st p2) p1))))))
set_option maxHeartbeats 4000000 in
set_option maxRecDepth 100000 in
theorem m_X6_isOf (l : Launch) (g : GG) (a : Nat → Nat) (st : XS) (p1 : Int32) (p2 : Int32) : Met l yX6_isOf (Cond.code yX6_isOf cX6_isOf 3 (some .int) :: BIG) ({ frames := 3, cells := 0, slots := 0, locals := 62 } : Room) (va_Pc [.ref (a 0), .int p1, .int p2] (ROp g (xW g a st))) (ROi (t_X6_isOf st p1 p2)) 0 0 (fun _ => False) := by
  obtain ⟨res, hs⟩ : ∃ z, t_X6_isOf st p1 p2 = z := ⟨_, rfl⟩
  rw [hs]
  refine ro_start (cc := cX6_isOf) (maxL := 3) (ret := (some .int)) (lv := [(0, .ref (a 0)), (1, .int p1), (2, .int p2)]) (by decide) rfl (Nat.le_of_ble_eq_true rfl) rfl ?_
  intro p e s m args below meth c hx hb hml hr hts hown hlk hK H locs hP hS ls hl
  have hB : ∀ w ∈ BIG, w.before args s = true := fun w h => hts w (List.mem_cons_of_mem _ h)
  have hC : CallFix p m c cX6_isOf 3 s args BIG RX6 := ⟨hx, hb, hml, hown, hB⟩
  unfold t_X6_isOf at hs
  refine lv_aload_n hx hb dX6_isOf_0 rfl (lv_at hl 0 rfl) ?_
  refine xg_6_7 hx hb hB hown hK hP dX6_isOf_1 ?_
  refine lv_if_ne (tgt := 10) hx hb dX6_isOf_4 (by decide) (fun c1 => ?_) (fun c1 => ?_)
  · have hs := ifn c1 hs
    refine lv_aload_n hx hb dX6_isOf_10 rfl (lv_at hl 0 rfl) ?_
    refine xg_6_0 hx hb hB hown hK hP dX6_isOf_11 ?_
    refine lv_iload_n hx hb dX6_isOf_14 rfl (lv_at hl 1 rfl) ?_
    refine cV_roi (As := [.int p1]) (rest := []) hC (m_X3_knows l g a st p1) (kv_of hB bw_7_4 bw_7_2 bw_7_3 bw_1_14 kd_X3_knows bw_7_1 rfl rfl ⟨Nat.le_of_ble_eq_true rfl, Nat.le_of_ble_eq_true rfl⟩) hK hP hP hS (xW_1 g a st) rfl rfl hl.1 rfl (Nat.le_of_ble_eq_true rfl) dX6_isOf_15 ⟨Nat.zero_le _, Nat.zero_le _⟩ (fun H locs hP hS => ?_)
    refine lv_if_eq (tgt := 32) hx hb dX6_isOf_18 (by decide) (fun c2 => ?_) (fun c2 => ?_)
    · have hs := ifp c2 hs
      refine lv_bipush (v := -101) hx hb dX6_isOf_32 (by decide) ?_
      subst hs
      exact ret_roi hx hb hr hlk hS dX6_isOf_34
    · have hs := ifn c2 hs
      refine lv_aload_n hx hb dX6_isOf_21 rfl (lv_at hl 0 rfl) ?_
      refine xg_6_0 hx hb hB hown hK hP dX6_isOf_22 ?_
      refine lv_iload_n hx hb dX6_isOf_25 rfl (lv_at hl 2 rfl) ?_
      refine cV_roi (As := [.int p2]) (rest := []) hC (m_X3_knows l g a st p2) (kv_of hB bw_7_4 bw_7_2 bw_7_3 bw_1_14 kd_X3_knows bw_7_1 rfl rfl ⟨Nat.le_of_ble_eq_true rfl, Nat.le_of_ble_eq_true rfl⟩) hK hP hP hS (xW_1 g a st) rfl rfl hl.1 rfl (Nat.le_of_ble_eq_true rfl) dX6_isOf_26 ⟨Nat.zero_le _, Nat.zero_le _⟩ (fun H locs hP hS => ?_)
      refine lv_if_ne (tgt := 35) hx hb dX6_isOf_29 (by decide) (fun c3 => ?_) (fun c3 => ?_)
      · have hs := ifn c3 hs
        refine lv_aload_n hx hb dX6_isOf_35 rfl (lv_at hl 0 rfl) ?_
        refine xg_6_5 hx hb hB hown hK hP dX6_isOf_36 ?_
        refine lv_iconst (v := 0) hx hb dX6_isOf_39 (by decide) ?_
        refine cV_roi (As := [.int (0 : Int32)]) (rest := []) hC (m_X2_members l g a st (0 : Int32)) (kv_of hB bw_20_11 bw_20_9 bw_20_10 bw_2_10 kd_X2_members bw_29_14 rfl rfl ⟨Nat.le_of_ble_eq_true rfl, Nat.le_of_ble_eq_true rfl⟩) hK hP hP hS (xW_16 g a st) rfl rfl hl.1 rfl (Nat.le_of_ble_eq_true rfl) dX6_isOf_40 ⟨Nat.zero_le _, Nat.zero_le _⟩ (fun H locs hP hS => ?_)
        refine lv_iload_n hx hb dX6_isOf_43 rfl (lv_at hl 1 rfl) ?_
        refine cS_roi (As := [.int (t_X2_members st (0 : Int32)), .int p1]) (rest := []) hC (m_X6_hasBit l g (xW g a st) (t_X2_members st (0 : Int32)) p1) (ks_of hB bw_19_7 bw_19_6 bw_1_2 kd_X6_hasBit bw_30_6 rfl rfl ⟨Nat.le_of_ble_eq_true rfl, Nat.le_of_ble_eq_true rfl⟩) hK hP hP hS rfl hl.1 rfl (Nat.le_of_ble_eq_true rfl) dX6_isOf_44 ⟨Nat.zero_le _, Nat.zero_le _⟩ (fun H locs hP hS => ?_)
        refine lv_if_ne (tgt := 52) hx hb dX6_isOf_47 (by decide) (fun c4 => ?_) (fun c4 => ?_)
        · have hs := ifn c4 hs
          refine lv_aload_n hx hb dX6_isOf_52 rfl (lv_at hl 0 rfl) ?_
          refine xg_6_5 hx hb hB hown hK hP dX6_isOf_53 ?_
          refine lv_iload_n hx hb dX6_isOf_56 rfl (lv_at hl 2 rfl) ?_
          refine cV_roi (As := [.int p2]) (rest := []) hC (m_X2_members l g a st p2) (kv_of hB bw_20_11 bw_20_9 bw_20_10 bw_2_10 kd_X2_members bw_29_14 rfl rfl ⟨Nat.le_of_ble_eq_true rfl, Nat.le_of_ble_eq_true rfl⟩) hK hP hP hS (xW_16 g a st) rfl rfl hl.1 rfl (Nat.le_of_ble_eq_true rfl) dX6_isOf_57 ⟨Nat.zero_le _, Nat.zero_le _⟩ (fun H locs hP hS => ?_)
          refine lv_iload_n hx hb dX6_isOf_60 rfl (lv_at hl 1 rfl) ?_
          refine cS_roi (As := [.int (t_X2_members st p2), .int p1]) (rest := []) hC (m_X6_hasBit l g (xW g a st) (t_X2_members st p2) p1) (ks_of hB bw_19_7 bw_19_6 bw_1_2 kd_X6_hasBit bw_30_6 rfl rfl ⟨Nat.le_of_ble_eq_true rfl, Nat.le_of_ble_eq_true rfl⟩) hK hP hP hS rfl hl.1 rfl (Nat.le_of_ble_eq_true rfl) dX6_isOf_61 ⟨Nat.zero_le _, Nat.zero_le _⟩ (fun H locs hP hS => ?_)
          refine cS_roi (As := [.int (t_X6_hasBit (t_X2_members st p2) p1)]) (rest := []) hC (m_X6_oneIf l g (xW g a st) (t_X6_hasBit (t_X2_members st p2) p1)) (ks_of hB bw_24_10 bw_24_9 bw_1_2 kd_X6_oneIf bw_26_21 rfl rfl ⟨Nat.le_of_ble_eq_true rfl, Nat.le_of_ble_eq_true rfl⟩) hK hP hP hS rfl hl.1 rfl (Nat.le_of_ble_eq_true rfl) dX6_isOf_64 ⟨Nat.zero_le _, Nat.zero_le _⟩ (fun H locs hP hS => ?_)
          subst hs
          exact ret_roi hx hb hr hlk hS dX6_isOf_67
        · have hs := ifp c4 hs
          refine lv_iconst (v := -1) hx hb dX6_isOf_50 (by decide) ?_
          subst hs
          exact ret_roi hx hb hr hlk hS dX6_isOf_51
      · have hs := ifp c3 hs
        refine lv_bipush (v := -101) hx hb dX6_isOf_32 (by decide) ?_
        subst hs
        exact ret_roi hx hb hr hlk hS dX6_isOf_34
  · have hs := ifp c1 hs
    refine lv_bipush (v := -103) hx hb dX6_isOf_7 (by decide) ?_
    subst hs
    exact ret_roi hx hb hr hlk hS dX6_isOf_9
def t_X6_pair (st : XS) (p1 : Int32) (p2 : Int32) (p3 : Int32) : Int32 :=
  (if (st.1 36 0) = 0 then (-103 : Int32) else (if (t_X3_knows st p1) = 0 then (-101 : Int32) else (if (t_X3_knows st p3) = 0 then (-101 : Int32) else (if (t_X6_isRole p2) = 0 then (-102 : Int32) else (t_X6_oneIf (t_X6_hasBit (t_X2_partners st p2 p1) p3))))))
set_option maxHeartbeats 4000000 in
set_option maxRecDepth 100000 in
theorem m_X6_pair (l : Launch) (g : GG) (a : Nat → Nat) (st : XS) (p1 : Int32) (p2 : Int32) (p3 : Int32) : Met l yX6_pair (Cond.code yX6_pair cX6_pair 4 (some .int) :: BIG) ({ frames := 3, cells := 0, slots := 0, locals := 63 } : Room) (va_Pc [.ref (a 0), .int p1, .int p2, .int p3] (ROp g (xW g a st))) (ROi (t_X6_pair st p1 p2 p3)) 0 0 (fun _ => False) := by
  obtain ⟨res, hs⟩ : ∃ z, t_X6_pair st p1 p2 p3 = z := ⟨_, rfl⟩
  rw [hs]
  refine ro_start (cc := cX6_pair) (maxL := 4) (ret := (some .int)) (lv := [(0, .ref (a 0)), (1, .int p1), (2, .int p2), (3, .int p3)]) (by decide) rfl (Nat.le_of_ble_eq_true rfl) rfl ?_
  intro p e s m args below meth c hx hb hml hr hts hown hlk hK H locs hP hS ls hl
  have hB : ∀ w ∈ BIG, w.before args s = true := fun w h => hts w (List.mem_cons_of_mem _ h)
  have hC : CallFix p m c cX6_pair 4 s args BIG RX6 := ⟨hx, hb, hml, hown, hB⟩
  unfold t_X6_pair at hs
  refine lv_aload_n hx hb dX6_pair_0 rfl (lv_at hl 0 rfl) ?_
  refine xg_6_7 hx hb hB hown hK hP dX6_pair_1 ?_
  refine lv_if_ne (tgt := 10) hx hb dX6_pair_4 (by decide) (fun c1 => ?_) (fun c1 => ?_)
  · have hs := ifn c1 hs
    refine lv_aload_n hx hb dX6_pair_10 rfl (lv_at hl 0 rfl) ?_
    refine xg_6_0 hx hb hB hown hK hP dX6_pair_11 ?_
    refine lv_iload_n hx hb dX6_pair_14 rfl (lv_at hl 1 rfl) ?_
    refine cV_roi (As := [.int p1]) (rest := []) hC (m_X3_knows l g a st p1) (kv_of hB bw_7_4 bw_7_2 bw_7_3 bw_1_14 kd_X3_knows bw_7_1 rfl rfl ⟨Nat.le_of_ble_eq_true rfl, Nat.le_of_ble_eq_true rfl⟩) hK hP hP hS (xW_1 g a st) rfl rfl hl.1 rfl (Nat.le_of_ble_eq_true rfl) dX6_pair_15 ⟨Nat.zero_le _, Nat.zero_le _⟩ (fun H locs hP hS => ?_)
    refine lv_if_eq (tgt := 32) hx hb dX6_pair_18 (by decide) (fun c2 => ?_) (fun c2 => ?_)
    · have hs := ifp c2 hs
      refine lv_bipush (v := -101) hx hb dX6_pair_32 (by decide) ?_
      subst hs
      exact ret_roi hx hb hr hlk hS dX6_pair_34
    · have hs := ifn c2 hs
      refine lv_aload_n hx hb dX6_pair_21 rfl (lv_at hl 0 rfl) ?_
      refine xg_6_0 hx hb hB hown hK hP dX6_pair_22 ?_
      refine lv_iload_n hx hb dX6_pair_25 rfl (lv_at hl 3 rfl) ?_
      refine cV_roi (As := [.int p3]) (rest := []) hC (m_X3_knows l g a st p3) (kv_of hB bw_7_4 bw_7_2 bw_7_3 bw_1_14 kd_X3_knows bw_7_1 rfl rfl ⟨Nat.le_of_ble_eq_true rfl, Nat.le_of_ble_eq_true rfl⟩) hK hP hP hS (xW_1 g a st) rfl rfl hl.1 rfl (Nat.le_of_ble_eq_true rfl) dX6_pair_26 ⟨Nat.zero_le _, Nat.zero_le _⟩ (fun H locs hP hS => ?_)
      refine lv_if_ne (tgt := 35) hx hb dX6_pair_29 (by decide) (fun c3 => ?_) (fun c3 => ?_)
      · have hs := ifn c3 hs
        refine lv_iload_n hx hb dX6_pair_35 rfl (lv_at hl 2 rfl) ?_
        refine cS_roi (As := [.int p2]) (rest := []) hC (m_X6_isRole l g (xW g a st) p2) (ks_of hB bw_9_6 bw_9_5 bw_1_2 kd_X6_isRole bw_9_4 rfl rfl ⟨Nat.le_of_ble_eq_true rfl, Nat.le_of_ble_eq_true rfl⟩) hK hP hP hS rfl hl.1 rfl (Nat.le_of_ble_eq_true rfl) dX6_pair_36 ⟨Nat.zero_le _, Nat.zero_le _⟩ (fun H locs hP hS => ?_)
        refine lv_if_ne (tgt := 45) hx hb dX6_pair_39 (by decide) (fun c4 => ?_) (fun c4 => ?_)
        · have hs := ifn c4 hs
          refine lv_aload_n hx hb dX6_pair_45 rfl (lv_at hl 0 rfl) ?_
          refine xg_6_5 hx hb hB hown hK hP dX6_pair_46 ?_
          refine lv_iload_n hx hb dX6_pair_49 rfl (lv_at hl 2 rfl) ?_
          refine lv_iload_n hx hb dX6_pair_50 rfl (lv_at hl 1 rfl) ?_
          refine cV_roi (As := [.int p2, .int p1]) (rest := []) hC (m_X2_partners l g a st p2 p1) (kv_of hB bw_19_21 bw_19_19 bw_19_20 bw_2_10 kd_X2_partners bw_30_15 rfl rfl ⟨Nat.le_of_ble_eq_true rfl, Nat.le_of_ble_eq_true rfl⟩) hK hP hP hS (xW_16 g a st) rfl rfl hl.1 rfl (Nat.le_of_ble_eq_true rfl) dX6_pair_51 ⟨Nat.zero_le _, Nat.zero_le _⟩ (fun H locs hP hS => ?_)
          refine lv_iload_n hx hb dX6_pair_54 rfl (lv_at hl 3 rfl) ?_
          refine cS_roi (As := [.int (t_X2_partners st p2 p1), .int p3]) (rest := []) hC (m_X6_hasBit l g (xW g a st) (t_X2_partners st p2 p1) p3) (ks_of hB bw_19_7 bw_19_6 bw_1_2 kd_X6_hasBit bw_30_6 rfl rfl ⟨Nat.le_of_ble_eq_true rfl, Nat.le_of_ble_eq_true rfl⟩) hK hP hP hS rfl hl.1 rfl (Nat.le_of_ble_eq_true rfl) dX6_pair_55 ⟨Nat.zero_le _, Nat.zero_le _⟩ (fun H locs hP hS => ?_)
          refine cS_roi (As := [.int (t_X6_hasBit (t_X2_partners st p2 p1) p3)]) (rest := []) hC (m_X6_oneIf l g (xW g a st) (t_X6_hasBit (t_X2_partners st p2 p1) p3)) (ks_of hB bw_24_10 bw_24_9 bw_1_2 kd_X6_oneIf bw_26_21 rfl rfl ⟨Nat.le_of_ble_eq_true rfl, Nat.le_of_ble_eq_true rfl⟩) hK hP hP hS rfl hl.1 rfl (Nat.le_of_ble_eq_true rfl) dX6_pair_58 ⟨Nat.zero_le _, Nat.zero_le _⟩ (fun H locs hP hS => ?_)
          subst hs
          exact ret_roi hx hb hr hlk hS dX6_pair_61
        · have hs := ifp c4 hs
          refine lv_bipush (v := -102) hx hb dX6_pair_42 (by decide) ?_
          subst hs
          exact ret_roi hx hb hr hlk hS dX6_pair_44
      · have hs := ifp c3 hs
        refine lv_bipush (v := -101) hx hb dX6_pair_32 (by decide) ?_
        subst hs
        exact ret_roi hx hb hr hlk hS dX6_pair_34
  · have hs := ifp c1 hs
    refine lv_bipush (v := -103) hx hb dX6_pair_7 (by decide) ?_
    subst hs
    exact ret_roi hx hb hr hlk hS dX6_pair_9
noncomputable def b_X2_roleWithin_2 (st : XS) (c2_1 : Int32) (c2_2 : Int32) (v2_3 : Int32) : Option (Int32 ⊕ Int32) :=
  (if (20 : Int32) ≤ v2_3 then some (Sum.inr ((1 : Int32))) else (if ((t_X2_partners st c2_1 v2_3) &&& ((t_X2_partners st c2_2 v2_3) ^^^ (-1 : Int32))) = 0 then some (Sum.inl (v2_3 + 1)) else some (Sum.inr ((0 : Int32)))))
noncomputable def f_X2_roleWithin (st : XS) (p1 : Int32) (p2 : Int32) : Option Int32 :=
  (loopC (fun v => b_X2_roleWithin_2 st p1 p2 v) (0 : Int32))
set_option maxHeartbeats 4000000 in
set_option maxRecDepth 100000 in
theorem m_X2_roleWithin (l : Launch) (g : GG) (a : Nat → Nat) (st : XS) (p1 : Int32) (p2 : Int32) (res : Int32) (hs : f_X2_roleWithin st p1 p2 = some res) : Met l yX2_roleWithin (Cond.code yX2_roleWithin cX2_roleWithin 4 (some .boolean) :: BIG) ({ frames := 3, cells := 0, slots := 0, locals := 63 } : Room) (va_Pc [.ref (a 16), .int p1, .int p2] (ROp g (xW g a st))) (ROi res) 0 0 (fun _ => False) := by
  refine ro_start (cc := cX2_roleWithin) (maxL := 4) (ret := (some .boolean)) (lv := [(0, .ref (a 16)), (1, .int p1), (2, .int p2)]) (by decide) rfl (Nat.le_of_ble_eq_true rfl) rfl ?_
  intro p e s m args below meth c hx hb hml hr hts hown hlk hK H locs hP hS ls hl
  have hB : ∀ w ∈ BIG, w.before args s = true := fun w h => hts w (List.mem_cons_of_mem _ h)
  have hC : CallFix p m c cX2_roleWithin 4 s args BIG RX2 := ⟨hx, hb, hml, hown, hB⟩
  unfold f_X2_roleWithin at hs
  refine lv_iconst (v := 0) hx hb dX2_roleWithin_0 (by decide) ?_
  refine lv_istore_n (lv' := [(3, .int (0 : Int32)), (0, .ref (a 16)), (1, .int p1), (2, .int p2)]) hx hb dX2_roleWithin_1 rfl hl (by decide) rfl (fun ls hl => ?_)
  obtain ⟨n2, hs⟩ := loopC_iter hs
  have L2 : ∀ (n : Nat) (v2_3 : Int32), iterO (fun v => b_X2_roleWithin_2 st p1 p2 v) n v2_3 = some res → ∀ (H : Heap) (locs : List Loc), va_P g.1 vwCl (xW g a st) H → va_S (fun _ => False) s.heap H locs → ∀ ls : Array Slot, lv_has ls 4 [(0, .ref (a 16)), (1, .int p1), (2, .int p2), (3, .int v2_3)] → W p l e ({ frames := 3, cells := 0, slots := 0, locals := 63 } : Room) s m args below meth c H locs 0 0 (MQ below (ROi res) args s 0 0 (fun _ => False)) (F0 m 2 ls []) := by
    intro n
    induction n with
    | zero => intro v2_3 hs; exact (iterO_zero hs).elim
    | succ n ih2 =>
      intro v2_3 hs H locs hP hS ls hl
      obtain ⟨y2, hs, hk2⟩ := iterO_succ hs
      have hs : b_X2_roleWithin_2 st p1 p2 v2_3 = some y2 := hs
      unfold b_X2_roleWithin_2 at hs
      refine lv_iload_n hx hb dX2_roleWithin_2 rfl (lv_at hl 3 rfl) ?_
      refine lv_bipush (v := 20) hx hb dX2_roleWithin_3 (by decide) ?_
      refine lv_icmp_ge (tgt := 34) hx hb dX2_roleWithin_5 (by decide) (fun c1 => ?_) (fun c1 => ?_)
      · have hs := ifp c1 hs
        refine lv_iconst (v := 1) hx hb dX2_roleWithin_34 (by decide) ?_
        cases hs
        cases elim_inr hk2
        exact ret_roz hx hb hr (zn_of (Or.inr rfl)) hlk hS dX2_roleWithin_35
      · have hs := ifn c1 hs
        refine lv_aload_n hx hb dX2_roleWithin_8 rfl (lv_at hl 0 rfl) ?_
        refine lv_iload_n hx hb dX2_roleWithin_9 rfl (lv_at hl 1 rfl) ?_
        refine lv_iload_n hx hb dX2_roleWithin_10 rfl (lv_at hl 3 rfl) ?_
        refine cV_roi (As := [.int p1, .int v2_3]) (rest := []) hC (m_X2_partners l g a st p1 v2_3) (kv_of hB bw_19_21 bw_19_19 bw_19_20 bw_2_10 kd_X2_partners bw_19_18 rfl rfl ⟨Nat.le_of_ble_eq_true rfl, Nat.le_of_ble_eq_true rfl⟩) hK hP hP hS (xW_16 g a st) rfl rfl hl.1 rfl (Nat.le_of_ble_eq_true rfl) dX2_roleWithin_11 ⟨Nat.zero_le _, Nat.zero_le _⟩ (fun H locs hP hS => ?_)
        refine lv_aload_n hx hb dX2_roleWithin_14 rfl (lv_at hl 0 rfl) ?_
        refine lv_iload_n hx hb dX2_roleWithin_15 rfl (lv_at hl 2 rfl) ?_
        refine lv_iload_n hx hb dX2_roleWithin_16 rfl (lv_at hl 3 rfl) ?_
        refine cV_roi (As := [.int p2, .int v2_3]) (rest := [.int (t_X2_partners st p1 v2_3)]) hC (m_X2_partners l g a st p2 v2_3) (kv_of hB bw_19_21 bw_19_19 bw_19_20 bw_2_10 kd_X2_partners bw_19_18 rfl rfl ⟨Nat.le_of_ble_eq_true rfl, Nat.le_of_ble_eq_true rfl⟩) hK hP hP hS (xW_16 g a st) rfl rfl hl.1 rfl (Nat.le_of_ble_eq_true rfl) dX2_roleWithin_17 ⟨Nat.zero_le _, Nat.zero_le _⟩ (fun H locs hP hS => ?_)
        refine lv_iconst (v := -1) hx hb dX2_roleWithin_20 (by decide) ?_
        refine lv_ixor hx hb dX2_roleWithin_21 ?_
        refine lv_iand hx hb dX2_roleWithin_22 ?_
        refine lv_if_eq (tgt := 28) hx hb dX2_roleWithin_23 (by decide) (fun c2 => ?_) (fun c2 => ?_)
        · have hs := ifp c2 hs
          refine lv_iinc (v := (v2_3 + 1)) (lv' := [(3, .int (v2_3 + 1)), (0, .ref (a 16)), (1, .int p1), (2, .int p2)]) hx hb dX2_roleWithin_28 hl (k := 3) rfl (by rfl) (by decide) rfl (fun ls hl => ?_)
          refine lv_goto (tgt := 2) hx hb dX2_roleWithin_31 (by decide) ?_
          cases hs
          exact ih2 (v2_3 + 1) hk2 _ _ hP hS _ (lv_sub hl [1, 2, 3, 0] rfl)
        · have hs := ifn c2 hs
          refine lv_iconst (v := 0) hx hb dX2_roleWithin_26 (by decide) ?_
          cases hs
          cases elim_inr hk2
          exact ret_roz hx hb hr (zn_of (Or.inl rfl)) hlk hS dX2_roleWithin_27
  exact L2 n2 (0 : Int32) hs _ _ hP hS _ (lv_sub hl [1, 2, 3, 0] rfl)
