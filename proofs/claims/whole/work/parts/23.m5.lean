noncomputable def b_X7_round_176 (c176_1 : Int32) (c176_2 : Int32) (v176_3 : Int32) (z176 : MS) : Option ((Int32 × MS) ⊕ ((Int32 × MS) ⊕ ((Int32 × MS) ⊕ (Int32 × MS)))) :=
  (if (z176 0 0) ≤ v176_3 then some (Sum.inr (Sum.inl ((c176_2 + 1), z176))) else (Option.bind (rd 3136 (z176 22) ((((112 : Int32) * c176_1) + ((28 : Int32) * c176_2)) + v176_3)) (fun r21 => (if r21 = (-1 : Int32) then some (Sum.inl ((v176_3 + 1), z176)) else (Option.bind (mwr z176 17 3136 ((((112 : Int32) * c176_1) + ((28 : Int32) * c176_2)) + v176_3) (z176 27 0)) (fun r23 => (Option.bind (rd 3136 (r23 22) ((((112 : Int32) * c176_1) + ((28 : Int32) * c176_2)) + v176_3)) (fun r24 => (Option.bind (rd 3136 (r23 23) ((((112 : Int32) * c176_1) + ((28 : Int32) * c176_2)) + v176_3)) (fun r25 => (Option.bind (rd 3136 (r23 24) ((((112 : Int32) * c176_1) + ((28 : Int32) * c176_2)) + v176_3)) (fun r26 => (Option.bind (rd 3136 (r23 25) ((((112 : Int32) * c176_1) + ((28 : Int32) * c176_2)) + v176_3)) (fun r27 => (Option.bind (f_X7_lay r23 (1 : Int32) c176_1 v176_3 c176_2 r24 r25 r26 r27) (fun r28 => some (Sum.inl ((v176_3 + 1), r28))))))))))))))))))
noncomputable def b_X7_round_169 (c169_1 : Int32) (v169_2 : Int32) (z169 : MS) : Option ((Int32 × MS) ⊕ ((Int32 × MS) ⊕ (Int32 × MS))) :=
  (if (4 : Int32) ≤ v169_2 then some (Sum.inr (Sum.inl ((c169_1 + 1), z169))) else (loopC (fun v => b_X7_round_176 c169_1 v169_2 v.1 v.2) ((0 : Int32), z169)))
noncomputable def b_X7_round_94 (c94_1 : Int32) (v94_2 : Int32) (z94 : MS) : Option ((Int32 × MS) ⊕ ((Int32 × MS) ⊕ (Int32 × MS))) :=
  (if (z94 0 0) ≤ v94_2 then (Option.map (fun z => Sum.inr (z)) (loopC (fun v => b_X7_round_169 c94_1 v.1 v.2) ((0 : Int32), z94))) else (Option.bind (rd 784 (z94 18) (((28 : Int32) * c94_1) + v94_2)) (fun r29 => (if r29 = (-1 : Int32) then some (Sum.inl ((v94_2 + 1), z94)) else (Option.bind (mwr z94 16 784 (((28 : Int32) * c94_1) + v94_2) (z94 27 0)) (fun r31 => (Option.bind (rd 784 (r31 18) (((28 : Int32) * c94_1) + v94_2)) (fun r32 => (Option.bind (rd 784 (r31 19) (((28 : Int32) * c94_1) + v94_2)) (fun r33 => (Option.bind (rd 784 (r31 20) (((28 : Int32) * c94_1) + v94_2)) (fun r34 => (Option.bind (rd 784 (r31 21) (((28 : Int32) * c94_1) + v94_2)) (fun r35 => (Option.bind (f_X7_lay r31 (0 : Int32) c94_1 v94_2 (-1 : Int32) r32 r33 r34 r35) (fun r36 => some (Sum.inl ((v94_2 + 1), r36))))))))))))))))))
noncomputable def b_X7_round_84 (v84_1 : Int32) (z84 : MS) : Option ((Int32 × MS) ⊕ (Int32 × MS)) :=
  (if (z84 0 0) ≤ v84_1 then (if (z84 27 0) ≤ (z84 13 0) then (Option.bind (some (mA z84 14 (fun _ => ((z84 14 0) - (1 : Int32))))) (fun r13 => (Option.bind (some (mA r13 13 (fun _ => (r13 27 0)))) (fun r14 => some (Sum.inr (((0 : Int32), r14))))))) else (Option.bind (some (mA z84 14 (fun _ => ((z84 14 0) - (0 : Int32))))) (fun r16 => (Option.bind (some (mA r16 13 (fun _ => (r16 27 0)))) (fun r17 => some (Sum.inr (((1 : Int32), r17)))))))) else (loopC (fun v => b_X7_round_94 v84_1 v.1 v.2) ((0 : Int32), z84)))
noncomputable def b_X7_round_24 (v24_1 : Int32) (z24 : MS) : Option ((Int32 × MS) ⊕ (Int32 × MS)) :=
  (if (3136 : Int32) ≤ v24_1 then (Option.bind (f_X7_ofBegun z24) (fun r3 => (Option.bind (f_X7_ofMeets r3) (fun r4 => (Option.bind (f_X7_ofAxioms r4) (fun r5 => (Option.bind (f_X7_ofRoles r5) (fun r6 => (Option.bind (f_X7_ofChains r6) (fun r7 => (Option.bind (some (mA r7 27 (fun _ => (r7 13 0)))) (fun r8 => (Option.bind (some (mA r8 14 (fun _ => ((r8 14 0) + (1 : Int32))))) (fun r9 => (Option.map (fun z => Sum.inr (z)) (loopC (fun v => b_X7_round_84 v.1 v.2) ((0 : Int32), r9))))))))))))))))) else (Option.bind (mwr z24 22 3136 v24_1 (-1 : Int32)) (fun r37 => some (Sum.inl ((v24_1 + 1), r37)))))
noncomputable def b_X7_round_2 (v2_1 : Int32) (z2 : MS) : Option ((Int32 × MS) ⊕ (Int32 × MS)) :=
  (if (784 : Int32) ≤ v2_1 then (Option.map (fun z => Sum.inr (z)) (loopC (fun v => b_X7_round_24 v.1 v.2) ((0 : Int32), z2))) else (Option.bind (mwr z2 18 784 v2_1 (-1 : Int32)) (fun r38 => some (Sum.inl ((v2_1 + 1), r38)))))
noncomputable def f_X7_round (st : MS) : Option (Int32 × MS) :=
  (loopC (fun v => b_X7_round_2 v.1 v.2) ((0 : Int32), st))
set_option maxHeartbeats 4000000 in
set_option maxRecDepth 100000 in
theorem m_X7_round (l : Launch) (g : GG) (b : Nat → Nat) (st : MS) (sz : Nat)  (res : (Int32 × MS)) (hs : f_X7_round st = some res) : Met l yX7_round (Cond.code yX7_round cX7_round 5 (some .boolean) :: BIG) ({ frames := 3, cells := 0, slots := 0, locals := 66 } : Room) (va_Pc [.ref (b 0)] (RWp g (mW g b st) sz)) (RWi res.1 g (mW g b res.2) (va_A (mW g b st) sz)) 0 0 (va_A (mW g b st) sz) := by
  refine rw_start (cc := cX7_round) (maxL := 5) (ret := (some .boolean)) (lv := [(0, .ref (b 0))]) (Qc := fun A => (RWi res.1 g (mW g b res.2) A)) (by decide) rfl (Nat.le_of_ble_eq_true rfl) rfl ?_
  intro p e s m args below meth c hx hb hml hr hts hown hlk hK A hD0 hA H locs hP hS ls hl
  have hD : ∀ st' : MS, va_D A (mW g b st') := fun _ => mW_D hD0
  have hB : ∀ w ∈ BIG, w.before args s = true := fun w h => hts w (List.mem_cons_of_mem _ h)
  have hC : CallFix p m c cX7_round 5 s args BIG RX7 := ⟨hx, hb, hml, hown, hB⟩
  unfold f_X7_round at hs
  refine lv_iconst (v := 0) hx hb dX7_round_0 (by decide) ?_
  refine lv_istore_n (lv' := [(1, .int (0 : Int32)), (0, .ref (b 0))]) hx hb dX7_round_1 rfl hl (by decide) rfl (fun ls hl => ?_)
  obtain ⟨n2, hs⟩ := loopC_iter hs
  have L2 : ∀ (n : Nat) (v2_1 : Int32) (z2 : MS), iterO (fun v => b_X7_round_2 v.1 v.2) n (v2_1, z2) = some res → ∀ (H : Heap) (locs : List Loc), va_P g.1 vwCl (mW g b z2) H → va_S A s.heap H locs → ∀ ls : Array Slot, lv_has ls 5 [(0, .ref (b 0)), (1, .int v2_1)] → W p l e ({ frames := 3, cells := 0, slots := 0, locals := 66 } : Room) s m args below meth c H locs 0 0 (MQ below (RWi res.1 g (mW g b res.2) A) args s 0 0 A) (F0 m 2 ls []) := by
    intro n
    induction n with
    | zero => intro v2_1 z2 hs; exact (iterO_zero hs).elim
    | succ n ih2 =>
      intro v2_1 z2 hs H locs hP hS ls hl
      obtain ⟨y2, hs, hk2⟩ := iterO_succ hs
      have hs : b_X7_round_2 v2_1 z2 = some y2 := hs
      unfold b_X7_round_2 at hs
      refine lv_iload_n hx hb dX7_round_2 rfl (lv_at hl 1 rfl) ?_
      refine lv_sipush (v := 784) hx hb dX7_round_3 (by decide) ?_
      refine lv_icmp_ge (tgt := 22) hx hb dX7_round_6 (by decide) (fun c1 => ?_) (fun c1 => ?_)
      · have hs := ifp c1 hs
        refine lv_iconst (v := 0) hx hb dX7_round_22 (by decide) ?_
        refine lv_istore_n (lv' := [(1, .int (0 : Int32)), (0, .ref (b 0))]) hx hb dX7_round_23 rfl hl (by decide) rfl (fun ls hl => ?_)
        obtain ⟨w24, hm24, hw24⟩ := Option.map_eq_some_iff.mp hs
        clear hs
        cases hw24
        cases elim_inr hk2
        have hs := hm24
        obtain ⟨n24, hs⟩ := loopC_iter hs
        have L24 : ∀ (n : Nat) (v24_1 : Int32) (z24 : MS), iterO (fun v => b_X7_round_24 v.1 v.2) n (v24_1, z24) = some res → ∀ (H : Heap) (locs : List Loc), va_P g.1 vwCl (mW g b z24) H → va_S A s.heap H locs → ∀ ls : Array Slot, lv_has ls 5 [(0, .ref (b 0)), (1, .int v24_1)] → W p l e ({ frames := 3, cells := 0, slots := 0, locals := 66 } : Room) s m args below meth c H locs 0 0 (MQ below (RWi res.1 g (mW g b res.2) A) args s 0 0 A) (F0 m 24 ls []) := by
          intro n
          induction n with
          | zero => intro v24_1 z24 hs; exact (iterO_zero hs).elim
          | succ n ih24 =>
            intro v24_1 z24 hs H locs hP hS ls hl
            obtain ⟨y24, hs, hk24⟩ := iterO_succ hs
            have hs : b_X7_round_24 v24_1 z24 = some y24 := hs
            unfold b_X7_round_24 at hs
            refine lv_iload_n hx hb dX7_round_24 rfl (lv_at hl 1 rfl) ?_
            refine lv_sipush (v := 3136) hx hb dX7_round_25 (by decide) ?_
            refine lv_icmp_ge (tgt := 44) hx hb dX7_round_28 (by decide) (fun c2 => ?_) (fun c2 => ?_)
            · have hs := ifp c2 hs
              refine lv_aload_n hx hb dX7_round_44 rfl (lv_at hl 0 rfl) ?_
              obtain ⟨r3, e3, hs⟩ := Option.bind_eq_some_iff.mp hs
              refine cV_rwv (As := []) (rest := []) hC (m_X7_ofBegun l g b z24 H.size r3 e3) (kv_of hB bw_21_11 bw_21_9 bw_21_10 bw_1_5 kd_X7_ofBegun bw_21_8 rfl rfl ⟨Nat.le_of_ble_eq_true rfl, Nat.le_of_ble_eq_true rfl⟩) hK hP (hD _) hA hS (mW_0 g b z24) rfl rfl hl.1 rfl (Nat.le_of_ble_eq_true rfl) dX7_round_45 ⟨Nat.zero_le _, Nat.zero_le _⟩ (fun H locs hP hS => ?_)
              refine lv_aload_n hx hb dX7_round_48 rfl (lv_at hl 0 rfl) ?_
              obtain ⟨r4, e4, hs⟩ := Option.bind_eq_some_iff.mp hs
              refine cV_rwv (As := []) (rest := []) hC (m_X7_ofMeets l g b r3 H.size r4 e4) (kv_of hB bw_22_7 bw_22_5 bw_22_6 bw_1_5 kd_X7_ofMeets bw_22_4 rfl rfl ⟨Nat.le_of_ble_eq_true rfl, Nat.le_of_ble_eq_true rfl⟩) hK hP (hD _) hA hS (mW_0 g b r3) rfl rfl hl.1 rfl (Nat.le_of_ble_eq_true rfl) dX7_round_49 ⟨Nat.zero_le _, Nat.zero_le _⟩ (fun H locs hP hS => ?_)
              refine lv_aload_n hx hb dX7_round_52 rfl (lv_at hl 0 rfl) ?_
              obtain ⟨r5, e5, hs⟩ := Option.bind_eq_some_iff.mp hs
              refine cV_rwv (As := []) (rest := []) hC (m_X7_ofAxioms l g b r4 H.size r5 e5) (kv_of hB bw_22_11 bw_22_9 bw_22_10 bw_1_5 kd_X7_ofAxioms bw_22_8 rfl rfl ⟨Nat.le_of_ble_eq_true rfl, Nat.le_of_ble_eq_true rfl⟩) hK hP (hD _) hA hS (mW_0 g b r4) rfl rfl hl.1 rfl (Nat.le_of_ble_eq_true rfl) dX7_round_53 ⟨Nat.zero_le _, Nat.zero_le _⟩ (fun H locs hP hS => ?_)
              refine lv_aload_n hx hb dX7_round_56 rfl (lv_at hl 0 rfl) ?_
              obtain ⟨r6, e6, hs⟩ := Option.bind_eq_some_iff.mp hs
              refine cV_rwv (As := []) (rest := []) hC (m_X7_ofRoles l g b r5 H.size r6 e6) (kv_of hB bw_22_15 bw_22_13 bw_22_14 bw_1_5 kd_X7_ofRoles bw_22_12 rfl rfl ⟨Nat.le_of_ble_eq_true rfl, Nat.le_of_ble_eq_true rfl⟩) hK hP (hD _) hA hS (mW_0 g b r5) rfl rfl hl.1 rfl (Nat.le_of_ble_eq_true rfl) dX7_round_57 ⟨Nat.zero_le _, Nat.zero_le _⟩ (fun H locs hP hS => ?_)
              refine lv_aload_n hx hb dX7_round_60 rfl (lv_at hl 0 rfl) ?_
              obtain ⟨r7, e7, hs⟩ := Option.bind_eq_some_iff.mp hs
              refine cV_rwv (As := []) (rest := []) hC (m_X7_ofChains l g b r6 H.size r7 e7) (kv_of hB bw_22_23 bw_22_21 bw_22_22 bw_1_5 kd_X7_ofChains bw_22_20 rfl rfl ⟨Nat.le_of_ble_eq_true rfl, Nat.le_of_ble_eq_true rfl⟩) hK hP (hD _) hA hS (mW_0 g b r6) rfl rfl hl.1 rfl (Nat.le_of_ble_eq_true rfl) dX7_round_61 ⟨Nat.zero_le _, Nat.zero_le _⟩ (fun H locs hP hS => ?_)
              refine lv_aload_n hx hb dX7_round_64 rfl (lv_at hl 0 rfl) ?_
              refine lv_aload_n hx hb dX7_round_65 rfl (lv_at hl 0 rfl) ?_
              refine mg_13 hx hb hB hown hK hP dX7_round_66 ?_
              obtain ⟨r8, e8, hs⟩ := Option.bind_eq_some_iff.mp hs
              have e8 := Option.some.inj e8
              refine mp_27 hx hb hB hown hK hP hD hS e8 dX7_round_69 (fun H locs hP hS => ?_)
              refine lv_aload_n hx hb dX7_round_72 rfl (lv_at hl 0 rfl) ?_
              refine lv_dup hx hb dX7_round_73 rfl ?_
              refine mg_14 hx hb hB hown hK hP dX7_round_74 ?_
              refine lv_iconst (v := 1) hx hb dX7_round_77 (by decide) ?_
              refine lv_iadd hx hb dX7_round_78 ?_
              obtain ⟨r9, e9, hs⟩ := Option.bind_eq_some_iff.mp hs
              have e9 := Option.some.inj e9
              refine mp_14 hx hb hB hown hK hP hD hS e9 dX7_round_79 (fun H locs hP hS => ?_)
              refine lv_iconst (v := 0) hx hb dX7_round_82 (by decide) ?_
              refine lv_istore_n (lv' := [(1, .int (0 : Int32)), (0, .ref (b 0))]) hx hb dX7_round_83 rfl hl (by decide) rfl (fun ls hl => ?_)
              obtain ⟨w84, hm84, hw84⟩ := Option.map_eq_some_iff.mp hs
              clear hs
              cases hw84
              cases elim_inr hk24
              have hs := hm84
              obtain ⟨n84, hs⟩ := loopC_iter hs
              have L84 : ∀ (n : Nat) (v84_1 : Int32) (z84 : MS), iterO (fun v => b_X7_round_84 v.1 v.2) n (v84_1, z84) = some res → ∀ (H : Heap) (locs : List Loc), va_P g.1 vwCl (mW g b z84) H → va_S A s.heap H locs → ∀ ls : Array Slot, lv_has ls 5 [(0, .ref (b 0)), (1, .int v84_1)] → W p l e ({ frames := 3, cells := 0, slots := 0, locals := 66 } : Room) s m args below meth c H locs 0 0 (MQ below (RWi res.1 g (mW g b res.2) A) args s 0 0 A) (F0 m 84 ls []) := by
                intro n
                induction n with
                | zero => intro v84_1 z84 hs; exact (iterO_zero hs).elim
                | succ n ih84 =>
                  intro v84_1 z84 hs H locs hP hS ls hl
                  obtain ⟨y84, hs, hk84⟩ := iterO_succ hs
                  have hs : b_X7_round_84 v84_1 z84 = some y84 := hs
                  unfold b_X7_round_84 at hs
                  refine lv_iload_n hx hb dX7_round_84 rfl (lv_at hl 1 rfl) ?_
                  refine lv_aload_n hx hb dX7_round_85 rfl (lv_at hl 0 rfl) ?_
                  refine mg_0 hx hb hB hown hK hP dX7_round_86 ?_
                  refine lv_icmp_ge (tgt := 273) hx hb dX7_round_89 (by decide) (fun c10 => ?_) (fun c10 => ?_)
                  · have hs := ifp c10 hs
                    refine lv_aload_n hx hb dX7_round_273 rfl (lv_at hl 0 rfl) ?_
                    refine mg_27 hx hb hB hown hK hP dX7_round_274 ?_
                    refine lv_aload_n hx hb dX7_round_277 rfl (lv_at hl 0 rfl) ?_
                    refine mg_13 hx hb hB hown hK hP dX7_round_278 ?_
                    refine lv_icmp_le (tgt := 288) hx hb dX7_round_281 (by decide) (fun c11 => ?_) (fun c11 => ?_)
                    · have hs := ifp c11 hs
                      refine lv_iconst (v := 0) hx hb dX7_round_288 (by decide) ?_
                      refine lv_istore_n (lv' := [(1, .int (0 : Int32)), (0, .ref (b 0))]) hx hb dX7_round_289 rfl hl (by decide) rfl (fun ls hl => ?_)
                      refine lv_aload_n hx hb dX7_round_290 rfl (lv_at hl 1 rfl) ?_
                      refine lv_dup hx hb dX7_round_291 rfl ?_
                      refine mg_14 hx hb hB hown hK hP dX7_round_292 ?_
                      refine lv_iload_n hx hb dX7_round_295 rfl (lv_at hl 0 rfl) ?_
                      refine lv_if_eq (tgt := 303) hx hb dX7_round_296 (by decide) (fun _ => ?_) (fun c12 => absurd (by decide) c12)
                      refine lv_iconst (v := 1) hx hb dX7_round_303 (by decide) ?_
                      refine lv_isub hx hb dX7_round_304 ?_
                      obtain ⟨r13, e13, hs⟩ := Option.bind_eq_some_iff.mp hs
                      have e13 := Option.some.inj e13
                      refine mp_14 hx hb hB hown hK hP hD hS e13 dX7_round_305 (fun H locs hP hS => ?_)
                      refine lv_aload_n hx hb dX7_round_308 rfl (lv_at hl 1 rfl) ?_
                      refine lv_aload_n hx hb dX7_round_309 rfl (lv_at hl 1 rfl) ?_
                      refine mg_27 hx hb hB hown hK hP dX7_round_310 ?_
                      obtain ⟨r14, e14, hs⟩ := Option.bind_eq_some_iff.mp hs
                      have e14 := Option.some.inj e14
                      refine mp_13 hx hb hB hown hK hP hD hS e14 dX7_round_313 (fun H locs hP hS => ?_)
                      refine lv_iload_n hx hb dX7_round_316 rfl (lv_at hl 0 rfl) ?_
                      cases hs
                      cases elim_inr hk84
                      exact ret_rwz hx hb hr (zn_of (Or.inl rfl)) hlk hP hS dX7_round_317
                    · have hs := ifn c11 hs
                      refine lv_iconst (v := 1) hx hb dX7_round_284 (by decide) ?_
                      refine lv_goto (tgt := 289) hx hb dX7_round_285 (by decide) ?_
                      refine lv_istore_n (lv' := [(1, .int (1 : Int32)), (0, .ref (b 0))]) hx hb dX7_round_289 rfl hl (by decide) rfl (fun ls hl => ?_)
                      refine lv_aload_n hx hb dX7_round_290 rfl (lv_at hl 1 rfl) ?_
                      refine lv_dup hx hb dX7_round_291 rfl ?_
                      refine mg_14 hx hb hB hown hK hP dX7_round_292 ?_
                      refine lv_iload_n hx hb dX7_round_295 rfl (lv_at hl 0 rfl) ?_
                      refine lv_if_eq (tgt := 303) hx hb dX7_round_296 (by decide) (fun c15 => absurd c15 (by decide)) (fun _ => ?_)
                      refine lv_iconst (v := 0) hx hb dX7_round_299 (by decide) ?_
                      refine lv_goto (tgt := 304) hx hb dX7_round_300 (by decide) ?_
                      refine lv_isub hx hb dX7_round_304 ?_
                      obtain ⟨r16, e16, hs⟩ := Option.bind_eq_some_iff.mp hs
                      have e16 := Option.some.inj e16
                      refine mp_14 hx hb hB hown hK hP hD hS e16 dX7_round_305 (fun H locs hP hS => ?_)
                      refine lv_aload_n hx hb dX7_round_308 rfl (lv_at hl 1 rfl) ?_
                      refine lv_aload_n hx hb dX7_round_309 rfl (lv_at hl 1 rfl) ?_
                      refine mg_27 hx hb hB hown hK hP dX7_round_310 ?_
                      obtain ⟨r17, e17, hs⟩ := Option.bind_eq_some_iff.mp hs
                      have e17 := Option.some.inj e17
                      refine mp_13 hx hb hB hown hK hP hD hS e17 dX7_round_313 (fun H locs hP hS => ?_)
                      refine lv_iload_n hx hb dX7_round_316 rfl (lv_at hl 0 rfl) ?_
                      cases hs
                      cases elim_inr hk84
                      exact ret_rwz hx hb hr (zn_of (Or.inr rfl)) hlk hP hS dX7_round_317
                  · have hs := ifn c10 hs
                    refine lv_iconst (v := 0) hx hb dX7_round_92 (by decide) ?_
                    refine lv_istore_n (lv' := [(2, .int (0 : Int32)), (0, .ref (b 0)), (1, .int v84_1)]) hx hb dX7_round_93 rfl hl (by decide) rfl (fun ls hl => ?_)
                    obtain ⟨n94, hs⟩ := loopC_iter hs
                    have L94 : ∀ (n : Nat) (v94_2 : Int32) (z94 : MS), iterO (fun v => b_X7_round_94 v84_1 v.1 v.2) n (v94_2, z94) = some y84 → ∀ (H : Heap) (locs : List Loc), va_P g.1 vwCl (mW g b z94) H → va_S A s.heap H locs → ∀ ls : Array Slot, lv_has ls 5 [(0, .ref (b 0)), (1, .int v84_1), (2, .int v94_2)] → W p l e ({ frames := 3, cells := 0, slots := 0, locals := 66 } : Room) s m args below meth c H locs 0 0 (MQ below (RWi res.1 g (mW g b res.2) A) args s 0 0 A) (F0 m 94 ls []) := by
                      intro n
                      induction n with
                      | zero => intro v94_2 z94 hs; exact (iterO_zero hs).elim
                      | succ n ih94 =>
                        intro v94_2 z94 hs H locs hP hS ls hl
                        obtain ⟨y94, hs, hk94⟩ := iterO_succ hs
                        have hs : b_X7_round_94 v84_1 v94_2 z94 = some y94 := hs
                        unfold b_X7_round_94 at hs
                        refine lv_iload_n hx hb dX7_round_94 rfl (lv_at hl 2 rfl) ?_
                        refine lv_aload_n hx hb dX7_round_95 rfl (lv_at hl 0 rfl) ?_
                        refine mg_0 hx hb hB hown hK hP dX7_round_96 ?_
                        refine lv_icmp_ge (tgt := 167) hx hb dX7_round_99 (by decide) (fun c18 => ?_) (fun c18 => ?_)
                        · have hs := ifp c18 hs
                          refine lv_iconst (v := 0) hx hb dX7_round_167 (by decide) ?_
                          refine lv_istore_n (lv' := [(2, .int (0 : Int32)), (0, .ref (b 0)), (1, .int v84_1)]) hx hb dX7_round_168 rfl hl (by decide) rfl (fun ls hl => ?_)
                          obtain ⟨w169, hm169, hw169⟩ := Option.map_eq_some_iff.mp hs
                          clear hs
                          cases hw169
                          cases elim_inr hk94
                          have hs := hm169
                          obtain ⟨n169, hs⟩ := loopC_iter hs
                          have L169 : ∀ (n : Nat) (v169_2 : Int32) (z169 : MS), iterO (fun v => b_X7_round_169 v84_1 v.1 v.2) n (v169_2, z169) = some y84 → ∀ (H : Heap) (locs : List Loc), va_P g.1 vwCl (mW g b z169) H → va_S A s.heap H locs → ∀ ls : Array Slot, lv_has ls 5 [(0, .ref (b 0)), (1, .int v84_1), (2, .int v169_2)] → W p l e ({ frames := 3, cells := 0, slots := 0, locals := 66 } : Room) s m args below meth c H locs 0 0 (MQ below (RWi res.1 g (mW g b res.2) A) args s 0 0 A) (F0 m 169 ls []) := by
                            intro n
                            induction n with
                            | zero => intro v169_2 z169 hs; exact (iterO_zero hs).elim
                            | succ n ih169 =>
                              intro v169_2 z169 hs H locs hP hS ls hl
                              obtain ⟨y169, hs, hk169⟩ := iterO_succ hs
                              have hs : b_X7_round_169 v84_1 v169_2 z169 = some y169 := hs
                              unfold b_X7_round_169 at hs
                              refine lv_iload_n hx hb dX7_round_169 rfl (lv_at hl 2 rfl) ?_
                              refine lv_iconst (v := 4) hx hb dX7_round_170 (by decide) ?_
                              refine lv_icmp_ge (tgt := 267) hx hb dX7_round_171 (by decide) (fun c19 => ?_) (fun c19 => ?_)
                              · have hs := ifp c19 hs
                                refine lv_iinc (v := (v84_1 + 1)) (lv' := [(1, .int (v84_1 + 1)), (0, .ref (b 0)), (2, .int v169_2)]) hx hb dX7_round_267 hl (k := 1) rfl (by rfl) (by decide) rfl (fun ls hl => ?_)
                                refine lv_goto (tgt := 84) hx hb dX7_round_270 (by decide) ?_
                                cases hs
                                cases elim_inr hk169
                                exact ih84 (v84_1 + 1) z169 hk84 _ _ hP hS _ (lv_sub hl [1, 0] rfl)
                              · have hs := ifn c19 hs
                                refine lv_iconst (v := 0) hx hb dX7_round_174 (by decide) ?_
                                refine lv_istore_n (lv' := [(3, .int (0 : Int32)), (0, .ref (b 0)), (1, .int v84_1), (2, .int v169_2)]) hx hb dX7_round_175 rfl hl (by decide) rfl (fun ls hl => ?_)
                                obtain ⟨n176, hs⟩ := loopC_iter hs
                                have L176 : ∀ (n : Nat) (v176_3 : Int32) (z176 : MS), iterO (fun v => b_X7_round_176 v84_1 v169_2 v.1 v.2) n (v176_3, z176) = some y169 → ∀ (H : Heap) (locs : List Loc), va_P g.1 vwCl (mW g b z176) H → va_S A s.heap H locs → ∀ ls : Array Slot, lv_has ls 5 [(0, .ref (b 0)), (1, .int v84_1), (2, .int v169_2), (3, .int v176_3)] → W p l e ({ frames := 3, cells := 0, slots := 0, locals := 66 } : Room) s m args below meth c H locs 0 0 (MQ below (RWi res.1 g (mW g b res.2) A) args s 0 0 A) (F0 m 176 ls []) := by
                                  intro n
                                  induction n with
                                  | zero => intro v176_3 z176 hs; exact (iterO_zero hs).elim
                                  | succ n ih176 =>
                                    intro v176_3 z176 hs H locs hP hS ls hl
                                    obtain ⟨y176, hs, hk176⟩ := iterO_succ hs
                                    have hs : b_X7_round_176 v84_1 v169_2 v176_3 z176 = some y176 := hs
                                    unfold b_X7_round_176 at hs
                                    refine lv_iload_n hx hb dX7_round_176 rfl (lv_at hl 3 rfl) ?_
                                    refine lv_aload_n hx hb dX7_round_177 rfl (lv_at hl 0 rfl) ?_
                                    refine mg_0 hx hb hB hown hK hP dX7_round_178 ?_
                                    refine lv_icmp_ge (tgt := 261) hx hb dX7_round_181 (by decide) (fun c20 => ?_) (fun c20 => ?_)
                                    · have hs := ifp c20 hs
                                      refine lv_iinc (v := (v169_2 + 1)) (lv' := [(2, .int (v169_2 + 1)), (0, .ref (b 0)), (1, .int v84_1), (3, .int v176_3)]) hx hb dX7_round_261 hl (k := 2) rfl (by rfl) (by decide) rfl (fun ls hl => ?_)
                                      refine lv_goto (tgt := 169) hx hb dX7_round_264 (by decide) ?_
                                      cases hs
                                      cases elim_inr hk176
                                      exact ih169 (v169_2 + 1) z176 hk169 _ _ hP hS _ (lv_sub hl [1, 2, 0] rfl)
                                    · have hs := ifn c20 hs
                                      refine lv_bipush (v := 112) hx hb dX7_round_184 (by decide) ?_
                                      refine lv_iload_n hx hb dX7_round_186 rfl (lv_at hl 1 rfl) ?_
                                      refine lv_imul hx hb dX7_round_187 ?_
                                      refine lv_bipush (v := 28) hx hb dX7_round_188 (by decide) ?_
                                      refine lv_iload_n hx hb dX7_round_190 rfl (lv_at hl 2 rfl) ?_
                                      refine lv_imul hx hb dX7_round_191 ?_
                                      refine lv_iadd hx hb dX7_round_192 ?_
                                      refine lv_iload_n hx hb dX7_round_193 rfl (lv_at hl 3 rfl) ?_
                                      refine lv_iadd hx hb dX7_round_194 ?_
                                      refine lv_istore (lv' := [(4, .int ((((112 : Int32) * v84_1) + ((28 : Int32) * v169_2)) + v176_3)), (0, .ref (b 0)), (1, .int v84_1), (2, .int v169_2), (3, .int v176_3)]) hx hb dX7_round_195 hl (by decide) rfl (fun ls hl => ?_)
                                      refine lv_aload_n hx hb dX7_round_197 rfl (lv_at hl 1 rfl) ?_
                                      refine mg_22 hx hb hB hown hK hP dX7_round_198 ?_
                                      refine lv_iload hx hb dX7_round_201 (lv_at hl 0 rfl) ?_
                                      obtain ⟨r21, e21, hs⟩ := Option.bind_eq_some_iff.mp hs
                                      refine ml_22 hx hb hK hP e21 dX7_round_203 ?_
                                      refine lv_iconst (v := -1) hx hb dX7_round_204 (by decide) ?_
                                      refine lv_icmp_eq (tgt := 255) hx hb dX7_round_205 (by decide) (fun c22 => ?_) (fun c22 => ?_)
                                      · have hs := ifp c22 hs
                                        refine lv_iinc (v := (v176_3 + 1)) (lv' := [(3, .int (v176_3 + 1)), (4, .int ((((112 : Int32) * v84_1) + ((28 : Int32) * v169_2)) + v176_3)), (0, .ref (b 0)), (1, .int v84_1), (2, .int v169_2)]) hx hb dX7_round_255 hl (k := 4) rfl (by rfl) (by decide) rfl (fun ls hl => ?_)
                                        refine lv_goto (tgt := 176) hx hb dX7_round_258 (by decide) ?_
                                        cases hs
                                        exact ih176 (v176_3 + 1) z176 hk176 _ _ hP hS _ (lv_sub hl [2, 3, 4, 0] rfl)
                                      · have hs := ifn c22 hs
                                        refine lv_aload_n hx hb dX7_round_208 rfl (lv_at hl 1 rfl) ?_
                                        refine mg_17 hx hb hB hown hK hP dX7_round_209 ?_
                                        refine lv_iload hx hb dX7_round_212 (lv_at hl 0 rfl) ?_
                                        refine lv_aload_n hx hb dX7_round_214 rfl (lv_at hl 1 rfl) ?_
                                        refine mg_27 hx hb hB hown hK hP dX7_round_215 ?_
                                        obtain ⟨r23, e23, hs⟩ := Option.bind_eq_some_iff.mp hs
                                        refine ms_17 hx hb hK hP hD hS e23 dX7_round_218 (fun H locs hP hS => ?_)
                                        refine lv_aload_n hx hb dX7_round_219 rfl (lv_at hl 1 rfl) ?_
                                        refine lv_iconst (v := 1) hx hb dX7_round_220 (by decide) ?_
                                        refine lv_iload_n hx hb dX7_round_221 rfl (lv_at hl 2 rfl) ?_
                                        refine lv_iload_n hx hb dX7_round_222 rfl (lv_at hl 4 rfl) ?_
                                        refine lv_iload_n hx hb dX7_round_223 rfl (lv_at hl 3 rfl) ?_
                                        refine lv_aload_n hx hb dX7_round_224 rfl (lv_at hl 1 rfl) ?_
                                        refine mg_22 hx hb hB hown hK hP dX7_round_225 ?_
                                        refine lv_iload hx hb dX7_round_228 (lv_at hl 0 rfl) ?_
                                        obtain ⟨r24, e24, hs⟩ := Option.bind_eq_some_iff.mp hs
                                        refine ml_22 hx hb hK hP e24 dX7_round_230 ?_
                                        refine lv_aload_n hx hb dX7_round_231 rfl (lv_at hl 1 rfl) ?_
                                        refine mg_23 hx hb hB hown hK hP dX7_round_232 ?_
                                        refine lv_iload hx hb dX7_round_235 (lv_at hl 0 rfl) ?_
                                        obtain ⟨r25, e25, hs⟩ := Option.bind_eq_some_iff.mp hs
                                        refine ml_23 hx hb hK hP e25 dX7_round_237 ?_
                                        refine lv_aload_n hx hb dX7_round_238 rfl (lv_at hl 1 rfl) ?_
                                        refine mg_24 hx hb hB hown hK hP dX7_round_239 ?_
                                        refine lv_iload hx hb dX7_round_242 (lv_at hl 0 rfl) ?_
                                        obtain ⟨r26, e26, hs⟩ := Option.bind_eq_some_iff.mp hs
                                        refine ml_24 hx hb hK hP e26 dX7_round_244 ?_
                                        refine lv_aload_n hx hb dX7_round_245 rfl (lv_at hl 1 rfl) ?_
                                        refine mg_25 hx hb hB hown hK hP dX7_round_246 ?_
                                        refine lv_iload hx hb dX7_round_249 (lv_at hl 0 rfl) ?_
                                        obtain ⟨r27, e27, hs⟩ := Option.bind_eq_some_iff.mp hs
                                        refine ml_25 hx hb hK hP e27 dX7_round_251 ?_
                                        obtain ⟨r28, e28, hs⟩ := Option.bind_eq_some_iff.mp hs
                                        refine cV_rwv (As := [.int (1 : Int32), .int v84_1, .int v176_3, .int v169_2, .int r24, .int r25, .int r26, .int r27]) (rest := []) hC (m_X7_lay l g b r23 H.size (1 : Int32) v84_1 v176_3 v169_2 r24 r25 r26 r27 r28 e28) (kv_of hB bw_23_3 bw_23_1 bw_23_2 bw_1_5 kd_X7_lay bw_23_0 rfl rfl ⟨Nat.le_of_ble_eq_true rfl, Nat.le_of_ble_eq_true rfl⟩) hK hP (hD _) hA hS (mW_0 g b r23) rfl rfl hl.1 rfl (Nat.le_of_ble_eq_true rfl) dX7_round_252 ⟨Nat.zero_le _, Nat.zero_le _⟩ (fun H locs hP hS => ?_)
                                        refine lv_iinc (v := (v176_3 + 1)) (lv' := [(3, .int (v176_3 + 1)), (4, .int ((((112 : Int32) * v84_1) + ((28 : Int32) * v169_2)) + v176_3)), (0, .ref (b 0)), (1, .int v84_1), (2, .int v169_2)]) hx hb dX7_round_255 hl (k := 4) rfl (by rfl) (by decide) rfl (fun ls hl => ?_)
                                        refine lv_goto (tgt := 176) hx hb dX7_round_258 (by decide) ?_
                                        cases hs
                                        exact ih176 (v176_3 + 1) r28 hk176 _ _ hP hS _ (lv_sub hl [2, 3, 4, 0] rfl)
                                exact L176 n176 (0 : Int32) z169 hs _ _ hP hS _ (lv_sub hl [1, 2, 3, 0] rfl)
                          exact L169 n169 (0 : Int32) z94 hs _ _ hP hS _ (lv_sub hl [1, 2, 0] rfl)
                        · have hs := ifn c18 hs
                          refine lv_bipush (v := 28) hx hb dX7_round_102 (by decide) ?_
                          refine lv_iload_n hx hb dX7_round_104 rfl (lv_at hl 1 rfl) ?_
                          refine lv_imul hx hb dX7_round_105 ?_
                          refine lv_iload_n hx hb dX7_round_106 rfl (lv_at hl 2 rfl) ?_
                          refine lv_iadd hx hb dX7_round_107 ?_
                          refine lv_istore_n (lv' := [(3, .int (((28 : Int32) * v84_1) + v94_2)), (0, .ref (b 0)), (1, .int v84_1), (2, .int v94_2)]) hx hb dX7_round_108 rfl hl (by decide) rfl (fun ls hl => ?_)
                          refine lv_aload_n hx hb dX7_round_109 rfl (lv_at hl 1 rfl) ?_
                          refine mg_18 hx hb hB hown hK hP dX7_round_110 ?_
                          refine lv_iload_n hx hb dX7_round_113 rfl (lv_at hl 0 rfl) ?_
                          obtain ⟨r29, e29, hs⟩ := Option.bind_eq_some_iff.mp hs
                          refine ml_18 hx hb hK hP e29 dX7_round_114 ?_
                          refine lv_iconst (v := -1) hx hb dX7_round_115 (by decide) ?_
                          refine lv_icmp_eq (tgt := 161) hx hb dX7_round_116 (by decide) (fun c30 => ?_) (fun c30 => ?_)
                          · have hs := ifp c30 hs
                            refine lv_iinc (v := (v94_2 + 1)) (lv' := [(2, .int (v94_2 + 1)), (3, .int (((28 : Int32) * v84_1) + v94_2)), (0, .ref (b 0)), (1, .int v84_1)]) hx hb dX7_round_161 hl (k := 3) rfl (by rfl) (by decide) rfl (fun ls hl => ?_)
                            refine lv_goto (tgt := 94) hx hb dX7_round_164 (by decide) ?_
                            cases hs
                            exact ih94 (v94_2 + 1) z94 hk94 _ _ hP hS _ (lv_sub hl [2, 3, 0] rfl)
                          · have hs := ifn c30 hs
                            refine lv_aload_n hx hb dX7_round_119 rfl (lv_at hl 1 rfl) ?_
                            refine mg_16 hx hb hB hown hK hP dX7_round_120 ?_
                            refine lv_iload_n hx hb dX7_round_123 rfl (lv_at hl 0 rfl) ?_
                            refine lv_aload_n hx hb dX7_round_124 rfl (lv_at hl 1 rfl) ?_
                            refine mg_27 hx hb hB hown hK hP dX7_round_125 ?_
                            obtain ⟨r31, e31, hs⟩ := Option.bind_eq_some_iff.mp hs
                            refine ms_16 hx hb hK hP hD hS e31 dX7_round_128 (fun H locs hP hS => ?_)
                            refine lv_aload_n hx hb dX7_round_129 rfl (lv_at hl 1 rfl) ?_
                            refine lv_iconst (v := 0) hx hb dX7_round_130 (by decide) ?_
                            refine lv_iload_n hx hb dX7_round_131 rfl (lv_at hl 2 rfl) ?_
                            refine lv_iload_n hx hb dX7_round_132 rfl (lv_at hl 3 rfl) ?_
                            refine lv_iconst (v := -1) hx hb dX7_round_133 (by decide) ?_
                            refine lv_aload_n hx hb dX7_round_134 rfl (lv_at hl 1 rfl) ?_
                            refine mg_18 hx hb hB hown hK hP dX7_round_135 ?_
                            refine lv_iload_n hx hb dX7_round_138 rfl (lv_at hl 0 rfl) ?_
                            obtain ⟨r32, e32, hs⟩ := Option.bind_eq_some_iff.mp hs
                            refine ml_18 hx hb hK hP e32 dX7_round_139 ?_
                            refine lv_aload_n hx hb dX7_round_140 rfl (lv_at hl 1 rfl) ?_
                            refine mg_19 hx hb hB hown hK hP dX7_round_141 ?_
                            refine lv_iload_n hx hb dX7_round_144 rfl (lv_at hl 0 rfl) ?_
                            obtain ⟨r33, e33, hs⟩ := Option.bind_eq_some_iff.mp hs
                            refine ml_19 hx hb hK hP e33 dX7_round_145 ?_
                            refine lv_aload_n hx hb dX7_round_146 rfl (lv_at hl 1 rfl) ?_
                            refine mg_20 hx hb hB hown hK hP dX7_round_147 ?_
                            refine lv_iload_n hx hb dX7_round_150 rfl (lv_at hl 0 rfl) ?_
                            obtain ⟨r34, e34, hs⟩ := Option.bind_eq_some_iff.mp hs
                            refine ml_20 hx hb hK hP e34 dX7_round_151 ?_
                            refine lv_aload_n hx hb dX7_round_152 rfl (lv_at hl 1 rfl) ?_
                            refine mg_21 hx hb hB hown hK hP dX7_round_153 ?_
                            refine lv_iload_n hx hb dX7_round_156 rfl (lv_at hl 0 rfl) ?_
                            obtain ⟨r35, e35, hs⟩ := Option.bind_eq_some_iff.mp hs
                            refine ml_21 hx hb hK hP e35 dX7_round_157 ?_
                            obtain ⟨r36, e36, hs⟩ := Option.bind_eq_some_iff.mp hs
                            refine cV_rwv (As := [.int (0 : Int32), .int v84_1, .int v94_2, .int (-1 : Int32), .int r32, .int r33, .int r34, .int r35]) (rest := []) hC (m_X7_lay l g b r31 H.size (0 : Int32) v84_1 v94_2 (-1 : Int32) r32 r33 r34 r35 r36 e36) (kv_of hB bw_23_3 bw_23_1 bw_23_2 bw_1_5 kd_X7_lay bw_23_0 rfl rfl ⟨Nat.le_of_ble_eq_true rfl, Nat.le_of_ble_eq_true rfl⟩) hK hP (hD _) hA hS (mW_0 g b r31) rfl rfl hl.1 rfl (Nat.le_of_ble_eq_true rfl) dX7_round_158 ⟨Nat.zero_le _, Nat.zero_le _⟩ (fun H locs hP hS => ?_)
                            refine lv_iinc (v := (v94_2 + 1)) (lv' := [(2, .int (v94_2 + 1)), (3, .int (((28 : Int32) * v84_1) + v94_2)), (0, .ref (b 0)), (1, .int v84_1)]) hx hb dX7_round_161 hl (k := 3) rfl (by rfl) (by decide) rfl (fun ls hl => ?_)
                            refine lv_goto (tgt := 94) hx hb dX7_round_164 (by decide) ?_
                            cases hs
                            exact ih94 (v94_2 + 1) r36 hk94 _ _ hP hS _ (lv_sub hl [2, 3, 0] rfl)
                    exact L94 n94 (0 : Int32) z84 hs _ _ hP hS _ (lv_sub hl [1, 2, 0] rfl)
              exact L84 n84 (0 : Int32) r9 hs _ _ hP hS _ (lv_sub hl [1, 0] rfl)
            · have hs := ifn c2 hs
              refine lv_aload_n hx hb dX7_round_31 rfl (lv_at hl 0 rfl) ?_
              refine mg_22 hx hb hB hown hK hP dX7_round_32 ?_
              refine lv_iload_n hx hb dX7_round_35 rfl (lv_at hl 1 rfl) ?_
              refine lv_iconst (v := -1) hx hb dX7_round_36 (by decide) ?_
              obtain ⟨r37, e37, hs⟩ := Option.bind_eq_some_iff.mp hs
              refine ms_22 hx hb hK hP hD hS e37 dX7_round_37 (fun H locs hP hS => ?_)
              refine lv_iinc (v := (v24_1 + 1)) (lv' := [(1, .int (v24_1 + 1)), (0, .ref (b 0))]) hx hb dX7_round_38 hl (k := 1) rfl (by rfl) (by decide) rfl (fun ls hl => ?_)
              refine lv_goto (tgt := 24) hx hb dX7_round_41 (by decide) ?_
              cases hs
              exact ih24 (v24_1 + 1) r37 hk24 _ _ hP hS _ (lv_sub hl [1, 0] rfl)
        exact L24 n24 (0 : Int32) z2 hs _ _ hP hS _ (lv_sub hl [1, 0] rfl)
      · have hs := ifn c1 hs
        refine lv_aload_n hx hb dX7_round_9 rfl (lv_at hl 0 rfl) ?_
        refine mg_18 hx hb hB hown hK hP dX7_round_10 ?_
        refine lv_iload_n hx hb dX7_round_13 rfl (lv_at hl 1 rfl) ?_
        refine lv_iconst (v := -1) hx hb dX7_round_14 (by decide) ?_
        obtain ⟨r38, e38, hs⟩ := Option.bind_eq_some_iff.mp hs
        refine ms_18 hx hb hK hP hD hS e38 dX7_round_15 (fun H locs hP hS => ?_)
        refine lv_iinc (v := (v2_1 + 1)) (lv' := [(1, .int (v2_1 + 1)), (0, .ref (b 0))]) hx hb dX7_round_16 hl (k := 1) rfl (by rfl) (by decide) rfl (fun ls hl => ?_)
        refine lv_goto (tgt := 2) hx hb dX7_round_19 (by decide) ?_
        cases hs
        exact ih2 (v2_1 + 1) r38 hk2 _ _ hP hS _ (lv_sub hl [1, 0] rfl)
  exact L2 n2 (0 : Int32) st hs _ _ hP hS _ (lv_sub hl [1, 0] rfl)
