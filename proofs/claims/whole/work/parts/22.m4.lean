noncomputable def b_X7_ofRoles_203 (v203_1 : Int32) (z203 : MS) : Option ((Int32 × MS) ⊕ MS) :=
  (if (z203 13 0) ≤ v203_1 then some (Sum.inr (z203)) else (Option.bind (f_X7_fact z203 v203_1 (0 : Int32)) (fun r4 => (if r4 = (1 : Int32) then (Option.bind (f_X7_fact z203 v203_1 (2 : Int32)) (fun r6 => (Option.bind (rd 784 (z203 16) (((28 : Int32) * r6) + (1 : Int32))) (fun r7 => (if r7 = (-1 : Int32) then some (Sum.inl ((v203_1 + 1), z203)) else (Option.bind (f_X7_fact z203 v203_1 (1 : Int32)) (fun r9 => (Option.bind (f_X7_fact z203 v203_1 (2 : Int32)) (fun r10 => (Option.bind (rd 784 (z203 16) (((28 : Int32) * r10) + (1 : Int32))) (fun r11 => (Option.bind (f_X7_findIs z203 r9 (1 : Int32) (7 : Int32) v203_1 r11 (-1 : Int32)) (fun r12 => some (Sum.inl ((v203_1 + 1), r12))))))))))))))) else some (Sum.inl ((v203_1 + 1), z203))))))
noncomputable def b_X7_ofRoles_97 (c97_1 : Int32) (c97_2 : Int32) (v97_3 : Int32) (z97 : MS) : Option ((Int32 × MS) ⊕ ((Int32 × MS) ⊕ MS)) :=
  (if (z97 0 0) ≤ v97_3 then some (Sum.inr (Sum.inl ((c97_1 + 1), z97))) else (Option.bind (rd 28 (z97 2) v97_3) (fun r17 => (if r17 = (4 : Int32) then (Option.bind (f_X7_fact z97 c97_1 (3 : Int32)) (fun r19 => (Option.bind (rd 28 (z97 3) v97_3) (fun r20 => (Option.bind (rd 16 (z97 26) (((4 : Int32) * r19) + r20)) (fun r21 => (if r21 = 0 then some (Sum.inl ((v97_3 + 1), z97)) else (Option.bind (rd 28 (z97 4) v97_3) (fun r23 => (Option.bind (rd 784 (z97 16) (((28 : Int32) * c97_2) + r23)) (fun r24 => (if r24 = (-1 : Int32) then some (Sum.inl ((v97_3 + 1), z97)) else (Option.bind (f_X7_fact z97 c97_1 (1 : Int32)) (fun r26 => (Option.bind (rd 28 (z97 4) v97_3) (fun r27 => (Option.bind (rd 784 (z97 16) (((28 : Int32) * c97_2) + r27)) (fun r28 => (Option.bind (f_X7_findIs z97 r26 v97_3 (6 : Int32) c97_1 r28 (-1 : Int32)) (fun r29 => some (Sum.inl ((v97_3 + 1), r29)))))))))))))))))))))) else some (Sum.inl ((v97_3 + 1), z97))))))
noncomputable def b_X7_ofRoles_70 (v70_1 : Int32) (z70 : MS) : Option ((Int32 × MS) ⊕ MS) :=
  (if (z70 13 0) ≤ v70_1 then (Option.map (fun z => Sum.inr (z)) (loopC (fun v => b_X7_ofRoles_203 v.1 v.2) ((0 : Int32), z70))) else (Option.bind (f_X7_fact z70 v70_1 (0 : Int32)) (fun r13 => (if r13 = (1 : Int32) then (Option.bind (f_X7_fact z70 v70_1 (2 : Int32)) (fun r15 => (loopC (fun v => b_X7_ofRoles_97 v70_1 r15 v.1 v.2) ((0 : Int32), z70)))) else some (Sum.inl ((v70_1 + 1), z70))))))
noncomputable def b_X7_ofRoles_2 (v2_1 : Int32) (z2 : MS) : Option ((Int32 × MS) ⊕ MS) :=
  (if (z2 13 0) ≤ v2_1 then (Option.map (fun z => Sum.inr (z)) (loopC (fun v => b_X7_ofRoles_70 v.1 v.2) ((0 : Int32), z2))) else (Option.bind (f_X7_fact z2 v2_1 (2 : Int32)) (fun r30 => (Option.bind (f_X7_fact z2 v2_1 (0 : Int32)) (fun r31 => (if r31 = 0 then (Option.bind (rd 28 (z2 2) r30) (fun r33 => (if r33 = (4 : Int32) then (Option.bind (f_X7_fact z2 v2_1 (1 : Int32)) (fun r35 => (Option.bind (rd 28 (z2 3) r30) (fun r36 => (Option.bind (rd 28 (z2 4) r30) (fun r37 => (Option.bind (f_X7_findTo z2 r35 r36 r37 (5 : Int32) v2_1 (-1 : Int32) (-1 : Int32)) (fun r38 => some (Sum.inl ((v2_1 + 1), r38)))))))))) else some (Sum.inl ((v2_1 + 1), z2))))) else some (Sum.inl ((v2_1 + 1), z2))))))))
noncomputable def f_X7_ofRoles (st : MS) : Option MS :=
  (loopC (fun v => b_X7_ofRoles_2 v.1 v.2) ((0 : Int32), st))
set_option maxHeartbeats 4000000 in
set_option maxRecDepth 100000 in
theorem m_X7_ofRoles (l : Launch) (g : GG) (b : Nat → Nat) (st : MS) (sz : Nat)  (res : MS) (hs : f_X7_ofRoles st = some res) : Met l yX7_ofRoles (Cond.code yX7_ofRoles cX7_ofRoles 4 none :: BIG) ({ frames := 1, cells := 0, slots := 0, locals := 28 } : Room) (va_Pc [.ref (b 0)] (RWp g (mW g b st) sz)) (RWv g (mW g b res) (va_A (mW g b st) sz)) 0 0 (va_A (mW g b st) sz) := by
  refine rw_start (cc := cX7_ofRoles) (maxL := 4) (ret := none) (lv := [(0, .ref (b 0))]) (Qc := fun A => (RWv g (mW g b res) A)) (by decide) rfl (Nat.le_of_ble_eq_true rfl) rfl ?_
  intro p e s m args below meth c hx hb hml hr hts hown hlk hK A hD0 hA H locs hP hS ls hl
  have hD : ∀ st' : MS, va_D A (mW g b st') := fun _ => mW_D hD0
  have hB : ∀ w ∈ BIG, w.before args s = true := fun w h => hts w (List.mem_cons_of_mem _ h)
  have hC : CallFix p m c cX7_ofRoles 4 s args BIG RX7 := ⟨hx, hb, hml, hown, hB⟩
  unfold f_X7_ofRoles at hs
  refine lv_iconst (v := 0) hx hb dX7_ofRoles_0 (by decide) ?_
  refine lv_istore_n (lv' := [(1, .int (0 : Int32)), (0, .ref (b 0))]) hx hb dX7_ofRoles_1 rfl hl (by decide) rfl (fun ls hl => ?_)
  obtain ⟨n2, hs⟩ := loopC_iter hs
  have L2 : ∀ (n : Nat) (v2_1 : Int32) (z2 : MS), iterO (fun v => b_X7_ofRoles_2 v.1 v.2) n (v2_1, z2) = some res → ∀ (H : Heap) (locs : List Loc), va_P g.1 vwCl (mW g b z2) H → va_S A s.heap H locs → ∀ ls : Array Slot, lv_has ls 4 [(0, .ref (b 0)), (1, .int v2_1)] → W p l e ({ frames := 1, cells := 0, slots := 0, locals := 28 } : Room) s m args below meth c H locs 0 0 (MQ below (RWv g (mW g b res) A) args s 0 0 A) (F0 m 2 ls []) := by
    intro n
    induction n with
    | zero => intro v2_1 z2 hs; exact (iterO_zero hs).elim
    | succ n ih2 =>
      intro v2_1 z2 hs H locs hP hS ls hl
      obtain ⟨y2, hs, hk2⟩ := iterO_succ hs
      have hs : b_X7_ofRoles_2 v2_1 z2 = some y2 := hs
      unfold b_X7_ofRoles_2 at hs
      refine lv_iload_n hx hb dX7_ofRoles_2 rfl (lv_at hl 1 rfl) ?_
      refine lv_aload_n hx hb dX7_ofRoles_3 rfl (lv_at hl 0 rfl) ?_
      refine mg_13 hx hb hB hown hK hP dX7_ofRoles_4 ?_
      refine lv_icmp_ge (tgt := 68) hx hb dX7_ofRoles_7 (by decide) (fun c1 => ?_) (fun c1 => ?_)
      · have hs := ifp c1 hs
        refine lv_iconst (v := 0) hx hb dX7_ofRoles_68 (by decide) ?_
        refine lv_istore_n (lv' := [(1, .int (0 : Int32)), (0, .ref (b 0))]) hx hb dX7_ofRoles_69 rfl hl (by decide) rfl (fun ls hl => ?_)
        obtain ⟨w70, hm70, hw70⟩ := Option.map_eq_some_iff.mp hs
        clear hs
        cases hw70
        cases elim_inr hk2
        have hs := hm70
        obtain ⟨n70, hs⟩ := loopC_iter hs
        have L70 : ∀ (n : Nat) (v70_1 : Int32) (z70 : MS), iterO (fun v => b_X7_ofRoles_70 v.1 v.2) n (v70_1, z70) = some res → ∀ (H : Heap) (locs : List Loc), va_P g.1 vwCl (mW g b z70) H → va_S A s.heap H locs → ∀ ls : Array Slot, lv_has ls 4 [(0, .ref (b 0)), (1, .int v70_1)] → W p l e ({ frames := 1, cells := 0, slots := 0, locals := 28 } : Room) s m args below meth c H locs 0 0 (MQ below (RWv g (mW g b res) A) args s 0 0 A) (F0 m 70 ls []) := by
          intro n
          induction n with
          | zero => intro v70_1 z70 hs; exact (iterO_zero hs).elim
          | succ n ih70 =>
            intro v70_1 z70 hs H locs hP hS ls hl
            obtain ⟨y70, hs, hk70⟩ := iterO_succ hs
            have hs : b_X7_ofRoles_70 v70_1 z70 = some y70 := hs
            unfold b_X7_ofRoles_70 at hs
            refine lv_iload_n hx hb dX7_ofRoles_70 rfl (lv_at hl 1 rfl) ?_
            refine lv_aload_n hx hb dX7_ofRoles_71 rfl (lv_at hl 0 rfl) ?_
            refine mg_13 hx hb hB hown hK hP dX7_ofRoles_72 ?_
            refine lv_icmp_ge (tgt := 201) hx hb dX7_ofRoles_75 (by decide) (fun c2 => ?_) (fun c2 => ?_)
            · have hs := ifp c2 hs
              refine lv_iconst (v := 0) hx hb dX7_ofRoles_201 (by decide) ?_
              refine lv_istore_n (lv' := [(1, .int (0 : Int32)), (0, .ref (b 0))]) hx hb dX7_ofRoles_202 rfl hl (by decide) rfl (fun ls hl => ?_)
              obtain ⟨w203, hm203, hw203⟩ := Option.map_eq_some_iff.mp hs
              clear hs
              cases hw203
              cases elim_inr hk70
              have hs := hm203
              obtain ⟨n203, hs⟩ := loopC_iter hs
              have L203 : ∀ (n : Nat) (v203_1 : Int32) (z203 : MS), iterO (fun v => b_X7_ofRoles_203 v.1 v.2) n (v203_1, z203) = some res → ∀ (H : Heap) (locs : List Loc), va_P g.1 vwCl (mW g b z203) H → va_S A s.heap H locs → ∀ ls : Array Slot, lv_has ls 4 [(0, .ref (b 0)), (1, .int v203_1)] → W p l e ({ frames := 1, cells := 0, slots := 0, locals := 28 } : Room) s m args below meth c H locs 0 0 (MQ below (RWv g (mW g b res) A) args s 0 0 A) (F0 m 203 ls []) := by
                intro n
                induction n with
                | zero => intro v203_1 z203 hs; exact (iterO_zero hs).elim
                | succ n ih203 =>
                  intro v203_1 z203 hs H locs hP hS ls hl
                  obtain ⟨y203, hs, hk203⟩ := iterO_succ hs
                  have hs : b_X7_ofRoles_203 v203_1 z203 = some y203 := hs
                  unfold b_X7_ofRoles_203 at hs
                  refine lv_iload_n hx hb dX7_ofRoles_203 rfl (lv_at hl 1 rfl) ?_
                  refine lv_aload_n hx hb dX7_ofRoles_204 rfl (lv_at hl 0 rfl) ?_
                  refine mg_13 hx hb hB hown hK hP dX7_ofRoles_205 ?_
                  refine lv_icmp_ge (tgt := 278) hx hb dX7_ofRoles_208 (by decide) (fun c3 => ?_) (fun c3 => ?_)
                  · have hs := ifp c3 hs
                    cases hs
                    cases elim_inr hk203
                    exact ret_rwv hx hb hr hlk hP hS dX7_ofRoles_278
                  · have hs := ifn c3 hs
                    refine lv_aload_n hx hb dX7_ofRoles_211 rfl (lv_at hl 0 rfl) ?_
                    refine lv_iload_n hx hb dX7_ofRoles_212 rfl (lv_at hl 1 rfl) ?_
                    refine lv_iconst (v := 0) hx hb dX7_ofRoles_213 (by decide) ?_
                    obtain ⟨r4, e4, hs⟩ := Option.bind_eq_some_iff.mp hs
                    refine cV_roi (As := [.int v203_1, .int (0 : Int32)]) (rest := []) hC (m_X7_fact l g b z203 v203_1 (0 : Int32) r4 e4) (kv_of hB bw_21_23 bw_21_21 bw_21_22 bw_1_5 kd_X7_fact bw_21_20 rfl rfl ⟨Nat.le_of_ble_eq_true rfl, Nat.le_of_ble_eq_true rfl⟩) hK hP hP hS (mW_0 g b z203) rfl rfl hl.1 rfl (Nat.le_of_ble_eq_true rfl) dX7_ofRoles_214 ⟨Nat.zero_le _, Nat.zero_le _⟩ (fun H locs hP hS => ?_)
                    refine lv_iconst (v := 1) hx hb dX7_ofRoles_217 (by decide) ?_
                    refine lv_icmp_ne (tgt := 272) hx hb dX7_ofRoles_218 (by decide) (fun c5 => ?_) (fun c5 => ?_)
                    · have hs := ifn c5 hs
                      refine lv_iinc (v := (v203_1 + 1)) (lv' := [(1, .int (v203_1 + 1)), (0, .ref (b 0))]) hx hb dX7_ofRoles_272 hl (k := 1) rfl (by rfl) (by decide) rfl (fun ls hl => ?_)
                      refine lv_goto (tgt := 203) hx hb dX7_ofRoles_275 (by decide) ?_
                      cases hs
                      exact ih203 (v203_1 + 1) z203 hk203 _ _ hP hS _ (lv_sub hl [1, 0] rfl)
                    · have hs := ifp c5 hs
                      refine lv_aload_n hx hb dX7_ofRoles_221 rfl (lv_at hl 0 rfl) ?_
                      refine mg_16 hx hb hB hown hK hP dX7_ofRoles_222 ?_
                      refine lv_bipush (v := 28) hx hb dX7_ofRoles_225 (by decide) ?_
                      refine lv_aload_n hx hb dX7_ofRoles_227 rfl (lv_at hl 0 rfl) ?_
                      refine lv_iload_n hx hb dX7_ofRoles_228 rfl (lv_at hl 1 rfl) ?_
                      refine lv_iconst (v := 2) hx hb dX7_ofRoles_229 (by decide) ?_
                      obtain ⟨r6, e6, hs⟩ := Option.bind_eq_some_iff.mp hs
                      refine cV_roi (As := [.int v203_1, .int (2 : Int32)]) (rest := [.int (28 : Int32), .ref (b 10)]) hC (m_X7_fact l g b z203 v203_1 (2 : Int32) r6 e6) (kv_of hB bw_21_23 bw_21_21 bw_21_22 bw_1_5 kd_X7_fact bw_21_20 rfl rfl ⟨Nat.le_of_ble_eq_true rfl, Nat.le_of_ble_eq_true rfl⟩) hK hP hP hS (mW_0 g b z203) rfl rfl hl.1 rfl (Nat.le_of_ble_eq_true rfl) dX7_ofRoles_230 ⟨Nat.zero_le _, Nat.zero_le _⟩ (fun H locs hP hS => ?_)
                      refine lv_imul hx hb dX7_ofRoles_233 ?_
                      refine lv_iconst (v := 1) hx hb dX7_ofRoles_234 (by decide) ?_
                      refine lv_iadd hx hb dX7_ofRoles_235 ?_
                      obtain ⟨r7, e7, hs⟩ := Option.bind_eq_some_iff.mp hs
                      refine ml_16 hx hb hK hP e7 dX7_ofRoles_236 ?_
                      refine lv_iconst (v := -1) hx hb dX7_ofRoles_237 (by decide) ?_
                      refine lv_icmp_eq (tgt := 272) hx hb dX7_ofRoles_238 (by decide) (fun c8 => ?_) (fun c8 => ?_)
                      · have hs := ifp c8 hs
                        refine lv_iinc (v := (v203_1 + 1)) (lv' := [(1, .int (v203_1 + 1)), (0, .ref (b 0))]) hx hb dX7_ofRoles_272 hl (k := 1) rfl (by rfl) (by decide) rfl (fun ls hl => ?_)
                        refine lv_goto (tgt := 203) hx hb dX7_ofRoles_275 (by decide) ?_
                        cases hs
                        exact ih203 (v203_1 + 1) z203 hk203 _ _ hP hS _ (lv_sub hl [1, 0] rfl)
                      · have hs := ifn c8 hs
                        refine lv_aload_n hx hb dX7_ofRoles_241 rfl (lv_at hl 0 rfl) ?_
                        refine lv_aload_n hx hb dX7_ofRoles_242 rfl (lv_at hl 0 rfl) ?_
                        refine lv_iload_n hx hb dX7_ofRoles_243 rfl (lv_at hl 1 rfl) ?_
                        refine lv_iconst (v := 1) hx hb dX7_ofRoles_244 (by decide) ?_
                        obtain ⟨r9, e9, hs⟩ := Option.bind_eq_some_iff.mp hs
                        refine cV_roi (As := [.int v203_1, .int (1 : Int32)]) (rest := [.ref (b 0)]) hC (m_X7_fact l g b z203 v203_1 (1 : Int32) r9 e9) (kv_of hB bw_21_23 bw_21_21 bw_21_22 bw_1_5 kd_X7_fact bw_21_20 rfl rfl ⟨Nat.le_of_ble_eq_true rfl, Nat.le_of_ble_eq_true rfl⟩) hK hP hP hS (mW_0 g b z203) rfl rfl hl.1 rfl (Nat.le_of_ble_eq_true rfl) dX7_ofRoles_245 ⟨Nat.zero_le _, Nat.zero_le _⟩ (fun H locs hP hS => ?_)
                        refine lv_iconst (v := 1) hx hb dX7_ofRoles_248 (by decide) ?_
                        refine lv_bipush (v := 7) hx hb dX7_ofRoles_249 (by decide) ?_
                        refine lv_iload_n hx hb dX7_ofRoles_251 rfl (lv_at hl 1 rfl) ?_
                        refine lv_aload_n hx hb dX7_ofRoles_252 rfl (lv_at hl 0 rfl) ?_
                        refine mg_16 hx hb hB hown hK hP dX7_ofRoles_253 ?_
                        refine lv_bipush (v := 28) hx hb dX7_ofRoles_256 (by decide) ?_
                        refine lv_aload_n hx hb dX7_ofRoles_258 rfl (lv_at hl 0 rfl) ?_
                        refine lv_iload_n hx hb dX7_ofRoles_259 rfl (lv_at hl 1 rfl) ?_
                        refine lv_iconst (v := 2) hx hb dX7_ofRoles_260 (by decide) ?_
                        obtain ⟨r10, e10, hs⟩ := Option.bind_eq_some_iff.mp hs
                        refine cV_roi (As := [.int v203_1, .int (2 : Int32)]) (rest := [.int (28 : Int32), .ref (b 10), .int v203_1, .int (7 : Int32), .int (1 : Int32), .int r9, .ref (b 0)]) hC (m_X7_fact l g b z203 v203_1 (2 : Int32) r10 e10) (kv_of hB bw_21_23 bw_21_21 bw_21_22 bw_1_5 kd_X7_fact bw_21_20 rfl rfl ⟨Nat.le_of_ble_eq_true rfl, Nat.le_of_ble_eq_true rfl⟩) hK hP hP hS (mW_0 g b z203) rfl rfl hl.1 rfl (Nat.le_of_ble_eq_true rfl) dX7_ofRoles_261 ⟨Nat.zero_le _, Nat.zero_le _⟩ (fun H locs hP hS => ?_)
                        refine lv_imul hx hb dX7_ofRoles_264 ?_
                        refine lv_iconst (v := 1) hx hb dX7_ofRoles_265 (by decide) ?_
                        refine lv_iadd hx hb dX7_ofRoles_266 ?_
                        obtain ⟨r11, e11, hs⟩ := Option.bind_eq_some_iff.mp hs
                        refine ml_16 hx hb hK hP e11 dX7_ofRoles_267 ?_
                        refine lv_iconst (v := -1) hx hb dX7_ofRoles_268 (by decide) ?_
                        obtain ⟨r12, e12, hs⟩ := Option.bind_eq_some_iff.mp hs
                        refine cV_rwv (As := [.int r9, .int (1 : Int32), .int (7 : Int32), .int v203_1, .int r11, .int (-1 : Int32)]) (rest := []) hC (m_X7_findIs l g b z203 H.size r9 (1 : Int32) (7 : Int32) v203_1 r11 (-1 : Int32) r12 e12) (kv_of hB bw_22_3 bw_22_1 bw_22_2 bw_1_5 kd_X7_findIs bw_22_0 rfl rfl ⟨Nat.le_of_ble_eq_true rfl, Nat.le_of_ble_eq_true rfl⟩) hK hP (hD _) hA hS (mW_0 g b z203) rfl rfl hl.1 rfl (Nat.le_of_ble_eq_true rfl) dX7_ofRoles_269 ⟨Nat.zero_le _, Nat.zero_le _⟩ (fun H locs hP hS => ?_)
                        refine lv_iinc (v := (v203_1 + 1)) (lv' := [(1, .int (v203_1 + 1)), (0, .ref (b 0))]) hx hb dX7_ofRoles_272 hl (k := 1) rfl (by rfl) (by decide) rfl (fun ls hl => ?_)
                        refine lv_goto (tgt := 203) hx hb dX7_ofRoles_275 (by decide) ?_
                        cases hs
                        exact ih203 (v203_1 + 1) r12 hk203 _ _ hP hS _ (lv_sub hl [1, 0] rfl)
              exact L203 n203 (0 : Int32) z70 hs _ _ hP hS _ (lv_sub hl [1, 0] rfl)
            · have hs := ifn c2 hs
              refine lv_aload_n hx hb dX7_ofRoles_78 rfl (lv_at hl 0 rfl) ?_
              refine lv_iload_n hx hb dX7_ofRoles_79 rfl (lv_at hl 1 rfl) ?_
              refine lv_iconst (v := 0) hx hb dX7_ofRoles_80 (by decide) ?_
              obtain ⟨r13, e13, hs⟩ := Option.bind_eq_some_iff.mp hs
              refine cV_roi (As := [.int v70_1, .int (0 : Int32)]) (rest := []) hC (m_X7_fact l g b z70 v70_1 (0 : Int32) r13 e13) (kv_of hB bw_21_23 bw_21_21 bw_21_22 bw_1_5 kd_X7_fact bw_21_20 rfl rfl ⟨Nat.le_of_ble_eq_true rfl, Nat.le_of_ble_eq_true rfl⟩) hK hP hP hS (mW_0 g b z70) rfl rfl hl.1 rfl (Nat.le_of_ble_eq_true rfl) dX7_ofRoles_81 ⟨Nat.zero_le _, Nat.zero_le _⟩ (fun H locs hP hS => ?_)
              refine lv_iconst (v := 1) hx hb dX7_ofRoles_84 (by decide) ?_
              refine lv_icmp_ne (tgt := 195) hx hb dX7_ofRoles_85 (by decide) (fun c14 => ?_) (fun c14 => ?_)
              · have hs := ifn c14 hs
                refine lv_iinc (v := (v70_1 + 1)) (lv' := [(1, .int (v70_1 + 1)), (0, .ref (b 0))]) hx hb dX7_ofRoles_195 hl (k := 1) rfl (by rfl) (by decide) rfl (fun ls hl => ?_)
                refine lv_goto (tgt := 70) hx hb dX7_ofRoles_198 (by decide) ?_
                cases hs
                exact ih70 (v70_1 + 1) z70 hk70 _ _ hP hS _ (lv_sub hl [1, 0] rfl)
              · have hs := ifp c14 hs
                refine lv_aload_n hx hb dX7_ofRoles_88 rfl (lv_at hl 0 rfl) ?_
                refine lv_iload_n hx hb dX7_ofRoles_89 rfl (lv_at hl 1 rfl) ?_
                refine lv_iconst (v := 2) hx hb dX7_ofRoles_90 (by decide) ?_
                obtain ⟨r15, e15, hs⟩ := Option.bind_eq_some_iff.mp hs
                refine cV_roi (As := [.int v70_1, .int (2 : Int32)]) (rest := []) hC (m_X7_fact l g b z70 v70_1 (2 : Int32) r15 e15) (kv_of hB bw_21_23 bw_21_21 bw_21_22 bw_1_5 kd_X7_fact bw_21_20 rfl rfl ⟨Nat.le_of_ble_eq_true rfl, Nat.le_of_ble_eq_true rfl⟩) hK hP hP hS (mW_0 g b z70) rfl rfl hl.1 rfl (Nat.le_of_ble_eq_true rfl) dX7_ofRoles_91 ⟨Nat.zero_le _, Nat.zero_le _⟩ (fun H locs hP hS => ?_)
                refine lv_istore_n (lv' := [(2, .int r15), (0, .ref (b 0)), (1, .int v70_1)]) hx hb dX7_ofRoles_94 rfl hl (by decide) rfl (fun ls hl => ?_)
                refine lv_iconst (v := 0) hx hb dX7_ofRoles_95 (by decide) ?_
                refine lv_istore_n (lv' := [(3, .int (0 : Int32)), (2, .int r15), (0, .ref (b 0)), (1, .int v70_1)]) hx hb dX7_ofRoles_96 rfl hl (by decide) rfl (fun ls hl => ?_)
                obtain ⟨n97, hs⟩ := loopC_iter hs
                have L97 : ∀ (n : Nat) (v97_3 : Int32) (z97 : MS), iterO (fun v => b_X7_ofRoles_97 v70_1 r15 v.1 v.2) n (v97_3, z97) = some y70 → ∀ (H : Heap) (locs : List Loc), va_P g.1 vwCl (mW g b z97) H → va_S A s.heap H locs → ∀ ls : Array Slot, lv_has ls 4 [(0, .ref (b 0)), (1, .int v70_1), (2, .int r15), (3, .int v97_3)] → W p l e ({ frames := 1, cells := 0, slots := 0, locals := 28 } : Room) s m args below meth c H locs 0 0 (MQ below (RWv g (mW g b res) A) args s 0 0 A) (F0 m 97 ls []) := by
                  intro n
                  induction n with
                  | zero => intro v97_3 z97 hs; exact (iterO_zero hs).elim
                  | succ n ih97 =>
                    intro v97_3 z97 hs H locs hP hS ls hl
                    obtain ⟨y97, hs, hk97⟩ := iterO_succ hs
                    have hs : b_X7_ofRoles_97 v70_1 r15 v97_3 z97 = some y97 := hs
                    unfold b_X7_ofRoles_97 at hs
                    refine lv_iload_n hx hb dX7_ofRoles_97 rfl (lv_at hl 3 rfl) ?_
                    refine lv_aload_n hx hb dX7_ofRoles_98 rfl (lv_at hl 0 rfl) ?_
                    refine mg_0 hx hb hB hown hK hP dX7_ofRoles_99 ?_
                    refine lv_icmp_ge (tgt := 195) hx hb dX7_ofRoles_102 (by decide) (fun c16 => ?_) (fun c16 => ?_)
                    · have hs := ifp c16 hs
                      refine lv_iinc (v := (v70_1 + 1)) (lv' := [(1, .int (v70_1 + 1)), (0, .ref (b 0)), (2, .int r15), (3, .int v97_3)]) hx hb dX7_ofRoles_195 hl (k := 1) rfl (by rfl) (by decide) rfl (fun ls hl => ?_)
                      refine lv_goto (tgt := 70) hx hb dX7_ofRoles_198 (by decide) ?_
                      cases hs
                      cases elim_inr hk97
                      exact ih70 (v70_1 + 1) z97 hk70 _ _ hP hS _ (lv_sub hl [1, 0] rfl)
                    · have hs := ifn c16 hs
                      refine lv_aload_n hx hb dX7_ofRoles_105 rfl (lv_at hl 0 rfl) ?_
                      refine mg_2 hx hb hB hown hK hP dX7_ofRoles_106 ?_
                      refine lv_iload_n hx hb dX7_ofRoles_109 rfl (lv_at hl 3 rfl) ?_
                      obtain ⟨r17, e17, hs⟩ := Option.bind_eq_some_iff.mp hs
                      refine ml_2 hx hb hK hP e17 dX7_ofRoles_110 ?_
                      refine lv_iconst (v := 4) hx hb dX7_ofRoles_111 (by decide) ?_
                      refine lv_icmp_ne (tgt := 189) hx hb dX7_ofRoles_112 (by decide) (fun c18 => ?_) (fun c18 => ?_)
                      · have hs := ifn c18 hs
                        refine lv_iinc (v := (v97_3 + 1)) (lv' := [(3, .int (v97_3 + 1)), (0, .ref (b 0)), (1, .int v70_1), (2, .int r15)]) hx hb dX7_ofRoles_189 hl (k := 3) rfl (by rfl) (by decide) rfl (fun ls hl => ?_)
                        refine lv_goto (tgt := 97) hx hb dX7_ofRoles_192 (by decide) ?_
                        cases hs
                        exact ih97 (v97_3 + 1) z97 hk97 _ _ hP hS _ (lv_sub hl [1, 2, 3, 0] rfl)
                      · have hs := ifp c18 hs
                        refine lv_aload_n hx hb dX7_ofRoles_115 rfl (lv_at hl 0 rfl) ?_
                        refine mg_26 hx hb hB hown hK hP dX7_ofRoles_116 ?_
                        refine lv_iconst (v := 4) hx hb dX7_ofRoles_119 (by decide) ?_
                        refine lv_aload_n hx hb dX7_ofRoles_120 rfl (lv_at hl 0 rfl) ?_
                        refine lv_iload_n hx hb dX7_ofRoles_121 rfl (lv_at hl 1 rfl) ?_
                        refine lv_iconst (v := 3) hx hb dX7_ofRoles_122 (by decide) ?_
                        obtain ⟨r19, e19, hs⟩ := Option.bind_eq_some_iff.mp hs
                        refine cV_roi (As := [.int v70_1, .int (3 : Int32)]) (rest := [.int (4 : Int32), .ref (b 20)]) hC (m_X7_fact l g b z97 v70_1 (3 : Int32) r19 e19) (kv_of hB bw_21_23 bw_21_21 bw_21_22 bw_1_5 kd_X7_fact bw_21_20 rfl rfl ⟨Nat.le_of_ble_eq_true rfl, Nat.le_of_ble_eq_true rfl⟩) hK hP hP hS (mW_0 g b z97) rfl rfl hl.1 rfl (Nat.le_of_ble_eq_true rfl) dX7_ofRoles_123 ⟨Nat.zero_le _, Nat.zero_le _⟩ (fun H locs hP hS => ?_)
                        refine lv_imul hx hb dX7_ofRoles_126 ?_
                        refine lv_aload_n hx hb dX7_ofRoles_127 rfl (lv_at hl 0 rfl) ?_
                        refine mg_3 hx hb hB hown hK hP dX7_ofRoles_128 ?_
                        refine lv_iload_n hx hb dX7_ofRoles_131 rfl (lv_at hl 3 rfl) ?_
                        obtain ⟨r20, e20, hs⟩ := Option.bind_eq_some_iff.mp hs
                        refine ml_3 hx hb hK hP e20 dX7_ofRoles_132 ?_
                        refine lv_iadd hx hb dX7_ofRoles_133 ?_
                        obtain ⟨r21, e21, hs⟩ := Option.bind_eq_some_iff.mp hs
                        refine ml_26 hx hb hK hP e21 dX7_ofRoles_134 ?_
                        refine lv_if_eq (tgt := 189) hx hb dX7_ofRoles_135 (by decide) (fun c22 => ?_) (fun c22 => ?_)
                        · have hs := ifp c22 hs
                          refine lv_iinc (v := (v97_3 + 1)) (lv' := [(3, .int (v97_3 + 1)), (0, .ref (b 0)), (1, .int v70_1), (2, .int r15)]) hx hb dX7_ofRoles_189 hl (k := 3) rfl (by rfl) (by decide) rfl (fun ls hl => ?_)
                          refine lv_goto (tgt := 97) hx hb dX7_ofRoles_192 (by decide) ?_
                          cases hs
                          exact ih97 (v97_3 + 1) z97 hk97 _ _ hP hS _ (lv_sub hl [1, 2, 3, 0] rfl)
                        · have hs := ifn c22 hs
                          refine lv_aload_n hx hb dX7_ofRoles_138 rfl (lv_at hl 0 rfl) ?_
                          refine mg_16 hx hb hB hown hK hP dX7_ofRoles_139 ?_
                          refine lv_bipush (v := 28) hx hb dX7_ofRoles_142 (by decide) ?_
                          refine lv_iload_n hx hb dX7_ofRoles_144 rfl (lv_at hl 2 rfl) ?_
                          refine lv_imul hx hb dX7_ofRoles_145 ?_
                          refine lv_aload_n hx hb dX7_ofRoles_146 rfl (lv_at hl 0 rfl) ?_
                          refine mg_4 hx hb hB hown hK hP dX7_ofRoles_147 ?_
                          refine lv_iload_n hx hb dX7_ofRoles_150 rfl (lv_at hl 3 rfl) ?_
                          obtain ⟨r23, e23, hs⟩ := Option.bind_eq_some_iff.mp hs
                          refine ml_4 hx hb hK hP e23 dX7_ofRoles_151 ?_
                          refine lv_iadd hx hb dX7_ofRoles_152 ?_
                          obtain ⟨r24, e24, hs⟩ := Option.bind_eq_some_iff.mp hs
                          refine ml_16 hx hb hK hP e24 dX7_ofRoles_153 ?_
                          refine lv_iconst (v := -1) hx hb dX7_ofRoles_154 (by decide) ?_
                          refine lv_icmp_eq (tgt := 189) hx hb dX7_ofRoles_155 (by decide) (fun c25 => ?_) (fun c25 => ?_)
                          · have hs := ifp c25 hs
                            refine lv_iinc (v := (v97_3 + 1)) (lv' := [(3, .int (v97_3 + 1)), (0, .ref (b 0)), (1, .int v70_1), (2, .int r15)]) hx hb dX7_ofRoles_189 hl (k := 3) rfl (by rfl) (by decide) rfl (fun ls hl => ?_)
                            refine lv_goto (tgt := 97) hx hb dX7_ofRoles_192 (by decide) ?_
                            cases hs
                            exact ih97 (v97_3 + 1) z97 hk97 _ _ hP hS _ (lv_sub hl [1, 2, 3, 0] rfl)
                          · have hs := ifn c25 hs
                            refine lv_aload_n hx hb dX7_ofRoles_158 rfl (lv_at hl 0 rfl) ?_
                            refine lv_aload_n hx hb dX7_ofRoles_159 rfl (lv_at hl 0 rfl) ?_
                            refine lv_iload_n hx hb dX7_ofRoles_160 rfl (lv_at hl 1 rfl) ?_
                            refine lv_iconst (v := 1) hx hb dX7_ofRoles_161 (by decide) ?_
                            obtain ⟨r26, e26, hs⟩ := Option.bind_eq_some_iff.mp hs
                            refine cV_roi (As := [.int v70_1, .int (1 : Int32)]) (rest := [.ref (b 0)]) hC (m_X7_fact l g b z97 v70_1 (1 : Int32) r26 e26) (kv_of hB bw_21_23 bw_21_21 bw_21_22 bw_1_5 kd_X7_fact bw_21_20 rfl rfl ⟨Nat.le_of_ble_eq_true rfl, Nat.le_of_ble_eq_true rfl⟩) hK hP hP hS (mW_0 g b z97) rfl rfl hl.1 rfl (Nat.le_of_ble_eq_true rfl) dX7_ofRoles_162 ⟨Nat.zero_le _, Nat.zero_le _⟩ (fun H locs hP hS => ?_)
                            refine lv_iload_n hx hb dX7_ofRoles_165 rfl (lv_at hl 3 rfl) ?_
                            refine lv_bipush (v := 6) hx hb dX7_ofRoles_166 (by decide) ?_
                            refine lv_iload_n hx hb dX7_ofRoles_168 rfl (lv_at hl 1 rfl) ?_
                            refine lv_aload_n hx hb dX7_ofRoles_169 rfl (lv_at hl 0 rfl) ?_
                            refine mg_16 hx hb hB hown hK hP dX7_ofRoles_170 ?_
                            refine lv_bipush (v := 28) hx hb dX7_ofRoles_173 (by decide) ?_
                            refine lv_iload_n hx hb dX7_ofRoles_175 rfl (lv_at hl 2 rfl) ?_
                            refine lv_imul hx hb dX7_ofRoles_176 ?_
                            refine lv_aload_n hx hb dX7_ofRoles_177 rfl (lv_at hl 0 rfl) ?_
                            refine mg_4 hx hb hB hown hK hP dX7_ofRoles_178 ?_
                            refine lv_iload_n hx hb dX7_ofRoles_181 rfl (lv_at hl 3 rfl) ?_
                            obtain ⟨r27, e27, hs⟩ := Option.bind_eq_some_iff.mp hs
                            refine ml_4 hx hb hK hP e27 dX7_ofRoles_182 ?_
                            refine lv_iadd hx hb dX7_ofRoles_183 ?_
                            obtain ⟨r28, e28, hs⟩ := Option.bind_eq_some_iff.mp hs
                            refine ml_16 hx hb hK hP e28 dX7_ofRoles_184 ?_
                            refine lv_iconst (v := -1) hx hb dX7_ofRoles_185 (by decide) ?_
                            obtain ⟨r29, e29, hs⟩ := Option.bind_eq_some_iff.mp hs
                            refine cV_rwv (As := [.int r26, .int v97_3, .int (6 : Int32), .int v70_1, .int r28, .int (-1 : Int32)]) (rest := []) hC (m_X7_findIs l g b z97 H.size r26 v97_3 (6 : Int32) v70_1 r28 (-1 : Int32) r29 e29) (kv_of hB bw_22_3 bw_22_1 bw_22_2 bw_1_5 kd_X7_findIs bw_22_0 rfl rfl ⟨Nat.le_of_ble_eq_true rfl, Nat.le_of_ble_eq_true rfl⟩) hK hP (hD _) hA hS (mW_0 g b z97) rfl rfl hl.1 rfl (Nat.le_of_ble_eq_true rfl) dX7_ofRoles_186 ⟨Nat.zero_le _, Nat.zero_le _⟩ (fun H locs hP hS => ?_)
                            refine lv_iinc (v := (v97_3 + 1)) (lv' := [(3, .int (v97_3 + 1)), (0, .ref (b 0)), (1, .int v70_1), (2, .int r15)]) hx hb dX7_ofRoles_189 hl (k := 3) rfl (by rfl) (by decide) rfl (fun ls hl => ?_)
                            refine lv_goto (tgt := 97) hx hb dX7_ofRoles_192 (by decide) ?_
                            cases hs
                            exact ih97 (v97_3 + 1) r29 hk97 _ _ hP hS _ (lv_sub hl [1, 2, 3, 0] rfl)
                exact L97 n97 (0 : Int32) z70 hs _ _ hP hS _ (lv_sub hl [2, 3, 1, 0] rfl)
        exact L70 n70 (0 : Int32) z2 hs _ _ hP hS _ (lv_sub hl [1, 0] rfl)
      · have hs := ifn c1 hs
        refine lv_aload_n hx hb dX7_ofRoles_10 rfl (lv_at hl 0 rfl) ?_
        refine lv_iload_n hx hb dX7_ofRoles_11 rfl (lv_at hl 1 rfl) ?_
        refine lv_iconst (v := 2) hx hb dX7_ofRoles_12 (by decide) ?_
        obtain ⟨r30, e30, hs⟩ := Option.bind_eq_some_iff.mp hs
        refine cV_roi (As := [.int v2_1, .int (2 : Int32)]) (rest := []) hC (m_X7_fact l g b z2 v2_1 (2 : Int32) r30 e30) (kv_of hB bw_21_23 bw_21_21 bw_21_22 bw_1_5 kd_X7_fact bw_21_20 rfl rfl ⟨Nat.le_of_ble_eq_true rfl, Nat.le_of_ble_eq_true rfl⟩) hK hP hP hS (mW_0 g b z2) rfl rfl hl.1 rfl (Nat.le_of_ble_eq_true rfl) dX7_ofRoles_13 ⟨Nat.zero_le _, Nat.zero_le _⟩ (fun H locs hP hS => ?_)
        refine lv_istore_n (lv' := [(2, .int r30), (0, .ref (b 0)), (1, .int v2_1)]) hx hb dX7_ofRoles_16 rfl hl (by decide) rfl (fun ls hl => ?_)
        refine lv_aload_n hx hb dX7_ofRoles_17 rfl (lv_at hl 1 rfl) ?_
        refine lv_iload_n hx hb dX7_ofRoles_18 rfl (lv_at hl 2 rfl) ?_
        refine lv_iconst (v := 0) hx hb dX7_ofRoles_19 (by decide) ?_
        obtain ⟨r31, e31, hs⟩ := Option.bind_eq_some_iff.mp hs
        refine cV_roi (As := [.int v2_1, .int (0 : Int32)]) (rest := []) hC (m_X7_fact l g b z2 v2_1 (0 : Int32) r31 e31) (kv_of hB bw_21_23 bw_21_21 bw_21_22 bw_1_5 kd_X7_fact bw_21_20 rfl rfl ⟨Nat.le_of_ble_eq_true rfl, Nat.le_of_ble_eq_true rfl⟩) hK hP hP hS (mW_0 g b z2) rfl rfl hl.1 rfl (Nat.le_of_ble_eq_true rfl) dX7_ofRoles_20 ⟨Nat.zero_le _, Nat.zero_le _⟩ (fun H locs hP hS => ?_)
        refine lv_if_ne (tgt := 62) hx hb dX7_ofRoles_23 (by decide) (fun c32 => ?_) (fun c32 => ?_)
        · have hs := ifn c32 hs
          refine lv_iinc (v := (v2_1 + 1)) (lv' := [(1, .int (v2_1 + 1)), (2, .int r30), (0, .ref (b 0))]) hx hb dX7_ofRoles_62 hl (k := 2) rfl (by rfl) (by decide) rfl (fun ls hl => ?_)
          refine lv_goto (tgt := 2) hx hb dX7_ofRoles_65 (by decide) ?_
          cases hs
          exact ih2 (v2_1 + 1) z2 hk2 _ _ hP hS _ (lv_sub hl [2, 0] rfl)
        · have hs := ifp c32 hs
          refine lv_aload_n hx hb dX7_ofRoles_26 rfl (lv_at hl 1 rfl) ?_
          refine mg_2 hx hb hB hown hK hP dX7_ofRoles_27 ?_
          refine lv_iload_n hx hb dX7_ofRoles_30 rfl (lv_at hl 0 rfl) ?_
          obtain ⟨r33, e33, hs⟩ := Option.bind_eq_some_iff.mp hs
          refine ml_2 hx hb hK hP e33 dX7_ofRoles_31 ?_
          refine lv_iconst (v := 4) hx hb dX7_ofRoles_32 (by decide) ?_
          refine lv_icmp_ne (tgt := 62) hx hb dX7_ofRoles_33 (by decide) (fun c34 => ?_) (fun c34 => ?_)
          · have hs := ifn c34 hs
            refine lv_iinc (v := (v2_1 + 1)) (lv' := [(1, .int (v2_1 + 1)), (2, .int r30), (0, .ref (b 0))]) hx hb dX7_ofRoles_62 hl (k := 2) rfl (by rfl) (by decide) rfl (fun ls hl => ?_)
            refine lv_goto (tgt := 2) hx hb dX7_ofRoles_65 (by decide) ?_
            cases hs
            exact ih2 (v2_1 + 1) z2 hk2 _ _ hP hS _ (lv_sub hl [2, 0] rfl)
          · have hs := ifp c34 hs
            refine lv_aload_n hx hb dX7_ofRoles_36 rfl (lv_at hl 1 rfl) ?_
            refine lv_aload_n hx hb dX7_ofRoles_37 rfl (lv_at hl 1 rfl) ?_
            refine lv_iload_n hx hb dX7_ofRoles_38 rfl (lv_at hl 2 rfl) ?_
            refine lv_iconst (v := 1) hx hb dX7_ofRoles_39 (by decide) ?_
            obtain ⟨r35, e35, hs⟩ := Option.bind_eq_some_iff.mp hs
            refine cV_roi (As := [.int v2_1, .int (1 : Int32)]) (rest := [.ref (b 0)]) hC (m_X7_fact l g b z2 v2_1 (1 : Int32) r35 e35) (kv_of hB bw_21_23 bw_21_21 bw_21_22 bw_1_5 kd_X7_fact bw_21_20 rfl rfl ⟨Nat.le_of_ble_eq_true rfl, Nat.le_of_ble_eq_true rfl⟩) hK hP hP hS (mW_0 g b z2) rfl rfl hl.1 rfl (Nat.le_of_ble_eq_true rfl) dX7_ofRoles_40 ⟨Nat.zero_le _, Nat.zero_le _⟩ (fun H locs hP hS => ?_)
            refine lv_aload_n hx hb dX7_ofRoles_43 rfl (lv_at hl 1 rfl) ?_
            refine mg_3 hx hb hB hown hK hP dX7_ofRoles_44 ?_
            refine lv_iload_n hx hb dX7_ofRoles_47 rfl (lv_at hl 0 rfl) ?_
            obtain ⟨r36, e36, hs⟩ := Option.bind_eq_some_iff.mp hs
            refine ml_3 hx hb hK hP e36 dX7_ofRoles_48 ?_
            refine lv_aload_n hx hb dX7_ofRoles_49 rfl (lv_at hl 1 rfl) ?_
            refine mg_4 hx hb hB hown hK hP dX7_ofRoles_50 ?_
            refine lv_iload_n hx hb dX7_ofRoles_53 rfl (lv_at hl 0 rfl) ?_
            obtain ⟨r37, e37, hs⟩ := Option.bind_eq_some_iff.mp hs
            refine ml_4 hx hb hK hP e37 dX7_ofRoles_54 ?_
            refine lv_iconst (v := 5) hx hb dX7_ofRoles_55 (by decide) ?_
            refine lv_iload_n hx hb dX7_ofRoles_56 rfl (lv_at hl 2 rfl) ?_
            refine lv_iconst (v := -1) hx hb dX7_ofRoles_57 (by decide) ?_
            refine lv_iconst (v := -1) hx hb dX7_ofRoles_58 (by decide) ?_
            obtain ⟨r38, e38, hs⟩ := Option.bind_eq_some_iff.mp hs
            refine cV_rwv (As := [.int r35, .int r36, .int r37, .int (5 : Int32), .int v2_1, .int (-1 : Int32), .int (-1 : Int32)]) (rest := []) hC (m_X7_findTo l g b z2 H.size r35 r36 r37 (5 : Int32) v2_1 (-1 : Int32) (-1 : Int32) r38 e38) (kv_of hB bw_22_19 bw_22_17 bw_22_18 bw_1_5 kd_X7_findTo bw_22_16 rfl rfl ⟨Nat.le_of_ble_eq_true rfl, Nat.le_of_ble_eq_true rfl⟩) hK hP (hD _) hA hS (mW_0 g b z2) rfl rfl hl.1 rfl (Nat.le_of_ble_eq_true rfl) dX7_ofRoles_59 ⟨Nat.zero_le _, Nat.zero_le _⟩ (fun H locs hP hS => ?_)
            refine lv_iinc (v := (v2_1 + 1)) (lv' := [(1, .int (v2_1 + 1)), (2, .int r30), (0, .ref (b 0))]) hx hb dX7_ofRoles_62 hl (k := 2) rfl (by rfl) (by decide) rfl (fun ls hl => ?_)
            refine lv_goto (tgt := 2) hx hb dX7_ofRoles_65 (by decide) ?_
            cases hs
            exact ih2 (v2_1 + 1) r38 hk2 _ _ hP hS _ (lv_sub hl [2, 0] rfl)
  exact L2 n2 (0 : Int32) st hs _ _ hP hS _ (lv_sub hl [1, 0] rfl)
noncomputable def b_X7_ofChains_57 (c57_1 : Int32) (c57_2 : Int32) (v57_3 : Int32) (z57 : MS) : Option ((Int32 × MS) ⊕ ((Int32 × MS) ⊕ ((Int32 × MS) ⊕ MS))) :=
  (if (z57 5 0) ≤ v57_3 then some (Sum.inr (Sum.inl ((c57_2 + 1), z57))) else (Option.bind (rd 40 (z57 10) v57_3) (fun r11 => (if r11 = 0 then some (Sum.inl ((v57_3 + 1), z57)) else (Option.bind (rd 40 (z57 6) v57_3) (fun r13 => (if r13 = (2 : Int32) then (Option.bind (f_X7_fact z57 c57_1 (3 : Int32)) (fun r15 => (Option.bind (rd 40 (z57 7) v57_3) (fun r16 => (Option.bind (rd 16 (z57 26) (((4 : Int32) * r15) + r16)) (fun r17 => (if r17 = 0 then some (Sum.inl ((v57_3 + 1), z57)) else (Option.bind (f_X7_fact z57 c57_2 (3 : Int32)) (fun r19 => (Option.bind (rd 40 (z57 8) v57_3) (fun r20 => (Option.bind (rd 16 (z57 26) (((4 : Int32) * r19) + r20)) (fun r21 => (if r21 = 0 then some (Sum.inl ((v57_3 + 1), z57)) else (Option.bind (f_X7_fact z57 c57_1 (1 : Int32)) (fun r23 => (Option.bind (rd 40 (z57 9) v57_3) (fun r24 => (Option.bind (f_X7_fact z57 c57_2 (2 : Int32)) (fun r25 => (Option.bind (f_X7_findTo z57 r23 r24 r25 (8 : Int32) c57_1 c57_2 v57_3) (fun r26 => some (Sum.inl ((v57_3 + 1), r26)))))))))))))))))))))))) else some (Sum.inl ((v57_3 + 1), z57)))))))))
noncomputable def b_X7_ofChains_12 (c12_1 : Int32) (v12_2 : Int32) (z12 : MS) : Option ((Int32 × MS) ⊕ ((Int32 × MS) ⊕ MS)) :=
  (if (z12 13 0) ≤ v12_2 then some (Sum.inr (Sum.inl ((c12_1 + 1), z12))) else (Option.bind (f_X7_fact z12 c12_1 (0 : Int32)) (fun r3 => (if r3 = (1 : Int32) then (Option.bind (f_X7_fact z12 v12_2 (0 : Int32)) (fun r5 => (if r5 = (1 : Int32) then (Option.bind (f_X7_fact z12 v12_2 (1 : Int32)) (fun r7 => (Option.bind (f_X7_fact z12 c12_1 (2 : Int32)) (fun r8 => (if r7 = r8 then (loopC (fun v => b_X7_ofChains_57 c12_1 v12_2 v.1 v.2) ((0 : Int32), z12)) else some (Sum.inl ((v12_2 + 1), z12))))))) else some (Sum.inl ((v12_2 + 1), z12))))) else some (Sum.inr (Sum.inl ((c12_1 + 1), z12)))))))
noncomputable def b_X7_ofChains_2 (v2_1 : Int32) (z2 : MS) : Option ((Int32 × MS) ⊕ MS) :=
  (if (z2 13 0) ≤ v2_1 then some (Sum.inr (z2)) else (loopC (fun v => b_X7_ofChains_12 v2_1 v.1 v.2) ((0 : Int32), z2)))
noncomputable def f_X7_ofChains (st : MS) : Option MS :=
  (loopC (fun v => b_X7_ofChains_2 v.1 v.2) ((0 : Int32), st))
set_option maxHeartbeats 4000000 in
set_option maxRecDepth 100000 in
theorem m_X7_ofChains (l : Launch) (g : GG) (b : Nat → Nat) (st : MS) (sz : Nat)  (res : MS) (hs : f_X7_ofChains st = some res) : Met l yX7_ofChains (Cond.code yX7_ofChains cX7_ofChains 4 none :: BIG) ({ frames := 1, cells := 0, slots := 0, locals := 28 } : Room) (va_Pc [.ref (b 0)] (RWp g (mW g b st) sz)) (RWv g (mW g b res) (va_A (mW g b st) sz)) 0 0 (va_A (mW g b st) sz) := by
  refine rw_start (cc := cX7_ofChains) (maxL := 4) (ret := none) (lv := [(0, .ref (b 0))]) (Qc := fun A => (RWv g (mW g b res) A)) (by decide) rfl (Nat.le_of_ble_eq_true rfl) rfl ?_
  intro p e s m args below meth c hx hb hml hr hts hown hlk hK A hD0 hA H locs hP hS ls hl
  have hD : ∀ st' : MS, va_D A (mW g b st') := fun _ => mW_D hD0
  have hB : ∀ w ∈ BIG, w.before args s = true := fun w h => hts w (List.mem_cons_of_mem _ h)
  have hC : CallFix p m c cX7_ofChains 4 s args BIG RX7 := ⟨hx, hb, hml, hown, hB⟩
  unfold f_X7_ofChains at hs
  refine lv_iconst (v := 0) hx hb dX7_ofChains_0 (by decide) ?_
  refine lv_istore_n (lv' := [(1, .int (0 : Int32)), (0, .ref (b 0))]) hx hb dX7_ofChains_1 rfl hl (by decide) rfl (fun ls hl => ?_)
  obtain ⟨n2, hs⟩ := loopC_iter hs
  have L2 : ∀ (n : Nat) (v2_1 : Int32) (z2 : MS), iterO (fun v => b_X7_ofChains_2 v.1 v.2) n (v2_1, z2) = some res → ∀ (H : Heap) (locs : List Loc), va_P g.1 vwCl (mW g b z2) H → va_S A s.heap H locs → ∀ ls : Array Slot, lv_has ls 4 [(0, .ref (b 0)), (1, .int v2_1)] → W p l e ({ frames := 1, cells := 0, slots := 0, locals := 28 } : Room) s m args below meth c H locs 0 0 (MQ below (RWv g (mW g b res) A) args s 0 0 A) (F0 m 2 ls []) := by
    intro n
    induction n with
    | zero => intro v2_1 z2 hs; exact (iterO_zero hs).elim
    | succ n ih2 =>
      intro v2_1 z2 hs H locs hP hS ls hl
      obtain ⟨y2, hs, hk2⟩ := iterO_succ hs
      have hs : b_X7_ofChains_2 v2_1 z2 = some y2 := hs
      unfold b_X7_ofChains_2 at hs
      refine lv_iload_n hx hb dX7_ofChains_2 rfl (lv_at hl 1 rfl) ?_
      refine lv_aload_n hx hb dX7_ofChains_3 rfl (lv_at hl 0 rfl) ?_
      refine mg_13 hx hb hB hown hK hP dX7_ofChains_4 ?_
      refine lv_icmp_ge (tgt := 175) hx hb dX7_ofChains_7 (by decide) (fun c1 => ?_) (fun c1 => ?_)
      · have hs := ifp c1 hs
        cases hs
        cases elim_inr hk2
        exact ret_rwv hx hb hr hlk hP hS dX7_ofChains_175
      · have hs := ifn c1 hs
        refine lv_iconst (v := 0) hx hb dX7_ofChains_10 (by decide) ?_
        refine lv_istore_n (lv' := [(2, .int (0 : Int32)), (0, .ref (b 0)), (1, .int v2_1)]) hx hb dX7_ofChains_11 rfl hl (by decide) rfl (fun ls hl => ?_)
        obtain ⟨n12, hs⟩ := loopC_iter hs
        have L12 : ∀ (n : Nat) (v12_2 : Int32) (z12 : MS), iterO (fun v => b_X7_ofChains_12 v2_1 v.1 v.2) n (v12_2, z12) = some y2 → ∀ (H : Heap) (locs : List Loc), va_P g.1 vwCl (mW g b z12) H → va_S A s.heap H locs → ∀ ls : Array Slot, lv_has ls 4 [(0, .ref (b 0)), (1, .int v2_1), (2, .int v12_2)] → W p l e ({ frames := 1, cells := 0, slots := 0, locals := 28 } : Room) s m args below meth c H locs 0 0 (MQ below (RWv g (mW g b res) A) args s 0 0 A) (F0 m 12 ls []) := by
          intro n
          induction n with
          | zero => intro v12_2 z12 hs; exact (iterO_zero hs).elim
          | succ n ih12 =>
            intro v12_2 z12 hs H locs hP hS ls hl
            obtain ⟨y12, hs, hk12⟩ := iterO_succ hs
            have hs : b_X7_ofChains_12 v2_1 v12_2 z12 = some y12 := hs
            unfold b_X7_ofChains_12 at hs
            refine lv_iload_n hx hb dX7_ofChains_12 rfl (lv_at hl 2 rfl) ?_
            refine lv_aload_n hx hb dX7_ofChains_13 rfl (lv_at hl 0 rfl) ?_
            refine mg_13 hx hb hB hown hK hP dX7_ofChains_14 ?_
            refine lv_icmp_ge (tgt := 169) hx hb dX7_ofChains_17 (by decide) (fun c2 => ?_) (fun c2 => ?_)
            · have hs := ifp c2 hs
              refine lv_iinc (v := (v2_1 + 1)) (lv' := [(1, .int (v2_1 + 1)), (0, .ref (b 0)), (2, .int v12_2)]) hx hb dX7_ofChains_169 hl (k := 1) rfl (by rfl) (by decide) rfl (fun ls hl => ?_)
              refine lv_goto (tgt := 2) hx hb dX7_ofChains_172 (by decide) ?_
              cases hs
              cases elim_inr hk12
              exact ih2 (v2_1 + 1) z12 hk2 _ _ hP hS _ (lv_sub hl [1, 0] rfl)
            · have hs := ifn c2 hs
              refine lv_aload_n hx hb dX7_ofChains_20 rfl (lv_at hl 0 rfl) ?_
              refine lv_iload_n hx hb dX7_ofChains_21 rfl (lv_at hl 1 rfl) ?_
              refine lv_iconst (v := 0) hx hb dX7_ofChains_22 (by decide) ?_
              obtain ⟨r3, e3, hs⟩ := Option.bind_eq_some_iff.mp hs
              refine cV_roi (As := [.int v2_1, .int (0 : Int32)]) (rest := []) hC (m_X7_fact l g b z12 v2_1 (0 : Int32) r3 e3) (kv_of hB bw_21_23 bw_21_21 bw_21_22 bw_1_5 kd_X7_fact bw_21_20 rfl rfl ⟨Nat.le_of_ble_eq_true rfl, Nat.le_of_ble_eq_true rfl⟩) hK hP hP hS (mW_0 g b z12) rfl rfl hl.1 rfl (Nat.le_of_ble_eq_true rfl) dX7_ofChains_23 ⟨Nat.zero_le _, Nat.zero_le _⟩ (fun H locs hP hS => ?_)
              refine lv_iconst (v := 1) hx hb dX7_ofChains_26 (by decide) ?_
              refine lv_icmp_ne (tgt := 169) hx hb dX7_ofChains_27 (by decide) (fun c4 => ?_) (fun c4 => ?_)
              · have hs := ifn c4 hs
                refine lv_iinc (v := (v2_1 + 1)) (lv' := [(1, .int (v2_1 + 1)), (0, .ref (b 0)), (2, .int v12_2)]) hx hb dX7_ofChains_169 hl (k := 1) rfl (by rfl) (by decide) rfl (fun ls hl => ?_)
                refine lv_goto (tgt := 2) hx hb dX7_ofChains_172 (by decide) ?_
                cases hs
                cases elim_inr hk12
                exact ih2 (v2_1 + 1) z12 hk2 _ _ hP hS _ (lv_sub hl [1, 0] rfl)
              · have hs := ifp c4 hs
                refine lv_aload_n hx hb dX7_ofChains_30 rfl (lv_at hl 0 rfl) ?_
                refine lv_iload_n hx hb dX7_ofChains_31 rfl (lv_at hl 2 rfl) ?_
                refine lv_iconst (v := 0) hx hb dX7_ofChains_32 (by decide) ?_
                obtain ⟨r5, e5, hs⟩ := Option.bind_eq_some_iff.mp hs
                refine cV_roi (As := [.int v12_2, .int (0 : Int32)]) (rest := []) hC (m_X7_fact l g b z12 v12_2 (0 : Int32) r5 e5) (kv_of hB bw_21_23 bw_21_21 bw_21_22 bw_1_5 kd_X7_fact bw_21_20 rfl rfl ⟨Nat.le_of_ble_eq_true rfl, Nat.le_of_ble_eq_true rfl⟩) hK hP hP hS (mW_0 g b z12) rfl rfl hl.1 rfl (Nat.le_of_ble_eq_true rfl) dX7_ofChains_33 ⟨Nat.zero_le _, Nat.zero_le _⟩ (fun H locs hP hS => ?_)
                refine lv_iconst (v := 1) hx hb dX7_ofChains_36 (by decide) ?_
                refine lv_icmp_ne (tgt := 163) hx hb dX7_ofChains_37 (by decide) (fun c6 => ?_) (fun c6 => ?_)
                · have hs := ifn c6 hs
                  refine lv_iinc (v := (v12_2 + 1)) (lv' := [(2, .int (v12_2 + 1)), (0, .ref (b 0)), (1, .int v2_1)]) hx hb dX7_ofChains_163 hl (k := 2) rfl (by rfl) (by decide) rfl (fun ls hl => ?_)
                  refine lv_goto (tgt := 12) hx hb dX7_ofChains_166 (by decide) ?_
                  cases hs
                  exact ih12 (v12_2 + 1) z12 hk12 _ _ hP hS _ (lv_sub hl [1, 2, 0] rfl)
                · have hs := ifp c6 hs
                  refine lv_aload_n hx hb dX7_ofChains_40 rfl (lv_at hl 0 rfl) ?_
                  refine lv_iload_n hx hb dX7_ofChains_41 rfl (lv_at hl 2 rfl) ?_
                  refine lv_iconst (v := 1) hx hb dX7_ofChains_42 (by decide) ?_
                  obtain ⟨r7, e7, hs⟩ := Option.bind_eq_some_iff.mp hs
                  refine cV_roi (As := [.int v12_2, .int (1 : Int32)]) (rest := []) hC (m_X7_fact l g b z12 v12_2 (1 : Int32) r7 e7) (kv_of hB bw_21_23 bw_21_21 bw_21_22 bw_1_5 kd_X7_fact bw_21_20 rfl rfl ⟨Nat.le_of_ble_eq_true rfl, Nat.le_of_ble_eq_true rfl⟩) hK hP hP hS (mW_0 g b z12) rfl rfl hl.1 rfl (Nat.le_of_ble_eq_true rfl) dX7_ofChains_43 ⟨Nat.zero_le _, Nat.zero_le _⟩ (fun H locs hP hS => ?_)
                  refine lv_aload_n hx hb dX7_ofChains_46 rfl (lv_at hl 0 rfl) ?_
                  refine lv_iload_n hx hb dX7_ofChains_47 rfl (lv_at hl 1 rfl) ?_
                  refine lv_iconst (v := 2) hx hb dX7_ofChains_48 (by decide) ?_
                  obtain ⟨r8, e8, hs⟩ := Option.bind_eq_some_iff.mp hs
                  refine cV_roi (As := [.int v2_1, .int (2 : Int32)]) (rest := [.int r7]) hC (m_X7_fact l g b z12 v2_1 (2 : Int32) r8 e8) (kv_of hB bw_21_23 bw_21_21 bw_21_22 bw_1_5 kd_X7_fact bw_21_20 rfl rfl ⟨Nat.le_of_ble_eq_true rfl, Nat.le_of_ble_eq_true rfl⟩) hK hP hP hS (mW_0 g b z12) rfl rfl hl.1 rfl (Nat.le_of_ble_eq_true rfl) dX7_ofChains_49 ⟨Nat.zero_le _, Nat.zero_le _⟩ (fun H locs hP hS => ?_)
                  refine lv_icmp_ne (tgt := 163) hx hb dX7_ofChains_52 (by decide) (fun c9 => ?_) (fun c9 => ?_)
                  · have hs := ifn c9 hs
                    refine lv_iinc (v := (v12_2 + 1)) (lv' := [(2, .int (v12_2 + 1)), (0, .ref (b 0)), (1, .int v2_1)]) hx hb dX7_ofChains_163 hl (k := 2) rfl (by rfl) (by decide) rfl (fun ls hl => ?_)
                    refine lv_goto (tgt := 12) hx hb dX7_ofChains_166 (by decide) ?_
                    cases hs
                    exact ih12 (v12_2 + 1) z12 hk12 _ _ hP hS _ (lv_sub hl [1, 2, 0] rfl)
                  · have hs := ifp c9 hs
                    refine lv_iconst (v := 0) hx hb dX7_ofChains_55 (by decide) ?_
                    refine lv_istore_n (lv' := [(3, .int (0 : Int32)), (0, .ref (b 0)), (1, .int v2_1), (2, .int v12_2)]) hx hb dX7_ofChains_56 rfl hl (by decide) rfl (fun ls hl => ?_)
                    obtain ⟨n57, hs⟩ := loopC_iter hs
                    have L57 : ∀ (n : Nat) (v57_3 : Int32) (z57 : MS), iterO (fun v => b_X7_ofChains_57 v2_1 v12_2 v.1 v.2) n (v57_3, z57) = some y12 → ∀ (H : Heap) (locs : List Loc), va_P g.1 vwCl (mW g b z57) H → va_S A s.heap H locs → ∀ ls : Array Slot, lv_has ls 4 [(0, .ref (b 0)), (1, .int v2_1), (2, .int v12_2), (3, .int v57_3)] → W p l e ({ frames := 1, cells := 0, slots := 0, locals := 28 } : Room) s m args below meth c H locs 0 0 (MQ below (RWv g (mW g b res) A) args s 0 0 A) (F0 m 57 ls []) := by
                      intro n
                      induction n with
                      | zero => intro v57_3 z57 hs; exact (iterO_zero hs).elim
                      | succ n ih57 =>
                        intro v57_3 z57 hs H locs hP hS ls hl
                        obtain ⟨y57, hs, hk57⟩ := iterO_succ hs
                        have hs : b_X7_ofChains_57 v2_1 v12_2 v57_3 z57 = some y57 := hs
                        unfold b_X7_ofChains_57 at hs
                        refine lv_iload_n hx hb dX7_ofChains_57 rfl (lv_at hl 3 rfl) ?_
                        refine lv_aload_n hx hb dX7_ofChains_58 rfl (lv_at hl 0 rfl) ?_
                        refine mg_5 hx hb hB hown hK hP dX7_ofChains_59 ?_
                        refine lv_icmp_ge (tgt := 163) hx hb dX7_ofChains_62 (by decide) (fun c10 => ?_) (fun c10 => ?_)
                        · have hs := ifp c10 hs
                          refine lv_iinc (v := (v12_2 + 1)) (lv' := [(2, .int (v12_2 + 1)), (0, .ref (b 0)), (1, .int v2_1), (3, .int v57_3)]) hx hb dX7_ofChains_163 hl (k := 2) rfl (by rfl) (by decide) rfl (fun ls hl => ?_)
                          refine lv_goto (tgt := 12) hx hb dX7_ofChains_166 (by decide) ?_
                          cases hs
                          cases elim_inr hk57
                          exact ih12 (v12_2 + 1) z57 hk12 _ _ hP hS _ (lv_sub hl [1, 2, 0] rfl)
                        · have hs := ifn c10 hs
                          refine lv_aload_n hx hb dX7_ofChains_65 rfl (lv_at hl 0 rfl) ?_
                          refine mg_10 hx hb hB hown hK hP dX7_ofChains_66 ?_
                          refine lv_iload_n hx hb dX7_ofChains_69 rfl (lv_at hl 3 rfl) ?_
                          obtain ⟨r11, e11, hs⟩ := Option.bind_eq_some_iff.mp hs
                          refine ml_10 hx hb hK hP e11 dX7_ofChains_70 ?_
                          refine lv_if_eq (tgt := 157) hx hb dX7_ofChains_71 (by decide) (fun c12 => ?_) (fun c12 => ?_)
                          · have hs := ifp c12 hs
                            refine lv_iinc (v := (v57_3 + 1)) (lv' := [(3, .int (v57_3 + 1)), (0, .ref (b 0)), (1, .int v2_1), (2, .int v12_2)]) hx hb dX7_ofChains_157 hl (k := 3) rfl (by rfl) (by decide) rfl (fun ls hl => ?_)
                            refine lv_goto (tgt := 57) hx hb dX7_ofChains_160 (by decide) ?_
                            cases hs
                            exact ih57 (v57_3 + 1) z57 hk57 _ _ hP hS _ (lv_sub hl [1, 2, 3, 0] rfl)
                          · have hs := ifn c12 hs
                            refine lv_aload_n hx hb dX7_ofChains_74 rfl (lv_at hl 0 rfl) ?_
                            refine mg_6 hx hb hB hown hK hP dX7_ofChains_75 ?_
                            refine lv_iload_n hx hb dX7_ofChains_78 rfl (lv_at hl 3 rfl) ?_
                            obtain ⟨r13, e13, hs⟩ := Option.bind_eq_some_iff.mp hs
                            refine ml_6 hx hb hK hP e13 dX7_ofChains_79 ?_
                            refine lv_iconst (v := 2) hx hb dX7_ofChains_80 (by decide) ?_
                            refine lv_icmp_ne (tgt := 157) hx hb dX7_ofChains_81 (by decide) (fun c14 => ?_) (fun c14 => ?_)
                            · have hs := ifn c14 hs
                              refine lv_iinc (v := (v57_3 + 1)) (lv' := [(3, .int (v57_3 + 1)), (0, .ref (b 0)), (1, .int v2_1), (2, .int v12_2)]) hx hb dX7_ofChains_157 hl (k := 3) rfl (by rfl) (by decide) rfl (fun ls hl => ?_)
                              refine lv_goto (tgt := 57) hx hb dX7_ofChains_160 (by decide) ?_
                              cases hs
                              exact ih57 (v57_3 + 1) z57 hk57 _ _ hP hS _ (lv_sub hl [1, 2, 3, 0] rfl)
                            · have hs := ifp c14 hs
                              refine lv_aload_n hx hb dX7_ofChains_84 rfl (lv_at hl 0 rfl) ?_
                              refine mg_26 hx hb hB hown hK hP dX7_ofChains_85 ?_
                              refine lv_iconst (v := 4) hx hb dX7_ofChains_88 (by decide) ?_
                              refine lv_aload_n hx hb dX7_ofChains_89 rfl (lv_at hl 0 rfl) ?_
                              refine lv_iload_n hx hb dX7_ofChains_90 rfl (lv_at hl 1 rfl) ?_
                              refine lv_iconst (v := 3) hx hb dX7_ofChains_91 (by decide) ?_
                              obtain ⟨r15, e15, hs⟩ := Option.bind_eq_some_iff.mp hs
                              refine cV_roi (As := [.int v2_1, .int (3 : Int32)]) (rest := [.int (4 : Int32), .ref (b 20)]) hC (m_X7_fact l g b z57 v2_1 (3 : Int32) r15 e15) (kv_of hB bw_21_23 bw_21_21 bw_21_22 bw_1_5 kd_X7_fact bw_21_20 rfl rfl ⟨Nat.le_of_ble_eq_true rfl, Nat.le_of_ble_eq_true rfl⟩) hK hP hP hS (mW_0 g b z57) rfl rfl hl.1 rfl (Nat.le_of_ble_eq_true rfl) dX7_ofChains_92 ⟨Nat.zero_le _, Nat.zero_le _⟩ (fun H locs hP hS => ?_)
                              refine lv_imul hx hb dX7_ofChains_95 ?_
                              refine lv_aload_n hx hb dX7_ofChains_96 rfl (lv_at hl 0 rfl) ?_
                              refine mg_7 hx hb hB hown hK hP dX7_ofChains_97 ?_
                              refine lv_iload_n hx hb dX7_ofChains_100 rfl (lv_at hl 3 rfl) ?_
                              obtain ⟨r16, e16, hs⟩ := Option.bind_eq_some_iff.mp hs
                              refine ml_7 hx hb hK hP e16 dX7_ofChains_101 ?_
                              refine lv_iadd hx hb dX7_ofChains_102 ?_
                              obtain ⟨r17, e17, hs⟩ := Option.bind_eq_some_iff.mp hs
                              refine ml_26 hx hb hK hP e17 dX7_ofChains_103 ?_
                              refine lv_if_eq (tgt := 157) hx hb dX7_ofChains_104 (by decide) (fun c18 => ?_) (fun c18 => ?_)
                              · have hs := ifp c18 hs
                                refine lv_iinc (v := (v57_3 + 1)) (lv' := [(3, .int (v57_3 + 1)), (0, .ref (b 0)), (1, .int v2_1), (2, .int v12_2)]) hx hb dX7_ofChains_157 hl (k := 3) rfl (by rfl) (by decide) rfl (fun ls hl => ?_)
                                refine lv_goto (tgt := 57) hx hb dX7_ofChains_160 (by decide) ?_
                                cases hs
                                exact ih57 (v57_3 + 1) z57 hk57 _ _ hP hS _ (lv_sub hl [1, 2, 3, 0] rfl)
                              · have hs := ifn c18 hs
                                refine lv_aload_n hx hb dX7_ofChains_107 rfl (lv_at hl 0 rfl) ?_
                                refine mg_26 hx hb hB hown hK hP dX7_ofChains_108 ?_
                                refine lv_iconst (v := 4) hx hb dX7_ofChains_111 (by decide) ?_
                                refine lv_aload_n hx hb dX7_ofChains_112 rfl (lv_at hl 0 rfl) ?_
                                refine lv_iload_n hx hb dX7_ofChains_113 rfl (lv_at hl 2 rfl) ?_
                                refine lv_iconst (v := 3) hx hb dX7_ofChains_114 (by decide) ?_
                                obtain ⟨r19, e19, hs⟩ := Option.bind_eq_some_iff.mp hs
                                refine cV_roi (As := [.int v12_2, .int (3 : Int32)]) (rest := [.int (4 : Int32), .ref (b 20)]) hC (m_X7_fact l g b z57 v12_2 (3 : Int32) r19 e19) (kv_of hB bw_21_23 bw_21_21 bw_21_22 bw_1_5 kd_X7_fact bw_21_20 rfl rfl ⟨Nat.le_of_ble_eq_true rfl, Nat.le_of_ble_eq_true rfl⟩) hK hP hP hS (mW_0 g b z57) rfl rfl hl.1 rfl (Nat.le_of_ble_eq_true rfl) dX7_ofChains_115 ⟨Nat.zero_le _, Nat.zero_le _⟩ (fun H locs hP hS => ?_)
                                refine lv_imul hx hb dX7_ofChains_118 ?_
                                refine lv_aload_n hx hb dX7_ofChains_119 rfl (lv_at hl 0 rfl) ?_
                                refine mg_8 hx hb hB hown hK hP dX7_ofChains_120 ?_
                                refine lv_iload_n hx hb dX7_ofChains_123 rfl (lv_at hl 3 rfl) ?_
                                obtain ⟨r20, e20, hs⟩ := Option.bind_eq_some_iff.mp hs
                                refine ml_8 hx hb hK hP e20 dX7_ofChains_124 ?_
                                refine lv_iadd hx hb dX7_ofChains_125 ?_
                                obtain ⟨r21, e21, hs⟩ := Option.bind_eq_some_iff.mp hs
                                refine ml_26 hx hb hK hP e21 dX7_ofChains_126 ?_
                                refine lv_if_eq (tgt := 157) hx hb dX7_ofChains_127 (by decide) (fun c22 => ?_) (fun c22 => ?_)
                                · have hs := ifp c22 hs
                                  refine lv_iinc (v := (v57_3 + 1)) (lv' := [(3, .int (v57_3 + 1)), (0, .ref (b 0)), (1, .int v2_1), (2, .int v12_2)]) hx hb dX7_ofChains_157 hl (k := 3) rfl (by rfl) (by decide) rfl (fun ls hl => ?_)
                                  refine lv_goto (tgt := 57) hx hb dX7_ofChains_160 (by decide) ?_
                                  cases hs
                                  exact ih57 (v57_3 + 1) z57 hk57 _ _ hP hS _ (lv_sub hl [1, 2, 3, 0] rfl)
                                · have hs := ifn c22 hs
                                  refine lv_aload_n hx hb dX7_ofChains_130 rfl (lv_at hl 0 rfl) ?_
                                  refine lv_aload_n hx hb dX7_ofChains_131 rfl (lv_at hl 0 rfl) ?_
                                  refine lv_iload_n hx hb dX7_ofChains_132 rfl (lv_at hl 1 rfl) ?_
                                  refine lv_iconst (v := 1) hx hb dX7_ofChains_133 (by decide) ?_
                                  obtain ⟨r23, e23, hs⟩ := Option.bind_eq_some_iff.mp hs
                                  refine cV_roi (As := [.int v2_1, .int (1 : Int32)]) (rest := [.ref (b 0)]) hC (m_X7_fact l g b z57 v2_1 (1 : Int32) r23 e23) (kv_of hB bw_21_23 bw_21_21 bw_21_22 bw_1_5 kd_X7_fact bw_21_20 rfl rfl ⟨Nat.le_of_ble_eq_true rfl, Nat.le_of_ble_eq_true rfl⟩) hK hP hP hS (mW_0 g b z57) rfl rfl hl.1 rfl (Nat.le_of_ble_eq_true rfl) dX7_ofChains_134 ⟨Nat.zero_le _, Nat.zero_le _⟩ (fun H locs hP hS => ?_)
                                  refine lv_aload_n hx hb dX7_ofChains_137 rfl (lv_at hl 0 rfl) ?_
                                  refine mg_9 hx hb hB hown hK hP dX7_ofChains_138 ?_
                                  refine lv_iload_n hx hb dX7_ofChains_141 rfl (lv_at hl 3 rfl) ?_
                                  obtain ⟨r24, e24, hs⟩ := Option.bind_eq_some_iff.mp hs
                                  refine ml_9 hx hb hK hP e24 dX7_ofChains_142 ?_
                                  refine lv_aload_n hx hb dX7_ofChains_143 rfl (lv_at hl 0 rfl) ?_
                                  refine lv_iload_n hx hb dX7_ofChains_144 rfl (lv_at hl 2 rfl) ?_
                                  refine lv_iconst (v := 2) hx hb dX7_ofChains_145 (by decide) ?_
                                  obtain ⟨r25, e25, hs⟩ := Option.bind_eq_some_iff.mp hs
                                  refine cV_roi (As := [.int v12_2, .int (2 : Int32)]) (rest := [.int r24, .int r23, .ref (b 0)]) hC (m_X7_fact l g b z57 v12_2 (2 : Int32) r25 e25) (kv_of hB bw_21_23 bw_21_21 bw_21_22 bw_1_5 kd_X7_fact bw_21_20 rfl rfl ⟨Nat.le_of_ble_eq_true rfl, Nat.le_of_ble_eq_true rfl⟩) hK hP hP hS (mW_0 g b z57) rfl rfl hl.1 rfl (Nat.le_of_ble_eq_true rfl) dX7_ofChains_146 ⟨Nat.zero_le _, Nat.zero_le _⟩ (fun H locs hP hS => ?_)
                                  refine lv_bipush (v := 8) hx hb dX7_ofChains_149 (by decide) ?_
                                  refine lv_iload_n hx hb dX7_ofChains_151 rfl (lv_at hl 1 rfl) ?_
                                  refine lv_iload_n hx hb dX7_ofChains_152 rfl (lv_at hl 2 rfl) ?_
                                  refine lv_iload_n hx hb dX7_ofChains_153 rfl (lv_at hl 3 rfl) ?_
                                  obtain ⟨r26, e26, hs⟩ := Option.bind_eq_some_iff.mp hs
                                  refine cV_rwv (As := [.int r23, .int r24, .int r25, .int (8 : Int32), .int v2_1, .int v12_2, .int v57_3]) (rest := []) hC (m_X7_findTo l g b z57 H.size r23 r24 r25 (8 : Int32) v2_1 v12_2 v57_3 r26 e26) (kv_of hB bw_22_19 bw_22_17 bw_22_18 bw_1_5 kd_X7_findTo bw_22_16 rfl rfl ⟨Nat.le_of_ble_eq_true rfl, Nat.le_of_ble_eq_true rfl⟩) hK hP (hD _) hA hS (mW_0 g b z57) rfl rfl hl.1 rfl (Nat.le_of_ble_eq_true rfl) dX7_ofChains_154 ⟨Nat.zero_le _, Nat.zero_le _⟩ (fun H locs hP hS => ?_)
                                  refine lv_iinc (v := (v57_3 + 1)) (lv' := [(3, .int (v57_3 + 1)), (0, .ref (b 0)), (1, .int v2_1), (2, .int v12_2)]) hx hb dX7_ofChains_157 hl (k := 3) rfl (by rfl) (by decide) rfl (fun ls hl => ?_)
                                  refine lv_goto (tgt := 57) hx hb dX7_ofChains_160 (by decide) ?_
                                  cases hs
                                  exact ih57 (v57_3 + 1) r26 hk57 _ _ hP hS _ (lv_sub hl [1, 2, 3, 0] rfl)
                    exact L57 n57 (0 : Int32) z12 hs _ _ hP hS _ (lv_sub hl [1, 2, 3, 0] rfl)
        exact L12 n12 (0 : Int32) z2 hs _ _ hP hS _ (lv_sub hl [1, 2, 0] rfl)
  exact L2 n2 (0 : Int32) st hs _ _ hP hS _ (lv_sub hl [1, 0] rfl)
noncomputable def f_X7_lay (st : MS) (p1 : Int32) (p2 : Int32) (p3 : Int32) (p4 : Int32) (p5 : Int32) (p6 : Int32) (p7 : Int32) (p8 : Int32) : Option MS :=
  (Option.bind (mwr st 15 36000 ((9 : Int32) * (st 27 0)) p1) (fun r1 => (Option.bind (mwr r1 15 36000 (((9 : Int32) * (st 27 0)) + (1 : Int32)) p2) (fun r2 => (Option.bind (mwr r2 15 36000 (((9 : Int32) * (st 27 0)) + (2 : Int32)) p3) (fun r3 => (Option.bind (mwr r3 15 36000 (((9 : Int32) * (st 27 0)) + (3 : Int32)) p4) (fun r4 => (Option.bind (mwr r4 15 36000 (((9 : Int32) * (st 27 0)) + (4 : Int32)) (r4 14 0)) (fun r5 => (Option.bind (mwr r5 15 36000 (((9 : Int32) * (st 27 0)) + (5 : Int32)) p5) (fun r6 => (Option.bind (mwr r6 15 36000 (((9 : Int32) * (st 27 0)) + (6 : Int32)) p6) (fun r7 => (Option.bind (mwr r7 15 36000 (((9 : Int32) * (st 27 0)) + (7 : Int32)) p7) (fun r8 => (Option.bind (mwr r8 15 36000 (((9 : Int32) * (st 27 0)) + (8 : Int32)) p8) (fun r9 => (Option.bind (some (mA r9 27 (fun _ => ((r9 27 0) + (1 : Int32))))) (fun r10 => some (r10)))))))))))))))))))))
set_option maxHeartbeats 4000000 in
set_option maxRecDepth 100000 in
theorem m_X7_lay (l : Launch) (g : GG) (b : Nat → Nat) (st : MS) (sz : Nat) (p1 : Int32) (p2 : Int32) (p3 : Int32) (p4 : Int32) (p5 : Int32) (p6 : Int32) (p7 : Int32) (p8 : Int32) (res : MS) (hs : f_X7_lay st p1 p2 p3 p4 p5 p6 p7 p8 = some res) : Met l yX7_lay (Cond.code yX7_lay cX7_lay 10 none :: BIG) ({ frames := 0, cells := 0, slots := 0, locals := 0 } : Room) (va_Pc [.ref (b 0), .int p1, .int p2, .int p3, .int p4, .int p5, .int p6, .int p7, .int p8] (RWp g (mW g b st) sz)) (RWv g (mW g b res) (va_A (mW g b st) sz)) 0 0 (va_A (mW g b st) sz) := by
  refine rw_start (cc := cX7_lay) (maxL := 10) (ret := none) (lv := [(0, .ref (b 0)), (1, .int p1), (2, .int p2), (3, .int p3), (4, .int p4), (5, .int p5), (6, .int p6), (7, .int p7), (8, .int p8)]) (Qc := fun A => (RWv g (mW g b res) A)) (by decide) rfl (Nat.le_of_ble_eq_true rfl) rfl ?_
  intro p e s m args below meth c hx hb hml hr hts hown hlk hK A hD0 hA H locs hP hS ls hl
  have hD : ∀ st' : MS, va_D A (mW g b st') := fun _ => mW_D hD0
  have hB : ∀ w ∈ BIG, w.before args s = true := fun w h => hts w (List.mem_cons_of_mem _ h)
  have hC : CallFix p m c cX7_lay 10 s args BIG RX7 := ⟨hx, hb, hml, hown, hB⟩
  unfold f_X7_lay at hs
  refine lv_bipush (v := 9) hx hb dX7_lay_0 (by decide) ?_
  refine lv_aload_n hx hb dX7_lay_2 rfl (lv_at hl 0 rfl) ?_
  refine mg_27 hx hb hB hown hK hP dX7_lay_3 ?_
  refine lv_imul hx hb dX7_lay_6 ?_
  refine lv_istore (lv' := [(9, .int ((9 : Int32) * (st 27 0))), (0, .ref (b 0)), (1, .int p1), (2, .int p2), (3, .int p3), (4, .int p4), (5, .int p5), (6, .int p6), (7, .int p7), (8, .int p8)]) hx hb dX7_lay_7 hl (by decide) rfl (fun ls hl => ?_)
  refine lv_aload_n hx hb dX7_lay_9 rfl (lv_at hl 1 rfl) ?_
  refine mg_15 hx hb hB hown hK hP dX7_lay_10 ?_
  refine lv_iload hx hb dX7_lay_13 (lv_at hl 0 rfl) ?_
  refine lv_iload_n hx hb dX7_lay_15 rfl (lv_at hl 2 rfl) ?_
  obtain ⟨r1, e1, hs⟩ := Option.bind_eq_some_iff.mp hs
  refine ms_15 hx hb hK hP hD hS e1 dX7_lay_16 (fun H locs hP hS => ?_)
  refine lv_aload_n hx hb dX7_lay_17 rfl (lv_at hl 1 rfl) ?_
  refine mg_15 hx hb hB hown hK hP dX7_lay_18 ?_
  refine lv_iload hx hb dX7_lay_21 (lv_at hl 0 rfl) ?_
  refine lv_iconst (v := 1) hx hb dX7_lay_23 (by decide) ?_
  refine lv_iadd hx hb dX7_lay_24 ?_
  refine lv_iload_n hx hb dX7_lay_25 rfl (lv_at hl 3 rfl) ?_
  obtain ⟨r2, e2, hs⟩ := Option.bind_eq_some_iff.mp hs
  refine ms_15 hx hb hK hP hD hS e2 dX7_lay_26 (fun H locs hP hS => ?_)
  refine lv_aload_n hx hb dX7_lay_27 rfl (lv_at hl 1 rfl) ?_
  refine mg_15 hx hb hB hown hK hP dX7_lay_28 ?_
  refine lv_iload hx hb dX7_lay_31 (lv_at hl 0 rfl) ?_
  refine lv_iconst (v := 2) hx hb dX7_lay_33 (by decide) ?_
  refine lv_iadd hx hb dX7_lay_34 ?_
  refine lv_iload_n hx hb dX7_lay_35 rfl (lv_at hl 4 rfl) ?_
  obtain ⟨r3, e3, hs⟩ := Option.bind_eq_some_iff.mp hs
  refine ms_15 hx hb hK hP hD hS e3 dX7_lay_36 (fun H locs hP hS => ?_)
  refine lv_aload_n hx hb dX7_lay_37 rfl (lv_at hl 1 rfl) ?_
  refine mg_15 hx hb hB hown hK hP dX7_lay_38 ?_
  refine lv_iload hx hb dX7_lay_41 (lv_at hl 0 rfl) ?_
  refine lv_iconst (v := 3) hx hb dX7_lay_43 (by decide) ?_
  refine lv_iadd hx hb dX7_lay_44 ?_
  refine lv_iload hx hb dX7_lay_45 (lv_at hl 5 rfl) ?_
  obtain ⟨r4, e4, hs⟩ := Option.bind_eq_some_iff.mp hs
  refine ms_15 hx hb hK hP hD hS e4 dX7_lay_47 (fun H locs hP hS => ?_)
  refine lv_aload_n hx hb dX7_lay_48 rfl (lv_at hl 1 rfl) ?_
  refine mg_15 hx hb hB hown hK hP dX7_lay_49 ?_
  refine lv_iload hx hb dX7_lay_52 (lv_at hl 0 rfl) ?_
  refine lv_iconst (v := 4) hx hb dX7_lay_54 (by decide) ?_
  refine lv_iadd hx hb dX7_lay_55 ?_
  refine lv_aload_n hx hb dX7_lay_56 rfl (lv_at hl 1 rfl) ?_
  refine mg_14 hx hb hB hown hK hP dX7_lay_57 ?_
  obtain ⟨r5, e5, hs⟩ := Option.bind_eq_some_iff.mp hs
  refine ms_15 hx hb hK hP hD hS e5 dX7_lay_60 (fun H locs hP hS => ?_)
  refine lv_aload_n hx hb dX7_lay_61 rfl (lv_at hl 1 rfl) ?_
  refine mg_15 hx hb hB hown hK hP dX7_lay_62 ?_
  refine lv_iload hx hb dX7_lay_65 (lv_at hl 0 rfl) ?_
  refine lv_iconst (v := 5) hx hb dX7_lay_67 (by decide) ?_
  refine lv_iadd hx hb dX7_lay_68 ?_
  refine lv_iload hx hb dX7_lay_69 (lv_at hl 6 rfl) ?_
  obtain ⟨r6, e6, hs⟩ := Option.bind_eq_some_iff.mp hs
  refine ms_15 hx hb hK hP hD hS e6 dX7_lay_71 (fun H locs hP hS => ?_)
  refine lv_aload_n hx hb dX7_lay_72 rfl (lv_at hl 1 rfl) ?_
  refine mg_15 hx hb hB hown hK hP dX7_lay_73 ?_
  refine lv_iload hx hb dX7_lay_76 (lv_at hl 0 rfl) ?_
  refine lv_bipush (v := 6) hx hb dX7_lay_78 (by decide) ?_
  refine lv_iadd hx hb dX7_lay_80 ?_
  refine lv_iload hx hb dX7_lay_81 (lv_at hl 7 rfl) ?_
  obtain ⟨r7, e7, hs⟩ := Option.bind_eq_some_iff.mp hs
  refine ms_15 hx hb hK hP hD hS e7 dX7_lay_83 (fun H locs hP hS => ?_)
  refine lv_aload_n hx hb dX7_lay_84 rfl (lv_at hl 1 rfl) ?_
  refine mg_15 hx hb hB hown hK hP dX7_lay_85 ?_
  refine lv_iload hx hb dX7_lay_88 (lv_at hl 0 rfl) ?_
  refine lv_bipush (v := 7) hx hb dX7_lay_90 (by decide) ?_
  refine lv_iadd hx hb dX7_lay_92 ?_
  refine lv_iload hx hb dX7_lay_93 (lv_at hl 8 rfl) ?_
  obtain ⟨r8, e8, hs⟩ := Option.bind_eq_some_iff.mp hs
  refine ms_15 hx hb hK hP hD hS e8 dX7_lay_95 (fun H locs hP hS => ?_)
  refine lv_aload_n hx hb dX7_lay_96 rfl (lv_at hl 1 rfl) ?_
  refine mg_15 hx hb hB hown hK hP dX7_lay_97 ?_
  refine lv_iload hx hb dX7_lay_100 (lv_at hl 0 rfl) ?_
  refine lv_bipush (v := 8) hx hb dX7_lay_102 (by decide) ?_
  refine lv_iadd hx hb dX7_lay_104 ?_
  refine lv_iload hx hb dX7_lay_105 (lv_at hl 9 rfl) ?_
  obtain ⟨r9, e9, hs⟩ := Option.bind_eq_some_iff.mp hs
  refine ms_15 hx hb hK hP hD hS e9 dX7_lay_107 (fun H locs hP hS => ?_)
  refine lv_aload_n hx hb dX7_lay_108 rfl (lv_at hl 1 rfl) ?_
  refine lv_dup hx hb dX7_lay_109 rfl ?_
  refine mg_27 hx hb hB hown hK hP dX7_lay_110 ?_
  refine lv_iconst (v := 1) hx hb dX7_lay_113 (by decide) ?_
  refine lv_iadd hx hb dX7_lay_114 ?_
  obtain ⟨r10, e10, hs⟩ := Option.bind_eq_some_iff.mp hs
  have e10 := Option.some.inj e10
  refine mp_27 hx hb hB hown hK hP hD hS e10 dX7_lay_115 (fun H locs hP hS => ?_)
  cases hs
  exact ret_rwv hx hb hr hlk hP hS dX7_lay_118
