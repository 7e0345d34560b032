noncomputable def b_X7_makeHouse_344 (st : MS) (c344_1 : Int32) (c344_2 : Int32) (v344_3 : Int32) (v344_4 : Int32) : Option ((Int32 × Int32) ⊕ ((Int32 × MS) ⊕ ((Int32 × MS) ⊕ MS))) :=
  (if (st 0 0) ≤ v344_4 then (if v344_3 = 0 then (Option.bind (mwr st 31 784 (((28 : Int32) * c344_2) + c344_1) (0 : Int32)) (fun r17 => some (Sum.inr (Sum.inl ((c344_2 + 1), r17))))) else (Option.bind (rd 28 (st 29) c344_2) (fun r18 => (if r18 = 0 then (Option.bind (mwr st 31 784 (((28 : Int32) * c344_2) + c344_1) (0 : Int32)) (fun r20 => some (Sum.inr (Sum.inl ((c344_2 + 1), r20))))) else (Option.bind (mwr st 31 784 (((28 : Int32) * c344_2) + c344_1) (1 : Int32)) (fun r21 => some (Sum.inr (Sum.inl ((c344_2 + 1), r21))))))))) else (if v344_3 = 0 then (Option.bind (rd 28 (st 3) c344_1) (fun r23 => (Option.bind (rd 3136 (st 30) ((((112 : Int32) * c344_2) + ((28 : Int32) * r23)) + v344_4)) (fun r24 => (if r24 = 0 then some (Sum.inl ((0 : Int32), (v344_4 + 1))) else (Option.bind (rd 28 (st 4) c344_1) (fun r26 => (Option.bind (rd 784 (st 31) (((28 : Int32) * v344_4) + r26)) (fun r27 => (if r27 = 0 then some (Sum.inl ((0 : Int32), (v344_4 + 1))) else some (Sum.inl ((1 : Int32), (v344_4 + 1))))))))))))) else some (Sum.inl ((1 : Int32), (v344_4 + 1)))))
noncomputable def b_X7_makeHouse_216 (c216_1 : Int32) (v216_2 : Int32) (z216 : MS) : Option ((Int32 × MS) ⊕ ((Int32 × MS) ⊕ MS)) :=
  (if (z216 0 0) ≤ v216_2 then some (Sum.inr (Sum.inl ((c216_1 + 1), z216))) else (Option.bind (rd 28 (z216 2) c216_1) (fun r5 => (if r5 = 0 then (Option.bind (rd 28 (z216 29) v216_2) (fun r54 => (if r54 = 0 then (Option.bind (mwr z216 31 784 (((28 : Int32) * v216_2) + c216_1) (0 : Int32)) (fun r56 => some (Sum.inl ((v216_2 + 1), r56)))) else (Option.bind (mwr z216 31 784 (((28 : Int32) * v216_2) + c216_1) (1 : Int32)) (fun r57 => some (Sum.inl ((v216_2 + 1), r57))))))) else (Option.bind (rd 28 (z216 2) c216_1) (fun r7 => (if r7 = (2 : Int32) then (Option.bind (rd 784 (z216 16) (((28 : Int32) * v216_2) + c216_1)) (fun r44 => (if r44 = (-1 : Int32) then (Option.bind (mwr z216 31 784 (((28 : Int32) * v216_2) + c216_1) (0 : Int32)) (fun r47 => some (Sum.inl ((v216_2 + 1), r47)))) else (Option.bind (rd 28 (z216 29) v216_2) (fun r49 => (if r49 = 0 then (Option.bind (mwr z216 31 784 (((28 : Int32) * v216_2) + c216_1) (0 : Int32)) (fun r51 => some (Sum.inl ((v216_2 + 1), r51)))) else (Option.bind (mwr z216 31 784 (((28 : Int32) * v216_2) + c216_1) (1 : Int32)) (fun r52 => some (Sum.inl ((v216_2 + 1), r52)))))))))) else (Option.bind (rd 28 (z216 2) c216_1) (fun r9 => (if r9 = (3 : Int32) then (Option.bind (rd 28 (z216 3) c216_1) (fun r29 => (Option.bind (rd 784 (z216 31) (((28 : Int32) * v216_2) + r29)) (fun r30 => (if r30 = 0 then (Option.bind (mwr z216 31 784 (((28 : Int32) * v216_2) + c216_1) (0 : Int32)) (fun r33 => some (Sum.inl ((v216_2 + 1), r33)))) else (Option.bind (rd 28 (z216 4) c216_1) (fun r34 => (Option.bind (rd 784 (z216 31) (((28 : Int32) * v216_2) + r34)) (fun r35 => (if r35 = 0 then (Option.bind (mwr z216 31 784 (((28 : Int32) * v216_2) + c216_1) (0 : Int32)) (fun r38 => some (Sum.inl ((v216_2 + 1), r38)))) else (Option.bind (rd 28 (z216 29) v216_2) (fun r40 => (if r40 = 0 then (Option.bind (mwr z216 31 784 (((28 : Int32) * v216_2) + c216_1) (0 : Int32)) (fun r42 => some (Sum.inl ((v216_2 + 1), r42)))) else (Option.bind (mwr z216 31 784 (((28 : Int32) * v216_2) + c216_1) (1 : Int32)) (fun r43 => some (Sum.inl ((v216_2 + 1), r43))))))))))))))))) else (Option.bind (rd 28 (z216 2) c216_1) (fun r11 => (if r11 = (4 : Int32) then (loopC (fun v => b_X7_makeHouse_344 z216 c216_1 v216_2 v.1 v.2) ((0 : Int32), (0 : Int32))) else (Option.bind (mwr z216 31 784 (((28 : Int32) * v216_2) + c216_1) (0 : Int32)) (fun r14 => some (Sum.inl ((v216_2 + 1), r14)))))))))))))))))
noncomputable def b_X7_makeHouse_206 (v206_1 : Int32) (z206 : MS) : Option ((Int32 × MS) ⊕ MS) :=
  (if (z206 0 0) ≤ v206_1 then some (Sum.inr (z206)) else (loopC (fun v => b_X7_makeHouse_216 v206_1 v.1 v.2) ((0 : Int32), z206)))
noncomputable def b_X7_makeHouse_83 (st : MS) (c83_1 : Int32) (c83_2 : Int32) (c83_3 : Int32) (v83_4 : Int32) (v83_5 : Int32) : Option ((Int32 × Int32) ⊕ ((Int32 × MS) ⊕ ((Int32 × MS) ⊕ ((Int32 × MS) ⊕ MS)))) :=
  (if (4 : Int32) ≤ v83_5 then (if v83_4 = 0 then (Option.bind (mwr st 30 3136 ((((112 : Int32) * c83_1) + ((28 : Int32) * c83_2)) + c83_3) (0 : Int32)) (fun r62 => some (Sum.inr (Sum.inl ((c83_3 + 1), r62))))) else (Option.bind (rd 28 (st 29) c83_1) (fun r63 => (if r63 = 0 then (Option.bind (mwr st 30 3136 ((((112 : Int32) * c83_1) + ((28 : Int32) * c83_2)) + c83_3) (0 : Int32)) (fun r65 => some (Sum.inr (Sum.inl ((c83_3 + 1), r65))))) else (Option.bind (rd 28 (st 29) c83_3) (fun r66 => (if r66 = 0 then (Option.bind (mwr st 30 3136 ((((112 : Int32) * c83_1) + ((28 : Int32) * c83_2)) + c83_3) (0 : Int32)) (fun r68 => some (Sum.inr (Sum.inl ((c83_3 + 1), r68))))) else (Option.bind (mwr st 30 3136 ((((112 : Int32) * c83_1) + ((28 : Int32) * c83_2)) + c83_3) (1 : Int32)) (fun r69 => some (Sum.inr (Sum.inl ((c83_3 + 1), r69)))))))))))) else (if v83_4 = 0 then (Option.bind (rd 16 (st 26) (((4 : Int32) * v83_5) + c83_2)) (fun r71 => (if r71 = 0 then some (Sum.inl ((0 : Int32), (v83_5 + 1))) else (Option.bind (rd 3136 (st 17) ((((112 : Int32) * c83_1) + ((28 : Int32) * v83_5)) + c83_3)) (fun r73 => (if r73 = (-1 : Int32) then some (Sum.inl ((0 : Int32), (v83_5 + 1))) else some (Sum.inl ((1 : Int32), (v83_5 + 1))))))))) else some (Sum.inl ((1 : Int32), (v83_5 + 1)))))
noncomputable def b_X7_makeHouse_69 (c69_1 : Int32) (c69_2 : Int32) (v69_3 : Int32) (z69 : MS) : Option ((Int32 × MS) ⊕ ((Int32 × MS) ⊕ ((Int32 × MS) ⊕ MS))) :=
  (if (z69 0 0) ≤ v69_3 then some (Sum.inr (Sum.inl ((c69_2 + 1), z69))) else (loopC (fun v => b_X7_makeHouse_83 z69 c69_1 c69_2 v69_3 v.1 v.2) ((0 : Int32), (0 : Int32))))
noncomputable def b_X7_makeHouse_62 (c62_1 : Int32) (v62_2 : Int32) (z62 : MS) : Option ((Int32 × MS) ⊕ ((Int32 × MS) ⊕ MS)) :=
  (if (4 : Int32) ≤ v62_2 then some (Sum.inr (Sum.inl ((c62_1 + 1), z62))) else (loopC (fun v => b_X7_makeHouse_69 c62_1 v62_2 v.1 v.2) ((0 : Int32), z62)))
noncomputable def b_X7_makeHouse_52 (v52_1 : Int32) (z52 : MS) : Option ((Int32 × MS) ⊕ MS) :=
  (if (z52 0 0) ≤ v52_1 then (Option.map (fun z => Sum.inr (z)) (loopC (fun v => b_X7_makeHouse_206 v.1 v.2) ((0 : Int32), z52))) else (loopC (fun v => b_X7_makeHouse_62 v52_1 v.1 v.2) ((0 : Int32), z52)))
noncomputable def b_X7_makeHouse_2 (v2_1 : Int32) (z2 : MS) : Option ((Int32 × MS) ⊕ MS) :=
  (if (z2 0 0) ≤ v2_1 then (Option.map (fun z => Sum.inr (z)) (loopC (fun v => b_X7_makeHouse_52 v.1 v.2) ((0 : Int32), z2))) else (Option.bind (f_X7_isBegun z2 v2_1) (fun r75 => (if r75 = 0 then (Option.bind (mwr z2 29 28 v2_1 (0 : Int32)) (fun r77 => some (Sum.inl ((v2_1 + 1), r77)))) else (Option.bind (rd 784 (z2 16) (((28 : Int32) * v2_1) + (1 : Int32))) (fun r78 => (if r78 = (-1 : Int32) then (Option.bind (mwr z2 29 28 v2_1 (1 : Int32)) (fun r81 => some (Sum.inl ((v2_1 + 1), r81)))) else (Option.bind (mwr z2 29 28 v2_1 (0 : Int32)) (fun r80 => some (Sum.inl ((v2_1 + 1), r80)))))))))))
noncomputable def f_X7_makeHouse (st : MS) : Option MS :=
  (loopC (fun v => b_X7_makeHouse_2 v.1 v.2) ((0 : Int32), st))
set_option maxHeartbeats 4000000 in
set_option maxRecDepth 100000 in
theorem m_X7_makeHouse (l : Launch) (g : GG) (b : Nat → Nat) (st : MS) (sz : Nat)  (res : MS) (hs : f_X7_makeHouse st = some res) : Met l yX7_makeHouse (Cond.code yX7_makeHouse cX7_makeHouse 6 none :: BIG) ({ frames := 3, cells := 0, slots := 0, locals := 65 } : Room) (va_Pc [.ref (b 0)] (RWp g (mW g b st) sz)) (RWv g (mW g b res) (va_A (mW g b st) sz)) 0 0 (va_A (mW g b st) sz) := by
  refine rw_start (cc := cX7_makeHouse) (maxL := 6) (ret := none) (lv := [(0, .ref (b 0))]) (Qc := fun A => (RWv g (mW g b res) A)) (by decide) rfl (Nat.le_of_ble_eq_true rfl) rfl ?_
  intro p e s m args below meth c hx hb hml hr hts hown hlk hK A hD0 hA H locs hP hS ls hl
  have hD : ∀ st' : MS, va_D A (mW g b st') := fun _ => mW_D hD0
  have hB : ∀ w ∈ BIG, w.before args s = true := fun w h => hts w (List.mem_cons_of_mem _ h)
  have hC : CallFix p m c cX7_makeHouse 6 s args BIG RX7 := ⟨hx, hb, hml, hown, hB⟩
  unfold f_X7_makeHouse at hs
  refine lv_iconst (v := 0) hx hb dX7_makeHouse_0 (by decide) ?_
  refine lv_istore_n (lv' := [(1, .int (0 : Int32)), (0, .ref (b 0))]) hx hb dX7_makeHouse_1 rfl hl (by decide) rfl (fun ls hl => ?_)
  obtain ⟨n2, hs⟩ := loopC_iter hs
  have L2 : ∀ (n : Nat) (v2_1 : Int32) (z2 : MS), iterO (fun v => b_X7_makeHouse_2 v.1 v.2) n (v2_1, z2) = some res → ∀ (H : Heap) (locs : List Loc), va_P g.1 vwCl (mW g b z2) H → va_S A s.heap H locs → ∀ ls : Array Slot, lv_has ls 6 [(0, .ref (b 0)), (1, .int v2_1)] → W p l e ({ frames := 3, cells := 0, slots := 0, locals := 65 } : Room) s m args below meth c H locs 0 0 (MQ below (RWv g (mW g b res) A) args s 0 0 A) (F0 m 2 ls []) := by
    intro n
    induction n with
    | zero => intro v2_1 z2 hs; exact (iterO_zero hs).elim
    | succ n ih2 =>
      intro v2_1 z2 hs H locs hP hS ls hl
      obtain ⟨y2, hs, hk2⟩ := iterO_succ hs
      have hs : b_X7_makeHouse_2 v2_1 z2 = some y2 := hs
      unfold b_X7_makeHouse_2 at hs
      refine lv_iload_n hx hb dX7_makeHouse_2 rfl (lv_at hl 1 rfl) ?_
      refine lv_aload_n hx hb dX7_makeHouse_3 rfl (lv_at hl 0 rfl) ?_
      refine mg_0 hx hb hB hown hK hP dX7_makeHouse_4 ?_
      refine lv_icmp_ge (tgt := 50) hx hb dX7_makeHouse_7 (by decide) (fun c1 => ?_) (fun c1 => ?_)
      · have hs := ifp c1 hs
        refine lv_iconst (v := 0) hx hb dX7_makeHouse_50 (by decide) ?_
        refine lv_istore_n (lv' := [(1, .int (0 : Int32)), (0, .ref (b 0))]) hx hb dX7_makeHouse_51 rfl hl (by decide) rfl (fun ls hl => ?_)
        obtain ⟨w52, hm52, hw52⟩ := Option.map_eq_some_iff.mp hs
        clear hs
        cases hw52
        cases elim_inr hk2
        have hs := hm52
        obtain ⟨n52, hs⟩ := loopC_iter hs
        have L52 : ∀ (n : Nat) (v52_1 : Int32) (z52 : MS), iterO (fun v => b_X7_makeHouse_52 v.1 v.2) n (v52_1, z52) = some res → ∀ (H : Heap) (locs : List Loc), va_P g.1 vwCl (mW g b z52) H → va_S A s.heap H locs → ∀ ls : Array Slot, lv_has ls 6 [(0, .ref (b 0)), (1, .int v52_1)] → W p l e ({ frames := 3, cells := 0, slots := 0, locals := 65 } : Room) s m args below meth c H locs 0 0 (MQ below (RWv g (mW g b res) A) args s 0 0 A) (F0 m 52 ls []) := by
          intro n
          induction n with
          | zero => intro v52_1 z52 hs; exact (iterO_zero hs).elim
          | succ n ih52 =>
            intro v52_1 z52 hs H locs hP hS ls hl
            obtain ⟨y52, hs, hk52⟩ := iterO_succ hs
            have hs : b_X7_makeHouse_52 v52_1 z52 = some y52 := hs
            unfold b_X7_makeHouse_52 at hs
            refine lv_iload_n hx hb dX7_makeHouse_52 rfl (lv_at hl 1 rfl) ?_
            refine lv_aload_n hx hb dX7_makeHouse_53 rfl (lv_at hl 0 rfl) ?_
            refine mg_0 hx hb hB hown hK hP dX7_makeHouse_54 ?_
            refine lv_icmp_ge (tgt := 204) hx hb dX7_makeHouse_57 (by decide) (fun c2 => ?_) (fun c2 => ?_)
            · have hs := ifp c2 hs
              refine lv_iconst (v := 0) hx hb dX7_makeHouse_204 (by decide) ?_
              refine lv_istore_n (lv' := [(1, .int (0 : Int32)), (0, .ref (b 0))]) hx hb dX7_makeHouse_205 rfl hl (by decide) rfl (fun ls hl => ?_)
              obtain ⟨w206, hm206, hw206⟩ := Option.map_eq_some_iff.mp hs
              clear hs
              cases hw206
              cases elim_inr hk52
              have hs := hm206
              obtain ⟨n206, hs⟩ := loopC_iter hs
              have L206 : ∀ (n : Nat) (v206_1 : Int32) (z206 : MS), iterO (fun v => b_X7_makeHouse_206 v.1 v.2) n (v206_1, z206) = some res → ∀ (H : Heap) (locs : List Loc), va_P g.1 vwCl (mW g b z206) H → va_S A s.heap H locs → ∀ ls : Array Slot, lv_has ls 6 [(0, .ref (b 0)), (1, .int v206_1)] → W p l e ({ frames := 3, cells := 0, slots := 0, locals := 65 } : Room) s m args below meth c H locs 0 0 (MQ below (RWv g (mW g b res) A) args s 0 0 A) (F0 m 206 ls []) := by
                intro n
                induction n with
                | zero => intro v206_1 z206 hs; exact (iterO_zero hs).elim
                | succ n ih206 =>
                  intro v206_1 z206 hs H locs hP hS ls hl
                  obtain ⟨y206, hs, hk206⟩ := iterO_succ hs
                  have hs : b_X7_makeHouse_206 v206_1 z206 = some y206 := hs
                  unfold b_X7_makeHouse_206 at hs
                  refine lv_iload_n hx hb dX7_makeHouse_206 rfl (lv_at hl 1 rfl) ?_
                  refine lv_aload_n hx hb dX7_makeHouse_207 rfl (lv_at hl 0 rfl) ?_
                  refine mg_0 hx hb hB hown hK hP dX7_makeHouse_208 ?_
                  refine lv_icmp_ge (tgt := 455) hx hb dX7_makeHouse_211 (by decide) (fun c3 => ?_) (fun c3 => ?_)
                  · have hs := ifp c3 hs
                    cases hs
                    cases elim_inr hk206
                    exact ret_rwv hx hb hr hlk hP hS dX7_makeHouse_455
                  · have hs := ifn c3 hs
                    refine lv_iconst (v := 0) hx hb dX7_makeHouse_214 (by decide) ?_
                    refine lv_istore_n (lv' := [(2, .int (0 : Int32)), (0, .ref (b 0)), (1, .int v206_1)]) hx hb dX7_makeHouse_215 rfl hl (by decide) rfl (fun ls hl => ?_)
                    obtain ⟨n216, hs⟩ := loopC_iter hs
                    have L216 : ∀ (n : Nat) (v216_2 : Int32) (z216 : MS), iterO (fun v => b_X7_makeHouse_216 v206_1 v.1 v.2) n (v216_2, z216) = some y206 → ∀ (H : Heap) (locs : List Loc), va_P g.1 vwCl (mW g b z216) H → va_S A s.heap H locs → ∀ ls : Array Slot, lv_has ls 6 [(0, .ref (b 0)), (1, .int v206_1), (2, .int v216_2)] → W p l e ({ frames := 3, cells := 0, slots := 0, locals := 65 } : Room) s m args below meth c H locs 0 0 (MQ below (RWv g (mW g b res) A) args s 0 0 A) (F0 m 216 ls []) := by
                      intro n
                      induction n with
                      | zero => intro v216_2 z216 hs; exact (iterO_zero hs).elim
                      | succ n ih216 =>
                        intro v216_2 z216 hs H locs hP hS ls hl
                        obtain ⟨y216, hs, hk216⟩ := iterO_succ hs
                        have hs : b_X7_makeHouse_216 v206_1 v216_2 z216 = some y216 := hs
                        unfold b_X7_makeHouse_216 at hs
                        refine lv_iload_n hx hb dX7_makeHouse_216 rfl (lv_at hl 2 rfl) ?_
                        refine lv_aload_n hx hb dX7_makeHouse_217 rfl (lv_at hl 0 rfl) ?_
                        refine mg_0 hx hb hB hown hK hP dX7_makeHouse_218 ?_
                        refine lv_icmp_ge (tgt := 449) hx hb dX7_makeHouse_221 (by decide) (fun c4 => ?_) (fun c4 => ?_)
                        · have hs := ifp c4 hs
                          refine lv_iinc (v := (v206_1 + 1)) (lv' := [(1, .int (v206_1 + 1)), (0, .ref (b 0)), (2, .int v216_2)]) hx hb dX7_makeHouse_449 hl (k := 1) rfl (by rfl) (by decide) rfl (fun ls hl => ?_)
                          refine lv_goto (tgt := 206) hx hb dX7_makeHouse_452 (by decide) ?_
                          cases hs
                          cases elim_inr hk216
                          exact ih206 (v206_1 + 1) z216 hk206 _ _ hP hS _ (lv_sub hl [1, 0] rfl)
                        · have hs := ifn c4 hs
                          refine lv_iconst (v := 0) hx hb dX7_makeHouse_224 (by decide) ?_
                          refine lv_istore_n (lv' := [(3, .int (0 : Int32)), (0, .ref (b 0)), (1, .int v206_1), (2, .int v216_2)]) hx hb dX7_makeHouse_225 rfl hl (by decide) rfl (fun ls hl => ?_)
                          refine lv_aload_n hx hb dX7_makeHouse_226 rfl (lv_at hl 1 rfl) ?_
                          refine mg_2 hx hb hB hown hK hP dX7_makeHouse_227 ?_
                          refine lv_iload_n hx hb dX7_makeHouse_230 rfl (lv_at hl 2 rfl) ?_
                          obtain ⟨r5, e5, hs⟩ := Option.bind_eq_some_iff.mp hs
                          refine ml_2 hx hb hK hP e5 dX7_makeHouse_231 ?_
                          refine lv_if_ne (tgt := 240) hx hb dX7_makeHouse_232 (by decide) (fun c6 => ?_) (fun c6 => ?_)
                          · have hs := ifn c6 hs
                            refine lv_aload_n hx hb dX7_makeHouse_240 rfl (lv_at hl 1 rfl) ?_
                            refine mg_2 hx hb hB hown hK hP dX7_makeHouse_241 ?_
                            refine lv_iload_n hx hb dX7_makeHouse_244 rfl (lv_at hl 2 rfl) ?_
                            obtain ⟨r7, e7, hs⟩ := Option.bind_eq_some_iff.mp hs
                            refine ml_2 hx hb hK hP e7 dX7_makeHouse_245 ?_
                            refine lv_iconst (v := 2) hx hb dX7_makeHouse_246 (by decide) ?_
                            refine lv_icmp_ne (tgt := 274) hx hb dX7_makeHouse_247 (by decide) (fun c8 => ?_) (fun c8 => ?_)
                            · have hs := ifn c8 hs
                              refine lv_aload_n hx hb dX7_makeHouse_274 rfl (lv_at hl 1 rfl) ?_
                              refine mg_2 hx hb hB hown hK hP dX7_makeHouse_275 ?_
                              refine lv_iload_n hx hb dX7_makeHouse_278 rfl (lv_at hl 2 rfl) ?_
                              obtain ⟨r9, e9, hs⟩ := Option.bind_eq_some_iff.mp hs
                              refine ml_2 hx hb hK hP e9 dX7_makeHouse_279 ?_
                              refine lv_iconst (v := 3) hx hb dX7_makeHouse_280 (by decide) ?_
                              refine lv_icmp_ne (tgt := 331) hx hb dX7_makeHouse_281 (by decide) (fun c10 => ?_) (fun c10 => ?_)
                              · have hs := ifn c10 hs
                                refine lv_aload_n hx hb dX7_makeHouse_331 rfl (lv_at hl 1 rfl) ?_
                                refine mg_2 hx hb hB hown hK hP dX7_makeHouse_332 ?_
                                refine lv_iload_n hx hb dX7_makeHouse_335 rfl (lv_at hl 2 rfl) ?_
                                obtain ⟨r11, e11, hs⟩ := Option.bind_eq_some_iff.mp hs
                                refine ml_2 hx hb hK hP e11 dX7_makeHouse_336 ?_
                                refine lv_iconst (v := 4) hx hb dX7_makeHouse_337 (by decide) ?_
                                refine lv_icmp_ne (tgt := 414) hx hb dX7_makeHouse_338 (by decide) (fun c12 => ?_) (fun c12 => ?_)
                                · have hs := ifn c12 hs
                                  refine lv_aload_n hx hb dX7_makeHouse_414 rfl (lv_at hl 1 rfl) ?_
                                  refine mg_31 hx hb hB hown hK hP dX7_makeHouse_415 ?_
                                  refine lv_bipush (v := 28) hx hb dX7_makeHouse_418 (by decide) ?_
                                  refine lv_iload_n hx hb dX7_makeHouse_420 rfl (lv_at hl 3 rfl) ?_
                                  refine lv_imul hx hb dX7_makeHouse_421 ?_
                                  refine lv_iload_n hx hb dX7_makeHouse_422 rfl (lv_at hl 2 rfl) ?_
                                  refine lv_iadd hx hb dX7_makeHouse_423 ?_
                                  refine lv_iload_n hx hb dX7_makeHouse_424 rfl (lv_at hl 0 rfl) ?_
                                  refine lv_if_eq (tgt := 441) hx hb dX7_makeHouse_425 (by decide) (fun _ => ?_) (fun c13 => absurd (by decide) c13)
                                  refine lv_iconst (v := 0) hx hb dX7_makeHouse_441 (by decide) ?_
                                  obtain ⟨r14, e14, hs⟩ := Option.bind_eq_some_iff.mp hs
                                  refine ms_31 hx hb hK hP hD hS rfl e14 dX7_makeHouse_442 (fun H locs hP hS => ?_)
                                  refine lv_iinc (v := (v216_2 + 1)) (lv' := [(2, .int (v216_2 + 1)), (3, .int (0 : Int32)), (0, .ref (b 0)), (1, .int v206_1)]) hx hb dX7_makeHouse_443 hl (k := 3) rfl (by rfl) (by decide) rfl (fun ls hl => ?_)
                                  refine lv_goto (tgt := 216) hx hb dX7_makeHouse_446 (by decide) ?_
                                  cases hs
                                  exact ih216 (v216_2 + 1) r14 hk216 _ _ hP hS _ (lv_sub hl [2, 3, 0] rfl)
                                · have hs := ifp c12 hs
                                  refine lv_iconst (v := 0) hx hb dX7_makeHouse_341 (by decide) ?_
                                  refine lv_istore (lv' := [(4, .int (0 : Int32)), (3, .int (0 : Int32)), (0, .ref (b 0)), (1, .int v206_1), (2, .int v216_2)]) hx hb dX7_makeHouse_342 hl (by decide) rfl (fun ls hl => ?_)
                                  obtain ⟨n344, hs⟩ := loopC_iter hs
                                  have L344 : ∀ (n : Nat) (v344_3 : Int32) (v344_4 : Int32), iterO (fun v => b_X7_makeHouse_344 z216 v206_1 v216_2 v.1 v.2) n (v344_3, v344_4) = some y216 → ∀ (H : Heap) (locs : List Loc), va_P g.1 vwCl (mW g b z216) H → va_S A s.heap H locs → ∀ ls : Array Slot, lv_has ls 6 [(0, .ref (b 0)), (1, .int v206_1), (2, .int v216_2), (3, .int v344_3), (4, .int v344_4)] → W p l e ({ frames := 3, cells := 0, slots := 0, locals := 65 } : Room) s m args below meth c H locs 0 0 (MQ below (RWv g (mW g b res) A) args s 0 0 A) (F0 m 344 ls []) := by
                                    intro n
                                    induction n with
                                    | zero => intro v344_3 v344_4 hs; exact (iterO_zero hs).elim
                                    | succ n ih344 =>
                                      intro v344_3 v344_4 hs H locs hP hS ls hl
                                      obtain ⟨y344, hs, hk344⟩ := iterO_succ hs
                                      have hs : b_X7_makeHouse_344 z216 v206_1 v216_2 v344_3 v344_4 = some y344 := hs
                                      unfold b_X7_makeHouse_344 at hs
                                      refine lv_iload hx hb dX7_makeHouse_344 (lv_at hl 4 rfl) ?_
                                      refine lv_aload_n hx hb dX7_makeHouse_346 rfl (lv_at hl 0 rfl) ?_
                                      refine mg_0 hx hb hB hown hK hP dX7_makeHouse_347 ?_
                                      refine lv_icmp_ge (tgt := 414) hx hb dX7_makeHouse_350 (by decide) (fun c15 => ?_) (fun c15 => ?_)
                                      · have hs := ifp c15 hs
                                        refine lv_aload_n hx hb dX7_makeHouse_414 rfl (lv_at hl 0 rfl) ?_
                                        refine mg_31 hx hb hB hown hK hP dX7_makeHouse_415 ?_
                                        refine lv_bipush (v := 28) hx hb dX7_makeHouse_418 (by decide) ?_
                                        refine lv_iload_n hx hb dX7_makeHouse_420 rfl (lv_at hl 2 rfl) ?_
                                        refine lv_imul hx hb dX7_makeHouse_421 ?_
                                        refine lv_iload_n hx hb dX7_makeHouse_422 rfl (lv_at hl 1 rfl) ?_
                                        refine lv_iadd hx hb dX7_makeHouse_423 ?_
                                        refine lv_iload_n hx hb dX7_makeHouse_424 rfl (lv_at hl 3 rfl) ?_
                                        refine lv_if_eq (tgt := 441) hx hb dX7_makeHouse_425 (by decide) (fun c16 => ?_) (fun c16 => ?_)
                                        · have hs := ifp c16 hs
                                          refine lv_iconst (v := 0) hx hb dX7_makeHouse_441 (by decide) ?_
                                          obtain ⟨r17, e17, hs⟩ := Option.bind_eq_some_iff.mp hs
                                          refine ms_31 hx hb hK hP hD hS rfl e17 dX7_makeHouse_442 (fun H locs hP hS => ?_)
                                          refine lv_iinc (v := (v216_2 + 1)) (lv' := [(2, .int (v216_2 + 1)), (0, .ref (b 0)), (1, .int v206_1), (3, .int v344_3), (4, .int v344_4)]) hx hb dX7_makeHouse_443 hl (k := 2) rfl (by rfl) (by decide) rfl (fun ls hl => ?_)
                                          refine lv_goto (tgt := 216) hx hb dX7_makeHouse_446 (by decide) ?_
                                          cases hs
                                          cases elim_inr hk344
                                          exact ih216 (v216_2 + 1) r17 hk216 _ _ hP hS _ (lv_sub hl [1, 2, 0] rfl)
                                        · have hs := ifn c16 hs
                                          refine lv_aload_n hx hb dX7_makeHouse_428 rfl (lv_at hl 0 rfl) ?_
                                          refine mg_29 hx hb hB hown hK hP dX7_makeHouse_429 ?_
                                          refine lv_iload_n hx hb dX7_makeHouse_432 rfl (lv_at hl 2 rfl) ?_
                                          obtain ⟨r18, e18, hs⟩ := Option.bind_eq_some_iff.mp hs
                                          refine ml_29 hx hb hK hP e18 dX7_makeHouse_433 ?_
                                          refine lv_if_eq (tgt := 441) hx hb dX7_makeHouse_434 (by decide) (fun c19 => ?_) (fun c19 => ?_)
                                          · have hs := ifp c19 hs
                                            refine lv_iconst (v := 0) hx hb dX7_makeHouse_441 (by decide) ?_
                                            obtain ⟨r20, e20, hs⟩ := Option.bind_eq_some_iff.mp hs
                                            refine ms_31 hx hb hK hP hD hS rfl e20 dX7_makeHouse_442 (fun H locs hP hS => ?_)
                                            refine lv_iinc (v := (v216_2 + 1)) (lv' := [(2, .int (v216_2 + 1)), (0, .ref (b 0)), (1, .int v206_1), (3, .int v344_3), (4, .int v344_4)]) hx hb dX7_makeHouse_443 hl (k := 2) rfl (by rfl) (by decide) rfl (fun ls hl => ?_)
                                            refine lv_goto (tgt := 216) hx hb dX7_makeHouse_446 (by decide) ?_
                                            cases hs
                                            cases elim_inr hk344
                                            exact ih216 (v216_2 + 1) r20 hk216 _ _ hP hS _ (lv_sub hl [1, 2, 0] rfl)
                                          · have hs := ifn c19 hs
                                            refine lv_iconst (v := 1) hx hb dX7_makeHouse_437 (by decide) ?_
                                            refine lv_goto (tgt := 442) hx hb dX7_makeHouse_438 (by decide) ?_
                                            obtain ⟨r21, e21, hs⟩ := Option.bind_eq_some_iff.mp hs
                                            refine ms_31 hx hb hK hP hD hS rfl e21 dX7_makeHouse_442 (fun H locs hP hS => ?_)
                                            refine lv_iinc (v := (v216_2 + 1)) (lv' := [(2, .int (v216_2 + 1)), (0, .ref (b 0)), (1, .int v206_1), (3, .int v344_3), (4, .int v344_4)]) hx hb dX7_makeHouse_443 hl (k := 2) rfl (by rfl) (by decide) rfl (fun ls hl => ?_)
                                            refine lv_goto (tgt := 216) hx hb dX7_makeHouse_446 (by decide) ?_
                                            cases hs
                                            cases elim_inr hk344
                                            exact ih216 (v216_2 + 1) r21 hk216 _ _ hP hS _ (lv_sub hl [1, 2, 0] rfl)
                                      · have hs := ifn c15 hs
                                        refine lv_iload_n hx hb dX7_makeHouse_353 rfl (lv_at hl 3 rfl) ?_
                                        refine lv_if_ne (tgt := 402) hx hb dX7_makeHouse_354 (by decide) (fun c22 => ?_) (fun c22 => ?_)
                                        · have hs := ifn c22 hs
                                          refine lv_iconst (v := 1) hx hb dX7_makeHouse_402 (by decide) ?_
                                          refine lv_goto (tgt := 407) hx hb dX7_makeHouse_403 (by decide) ?_
                                          refine lv_istore_n (lv' := [(3, .int (1 : Int32)), (0, .ref (b 0)), (1, .int v206_1), (2, .int v216_2), (4, .int v344_4)]) hx hb dX7_makeHouse_407 rfl hl (by decide) rfl (fun ls hl => ?_)
                                          refine lv_iinc (v := (v344_4 + 1)) (lv' := [(4, .int (v344_4 + 1)), (3, .int (1 : Int32)), (0, .ref (b 0)), (1, .int v206_1), (2, .int v216_2)]) hx hb dX7_makeHouse_408 hl (k := 4) rfl (by rfl) (by decide) rfl (fun ls hl => ?_)
                                          refine lv_goto (tgt := 344) hx hb dX7_makeHouse_411 (by decide) ?_
                                          cases hs
                                          exact ih344 (1 : Int32) (v344_4 + 1) hk344 _ _ hP hS _ (lv_sub hl [2, 3, 4, 1, 0] rfl)
                                        · have hs := ifp c22 hs
                                          refine lv_aload_n hx hb dX7_makeHouse_357 rfl (lv_at hl 0 rfl) ?_
                                          refine mg_30 hx hb hB hown hK hP dX7_makeHouse_358 ?_
                                          refine lv_bipush (v := 112) hx hb dX7_makeHouse_361 (by decide) ?_
                                          refine lv_iload_n hx hb dX7_makeHouse_363 rfl (lv_at hl 2 rfl) ?_
                                          refine lv_imul hx hb dX7_makeHouse_364 ?_
                                          refine lv_bipush (v := 28) hx hb dX7_makeHouse_365 (by decide) ?_
                                          refine lv_aload_n hx hb dX7_makeHouse_367 rfl (lv_at hl 0 rfl) ?_
                                          refine mg_3 hx hb hB hown hK hP dX7_makeHouse_368 ?_
                                          refine lv_iload_n hx hb dX7_makeHouse_371 rfl (lv_at hl 1 rfl) ?_
                                          obtain ⟨r23, e23, hs⟩ := Option.bind_eq_some_iff.mp hs
                                          refine ml_3 hx hb hK hP e23 dX7_makeHouse_372 ?_
                                          refine lv_imul hx hb dX7_makeHouse_373 ?_
                                          refine lv_iadd hx hb dX7_makeHouse_374 ?_
                                          refine lv_iload hx hb dX7_makeHouse_375 (lv_at hl 4 rfl) ?_
                                          refine lv_iadd hx hb dX7_makeHouse_377 ?_
                                          obtain ⟨r24, e24, hs⟩ := Option.bind_eq_some_iff.mp hs
                                          refine ml_30 hx hb hK hP e24 dX7_makeHouse_378 ?_
                                          refine lv_if_eq (tgt := 406) hx hb dX7_makeHouse_379 (by decide) (fun c25 => ?_) (fun c25 => ?_)
                                          · have hs := ifp c25 hs
                                            refine lv_iconst (v := 0) hx hb dX7_makeHouse_406 (by decide) ?_
                                            refine lv_istore_n (lv' := [(3, .int (0 : Int32)), (0, .ref (b 0)), (1, .int v206_1), (2, .int v216_2), (4, .int v344_4)]) hx hb dX7_makeHouse_407 rfl hl (by decide) rfl (fun ls hl => ?_)
                                            refine lv_iinc (v := (v344_4 + 1)) (lv' := [(4, .int (v344_4 + 1)), (3, .int (0 : Int32)), (0, .ref (b 0)), (1, .int v206_1), (2, .int v216_2)]) hx hb dX7_makeHouse_408 hl (k := 4) rfl (by rfl) (by decide) rfl (fun ls hl => ?_)
                                            refine lv_goto (tgt := 344) hx hb dX7_makeHouse_411 (by decide) ?_
                                            cases hs
                                            exact ih344 (0 : Int32) (v344_4 + 1) hk344 _ _ hP hS _ (lv_sub hl [2, 3, 4, 1, 0] rfl)
                                          · have hs := ifn c25 hs
                                            refine lv_aload_n hx hb dX7_makeHouse_382 rfl (lv_at hl 0 rfl) ?_
                                            refine mg_31 hx hb hB hown hK hP dX7_makeHouse_383 ?_
                                            refine lv_bipush (v := 28) hx hb dX7_makeHouse_386 (by decide) ?_
                                            refine lv_iload hx hb dX7_makeHouse_388 (lv_at hl 4 rfl) ?_
                                            refine lv_imul hx hb dX7_makeHouse_390 ?_
                                            refine lv_aload_n hx hb dX7_makeHouse_391 rfl (lv_at hl 0 rfl) ?_
                                            refine mg_4 hx hb hB hown hK hP dX7_makeHouse_392 ?_
                                            refine lv_iload_n hx hb dX7_makeHouse_395 rfl (lv_at hl 1 rfl) ?_
                                            obtain ⟨r26, e26, hs⟩ := Option.bind_eq_some_iff.mp hs
                                            refine ml_4 hx hb hK hP e26 dX7_makeHouse_396 ?_
                                            refine lv_iadd hx hb dX7_makeHouse_397 ?_
                                            obtain ⟨r27, e27, hs⟩ := Option.bind_eq_some_iff.mp hs
                                            refine ml_31 hx hb hK hP e27 dX7_makeHouse_398 ?_
                                            refine lv_if_eq (tgt := 406) hx hb dX7_makeHouse_399 (by decide) (fun c28 => ?_) (fun c28 => ?_)
                                            · have hs := ifp c28 hs
                                              refine lv_iconst (v := 0) hx hb dX7_makeHouse_406 (by decide) ?_
                                              refine lv_istore_n (lv' := [(3, .int (0 : Int32)), (0, .ref (b 0)), (1, .int v206_1), (2, .int v216_2), (4, .int v344_4)]) hx hb dX7_makeHouse_407 rfl hl (by decide) rfl (fun ls hl => ?_)
                                              refine lv_iinc (v := (v344_4 + 1)) (lv' := [(4, .int (v344_4 + 1)), (3, .int (0 : Int32)), (0, .ref (b 0)), (1, .int v206_1), (2, .int v216_2)]) hx hb dX7_makeHouse_408 hl (k := 4) rfl (by rfl) (by decide) rfl (fun ls hl => ?_)
                                              refine lv_goto (tgt := 344) hx hb dX7_makeHouse_411 (by decide) ?_
                                              cases hs
                                              exact ih344 (0 : Int32) (v344_4 + 1) hk344 _ _ hP hS _ (lv_sub hl [2, 3, 4, 1, 0] rfl)
                                            · have hs := ifn c28 hs
                                              refine lv_iconst (v := 1) hx hb dX7_makeHouse_402 (by decide) ?_
                                              refine lv_goto (tgt := 407) hx hb dX7_makeHouse_403 (by decide) ?_
                                              refine lv_istore_n (lv' := [(3, .int (1 : Int32)), (0, .ref (b 0)), (1, .int v206_1), (2, .int v216_2), (4, .int v344_4)]) hx hb dX7_makeHouse_407 rfl hl (by decide) rfl (fun ls hl => ?_)
                                              refine lv_iinc (v := (v344_4 + 1)) (lv' := [(4, .int (v344_4 + 1)), (3, .int (1 : Int32)), (0, .ref (b 0)), (1, .int v206_1), (2, .int v216_2)]) hx hb dX7_makeHouse_408 hl (k := 4) rfl (by rfl) (by decide) rfl (fun ls hl => ?_)
                                              refine lv_goto (tgt := 344) hx hb dX7_makeHouse_411 (by decide) ?_
                                              cases hs
                                              exact ih344 (1 : Int32) (v344_4 + 1) hk344 _ _ hP hS _ (lv_sub hl [2, 3, 4, 1, 0] rfl)
                                  exact L344 n344 (0 : Int32) (0 : Int32) hs _ _ hP hS _ (lv_sub hl [2, 3, 4, 1, 0] rfl)
                              · have hs := ifp c10 hs
                                refine lv_aload_n hx hb dX7_makeHouse_284 rfl (lv_at hl 1 rfl) ?_
                                refine mg_31 hx hb hB hown hK hP dX7_makeHouse_285 ?_
                                refine lv_bipush (v := 28) hx hb dX7_makeHouse_288 (by decide) ?_
                                refine lv_iload_n hx hb dX7_makeHouse_290 rfl (lv_at hl 3 rfl) ?_
                                refine lv_imul hx hb dX7_makeHouse_291 ?_
                                refine lv_aload_n hx hb dX7_makeHouse_292 rfl (lv_at hl 1 rfl) ?_
                                refine mg_3 hx hb hB hown hK hP dX7_makeHouse_293 ?_
                                refine lv_iload_n hx hb dX7_makeHouse_296 rfl (lv_at hl 2 rfl) ?_
                                obtain ⟨r29, e29, hs⟩ := Option.bind_eq_some_iff.mp hs
                                refine ml_3 hx hb hK hP e29 dX7_makeHouse_297 ?_
                                refine lv_iadd hx hb dX7_makeHouse_298 ?_
                                obtain ⟨r30, e30, hs⟩ := Option.bind_eq_some_iff.mp hs
                                refine ml_31 hx hb hK hP e30 dX7_makeHouse_299 ?_
                                refine lv_if_eq (tgt := 326) hx hb dX7_makeHouse_300 (by decide) (fun c31 => ?_) (fun c31 => ?_)
                                · have hs := ifp c31 hs
                                  refine lv_iconst (v := 0) hx hb dX7_makeHouse_326 (by decide) ?_
                                  refine lv_istore_n (lv' := [(3, .int (0 : Int32)), (0, .ref (b 0)), (1, .int v206_1), (2, .int v216_2)]) hx hb dX7_makeHouse_327 rfl hl (by decide) rfl (fun ls hl => ?_)
                                  refine lv_goto (tgt := 414) hx hb dX7_makeHouse_328 (by decide) ?_
                                  refine lv_aload_n hx hb dX7_makeHouse_414 rfl (lv_at hl 1 rfl) ?_
                                  refine mg_31 hx hb hB hown hK hP dX7_makeHouse_415 ?_
                                  refine lv_bipush (v := 28) hx hb dX7_makeHouse_418 (by decide) ?_
                                  refine lv_iload_n hx hb dX7_makeHouse_420 rfl (lv_at hl 3 rfl) ?_
                                  refine lv_imul hx hb dX7_makeHouse_421 ?_
                                  refine lv_iload_n hx hb dX7_makeHouse_422 rfl (lv_at hl 2 rfl) ?_
                                  refine lv_iadd hx hb dX7_makeHouse_423 ?_
                                  refine lv_iload_n hx hb dX7_makeHouse_424 rfl (lv_at hl 0 rfl) ?_
                                  refine lv_if_eq (tgt := 441) hx hb dX7_makeHouse_425 (by decide) (fun _ => ?_) (fun c32 => absurd (by decide) c32)
                                  refine lv_iconst (v := 0) hx hb dX7_makeHouse_441 (by decide) ?_
                                  obtain ⟨r33, e33, hs⟩ := Option.bind_eq_some_iff.mp hs
                                  refine ms_31 hx hb hK hP hD hS rfl e33 dX7_makeHouse_442 (fun H locs hP hS => ?_)
                                  refine lv_iinc (v := (v216_2 + 1)) (lv' := [(2, .int (v216_2 + 1)), (3, .int (0 : Int32)), (0, .ref (b 0)), (1, .int v206_1)]) hx hb dX7_makeHouse_443 hl (k := 3) rfl (by rfl) (by decide) rfl (fun ls hl => ?_)
                                  refine lv_goto (tgt := 216) hx hb dX7_makeHouse_446 (by decide) ?_
                                  cases hs
                                  exact ih216 (v216_2 + 1) r33 hk216 _ _ hP hS _ (lv_sub hl [2, 3, 0] rfl)
                                · have hs := ifn c31 hs
                                  refine lv_aload_n hx hb dX7_makeHouse_303 rfl (lv_at hl 1 rfl) ?_
                                  refine mg_31 hx hb hB hown hK hP dX7_makeHouse_304 ?_
                                  refine lv_bipush (v := 28) hx hb dX7_makeHouse_307 (by decide) ?_
                                  refine lv_iload_n hx hb dX7_makeHouse_309 rfl (lv_at hl 3 rfl) ?_
                                  refine lv_imul hx hb dX7_makeHouse_310 ?_
                                  refine lv_aload_n hx hb dX7_makeHouse_311 rfl (lv_at hl 1 rfl) ?_
                                  refine mg_4 hx hb hB hown hK hP dX7_makeHouse_312 ?_
                                  refine lv_iload_n hx hb dX7_makeHouse_315 rfl (lv_at hl 2 rfl) ?_
                                  obtain ⟨r34, e34, hs⟩ := Option.bind_eq_some_iff.mp hs
                                  refine ml_4 hx hb hK hP e34 dX7_makeHouse_316 ?_
                                  refine lv_iadd hx hb dX7_makeHouse_317 ?_
                                  obtain ⟨r35, e35, hs⟩ := Option.bind_eq_some_iff.mp hs
                                  refine ml_31 hx hb hK hP e35 dX7_makeHouse_318 ?_
                                  refine lv_if_eq (tgt := 326) hx hb dX7_makeHouse_319 (by decide) (fun c36 => ?_) (fun c36 => ?_)
                                  · have hs := ifp c36 hs
                                    refine lv_iconst (v := 0) hx hb dX7_makeHouse_326 (by decide) ?_
                                    refine lv_istore_n (lv' := [(3, .int (0 : Int32)), (0, .ref (b 0)), (1, .int v206_1), (2, .int v216_2)]) hx hb dX7_makeHouse_327 rfl hl (by decide) rfl (fun ls hl => ?_)
                                    refine lv_goto (tgt := 414) hx hb dX7_makeHouse_328 (by decide) ?_
                                    refine lv_aload_n hx hb dX7_makeHouse_414 rfl (lv_at hl 1 rfl) ?_
                                    refine mg_31 hx hb hB hown hK hP dX7_makeHouse_415 ?_
                                    refine lv_bipush (v := 28) hx hb dX7_makeHouse_418 (by decide) ?_
                                    refine lv_iload_n hx hb dX7_makeHouse_420 rfl (lv_at hl 3 rfl) ?_
                                    refine lv_imul hx hb dX7_makeHouse_421 ?_
                                    refine lv_iload_n hx hb dX7_makeHouse_422 rfl (lv_at hl 2 rfl) ?_
                                    refine lv_iadd hx hb dX7_makeHouse_423 ?_
                                    refine lv_iload_n hx hb dX7_makeHouse_424 rfl (lv_at hl 0 rfl) ?_
                                    refine lv_if_eq (tgt := 441) hx hb dX7_makeHouse_425 (by decide) (fun _ => ?_) (fun c37 => absurd (by decide) c37)
                                    refine lv_iconst (v := 0) hx hb dX7_makeHouse_441 (by decide) ?_
                                    obtain ⟨r38, e38, hs⟩ := Option.bind_eq_some_iff.mp hs
                                    refine ms_31 hx hb hK hP hD hS rfl e38 dX7_makeHouse_442 (fun H locs hP hS => ?_)
                                    refine lv_iinc (v := (v216_2 + 1)) (lv' := [(2, .int (v216_2 + 1)), (3, .int (0 : Int32)), (0, .ref (b 0)), (1, .int v206_1)]) hx hb dX7_makeHouse_443 hl (k := 3) rfl (by rfl) (by decide) rfl (fun ls hl => ?_)
                                    refine lv_goto (tgt := 216) hx hb dX7_makeHouse_446 (by decide) ?_
                                    cases hs
                                    exact ih216 (v216_2 + 1) r38 hk216 _ _ hP hS _ (lv_sub hl [2, 3, 0] rfl)
                                  · have hs := ifn c36 hs
                                    refine lv_iconst (v := 1) hx hb dX7_makeHouse_322 (by decide) ?_
                                    refine lv_goto (tgt := 327) hx hb dX7_makeHouse_323 (by decide) ?_
                                    refine lv_istore_n (lv' := [(3, .int (1 : Int32)), (0, .ref (b 0)), (1, .int v206_1), (2, .int v216_2)]) hx hb dX7_makeHouse_327 rfl hl (by decide) rfl (fun ls hl => ?_)
                                    refine lv_goto (tgt := 414) hx hb dX7_makeHouse_328 (by decide) ?_
                                    refine lv_aload_n hx hb dX7_makeHouse_414 rfl (lv_at hl 1 rfl) ?_
                                    refine mg_31 hx hb hB hown hK hP dX7_makeHouse_415 ?_
                                    refine lv_bipush (v := 28) hx hb dX7_makeHouse_418 (by decide) ?_
                                    refine lv_iload_n hx hb dX7_makeHouse_420 rfl (lv_at hl 3 rfl) ?_
                                    refine lv_imul hx hb dX7_makeHouse_421 ?_
                                    refine lv_iload_n hx hb dX7_makeHouse_422 rfl (lv_at hl 2 rfl) ?_
                                    refine lv_iadd hx hb dX7_makeHouse_423 ?_
                                    refine lv_iload_n hx hb dX7_makeHouse_424 rfl (lv_at hl 0 rfl) ?_
                                    refine lv_if_eq (tgt := 441) hx hb dX7_makeHouse_425 (by decide) (fun c39 => absurd c39 (by decide)) (fun _ => ?_)
                                    refine lv_aload_n hx hb dX7_makeHouse_428 rfl (lv_at hl 1 rfl) ?_
                                    refine mg_29 hx hb hB hown hK hP dX7_makeHouse_429 ?_
                                    refine lv_iload_n hx hb dX7_makeHouse_432 rfl (lv_at hl 3 rfl) ?_
                                    obtain ⟨r40, e40, hs⟩ := Option.bind_eq_some_iff.mp hs
                                    refine ml_29 hx hb hK hP e40 dX7_makeHouse_433 ?_
                                    refine lv_if_eq (tgt := 441) hx hb dX7_makeHouse_434 (by decide) (fun c41 => ?_) (fun c41 => ?_)
                                    · have hs := ifp c41 hs
                                      refine lv_iconst (v := 0) hx hb dX7_makeHouse_441 (by decide) ?_
                                      obtain ⟨r42, e42, hs⟩ := Option.bind_eq_some_iff.mp hs
                                      refine ms_31 hx hb hK hP hD hS rfl e42 dX7_makeHouse_442 (fun H locs hP hS => ?_)
                                      refine lv_iinc (v := (v216_2 + 1)) (lv' := [(2, .int (v216_2 + 1)), (3, .int (1 : Int32)), (0, .ref (b 0)), (1, .int v206_1)]) hx hb dX7_makeHouse_443 hl (k := 3) rfl (by rfl) (by decide) rfl (fun ls hl => ?_)
                                      refine lv_goto (tgt := 216) hx hb dX7_makeHouse_446 (by decide) ?_
                                      cases hs
                                      exact ih216 (v216_2 + 1) r42 hk216 _ _ hP hS _ (lv_sub hl [2, 3, 0] rfl)
                                    · have hs := ifn c41 hs
                                      refine lv_iconst (v := 1) hx hb dX7_makeHouse_437 (by decide) ?_
                                      refine lv_goto (tgt := 442) hx hb dX7_makeHouse_438 (by decide) ?_
                                      obtain ⟨r43, e43, hs⟩ := Option.bind_eq_some_iff.mp hs
                                      refine ms_31 hx hb hK hP hD hS rfl e43 dX7_makeHouse_442 (fun H locs hP hS => ?_)
                                      refine lv_iinc (v := (v216_2 + 1)) (lv' := [(2, .int (v216_2 + 1)), (3, .int (1 : Int32)), (0, .ref (b 0)), (1, .int v206_1)]) hx hb dX7_makeHouse_443 hl (k := 3) rfl (by rfl) (by decide) rfl (fun ls hl => ?_)
                                      refine lv_goto (tgt := 216) hx hb dX7_makeHouse_446 (by decide) ?_
                                      cases hs
                                      exact ih216 (v216_2 + 1) r43 hk216 _ _ hP hS _ (lv_sub hl [2, 3, 0] rfl)
                            · have hs := ifp c8 hs
                              refine lv_aload_n hx hb dX7_makeHouse_250 rfl (lv_at hl 1 rfl) ?_
                              refine mg_16 hx hb hB hown hK hP dX7_makeHouse_251 ?_
                              refine lv_bipush (v := 28) hx hb dX7_makeHouse_254 (by decide) ?_
                              refine lv_iload_n hx hb dX7_makeHouse_256 rfl (lv_at hl 3 rfl) ?_
                              refine lv_imul hx hb dX7_makeHouse_257 ?_
                              refine lv_iload_n hx hb dX7_makeHouse_258 rfl (lv_at hl 2 rfl) ?_
                              refine lv_iadd hx hb dX7_makeHouse_259 ?_
                              obtain ⟨r44, e44, hs⟩ := Option.bind_eq_some_iff.mp hs
                              refine ml_16 hx hb hK hP e44 dX7_makeHouse_260 ?_
                              refine lv_iconst (v := -1) hx hb dX7_makeHouse_261 (by decide) ?_
                              refine lv_icmp_eq (tgt := 269) hx hb dX7_makeHouse_262 (by decide) (fun c45 => ?_) (fun c45 => ?_)
                              · have hs := ifp c45 hs
                                refine lv_iconst (v := 0) hx hb dX7_makeHouse_269 (by decide) ?_
                                refine lv_istore_n (lv' := [(3, .int (0 : Int32)), (0, .ref (b 0)), (1, .int v206_1), (2, .int v216_2)]) hx hb dX7_makeHouse_270 rfl hl (by decide) rfl (fun ls hl => ?_)
                                refine lv_goto (tgt := 414) hx hb dX7_makeHouse_271 (by decide) ?_
                                refine lv_aload_n hx hb dX7_makeHouse_414 rfl (lv_at hl 1 rfl) ?_
                                refine mg_31 hx hb hB hown hK hP dX7_makeHouse_415 ?_
                                refine lv_bipush (v := 28) hx hb dX7_makeHouse_418 (by decide) ?_
                                refine lv_iload_n hx hb dX7_makeHouse_420 rfl (lv_at hl 3 rfl) ?_
                                refine lv_imul hx hb dX7_makeHouse_421 ?_
                                refine lv_iload_n hx hb dX7_makeHouse_422 rfl (lv_at hl 2 rfl) ?_
                                refine lv_iadd hx hb dX7_makeHouse_423 ?_
                                refine lv_iload_n hx hb dX7_makeHouse_424 rfl (lv_at hl 0 rfl) ?_
                                refine lv_if_eq (tgt := 441) hx hb dX7_makeHouse_425 (by decide) (fun _ => ?_) (fun c46 => absurd (by decide) c46)
                                refine lv_iconst (v := 0) hx hb dX7_makeHouse_441 (by decide) ?_
                                obtain ⟨r47, e47, hs⟩ := Option.bind_eq_some_iff.mp hs
                                refine ms_31 hx hb hK hP hD hS rfl e47 dX7_makeHouse_442 (fun H locs hP hS => ?_)
                                refine lv_iinc (v := (v216_2 + 1)) (lv' := [(2, .int (v216_2 + 1)), (3, .int (0 : Int32)), (0, .ref (b 0)), (1, .int v206_1)]) hx hb dX7_makeHouse_443 hl (k := 3) rfl (by rfl) (by decide) rfl (fun ls hl => ?_)
                                refine lv_goto (tgt := 216) hx hb dX7_makeHouse_446 (by decide) ?_
                                cases hs
                                exact ih216 (v216_2 + 1) r47 hk216 _ _ hP hS _ (lv_sub hl [2, 3, 0] rfl)
                              · have hs := ifn c45 hs
                                refine lv_iconst (v := 1) hx hb dX7_makeHouse_265 (by decide) ?_
                                refine lv_goto (tgt := 270) hx hb dX7_makeHouse_266 (by decide) ?_
                                refine lv_istore_n (lv' := [(3, .int (1 : Int32)), (0, .ref (b 0)), (1, .int v206_1), (2, .int v216_2)]) hx hb dX7_makeHouse_270 rfl hl (by decide) rfl (fun ls hl => ?_)
                                refine lv_goto (tgt := 414) hx hb dX7_makeHouse_271 (by decide) ?_
                                refine lv_aload_n hx hb dX7_makeHouse_414 rfl (lv_at hl 1 rfl) ?_
                                refine mg_31 hx hb hB hown hK hP dX7_makeHouse_415 ?_
                                refine lv_bipush (v := 28) hx hb dX7_makeHouse_418 (by decide) ?_
                                refine lv_iload_n hx hb dX7_makeHouse_420 rfl (lv_at hl 3 rfl) ?_
                                refine lv_imul hx hb dX7_makeHouse_421 ?_
                                refine lv_iload_n hx hb dX7_makeHouse_422 rfl (lv_at hl 2 rfl) ?_
                                refine lv_iadd hx hb dX7_makeHouse_423 ?_
                                refine lv_iload_n hx hb dX7_makeHouse_424 rfl (lv_at hl 0 rfl) ?_
                                refine lv_if_eq (tgt := 441) hx hb dX7_makeHouse_425 (by decide) (fun c48 => absurd c48 (by decide)) (fun _ => ?_)
                                refine lv_aload_n hx hb dX7_makeHouse_428 rfl (lv_at hl 1 rfl) ?_
                                refine mg_29 hx hb hB hown hK hP dX7_makeHouse_429 ?_
                                refine lv_iload_n hx hb dX7_makeHouse_432 rfl (lv_at hl 3 rfl) ?_
                                obtain ⟨r49, e49, hs⟩ := Option.bind_eq_some_iff.mp hs
                                refine ml_29 hx hb hK hP e49 dX7_makeHouse_433 ?_
                                refine lv_if_eq (tgt := 441) hx hb dX7_makeHouse_434 (by decide) (fun c50 => ?_) (fun c50 => ?_)
                                · have hs := ifp c50 hs
                                  refine lv_iconst (v := 0) hx hb dX7_makeHouse_441 (by decide) ?_
                                  obtain ⟨r51, e51, hs⟩ := Option.bind_eq_some_iff.mp hs
                                  refine ms_31 hx hb hK hP hD hS rfl e51 dX7_makeHouse_442 (fun H locs hP hS => ?_)
                                  refine lv_iinc (v := (v216_2 + 1)) (lv' := [(2, .int (v216_2 + 1)), (3, .int (1 : Int32)), (0, .ref (b 0)), (1, .int v206_1)]) hx hb dX7_makeHouse_443 hl (k := 3) rfl (by rfl) (by decide) rfl (fun ls hl => ?_)
                                  refine lv_goto (tgt := 216) hx hb dX7_makeHouse_446 (by decide) ?_
                                  cases hs
                                  exact ih216 (v216_2 + 1) r51 hk216 _ _ hP hS _ (lv_sub hl [2, 3, 0] rfl)
                                · have hs := ifn c50 hs
                                  refine lv_iconst (v := 1) hx hb dX7_makeHouse_437 (by decide) ?_
                                  refine lv_goto (tgt := 442) hx hb dX7_makeHouse_438 (by decide) ?_
                                  obtain ⟨r52, e52, hs⟩ := Option.bind_eq_some_iff.mp hs
                                  refine ms_31 hx hb hK hP hD hS rfl e52 dX7_makeHouse_442 (fun H locs hP hS => ?_)
                                  refine lv_iinc (v := (v216_2 + 1)) (lv' := [(2, .int (v216_2 + 1)), (3, .int (1 : Int32)), (0, .ref (b 0)), (1, .int v206_1)]) hx hb dX7_makeHouse_443 hl (k := 3) rfl (by rfl) (by decide) rfl (fun ls hl => ?_)
                                  refine lv_goto (tgt := 216) hx hb dX7_makeHouse_446 (by decide) ?_
                                  cases hs
                                  exact ih216 (v216_2 + 1) r52 hk216 _ _ hP hS _ (lv_sub hl [2, 3, 0] rfl)
                          · have hs := ifp c6 hs
                            refine lv_iconst (v := 1) hx hb dX7_makeHouse_235 (by decide) ?_
                            refine lv_istore_n (lv' := [(3, .int (1 : Int32)), (0, .ref (b 0)), (1, .int v206_1), (2, .int v216_2)]) hx hb dX7_makeHouse_236 rfl hl (by decide) rfl (fun ls hl => ?_)
                            refine lv_goto (tgt := 414) hx hb dX7_makeHouse_237 (by decide) ?_
                            refine lv_aload_n hx hb dX7_makeHouse_414 rfl (lv_at hl 1 rfl) ?_
                            refine mg_31 hx hb hB hown hK hP dX7_makeHouse_415 ?_
                            refine lv_bipush (v := 28) hx hb dX7_makeHouse_418 (by decide) ?_
                            refine lv_iload_n hx hb dX7_makeHouse_420 rfl (lv_at hl 3 rfl) ?_
                            refine lv_imul hx hb dX7_makeHouse_421 ?_
                            refine lv_iload_n hx hb dX7_makeHouse_422 rfl (lv_at hl 2 rfl) ?_
                            refine lv_iadd hx hb dX7_makeHouse_423 ?_
                            refine lv_iload_n hx hb dX7_makeHouse_424 rfl (lv_at hl 0 rfl) ?_
                            refine lv_if_eq (tgt := 441) hx hb dX7_makeHouse_425 (by decide) (fun c53 => absurd c53 (by decide)) (fun _ => ?_)
                            refine lv_aload_n hx hb dX7_makeHouse_428 rfl (lv_at hl 1 rfl) ?_
                            refine mg_29 hx hb hB hown hK hP dX7_makeHouse_429 ?_
                            refine lv_iload_n hx hb dX7_makeHouse_432 rfl (lv_at hl 3 rfl) ?_
                            obtain ⟨r54, e54, hs⟩ := Option.bind_eq_some_iff.mp hs
                            refine ml_29 hx hb hK hP e54 dX7_makeHouse_433 ?_
                            refine lv_if_eq (tgt := 441) hx hb dX7_makeHouse_434 (by decide) (fun c55 => ?_) (fun c55 => ?_)
                            · have hs := ifp c55 hs
                              refine lv_iconst (v := 0) hx hb dX7_makeHouse_441 (by decide) ?_
                              obtain ⟨r56, e56, hs⟩ := Option.bind_eq_some_iff.mp hs
                              refine ms_31 hx hb hK hP hD hS rfl e56 dX7_makeHouse_442 (fun H locs hP hS => ?_)
                              refine lv_iinc (v := (v216_2 + 1)) (lv' := [(2, .int (v216_2 + 1)), (3, .int (1 : Int32)), (0, .ref (b 0)), (1, .int v206_1)]) hx hb dX7_makeHouse_443 hl (k := 3) rfl (by rfl) (by decide) rfl (fun ls hl => ?_)
                              refine lv_goto (tgt := 216) hx hb dX7_makeHouse_446 (by decide) ?_
                              cases hs
                              exact ih216 (v216_2 + 1) r56 hk216 _ _ hP hS _ (lv_sub hl [2, 3, 0] rfl)
                            · have hs := ifn c55 hs
                              refine lv_iconst (v := 1) hx hb dX7_makeHouse_437 (by decide) ?_
                              refine lv_goto (tgt := 442) hx hb dX7_makeHouse_438 (by decide) ?_
                              obtain ⟨r57, e57, hs⟩ := Option.bind_eq_some_iff.mp hs
                              refine ms_31 hx hb hK hP hD hS rfl e57 dX7_makeHouse_442 (fun H locs hP hS => ?_)
                              refine lv_iinc (v := (v216_2 + 1)) (lv' := [(2, .int (v216_2 + 1)), (3, .int (1 : Int32)), (0, .ref (b 0)), (1, .int v206_1)]) hx hb dX7_makeHouse_443 hl (k := 3) rfl (by rfl) (by decide) rfl (fun ls hl => ?_)
                              refine lv_goto (tgt := 216) hx hb dX7_makeHouse_446 (by decide) ?_
                              cases hs
                              exact ih216 (v216_2 + 1) r57 hk216 _ _ hP hS _ (lv_sub hl [2, 3, 0] rfl)
                    exact L216 n216 (0 : Int32) z206 hs _ _ hP hS _ (lv_sub hl [1, 2, 0] rfl)
              exact L206 n206 (0 : Int32) z52 hs _ _ hP hS _ (lv_sub hl [1, 0] rfl)
            · have hs := ifn c2 hs
              refine lv_iconst (v := 0) hx hb dX7_makeHouse_60 (by decide) ?_
              refine lv_istore_n (lv' := [(2, .int (0 : Int32)), (0, .ref (b 0)), (1, .int v52_1)]) hx hb dX7_makeHouse_61 rfl hl (by decide) rfl (fun ls hl => ?_)
              obtain ⟨n62, hs⟩ := loopC_iter hs
              have L62 : ∀ (n : Nat) (v62_2 : Int32) (z62 : MS), iterO (fun v => b_X7_makeHouse_62 v52_1 v.1 v.2) n (v62_2, z62) = some y52 → ∀ (H : Heap) (locs : List Loc), va_P g.1 vwCl (mW g b z62) H → va_S A s.heap H locs → ∀ ls : Array Slot, lv_has ls 6 [(0, .ref (b 0)), (1, .int v52_1), (2, .int v62_2)] → W p l e ({ frames := 3, cells := 0, slots := 0, locals := 65 } : Room) s m args below meth c H locs 0 0 (MQ below (RWv g (mW g b res) A) args s 0 0 A) (F0 m 62 ls []) := by
                intro n
                induction n with
                | zero => intro v62_2 z62 hs; exact (iterO_zero hs).elim
                | succ n ih62 =>
                  intro v62_2 z62 hs H locs hP hS ls hl
                  obtain ⟨y62, hs, hk62⟩ := iterO_succ hs
                  have hs : b_X7_makeHouse_62 v52_1 v62_2 z62 = some y62 := hs
                  unfold b_X7_makeHouse_62 at hs
                  refine lv_iload_n hx hb dX7_makeHouse_62 rfl (lv_at hl 2 rfl) ?_
                  refine lv_iconst (v := 4) hx hb dX7_makeHouse_63 (by decide) ?_
                  refine lv_icmp_ge (tgt := 198) hx hb dX7_makeHouse_64 (by decide) (fun c58 => ?_) (fun c58 => ?_)
                  · have hs := ifp c58 hs
                    refine lv_iinc (v := (v52_1 + 1)) (lv' := [(1, .int (v52_1 + 1)), (0, .ref (b 0)), (2, .int v62_2)]) hx hb dX7_makeHouse_198 hl (k := 1) rfl (by rfl) (by decide) rfl (fun ls hl => ?_)
                    refine lv_goto (tgt := 52) hx hb dX7_makeHouse_201 (by decide) ?_
                    cases hs
                    cases elim_inr hk62
                    exact ih52 (v52_1 + 1) z62 hk52 _ _ hP hS _ (lv_sub hl [1, 0] rfl)
                  · have hs := ifn c58 hs
                    refine lv_iconst (v := 0) hx hb dX7_makeHouse_67 (by decide) ?_
                    refine lv_istore_n (lv' := [(3, .int (0 : Int32)), (0, .ref (b 0)), (1, .int v52_1), (2, .int v62_2)]) hx hb dX7_makeHouse_68 rfl hl (by decide) rfl (fun ls hl => ?_)
                    obtain ⟨n69, hs⟩ := loopC_iter hs
                    have L69 : ∀ (n : Nat) (v69_3 : Int32) (z69 : MS), iterO (fun v => b_X7_makeHouse_69 v52_1 v62_2 v.1 v.2) n (v69_3, z69) = some y62 → ∀ (H : Heap) (locs : List Loc), va_P g.1 vwCl (mW g b z69) H → va_S A s.heap H locs → ∀ ls : Array Slot, lv_has ls 6 [(0, .ref (b 0)), (1, .int v52_1), (2, .int v62_2), (3, .int v69_3)] → W p l e ({ frames := 3, cells := 0, slots := 0, locals := 65 } : Room) s m args below meth c H locs 0 0 (MQ below (RWv g (mW g b res) A) args s 0 0 A) (F0 m 69 ls []) := by
                      intro n
                      induction n with
                      | zero => intro v69_3 z69 hs; exact (iterO_zero hs).elim
                      | succ n ih69 =>
                        intro v69_3 z69 hs H locs hP hS ls hl
                        obtain ⟨y69, hs, hk69⟩ := iterO_succ hs
                        have hs : b_X7_makeHouse_69 v52_1 v62_2 v69_3 z69 = some y69 := hs
                        unfold b_X7_makeHouse_69 at hs
                        refine lv_iload_n hx hb dX7_makeHouse_69 rfl (lv_at hl 3 rfl) ?_
                        refine lv_aload_n hx hb dX7_makeHouse_70 rfl (lv_at hl 0 rfl) ?_
                        refine mg_0 hx hb hB hown hK hP dX7_makeHouse_71 ?_
                        refine lv_icmp_ge (tgt := 192) hx hb dX7_makeHouse_74 (by decide) (fun c59 => ?_) (fun c59 => ?_)
                        · have hs := ifp c59 hs
                          refine lv_iinc (v := (v62_2 + 1)) (lv' := [(2, .int (v62_2 + 1)), (0, .ref (b 0)), (1, .int v52_1), (3, .int v69_3)]) hx hb dX7_makeHouse_192 hl (k := 2) rfl (by rfl) (by decide) rfl (fun ls hl => ?_)
                          refine lv_goto (tgt := 62) hx hb dX7_makeHouse_195 (by decide) ?_
                          cases hs
                          cases elim_inr hk69
                          exact ih62 (v62_2 + 1) z69 hk62 _ _ hP hS _ (lv_sub hl [1, 2, 0] rfl)
                        · have hs := ifn c59 hs
                          refine lv_iconst (v := 0) hx hb dX7_makeHouse_77 (by decide) ?_
                          refine lv_istore (lv' := [(4, .int (0 : Int32)), (0, .ref (b 0)), (1, .int v52_1), (2, .int v62_2), (3, .int v69_3)]) hx hb dX7_makeHouse_78 hl (by decide) rfl (fun ls hl => ?_)
                          refine lv_iconst (v := 0) hx hb dX7_makeHouse_80 (by decide) ?_
                          refine lv_istore (lv' := [(5, .int (0 : Int32)), (4, .int (0 : Int32)), (0, .ref (b 0)), (1, .int v52_1), (2, .int v62_2), (3, .int v69_3)]) hx hb dX7_makeHouse_81 hl (by decide) rfl (fun ls hl => ?_)
                          obtain ⟨n83, hs⟩ := loopC_iter hs
                          have L83 : ∀ (n : Nat) (v83_4 : Int32) (v83_5 : Int32), iterO (fun v => b_X7_makeHouse_83 z69 v52_1 v62_2 v69_3 v.1 v.2) n (v83_4, v83_5) = some y69 → ∀ (H : Heap) (locs : List Loc), va_P g.1 vwCl (mW g b z69) H → va_S A s.heap H locs → ∀ ls : Array Slot, lv_has ls 6 [(0, .ref (b 0)), (1, .int v52_1), (2, .int v62_2), (3, .int v69_3), (4, .int v83_4), (5, .int v83_5)] → W p l e ({ frames := 3, cells := 0, slots := 0, locals := 65 } : Room) s m args below meth c H locs 0 0 (MQ below (RWv g (mW g b res) A) args s 0 0 A) (F0 m 83 ls []) := by
                            intro n
                            induction n with
                            | zero => intro v83_4 v83_5 hs; exact (iterO_zero hs).elim
                            | succ n ih83 =>
                              intro v83_4 v83_5 hs H locs hP hS ls hl
                              obtain ⟨y83, hs, hk83⟩ := iterO_succ hs
                              have hs : b_X7_makeHouse_83 z69 v52_1 v62_2 v69_3 v83_4 v83_5 = some y83 := hs
                              unfold b_X7_makeHouse_83 at hs
                              refine lv_iload hx hb dX7_makeHouse_83 (lv_at hl 5 rfl) ?_
                              refine lv_iconst (v := 4) hx hb dX7_makeHouse_85 (by decide) ?_
                              refine lv_icmp_ge (tgt := 142) hx hb dX7_makeHouse_86 (by decide) (fun c60 => ?_) (fun c60 => ?_)
                              · have hs := ifp c60 hs
                                refine lv_aload_n hx hb dX7_makeHouse_142 rfl (lv_at hl 0 rfl) ?_
                                refine mg_30 hx hb hB hown hK hP dX7_makeHouse_143 ?_
                                refine lv_bipush (v := 112) hx hb dX7_makeHouse_146 (by decide) ?_
                                refine lv_iload_n hx hb dX7_makeHouse_148 rfl (lv_at hl 1 rfl) ?_
                                refine lv_imul hx hb dX7_makeHouse_149 ?_
                                refine lv_bipush (v := 28) hx hb dX7_makeHouse_150 (by decide) ?_
                                refine lv_iload_n hx hb dX7_makeHouse_152 rfl (lv_at hl 2 rfl) ?_
                                refine lv_imul hx hb dX7_makeHouse_153 ?_
                                refine lv_iadd hx hb dX7_makeHouse_154 ?_
                                refine lv_iload_n hx hb dX7_makeHouse_155 rfl (lv_at hl 3 rfl) ?_
                                refine lv_iadd hx hb dX7_makeHouse_156 ?_
                                refine lv_iload hx hb dX7_makeHouse_157 (lv_at hl 4 rfl) ?_
                                refine lv_if_eq (tgt := 184) hx hb dX7_makeHouse_159 (by decide) (fun c61 => ?_) (fun c61 => ?_)
                                · have hs := ifp c61 hs
                                  refine lv_iconst (v := 0) hx hb dX7_makeHouse_184 (by decide) ?_
                                  obtain ⟨r62, e62, hs⟩ := Option.bind_eq_some_iff.mp hs
                                  refine ms_30 hx hb hK hP hD hS rfl e62 dX7_makeHouse_185 (fun H locs hP hS => ?_)
                                  refine lv_iinc (v := (v69_3 + 1)) (lv' := [(3, .int (v69_3 + 1)), (0, .ref (b 0)), (1, .int v52_1), (2, .int v62_2), (4, .int v83_4), (5, .int v83_5)]) hx hb dX7_makeHouse_186 hl (k := 3) rfl (by rfl) (by decide) rfl (fun ls hl => ?_)
                                  refine lv_goto (tgt := 69) hx hb dX7_makeHouse_189 (by decide) ?_
                                  cases hs
                                  cases elim_inr hk83
                                  exact ih69 (v69_3 + 1) r62 hk69 _ _ hP hS _ (lv_sub hl [1, 2, 3, 0] rfl)
                                · have hs := ifn c61 hs
                                  refine lv_aload_n hx hb dX7_makeHouse_162 rfl (lv_at hl 0 rfl) ?_
                                  refine mg_29 hx hb hB hown hK hP dX7_makeHouse_163 ?_
                                  refine lv_iload_n hx hb dX7_makeHouse_166 rfl (lv_at hl 1 rfl) ?_
                                  obtain ⟨r63, e63, hs⟩ := Option.bind_eq_some_iff.mp hs
                                  refine ml_29 hx hb hK hP e63 dX7_makeHouse_167 ?_
                                  refine lv_if_eq (tgt := 184) hx hb dX7_makeHouse_168 (by decide) (fun c64 => ?_) (fun c64 => ?_)
                                  · have hs := ifp c64 hs
                                    refine lv_iconst (v := 0) hx hb dX7_makeHouse_184 (by decide) ?_
                                    obtain ⟨r65, e65, hs⟩ := Option.bind_eq_some_iff.mp hs
                                    refine ms_30 hx hb hK hP hD hS rfl e65 dX7_makeHouse_185 (fun H locs hP hS => ?_)
                                    refine lv_iinc (v := (v69_3 + 1)) (lv' := [(3, .int (v69_3 + 1)), (0, .ref (b 0)), (1, .int v52_1), (2, .int v62_2), (4, .int v83_4), (5, .int v83_5)]) hx hb dX7_makeHouse_186 hl (k := 3) rfl (by rfl) (by decide) rfl (fun ls hl => ?_)
                                    refine lv_goto (tgt := 69) hx hb dX7_makeHouse_189 (by decide) ?_
                                    cases hs
                                    cases elim_inr hk83
                                    exact ih69 (v69_3 + 1) r65 hk69 _ _ hP hS _ (lv_sub hl [1, 2, 3, 0] rfl)
                                  · have hs := ifn c64 hs
                                    refine lv_aload_n hx hb dX7_makeHouse_171 rfl (lv_at hl 0 rfl) ?_
                                    refine mg_29 hx hb hB hown hK hP dX7_makeHouse_172 ?_
                                    refine lv_iload_n hx hb dX7_makeHouse_175 rfl (lv_at hl 3 rfl) ?_
                                    obtain ⟨r66, e66, hs⟩ := Option.bind_eq_some_iff.mp hs
                                    refine ml_29 hx hb hK hP e66 dX7_makeHouse_176 ?_
                                    refine lv_if_eq (tgt := 184) hx hb dX7_makeHouse_177 (by decide) (fun c67 => ?_) (fun c67 => ?_)
                                    · have hs := ifp c67 hs
                                      refine lv_iconst (v := 0) hx hb dX7_makeHouse_184 (by decide) ?_
                                      obtain ⟨r68, e68, hs⟩ := Option.bind_eq_some_iff.mp hs
                                      refine ms_30 hx hb hK hP hD hS rfl e68 dX7_makeHouse_185 (fun H locs hP hS => ?_)
                                      refine lv_iinc (v := (v69_3 + 1)) (lv' := [(3, .int (v69_3 + 1)), (0, .ref (b 0)), (1, .int v52_1), (2, .int v62_2), (4, .int v83_4), (5, .int v83_5)]) hx hb dX7_makeHouse_186 hl (k := 3) rfl (by rfl) (by decide) rfl (fun ls hl => ?_)
                                      refine lv_goto (tgt := 69) hx hb dX7_makeHouse_189 (by decide) ?_
                                      cases hs
                                      cases elim_inr hk83
                                      exact ih69 (v69_3 + 1) r68 hk69 _ _ hP hS _ (lv_sub hl [1, 2, 3, 0] rfl)
                                    · have hs := ifn c67 hs
                                      refine lv_iconst (v := 1) hx hb dX7_makeHouse_180 (by decide) ?_
                                      refine lv_goto (tgt := 185) hx hb dX7_makeHouse_181 (by decide) ?_
                                      obtain ⟨r69, e69, hs⟩ := Option.bind_eq_some_iff.mp hs
                                      refine ms_30 hx hb hK hP hD hS rfl e69 dX7_makeHouse_185 (fun H locs hP hS => ?_)
                                      refine lv_iinc (v := (v69_3 + 1)) (lv' := [(3, .int (v69_3 + 1)), (0, .ref (b 0)), (1, .int v52_1), (2, .int v62_2), (4, .int v83_4), (5, .int v83_5)]) hx hb dX7_makeHouse_186 hl (k := 3) rfl (by rfl) (by decide) rfl (fun ls hl => ?_)
                                      refine lv_goto (tgt := 69) hx hb dX7_makeHouse_189 (by decide) ?_
                                      cases hs
                                      cases elim_inr hk83
                                      exact ih69 (v69_3 + 1) r69 hk69 _ _ hP hS _ (lv_sub hl [1, 2, 3, 0] rfl)
                              · have hs := ifn c60 hs
                                refine lv_iload hx hb dX7_makeHouse_89 (lv_at hl 4 rfl) ?_
                                refine lv_if_ne (tgt := 129) hx hb dX7_makeHouse_91 (by decide) (fun c70 => ?_) (fun c70 => ?_)
                                · have hs := ifn c70 hs
                                  refine lv_iconst (v := 1) hx hb dX7_makeHouse_129 (by decide) ?_
                                  refine lv_goto (tgt := 134) hx hb dX7_makeHouse_130 (by decide) ?_
                                  refine lv_istore (lv' := [(4, .int (1 : Int32)), (0, .ref (b 0)), (1, .int v52_1), (2, .int v62_2), (3, .int v69_3), (5, .int v83_5)]) hx hb dX7_makeHouse_134 hl (by decide) rfl (fun ls hl => ?_)
                                  refine lv_iinc (v := (v83_5 + 1)) (lv' := [(5, .int (v83_5 + 1)), (4, .int (1 : Int32)), (0, .ref (b 0)), (1, .int v52_1), (2, .int v62_2), (3, .int v69_3)]) hx hb dX7_makeHouse_136 hl (k := 5) rfl (by rfl) (by decide) rfl (fun ls hl => ?_)
                                  refine lv_goto (tgt := 83) hx hb dX7_makeHouse_139 (by decide) ?_
                                  cases hs
                                  exact ih83 (1 : Int32) (v83_5 + 1) hk83 _ _ hP hS _ (lv_sub hl [2, 3, 4, 5, 1, 0] rfl)
                                · have hs := ifp c70 hs
                                  refine lv_aload_n hx hb dX7_makeHouse_94 rfl (lv_at hl 0 rfl) ?_
                                  refine mg_26 hx hb hB hown hK hP dX7_makeHouse_95 ?_
                                  refine lv_iconst (v := 4) hx hb dX7_makeHouse_98 (by decide) ?_
                                  refine lv_iload hx hb dX7_makeHouse_99 (lv_at hl 5 rfl) ?_
                                  refine lv_imul hx hb dX7_makeHouse_101 ?_
                                  refine lv_iload_n hx hb dX7_makeHouse_102 rfl (lv_at hl 2 rfl) ?_
                                  refine lv_iadd hx hb dX7_makeHouse_103 ?_
                                  obtain ⟨r71, e71, hs⟩ := Option.bind_eq_some_iff.mp hs
                                  refine ml_26 hx hb hK hP e71 dX7_makeHouse_104 ?_
                                  refine lv_if_eq (tgt := 133) hx hb dX7_makeHouse_105 (by decide) (fun c72 => ?_) (fun c72 => ?_)
                                  · have hs := ifp c72 hs
                                    refine lv_iconst (v := 0) hx hb dX7_makeHouse_133 (by decide) ?_
                                    refine lv_istore (lv' := [(4, .int (0 : Int32)), (0, .ref (b 0)), (1, .int v52_1), (2, .int v62_2), (3, .int v69_3), (5, .int v83_5)]) hx hb dX7_makeHouse_134 hl (by decide) rfl (fun ls hl => ?_)
                                    refine lv_iinc (v := (v83_5 + 1)) (lv' := [(5, .int (v83_5 + 1)), (4, .int (0 : Int32)), (0, .ref (b 0)), (1, .int v52_1), (2, .int v62_2), (3, .int v69_3)]) hx hb dX7_makeHouse_136 hl (k := 5) rfl (by rfl) (by decide) rfl (fun ls hl => ?_)
                                    refine lv_goto (tgt := 83) hx hb dX7_makeHouse_139 (by decide) ?_
                                    cases hs
                                    exact ih83 (0 : Int32) (v83_5 + 1) hk83 _ _ hP hS _ (lv_sub hl [2, 3, 4, 5, 1, 0] rfl)
                                  · have hs := ifn c72 hs
                                    refine lv_aload_n hx hb dX7_makeHouse_108 rfl (lv_at hl 0 rfl) ?_
                                    refine mg_17 hx hb hB hown hK hP dX7_makeHouse_109 ?_
                                    refine lv_bipush (v := 112) hx hb dX7_makeHouse_112 (by decide) ?_
                                    refine lv_iload_n hx hb dX7_makeHouse_114 rfl (lv_at hl 1 rfl) ?_
                                    refine lv_imul hx hb dX7_makeHouse_115 ?_
                                    refine lv_bipush (v := 28) hx hb dX7_makeHouse_116 (by decide) ?_
                                    refine lv_iload hx hb dX7_makeHouse_118 (lv_at hl 5 rfl) ?_
                                    refine lv_imul hx hb dX7_makeHouse_120 ?_
                                    refine lv_iadd hx hb dX7_makeHouse_121 ?_
                                    refine lv_iload_n hx hb dX7_makeHouse_122 rfl (lv_at hl 3 rfl) ?_
                                    refine lv_iadd hx hb dX7_makeHouse_123 ?_
                                    obtain ⟨r73, e73, hs⟩ := Option.bind_eq_some_iff.mp hs
                                    refine ml_17 hx hb hK hP e73 dX7_makeHouse_124 ?_
                                    refine lv_iconst (v := -1) hx hb dX7_makeHouse_125 (by decide) ?_
                                    refine lv_icmp_eq (tgt := 133) hx hb dX7_makeHouse_126 (by decide) (fun c74 => ?_) (fun c74 => ?_)
                                    · have hs := ifp c74 hs
                                      refine lv_iconst (v := 0) hx hb dX7_makeHouse_133 (by decide) ?_
                                      refine lv_istore (lv' := [(4, .int (0 : Int32)), (0, .ref (b 0)), (1, .int v52_1), (2, .int v62_2), (3, .int v69_3), (5, .int v83_5)]) hx hb dX7_makeHouse_134 hl (by decide) rfl (fun ls hl => ?_)
                                      refine lv_iinc (v := (v83_5 + 1)) (lv' := [(5, .int (v83_5 + 1)), (4, .int (0 : Int32)), (0, .ref (b 0)), (1, .int v52_1), (2, .int v62_2), (3, .int v69_3)]) hx hb dX7_makeHouse_136 hl (k := 5) rfl (by rfl) (by decide) rfl (fun ls hl => ?_)
                                      refine lv_goto (tgt := 83) hx hb dX7_makeHouse_139 (by decide) ?_
                                      cases hs
                                      exact ih83 (0 : Int32) (v83_5 + 1) hk83 _ _ hP hS _ (lv_sub hl [2, 3, 4, 5, 1, 0] rfl)
                                    · have hs := ifn c74 hs
                                      refine lv_iconst (v := 1) hx hb dX7_makeHouse_129 (by decide) ?_
                                      refine lv_goto (tgt := 134) hx hb dX7_makeHouse_130 (by decide) ?_
                                      refine lv_istore (lv' := [(4, .int (1 : Int32)), (0, .ref (b 0)), (1, .int v52_1), (2, .int v62_2), (3, .int v69_3), (5, .int v83_5)]) hx hb dX7_makeHouse_134 hl (by decide) rfl (fun ls hl => ?_)
                                      refine lv_iinc (v := (v83_5 + 1)) (lv' := [(5, .int (v83_5 + 1)), (4, .int (1 : Int32)), (0, .ref (b 0)), (1, .int v52_1), (2, .int v62_2), (3, .int v69_3)]) hx hb dX7_makeHouse_136 hl (k := 5) rfl (by rfl) (by decide) rfl (fun ls hl => ?_)
                                      refine lv_goto (tgt := 83) hx hb dX7_makeHouse_139 (by decide) ?_
                                      cases hs
                                      exact ih83 (1 : Int32) (v83_5 + 1) hk83 _ _ hP hS _ (lv_sub hl [2, 3, 4, 5, 1, 0] rfl)
                          exact L83 n83 (0 : Int32) (0 : Int32) hs _ _ hP hS _ (lv_sub hl [2, 3, 4, 5, 1, 0] rfl)
                    exact L69 n69 (0 : Int32) z62 hs _ _ hP hS _ (lv_sub hl [1, 2, 3, 0] rfl)
              exact L62 n62 (0 : Int32) z52 hs _ _ hP hS _ (lv_sub hl [1, 2, 0] rfl)
        exact L52 n52 (0 : Int32) z2 hs _ _ hP hS _ (lv_sub hl [1, 0] rfl)
      · have hs := ifn c1 hs
        refine lv_aload_n hx hb dX7_makeHouse_10 rfl (lv_at hl 0 rfl) ?_
        refine mg_29 hx hb hB hown hK hP dX7_makeHouse_11 ?_
        refine lv_iload_n hx hb dX7_makeHouse_14 rfl (lv_at hl 1 rfl) ?_
        refine lv_aload_n hx hb dX7_makeHouse_15 rfl (lv_at hl 0 rfl) ?_
        refine lv_iload_n hx hb dX7_makeHouse_16 rfl (lv_at hl 1 rfl) ?_
        obtain ⟨r75, e75, hs⟩ := Option.bind_eq_some_iff.mp hs
        refine cV_roi (As := [.int v2_1]) (rest := [.int v2_1, .ref (b 22)]) hC (m_X7_isBegun l g b z2 v2_1 r75 e75) (kv_of hB bw_23_11 bw_23_9 bw_23_10 bw_1_5 kd_X7_isBegun bw_23_8 rfl rfl ⟨Nat.le_of_ble_eq_true rfl, Nat.le_of_ble_eq_true rfl⟩) hK hP hP hS (mW_0 g b z2) rfl rfl hl.1 rfl (Nat.le_of_ble_eq_true rfl) dX7_makeHouse_17 ⟨Nat.zero_le _, Nat.zero_le _⟩ (fun H locs hP hS => ?_)
        refine lv_if_eq (tgt := 42) hx hb dX7_makeHouse_20 (by decide) (fun c76 => ?_) (fun c76 => ?_)
        · have hs := ifp c76 hs
          refine lv_iconst (v := 0) hx hb dX7_makeHouse_42 (by decide) ?_
          obtain ⟨r77, e77, hs⟩ := Option.bind_eq_some_iff.mp hs
          refine ms_29 hx hb hK hP hD hS rfl e77 dX7_makeHouse_43 (fun H locs hP hS => ?_)
          refine lv_iinc (v := (v2_1 + 1)) (lv' := [(1, .int (v2_1 + 1)), (0, .ref (b 0))]) hx hb dX7_makeHouse_44 hl (k := 1) rfl (by rfl) (by decide) rfl (fun ls hl => ?_)
          refine lv_goto (tgt := 2) hx hb dX7_makeHouse_47 (by decide) ?_
          cases hs
          exact ih2 (v2_1 + 1) r77 hk2 _ _ hP hS _ (lv_sub hl [1, 0] rfl)
        · have hs := ifn c76 hs
          refine lv_aload_n hx hb dX7_makeHouse_23 rfl (lv_at hl 0 rfl) ?_
          refine mg_16 hx hb hB hown hK hP dX7_makeHouse_24 ?_
          refine lv_bipush (v := 28) hx hb dX7_makeHouse_27 (by decide) ?_
          refine lv_iload_n hx hb dX7_makeHouse_29 rfl (lv_at hl 1 rfl) ?_
          refine lv_imul hx hb dX7_makeHouse_30 ?_
          refine lv_iconst (v := 1) hx hb dX7_makeHouse_31 (by decide) ?_
          refine lv_iadd hx hb dX7_makeHouse_32 ?_
          obtain ⟨r78, e78, hs⟩ := Option.bind_eq_some_iff.mp hs
          refine ml_16 hx hb hK hP e78 dX7_makeHouse_33 ?_
          refine lv_iconst (v := -1) hx hb dX7_makeHouse_34 (by decide) ?_
          refine lv_icmp_ne (tgt := 42) hx hb dX7_makeHouse_35 (by decide) (fun c79 => ?_) (fun c79 => ?_)
          · have hs := ifn c79 hs
            refine lv_iconst (v := 0) hx hb dX7_makeHouse_42 (by decide) ?_
            obtain ⟨r80, e80, hs⟩ := Option.bind_eq_some_iff.mp hs
            refine ms_29 hx hb hK hP hD hS rfl e80 dX7_makeHouse_43 (fun H locs hP hS => ?_)
            refine lv_iinc (v := (v2_1 + 1)) (lv' := [(1, .int (v2_1 + 1)), (0, .ref (b 0))]) hx hb dX7_makeHouse_44 hl (k := 1) rfl (by rfl) (by decide) rfl (fun ls hl => ?_)
            refine lv_goto (tgt := 2) hx hb dX7_makeHouse_47 (by decide) ?_
            cases hs
            exact ih2 (v2_1 + 1) r80 hk2 _ _ hP hS _ (lv_sub hl [1, 0] rfl)
          · have hs := ifp c79 hs
            refine lv_iconst (v := 1) hx hb dX7_makeHouse_38 (by decide) ?_
            refine lv_goto (tgt := 43) hx hb dX7_makeHouse_39 (by decide) ?_
            obtain ⟨r81, e81, hs⟩ := Option.bind_eq_some_iff.mp hs
            refine ms_29 hx hb hK hP hD hS rfl e81 dX7_makeHouse_43 (fun H locs hP hS => ?_)
            refine lv_iinc (v := (v2_1 + 1)) (lv' := [(1, .int (v2_1 + 1)), (0, .ref (b 0))]) hx hb dX7_makeHouse_44 hl (k := 1) rfl (by rfl) (by decide) rfl (fun ls hl => ?_)
            refine lv_goto (tgt := 2) hx hb dX7_makeHouse_47 (by decide) ?_
            cases hs
            exact ih2 (v2_1 + 1) r81 hk2 _ _ hP hS _ (lv_sub hl [1, 0] rfl)
  exact L2 n2 (0 : Int32) st hs _ _ hP hS _ (lv_sub hl [1, 0] rfl)
