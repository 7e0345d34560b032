noncomputable def b_X7_isSo_163 (st : MS) (c163_1 : Int32) (c163_3 : Int32) (c163_4 : Int32) (c163_5 : Int32) (c163_6 : Int32) (v163_2 : Int32) (v163_7 : Int32) : Option ((Int32 × Int32) ⊕ ((Int32 × Int32) ⊕ ((Int32 × Int32) ⊕ Int32))) :=
  (if (st 0 0) ≤ v163_7 then some (Sum.inr (Sum.inl (v163_2, (c163_6 + 1)))) else (if v163_2 = 0 then some (Sum.inl ((0 : Int32), (v163_7 + 1))) else (Option.bind (rd 3136 (st 30) ((((112 : Int32) * c163_5) + ((28 : Int32) * c163_3)) + c163_6)) (fun r12 => (if r12 = 0 then some (Sum.inl ((1 : Int32), (v163_7 + 1))) else (Option.bind (rd 3136 (st 30) ((((112 : Int32) * c163_6) + ((28 : Int32) * c163_4)) + v163_7)) (fun r14 => (if r14 = 0 then some (Sum.inl ((1 : Int32), (v163_7 + 1))) else (Option.bind (rd 40 (st 9) c163_1) (fun r16 => (Option.bind (rd 3136 (st 30) ((((112 : Int32) * c163_5) + ((28 : Int32) * r16)) + v163_7)) (fun r17 => (if r17 = 0 then some (Sum.inl ((0 : Int32), (v163_7 + 1))) else some (Sum.inl ((1 : Int32), (v163_7 + 1))))))))))))))))
noncomputable def b_X7_isSo_85 (st : MS) (c85_1 : Int32) (c85_3 : Int32) (c85_4 : Int32) (c85_5 : Int32) (v85_2 : Int32) (v85_6 : Int32) : Option ((Int32 × Int32) ⊕ ((Int32 × Int32) ⊕ Int32)) :=
  (if (st 0 0) ≤ v85_6 then some (Sum.inr (Sum.inl (v85_2, (c85_5 + 1)))) else (Option.bind (rd 40 (st 6) c85_1) (fun r8 => (if r8 = (1 : Int32) then (if v85_2 = 0 then some (Sum.inl ((0 : Int32), (v85_6 + 1))) else (Option.bind (rd 3136 (st 30) ((((112 : Int32) * c85_5) + ((28 : Int32) * c85_3)) + v85_6)) (fun r20 => (if r20 = 0 then some (Sum.inl ((1 : Int32), (v85_6 + 1))) else (Option.bind (rd 3136 (st 30) ((((112 : Int32) * c85_5) + ((28 : Int32) * c85_4)) + v85_6)) (fun r22 => (if r22 = 0 then some (Sum.inl ((0 : Int32), (v85_6 + 1))) else some (Sum.inl ((1 : Int32), (v85_6 + 1)))))))))) else (loopC (fun v => b_X7_isSo_163 st c85_1 c85_3 c85_4 c85_5 v85_6 v.1 v.2) (v85_2, (0 : Int32)))))))
noncomputable def b_X7_isSo_20 (st : MS) (c20_1 : Int32) (c20_3 : Int32) (c20_4 : Int32) (v20_2 : Int32) (v20_5 : Int32) : Option ((Int32 × Int32) ⊕ Int32) :=
  (if (st 0 0) ≤ v20_5 then (Option.bind (zg v20_2) (fun r4 => some (Sum.inr (r4)))) else (Option.bind (rd 40 (st 6) c20_1) (fun r5 => (if r5 = 0 then (if v20_2 = 0 then some (Sum.inl ((0 : Int32), (v20_5 + 1))) else (Option.bind (rd 784 (st 31) (((28 : Int32) * v20_5) + c20_3)) (fun r25 => (if r25 = 0 then some (Sum.inl ((1 : Int32), (v20_5 + 1))) else (Option.bind (rd 784 (st 31) (((28 : Int32) * v20_5) + c20_4)) (fun r27 => (if r27 = 0 then some (Sum.inl ((0 : Int32), (v20_5 + 1))) else some (Sum.inl ((1 : Int32), (v20_5 + 1)))))))))) else (loopC (fun v => b_X7_isSo_85 st c20_1 c20_3 c20_4 v20_5 v.1 v.2) (v20_2, (0 : Int32)))))))
noncomputable def f_X7_isSo (st : MS) (p1 : Int32) : Option Int32 :=
  (Option.bind (rd 40 (st 7) p1) (fun r1 => (Option.bind (rd 40 (st 8) p1) (fun r2 => (loopC (fun v => b_X7_isSo_20 st p1 r1 r2 v.1 v.2) ((1 : Int32), (0 : Int32)))))))
set_option maxHeartbeats 4000000 in
set_option maxRecDepth 100000 in
theorem m_X7_isSo (l : Launch) (g : GG) (b : Nat → Nat) (st : MS) (p1 : Int32) (res : Int32) (hs : f_X7_isSo st p1 = some res) : Met l yX7_isSo (Cond.code yX7_isSo cX7_isSo 8 (some .boolean) :: BIG) ({ frames := 0, cells := 0, slots := 0, locals := 0 } : Room) (va_Pc [.ref (b 0), .int p1] (ROp g (mW g b st))) (ROi res) 0 0 (fun _ => False) := by
  refine ro_start (cc := cX7_isSo) (maxL := 8) (ret := (some .boolean)) (lv := [(0, .ref (b 0)), (1, .int p1)]) (by decide) rfl (Nat.le_of_ble_eq_true rfl) rfl ?_
  intro p e s m args below meth c hx hb hml hr hts hown hlk hK H locs hP hS ls hl
  have hB : ∀ w ∈ BIG, w.before args s = true := fun w h => hts w (List.mem_cons_of_mem _ h)
  have hC : CallFix p m c cX7_isSo 8 s args BIG RX7 := ⟨hx, hb, hml, hown, hB⟩
  unfold f_X7_isSo at hs
  refine lv_iconst (v := 1) hx hb dX7_isSo_0 (by decide) ?_
  refine lv_istore_n (lv' := [(2, .int (1 : Int32)), (0, .ref (b 0)), (1, .int p1)]) hx hb dX7_isSo_1 rfl hl (by decide) rfl (fun ls hl => ?_)
  refine lv_aload_n hx hb dX7_isSo_2 rfl (lv_at hl 1 rfl) ?_
  refine mg_7 hx hb hB hown hK hP dX7_isSo_3 ?_
  refine lv_iload_n hx hb dX7_isSo_6 rfl (lv_at hl 2 rfl) ?_
  obtain ⟨r1, e1, hs⟩ := Option.bind_eq_some_iff.mp hs
  refine ml_7 hx hb hK hP e1 dX7_isSo_7 ?_
  refine lv_istore_n (lv' := [(3, .int r1), (2, .int (1 : Int32)), (0, .ref (b 0)), (1, .int p1)]) hx hb dX7_isSo_8 rfl hl (by decide) rfl (fun ls hl => ?_)
  refine lv_aload_n hx hb dX7_isSo_9 rfl (lv_at hl 2 rfl) ?_
  refine mg_8 hx hb hB hown hK hP dX7_isSo_10 ?_
  refine lv_iload_n hx hb dX7_isSo_13 rfl (lv_at hl 3 rfl) ?_
  obtain ⟨r2, e2, hs⟩ := Option.bind_eq_some_iff.mp hs
  refine ml_8 hx hb hK hP e2 dX7_isSo_14 ?_
  refine lv_istore (lv' := [(4, .int r2), (3, .int r1), (2, .int (1 : Int32)), (0, .ref (b 0)), (1, .int p1)]) hx hb dX7_isSo_15 hl (by decide) rfl (fun ls hl => ?_)
  refine lv_iconst (v := 0) hx hb dX7_isSo_17 (by decide) ?_
  refine lv_istore (lv' := [(5, .int (0 : Int32)), (4, .int r2), (3, .int r1), (2, .int (1 : Int32)), (0, .ref (b 0)), (1, .int p1)]) hx hb dX7_isSo_18 hl (by decide) rfl (fun ls hl => ?_)
  obtain ⟨n20, hs⟩ := loopC_iter hs
  have L20 : ∀ (n : Nat) (v20_2 : Int32) (v20_5 : Int32), iterO (fun v => b_X7_isSo_20 st p1 r1 r2 v.1 v.2) n (v20_2, v20_5) = some res → ∀ (H : Heap) (locs : List Loc), va_P g.1 vwCl (mW g b st) H → va_S (fun _ => False) s.heap H locs → ∀ ls : Array Slot, lv_has ls 8 [(0, .ref (b 0)), (1, .int p1), (2, .int v20_2), (3, .int r1), (4, .int r2), (5, .int v20_5)] → W p l e ({ frames := 0, cells := 0, slots := 0, locals := 0 } : Room) s m args below meth c H locs 0 0 (MQ below (ROi res) args s 0 0 (fun _ => False)) (F0 m 20 ls []) := by
    intro n
    induction n with
    | zero => intro v20_2 v20_5 hs; exact (iterO_zero hs).elim
    | succ n ih20 =>
      intro v20_2 v20_5 hs H locs hP hS ls hl
      obtain ⟨y20, hs, hk20⟩ := iterO_succ hs
      have hs : b_X7_isSo_20 st p1 r1 r2 v20_2 v20_5 = some y20 := hs
      unfold b_X7_isSo_20 at hs
      refine lv_iload hx hb dX7_isSo_20 (lv_at hl 5 rfl) ?_
      refine lv_aload_n hx hb dX7_isSo_22 rfl (lv_at hl 0 rfl) ?_
      refine mg_0 hx hb hB hown hK hP dX7_isSo_23 ?_
      refine lv_icmp_ge (tgt := 269) hx hb dX7_isSo_26 (by decide) (fun c3 => ?_) (fun c3 => ?_)
      · have hs := ifp c3 hs
        refine lv_iload_n hx hb dX7_isSo_269 rfl (lv_at hl 2 rfl) ?_
        obtain ⟨r4, e4, hs⟩ := Option.bind_eq_some_iff.mp hs
        obtain ⟨z4, e4⟩ := zg_some e4
        subst e4
        cases hs
        cases elim_inr hk20
        exact ret_roz hx hb hr z4 hlk hS dX7_isSo_270
      · have hs := ifn c3 hs
        refine lv_aload_n hx hb dX7_isSo_29 rfl (lv_at hl 0 rfl) ?_
        refine mg_6 hx hb hB hown hK hP dX7_isSo_30 ?_
        refine lv_iload_n hx hb dX7_isSo_33 rfl (lv_at hl 1 rfl) ?_
        obtain ⟨r5, e5, hs⟩ := Option.bind_eq_some_iff.mp hs
        refine ml_6 hx hb hK hP e5 dX7_isSo_34 ?_
        refine lv_if_ne (tgt := 82) hx hb dX7_isSo_35 (by decide) (fun c6 => ?_) (fun c6 => ?_)
        · have hs := ifn c6 hs
          refine lv_iconst (v := 0) hx hb dX7_isSo_82 (by decide) ?_
          refine lv_istore (lv' := [(6, .int (0 : Int32)), (0, .ref (b 0)), (1, .int p1), (2, .int v20_2), (3, .int r1), (4, .int r2), (5, .int v20_5)]) hx hb dX7_isSo_83 hl (by decide) rfl (fun ls hl => ?_)
          obtain ⟨n85, hs⟩ := loopC_iter hs
          have L85 : ∀ (n : Nat) (v85_2 : Int32) (v85_6 : Int32), iterO (fun v => b_X7_isSo_85 st p1 r1 r2 v20_5 v.1 v.2) n (v85_2, v85_6) = some y20 → ∀ (H : Heap) (locs : List Loc), va_P g.1 vwCl (mW g b st) H → va_S (fun _ => False) s.heap H locs → ∀ ls : Array Slot, lv_has ls 8 [(0, .ref (b 0)), (1, .int p1), (2, .int v85_2), (3, .int r1), (4, .int r2), (5, .int v20_5), (6, .int v85_6)] → W p l e ({ frames := 0, cells := 0, slots := 0, locals := 0 } : Room) s m args below meth c H locs 0 0 (MQ below (ROi res) args s 0 0 (fun _ => False)) (F0 m 85 ls []) := by
            intro n
            induction n with
            | zero => intro v85_2 v85_6 hs; exact (iterO_zero hs).elim
            | succ n ih85 =>
              intro v85_2 v85_6 hs H locs hP hS ls hl
              obtain ⟨y85, hs, hk85⟩ := iterO_succ hs
              have hs : b_X7_isSo_85 st p1 r1 r2 v20_5 v85_2 v85_6 = some y85 := hs
              unfold b_X7_isSo_85 at hs
              refine lv_iload hx hb dX7_isSo_85 (lv_at hl 6 rfl) ?_
              refine lv_aload_n hx hb dX7_isSo_87 rfl (lv_at hl 0 rfl) ?_
              refine mg_0 hx hb hB hown hK hP dX7_isSo_88 ?_
              refine lv_icmp_ge (tgt := 263) hx hb dX7_isSo_91 (by decide) (fun c7 => ?_) (fun c7 => ?_)
              · have hs := ifp c7 hs
                refine lv_iinc (v := (v20_5 + 1)) (lv' := [(5, .int (v20_5 + 1)), (0, .ref (b 0)), (1, .int p1), (2, .int v85_2), (3, .int r1), (4, .int r2), (6, .int v85_6)]) hx hb dX7_isSo_263 hl (k := 5) rfl (by rfl) (by decide) rfl (fun ls hl => ?_)
                refine lv_goto (tgt := 20) hx hb dX7_isSo_266 (by decide) ?_
                cases hs
                cases elim_inr hk85
                exact ih20 v85_2 (v20_5 + 1) hk20 _ _ hP hS _ (lv_sub hl [1, 2, 3, 4, 5, 0] rfl)
              · have hs := ifn c7 hs
                refine lv_aload_n hx hb dX7_isSo_94 rfl (lv_at hl 0 rfl) ?_
                refine mg_6 hx hb hB hown hK hP dX7_isSo_95 ?_
                refine lv_iload_n hx hb dX7_isSo_98 rfl (lv_at hl 1 rfl) ?_
                obtain ⟨r8, e8, hs⟩ := Option.bind_eq_some_iff.mp hs
                refine ml_6 hx hb hK hP e8 dX7_isSo_99 ?_
                refine lv_iconst (v := 1) hx hb dX7_isSo_100 (by decide) ?_
                refine lv_icmp_ne (tgt := 160) hx hb dX7_isSo_101 (by decide) (fun c9 => ?_) (fun c9 => ?_)
                · have hs := ifn c9 hs
                  refine lv_iconst (v := 0) hx hb dX7_isSo_160 (by decide) ?_
                  refine lv_istore (lv' := [(7, .int (0 : Int32)), (0, .ref (b 0)), (1, .int p1), (2, .int v85_2), (3, .int r1), (4, .int r2), (5, .int v20_5), (6, .int v85_6)]) hx hb dX7_isSo_161 hl (by decide) rfl (fun ls hl => ?_)
                  obtain ⟨n163, hs⟩ := loopC_iter hs
                  have L163 : ∀ (n : Nat) (v163_2 : Int32) (v163_7 : Int32), iterO (fun v => b_X7_isSo_163 st p1 r1 r2 v20_5 v85_6 v.1 v.2) n (v163_2, v163_7) = some y85 → ∀ (H : Heap) (locs : List Loc), va_P g.1 vwCl (mW g b st) H → va_S (fun _ => False) s.heap H locs → ∀ ls : Array Slot, lv_has ls 8 [(0, .ref (b 0)), (1, .int p1), (2, .int v163_2), (3, .int r1), (4, .int r2), (5, .int v20_5), (6, .int v85_6), (7, .int v163_7)] → W p l e ({ frames := 0, cells := 0, slots := 0, locals := 0 } : Room) s m args below meth c H locs 0 0 (MQ below (ROi res) args s 0 0 (fun _ => False)) (F0 m 163 ls []) := by
                    intro n
                    induction n with
                    | zero => intro v163_2 v163_7 hs; exact (iterO_zero hs).elim
                    | succ n ih163 =>
                      intro v163_2 v163_7 hs H locs hP hS ls hl
                      obtain ⟨y163, hs, hk163⟩ := iterO_succ hs
                      have hs : b_X7_isSo_163 st p1 r1 r2 v20_5 v85_6 v163_2 v163_7 = some y163 := hs
                      unfold b_X7_isSo_163 at hs
                      refine lv_iload hx hb dX7_isSo_163 (lv_at hl 7 rfl) ?_
                      refine lv_aload_n hx hb dX7_isSo_165 rfl (lv_at hl 0 rfl) ?_
                      refine mg_0 hx hb hB hown hK hP dX7_isSo_166 ?_
                      refine lv_icmp_ge (tgt := 257) hx hb dX7_isSo_169 (by decide) (fun c10 => ?_) (fun c10 => ?_)
                      · have hs := ifp c10 hs
                        refine lv_iinc (v := (v85_6 + 1)) (lv' := [(6, .int (v85_6 + 1)), (0, .ref (b 0)), (1, .int p1), (2, .int v163_2), (3, .int r1), (4, .int r2), (5, .int v20_5), (7, .int v163_7)]) hx hb dX7_isSo_257 hl (k := 6) rfl (by rfl) (by decide) rfl (fun ls hl => ?_)
                        refine lv_goto (tgt := 85) hx hb dX7_isSo_260 (by decide) ?_
                        cases hs
                        cases elim_inr hk163
                        exact ih85 v163_2 (v85_6 + 1) hk85 _ _ hP hS _ (lv_sub hl [1, 2, 3, 4, 5, 6, 0] rfl)
                      · have hs := ifn c10 hs
                        refine lv_iload_n hx hb dX7_isSo_172 rfl (lv_at hl 2 rfl) ?_
                        refine lv_if_eq (tgt := 249) hx hb dX7_isSo_173 (by decide) (fun c11 => ?_) (fun c11 => ?_)
                        · have hs := ifp c11 hs
                          refine lv_iconst (v := 0) hx hb dX7_isSo_249 (by decide) ?_
                          refine lv_istore_n (lv' := [(2, .int (0 : Int32)), (0, .ref (b 0)), (1, .int p1), (3, .int r1), (4, .int r2), (5, .int v20_5), (6, .int v85_6), (7, .int v163_7)]) hx hb dX7_isSo_250 rfl hl (by decide) rfl (fun ls hl => ?_)
                          refine lv_iinc (v := (v163_7 + 1)) (lv' := [(7, .int (v163_7 + 1)), (2, .int (0 : Int32)), (0, .ref (b 0)), (1, .int p1), (3, .int r1), (4, .int r2), (5, .int v20_5), (6, .int v85_6)]) hx hb dX7_isSo_251 hl (k := 7) rfl (by rfl) (by decide) rfl (fun ls hl => ?_)
                          refine lv_goto (tgt := 163) hx hb dX7_isSo_254 (by decide) ?_
                          cases hs
                          exact ih163 (0 : Int32) (v163_7 + 1) hk163 _ _ hP hS _ (lv_sub hl [2, 3, 1, 4, 5, 6, 7, 0] rfl)
                        · have hs := ifn c11 hs
                          refine lv_aload_n hx hb dX7_isSo_176 rfl (lv_at hl 0 rfl) ?_
                          refine mg_30 hx hb hB hown hK hP dX7_isSo_177 ?_
                          refine lv_bipush (v := 112) hx hb dX7_isSo_180 (by decide) ?_
                          refine lv_iload hx hb dX7_isSo_182 (lv_at hl 5 rfl) ?_
                          refine lv_imul hx hb dX7_isSo_184 ?_
                          refine lv_bipush (v := 28) hx hb dX7_isSo_185 (by decide) ?_
                          refine lv_iload_n hx hb dX7_isSo_187 rfl (lv_at hl 3 rfl) ?_
                          refine lv_imul hx hb dX7_isSo_188 ?_
                          refine lv_iadd hx hb dX7_isSo_189 ?_
                          refine lv_iload hx hb dX7_isSo_190 (lv_at hl 6 rfl) ?_
                          refine lv_iadd hx hb dX7_isSo_192 ?_
                          obtain ⟨r12, e12, hs⟩ := Option.bind_eq_some_iff.mp hs
                          refine ml_30 hx hb hK hP e12 dX7_isSo_193 ?_
                          refine lv_if_eq (tgt := 245) hx hb dX7_isSo_194 (by decide) (fun c13 => ?_) (fun c13 => ?_)
                          · have hs := ifp c13 hs
                            refine lv_iconst (v := 1) hx hb dX7_isSo_245 (by decide) ?_
                            refine lv_goto (tgt := 250) hx hb dX7_isSo_246 (by decide) ?_
                            refine lv_istore_n (lv' := [(2, .int (1 : Int32)), (0, .ref (b 0)), (1, .int p1), (3, .int r1), (4, .int r2), (5, .int v20_5), (6, .int v85_6), (7, .int v163_7)]) hx hb dX7_isSo_250 rfl hl (by decide) rfl (fun ls hl => ?_)
                            refine lv_iinc (v := (v163_7 + 1)) (lv' := [(7, .int (v163_7 + 1)), (2, .int (1 : Int32)), (0, .ref (b 0)), (1, .int p1), (3, .int r1), (4, .int r2), (5, .int v20_5), (6, .int v85_6)]) hx hb dX7_isSo_251 hl (k := 7) rfl (by rfl) (by decide) rfl (fun ls hl => ?_)
                            refine lv_goto (tgt := 163) hx hb dX7_isSo_254 (by decide) ?_
                            cases hs
                            exact ih163 (1 : Int32) (v163_7 + 1) hk163 _ _ hP hS _ (lv_sub hl [2, 3, 1, 4, 5, 6, 7, 0] rfl)
                          · have hs := ifn c13 hs
                            refine lv_aload_n hx hb dX7_isSo_197 rfl (lv_at hl 0 rfl) ?_
                            refine mg_30 hx hb hB hown hK hP dX7_isSo_198 ?_
                            refine lv_bipush (v := 112) hx hb dX7_isSo_201 (by decide) ?_
                            refine lv_iload hx hb dX7_isSo_203 (lv_at hl 6 rfl) ?_
                            refine lv_imul hx hb dX7_isSo_205 ?_
                            refine lv_bipush (v := 28) hx hb dX7_isSo_206 (by decide) ?_
                            refine lv_iload hx hb dX7_isSo_208 (lv_at hl 4 rfl) ?_
                            refine lv_imul hx hb dX7_isSo_210 ?_
                            refine lv_iadd hx hb dX7_isSo_211 ?_
                            refine lv_iload hx hb dX7_isSo_212 (lv_at hl 7 rfl) ?_
                            refine lv_iadd hx hb dX7_isSo_214 ?_
                            obtain ⟨r14, e14, hs⟩ := Option.bind_eq_some_iff.mp hs
                            refine ml_30 hx hb hK hP e14 dX7_isSo_215 ?_
                            refine lv_if_eq (tgt := 245) hx hb dX7_isSo_216 (by decide) (fun c15 => ?_) (fun c15 => ?_)
                            · have hs := ifp c15 hs
                              refine lv_iconst (v := 1) hx hb dX7_isSo_245 (by decide) ?_
                              refine lv_goto (tgt := 250) hx hb dX7_isSo_246 (by decide) ?_
                              refine lv_istore_n (lv' := [(2, .int (1 : Int32)), (0, .ref (b 0)), (1, .int p1), (3, .int r1), (4, .int r2), (5, .int v20_5), (6, .int v85_6), (7, .int v163_7)]) hx hb dX7_isSo_250 rfl hl (by decide) rfl (fun ls hl => ?_)
                              refine lv_iinc (v := (v163_7 + 1)) (lv' := [(7, .int (v163_7 + 1)), (2, .int (1 : Int32)), (0, .ref (b 0)), (1, .int p1), (3, .int r1), (4, .int r2), (5, .int v20_5), (6, .int v85_6)]) hx hb dX7_isSo_251 hl (k := 7) rfl (by rfl) (by decide) rfl (fun ls hl => ?_)
                              refine lv_goto (tgt := 163) hx hb dX7_isSo_254 (by decide) ?_
                              cases hs
                              exact ih163 (1 : Int32) (v163_7 + 1) hk163 _ _ hP hS _ (lv_sub hl [2, 3, 1, 4, 5, 6, 7, 0] rfl)
                            · have hs := ifn c15 hs
                              refine lv_aload_n hx hb dX7_isSo_219 rfl (lv_at hl 0 rfl) ?_
                              refine mg_30 hx hb hB hown hK hP dX7_isSo_220 ?_
                              refine lv_bipush (v := 112) hx hb dX7_isSo_223 (by decide) ?_
                              refine lv_iload hx hb dX7_isSo_225 (lv_at hl 5 rfl) ?_
                              refine lv_imul hx hb dX7_isSo_227 ?_
                              refine lv_bipush (v := 28) hx hb dX7_isSo_228 (by decide) ?_
                              refine lv_aload_n hx hb dX7_isSo_230 rfl (lv_at hl 0 rfl) ?_
                              refine mg_9 hx hb hB hown hK hP dX7_isSo_231 ?_
                              refine lv_iload_n hx hb dX7_isSo_234 rfl (lv_at hl 1 rfl) ?_
                              obtain ⟨r16, e16, hs⟩ := Option.bind_eq_some_iff.mp hs
                              refine ml_9 hx hb hK hP e16 dX7_isSo_235 ?_
                              refine lv_imul hx hb dX7_isSo_236 ?_
                              refine lv_iadd hx hb dX7_isSo_237 ?_
                              refine lv_iload hx hb dX7_isSo_238 (lv_at hl 7 rfl) ?_
                              refine lv_iadd hx hb dX7_isSo_240 ?_
                              obtain ⟨r17, e17, hs⟩ := Option.bind_eq_some_iff.mp hs
                              refine ml_30 hx hb hK hP e17 dX7_isSo_241 ?_
                              refine lv_if_eq (tgt := 249) hx hb dX7_isSo_242 (by decide) (fun c18 => ?_) (fun c18 => ?_)
                              · have hs := ifp c18 hs
                                refine lv_iconst (v := 0) hx hb dX7_isSo_249 (by decide) ?_
                                refine lv_istore_n (lv' := [(2, .int (0 : Int32)), (0, .ref (b 0)), (1, .int p1), (3, .int r1), (4, .int r2), (5, .int v20_5), (6, .int v85_6), (7, .int v163_7)]) hx hb dX7_isSo_250 rfl hl (by decide) rfl (fun ls hl => ?_)
                                refine lv_iinc (v := (v163_7 + 1)) (lv' := [(7, .int (v163_7 + 1)), (2, .int (0 : Int32)), (0, .ref (b 0)), (1, .int p1), (3, .int r1), (4, .int r2), (5, .int v20_5), (6, .int v85_6)]) hx hb dX7_isSo_251 hl (k := 7) rfl (by rfl) (by decide) rfl (fun ls hl => ?_)
                                refine lv_goto (tgt := 163) hx hb dX7_isSo_254 (by decide) ?_
                                cases hs
                                exact ih163 (0 : Int32) (v163_7 + 1) hk163 _ _ hP hS _ (lv_sub hl [2, 3, 1, 4, 5, 6, 7, 0] rfl)
                              · have hs := ifn c18 hs
                                refine lv_iconst (v := 1) hx hb dX7_isSo_245 (by decide) ?_
                                refine lv_goto (tgt := 250) hx hb dX7_isSo_246 (by decide) ?_
                                refine lv_istore_n (lv' := [(2, .int (1 : Int32)), (0, .ref (b 0)), (1, .int p1), (3, .int r1), (4, .int r2), (5, .int v20_5), (6, .int v85_6), (7, .int v163_7)]) hx hb dX7_isSo_250 rfl hl (by decide) rfl (fun ls hl => ?_)
                                refine lv_iinc (v := (v163_7 + 1)) (lv' := [(7, .int (v163_7 + 1)), (2, .int (1 : Int32)), (0, .ref (b 0)), (1, .int p1), (3, .int r1), (4, .int r2), (5, .int v20_5), (6, .int v85_6)]) hx hb dX7_isSo_251 hl (k := 7) rfl (by rfl) (by decide) rfl (fun ls hl => ?_)
                                refine lv_goto (tgt := 163) hx hb dX7_isSo_254 (by decide) ?_
                                cases hs
                                exact ih163 (1 : Int32) (v163_7 + 1) hk163 _ _ hP hS _ (lv_sub hl [2, 3, 1, 4, 5, 6, 7, 0] rfl)
                  exact L163 n163 v85_2 (0 : Int32) hs _ _ hP hS _ (lv_sub hl [1, 2, 3, 4, 5, 6, 7, 0] rfl)
                · have hs := ifp c9 hs
                  refine lv_iload_n hx hb dX7_isSo_104 rfl (lv_at hl 2 rfl) ?_
                  refine lv_if_eq (tgt := 155) hx hb dX7_isSo_105 (by decide) (fun c19 => ?_) (fun c19 => ?_)
                  · have hs := ifp c19 hs
                    refine lv_iconst (v := 0) hx hb dX7_isSo_155 (by decide) ?_
                    refine lv_istore_n (lv' := [(2, .int (0 : Int32)), (0, .ref (b 0)), (1, .int p1), (3, .int r1), (4, .int r2), (5, .int v20_5), (6, .int v85_6)]) hx hb dX7_isSo_156 rfl hl (by decide) rfl (fun ls hl => ?_)
                    refine lv_goto (tgt := 257) hx hb dX7_isSo_157 (by decide) ?_
                    refine lv_iinc (v := (v85_6 + 1)) (lv' := [(6, .int (v85_6 + 1)), (2, .int (0 : Int32)), (0, .ref (b 0)), (1, .int p1), (3, .int r1), (4, .int r2), (5, .int v20_5)]) hx hb dX7_isSo_257 hl (k := 6) rfl (by rfl) (by decide) rfl (fun ls hl => ?_)
                    refine lv_goto (tgt := 85) hx hb dX7_isSo_260 (by decide) ?_
                    cases hs
                    exact ih85 (0 : Int32) (v85_6 + 1) hk85 _ _ hP hS _ (lv_sub hl [2, 3, 1, 4, 5, 6, 0] rfl)
                  · have hs := ifn c19 hs
                    refine lv_aload_n hx hb dX7_isSo_108 rfl (lv_at hl 0 rfl) ?_
                    refine mg_30 hx hb hB hown hK hP dX7_isSo_109 ?_
                    refine lv_bipush (v := 112) hx hb dX7_isSo_112 (by decide) ?_
                    refine lv_iload hx hb dX7_isSo_114 (lv_at hl 5 rfl) ?_
                    refine lv_imul hx hb dX7_isSo_116 ?_
                    refine lv_bipush (v := 28) hx hb dX7_isSo_117 (by decide) ?_
                    refine lv_iload_n hx hb dX7_isSo_119 rfl (lv_at hl 3 rfl) ?_
                    refine lv_imul hx hb dX7_isSo_120 ?_
                    refine lv_iadd hx hb dX7_isSo_121 ?_
                    refine lv_iload hx hb dX7_isSo_122 (lv_at hl 6 rfl) ?_
                    refine lv_iadd hx hb dX7_isSo_124 ?_
                    obtain ⟨r20, e20, hs⟩ := Option.bind_eq_some_iff.mp hs
                    refine ml_30 hx hb hK hP e20 dX7_isSo_125 ?_
                    refine lv_if_eq (tgt := 151) hx hb dX7_isSo_126 (by decide) (fun c21 => ?_) (fun c21 => ?_)
                    · have hs := ifp c21 hs
                      refine lv_iconst (v := 1) hx hb dX7_isSo_151 (by decide) ?_
                      refine lv_goto (tgt := 156) hx hb dX7_isSo_152 (by decide) ?_
                      refine lv_istore_n (lv' := [(2, .int (1 : Int32)), (0, .ref (b 0)), (1, .int p1), (3, .int r1), (4, .int r2), (5, .int v20_5), (6, .int v85_6)]) hx hb dX7_isSo_156 rfl hl (by decide) rfl (fun ls hl => ?_)
                      refine lv_goto (tgt := 257) hx hb dX7_isSo_157 (by decide) ?_
                      refine lv_iinc (v := (v85_6 + 1)) (lv' := [(6, .int (v85_6 + 1)), (2, .int (1 : Int32)), (0, .ref (b 0)), (1, .int p1), (3, .int r1), (4, .int r2), (5, .int v20_5)]) hx hb dX7_isSo_257 hl (k := 6) rfl (by rfl) (by decide) rfl (fun ls hl => ?_)
                      refine lv_goto (tgt := 85) hx hb dX7_isSo_260 (by decide) ?_
                      cases hs
                      exact ih85 (1 : Int32) (v85_6 + 1) hk85 _ _ hP hS _ (lv_sub hl [2, 3, 1, 4, 5, 6, 0] rfl)
                    · have hs := ifn c21 hs
                      refine lv_aload_n hx hb dX7_isSo_129 rfl (lv_at hl 0 rfl) ?_
                      refine mg_30 hx hb hB hown hK hP dX7_isSo_130 ?_
                      refine lv_bipush (v := 112) hx hb dX7_isSo_133 (by decide) ?_
                      refine lv_iload hx hb dX7_isSo_135 (lv_at hl 5 rfl) ?_
                      refine lv_imul hx hb dX7_isSo_137 ?_
                      refine lv_bipush (v := 28) hx hb dX7_isSo_138 (by decide) ?_
                      refine lv_iload hx hb dX7_isSo_140 (lv_at hl 4 rfl) ?_
                      refine lv_imul hx hb dX7_isSo_142 ?_
                      refine lv_iadd hx hb dX7_isSo_143 ?_
                      refine lv_iload hx hb dX7_isSo_144 (lv_at hl 6 rfl) ?_
                      refine lv_iadd hx hb dX7_isSo_146 ?_
                      obtain ⟨r22, e22, hs⟩ := Option.bind_eq_some_iff.mp hs
                      refine ml_30 hx hb hK hP e22 dX7_isSo_147 ?_
                      refine lv_if_eq (tgt := 155) hx hb dX7_isSo_148 (by decide) (fun c23 => ?_) (fun c23 => ?_)
                      · have hs := ifp c23 hs
                        refine lv_iconst (v := 0) hx hb dX7_isSo_155 (by decide) ?_
                        refine lv_istore_n (lv' := [(2, .int (0 : Int32)), (0, .ref (b 0)), (1, .int p1), (3, .int r1), (4, .int r2), (5, .int v20_5), (6, .int v85_6)]) hx hb dX7_isSo_156 rfl hl (by decide) rfl (fun ls hl => ?_)
                        refine lv_goto (tgt := 257) hx hb dX7_isSo_157 (by decide) ?_
                        refine lv_iinc (v := (v85_6 + 1)) (lv' := [(6, .int (v85_6 + 1)), (2, .int (0 : Int32)), (0, .ref (b 0)), (1, .int p1), (3, .int r1), (4, .int r2), (5, .int v20_5)]) hx hb dX7_isSo_257 hl (k := 6) rfl (by rfl) (by decide) rfl (fun ls hl => ?_)
                        refine lv_goto (tgt := 85) hx hb dX7_isSo_260 (by decide) ?_
                        cases hs
                        exact ih85 (0 : Int32) (v85_6 + 1) hk85 _ _ hP hS _ (lv_sub hl [2, 3, 1, 4, 5, 6, 0] rfl)
                      · have hs := ifn c23 hs
                        refine lv_iconst (v := 1) hx hb dX7_isSo_151 (by decide) ?_
                        refine lv_goto (tgt := 156) hx hb dX7_isSo_152 (by decide) ?_
                        refine lv_istore_n (lv' := [(2, .int (1 : Int32)), (0, .ref (b 0)), (1, .int p1), (3, .int r1), (4, .int r2), (5, .int v20_5), (6, .int v85_6)]) hx hb dX7_isSo_156 rfl hl (by decide) rfl (fun ls hl => ?_)
                        refine lv_goto (tgt := 257) hx hb dX7_isSo_157 (by decide) ?_
                        refine lv_iinc (v := (v85_6 + 1)) (lv' := [(6, .int (v85_6 + 1)), (2, .int (1 : Int32)), (0, .ref (b 0)), (1, .int p1), (3, .int r1), (4, .int r2), (5, .int v20_5)]) hx hb dX7_isSo_257 hl (k := 6) rfl (by rfl) (by decide) rfl (fun ls hl => ?_)
                        refine lv_goto (tgt := 85) hx hb dX7_isSo_260 (by decide) ?_
                        cases hs
                        exact ih85 (1 : Int32) (v85_6 + 1) hk85 _ _ hP hS _ (lv_sub hl [2, 3, 1, 4, 5, 6, 0] rfl)
          exact L85 n85 v20_2 (0 : Int32) hs _ _ hP hS _ (lv_sub hl [1, 2, 3, 4, 5, 6, 0] rfl)
        · have hs := ifp c6 hs
          refine lv_iload_n hx hb dX7_isSo_38 rfl (lv_at hl 2 rfl) ?_
          refine lv_if_eq (tgt := 77) hx hb dX7_isSo_39 (by decide) (fun c24 => ?_) (fun c24 => ?_)
          · have hs := ifp c24 hs
            refine lv_iconst (v := 0) hx hb dX7_isSo_77 (by decide) ?_
            refine lv_istore_n (lv' := [(2, .int (0 : Int32)), (0, .ref (b 0)), (1, .int p1), (3, .int r1), (4, .int r2), (5, .int v20_5)]) hx hb dX7_isSo_78 rfl hl (by decide) rfl (fun ls hl => ?_)
            refine lv_goto (tgt := 263) hx hb dX7_isSo_79 (by decide) ?_
            refine lv_iinc (v := (v20_5 + 1)) (lv' := [(5, .int (v20_5 + 1)), (2, .int (0 : Int32)), (0, .ref (b 0)), (1, .int p1), (3, .int r1), (4, .int r2)]) hx hb dX7_isSo_263 hl (k := 5) rfl (by rfl) (by decide) rfl (fun ls hl => ?_)
            refine lv_goto (tgt := 20) hx hb dX7_isSo_266 (by decide) ?_
            cases hs
            exact ih20 (0 : Int32) (v20_5 + 1) hk20 _ _ hP hS _ (lv_sub hl [2, 3, 1, 4, 5, 0] rfl)
          · have hs := ifn c24 hs
            refine lv_aload_n hx hb dX7_isSo_42 rfl (lv_at hl 0 rfl) ?_
            refine mg_31 hx hb hB hown hK hP dX7_isSo_43 ?_
            refine lv_bipush (v := 28) hx hb dX7_isSo_46 (by decide) ?_
            refine lv_iload hx hb dX7_isSo_48 (lv_at hl 5 rfl) ?_
            refine lv_imul hx hb dX7_isSo_50 ?_
            refine lv_iload_n hx hb dX7_isSo_51 rfl (lv_at hl 3 rfl) ?_
            refine lv_iadd hx hb dX7_isSo_52 ?_
            obtain ⟨r25, e25, hs⟩ := Option.bind_eq_some_iff.mp hs
            refine ml_31 hx hb hK hP e25 dX7_isSo_53 ?_
            refine lv_if_eq (tgt := 73) hx hb dX7_isSo_54 (by decide) (fun c26 => ?_) (fun c26 => ?_)
            · have hs := ifp c26 hs
              refine lv_iconst (v := 1) hx hb dX7_isSo_73 (by decide) ?_
              refine lv_goto (tgt := 78) hx hb dX7_isSo_74 (by decide) ?_
              refine lv_istore_n (lv' := [(2, .int (1 : Int32)), (0, .ref (b 0)), (1, .int p1), (3, .int r1), (4, .int r2), (5, .int v20_5)]) hx hb dX7_isSo_78 rfl hl (by decide) rfl (fun ls hl => ?_)
              refine lv_goto (tgt := 263) hx hb dX7_isSo_79 (by decide) ?_
              refine lv_iinc (v := (v20_5 + 1)) (lv' := [(5, .int (v20_5 + 1)), (2, .int (1 : Int32)), (0, .ref (b 0)), (1, .int p1), (3, .int r1), (4, .int r2)]) hx hb dX7_isSo_263 hl (k := 5) rfl (by rfl) (by decide) rfl (fun ls hl => ?_)
              refine lv_goto (tgt := 20) hx hb dX7_isSo_266 (by decide) ?_
              cases hs
              exact ih20 (1 : Int32) (v20_5 + 1) hk20 _ _ hP hS _ (lv_sub hl [2, 3, 1, 4, 5, 0] rfl)
            · have hs := ifn c26 hs
              refine lv_aload_n hx hb dX7_isSo_57 rfl (lv_at hl 0 rfl) ?_
              refine mg_31 hx hb hB hown hK hP dX7_isSo_58 ?_
              refine lv_bipush (v := 28) hx hb dX7_isSo_61 (by decide) ?_
              refine lv_iload hx hb dX7_isSo_63 (lv_at hl 5 rfl) ?_
              refine lv_imul hx hb dX7_isSo_65 ?_
              refine lv_iload hx hb dX7_isSo_66 (lv_at hl 4 rfl) ?_
              refine lv_iadd hx hb dX7_isSo_68 ?_
              obtain ⟨r27, e27, hs⟩ := Option.bind_eq_some_iff.mp hs
              refine ml_31 hx hb hK hP e27 dX7_isSo_69 ?_
              refine lv_if_eq (tgt := 77) hx hb dX7_isSo_70 (by decide) (fun c28 => ?_) (fun c28 => ?_)
              · have hs := ifp c28 hs
                refine lv_iconst (v := 0) hx hb dX7_isSo_77 (by decide) ?_
                refine lv_istore_n (lv' := [(2, .int (0 : Int32)), (0, .ref (b 0)), (1, .int p1), (3, .int r1), (4, .int r2), (5, .int v20_5)]) hx hb dX7_isSo_78 rfl hl (by decide) rfl (fun ls hl => ?_)
                refine lv_goto (tgt := 263) hx hb dX7_isSo_79 (by decide) ?_
                refine lv_iinc (v := (v20_5 + 1)) (lv' := [(5, .int (v20_5 + 1)), (2, .int (0 : Int32)), (0, .ref (b 0)), (1, .int p1), (3, .int r1), (4, .int r2)]) hx hb dX7_isSo_263 hl (k := 5) rfl (by rfl) (by decide) rfl (fun ls hl => ?_)
                refine lv_goto (tgt := 20) hx hb dX7_isSo_266 (by decide) ?_
                cases hs
                exact ih20 (0 : Int32) (v20_5 + 1) hk20 _ _ hP hS _ (lv_sub hl [2, 3, 1, 4, 5, 0] rfl)
              · have hs := ifn c28 hs
                refine lv_iconst (v := 1) hx hb dX7_isSo_73 (by decide) ?_
                refine lv_goto (tgt := 78) hx hb dX7_isSo_74 (by decide) ?_
                refine lv_istore_n (lv' := [(2, .int (1 : Int32)), (0, .ref (b 0)), (1, .int p1), (3, .int r1), (4, .int r2), (5, .int v20_5)]) hx hb dX7_isSo_78 rfl hl (by decide) rfl (fun ls hl => ?_)
                refine lv_goto (tgt := 263) hx hb dX7_isSo_79 (by decide) ?_
                refine lv_iinc (v := (v20_5 + 1)) (lv' := [(5, .int (v20_5 + 1)), (2, .int (1 : Int32)), (0, .ref (b 0)), (1, .int p1), (3, .int r1), (4, .int r2)]) hx hb dX7_isSo_263 hl (k := 5) rfl (by rfl) (by decide) rfl (fun ls hl => ?_)
                refine lv_goto (tgt := 20) hx hb dX7_isSo_266 (by decide) ?_
                cases hs
                exact ih20 (1 : Int32) (v20_5 + 1) hk20 _ _ hP hS _ (lv_sub hl [2, 3, 1, 4, 5, 0] rfl)
  exact L20 n20 (1 : Int32) (0 : Int32) hs _ _ hP hS _ (lv_sub hl [4, 5, 3, 2, 1, 0] rfl)
noncomputable def f_X7_holds (st : MS) (p1 : Int32) : Option Int32 :=
  (if (st 11 0) = 0 then some ((-103 : Int32)) else (if (t_X7_in p1 (0 : Int32) ((st 5 0) - (1 : Int32))) = 0 then some ((-101 : Int32)) else (Option.bind (f_X7_isSo st p1) (fun r3 => (if r3 = 0 then some ((0 : Int32)) else some ((1 : Int32)))))))
set_option maxHeartbeats 4000000 in
set_option maxRecDepth 100000 in
theorem m_X7_holds (l : Launch) (g : GG) (b : Nat → Nat) (st : MS) (p1 : Int32) (res : Int32) (hs : f_X7_holds st p1 = some res) : Met l yX7_holds (Cond.code yX7_holds cX7_holds 2 (some .int) :: BIG) ({ frames := 1, cells := 0, slots := 0, locals := 27 } : Room) (va_Pc [.ref (b 0), .int p1] (ROp g (mW g b st))) (ROi res) 0 0 (fun _ => False) := by
  refine ro_start (cc := cX7_holds) (maxL := 2) (ret := (some .int)) (lv := [(0, .ref (b 0)), (1, .int p1)]) (by decide) rfl (Nat.le_of_ble_eq_true rfl) rfl ?_
  intro p e s m args below meth c hx hb hml hr hts hown hlk hK H locs hP hS ls hl
  have hB : ∀ w ∈ BIG, w.before args s = true := fun w h => hts w (List.mem_cons_of_mem _ h)
  have hC : CallFix p m c cX7_holds 2 s args BIG RX7 := ⟨hx, hb, hml, hown, hB⟩
  unfold f_X7_holds at hs
  refine lv_aload_n hx hb dX7_holds_0 rfl (lv_at hl 0 rfl) ?_
  refine mg_11 hx hb hB hown hK hP dX7_holds_1 ?_
  refine lv_if_ne (tgt := 10) hx hb dX7_holds_4 (by decide) (fun c1 => ?_) (fun c1 => ?_)
  · have hs := ifn c1 hs
    refine lv_iload_n hx hb dX7_holds_10 rfl (lv_at hl 1 rfl) ?_
    refine lv_iconst (v := 0) hx hb dX7_holds_11 (by decide) ?_
    refine lv_aload_n hx hb dX7_holds_12 rfl (lv_at hl 0 rfl) ?_
    refine mg_5 hx hb hB hown hK hP dX7_holds_13 ?_
    refine lv_iconst (v := 1) hx hb dX7_holds_16 (by decide) ?_
    refine lv_isub hx hb dX7_holds_17 ?_
    refine cS_roi (As := [.int p1, .int (0 : Int32), .int ((st 5 0) - (1 : Int32))]) (rest := []) hC (m_X7_in l g (mW g b st) p1 (0 : Int32) ((st 5 0) - (1 : Int32))) (ks_of hB bw_8_19 bw_8_18 bw_1_5 kd_X7_in bw_8_17 rfl rfl ⟨Nat.le_of_ble_eq_true rfl, Nat.le_of_ble_eq_true rfl⟩) hK hP hP hS rfl hl.1 rfl (Nat.le_of_ble_eq_true rfl) dX7_holds_18 ⟨Nat.zero_le _, Nat.zero_le _⟩ (fun H locs hP hS => ?_)
    refine lv_if_ne (tgt := 27) hx hb dX7_holds_21 (by decide) (fun c2 => ?_) (fun c2 => ?_)
    · have hs := ifn c2 hs
      refine lv_aload_n hx hb dX7_holds_27 rfl (lv_at hl 0 rfl) ?_
      refine lv_iload_n hx hb dX7_holds_28 rfl (lv_at hl 1 rfl) ?_
      obtain ⟨r3, e3, hs⟩ := Option.bind_eq_some_iff.mp hs
      refine cV_roi (As := [.int p1]) (rest := []) hC (m_X7_isSo l g b st p1 r3 e3) (kv_of hB bw_31_19 bw_31_17 bw_31_18 bw_1_5 kd_X7_isSo bw_31_16 rfl rfl ⟨Nat.le_of_ble_eq_true rfl, Nat.le_of_ble_eq_true rfl⟩) hK hP hP hS (mW_0 g b st) rfl rfl hl.1 rfl (Nat.le_of_ble_eq_true rfl) dX7_holds_29 ⟨Nat.zero_le _, Nat.zero_le _⟩ (fun H locs hP hS => ?_)
      refine lv_if_eq (tgt := 39) hx hb dX7_holds_32 (by decide) (fun c4 => ?_) (fun c4 => ?_)
      · have hs := ifp c4 hs
        refine lv_iconst (v := 0) hx hb dX7_holds_39 (by decide) ?_
        cases hs
        exact ret_roi hx hb hr hlk hS dX7_holds_40
      · have hs := ifn c4 hs
        refine lv_iconst (v := 1) hx hb dX7_holds_35 (by decide) ?_
        refine lv_goto (tgt := 40) hx hb dX7_holds_36 (by decide) ?_
        cases hs
        exact ret_roi hx hb hr hlk hS dX7_holds_40
    · have hs := ifp c2 hs
      refine lv_bipush (v := -101) hx hb dX7_holds_24 (by decide) ?_
      cases hs
      exact ret_roi hx hb hr hlk hS dX7_holds_26
  · have hs := ifp c1 hs
    refine lv_bipush (v := -103) hx hb dX7_holds_7 (by decide) ?_
    cases hs
    exact ret_roi hx hb hr hlk hS dX7_holds_9
noncomputable def b_X7_count_4 (st : MS) (c4_1 : Int32) (v4_2 : Int32) (v4_3 : Int32) : Option ((Int32 × Int32) ⊕ Int32) :=
  (if (st 5 0) ≤ v4_3 then (if c4_1 = 0 then some (Sum.inr ((st 0 0))) else (if c4_1 = (1 : Int32) then some (Sum.inr ((st 1 0))) else (if c4_1 = (2 : Int32) then some (Sum.inr ((st 5 0))) else (if c4_1 = (3 : Int32) then some (Sum.inr (v4_2)) else (if c4_1 = (4 : Int32) then some (Sum.inr ((st 12 0))) else some (Sum.inr ((-102 : Int32)))))))) else (Option.bind (rd 40 (st 10) v4_3) (fun r7 => (if r7 = 0 then some (Sum.inl ((v4_2 + (0 : Int32)), (v4_3 + 1))) else some (Sum.inl ((v4_2 + (1 : Int32)), (v4_3 + 1)))))))
noncomputable def f_X7_count (st : MS) (p1 : Int32) : Option Int32 :=
  (loopC (fun v => b_X7_count_4 st p1 v.1 v.2) ((0 : Int32), (0 : Int32)))
set_option maxHeartbeats 4000000 in
set_option maxRecDepth 100000 in
theorem m_X7_count (l : Launch) (g : GG) (b : Nat → Nat) (st : MS) (p1 : Int32) (res : Int32) (hs : f_X7_count st p1 = some res) : Met l yX7_count (Cond.code yX7_count cX7_count 4 (some .int) :: BIG) ({ frames := 0, cells := 0, slots := 0, locals := 0 } : Room) (va_Pc [.ref (b 0), .int p1] (ROp g (mW g b st))) (ROi res) 0 0 (fun _ => False) := by
  refine ro_start (cc := cX7_count) (maxL := 4) (ret := (some .int)) (lv := [(0, .ref (b 0)), (1, .int p1)]) (by decide) rfl (Nat.le_of_ble_eq_true rfl) rfl ?_
  intro p e s m args below meth c hx hb hml hr hts hown hlk hK H locs hP hS ls hl
  have hB : ∀ w ∈ BIG, w.before args s = true := fun w h => hts w (List.mem_cons_of_mem _ h)
  have hC : CallFix p m c cX7_count 4 s args BIG RX7 := ⟨hx, hb, hml, hown, hB⟩
  unfold f_X7_count at hs
  refine lv_iconst (v := 0) hx hb dX7_count_0 (by decide) ?_
  refine lv_istore_n (lv' := [(2, .int (0 : Int32)), (0, .ref (b 0)), (1, .int p1)]) hx hb dX7_count_1 rfl hl (by decide) rfl (fun ls hl => ?_)
  refine lv_iconst (v := 0) hx hb dX7_count_2 (by decide) ?_
  refine lv_istore_n (lv' := [(3, .int (0 : Int32)), (2, .int (0 : Int32)), (0, .ref (b 0)), (1, .int p1)]) hx hb dX7_count_3 rfl hl (by decide) rfl (fun ls hl => ?_)
  obtain ⟨n4, hs⟩ := loopC_iter hs
  have L4 : ∀ (n : Nat) (v4_2 : Int32) (v4_3 : Int32), iterO (fun v => b_X7_count_4 st p1 v.1 v.2) n (v4_2, v4_3) = some res → ∀ (H : Heap) (locs : List Loc), va_P g.1 vwCl (mW g b st) H → va_S (fun _ => False) s.heap H locs → ∀ ls : Array Slot, lv_has ls 4 [(0, .ref (b 0)), (1, .int p1), (2, .int v4_2), (3, .int v4_3)] → W p l e ({ frames := 0, cells := 0, slots := 0, locals := 0 } : Room) s m args below meth c H locs 0 0 (MQ below (ROi res) args s 0 0 (fun _ => False)) (F0 m 4 ls []) := by
    intro n
    induction n with
    | zero => intro v4_2 v4_3 hs; exact (iterO_zero hs).elim
    | succ n ih4 =>
      intro v4_2 v4_3 hs H locs hP hS ls hl
      obtain ⟨y4, hs, hk4⟩ := iterO_succ hs
      have hs : b_X7_count_4 st p1 v4_2 v4_3 = some y4 := hs
      unfold b_X7_count_4 at hs
      refine lv_iload_n hx hb dX7_count_4 rfl (lv_at hl 3 rfl) ?_
      refine lv_aload_n hx hb dX7_count_5 rfl (lv_at hl 0 rfl) ?_
      refine mg_5 hx hb hB hown hK hP dX7_count_6 ?_
      refine lv_icmp_ge (tgt := 35) hx hb dX7_count_9 (by decide) (fun c1 => ?_) (fun c1 => ?_)
      · have hs := ifp c1 hs
        refine lv_iload_n hx hb dX7_count_35 rfl (lv_at hl 1 rfl) ?_
        refine lv_if_ne (tgt := 46) hx hb dX7_count_36 (by decide) (fun c2 => ?_) (fun c2 => ?_)
        · have hs := ifn c2 hs
          refine lv_iload_n hx hb dX7_count_46 rfl (lv_at hl 1 rfl) ?_
          refine lv_iconst (v := 1) hx hb dX7_count_47 (by decide) ?_
          refine lv_icmp_ne (tgt := 58) hx hb dX7_count_48 (by decide) (fun c3 => ?_) (fun c3 => ?_)
          · have hs := ifn c3 hs
            refine lv_iload_n hx hb dX7_count_58 rfl (lv_at hl 1 rfl) ?_
            refine lv_iconst (v := 2) hx hb dX7_count_59 (by decide) ?_
            refine lv_icmp_ne (tgt := 70) hx hb dX7_count_60 (by decide) (fun c4 => ?_) (fun c4 => ?_)
            · have hs := ifn c4 hs
              refine lv_iload_n hx hb dX7_count_70 rfl (lv_at hl 1 rfl) ?_
              refine lv_iconst (v := 3) hx hb dX7_count_71 (by decide) ?_
              refine lv_icmp_ne (tgt := 79) hx hb dX7_count_72 (by decide) (fun c5 => ?_) (fun c5 => ?_)
              · have hs := ifn c5 hs
                refine lv_iload_n hx hb dX7_count_79 rfl (lv_at hl 1 rfl) ?_
                refine lv_iconst (v := 4) hx hb dX7_count_80 (by decide) ?_
                refine lv_icmp_ne (tgt := 91) hx hb dX7_count_81 (by decide) (fun c6 => ?_) (fun c6 => ?_)
                · have hs := ifn c6 hs
                  refine lv_bipush (v := -102) hx hb dX7_count_91 (by decide) ?_
                  cases hs
                  cases elim_inr hk4
                  exact ret_roi hx hb hr hlk hS dX7_count_93
                · have hs := ifp c6 hs
                  refine lv_aload_n hx hb dX7_count_84 rfl (lv_at hl 0 rfl) ?_
                  refine mg_12 hx hb hB hown hK hP dX7_count_85 ?_
                  refine lv_goto (tgt := 93) hx hb dX7_count_88 (by decide) ?_
                  cases hs
                  cases elim_inr hk4
                  exact ret_roi hx hb hr hlk hS dX7_count_93
              · have hs := ifp c5 hs
                refine lv_iload_n hx hb dX7_count_75 rfl (lv_at hl 2 rfl) ?_
                refine lv_goto (tgt := 93) hx hb dX7_count_76 (by decide) ?_
                cases hs
                cases elim_inr hk4
                exact ret_roi hx hb hr hlk hS dX7_count_93
            · have hs := ifp c4 hs
              refine lv_aload_n hx hb dX7_count_63 rfl (lv_at hl 0 rfl) ?_
              refine mg_5 hx hb hB hown hK hP dX7_count_64 ?_
              refine lv_goto (tgt := 93) hx hb dX7_count_67 (by decide) ?_
              cases hs
              cases elim_inr hk4
              exact ret_roi hx hb hr hlk hS dX7_count_93
          · have hs := ifp c3 hs
            refine lv_aload_n hx hb dX7_count_51 rfl (lv_at hl 0 rfl) ?_
            refine mg_1 hx hb hB hown hK hP dX7_count_52 ?_
            refine lv_goto (tgt := 93) hx hb dX7_count_55 (by decide) ?_
            cases hs
            cases elim_inr hk4
            exact ret_roi hx hb hr hlk hS dX7_count_93
        · have hs := ifp c2 hs
          refine lv_aload_n hx hb dX7_count_39 rfl (lv_at hl 0 rfl) ?_
          refine mg_0 hx hb hB hown hK hP dX7_count_40 ?_
          refine lv_goto (tgt := 93) hx hb dX7_count_43 (by decide) ?_
          cases hs
          cases elim_inr hk4
          exact ret_roi hx hb hr hlk hS dX7_count_93
      · have hs := ifn c1 hs
        refine lv_iload_n hx hb dX7_count_12 rfl (lv_at hl 2 rfl) ?_
        refine lv_aload_n hx hb dX7_count_13 rfl (lv_at hl 0 rfl) ?_
        refine mg_10 hx hb hB hown hK hP dX7_count_14 ?_
        refine lv_iload_n hx hb dX7_count_17 rfl (lv_at hl 3 rfl) ?_
        obtain ⟨r7, e7, hs⟩ := Option.bind_eq_some_iff.mp hs
        refine ml_10 hx hb hK hP e7 dX7_count_18 ?_
        refine lv_if_eq (tgt := 26) hx hb dX7_count_19 (by decide) (fun c8 => ?_) (fun c8 => ?_)
        · have hs := ifp c8 hs
          refine lv_iconst (v := 0) hx hb dX7_count_26 (by decide) ?_
          refine lv_iadd hx hb dX7_count_27 ?_
          refine lv_istore_n (lv' := [(2, .int (v4_2 + (0 : Int32))), (0, .ref (b 0)), (1, .int p1), (3, .int v4_3)]) hx hb dX7_count_28 rfl hl (by decide) rfl (fun ls hl => ?_)
          refine lv_iinc (v := (v4_3 + 1)) (lv' := [(3, .int (v4_3 + 1)), (2, .int (v4_2 + (0 : Int32))), (0, .ref (b 0)), (1, .int p1)]) hx hb dX7_count_29 hl (k := 3) rfl (by rfl) (by decide) rfl (fun ls hl => ?_)
          refine lv_goto (tgt := 4) hx hb dX7_count_32 (by decide) ?_
          cases hs
          exact ih4 (v4_2 + (0 : Int32)) (v4_3 + 1) hk4 _ _ hP hS _ (lv_sub hl [2, 3, 1, 0] rfl)
        · have hs := ifn c8 hs
          refine lv_iconst (v := 1) hx hb dX7_count_22 (by decide) ?_
          refine lv_goto (tgt := 27) hx hb dX7_count_23 (by decide) ?_
          refine lv_iadd hx hb dX7_count_27 ?_
          refine lv_istore_n (lv' := [(2, .int (v4_2 + (1 : Int32))), (0, .ref (b 0)), (1, .int p1), (3, .int v4_3)]) hx hb dX7_count_28 rfl hl (by decide) rfl (fun ls hl => ?_)
          refine lv_iinc (v := (v4_3 + 1)) (lv' := [(3, .int (v4_3 + 1)), (2, .int (v4_2 + (1 : Int32))), (0, .ref (b 0)), (1, .int p1)]) hx hb dX7_count_29 hl (k := 3) rfl (by rfl) (by decide) rfl (fun ls hl => ?_)
          refine lv_goto (tgt := 4) hx hb dX7_count_32 (by decide) ?_
          cases hs
          exact ih4 (v4_2 + (1 : Int32)) (v4_3 + 1) hk4 _ _ hP hS _ (lv_sub hl [2, 3, 1, 0] rfl)
  exact L4 n4 (0 : Int32) (0 : Int32) hs _ _ hP hS _ (lv_sub hl [2, 3, 1, 0] rfl)
noncomputable def b_X7_digest_128 (st : MS) (c128_3 : Int32) (v128_1 : Int64) (v128_4 : Int32) : Option ((Int64 × Int32) ⊕ ((Int64 × Int32) ⊕ Int64)) :=
  (if (9 : Int32) ≤ v128_4 then some (Sum.inr (Sum.inl (v128_1, (c128_3 + 1)))) else (Option.bind (f_X7_fact st c128_3 v128_4) (fun r6 => some (Sum.inl ((((31 : Int64) * v128_1) + (r6.toInt64)), (v128_4 + 1))))))
noncomputable def b_X7_digest_110 (st : MS) (v110_1 : Int64) (v110_3 : Int32) : Option ((Int64 × Int32) ⊕ Int64) :=
  (if (st 13 0) ≤ v110_3 then some (Sum.inr (v110_1)) else (if (st 11 0) = 0 then some (Sum.inr (v110_1)) else (loopC (fun v => b_X7_digest_128 st v110_3 v.1 v.2) (v110_1, (0 : Int32)))))
noncomputable def b_X7_digest_75 (st : MS) (c75_3 : Int32) (v75_1 : Int64) (v75_4 : Int32) : Option ((Int64 × Int32) ⊕ ((Int64 × Int32) ⊕ Int64)) :=
  (if (5 : Int32) ≤ v75_4 then some (Sum.inr (Sum.inl (v75_1, (c75_3 + 1)))) else (Option.bind (f_X7_axiom st c75_3 v75_4) (fun r8 => some (Sum.inl ((((31 : Int64) * v75_1) + (r8.toInt64)), (v75_4 + 1))))))
noncomputable def b_X7_digest_64 (st : MS) (v64_1 : Int64) (v64_3 : Int32) : Option ((Int64 × Int32) ⊕ Int64) :=
  (if (st 5 0) ≤ v64_3 then (Option.map (fun z => Sum.inr (z)) (loopC (fun v => b_X7_digest_110 st v.1 v.2) (v64_1, (0 : Int32)))) else (loopC (fun v => b_X7_digest_75 st v64_3 v.1 v.2) (v64_1, (0 : Int32))))
noncomputable def b_X7_digest_6 (st : MS) (v6_1 : Int64) (v6_3 : Int32) : Option ((Int64 × Int32) ⊕ Int64) :=
  (if (st 0 0) ≤ v6_3 then (Option.map (fun z => Sum.inr (z)) (loopC (fun v => b_X7_digest_64 st v.1 v.2) (v6_1, (0 : Int32)))) else (Option.bind (rd 28 (st 2) v6_3) (fun r9 => (Option.bind (rd 28 (st 3) v6_3) (fun r10 => (Option.bind (rd 28 (st 4) v6_3) (fun r11 => some (Sum.inl ((((31 : Int64) * (((31 : Int64) * (((31 : Int64) * v6_1) + (r9.toInt64))) + (r10.toInt64))) + (r11.toInt64)), (v6_3 + 1))))))))))
noncomputable def f_X7_digest (st : MS) : Option Int64 :=
  (loopC (fun v => b_X7_digest_6 st v.1 v.2) ((61 : Int64), (0 : Int32)))
set_option maxHeartbeats 4000000 in
set_option maxRecDepth 100000 in
theorem m_X7_digest (l : Launch) (g : GG) (b : Nat → Nat) (st : MS)  (res : Int64) (hs : f_X7_digest st = some res) : Met l yX7_digest (Cond.code yX7_digest cX7_digest 5 (some .long) :: BIG) ({ frames := 2, cells := 0, slots := 0, locals := 44 } : Room) (va_Pc [.ref (b 0)] (ROp g (mW g b st))) (ROl res) 0 0 (fun _ => False) := by
  refine ro_start (cc := cX7_digest) (maxL := 5) (ret := (some .long)) (lv := [(0, .ref (b 0))]) (by decide) rfl (Nat.le_of_ble_eq_true rfl) rfl ?_
  intro p e s m args below meth c hx hb hml hr hts hown hlk hK H locs hP hS ls hl
  have hB : ∀ w ∈ BIG, w.before args s = true := fun w h => hts w (List.mem_cons_of_mem _ h)
  have hC : CallFix p m c cX7_digest 5 s args BIG RX7 := ⟨hx, hb, hml, hown, hB⟩
  unfold f_X7_digest at hs
  refine lv_ldc2 hx hb hown (hB _ bw_32_19) dX7_digest_0 ?_
  refine lv_lstore_n (lv' := [(1, .long (61 : Int64)), (0, .ref (b 0))]) hx hb dX7_digest_3 rfl hl (by decide) rfl (fun ls hl => ?_)
  refine lv_iconst (v := 0) hx hb dX7_digest_4 (by decide) ?_
  refine lv_istore_n (lv' := [(3, .int (0 : Int32)), (1, .long (61 : Int64)), (0, .ref (b 0))]) hx hb dX7_digest_5 rfl hl (by decide) rfl (fun ls hl => ?_)
  obtain ⟨n6, hs⟩ := loopC_iter hs
  have L6 : ∀ (n : Nat) (v6_1 : Int64) (v6_3 : Int32), iterO (fun v => b_X7_digest_6 st v.1 v.2) n (v6_1, v6_3) = some res → ∀ (H : Heap) (locs : List Loc), va_P g.1 vwCl (mW g b st) H → va_S (fun _ => False) s.heap H locs → ∀ ls : Array Slot, lv_has ls 5 [(0, .ref (b 0)), (1, .long v6_1), (3, .int v6_3)] → W p l e ({ frames := 2, cells := 0, slots := 0, locals := 44 } : Room) s m args below meth c H locs 0 0 (MQ below (ROl res) args s 0 0 (fun _ => False)) (F0 m 6 ls []) := by
    intro n
    induction n with
    | zero => intro v6_1 v6_3 hs; exact (iterO_zero hs).elim
    | succ n ih6 =>
      intro v6_1 v6_3 hs H locs hP hS ls hl
      obtain ⟨y6, hs, hk6⟩ := iterO_succ hs
      have hs : b_X7_digest_6 st v6_1 v6_3 = some y6 := hs
      unfold b_X7_digest_6 at hs
      refine lv_iload_n hx hb dX7_digest_6 rfl (lv_at hl 2 rfl) ?_
      refine lv_aload_n hx hb dX7_digest_7 rfl (lv_at hl 0 rfl) ?_
      refine mg_0 hx hb hB hown hK hP dX7_digest_8 ?_
      refine lv_icmp_ge (tgt := 62) hx hb dX7_digest_11 (by decide) (fun c1 => ?_) (fun c1 => ?_)
      · have hs := ifp c1 hs
        refine lv_iconst (v := 0) hx hb dX7_digest_62 (by decide) ?_
        refine lv_istore_n (lv' := [(3, .int (0 : Int32)), (0, .ref (b 0)), (1, .long v6_1)]) hx hb dX7_digest_63 rfl hl (by decide) rfl (fun ls hl => ?_)
        obtain ⟨w64, hm64, hw64⟩ := Option.map_eq_some_iff.mp hs
        clear hs
        cases hw64
        cases elim_inr hk6
        have hs := hm64
        obtain ⟨n64, hs⟩ := loopC_iter hs
        have L64 : ∀ (n : Nat) (v64_1 : Int64) (v64_3 : Int32), iterO (fun v => b_X7_digest_64 st v.1 v.2) n (v64_1, v64_3) = some res → ∀ (H : Heap) (locs : List Loc), va_P g.1 vwCl (mW g b st) H → va_S (fun _ => False) s.heap H locs → ∀ ls : Array Slot, lv_has ls 5 [(0, .ref (b 0)), (1, .long v64_1), (3, .int v64_3)] → W p l e ({ frames := 2, cells := 0, slots := 0, locals := 44 } : Room) s m args below meth c H locs 0 0 (MQ below (ROl res) args s 0 0 (fun _ => False)) (F0 m 64 ls []) := by
          intro n
          induction n with
          | zero => intro v64_1 v64_3 hs; exact (iterO_zero hs).elim
          | succ n ih64 =>
            intro v64_1 v64_3 hs H locs hP hS ls hl
            obtain ⟨y64, hs, hk64⟩ := iterO_succ hs
            have hs : b_X7_digest_64 st v64_1 v64_3 = some y64 := hs
            unfold b_X7_digest_64 at hs
            refine lv_iload_n hx hb dX7_digest_64 rfl (lv_at hl 2 rfl) ?_
            refine lv_aload_n hx hb dX7_digest_65 rfl (lv_at hl 0 rfl) ?_
            refine mg_5 hx hb hB hown hK hP dX7_digest_66 ?_
            refine lv_icmp_ge (tgt := 108) hx hb dX7_digest_69 (by decide) (fun c2 => ?_) (fun c2 => ?_)
            · have hs := ifp c2 hs
              refine lv_iconst (v := 0) hx hb dX7_digest_108 (by decide) ?_
              refine lv_istore_n (lv' := [(3, .int (0 : Int32)), (0, .ref (b 0)), (1, .long v64_1)]) hx hb dX7_digest_109 rfl hl (by decide) rfl (fun ls hl => ?_)
              obtain ⟨w110, hm110, hw110⟩ := Option.map_eq_some_iff.mp hs
              clear hs
              cases hw110
              cases elim_inr hk64
              have hs := hm110
              obtain ⟨n110, hs⟩ := loopC_iter hs
              have L110 : ∀ (n : Nat) (v110_1 : Int64) (v110_3 : Int32), iterO (fun v => b_X7_digest_110 st v.1 v.2) n (v110_1, v110_3) = some res → ∀ (H : Heap) (locs : List Loc), va_P g.1 vwCl (mW g b st) H → va_S (fun _ => False) s.heap H locs → ∀ ls : Array Slot, lv_has ls 5 [(0, .ref (b 0)), (1, .long v110_1), (3, .int v110_3)] → W p l e ({ frames := 2, cells := 0, slots := 0, locals := 44 } : Room) s m args below meth c H locs 0 0 (MQ below (ROl res) args s 0 0 (fun _ => False)) (F0 m 110 ls []) := by
                intro n
                induction n with
                | zero => intro v110_1 v110_3 hs; exact (iterO_zero hs).elim
                | succ n ih110 =>
                  intro v110_1 v110_3 hs H locs hP hS ls hl
                  obtain ⟨y110, hs, hk110⟩ := iterO_succ hs
                  have hs : b_X7_digest_110 st v110_1 v110_3 = some y110 := hs
                  unfold b_X7_digest_110 at hs
                  refine lv_iload_n hx hb dX7_digest_110 rfl (lv_at hl 2 rfl) ?_
                  refine lv_aload_n hx hb dX7_digest_111 rfl (lv_at hl 0 rfl) ?_
                  refine mg_13 hx hb hB hown hK hP dX7_digest_112 ?_
                  refine lv_icmp_ge (tgt := 162) hx hb dX7_digest_115 (by decide) (fun c3 => ?_) (fun c3 => ?_)
                  · have hs := ifp c3 hs
                    refine lv_lload_n hx hb dX7_digest_162 rfl (lv_at hl 1 rfl) ?_
                    cases hs
                    cases elim_inr hk110
                    exact ret_rol hx hb hr hlk hS dX7_digest_163
                  · have hs := ifn c3 hs
                    refine lv_aload_n hx hb dX7_digest_118 rfl (lv_at hl 0 rfl) ?_
                    refine mg_11 hx hb hB hown hK hP dX7_digest_119 ?_
                    refine lv_if_eq (tgt := 162) hx hb dX7_digest_122 (by decide) (fun c4 => ?_) (fun c4 => ?_)
                    · have hs := ifp c4 hs
                      refine lv_lload_n hx hb dX7_digest_162 rfl (lv_at hl 1 rfl) ?_
                      cases hs
                      cases elim_inr hk110
                      exact ret_rol hx hb hr hlk hS dX7_digest_163
                    · have hs := ifn c4 hs
                      refine lv_iconst (v := 0) hx hb dX7_digest_125 (by decide) ?_
                      refine lv_istore (lv' := [(4, .int (0 : Int32)), (0, .ref (b 0)), (1, .long v110_1), (3, .int v110_3)]) hx hb dX7_digest_126 hl (by decide) rfl (fun ls hl => ?_)
                      obtain ⟨n128, hs⟩ := loopC_iter hs
                      have L128 : ∀ (n : Nat) (v128_1 : Int64) (v128_4 : Int32), iterO (fun v => b_X7_digest_128 st v110_3 v.1 v.2) n (v128_1, v128_4) = some y110 → ∀ (H : Heap) (locs : List Loc), va_P g.1 vwCl (mW g b st) H → va_S (fun _ => False) s.heap H locs → ∀ ls : Array Slot, lv_has ls 5 [(0, .ref (b 0)), (1, .long v128_1), (3, .int v110_3), (4, .int v128_4)] → W p l e ({ frames := 2, cells := 0, slots := 0, locals := 44 } : Room) s m args below meth c H locs 0 0 (MQ below (ROl res) args s 0 0 (fun _ => False)) (F0 m 128 ls []) := by
                        intro n
                        induction n with
                        | zero => intro v128_1 v128_4 hs; exact (iterO_zero hs).elim
                        | succ n ih128 =>
                          intro v128_1 v128_4 hs H locs hP hS ls hl
                          obtain ⟨y128, hs, hk128⟩ := iterO_succ hs
                          have hs : b_X7_digest_128 st v110_3 v128_1 v128_4 = some y128 := hs
                          unfold b_X7_digest_128 at hs
                          refine lv_iload hx hb dX7_digest_128 (lv_at hl 3 rfl) ?_
                          refine lv_bipush (v := 9) hx hb dX7_digest_130 (by decide) ?_
                          refine lv_icmp_ge (tgt := 156) hx hb dX7_digest_132 (by decide) (fun c5 => ?_) (fun c5 => ?_)
                          · have hs := ifp c5 hs
                            refine lv_iinc (v := (v110_3 + 1)) (lv' := [(3, .int (v110_3 + 1)), (0, .ref (b 0)), (1, .long v128_1), (4, .int v128_4)]) hx hb dX7_digest_156 hl (k := 2) rfl (by rfl) (by decide) rfl (fun ls hl => ?_)
                            refine lv_goto (tgt := 110) hx hb dX7_digest_159 (by decide) ?_
                            cases hs
                            cases elim_inr hk128
                            exact ih110 v128_1 (v110_3 + 1) hk110 _ _ hP hS _ (lv_sub hl [1, 2, 0] rfl)
                          · have hs := ifn c5 hs
                            refine lv_ldc2 hx hb hown (hB _ bw_32_20) dX7_digest_135 ?_
                            refine lv_lload_n hx hb dX7_digest_138 rfl (lv_at hl 1 rfl) ?_
                            refine lv_lmul hx hb dX7_digest_139 ?_
                            refine lv_aload_n hx hb dX7_digest_140 rfl (lv_at hl 0 rfl) ?_
                            refine lv_iload_n hx hb dX7_digest_141 rfl (lv_at hl 2 rfl) ?_
                            refine lv_iload hx hb dX7_digest_142 (lv_at hl 3 rfl) ?_
                            obtain ⟨r6, e6, hs⟩ := Option.bind_eq_some_iff.mp hs
                            refine cV_roi (As := [.int v110_3, .int v128_4]) (rest := [.long ((31 : Int64) * v128_1)]) hC (m_X7_fact l g b st v110_3 v128_4 r6 e6) (kv_of hB bw_21_23 bw_21_21 bw_21_22 bw_1_5 kd_X7_fact bw_21_20 rfl rfl ⟨Nat.le_of_ble_eq_true rfl, Nat.le_of_ble_eq_true rfl⟩) hK hP hP hS (mW_0 g b st) rfl rfl hl.1 rfl (Nat.le_of_ble_eq_true rfl) dX7_digest_144 ⟨Nat.zero_le _, Nat.zero_le _⟩ (fun H locs hP hS => ?_)
                            refine lv_i2l (v := (r6.toInt64)) hx hb dX7_digest_147 rfl ?_
                            refine lv_ladd hx hb dX7_digest_148 ?_
                            refine lv_lstore_n (lv' := [(1, .long (((31 : Int64) * v128_1) + (r6.toInt64))), (0, .ref (b 0)), (3, .int v110_3), (4, .int v128_4)]) hx hb dX7_digest_149 rfl hl (by decide) rfl (fun ls hl => ?_)
                            refine lv_iinc (v := (v128_4 + 1)) (lv' := [(4, .int (v128_4 + 1)), (1, .long (((31 : Int64) * v128_1) + (r6.toInt64))), (0, .ref (b 0)), (3, .int v110_3)]) hx hb dX7_digest_150 hl (k := 3) rfl (by rfl) (by decide) rfl (fun ls hl => ?_)
                            refine lv_goto (tgt := 128) hx hb dX7_digest_153 (by decide) ?_
                            cases hs
                            exact ih128 (((31 : Int64) * v128_1) + (r6.toInt64)) (v128_4 + 1) hk128 _ _ hP hS _ (lv_sub hl [2, 1, 3, 0] rfl)
                      exact L128 n128 v110_1 (0 : Int32) hs _ _ hP hS _ (lv_sub hl [1, 2, 3, 0] rfl)
              exact L110 n110 v64_1 (0 : Int32) hs _ _ hP hS _ (lv_sub hl [1, 2, 0] rfl)
            · have hs := ifn c2 hs
              refine lv_iconst (v := 0) hx hb dX7_digest_72 (by decide) ?_
              refine lv_istore (lv' := [(4, .int (0 : Int32)), (0, .ref (b 0)), (1, .long v64_1), (3, .int v64_3)]) hx hb dX7_digest_73 hl (by decide) rfl (fun ls hl => ?_)
              obtain ⟨n75, hs⟩ := loopC_iter hs
              have L75 : ∀ (n : Nat) (v75_1 : Int64) (v75_4 : Int32), iterO (fun v => b_X7_digest_75 st v64_3 v.1 v.2) n (v75_1, v75_4) = some y64 → ∀ (H : Heap) (locs : List Loc), va_P g.1 vwCl (mW g b st) H → va_S (fun _ => False) s.heap H locs → ∀ ls : Array Slot, lv_has ls 5 [(0, .ref (b 0)), (1, .long v75_1), (3, .int v64_3), (4, .int v75_4)] → W p l e ({ frames := 2, cells := 0, slots := 0, locals := 44 } : Room) s m args below meth c H locs 0 0 (MQ below (ROl res) args s 0 0 (fun _ => False)) (F0 m 75 ls []) := by
                intro n
                induction n with
                | zero => intro v75_1 v75_4 hs; exact (iterO_zero hs).elim
                | succ n ih75 =>
                  intro v75_1 v75_4 hs H locs hP hS ls hl
                  obtain ⟨y75, hs, hk75⟩ := iterO_succ hs
                  have hs : b_X7_digest_75 st v64_3 v75_1 v75_4 = some y75 := hs
                  unfold b_X7_digest_75 at hs
                  refine lv_iload hx hb dX7_digest_75 (lv_at hl 3 rfl) ?_
                  refine lv_iconst (v := 5) hx hb dX7_digest_77 (by decide) ?_
                  refine lv_icmp_ge (tgt := 102) hx hb dX7_digest_78 (by decide) (fun c7 => ?_) (fun c7 => ?_)
                  · have hs := ifp c7 hs
                    refine lv_iinc (v := (v64_3 + 1)) (lv' := [(3, .int (v64_3 + 1)), (0, .ref (b 0)), (1, .long v75_1), (4, .int v75_4)]) hx hb dX7_digest_102 hl (k := 2) rfl (by rfl) (by decide) rfl (fun ls hl => ?_)
                    refine lv_goto (tgt := 64) hx hb dX7_digest_105 (by decide) ?_
                    cases hs
                    cases elim_inr hk75
                    exact ih64 v75_1 (v64_3 + 1) hk64 _ _ hP hS _ (lv_sub hl [1, 2, 0] rfl)
                  · have hs := ifn c7 hs
                    refine lv_ldc2 hx hb hown (hB _ bw_32_20) dX7_digest_81 ?_
                    refine lv_lload_n hx hb dX7_digest_84 rfl (lv_at hl 1 rfl) ?_
                    refine lv_lmul hx hb dX7_digest_85 ?_
                    refine lv_aload_n hx hb dX7_digest_86 rfl (lv_at hl 0 rfl) ?_
                    refine lv_iload_n hx hb dX7_digest_87 rfl (lv_at hl 2 rfl) ?_
                    refine lv_iload hx hb dX7_digest_88 (lv_at hl 3 rfl) ?_
                    obtain ⟨r8, e8, hs⟩ := Option.bind_eq_some_iff.mp hs
                    refine cV_roi (As := [.int v64_3, .int v75_4]) (rest := [.long ((31 : Int64) * v75_1)]) hC (m_X7_axiom l g b st v64_3 v75_4 r8 e8) (kv_of hB bw_12_23 bw_12_21 bw_12_22 bw_1_5 kd_X7_axiom bw_32_21 rfl rfl ⟨Nat.le_of_ble_eq_true rfl, Nat.le_of_ble_eq_true rfl⟩) hK hP hP hS (mW_0 g b st) rfl rfl hl.1 rfl (Nat.le_of_ble_eq_true rfl) dX7_digest_90 ⟨Nat.zero_le _, Nat.zero_le _⟩ (fun H locs hP hS => ?_)
                    refine lv_i2l (v := (r8.toInt64)) hx hb dX7_digest_93 rfl ?_
                    refine lv_ladd hx hb dX7_digest_94 ?_
                    refine lv_lstore_n (lv' := [(1, .long (((31 : Int64) * v75_1) + (r8.toInt64))), (0, .ref (b 0)), (3, .int v64_3), (4, .int v75_4)]) hx hb dX7_digest_95 rfl hl (by decide) rfl (fun ls hl => ?_)
                    refine lv_iinc (v := (v75_4 + 1)) (lv' := [(4, .int (v75_4 + 1)), (1, .long (((31 : Int64) * v75_1) + (r8.toInt64))), (0, .ref (b 0)), (3, .int v64_3)]) hx hb dX7_digest_96 hl (k := 3) rfl (by rfl) (by decide) rfl (fun ls hl => ?_)
                    refine lv_goto (tgt := 75) hx hb dX7_digest_99 (by decide) ?_
                    cases hs
                    exact ih75 (((31 : Int64) * v75_1) + (r8.toInt64)) (v75_4 + 1) hk75 _ _ hP hS _ (lv_sub hl [2, 1, 3, 0] rfl)
              exact L75 n75 v64_1 (0 : Int32) hs _ _ hP hS _ (lv_sub hl [1, 2, 3, 0] rfl)
        exact L64 n64 v6_1 (0 : Int32) hs _ _ hP hS _ (lv_sub hl [1, 2, 0] rfl)
      · have hs := ifn c1 hs
        refine lv_ldc2 hx hb hown (hB _ bw_32_20) dX7_digest_14 ?_
        refine lv_lload_n hx hb dX7_digest_17 rfl (lv_at hl 1 rfl) ?_
        refine lv_lmul hx hb dX7_digest_18 ?_
        refine lv_aload_n hx hb dX7_digest_19 rfl (lv_at hl 0 rfl) ?_
        refine mg_2 hx hb hB hown hK hP dX7_digest_20 ?_
        refine lv_iload_n hx hb dX7_digest_23 rfl (lv_at hl 2 rfl) ?_
        obtain ⟨r9, e9, hs⟩ := Option.bind_eq_some_iff.mp hs
        refine ml_2 hx hb hK hP e9 dX7_digest_24 ?_
        refine lv_i2l (v := (r9.toInt64)) hx hb dX7_digest_25 rfl ?_
        refine lv_ladd hx hb dX7_digest_26 ?_
        refine lv_lstore_n (lv' := [(1, .long (((31 : Int64) * v6_1) + (r9.toInt64))), (0, .ref (b 0)), (3, .int v6_3)]) hx hb dX7_digest_27 rfl hl (by decide) rfl (fun ls hl => ?_)
        refine lv_ldc2 hx hb hown (hB _ bw_32_20) dX7_digest_28 ?_
        refine lv_lload_n hx hb dX7_digest_31 rfl (lv_at hl 0 rfl) ?_
        refine lv_lmul hx hb dX7_digest_32 ?_
        refine lv_aload_n hx hb dX7_digest_33 rfl (lv_at hl 1 rfl) ?_
        refine mg_3 hx hb hB hown hK hP dX7_digest_34 ?_
        refine lv_iload_n hx hb dX7_digest_37 rfl (lv_at hl 2 rfl) ?_
        obtain ⟨r10, e10, hs⟩ := Option.bind_eq_some_iff.mp hs
        refine ml_3 hx hb hK hP e10 dX7_digest_38 ?_
        refine lv_i2l (v := (r10.toInt64)) hx hb dX7_digest_39 rfl ?_
        refine lv_ladd hx hb dX7_digest_40 ?_
        refine lv_lstore_n (lv' := [(1, .long (((31 : Int64) * (((31 : Int64) * v6_1) + (r9.toInt64))) + (r10.toInt64))), (0, .ref (b 0)), (3, .int v6_3)]) hx hb dX7_digest_41 rfl hl (by decide) rfl (fun ls hl => ?_)
        refine lv_ldc2 hx hb hown (hB _ bw_32_20) dX7_digest_42 ?_
        refine lv_lload_n hx hb dX7_digest_45 rfl (lv_at hl 0 rfl) ?_
        refine lv_lmul hx hb dX7_digest_46 ?_
        refine lv_aload_n hx hb dX7_digest_47 rfl (lv_at hl 1 rfl) ?_
        refine mg_4 hx hb hB hown hK hP dX7_digest_48 ?_
        refine lv_iload_n hx hb dX7_digest_51 rfl (lv_at hl 2 rfl) ?_
        obtain ⟨r11, e11, hs⟩ := Option.bind_eq_some_iff.mp hs
        refine ml_4 hx hb hK hP e11 dX7_digest_52 ?_
        refine lv_i2l (v := (r11.toInt64)) hx hb dX7_digest_53 rfl ?_
        refine lv_ladd hx hb dX7_digest_54 ?_
        refine lv_lstore_n (lv' := [(1, .long (((31 : Int64) * (((31 : Int64) * (((31 : Int64) * v6_1) + (r9.toInt64))) + (r10.toInt64))) + (r11.toInt64))), (0, .ref (b 0)), (3, .int v6_3)]) hx hb dX7_digest_55 rfl hl (by decide) rfl (fun ls hl => ?_)
        refine lv_iinc (v := (v6_3 + 1)) (lv' := [(3, .int (v6_3 + 1)), (1, .long (((31 : Int64) * (((31 : Int64) * (((31 : Int64) * v6_1) + (r9.toInt64))) + (r10.toInt64))) + (r11.toInt64))), (0, .ref (b 0))]) hx hb dX7_digest_56 hl (k := 2) rfl (by rfl) (by decide) rfl (fun ls hl => ?_)
        refine lv_goto (tgt := 6) hx hb dX7_digest_59 (by decide) ?_
        cases hs
        exact ih6 (((31 : Int64) * (((31 : Int64) * (((31 : Int64) * v6_1) + (r9.toInt64))) + (r10.toInt64))) + (r11.toInt64)) (v6_3 + 1) hk6 _ _ hP hS _ (lv_sub hl [2, 1, 0] rfl)
  exact L6 n6 (61 : Int64) (0 : Int32) hs _ _ hP hS _ (lv_sub hl [2, 1, 0] rfl)
