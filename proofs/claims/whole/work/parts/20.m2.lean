noncomputable def f_X7_axiom (st : MS) (p1 : Int32) (p2 : Int32) : Option Int32 :=
  (if (t_X7_in p1 (0 : Int32) ((st 5 0) - (1 : Int32))) = 0 then some ((-101 : Int32)) else (if p2 = 0 then (Option.bind (rd 40 (st 6) p1) (fun r3 => some (r3))) else (if p2 = 1 then (Option.bind (rd 40 (st 7) p1) (fun r5 => some (r5))) else (if p2 = 2 then (Option.bind (rd 40 (st 8) p1) (fun r7 => some (r7))) else (if p2 = 3 then (Option.bind (rd 40 (st 9) p1) (fun r9 => some (r9))) else (if p2 = 4 then (Option.bind (rd 40 (st 10) p1) (fun r11 => (if r11 = 0 then some ((0 : Int32)) else some ((1 : Int32))))) else some ((-102 : Int32))))))))
set_option maxHeartbeats 4000000 in
set_option maxRecDepth 100000 in
theorem m_X7_axiom (l : Launch) (g : GG) (b : Nat → Nat) (st : MS) (p1 : Int32) (p2 : Int32) (res : Int32) (hs : f_X7_axiom st p1 p2 = some res) : Met l yX7_axiom (Cond.code yX7_axiom cX7_axiom 3 (some .int) :: BIG) ({ frames := 1, cells := 0, slots := 0, locals := 22 } : Room) (va_Pc [.ref (b 0), .int p1, .int p2] (ROp g (mW g b st))) (ROi res) 0 0 (fun _ => False) := by
  refine ro_start (cc := cX7_axiom) (maxL := 3) (ret := (some .int)) (lv := [(0, .ref (b 0)), (1, .int p1), (2, .int p2)]) (by decide) rfl (Nat.le_of_ble_eq_true rfl) rfl ?_
  intro p e s m args below meth c hx hb hml hr hts hown hlk hK H locs hP hS ls hl
  have hB : ∀ w ∈ BIG, w.before args s = true := fun w h => hts w (List.mem_cons_of_mem _ h)
  have hC : CallFix p m c cX7_axiom 3 s args BIG RX7 := ⟨hx, hb, hml, hown, hB⟩
  unfold f_X7_axiom at hs
  refine lv_iload_n hx hb dX7_axiom_0 rfl (lv_at hl 1 rfl) ?_
  refine lv_iconst (v := 0) hx hb dX7_axiom_1 (by decide) ?_
  refine lv_aload_n hx hb dX7_axiom_2 rfl (lv_at hl 0 rfl) ?_
  refine mg_5 hx hb hB hown hK hP dX7_axiom_3 ?_
  refine lv_iconst (v := 1) hx hb dX7_axiom_6 (by decide) ?_
  refine lv_isub hx hb dX7_axiom_7 ?_
  refine cS_roi (As := [.int p1, .int (0 : Int32), .int ((st 5 0) - (1 : Int32))]) (rest := []) hC (m_X7_in l g (mW g b st) p1 (0 : Int32) ((st 5 0) - (1 : Int32))) (ks_of hB bw_8_19 bw_8_18 bw_1_5 kd_X7_in bw_8_17 rfl rfl ⟨Nat.le_of_ble_eq_true rfl, Nat.le_of_ble_eq_true rfl⟩) hK hP hP hS rfl hl.1 rfl (Nat.le_of_ble_eq_true rfl) dX7_axiom_8 ⟨Nat.zero_le _, Nat.zero_le _⟩ (fun H locs hP hS => ?_)
  refine lv_if_ne (tgt := 17) hx hb dX7_axiom_11 (by decide) (fun c1 => ?_) (fun c1 => ?_)
  · have hs := ifn c1 hs
    refine lv_iload_n hx hb dX7_axiom_17 rfl (lv_at hl 2 rfl) ?_
    by_cases c2 : p2 = 0
    · have hs := ifp c2 hs
      refine lv_tableIn (tgt := 52) (off := 34) hx hb dX7_axiom_18 (by rw [sw_in (a := 0) c2 (by decide)]; decide) (by rw [sw_in (a := 0) c2 (by decide)]; decide) (by rw [sw_in (a := 0) c2 (by decide)]; rfl) (by decide) ?_
      refine lv_aload_n hx hb dX7_axiom_52 rfl (lv_at hl 0 rfl) ?_
      refine mg_6 hx hb hB hown hK hP dX7_axiom_53 ?_
      refine lv_iload_n hx hb dX7_axiom_56 rfl (lv_at hl 1 rfl) ?_
      obtain ⟨r3, e3, hs⟩ := Option.bind_eq_some_iff.mp hs
      refine ml_6 hx hb hK hP e3 dX7_axiom_57 ?_
      cases hs
      exact ret_roi hx hb hr hlk hS dX7_axiom_58
    · have hs := ifn c2 hs
      by_cases c4 : p2 = 1
      · have hs := ifp c4 hs
        refine lv_tableIn (tgt := 59) (off := 41) hx hb dX7_axiom_18 (by rw [sw_in (a := 1) c4 (by decide)]; decide) (by rw [sw_in (a := 1) c4 (by decide)]; decide) (by rw [sw_in (a := 1) c4 (by decide)]; rfl) (by decide) ?_
        refine lv_aload_n hx hb dX7_axiom_59 rfl (lv_at hl 0 rfl) ?_
        refine mg_7 hx hb hB hown hK hP dX7_axiom_60 ?_
        refine lv_iload_n hx hb dX7_axiom_63 rfl (lv_at hl 1 rfl) ?_
        obtain ⟨r5, e5, hs⟩ := Option.bind_eq_some_iff.mp hs
        refine ml_7 hx hb hK hP e5 dX7_axiom_64 ?_
        cases hs
        exact ret_roi hx hb hr hlk hS dX7_axiom_65
      · have hs := ifn c4 hs
        by_cases c6 : p2 = 2
        · have hs := ifp c6 hs
          refine lv_tableIn (tgt := 66) (off := 48) hx hb dX7_axiom_18 (by rw [sw_in (a := 2) c6 (by decide)]; decide) (by rw [sw_in (a := 2) c6 (by decide)]; decide) (by rw [sw_in (a := 2) c6 (by decide)]; rfl) (by decide) ?_
          refine lv_aload_n hx hb dX7_axiom_66 rfl (lv_at hl 0 rfl) ?_
          refine mg_8 hx hb hB hown hK hP dX7_axiom_67 ?_
          refine lv_iload_n hx hb dX7_axiom_70 rfl (lv_at hl 1 rfl) ?_
          obtain ⟨r7, e7, hs⟩ := Option.bind_eq_some_iff.mp hs
          refine ml_8 hx hb hK hP e7 dX7_axiom_71 ?_
          cases hs
          exact ret_roi hx hb hr hlk hS dX7_axiom_72
        · have hs := ifn c6 hs
          by_cases c8 : p2 = 3
          · have hs := ifp c8 hs
            refine lv_tableIn (tgt := 73) (off := 55) hx hb dX7_axiom_18 (by rw [sw_in (a := 3) c8 (by decide)]; decide) (by rw [sw_in (a := 3) c8 (by decide)]; decide) (by rw [sw_in (a := 3) c8 (by decide)]; rfl) (by decide) ?_
            refine lv_aload_n hx hb dX7_axiom_73 rfl (lv_at hl 0 rfl) ?_
            refine mg_9 hx hb hB hown hK hP dX7_axiom_74 ?_
            refine lv_iload_n hx hb dX7_axiom_77 rfl (lv_at hl 1 rfl) ?_
            obtain ⟨r9, e9, hs⟩ := Option.bind_eq_some_iff.mp hs
            refine ml_9 hx hb hK hP e9 dX7_axiom_78 ?_
            cases hs
            exact ret_roi hx hb hr hlk hS dX7_axiom_79
          · have hs := ifn c8 hs
            by_cases c10 : p2 = 4
            · have hs := ifp c10 hs
              refine lv_tableIn (tgt := 80) (off := 62) hx hb dX7_axiom_18 (by rw [sw_in (a := 4) c10 (by decide)]; decide) (by rw [sw_in (a := 4) c10 (by decide)]; decide) (by rw [sw_in (a := 4) c10 (by decide)]; rfl) (by decide) ?_
              refine lv_aload_n hx hb dX7_axiom_80 rfl (lv_at hl 0 rfl) ?_
              refine mg_10 hx hb hB hown hK hP dX7_axiom_81 ?_
              refine lv_iload_n hx hb dX7_axiom_84 rfl (lv_at hl 1 rfl) ?_
              obtain ⟨r11, e11, hs⟩ := Option.bind_eq_some_iff.mp hs
              refine ml_10 hx hb hK hP e11 dX7_axiom_85 ?_
              refine lv_if_eq (tgt := 93) hx hb dX7_axiom_86 (by decide) (fun c12 => ?_) (fun c12 => ?_)
              · have hs := ifp c12 hs
                refine lv_iconst (v := 0) hx hb dX7_axiom_93 (by decide) ?_
                cases hs
                exact ret_roi hx hb hr hlk hS dX7_axiom_94
              · have hs := ifn c12 hs
                refine lv_iconst (v := 1) hx hb dX7_axiom_89 (by decide) ?_
                refine lv_goto (tgt := 94) hx hb dX7_axiom_90 (by decide) ?_
                cases hs
                exact ret_roi hx hb hr hlk hS dX7_axiom_94
            · have hs := ifn c10 hs
              have q2 := lv_neT (a := 0) c2 (by decide)
              have q4 := lv_neT (a := 1) c4 (by decide)
              have q6 := lv_neT (a := 2) c6 (by decide)
              have q8 := lv_neT (a := 3) c8 (by decide)
              have q10 := lv_neT (a := 4) c10 (by decide)
              refine lv_tableOut (tgt := 95) hx hb dX7_axiom_18 (by omega) (by decide) ?_
              refine lv_bipush (v := -102) hx hb dX7_axiom_95 (by decide) ?_
              cases hs
              exact ret_roi hx hb hr hlk hS dX7_axiom_97
  · have hs := ifp c1 hs
    refine lv_bipush (v := -101) hx hb dX7_axiom_14 (by decide) ?_
    cases hs
    exact ret_roi hx hb hr hlk hS dX7_axiom_16
noncomputable def b_X7_closeRoles_106 (c106_1 : Int32) (c106_2 : Int32) (v106_3 : Int32) (z106 : MS) : Option ((Int32 × MS) ⊕ ((Int32 × MS) ⊕ ((Int32 × MS) ⊕ MS))) :=
  (if (4 : Int32) ≤ v106_3 then some (Sum.inr (Sum.inl ((c106_2 + 1), z106))) else (Option.bind (rd 16 (z106 26) (((4 : Int32) * c106_2) + v106_3)) (fun r6 => (if r6 = 0 then (Option.bind (rd 16 (z106 26) (((4 : Int32) * c106_2) + c106_1)) (fun r9 => (if r9 = 0 then (Option.bind (mwr z106 26 16 (((4 : Int32) * c106_2) + v106_3) (0 : Int32)) (fun r11 => some (Sum.inl ((v106_3 + 1), r11)))) else (Option.bind (rd 16 (z106 26) (((4 : Int32) * c106_1) + v106_3)) (fun r12 => (if r12 = 0 then (Option.bind (mwr z106 26 16 (((4 : Int32) * c106_2) + v106_3) (0 : Int32)) (fun r14 => some (Sum.inl ((v106_3 + 1), r14)))) else (Option.bind (mwr z106 26 16 (((4 : Int32) * c106_2) + v106_3) (1 : Int32)) (fun r15 => some (Sum.inl ((v106_3 + 1), r15)))))))))) else (Option.bind (mwr z106 26 16 (((4 : Int32) * c106_2) + v106_3) (1 : Int32)) (fun r8 => some (Sum.inl ((v106_3 + 1), r8))))))))
noncomputable def b_X7_closeRoles_99 (c99_1 : Int32) (v99_2 : Int32) (z99 : MS) : Option ((Int32 × MS) ⊕ ((Int32 × MS) ⊕ MS)) :=
  (if (4 : Int32) ≤ v99_2 then some (Sum.inr (Sum.inl ((c99_1 + 1), z99))) else (loopC (fun v => b_X7_closeRoles_106 c99_1 v99_2 v.1 v.2) ((0 : Int32), z99)))
noncomputable def b_X7_closeRoles_92 (v92_1 : Int32) (z92 : MS) : Option ((Int32 × MS) ⊕ MS) :=
  (if (4 : Int32) ≤ v92_1 then some (Sum.inr (z92)) else (loopC (fun v => b_X7_closeRoles_99 v92_1 v.1 v.2) ((0 : Int32), z92)))
noncomputable def b_X7_closeRoles_36 (v36_1 : Int32) (z36 : MS) : Option ((Int32 × MS) ⊕ MS) :=
  (if (z36 5 0) ≤ v36_1 then (Option.map (fun z => Sum.inr (z)) (loopC (fun v => b_X7_closeRoles_92 v.1 v.2) ((0 : Int32), z36))) else (Option.bind (rd 40 (z36 10) v36_1) (fun r16 => (if r16 = 0 then some (Sum.inl ((v36_1 + 1), z36)) else (Option.bind (rd 40 (z36 6) v36_1) (fun r18 => (if r18 = (1 : Int32) then (Option.bind (rd 40 (z36 7) v36_1) (fun r20 => (Option.bind (rd 40 (z36 8) v36_1) (fun r21 => (Option.bind (mwr z36 26 16 (((4 : Int32) * r20) + r21) (1 : Int32)) (fun r22 => some (Sum.inl ((v36_1 + 1), r22)))))))) else some (Sum.inl ((v36_1 + 1), z36)))))))))
noncomputable def b_X7_closeRoles_2 (v2_1 : Int32) (z2 : MS) : Option ((Int32 × MS) ⊕ MS) :=
  (if (16 : Int32) ≤ v2_1 then (Option.map (fun z => Sum.inr (z)) (loopC (fun v => b_X7_closeRoles_36 v.1 v.2) ((0 : Int32), z2))) else (if (v2_1 / (4 : Int32)) = (v2_1 - v2_1 / (4 : Int32) * (4 : Int32)) then (Option.bind (mwr z2 26 16 v2_1 (1 : Int32)) (fun r25 => some (Sum.inl ((v2_1 + 1), r25)))) else (Option.bind (mwr z2 26 16 v2_1 (0 : Int32)) (fun r24 => some (Sum.inl ((v2_1 + 1), r24))))))
noncomputable def f_X7_closeRoles (st : MS) : Option MS :=
  (loopC (fun v => b_X7_closeRoles_2 v.1 v.2) ((0 : Int32), st))
set_option maxHeartbeats 4000000 in
set_option maxRecDepth 100000 in
theorem m_X7_closeRoles (l : Launch) (g : GG) (b : Nat → Nat) (st : MS) (sz : Nat)  (res : MS) (hs : f_X7_closeRoles st = some res) : Met l yX7_closeRoles (Cond.code yX7_closeRoles cX7_closeRoles 4 none :: BIG) ({ frames := 0, cells := 0, slots := 0, locals := 0 } : Room) (va_Pc [.ref (b 0)] (RWp g (mW g b st) sz)) (RWv g (mW g b res) (va_A (mW g b st) sz)) 0 0 (va_A (mW g b st) sz) := by
  refine rw_start (cc := cX7_closeRoles) (maxL := 4) (ret := none) (lv := [(0, .ref (b 0))]) (Qc := fun A => (RWv g (mW g b res) A)) (by decide) rfl (Nat.le_of_ble_eq_true rfl) rfl ?_
  intro p e s m args below meth c hx hb hml hr hts hown hlk hK A hD0 hA H locs hP hS ls hl
  have hD : ∀ st' : MS, va_D A (mW g b st') := fun _ => mW_D hD0
  have hB : ∀ w ∈ BIG, w.before args s = true := fun w h => hts w (List.mem_cons_of_mem _ h)
  have hC : CallFix p m c cX7_closeRoles 4 s args BIG RX7 := ⟨hx, hb, hml, hown, hB⟩
  unfold f_X7_closeRoles at hs
  refine lv_iconst (v := 0) hx hb dX7_closeRoles_0 (by decide) ?_
  refine lv_istore_n (lv' := [(1, .int (0 : Int32)), (0, .ref (b 0))]) hx hb dX7_closeRoles_1 rfl hl (by decide) rfl (fun ls hl => ?_)
  obtain ⟨n2, hs⟩ := loopC_iter hs
  have L2 : ∀ (n : Nat) (v2_1 : Int32) (z2 : MS), iterO (fun v => b_X7_closeRoles_2 v.1 v.2) n (v2_1, z2) = some res → ∀ (H : Heap) (locs : List Loc), va_P g.1 vwCl (mW g b z2) H → va_S A s.heap H locs → ∀ ls : Array Slot, lv_has ls 4 [(0, .ref (b 0)), (1, .int v2_1)] → W p l e ({ frames := 0, cells := 0, slots := 0, locals := 0 } : Room) s m args below meth c H locs 0 0 (MQ below (RWv g (mW g b res) A) args s 0 0 A) (F0 m 2 ls []) := by
    intro n
    induction n with
    | zero => intro v2_1 z2 hs; exact (iterO_zero hs).elim
    | succ n ih2 =>
      intro v2_1 z2 hs H locs hP hS ls hl
      obtain ⟨y2, hs, hk2⟩ := iterO_succ hs
      have hs : b_X7_closeRoles_2 v2_1 z2 = some y2 := hs
      unfold b_X7_closeRoles_2 at hs
      refine lv_iload_n hx hb dX7_closeRoles_2 rfl (lv_at hl 1 rfl) ?_
      refine lv_bipush (v := 16) hx hb dX7_closeRoles_3 (by decide) ?_
      refine lv_icmp_ge (tgt := 34) hx hb dX7_closeRoles_5 (by decide) (fun c1 => ?_) (fun c1 => ?_)
      · have hs := ifp c1 hs
        refine lv_iconst (v := 0) hx hb dX7_closeRoles_34 (by decide) ?_
        refine lv_istore_n (lv' := [(1, .int (0 : Int32)), (0, .ref (b 0))]) hx hb dX7_closeRoles_35 rfl hl (by decide) rfl (fun ls hl => ?_)
        obtain ⟨w36, hm36, hw36⟩ := Option.map_eq_some_iff.mp hs
        clear hs
        cases hw36
        cases elim_inr hk2
        have hs := hm36
        obtain ⟨n36, hs⟩ := loopC_iter hs
        have L36 : ∀ (n : Nat) (v36_1 : Int32) (z36 : MS), iterO (fun v => b_X7_closeRoles_36 v.1 v.2) n (v36_1, z36) = some res → ∀ (H : Heap) (locs : List Loc), va_P g.1 vwCl (mW g b z36) H → va_S A s.heap H locs → ∀ ls : Array Slot, lv_has ls 4 [(0, .ref (b 0)), (1, .int v36_1)] → W p l e ({ frames := 0, cells := 0, slots := 0, locals := 0 } : Room) s m args below meth c H locs 0 0 (MQ below (RWv g (mW g b res) A) args s 0 0 A) (F0 m 36 ls []) := by
          intro n
          induction n with
          | zero => intro v36_1 z36 hs; exact (iterO_zero hs).elim
          | succ n ih36 =>
            intro v36_1 z36 hs H locs hP hS ls hl
            obtain ⟨y36, hs, hk36⟩ := iterO_succ hs
            have hs : b_X7_closeRoles_36 v36_1 z36 = some y36 := hs
            unfold b_X7_closeRoles_36 at hs
            refine lv_iload_n hx hb dX7_closeRoles_36 rfl (lv_at hl 1 rfl) ?_
            refine lv_aload_n hx hb dX7_closeRoles_37 rfl (lv_at hl 0 rfl) ?_
            refine mg_5 hx hb hB hown hK hP dX7_closeRoles_38 ?_
            refine lv_icmp_ge (tgt := 90) hx hb dX7_closeRoles_41 (by decide) (fun c2 => ?_) (fun c2 => ?_)
            · have hs := ifp c2 hs
              refine lv_iconst (v := 0) hx hb dX7_closeRoles_90 (by decide) ?_
              refine lv_istore_n (lv' := [(1, .int (0 : Int32)), (0, .ref (b 0))]) hx hb dX7_closeRoles_91 rfl hl (by decide) rfl (fun ls hl => ?_)
              obtain ⟨w92, hm92, hw92⟩ := Option.map_eq_some_iff.mp hs
              clear hs
              cases hw92
              cases elim_inr hk36
              have hs := hm92
              obtain ⟨n92, hs⟩ := loopC_iter hs
              have L92 : ∀ (n : Nat) (v92_1 : Int32) (z92 : MS), iterO (fun v => b_X7_closeRoles_92 v.1 v.2) n (v92_1, z92) = some res → ∀ (H : Heap) (locs : List Loc), va_P g.1 vwCl (mW g b z92) H → va_S A s.heap H locs → ∀ ls : Array Slot, lv_has ls 4 [(0, .ref (b 0)), (1, .int v92_1)] → W p l e ({ frames := 0, cells := 0, slots := 0, locals := 0 } : Room) s m args below meth c H locs 0 0 (MQ below (RWv g (mW g b res) A) args s 0 0 A) (F0 m 92 ls []) := by
                intro n
                induction n with
                | zero => intro v92_1 z92 hs; exact (iterO_zero hs).elim
                | succ n ih92 =>
                  intro v92_1 z92 hs H locs hP hS ls hl
                  obtain ⟨y92, hs, hk92⟩ := iterO_succ hs
                  have hs : b_X7_closeRoles_92 v92_1 z92 = some y92 := hs
                  unfold b_X7_closeRoles_92 at hs
                  refine lv_iload_n hx hb dX7_closeRoles_92 rfl (lv_at hl 1 rfl) ?_
                  refine lv_iconst (v := 4) hx hb dX7_closeRoles_93 (by decide) ?_
                  refine lv_icmp_ge (tgt := 183) hx hb dX7_closeRoles_94 (by decide) (fun c3 => ?_) (fun c3 => ?_)
                  · have hs := ifp c3 hs
                    cases hs
                    cases elim_inr hk92
                    exact ret_rwv hx hb hr hlk hP hS dX7_closeRoles_183
                  · have hs := ifn c3 hs
                    refine lv_iconst (v := 0) hx hb dX7_closeRoles_97 (by decide) ?_
                    refine lv_istore_n (lv' := [(2, .int (0 : Int32)), (0, .ref (b 0)), (1, .int v92_1)]) hx hb dX7_closeRoles_98 rfl hl (by decide) rfl (fun ls hl => ?_)
                    obtain ⟨n99, hs⟩ := loopC_iter hs
                    have L99 : ∀ (n : Nat) (v99_2 : Int32) (z99 : MS), iterO (fun v => b_X7_closeRoles_99 v92_1 v.1 v.2) n (v99_2, z99) = some y92 → ∀ (H : Heap) (locs : List Loc), va_P g.1 vwCl (mW g b z99) H → va_S A s.heap H locs → ∀ ls : Array Slot, lv_has ls 4 [(0, .ref (b 0)), (1, .int v92_1), (2, .int v99_2)] → W p l e ({ frames := 0, cells := 0, slots := 0, locals := 0 } : Room) s m args below meth c H locs 0 0 (MQ below (RWv g (mW g b res) A) args s 0 0 A) (F0 m 99 ls []) := by
                      intro n
                      induction n with
                      | zero => intro v99_2 z99 hs; exact (iterO_zero hs).elim
                      | succ n ih99 =>
                        intro v99_2 z99 hs H locs hP hS ls hl
                        obtain ⟨y99, hs, hk99⟩ := iterO_succ hs
                        have hs : b_X7_closeRoles_99 v92_1 v99_2 z99 = some y99 := hs
                        unfold b_X7_closeRoles_99 at hs
                        refine lv_iload_n hx hb dX7_closeRoles_99 rfl (lv_at hl 2 rfl) ?_
                        refine lv_iconst (v := 4) hx hb dX7_closeRoles_100 (by decide) ?_
                        refine lv_icmp_ge (tgt := 177) hx hb dX7_closeRoles_101 (by decide) (fun c4 => ?_) (fun c4 => ?_)
                        · have hs := ifp c4 hs
                          refine lv_iinc (v := (v92_1 + 1)) (lv' := [(1, .int (v92_1 + 1)), (0, .ref (b 0)), (2, .int v99_2)]) hx hb dX7_closeRoles_177 hl (k := 1) rfl (by rfl) (by decide) rfl (fun ls hl => ?_)
                          refine lv_goto (tgt := 92) hx hb dX7_closeRoles_180 (by decide) ?_
                          cases hs
                          cases elim_inr hk99
                          exact ih92 (v92_1 + 1) z99 hk92 _ _ hP hS _ (lv_sub hl [1, 0] rfl)
                        · have hs := ifn c4 hs
                          refine lv_iconst (v := 0) hx hb dX7_closeRoles_104 (by decide) ?_
                          refine lv_istore_n (lv' := [(3, .int (0 : Int32)), (0, .ref (b 0)), (1, .int v92_1), (2, .int v99_2)]) hx hb dX7_closeRoles_105 rfl hl (by decide) rfl (fun ls hl => ?_)
                          obtain ⟨n106, hs⟩ := loopC_iter hs
                          have L106 : ∀ (n : Nat) (v106_3 : Int32) (z106 : MS), iterO (fun v => b_X7_closeRoles_106 v92_1 v99_2 v.1 v.2) n (v106_3, z106) = some y99 → ∀ (H : Heap) (locs : List Loc), va_P g.1 vwCl (mW g b z106) H → va_S A s.heap H locs → ∀ ls : Array Slot, lv_has ls 4 [(0, .ref (b 0)), (1, .int v92_1), (2, .int v99_2), (3, .int v106_3)] → W p l e ({ frames := 0, cells := 0, slots := 0, locals := 0 } : Room) s m args below meth c H locs 0 0 (MQ below (RWv g (mW g b res) A) args s 0 0 A) (F0 m 106 ls []) := by
                            intro n
                            induction n with
                            | zero => intro v106_3 z106 hs; exact (iterO_zero hs).elim
                            | succ n ih106 =>
                              intro v106_3 z106 hs H locs hP hS ls hl
                              obtain ⟨y106, hs, hk106⟩ := iterO_succ hs
                              have hs : b_X7_closeRoles_106 v92_1 v99_2 v106_3 z106 = some y106 := hs
                              unfold b_X7_closeRoles_106 at hs
                              refine lv_iload_n hx hb dX7_closeRoles_106 rfl (lv_at hl 3 rfl) ?_
                              refine lv_iconst (v := 4) hx hb dX7_closeRoles_107 (by decide) ?_
                              refine lv_icmp_ge (tgt := 171) hx hb dX7_closeRoles_108 (by decide) (fun c5 => ?_) (fun c5 => ?_)
                              · have hs := ifp c5 hs
                                refine lv_iinc (v := (v99_2 + 1)) (lv' := [(2, .int (v99_2 + 1)), (0, .ref (b 0)), (1, .int v92_1), (3, .int v106_3)]) hx hb dX7_closeRoles_171 hl (k := 2) rfl (by rfl) (by decide) rfl (fun ls hl => ?_)
                                refine lv_goto (tgt := 99) hx hb dX7_closeRoles_174 (by decide) ?_
                                cases hs
                                cases elim_inr hk106
                                exact ih99 (v99_2 + 1) z106 hk99 _ _ hP hS _ (lv_sub hl [1, 2, 0] rfl)
                              · have hs := ifn c5 hs
                                refine lv_aload_n hx hb dX7_closeRoles_111 rfl (lv_at hl 0 rfl) ?_
                                refine mg_26 hx hb hB hown hK hP dX7_closeRoles_112 ?_
                                refine lv_iconst (v := 4) hx hb dX7_closeRoles_115 (by decide) ?_
                                refine lv_iload_n hx hb dX7_closeRoles_116 rfl (lv_at hl 2 rfl) ?_
                                refine lv_imul hx hb dX7_closeRoles_117 ?_
                                refine lv_iload_n hx hb dX7_closeRoles_118 rfl (lv_at hl 3 rfl) ?_
                                refine lv_iadd hx hb dX7_closeRoles_119 ?_
                                refine lv_aload_n hx hb dX7_closeRoles_120 rfl (lv_at hl 0 rfl) ?_
                                refine mg_26 hx hb hB hown hK hP dX7_closeRoles_121 ?_
                                refine lv_iconst (v := 4) hx hb dX7_closeRoles_124 (by decide) ?_
                                refine lv_iload_n hx hb dX7_closeRoles_125 rfl (lv_at hl 2 rfl) ?_
                                refine lv_imul hx hb dX7_closeRoles_126 ?_
                                refine lv_iload_n hx hb dX7_closeRoles_127 rfl (lv_at hl 3 rfl) ?_
                                refine lv_iadd hx hb dX7_closeRoles_128 ?_
                                obtain ⟨r6, e6, hs⟩ := Option.bind_eq_some_iff.mp hs
                                refine ml_26 hx hb hK hP e6 dX7_closeRoles_129 ?_
                                refine lv_if_ne (tgt := 159) hx hb dX7_closeRoles_130 (by decide) (fun c7 => ?_) (fun c7 => ?_)
                                · have hs := ifn c7 hs
                                  refine lv_iconst (v := 1) hx hb dX7_closeRoles_159 (by decide) ?_
                                  refine lv_goto (tgt := 164) hx hb dX7_closeRoles_160 (by decide) ?_
                                  obtain ⟨r8, e8, hs⟩ := Option.bind_eq_some_iff.mp hs
                                  refine ms_26 hx hb hK hP hD hS rfl e8 dX7_closeRoles_164 (fun H locs hP hS => ?_)
                                  refine lv_iinc (v := (v106_3 + 1)) (lv' := [(3, .int (v106_3 + 1)), (0, .ref (b 0)), (1, .int v92_1), (2, .int v99_2)]) hx hb dX7_closeRoles_165 hl (k := 3) rfl (by rfl) (by decide) rfl (fun ls hl => ?_)
                                  refine lv_goto (tgt := 106) hx hb dX7_closeRoles_168 (by decide) ?_
                                  cases hs
                                  exact ih106 (v106_3 + 1) r8 hk106 _ _ hP hS _ (lv_sub hl [1, 2, 3, 0] rfl)
                                · have hs := ifp c7 hs
                                  refine lv_aload_n hx hb dX7_closeRoles_133 rfl (lv_at hl 0 rfl) ?_
                                  refine mg_26 hx hb hB hown hK hP dX7_closeRoles_134 ?_
                                  refine lv_iconst (v := 4) hx hb dX7_closeRoles_137 (by decide) ?_
                                  refine lv_iload_n hx hb dX7_closeRoles_138 rfl (lv_at hl 2 rfl) ?_
                                  refine lv_imul hx hb dX7_closeRoles_139 ?_
                                  refine lv_iload_n hx hb dX7_closeRoles_140 rfl (lv_at hl 1 rfl) ?_
                                  refine lv_iadd hx hb dX7_closeRoles_141 ?_
                                  obtain ⟨r9, e9, hs⟩ := Option.bind_eq_some_iff.mp hs
                                  refine ml_26 hx hb hK hP e9 dX7_closeRoles_142 ?_
                                  refine lv_if_eq (tgt := 163) hx hb dX7_closeRoles_143 (by decide) (fun c10 => ?_) (fun c10 => ?_)
                                  · have hs := ifp c10 hs
                                    refine lv_iconst (v := 0) hx hb dX7_closeRoles_163 (by decide) ?_
                                    obtain ⟨r11, e11, hs⟩ := Option.bind_eq_some_iff.mp hs
                                    refine ms_26 hx hb hK hP hD hS rfl e11 dX7_closeRoles_164 (fun H locs hP hS => ?_)
                                    refine lv_iinc (v := (v106_3 + 1)) (lv' := [(3, .int (v106_3 + 1)), (0, .ref (b 0)), (1, .int v92_1), (2, .int v99_2)]) hx hb dX7_closeRoles_165 hl (k := 3) rfl (by rfl) (by decide) rfl (fun ls hl => ?_)
                                    refine lv_goto (tgt := 106) hx hb dX7_closeRoles_168 (by decide) ?_
                                    cases hs
                                    exact ih106 (v106_3 + 1) r11 hk106 _ _ hP hS _ (lv_sub hl [1, 2, 3, 0] rfl)
                                  · have hs := ifn c10 hs
                                    refine lv_aload_n hx hb dX7_closeRoles_146 rfl (lv_at hl 0 rfl) ?_
                                    refine mg_26 hx hb hB hown hK hP dX7_closeRoles_147 ?_
                                    refine lv_iconst (v := 4) hx hb dX7_closeRoles_150 (by decide) ?_
                                    refine lv_iload_n hx hb dX7_closeRoles_151 rfl (lv_at hl 1 rfl) ?_
                                    refine lv_imul hx hb dX7_closeRoles_152 ?_
                                    refine lv_iload_n hx hb dX7_closeRoles_153 rfl (lv_at hl 3 rfl) ?_
                                    refine lv_iadd hx hb dX7_closeRoles_154 ?_
                                    obtain ⟨r12, e12, hs⟩ := Option.bind_eq_some_iff.mp hs
                                    refine ml_26 hx hb hK hP e12 dX7_closeRoles_155 ?_
                                    refine lv_if_eq (tgt := 163) hx hb dX7_closeRoles_156 (by decide) (fun c13 => ?_) (fun c13 => ?_)
                                    · have hs := ifp c13 hs
                                      refine lv_iconst (v := 0) hx hb dX7_closeRoles_163 (by decide) ?_
                                      obtain ⟨r14, e14, hs⟩ := Option.bind_eq_some_iff.mp hs
                                      refine ms_26 hx hb hK hP hD hS rfl e14 dX7_closeRoles_164 (fun H locs hP hS => ?_)
                                      refine lv_iinc (v := (v106_3 + 1)) (lv' := [(3, .int (v106_3 + 1)), (0, .ref (b 0)), (1, .int v92_1), (2, .int v99_2)]) hx hb dX7_closeRoles_165 hl (k := 3) rfl (by rfl) (by decide) rfl (fun ls hl => ?_)
                                      refine lv_goto (tgt := 106) hx hb dX7_closeRoles_168 (by decide) ?_
                                      cases hs
                                      exact ih106 (v106_3 + 1) r14 hk106 _ _ hP hS _ (lv_sub hl [1, 2, 3, 0] rfl)
                                    · have hs := ifn c13 hs
                                      refine lv_iconst (v := 1) hx hb dX7_closeRoles_159 (by decide) ?_
                                      refine lv_goto (tgt := 164) hx hb dX7_closeRoles_160 (by decide) ?_
                                      obtain ⟨r15, e15, hs⟩ := Option.bind_eq_some_iff.mp hs
                                      refine ms_26 hx hb hK hP hD hS rfl e15 dX7_closeRoles_164 (fun H locs hP hS => ?_)
                                      refine lv_iinc (v := (v106_3 + 1)) (lv' := [(3, .int (v106_3 + 1)), (0, .ref (b 0)), (1, .int v92_1), (2, .int v99_2)]) hx hb dX7_closeRoles_165 hl (k := 3) rfl (by rfl) (by decide) rfl (fun ls hl => ?_)
                                      refine lv_goto (tgt := 106) hx hb dX7_closeRoles_168 (by decide) ?_
                                      cases hs
                                      exact ih106 (v106_3 + 1) r15 hk106 _ _ hP hS _ (lv_sub hl [1, 2, 3, 0] rfl)
                          exact L106 n106 (0 : Int32) z99 hs _ _ hP hS _ (lv_sub hl [1, 2, 3, 0] rfl)
                    exact L99 n99 (0 : Int32) z92 hs _ _ hP hS _ (lv_sub hl [1, 2, 0] rfl)
              exact L92 n92 (0 : Int32) z36 hs _ _ hP hS _ (lv_sub hl [1, 0] rfl)
            · have hs := ifn c2 hs
              refine lv_aload_n hx hb dX7_closeRoles_44 rfl (lv_at hl 0 rfl) ?_
              refine mg_10 hx hb hB hown hK hP dX7_closeRoles_45 ?_
              refine lv_iload_n hx hb dX7_closeRoles_48 rfl (lv_at hl 1 rfl) ?_
              obtain ⟨r16, e16, hs⟩ := Option.bind_eq_some_iff.mp hs
              refine ml_10 hx hb hK hP e16 dX7_closeRoles_49 ?_
              refine lv_if_eq (tgt := 84) hx hb dX7_closeRoles_50 (by decide) (fun c17 => ?_) (fun c17 => ?_)
              · have hs := ifp c17 hs
                refine lv_iinc (v := (v36_1 + 1)) (lv' := [(1, .int (v36_1 + 1)), (0, .ref (b 0))]) hx hb dX7_closeRoles_84 hl (k := 1) rfl (by rfl) (by decide) rfl (fun ls hl => ?_)
                refine lv_goto (tgt := 36) hx hb dX7_closeRoles_87 (by decide) ?_
                cases hs
                exact ih36 (v36_1 + 1) z36 hk36 _ _ hP hS _ (lv_sub hl [1, 0] rfl)
              · have hs := ifn c17 hs
                refine lv_aload_n hx hb dX7_closeRoles_53 rfl (lv_at hl 0 rfl) ?_
                refine mg_6 hx hb hB hown hK hP dX7_closeRoles_54 ?_
                refine lv_iload_n hx hb dX7_closeRoles_57 rfl (lv_at hl 1 rfl) ?_
                obtain ⟨r18, e18, hs⟩ := Option.bind_eq_some_iff.mp hs
                refine ml_6 hx hb hK hP e18 dX7_closeRoles_58 ?_
                refine lv_iconst (v := 1) hx hb dX7_closeRoles_59 (by decide) ?_
                refine lv_icmp_ne (tgt := 84) hx hb dX7_closeRoles_60 (by decide) (fun c19 => ?_) (fun c19 => ?_)
                · have hs := ifn c19 hs
                  refine lv_iinc (v := (v36_1 + 1)) (lv' := [(1, .int (v36_1 + 1)), (0, .ref (b 0))]) hx hb dX7_closeRoles_84 hl (k := 1) rfl (by rfl) (by decide) rfl (fun ls hl => ?_)
                  refine lv_goto (tgt := 36) hx hb dX7_closeRoles_87 (by decide) ?_
                  cases hs
                  exact ih36 (v36_1 + 1) z36 hk36 _ _ hP hS _ (lv_sub hl [1, 0] rfl)
                · have hs := ifp c19 hs
                  refine lv_aload_n hx hb dX7_closeRoles_63 rfl (lv_at hl 0 rfl) ?_
                  refine mg_26 hx hb hB hown hK hP dX7_closeRoles_64 ?_
                  refine lv_iconst (v := 4) hx hb dX7_closeRoles_67 (by decide) ?_
                  refine lv_aload_n hx hb dX7_closeRoles_68 rfl (lv_at hl 0 rfl) ?_
                  refine mg_7 hx hb hB hown hK hP dX7_closeRoles_69 ?_
                  refine lv_iload_n hx hb dX7_closeRoles_72 rfl (lv_at hl 1 rfl) ?_
                  obtain ⟨r20, e20, hs⟩ := Option.bind_eq_some_iff.mp hs
                  refine ml_7 hx hb hK hP e20 dX7_closeRoles_73 ?_
                  refine lv_imul hx hb dX7_closeRoles_74 ?_
                  refine lv_aload_n hx hb dX7_closeRoles_75 rfl (lv_at hl 0 rfl) ?_
                  refine mg_8 hx hb hB hown hK hP dX7_closeRoles_76 ?_
                  refine lv_iload_n hx hb dX7_closeRoles_79 rfl (lv_at hl 1 rfl) ?_
                  obtain ⟨r21, e21, hs⟩ := Option.bind_eq_some_iff.mp hs
                  refine ml_8 hx hb hK hP e21 dX7_closeRoles_80 ?_
                  refine lv_iadd hx hb dX7_closeRoles_81 ?_
                  refine lv_iconst (v := 1) hx hb dX7_closeRoles_82 (by decide) ?_
                  obtain ⟨r22, e22, hs⟩ := Option.bind_eq_some_iff.mp hs
                  refine ms_26 hx hb hK hP hD hS rfl e22 dX7_closeRoles_83 (fun H locs hP hS => ?_)
                  refine lv_iinc (v := (v36_1 + 1)) (lv' := [(1, .int (v36_1 + 1)), (0, .ref (b 0))]) hx hb dX7_closeRoles_84 hl (k := 1) rfl (by rfl) (by decide) rfl (fun ls hl => ?_)
                  refine lv_goto (tgt := 36) hx hb dX7_closeRoles_87 (by decide) ?_
                  cases hs
                  exact ih36 (v36_1 + 1) r22 hk36 _ _ hP hS _ (lv_sub hl [1, 0] rfl)
        exact L36 n36 (0 : Int32) z2 hs _ _ hP hS _ (lv_sub hl [1, 0] rfl)
      · have hs := ifn c1 hs
        refine lv_aload_n hx hb dX7_closeRoles_8 rfl (lv_at hl 0 rfl) ?_
        refine mg_26 hx hb hB hown hK hP dX7_closeRoles_9 ?_
        refine lv_iload_n hx hb dX7_closeRoles_12 rfl (lv_at hl 1 rfl) ?_
        refine lv_iload_n hx hb dX7_closeRoles_13 rfl (lv_at hl 1 rfl) ?_
        refine lv_iconst (v := 4) hx hb dX7_closeRoles_14 (by decide) ?_
        refine lv_idiv hx hb dX7_closeRoles_15 (by decide) ?_
        refine lv_iload_n hx hb dX7_closeRoles_16 rfl (lv_at hl 1 rfl) ?_
        refine lv_iconst (v := 4) hx hb dX7_closeRoles_17 (by decide) ?_
        refine lv_irem hx hb dX7_closeRoles_18 (by decide) ?_
        refine lv_icmp_ne (tgt := 26) hx hb dX7_closeRoles_19 (by decide) (fun c23 => ?_) (fun c23 => ?_)
        · have hs := ifn c23 hs
          refine lv_iconst (v := 0) hx hb dX7_closeRoles_26 (by decide) ?_
          obtain ⟨r24, e24, hs⟩ := Option.bind_eq_some_iff.mp hs
          refine ms_26 hx hb hK hP hD hS rfl e24 dX7_closeRoles_27 (fun H locs hP hS => ?_)
          refine lv_iinc (v := (v2_1 + 1)) (lv' := [(1, .int (v2_1 + 1)), (0, .ref (b 0))]) hx hb dX7_closeRoles_28 hl (k := 1) rfl (by rfl) (by decide) rfl (fun ls hl => ?_)
          refine lv_goto (tgt := 2) hx hb dX7_closeRoles_31 (by decide) ?_
          cases hs
          exact ih2 (v2_1 + 1) r24 hk2 _ _ hP hS _ (lv_sub hl [1, 0] rfl)
        · have hs := ifp c23 hs
          refine lv_iconst (v := 1) hx hb dX7_closeRoles_22 (by decide) ?_
          refine lv_goto (tgt := 27) hx hb dX7_closeRoles_23 (by decide) ?_
          obtain ⟨r25, e25, hs⟩ := Option.bind_eq_some_iff.mp hs
          refine ms_26 hx hb hK hP hD hS rfl e25 dX7_closeRoles_27 (fun H locs hP hS => ?_)
          refine lv_iinc (v := (v2_1 + 1)) (lv' := [(1, .int (v2_1 + 1)), (0, .ref (b 0))]) hx hb dX7_closeRoles_28 hl (k := 1) rfl (by rfl) (by decide) rfl (fun ls hl => ?_)
          refine lv_goto (tgt := 2) hx hb dX7_closeRoles_31 (by decide) ?_
          cases hs
          exact ih2 (v2_1 + 1) r25 hk2 _ _ hP hS _ (lv_sub hl [1, 0] rfl)
  exact L2 n2 (0 : Int32) st hs _ _ hP hS _ (lv_sub hl [1, 0] rfl)
noncomputable def f_X7_fact (st : MS) (p1 : Int32) (p2 : Int32) : Option Int32 :=
  (Option.bind (rd 36000 (st 15) (((9 : Int32) * p1) + p2)) (fun r1 => some (r1)))
set_option maxHeartbeats 4000000 in
set_option maxRecDepth 100000 in
theorem m_X7_fact (l : Launch) (g : GG) (b : Nat → Nat) (st : MS) (p1 : Int32) (p2 : Int32) (res : Int32) (hs : f_X7_fact st p1 p2 = some res) : Met l yX7_fact (Cond.code yX7_fact cX7_fact 3 (some .int) :: BIG) ({ frames := 0, cells := 0, slots := 0, locals := 0 } : Room) (va_Pc [.ref (b 0), .int p1, .int p2] (ROp g (mW g b st))) (ROi res) 0 0 (fun _ => False) := by
  refine ro_start (cc := cX7_fact) (maxL := 3) (ret := (some .int)) (lv := [(0, .ref (b 0)), (1, .int p1), (2, .int p2)]) (by decide) rfl (Nat.le_of_ble_eq_true rfl) rfl ?_
  intro p e s m args below meth c hx hb hml hr hts hown hlk hK H locs hP hS ls hl
  have hB : ∀ w ∈ BIG, w.before args s = true := fun w h => hts w (List.mem_cons_of_mem _ h)
  have hC : CallFix p m c cX7_fact 3 s args BIG RX7 := ⟨hx, hb, hml, hown, hB⟩
  unfold f_X7_fact at hs
  refine lv_aload_n hx hb dX7_fact_0 rfl (lv_at hl 0 rfl) ?_
  refine mg_15 hx hb hB hown hK hP dX7_fact_1 ?_
  refine lv_bipush (v := 9) hx hb dX7_fact_4 (by decide) ?_
  refine lv_iload_n hx hb dX7_fact_6 rfl (lv_at hl 1 rfl) ?_
  refine lv_imul hx hb dX7_fact_7 ?_
  refine lv_iload_n hx hb dX7_fact_8 rfl (lv_at hl 2 rfl) ?_
  refine lv_iadd hx hb dX7_fact_9 ?_
  obtain ⟨r1, e1, hs⟩ := Option.bind_eq_some_iff.mp hs
  refine ml_15 hx hb hK hP e1 dX7_fact_10 ?_
  cases hs
  exact ret_roi hx hb hr hlk hS dX7_fact_11
noncomputable def f_X7_findIs (st : MS) (p1 : Int32) (p2 : Int32) (p3 : Int32) (p4 : Int32) (p5 : Int32) (p6 : Int32) : Option MS :=
  (Option.bind (rd 784 (st 16) (((28 : Int32) * p1) + p2)) (fun r1 => (if r1 = (-1 : Int32) then (Option.bind (rd 784 (st 18) (((28 : Int32) * p1) + p2)) (fun r3 => (if r3 = (-1 : Int32) then (Option.bind (mwr st 18 784 (((28 : Int32) * p1) + p2) p3) (fun r5 => (Option.bind (mwr r5 19 784 (((28 : Int32) * p1) + p2) p4) (fun r6 => (Option.bind (mwr r6 20 784 (((28 : Int32) * p1) + p2) p5) (fun r7 => (Option.bind (mwr r7 21 784 (((28 : Int32) * p1) + p2) p6) (fun r8 => some (r8))))))))) else some (st)))) else some (st))))
set_option maxHeartbeats 4000000 in
set_option maxRecDepth 100000 in
theorem m_X7_findIs (l : Launch) (g : GG) (b : Nat → Nat) (st : MS) (sz : Nat) (p1 : Int32) (p2 : Int32) (p3 : Int32) (p4 : Int32) (p5 : Int32) (p6 : Int32) (res : MS) (hs : f_X7_findIs st p1 p2 p3 p4 p5 p6 = some res) : Met l yX7_findIs (Cond.code yX7_findIs cX7_findIs 8 none :: BIG) ({ frames := 0, cells := 0, slots := 0, locals := 0 } : Room) (va_Pc [.ref (b 0), .int p1, .int p2, .int p3, .int p4, .int p5, .int p6] (RWp g (mW g b st) sz)) (RWv g (mW g b res) (va_A (mW g b st) sz)) 0 0 (va_A (mW g b st) sz) := by
  refine rw_start (cc := cX7_findIs) (maxL := 8) (ret := none) (lv := [(0, .ref (b 0)), (1, .int p1), (2, .int p2), (3, .int p3), (4, .int p4), (5, .int p5), (6, .int p6)]) (Qc := fun A => (RWv g (mW g b res) A)) (by decide) rfl (Nat.le_of_ble_eq_true rfl) rfl ?_
  intro p e s m args below meth c hx hb hml hr hts hown hlk hK A hD0 hA H locs hP hS ls hl
  have hD : ∀ st' : MS, va_D A (mW g b st') := fun _ => mW_D hD0
  have hB : ∀ w ∈ BIG, w.before args s = true := fun w h => hts w (List.mem_cons_of_mem _ h)
  have hC : CallFix p m c cX7_findIs 8 s args BIG RX7 := ⟨hx, hb, hml, hown, hB⟩
  unfold f_X7_findIs at hs
  refine lv_bipush (v := 28) hx hb dX7_findIs_0 (by decide) ?_
  refine lv_iload_n hx hb dX7_findIs_2 rfl (lv_at hl 1 rfl) ?_
  refine lv_imul hx hb dX7_findIs_3 ?_
  refine lv_iload_n hx hb dX7_findIs_4 rfl (lv_at hl 2 rfl) ?_
  refine lv_iadd hx hb dX7_findIs_5 ?_
  refine lv_istore (lv' := [(7, .int (((28 : Int32) * p1) + p2)), (0, .ref (b 0)), (1, .int p1), (2, .int p2), (3, .int p3), (4, .int p4), (5, .int p5), (6, .int p6)]) hx hb dX7_findIs_6 hl (by decide) rfl (fun ls hl => ?_)
  refine lv_aload_n hx hb dX7_findIs_8 rfl (lv_at hl 1 rfl) ?_
  refine mg_16 hx hb hB hown hK hP dX7_findIs_9 ?_
  refine lv_iload hx hb dX7_findIs_12 (lv_at hl 0 rfl) ?_
  obtain ⟨r1, e1, hs⟩ := Option.bind_eq_some_iff.mp hs
  refine ml_16 hx hb hK hP e1 dX7_findIs_14 ?_
  refine lv_iconst (v := -1) hx hb dX7_findIs_15 (by decide) ?_
  refine lv_icmp_ne (tgt := 65) hx hb dX7_findIs_16 (by decide) (fun c2 => ?_) (fun c2 => ?_)
  · have hs := ifn c2 hs
    cases hs
    exact ret_rwv hx hb hr hlk hP hS dX7_findIs_65
  · have hs := ifp c2 hs
    refine lv_aload_n hx hb dX7_findIs_19 rfl (lv_at hl 1 rfl) ?_
    refine mg_18 hx hb hB hown hK hP dX7_findIs_20 ?_
    refine lv_iload hx hb dX7_findIs_23 (lv_at hl 0 rfl) ?_
    obtain ⟨r3, e3, hs⟩ := Option.bind_eq_some_iff.mp hs
    refine ml_18 hx hb hK hP e3 dX7_findIs_25 ?_
    refine lv_iconst (v := -1) hx hb dX7_findIs_26 (by decide) ?_
    refine lv_icmp_ne (tgt := 65) hx hb dX7_findIs_27 (by decide) (fun c4 => ?_) (fun c4 => ?_)
    · have hs := ifn c4 hs
      cases hs
      exact ret_rwv hx hb hr hlk hP hS dX7_findIs_65
    · have hs := ifp c4 hs
      refine lv_aload_n hx hb dX7_findIs_30 rfl (lv_at hl 1 rfl) ?_
      refine mg_18 hx hb hB hown hK hP dX7_findIs_31 ?_
      refine lv_iload hx hb dX7_findIs_34 (lv_at hl 0 rfl) ?_
      refine lv_iload_n hx hb dX7_findIs_36 rfl (lv_at hl 4 rfl) ?_
      obtain ⟨r5, e5, hs⟩ := Option.bind_eq_some_iff.mp hs
      refine ms_18 hx hb hK hP hD hS e5 dX7_findIs_37 (fun H locs hP hS => ?_)
      refine lv_aload_n hx hb dX7_findIs_38 rfl (lv_at hl 1 rfl) ?_
      refine mg_19 hx hb hB hown hK hP dX7_findIs_39 ?_
      refine lv_iload hx hb dX7_findIs_42 (lv_at hl 0 rfl) ?_
      refine lv_iload hx hb dX7_findIs_44 (lv_at hl 5 rfl) ?_
      obtain ⟨r6, e6, hs⟩ := Option.bind_eq_some_iff.mp hs
      refine ms_19 hx hb hK hP hD hS e6 dX7_findIs_46 (fun H locs hP hS => ?_)
      refine lv_aload_n hx hb dX7_findIs_47 rfl (lv_at hl 1 rfl) ?_
      refine mg_20 hx hb hB hown hK hP dX7_findIs_48 ?_
      refine lv_iload hx hb dX7_findIs_51 (lv_at hl 0 rfl) ?_
      refine lv_iload hx hb dX7_findIs_53 (lv_at hl 6 rfl) ?_
      obtain ⟨r7, e7, hs⟩ := Option.bind_eq_some_iff.mp hs
      refine ms_20 hx hb hK hP hD hS e7 dX7_findIs_55 (fun H locs hP hS => ?_)
      refine lv_aload_n hx hb dX7_findIs_56 rfl (lv_at hl 1 rfl) ?_
      refine mg_21 hx hb hB hown hK hP dX7_findIs_57 ?_
      refine lv_iload hx hb dX7_findIs_60 (lv_at hl 0 rfl) ?_
      refine lv_iload hx hb dX7_findIs_62 (lv_at hl 7 rfl) ?_
      obtain ⟨r8, e8, hs⟩ := Option.bind_eq_some_iff.mp hs
      refine ms_21 hx hb hK hP hD hS e8 dX7_findIs_64 (fun H locs hP hS => ?_)
      cases hs
      exact ret_rwv hx hb hr hlk hP hS dX7_findIs_65
noncomputable def f_X7_findTo (st : MS) (p1 : Int32) (p2 : Int32) (p3 : Int32) (p4 : Int32) (p5 : Int32) (p6 : Int32) (p7 : Int32) : Option MS :=
  (Option.bind (rd 3136 (st 17) ((((112 : Int32) * p1) + ((28 : Int32) * p2)) + p3)) (fun r1 => (if r1 = (-1 : Int32) then (Option.bind (rd 3136 (st 22) ((((112 : Int32) * p1) + ((28 : Int32) * p2)) + p3)) (fun r3 => (if r3 = (-1 : Int32) then (Option.bind (mwr st 22 3136 ((((112 : Int32) * p1) + ((28 : Int32) * p2)) + p3) p4) (fun r5 => (Option.bind (mwr r5 23 3136 ((((112 : Int32) * p1) + ((28 : Int32) * p2)) + p3) p5) (fun r6 => (Option.bind (mwr r6 24 3136 ((((112 : Int32) * p1) + ((28 : Int32) * p2)) + p3) p6) (fun r7 => (Option.bind (mwr r7 25 3136 ((((112 : Int32) * p1) + ((28 : Int32) * p2)) + p3) p7) (fun r8 => some (r8))))))))) else some (st)))) else some (st))))
set_option maxHeartbeats 4000000 in
set_option maxRecDepth 100000 in
theorem m_X7_findTo (l : Launch) (g : GG) (b : Nat → Nat) (st : MS) (sz : Nat) (p1 : Int32) (p2 : Int32) (p3 : Int32) (p4 : Int32) (p5 : Int32) (p6 : Int32) (p7 : Int32) (res : MS) (hs : f_X7_findTo st p1 p2 p3 p4 p5 p6 p7 = some res) : Met l yX7_findTo (Cond.code yX7_findTo cX7_findTo 9 none :: BIG) ({ frames := 0, cells := 0, slots := 0, locals := 0 } : Room) (va_Pc [.ref (b 0), .int p1, .int p2, .int p3, .int p4, .int p5, .int p6, .int p7] (RWp g (mW g b st) sz)) (RWv g (mW g b res) (va_A (mW g b st) sz)) 0 0 (va_A (mW g b st) sz) := by
  refine rw_start (cc := cX7_findTo) (maxL := 9) (ret := none) (lv := [(0, .ref (b 0)), (1, .int p1), (2, .int p2), (3, .int p3), (4, .int p4), (5, .int p5), (6, .int p6), (7, .int p7)]) (Qc := fun A => (RWv g (mW g b res) A)) (by decide) rfl (Nat.le_of_ble_eq_true rfl) rfl ?_
  intro p e s m args below meth c hx hb hml hr hts hown hlk hK A hD0 hA H locs hP hS ls hl
  have hD : ∀ st' : MS, va_D A (mW g b st') := fun _ => mW_D hD0
  have hB : ∀ w ∈ BIG, w.before args s = true := fun w h => hts w (List.mem_cons_of_mem _ h)
  have hC : CallFix p m c cX7_findTo 9 s args BIG RX7 := ⟨hx, hb, hml, hown, hB⟩
  unfold f_X7_findTo at hs
  refine lv_bipush (v := 112) hx hb dX7_findTo_0 (by decide) ?_
  refine lv_iload_n hx hb dX7_findTo_2 rfl (lv_at hl 1 rfl) ?_
  refine lv_imul hx hb dX7_findTo_3 ?_
  refine lv_bipush (v := 28) hx hb dX7_findTo_4 (by decide) ?_
  refine lv_iload_n hx hb dX7_findTo_6 rfl (lv_at hl 2 rfl) ?_
  refine lv_imul hx hb dX7_findTo_7 ?_
  refine lv_iadd hx hb dX7_findTo_8 ?_
  refine lv_iload_n hx hb dX7_findTo_9 rfl (lv_at hl 3 rfl) ?_
  refine lv_iadd hx hb dX7_findTo_10 ?_
  refine lv_istore (lv' := [(8, .int ((((112 : Int32) * p1) + ((28 : Int32) * p2)) + p3)), (0, .ref (b 0)), (1, .int p1), (2, .int p2), (3, .int p3), (4, .int p4), (5, .int p5), (6, .int p6), (7, .int p7)]) hx hb dX7_findTo_11 hl (by decide) rfl (fun ls hl => ?_)
  refine lv_aload_n hx hb dX7_findTo_13 rfl (lv_at hl 1 rfl) ?_
  refine mg_17 hx hb hB hown hK hP dX7_findTo_14 ?_
  refine lv_iload hx hb dX7_findTo_17 (lv_at hl 0 rfl) ?_
  obtain ⟨r1, e1, hs⟩ := Option.bind_eq_some_iff.mp hs
  refine ml_17 hx hb hK hP e1 dX7_findTo_19 ?_
  refine lv_iconst (v := -1) hx hb dX7_findTo_20 (by decide) ?_
  refine lv_icmp_ne (tgt := 71) hx hb dX7_findTo_21 (by decide) (fun c2 => ?_) (fun c2 => ?_)
  · have hs := ifn c2 hs
    cases hs
    exact ret_rwv hx hb hr hlk hP hS dX7_findTo_71
  · have hs := ifp c2 hs
    refine lv_aload_n hx hb dX7_findTo_24 rfl (lv_at hl 1 rfl) ?_
    refine mg_22 hx hb hB hown hK hP dX7_findTo_25 ?_
    refine lv_iload hx hb dX7_findTo_28 (lv_at hl 0 rfl) ?_
    obtain ⟨r3, e3, hs⟩ := Option.bind_eq_some_iff.mp hs
    refine ml_22 hx hb hK hP e3 dX7_findTo_30 ?_
    refine lv_iconst (v := -1) hx hb dX7_findTo_31 (by decide) ?_
    refine lv_icmp_ne (tgt := 71) hx hb dX7_findTo_32 (by decide) (fun c4 => ?_) (fun c4 => ?_)
    · have hs := ifn c4 hs
      cases hs
      exact ret_rwv hx hb hr hlk hP hS dX7_findTo_71
    · have hs := ifp c4 hs
      refine lv_aload_n hx hb dX7_findTo_35 rfl (lv_at hl 1 rfl) ?_
      refine mg_22 hx hb hB hown hK hP dX7_findTo_36 ?_
      refine lv_iload hx hb dX7_findTo_39 (lv_at hl 0 rfl) ?_
      refine lv_iload hx hb dX7_findTo_41 (lv_at hl 5 rfl) ?_
      obtain ⟨r5, e5, hs⟩ := Option.bind_eq_some_iff.mp hs
      refine ms_22 hx hb hK hP hD hS e5 dX7_findTo_43 (fun H locs hP hS => ?_)
      refine lv_aload_n hx hb dX7_findTo_44 rfl (lv_at hl 1 rfl) ?_
      refine mg_23 hx hb hB hown hK hP dX7_findTo_45 ?_
      refine lv_iload hx hb dX7_findTo_48 (lv_at hl 0 rfl) ?_
      refine lv_iload hx hb dX7_findTo_50 (lv_at hl 6 rfl) ?_
      obtain ⟨r6, e6, hs⟩ := Option.bind_eq_some_iff.mp hs
      refine ms_23 hx hb hK hP hD hS e6 dX7_findTo_52 (fun H locs hP hS => ?_)
      refine lv_aload_n hx hb dX7_findTo_53 rfl (lv_at hl 1 rfl) ?_
      refine mg_24 hx hb hB hown hK hP dX7_findTo_54 ?_
      refine lv_iload hx hb dX7_findTo_57 (lv_at hl 0 rfl) ?_
      refine lv_iload hx hb dX7_findTo_59 (lv_at hl 7 rfl) ?_
      obtain ⟨r7, e7, hs⟩ := Option.bind_eq_some_iff.mp hs
      refine ms_24 hx hb hK hP hD hS e7 dX7_findTo_61 (fun H locs hP hS => ?_)
      refine lv_aload_n hx hb dX7_findTo_62 rfl (lv_at hl 1 rfl) ?_
      refine mg_25 hx hb hB hown hK hP dX7_findTo_63 ?_
      refine lv_iload hx hb dX7_findTo_66 (lv_at hl 0 rfl) ?_
      refine lv_iload hx hb dX7_findTo_68 (lv_at hl 8 rfl) ?_
      obtain ⟨r8, e8, hs⟩ := Option.bind_eq_some_iff.mp hs
      refine ms_25 hx hb hK hP hD hS e8 dX7_findTo_70 (fun H locs hP hS => ?_)
      cases hs
      exact ret_rwv hx hb hr hlk hP hS dX7_findTo_71
noncomputable def b_X7_leastTo_2 (st : MS) (c2_1 : Int32) (v2_2 : Int32) : Option (Int32 ⊕ Int32) :=
  (if (st 13 0) ≤ v2_2 then some (Sum.inr ((-1 : Int32))) else (Option.bind (f_X7_fact st v2_2 (0 : Int32)) (fun r2 => (if r2 = (1 : Int32) then (Option.bind (f_X7_fact st v2_2 (2 : Int32)) (fun r4 => (if r4 = c2_1 then some (Sum.inr (v2_2)) else some (Sum.inl (v2_2 + 1))))) else some (Sum.inl (v2_2 + 1))))))
noncomputable def f_X7_leastTo (st : MS) (p1 : Int32) : Option Int32 :=
  (loopC (fun v => b_X7_leastTo_2 st p1 v) (0 : Int32))
set_option maxHeartbeats 4000000 in
set_option maxRecDepth 100000 in
theorem m_X7_leastTo (l : Launch) (g : GG) (b : Nat → Nat) (st : MS) (p1 : Int32) (res : Int32) (hs : f_X7_leastTo st p1 = some res) : Met l yX7_leastTo (Cond.code yX7_leastTo cX7_leastTo 3 (some .int) :: BIG) ({ frames := 1, cells := 0, slots := 0, locals := 22 } : Room) (va_Pc [.ref (b 0), .int p1] (ROp g (mW g b st))) (ROi res) 0 0 (fun _ => False) := by
  refine ro_start (cc := cX7_leastTo) (maxL := 3) (ret := (some .int)) (lv := [(0, .ref (b 0)), (1, .int p1)]) (by decide) rfl (Nat.le_of_ble_eq_true rfl) rfl ?_
  intro p e s m args below meth c hx hb hml hr hts hown hlk hK H locs hP hS ls hl
  have hB : ∀ w ∈ BIG, w.before args s = true := fun w h => hts w (List.mem_cons_of_mem _ h)
  have hC : CallFix p m c cX7_leastTo 3 s args BIG RX7 := ⟨hx, hb, hml, hown, hB⟩
  unfold f_X7_leastTo at hs
  refine lv_iconst (v := 0) hx hb dX7_leastTo_0 (by decide) ?_
  refine lv_istore_n (lv' := [(2, .int (0 : Int32)), (0, .ref (b 0)), (1, .int p1)]) hx hb dX7_leastTo_1 rfl hl (by decide) rfl (fun ls hl => ?_)
  obtain ⟨n2, hs⟩ := loopC_iter hs
  have L2 : ∀ (n : Nat) (v2_2 : Int32), iterO (fun v => b_X7_leastTo_2 st p1 v) n v2_2 = some res → ∀ (H : Heap) (locs : List Loc), va_P g.1 vwCl (mW g b st) H → va_S (fun _ => False) s.heap H locs → ∀ ls : Array Slot, lv_has ls 3 [(0, .ref (b 0)), (1, .int p1), (2, .int v2_2)] → W p l e ({ frames := 1, cells := 0, slots := 0, locals := 22 } : Room) s m args below meth c H locs 0 0 (MQ below (ROi res) args s 0 0 (fun _ => False)) (F0 m 2 ls []) := by
    intro n
    induction n with
    | zero => intro v2_2 hs; exact (iterO_zero hs).elim
    | succ n ih2 =>
      intro v2_2 hs H locs hP hS ls hl
      obtain ⟨y2, hs, hk2⟩ := iterO_succ hs
      have hs : b_X7_leastTo_2 st p1 v2_2 = some y2 := hs
      unfold b_X7_leastTo_2 at hs
      refine lv_iload_n hx hb dX7_leastTo_2 rfl (lv_at hl 2 rfl) ?_
      refine lv_aload_n hx hb dX7_leastTo_3 rfl (lv_at hl 0 rfl) ?_
      refine mg_13 hx hb hB hown hK hP dX7_leastTo_4 ?_
      refine lv_icmp_ge (tgt := 38) hx hb dX7_leastTo_7 (by decide) (fun c1 => ?_) (fun c1 => ?_)
      · have hs := ifp c1 hs
        refine lv_iconst (v := -1) hx hb dX7_leastTo_38 (by decide) ?_
        cases hs
        cases elim_inr hk2
        exact ret_roi hx hb hr hlk hS dX7_leastTo_39
      · have hs := ifn c1 hs
        refine lv_aload_n hx hb dX7_leastTo_10 rfl (lv_at hl 0 rfl) ?_
        refine lv_iload_n hx hb dX7_leastTo_11 rfl (lv_at hl 2 rfl) ?_
        refine lv_iconst (v := 0) hx hb dX7_leastTo_12 (by decide) ?_
        obtain ⟨r2, e2, hs⟩ := Option.bind_eq_some_iff.mp hs
        refine cV_roi (As := [.int v2_2, .int (0 : Int32)]) (rest := []) hC (m_X7_fact l g b st v2_2 (0 : Int32) r2 e2) (kv_of hB bw_21_23 bw_21_21 bw_21_22 bw_1_5 kd_X7_fact bw_21_20 rfl rfl ⟨Nat.le_of_ble_eq_true rfl, Nat.le_of_ble_eq_true rfl⟩) hK hP hP hS (mW_0 g b st) rfl rfl hl.1 rfl (Nat.le_of_ble_eq_true rfl) dX7_leastTo_13 ⟨Nat.zero_le _, Nat.zero_le _⟩ (fun H locs hP hS => ?_)
        refine lv_iconst (v := 1) hx hb dX7_leastTo_16 (by decide) ?_
        refine lv_icmp_ne (tgt := 32) hx hb dX7_leastTo_17 (by decide) (fun c3 => ?_) (fun c3 => ?_)
        · have hs := ifn c3 hs
          refine lv_iinc (v := (v2_2 + 1)) (lv' := [(2, .int (v2_2 + 1)), (0, .ref (b 0)), (1, .int p1)]) hx hb dX7_leastTo_32 hl (k := 2) rfl (by rfl) (by decide) rfl (fun ls hl => ?_)
          refine lv_goto (tgt := 2) hx hb dX7_leastTo_35 (by decide) ?_
          cases hs
          exact ih2 (v2_2 + 1) hk2 _ _ hP hS _ (lv_sub hl [1, 2, 0] rfl)
        · have hs := ifp c3 hs
          refine lv_aload_n hx hb dX7_leastTo_20 rfl (lv_at hl 0 rfl) ?_
          refine lv_iload_n hx hb dX7_leastTo_21 rfl (lv_at hl 2 rfl) ?_
          refine lv_iconst (v := 2) hx hb dX7_leastTo_22 (by decide) ?_
          obtain ⟨r4, e4, hs⟩ := Option.bind_eq_some_iff.mp hs
          refine cV_roi (As := [.int v2_2, .int (2 : Int32)]) (rest := []) hC (m_X7_fact l g b st v2_2 (2 : Int32) r4 e4) (kv_of hB bw_21_23 bw_21_21 bw_21_22 bw_1_5 kd_X7_fact bw_21_20 rfl rfl ⟨Nat.le_of_ble_eq_true rfl, Nat.le_of_ble_eq_true rfl⟩) hK hP hP hS (mW_0 g b st) rfl rfl hl.1 rfl (Nat.le_of_ble_eq_true rfl) dX7_leastTo_23 ⟨Nat.zero_le _, Nat.zero_le _⟩ (fun H locs hP hS => ?_)
          refine lv_iload_n hx hb dX7_leastTo_26 rfl (lv_at hl 1 rfl) ?_
          refine lv_icmp_ne (tgt := 32) hx hb dX7_leastTo_27 (by decide) (fun c5 => ?_) (fun c5 => ?_)
          · have hs := ifn c5 hs
            refine lv_iinc (v := (v2_2 + 1)) (lv' := [(2, .int (v2_2 + 1)), (0, .ref (b 0)), (1, .int p1)]) hx hb dX7_leastTo_32 hl (k := 2) rfl (by rfl) (by decide) rfl (fun ls hl => ?_)
            refine lv_goto (tgt := 2) hx hb dX7_leastTo_35 (by decide) ?_
            cases hs
            exact ih2 (v2_2 + 1) hk2 _ _ hP hS _ (lv_sub hl [1, 2, 0] rfl)
          · have hs := ifp c5 hs
            refine lv_iload_n hx hb dX7_leastTo_30 rfl (lv_at hl 2 rfl) ?_
            cases hs
            cases elim_inr hk2
            exact ret_roi hx hb hr hlk hS dX7_leastTo_31
  exact L2 n2 (0 : Int32) hs _ _ hP hS _ (lv_sub hl [1, 2, 0] rfl)
noncomputable def f_X7_isSeed (st : MS) (p1 : Int32) : Option Int32 :=
  (Option.bind (rd 28 (st 2) p1) (fun r1 => (if r1 = 0 then some ((1 : Int32)) else (Option.bind (rd 28 (st 2) p1) (fun r3 => (if r3 = (2 : Int32) then some ((1 : Int32)) else some ((0 : Int32))))))))
set_option maxHeartbeats 4000000 in
set_option maxRecDepth 100000 in
theorem m_X7_isSeed (l : Launch) (g : GG) (b : Nat → Nat) (st : MS) (p1 : Int32) (res : Int32) (hs : f_X7_isSeed st p1 = some res) : Met l yX7_isSeed (Cond.code yX7_isSeed cX7_isSeed 2 (some .boolean) :: BIG) ({ frames := 0, cells := 0, slots := 0, locals := 0 } : Room) (va_Pc [.ref (b 0), .int p1] (ROp g (mW g b st))) (ROi res) 0 0 (fun _ => False) := by
  refine ro_start (cc := cX7_isSeed) (maxL := 2) (ret := (some .boolean)) (lv := [(0, .ref (b 0)), (1, .int p1)]) (by decide) rfl (Nat.le_of_ble_eq_true rfl) rfl ?_
  intro p e s m args below meth c hx hb hml hr hts hown hlk hK H locs hP hS ls hl
  have hB : ∀ w ∈ BIG, w.before args s = true := fun w h => hts w (List.mem_cons_of_mem _ h)
  have hC : CallFix p m c cX7_isSeed 2 s args BIG RX7 := ⟨hx, hb, hml, hown, hB⟩
  unfold f_X7_isSeed at hs
  refine lv_aload_n hx hb dX7_isSeed_0 rfl (lv_at hl 0 rfl) ?_
  refine mg_2 hx hb hB hown hK hP dX7_isSeed_1 ?_
  refine lv_iload_n hx hb dX7_isSeed_4 rfl (lv_at hl 1 rfl) ?_
  obtain ⟨r1, e1, hs⟩ := Option.bind_eq_some_iff.mp hs
  refine ml_2 hx hb hK hP e1 dX7_isSeed_5 ?_
  refine lv_if_eq (tgt := 19) hx hb dX7_isSeed_6 (by decide) (fun c2 => ?_) (fun c2 => ?_)
  · have hs := ifp c2 hs
    refine lv_iconst (v := 1) hx hb dX7_isSeed_19 (by decide) ?_
    refine lv_goto (tgt := 24) hx hb dX7_isSeed_20 (by decide) ?_
    cases hs
    exact ret_roz hx hb hr (zn_of (Or.inr rfl)) hlk hS dX7_isSeed_24
  · have hs := ifn c2 hs
    refine lv_aload_n hx hb dX7_isSeed_9 rfl (lv_at hl 0 rfl) ?_
    refine mg_2 hx hb hB hown hK hP dX7_isSeed_10 ?_
    refine lv_iload_n hx hb dX7_isSeed_13 rfl (lv_at hl 1 rfl) ?_
    obtain ⟨r3, e3, hs⟩ := Option.bind_eq_some_iff.mp hs
    refine ml_2 hx hb hK hP e3 dX7_isSeed_14 ?_
    refine lv_iconst (v := 2) hx hb dX7_isSeed_15 (by decide) ?_
    refine lv_icmp_ne (tgt := 23) hx hb dX7_isSeed_16 (by decide) (fun c4 => ?_) (fun c4 => ?_)
    · have hs := ifn c4 hs
      refine lv_iconst (v := 0) hx hb dX7_isSeed_23 (by decide) ?_
      cases hs
      exact ret_roz hx hb hr (zn_of (Or.inl rfl)) hlk hS dX7_isSeed_24
    · have hs := ifp c4 hs
      refine lv_iconst (v := 1) hx hb dX7_isSeed_19 (by decide) ?_
      refine lv_goto (tgt := 24) hx hb dX7_isSeed_20 (by decide) ?_
      cases hs
      exact ret_roz hx hb hr (zn_of (Or.inr rfl)) hlk hS dX7_isSeed_24
noncomputable def f_X7_isBegun (st : MS) (p1 : Int32) : Option Int32 :=
  (Option.bind (f_X7_isSeed st p1) (fun r1 => (if r1 = 0 then (Option.bind (f_X7_leastTo st p1) (fun r3 => (if r3 = (-1 : Int32) then some ((0 : Int32)) else some ((1 : Int32))))) else some ((1 : Int32)))))
set_option maxHeartbeats 4000000 in
set_option maxRecDepth 100000 in
theorem m_X7_isBegun (l : Launch) (g : GG) (b : Nat → Nat) (st : MS) (p1 : Int32) (res : Int32) (hs : f_X7_isBegun st p1 = some res) : Met l yX7_isBegun (Cond.code yX7_isBegun cX7_isBegun 2 (some .boolean) :: BIG) ({ frames := 2, cells := 0, slots := 0, locals := 44 } : Room) (va_Pc [.ref (b 0), .int p1] (ROp g (mW g b st))) (ROi res) 0 0 (fun _ => False) := by
  refine ro_start (cc := cX7_isBegun) (maxL := 2) (ret := (some .boolean)) (lv := [(0, .ref (b 0)), (1, .int p1)]) (by decide) rfl (Nat.le_of_ble_eq_true rfl) rfl ?_
  intro p e s m args below meth c hx hb hml hr hts hown hlk hK H locs hP hS ls hl
  have hB : ∀ w ∈ BIG, w.before args s = true := fun w h => hts w (List.mem_cons_of_mem _ h)
  have hC : CallFix p m c cX7_isBegun 2 s args BIG RX7 := ⟨hx, hb, hml, hown, hB⟩
  unfold f_X7_isBegun at hs
  refine lv_aload_n hx hb dX7_isBegun_0 rfl (lv_at hl 0 rfl) ?_
  refine lv_iload_n hx hb dX7_isBegun_1 rfl (lv_at hl 1 rfl) ?_
  obtain ⟨r1, e1, hs⟩ := Option.bind_eq_some_iff.mp hs
  refine cV_roi (As := [.int p1]) (rest := []) hC (m_X7_isSeed l g b st p1 r1 e1) (kv_of hB bw_21_15 bw_21_13 bw_21_14 bw_1_5 kd_X7_isSeed bw_21_12 rfl rfl ⟨Nat.le_of_ble_eq_true rfl, Nat.le_of_ble_eq_true rfl⟩) hK hP hP hS (mW_0 g b st) rfl rfl hl.1 rfl (Nat.le_of_ble_eq_true rfl) dX7_isBegun_2 ⟨Nat.zero_le _, Nat.zero_le _⟩ (fun H locs hP hS => ?_)
  refine lv_if_ne (tgt := 17) hx hb dX7_isBegun_5 (by decide) (fun c2 => ?_) (fun c2 => ?_)
  · have hs := ifn c2 hs
    refine lv_iconst (v := 1) hx hb dX7_isBegun_17 (by decide) ?_
    refine lv_goto (tgt := 22) hx hb dX7_isBegun_18 (by decide) ?_
    cases hs
    exact ret_roz hx hb hr (zn_of (Or.inr rfl)) hlk hS dX7_isBegun_22
  · have hs := ifp c2 hs
    refine lv_aload_n hx hb dX7_isBegun_8 rfl (lv_at hl 0 rfl) ?_
    refine lv_iload_n hx hb dX7_isBegun_9 rfl (lv_at hl 1 rfl) ?_
    obtain ⟨r3, e3, hs⟩ := Option.bind_eq_some_iff.mp hs
    refine cV_roi (As := [.int p1]) (rest := []) hC (m_X7_leastTo l g b st p1 r3 e3) (kv_of hB bw_21_19 bw_21_17 bw_21_18 bw_1_5 kd_X7_leastTo bw_21_16 rfl rfl ⟨Nat.le_of_ble_eq_true rfl, Nat.le_of_ble_eq_true rfl⟩) hK hP hP hS (mW_0 g b st) rfl rfl hl.1 rfl (Nat.le_of_ble_eq_true rfl) dX7_isBegun_10 ⟨Nat.zero_le _, Nat.zero_le _⟩ (fun H locs hP hS => ?_)
    refine lv_iconst (v := -1) hx hb dX7_isBegun_13 (by decide) ?_
    refine lv_icmp_eq (tgt := 21) hx hb dX7_isBegun_14 (by decide) (fun c4 => ?_) (fun c4 => ?_)
    · have hs := ifp c4 hs
      refine lv_iconst (v := 0) hx hb dX7_isBegun_21 (by decide) ?_
      cases hs
      exact ret_roz hx hb hr (zn_of (Or.inl rfl)) hlk hS dX7_isBegun_22
    · have hs := ifn c4 hs
      refine lv_iconst (v := 1) hx hb dX7_isBegun_17 (by decide) ?_
      refine lv_goto (tgt := 22) hx hb dX7_isBegun_18 (by decide) ?_
      cases hs
      exact ret_roz hx hb hr (zn_of (Or.inr rfl)) hlk hS dX7_isBegun_22
