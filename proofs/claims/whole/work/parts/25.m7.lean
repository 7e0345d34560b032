noncomputable def b_X7_conclude_82 (v82_1 : Int32) (z82 : MS) : Option ((Int32 × MS) ⊕ (Int32 × MS)) :=
  (if v82_1 = 0 then (Option.bind (some (mA z82 11 (fun _ => (1 : Int32)))) (fun r9 => (Option.bind (f_X7_makeHouse r9) (fun r10 => some (Sum.inr (((r10 13 0), r10))))))) else (Option.bind (f_X7_round z82) (fun r11 => some (Sum.inl (r11.1, r11.2)))))
noncomputable def b_X7_conclude_60 (v60_1 : Int32) (z60 : MS) : Option ((Int32 × MS) ⊕ (Int32 × MS)) :=
  (if (3136 : Int32) ≤ v60_1 then (Option.map (fun z => Sum.inr (z)) (loopC (fun v => b_X7_conclude_82 v.1 v.2) ((1 : Int32), z60))) else (Option.bind (mwr z60 17 3136 v60_1 (-1 : Int32)) (fun r12 => some (Sum.inl ((v60_1 + 1), r12)))))
noncomputable def b_X7_conclude_38 (v38_1 : Int32) (z38 : MS) : Option ((Int32 × MS) ⊕ (Int32 × MS)) :=
  (if (784 : Int32) ≤ v38_1 then (Option.map (fun z => Sum.inr (z)) (loopC (fun v => b_X7_conclude_60 v.1 v.2) ((0 : Int32), z38))) else (Option.bind (mwr z38 16 784 v38_1 (-1 : Int32)) (fun r13 => some (Sum.inl ((v38_1 + 1), r13)))))
noncomputable def f_X7_conclude (st : MS) : Option (Int32 × MS) :=
  (if (st 12 0) = (20 : Int32) then some (((-103 : Int32), st)) else (Option.bind (some (mA st 12 (fun _ => ((st 12 0) + (1 : Int32))))) (fun r2 => (Option.bind (f_X7_closeRoles r2) (fun r3 => (Option.bind (some (mA r3 13 (fun _ => (0 : Int32)))) (fun r4 => (Option.bind (some (mA r4 14 (fun _ => (0 : Int32)))) (fun r5 => (loopC (fun v => b_X7_conclude_38 v.1 v.2) ((0 : Int32), r5)))))))))))
set_option maxHeartbeats 4000000 in
set_option maxRecDepth 100000 in
theorem m_X7_conclude (l : Launch) (g : GG) (b : Nat → Nat) (st : MS) (sz : Nat)  (res : (Int32 × MS)) (hs : f_X7_conclude st = some res) : Met l yX7_conclude (Cond.code yX7_conclude cX7_conclude 2 (some .int) :: BIG) ({ frames := 4, cells := 0, slots := 0, locals := 90 } : Room) (va_Pc [.ref (b 0)] (RWp g (mW g b st) sz)) (RWi res.1 g (mW g b res.2) (va_A (mW g b st) sz)) 0 0 (va_A (mW g b st) sz) := by
  refine rw_start (cc := cX7_conclude) (maxL := 2) (ret := (some .int)) (lv := [(0, .ref (b 0))]) (Qc := fun A => (RWi res.1 g (mW g b res.2) A)) (by decide) rfl (Nat.le_of_ble_eq_true rfl) rfl ?_
  intro p e s m args below meth c hx hb hml hr hts hown hlk hK A hD0 hA H locs hP hS ls hl
  have hD : ∀ st' : MS, va_D A (mW g b st') := fun _ => mW_D hD0
  have hB : ∀ w ∈ BIG, w.before args s = true := fun w h => hts w (List.mem_cons_of_mem _ h)
  have hC : CallFix p m c cX7_conclude 2 s args BIG RX7 := ⟨hx, hb, hml, hown, hB⟩
  unfold f_X7_conclude at hs
  refine lv_aload_n hx hb dX7_conclude_0 rfl (lv_at hl 0 rfl) ?_
  refine mg_12 hx hb hB hown hK hP dX7_conclude_1 ?_
  refine lv_bipush (v := 20) hx hb dX7_conclude_4 (by decide) ?_
  refine lv_icmp_ne (tgt := 12) hx hb dX7_conclude_6 (by decide) (fun c1 => ?_) (fun c1 => ?_)
  · have hs := ifn c1 hs
    refine lv_aload_n hx hb dX7_conclude_12 rfl (lv_at hl 0 rfl) ?_
    refine lv_dup hx hb dX7_conclude_13 rfl ?_
    refine mg_12 hx hb hB hown hK hP dX7_conclude_14 ?_
    refine lv_iconst (v := 1) hx hb dX7_conclude_17 (by decide) ?_
    refine lv_iadd hx hb dX7_conclude_18 ?_
    obtain ⟨r2, e2, hs⟩ := Option.bind_eq_some_iff.mp hs
    have e2 := Option.some.inj e2
    refine mp_12 hx hb hB hown hK hP hD hS e2 dX7_conclude_19 (fun H locs hP hS => ?_)
    refine lv_aload_n hx hb dX7_conclude_22 rfl (lv_at hl 0 rfl) ?_
    obtain ⟨r3, e3, hs⟩ := Option.bind_eq_some_iff.mp hs
    refine cV_rwv (As := []) (rest := []) hC (m_X7_closeRoles l g b r2 H.size r3 e3) (kv_of hB bw_21_2 bw_21_0 bw_21_1 bw_1_5 kd_X7_closeRoles bw_20_23 rfl rfl ⟨Nat.le_of_ble_eq_true rfl, Nat.le_of_ble_eq_true rfl⟩) hK hP (hD _) hA hS (mW_0 g b r2) rfl rfl hl.1 rfl (Nat.le_of_ble_eq_true rfl) dX7_conclude_23 ⟨Nat.zero_le _, Nat.zero_le _⟩ (fun H locs hP hS => ?_)
    refine lv_aload_n hx hb dX7_conclude_26 rfl (lv_at hl 0 rfl) ?_
    refine lv_iconst (v := 0) hx hb dX7_conclude_27 (by decide) ?_
    obtain ⟨r4, e4, hs⟩ := Option.bind_eq_some_iff.mp hs
    have e4 := Option.some.inj e4
    refine mp_13 hx hb hB hown hK hP hD hS e4 dX7_conclude_28 (fun H locs hP hS => ?_)
    refine lv_aload_n hx hb dX7_conclude_31 rfl (lv_at hl 0 rfl) ?_
    refine lv_iconst (v := 0) hx hb dX7_conclude_32 (by decide) ?_
    obtain ⟨r5, e5, hs⟩ := Option.bind_eq_some_iff.mp hs
    have e5 := Option.some.inj e5
    refine mp_14 hx hb hB hown hK hP hD hS e5 dX7_conclude_33 (fun H locs hP hS => ?_)
    refine lv_iconst (v := 0) hx hb dX7_conclude_36 (by decide) ?_
    refine lv_istore_n (lv' := [(1, .int (0 : Int32)), (0, .ref (b 0))]) hx hb dX7_conclude_37 rfl hl (by decide) rfl (fun ls hl => ?_)
    obtain ⟨n38, hs⟩ := loopC_iter hs
    have L38 : ∀ (n : Nat) (v38_1 : Int32) (z38 : MS), iterO (fun v => b_X7_conclude_38 v.1 v.2) n (v38_1, z38) = some res → ∀ (H : Heap) (locs : List Loc), va_P g.1 vwCl (mW g b z38) H → va_S A s.heap H locs → ∀ ls : Array Slot, lv_has ls 2 [(0, .ref (b 0)), (1, .int v38_1)] → W p l e ({ frames := 4, cells := 0, slots := 0, locals := 90 } : Room) s m args below meth c H locs 0 0 (MQ below (RWi res.1 g (mW g b res.2) A) args s 0 0 A) (F0 m 38 ls []) := by
      intro n
      induction n with
      | zero => intro v38_1 z38 hs; exact (iterO_zero hs).elim
      | succ n ih38 =>
        intro v38_1 z38 hs H locs hP hS ls hl
        obtain ⟨y38, hs, hk38⟩ := iterO_succ hs
        have hs : b_X7_conclude_38 v38_1 z38 = some y38 := hs
        unfold b_X7_conclude_38 at hs
        refine lv_iload_n hx hb dX7_conclude_38 rfl (lv_at hl 1 rfl) ?_
        refine lv_sipush (v := 784) hx hb dX7_conclude_39 (by decide) ?_
        refine lv_icmp_ge (tgt := 58) hx hb dX7_conclude_42 (by decide) (fun c6 => ?_) (fun c6 => ?_)
        · have hs := ifp c6 hs
          refine lv_iconst (v := 0) hx hb dX7_conclude_58 (by decide) ?_
          refine lv_istore_n (lv' := [(1, .int (0 : Int32)), (0, .ref (b 0))]) hx hb dX7_conclude_59 rfl hl (by decide) rfl (fun ls hl => ?_)
          obtain ⟨w60, hm60, hw60⟩ := Option.map_eq_some_iff.mp hs
          clear hs
          cases hw60
          cases elim_inr hk38
          have hs := hm60
          obtain ⟨n60, hs⟩ := loopC_iter hs
          have L60 : ∀ (n : Nat) (v60_1 : Int32) (z60 : MS), iterO (fun v => b_X7_conclude_60 v.1 v.2) n (v60_1, z60) = some res → ∀ (H : Heap) (locs : List Loc), va_P g.1 vwCl (mW g b z60) H → va_S A s.heap H locs → ∀ ls : Array Slot, lv_has ls 2 [(0, .ref (b 0)), (1, .int v60_1)] → W p l e ({ frames := 4, cells := 0, slots := 0, locals := 90 } : Room) s m args below meth c H locs 0 0 (MQ below (RWi res.1 g (mW g b res.2) A) args s 0 0 A) (F0 m 60 ls []) := by
            intro n
            induction n with
            | zero => intro v60_1 z60 hs; exact (iterO_zero hs).elim
            | succ n ih60 =>
              intro v60_1 z60 hs H locs hP hS ls hl
              obtain ⟨y60, hs, hk60⟩ := iterO_succ hs
              have hs : b_X7_conclude_60 v60_1 z60 = some y60 := hs
              unfold b_X7_conclude_60 at hs
              refine lv_iload_n hx hb dX7_conclude_60 rfl (lv_at hl 1 rfl) ?_
              refine lv_sipush (v := 3136) hx hb dX7_conclude_61 (by decide) ?_
              refine lv_icmp_ge (tgt := 80) hx hb dX7_conclude_64 (by decide) (fun c7 => ?_) (fun c7 => ?_)
              · have hs := ifp c7 hs
                refine lv_iconst (v := 1) hx hb dX7_conclude_80 (by decide) ?_
                refine lv_istore_n (lv' := [(1, .int (1 : Int32)), (0, .ref (b 0))]) hx hb dX7_conclude_81 rfl hl (by decide) rfl (fun ls hl => ?_)
                obtain ⟨w82, hm82, hw82⟩ := Option.map_eq_some_iff.mp hs
                clear hs
                cases hw82
                cases elim_inr hk60
                have hs := hm82
                obtain ⟨n82, hs⟩ := loopC_iter hs
                have L82 : ∀ (n : Nat) (v82_1 : Int32) (z82 : MS), iterO (fun v => b_X7_conclude_82 v.1 v.2) n (v82_1, z82) = some res → ∀ (H : Heap) (locs : List Loc), va_P g.1 vwCl (mW g b z82) H → va_S A s.heap H locs → ∀ ls : Array Slot, lv_has ls 2 [(0, .ref (b 0)), (1, .int v82_1)] → W p l e ({ frames := 4, cells := 0, slots := 0, locals := 90 } : Room) s m args below meth c H locs 0 0 (MQ below (RWi res.1 g (mW g b res.2) A) args s 0 0 A) (F0 m 82 ls []) := by
                  intro n
                  induction n with
                  | zero => intro v82_1 z82 hs; exact (iterO_zero hs).elim
                  | succ n ih82 =>
                    intro v82_1 z82 hs H locs hP hS ls hl
                    obtain ⟨y82, hs, hk82⟩ := iterO_succ hs
                    have hs : b_X7_conclude_82 v82_1 z82 = some y82 := hs
                    unfold b_X7_conclude_82 at hs
                    refine lv_iload_n hx hb dX7_conclude_82 rfl (lv_at hl 1 rfl) ?_
                    refine lv_if_eq (tgt := 94) hx hb dX7_conclude_83 (by decide) (fun c8 => ?_) (fun c8 => ?_)
                    · have hs := ifp c8 hs
                      refine lv_aload_n hx hb dX7_conclude_94 rfl (lv_at hl 0 rfl) ?_
                      refine lv_iconst (v := 1) hx hb dX7_conclude_95 (by decide) ?_
                      obtain ⟨r9, e9, hs⟩ := Option.bind_eq_some_iff.mp hs
                      have e9 := Option.some.inj e9
                      refine mp_11 hx hb hB hown hK hP hD hS (Or.inr rfl) e9 dX7_conclude_96 (fun H locs hP hS => ?_)
                      refine lv_aload_n hx hb dX7_conclude_99 rfl (lv_at hl 0 rfl) ?_
                      obtain ⟨r10, e10, hs⟩ := Option.bind_eq_some_iff.mp hs
                      refine cV_rwv (As := []) (rest := []) hC (m_X7_makeHouse l g b r9 H.size r10 e10) (kv_of hB bw_23_7 bw_23_5 bw_23_6 bw_1_5 kd_X7_makeHouse bw_23_4 rfl rfl ⟨Nat.le_of_ble_eq_true rfl, Nat.le_of_ble_eq_true rfl⟩) hK hP (hD _) hA hS (mW_0 g b r9) rfl rfl hl.1 rfl (Nat.le_of_ble_eq_true rfl) dX7_conclude_100 ⟨Nat.zero_le _, Nat.zero_le _⟩ (fun H locs hP hS => ?_)
                      refine lv_aload_n hx hb dX7_conclude_103 rfl (lv_at hl 0 rfl) ?_
                      refine mg_13 hx hb hB hown hK hP dX7_conclude_104 ?_
                      cases hs
                      cases elim_inr hk82
                      exact ret_rwi hx hb hr hlk hP hS dX7_conclude_107
                    · have hs := ifn c8 hs
                      refine lv_aload_n hx hb dX7_conclude_86 rfl (lv_at hl 0 rfl) ?_
                      obtain ⟨r11, e11, hs⟩ := Option.bind_eq_some_iff.mp hs
                      refine cV_rwi (As := []) (rest := []) hC (m_X7_round l g b z82 H.size r11 e11) (kv_of hB bw_21_6 bw_21_4 bw_21_5 bw_1_5 kd_X7_round bw_21_3 rfl rfl ⟨Nat.le_of_ble_eq_true rfl, Nat.le_of_ble_eq_true rfl⟩) hK hP (hD _) hA hS (mW_0 g b z82) rfl rfl hl.1 rfl (Nat.le_of_ble_eq_true rfl) dX7_conclude_87 ⟨Nat.zero_le _, Nat.zero_le _⟩ (fun H locs hP hS => ?_)
                      refine lv_istore_n (lv' := [(1, .int r11.1), (0, .ref (b 0))]) hx hb dX7_conclude_90 rfl hl (by decide) rfl (fun ls hl => ?_)
                      refine lv_goto (tgt := 82) hx hb dX7_conclude_91 (by decide) ?_
                      cases hs
                      exact ih82 r11.1 r11.2 hk82 _ _ hP hS _ (lv_sub hl [1, 0] rfl)
                exact L82 n82 (1 : Int32) z60 hs _ _ hP hS _ (lv_sub hl [1, 0] rfl)
              · have hs := ifn c7 hs
                refine lv_aload_n hx hb dX7_conclude_67 rfl (lv_at hl 0 rfl) ?_
                refine mg_17 hx hb hB hown hK hP dX7_conclude_68 ?_
                refine lv_iload_n hx hb dX7_conclude_71 rfl (lv_at hl 1 rfl) ?_
                refine lv_iconst (v := -1) hx hb dX7_conclude_72 (by decide) ?_
                obtain ⟨r12, e12, hs⟩ := Option.bind_eq_some_iff.mp hs
                refine ms_17 hx hb hK hP hD hS e12 dX7_conclude_73 (fun H locs hP hS => ?_)
                refine lv_iinc (v := (v60_1 + 1)) (lv' := [(1, .int (v60_1 + 1)), (0, .ref (b 0))]) hx hb dX7_conclude_74 hl (k := 1) rfl (by rfl) (by decide) rfl (fun ls hl => ?_)
                refine lv_goto (tgt := 60) hx hb dX7_conclude_77 (by decide) ?_
                cases hs
                exact ih60 (v60_1 + 1) r12 hk60 _ _ hP hS _ (lv_sub hl [1, 0] rfl)
          exact L60 n60 (0 : Int32) z38 hs _ _ hP hS _ (lv_sub hl [1, 0] rfl)
        · have hs := ifn c6 hs
          refine lv_aload_n hx hb dX7_conclude_45 rfl (lv_at hl 0 rfl) ?_
          refine mg_16 hx hb hB hown hK hP dX7_conclude_46 ?_
          refine lv_iload_n hx hb dX7_conclude_49 rfl (lv_at hl 1 rfl) ?_
          refine lv_iconst (v := -1) hx hb dX7_conclude_50 (by decide) ?_
          obtain ⟨r13, e13, hs⟩ := Option.bind_eq_some_iff.mp hs
          refine ms_16 hx hb hK hP hD hS e13 dX7_conclude_51 (fun H locs hP hS => ?_)
          refine lv_iinc (v := (v38_1 + 1)) (lv' := [(1, .int (v38_1 + 1)), (0, .ref (b 0))]) hx hb dX7_conclude_52 hl (k := 1) rfl (by rfl) (by decide) rfl (fun ls hl => ?_)
          refine lv_goto (tgt := 38) hx hb dX7_conclude_55 (by decide) ?_
          cases hs
          exact ih38 (v38_1 + 1) r13 hk38 _ _ hP hS _ (lv_sub hl [1, 0] rfl)
    exact L38 n38 (0 : Int32) r5 hs _ _ hP hS _ (lv_sub hl [1, 0] rfl)
  · have hs := ifp c1 hs
    refine lv_bipush (v := -103) hx hb dX7_conclude_9 (by decide) ?_
    cases hs
    exact ret_rwi hx hb hr hlk hP hS dX7_conclude_11
def t_X7_rounds (st : MS) : Int32 :=
  (if (st 11 0) = 0 then (-103 : Int32) else (st 14 0))
set_option maxHeartbeats 4000000 in
set_option maxRecDepth 100000 in
theorem m_X7_rounds (l : Launch) (g : GG) (b : Nat → Nat) (st : MS)  : Met l yX7_rounds (Cond.code yX7_rounds cX7_rounds 1 (some .int) :: BIG) ({ frames := 0, cells := 0, slots := 0, locals := 0 } : Room) (va_Pc [.ref (b 0)] (ROp g (mW g b st))) (ROi (t_X7_rounds st)) 0 0 (fun _ => False) := by
  obtain ⟨res, hs⟩ : ∃ z, t_X7_rounds st = z := ⟨_, rfl⟩
  rw [hs]
  refine ro_start (cc := cX7_rounds) (maxL := 1) (ret := (some .int)) (lv := [(0, .ref (b 0))]) (by decide) rfl (Nat.le_of_ble_eq_true rfl) rfl ?_
  intro p e s m args below meth c hx hb hml hr hts hown hlk hK H locs hP hS ls hl
  have hB : ∀ w ∈ BIG, w.before args s = true := fun w h => hts w (List.mem_cons_of_mem _ h)
  have hC : CallFix p m c cX7_rounds 1 s args BIG RX7 := ⟨hx, hb, hml, hown, hB⟩
  unfold t_X7_rounds at hs
  refine lv_aload_n hx hb dX7_rounds_0 rfl (lv_at hl 0 rfl) ?_
  refine mg_11 hx hb hB hown hK hP dX7_rounds_1 ?_
  refine lv_if_eq (tgt := 14) hx hb dX7_rounds_4 (by decide) (fun c1 => ?_) (fun c1 => ?_)
  · have hs := ifp c1 hs
    refine lv_bipush (v := -103) hx hb dX7_rounds_14 (by decide) ?_
    subst hs
    exact ret_roi hx hb hr hlk hS dX7_rounds_16
  · have hs := ifn c1 hs
    refine lv_aload_n hx hb dX7_rounds_7 rfl (lv_at hl 0 rfl) ?_
    refine mg_14 hx hb hB hown hK hP dX7_rounds_8 ?_
    refine lv_goto (tgt := 16) hx hb dX7_rounds_11 (by decide) ?_
    subst hs
    exact ret_roi hx hb hr hlk hS dX7_rounds_16
noncomputable def f_X7_conclusion (st : MS) (p1 : Int32) (p2 : Int32) : Option Int32 :=
  (if (st 11 0) = 0 then some ((-103 : Int32)) else (if (t_X7_in p1 (0 : Int32) ((st 13 0) - (1 : Int32))) = 0 then some ((-101 : Int32)) else (if (t_X7_in p2 (0 : Int32) (8 : Int32)) = 0 then some ((-102 : Int32)) else (Option.bind (f_X7_fact st p1 p2) (fun r4 => some (r4))))))
set_option maxHeartbeats 4000000 in
set_option maxRecDepth 100000 in
theorem m_X7_conclusion (l : Launch) (g : GG) (b : Nat → Nat) (st : MS) (p1 : Int32) (p2 : Int32) (res : Int32) (hs : f_X7_conclusion st p1 p2 = some res) : Met l yX7_conclusion (Cond.code yX7_conclusion cX7_conclusion 3 (some .int) :: BIG) ({ frames := 1, cells := 0, slots := 0, locals := 22 } : Room) (va_Pc [.ref (b 0), .int p1, .int p2] (ROp g (mW g b st))) (ROi res) 0 0 (fun _ => False) := by
  refine ro_start (cc := cX7_conclusion) (maxL := 3) (ret := (some .int)) (lv := [(0, .ref (b 0)), (1, .int p1), (2, .int p2)]) (by decide) rfl (Nat.le_of_ble_eq_true rfl) rfl ?_
  intro p e s m args below meth c hx hb hml hr hts hown hlk hK H locs hP hS ls hl
  have hB : ∀ w ∈ BIG, w.before args s = true := fun w h => hts w (List.mem_cons_of_mem _ h)
  have hC : CallFix p m c cX7_conclusion 3 s args BIG RX7 := ⟨hx, hb, hml, hown, hB⟩
  unfold f_X7_conclusion at hs
  refine lv_aload_n hx hb dX7_conclusion_0 rfl (lv_at hl 0 rfl) ?_
  refine mg_11 hx hb hB hown hK hP dX7_conclusion_1 ?_
  refine lv_if_ne (tgt := 10) hx hb dX7_conclusion_4 (by decide) (fun c1 => ?_) (fun c1 => ?_)
  · have hs := ifn c1 hs
    refine lv_iload_n hx hb dX7_conclusion_10 rfl (lv_at hl 1 rfl) ?_
    refine lv_iconst (v := 0) hx hb dX7_conclusion_11 (by decide) ?_
    refine lv_aload_n hx hb dX7_conclusion_12 rfl (lv_at hl 0 rfl) ?_
    refine mg_13 hx hb hB hown hK hP dX7_conclusion_13 ?_
    refine lv_iconst (v := 1) hx hb dX7_conclusion_16 (by decide) ?_
    refine lv_isub hx hb dX7_conclusion_17 ?_
    refine cS_roi (As := [.int p1, .int (0 : Int32), .int ((st 13 0) - (1 : Int32))]) (rest := []) hC (m_X7_in l g (mW g b st) p1 (0 : Int32) ((st 13 0) - (1 : Int32))) (ks_of hB bw_8_19 bw_8_18 bw_1_5 kd_X7_in bw_8_17 rfl rfl ⟨Nat.le_of_ble_eq_true rfl, Nat.le_of_ble_eq_true rfl⟩) hK hP hP hS rfl hl.1 rfl (Nat.le_of_ble_eq_true rfl) dX7_conclusion_18 ⟨Nat.zero_le _, Nat.zero_le _⟩ (fun H locs hP hS => ?_)
    refine lv_if_ne (tgt := 27) hx hb dX7_conclusion_21 (by decide) (fun c2 => ?_) (fun c2 => ?_)
    · have hs := ifn c2 hs
      refine lv_iload_n hx hb dX7_conclusion_27 rfl (lv_at hl 2 rfl) ?_
      refine lv_iconst (v := 0) hx hb dX7_conclusion_28 (by decide) ?_
      refine lv_bipush (v := 8) hx hb dX7_conclusion_29 (by decide) ?_
      refine cS_roi (As := [.int p2, .int (0 : Int32), .int (8 : Int32)]) (rest := []) hC (m_X7_in l g (mW g b st) p2 (0 : Int32) (8 : Int32)) (ks_of hB bw_8_19 bw_8_18 bw_1_5 kd_X7_in bw_8_17 rfl rfl ⟨Nat.le_of_ble_eq_true rfl, Nat.le_of_ble_eq_true rfl⟩) hK hP hP hS rfl hl.1 rfl (Nat.le_of_ble_eq_true rfl) dX7_conclusion_31 ⟨Nat.zero_le _, Nat.zero_le _⟩ (fun H locs hP hS => ?_)
      refine lv_if_eq (tgt := 46) hx hb dX7_conclusion_34 (by decide) (fun c3 => ?_) (fun c3 => ?_)
      · have hs := ifp c3 hs
        refine lv_bipush (v := -102) hx hb dX7_conclusion_46 (by decide) ?_
        cases hs
        exact ret_roi hx hb hr hlk hS dX7_conclusion_48
      · have hs := ifn c3 hs
        refine lv_aload_n hx hb dX7_conclusion_37 rfl (lv_at hl 0 rfl) ?_
        refine lv_iload_n hx hb dX7_conclusion_38 rfl (lv_at hl 1 rfl) ?_
        refine lv_iload_n hx hb dX7_conclusion_39 rfl (lv_at hl 2 rfl) ?_
        obtain ⟨r4, e4, hs⟩ := Option.bind_eq_some_iff.mp hs
        refine cV_roi (As := [.int p1, .int p2]) (rest := []) hC (m_X7_fact l g b st p1 p2 r4 e4) (kv_of hB bw_21_23 bw_21_21 bw_21_22 bw_1_5 kd_X7_fact bw_21_20 rfl rfl ⟨Nat.le_of_ble_eq_true rfl, Nat.le_of_ble_eq_true rfl⟩) hK hP hP hS (mW_0 g b st) rfl rfl hl.1 rfl (Nat.le_of_ble_eq_true rfl) dX7_conclusion_40 ⟨Nat.zero_le _, Nat.zero_le _⟩ (fun H locs hP hS => ?_)
        refine lv_goto (tgt := 48) hx hb dX7_conclusion_43 (by decide) ?_
        cases hs
        exact ret_roi hx hb hr hlk hS dX7_conclusion_48
    · have hs := ifp c2 hs
      refine lv_bipush (v := -101) hx hb dX7_conclusion_24 (by decide) ?_
      cases hs
      exact ret_roi hx hb hr hlk hS dX7_conclusion_26
  · have hs := ifp c1 hs
    refine lv_bipush (v := -103) hx hb dX7_conclusion_7 (by decide) ?_
    cases hs
    exact ret_roi hx hb hr hlk hS dX7_conclusion_9
noncomputable def f_X7_is (st : MS) (p1 : Int32) (p2 : Int32) : Option Int32 :=
  (if (st 11 0) = 0 then some ((-103 : Int32)) else (if (t_X7_isNotion st p1) = 0 then some ((-101 : Int32)) else (if (t_X7_isNotion st p2) = 0 then some ((-101 : Int32)) else (Option.bind (rd 784 (st 16) (((28 : Int32) * p1) + p2)) (fun r4 => some (r4))))))
set_option maxHeartbeats 4000000 in
set_option maxRecDepth 100000 in
theorem m_X7_is (l : Launch) (g : GG) (b : Nat → Nat) (st : MS) (p1 : Int32) (p2 : Int32) (res : Int32) (hs : f_X7_is st p1 p2 = some res) : Met l yX7_is (Cond.code yX7_is cX7_is 3 (some .int) :: BIG) ({ frames := 2, cells := 0, slots := 0, locals := 43 } : Room) (va_Pc [.ref (b 0), .int p1, .int p2] (ROp g (mW g b st))) (ROi res) 0 0 (fun _ => False) := by
  refine ro_start (cc := cX7_is) (maxL := 3) (ret := (some .int)) (lv := [(0, .ref (b 0)), (1, .int p1), (2, .int p2)]) (by decide) rfl (Nat.le_of_ble_eq_true rfl) rfl ?_
  intro p e s m args below meth c hx hb hml hr hts hown hlk hK H locs hP hS ls hl
  have hB : ∀ w ∈ BIG, w.before args s = true := fun w h => hts w (List.mem_cons_of_mem _ h)
  have hC : CallFix p m c cX7_is 3 s args BIG RX7 := ⟨hx, hb, hml, hown, hB⟩
  unfold f_X7_is at hs
  refine lv_aload_n hx hb dX7_is_0 rfl (lv_at hl 0 rfl) ?_
  refine mg_11 hx hb hB hown hK hP dX7_is_1 ?_
  refine lv_if_ne (tgt := 10) hx hb dX7_is_4 (by decide) (fun c1 => ?_) (fun c1 => ?_)
  · have hs := ifn c1 hs
    refine lv_aload_n hx hb dX7_is_10 rfl (lv_at hl 0 rfl) ?_
    refine lv_iload_n hx hb dX7_is_11 rfl (lv_at hl 1 rfl) ?_
    refine cV_roi (As := [.int p1]) (rest := []) hC (m_X7_isNotion l g b st p1) (kv_of hB bw_8_16 bw_8_14 bw_8_15 bw_1_5 kd_X7_isNotion bw_8_13 rfl rfl ⟨Nat.le_of_ble_eq_true rfl, Nat.le_of_ble_eq_true rfl⟩) hK hP hP hS (mW_0 g b st) rfl rfl hl.1 rfl (Nat.le_of_ble_eq_true rfl) dX7_is_12 ⟨Nat.zero_le _, Nat.zero_le _⟩ (fun H locs hP hS => ?_)
    refine lv_if_eq (tgt := 40) hx hb dX7_is_15 (by decide) (fun c2 => ?_) (fun c2 => ?_)
    · have hs := ifp c2 hs
      refine lv_bipush (v := -101) hx hb dX7_is_40 (by decide) ?_
      cases hs
      exact ret_roi hx hb hr hlk hS dX7_is_42
    · have hs := ifn c2 hs
      refine lv_aload_n hx hb dX7_is_18 rfl (lv_at hl 0 rfl) ?_
      refine lv_iload_n hx hb dX7_is_19 rfl (lv_at hl 2 rfl) ?_
      refine cV_roi (As := [.int p2]) (rest := []) hC (m_X7_isNotion l g b st p2) (kv_of hB bw_8_16 bw_8_14 bw_8_15 bw_1_5 kd_X7_isNotion bw_8_13 rfl rfl ⟨Nat.le_of_ble_eq_true rfl, Nat.le_of_ble_eq_true rfl⟩) hK hP hP hS (mW_0 g b st) rfl rfl hl.1 rfl (Nat.le_of_ble_eq_true rfl) dX7_is_20 ⟨Nat.zero_le _, Nat.zero_le _⟩ (fun H locs hP hS => ?_)
      refine lv_if_eq (tgt := 40) hx hb dX7_is_23 (by decide) (fun c3 => ?_) (fun c3 => ?_)
      · have hs := ifp c3 hs
        refine lv_bipush (v := -101) hx hb dX7_is_40 (by decide) ?_
        cases hs
        exact ret_roi hx hb hr hlk hS dX7_is_42
      · have hs := ifn c3 hs
        refine lv_aload_n hx hb dX7_is_26 rfl (lv_at hl 0 rfl) ?_
        refine mg_16 hx hb hB hown hK hP dX7_is_27 ?_
        refine lv_bipush (v := 28) hx hb dX7_is_30 (by decide) ?_
        refine lv_iload_n hx hb dX7_is_32 rfl (lv_at hl 1 rfl) ?_
        refine lv_imul hx hb dX7_is_33 ?_
        refine lv_iload_n hx hb dX7_is_34 rfl (lv_at hl 2 rfl) ?_
        refine lv_iadd hx hb dX7_is_35 ?_
        obtain ⟨r4, e4, hs⟩ := Option.bind_eq_some_iff.mp hs
        refine ml_16 hx hb hK hP e4 dX7_is_36 ?_
        refine lv_goto (tgt := 42) hx hb dX7_is_37 (by decide) ?_
        cases hs
        exact ret_roi hx hb hr hlk hS dX7_is_42
  · have hs := ifp c1 hs
    refine lv_bipush (v := -103) hx hb dX7_is_7 (by decide) ?_
    cases hs
    exact ret_roi hx hb hr hlk hS dX7_is_9
noncomputable def f_X7_to (st : MS) (p1 : Int32) (p2 : Int32) (p3 : Int32) : Option Int32 :=
  (if (st 11 0) = 0 then some ((-103 : Int32)) else (if (t_X7_isNotion st p1) = 0 then some ((-101 : Int32)) else (if (t_X7_isNotion st p3) = 0 then some ((-101 : Int32)) else (if (t_X7_isRole p2) = 0 then some ((-102 : Int32)) else (Option.bind (rd 3136 (st 17) ((((112 : Int32) * p1) + ((28 : Int32) * p2)) + p3)) (fun r5 => some (r5)))))))
set_option maxHeartbeats 4000000 in
set_option maxRecDepth 100000 in
theorem m_X7_to (l : Launch) (g : GG) (b : Nat → Nat) (st : MS) (p1 : Int32) (p2 : Int32) (p3 : Int32) (res : Int32) (hs : f_X7_to st p1 p2 p3 = some res) : Met l yX7_to (Cond.code yX7_to cX7_to 4 (some .int) :: BIG) ({ frames := 2, cells := 0, slots := 0, locals := 43 } : Room) (va_Pc [.ref (b 0), .int p1, .int p2, .int p3] (ROp g (mW g b st))) (ROi res) 0 0 (fun _ => False) := by
  refine ro_start (cc := cX7_to) (maxL := 4) (ret := (some .int)) (lv := [(0, .ref (b 0)), (1, .int p1), (2, .int p2), (3, .int p3)]) (by decide) rfl (Nat.le_of_ble_eq_true rfl) rfl ?_
  intro p e s m args below meth c hx hb hml hr hts hown hlk hK H locs hP hS ls hl
  have hB : ∀ w ∈ BIG, w.before args s = true := fun w h => hts w (List.mem_cons_of_mem _ h)
  have hC : CallFix p m c cX7_to 4 s args BIG RX7 := ⟨hx, hb, hml, hown, hB⟩
  unfold f_X7_to at hs
  refine lv_aload_n hx hb dX7_to_0 rfl (lv_at hl 0 rfl) ?_
  refine mg_11 hx hb hB hown hK hP dX7_to_1 ?_
  refine lv_if_ne (tgt := 10) hx hb dX7_to_4 (by decide) (fun c1 => ?_) (fun c1 => ?_)
  · have hs := ifn c1 hs
    refine lv_aload_n hx hb dX7_to_10 rfl (lv_at hl 0 rfl) ?_
    refine lv_iload_n hx hb dX7_to_11 rfl (lv_at hl 1 rfl) ?_
    refine cV_roi (As := [.int p1]) (rest := []) hC (m_X7_isNotion l g b st p1) (kv_of hB bw_8_16 bw_8_14 bw_8_15 bw_1_5 kd_X7_isNotion bw_8_13 rfl rfl ⟨Nat.le_of_ble_eq_true rfl, Nat.le_of_ble_eq_true rfl⟩) hK hP hP hS (mW_0 g b st) rfl rfl hl.1 rfl (Nat.le_of_ble_eq_true rfl) dX7_to_12 ⟨Nat.zero_le _, Nat.zero_le _⟩ (fun H locs hP hS => ?_)
    refine lv_if_eq (tgt := 26) hx hb dX7_to_15 (by decide) (fun c2 => ?_) (fun c2 => ?_)
    · have hs := ifp c2 hs
      refine lv_bipush (v := -101) hx hb dX7_to_26 (by decide) ?_
      cases hs
      exact ret_roi hx hb hr hlk hS dX7_to_28
    · have hs := ifn c2 hs
      refine lv_aload_n hx hb dX7_to_18 rfl (lv_at hl 0 rfl) ?_
      refine lv_iload_n hx hb dX7_to_19 rfl (lv_at hl 3 rfl) ?_
      refine cV_roi (As := [.int p3]) (rest := []) hC (m_X7_isNotion l g b st p3) (kv_of hB bw_8_16 bw_8_14 bw_8_15 bw_1_5 kd_X7_isNotion bw_8_13 rfl rfl ⟨Nat.le_of_ble_eq_true rfl, Nat.le_of_ble_eq_true rfl⟩) hK hP hP hS (mW_0 g b st) rfl rfl hl.1 rfl (Nat.le_of_ble_eq_true rfl) dX7_to_20 ⟨Nat.zero_le _, Nat.zero_le _⟩ (fun H locs hP hS => ?_)
      refine lv_if_ne (tgt := 29) hx hb dX7_to_23 (by decide) (fun c3 => ?_) (fun c3 => ?_)
      · have hs := ifn c3 hs
        refine lv_iload_n hx hb dX7_to_29 rfl (lv_at hl 2 rfl) ?_
        refine cS_roi (As := [.int p2]) (rest := []) hC (m_X7_isRole l g (mW g b st) p2) (ks_of hB bw_9_14 bw_9_13 bw_1_5 kd_X7_isRole bw_9_12 rfl rfl ⟨Nat.le_of_ble_eq_true rfl, Nat.le_of_ble_eq_true rfl⟩) hK hP hP hS rfl hl.1 rfl (Nat.le_of_ble_eq_true rfl) dX7_to_30 ⟨Nat.zero_le _, Nat.zero_le _⟩ (fun H locs hP hS => ?_)
        refine lv_if_eq (tgt := 55) hx hb dX7_to_33 (by decide) (fun c4 => ?_) (fun c4 => ?_)
        · have hs := ifp c4 hs
          refine lv_bipush (v := -102) hx hb dX7_to_55 (by decide) ?_
          cases hs
          exact ret_roi hx hb hr hlk hS dX7_to_57
        · have hs := ifn c4 hs
          refine lv_aload_n hx hb dX7_to_36 rfl (lv_at hl 0 rfl) ?_
          refine mg_17 hx hb hB hown hK hP dX7_to_37 ?_
          refine lv_bipush (v := 112) hx hb dX7_to_40 (by decide) ?_
          refine lv_iload_n hx hb dX7_to_42 rfl (lv_at hl 1 rfl) ?_
          refine lv_imul hx hb dX7_to_43 ?_
          refine lv_bipush (v := 28) hx hb dX7_to_44 (by decide) ?_
          refine lv_iload_n hx hb dX7_to_46 rfl (lv_at hl 2 rfl) ?_
          refine lv_imul hx hb dX7_to_47 ?_
          refine lv_iadd hx hb dX7_to_48 ?_
          refine lv_iload_n hx hb dX7_to_49 rfl (lv_at hl 3 rfl) ?_
          refine lv_iadd hx hb dX7_to_50 ?_
          obtain ⟨r5, e5, hs⟩ := Option.bind_eq_some_iff.mp hs
          refine ml_17 hx hb hK hP e5 dX7_to_51 ?_
          refine lv_goto (tgt := 57) hx hb dX7_to_52 (by decide) ?_
          cases hs
          exact ret_roi hx hb hr hlk hS dX7_to_57
      · have hs := ifp c3 hs
        refine lv_bipush (v := -101) hx hb dX7_to_26 (by decide) ?_
        cases hs
        exact ret_roi hx hb hr hlk hS dX7_to_28
  · have hs := ifp c1 hs
    refine lv_bipush (v := -103) hx hb dX7_to_7 (by decide) ?_
    cases hs
    exact ret_roi hx hb hr hlk hS dX7_to_9
noncomputable def b_X7_proof_78 (c78_2 : Int32) (c78_3 : Int32) (v78_4 : Int32) (z78 : MS) : Option ((Int32 × MS) ⊕ ((Int32 × Int32 × MS) ⊕ (Int32 × MS))) :=
  (if (8 : Int32) ≤ v78_4 then some (Sum.inr (Sum.inl (c78_2, (c78_3 + (-1)), z78))) else (Option.bind (f_X7_fact z78 c78_3 v78_4) (fun r9 => (if r9 = (-1 : Int32) then some (Sum.inl ((v78_4 + 1), z78)) else (Option.bind (f_X7_fact z78 c78_3 v78_4) (fun r11 => (Option.bind (mwr z78 28 4000 r11 (1 : Int32)) (fun r12 => some (Sum.inl ((v78_4 + 1), r12))))))))))
noncomputable def b_X7_proof_58 (v58_2 : Int32) (v58_3 : Int32) (z58 : MS) : Option ((Int32 × Int32 × MS) ⊕ (Int32 × MS)) :=
  (if v58_3 < 0 then some (Sum.inr ((v58_2, z58))) else (Option.bind (rd 4000 (z58 28) v58_3) (fun r6 => (if r6 = 0 then some (Sum.inl (v58_2, (v58_3 + (-1)), z58)) else (loopC (fun v => b_X7_proof_78 (v58_2 + 1) v58_3 v.1 v.2) ((6 : Int32), z58))))))
noncomputable def b_X7_proof_29 (c29_1 : Int32) (v29_2 : Int32) (z29 : MS) : Option ((Int32 × MS) ⊕ (Int32 × MS)) :=
  (if c29_1 < v29_2 then (Option.bind (mwr z29 28 4000 c29_1 (1 : Int32)) (fun r4 => (Option.map (fun z => Sum.inr (z)) (loopC (fun v => b_X7_proof_58 v.1 v.2.1 v.2.2) ((0 : Int32), c29_1, r4))))) else (Option.bind (mwr z29 28 4000 v29_2 (0 : Int32)) (fun r13 => some (Sum.inl ((v29_2 + 1), r13)))))
noncomputable def f_X7_proof (st : MS) (p1 : Int32) : Option (Int32 × MS) :=
  (if (st 11 0) = 0 then some (((-103 : Int32), st)) else (if (t_X7_in p1 (0 : Int32) ((st 13 0) - (1 : Int32))) = 0 then some (((-101 : Int32), st)) else (loopC (fun v => b_X7_proof_29 p1 v.1 v.2) ((0 : Int32), st))))
set_option maxHeartbeats 4000000 in
set_option maxRecDepth 100000 in
theorem m_X7_proof (l : Launch) (g : GG) (b : Nat → Nat) (st : MS) (sz : Nat) (p1 : Int32) (res : (Int32 × MS)) (hs : f_X7_proof st p1 = some res) : Met l yX7_proof (Cond.code yX7_proof cX7_proof 5 (some .int) :: BIG) ({ frames := 1, cells := 0, slots := 0, locals := 22 } : Room) (va_Pc [.ref (b 0), .int p1] (RWp g (mW g b st) sz)) (RWi res.1 g (mW g b res.2) (va_A (mW g b st) sz)) 0 0 (va_A (mW g b st) sz) := by
  refine rw_start (cc := cX7_proof) (maxL := 5) (ret := (some .int)) (lv := [(0, .ref (b 0)), (1, .int p1)]) (Qc := fun A => (RWi res.1 g (mW g b res.2) A)) (by decide) rfl (Nat.le_of_ble_eq_true rfl) rfl ?_
  intro p e s m args below meth c hx hb hml hr hts hown hlk hK A hD0 hA H locs hP hS ls hl
  have hD : ∀ st' : MS, va_D A (mW g b st') := fun _ => mW_D hD0
  have hB : ∀ w ∈ BIG, w.before args s = true := fun w h => hts w (List.mem_cons_of_mem _ h)
  have hC : CallFix p m c cX7_proof 5 s args BIG RX7 := ⟨hx, hb, hml, hown, hB⟩
  unfold f_X7_proof at hs
  refine lv_aload_n hx hb dX7_proof_0 rfl (lv_at hl 0 rfl) ?_
  refine mg_11 hx hb hB hown hK hP dX7_proof_1 ?_
  refine lv_if_ne (tgt := 10) hx hb dX7_proof_4 (by decide) (fun c1 => ?_) (fun c1 => ?_)
  · have hs := ifn c1 hs
    refine lv_iload_n hx hb dX7_proof_10 rfl (lv_at hl 1 rfl) ?_
    refine lv_iconst (v := 0) hx hb dX7_proof_11 (by decide) ?_
    refine lv_aload_n hx hb dX7_proof_12 rfl (lv_at hl 0 rfl) ?_
    refine mg_13 hx hb hB hown hK hP dX7_proof_13 ?_
    refine lv_iconst (v := 1) hx hb dX7_proof_16 (by decide) ?_
    refine lv_isub hx hb dX7_proof_17 ?_
    refine cS_roi (As := [.int p1, .int (0 : Int32), .int ((st 13 0) - (1 : Int32))]) (rest := []) hC (m_X7_in l g (mW g b st) p1 (0 : Int32) ((st 13 0) - (1 : Int32))) (ks_of hB bw_8_19 bw_8_18 bw_1_5 kd_X7_in bw_8_17 rfl rfl ⟨Nat.le_of_ble_eq_true rfl, Nat.le_of_ble_eq_true rfl⟩) hK hP hP hS rfl hl.1 rfl (Nat.le_of_ble_eq_true rfl) dX7_proof_18 ⟨Nat.zero_le _, Nat.zero_le _⟩ (fun H locs hP hS => ?_)
    refine lv_if_ne (tgt := 27) hx hb dX7_proof_21 (by decide) (fun c2 => ?_) (fun c2 => ?_)
    · have hs := ifn c2 hs
      refine lv_iconst (v := 0) hx hb dX7_proof_27 (by decide) ?_
      refine lv_istore_n (lv' := [(2, .int (0 : Int32)), (0, .ref (b 0)), (1, .int p1)]) hx hb dX7_proof_28 rfl hl (by decide) rfl (fun ls hl => ?_)
      obtain ⟨n29, hs⟩ := loopC_iter hs
      have L29 : ∀ (n : Nat) (v29_2 : Int32) (z29 : MS), iterO (fun v => b_X7_proof_29 p1 v.1 v.2) n (v29_2, z29) = some res → ∀ (H : Heap) (locs : List Loc), va_P g.1 vwCl (mW g b z29) H → va_S A s.heap H locs → ∀ ls : Array Slot, lv_has ls 5 [(0, .ref (b 0)), (1, .int p1), (2, .int v29_2)] → W p l e ({ frames := 1, cells := 0, slots := 0, locals := 22 } : Room) s m args below meth c H locs 0 0 (MQ below (RWi res.1 g (mW g b res.2) A) args s 0 0 A) (F0 m 29 ls []) := by
        intro n
        induction n with
        | zero => intro v29_2 z29 hs; exact (iterO_zero hs).elim
        | succ n ih29 =>
          intro v29_2 z29 hs H locs hP hS ls hl
          obtain ⟨y29, hs, hk29⟩ := iterO_succ hs
          have hs : b_X7_proof_29 p1 v29_2 z29 = some y29 := hs
          unfold b_X7_proof_29 at hs
          refine lv_iload_n hx hb dX7_proof_29 rfl (lv_at hl 2 rfl) ?_
          refine lv_iload_n hx hb dX7_proof_30 rfl (lv_at hl 1 rfl) ?_
          refine lv_icmp_gt (tgt := 47) hx hb dX7_proof_31 (by decide) (fun c3 => ?_) (fun c3 => ?_)
          · have hs := ifp c3 hs
            refine lv_aload_n hx hb dX7_proof_47 rfl (lv_at hl 0 rfl) ?_
            refine mg_28 hx hb hB hown hK hP dX7_proof_48 ?_
            refine lv_iload_n hx hb dX7_proof_51 rfl (lv_at hl 1 rfl) ?_
            refine lv_iconst (v := 1) hx hb dX7_proof_52 (by decide) ?_
            obtain ⟨r4, e4, hs⟩ := Option.bind_eq_some_iff.mp hs
            refine ms_28 hx hb hK hP hD hS rfl e4 dX7_proof_53 (fun H locs hP hS => ?_)
            refine lv_iconst (v := 0) hx hb dX7_proof_54 (by decide) ?_
            refine lv_istore_n (lv' := [(2, .int (0 : Int32)), (0, .ref (b 0)), (1, .int p1)]) hx hb dX7_proof_55 rfl hl (by decide) rfl (fun ls hl => ?_)
            refine lv_iload_n hx hb dX7_proof_56 rfl (lv_at hl 2 rfl) ?_
            refine lv_istore_n (lv' := [(3, .int p1), (2, .int (0 : Int32)), (0, .ref (b 0)), (1, .int p1)]) hx hb dX7_proof_57 rfl hl (by decide) rfl (fun ls hl => ?_)
            obtain ⟨w58, hm58, hw58⟩ := Option.map_eq_some_iff.mp hs
            clear hs
            cases hw58
            cases elim_inr hk29
            have hs := hm58
            obtain ⟨n58, hs⟩ := loopC_iter hs
            have L58 : ∀ (n : Nat) (v58_2 : Int32) (v58_3 : Int32) (z58 : MS), iterO (fun v => b_X7_proof_58 v.1 v.2.1 v.2.2) n (v58_2, v58_3, z58) = some res → ∀ (H : Heap) (locs : List Loc), va_P g.1 vwCl (mW g b z58) H → va_S A s.heap H locs → ∀ ls : Array Slot, lv_has ls 5 [(0, .ref (b 0)), (2, .int v58_2), (3, .int v58_3)] → W p l e ({ frames := 1, cells := 0, slots := 0, locals := 22 } : Room) s m args below meth c H locs 0 0 (MQ below (RWi res.1 g (mW g b res.2) A) args s 0 0 A) (F0 m 58 ls []) := by
              intro n
              induction n with
              | zero => intro v58_2 v58_3 z58 hs; exact (iterO_zero hs).elim
              | succ n ih58 =>
                intro v58_2 v58_3 z58 hs H locs hP hS ls hl
                obtain ⟨y58, hs, hk58⟩ := iterO_succ hs
                have hs : b_X7_proof_58 v58_2 v58_3 z58 = some y58 := hs
                unfold b_X7_proof_58 at hs
                refine lv_iload_n hx hb dX7_proof_58 rfl (lv_at hl 2 rfl) ?_
                refine lv_if_lt (tgt := 121) hx hb dX7_proof_59 (by decide) (fun c5 => ?_) (fun c5 => ?_)
                · have hs := ifp c5 hs
                  refine lv_iload_n hx hb dX7_proof_121 rfl (lv_at hl 1 rfl) ?_
                  cases hs
                  cases elim_inr hk58
                  exact ret_rwi hx hb hr hlk hP hS dX7_proof_122
                · have hs := ifn c5 hs
                  refine lv_aload_n hx hb dX7_proof_62 rfl (lv_at hl 0 rfl) ?_
                  refine mg_28 hx hb hB hown hK hP dX7_proof_63 ?_
                  refine lv_iload_n hx hb dX7_proof_66 rfl (lv_at hl 2 rfl) ?_
                  obtain ⟨r6, e6, hs⟩ := Option.bind_eq_some_iff.mp hs
                  refine ml_28 hx hb hK hP e6 dX7_proof_67 ?_
                  refine lv_if_eq (tgt := 115) hx hb dX7_proof_68 (by decide) (fun c7 => ?_) (fun c7 => ?_)
                  · have hs := ifp c7 hs
                    refine lv_iinc (v := (v58_3 + (-1))) (lv' := [(3, .int (v58_3 + (-1))), (0, .ref (b 0)), (2, .int v58_2)]) hx hb dX7_proof_115 hl (k := 2) rfl (by rfl) (by decide) rfl (fun ls hl => ?_)
                    refine lv_goto (tgt := 58) hx hb dX7_proof_118 (by decide) ?_
                    cases hs
                    exact ih58 v58_2 (v58_3 + (-1)) z58 hk58 _ _ hP hS _ (lv_sub hl [1, 2, 0] rfl)
                  · have hs := ifn c7 hs
                    refine lv_iinc (v := (v58_2 + 1)) (lv' := [(2, .int (v58_2 + 1)), (0, .ref (b 0)), (3, .int v58_3)]) hx hb dX7_proof_71 hl (k := 1) rfl (by rfl) (by decide) rfl (fun ls hl => ?_)
                    refine lv_bipush (v := 6) hx hb dX7_proof_74 (by decide) ?_
                    refine lv_istore (lv' := [(4, .int (6 : Int32)), (2, .int (v58_2 + 1)), (0, .ref (b 0)), (3, .int v58_3)]) hx hb dX7_proof_76 hl (by decide) rfl (fun ls hl => ?_)
                    obtain ⟨n78, hs⟩ := loopC_iter hs
                    have L78 : ∀ (n : Nat) (v78_4 : Int32) (z78 : MS), iterO (fun v => b_X7_proof_78 (v58_2 + 1) v58_3 v.1 v.2) n (v78_4, z78) = some y58 → ∀ (H : Heap) (locs : List Loc), va_P g.1 vwCl (mW g b z78) H → va_S A s.heap H locs → ∀ ls : Array Slot, lv_has ls 5 [(0, .ref (b 0)), (2, .int (v58_2 + 1)), (3, .int v58_3), (4, .int v78_4)] → W p l e ({ frames := 1, cells := 0, slots := 0, locals := 22 } : Room) s m args below meth c H locs 0 0 (MQ below (RWi res.1 g (mW g b res.2) A) args s 0 0 A) (F0 m 78 ls []) := by
                      intro n
                      induction n with
                      | zero => intro v78_4 z78 hs; exact (iterO_zero hs).elim
                      | succ n ih78 =>
                        intro v78_4 z78 hs H locs hP hS ls hl
                        obtain ⟨y78, hs, hk78⟩ := iterO_succ hs
                        have hs : b_X7_proof_78 (v58_2 + 1) v58_3 v78_4 z78 = some y78 := hs
                        unfold b_X7_proof_78 at hs
                        refine lv_iload hx hb dX7_proof_78 (lv_at hl 3 rfl) ?_
                        refine lv_bipush (v := 8) hx hb dX7_proof_80 (by decide) ?_
                        refine lv_icmp_ge (tgt := 115) hx hb dX7_proof_82 (by decide) (fun c8 => ?_) (fun c8 => ?_)
                        · have hs := ifp c8 hs
                          refine lv_iinc (v := (v58_3 + (-1))) (lv' := [(3, .int (v58_3 + (-1))), (0, .ref (b 0)), (2, .int (v58_2 + 1)), (4, .int v78_4)]) hx hb dX7_proof_115 hl (k := 2) rfl (by rfl) (by decide) rfl (fun ls hl => ?_)
                          refine lv_goto (tgt := 58) hx hb dX7_proof_118 (by decide) ?_
                          cases hs
                          cases elim_inr hk78
                          exact ih58 (v58_2 + 1) (v58_3 + (-1)) z78 hk58 _ _ hP hS _ (lv_sub hl [1, 2, 0] rfl)
                        · have hs := ifn c8 hs
                          refine lv_aload_n hx hb dX7_proof_85 rfl (lv_at hl 0 rfl) ?_
                          refine lv_iload_n hx hb dX7_proof_86 rfl (lv_at hl 2 rfl) ?_
                          refine lv_iload hx hb dX7_proof_87 (lv_at hl 3 rfl) ?_
                          obtain ⟨r9, e9, hs⟩ := Option.bind_eq_some_iff.mp hs
                          refine cV_roi (As := [.int v58_3, .int v78_4]) (rest := []) hC (m_X7_fact l g b z78 v58_3 v78_4 r9 e9) (kv_of hB bw_21_23 bw_21_21 bw_21_22 bw_1_5 kd_X7_fact bw_21_20 rfl rfl ⟨Nat.le_of_ble_eq_true rfl, Nat.le_of_ble_eq_true rfl⟩) hK hP hP hS (mW_0 g b z78) rfl rfl hl.1 rfl (Nat.le_of_ble_eq_true rfl) dX7_proof_89 ⟨Nat.zero_le _, Nat.zero_le _⟩ (fun H locs hP hS => ?_)
                          refine lv_iconst (v := -1) hx hb dX7_proof_92 (by decide) ?_
                          refine lv_icmp_eq (tgt := 109) hx hb dX7_proof_93 (by decide) (fun c10 => ?_) (fun c10 => ?_)
                          · have hs := ifp c10 hs
                            refine lv_iinc (v := (v78_4 + 1)) (lv' := [(4, .int (v78_4 + 1)), (0, .ref (b 0)), (2, .int (v58_2 + 1)), (3, .int v58_3)]) hx hb dX7_proof_109 hl (k := 3) rfl (by rfl) (by decide) rfl (fun ls hl => ?_)
                            refine lv_goto (tgt := 78) hx hb dX7_proof_112 (by decide) ?_
                            cases hs
                            exact ih78 (v78_4 + 1) z78 hk78 _ _ hP hS _ (lv_sub hl [1, 2, 3, 0] rfl)
                          · have hs := ifn c10 hs
                            refine lv_aload_n hx hb dX7_proof_96 rfl (lv_at hl 0 rfl) ?_
                            refine mg_28 hx hb hB hown hK hP dX7_proof_97 ?_
                            refine lv_aload_n hx hb dX7_proof_100 rfl (lv_at hl 0 rfl) ?_
                            refine lv_iload_n hx hb dX7_proof_101 rfl (lv_at hl 2 rfl) ?_
                            refine lv_iload hx hb dX7_proof_102 (lv_at hl 3 rfl) ?_
                            obtain ⟨r11, e11, hs⟩ := Option.bind_eq_some_iff.mp hs
                            refine cV_roi (As := [.int v58_3, .int v78_4]) (rest := [.ref (b 21)]) hC (m_X7_fact l g b z78 v58_3 v78_4 r11 e11) (kv_of hB bw_21_23 bw_21_21 bw_21_22 bw_1_5 kd_X7_fact bw_21_20 rfl rfl ⟨Nat.le_of_ble_eq_true rfl, Nat.le_of_ble_eq_true rfl⟩) hK hP hP hS (mW_0 g b z78) rfl rfl hl.1 rfl (Nat.le_of_ble_eq_true rfl) dX7_proof_104 ⟨Nat.zero_le _, Nat.zero_le _⟩ (fun H locs hP hS => ?_)
                            refine lv_iconst (v := 1) hx hb dX7_proof_107 (by decide) ?_
                            obtain ⟨r12, e12, hs⟩ := Option.bind_eq_some_iff.mp hs
                            refine ms_28 hx hb hK hP hD hS rfl e12 dX7_proof_108 (fun H locs hP hS => ?_)
                            refine lv_iinc (v := (v78_4 + 1)) (lv' := [(4, .int (v78_4 + 1)), (0, .ref (b 0)), (2, .int (v58_2 + 1)), (3, .int v58_3)]) hx hb dX7_proof_109 hl (k := 3) rfl (by rfl) (by decide) rfl (fun ls hl => ?_)
                            refine lv_goto (tgt := 78) hx hb dX7_proof_112 (by decide) ?_
                            cases hs
                            exact ih78 (v78_4 + 1) r12 hk78 _ _ hP hS _ (lv_sub hl [1, 2, 3, 0] rfl)
                    exact L78 n78 (6 : Int32) z58 hs _ _ hP hS _ (lv_sub hl [2, 1, 3, 0] rfl)
            exact L58 n58 (0 : Int32) p1 r4 hs _ _ hP hS _ (lv_sub hl [2, 1, 0] rfl)
          · have hs := ifn c3 hs
            refine lv_aload_n hx hb dX7_proof_34 rfl (lv_at hl 0 rfl) ?_
            refine mg_28 hx hb hB hown hK hP dX7_proof_35 ?_
            refine lv_iload_n hx hb dX7_proof_38 rfl (lv_at hl 2 rfl) ?_
            refine lv_iconst (v := 0) hx hb dX7_proof_39 (by decide) ?_
            obtain ⟨r13, e13, hs⟩ := Option.bind_eq_some_iff.mp hs
            refine ms_28 hx hb hK hP hD hS rfl e13 dX7_proof_40 (fun H locs hP hS => ?_)
            refine lv_iinc (v := (v29_2 + 1)) (lv' := [(2, .int (v29_2 + 1)), (0, .ref (b 0)), (1, .int p1)]) hx hb dX7_proof_41 hl (k := 2) rfl (by rfl) (by decide) rfl (fun ls hl => ?_)
            refine lv_goto (tgt := 29) hx hb dX7_proof_44 (by decide) ?_
            cases hs
            exact ih29 (v29_2 + 1) r13 hk29 _ _ hP hS _ (lv_sub hl [1, 2, 0] rfl)
      exact L29 n29 (0 : Int32) st hs _ _ hP hS _ (lv_sub hl [1, 2, 0] rfl)
    · have hs := ifp c2 hs
      refine lv_bipush (v := -101) hx hb dX7_proof_24 (by decide) ?_
      cases hs
      exact ret_rwi hx hb hr hlk hP hS dX7_proof_26
  · have hs := ifp c1 hs
    refine lv_bipush (v := -103) hx hb dX7_proof_7 (by decide) ?_
    cases hs
    exact ret_rwi hx hb hr hlk hP hS dX7_proof_9
noncomputable def f_X7_isPlain (st : MS) (p1 : Int32) : Option Int32 :=
  (if (t_X7_isNotion st p1) = 0 then some ((0 : Int32)) else (Option.bind (rd 28 (st 2) p1) (fun r2 => (if (3 : Int32) ≤ r2 then some ((0 : Int32)) else some ((1 : Int32))))))
set_option maxHeartbeats 4000000 in
set_option maxRecDepth 100000 in
theorem m_X7_isPlain (l : Launch) (g : GG) (b : Nat → Nat) (st : MS) (p1 : Int32) (res : Int32) (hs : f_X7_isPlain st p1 = some res) : Met l yX7_isPlain (Cond.code yX7_isPlain cX7_isPlain 2 (some .boolean) :: BIG) ({ frames := 2, cells := 0, slots := 0, locals := 43 } : Room) (va_Pc [.ref (b 0), .int p1] (ROp g (mW g b st))) (ROi res) 0 0 (fun _ => False) := by
  refine ro_start (cc := cX7_isPlain) (maxL := 2) (ret := (some .boolean)) (lv := [(0, .ref (b 0)), (1, .int p1)]) (by decide) rfl (Nat.le_of_ble_eq_true rfl) rfl ?_
  intro p e s m args below meth c hx hb hml hr hts hown hlk hK H locs hP hS ls hl
  have hB : ∀ w ∈ BIG, w.before args s = true := fun w h => hts w (List.mem_cons_of_mem _ h)
  have hC : CallFix p m c cX7_isPlain 2 s args BIG RX7 := ⟨hx, hb, hml, hown, hB⟩
  unfold f_X7_isPlain at hs
  refine lv_aload_n hx hb dX7_isPlain_0 rfl (lv_at hl 0 rfl) ?_
  refine lv_iload_n hx hb dX7_isPlain_1 rfl (lv_at hl 1 rfl) ?_
  refine cV_roi (As := [.int p1]) (rest := []) hC (m_X7_isNotion l g b st p1) (kv_of hB bw_8_16 bw_8_14 bw_8_15 bw_1_5 kd_X7_isNotion bw_8_13 rfl rfl ⟨Nat.le_of_ble_eq_true rfl, Nat.le_of_ble_eq_true rfl⟩) hK hP hP hS (mW_0 g b st) rfl rfl hl.1 rfl (Nat.le_of_ble_eq_true rfl) dX7_isPlain_2 ⟨Nat.zero_le _, Nat.zero_le _⟩ (fun H locs hP hS => ?_)
  refine lv_if_eq (tgt := 22) hx hb dX7_isPlain_5 (by decide) (fun c1 => ?_) (fun c1 => ?_)
  · have hs := ifp c1 hs
    refine lv_iconst (v := 0) hx hb dX7_isPlain_22 (by decide) ?_
    cases hs
    exact ret_roz hx hb hr (zn_of (Or.inl rfl)) hlk hS dX7_isPlain_23
  · have hs := ifn c1 hs
    refine lv_aload_n hx hb dX7_isPlain_8 rfl (lv_at hl 0 rfl) ?_
    refine mg_2 hx hb hB hown hK hP dX7_isPlain_9 ?_
    refine lv_iload_n hx hb dX7_isPlain_12 rfl (lv_at hl 1 rfl) ?_
    obtain ⟨r2, e2, hs⟩ := Option.bind_eq_some_iff.mp hs
    refine ml_2 hx hb hK hP e2 dX7_isPlain_13 ?_
    refine lv_iconst (v := 3) hx hb dX7_isPlain_14 (by decide) ?_
    refine lv_icmp_ge (tgt := 22) hx hb dX7_isPlain_15 (by decide) (fun c3 => ?_) (fun c3 => ?_)
    · have hs := ifp c3 hs
      refine lv_iconst (v := 0) hx hb dX7_isPlain_22 (by decide) ?_
      cases hs
      exact ret_roz hx hb hr (zn_of (Or.inl rfl)) hlk hS dX7_isPlain_23
    · have hs := ifn c3 hs
      refine lv_iconst (v := 1) hx hb dX7_isPlain_18 (by decide) ?_
      refine lv_goto (tgt := 23) hx hb dX7_isPlain_19 (by decide) ?_
      cases hs
      exact ret_roz hx hb hr (zn_of (Or.inr rfl)) hlk hS dX7_isPlain_23
noncomputable def f_X7_isUnder (st : MS) (p1 : Int32) (p2 : Int32) : Option Int32 :=
  (if p1 = (1 : Int32) then some ((1 : Int32)) else (Option.bind (rd 784 (st 16) (((28 : Int32) * p1) + p2)) (fun r2 => (if r2 = (-1 : Int32) then (Option.bind (rd 784 (st 16) (((28 : Int32) * p1) + (1 : Int32))) (fun r4 => (if r4 = (-1 : Int32) then (Option.bind (rd 784 (st 16) (1 : Int32)) (fun r6 => (if r6 = (-1 : Int32) then some ((0 : Int32)) else some ((1 : Int32))))) else some ((1 : Int32))))) else some ((1 : Int32))))))
set_option maxHeartbeats 4000000 in
set_option maxRecDepth 100000 in
theorem m_X7_isUnder (l : Launch) (g : GG) (b : Nat → Nat) (st : MS) (p1 : Int32) (p2 : Int32) (res : Int32) (hs : f_X7_isUnder st p1 p2 = some res) : Met l yX7_isUnder (Cond.code yX7_isUnder cX7_isUnder 3 (some .boolean) :: BIG) ({ frames := 0, cells := 0, slots := 0, locals := 0 } : Room) (va_Pc [.ref (b 0), .int p1, .int p2] (ROp g (mW g b st))) (ROi res) 0 0 (fun _ => False) := by
  refine ro_start (cc := cX7_isUnder) (maxL := 3) (ret := (some .boolean)) (lv := [(0, .ref (b 0)), (1, .int p1), (2, .int p2)]) (by decide) rfl (Nat.le_of_ble_eq_true rfl) rfl ?_
  intro p e s m args below meth c hx hb hml hr hts hown hlk hK H locs hP hS ls hl
  have hB : ∀ w ∈ BIG, w.before args s = true := fun w h => hts w (List.mem_cons_of_mem _ h)
  have hC : CallFix p m c cX7_isUnder 3 s args BIG RX7 := ⟨hx, hb, hml, hown, hB⟩
  unfold f_X7_isUnder at hs
  refine lv_iload_n hx hb dX7_isUnder_0 rfl (lv_at hl 1 rfl) ?_
  refine lv_iconst (v := 1) hx hb dX7_isUnder_1 (by decide) ?_
  refine lv_icmp_eq (tgt := 45) hx hb dX7_isUnder_2 (by decide) (fun c1 => ?_) (fun c1 => ?_)
  · have hs := ifp c1 hs
    refine lv_iconst (v := 1) hx hb dX7_isUnder_45 (by decide) ?_
    refine lv_goto (tgt := 50) hx hb dX7_isUnder_46 (by decide) ?_
    cases hs
    exact ret_roz hx hb hr (zn_of (Or.inr rfl)) hlk hS dX7_isUnder_50
  · have hs := ifn c1 hs
    refine lv_aload_n hx hb dX7_isUnder_5 rfl (lv_at hl 0 rfl) ?_
    refine mg_16 hx hb hB hown hK hP dX7_isUnder_6 ?_
    refine lv_bipush (v := 28) hx hb dX7_isUnder_9 (by decide) ?_
    refine lv_iload_n hx hb dX7_isUnder_11 rfl (lv_at hl 1 rfl) ?_
    refine lv_imul hx hb dX7_isUnder_12 ?_
    refine lv_iload_n hx hb dX7_isUnder_13 rfl (lv_at hl 2 rfl) ?_
    refine lv_iadd hx hb dX7_isUnder_14 ?_
    obtain ⟨r2, e2, hs⟩ := Option.bind_eq_some_iff.mp hs
    refine ml_16 hx hb hK hP e2 dX7_isUnder_15 ?_
    refine lv_iconst (v := -1) hx hb dX7_isUnder_16 (by decide) ?_
    refine lv_icmp_ne (tgt := 45) hx hb dX7_isUnder_17 (by decide) (fun c3 => ?_) (fun c3 => ?_)
    · have hs := ifn c3 hs
      refine lv_iconst (v := 1) hx hb dX7_isUnder_45 (by decide) ?_
      refine lv_goto (tgt := 50) hx hb dX7_isUnder_46 (by decide) ?_
      cases hs
      exact ret_roz hx hb hr (zn_of (Or.inr rfl)) hlk hS dX7_isUnder_50
    · have hs := ifp c3 hs
      refine lv_aload_n hx hb dX7_isUnder_20 rfl (lv_at hl 0 rfl) ?_
      refine mg_16 hx hb hB hown hK hP dX7_isUnder_21 ?_
      refine lv_bipush (v := 28) hx hb dX7_isUnder_24 (by decide) ?_
      refine lv_iload_n hx hb dX7_isUnder_26 rfl (lv_at hl 1 rfl) ?_
      refine lv_imul hx hb dX7_isUnder_27 ?_
      refine lv_iconst (v := 1) hx hb dX7_isUnder_28 (by decide) ?_
      refine lv_iadd hx hb dX7_isUnder_29 ?_
      obtain ⟨r4, e4, hs⟩ := Option.bind_eq_some_iff.mp hs
      refine ml_16 hx hb hK hP e4 dX7_isUnder_30 ?_
      refine lv_iconst (v := -1) hx hb dX7_isUnder_31 (by decide) ?_
      refine lv_icmp_ne (tgt := 45) hx hb dX7_isUnder_32 (by decide) (fun c5 => ?_) (fun c5 => ?_)
      · have hs := ifn c5 hs
        refine lv_iconst (v := 1) hx hb dX7_isUnder_45 (by decide) ?_
        refine lv_goto (tgt := 50) hx hb dX7_isUnder_46 (by decide) ?_
        cases hs
        exact ret_roz hx hb hr (zn_of (Or.inr rfl)) hlk hS dX7_isUnder_50
      · have hs := ifp c5 hs
        refine lv_aload_n hx hb dX7_isUnder_35 rfl (lv_at hl 0 rfl) ?_
        refine mg_16 hx hb hB hown hK hP dX7_isUnder_36 ?_
        refine lv_iconst (v := 1) hx hb dX7_isUnder_39 (by decide) ?_
        obtain ⟨r6, e6, hs⟩ := Option.bind_eq_some_iff.mp hs
        refine ml_16 hx hb hK hP e6 dX7_isUnder_40 ?_
        refine lv_iconst (v := -1) hx hb dX7_isUnder_41 (by decide) ?_
        refine lv_icmp_eq (tgt := 49) hx hb dX7_isUnder_42 (by decide) (fun c7 => ?_) (fun c7 => ?_)
        · have hs := ifp c7 hs
          refine lv_iconst (v := 0) hx hb dX7_isUnder_49 (by decide) ?_
          cases hs
          exact ret_roz hx hb hr (zn_of (Or.inl rfl)) hlk hS dX7_isUnder_50
        · have hs := ifn c7 hs
          refine lv_iconst (v := 1) hx hb dX7_isUnder_45 (by decide) ?_
          refine lv_goto (tgt := 50) hx hb dX7_isUnder_46 (by decide) ?_
          cases hs
          exact ret_roz hx hb hr (zn_of (Or.inr rfl)) hlk hS dX7_isUnder_50
noncomputable def f_X7_areLike (st : MS) (p1 : Int32) (p2 : Int32) : Option Int32 :=
  (Option.bind (f_X7_isUnder st p1 p2) (fun r1 => (if r1 = 0 then some ((0 : Int32)) else (Option.bind (f_X7_isUnder st p2 p1) (fun r3 => (if r3 = 0 then some ((0 : Int32)) else some ((1 : Int32))))))))
set_option maxHeartbeats 4000000 in
set_option maxRecDepth 100000 in
theorem m_X7_areLike (l : Launch) (g : GG) (b : Nat → Nat) (st : MS) (p1 : Int32) (p2 : Int32) (res : Int32) (hs : f_X7_areLike st p1 p2 = some res) : Met l yX7_areLike (Cond.code yX7_areLike cX7_areLike 3 (some .boolean) :: BIG) ({ frames := 1, cells := 0, slots := 0, locals := 22 } : Room) (va_Pc [.ref (b 0), .int p1, .int p2] (ROp g (mW g b st))) (ROi res) 0 0 (fun _ => False) := by
  refine ro_start (cc := cX7_areLike) (maxL := 3) (ret := (some .boolean)) (lv := [(0, .ref (b 0)), (1, .int p1), (2, .int p2)]) (by decide) rfl (Nat.le_of_ble_eq_true rfl) rfl ?_
  intro p e s m args below meth c hx hb hml hr hts hown hlk hK H locs hP hS ls hl
  have hB : ∀ w ∈ BIG, w.before args s = true := fun w h => hts w (List.mem_cons_of_mem _ h)
  have hC : CallFix p m c cX7_areLike 3 s args BIG RX7 := ⟨hx, hb, hml, hown, hB⟩
  unfold f_X7_areLike at hs
  refine lv_aload_n hx hb dX7_areLike_0 rfl (lv_at hl 0 rfl) ?_
  refine lv_iload_n hx hb dX7_areLike_1 rfl (lv_at hl 1 rfl) ?_
  refine lv_iload_n hx hb dX7_areLike_2 rfl (lv_at hl 2 rfl) ?_
  obtain ⟨r1, e1, hs⟩ := Option.bind_eq_some_iff.mp hs
  refine cV_roi (As := [.int p1, .int p2]) (rest := []) hC (m_X7_isUnder l g b st p1 p2 r1 e1) (kv_of hB bw_27_9 bw_27_7 bw_27_8 bw_1_5 kd_X7_isUnder bw_27_6 rfl rfl ⟨Nat.le_of_ble_eq_true rfl, Nat.le_of_ble_eq_true rfl⟩) hK hP hP hS (mW_0 g b st) rfl rfl hl.1 rfl (Nat.le_of_ble_eq_true rfl) dX7_areLike_3 ⟨Nat.zero_le _, Nat.zero_le _⟩ (fun H locs hP hS => ?_)
  refine lv_if_eq (tgt := 22) hx hb dX7_areLike_6 (by decide) (fun c2 => ?_) (fun c2 => ?_)
  · have hs := ifp c2 hs
    refine lv_iconst (v := 0) hx hb dX7_areLike_22 (by decide) ?_
    cases hs
    exact ret_roz hx hb hr (zn_of (Or.inl rfl)) hlk hS dX7_areLike_23
  · have hs := ifn c2 hs
    refine lv_aload_n hx hb dX7_areLike_9 rfl (lv_at hl 0 rfl) ?_
    refine lv_iload_n hx hb dX7_areLike_10 rfl (lv_at hl 2 rfl) ?_
    refine lv_iload_n hx hb dX7_areLike_11 rfl (lv_at hl 1 rfl) ?_
    obtain ⟨r3, e3, hs⟩ := Option.bind_eq_some_iff.mp hs
    refine cV_roi (As := [.int p2, .int p1]) (rest := []) hC (m_X7_isUnder l g b st p2 p1 r3 e3) (kv_of hB bw_27_9 bw_27_7 bw_27_8 bw_1_5 kd_X7_isUnder bw_27_6 rfl rfl ⟨Nat.le_of_ble_eq_true rfl, Nat.le_of_ble_eq_true rfl⟩) hK hP hP hS (mW_0 g b st) rfl rfl hl.1 rfl (Nat.le_of_ble_eq_true rfl) dX7_areLike_12 ⟨Nat.zero_le _, Nat.zero_le _⟩ (fun H locs hP hS => ?_)
    refine lv_if_eq (tgt := 22) hx hb dX7_areLike_15 (by decide) (fun c4 => ?_) (fun c4 => ?_)
    · have hs := ifp c4 hs
      refine lv_iconst (v := 0) hx hb dX7_areLike_22 (by decide) ?_
      cases hs
      exact ret_roz hx hb hr (zn_of (Or.inl rfl)) hlk hS dX7_areLike_23
    · have hs := ifn c4 hs
      refine lv_iconst (v := 1) hx hb dX7_areLike_18 (by decide) ?_
      refine lv_goto (tgt := 23) hx hb dX7_areLike_19 (by decide) ?_
      cases hs
      exact ret_roz hx hb hr (zn_of (Or.inr rfl)) hlk hS dX7_areLike_23
noncomputable def f_X7_under (st : MS) (p1 : Int32) (p2 : Int32) : Option Int32 :=
  (if (st 11 0) = 0 then some ((-103 : Int32)) else (Option.bind (f_X7_isPlain st p1) (fun r2 => (if r2 = 0 then some ((-101 : Int32)) else (Option.bind (f_X7_isPlain st p2) (fun r4 => (if r4 = 0 then some ((-101 : Int32)) else (Option.bind (f_X7_isUnder st p1 p2) (fun r6 => (if r6 = 0 then some ((0 : Int32)) else some ((1 : Int32))))))))))))
set_option maxHeartbeats 4000000 in
set_option maxRecDepth 100000 in
theorem m_X7_under (l : Launch) (g : GG) (b : Nat → Nat) (st : MS) (p1 : Int32) (p2 : Int32) (res : Int32) (hs : f_X7_under st p1 p2 = some res) : Met l yX7_under (Cond.code yX7_under cX7_under 3 (some .int) :: BIG) ({ frames := 3, cells := 0, slots := 0, locals := 64 } : Room) (va_Pc [.ref (b 0), .int p1, .int p2] (ROp g (mW g b st))) (ROi res) 0 0 (fun _ => False) := by
  refine ro_start (cc := cX7_under) (maxL := 3) (ret := (some .int)) (lv := [(0, .ref (b 0)), (1, .int p1), (2, .int p2)]) (by decide) rfl (Nat.le_of_ble_eq_true rfl) rfl ?_
  intro p e s m args below meth c hx hb hml hr hts hown hlk hK H locs hP hS ls hl
  have hB : ∀ w ∈ BIG, w.before args s = true := fun w h => hts w (List.mem_cons_of_mem _ h)
  have hC : CallFix p m c cX7_under 3 s args BIG RX7 := ⟨hx, hb, hml, hown, hB⟩
  unfold f_X7_under at hs
  refine lv_aload_n hx hb dX7_under_0 rfl (lv_at hl 0 rfl) ?_
  refine mg_11 hx hb hB hown hK hP dX7_under_1 ?_
  refine lv_if_ne (tgt := 10) hx hb dX7_under_4 (by decide) (fun c1 => ?_) (fun c1 => ?_)
  · have hs := ifn c1 hs
    refine lv_aload_n hx hb dX7_under_10 rfl (lv_at hl 0 rfl) ?_
    refine lv_iload_n hx hb dX7_under_11 rfl (lv_at hl 1 rfl) ?_
    obtain ⟨r2, e2, hs⟩ := Option.bind_eq_some_iff.mp hs
    refine cV_roi (As := [.int p1]) (rest := []) hC (m_X7_isPlain l g b st p1 r2 e2) (kv_of hB bw_27_5 bw_27_3 bw_27_4 bw_1_5 kd_X7_isPlain bw_27_2 rfl rfl ⟨Nat.le_of_ble_eq_true rfl, Nat.le_of_ble_eq_true rfl⟩) hK hP hP hS (mW_0 g b st) rfl rfl hl.1 rfl (Nat.le_of_ble_eq_true rfl) dX7_under_12 ⟨Nat.zero_le _, Nat.zero_le _⟩ (fun H locs hP hS => ?_)
    refine lv_if_eq (tgt := 26) hx hb dX7_under_15 (by decide) (fun c3 => ?_) (fun c3 => ?_)
    · have hs := ifp c3 hs
      refine lv_bipush (v := -101) hx hb dX7_under_26 (by decide) ?_
      cases hs
      exact ret_roi hx hb hr hlk hS dX7_under_28
    · have hs := ifn c3 hs
      refine lv_aload_n hx hb dX7_under_18 rfl (lv_at hl 0 rfl) ?_
      refine lv_iload_n hx hb dX7_under_19 rfl (lv_at hl 2 rfl) ?_
      obtain ⟨r4, e4, hs⟩ := Option.bind_eq_some_iff.mp hs
      refine cV_roi (As := [.int p2]) (rest := []) hC (m_X7_isPlain l g b st p2 r4 e4) (kv_of hB bw_27_5 bw_27_3 bw_27_4 bw_1_5 kd_X7_isPlain bw_27_2 rfl rfl ⟨Nat.le_of_ble_eq_true rfl, Nat.le_of_ble_eq_true rfl⟩) hK hP hP hS (mW_0 g b st) rfl rfl hl.1 rfl (Nat.le_of_ble_eq_true rfl) dX7_under_20 ⟨Nat.zero_le _, Nat.zero_le _⟩ (fun H locs hP hS => ?_)
      refine lv_if_ne (tgt := 29) hx hb dX7_under_23 (by decide) (fun c5 => ?_) (fun c5 => ?_)
      · have hs := ifn c5 hs
        refine lv_aload_n hx hb dX7_under_29 rfl (lv_at hl 0 rfl) ?_
        refine lv_iload_n hx hb dX7_under_30 rfl (lv_at hl 1 rfl) ?_
        refine lv_iload_n hx hb dX7_under_31 rfl (lv_at hl 2 rfl) ?_
        obtain ⟨r6, e6, hs⟩ := Option.bind_eq_some_iff.mp hs
        refine cV_roi (As := [.int p1, .int p2]) (rest := []) hC (m_X7_isUnder l g b st p1 p2 r6 e6) (kv_of hB bw_27_9 bw_27_7 bw_27_8 bw_1_5 kd_X7_isUnder bw_27_6 rfl rfl ⟨Nat.le_of_ble_eq_true rfl, Nat.le_of_ble_eq_true rfl⟩) hK hP hP hS (mW_0 g b st) rfl rfl hl.1 rfl (Nat.le_of_ble_eq_true rfl) dX7_under_32 ⟨Nat.zero_le _, Nat.zero_le _⟩ (fun H locs hP hS => ?_)
        refine lv_if_eq (tgt := 42) hx hb dX7_under_35 (by decide) (fun c7 => ?_) (fun c7 => ?_)
        · have hs := ifp c7 hs
          refine lv_iconst (v := 0) hx hb dX7_under_42 (by decide) ?_
          cases hs
          exact ret_roi hx hb hr hlk hS dX7_under_43
        · have hs := ifn c7 hs
          refine lv_iconst (v := 1) hx hb dX7_under_38 (by decide) ?_
          refine lv_goto (tgt := 43) hx hb dX7_under_39 (by decide) ?_
          cases hs
          exact ret_roi hx hb hr hlk hS dX7_under_43
      · have hs := ifp c5 hs
        refine lv_bipush (v := -101) hx hb dX7_under_26 (by decide) ?_
        cases hs
        exact ret_roi hx hb hr hlk hS dX7_under_28
  · have hs := ifp c1 hs
    refine lv_bipush (v := -103) hx hb dX7_under_7 (by decide) ?_
    cases hs
    exact ret_roi hx hb hr hlk hS dX7_under_9
noncomputable def b_X7_leastLike_2 (st : MS) (c2_1 : Int32) (v2_2 : Int32) : Option (Int32 ⊕ Int32) :=
  (Option.bind (f_X7_isPlain st v2_2) (fun r1 => (if r1 = 0 then some (Sum.inl (v2_2 + 1)) else (Option.bind (f_X7_areLike st c2_1 v2_2) (fun r3 => (if r3 = 0 then some (Sum.inl (v2_2 + 1)) else some (Sum.inr (v2_2))))))))
noncomputable def f_X7_leastLike (st : MS) (p1 : Int32) : Option Int32 :=
  (loopC (fun v => b_X7_leastLike_2 st p1 v) (0 : Int32))
set_option maxHeartbeats 4000000 in
set_option maxRecDepth 100000 in
theorem m_X7_leastLike (l : Launch) (g : GG) (b : Nat → Nat) (st : MS) (p1 : Int32) (res : Int32) (hs : f_X7_leastLike st p1 = some res) : Met l yX7_leastLike (Cond.code yX7_leastLike cX7_leastLike 3 (some .int) :: BIG) ({ frames := 3, cells := 0, slots := 0, locals := 64 } : Room) (va_Pc [.ref (b 0), .int p1] (ROp g (mW g b st))) (ROi res) 0 0 (fun _ => False) := by
  refine ro_start (cc := cX7_leastLike) (maxL := 3) (ret := (some .int)) (lv := [(0, .ref (b 0)), (1, .int p1)]) (by decide) rfl (Nat.le_of_ble_eq_true rfl) rfl ?_
  intro p e s m args below meth c hx hb hml hr hts hown hlk hK H locs hP hS ls hl
  have hB : ∀ w ∈ BIG, w.before args s = true := fun w h => hts w (List.mem_cons_of_mem _ h)
  have hC : CallFix p m c cX7_leastLike 3 s args BIG RX7 := ⟨hx, hb, hml, hown, hB⟩
  unfold f_X7_leastLike at hs
  refine lv_iconst (v := 0) hx hb dX7_leastLike_0 (by decide) ?_
  refine lv_istore_n (lv' := [(2, .int (0 : Int32)), (0, .ref (b 0)), (1, .int p1)]) hx hb dX7_leastLike_1 rfl hl (by decide) rfl (fun ls hl => ?_)
  obtain ⟨n2, hs⟩ := loopC_iter hs
  have L2 : ∀ (n : Nat) (v2_2 : Int32), iterO (fun v => b_X7_leastLike_2 st p1 v) n v2_2 = some res → ∀ (H : Heap) (locs : List Loc), va_P g.1 vwCl (mW g b st) H → va_S (fun _ => False) s.heap H locs → ∀ ls : Array Slot, lv_has ls 3 [(0, .ref (b 0)), (1, .int p1), (2, .int v2_2)] → W p l e ({ frames := 3, cells := 0, slots := 0, locals := 64 } : Room) s m args below meth c H locs 0 0 (MQ below (ROi res) args s 0 0 (fun _ => False)) (F0 m 2 ls []) := by
    intro n
    induction n with
    | zero => intro v2_2 hs; exact (iterO_zero hs).elim
    | succ n ih2 =>
      intro v2_2 hs H locs hP hS ls hl
      obtain ⟨y2, hs, hk2⟩ := iterO_succ hs
      have hs : b_X7_leastLike_2 st p1 v2_2 = some y2 := hs
      unfold b_X7_leastLike_2 at hs
      refine lv_aload_n hx hb dX7_leastLike_2 rfl (lv_at hl 0 rfl) ?_
      refine lv_iload_n hx hb dX7_leastLike_3 rfl (lv_at hl 2 rfl) ?_
      obtain ⟨r1, e1, hs⟩ := Option.bind_eq_some_iff.mp hs
      refine cV_roi (As := [.int v2_2]) (rest := []) hC (m_X7_isPlain l g b st v2_2 r1 e1) (kv_of hB bw_27_5 bw_27_3 bw_27_4 bw_1_5 kd_X7_isPlain bw_27_2 rfl rfl ⟨Nat.le_of_ble_eq_true rfl, Nat.le_of_ble_eq_true rfl⟩) hK hP hP hS (mW_0 g b st) rfl rfl hl.1 rfl (Nat.le_of_ble_eq_true rfl) dX7_leastLike_4 ⟨Nat.zero_le _, Nat.zero_le _⟩ (fun H locs hP hS => ?_)
      refine lv_if_eq (tgt := 19) hx hb dX7_leastLike_7 (by decide) (fun c2 => ?_) (fun c2 => ?_)
      · have hs := ifp c2 hs
        refine lv_iinc (v := (v2_2 + 1)) (lv' := [(2, .int (v2_2 + 1)), (0, .ref (b 0)), (1, .int p1)]) hx hb dX7_leastLike_19 hl (k := 2) rfl (by rfl) (by decide) rfl (fun ls hl => ?_)
        refine lv_goto (tgt := 2) hx hb dX7_leastLike_22 (by decide) ?_
        cases hs
        exact ih2 (v2_2 + 1) hk2 _ _ hP hS _ (lv_sub hl [1, 2, 0] rfl)
      · have hs := ifn c2 hs
        refine lv_aload_n hx hb dX7_leastLike_10 rfl (lv_at hl 0 rfl) ?_
        refine lv_iload_n hx hb dX7_leastLike_11 rfl (lv_at hl 1 rfl) ?_
        refine lv_iload_n hx hb dX7_leastLike_12 rfl (lv_at hl 2 rfl) ?_
        obtain ⟨r3, e3, hs⟩ := Option.bind_eq_some_iff.mp hs
        refine cV_roi (As := [.int p1, .int v2_2]) (rest := []) hC (m_X7_areLike l g b st p1 v2_2 r3 e3) (kv_of hB bw_28_9 bw_28_7 bw_28_8 bw_1_5 kd_X7_areLike bw_28_6 rfl rfl ⟨Nat.le_of_ble_eq_true rfl, Nat.le_of_ble_eq_true rfl⟩) hK hP hP hS (mW_0 g b st) rfl rfl hl.1 rfl (Nat.le_of_ble_eq_true rfl) dX7_leastLike_13 ⟨Nat.zero_le _, Nat.zero_le _⟩ (fun H locs hP hS => ?_)
        refine lv_if_ne (tgt := 25) hx hb dX7_leastLike_16 (by decide) (fun c4 => ?_) (fun c4 => ?_)
        · have hs := ifn c4 hs
          refine lv_iload_n hx hb dX7_leastLike_25 rfl (lv_at hl 2 rfl) ?_
          cases hs
          cases elim_inr hk2
          exact ret_roi hx hb hr hlk hS dX7_leastLike_26
        · have hs := ifp c4 hs
          refine lv_iinc (v := (v2_2 + 1)) (lv' := [(2, .int (v2_2 + 1)), (0, .ref (b 0)), (1, .int p1)]) hx hb dX7_leastLike_19 hl (k := 2) rfl (by rfl) (by decide) rfl (fun ls hl => ?_)
          refine lv_goto (tgt := 2) hx hb dX7_leastLike_22 (by decide) ?_
          cases hs
          exact ih2 (v2_2 + 1) hk2 _ _ hP hS _ (lv_sub hl [1, 2, 0] rfl)
  exact L2 n2 (0 : Int32) hs _ _ hP hS _ (lv_sub hl [1, 2, 0] rfl)
noncomputable def f_X7_like (st : MS) (p1 : Int32) : Option Int32 :=
  (if (st 11 0) = 0 then some ((-103 : Int32)) else (Option.bind (f_X7_isPlain st p1) (fun r2 => (if r2 = 0 then some ((-101 : Int32)) else (Option.bind (f_X7_leastLike st p1) (fun r4 => some (r4)))))))
set_option maxHeartbeats 4000000 in
set_option maxRecDepth 100000 in
theorem m_X7_like (l : Launch) (g : GG) (b : Nat → Nat) (st : MS) (p1 : Int32) (res : Int32) (hs : f_X7_like st p1 = some res) : Met l yX7_like (Cond.code yX7_like cX7_like 2 (some .int) :: BIG) ({ frames := 4, cells := 0, slots := 0, locals := 86 } : Room) (va_Pc [.ref (b 0), .int p1] (ROp g (mW g b st))) (ROi res) 0 0 (fun _ => False) := by
  refine ro_start (cc := cX7_like) (maxL := 2) (ret := (some .int)) (lv := [(0, .ref (b 0)), (1, .int p1)]) (by decide) rfl (Nat.le_of_ble_eq_true rfl) rfl ?_
  intro p e s m args below meth c hx hb hml hr hts hown hlk hK H locs hP hS ls hl
  have hB : ∀ w ∈ BIG, w.before args s = true := fun w h => hts w (List.mem_cons_of_mem _ h)
  have hC : CallFix p m c cX7_like 2 s args BIG RX7 := ⟨hx, hb, hml, hown, hB⟩
  unfold f_X7_like at hs
  refine lv_aload_n hx hb dX7_like_0 rfl (lv_at hl 0 rfl) ?_
  refine mg_11 hx hb hB hown hK hP dX7_like_1 ?_
  refine lv_if_ne (tgt := 10) hx hb dX7_like_4 (by decide) (fun c1 => ?_) (fun c1 => ?_)
  · have hs := ifn c1 hs
    refine lv_aload_n hx hb dX7_like_10 rfl (lv_at hl 0 rfl) ?_
    refine lv_iload_n hx hb dX7_like_11 rfl (lv_at hl 1 rfl) ?_
    obtain ⟨r2, e2, hs⟩ := Option.bind_eq_some_iff.mp hs
    refine cV_roi (As := [.int p1]) (rest := []) hC (m_X7_isPlain l g b st p1 r2 e2) (kv_of hB bw_27_5 bw_27_3 bw_27_4 bw_1_5 kd_X7_isPlain bw_27_2 rfl rfl ⟨Nat.le_of_ble_eq_true rfl, Nat.le_of_ble_eq_true rfl⟩) hK hP hP hS (mW_0 g b st) rfl rfl hl.1 rfl (Nat.le_of_ble_eq_true rfl) dX7_like_12 ⟨Nat.zero_le _, Nat.zero_le _⟩ (fun H locs hP hS => ?_)
    refine lv_if_eq (tgt := 26) hx hb dX7_like_15 (by decide) (fun c3 => ?_) (fun c3 => ?_)
    · have hs := ifp c3 hs
      refine lv_bipush (v := -101) hx hb dX7_like_26 (by decide) ?_
      cases hs
      exact ret_roi hx hb hr hlk hS dX7_like_28
    · have hs := ifn c3 hs
      refine lv_aload_n hx hb dX7_like_18 rfl (lv_at hl 0 rfl) ?_
      refine lv_iload_n hx hb dX7_like_19 rfl (lv_at hl 1 rfl) ?_
      obtain ⟨r4, e4, hs⟩ := Option.bind_eq_some_iff.mp hs
      refine cV_roi (As := [.int p1]) (rest := []) hC (m_X7_leastLike l g b st p1 r4 e4) (kv_of hB bw_28_5 bw_28_3 bw_28_4 bw_1_5 kd_X7_leastLike bw_28_2 rfl rfl ⟨Nat.le_of_ble_eq_true rfl, Nat.le_of_ble_eq_true rfl⟩) hK hP hP hS (mW_0 g b st) rfl rfl hl.1 rfl (Nat.le_of_ble_eq_true rfl) dX7_like_20 ⟨Nat.zero_le _, Nat.zero_le _⟩ (fun H locs hP hS => ?_)
      refine lv_goto (tgt := 28) hx hb dX7_like_23 (by decide) ?_
      cases hs
      exact ret_roi hx hb hr hlk hS dX7_like_28
  · have hs := ifp c1 hs
    refine lv_bipush (v := -103) hx hb dX7_like_7 (by decide) ?_
    cases hs
    exact ret_roi hx hb hr hlk hS dX7_like_9
