def t_X7_in (p0 : Int32) (p1 : Int32) (p2 : Int32) : Int32 :=
  (if p0 < p1 then (0 : Int32) else (if p2 < p0 then (0 : Int32) else (1 : Int32)))
theorem z_X7_in (p0 : Int32) (p1 : Int32) (p2 : Int32) : t_X7_in p0 p1 p2 = 0 ∨ t_X7_in p0 p1 p2 = 1 := by
  unfold t_X7_in
  (repeat' split) <;> first | exact Or.inl rfl | exact Or.inr rfl
set_option maxHeartbeats 4000000 in
set_option maxRecDepth 100000 in
theorem m_X7_in (l : Launch) (g : GG) (w : va_W) (p0 : Int32) (p1 : Int32) (p2 : Int32) : Met l yX7_in (Cond.code yX7_in cX7_in 3 (some .boolean) :: BIG) ({ frames := 0, cells := 0, slots := 0, locals := 0 } : Room) (va_Pc [.int p0, .int p1, .int p2] (ROp g w)) (ROi (t_X7_in p0 p1 p2)) 0 0 (fun _ => False) := by
  obtain ⟨res, hs⟩ : ∃ z, t_X7_in p0 p1 p2 = z := ⟨_, rfl⟩
  rw [hs]
  refine ro_start (cc := cX7_in) (maxL := 3) (ret := (some .boolean)) (lv := [(0, .int p0), (1, .int p1), (2, .int p2)]) (by decide) rfl (Nat.le_of_ble_eq_true rfl) rfl ?_
  intro p e s m args below meth c hx hb hml hr hts hown hlk hK H locs hP hS ls hl
  have hB : ∀ w ∈ BIG, w.before args s = true := fun w h => hts w (List.mem_cons_of_mem _ h)
  have hC : CallFix p m c cX7_in 3 s args BIG RX7 := ⟨hx, hb, hml, hown, hB⟩
  unfold t_X7_in at hs
  refine lv_iload_n hx hb dX7_in_0 rfl (lv_at hl 0 rfl) ?_
  refine lv_iload_n hx hb dX7_in_1 rfl (lv_at hl 1 rfl) ?_
  refine lv_icmp_lt (tgt := 14) hx hb dX7_in_2 (by decide) (fun c1 => ?_) (fun c1 => ?_)
  · have hs := ifp c1 hs
    refine lv_iconst (v := 0) hx hb dX7_in_14 (by decide) ?_
    subst hs
    exact ret_roz hx hb hr (zn_of (Or.inl rfl)) hlk hS dX7_in_15
  · have hs := ifn c1 hs
    refine lv_iload_n hx hb dX7_in_5 rfl (lv_at hl 0 rfl) ?_
    refine lv_iload_n hx hb dX7_in_6 rfl (lv_at hl 2 rfl) ?_
    refine lv_icmp_gt (tgt := 14) hx hb dX7_in_7 (by decide) (fun c2 => ?_) (fun c2 => ?_)
    · have hs := ifp c2 hs
      refine lv_iconst (v := 0) hx hb dX7_in_14 (by decide) ?_
      subst hs
      exact ret_roz hx hb hr (zn_of (Or.inl rfl)) hlk hS dX7_in_15
    · have hs := ifn c2 hs
      refine lv_iconst (v := 1) hx hb dX7_in_10 (by decide) ?_
      refine lv_goto (tgt := 15) hx hb dX7_in_11 (by decide) ?_
      subst hs
      exact ret_roz hx hb hr (zn_of (Or.inr rfl)) hlk hS dX7_in_15
def t_X7_isNotion (st : MS) (p1 : Int32) : Int32 :=
  (t_X7_in p1 (0 : Int32) ((st 0 0) - (1 : Int32)))
theorem z_X7_isNotion (st : MS) (p1 : Int32) : t_X7_isNotion st p1 = 0 ∨ t_X7_isNotion st p1 = 1 := by
  unfold t_X7_isNotion
  (repeat' split) <;> first | exact Or.inl rfl | exact Or.inr rfl | exact z_X7_in _ _ _
set_option maxHeartbeats 4000000 in
set_option maxRecDepth 100000 in
theorem m_X7_isNotion (l : Launch) (g : GG) (b : Nat → Nat) (st : MS) (p1 : Int32) : Met l yX7_isNotion (Cond.code yX7_isNotion cX7_isNotion 2 (some .boolean) :: BIG) ({ frames := 1, cells := 0, slots := 0, locals := 22 } : Room) (va_Pc [.ref (b 0), .int p1] (ROp g (mW g b st))) (ROi (t_X7_isNotion st p1)) 0 0 (fun _ => False) := by
  obtain ⟨res, hs⟩ : ∃ z, t_X7_isNotion st p1 = z := ⟨_, rfl⟩
  rw [hs]
  refine ro_start (cc := cX7_isNotion) (maxL := 2) (ret := (some .boolean)) (lv := [(0, .ref (b 0)), (1, .int p1)]) (by decide) rfl (Nat.le_of_ble_eq_true rfl) rfl ?_
  intro p e s m args below meth c hx hb hml hr hts hown hlk hK H locs hP hS ls hl
  have hB : ∀ w ∈ BIG, w.before args s = true := fun w h => hts w (List.mem_cons_of_mem _ h)
  have hC : CallFix p m c cX7_isNotion 2 s args BIG RX7 := ⟨hx, hb, hml, hown, hB⟩
  unfold t_X7_isNotion at hs
  refine lv_iload_n hx hb dX7_isNotion_0 rfl (lv_at hl 1 rfl) ?_
  refine lv_iconst (v := 0) hx hb dX7_isNotion_1 (by decide) ?_
  refine lv_aload_n hx hb dX7_isNotion_2 rfl (lv_at hl 0 rfl) ?_
  refine mg_0 hx hb hB hown hK hP dX7_isNotion_3 ?_
  refine lv_iconst (v := 1) hx hb dX7_isNotion_6 (by decide) ?_
  refine lv_isub hx hb dX7_isNotion_7 ?_
  refine cS_roi (As := [.int p1, .int (0 : Int32), .int ((st 0 0) - (1 : Int32))]) (rest := []) hC (m_X7_in l g (mW g b st) p1 (0 : Int32) ((st 0 0) - (1 : Int32))) (ks_of hB bw_8_19 bw_8_18 bw_1_5 kd_X7_in bw_8_17 rfl rfl ⟨Nat.le_of_ble_eq_true rfl, Nat.le_of_ble_eq_true rfl⟩) hK hP hP hS rfl hl.1 rfl (Nat.le_of_ble_eq_true rfl) dX7_isNotion_8 ⟨Nat.zero_le _, Nat.zero_le _⟩ (fun H locs hP hS => ?_)
  subst hs
  exact ret_roz hx hb hr (zn_of (z_X7_in _ _ _)) hlk hS dX7_isNotion_11
def t_X7_isRole (p0 : Int32) : Int32 :=
  (t_X7_in p0 (0 : Int32) (3 : Int32))
theorem z_X7_isRole (p0 : Int32) : t_X7_isRole p0 = 0 ∨ t_X7_isRole p0 = 1 := by
  unfold t_X7_isRole
  (repeat' split) <;> first | exact Or.inl rfl | exact Or.inr rfl | exact z_X7_in _ _ _
set_option maxHeartbeats 4000000 in
set_option maxRecDepth 100000 in
theorem m_X7_isRole (l : Launch) (g : GG) (w : va_W) (p0 : Int32) : Met l yX7_isRole (Cond.code yX7_isRole cX7_isRole 1 (some .boolean) :: BIG) ({ frames := 1, cells := 0, slots := 0, locals := 22 } : Room) (va_Pc [.int p0] (ROp g w)) (ROi (t_X7_isRole p0)) 0 0 (fun _ => False) := by
  obtain ⟨res, hs⟩ : ∃ z, t_X7_isRole p0 = z := ⟨_, rfl⟩
  rw [hs]
  refine ro_start (cc := cX7_isRole) (maxL := 1) (ret := (some .boolean)) (lv := [(0, .int p0)]) (by decide) rfl (Nat.le_of_ble_eq_true rfl) rfl ?_
  intro p e s m args below meth c hx hb hml hr hts hown hlk hK H locs hP hS ls hl
  have hB : ∀ w ∈ BIG, w.before args s = true := fun w h => hts w (List.mem_cons_of_mem _ h)
  have hC : CallFix p m c cX7_isRole 1 s args BIG RX7 := ⟨hx, hb, hml, hown, hB⟩
  unfold t_X7_isRole at hs
  refine lv_iload_n hx hb dX7_isRole_0 rfl (lv_at hl 0 rfl) ?_
  refine lv_iconst (v := 0) hx hb dX7_isRole_1 (by decide) ?_
  refine lv_iconst (v := 3) hx hb dX7_isRole_2 (by decide) ?_
  refine cS_roi (As := [.int p0, .int (0 : Int32), .int (3 : Int32)]) (rest := []) hC (m_X7_in l g w p0 (0 : Int32) (3 : Int32)) (ks_of hB bw_8_19 bw_8_18 bw_1_5 kd_X7_in bw_8_17 rfl rfl ⟨Nat.le_of_ble_eq_true rfl, Nat.le_of_ble_eq_true rfl⟩) hK hP hP hS rfl hl.1 rfl (Nat.le_of_ble_eq_true rfl) dX7_isRole_3 ⟨Nat.zero_le _, Nat.zero_le _⟩ (fun H locs hP hS => ?_)
  subst hs
  exact ret_roz hx hb hr (zn_of (z_X7_in _ _ _)) hlk hS dX7_isRole_6
noncomputable def b_X7_found_3 (st : MS) (c3_1 : Int32) (c3_2 : Int32) (c3_3 : Int32) (v3_4 : Int32) : Option (Int32 ⊕ Int32) :=
  (if (st 0 0) ≤ v3_4 then some (Sum.inr ((-1 : Int32))) else (Option.bind (rd 28 (st 2) v3_4) (fun r2 => (if r2 = c3_1 then (Option.bind (rd 28 (st 3) v3_4) (fun r4 => (if r4 = c3_2 then (Option.bind (rd 28 (st 4) v3_4) (fun r6 => (if r6 = c3_3 then some (Sum.inr (v3_4)) else some (Sum.inl (v3_4 + 1))))) else some (Sum.inl (v3_4 + 1))))) else some (Sum.inl (v3_4 + 1))))))
noncomputable def f_X7_found (st : MS) (p1 : Int32) (p2 : Int32) (p3 : Int32) : Option Int32 :=
  (loopC (fun v => b_X7_found_3 st p1 p2 p3 v) (0 : Int32))
set_option maxHeartbeats 4000000 in
set_option maxRecDepth 100000 in
theorem m_X7_found (l : Launch) (g : GG) (b : Nat → Nat) (st : MS) (p1 : Int32) (p2 : Int32) (p3 : Int32) (res : Int32) (hs : f_X7_found st p1 p2 p3 = some res) : Met l yX7_found (Cond.code yX7_found cX7_found 5 (some .int) :: BIG) ({ frames := 0, cells := 0, slots := 0, locals := 0 } : Room) (va_Pc [.ref (b 0), .int p1, .int p2, .int p3] (ROp g (mW g b st))) (ROi res) 0 0 (fun _ => False) := by
  refine ro_start (cc := cX7_found) (maxL := 5) (ret := (some .int)) (lv := [(0, .ref (b 0)), (1, .int p1), (2, .int p2), (3, .int p3)]) (by decide) rfl (Nat.le_of_ble_eq_true rfl) rfl ?_
  intro p e s m args below meth c hx hb hml hr hts hown hlk hK H locs hP hS ls hl
  have hB : ∀ w ∈ BIG, w.before args s = true := fun w h => hts w (List.mem_cons_of_mem _ h)
  have hC : CallFix p m c cX7_found 5 s args BIG RX7 := ⟨hx, hb, hml, hown, hB⟩
  unfold f_X7_found at hs
  refine lv_iconst (v := 0) hx hb dX7_found_0 (by decide) ?_
  refine lv_istore (lv' := [(4, .int (0 : Int32)), (0, .ref (b 0)), (1, .int p1), (2, .int p2), (3, .int p3)]) hx hb dX7_found_1 hl (by decide) rfl (fun ls hl => ?_)
  obtain ⟨n3, hs⟩ := loopC_iter hs
  have L3 : ∀ (n : Nat) (v3_4 : Int32), iterO (fun v => b_X7_found_3 st p1 p2 p3 v) n v3_4 = some res → ∀ (H : Heap) (locs : List Loc), va_P g.1 vwCl (mW g b st) H → va_S (fun _ => False) s.heap H locs → ∀ ls : Array Slot, lv_has ls 5 [(0, .ref (b 0)), (1, .int p1), (2, .int p2), (3, .int p3), (4, .int v3_4)] → W p l e ({ frames := 0, cells := 0, slots := 0, locals := 0 } : Room) s m args below meth c H locs 0 0 (MQ below (ROi res) args s 0 0 (fun _ => False)) (F0 m 3 ls []) := by
    intro n
    induction n with
    | zero => intro v3_4 hs; exact (iterO_zero hs).elim
    | succ n ih3 =>
      intro v3_4 hs H locs hP hS ls hl
      obtain ⟨y3, hs, hk3⟩ := iterO_succ hs
      have hs : b_X7_found_3 st p1 p2 p3 v3_4 = some y3 := hs
      unfold b_X7_found_3 at hs
      refine lv_iload hx hb dX7_found_3 (lv_at hl 4 rfl) ?_
      refine lv_aload_n hx hb dX7_found_5 rfl (lv_at hl 0 rfl) ?_
      refine mg_0 hx hb hB hown hK hP dX7_found_6 ?_
      refine lv_icmp_ge (tgt := 54) hx hb dX7_found_9 (by decide) (fun c1 => ?_) (fun c1 => ?_)
      · have hs := ifp c1 hs
        refine lv_iconst (v := -1) hx hb dX7_found_54 (by decide) ?_
        cases hs
        cases elim_inr hk3
        exact ret_roi hx hb hr hlk hS dX7_found_55
      · have hs := ifn c1 hs
        refine lv_aload_n hx hb dX7_found_12 rfl (lv_at hl 0 rfl) ?_
        refine mg_2 hx hb hB hown hK hP dX7_found_13 ?_
        refine lv_iload hx hb dX7_found_16 (lv_at hl 4 rfl) ?_
        obtain ⟨r2, e2, hs⟩ := Option.bind_eq_some_iff.mp hs
        refine ml_2 hx hb hK hP e2 dX7_found_18 ?_
        refine lv_iload_n hx hb dX7_found_19 rfl (lv_at hl 1 rfl) ?_
        refine lv_icmp_ne (tgt := 48) hx hb dX7_found_20 (by decide) (fun c3 => ?_) (fun c3 => ?_)
        · have hs := ifn c3 hs
          refine lv_iinc (v := (v3_4 + 1)) (lv' := [(4, .int (v3_4 + 1)), (0, .ref (b 0)), (1, .int p1), (2, .int p2), (3, .int p3)]) hx hb dX7_found_48 hl (k := 4) rfl (by rfl) (by decide) rfl (fun ls hl => ?_)
          refine lv_goto (tgt := 3) hx hb dX7_found_51 (by decide) ?_
          cases hs
          exact ih3 (v3_4 + 1) hk3 _ _ hP hS _ (lv_sub hl [1, 2, 3, 4, 0] rfl)
        · have hs := ifp c3 hs
          refine lv_aload_n hx hb dX7_found_23 rfl (lv_at hl 0 rfl) ?_
          refine mg_3 hx hb hB hown hK hP dX7_found_24 ?_
          refine lv_iload hx hb dX7_found_27 (lv_at hl 4 rfl) ?_
          obtain ⟨r4, e4, hs⟩ := Option.bind_eq_some_iff.mp hs
          refine ml_3 hx hb hK hP e4 dX7_found_29 ?_
          refine lv_iload_n hx hb dX7_found_30 rfl (lv_at hl 2 rfl) ?_
          refine lv_icmp_ne (tgt := 48) hx hb dX7_found_31 (by decide) (fun c5 => ?_) (fun c5 => ?_)
          · have hs := ifn c5 hs
            refine lv_iinc (v := (v3_4 + 1)) (lv' := [(4, .int (v3_4 + 1)), (0, .ref (b 0)), (1, .int p1), (2, .int p2), (3, .int p3)]) hx hb dX7_found_48 hl (k := 4) rfl (by rfl) (by decide) rfl (fun ls hl => ?_)
            refine lv_goto (tgt := 3) hx hb dX7_found_51 (by decide) ?_
            cases hs
            exact ih3 (v3_4 + 1) hk3 _ _ hP hS _ (lv_sub hl [1, 2, 3, 4, 0] rfl)
          · have hs := ifp c5 hs
            refine lv_aload_n hx hb dX7_found_34 rfl (lv_at hl 0 rfl) ?_
            refine mg_4 hx hb hB hown hK hP dX7_found_35 ?_
            refine lv_iload hx hb dX7_found_38 (lv_at hl 4 rfl) ?_
            obtain ⟨r6, e6, hs⟩ := Option.bind_eq_some_iff.mp hs
            refine ml_4 hx hb hK hP e6 dX7_found_40 ?_
            refine lv_iload_n hx hb dX7_found_41 rfl (lv_at hl 3 rfl) ?_
            refine lv_icmp_ne (tgt := 48) hx hb dX7_found_42 (by decide) (fun c7 => ?_) (fun c7 => ?_)
            · have hs := ifn c7 hs
              refine lv_iinc (v := (v3_4 + 1)) (lv' := [(4, .int (v3_4 + 1)), (0, .ref (b 0)), (1, .int p1), (2, .int p2), (3, .int p3)]) hx hb dX7_found_48 hl (k := 4) rfl (by rfl) (by decide) rfl (fun ls hl => ?_)
              refine lv_goto (tgt := 3) hx hb dX7_found_51 (by decide) ?_
              cases hs
              exact ih3 (v3_4 + 1) hk3 _ _ hP hS _ (lv_sub hl [1, 2, 3, 4, 0] rfl)
            · have hs := ifp c7 hs
              refine lv_iload hx hb dX7_found_45 (lv_at hl 4 rfl) ?_
              cases hs
              cases elim_inr hk3
              exact ret_roi hx hb hr hlk hS dX7_found_47
  exact L3 n3 (0 : Int32) hs _ _ hP hS _ (lv_sub hl [1, 2, 3, 4, 0] rfl)
noncomputable def f_X7_made (st : MS) (p1 : Int32) (p2 : Int32) (p3 : Int32) : Option (Int32 × MS) :=
  (Option.bind (mwr st 2 28 (st 0 0) p1) (fun r1 => (Option.bind (mwr r1 3 28 (r1 0 0) p2) (fun r2 => (Option.bind (mwr r2 4 28 (r2 0 0) p3) (fun r3 => (Option.bind (some (mA r3 0 (fun _ => ((r3 0 0) + (1 : Int32))))) (fun r4 => (Option.bind (some (mA r4 11 (fun _ => (0 : Int32)))) (fun r5 => some ((((r5 0 0) - (1 : Int32)), r5))))))))))))
set_option maxHeartbeats 4000000 in
set_option maxRecDepth 100000 in
theorem m_X7_made (l : Launch) (g : GG) (b : Nat → Nat) (st : MS) (sz : Nat) (p1 : Int32) (p2 : Int32) (p3 : Int32) (res : (Int32 × MS)) (hs : f_X7_made st p1 p2 p3 = some res) : Met l yX7_made (Cond.code yX7_made cX7_made 4 (some .int) :: BIG) ({ frames := 0, cells := 0, slots := 0, locals := 0 } : Room) (va_Pc [.ref (b 0), .int p1, .int p2, .int p3] (RWp g (mW g b st) sz)) (RWi res.1 g (mW g b res.2) (va_A (mW g b st) sz)) 0 0 (va_A (mW g b st) sz) := by
  refine rw_start (cc := cX7_made) (maxL := 4) (ret := (some .int)) (lv := [(0, .ref (b 0)), (1, .int p1), (2, .int p2), (3, .int p3)]) (Qc := fun A => (RWi res.1 g (mW g b res.2) A)) (by decide) rfl (Nat.le_of_ble_eq_true rfl) rfl ?_
  intro p e s m args below meth c hx hb hml hr hts hown hlk hK A hD0 hA H locs hP hS ls hl
  have hD : ∀ st' : MS, va_D A (mW g b st') := fun _ => mW_D hD0
  have hB : ∀ w ∈ BIG, w.before args s = true := fun w h => hts w (List.mem_cons_of_mem _ h)
  have hC : CallFix p m c cX7_made 4 s args BIG RX7 := ⟨hx, hb, hml, hown, hB⟩
  unfold f_X7_made at hs
  refine lv_aload_n hx hb dX7_made_0 rfl (lv_at hl 0 rfl) ?_
  refine mg_2 hx hb hB hown hK hP dX7_made_1 ?_
  refine lv_aload_n hx hb dX7_made_4 rfl (lv_at hl 0 rfl) ?_
  refine mg_0 hx hb hB hown hK hP dX7_made_5 ?_
  refine lv_iload_n hx hb dX7_made_8 rfl (lv_at hl 1 rfl) ?_
  obtain ⟨r1, e1, hs⟩ := Option.bind_eq_some_iff.mp hs
  refine ms_2 hx hb hK hP hD hS e1 dX7_made_9 (fun H locs hP hS => ?_)
  refine lv_aload_n hx hb dX7_made_10 rfl (lv_at hl 0 rfl) ?_
  refine mg_3 hx hb hB hown hK hP dX7_made_11 ?_
  refine lv_aload_n hx hb dX7_made_14 rfl (lv_at hl 0 rfl) ?_
  refine mg_0 hx hb hB hown hK hP dX7_made_15 ?_
  refine lv_iload_n hx hb dX7_made_18 rfl (lv_at hl 2 rfl) ?_
  obtain ⟨r2, e2, hs⟩ := Option.bind_eq_some_iff.mp hs
  refine ms_3 hx hb hK hP hD hS e2 dX7_made_19 (fun H locs hP hS => ?_)
  refine lv_aload_n hx hb dX7_made_20 rfl (lv_at hl 0 rfl) ?_
  refine mg_4 hx hb hB hown hK hP dX7_made_21 ?_
  refine lv_aload_n hx hb dX7_made_24 rfl (lv_at hl 0 rfl) ?_
  refine mg_0 hx hb hB hown hK hP dX7_made_25 ?_
  refine lv_iload_n hx hb dX7_made_28 rfl (lv_at hl 3 rfl) ?_
  obtain ⟨r3, e3, hs⟩ := Option.bind_eq_some_iff.mp hs
  refine ms_4 hx hb hK hP hD hS e3 dX7_made_29 (fun H locs hP hS => ?_)
  refine lv_aload_n hx hb dX7_made_30 rfl (lv_at hl 0 rfl) ?_
  refine lv_dup hx hb dX7_made_31 rfl ?_
  refine mg_0 hx hb hB hown hK hP dX7_made_32 ?_
  refine lv_iconst (v := 1) hx hb dX7_made_35 (by decide) ?_
  refine lv_iadd hx hb dX7_made_36 ?_
  obtain ⟨r4, e4, hs⟩ := Option.bind_eq_some_iff.mp hs
  have e4 := Option.some.inj e4
  refine mp_0 hx hb hB hown hK hP hD hS e4 dX7_made_37 (fun H locs hP hS => ?_)
  refine lv_aload_n hx hb dX7_made_40 rfl (lv_at hl 0 rfl) ?_
  refine lv_iconst (v := 0) hx hb dX7_made_41 (by decide) ?_
  obtain ⟨r5, e5, hs⟩ := Option.bind_eq_some_iff.mp hs
  have e5 := Option.some.inj e5
  refine mp_11 hx hb hB hown hK hP hD hS (Or.inl rfl) e5 dX7_made_42 (fun H locs hP hS => ?_)
  refine lv_aload_n hx hb dX7_made_45 rfl (lv_at hl 0 rfl) ?_
  refine mg_0 hx hb hB hown hK hP dX7_made_46 ?_
  refine lv_iconst (v := 1) hx hb dX7_made_49 (by decide) ?_
  refine lv_isub hx hb dX7_made_50 ?_
  cases hs
  exact ret_rwi hx hb hr hlk hP hS dX7_made_51
noncomputable def f_X7_make (st : MS) : Option (Int32 × MS) :=
  (if (st 1 0) = (10 : Int32) then some (((-104 : Int32), st)) else (if (st 0 0) = (20 : Int32) then some (((-104 : Int32), st)) else (Option.bind (some (mA st 1 (fun _ => ((st 1 0) + (1 : Int32))))) (fun r3 => (Option.bind (f_X7_made r3 (2 : Int32) (-1 : Int32) (-1 : Int32)) (fun r4 => some ((r4.1, r4.2))))))))
set_option maxHeartbeats 4000000 in
set_option maxRecDepth 100000 in
theorem m_X7_make (l : Launch) (g : GG) (b : Nat → Nat) (st : MS) (sz : Nat)  (res : (Int32 × MS)) (hs : f_X7_make st = some res) : Met l yX7_make (Cond.code yX7_make cX7_make 1 (some .int) :: BIG) ({ frames := 1, cells := 0, slots := 0, locals := 23 } : Room) (va_Pc [.ref (b 0)] (RWp g (mW g b st) sz)) (RWi res.1 g (mW g b res.2) (va_A (mW g b st) sz)) 0 0 (va_A (mW g b st) sz) := by
  refine rw_start (cc := cX7_make) (maxL := 1) (ret := (some .int)) (lv := [(0, .ref (b 0))]) (Qc := fun A => (RWi res.1 g (mW g b res.2) A)) (by decide) rfl (Nat.le_of_ble_eq_true rfl) rfl ?_
  intro p e s m args below meth c hx hb hml hr hts hown hlk hK A hD0 hA H locs hP hS ls hl
  have hD : ∀ st' : MS, va_D A (mW g b st') := fun _ => mW_D hD0
  have hB : ∀ w ∈ BIG, w.before args s = true := fun w h => hts w (List.mem_cons_of_mem _ h)
  have hC : CallFix p m c cX7_make 1 s args BIG RX7 := ⟨hx, hb, hml, hown, hB⟩
  unfold f_X7_make at hs
  refine lv_aload_n hx hb dX7_make_0 rfl (lv_at hl 0 rfl) ?_
  refine mg_1 hx hb hB hown hK hP dX7_make_1 ?_
  refine lv_bipush (v := 10) hx hb dX7_make_4 (by decide) ?_
  refine lv_icmp_eq (tgt := 18) hx hb dX7_make_6 (by decide) (fun c1 => ?_) (fun c1 => ?_)
  · have hs := ifp c1 hs
    refine lv_bipush (v := -104) hx hb dX7_make_18 (by decide) ?_
    cases hs
    exact ret_rwi hx hb hr hlk hP hS dX7_make_20
  · have hs := ifn c1 hs
    refine lv_aload_n hx hb dX7_make_9 rfl (lv_at hl 0 rfl) ?_
    refine mg_0 hx hb hB hown hK hP dX7_make_10 ?_
    refine lv_bipush (v := 20) hx hb dX7_make_13 (by decide) ?_
    refine lv_icmp_ne (tgt := 21) hx hb dX7_make_15 (by decide) (fun c2 => ?_) (fun c2 => ?_)
    · have hs := ifn c2 hs
      refine lv_aload_n hx hb dX7_make_21 rfl (lv_at hl 0 rfl) ?_
      refine lv_dup hx hb dX7_make_22 rfl ?_
      refine mg_1 hx hb hB hown hK hP dX7_make_23 ?_
      refine lv_iconst (v := 1) hx hb dX7_make_26 (by decide) ?_
      refine lv_iadd hx hb dX7_make_27 ?_
      obtain ⟨r3, e3, hs⟩ := Option.bind_eq_some_iff.mp hs
      have e3 := Option.some.inj e3
      refine mp_1 hx hb hB hown hK hP hD hS e3 dX7_make_28 (fun H locs hP hS => ?_)
      refine lv_aload_n hx hb dX7_make_31 rfl (lv_at hl 0 rfl) ?_
      refine lv_iconst (v := 2) hx hb dX7_make_32 (by decide) ?_
      refine lv_iconst (v := -1) hx hb dX7_make_33 (by decide) ?_
      refine lv_iconst (v := -1) hx hb dX7_make_34 (by decide) ?_
      obtain ⟨r4, e4, hs⟩ := Option.bind_eq_some_iff.mp hs
      refine cV_rwi (As := [.int (2 : Int32), .int (-1 : Int32), .int (-1 : Int32)]) (rest := []) hC (m_X7_made l g b r3 H.size (2 : Int32) (-1 : Int32) (-1 : Int32) r4 e4) (kv_of hB bw_6_12 bw_6_10 bw_6_11 bw_1_5 kd_X7_made bw_6_9 rfl rfl ⟨Nat.le_of_ble_eq_true rfl, Nat.le_of_ble_eq_true rfl⟩) hK hP (hD _) hA hS (mW_0 g b r3) rfl rfl hl.1 rfl (Nat.le_of_ble_eq_true rfl) dX7_make_35 ⟨Nat.zero_le _, Nat.zero_le _⟩ (fun H locs hP hS => ?_)
      cases hs
      exact ret_rwi hx hb hr hlk hP hS dX7_make_38
    · have hs := ifp c2 hs
      refine lv_bipush (v := -104) hx hb dX7_make_18 (by decide) ?_
      cases hs
      exact ret_rwi hx hb hr hlk hP hS dX7_make_20
noncomputable def f_X7_meet (st : MS) (p1 : Int32) (p2 : Int32) : Option (Int32 × MS) :=
  (if (t_X7_isNotion st p1) = 0 then some (((-101 : Int32), st)) else (if (t_X7_isNotion st p2) = 0 then some (((-101 : Int32), st)) else (if p1 = p2 then some ((p1, st)) else (if p2 ≤ p1 then (if p2 ≤ p1 then (Option.bind (f_X7_found st (3 : Int32) p2 p1) (fun r6 => (if r6 = (-1 : Int32) then (if (st 0 0) = (20 : Int32) then some (((-104 : Int32), st)) else (Option.bind (f_X7_made st (3 : Int32) p2 p1) (fun r9 => some ((r9.1, r9.2))))) else some ((r6, st))))) else (Option.bind (f_X7_found st (3 : Int32) p2 p2) (fun r10 => (if r10 = (-1 : Int32) then (if (st 0 0) = (20 : Int32) then some (((-104 : Int32), st)) else (Option.bind (f_X7_made st (3 : Int32) p2 p2) (fun r13 => some ((r13.1, r13.2))))) else some ((r10, st)))))) else (if p2 ≤ p1 then (Option.bind (f_X7_found st (3 : Int32) p1 p1) (fun r15 => (if r15 = (-1 : Int32) then (if (st 0 0) = (20 : Int32) then some (((-104 : Int32), st)) else (Option.bind (f_X7_made st (3 : Int32) p1 p1) (fun r18 => some ((r18.1, r18.2))))) else some ((r15, st))))) else (Option.bind (f_X7_found st (3 : Int32) p1 p2) (fun r19 => (if r19 = (-1 : Int32) then (if (st 0 0) = (20 : Int32) then some (((-104 : Int32), st)) else (Option.bind (f_X7_made st (3 : Int32) p1 p2) (fun r22 => some ((r22.1, r22.2))))) else some ((r19, st))))))))))
set_option maxHeartbeats 4000000 in
set_option maxRecDepth 100000 in
theorem m_X7_meet (l : Launch) (g : GG) (b : Nat → Nat) (st : MS) (sz : Nat) (p1 : Int32) (p2 : Int32) (res : (Int32 × MS)) (hs : f_X7_meet st p1 p2 = some res) : Met l yX7_meet (Cond.code yX7_meet cX7_meet 6 (some .int) :: BIG) ({ frames := 2, cells := 0, slots := 0, locals := 43 } : Room) (va_Pc [.ref (b 0), .int p1, .int p2] (RWp g (mW g b st) sz)) (RWi res.1 g (mW g b res.2) (va_A (mW g b st) sz)) 0 0 (va_A (mW g b st) sz) := by
  refine rw_start (cc := cX7_meet) (maxL := 6) (ret := (some .int)) (lv := [(0, .ref (b 0)), (1, .int p1), (2, .int p2)]) (Qc := fun A => (RWi res.1 g (mW g b res.2) A)) (by decide) rfl (Nat.le_of_ble_eq_true rfl) rfl ?_
  intro p e s m args below meth c hx hb hml hr hts hown hlk hK A hD0 hA H locs hP hS ls hl
  have hD : ∀ st' : MS, va_D A (mW g b st') := fun _ => mW_D hD0
  have hB : ∀ w ∈ BIG, w.before args s = true := fun w h => hts w (List.mem_cons_of_mem _ h)
  have hC : CallFix p m c cX7_meet 6 s args BIG RX7 := ⟨hx, hb, hml, hown, hB⟩
  unfold f_X7_meet at hs
  refine lv_aload_n hx hb dX7_meet_0 rfl (lv_at hl 0 rfl) ?_
  refine lv_iload_n hx hb dX7_meet_1 rfl (lv_at hl 1 rfl) ?_
  refine cV_roi (As := [.int p1]) (rest := []) hC (m_X7_isNotion l g b st p1) (kv_of hB bw_8_16 bw_8_14 bw_8_15 bw_1_5 kd_X7_isNotion bw_8_13 rfl rfl ⟨Nat.le_of_ble_eq_true rfl, Nat.le_of_ble_eq_true rfl⟩) hK hP hP hS (mW_0 g b st) rfl rfl hl.1 rfl (Nat.le_of_ble_eq_true rfl) dX7_meet_2 ⟨Nat.zero_le _, Nat.zero_le _⟩ (fun H locs hP hS => ?_)
  refine lv_if_eq (tgt := 16) hx hb dX7_meet_5 (by decide) (fun c1 => ?_) (fun c1 => ?_)
  · have hs := ifp c1 hs
    refine lv_bipush (v := -101) hx hb dX7_meet_16 (by decide) ?_
    cases hs
    exact ret_rwi hx hb hr hlk hP hS dX7_meet_18
  · have hs := ifn c1 hs
    refine lv_aload_n hx hb dX7_meet_8 rfl (lv_at hl 0 rfl) ?_
    refine lv_iload_n hx hb dX7_meet_9 rfl (lv_at hl 2 rfl) ?_
    refine cV_roi (As := [.int p2]) (rest := []) hC (m_X7_isNotion l g b st p2) (kv_of hB bw_8_16 bw_8_14 bw_8_15 bw_1_5 kd_X7_isNotion bw_8_13 rfl rfl ⟨Nat.le_of_ble_eq_true rfl, Nat.le_of_ble_eq_true rfl⟩) hK hP hP hS (mW_0 g b st) rfl rfl hl.1 rfl (Nat.le_of_ble_eq_true rfl) dX7_meet_10 ⟨Nat.zero_le _, Nat.zero_le _⟩ (fun H locs hP hS => ?_)
    refine lv_if_ne (tgt := 19) hx hb dX7_meet_13 (by decide) (fun c2 => ?_) (fun c2 => ?_)
    · have hs := ifn c2 hs
      refine lv_iload_n hx hb dX7_meet_19 rfl (lv_at hl 1 rfl) ?_
      refine lv_iload_n hx hb dX7_meet_20 rfl (lv_at hl 2 rfl) ?_
      refine lv_icmp_ne (tgt := 26) hx hb dX7_meet_21 (by decide) (fun c3 => ?_) (fun c3 => ?_)
      · have hs := ifn c3 hs
        refine lv_iload_n hx hb dX7_meet_26 rfl (lv_at hl 1 rfl) ?_
        refine lv_iload_n hx hb dX7_meet_27 rfl (lv_at hl 2 rfl) ?_
        refine lv_icmp_ge (tgt := 35) hx hb dX7_meet_28 (by decide) (fun c4 => ?_) (fun c4 => ?_)
        · have hs := ifp c4 hs
          refine lv_iload_n hx hb dX7_meet_35 rfl (lv_at hl 2 rfl) ?_
          refine lv_istore_n (lv' := [(3, .int p2), (0, .ref (b 0)), (1, .int p1), (2, .int p2)]) hx hb dX7_meet_36 rfl hl (by decide) rfl (fun ls hl => ?_)
          refine lv_iload_n hx hb dX7_meet_37 rfl (lv_at hl 2 rfl) ?_
          refine lv_iload_n hx hb dX7_meet_38 rfl (lv_at hl 3 rfl) ?_
          refine lv_icmp_ge (tgt := 46) hx hb dX7_meet_39 (by decide) (fun c5 => ?_) (fun c5 => ?_)
          · have hs := ifp c5 hs
            refine lv_iload_n hx hb dX7_meet_46 rfl (lv_at hl 2 rfl) ?_
            refine lv_istore (lv' := [(4, .int p1), (3, .int p2), (0, .ref (b 0)), (1, .int p1), (2, .int p2)]) hx hb dX7_meet_47 hl (by decide) rfl (fun ls hl => ?_)
            refine lv_aload_n hx hb dX7_meet_49 rfl (lv_at hl 2 rfl) ?_
            refine lv_iconst (v := 3) hx hb dX7_meet_50 (by decide) ?_
            refine lv_iload_n hx hb dX7_meet_51 rfl (lv_at hl 1 rfl) ?_
            refine lv_iload hx hb dX7_meet_52 (lv_at hl 0 rfl) ?_
            obtain ⟨r6, e6, hs⟩ := Option.bind_eq_some_iff.mp hs
            refine cV_roi (As := [.int (3 : Int32), .int p2, .int p1]) (rest := []) hC (m_X7_found l g b st (3 : Int32) p2 p1 r6 e6) (kv_of hB bw_8_23 bw_8_21 bw_8_22 bw_1_5 kd_X7_found bw_8_20 rfl rfl ⟨Nat.le_of_ble_eq_true rfl, Nat.le_of_ble_eq_true rfl⟩) hK hP hP hS (mW_0 g b st) rfl rfl hl.1 rfl (Nat.le_of_ble_eq_true rfl) dX7_meet_54 ⟨Nat.zero_le _, Nat.zero_le _⟩ (fun H locs hP hS => ?_)
            refine lv_istore (lv' := [(5, .int r6), (4, .int p1), (3, .int p2), (0, .ref (b 0)), (1, .int p1), (2, .int p2)]) hx hb dX7_meet_57 hl (by decide) rfl (fun ls hl => ?_)
            refine lv_iload hx hb dX7_meet_59 (lv_at hl 0 rfl) ?_
            refine lv_iconst (v := -1) hx hb dX7_meet_61 (by decide) ?_
            refine lv_icmp_eq (tgt := 70) hx hb dX7_meet_62 (by decide) (fun c7 => ?_) (fun c7 => ?_)
            · have hs := ifp c7 hs
              refine lv_aload_n hx hb dX7_meet_70 rfl (lv_at hl 3 rfl) ?_
              refine mg_0 hx hb hB hown hK hP dX7_meet_71 ?_
              refine lv_bipush (v := 20) hx hb dX7_meet_74 (by decide) ?_
              refine lv_icmp_ne (tgt := 84) hx hb dX7_meet_76 (by decide) (fun c8 => ?_) (fun c8 => ?_)
              · have hs := ifn c8 hs
                refine lv_aload_n hx hb dX7_meet_84 rfl (lv_at hl 3 rfl) ?_
                refine lv_iconst (v := 3) hx hb dX7_meet_85 (by decide) ?_
                refine lv_iload_n hx hb dX7_meet_86 rfl (lv_at hl 2 rfl) ?_
                refine lv_iload hx hb dX7_meet_87 (lv_at hl 1 rfl) ?_
                obtain ⟨r9, e9, hs⟩ := Option.bind_eq_some_iff.mp hs
                refine cV_rwi (As := [.int (3 : Int32), .int p2, .int p1]) (rest := []) hC (m_X7_made l g b st H.size (3 : Int32) p2 p1 r9 e9) (kv_of hB bw_6_12 bw_6_10 bw_6_11 bw_1_5 kd_X7_made bw_6_9 rfl rfl ⟨Nat.le_of_ble_eq_true rfl, Nat.le_of_ble_eq_true rfl⟩) hK hP (hD _) hA hS (mW_0 g b st) rfl rfl hl.1 rfl (Nat.le_of_ble_eq_true rfl) dX7_meet_89 ⟨Nat.zero_le _, Nat.zero_le _⟩ (fun H locs hP hS => ?_)
                cases hs
                exact ret_rwi hx hb hr hlk hP hS dX7_meet_92
              · have hs := ifp c8 hs
                refine lv_bipush (v := -104) hx hb dX7_meet_79 (by decide) ?_
                refine lv_goto (tgt := 92) hx hb dX7_meet_81 (by decide) ?_
                cases hs
                exact ret_rwi hx hb hr hlk hP hS dX7_meet_92
            · have hs := ifn c7 hs
              refine lv_iload hx hb dX7_meet_65 (lv_at hl 0 rfl) ?_
              refine lv_goto (tgt := 92) hx hb dX7_meet_67 (by decide) ?_
              cases hs
              exact ret_rwi hx hb hr hlk hP hS dX7_meet_92
          · have hs := ifn c5 hs
            refine lv_iload_n hx hb dX7_meet_42 rfl (lv_at hl 3 rfl) ?_
            refine lv_goto (tgt := 47) hx hb dX7_meet_43 (by decide) ?_
            refine lv_istore (lv' := [(4, .int p2), (3, .int p2), (0, .ref (b 0)), (1, .int p1), (2, .int p2)]) hx hb dX7_meet_47 hl (by decide) rfl (fun ls hl => ?_)
            refine lv_aload_n hx hb dX7_meet_49 rfl (lv_at hl 2 rfl) ?_
            refine lv_iconst (v := 3) hx hb dX7_meet_50 (by decide) ?_
            refine lv_iload_n hx hb dX7_meet_51 rfl (lv_at hl 1 rfl) ?_
            refine lv_iload hx hb dX7_meet_52 (lv_at hl 0 rfl) ?_
            obtain ⟨r10, e10, hs⟩ := Option.bind_eq_some_iff.mp hs
            refine cV_roi (As := [.int (3 : Int32), .int p2, .int p2]) (rest := []) hC (m_X7_found l g b st (3 : Int32) p2 p2 r10 e10) (kv_of hB bw_8_23 bw_8_21 bw_8_22 bw_1_5 kd_X7_found bw_8_20 rfl rfl ⟨Nat.le_of_ble_eq_true rfl, Nat.le_of_ble_eq_true rfl⟩) hK hP hP hS (mW_0 g b st) rfl rfl hl.1 rfl (Nat.le_of_ble_eq_true rfl) dX7_meet_54 ⟨Nat.zero_le _, Nat.zero_le _⟩ (fun H locs hP hS => ?_)
            refine lv_istore (lv' := [(5, .int r10), (4, .int p2), (3, .int p2), (0, .ref (b 0)), (1, .int p1), (2, .int p2)]) hx hb dX7_meet_57 hl (by decide) rfl (fun ls hl => ?_)
            refine lv_iload hx hb dX7_meet_59 (lv_at hl 0 rfl) ?_
            refine lv_iconst (v := -1) hx hb dX7_meet_61 (by decide) ?_
            refine lv_icmp_eq (tgt := 70) hx hb dX7_meet_62 (by decide) (fun c11 => ?_) (fun c11 => ?_)
            · have hs := ifp c11 hs
              refine lv_aload_n hx hb dX7_meet_70 rfl (lv_at hl 3 rfl) ?_
              refine mg_0 hx hb hB hown hK hP dX7_meet_71 ?_
              refine lv_bipush (v := 20) hx hb dX7_meet_74 (by decide) ?_
              refine lv_icmp_ne (tgt := 84) hx hb dX7_meet_76 (by decide) (fun c12 => ?_) (fun c12 => ?_)
              · have hs := ifn c12 hs
                refine lv_aload_n hx hb dX7_meet_84 rfl (lv_at hl 3 rfl) ?_
                refine lv_iconst (v := 3) hx hb dX7_meet_85 (by decide) ?_
                refine lv_iload_n hx hb dX7_meet_86 rfl (lv_at hl 2 rfl) ?_
                refine lv_iload hx hb dX7_meet_87 (lv_at hl 1 rfl) ?_
                obtain ⟨r13, e13, hs⟩ := Option.bind_eq_some_iff.mp hs
                refine cV_rwi (As := [.int (3 : Int32), .int p2, .int p2]) (rest := []) hC (m_X7_made l g b st H.size (3 : Int32) p2 p2 r13 e13) (kv_of hB bw_6_12 bw_6_10 bw_6_11 bw_1_5 kd_X7_made bw_6_9 rfl rfl ⟨Nat.le_of_ble_eq_true rfl, Nat.le_of_ble_eq_true rfl⟩) hK hP (hD _) hA hS (mW_0 g b st) rfl rfl hl.1 rfl (Nat.le_of_ble_eq_true rfl) dX7_meet_89 ⟨Nat.zero_le _, Nat.zero_le _⟩ (fun H locs hP hS => ?_)
                cases hs
                exact ret_rwi hx hb hr hlk hP hS dX7_meet_92
              · have hs := ifp c12 hs
                refine lv_bipush (v := -104) hx hb dX7_meet_79 (by decide) ?_
                refine lv_goto (tgt := 92) hx hb dX7_meet_81 (by decide) ?_
                cases hs
                exact ret_rwi hx hb hr hlk hP hS dX7_meet_92
            · have hs := ifn c11 hs
              refine lv_iload hx hb dX7_meet_65 (lv_at hl 0 rfl) ?_
              refine lv_goto (tgt := 92) hx hb dX7_meet_67 (by decide) ?_
              cases hs
              exact ret_rwi hx hb hr hlk hP hS dX7_meet_92
        · have hs := ifn c4 hs
          refine lv_iload_n hx hb dX7_meet_31 rfl (lv_at hl 1 rfl) ?_
          refine lv_goto (tgt := 36) hx hb dX7_meet_32 (by decide) ?_
          refine lv_istore_n (lv' := [(3, .int p1), (0, .ref (b 0)), (1, .int p1), (2, .int p2)]) hx hb dX7_meet_36 rfl hl (by decide) rfl (fun ls hl => ?_)
          refine lv_iload_n hx hb dX7_meet_37 rfl (lv_at hl 2 rfl) ?_
          refine lv_iload_n hx hb dX7_meet_38 rfl (lv_at hl 3 rfl) ?_
          refine lv_icmp_ge (tgt := 46) hx hb dX7_meet_39 (by decide) (fun c14 => ?_) (fun c14 => ?_)
          · have hs := ifp c14 hs
            refine lv_iload_n hx hb dX7_meet_46 rfl (lv_at hl 2 rfl) ?_
            refine lv_istore (lv' := [(4, .int p1), (3, .int p1), (0, .ref (b 0)), (1, .int p1), (2, .int p2)]) hx hb dX7_meet_47 hl (by decide) rfl (fun ls hl => ?_)
            refine lv_aload_n hx hb dX7_meet_49 rfl (lv_at hl 2 rfl) ?_
            refine lv_iconst (v := 3) hx hb dX7_meet_50 (by decide) ?_
            refine lv_iload_n hx hb dX7_meet_51 rfl (lv_at hl 1 rfl) ?_
            refine lv_iload hx hb dX7_meet_52 (lv_at hl 0 rfl) ?_
            obtain ⟨r15, e15, hs⟩ := Option.bind_eq_some_iff.mp hs
            refine cV_roi (As := [.int (3 : Int32), .int p1, .int p1]) (rest := []) hC (m_X7_found l g b st (3 : Int32) p1 p1 r15 e15) (kv_of hB bw_8_23 bw_8_21 bw_8_22 bw_1_5 kd_X7_found bw_8_20 rfl rfl ⟨Nat.le_of_ble_eq_true rfl, Nat.le_of_ble_eq_true rfl⟩) hK hP hP hS (mW_0 g b st) rfl rfl hl.1 rfl (Nat.le_of_ble_eq_true rfl) dX7_meet_54 ⟨Nat.zero_le _, Nat.zero_le _⟩ (fun H locs hP hS => ?_)
            refine lv_istore (lv' := [(5, .int r15), (4, .int p1), (3, .int p1), (0, .ref (b 0)), (1, .int p1), (2, .int p2)]) hx hb dX7_meet_57 hl (by decide) rfl (fun ls hl => ?_)
            refine lv_iload hx hb dX7_meet_59 (lv_at hl 0 rfl) ?_
            refine lv_iconst (v := -1) hx hb dX7_meet_61 (by decide) ?_
            refine lv_icmp_eq (tgt := 70) hx hb dX7_meet_62 (by decide) (fun c16 => ?_) (fun c16 => ?_)
            · have hs := ifp c16 hs
              refine lv_aload_n hx hb dX7_meet_70 rfl (lv_at hl 3 rfl) ?_
              refine mg_0 hx hb hB hown hK hP dX7_meet_71 ?_
              refine lv_bipush (v := 20) hx hb dX7_meet_74 (by decide) ?_
              refine lv_icmp_ne (tgt := 84) hx hb dX7_meet_76 (by decide) (fun c17 => ?_) (fun c17 => ?_)
              · have hs := ifn c17 hs
                refine lv_aload_n hx hb dX7_meet_84 rfl (lv_at hl 3 rfl) ?_
                refine lv_iconst (v := 3) hx hb dX7_meet_85 (by decide) ?_
                refine lv_iload_n hx hb dX7_meet_86 rfl (lv_at hl 2 rfl) ?_
                refine lv_iload hx hb dX7_meet_87 (lv_at hl 1 rfl) ?_
                obtain ⟨r18, e18, hs⟩ := Option.bind_eq_some_iff.mp hs
                refine cV_rwi (As := [.int (3 : Int32), .int p1, .int p1]) (rest := []) hC (m_X7_made l g b st H.size (3 : Int32) p1 p1 r18 e18) (kv_of hB bw_6_12 bw_6_10 bw_6_11 bw_1_5 kd_X7_made bw_6_9 rfl rfl ⟨Nat.le_of_ble_eq_true rfl, Nat.le_of_ble_eq_true rfl⟩) hK hP (hD _) hA hS (mW_0 g b st) rfl rfl hl.1 rfl (Nat.le_of_ble_eq_true rfl) dX7_meet_89 ⟨Nat.zero_le _, Nat.zero_le _⟩ (fun H locs hP hS => ?_)
                cases hs
                exact ret_rwi hx hb hr hlk hP hS dX7_meet_92
              · have hs := ifp c17 hs
                refine lv_bipush (v := -104) hx hb dX7_meet_79 (by decide) ?_
                refine lv_goto (tgt := 92) hx hb dX7_meet_81 (by decide) ?_
                cases hs
                exact ret_rwi hx hb hr hlk hP hS dX7_meet_92
            · have hs := ifn c16 hs
              refine lv_iload hx hb dX7_meet_65 (lv_at hl 0 rfl) ?_
              refine lv_goto (tgt := 92) hx hb dX7_meet_67 (by decide) ?_
              cases hs
              exact ret_rwi hx hb hr hlk hP hS dX7_meet_92
          · have hs := ifn c14 hs
            refine lv_iload_n hx hb dX7_meet_42 rfl (lv_at hl 3 rfl) ?_
            refine lv_goto (tgt := 47) hx hb dX7_meet_43 (by decide) ?_
            refine lv_istore (lv' := [(4, .int p2), (3, .int p1), (0, .ref (b 0)), (1, .int p1), (2, .int p2)]) hx hb dX7_meet_47 hl (by decide) rfl (fun ls hl => ?_)
            refine lv_aload_n hx hb dX7_meet_49 rfl (lv_at hl 2 rfl) ?_
            refine lv_iconst (v := 3) hx hb dX7_meet_50 (by decide) ?_
            refine lv_iload_n hx hb dX7_meet_51 rfl (lv_at hl 1 rfl) ?_
            refine lv_iload hx hb dX7_meet_52 (lv_at hl 0 rfl) ?_
            obtain ⟨r19, e19, hs⟩ := Option.bind_eq_some_iff.mp hs
            refine cV_roi (As := [.int (3 : Int32), .int p1, .int p2]) (rest := []) hC (m_X7_found l g b st (3 : Int32) p1 p2 r19 e19) (kv_of hB bw_8_23 bw_8_21 bw_8_22 bw_1_5 kd_X7_found bw_8_20 rfl rfl ⟨Nat.le_of_ble_eq_true rfl, Nat.le_of_ble_eq_true rfl⟩) hK hP hP hS (mW_0 g b st) rfl rfl hl.1 rfl (Nat.le_of_ble_eq_true rfl) dX7_meet_54 ⟨Nat.zero_le _, Nat.zero_le _⟩ (fun H locs hP hS => ?_)
            refine lv_istore (lv' := [(5, .int r19), (4, .int p2), (3, .int p1), (0, .ref (b 0)), (1, .int p1), (2, .int p2)]) hx hb dX7_meet_57 hl (by decide) rfl (fun ls hl => ?_)
            refine lv_iload hx hb dX7_meet_59 (lv_at hl 0 rfl) ?_
            refine lv_iconst (v := -1) hx hb dX7_meet_61 (by decide) ?_
            refine lv_icmp_eq (tgt := 70) hx hb dX7_meet_62 (by decide) (fun c20 => ?_) (fun c20 => ?_)
            · have hs := ifp c20 hs
              refine lv_aload_n hx hb dX7_meet_70 rfl (lv_at hl 3 rfl) ?_
              refine mg_0 hx hb hB hown hK hP dX7_meet_71 ?_
              refine lv_bipush (v := 20) hx hb dX7_meet_74 (by decide) ?_
              refine lv_icmp_ne (tgt := 84) hx hb dX7_meet_76 (by decide) (fun c21 => ?_) (fun c21 => ?_)
              · have hs := ifn c21 hs
                refine lv_aload_n hx hb dX7_meet_84 rfl (lv_at hl 3 rfl) ?_
                refine lv_iconst (v := 3) hx hb dX7_meet_85 (by decide) ?_
                refine lv_iload_n hx hb dX7_meet_86 rfl (lv_at hl 2 rfl) ?_
                refine lv_iload hx hb dX7_meet_87 (lv_at hl 1 rfl) ?_
                obtain ⟨r22, e22, hs⟩ := Option.bind_eq_some_iff.mp hs
                refine cV_rwi (As := [.int (3 : Int32), .int p1, .int p2]) (rest := []) hC (m_X7_made l g b st H.size (3 : Int32) p1 p2 r22 e22) (kv_of hB bw_6_12 bw_6_10 bw_6_11 bw_1_5 kd_X7_made bw_6_9 rfl rfl ⟨Nat.le_of_ble_eq_true rfl, Nat.le_of_ble_eq_true rfl⟩) hK hP (hD _) hA hS (mW_0 g b st) rfl rfl hl.1 rfl (Nat.le_of_ble_eq_true rfl) dX7_meet_89 ⟨Nat.zero_le _, Nat.zero_le _⟩ (fun H locs hP hS => ?_)
                cases hs
                exact ret_rwi hx hb hr hlk hP hS dX7_meet_92
              · have hs := ifp c21 hs
                refine lv_bipush (v := -104) hx hb dX7_meet_79 (by decide) ?_
                refine lv_goto (tgt := 92) hx hb dX7_meet_81 (by decide) ?_
                cases hs
                exact ret_rwi hx hb hr hlk hP hS dX7_meet_92
            · have hs := ifn c20 hs
              refine lv_iload hx hb dX7_meet_65 (lv_at hl 0 rfl) ?_
              refine lv_goto (tgt := 92) hx hb dX7_meet_67 (by decide) ?_
              cases hs
              exact ret_rwi hx hb hr hlk hP hS dX7_meet_92
      · have hs := ifp c3 hs
        refine lv_iload_n hx hb dX7_meet_24 rfl (lv_at hl 1 rfl) ?_
        cases hs
        exact ret_rwi hx hb hr hlk hP hS dX7_meet_25
    · have hs := ifp c2 hs
      refine lv_bipush (v := -101) hx hb dX7_meet_16 (by decide) ?_
      cases hs
      exact ret_rwi hx hb hr hlk hP hS dX7_meet_18
noncomputable def f_X7_has (st : MS) (p1 : Int32) (p2 : Int32) : Option (Int32 × MS) :=
  (if (t_X7_isNotion st p2) = 0 then some (((-101 : Int32), st)) else (if (t_X7_isRole p1) = 0 then some (((-102 : Int32), st)) else (Option.bind (f_X7_found st (4 : Int32) p1 p2) (fun r3 => (if r3 = (-1 : Int32) then (if (st 0 0) = (20 : Int32) then some (((-104 : Int32), st)) else (Option.bind (f_X7_made st (4 : Int32) p1 p2) (fun r6 => some ((r6.1, r6.2))))) else some ((r3, st)))))))
set_option maxHeartbeats 4000000 in
set_option maxRecDepth 100000 in
theorem m_X7_has (l : Launch) (g : GG) (b : Nat → Nat) (st : MS) (sz : Nat) (p1 : Int32) (p2 : Int32) (res : (Int32 × MS)) (hs : f_X7_has st p1 p2 = some res) : Met l yX7_has (Cond.code yX7_has cX7_has 4 (some .int) :: BIG) ({ frames := 2, cells := 0, slots := 0, locals := 43 } : Room) (va_Pc [.ref (b 0), .int p1, .int p2] (RWp g (mW g b st) sz)) (RWi res.1 g (mW g b res.2) (va_A (mW g b st) sz)) 0 0 (va_A (mW g b st) sz) := by
  refine rw_start (cc := cX7_has) (maxL := 4) (ret := (some .int)) (lv := [(0, .ref (b 0)), (1, .int p1), (2, .int p2)]) (Qc := fun A => (RWi res.1 g (mW g b res.2) A)) (by decide) rfl (Nat.le_of_ble_eq_true rfl) rfl ?_
  intro p e s m args below meth c hx hb hml hr hts hown hlk hK A hD0 hA H locs hP hS ls hl
  have hD : ∀ st' : MS, va_D A (mW g b st') := fun _ => mW_D hD0
  have hB : ∀ w ∈ BIG, w.before args s = true := fun w h => hts w (List.mem_cons_of_mem _ h)
  have hC : CallFix p m c cX7_has 4 s args BIG RX7 := ⟨hx, hb, hml, hown, hB⟩
  unfold f_X7_has at hs
  refine lv_aload_n hx hb dX7_has_0 rfl (lv_at hl 0 rfl) ?_
  refine lv_iload_n hx hb dX7_has_1 rfl (lv_at hl 2 rfl) ?_
  refine cV_roi (As := [.int p2]) (rest := []) hC (m_X7_isNotion l g b st p2) (kv_of hB bw_8_16 bw_8_14 bw_8_15 bw_1_5 kd_X7_isNotion bw_8_13 rfl rfl ⟨Nat.le_of_ble_eq_true rfl, Nat.le_of_ble_eq_true rfl⟩) hK hP hP hS (mW_0 g b st) rfl rfl hl.1 rfl (Nat.le_of_ble_eq_true rfl) dX7_has_2 ⟨Nat.zero_le _, Nat.zero_le _⟩ (fun H locs hP hS => ?_)
  refine lv_if_ne (tgt := 11) hx hb dX7_has_5 (by decide) (fun c1 => ?_) (fun c1 => ?_)
  · have hs := ifn c1 hs
    refine lv_iload_n hx hb dX7_has_11 rfl (lv_at hl 1 rfl) ?_
    refine cS_roi (As := [.int p1]) (rest := []) hC (m_X7_isRole l g (mW g b st) p1) (ks_of hB bw_9_14 bw_9_13 bw_1_5 kd_X7_isRole bw_9_12 rfl rfl ⟨Nat.le_of_ble_eq_true rfl, Nat.le_of_ble_eq_true rfl⟩) hK hP hP hS rfl hl.1 rfl (Nat.le_of_ble_eq_true rfl) dX7_has_12 ⟨Nat.zero_le _, Nat.zero_le _⟩ (fun H locs hP hS => ?_)
    refine lv_if_ne (tgt := 21) hx hb dX7_has_15 (by decide) (fun c2 => ?_) (fun c2 => ?_)
    · have hs := ifn c2 hs
      refine lv_aload_n hx hb dX7_has_21 rfl (lv_at hl 0 rfl) ?_
      refine lv_iconst (v := 4) hx hb dX7_has_22 (by decide) ?_
      refine lv_iload_n hx hb dX7_has_23 rfl (lv_at hl 1 rfl) ?_
      refine lv_iload_n hx hb dX7_has_24 rfl (lv_at hl 2 rfl) ?_
      obtain ⟨r3, e3, hs⟩ := Option.bind_eq_some_iff.mp hs
      refine cV_roi (As := [.int (4 : Int32), .int p1, .int p2]) (rest := []) hC (m_X7_found l g b st (4 : Int32) p1 p2 r3 e3) (kv_of hB bw_8_23 bw_8_21 bw_8_22 bw_1_5 kd_X7_found bw_8_20 rfl rfl ⟨Nat.le_of_ble_eq_true rfl, Nat.le_of_ble_eq_true rfl⟩) hK hP hP hS (mW_0 g b st) rfl rfl hl.1 rfl (Nat.le_of_ble_eq_true rfl) dX7_has_25 ⟨Nat.zero_le _, Nat.zero_le _⟩ (fun H locs hP hS => ?_)
      refine lv_istore_n (lv' := [(3, .int r3), (0, .ref (b 0)), (1, .int p1), (2, .int p2)]) hx hb dX7_has_28 rfl hl (by decide) rfl (fun ls hl => ?_)
      refine lv_iload_n hx hb dX7_has_29 rfl (lv_at hl 0 rfl) ?_
      refine lv_iconst (v := -1) hx hb dX7_has_30 (by decide) ?_
      refine lv_icmp_eq (tgt := 38) hx hb dX7_has_31 (by decide) (fun c4 => ?_) (fun c4 => ?_)
      · have hs := ifp c4 hs
        refine lv_aload_n hx hb dX7_has_38 rfl (lv_at hl 1 rfl) ?_
        refine mg_0 hx hb hB hown hK hP dX7_has_39 ?_
        refine lv_bipush (v := 20) hx hb dX7_has_42 (by decide) ?_
        refine lv_icmp_ne (tgt := 52) hx hb dX7_has_44 (by decide) (fun c5 => ?_) (fun c5 => ?_)
        · have hs := ifn c5 hs
          refine lv_aload_n hx hb dX7_has_52 rfl (lv_at hl 1 rfl) ?_
          refine lv_iconst (v := 4) hx hb dX7_has_53 (by decide) ?_
          refine lv_iload_n hx hb dX7_has_54 rfl (lv_at hl 2 rfl) ?_
          refine lv_iload_n hx hb dX7_has_55 rfl (lv_at hl 3 rfl) ?_
          obtain ⟨r6, e6, hs⟩ := Option.bind_eq_some_iff.mp hs
          refine cV_rwi (As := [.int (4 : Int32), .int p1, .int p2]) (rest := []) hC (m_X7_made l g b st H.size (4 : Int32) p1 p2 r6 e6) (kv_of hB bw_6_12 bw_6_10 bw_6_11 bw_1_5 kd_X7_made bw_6_9 rfl rfl ⟨Nat.le_of_ble_eq_true rfl, Nat.le_of_ble_eq_true rfl⟩) hK hP (hD _) hA hS (mW_0 g b st) rfl rfl hl.1 rfl (Nat.le_of_ble_eq_true rfl) dX7_has_56 ⟨Nat.zero_le _, Nat.zero_le _⟩ (fun H locs hP hS => ?_)
          cases hs
          exact ret_rwi hx hb hr hlk hP hS dX7_has_59
        · have hs := ifp c5 hs
          refine lv_bipush (v := -104) hx hb dX7_has_47 (by decide) ?_
          refine lv_goto (tgt := 59) hx hb dX7_has_49 (by decide) ?_
          cases hs
          exact ret_rwi hx hb hr hlk hP hS dX7_has_59
      · have hs := ifn c4 hs
        refine lv_iload_n hx hb dX7_has_34 rfl (lv_at hl 0 rfl) ?_
        refine lv_goto (tgt := 59) hx hb dX7_has_35 (by decide) ?_
        cases hs
        exact ret_rwi hx hb hr hlk hP hS dX7_has_59
    · have hs := ifp c2 hs
      refine lv_bipush (v := -102) hx hb dX7_has_18 (by decide) ?_
      cases hs
      exact ret_rwi hx hb hr hlk hP hS dX7_has_20
  · have hs := ifp c1 hs
    refine lv_bipush (v := -101) hx hb dX7_has_8 (by decide) ?_
    cases hs
    exact ret_rwi hx hb hr hlk hP hS dX7_has_10
noncomputable def f_X7_said (st : MS) (p1 : Int32) (p2 : Int32) (p3 : Int32) (p4 : Int32) : Option (Int32 × MS) :=
  (if (st 5 0) = (40 : Int32) then some (((-104 : Int32), st)) else (Option.bind (mwr st 6 40 (st 5 0) p1) (fun r2 => (Option.bind (mwr r2 7 40 (r2 5 0) p2) (fun r3 => (Option.bind (mwr r3 8 40 (r3 5 0) p3) (fun r4 => (Option.bind (mwr r4 9 40 (r4 5 0) p4) (fun r5 => (Option.bind (mwr r5 10 40 (r5 5 0) (1 : Int32)) (fun r6 => (Option.bind (some (mA r6 5 (fun _ => ((r6 5 0) + (1 : Int32))))) (fun r7 => (Option.bind (some (mA r7 11 (fun _ => (0 : Int32)))) (fun r8 => some ((((r8 5 0) - (1 : Int32)), r8)))))))))))))))))
set_option maxHeartbeats 4000000 in
set_option maxRecDepth 100000 in
theorem m_X7_said (l : Launch) (g : GG) (b : Nat → Nat) (st : MS) (sz : Nat) (p1 : Int32) (p2 : Int32) (p3 : Int32) (p4 : Int32) (res : (Int32 × MS)) (hs : f_X7_said st p1 p2 p3 p4 = some res) : Met l yX7_said (Cond.code yX7_said cX7_said 5 (some .int) :: BIG) ({ frames := 0, cells := 0, slots := 0, locals := 0 } : Room) (va_Pc [.ref (b 0), .int p1, .int p2, .int p3, .int p4] (RWp g (mW g b st) sz)) (RWi res.1 g (mW g b res.2) (va_A (mW g b st) sz)) 0 0 (va_A (mW g b st) sz) := by
  refine rw_start (cc := cX7_said) (maxL := 5) (ret := (some .int)) (lv := [(0, .ref (b 0)), (1, .int p1), (2, .int p2), (3, .int p3), (4, .int p4)]) (Qc := fun A => (RWi res.1 g (mW g b res.2) A)) (by decide) rfl (Nat.le_of_ble_eq_true rfl) rfl ?_
  intro p e s m args below meth c hx hb hml hr hts hown hlk hK A hD0 hA H locs hP hS ls hl
  have hD : ∀ st' : MS, va_D A (mW g b st') := fun _ => mW_D hD0
  have hB : ∀ w ∈ BIG, w.before args s = true := fun w h => hts w (List.mem_cons_of_mem _ h)
  have hC : CallFix p m c cX7_said 5 s args BIG RX7 := ⟨hx, hb, hml, hown, hB⟩
  unfold f_X7_said at hs
  refine lv_aload_n hx hb dX7_said_0 rfl (lv_at hl 0 rfl) ?_
  refine mg_5 hx hb hB hown hK hP dX7_said_1 ?_
  refine lv_bipush (v := 40) hx hb dX7_said_4 (by decide) ?_
  refine lv_icmp_ne (tgt := 12) hx hb dX7_said_6 (by decide) (fun c1 => ?_) (fun c1 => ?_)
  · have hs := ifn c1 hs
    refine lv_aload_n hx hb dX7_said_12 rfl (lv_at hl 0 rfl) ?_
    refine mg_6 hx hb hB hown hK hP dX7_said_13 ?_
    refine lv_aload_n hx hb dX7_said_16 rfl (lv_at hl 0 rfl) ?_
    refine mg_5 hx hb hB hown hK hP dX7_said_17 ?_
    refine lv_iload_n hx hb dX7_said_20 rfl (lv_at hl 1 rfl) ?_
    obtain ⟨r2, e2, hs⟩ := Option.bind_eq_some_iff.mp hs
    refine ms_6 hx hb hK hP hD hS e2 dX7_said_21 (fun H locs hP hS => ?_)
    refine lv_aload_n hx hb dX7_said_22 rfl (lv_at hl 0 rfl) ?_
    refine mg_7 hx hb hB hown hK hP dX7_said_23 ?_
    refine lv_aload_n hx hb dX7_said_26 rfl (lv_at hl 0 rfl) ?_
    refine mg_5 hx hb hB hown hK hP dX7_said_27 ?_
    refine lv_iload_n hx hb dX7_said_30 rfl (lv_at hl 2 rfl) ?_
    obtain ⟨r3, e3, hs⟩ := Option.bind_eq_some_iff.mp hs
    refine ms_7 hx hb hK hP hD hS e3 dX7_said_31 (fun H locs hP hS => ?_)
    refine lv_aload_n hx hb dX7_said_32 rfl (lv_at hl 0 rfl) ?_
    refine mg_8 hx hb hB hown hK hP dX7_said_33 ?_
    refine lv_aload_n hx hb dX7_said_36 rfl (lv_at hl 0 rfl) ?_
    refine mg_5 hx hb hB hown hK hP dX7_said_37 ?_
    refine lv_iload_n hx hb dX7_said_40 rfl (lv_at hl 3 rfl) ?_
    obtain ⟨r4, e4, hs⟩ := Option.bind_eq_some_iff.mp hs
    refine ms_8 hx hb hK hP hD hS e4 dX7_said_41 (fun H locs hP hS => ?_)
    refine lv_aload_n hx hb dX7_said_42 rfl (lv_at hl 0 rfl) ?_
    refine mg_9 hx hb hB hown hK hP dX7_said_43 ?_
    refine lv_aload_n hx hb dX7_said_46 rfl (lv_at hl 0 rfl) ?_
    refine mg_5 hx hb hB hown hK hP dX7_said_47 ?_
    refine lv_iload hx hb dX7_said_50 (lv_at hl 4 rfl) ?_
    obtain ⟨r5, e5, hs⟩ := Option.bind_eq_some_iff.mp hs
    refine ms_9 hx hb hK hP hD hS e5 dX7_said_52 (fun H locs hP hS => ?_)
    refine lv_aload_n hx hb dX7_said_53 rfl (lv_at hl 0 rfl) ?_
    refine mg_10 hx hb hB hown hK hP dX7_said_54 ?_
    refine lv_aload_n hx hb dX7_said_57 rfl (lv_at hl 0 rfl) ?_
    refine mg_5 hx hb hB hown hK hP dX7_said_58 ?_
    refine lv_iconst (v := 1) hx hb dX7_said_61 (by decide) ?_
    obtain ⟨r6, e6, hs⟩ := Option.bind_eq_some_iff.mp hs
    refine ms_10 hx hb hK hP hD hS rfl e6 dX7_said_62 (fun H locs hP hS => ?_)
    refine lv_aload_n hx hb dX7_said_63 rfl (lv_at hl 0 rfl) ?_
    refine lv_dup hx hb dX7_said_64 rfl ?_
    refine mg_5 hx hb hB hown hK hP dX7_said_65 ?_
    refine lv_iconst (v := 1) hx hb dX7_said_68 (by decide) ?_
    refine lv_iadd hx hb dX7_said_69 ?_
    obtain ⟨r7, e7, hs⟩ := Option.bind_eq_some_iff.mp hs
    have e7 := Option.some.inj e7
    refine mp_5 hx hb hB hown hK hP hD hS e7 dX7_said_70 (fun H locs hP hS => ?_)
    refine lv_aload_n hx hb dX7_said_73 rfl (lv_at hl 0 rfl) ?_
    refine lv_iconst (v := 0) hx hb dX7_said_74 (by decide) ?_
    obtain ⟨r8, e8, hs⟩ := Option.bind_eq_some_iff.mp hs
    have e8 := Option.some.inj e8
    refine mp_11 hx hb hB hown hK hP hD hS (Or.inl rfl) e8 dX7_said_75 (fun H locs hP hS => ?_)
    refine lv_aload_n hx hb dX7_said_78 rfl (lv_at hl 0 rfl) ?_
    refine mg_5 hx hb hB hown hK hP dX7_said_79 ?_
    refine lv_iconst (v := 1) hx hb dX7_said_82 (by decide) ?_
    refine lv_isub hx hb dX7_said_83 ?_
    cases hs
    exact ret_rwi hx hb hr hlk hP hS dX7_said_84
  · have hs := ifp c1 hs
    refine lv_bipush (v := -104) hx hb dX7_said_9 (by decide) ?_
    cases hs
    exact ret_rwi hx hb hr hlk hP hS dX7_said_11
noncomputable def f_X7_say (st : MS) (p1 : Int32) (p2 : Int32) : Option (Int32 × MS) :=
  (if (t_X7_isNotion st p1) = 0 then some (((-101 : Int32), st)) else (if (t_X7_isNotion st p2) = 0 then some (((-101 : Int32), st)) else (Option.bind (f_X7_said st (0 : Int32) p1 p2 (-1 : Int32)) (fun r3 => some ((r3.1, r3.2))))))
set_option maxHeartbeats 4000000 in
set_option maxRecDepth 100000 in
theorem m_X7_say (l : Launch) (g : GG) (b : Nat → Nat) (st : MS) (sz : Nat) (p1 : Int32) (p2 : Int32) (res : (Int32 × MS)) (hs : f_X7_say st p1 p2 = some res) : Met l yX7_say (Cond.code yX7_say cX7_say 3 (some .int) :: BIG) ({ frames := 2, cells := 0, slots := 0, locals := 43 } : Room) (va_Pc [.ref (b 0), .int p1, .int p2] (RWp g (mW g b st) sz)) (RWi res.1 g (mW g b res.2) (va_A (mW g b st) sz)) 0 0 (va_A (mW g b st) sz) := by
  refine rw_start (cc := cX7_say) (maxL := 3) (ret := (some .int)) (lv := [(0, .ref (b 0)), (1, .int p1), (2, .int p2)]) (Qc := fun A => (RWi res.1 g (mW g b res.2) A)) (by decide) rfl (Nat.le_of_ble_eq_true rfl) rfl ?_
  intro p e s m args below meth c hx hb hml hr hts hown hlk hK A hD0 hA H locs hP hS ls hl
  have hD : ∀ st' : MS, va_D A (mW g b st') := fun _ => mW_D hD0
  have hB : ∀ w ∈ BIG, w.before args s = true := fun w h => hts w (List.mem_cons_of_mem _ h)
  have hC : CallFix p m c cX7_say 3 s args BIG RX7 := ⟨hx, hb, hml, hown, hB⟩
  unfold f_X7_say at hs
  refine lv_aload_n hx hb dX7_say_0 rfl (lv_at hl 0 rfl) ?_
  refine lv_iload_n hx hb dX7_say_1 rfl (lv_at hl 1 rfl) ?_
  refine cV_roi (As := [.int p1]) (rest := []) hC (m_X7_isNotion l g b st p1) (kv_of hB bw_8_16 bw_8_14 bw_8_15 bw_1_5 kd_X7_isNotion bw_8_13 rfl rfl ⟨Nat.le_of_ble_eq_true rfl, Nat.le_of_ble_eq_true rfl⟩) hK hP hP hS (mW_0 g b st) rfl rfl hl.1 rfl (Nat.le_of_ble_eq_true rfl) dX7_say_2 ⟨Nat.zero_le _, Nat.zero_le _⟩ (fun H locs hP hS => ?_)
  refine lv_if_eq (tgt := 16) hx hb dX7_say_5 (by decide) (fun c1 => ?_) (fun c1 => ?_)
  · have hs := ifp c1 hs
    refine lv_bipush (v := -101) hx hb dX7_say_16 (by decide) ?_
    refine lv_goto (tgt := 29) hx hb dX7_say_18 (by decide) ?_
    cases hs
    exact ret_rwi hx hb hr hlk hP hS dX7_say_29
  · have hs := ifn c1 hs
    refine lv_aload_n hx hb dX7_say_8 rfl (lv_at hl 0 rfl) ?_
    refine lv_iload_n hx hb dX7_say_9 rfl (lv_at hl 2 rfl) ?_
    refine cV_roi (As := [.int p2]) (rest := []) hC (m_X7_isNotion l g b st p2) (kv_of hB bw_8_16 bw_8_14 bw_8_15 bw_1_5 kd_X7_isNotion bw_8_13 rfl rfl ⟨Nat.le_of_ble_eq_true rfl, Nat.le_of_ble_eq_true rfl⟩) hK hP hP hS (mW_0 g b st) rfl rfl hl.1 rfl (Nat.le_of_ble_eq_true rfl) dX7_say_10 ⟨Nat.zero_le _, Nat.zero_le _⟩ (fun H locs hP hS => ?_)
    refine lv_if_ne (tgt := 21) hx hb dX7_say_13 (by decide) (fun c2 => ?_) (fun c2 => ?_)
    · have hs := ifn c2 hs
      refine lv_aload_n hx hb dX7_say_21 rfl (lv_at hl 0 rfl) ?_
      refine lv_iconst (v := 0) hx hb dX7_say_22 (by decide) ?_
      refine lv_iload_n hx hb dX7_say_23 rfl (lv_at hl 1 rfl) ?_
      refine lv_iload_n hx hb dX7_say_24 rfl (lv_at hl 2 rfl) ?_
      refine lv_iconst (v := -1) hx hb dX7_say_25 (by decide) ?_
      obtain ⟨r3, e3, hs⟩ := Option.bind_eq_some_iff.mp hs
      refine cV_rwi (As := [.int (0 : Int32), .int p1, .int p2, .int (-1 : Int32)]) (rest := []) hC (m_X7_said l g b st H.size (0 : Int32) p1 p2 (-1 : Int32) r3 e3) (kv_of hB bw_10_11 bw_10_9 bw_10_10 bw_1_5 kd_X7_said bw_10_8 rfl rfl ⟨Nat.le_of_ble_eq_true rfl, Nat.le_of_ble_eq_true rfl⟩) hK hP (hD _) hA hS (mW_0 g b st) rfl rfl hl.1 rfl (Nat.le_of_ble_eq_true rfl) dX7_say_26 ⟨Nat.zero_le _, Nat.zero_le _⟩ (fun H locs hP hS => ?_)
      cases hs
      exact ret_rwi hx hb hr hlk hP hS dX7_say_29
    · have hs := ifp c2 hs
      refine lv_bipush (v := -101) hx hb dX7_say_16 (by decide) ?_
      refine lv_goto (tgt := 29) hx hb dX7_say_18 (by decide) ?_
      cases hs
      exact ret_rwi hx hb hr hlk hP hS dX7_say_29
noncomputable def f_X7_role (st : MS) (p1 : Int32) (p2 : Int32) : Option (Int32 × MS) :=
  (if (t_X7_isRole p1) = 0 then some (((-102 : Int32), st)) else (if (t_X7_isRole p2) = 0 then some (((-102 : Int32), st)) else (Option.bind (f_X7_said st (1 : Int32) p1 p2 (-1 : Int32)) (fun r3 => some ((r3.1, r3.2))))))
set_option maxHeartbeats 4000000 in
set_option maxRecDepth 100000 in
theorem m_X7_role (l : Launch) (g : GG) (b : Nat → Nat) (st : MS) (sz : Nat) (p1 : Int32) (p2 : Int32) (res : (Int32 × MS)) (hs : f_X7_role st p1 p2 = some res) : Met l yX7_role (Cond.code yX7_role cX7_role 3 (some .int) :: BIG) ({ frames := 2, cells := 0, slots := 0, locals := 42 } : Room) (va_Pc [.ref (b 0), .int p1, .int p2] (RWp g (mW g b st) sz)) (RWi res.1 g (mW g b res.2) (va_A (mW g b st) sz)) 0 0 (va_A (mW g b st) sz) := by
  refine rw_start (cc := cX7_role) (maxL := 3) (ret := (some .int)) (lv := [(0, .ref (b 0)), (1, .int p1), (2, .int p2)]) (Qc := fun A => (RWi res.1 g (mW g b res.2) A)) (by decide) rfl (Nat.le_of_ble_eq_true rfl) rfl ?_
  intro p e s m args below meth c hx hb hml hr hts hown hlk hK A hD0 hA H locs hP hS ls hl
  have hD : ∀ st' : MS, va_D A (mW g b st') := fun _ => mW_D hD0
  have hB : ∀ w ∈ BIG, w.before args s = true := fun w h => hts w (List.mem_cons_of_mem _ h)
  have hC : CallFix p m c cX7_role 3 s args BIG RX7 := ⟨hx, hb, hml, hown, hB⟩
  unfold f_X7_role at hs
  refine lv_iload_n hx hb dX7_role_0 rfl (lv_at hl 1 rfl) ?_
  refine cS_roi (As := [.int p1]) (rest := []) hC (m_X7_isRole l g (mW g b st) p1) (ks_of hB bw_9_14 bw_9_13 bw_1_5 kd_X7_isRole bw_9_12 rfl rfl ⟨Nat.le_of_ble_eq_true rfl, Nat.le_of_ble_eq_true rfl⟩) hK hP hP hS rfl hl.1 rfl (Nat.le_of_ble_eq_true rfl) dX7_role_1 ⟨Nat.zero_le _, Nat.zero_le _⟩ (fun H locs hP hS => ?_)
  refine lv_if_eq (tgt := 14) hx hb dX7_role_4 (by decide) (fun c1 => ?_) (fun c1 => ?_)
  · have hs := ifp c1 hs
    refine lv_bipush (v := -102) hx hb dX7_role_14 (by decide) ?_
    refine lv_goto (tgt := 27) hx hb dX7_role_16 (by decide) ?_
    cases hs
    exact ret_rwi hx hb hr hlk hP hS dX7_role_27
  · have hs := ifn c1 hs
    refine lv_iload_n hx hb dX7_role_7 rfl (lv_at hl 2 rfl) ?_
    refine cS_roi (As := [.int p2]) (rest := []) hC (m_X7_isRole l g (mW g b st) p2) (ks_of hB bw_9_14 bw_9_13 bw_1_5 kd_X7_isRole bw_9_12 rfl rfl ⟨Nat.le_of_ble_eq_true rfl, Nat.le_of_ble_eq_true rfl⟩) hK hP hP hS rfl hl.1 rfl (Nat.le_of_ble_eq_true rfl) dX7_role_8 ⟨Nat.zero_le _, Nat.zero_le _⟩ (fun H locs hP hS => ?_)
    refine lv_if_ne (tgt := 19) hx hb dX7_role_11 (by decide) (fun c2 => ?_) (fun c2 => ?_)
    · have hs := ifn c2 hs
      refine lv_aload_n hx hb dX7_role_19 rfl (lv_at hl 0 rfl) ?_
      refine lv_iconst (v := 1) hx hb dX7_role_20 (by decide) ?_
      refine lv_iload_n hx hb dX7_role_21 rfl (lv_at hl 1 rfl) ?_
      refine lv_iload_n hx hb dX7_role_22 rfl (lv_at hl 2 rfl) ?_
      refine lv_iconst (v := -1) hx hb dX7_role_23 (by decide) ?_
      obtain ⟨r3, e3, hs⟩ := Option.bind_eq_some_iff.mp hs
      refine cV_rwi (As := [.int (1 : Int32), .int p1, .int p2, .int (-1 : Int32)]) (rest := []) hC (m_X7_said l g b st H.size (1 : Int32) p1 p2 (-1 : Int32) r3 e3) (kv_of hB bw_10_11 bw_10_9 bw_10_10 bw_1_5 kd_X7_said bw_10_8 rfl rfl ⟨Nat.le_of_ble_eq_true rfl, Nat.le_of_ble_eq_true rfl⟩) hK hP (hD _) hA hS (mW_0 g b st) rfl rfl hl.1 rfl (Nat.le_of_ble_eq_true rfl) dX7_role_24 ⟨Nat.zero_le _, Nat.zero_le _⟩ (fun H locs hP hS => ?_)
      cases hs
      exact ret_rwi hx hb hr hlk hP hS dX7_role_27
    · have hs := ifp c2 hs
      refine lv_bipush (v := -102) hx hb dX7_role_14 (by decide) ?_
      refine lv_goto (tgt := 27) hx hb dX7_role_16 (by decide) ?_
      cases hs
      exact ret_rwi hx hb hr hlk hP hS dX7_role_27
noncomputable def f_X7_chain (st : MS) (p1 : Int32) (p2 : Int32) (p3 : Int32) : Option (Int32 × MS) :=
  (if (t_X7_isRole p1) = 0 then some (((-102 : Int32), st)) else (if (t_X7_isRole p2) = 0 then some (((-102 : Int32), st)) else (if (t_X7_isRole p3) = 0 then some (((-102 : Int32), st)) else (Option.bind (f_X7_said st (2 : Int32) p1 p2 p3) (fun r4 => some ((r4.1, r4.2)))))))
set_option maxHeartbeats 4000000 in
set_option maxRecDepth 100000 in
theorem m_X7_chain (l : Launch) (g : GG) (b : Nat → Nat) (st : MS) (sz : Nat) (p1 : Int32) (p2 : Int32) (p3 : Int32) (res : (Int32 × MS)) (hs : f_X7_chain st p1 p2 p3 = some res) : Met l yX7_chain (Cond.code yX7_chain cX7_chain 4 (some .int) :: BIG) ({ frames := 2, cells := 0, slots := 0, locals := 42 } : Room) (va_Pc [.ref (b 0), .int p1, .int p2, .int p3] (RWp g (mW g b st) sz)) (RWi res.1 g (mW g b res.2) (va_A (mW g b st) sz)) 0 0 (va_A (mW g b st) sz) := by
  refine rw_start (cc := cX7_chain) (maxL := 4) (ret := (some .int)) (lv := [(0, .ref (b 0)), (1, .int p1), (2, .int p2), (3, .int p3)]) (Qc := fun A => (RWi res.1 g (mW g b res.2) A)) (by decide) rfl (Nat.le_of_ble_eq_true rfl) rfl ?_
  intro p e s m args below meth c hx hb hml hr hts hown hlk hK A hD0 hA H locs hP hS ls hl
  have hD : ∀ st' : MS, va_D A (mW g b st') := fun _ => mW_D hD0
  have hB : ∀ w ∈ BIG, w.before args s = true := fun w h => hts w (List.mem_cons_of_mem _ h)
  have hC : CallFix p m c cX7_chain 4 s args BIG RX7 := ⟨hx, hb, hml, hown, hB⟩
  unfold f_X7_chain at hs
  refine lv_iload_n hx hb dX7_chain_0 rfl (lv_at hl 1 rfl) ?_
  refine cS_roi (As := [.int p1]) (rest := []) hC (m_X7_isRole l g (mW g b st) p1) (ks_of hB bw_9_14 bw_9_13 bw_1_5 kd_X7_isRole bw_9_12 rfl rfl ⟨Nat.le_of_ble_eq_true rfl, Nat.le_of_ble_eq_true rfl⟩) hK hP hP hS rfl hl.1 rfl (Nat.le_of_ble_eq_true rfl) dX7_chain_1 ⟨Nat.zero_le _, Nat.zero_le _⟩ (fun H locs hP hS => ?_)
  refine lv_if_eq (tgt := 21) hx hb dX7_chain_4 (by decide) (fun c1 => ?_) (fun c1 => ?_)
  · have hs := ifp c1 hs
    refine lv_bipush (v := -102) hx hb dX7_chain_21 (by decide) ?_
    refine lv_goto (tgt := 34) hx hb dX7_chain_23 (by decide) ?_
    cases hs
    exact ret_rwi hx hb hr hlk hP hS dX7_chain_34
  · have hs := ifn c1 hs
    refine lv_iload_n hx hb dX7_chain_7 rfl (lv_at hl 2 rfl) ?_
    refine cS_roi (As := [.int p2]) (rest := []) hC (m_X7_isRole l g (mW g b st) p2) (ks_of hB bw_9_14 bw_9_13 bw_1_5 kd_X7_isRole bw_9_12 rfl rfl ⟨Nat.le_of_ble_eq_true rfl, Nat.le_of_ble_eq_true rfl⟩) hK hP hP hS rfl hl.1 rfl (Nat.le_of_ble_eq_true rfl) dX7_chain_8 ⟨Nat.zero_le _, Nat.zero_le _⟩ (fun H locs hP hS => ?_)
    refine lv_if_eq (tgt := 21) hx hb dX7_chain_11 (by decide) (fun c2 => ?_) (fun c2 => ?_)
    · have hs := ifp c2 hs
      refine lv_bipush (v := -102) hx hb dX7_chain_21 (by decide) ?_
      refine lv_goto (tgt := 34) hx hb dX7_chain_23 (by decide) ?_
      cases hs
      exact ret_rwi hx hb hr hlk hP hS dX7_chain_34
    · have hs := ifn c2 hs
      refine lv_iload_n hx hb dX7_chain_14 rfl (lv_at hl 3 rfl) ?_
      refine cS_roi (As := [.int p3]) (rest := []) hC (m_X7_isRole l g (mW g b st) p3) (ks_of hB bw_9_14 bw_9_13 bw_1_5 kd_X7_isRole bw_9_12 rfl rfl ⟨Nat.le_of_ble_eq_true rfl, Nat.le_of_ble_eq_true rfl⟩) hK hP hP hS rfl hl.1 rfl (Nat.le_of_ble_eq_true rfl) dX7_chain_15 ⟨Nat.zero_le _, Nat.zero_le _⟩ (fun H locs hP hS => ?_)
      refine lv_if_ne (tgt := 26) hx hb dX7_chain_18 (by decide) (fun c3 => ?_) (fun c3 => ?_)
      · have hs := ifn c3 hs
        refine lv_aload_n hx hb dX7_chain_26 rfl (lv_at hl 0 rfl) ?_
        refine lv_iconst (v := 2) hx hb dX7_chain_27 (by decide) ?_
        refine lv_iload_n hx hb dX7_chain_28 rfl (lv_at hl 1 rfl) ?_
        refine lv_iload_n hx hb dX7_chain_29 rfl (lv_at hl 2 rfl) ?_
        refine lv_iload_n hx hb dX7_chain_30 rfl (lv_at hl 3 rfl) ?_
        obtain ⟨r4, e4, hs⟩ := Option.bind_eq_some_iff.mp hs
        refine cV_rwi (As := [.int (2 : Int32), .int p1, .int p2, .int p3]) (rest := []) hC (m_X7_said l g b st H.size (2 : Int32) p1 p2 p3 r4 e4) (kv_of hB bw_10_11 bw_10_9 bw_10_10 bw_1_5 kd_X7_said bw_10_8 rfl rfl ⟨Nat.le_of_ble_eq_true rfl, Nat.le_of_ble_eq_true rfl⟩) hK hP (hD _) hA hS (mW_0 g b st) rfl rfl hl.1 rfl (Nat.le_of_ble_eq_true rfl) dX7_chain_31 ⟨Nat.zero_le _, Nat.zero_le _⟩ (fun H locs hP hS => ?_)
        cases hs
        exact ret_rwi hx hb hr hlk hP hS dX7_chain_34
      · have hs := ifp c3 hs
        refine lv_bipush (v := -102) hx hb dX7_chain_21 (by decide) ?_
        refine lv_goto (tgt := 34) hx hb dX7_chain_23 (by decide) ?_
        cases hs
        exact ret_rwi hx hb hr hlk hP hS dX7_chain_34
noncomputable def f_X7_unsay (st : MS) (p1 : Int32) : Option (Int32 × MS) :=
  (if (t_X7_in p1 (0 : Int32) ((st 5 0) - (1 : Int32))) = 0 then some (((-101 : Int32), st)) else (Option.bind (rd 40 (st 10) p1) (fun r2 => (if r2 = 0 then some (((-101 : Int32), st)) else (Option.bind (mwr st 10 40 p1 (0 : Int32)) (fun r4 => (Option.bind (some (mA r4 11 (fun _ => (0 : Int32)))) (fun r5 => some (((1 : Int32), r5))))))))))
set_option maxHeartbeats 4000000 in
set_option maxRecDepth 100000 in
theorem m_X7_unsay (l : Launch) (g : GG) (b : Nat → Nat) (st : MS) (sz : Nat) (p1 : Int32) (res : (Int32 × MS)) (hs : f_X7_unsay st p1 = some res) : Met l yX7_unsay (Cond.code yX7_unsay cX7_unsay 2 (some .int) :: BIG) ({ frames := 1, cells := 0, slots := 0, locals := 22 } : Room) (va_Pc [.ref (b 0), .int p1] (RWp g (mW g b st) sz)) (RWi res.1 g (mW g b res.2) (va_A (mW g b st) sz)) 0 0 (va_A (mW g b st) sz) := by
  refine rw_start (cc := cX7_unsay) (maxL := 2) (ret := (some .int)) (lv := [(0, .ref (b 0)), (1, .int p1)]) (Qc := fun A => (RWi res.1 g (mW g b res.2) A)) (by decide) rfl (Nat.le_of_ble_eq_true rfl) rfl ?_
  intro p e s m args below meth c hx hb hml hr hts hown hlk hK A hD0 hA H locs hP hS ls hl
  have hD : ∀ st' : MS, va_D A (mW g b st') := fun _ => mW_D hD0
  have hB : ∀ w ∈ BIG, w.before args s = true := fun w h => hts w (List.mem_cons_of_mem _ h)
  have hC : CallFix p m c cX7_unsay 2 s args BIG RX7 := ⟨hx, hb, hml, hown, hB⟩
  unfold f_X7_unsay at hs
  refine lv_iload_n hx hb dX7_unsay_0 rfl (lv_at hl 1 rfl) ?_
  refine lv_iconst (v := 0) hx hb dX7_unsay_1 (by decide) ?_
  refine lv_aload_n hx hb dX7_unsay_2 rfl (lv_at hl 0 rfl) ?_
  refine mg_5 hx hb hB hown hK hP dX7_unsay_3 ?_
  refine lv_iconst (v := 1) hx hb dX7_unsay_6 (by decide) ?_
  refine lv_isub hx hb dX7_unsay_7 ?_
  refine cS_roi (As := [.int p1, .int (0 : Int32), .int ((st 5 0) - (1 : Int32))]) (rest := []) hC (m_X7_in l g (mW g b st) p1 (0 : Int32) ((st 5 0) - (1 : Int32))) (ks_of hB bw_8_19 bw_8_18 bw_1_5 kd_X7_in bw_8_17 rfl rfl ⟨Nat.le_of_ble_eq_true rfl, Nat.le_of_ble_eq_true rfl⟩) hK hP hP hS rfl hl.1 rfl (Nat.le_of_ble_eq_true rfl) dX7_unsay_8 ⟨Nat.zero_le _, Nat.zero_le _⟩ (fun H locs hP hS => ?_)
  refine lv_if_eq (tgt := 23) hx hb dX7_unsay_11 (by decide) (fun c1 => ?_) (fun c1 => ?_)
  · have hs := ifp c1 hs
    refine lv_bipush (v := -101) hx hb dX7_unsay_23 (by decide) ?_
    cases hs
    exact ret_rwi hx hb hr hlk hP hS dX7_unsay_25
  · have hs := ifn c1 hs
    refine lv_aload_n hx hb dX7_unsay_14 rfl (lv_at hl 0 rfl) ?_
    refine mg_10 hx hb hB hown hK hP dX7_unsay_15 ?_
    refine lv_iload_n hx hb dX7_unsay_18 rfl (lv_at hl 1 rfl) ?_
    obtain ⟨r2, e2, hs⟩ := Option.bind_eq_some_iff.mp hs
    refine ml_10 hx hb hK hP e2 dX7_unsay_19 ?_
    refine lv_if_ne (tgt := 26) hx hb dX7_unsay_20 (by decide) (fun c3 => ?_) (fun c3 => ?_)
    · have hs := ifn c3 hs
      refine lv_aload_n hx hb dX7_unsay_26 rfl (lv_at hl 0 rfl) ?_
      refine mg_10 hx hb hB hown hK hP dX7_unsay_27 ?_
      refine lv_iload_n hx hb dX7_unsay_30 rfl (lv_at hl 1 rfl) ?_
      refine lv_iconst (v := 0) hx hb dX7_unsay_31 (by decide) ?_
      obtain ⟨r4, e4, hs⟩ := Option.bind_eq_some_iff.mp hs
      refine ms_10 hx hb hK hP hD hS rfl e4 dX7_unsay_32 (fun H locs hP hS => ?_)
      refine lv_aload_n hx hb dX7_unsay_33 rfl (lv_at hl 0 rfl) ?_
      refine lv_iconst (v := 0) hx hb dX7_unsay_34 (by decide) ?_
      obtain ⟨r5, e5, hs⟩ := Option.bind_eq_some_iff.mp hs
      have e5 := Option.some.inj e5
      refine mp_11 hx hb hB hown hK hP hD hS (Or.inl rfl) e5 dX7_unsay_35 (fun H locs hP hS => ?_)
      refine lv_iconst (v := 1) hx hb dX7_unsay_38 (by decide) ?_
      cases hs
      exact ret_rwi hx hb hr hlk hP hS dX7_unsay_39
    · have hs := ifp c3 hs
      refine lv_bipush (v := -101) hx hb dX7_unsay_23 (by decide) ?_
      cases hs
      exact ret_rwi hx hb hr hlk hP hS dX7_unsay_25
noncomputable def f_X7_notion (st : MS) (p1 : Int32) (p2 : Int32) : Option Int32 :=
  (if (t_X7_isNotion st p1) = 0 then some ((-101 : Int32)) else (if p2 = 0 then (Option.bind (rd 28 (st 2) p1) (fun r7 => some (r7))) else (if p2 = (1 : Int32) then (Option.bind (rd 28 (st 3) p1) (fun r6 => some (r6))) else (if p2 = (2 : Int32) then (Option.bind (rd 28 (st 4) p1) (fun r5 => some (r5))) else some ((-102 : Int32))))))
set_option maxHeartbeats 4000000 in
set_option maxRecDepth 100000 in
theorem m_X7_notion (l : Launch) (g : GG) (b : Nat → Nat) (st : MS) (p1 : Int32) (p2 : Int32) (res : Int32) (hs : f_X7_notion st p1 p2 = some res) : Met l yX7_notion (Cond.code yX7_notion cX7_notion 3 (some .int) :: BIG) ({ frames := 2, cells := 0, slots := 0, locals := 43 } : Room) (va_Pc [.ref (b 0), .int p1, .int p2] (ROp g (mW g b st))) (ROi res) 0 0 (fun _ => False) := by
  refine ro_start (cc := cX7_notion) (maxL := 3) (ret := (some .int)) (lv := [(0, .ref (b 0)), (1, .int p1), (2, .int p2)]) (by decide) rfl (Nat.le_of_ble_eq_true rfl) rfl ?_
  intro p e s m args below meth c hx hb hml hr hts hown hlk hK H locs hP hS ls hl
  have hB : ∀ w ∈ BIG, w.before args s = true := fun w h => hts w (List.mem_cons_of_mem _ h)
  have hC : CallFix p m c cX7_notion 3 s args BIG RX7 := ⟨hx, hb, hml, hown, hB⟩
  unfold f_X7_notion at hs
  refine lv_aload_n hx hb dX7_notion_0 rfl (lv_at hl 0 rfl) ?_
  refine lv_iload_n hx hb dX7_notion_1 rfl (lv_at hl 1 rfl) ?_
  refine cV_roi (As := [.int p1]) (rest := []) hC (m_X7_isNotion l g b st p1) (kv_of hB bw_8_16 bw_8_14 bw_8_15 bw_1_5 kd_X7_isNotion bw_8_13 rfl rfl ⟨Nat.le_of_ble_eq_true rfl, Nat.le_of_ble_eq_true rfl⟩) hK hP hP hS (mW_0 g b st) rfl rfl hl.1 rfl (Nat.le_of_ble_eq_true rfl) dX7_notion_2 ⟨Nat.zero_le _, Nat.zero_le _⟩ (fun H locs hP hS => ?_)
  refine lv_if_ne (tgt := 11) hx hb dX7_notion_5 (by decide) (fun c1 => ?_) (fun c1 => ?_)
  · have hs := ifn c1 hs
    refine lv_iload_n hx hb dX7_notion_11 rfl (lv_at hl 2 rfl) ?_
    refine lv_if_ne (tgt := 24) hx hb dX7_notion_12 (by decide) (fun c2 => ?_) (fun c2 => ?_)
    · have hs := ifn c2 hs
      refine lv_iload_n hx hb dX7_notion_24 rfl (lv_at hl 2 rfl) ?_
      refine lv_iconst (v := 1) hx hb dX7_notion_25 (by decide) ?_
      refine lv_icmp_ne (tgt := 38) hx hb dX7_notion_26 (by decide) (fun c3 => ?_) (fun c3 => ?_)
      · have hs := ifn c3 hs
        refine lv_iload_n hx hb dX7_notion_38 rfl (lv_at hl 2 rfl) ?_
        refine lv_iconst (v := 2) hx hb dX7_notion_39 (by decide) ?_
        refine lv_icmp_ne (tgt := 52) hx hb dX7_notion_40 (by decide) (fun c4 => ?_) (fun c4 => ?_)
        · have hs := ifn c4 hs
          refine lv_bipush (v := -102) hx hb dX7_notion_52 (by decide) ?_
          cases hs
          exact ret_roi hx hb hr hlk hS dX7_notion_54
        · have hs := ifp c4 hs
          refine lv_aload_n hx hb dX7_notion_43 rfl (lv_at hl 0 rfl) ?_
          refine mg_4 hx hb hB hown hK hP dX7_notion_44 ?_
          refine lv_iload_n hx hb dX7_notion_47 rfl (lv_at hl 1 rfl) ?_
          obtain ⟨r5, e5, hs⟩ := Option.bind_eq_some_iff.mp hs
          refine ml_4 hx hb hK hP e5 dX7_notion_48 ?_
          refine lv_goto (tgt := 54) hx hb dX7_notion_49 (by decide) ?_
          cases hs
          exact ret_roi hx hb hr hlk hS dX7_notion_54
      · have hs := ifp c3 hs
        refine lv_aload_n hx hb dX7_notion_29 rfl (lv_at hl 0 rfl) ?_
        refine mg_3 hx hb hB hown hK hP dX7_notion_30 ?_
        refine lv_iload_n hx hb dX7_notion_33 rfl (lv_at hl 1 rfl) ?_
        obtain ⟨r6, e6, hs⟩ := Option.bind_eq_some_iff.mp hs
        refine ml_3 hx hb hK hP e6 dX7_notion_34 ?_
        refine lv_goto (tgt := 54) hx hb dX7_notion_35 (by decide) ?_
        cases hs
        exact ret_roi hx hb hr hlk hS dX7_notion_54
    · have hs := ifp c2 hs
      refine lv_aload_n hx hb dX7_notion_15 rfl (lv_at hl 0 rfl) ?_
      refine mg_2 hx hb hB hown hK hP dX7_notion_16 ?_
      refine lv_iload_n hx hb dX7_notion_19 rfl (lv_at hl 1 rfl) ?_
      obtain ⟨r7, e7, hs⟩ := Option.bind_eq_some_iff.mp hs
      refine ml_2 hx hb hK hP e7 dX7_notion_20 ?_
      refine lv_goto (tgt := 54) hx hb dX7_notion_21 (by decide) ?_
      cases hs
      exact ret_roi hx hb hr hlk hS dX7_notion_54
  · have hs := ifp c1 hs
    refine lv_bipush (v := -101) hx hb dX7_notion_8 (by decide) ?_
    cases hs
    exact ret_roi hx hb hr hlk hS dX7_notion_10
