def t_X6_at (n : Nat) (f : Nat → Int32) (i : Int32) : Int32 := if i < 0 then -1 else if Int32.ofNat n ≤ i then -1 else f i.toNatClampNeg
def t_X6_longAt (n : Nat) (f : Nat → Int64) (i : Int32) : Int64 := if i < 0 then 4611686018427387904 else if Int32.ofNat n ≤ i then 4611686018427387904 else f i.toNatClampNeg
def t_X6_put (n : Nat) (f : Nat → Int32) (i v : Int32) : Nat → Int32 := if i < 0 then f else if Int32.ofNat n ≤ i then f else upd f i.toNatClampNeg v
def t_X6_putLong (n : Nat) (f : Nat → Int64) (i : Int32) (v : Int64) : Nat → Int64 := if i < 0 then f else if Int32.ofNat n ≤ i then f else vp_updL f i.toNatClampNeg v
noncomputable def b_X6_fill (n : Nat) (v i : Int32) (f : Nat → Int32) : Option ((Int32 × (Nat → Int32)) ⊕ (Nat → Int32)) := if Int32.ofNat n ≤ i then some (Sum.inr f) else Option.bind (wr n f i v) (fun f2 => some (Sum.inl (i + 1, f2)))
noncomputable def f_X6_fill (n : Nat) (f : Nat → Int32) (v : Int32) : Option (Nat → Int32) := loopC (fun x => b_X6_fill n v x.1 x.2) (0, f)
set_option maxHeartbeats 4000000 in
set_option maxRecDepth 100000 in
theorem m_X6_at (l : Launch) (g : GG) (w : va_W) (q0 n : Nat) (f : Nat → Int32) (b : Nat) (hq : w[q0]? = some (b, .inl (g.2.1, n, .inl f))) (hn : n < 2 ^ 31) (p1 : Int32) : Met l yX6_at (Cond.code yX6_at cX6_at 2 (some .int) :: BIG) ({ frames := 0, cells := 0, slots := 0, locals := 0 } : Room) (va_Pc [.ref b, .int p1] (ROp g w)) (ROi (t_X6_at n f p1)) 0 0 (fun _ => False) := by
  obtain ⟨res, hs⟩ : ∃ z, t_X6_at n f p1 = z := ⟨_, rfl⟩
  rw [hs]
  refine ro_start (cc := cX6_at) (maxL := 2) (ret := some .int) (lv := [(0, .ref b), (1, .int p1)]) (by decide) rfl (Nat.le_of_ble_eq_true rfl) rfl ?_
  intro p e s m args below meth c hx hb hml hr hts hown hlk hK H locs hP hS ls hl
  have hB : ∀ w ∈ BIG, w.before args s = true := fun w h => hts w (List.mem_cons_of_mem _ h)
  unfold t_X6_at at hs
  refine lv_iload_n hx hb dX6_at_0 rfl (lv_at hl 1 rfl) ?_
  refine lv_if_lt (tgt := 16) hx hb dX6_at_1 (by decide) (fun c1 => ?_) (fun c1 => ?_)
  · have hs := ifp c1 hs
    subst hs
    refine lv_iconst (v := -1) hx hb dX6_at_16 (by decide) ?_
    exact ret_roi hx hb hr hlk hS dX6_at_17
  · have hs := ifn c1 hs
    refine lv_iload_n hx hb dX6_at_4 rfl (lv_at hl 1 rfl) ?_
    refine lv_aload_n hx hb dX6_at_5 rfl (lv_at hl 0 rfl) ?_
    refine len_I (v := Int32.ofNat n) hx hb hK hP hq rfl dX6_at_6 ?_
    refine lv_icmp_ge (tgt := 16) hx hb dX6_at_7 (by decide) (fun c2 => ?_) (fun c2 => ?_)
    · have hs := ifp c2 hs
      subst hs
      refine lv_iconst (v := -1) hx hb dX6_at_16 (by decide) ?_
      exact ret_roi hx hb hr hlk hS dX6_at_17
    · have hs := ifn c2 hs
      subst hs
      refine lv_aload_n hx hb dX6_at_10 rfl (lv_at hl 0 rfl) ?_
      refine lv_iload_n hx hb dX6_at_11 rfl (lv_at hl 1 rfl) ?_
      refine ld_I hx hb hK hP hq (rd_of (in_of hn c1 c2)) dX6_at_12 ?_
      refine lv_goto (tgt := 17) hx hb dX6_at_13 (by decide) ?_
      exact ret_roi hx hb hr hlk hS dX6_at_17
set_option maxHeartbeats 4000000 in
set_option maxRecDepth 100000 in
theorem m_X6_longAt (l : Launch) (g : GG) (w : va_W) (q0 n : Nat) (f : Nat → Int64) (b : Nat) (hq : w[q0]? = some (b, .inl (g.2.2.1, n, .inr (.inl f)))) (hn : n < 2 ^ 31) (p1 : Int32) : Met l yX6_longAt (Cond.code yX6_longAt cX6_longAt 2 (some .long) :: BIG) ({ frames := 0, cells := 0, slots := 0, locals := 0 } : Room) (va_Pc [.ref b, .int p1] (ROp g w)) (ROl (t_X6_longAt n f p1)) 0 0 (fun _ => False) := by
  obtain ⟨res, hs⟩ : ∃ z, t_X6_longAt n f p1 = z := ⟨_, rfl⟩
  rw [hs]
  refine ro_start (cc := cX6_longAt) (maxL := 2) (ret := some .long) (lv := [(0, .ref b), (1, .int p1)]) (by decide) rfl (Nat.le_of_ble_eq_true rfl) rfl ?_
  intro p e s m args below meth c hx hb hml hr hts hown hlk hK H locs hP hS ls hl
  have hB : ∀ w ∈ BIG, w.before args s = true := fun w h => hts w (List.mem_cons_of_mem _ h)
  unfold t_X6_longAt at hs
  refine lv_iload_n hx hb dX6_longAt_0 rfl (lv_at hl 1 rfl) ?_
  refine lv_if_lt (tgt := 16) hx hb dX6_longAt_1 (by decide) (fun c1 => ?_) (fun c1 => ?_)
  · have hs := ifp c1 hs
    subst hs
    refine lv_ldc2 hx hb hown (hB _ bw_15_23) dX6_longAt_16 ?_
    exact ret_rol hx hb hr hlk hS dX6_longAt_19
  · have hs := ifn c1 hs
    refine lv_iload_n hx hb dX6_longAt_4 rfl (lv_at hl 1 rfl) ?_
    refine lv_aload_n hx hb dX6_longAt_5 rfl (lv_at hl 0 rfl) ?_
    refine len_J (v := Int32.ofNat n) hx hb hK hP hq rfl dX6_longAt_6 ?_
    refine lv_icmp_ge (tgt := 16) hx hb dX6_longAt_7 (by decide) (fun c2 => ?_) (fun c2 => ?_)
    · have hs := ifp c2 hs
      subst hs
      refine lv_ldc2 hx hb hown (hB _ bw_15_23) dX6_longAt_16 ?_
      exact ret_rol hx hb hr hlk hS dX6_longAt_19
    · have hs := ifn c2 hs
      subst hs
      refine lv_aload_n hx hb dX6_longAt_10 rfl (lv_at hl 0 rfl) ?_
      refine lv_iload_n hx hb dX6_longAt_11 rfl (lv_at hl 1 rfl) ?_
      refine ld_J hx hb hK hP hq (rd_of (in_of hn c1 c2)) dX6_longAt_12 ?_
      refine lv_goto (tgt := 19) hx hb dX6_longAt_13 (by decide) ?_
      exact ret_rol hx hb hr hlk hS dX6_longAt_19
set_option maxHeartbeats 4000000 in
set_option maxRecDepth 100000 in
theorem m_X6_put (l : Launch) (g : GG) (w : va_W) (q0 n : Nat) (f : Nat → Int32) (b : Nat) (hq : w[q0]? = some (b, .inl (g.2.1, n, .inl f))) (hn : n < 2 ^ 31) (sz : Nat) (p1 : Int32) (p2 : Int32) : Met l yX6_put (Cond.code yX6_put cX6_put 3 none :: BIG) ({ frames := 0, cells := 0, slots := 0, locals := 0 } : Room) (va_Pc [.ref b, .int p1, .int p2] (RWp g w sz)) (RWv g (w.set q0 (b, .inl (g.2.1, n, .inl (t_X6_put n f p1 p2)))) (va_A w sz)) 0 0 (va_A w sz) := by
  obtain ⟨res, hs⟩ : ∃ z, t_X6_put n f p1 p2 = z := ⟨_, rfl⟩
  rw [hs]
  refine rw_start (cc := cX6_put) (maxL := 3) (ret := none) (lv := [(0, .ref b), (1, .int p1), (2, .int p2)]) (Qc := fun A => RWv g (w.set q0 (b, .inl (g.2.1, n, .inl res))) A) (by decide) rfl (Nat.le_of_ble_eq_true rfl) rfl ?_
  intro p e s m args below meth c hx hb hml hr hts hown hlk hK A hD hA H locs hP hS ls hl
  unfold t_X6_put at hs
  refine lv_iload_n hx hb dX6_put_0 rfl (lv_at hl 1 rfl) ?_
  refine lv_if_lt (tgt := 14) hx hb dX6_put_1 (by decide) (fun c1 => ?_) (fun c1 => ?_)
  · have hs := ifp c1 hs
    subst hs
    rw [set_same hq]
    exact ret_rwv hx hb hr hlk hP hS dX6_put_14
  · have hs := ifn c1 hs
    refine lv_iload_n hx hb dX6_put_4 rfl (lv_at hl 1 rfl) ?_
    refine lv_aload_n hx hb dX6_put_5 rfl (lv_at hl 0 rfl) ?_
    refine len_I (v := Int32.ofNat n) hx hb hK hP hq rfl dX6_put_6 ?_
    refine lv_icmp_ge (tgt := 14) hx hb dX6_put_7 (by decide) (fun c2 => ?_) (fun c2 => ?_)
    · have hs := ifp c2 hs
      subst hs
      rw [set_same hq]
      exact ret_rwv hx hb hr hlk hP hS dX6_put_14
    · have hs := ifn c2 hs
      subst hs
      refine lv_aload_n hx hb dX6_put_10 rfl (lv_at hl 0 rfl) ?_
      refine lv_iload_n hx hb dX6_put_11 rfl (lv_at hl 1 rfl) ?_
      refine lv_iload_n hx hb dX6_put_12 rfl (lv_at hl 2 rfl) ?_
      refine st_I hx hb hK hP hD hS hq (wr_of (in_of hn c1 c2)) dX6_put_13 (fun H locs hP hS => ?_)
      exact ret_rwv hx hb hr hlk hP hS dX6_put_14
set_option maxHeartbeats 4000000 in
set_option maxRecDepth 100000 in
theorem m_X6_putLong (l : Launch) (g : GG) (w : va_W) (q0 n : Nat) (f : Nat → Int64) (b : Nat) (hq : w[q0]? = some (b, .inl (g.2.2.1, n, .inr (.inl f)))) (hn : n < 2 ^ 31) (sz : Nat) (p1 : Int32) (p2 : Int64) : Met l yX6_putLong (Cond.code yX6_putLong cX6_putLong 4 none :: BIG) ({ frames := 0, cells := 0, slots := 0, locals := 0 } : Room) (va_Pc [.ref b, .int p1, .long p2] (RWp g w sz)) (RWv g (w.set q0 (b, .inl (g.2.2.1, n, .inr (.inl (t_X6_putLong n f p1 p2))))) (va_A w sz)) 0 0 (va_A w sz) := by
  obtain ⟨res, hs⟩ : ∃ z, t_X6_putLong n f p1 p2 = z := ⟨_, rfl⟩
  rw [hs]
  refine rw_start (cc := cX6_putLong) (maxL := 4) (ret := none) (lv := [(0, .ref b), (1, .int p1), (2, .long p2)]) (Qc := fun A => RWv g (w.set q0 (b, .inl (g.2.2.1, n, .inr (.inl res)))) A) (by decide) rfl (Nat.le_of_ble_eq_true rfl) rfl ?_
  intro p e s m args below meth c hx hb hml hr hts hown hlk hK A hD hA H locs hP hS ls hl
  unfold t_X6_putLong at hs
  refine lv_iload_n hx hb dX6_putLong_0 rfl (lv_at hl 1 rfl) ?_
  refine lv_if_lt (tgt := 14) hx hb dX6_putLong_1 (by decide) (fun c1 => ?_) (fun c1 => ?_)
  · have hs := ifp c1 hs
    subst hs
    rw [set_same hq]
    exact ret_rwv hx hb hr hlk hP hS dX6_putLong_14
  · have hs := ifn c1 hs
    refine lv_iload_n hx hb dX6_putLong_4 rfl (lv_at hl 1 rfl) ?_
    refine lv_aload_n hx hb dX6_putLong_5 rfl (lv_at hl 0 rfl) ?_
    refine len_J (v := Int32.ofNat n) hx hb hK hP hq rfl dX6_putLong_6 ?_
    refine lv_icmp_ge (tgt := 14) hx hb dX6_putLong_7 (by decide) (fun c2 => ?_) (fun c2 => ?_)
    · have hs := ifp c2 hs
      subst hs
      rw [set_same hq]
      exact ret_rwv hx hb hr hlk hP hS dX6_putLong_14
    · have hs := ifn c2 hs
      subst hs
      refine lv_aload_n hx hb dX6_putLong_10 rfl (lv_at hl 0 rfl) ?_
      refine lv_iload_n hx hb dX6_putLong_11 rfl (lv_at hl 1 rfl) ?_
      refine lv_lload_n hx hb dX6_putLong_12 rfl (lv_at hl 2 rfl) ?_
      refine st_J hx hb hK hP hD hS hq (wrL_of (in_of hn c1 c2)) dX6_putLong_13 (fun H locs hP hS => ?_)
      exact ret_rwv hx hb hr hlk hP hS dX6_putLong_14
set_option maxHeartbeats 4000000 in
set_option maxRecDepth 100000 in
theorem m_X6_fill (l : Launch) (g : GG) (w : va_W) (q0 n : Nat) (f : Nat → Int32) (b : Nat) (hq : w[q0]? = some (b, .inl (g.2.1, n, .inl f))) (sz : Nat) (p1 : Int32) (res : Nat → Int32) (hs : f_X6_fill n f p1 = some res) : Met l yX6_fill (Cond.code yX6_fill cX6_fill 3 none :: BIG) ({ frames := 0, cells := 0, slots := 0, locals := 0 } : Room) (va_Pc [.ref b, .int p1] (RWp g w sz)) (RWv g (w.set q0 (b, .inl (g.2.1, n, .inl res))) (va_A w sz)) 0 0 (va_A w sz) := by
  refine rw_start (cc := cX6_fill) (maxL := 3) (ret := none) (lv := [(0, .ref b), (1, .int p1)]) (Qc := fun A => RWv g (w.set q0 (b, .inl (g.2.1, n, .inl res))) A) (by decide) rfl (Nat.le_of_ble_eq_true rfl) rfl ?_
  intro p e s m args below meth c hx hb hml hr hts hown hlk hK A hD hA H locs hP hS ls hl
  unfold f_X6_fill at hs
  have hlt : q0 < w.length := (List.getElem?_eq_some_iff.mp hq).1
  have hD : ∀ f2 : Nat → Int32, va_D A (w.set q0 (b, .inl (g.2.1, n, .inl f2))) := fun f2 => hD.set hq
  have hq2 : ∀ f2 : Nat → Int32, (w.set q0 (b, .inl (g.2.1, n, .inl f2)))[q0]? = some (b, .inl (g.2.1, n, .inl f2)) := fun f2 => by rw [List.getElem?_set, if_pos rfl, if_pos hlt]
  rw [← set_same hq] at hP
  refine lv_iconst (v := 0) hx hb dX6_fill_0 (by decide) ?_
  refine lv_istore_n (lv' := [(2, .int (0 : Int32)), (0, .ref b), (1, .int p1)]) hx hb dX6_fill_1 rfl hl (by decide) rfl (fun ls hl => ?_)
  obtain ⟨n2, hs⟩ := loopC_iter hs
  have L2 : ∀ (k : Nat) (i : Int32) (f : Nat → Int32), iterO (fun x => b_X6_fill n p1 x.1 x.2) k (i, f) = some res → ∀ (H : Heap) (locs : List Loc), va_P g.1 vwCl (w.set q0 (b, .inl (g.2.1, n, .inl f))) H → va_S A s.heap H locs → ∀ ls : Array Slot, lv_has ls 3 [(0, .ref b), (1, .int p1), (2, .int i)] → W p l e ({ frames := 0, cells := 0, slots := 0, locals := 0 } : Room) s m args below meth c H locs 0 0 (MQ below (RWv g (w.set q0 (b, .inl (g.2.1, n, .inl res))) A) args s 0 0 A) (F0 m 2 ls []) := by
    intro k
    induction k with
    | zero => intro i f hs; exact (iterO_zero hs).elim
    | succ k ih =>
      intro i f hs H locs hP hS ls hl
      obtain ⟨y, hs, hk⟩ := iterO_succ hs
      have hs : b_X6_fill n p1 i f = some y := hs
      unfold b_X6_fill at hs
      refine lv_iload_n hx hb dX6_fill_2 rfl (lv_at hl 2 rfl) ?_
      refine lv_aload_n hx hb dX6_fill_3 rfl (lv_at hl 0 rfl) ?_
      refine len_I (v := Int32.ofNat n) hx hb hK hP (hq2 f) rfl dX6_fill_4 ?_
      refine lv_icmp_ge (tgt := 18) hx hb dX6_fill_5 (by decide) (fun c2 => ?_) (fun c2 => ?_)
      · have hs := ifp c2 hs
        cases hs
        cases elim_inr hk
        exact ret_rwv hx hb hr hlk hP hS dX6_fill_18
      · have hs := ifn c2 hs
        obtain ⟨f2, e2, hs⟩ := Option.bind_eq_some_iff.mp hs
        refine lv_aload_n hx hb dX6_fill_8 rfl (lv_at hl 0 rfl) ?_
        refine lv_iload_n hx hb dX6_fill_9 rfl (lv_at hl 2 rfl) ?_
        refine lv_iload_n hx hb dX6_fill_10 rfl (lv_at hl 1 rfl) ?_
        refine st_I hx hb hK hP (hD f) hS (hq2 f) e2 dX6_fill_11 (fun H locs hP hS => ?_)
        rw [List.set_set] at hP
        refine lv_iinc (v := (i + 1)) (lv' := [(2, .int (i + 1)), (0, .ref b), (1, .int p1)]) hx hb dX6_fill_12 hl (k := 2) rfl (by rfl) (by decide) rfl (fun ls hl => ?_)
        refine lv_goto (tgt := 2) hx hb dX6_fill_15 (by decide) ?_
        cases hs
        exact ih (i + 1) f2 hk _ _ hP hS _ (lv_sub hl [1, 2, 0] rfl)
  exact L2 n2 0 f hs _ _ hP hS _ (lv_sub hl [1, 2, 0] rfl)
theorem m_X6_put_2 (l : Launch) (g : GG) (a : Nat → Nat) (st st2 : XS) (sz : Nat) (p1 p2 : Int32) (he : sA st 2 (t_X6_put 60 (st.1 2) p1 p2) = st2) : Met l yX6_put (Cond.code yX6_put cX6_put 3 none :: BIG) ({ frames := 0, cells := 0, slots := 0, locals := 0 } : Room) (va_Pc [.ref (a 2), .int p1, .int p2] (RWp g (xW g a st) sz)) (RWv g (xW g a st2) (va_A (xW g a st) sz)) 0 0 (va_A (xW g a st) sz) := by
  subst he
  exact m_X6_put l g (xW g a st) 2 60 (st.1 2) (a 2) (xW_2 g a st) (by decide) sz p1 p2
theorem m_X6_fill_2 (l : Launch) (g : GG) (a : Nat → Nat) (st st2 : XS) (sz : Nat) (p1 : Int32) (he : (f_X6_fill 60 (st.1 2) p1).map (sA st 2) = some st2) : Met l yX6_fill (Cond.code yX6_fill cX6_fill 3 none :: BIG) ({ frames := 0, cells := 0, slots := 0, locals := 0 } : Room) (va_Pc [.ref (a 2), .int p1] (RWp g (xW g a st) sz)) (RWv g (xW g a st2) (va_A (xW g a st) sz)) 0 0 (va_A (xW g a st) sz) := by
  obtain ⟨f, h1, h2⟩ := Option.map_eq_some_iff.mp he
  subst h2
  exact m_X6_fill l g (xW g a st) 2 60 (st.1 2) (a 2) (xW_2 g a st) sz p1 f h1
theorem m_X6_put_4 (l : Launch) (g : GG) (a : Nat → Nat) (st st2 : XS) (sz : Nat) (p1 p2 : Int32) (he : sA st 4 (t_X6_put 200 (st.1 4) p1 p2) = st2) : Met l yX6_put (Cond.code yX6_put cX6_put 3 none :: BIG) ({ frames := 0, cells := 0, slots := 0, locals := 0 } : Room) (va_Pc [.ref (a 4), .int p1, .int p2] (RWp g (xW g a st) sz)) (RWv g (xW g a st2) (va_A (xW g a st) sz)) 0 0 (va_A (xW g a st) sz) := by
  subst he
  exact m_X6_put l g (xW g a st) 4 200 (st.1 4) (a 4) (xW_4 g a st) (by decide) sz p1 p2
theorem m_X6_fill_4 (l : Launch) (g : GG) (a : Nat → Nat) (st st2 : XS) (sz : Nat) (p1 : Int32) (he : (f_X6_fill 200 (st.1 4) p1).map (sA st 4) = some st2) : Met l yX6_fill (Cond.code yX6_fill cX6_fill 3 none :: BIG) ({ frames := 0, cells := 0, slots := 0, locals := 0 } : Room) (va_Pc [.ref (a 4), .int p1] (RWp g (xW g a st) sz)) (RWv g (xW g a st2) (va_A (xW g a st) sz)) 0 0 (va_A (xW g a st) sz) := by
  obtain ⟨f, h1, h2⟩ := Option.map_eq_some_iff.mp he
  subst h2
  exact m_X6_fill l g (xW g a st) 4 200 (st.1 4) (a 4) (xW_4 g a st) sz p1 f h1
theorem m_X6_put_6 (l : Launch) (g : GG) (a : Nat → Nat) (st st2 : XS) (sz : Nat) (p1 p2 : Int32) (he : sA st 6 (t_X6_put 16 (st.1 6) p1 p2) = st2) : Met l yX6_put (Cond.code yX6_put cX6_put 3 none :: BIG) ({ frames := 0, cells := 0, slots := 0, locals := 0 } : Room) (va_Pc [.ref (a 6), .int p1, .int p2] (RWp g (xW g a st) sz)) (RWv g (xW g a st2) (va_A (xW g a st) sz)) 0 0 (va_A (xW g a st) sz) := by
  subst he
  exact m_X6_put l g (xW g a st) 6 16 (st.1 6) (a 6) (xW_6 g a st) (by decide) sz p1 p2
theorem m_X6_fill_6 (l : Launch) (g : GG) (a : Nat → Nat) (st st2 : XS) (sz : Nat) (p1 : Int32) (he : (f_X6_fill 16 (st.1 6) p1).map (sA st 6) = some st2) : Met l yX6_fill (Cond.code yX6_fill cX6_fill 3 none :: BIG) ({ frames := 0, cells := 0, slots := 0, locals := 0 } : Room) (va_Pc [.ref (a 6), .int p1] (RWp g (xW g a st) sz)) (RWv g (xW g a st2) (va_A (xW g a st) sz)) 0 0 (va_A (xW g a st) sz) := by
  obtain ⟨f, h1, h2⟩ := Option.map_eq_some_iff.mp he
  subst h2
  exact m_X6_fill l g (xW g a st) 6 16 (st.1 6) (a 6) (xW_6 g a st) sz p1 f h1
theorem m_X6_put_7 (l : Launch) (g : GG) (a : Nat → Nat) (st st2 : XS) (sz : Nat) (p1 p2 : Int32) (he : sA st 7 (t_X6_put 64 (st.1 7) p1 p2) = st2) : Met l yX6_put (Cond.code yX6_put cX6_put 3 none :: BIG) ({ frames := 0, cells := 0, slots := 0, locals := 0 } : Room) (va_Pc [.ref (a 7), .int p1, .int p2] (RWp g (xW g a st) sz)) (RWv g (xW g a st2) (va_A (xW g a st) sz)) 0 0 (va_A (xW g a st) sz) := by
  subst he
  exact m_X6_put l g (xW g a st) 7 64 (st.1 7) (a 7) (xW_7 g a st) (by decide) sz p1 p2
theorem m_X6_fill_7 (l : Launch) (g : GG) (a : Nat → Nat) (st st2 : XS) (sz : Nat) (p1 : Int32) (he : (f_X6_fill 64 (st.1 7) p1).map (sA st 7) = some st2) : Met l yX6_fill (Cond.code yX6_fill cX6_fill 3 none :: BIG) ({ frames := 0, cells := 0, slots := 0, locals := 0 } : Room) (va_Pc [.ref (a 7), .int p1] (RWp g (xW g a st) sz)) (RWv g (xW g a st2) (va_A (xW g a st) sz)) 0 0 (va_A (xW g a st) sz) := by
  obtain ⟨f, h1, h2⟩ := Option.map_eq_some_iff.mp he
  subst h2
  exact m_X6_fill l g (xW g a st) 7 64 (st.1 7) (a 7) (xW_7 g a st) sz p1 f h1
theorem m_X6_put_9 (l : Launch) (g : GG) (a : Nat → Nat) (st st2 : XS) (sz : Nat) (p1 p2 : Int32) (he : sA st 9 (t_X6_put 2000 (st.1 9) p1 p2) = st2) : Met l yX6_put (Cond.code yX6_put cX6_put 3 none :: BIG) ({ frames := 0, cells := 0, slots := 0, locals := 0 } : Room) (va_Pc [.ref (a 9), .int p1, .int p2] (RWp g (xW g a st) sz)) (RWv g (xW g a st2) (va_A (xW g a st) sz)) 0 0 (va_A (xW g a st) sz) := by
  subst he
  exact m_X6_put l g (xW g a st) 9 2000 (st.1 9) (a 9) (xW_9 g a st) (by decide) sz p1 p2
theorem m_X6_fill_9 (l : Launch) (g : GG) (a : Nat → Nat) (st st2 : XS) (sz : Nat) (p1 : Int32) (he : (f_X6_fill 2000 (st.1 9) p1).map (sA st 9) = some st2) : Met l yX6_fill (Cond.code yX6_fill cX6_fill 3 none :: BIG) ({ frames := 0, cells := 0, slots := 0, locals := 0 } : Room) (va_Pc [.ref (a 9), .int p1] (RWp g (xW g a st) sz)) (RWv g (xW g a st2) (va_A (xW g a st) sz)) 0 0 (va_A (xW g a st) sz) := by
  obtain ⟨f, h1, h2⟩ := Option.map_eq_some_iff.mp he
  subst h2
  exact m_X6_fill l g (xW g a st) 9 2000 (st.1 9) (a 9) (xW_9 g a st) sz p1 f h1
theorem m_X6_put_10 (l : Launch) (g : GG) (a : Nat → Nat) (st st2 : XS) (sz : Nat) (p1 p2 : Int32) (he : sA st 10 (t_X6_put 2000 (st.1 10) p1 p2) = st2) : Met l yX6_put (Cond.code yX6_put cX6_put 3 none :: BIG) ({ frames := 0, cells := 0, slots := 0, locals := 0 } : Room) (va_Pc [.ref (a 10), .int p1, .int p2] (RWp g (xW g a st) sz)) (RWv g (xW g a st2) (va_A (xW g a st) sz)) 0 0 (va_A (xW g a st) sz) := by
  subst he
  exact m_X6_put l g (xW g a st) 10 2000 (st.1 10) (a 10) (xW_10 g a st) (by decide) sz p1 p2
theorem m_X6_fill_10 (l : Launch) (g : GG) (a : Nat → Nat) (st st2 : XS) (sz : Nat) (p1 : Int32) (he : (f_X6_fill 2000 (st.1 10) p1).map (sA st 10) = some st2) : Met l yX6_fill (Cond.code yX6_fill cX6_fill 3 none :: BIG) ({ frames := 0, cells := 0, slots := 0, locals := 0 } : Room) (va_Pc [.ref (a 10), .int p1] (RWp g (xW g a st) sz)) (RWv g (xW g a st2) (va_A (xW g a st) sz)) 0 0 (va_A (xW g a st) sz) := by
  obtain ⟨f, h1, h2⟩ := Option.map_eq_some_iff.mp he
  subst h2
  exact m_X6_fill l g (xW g a st) 10 2000 (st.1 10) (a 10) (xW_10 g a st) sz p1 f h1
theorem m_X6_put_11 (l : Launch) (g : GG) (a : Nat → Nat) (st st2 : XS) (sz : Nat) (p1 p2 : Int32) (he : sA st 11 (t_X6_put 2000 (st.1 11) p1 p2) = st2) : Met l yX6_put (Cond.code yX6_put cX6_put 3 none :: BIG) ({ frames := 0, cells := 0, slots := 0, locals := 0 } : Room) (va_Pc [.ref (a 11), .int p1, .int p2] (RWp g (xW g a st) sz)) (RWv g (xW g a st2) (va_A (xW g a st) sz)) 0 0 (va_A (xW g a st) sz) := by
  subst he
  exact m_X6_put l g (xW g a st) 11 2000 (st.1 11) (a 11) (xW_11 g a st) (by decide) sz p1 p2
theorem m_X6_fill_11 (l : Launch) (g : GG) (a : Nat → Nat) (st st2 : XS) (sz : Nat) (p1 : Int32) (he : (f_X6_fill 2000 (st.1 11) p1).map (sA st 11) = some st2) : Met l yX6_fill (Cond.code yX6_fill cX6_fill 3 none :: BIG) ({ frames := 0, cells := 0, slots := 0, locals := 0 } : Room) (va_Pc [.ref (a 11), .int p1] (RWp g (xW g a st) sz)) (RWv g (xW g a st2) (va_A (xW g a st) sz)) 0 0 (va_A (xW g a st) sz) := by
  obtain ⟨f, h1, h2⟩ := Option.map_eq_some_iff.mp he
  subst h2
  exact m_X6_fill l g (xW g a st) 11 2000 (st.1 11) (a 11) (xW_11 g a st) sz p1 f h1
theorem m_X6_putLong_12 (l : Launch) (g : GG) (a : Nat → Nat) (st st2 : XS) (sz : Nat) (p1 : Int32) (p2 : Int64) (he : sL st 12 (t_X6_putLong 2000 (st.2 12) p1 p2) = st2) : Met l yX6_putLong (Cond.code yX6_putLong cX6_putLong 4 none :: BIG) ({ frames := 0, cells := 0, slots := 0, locals := 0 } : Room) (va_Pc [.ref (a 12), .int p1, .long p2] (RWp g (xW g a st) sz)) (RWv g (xW g a st2) (va_A (xW g a st) sz)) 0 0 (va_A (xW g a st) sz) := by
  subst he
  exact m_X6_putLong l g (xW g a st) 12 2000 (st.2 12) (a 12) (xW_12 g a st) (by decide) sz p1 p2
theorem m_X6_put_13 (l : Launch) (g : GG) (a : Nat → Nat) (st st2 : XS) (sz : Nat) (p1 p2 : Int32) (he : sA st 13 (t_X6_put 2000 (st.1 13) p1 p2) = st2) : Met l yX6_put (Cond.code yX6_put cX6_put 3 none :: BIG) ({ frames := 0, cells := 0, slots := 0, locals := 0 } : Room) (va_Pc [.ref (a 13), .int p1, .int p2] (RWp g (xW g a st) sz)) (RWv g (xW g a st2) (va_A (xW g a st) sz)) 0 0 (va_A (xW g a st) sz) := by
  subst he
  exact m_X6_put l g (xW g a st) 13 2000 (st.1 13) (a 13) (xW_13 g a st) (by decide) sz p1 p2
theorem m_X6_fill_13 (l : Launch) (g : GG) (a : Nat → Nat) (st st2 : XS) (sz : Nat) (p1 : Int32) (he : (f_X6_fill 2000 (st.1 13) p1).map (sA st 13) = some st2) : Met l yX6_fill (Cond.code yX6_fill cX6_fill 3 none :: BIG) ({ frames := 0, cells := 0, slots := 0, locals := 0 } : Room) (va_Pc [.ref (a 13), .int p1] (RWp g (xW g a st) sz)) (RWv g (xW g a st2) (va_A (xW g a st) sz)) 0 0 (va_A (xW g a st) sz) := by
  obtain ⟨f, h1, h2⟩ := Option.map_eq_some_iff.mp he
  subst h2
  exact m_X6_fill l g (xW g a st) 13 2000 (st.1 13) (a 13) (xW_13 g a st) sz p1 f h1
theorem m_X6_putLong_15 (l : Launch) (g : GG) (a : Nat → Nat) (st st2 : XS) (sz : Nat) (p1 : Int32) (p2 : Int64) (he : sL st 15 (t_X6_putLong 2000 (st.2 15) p1 p2) = st2) : Met l yX6_putLong (Cond.code yX6_putLong cX6_putLong 4 none :: BIG) ({ frames := 0, cells := 0, slots := 0, locals := 0 } : Room) (va_Pc [.ref (a 15), .int p1, .long p2] (RWp g (xW g a st) sz)) (RWv g (xW g a st2) (va_A (xW g a st) sz)) 0 0 (va_A (xW g a st) sz) := by
  subst he
  exact m_X6_putLong l g (xW g a st) 15 2000 (st.2 15) (a 15) (xW_15 g a st) (by decide) sz p1 p2
theorem m_X6_put_17 (l : Launch) (g : GG) (a : Nat → Nat) (st st2 : XS) (sz : Nat) (p1 p2 : Int32) (he : sA st 17 (t_X6_put 20 (st.1 17) p1 p2) = st2) : Met l yX6_put (Cond.code yX6_put cX6_put 3 none :: BIG) ({ frames := 0, cells := 0, slots := 0, locals := 0 } : Room) (va_Pc [.ref (a 17), .int p1, .int p2] (RWp g (xW g a st) sz)) (RWv g (xW g a st2) (va_A (xW g a st) sz)) 0 0 (va_A (xW g a st) sz) := by
  subst he
  exact m_X6_put l g (xW g a st) 17 20 (st.1 17) (a 17) (xW_17 g a st) (by decide) sz p1 p2
theorem m_X6_fill_17 (l : Launch) (g : GG) (a : Nat → Nat) (st st2 : XS) (sz : Nat) (p1 : Int32) (he : (f_X6_fill 20 (st.1 17) p1).map (sA st 17) = some st2) : Met l yX6_fill (Cond.code yX6_fill cX6_fill 3 none :: BIG) ({ frames := 0, cells := 0, slots := 0, locals := 0 } : Room) (va_Pc [.ref (a 17), .int p1] (RWp g (xW g a st) sz)) (RWv g (xW g a st2) (va_A (xW g a st) sz)) 0 0 (va_A (xW g a st) sz) := by
  obtain ⟨f, h1, h2⟩ := Option.map_eq_some_iff.mp he
  subst h2
  exact m_X6_fill l g (xW g a st) 17 20 (st.1 17) (a 17) (xW_17 g a st) sz p1 f h1
theorem m_X6_put_18 (l : Launch) (g : GG) (a : Nat → Nat) (st st2 : XS) (sz : Nat) (p1 p2 : Int32) (he : sA st 18 (t_X6_put 80 (st.1 18) p1 p2) = st2) : Met l yX6_put (Cond.code yX6_put cX6_put 3 none :: BIG) ({ frames := 0, cells := 0, slots := 0, locals := 0 } : Room) (va_Pc [.ref (a 18), .int p1, .int p2] (RWp g (xW g a st) sz)) (RWv g (xW g a st2) (va_A (xW g a st) sz)) 0 0 (va_A (xW g a st) sz) := by
  subst he
  exact m_X6_put l g (xW g a st) 18 80 (st.1 18) (a 18) (xW_18 g a st) (by decide) sz p1 p2
theorem m_X6_fill_18 (l : Launch) (g : GG) (a : Nat → Nat) (st st2 : XS) (sz : Nat) (p1 : Int32) (he : (f_X6_fill 80 (st.1 18) p1).map (sA st 18) = some st2) : Met l yX6_fill (Cond.code yX6_fill cX6_fill 3 none :: BIG) ({ frames := 0, cells := 0, slots := 0, locals := 0 } : Room) (va_Pc [.ref (a 18), .int p1] (RWp g (xW g a st) sz)) (RWv g (xW g a st2) (va_A (xW g a st) sz)) 0 0 (va_A (xW g a st) sz) := by
  obtain ⟨f, h1, h2⟩ := Option.map_eq_some_iff.mp he
  subst h2
  exact m_X6_fill l g (xW g a st) 18 80 (st.1 18) (a 18) (xW_18 g a st) sz p1 f h1
theorem kd_X6_init : yX6_init.cls ≠ "java/lang/invoke/MethodHandle" ∧ yX6_init.cls ≠ "java/lang/invoke/VarHandle" ∧ (parseMethodDescriptor yX6_init.desc).map (fun d => d.parameters.length) = some 0 := by decide +kernel
theorem kd_X6_make : yX6_make.cls ≠ "java/lang/invoke/MethodHandle" ∧ yX6_make.cls ≠ "java/lang/invoke/VarHandle" ∧ (parseMethodDescriptor yX6_make.desc).map (fun d => d.parameters.length) = some 0 := by decide +kernel
theorem kd_X6_meet : yX6_meet.cls ≠ "java/lang/invoke/MethodHandle" ∧ yX6_meet.cls ≠ "java/lang/invoke/VarHandle" ∧ (parseMethodDescriptor yX6_meet.desc).map (fun d => d.parameters.length) = some 2 := by decide +kernel
theorem kd_X6_has : yX6_has.cls ≠ "java/lang/invoke/MethodHandle" ∧ yX6_has.cls ≠ "java/lang/invoke/VarHandle" ∧ (parseMethodDescriptor yX6_has.desc).map (fun d => d.parameters.length) = some 2 := by decide +kernel
theorem kd_X6_say : yX6_say.cls ≠ "java/lang/invoke/MethodHandle" ∧ yX6_say.cls ≠ "java/lang/invoke/VarHandle" ∧ (parseMethodDescriptor yX6_say.desc).map (fun d => d.parameters.length) = some 2 := by decide +kernel
theorem kd_X6_role : yX6_role.cls ≠ "java/lang/invoke/MethodHandle" ∧ yX6_role.cls ≠ "java/lang/invoke/VarHandle" ∧ (parseMethodDescriptor yX6_role.desc).map (fun d => d.parameters.length) = some 2 := by decide +kernel
theorem kd_X6_chain : yX6_chain.cls ≠ "java/lang/invoke/MethodHandle" ∧ yX6_chain.cls ≠ "java/lang/invoke/VarHandle" ∧ (parseMethodDescriptor yX6_chain.desc).map (fun d => d.parameters.length) = some 3 := by decide +kernel
theorem kd_X6_unsay : yX6_unsay.cls ≠ "java/lang/invoke/MethodHandle" ∧ yX6_unsay.cls ≠ "java/lang/invoke/VarHandle" ∧ (parseMethodDescriptor yX6_unsay.desc).map (fun d => d.parameters.length) = some 1 := by decide +kernel
theorem kd_X6_notion : yX6_notion.cls ≠ "java/lang/invoke/MethodHandle" ∧ yX6_notion.cls ≠ "java/lang/invoke/VarHandle" ∧ (parseMethodDescriptor yX6_notion.desc).map (fun d => d.parameters.length) = some 2 := by decide +kernel
theorem kd_X6_axiom : yX6_axiom.cls ≠ "java/lang/invoke/MethodHandle" ∧ yX6_axiom.cls ≠ "java/lang/invoke/VarHandle" ∧ (parseMethodDescriptor yX6_axiom.desc).map (fun d => d.parameters.length) = some 2 := by decide +kernel
theorem kd_X6_conclude : yX6_conclude.cls ≠ "java/lang/invoke/MethodHandle" ∧ yX6_conclude.cls ≠ "java/lang/invoke/VarHandle" ∧ (parseMethodDescriptor yX6_conclude.desc).map (fun d => d.parameters.length) = some 0 := by decide +kernel
theorem kd_X6_rounds : yX6_rounds.cls ≠ "java/lang/invoke/MethodHandle" ∧ yX6_rounds.cls ≠ "java/lang/invoke/VarHandle" ∧ (parseMethodDescriptor yX6_rounds.desc).map (fun d => d.parameters.length) = some 0 := by decide +kernel
theorem kd_X6_conclusion : yX6_conclusion.cls ≠ "java/lang/invoke/MethodHandle" ∧ yX6_conclusion.cls ≠ "java/lang/invoke/VarHandle" ∧ (parseMethodDescriptor yX6_conclusion.desc).map (fun d => d.parameters.length) = some 2 := by decide +kernel
theorem kd_X6_is : yX6_is.cls ≠ "java/lang/invoke/MethodHandle" ∧ yX6_is.cls ≠ "java/lang/invoke/VarHandle" ∧ (parseMethodDescriptor yX6_is.desc).map (fun d => d.parameters.length) = some 2 := by decide +kernel
theorem kd_X6_to : yX6_to.cls ≠ "java/lang/invoke/MethodHandle" ∧ yX6_to.cls ≠ "java/lang/invoke/VarHandle" ∧ (parseMethodDescriptor yX6_to.desc).map (fun d => d.parameters.length) = some 3 := by decide +kernel
theorem kd_X6_proof : yX6_proof.cls ≠ "java/lang/invoke/MethodHandle" ∧ yX6_proof.cls ≠ "java/lang/invoke/VarHandle" ∧ (parseMethodDescriptor yX6_proof.desc).map (fun d => d.parameters.length) = some 1 := by decide +kernel
theorem kd_X6_under : yX6_under.cls ≠ "java/lang/invoke/MethodHandle" ∧ yX6_under.cls ≠ "java/lang/invoke/VarHandle" ∧ (parseMethodDescriptor yX6_under.desc).map (fun d => d.parameters.length) = some 2 := by decide +kernel
theorem kd_X6_like : yX6_like.cls ≠ "java/lang/invoke/MethodHandle" ∧ yX6_like.cls ≠ "java/lang/invoke/VarHandle" ∧ (parseMethodDescriptor yX6_like.desc).map (fun d => d.parameters.length) = some 1 := by decide +kernel
theorem kd_X6_parent : yX6_parent.cls ≠ "java/lang/invoke/MethodHandle" ∧ yX6_parent.cls ≠ "java/lang/invoke/VarHandle" ∧ (parseMethodDescriptor yX6_parent.desc).map (fun d => d.parameters.length) = some 2 := by decide +kernel
theorem kd_X6_broken : yX6_broken.cls ≠ "java/lang/invoke/MethodHandle" ∧ yX6_broken.cls ≠ "java/lang/invoke/VarHandle" ∧ (parseMethodDescriptor yX6_broken.desc).map (fun d => d.parameters.length) = some 0 := by decide +kernel
theorem kd_X6_things : yX6_things.cls ≠ "java/lang/invoke/MethodHandle" ∧ yX6_things.cls ≠ "java/lang/invoke/VarHandle" ∧ (parseMethodDescriptor yX6_things.desc).map (fun d => d.parameters.length) = some 0 := by decide +kernel
theorem kd_X6_isOf : yX6_isOf.cls ≠ "java/lang/invoke/MethodHandle" ∧ yX6_isOf.cls ≠ "java/lang/invoke/VarHandle" ∧ (parseMethodDescriptor yX6_isOf.desc).map (fun d => d.parameters.length) = some 2 := by decide +kernel
theorem kd_X6_pair : yX6_pair.cls ≠ "java/lang/invoke/MethodHandle" ∧ yX6_pair.cls ≠ "java/lang/invoke/VarHandle" ∧ (parseMethodDescriptor yX6_pair.desc).map (fun d => d.parameters.length) = some 3 := by decide +kernel
theorem kd_X6_holds : yX6_holds.cls ≠ "java/lang/invoke/MethodHandle" ∧ yX6_holds.cls ≠ "java/lang/invoke/VarHandle" ∧ (parseMethodDescriptor yX6_holds.desc).map (fun d => d.parameters.length) = some 1 := by decide +kernel
theorem kd_X6_count : yX6_count.cls ≠ "java/lang/invoke/MethodHandle" ∧ yX6_count.cls ≠ "java/lang/invoke/VarHandle" ∧ (parseMethodDescriptor yX6_count.desc).map (fun d => d.parameters.length) = some 1 := by decide +kernel
theorem kd_X6_digest : yX6_digest.cls ≠ "java/lang/invoke/MethodHandle" ∧ yX6_digest.cls ≠ "java/lang/invoke/VarHandle" ∧ (parseMethodDescriptor yX6_digest.desc).map (fun d => d.parameters.length) = some 0 := by decide +kernel
theorem kd_X6_findOrAddNotion : yX6_findOrAddNotion.cls ≠ "java/lang/invoke/MethodHandle" ∧ yX6_findOrAddNotion.cls ≠ "java/lang/invoke/VarHandle" ∧ (parseMethodDescriptor yX6_findOrAddNotion.desc).map (fun d => d.parameters.length) = some 3 := by decide +kernel
theorem kd_X6_addNotion : yX6_addNotion.cls ≠ "java/lang/invoke/MethodHandle" ∧ yX6_addNotion.cls ≠ "java/lang/invoke/VarHandle" ∧ (parseMethodDescriptor yX6_addNotion.desc).map (fun d => d.parameters.length) = some 3 := by decide +kernel
theorem kd_X6_addAxiom : yX6_addAxiom.cls ≠ "java/lang/invoke/MethodHandle" ∧ yX6_addAxiom.cls ≠ "java/lang/invoke/VarHandle" ∧ (parseMethodDescriptor yX6_addAxiom.desc).map (fun d => d.parameters.length) = some 4 := by decide +kernel
theorem kd_X6_isUnder : yX6_isUnder.cls ≠ "java/lang/invoke/MethodHandle" ∧ yX6_isUnder.cls ≠ "java/lang/invoke/VarHandle" ∧ (parseMethodDescriptor yX6_isUnder.desc).map (fun d => d.parameters.length) = some 2 := by decide +kernel
theorem kd_X6_areLike : yX6_areLike.cls ≠ "java/lang/invoke/MethodHandle" ∧ yX6_areLike.cls ≠ "java/lang/invoke/VarHandle" ∧ (parseMethodDescriptor yX6_areLike.desc).map (fun d => d.parameters.length) = some 2 := by decide +kernel
theorem kd_X6_leastLike : yX6_leastLike.cls ≠ "java/lang/invoke/MethodHandle" ∧ yX6_leastLike.cls ≠ "java/lang/invoke/VarHandle" ∧ (parseMethodDescriptor yX6_leastLike.desc).map (fun d => d.parameters.length) = some 1 := by decide +kernel
theorem kd_X6_isParent : yX6_isParent.cls ≠ "java/lang/invoke/MethodHandle" ∧ yX6_isParent.cls ≠ "java/lang/invoke/VarHandle" ∧ (parseMethodDescriptor yX6_isParent.desc).map (fun d => d.parameters.length) = some 2 := by decide +kernel
theorem kd_X6_isSo : yX6_isSo.cls ≠ "java/lang/invoke/MethodHandle" ∧ yX6_isSo.cls ≠ "java/lang/invoke/VarHandle" ∧ (parseMethodDescriptor yX6_isSo.desc).map (fun d => d.parameters.length) = some 1 := by decide +kernel
theorem kd_X6_within : yX6_within.cls ≠ "java/lang/invoke/MethodHandle" ∧ yX6_within.cls ≠ "java/lang/invoke/VarHandle" ∧ (parseMethodDescriptor yX6_within.desc).map (fun d => d.parameters.length) = some 2 := by decide +kernel
theorem kd_X6_isRole : yX6_isRole.cls ≠ "java/lang/invoke/MethodHandle" ∧ yX6_isRole.cls ≠ "java/lang/invoke/VarHandle" ∧ (parseMethodDescriptor yX6_isRole.desc).map (fun d => d.parameters.length) = some 1 := by decide +kernel
theorem kd_X6_oneIf : yX6_oneIf.cls ≠ "java/lang/invoke/MethodHandle" ∧ yX6_oneIf.cls ≠ "java/lang/invoke/VarHandle" ∧ (parseMethodDescriptor yX6_oneIf.desc).map (fun d => d.parameters.length) = some 1 := by decide +kernel
theorem kd_X6_bit : yX6_bit.cls ≠ "java/lang/invoke/MethodHandle" ∧ yX6_bit.cls ≠ "java/lang/invoke/VarHandle" ∧ (parseMethodDescriptor yX6_bit.desc).map (fun d => d.parameters.length) = some 1 := by decide +kernel
theorem kd_X6_hasBit : yX6_hasBit.cls ≠ "java/lang/invoke/MethodHandle" ∧ yX6_hasBit.cls ≠ "java/lang/invoke/VarHandle" ∧ (parseMethodDescriptor yX6_hasBit.desc).map (fun d => d.parameters.length) = some 2 := by decide +kernel
theorem kd_X6_at : yX6_at.cls ≠ "java/lang/invoke/MethodHandle" ∧ yX6_at.cls ≠ "java/lang/invoke/VarHandle" ∧ (parseMethodDescriptor yX6_at.desc).map (fun d => d.parameters.length) = some 2 := by decide +kernel
theorem kd_X6_put : yX6_put.cls ≠ "java/lang/invoke/MethodHandle" ∧ yX6_put.cls ≠ "java/lang/invoke/VarHandle" ∧ (parseMethodDescriptor yX6_put.desc).map (fun d => d.parameters.length) = some 3 := by decide +kernel
theorem kd_X6_longAt : yX6_longAt.cls ≠ "java/lang/invoke/MethodHandle" ∧ yX6_longAt.cls ≠ "java/lang/invoke/VarHandle" ∧ (parseMethodDescriptor yX6_longAt.desc).map (fun d => d.parameters.length) = some 2 := by decide +kernel
theorem kd_X6_putLong : yX6_putLong.cls ≠ "java/lang/invoke/MethodHandle" ∧ yX6_putLong.cls ≠ "java/lang/invoke/VarHandle" ∧ (parseMethodDescriptor yX6_putLong.desc).map (fun d => d.parameters.length) = some 3 := by decide +kernel
theorem kd_X6_fill : yX6_fill.cls ≠ "java/lang/invoke/MethodHandle" ∧ yX6_fill.cls ≠ "java/lang/invoke/VarHandle" ∧ (parseMethodDescriptor yX6_fill.desc).map (fun d => d.parameters.length) = some 2 := by decide +kernel
theorem kd_X6_placeOfIs : yX6_placeOfIs.cls ≠ "java/lang/invoke/MethodHandle" ∧ yX6_placeOfIs.cls ≠ "java/lang/invoke/VarHandle" ∧ (parseMethodDescriptor yX6_placeOfIs.desc).map (fun d => d.parameters.length) = some 2 := by decide +kernel
theorem kd_X6_placeOfTo : yX6_placeOfTo.cls ≠ "java/lang/invoke/MethodHandle" ∧ yX6_placeOfTo.cls ≠ "java/lang/invoke/VarHandle" ∧ (parseMethodDescriptor yX6_placeOfTo.desc).map (fun d => d.parameters.length) = some 3 := by decide +kernel
theorem kd_X6_subjectAt : yX6_subjectAt.cls ≠ "java/lang/invoke/MethodHandle" ∧ yX6_subjectAt.cls ≠ "java/lang/invoke/VarHandle" ∧ (parseMethodDescriptor yX6_subjectAt.desc).map (fun d => d.parameters.length) = some 1 := by decide +kernel
theorem kd_X6_objectAt : yX6_objectAt.cls ≠ "java/lang/invoke/MethodHandle" ∧ yX6_objectAt.cls ≠ "java/lang/invoke/VarHandle" ∧ (parseMethodDescriptor yX6_objectAt.desc).map (fun d => d.parameters.length) = some 1 := by decide +kernel
theorem kd_X6_roleAt : yX6_roleAt.cls ≠ "java/lang/invoke/MethodHandle" ∧ yX6_roleAt.cls ≠ "java/lang/invoke/VarHandle" ∧ (parseMethodDescriptor yX6_roleAt.desc).map (fun d => d.parameters.length) = some 1 := by decide +kernel
theorem kd_X6_whyOf : yX6_whyOf.cls ≠ "java/lang/invoke/MethodHandle" ∧ yX6_whyOf.cls ≠ "java/lang/invoke/VarHandle" ∧ (parseMethodDescriptor yX6_whyOf.desc).map (fun d => d.parameters.length) = some 4 := by decide +kernel
theorem kd_X6_whyOfTwo : yX6_whyOfTwo.cls ≠ "java/lang/invoke/MethodHandle" ∧ yX6_whyOfTwo.cls ≠ "java/lang/invoke/VarHandle" ∧ (parseMethodDescriptor yX6_whyOfTwo.desc).map (fun d => d.parameters.length) = some 3 := by decide +kernel
theorem kd_X6_partOfWhy : yX6_partOfWhy.cls ≠ "java/lang/invoke/MethodHandle" ∧ yX6_partOfWhy.cls ≠ "java/lang/invoke/VarHandle" ∧ (parseMethodDescriptor yX6_partOfWhy.desc).map (fun d => d.parameters.length) = some 3 := by decide +kernel
theorem kd_X7_init : yX7_init.cls ≠ "java/lang/invoke/MethodHandle" ∧ yX7_init.cls ≠ "java/lang/invoke/VarHandle" ∧ (parseMethodDescriptor yX7_init.desc).map (fun d => d.parameters.length) = some 0 := by decide +kernel
theorem kd_X7_in : yX7_in.cls ≠ "java/lang/invoke/MethodHandle" ∧ yX7_in.cls ≠ "java/lang/invoke/VarHandle" ∧ (parseMethodDescriptor yX7_in.desc).map (fun d => d.parameters.length) = some 3 := by decide +kernel
theorem kd_X7_isNotion : yX7_isNotion.cls ≠ "java/lang/invoke/MethodHandle" ∧ yX7_isNotion.cls ≠ "java/lang/invoke/VarHandle" ∧ (parseMethodDescriptor yX7_isNotion.desc).map (fun d => d.parameters.length) = some 1 := by decide +kernel
theorem kd_X7_isRole : yX7_isRole.cls ≠ "java/lang/invoke/MethodHandle" ∧ yX7_isRole.cls ≠ "java/lang/invoke/VarHandle" ∧ (parseMethodDescriptor yX7_isRole.desc).map (fun d => d.parameters.length) = some 1 := by decide +kernel
theorem kd_X7_found : yX7_found.cls ≠ "java/lang/invoke/MethodHandle" ∧ yX7_found.cls ≠ "java/lang/invoke/VarHandle" ∧ (parseMethodDescriptor yX7_found.desc).map (fun d => d.parameters.length) = some 3 := by decide +kernel
theorem kd_X7_made : yX7_made.cls ≠ "java/lang/invoke/MethodHandle" ∧ yX7_made.cls ≠ "java/lang/invoke/VarHandle" ∧ (parseMethodDescriptor yX7_made.desc).map (fun d => d.parameters.length) = some 3 := by decide +kernel
theorem kd_X7_make : yX7_make.cls ≠ "java/lang/invoke/MethodHandle" ∧ yX7_make.cls ≠ "java/lang/invoke/VarHandle" ∧ (parseMethodDescriptor yX7_make.desc).map (fun d => d.parameters.length) = some 0 := by decide +kernel
theorem kd_X7_meet : yX7_meet.cls ≠ "java/lang/invoke/MethodHandle" ∧ yX7_meet.cls ≠ "java/lang/invoke/VarHandle" ∧ (parseMethodDescriptor yX7_meet.desc).map (fun d => d.parameters.length) = some 2 := by decide +kernel
theorem kd_X7_has : yX7_has.cls ≠ "java/lang/invoke/MethodHandle" ∧ yX7_has.cls ≠ "java/lang/invoke/VarHandle" ∧ (parseMethodDescriptor yX7_has.desc).map (fun d => d.parameters.length) = some 2 := by decide +kernel
theorem kd_X7_said : yX7_said.cls ≠ "java/lang/invoke/MethodHandle" ∧ yX7_said.cls ≠ "java/lang/invoke/VarHandle" ∧ (parseMethodDescriptor yX7_said.desc).map (fun d => d.parameters.length) = some 4 := by decide +kernel
theorem kd_X7_say : yX7_say.cls ≠ "java/lang/invoke/MethodHandle" ∧ yX7_say.cls ≠ "java/lang/invoke/VarHandle" ∧ (parseMethodDescriptor yX7_say.desc).map (fun d => d.parameters.length) = some 2 := by decide +kernel
theorem kd_X7_role : yX7_role.cls ≠ "java/lang/invoke/MethodHandle" ∧ yX7_role.cls ≠ "java/lang/invoke/VarHandle" ∧ (parseMethodDescriptor yX7_role.desc).map (fun d => d.parameters.length) = some 2 := by decide +kernel
theorem kd_X7_chain : yX7_chain.cls ≠ "java/lang/invoke/MethodHandle" ∧ yX7_chain.cls ≠ "java/lang/invoke/VarHandle" ∧ (parseMethodDescriptor yX7_chain.desc).map (fun d => d.parameters.length) = some 3 := by decide +kernel
theorem kd_X7_unsay : yX7_unsay.cls ≠ "java/lang/invoke/MethodHandle" ∧ yX7_unsay.cls ≠ "java/lang/invoke/VarHandle" ∧ (parseMethodDescriptor yX7_unsay.desc).map (fun d => d.parameters.length) = some 1 := by decide +kernel
theorem kd_X7_notion : yX7_notion.cls ≠ "java/lang/invoke/MethodHandle" ∧ yX7_notion.cls ≠ "java/lang/invoke/VarHandle" ∧ (parseMethodDescriptor yX7_notion.desc).map (fun d => d.parameters.length) = some 2 := by decide +kernel
theorem kd_X7_axiom : yX7_axiom.cls ≠ "java/lang/invoke/MethodHandle" ∧ yX7_axiom.cls ≠ "java/lang/invoke/VarHandle" ∧ (parseMethodDescriptor yX7_axiom.desc).map (fun d => d.parameters.length) = some 2 := by decide +kernel
theorem kd_X7_closeRoles : yX7_closeRoles.cls ≠ "java/lang/invoke/MethodHandle" ∧ yX7_closeRoles.cls ≠ "java/lang/invoke/VarHandle" ∧ (parseMethodDescriptor yX7_closeRoles.desc).map (fun d => d.parameters.length) = some 0 := by decide +kernel
theorem kd_X7_fact : yX7_fact.cls ≠ "java/lang/invoke/MethodHandle" ∧ yX7_fact.cls ≠ "java/lang/invoke/VarHandle" ∧ (parseMethodDescriptor yX7_fact.desc).map (fun d => d.parameters.length) = some 2 := by decide +kernel
theorem kd_X7_findIs : yX7_findIs.cls ≠ "java/lang/invoke/MethodHandle" ∧ yX7_findIs.cls ≠ "java/lang/invoke/VarHandle" ∧ (parseMethodDescriptor yX7_findIs.desc).map (fun d => d.parameters.length) = some 6 := by decide +kernel
theorem kd_X7_findTo : yX7_findTo.cls ≠ "java/lang/invoke/MethodHandle" ∧ yX7_findTo.cls ≠ "java/lang/invoke/VarHandle" ∧ (parseMethodDescriptor yX7_findTo.desc).map (fun d => d.parameters.length) = some 7 := by decide +kernel
theorem kd_X7_leastTo : yX7_leastTo.cls ≠ "java/lang/invoke/MethodHandle" ∧ yX7_leastTo.cls ≠ "java/lang/invoke/VarHandle" ∧ (parseMethodDescriptor yX7_leastTo.desc).map (fun d => d.parameters.length) = some 1 := by decide +kernel
theorem kd_X7_isSeed : yX7_isSeed.cls ≠ "java/lang/invoke/MethodHandle" ∧ yX7_isSeed.cls ≠ "java/lang/invoke/VarHandle" ∧ (parseMethodDescriptor yX7_isSeed.desc).map (fun d => d.parameters.length) = some 1 := by decide +kernel
theorem kd_X7_isBegun : yX7_isBegun.cls ≠ "java/lang/invoke/MethodHandle" ∧ yX7_isBegun.cls ≠ "java/lang/invoke/VarHandle" ∧ (parseMethodDescriptor yX7_isBegun.desc).map (fun d => d.parameters.length) = some 1 := by decide +kernel
theorem kd_X7_ofBegun : yX7_ofBegun.cls ≠ "java/lang/invoke/MethodHandle" ∧ yX7_ofBegun.cls ≠ "java/lang/invoke/VarHandle" ∧ (parseMethodDescriptor yX7_ofBegun.desc).map (fun d => d.parameters.length) = some 0 := by decide +kernel
theorem kd_X7_ofMeets : yX7_ofMeets.cls ≠ "java/lang/invoke/MethodHandle" ∧ yX7_ofMeets.cls ≠ "java/lang/invoke/VarHandle" ∧ (parseMethodDescriptor yX7_ofMeets.desc).map (fun d => d.parameters.length) = some 0 := by decide +kernel
theorem kd_X7_ofAxioms : yX7_ofAxioms.cls ≠ "java/lang/invoke/MethodHandle" ∧ yX7_ofAxioms.cls ≠ "java/lang/invoke/VarHandle" ∧ (parseMethodDescriptor yX7_ofAxioms.desc).map (fun d => d.parameters.length) = some 0 := by decide +kernel
theorem kd_X7_ofRoles : yX7_ofRoles.cls ≠ "java/lang/invoke/MethodHandle" ∧ yX7_ofRoles.cls ≠ "java/lang/invoke/VarHandle" ∧ (parseMethodDescriptor yX7_ofRoles.desc).map (fun d => d.parameters.length) = some 0 := by decide +kernel
theorem kd_X7_ofChains : yX7_ofChains.cls ≠ "java/lang/invoke/MethodHandle" ∧ yX7_ofChains.cls ≠ "java/lang/invoke/VarHandle" ∧ (parseMethodDescriptor yX7_ofChains.desc).map (fun d => d.parameters.length) = some 0 := by decide +kernel
theorem kd_X7_lay : yX7_lay.cls ≠ "java/lang/invoke/MethodHandle" ∧ yX7_lay.cls ≠ "java/lang/invoke/VarHandle" ∧ (parseMethodDescriptor yX7_lay.desc).map (fun d => d.parameters.length) = some 8 := by decide +kernel
theorem kd_X7_round : yX7_round.cls ≠ "java/lang/invoke/MethodHandle" ∧ yX7_round.cls ≠ "java/lang/invoke/VarHandle" ∧ (parseMethodDescriptor yX7_round.desc).map (fun d => d.parameters.length) = some 0 := by decide +kernel
theorem kd_X7_conclude : yX7_conclude.cls ≠ "java/lang/invoke/MethodHandle" ∧ yX7_conclude.cls ≠ "java/lang/invoke/VarHandle" ∧ (parseMethodDescriptor yX7_conclude.desc).map (fun d => d.parameters.length) = some 0 := by decide +kernel
theorem kd_X7_rounds : yX7_rounds.cls ≠ "java/lang/invoke/MethodHandle" ∧ yX7_rounds.cls ≠ "java/lang/invoke/VarHandle" ∧ (parseMethodDescriptor yX7_rounds.desc).map (fun d => d.parameters.length) = some 0 := by decide +kernel
theorem kd_X7_conclusion : yX7_conclusion.cls ≠ "java/lang/invoke/MethodHandle" ∧ yX7_conclusion.cls ≠ "java/lang/invoke/VarHandle" ∧ (parseMethodDescriptor yX7_conclusion.desc).map (fun d => d.parameters.length) = some 2 := by decide +kernel
theorem kd_X7_is : yX7_is.cls ≠ "java/lang/invoke/MethodHandle" ∧ yX7_is.cls ≠ "java/lang/invoke/VarHandle" ∧ (parseMethodDescriptor yX7_is.desc).map (fun d => d.parameters.length) = some 2 := by decide +kernel
theorem kd_X7_to : yX7_to.cls ≠ "java/lang/invoke/MethodHandle" ∧ yX7_to.cls ≠ "java/lang/invoke/VarHandle" ∧ (parseMethodDescriptor yX7_to.desc).map (fun d => d.parameters.length) = some 3 := by decide +kernel
theorem kd_X7_proof : yX7_proof.cls ≠ "java/lang/invoke/MethodHandle" ∧ yX7_proof.cls ≠ "java/lang/invoke/VarHandle" ∧ (parseMethodDescriptor yX7_proof.desc).map (fun d => d.parameters.length) = some 1 := by decide +kernel
theorem kd_X7_isPlain : yX7_isPlain.cls ≠ "java/lang/invoke/MethodHandle" ∧ yX7_isPlain.cls ≠ "java/lang/invoke/VarHandle" ∧ (parseMethodDescriptor yX7_isPlain.desc).map (fun d => d.parameters.length) = some 1 := by decide +kernel
theorem kd_X7_isUnder : yX7_isUnder.cls ≠ "java/lang/invoke/MethodHandle" ∧ yX7_isUnder.cls ≠ "java/lang/invoke/VarHandle" ∧ (parseMethodDescriptor yX7_isUnder.desc).map (fun d => d.parameters.length) = some 2 := by decide +kernel
theorem kd_X7_areLike : yX7_areLike.cls ≠ "java/lang/invoke/MethodHandle" ∧ yX7_areLike.cls ≠ "java/lang/invoke/VarHandle" ∧ (parseMethodDescriptor yX7_areLike.desc).map (fun d => d.parameters.length) = some 2 := by decide +kernel
theorem kd_X7_under : yX7_under.cls ≠ "java/lang/invoke/MethodHandle" ∧ yX7_under.cls ≠ "java/lang/invoke/VarHandle" ∧ (parseMethodDescriptor yX7_under.desc).map (fun d => d.parameters.length) = some 2 := by decide +kernel
theorem kd_X7_leastLike : yX7_leastLike.cls ≠ "java/lang/invoke/MethodHandle" ∧ yX7_leastLike.cls ≠ "java/lang/invoke/VarHandle" ∧ (parseMethodDescriptor yX7_leastLike.desc).map (fun d => d.parameters.length) = some 1 := by decide +kernel
theorem kd_X7_like : yX7_like.cls ≠ "java/lang/invoke/MethodHandle" ∧ yX7_like.cls ≠ "java/lang/invoke/VarHandle" ∧ (parseMethodDescriptor yX7_like.desc).map (fun d => d.parameters.length) = some 1 := by decide +kernel
theorem kd_X7_isParent : yX7_isParent.cls ≠ "java/lang/invoke/MethodHandle" ∧ yX7_isParent.cls ≠ "java/lang/invoke/VarHandle" ∧ (parseMethodDescriptor yX7_isParent.desc).map (fun d => d.parameters.length) = some 2 := by decide +kernel
theorem kd_X7_parent : yX7_parent.cls ≠ "java/lang/invoke/MethodHandle" ∧ yX7_parent.cls ≠ "java/lang/invoke/VarHandle" ∧ (parseMethodDescriptor yX7_parent.desc).map (fun d => d.parameters.length) = some 2 := by decide +kernel
theorem kd_X7_broken : yX7_broken.cls ≠ "java/lang/invoke/MethodHandle" ∧ yX7_broken.cls ≠ "java/lang/invoke/VarHandle" ∧ (parseMethodDescriptor yX7_broken.desc).map (fun d => d.parameters.length) = some 0 := by decide +kernel
theorem kd_X7_makeHouse : yX7_makeHouse.cls ≠ "java/lang/invoke/MethodHandle" ∧ yX7_makeHouse.cls ≠ "java/lang/invoke/VarHandle" ∧ (parseMethodDescriptor yX7_makeHouse.desc).map (fun d => d.parameters.length) = some 0 := by decide +kernel
theorem kd_X7_things : yX7_things.cls ≠ "java/lang/invoke/MethodHandle" ∧ yX7_things.cls ≠ "java/lang/invoke/VarHandle" ∧ (parseMethodDescriptor yX7_things.desc).map (fun d => d.parameters.length) = some 0 := by decide +kernel
theorem kd_X7_isOf : yX7_isOf.cls ≠ "java/lang/invoke/MethodHandle" ∧ yX7_isOf.cls ≠ "java/lang/invoke/VarHandle" ∧ (parseMethodDescriptor yX7_isOf.desc).map (fun d => d.parameters.length) = some 2 := by decide +kernel
theorem kd_X7_pair : yX7_pair.cls ≠ "java/lang/invoke/MethodHandle" ∧ yX7_pair.cls ≠ "java/lang/invoke/VarHandle" ∧ (parseMethodDescriptor yX7_pair.desc).map (fun d => d.parameters.length) = some 3 := by decide +kernel
theorem kd_X7_isSo : yX7_isSo.cls ≠ "java/lang/invoke/MethodHandle" ∧ yX7_isSo.cls ≠ "java/lang/invoke/VarHandle" ∧ (parseMethodDescriptor yX7_isSo.desc).map (fun d => d.parameters.length) = some 1 := by decide +kernel
theorem kd_X7_holds : yX7_holds.cls ≠ "java/lang/invoke/MethodHandle" ∧ yX7_holds.cls ≠ "java/lang/invoke/VarHandle" ∧ (parseMethodDescriptor yX7_holds.desc).map (fun d => d.parameters.length) = some 1 := by decide +kernel
theorem kd_X7_count : yX7_count.cls ≠ "java/lang/invoke/MethodHandle" ∧ yX7_count.cls ≠ "java/lang/invoke/VarHandle" ∧ (parseMethodDescriptor yX7_count.desc).map (fun d => d.parameters.length) = some 1 := by decide +kernel
theorem kd_X7_digest : yX7_digest.cls ≠ "java/lang/invoke/MethodHandle" ∧ yX7_digest.cls ≠ "java/lang/invoke/VarHandle" ∧ (parseMethodDescriptor yX7_digest.desc).map (fun d => d.parameters.length) = some 0 := by decide +kernel
theorem kd_X0_init : yX0_init.cls ≠ "java/lang/invoke/MethodHandle" ∧ yX0_init.cls ≠ "java/lang/invoke/VarHandle" ∧ (parseMethodDescriptor yX0_init.desc).map (fun d => d.parameters.length) = some 0 := by decide +kernel
theorem kd_X0_add : yX0_add.cls ≠ "java/lang/invoke/MethodHandle" ∧ yX0_add.cls ≠ "java/lang/invoke/VarHandle" ∧ (parseMethodDescriptor yX0_add.desc).map (fun d => d.parameters.length) = some 4 := by decide +kernel
theorem kd_X0_takeBack : yX0_takeBack.cls ≠ "java/lang/invoke/MethodHandle" ∧ yX0_takeBack.cls ≠ "java/lang/invoke/VarHandle" ∧ (parseMethodDescriptor yX0_takeBack.desc).map (fun d => d.parameters.length) = some 1 := by decide +kernel
theorem kd_X0_knows : yX0_knows.cls ≠ "java/lang/invoke/MethodHandle" ∧ yX0_knows.cls ≠ "java/lang/invoke/VarHandle" ∧ (parseMethodDescriptor yX0_knows.desc).map (fun d => d.parameters.length) = some 1 := by decide +kernel
theorem kd_X0_part : yX0_part.cls ≠ "java/lang/invoke/MethodHandle" ∧ yX0_part.cls ≠ "java/lang/invoke/VarHandle" ∧ (parseMethodDescriptor yX0_part.desc).map (fun d => d.parameters.length) = some 2 := by decide +kernel
theorem kd_X0_holding : yX0_holding.cls ≠ "java/lang/invoke/MethodHandle" ∧ yX0_holding.cls ≠ "java/lang/invoke/VarHandle" ∧ (parseMethodDescriptor yX0_holding.desc).map (fun d => d.parameters.length) = some 1 := by decide +kernel
theorem kd_X0_holdingOf : yX0_holdingOf.cls ≠ "java/lang/invoke/MethodHandle" ∧ yX0_holdingOf.cls ≠ "java/lang/invoke/VarHandle" ∧ (parseMethodDescriptor yX0_holdingOf.desc).map (fun d => d.parameters.length) = some 2 := by decide +kernel
theorem kd_X0_holdingCount : yX0_holdingCount.cls ≠ "java/lang/invoke/MethodHandle" ∧ yX0_holdingCount.cls ≠ "java/lang/invoke/VarHandle" ∧ (parseMethodDescriptor yX0_holdingCount.desc).map (fun d => d.parameters.length) = some 0 := by decide +kernel
theorem kd_X1_init : yX1_init.cls ≠ "java/lang/invoke/MethodHandle" ∧ yX1_init.cls ≠ "java/lang/invoke/VarHandle" ∧ (parseMethodDescriptor yX1_init.desc).map (fun d => d.parameters.length) = some 0 := by decide +kernel
theorem kd_X1_clear : yX1_clear.cls ≠ "java/lang/invoke/MethodHandle" ∧ yX1_clear.cls ≠ "java/lang/invoke/VarHandle" ∧ (parseMethodDescriptor yX1_clear.desc).map (fun d => d.parameters.length) = some 0 := by decide +kernel
theorem kd_X1_add : yX1_add.cls ≠ "java/lang/invoke/MethodHandle" ∧ yX1_add.cls ≠ "java/lang/invoke/VarHandle" ∧ (parseMethodDescriptor yX1_add.desc).map (fun d => d.parameters.length) = some 3 := by decide +kernel
theorem kd_X1_knows : yX1_knows.cls ≠ "java/lang/invoke/MethodHandle" ∧ yX1_knows.cls ≠ "java/lang/invoke/VarHandle" ∧ (parseMethodDescriptor yX1_knows.desc).map (fun d => d.parameters.length) = some 1 := by decide +kernel
theorem kd_X1_placeOf : yX1_placeOf.cls ≠ "java/lang/invoke/MethodHandle" ∧ yX1_placeOf.cls ≠ "java/lang/invoke/VarHandle" ∧ (parseMethodDescriptor yX1_placeOf.desc).map (fun d => d.parameters.length) = some 1 := by decide +kernel
theorem kd_X1_numberOfIs : yX1_numberOfIs.cls ≠ "java/lang/invoke/MethodHandle" ∧ yX1_numberOfIs.cls ≠ "java/lang/invoke/VarHandle" ∧ (parseMethodDescriptor yX1_numberOfIs.desc).map (fun d => d.parameters.length) = some 2 := by decide +kernel
theorem kd_X1_numberOfTo : yX1_numberOfTo.cls ≠ "java/lang/invoke/MethodHandle" ∧ yX1_numberOfTo.cls ≠ "java/lang/invoke/VarHandle" ∧ (parseMethodDescriptor yX1_numberOfTo.desc).map (fun d => d.parameters.length) = some 3 := by decide +kernel
theorem kd_X1_saysAt : yX1_saysAt.cls ≠ "java/lang/invoke/MethodHandle" ∧ yX1_saysAt.cls ≠ "java/lang/invoke/VarHandle" ∧ (parseMethodDescriptor yX1_saysAt.desc).map (fun d => d.parameters.length) = some 1 := by decide +kernel
theorem kd_X1_saysIs : yX1_saysIs.cls ≠ "java/lang/invoke/MethodHandle" ∧ yX1_saysIs.cls ≠ "java/lang/invoke/VarHandle" ∧ (parseMethodDescriptor yX1_saysIs.desc).map (fun d => d.parameters.length) = some 2 := by decide +kernel
theorem kd_X1_saysTo : yX1_saysTo.cls ≠ "java/lang/invoke/MethodHandle" ∧ yX1_saysTo.cls ≠ "java/lang/invoke/VarHandle" ∧ (parseMethodDescriptor yX1_saysTo.desc).map (fun d => d.parameters.length) = some 3 := by decide +kernel
theorem kd_X1_firstPremise : yX1_firstPremise.cls ≠ "java/lang/invoke/MethodHandle" ∧ yX1_firstPremise.cls ≠ "java/lang/invoke/VarHandle" ∧ (parseMethodDescriptor yX1_firstPremise.desc).map (fun d => d.parameters.length) = some 1 := by decide +kernel
theorem kd_X1_secondPremise : yX1_secondPremise.cls ≠ "java/lang/invoke/MethodHandle" ∧ yX1_secondPremise.cls ≠ "java/lang/invoke/VarHandle" ∧ (parseMethodDescriptor yX1_secondPremise.desc).map (fun d => d.parameters.length) = some 1 := by decide +kernel
theorem kd_X1_part : yX1_part.cls ≠ "java/lang/invoke/MethodHandle" ∧ yX1_part.cls ≠ "java/lang/invoke/VarHandle" ∧ (parseMethodDescriptor yX1_part.desc).map (fun d => d.parameters.length) = some 2 := by decide +kernel
theorem kd_X1_proofSize : yX1_proofSize.cls ≠ "java/lang/invoke/MethodHandle" ∧ yX1_proofSize.cls ≠ "java/lang/invoke/VarHandle" ∧ (parseMethodDescriptor yX1_proofSize.desc).map (fun d => d.parameters.length) = some 1 := by decide +kernel
theorem kd_X2_init : yX2_init.cls ≠ "java/lang/invoke/MethodHandle" ∧ yX2_init.cls ≠ "java/lang/invoke/VarHandle" ∧ (parseMethodDescriptor yX2_init.desc).map (fun d => d.parameters.length) = some 0 := by decide +kernel
theorem kd_X2_build : yX2_build.cls ≠ "java/lang/invoke/MethodHandle" ∧ yX2_build.cls ≠ "java/lang/invoke/VarHandle" ∧ (parseMethodDescriptor yX2_build.desc).map (fun d => d.parameters.length) = some 3 := by decide +kernel
theorem kd_X2_members : yX2_members.cls ≠ "java/lang/invoke/MethodHandle" ∧ yX2_members.cls ≠ "java/lang/invoke/VarHandle" ∧ (parseMethodDescriptor yX2_members.desc).map (fun d => d.parameters.length) = some 1 := by decide +kernel
theorem kd_X2_partners : yX2_partners.cls ≠ "java/lang/invoke/MethodHandle" ∧ yX2_partners.cls ≠ "java/lang/invoke/VarHandle" ∧ (parseMethodDescriptor yX2_partners.desc).map (fun d => d.parameters.length) = some 2 := by decide +kernel
theorem kd_X2_roleWithin : yX2_roleWithin.cls ≠ "java/lang/invoke/MethodHandle" ∧ yX2_roleWithin.cls ≠ "java/lang/invoke/VarHandle" ∧ (parseMethodDescriptor yX2_roleWithin.desc).map (fun d => d.parameters.length) = some 2 := by decide +kernel
theorem kd_X2_chainWithin : yX2_chainWithin.cls ≠ "java/lang/invoke/MethodHandle" ∧ yX2_chainWithin.cls ≠ "java/lang/invoke/VarHandle" ∧ (parseMethodDescriptor yX2_chainWithin.desc).map (fun d => d.parameters.length) = some 3 := by decide +kernel
theorem kd_X2_buildPair : yX2_buildPair.cls ≠ "java/lang/invoke/MethodHandle" ∧ yX2_buildPair.cls ≠ "java/lang/invoke/VarHandle" ∧ (parseMethodDescriptor yX2_buildPair.desc).map (fun d => d.parameters.length) = some 4 := by decide +kernel
theorem kd_X2_membersByMeaning : yX2_membersByMeaning.cls ≠ "java/lang/invoke/MethodHandle" ∧ yX2_membersByMeaning.cls ≠ "java/lang/invoke/VarHandle" ∧ (parseMethodDescriptor yX2_membersByMeaning.desc).map (fun d => d.parameters.length) = some 4 := by decide +kernel
theorem kd_X2_subjects : yX2_subjects.cls ≠ "java/lang/invoke/MethodHandle" ∧ yX2_subjects.cls ≠ "java/lang/invoke/VarHandle" ∧ (parseMethodDescriptor yX2_subjects.desc).map (fun d => d.parameters.length) = some 3 := by decide +kernel
theorem kd_X2_havers : yX2_havers.cls ≠ "java/lang/invoke/MethodHandle" ∧ yX2_havers.cls ≠ "java/lang/invoke/VarHandle" ∧ (parseMethodDescriptor yX2_havers.desc).map (fun d => d.parameters.length) = some 2 := by decide +kernel
theorem kd_X3_init : yX3_init.cls ≠ "java/lang/invoke/MethodHandle" ∧ yX3_init.cls ≠ "java/lang/invoke/VarHandle" ∧ (parseMethodDescriptor yX3_init.desc).map (fun d => d.parameters.length) = some 0 := by decide +kernel
theorem kd_X3_add : yX3_add.cls ≠ "java/lang/invoke/MethodHandle" ∧ yX3_add.cls ≠ "java/lang/invoke/VarHandle" ∧ (parseMethodDescriptor yX3_add.desc).map (fun d => d.parameters.length) = some 3 := by decide +kernel
theorem kd_X3_knows : yX3_knows.cls ≠ "java/lang/invoke/MethodHandle" ∧ yX3_knows.cls ≠ "java/lang/invoke/VarHandle" ∧ (parseMethodDescriptor yX3_knows.desc).map (fun d => d.parameters.length) = some 1 := by decide +kernel
theorem kd_X3_named : yX3_named.cls ≠ "java/lang/invoke/MethodHandle" ∧ yX3_named.cls ≠ "java/lang/invoke/VarHandle" ∧ (parseMethodDescriptor yX3_named.desc).map (fun d => d.parameters.length) = some 1 := by decide +kernel
theorem kd_X3_seed : yX3_seed.cls ≠ "java/lang/invoke/MethodHandle" ∧ yX3_seed.cls ≠ "java/lang/invoke/VarHandle" ∧ (parseMethodDescriptor yX3_seed.desc).map (fun d => d.parameters.length) = some 1 := by decide +kernel
theorem kd_X3_part : yX3_part.cls ≠ "java/lang/invoke/MethodHandle" ∧ yX3_part.cls ≠ "java/lang/invoke/VarHandle" ∧ (parseMethodDescriptor yX3_part.desc).map (fun d => d.parameters.length) = some 2 := by decide +kernel
theorem kd_X3_sort : yX3_sort.cls ≠ "java/lang/invoke/MethodHandle" ∧ yX3_sort.cls ≠ "java/lang/invoke/VarHandle" ∧ (parseMethodDescriptor yX3_sort.desc).map (fun d => d.parameters.length) = some 1 := by decide +kernel
theorem kd_X3_first : yX3_first.cls ≠ "java/lang/invoke/MethodHandle" ∧ yX3_first.cls ≠ "java/lang/invoke/VarHandle" ∧ (parseMethodDescriptor yX3_first.desc).map (fun d => d.parameters.length) = some 1 := by decide +kernel
theorem kd_X3_second : yX3_second.cls ≠ "java/lang/invoke/MethodHandle" ∧ yX3_second.cls ≠ "java/lang/invoke/VarHandle" ∧ (parseMethodDescriptor yX3_second.desc).map (fun d => d.parameters.length) = some 1 := by decide +kernel
theorem kd_X3_find : yX3_find.cls ≠ "java/lang/invoke/MethodHandle" ∧ yX3_find.cls ≠ "java/lang/invoke/VarHandle" ∧ (parseMethodDescriptor yX3_find.desc).map (fun d => d.parameters.length) = some 3 := by decide +kernel
theorem kd_X4_init : yX4_init.cls ≠ "java/lang/invoke/MethodHandle" ∧ yX4_init.cls ≠ "java/lang/invoke/VarHandle" ∧ (parseMethodDescriptor yX4_init.desc).map (fun d => d.parameters.length) = some 0 := by decide +kernel
theorem kd_X4_learn : yX4_learn.cls ≠ "java/lang/invoke/MethodHandle" ∧ yX4_learn.cls ≠ "java/lang/invoke/VarHandle" ∧ (parseMethodDescriptor yX4_learn.desc).map (fun d => d.parameters.length) = some 1 := by decide +kernel
theorem kd_X4_goesUnder : yX4_goesUnder.cls ≠ "java/lang/invoke/MethodHandle" ∧ yX4_goesUnder.cls ≠ "java/lang/invoke/VarHandle" ∧ (parseMethodDescriptor yX4_goesUnder.desc).map (fun d => d.parameters.length) = some 2 := by decide +kernel
theorem kd_X4_axiomOfChain : yX4_axiomOfChain.cls ≠ "java/lang/invoke/MethodHandle" ∧ yX4_axiomOfChain.cls ≠ "java/lang/invoke/VarHandle" ∧ (parseMethodDescriptor yX4_axiomOfChain.desc).map (fun d => d.parameters.length) = some 3 := by decide +kernel
theorem kd_X4_joinThrough : yX4_joinThrough.cls ≠ "java/lang/invoke/MethodHandle" ∧ yX4_joinThrough.cls ≠ "java/lang/invoke/VarHandle" ∧ (parseMethodDescriptor yX4_joinThrough.desc).map (fun d => d.parameters.length) = some 1 := by decide +kernel
theorem kd_X4_learnChain : yX4_learnChain.cls ≠ "java/lang/invoke/MethodHandle" ∧ yX4_learnChain.cls ≠ "java/lang/invoke/VarHandle" ∧ (parseMethodDescriptor yX4_learnChain.desc).map (fun d => d.parameters.length) = some 4 := by decide +kernel
theorem kd_X4_placeOfChain : yX4_placeOfChain.cls ≠ "java/lang/invoke/MethodHandle" ∧ yX4_placeOfChain.cls ≠ "java/lang/invoke/VarHandle" ∧ (parseMethodDescriptor yX4_placeOfChain.desc).map (fun d => d.parameters.length) = some 3 := by decide +kernel
theorem kd_X5_init : yX5_init.cls ≠ "java/lang/invoke/MethodHandle" ∧ yX5_init.cls ≠ "java/lang/invoke/VarHandle" ∧ (parseMethodDescriptor yX5_init.desc).map (fun d => d.parameters.length) = some 4 := by decide +kernel
theorem kd_X5_concludeAll : yX5_concludeAll.cls ≠ "java/lang/invoke/MethodHandle" ∧ yX5_concludeAll.cls ≠ "java/lang/invoke/VarHandle" ∧ (parseMethodDescriptor yX5_concludeAll.desc).map (fun d => d.parameters.length) = some 0 := by decide +kernel
theorem kd_X5_clearOffers : yX5_clearOffers.cls ≠ "java/lang/invoke/MethodHandle" ∧ yX5_clearOffers.cls ≠ "java/lang/invoke/VarHandle" ∧ (parseMethodDescriptor yX5_clearOffers.desc).map (fun d => d.parameters.length) = some 0 := by decide +kernel
theorem kd_X5_addOffered : yX5_addOffered.cls ≠ "java/lang/invoke/MethodHandle" ∧ yX5_addOffered.cls ≠ "java/lang/invoke/VarHandle" ∧ (parseMethodDescriptor yX5_addOffered.desc).map (fun d => d.parameters.length) = some 1 := by decide +kernel
theorem kd_X5_offer : yX5_offer.cls ≠ "java/lang/invoke/MethodHandle" ∧ yX5_offer.cls ≠ "java/lang/invoke/VarHandle" ∧ (parseMethodDescriptor yX5_offer.desc).map (fun d => d.parameters.length) = some 2 := by decide +kernel
theorem kd_X5_offerSeeds : yX5_offerSeeds.cls ≠ "java/lang/invoke/MethodHandle" ∧ yX5_offerSeeds.cls ≠ "java/lang/invoke/VarHandle" ∧ (parseMethodDescriptor yX5_offerSeeds.desc).map (fun d => d.parameters.length) = some 0 := by decide +kernel
theorem kd_X5_offerFrom : yX5_offerFrom.cls ≠ "java/lang/invoke/MethodHandle" ∧ yX5_offerFrom.cls ≠ "java/lang/invoke/VarHandle" ∧ (parseMethodDescriptor yX5_offerFrom.desc).map (fun d => d.parameters.length) = some 1 := by decide +kernel
theorem kd_X5_offerBegun : yX5_offerBegun.cls ≠ "java/lang/invoke/MethodHandle" ∧ yX5_offerBegun.cls ≠ "java/lang/invoke/VarHandle" ∧ (parseMethodDescriptor yX5_offerBegun.desc).map (fun d => d.parameters.length) = some 2 := by decide +kernel
theorem kd_X5_offerByParts : yX5_offerByParts.cls ≠ "java/lang/invoke/MethodHandle" ∧ yX5_offerByParts.cls ≠ "java/lang/invoke/VarHandle" ∧ (parseMethodDescriptor yX5_offerByParts.desc).map (fun d => d.parameters.length) = some 3 := by decide +kernel
theorem kd_X5_offerMeets : yX5_offerMeets.cls ≠ "java/lang/invoke/MethodHandle" ∧ yX5_offerMeets.cls ≠ "java/lang/invoke/VarHandle" ∧ (parseMethodDescriptor yX5_offerMeets.desc).map (fun d => d.parameters.length) = some 3 := by decide +kernel
theorem kd_X5_offerByAxioms : yX5_offerByAxioms.cls ≠ "java/lang/invoke/MethodHandle" ∧ yX5_offerByAxioms.cls ≠ "java/lang/invoke/VarHandle" ∧ (parseMethodDescriptor yX5_offerByAxioms.desc).map (fun d => d.parameters.length) = some 3 := by decide +kernel
theorem kd_X5_offerBack : yX5_offerBack.cls ≠ "java/lang/invoke/MethodHandle" ∧ yX5_offerBack.cls ≠ "java/lang/invoke/VarHandle" ∧ (parseMethodDescriptor yX5_offerBack.desc).map (fun d => d.parameters.length) = some 4 := by decide +kernel
theorem kd_X5_offerChains : yX5_offerChains.cls ≠ "java/lang/invoke/MethodHandle" ∧ yX5_offerChains.cls ≠ "java/lang/invoke/VarHandle" ∧ (parseMethodDescriptor yX5_offerChains.desc).map (fun d => d.parameters.length) = some 4 := by decide +kernel
theorem kd_J6_bitCount_0f7a4 : yJ6_bitCount_0f7a4.cls ≠ "java/lang/invoke/MethodHandle" ∧ yJ6_bitCount_0f7a4.cls ≠ "java/lang/invoke/VarHandle" ∧ (parseMethodDescriptor yJ6_bitCount_0f7a4.desc).map (fun d => d.parameters.length) = some 1 := by decide +kernel
