/-! THE CLAIM OUT OF ONE WALK OF THE LAW'S BODY. Your part is whole_start (and what it stands on); all else here is the same for every law, but numbers. -/
def R_law : String := "NotionRoundsLaw"
def lw_P (b : Addr) (xs : List Int32) (args : Array Value) (s : State) : Prop := args = #[.ref b] ∧ s.IntsAt b xs ∧ xs.length ≤ 2048 ∧ (Jvm.Cond.and given_1 narrow_1).before args s = true
def lw_Q (_ : Array Value) (s : State) (o : Outcome) (t : State) : Prop := o = .returned (some (.int 1)) ∧ Framed s o t [] 600000 7302250
def lw_Z (below : List Frame) (a : Array Value) (s : State) : State → Prop := fun t => ∃ o, t.status = .running ∧ Ended t below o ∧ lw_Q a s o t
/-- the law's own end, with 1 on the stack, nothing written that was there before, its room as the claim has it -/
theorem lw_ret {p : Program} {l : Launch} {e : Env} {s : State} {m : MethodId} {below : List Frame} {meth : Method} {c : Code} {b : Nat} (hx : p.tables.exec = Jvm.exec) (hb : c.code = code) (hr : meth.sig.returnType = ret) (hlocks : meth.locks = false) {pc : Nat} {H : Heap} {ls : Array Slot} (hdg : decode code pc = .ok (.ireturn, 1)) : W p l e room_1 s m #[Value.ref b] below meth c H [] 600000 7302250 (lw_Z below #[Value.ref b] s) (F0 m pc ls [.int 1]) := by
  intro T hT X
  obtain ⟨fs, hret, hrun, hended, hW, hframe⟩ := X.leave (v := some (.int 1)) (hlocks := hlocks) (fun h => by rw [hr] at h; cases h)
  have hmeth' : T.vm.method? m = some meth := X.method'
  refine ⟨T.setFrames fs, ?_, .returned (some (.int 1)), hrun, hended, rfl, ⟨_, rfl⟩, hW, hframe⟩
  jvm_step X.here [X.here.top, hx, hb, hdg, hmeth', hr, ret, narrow_b1]
  (try refine ⟨rfl, ?_⟩); (try refine ⟨rfl, ?_⟩)
  first | (intro acts; rw [hret _ acts rfl rfl rfl]) | rw [hret _ _ rfl rfl rfl]
  exact Steps.refl _
/-- what holds at the law's entry: the machine, the code, the tables' words (any of lw_tbl by 'hts w (by decide +kernel)'), the script of L ints xs at the cell b, what the Statement gives of the start (any of its parts by flat_of_before) -/
def lw_At (p : Program) (s : State) (m : MethodId) (meth : Method) (c : Code) (b L : Nat) (xs : Nat → Int32) : Prop :=
  p.tables.exec = Jvm.exec ∧ c.code = code ∧ meth.sig.returnType = ret ∧ c.maxLocals = 4 ∧ s.vm.findClass R_law = some m.cls ∧ (∀ w ∈ lw_tbl, w.before #[Value.ref b] s = true) ∧ va_X b L xs s s.heap ∧ b < s.heap.size ∧ meth.locks = false ∧ (Jvm.Cond.and given_1 narrow_1).before #[Value.ref b] s = true
section LAWC
variable {p : Program} {l : Launch} {e : Env} {R : Room} {s : State} {m : MethodId} {args : Array Value} {below : List Frame} {meth : Method} {c : Code} {H H0 : Heap} {locs : List Loc} {cells slots : Nat} {Q : State → Prop}
variable {cc : ByteArray} {pc index n nL : Nat} {ls : Array Slot} {rest st0 As : List Value} {g : GG} {wL wR w2 : va_W} {A0 : Nat → Prop} {own : String} {b : Addr} {y : MethodName} {bytes : ByteArray} {maxL : Nat} {ret : Option FieldType} {ws Ts : List Cond} {rm : Room} {a : Array Value}
theorem va_P_l (h : va_P g.1 vwCl (wL ++ wR) H) : va_P g.1 vwCl wL H := fun k q hk => h k q (by rw [List.getElem?_append_left (List.getElem?_eq_some_iff.mp hk).1]; exact hk)
theorem va_P_r (h : va_P g.1 vwCl (wL ++ wR) H) : va_P g.1 vwCl wR H := fun k q hk => h (wL.length + k) q (by rw [List.getElem?_append_right (by omega), show wL.length + k - wL.length = k by omega]; exact hk)
theorem va_D_l {A : Nat → Prop} (h : va_D A (wL ++ wR)) : va_D A wL := ⟨fun i j x y hi hj hxy => h.1 i j x y (by rw [List.getElem?_append_left (List.getElem?_eq_some_iff.mp hi).1]; exact hi) (by rw [List.getElem?_append_left (List.getElem?_eq_some_iff.mp hj).1]; exact hj) hxy, fun k q hk => h.2 k q (by rw [List.getElem?_append_left (List.getElem?_eq_some_iff.mp hk).1]; exact hk)⟩
theorem va_D_r {A : Nat → Prop} (h : va_D A (wL ++ wR)) : va_D A wR := by
  have up : ∀ (k : Nat) (q : Nat × va_E), wR[k]? = some q → (wL ++ wR)[wL.length + k]? = some q := fun k q hk => by rw [List.getElem?_append_right (by omega), show wL.length + k - wL.length = k by omega]; exact hk
  refine ⟨fun i j x y hi hj hxy => ?_, fun k q hk => h.2 _ q (up k q hk)⟩
  have := h.1 _ _ x y (up i x hi) (up j y hj) hxy
  omega
/-- the other part of a world stays, where only the cells of one part, and new ones, were written -/
theorem kept_l {A : Nat → Prop} {H1 : Heap} (hP : va_P g.1 vwCl (wL ++ wR) H) (hD : va_D A (wL ++ wR)) (hk : ∀ q : Nat, q < H.size → ¬ va_A wR H.size q → H1[q]? = H[q]?) : va_P g.1 vwCl wL H1 := by
  refine (va_P_l hP).kept (fun k q hq => hk q.1 ((va_P_l hP) k q hq).lt ?_)
  rintro (⟨j, e, hj⟩ | h)
  · have h1 : (wL ++ wR)[k]? = some q := by rw [List.getElem?_append_left (List.getElem?_eq_some_iff.mp hq).1]; exact hq
    have h2 : (wL ++ wR)[wL.length + j]? = some (q.1, e) := by rw [List.getElem?_append_right (by omega), show wL.length + j - wL.length = j by omega]; exact hj
    have := hD.1 k (wL.length + j) q (q.1, e) h1 h2 rfl
    have := (List.getElem?_eq_some_iff.mp hq).1
    omega
  · have := ((va_P_l hP) k q hq).lt
    omega
theorem kept_r {A : Nat → Prop} {H1 : Heap} (hP : va_P g.1 vwCl (wL ++ wR) H) (hD : va_D A (wL ++ wR)) (hk : ∀ q : Nat, q < H.size → ¬ va_A wL H.size q → H1[q]? = H[q]?) : va_P g.1 vwCl wR H1 := by
  refine (va_P_r hP).kept (fun k q hq => hk q.1 ((va_P_r hP) k q hq).lt ?_)
  rintro (⟨j, e, hj⟩ | h)
  · have h1 : (wL ++ wR)[wL.length + k]? = some q := by rw [List.getElem?_append_right (by omega), show wL.length + k - wL.length = k by omega]; exact hq
    have h2 : (wL ++ wR)[j]? = some (q.1, e) := by rw [List.getElem?_append_left (List.getElem?_eq_some_iff.mp hj).1]; exact hj
    have := hD.1 (wL.length + k) j q (q.1, e) h1 h2 rfl
    have := (List.getElem?_eq_some_iff.mp hj).1
    omega
  · have := ((va_P_r hP) k q hq).lt
    omega
theorem cV_rwi_l {r : Int32} {q0 ci : Nat} {q : vw_C} {fs : List Value} (S : CallFix p m c cc nL s args Ts own) (hM : Met l y ws rm (va_Pc (.ref b :: As) (RWp g wL H.size)) (RWi r g w2 (va_A wL H.size)) 0 0 (va_A wL H.size)) (cw : CallW R s args own q.1 index y bytes maxL ret ws rm 0 0 n) (hK : KK g s) (hP : va_P g.1 vwCl (wL ++ wR) H) (hD : va_D A0 (wL ++ wR)) (hA : ∀ q, H0.size ≤ q → A0 q) (hS : va_S A0 H0 H locs) (hq : wL[q0]? = some (b, .inr (ci, fs))) (hc : vwCl[ci]? = some q) (hn : As.length = n) (hsz : ls.size = nL) (hst : st0 = As.reverse ++ .ref b :: rest) (hr : (rest.map fun v => v.category).sum ≤ 8) (hdg : decode cc pc = .ok (.invokevirtual index, 3)) (hf : cells ≤ R.cells ∧ slots ≤ R.slots)
    (kk : ∀ (H1 : Heap) (locs1 : List Loc), va_P g.1 vwCl (w2 ++ wR) H1 → va_S A0 H0 H1 locs1 → W p l e R s m args below meth c H1 locs1 cells slots Q (F0 m (pc + 3) ls (.int r :: rest))) : W p l e R s m args below meth c H locs cells slots Q (F0 m pc ls st0) := by
  have hDm := va_D_l hD
  refine va_calli (va_runV (As := As) (rest := rest) S hM cw (prev_rw hK (va_P_l hP) hDm hq hc) rfl hn hsz hst (lv_room hr) hdg hf) hS (fun q _ h => va_AD hDm hA hS q h) (fun q h => va_AD hDm hA hS q h) (fun r' u t H1 locs1 ht hvm hp hB hz hk hS1 => ?_)
  cases hp
  rw [ht] at hB
  exact kk H1 locs1 (hB.app (kept_r hP hD hk)) hS1
theorem cV_rwi_r {r : Int32} {q0 ci : Nat} {q : vw_C} {fs : List Value} (S : CallFix p m c cc nL s args Ts own) (hM : Met l y ws rm (va_Pc (.ref b :: As) (RWp g wR H.size)) (RWi r g w2 (va_A wR H.size)) 0 0 (va_A wR H.size)) (cw : CallW R s args own q.1 index y bytes maxL ret ws rm 0 0 n) (hK : KK g s) (hP : va_P g.1 vwCl (wL ++ wR) H) (hD : va_D A0 (wL ++ wR)) (hA : ∀ q, H0.size ≤ q → A0 q) (hS : va_S A0 H0 H locs) (hq : wR[q0]? = some (b, .inr (ci, fs))) (hc : vwCl[ci]? = some q) (hn : As.length = n) (hsz : ls.size = nL) (hst : st0 = As.reverse ++ .ref b :: rest) (hr : (rest.map fun v => v.category).sum ≤ 8) (hdg : decode cc pc = .ok (.invokevirtual index, 3)) (hf : cells ≤ R.cells ∧ slots ≤ R.slots)
    (kk : ∀ (H1 : Heap) (locs1 : List Loc), va_P g.1 vwCl (wL ++ w2) H1 → va_S A0 H0 H1 locs1 → W p l e R s m args below meth c H1 locs1 cells slots Q (F0 m (pc + 3) ls (.int r :: rest))) : W p l e R s m args below meth c H locs cells slots Q (F0 m pc ls st0) := by
  have hDm := va_D_r hD
  refine va_calli (va_runV (As := As) (rest := rest) S hM cw (prev_rw hK (va_P_r hP) hDm hq hc) rfl hn hsz hst (lv_room hr) hdg hf) hS (fun q _ h => va_AD hDm hA hS q h) (fun q h => va_AD hDm hA hS q h) (fun r' u t H1 locs1 ht hvm hp hB hz hk hS1 => ?_)
  cases hp
  rw [ht] at hB
  exact kk H1 locs1 ((kept_l hP hD hk).app hB) hS1
end LAWC
theorem sw25 (v : Int32) : (v.toInt < 0 ∨ 24 < v.toInt) ∨ v.toInt = 0 ∨ v.toInt = 1 ∨ v.toInt = 2 ∨ v.toInt = 3 ∨ v.toInt = 4 ∨ v.toInt = 5 ∨ v.toInt = 6 ∨ v.toInt = 7 ∨ v.toInt = 8 ∨ v.toInt = 9 ∨ v.toInt = 10 ∨ v.toInt = 11 ∨ v.toInt = 12 ∨ v.toInt = 13 ∨ v.toInt = 14 ∨ v.toInt = 15 ∨ v.toInt = 16 ∨ v.toInt = 17 ∨ v.toInt = 18 ∨ v.toInt = 19 ∨ v.toInt = 20 ∨ v.toInt = 21 ∨ v.toInt = 22 ∨ v.toInt = 23 ∨ v.toInt = 24 := by omega
theorem law_lt {L i : Nat} (hL : L ≤ 2048) (hi : i ≤ L) (h : ¬ Int32.ofNat L - 4 < nI i) : i + 4 ≤ L := by
  rw [Int32.lt_iff_toInt_lt, Int32.toInt_sub, nI_toInt (by omega)] at h
  have e1 : (Int32.ofNat L).toInt = (L : Int) := nI_toInt (by omega)
  have e2 : (4 : Int32).toInt = 4 := by decide
  rw [e1, e2] at h
  simp only [Int.bmod] at h
  omega
theorem law_in {L i : Nat} (hL : L ≤ 2048) (h : i + 4 ≤ L) (k : Nat) (hk : k < 4) : vp_in (nI i + nI k) L := by
  have e : nI i + nI k = nI (i + k) := by
    show Int32.ofNat i + Int32.ofNat k = Int32.ofNat (i + k)
    rw [Int32.ofNat_add]
  rw [e]
  exact vp_in_nI (by omega) (by omega)
/-- every call of the class answers as the model, and what holds between their states holds behind it -/
def Sim_0 (Inv : XS → MS → Prop) : Prop := ∀ (sx : XS) (sm : MS), Inv sx sm → ∃ (r : Int32) (sx' : XS) (sm' : MS), f_X6_make sx = some (r, sx') ∧ f_X7_make sm = some (r, sm') ∧ Inv sx' sm'
def Sim_1 (Inv : XS → MS → Prop) : Prop := ∀ (sx : XS) (sm : MS) (v1 v2 : Int32), Inv sx sm → ∃ (r : Int32) (sx' : XS) (sm' : MS), f_X6_meet sx v1 v2 = some (r, sx') ∧ f_X7_meet sm v1 v2 = some (r, sm') ∧ Inv sx' sm'
def Sim_2 (Inv : XS → MS → Prop) : Prop := ∀ (sx : XS) (sm : MS) (v1 v2 : Int32), Inv sx sm → ∃ (r : Int32) (sx' : XS) (sm' : MS), f_X6_has sx v1 v2 = some (r, sx') ∧ f_X7_has sm v1 v2 = some (r, sm') ∧ Inv sx' sm'
def Sim_3 (Inv : XS → MS → Prop) : Prop := ∀ (sx : XS) (sm : MS) (v1 v2 : Int32), Inv sx sm → ∃ (r : Int32) (sx' : XS) (sm' : MS), f_X6_say sx v1 v2 = some (r, sx') ∧ f_X7_say sm v1 v2 = some (r, sm') ∧ Inv sx' sm'
def Sim_4 (Inv : XS → MS → Prop) : Prop := ∀ (sx : XS) (sm : MS) (v1 v2 : Int32), Inv sx sm → ∃ (r : Int32) (sx' : XS) (sm' : MS), f_X6_role sx v1 v2 = some (r, sx') ∧ f_X7_role sm v1 v2 = some (r, sm') ∧ Inv sx' sm'
def Sim_5 (Inv : XS → MS → Prop) : Prop := ∀ (sx : XS) (sm : MS) (v1 v2 v3 : Int32), Inv sx sm → ∃ (r : Int32) (sx' : XS) (sm' : MS), f_X6_chain sx v1 v2 v3 = some (r, sx') ∧ f_X7_chain sm v1 v2 v3 = some (r, sm') ∧ Inv sx' sm'
def Sim_6 (Inv : XS → MS → Prop) : Prop := ∀ (sx : XS) (sm : MS) (v1 : Int32), Inv sx sm → ∃ (r : Int32) (sx' : XS) (sm' : MS), f_X6_unsay sx v1 = some (r, sx') ∧ f_X7_unsay sm v1 = some (r, sm') ∧ Inv sx' sm'
def Sim_7 (Inv : XS → MS → Prop) : Prop := ∀ (sx : XS) (sm : MS) (v1 v2 : Int32), Inv sx sm → ∃ (r : Int32), t_X6_notion sx v1 v2 = r ∧ f_X7_notion sm v1 v2 = some r ∧ Inv sx sm
def Sim_8 (Inv : XS → MS → Prop) : Prop := ∀ (sx : XS) (sm : MS) (v1 v2 : Int32), Inv sx sm → ∃ (r : Int32), t_X6_axiom sx v1 v2 = r ∧ f_X7_axiom sm v1 v2 = some r ∧ Inv sx sm
def Sim_9 (Inv : XS → MS → Prop) : Prop := ∀ (sx : XS) (sm : MS), Inv sx sm → ∃ (r : Int32) (sx' : XS) (sm' : MS), f_X6_conclude sx = some (r, sx') ∧ f_X7_conclude sm = some (r, sm') ∧ Inv sx' sm'
def Sim_10 (Inv : XS → MS → Prop) : Prop := ∀ (sx : XS) (sm : MS), Inv sx sm → ∃ (r : Int32), t_X6_rounds sx = r ∧ t_X7_rounds sm = r ∧ Inv sx sm
def Sim_11 (Inv : XS → MS → Prop) : Prop := ∀ (sx : XS) (sm : MS) (v1 v2 : Int32), Inv sx sm → ∃ (r : Int32), t_X6_conclusion sx v1 v2 = r ∧ f_X7_conclusion sm v1 v2 = some r ∧ Inv sx sm
def Sim_12 (Inv : XS → MS → Prop) : Prop := ∀ (sx : XS) (sm : MS) (v1 v2 : Int32), Inv sx sm → ∃ (r : Int32), t_X6_is sx v1 v2 = r ∧ f_X7_is sm v1 v2 = some r ∧ Inv sx sm
def Sim_13 (Inv : XS → MS → Prop) : Prop := ∀ (sx : XS) (sm : MS) (v1 v2 v3 : Int32), Inv sx sm → ∃ (r : Int32), t_X6_to sx v1 v2 v3 = r ∧ f_X7_to sm v1 v2 v3 = some r ∧ Inv sx sm
def Sim_14 (Inv : XS → MS → Prop) : Prop := ∀ (sx : XS) (sm : MS) (v1 : Int32), Inv sx sm → ∃ (r : Int32) (sx' : XS) (sm' : MS), f_X6_proof sx v1 = some (r, sx') ∧ f_X7_proof sm v1 = some (r, sm') ∧ Inv sx' sm'
def Sim_15 (Inv : XS → MS → Prop) : Prop := ∀ (sx : XS) (sm : MS) (v1 v2 : Int32), Inv sx sm → ∃ (r : Int32), t_X6_under sx v1 v2 = r ∧ f_X7_under sm v1 v2 = some r ∧ Inv sx sm
def Sim_16 (Inv : XS → MS → Prop) : Prop := ∀ (sx : XS) (sm : MS) (v1 : Int32), Inv sx sm → ∃ (r : Int32), f_X6_like sx v1 = some r ∧ f_X7_like sm v1 = some r ∧ Inv sx sm
def Sim_17 (Inv : XS → MS → Prop) : Prop := ∀ (sx : XS) (sm : MS) (v1 v2 : Int32), Inv sx sm → ∃ (r : Int32), f_X6_parent sx v1 v2 = some r ∧ f_X7_parent sm v1 v2 = some r ∧ Inv sx sm
def Sim_18 (Inv : XS → MS → Prop) : Prop := ∀ (sx : XS) (sm : MS), Inv sx sm → ∃ (r : Int32), t_X6_broken sx = r ∧ f_X7_broken sm = some r ∧ Inv sx sm
def Sim_19 (Inv : XS → MS → Prop) : Prop := ∀ (sx : XS) (sm : MS), Inv sx sm → ∃ (r : Int32), t_X6_things sx = r ∧ f_X7_things sm = some r ∧ Inv sx sm
def Sim_20 (Inv : XS → MS → Prop) : Prop := ∀ (sx : XS) (sm : MS) (v1 v2 : Int32), Inv sx sm → ∃ (r : Int32), t_X6_isOf sx v1 v2 = r ∧ f_X7_isOf sm v1 v2 = some r ∧ Inv sx sm
def Sim_21 (Inv : XS → MS → Prop) : Prop := ∀ (sx : XS) (sm : MS) (v1 v2 v3 : Int32), Inv sx sm → ∃ (r : Int32), t_X6_pair sx v1 v2 v3 = r ∧ f_X7_pair sm v1 v2 v3 = some r ∧ Inv sx sm
def Sim_22 (Inv : XS → MS → Prop) : Prop := ∀ (sx : XS) (sm : MS) (v1 : Int32), Inv sx sm → ∃ (r : Int32), f_X6_holds sx v1 = some r ∧ f_X7_holds sm v1 = some r ∧ Inv sx sm
def Sim_23 (Inv : XS → MS → Prop) : Prop := ∀ (sx : XS) (sm : MS) (v1 : Int32), Inv sx sm → ∃ (r : Int32), f_X6_count sx v1 = some r ∧ f_X7_count sm v1 = some r ∧ Inv sx sm
def Sim_24 (Inv : XS → MS → Prop) : Prop := ∀ (sx : XS) (sm : MS), Inv sx sm → ∃ (r : Int64), f_X6_digest sx = some r ∧ f_X7_digest sm = some r ∧ Inv sx sm
def SimAll (Inv : XS → MS → Prop) : Prop := Sim_0 Inv ∧ Sim_1 Inv ∧ Sim_2 Inv ∧ Sim_3 Inv ∧ Sim_4 Inv ∧ Sim_5 Inv ∧ Sim_6 Inv ∧ Sim_7 Inv ∧ Sim_8 Inv ∧ Sim_9 Inv ∧ Sim_10 Inv ∧ Sim_11 Inv ∧ Sim_12 Inv ∧ Sim_13 Inv ∧ Sim_14 Inv ∧ Sim_15 Inv ∧ Sim_16 Inv ∧ Sim_17 Inv ∧ Sim_18 Inv ∧ Sim_19 Inv ∧ Sim_20 Inv ∧ Sim_21 Inv ∧ Sim_22 Inv ∧ Sim_23 Inv ∧ Sim_24 Inv
set_option maxHeartbeats 8000000 in
set_option maxRecDepth 100000 in
theorem law_loop {Inv : XS → MS → Prop} (SIM : SimAll Inv) {p : Program} {l : Launch} {e : Env} {s : State} {m : MethodId} {below : List Frame} {meth : Method} {c : Code} {g : GG} {a b : Nat → Nat} {bs L : Nat} {xs : Nat → Int32} (hL : L ≤ 2048) (C0 : lw_At p s m meth c bs L xs) (hB : ∀ w ∈ BIG, w.before #[Value.ref bs] s = true) (hK : KK g s) (hD : ∀ (sx : XS) (sm : MS), va_D (fun q : Nat => s.heap.size ≤ q) (xW g a sx ++ mW g b sm)) :
    ∀ (n i : Nat) (x3 : Int32), i ≤ L → L + 1 ≤ i + n → x3 = nI i → ∀ (sx : XS) (sm : MS), Inv sx sm → ∀ (H : Heap) (locs : List Loc), va_P g.1 vwCl (xW g a sx ++ mW g b sm) H → va_S (fun q : Nat => s.heap.size ≤ q) s.heap H locs → ∀ ls : Array Slot, lv_has ls 4 [(0, .ref bs), (1, .ref (a 0)), (2, .ref (b 0)), (3, .int x3)] → W p l e room_1 s m #[Value.ref bs] below meth c H locs 600000 7302250 (lw_Z below #[Value.ref bs] s) (F0 m 18 ls []) := by
  obtain ⟨S0, S1, S2, S3, S4, S5, S6, S7, S8, S9, S10, S11, S12, S13, S14, S15, S16, S17, S18, S19, S20, S21, S22, S23, S24⟩ := SIM
  obtain ⟨hx, hb, hr, hml, hown, hts, hX, hbl, hlocks, hgv⟩ := C0
  have hA : ∀ q : Nat, s.heap.size ≤ q → (fun q : Nat => s.heap.size ≤ q) q := fun _ h => h
  have hbA : ¬ (fun q : Nat => s.heap.size ≤ q) bs := Nat.not_le.mpr hbl
  have hC : CallFix p m c cL_law 4 s #[Value.ref bs] BIG RL := ⟨hx, hb, hml, hown, hB⟩
  intro n
  induction n with
  | zero =>
    intro i x3 h1 h2
    exact absurd h2 (by omega)
  | succ n ih =>
    intro i x3 hi hin ex3 sx sm hI H locs hP hS ls hl
    refine lv_iload_n hx hb dL_law_18 rfl (lv_at hl 3 rfl) ?_
    refine lv_aload_n hx hb dL_law_19 rfl (lv_at hl 0 rfl) ?_
    refine va_slen hx hb hX hbl hbA hS dL_law_20 ?_
    refine lv_iconst (v := 4) hx hb dL_law_21 (by decide) ?_
    refine lv_isub hx hb dL_law_22 ?_
    refine lv_icmp_gt (tgt := 840) hx hb dL_law_23 (by decide) (fun c_10 => ?_) (fun c_10 => ?_)
    · refine lv_iconst (v := 1) hx hb dL_law_840 (by decide) ?_
      refine va_forget (fun q hq => hS.2.2 q hq) ?_
      exact lw_ret hx hb hr hlocks dL_law_841
    have h4 : i + 4 ≤ L := law_lt hL hi (by rw [← ex3]; exact c_10)
    have hi0 : vp_in x3 L := by rw [ex3]; exact vp_in_nI (by omega) (by omega)
    have hi1 : vp_in (x3 + 1) L := by rw [ex3]; exact law_in hL h4 1 (by omega)
    have hi2 : vp_in (x3 + 2) L := by rw [ex3]; exact law_in hL h4 2 (by omega)
    have hi3 : vp_in (x3 + 3) L := by rw [ex3]; exact law_in hL h4 3 (by omega)
    have next : ∀ (sx : XS) (sm : MS), Inv sx sm → ∀ (H : Heap) (locs : List Loc), va_P g.1 vwCl (xW g a sx ++ mW g b sm) H → va_S (fun q : Nat => s.heap.size ≤ q) s.heap H locs → W p l e room_1 s m #[Value.ref bs] below meth c H locs 600000 7302250 (lw_Z below #[Value.ref bs] s) (F0 m 834 ls []) := by
      intro sx sm hI H locs hP hS
      refine lv_iinc (v := (x3 + 4)) (lv' := [(3, .int (x3 + 4)), (0, .ref bs), (1, .ref (a 0)), (2, .ref (b 0))]) hx hb dL_law_834 hl (k := 3) rfl (by rfl) (by decide) rfl (fun ls hl => ?_)
      refine lv_goto (tgt := 18) hx hb dL_law_837 (by decide) ?_
      exact ih (i + 4) (x3 + 4) h4 (by omega) (by rw [ex3]; show Int32.ofNat i + 4 = Int32.ofNat (i + 4); rw [Int32.ofNat_add]; rfl) sx sm hI _ _ hP hS _ (lv_sub hl [1, 2, 3, 0] rfl)
    refine lv_aload_n hx hb dL_law_26 rfl (lv_at hl 0 rfl) ?_
    refine lv_iload_n hx hb dL_law_27 rfl (lv_at hl 3 rfl) ?_
    refine va_sld hx hb hX hbl hbA hS hi0 dL_law_28 ?_
    refine lv_bipush (v := 31) hx hb dL_law_29 (by decide) ?_
    refine lv_iand hx hb dL_law_31 ?_
    refine lv_topi (fun sw _ => ?_)
    rcases sw25 sw with h | h | h | h | h | h | h | h | h | h | h | h | h | h | h | h | h | h | h | h | h | h | h | h | h | h
    · exact lv_tableOut (tgt := 834) hx hb dL_law_32 h (by decide) (next sx sm hI H locs hP hS)
    · refine lv_tableIn (tgt := 148) (off := 116) hx hb dL_law_32 (by rw [h]; decide) (by rw [h]; decide) (by rw [h]; rfl) (by decide) ?_
      obtain ⟨r, sx', sm', e1, e2, hI2⟩ := S0 sx sm hI
      refine lv_aload_n hx hb dL_law_148 rfl (lv_at hl 1 rfl) ?_
      refine cV_rwi_l (As := []) (rest := []) hC (m_X6_make l g a sx H.size (r, sx') e1) (kv_of hB bw_5_22 bw_5_20 bw_5_21 bw_1_2 kd_X6_make bw_5_19 rfl rfl ⟨Nat.le_of_ble_eq_true rfl, Nat.le_of_ble_eq_true rfl⟩) hK hP (hD _ _) hA hS (xW_0 g a sx) rfl rfl hl.1 rfl (Nat.le_of_ble_eq_true rfl) dL_law_149 ⟨Nat.le_refl _, Nat.le_refl _⟩ (fun H locs hP hS => ?_)
      refine lv_aload_n hx hb dL_law_152 rfl (lv_at hl 2 rfl) ?_
      refine cV_rwi_r (As := []) (rest := [.int r]) hC (m_X7_make l g b sm H.size (r, sm') e2) (kv_of hB bw_6_7 bw_6_5 bw_6_6 bw_1_5 kd_X7_make bw_6_4 rfl rfl ⟨Nat.le_of_ble_eq_true rfl, Nat.le_of_ble_eq_true rfl⟩) hK hP (hD _ _) hA hS (mW_0 g b sm) rfl rfl hl.1 rfl (Nat.le_of_ble_eq_true rfl) dL_law_153 ⟨Nat.le_refl _, Nat.le_refl _⟩ (fun H locs hP hS => ?_)
      refine lv_icmp_eq (tgt := 834) hx hb dL_law_156 (by decide) (fun _ => ?_) (fun h => absurd rfl h)
      exact next _ _ hI2 H locs hP hS
    · refine lv_tableIn (tgt := 161) (off := 129) hx hb dL_law_32 (by rw [h]; decide) (by rw [h]; decide) (by rw [h]; rfl) (by decide) ?_
      obtain ⟨r, sx', sm', e1, e2, hI2⟩ := S1 sx sm (xs (x3 + 1).toNatClampNeg) (xs (x3 + 2).toNatClampNeg) hI
      refine lv_aload_n hx hb dL_law_161 rfl (lv_at hl 1 rfl) ?_
      refine lv_aload_n hx hb dL_law_162 rfl (lv_at hl 0 rfl) ?_
      refine lv_iload_n hx hb dL_law_163 rfl (lv_at hl 3 rfl) ?_
      refine lv_iconst (v := 1) hx hb dL_law_164 (by decide) ?_
      refine lv_iadd hx hb dL_law_165 ?_
      refine va_sld hx hb hX hbl hbA hS hi1 dL_law_166 ?_
      refine lv_aload_n hx hb dL_law_167 rfl (lv_at hl 0 rfl) ?_
      refine lv_iload_n hx hb dL_law_168 rfl (lv_at hl 3 rfl) ?_
      refine lv_iconst (v := 2) hx hb dL_law_169 (by decide) ?_
      refine lv_iadd hx hb dL_law_170 ?_
      refine va_sld hx hb hX hbl hbA hS hi2 dL_law_171 ?_
      refine cV_rwi_l (As := [.int (xs (x3 + 1).toNatClampNeg), .int (xs (x3 + 2).toNatClampNeg)]) (rest := []) hC (m_X6_meet l g a sx H.size (xs (x3 + 1).toNatClampNeg) (xs (x3 + 2).toNatClampNeg) (r, sx') e1) (kv_of hB bw_6_17 bw_6_15 bw_6_16 bw_1_2 kd_X6_meet bw_6_14 rfl rfl ⟨Nat.le_of_ble_eq_true rfl, Nat.le_of_ble_eq_true rfl⟩) hK hP (hD _ _) hA hS (xW_0 g a sx) rfl rfl hl.1 rfl (Nat.le_of_ble_eq_true rfl) dL_law_172 ⟨Nat.le_refl _, Nat.le_refl _⟩ (fun H locs hP hS => ?_)
      refine lv_aload_n hx hb dL_law_175 rfl (lv_at hl 2 rfl) ?_
      refine lv_aload_n hx hb dL_law_176 rfl (lv_at hl 0 rfl) ?_
      refine lv_iload_n hx hb dL_law_177 rfl (lv_at hl 3 rfl) ?_
      refine lv_iconst (v := 1) hx hb dL_law_178 (by decide) ?_
      refine lv_iadd hx hb dL_law_179 ?_
      refine va_sld hx hb hX hbl hbA hS hi1 dL_law_180 ?_
      refine lv_aload_n hx hb dL_law_181 rfl (lv_at hl 0 rfl) ?_
      refine lv_iload_n hx hb dL_law_182 rfl (lv_at hl 3 rfl) ?_
      refine lv_iconst (v := 2) hx hb dL_law_183 (by decide) ?_
      refine lv_iadd hx hb dL_law_184 ?_
      refine va_sld hx hb hX hbl hbA hS hi2 dL_law_185 ?_
      refine cV_rwi_r (As := [.int (xs (x3 + 1).toNatClampNeg), .int (xs (x3 + 2).toNatClampNeg)]) (rest := [.int r]) hC (m_X7_meet l g b sm H.size (xs (x3 + 1).toNatClampNeg) (xs (x3 + 2).toNatClampNeg) (r, sm') e2) (kv_of hB bw_8_12 bw_8_10 bw_8_11 bw_1_5 kd_X7_meet bw_8_9 rfl rfl ⟨Nat.le_of_ble_eq_true rfl, Nat.le_of_ble_eq_true rfl⟩) hK hP (hD _ _) hA hS (mW_0 g b sm) rfl rfl hl.1 rfl (Nat.le_of_ble_eq_true rfl) dL_law_186 ⟨Nat.le_refl _, Nat.le_refl _⟩ (fun H locs hP hS => ?_)
      refine lv_icmp_eq (tgt := 834) hx hb dL_law_189 (by decide) (fun _ => ?_) (fun h => absurd rfl h)
      exact next _ _ hI2 H locs hP hS
    · refine lv_tableIn (tgt := 194) (off := 162) hx hb dL_law_32 (by rw [h]; decide) (by rw [h]; decide) (by rw [h]; rfl) (by decide) ?_
      obtain ⟨r, sx', sm', e1, e2, hI2⟩ := S2 sx sm (xs (x3 + 1).toNatClampNeg) (xs (x3 + 2).toNatClampNeg) hI
      refine lv_aload_n hx hb dL_law_194 rfl (lv_at hl 1 rfl) ?_
      refine lv_aload_n hx hb dL_law_195 rfl (lv_at hl 0 rfl) ?_
      refine lv_iload_n hx hb dL_law_196 rfl (lv_at hl 3 rfl) ?_
      refine lv_iconst (v := 1) hx hb dL_law_197 (by decide) ?_
      refine lv_iadd hx hb dL_law_198 ?_
      refine va_sld hx hb hX hbl hbA hS hi1 dL_law_199 ?_
      refine lv_aload_n hx hb dL_law_200 rfl (lv_at hl 0 rfl) ?_
      refine lv_iload_n hx hb dL_law_201 rfl (lv_at hl 3 rfl) ?_
      refine lv_iconst (v := 2) hx hb dL_law_202 (by decide) ?_
      refine lv_iadd hx hb dL_law_203 ?_
      refine va_sld hx hb hX hbl hbA hS hi2 dL_law_204 ?_
      refine cV_rwi_l (As := [.int (xs (x3 + 1).toNatClampNeg), .int (xs (x3 + 2).toNatClampNeg)]) (rest := []) hC (m_X6_has l g a sx H.size (xs (x3 + 1).toNatClampNeg) (xs (x3 + 2).toNatClampNeg) (r, sx') e1) (kv_of hB bw_9_3 bw_9_1 bw_9_2 bw_1_2 kd_X6_has bw_9_0 rfl rfl ⟨Nat.le_of_ble_eq_true rfl, Nat.le_of_ble_eq_true rfl⟩) hK hP (hD _ _) hA hS (xW_0 g a sx) rfl rfl hl.1 rfl (Nat.le_of_ble_eq_true rfl) dL_law_205 ⟨Nat.le_refl _, Nat.le_refl _⟩ (fun H locs hP hS => ?_)
      refine lv_aload_n hx hb dL_law_208 rfl (lv_at hl 2 rfl) ?_
      refine lv_aload_n hx hb dL_law_209 rfl (lv_at hl 0 rfl) ?_
      refine lv_iload_n hx hb dL_law_210 rfl (lv_at hl 3 rfl) ?_
      refine lv_iconst (v := 1) hx hb dL_law_211 (by decide) ?_
      refine lv_iadd hx hb dL_law_212 ?_
      refine va_sld hx hb hX hbl hbA hS hi1 dL_law_213 ?_
      refine lv_aload_n hx hb dL_law_214 rfl (lv_at hl 0 rfl) ?_
      refine lv_iload_n hx hb dL_law_215 rfl (lv_at hl 3 rfl) ?_
      refine lv_iconst (v := 2) hx hb dL_law_216 (by decide) ?_
      refine lv_iadd hx hb dL_law_217 ?_
      refine va_sld hx hb hX hbl hbA hS hi2 dL_law_218 ?_
      refine cV_rwi_r (As := [.int (xs (x3 + 1).toNatClampNeg), .int (xs (x3 + 2).toNatClampNeg)]) (rest := [.int r]) hC (m_X7_has l g b sm H.size (xs (x3 + 1).toNatClampNeg) (xs (x3 + 2).toNatClampNeg) (r, sm') e2) (kv_of hB bw_9_11 bw_9_9 bw_9_10 bw_1_5 kd_X7_has bw_9_8 rfl rfl ⟨Nat.le_of_ble_eq_true rfl, Nat.le_of_ble_eq_true rfl⟩) hK hP (hD _ _) hA hS (mW_0 g b sm) rfl rfl hl.1 rfl (Nat.le_of_ble_eq_true rfl) dL_law_219 ⟨Nat.le_refl _, Nat.le_refl _⟩ (fun H locs hP hS => ?_)
      refine lv_icmp_eq (tgt := 834) hx hb dL_law_222 (by decide) (fun _ => ?_) (fun h => absurd rfl h)
      exact next _ _ hI2 H locs hP hS
    · refine lv_tableIn (tgt := 227) (off := 195) hx hb dL_law_32 (by rw [h]; decide) (by rw [h]; decide) (by rw [h]; rfl) (by decide) ?_
      obtain ⟨r, sx', sm', e1, e2, hI2⟩ := S3 sx sm (xs (x3 + 1).toNatClampNeg) (xs (x3 + 2).toNatClampNeg) hI
      refine lv_aload_n hx hb dL_law_227 rfl (lv_at hl 1 rfl) ?_
      refine lv_aload_n hx hb dL_law_228 rfl (lv_at hl 0 rfl) ?_
      refine lv_iload_n hx hb dL_law_229 rfl (lv_at hl 3 rfl) ?_
      refine lv_iconst (v := 1) hx hb dL_law_230 (by decide) ?_
      refine lv_iadd hx hb dL_law_231 ?_
      refine va_sld hx hb hX hbl hbA hS hi1 dL_law_232 ?_
      refine lv_aload_n hx hb dL_law_233 rfl (lv_at hl 0 rfl) ?_
      refine lv_iload_n hx hb dL_law_234 rfl (lv_at hl 3 rfl) ?_
      refine lv_iconst (v := 2) hx hb dL_law_235 (by decide) ?_
      refine lv_iadd hx hb dL_law_236 ?_
      refine va_sld hx hb hX hbl hbA hS hi2 dL_law_237 ?_
      refine cV_rwi_l (As := [.int (xs (x3 + 1).toNatClampNeg), .int (xs (x3 + 2).toNatClampNeg)]) (rest := []) hC (m_X6_say l g a sx H.size (xs (x3 + 1).toNatClampNeg) (xs (x3 + 2).toNatClampNeg) (r, sx') e1) (kv_of hB bw_9_18 bw_9_16 bw_9_17 bw_1_2 kd_X6_say bw_9_15 rfl rfl ⟨Nat.le_of_ble_eq_true rfl, Nat.le_of_ble_eq_true rfl⟩) hK hP (hD _ _) hA hS (xW_0 g a sx) rfl rfl hl.1 rfl (Nat.le_of_ble_eq_true rfl) dL_law_238 ⟨Nat.le_refl _, Nat.le_refl _⟩ (fun H locs hP hS => ?_)
      refine lv_aload_n hx hb dL_law_241 rfl (lv_at hl 2 rfl) ?_
      refine lv_aload_n hx hb dL_law_242 rfl (lv_at hl 0 rfl) ?_
      refine lv_iload_n hx hb dL_law_243 rfl (lv_at hl 3 rfl) ?_
      refine lv_iconst (v := 1) hx hb dL_law_244 (by decide) ?_
      refine lv_iadd hx hb dL_law_245 ?_
      refine va_sld hx hb hX hbl hbA hS hi1 dL_law_246 ?_
      refine lv_aload_n hx hb dL_law_247 rfl (lv_at hl 0 rfl) ?_
      refine lv_iload_n hx hb dL_law_248 rfl (lv_at hl 3 rfl) ?_
      refine lv_iconst (v := 2) hx hb dL_law_249 (by decide) ?_
      refine lv_iadd hx hb dL_law_250 ?_
      refine va_sld hx hb hX hbl hbA hS hi2 dL_law_251 ?_
      refine cV_rwi_r (As := [.int (xs (x3 + 1).toNatClampNeg), .int (xs (x3 + 2).toNatClampNeg)]) (rest := [.int r]) hC (m_X7_say l g b sm H.size (xs (x3 + 1).toNatClampNeg) (xs (x3 + 2).toNatClampNeg) (r, sm') e2) (kv_of hB bw_10_7 bw_10_5 bw_10_6 bw_1_5 kd_X7_say bw_10_4 rfl rfl ⟨Nat.le_of_ble_eq_true rfl, Nat.le_of_ble_eq_true rfl⟩) hK hP (hD _ _) hA hS (mW_0 g b sm) rfl rfl hl.1 rfl (Nat.le_of_ble_eq_true rfl) dL_law_252 ⟨Nat.le_refl _, Nat.le_refl _⟩ (fun H locs hP hS => ?_)
      refine lv_icmp_eq (tgt := 834) hx hb dL_law_255 (by decide) (fun _ => ?_) (fun h => absurd rfl h)
      exact next _ _ hI2 H locs hP hS
    · refine lv_tableIn (tgt := 260) (off := 228) hx hb dL_law_32 (by rw [h]; decide) (by rw [h]; decide) (by rw [h]; rfl) (by decide) ?_
      obtain ⟨r, sx', sm', e1, e2, hI2⟩ := S4 sx sm (xs (x3 + 1).toNatClampNeg) (xs (x3 + 2).toNatClampNeg) hI
      refine lv_aload_n hx hb dL_law_260 rfl (lv_at hl 1 rfl) ?_
      refine lv_aload_n hx hb dL_law_261 rfl (lv_at hl 0 rfl) ?_
      refine lv_iload_n hx hb dL_law_262 rfl (lv_at hl 3 rfl) ?_
      refine lv_iconst (v := 1) hx hb dL_law_263 (by decide) ?_
      refine lv_iadd hx hb dL_law_264 ?_
      refine va_sld hx hb hX hbl hbA hS hi1 dL_law_265 ?_
      refine lv_aload_n hx hb dL_law_266 rfl (lv_at hl 0 rfl) ?_
      refine lv_iload_n hx hb dL_law_267 rfl (lv_at hl 3 rfl) ?_
      refine lv_iconst (v := 2) hx hb dL_law_268 (by decide) ?_
      refine lv_iadd hx hb dL_law_269 ?_
      refine va_sld hx hb hX hbl hbA hS hi2 dL_law_270 ?_
      refine cV_rwi_l (As := [.int (xs (x3 + 1).toNatClampNeg), .int (xs (x3 + 2).toNatClampNeg)]) (rest := []) hC (m_X6_role l g a sx H.size (xs (x3 + 1).toNatClampNeg) (xs (x3 + 2).toNatClampNeg) (r, sx') e1) (kv_of hB bw_10_16 bw_10_14 bw_10_15 bw_1_2 kd_X6_role bw_10_13 rfl rfl ⟨Nat.le_of_ble_eq_true rfl, Nat.le_of_ble_eq_true rfl⟩) hK hP (hD _ _) hA hS (xW_0 g a sx) rfl rfl hl.1 rfl (Nat.le_of_ble_eq_true rfl) dL_law_271 ⟨Nat.le_refl _, Nat.le_refl _⟩ (fun H locs hP hS => ?_)
      refine lv_aload_n hx hb dL_law_274 rfl (lv_at hl 2 rfl) ?_
      refine lv_aload_n hx hb dL_law_275 rfl (lv_at hl 0 rfl) ?_
      refine lv_iload_n hx hb dL_law_276 rfl (lv_at hl 3 rfl) ?_
      refine lv_iconst (v := 1) hx hb dL_law_277 (by decide) ?_
      refine lv_iadd hx hb dL_law_278 ?_
      refine va_sld hx hb hX hbl hbA hS hi1 dL_law_279 ?_
      refine lv_aload_n hx hb dL_law_280 rfl (lv_at hl 0 rfl) ?_
      refine lv_iload_n hx hb dL_law_281 rfl (lv_at hl 3 rfl) ?_
      refine lv_iconst (v := 2) hx hb dL_law_282 (by decide) ?_
      refine lv_iadd hx hb dL_law_283 ?_
      refine va_sld hx hb hX hbl hbA hS hi2 dL_law_284 ?_
      refine cV_rwi_r (As := [.int (xs (x3 + 1).toNatClampNeg), .int (xs (x3 + 2).toNatClampNeg)]) (rest := [.int r]) hC (m_X7_role l g b sm H.size (xs (x3 + 1).toNatClampNeg) (xs (x3 + 2).toNatClampNeg) (r, sm') e2) (kv_of hB bw_10_20 bw_10_18 bw_10_19 bw_1_5 kd_X7_role bw_10_17 rfl rfl ⟨Nat.le_of_ble_eq_true rfl, Nat.le_of_ble_eq_true rfl⟩) hK hP (hD _ _) hA hS (mW_0 g b sm) rfl rfl hl.1 rfl (Nat.le_of_ble_eq_true rfl) dL_law_285 ⟨Nat.le_refl _, Nat.le_refl _⟩ (fun H locs hP hS => ?_)
      refine lv_icmp_eq (tgt := 834) hx hb dL_law_288 (by decide) (fun _ => ?_) (fun h => absurd rfl h)
      exact next _ _ hI2 H locs hP hS
    · refine lv_tableIn (tgt := 293) (off := 261) hx hb dL_law_32 (by rw [h]; decide) (by rw [h]; decide) (by rw [h]; rfl) (by decide) ?_
      obtain ⟨r, sx', sm', e1, e2, hI2⟩ := S5 sx sm (xs (x3 + 1).toNatClampNeg) (xs (x3 + 2).toNatClampNeg) (xs (x3 + 3).toNatClampNeg) hI
      refine lv_aload_n hx hb dL_law_293 rfl (lv_at hl 1 rfl) ?_
      refine lv_aload_n hx hb dL_law_294 rfl (lv_at hl 0 rfl) ?_
      refine lv_iload_n hx hb dL_law_295 rfl (lv_at hl 3 rfl) ?_
      refine lv_iconst (v := 1) hx hb dL_law_296 (by decide) ?_
      refine lv_iadd hx hb dL_law_297 ?_
      refine va_sld hx hb hX hbl hbA hS hi1 dL_law_298 ?_
      refine lv_aload_n hx hb dL_law_299 rfl (lv_at hl 0 rfl) ?_
      refine lv_iload_n hx hb dL_law_300 rfl (lv_at hl 3 rfl) ?_
      refine lv_iconst (v := 2) hx hb dL_law_301 (by decide) ?_
      refine lv_iadd hx hb dL_law_302 ?_
      refine va_sld hx hb hX hbl hbA hS hi2 dL_law_303 ?_
      refine lv_aload_n hx hb dL_law_304 rfl (lv_at hl 0 rfl) ?_
      refine lv_iload_n hx hb dL_law_305 rfl (lv_at hl 3 rfl) ?_
      refine lv_iconst (v := 3) hx hb dL_law_306 (by decide) ?_
      refine lv_iadd hx hb dL_law_307 ?_
      refine va_sld hx hb hX hbl hbA hS hi3 dL_law_308 ?_
      refine cV_rwi_l (As := [.int (xs (x3 + 1).toNatClampNeg), .int (xs (x3 + 2).toNatClampNeg), .int (xs (x3 + 3).toNatClampNeg)]) (rest := []) hC (m_X6_chain l g a sx H.size (xs (x3 + 1).toNatClampNeg) (xs (x3 + 2).toNatClampNeg) (xs (x3 + 3).toNatClampNeg) (r, sx') e1) (kv_of hB bw_11_0 bw_10_22 bw_10_23 bw_1_2 kd_X6_chain bw_10_21 rfl rfl ⟨Nat.le_of_ble_eq_true rfl, Nat.le_of_ble_eq_true rfl⟩) hK hP (hD _ _) hA hS (xW_0 g a sx) rfl rfl hl.1 rfl (Nat.le_of_ble_eq_true rfl) dL_law_309 ⟨Nat.le_refl _, Nat.le_refl _⟩ (fun H locs hP hS => ?_)
      refine lv_aload_n hx hb dL_law_312 rfl (lv_at hl 2 rfl) ?_
      refine lv_aload_n hx hb dL_law_313 rfl (lv_at hl 0 rfl) ?_
      refine lv_iload_n hx hb dL_law_314 rfl (lv_at hl 3 rfl) ?_
      refine lv_iconst (v := 1) hx hb dL_law_315 (by decide) ?_
      refine lv_iadd hx hb dL_law_316 ?_
      refine va_sld hx hb hX hbl hbA hS hi1 dL_law_317 ?_
      refine lv_aload_n hx hb dL_law_318 rfl (lv_at hl 0 rfl) ?_
      refine lv_iload_n hx hb dL_law_319 rfl (lv_at hl 3 rfl) ?_
      refine lv_iconst (v := 2) hx hb dL_law_320 (by decide) ?_
      refine lv_iadd hx hb dL_law_321 ?_
      refine va_sld hx hb hX hbl hbA hS hi2 dL_law_322 ?_
      refine lv_aload_n hx hb dL_law_323 rfl (lv_at hl 0 rfl) ?_
      refine lv_iload_n hx hb dL_law_324 rfl (lv_at hl 3 rfl) ?_
      refine lv_iconst (v := 3) hx hb dL_law_325 (by decide) ?_
      refine lv_iadd hx hb dL_law_326 ?_
      refine va_sld hx hb hX hbl hbA hS hi3 dL_law_327 ?_
      refine cV_rwi_r (As := [.int (xs (x3 + 1).toNatClampNeg), .int (xs (x3 + 2).toNatClampNeg), .int (xs (x3 + 3).toNatClampNeg)]) (rest := [.int r]) hC (m_X7_chain l g b sm H.size (xs (x3 + 1).toNatClampNeg) (xs (x3 + 2).toNatClampNeg) (xs (x3 + 3).toNatClampNeg) (r, sm') e2) (kv_of hB bw_11_4 bw_11_2 bw_11_3 bw_1_5 kd_X7_chain bw_11_1 rfl rfl ⟨Nat.le_of_ble_eq_true rfl, Nat.le_of_ble_eq_true rfl⟩) hK hP (hD _ _) hA hS (mW_0 g b sm) rfl rfl hl.1 rfl (Nat.le_of_ble_eq_true rfl) dL_law_328 ⟨Nat.le_refl _, Nat.le_refl _⟩ (fun H locs hP hS => ?_)
      refine lv_icmp_eq (tgt := 834) hx hb dL_law_331 (by decide) (fun _ => ?_) (fun h => absurd rfl h)
      exact next _ _ hI2 H locs hP hS
    · refine lv_tableIn (tgt := 336) (off := 304) hx hb dL_law_32 (by rw [h]; decide) (by rw [h]; decide) (by rw [h]; rfl) (by decide) ?_
      obtain ⟨r, sx', sm', e1, e2, hI2⟩ := S6 sx sm (xs (x3 + 1).toNatClampNeg) hI
      refine lv_aload_n hx hb dL_law_336 rfl (lv_at hl 1 rfl) ?_
      refine lv_aload_n hx hb dL_law_337 rfl (lv_at hl 0 rfl) ?_
      refine lv_iload_n hx hb dL_law_338 rfl (lv_at hl 3 rfl) ?_
      refine lv_iconst (v := 1) hx hb dL_law_339 (by decide) ?_
      refine lv_iadd hx hb dL_law_340 ?_
      refine va_sld hx hb hX hbl hbA hS hi1 dL_law_341 ?_
      refine cV_rwi_l (As := [.int (xs (x3 + 1).toNatClampNeg)]) (rest := []) hC (m_X6_unsay l g a sx H.size (xs (x3 + 1).toNatClampNeg) (r, sx') e1) (kv_of hB bw_11_8 bw_11_6 bw_11_7 bw_1_2 kd_X6_unsay bw_11_5 rfl rfl ⟨Nat.le_of_ble_eq_true rfl, Nat.le_of_ble_eq_true rfl⟩) hK hP (hD _ _) hA hS (xW_0 g a sx) rfl rfl hl.1 rfl (Nat.le_of_ble_eq_true rfl) dL_law_342 ⟨Nat.le_refl _, Nat.le_refl _⟩ (fun H locs hP hS => ?_)
      refine lv_aload_n hx hb dL_law_345 rfl (lv_at hl 2 rfl) ?_
      refine lv_aload_n hx hb dL_law_346 rfl (lv_at hl 0 rfl) ?_
      refine lv_iload_n hx hb dL_law_347 rfl (lv_at hl 3 rfl) ?_
      refine lv_iconst (v := 1) hx hb dL_law_348 (by decide) ?_
      refine lv_iadd hx hb dL_law_349 ?_
      refine va_sld hx hb hX hbl hbA hS hi1 dL_law_350 ?_
      refine cV_rwi_r (As := [.int (xs (x3 + 1).toNatClampNeg)]) (rest := [.int r]) hC (m_X7_unsay l g b sm H.size (xs (x3 + 1).toNatClampNeg) (r, sm') e2) (kv_of hB bw_12_4 bw_12_2 bw_12_3 bw_1_5 kd_X7_unsay bw_12_1 rfl rfl ⟨Nat.le_of_ble_eq_true rfl, Nat.le_of_ble_eq_true rfl⟩) hK hP (hD _ _) hA hS (mW_0 g b sm) rfl rfl hl.1 rfl (Nat.le_of_ble_eq_true rfl) dL_law_351 ⟨Nat.le_refl _, Nat.le_refl _⟩ (fun H locs hP hS => ?_)
      refine lv_icmp_eq (tgt := 834) hx hb dL_law_354 (by decide) (fun _ => ?_) (fun h => absurd rfl h)
      exact next _ _ hI2 H locs hP hS
    · refine lv_tableIn (tgt := 359) (off := 327) hx hb dL_law_32 (by rw [h]; decide) (by rw [h]; decide) (by rw [h]; rfl) (by decide) ?_
      obtain ⟨r, e1, e2, hI2⟩ := S7 sx sm (xs (x3 + 1).toNatClampNeg) (xs (x3 + 2).toNatClampNeg) hI
      refine lv_aload_n hx hb dL_law_359 rfl (lv_at hl 1 rfl) ?_
      refine lv_aload_n hx hb dL_law_360 rfl (lv_at hl 0 rfl) ?_
      refine lv_iload_n hx hb dL_law_361 rfl (lv_at hl 3 rfl) ?_
      refine lv_iconst (v := 1) hx hb dL_law_362 (by decide) ?_
      refine lv_iadd hx hb dL_law_363 ?_
      refine va_sld hx hb hX hbl hbA hS hi1 dL_law_364 ?_
      refine lv_aload_n hx hb dL_law_365 rfl (lv_at hl 0 rfl) ?_
      refine lv_iload_n hx hb dL_law_366 rfl (lv_at hl 3 rfl) ?_
      refine lv_iconst (v := 2) hx hb dL_law_367 (by decide) ?_
      refine lv_iadd hx hb dL_law_368 ?_
      refine va_sld hx hb hX hbl hbA hS hi2 dL_law_369 ?_
      refine cV_roi (As := [.int (xs (x3 + 1).toNatClampNeg), .int (xs (x3 + 2).toNatClampNeg)]) (rest := []) hC (m_X6_notion l g a sx (xs (x3 + 1).toNatClampNeg) (xs (x3 + 2).toNatClampNeg)) (kv_of hB bw_12_8 bw_12_6 bw_12_7 bw_1_2 kd_X6_notion bw_12_5 rfl rfl ⟨Nat.le_of_ble_eq_true rfl, Nat.le_of_ble_eq_true rfl⟩) hK (va_P_l hP) hP hS (xW_0 g a sx) rfl rfl hl.1 rfl (Nat.le_of_ble_eq_true rfl) dL_law_370 ⟨Nat.le_refl _, Nat.le_refl _⟩ (fun H locs hP hS => ?_)
      rw [e1]
      refine lv_aload_n hx hb dL_law_373 rfl (lv_at hl 2 rfl) ?_
      refine lv_aload_n hx hb dL_law_374 rfl (lv_at hl 0 rfl) ?_
      refine lv_iload_n hx hb dL_law_375 rfl (lv_at hl 3 rfl) ?_
      refine lv_iconst (v := 1) hx hb dL_law_376 (by decide) ?_
      refine lv_iadd hx hb dL_law_377 ?_
      refine va_sld hx hb hX hbl hbA hS hi1 dL_law_378 ?_
      refine lv_aload_n hx hb dL_law_379 rfl (lv_at hl 0 rfl) ?_
      refine lv_iload_n hx hb dL_law_380 rfl (lv_at hl 3 rfl) ?_
      refine lv_iconst (v := 2) hx hb dL_law_381 (by decide) ?_
      refine lv_iadd hx hb dL_law_382 ?_
      refine va_sld hx hb hX hbl hbA hS hi2 dL_law_383 ?_
      refine cV_roi (As := [.int (xs (x3 + 1).toNatClampNeg), .int (xs (x3 + 2).toNatClampNeg)]) (rest := [.int r]) hC (m_X7_notion l g b sm (xs (x3 + 1).toNatClampNeg) (xs (x3 + 2).toNatClampNeg) r e2) (kv_of hB bw_12_13 bw_12_11 bw_12_12 bw_1_5 kd_X7_notion bw_12_10 rfl rfl ⟨Nat.le_of_ble_eq_true rfl, Nat.le_of_ble_eq_true rfl⟩) hK (va_P_r hP) hP hS (mW_0 g b sm) rfl rfl hl.1 rfl (Nat.le_of_ble_eq_true rfl) dL_law_384 ⟨Nat.le_refl _, Nat.le_refl _⟩ (fun H locs hP hS => ?_)
      refine lv_icmp_eq (tgt := 834) hx hb dL_law_387 (by decide) (fun _ => ?_) (fun h => absurd rfl h)
      exact next _ _ hI2 H locs hP hS
    · refine lv_tableIn (tgt := 392) (off := 360) hx hb dL_law_32 (by rw [h]; decide) (by rw [h]; decide) (by rw [h]; rfl) (by decide) ?_
      obtain ⟨r, e1, e2, hI2⟩ := S8 sx sm (xs (x3 + 1).toNatClampNeg) (xs (x3 + 2).toNatClampNeg) hI
      refine lv_aload_n hx hb dL_law_392 rfl (lv_at hl 1 rfl) ?_
      refine lv_aload_n hx hb dL_law_393 rfl (lv_at hl 0 rfl) ?_
      refine lv_iload_n hx hb dL_law_394 rfl (lv_at hl 3 rfl) ?_
      refine lv_iconst (v := 1) hx hb dL_law_395 (by decide) ?_
      refine lv_iadd hx hb dL_law_396 ?_
      refine va_sld hx hb hX hbl hbA hS hi1 dL_law_397 ?_
      refine lv_aload_n hx hb dL_law_398 rfl (lv_at hl 0 rfl) ?_
      refine lv_iload_n hx hb dL_law_399 rfl (lv_at hl 3 rfl) ?_
      refine lv_iconst (v := 2) hx hb dL_law_400 (by decide) ?_
      refine lv_iadd hx hb dL_law_401 ?_
      refine va_sld hx hb hX hbl hbA hS hi2 dL_law_402 ?_
      refine cV_roi (As := [.int (xs (x3 + 1).toNatClampNeg), .int (xs (x3 + 2).toNatClampNeg)]) (rest := []) hC (m_X6_axiom l g a sx (xs (x3 + 1).toNatClampNeg) (xs (x3 + 2).toNatClampNeg)) (kv_of hB bw_12_17 bw_12_15 bw_12_16 bw_1_2 kd_X6_axiom bw_12_14 rfl rfl ⟨Nat.le_of_ble_eq_true rfl, Nat.le_of_ble_eq_true rfl⟩) hK (va_P_l hP) hP hS (xW_0 g a sx) rfl rfl hl.1 rfl (Nat.le_of_ble_eq_true rfl) dL_law_403 ⟨Nat.le_refl _, Nat.le_refl _⟩ (fun H locs hP hS => ?_)
      rw [e1]
      refine lv_aload_n hx hb dL_law_406 rfl (lv_at hl 2 rfl) ?_
      refine lv_aload_n hx hb dL_law_407 rfl (lv_at hl 0 rfl) ?_
      refine lv_iload_n hx hb dL_law_408 rfl (lv_at hl 3 rfl) ?_
      refine lv_iconst (v := 1) hx hb dL_law_409 (by decide) ?_
      refine lv_iadd hx hb dL_law_410 ?_
      refine va_sld hx hb hX hbl hbA hS hi1 dL_law_411 ?_
      refine lv_aload_n hx hb dL_law_412 rfl (lv_at hl 0 rfl) ?_
      refine lv_iload_n hx hb dL_law_413 rfl (lv_at hl 3 rfl) ?_
      refine lv_iconst (v := 2) hx hb dL_law_414 (by decide) ?_
      refine lv_iadd hx hb dL_law_415 ?_
      refine va_sld hx hb hX hbl hbA hS hi2 dL_law_416 ?_
      refine cV_roi (As := [.int (xs (x3 + 1).toNatClampNeg), .int (xs (x3 + 2).toNatClampNeg)]) (rest := [.int r]) hC (m_X7_axiom l g b sm (xs (x3 + 1).toNatClampNeg) (xs (x3 + 2).toNatClampNeg) r e2) (kv_of hB bw_12_23 bw_12_21 bw_12_22 bw_1_5 kd_X7_axiom bw_12_20 rfl rfl ⟨Nat.le_of_ble_eq_true rfl, Nat.le_of_ble_eq_true rfl⟩) hK (va_P_r hP) hP hS (mW_0 g b sm) rfl rfl hl.1 rfl (Nat.le_of_ble_eq_true rfl) dL_law_417 ⟨Nat.le_refl _, Nat.le_refl _⟩ (fun H locs hP hS => ?_)
      refine lv_icmp_eq (tgt := 834) hx hb dL_law_420 (by decide) (fun _ => ?_) (fun h => absurd rfl h)
      exact next _ _ hI2 H locs hP hS
    · refine lv_tableIn (tgt := 425) (off := 393) hx hb dL_law_32 (by rw [h]; decide) (by rw [h]; decide) (by rw [h]; rfl) (by decide) ?_
      obtain ⟨r, sx', sm', e1, e2, hI2⟩ := S9 sx sm hI
      refine lv_aload_n hx hb dL_law_425 rfl (lv_at hl 1 rfl) ?_
      refine cV_rwi_l (As := []) (rest := []) hC (m_X6_conclude l g a sx H.size (r, sx') e1) (kv_of hB bw_13_3 bw_13_1 bw_13_2 bw_1_2 kd_X6_conclude bw_13_0 rfl rfl ⟨Nat.le_of_ble_eq_true rfl, Nat.le_of_ble_eq_true rfl⟩) hK hP (hD _ _) hA hS (xW_0 g a sx) rfl rfl hl.1 rfl (Nat.le_of_ble_eq_true rfl) dL_law_426 ⟨Nat.le_refl _, Nat.le_refl _⟩ (fun H locs hP hS => ?_)
      refine lv_aload_n hx hb dL_law_429 rfl (lv_at hl 2 rfl) ?_
      refine cV_rwi_r (As := []) (rest := [.int r]) hC (m_X7_conclude l g b sm H.size (r, sm') e2) (kv_of hB bw_20_19 bw_20_17 bw_20_18 bw_1_5 kd_X7_conclude bw_20_16 rfl rfl ⟨Nat.le_of_ble_eq_true rfl, Nat.le_of_ble_eq_true rfl⟩) hK hP (hD _ _) hA hS (mW_0 g b sm) rfl rfl hl.1 rfl (Nat.le_of_ble_eq_true rfl) dL_law_430 ⟨Nat.le_refl _, Nat.le_refl _⟩ (fun H locs hP hS => ?_)
      refine lv_icmp_eq (tgt := 834) hx hb dL_law_433 (by decide) (fun _ => ?_) (fun h => absurd rfl h)
      exact next _ _ hI2 H locs hP hS
    · refine lv_tableIn (tgt := 438) (off := 406) hx hb dL_law_32 (by rw [h]; decide) (by rw [h]; decide) (by rw [h]; rfl) (by decide) ?_
      obtain ⟨r, e1, e2, hI2⟩ := S10 sx sm hI
      refine lv_aload_n hx hb dL_law_438 rfl (lv_at hl 1 rfl) ?_
      refine cV_roi (As := []) (rest := []) hC (m_X6_rounds l g a sx) (kv_of hB bw_23_15 bw_23_13 bw_23_14 bw_1_2 kd_X6_rounds bw_23_12 rfl rfl ⟨Nat.le_of_ble_eq_true rfl, Nat.le_of_ble_eq_true rfl⟩) hK (va_P_l hP) hP hS (xW_0 g a sx) rfl rfl hl.1 rfl (Nat.le_of_ble_eq_true rfl) dL_law_439 ⟨Nat.le_refl _, Nat.le_refl _⟩ (fun H locs hP hS => ?_)
      rw [e1]
      refine lv_aload_n hx hb dL_law_442 rfl (lv_at hl 2 rfl) ?_
      refine cV_roi (As := []) (rest := [.int r]) hC (m_X7_rounds l g b sm) (kv_of hB bw_23_19 bw_23_17 bw_23_18 bw_1_5 kd_X7_rounds bw_23_16 rfl rfl ⟨Nat.le_of_ble_eq_true rfl, Nat.le_of_ble_eq_true rfl⟩) hK (va_P_r hP) hP hS (mW_0 g b sm) rfl rfl hl.1 rfl (Nat.le_of_ble_eq_true rfl) dL_law_443 ⟨Nat.le_refl _, Nat.le_refl _⟩ (fun H locs hP hS => ?_)
      rw [e2]
      refine lv_icmp_eq (tgt := 834) hx hb dL_law_446 (by decide) (fun _ => ?_) (fun h => absurd rfl h)
      exact next _ _ hI2 H locs hP hS
    · refine lv_tableIn (tgt := 451) (off := 419) hx hb dL_law_32 (by rw [h]; decide) (by rw [h]; decide) (by rw [h]; rfl) (by decide) ?_
      obtain ⟨r, e1, e2, hI2⟩ := S11 sx sm (xs (x3 + 1).toNatClampNeg) (xs (x3 + 2).toNatClampNeg) hI
      refine lv_aload_n hx hb dL_law_451 rfl (lv_at hl 1 rfl) ?_
      refine lv_aload_n hx hb dL_law_452 rfl (lv_at hl 0 rfl) ?_
      refine lv_iload_n hx hb dL_law_453 rfl (lv_at hl 3 rfl) ?_
      refine lv_iconst (v := 1) hx hb dL_law_454 (by decide) ?_
      refine lv_iadd hx hb dL_law_455 ?_
      refine va_sld hx hb hX hbl hbA hS hi1 dL_law_456 ?_
      refine lv_aload_n hx hb dL_law_457 rfl (lv_at hl 0 rfl) ?_
      refine lv_iload_n hx hb dL_law_458 rfl (lv_at hl 3 rfl) ?_
      refine lv_iconst (v := 2) hx hb dL_law_459 (by decide) ?_
      refine lv_iadd hx hb dL_law_460 ?_
      refine va_sld hx hb hX hbl hbA hS hi2 dL_law_461 ?_
      refine cV_roi (As := [.int (xs (x3 + 1).toNatClampNeg), .int (xs (x3 + 2).toNatClampNeg)]) (rest := []) hC (m_X6_conclusion l g a sx (xs (x3 + 1).toNatClampNeg) (xs (x3 + 2).toNatClampNeg)) (kv_of hB bw_23_23 bw_23_21 bw_23_22 bw_1_2 kd_X6_conclusion bw_23_20 rfl rfl ⟨Nat.le_of_ble_eq_true rfl, Nat.le_of_ble_eq_true rfl⟩) hK (va_P_l hP) hP hS (xW_0 g a sx) rfl rfl hl.1 rfl (Nat.le_of_ble_eq_true rfl) dL_law_462 ⟨Nat.le_refl _, Nat.le_refl _⟩ (fun H locs hP hS => ?_)
      rw [e1]
      refine lv_aload_n hx hb dL_law_465 rfl (lv_at hl 2 rfl) ?_
      refine lv_aload_n hx hb dL_law_466 rfl (lv_at hl 0 rfl) ?_
      refine lv_iload_n hx hb dL_law_467 rfl (lv_at hl 3 rfl) ?_
      refine lv_iconst (v := 1) hx hb dL_law_468 (by decide) ?_
      refine lv_iadd hx hb dL_law_469 ?_
      refine va_sld hx hb hX hbl hbA hS hi1 dL_law_470 ?_
      refine lv_aload_n hx hb dL_law_471 rfl (lv_at hl 0 rfl) ?_
      refine lv_iload_n hx hb dL_law_472 rfl (lv_at hl 3 rfl) ?_
      refine lv_iconst (v := 2) hx hb dL_law_473 (by decide) ?_
      refine lv_iadd hx hb dL_law_474 ?_
      refine va_sld hx hb hX hbl hbA hS hi2 dL_law_475 ?_
      refine cV_roi (As := [.int (xs (x3 + 1).toNatClampNeg), .int (xs (x3 + 2).toNatClampNeg)]) (rest := [.int r]) hC (m_X7_conclusion l g b sm (xs (x3 + 1).toNatClampNeg) (xs (x3 + 2).toNatClampNeg) r e2) (kv_of hB bw_25_0 bw_24_22 bw_24_23 bw_1_5 kd_X7_conclusion bw_24_21 rfl rfl ⟨Nat.le_of_ble_eq_true rfl, Nat.le_of_ble_eq_true rfl⟩) hK (va_P_r hP) hP hS (mW_0 g b sm) rfl rfl hl.1 rfl (Nat.le_of_ble_eq_true rfl) dL_law_476 ⟨Nat.le_refl _, Nat.le_refl _⟩ (fun H locs hP hS => ?_)
      refine lv_icmp_eq (tgt := 834) hx hb dL_law_479 (by decide) (fun _ => ?_) (fun h => absurd rfl h)
      exact next _ _ hI2 H locs hP hS
    · refine lv_tableIn (tgt := 484) (off := 452) hx hb dL_law_32 (by rw [h]; decide) (by rw [h]; decide) (by rw [h]; rfl) (by decide) ?_
      obtain ⟨r, e1, e2, hI2⟩ := S12 sx sm (xs (x3 + 1).toNatClampNeg) (xs (x3 + 2).toNatClampNeg) hI
      refine lv_aload_n hx hb dL_law_484 rfl (lv_at hl 1 rfl) ?_
      refine lv_aload_n hx hb dL_law_485 rfl (lv_at hl 0 rfl) ?_
      refine lv_iload_n hx hb dL_law_486 rfl (lv_at hl 3 rfl) ?_
      refine lv_iconst (v := 1) hx hb dL_law_487 (by decide) ?_
      refine lv_iadd hx hb dL_law_488 ?_
      refine va_sld hx hb hX hbl hbA hS hi1 dL_law_489 ?_
      refine lv_aload_n hx hb dL_law_490 rfl (lv_at hl 0 rfl) ?_
      refine lv_iload_n hx hb dL_law_491 rfl (lv_at hl 3 rfl) ?_
      refine lv_iconst (v := 2) hx hb dL_law_492 (by decide) ?_
      refine lv_iadd hx hb dL_law_493 ?_
      refine va_sld hx hb hX hbl hbA hS hi2 dL_law_494 ?_
      refine cV_roi (As := [.int (xs (x3 + 1).toNatClampNeg), .int (xs (x3 + 2).toNatClampNeg)]) (rest := []) hC (m_X6_is l g a sx (xs (x3 + 1).toNatClampNeg) (xs (x3 + 2).toNatClampNeg)) (kv_of hB bw_25_4 bw_25_2 bw_25_3 bw_1_2 kd_X6_is bw_25_1 rfl rfl ⟨Nat.le_of_ble_eq_true rfl, Nat.le_of_ble_eq_true rfl⟩) hK (va_P_l hP) hP hS (xW_0 g a sx) rfl rfl hl.1 rfl (Nat.le_of_ble_eq_true rfl) dL_law_495 ⟨Nat.le_refl _, Nat.le_refl _⟩ (fun H locs hP hS => ?_)
      rw [e1]
      refine lv_aload_n hx hb dL_law_498 rfl (lv_at hl 2 rfl) ?_
      refine lv_aload_n hx hb dL_law_499 rfl (lv_at hl 0 rfl) ?_
      refine lv_iload_n hx hb dL_law_500 rfl (lv_at hl 3 rfl) ?_
      refine lv_iconst (v := 1) hx hb dL_law_501 (by decide) ?_
      refine lv_iadd hx hb dL_law_502 ?_
      refine va_sld hx hb hX hbl hbA hS hi1 dL_law_503 ?_
      refine lv_aload_n hx hb dL_law_504 rfl (lv_at hl 0 rfl) ?_
      refine lv_iload_n hx hb dL_law_505 rfl (lv_at hl 3 rfl) ?_
      refine lv_iconst (v := 2) hx hb dL_law_506 (by decide) ?_
      refine lv_iadd hx hb dL_law_507 ?_
      refine va_sld hx hb hX hbl hbA hS hi2 dL_law_508 ?_
      refine cV_roi (As := [.int (xs (x3 + 1).toNatClampNeg), .int (xs (x3 + 2).toNatClampNeg)]) (rest := [.int r]) hC (m_X7_is l g b sm (xs (x3 + 1).toNatClampNeg) (xs (x3 + 2).toNatClampNeg) r e2) (kv_of hB bw_25_9 bw_25_7 bw_25_8 bw_1_5 kd_X7_is bw_25_6 rfl rfl ⟨Nat.le_of_ble_eq_true rfl, Nat.le_of_ble_eq_true rfl⟩) hK (va_P_r hP) hP hS (mW_0 g b sm) rfl rfl hl.1 rfl (Nat.le_of_ble_eq_true rfl) dL_law_509 ⟨Nat.le_refl _, Nat.le_refl _⟩ (fun H locs hP hS => ?_)
      refine lv_icmp_eq (tgt := 834) hx hb dL_law_512 (by decide) (fun _ => ?_) (fun h => absurd rfl h)
      exact next _ _ hI2 H locs hP hS
    · refine lv_tableIn (tgt := 517) (off := 485) hx hb dL_law_32 (by rw [h]; decide) (by rw [h]; decide) (by rw [h]; rfl) (by decide) ?_
      obtain ⟨r, e1, e2, hI2⟩ := S13 sx sm (xs (x3 + 1).toNatClampNeg) (xs (x3 + 2).toNatClampNeg) (xs (x3 + 3).toNatClampNeg) hI
      refine lv_aload_n hx hb dL_law_517 rfl (lv_at hl 1 rfl) ?_
      refine lv_aload_n hx hb dL_law_518 rfl (lv_at hl 0 rfl) ?_
      refine lv_iload_n hx hb dL_law_519 rfl (lv_at hl 3 rfl) ?_
      refine lv_iconst (v := 1) hx hb dL_law_520 (by decide) ?_
      refine lv_iadd hx hb dL_law_521 ?_
      refine va_sld hx hb hX hbl hbA hS hi1 dL_law_522 ?_
      refine lv_aload_n hx hb dL_law_523 rfl (lv_at hl 0 rfl) ?_
      refine lv_iload_n hx hb dL_law_524 rfl (lv_at hl 3 rfl) ?_
      refine lv_iconst (v := 2) hx hb dL_law_525 (by decide) ?_
      refine lv_iadd hx hb dL_law_526 ?_
      refine va_sld hx hb hX hbl hbA hS hi2 dL_law_527 ?_
      refine lv_aload_n hx hb dL_law_528 rfl (lv_at hl 0 rfl) ?_
      refine lv_iload_n hx hb dL_law_529 rfl (lv_at hl 3 rfl) ?_
      refine lv_iconst (v := 3) hx hb dL_law_530 (by decide) ?_
      refine lv_iadd hx hb dL_law_531 ?_
      refine va_sld hx hb hX hbl hbA hS hi3 dL_law_532 ?_
      refine cV_roi (As := [.int (xs (x3 + 1).toNatClampNeg), .int (xs (x3 + 2).toNatClampNeg), .int (xs (x3 + 3).toNatClampNeg)]) (rest := []) hC (m_X6_to l g a sx (xs (x3 + 1).toNatClampNeg) (xs (x3 + 2).toNatClampNeg) (xs (x3 + 3).toNatClampNeg)) (kv_of hB bw_25_13 bw_25_11 bw_25_12 bw_1_2 kd_X6_to bw_25_10 rfl rfl ⟨Nat.le_of_ble_eq_true rfl, Nat.le_of_ble_eq_true rfl⟩) hK (va_P_l hP) hP hS (xW_0 g a sx) rfl rfl hl.1 rfl (Nat.le_of_ble_eq_true rfl) dL_law_533 ⟨Nat.le_refl _, Nat.le_refl _⟩ (fun H locs hP hS => ?_)
      rw [e1]
      refine lv_aload_n hx hb dL_law_536 rfl (lv_at hl 2 rfl) ?_
      refine lv_aload_n hx hb dL_law_537 rfl (lv_at hl 0 rfl) ?_
      refine lv_iload_n hx hb dL_law_538 rfl (lv_at hl 3 rfl) ?_
      refine lv_iconst (v := 1) hx hb dL_law_539 (by decide) ?_
      refine lv_iadd hx hb dL_law_540 ?_
      refine va_sld hx hb hX hbl hbA hS hi1 dL_law_541 ?_
      refine lv_aload_n hx hb dL_law_542 rfl (lv_at hl 0 rfl) ?_
      refine lv_iload_n hx hb dL_law_543 rfl (lv_at hl 3 rfl) ?_
      refine lv_iconst (v := 2) hx hb dL_law_544 (by decide) ?_
      refine lv_iadd hx hb dL_law_545 ?_
      refine va_sld hx hb hX hbl hbA hS hi2 dL_law_546 ?_
      refine lv_aload_n hx hb dL_law_547 rfl (lv_at hl 0 rfl) ?_
      refine lv_iload_n hx hb dL_law_548 rfl (lv_at hl 3 rfl) ?_
      refine lv_iconst (v := 3) hx hb dL_law_549 (by decide) ?_
      refine lv_iadd hx hb dL_law_550 ?_
      refine va_sld hx hb hX hbl hbA hS hi3 dL_law_551 ?_
      refine cV_roi (As := [.int (xs (x3 + 1).toNatClampNeg), .int (xs (x3 + 2).toNatClampNeg), .int (xs (x3 + 3).toNatClampNeg)]) (rest := [.int r]) hC (m_X7_to l g b sm (xs (x3 + 1).toNatClampNeg) (xs (x3 + 2).toNatClampNeg) (xs (x3 + 3).toNatClampNeg) r e2) (kv_of hB bw_25_18 bw_25_16 bw_25_17 bw_1_5 kd_X7_to bw_25_15 rfl rfl ⟨Nat.le_of_ble_eq_true rfl, Nat.le_of_ble_eq_true rfl⟩) hK (va_P_r hP) hP hS (mW_0 g b sm) rfl rfl hl.1 rfl (Nat.le_of_ble_eq_true rfl) dL_law_552 ⟨Nat.le_refl _, Nat.le_refl _⟩ (fun H locs hP hS => ?_)
      refine lv_icmp_eq (tgt := 834) hx hb dL_law_555 (by decide) (fun _ => ?_) (fun h => absurd rfl h)
      exact next _ _ hI2 H locs hP hS
    · refine lv_tableIn (tgt := 560) (off := 528) hx hb dL_law_32 (by rw [h]; decide) (by rw [h]; decide) (by rw [h]; rfl) (by decide) ?_
      obtain ⟨r, sx', sm', e1, e2, hI2⟩ := S14 sx sm (xs (x3 + 1).toNatClampNeg) hI
      refine lv_aload_n hx hb dL_law_560 rfl (lv_at hl 1 rfl) ?_
      refine lv_aload_n hx hb dL_law_561 rfl (lv_at hl 0 rfl) ?_
      refine lv_iload_n hx hb dL_law_562 rfl (lv_at hl 3 rfl) ?_
      refine lv_iconst (v := 1) hx hb dL_law_563 (by decide) ?_
      refine lv_iadd hx hb dL_law_564 ?_
      refine va_sld hx hb hX hbl hbA hS hi1 dL_law_565 ?_
      refine cV_rwi_l (As := [.int (xs (x3 + 1).toNatClampNeg)]) (rest := []) hC (m_X6_proof l g a sx H.size (xs (x3 + 1).toNatClampNeg) (r, sx') e1) (kv_of hB bw_25_22 bw_25_20 bw_25_21 bw_1_2 kd_X6_proof bw_25_19 rfl rfl ⟨Nat.le_of_ble_eq_true rfl, Nat.le_of_ble_eq_true rfl⟩) hK hP (hD _ _) hA hS (xW_0 g a sx) rfl rfl hl.1 rfl (Nat.le_of_ble_eq_true rfl) dL_law_566 ⟨Nat.le_refl _, Nat.le_refl _⟩ (fun H locs hP hS => ?_)
      refine lv_aload_n hx hb dL_law_569 rfl (lv_at hl 2 rfl) ?_
      refine lv_aload_n hx hb dL_law_570 rfl (lv_at hl 0 rfl) ?_
      refine lv_iload_n hx hb dL_law_571 rfl (lv_at hl 3 rfl) ?_
      refine lv_iconst (v := 1) hx hb dL_law_572 (by decide) ?_
      refine lv_iadd hx hb dL_law_573 ?_
      refine va_sld hx hb hX hbl hbA hS hi1 dL_law_574 ?_
      refine cV_rwi_r (As := [.int (xs (x3 + 1).toNatClampNeg)]) (rest := [.int r]) hC (m_X7_proof l g b sm H.size (xs (x3 + 1).toNatClampNeg) (r, sm') e2) (kv_of hB bw_26_6 bw_26_4 bw_26_5 bw_1_5 kd_X7_proof bw_26_3 rfl rfl ⟨Nat.le_of_ble_eq_true rfl, Nat.le_of_ble_eq_true rfl⟩) hK hP (hD _ _) hA hS (mW_0 g b sm) rfl rfl hl.1 rfl (Nat.le_of_ble_eq_true rfl) dL_law_575 ⟨Nat.le_refl _, Nat.le_refl _⟩ (fun H locs hP hS => ?_)
      refine lv_icmp_eq (tgt := 834) hx hb dL_law_578 (by decide) (fun _ => ?_) (fun h => absurd rfl h)
      exact next _ _ hI2 H locs hP hS
    · refine lv_tableIn (tgt := 583) (off := 551) hx hb dL_law_32 (by rw [h]; decide) (by rw [h]; decide) (by rw [h]; rfl) (by decide) ?_
      obtain ⟨r, e1, e2, hI2⟩ := S15 sx sm (xs (x3 + 1).toNatClampNeg) (xs (x3 + 2).toNatClampNeg) hI
      refine lv_aload_n hx hb dL_law_583 rfl (lv_at hl 1 rfl) ?_
      refine lv_aload_n hx hb dL_law_584 rfl (lv_at hl 0 rfl) ?_
      refine lv_iload_n hx hb dL_law_585 rfl (lv_at hl 3 rfl) ?_
      refine lv_iconst (v := 1) hx hb dL_law_586 (by decide) ?_
      refine lv_iadd hx hb dL_law_587 ?_
      refine va_sld hx hb hX hbl hbA hS hi1 dL_law_588 ?_
      refine lv_aload_n hx hb dL_law_589 rfl (lv_at hl 0 rfl) ?_
      refine lv_iload_n hx hb dL_law_590 rfl (lv_at hl 3 rfl) ?_
      refine lv_iconst (v := 2) hx hb dL_law_591 (by decide) ?_
      refine lv_iadd hx hb dL_law_592 ?_
      refine va_sld hx hb hX hbl hbA hS hi2 dL_law_593 ?_
      refine cV_roi (As := [.int (xs (x3 + 1).toNatClampNeg), .int (xs (x3 + 2).toNatClampNeg)]) (rest := []) hC (m_X6_under l g a sx (xs (x3 + 1).toNatClampNeg) (xs (x3 + 2).toNatClampNeg)) (kv_of hB bw_26_10 bw_26_8 bw_26_9 bw_1_2 kd_X6_under bw_26_7 rfl rfl ⟨Nat.le_of_ble_eq_true rfl, Nat.le_of_ble_eq_true rfl⟩) hK (va_P_l hP) hP hS (xW_0 g a sx) rfl rfl hl.1 rfl (Nat.le_of_ble_eq_true rfl) dL_law_594 ⟨Nat.le_refl _, Nat.le_refl _⟩ (fun H locs hP hS => ?_)
      rw [e1]
      refine lv_aload_n hx hb dL_law_597 rfl (lv_at hl 2 rfl) ?_
      refine lv_aload_n hx hb dL_law_598 rfl (lv_at hl 0 rfl) ?_
      refine lv_iload_n hx hb dL_law_599 rfl (lv_at hl 3 rfl) ?_
      refine lv_iconst (v := 1) hx hb dL_law_600 (by decide) ?_
      refine lv_iadd hx hb dL_law_601 ?_
      refine va_sld hx hb hX hbl hbA hS hi1 dL_law_602 ?_
      refine lv_aload_n hx hb dL_law_603 rfl (lv_at hl 0 rfl) ?_
      refine lv_iload_n hx hb dL_law_604 rfl (lv_at hl 3 rfl) ?_
      refine lv_iconst (v := 2) hx hb dL_law_605 (by decide) ?_
      refine lv_iadd hx hb dL_law_606 ?_
      refine va_sld hx hb hX hbl hbA hS hi2 dL_law_607 ?_
      refine cV_roi (As := [.int (xs (x3 + 1).toNatClampNeg), .int (xs (x3 + 2).toNatClampNeg)]) (rest := [.int r]) hC (m_X7_under l g b sm (xs (x3 + 1).toNatClampNeg) (xs (x3 + 2).toNatClampNeg) r e2) (kv_of hB bw_27_1 bw_26_23 bw_27_0 bw_1_5 kd_X7_under bw_26_22 rfl rfl ⟨Nat.le_of_ble_eq_true rfl, Nat.le_of_ble_eq_true rfl⟩) hK (va_P_r hP) hP hS (mW_0 g b sm) rfl rfl hl.1 rfl (Nat.le_of_ble_eq_true rfl) dL_law_608 ⟨Nat.le_refl _, Nat.le_refl _⟩ (fun H locs hP hS => ?_)
      refine lv_icmp_eq (tgt := 834) hx hb dL_law_611 (by decide) (fun _ => ?_) (fun h => absurd rfl h)
      exact next _ _ hI2 H locs hP hS
    · refine lv_tableIn (tgt := 616) (off := 584) hx hb dL_law_32 (by rw [h]; decide) (by rw [h]; decide) (by rw [h]; rfl) (by decide) ?_
      obtain ⟨r, e1, e2, hI2⟩ := S16 sx sm (xs (x3 + 1).toNatClampNeg) hI
      refine lv_aload_n hx hb dL_law_616 rfl (lv_at hl 1 rfl) ?_
      refine lv_aload_n hx hb dL_law_617 rfl (lv_at hl 0 rfl) ?_
      refine lv_iload_n hx hb dL_law_618 rfl (lv_at hl 3 rfl) ?_
      refine lv_iconst (v := 1) hx hb dL_law_619 (by decide) ?_
      refine lv_iadd hx hb dL_law_620 ?_
      refine va_sld hx hb hX hbl hbA hS hi1 dL_law_621 ?_
      refine cV_roi (As := [.int (xs (x3 + 1).toNatClampNeg)]) (rest := []) hC (m_X6_like l g a sx (xs (x3 + 1).toNatClampNeg) r e1) (kv_of hB bw_27_13 bw_27_11 bw_27_12 bw_1_2 kd_X6_like bw_27_10 rfl rfl ⟨Nat.le_of_ble_eq_true rfl, Nat.le_of_ble_eq_true rfl⟩) hK (va_P_l hP) hP hS (xW_0 g a sx) rfl rfl hl.1 rfl (Nat.le_of_ble_eq_true rfl) dL_law_622 ⟨Nat.le_refl _, Nat.le_refl _⟩ (fun H locs hP hS => ?_)
      refine lv_aload_n hx hb dL_law_625 rfl (lv_at hl 2 rfl) ?_
      refine lv_aload_n hx hb dL_law_626 rfl (lv_at hl 0 rfl) ?_
      refine lv_iload_n hx hb dL_law_627 rfl (lv_at hl 3 rfl) ?_
      refine lv_iconst (v := 1) hx hb dL_law_628 (by decide) ?_
      refine lv_iadd hx hb dL_law_629 ?_
      refine va_sld hx hb hX hbl hbA hS hi1 dL_law_630 ?_
      refine cV_roi (As := [.int (xs (x3 + 1).toNatClampNeg)]) (rest := [.int r]) hC (m_X7_like l g b sm (xs (x3 + 1).toNatClampNeg) r e2) (kv_of hB bw_28_1 bw_27_23 bw_28_0 bw_1_5 kd_X7_like bw_27_22 rfl rfl ⟨Nat.le_of_ble_eq_true rfl, Nat.le_of_ble_eq_true rfl⟩) hK (va_P_r hP) hP hS (mW_0 g b sm) rfl rfl hl.1 rfl (Nat.le_of_ble_eq_true rfl) dL_law_631 ⟨Nat.le_refl _, Nat.le_refl _⟩ (fun H locs hP hS => ?_)
      refine lv_icmp_eq (tgt := 834) hx hb dL_law_634 (by decide) (fun _ => ?_) (fun h => absurd rfl h)
      exact next _ _ hI2 H locs hP hS
    · refine lv_tableIn (tgt := 639) (off := 607) hx hb dL_law_32 (by rw [h]; decide) (by rw [h]; decide) (by rw [h]; rfl) (by decide) ?_
      obtain ⟨r, e1, e2, hI2⟩ := S17 sx sm (xs (x3 + 1).toNatClampNeg) (xs (x3 + 2).toNatClampNeg) hI
      refine lv_aload_n hx hb dL_law_639 rfl (lv_at hl 1 rfl) ?_
      refine lv_aload_n hx hb dL_law_640 rfl (lv_at hl 0 rfl) ?_
      refine lv_iload_n hx hb dL_law_641 rfl (lv_at hl 3 rfl) ?_
      refine lv_iconst (v := 1) hx hb dL_law_642 (by decide) ?_
      refine lv_iadd hx hb dL_law_643 ?_
      refine va_sld hx hb hX hbl hbA hS hi1 dL_law_644 ?_
      refine lv_aload_n hx hb dL_law_645 rfl (lv_at hl 0 rfl) ?_
      refine lv_iload_n hx hb dL_law_646 rfl (lv_at hl 3 rfl) ?_
      refine lv_iconst (v := 2) hx hb dL_law_647 (by decide) ?_
      refine lv_iadd hx hb dL_law_648 ?_
      refine va_sld hx hb hX hbl hbA hS hi2 dL_law_649 ?_
      refine cV_roi (As := [.int (xs (x3 + 1).toNatClampNeg), .int (xs (x3 + 2).toNatClampNeg)]) (rest := []) hC (m_X6_parent l g a sx (xs (x3 + 1).toNatClampNeg) (xs (x3 + 2).toNatClampNeg) r e1) (kv_of hB bw_28_13 bw_28_11 bw_28_12 bw_1_2 kd_X6_parent bw_28_10 rfl rfl ⟨Nat.le_of_ble_eq_true rfl, Nat.le_of_ble_eq_true rfl⟩) hK (va_P_l hP) hP hS (xW_0 g a sx) rfl rfl hl.1 rfl (Nat.le_of_ble_eq_true rfl) dL_law_650 ⟨Nat.le_refl _, Nat.le_refl _⟩ (fun H locs hP hS => ?_)
      refine lv_aload_n hx hb dL_law_653 rfl (lv_at hl 2 rfl) ?_
      refine lv_aload_n hx hb dL_law_654 rfl (lv_at hl 0 rfl) ?_
      refine lv_iload_n hx hb dL_law_655 rfl (lv_at hl 3 rfl) ?_
      refine lv_iconst (v := 1) hx hb dL_law_656 (by decide) ?_
      refine lv_iadd hx hb dL_law_657 ?_
      refine va_sld hx hb hX hbl hbA hS hi1 dL_law_658 ?_
      refine lv_aload_n hx hb dL_law_659 rfl (lv_at hl 0 rfl) ?_
      refine lv_iload_n hx hb dL_law_660 rfl (lv_at hl 3 rfl) ?_
      refine lv_iconst (v := 2) hx hb dL_law_661 (by decide) ?_
      refine lv_iadd hx hb dL_law_662 ?_
      refine va_sld hx hb hX hbl hbA hS hi2 dL_law_663 ?_
      refine cV_roi (As := [.int (xs (x3 + 1).toNatClampNeg), .int (xs (x3 + 2).toNatClampNeg)]) (rest := [.int r]) hC (m_X7_parent l g b sm (xs (x3 + 1).toNatClampNeg) (xs (x3 + 2).toNatClampNeg) r e2) (kv_of hB bw_28_21 bw_28_19 bw_28_20 bw_1_5 kd_X7_parent bw_28_18 rfl rfl ⟨Nat.le_of_ble_eq_true rfl, Nat.le_of_ble_eq_true rfl⟩) hK (va_P_r hP) hP hS (mW_0 g b sm) rfl rfl hl.1 rfl (Nat.le_of_ble_eq_true rfl) dL_law_664 ⟨Nat.le_refl _, Nat.le_refl _⟩ (fun H locs hP hS => ?_)
      refine lv_icmp_eq (tgt := 834) hx hb dL_law_667 (by decide) (fun _ => ?_) (fun h => absurd rfl h)
      exact next _ _ hI2 H locs hP hS
    · refine lv_tableIn (tgt := 672) (off := 640) hx hb dL_law_32 (by rw [h]; decide) (by rw [h]; decide) (by rw [h]; rfl) (by decide) ?_
      obtain ⟨r, e1, e2, hI2⟩ := S18 sx sm hI
      refine lv_aload_n hx hb dL_law_672 rfl (lv_at hl 1 rfl) ?_
      refine cV_roi (As := []) (rest := []) hC (m_X6_broken l g a sx) (kv_of hB bw_29_5 bw_29_3 bw_29_4 bw_1_2 kd_X6_broken bw_29_2 rfl rfl ⟨Nat.le_of_ble_eq_true rfl, Nat.le_of_ble_eq_true rfl⟩) hK (va_P_l hP) hP hS (xW_0 g a sx) rfl rfl hl.1 rfl (Nat.le_of_ble_eq_true rfl) dL_law_673 ⟨Nat.le_refl _, Nat.le_refl _⟩ (fun H locs hP hS => ?_)
      rw [e1]
      refine lv_aload_n hx hb dL_law_676 rfl (lv_at hl 2 rfl) ?_
      refine cV_roi (As := []) (rest := [.int r]) hC (m_X7_broken l g b sm r e2) (kv_of hB bw_29_9 bw_29_7 bw_29_8 bw_1_5 kd_X7_broken bw_29_6 rfl rfl ⟨Nat.le_of_ble_eq_true rfl, Nat.le_of_ble_eq_true rfl⟩) hK (va_P_r hP) hP hS (mW_0 g b sm) rfl rfl hl.1 rfl (Nat.le_of_ble_eq_true rfl) dL_law_677 ⟨Nat.le_refl _, Nat.le_refl _⟩ (fun H locs hP hS => ?_)
      refine lv_icmp_eq (tgt := 834) hx hb dL_law_680 (by decide) (fun _ => ?_) (fun h => absurd rfl h)
      exact next _ _ hI2 H locs hP hS
    · refine lv_tableIn (tgt := 685) (off := 653) hx hb dL_law_32 (by rw [h]; decide) (by rw [h]; decide) (by rw [h]; rfl) (by decide) ?_
      obtain ⟨r, e1, e2, hI2⟩ := S19 sx sm hI
      refine lv_aload_n hx hb dL_law_685 rfl (lv_at hl 1 rfl) ?_
      refine cV_roi (As := []) (rest := []) hC (m_X6_things l g a sx) (kv_of hB bw_29_13 bw_29_11 bw_29_12 bw_1_2 kd_X6_things bw_29_10 rfl rfl ⟨Nat.le_of_ble_eq_true rfl, Nat.le_of_ble_eq_true rfl⟩) hK (va_P_l hP) hP hS (xW_0 g a sx) rfl rfl hl.1 rfl (Nat.le_of_ble_eq_true rfl) dL_law_686 ⟨Nat.le_refl _, Nat.le_refl _⟩ (fun H locs hP hS => ?_)
      rw [e1]
      refine lv_aload_n hx hb dL_law_689 rfl (lv_at hl 2 rfl) ?_
      refine cV_roi (As := []) (rest := [.int r]) hC (m_X7_things l g b sm r e2) (kv_of hB bw_30_1 bw_29_23 bw_30_0 bw_1_5 kd_X7_things bw_29_22 rfl rfl ⟨Nat.le_of_ble_eq_true rfl, Nat.le_of_ble_eq_true rfl⟩) hK (va_P_r hP) hP hS (mW_0 g b sm) rfl rfl hl.1 rfl (Nat.le_of_ble_eq_true rfl) dL_law_690 ⟨Nat.le_refl _, Nat.le_refl _⟩ (fun H locs hP hS => ?_)
      refine lv_icmp_eq (tgt := 834) hx hb dL_law_693 (by decide) (fun _ => ?_) (fun h => absurd rfl h)
      exact next _ _ hI2 H locs hP hS
    · refine lv_tableIn (tgt := 698) (off := 666) hx hb dL_law_32 (by rw [h]; decide) (by rw [h]; decide) (by rw [h]; rfl) (by decide) ?_
      obtain ⟨r, e1, e2, hI2⟩ := S20 sx sm (xs (x3 + 1).toNatClampNeg) (xs (x3 + 2).toNatClampNeg) hI
      refine lv_aload_n hx hb dL_law_698 rfl (lv_at hl 1 rfl) ?_
      refine lv_aload_n hx hb dL_law_699 rfl (lv_at hl 0 rfl) ?_
      refine lv_iload_n hx hb dL_law_700 rfl (lv_at hl 3 rfl) ?_
      refine lv_iconst (v := 1) hx hb dL_law_701 (by decide) ?_
      refine lv_iadd hx hb dL_law_702 ?_
      refine va_sld hx hb hX hbl hbA hS hi1 dL_law_703 ?_
      refine lv_aload_n hx hb dL_law_704 rfl (lv_at hl 0 rfl) ?_
      refine lv_iload_n hx hb dL_law_705 rfl (lv_at hl 3 rfl) ?_
      refine lv_iconst (v := 2) hx hb dL_law_706 (by decide) ?_
      refine lv_iadd hx hb dL_law_707 ?_
      refine va_sld hx hb hX hbl hbA hS hi2 dL_law_708 ?_
      refine cV_roi (As := [.int (xs (x3 + 1).toNatClampNeg), .int (xs (x3 + 2).toNatClampNeg)]) (rest := []) hC (m_X6_isOf l g a sx (xs (x3 + 1).toNatClampNeg) (xs (x3 + 2).toNatClampNeg)) (kv_of hB bw_30_5 bw_30_3 bw_30_4 bw_1_2 kd_X6_isOf bw_30_2 rfl rfl ⟨Nat.le_of_ble_eq_true rfl, Nat.le_of_ble_eq_true rfl⟩) hK (va_P_l hP) hP hS (xW_0 g a sx) rfl rfl hl.1 rfl (Nat.le_of_ble_eq_true rfl) dL_law_709 ⟨Nat.le_refl _, Nat.le_refl _⟩ (fun H locs hP hS => ?_)
      rw [e1]
      refine lv_aload_n hx hb dL_law_712 rfl (lv_at hl 2 rfl) ?_
      refine lv_aload_n hx hb dL_law_713 rfl (lv_at hl 0 rfl) ?_
      refine lv_iload_n hx hb dL_law_714 rfl (lv_at hl 3 rfl) ?_
      refine lv_iconst (v := 1) hx hb dL_law_715 (by decide) ?_
      refine lv_iadd hx hb dL_law_716 ?_
      refine va_sld hx hb hX hbl hbA hS hi1 dL_law_717 ?_
      refine lv_aload_n hx hb dL_law_718 rfl (lv_at hl 0 rfl) ?_
      refine lv_iload_n hx hb dL_law_719 rfl (lv_at hl 3 rfl) ?_
      refine lv_iconst (v := 2) hx hb dL_law_720 (by decide) ?_
      refine lv_iadd hx hb dL_law_721 ?_
      refine va_sld hx hb hX hbl hbA hS hi2 dL_law_722 ?_
      refine cV_roi (As := [.int (xs (x3 + 1).toNatClampNeg), .int (xs (x3 + 2).toNatClampNeg)]) (rest := [.int r]) hC (m_X7_isOf l g b sm (xs (x3 + 1).toNatClampNeg) (xs (x3 + 2).toNatClampNeg) r e2) (kv_of hB bw_30_10 bw_30_8 bw_30_9 bw_1_5 kd_X7_isOf bw_30_7 rfl rfl ⟨Nat.le_of_ble_eq_true rfl, Nat.le_of_ble_eq_true rfl⟩) hK (va_P_r hP) hP hS (mW_0 g b sm) rfl rfl hl.1 rfl (Nat.le_of_ble_eq_true rfl) dL_law_723 ⟨Nat.le_refl _, Nat.le_refl _⟩ (fun H locs hP hS => ?_)
      refine lv_icmp_eq (tgt := 834) hx hb dL_law_726 (by decide) (fun _ => ?_) (fun h => absurd rfl h)
      exact next _ _ hI2 H locs hP hS
    · refine lv_tableIn (tgt := 731) (off := 699) hx hb dL_law_32 (by rw [h]; decide) (by rw [h]; decide) (by rw [h]; rfl) (by decide) ?_
      obtain ⟨r, e1, e2, hI2⟩ := S21 sx sm (xs (x3 + 1).toNatClampNeg) (xs (x3 + 2).toNatClampNeg) (xs (x3 + 3).toNatClampNeg) hI
      refine lv_aload_n hx hb dL_law_731 rfl (lv_at hl 1 rfl) ?_
      refine lv_aload_n hx hb dL_law_732 rfl (lv_at hl 0 rfl) ?_
      refine lv_iload_n hx hb dL_law_733 rfl (lv_at hl 3 rfl) ?_
      refine lv_iconst (v := 1) hx hb dL_law_734 (by decide) ?_
      refine lv_iadd hx hb dL_law_735 ?_
      refine va_sld hx hb hX hbl hbA hS hi1 dL_law_736 ?_
      refine lv_aload_n hx hb dL_law_737 rfl (lv_at hl 0 rfl) ?_
      refine lv_iload_n hx hb dL_law_738 rfl (lv_at hl 3 rfl) ?_
      refine lv_iconst (v := 2) hx hb dL_law_739 (by decide) ?_
      refine lv_iadd hx hb dL_law_740 ?_
      refine va_sld hx hb hX hbl hbA hS hi2 dL_law_741 ?_
      refine lv_aload_n hx hb dL_law_742 rfl (lv_at hl 0 rfl) ?_
      refine lv_iload_n hx hb dL_law_743 rfl (lv_at hl 3 rfl) ?_
      refine lv_iconst (v := 3) hx hb dL_law_744 (by decide) ?_
      refine lv_iadd hx hb dL_law_745 ?_
      refine va_sld hx hb hX hbl hbA hS hi3 dL_law_746 ?_
      refine cV_roi (As := [.int (xs (x3 + 1).toNatClampNeg), .int (xs (x3 + 2).toNatClampNeg), .int (xs (x3 + 3).toNatClampNeg)]) (rest := []) hC (m_X6_pair l g a sx (xs (x3 + 1).toNatClampNeg) (xs (x3 + 2).toNatClampNeg) (xs (x3 + 3).toNatClampNeg)) (kv_of hB bw_30_14 bw_30_12 bw_30_13 bw_1_2 kd_X6_pair bw_30_11 rfl rfl ⟨Nat.le_of_ble_eq_true rfl, Nat.le_of_ble_eq_true rfl⟩) hK (va_P_l hP) hP hS (xW_0 g a sx) rfl rfl hl.1 rfl (Nat.le_of_ble_eq_true rfl) dL_law_747 ⟨Nat.le_refl _, Nat.le_refl _⟩ (fun H locs hP hS => ?_)
      rw [e1]
      refine lv_aload_n hx hb dL_law_750 rfl (lv_at hl 2 rfl) ?_
      refine lv_aload_n hx hb dL_law_751 rfl (lv_at hl 0 rfl) ?_
      refine lv_iload_n hx hb dL_law_752 rfl (lv_at hl 3 rfl) ?_
      refine lv_iconst (v := 1) hx hb dL_law_753 (by decide) ?_
      refine lv_iadd hx hb dL_law_754 ?_
      refine va_sld hx hb hX hbl hbA hS hi1 dL_law_755 ?_
      refine lv_aload_n hx hb dL_law_756 rfl (lv_at hl 0 rfl) ?_
      refine lv_iload_n hx hb dL_law_757 rfl (lv_at hl 3 rfl) ?_
      refine lv_iconst (v := 2) hx hb dL_law_758 (by decide) ?_
      refine lv_iadd hx hb dL_law_759 ?_
      refine va_sld hx hb hX hbl hbA hS hi2 dL_law_760 ?_
      refine lv_aload_n hx hb dL_law_761 rfl (lv_at hl 0 rfl) ?_
      refine lv_iload_n hx hb dL_law_762 rfl (lv_at hl 3 rfl) ?_
      refine lv_iconst (v := 3) hx hb dL_law_763 (by decide) ?_
      refine lv_iadd hx hb dL_law_764 ?_
      refine va_sld hx hb hX hbl hbA hS hi3 dL_law_765 ?_
      refine cV_roi (As := [.int (xs (x3 + 1).toNatClampNeg), .int (xs (x3 + 2).toNatClampNeg), .int (xs (x3 + 3).toNatClampNeg)]) (rest := [.int r]) hC (m_X7_pair l g b sm (xs (x3 + 1).toNatClampNeg) (xs (x3 + 2).toNatClampNeg) (xs (x3 + 3).toNatClampNeg) r e2) (kv_of hB bw_30_19 bw_30_17 bw_30_18 bw_1_5 kd_X7_pair bw_30_16 rfl rfl ⟨Nat.le_of_ble_eq_true rfl, Nat.le_of_ble_eq_true rfl⟩) hK (va_P_r hP) hP hS (mW_0 g b sm) rfl rfl hl.1 rfl (Nat.le_of_ble_eq_true rfl) dL_law_766 ⟨Nat.le_refl _, Nat.le_refl _⟩ (fun H locs hP hS => ?_)
      refine lv_icmp_eq (tgt := 834) hx hb dL_law_769 (by decide) (fun _ => ?_) (fun h => absurd rfl h)
      exact next _ _ hI2 H locs hP hS
    · refine lv_tableIn (tgt := 774) (off := 742) hx hb dL_law_32 (by rw [h]; decide) (by rw [h]; decide) (by rw [h]; rfl) (by decide) ?_
      obtain ⟨r, e1, e2, hI2⟩ := S22 sx sm (xs (x3 + 1).toNatClampNeg) hI
      refine lv_aload_n hx hb dL_law_774 rfl (lv_at hl 1 rfl) ?_
      refine lv_aload_n hx hb dL_law_775 rfl (lv_at hl 0 rfl) ?_
      refine lv_iload_n hx hb dL_law_776 rfl (lv_at hl 3 rfl) ?_
      refine lv_iconst (v := 1) hx hb dL_law_777 (by decide) ?_
      refine lv_iadd hx hb dL_law_778 ?_
      refine va_sld hx hb hX hbl hbA hS hi1 dL_law_779 ?_
      refine cV_roi (As := [.int (xs (x3 + 1).toNatClampNeg)]) (rest := []) hC (m_X6_holds l g a sx (xs (x3 + 1).toNatClampNeg) r e1) (kv_of hB bw_30_23 bw_30_21 bw_30_22 bw_1_2 kd_X6_holds bw_30_20 rfl rfl ⟨Nat.le_of_ble_eq_true rfl, Nat.le_of_ble_eq_true rfl⟩) hK (va_P_l hP) hP hS (xW_0 g a sx) rfl rfl hl.1 rfl (Nat.le_of_ble_eq_true rfl) dL_law_780 ⟨Nat.le_refl _, Nat.le_refl _⟩ (fun H locs hP hS => ?_)
      refine lv_aload_n hx hb dL_law_783 rfl (lv_at hl 2 rfl) ?_
      refine lv_aload_n hx hb dL_law_784 rfl (lv_at hl 0 rfl) ?_
      refine lv_iload_n hx hb dL_law_785 rfl (lv_at hl 3 rfl) ?_
      refine lv_iconst (v := 1) hx hb dL_law_786 (by decide) ?_
      refine lv_iadd hx hb dL_law_787 ?_
      refine va_sld hx hb hX hbl hbA hS hi1 dL_law_788 ?_
      refine cV_roi (As := [.int (xs (x3 + 1).toNatClampNeg)]) (rest := [.int r]) hC (m_X7_holds l g b sm (xs (x3 + 1).toNatClampNeg) r e2) (kv_of hB bw_31_15 bw_31_13 bw_31_14 bw_1_5 kd_X7_holds bw_31_12 rfl rfl ⟨Nat.le_of_ble_eq_true rfl, Nat.le_of_ble_eq_true rfl⟩) hK (va_P_r hP) hP hS (mW_0 g b sm) rfl rfl hl.1 rfl (Nat.le_of_ble_eq_true rfl) dL_law_789 ⟨Nat.le_refl _, Nat.le_refl _⟩ (fun H locs hP hS => ?_)
      refine lv_icmp_eq (tgt := 834) hx hb dL_law_792 (by decide) (fun _ => ?_) (fun h => absurd rfl h)
      exact next _ _ hI2 H locs hP hS
    · refine lv_tableIn (tgt := 797) (off := 765) hx hb dL_law_32 (by rw [h]; decide) (by rw [h]; decide) (by rw [h]; rfl) (by decide) ?_
      obtain ⟨r, e1, e2, hI2⟩ := S23 sx sm (xs (x3 + 1).toNatClampNeg) hI
      refine lv_aload_n hx hb dL_law_797 rfl (lv_at hl 1 rfl) ?_
      refine lv_aload_n hx hb dL_law_798 rfl (lv_at hl 0 rfl) ?_
      refine lv_iload_n hx hb dL_law_799 rfl (lv_at hl 3 rfl) ?_
      refine lv_iconst (v := 1) hx hb dL_law_800 (by decide) ?_
      refine lv_iadd hx hb dL_law_801 ?_
      refine va_sld hx hb hX hbl hbA hS hi1 dL_law_802 ?_
      refine cV_roi (As := [.int (xs (x3 + 1).toNatClampNeg)]) (rest := []) hC (m_X6_count l g a sx (xs (x3 + 1).toNatClampNeg) r e1) (kv_of hB bw_31_23 bw_31_21 bw_31_22 bw_1_2 kd_X6_count bw_31_20 rfl rfl ⟨Nat.le_of_ble_eq_true rfl, Nat.le_of_ble_eq_true rfl⟩) hK (va_P_l hP) hP hS (xW_0 g a sx) rfl rfl hl.1 rfl (Nat.le_of_ble_eq_true rfl) dL_law_803 ⟨Nat.le_refl _, Nat.le_refl _⟩ (fun H locs hP hS => ?_)
      refine lv_aload_n hx hb dL_law_806 rfl (lv_at hl 2 rfl) ?_
      refine lv_aload_n hx hb dL_law_807 rfl (lv_at hl 0 rfl) ?_
      refine lv_iload_n hx hb dL_law_808 rfl (lv_at hl 3 rfl) ?_
      refine lv_iconst (v := 1) hx hb dL_law_809 (by decide) ?_
      refine lv_iadd hx hb dL_law_810 ?_
      refine va_sld hx hb hX hbl hbA hS hi1 dL_law_811 ?_
      refine cV_roi (As := [.int (xs (x3 + 1).toNatClampNeg)]) (rest := [.int r]) hC (m_X7_count l g b sm (xs (x3 + 1).toNatClampNeg) r e2) (kv_of hB bw_32_8 bw_32_6 bw_32_7 bw_1_5 kd_X7_count bw_32_5 rfl rfl ⟨Nat.le_of_ble_eq_true rfl, Nat.le_of_ble_eq_true rfl⟩) hK (va_P_r hP) hP hS (mW_0 g b sm) rfl rfl hl.1 rfl (Nat.le_of_ble_eq_true rfl) dL_law_812 ⟨Nat.le_refl _, Nat.le_refl _⟩ (fun H locs hP hS => ?_)
      refine lv_icmp_eq (tgt := 834) hx hb dL_law_815 (by decide) (fun _ => ?_) (fun h => absurd rfl h)
      exact next _ _ hI2 H locs hP hS
    · refine lv_tableIn (tgt := 820) (off := 788) hx hb dL_law_32 (by rw [h]; decide) (by rw [h]; decide) (by rw [h]; rfl) (by decide) ?_
      obtain ⟨r, e1, e2, hI2⟩ := S24 sx sm hI
      refine lv_aload_n hx hb dL_law_820 rfl (lv_at hl 1 rfl) ?_
      refine cV_rol (As := []) (rest := []) hC (m_X6_digest l g a sx r e1) (kv_of hB bw_32_12 bw_32_10 bw_32_11 bw_1_2 kd_X6_digest bw_32_9 rfl rfl ⟨Nat.le_of_ble_eq_true rfl, Nat.le_of_ble_eq_true rfl⟩) hK (va_P_l hP) hP hS (xW_0 g a sx) rfl rfl hl.1 rfl (Nat.le_of_ble_eq_true rfl) dL_law_821 ⟨Nat.le_refl _, Nat.le_refl _⟩ (fun H locs hP hS => ?_)
      refine lv_aload_n hx hb dL_law_824 rfl (lv_at hl 2 rfl) ?_
      refine cV_rol (As := []) (rest := [.long r]) hC (m_X7_digest l g b sm r e2) (kv_of hB bw_32_18 bw_32_16 bw_32_17 bw_1_5 kd_X7_digest bw_32_15 rfl rfl ⟨Nat.le_of_ble_eq_true rfl, Nat.le_of_ble_eq_true rfl⟩) hK (va_P_r hP) hP hS (mW_0 g b sm) rfl rfl hl.1 rfl (Nat.le_of_ble_eq_true rfl) dL_law_825 ⟨Nat.le_refl _, Nat.le_refl _⟩ (fun H locs hP hS => ?_)
      refine W.lcmp hx hb dL_law_828 ?_
      refine lv_if_eq (tgt := 834) hx hb dL_law_829 (by decide) (fun _ => ?_) (fun h => absurd (by simp [lg_cmp]) h)
      exact next _ _ hI2 H locs hP hS
