/-! The common context of every walk: the classes, the arrays' classes, the links between nest mates. -/
abbrev GG : Type := va_G × (ClassId × (ClassId × ClassId))
def tysOf (g : GG) : List (ClassId × FieldType) := [(g.2.1, .int), (g.2.2.1, .long), (g.2.2.2, .boolean)]
def nestL : List Cond := [.methodLinkNest RX3 23 yX6_put "NotionRounds", .fieldLinkNest RX2 18 "NotionRounds$Notions" "size" "I" "NotionRounds", .fieldLinkNest RX5 77 "NotionRounds$Notions" "size" "I" "NotionRounds", .fieldLinkNest RX6 145 "NotionRounds$Notions" "size" "I" "NotionRounds", .fieldLinkNest RX6 61 "NotionRounds$Notions" "classes" "I" "NotionRounds", .methodLinkNest RX6 18 yX0_init "NotionRounds", .fieldLinkNest RX4 26 "NotionRounds$Axioms" "size" "I" "NotionRounds", .fieldLinkNest RX5 149 "NotionRounds$Axioms" "size" "I" "NotionRounds", .fieldLinkNest RX6 169 "NotionRounds$Axioms" "size" "I" "NotionRounds", .methodLinkNest RX6 25 yX4_init "NotionRounds", .methodLinkNest RX6 32 yX1_init "NotionRounds", .fieldLinkNest RX5 48 "NotionRounds$Conclusions" "size" "I" "NotionRounds", .fieldLinkNest RX6 114 "NotionRounds$Conclusions" "size" "I" "NotionRounds", .fieldLinkNest RX6 117 "NotionRounds$Conclusions" "lastRound" "I" "NotionRounds", .methodLinkNest RX6 48 yX2_init "NotionRounds", .methodLinkNest RX3 30 yX6_within "NotionRounds", .methodLinkNest RX3 42 yX6_at "NotionRounds", .methodLinkNest RX0 19 yX6_put "NotionRounds", .methodLinkNest RX0 23 yX6_within "NotionRounds", .methodLinkNest RX0 27 yX6_at "NotionRounds", .methodLinkNest RX1 28 yX6_fill "NotionRounds", .methodLinkNest RX4 18 yX6_fill "NotionRounds", .methodLinkNest RX4 22 yX6_put "NotionRounds", .methodLinkNest RX4 48 yX6_at "NotionRounds", .methodLinkNest RX5 117 yX6_placeOfIs "NotionRounds", .methodLinkNest RX5 121 yX6_whyOf "NotionRounds", .methodLinkNest RX5 66 yX6_longAt "NotionRounds", .methodLinkNest RX1 51 yX6_at "NotionRounds", .methodLinkNest RX5 73 yX6_putLong "NotionRounds", .methodLinkNest RX5 91 yX6_subjectAt "NotionRounds", .methodLinkNest RX5 94 yX6_roleAt "NotionRounds", .methodLinkNest RX5 97 yX6_objectAt "NotionRounds", .methodLinkNest RX5 138 yX6_placeOfTo "NotionRounds", .methodLinkNest RX1 55 yX6_placeOfIs "NotionRounds", .methodLinkNest RX5 145 yX6_whyOfTwo "NotionRounds", .methodLinkNest RX1 59 yX6_placeOfTo "NotionRounds", .methodLinkNest RX1 39 yX6_put "NotionRounds", .methodLinkNest RX1 43 yX6_putLong "NotionRounds", .methodLinkNest RX2 30 yX6_bit "NotionRounds", .methodLinkNest RX2 34 yX6_fill "NotionRounds", .methodLinkNest RX2 38 yX6_hasBit "NotionRounds", .methodLinkNest RX2 60 yX6_isRole "NotionRounds", .methodLinkNest RX2 53 yX6_within "NotionRounds", .methodLinkNest RX2 56 yX6_at "NotionRounds", .methodLinkNest RX2 49 yX6_put "NotionRounds", .methodLinkNest RX1 47 yX6_within "NotionRounds", .methodLinkNest RX1 75 yX6_roleAt "NotionRounds", .methodLinkNest RX1 78 yX6_oneIf "NotionRounds", .methodLinkNest RX1 82 yX6_subjectAt "NotionRounds", .methodLinkNest RX1 85 yX6_objectAt "NotionRounds", .methodLinkNest RX1 63 yX6_longAt "NotionRounds", .methodLinkNest RX1 67 yX6_partOfWhy "NotionRounds", .methodLinkNest RX0 42 yX6_oneIf "NotionRounds"]
def isNest (w : Cond) : Bool := match w with
  | .fieldLinkNest _ _ _ _ _ _ => true
  | .methodLinkNest _ _ _ _ => true
  | _ => false
theorem nestL_ok : ∀ w ∈ nestL, isNest w = true := by
  have h : nestL.all isNest = true := by decide +kernel
  exact List.all_eq_true.mp h
theorem isNest_cases {w : Cond} (h : isNest w = true) : (∃ a i b n d e, w = .fieldLinkNest a i b n d e) ∨ ∃ a i x e, w = .methodLinkNest a i x e := by
  cases w <;> first | exact Or.inl ⟨_, _, _, _, _, _, rfl⟩ | exact Or.inr ⟨_, _, _, _, rfl⟩ | exact absurd h (by intro q; cases q)
def NestK (U : State) : Prop := ∀ w ∈ nestL, va_Nw w U
theorem NestK.warm {s U : State} (hW : s.WarmedH U.vm) (h : NestK s) : NestK U := fun w hw => by
  rcases isNest_cases (nestL_ok w hw) with ⟨a, i, b, n, d, e, rfl⟩ | ⟨a, i, x, e, rfl⟩
  · exact va_Nw.warmF hW (h _ hw)
  · exact va_Nw.warmM hW (h _ hw)
theorem NestK.same {u U : State} (hv : u.vm = U.vm) (h : NestK u) : NestK U := fun w hw => by
  rcases isNest_cases (nestL_ok w hw) with ⟨a, i, b, n, d, e, rfl⟩ | ⟨a, i, x, e, rfl⟩
  · exact va_Nw.same rfl hv (h _ hw)
  · exact va_Nw.same rfl hv (h _ hw)
def KK (g : GG) (U : State) : Prop := va_K g.1 vwCl (tysOf g) U ∧ NestK U
theorem KK.warm {g : GG} {s U : State} (hW : s.WarmedH U.vm) (h : KK g s) : KK g U := ⟨va_K.moved hW.alike h.1, h.2.warm hW⟩
theorem KK.same {g : GG} {u U : State} (hv : u.vm = U.vm) (h : KK g u) : KK g U := ⟨va_K.moved (by rw [hv]; exact Vm.Alike.refl U.vm) h.1, h.2.same hv⟩
/-- a contract's start, where the heap stays (ROp) or the world changes (RWp); its end -/
def ROp (g : GG) (w : va_W) : State → Prop := fun U => va_P g.1 vwCl w U.heap ∧ KK g U
def RWp (g : GG) (w : va_W) (sz : Nat) : State → Prop := fun U => U.heap.size = sz ∧ va_P g.1 vwCl w U.heap ∧ KK g U ∧ va_D (fun _ => True) w
def ROi (r : Int32) : Array Value → State → Outcome → State → Prop := va_Qi (fun r' (_ : Unit) => r' = r) (fun _ _ => True) (fun _ => False)
def ROl (r : Int64) : Array Value → State → Outcome → State → Prop := va_Ql (fun r' (_ : Unit) => r' = r) (fun _ _ => True) (fun _ => False)
def RWi (r : Int32) (g : GG) (w' : va_W) (A : Nat → Prop) : Array Value → State → Outcome → State → Prop := va_Qi (fun r' (_ : Unit) => r' = r) (fun _ t => va_P g.1 vwCl w' t.heap) A
def RWv (g : GG) (w' : va_W) (A : Nat → Prop) : Array Value → State → Outcome → State → Prop := va_Qv (fun (_ : Unit) => True) (fun _ t => va_P g.1 vwCl w' t.heap) A
theorem wd_congr {A : Nat → Prop} {w w' : va_W} (h : w.map Prod.fst = w'.map Prod.fst) (hD : va_D A w) : va_D A w' := by
  have key : ∀ (k : Nat) (q : Nat × va_E), w'[k]? = some q → ∃ q0, w[k]? = some q0 ∧ q0.1 = q.1 := by
    intro k q hq
    have h1 : (w'.map Prod.fst)[k]? = some q.1 := by rw [List.getElem?_map, hq]; rfl
    rw [← h, List.getElem?_map] at h1
    obtain ⟨q0, h2, h3⟩ := Option.map_eq_some_iff.mp h1
    exact ⟨q0, h2, h3⟩
  refine ⟨fun i j x y hi hj hxy => ?_, fun k q hk => ?_⟩
  · obtain ⟨x0, h1, e1⟩ := key i x hi
    obtain ⟨y0, h2, e2⟩ := key j y hj
    exact hD.1 i j x0 y0 h1 h2 (by rw [e1, e2, hxy])
  · obtain ⟨q0, h1, e1⟩ := key k q hk
    rw [← e1]
    exact hD.2 k q0 h1
theorem va_AD {A0 : Nat → Prop} {w : va_W} {H0 H : Heap} {locs : List Loc} (hD : va_D A0 w) (hA : ∀ q, H0.size ≤ q → A0 q) (hS : va_S A0 H0 H locs) : ∀ q, va_A w H.size q → A0 q := by
  intro q h
  rcases h with ⟨k, e, hk⟩ | h
  · exact hD.2 k (q, e) hk
  · exact hA q (Nat.le_trans hS.1 h)
/-! loops as functions: a step goes on with a new state (inl) or ends with an answer (inr) -/
def iterO {S R : Type} (f : S → Option (S ⊕ R)) : Nat → S → Option R
  | 0, _ => none
  | n + 1, s => (f s).bind (Sum.elim (iterO f n) some)
theorem iterO_zero {S R : Type} {f : S → Option (S ⊕ R)} {s : S} {r : R} (h : iterO f 0 s = some r) : False := by cases h
theorem iterO_succ {S R : Type} {f : S → Option (S ⊕ R)} {n : Nat} {s : S} {r : R} (h : iterO f (n + 1) s = some r) : ∃ x, f s = some x ∧ Sum.elim (iterO f n) some x = some r := Option.bind_eq_some_iff.mp h
theorem elim_inr {S R : Type} {k : S → Option R} {x r : R} (h : Sum.elim k some (Sum.inr x) = some r) : x = r := Option.some.inj h
noncomputable def loopC {S R : Type} (f : S → Option (S ⊕ R)) (s : S) : Option R := by
  classical
  exact if h : ∃ (r : R) (n : Nat), iterO f n s = some r then some (Classical.choose h) else none
theorem loopC_iter {S R : Type} {f : S → Option (S ⊕ R)} {s : S} {r : R} (h : loopC f s = some r) : ∃ n, iterO f n s = some r := by
  unfold loopC at h
  split at h
  · rename_i hx
    have := Classical.choose_spec hx
    cases h
    exact this
  · cases h
theorem iterO_up {S R : Type} {f : S → Option (S ⊕ R)} : ∀ (n k : Nat) {s : S} {r : R}, iterO f n s = some r → iterO f (n + k) s = some r := by
  intro n
  induction n with
  | zero => intro k s r h; exact (iterO_zero h).elim
  | succ n ih =>
    intro k s r h
    obtain ⟨x, h1, h2⟩ := iterO_succ h
    have e : n + 1 + k = (n + k) + 1 := by omega
    rw [e]
    show (f s).bind _ = some r
    rw [h1]
    cases x with
    | inl s' => exact ih k h2
    | inr r' => exact h2
theorem loopC_of {S R : Type} {f : S → Option (S ⊕ R)} {n : Nat} {s : S} {r : R} (h : iterO f n s = some r) : loopC f s = some r := by
  have hx : ∃ (r : R) (n : Nat), iterO f n s = some r := ⟨r, n, h⟩
  unfold loopC
  rw [dif_pos hx]
  obtain ⟨n2, h2⟩ := Classical.choose_spec hx
  have a := iterO_up n n2 h
  have b := iterO_up n2 n h2
  rw [Nat.add_comm] at b
  rw [a] at b
  exact b.symm
theorem loopC_next {S R : Type} {f : S → Option (S ⊕ R)} {s s' : S} (h : f s = some (.inl s')) : loopC f s = loopC f s' := by
  cases hr : loopC f s' with
  | some r =>
    obtain ⟨n, hn⟩ := loopC_iter hr
    exact loopC_of (n := n + 1) (by show (f s).bind _ = _; rw [h]; exact hn)
  | none =>
    cases hr2 : loopC f s with
    | none => rfl
    | some r =>
      obtain ⟨n, hn⟩ := loopC_iter hr2
      cases n with
      | zero => exact (iterO_zero hn).elim
      | succ n =>
        obtain ⟨x, h1, h2⟩ := iterO_succ hn
        rw [h] at h1
        cases h1
        rw [loopC_of (n := n) (s := s') h2] at hr
        cases hr
theorem loopC_end {S R : Type} {f : S → Option (S ⊕ R)} {s : S} {r : R} (h : f s = some (.inr r)) : loopC f s = some r :=
  loopC_of (n := 1) (by show (f s).bind _ = _; rw [h]; rfl)
theorem ifp {P : Prop} [Decidable P] {T : Type} {a b r : T} (c : P) (h : (if P then a else b) = r) : a = r := by rw [if_pos c] at h; exact h
theorem ifn {P : Prop} [Decidable P] {T : Type} {a b r : T} (c : ¬ P) (h : (if P then a else b) = r) : b = r := by rw [if_neg c] at h; exact h
/-- reading a row of n cells -/
noncomputable def rd {T : Type} (n : Nat) (f : Nat → T) (i : Int32) : Option T := by
  classical
  exact if vp_in i n then some (f i.toNatClampNeg) else none
theorem rd_some {T : Type} {n : Nat} {f : Nat → T} {i : Int32} {r : T} (h : rd n f i = some r) : vp_in i n ∧ f i.toNatClampNeg = r := by
  unfold rd at h
  split at h
  · exact ⟨by assumption, Option.some.inj h⟩
  · cases h
theorem rd_of {T : Type} {n : Nat} {f : Nat → T} {i : Int32} (h : vp_in i n) : rd n f i = some (f i.toNatClampNeg) := by
  unfold rd
  rw [if_pos h]
/-- writing a row of n cells -/
noncomputable def wr (n : Nat) (f : Nat → Int32) (i : Int32) (x : Int32) : Option (Nat → Int32) := by
  classical
  exact if vp_in i n then some (upd f i.toNatClampNeg x) else none
theorem wr_some {n : Nat} {f r : Nat → Int32} {i x : Int32} (h : wr n f i x = some r) : vp_in i n ∧ upd f i.toNatClampNeg x = r := by
  unfold wr at h
  split at h
  · exact ⟨by assumption, Option.some.inj h⟩
  · cases h
theorem wr_of {n : Nat} {f : Nat → Int32} {i x : Int32} (h : vp_in i n) : wr n f i x = some (upd f i.toNatClampNeg x) := by
  unfold wr
  rw [if_pos h]
noncomputable def wrL (n : Nat) (f : Nat → Int64) (i : Int32) (x : Int64) : Option (Nat → Int64) := by
  classical
  exact if vp_in i n then some (vp_updL f i.toNatClampNeg x) else none
theorem wrL_some {n : Nat} {f r : Nat → Int64} {i : Int32} {x : Int64} (h : wrL n f i x = some r) : vp_in i n ∧ vp_updL f i.toNatClampNeg x = r := by
  unfold wrL at h
  split at h
  · exact ⟨by assumption, Option.some.inj h⟩
  · cases h
theorem wrL_of {n : Nat} {f : Nat → Int64} {i : Int32} {x : Int64} (h : vp_in i n) : wrL n f i x = some (vp_updL f i.toNatClampNeg x) := by
  unfold wrL
  rw [if_pos h]
/-- an answer that must be a truth value -/
def zg (v : Int32) : Option Int32 := if v = 0 ∨ v = 1 then some v else none
theorem zg_some {v r : Int32} (h : zg v = some r) : narrow .boolean (.int v) = .int v ∧ v = r := by
  unfold zg at h
  split at h
  · rename_i q
    refine ⟨?_, Option.some.inj h⟩
    rcases q with rfl | rfl <;> rfl
  · cases h
theorem sw_in {x k : Int32} {a : Int} (h : x = k) (hk : k.toInt = a) : x.toInt = a := by rw [h, hk]
theorem set_same {T : Type} {w : List T} {q0 : Nat} {x : T} (h : w[q0]? = some x) : w.set q0 x = w := by
  apply List.ext_getElem?
  intro k
  rw [List.getElem?_set]
  by_cases e : q0 = k
  · subst e
    obtain ⟨h1, -⟩ := List.getElem?_eq_some_iff.mp h
    rw [if_pos rfl, if_pos h1, h]
  · simp [e]
theorem in_of {i : Int32} {n : Nat} (hn : n < 2 ^ 31) (h0 : ¬ i < 0) (h1 : ¬ Int32.ofNat n ≤ i) : vp_in i n := by
  intro q
  rcases q with q | q
  · exact h0 q
  · apply h1
    rw [Int32.le_iff_toInt_le]
    have e := nI_toInt hn
    show (nI n).toInt ≤ i.toInt
    rw [e]
    have e2 : i.toNatClampNeg = i.toInt.toNat := rfl
    rw [Int32.lt_iff_toInt_lt] at h0
    rw [e2] at q
    have e3 : (0 : Int32).toInt = 0 := rfl
    rw [e3] at h0
    omega
theorem zn_of {v : Int32} (h : v = 0 ∨ v = 1) : narrow .boolean (.int v) = .int v := by rcases h with rfl | rfl <;> rfl

section BASE
variable {p : Program} {l : Launch} {e : Env} {R : Room} {s : State} {m : MethodId} {args : Array Value} {below : List Frame} {meth : Method} {c : Code} {H H0 : Heap} {locs : List Loc} {cells slots : Nat} {Q : State → Prop}
variable {cc : ByteArray} {pc index n nL : Nat} {ls : Array Slot} {rest st0 As : List Value} {g : GG} {w wc : va_W} {A0 : Nat → Prop} {own C : String} {b : Addr} {y : MethodName} {bytes : ByteArray} {maxL : Nat} {ret : Option FieldType} {ws Ts : List Cond} {rm : Room} {a : Array Value}
theorem rop_blind {av : List Value} : FrameBlind (va_Pc av (ROp g w)) := fun a U gg mk q => ⟨q.1, q.2.1, KK.same (u := U) (U := U.calling gg mk a) rfl q.2.2⟩
theorem rwp_blind {av : List Value} {sz : Nat} : FrameBlind (va_Pc av (RWp g w sz)) := fun a U gg mk q => ⟨q.1, q.2.1, q.2.2.1, KK.same (u := U) (U := U.calling gg mk a) rfl q.2.2.2.1, q.2.2.2.2⟩
theorem pre_ro {av : List Value} (hK : KK g s) (hP : va_P g.1 vwCl w H) : PreS s H (va_Pc av (ROp g w)) av := ⟨rop_blind, fun U hU hW => ⟨rfl, by rw [hU]; exact hP, hK.warm hW⟩⟩
theorem pre_rw {av : List Value} (hK : KK g s) (hP : va_P g.1 vwCl w H) (hD : va_D A0 w) : PreS s H (va_Pc av (RWp g w H.size)) av := ⟨rwp_blind, fun U hU hW => ⟨rfl, by rw [hU], by rw [hU]; exact hP, hK.warm hW, hD.weaken (fun _ _ _ _ => trivial)⟩⟩
theorem prev_ro {av : List Value} (hK : KK g s) (hP : va_P g.1 vwCl w H) {q0 ci : Nat} {q : vw_C} {fs : List Value} (hq : w[q0]? = some (b, .inr (ci, fs))) (hc : vwCl[ci]? = some q) : PreV s H q.1 b (va_Pc (.ref b :: av) (ROp g w)) av :=
  ⟨rop_blind, va_recv hK.1 hP hc hq, fun U hU hW => ⟨rfl, by rw [hU]; exact hP, hK.warm hW⟩⟩
theorem prev_rw {av : List Value} (hK : KK g s) (hP : va_P g.1 vwCl w H) (hD : va_D A0 w) {q0 ci : Nat} {q : vw_C} {fs : List Value} (hq : w[q0]? = some (b, .inr (ci, fs))) (hc : vwCl[ci]? = some q) : PreV s H q.1 b (va_Pc (.ref b :: av) (RWp g w H.size)) av :=
  ⟨rwp_blind, va_recv hK.1 hP hc hq, fun U hU hW => ⟨rfl, by rw [hU], by rw [hU]; exact hP, hK.warm hW, hD.weaken (fun _ _ _ _ => trivial)⟩⟩
/-- goes on behind a call: the heap's old cells stay (ro), or the world is the new one (rw) -/
theorem go_roi {r : Int32} (hr : va_Run p l e R s m args below meth c H locs cells slots 0 0 (F0 m pc ls st0) rest (ROi r a) (fun _ => False)) (hP : va_P g.1 vwCl w H) (hS : va_S A0 H0 H locs)
    (kk : ∀ (H1 : Heap) (locs1 : List Loc), va_P g.1 vwCl w H1 → va_S A0 H0 H1 locs1 → W p l e R s m args below meth c H1 locs1 cells slots Q (F0 m (pc + 3) ls (.int r :: rest))) : W p l e R s m args below meth c H locs cells slots Q (F0 m pc ls st0) := by
  refine va_calli hr hS (fun _ _ h => h.elim) (fun _ h => h.elim) (fun r' u t H1 locs1 ht hvm hp hB hz hk hS1 => ?_)
  cases hp
  exact kk H1 locs1 (hP.kept (fun k q hq => hk q.1 (hP k q hq).lt (fun h => h))) hS1
theorem go_rol {r : Int64} (hr : va_Run p l e R s m args below meth c H locs cells slots 0 0 (F0 m pc ls st0) rest (ROl r a) (fun _ => False)) (hP : va_P g.1 vwCl w H) (hS : va_S A0 H0 H locs)
    (kk : ∀ (H1 : Heap) (locs1 : List Loc), va_P g.1 vwCl w H1 → va_S A0 H0 H1 locs1 → W p l e R s m args below meth c H1 locs1 cells slots Q (F0 m (pc + 3) ls (.long r :: rest))) : W p l e R s m args below meth c H locs cells slots Q (F0 m pc ls st0) := by
  refine va_calll hr hS (fun _ _ h => h.elim) (fun _ h => h.elim) (fun r' u t H1 locs1 ht hvm hp hB hz hk hS1 => ?_)
  cases hp
  exact kk H1 locs1 (hP.kept (fun k q hq => hk q.1 (hP k q hq).lt (fun h => h))) hS1
theorem go_rwi {r : Int32} {w' : va_W} (hr : va_Run p l e R s m args below meth c H locs cells slots 0 0 (F0 m pc ls st0) rest (RWi r g w' (va_A w H.size) a) (va_A w H.size)) (hD : va_D A0 w) (hA : ∀ q, H0.size ≤ q → A0 q) (hS : va_S A0 H0 H locs)
    (kk : ∀ (H1 : Heap) (locs1 : List Loc), va_P g.1 vwCl w' H1 → va_S A0 H0 H1 locs1 → W p l e R s m args below meth c H1 locs1 cells slots Q (F0 m (pc + 3) ls (.int r :: rest))) : W p l e R s m args below meth c H locs cells slots Q (F0 m pc ls st0) := by
  refine va_calli hr hS (fun q _ h => va_AD hD hA hS q h) (fun q h => va_AD hD hA hS q h) (fun r' u t H1 locs1 ht hvm hp hB hz hk hS1 => ?_)
  cases hp
  rw [ht] at hB
  exact kk H1 locs1 hB hS1
theorem go_rwv {w' : va_W} (hr : va_Run p l e R s m args below meth c H locs cells slots 0 0 (F0 m pc ls st0) rest (RWv g w' (va_A w H.size) a) (va_A w H.size)) (hD : va_D A0 w) (hA : ∀ q, H0.size ≤ q → A0 q) (hS : va_S A0 H0 H locs)
    (kk : ∀ (H1 : Heap) (locs1 : List Loc), va_P g.1 vwCl w' H1 → va_S A0 H0 H1 locs1 → W p l e R s m args below meth c H1 locs1 cells slots Q (F0 m (pc + 3) ls rest)) : W p l e R s m args below meth c H locs cells slots Q (F0 m pc ls st0) := by
  refine va_callv hr hS (fun q _ h => va_AD hD hA hS q h) (fun q h => va_AD hD hA hS q h) (fun u t H1 locs1 ht hvm hp hB hz hk hS1 => ?_)
  rw [ht] at hB
  exact kk H1 locs1 hB hS1

theorem cV_roi {r : Int32} {q0 ci : Nat} {q : vw_C} {fs : List Value} (S : CallFix p m c cc nL s args Ts own) (hM : Met l y ws rm (va_Pc (.ref b :: As) (ROp g wc)) (ROi r) 0 0 (fun _ => False)) (cw : CallW R s args own q.1 index y bytes maxL ret ws rm 0 0 n) (hK : KK g s) (hPc : va_P g.1 vwCl wc H) (hP : va_P g.1 vwCl w H) (hS : va_S A0 H0 H locs) (hq : wc[q0]? = some (b, .inr (ci, fs))) (hc : vwCl[ci]? = some q) (hn : As.length = n) (hsz : ls.size = nL) (hst : st0 = As.reverse ++ .ref b :: rest) (hr : (rest.map fun v => v.category).sum ≤ 8) (hdg : decode cc pc = .ok (.invokevirtual index, 3)) (hf : cells ≤ R.cells ∧ slots ≤ R.slots)
    (kk : ∀ (H1 : Heap) (locs1 : List Loc), va_P g.1 vwCl w H1 → va_S A0 H0 H1 locs1 → W p l e R s m args below meth c H1 locs1 cells slots Q (F0 m (pc + 3) ls (.int r :: rest))) : W p l e R s m args below meth c H locs cells slots Q (F0 m pc ls st0) :=
  go_roi (va_runV (As := As) (rest := rest) S hM cw (prev_ro hK hPc hq hc) rfl hn hsz hst (lv_room hr) hdg hf) hP hS kk
theorem cV_rol {r : Int64} {q0 ci : Nat} {q : vw_C} {fs : List Value} (S : CallFix p m c cc nL s args Ts own) (hM : Met l y ws rm (va_Pc (.ref b :: As) (ROp g wc)) (ROl r) 0 0 (fun _ => False)) (cw : CallW R s args own q.1 index y bytes maxL ret ws rm 0 0 n) (hK : KK g s) (hPc : va_P g.1 vwCl wc H) (hP : va_P g.1 vwCl w H) (hS : va_S A0 H0 H locs) (hq : wc[q0]? = some (b, .inr (ci, fs))) (hc : vwCl[ci]? = some q) (hn : As.length = n) (hsz : ls.size = nL) (hst : st0 = As.reverse ++ .ref b :: rest) (hr : (rest.map fun v => v.category).sum ≤ 8) (hdg : decode cc pc = .ok (.invokevirtual index, 3)) (hf : cells ≤ R.cells ∧ slots ≤ R.slots)
    (kk : ∀ (H1 : Heap) (locs1 : List Loc), va_P g.1 vwCl w H1 → va_S A0 H0 H1 locs1 → W p l e R s m args below meth c H1 locs1 cells slots Q (F0 m (pc + 3) ls (.long r :: rest))) : W p l e R s m args below meth c H locs cells slots Q (F0 m pc ls st0) :=
  go_rol (va_runV (As := As) (rest := rest) S hM cw (prev_ro hK hPc hq hc) rfl hn hsz hst (lv_room hr) hdg hf) hP hS kk
theorem cV_rwi {r : Int32} {w' : va_W} {q0 ci : Nat} {q : vw_C} {fs : List Value} (S : CallFix p m c cc nL s args Ts own) (hM : Met l y ws rm (va_Pc (.ref b :: As) (RWp g w H.size)) (RWi r g w' (va_A w H.size)) 0 0 (va_A w H.size)) (cw : CallW R s args own q.1 index y bytes maxL ret ws rm 0 0 n) (hK : KK g s) (hP : va_P g.1 vwCl w H) (hD : va_D A0 w) (hA : ∀ q, H0.size ≤ q → A0 q) (hS : va_S A0 H0 H locs) (hq : w[q0]? = some (b, .inr (ci, fs))) (hc : vwCl[ci]? = some q) (hn : As.length = n) (hsz : ls.size = nL) (hst : st0 = As.reverse ++ .ref b :: rest) (hr : (rest.map fun v => v.category).sum ≤ 8) (hdg : decode cc pc = .ok (.invokevirtual index, 3)) (hf : cells ≤ R.cells ∧ slots ≤ R.slots)
    (kk : ∀ (H1 : Heap) (locs1 : List Loc), va_P g.1 vwCl w' H1 → va_S A0 H0 H1 locs1 → W p l e R s m args below meth c H1 locs1 cells slots Q (F0 m (pc + 3) ls (.int r :: rest))) : W p l e R s m args below meth c H locs cells slots Q (F0 m pc ls st0) :=
  go_rwi (va_runV (As := As) (rest := rest) S hM cw (prev_rw hK hP hD hq hc) rfl hn hsz hst (lv_room hr) hdg hf) hD hA hS kk
theorem cV_rwv  {w' : va_W} {q0 ci : Nat} {q : vw_C} {fs : List Value} (S : CallFix p m c cc nL s args Ts own) (hM : Met l y ws rm (va_Pc (.ref b :: As) (RWp g w H.size)) (RWv g w' (va_A w H.size)) 0 0 (va_A w H.size)) (cw : CallW R s args own q.1 index y bytes maxL ret ws rm 0 0 n) (hK : KK g s) (hP : va_P g.1 vwCl w H) (hD : va_D A0 w) (hA : ∀ q, H0.size ≤ q → A0 q) (hS : va_S A0 H0 H locs) (hq : w[q0]? = some (b, .inr (ci, fs))) (hc : vwCl[ci]? = some q) (hn : As.length = n) (hsz : ls.size = nL) (hst : st0 = As.reverse ++ .ref b :: rest) (hr : (rest.map fun v => v.category).sum ≤ 8) (hdg : decode cc pc = .ok (.invokevirtual index, 3)) (hf : cells ≤ R.cells ∧ slots ≤ R.slots)
    (kk : ∀ (H1 : Heap) (locs1 : List Loc), va_P g.1 vwCl w' H1 → va_S A0 H0 H1 locs1 → W p l e R s m args below meth c H1 locs1 cells slots Q (F0 m (pc + 3) ls rest)) : W p l e R s m args below meth c H locs cells slots Q (F0 m pc ls st0) :=
  go_rwv (va_runV (As := As) (rest := rest) S hM cw (prev_rw hK hP hD hq hc) rfl hn hsz hst (lv_room hr) hdg hf) hD hA hS kk
theorem cS_roi {r : Int32} (S : CallFix p m c cc nL s args Ts own) (hM : Met l y ws rm (va_Pc (As) (ROp g wc)) (ROi r) 0 0 (fun _ => False)) (cw : CallB R s args own index y bytes maxL ret ws rm 0 0 n ∧ (Cond.static y).before args s = true) (hK : KK g s) (hPc : va_P g.1 vwCl wc H) (hP : va_P g.1 vwCl w H) (hS : va_S A0 H0 H locs) (hn : As.length = n) (hsz : ls.size = nL) (hst : st0 = As.reverse ++ rest) (hr : (rest.map fun v => v.category).sum ≤ 8) (hdg : decode cc pc = .ok (.invokestatic index, 3)) (hf : cells ≤ R.cells ∧ slots ≤ R.slots)
    (kk : ∀ (H1 : Heap) (locs1 : List Loc), va_P g.1 vwCl w H1 → va_S A0 H0 H1 locs1 → W p l e R s m args below meth c H1 locs1 cells slots Q (F0 m (pc + 3) ls (.int r :: rest))) : W p l e R s m args below meth c H locs cells slots Q (F0 m pc ls st0) :=
  go_roi (va_runS (As := As) (rest := rest) S hM cw (pre_ro hK hPc) rfl hn hsz hst (lv_room hr) hdg hf) hP hS kk
theorem cS_rol {r : Int64} (S : CallFix p m c cc nL s args Ts own) (hM : Met l y ws rm (va_Pc (As) (ROp g wc)) (ROl r) 0 0 (fun _ => False)) (cw : CallB R s args own index y bytes maxL ret ws rm 0 0 n ∧ (Cond.static y).before args s = true) (hK : KK g s) (hPc : va_P g.1 vwCl wc H) (hP : va_P g.1 vwCl w H) (hS : va_S A0 H0 H locs) (hn : As.length = n) (hsz : ls.size = nL) (hst : st0 = As.reverse ++ rest) (hr : (rest.map fun v => v.category).sum ≤ 8) (hdg : decode cc pc = .ok (.invokestatic index, 3)) (hf : cells ≤ R.cells ∧ slots ≤ R.slots)
    (kk : ∀ (H1 : Heap) (locs1 : List Loc), va_P g.1 vwCl w H1 → va_S A0 H0 H1 locs1 → W p l e R s m args below meth c H1 locs1 cells slots Q (F0 m (pc + 3) ls (.long r :: rest))) : W p l e R s m args below meth c H locs cells slots Q (F0 m pc ls st0) :=
  go_rol (va_runS (As := As) (rest := rest) S hM cw (pre_ro hK hPc) rfl hn hsz hst (lv_room hr) hdg hf) hP hS kk
theorem cS_rwi {r : Int32} {w' : va_W} (S : CallFix p m c cc nL s args Ts own) (hM : Met l y ws rm (va_Pc (As) (RWp g w H.size)) (RWi r g w' (va_A w H.size)) 0 0 (va_A w H.size)) (cw : CallB R s args own index y bytes maxL ret ws rm 0 0 n ∧ (Cond.static y).before args s = true) (hK : KK g s) (hP : va_P g.1 vwCl w H) (hD : va_D A0 w) (hA : ∀ q, H0.size ≤ q → A0 q) (hS : va_S A0 H0 H locs) (hn : As.length = n) (hsz : ls.size = nL) (hst : st0 = As.reverse ++ rest) (hr : (rest.map fun v => v.category).sum ≤ 8) (hdg : decode cc pc = .ok (.invokestatic index, 3)) (hf : cells ≤ R.cells ∧ slots ≤ R.slots)
    (kk : ∀ (H1 : Heap) (locs1 : List Loc), va_P g.1 vwCl w' H1 → va_S A0 H0 H1 locs1 → W p l e R s m args below meth c H1 locs1 cells slots Q (F0 m (pc + 3) ls (.int r :: rest))) : W p l e R s m args below meth c H locs cells slots Q (F0 m pc ls st0) :=
  go_rwi (va_runS (As := As) (rest := rest) S hM cw (pre_rw hK hP hD) rfl hn hsz hst (lv_room hr) hdg hf) hD hA hS kk
theorem cS_rwv  {w' : va_W} (S : CallFix p m c cc nL s args Ts own) (hM : Met l y ws rm (va_Pc (As) (RWp g w H.size)) (RWv g w' (va_A w H.size)) 0 0 (va_A w H.size)) (cw : CallB R s args own index y bytes maxL ret ws rm 0 0 n ∧ (Cond.static y).before args s = true) (hK : KK g s) (hP : va_P g.1 vwCl w H) (hD : va_D A0 w) (hA : ∀ q, H0.size ≤ q → A0 q) (hS : va_S A0 H0 H locs) (hn : As.length = n) (hsz : ls.size = nL) (hst : st0 = As.reverse ++ rest) (hr : (rest.map fun v => v.category).sum ≤ 8) (hdg : decode cc pc = .ok (.invokestatic index, 3)) (hf : cells ≤ R.cells ∧ slots ≤ R.slots)
    (kk : ∀ (H1 : Heap) (locs1 : List Loc), va_P g.1 vwCl w' H1 → va_S A0 H0 H1 locs1 → W p l e R s m args below meth c H1 locs1 cells slots Q (F0 m (pc + 3) ls rest)) : W p l e R s m args below meth c H locs cells slots Q (F0 m pc ls st0) :=
  go_rwv (va_runS (As := As) (rest := rest) S hM cw (pre_rw hK hP hD) rfl hn hsz hst (lv_room hr) hdg hf) hD hA hS kk
theorem cN_roi {r : Int32} {host : String} (S : CallFix p m c cc nL s args Ts own) (hM : Met l y ws rm (va_Pc (As) (ROp g wc)) (ROi r) 0 0 (fun _ => False)) (cw : va_CN R s args own index y host bytes maxL ret ws rm 0 0 n ∧ (Cond.static y).before args s = true ∧ True) (hK : KK g s) (hPc : va_P g.1 vwCl wc H) (hP : va_P g.1 vwCl w H) (hS : va_S A0 H0 H locs) (hn : As.length = n) (hsz : ls.size = nL) (hst : st0 = As.reverse ++ rest) (hr : (rest.map fun v => v.category).sum ≤ 8) (hdg : decode cc pc = .ok (.invokestatic index, 3)) (hf : cells ≤ R.cells ∧ slots ≤ R.slots)
    (kk : ∀ (H1 : Heap) (locs1 : List Loc), va_P g.1 vwCl w H1 → va_S A0 H0 H1 locs1 → W p l e R s m args below meth c H1 locs1 cells slots Q (F0 m (pc + 3) ls (.int r :: rest))) : W p l e R s m args below meth c H locs cells slots Q (F0 m pc ls st0) :=
  go_roi (va_runSN (As := As) (rest := rest) S hM cw (pre_ro hK hPc) rfl hn hsz hst (lv_room hr) hdg hf) hP hS kk
theorem cN_rol {r : Int64} {host : String} (S : CallFix p m c cc nL s args Ts own) (hM : Met l y ws rm (va_Pc (As) (ROp g wc)) (ROl r) 0 0 (fun _ => False)) (cw : va_CN R s args own index y host bytes maxL ret ws rm 0 0 n ∧ (Cond.static y).before args s = true ∧ True) (hK : KK g s) (hPc : va_P g.1 vwCl wc H) (hP : va_P g.1 vwCl w H) (hS : va_S A0 H0 H locs) (hn : As.length = n) (hsz : ls.size = nL) (hst : st0 = As.reverse ++ rest) (hr : (rest.map fun v => v.category).sum ≤ 8) (hdg : decode cc pc = .ok (.invokestatic index, 3)) (hf : cells ≤ R.cells ∧ slots ≤ R.slots)
    (kk : ∀ (H1 : Heap) (locs1 : List Loc), va_P g.1 vwCl w H1 → va_S A0 H0 H1 locs1 → W p l e R s m args below meth c H1 locs1 cells slots Q (F0 m (pc + 3) ls (.long r :: rest))) : W p l e R s m args below meth c H locs cells slots Q (F0 m pc ls st0) :=
  go_rol (va_runSN (As := As) (rest := rest) S hM cw (pre_ro hK hPc) rfl hn hsz hst (lv_room hr) hdg hf) hP hS kk
theorem cN_rwi {r : Int32} {w' : va_W} {host : String} (S : CallFix p m c cc nL s args Ts own) (hM : Met l y ws rm (va_Pc (As) (RWp g w H.size)) (RWi r g w' (va_A w H.size)) 0 0 (va_A w H.size)) (cw : va_CN R s args own index y host bytes maxL ret ws rm 0 0 n ∧ (Cond.static y).before args s = true ∧ True) (hK : KK g s) (hP : va_P g.1 vwCl w H) (hD : va_D A0 w) (hA : ∀ q, H0.size ≤ q → A0 q) (hS : va_S A0 H0 H locs) (hn : As.length = n) (hsz : ls.size = nL) (hst : st0 = As.reverse ++ rest) (hr : (rest.map fun v => v.category).sum ≤ 8) (hdg : decode cc pc = .ok (.invokestatic index, 3)) (hf : cells ≤ R.cells ∧ slots ≤ R.slots)
    (kk : ∀ (H1 : Heap) (locs1 : List Loc), va_P g.1 vwCl w' H1 → va_S A0 H0 H1 locs1 → W p l e R s m args below meth c H1 locs1 cells slots Q (F0 m (pc + 3) ls (.int r :: rest))) : W p l e R s m args below meth c H locs cells slots Q (F0 m pc ls st0) :=
  go_rwi (va_runSN (As := As) (rest := rest) S hM cw (pre_rw hK hP hD) rfl hn hsz hst (lv_room hr) hdg hf) hD hA hS kk
theorem cN_rwv  {w' : va_W} {host : String} (S : CallFix p m c cc nL s args Ts own) (hM : Met l y ws rm (va_Pc (As) (RWp g w H.size)) (RWv g w' (va_A w H.size)) 0 0 (va_A w H.size)) (cw : va_CN R s args own index y host bytes maxL ret ws rm 0 0 n ∧ (Cond.static y).before args s = true ∧ True) (hK : KK g s) (hP : va_P g.1 vwCl w H) (hD : va_D A0 w) (hA : ∀ q, H0.size ≤ q → A0 q) (hS : va_S A0 H0 H locs) (hn : As.length = n) (hsz : ls.size = nL) (hst : st0 = As.reverse ++ rest) (hr : (rest.map fun v => v.category).sum ≤ 8) (hdg : decode cc pc = .ok (.invokestatic index, 3)) (hf : cells ≤ R.cells ∧ slots ≤ R.slots)
    (kk : ∀ (H1 : Heap) (locs1 : List Loc), va_P g.1 vwCl w' H1 → va_S A0 H0 H1 locs1 → W p l e R s m args below meth c H1 locs1 cells slots Q (F0 m (pc + 3) ls rest)) : W p l e R s m args below meth c H locs cells slots Q (F0 m pc ls st0) :=
  go_rwv (va_runSN (As := As) (rest := rest) S hM cw (pre_rw hK hP hD) rfl hn hsz hst (lv_room hr) hdg hf) hD hA hS kk
/-- returns -/
theorem ret_roi {v : Int32} (hx : p.tables.exec = Jvm.exec) (hb : c.code = cc) (hr : meth.sig.returnType = some .int) (hlk : meth.locks = false) (hS : va_S (fun _ => False) s.heap H locs) (hdg : decode cc pc = .ok (.ireturn, 1)) : W p l e R s m args below meth c H locs cells slots (MQ below (ROi v) args s cells slots (fun _ => False)) (F0 m pc ls [.int v]) :=
  W.iret (v := v) hx hb hr (fun t ht _ => ⟨⟨v, (), rfl, rfl, trivial⟩, hS.F ht⟩) hS.2.2 hdg hlk
theorem ret_roz {v : Int32} {ty : FieldType} (hx : p.tables.exec = Jvm.exec) (hb : c.code = cc) (hr : meth.sig.returnType = some ty) (hn : narrow ty (.int v) = .int v) (hlk : meth.locks = false) (hS : va_S (fun _ => False) s.heap H locs) (hdg : decode cc pc = .ok (.ireturn, 1)) : W p l e R s m args below meth c H locs cells slots (MQ below (ROi v) args s cells slots (fun _ => False)) (F0 m pc ls [.int v]) :=
  W.zret (v := v) hx hb hr hn (fun t ht _ => ⟨⟨v, (), rfl, rfl, trivial⟩, hS.F ht⟩) hS.2.2 hdg hlk
theorem ret_rol {v : Int64} (hx : p.tables.exec = Jvm.exec) (hb : c.code = cc) (hr : meth.sig.returnType = some .long) (hlk : meth.locks = false) (hS : va_S (fun _ => False) s.heap H locs) (hdg : decode cc pc = .ok (.lreturn, 1)) : W p l e R s m args below meth c H locs cells slots (MQ below (ROl v) args s cells slots (fun _ => False)) (F0 m pc ls [.long v]) :=
  W.lret (v := v) hx hb hr (fun t ht _ => ⟨⟨v, (), rfl, rfl, trivial⟩, hS.F ht⟩) hS.2.2 hdg hlk
theorem ret_rwi {v : Int32} {A : Nat → Prop} (hx : p.tables.exec = Jvm.exec) (hb : c.code = cc) (hr : meth.sig.returnType = some .int) (hlk : meth.locks = false) (hP : va_P g.1 vwCl w H) (hS : va_S A s.heap H locs) (hdg : decode cc pc = .ok (.ireturn, 1)) : W p l e R s m args below meth c H locs cells slots (MQ below (RWi v g w A) args s cells slots A) (F0 m pc ls [.int v]) :=
  W.iret (v := v) hx hb hr (fun t ht _ => ⟨⟨v, (), rfl, rfl, by show va_P g.1 vwCl w t.heap; rw [ht]; exact hP⟩, hS.F ht⟩) hS.2.2 hdg hlk
theorem ret_rwz {v : Int32} {ty : FieldType} {A : Nat → Prop} (hx : p.tables.exec = Jvm.exec) (hb : c.code = cc) (hr : meth.sig.returnType = some ty) (hn : narrow ty (.int v) = .int v) (hlk : meth.locks = false) (hP : va_P g.1 vwCl w H) (hS : va_S A s.heap H locs) (hdg : decode cc pc = .ok (.ireturn, 1)) : W p l e R s m args below meth c H locs cells slots (MQ below (RWi v g w A) args s cells slots A) (F0 m pc ls [.int v]) :=
  W.zret (v := v) hx hb hr hn (fun t ht _ => ⟨⟨v, (), rfl, rfl, by show va_P g.1 vwCl w t.heap; rw [ht]; exact hP⟩, hS.F ht⟩) hS.2.2 hdg hlk
theorem ret_rwv {A : Nat → Prop} (hx : p.tables.exec = Jvm.exec) (hb : c.code = cc) (hr : meth.sig.returnType = none) (hlk : meth.locks = false) (hP : va_P g.1 vwCl w H) (hS : va_S A s.heap H locs) (hdg : decode cc pc = .ok (.return_, 1)) : W p l e R s m args below meth c H locs cells slots (MQ below (RWv g w A) args s cells slots A) (F0 m pc ls []) :=
  W.vret hx hb hr (fun t ht _ => ⟨⟨(), rfl, trivial, by show va_P g.1 vwCl w t.heap; rw [ht]; exact hP⟩, hS.F ht⟩) hS.2.2 hdg hlk
theorem kb_of (hB : ∀ w ∈ BIG, w.before args s = true) (hc : Cond.code y bytes maxL ret ∈ BIG) (hini : Cond.initialized y.cls ∈ BIG) (hd : y.cls ≠ "java/lang/invoke/MethodHandle" ∧ y.cls ≠ "java/lang/invoke/VarHandle" ∧ (parseMethodDescriptor y.desc).map (fun d => d.parameters.length) = some n) (hl : Cond.methodLink own index y ∈ BIG) (hrc : rm.cells = 0) (hrs : rm.slots = 0) (hR : rm.frames + 1 ≤ R.frames ∧ 8 + (maxL + 11) + rm.locals ≤ R.locals) : CallB R s args own index y bytes maxL ret (Cond.code y bytes maxL ret :: BIG) rm 0 0 n :=
  callB_of n hB (fun w hw => by
    rcases List.mem_cons.mp hw with rfl | hw
    · exact ⟨hc, good_of_word (bigGood _ hc)⟩
    · exact ⟨hw, good_of_word (bigGood _ hw)⟩) rfl hrc hrs (hB _ hini) (hB _ hl) hd hR
theorem kv_of (hB : ∀ w ∈ BIG, w.before args s = true) (hc : Cond.code y bytes maxL ret ∈ BIG) (hi : Cond.instanceMethod y ∈ BIG) (hse : Cond.selects C y y ∈ BIG) (hini : Cond.initialized y.cls ∈ BIG) (hd : y.cls ≠ "java/lang/invoke/MethodHandle" ∧ y.cls ≠ "java/lang/invoke/VarHandle" ∧ (parseMethodDescriptor y.desc).map (fun d => d.parameters.length) = some n) (hl : Cond.methodLink own index y ∈ BIG) (hrc : rm.cells = 0) (hrs : rm.slots = 0) (hR : rm.frames + 1 ≤ R.frames ∧ 8 + (maxL + 11) + rm.locals ≤ R.locals) : CallW R s args own C index y bytes maxL ret (Cond.code y bytes maxL ret :: BIG) rm 0 0 n :=
  ⟨kb_of hB hc hini hd hl hrc hrs hR, hB _ hi, hB _ hse⟩
theorem ks_of (hB : ∀ w ∈ BIG, w.before args s = true) (hc : Cond.code y bytes maxL ret ∈ BIG) (hi : Cond.static y ∈ BIG) (hini : Cond.initialized y.cls ∈ BIG) (hd : y.cls ≠ "java/lang/invoke/MethodHandle" ∧ y.cls ≠ "java/lang/invoke/VarHandle" ∧ (parseMethodDescriptor y.desc).map (fun d => d.parameters.length) = some n) (hl : Cond.methodLink own index y ∈ BIG) (hrc : rm.cells = 0) (hrs : rm.slots = 0) (hR : rm.frames + 1 ≤ R.frames ∧ 8 + (maxL + 11) + rm.locals ≤ R.locals) : CallB R s args own index y bytes maxL ret (Cond.code y bytes maxL ret :: BIG) rm 0 0 n ∧ (Cond.static y).before args s = true :=
  ⟨kb_of hB hc hini hd hl hrc hrs hR, hB _ hi⟩
theorem kn_of {host : String} (hB : ∀ w ∈ BIG, w.before args s = true) (hc : Cond.code y bytes maxL ret ∈ BIG) (hi : Cond.static y ∈ BIG) (hini : Cond.initialized y.cls ∈ BIG) (hd : y.cls ≠ "java/lang/invoke/MethodHandle" ∧ y.cls ≠ "java/lang/invoke/VarHandle" ∧ (parseMethodDescriptor y.desc).map (fun d => d.parameters.length) = some n) (hl : va_Nw (.methodLinkNest own index y host) s) (hrc : rm.cells = 0) (hrs : rm.slots = 0) (hR : rm.frames + 1 ≤ R.frames ∧ 8 + (maxL + 11) + rm.locals ≤ R.locals) : va_CN R s args own index y host bytes maxL ret (Cond.code y bytes maxL ret :: BIG) rm 0 0 n ∧ (Cond.static y).before args s = true ∧ True :=
  ⟨va_cnB n hB (fun w hw => by
    rcases List.mem_cons.mp hw with rfl | hw
    · exact ⟨hc, good_of_word (bigGood _ hc)⟩
    · exact ⟨hw, good_of_word (bigGood _ hw)⟩) rfl hrc hrs hl (hB _ hini) hd hR, hB _ hi, trivial⟩
/-- rows of ints and longs, at any place of a world -/
theorem ld_I {q0 n : Nat} {f : Nat → Int32} {b : Nat} {j v : Int32} (hx : p.tables.exec = Jvm.exec) (hb : c.code = cc) (hK : KK g s) (hP : va_P g.1 vwCl w H) (hq : w[q0]? = some (b, .inl (g.2.1, n, .inl f))) (he : rd n f j = some v) (hdg : decode cc pc = .ok (.iaload, 1)) (kk : W p l e R s m args below meth c H locs cells slots Q (F0 m (pc + 1) ls (.int v :: rest))) : W p l e R s m args below meth c H locs cells slots Q (F0 m pc ls (.int j :: .ref b :: rest)) := by
  obtain ⟨h1, rfl⟩ := rd_some he
  exact va_iald hx hb hK.1 hP q0 0 hq rfl h1 hdg kk
theorem ld_J {q0 n : Nat} {f : Nat → Int64} {b : Nat} {j : Int32} {v : Int64} (hx : p.tables.exec = Jvm.exec) (hb : c.code = cc) (hK : KK g s) (hP : va_P g.1 vwCl w H) (hq : w[q0]? = some (b, .inl (g.2.2.1, n, .inr (.inl f)))) (he : rd n f j = some v) (hdg : decode cc pc = .ok (.laload, 1)) (kk : W p l e R s m args below meth c H locs cells slots Q (F0 m (pc + 1) ls (.long v :: rest))) : W p l e R s m args below meth c H locs cells slots Q (F0 m pc ls (.int j :: .ref b :: rest)) := by
  obtain ⟨h1, rfl⟩ := rd_some he
  exact va_lald hx hb hK.1 hP q0 1 hq rfl h1 hdg kk
theorem st_I {q0 n : Nat} {f f2 : Nat → Int32} {b : Nat} {j v : Int32} (hx : p.tables.exec = Jvm.exec) (hb : c.code = cc) (hK : KK g s) (hP : va_P g.1 vwCl w H) (hD : va_D A0 w) (hS : va_S A0 H0 H locs) (hq : w[q0]? = some (b, .inl (g.2.1, n, .inl f))) (he : wr n f j v = some f2) (hdg : decode cc pc = .ok (.iastore, 1)) (kk : ∀ (H1 : Heap) (locs1 : List Loc), va_P g.1 vwCl (w.set q0 (b, .inl (g.2.1, n, .inl f2))) H1 → va_S A0 H0 H1 locs1 → W p l e R s m args below meth c H1 locs1 cells slots Q (F0 m (pc + 1) ls rest)) : W p l e R s m args below meth c H locs cells slots Q (F0 m pc ls (.int v :: .int j :: .ref b :: rest)) := by
  obtain ⟨h1, rfl⟩ := wr_some he
  exact va_iast hx hb hK.1 hP hD hS q0 0 hq rfl h1 hdg (fun H1 locs1 hP1 _ hS1 => kk H1 locs1 hP1 hS1)
theorem st_J {q0 n : Nat} {f f2 : Nat → Int64} {b : Nat} {j : Int32} {v : Int64} (hx : p.tables.exec = Jvm.exec) (hb : c.code = cc) (hK : KK g s) (hP : va_P g.1 vwCl w H) (hD : va_D A0 w) (hS : va_S A0 H0 H locs) (hq : w[q0]? = some (b, .inl (g.2.2.1, n, .inr (.inl f)))) (he : wrL n f j v = some f2) (hdg : decode cc pc = .ok (.lastore, 1)) (kk : ∀ (H1 : Heap) (locs1 : List Loc), va_P g.1 vwCl (w.set q0 (b, .inl (g.2.2.1, n, .inr (.inl f2)))) H1 → va_S A0 H0 H1 locs1 → W p l e R s m args below meth c H1 locs1 cells slots Q (F0 m (pc + 1) ls rest)) : W p l e R s m args below meth c H locs cells slots Q (F0 m pc ls (.long v :: .int j :: .ref b :: rest)) := by
  obtain ⟨h1, rfl⟩ := wrL_some he
  exact va_last hx hb hK.1 hP hD hS q0 1 hq rfl h1 hdg (fun H1 locs1 hP1 _ hS1 => kk H1 locs1 hP1 hS1)
theorem len_I {q0 n : Nat} {f : Nat → Int32} {b : Nat} {v : Int32} (hx : p.tables.exec = Jvm.exec) (hb : c.code = cc) (hK : KK g s) (hP : va_P g.1 vwCl w H) (hq : w[q0]? = some (b, .inl (g.2.1, n, .inl f))) (hv : Int32.ofNat n = v) (hdg : decode cc pc = .ok (.arraylength, 1)) (kk : W p l e R s m args below meth c H locs cells slots Q (F0 m (pc + 1) ls (.int v :: rest))) : W p l e R s m args below meth c H locs cells slots Q (F0 m pc ls (.ref b :: rest)) :=
  va_alen hx hb hK.1 hP q0 0 hq (ty := .int) rfl hv hdg kk
theorem len_J {q0 n : Nat} {f : Nat → Int64} {b : Nat} {v : Int32} (hx : p.tables.exec = Jvm.exec) (hb : c.code = cc) (hK : KK g s) (hP : va_P g.1 vwCl w H) (hq : w[q0]? = some (b, .inl (g.2.2.1, n, .inr (.inl f)))) (hv : Int32.ofNat n = v) (hdg : decode cc pc = .ok (.arraylength, 1)) (kk : W p l e R s m args below meth c H locs cells slots Q (F0 m (pc + 1) ls (.int v :: rest))) : W p l e R s m args below meth c H locs cells slots Q (F0 m pc ls (.ref b :: rest)) :=
  va_alen hx hb hK.1 hP q0 1 hq (ty := .long) rfl hv hdg kk
end BASE
/-- a method's start, the heap as it is -/
theorem ro_start {l : Launch} {y : MethodName} {ws ws' : List Cond} {rm : Room} {cc : ByteArray} {maxL : Nat} {ret : Option FieldType} {g : GG} {w : va_W} {av : List Value} {Qc : Array Value → State → Outcome → State → Prop} {lv : List (Nat × Value)}
    (hy : plainName y.cls = true) (hw : ws = Cond.code y cc maxL ret :: ws') (hlen : (lg_sl av).length ≤ maxL) (hlv : lv_args 0 av = lv)
    (body : ∀ (p : Program) (e : Env) (s : State) (m : MethodId) (args : Array Value) (below : List Frame) (meth : Method) (c : Code), p.tables.exec = Jvm.exec → c.code = cc → c.maxLocals = maxL → meth.sig.returnType = ret → (∀ x ∈ ws, x.before args s = true) → s.vm.findClass y.cls = some m.cls → meth.locks = false → KK g s →
      ∀ (H : Heap) (locs : List Loc), va_P g.1 vwCl w H → va_S (fun _ => False) s.heap H locs → ∀ ls : Array Slot, lv_has ls maxL lv → W p l e rm s m args below meth c H locs 0 0 (MQ below Qc args s 0 0 (fun _ => False)) (F0 m 0 ls [])) :
    Met l y ws rm (va_Pc av (ROp g w)) Qc 0 0 (fun _ => False) := by
  refine Met.ofW (cc := cc) (maxL := maxL) (ret := ret) hy hw ?_
  intro p e s m args below meth c s₁ B hml hv
  obtain ⟨rfl, hP, hK⟩ := hv
  have hl := lv_entry av (n := maxL) hlen
  rw [lg_entry_eq]
  rw [hlv] at hl
  exact body p e s m _ below meth c B.exec B.bytes hml B.returns (atoms_spec (ws := ws) B.pre) (findClass_of_methodNamed B.named) B.notSynchronized hK s.heap [] hP va_S.rf _ hl
/-- a method's start, the world changes -/
theorem rw_start {l : Launch} {y : MethodName} {ws ws' : List Cond} {rm : Room} {cc : ByteArray} {maxL : Nat} {ret : Option FieldType} {g : GG} {w : va_W} {av : List Value} {sz : Nat} {Qc : (Nat → Prop) → Array Value → State → Outcome → State → Prop} {lv : List (Nat × Value)}
    (hy : plainName y.cls = true) (hw : ws = Cond.code y cc maxL ret :: ws') (hlen : (lg_sl av).length ≤ maxL) (hlv : lv_args 0 av = lv)
    (body : ∀ (p : Program) (e : Env) (s : State) (m : MethodId) (args : Array Value) (below : List Frame) (meth : Method) (c : Code), p.tables.exec = Jvm.exec → c.code = cc → c.maxLocals = maxL → meth.sig.returnType = ret → (∀ x ∈ ws, x.before args s = true) → s.vm.findClass y.cls = some m.cls → meth.locks = false → KK g s →
      ∀ A : Nat → Prop, va_D A w → (∀ q, s.heap.size ≤ q → A q) → ∀ (H : Heap) (locs : List Loc), va_P g.1 vwCl w H → va_S A s.heap H locs → ∀ ls : Array Slot, lv_has ls maxL lv → W p l e rm s m args below meth c H locs 0 0 (MQ below (Qc A) args s 0 0 A) (F0 m 0 ls [])) :
    Met l y ws rm (va_Pc av (RWp g w sz)) (Qc (va_A w sz)) 0 0 (va_A w sz) := by
  refine Met.ofW (cc := cc) (maxL := maxL) (ret := ret) hy hw ?_
  intro p e s m args below meth c s₁ B hml hv
  obtain ⟨rfl, rfl, hP, hK, hD⟩ := hv
  have hl := lv_entry av (n := maxL) hlen
  rw [lg_entry_eq]
  rw [hlv] at hl
  exact body p e s m _ below meth c B.exec B.bytes hml B.returns (atoms_spec (ws := ws) B.pre) (findClass_of_methodNamed B.named) B.notSynchronized hK _ hD.self (fun q h => Or.inr h) s.heap [] hP va_S.rf _ hl
