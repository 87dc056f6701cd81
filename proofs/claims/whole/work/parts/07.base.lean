/-! a state of one side: its ints, its longs, its rows; the world that holds it; contracts over it -/
abbrev St : Type := (Nat → Int32) × (Nat → Int64) × (Nat → Nat → Int32)
def sI (S : St) (k : Nat) (v : Int32) : St := (upd S.1 k v, S.2)
def sJ (S : St) (k : Nat) (v : Int64) : St := (S.1, vp_updL S.2.1 k v, S.2.2)
def sR (S : St) (k : Nat) (f : Nat → Int32) : St := (S.1, S.2.1, fun j => if j = k then f else S.2.2 j)
def cw (a : Nat → Nat) (c : Nat → ClassId) (S : St) : va_W := [(a 0, .inr (5, [.ref (a 1), .ref (a 2), .ref (a 3), .ref (a 4), .ref (a 5)])),
  (a 1, .inr (3, [.ref (a 6), .ref (a 7), .ref (a 8), .int (S.1 0)])),
  (a 2, .inr (0, [.ref (a 9), .ref (a 10), .ref (a 11), .ref (a 12), .ref (a 13), .int (S.1 1), .int (S.1 2)])),
  (a 3, .inr (4, [.ref (a 2), .ref (a 14), .ref (a 15), .int (S.1 3), .int (S.1 4)])),
  (a 4, .inr (2, [.ref (a 16), .ref (a 17), .int (S.1 5), .int (S.1 6), .int (S.1 7), .ref (a 18), .ref (a 19), .int (S.1 8), .int (S.1 9), .ref (a 20), .ref (a 21), .int (S.1 10), .long (S.2.1 0), .int (S.1 11), .int (S.1 12)])),
  (a 5, .inr (1, [.ref (a 22), .ref (a 23), .int (S.1 13)])),
  (a 6, .inl (c 0, 6, .inl (S.2.2 0))),
  (a 7, .inl (c 1, 6, .inl (S.2.2 1))),
  (a 8, .inl (c 2, 6, .inl (S.2.2 2))),
  (a 9, .inl (c 3, 6, .inl (S.2.2 3))),
  (a 10, .inl (c 4, 150, .inl (S.2.2 4))),
  (a 11, .inl (c 5, 150, .inl (S.2.2 5))),
  (a 12, .inl (c 6, 900, .inl (S.2.2 6))),
  (a 13, .inl (c 7, 4, .inl (S.2.2 7))),
  (a 14, .inl (c 8, 8, .inl (S.2.2 8))),
  (a 15, .inl (c 9, 8, .inl (S.2.2 9))),
  (a 16, .inl (c 10, 4, .inl (S.2.2 10))),
  (a 17, .inl (c 11, 4, .inl (S.2.2 11))),
  (a 18, .inl (c 12, 1001, .inl (S.2.2 12))),
  (a 19, .inl (c 13, 1001, .inl (S.2.2 13))),
  (a 20, .inl (c 14, 4, .inl (S.2.2 14))),
  (a 21, .inl (c 15, 4, .inl (S.2.2 15))),
  (a 22, .inl (c 16, 60, .inl (S.2.2 16))),
  (a 23, .inl (c 17, 4, .inl (S.2.2 17)))]
def cty (c : Nat → ClassId) : List (ClassId × FieldType) := [(c 0, .int), (c 1, .int), (c 2, .int), (c 3, .int), (c 4, .int), (c 5, .boolean), (c 6, .int), (c 7, .int), (c 8, .int), (c 9, .int), (c 10, .int), (c 11, .int), (c 12, .int), (c 13, .int), (c 14, .int), (c 15, .int), (c 16, .int), (c 17, .int)]
def mw (a : Nat → Nat) (c : Nat → ClassId) (S : St) : va_W := [(a 0, .inr (6, [.int (S.1 0), .ref (a 1), .ref (a 2), .ref (a 3), .int (S.1 1), .ref (a 4), .ref (a 5), .ref (a 6), .int (S.1 2), .int (S.1 3), .int (S.1 4), .long (S.2.1 0), .long (S.2.1 1), .ref (a 7), .int (S.1 5), .int (S.1 6), .int (S.1 7), .ref (a 8), .ref (a 9), .int (S.1 8), .int (S.1 9), .int (S.1 10), .ref (a 10), .ref (a 11), .long (S.2.1 2), .int (S.1 11), .int (S.1 12), .ref (a 12), .ref (a 13), .int (S.1 13), .ref (a 14), .int (S.1 14), .int (S.1 15), .int (S.1 16), .int (S.1 17), .int (S.1 18)])),
  (a 1, .inl (c 0, 6, .inl (S.2.2 0))),
  (a 2, .inl (c 1, 6, .inl (S.2.2 1))),
  (a 3, .inl (c 2, 6, .inl (S.2.2 2))),
  (a 4, .inl (c 3, 150, .inl (S.2.2 3))),
  (a 5, .inl (c 4, 900, .inl (S.2.2 4))),
  (a 6, .inl (c 5, 150, .inl (S.2.2 5))),
  (a 7, .inl (c 6, 5, .inl (S.2.2 6))),
  (a 8, .inl (c 7, 4, .inl (S.2.2 7))),
  (a 9, .inl (c 8, 4, .inl (S.2.2 8))),
  (a 10, .inl (c 9, 4, .inl (S.2.2 9))),
  (a 11, .inl (c 10, 4, .inl (S.2.2 10))),
  (a 12, .inl (c 11, 6, .inl (S.2.2 11))),
  (a 13, .inl (c 12, 6, .inl (S.2.2 12))),
  (a 14, .inl (c 13, 60, .inl (S.2.2 13)))]
def mty (c : Nat → ClassId) : List (ClassId × FieldType) := [(c 0, .int), (c 1, .int), (c 2, .int), (c 3, .int), (c 4, .int), (c 5, .boolean), (c 6, .int), (c 7, .int), (c 8, .int), (c 9, .int), (c 10, .int), (c 11, .int), (c 12, .int), (c 13, .int)]
def cns : List Cond := [.fieldLinkNest RX5 132 "CanteenPlan$Menu" "ladleOf" "[I" "CanteenPlan",
  .fieldLinkNest RX5 50 "CanteenPlan$Menu" "meals" "I" "CanteenPlan",
  .fieldLinkNest RX4 62 "CanteenPlan$Diary" "marksOf" "[I" "CanteenPlan",
  .fieldLinkNest RX5 72 "CanteenPlan$Diary" "inAll" "I" "CanteenPlan",
  .fieldLinkNest RX2 46 "CanteenPlan$Diary" "inAll" "I" "CanteenPlan",
  .fieldLinkNest RX4 53 "CanteenPlan$Diary" "inAll" "I" "CanteenPlan",
  .fieldLinkNest RX5 153 "CanteenPlan$Diary" "away" "I" "CanteenPlan",
  .fieldLinkNest RX5 103 "CanteenPlan$Kitchen" "sizes" "I" "CanteenPlan",
  .fieldLinkNest RX5 109 "CanteenPlan$Kitchen" "waste" "I" "CanteenPlan",
  .fieldLinkNest RX5 112 "CanteenPlan$Kitchen" "want" "I" "CanteenPlan",
  .fieldLinkNest RX5 164 "CanteenPlan$Kitchen" "days" "I" "CanteenPlan",
  .fieldLinkNest RX5 119 "CanteenPlan$Kitchen" "bestCost" "J" "CanteenPlan",
  .fieldLinkNest RX5 136 "CanteenPlan$Hatch" "minutes" "I" "CanteenPlan",
  .methodLinkNest RX5 9 yX3_init "CanteenPlan",
  .methodLinkNest RX5 18 yX0_init "CanteenPlan",
  .methodLinkNest RX5 25 yX4_init "CanteenPlan",
  .methodLinkNest RX5 34 yX2_init "CanteenPlan",
  .methodLinkNest RX5 41 yX1_init "CanteenPlan",
  .methodLinkNest RX5 128 yX3_deal "CanteenPlan",
  .methodLinkNest RX5 150 yX1_clear "CanteenPlan",
  .methodLinkNest RX5 61 yX3_add "CanteenPlan",
  .methodLinkNest RX5 69 yX0_tell "CanteenPlan",
  .methodLinkNest RX5 77 yX0_add "CanteenPlan",
  .methodLinkNest RX5 85 yX0_takeAway "CanteenPlan",
  .methodLinkNest RX5 89 yX4_leavesBelow "CanteenPlan",
  .methodLinkNest RX4 58 yX0_isInKnot "CanteenPlan",
  .methodLinkNest RX4 65 yX0_eatenOn "CanteenPlan",
  .methodLinkNest RX5 93 yX4_markOnTheWay "CanteenPlan",
  .methodLinkNest RX5 97 yX4_askedOnTheWay "CanteenPlan",
  .methodLinkNest RX5 100 yX0_factOf "CanteenPlan",
  .methodLinkNest RX5 108 yX2_add "CanteenPlan",
  .methodLinkNest RX5 160 yX2_readLeaf "CanteenPlan",
  .methodLinkNest RX2 51 yX0_isInKnot "CanteenPlan",
  .methodLinkNest RX2 55 yX0_eatenOn "CanteenPlan",
  .methodLinkNest RX5 167 yX2_findBest "CanteenPlan",
  .methodLinkNest RX5 125 yX2_bestPotsOf "CanteenPlan",
  .methodLinkNest RX5 139 yX1_add "CanteenPlan",
  .methodLinkNest RX5 140 yX1_factOf "CanteenPlan",
  .methodLinkNest RX5 147 yX1_leastServed "CanteenPlan"]
def mns : List Cond := []
def gN (ns : List Cond) (U : State) : Prop := ∀ w ∈ ns, va_Nw w U
def gNest : Cond → Bool
  | .fieldLinkNest .. => true
  | .methodLinkNest .. => true
  | _ => false
theorem gN.warm {ns : List Cond} (hn : ns.all gNest = true) {s U : State} (hW : s.WarmedH U.vm) (h : gN ns s) : gN ns U := by
  intro w hw
  have h1 := List.all_eq_true.mp hn w hw
  have h2 := h w hw
  cases w <;> first | exact va_Nw.warmF hW h2 | exact va_Nw.warmM hW h2 | (exact Bool.noConfusion h1)
theorem gN.same {ns : List Cond} (hn : ns.all gNest = true) {s U : State} (hv : s.vm = U.vm) (h : gN ns s) : gN ns U := by
  intro w hw
  have h1 := List.all_eq_true.mp hn w hw
  have h2 := h w hw
  cases w <;> first | exact va_Nw.same rfl hv h2 | (exact Bool.noConfusion h1)
theorem cns_ok : cns.all gNest = true := by decide +kernel
theorem mns_ok : mns.all gNest = true := by decide +kernel
def gF (w : St → va_W) : Prop := ∀ S S', (w S).map Prod.fst = (w S').map Prod.fst
theorem cw_F {a : Nat → Nat} {c : Nat → ClassId} : gF (cw a c) := fun _ _ => rfl
theorem mw_F {a : Nat → Nat} {c : Nat → ClassId} : gF (mw a c) := fun _ _ => rfl
theorem gD {w : St → va_W} (hF : gF w) {A : Nat → Prop} {S : St} (h : va_D A (w S)) (S' : St) : va_D A (w S') := by
  have key : ∀ (k : Nat) (q : Nat × va_E), (w S')[k]? = some q → ∃ q0, (w S)[k]? = some q0 ∧ q0.1 = q.1 := by
    intro k q hk
    have e : ((w S').map Prod.fst)[k]? = some q.1 := by rw [List.getElem?_map, hk]; rfl
    rw [← hF S S', List.getElem?_map, Option.map_eq_some_iff] at e
    exact e
  refine ⟨fun i j p q hi hj hpq => ?_, fun k q hk => ?_⟩
  · obtain ⟨p0, h1, e1⟩ := key i p hi
    obtain ⟨q0, h2, e2⟩ := key j q hj
    exact h.1 i j p0 q0 h1 h2 (by rw [e1, e2, hpq])
  · obtain ⟨q0, h1, e1⟩ := key k q hk
    rw [← e1]
    exact h.2 k q0 h1
def gP (D : va_G) (w : St → va_W) (tys : List (ClassId × FieldType)) (ns : List Cond) (S : St) (sz : Nat) (U : State) : Prop :=
  U.heap.size = sz ∧ va_P D vwCl (w S) U.heap ∧ va_K D vwCl tys U ∧ va_D (fun _ => True) (w S) ∧ gN ns U
def gB (D : va_G) (w : St → va_W) (S : St) (t : State) : Prop := va_P D vwCl (w S) t.heap
theorem gP.blind {D : va_G} {w : St → va_W} {tys : List (ClassId × FieldType)} {ns : List Cond} (hn : ns.all gNest = true) {S : St} {sz : Nat} {As : List Value} : FrameBlind (va_Pc As (gP D w tys ns S sz)) := fun a U g mk q => by
  obtain ⟨q0, q1, qP, qK, qD, qN⟩ := q
  exact ⟨q0, q1, qP, va_K.moved (u := U) (U := U.calling g mk a) (Vm.Alike.refl U.vm) qK, qD, gN.same (s := U) (U := U.calling g mk a) hn rfl qN⟩
theorem gP.of {D : va_G} {w : St → va_W} {tys : List (ClassId × FieldType)} {ns : List Cond} (hn : ns.all gNest = true) {S : St} {H : Heap} {s U : State} {A : Nat → Prop} (hU : U.heap = H) (hW : s.WarmedH U.vm) (hP : va_P D vwCl (w S) H) (hK : va_K D vwCl tys s) (hD : va_D A (w S)) (hN : gN ns s) : gP D w tys ns S H.size U :=
  ⟨by rw [hU], by rw [hU]; exact hP, va_K.moved hW.alike hK, hD.weaken (fun _ _ _ _ => trivial), hN.warm hn hW⟩
theorem gFree {w : St → va_W} {S : St} {A : Nat → Prop} {H0 H : Heap} {locs : List Loc} (hS : va_S A H0 H locs) (hD : va_D A (w S)) (hA : ∀ q, H0.size ≤ q → A q) : ∀ q, va_A (w S) H.size q → A q := fun q h => h.elim (fun ⟨k, e, hk⟩ => hD.2 k (q, e) hk) (fun h => hA q (Nat.le_trans hS.1 h))
section GR
variable {p : Program} {l : Launch} {e : Env} {R : Room} {s : State} {m : MethodId} {args : Array Value} {below : List Frame} {meth : Method} {c : Code} {H : Heap} {locs : List Loc} {cells slots : Nat} {Q : State → Prop}
variable {y : MethodName} {bytes cc : ByteArray} {maxL nL n index : Nat} {ret : Option FieldType} {ws : List Cond} {rm : Room} {Qc : Array Value → State → Outcome → State → Prop} {Ts : List Cond} {own C host : String} {b : Addr} {As rest st0 : List Value} {g : JFrame} {pc : Nat} {ls : Array Slot} {a : Array Value}
variable {D : va_G} {w : St → va_W} {tys : List (ClassId × FieldType)} {ns : List Cond} {S : St} {A : Nat → Prop} {H0 : Heap}
theorem k_runV (hn : ns.all gNest = true) (S0 : CallFix p m c cc nL s args Ts own) (hM : Met l y ws rm (va_Pc (.ref b :: As) (gP D w tys ns S H.size)) Qc 0 0 (va_A (w S) H.size)) (cw : CallW R s args own C index y bytes maxL ret ws rm 0 0 n)
    (hrc : ∃ cell : Cell, H[b]? = some cell ∧ cell.vm.isStatics = false ∧ s.vm.findClass C = some cell.cls) (hP : va_P D vwCl (w S) H) (hK : va_K D vwCl tys s) (hD : va_D A (w S)) (hN : gN ns s)
    (hg : g.method = m) (hl : As.length = n) (hsize : g.locals.size = nL) (hstack : g.stack = As.reverse ++ .ref b :: rest) (hW : 2 * g.monitorRoom + (rest.map fun v => v.category).sum ≤ 8) (hdg : decode cc g.pc = .ok (.invokevirtual index, 3)) (hf : cells + 0 ≤ R.cells ∧ slots + 0 ≤ R.slots) :
    va_Run p l e R s m args below meth c H locs cells slots 0 0 g rest (Qc (Value.ref b :: As).toArray) (va_A (w S) H.size) :=
  va_runV S0 hM cw ⟨gP.blind hn, hrc, fun U hU hW => ⟨rfl, gP.of hn hU hW hP hK hD hN⟩⟩ hg hl hsize hstack hW hdg hf
theorem k_runVN (hn : ns.all gNest = true) (S0 : CallFix p m c cc nL s args Ts own) (hM : Met l y ws rm (va_Pc (.ref b :: As) (gP D w tys ns S H.size)) Qc 0 0 (va_A (w S) H.size)) (cw : va_CN R s args own index y host bytes maxL ret ws rm 0 0 n ∧ (Cond.instanceMethod y).before args s = true ∧ (Cond.selects C y y).before args s = true)
    (hrc : ∃ cell : Cell, H[b]? = some cell ∧ cell.vm.isStatics = false ∧ s.vm.findClass C = some cell.cls) (hP : va_P D vwCl (w S) H) (hK : va_K D vwCl tys s) (hD : va_D A (w S)) (hN : gN ns s)
    (hg : g.method = m) (hl : As.length = n) (hsize : g.locals.size = nL) (hstack : g.stack = As.reverse ++ .ref b :: rest) (hW : 2 * g.monitorRoom + (rest.map fun v => v.category).sum ≤ 8) (hdg : decode cc g.pc = .ok (.invokevirtual index, 3)) (hf : cells + 0 ≤ R.cells ∧ slots + 0 ≤ R.slots) :
    va_Run p l e R s m args below meth c H locs cells slots 0 0 g rest (Qc (Value.ref b :: As).toArray) (va_A (w S) H.size) :=
  va_runVN S0 hM cw ⟨gP.blind hn, hrc, fun U hU hW => ⟨rfl, gP.of hn hU hW hP hK hD hN⟩⟩ hg hl hsize hstack hW hdg hf
theorem k_runS (hn : ns.all gNest = true) (S0 : CallFix p m c cc nL s args Ts own) (hM : Met l y ws rm (va_Pc As (gP D w tys ns S H.size)) Qc 0 0 (va_A (w S) H.size)) (cw : CallB R s args own index y bytes maxL ret ws rm 0 0 n ∧ (Cond.static y).before args s = true)
    (hP : va_P D vwCl (w S) H) (hK : va_K D vwCl tys s) (hD : va_D A (w S)) (hN : gN ns s)
    (hg : g.method = m) (hl : As.length = n) (hsize : g.locals.size = nL) (hstack : g.stack = As.reverse ++ rest) (hW : 2 * g.monitorRoom + (rest.map fun v => v.category).sum ≤ 8) (hdg : decode cc g.pc = .ok (.invokestatic index, 3)) (hf : cells + 0 ≤ R.cells ∧ slots + 0 ≤ R.slots) :
    va_Run p l e R s m args below meth c H locs cells slots 0 0 g rest (Qc As.toArray) (va_A (w S) H.size) :=
  va_runS S0 hM cw ⟨gP.blind hn, fun U hU hW => ⟨rfl, gP.of hn hU hW hP hK hD hN⟩⟩ hg hl hsize hstack hW hdg hf
theorem k_i {post : Int32 → St → Prop} (hr : va_Run p l e R s m args below meth c H locs cells slots 0 0 (F0 m pc ls st0) rest (va_Qi post (gB D w) (va_A (w S) H.size) a) (va_A (w S) H.size)) (hS : va_S A H0 H locs) (hD : va_D A (w S)) (hA : ∀ q, H0.size ≤ q → A q)
    (kk : ∀ (r : Int32) (S' : St) (H1 : Heap) (locs1 : List Loc), post r S' → va_P D vwCl (w S') H1 → va_S A H0 H1 locs1 → W p l e R s m args below meth c H1 locs1 cells slots Q (F0 m (pc + 3) ls (.int r :: rest))) : W p l e R s m args below meth c H locs cells slots Q (F0 m pc ls st0) :=
  va_calli hr hS (fun q _ h => gFree hS hD hA q h) (gFree hS hD hA) (fun r u t H1 locs1 ht _ hw hB _ _ hS1 => kk r u H1 locs1 hw (by rw [← ht]; exact hB) hS1)
theorem k_l {post : Int64 → St → Prop} (hr : va_Run p l e R s m args below meth c H locs cells slots 0 0 (F0 m pc ls st0) rest (va_Ql post (gB D w) (va_A (w S) H.size) a) (va_A (w S) H.size)) (hS : va_S A H0 H locs) (hD : va_D A (w S)) (hA : ∀ q, H0.size ≤ q → A q)
    (kk : ∀ (r : Int64) (S' : St) (H1 : Heap) (locs1 : List Loc), post r S' → va_P D vwCl (w S') H1 → va_S A H0 H1 locs1 → W p l e R s m args below meth c H1 locs1 cells slots Q (F0 m (pc + 3) ls (.long r :: rest))) : W p l e R s m args below meth c H locs cells slots Q (F0 m pc ls st0) :=
  va_calll hr hS (fun q _ h => gFree hS hD hA q h) (gFree hS hD hA) (fun r u t H1 locs1 ht _ hw hB _ _ hS1 => kk r u H1 locs1 hw (by rw [← ht]; exact hB) hS1)
theorem k_v {post : St → Prop} (hr : va_Run p l e R s m args below meth c H locs cells slots 0 0 (F0 m pc ls st0) rest (va_Qv post (gB D w) (va_A (w S) H.size) a) (va_A (w S) H.size)) (hS : va_S A H0 H locs) (hD : va_D A (w S)) (hA : ∀ q, H0.size ≤ q → A q)
    (kk : ∀ (S' : St) (H1 : Heap) (locs1 : List Loc), post S' → va_P D vwCl (w S') H1 → va_S A H0 H1 locs1 → W p l e R s m args below meth c H1 locs1 cells slots Q (F0 m (pc + 3) ls rest)) : W p l e R s m args below meth c H locs cells slots Q (F0 m pc ls st0) :=
  va_callv hr hS (fun q _ h => gFree hS hD hA q h) (gFree hS hD hA) (fun u t H1 locs1 ht _ hw hB _ _ hS1 => kk u H1 locs1 hw (by rw [← ht]; exact hB) hS1)
theorem g_reti {post : Int32 → St → Prop} {v : Int32} (hx : p.tables.exec = Jvm.exec) (hb : c.code = cc) (hr : meth.sig.returnType = some .int) (hlocks : meth.locks = false) (h : post v S) (hP : va_P D vwCl (w S) H) (hS : va_S A s.heap H locs) (hdg : decode cc pc = .ok (.ireturn, 1)) :
    W p l e R s m args below meth c H locs cells slots (MQ below (va_Qi post (gB D w) A) args s cells slots A) (F0 m pc ls [.int v]) :=
  W.iret hx hb hr (fun t ht _ => ⟨⟨v, S, rfl, h, (by show va_P D vwCl (w S) t.heap; rw [ht]; exact hP)⟩, hS.F ht⟩) hS.2.2 hdg hlocks
theorem g_nb {v : Int32} (h : v = 0 ∨ v = 1) : narrow .boolean (.int v) = .int v := by
  rcases h with rfl | rfl <;> rfl
theorem g_retz {post : Int32 → St → Prop} {v : Int32} (hx : p.tables.exec = Jvm.exec) (hb : c.code = cc) (hr : meth.sig.returnType = some .boolean) (hlocks : meth.locks = false) (hv : v = 0 ∨ v = 1) (h : post v S) (hP : va_P D vwCl (w S) H) (hS : va_S A s.heap H locs) (hdg : decode cc pc = .ok (.ireturn, 1)) :
    W p l e R s m args below meth c H locs cells slots (MQ below (va_Qi post (gB D w) A) args s cells slots A) (F0 m pc ls [.int v]) :=
  W.zret hx hb hr (g_nb hv) (fun t ht _ => ⟨⟨v, S, rfl, h, (by show va_P D vwCl (w S) t.heap; rw [ht]; exact hP)⟩, hS.F ht⟩) hS.2.2 hdg hlocks
theorem g_retl {post : Int64 → St → Prop} {v : Int64} (hx : p.tables.exec = Jvm.exec) (hb : c.code = cc) (hr : meth.sig.returnType = some .long) (hlocks : meth.locks = false) (h : post v S) (hP : va_P D vwCl (w S) H) (hS : va_S A s.heap H locs) (hdg : decode cc pc = .ok (.lreturn, 1)) :
    W p l e R s m args below meth c H locs cells slots (MQ below (va_Ql post (gB D w) A) args s cells slots A) (F0 m pc ls [.long v]) :=
  W.lret hx hb hr (fun t ht _ => ⟨⟨v, S, rfl, h, (by show va_P D vwCl (w S) t.heap; rw [ht]; exact hP)⟩, hS.F ht⟩) hS.2.2 hdg hlocks
theorem g_retv {post : St → Prop} (hx : p.tables.exec = Jvm.exec) (hb : c.code = cc) (hr : meth.sig.returnType = none) (hlocks : meth.locks = false) (h : post S) (hP : va_P D vwCl (w S) H) (hS : va_S A s.heap H locs) (hdg : decode cc pc = .ok (.return_, 1)) :
    W p l e R s m args below meth c H locs cells slots (MQ below (va_Qv post (gB D w) A) args s cells slots A) (F0 m pc ls []) :=
  W.vret hx hb hr (fun t ht _ => ⟨⟨S, rfl, h, (by show va_P D vwCl (w S) t.heap; rw [ht]; exact hP)⟩, hS.F ht⟩) hS.2.2 hdg hlocks
end GR
/-! java.util.Arrays.fill over a row of any world -/
def g_fill (f : Nat → Int32) (k : Nat) (v : Int32) : Nat → Int32 := fun j => if j < k then v else f j
theorem g_fill_0 (f : Nat → Int32) (v : Int32) : g_fill f 0 v = f := by
  funext j
  simp [g_fill]
theorem g_fill_s (f : Nat → Int32) (i : Nat) (v : Int32) : upd (g_fill f i v) i v = g_fill f (i + 1) v := by
  funext j
  unfold upd g_fill
  by_cases h : j = i
  · subst h; simp
  · have h1 : (j < i + 1) ↔ (j < i) := by omega
    simp [h, h1]
theorem g_set_same {w : va_W} {q : Nat} {x : Nat × va_E} (h : w[q]? = some x) : w.set q x = w := by
  apply List.ext_getElem?
  intro k
  by_cases hk : q = k
  · subst hk
    rw [List.getElem?_set_self (List.getElem?_eq_some_iff.mp h).1, h]
  · rw [List.getElem?_set_ne hk]
abbrev rmF : Room := { frames := 0, cells := 0, slots := 0, locals := 0 }
set_option maxHeartbeats 4000000 in
set_option maxRecDepth 100000 in
theorem cJ7_fill (l : Launch) (D : va_G) {w : St → va_W} {tys : List (ClassId × FieldType)} {ns : List Cond} (hF : gF w) {S : St} (u : (Nat → Int32) → St) {b : Nat} {cA : ClassId} {len : Nat} (q0 t0 : Nat) {f : Nat → Int32} (ha : (w S)[q0]? = some (b, .inl (cA, len, .inl f))) (ht : tys[t0]? = some (cA, .int)) (hu : ∀ f', (w S).set q0 (b, .inl (cA, len, .inl f')) = w (u f')) (hlen : len < 2 ^ 31) (sz : Nat) (v : Int32) :
    Met l yJ7_fill_53178 wsJ7_fill_53178 rmF (va_Pc [.ref b, .int v] (gP D w tys ns S sz)) (va_Qv (fun S' => S' = u (g_fill f len v)) (gB D w) (va_A (w S) sz)) 0 0 (va_A (w S) sz) := by
  refine Met.ofW (cc := cJ7_fill_53178) (maxL := 4) (ret := none) (by decide) rfl ?_
  intro p e s m args below meth c9 s₁ B hml hv
  obtain ⟨rfl, hsz, hP, hK, hD0, hN⟩ := hv
  have hx := B.exec
  have hb := B.bytes
  have hr := B.returns
  have hlocks := B.notSynchronized
  subst hsz
  have hD1 := hD0.self (sz := s.heap.size)
  generalize hAe : va_A (w S) s.heap.size = A at hD1 ⊢
  have hD : ∀ S2 : St, va_D A (w S2) := gD hF hD1
  have hS : va_S A s.heap s.heap [] := va_S.rf
  have hq : q0 < (w S).length := (List.getElem?_eq_some_iff.mp ha).1
  have hat : ∀ f', (w (u f'))[q0]? = some (b, .inl (cA, len, .inl f')) := fun f' => by rw [← hu f', List.getElem?_set_self hq]
  have hset : ∀ f' f'', (w (u f')).set q0 (b, .inl (cA, len, .inl f'')) = w (u f'') := fun f' f'' => by rw [← hu f', List.set_set, hu f'']
  have hl := lv_entry ([.ref b, .int v]) (n := 4) (Nat.le_of_ble_eq_true rfl)
  rw [lg_entry_eq]
  generalize (lg_sl ([.ref b, .int v]) ++ List.replicate (4 - (lg_sl ([.ref b, .int v])).length) Slot.unset).toArray = ls at hl ⊢
  have hl : lv_has ls 4 [(0, .ref b), (1, .int v)] := hl
  have key : ∀ (n i : Nat) (H : Heap) (locs : List Loc) (ls : Array Slot), i ≤ len → len ≤ i + n → va_P D vwCl (w (u (g_fill f i v))) H → va_S A s.heap H locs → lv_has ls 4 [(0, .ref b), (1, .int v), (2, .int (nI i)), (3, .int (nI len))] → W p l e ((headSpec wsJ7_fill_53178 rmF).room) s m ([.ref b, .int v] : List Value).toArray below meth c9 H locs 0 0 (MQ below (va_Qv (fun S' => S' = u (g_fill f len v)) (gB D w) A) ([.ref b, .int v] : List Value).toArray s 0 0 A) (F0 m 5 ls []) := by
    intro n
    induction n with
    | zero =>
      intro i H locs ls hi hin hP hS hl
      have hil : i = len := by omega
      subst hil
      refine lv_iload_n hx hb dJ7_fill_53178_5 rfl (lv_at hl 2 rfl) ?_
      refine lv_iload_n hx hb dJ7_fill_53178_6 rfl (lv_at hl 3 rfl) ?_
      refine lv_icmp_ge (tgt := 20) hx hb dJ7_fill_53178_7 (by decide) (fun _ => ?_) (fun c1 => ?_)
      · exact g_retv hx hb hr hlocks rfl hP hS dJ7_fill_53178_20
      · exact absurd (nI_le (Nat.le_refl i) hlen) c1
    | succ n ih =>
      intro i H locs ls hi hin hP hS hl
      refine lv_iload_n hx hb dJ7_fill_53178_5 rfl (lv_at hl 2 rfl) ?_
      refine lv_iload_n hx hb dJ7_fill_53178_6 rfl (lv_at hl 3 rfl) ?_
      refine lv_icmp_ge (tgt := 20) hx hb dJ7_fill_53178_7 (by decide) (fun c1 => ?_) (fun c1 => ?_)
      · have hil : i = len := by
          have := (nI_leI hlen (by omega)).mp c1
          omega
        subst hil
        exact g_retv hx hb hr hlocks rfl hP hS dJ7_fill_53178_20
      · have hlt : i < len := by
          rcases Nat.lt_or_ge i len with q | q
          · exact q
          · exact absurd (nI_le q (by omega)) c1
        refine lv_aload_n hx hb dJ7_fill_53178_10 rfl (lv_at hl 0 rfl) ?_
        refine lv_iload_n hx hb dJ7_fill_53178_11 rfl (lv_at hl 2 rfl) ?_
        refine lv_iload_n hx hb dJ7_fill_53178_12 rfl (lv_at hl 1 rfl) ?_
        refine va_iast hx hb hK hP (hD _) hS q0 t0 (hat _) ht (vp_in_nI hlt hlen) dJ7_fill_53178_13 (fun H locs hP _ hS => ?_)
        rw [hset, nI_clamp (by omega), g_fill_s] at hP
        refine lv_iinc (v := nI (i + 1)) (lv' := [(2, .int (nI (i + 1))), (0, .ref b), (1, .int v), (3, .int (nI len))]) hx hb dJ7_fill_53178_14 hl (k := 2) rfl (by rw [← nI_1 i]; rfl) (by decide) rfl (fun ls hl => ?_)
        refine lv_goto (tgt := 5) hx hb dJ7_fill_53178_17 (by decide) ?_
        exact ih (i + 1) H locs ls hlt (by omega) hP hS (lv_sub hl [1, 2, 0, 3] rfl)
  refine lv_iconst (v := 0) hx hb dJ7_fill_53178_0 (by decide) ?_
  refine lv_istore_n (lv' := [(2, .int 0), (0, .ref b), (1, .int v)]) hx hb dJ7_fill_53178_1 rfl hl (by decide) rfl (fun ls hl => ?_)
  refine lv_aload_n hx hb dJ7_fill_53178_2 rfl (lv_at hl 1 rfl) ?_
  refine va_alen hx hb hK hP q0 t0 ha ht (v := nI len) rfl dJ7_fill_53178_3 ?_
  refine lv_istore_n (lv' := [(3, .int (nI len)), (2, .int 0), (0, .ref b), (1, .int v)]) hx hb dJ7_fill_53178_4 rfl hl (by decide) rfl (fun ls hl => ?_)
  exact key len 0 _ _ ls (Nat.zero_le _) (by omega) (by rw [g_fill_0, ← hu, g_set_same ha]; exact hP) hS (lv_sub hl [2, 3, 1, 0] rfl)
section GF
variable {p : Program} {l : Launch} {e : Env} {R : Room} {s : State} {m : MethodId} {args : Array Value} {below : List Frame} {meth : Method} {c : Code} {H : Heap} {locs : List Loc} {cells slots : Nat} {Q : State → Prop}
variable {cc : ByteArray} {nL index : Nat} {Ts : List Cond} {own : String} {rest : List Value} {pc : Nat} {ls : Array Slot}
variable {D : va_G} {w : St → va_W} {tys : List (ClassId × FieldType)} {ns : List Cond} {S : St} {A : Nat → Prop} {H0 : Heap}
theorem k_fill (hn : ns.all gNest = true) (hF : gF w) (S0 : CallFix p m c cc nL s args Ts own) (cw : CallB R s args own index yJ7_fill_53178 cJ7_fill_53178 4 none wsJ7_fill_53178 rmF 0 0 2 ∧ (Cond.static yJ7_fill_53178).before args s = true)
    {u : (Nat → Int32) → St} {b : Nat} {cA : ClassId} {len : Nat} {f : Nat → Int32} {v : Int32} (q0 t0 : Nat) (ha : (w S)[q0]? = some (b, .inl (cA, len, .inl f))) (ht : tys[t0]? = some (cA, .int)) (hu : ∀ f', (w S).set q0 (b, .inl (cA, len, .inl f')) = w (u f'))
    (hP : va_P D vwCl (w S) H) (hK : va_K D vwCl tys s) (hD : va_D A (w S)) (hN : gN ns s) (hS : va_S A H0 H locs) (hA : ∀ q, H0.size ≤ q → A q) (hsize : ls.size = nL) (hlen : len < 2 ^ 31) (hW : (rest.map fun v => v.category).sum ≤ 8) (hdg : decode cc pc = .ok (.invokestatic index, 3)) (hf : cells + 0 ≤ R.cells ∧ slots + 0 ≤ R.slots)
    (kk : ∀ (H1 : Heap) (locs1 : List Loc), va_P D vwCl (w (u (g_fill f len v))) H1 → va_S A H0 H1 locs1 → W p l e R s m args below meth c H1 locs1 cells slots Q (F0 m (pc + 3) ls rest)) : W p l e R s m args below meth c H locs cells slots Q (F0 m pc ls (.int v :: .ref b :: rest)) :=
  k_v (k_runS (As := [.ref b, .int v]) hn S0 (cJ7_fill l D hF u q0 t0 ha ht hu hlen H.size v) cw hP hK hD hN rfl rfl hsize rfl (lv_room hW) hdg hf) hS hD hA (fun S' H1 locs1 e1 hP1 hS1 => kk H1 locs1 (by rw [← e1]; exact hP1) hS1)
end GF
/-! methods of the class that may throw -/
def xW : List Cond := [.castable "java/lang/IllegalArgumentException" "java/lang/IllegalArgumentException", .castable "java/lang/IllegalStateException" "java/lang/IllegalStateException", .castable "java/lang/IndexOutOfBoundsException" "java/lang/IndexOutOfBoundsException", .declares ⟨"java/lang/RuntimeException", "<init>", "(Ljava/lang/String;)V"⟩, .declares ⟨"java/lang/Exception", "<init>", "(Ljava/lang/String;)V"⟩, .declares ⟨"java/lang/Throwable", "<init>", "(Ljava/lang/String;)V"⟩]
def xKind : Cond → Bool
  | .castable .. => true
  | .declares .. => true
  | _ => false
theorem xW_ok : xW.all xKind = true := by decide +kernel
theorem xW_warm {s U : State} (hW : s.WarmedH U.vm) (h : ∀ w ∈ xW, va_Nw w s) : ∀ w ∈ xW, va_Nw w U := by
  intro w hw
  have h1 := List.all_eq_true.mp xW_ok w hw
  have h2 := h w hw
  cases w <;> first | exact va_Nw.warmC hW h2 | exact va_Nw.warmD hW h2 | (exact Bool.noConfusion h1)
theorem xW_same {s U : State} (hv : s.vm = U.vm) (h : ∀ w ∈ xW, va_Nw w s) : ∀ w ∈ xW, va_Nw w U := by
  intro w hw
  have h1 := List.all_eq_true.mp xW_ok w hw
  have h2 := h w hw
  cases w <;> first | exact va_Nw.same rfl hv h2 | (exact Bool.noConfusion h1)
theorem xW_use {args : Array Value} {s : State} (h : ∀ w ∈ xW, va_Nw w s) : ∀ w ∈ xW, w.before args s = true := by
  intro w hw
  have h1 := List.all_eq_true.mp xW_ok w hw
  have h2 := h w hw
  cases w <;> first | exact va_Nw.use rfl h2 | (exact Bool.noConfusion h1)
abbrev xNms : List String := ["java/lang/RuntimeException", "java/lang/Exception"]
def xStr : List (Nat × String) := [(56, "there are 6 meals"), (75, "there were 150 days"), (82, "there was no such day"), (106, "there are 4 sizes"), (144, "minutes are below 0"), (156, "a number is beyond what the document allows"), (158, "there is no such meal")]
def xT (A : Nat → Prop) (U : State) (H : Heap) : Prop :=
  vx_Zq Bundle.tN "UNASSIGNED_STACK" Bundle.steD A U H ∧ vx_Zq Bundle.tN "SUPPRESSED_SENTINEL" Bundle.listD A U H ∧ (∀ q ∈ xStr, ∃ sa : Nat, vk_R RX5 q.1 q.2 sa U) ∧ ∀ w ∈ xW, va_Nw w U
theorem xT.same {A : Nat → Prop} {s U : State} {H : Heap} (hv : s.vm = U.vm) (h : xT A s H) : xT A U H :=
  ⟨vx_Zq.moved (by rw [← hv]; exact Vm.Alike.refl s.vm) h.1, vx_Zq.moved (by rw [← hv]; exact Vm.Alike.refl s.vm) h.2.1, fun q hq => (h.2.2.1 q hq).imp fun _ k => vk_R.same hv.symm k, xW_same hv h.2.2.2⟩
theorem xT.of {A B : Nat → Prop} {s U : State} {H : Heap} {locs : List Loc} (hT : xT A s s.heap) (hS : va_S A s.heap H locs) (hB : ∀ q, B q → A q) (hW : s.WarmedH U.vm) : xT B U H :=
  ⟨vx_Zq.moved hW.alike ((vx_Zq.kept hT.1 (fun a h1 h2 => hS.2.1 a h1 h2)).narrow hB), vx_Zq.moved hW.alike ((vx_Zq.kept hT.2.1 (fun a h1 h2 => hS.2.1 a h1 h2)).narrow hB), fun q hq => (hT.2.2.1 q hq).imp fun _ k => vk_R.warm hW k, xW_warm hW hT.2.2.2⟩
def xP (D : va_G) (w : St → va_W) (tys : List (ClassId × FieldType)) (ns : List Cond) (S : St) (sz : Nat) (U : State) : Prop :=
  U.heap.size = sz ∧ va_P D vwCl (w S) U.heap ∧ va_K D vwCl tys U ∧ va_D (fun _ => True) (w S) ∧ gN ns U ∧ xT (va_A (w S) sz) U U.heap
theorem xP.blind {D : va_G} {w : St → va_W} {tys : List (ClassId × FieldType)} {ns : List Cond} (hn : ns.all gNest = true) {S : St} {sz : Nat} {As : List Value} : FrameBlind (va_Pc As (xP D w tys ns S sz)) := fun a U g mk q => by
  obtain ⟨q0, q1, qP, qK, qD, qN, qT⟩ := q
  exact ⟨q0, q1, qP, va_K.moved (u := U) (U := U.calling g mk a) (Vm.Alike.refl U.vm) qK, qD, gN.same (s := U) (U := U.calling g mk a) hn rfl qN, xT.same (s := U) (U := U.calling g mk a) rfl qT⟩
theorem xP.of {D : va_G} {w : St → va_W} {tys : List (ClassId × FieldType)} {ns : List Cond} (hn : ns.all gNest = true) {S : St} {H : Heap} {locs : List Loc} {s U : State} {A : Nat → Prop} (hU : U.heap = H) (hW : s.WarmedH U.vm) (hP : va_P D vwCl (w S) H) (hK : va_K D vwCl tys s) (hD : va_D A (w S)) (hN : gN ns s) (hT : xT A s s.heap) (hS : va_S A s.heap H locs) (hA : ∀ q, s.heap.size ≤ q → A q) : xP D w tys ns S H.size U :=
  ⟨by rw [hU], by rw [hU]; exact hP, va_K.moved hW.alike hK, hD.weaken (fun _ _ _ _ => trivial), hN.warm hn hW, by rw [hU]; exact hT.of hS (gFree hS hD hA) hW⟩
def xX (D : va_G) (w : St → va_W) (postx : String → St → Prop) (A : Nat → Prop) : String → State → State → Prop :=
  vx_X (fun u : String × St => postx u.1 u.2) (fun E u t => E = u.1 ∧ va_P D vwCl (w u.2) t.heap) A
section GX
variable {p : Program} {l : Launch} {e : Env} {R : Room} {s : State} {m : MethodId} {args : Array Value} {below : List Frame} {meth : Method} {c : Code} {H : Heap} {locs : List Loc} {cells slots mc ms mc0 ms0 : Nat} {Q : State → Prop}
variable {y : MethodName} {bytes cc : ByteArray} {maxL nL n index : Nat} {ret : Option FieldType} {ws : List Cond} {rm : Room} {Qc : Array Value → State → Outcome → State → Prop} {XC : String → State → State → Prop} {Ts : List Cond} {own C host : String} {b : Addr} {As rest st0 : List Value} {g : JFrame} {pc : Nat} {ls : Array Slot} {a : Array Value}
variable {D : va_G} {w : St → va_W} {tys : List (ClassId × FieldType)} {ns : List Cond} {S : St} {A : Nat → Prop} {postx : String → St → Prop}
theorem x_runV (hn : ns.all gNest = true) (S0 : CallFix p m c cc nL s args Ts own) (hM : vx_Met l y ws rm (va_Pc (.ref b :: As) (xP D w tys ns S H.size)) Qc XC mc ms (va_A (w S) H.size)) (cw : CallW R s args own C index y bytes maxL ret ws rm mc ms n)
    (hrc : ∃ cell : Cell, H[b]? = some cell ∧ cell.vm.isStatics = false ∧ s.vm.findClass C = some cell.cls) (hP : va_P D vwCl (w S) H) (hK : va_K D vwCl tys s) (hD : va_D A (w S)) (hN : gN ns s) (hT : xT A s s.heap) (hS : va_S A s.heap H locs) (hA : ∀ q, s.heap.size ≤ q → A q)
    (hg : g.method = m) (hl : As.length = n) (hsize : g.locals.size = nL) (hstack : g.stack = As.reverse ++ .ref b :: rest) (hW : 2 * g.monitorRoom + (rest.map fun v => v.category).sum ≤ 8) (hdg : decode cc g.pc = .ok (.invokevirtual index, 3)) (hf : cells + mc ≤ R.cells ∧ slots + ms ≤ R.slots) :
    vx_Run p l e R s m args below meth c H locs cells slots mc ms g rest (Qc (Value.ref b :: As).toArray) XC (va_A (w S) H.size) :=
  vx_runV S0 hM cw ⟨xP.blind hn, hrc, fun U hU hW => ⟨rfl, xP.of hn hU hW hP hK hD hN hT hS hA⟩⟩ hg hl hsize hstack hW hdg hf
theorem x_runS (hn : ns.all gNest = true) (S0 : CallFix p m c cc nL s args Ts own) (hM : vx_Met l y ws rm (va_Pc As (xP D w tys ns S H.size)) Qc XC mc ms (va_A (w S) H.size)) (cw : CallB R s args own index y bytes maxL ret ws rm mc ms n ∧ (Cond.static y).before args s = true)
    (hP : va_P D vwCl (w S) H) (hK : va_K D vwCl tys s) (hD : va_D A (w S)) (hN : gN ns s) (hT : xT A s s.heap) (hS : va_S A s.heap H locs) (hA : ∀ q, s.heap.size ≤ q → A q)
    (hg : g.method = m) (hl : As.length = n) (hsize : g.locals.size = nL) (hstack : g.stack = As.reverse ++ rest) (hW : 2 * g.monitorRoom + (rest.map fun v => v.category).sum ≤ 8) (hdg : decode cc g.pc = .ok (.invokestatic index, 3)) (hf : cells + mc ≤ R.cells ∧ slots + ms ≤ R.slots) :
    vx_Run p l e R s m args below meth c H locs cells slots mc ms g rest (Qc As.toArray) XC (va_A (w S) H.size) :=
  vx_runS S0 hM cw ⟨xP.blind hn, fun U hU hW => ⟨rfl, xP.of hn hU hW hP hK hD hN hT hS hA⟩⟩ hg hl hsize hstack hW hdg hf
theorem x_i {post : Int32 → St → Prop} (hr : vx_Run p l e R s m args below meth c H locs cells slots mc ms (F0 m pc ls st0) rest (va_Qi post (gB D w) (va_A (w S) H.size) a) (xX D w postx (va_A (w S) H.size)) (va_A (w S) H.size)) (hS : va_S A s.heap H locs) (hD : va_D A (w S)) (hA : ∀ q, s.heap.size ≤ q → A q)
    (kx : ∀ (E : String) (q9 : Addr) (ce : Cell) (S9 : St) (H1 : Heap) (locs1 : List Loc), postx E S9 → va_P D vwCl (w S9) H1 → va_S A s.heap H1 locs1 → H1[q9]? = some ce → ce.vm = .none → s.vm.findClass E = some ce.cls → vx_W p l e R s m args below meth c H1 locs1 (cells + mc) (slots + ms) Q (F0 m pc ls rest) q9)
    (kk : ∀ (r : Int32) (S' : St) (H1 : Heap) (locs1 : List Loc), post r S' → va_P D vwCl (w S') H1 → va_S A s.heap H1 locs1 → W p l e R s m args below meth c H1 locs1 (cells + mc) (slots + ms) Q (F0 m (pc + 3) ls (.int r :: rest))) : W p l e R s m args below meth c H locs cells slots Q (F0 m pc ls st0) :=
  vx_calli hr hS (fun q _ h => gFree hS hD hA q h) (gFree hS hD hA) (fun q _ h => gFree hS hD hA q h)
    (fun E ce q9 u t H1 locs1 ht _ hp hB _ _ hS1 hq hv hcl => kx E q9 ce u.2 H1 locs1 (by rw [hB.1]; exact hp) (by rw [← ht]; exact hB.2) hS1 hq hv hcl)
    (fun r u t H1 locs1 ht _ hw hB _ _ hS1 => kk r u H1 locs1 hw (by rw [← ht]; exact hB) hS1)
theorem x_v {post : St → Prop} (hr : vx_Run p l e R s m args below meth c H locs cells slots mc ms (F0 m pc ls st0) rest (va_Qv post (gB D w) (va_A (w S) H.size) a) (xX D w postx (va_A (w S) H.size)) (va_A (w S) H.size)) (hS : va_S A s.heap H locs) (hD : va_D A (w S)) (hA : ∀ q, s.heap.size ≤ q → A q)
    (kx : ∀ (E : String) (q9 : Addr) (ce : Cell) (S9 : St) (H1 : Heap) (locs1 : List Loc), postx E S9 → va_P D vwCl (w S9) H1 → va_S A s.heap H1 locs1 → H1[q9]? = some ce → ce.vm = .none → s.vm.findClass E = some ce.cls → vx_W p l e R s m args below meth c H1 locs1 (cells + mc) (slots + ms) Q (F0 m pc ls rest) q9)
    (kk : ∀ (S' : St) (H1 : Heap) (locs1 : List Loc), post S' → va_P D vwCl (w S') H1 → va_S A s.heap H1 locs1 → W p l e R s m args below meth c H1 locs1 (cells + mc) (slots + ms) Q (F0 m (pc + 3) ls rest)) : W p l e R s m args below meth c H locs cells slots Q (F0 m pc ls st0) :=
  vx_callv hr hS (fun q _ h => gFree hS hD hA q h) (gFree hS hD hA) (fun q _ h => gFree hS hD hA q h)
    (fun E ce q9 u t H1 locs1 ht _ hp hB _ _ hS1 hq hv hcl => kx E q9 ce u.2 H1 locs1 (by rw [hB.1]; exact hp) (by rw [← ht]; exact hB.2) hS1 hq hv hcl)
    (fun u t H1 locs1 ht _ hw hB _ _ hS1 => kk u H1 locs1 hw (by rw [← ht]; exact hB) hS1)
theorem x_out {E : String} {ce : Cell} {q : Addr} {S9 : St} (hout : ∀ x ∈ c.exceptionTable.toList, False) (hlocks : meth.locks = false) (hq : H[q]? = some ce) (hv : ce.vm = .none) (hcl : s.vm.findClass E = some ce.cls) (h : postx E S9) (hP : va_P D vwCl (w S9) H) (hS : va_S A s.heap H locs) (hc : cells ≤ mc) (hs : slots ≤ ms) :
    vx_W p l e R s m args below meth c H locs cells slots (vx_MQ below Qc (xX D w postx A) args s mc ms A) (F0 m pc ls rest) q :=
  vx_out (fun x hx => (hout x hx).elim) hlocks hq hv hcl (fun t ht _ => ⟨(E, S9), h, ⟨rfl, by rw [ht]; exact hP⟩, hS.F ht⟩) hS.2.2 hc hs
theorem x_throw {E text : String} {ik is ic : Nat} (hx : p.tables.exec = Jvm.exec) (hb : c.code = cc) (hl0 : l.stackTraces = false) (hown : s.vm.findClass RX5 = some m.cls)
    (hgood : ∀ w ∈ (vx_atS RX5 ic E xNms).filter goodWord, w.before args s = true) (hnot : ∀ w ∈ (vx_atS RX5 ic E xNms).filter (fun w => !goodWord w), w ∈ xW) (hstr : (is, text) ∈ xStr) (hfit : Bundle.fit E = true)
    (hk : (Cond.classLink RX5 ik E).before args s = true) (hini : (Cond.initialized E).before args s = true) (hok : ∀ w ∈ Cond.classLink RX5 ik E :: Cond.initialized E :: vx_atS RX5 ic E xNms, vx_ot w = true)
    (hT : xT A s s.heap) (hS : va_S A s.heap H locs) (hsize : ls.size = nL) (hml : c.maxLocals = nL)
    (d0 : decode cc pc = .ok (.new ik, 3)) (d3 : decode cc (pc + 3) = .ok (.dup, 1)) (d4 : decode cc (pc + 4) = .ok (.ldc is, 2)) (d6 : decode cc (pc + 6) = .ok (.invokespecial ic, 3)) (d9 : decode cc (pc + 9) = .ok (.athrow, 1))
    (hout : ∀ x ∈ c.exceptionTable.toList, False) (hlocks : meth.locks = false) (h : postx E S) (hP : va_P D vwCl (w S) H)
    (hR1 : 5 < R.frames) (hR2 : (rest.map fun v => v.category).sum + 82 ≤ R.locals) (hR3 : cells + 1 ≤ R.cells) (hR4 : slots + 6 ≤ R.slots) (hc : cells + 1 ≤ mc) (hs : slots + 6 ≤ ms) :
    W p l e R s m args below meth c H locs cells slots (vx_MQ below Qc (xX D w postx A) args s mc ms A) (F0 m pc ls rest) := by
  obtain ⟨sa, hsa⟩ := hT.2.2.1 _ hstr
  refine vx_throwS (names := xNms) (text := text) (sa := sa) hx hb hl0 hown hfit (by decide +kernel) hk hini hsa (vx_hat hgood hnot (xW_use hT.2.2.2)) hok hT.1 hT.2.1 hS (by rw [hml]; exact hsize) d0 d3 d4 d6 d9 (fun x hx => (hout x hx).elim) hR1 hR2 hR3 hR4 hlocks (fun t _ hz ht => ⟨(E, S), h, ⟨rfl, ?_⟩, ?_⟩) hS.2.2 hc hs
  · exact hP.kept (fun k q hk => ht q.1 (hP k q hk).lt)
  · exact ⟨Nat.le_trans hS.1 hz, fun q h1 h2 => by rw [ht q (Nat.lt_of_lt_of_le h1 hS.1)]; exact hS.2.1 q h1 h2⟩
end GX
