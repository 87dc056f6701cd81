/-! THE CLAIM OUT OF ONE WALK OF THE LAW'S BODY. Your part is whole_start (and what it stands on); all else here is the same for every law, but numbers. -/
def R_law : String := "CanteenPlanLaw"
def lw_P (b : Addr) (xs : List Int32) (args : Array Value) (s : State) : Prop := args = #[.ref b] ∧ s.IntsAt b xs ∧ xs.length ≤ 2560 ∧ (Jvm.Cond.and given_1 narrow_1).before args s = true
def lw_Q (_ : Array Value) (s : State) (o : Outcome) (t : State) : Prop := o = .returned (some (.int 1)) ∧ Framed s o t [] 601024 7293034
def lw_Z (below : List Frame) (a : Array Value) (s : State) : State → Prop := fun t => ∃ o, t.status = .running ∧ Ended t below o ∧ lw_Q a s o t
/-- the law's own end, with 1 on the stack, nothing written that was there before, its room as the claim has it -/
theorem lw_ret {p : Program} {l : Launch} {e : Env} {s : State} {m : MethodId} {below : List Frame} {meth : Method} {c : Code} {b : Nat} (hx : p.tables.exec = Jvm.exec) (hb : c.code = code) (hr : meth.sig.returnType = ret) (hlocks : meth.locks = false) {pc : Nat} {H : Heap} {ls : Array Slot} (hdg : decode code pc = .ok (.ireturn, 1)) : W p l e room_1 s m #[Value.ref b] below meth c H [] 601024 7293034 (lw_Z below #[Value.ref b] s) (F0 m pc ls [.int 1]) := by
  intro T hT X
  obtain ⟨fs, hret, hrun, hended, hW, hframe⟩ := X.leave (v := some (.int 1)) (hlocks := hlocks) (fun h => by rw [hr] at h; cases h)
  have hmeth' : T.vm.method? m = some meth := X.method'
  refine ⟨T.setFrames fs, ?_, .returned (some (.int 1)), hrun, hended, rfl, ⟨_, rfl⟩, hW, hframe⟩
  jvm_step X.here [X.here.top, hx, hb, hdg, hmeth', hr, ret, narrow_b1]
  (try refine ⟨rfl, ?_⟩); (try refine ⟨rfl, ?_⟩)
  first | (intro acts; rw [hret _ acts rfl rfl rfl]) | rw [hret _ _ rfl rfl rfl]
  exact Steps.refl _
/-- what holds at the law's entry: the machine, the code, the tables' words (any of lw_tbl by 'hts w (by decide +kernel)'), the script of L ints xs at the cell b, what the Statement gives of the start (any of its parts by flat_of_before) -/
def lw_At (p : Program) (s : State) (m : MethodId) (meth : Method) (c : Code) (b L : Nat) (xs : Nat → Int32) : Prop :=
  p.tables.exec = Jvm.exec ∧ c.code = code ∧ meth.sig.returnType = ret ∧ c.maxLocals = 8 ∧ s.vm.findClass R_law = some m.cls ∧ (∀ w ∈ lw_tbl, w.before #[Value.ref b] s = true) ∧ va_X b L xs s s.heap ∧ b < s.heap.size ∧ meth.locks = false ∧ (Jvm.Cond.and given_1 narrow_1).before #[Value.ref b] s = true
/-! the law: its context, its calls -/
theorem lP.of {D : va_G} {a : Nat → Nat} {c : Nat → ClassId} {o : Nat} {co : ClassId} {u : Lo} {H : Heap} {locs : List Loc} {s U : State} {A : Nat → Prop} (hU : U.heap = H) (hW : s.WarmedH U.vm) (hP : va_P D vwCl (ww a c o co u) H) (hK : va_K D vwCl (wty c co) s) (hD : va_D A (ww a c o co u)) (hN : gN cns s) (hT : xT A s s.heap) (hC : xC s) (hS : va_S A s.heap H locs) (hA : ∀ q, s.heap.size ≤ q → A q) : lP D a c o co u H.size U :=
  ⟨by rw [hU], by rw [hU]; exact hP, va_K.moved hW.alike hK, hD.weaken (fun _ _ _ _ => trivial), hN.warm cns_ok hW, by rw [hU]; exact hT.of hS (gFreeL (X := []) hS hD hA) hW, fun z hz => va_Nc.moved hW.alike (hC z hz)⟩
section LR
variable {p : Program} {l : Launch} {e : Env} {R : Room} {s : State} {m : MethodId} {args : Array Value} {below : List Frame} {meth : Method} {c9 : Code} {H : Heap} {locs : List Loc} {cells slots mc ms : Nat} {Q : State → Prop}
variable {y : MethodName} {bytes cc : ByteArray} {maxL nL n index : Nat} {ret : Option FieldType} {hh : List (Nat × Nat × Nat × Nat)} {ws : List Cond} {rm : Room} {Qc : Array Value → State → Outcome → State → Prop} {Ts : List Cond} {own C : String} {b : Addr} {As rest : List Value} {g : JFrame}
variable {D : va_G} {a : Nat → Nat} {c : Nat → ClassId} {o : Nat} {co : ClassId} {u : Lo} {A : Nat → Prop}
theorem l_runS (S0 : CallFix p m c9 cc nL s args Ts own) (hM : Met l y ws rm (va_Pc As (lP D a c o co u H.size)) Qc mc ms (va_A (ww a c o co u) H.size)) (cw : vx_CSW R s args own index y bytes maxL ret hh ws rm mc ms n)
    (hP : va_P D vwCl (ww a c o co u) H) (hK : va_K D vwCl (wty c co) s) (hD : va_D A (ww a c o co u)) (hN : gN cns s) (hT : xT A s s.heap) (hC : xC s) (hS : va_S A s.heap H locs) (hA : ∀ q, s.heap.size ≤ q → A q)
    (hg : g.method = m) (hl : As.length = n) (hsize : g.locals.size = nL) (hstack : g.stack = As.reverse ++ rest) (hW : 2 * g.monitorRoom + (rest.map fun v => v.category).sum ≤ 8) (hdg : decode cc g.pc = .ok (.invokestatic index, 3)) (hf : cells + mc ≤ R.cells ∧ slots + ms ≤ R.slots) :
    va_Run p l e R s m args below meth c9 H locs cells slots mc ms g rest (Qc As.toArray) (va_A (ww a c o co u) H.size) :=
  vx_runSW S0 hM cw ⟨lP.blind, fun U hU hW => ⟨rfl, lP.of hU hW hP hK hD hN hT hC hS hA⟩⟩ hg hl hsize hstack hW hdg hf
end LR
theorem lg_same (x : Int64) : lg_cmp x x = 0 := by simp [lg_cmp]
abbrev lA (s : State) : Nat → Prop := fun q => s.heap.size ≤ q
def LawE (p : Program) (l : Launch) (s : State) (m : MethodId) (meth : Method) (c9 : Code) (b L : Nat) (xs : Nat → Int32) (D : va_G) (a : Nat → Nat) (c : Nat → ClassId) (o : Nat) (co : ClassId) (a2 : Nat → Nat) (c2 : Nat → ClassId) : Prop :=
  lw_At p s m meth c9 b L xs ∧ l.stackTraces = false ∧ va_K D vwCl (wty c co) s ∧ va_K D vwCl (mty c2) s ∧ gN cns s ∧ xT (lA s) s s.heap ∧ xC s ∧ ∀ (u : Lo) (M : St), va_D (lA s) (ww a c o co u ++ mw a2 c2 M)
def Q_meal (Rel : St → St → Prop) (p0 : Int32) (p1 : Int32) (M : St) (k : Int32) (v : Int64) (S1 : St) : Prop := ∃ n : Nat, PX6_meal n p0 p1 M (fun b M1 => M1.1 0 = k ∧ (k = 0 → v = b.toInt64) ∧ Rel S1 M1)
def Op_meal (Rel : St → St → Prop) : Prop := ∀ (S M : St) (p0 : Int32) (p1 : Int32) (v : Int64), Rel S M → PX5_meal p0 p1 S (fun r S1 => Q_meal Rel p0 p1 M 0 r.toInt64 S1) (fun E S1 => (E = "java/lang/IllegalArgumentException" ∧ Q_meal Rel p0 p1 M 1 v S1) ∨ (E = "java/lang/IllegalStateException" ∧ Q_meal Rel p0 p1 M 2 v S1))
set_option maxHeartbeats 4000000 in
set_option maxRecDepth 100000 in
theorem law_0 {p : Program} {l : Launch} {e : Env} {s : State} {m : MethodId} {below : List Frame} {meth : Method} {c9 : Code} {b L : Nat} {xs : Nat → Int32} {D : va_G} {a : Nat → Nat} {c : Nat → ClassId} {o : Nat} {co : ClassId} {a2 : Nat → Nat} {c2 : Nat → ClassId} {Q : State → Prop} {Rel : St → St → Prop} (E0 : LawE p l s m meth c9 b L xs D a c o co a2 c2) (op : Op_meal Rel) (x4 : Int32) (hin1 : vp_in (x4 + 1) L) (hin2 : vp_in (x4 + 2) L) (hin3 : vp_in (x4 + 3) L) (hin4 : vp_in (x4 + 4) L) (cells slots : Nat) (hcl : cells + 4 ≤ 601024) (hsl : slots + 24 ≤ 7293034)
    (hk : ∀ (u : Lo) (M : St) (H : Heap) (locs : List Loc) (ls : Array Slot), Rel u.1 M → va_P D vwCl (ww a c o co u ++ mw a2 c2 M) H → va_S (lA s) s.heap H locs → lv_has ls 8 [(0, .ref b), (1, .ref (a 0)), (2, .ref (a2 0)), (3, .ref o), (4, .int x4)] → W p l e room_1 s m #[Value.ref b] below meth c9 H locs (cells + 4) (slots + 24) Q (F0 m 1169 ls []))
    (u : Lo) (M : St) (H : Heap) (locs : List Loc) (ls : Array Slot) (hR : Rel u.1 M) (hP : va_P D vwCl (ww a c o co u ++ mw a2 c2 M) H) (hS : va_S (lA s) s.heap H locs) (hl : lv_has ls 8 [(0, .ref b), (1, .ref (a 0)), (2, .ref (a2 0)), (3, .ref o), (4, .int x4)]) : W p l e room_1 s m #[Value.ref b] below meth c9 H locs cells slots Q (F0 m 124 ls []) := by
  obtain ⟨⟨hx, hb, hr, hml, hown, hts0, hX, hbl, hlocks, hgv⟩, hl0, hKw, hKm, hN, hT, hC, hD⟩ := E0
  have hts := fun w h => hts0 w (wsL_law_in w h)
  have hA : ∀ q : Nat, s.heap.size ≤ q → lA s q := fun _ h => h
  have hbA : ¬ lA s b := Nat.not_le.mpr hbl
  have hKc : va_K D vwCl (cty c) s := hKw.sub [0, 1, 2, 3, 4, 5, 6, 7, 8, 9, 10, 11, 12, 13, 14, 15, 16, 17] rfl
  have hf0c : cells + 0 ≤ 601024 := by omega
  have hf0s : slots + 0 ≤ 7293034 := by omega
  have hfc : ∀ z, z ≤ 4 → cells + z + 0 ≤ 601024 := fun z hz => by omega
  have hfs : ∀ z, z ≤ 24 → slots + z + 0 ≤ 7293034 := fun z hz => by omega
  refine lv_aload_n hx hb dL_law_124 rfl (lv_at hl 1 rfl) ?_
  refine lv_aload_n hx hb dL_law_125 rfl (lv_at hl 0 rfl) ?_
  refine lv_iload hx hb dL_law_126 (lv_at hl 4 rfl) ?_
  refine lv_iconst (v := 1) hx hb dL_law_128 (by decide) ?_
  refine lv_iadd hx hb dL_law_129 ?_
  refine va_sld hx hb hX hbl hbA hS hin1 dL_law_130 ?_
  refine lv_aload_n hx hb dL_law_131 rfl (lv_at hl 0 rfl) ?_
  refine lv_iload hx hb dL_law_132 (lv_at hl 4 rfl) ?_
  refine lv_iconst (v := 2) hx hb dL_law_134 (by decide) ?_
  refine lv_iadd hx hb dL_law_135 ?_
  refine va_sld hx hb hX hbl hbA hS hin2 dL_law_136 ?_
  refine lv_aload_n hx hb dL_law_137 rfl (lv_at hl 3 rfl) ?_
  refine z_iL (wf := ww a c o co) (l_runS (As := [.ref (a 0), .int (xs (x4 + 1).toNatClampNeg), .int (xs (x4 + 2).toNatClampNeg), .ref o]) (rest := []) ⟨hx, hb, hml, hown, hts⟩ (tL_meal l D a c o co _ (xs (x4 + 1).toNatClampNeg) (xs (x4 + 2).toNatClampNeg) u (fun k v => Q_meal Rel (xs (x4 + 1).toNatClampNeg) (xs (x4 + 2).toNatClampNeg) M k (v.2 0) v.1) hl0 (op u.1 M (xs (x4 + 1).toNatClampNeg) (xs (x4 + 2).toNatClampNeg) (u.2 0) hR)) (vx_cwSW 4 hts gL_law_L_meal rfl rfl rfl (by decide +kernel) ⟨Nat.le_of_ble_eq_true rfl, Nat.le_of_ble_eq_true rfl⟩) (P_left hP) hKw (D_left (hD u M)) hN hT hC hS hA rfl rfl hl.1 rfl (lv_room (Nat.le_of_ble_eq_true rfl)) dL_law_138 ⟨hfc 3 (by decide), hfs 18 (by decide)⟩) hS (hD u M) hP hA (fun k u1 H locs h hP hS => ?_)
  have hP : va_P D vwCl (ww a c o co u1 ++ mw a2 c2 M) H := hP
  obtain ⟨n6, h⟩ := h
  refine lv_istore (lv' := [(5, .int k), (0, .ref b), (1, .ref (a 0)), (2, .ref (a2 0)), (3, .ref o), (4, .int x4)]) hx hb dL_law_141 hl (by decide) rfl (fun ls hl => ?_)
  refine lv_aload_n hx hb dL_law_143 rfl (lv_at hl 3 rfl) ?_
  refine lv_aload_n hx hb dL_law_144 rfl (lv_at hl 1 rfl) ?_
  refine lv_iload hx hb dL_law_145 (lv_at hl 5 rfl) ?_
  refine lv_iconst (v := 1) hx hb dL_law_147 (by decide) ?_
  refine lv_iadd hx hb dL_law_148 ?_
  refine va_sld hx hb hX hbl hbA hS hin1 dL_law_149 ?_
  refine lv_aload_n hx hb dL_law_150 rfl (lv_at hl 1 rfl) ?_
  refine lv_iload hx hb dL_law_151 (lv_at hl 5 rfl) ?_
  refine lv_iconst (v := 2) hx hb dL_law_153 (by decide) ?_
  refine lv_iadd hx hb dL_law_154 ?_
  refine va_sld hx hb hX hbl hbA hS hin2 dL_law_155 ?_
  refine z_iR (wf := mw a2 c2) (k_runV mns_ok ⟨hx, hb, hml, hown, hts⟩ (tX6_meal l D a2 c2 _ n6 (xs (x4 + 1).toNatClampNeg) (xs (x4 + 2).toNatClampNeg) M _ h) (cwV 2 hts gL_law_X6_meal rfl rfl rfl (by decide +kernel) ⟨Nat.le_of_ble_eq_true rfl, Nat.le_of_ble_eq_true rfl⟩) (va_recv hKm (P_right hP) (ci := 6) (q0 := 0) rfl rfl) (P_right hP) hKm (D_right (hD u1 M)) (fun w hw => absurd hw List.not_mem_nil) rfl rfl hl.1 rfl (lv_room (Nat.le_of_ble_eq_true rfl)) dL_law_156 ⟨hfc 3 (by decide), hfs 18 (by decide)⟩) hS (hD u1 M) hP hA (fun bi M1 H locs h hP hS => ?_)
  refine lv_istore (lv' := [(6, .int bi), (5, .int k), (0, .ref b), (1, .ref (a 0)), (2, .ref (a2 0)), (3, .ref o), (4, .int x4)]) hx hb dL_law_159 hl (by decide) rfl (fun ls hl => ?_)
  refine lv_aload_n hx hb dL_law_161 rfl (lv_at hl 4 rfl) ?_
  refine z_iR (wf := mw a2 c2) (k_runV mns_ok ⟨hx, hb, hml, hown, hts⟩ (tX6_thrown l D a2 c2 _ M1 (fun r M2 => r = M1.1 0 ∧ M2 = M1) (by unfold PX6_thrown; exact ⟨rfl, rfl⟩)) (cwV 0 hts gL_law_X6_thrown rfl rfl rfl (by decide +kernel) ⟨Nat.le_of_ble_eq_true rfl, Nat.le_of_ble_eq_true rfl⟩) (va_recv hKm (P_right hP) (ci := 6) (q0 := 0) rfl rfl) (P_right hP) hKm (D_right (hD u1 M1)) (fun w hw => absurd hw List.not_mem_nil) rfl rfl hl.1 rfl (lv_room (Nat.le_of_ble_eq_true rfl)) dL_law_162 ⟨hfc 3 (by decide), hfs 18 (by decide)⟩) hS (hD u1 M1) hP hA (fun t9 M2 H locs ht9 hP hS => ?_)
  obtain ⟨et9, eM9⟩ := ht9
  rw [eM9] at hP
  refine lv_iload hx hb dL_law_165 (lv_at hl 1 rfl) ?_
  refine lv_icmp_eq (tgt := 172) hx hb dL_law_167 (by decide) (fun c1 => ?_) (fun c1 => absurd (by rw [et9]; exact h.1) c1)
  refine lv_iload hx hb dL_law_172 (lv_at hl 1 rfl) ?_
  refine lv_if_ne (tgt := 189) hx hb dL_law_174 (by decide) (fun c2 => ?_) (fun c2 => ?_)
  · refine lv_goto (tgt := 1169) hx hb dL_law_189 (by decide) ?_
    refine W.widen (k := cells + 4) (n := slots + 24) (by omega) (by omega) ?_
    exact hk u1 M1 _ _ ls h.2.2 hP hS (lv_sub hl [2, 3, 4, 5, 6] rfl)
  · have h2 := h.2.1 c2
    refine lv_aload_n hx hb dL_law_177 rfl (lv_at hl 5 rfl) ?_
    refine lv_iconst (v := 0) hx hb dL_law_178 (by decide) ?_
    refine va_lald (D := D) (f := u1.2) hx hb hKw (P_left hP) 24 18 rfl rfl in01 dL_law_179 ?_
    refine lv_iload hx hb dL_law_180 (lv_at hl 0 rfl) ?_
    refine lv_i2l hx hb dL_law_182 rfl ?_
    refine W.lcmp hx hb dL_law_183 ?_
    refine lv_if_eq (tgt := 189) hx hb dL_law_184 (by decide) (fun _ => ?_) (fun c3 => absurd (by show lg_cmp (u1.2 0) _ = 0; rw [h2]; exact lg_same _) c3)
    refine lv_goto (tgt := 1169) hx hb dL_law_189 (by decide) ?_
    refine W.widen (k := cells + 4) (n := slots + 24) (by omega) (by omega) ?_
    exact hk u1 M1 _ _ ls h.2.2 hP hS (lv_sub hl [2, 3, 4, 5, 6] rfl)
def Q_ate (Rel : St → St → Prop) (p0 : Int32) (p1 : Int32) (M : St) (k : Int32) (v : Int64) (S1 : St) : Prop := ∃ n : Nat, PX6_ate n p0 p1 M (fun b M1 => M1.1 0 = k ∧ (k = 0 → v = b.toInt64) ∧ Rel S1 M1)
def Op_ate (Rel : St → St → Prop) : Prop := ∀ (S M : St) (p0 : Int32) (p1 : Int32) (v : Int64), Rel S M → PX5_ate p0 p1 S (fun r S1 => Q_ate Rel p0 p1 M 0 r.toInt64 S1) (fun E S1 => (E = "java/lang/IndexOutOfBoundsException" ∧ Q_ate Rel p0 p1 M 1 v S1) ∨ (E = "java/lang/IllegalArgumentException" ∧ Q_ate Rel p0 p1 M 2 v S1))
set_option maxHeartbeats 4000000 in
set_option maxRecDepth 100000 in
theorem law_1 {p : Program} {l : Launch} {e : Env} {s : State} {m : MethodId} {below : List Frame} {meth : Method} {c9 : Code} {b L : Nat} {xs : Nat → Int32} {D : va_G} {a : Nat → Nat} {c : Nat → ClassId} {o : Nat} {co : ClassId} {a2 : Nat → Nat} {c2 : Nat → ClassId} {Q : State → Prop} {Rel : St → St → Prop} (E0 : LawE p l s m meth c9 b L xs D a c o co a2 c2) (op : Op_ate Rel) (x4 : Int32) (hin1 : vp_in (x4 + 1) L) (hin2 : vp_in (x4 + 2) L) (hin3 : vp_in (x4 + 3) L) (hin4 : vp_in (x4 + 4) L) (cells slots : Nat) (hcl : cells + 4 ≤ 601024) (hsl : slots + 24 ≤ 7293034)
    (hk : ∀ (u : Lo) (M : St) (H : Heap) (locs : List Loc) (ls : Array Slot), Rel u.1 M → va_P D vwCl (ww a c o co u ++ mw a2 c2 M) H → va_S (lA s) s.heap H locs → lv_has ls 8 [(0, .ref b), (1, .ref (a 0)), (2, .ref (a2 0)), (3, .ref o), (4, .int x4)] → W p l e room_1 s m #[Value.ref b] below meth c9 H locs (cells + 4) (slots + 24) Q (F0 m 1169 ls []))
    (u : Lo) (M : St) (H : Heap) (locs : List Loc) (ls : Array Slot) (hR : Rel u.1 M) (hP : va_P D vwCl (ww a c o co u ++ mw a2 c2 M) H) (hS : va_S (lA s) s.heap H locs) (hl : lv_has ls 8 [(0, .ref b), (1, .ref (a 0)), (2, .ref (a2 0)), (3, .ref o), (4, .int x4)]) : W p l e room_1 s m #[Value.ref b] below meth c9 H locs cells slots Q (F0 m 192 ls []) := by
  obtain ⟨⟨hx, hb, hr, hml, hown, hts0, hX, hbl, hlocks, hgv⟩, hl0, hKw, hKm, hN, hT, hC, hD⟩ := E0
  have hts := fun w h => hts0 w (wsL_law_in w h)
  have hA : ∀ q : Nat, s.heap.size ≤ q → lA s q := fun _ h => h
  have hbA : ¬ lA s b := Nat.not_le.mpr hbl
  have hKc : va_K D vwCl (cty c) s := hKw.sub [0, 1, 2, 3, 4, 5, 6, 7, 8, 9, 10, 11, 12, 13, 14, 15, 16, 17] rfl
  have hf0c : cells + 0 ≤ 601024 := by omega
  have hf0s : slots + 0 ≤ 7293034 := by omega
  have hfc : ∀ z, z ≤ 4 → cells + z + 0 ≤ 601024 := fun z hz => by omega
  have hfs : ∀ z, z ≤ 24 → slots + z + 0 ≤ 7293034 := fun z hz => by omega
  refine lv_aload_n hx hb dL_law_192 rfl (lv_at hl 1 rfl) ?_
  refine lv_aload_n hx hb dL_law_193 rfl (lv_at hl 0 rfl) ?_
  refine lv_iload hx hb dL_law_194 (lv_at hl 4 rfl) ?_
  refine lv_iconst (v := 1) hx hb dL_law_196 (by decide) ?_
  refine lv_iadd hx hb dL_law_197 ?_
  refine va_sld hx hb hX hbl hbA hS hin1 dL_law_198 ?_
  refine lv_aload_n hx hb dL_law_199 rfl (lv_at hl 0 rfl) ?_
  refine lv_iload hx hb dL_law_200 (lv_at hl 4 rfl) ?_
  refine lv_iconst (v := 2) hx hb dL_law_202 (by decide) ?_
  refine lv_iadd hx hb dL_law_203 ?_
  refine va_sld hx hb hX hbl hbA hS hin2 dL_law_204 ?_
  refine lv_aload_n hx hb dL_law_205 rfl (lv_at hl 3 rfl) ?_
  refine z_iL (wf := ww a c o co) (l_runS (As := [.ref (a 0), .int (xs (x4 + 1).toNatClampNeg), .int (xs (x4 + 2).toNatClampNeg), .ref o]) (rest := []) ⟨hx, hb, hml, hown, hts⟩ (tL_ate l D a c o co _ (xs (x4 + 1).toNatClampNeg) (xs (x4 + 2).toNatClampNeg) u (fun k v => Q_ate Rel (xs (x4 + 1).toNatClampNeg) (xs (x4 + 2).toNatClampNeg) M k (v.2 0) v.1) hl0 (op u.1 M (xs (x4 + 1).toNatClampNeg) (xs (x4 + 2).toNatClampNeg) (u.2 0) hR)) (vx_cwSW 4 hts gL_law_L_ate rfl rfl rfl (by decide +kernel) ⟨Nat.le_of_ble_eq_true rfl, Nat.le_of_ble_eq_true rfl⟩) (P_left hP) hKw (D_left (hD u M)) hN hT hC hS hA rfl rfl hl.1 rfl (lv_room (Nat.le_of_ble_eq_true rfl)) dL_law_206 ⟨hfc 2 (by decide), hfs 12 (by decide)⟩) hS (hD u M) hP hA (fun k u1 H locs h hP hS => ?_)
  have hP : va_P D vwCl (ww a c o co u1 ++ mw a2 c2 M) H := hP
  obtain ⟨n6, h⟩ := h
  refine lv_istore (lv' := [(5, .int k), (0, .ref b), (1, .ref (a 0)), (2, .ref (a2 0)), (3, .ref o), (4, .int x4)]) hx hb dL_law_209 hl (by decide) rfl (fun ls hl => ?_)
  refine lv_aload_n hx hb dL_law_211 rfl (lv_at hl 3 rfl) ?_
  refine lv_aload_n hx hb dL_law_212 rfl (lv_at hl 1 rfl) ?_
  refine lv_iload hx hb dL_law_213 (lv_at hl 5 rfl) ?_
  refine lv_iconst (v := 1) hx hb dL_law_215 (by decide) ?_
  refine lv_iadd hx hb dL_law_216 ?_
  refine va_sld hx hb hX hbl hbA hS hin1 dL_law_217 ?_
  refine lv_aload_n hx hb dL_law_218 rfl (lv_at hl 1 rfl) ?_
  refine lv_iload hx hb dL_law_219 (lv_at hl 5 rfl) ?_
  refine lv_iconst (v := 2) hx hb dL_law_221 (by decide) ?_
  refine lv_iadd hx hb dL_law_222 ?_
  refine va_sld hx hb hX hbl hbA hS hin2 dL_law_223 ?_
  refine z_iR (wf := mw a2 c2) (k_runV mns_ok ⟨hx, hb, hml, hown, hts⟩ (tX6_ate l D a2 c2 _ n6 (xs (x4 + 1).toNatClampNeg) (xs (x4 + 2).toNatClampNeg) M _ h) (cwV 2 hts gL_law_X6_ate rfl rfl rfl (by decide +kernel) ⟨Nat.le_of_ble_eq_true rfl, Nat.le_of_ble_eq_true rfl⟩) (va_recv hKm (P_right hP) (ci := 6) (q0 := 0) rfl rfl) (P_right hP) hKm (D_right (hD u1 M)) (fun w hw => absurd hw List.not_mem_nil) rfl rfl hl.1 rfl (lv_room (Nat.le_of_ble_eq_true rfl)) dL_law_224 ⟨hfc 2 (by decide), hfs 12 (by decide)⟩) hS (hD u1 M) hP hA (fun bi M1 H locs h hP hS => ?_)
  refine lv_istore (lv' := [(6, .int bi), (5, .int k), (0, .ref b), (1, .ref (a 0)), (2, .ref (a2 0)), (3, .ref o), (4, .int x4)]) hx hb dL_law_227 hl (by decide) rfl (fun ls hl => ?_)
  refine lv_aload_n hx hb dL_law_229 rfl (lv_at hl 4 rfl) ?_
  refine z_iR (wf := mw a2 c2) (k_runV mns_ok ⟨hx, hb, hml, hown, hts⟩ (tX6_thrown l D a2 c2 _ M1 (fun r M2 => r = M1.1 0 ∧ M2 = M1) (by unfold PX6_thrown; exact ⟨rfl, rfl⟩)) (cwV 0 hts gL_law_X6_thrown rfl rfl rfl (by decide +kernel) ⟨Nat.le_of_ble_eq_true rfl, Nat.le_of_ble_eq_true rfl⟩) (va_recv hKm (P_right hP) (ci := 6) (q0 := 0) rfl rfl) (P_right hP) hKm (D_right (hD u1 M1)) (fun w hw => absurd hw List.not_mem_nil) rfl rfl hl.1 rfl (lv_room (Nat.le_of_ble_eq_true rfl)) dL_law_230 ⟨hfc 2 (by decide), hfs 12 (by decide)⟩) hS (hD u1 M1) hP hA (fun t9 M2 H locs ht9 hP hS => ?_)
  obtain ⟨et9, eM9⟩ := ht9
  rw [eM9] at hP
  refine lv_iload hx hb dL_law_233 (lv_at hl 1 rfl) ?_
  refine lv_icmp_eq (tgt := 240) hx hb dL_law_235 (by decide) (fun c1 => ?_) (fun c1 => absurd (by rw [et9]; exact h.1) c1)
  refine lv_iload hx hb dL_law_240 (lv_at hl 1 rfl) ?_
  refine lv_if_ne (tgt := 257) hx hb dL_law_242 (by decide) (fun c2 => ?_) (fun c2 => ?_)
  · refine lv_goto (tgt := 1169) hx hb dL_law_257 (by decide) ?_
    refine W.widen (k := cells + 4) (n := slots + 24) (by omega) (by omega) ?_
    exact hk u1 M1 _ _ ls h.2.2 hP hS (lv_sub hl [2, 3, 4, 5, 6] rfl)
  · have h2 := h.2.1 c2
    refine lv_aload_n hx hb dL_law_245 rfl (lv_at hl 5 rfl) ?_
    refine lv_iconst (v := 0) hx hb dL_law_246 (by decide) ?_
    refine va_lald (D := D) (f := u1.2) hx hb hKw (P_left hP) 24 18 rfl rfl in01 dL_law_247 ?_
    refine lv_iload hx hb dL_law_248 (lv_at hl 0 rfl) ?_
    refine lv_i2l hx hb dL_law_250 rfl ?_
    refine W.lcmp hx hb dL_law_251 ?_
    refine lv_if_eq (tgt := 257) hx hb dL_law_252 (by decide) (fun _ => ?_) (fun c3 => absurd (by show lg_cmp (u1.2 0) _ = 0; rw [h2]; exact lg_same _) c3)
    refine lv_goto (tgt := 1169) hx hb dL_law_257 (by decide) ?_
    refine W.widen (k := cells + 4) (n := slots + 24) (by omega) (by omega) ?_
    exact hk u1 M1 _ _ ls h.2.2 hP hS (lv_sub hl [2, 3, 4, 5, 6] rfl)
def Q_day (Rel : St → St → Prop) (p0 : Int32) (M : St) (k : Int32) (v : Int64) (S1 : St) : Prop := ∃ n : Nat, PX6_day n p0 M (fun b M1 => M1.1 0 = k ∧ (k = 0 → v = b.toInt64) ∧ Rel S1 M1)
def Op_day (Rel : St → St → Prop) : Prop := ∀ (S M : St) (p0 : Int32) (v : Int64), Rel S M → PX5_day p0 S (fun r S1 => Q_day Rel p0 M 0 r.toInt64 S1) (fun E S1 => (E = "java/lang/IllegalArgumentException" ∧ Q_day Rel p0 M 1 v S1) ∨ (E = "java/lang/IllegalStateException" ∧ Q_day Rel p0 M 2 v S1))
set_option maxHeartbeats 4000000 in
set_option maxRecDepth 100000 in
theorem law_2 {p : Program} {l : Launch} {e : Env} {s : State} {m : MethodId} {below : List Frame} {meth : Method} {c9 : Code} {b L : Nat} {xs : Nat → Int32} {D : va_G} {a : Nat → Nat} {c : Nat → ClassId} {o : Nat} {co : ClassId} {a2 : Nat → Nat} {c2 : Nat → ClassId} {Q : State → Prop} {Rel : St → St → Prop} (E0 : LawE p l s m meth c9 b L xs D a c o co a2 c2) (op : Op_day Rel) (x4 : Int32) (hin1 : vp_in (x4 + 1) L) (hin2 : vp_in (x4 + 2) L) (hin3 : vp_in (x4 + 3) L) (hin4 : vp_in (x4 + 4) L) (cells slots : Nat) (hcl : cells + 4 ≤ 601024) (hsl : slots + 24 ≤ 7293034)
    (hk : ∀ (u : Lo) (M : St) (H : Heap) (locs : List Loc) (ls : Array Slot), Rel u.1 M → va_P D vwCl (ww a c o co u ++ mw a2 c2 M) H → va_S (lA s) s.heap H locs → lv_has ls 8 [(0, .ref b), (1, .ref (a 0)), (2, .ref (a2 0)), (3, .ref o), (4, .int x4)] → W p l e room_1 s m #[Value.ref b] below meth c9 H locs (cells + 4) (slots + 24) Q (F0 m 1169 ls []))
    (u : Lo) (M : St) (H : Heap) (locs : List Loc) (ls : Array Slot) (hR : Rel u.1 M) (hP : va_P D vwCl (ww a c o co u ++ mw a2 c2 M) H) (hS : va_S (lA s) s.heap H locs) (hl : lv_has ls 8 [(0, .ref b), (1, .ref (a 0)), (2, .ref (a2 0)), (3, .ref o), (4, .int x4)]) : W p l e room_1 s m #[Value.ref b] below meth c9 H locs cells slots Q (F0 m 260 ls []) := by
  obtain ⟨⟨hx, hb, hr, hml, hown, hts0, hX, hbl, hlocks, hgv⟩, hl0, hKw, hKm, hN, hT, hC, hD⟩ := E0
  have hts := fun w h => hts0 w (wsL_law_in w h)
  have hA : ∀ q : Nat, s.heap.size ≤ q → lA s q := fun _ h => h
  have hbA : ¬ lA s b := Nat.not_le.mpr hbl
  have hKc : va_K D vwCl (cty c) s := hKw.sub [0, 1, 2, 3, 4, 5, 6, 7, 8, 9, 10, 11, 12, 13, 14, 15, 16, 17] rfl
  have hf0c : cells + 0 ≤ 601024 := by omega
  have hf0s : slots + 0 ≤ 7293034 := by omega
  have hfc : ∀ z, z ≤ 4 → cells + z + 0 ≤ 601024 := fun z hz => by omega
  have hfs : ∀ z, z ≤ 24 → slots + z + 0 ≤ 7293034 := fun z hz => by omega
  refine lv_aload_n hx hb dL_law_260 rfl (lv_at hl 1 rfl) ?_
  refine lv_aload_n hx hb dL_law_261 rfl (lv_at hl 0 rfl) ?_
  refine lv_iload hx hb dL_law_262 (lv_at hl 4 rfl) ?_
  refine lv_iconst (v := 1) hx hb dL_law_264 (by decide) ?_
  refine lv_iadd hx hb dL_law_265 ?_
  refine va_sld hx hb hX hbl hbA hS hin1 dL_law_266 ?_
  refine lv_aload_n hx hb dL_law_267 rfl (lv_at hl 3 rfl) ?_
  refine z_iL (wf := ww a c o co) (l_runS (As := [.ref (a 0), .int (xs (x4 + 1).toNatClampNeg), .ref o]) (rest := []) ⟨hx, hb, hml, hown, hts⟩ (tL_day l D a c o co _ (xs (x4 + 1).toNatClampNeg) u (fun k v => Q_day Rel (xs (x4 + 1).toNatClampNeg) M k (v.2 0) v.1) hl0 (op u.1 M (xs (x4 + 1).toNatClampNeg) (u.2 0) hR)) (vx_cwSW 3 hts gL_law_L_day rfl rfl rfl (by decide +kernel) ⟨Nat.le_of_ble_eq_true rfl, Nat.le_of_ble_eq_true rfl⟩) (P_left hP) hKw (D_left (hD u M)) hN hT hC hS hA rfl rfl hl.1 rfl (lv_room (Nat.le_of_ble_eq_true rfl)) dL_law_268 ⟨hfc 2 (by decide), hfs 12 (by decide)⟩) hS (hD u M) hP hA (fun k u1 H locs h hP hS => ?_)
  have hP : va_P D vwCl (ww a c o co u1 ++ mw a2 c2 M) H := hP
  obtain ⟨n6, h⟩ := h
  refine lv_istore (lv' := [(5, .int k), (0, .ref b), (1, .ref (a 0)), (2, .ref (a2 0)), (3, .ref o), (4, .int x4)]) hx hb dL_law_271 hl (by decide) rfl (fun ls hl => ?_)
  refine lv_aload_n hx hb dL_law_273 rfl (lv_at hl 3 rfl) ?_
  refine lv_aload_n hx hb dL_law_274 rfl (lv_at hl 1 rfl) ?_
  refine lv_iload hx hb dL_law_275 (lv_at hl 5 rfl) ?_
  refine lv_iconst (v := 1) hx hb dL_law_277 (by decide) ?_
  refine lv_iadd hx hb dL_law_278 ?_
  refine va_sld hx hb hX hbl hbA hS hin1 dL_law_279 ?_
  refine z_iR (wf := mw a2 c2) (k_runV mns_ok ⟨hx, hb, hml, hown, hts⟩ (tX6_day l D a2 c2 _ n6 (xs (x4 + 1).toNatClampNeg) M _ h) (cwV 1 hts gL_law_X6_day rfl rfl rfl (by decide +kernel) ⟨Nat.le_of_ble_eq_true rfl, Nat.le_of_ble_eq_true rfl⟩) (va_recv hKm (P_right hP) (ci := 6) (q0 := 0) rfl rfl) (P_right hP) hKm (D_right (hD u1 M)) (fun w hw => absurd hw List.not_mem_nil) rfl rfl hl.1 rfl (lv_room (Nat.le_of_ble_eq_true rfl)) dL_law_280 ⟨hfc 2 (by decide), hfs 12 (by decide)⟩) hS (hD u1 M) hP hA (fun bi M1 H locs h hP hS => ?_)
  refine lv_istore (lv' := [(6, .int bi), (5, .int k), (0, .ref b), (1, .ref (a 0)), (2, .ref (a2 0)), (3, .ref o), (4, .int x4)]) hx hb dL_law_283 hl (by decide) rfl (fun ls hl => ?_)
  refine lv_aload_n hx hb dL_law_285 rfl (lv_at hl 4 rfl) ?_
  refine z_iR (wf := mw a2 c2) (k_runV mns_ok ⟨hx, hb, hml, hown, hts⟩ (tX6_thrown l D a2 c2 _ M1 (fun r M2 => r = M1.1 0 ∧ M2 = M1) (by unfold PX6_thrown; exact ⟨rfl, rfl⟩)) (cwV 0 hts gL_law_X6_thrown rfl rfl rfl (by decide +kernel) ⟨Nat.le_of_ble_eq_true rfl, Nat.le_of_ble_eq_true rfl⟩) (va_recv hKm (P_right hP) (ci := 6) (q0 := 0) rfl rfl) (P_right hP) hKm (D_right (hD u1 M1)) (fun w hw => absurd hw List.not_mem_nil) rfl rfl hl.1 rfl (lv_room (Nat.le_of_ble_eq_true rfl)) dL_law_286 ⟨hfc 2 (by decide), hfs 12 (by decide)⟩) hS (hD u1 M1) hP hA (fun t9 M2 H locs ht9 hP hS => ?_)
  obtain ⟨et9, eM9⟩ := ht9
  rw [eM9] at hP
  refine lv_iload hx hb dL_law_289 (lv_at hl 1 rfl) ?_
  refine lv_icmp_eq (tgt := 296) hx hb dL_law_291 (by decide) (fun c1 => ?_) (fun c1 => absurd (by rw [et9]; exact h.1) c1)
  refine lv_iload hx hb dL_law_296 (lv_at hl 1 rfl) ?_
  refine lv_if_ne (tgt := 313) hx hb dL_law_298 (by decide) (fun c2 => ?_) (fun c2 => ?_)
  · refine lv_goto (tgt := 1169) hx hb dL_law_313 (by decide) ?_
    refine W.widen (k := cells + 4) (n := slots + 24) (by omega) (by omega) ?_
    exact hk u1 M1 _ _ ls h.2.2 hP hS (lv_sub hl [2, 3, 4, 5, 6] rfl)
  · have h2 := h.2.1 c2
    refine lv_aload_n hx hb dL_law_301 rfl (lv_at hl 5 rfl) ?_
    refine lv_iconst (v := 0) hx hb dL_law_302 (by decide) ?_
    refine va_lald (D := D) (f := u1.2) hx hb hKw (P_left hP) 24 18 rfl rfl in01 dL_law_303 ?_
    refine lv_iload hx hb dL_law_304 (lv_at hl 0 rfl) ?_
    refine lv_i2l hx hb dL_law_306 rfl ?_
    refine W.lcmp hx hb dL_law_307 ?_
    refine lv_if_eq (tgt := 313) hx hb dL_law_308 (by decide) (fun _ => ?_) (fun c3 => absurd (by show lg_cmp (u1.2 0) _ = 0; rw [h2]; exact lg_same _) c3)
    refine lv_goto (tgt := 1169) hx hb dL_law_313 (by decide) ?_
    refine W.widen (k := cells + 4) (n := slots + 24) (by omega) (by omega) ?_
    exact hk u1 M1 _ _ ls h.2.2 hP hS (lv_sub hl [2, 3, 4, 5, 6] rfl)
def Q_drop (Rel : St → St → Prop) (p0 : Int32) (M : St) (k : Int32) (v : Int64) (S1 : St) : Prop := ∃ n : Nat, PX6_drop n p0 M (fun b M1 => M1.1 0 = k ∧ (k = 0 → v = (if b = 0 then 0 else 1)) ∧ Rel S1 M1)
def Op_drop (Rel : St → St → Prop) : Prop := ∀ (S M : St) (p0 : Int32) (v : Int64), Rel S M → PX5_drop p0 S (fun r S1 => Q_drop Rel p0 M 0 (if r = 0 then 0 else 1) S1) (fun E S1 => (E = "java/lang/IndexOutOfBoundsException" ∧ Q_drop Rel p0 M 1 v S1))
set_option maxHeartbeats 4000000 in
set_option maxRecDepth 100000 in
theorem law_3 {p : Program} {l : Launch} {e : Env} {s : State} {m : MethodId} {below : List Frame} {meth : Method} {c9 : Code} {b L : Nat} {xs : Nat → Int32} {D : va_G} {a : Nat → Nat} {c : Nat → ClassId} {o : Nat} {co : ClassId} {a2 : Nat → Nat} {c2 : Nat → ClassId} {Q : State → Prop} {Rel : St → St → Prop} (E0 : LawE p l s m meth c9 b L xs D a c o co a2 c2) (op : Op_drop Rel) (x4 : Int32) (hin1 : vp_in (x4 + 1) L) (hin2 : vp_in (x4 + 2) L) (hin3 : vp_in (x4 + 3) L) (hin4 : vp_in (x4 + 4) L) (cells slots : Nat) (hcl : cells + 4 ≤ 601024) (hsl : slots + 24 ≤ 7293034)
    (hk : ∀ (u : Lo) (M : St) (H : Heap) (locs : List Loc) (ls : Array Slot), Rel u.1 M → va_P D vwCl (ww a c o co u ++ mw a2 c2 M) H → va_S (lA s) s.heap H locs → lv_has ls 8 [(0, .ref b), (1, .ref (a 0)), (2, .ref (a2 0)), (3, .ref o), (4, .int x4)] → W p l e room_1 s m #[Value.ref b] below meth c9 H locs (cells + 4) (slots + 24) Q (F0 m 1169 ls []))
    (u : Lo) (M : St) (H : Heap) (locs : List Loc) (ls : Array Slot) (hR : Rel u.1 M) (hP : va_P D vwCl (ww a c o co u ++ mw a2 c2 M) H) (hS : va_S (lA s) s.heap H locs) (hl : lv_has ls 8 [(0, .ref b), (1, .ref (a 0)), (2, .ref (a2 0)), (3, .ref o), (4, .int x4)]) : W p l e room_1 s m #[Value.ref b] below meth c9 H locs cells slots Q (F0 m 316 ls []) := by
  obtain ⟨⟨hx, hb, hr, hml, hown, hts0, hX, hbl, hlocks, hgv⟩, hl0, hKw, hKm, hN, hT, hC, hD⟩ := E0
  have hts := fun w h => hts0 w (wsL_law_in w h)
  have hA : ∀ q : Nat, s.heap.size ≤ q → lA s q := fun _ h => h
  have hbA : ¬ lA s b := Nat.not_le.mpr hbl
  have hKc : va_K D vwCl (cty c) s := hKw.sub [0, 1, 2, 3, 4, 5, 6, 7, 8, 9, 10, 11, 12, 13, 14, 15, 16, 17] rfl
  have hf0c : cells + 0 ≤ 601024 := by omega
  have hf0s : slots + 0 ≤ 7293034 := by omega
  have hfc : ∀ z, z ≤ 4 → cells + z + 0 ≤ 601024 := fun z hz => by omega
  have hfs : ∀ z, z ≤ 24 → slots + z + 0 ≤ 7293034 := fun z hz => by omega
  refine lv_aload_n hx hb dL_law_316 rfl (lv_at hl 1 rfl) ?_
  refine lv_aload_n hx hb dL_law_317 rfl (lv_at hl 0 rfl) ?_
  refine lv_iload hx hb dL_law_318 (lv_at hl 4 rfl) ?_
  refine lv_iconst (v := 1) hx hb dL_law_320 (by decide) ?_
  refine lv_iadd hx hb dL_law_321 ?_
  refine va_sld hx hb hX hbl hbA hS hin1 dL_law_322 ?_
  refine lv_aload_n hx hb dL_law_323 rfl (lv_at hl 3 rfl) ?_
  refine z_iL (wf := ww a c o co) (l_runS (As := [.ref (a 0), .int (xs (x4 + 1).toNatClampNeg), .ref o]) (rest := []) ⟨hx, hb, hml, hown, hts⟩ (tL_drop l D a c o co _ (xs (x4 + 1).toNatClampNeg) u (fun k v => Q_drop Rel (xs (x4 + 1).toNatClampNeg) M k (v.2 0) v.1) hl0 (op u.1 M (xs (x4 + 1).toNatClampNeg) (u.2 0) hR)) (vx_cwSW 3 hts gL_law_L_drop rfl rfl rfl (by decide +kernel) ⟨Nat.le_of_ble_eq_true rfl, Nat.le_of_ble_eq_true rfl⟩) (P_left hP) hKw (D_left (hD u M)) hN hT hC hS hA rfl rfl hl.1 rfl (lv_room (Nat.le_of_ble_eq_true rfl)) dL_law_324 ⟨hfc 1 (by decide), hfs 6 (by decide)⟩) hS (hD u M) hP hA (fun k u1 H locs h hP hS => ?_)
  have hP : va_P D vwCl (ww a c o co u1 ++ mw a2 c2 M) H := hP
  obtain ⟨n6, h⟩ := h
  refine lv_istore (lv' := [(5, .int k), (0, .ref b), (1, .ref (a 0)), (2, .ref (a2 0)), (3, .ref o), (4, .int x4)]) hx hb dL_law_327 hl (by decide) rfl (fun ls hl => ?_)
  refine lv_aload_n hx hb dL_law_329 rfl (lv_at hl 3 rfl) ?_
  refine lv_aload_n hx hb dL_law_330 rfl (lv_at hl 1 rfl) ?_
  refine lv_iload hx hb dL_law_331 (lv_at hl 5 rfl) ?_
  refine lv_iconst (v := 1) hx hb dL_law_333 (by decide) ?_
  refine lv_iadd hx hb dL_law_334 ?_
  refine va_sld hx hb hX hbl hbA hS hin1 dL_law_335 ?_
  refine z_iR (wf := mw a2 c2) (k_runV mns_ok ⟨hx, hb, hml, hown, hts⟩ (tX6_drop l D a2 c2 _ n6 (xs (x4 + 1).toNatClampNeg) M _ h) (cwV 1 hts gL_law_X6_drop rfl rfl rfl (by decide +kernel) ⟨Nat.le_of_ble_eq_true rfl, Nat.le_of_ble_eq_true rfl⟩) (va_recv hKm (P_right hP) (ci := 6) (q0 := 0) rfl rfl) (P_right hP) hKm (D_right (hD u1 M)) (fun w hw => absurd hw List.not_mem_nil) rfl rfl hl.1 rfl (lv_room (Nat.le_of_ble_eq_true rfl)) dL_law_336 ⟨hfc 1 (by decide), hfs 6 (by decide)⟩) hS (hD u1 M) hP hA (fun bi M1 H locs h hP hS => ?_)
  refine lv_istore (lv' := [(6, .int bi), (5, .int k), (0, .ref b), (1, .ref (a 0)), (2, .ref (a2 0)), (3, .ref o), (4, .int x4)]) hx hb dL_law_339 hl (by decide) rfl (fun ls hl => ?_)
  refine lv_aload_n hx hb dL_law_341 rfl (lv_at hl 4 rfl) ?_
  refine z_iR (wf := mw a2 c2) (k_runV mns_ok ⟨hx, hb, hml, hown, hts⟩ (tX6_thrown l D a2 c2 _ M1 (fun r M2 => r = M1.1 0 ∧ M2 = M1) (by unfold PX6_thrown; exact ⟨rfl, rfl⟩)) (cwV 0 hts gL_law_X6_thrown rfl rfl rfl (by decide +kernel) ⟨Nat.le_of_ble_eq_true rfl, Nat.le_of_ble_eq_true rfl⟩) (va_recv hKm (P_right hP) (ci := 6) (q0 := 0) rfl rfl) (P_right hP) hKm (D_right (hD u1 M1)) (fun w hw => absurd hw List.not_mem_nil) rfl rfl hl.1 rfl (lv_room (Nat.le_of_ble_eq_true rfl)) dL_law_342 ⟨hfc 1 (by decide), hfs 6 (by decide)⟩) hS (hD u1 M1) hP hA (fun t9 M2 H locs ht9 hP hS => ?_)
  obtain ⟨et9, eM9⟩ := ht9
  rw [eM9] at hP
  refine lv_iload hx hb dL_law_345 (lv_at hl 1 rfl) ?_
  refine lv_icmp_eq (tgt := 352) hx hb dL_law_347 (by decide) (fun c1 => ?_) (fun c1 => absurd (by rw [et9]; exact h.1) c1)
  refine lv_iload hx hb dL_law_352 (lv_at hl 1 rfl) ?_
  refine lv_if_ne (tgt := 376) hx hb dL_law_354 (by decide) (fun c2 => ?_) (fun c2 => ?_)
  · refine lv_goto (tgt := 1169) hx hb dL_law_376 (by decide) ?_
    refine W.widen (k := cells + 4) (n := slots + 24) (by omega) (by omega) ?_
    exact hk u1 M1 _ _ ls h.2.2 hP hS (lv_sub hl [2, 3, 4, 5, 6] rfl)
  · have h2 := h.2.1 c2
    refine lv_aload_n hx hb dL_law_357 rfl (lv_at hl 5 rfl) ?_
    refine lv_iconst (v := 0) hx hb dL_law_358 (by decide) ?_
    refine va_lald (D := D) (f := u1.2) hx hb hKw (P_left hP) 24 18 rfl rfl in01 dL_law_359 ?_
    refine lv_iload hx hb dL_law_360 (lv_at hl 0 rfl) ?_
    refine lv_if_eq (tgt := 369) hx hb dL_law_362 (by decide) (fun c4 => ?_) (fun c4 => ?_)
    · rw [if_pos c4] at h2
      refine lv_lconst (v := 0) hx hb dL_law_369 (by decide) ?_
      refine W.lcmp hx hb dL_law_370 ?_
      refine lv_if_eq (tgt := 376) hx hb dL_law_371 (by decide) (fun _ => ?_) (fun c3 => absurd (by show lg_cmp (u1.2 0) _ = 0; rw [h2]; exact lg_same _) c3)
      refine lv_goto (tgt := 1169) hx hb dL_law_376 (by decide) ?_
      refine W.widen (k := cells + 4) (n := slots + 24) (by omega) (by omega) ?_
      exact hk u1 M1 _ _ ls h.2.2 hP hS (lv_sub hl [2, 3, 4, 5, 6] rfl)
    · rw [if_neg c4] at h2
      refine lv_lconst (v := 1) hx hb dL_law_365 (by decide) ?_
      refine lv_goto (tgt := 370) hx hb dL_law_366 (by decide) ?_
      refine W.lcmp hx hb dL_law_370 ?_
      refine lv_if_eq (tgt := 376) hx hb dL_law_371 (by decide) (fun _ => ?_) (fun c3 => absurd (by show lg_cmp (u1.2 0) _ = 0; rw [h2]; exact lg_same _) c3)
      refine lv_goto (tgt := 1169) hx hb dL_law_376 (by decide) ?_
      refine W.widen (k := cells + 4) (n := slots + 24) (by omega) (by omega) ?_
      exact hk u1 M1 _ _ ls h.2.2 hP hS (lv_sub hl [2, 3, 4, 5, 6] rfl)
def Q_leaves (Rel : St → St → Prop) (p0 : Int32) (M : St) (k : Int32) (v : Int64) (S1 : St) : Prop := PX6_leaves p0 M (fun b M1 => M1.1 0 = k ∧ (k = 0 → v = b.toInt64) ∧ Rel S1 M1)
def Op_leaves (Rel : St → St → Prop) : Prop := ∀ (S M : St) (p0 : Int32) (v : Int64), Rel S M → PX5_leaves p0 S (fun r S1 => Q_leaves Rel p0 M 0 r.toInt64 S1) (fun E S1 => (E = "java/lang/IndexOutOfBoundsException" ∧ Q_leaves Rel p0 M 1 v S1))
set_option maxHeartbeats 4000000 in
set_option maxRecDepth 100000 in
theorem law_4 {p : Program} {l : Launch} {e : Env} {s : State} {m : MethodId} {below : List Frame} {meth : Method} {c9 : Code} {b L : Nat} {xs : Nat → Int32} {D : va_G} {a : Nat → Nat} {c : Nat → ClassId} {o : Nat} {co : ClassId} {a2 : Nat → Nat} {c2 : Nat → ClassId} {Q : State → Prop} {Rel : St → St → Prop} (E0 : LawE p l s m meth c9 b L xs D a c o co a2 c2) (op : Op_leaves Rel) (x4 : Int32) (hin1 : vp_in (x4 + 1) L) (hin2 : vp_in (x4 + 2) L) (hin3 : vp_in (x4 + 3) L) (hin4 : vp_in (x4 + 4) L) (cells slots : Nat) (hcl : cells + 4 ≤ 601024) (hsl : slots + 24 ≤ 7293034)
    (hk : ∀ (u : Lo) (M : St) (H : Heap) (locs : List Loc) (ls : Array Slot), Rel u.1 M → va_P D vwCl (ww a c o co u ++ mw a2 c2 M) H → va_S (lA s) s.heap H locs → lv_has ls 8 [(0, .ref b), (1, .ref (a 0)), (2, .ref (a2 0)), (3, .ref o), (4, .int x4)] → W p l e room_1 s m #[Value.ref b] below meth c9 H locs (cells + 4) (slots + 24) Q (F0 m 1169 ls []))
    (u : Lo) (M : St) (H : Heap) (locs : List Loc) (ls : Array Slot) (hR : Rel u.1 M) (hP : va_P D vwCl (ww a c o co u ++ mw a2 c2 M) H) (hS : va_S (lA s) s.heap H locs) (hl : lv_has ls 8 [(0, .ref b), (1, .ref (a 0)), (2, .ref (a2 0)), (3, .ref o), (4, .int x4)]) : W p l e room_1 s m #[Value.ref b] below meth c9 H locs cells slots Q (F0 m 379 ls []) := by
  obtain ⟨⟨hx, hb, hr, hml, hown, hts0, hX, hbl, hlocks, hgv⟩, hl0, hKw, hKm, hN, hT, hC, hD⟩ := E0
  have hts := fun w h => hts0 w (wsL_law_in w h)
  have hA : ∀ q : Nat, s.heap.size ≤ q → lA s q := fun _ h => h
  have hbA : ¬ lA s b := Nat.not_le.mpr hbl
  have hKc : va_K D vwCl (cty c) s := hKw.sub [0, 1, 2, 3, 4, 5, 6, 7, 8, 9, 10, 11, 12, 13, 14, 15, 16, 17] rfl
  have hf0c : cells + 0 ≤ 601024 := by omega
  have hf0s : slots + 0 ≤ 7293034 := by omega
  have hfc : ∀ z, z ≤ 4 → cells + z + 0 ≤ 601024 := fun z hz => by omega
  have hfs : ∀ z, z ≤ 24 → slots + z + 0 ≤ 7293034 := fun z hz => by omega
  refine lv_aload_n hx hb dL_law_379 rfl (lv_at hl 1 rfl) ?_
  refine lv_aload_n hx hb dL_law_380 rfl (lv_at hl 0 rfl) ?_
  refine lv_iload hx hb dL_law_381 (lv_at hl 4 rfl) ?_
  refine lv_iconst (v := 1) hx hb dL_law_383 (by decide) ?_
  refine lv_iadd hx hb dL_law_384 ?_
  refine va_sld hx hb hX hbl hbA hS hin1 dL_law_385 ?_
  refine lv_aload_n hx hb dL_law_386 rfl (lv_at hl 3 rfl) ?_
  refine z_iL (wf := ww a c o co) (l_runS (As := [.ref (a 0), .int (xs (x4 + 1).toNatClampNeg), .ref o]) (rest := []) ⟨hx, hb, hml, hown, hts⟩ (tL_leaves l D a c o co _ (xs (x4 + 1).toNatClampNeg) u (fun k v => Q_leaves Rel (xs (x4 + 1).toNatClampNeg) M k (v.2 0) v.1) hl0 (op u.1 M (xs (x4 + 1).toNatClampNeg) (u.2 0) hR)) (vx_cwSW 3 hts gL_law_L_leaves rfl rfl rfl (by decide +kernel) ⟨Nat.le_of_ble_eq_true rfl, Nat.le_of_ble_eq_true rfl⟩) (P_left hP) hKw (D_left (hD u M)) hN hT hC hS hA rfl rfl hl.1 rfl (lv_room (Nat.le_of_ble_eq_true rfl)) dL_law_387 ⟨hfc 1 (by decide), hfs 6 (by decide)⟩) hS (hD u M) hP hA (fun k u1 H locs h hP hS => ?_)
  have hP : va_P D vwCl (ww a c o co u1 ++ mw a2 c2 M) H := hP
  have h := h
  refine lv_istore (lv' := [(5, .int k), (0, .ref b), (1, .ref (a 0)), (2, .ref (a2 0)), (3, .ref o), (4, .int x4)]) hx hb dL_law_390 hl (by decide) rfl (fun ls hl => ?_)
  refine lv_aload_n hx hb dL_law_392 rfl (lv_at hl 3 rfl) ?_
  refine lv_aload_n hx hb dL_law_393 rfl (lv_at hl 1 rfl) ?_
  refine lv_iload hx hb dL_law_394 (lv_at hl 5 rfl) ?_
  refine lv_iconst (v := 1) hx hb dL_law_396 (by decide) ?_
  refine lv_iadd hx hb dL_law_397 ?_
  refine va_sld hx hb hX hbl hbA hS hin1 dL_law_398 ?_
  refine z_iR (wf := mw a2 c2) (k_runV mns_ok ⟨hx, hb, hml, hown, hts⟩ (tX6_leaves l D a2 c2 _ (xs (x4 + 1).toNatClampNeg) M _ h) (cwV 1 hts gL_law_X6_leaves rfl rfl rfl (by decide +kernel) ⟨Nat.le_of_ble_eq_true rfl, Nat.le_of_ble_eq_true rfl⟩) (va_recv hKm (P_right hP) (ci := 6) (q0 := 0) rfl rfl) (P_right hP) hKm (D_right (hD u1 M)) (fun w hw => absurd hw List.not_mem_nil) rfl rfl hl.1 rfl (lv_room (Nat.le_of_ble_eq_true rfl)) dL_law_399 ⟨hfc 1 (by decide), hfs 6 (by decide)⟩) hS (hD u1 M) hP hA (fun bi M1 H locs h hP hS => ?_)
  refine lv_istore (lv' := [(6, .int bi), (5, .int k), (0, .ref b), (1, .ref (a 0)), (2, .ref (a2 0)), (3, .ref o), (4, .int x4)]) hx hb dL_law_402 hl (by decide) rfl (fun ls hl => ?_)
  refine lv_aload_n hx hb dL_law_404 rfl (lv_at hl 4 rfl) ?_
  refine z_iR (wf := mw a2 c2) (k_runV mns_ok ⟨hx, hb, hml, hown, hts⟩ (tX6_thrown l D a2 c2 _ M1 (fun r M2 => r = M1.1 0 ∧ M2 = M1) (by unfold PX6_thrown; exact ⟨rfl, rfl⟩)) (cwV 0 hts gL_law_X6_thrown rfl rfl rfl (by decide +kernel) ⟨Nat.le_of_ble_eq_true rfl, Nat.le_of_ble_eq_true rfl⟩) (va_recv hKm (P_right hP) (ci := 6) (q0 := 0) rfl rfl) (P_right hP) hKm (D_right (hD u1 M1)) (fun w hw => absurd hw List.not_mem_nil) rfl rfl hl.1 rfl (lv_room (Nat.le_of_ble_eq_true rfl)) dL_law_405 ⟨hfc 1 (by decide), hfs 6 (by decide)⟩) hS (hD u1 M1) hP hA (fun t9 M2 H locs ht9 hP hS => ?_)
  obtain ⟨et9, eM9⟩ := ht9
  rw [eM9] at hP
  refine lv_iload hx hb dL_law_408 (lv_at hl 1 rfl) ?_
  refine lv_icmp_eq (tgt := 415) hx hb dL_law_410 (by decide) (fun c1 => ?_) (fun c1 => absurd (by rw [et9]; exact h.1) c1)
  refine lv_iload hx hb dL_law_415 (lv_at hl 1 rfl) ?_
  refine lv_if_ne (tgt := 432) hx hb dL_law_417 (by decide) (fun c2 => ?_) (fun c2 => ?_)
  · refine lv_goto (tgt := 1169) hx hb dL_law_432 (by decide) ?_
    refine W.widen (k := cells + 4) (n := slots + 24) (by omega) (by omega) ?_
    exact hk u1 M1 _ _ ls h.2.2 hP hS (lv_sub hl [2, 3, 4, 5, 6] rfl)
  · have h2 := h.2.1 c2
    refine lv_aload_n hx hb dL_law_420 rfl (lv_at hl 5 rfl) ?_
    refine lv_iconst (v := 0) hx hb dL_law_421 (by decide) ?_
    refine va_lald (D := D) (f := u1.2) hx hb hKw (P_left hP) 24 18 rfl rfl in01 dL_law_422 ?_
    refine lv_iload hx hb dL_law_423 (lv_at hl 0 rfl) ?_
    refine lv_i2l hx hb dL_law_425 rfl ?_
    refine W.lcmp hx hb dL_law_426 ?_
    refine lv_if_eq (tgt := 432) hx hb dL_law_427 (by decide) (fun _ => ?_) (fun c3 => absurd (by show lg_cmp (u1.2 0) _ = 0; rw [h2]; exact lg_same _) c3)
    refine lv_goto (tgt := 1169) hx hb dL_law_432 (by decide) ?_
    refine W.widen (k := cells + 4) (n := slots + 24) (by omega) (by omega) ?_
    exact hk u1 M1 _ _ ls h.2.2 hP hS (lv_sub hl [2, 3, 4, 5, 6] rfl)
def Q_split (Rel : St → St → Prop) (p0 : Int32) (p1 : Int32) (p2 : Int32) (M : St) (k : Int32) (v : Int64) (S1 : St) : Prop := PX6_split p0 p1 p2 M (fun b M1 => M1.1 0 = k ∧ (k = 0 → v = b.toInt64) ∧ Rel S1 M1)
def Op_split (Rel : St → St → Prop) : Prop := ∀ (S M : St) (p0 : Int32) (p1 : Int32) (p2 : Int32) (v : Int64), Rel S M → PX5_split p0 p1 p2 S (fun r S1 => Q_split Rel p0 p1 p2 M 0 r.toInt64 S1) (fun E S1 => (E = "java/lang/IndexOutOfBoundsException" ∧ Q_split Rel p0 p1 p2 M 1 v S1) ∨ (E = "java/lang/IllegalArgumentException" ∧ Q_split Rel p0 p1 p2 M 2 v S1))
set_option maxHeartbeats 4000000 in
set_option maxRecDepth 100000 in
theorem law_5 {p : Program} {l : Launch} {e : Env} {s : State} {m : MethodId} {below : List Frame} {meth : Method} {c9 : Code} {b L : Nat} {xs : Nat → Int32} {D : va_G} {a : Nat → Nat} {c : Nat → ClassId} {o : Nat} {co : ClassId} {a2 : Nat → Nat} {c2 : Nat → ClassId} {Q : State → Prop} {Rel : St → St → Prop} (E0 : LawE p l s m meth c9 b L xs D a c o co a2 c2) (op : Op_split Rel) (x4 : Int32) (hin1 : vp_in (x4 + 1) L) (hin2 : vp_in (x4 + 2) L) (hin3 : vp_in (x4 + 3) L) (hin4 : vp_in (x4 + 4) L) (cells slots : Nat) (hcl : cells + 4 ≤ 601024) (hsl : slots + 24 ≤ 7293034)
    (hk : ∀ (u : Lo) (M : St) (H : Heap) (locs : List Loc) (ls : Array Slot), Rel u.1 M → va_P D vwCl (ww a c o co u ++ mw a2 c2 M) H → va_S (lA s) s.heap H locs → lv_has ls 8 [(0, .ref b), (1, .ref (a 0)), (2, .ref (a2 0)), (3, .ref o), (4, .int x4)] → W p l e room_1 s m #[Value.ref b] below meth c9 H locs (cells + 4) (slots + 24) Q (F0 m 1169 ls []))
    (u : Lo) (M : St) (H : Heap) (locs : List Loc) (ls : Array Slot) (hR : Rel u.1 M) (hP : va_P D vwCl (ww a c o co u ++ mw a2 c2 M) H) (hS : va_S (lA s) s.heap H locs) (hl : lv_has ls 8 [(0, .ref b), (1, .ref (a 0)), (2, .ref (a2 0)), (3, .ref o), (4, .int x4)]) : W p l e room_1 s m #[Value.ref b] below meth c9 H locs cells slots Q (F0 m 435 ls []) := by
  obtain ⟨⟨hx, hb, hr, hml, hown, hts0, hX, hbl, hlocks, hgv⟩, hl0, hKw, hKm, hN, hT, hC, hD⟩ := E0
  have hts := fun w h => hts0 w (wsL_law_in w h)
  have hA : ∀ q : Nat, s.heap.size ≤ q → lA s q := fun _ h => h
  have hbA : ¬ lA s b := Nat.not_le.mpr hbl
  have hKc : va_K D vwCl (cty c) s := hKw.sub [0, 1, 2, 3, 4, 5, 6, 7, 8, 9, 10, 11, 12, 13, 14, 15, 16, 17] rfl
  have hf0c : cells + 0 ≤ 601024 := by omega
  have hf0s : slots + 0 ≤ 7293034 := by omega
  have hfc : ∀ z, z ≤ 4 → cells + z + 0 ≤ 601024 := fun z hz => by omega
  have hfs : ∀ z, z ≤ 24 → slots + z + 0 ≤ 7293034 := fun z hz => by omega
  refine lv_aload_n hx hb dL_law_435 rfl (lv_at hl 1 rfl) ?_
  refine lv_aload_n hx hb dL_law_436 rfl (lv_at hl 0 rfl) ?_
  refine lv_iload hx hb dL_law_437 (lv_at hl 4 rfl) ?_
  refine lv_iconst (v := 1) hx hb dL_law_439 (by decide) ?_
  refine lv_iadd hx hb dL_law_440 ?_
  refine va_sld hx hb hX hbl hbA hS hin1 dL_law_441 ?_
  refine lv_aload_n hx hb dL_law_442 rfl (lv_at hl 0 rfl) ?_
  refine lv_iload hx hb dL_law_443 (lv_at hl 4 rfl) ?_
  refine lv_iconst (v := 2) hx hb dL_law_445 (by decide) ?_
  refine lv_iadd hx hb dL_law_446 ?_
  refine va_sld hx hb hX hbl hbA hS hin2 dL_law_447 ?_
  refine lv_aload_n hx hb dL_law_448 rfl (lv_at hl 0 rfl) ?_
  refine lv_iload hx hb dL_law_449 (lv_at hl 4 rfl) ?_
  refine lv_iconst (v := 3) hx hb dL_law_451 (by decide) ?_
  refine lv_iadd hx hb dL_law_452 ?_
  refine va_sld hx hb hX hbl hbA hS hin3 dL_law_453 ?_
  refine lv_aload_n hx hb dL_law_454 rfl (lv_at hl 3 rfl) ?_
  refine z_iL (wf := ww a c o co) (l_runS (As := [.ref (a 0), .int (xs (x4 + 1).toNatClampNeg), .int (xs (x4 + 2).toNatClampNeg), .int (xs (x4 + 3).toNatClampNeg), .ref o]) (rest := []) ⟨hx, hb, hml, hown, hts⟩ (tL_split l D a c o co _ (xs (x4 + 1).toNatClampNeg) (xs (x4 + 2).toNatClampNeg) (xs (x4 + 3).toNatClampNeg) u (fun k v => Q_split Rel (xs (x4 + 1).toNatClampNeg) (xs (x4 + 2).toNatClampNeg) (xs (x4 + 3).toNatClampNeg) M k (v.2 0) v.1) hl0 (op u.1 M (xs (x4 + 1).toNatClampNeg) (xs (x4 + 2).toNatClampNeg) (xs (x4 + 3).toNatClampNeg) (u.2 0) hR)) (vx_cwSW 5 hts gL_law_L_split rfl rfl rfl (by decide +kernel) ⟨Nat.le_of_ble_eq_true rfl, Nat.le_of_ble_eq_true rfl⟩) (P_left hP) hKw (D_left (hD u M)) hN hT hC hS hA rfl rfl hl.1 rfl (lv_room (Nat.le_of_ble_eq_true rfl)) dL_law_455 ⟨hfc 2 (by decide), hfs 12 (by decide)⟩) hS (hD u M) hP hA (fun k u1 H locs h hP hS => ?_)
  have hP : va_P D vwCl (ww a c o co u1 ++ mw a2 c2 M) H := hP
  have h := h
  refine lv_istore (lv' := [(5, .int k), (0, .ref b), (1, .ref (a 0)), (2, .ref (a2 0)), (3, .ref o), (4, .int x4)]) hx hb dL_law_458 hl (by decide) rfl (fun ls hl => ?_)
  refine lv_aload_n hx hb dL_law_460 rfl (lv_at hl 3 rfl) ?_
  refine lv_aload_n hx hb dL_law_461 rfl (lv_at hl 1 rfl) ?_
  refine lv_iload hx hb dL_law_462 (lv_at hl 5 rfl) ?_
  refine lv_iconst (v := 1) hx hb dL_law_464 (by decide) ?_
  refine lv_iadd hx hb dL_law_465 ?_
  refine va_sld hx hb hX hbl hbA hS hin1 dL_law_466 ?_
  refine lv_aload_n hx hb dL_law_467 rfl (lv_at hl 1 rfl) ?_
  refine lv_iload hx hb dL_law_468 (lv_at hl 5 rfl) ?_
  refine lv_iconst (v := 2) hx hb dL_law_470 (by decide) ?_
  refine lv_iadd hx hb dL_law_471 ?_
  refine va_sld hx hb hX hbl hbA hS hin2 dL_law_472 ?_
  refine lv_aload_n hx hb dL_law_473 rfl (lv_at hl 1 rfl) ?_
  refine lv_iload hx hb dL_law_474 (lv_at hl 5 rfl) ?_
  refine lv_iconst (v := 3) hx hb dL_law_476 (by decide) ?_
  refine lv_iadd hx hb dL_law_477 ?_
  refine va_sld hx hb hX hbl hbA hS hin3 dL_law_478 ?_
  refine z_iR (wf := mw a2 c2) (k_runV mns_ok ⟨hx, hb, hml, hown, hts⟩ (tX6_split l D a2 c2 _ (xs (x4 + 1).toNatClampNeg) (xs (x4 + 2).toNatClampNeg) (xs (x4 + 3).toNatClampNeg) M _ h) (cwV 3 hts gL_law_X6_split rfl rfl rfl (by decide +kernel) ⟨Nat.le_of_ble_eq_true rfl, Nat.le_of_ble_eq_true rfl⟩) (va_recv hKm (P_right hP) (ci := 6) (q0 := 0) rfl rfl) (P_right hP) hKm (D_right (hD u1 M)) (fun w hw => absurd hw List.not_mem_nil) rfl rfl hl.1 rfl (lv_room (Nat.le_of_ble_eq_true rfl)) dL_law_479 ⟨hfc 2 (by decide), hfs 12 (by decide)⟩) hS (hD u1 M) hP hA (fun bi M1 H locs h hP hS => ?_)
  refine lv_istore (lv' := [(6, .int bi), (5, .int k), (0, .ref b), (1, .ref (a 0)), (2, .ref (a2 0)), (3, .ref o), (4, .int x4)]) hx hb dL_law_482 hl (by decide) rfl (fun ls hl => ?_)
  refine lv_aload_n hx hb dL_law_484 rfl (lv_at hl 4 rfl) ?_
  refine z_iR (wf := mw a2 c2) (k_runV mns_ok ⟨hx, hb, hml, hown, hts⟩ (tX6_thrown l D a2 c2 _ M1 (fun r M2 => r = M1.1 0 ∧ M2 = M1) (by unfold PX6_thrown; exact ⟨rfl, rfl⟩)) (cwV 0 hts gL_law_X6_thrown rfl rfl rfl (by decide +kernel) ⟨Nat.le_of_ble_eq_true rfl, Nat.le_of_ble_eq_true rfl⟩) (va_recv hKm (P_right hP) (ci := 6) (q0 := 0) rfl rfl) (P_right hP) hKm (D_right (hD u1 M1)) (fun w hw => absurd hw List.not_mem_nil) rfl rfl hl.1 rfl (lv_room (Nat.le_of_ble_eq_true rfl)) dL_law_485 ⟨hfc 2 (by decide), hfs 12 (by decide)⟩) hS (hD u1 M1) hP hA (fun t9 M2 H locs ht9 hP hS => ?_)
  obtain ⟨et9, eM9⟩ := ht9
  rw [eM9] at hP
  refine lv_iload hx hb dL_law_488 (lv_at hl 1 rfl) ?_
  refine lv_icmp_eq (tgt := 495) hx hb dL_law_490 (by decide) (fun c1 => ?_) (fun c1 => absurd (by rw [et9]; exact h.1) c1)
  refine lv_iload hx hb dL_law_495 (lv_at hl 1 rfl) ?_
  refine lv_if_ne (tgt := 512) hx hb dL_law_497 (by decide) (fun c2 => ?_) (fun c2 => ?_)
  · refine lv_goto (tgt := 1169) hx hb dL_law_512 (by decide) ?_
    refine W.widen (k := cells + 4) (n := slots + 24) (by omega) (by omega) ?_
    exact hk u1 M1 _ _ ls h.2.2 hP hS (lv_sub hl [2, 3, 4, 5, 6] rfl)
  · have h2 := h.2.1 c2
    refine lv_aload_n hx hb dL_law_500 rfl (lv_at hl 5 rfl) ?_
    refine lv_iconst (v := 0) hx hb dL_law_501 (by decide) ?_
    refine va_lald (D := D) (f := u1.2) hx hb hKw (P_left hP) 24 18 rfl rfl in01 dL_law_502 ?_
    refine lv_iload hx hb dL_law_503 (lv_at hl 0 rfl) ?_
    refine lv_i2l hx hb dL_law_505 rfl ?_
    refine W.lcmp hx hb dL_law_506 ?_
    refine lv_if_eq (tgt := 512) hx hb dL_law_507 (by decide) (fun _ => ?_) (fun c3 => absurd (by show lg_cmp (u1.2 0) _ = 0; rw [h2]; exact lg_same _) c3)
    refine lv_goto (tgt := 1169) hx hb dL_law_512 (by decide) ?_
    refine W.widen (k := cells + 4) (n := slots + 24) (by omega) (by omega) ?_
    exact hk u1 M1 _ _ ls h.2.2 hP hS (lv_sub hl [2, 3, 4, 5, 6] rfl)
def Q_leaf (Rel : St → St → Prop) (p0 : Int32) (p1 : Int32) (p2 : Int32) (M : St) (k : Int32) (v : Int64) (S1 : St) : Prop := ∃ n : Nat, PX6_leaf n p0 p1 p2 M (fun b M1 => M1.1 0 = k ∧ (k = 0 → v = b.toInt64) ∧ Rel S1 M1)
def Op_leaf (Rel : St → St → Prop) : Prop := ∀ (S M : St) (p0 : Int32) (p1 : Int32) (p2 : Int32) (v : Int64), Rel S M → PX5_leaf p0 p1 p2 S (fun r S1 => Q_leaf Rel p0 p1 p2 M 0 r.toInt64 S1) (fun E S1 => (E = "java/lang/IndexOutOfBoundsException" ∧ Q_leaf Rel p0 p1 p2 M 1 v S1) ∨ (E = "java/lang/IllegalArgumentException" ∧ Q_leaf Rel p0 p1 p2 M 2 v S1))
set_option maxHeartbeats 4000000 in
set_option maxRecDepth 100000 in
theorem law_6 {p : Program} {l : Launch} {e : Env} {s : State} {m : MethodId} {below : List Frame} {meth : Method} {c9 : Code} {b L : Nat} {xs : Nat → Int32} {D : va_G} {a : Nat → Nat} {c : Nat → ClassId} {o : Nat} {co : ClassId} {a2 : Nat → Nat} {c2 : Nat → ClassId} {Q : State → Prop} {Rel : St → St → Prop} (E0 : LawE p l s m meth c9 b L xs D a c o co a2 c2) (op : Op_leaf Rel) (x4 : Int32) (hin1 : vp_in (x4 + 1) L) (hin2 : vp_in (x4 + 2) L) (hin3 : vp_in (x4 + 3) L) (hin4 : vp_in (x4 + 4) L) (cells slots : Nat) (hcl : cells + 4 ≤ 601024) (hsl : slots + 24 ≤ 7293034)
    (hk : ∀ (u : Lo) (M : St) (H : Heap) (locs : List Loc) (ls : Array Slot), Rel u.1 M → va_P D vwCl (ww a c o co u ++ mw a2 c2 M) H → va_S (lA s) s.heap H locs → lv_has ls 8 [(0, .ref b), (1, .ref (a 0)), (2, .ref (a2 0)), (3, .ref o), (4, .int x4)] → W p l e room_1 s m #[Value.ref b] below meth c9 H locs (cells + 4) (slots + 24) Q (F0 m 1169 ls []))
    (u : Lo) (M : St) (H : Heap) (locs : List Loc) (ls : Array Slot) (hR : Rel u.1 M) (hP : va_P D vwCl (ww a c o co u ++ mw a2 c2 M) H) (hS : va_S (lA s) s.heap H locs) (hl : lv_has ls 8 [(0, .ref b), (1, .ref (a 0)), (2, .ref (a2 0)), (3, .ref o), (4, .int x4)]) : W p l e room_1 s m #[Value.ref b] below meth c9 H locs cells slots Q (F0 m 515 ls []) := by
  obtain ⟨⟨hx, hb, hr, hml, hown, hts0, hX, hbl, hlocks, hgv⟩, hl0, hKw, hKm, hN, hT, hC, hD⟩ := E0
  have hts := fun w h => hts0 w (wsL_law_in w h)
  have hA : ∀ q : Nat, s.heap.size ≤ q → lA s q := fun _ h => h
  have hbA : ¬ lA s b := Nat.not_le.mpr hbl
  have hKc : va_K D vwCl (cty c) s := hKw.sub [0, 1, 2, 3, 4, 5, 6, 7, 8, 9, 10, 11, 12, 13, 14, 15, 16, 17] rfl
  have hf0c : cells + 0 ≤ 601024 := by omega
  have hf0s : slots + 0 ≤ 7293034 := by omega
  have hfc : ∀ z, z ≤ 4 → cells + z + 0 ≤ 601024 := fun z hz => by omega
  have hfs : ∀ z, z ≤ 24 → slots + z + 0 ≤ 7293034 := fun z hz => by omega
  refine lv_aload_n hx hb dL_law_515 rfl (lv_at hl 1 rfl) ?_
  refine lv_aload_n hx hb dL_law_516 rfl (lv_at hl 0 rfl) ?_
  refine lv_iload hx hb dL_law_517 (lv_at hl 4 rfl) ?_
  refine lv_iconst (v := 1) hx hb dL_law_519 (by decide) ?_
  refine lv_iadd hx hb dL_law_520 ?_
  refine va_sld hx hb hX hbl hbA hS hin1 dL_law_521 ?_
  refine lv_aload_n hx hb dL_law_522 rfl (lv_at hl 0 rfl) ?_
  refine lv_iload hx hb dL_law_523 (lv_at hl 4 rfl) ?_
  refine lv_iconst (v := 2) hx hb dL_law_525 (by decide) ?_
  refine lv_iadd hx hb dL_law_526 ?_
  refine va_sld hx hb hX hbl hbA hS hin2 dL_law_527 ?_
  refine lv_aload_n hx hb dL_law_528 rfl (lv_at hl 0 rfl) ?_
  refine lv_iload hx hb dL_law_529 (lv_at hl 4 rfl) ?_
  refine lv_iconst (v := 3) hx hb dL_law_531 (by decide) ?_
  refine lv_iadd hx hb dL_law_532 ?_
  refine va_sld hx hb hX hbl hbA hS hin3 dL_law_533 ?_
  refine lv_aload_n hx hb dL_law_534 rfl (lv_at hl 3 rfl) ?_
  refine z_iL (wf := ww a c o co) (l_runS (As := [.ref (a 0), .int (xs (x4 + 1).toNatClampNeg), .int (xs (x4 + 2).toNatClampNeg), .int (xs (x4 + 3).toNatClampNeg), .ref o]) (rest := []) ⟨hx, hb, hml, hown, hts⟩ (tL_leaf l D a c o co _ (xs (x4 + 1).toNatClampNeg) (xs (x4 + 2).toNatClampNeg) (xs (x4 + 3).toNatClampNeg) u (fun k v => Q_leaf Rel (xs (x4 + 1).toNatClampNeg) (xs (x4 + 2).toNatClampNeg) (xs (x4 + 3).toNatClampNeg) M k (v.2 0) v.1) hl0 (op u.1 M (xs (x4 + 1).toNatClampNeg) (xs (x4 + 2).toNatClampNeg) (xs (x4 + 3).toNatClampNeg) (u.2 0) hR)) (vx_cwSW 5 hts gL_law_L_leaf rfl rfl rfl (by decide +kernel) ⟨Nat.le_of_ble_eq_true rfl, Nat.le_of_ble_eq_true rfl⟩) (P_left hP) hKw (D_left (hD u M)) hN hT hC hS hA rfl rfl hl.1 rfl (lv_room (Nat.le_of_ble_eq_true rfl)) dL_law_535 ⟨hfc 3 (by decide), hfs 18 (by decide)⟩) hS (hD u M) hP hA (fun k u1 H locs h hP hS => ?_)
  have hP : va_P D vwCl (ww a c o co u1 ++ mw a2 c2 M) H := hP
  obtain ⟨n6, h⟩ := h
  refine lv_istore (lv' := [(5, .int k), (0, .ref b), (1, .ref (a 0)), (2, .ref (a2 0)), (3, .ref o), (4, .int x4)]) hx hb dL_law_538 hl (by decide) rfl (fun ls hl => ?_)
  refine lv_aload_n hx hb dL_law_540 rfl (lv_at hl 3 rfl) ?_
  refine lv_aload_n hx hb dL_law_541 rfl (lv_at hl 1 rfl) ?_
  refine lv_iload hx hb dL_law_542 (lv_at hl 5 rfl) ?_
  refine lv_iconst (v := 1) hx hb dL_law_544 (by decide) ?_
  refine lv_iadd hx hb dL_law_545 ?_
  refine va_sld hx hb hX hbl hbA hS hin1 dL_law_546 ?_
  refine lv_aload_n hx hb dL_law_547 rfl (lv_at hl 1 rfl) ?_
  refine lv_iload hx hb dL_law_548 (lv_at hl 5 rfl) ?_
  refine lv_iconst (v := 2) hx hb dL_law_550 (by decide) ?_
  refine lv_iadd hx hb dL_law_551 ?_
  refine va_sld hx hb hX hbl hbA hS hin2 dL_law_552 ?_
  refine lv_aload_n hx hb dL_law_553 rfl (lv_at hl 1 rfl) ?_
  refine lv_iload hx hb dL_law_554 (lv_at hl 5 rfl) ?_
  refine lv_iconst (v := 3) hx hb dL_law_556 (by decide) ?_
  refine lv_iadd hx hb dL_law_557 ?_
  refine va_sld hx hb hX hbl hbA hS hin3 dL_law_558 ?_
  refine z_iR (wf := mw a2 c2) (k_runV mns_ok ⟨hx, hb, hml, hown, hts⟩ (tX6_leaf l D a2 c2 _ n6 (xs (x4 + 1).toNatClampNeg) (xs (x4 + 2).toNatClampNeg) (xs (x4 + 3).toNatClampNeg) M _ h) (cwV 3 hts gL_law_X6_leaf rfl rfl rfl (by decide +kernel) ⟨Nat.le_of_ble_eq_true rfl, Nat.le_of_ble_eq_true rfl⟩) (va_recv hKm (P_right hP) (ci := 6) (q0 := 0) rfl rfl) (P_right hP) hKm (D_right (hD u1 M)) (fun w hw => absurd hw List.not_mem_nil) rfl rfl hl.1 rfl (lv_room (Nat.le_of_ble_eq_true rfl)) dL_law_559 ⟨hfc 3 (by decide), hfs 18 (by decide)⟩) hS (hD u1 M) hP hA (fun bi M1 H locs h hP hS => ?_)
  refine lv_istore (lv' := [(6, .int bi), (5, .int k), (0, .ref b), (1, .ref (a 0)), (2, .ref (a2 0)), (3, .ref o), (4, .int x4)]) hx hb dL_law_562 hl (by decide) rfl (fun ls hl => ?_)
  refine lv_aload_n hx hb dL_law_564 rfl (lv_at hl 4 rfl) ?_
  refine z_iR (wf := mw a2 c2) (k_runV mns_ok ⟨hx, hb, hml, hown, hts⟩ (tX6_thrown l D a2 c2 _ M1 (fun r M2 => r = M1.1 0 ∧ M2 = M1) (by unfold PX6_thrown; exact ⟨rfl, rfl⟩)) (cwV 0 hts gL_law_X6_thrown rfl rfl rfl (by decide +kernel) ⟨Nat.le_of_ble_eq_true rfl, Nat.le_of_ble_eq_true rfl⟩) (va_recv hKm (P_right hP) (ci := 6) (q0 := 0) rfl rfl) (P_right hP) hKm (D_right (hD u1 M1)) (fun w hw => absurd hw List.not_mem_nil) rfl rfl hl.1 rfl (lv_room (Nat.le_of_ble_eq_true rfl)) dL_law_565 ⟨hfc 3 (by decide), hfs 18 (by decide)⟩) hS (hD u1 M1) hP hA (fun t9 M2 H locs ht9 hP hS => ?_)
  obtain ⟨et9, eM9⟩ := ht9
  rw [eM9] at hP
  refine lv_iload hx hb dL_law_568 (lv_at hl 1 rfl) ?_
  refine lv_icmp_eq (tgt := 575) hx hb dL_law_570 (by decide) (fun c1 => ?_) (fun c1 => absurd (by rw [et9]; exact h.1) c1)
  refine lv_iload hx hb dL_law_575 (lv_at hl 1 rfl) ?_
  refine lv_if_ne (tgt := 592) hx hb dL_law_577 (by decide) (fun c2 => ?_) (fun c2 => ?_)
  · refine lv_goto (tgt := 1169) hx hb dL_law_592 (by decide) ?_
    refine W.widen (k := cells + 4) (n := slots + 24) (by omega) (by omega) ?_
    exact hk u1 M1 _ _ ls h.2.2 hP hS (lv_sub hl [2, 3, 4, 5, 6] rfl)
  · have h2 := h.2.1 c2
    refine lv_aload_n hx hb dL_law_580 rfl (lv_at hl 5 rfl) ?_
    refine lv_iconst (v := 0) hx hb dL_law_581 (by decide) ?_
    refine va_lald (D := D) (f := u1.2) hx hb hKw (P_left hP) 24 18 rfl rfl in01 dL_law_582 ?_
    refine lv_iload hx hb dL_law_583 (lv_at hl 0 rfl) ?_
    refine lv_i2l hx hb dL_law_585 rfl ?_
    refine W.lcmp hx hb dL_law_586 ?_
    refine lv_if_eq (tgt := 592) hx hb dL_law_587 (by decide) (fun _ => ?_) (fun c3 => absurd (by show lg_cmp (u1.2 0) _ = 0; rw [h2]; exact lg_same _) c3)
    refine lv_goto (tgt := 1169) hx hb dL_law_592 (by decide) ?_
    refine W.widen (k := cells + 4) (n := slots + 24) (by omega) (by omega) ?_
    exact hk u1 M1 _ _ ls h.2.2 hP hS (lv_sub hl [2, 3, 4, 5, 6] rfl)
def Q_size (Rel : St → St → Prop) (p0 : Int32) (p1 : Int32) (M : St) (k : Int32) (v : Int64) (S1 : St) : Prop := ∃ n : Nat, PX6_size n p0 p1 M (fun b M1 => M1.1 0 = k ∧ (k = 0 → v = b.toInt64) ∧ Rel S1 M1)
def Op_size (Rel : St → St → Prop) : Prop := ∀ (S M : St) (p0 : Int32) (p1 : Int32) (v : Int64), Rel S M → PX5_size p0 p1 S (fun r S1 => Q_size Rel p0 p1 M 0 r.toInt64 S1) (fun E S1 => (E = "java/lang/IllegalArgumentException" ∧ Q_size Rel p0 p1 M 1 v S1) ∨ (E = "java/lang/IllegalStateException" ∧ Q_size Rel p0 p1 M 2 v S1))
set_option maxHeartbeats 4000000 in
set_option maxRecDepth 100000 in
theorem law_7 {p : Program} {l : Launch} {e : Env} {s : State} {m : MethodId} {below : List Frame} {meth : Method} {c9 : Code} {b L : Nat} {xs : Nat → Int32} {D : va_G} {a : Nat → Nat} {c : Nat → ClassId} {o : Nat} {co : ClassId} {a2 : Nat → Nat} {c2 : Nat → ClassId} {Q : State → Prop} {Rel : St → St → Prop} (E0 : LawE p l s m meth c9 b L xs D a c o co a2 c2) (op : Op_size Rel) (x4 : Int32) (hin1 : vp_in (x4 + 1) L) (hin2 : vp_in (x4 + 2) L) (hin3 : vp_in (x4 + 3) L) (hin4 : vp_in (x4 + 4) L) (cells slots : Nat) (hcl : cells + 4 ≤ 601024) (hsl : slots + 24 ≤ 7293034)
    (hk : ∀ (u : Lo) (M : St) (H : Heap) (locs : List Loc) (ls : Array Slot), Rel u.1 M → va_P D vwCl (ww a c o co u ++ mw a2 c2 M) H → va_S (lA s) s.heap H locs → lv_has ls 8 [(0, .ref b), (1, .ref (a 0)), (2, .ref (a2 0)), (3, .ref o), (4, .int x4)] → W p l e room_1 s m #[Value.ref b] below meth c9 H locs (cells + 4) (slots + 24) Q (F0 m 1169 ls []))
    (u : Lo) (M : St) (H : Heap) (locs : List Loc) (ls : Array Slot) (hR : Rel u.1 M) (hP : va_P D vwCl (ww a c o co u ++ mw a2 c2 M) H) (hS : va_S (lA s) s.heap H locs) (hl : lv_has ls 8 [(0, .ref b), (1, .ref (a 0)), (2, .ref (a2 0)), (3, .ref o), (4, .int x4)]) : W p l e room_1 s m #[Value.ref b] below meth c9 H locs cells slots Q (F0 m 595 ls []) := by
  obtain ⟨⟨hx, hb, hr, hml, hown, hts0, hX, hbl, hlocks, hgv⟩, hl0, hKw, hKm, hN, hT, hC, hD⟩ := E0
  have hts := fun w h => hts0 w (wsL_law_in w h)
  have hA : ∀ q : Nat, s.heap.size ≤ q → lA s q := fun _ h => h
  have hbA : ¬ lA s b := Nat.not_le.mpr hbl
  have hKc : va_K D vwCl (cty c) s := hKw.sub [0, 1, 2, 3, 4, 5, 6, 7, 8, 9, 10, 11, 12, 13, 14, 15, 16, 17] rfl
  have hf0c : cells + 0 ≤ 601024 := by omega
  have hf0s : slots + 0 ≤ 7293034 := by omega
  have hfc : ∀ z, z ≤ 4 → cells + z + 0 ≤ 601024 := fun z hz => by omega
  have hfs : ∀ z, z ≤ 24 → slots + z + 0 ≤ 7293034 := fun z hz => by omega
  refine lv_aload_n hx hb dL_law_595 rfl (lv_at hl 1 rfl) ?_
  refine lv_aload_n hx hb dL_law_596 rfl (lv_at hl 0 rfl) ?_
  refine lv_iload hx hb dL_law_597 (lv_at hl 4 rfl) ?_
  refine lv_iconst (v := 1) hx hb dL_law_599 (by decide) ?_
  refine lv_iadd hx hb dL_law_600 ?_
  refine va_sld hx hb hX hbl hbA hS hin1 dL_law_601 ?_
  refine lv_aload_n hx hb dL_law_602 rfl (lv_at hl 0 rfl) ?_
  refine lv_iload hx hb dL_law_603 (lv_at hl 4 rfl) ?_
  refine lv_iconst (v := 2) hx hb dL_law_605 (by decide) ?_
  refine lv_iadd hx hb dL_law_606 ?_
  refine va_sld hx hb hX hbl hbA hS hin2 dL_law_607 ?_
  refine lv_aload_n hx hb dL_law_608 rfl (lv_at hl 3 rfl) ?_
  refine z_iL (wf := ww a c o co) (l_runS (As := [.ref (a 0), .int (xs (x4 + 1).toNatClampNeg), .int (xs (x4 + 2).toNatClampNeg), .ref o]) (rest := []) ⟨hx, hb, hml, hown, hts⟩ (tL_size l D a c o co _ (xs (x4 + 1).toNatClampNeg) (xs (x4 + 2).toNatClampNeg) u (fun k v => Q_size Rel (xs (x4 + 1).toNatClampNeg) (xs (x4 + 2).toNatClampNeg) M k (v.2 0) v.1) hl0 (op u.1 M (xs (x4 + 1).toNatClampNeg) (xs (x4 + 2).toNatClampNeg) (u.2 0) hR)) (vx_cwSW 4 hts gL_law_L_size rfl rfl rfl (by decide +kernel) ⟨Nat.le_of_ble_eq_true rfl, Nat.le_of_ble_eq_true rfl⟩) (P_left hP) hKw (D_left (hD u M)) hN hT hC hS hA rfl rfl hl.1 rfl (lv_room (Nat.le_of_ble_eq_true rfl)) dL_law_609 ⟨hfc 3 (by decide), hfs 18 (by decide)⟩) hS (hD u M) hP hA (fun k u1 H locs h hP hS => ?_)
  have hP : va_P D vwCl (ww a c o co u1 ++ mw a2 c2 M) H := hP
  obtain ⟨n6, h⟩ := h
  refine lv_istore (lv' := [(5, .int k), (0, .ref b), (1, .ref (a 0)), (2, .ref (a2 0)), (3, .ref o), (4, .int x4)]) hx hb dL_law_612 hl (by decide) rfl (fun ls hl => ?_)
  refine lv_aload_n hx hb dL_law_614 rfl (lv_at hl 3 rfl) ?_
  refine lv_aload_n hx hb dL_law_615 rfl (lv_at hl 1 rfl) ?_
  refine lv_iload hx hb dL_law_616 (lv_at hl 5 rfl) ?_
  refine lv_iconst (v := 1) hx hb dL_law_618 (by decide) ?_
  refine lv_iadd hx hb dL_law_619 ?_
  refine va_sld hx hb hX hbl hbA hS hin1 dL_law_620 ?_
  refine lv_aload_n hx hb dL_law_621 rfl (lv_at hl 1 rfl) ?_
  refine lv_iload hx hb dL_law_622 (lv_at hl 5 rfl) ?_
  refine lv_iconst (v := 2) hx hb dL_law_624 (by decide) ?_
  refine lv_iadd hx hb dL_law_625 ?_
  refine va_sld hx hb hX hbl hbA hS hin2 dL_law_626 ?_
  refine z_iR (wf := mw a2 c2) (k_runV mns_ok ⟨hx, hb, hml, hown, hts⟩ (tX6_size l D a2 c2 _ n6 (xs (x4 + 1).toNatClampNeg) (xs (x4 + 2).toNatClampNeg) M _ h) (cwV 2 hts gL_law_X6_size rfl rfl rfl (by decide +kernel) ⟨Nat.le_of_ble_eq_true rfl, Nat.le_of_ble_eq_true rfl⟩) (va_recv hKm (P_right hP) (ci := 6) (q0 := 0) rfl rfl) (P_right hP) hKm (D_right (hD u1 M)) (fun w hw => absurd hw List.not_mem_nil) rfl rfl hl.1 rfl (lv_room (Nat.le_of_ble_eq_true rfl)) dL_law_627 ⟨hfc 3 (by decide), hfs 18 (by decide)⟩) hS (hD u1 M) hP hA (fun bi M1 H locs h hP hS => ?_)
  refine lv_istore (lv' := [(6, .int bi), (5, .int k), (0, .ref b), (1, .ref (a 0)), (2, .ref (a2 0)), (3, .ref o), (4, .int x4)]) hx hb dL_law_630 hl (by decide) rfl (fun ls hl => ?_)
  refine lv_aload_n hx hb dL_law_632 rfl (lv_at hl 4 rfl) ?_
  refine z_iR (wf := mw a2 c2) (k_runV mns_ok ⟨hx, hb, hml, hown, hts⟩ (tX6_thrown l D a2 c2 _ M1 (fun r M2 => r = M1.1 0 ∧ M2 = M1) (by unfold PX6_thrown; exact ⟨rfl, rfl⟩)) (cwV 0 hts gL_law_X6_thrown rfl rfl rfl (by decide +kernel) ⟨Nat.le_of_ble_eq_true rfl, Nat.le_of_ble_eq_true rfl⟩) (va_recv hKm (P_right hP) (ci := 6) (q0 := 0) rfl rfl) (P_right hP) hKm (D_right (hD u1 M1)) (fun w hw => absurd hw List.not_mem_nil) rfl rfl hl.1 rfl (lv_room (Nat.le_of_ble_eq_true rfl)) dL_law_633 ⟨hfc 3 (by decide), hfs 18 (by decide)⟩) hS (hD u1 M1) hP hA (fun t9 M2 H locs ht9 hP hS => ?_)
  obtain ⟨et9, eM9⟩ := ht9
  rw [eM9] at hP
  refine lv_iload hx hb dL_law_636 (lv_at hl 1 rfl) ?_
  refine lv_icmp_eq (tgt := 643) hx hb dL_law_638 (by decide) (fun c1 => ?_) (fun c1 => absurd (by rw [et9]; exact h.1) c1)
  refine lv_iload hx hb dL_law_643 (lv_at hl 1 rfl) ?_
  refine lv_if_ne (tgt := 660) hx hb dL_law_645 (by decide) (fun c2 => ?_) (fun c2 => ?_)
  · refine lv_goto (tgt := 1169) hx hb dL_law_660 (by decide) ?_
    refine W.widen (k := cells + 4) (n := slots + 24) (by omega) (by omega) ?_
    exact hk u1 M1 _ _ ls h.2.2 hP hS (lv_sub hl [2, 3, 4, 5, 6] rfl)
  · have h2 := h.2.1 c2
    refine lv_aload_n hx hb dL_law_648 rfl (lv_at hl 5 rfl) ?_
    refine lv_iconst (v := 0) hx hb dL_law_649 (by decide) ?_
    refine va_lald (D := D) (f := u1.2) hx hb hKw (P_left hP) 24 18 rfl rfl in01 dL_law_650 ?_
    refine lv_iload hx hb dL_law_651 (lv_at hl 0 rfl) ?_
    refine lv_i2l hx hb dL_law_653 rfl ?_
    refine W.lcmp hx hb dL_law_654 ?_
    refine lv_if_eq (tgt := 660) hx hb dL_law_655 (by decide) (fun _ => ?_) (fun c3 => absurd (by show lg_cmp (u1.2 0) _ = 0; rw [h2]; exact lg_same _) c3)
    refine lv_goto (tgt := 1169) hx hb dL_law_660 (by decide) ?_
    refine W.widen (k := cells + 4) (n := slots + 24) (by omega) (by omega) ?_
    exact hk u1 M1 _ _ ls h.2.2 hP hS (lv_sub hl [2, 3, 4, 5, 6] rfl)
def Q_prices (Rel : St → St → Prop) (p0 : Int32) (p1 : Int32) (M : St) (k : Int32) (v : Int64) (S1 : St) : Prop := ∃ n : Nat, PX6_prices n p0 p1 M (fun M1 => M1.1 0 = k ∧ Rel S1 M1)
def Op_prices (Rel : St → St → Prop) : Prop := ∀ (S M : St) (p0 : Int32) (p1 : Int32) (v : Int64), Rel S M → PX5_prices p0 p1 S (fun S1 => Q_prices Rel p0 p1 M 0 v S1) (fun E S1 => (E = "java/lang/IllegalArgumentException" ∧ Q_prices Rel p0 p1 M 1 v S1))
set_option maxHeartbeats 4000000 in
set_option maxRecDepth 100000 in
theorem law_8 {p : Program} {l : Launch} {e : Env} {s : State} {m : MethodId} {below : List Frame} {meth : Method} {c9 : Code} {b L : Nat} {xs : Nat → Int32} {D : va_G} {a : Nat → Nat} {c : Nat → ClassId} {o : Nat} {co : ClassId} {a2 : Nat → Nat} {c2 : Nat → ClassId} {Q : State → Prop} {Rel : St → St → Prop} (E0 : LawE p l s m meth c9 b L xs D a c o co a2 c2) (op : Op_prices Rel) (x4 : Int32) (hin1 : vp_in (x4 + 1) L) (hin2 : vp_in (x4 + 2) L) (hin3 : vp_in (x4 + 3) L) (hin4 : vp_in (x4 + 4) L) (cells slots : Nat) (hcl : cells + 4 ≤ 601024) (hsl : slots + 24 ≤ 7293034)
    (hk : ∀ (u : Lo) (M : St) (H : Heap) (locs : List Loc) (ls : Array Slot), Rel u.1 M → va_P D vwCl (ww a c o co u ++ mw a2 c2 M) H → va_S (lA s) s.heap H locs → lv_has ls 8 [(0, .ref b), (1, .ref (a 0)), (2, .ref (a2 0)), (3, .ref o), (4, .int x4)] → W p l e room_1 s m #[Value.ref b] below meth c9 H locs (cells + 4) (slots + 24) Q (F0 m 1169 ls []))
    (u : Lo) (M : St) (H : Heap) (locs : List Loc) (ls : Array Slot) (hR : Rel u.1 M) (hP : va_P D vwCl (ww a c o co u ++ mw a2 c2 M) H) (hS : va_S (lA s) s.heap H locs) (hl : lv_has ls 8 [(0, .ref b), (1, .ref (a 0)), (2, .ref (a2 0)), (3, .ref o), (4, .int x4)]) : W p l e room_1 s m #[Value.ref b] below meth c9 H locs cells slots Q (F0 m 663 ls []) := by
  obtain ⟨⟨hx, hb, hr, hml, hown, hts0, hX, hbl, hlocks, hgv⟩, hl0, hKw, hKm, hN, hT, hC, hD⟩ := E0
  have hts := fun w h => hts0 w (wsL_law_in w h)
  have hA : ∀ q : Nat, s.heap.size ≤ q → lA s q := fun _ h => h
  have hbA : ¬ lA s b := Nat.not_le.mpr hbl
  have hKc : va_K D vwCl (cty c) s := hKw.sub [0, 1, 2, 3, 4, 5, 6, 7, 8, 9, 10, 11, 12, 13, 14, 15, 16, 17] rfl
  have hf0c : cells + 0 ≤ 601024 := by omega
  have hf0s : slots + 0 ≤ 7293034 := by omega
  have hfc : ∀ z, z ≤ 4 → cells + z + 0 ≤ 601024 := fun z hz => by omega
  have hfs : ∀ z, z ≤ 24 → slots + z + 0 ≤ 7293034 := fun z hz => by omega
  refine lv_aload_n hx hb dL_law_663 rfl (lv_at hl 1 rfl) ?_
  refine lv_aload_n hx hb dL_law_664 rfl (lv_at hl 0 rfl) ?_
  refine lv_iload hx hb dL_law_665 (lv_at hl 4 rfl) ?_
  refine lv_iconst (v := 1) hx hb dL_law_667 (by decide) ?_
  refine lv_iadd hx hb dL_law_668 ?_
  refine va_sld hx hb hX hbl hbA hS hin1 dL_law_669 ?_
  refine lv_aload_n hx hb dL_law_670 rfl (lv_at hl 0 rfl) ?_
  refine lv_iload hx hb dL_law_671 (lv_at hl 4 rfl) ?_
  refine lv_iconst (v := 2) hx hb dL_law_673 (by decide) ?_
  refine lv_iadd hx hb dL_law_674 ?_
  refine va_sld hx hb hX hbl hbA hS hin2 dL_law_675 ?_
  refine z_iL (wf := ww a c o co) (l_runS (As := [.ref (a 0), .int (xs (x4 + 1).toNatClampNeg), .int (xs (x4 + 2).toNatClampNeg)]) (rest := []) ⟨hx, hb, hml, hown, hts⟩ (tL_prices l D a c o co _ (xs (x4 + 1).toNatClampNeg) (xs (x4 + 2).toNatClampNeg) u (fun k v => Q_prices Rel (xs (x4 + 1).toNatClampNeg) (xs (x4 + 2).toNatClampNeg) M k (v.2 0) v.1) hl0 (op u.1 M (xs (x4 + 1).toNatClampNeg) (xs (x4 + 2).toNatClampNeg) (u.2 0) hR)) (vx_cwSW 3 hts gL_law_L_prices rfl rfl rfl (by decide +kernel) ⟨Nat.le_of_ble_eq_true rfl, Nat.le_of_ble_eq_true rfl⟩) (P_left hP) hKw (D_left (hD u M)) hN hT hC hS hA rfl rfl hl.1 rfl (lv_room (Nat.le_of_ble_eq_true rfl)) dL_law_676 ⟨hfc 2 (by decide), hfs 12 (by decide)⟩) hS (hD u M) hP hA (fun k u1 H locs h hP hS => ?_)
  have hP : va_P D vwCl (ww a c o co u1 ++ mw a2 c2 M) H := hP
  obtain ⟨n6, h⟩ := h
  refine lv_istore (lv' := [(5, .int k), (0, .ref b), (1, .ref (a 0)), (2, .ref (a2 0)), (3, .ref o), (4, .int x4)]) hx hb dL_law_679 hl (by decide) rfl (fun ls hl => ?_)
  refine lv_aload_n hx hb dL_law_681 rfl (lv_at hl 3 rfl) ?_
  refine lv_aload_n hx hb dL_law_682 rfl (lv_at hl 1 rfl) ?_
  refine lv_iload hx hb dL_law_683 (lv_at hl 5 rfl) ?_
  refine lv_iconst (v := 1) hx hb dL_law_685 (by decide) ?_
  refine lv_iadd hx hb dL_law_686 ?_
  refine va_sld hx hb hX hbl hbA hS hin1 dL_law_687 ?_
  refine lv_aload_n hx hb dL_law_688 rfl (lv_at hl 1 rfl) ?_
  refine lv_iload hx hb dL_law_689 (lv_at hl 5 rfl) ?_
  refine lv_iconst (v := 2) hx hb dL_law_691 (by decide) ?_
  refine lv_iadd hx hb dL_law_692 ?_
  refine va_sld hx hb hX hbl hbA hS hin2 dL_law_693 ?_
  refine z_vR (wf := mw a2 c2) (k_runV mns_ok ⟨hx, hb, hml, hown, hts⟩ (tX6_prices l D a2 c2 _ n6 (xs (x4 + 1).toNatClampNeg) (xs (x4 + 2).toNatClampNeg) M _ h) (cwV 2 hts gL_law_X6_prices rfl rfl rfl (by decide +kernel) ⟨Nat.le_of_ble_eq_true rfl, Nat.le_of_ble_eq_true rfl⟩) (va_recv hKm (P_right hP) (ci := 6) (q0 := 0) rfl rfl) (P_right hP) hKm (D_right (hD u1 M)) (fun w hw => absurd hw List.not_mem_nil) rfl rfl hl.1 rfl (lv_room (Nat.le_of_ble_eq_true rfl)) dL_law_694 ⟨hfc 2 (by decide), hfs 12 (by decide)⟩) hS (hD u1 M) hP hA (fun M1 H locs h hP hS => ?_)
  refine lv_aload_n hx hb dL_law_697 rfl (lv_at hl 3 rfl) ?_
  refine z_iR (wf := mw a2 c2) (k_runV mns_ok ⟨hx, hb, hml, hown, hts⟩ (tX6_thrown l D a2 c2 _ M1 (fun r M2 => r = M1.1 0 ∧ M2 = M1) (by unfold PX6_thrown; exact ⟨rfl, rfl⟩)) (cwV 0 hts gL_law_X6_thrown rfl rfl rfl (by decide +kernel) ⟨Nat.le_of_ble_eq_true rfl, Nat.le_of_ble_eq_true rfl⟩) (va_recv hKm (P_right hP) (ci := 6) (q0 := 0) rfl rfl) (P_right hP) hKm (D_right (hD u1 M1)) (fun w hw => absurd hw List.not_mem_nil) rfl rfl hl.1 rfl (lv_room (Nat.le_of_ble_eq_true rfl)) dL_law_698 ⟨hfc 2 (by decide), hfs 12 (by decide)⟩) hS (hD u1 M1) hP hA (fun t9 M2 H locs ht9 hP hS => ?_)
  obtain ⟨et9, eM9⟩ := ht9
  rw [eM9] at hP
  refine lv_iload hx hb dL_law_701 (lv_at hl 0 rfl) ?_
  refine lv_icmp_eq (tgt := 708) hx hb dL_law_703 (by decide) (fun c1 => ?_) (fun c1 => absurd (by rw [et9]; exact h.1) c1)
  refine lv_goto (tgt := 1169) hx hb dL_law_708 (by decide) ?_
  refine W.widen (k := cells + 4) (n := slots + 24) (by omega) (by omega) ?_
  exact hk u1 M1 _ _ ls h.2 hP hS (lv_sub hl [1, 2, 3, 4, 5] rfl)
def Q_cost (Rel : St → St → Prop) (p0 : Int32) (p1 : Int32) (p2 : Int32) (M : St) (k : Int32) (v : Int64) (S1 : St) : Prop := PX6_cost p0 p1 p2 M (fun b M1 => M1.1 0 = k ∧ (k = 0 → v = b) ∧ Rel S1 M1)
def Op_cost (Rel : St → St → Prop) : Prop := ∀ (S M : St) (p0 : Int32) (p1 : Int32) (p2 : Int32) (v : Int64), Rel S M → PX5_cost p0 p1 p2 S (fun r S1 => Q_cost Rel p0 p1 p2 M 0 r S1) (fun E S1 => (E = "java/lang/IndexOutOfBoundsException" ∧ Q_cost Rel p0 p1 p2 M 1 v S1) ∨ (E = "java/lang/IllegalArgumentException" ∧ Q_cost Rel p0 p1 p2 M 2 v S1))
set_option maxHeartbeats 4000000 in
set_option maxRecDepth 100000 in
theorem law_9 {p : Program} {l : Launch} {e : Env} {s : State} {m : MethodId} {below : List Frame} {meth : Method} {c9 : Code} {b L : Nat} {xs : Nat → Int32} {D : va_G} {a : Nat → Nat} {c : Nat → ClassId} {o : Nat} {co : ClassId} {a2 : Nat → Nat} {c2 : Nat → ClassId} {Q : State → Prop} {Rel : St → St → Prop} (E0 : LawE p l s m meth c9 b L xs D a c o co a2 c2) (op : Op_cost Rel) (x4 : Int32) (hin1 : vp_in (x4 + 1) L) (hin2 : vp_in (x4 + 2) L) (hin3 : vp_in (x4 + 3) L) (hin4 : vp_in (x4 + 4) L) (cells slots : Nat) (hcl : cells + 4 ≤ 601024) (hsl : slots + 24 ≤ 7293034)
    (hk : ∀ (u : Lo) (M : St) (H : Heap) (locs : List Loc) (ls : Array Slot), Rel u.1 M → va_P D vwCl (ww a c o co u ++ mw a2 c2 M) H → va_S (lA s) s.heap H locs → lv_has ls 8 [(0, .ref b), (1, .ref (a 0)), (2, .ref (a2 0)), (3, .ref o), (4, .int x4)] → W p l e room_1 s m #[Value.ref b] below meth c9 H locs (cells + 4) (slots + 24) Q (F0 m 1169 ls []))
    (u : Lo) (M : St) (H : Heap) (locs : List Loc) (ls : Array Slot) (hR : Rel u.1 M) (hP : va_P D vwCl (ww a c o co u ++ mw a2 c2 M) H) (hS : va_S (lA s) s.heap H locs) (hl : lv_has ls 8 [(0, .ref b), (1, .ref (a 0)), (2, .ref (a2 0)), (3, .ref o), (4, .int x4)]) : W p l e room_1 s m #[Value.ref b] below meth c9 H locs cells slots Q (F0 m 711 ls []) := by
  obtain ⟨⟨hx, hb, hr, hml, hown, hts0, hX, hbl, hlocks, hgv⟩, hl0, hKw, hKm, hN, hT, hC, hD⟩ := E0
  have hts := fun w h => hts0 w (wsL_law_in w h)
  have hA : ∀ q : Nat, s.heap.size ≤ q → lA s q := fun _ h => h
  have hbA : ¬ lA s b := Nat.not_le.mpr hbl
  have hKc : va_K D vwCl (cty c) s := hKw.sub [0, 1, 2, 3, 4, 5, 6, 7, 8, 9, 10, 11, 12, 13, 14, 15, 16, 17] rfl
  have hf0c : cells + 0 ≤ 601024 := by omega
  have hf0s : slots + 0 ≤ 7293034 := by omega
  have hfc : ∀ z, z ≤ 4 → cells + z + 0 ≤ 601024 := fun z hz => by omega
  have hfs : ∀ z, z ≤ 24 → slots + z + 0 ≤ 7293034 := fun z hz => by omega
  refine lv_aload_n hx hb dL_law_711 rfl (lv_at hl 1 rfl) ?_
  refine lv_aload_n hx hb dL_law_712 rfl (lv_at hl 0 rfl) ?_
  refine lv_iload hx hb dL_law_713 (lv_at hl 4 rfl) ?_
  refine lv_iconst (v := 1) hx hb dL_law_715 (by decide) ?_
  refine lv_iadd hx hb dL_law_716 ?_
  refine va_sld hx hb hX hbl hbA hS hin1 dL_law_717 ?_
  refine lv_aload_n hx hb dL_law_718 rfl (lv_at hl 0 rfl) ?_
  refine lv_iload hx hb dL_law_719 (lv_at hl 4 rfl) ?_
  refine lv_iconst (v := 2) hx hb dL_law_721 (by decide) ?_
  refine lv_iadd hx hb dL_law_722 ?_
  refine va_sld hx hb hX hbl hbA hS hin2 dL_law_723 ?_
  refine lv_aload_n hx hb dL_law_724 rfl (lv_at hl 0 rfl) ?_
  refine lv_iload hx hb dL_law_725 (lv_at hl 4 rfl) ?_
  refine lv_iconst (v := 3) hx hb dL_law_727 (by decide) ?_
  refine lv_iadd hx hb dL_law_728 ?_
  refine va_sld hx hb hX hbl hbA hS hin3 dL_law_729 ?_
  refine lv_aload_n hx hb dL_law_730 rfl (lv_at hl 3 rfl) ?_
  refine z_iL (wf := ww a c o co) (l_runS (As := [.ref (a 0), .int (xs (x4 + 1).toNatClampNeg), .int (xs (x4 + 2).toNatClampNeg), .int (xs (x4 + 3).toNatClampNeg), .ref o]) (rest := []) ⟨hx, hb, hml, hown, hts⟩ (tL_cost l D a c o co _ (xs (x4 + 1).toNatClampNeg) (xs (x4 + 2).toNatClampNeg) (xs (x4 + 3).toNatClampNeg) u (fun k v => Q_cost Rel (xs (x4 + 1).toNatClampNeg) (xs (x4 + 2).toNatClampNeg) (xs (x4 + 3).toNatClampNeg) M k (v.2 0) v.1) hl0 (op u.1 M (xs (x4 + 1).toNatClampNeg) (xs (x4 + 2).toNatClampNeg) (xs (x4 + 3).toNatClampNeg) (u.2 0) hR)) (vx_cwSW 5 hts gL_law_L_cost rfl rfl rfl (by decide +kernel) ⟨Nat.le_of_ble_eq_true rfl, Nat.le_of_ble_eq_true rfl⟩) (P_left hP) hKw (D_left (hD u M)) hN hT hC hS hA rfl rfl hl.1 rfl (lv_room (Nat.le_of_ble_eq_true rfl)) dL_law_731 ⟨hfc 3 (by decide), hfs 18 (by decide)⟩) hS (hD u M) hP hA (fun k u1 H locs h hP hS => ?_)
  have hP : va_P D vwCl (ww a c o co u1 ++ mw a2 c2 M) H := hP
  have h := h
  refine lv_istore (lv' := [(5, .int k), (0, .ref b), (1, .ref (a 0)), (2, .ref (a2 0)), (3, .ref o), (4, .int x4)]) hx hb dL_law_734 hl (by decide) rfl (fun ls hl => ?_)
  refine lv_aload_n hx hb dL_law_736 rfl (lv_at hl 3 rfl) ?_
  refine lv_aload_n hx hb dL_law_737 rfl (lv_at hl 1 rfl) ?_
  refine lv_iload hx hb dL_law_738 (lv_at hl 5 rfl) ?_
  refine lv_iconst (v := 1) hx hb dL_law_740 (by decide) ?_
  refine lv_iadd hx hb dL_law_741 ?_
  refine va_sld hx hb hX hbl hbA hS hin1 dL_law_742 ?_
  refine lv_aload_n hx hb dL_law_743 rfl (lv_at hl 1 rfl) ?_
  refine lv_iload hx hb dL_law_744 (lv_at hl 5 rfl) ?_
  refine lv_iconst (v := 2) hx hb dL_law_746 (by decide) ?_
  refine lv_iadd hx hb dL_law_747 ?_
  refine va_sld hx hb hX hbl hbA hS hin2 dL_law_748 ?_
  refine lv_aload_n hx hb dL_law_749 rfl (lv_at hl 1 rfl) ?_
  refine lv_iload hx hb dL_law_750 (lv_at hl 5 rfl) ?_
  refine lv_iconst (v := 3) hx hb dL_law_752 (by decide) ?_
  refine lv_iadd hx hb dL_law_753 ?_
  refine va_sld hx hb hX hbl hbA hS hin3 dL_law_754 ?_
  refine z_lR (wf := mw a2 c2) (k_runV mns_ok ⟨hx, hb, hml, hown, hts⟩ (tX6_cost l D a2 c2 _ (xs (x4 + 1).toNatClampNeg) (xs (x4 + 2).toNatClampNeg) (xs (x4 + 3).toNatClampNeg) M _ h) (cwV 3 hts gL_law_X6_cost rfl rfl rfl (by decide +kernel) ⟨Nat.le_of_ble_eq_true rfl, Nat.le_of_ble_eq_true rfl⟩) (va_recv hKm (P_right hP) (ci := 6) (q0 := 0) rfl rfl) (P_right hP) hKm (D_right (hD u1 M)) (fun w hw => absurd hw List.not_mem_nil) rfl rfl hl.1 rfl (lv_room (Nat.le_of_ble_eq_true rfl)) dL_law_755 ⟨hfc 3 (by decide), hfs 18 (by decide)⟩) hS (hD u1 M) hP hA (fun bl M1 H locs h hP hS => ?_)
  refine lv_lstore (lv' := [(6, .long bl), (5, .int k), (0, .ref b), (1, .ref (a 0)), (2, .ref (a2 0)), (3, .ref o), (4, .int x4)]) hx hb dL_law_758 hl (by decide) rfl (fun ls hl => ?_)
  refine lv_aload_n hx hb dL_law_760 rfl (lv_at hl 4 rfl) ?_
  refine z_iR (wf := mw a2 c2) (k_runV mns_ok ⟨hx, hb, hml, hown, hts⟩ (tX6_thrown l D a2 c2 _ M1 (fun r M2 => r = M1.1 0 ∧ M2 = M1) (by unfold PX6_thrown; exact ⟨rfl, rfl⟩)) (cwV 0 hts gL_law_X6_thrown rfl rfl rfl (by decide +kernel) ⟨Nat.le_of_ble_eq_true rfl, Nat.le_of_ble_eq_true rfl⟩) (va_recv hKm (P_right hP) (ci := 6) (q0 := 0) rfl rfl) (P_right hP) hKm (D_right (hD u1 M1)) (fun w hw => absurd hw List.not_mem_nil) rfl rfl hl.1 rfl (lv_room (Nat.le_of_ble_eq_true rfl)) dL_law_761 ⟨hfc 3 (by decide), hfs 18 (by decide)⟩) hS (hD u1 M1) hP hA (fun t9 M2 H locs ht9 hP hS => ?_)
  obtain ⟨et9, eM9⟩ := ht9
  rw [eM9] at hP
  refine lv_iload hx hb dL_law_764 (lv_at hl 1 rfl) ?_
  refine lv_icmp_eq (tgt := 771) hx hb dL_law_766 (by decide) (fun c1 => ?_) (fun c1 => absurd (by rw [et9]; exact h.1) c1)
  refine lv_iload hx hb dL_law_771 (lv_at hl 1 rfl) ?_
  refine lv_if_ne (tgt := 787) hx hb dL_law_773 (by decide) (fun c2 => ?_) (fun c2 => ?_)
  · refine lv_goto (tgt := 1169) hx hb dL_law_787 (by decide) ?_
    refine W.widen (k := cells + 4) (n := slots + 24) (by omega) (by omega) ?_
    exact hk u1 M1 _ _ ls h.2.2 hP hS (lv_sub hl [2, 3, 4, 5, 6] rfl)
  · have h2 := h.2.1 c2
    refine lv_aload_n hx hb dL_law_776 rfl (lv_at hl 5 rfl) ?_
    refine lv_iconst (v := 0) hx hb dL_law_777 (by decide) ?_
    refine va_lald (D := D) (f := u1.2) hx hb hKw (P_left hP) 24 18 rfl rfl in01 dL_law_778 ?_
    refine lv_lload hx hb dL_law_779 (lv_at hl 0 rfl) ?_
    refine W.lcmp hx hb dL_law_781 ?_
    refine lv_if_eq (tgt := 787) hx hb dL_law_782 (by decide) (fun _ => ?_) (fun c3 => absurd (by show lg_cmp (u1.2 0) _ = 0; rw [h2]; exact lg_same _) c3)
    refine lv_goto (tgt := 1169) hx hb dL_law_787 (by decide) ?_
    refine W.widen (k := cells + 4) (n := slots + 24) (by omega) (by omega) ?_
    exact hk u1 M1 _ _ ls h.2.2 hP hS (lv_sub hl [2, 3, 4, 5, 6] rfl)
def Q_pots (Rel : St → St → Prop) (p0 : Int32) (p1 : Int32) (p2 : Int32) (p3 : Int32) (M : St) (k : Int32) (v : Int64) (S1 : St) : Prop := PX6_pots p0 p1 p2 p3 M (fun b M1 => M1.1 0 = k ∧ (k = 0 → v = b.toInt64) ∧ Rel S1 M1)
def Op_pots (Rel : St → St → Prop) : Prop := ∀ (S M : St) (p0 : Int32) (p1 : Int32) (p2 : Int32) (p3 : Int32) (v : Int64), Rel S M → PX5_pots p0 p1 p2 p3 S (fun r S1 => Q_pots Rel p0 p1 p2 p3 M 0 r.toInt64 S1) (fun E S1 => (E = "java/lang/IndexOutOfBoundsException" ∧ Q_pots Rel p0 p1 p2 p3 M 1 v S1) ∨ (E = "java/lang/IllegalArgumentException" ∧ Q_pots Rel p0 p1 p2 p3 M 2 v S1))
set_option maxHeartbeats 4000000 in
set_option maxRecDepth 100000 in
theorem law_10 {p : Program} {l : Launch} {e : Env} {s : State} {m : MethodId} {below : List Frame} {meth : Method} {c9 : Code} {b L : Nat} {xs : Nat → Int32} {D : va_G} {a : Nat → Nat} {c : Nat → ClassId} {o : Nat} {co : ClassId} {a2 : Nat → Nat} {c2 : Nat → ClassId} {Q : State → Prop} {Rel : St → St → Prop} (E0 : LawE p l s m meth c9 b L xs D a c o co a2 c2) (op : Op_pots Rel) (x4 : Int32) (hin1 : vp_in (x4 + 1) L) (hin2 : vp_in (x4 + 2) L) (hin3 : vp_in (x4 + 3) L) (hin4 : vp_in (x4 + 4) L) (cells slots : Nat) (hcl : cells + 4 ≤ 601024) (hsl : slots + 24 ≤ 7293034)
    (hk : ∀ (u : Lo) (M : St) (H : Heap) (locs : List Loc) (ls : Array Slot), Rel u.1 M → va_P D vwCl (ww a c o co u ++ mw a2 c2 M) H → va_S (lA s) s.heap H locs → lv_has ls 8 [(0, .ref b), (1, .ref (a 0)), (2, .ref (a2 0)), (3, .ref o), (4, .int x4)] → W p l e room_1 s m #[Value.ref b] below meth c9 H locs (cells + 4) (slots + 24) Q (F0 m 1169 ls []))
    (u : Lo) (M : St) (H : Heap) (locs : List Loc) (ls : Array Slot) (hR : Rel u.1 M) (hP : va_P D vwCl (ww a c o co u ++ mw a2 c2 M) H) (hS : va_S (lA s) s.heap H locs) (hl : lv_has ls 8 [(0, .ref b), (1, .ref (a 0)), (2, .ref (a2 0)), (3, .ref o), (4, .int x4)]) : W p l e room_1 s m #[Value.ref b] below meth c9 H locs cells slots Q (F0 m 790 ls []) := by
  obtain ⟨⟨hx, hb, hr, hml, hown, hts0, hX, hbl, hlocks, hgv⟩, hl0, hKw, hKm, hN, hT, hC, hD⟩ := E0
  have hts := fun w h => hts0 w (wsL_law_in w h)
  have hA : ∀ q : Nat, s.heap.size ≤ q → lA s q := fun _ h => h
  have hbA : ¬ lA s b := Nat.not_le.mpr hbl
  have hKc : va_K D vwCl (cty c) s := hKw.sub [0, 1, 2, 3, 4, 5, 6, 7, 8, 9, 10, 11, 12, 13, 14, 15, 16, 17] rfl
  have hf0c : cells + 0 ≤ 601024 := by omega
  have hf0s : slots + 0 ≤ 7293034 := by omega
  have hfc : ∀ z, z ≤ 4 → cells + z + 0 ≤ 601024 := fun z hz => by omega
  have hfs : ∀ z, z ≤ 24 → slots + z + 0 ≤ 7293034 := fun z hz => by omega
  refine lv_aload_n hx hb dL_law_790 rfl (lv_at hl 1 rfl) ?_
  refine lv_aload_n hx hb dL_law_791 rfl (lv_at hl 0 rfl) ?_
  refine lv_iload hx hb dL_law_792 (lv_at hl 4 rfl) ?_
  refine lv_iconst (v := 1) hx hb dL_law_794 (by decide) ?_
  refine lv_iadd hx hb dL_law_795 ?_
  refine va_sld hx hb hX hbl hbA hS hin1 dL_law_796 ?_
  refine lv_aload_n hx hb dL_law_797 rfl (lv_at hl 0 rfl) ?_
  refine lv_iload hx hb dL_law_798 (lv_at hl 4 rfl) ?_
  refine lv_iconst (v := 2) hx hb dL_law_800 (by decide) ?_
  refine lv_iadd hx hb dL_law_801 ?_
  refine va_sld hx hb hX hbl hbA hS hin2 dL_law_802 ?_
  refine lv_aload_n hx hb dL_law_803 rfl (lv_at hl 0 rfl) ?_
  refine lv_iload hx hb dL_law_804 (lv_at hl 4 rfl) ?_
  refine lv_iconst (v := 3) hx hb dL_law_806 (by decide) ?_
  refine lv_iadd hx hb dL_law_807 ?_
  refine va_sld hx hb hX hbl hbA hS hin3 dL_law_808 ?_
  refine lv_aload_n hx hb dL_law_809 rfl (lv_at hl 0 rfl) ?_
  refine lv_iload hx hb dL_law_810 (lv_at hl 4 rfl) ?_
  refine lv_iconst (v := 4) hx hb dL_law_812 (by decide) ?_
  refine lv_iadd hx hb dL_law_813 ?_
  refine va_sld hx hb hX hbl hbA hS hin4 dL_law_814 ?_
  refine lv_aload_n hx hb dL_law_815 rfl (lv_at hl 3 rfl) ?_
  refine z_iL (wf := ww a c o co) (l_runS (As := [.ref (a 0), .int (xs (x4 + 1).toNatClampNeg), .int (xs (x4 + 2).toNatClampNeg), .int (xs (x4 + 3).toNatClampNeg), .int (xs (x4 + 4).toNatClampNeg), .ref o]) (rest := []) ⟨hx, hb, hml, hown, hts⟩ (tL_pots l D a c o co _ (xs (x4 + 1).toNatClampNeg) (xs (x4 + 2).toNatClampNeg) (xs (x4 + 3).toNatClampNeg) (xs (x4 + 4).toNatClampNeg) u (fun k v => Q_pots Rel (xs (x4 + 1).toNatClampNeg) (xs (x4 + 2).toNatClampNeg) (xs (x4 + 3).toNatClampNeg) (xs (x4 + 4).toNatClampNeg) M k (v.2 0) v.1) hl0 (op u.1 M (xs (x4 + 1).toNatClampNeg) (xs (x4 + 2).toNatClampNeg) (xs (x4 + 3).toNatClampNeg) (xs (x4 + 4).toNatClampNeg) (u.2 0) hR)) (vx_cwSW 6 hts gL_law_L_pots rfl rfl rfl (by decide +kernel) ⟨Nat.le_of_ble_eq_true rfl, Nat.le_of_ble_eq_true rfl⟩) (P_left hP) hKw (D_left (hD u M)) hN hT hC hS hA rfl rfl hl.1 rfl (lv_room (Nat.le_of_ble_eq_true rfl)) dL_law_816 ⟨hfc 3 (by decide), hfs 18 (by decide)⟩) hS (hD u M) hP hA (fun k u1 H locs h hP hS => ?_)
  have hP : va_P D vwCl (ww a c o co u1 ++ mw a2 c2 M) H := hP
  have h := h
  refine lv_istore (lv' := [(5, .int k), (0, .ref b), (1, .ref (a 0)), (2, .ref (a2 0)), (3, .ref o), (4, .int x4)]) hx hb dL_law_819 hl (by decide) rfl (fun ls hl => ?_)
  refine lv_aload_n hx hb dL_law_821 rfl (lv_at hl 3 rfl) ?_
  refine lv_aload_n hx hb dL_law_822 rfl (lv_at hl 1 rfl) ?_
  refine lv_iload hx hb dL_law_823 (lv_at hl 5 rfl) ?_
  refine lv_iconst (v := 1) hx hb dL_law_825 (by decide) ?_
  refine lv_iadd hx hb dL_law_826 ?_
  refine va_sld hx hb hX hbl hbA hS hin1 dL_law_827 ?_
  refine lv_aload_n hx hb dL_law_828 rfl (lv_at hl 1 rfl) ?_
  refine lv_iload hx hb dL_law_829 (lv_at hl 5 rfl) ?_
  refine lv_iconst (v := 2) hx hb dL_law_831 (by decide) ?_
  refine lv_iadd hx hb dL_law_832 ?_
  refine va_sld hx hb hX hbl hbA hS hin2 dL_law_833 ?_
  refine lv_aload_n hx hb dL_law_834 rfl (lv_at hl 1 rfl) ?_
  refine lv_iload hx hb dL_law_835 (lv_at hl 5 rfl) ?_
  refine lv_iconst (v := 3) hx hb dL_law_837 (by decide) ?_
  refine lv_iadd hx hb dL_law_838 ?_
  refine va_sld hx hb hX hbl hbA hS hin3 dL_law_839 ?_
  refine lv_aload_n hx hb dL_law_840 rfl (lv_at hl 1 rfl) ?_
  refine lv_iload hx hb dL_law_841 (lv_at hl 5 rfl) ?_
  refine lv_iconst (v := 4) hx hb dL_law_843 (by decide) ?_
  refine lv_iadd hx hb dL_law_844 ?_
  refine va_sld hx hb hX hbl hbA hS hin4 dL_law_845 ?_
  refine z_iR (wf := mw a2 c2) (k_runV mns_ok ⟨hx, hb, hml, hown, hts⟩ (tX6_pots l D a2 c2 _ (xs (x4 + 1).toNatClampNeg) (xs (x4 + 2).toNatClampNeg) (xs (x4 + 3).toNatClampNeg) (xs (x4 + 4).toNatClampNeg) M _ h) (cwV 4 hts gL_law_X6_pots rfl rfl rfl (by decide +kernel) ⟨Nat.le_of_ble_eq_true rfl, Nat.le_of_ble_eq_true rfl⟩) (va_recv hKm (P_right hP) (ci := 6) (q0 := 0) rfl rfl) (P_right hP) hKm (D_right (hD u1 M)) (fun w hw => absurd hw List.not_mem_nil) rfl rfl hl.1 rfl (lv_room (Nat.le_of_ble_eq_true rfl)) dL_law_846 ⟨hfc 3 (by decide), hfs 18 (by decide)⟩) hS (hD u1 M) hP hA (fun bi M1 H locs h hP hS => ?_)
  refine lv_istore (lv' := [(6, .int bi), (5, .int k), (0, .ref b), (1, .ref (a 0)), (2, .ref (a2 0)), (3, .ref o), (4, .int x4)]) hx hb dL_law_849 hl (by decide) rfl (fun ls hl => ?_)
  refine lv_aload_n hx hb dL_law_851 rfl (lv_at hl 4 rfl) ?_
  refine z_iR (wf := mw a2 c2) (k_runV mns_ok ⟨hx, hb, hml, hown, hts⟩ (tX6_thrown l D a2 c2 _ M1 (fun r M2 => r = M1.1 0 ∧ M2 = M1) (by unfold PX6_thrown; exact ⟨rfl, rfl⟩)) (cwV 0 hts gL_law_X6_thrown rfl rfl rfl (by decide +kernel) ⟨Nat.le_of_ble_eq_true rfl, Nat.le_of_ble_eq_true rfl⟩) (va_recv hKm (P_right hP) (ci := 6) (q0 := 0) rfl rfl) (P_right hP) hKm (D_right (hD u1 M1)) (fun w hw => absurd hw List.not_mem_nil) rfl rfl hl.1 rfl (lv_room (Nat.le_of_ble_eq_true rfl)) dL_law_852 ⟨hfc 3 (by decide), hfs 18 (by decide)⟩) hS (hD u1 M1) hP hA (fun t9 M2 H locs ht9 hP hS => ?_)
  obtain ⟨et9, eM9⟩ := ht9
  rw [eM9] at hP
  refine lv_iload hx hb dL_law_855 (lv_at hl 1 rfl) ?_
  refine lv_icmp_eq (tgt := 862) hx hb dL_law_857 (by decide) (fun c1 => ?_) (fun c1 => absurd (by rw [et9]; exact h.1) c1)
  refine lv_iload hx hb dL_law_862 (lv_at hl 1 rfl) ?_
  refine lv_if_ne (tgt := 879) hx hb dL_law_864 (by decide) (fun c2 => ?_) (fun c2 => ?_)
  · refine lv_goto (tgt := 1169) hx hb dL_law_879 (by decide) ?_
    refine W.widen (k := cells + 4) (n := slots + 24) (by omega) (by omega) ?_
    exact hk u1 M1 _ _ ls h.2.2 hP hS (lv_sub hl [2, 3, 4, 5, 6] rfl)
  · have h2 := h.2.1 c2
    refine lv_aload_n hx hb dL_law_867 rfl (lv_at hl 5 rfl) ?_
    refine lv_iconst (v := 0) hx hb dL_law_868 (by decide) ?_
    refine va_lald (D := D) (f := u1.2) hx hb hKw (P_left hP) 24 18 rfl rfl in01 dL_law_869 ?_
    refine lv_iload hx hb dL_law_870 (lv_at hl 0 rfl) ?_
    refine lv_i2l hx hb dL_law_872 rfl ?_
    refine W.lcmp hx hb dL_law_873 ?_
    refine lv_if_eq (tgt := 879) hx hb dL_law_874 (by decide) (fun _ => ?_) (fun c3 => absurd (by show lg_cmp (u1.2 0) _ = 0; rw [h2]; exact lg_same _) c3)
    refine lv_goto (tgt := 1169) hx hb dL_law_879 (by decide) ?_
    refine W.widen (k := cells + 4) (n := slots + 24) (by omega) (by omega) ?_
    exact hk u1 M1 _ _ ls h.2.2 hP hS (lv_sub hl [2, 3, 4, 5, 6] rfl)
def Op_ladles (Rel : St → St → Prop) : Prop := ∀ (S M : St) , Rel S M → PX5_ladles S (fun r S1 => PX6_ladles M (fun b M1 => r = b ∧ Rel S1 M1))
set_option maxHeartbeats 4000000 in
set_option maxRecDepth 100000 in
theorem law_11 {p : Program} {l : Launch} {e : Env} {s : State} {m : MethodId} {below : List Frame} {meth : Method} {c9 : Code} {b L : Nat} {xs : Nat → Int32} {D : va_G} {a : Nat → Nat} {c : Nat → ClassId} {o : Nat} {co : ClassId} {a2 : Nat → Nat} {c2 : Nat → ClassId} {Q : State → Prop} {Rel : St → St → Prop} (E0 : LawE p l s m meth c9 b L xs D a c o co a2 c2) (op : Op_ladles Rel) (x4 : Int32) (hin1 : vp_in (x4 + 1) L) (hin2 : vp_in (x4 + 2) L) (hin3 : vp_in (x4 + 3) L) (hin4 : vp_in (x4 + 4) L) (cells slots : Nat) (hcl : cells + 4 ≤ 601024) (hsl : slots + 24 ≤ 7293034)
    (hk : ∀ (u : Lo) (M : St) (H : Heap) (locs : List Loc) (ls : Array Slot), Rel u.1 M → va_P D vwCl (ww a c o co u ++ mw a2 c2 M) H → va_S (lA s) s.heap H locs → lv_has ls 8 [(0, .ref b), (1, .ref (a 0)), (2, .ref (a2 0)), (3, .ref o), (4, .int x4)] → W p l e room_1 s m #[Value.ref b] below meth c9 H locs (cells + 4) (slots + 24) Q (F0 m 1169 ls []))
    (u : Lo) (M : St) (H : Heap) (locs : List Loc) (ls : Array Slot) (hR : Rel u.1 M) (hP : va_P D vwCl (ww a c o co u ++ mw a2 c2 M) H) (hS : va_S (lA s) s.heap H locs) (hl : lv_has ls 8 [(0, .ref b), (1, .ref (a 0)), (2, .ref (a2 0)), (3, .ref o), (4, .int x4)]) : W p l e room_1 s m #[Value.ref b] below meth c9 H locs cells slots Q (F0 m 882 ls []) := by
  obtain ⟨⟨hx, hb, hr, hml, hown, hts0, hX, hbl, hlocks, hgv⟩, hl0, hKw, hKm, hN, hT, hC, hD⟩ := E0
  have hts := fun w h => hts0 w (wsL_law_in w h)
  have hA : ∀ q : Nat, s.heap.size ≤ q → lA s q := fun _ h => h
  have hbA : ¬ lA s b := Nat.not_le.mpr hbl
  have hKc : va_K D vwCl (cty c) s := hKw.sub [0, 1, 2, 3, 4, 5, 6, 7, 8, 9, 10, 11, 12, 13, 14, 15, 16, 17] rfl
  have hf0c : cells + 0 ≤ 601024 := by omega
  have hf0s : slots + 0 ≤ 7293034 := by omega
  have hfc : ∀ z, z ≤ 4 → cells + z + 0 ≤ 601024 := fun z hz => by omega
  have hfs : ∀ z, z ≤ 24 → slots + z + 0 ≤ 7293034 := fun z hz => by omega
  refine lv_aload_n hx hb dL_law_882 rfl (lv_at hl 1 rfl) ?_
  have h := op u.1 M hR
  have hP0 : va_P D vwCl (cw a c u.1 ++ (ow o co u.2 ++ mw a2 c2 M)) _ := hP
  have hD0 : va_D (lA s) (cw a c u.1 ++ (ow o co u.2 ++ mw a2 c2 M)) := hD u M
  refine z_iL (wf := cw a c) (k_runV cns_ok ⟨hx, hb, hml, hown, hts⟩ (tX5_ladles l D a c _  u.1 _ h) (cwV 0 hts gL_law_X5_ladles rfl rfl rfl (by decide +kernel) ⟨Nat.le_of_ble_eq_true rfl, Nat.le_of_ble_eq_true rfl⟩) (va_recv hKc (P_left hP0) (ci := 5) (q0 := 0) rfl rfl) (P_left hP0) hKc (D_left hD0) hN rfl rfl hl.1 rfl (lv_room (Nat.le_of_ble_eq_true rfl)) dL_law_883 ⟨hf0c, hf0s⟩) hS hD0 hP0 hA (fun k S1 H locs h hP hS => ?_)
  have hP : va_P D vwCl (ww a c o co (S1, u.2) ++ mw a2 c2 M) H := hP
  obtain ⟨u1, eu1⟩ : ∃ z : Lo, z = (S1, u.2) := ⟨_, rfl⟩
  have eS1 : S1 = u1.1 := by rw [eu1]
  rw [← eu1] at hP
  rw [eS1] at h
  refine lv_aload_n hx hb dL_law_886 rfl (lv_at hl 2 rfl) ?_
  refine z_iR (wf := mw a2 c2) (k_runV mns_ok ⟨hx, hb, hml, hown, hts⟩ (tX6_ladles l D a2 c2 _  M _ h) (cwV 0 hts gL_law_X6_ladles rfl rfl rfl (by decide +kernel) ⟨Nat.le_of_ble_eq_true rfl, Nat.le_of_ble_eq_true rfl⟩) (va_recv hKm (P_right hP) (ci := 6) (q0 := 0) rfl rfl) (P_right hP) hKm (D_right (hD u1 M)) (fun w hw => absurd hw List.not_mem_nil) rfl rfl hl.1 rfl (lv_room (Nat.le_of_ble_eq_true rfl)) dL_law_887 ⟨hf0c, hf0s⟩) hS (hD u1 M) hP hA (fun bi M1 H locs h hP hS => ?_)
  refine lv_icmp_eq (tgt := 1169) hx hb dL_law_890 (by decide) (fun c1 => ?_) (fun c1 => absurd h.1 c1)
  refine W.widen (k := cells + 4) (n := slots + 24) (by omega) (by omega) ?_
  exact hk u1 M1 _ _ ls h.2 hP hS (lv_sub hl [0, 1, 2, 3, 4] rfl)
def Q_ladle (Rel : St → St → Prop) (p0 : Int32) (M : St) (k : Int32) (v : Int64) (S1 : St) : Prop := PX6_ladle p0 M (fun b M1 => M1.1 0 = k ∧ (k = 0 → v = b.toInt64) ∧ Rel S1 M1)
def Op_ladle (Rel : St → St → Prop) : Prop := ∀ (S M : St) (p0 : Int32) (v : Int64), Rel S M → PX5_ladle p0 S (fun r S1 => Q_ladle Rel p0 M 0 r.toInt64 S1) (fun E S1 => (E = "java/lang/IndexOutOfBoundsException" ∧ Q_ladle Rel p0 M 1 v S1))
set_option maxHeartbeats 4000000 in
set_option maxRecDepth 100000 in
theorem law_12 {p : Program} {l : Launch} {e : Env} {s : State} {m : MethodId} {below : List Frame} {meth : Method} {c9 : Code} {b L : Nat} {xs : Nat → Int32} {D : va_G} {a : Nat → Nat} {c : Nat → ClassId} {o : Nat} {co : ClassId} {a2 : Nat → Nat} {c2 : Nat → ClassId} {Q : State → Prop} {Rel : St → St → Prop} (E0 : LawE p l s m meth c9 b L xs D a c o co a2 c2) (op : Op_ladle Rel) (x4 : Int32) (hin1 : vp_in (x4 + 1) L) (hin2 : vp_in (x4 + 2) L) (hin3 : vp_in (x4 + 3) L) (hin4 : vp_in (x4 + 4) L) (cells slots : Nat) (hcl : cells + 4 ≤ 601024) (hsl : slots + 24 ≤ 7293034)
    (hk : ∀ (u : Lo) (M : St) (H : Heap) (locs : List Loc) (ls : Array Slot), Rel u.1 M → va_P D vwCl (ww a c o co u ++ mw a2 c2 M) H → va_S (lA s) s.heap H locs → lv_has ls 8 [(0, .ref b), (1, .ref (a 0)), (2, .ref (a2 0)), (3, .ref o), (4, .int x4)] → W p l e room_1 s m #[Value.ref b] below meth c9 H locs (cells + 4) (slots + 24) Q (F0 m 1169 ls []))
    (u : Lo) (M : St) (H : Heap) (locs : List Loc) (ls : Array Slot) (hR : Rel u.1 M) (hP : va_P D vwCl (ww a c o co u ++ mw a2 c2 M) H) (hS : va_S (lA s) s.heap H locs) (hl : lv_has ls 8 [(0, .ref b), (1, .ref (a 0)), (2, .ref (a2 0)), (3, .ref o), (4, .int x4)]) : W p l e room_1 s m #[Value.ref b] below meth c9 H locs cells slots Q (F0 m 895 ls []) := by
  obtain ⟨⟨hx, hb, hr, hml, hown, hts0, hX, hbl, hlocks, hgv⟩, hl0, hKw, hKm, hN, hT, hC, hD⟩ := E0
  have hts := fun w h => hts0 w (wsL_law_in w h)
  have hA : ∀ q : Nat, s.heap.size ≤ q → lA s q := fun _ h => h
  have hbA : ¬ lA s b := Nat.not_le.mpr hbl
  have hKc : va_K D vwCl (cty c) s := hKw.sub [0, 1, 2, 3, 4, 5, 6, 7, 8, 9, 10, 11, 12, 13, 14, 15, 16, 17] rfl
  have hf0c : cells + 0 ≤ 601024 := by omega
  have hf0s : slots + 0 ≤ 7293034 := by omega
  have hfc : ∀ z, z ≤ 4 → cells + z + 0 ≤ 601024 := fun z hz => by omega
  have hfs : ∀ z, z ≤ 24 → slots + z + 0 ≤ 7293034 := fun z hz => by omega
  refine lv_aload_n hx hb dL_law_895 rfl (lv_at hl 1 rfl) ?_
  refine lv_aload_n hx hb dL_law_896 rfl (lv_at hl 0 rfl) ?_
  refine lv_iload hx hb dL_law_897 (lv_at hl 4 rfl) ?_
  refine lv_iconst (v := 1) hx hb dL_law_899 (by decide) ?_
  refine lv_iadd hx hb dL_law_900 ?_
  refine va_sld hx hb hX hbl hbA hS hin1 dL_law_901 ?_
  refine lv_aload_n hx hb dL_law_902 rfl (lv_at hl 3 rfl) ?_
  refine z_iL (wf := ww a c o co) (l_runS (As := [.ref (a 0), .int (xs (x4 + 1).toNatClampNeg), .ref o]) (rest := []) ⟨hx, hb, hml, hown, hts⟩ (tL_ladle l D a c o co _ (xs (x4 + 1).toNatClampNeg) u (fun k v => Q_ladle Rel (xs (x4 + 1).toNatClampNeg) M k (v.2 0) v.1) hl0 (op u.1 M (xs (x4 + 1).toNatClampNeg) (u.2 0) hR)) (vx_cwSW 3 hts gL_law_L_ladle rfl rfl rfl (by decide +kernel) ⟨Nat.le_of_ble_eq_true rfl, Nat.le_of_ble_eq_true rfl⟩) (P_left hP) hKw (D_left (hD u M)) hN hT hC hS hA rfl rfl hl.1 rfl (lv_room (Nat.le_of_ble_eq_true rfl)) dL_law_903 ⟨hfc 1 (by decide), hfs 6 (by decide)⟩) hS (hD u M) hP hA (fun k u1 H locs h hP hS => ?_)
  have hP : va_P D vwCl (ww a c o co u1 ++ mw a2 c2 M) H := hP
  have h := h
  refine lv_istore (lv' := [(5, .int k), (0, .ref b), (1, .ref (a 0)), (2, .ref (a2 0)), (3, .ref o), (4, .int x4)]) hx hb dL_law_906 hl (by decide) rfl (fun ls hl => ?_)
  refine lv_aload_n hx hb dL_law_908 rfl (lv_at hl 3 rfl) ?_
  refine lv_aload_n hx hb dL_law_909 rfl (lv_at hl 1 rfl) ?_
  refine lv_iload hx hb dL_law_910 (lv_at hl 5 rfl) ?_
  refine lv_iconst (v := 1) hx hb dL_law_912 (by decide) ?_
  refine lv_iadd hx hb dL_law_913 ?_
  refine va_sld hx hb hX hbl hbA hS hin1 dL_law_914 ?_
  refine z_iR (wf := mw a2 c2) (k_runV mns_ok ⟨hx, hb, hml, hown, hts⟩ (tX6_ladle l D a2 c2 _ (xs (x4 + 1).toNatClampNeg) M _ h) (cwV 1 hts gL_law_X6_ladle rfl rfl rfl (by decide +kernel) ⟨Nat.le_of_ble_eq_true rfl, Nat.le_of_ble_eq_true rfl⟩) (va_recv hKm (P_right hP) (ci := 6) (q0 := 0) rfl rfl) (P_right hP) hKm (D_right (hD u1 M)) (fun w hw => absurd hw List.not_mem_nil) rfl rfl hl.1 rfl (lv_room (Nat.le_of_ble_eq_true rfl)) dL_law_915 ⟨hfc 1 (by decide), hfs 6 (by decide)⟩) hS (hD u1 M) hP hA (fun bi M1 H locs h hP hS => ?_)
  refine lv_istore (lv' := [(6, .int bi), (5, .int k), (0, .ref b), (1, .ref (a 0)), (2, .ref (a2 0)), (3, .ref o), (4, .int x4)]) hx hb dL_law_918 hl (by decide) rfl (fun ls hl => ?_)
  refine lv_aload_n hx hb dL_law_920 rfl (lv_at hl 4 rfl) ?_
  refine z_iR (wf := mw a2 c2) (k_runV mns_ok ⟨hx, hb, hml, hown, hts⟩ (tX6_thrown l D a2 c2 _ M1 (fun r M2 => r = M1.1 0 ∧ M2 = M1) (by unfold PX6_thrown; exact ⟨rfl, rfl⟩)) (cwV 0 hts gL_law_X6_thrown rfl rfl rfl (by decide +kernel) ⟨Nat.le_of_ble_eq_true rfl, Nat.le_of_ble_eq_true rfl⟩) (va_recv hKm (P_right hP) (ci := 6) (q0 := 0) rfl rfl) (P_right hP) hKm (D_right (hD u1 M1)) (fun w hw => absurd hw List.not_mem_nil) rfl rfl hl.1 rfl (lv_room (Nat.le_of_ble_eq_true rfl)) dL_law_921 ⟨hfc 1 (by decide), hfs 6 (by decide)⟩) hS (hD u1 M1) hP hA (fun t9 M2 H locs ht9 hP hS => ?_)
  obtain ⟨et9, eM9⟩ := ht9
  rw [eM9] at hP
  refine lv_iload hx hb dL_law_924 (lv_at hl 1 rfl) ?_
  refine lv_icmp_eq (tgt := 931) hx hb dL_law_926 (by decide) (fun c1 => ?_) (fun c1 => absurd (by rw [et9]; exact h.1) c1)
  refine lv_iload hx hb dL_law_931 (lv_at hl 1 rfl) ?_
  refine lv_if_ne (tgt := 948) hx hb dL_law_933 (by decide) (fun c2 => ?_) (fun c2 => ?_)
  · refine lv_goto (tgt := 1169) hx hb dL_law_948 (by decide) ?_
    refine W.widen (k := cells + 4) (n := slots + 24) (by omega) (by omega) ?_
    exact hk u1 M1 _ _ ls h.2.2 hP hS (lv_sub hl [2, 3, 4, 5, 6] rfl)
  · have h2 := h.2.1 c2
    refine lv_aload_n hx hb dL_law_936 rfl (lv_at hl 5 rfl) ?_
    refine lv_iconst (v := 0) hx hb dL_law_937 (by decide) ?_
    refine va_lald (D := D) (f := u1.2) hx hb hKw (P_left hP) 24 18 rfl rfl in01 dL_law_938 ?_
    refine lv_iload hx hb dL_law_939 (lv_at hl 0 rfl) ?_
    refine lv_i2l hx hb dL_law_941 rfl ?_
    refine W.lcmp hx hb dL_law_942 ?_
    refine lv_if_eq (tgt := 948) hx hb dL_law_943 (by decide) (fun _ => ?_) (fun c3 => absurd (by show lg_cmp (u1.2 0) _ = 0; rw [h2]; exact lg_same _) c3)
    refine lv_goto (tgt := 1169) hx hb dL_law_948 (by decide) ?_
    refine W.widen (k := cells + 4) (n := slots + 24) (by omega) (by omega) ?_
    exact hk u1 M1 _ _ ls h.2.2 hP hS (lv_sub hl [2, 3, 4, 5, 6] rfl)
def Q_come (Rel : St → St → Prop) (p0 : Int32) (M : St) (k : Int32) (v : Int64) (S1 : St) : Prop := ∃ n : Nat, PX6_come n p0 M (fun b M1 => M1.1 0 = k ∧ (k = 0 → v = b.toInt64) ∧ Rel S1 M1)
def Op_come (Rel : St → St → Prop) : Prop := ∀ (S M : St) (p0 : Int32) (v : Int64), Rel S M → PX5_come p0 S (fun r S1 => Q_come Rel p0 M 0 r.toInt64 S1) (fun E S1 => (E = "java/lang/IllegalArgumentException" ∧ Q_come Rel p0 M 1 v S1))
set_option maxHeartbeats 4000000 in
set_option maxRecDepth 100000 in
theorem law_13 {p : Program} {l : Launch} {e : Env} {s : State} {m : MethodId} {below : List Frame} {meth : Method} {c9 : Code} {b L : Nat} {xs : Nat → Int32} {D : va_G} {a : Nat → Nat} {c : Nat → ClassId} {o : Nat} {co : ClassId} {a2 : Nat → Nat} {c2 : Nat → ClassId} {Q : State → Prop} {Rel : St → St → Prop} (E0 : LawE p l s m meth c9 b L xs D a c o co a2 c2) (op : Op_come Rel) (x4 : Int32) (hin1 : vp_in (x4 + 1) L) (hin2 : vp_in (x4 + 2) L) (hin3 : vp_in (x4 + 3) L) (hin4 : vp_in (x4 + 4) L) (cells slots : Nat) (hcl : cells + 4 ≤ 601024) (hsl : slots + 24 ≤ 7293034)
    (hk : ∀ (u : Lo) (M : St) (H : Heap) (locs : List Loc) (ls : Array Slot), Rel u.1 M → va_P D vwCl (ww a c o co u ++ mw a2 c2 M) H → va_S (lA s) s.heap H locs → lv_has ls 8 [(0, .ref b), (1, .ref (a 0)), (2, .ref (a2 0)), (3, .ref o), (4, .int x4)] → W p l e room_1 s m #[Value.ref b] below meth c9 H locs (cells + 4) (slots + 24) Q (F0 m 1169 ls []))
    (u : Lo) (M : St) (H : Heap) (locs : List Loc) (ls : Array Slot) (hR : Rel u.1 M) (hP : va_P D vwCl (ww a c o co u ++ mw a2 c2 M) H) (hS : va_S (lA s) s.heap H locs) (hl : lv_has ls 8 [(0, .ref b), (1, .ref (a 0)), (2, .ref (a2 0)), (3, .ref o), (4, .int x4)]) : W p l e room_1 s m #[Value.ref b] below meth c9 H locs cells slots Q (F0 m 951 ls []) := by
  obtain ⟨⟨hx, hb, hr, hml, hown, hts0, hX, hbl, hlocks, hgv⟩, hl0, hKw, hKm, hN, hT, hC, hD⟩ := E0
  have hts := fun w h => hts0 w (wsL_law_in w h)
  have hA : ∀ q : Nat, s.heap.size ≤ q → lA s q := fun _ h => h
  have hbA : ¬ lA s b := Nat.not_le.mpr hbl
  have hKc : va_K D vwCl (cty c) s := hKw.sub [0, 1, 2, 3, 4, 5, 6, 7, 8, 9, 10, 11, 12, 13, 14, 15, 16, 17] rfl
  have hf0c : cells + 0 ≤ 601024 := by omega
  have hf0s : slots + 0 ≤ 7293034 := by omega
  have hfc : ∀ z, z ≤ 4 → cells + z + 0 ≤ 601024 := fun z hz => by omega
  have hfs : ∀ z, z ≤ 24 → slots + z + 0 ≤ 7293034 := fun z hz => by omega
  refine lv_aload_n hx hb dL_law_951 rfl (lv_at hl 1 rfl) ?_
  refine lv_aload_n hx hb dL_law_952 rfl (lv_at hl 0 rfl) ?_
  refine lv_iload hx hb dL_law_953 (lv_at hl 4 rfl) ?_
  refine lv_iconst (v := 1) hx hb dL_law_955 (by decide) ?_
  refine lv_iadd hx hb dL_law_956 ?_
  refine va_sld hx hb hX hbl hbA hS hin1 dL_law_957 ?_
  refine lv_aload_n hx hb dL_law_958 rfl (lv_at hl 3 rfl) ?_
  refine z_iL (wf := ww a c o co) (l_runS (As := [.ref (a 0), .int (xs (x4 + 1).toNatClampNeg), .ref o]) (rest := []) ⟨hx, hb, hml, hown, hts⟩ (tL_come l D a c o co _ (xs (x4 + 1).toNatClampNeg) u (fun k v => Q_come Rel (xs (x4 + 1).toNatClampNeg) M k (v.2 0) v.1) hl0 (op u.1 M (xs (x4 + 1).toNatClampNeg) (u.2 0) hR)) (vx_cwSW 3 hts gL_law_L_come rfl rfl rfl (by decide +kernel) ⟨Nat.le_of_ble_eq_true rfl, Nat.le_of_ble_eq_true rfl⟩) (P_left hP) hKw (D_left (hD u M)) hN hT hC hS hA rfl rfl hl.1 rfl (lv_room (Nat.le_of_ble_eq_true rfl)) dL_law_959 ⟨hfc 1 (by decide), hfs 6 (by decide)⟩) hS (hD u M) hP hA (fun k u1 H locs h hP hS => ?_)
  have hP : va_P D vwCl (ww a c o co u1 ++ mw a2 c2 M) H := hP
  obtain ⟨n6, h⟩ := h
  refine lv_istore (lv' := [(5, .int k), (0, .ref b), (1, .ref (a 0)), (2, .ref (a2 0)), (3, .ref o), (4, .int x4)]) hx hb dL_law_962 hl (by decide) rfl (fun ls hl => ?_)
  refine lv_aload_n hx hb dL_law_964 rfl (lv_at hl 3 rfl) ?_
  refine lv_aload_n hx hb dL_law_965 rfl (lv_at hl 1 rfl) ?_
  refine lv_iload hx hb dL_law_966 (lv_at hl 5 rfl) ?_
  refine lv_iconst (v := 1) hx hb dL_law_968 (by decide) ?_
  refine lv_iadd hx hb dL_law_969 ?_
  refine va_sld hx hb hX hbl hbA hS hin1 dL_law_970 ?_
  refine z_iR (wf := mw a2 c2) (k_runV mns_ok ⟨hx, hb, hml, hown, hts⟩ (tX6_come l D a2 c2 _ n6 (xs (x4 + 1).toNatClampNeg) M _ h) (cwV 1 hts gL_law_X6_come rfl rfl rfl (by decide +kernel) ⟨Nat.le_of_ble_eq_true rfl, Nat.le_of_ble_eq_true rfl⟩) (va_recv hKm (P_right hP) (ci := 6) (q0 := 0) rfl rfl) (P_right hP) hKm (D_right (hD u1 M)) (fun w hw => absurd hw List.not_mem_nil) rfl rfl hl.1 rfl (lv_room (Nat.le_of_ble_eq_true rfl)) dL_law_971 ⟨hfc 1 (by decide), hfs 6 (by decide)⟩) hS (hD u1 M) hP hA (fun bi M1 H locs h hP hS => ?_)
  refine lv_istore (lv' := [(6, .int bi), (5, .int k), (0, .ref b), (1, .ref (a 0)), (2, .ref (a2 0)), (3, .ref o), (4, .int x4)]) hx hb dL_law_974 hl (by decide) rfl (fun ls hl => ?_)
  refine lv_aload_n hx hb dL_law_976 rfl (lv_at hl 4 rfl) ?_
  refine z_iR (wf := mw a2 c2) (k_runV mns_ok ⟨hx, hb, hml, hown, hts⟩ (tX6_thrown l D a2 c2 _ M1 (fun r M2 => r = M1.1 0 ∧ M2 = M1) (by unfold PX6_thrown; exact ⟨rfl, rfl⟩)) (cwV 0 hts gL_law_X6_thrown rfl rfl rfl (by decide +kernel) ⟨Nat.le_of_ble_eq_true rfl, Nat.le_of_ble_eq_true rfl⟩) (va_recv hKm (P_right hP) (ci := 6) (q0 := 0) rfl rfl) (P_right hP) hKm (D_right (hD u1 M1)) (fun w hw => absurd hw List.not_mem_nil) rfl rfl hl.1 rfl (lv_room (Nat.le_of_ble_eq_true rfl)) dL_law_977 ⟨hfc 1 (by decide), hfs 6 (by decide)⟩) hS (hD u1 M1) hP hA (fun t9 M2 H locs ht9 hP hS => ?_)
  obtain ⟨et9, eM9⟩ := ht9
  rw [eM9] at hP
  refine lv_iload hx hb dL_law_980 (lv_at hl 1 rfl) ?_
  refine lv_icmp_eq (tgt := 987) hx hb dL_law_982 (by decide) (fun c1 => ?_) (fun c1 => absurd (by rw [et9]; exact h.1) c1)
  refine lv_iload hx hb dL_law_987 (lv_at hl 1 rfl) ?_
  refine lv_if_ne (tgt := 1004) hx hb dL_law_989 (by decide) (fun c2 => ?_) (fun c2 => ?_)
  · refine lv_goto (tgt := 1169) hx hb dL_law_1004 (by decide) ?_
    refine W.widen (k := cells + 4) (n := slots + 24) (by omega) (by omega) ?_
    exact hk u1 M1 _ _ ls h.2.2 hP hS (lv_sub hl [2, 3, 4, 5, 6] rfl)
  · have h2 := h.2.1 c2
    refine lv_aload_n hx hb dL_law_992 rfl (lv_at hl 5 rfl) ?_
    refine lv_iconst (v := 0) hx hb dL_law_993 (by decide) ?_
    refine va_lald (D := D) (f := u1.2) hx hb hKw (P_left hP) 24 18 rfl rfl in01 dL_law_994 ?_
    refine lv_iload hx hb dL_law_995 (lv_at hl 0 rfl) ?_
    refine lv_i2l hx hb dL_law_997 rfl ?_
    refine W.lcmp hx hb dL_law_998 ?_
    refine lv_if_eq (tgt := 1004) hx hb dL_law_999 (by decide) (fun _ => ?_) (fun c3 => absurd (by show lg_cmp (u1.2 0) _ = 0; rw [h2]; exact lg_same _) c3)
    refine lv_goto (tgt := 1169) hx hb dL_law_1004 (by decide) ?_
    refine W.widen (k := cells + 4) (n := slots + 24) (by omega) (by omega) ?_
    exact hk u1 M1 _ _ ls h.2.2 hP hS (lv_sub hl [2, 3, 4, 5, 6] rfl)
def Q_hatch (Rel : St → St → Prop) (p0 : Int32) (p1 : Int32) (M : St) (k : Int32) (v : Int64) (S1 : St) : Prop := ∃ n : Nat, PX6_hatch n p0 p1 M (fun b M1 => M1.1 0 = k ∧ (k = 0 → v = b.toInt64) ∧ Rel S1 M1)
def Op_hatch (Rel : St → St → Prop) : Prop := ∀ (S M : St) (p0 : Int32) (p1 : Int32) (v : Int64), Rel S M → PX5_hatch p0 p1 S (fun r S1 => Q_hatch Rel p0 p1 M 0 r.toInt64 S1) (fun E S1 => (E = "java/lang/IllegalArgumentException" ∧ Q_hatch Rel p0 p1 M 1 v S1))
set_option maxHeartbeats 4000000 in
set_option maxRecDepth 100000 in
theorem law_14 {p : Program} {l : Launch} {e : Env} {s : State} {m : MethodId} {below : List Frame} {meth : Method} {c9 : Code} {b L : Nat} {xs : Nat → Int32} {D : va_G} {a : Nat → Nat} {c : Nat → ClassId} {o : Nat} {co : ClassId} {a2 : Nat → Nat} {c2 : Nat → ClassId} {Q : State → Prop} {Rel : St → St → Prop} (E0 : LawE p l s m meth c9 b L xs D a c o co a2 c2) (op : Op_hatch Rel) (x4 : Int32) (hin1 : vp_in (x4 + 1) L) (hin2 : vp_in (x4 + 2) L) (hin3 : vp_in (x4 + 3) L) (hin4 : vp_in (x4 + 4) L) (cells slots : Nat) (hcl : cells + 4 ≤ 601024) (hsl : slots + 24 ≤ 7293034)
    (hk : ∀ (u : Lo) (M : St) (H : Heap) (locs : List Loc) (ls : Array Slot), Rel u.1 M → va_P D vwCl (ww a c o co u ++ mw a2 c2 M) H → va_S (lA s) s.heap H locs → lv_has ls 8 [(0, .ref b), (1, .ref (a 0)), (2, .ref (a2 0)), (3, .ref o), (4, .int x4)] → W p l e room_1 s m #[Value.ref b] below meth c9 H locs (cells + 4) (slots + 24) Q (F0 m 1169 ls []))
    (u : Lo) (M : St) (H : Heap) (locs : List Loc) (ls : Array Slot) (hR : Rel u.1 M) (hP : va_P D vwCl (ww a c o co u ++ mw a2 c2 M) H) (hS : va_S (lA s) s.heap H locs) (hl : lv_has ls 8 [(0, .ref b), (1, .ref (a 0)), (2, .ref (a2 0)), (3, .ref o), (4, .int x4)]) : W p l e room_1 s m #[Value.ref b] below meth c9 H locs cells slots Q (F0 m 1007 ls []) := by
  obtain ⟨⟨hx, hb, hr, hml, hown, hts0, hX, hbl, hlocks, hgv⟩, hl0, hKw, hKm, hN, hT, hC, hD⟩ := E0
  have hts := fun w h => hts0 w (wsL_law_in w h)
  have hA : ∀ q : Nat, s.heap.size ≤ q → lA s q := fun _ h => h
  have hbA : ¬ lA s b := Nat.not_le.mpr hbl
  have hKc : va_K D vwCl (cty c) s := hKw.sub [0, 1, 2, 3, 4, 5, 6, 7, 8, 9, 10, 11, 12, 13, 14, 15, 16, 17] rfl
  have hf0c : cells + 0 ≤ 601024 := by omega
  have hf0s : slots + 0 ≤ 7293034 := by omega
  have hfc : ∀ z, z ≤ 4 → cells + z + 0 ≤ 601024 := fun z hz => by omega
  have hfs : ∀ z, z ≤ 24 → slots + z + 0 ≤ 7293034 := fun z hz => by omega
  refine lv_aload_n hx hb dL_law_1007 rfl (lv_at hl 1 rfl) ?_
  refine lv_aload_n hx hb dL_law_1008 rfl (lv_at hl 0 rfl) ?_
  refine lv_iload hx hb dL_law_1009 (lv_at hl 4 rfl) ?_
  refine lv_iconst (v := 1) hx hb dL_law_1011 (by decide) ?_
  refine lv_iadd hx hb dL_law_1012 ?_
  refine va_sld hx hb hX hbl hbA hS hin1 dL_law_1013 ?_
  refine lv_aload_n hx hb dL_law_1014 rfl (lv_at hl 0 rfl) ?_
  refine lv_iload hx hb dL_law_1015 (lv_at hl 4 rfl) ?_
  refine lv_iconst (v := 2) hx hb dL_law_1017 (by decide) ?_
  refine lv_iadd hx hb dL_law_1018 ?_
  refine va_sld hx hb hX hbl hbA hS hin2 dL_law_1019 ?_
  refine lv_aload_n hx hb dL_law_1020 rfl (lv_at hl 3 rfl) ?_
  refine z_iL (wf := ww a c o co) (l_runS (As := [.ref (a 0), .int (xs (x4 + 1).toNatClampNeg), .int (xs (x4 + 2).toNatClampNeg), .ref o]) (rest := []) ⟨hx, hb, hml, hown, hts⟩ (tL_hatch l D a c o co _ (xs (x4 + 1).toNatClampNeg) (xs (x4 + 2).toNatClampNeg) u (fun k v => Q_hatch Rel (xs (x4 + 1).toNatClampNeg) (xs (x4 + 2).toNatClampNeg) M k (v.2 0) v.1) hl0 (op u.1 M (xs (x4 + 1).toNatClampNeg) (xs (x4 + 2).toNatClampNeg) (u.2 0) hR)) (vx_cwSW 4 hts gL_law_L_hatch rfl rfl rfl (by decide +kernel) ⟨Nat.le_of_ble_eq_true rfl, Nat.le_of_ble_eq_true rfl⟩) (P_left hP) hKw (D_left (hD u M)) hN hT hC hS hA rfl rfl hl.1 rfl (lv_room (Nat.le_of_ble_eq_true rfl)) dL_law_1021 ⟨hfc 2 (by decide), hfs 12 (by decide)⟩) hS (hD u M) hP hA (fun k u1 H locs h hP hS => ?_)
  have hP : va_P D vwCl (ww a c o co u1 ++ mw a2 c2 M) H := hP
  obtain ⟨n6, h⟩ := h
  refine lv_istore (lv' := [(5, .int k), (0, .ref b), (1, .ref (a 0)), (2, .ref (a2 0)), (3, .ref o), (4, .int x4)]) hx hb dL_law_1024 hl (by decide) rfl (fun ls hl => ?_)
  refine lv_aload_n hx hb dL_law_1026 rfl (lv_at hl 3 rfl) ?_
  refine lv_aload_n hx hb dL_law_1027 rfl (lv_at hl 1 rfl) ?_
  refine lv_iload hx hb dL_law_1028 (lv_at hl 5 rfl) ?_
  refine lv_iconst (v := 1) hx hb dL_law_1030 (by decide) ?_
  refine lv_iadd hx hb dL_law_1031 ?_
  refine va_sld hx hb hX hbl hbA hS hin1 dL_law_1032 ?_
  refine lv_aload_n hx hb dL_law_1033 rfl (lv_at hl 1 rfl) ?_
  refine lv_iload hx hb dL_law_1034 (lv_at hl 5 rfl) ?_
  refine lv_iconst (v := 2) hx hb dL_law_1036 (by decide) ?_
  refine lv_iadd hx hb dL_law_1037 ?_
  refine va_sld hx hb hX hbl hbA hS hin2 dL_law_1038 ?_
  refine z_iR (wf := mw a2 c2) (k_runV mns_ok ⟨hx, hb, hml, hown, hts⟩ (tX6_hatch l D a2 c2 _ n6 (xs (x4 + 1).toNatClampNeg) (xs (x4 + 2).toNatClampNeg) M _ h) (cwV 2 hts gL_law_X6_hatch rfl rfl rfl (by decide +kernel) ⟨Nat.le_of_ble_eq_true rfl, Nat.le_of_ble_eq_true rfl⟩) (va_recv hKm (P_right hP) (ci := 6) (q0 := 0) rfl rfl) (P_right hP) hKm (D_right (hD u1 M)) (fun w hw => absurd hw List.not_mem_nil) rfl rfl hl.1 rfl (lv_room (Nat.le_of_ble_eq_true rfl)) dL_law_1039 ⟨hfc 2 (by decide), hfs 12 (by decide)⟩) hS (hD u1 M) hP hA (fun bi M1 H locs h hP hS => ?_)
  refine lv_istore (lv' := [(6, .int bi), (5, .int k), (0, .ref b), (1, .ref (a 0)), (2, .ref (a2 0)), (3, .ref o), (4, .int x4)]) hx hb dL_law_1042 hl (by decide) rfl (fun ls hl => ?_)
  refine lv_aload_n hx hb dL_law_1044 rfl (lv_at hl 4 rfl) ?_
  refine z_iR (wf := mw a2 c2) (k_runV mns_ok ⟨hx, hb, hml, hown, hts⟩ (tX6_thrown l D a2 c2 _ M1 (fun r M2 => r = M1.1 0 ∧ M2 = M1) (by unfold PX6_thrown; exact ⟨rfl, rfl⟩)) (cwV 0 hts gL_law_X6_thrown rfl rfl rfl (by decide +kernel) ⟨Nat.le_of_ble_eq_true rfl, Nat.le_of_ble_eq_true rfl⟩) (va_recv hKm (P_right hP) (ci := 6) (q0 := 0) rfl rfl) (P_right hP) hKm (D_right (hD u1 M1)) (fun w hw => absurd hw List.not_mem_nil) rfl rfl hl.1 rfl (lv_room (Nat.le_of_ble_eq_true rfl)) dL_law_1045 ⟨hfc 2 (by decide), hfs 12 (by decide)⟩) hS (hD u1 M1) hP hA (fun t9 M2 H locs ht9 hP hS => ?_)
  obtain ⟨et9, eM9⟩ := ht9
  rw [eM9] at hP
  refine lv_iload hx hb dL_law_1048 (lv_at hl 1 rfl) ?_
  refine lv_icmp_eq (tgt := 1055) hx hb dL_law_1050 (by decide) (fun c1 => ?_) (fun c1 => absurd (by rw [et9]; exact h.1) c1)
  refine lv_iload hx hb dL_law_1055 (lv_at hl 1 rfl) ?_
  refine lv_if_ne (tgt := 1072) hx hb dL_law_1057 (by decide) (fun c2 => ?_) (fun c2 => ?_)
  · refine lv_goto (tgt := 1169) hx hb dL_law_1072 (by decide) ?_
    refine W.widen (k := cells + 4) (n := slots + 24) (by omega) (by omega) ?_
    exact hk u1 M1 _ _ ls h.2.2 hP hS (lv_sub hl [2, 3, 4, 5, 6] rfl)
  · have h2 := h.2.1 c2
    refine lv_aload_n hx hb dL_law_1060 rfl (lv_at hl 5 rfl) ?_
    refine lv_iconst (v := 0) hx hb dL_law_1061 (by decide) ?_
    refine va_lald (D := D) (f := u1.2) hx hb hKw (P_left hP) 24 18 rfl rfl in01 dL_law_1062 ?_
    refine lv_iload hx hb dL_law_1063 (lv_at hl 0 rfl) ?_
    refine lv_i2l hx hb dL_law_1065 rfl ?_
    refine W.lcmp hx hb dL_law_1066 ?_
    refine lv_if_eq (tgt := 1072) hx hb dL_law_1067 (by decide) (fun _ => ?_) (fun c3 => absurd (by show lg_cmp (u1.2 0) _ = 0; rw [h2]; exact lg_same _) c3)
    refine lv_goto (tgt := 1169) hx hb dL_law_1072 (by decide) ?_
    refine W.widen (k := cells + 4) (n := slots + 24) (by omega) (by omega) ?_
    exact hk u1 M1 _ _ ls h.2.2 hP hS (lv_sub hl [2, 3, 4, 5, 6] rfl)
def Q_serve (Rel : St → St → Prop) (p0 : Int32) (M : St) (k : Int32) (v : Int64) (S1 : St) : Prop := ∃ n : Nat, PX6_serve n p0 M (fun b M1 => M1.1 0 = k ∧ (k = 0 → v = b.toInt64) ∧ Rel S1 M1)
def Op_serve (Rel : St → St → Prop) : Prop := ∀ (S M : St) (p0 : Int32) (v : Int64), Rel S M → PX5_serve p0 S (fun r S1 => Q_serve Rel p0 M 0 r.toInt64 S1) (fun E S1 => (E = "java/lang/IllegalArgumentException" ∧ Q_serve Rel p0 M 1 v S1))
set_option maxHeartbeats 4000000 in
set_option maxRecDepth 100000 in
theorem law_15 {p : Program} {l : Launch} {e : Env} {s : State} {m : MethodId} {below : List Frame} {meth : Method} {c9 : Code} {b L : Nat} {xs : Nat → Int32} {D : va_G} {a : Nat → Nat} {c : Nat → ClassId} {o : Nat} {co : ClassId} {a2 : Nat → Nat} {c2 : Nat → ClassId} {Q : State → Prop} {Rel : St → St → Prop} (E0 : LawE p l s m meth c9 b L xs D a c o co a2 c2) (op : Op_serve Rel) (x4 : Int32) (hin1 : vp_in (x4 + 1) L) (hin2 : vp_in (x4 + 2) L) (hin3 : vp_in (x4 + 3) L) (hin4 : vp_in (x4 + 4) L) (cells slots : Nat) (hcl : cells + 4 ≤ 601024) (hsl : slots + 24 ≤ 7293034)
    (hk : ∀ (u : Lo) (M : St) (H : Heap) (locs : List Loc) (ls : Array Slot), Rel u.1 M → va_P D vwCl (ww a c o co u ++ mw a2 c2 M) H → va_S (lA s) s.heap H locs → lv_has ls 8 [(0, .ref b), (1, .ref (a 0)), (2, .ref (a2 0)), (3, .ref o), (4, .int x4)] → W p l e room_1 s m #[Value.ref b] below meth c9 H locs (cells + 4) (slots + 24) Q (F0 m 1169 ls []))
    (u : Lo) (M : St) (H : Heap) (locs : List Loc) (ls : Array Slot) (hR : Rel u.1 M) (hP : va_P D vwCl (ww a c o co u ++ mw a2 c2 M) H) (hS : va_S (lA s) s.heap H locs) (hl : lv_has ls 8 [(0, .ref b), (1, .ref (a 0)), (2, .ref (a2 0)), (3, .ref o), (4, .int x4)]) : W p l e room_1 s m #[Value.ref b] below meth c9 H locs cells slots Q (F0 m 1075 ls []) := by
  obtain ⟨⟨hx, hb, hr, hml, hown, hts0, hX, hbl, hlocks, hgv⟩, hl0, hKw, hKm, hN, hT, hC, hD⟩ := E0
  have hts := fun w h => hts0 w (wsL_law_in w h)
  have hA : ∀ q : Nat, s.heap.size ≤ q → lA s q := fun _ h => h
  have hbA : ¬ lA s b := Nat.not_le.mpr hbl
  have hKc : va_K D vwCl (cty c) s := hKw.sub [0, 1, 2, 3, 4, 5, 6, 7, 8, 9, 10, 11, 12, 13, 14, 15, 16, 17] rfl
  have hf0c : cells + 0 ≤ 601024 := by omega
  have hf0s : slots + 0 ≤ 7293034 := by omega
  have hfc : ∀ z, z ≤ 4 → cells + z + 0 ≤ 601024 := fun z hz => by omega
  have hfs : ∀ z, z ≤ 24 → slots + z + 0 ≤ 7293034 := fun z hz => by omega
  refine lv_aload_n hx hb dL_law_1075 rfl (lv_at hl 1 rfl) ?_
  refine lv_aload_n hx hb dL_law_1076 rfl (lv_at hl 0 rfl) ?_
  refine lv_iload hx hb dL_law_1077 (lv_at hl 4 rfl) ?_
  refine lv_iconst (v := 1) hx hb dL_law_1079 (by decide) ?_
  refine lv_iadd hx hb dL_law_1080 ?_
  refine va_sld hx hb hX hbl hbA hS hin1 dL_law_1081 ?_
  refine lv_aload_n hx hb dL_law_1082 rfl (lv_at hl 3 rfl) ?_
  refine z_iL (wf := ww a c o co) (l_runS (As := [.ref (a 0), .int (xs (x4 + 1).toNatClampNeg), .ref o]) (rest := []) ⟨hx, hb, hml, hown, hts⟩ (tL_serve l D a c o co _ (xs (x4 + 1).toNatClampNeg) u (fun k v => Q_serve Rel (xs (x4 + 1).toNatClampNeg) M k (v.2 0) v.1) hl0 (op u.1 M (xs (x4 + 1).toNatClampNeg) (u.2 0) hR)) (vx_cwSW 3 hts gL_law_L_serve rfl rfl rfl (by decide +kernel) ⟨Nat.le_of_ble_eq_true rfl, Nat.le_of_ble_eq_true rfl⟩) (P_left hP) hKw (D_left (hD u M)) hN hT hC hS hA rfl rfl hl.1 rfl (lv_room (Nat.le_of_ble_eq_true rfl)) dL_law_1083 ⟨hfc 1 (by decide), hfs 6 (by decide)⟩) hS (hD u M) hP hA (fun k u1 H locs h hP hS => ?_)
  have hP : va_P D vwCl (ww a c o co u1 ++ mw a2 c2 M) H := hP
  obtain ⟨n6, h⟩ := h
  refine lv_istore (lv' := [(5, .int k), (0, .ref b), (1, .ref (a 0)), (2, .ref (a2 0)), (3, .ref o), (4, .int x4)]) hx hb dL_law_1086 hl (by decide) rfl (fun ls hl => ?_)
  refine lv_aload_n hx hb dL_law_1088 rfl (lv_at hl 3 rfl) ?_
  refine lv_aload_n hx hb dL_law_1089 rfl (lv_at hl 1 rfl) ?_
  refine lv_iload hx hb dL_law_1090 (lv_at hl 5 rfl) ?_
  refine lv_iconst (v := 1) hx hb dL_law_1092 (by decide) ?_
  refine lv_iadd hx hb dL_law_1093 ?_
  refine va_sld hx hb hX hbl hbA hS hin1 dL_law_1094 ?_
  refine z_iR (wf := mw a2 c2) (k_runV mns_ok ⟨hx, hb, hml, hown, hts⟩ (tX6_serve l D a2 c2 _ n6 (xs (x4 + 1).toNatClampNeg) M _ h) (cwV 1 hts gL_law_X6_serve rfl rfl rfl (by decide +kernel) ⟨Nat.le_of_ble_eq_true rfl, Nat.le_of_ble_eq_true rfl⟩) (va_recv hKm (P_right hP) (ci := 6) (q0 := 0) rfl rfl) (P_right hP) hKm (D_right (hD u1 M)) (fun w hw => absurd hw List.not_mem_nil) rfl rfl hl.1 rfl (lv_room (Nat.le_of_ble_eq_true rfl)) dL_law_1095 ⟨hfc 1 (by decide), hfs 6 (by decide)⟩) hS (hD u1 M) hP hA (fun bi M1 H locs h hP hS => ?_)
  refine lv_istore (lv' := [(6, .int bi), (5, .int k), (0, .ref b), (1, .ref (a 0)), (2, .ref (a2 0)), (3, .ref o), (4, .int x4)]) hx hb dL_law_1098 hl (by decide) rfl (fun ls hl => ?_)
  refine lv_aload_n hx hb dL_law_1100 rfl (lv_at hl 4 rfl) ?_
  refine z_iR (wf := mw a2 c2) (k_runV mns_ok ⟨hx, hb, hml, hown, hts⟩ (tX6_thrown l D a2 c2 _ M1 (fun r M2 => r = M1.1 0 ∧ M2 = M1) (by unfold PX6_thrown; exact ⟨rfl, rfl⟩)) (cwV 0 hts gL_law_X6_thrown rfl rfl rfl (by decide +kernel) ⟨Nat.le_of_ble_eq_true rfl, Nat.le_of_ble_eq_true rfl⟩) (va_recv hKm (P_right hP) (ci := 6) (q0 := 0) rfl rfl) (P_right hP) hKm (D_right (hD u1 M1)) (fun w hw => absurd hw List.not_mem_nil) rfl rfl hl.1 rfl (lv_room (Nat.le_of_ble_eq_true rfl)) dL_law_1101 ⟨hfc 1 (by decide), hfs 6 (by decide)⟩) hS (hD u1 M1) hP hA (fun t9 M2 H locs ht9 hP hS => ?_)
  obtain ⟨et9, eM9⟩ := ht9
  rw [eM9] at hP
  refine lv_iload hx hb dL_law_1104 (lv_at hl 1 rfl) ?_
  refine lv_icmp_eq (tgt := 1111) hx hb dL_law_1106 (by decide) (fun c1 => ?_) (fun c1 => absurd (by rw [et9]; exact h.1) c1)
  refine lv_iload hx hb dL_law_1111 (lv_at hl 1 rfl) ?_
  refine lv_if_ne (tgt := 1128) hx hb dL_law_1113 (by decide) (fun c2 => ?_) (fun c2 => ?_)
  · refine lv_goto (tgt := 1169) hx hb dL_law_1128 (by decide) ?_
    refine W.widen (k := cells + 4) (n := slots + 24) (by omega) (by omega) ?_
    exact hk u1 M1 _ _ ls h.2.2 hP hS (lv_sub hl [2, 3, 4, 5, 6] rfl)
  · have h2 := h.2.1 c2
    refine lv_aload_n hx hb dL_law_1116 rfl (lv_at hl 5 rfl) ?_
    refine lv_iconst (v := 0) hx hb dL_law_1117 (by decide) ?_
    refine va_lald (D := D) (f := u1.2) hx hb hKw (P_left hP) 24 18 rfl rfl in01 dL_law_1118 ?_
    refine lv_iload hx hb dL_law_1119 (lv_at hl 0 rfl) ?_
    refine lv_i2l hx hb dL_law_1121 rfl ?_
    refine W.lcmp hx hb dL_law_1122 ?_
    refine lv_if_eq (tgt := 1128) hx hb dL_law_1123 (by decide) (fun _ => ?_) (fun c3 => absurd (by show lg_cmp (u1.2 0) _ = 0; rw [h2]; exact lg_same _) c3)
    refine lv_goto (tgt := 1169) hx hb dL_law_1128 (by decide) ?_
    refine W.widen (k := cells + 4) (n := slots + 24) (by omega) (by omega) ?_
    exact hk u1 M1 _ _ ls h.2.2 hP hS (lv_sub hl [2, 3, 4, 5, 6] rfl)
def Op_empty (Rel : St → St → Prop) : Prop := ∀ (S M : St) , Rel S M → PX5_empty S (fun r S1 => PX6_empty M (fun b M1 => r = b ∧ Rel S1 M1))
set_option maxHeartbeats 4000000 in
set_option maxRecDepth 100000 in
theorem law_16 {p : Program} {l : Launch} {e : Env} {s : State} {m : MethodId} {below : List Frame} {meth : Method} {c9 : Code} {b L : Nat} {xs : Nat → Int32} {D : va_G} {a : Nat → Nat} {c : Nat → ClassId} {o : Nat} {co : ClassId} {a2 : Nat → Nat} {c2 : Nat → ClassId} {Q : State → Prop} {Rel : St → St → Prop} (E0 : LawE p l s m meth c9 b L xs D a c o co a2 c2) (op : Op_empty Rel) (x4 : Int32) (hin1 : vp_in (x4 + 1) L) (hin2 : vp_in (x4 + 2) L) (hin3 : vp_in (x4 + 3) L) (hin4 : vp_in (x4 + 4) L) (cells slots : Nat) (hcl : cells + 4 ≤ 601024) (hsl : slots + 24 ≤ 7293034)
    (hk : ∀ (u : Lo) (M : St) (H : Heap) (locs : List Loc) (ls : Array Slot), Rel u.1 M → va_P D vwCl (ww a c o co u ++ mw a2 c2 M) H → va_S (lA s) s.heap H locs → lv_has ls 8 [(0, .ref b), (1, .ref (a 0)), (2, .ref (a2 0)), (3, .ref o), (4, .int x4)] → W p l e room_1 s m #[Value.ref b] below meth c9 H locs (cells + 4) (slots + 24) Q (F0 m 1169 ls []))
    (u : Lo) (M : St) (H : Heap) (locs : List Loc) (ls : Array Slot) (hR : Rel u.1 M) (hP : va_P D vwCl (ww a c o co u ++ mw a2 c2 M) H) (hS : va_S (lA s) s.heap H locs) (hl : lv_has ls 8 [(0, .ref b), (1, .ref (a 0)), (2, .ref (a2 0)), (3, .ref o), (4, .int x4)]) : W p l e room_1 s m #[Value.ref b] below meth c9 H locs cells slots Q (F0 m 1131 ls []) := by
  obtain ⟨⟨hx, hb, hr, hml, hown, hts0, hX, hbl, hlocks, hgv⟩, hl0, hKw, hKm, hN, hT, hC, hD⟩ := E0
  have hts := fun w h => hts0 w (wsL_law_in w h)
  have hA : ∀ q : Nat, s.heap.size ≤ q → lA s q := fun _ h => h
  have hbA : ¬ lA s b := Nat.not_le.mpr hbl
  have hKc : va_K D vwCl (cty c) s := hKw.sub [0, 1, 2, 3, 4, 5, 6, 7, 8, 9, 10, 11, 12, 13, 14, 15, 16, 17] rfl
  have hf0c : cells + 0 ≤ 601024 := by omega
  have hf0s : slots + 0 ≤ 7293034 := by omega
  have hfc : ∀ z, z ≤ 4 → cells + z + 0 ≤ 601024 := fun z hz => by omega
  have hfs : ∀ z, z ≤ 24 → slots + z + 0 ≤ 7293034 := fun z hz => by omega
  refine lv_aload_n hx hb dL_law_1131 rfl (lv_at hl 1 rfl) ?_
  have h := op u.1 M hR
  have hP0 : va_P D vwCl (cw a c u.1 ++ (ow o co u.2 ++ mw a2 c2 M)) _ := hP
  have hD0 : va_D (lA s) (cw a c u.1 ++ (ow o co u.2 ++ mw a2 c2 M)) := hD u M
  refine z_iL (wf := cw a c) (k_runV cns_ok ⟨hx, hb, hml, hown, hts⟩ (tX5_empty l D a c _  u.1 _ h) (cwV 0 hts gL_law_X5_empty rfl rfl rfl (by decide +kernel) ⟨Nat.le_of_ble_eq_true rfl, Nat.le_of_ble_eq_true rfl⟩) (va_recv hKc (P_left hP0) (ci := 5) (q0 := 0) rfl rfl) (P_left hP0) hKc (D_left hD0) hN rfl rfl hl.1 rfl (lv_room (Nat.le_of_ble_eq_true rfl)) dL_law_1132 ⟨hf0c, hf0s⟩) hS hD0 hP0 hA (fun k S1 H locs h hP hS => ?_)
  have hP : va_P D vwCl (ww a c o co (S1, u.2) ++ mw a2 c2 M) H := hP
  obtain ⟨u1, eu1⟩ : ∃ z : Lo, z = (S1, u.2) := ⟨_, rfl⟩
  have eS1 : S1 = u1.1 := by rw [eu1]
  rw [← eu1] at hP
  rw [eS1] at h
  refine lv_aload_n hx hb dL_law_1135 rfl (lv_at hl 2 rfl) ?_
  refine z_iR (wf := mw a2 c2) (k_runV mns_ok ⟨hx, hb, hml, hown, hts⟩ (tX6_empty l D a2 c2 _  M _ h) (cwV 0 hts gL_law_X6_empty rfl rfl rfl (by decide +kernel) ⟨Nat.le_of_ble_eq_true rfl, Nat.le_of_ble_eq_true rfl⟩) (va_recv hKm (P_right hP) (ci := 6) (q0 := 0) rfl rfl) (P_right hP) hKm (D_right (hD u1 M)) (fun w hw => absurd hw List.not_mem_nil) rfl rfl hl.1 rfl (lv_room (Nat.le_of_ble_eq_true rfl)) dL_law_1136 ⟨hf0c, hf0s⟩) hS (hD u1 M) hP hA (fun bi M1 H locs h hP hS => ?_)
  refine lv_icmp_eq (tgt := 1169) hx hb dL_law_1139 (by decide) (fun c1 => ?_) (fun c1 => absurd h.1 c1)
  refine W.widen (k := cells + 4) (n := slots + 24) (by omega) (by omega) ?_
  exact hk u1 M1 _ _ ls h.2 hP hS (lv_sub hl [0, 1, 2, 3, 4] rfl)
def Op_count (Rel : St → St → Prop) : Prop := ∀ (S M : St) (p0 : Int32) , Rel S M → PX5_count p0 S (fun r S1 => ∃ n : Nat, PX6_count n p0 M (fun b M1 => r = b ∧ Rel S1 M1))
set_option maxHeartbeats 4000000 in
set_option maxRecDepth 100000 in
theorem law_17 {p : Program} {l : Launch} {e : Env} {s : State} {m : MethodId} {below : List Frame} {meth : Method} {c9 : Code} {b L : Nat} {xs : Nat → Int32} {D : va_G} {a : Nat → Nat} {c : Nat → ClassId} {o : Nat} {co : ClassId} {a2 : Nat → Nat} {c2 : Nat → ClassId} {Q : State → Prop} {Rel : St → St → Prop} (E0 : LawE p l s m meth c9 b L xs D a c o co a2 c2) (op : Op_count Rel) (x4 : Int32) (hin1 : vp_in (x4 + 1) L) (hin2 : vp_in (x4 + 2) L) (hin3 : vp_in (x4 + 3) L) (hin4 : vp_in (x4 + 4) L) (cells slots : Nat) (hcl : cells + 4 ≤ 601024) (hsl : slots + 24 ≤ 7293034)
    (hk : ∀ (u : Lo) (M : St) (H : Heap) (locs : List Loc) (ls : Array Slot), Rel u.1 M → va_P D vwCl (ww a c o co u ++ mw a2 c2 M) H → va_S (lA s) s.heap H locs → lv_has ls 8 [(0, .ref b), (1, .ref (a 0)), (2, .ref (a2 0)), (3, .ref o), (4, .int x4)] → W p l e room_1 s m #[Value.ref b] below meth c9 H locs (cells + 4) (slots + 24) Q (F0 m 1169 ls []))
    (u : Lo) (M : St) (H : Heap) (locs : List Loc) (ls : Array Slot) (hR : Rel u.1 M) (hP : va_P D vwCl (ww a c o co u ++ mw a2 c2 M) H) (hS : va_S (lA s) s.heap H locs) (hl : lv_has ls 8 [(0, .ref b), (1, .ref (a 0)), (2, .ref (a2 0)), (3, .ref o), (4, .int x4)]) : W p l e room_1 s m #[Value.ref b] below meth c9 H locs cells slots Q (F0 m 1144 ls []) := by
  obtain ⟨⟨hx, hb, hr, hml, hown, hts0, hX, hbl, hlocks, hgv⟩, hl0, hKw, hKm, hN, hT, hC, hD⟩ := E0
  have hts := fun w h => hts0 w (wsL_law_in w h)
  have hA : ∀ q : Nat, s.heap.size ≤ q → lA s q := fun _ h => h
  have hbA : ¬ lA s b := Nat.not_le.mpr hbl
  have hKc : va_K D vwCl (cty c) s := hKw.sub [0, 1, 2, 3, 4, 5, 6, 7, 8, 9, 10, 11, 12, 13, 14, 15, 16, 17] rfl
  have hf0c : cells + 0 ≤ 601024 := by omega
  have hf0s : slots + 0 ≤ 7293034 := by omega
  have hfc : ∀ z, z ≤ 4 → cells + z + 0 ≤ 601024 := fun z hz => by omega
  have hfs : ∀ z, z ≤ 24 → slots + z + 0 ≤ 7293034 := fun z hz => by omega
  refine lv_aload_n hx hb dL_law_1144 rfl (lv_at hl 1 rfl) ?_
  refine lv_aload_n hx hb dL_law_1145 rfl (lv_at hl 0 rfl) ?_
  refine lv_iload hx hb dL_law_1146 (lv_at hl 4 rfl) ?_
  refine lv_iconst (v := 1) hx hb dL_law_1148 (by decide) ?_
  refine lv_iadd hx hb dL_law_1149 ?_
  refine va_sld hx hb hX hbl hbA hS hin1 dL_law_1150 ?_
  have h := op u.1 M (xs (x4 + 1).toNatClampNeg) hR
  have hP0 : va_P D vwCl (cw a c u.1 ++ (ow o co u.2 ++ mw a2 c2 M)) _ := hP
  have hD0 : va_D (lA s) (cw a c u.1 ++ (ow o co u.2 ++ mw a2 c2 M)) := hD u M
  refine z_iL (wf := cw a c) (k_runV cns_ok ⟨hx, hb, hml, hown, hts⟩ (tX5_count l D a c _ (xs (x4 + 1).toNatClampNeg) u.1 _ h) (cwV 1 hts gL_law_X5_count rfl rfl rfl (by decide +kernel) ⟨Nat.le_of_ble_eq_true rfl, Nat.le_of_ble_eq_true rfl⟩) (va_recv hKc (P_left hP0) (ci := 5) (q0 := 0) rfl rfl) (P_left hP0) hKc (D_left hD0) hN rfl rfl hl.1 rfl (lv_room (Nat.le_of_ble_eq_true rfl)) dL_law_1151 ⟨hf0c, hf0s⟩) hS hD0 hP0 hA (fun k S1 H locs h hP hS => ?_)
  have hP : va_P D vwCl (ww a c o co (S1, u.2) ++ mw a2 c2 M) H := hP
  obtain ⟨u1, eu1⟩ : ∃ z : Lo, z = (S1, u.2) := ⟨_, rfl⟩
  have eS1 : S1 = u1.1 := by rw [eu1]
  rw [← eu1] at hP
  rw [eS1] at h
  obtain ⟨n6, h⟩ := h
  refine lv_aload_n hx hb dL_law_1154 rfl (lv_at hl 2 rfl) ?_
  refine lv_aload_n hx hb dL_law_1155 rfl (lv_at hl 0 rfl) ?_
  refine lv_iload hx hb dL_law_1156 (lv_at hl 4 rfl) ?_
  refine lv_iconst (v := 1) hx hb dL_law_1158 (by decide) ?_
  refine lv_iadd hx hb dL_law_1159 ?_
  refine va_sld hx hb hX hbl hbA hS hin1 dL_law_1160 ?_
  refine z_iR (wf := mw a2 c2) (k_runV mns_ok ⟨hx, hb, hml, hown, hts⟩ (tX6_count l D a2 c2 _ n6 (xs (x4 + 1).toNatClampNeg) M _ h) (cwV 1 hts gL_law_X6_count rfl rfl rfl (by decide +kernel) ⟨Nat.le_of_ble_eq_true rfl, Nat.le_of_ble_eq_true rfl⟩) (va_recv hKm (P_right hP) (ci := 6) (q0 := 0) rfl rfl) (P_right hP) hKm (D_right (hD u1 M)) (fun w hw => absurd hw List.not_mem_nil) rfl rfl hl.1 rfl (lv_room (Nat.le_of_ble_eq_true rfl)) dL_law_1161 ⟨hf0c, hf0s⟩) hS (hD u1 M) hP hA (fun bi M1 H locs h hP hS => ?_)
  refine lv_icmp_eq (tgt := 1169) hx hb dL_law_1164 (by decide) (fun c1 => ?_) (fun c1 => absurd h.1 c1)
  refine W.widen (k := cells + 4) (n := slots + 24) (by omega) (by omega) ?_
  exact hk u1 M1 _ _ ls h.2 hP hS (lv_sub hl [0, 1, 2, 3, 4] rfl)
