/-! two worlds side by side: a call that has one of them leaves the other -/
theorem P_left {D : va_G} {cl : List vw_C} {W1 X : va_W} {H : Heap} (h : va_P D cl (W1 ++ X) H) : va_P D cl W1 H := fun k q hk => h k q (by
  rw [List.getElem?_append_left (List.getElem?_eq_some_iff.mp hk).1]; exact hk)
theorem P_right {D : va_G} {cl : List vw_C} {W1 X : va_W} {H : Heap} (h : va_P D cl (W1 ++ X) H) : va_P D cl X H := fun k q hk => h (W1.length + k) q (by
  rw [List.getElem?_append_right (Nat.le_add_right _ _), Nat.add_sub_cancel_left]; exact hk)
theorem D_left {A : Nat → Prop} {W1 X : va_W} (h : va_D A (W1 ++ X)) : va_D A W1 :=
  have key : ∀ (k : Nat) (q : Nat × va_E), W1[k]? = some q → (W1 ++ X)[k]? = some q := fun k q hk => by rw [List.getElem?_append_left (List.getElem?_eq_some_iff.mp hk).1]; exact hk
  ⟨fun i j p q hi hj e => h.1 i j p q (key i p hi) (key j q hj) e, fun k q hk => h.2 k q (key k q hk)⟩
theorem D_right {A : Nat → Prop} {W1 X : va_W} (h : va_D A (W1 ++ X)) : va_D A X :=
  have key : ∀ (k : Nat) (q : Nat × va_E), X[k]? = some q → (W1 ++ X)[W1.length + k]? = some q := fun k q hk => by rw [List.getElem?_append_right (Nat.le_add_right _ _), Nat.add_sub_cancel_left]; exact hk
  ⟨fun i j p q hi hj e => Nat.add_left_cancel (h.1 _ _ p q (key i p hi) (key j q hj) e), fun k q hk => h.2 _ q (key k q hk)⟩
theorem P_app {D : va_G} {cl : List vw_C} {W1 X : va_W} {H : Heap} (h1 : va_P D cl W1 H) (h2 : va_P D cl X H) : va_P D cl (W1 ++ X) H := fun k q hk => by
  rcases Nat.lt_or_ge k W1.length with hl | hl
  · rw [List.getElem?_append_left hl] at hk; exact h1 k q hk
  · rw [List.getElem?_append_right hl] at hk; exact h2 _ q hk
/-- cells that lie apart from W1's stay where only W1's and new ones were written -/
theorem P_stay {A : Nat → Prop} {D : va_G} {cl : List vw_C} {W1 X : va_W} {H H1 : Heap} (hP : va_P D cl X H) (hap : ∀ (i j : Nat) (p q : Nat × va_E), W1[i]? = some p → X[j]? = some q → p.1 ≠ q.1) (hk : ∀ q : Nat, q < H.size → ¬ va_A W1 H.size q → H1[q]? = H[q]?) : va_P D cl X H1 :=
  hP.kept (fun k q hq => hk q.1 (hP k q hq).lt (fun h => h.elim (fun ⟨i, e, hi⟩ => hap i k (q.1, e) q hi hq rfl) (fun h => absurd (hP k q hq).lt (Nat.not_lt.mpr h))))
theorem D_apart {A : Nat → Prop} {W1 X : va_W} (h : va_D A (W1 ++ X)) : ∀ (i j : Nat) (p q : Nat × va_E), W1[i]? = some p → X[j]? = some q → p.1 ≠ q.1 := fun i j p q hi hj e => by
  have hl := (List.getElem?_eq_some_iff.mp hi).1
  have := h.1 i (W1.length + j) p q (by rw [List.getElem?_append_left hl]; exact hi) (by rw [List.getElem?_append_right (Nat.le_add_right _ _), Nat.add_sub_cancel_left]; exact hj) e
  omega
theorem gFreeL {W1 X : va_W} {A : Nat → Prop} {H0 H : Heap} {locs : List Loc} (hS : va_S A H0 H locs) (hD : va_D A W1) (hA : ∀ q, H0.size ≤ q → A q) : ∀ q, va_A W1 H.size q → A q := fun q h => h.elim (fun ⟨k, e, hk⟩ => hD.2 k (q, e) hk) (fun h => hA q (Nat.le_trans hS.1 h))
section GZ
variable {p : Program} {l : Launch} {e : Env} {R : Room} {s : State} {m : MethodId} {args : Array Value} {below : List Frame} {meth : Method} {c : Code} {H : Heap} {locs : List Loc} {cells slots mc ms : Nat} {Q : State → Prop}
variable {cc : ByteArray} {rest st0 : List Value} {pc : Nat} {ls : Array Slot} {a : Array Value}
variable {D : va_G} {w : St → va_W} {S : St} {A : Nat → Prop} {postx : String → St → Prop} {X W1 : va_W} {H0 : Heap} {U : Type} {wf : U → va_W}
theorem y_i {post : Int32 → St → Prop} (hr : vx_Run p l e R s m args below meth c H locs cells slots mc ms (F0 m pc ls st0) rest (va_Qi post (gB D w) (va_A (w S) H.size) a) (xX D w postx (va_A (w S) H.size)) (va_A (w S) H.size)) (hS : va_S A s.heap H locs) (hD : va_D A (w S ++ X)) (hP : va_P D vwCl (w S ++ X) H) (hA : ∀ q, s.heap.size ≤ q → A q)
    (kx : ∀ (E : String) (q9 : Addr) (ce : Cell) (S9 : St) (H1 : Heap) (locs1 : List Loc), postx E S9 → va_P D vwCl (w S9 ++ X) H1 → va_S A s.heap H1 locs1 → H1[q9]? = some ce → ce.vm = .none → s.vm.findClass E = some ce.cls → vx_W p l e R s m args below meth c H1 locs1 (cells + mc) (slots + ms) Q (F0 m pc ls rest) q9)
    (kk : ∀ (r : Int32) (S' : St) (H1 : Heap) (locs1 : List Loc), post r S' → va_P D vwCl (w S' ++ X) H1 → va_S A s.heap H1 locs1 → W p l e R s m args below meth c H1 locs1 (cells + mc) (slots + ms) Q (F0 m (pc + 3) ls (.int r :: rest))) : W p l e R s m args below meth c H locs cells slots Q (F0 m pc ls st0) :=
  have hF := gFreeL (X := X) hS (D_left hD) hA
  vx_calli hr hS (fun q _ h => hF q h) hF (fun q _ h => hF q h)
    (fun E ce q9 u t H1 locs1 ht _ hp hB _ hk hS1 hq hv hcl => kx E q9 ce u.2 H1 locs1 (by rw [hB.1]; exact hp) (P_app (by rw [← ht]; exact hB.2) (P_stay (A := A) (P_right hP) (D_apart hD) hk)) hS1 hq hv hcl)
    (fun r u t H1 locs1 ht _ hw hB _ hk hS1 => kk r u H1 locs1 hw (P_app (by rw [← ht]; exact hB) (P_stay (A := A) (P_right hP) (D_apart hD) hk)) hS1)
theorem y_l {post : Int64 → St → Prop} (hr : vx_Run p l e R s m args below meth c H locs cells slots mc ms (F0 m pc ls st0) rest (va_Ql post (gB D w) (va_A (w S) H.size) a) (xX D w postx (va_A (w S) H.size)) (va_A (w S) H.size)) (hS : va_S A s.heap H locs) (hD : va_D A (w S ++ X)) (hP : va_P D vwCl (w S ++ X) H) (hA : ∀ q, s.heap.size ≤ q → A q)
    (kx : ∀ (E : String) (q9 : Addr) (ce : Cell) (S9 : St) (H1 : Heap) (locs1 : List Loc), postx E S9 → va_P D vwCl (w S9 ++ X) H1 → va_S A s.heap H1 locs1 → H1[q9]? = some ce → ce.vm = .none → s.vm.findClass E = some ce.cls → vx_W p l e R s m args below meth c H1 locs1 (cells + mc) (slots + ms) Q (F0 m pc ls rest) q9)
    (kk : ∀ (r : Int64) (S' : St) (H1 : Heap) (locs1 : List Loc), post r S' → va_P D vwCl (w S' ++ X) H1 → va_S A s.heap H1 locs1 → W p l e R s m args below meth c H1 locs1 (cells + mc) (slots + ms) Q (F0 m (pc + 3) ls (.long r :: rest))) : W p l e R s m args below meth c H locs cells slots Q (F0 m pc ls st0) :=
  have hF := gFreeL (X := X) hS (D_left hD) hA
  vx_calll hr hS (fun q _ h => hF q h) hF (fun q _ h => hF q h)
    (fun E ce q9 u t H1 locs1 ht _ hp hB _ hk hS1 hq hv hcl => kx E q9 ce u.2 H1 locs1 (by rw [hB.1]; exact hp) (P_app (by rw [← ht]; exact hB.2) (P_stay (A := A) (P_right hP) (D_apart hD) hk)) hS1 hq hv hcl)
    (fun r u t H1 locs1 ht _ hw hB _ hk hS1 => kk r u H1 locs1 hw (P_app (by rw [← ht]; exact hB) (P_stay (A := A) (P_right hP) (D_apart hD) hk)) hS1)
theorem y_v {post : St → Prop} (hr : vx_Run p l e R s m args below meth c H locs cells slots mc ms (F0 m pc ls st0) rest (va_Qv post (gB D w) (va_A (w S) H.size) a) (xX D w postx (va_A (w S) H.size)) (va_A (w S) H.size)) (hS : va_S A s.heap H locs) (hD : va_D A (w S ++ X)) (hP : va_P D vwCl (w S ++ X) H) (hA : ∀ q, s.heap.size ≤ q → A q)
    (kx : ∀ (E : String) (q9 : Addr) (ce : Cell) (S9 : St) (H1 : Heap) (locs1 : List Loc), postx E S9 → va_P D vwCl (w S9 ++ X) H1 → va_S A s.heap H1 locs1 → H1[q9]? = some ce → ce.vm = .none → s.vm.findClass E = some ce.cls → vx_W p l e R s m args below meth c H1 locs1 (cells + mc) (slots + ms) Q (F0 m pc ls rest) q9)
    (kk : ∀ (S' : St) (H1 : Heap) (locs1 : List Loc), post S' → va_P D vwCl (w S' ++ X) H1 → va_S A s.heap H1 locs1 → W p l e R s m args below meth c H1 locs1 (cells + mc) (slots + ms) Q (F0 m (pc + 3) ls rest)) : W p l e R s m args below meth c H locs cells slots Q (F0 m pc ls st0) :=
  have hF := gFreeL (X := X) hS (D_left hD) hA
  vx_callv hr hS (fun q _ h => hF q h) hF (fun q _ h => hF q h)
    (fun E ce q9 u t H1 locs1 ht _ hp hB _ hk hS1 hq hv hcl => kx E q9 ce u.2 H1 locs1 (by rw [hB.1]; exact hp) (P_app (by rw [← ht]; exact hB.2) (P_stay (A := A) (P_right hP) (D_apart hD) hk)) hS1 hq hv hcl)
    (fun u t H1 locs1 ht _ hw hB _ hk hS1 => kk u H1 locs1 hw (P_app (by rw [← ht]; exact hB) (P_stay (A := A) (P_right hP) (D_apart hD) hk)) hS1)
/-- a call (that returns) over the left world, over the right one -/
theorem z_iL {post : Int32 → U → Prop} (hr : va_Run p l e R s m args below meth c H locs cells slots mc ms (F0 m pc ls st0) rest (va_Qi post (fun u t => va_P D vwCl (wf u) t.heap) (va_A W1 H.size) a) (va_A W1 H.size)) (hS : va_S A H0 H locs) (hD : va_D A (W1 ++ X)) (hP : va_P D vwCl (W1 ++ X) H) (hA : ∀ q, H0.size ≤ q → A q)
    (kk : ∀ (r : Int32) (u : U) (H1 : Heap) (locs1 : List Loc), post r u → va_P D vwCl (wf u ++ X) H1 → va_S A H0 H1 locs1 → W p l e R s m args below meth c H1 locs1 (cells + mc) (slots + ms) Q (F0 m (pc + 3) ls (.int r :: rest))) : W p l e R s m args below meth c H locs cells slots Q (F0 m pc ls st0) :=
  have hF := gFreeL (X := X) hS (D_left hD) hA
  va_calli hr hS (fun q _ h => hF q h) hF (fun r u t H1 locs1 ht _ hw hB _ hk hS1 => kk r u H1 locs1 hw (P_app (by rw [← ht]; exact hB) (P_stay (A := A) (P_right hP) (D_apart hD) hk)) hS1)
theorem D_swap {A : Nat → Prop} {W1 X : va_W} (h : va_D A (X ++ W1)) : ∀ (i j : Nat) (p q : Nat × va_E), W1[i]? = some p → X[j]? = some q → p.1 ≠ q.1 := fun i j p q hi hj e => D_apart h j i q p hj hi e.symm
theorem z_iR {post : Int32 → U → Prop} (hr : va_Run p l e R s m args below meth c H locs cells slots mc ms (F0 m pc ls st0) rest (va_Qi post (fun u t => va_P D vwCl (wf u) t.heap) (va_A W1 H.size) a) (va_A W1 H.size)) (hS : va_S A H0 H locs) (hD : va_D A (X ++ W1)) (hP : va_P D vwCl (X ++ W1) H) (hA : ∀ q, H0.size ≤ q → A q)
    (kk : ∀ (r : Int32) (u : U) (H1 : Heap) (locs1 : List Loc), post r u → va_P D vwCl (X ++ wf u) H1 → va_S A H0 H1 locs1 → W p l e R s m args below meth c H1 locs1 (cells + mc) (slots + ms) Q (F0 m (pc + 3) ls (.int r :: rest))) : W p l e R s m args below meth c H locs cells slots Q (F0 m pc ls st0) :=
  have hF := gFreeL (X := X) hS (D_right hD) hA
  va_calli hr hS (fun q _ h => hF q h) hF (fun r u t H1 locs1 ht _ hw hB _ hk hS1 => kk r u H1 locs1 hw (P_app (P_stay (A := A) (P_left hP) (D_swap hD) hk) (by rw [← ht]; exact hB)) hS1)
theorem z_lR {post : Int64 → U → Prop} (hr : va_Run p l e R s m args below meth c H locs cells slots mc ms (F0 m pc ls st0) rest (va_Ql post (fun u t => va_P D vwCl (wf u) t.heap) (va_A W1 H.size) a) (va_A W1 H.size)) (hS : va_S A H0 H locs) (hD : va_D A (X ++ W1)) (hP : va_P D vwCl (X ++ W1) H) (hA : ∀ q, H0.size ≤ q → A q)
    (kk : ∀ (r : Int64) (u : U) (H1 : Heap) (locs1 : List Loc), post r u → va_P D vwCl (X ++ wf u) H1 → va_S A H0 H1 locs1 → W p l e R s m args below meth c H1 locs1 (cells + mc) (slots + ms) Q (F0 m (pc + 3) ls (.long r :: rest))) : W p l e R s m args below meth c H locs cells slots Q (F0 m pc ls st0) :=
  have hF := gFreeL (X := X) hS (D_right hD) hA
  va_calll hr hS (fun q _ h => hF q h) hF (fun r u t H1 locs1 ht _ hw hB _ hk hS1 => kk r u H1 locs1 hw (P_app (P_stay (A := A) (P_left hP) (D_swap hD) hk) (by rw [← ht]; exact hB)) hS1)
theorem z_vR {post : U → Prop} (hr : va_Run p l e R s m args below meth c H locs cells slots mc ms (F0 m pc ls st0) rest (va_Qv post (fun u t => va_P D vwCl (wf u) t.heap) (va_A W1 H.size) a) (va_A W1 H.size)) (hS : va_S A H0 H locs) (hD : va_D A (X ++ W1)) (hP : va_P D vwCl (X ++ W1) H) (hA : ∀ q, H0.size ≤ q → A q)
    (kk : ∀ (u : U) (H1 : Heap) (locs1 : List Loc), post u → va_P D vwCl (X ++ wf u) H1 → va_S A H0 H1 locs1 → W p l e R s m args below meth c H1 locs1 (cells + mc) (slots + ms) Q (F0 m (pc + 3) ls rest)) : W p l e R s m args below meth c H locs cells slots Q (F0 m pc ls st0) :=
  have hF := gFreeL (X := X) hS (D_right hD) hA
  va_callv hr hS (fun q _ h => hF q h) hF (fun u t H1 locs1 ht _ hw hB _ hk hS1 => kk u H1 locs1 hw (P_app (P_stay (A := A) (P_left hP) (D_swap hD) hk) (by rw [← ht]; exact hB)) hS1)
theorem z_reti {post : Int32 → U → Prop} {v : Int32} {u : U} (hx : p.tables.exec = Jvm.exec) (hb : c.code = cc) (hr : meth.sig.returnType = some .int) (hlocks : meth.locks = false) (h : post v u) (hP : va_P D vwCl (wf u) H) (hS : va_S A s.heap H locs) (hdg : decode cc pc = .ok (.ireturn, 1)) :
    W p l e R s m args below meth c H locs cells slots (MQ below (va_Qi post (fun u t => va_P D vwCl (wf u) t.heap) A) args s cells slots A) (F0 m pc ls [.int v]) :=
  W.iret hx hb hr (fun t ht _ => ⟨⟨v, u, rfl, h, (by show va_P D vwCl (wf u) t.heap; rw [ht]; exact hP)⟩, hS.F ht⟩) hS.2.2 hdg hlocks
end GZ
theorem in01 : vp_in 0 1 := by unfold vp_in; decide
/-! the law's own methods: the class's world and the row of one long -/
abbrev Lo : Type := St × (Nat → Int64)
def ow (o : Nat) (co : ClassId) (f : Nat → Int64) : va_W := [(o, .inl (co, 1, .inr (.inl f)))]
def ww (a : Nat → Nat) (c : Nat → ClassId) (o : Nat) (co : ClassId) (u : Lo) : va_W := cw a c u.1 ++ ow o co u.2
def wty (c : Nat → ClassId) (co : ClassId) : List (ClassId × FieldType) := cty c ++ [(co, .long)]
def xPairs : List (String × String) := [("java/lang/IllegalArgumentException", "java/lang/IllegalStateException"), ("java/lang/IllegalArgumentException", "java/lang/IndexOutOfBoundsException"), ("java/lang/IllegalStateException", "java/lang/IllegalArgumentException"), ("java/lang/IllegalStateException", "java/lang/IndexOutOfBoundsException"), ("java/lang/IndexOutOfBoundsException", "java/lang/IllegalArgumentException"), ("java/lang/IndexOutOfBoundsException", "java/lang/IllegalStateException")]
def xC (U : State) : Prop := ∀ q ∈ xPairs, va_Nc q.1 q.2 U
def lP (D : va_G) (a : Nat → Nat) (c : Nat → ClassId) (o : Nat) (co : ClassId) (u : Lo) (sz : Nat) (U : State) : Prop :=
  U.heap.size = sz ∧ va_P D vwCl (ww a c o co u) U.heap ∧ va_K D vwCl (wty c co) U ∧ va_D (fun _ => True) (ww a c o co u) ∧ gN cns U ∧ xT (va_A (ww a c o co u) sz) U U.heap ∧ xC U
theorem lP.blind {D : va_G} {a : Nat → Nat} {c : Nat → ClassId} {o : Nat} {co : ClassId} {u : Lo} {sz : Nat} {As : List Value} : FrameBlind (va_Pc As (lP D a c o co u sz)) := fun b U g mk q => by
  obtain ⟨q0, q1, qP, qK, qD, qN, qT, qC⟩ := q
  exact ⟨q0, q1, qP, va_K.moved (u := U) (U := U.calling g mk b) (Vm.Alike.refl U.vm) qK, qD, gN.same (s := U) (U := U.calling g mk b) cns_ok rfl qN, xT.same (s := U) (U := U.calling g mk b) rfl qT, fun z hz => va_Nc.moved (u := U) (U := U.calling g mk b) (Vm.Alike.refl U.vm) (qC z hz)⟩
theorem ww_F {a : Nat → Nat} {c : Nat → ClassId} {o : Nat} {co : ClassId} {A : Nat → Prop} {u : Lo} (h : va_D A (ww a c o co u)) (u' : Lo) : va_D A (ww a c o co u') := by
  have key : ∀ (k : Nat) (q : Nat × va_E), (ww a c o co u')[k]? = some q → ∃ q0, (ww a c o co u)[k]? = some q0 ∧ q0.1 = q.1 := by
    intro k q hk
    have e : ((ww a c o co u').map Prod.fst)[k]? = some q.1 := by rw [List.getElem?_map, hk]; rfl
    rw [show (ww a c o co u').map Prod.fst = (ww a c o co u).map Prod.fst from rfl, List.getElem?_map, Option.map_eq_some_iff] at e
    exact e
  refine ⟨fun i j p q hi hj hpq => ?_, fun k q hk => ?_⟩
  · obtain ⟨p0, h1, e1⟩ := key i p hi
    obtain ⟨q0, h2, e2⟩ := key j q hj
    exact h.1 i j p0 q0 h1 h2 (by rw [e1, e2, hpq])
  · obtain ⟨q0, h1, e1⟩ := key k q hk
    rw [← e1]
    exact h.2 k q0 h1
set_option maxHeartbeats 4000000 in
set_option maxRecDepth 100000 in
theorem tL_meal (l : Launch) (D : va_G) (a : Nat → Nat) (c : Nat → ClassId) (o : Nat) (co : ClassId) (sz : Nat) (p0 p1 : Int32) (u : Lo) (post : Int32 → Lo → Prop) (hl0 : l.stackTraces = false) (h : PX5_meal p0 p1 u.1 (fun r S1 => post 0 (S1, vp_updL u.2 0 r.toInt64)) (fun E S1 => (E = "java/lang/IllegalArgumentException" ∧ post 1 (S1, u.2)) ∨ (E = "java/lang/IllegalStateException" ∧ post 2 (S1, u.2)))) : Met l yL_meal wsL_meal ({ frames := 9, cells := 3, slots := 18, locals := 184 }) (va_Pc [.ref (a 0), .int p0, .int p1, .ref o] (lP D a c o co u sz)) (va_Qi post (fun u t => va_P D vwCl (ww a c o co u) t.heap) (va_A (ww a c o co u) sz)) 3 18 (va_A (ww a c o co u) sz) := by
  refine va_MetW (cc := cL_meal) (maxL := 5) (ret := (some .int)) (hh := [(0, 10, 13, 13), (0, 10, 17, 15)]) (by decide) rfl ?_
  intro p e s m args below meth c9 s₁ B hml hv
  obtain ⟨rfl, hsz, hP, hK, hD0, hN, hT, hC⟩ := hv
  have hx := B.exec
  have hb := B.bytes
  have hr := B.returns
  have hts := atoms_spec (ws := wsL_meal) B.pre
  have hown : s.vm.findClass RL = some m.cls := findClass_of_methodNamed B.named
  have hlocks := B.notSynchronized
  have htab : c9.exceptionTable.toList = tableOf [(0, 10, 13, 13), (0, 10, 17, 15)] := vx_table (x := yL_meal) B (hts (.codeWith yL_meal cL_meal 5 (some .int) [(0, 10, 13, 13), (0, 10, 17, 15)]) List.mem_cons_self)
  subst hsz
  have hD1 := hD0.self (sz := s.heap.size)
  generalize hAe : va_A (ww a c o co u) s.heap.size = A at hD1 hT ⊢
  have hA : ∀ q : Nat, s.heap.size ≤ q → A q := fun q h => by rw [← hAe]; exact Or.inr h
  have hD : ∀ u2 : Lo, va_D A (ww a c o co u2) := ww_F hD1
  have hS : va_S A s.heap s.heap [] := va_S.rf
  have hKc : va_K D vwCl (cty c) s := hK.sub [0, 1, 2, 3, 4, 5, 6, 7, 8, 9, 10, 11, 12, 13, 14, 15, 16, 17] rfl
  have kl13 := hts (.classLink RL 13 "java/lang/IllegalArgumentException") (by decide +kernel)
  have kl15 := hts (.classLink RL 15 "java/lang/IllegalStateException") (by decide +kernel)
  have hl := lv_entry ([.ref (a 0), .int p0, .int p1, .ref o]) (n := 5) (Nat.le_of_ble_eq_true rfl)
  rw [lg_entry_eq]
  generalize (lg_sl ([.ref (a 0), .int p0, .int p1, .ref o]) ++ List.replicate (5 - (lg_sl ([.ref (a 0), .int p0, .int p1, .ref o])).length) Slot.unset).toArray = ls at hl ⊢
  have hl : lv_has ls 5 [(0, .ref (a 0)), (1, .int p0), (2, .int p1), (3, .ref o)] := hl
  refine lv_aload_n hx hb dL_meal_0 rfl (lv_at hl 3 rfl) ?_
  refine lv_iconst (v := 0) hx hb dL_meal_1 (by decide) ?_
  refine lv_aload_n hx hb dL_meal_2 rfl (lv_at hl 0 rfl) ?_
  refine lv_iload_n hx hb dL_meal_3 rfl (lv_at hl 1 rfl) ?_
  refine lv_iload_n hx hb dL_meal_4 rfl (lv_at hl 2 rfl) ?_
  refine y_i (x_runV cns_ok ⟨hx, hb, hml, hown, hts⟩ (tX5_meal l D a c _ p0 p1 u.1 _ _ hl0 h) (cwV 2 hts gL_meal_X5_meal rfl rfl rfl (by decide +kernel) ⟨Nat.le_of_ble_eq_true rfl, Nat.le_of_ble_eq_true rfl⟩) (va_recv hKc (P_left hP) (ci := 5) (q0 := 0) rfl rfl) (P_left hP) hKc (D_left (hD u)) hN hT hS hA rfl rfl hl.1 rfl (lv_room (Nat.le_of_ble_eq_true rfl)) dL_meal_5 ⟨Nat.le_of_ble_eq_true rfl, Nat.le_of_ble_eq_true rfl⟩) hS (hD u) hP hA (fun E q9 ce S9 H locs hw hP hS hq hv hcl => ?_) (fun r S1 H locs h hP hS => ?_)
  · rcases hw with ⟨rfl, h⟩ | ⟨rfl, h⟩
    · refine hc_first (E := "java/lang/IllegalArgumentException") (name := "java/lang/IllegalArgumentException") hown _ _ htab (by decide) (by decide) kl13 (xW_use hT.2.2.2 (.castable "java/lang/IllegalArgumentException" "java/lang/IllegalArgumentException") (by decide)) hq hv hcl ?_
      refine lv_astore (lv' := [(4, .ref q9), (0, .ref (a 0)), (1, .int p0), (2, .int p1), (3, .ref o)]) hx hb dL_meal_13 hl (by decide) rfl (fun ls hl => ?_)
      refine lv_iconst (v := 1) hx hb dL_meal_15 (by decide) ?_
      refine W.widen (k := 3) (n := 18) (Nat.le_of_ble_eq_true rfl) (Nat.le_of_ble_eq_true rfl) ?_
      exact z_reti (wf := ww a c o co) (u := (S9, u.2)) hx hb hr hlocks h hP hS dL_meal_16
    · refine hc_second (E := "java/lang/IllegalStateException") (name := "java/lang/IllegalStateException") (nm1 := "java/lang/IllegalArgumentException") hown _ _ _ htab (by decide) (by decide) kl13 (hC ("java/lang/IllegalStateException", "java/lang/IllegalArgumentException") (by decide)) (by decide) (by decide) kl15 (xW_use hT.2.2.2 (.castable "java/lang/IllegalStateException" "java/lang/IllegalStateException") (by decide)) hq hv hcl ?_
      refine lv_astore (lv' := [(4, .ref q9), (0, .ref (a 0)), (1, .int p0), (2, .int p1), (3, .ref o)]) hx hb dL_meal_17 hl (by decide) rfl (fun ls hl => ?_)
      refine lv_iconst (v := 2) hx hb dL_meal_19 (by decide) ?_
      refine W.widen (k := 3) (n := 18) (Nat.le_of_ble_eq_true rfl) (Nat.le_of_ble_eq_true rfl) ?_
      exact z_reti (wf := ww a c o co) (u := (S9, u.2)) hx hb hr hlocks h hP hS dL_meal_20
  · refine lv_i2l hx hb dL_meal_8 rfl ?_
    refine va_last (D := D) (f := u.2) hx hb hK hP (hD (S1, u.2)) hS 24 18 rfl rfl in01 dL_meal_9 (fun H locs hP _ hS => ?_)
    have hP : va_P D vwCl (ww a c o co (S1, vp_updL u.2 0 r.toInt64)) H := hP
    refine lv_goto (tgt := 21) hx hb dL_meal_10 (by decide) ?_
    refine lv_iconst (v := 0) hx hb dL_meal_21 (by decide) ?_
    refine W.widen (k := 3) (n := 18) (Nat.le_of_ble_eq_true rfl) (Nat.le_of_ble_eq_true rfl) ?_
    exact z_reti (wf := ww a c o co) (u := (S1, vp_updL u.2 0 r.toInt64)) hx hb hr hlocks h hP hS dL_meal_22
set_option maxHeartbeats 4000000 in
set_option maxRecDepth 100000 in
theorem tL_ate (l : Launch) (D : va_G) (a : Nat → Nat) (c : Nat → ClassId) (o : Nat) (co : ClassId) (sz : Nat) (p0 p1 : Int32) (u : Lo) (post : Int32 → Lo → Prop) (hl0 : l.stackTraces = false) (h : PX5_ate p0 p1 u.1 (fun r S1 => post 0 (S1, vp_updL u.2 0 r.toInt64)) (fun E S1 => (E = "java/lang/IndexOutOfBoundsException" ∧ post 1 (S1, u.2)) ∨ (E = "java/lang/IllegalArgumentException" ∧ post 2 (S1, u.2)))) : Met l yL_ate wsL_ate ({ frames := 9, cells := 2, slots := 12, locals := 184 }) (va_Pc [.ref (a 0), .int p0, .int p1, .ref o] (lP D a c o co u sz)) (va_Qi post (fun u t => va_P D vwCl (ww a c o co u) t.heap) (va_A (ww a c o co u) sz)) 2 12 (va_A (ww a c o co u) sz) := by
  refine va_MetW (cc := cL_ate) (maxL := 5) (ret := (some .int)) (hh := [(0, 10, 13, 20), (0, 10, 17, 13)]) (by decide) rfl ?_
  intro p e s m args below meth c9 s₁ B hml hv
  obtain ⟨rfl, hsz, hP, hK, hD0, hN, hT, hC⟩ := hv
  have hx := B.exec
  have hb := B.bytes
  have hr := B.returns
  have hts := atoms_spec (ws := wsL_ate) B.pre
  have hown : s.vm.findClass RL = some m.cls := findClass_of_methodNamed B.named
  have hlocks := B.notSynchronized
  have htab : c9.exceptionTable.toList = tableOf [(0, 10, 13, 20), (0, 10, 17, 13)] := vx_table (x := yL_ate) B (hts (.codeWith yL_ate cL_ate 5 (some .int) [(0, 10, 13, 20), (0, 10, 17, 13)]) List.mem_cons_self)
  subst hsz
  have hD1 := hD0.self (sz := s.heap.size)
  generalize hAe : va_A (ww a c o co u) s.heap.size = A at hD1 hT ⊢
  have hA : ∀ q : Nat, s.heap.size ≤ q → A q := fun q h => by rw [← hAe]; exact Or.inr h
  have hD : ∀ u2 : Lo, va_D A (ww a c o co u2) := ww_F hD1
  have hS : va_S A s.heap s.heap [] := va_S.rf
  have hKc : va_K D vwCl (cty c) s := hK.sub [0, 1, 2, 3, 4, 5, 6, 7, 8, 9, 10, 11, 12, 13, 14, 15, 16, 17] rfl
  have kl20 := hts (.classLink RL 20 "java/lang/IndexOutOfBoundsException") (by decide +kernel)
  have kl13 := hts (.classLink RL 13 "java/lang/IllegalArgumentException") (by decide +kernel)
  have hl := lv_entry ([.ref (a 0), .int p0, .int p1, .ref o]) (n := 5) (Nat.le_of_ble_eq_true rfl)
  rw [lg_entry_eq]
  generalize (lg_sl ([.ref (a 0), .int p0, .int p1, .ref o]) ++ List.replicate (5 - (lg_sl ([.ref (a 0), .int p0, .int p1, .ref o])).length) Slot.unset).toArray = ls at hl ⊢
  have hl : lv_has ls 5 [(0, .ref (a 0)), (1, .int p0), (2, .int p1), (3, .ref o)] := hl
  refine lv_aload_n hx hb dL_ate_0 rfl (lv_at hl 3 rfl) ?_
  refine lv_iconst (v := 0) hx hb dL_ate_1 (by decide) ?_
  refine lv_aload_n hx hb dL_ate_2 rfl (lv_at hl 0 rfl) ?_
  refine lv_iload_n hx hb dL_ate_3 rfl (lv_at hl 1 rfl) ?_
  refine lv_iload_n hx hb dL_ate_4 rfl (lv_at hl 2 rfl) ?_
  refine y_i (x_runV cns_ok ⟨hx, hb, hml, hown, hts⟩ (tX5_ate l D a c _ p0 p1 u.1 _ _ hl0 h) (cwV 2 hts gL_ate_X5_ate rfl rfl rfl (by decide +kernel) ⟨Nat.le_of_ble_eq_true rfl, Nat.le_of_ble_eq_true rfl⟩) (va_recv hKc (P_left hP) (ci := 5) (q0 := 0) rfl rfl) (P_left hP) hKc (D_left (hD u)) hN hT hS hA rfl rfl hl.1 rfl (lv_room (Nat.le_of_ble_eq_true rfl)) dL_ate_5 ⟨Nat.le_of_ble_eq_true rfl, Nat.le_of_ble_eq_true rfl⟩) hS (hD u) hP hA (fun E q9 ce S9 H locs hw hP hS hq hv hcl => ?_) (fun r S1 H locs h hP hS => ?_)
  · rcases hw with ⟨rfl, h⟩ | ⟨rfl, h⟩
    · refine hc_first (E := "java/lang/IndexOutOfBoundsException") (name := "java/lang/IndexOutOfBoundsException") hown _ _ htab (by decide) (by decide) kl20 (xW_use hT.2.2.2 (.castable "java/lang/IndexOutOfBoundsException" "java/lang/IndexOutOfBoundsException") (by decide)) hq hv hcl ?_
      refine lv_astore (lv' := [(4, .ref q9), (0, .ref (a 0)), (1, .int p0), (2, .int p1), (3, .ref o)]) hx hb dL_ate_13 hl (by decide) rfl (fun ls hl => ?_)
      refine lv_iconst (v := 1) hx hb dL_ate_15 (by decide) ?_
      refine W.widen (k := 2) (n := 12) (Nat.le_of_ble_eq_true rfl) (Nat.le_of_ble_eq_true rfl) ?_
      exact z_reti (wf := ww a c o co) (u := (S9, u.2)) hx hb hr hlocks h hP hS dL_ate_16
    · refine hc_second (E := "java/lang/IllegalArgumentException") (name := "java/lang/IllegalArgumentException") (nm1 := "java/lang/IndexOutOfBoundsException") hown _ _ _ htab (by decide) (by decide) kl20 (hC ("java/lang/IllegalArgumentException", "java/lang/IndexOutOfBoundsException") (by decide)) (by decide) (by decide) kl13 (xW_use hT.2.2.2 (.castable "java/lang/IllegalArgumentException" "java/lang/IllegalArgumentException") (by decide)) hq hv hcl ?_
      refine lv_astore (lv' := [(4, .ref q9), (0, .ref (a 0)), (1, .int p0), (2, .int p1), (3, .ref o)]) hx hb dL_ate_17 hl (by decide) rfl (fun ls hl => ?_)
      refine lv_iconst (v := 2) hx hb dL_ate_19 (by decide) ?_
      refine W.widen (k := 2) (n := 12) (Nat.le_of_ble_eq_true rfl) (Nat.le_of_ble_eq_true rfl) ?_
      exact z_reti (wf := ww a c o co) (u := (S9, u.2)) hx hb hr hlocks h hP hS dL_ate_20
  · refine lv_i2l hx hb dL_ate_8 rfl ?_
    refine va_last (D := D) (f := u.2) hx hb hK hP (hD (S1, u.2)) hS 24 18 rfl rfl in01 dL_ate_9 (fun H locs hP _ hS => ?_)
    have hP : va_P D vwCl (ww a c o co (S1, vp_updL u.2 0 r.toInt64)) H := hP
    refine lv_goto (tgt := 21) hx hb dL_ate_10 (by decide) ?_
    refine lv_iconst (v := 0) hx hb dL_ate_21 (by decide) ?_
    refine W.widen (k := 2) (n := 12) (Nat.le_of_ble_eq_true rfl) (Nat.le_of_ble_eq_true rfl) ?_
    exact z_reti (wf := ww a c o co) (u := (S1, vp_updL u.2 0 r.toInt64)) hx hb hr hlocks h hP hS dL_ate_22
set_option maxHeartbeats 4000000 in
set_option maxRecDepth 100000 in
theorem tL_day (l : Launch) (D : va_G) (a : Nat → Nat) (c : Nat → ClassId) (o : Nat) (co : ClassId) (sz : Nat) (p0 : Int32) (u : Lo) (post : Int32 → Lo → Prop) (hl0 : l.stackTraces = false) (h : PX5_day p0 u.1 (fun r S1 => post 0 (S1, vp_updL u.2 0 r.toInt64)) (fun E S1 => (E = "java/lang/IllegalArgumentException" ∧ post 1 (S1, u.2)) ∨ (E = "java/lang/IllegalStateException" ∧ post 2 (S1, u.2)))) : Met l yL_day wsL_day ({ frames := 9, cells := 2, slots := 12, locals := 183 }) (va_Pc [.ref (a 0), .int p0, .ref o] (lP D a c o co u sz)) (va_Qi post (fun u t => va_P D vwCl (ww a c o co u) t.heap) (va_A (ww a c o co u) sz)) 2 12 (va_A (ww a c o co u) sz) := by
  refine va_MetW (cc := cL_day) (maxL := 4) (ret := (some .int)) (hh := [(0, 9, 12, 13), (0, 9, 15, 15)]) (by decide) rfl ?_
  intro p e s m args below meth c9 s₁ B hml hv
  obtain ⟨rfl, hsz, hP, hK, hD0, hN, hT, hC⟩ := hv
  have hx := B.exec
  have hb := B.bytes
  have hr := B.returns
  have hts := atoms_spec (ws := wsL_day) B.pre
  have hown : s.vm.findClass RL = some m.cls := findClass_of_methodNamed B.named
  have hlocks := B.notSynchronized
  have htab : c9.exceptionTable.toList = tableOf [(0, 9, 12, 13), (0, 9, 15, 15)] := vx_table (x := yL_day) B (hts (.codeWith yL_day cL_day 4 (some .int) [(0, 9, 12, 13), (0, 9, 15, 15)]) List.mem_cons_self)
  subst hsz
  have hD1 := hD0.self (sz := s.heap.size)
  generalize hAe : va_A (ww a c o co u) s.heap.size = A at hD1 hT ⊢
  have hA : ∀ q : Nat, s.heap.size ≤ q → A q := fun q h => by rw [← hAe]; exact Or.inr h
  have hD : ∀ u2 : Lo, va_D A (ww a c o co u2) := ww_F hD1
  have hS : va_S A s.heap s.heap [] := va_S.rf
  have hKc : va_K D vwCl (cty c) s := hK.sub [0, 1, 2, 3, 4, 5, 6, 7, 8, 9, 10, 11, 12, 13, 14, 15, 16, 17] rfl
  have kl13 := hts (.classLink RL 13 "java/lang/IllegalArgumentException") (by decide +kernel)
  have kl15 := hts (.classLink RL 15 "java/lang/IllegalStateException") (by decide +kernel)
  have hl := lv_entry ([.ref (a 0), .int p0, .ref o]) (n := 4) (Nat.le_of_ble_eq_true rfl)
  rw [lg_entry_eq]
  generalize (lg_sl ([.ref (a 0), .int p0, .ref o]) ++ List.replicate (4 - (lg_sl ([.ref (a 0), .int p0, .ref o])).length) Slot.unset).toArray = ls at hl ⊢
  have hl : lv_has ls 4 [(0, .ref (a 0)), (1, .int p0), (2, .ref o)] := hl
  refine lv_aload_n hx hb dL_day_0 rfl (lv_at hl 2 rfl) ?_
  refine lv_iconst (v := 0) hx hb dL_day_1 (by decide) ?_
  refine lv_aload_n hx hb dL_day_2 rfl (lv_at hl 0 rfl) ?_
  refine lv_iload_n hx hb dL_day_3 rfl (lv_at hl 1 rfl) ?_
  refine y_i (x_runV cns_ok ⟨hx, hb, hml, hown, hts⟩ (tX5_day l D a c _ p0 u.1 _ _ hl0 h) (cwV 1 hts gL_day_X5_day rfl rfl rfl (by decide +kernel) ⟨Nat.le_of_ble_eq_true rfl, Nat.le_of_ble_eq_true rfl⟩) (va_recv hKc (P_left hP) (ci := 5) (q0 := 0) rfl rfl) (P_left hP) hKc (D_left (hD u)) hN hT hS hA rfl rfl hl.1 rfl (lv_room (Nat.le_of_ble_eq_true rfl)) dL_day_4 ⟨Nat.le_of_ble_eq_true rfl, Nat.le_of_ble_eq_true rfl⟩) hS (hD u) hP hA (fun E q9 ce S9 H locs hw hP hS hq hv hcl => ?_) (fun r S1 H locs h hP hS => ?_)
  · rcases hw with ⟨rfl, h⟩ | ⟨rfl, h⟩
    · refine hc_first (E := "java/lang/IllegalArgumentException") (name := "java/lang/IllegalArgumentException") hown _ _ htab (by decide) (by decide) kl13 (xW_use hT.2.2.2 (.castable "java/lang/IllegalArgumentException" "java/lang/IllegalArgumentException") (by decide)) hq hv hcl ?_
      refine lv_astore_n (lv' := [(3, .ref q9), (0, .ref (a 0)), (1, .int p0), (2, .ref o)]) hx hb dL_day_12 rfl hl (by decide) rfl (fun ls hl => ?_)
      refine lv_iconst (v := 1) hx hb dL_day_13 (by decide) ?_
      refine W.widen (k := 2) (n := 12) (Nat.le_of_ble_eq_true rfl) (Nat.le_of_ble_eq_true rfl) ?_
      exact z_reti (wf := ww a c o co) (u := (S9, u.2)) hx hb hr hlocks h hP hS dL_day_14
    · refine hc_second (E := "java/lang/IllegalStateException") (name := "java/lang/IllegalStateException") (nm1 := "java/lang/IllegalArgumentException") hown _ _ _ htab (by decide) (by decide) kl13 (hC ("java/lang/IllegalStateException", "java/lang/IllegalArgumentException") (by decide)) (by decide) (by decide) kl15 (xW_use hT.2.2.2 (.castable "java/lang/IllegalStateException" "java/lang/IllegalStateException") (by decide)) hq hv hcl ?_
      refine lv_astore_n (lv' := [(3, .ref q9), (0, .ref (a 0)), (1, .int p0), (2, .ref o)]) hx hb dL_day_15 rfl hl (by decide) rfl (fun ls hl => ?_)
      refine lv_iconst (v := 2) hx hb dL_day_16 (by decide) ?_
      refine W.widen (k := 2) (n := 12) (Nat.le_of_ble_eq_true rfl) (Nat.le_of_ble_eq_true rfl) ?_
      exact z_reti (wf := ww a c o co) (u := (S9, u.2)) hx hb hr hlocks h hP hS dL_day_17
  · refine lv_i2l hx hb dL_day_7 rfl ?_
    refine va_last (D := D) (f := u.2) hx hb hK hP (hD (S1, u.2)) hS 24 18 rfl rfl in01 dL_day_8 (fun H locs hP _ hS => ?_)
    have hP : va_P D vwCl (ww a c o co (S1, vp_updL u.2 0 r.toInt64)) H := hP
    refine lv_goto (tgt := 18) hx hb dL_day_9 (by decide) ?_
    refine lv_iconst (v := 0) hx hb dL_day_18 (by decide) ?_
    refine W.widen (k := 2) (n := 12) (Nat.le_of_ble_eq_true rfl) (Nat.le_of_ble_eq_true rfl) ?_
    exact z_reti (wf := ww a c o co) (u := (S1, vp_updL u.2 0 r.toInt64)) hx hb hr hlocks h hP hS dL_day_19
set_option maxHeartbeats 4000000 in
set_option maxRecDepth 100000 in
theorem tL_drop (l : Launch) (D : va_G) (a : Nat → Nat) (c : Nat → ClassId) (o : Nat) (co : ClassId) (sz : Nat) (p0 : Int32) (u : Lo) (post : Int32 → Lo → Prop) (hl0 : l.stackTraces = false) (h : PX5_drop p0 u.1 (fun r S1 => post 0 (S1, vp_updL u.2 0 (if r = 0 then 0 else 1))) (fun E S1 => (E = "java/lang/IndexOutOfBoundsException" ∧ post 1 (S1, u.2)))) : Met l yL_drop wsL_drop ({ frames := 8, cells := 1, slots := 6, locals := 161 }) (va_Pc [.ref (a 0), .int p0, .ref o] (lP D a c o co u sz)) (va_Qi post (fun u t => va_P D vwCl (ww a c o co u) t.heap) (va_A (ww a c o co u) sz)) 1 6 (va_A (ww a c o co u) sz) := by
  refine va_MetW (cc := cL_drop) (maxL := 4) (ret := (some .int)) (hh := [(0, 16, 19, 20)]) (by decide) rfl ?_
  intro p e s m args below meth c9 s₁ B hml hv
  obtain ⟨rfl, hsz, hP, hK, hD0, hN, hT, hC⟩ := hv
  have hx := B.exec
  have hb := B.bytes
  have hr := B.returns
  have hts := atoms_spec (ws := wsL_drop) B.pre
  have hown : s.vm.findClass RL = some m.cls := findClass_of_methodNamed B.named
  have hlocks := B.notSynchronized
  have htab : c9.exceptionTable.toList = tableOf [(0, 16, 19, 20)] := vx_table (x := yL_drop) B (hts (.codeWith yL_drop cL_drop 4 (some .int) [(0, 16, 19, 20)]) List.mem_cons_self)
  subst hsz
  have hD1 := hD0.self (sz := s.heap.size)
  generalize hAe : va_A (ww a c o co u) s.heap.size = A at hD1 hT ⊢
  have hA : ∀ q : Nat, s.heap.size ≤ q → A q := fun q h => by rw [← hAe]; exact Or.inr h
  have hD : ∀ u2 : Lo, va_D A (ww a c o co u2) := ww_F hD1
  have hS : va_S A s.heap s.heap [] := va_S.rf
  have hKc : va_K D vwCl (cty c) s := hK.sub [0, 1, 2, 3, 4, 5, 6, 7, 8, 9, 10, 11, 12, 13, 14, 15, 16, 17] rfl
  have kl20 := hts (.classLink RL 20 "java/lang/IndexOutOfBoundsException") (by decide +kernel)
  have hl := lv_entry ([.ref (a 0), .int p0, .ref o]) (n := 4) (Nat.le_of_ble_eq_true rfl)
  rw [lg_entry_eq]
  generalize (lg_sl ([.ref (a 0), .int p0, .ref o]) ++ List.replicate (4 - (lg_sl ([.ref (a 0), .int p0, .ref o])).length) Slot.unset).toArray = ls at hl ⊢
  have hl : lv_has ls 4 [(0, .ref (a 0)), (1, .int p0), (2, .ref o)] := hl
  refine lv_aload_n hx hb dL_drop_0 rfl (lv_at hl 2 rfl) ?_
  refine lv_iconst (v := 0) hx hb dL_drop_1 (by decide) ?_
  refine lv_aload_n hx hb dL_drop_2 rfl (lv_at hl 0 rfl) ?_
  refine lv_iload_n hx hb dL_drop_3 rfl (lv_at hl 1 rfl) ?_
  refine y_i (x_runV cns_ok ⟨hx, hb, hml, hown, hts⟩ (tX5_drop l D a c _ p0 u.1 _ _ hl0 h) (cwV 1 hts gL_drop_X5_drop rfl rfl rfl (by decide +kernel) ⟨Nat.le_of_ble_eq_true rfl, Nat.le_of_ble_eq_true rfl⟩) (va_recv hKc (P_left hP) (ci := 5) (q0 := 0) rfl rfl) (P_left hP) hKc (D_left (hD u)) hN hT hS hA rfl rfl hl.1 rfl (lv_room (Nat.le_of_ble_eq_true rfl)) dL_drop_4 ⟨Nat.le_of_ble_eq_true rfl, Nat.le_of_ble_eq_true rfl⟩) hS (hD u) hP hA (fun E q9 ce S9 H locs hw hP hS hq hv hcl => ?_) (fun r S1 H locs h hP hS => ?_)
  · obtain ⟨rfl, h⟩ := hw
    refine hc_first (E := "java/lang/IndexOutOfBoundsException") (name := "java/lang/IndexOutOfBoundsException") hown _ _ htab (by decide) (by decide) kl20 (xW_use hT.2.2.2 (.castable "java/lang/IndexOutOfBoundsException" "java/lang/IndexOutOfBoundsException") (by decide)) hq hv hcl ?_
    refine lv_astore_n (lv' := [(3, .ref q9), (0, .ref (a 0)), (1, .int p0), (2, .ref o)]) hx hb dL_drop_19 rfl hl (by decide) rfl (fun ls hl => ?_)
    refine lv_iconst (v := 1) hx hb dL_drop_20 (by decide) ?_
    refine W.widen (k := 1) (n := 6) (Nat.le_of_ble_eq_true rfl) (Nat.le_of_ble_eq_true rfl) ?_
    exact z_reti (wf := ww a c o co) (u := (S9, u.2)) hx hb hr hlocks h hP hS dL_drop_21
  · refine lv_if_eq (tgt := 14) hx hb dL_drop_7 (by decide) (fun c1 => ?_) (fun c1 => ?_)
    · rw [if_pos c1] at h
      refine lv_lconst (v := 0) hx hb dL_drop_14 (by decide) ?_
      refine va_last (D := D) (f := u.2) hx hb hK hP (hD (S1, u.2)) hS 24 18 rfl rfl in01 dL_drop_15 (fun H locs hP _ hS => ?_)
      have hP : va_P D vwCl (ww a c o co (S1, vp_updL u.2 0 0)) H := hP
      refine lv_goto (tgt := 22) hx hb dL_drop_16 (by decide) ?_
      refine lv_iconst (v := 0) hx hb dL_drop_22 (by decide) ?_
      refine W.widen (k := 1) (n := 6) (Nat.le_of_ble_eq_true rfl) (Nat.le_of_ble_eq_true rfl) ?_
      exact z_reti (wf := ww a c o co) (u := (S1, vp_updL u.2 0 0)) hx hb hr hlocks h hP hS dL_drop_23
    · rw [if_neg c1] at h
      refine lv_lconst (v := 1) hx hb dL_drop_10 (by decide) ?_
      refine lv_goto (tgt := 15) hx hb dL_drop_11 (by decide) ?_
      refine va_last (D := D) (f := u.2) hx hb hK hP (hD (S1, u.2)) hS 24 18 rfl rfl in01 dL_drop_15 (fun H locs hP _ hS => ?_)
      have hP : va_P D vwCl (ww a c o co (S1, vp_updL u.2 0 1)) H := hP
      refine lv_goto (tgt := 22) hx hb dL_drop_16 (by decide) ?_
      refine lv_iconst (v := 0) hx hb dL_drop_22 (by decide) ?_
      refine W.widen (k := 1) (n := 6) (Nat.le_of_ble_eq_true rfl) (Nat.le_of_ble_eq_true rfl) ?_
      exact z_reti (wf := ww a c o co) (u := (S1, vp_updL u.2 0 1)) hx hb hr hlocks h hP hS dL_drop_23
set_option maxHeartbeats 4000000 in
set_option maxRecDepth 100000 in
theorem tL_leaves (l : Launch) (D : va_G) (a : Nat → Nat) (c : Nat → ClassId) (o : Nat) (co : ClassId) (sz : Nat) (p0 : Int32) (u : Lo) (post : Int32 → Lo → Prop) (hl0 : l.stackTraces = false) (h : PX5_leaves p0 u.1 (fun r S1 => post 0 (S1, vp_updL u.2 0 r.toInt64)) (fun E S1 => (E = "java/lang/IndexOutOfBoundsException" ∧ post 1 (S1, u.2)))) : Met l yL_leaves wsL_leaves ({ frames := 13, cells := 1, slots := 6, locals := 340 }) (va_Pc [.ref (a 0), .int p0, .ref o] (lP D a c o co u sz)) (va_Qi post (fun u t => va_P D vwCl (ww a c o co u) t.heap) (va_A (ww a c o co u) sz)) 1 6 (va_A (ww a c o co u) sz) := by
  refine va_MetW (cc := cL_leaves) (maxL := 4) (ret := (some .int)) (hh := [(0, 9, 12, 20)]) (by decide) rfl ?_
  intro p e s m args below meth c9 s₁ B hml hv
  obtain ⟨rfl, hsz, hP, hK, hD0, hN, hT, hC⟩ := hv
  have hx := B.exec
  have hb := B.bytes
  have hr := B.returns
  have hts := atoms_spec (ws := wsL_leaves) B.pre
  have hown : s.vm.findClass RL = some m.cls := findClass_of_methodNamed B.named
  have hlocks := B.notSynchronized
  have htab : c9.exceptionTable.toList = tableOf [(0, 9, 12, 20)] := vx_table (x := yL_leaves) B (hts (.codeWith yL_leaves cL_leaves 4 (some .int) [(0, 9, 12, 20)]) List.mem_cons_self)
  subst hsz
  have hD1 := hD0.self (sz := s.heap.size)
  generalize hAe : va_A (ww a c o co u) s.heap.size = A at hD1 hT ⊢
  have hA : ∀ q : Nat, s.heap.size ≤ q → A q := fun q h => by rw [← hAe]; exact Or.inr h
  have hD : ∀ u2 : Lo, va_D A (ww a c o co u2) := ww_F hD1
  have hS : va_S A s.heap s.heap [] := va_S.rf
  have hKc : va_K D vwCl (cty c) s := hK.sub [0, 1, 2, 3, 4, 5, 6, 7, 8, 9, 10, 11, 12, 13, 14, 15, 16, 17] rfl
  have kl20 := hts (.classLink RL 20 "java/lang/IndexOutOfBoundsException") (by decide +kernel)
  have hl := lv_entry ([.ref (a 0), .int p0, .ref o]) (n := 4) (Nat.le_of_ble_eq_true rfl)
  rw [lg_entry_eq]
  generalize (lg_sl ([.ref (a 0), .int p0, .ref o]) ++ List.replicate (4 - (lg_sl ([.ref (a 0), .int p0, .ref o])).length) Slot.unset).toArray = ls at hl ⊢
  have hl : lv_has ls 4 [(0, .ref (a 0)), (1, .int p0), (2, .ref o)] := hl
  refine lv_aload_n hx hb dL_leaves_0 rfl (lv_at hl 2 rfl) ?_
  refine lv_iconst (v := 0) hx hb dL_leaves_1 (by decide) ?_
  refine lv_aload_n hx hb dL_leaves_2 rfl (lv_at hl 0 rfl) ?_
  refine lv_iload_n hx hb dL_leaves_3 rfl (lv_at hl 1 rfl) ?_
  refine y_i (x_runV cns_ok ⟨hx, hb, hml, hown, hts⟩ (tX5_leaves l D a c _ p0 u.1 _ _ hl0 h) (cwV 1 hts gL_leaves_X5_leaves rfl rfl rfl (by decide +kernel) ⟨Nat.le_of_ble_eq_true rfl, Nat.le_of_ble_eq_true rfl⟩) (va_recv hKc (P_left hP) (ci := 5) (q0 := 0) rfl rfl) (P_left hP) hKc (D_left (hD u)) hN hT hS hA rfl rfl hl.1 rfl (lv_room (Nat.le_of_ble_eq_true rfl)) dL_leaves_4 ⟨Nat.le_of_ble_eq_true rfl, Nat.le_of_ble_eq_true rfl⟩) hS (hD u) hP hA (fun E q9 ce S9 H locs hw hP hS hq hv hcl => ?_) (fun r S1 H locs h hP hS => ?_)
  · obtain ⟨rfl, h⟩ := hw
    refine hc_first (E := "java/lang/IndexOutOfBoundsException") (name := "java/lang/IndexOutOfBoundsException") hown _ _ htab (by decide) (by decide) kl20 (xW_use hT.2.2.2 (.castable "java/lang/IndexOutOfBoundsException" "java/lang/IndexOutOfBoundsException") (by decide)) hq hv hcl ?_
    refine lv_astore_n (lv' := [(3, .ref q9), (0, .ref (a 0)), (1, .int p0), (2, .ref o)]) hx hb dL_leaves_12 rfl hl (by decide) rfl (fun ls hl => ?_)
    refine lv_iconst (v := 1) hx hb dL_leaves_13 (by decide) ?_
    refine W.widen (k := 1) (n := 6) (Nat.le_of_ble_eq_true rfl) (Nat.le_of_ble_eq_true rfl) ?_
    exact z_reti (wf := ww a c o co) (u := (S9, u.2)) hx hb hr hlocks h hP hS dL_leaves_14
  · refine lv_i2l hx hb dL_leaves_7 rfl ?_
    refine va_last (D := D) (f := u.2) hx hb hK hP (hD (S1, u.2)) hS 24 18 rfl rfl in01 dL_leaves_8 (fun H locs hP _ hS => ?_)
    have hP : va_P D vwCl (ww a c o co (S1, vp_updL u.2 0 r.toInt64)) H := hP
    refine lv_goto (tgt := 15) hx hb dL_leaves_9 (by decide) ?_
    refine lv_iconst (v := 0) hx hb dL_leaves_15 (by decide) ?_
    refine W.widen (k := 1) (n := 6) (Nat.le_of_ble_eq_true rfl) (Nat.le_of_ble_eq_true rfl) ?_
    exact z_reti (wf := ww a c o co) (u := (S1, vp_updL u.2 0 r.toInt64)) hx hb hr hlocks h hP hS dL_leaves_16
set_option maxHeartbeats 4000000 in
set_option maxRecDepth 100000 in
theorem tL_split (l : Launch) (D : va_G) (a : Nat → Nat) (c : Nat → ClassId) (o : Nat) (co : ClassId) (sz : Nat) (p0 p1 p2 : Int32) (u : Lo) (post : Int32 → Lo → Prop) (hl0 : l.stackTraces = false) (h : PX5_split p0 p1 p2 u.1 (fun r S1 => post 0 (S1, vp_updL u.2 0 r.toInt64)) (fun E S1 => (E = "java/lang/IndexOutOfBoundsException" ∧ post 1 (S1, u.2)) ∨ (E = "java/lang/IllegalArgumentException" ∧ post 2 (S1, u.2)))) : Met l yL_split wsL_split ({ frames := 9, cells := 2, slots := 12, locals := 185 }) (va_Pc [.ref (a 0), .int p0, .int p1, .int p2, .ref o] (lP D a c o co u sz)) (va_Qi post (fun u t => va_P D vwCl (ww a c o co u) t.heap) (va_A (ww a c o co u) sz)) 2 12 (va_A (ww a c o co u) sz) := by
  refine va_MetW (cc := cL_split) (maxL := 6) (ret := (some .int)) (hh := [(0, 12, 15, 20), (0, 12, 19, 13)]) (by decide) rfl ?_
  intro p e s m args below meth c9 s₁ B hml hv
  obtain ⟨rfl, hsz, hP, hK, hD0, hN, hT, hC⟩ := hv
  have hx := B.exec
  have hb := B.bytes
  have hr := B.returns
  have hts := atoms_spec (ws := wsL_split) B.pre
  have hown : s.vm.findClass RL = some m.cls := findClass_of_methodNamed B.named
  have hlocks := B.notSynchronized
  have htab : c9.exceptionTable.toList = tableOf [(0, 12, 15, 20), (0, 12, 19, 13)] := vx_table (x := yL_split) B (hts (.codeWith yL_split cL_split 6 (some .int) [(0, 12, 15, 20), (0, 12, 19, 13)]) List.mem_cons_self)
  subst hsz
  have hD1 := hD0.self (sz := s.heap.size)
  generalize hAe : va_A (ww a c o co u) s.heap.size = A at hD1 hT ⊢
  have hA : ∀ q : Nat, s.heap.size ≤ q → A q := fun q h => by rw [← hAe]; exact Or.inr h
  have hD : ∀ u2 : Lo, va_D A (ww a c o co u2) := ww_F hD1
  have hS : va_S A s.heap s.heap [] := va_S.rf
  have hKc : va_K D vwCl (cty c) s := hK.sub [0, 1, 2, 3, 4, 5, 6, 7, 8, 9, 10, 11, 12, 13, 14, 15, 16, 17] rfl
  have kl20 := hts (.classLink RL 20 "java/lang/IndexOutOfBoundsException") (by decide +kernel)
  have kl13 := hts (.classLink RL 13 "java/lang/IllegalArgumentException") (by decide +kernel)
  have hl := lv_entry ([.ref (a 0), .int p0, .int p1, .int p2, .ref o]) (n := 6) (Nat.le_of_ble_eq_true rfl)
  rw [lg_entry_eq]
  generalize (lg_sl ([.ref (a 0), .int p0, .int p1, .int p2, .ref o]) ++ List.replicate (6 - (lg_sl ([.ref (a 0), .int p0, .int p1, .int p2, .ref o])).length) Slot.unset).toArray = ls at hl ⊢
  have hl : lv_has ls 6 [(0, .ref (a 0)), (1, .int p0), (2, .int p1), (3, .int p2), (4, .ref o)] := hl
  refine lv_aload hx hb dL_split_0 (lv_at hl 4 rfl) ?_
  refine lv_iconst (v := 0) hx hb dL_split_2 (by decide) ?_
  refine lv_aload_n hx hb dL_split_3 rfl (lv_at hl 0 rfl) ?_
  refine lv_iload_n hx hb dL_split_4 rfl (lv_at hl 1 rfl) ?_
  refine lv_iload_n hx hb dL_split_5 rfl (lv_at hl 2 rfl) ?_
  refine lv_iload_n hx hb dL_split_6 rfl (lv_at hl 3 rfl) ?_
  refine y_i (x_runV cns_ok ⟨hx, hb, hml, hown, hts⟩ (tX5_split l D a c _ p0 p1 p2 u.1 _ _ hl0 h) (cwV 3 hts gL_split_X5_split rfl rfl rfl (by decide +kernel) ⟨Nat.le_of_ble_eq_true rfl, Nat.le_of_ble_eq_true rfl⟩) (va_recv hKc (P_left hP) (ci := 5) (q0 := 0) rfl rfl) (P_left hP) hKc (D_left (hD u)) hN hT hS hA rfl rfl hl.1 rfl (lv_room (Nat.le_of_ble_eq_true rfl)) dL_split_7 ⟨Nat.le_of_ble_eq_true rfl, Nat.le_of_ble_eq_true rfl⟩) hS (hD u) hP hA (fun E q9 ce S9 H locs hw hP hS hq hv hcl => ?_) (fun r S1 H locs h hP hS => ?_)
  · rcases hw with ⟨rfl, h⟩ | ⟨rfl, h⟩
    · refine hc_first (E := "java/lang/IndexOutOfBoundsException") (name := "java/lang/IndexOutOfBoundsException") hown _ _ htab (by decide) (by decide) kl20 (xW_use hT.2.2.2 (.castable "java/lang/IndexOutOfBoundsException" "java/lang/IndexOutOfBoundsException") (by decide)) hq hv hcl ?_
      refine lv_astore (lv' := [(5, .ref q9), (0, .ref (a 0)), (1, .int p0), (2, .int p1), (3, .int p2), (4, .ref o)]) hx hb dL_split_15 hl (by decide) rfl (fun ls hl => ?_)
      refine lv_iconst (v := 1) hx hb dL_split_17 (by decide) ?_
      refine W.widen (k := 2) (n := 12) (Nat.le_of_ble_eq_true rfl) (Nat.le_of_ble_eq_true rfl) ?_
      exact z_reti (wf := ww a c o co) (u := (S9, u.2)) hx hb hr hlocks h hP hS dL_split_18
    · refine hc_second (E := "java/lang/IllegalArgumentException") (name := "java/lang/IllegalArgumentException") (nm1 := "java/lang/IndexOutOfBoundsException") hown _ _ _ htab (by decide) (by decide) kl20 (hC ("java/lang/IllegalArgumentException", "java/lang/IndexOutOfBoundsException") (by decide)) (by decide) (by decide) kl13 (xW_use hT.2.2.2 (.castable "java/lang/IllegalArgumentException" "java/lang/IllegalArgumentException") (by decide)) hq hv hcl ?_
      refine lv_astore (lv' := [(5, .ref q9), (0, .ref (a 0)), (1, .int p0), (2, .int p1), (3, .int p2), (4, .ref o)]) hx hb dL_split_19 hl (by decide) rfl (fun ls hl => ?_)
      refine lv_iconst (v := 2) hx hb dL_split_21 (by decide) ?_
      refine W.widen (k := 2) (n := 12) (Nat.le_of_ble_eq_true rfl) (Nat.le_of_ble_eq_true rfl) ?_
      exact z_reti (wf := ww a c o co) (u := (S9, u.2)) hx hb hr hlocks h hP hS dL_split_22
  · refine lv_i2l hx hb dL_split_10 rfl ?_
    refine va_last (D := D) (f := u.2) hx hb hK hP (hD (S1, u.2)) hS 24 18 rfl rfl in01 dL_split_11 (fun H locs hP _ hS => ?_)
    have hP : va_P D vwCl (ww a c o co (S1, vp_updL u.2 0 r.toInt64)) H := hP
    refine lv_goto (tgt := 23) hx hb dL_split_12 (by decide) ?_
    refine lv_iconst (v := 0) hx hb dL_split_23 (by decide) ?_
    refine W.widen (k := 2) (n := 12) (Nat.le_of_ble_eq_true rfl) (Nat.le_of_ble_eq_true rfl) ?_
    exact z_reti (wf := ww a c o co) (u := (S1, vp_updL u.2 0 r.toInt64)) hx hb hr hlocks h hP hS dL_split_24
set_option maxHeartbeats 4000000 in
set_option maxRecDepth 100000 in
theorem tL_leaf (l : Launch) (D : va_G) (a : Nat → Nat) (c : Nat → ClassId) (o : Nat) (co : ClassId) (sz : Nat) (p0 p1 p2 : Int32) (u : Lo) (post : Int32 → Lo → Prop) (hl0 : l.stackTraces = false) (h : PX5_leaf p0 p1 p2 u.1 (fun r S1 => post 0 (S1, vp_updL u.2 0 r.toInt64)) (fun E S1 => (E = "java/lang/IndexOutOfBoundsException" ∧ post 1 (S1, u.2)) ∨ (E = "java/lang/IllegalArgumentException" ∧ post 2 (S1, u.2)))) : Met l yL_leaf wsL_leaf ({ frames := 9, cells := 3, slots := 18, locals := 185 }) (va_Pc [.ref (a 0), .int p0, .int p1, .int p2, .ref o] (lP D a c o co u sz)) (va_Qi post (fun u t => va_P D vwCl (ww a c o co u) t.heap) (va_A (ww a c o co u) sz)) 3 18 (va_A (ww a c o co u) sz) := by
  refine va_MetW (cc := cL_leaf) (maxL := 6) (ret := (some .int)) (hh := [(0, 12, 15, 20), (0, 12, 19, 13)]) (by decide) rfl ?_
  intro p e s m args below meth c9 s₁ B hml hv
  obtain ⟨rfl, hsz, hP, hK, hD0, hN, hT, hC⟩ := hv
  have hx := B.exec
  have hb := B.bytes
  have hr := B.returns
  have hts := atoms_spec (ws := wsL_leaf) B.pre
  have hown : s.vm.findClass RL = some m.cls := findClass_of_methodNamed B.named
  have hlocks := B.notSynchronized
  have htab : c9.exceptionTable.toList = tableOf [(0, 12, 15, 20), (0, 12, 19, 13)] := vx_table (x := yL_leaf) B (hts (.codeWith yL_leaf cL_leaf 6 (some .int) [(0, 12, 15, 20), (0, 12, 19, 13)]) List.mem_cons_self)
  subst hsz
  have hD1 := hD0.self (sz := s.heap.size)
  generalize hAe : va_A (ww a c o co u) s.heap.size = A at hD1 hT ⊢
  have hA : ∀ q : Nat, s.heap.size ≤ q → A q := fun q h => by rw [← hAe]; exact Or.inr h
  have hD : ∀ u2 : Lo, va_D A (ww a c o co u2) := ww_F hD1
  have hS : va_S A s.heap s.heap [] := va_S.rf
  have hKc : va_K D vwCl (cty c) s := hK.sub [0, 1, 2, 3, 4, 5, 6, 7, 8, 9, 10, 11, 12, 13, 14, 15, 16, 17] rfl
  have kl20 := hts (.classLink RL 20 "java/lang/IndexOutOfBoundsException") (by decide +kernel)
  have kl13 := hts (.classLink RL 13 "java/lang/IllegalArgumentException") (by decide +kernel)
  have hl := lv_entry ([.ref (a 0), .int p0, .int p1, .int p2, .ref o]) (n := 6) (Nat.le_of_ble_eq_true rfl)
  rw [lg_entry_eq]
  generalize (lg_sl ([.ref (a 0), .int p0, .int p1, .int p2, .ref o]) ++ List.replicate (6 - (lg_sl ([.ref (a 0), .int p0, .int p1, .int p2, .ref o])).length) Slot.unset).toArray = ls at hl ⊢
  have hl : lv_has ls 6 [(0, .ref (a 0)), (1, .int p0), (2, .int p1), (3, .int p2), (4, .ref o)] := hl
  refine lv_aload hx hb dL_leaf_0 (lv_at hl 4 rfl) ?_
  refine lv_iconst (v := 0) hx hb dL_leaf_2 (by decide) ?_
  refine lv_aload_n hx hb dL_leaf_3 rfl (lv_at hl 0 rfl) ?_
  refine lv_iload_n hx hb dL_leaf_4 rfl (lv_at hl 1 rfl) ?_
  refine lv_iload_n hx hb dL_leaf_5 rfl (lv_at hl 2 rfl) ?_
  refine lv_iload_n hx hb dL_leaf_6 rfl (lv_at hl 3 rfl) ?_
  refine y_i (x_runV cns_ok ⟨hx, hb, hml, hown, hts⟩ (tX5_leaf l D a c _ p0 p1 p2 u.1 _ _ hl0 h) (cwV 3 hts gL_leaf_X5_leaf rfl rfl rfl (by decide +kernel) ⟨Nat.le_of_ble_eq_true rfl, Nat.le_of_ble_eq_true rfl⟩) (va_recv hKc (P_left hP) (ci := 5) (q0 := 0) rfl rfl) (P_left hP) hKc (D_left (hD u)) hN hT hS hA rfl rfl hl.1 rfl (lv_room (Nat.le_of_ble_eq_true rfl)) dL_leaf_7 ⟨Nat.le_of_ble_eq_true rfl, Nat.le_of_ble_eq_true rfl⟩) hS (hD u) hP hA (fun E q9 ce S9 H locs hw hP hS hq hv hcl => ?_) (fun r S1 H locs h hP hS => ?_)
  · rcases hw with ⟨rfl, h⟩ | ⟨rfl, h⟩
    · refine hc_first (E := "java/lang/IndexOutOfBoundsException") (name := "java/lang/IndexOutOfBoundsException") hown _ _ htab (by decide) (by decide) kl20 (xW_use hT.2.2.2 (.castable "java/lang/IndexOutOfBoundsException" "java/lang/IndexOutOfBoundsException") (by decide)) hq hv hcl ?_
      refine lv_astore (lv' := [(5, .ref q9), (0, .ref (a 0)), (1, .int p0), (2, .int p1), (3, .int p2), (4, .ref o)]) hx hb dL_leaf_15 hl (by decide) rfl (fun ls hl => ?_)
      refine lv_iconst (v := 1) hx hb dL_leaf_17 (by decide) ?_
      refine W.widen (k := 3) (n := 18) (Nat.le_of_ble_eq_true rfl) (Nat.le_of_ble_eq_true rfl) ?_
      exact z_reti (wf := ww a c o co) (u := (S9, u.2)) hx hb hr hlocks h hP hS dL_leaf_18
    · refine hc_second (E := "java/lang/IllegalArgumentException") (name := "java/lang/IllegalArgumentException") (nm1 := "java/lang/IndexOutOfBoundsException") hown _ _ _ htab (by decide) (by decide) kl20 (hC ("java/lang/IllegalArgumentException", "java/lang/IndexOutOfBoundsException") (by decide)) (by decide) (by decide) kl13 (xW_use hT.2.2.2 (.castable "java/lang/IllegalArgumentException" "java/lang/IllegalArgumentException") (by decide)) hq hv hcl ?_
      refine lv_astore (lv' := [(5, .ref q9), (0, .ref (a 0)), (1, .int p0), (2, .int p1), (3, .int p2), (4, .ref o)]) hx hb dL_leaf_19 hl (by decide) rfl (fun ls hl => ?_)
      refine lv_iconst (v := 2) hx hb dL_leaf_21 (by decide) ?_
      refine W.widen (k := 3) (n := 18) (Nat.le_of_ble_eq_true rfl) (Nat.le_of_ble_eq_true rfl) ?_
      exact z_reti (wf := ww a c o co) (u := (S9, u.2)) hx hb hr hlocks h hP hS dL_leaf_22
  · refine lv_i2l hx hb dL_leaf_10 rfl ?_
    refine va_last (D := D) (f := u.2) hx hb hK hP (hD (S1, u.2)) hS 24 18 rfl rfl in01 dL_leaf_11 (fun H locs hP _ hS => ?_)
    have hP : va_P D vwCl (ww a c o co (S1, vp_updL u.2 0 r.toInt64)) H := hP
    refine lv_goto (tgt := 23) hx hb dL_leaf_12 (by decide) ?_
    refine lv_iconst (v := 0) hx hb dL_leaf_23 (by decide) ?_
    refine W.widen (k := 3) (n := 18) (Nat.le_of_ble_eq_true rfl) (Nat.le_of_ble_eq_true rfl) ?_
    exact z_reti (wf := ww a c o co) (u := (S1, vp_updL u.2 0 r.toInt64)) hx hb hr hlocks h hP hS dL_leaf_24
set_option maxHeartbeats 4000000 in
set_option maxRecDepth 100000 in
theorem tL_size (l : Launch) (D : va_G) (a : Nat → Nat) (c : Nat → ClassId) (o : Nat) (co : ClassId) (sz : Nat) (p0 p1 : Int32) (u : Lo) (post : Int32 → Lo → Prop) (hl0 : l.stackTraces = false) (h : PX5_size p0 p1 u.1 (fun r S1 => post 0 (S1, vp_updL u.2 0 r.toInt64)) (fun E S1 => (E = "java/lang/IllegalArgumentException" ∧ post 1 (S1, u.2)) ∨ (E = "java/lang/IllegalStateException" ∧ post 2 (S1, u.2)))) : Met l yL_size wsL_size ({ frames := 9, cells := 3, slots := 18, locals := 184 }) (va_Pc [.ref (a 0), .int p0, .int p1, .ref o] (lP D a c o co u sz)) (va_Qi post (fun u t => va_P D vwCl (ww a c o co u) t.heap) (va_A (ww a c o co u) sz)) 3 18 (va_A (ww a c o co u) sz) := by
  refine va_MetW (cc := cL_size) (maxL := 5) (ret := (some .int)) (hh := [(0, 10, 13, 13), (0, 10, 17, 15)]) (by decide) rfl ?_
  intro p e s m args below meth c9 s₁ B hml hv
  obtain ⟨rfl, hsz, hP, hK, hD0, hN, hT, hC⟩ := hv
  have hx := B.exec
  have hb := B.bytes
  have hr := B.returns
  have hts := atoms_spec (ws := wsL_size) B.pre
  have hown : s.vm.findClass RL = some m.cls := findClass_of_methodNamed B.named
  have hlocks := B.notSynchronized
  have htab : c9.exceptionTable.toList = tableOf [(0, 10, 13, 13), (0, 10, 17, 15)] := vx_table (x := yL_size) B (hts (.codeWith yL_size cL_size 5 (some .int) [(0, 10, 13, 13), (0, 10, 17, 15)]) List.mem_cons_self)
  subst hsz
  have hD1 := hD0.self (sz := s.heap.size)
  generalize hAe : va_A (ww a c o co u) s.heap.size = A at hD1 hT ⊢
  have hA : ∀ q : Nat, s.heap.size ≤ q → A q := fun q h => by rw [← hAe]; exact Or.inr h
  have hD : ∀ u2 : Lo, va_D A (ww a c o co u2) := ww_F hD1
  have hS : va_S A s.heap s.heap [] := va_S.rf
  have hKc : va_K D vwCl (cty c) s := hK.sub [0, 1, 2, 3, 4, 5, 6, 7, 8, 9, 10, 11, 12, 13, 14, 15, 16, 17] rfl
  have kl13 := hts (.classLink RL 13 "java/lang/IllegalArgumentException") (by decide +kernel)
  have kl15 := hts (.classLink RL 15 "java/lang/IllegalStateException") (by decide +kernel)
  have hl := lv_entry ([.ref (a 0), .int p0, .int p1, .ref o]) (n := 5) (Nat.le_of_ble_eq_true rfl)
  rw [lg_entry_eq]
  generalize (lg_sl ([.ref (a 0), .int p0, .int p1, .ref o]) ++ List.replicate (5 - (lg_sl ([.ref (a 0), .int p0, .int p1, .ref o])).length) Slot.unset).toArray = ls at hl ⊢
  have hl : lv_has ls 5 [(0, .ref (a 0)), (1, .int p0), (2, .int p1), (3, .ref o)] := hl
  refine lv_aload_n hx hb dL_size_0 rfl (lv_at hl 3 rfl) ?_
  refine lv_iconst (v := 0) hx hb dL_size_1 (by decide) ?_
  refine lv_aload_n hx hb dL_size_2 rfl (lv_at hl 0 rfl) ?_
  refine lv_iload_n hx hb dL_size_3 rfl (lv_at hl 1 rfl) ?_
  refine lv_iload_n hx hb dL_size_4 rfl (lv_at hl 2 rfl) ?_
  refine y_i (x_runV cns_ok ⟨hx, hb, hml, hown, hts⟩ (tX5_size l D a c _ p0 p1 u.1 _ _ hl0 h) (cwV 2 hts gL_size_X5_size rfl rfl rfl (by decide +kernel) ⟨Nat.le_of_ble_eq_true rfl, Nat.le_of_ble_eq_true rfl⟩) (va_recv hKc (P_left hP) (ci := 5) (q0 := 0) rfl rfl) (P_left hP) hKc (D_left (hD u)) hN hT hS hA rfl rfl hl.1 rfl (lv_room (Nat.le_of_ble_eq_true rfl)) dL_size_5 ⟨Nat.le_of_ble_eq_true rfl, Nat.le_of_ble_eq_true rfl⟩) hS (hD u) hP hA (fun E q9 ce S9 H locs hw hP hS hq hv hcl => ?_) (fun r S1 H locs h hP hS => ?_)
  · rcases hw with ⟨rfl, h⟩ | ⟨rfl, h⟩
    · refine hc_first (E := "java/lang/IllegalArgumentException") (name := "java/lang/IllegalArgumentException") hown _ _ htab (by decide) (by decide) kl13 (xW_use hT.2.2.2 (.castable "java/lang/IllegalArgumentException" "java/lang/IllegalArgumentException") (by decide)) hq hv hcl ?_
      refine lv_astore (lv' := [(4, .ref q9), (0, .ref (a 0)), (1, .int p0), (2, .int p1), (3, .ref o)]) hx hb dL_size_13 hl (by decide) rfl (fun ls hl => ?_)
      refine lv_iconst (v := 1) hx hb dL_size_15 (by decide) ?_
      refine W.widen (k := 3) (n := 18) (Nat.le_of_ble_eq_true rfl) (Nat.le_of_ble_eq_true rfl) ?_
      exact z_reti (wf := ww a c o co) (u := (S9, u.2)) hx hb hr hlocks h hP hS dL_size_16
    · refine hc_second (E := "java/lang/IllegalStateException") (name := "java/lang/IllegalStateException") (nm1 := "java/lang/IllegalArgumentException") hown _ _ _ htab (by decide) (by decide) kl13 (hC ("java/lang/IllegalStateException", "java/lang/IllegalArgumentException") (by decide)) (by decide) (by decide) kl15 (xW_use hT.2.2.2 (.castable "java/lang/IllegalStateException" "java/lang/IllegalStateException") (by decide)) hq hv hcl ?_
      refine lv_astore (lv' := [(4, .ref q9), (0, .ref (a 0)), (1, .int p0), (2, .int p1), (3, .ref o)]) hx hb dL_size_17 hl (by decide) rfl (fun ls hl => ?_)
      refine lv_iconst (v := 2) hx hb dL_size_19 (by decide) ?_
      refine W.widen (k := 3) (n := 18) (Nat.le_of_ble_eq_true rfl) (Nat.le_of_ble_eq_true rfl) ?_
      exact z_reti (wf := ww a c o co) (u := (S9, u.2)) hx hb hr hlocks h hP hS dL_size_20
  · refine lv_i2l hx hb dL_size_8 rfl ?_
    refine va_last (D := D) (f := u.2) hx hb hK hP (hD (S1, u.2)) hS 24 18 rfl rfl in01 dL_size_9 (fun H locs hP _ hS => ?_)
    have hP : va_P D vwCl (ww a c o co (S1, vp_updL u.2 0 r.toInt64)) H := hP
    refine lv_goto (tgt := 21) hx hb dL_size_10 (by decide) ?_
    refine lv_iconst (v := 0) hx hb dL_size_21 (by decide) ?_
    refine W.widen (k := 3) (n := 18) (Nat.le_of_ble_eq_true rfl) (Nat.le_of_ble_eq_true rfl) ?_
    exact z_reti (wf := ww a c o co) (u := (S1, vp_updL u.2 0 r.toInt64)) hx hb hr hlocks h hP hS dL_size_22
set_option maxHeartbeats 4000000 in
set_option maxRecDepth 100000 in
theorem tL_prices (l : Launch) (D : va_G) (a : Nat → Nat) (c : Nat → ClassId) (o : Nat) (co : ClassId) (sz : Nat) (p0 p1 : Int32) (u : Lo) (post : Int32 → Lo → Prop) (hl0 : l.stackTraces = false) (h : PX5_prices p0 p1 u.1 (fun S1 => post 0 (S1, u.2)) (fun E S1 => (E = "java/lang/IllegalArgumentException" ∧ post 1 (S1, u.2)))) : Met l yL_prices wsL_prices ({ frames := 9, cells := 2, slots := 12, locals := 184 }) (va_Pc [.ref (a 0), .int p0, .int p1] (lP D a c o co u sz)) (va_Qi post (fun u t => va_P D vwCl (ww a c o co u) t.heap) (va_A (ww a c o co u) sz)) 2 12 (va_A (ww a c o co u) sz) := by
  refine va_MetW (cc := cL_prices) (maxL := 4) (ret := (some .int)) (hh := [(0, 6, 9, 13)]) (by decide) rfl ?_
  intro p e s m args below meth c9 s₁ B hml hv
  obtain ⟨rfl, hsz, hP, hK, hD0, hN, hT, hC⟩ := hv
  have hx := B.exec
  have hb := B.bytes
  have hr := B.returns
  have hts := atoms_spec (ws := wsL_prices) B.pre
  have hown : s.vm.findClass RL = some m.cls := findClass_of_methodNamed B.named
  have hlocks := B.notSynchronized
  have htab : c9.exceptionTable.toList = tableOf [(0, 6, 9, 13)] := vx_table (x := yL_prices) B (hts (.codeWith yL_prices cL_prices 4 (some .int) [(0, 6, 9, 13)]) List.mem_cons_self)
  subst hsz
  have hD1 := hD0.self (sz := s.heap.size)
  generalize hAe : va_A (ww a c o co u) s.heap.size = A at hD1 hT ⊢
  have hA : ∀ q : Nat, s.heap.size ≤ q → A q := fun q h => by rw [← hAe]; exact Or.inr h
  have hD : ∀ u2 : Lo, va_D A (ww a c o co u2) := ww_F hD1
  have hS : va_S A s.heap s.heap [] := va_S.rf
  have hKc : va_K D vwCl (cty c) s := hK.sub [0, 1, 2, 3, 4, 5, 6, 7, 8, 9, 10, 11, 12, 13, 14, 15, 16, 17] rfl
  have kl13 := hts (.classLink RL 13 "java/lang/IllegalArgumentException") (by decide +kernel)
  have hl := lv_entry ([.ref (a 0), .int p0, .int p1]) (n := 4) (Nat.le_of_ble_eq_true rfl)
  rw [lg_entry_eq]
  generalize (lg_sl ([.ref (a 0), .int p0, .int p1]) ++ List.replicate (4 - (lg_sl ([.ref (a 0), .int p0, .int p1])).length) Slot.unset).toArray = ls at hl ⊢
  have hl : lv_has ls 4 [(0, .ref (a 0)), (1, .int p0), (2, .int p1)] := hl
  refine lv_aload_n hx hb dL_prices_0 rfl (lv_at hl 0 rfl) ?_
  refine lv_iload_n hx hb dL_prices_1 rfl (lv_at hl 1 rfl) ?_
  refine lv_iload_n hx hb dL_prices_2 rfl (lv_at hl 2 rfl) ?_
  refine y_v (x_runV cns_ok ⟨hx, hb, hml, hown, hts⟩ (tX5_prices l D a c _ p0 p1 u.1 _ _ hl0 h) (cwV 2 hts gL_prices_X5_prices rfl rfl rfl (by decide +kernel) ⟨Nat.le_of_ble_eq_true rfl, Nat.le_of_ble_eq_true rfl⟩) (va_recv hKc (P_left hP) (ci := 5) (q0 := 0) rfl rfl) (P_left hP) hKc (D_left (hD u)) hN hT hS hA rfl rfl hl.1 rfl (lv_room (Nat.le_of_ble_eq_true rfl)) dL_prices_3 ⟨Nat.le_of_ble_eq_true rfl, Nat.le_of_ble_eq_true rfl⟩) hS (hD u) hP hA (fun E q9 ce S9 H locs hw hP hS hq hv hcl => ?_) (fun S1 H locs h hP hS => ?_)
  · obtain ⟨rfl, h⟩ := hw
    refine hc_first (E := "java/lang/IllegalArgumentException") (name := "java/lang/IllegalArgumentException") hown _ _ htab (by decide) (by decide) kl13 (xW_use hT.2.2.2 (.castable "java/lang/IllegalArgumentException" "java/lang/IllegalArgumentException") (by decide)) hq hv hcl ?_
    refine lv_astore_n (lv' := [(3, .ref q9), (0, .ref (a 0)), (1, .int p0), (2, .int p1)]) hx hb dL_prices_9 rfl hl (by decide) rfl (fun ls hl => ?_)
    refine lv_iconst (v := 1) hx hb dL_prices_10 (by decide) ?_
    refine W.widen (k := 2) (n := 12) (Nat.le_of_ble_eq_true rfl) (Nat.le_of_ble_eq_true rfl) ?_
    exact z_reti (wf := ww a c o co) (u := (S9, u.2)) hx hb hr hlocks h hP hS dL_prices_11
  · refine lv_goto (tgt := 12) hx hb dL_prices_6 (by decide) ?_
    refine lv_iconst (v := 0) hx hb dL_prices_12 (by decide) ?_
    refine W.widen (k := 2) (n := 12) (Nat.le_of_ble_eq_true rfl) (Nat.le_of_ble_eq_true rfl) ?_
    exact z_reti (wf := ww a c o co) (u := (S1, u.2)) hx hb hr hlocks h hP hS dL_prices_13
set_option maxHeartbeats 4000000 in
set_option maxRecDepth 100000 in
theorem tL_cost (l : Launch) (D : va_G) (a : Nat → Nat) (c : Nat → ClassId) (o : Nat) (co : ClassId) (sz : Nat) (p0 p1 p2 : Int32) (u : Lo) (post : Int32 → Lo → Prop) (hl0 : l.stackTraces = false) (h : PX5_cost p0 p1 p2 u.1 (fun r S1 => post 0 (S1, vp_updL u.2 0 r)) (fun E S1 => (E = "java/lang/IndexOutOfBoundsException" ∧ post 1 (S1, u.2)) ∨ (E = "java/lang/IllegalArgumentException" ∧ post 2 (S1, u.2)))) : Met l yL_cost wsL_cost ({ frames := 10, cells := 3, slots := 18, locals := 208 }) (va_Pc [.ref (a 0), .int p0, .int p1, .int p2, .ref o] (lP D a c o co u sz)) (va_Qi post (fun u t => va_P D vwCl (ww a c o co u) t.heap) (va_A (ww a c o co u) sz)) 3 18 (va_A (ww a c o co u) sz) := by
  refine va_MetW (cc := cL_cost) (maxL := 6) (ret := (some .int)) (hh := [(0, 11, 14, 20), (0, 11, 18, 13)]) (by decide) rfl ?_
  intro p e s m args below meth c9 s₁ B hml hv
  obtain ⟨rfl, hsz, hP, hK, hD0, hN, hT, hC⟩ := hv
  have hx := B.exec
  have hb := B.bytes
  have hr := B.returns
  have hts := atoms_spec (ws := wsL_cost) B.pre
  have hown : s.vm.findClass RL = some m.cls := findClass_of_methodNamed B.named
  have hlocks := B.notSynchronized
  have htab : c9.exceptionTable.toList = tableOf [(0, 11, 14, 20), (0, 11, 18, 13)] := vx_table (x := yL_cost) B (hts (.codeWith yL_cost cL_cost 6 (some .int) [(0, 11, 14, 20), (0, 11, 18, 13)]) List.mem_cons_self)
  subst hsz
  have hD1 := hD0.self (sz := s.heap.size)
  generalize hAe : va_A (ww a c o co u) s.heap.size = A at hD1 hT ⊢
  have hA : ∀ q : Nat, s.heap.size ≤ q → A q := fun q h => by rw [← hAe]; exact Or.inr h
  have hD : ∀ u2 : Lo, va_D A (ww a c o co u2) := ww_F hD1
  have hS : va_S A s.heap s.heap [] := va_S.rf
  have hKc : va_K D vwCl (cty c) s := hK.sub [0, 1, 2, 3, 4, 5, 6, 7, 8, 9, 10, 11, 12, 13, 14, 15, 16, 17] rfl
  have kl20 := hts (.classLink RL 20 "java/lang/IndexOutOfBoundsException") (by decide +kernel)
  have kl13 := hts (.classLink RL 13 "java/lang/IllegalArgumentException") (by decide +kernel)
  have hl := lv_entry ([.ref (a 0), .int p0, .int p1, .int p2, .ref o]) (n := 6) (Nat.le_of_ble_eq_true rfl)
  rw [lg_entry_eq]
  generalize (lg_sl ([.ref (a 0), .int p0, .int p1, .int p2, .ref o]) ++ List.replicate (6 - (lg_sl ([.ref (a 0), .int p0, .int p1, .int p2, .ref o])).length) Slot.unset).toArray = ls at hl ⊢
  have hl : lv_has ls 6 [(0, .ref (a 0)), (1, .int p0), (2, .int p1), (3, .int p2), (4, .ref o)] := hl
  refine lv_aload hx hb dL_cost_0 (lv_at hl 4 rfl) ?_
  refine lv_iconst (v := 0) hx hb dL_cost_2 (by decide) ?_
  refine lv_aload_n hx hb dL_cost_3 rfl (lv_at hl 0 rfl) ?_
  refine lv_iload_n hx hb dL_cost_4 rfl (lv_at hl 1 rfl) ?_
  refine lv_iload_n hx hb dL_cost_5 rfl (lv_at hl 2 rfl) ?_
  refine lv_iload_n hx hb dL_cost_6 rfl (lv_at hl 3 rfl) ?_
  refine y_l (x_runV cns_ok ⟨hx, hb, hml, hown, hts⟩ (tX5_cost l D a c _ p0 p1 p2 u.1 _ _ hl0 h) (cwV 3 hts gL_cost_X5_cost rfl rfl rfl (by decide +kernel) ⟨Nat.le_of_ble_eq_true rfl, Nat.le_of_ble_eq_true rfl⟩) (va_recv hKc (P_left hP) (ci := 5) (q0 := 0) rfl rfl) (P_left hP) hKc (D_left (hD u)) hN hT hS hA rfl rfl hl.1 rfl (lv_room (Nat.le_of_ble_eq_true rfl)) dL_cost_7 ⟨Nat.le_of_ble_eq_true rfl, Nat.le_of_ble_eq_true rfl⟩) hS (hD u) hP hA (fun E q9 ce S9 H locs hw hP hS hq hv hcl => ?_) (fun r S1 H locs h hP hS => ?_)
  · rcases hw with ⟨rfl, h⟩ | ⟨rfl, h⟩
    · refine hc_first (E := "java/lang/IndexOutOfBoundsException") (name := "java/lang/IndexOutOfBoundsException") hown _ _ htab (by decide) (by decide) kl20 (xW_use hT.2.2.2 (.castable "java/lang/IndexOutOfBoundsException" "java/lang/IndexOutOfBoundsException") (by decide)) hq hv hcl ?_
      refine lv_astore (lv' := [(5, .ref q9), (0, .ref (a 0)), (1, .int p0), (2, .int p1), (3, .int p2), (4, .ref o)]) hx hb dL_cost_14 hl (by decide) rfl (fun ls hl => ?_)
      refine lv_iconst (v := 1) hx hb dL_cost_16 (by decide) ?_
      refine W.widen (k := 3) (n := 18) (Nat.le_of_ble_eq_true rfl) (Nat.le_of_ble_eq_true rfl) ?_
      exact z_reti (wf := ww a c o co) (u := (S9, u.2)) hx hb hr hlocks h hP hS dL_cost_17
    · refine hc_second (E := "java/lang/IllegalArgumentException") (name := "java/lang/IllegalArgumentException") (nm1 := "java/lang/IndexOutOfBoundsException") hown _ _ _ htab (by decide) (by decide) kl20 (hC ("java/lang/IllegalArgumentException", "java/lang/IndexOutOfBoundsException") (by decide)) (by decide) (by decide) kl13 (xW_use hT.2.2.2 (.castable "java/lang/IllegalArgumentException" "java/lang/IllegalArgumentException") (by decide)) hq hv hcl ?_
      refine lv_astore (lv' := [(5, .ref q9), (0, .ref (a 0)), (1, .int p0), (2, .int p1), (3, .int p2), (4, .ref o)]) hx hb dL_cost_18 hl (by decide) rfl (fun ls hl => ?_)
      refine lv_iconst (v := 2) hx hb dL_cost_20 (by decide) ?_
      refine W.widen (k := 3) (n := 18) (Nat.le_of_ble_eq_true rfl) (Nat.le_of_ble_eq_true rfl) ?_
      exact z_reti (wf := ww a c o co) (u := (S9, u.2)) hx hb hr hlocks h hP hS dL_cost_21
  · refine va_last (D := D) (f := u.2) hx hb hK hP (hD (S1, u.2)) hS 24 18 rfl rfl in01 dL_cost_10 (fun H locs hP _ hS => ?_)
    have hP : va_P D vwCl (ww a c o co (S1, vp_updL u.2 0 r)) H := hP
    refine lv_goto (tgt := 22) hx hb dL_cost_11 (by decide) ?_
    refine lv_iconst (v := 0) hx hb dL_cost_22 (by decide) ?_
    refine W.widen (k := 3) (n := 18) (Nat.le_of_ble_eq_true rfl) (Nat.le_of_ble_eq_true rfl) ?_
    exact z_reti (wf := ww a c o co) (u := (S1, vp_updL u.2 0 r)) hx hb hr hlocks h hP hS dL_cost_23
set_option maxHeartbeats 4000000 in
set_option maxRecDepth 100000 in
theorem tL_pots (l : Launch) (D : va_G) (a : Nat → Nat) (c : Nat → ClassId) (o : Nat) (co : ClassId) (sz : Nat) (p0 p1 p2 p3 : Int32) (u : Lo) (post : Int32 → Lo → Prop) (hl0 : l.stackTraces = false) (h : PX5_pots p0 p1 p2 p3 u.1 (fun r S1 => post 0 (S1, vp_updL u.2 0 r.toInt64)) (fun E S1 => (E = "java/lang/IndexOutOfBoundsException" ∧ post 1 (S1, u.2)) ∨ (E = "java/lang/IllegalArgumentException" ∧ post 2 (S1, u.2)))) : Met l yL_pots wsL_pots ({ frames := 10, cells := 3, slots := 18, locals := 209 }) (va_Pc [.ref (a 0), .int p0, .int p1, .int p2, .int p3, .ref o] (lP D a c o co u sz)) (va_Qi post (fun u t => va_P D vwCl (ww a c o co u) t.heap) (va_A (ww a c o co u) sz)) 3 18 (va_A (ww a c o co u) sz) := by
  refine va_MetW (cc := cL_pots) (maxL := 7) (ret := (some .int)) (hh := [(0, 14, 17, 20), (0, 14, 21, 13)]) (by decide) rfl ?_
  intro p e s m args below meth c9 s₁ B hml hv
  obtain ⟨rfl, hsz, hP, hK, hD0, hN, hT, hC⟩ := hv
  have hx := B.exec
  have hb := B.bytes
  have hr := B.returns
  have hts := atoms_spec (ws := wsL_pots) B.pre
  have hown : s.vm.findClass RL = some m.cls := findClass_of_methodNamed B.named
  have hlocks := B.notSynchronized
  have htab : c9.exceptionTable.toList = tableOf [(0, 14, 17, 20), (0, 14, 21, 13)] := vx_table (x := yL_pots) B (hts (.codeWith yL_pots cL_pots 7 (some .int) [(0, 14, 17, 20), (0, 14, 21, 13)]) List.mem_cons_self)
  subst hsz
  have hD1 := hD0.self (sz := s.heap.size)
  generalize hAe : va_A (ww a c o co u) s.heap.size = A at hD1 hT ⊢
  have hA : ∀ q : Nat, s.heap.size ≤ q → A q := fun q h => by rw [← hAe]; exact Or.inr h
  have hD : ∀ u2 : Lo, va_D A (ww a c o co u2) := ww_F hD1
  have hS : va_S A s.heap s.heap [] := va_S.rf
  have hKc : va_K D vwCl (cty c) s := hK.sub [0, 1, 2, 3, 4, 5, 6, 7, 8, 9, 10, 11, 12, 13, 14, 15, 16, 17] rfl
  have kl20 := hts (.classLink RL 20 "java/lang/IndexOutOfBoundsException") (by decide +kernel)
  have kl13 := hts (.classLink RL 13 "java/lang/IllegalArgumentException") (by decide +kernel)
  have hl := lv_entry ([.ref (a 0), .int p0, .int p1, .int p2, .int p3, .ref o]) (n := 7) (Nat.le_of_ble_eq_true rfl)
  rw [lg_entry_eq]
  generalize (lg_sl ([.ref (a 0), .int p0, .int p1, .int p2, .int p3, .ref o]) ++ List.replicate (7 - (lg_sl ([.ref (a 0), .int p0, .int p1, .int p2, .int p3, .ref o])).length) Slot.unset).toArray = ls at hl ⊢
  have hl : lv_has ls 7 [(0, .ref (a 0)), (1, .int p0), (2, .int p1), (3, .int p2), (4, .int p3), (5, .ref o)] := hl
  refine lv_aload hx hb dL_pots_0 (lv_at hl 5 rfl) ?_
  refine lv_iconst (v := 0) hx hb dL_pots_2 (by decide) ?_
  refine lv_aload_n hx hb dL_pots_3 rfl (lv_at hl 0 rfl) ?_
  refine lv_iload_n hx hb dL_pots_4 rfl (lv_at hl 1 rfl) ?_
  refine lv_iload_n hx hb dL_pots_5 rfl (lv_at hl 2 rfl) ?_
  refine lv_iload_n hx hb dL_pots_6 rfl (lv_at hl 3 rfl) ?_
  refine lv_iload hx hb dL_pots_7 (lv_at hl 4 rfl) ?_
  refine y_i (x_runV cns_ok ⟨hx, hb, hml, hown, hts⟩ (tX5_pots l D a c _ p0 p1 p2 p3 u.1 _ _ hl0 h) (cwV 4 hts gL_pots_X5_pots rfl rfl rfl (by decide +kernel) ⟨Nat.le_of_ble_eq_true rfl, Nat.le_of_ble_eq_true rfl⟩) (va_recv hKc (P_left hP) (ci := 5) (q0 := 0) rfl rfl) (P_left hP) hKc (D_left (hD u)) hN hT hS hA rfl rfl hl.1 rfl (lv_room (Nat.le_of_ble_eq_true rfl)) dL_pots_9 ⟨Nat.le_of_ble_eq_true rfl, Nat.le_of_ble_eq_true rfl⟩) hS (hD u) hP hA (fun E q9 ce S9 H locs hw hP hS hq hv hcl => ?_) (fun r S1 H locs h hP hS => ?_)
  · rcases hw with ⟨rfl, h⟩ | ⟨rfl, h⟩
    · refine hc_first (E := "java/lang/IndexOutOfBoundsException") (name := "java/lang/IndexOutOfBoundsException") hown _ _ htab (by decide) (by decide) kl20 (xW_use hT.2.2.2 (.castable "java/lang/IndexOutOfBoundsException" "java/lang/IndexOutOfBoundsException") (by decide)) hq hv hcl ?_
      refine lv_astore (lv' := [(6, .ref q9), (0, .ref (a 0)), (1, .int p0), (2, .int p1), (3, .int p2), (4, .int p3), (5, .ref o)]) hx hb dL_pots_17 hl (by decide) rfl (fun ls hl => ?_)
      refine lv_iconst (v := 1) hx hb dL_pots_19 (by decide) ?_
      refine W.widen (k := 3) (n := 18) (Nat.le_of_ble_eq_true rfl) (Nat.le_of_ble_eq_true rfl) ?_
      exact z_reti (wf := ww a c o co) (u := (S9, u.2)) hx hb hr hlocks h hP hS dL_pots_20
    · refine hc_second (E := "java/lang/IllegalArgumentException") (name := "java/lang/IllegalArgumentException") (nm1 := "java/lang/IndexOutOfBoundsException") hown _ _ _ htab (by decide) (by decide) kl20 (hC ("java/lang/IllegalArgumentException", "java/lang/IndexOutOfBoundsException") (by decide)) (by decide) (by decide) kl13 (xW_use hT.2.2.2 (.castable "java/lang/IllegalArgumentException" "java/lang/IllegalArgumentException") (by decide)) hq hv hcl ?_
      refine lv_astore (lv' := [(6, .ref q9), (0, .ref (a 0)), (1, .int p0), (2, .int p1), (3, .int p2), (4, .int p3), (5, .ref o)]) hx hb dL_pots_21 hl (by decide) rfl (fun ls hl => ?_)
      refine lv_iconst (v := 2) hx hb dL_pots_23 (by decide) ?_
      refine W.widen (k := 3) (n := 18) (Nat.le_of_ble_eq_true rfl) (Nat.le_of_ble_eq_true rfl) ?_
      exact z_reti (wf := ww a c o co) (u := (S9, u.2)) hx hb hr hlocks h hP hS dL_pots_24
  · refine lv_i2l hx hb dL_pots_12 rfl ?_
    refine va_last (D := D) (f := u.2) hx hb hK hP (hD (S1, u.2)) hS 24 18 rfl rfl in01 dL_pots_13 (fun H locs hP _ hS => ?_)
    have hP : va_P D vwCl (ww a c o co (S1, vp_updL u.2 0 r.toInt64)) H := hP
    refine lv_goto (tgt := 25) hx hb dL_pots_14 (by decide) ?_
    refine lv_iconst (v := 0) hx hb dL_pots_25 (by decide) ?_
    refine W.widen (k := 3) (n := 18) (Nat.le_of_ble_eq_true rfl) (Nat.le_of_ble_eq_true rfl) ?_
    exact z_reti (wf := ww a c o co) (u := (S1, vp_updL u.2 0 r.toInt64)) hx hb hr hlocks h hP hS dL_pots_26
set_option maxHeartbeats 4000000 in
set_option maxRecDepth 100000 in
theorem tL_ladle (l : Launch) (D : va_G) (a : Nat → Nat) (c : Nat → ClassId) (o : Nat) (co : ClassId) (sz : Nat) (p0 : Int32) (u : Lo) (post : Int32 → Lo → Prop) (hl0 : l.stackTraces = false) (h : PX5_ladle p0 u.1 (fun r S1 => post 0 (S1, vp_updL u.2 0 r.toInt64)) (fun E S1 => (E = "java/lang/IndexOutOfBoundsException" ∧ post 1 (S1, u.2)))) : Met l yL_ladle wsL_ladle ({ frames := 13, cells := 1, slots := 6, locals := 303 }) (va_Pc [.ref (a 0), .int p0, .ref o] (lP D a c o co u sz)) (va_Qi post (fun u t => va_P D vwCl (ww a c o co u) t.heap) (va_A (ww a c o co u) sz)) 1 6 (va_A (ww a c o co u) sz) := by
  refine va_MetW (cc := cL_ladle) (maxL := 4) (ret := (some .int)) (hh := [(0, 9, 12, 20)]) (by decide) rfl ?_
  intro p e s m args below meth c9 s₁ B hml hv
  obtain ⟨rfl, hsz, hP, hK, hD0, hN, hT, hC⟩ := hv
  have hx := B.exec
  have hb := B.bytes
  have hr := B.returns
  have hts := atoms_spec (ws := wsL_ladle) B.pre
  have hown : s.vm.findClass RL = some m.cls := findClass_of_methodNamed B.named
  have hlocks := B.notSynchronized
  have htab : c9.exceptionTable.toList = tableOf [(0, 9, 12, 20)] := vx_table (x := yL_ladle) B (hts (.codeWith yL_ladle cL_ladle 4 (some .int) [(0, 9, 12, 20)]) List.mem_cons_self)
  subst hsz
  have hD1 := hD0.self (sz := s.heap.size)
  generalize hAe : va_A (ww a c o co u) s.heap.size = A at hD1 hT ⊢
  have hA : ∀ q : Nat, s.heap.size ≤ q → A q := fun q h => by rw [← hAe]; exact Or.inr h
  have hD : ∀ u2 : Lo, va_D A (ww a c o co u2) := ww_F hD1
  have hS : va_S A s.heap s.heap [] := va_S.rf
  have hKc : va_K D vwCl (cty c) s := hK.sub [0, 1, 2, 3, 4, 5, 6, 7, 8, 9, 10, 11, 12, 13, 14, 15, 16, 17] rfl
  have kl20 := hts (.classLink RL 20 "java/lang/IndexOutOfBoundsException") (by decide +kernel)
  have hl := lv_entry ([.ref (a 0), .int p0, .ref o]) (n := 4) (Nat.le_of_ble_eq_true rfl)
  rw [lg_entry_eq]
  generalize (lg_sl ([.ref (a 0), .int p0, .ref o]) ++ List.replicate (4 - (lg_sl ([.ref (a 0), .int p0, .ref o])).length) Slot.unset).toArray = ls at hl ⊢
  have hl : lv_has ls 4 [(0, .ref (a 0)), (1, .int p0), (2, .ref o)] := hl
  refine lv_aload_n hx hb dL_ladle_0 rfl (lv_at hl 2 rfl) ?_
  refine lv_iconst (v := 0) hx hb dL_ladle_1 (by decide) ?_
  refine lv_aload_n hx hb dL_ladle_2 rfl (lv_at hl 0 rfl) ?_
  refine lv_iload_n hx hb dL_ladle_3 rfl (lv_at hl 1 rfl) ?_
  refine y_i (x_runV cns_ok ⟨hx, hb, hml, hown, hts⟩ (tX5_ladle l D a c _ p0 u.1 _ _ hl0 h) (cwV 1 hts gL_ladle_X5_ladle rfl rfl rfl (by decide +kernel) ⟨Nat.le_of_ble_eq_true rfl, Nat.le_of_ble_eq_true rfl⟩) (va_recv hKc (P_left hP) (ci := 5) (q0 := 0) rfl rfl) (P_left hP) hKc (D_left (hD u)) hN hT hS hA rfl rfl hl.1 rfl (lv_room (Nat.le_of_ble_eq_true rfl)) dL_ladle_4 ⟨Nat.le_of_ble_eq_true rfl, Nat.le_of_ble_eq_true rfl⟩) hS (hD u) hP hA (fun E q9 ce S9 H locs hw hP hS hq hv hcl => ?_) (fun r S1 H locs h hP hS => ?_)
  · obtain ⟨rfl, h⟩ := hw
    refine hc_first (E := "java/lang/IndexOutOfBoundsException") (name := "java/lang/IndexOutOfBoundsException") hown _ _ htab (by decide) (by decide) kl20 (xW_use hT.2.2.2 (.castable "java/lang/IndexOutOfBoundsException" "java/lang/IndexOutOfBoundsException") (by decide)) hq hv hcl ?_
    refine lv_astore_n (lv' := [(3, .ref q9), (0, .ref (a 0)), (1, .int p0), (2, .ref o)]) hx hb dL_ladle_12 rfl hl (by decide) rfl (fun ls hl => ?_)
    refine lv_iconst (v := 1) hx hb dL_ladle_13 (by decide) ?_
    refine W.widen (k := 1) (n := 6) (Nat.le_of_ble_eq_true rfl) (Nat.le_of_ble_eq_true rfl) ?_
    exact z_reti (wf := ww a c o co) (u := (S9, u.2)) hx hb hr hlocks h hP hS dL_ladle_14
  · refine lv_i2l hx hb dL_ladle_7 rfl ?_
    refine va_last (D := D) (f := u.2) hx hb hK hP (hD (S1, u.2)) hS 24 18 rfl rfl in01 dL_ladle_8 (fun H locs hP _ hS => ?_)
    have hP : va_P D vwCl (ww a c o co (S1, vp_updL u.2 0 r.toInt64)) H := hP
    refine lv_goto (tgt := 15) hx hb dL_ladle_9 (by decide) ?_
    refine lv_iconst (v := 0) hx hb dL_ladle_15 (by decide) ?_
    refine W.widen (k := 1) (n := 6) (Nat.le_of_ble_eq_true rfl) (Nat.le_of_ble_eq_true rfl) ?_
    exact z_reti (wf := ww a c o co) (u := (S1, vp_updL u.2 0 r.toInt64)) hx hb hr hlocks h hP hS dL_ladle_16
set_option maxHeartbeats 4000000 in
set_option maxRecDepth 100000 in
theorem tL_come (l : Launch) (D : va_G) (a : Nat → Nat) (c : Nat → ClassId) (o : Nat) (co : ClassId) (sz : Nat) (p0 : Int32) (u : Lo) (post : Int32 → Lo → Prop) (hl0 : l.stackTraces = false) (h : PX5_come p0 u.1 (fun r S1 => post 0 (S1, vp_updL u.2 0 r.toInt64)) (fun E S1 => (E = "java/lang/IllegalArgumentException" ∧ post 1 (S1, u.2)))) : Met l yL_come wsL_come ({ frames := 9, cells := 1, slots := 6, locals := 183 }) (va_Pc [.ref (a 0), .int p0, .ref o] (lP D a c o co u sz)) (va_Qi post (fun u t => va_P D vwCl (ww a c o co u) t.heap) (va_A (ww a c o co u) sz)) 1 6 (va_A (ww a c o co u) sz) := by
  refine va_MetW (cc := cL_come) (maxL := 4) (ret := (some .int)) (hh := [(0, 9, 12, 13)]) (by decide) rfl ?_
  intro p e s m args below meth c9 s₁ B hml hv
  obtain ⟨rfl, hsz, hP, hK, hD0, hN, hT, hC⟩ := hv
  have hx := B.exec
  have hb := B.bytes
  have hr := B.returns
  have hts := atoms_spec (ws := wsL_come) B.pre
  have hown : s.vm.findClass RL = some m.cls := findClass_of_methodNamed B.named
  have hlocks := B.notSynchronized
  have htab : c9.exceptionTable.toList = tableOf [(0, 9, 12, 13)] := vx_table (x := yL_come) B (hts (.codeWith yL_come cL_come 4 (some .int) [(0, 9, 12, 13)]) List.mem_cons_self)
  subst hsz
  have hD1 := hD0.self (sz := s.heap.size)
  generalize hAe : va_A (ww a c o co u) s.heap.size = A at hD1 hT ⊢
  have hA : ∀ q : Nat, s.heap.size ≤ q → A q := fun q h => by rw [← hAe]; exact Or.inr h
  have hD : ∀ u2 : Lo, va_D A (ww a c o co u2) := ww_F hD1
  have hS : va_S A s.heap s.heap [] := va_S.rf
  have hKc : va_K D vwCl (cty c) s := hK.sub [0, 1, 2, 3, 4, 5, 6, 7, 8, 9, 10, 11, 12, 13, 14, 15, 16, 17] rfl
  have kl13 := hts (.classLink RL 13 "java/lang/IllegalArgumentException") (by decide +kernel)
  have hl := lv_entry ([.ref (a 0), .int p0, .ref o]) (n := 4) (Nat.le_of_ble_eq_true rfl)
  rw [lg_entry_eq]
  generalize (lg_sl ([.ref (a 0), .int p0, .ref o]) ++ List.replicate (4 - (lg_sl ([.ref (a 0), .int p0, .ref o])).length) Slot.unset).toArray = ls at hl ⊢
  have hl : lv_has ls 4 [(0, .ref (a 0)), (1, .int p0), (2, .ref o)] := hl
  refine lv_aload_n hx hb dL_come_0 rfl (lv_at hl 2 rfl) ?_
  refine lv_iconst (v := 0) hx hb dL_come_1 (by decide) ?_
  refine lv_aload_n hx hb dL_come_2 rfl (lv_at hl 0 rfl) ?_
  refine lv_iload_n hx hb dL_come_3 rfl (lv_at hl 1 rfl) ?_
  refine y_i (x_runV cns_ok ⟨hx, hb, hml, hown, hts⟩ (tX5_come l D a c _ p0 u.1 _ _ hl0 h) (cwV 1 hts gL_come_X5_come rfl rfl rfl (by decide +kernel) ⟨Nat.le_of_ble_eq_true rfl, Nat.le_of_ble_eq_true rfl⟩) (va_recv hKc (P_left hP) (ci := 5) (q0 := 0) rfl rfl) (P_left hP) hKc (D_left (hD u)) hN hT hS hA rfl rfl hl.1 rfl (lv_room (Nat.le_of_ble_eq_true rfl)) dL_come_4 ⟨Nat.le_of_ble_eq_true rfl, Nat.le_of_ble_eq_true rfl⟩) hS (hD u) hP hA (fun E q9 ce S9 H locs hw hP hS hq hv hcl => ?_) (fun r S1 H locs h hP hS => ?_)
  · obtain ⟨rfl, h⟩ := hw
    refine hc_first (E := "java/lang/IllegalArgumentException") (name := "java/lang/IllegalArgumentException") hown _ _ htab (by decide) (by decide) kl13 (xW_use hT.2.2.2 (.castable "java/lang/IllegalArgumentException" "java/lang/IllegalArgumentException") (by decide)) hq hv hcl ?_
    refine lv_astore_n (lv' := [(3, .ref q9), (0, .ref (a 0)), (1, .int p0), (2, .ref o)]) hx hb dL_come_12 rfl hl (by decide) rfl (fun ls hl => ?_)
    refine lv_iconst (v := 1) hx hb dL_come_13 (by decide) ?_
    refine W.widen (k := 1) (n := 6) (Nat.le_of_ble_eq_true rfl) (Nat.le_of_ble_eq_true rfl) ?_
    exact z_reti (wf := ww a c o co) (u := (S9, u.2)) hx hb hr hlocks h hP hS dL_come_14
  · refine lv_i2l hx hb dL_come_7 rfl ?_
    refine va_last (D := D) (f := u.2) hx hb hK hP (hD (S1, u.2)) hS 24 18 rfl rfl in01 dL_come_8 (fun H locs hP _ hS => ?_)
    have hP : va_P D vwCl (ww a c o co (S1, vp_updL u.2 0 r.toInt64)) H := hP
    refine lv_goto (tgt := 15) hx hb dL_come_9 (by decide) ?_
    refine lv_iconst (v := 0) hx hb dL_come_15 (by decide) ?_
    refine W.widen (k := 1) (n := 6) (Nat.le_of_ble_eq_true rfl) (Nat.le_of_ble_eq_true rfl) ?_
    exact z_reti (wf := ww a c o co) (u := (S1, vp_updL u.2 0 r.toInt64)) hx hb hr hlocks h hP hS dL_come_16
set_option maxHeartbeats 4000000 in
set_option maxRecDepth 100000 in
theorem tL_hatch (l : Launch) (D : va_G) (a : Nat → Nat) (c : Nat → ClassId) (o : Nat) (co : ClassId) (sz : Nat) (p0 p1 : Int32) (u : Lo) (post : Int32 → Lo → Prop) (hl0 : l.stackTraces = false) (h : PX5_hatch p0 p1 u.1 (fun r S1 => post 0 (S1, vp_updL u.2 0 r.toInt64)) (fun E S1 => (E = "java/lang/IllegalArgumentException" ∧ post 1 (S1, u.2)))) : Met l yL_hatch wsL_hatch ({ frames := 9, cells := 2, slots := 12, locals := 184 }) (va_Pc [.ref (a 0), .int p0, .int p1, .ref o] (lP D a c o co u sz)) (va_Qi post (fun u t => va_P D vwCl (ww a c o co u) t.heap) (va_A (ww a c o co u) sz)) 2 12 (va_A (ww a c o co u) sz) := by
  refine va_MetW (cc := cL_hatch) (maxL := 5) (ret := (some .int)) (hh := [(0, 10, 13, 13)]) (by decide) rfl ?_
  intro p e s m args below meth c9 s₁ B hml hv
  obtain ⟨rfl, hsz, hP, hK, hD0, hN, hT, hC⟩ := hv
  have hx := B.exec
  have hb := B.bytes
  have hr := B.returns
  have hts := atoms_spec (ws := wsL_hatch) B.pre
  have hown : s.vm.findClass RL = some m.cls := findClass_of_methodNamed B.named
  have hlocks := B.notSynchronized
  have htab : c9.exceptionTable.toList = tableOf [(0, 10, 13, 13)] := vx_table (x := yL_hatch) B (hts (.codeWith yL_hatch cL_hatch 5 (some .int) [(0, 10, 13, 13)]) List.mem_cons_self)
  subst hsz
  have hD1 := hD0.self (sz := s.heap.size)
  generalize hAe : va_A (ww a c o co u) s.heap.size = A at hD1 hT ⊢
  have hA : ∀ q : Nat, s.heap.size ≤ q → A q := fun q h => by rw [← hAe]; exact Or.inr h
  have hD : ∀ u2 : Lo, va_D A (ww a c o co u2) := ww_F hD1
  have hS : va_S A s.heap s.heap [] := va_S.rf
  have hKc : va_K D vwCl (cty c) s := hK.sub [0, 1, 2, 3, 4, 5, 6, 7, 8, 9, 10, 11, 12, 13, 14, 15, 16, 17] rfl
  have kl13 := hts (.classLink RL 13 "java/lang/IllegalArgumentException") (by decide +kernel)
  have hl := lv_entry ([.ref (a 0), .int p0, .int p1, .ref o]) (n := 5) (Nat.le_of_ble_eq_true rfl)
  rw [lg_entry_eq]
  generalize (lg_sl ([.ref (a 0), .int p0, .int p1, .ref o]) ++ List.replicate (5 - (lg_sl ([.ref (a 0), .int p0, .int p1, .ref o])).length) Slot.unset).toArray = ls at hl ⊢
  have hl : lv_has ls 5 [(0, .ref (a 0)), (1, .int p0), (2, .int p1), (3, .ref o)] := hl
  refine lv_aload_n hx hb dL_hatch_0 rfl (lv_at hl 3 rfl) ?_
  refine lv_iconst (v := 0) hx hb dL_hatch_1 (by decide) ?_
  refine lv_aload_n hx hb dL_hatch_2 rfl (lv_at hl 0 rfl) ?_
  refine lv_iload_n hx hb dL_hatch_3 rfl (lv_at hl 1 rfl) ?_
  refine lv_iload_n hx hb dL_hatch_4 rfl (lv_at hl 2 rfl) ?_
  refine y_i (x_runV cns_ok ⟨hx, hb, hml, hown, hts⟩ (tX5_hatch l D a c _ p0 p1 u.1 _ _ hl0 h) (cwV 2 hts gL_hatch_X5_hatch rfl rfl rfl (by decide +kernel) ⟨Nat.le_of_ble_eq_true rfl, Nat.le_of_ble_eq_true rfl⟩) (va_recv hKc (P_left hP) (ci := 5) (q0 := 0) rfl rfl) (P_left hP) hKc (D_left (hD u)) hN hT hS hA rfl rfl hl.1 rfl (lv_room (Nat.le_of_ble_eq_true rfl)) dL_hatch_5 ⟨Nat.le_of_ble_eq_true rfl, Nat.le_of_ble_eq_true rfl⟩) hS (hD u) hP hA (fun E q9 ce S9 H locs hw hP hS hq hv hcl => ?_) (fun r S1 H locs h hP hS => ?_)
  · obtain ⟨rfl, h⟩ := hw
    refine hc_first (E := "java/lang/IllegalArgumentException") (name := "java/lang/IllegalArgumentException") hown _ _ htab (by decide) (by decide) kl13 (xW_use hT.2.2.2 (.castable "java/lang/IllegalArgumentException" "java/lang/IllegalArgumentException") (by decide)) hq hv hcl ?_
    refine lv_astore (lv' := [(4, .ref q9), (0, .ref (a 0)), (1, .int p0), (2, .int p1), (3, .ref o)]) hx hb dL_hatch_13 hl (by decide) rfl (fun ls hl => ?_)
    refine lv_iconst (v := 1) hx hb dL_hatch_15 (by decide) ?_
    refine W.widen (k := 2) (n := 12) (Nat.le_of_ble_eq_true rfl) (Nat.le_of_ble_eq_true rfl) ?_
    exact z_reti (wf := ww a c o co) (u := (S9, u.2)) hx hb hr hlocks h hP hS dL_hatch_16
  · refine lv_i2l hx hb dL_hatch_8 rfl ?_
    refine va_last (D := D) (f := u.2) hx hb hK hP (hD (S1, u.2)) hS 24 18 rfl rfl in01 dL_hatch_9 (fun H locs hP _ hS => ?_)
    have hP : va_P D vwCl (ww a c o co (S1, vp_updL u.2 0 r.toInt64)) H := hP
    refine lv_goto (tgt := 17) hx hb dL_hatch_10 (by decide) ?_
    refine lv_iconst (v := 0) hx hb dL_hatch_17 (by decide) ?_
    refine W.widen (k := 2) (n := 12) (Nat.le_of_ble_eq_true rfl) (Nat.le_of_ble_eq_true rfl) ?_
    exact z_reti (wf := ww a c o co) (u := (S1, vp_updL u.2 0 r.toInt64)) hx hb hr hlocks h hP hS dL_hatch_18
set_option maxHeartbeats 4000000 in
set_option maxRecDepth 100000 in
theorem tL_serve (l : Launch) (D : va_G) (a : Nat → Nat) (c : Nat → ClassId) (o : Nat) (co : ClassId) (sz : Nat) (p0 : Int32) (u : Lo) (post : Int32 → Lo → Prop) (hl0 : l.stackTraces = false) (h : PX5_serve p0 u.1 (fun r S1 => post 0 (S1, vp_updL u.2 0 r.toInt64)) (fun E S1 => (E = "java/lang/IllegalArgumentException" ∧ post 1 (S1, u.2)))) : Met l yL_serve wsL_serve ({ frames := 8, cells := 1, slots := 6, locals := 161 }) (va_Pc [.ref (a 0), .int p0, .ref o] (lP D a c o co u sz)) (va_Qi post (fun u t => va_P D vwCl (ww a c o co u) t.heap) (va_A (ww a c o co u) sz)) 1 6 (va_A (ww a c o co u) sz) := by
  refine va_MetW (cc := cL_serve) (maxL := 4) (ret := (some .int)) (hh := [(0, 9, 12, 13)]) (by decide) rfl ?_
  intro p e s m args below meth c9 s₁ B hml hv
  obtain ⟨rfl, hsz, hP, hK, hD0, hN, hT, hC⟩ := hv
  have hx := B.exec
  have hb := B.bytes
  have hr := B.returns
  have hts := atoms_spec (ws := wsL_serve) B.pre
  have hown : s.vm.findClass RL = some m.cls := findClass_of_methodNamed B.named
  have hlocks := B.notSynchronized
  have htab : c9.exceptionTable.toList = tableOf [(0, 9, 12, 13)] := vx_table (x := yL_serve) B (hts (.codeWith yL_serve cL_serve 4 (some .int) [(0, 9, 12, 13)]) List.mem_cons_self)
  subst hsz
  have hD1 := hD0.self (sz := s.heap.size)
  generalize hAe : va_A (ww a c o co u) s.heap.size = A at hD1 hT ⊢
  have hA : ∀ q : Nat, s.heap.size ≤ q → A q := fun q h => by rw [← hAe]; exact Or.inr h
  have hD : ∀ u2 : Lo, va_D A (ww a c o co u2) := ww_F hD1
  have hS : va_S A s.heap s.heap [] := va_S.rf
  have hKc : va_K D vwCl (cty c) s := hK.sub [0, 1, 2, 3, 4, 5, 6, 7, 8, 9, 10, 11, 12, 13, 14, 15, 16, 17] rfl
  have kl13 := hts (.classLink RL 13 "java/lang/IllegalArgumentException") (by decide +kernel)
  have hl := lv_entry ([.ref (a 0), .int p0, .ref o]) (n := 4) (Nat.le_of_ble_eq_true rfl)
  rw [lg_entry_eq]
  generalize (lg_sl ([.ref (a 0), .int p0, .ref o]) ++ List.replicate (4 - (lg_sl ([.ref (a 0), .int p0, .ref o])).length) Slot.unset).toArray = ls at hl ⊢
  have hl : lv_has ls 4 [(0, .ref (a 0)), (1, .int p0), (2, .ref o)] := hl
  refine lv_aload_n hx hb dL_serve_0 rfl (lv_at hl 2 rfl) ?_
  refine lv_iconst (v := 0) hx hb dL_serve_1 (by decide) ?_
  refine lv_aload_n hx hb dL_serve_2 rfl (lv_at hl 0 rfl) ?_
  refine lv_iload_n hx hb dL_serve_3 rfl (lv_at hl 1 rfl) ?_
  refine y_i (x_runV cns_ok ⟨hx, hb, hml, hown, hts⟩ (tX5_serve l D a c _ p0 u.1 _ _ hl0 h) (cwV 1 hts gL_serve_X5_serve rfl rfl rfl (by decide +kernel) ⟨Nat.le_of_ble_eq_true rfl, Nat.le_of_ble_eq_true rfl⟩) (va_recv hKc (P_left hP) (ci := 5) (q0 := 0) rfl rfl) (P_left hP) hKc (D_left (hD u)) hN hT hS hA rfl rfl hl.1 rfl (lv_room (Nat.le_of_ble_eq_true rfl)) dL_serve_4 ⟨Nat.le_of_ble_eq_true rfl, Nat.le_of_ble_eq_true rfl⟩) hS (hD u) hP hA (fun E q9 ce S9 H locs hw hP hS hq hv hcl => ?_) (fun r S1 H locs h hP hS => ?_)
  · obtain ⟨rfl, h⟩ := hw
    refine hc_first (E := "java/lang/IllegalArgumentException") (name := "java/lang/IllegalArgumentException") hown _ _ htab (by decide) (by decide) kl13 (xW_use hT.2.2.2 (.castable "java/lang/IllegalArgumentException" "java/lang/IllegalArgumentException") (by decide)) hq hv hcl ?_
    refine lv_astore_n (lv' := [(3, .ref q9), (0, .ref (a 0)), (1, .int p0), (2, .ref o)]) hx hb dL_serve_12 rfl hl (by decide) rfl (fun ls hl => ?_)
    refine lv_iconst (v := 1) hx hb dL_serve_13 (by decide) ?_
    refine W.widen (k := 1) (n := 6) (Nat.le_of_ble_eq_true rfl) (Nat.le_of_ble_eq_true rfl) ?_
    exact z_reti (wf := ww a c o co) (u := (S9, u.2)) hx hb hr hlocks h hP hS dL_serve_14
  · refine lv_i2l hx hb dL_serve_7 rfl ?_
    refine va_last (D := D) (f := u.2) hx hb hK hP (hD (S1, u.2)) hS 24 18 rfl rfl in01 dL_serve_8 (fun H locs hP _ hS => ?_)
    have hP : va_P D vwCl (ww a c o co (S1, vp_updL u.2 0 r.toInt64)) H := hP
    refine lv_goto (tgt := 15) hx hb dL_serve_9 (by decide) ?_
    refine lv_iconst (v := 0) hx hb dL_serve_15 (by decide) ?_
    refine W.widen (k := 1) (n := 6) (Nat.le_of_ble_eq_true rfl) (Nat.le_of_ble_eq_true rfl) ?_
    exact z_reti (wf := ww a c o co) (u := (S1, vp_updL u.2 0 r.toInt64)) hx hb hr hlocks h hP hS dL_serve_16
