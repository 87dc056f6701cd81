section
/-! ===== BEGIN words of one list among another's, by their places ===== -/
theorem goodIn_r {big : List Cond} (ws : List Cond) (ps : List Nat) (hp : ws = ps.filterMap (fun i => big[i]?)) (h : ws.all goodWord = true) : GoodIn big ws := by
  intro w hw
  have h1 := List.all_eq_true.mp h w hw
  rw [hp] at hw
  obtain ⟨i, -, hi⟩ := List.mem_filterMap.mp hw
  have hm : w ∈ big := by first | exact List.mem_of_getElem? hi | exact List.getElem?_mem hi
  exact ⟨hm, good_of_word h1⟩
theorem goodIn_app {big a b : List Cond} (ha : GoodIn big a) (hb : GoodIn big b) : GoodIn big (a ++ b) := fun w h => (List.mem_append.mp h).elim (ha w) (hb w)
theorem goodIn_ca {big a b : List Cond} {c : Cond} (ha : GoodIn big (c :: a)) (hb : GoodIn big b) : GoodIn big (c :: (a ++ b)) := fun w h => (List.mem_cons.mp h).elim (fun e => ha w (List.mem_cons.mpr (Or.inl e))) (fun h => (List.mem_append.mp h).elim (fun h => ha w (List.mem_cons.mpr (Or.inr h))) (hb w))
theorem goodIn_sub {big ws : List Cond} (hm : ∀ w ∈ ws, w ∈ big) (h : ws.all goodWord = true) : GoodIn big ws := fun w hw => ⟨hm w hw, good_of_word (List.all_eq_true.mp h w hw)⟩
/-! ===== END ===== -/

/-! ===== BEGIN exceptions that leave a method, and their catching by the caller (launches without stack traces) ===== -/
section VXA
/-! The laws vx_back, vx_callV, vx_callS, vx_callSW, vx_throw0, vx_throwS follow proofs of the library, with one case more: JvmDerived/Free/Laws.lean (Back.of_free), Shelf42/LK1.lean (callV, callS), Shelf/KitTraced.lean (throwNew0V, throwNewS). -/
/-- where a method has thrown q: the class by its name, the cell, what was written, the world -/
def vx_T (XC : String → State → State → Prop) (st : State) (q : Addr) (t : State) (mc ms : Nat) (free : Addr → Prop) : Prop :=
  ∃ (E : String) (ce : Cell) (L : List Loc), XC E st t ∧ t.heap[q]? = some ce ∧ ce.vm = .none ∧ st.vm.findClass E = some ce.cls ∧ st.WarmedH t.vm ∧ st.sameButNew ({ t with vm := st.vm } : State) L mc ms ∧ ∀ z ∈ L, free z.base
def vx_Q (Qc : Array Value → State → Outcome → State → Prop) (XC : String → State → State → Prop) (mc ms : Nat) (free : Addr → Prop) : Array Value → State → Outcome → State → Prop := fun a st o t =>
  (Qc a st o t ∧ ∃ L, FrameEnd st o t L mc ms ∧ ∀ q ∈ L, free q.base) ∨ ∃ q, o = .threw q ∧ vx_T XC st q t mc ms free
/-- a callee that returns or throws -/
def vx_Met (l : Launch) (y : MethodName) (ws : List Cond) (rm : Room) (Pc : Array Value → State → Prop) (Qc : Array Value → State → Outcome → State → Prop) (XC : String → State → State → Prop) (mc ms : Nat) (free : Addr → Prop) : Prop :=
  MetFree l y (headSpec ws rm) Pc (fun _ _ _ _ _ => True) (vx_Q Qc XC mc ms free)
def vx_Post (XC : String → State → State → Prop) (mc ms : Nat) (free : Addr → Prop) : Pt → Array Value → Addr → Pt → Prop := fun A a q B =>
  ∃ (g : JFrame) (mk : MethodId) (t : State) (L : List Loc) (E : String) (ce : Cell), B.U.heap = t.heap ∧ B.U.vm = t.vm ∧ XC E (A.U.calling g mk a) t ∧ t.heap[q]? = some ce ∧ ce.vm = .none ∧ A.U.vm.findClass E = some ce.cls ∧ B.locs = A.locs ++ L ∧ (∀ z ∈ L, free z.base) ∧ B.cells = A.cells + mc ∧ B.slots = A.slots + ms
def vx_Back (l : Launch) (R : Room) (p : Program) (e : Env) (below : List Frame) (s : State) (sargs : Array Value) (y : MethodName) (len W9 : Nat)
    (Pre : Pt → Array Value → Prop) (Post : Pt → Array Value → Option Value → Pt → Prop) (PostX : Pt → Array Value → Addr → Pt → Prop) : Prop :=
  ∀ (m : MethodId) (meth : Method) (c : Code) (A : Pt) (g : JFrame) (ig : Instr) (mk : MethodId) (a : Array Value),
    Stand p l e R s m sargs below meth c A.U A.locs A.cells A.slots → g.method = m → g.locals.size = c.maxLocals → decode c.code g.pc = .ok (ig, len) →
    2 * g.monitorRoom + (g.stack.map fun v => v.category).sum ≤ W9 → A.U.methodNamed? y = some mk → Pre A a →
    (∃ (v : Option Value) (B : Pt), Stand p l e R s m sargs below meth c B.U B.locs B.cells B.slots ∧ Post A a v B ∧
      Steps p.tables e below (doInvoke e (A.U.setTop g) [] mk a).1 (B.U.setTop { g with pc := g.pc + len, stack := v.toList ++ g.stack })) ∨
    (∃ (q : Addr) (B : Pt), Stand p l e R s m sargs below meth c B.U B.locs B.cells B.slots ∧ PostX A a q B ∧
      Steps p.tables e below (doInvoke e (A.U.setTop g) [] mk a).1 ((B.U.setTop g).pushFrame (.throwing q)))
section Payer
variable {l : Launch} {R : Room} {p : Program} {e : Env} {below : List Frame} {s : State} {sargs : Array Value} {y : MethodName} {len W9 : Nat}
theorem vx_back {ws : List Cond} {rm : Room} {Pc : Array Value → State → Prop} {Qc : Array Value → State → Outcome → State → Prop} {XC : String → State → State → Prop} {mc ms : Nat} {free : Addr → Prop} {bytes : ByteArray} {maxL : Nat} {ret : Option FieldType}
    (hM : vx_Met l y ws rm Pc Qc XC mc ms free) (hblind : FrameBlind Pc) (hrc : rm.cells = mc) (hrs : rm.slots = ms)
    (hframes : rm.frames + 1 ≤ R.frames) (hlocals : W9 + (maxL + 11) + rm.locals ≤ R.locals)
    (hws : ∀ w ∈ ws, ∀ a' U, s.WarmedH U.vm → w.before a' U = true) (hcode : Cond.code y bytes maxL ret ∈ ws) (hinit : ∀ a' U, s.WarmedH U.vm → (Cond.initialized y.cls).before a' U = true) :
    vx_Back l R p e below s sargs y len W9 (PreOf R mc ms Pc) (PostOf Qc mc ms free) (vx_Post XC mc ms free) := by
  intro m meth c A g ig mk a X hg hsize hdg hW hn hp
  have h1 : (headSpec ws rm).pre.before a A.U = true := atoms_intro fun w hw => hws w hw _ _ X.warmed
  have h2 : (Cond.code y bytes maxL ret).before a A.U = true := hws _ hcode _ _ X.warmed
  have h3 : (Cond.initialized y.cls).before a A.U = true := hinit _ _ X.warmed
  have h4 : A.cells + (headSpec ws rm).room.cells ≤ R.cells := by rw [show (headSpec ws rm).room.cells = mc from hrc]; exact hp.1
  have h5 : A.slots + (headSpec ws rm).room.slots ≤ R.slots := by rw [show (headSpec ws rm).room.slots = ms from hrs]; exact hp.2.1
  have hPc : Pc a (A.U.calling g mk a) := hblind _ _ _ _ hp.2.2
  obtain ⟨U, Ls, c0, s0⟩ := A
  dsimp only [Pt.U, Pt.locs, Pt.cells, Pt.slots] at h1 h2 h3 h4 h5 X hn hPc ⊢
  obtain ⟨methY, cY, hmY, hcY, -, hlY, -, -, -, -⟩ := Cond.code_spec hn h2
  obtain ⟨kY, hkY, -⟩ := className_of_methodNamed hn
  have hinitY : kY.init = .initialized := Cond.initialized_spec (findClass_of_methodNamed hn) hkY h3
  have h : At U g.method c below := by rw [hg]; exact X.here
  have hlocals9 : W9 + (maxL + 11) + (headSpec ws rm).room.locals ≤ R.locals := hlocals
  have happ : (headSpec ws rm).appliesLoose y e.platform (U.calling g mk a) = true :=
    Spec.appliesLoose_calling (g := g) h hdg hn hkY hinitY
      (X.room_calling (g := g) (R' := (headSpec ws rm).room) hsize hmY hcY hframes (by rw [hlY]; omega) h4 h5) h1
  obtain ⟨mid, hmid⟩ := h.above
  have hfr : (U.setTop g).frames = (.java g :: mid) ++ below := by rw [State.frames_setTop' g h.top, hmid]; rfl
  obtain ⟨o, s₂, hsteps, -, hend, hq⟩ := Steps.callFree hM p X.admits X.cas X.clock (acts := []) hfr happ hPc trivial
  have hq' : vx_Q Qc XC mc ms free a (U.calling g mk a) o s₂ := hq
  rw [State.frames_setTop' g h.top] at hend
  obtain ⟨g₀, hg0⟩ := Option.isSome_iff_exists.mp h.top
  obtain ⟨r, hr⟩ := State.topJava?_eq_some.mp hg0
  have hr' : (({ U with heap := s₂.heap, slotsUsed := s₂.slotsUsed } : State).setVm s₂.vm).frames = .java g₀ :: r := hr
  rcases hq' with ⟨hqc, L, hfe, hL⟩ | ⟨q, rfl, E, ce, L, hx, hce, hcv, hcl, hW₂, hsm, hL⟩
  · obtain ⟨⟨v, rfl⟩, hW₂, e2, q2, q3, q4, q5, q6⟩ := id hfe
    have e3 : s₂ = ({ (U.calling g mk a).setFrames s₂.frames with heap := s₂.heap, slotsUsed := s₂.slotsUsed } : State).setVm s₂.vm := by
      have : s₂ = ({ s₂ with vm := (U.calling g mk a).vm } : State).setVm s₂.vm := rfl
      rw [e2] at this
      exact this
    obtain ⟨c₂, i₂, len₂, hc₂, hd₂, hf₂⟩ := hend
    have hW' : U.WarmedH s₂.vm := hW₂
    have hcc : c₂ = c := by
      have h1 : s₂.code? g.method = U.code? g.method := by
        rw [State.code?_eq, State.code?_eq, hW'.alike.method?]
      exact Option.some.inj (hc₂.symm.trans (h1.trans h.code))
    subst hcc
    have hlen : len₂ = len := by rw [hdg] at hd₂; cases hd₂; rfl
    subst hlen
    have hs₂ : s₂ = (({ U with heap := s₂.heap, slotsUsed := s₂.slotsUsed } : State).setVm s₂.vm).setTop { g with pc := g.pc + len₂, stack := v.toList ++ g.stack } := by
      refine e3.trans ?_
      rw [hf₂, State.calling_eq h.top, State.setFrames_setFrames, State.setTop_of_frames _ hr', hr]
      rfl
    have hsame : U.sameButNew ({ U with heap := s₂.heap, slotsUsed := s₂.slotsUsed } : State) L mc ms := by
      refine ⟨?_, q2, q3, q4, q5, q6⟩
      obtain ⟨t, ht, -⟩ := State.frames_cons hr
      show ({ U with heap := s₂.heap, slotsUsed := s₂.slotsUsed } : State) = { U.setFrames U.frames with heap := s₂.heap, slotsUsed := s₂.slotsUsed }
      rw [State.setFrames_self ht]
    subst hg
    refine Or.inl ⟨v, ⟨(({ U with heap := s₂.heap, slotsUsed := s₂.slotsUsed } : State).setVm s₂.vm), Ls ++ L, c0 + mc, s0 + ms⟩,
      ⟨X.admits, X.cas, X.clock, X.frames, X.room, X.hears, X.method, X.code, (X.here.setHeapUsed s₂.heap s₂.slotsUsed).setVm hW'.alike, X.tail, State.WarmedH.trans X.warmed hW', X.limits, X.bytes, X.same.trans (hsame.setVm s.vm)⟩,
      ⟨g, mk, s₂, L, rfl, rfl, hqc, rfl, hL, rfl, rfl⟩, ?_⟩
    show Steps p.tables e below _ ((({ U with heap := s₂.heap, slotsUsed := s₂.slotsUsed } : State).setVm s₂.vm).setTop { g with pc := g.pc + len₂, stack := v.toList ++ g.stack })
    rw [← hs₂]
    exact hsteps
  · obtain ⟨e2, q2, q3, q4, q5, q6⟩ := id hsm
    have e3 : s₂ = ({ (U.calling g mk a).setFrames s₂.frames with heap := s₂.heap, slotsUsed := s₂.slotsUsed } : State).setVm s₂.vm := by
      have : s₂ = ({ s₂ with vm := (U.calling g mk a).vm } : State).setVm s₂.vm := rfl
      rw [e2] at this
      exact this
    have hf₂ : s₂.frames = .throwing q :: .java g :: U.frames.tail := hend
    have hW' : U.WarmedH s₂.vm := hW₂
    have hs₂ : s₂ = ((({ U with heap := s₂.heap, slotsUsed := s₂.slotsUsed } : State).setVm s₂.vm).setTop g).pushFrame (.throwing q) := by
      refine e3.trans ?_
      rw [hf₂, State.calling_eq h.top, State.setFrames_setFrames, State.pushFrame, State.frames_setTop _ hr', State.setTop_of_frames _ hr', State.setFrames_setFrames, hr]
      rfl
    have hsame : U.sameButNew ({ U with heap := s₂.heap, slotsUsed := s₂.slotsUsed } : State) L mc ms := by
      refine ⟨?_, q2, q3, q4, q5, q6⟩
      obtain ⟨t, ht, -⟩ := State.frames_cons hr
      show ({ U with heap := s₂.heap, slotsUsed := s₂.slotsUsed } : State) = { U.setFrames U.frames with heap := s₂.heap, slotsUsed := s₂.slotsUsed }
      rw [State.setFrames_self ht]
    subst hg
    refine Or.inr ⟨q, ⟨(({ U with heap := s₂.heap, slotsUsed := s₂.slotsUsed } : State).setVm s₂.vm), Ls ++ L, c0 + mc, s0 + ms⟩,
      ⟨X.admits, X.cas, X.clock, X.frames, X.room, X.hears, X.method, X.code, (X.here.setHeapUsed s₂.heap s₂.slotsUsed).setVm hW'.alike, X.tail, State.WarmedH.trans X.warmed hW', X.limits, X.bytes, X.same.trans (hsame.setVm s.vm)⟩,
      ⟨g, mk, s₂, L, E, ce, rfl, rfl, hx, hce, hcv, hcl, rfl, hL, rfl, rfl⟩, ?_⟩
    show Steps p.tables e below _ (((({ U with heap := s₂.heap, slotsUsed := s₂.slotsUsed } : State).setVm s₂.vm).setTop g).pushFrame (.throwing q))
    rw [← hs₂]
    exact hsteps
end Payer
section Calls
variable {p : Program} {l : Launch} {e : Env} {R : Room} {s : State} {m : MethodId} {args : Array Value} {below : List Frame} {meth : Method} {c : Code} {T : State} {locs : List Loc} {cells slots : Nat}
theorem vx_callV (X : Stand p l e R s m args below meth c T locs cells slots) (hexec : p.tables.exec = Jvm.exec) {own C : String} {index : Nat} {y : MethodName} {bytes : ByteArray} {maxL : Nat} {ret : Option FieldType}
    (hown : s.vm.findClass own = some m.cls) (hlink : (Cond.methodLink own index y).before args s = true) (hinst : (Cond.instanceMethod y).before args s = true) (hsel : (Cond.selects C y y).before args s = true)
    (hcode : (Cond.code y bytes maxL ret).before args s = true) (hy : y.cls ≠ "java/lang/invoke/MethodHandle" ∧ y.cls ≠ "java/lang/invoke/VarHandle")
    {W9 : Nat} {Pre : Pt → Array Value → Prop} {Post : Pt → Array Value → Option Value → Pt → Prop} {PostX : Pt → Array Value → Addr → Pt → Prop} (hK : vx_Back l R p e below s args y 3 W9 Pre Post PostX)
    {b : Addr} {cellB : Cell} (hcell : T.heap[b]? = some cellB) (hobj : cellB.vm.isStatics = false) (hcls : s.vm.findClass C = some cellB.cls)
    {g : JFrame} (hg : g.method = m) (hsize : g.locals.size = c.maxLocals) {argsL rest : List Value} (hlen : ∀ sig, parseMethodDescriptor y.desc = some sig → argsL.length = sig.parameters.length)
    (hstack : g.stack = argsL.reverse ++ .ref b :: rest) (hW : 2 * g.monitorRoom + (rest.map fun v => v.category).sum ≤ W9) (hdg : decode c.code g.pc = .ok (.invokevirtual index, 3))
    (hpre : ∀ vm₁, s.WarmedH vm₁ → Pre ⟨T.setVm vm₁, locs, cells, slots⟩ (Value.ref b :: argsL).toArray) :
    (∃ (v : Option Value) (vm₁ : Vm) (B : Pt), s.WarmedH vm₁ ∧ Stand p l e R s m args below meth c B.U B.locs B.cells B.slots ∧ Post ⟨T.setVm vm₁, locs, cells, slots⟩ (Value.ref b :: argsL).toArray v B ∧
      ∀ target, Steps p.tables e below (B.U.setTop { g with pc := g.pc + 3, stack := v.toList ++ rest }) target → Steps p.tables e below (T.setTop g) target) ∨
    (∃ (q : Addr) (vm₁ : Vm) (B : Pt), s.WarmedH vm₁ ∧ Stand p l e R s m args below meth c B.U B.locs B.cells B.slots ∧ PostX ⟨T.setVm vm₁, locs, cells, slots⟩ (Value.ref b :: argsL).toArray q B ∧
      Steps p.tables e below (T.setTop g) ((B.U.setTop { g with stack := rest }).pushFrame (.throwing q))) := by
  obtain ⟨mk, methM, hnamed, hmethM, hstM, habM⟩ := Cond.instanceMethod_spec hinst
  obtain ⟨methM', cM, hmethM', -, -, -, -, -, -, hsigM⟩ := Cond.code_spec hnamed hcode
  cases hmethM.symm.trans hmethM'
  obtain ⟨c2, r2, m2, q1, q2, q3, q4, kP, hkP, hkPi⟩ := Cond.selects_spec hsel
  cases hcls.symm.trans q1
  cases (State.methodFound?_of_named hnamed hy).symm.trans q2
  cases hnamed.symm.trans q3
  have hselP : selectMethod e.platform s.vm cellB.cls mk = .method mk := by rw [Launch.admits_selectMethod X.admits]; exact q4
  obtain ⟨vm₁, X₁, hstep₁⟩ := X.invokevirtual hexec hown hlink hnamed hmethM hstM hkP hkPi hy (a := b) (cell := cellB) hcell
    (fun z h => by rw [h] at hobj; cases hobj) hselP hmethM habM hkP hkPi (g := g) hg (argsL := argsL) (rest := rest) (hlen _ hsigM) hstack hdg
  rcases hK m meth c ⟨T.setVm vm₁, locs, cells, slots⟩ { g with stack := rest } (.invokevirtual index) mk (Value.ref b :: argsL).toArray X₁ hg hsize hdg hW (X₁.named hnamed) (hpre vm₁ X₁.warmed) with ⟨v, B, X', hpost, hsteps⟩ | ⟨q, B, X', hpost, hsteps⟩
  · exact Or.inl ⟨v, vm₁, B, X₁.warmed, X', hpost, fun target h => hstep₁ _ fun acts => by rw [doInvoke_state]; exact hsteps.trans h⟩
  · exact Or.inr ⟨q, vm₁, B, X₁.warmed, X', hpost, hstep₁ _ fun acts => by rw [doInvoke_state]; exact hsteps⟩
theorem vx_callS (X : Stand p l e R s m args below meth c T locs cells slots) (hexec : p.tables.exec = Jvm.exec) {own : String} {index : Nat} {y : MethodName} {bytes : ByteArray} {maxL : Nat} {ret : Option FieldType}
    (hown : s.vm.findClass own = some m.cls) (hlink : (Cond.methodLink own index y).before args s = true) (hstat : (Cond.static y).before args s = true) (hinit : (Cond.initialized y.cls).before args s = true)
    (hcode : (Cond.code y bytes maxL ret).before args s = true) (hy : y.cls ≠ "java/lang/invoke/MethodHandle" ∧ y.cls ≠ "java/lang/invoke/VarHandle")
    {W9 : Nat} {Pre : Pt → Array Value → Prop} {Post : Pt → Array Value → Option Value → Pt → Prop} {PostX : Pt → Array Value → Addr → Pt → Prop} (hK : vx_Back l R p e below s args y 3 W9 Pre Post PostX)
    {g : JFrame} (hg : g.method = m) (hsize : g.locals.size = c.maxLocals) {argsL rest : List Value} (hlen : ∀ sig, parseMethodDescriptor y.desc = some sig → argsL.length = sig.parameters.length)
    (hstack : g.stack = argsL.reverse ++ rest) (hW : 2 * g.monitorRoom + (rest.map fun v => v.category).sum ≤ W9) (hdg : decode c.code g.pc = .ok (.invokestatic index, 3))
    (hpre : ∀ vm₁, s.WarmedH vm₁ → Pre ⟨T.setVm vm₁, locs, cells, slots⟩ argsL.toArray) :
    (∃ (v : Option Value) (vm₁ : Vm) (B : Pt), s.WarmedH vm₁ ∧ Stand p l e R s m args below meth c B.U B.locs B.cells B.slots ∧ Post ⟨T.setVm vm₁, locs, cells, slots⟩ argsL.toArray v B ∧
      ∀ target, Steps p.tables e below (B.U.setTop { g with pc := g.pc + 3, stack := v.toList ++ rest }) target → Steps p.tables e below (T.setTop g) target) ∨
    (∃ (q : Addr) (vm₁ : Vm) (B : Pt), s.WarmedH vm₁ ∧ Stand p l e R s m args below meth c B.U B.locs B.cells B.slots ∧ PostX ⟨T.setVm vm₁, locs, cells, slots⟩ argsL.toArray q B ∧
      Steps p.tables e below (T.setTop g) ((B.U.setTop { g with stack := rest }).pushFrame (.throwing q))) := by
  obtain ⟨mk, hnamed⟩ := Cond.code_named hcode
  obtain ⟨methM, cM, hmethM, -, -, -, -, -, -, hsigM⟩ := Cond.code_spec hnamed hcode
  have hstatic : methM.isStatic = true := Cond.static_spec hnamed hmethM hstat
  obtain ⟨kP, hkP, -⟩ := className_of_methodNamed hnamed
  have hinitP : kP.init = .initialized := Cond.initialized_spec (findClass_of_methodNamed hnamed) hkP hinit
  obtain ⟨vm₁, X₁, hstep₁⟩ := X.invokestatic hexec hown hlink hnamed hmethM hstatic hkP hinitP hy (g := g) hg (argsL := argsL) (rest := rest) (hlen _ hsigM) hstack hdg
  rcases hK m meth c ⟨T.setVm vm₁, locs, cells, slots⟩ { g with stack := rest } (.invokestatic index) mk argsL.toArray X₁ hg hsize hdg hW (X₁.named hnamed) (hpre vm₁ X₁.warmed) with ⟨v, B, X', hpost, hsteps⟩ | ⟨q, B, X', hpost, hsteps⟩
  · exact Or.inl ⟨v, vm₁, B, X₁.warmed, X', hpost, fun target h => hstep₁ _ fun acts => by rw [doInvoke_state]; exact hsteps.trans h⟩
  · exact Or.inr ⟨q, vm₁, B, X₁.warmed, X', hpost, hstep₁ _ fun acts => by rw [doInvoke_state]; exact hsteps⟩
end Calls
theorem vx_cls {s : State} {T : State} {vm₁ : Vm} {E : String} {k : ClassId} (hW : s.WarmedH vm₁) (h : (T.setVm vm₁).vm.findClass E = some k) : s.vm.findClass E = some k := by
  have h1 : vm₁.findClass E = some k := h
  rw [hW.alike.findClass] at h1
  exact h1
/-- the method's frame g, with q thrown over it -/
def vx_W (p : Program) (l : Launch) (e : Env) (R : Room) (s : State) (m : MethodId) (args : Array Value) (below : List Frame) (meth : Method) (c : Code) (H : Heap) (locs : List Loc) (cells slots : Nat) (Q : State → Prop) (g : JFrame) (q : Addr) : Prop :=
  ∀ T : State, T.heap = H → Stand p l e R s m args below meth c T locs cells slots → ∃ t, Steps p.tables e below ((T.setTop g).pushFrame (.throwing q)) t ∧ Q t
def vx_Run (p : Program) (l : Launch) (e : Env) (R : Room) (s : State) (m : MethodId) (args : Array Value) (below : List Frame) (meth : Method) (c : Code) (H : Heap) (locs : List Loc) (cells slots mc ms : Nat) (g : JFrame) (rest : List Value) (Qa : State → Outcome → State → Prop) (XC : String → State → State → Prop) (free : Addr → Prop) : Prop :=
  ∀ T : State, T.heap = H → Stand p l e R s m args below meth c T locs cells slots →
    (∃ (v : Option Value) (st₀ t T' : State) (L : List Loc), st₀.heap = H ∧ Stand p l e R s m args below meth c T' (locs ++ L) (cells + mc) (slots + ms) ∧ (∀ q ∈ L, free q.base) ∧ T'.heap = t.heap ∧ T'.vm = t.vm ∧ Qa st₀ (.returned v) t ∧
      Goes p e below T g T' { g with pc := g.pc + 3, stack := v.toList ++ rest }) ∨
    (∃ (q : Addr) (st₀ t T' : State) (L : List Loc) (E : String) (ce : Cell), st₀.heap = H ∧ Stand p l e R s m args below meth c T' (locs ++ L) (cells + mc) (slots + ms) ∧ (∀ z ∈ L, free z.base) ∧ T'.heap = t.heap ∧ T'.vm = t.vm ∧ XC E st₀ t ∧ t.heap[q]? = some ce ∧ ce.vm = .none ∧ s.vm.findClass E = some ce.cls ∧
      Steps p.tables e below (T.setTop g) ((T'.setTop { g with stack := rest }).pushFrame (.throwing q)))
def vx_X {S : Type} (px : S → Prop) (B : String → S → State → Prop) (A : Nat → Prop) : String → State → State → Prop := fun E st t => ∃ u : S, px u ∧ B E u t ∧ va_F A st t
section Runs
variable {p : Program} {l : Launch} {e : Env} {R : Room} {s : State} {m : MethodId} {args : Array Value} {below : List Frame} {meth : Method} {c : Code} {H : Heap} {locs : List Loc} {cells slots : Nat}
variable {y : MethodName} {bytes cc : ByteArray} {maxL nL mc ms n index : Nat} {ret : Option FieldType} {ws : List Cond} {rm : Room} {Pc : Array Value → State → Prop} {Qc : Array Value → State → Outcome → State → Prop} {XC : String → State → State → Prop} {free : Addr → Prop} {Ts : List Cond} {own C : String} {b : Addr} {As rest : List Value} {g : JFrame}
theorem vx_callBack (cb : CallB R s args own index y bytes maxL ret ws rm mc ms n) (hM : vx_Met l y ws rm Pc Qc XC mc ms free) (hbl : FrameBlind Pc) : vx_Back l R p e below s args y 3 8 (PreOf R mc ms Pc) (PostOf Qc mc ms free) (vx_Post XC mc ms free) := by
  obtain ⟨hrc, hrs, hfr, hlo, hws, hcw, -, hini, -⟩ := cb
  exact vx_back (bytes := bytes) (maxL := maxL) (ret := ret) hM hbl hrc hrs hfr hlo hws hcw (fun a' U hW => word_at hW (Or.inl (by first | rfl | simp [Cond.onTables, Cond.keeps, Cond.steady])) hini)
theorem vx_runV (S : CallFix p m c cc nL s args Ts own) (hM : vx_Met l y ws rm Pc Qc XC mc ms free) (cw : CallW R s args own C index y bytes maxL ret ws rm mc ms n) (hp : PreV s H C b Pc As)
    (hg : g.method = m) (hn : As.length = n) (hsize : g.locals.size = nL) (hstack : g.stack = As.reverse ++ .ref b :: rest) (hW : 2 * g.monitorRoom + (rest.map fun v => v.category).sum ≤ 8) (hdg : decode cc g.pc = .ok (.invokevirtual index, 3)) (hf : cells + mc ≤ R.cells ∧ slots + ms ≤ R.slots) :
    vx_Run p l e R s m args below meth c H locs cells slots mc ms g rest (Qc (Value.ref b :: As).toArray) XC free := by
  have hK : vx_Back l R p e below s args y 3 8 (PreOf R mc ms Pc) (PostOf Qc mc ms free) (vx_Post XC mc ms free) := vx_callBack cw.1 hM hp.1
  obtain ⟨⟨-, -, -, -, -, -, hcode, -, hy, hlen, hl⟩, hin, hse⟩ := cw
  obtain ⟨hx, hb, hml, ho, -⟩ := S
  obtain ⟨-, ⟨cellB, hcB, hoB, hclB⟩, hPc⟩ := hp
  intro T hT X
  rcases vx_callV X hx (C := C) (bytes := bytes) (maxL := maxL) (ret := ret) ho hl hin hse hcode hy hK (by rw [hT]; exact hcB) hoB hclB hg (hsize.trans hml.symm) (argsL := As) (rest := rest) (fun sig h => hn.trans (hlen sig h)) hstack hW (by rw [hb]; exact hdg)
    (fun vm₁ hW₁ => ⟨hf.1, hf.2, hPc (T.setVm vm₁) hT hW₁⟩) with ⟨v, vm₁, ⟨U', l2, c2, s2⟩, hW₁, X', ⟨g', mk, t, L, e1, e2, hq, h1, hL, h2, h3⟩, st⟩ | ⟨q, vm₁, ⟨U', l2, c2, s2⟩, hW₁, X', ⟨g', mk, t, L, E, ce, e1, e2, hq, hce, hcv, hcl, h1, hL, h2, h3⟩, st⟩
  · dsimp only [Pt.U, Pt.locs, Pt.cells, Pt.slots] at X' e1 e2 h1 h2 h3 st
    subst h1; subst h2; subst h3
    exact Or.inl ⟨v, (T.setVm vm₁).calling g' mk (Value.ref b :: As).toArray, t, U', L, hT, X', hL, e1, e2, hq, st⟩
  · dsimp only [Pt.U, Pt.locs, Pt.cells, Pt.slots] at X' e1 e2 h1 h2 h3 st hcl
    subst h1; subst h2; subst h3
    exact Or.inr ⟨q, (T.setVm vm₁).calling g' mk (Value.ref b :: As).toArray, t, U', L, E, ce, hT, X', hL, e1, e2, hq, hce, hcv, vx_cls hW₁ hcl, st⟩
theorem vx_runS (S : CallFix p m c cc nL s args Ts own) (hM : vx_Met l y ws rm Pc Qc XC mc ms free) (cw : CallB R s args own index y bytes maxL ret ws rm mc ms n ∧ (Cond.static y).before args s = true) (hp : PreS s H Pc As)
    (hg : g.method = m) (hn : As.length = n) (hsize : g.locals.size = nL) (hstack : g.stack = As.reverse ++ rest) (hW : 2 * g.monitorRoom + (rest.map fun v => v.category).sum ≤ 8) (hdg : decode cc g.pc = .ok (.invokestatic index, 3)) (hf : cells + mc ≤ R.cells ∧ slots + ms ≤ R.slots) :
    vx_Run p l e R s m args below meth c H locs cells slots mc ms g rest (Qc As.toArray) XC free := by
  have hK : vx_Back l R p e below s args y 3 8 (PreOf R mc ms Pc) (PostOf Qc mc ms free) (vx_Post XC mc ms free) := vx_callBack cw.1 hM hp.1
  obtain ⟨⟨-, -, -, -, -, -, hcode, hini, hy, hlen, hl⟩, hstt⟩ := cw
  obtain ⟨hx, hb, hml, ho, -⟩ := S
  intro T hT X
  rcases vx_callS X hx (bytes := bytes) (maxL := maxL) (ret := ret) ho hl hstt hini hcode hy hK hg (hsize.trans hml.symm) (argsL := As) (rest := rest) (fun sig h => hn.trans (hlen sig h)) hstack hW (by rw [hb]; exact hdg)
    (fun vm₁ hW₁ => ⟨hf.1, hf.2, hp.2 (T.setVm vm₁) hT hW₁⟩) with ⟨v, vm₁, ⟨U', l2, c2, s2⟩, hW₁, X', ⟨g', mk, t, L, e1, e2, hq, h1, hL, h2, h3⟩, st⟩ | ⟨q, vm₁, ⟨U', l2, c2, s2⟩, hW₁, X', ⟨g', mk, t, L, E, ce, e1, e2, hq, hce, hcv, hcl, h1, hL, h2, h3⟩, st⟩
  · dsimp only [Pt.U, Pt.locs, Pt.cells, Pt.slots] at X' e1 e2 h1 h2 h3 st
    subst h1; subst h2; subst h3
    exact Or.inl ⟨v, (T.setVm vm₁).calling g' mk As.toArray, t, U', L, hT, X', hL, e1, e2, hq, st⟩
  · dsimp only [Pt.U, Pt.locs, Pt.cells, Pt.slots] at X' e1 e2 h1 h2 h3 st hcl
    subst h1; subst h2; subst h3
    exact Or.inr ⟨q, (T.setVm vm₁).calling g' mk As.toArray, t, U', L, E, ce, hT, X', hL, e1, e2, hq, hce, hcv, vx_cls hW₁ hcl, st⟩
end Runs
section Rows
variable {p : Program} {l : Launch} {e : Env} {R : Room} {s : State} {m : MethodId} {args : Array Value} {below : List Frame} {meth : Method} {c : Code} {H : Heap} {locs : List Loc} {cells slots : Nat} {Q : State → Prop}
variable {mc ms : Nat} {free : Addr → Prop} {A0 A1 : Nat → Prop} {H0 : Heap} {a : Array Value} {pc : Nat} {ls : Array Slot} {st0 rest : List Value}
theorem vx_keep {st₀ t T' : State} {L : List Loc} (h0 : st₀.heap = H) (e1 : T'.heap = t.heap) (hS : va_S A0 H0 H locs) (hA : ∀ q, q < H.size → A1 q → A0 q) (hf : ∀ q, free q → A0 q) (hL : ∀ q ∈ L, free q.base) (hF : va_F A1 st₀ t) :
    H.size ≤ T'.heap.size ∧ (∀ q : Nat, q < H.size → ¬ A1 q → T'.heap[q]? = H[q]?) ∧ va_S A0 H0 T'.heap (locs ++ L) := by
  obtain ⟨hz, hk⟩ := hF
  rw [h0] at hz hk
  exact ⟨by rw [e1]; exact hz, fun q h1 h2 => by rw [e1]; exact hk q h1 h2,
    ⟨Nat.le_trans hS.1 (by rw [e1]; exact hz), fun q h1 h2 => by rw [e1, hk q (Nat.lt_of_lt_of_le h1 hS.1) (fun z => h2 (hA q (Nat.lt_of_lt_of_le h1 hS.1) z))]; exact hS.2.1 q h1 h2, fun q hq => by
      rcases List.mem_append.mp hq with h | h
      · exact hS.2.2 q h
      · exact hf _ (hL q h)⟩⟩
theorem vx_calli {S SX : Type} {post : Int32 → S → Prop} {px : SX → Prop} {B : S → State → Prop} {BX : String → SX → State → Prop} {AX : Nat → Prop} (hr : vx_Run p l e R s m args below meth c H locs cells slots mc ms (F0 m pc ls st0) rest (va_Qi post B A1 a) (vx_X px BX AX) free) (hS : va_S A0 H0 H locs) (hA : ∀ q, q < H.size → A1 q → A0 q) (hf : ∀ q, free q → A0 q) (hAX : ∀ q, q < H.size → AX q → A0 q)
    (kx : ∀ (E : String) (ce : Cell) (q9 : Addr) (u : SX) (t : State) (H1 : Heap) (locs1 : List Loc), t.heap = H1 → s.vm.Alike t.vm → px u → BX E u t → H.size ≤ H1.size → (∀ q : Nat, q < H.size → ¬ AX q → H1[q]? = H[q]?) → va_S A0 H0 H1 locs1 → H1[q9]? = some ce → ce.vm = .none → s.vm.findClass E = some ce.cls → vx_W p l e R s m args below meth c H1 locs1 (cells + mc) (slots + ms) Q (F0 m pc ls rest) q9)
    (kk : ∀ (r : Int32) (u : S) (t : State) (H1 : Heap) (locs1 : List Loc), t.heap = H1 → s.vm.Alike t.vm → post r u → B u t → H.size ≤ H1.size → (∀ q : Nat, q < H.size → ¬ A1 q → H1[q]? = H[q]?) → va_S A0 H0 H1 locs1 → W p l e R s m args below meth c H1 locs1 (cells + mc) (slots + ms) Q (F0 m (pc + 3) ls (.int r :: rest))) : W p l e R s m args below meth c H locs cells slots Q (F0 m pc ls st0) := by
  intro T hT X
  rcases hr T hT X with ⟨v, st₀, t, T', L, h0, X', hL, e1, e2, ⟨⟨r, u, hv, hp, hb⟩, hF⟩, st⟩ | ⟨q, st₀, t, T', L, E, ce, h0, X', hL, e1, e2, ⟨u, hp, hb, hF⟩, hce, hcv, hcl, st⟩
  · cases hv
    obtain ⟨k1, k2, k3⟩ := vx_keep h0 e1 hS hA hf hL hF
    obtain ⟨t2, a1, b1⟩ := kk r u t T'.heap (locs ++ L) e1.symm (by rw [← e2]; exact X'.warmed.alike) hp hb k1 k2 k3 T' rfl X'
    exact ⟨t2, st t2 a1, b1⟩
  · obtain ⟨k1, k2, k3⟩ := vx_keep h0 e1 hS hAX hf hL hF
    obtain ⟨t2, a1, b1⟩ := kx E ce q u t T'.heap (locs ++ L) e1.symm (by rw [← e2]; exact X'.warmed.alike) hp hb k1 k2 k3 (by rw [e1]; exact hce) hcv hcl T' rfl X'
    exact ⟨t2, st.trans a1, b1⟩
theorem vx_calll {S SX : Type} {post : Int64 → S → Prop} {px : SX → Prop} {B : S → State → Prop} {BX : String → SX → State → Prop} {AX : Nat → Prop} (hr : vx_Run p l e R s m args below meth c H locs cells slots mc ms (F0 m pc ls st0) rest (va_Ql post B A1 a) (vx_X px BX AX) free) (hS : va_S A0 H0 H locs) (hA : ∀ q, q < H.size → A1 q → A0 q) (hf : ∀ q, free q → A0 q) (hAX : ∀ q, q < H.size → AX q → A0 q)
    (kx : ∀ (E : String) (ce : Cell) (q9 : Addr) (u : SX) (t : State) (H1 : Heap) (locs1 : List Loc), t.heap = H1 → s.vm.Alike t.vm → px u → BX E u t → H.size ≤ H1.size → (∀ q : Nat, q < H.size → ¬ AX q → H1[q]? = H[q]?) → va_S A0 H0 H1 locs1 → H1[q9]? = some ce → ce.vm = .none → s.vm.findClass E = some ce.cls → vx_W p l e R s m args below meth c H1 locs1 (cells + mc) (slots + ms) Q (F0 m pc ls rest) q9)
    (kk : ∀ (r : Int64) (u : S) (t : State) (H1 : Heap) (locs1 : List Loc), t.heap = H1 → s.vm.Alike t.vm → post r u → B u t → H.size ≤ H1.size → (∀ q : Nat, q < H.size → ¬ A1 q → H1[q]? = H[q]?) → va_S A0 H0 H1 locs1 → W p l e R s m args below meth c H1 locs1 (cells + mc) (slots + ms) Q (F0 m (pc + 3) ls (.long r :: rest))) : W p l e R s m args below meth c H locs cells slots Q (F0 m pc ls st0) := by
  intro T hT X
  rcases hr T hT X with ⟨v, st₀, t, T', L, h0, X', hL, e1, e2, ⟨⟨r, u, hv, hp, hb⟩, hF⟩, st⟩ | ⟨q, st₀, t, T', L, E, ce, h0, X', hL, e1, e2, ⟨u, hp, hb, hF⟩, hce, hcv, hcl, st⟩
  · cases hv
    obtain ⟨k1, k2, k3⟩ := vx_keep h0 e1 hS hA hf hL hF
    obtain ⟨t2, a1, b1⟩ := kk r u t T'.heap (locs ++ L) e1.symm (by rw [← e2]; exact X'.warmed.alike) hp hb k1 k2 k3 T' rfl X'
    exact ⟨t2, st t2 a1, b1⟩
  · obtain ⟨k1, k2, k3⟩ := vx_keep h0 e1 hS hAX hf hL hF
    obtain ⟨t2, a1, b1⟩ := kx E ce q u t T'.heap (locs ++ L) e1.symm (by rw [← e2]; exact X'.warmed.alike) hp hb k1 k2 k3 (by rw [e1]; exact hce) hcv hcl T' rfl X'
    exact ⟨t2, st.trans a1, b1⟩
theorem vx_callf {S SX : Type} {post : UInt32 → S → Prop} {px : SX → Prop} {B : S → State → Prop} {BX : String → SX → State → Prop} {AX : Nat → Prop} (hr : vx_Run p l e R s m args below meth c H locs cells slots mc ms (F0 m pc ls st0) rest (va_Qf post B A1 a) (vx_X px BX AX) free) (hS : va_S A0 H0 H locs) (hA : ∀ q, q < H.size → A1 q → A0 q) (hf : ∀ q, free q → A0 q) (hAX : ∀ q, q < H.size → AX q → A0 q)
    (kx : ∀ (E : String) (ce : Cell) (q9 : Addr) (u : SX) (t : State) (H1 : Heap) (locs1 : List Loc), t.heap = H1 → s.vm.Alike t.vm → px u → BX E u t → H.size ≤ H1.size → (∀ q : Nat, q < H.size → ¬ AX q → H1[q]? = H[q]?) → va_S A0 H0 H1 locs1 → H1[q9]? = some ce → ce.vm = .none → s.vm.findClass E = some ce.cls → vx_W p l e R s m args below meth c H1 locs1 (cells + mc) (slots + ms) Q (F0 m pc ls rest) q9)
    (kk : ∀ (r : UInt32) (u : S) (t : State) (H1 : Heap) (locs1 : List Loc), t.heap = H1 → s.vm.Alike t.vm → post r u → B u t → H.size ≤ H1.size → (∀ q : Nat, q < H.size → ¬ A1 q → H1[q]? = H[q]?) → va_S A0 H0 H1 locs1 → W p l e R s m args below meth c H1 locs1 (cells + mc) (slots + ms) Q (F0 m (pc + 3) ls (.float r :: rest))) : W p l e R s m args below meth c H locs cells slots Q (F0 m pc ls st0) := by
  intro T hT X
  rcases hr T hT X with ⟨v, st₀, t, T', L, h0, X', hL, e1, e2, ⟨⟨r, u, hv, hp, hb⟩, hF⟩, st⟩ | ⟨q, st₀, t, T', L, E, ce, h0, X', hL, e1, e2, ⟨u, hp, hb, hF⟩, hce, hcv, hcl, st⟩
  · cases hv
    obtain ⟨k1, k2, k3⟩ := vx_keep h0 e1 hS hA hf hL hF
    obtain ⟨t2, a1, b1⟩ := kk r u t T'.heap (locs ++ L) e1.symm (by rw [← e2]; exact X'.warmed.alike) hp hb k1 k2 k3 T' rfl X'
    exact ⟨t2, st t2 a1, b1⟩
  · obtain ⟨k1, k2, k3⟩ := vx_keep h0 e1 hS hAX hf hL hF
    obtain ⟨t2, a1, b1⟩ := kx E ce q u t T'.heap (locs ++ L) e1.symm (by rw [← e2]; exact X'.warmed.alike) hp hb k1 k2 k3 (by rw [e1]; exact hce) hcv hcl T' rfl X'
    exact ⟨t2, st.trans a1, b1⟩
theorem vx_calld {S SX : Type} {post : UInt64 → S → Prop} {px : SX → Prop} {B : S → State → Prop} {BX : String → SX → State → Prop} {AX : Nat → Prop} (hr : vx_Run p l e R s m args below meth c H locs cells slots mc ms (F0 m pc ls st0) rest (va_Qd post B A1 a) (vx_X px BX AX) free) (hS : va_S A0 H0 H locs) (hA : ∀ q, q < H.size → A1 q → A0 q) (hf : ∀ q, free q → A0 q) (hAX : ∀ q, q < H.size → AX q → A0 q)
    (kx : ∀ (E : String) (ce : Cell) (q9 : Addr) (u : SX) (t : State) (H1 : Heap) (locs1 : List Loc), t.heap = H1 → s.vm.Alike t.vm → px u → BX E u t → H.size ≤ H1.size → (∀ q : Nat, q < H.size → ¬ AX q → H1[q]? = H[q]?) → va_S A0 H0 H1 locs1 → H1[q9]? = some ce → ce.vm = .none → s.vm.findClass E = some ce.cls → vx_W p l e R s m args below meth c H1 locs1 (cells + mc) (slots + ms) Q (F0 m pc ls rest) q9)
    (kk : ∀ (r : UInt64) (u : S) (t : State) (H1 : Heap) (locs1 : List Loc), t.heap = H1 → s.vm.Alike t.vm → post r u → B u t → H.size ≤ H1.size → (∀ q : Nat, q < H.size → ¬ A1 q → H1[q]? = H[q]?) → va_S A0 H0 H1 locs1 → W p l e R s m args below meth c H1 locs1 (cells + mc) (slots + ms) Q (F0 m (pc + 3) ls (.double r :: rest))) : W p l e R s m args below meth c H locs cells slots Q (F0 m pc ls st0) := by
  intro T hT X
  rcases hr T hT X with ⟨v, st₀, t, T', L, h0, X', hL, e1, e2, ⟨⟨r, u, hv, hp, hb⟩, hF⟩, st⟩ | ⟨q, st₀, t, T', L, E, ce, h0, X', hL, e1, e2, ⟨u, hp, hb, hF⟩, hce, hcv, hcl, st⟩
  · cases hv
    obtain ⟨k1, k2, k3⟩ := vx_keep h0 e1 hS hA hf hL hF
    obtain ⟨t2, a1, b1⟩ := kk r u t T'.heap (locs ++ L) e1.symm (by rw [← e2]; exact X'.warmed.alike) hp hb k1 k2 k3 T' rfl X'
    exact ⟨t2, st t2 a1, b1⟩
  · obtain ⟨k1, k2, k3⟩ := vx_keep h0 e1 hS hAX hf hL hF
    obtain ⟨t2, a1, b1⟩ := kx E ce q u t T'.heap (locs ++ L) e1.symm (by rw [← e2]; exact X'.warmed.alike) hp hb k1 k2 k3 (by rw [e1]; exact hce) hcv hcl T' rfl X'
    exact ⟨t2, st.trans a1, b1⟩
theorem vx_callv {S SX : Type} {post : S → Prop} {px : SX → Prop} {B : S → State → Prop} {BX : String → SX → State → Prop} {AX : Nat → Prop} (hr : vx_Run p l e R s m args below meth c H locs cells slots mc ms (F0 m pc ls st0) rest (va_Qv post B A1 a) (vx_X px BX AX) free) (hS : va_S A0 H0 H locs) (hA : ∀ q, q < H.size → A1 q → A0 q) (hf : ∀ q, free q → A0 q) (hAX : ∀ q, q < H.size → AX q → A0 q)
    (kx : ∀ (E : String) (ce : Cell) (q9 : Addr) (u : SX) (t : State) (H1 : Heap) (locs1 : List Loc), t.heap = H1 → s.vm.Alike t.vm → px u → BX E u t → H.size ≤ H1.size → (∀ q : Nat, q < H.size → ¬ AX q → H1[q]? = H[q]?) → va_S A0 H0 H1 locs1 → H1[q9]? = some ce → ce.vm = .none → s.vm.findClass E = some ce.cls → vx_W p l e R s m args below meth c H1 locs1 (cells + mc) (slots + ms) Q (F0 m pc ls rest) q9)
    (kk : ∀ (u : S) (t : State) (H1 : Heap) (locs1 : List Loc), t.heap = H1 → s.vm.Alike t.vm → post u → B u t → H.size ≤ H1.size → (∀ q : Nat, q < H.size → ¬ A1 q → H1[q]? = H[q]?) → va_S A0 H0 H1 locs1 → W p l e R s m args below meth c H1 locs1 (cells + mc) (slots + ms) Q (F0 m (pc + 3) ls (rest))) : W p l e R s m args below meth c H locs cells slots Q (F0 m pc ls st0) := by
  intro T hT X
  rcases hr T hT X with ⟨v, st₀, t, T', L, h0, X', hL, e1, e2, ⟨⟨u, hv, hp, hb⟩, hF⟩, st⟩ | ⟨q, st₀, t, T', L, E, ce, h0, X', hL, e1, e2, ⟨u, hp, hb, hF⟩, hce, hcv, hcl, st⟩
  · cases hv
    obtain ⟨k1, k2, k3⟩ := vx_keep h0 e1 hS hA hf hL hF
    obtain ⟨t2, a1, b1⟩ := kk u t T'.heap (locs ++ L) e1.symm (by rw [← e2]; exact X'.warmed.alike) hp hb k1 k2 k3 T' rfl X'
    exact ⟨t2, st t2 a1, b1⟩
  · obtain ⟨k1, k2, k3⟩ := vx_keep h0 e1 hS hAX hf hL hF
    obtain ⟨t2, a1, b1⟩ := kx E ce q u t T'.heap (locs ++ L) e1.symm (by rw [← e2]; exact X'.warmed.alike) hp hb k1 k2 k3 (by rw [e1]; exact hce) hcv hcl T' rfl X'
    exact ⟨t2, st.trans a1, b1⟩
end Rows
section Ends
variable {p : Program} {l : Launch} {e : Env} {R : Room} {s : State} {m : MethodId} {args : Array Value} {below : List Frame} {meth : Method} {c : Code} {H : Heap} {locs : List Loc} {cells slots : Nat} {Q : State → Prop}
variable {mc ms : Nat} {free : Addr → Prop} {A0 A1 : Nat → Prop} {H0 : Heap} {a : Array Value} {ls : Array Slot} {st0 rest : List Value}
variable {Qc : Array Value → State → Outcome → State → Prop} {XC : String → State → State → Prop}
/-- what a body that may throw owes at its end -/
def vx_MQ (below : List Frame) (Qc : Array Value → State → Outcome → State → Prop) (XC : String → State → State → Prop) (a : Array Value) (s : State) (mc ms : Nat) (free : Addr → Prop) : State → Prop := fun t =>
  ∃ o, t.status = .running ∧ Ended t below o ∧ vx_Q Qc XC mc ms free a s o t
theorem vx_ret {g : JFrame} {mc ms : Nat} (k : W p l e R s m args below meth c H locs cells slots (MQ below Qc args s mc ms free) g) : W p l e R s m args below meth c H locs cells slots (vx_MQ below Qc XC args s mc ms free) g := by
  intro T hT X
  obtain ⟨t, a1, o, b1, b2, b3, b4⟩ := k T hT X
  exact ⟨t, a1, o, b1, b2, Or.inl ⟨b3, b4⟩⟩
/-- not caught here: it goes on to the caller -/
theorem vx_widen {g : JFrame} {q : Addr} {k n : Nat} (h1 : cells ≤ k) (h2 : slots ≤ n) (kk : vx_W p l e R s m args below meth c H locs k n Q g q) : vx_W p l e R s m args below meth c H locs cells slots Q g q := fun T hT X => kk T hT (stand_widen X h1 h2)
theorem vx_out {pc : Nat} {E : String} {ce : Cell} {q : Addr} {mc ms : Nat} (hout : ∀ x ∈ c.exceptionTable.toList, covers x pc = false) (hlocks : meth.locks = false) (hcell : H[q]? = some ce) (hv : ce.vm = .none) (hcl : s.vm.findClass E = some ce.cls)
    (hx : ∀ t : State, t.heap = H → s.vm.Alike t.vm → XC E s t) (hf : ∀ z ∈ locs, free z.base) (hc : cells ≤ mc) (hs : slots ≤ ms) :
    vx_W p l e R s m args below meth c H locs cells slots (vx_MQ below Qc XC args s mc ms free) (F0 m pc ls rest) q := by
  intro T hT X
  obtain ⟨st1, hrun, hend, hW, hsm⟩ := X.leaveThrown q (g := F0 m pc ls rest) rfl rfl rfl hout hlocks
  have hcell9 : (T.setFrames (.throwing q :: below)).heap[q]? = some ce := by
    show T.heap[q]? = some ce
    rw [hT]; exact hcell
  exact ⟨_, st1, .threw q, hrun, hend, Or.inr ⟨q, rfl, E, ce, locs, hx _ hT hW.alike, hcell9, hv, hcl, hW, hsm.mono hc hs, hf⟩⟩
theorem vx_frame {U : State} {k n : Nat} (h : s.sameButNew ({ U with vm := s.vm } : State) locs k n) : s.heap.size ≤ U.heap.size ∧ ∀ q : Nat, q < s.heap.size → (∀ z ∈ locs, z.base ≠ q) → U.heap[q]? = s.heap[q]? := by
  obtain ⟨-, h2, -, -, -, h6⟩ := h
  refine ⟨h2, fun q hq hz => ?_⟩
  obtain ⟨c9, e1, e2, e3, e4⟩ := h6 q _ (Array.getElem?_eq_getElem hq)
  have hs : c9.slots = (s.heap[q]).slots := Array.ext_getElem? fun i => e4 i fun hm => hz _ hm rfl
  have h9 : c9 = s.heap[q] := by
    rw [hs] at e2
    exact e2
  have e5 : U.heap[q]? = some c9 := e1
  rw [e5, h9, Array.getElem?_eq_getElem hq]
/-- the words of a throw but the four that speak of the heap -/
def vx_no (w : Cond) : Bool := decide (w ≠ .isRef (.static Bundle.tN "UNASSIGNED_STACK" Bundle.steD)) && decide (w ≠ .isRef (.static Bundle.tN "SUPPRESSED_SENTINEL" Bundle.listD)) && decide (w ≠ .laysStatic Bundle.tN "UNASSIGNED_STACK" Bundle.steD) && decide (w ≠ .laysStatic Bundle.tN "SUPPRESSED_SENTINEL" Bundle.listD)
def vx_at0 (own : String) (ic : Nat) (X : String) (names : List String) : List Cond := (Bundle.ownAtoms0 own ic X names).filter vx_no
def vx_atS (own : String) (ic : Nat) (X : String) (names : List String) : List Cond := (Bundle.ownAtoms own ic X names).filter vx_no
/-- a word that the tables alone decide, or a good one -/
def vx_ot (w : Cond) : Bool := w.onTables || goodWord w
theorem vx_ot_at {args a' : Array Value} {s U : State} {w : Cond} (hW : s.WarmedH U.vm) (hvm : s.vm = U.vm) (hg : vx_ot w = true) (h : w.before args s = true) : w.before a' U = true := by
  simp only [vx_ot, Bool.or_eq_true] at hg
  rcases hg with hg | hg
  · exact va_tabs hg hvm h
  · exact word_at hW (good_of_word hg) h
/-- a list's words: the good ones out of the method's own list, the others by premises of their own -/
theorem vx_hat {args : Array Value} {s : State} {L B : List Cond} (h1 : ∀ w ∈ L.filter goodWord, w.before args s = true) (h2 : ∀ w ∈ L.filter (fun w => !goodWord w), w ∈ B) (h3 : ∀ w ∈ B, w.before args s = true) : ∀ w ∈ L, w.before args s = true := by
  intro w hw
  by_cases g : goodWord w = true
  · exact h1 w (List.mem_filter.mpr ⟨hw, g⟩)
  · refine h3 w (h2 w (List.mem_filter.mpr ⟨hw, ?_⟩))
    show (!goodWord w) = true
    cases hgw : goodWord w
    · rfl
    · exact absurd hgw g
theorem vx_c {args : Array Value} {s : State} {w : Cond} {B : List Cond} (h : w.before args s = true) (t : ∀ w ∈ B, w.before args s = true) : ∀ w' ∈ w :: B, w'.before args s = true := fun w' h' => (List.mem_cons.mp h').elim (fun e => by rw [e]; exact h) (t w')
theorem vx_n {args : Array Value} {s : State} : ∀ w ∈ ([] : List Cond), w.before args s = true := fun _ h => nomatch h
theorem vx_own {args : Array Value} {s : State} {L : List Cond} (h1 : ∀ w ∈ L.filter vx_no, w.before args s = true)
    (hU : (Cond.isRef (.static Bundle.tN "UNASSIGNED_STACK" Bundle.steD)).before args s = true) (hN : (Cond.isRef (.static Bundle.tN "SUPPRESSED_SENTINEL" Bundle.listD)).before args s = true)
    (lU : (Cond.laysStatic Bundle.tN "UNASSIGNED_STACK" Bundle.steD).before args s = true) (lN : (Cond.laysStatic Bundle.tN "SUPPRESSED_SENTINEL" Bundle.listD).before args s = true) : ∀ w ∈ L, w.before args s = true := by
  intro w hw
  by_cases e1 : w = .isRef (.static Bundle.tN "UNASSIGNED_STACK" Bundle.steD)
  · rw [e1]; exact hU
  · by_cases e2 : w = .isRef (.static Bundle.tN "SUPPRESSED_SENTINEL" Bundle.listD)
    · rw [e2]; exact hN
    · by_cases e3 : w = .laysStatic Bundle.tN "UNASSIGNED_STACK" Bundle.steD
      · rw [e3]; exact lU
      · by_cases e4 : w = .laysStatic Bundle.tN "SUPPRESSED_SENTINEL" Bundle.listD
        · rw [e4]; exact lN
        · exact h1 w (List.mem_filter.mpr ⟨hw, by unfold vx_no; rw [decide_eq_true e1, decide_eq_true e2, decide_eq_true e3, decide_eq_true e4]; rfl⟩)
/-- where a static field lies, its class's statics cell in H -/
def vx_L (C n d : String) (A : Nat → Prop) (U : State) (H : Heap) : Prop := ∃ (c : ClassId) (k : Class) (i : Nat) (f : Field) (a : Nat) (cell : Cell), U.vm.findClass C = some c ∧ U.fieldFound? C n d = some (c, k, i, f) ∧ f.isStatic = true ∧ k.statics = some a ∧ H[a]? = some cell ∧ cell.vm.isStatics = true ∧ cell.cls = c ∧ f.slot < cell.slots.size ∧ k.staticTypes[f.slot]? = some f.type ∧ ¬ A a
theorem vx_L.moved {C n d : String} {A : Nat → Prop} {u U : State} {H : Heap} (hvm : u.vm.Alike U.vm) (h : vx_L C n d A u H) : vx_L C n d A U H := by
  obtain ⟨c, k, i, f, a, cell, h1, h2, h3, h4, h5, h6, h7, h8, h9, h10⟩ := h
  obtain ⟨k', hi', he⟩ := State.fieldFound?_setVm hvm h2
  exact ⟨c, k', i, f, a, cell, by rw [hvm.findClass]; exact h1, hi', h3, by rw [he]; exact h4, h5, h6, h7, h8, by rw [he]; exact h9, h10⟩
theorem vx_L.kept {C n d : String} {A : Nat → Prop} {U : State} {H H1 : Heap} (h : vx_L C n d A U H) (hq : ∀ a : Nat, a < H.size → ¬ A a → H1[a]? = H[a]?) : vx_L C n d A U H1 := by
  obtain ⟨c, k, i, f, a, cell, h1, h2, h3, h4, h5, h6, h7, h8, h9, h10⟩ := h
  exact ⟨c, k, i, f, a, cell, h1, h2, h3, h4, by rw [hq a (Array.getElem?_eq_some_iff.mp h5).1 h10]; exact h5, h6, h7, h8, h9, h10⟩
theorem vx_L.narrow {C n d : String} {A B : Nat → Prop} {U : State} {H : Heap} (h : vx_L C n d A U H) (hAB : ∀ q, B q → A q) : vx_L C n d B U H := by
  obtain ⟨c, k, i, f, a, cell, h1, h2, h3, h4, h5, h6, h7, h8, h9, h10⟩ := h
  exact ⟨c, k, i, f, a, cell, h1, h2, h3, h4, h5, h6, h7, h8, h9, fun z => h10 (hAB _ z)⟩
theorem vx_L.word {C n d : String} {A : Nat → Prop} {s : State} {args : Array Value} (h : vx_L C n d A s s.heap) : (Cond.laysStatic C n d).before args s = true := by
  obtain ⟨c, k, i, f, a, cell, h1, h2, h3, h4, h5, h6, h7, h8, h9, -⟩ := h
  show (Cond.laysStatic C n d).holds args s none s [] = true
  exact Cond.laysStatic_of h1 h2 h3 h4 h5 h6 h7 h8 h9
/-- .. and what it holds: null or some reference -/
def vx_Zq (C n d : String) (A : Nat → Prop) (U : State) (H : Heap) : Prop := va_Zq C n d A U H ∧ vx_L C n d A U H
theorem vx_Zq.moved {C n d : String} {A : Nat → Prop} {u U : State} {H : Heap} (hvm : u.vm.Alike U.vm) (h : vx_Zq C n d A u H) : vx_Zq C n d A U H := ⟨va_Zq.moved hvm h.1, vx_L.moved hvm h.2⟩
theorem vx_Zq.kept {C n d : String} {A : Nat → Prop} {U : State} {H H1 : Heap} (h : vx_Zq C n d A U H) (hq : ∀ a : Nat, a < H.size → ¬ A a → H1[a]? = H[a]?) : vx_Zq C n d A U H1 := ⟨va_Zq.kept h.1 hq, vx_L.kept h.2 hq⟩
theorem vx_Zq.narrow {C n d : String} {A B : Nat → Prop} {U : State} {H : Heap} (h : vx_Zq C n d A U H) (hAB : ∀ q, B q → A q) : vx_Zq C n d B U H := ⟨va_Zq.narrow h.1 hAB, vx_L.narrow h.2 hAB⟩
theorem vx_Zqof {args : Array Value} {s : State} {C n d : String} {A : Nat → Prop} (hl : (Cond.laysStatic C n d).before args s = true) (hini : (Cond.initialized C).before args s = true) (h : (Cond.isRef (.static C n d)).before args s = true) (hA : ∀ a : Nat, a < s.heap.size → ¬ A a) : vx_Zq C n d A s s.heap := by
  refine ⟨va_Zqof hl hini h hA, ?_⟩
  obtain ⟨c, k, i, f, a, cell, h1, h2, h3, h4, h5, h6, h7, h8, h9⟩ := Cond.laysStatic_spec hl
  exact ⟨c, k, i, f, a, cell, h1, h2, h3, h4, h5, h6, h7, h8, h9, hA a (Array.getElem?_eq_some_iff.mp h5).1⟩
theorem vx_isRef {C n d : String} {v : Value} {A : Nat → Prop} {s : State} {args : Array Value} (h : va_Z C n d v A s s.heap) (hv : v.isRef = true) : (Cond.isRef (.static C n d)).before args s = true := by
  obtain ⟨cf, kf, fi, f, a, cell, h1, h2, h3, h4, h5, h6, h7, -⟩ := h
  have he : (Term.static C n d).eval args s none [] s = some v := by
    simp [Term.eval, State.fieldNamed?, h1, h2, h4, h5, h6, h7]
  simp only [Cond.before, Cond.holds, Cond.value, he]
  cases v <;> simp_all [Value.isRef]
theorem vx_isRefq {C n d : String} {A : Nat → Prop} {s : State} {args : Array Value} (h : va_Zq C n d A s s.heap) : (Cond.isRef (.static C n d)).before args s = true := by
  rcases h with h | ⟨t, h⟩
  · exact vx_isRef h rfl
  · exact vx_isRef h rfl
/-- the same frame, seen from here: as if the method were called anew in this heap -/
theorem vx_rebase {T : State} (X : Stand p l e R s m args below meth c T locs cells slots) {R' : Room} (hf : R'.frames ≤ R.frames) (hl : R'.locals ≤ R.locals) (hc : cells + R'.cells ≤ R.cells) (hs : slots + R'.slots ≤ R.slots) :
    Stand p l e R' ((T.setVm s.vm).setFrames (.invoking m args :: below)) m args below meth c T [] 0 0 := by
  have htop : (T.setVm s.vm).topJava?.isSome := X.here.top
  have hF : ((T.setVm s.vm).setFrames (.invoking m args :: below)).frames = .invoking m args :: below := State.frames_setFrames _ (State.cur_lt_of_top htop)
  obtain ⟨g₀, hg0⟩ := Option.isSome_iff_exists.mp htop
  obtain ⟨r, hr⟩ := State.topJava?_eq_some.mp hg0
  have hl9 : e.platform.stackLimits (T.setVm s.vm).me = e.platform.stackLimits s.me := X.limits
  have hb9 : (T.setVm s.vm).me.stackBytes = s.me.stackBytes := X.bytes
  refine ⟨X.admits, X.cas, X.clock, hF, ?_, X.hears, X.method, X.code, X.here, X.tail, X.warmed, ?_, ?_, ?_⟩
  · have h := X.room
    have hU : ((T.setVm s.vm).setFrames (.invoking m args :: below)).localsInUse = s.localsInUse := by
      rw [State.localsInUse_invoking hF (meth := meth) (c := c) X.method X.code, State.localsInUse_invoking X.frames X.method X.code]
    simp only [State.hasRoom, Bool.and_eq_true, decide_eq_true_eq] at h ⊢
    obtain ⟨⟨⟨⟨h1, h2, h3, h4, h5, h6⟩, h7⟩, h8⟩, h9⟩ := h
    rw [X.frames, List.length_cons] at h2 h3
    have q1 := X.heapSize
    have q2 := X.used
    simp only [hF, hU, List.length_cons, State.stackLimits_setFrames, State.stackBytes_setFrames, hl9, hb9]
    refine ⟨⟨⟨⟨by omega, by omega, by omega, by omega, by omega, h6⟩, ?_⟩, ?_⟩, X.book⟩
    · show T.heap.size + R'.cells ≤ e.platform.maxCells
      omega
    · show T.slotsUsed + R'.slots ≤ e.platform.maxSlots
      omega
  · rw [State.stackLimits_setFrames]; rfl
  · rw [State.stackBytes_setFrames]; rfl
  · refine ⟨?_, Nat.le_refl _, Nat.le_refl _, ?_, ?_, fun a c9 h9 => ⟨c9, h9, rfl, rfl, fun _ _ => rfl⟩⟩
    · obtain ⟨t, ht, -⟩ := State.frames_cons hr
      show T.setVm s.vm = { ((T.setVm s.vm).setFrames (.invoking m args :: below)).setFrames (T.setVm s.vm).frames with heap := T.heap, slotsUsed := T.slotsUsed }
      rw [State.setFrames_setFrames, State.setFrames_self ht]
      rfl
    · show T.slotsUsed = T.slotsUsed + ((T.heap.toList.drop T.heap.size).map (·.slots.size)).sum
      rw [List.drop_eq_nil_of_le (Nat.le_of_eq Array.length_toList)]
      rfl
    · show ((T.heap.toList.drop T.heap.size).map (·.slots.size)).sum ≤ 0
      rw [List.drop_eq_nil_of_le (Nat.le_of_eq Array.length_toList)]
      exact Nat.le_refl _
/-- 'throw new E()': new; dup; invokespecial; athrow -/
theorem vx_throw0 {cc : ByteArray} {pc : Nat} (hexec : p.tables.exec = Jvm.exec) (hb : c.code = cc) (hl : l.stackTraces = false) {own cls : String} {names : List String} {ik ic mc ms : Nat} {A : Nat → Prop}
    (hown : s.vm.findClass own = some m.cls) (hcls : Bundle.fit cls = true) (hnames : ∀ n ∈ names, Bundle.fit n = true)
    (hk : (Cond.classLink own ik cls).before args s = true) (hini : (Cond.initialized cls).before args s = true) (hat : ∀ w ∈ vx_at0 own ic cls names, w.before args s = true)
    (hgood : ∀ w ∈ Cond.classLink own ik cls :: Cond.initialized cls :: vx_at0 own ic cls names, vx_ot w = true)
    (hU : vx_Zq Bundle.tN "UNASSIGNED_STACK" Bundle.steD A s s.heap) (hN : vx_Zq Bundle.tN "SUPPRESSED_SENTINEL" Bundle.listD A s s.heap) (hS : va_S A s.heap H locs) (hsize : ls.size = c.maxLocals)
    (d0 : decode cc pc = .ok (.new ik, 3)) (d3 : decode cc (pc + 3) = .ok (.dup, 1)) (d4 : decode cc (pc + 4) = .ok (.invokespecial ic, 3)) (d7 : decode cc (pc + 7) = .ok (.athrow, 1))
    (hout : ∀ x ∈ c.exceptionTable.toList, covers x (pc + 7) = false)
    (hRframes : names.length + 3 < R.frames) (hRlocals : (rest.map fun v => v.category).sum + (13 * (names.length + 1) + 42) ≤ R.locals) (hRcells : cells + 1 ≤ R.cells) (hRslots : slots + 6 ≤ R.slots) (hlocks : meth.locks = false)
    (hx : ∀ t : State, s.vm.Alike t.vm → H.size ≤ t.heap.size → (∀ q : Nat, q < H.size → t.heap[q]? = H[q]?) → XC cls s t)
    (hf : ∀ z ∈ locs, free z.base) (hc : cells + 1 ≤ mc) (hs : slots + 6 ≤ ms) :
    W p l e R s m args below meth c H locs cells slots (vx_MQ below Qc XC args s mc ms free) (F0 m pc ls rest) := by
  intro T hT X
  have htr : e.platform.stackTraces = false := (show e.platform.stackTraces = l.stackTraces by rw [X.admits.platform]).trans hl
  have Y := vx_rebase X (R' := { frames := R.frames, locals := R.locals, cells := 1, slots := 6 }) (Nat.le_refl _) (Nat.le_refl _) hRcells hRslots
  obtain ⟨s', hA⟩ : ∃ z, z = (T.setVm s.vm).setFrames (.invoking m args :: below) := ⟨_, rfl⟩
  rw [← hA] at Y
  have hvm : s'.vm = s.vm := by rw [hA]; rfl
  have hhp : s'.heap = H := by rw [hA]; exact hT
  have hW0 : s.WarmedH s'.vm := by rw [hvm]; exact State.WarmedH.refl s
  have hat' : ∀ w ∈ vx_at0 own ic cls names, w.before args s' = true := fun w hw => vx_ot_at hW0 hvm.symm (hgood w (List.mem_cons_of_mem _ (List.mem_cons_of_mem _ hw))) (hat w hw)
  have hk' : (Cond.classLink own ik cls).before args s' = true := vx_ot_at hW0 hvm.symm (hgood _ List.mem_cons_self) hk
  have hini' : (Cond.initialized cls).before args s' = true := vx_ot_at hW0 hvm.symm (hgood _ (List.mem_cons_of_mem _ List.mem_cons_self)) hini
  have hU' : vx_Zq Bundle.tN "UNASSIGNED_STACK" Bundle.steD A s' s'.heap := by rw [hhp]; exact vx_Zq.moved hW0.alike (hU.kept hS.2.1)
  have hN' : vx_Zq Bundle.tN "SUPPRESSED_SENTINEL" Bundle.listD A s' s'.heap := by rw [hhp]; exact vx_Zq.moved hW0.alike (hN.kept hS.2.1)
  have h : ∀ w ∈ Bundle.ownAtoms0 own ic cls names, w.before args s' = true := vx_own hat' (vx_isRefq hU'.1) (vx_isRefq hN'.1) hU'.2.word hN'.2.word
  have hown' : s'.vm.findClass own = some m.cls := by rw [hvm]; exact hown
  have hins : (Cond.instantiable cls 6).before args s' = true := h _ (by simp [Bundle.ownAtoms0])
  obtain ⟨vm₁, cX, kX, hfX, hkX, -, -, X₁, st1⟩ := Y.newCold hexec (own := own) (C := cls) (index := ik) (n := 6) hown' hk' hins hini'
    (g := F0 m pc ls rest) rfl (by rw [hb]; exact d0) (Nat.le_refl _) (Nat.le_refl _)
  generalize hT1 : (T.setVm vm₁).pushCell { cls := cX, slots := kX.instanceTypes.map defaultValue, vm := .none } = T1 at X₁ st1
  have hcat : (Value.ref T.heap.size).category = 1 := rfl
  have hcellA : T1.heap[T.heap.size]? = some (freshCell cX kX) := by rw [← hT1]; exact State.heap_pushCell_size _ _
  have d3' : decode c.code (pc + 3) = .ok (.dup, 1) := by rw [hb]; exact d3
  obtain ⟨U, hsteps, hrun, hend, hW, hsame, ce, hce, hO⟩ := X₁.ctorThrow0 hexec htr (own := own) (cls := cls) (names := names) (ic := ic) hown' hcls hnames h (fun x hx => nomatch hx) hfX hkX hcellA (by rw [hhp, hT]; exact Nat.le_refl _)
    (g := { method := m, pc := pc + 4, locals := ls, stack := .ref T.heap.size :: .ref T.heap.size :: rest, locked := none }) rfl hsize rfl rfl (rest := rest) rfl
    (by rw [hb]; exact d4) (by rw [hb]; exact d7) hout hRframes (by simp only [List.map_cons, List.sum_cons, hcat]; omega) hlocks
  obtain ⟨f1, f2⟩ := vx_frame hsame
  rw [hhp] at f1 f2
  have hWs : s.WarmedH U.vm := State.WarmedH.trans hW0 hW
  have hcl : s.vm.findClass cls = some ce.cls := by
    have h9 := hO.cls
    rw [hvm] at h9
    exact h9
  have hall : s.sameButNew ({ U with vm := s.vm } : State) locs mc ms := by
    subst hA
    obtain ⟨e1, e2⟩ := hsame
    rw [State.setFrames_setFrames] at e1
    have h2 : (T.setVm s.vm).sameButNew ({ U with vm := s.vm } : State) [] (0 + 1) (0 + 6) := ⟨e1, e2⟩
    have h3 := X.same.trans h2
    rw [List.append_nil] at h3
    exact h3.mono hc hs
  refine ⟨U, ?_, .threw T.heap.size, hrun, hend, Or.inr ⟨T.heap.size, rfl, cls, ce, locs, hx U hWs.alike f1 (fun q hq => f2 q hq (fun z hz => nomatch hz)), hce, hO.vm, hcl, hWs, hall, hf⟩⟩
  refine st1 _ ?_
  show Steps p.tables e below (T1.setTop { method := m, pc := pc + 3, locals := ls, stack := .ref T.heap.size :: rest, locked := none }) _
  jvm_step X₁.here [X₁.here.top, hexec, d3', Value.category]
  exact hsteps
/-- 'throw new E("text")': new; dup; ldc; invokespecial; athrow -/
theorem vx_throwS {cc : ByteArray} {pc : Nat} (hexec : p.tables.exec = Jvm.exec) (hb : c.code = cc) (hl : l.stackTraces = false) {own cls text : String} {names : List String} {ik is ic mc ms sa : Nat} {A : Nat → Prop}
    (hown : s.vm.findClass own = some m.cls) (hcls : Bundle.fit cls = true) (hnames : ∀ n ∈ names, Bundle.fit n = true)
    (hk : (Cond.classLink own ik cls).before args s = true) (hini : (Cond.initialized cls).before args s = true) (hstr : vk_R own is text sa s) (hat : ∀ w ∈ vx_atS own ic cls names, w.before args s = true)
    (hgood : ∀ w ∈ Cond.classLink own ik cls :: Cond.initialized cls :: vx_atS own ic cls names, vx_ot w = true)
    (hU : vx_Zq Bundle.tN "UNASSIGNED_STACK" Bundle.steD A s s.heap) (hN : vx_Zq Bundle.tN "SUPPRESSED_SENTINEL" Bundle.listD A s s.heap) (hS : va_S A s.heap H locs) (hsize : ls.size = c.maxLocals)
    (d0 : decode cc pc = .ok (.new ik, 3)) (d3 : decode cc (pc + 3) = .ok (.dup, 1)) (d4 : decode cc (pc + 4) = .ok (.ldc is, 2)) (d6 : decode cc (pc + 6) = .ok (.invokespecial ic, 3)) (d9 : decode cc (pc + 9) = .ok (.athrow, 1))
    (hout : ∀ x ∈ c.exceptionTable.toList, covers x (pc + 9) = false)
    (hRframes : names.length + 3 < R.frames) (hRlocals : (rest.map fun v => v.category).sum + (13 * (names.length + 1) + 43) ≤ R.locals) (hRcells : cells + 1 ≤ R.cells) (hRslots : slots + 6 ≤ R.slots) (hlocks : meth.locks = false)
    (hx : ∀ t : State, s.vm.Alike t.vm → H.size ≤ t.heap.size → (∀ q : Nat, q < H.size → t.heap[q]? = H[q]?) → XC cls s t)
    (hf : ∀ z ∈ locs, free z.base) (hc : cells + 1 ≤ mc) (hs : slots + 6 ≤ ms) :
    W p l e R s m args below meth c H locs cells slots (vx_MQ below Qc XC args s mc ms free) (F0 m pc ls rest) := by
  intro T hT X
  have htr : e.platform.stackTraces = false := (show e.platform.stackTraces = l.stackTraces by rw [X.admits.platform]).trans hl
  have Y := vx_rebase X (R' := { frames := R.frames, locals := R.locals, cells := 1, slots := 6 }) (Nat.le_refl _) (Nat.le_refl _) hRcells hRslots
  obtain ⟨s', hA⟩ : ∃ z, z = (T.setVm s.vm).setFrames (.invoking m args :: below) := ⟨_, rfl⟩
  rw [← hA] at Y
  have hvm : s'.vm = s.vm := by rw [hA]; rfl
  have hhp : s'.heap = H := by rw [hA]; exact hT
  have hW0 : s.WarmedH s'.vm := by rw [hvm]; exact State.WarmedH.refl s
  have hat' : ∀ w ∈ vx_atS own ic cls names, w.before args s' = true := fun w hw => vx_ot_at hW0 hvm.symm (hgood w (List.mem_cons_of_mem _ (List.mem_cons_of_mem _ hw))) (hat w hw)
  have hk' : (Cond.classLink own ik cls).before args s' = true := vx_ot_at hW0 hvm.symm (hgood _ List.mem_cons_self) hk
  have hini' : (Cond.initialized cls).before args s' = true := vx_ot_at hW0 hvm.symm (hgood _ (List.mem_cons_of_mem _ List.mem_cons_self)) hini
  have hU' : vx_Zq Bundle.tN "UNASSIGNED_STACK" Bundle.steD A s' s'.heap := by rw [hhp]; exact vx_Zq.moved hW0.alike (hU.kept hS.2.1)
  have hN' : vx_Zq Bundle.tN "SUPPRESSED_SENTINEL" Bundle.listD A s' s'.heap := by rw [hhp]; exact vx_Zq.moved hW0.alike (hN.kept hS.2.1)
  have h : ∀ w ∈ Bundle.ownAtoms own ic cls names, w.before args s' = true := vx_own hat' (vx_isRefq hU'.1) (vx_isRefq hN'.1) hU'.2.word hN'.2.word
  have hown' : s'.vm.findClass own = some m.cls := by rw [hvm]; exact hown
  have hins : (Cond.instantiable cls 6).before args s' = true := h _ (by simp [Bundle.ownAtoms])
  obtain ⟨vm₁, cX, kX, hfX, hkX, -, -, X₁, st1⟩ := Y.newCold hexec (own := own) (C := cls) (index := ik) (n := 6) hown' hk' hins hini'
    (g := F0 m pc ls rest) rfl (by rw [hb]; exact d0) (Nat.le_refl _) (Nat.le_refl _)
  generalize hT1 : (T.setVm vm₁).pushCell { cls := cX, slots := kX.instanceTypes.map defaultValue, vm := .none } = T1 at X₁ st1
  have hcat : (Value.ref T.heap.size).category = 1 := rfl
  have hcellA : T1.heap[T.heap.size]? = some (freshCell cX kX) := by rw [← hT1]; exact State.heap_pushCell_size _ _
  have d3' : decode c.code (pc + 3) = .ok (.dup, 1) := by rw [hb]; exact d3
  have d4' : decode c.code (pc + 4) = .ok (.ldc is, 2) := by rw [hb]; exact d4
  have hstr' : vk_R own is text sa s' := vk_R.warm hW0 hstr
  obtain ⟨U, hsteps, hrun, hend, hW, hsame, ce, hce, hO⟩ := X₁.ctorThrowS hexec htr (own := own) (cls := cls) (names := names) (ic := ic) hown' hcls hnames h (fun x hx => nomatch hx) hfX hkX hcellA (by rw [hhp, hT]; exact Nat.le_refl _) (msg := .ref sa) rfl
    (g := { method := m, pc := pc + 6, locals := ls, stack := .ref sa :: .ref T.heap.size :: .ref T.heap.size :: rest, locked := none }) rfl hsize rfl rfl (rest := rest) rfl
    (by rw [hb]; exact d6) (by rw [hb]; exact d9) hout hRframes (by simp only [List.map_cons, List.sum_cons, hcat]; omega) hlocks
  obtain ⟨f1, f2⟩ := vx_frame hsame
  rw [hhp] at f1 f2
  have hWs : s.WarmedH U.vm := State.WarmedH.trans hW0 hW
  have hcl : s.vm.findClass cls = some ce.cls := by
    have h9 := hO.cls
    rw [hvm] at h9
    exact h9
  have hall : s.sameButNew ({ U with vm := s.vm } : State) locs mc ms := by
    subst hA
    obtain ⟨e1, e2⟩ := hsame
    rw [State.setFrames_setFrames] at e1
    have h2 : (T.setVm s.vm).sameButNew ({ U with vm := s.vm } : State) [] (0 + 1) (0 + 6) := ⟨e1, e2⟩
    have h3 := X.same.trans h2
    rw [List.append_nil] at h3
    exact h3.mono hc hs
  refine ⟨U, ?_, .threw T.heap.size, hrun, hend, Or.inr ⟨T.heap.size, rfl, cls, ce, locs, hx U hWs.alike f1 (fun q hq => f2 q hq (fun z hz => nomatch hz)), hce, hO.vm, hcl, hWs, hall, hf⟩⟩
  refine st1 _ ?_
  show Steps p.tables e below (T1.setTop { method := m, pc := pc + 3, locals := ls, stack := .ref T.heap.size :: rest, locked := none }) _
  jvm_step X₁.here [X₁.here.top, hexec, d3', Value.category]
  exact X₁.ldcString hexec (own := own) (text := text) (index := is) (a := sa) hown' hstr'.1 hstr'.2
    (g := { method := m, pc := pc + 4, locals := ls, stack := .ref T.heap.size :: .ref T.heap.size :: rest, locked := none }) rfl d4' _ hsteps
/-- 'throw new E("text")', the text by a wide index -/
theorem vx_throwSW {cc : ByteArray} {pc : Nat} (hexec : p.tables.exec = Jvm.exec) (hb : c.code = cc) (hl : l.stackTraces = false) {own cls text : String} {names : List String} {ik is ic mc ms sa : Nat} {A : Nat → Prop}
    (hown : s.vm.findClass own = some m.cls) (hcls : Bundle.fit cls = true) (hnames : ∀ n ∈ names, Bundle.fit n = true)
    (hk : (Cond.classLink own ik cls).before args s = true) (hini : (Cond.initialized cls).before args s = true) (hstr : vk_R own is text sa s) (hat : ∀ w ∈ vx_atS own ic cls names, w.before args s = true)
    (hgood : ∀ w ∈ Cond.classLink own ik cls :: Cond.initialized cls :: vx_atS own ic cls names, vx_ot w = true)
    (hU : vx_Zq Bundle.tN "UNASSIGNED_STACK" Bundle.steD A s s.heap) (hN : vx_Zq Bundle.tN "SUPPRESSED_SENTINEL" Bundle.listD A s s.heap) (hS : va_S A s.heap H locs) (hsize : ls.size = c.maxLocals)
    (d0 : decode cc pc = .ok (.new ik, 3)) (d3 : decode cc (pc + 3) = .ok (.dup, 1)) (d4 : decode cc (pc + 4) = .ok (.ldc_w is, 3)) (d7 : decode cc (pc + 7) = .ok (.invokespecial ic, 3)) (d10 : decode cc (pc + 10) = .ok (.athrow, 1))
    (hout : ∀ x ∈ c.exceptionTable.toList, covers x (pc + 10) = false)
    (hRframes : names.length + 3 < R.frames) (hRlocals : (rest.map fun v => v.category).sum + (13 * (names.length + 1) + 43) ≤ R.locals) (hRcells : cells + 1 ≤ R.cells) (hRslots : slots + 6 ≤ R.slots) (hlocks : meth.locks = false)
    (hx : ∀ t : State, s.vm.Alike t.vm → H.size ≤ t.heap.size → (∀ q : Nat, q < H.size → t.heap[q]? = H[q]?) → XC cls s t)
    (hf : ∀ z ∈ locs, free z.base) (hc : cells + 1 ≤ mc) (hs : slots + 6 ≤ ms) :
    W p l e R s m args below meth c H locs cells slots (vx_MQ below Qc XC args s mc ms free) (F0 m pc ls rest) := by
  intro T hT X
  have htr : e.platform.stackTraces = false := (show e.platform.stackTraces = l.stackTraces by rw [X.admits.platform]).trans hl
  have Y := vx_rebase X (R' := { frames := R.frames, locals := R.locals, cells := 1, slots := 6 }) (Nat.le_refl _) (Nat.le_refl _) hRcells hRslots
  obtain ⟨s', hA⟩ : ∃ z, z = (T.setVm s.vm).setFrames (.invoking m args :: below) := ⟨_, rfl⟩
  rw [← hA] at Y
  have hvm : s'.vm = s.vm := by rw [hA]; rfl
  have hhp : s'.heap = H := by rw [hA]; exact hT
  have hW0 : s.WarmedH s'.vm := by rw [hvm]; exact State.WarmedH.refl s
  have hat' : ∀ w ∈ vx_atS own ic cls names, w.before args s' = true := fun w hw => vx_ot_at hW0 hvm.symm (hgood w (List.mem_cons_of_mem _ (List.mem_cons_of_mem _ hw))) (hat w hw)
  have hk' : (Cond.classLink own ik cls).before args s' = true := vx_ot_at hW0 hvm.symm (hgood _ List.mem_cons_self) hk
  have hini' : (Cond.initialized cls).before args s' = true := vx_ot_at hW0 hvm.symm (hgood _ (List.mem_cons_of_mem _ List.mem_cons_self)) hini
  have hU' : vx_Zq Bundle.tN "UNASSIGNED_STACK" Bundle.steD A s' s'.heap := by rw [hhp]; exact vx_Zq.moved hW0.alike (hU.kept hS.2.1)
  have hN' : vx_Zq Bundle.tN "SUPPRESSED_SENTINEL" Bundle.listD A s' s'.heap := by rw [hhp]; exact vx_Zq.moved hW0.alike (hN.kept hS.2.1)
  have h : ∀ w ∈ Bundle.ownAtoms own ic cls names, w.before args s' = true := vx_own hat' (vx_isRefq hU'.1) (vx_isRefq hN'.1) hU'.2.word hN'.2.word
  have hown' : s'.vm.findClass own = some m.cls := by rw [hvm]; exact hown
  have hins : (Cond.instantiable cls 6).before args s' = true := h _ (by simp [Bundle.ownAtoms])
  obtain ⟨vm₁, cX, kX, hfX, hkX, -, -, X₁, st1⟩ := Y.newCold hexec (own := own) (C := cls) (index := ik) (n := 6) hown' hk' hins hini'
    (g := F0 m pc ls rest) rfl (by rw [hb]; exact d0) (Nat.le_refl _) (Nat.le_refl _)
  generalize hT1 : (T.setVm vm₁).pushCell { cls := cX, slots := kX.instanceTypes.map defaultValue, vm := .none } = T1 at X₁ st1
  have hcat : (Value.ref T.heap.size).category = 1 := rfl
  have hcellA : T1.heap[T.heap.size]? = some (freshCell cX kX) := by rw [← hT1]; exact State.heap_pushCell_size _ _
  have d3' : decode c.code (pc + 3) = .ok (.dup, 1) := by rw [hb]; exact d3
  have d4' : decode c.code (pc + 4) = .ok (.ldc_w is, 3) := by rw [hb]; exact d4
  have hstr' : vk_R own is text sa s' := vk_R.warm hW0 hstr
  obtain ⟨U, hsteps, hrun, hend, hW, hsame, ce, hce, hO⟩ := X₁.ctorThrowS hexec htr (own := own) (cls := cls) (names := names) (ic := ic) hown' hcls hnames h (fun x hx => nomatch hx) hfX hkX hcellA (by rw [hhp, hT]; exact Nat.le_refl _) (msg := .ref sa) rfl
    (g := { method := m, pc := pc + 7, locals := ls, stack := .ref sa :: .ref T.heap.size :: .ref T.heap.size :: rest, locked := none }) rfl hsize rfl rfl (rest := rest) rfl
    (by rw [hb]; exact d7) (by rw [hb]; exact d10) hout hRframes (by simp only [List.map_cons, List.sum_cons, hcat]; omega) hlocks
  obtain ⟨f1, f2⟩ := vx_frame hsame
  rw [hhp] at f1 f2
  have hWs : s.WarmedH U.vm := State.WarmedH.trans hW0 hW
  have hcl : s.vm.findClass cls = some ce.cls := by
    have h9 := hO.cls
    rw [hvm] at h9
    exact h9
  have hall : s.sameButNew ({ U with vm := s.vm } : State) locs mc ms := by
    subst hA
    obtain ⟨e1, e2⟩ := hsame
    rw [State.setFrames_setFrames] at e1
    have h2 : (T.setVm s.vm).sameButNew ({ U with vm := s.vm } : State) [] (0 + 1) (0 + 6) := ⟨e1, e2⟩
    have h3 := X.same.trans h2
    rw [List.append_nil] at h3
    exact h3.mono hc hs
  refine ⟨U, ?_, .threw T.heap.size, hrun, hend, Or.inr ⟨T.heap.size, rfl, cls, ce, locs, hx U hWs.alike f1 (fun q hq => f2 q hq (fun z hz => nomatch hz)), hce, hO.vm, hcl, hWs, hall, hf⟩⟩
  refine st1 _ ?_
  show Steps p.tables e below (T1.setTop { method := m, pc := pc + 3, locals := ls, stack := .ref T.heap.size :: rest, locked := none }) _
  jvm_step X₁.here [X₁.here.top, hexec, d3', Value.category]
  exact X₁.ldcStringW hexec (own := own) (text := text) (index := is) (a := sa) hown' hstr'.1 hstr'.2
    (g := { method := m, pc := pc + 4, locals := ls, stack := .ref T.heap.size :: .ref T.heap.size :: rest, locked := none }) rfl d4' _ hsteps
end Ends
section Bodies
variable {l : Launch}
theorem vx_ofW {y : MethodName} {ws ws' : List Cond} {rm : Room} {Pc : Array Value → State → Prop} {Qc : Array Value → State → Outcome → State → Prop} {XC : String → State → State → Prop} {mc ms : Nat} {free : Addr → Prop} {cc : ByteArray} {maxL : Nat} {ret : Option FieldType}
    (hy : plainName y.cls = true) (hw : ws = Cond.code y cc maxL ret :: ws')
    (body : ∀ p e s m args below meth c s₁, BodyLoose p l y (headSpec ws rm) cc maxL ret e s m args below meth c s₁ → c.maxLocals = maxL → (∀ x ∈ c.exceptionTable.toList, False) → Pc args s →
      W p l e (headSpec ws rm).room s m args below meth c s.heap [] 0 0 (vx_MQ below Qc XC args s mc ms free) (entryFrame m args maxL)) : vx_Met l y ws rm Pc Qc XC mc ms free := by
  refine MetFree.of_bodyS (code := cc) (maxLocals := maxL) (ret := ret) hy ?_ ?_
  · intro args s m h hn
    obtain ⟨meth, c, h1, h2, h3, h4, h5, h6, -, -⟩ := Cond.code_spec hn (atoms_spec (ws := ws) h _ (by rw [hw]; exact List.mem_cons_self))
    exact ⟨meth, c, h1, h2, h3, h4, h5, h6⟩
  · intro p e s m args below meth c s₁ B hml hP _
    have hh0 : s₁.heap = s.heap := by rw [B.state]; rfl
    have ht : ∀ x ∈ c.exceptionTable.toList, False := by
      obtain ⟨meth9, c9, h1, h2, -, -, -, -, h7, -⟩ := Cond.code_spec B.named (atoms_spec (ws := ws) B.pre _ (by rw [hw]; exact List.mem_cons_self))
      cases Option.some.inj (h1.symm.trans B.method)
      cases Option.some.inj (h2.symm.trans (Stand.of_body B).code)
      intro x hx
      rw [Array.isEmpty_iff.mp h7] at hx
      cases hx
    obtain ⟨t, a1, o, b1, b2, b3⟩ := body p e s m args below meth c s₁ B hml ht hP s₁ hh0 (Stand.of_body B)
    exact ⟨t, o, a1, b1, b2, b3⟩
/-- the table of a body with handlers -/
theorem vx_table {p : Program} {x y : MethodName} {S : Spec} {cc bytes : ByteArray} {maxL maxL' : Nat} {ret ret' : Option FieldType} {e : Env} {s s₁ : State} {m : MethodId} {args : Array Value} {below : List Frame} {meth : Method} {c : Code} {hh : List (Nat × Nat × Nat × Nat)}
    (B : BodyLoose p l y S cc maxL ret e s m args below meth c s₁) (h : (Cond.codeWith y bytes maxL' ret' hh).before args s = true) : c.exceptionTable.toList = tableOf hh := by
  obtain ⟨m9, meth9, c9, hn9, h1, h2, -, -, h6, -⟩ := Cond.codeWith_spec h
  cases Option.some.inj (hn9.symm.trans B.named)
  cases Option.some.inj (h1.symm.trans B.method)
  cases Option.some.inj (h2.symm.trans (Stand.of_body B).code)
  rw [← h6, table_eq]
end Bodies
end VXA
/-! ===== END ===== -/
/-! ===== BEGIN a static call of a method with an exception table ===== -/
section VXS
variable {p : Program} {l : Launch} {e : Env} {R : Room} {s : State} {m : MethodId} {args : Array Value} {below : List Frame} {meth : Method} {c : Code} {T : State} {H : Heap} {locs : List Loc} {cells slots : Nat}
abbrev vx_CSW (R : Room) (s : State) (args : Array Value) (own : String) (index : Nat) (y : MethodName) (bytes : ByteArray) (maxL : Nat) (ret : Option FieldType) (hh : List (Nat × Nat × Nat × Nat)) (ws : List Cond) (rm : Room) (mc ms n : Nat) : Prop :=
  (rm.cells = mc ∧ rm.slots = ms ∧ rm.frames + 1 ≤ R.frames ∧ 8 + (maxL + 11) + rm.locals ≤ R.locals ∧ (∀ w ∈ ws, ∀ (a' : Array Value) (U : State), s.WarmedH U.vm → w.before a' U = true) ∧ Cond.codeWith y bytes maxL ret hh ∈ ws) ∧
  (Cond.codeWith y bytes maxL ret hh).before args s = true ∧ (Cond.initialized y.cls).before args s = true ∧ (y.cls ≠ "java/lang/invoke/MethodHandle" ∧ y.cls ≠ "java/lang/invoke/VarHandle") ∧
  (∀ sig, parseMethodDescriptor y.desc = some sig → n = sig.parameters.length) ∧ (Cond.methodLink own index y).before args s = true ∧ (Cond.static y).before args s = true
theorem vx_cwSW {own : String} {index maxL mc ms : Nat} {y : MethodName} {bytes : ByteArray} {ret : Option FieldType} {hh : List (Nat × Nat × Nat × Nat)} {Ts ws ws' : List Cond} {rm : Room} (n : Nat) (ht : ∀ w ∈ Ts, w.before args s = true) (hT : GoodIn Ts (va_wsS own index y ws)) (hw : ws = Cond.codeWith y bytes maxL ret hh :: ws') (hrc : rm.cells = mc) (hrs : rm.slots = ms)
    (hd : y.cls ≠ "java/lang/invoke/MethodHandle" ∧ y.cls ≠ "java/lang/invoke/VarHandle" ∧ (parseMethodDescriptor y.desc).map (fun d => d.parameters.length) = some n) (hR : rm.frames + 1 ≤ R.frames ∧ 8 + (maxL + 11) + rm.locals ≤ R.locals) :
    vx_CSW R s args own index y bytes maxL ret hh ws rm mc ms n := by
  have ok : ∀ w ∈ va_wsS own index y ws, w.before args s = true := fun w h => ht w (hT w h).1
  have hG : GoodIn Ts ws := fun w h => hT w (by unfold va_wsS; exact List.mem_append_right _ h)
  have hc : Cond.codeWith y bytes maxL ret hh ∈ ws := by rw [hw]; exact List.mem_cons_self
  refine ⟨⟨hrc, hrs, hR.1, hR.2, pay_in ht hG, hc⟩, ht _ (hG _ hc).1, ok _ (by simp [va_wsS]), ⟨hd.1, hd.2.1⟩, fun sig h => ?_, ok _ (by simp [va_wsS]), ok _ (by simp [va_wsS])⟩
  have h2 := hd.2.2
  rw [h] at h2
  exact (Option.some.inj h2).symm
theorem vx_callSW (X : Stand p l e R s m args below meth c T locs cells slots) (hexec : p.tables.exec = Jvm.exec) {own : String} {index : Nat} {y : MethodName} {bytes : ByteArray} {maxL : Nat} {ret : Option FieldType} {hh : List (Nat × Nat × Nat × Nat)}
    (hown : s.vm.findClass own = some m.cls) (hlink : (Cond.methodLink own index y).before args s = true) (hstat : (Cond.static y).before args s = true) (hinit : (Cond.initialized y.cls).before args s = true)
    (hcode : (Cond.codeWith y bytes maxL ret hh).before args s = true) (hy : y.cls ≠ "java/lang/invoke/MethodHandle" ∧ y.cls ≠ "java/lang/invoke/VarHandle")
    {W9 : Nat} {Pre : Pt → Array Value → Prop} {Post : Pt → Array Value → Option Value → Pt → Prop} (hK : Back l R p e below s args y 3 W9 Pre Post)
    {g : JFrame} (hg : g.method = m) (hsize : g.locals.size = c.maxLocals) {argsL rest : List Value} (hlen : ∀ sig, parseMethodDescriptor y.desc = some sig → argsL.length = sig.parameters.length)
    (hstack : g.stack = argsL.reverse ++ rest) (hW : 2 * g.monitorRoom + (rest.map fun v => v.category).sum ≤ W9) (hdg : decode c.code g.pc = .ok (.invokestatic index, 3))
    (hpre : ∀ vm₁, s.WarmedH vm₁ → Pre ⟨T.setVm vm₁, locs, cells, slots⟩ argsL.toArray) :
    ∃ (v : Option Value) (vm₁ : Vm) (B : Pt), s.WarmedH vm₁ ∧ Stand p l e R s m args below meth c B.U B.locs B.cells B.slots ∧ Post ⟨T.setVm vm₁, locs, cells, slots⟩ argsL.toArray v B ∧
      ∀ target, Steps p.tables e below (B.U.setTop { g with pc := g.pc + 3, stack := v.toList ++ rest }) target → Steps p.tables e below (T.setTop g) target := by
  obtain ⟨mk, methM, cM, hnamed, hmethM, -, -, -, -, -, -, hsigM⟩ := Cond.codeWith_spec hcode
  have hstatic : methM.isStatic = true := Cond.static_spec hnamed hmethM hstat
  obtain ⟨kP, hkP, -⟩ := className_of_methodNamed hnamed
  have hinitP : kP.init = .initialized := Cond.initialized_spec (findClass_of_methodNamed hnamed) hkP hinit
  obtain ⟨vm₁, X₁, hstep₁⟩ := X.invokestatic hexec hown hlink hnamed hmethM hstatic hkP hinitP hy (g := g) hg (argsL := argsL) (rest := rest) (hlen _ hsigM) hstack hdg
  obtain ⟨v, B, X', hpost, hsteps⟩ := hK m meth c ⟨T.setVm vm₁, locs, cells, slots⟩ { g with stack := rest } (.invokestatic index) mk argsL.toArray X₁ hg hsize hdg hW (X₁.named hnamed) (hpre vm₁ X₁.warmed)
  exact ⟨v, vm₁, B, X₁.warmed, X', hpost, fun target h => hstep₁ _ fun acts => by rw [doInvoke_state]; exact hsteps.trans h⟩
theorem vx_runSW {y : MethodName} {bytes cc : ByteArray} {maxL nL mc ms n index : Nat} {ret : Option FieldType} {hh : List (Nat × Nat × Nat × Nat)} {ws : List Cond} {rm : Room} {Pc : Array Value → State → Prop} {Qc : Array Value → State → Outcome → State → Prop} {free : Addr → Prop} {Ts : List Cond} {own : String} {As rest : List Value} {g : JFrame}
    (S : CallFix p m c cc nL s args Ts own) (hM : Met l y ws rm Pc Qc mc ms free) (cw : vx_CSW R s args own index y bytes maxL ret hh ws rm mc ms n) (hp : PreS s H Pc As)
    (hg : g.method = m) (hn : As.length = n) (hsize : g.locals.size = nL) (hstack : g.stack = As.reverse ++ rest) (hW : 2 * g.monitorRoom + (rest.map fun v => v.category).sum ≤ 8) (hdg : decode cc g.pc = .ok (.invokestatic index, 3)) (hf : cells + mc ≤ R.cells ∧ slots + ms ≤ R.slots) :
    va_Run p l e R s m args below meth c H locs cells slots mc ms g rest (Qc As.toArray) (free) := by
  obtain ⟨⟨hrc, hrs, hfr, hlo, hws, hcw⟩, hcode, hini, hy, hlen, hl, hstt⟩ := cw
  have hK : Back l R p e below s args y 3 8 (PreOf R mc ms Pc) (PostOf Qc mc ms free) := va_backW (hh := hh) (bytes := bytes) (maxL := maxL) (ret := ret) hM hp.1 hrc hrs hfr hlo hws hcw (fun a' U hW => word_at hW (Or.inl (by first | rfl | simp [Cond.onTables, Cond.keeps, Cond.steady])) hini)
  obtain ⟨hx, hb, hml, ho, -⟩ := S
  intro T hT X
  obtain ⟨v, vm₁, ⟨U', l2, c2, s2⟩, hW₁, X', ⟨g', mk, t, L, e1, e2, hq, h1, hL, h2, h3⟩, st⟩ := vx_callSW X hx (hh := hh) (bytes := bytes) (maxL := maxL) (ret := ret) ho hl hstt hini hcode hy hK hg (hsize.trans hml.symm) (argsL := As) (rest := rest) (fun sig h => hn.trans (hlen sig h)) hstack hW (by rw [hb]; exact hdg)
    (fun vm₁ hW₁ => ⟨hf.1, hf.2, hp.2 (T.setVm vm₁) hT hW₁⟩)
  dsimp only [Pt.U, Pt.locs, Pt.cells, Pt.slots] at X' e1 e2 h1 h2 h3 st
  subst h1; subst h2; subst h3
  exact ⟨v, (T.setVm vm₁).calling g' mk As.toArray, t, U', L, hT, X', hL, e1, e2, hq, st⟩
/-- a thing of a world lies in the heap -/
theorem vx_lt {D : va_G} {cl : List vw_C} {ws : va_W} {H1 : Heap} (h : va_P D cl ws H1) {k : Nat} {q : Nat × va_E} (hk : ws[k]? = some q) : q.1 < H1.size := (h k q hk).lt
end VXS
/-! ===== END ===== -/
/-! ===== BEGIN methods with a table of their own: called by a name, returning or throwing ===== -/
section VXH
/-! vx_backW, vx_callVX, vx_callSX, vx_callVW, vx_runVW, vx_runVX, vx_runSX, vx_ofWH follow the same proofs as their sisters above (Free/Laws.lean, Shelf42/LK1.lean); vx_outP calls Shelf42/NT130.lean (outThrough). -/
section
variable {l : Launch} {R : Room} {p : Program} {e : Env} {below : List Frame} {s : State} {sargs : Array Value} {y : MethodName} {len W9 : Nat}
theorem vx_backW {ws : List Cond} {rm : Room} {Pc : Array Value → State → Prop} {Qc : Array Value → State → Outcome → State → Prop} {XC : String → State → State → Prop} {mc ms : Nat} {free : Addr → Prop} {bytes : ByteArray} {maxL : Nat} {ret : Option FieldType} {hh : List (Nat × Nat × Nat × Nat)}
    (hM : vx_Met l y ws rm Pc Qc XC mc ms free) (hblind : FrameBlind Pc) (hrc : rm.cells = mc) (hrs : rm.slots = ms)
    (hframes : rm.frames + 1 ≤ R.frames) (hlocals : W9 + (maxL + 11) + rm.locals ≤ R.locals)
    (hws : ∀ w ∈ ws, ∀ a' U, s.WarmedH U.vm → w.before a' U = true) (hcode : Cond.codeWith y bytes maxL ret hh ∈ ws) (hinit : ∀ a' U, s.WarmedH U.vm → (Cond.initialized y.cls).before a' U = true) :
    vx_Back l R p e below s sargs y len W9 (PreOf R mc ms Pc) (PostOf Qc mc ms free) (vx_Post XC mc ms free) := by
  intro m meth c A g ig mk a X hg hsize hdg hW hn hp
  have h1 : (headSpec ws rm).pre.before a A.U = true := atoms_intro fun w hw => hws w hw _ _ X.warmed
  have h2 : (Cond.codeWith y bytes maxL ret hh).before a A.U = true := hws _ hcode _ _ X.warmed
  have h3 : (Cond.initialized y.cls).before a A.U = true := hinit _ _ X.warmed
  have h4 : A.cells + (headSpec ws rm).room.cells ≤ R.cells := by rw [show (headSpec ws rm).room.cells = mc from hrc]; exact hp.1
  have h5 : A.slots + (headSpec ws rm).room.slots ≤ R.slots := by rw [show (headSpec ws rm).room.slots = ms from hrs]; exact hp.2.1
  have hPc : Pc a (A.U.calling g mk a) := hblind _ _ _ _ hp.2.2
  obtain ⟨U, Ls, c0, s0⟩ := A
  dsimp only [Pt.U, Pt.locs, Pt.cells, Pt.slots] at h1 h2 h3 h4 h5 X hn hPc ⊢
  obtain ⟨m9, methY, cY, hn9, hmY, hcY, -, hlY, -⟩ := Cond.codeWith_spec h2
  cases Option.some.inj (hn9.symm.trans hn)
  obtain ⟨kY, hkY, -⟩ := className_of_methodNamed hn
  have hinitY : kY.init = .initialized := Cond.initialized_spec (findClass_of_methodNamed hn) hkY h3
  have h : At U g.method c below := by rw [hg]; exact X.here
  have hlocals9 : W9 + (maxL + 11) + (headSpec ws rm).room.locals ≤ R.locals := hlocals
  have happ : (headSpec ws rm).appliesLoose y e.platform (U.calling g mk a) = true :=
    Spec.appliesLoose_calling (g := g) h hdg hn hkY hinitY
      (X.room_calling (g := g) (R' := (headSpec ws rm).room) hsize hmY hcY hframes (by rw [hlY]; omega) h4 h5) h1
  obtain ⟨mid, hmid⟩ := h.above
  have hfr : (U.setTop g).frames = (.java g :: mid) ++ below := by rw [State.frames_setTop' g h.top, hmid]; rfl
  obtain ⟨o, s₂, hsteps, -, hend, hq⟩ := Steps.callFree hM p X.admits X.cas X.clock (acts := []) hfr happ hPc trivial
  have hq' : vx_Q Qc XC mc ms free a (U.calling g mk a) o s₂ := hq
  rw [State.frames_setTop' g h.top] at hend
  obtain ⟨g₀, hg0⟩ := Option.isSome_iff_exists.mp h.top
  obtain ⟨r, hr⟩ := State.topJava?_eq_some.mp hg0
  have hr' : (({ U with heap := s₂.heap, slotsUsed := s₂.slotsUsed } : State).setVm s₂.vm).frames = .java g₀ :: r := hr
  rcases hq' with ⟨hqc, L, hfe, hL⟩ | ⟨q, rfl, E, ce, L, hx, hce, hcv, hcl, hW₂, hsm, hL⟩
  · obtain ⟨⟨v, rfl⟩, hW₂, e2, q2, q3, q4, q5, q6⟩ := id hfe
    have e3 : s₂ = ({ (U.calling g mk a).setFrames s₂.frames with heap := s₂.heap, slotsUsed := s₂.slotsUsed } : State).setVm s₂.vm := by
      have : s₂ = ({ s₂ with vm := (U.calling g mk a).vm } : State).setVm s₂.vm := rfl
      rw [e2] at this
      exact this
    obtain ⟨c₂, i₂, len₂, hc₂, hd₂, hf₂⟩ := hend
    have hW' : U.WarmedH s₂.vm := hW₂
    have hcc : c₂ = c := by
      have h1 : s₂.code? g.method = U.code? g.method := by
        rw [State.code?_eq, State.code?_eq, hW'.alike.method?]
      exact Option.some.inj (hc₂.symm.trans (h1.trans h.code))
    subst hcc
    have hlen : len₂ = len := by rw [hdg] at hd₂; cases hd₂; rfl
    subst hlen
    have hs₂ : s₂ = (({ U with heap := s₂.heap, slotsUsed := s₂.slotsUsed } : State).setVm s₂.vm).setTop { g with pc := g.pc + len₂, stack := v.toList ++ g.stack } := by
      refine e3.trans ?_
      rw [hf₂, State.calling_eq h.top, State.setFrames_setFrames, State.setTop_of_frames _ hr', hr]
      rfl
    have hsame : U.sameButNew ({ U with heap := s₂.heap, slotsUsed := s₂.slotsUsed } : State) L mc ms := by
      refine ⟨?_, q2, q3, q4, q5, q6⟩
      obtain ⟨t, ht, -⟩ := State.frames_cons hr
      show ({ U with heap := s₂.heap, slotsUsed := s₂.slotsUsed } : State) = { U.setFrames U.frames with heap := s₂.heap, slotsUsed := s₂.slotsUsed }
      rw [State.setFrames_self ht]
    subst hg
    refine Or.inl ⟨v, ⟨(({ U with heap := s₂.heap, slotsUsed := s₂.slotsUsed } : State).setVm s₂.vm), Ls ++ L, c0 + mc, s0 + ms⟩,
      ⟨X.admits, X.cas, X.clock, X.frames, X.room, X.hears, X.method, X.code, (X.here.setHeapUsed s₂.heap s₂.slotsUsed).setVm hW'.alike, X.tail, State.WarmedH.trans X.warmed hW', X.limits, X.bytes, X.same.trans (hsame.setVm s.vm)⟩,
      ⟨g, mk, s₂, L, rfl, rfl, hqc, rfl, hL, rfl, rfl⟩, ?_⟩
    show Steps p.tables e below _ ((({ U with heap := s₂.heap, slotsUsed := s₂.slotsUsed } : State).setVm s₂.vm).setTop { g with pc := g.pc + len₂, stack := v.toList ++ g.stack })
    rw [← hs₂]
    exact hsteps
  · obtain ⟨e2, q2, q3, q4, q5, q6⟩ := id hsm
    have e3 : s₂ = ({ (U.calling g mk a).setFrames s₂.frames with heap := s₂.heap, slotsUsed := s₂.slotsUsed } : State).setVm s₂.vm := by
      have : s₂ = ({ s₂ with vm := (U.calling g mk a).vm } : State).setVm s₂.vm := rfl
      rw [e2] at this
      exact this
    have hf₂ : s₂.frames = .throwing q :: .java g :: U.frames.tail := hend
    have hW' : U.WarmedH s₂.vm := hW₂
    have hs₂ : s₂ = ((({ U with heap := s₂.heap, slotsUsed := s₂.slotsUsed } : State).setVm s₂.vm).setTop g).pushFrame (.throwing q) := by
      refine e3.trans ?_
      rw [hf₂, State.calling_eq h.top, State.setFrames_setFrames, State.pushFrame, State.frames_setTop _ hr', State.setTop_of_frames _ hr', State.setFrames_setFrames, hr]
      rfl
    have hsame : U.sameButNew ({ U with heap := s₂.heap, slotsUsed := s₂.slotsUsed } : State) L mc ms := by
      refine ⟨?_, q2, q3, q4, q5, q6⟩
      obtain ⟨t, ht, -⟩ := State.frames_cons hr
      show ({ U with heap := s₂.heap, slotsUsed := s₂.slotsUsed } : State) = { U.setFrames U.frames with heap := s₂.heap, slotsUsed := s₂.slotsUsed }
      rw [State.setFrames_self ht]
    subst hg
    refine Or.inr ⟨q, ⟨(({ U with heap := s₂.heap, slotsUsed := s₂.slotsUsed } : State).setVm s₂.vm), Ls ++ L, c0 + mc, s0 + ms⟩,
      ⟨X.admits, X.cas, X.clock, X.frames, X.room, X.hears, X.method, X.code, (X.here.setHeapUsed s₂.heap s₂.slotsUsed).setVm hW'.alike, X.tail, State.WarmedH.trans X.warmed hW', X.limits, X.bytes, X.same.trans (hsame.setVm s.vm)⟩,
      ⟨g, mk, s₂, L, E, ce, rfl, rfl, hx, hce, hcv, hcl, rfl, hL, rfl, rfl⟩, ?_⟩
    show Steps p.tables e below _ (((({ U with heap := s₂.heap, slotsUsed := s₂.slotsUsed } : State).setVm s₂.vm).setTop g).pushFrame (.throwing q))
    rw [← hs₂]
    exact hsteps
end
variable {p : Program} {l : Launch} {e : Env} {R : Room} {s : State} {m : MethodId} {args : Array Value} {below : List Frame} {meth : Method} {c : Code} {T : State} {H : Heap} {locs : List Loc} {cells slots : Nat}
theorem vx_callVX (X : Stand p l e R s m args below meth c T locs cells slots) (hexec : p.tables.exec = Jvm.exec) {own C : String} {index : Nat} {y : MethodName} {bytes : ByteArray} {maxL : Nat} {ret : Option FieldType} {hh : List (Nat × Nat × Nat × Nat)}
    (hown : s.vm.findClass own = some m.cls) (hlink : (Cond.methodLink own index y).before args s = true) (hinst : (Cond.instanceMethod y).before args s = true) (hsel : (Cond.selects C y y).before args s = true)
    (hcode : (Cond.codeWith y bytes maxL ret hh).before args s = true) (hy : y.cls ≠ "java/lang/invoke/MethodHandle" ∧ y.cls ≠ "java/lang/invoke/VarHandle")
    {W9 : Nat} {Pre : Pt → Array Value → Prop} {Post : Pt → Array Value → Option Value → Pt → Prop} {PostX : Pt → Array Value → Addr → Pt → Prop} (hK : vx_Back l R p e below s args y 3 W9 Pre Post PostX)
    {b : Addr} {cellB : Cell} (hcell : T.heap[b]? = some cellB) (hobj : cellB.vm.isStatics = false) (hcls : s.vm.findClass C = some cellB.cls)
    {g : JFrame} (hg : g.method = m) (hsize : g.locals.size = c.maxLocals) {argsL rest : List Value} (hlen : ∀ sig, parseMethodDescriptor y.desc = some sig → argsL.length = sig.parameters.length)
    (hstack : g.stack = argsL.reverse ++ .ref b :: rest) (hW : 2 * g.monitorRoom + (rest.map fun v => v.category).sum ≤ W9) (hdg : decode c.code g.pc = .ok (.invokevirtual index, 3))
    (hpre : ∀ vm₁, s.WarmedH vm₁ → Pre ⟨T.setVm vm₁, locs, cells, slots⟩ (Value.ref b :: argsL).toArray) :
    (∃ (v : Option Value) (vm₁ : Vm) (B : Pt), s.WarmedH vm₁ ∧ Stand p l e R s m args below meth c B.U B.locs B.cells B.slots ∧ Post ⟨T.setVm vm₁, locs, cells, slots⟩ (Value.ref b :: argsL).toArray v B ∧
      ∀ target, Steps p.tables e below (B.U.setTop { g with pc := g.pc + 3, stack := v.toList ++ rest }) target → Steps p.tables e below (T.setTop g) target) ∨
    (∃ (q : Addr) (vm₁ : Vm) (B : Pt), s.WarmedH vm₁ ∧ Stand p l e R s m args below meth c B.U B.locs B.cells B.slots ∧ PostX ⟨T.setVm vm₁, locs, cells, slots⟩ (Value.ref b :: argsL).toArray q B ∧
      Steps p.tables e below (T.setTop g) ((B.U.setTop { g with stack := rest }).pushFrame (.throwing q))) := by
  obtain ⟨mk, methM, hnamed, hmethM, hstM, habM⟩ := Cond.instanceMethod_spec hinst
  obtain ⟨m8, methM', cM, hn8, hmethM', -, -, -, -, -, -, hsigM⟩ := Cond.codeWith_spec hcode
  cases Option.some.inj (hn8.symm.trans hnamed)
  cases hmethM.symm.trans hmethM'
  obtain ⟨c2, r2, m2, q1, q2, q3, q4, kP, hkP, hkPi⟩ := Cond.selects_spec hsel
  cases hcls.symm.trans q1
  cases (State.methodFound?_of_named hnamed hy).symm.trans q2
  cases hnamed.symm.trans q3
  have hselP : selectMethod e.platform s.vm cellB.cls mk = .method mk := by rw [Launch.admits_selectMethod X.admits]; exact q4
  obtain ⟨vm₁, X₁, hstep₁⟩ := X.invokevirtual hexec hown hlink hnamed hmethM hstM hkP hkPi hy (a := b) (cell := cellB) hcell
    (fun z h => by rw [h] at hobj; cases hobj) hselP hmethM habM hkP hkPi (g := g) hg (argsL := argsL) (rest := rest) (hlen _ hsigM) hstack hdg
  rcases hK m meth c ⟨T.setVm vm₁, locs, cells, slots⟩ { g with stack := rest } (.invokevirtual index) mk (Value.ref b :: argsL).toArray X₁ hg hsize hdg hW (X₁.named hnamed) (hpre vm₁ X₁.warmed) with ⟨v, B, X', hpost, hsteps⟩ | ⟨q, B, X', hpost, hsteps⟩
  · exact Or.inl ⟨v, vm₁, B, X₁.warmed, X', hpost, fun target h => hstep₁ _ fun acts => by rw [doInvoke_state]; exact hsteps.trans h⟩
  · exact Or.inr ⟨q, vm₁, B, X₁.warmed, X', hpost, hstep₁ _ fun acts => by rw [doInvoke_state]; exact hsteps⟩
theorem vx_callSX (X : Stand p l e R s m args below meth c T locs cells slots) (hexec : p.tables.exec = Jvm.exec) {own : String} {index : Nat} {y : MethodName} {bytes : ByteArray} {maxL : Nat} {ret : Option FieldType} {hh : List (Nat × Nat × Nat × Nat)}
    (hown : s.vm.findClass own = some m.cls) (hlink : (Cond.methodLink own index y).before args s = true) (hstat : (Cond.static y).before args s = true) (hinit : (Cond.initialized y.cls).before args s = true)
    (hcode : (Cond.codeWith y bytes maxL ret hh).before args s = true) (hy : y.cls ≠ "java/lang/invoke/MethodHandle" ∧ y.cls ≠ "java/lang/invoke/VarHandle")
    {W9 : Nat} {Pre : Pt → Array Value → Prop} {Post : Pt → Array Value → Option Value → Pt → Prop} {PostX : Pt → Array Value → Addr → Pt → Prop} (hK : vx_Back l R p e below s args y 3 W9 Pre Post PostX)
    {g : JFrame} (hg : g.method = m) (hsize : g.locals.size = c.maxLocals) {argsL rest : List Value} (hlen : ∀ sig, parseMethodDescriptor y.desc = some sig → argsL.length = sig.parameters.length)
    (hstack : g.stack = argsL.reverse ++ rest) (hW : 2 * g.monitorRoom + (rest.map fun v => v.category).sum ≤ W9) (hdg : decode c.code g.pc = .ok (.invokestatic index, 3))
    (hpre : ∀ vm₁, s.WarmedH vm₁ → Pre ⟨T.setVm vm₁, locs, cells, slots⟩ argsL.toArray) :
    (∃ (v : Option Value) (vm₁ : Vm) (B : Pt), s.WarmedH vm₁ ∧ Stand p l e R s m args below meth c B.U B.locs B.cells B.slots ∧ Post ⟨T.setVm vm₁, locs, cells, slots⟩ argsL.toArray v B ∧
      ∀ target, Steps p.tables e below (B.U.setTop { g with pc := g.pc + 3, stack := v.toList ++ rest }) target → Steps p.tables e below (T.setTop g) target) ∨
    (∃ (q : Addr) (vm₁ : Vm) (B : Pt), s.WarmedH vm₁ ∧ Stand p l e R s m args below meth c B.U B.locs B.cells B.slots ∧ PostX ⟨T.setVm vm₁, locs, cells, slots⟩ argsL.toArray q B ∧
      Steps p.tables e below (T.setTop g) ((B.U.setTop { g with stack := rest }).pushFrame (.throwing q))) := by
  obtain ⟨mk, methM, cM, hnamed, hmethM, -, -, -, -, -, -, hsigM⟩ := Cond.codeWith_spec hcode
  have hstatic : methM.isStatic = true := Cond.static_spec hnamed hmethM hstat
  obtain ⟨kP, hkP, -⟩ := className_of_methodNamed hnamed
  have hinitP : kP.init = .initialized := Cond.initialized_spec (findClass_of_methodNamed hnamed) hkP hinit
  obtain ⟨vm₁, X₁, hstep₁⟩ := X.invokestatic hexec hown hlink hnamed hmethM hstatic hkP hinitP hy (g := g) hg (argsL := argsL) (rest := rest) (hlen _ hsigM) hstack hdg
  rcases hK m meth c ⟨T.setVm vm₁, locs, cells, slots⟩ { g with stack := rest } (.invokestatic index) mk argsL.toArray X₁ hg hsize hdg hW (X₁.named hnamed) (hpre vm₁ X₁.warmed) with ⟨v, B, X', hpost, hsteps⟩ | ⟨q, B, X', hpost, hsteps⟩
  · exact Or.inl ⟨v, vm₁, B, X₁.warmed, X', hpost, fun target h => hstep₁ _ fun acts => by rw [doInvoke_state]; exact hsteps.trans h⟩
  · exact Or.inr ⟨q, vm₁, B, X₁.warmed, X', hpost, hstep₁ _ fun acts => by rw [doInvoke_state]; exact hsteps⟩
theorem vx_callVW (X : Stand p l e R s m args below meth c T locs cells slots) (hexec : p.tables.exec = Jvm.exec) {own C : String} {index : Nat} {y : MethodName} {bytes : ByteArray} {maxL : Nat} {ret : Option FieldType} {hh : List (Nat × Nat × Nat × Nat)}
    (hown : s.vm.findClass own = some m.cls) (hlink : (Cond.methodLink own index y).before args s = true) (hinst : (Cond.instanceMethod y).before args s = true) (hsel : (Cond.selects C y y).before args s = true)
    (hcode : (Cond.codeWith y bytes maxL ret hh).before args s = true) (hy : y.cls ≠ "java/lang/invoke/MethodHandle" ∧ y.cls ≠ "java/lang/invoke/VarHandle")
    {W9 : Nat} {Pre : Pt → Array Value → Prop} {Post : Pt → Array Value → Option Value → Pt → Prop} (hK : Back l R p e below s args y 3 W9 Pre Post)
    {b : Addr} {cellB : Cell} (hcell : T.heap[b]? = some cellB) (hobj : cellB.vm.isStatics = false) (hcls : s.vm.findClass C = some cellB.cls)
    {g : JFrame} (hg : g.method = m) (hsize : g.locals.size = c.maxLocals) {argsL rest : List Value} (hlen : ∀ sig, parseMethodDescriptor y.desc = some sig → argsL.length = sig.parameters.length)
    (hstack : g.stack = argsL.reverse ++ .ref b :: rest) (hW : 2 * g.monitorRoom + (rest.map fun v => v.category).sum ≤ W9) (hdg : decode c.code g.pc = .ok (.invokevirtual index, 3))
    (hpre : ∀ vm₁, s.WarmedH vm₁ → Pre ⟨T.setVm vm₁, locs, cells, slots⟩ (Value.ref b :: argsL).toArray) :
    ∃ (v : Option Value) (vm₁ : Vm) (B : Pt), s.WarmedH vm₁ ∧ Stand p l e R s m args below meth c B.U B.locs B.cells B.slots ∧ Post ⟨T.setVm vm₁, locs, cells, slots⟩ (Value.ref b :: argsL).toArray v B ∧
      ∀ target, Steps p.tables e below (B.U.setTop { g with pc := g.pc + 3, stack := v.toList ++ rest }) target → Steps p.tables e below (T.setTop g) target := by
  obtain ⟨mk, methM, hnamed, hmethM, hstM, habM⟩ := Cond.instanceMethod_spec hinst
  obtain ⟨m8, methM', cM, hn8, hmethM', -, -, -, -, -, -, hsigM⟩ := Cond.codeWith_spec hcode
  cases Option.some.inj (hn8.symm.trans hnamed)
  cases hmethM.symm.trans hmethM'
  obtain ⟨c2, r2, m2, q1, q2, q3, q4, kP, hkP, hkPi⟩ := Cond.selects_spec hsel
  cases hcls.symm.trans q1
  cases (State.methodFound?_of_named hnamed hy).symm.trans q2
  cases hnamed.symm.trans q3
  have hselP : selectMethod e.platform s.vm cellB.cls mk = .method mk := by rw [Launch.admits_selectMethod X.admits]; exact q4
  obtain ⟨vm₁, X₁, hstep₁⟩ := X.invokevirtual hexec hown hlink hnamed hmethM hstM hkP hkPi hy (a := b) (cell := cellB) hcell
    (fun z h => by rw [h] at hobj; cases hobj) hselP hmethM habM hkP hkPi (g := g) hg (argsL := argsL) (rest := rest) (hlen _ hsigM) hstack hdg
  obtain ⟨v, B, X', hpost, hsteps⟩ := hK m meth c ⟨T.setVm vm₁, locs, cells, slots⟩ { g with stack := rest } (.invokevirtual index) mk (Value.ref b :: argsL).toArray X₁ hg hsize hdg hW (X₁.named hnamed) (hpre vm₁ X₁.warmed)
  exact ⟨v, vm₁, B, X₁.warmed, X', hpost, fun target h => hstep₁ _ fun acts => by rw [doInvoke_state]; exact hsteps.trans h⟩
abbrev vx_CVW (R : Room) (s : State) (args : Array Value) (own C : String) (index : Nat) (y : MethodName) (bytes : ByteArray) (maxL : Nat) (ret : Option FieldType) (hh : List (Nat × Nat × Nat × Nat)) (ws : List Cond) (rm : Room) (mc ms n : Nat) : Prop :=
  (rm.cells = mc ∧ rm.slots = ms ∧ rm.frames + 1 ≤ R.frames ∧ 8 + (maxL + 11) + rm.locals ≤ R.locals ∧ (∀ w ∈ ws, ∀ (a' : Array Value) (U : State), s.WarmedH U.vm → w.before a' U = true) ∧ Cond.codeWith y bytes maxL ret hh ∈ ws) ∧
  (Cond.codeWith y bytes maxL ret hh).before args s = true ∧ (Cond.initialized y.cls).before args s = true ∧ (y.cls ≠ "java/lang/invoke/MethodHandle" ∧ y.cls ≠ "java/lang/invoke/VarHandle") ∧
  (∀ sig, parseMethodDescriptor y.desc = some sig → n = sig.parameters.length) ∧ (Cond.methodLink own index y).before args s = true ∧ (Cond.instanceMethod y).before args s = true ∧ (Cond.selects C y y).before args s = true
theorem vx_cwVW {own C : String} {index maxL mc ms : Nat} {y : MethodName} {bytes : ByteArray} {ret : Option FieldType} {hh : List (Nat × Nat × Nat × Nat)} {Ts ws ws' : List Cond} {rm : Room} (n : Nat) (ht : ∀ w ∈ Ts, w.before args s = true) (hT : GoodIn Ts (wsV own index C y ws)) (hw : ws = Cond.codeWith y bytes maxL ret hh :: ws') (hrc : rm.cells = mc) (hrs : rm.slots = ms)
    (hd : y.cls = C ∧ y.cls ≠ "java/lang/invoke/MethodHandle" ∧ y.cls ≠ "java/lang/invoke/VarHandle" ∧ (parseMethodDescriptor y.desc).map (fun d => d.parameters.length) = some n) (hR : rm.frames + 1 ≤ R.frames ∧ 8 + (maxL + 11) + rm.locals ≤ R.locals) :
    vx_CVW R s args own C index y bytes maxL ret hh ws rm mc ms n := by
  obtain ⟨hC, hd⟩ := hd
  subst hC
  have ok : ∀ w ∈ wsV own index y.cls y ws, w.before args s = true := fun w h => ht w (hT w h).1
  have hG : GoodIn Ts ws := fun w h => hT w (by unfold wsV; exact List.mem_append_right _ h)
  have hc : Cond.codeWith y bytes maxL ret hh ∈ ws := by rw [hw]; exact List.mem_cons_self
  refine ⟨⟨hrc, hrs, hR.1, hR.2, pay_in ht hG, hc⟩, ht _ (hG _ hc).1, ok _ (by simp [wsV]), ⟨hd.1, hd.2.1⟩, fun sig h => ?_, ok _ (by simp [wsV]), ok _ (by simp [wsV]), ok _ (by simp [wsV])⟩
  have h2 := hd.2.2
  rw [h] at h2
  exact (Option.some.inj h2).symm
theorem vx_runVW {y : MethodName} {bytes cc : ByteArray} {maxL nL mc ms n index : Nat} {ret : Option FieldType} {hh : List (Nat × Nat × Nat × Nat)} {ws : List Cond} {rm : Room} {Pc : Array Value → State → Prop} {Qc : Array Value → State → Outcome → State → Prop} {free : Addr → Prop} {Ts : List Cond} {own C : String} {b : Addr} {As rest : List Value} {g : JFrame}
    (S : CallFix p m c cc nL s args Ts own) (hM : Met l y ws rm Pc Qc mc ms free) (cw : vx_CVW R s args own C index y bytes maxL ret hh ws rm mc ms n) (hp : PreV s H C b Pc As)
    (hg : g.method = m) (hn : As.length = n) (hsize : g.locals.size = nL) (hstack : g.stack = As.reverse ++ .ref b :: rest) (hW : 2 * g.monitorRoom + (rest.map fun v => v.category).sum ≤ 8) (hdg : decode cc g.pc = .ok (.invokevirtual index, 3)) (hf : cells + mc ≤ R.cells ∧ slots + ms ≤ R.slots) :
    va_Run p l e R s m args below meth c H locs cells slots mc ms g rest (Qc (Value.ref b :: As).toArray) free := by
  obtain ⟨⟨hrc, hrs, hfr, hlo, hws, hcw⟩, hcode, hini, hy, hlen, hl, hin, hse⟩ := cw
  have hK : Back l R p e below s args y 3 8 (PreOf R mc ms Pc) (PostOf Qc mc ms free) := va_backW (hh := hh) (bytes := bytes) (maxL := maxL) (ret := ret) hM hp.1 hrc hrs hfr hlo hws hcw (fun a' U hW => word_at hW (Or.inl (by first | rfl | simp [Cond.onTables, Cond.keeps, Cond.steady])) hini)
  obtain ⟨hx, hb, hml, ho, -⟩ := S
  obtain ⟨-, ⟨cellB, hcB, hoB, hclB⟩, hPc⟩ := hp
  intro T hT X
  obtain ⟨v, vm₁, ⟨U', l2, c2, s2⟩, hW₁, X', ⟨g', mk, t, L, e1, e2, hq, h1, hL, h2, h3⟩, st⟩ := vx_callVW X hx (C := C) (hh := hh) (bytes := bytes) (maxL := maxL) (ret := ret) ho hl hin hse hcode hy hK (by rw [hT]; exact hcB) hoB hclB hg (hsize.trans hml.symm) (argsL := As) (rest := rest) (fun sig h => hn.trans (hlen sig h)) hstack hW (by rw [hb]; exact hdg)
    (fun vm₁ hW₁ => ⟨hf.1, hf.2, hPc (T.setVm vm₁) hT hW₁⟩)
  dsimp only [Pt.U, Pt.locs, Pt.cells, Pt.slots] at X' e1 e2 h1 h2 h3 st
  subst h1; subst h2; subst h3
  exact ⟨v, (T.setVm vm₁).calling g' mk (Value.ref b :: As).toArray, t, U', L, hT, X', hL, e1, e2, hq, st⟩
section
variable {y : MethodName} {bytes cc : ByteArray} {maxL nL mc ms n index : Nat} {ret : Option FieldType} {ws : List Cond} {rm : Room} {Pc : Array Value → State → Prop} {Qc : Array Value → State → Outcome → State → Prop} {XC : String → State → State → Prop} {free : Addr → Prop} {Ts : List Cond} {own C : String} {b : Addr} {As rest : List Value} {g : JFrame}
theorem vx_runVX {hh : List (Nat × Nat × Nat × Nat)} (S : CallFix p m c cc nL s args Ts own) (hM : vx_Met l y ws rm Pc Qc XC mc ms free) (cw : vx_CVW R s args own C index y bytes maxL ret hh ws rm mc ms n) (hp : PreV s H C b Pc As)
    (hg : g.method = m) (hn : As.length = n) (hsize : g.locals.size = nL) (hstack : g.stack = As.reverse ++ .ref b :: rest) (hW : 2 * g.monitorRoom + (rest.map fun v => v.category).sum ≤ 8) (hdg : decode cc g.pc = .ok (.invokevirtual index, 3)) (hf : cells + mc ≤ R.cells ∧ slots + ms ≤ R.slots) :
    vx_Run p l e R s m args below meth c H locs cells slots mc ms g rest (Qc (Value.ref b :: As).toArray) XC free := by
  obtain ⟨⟨hrc, hrs, hfr, hlo, hws, hcw⟩, hcode, hini, hy, hlen, hl, hin, hse⟩ := cw
  have hK : vx_Back l R p e below s args y 3 8 (PreOf R mc ms Pc) (PostOf Qc mc ms free) (vx_Post XC mc ms free) := vx_backW (hh := hh) (bytes := bytes) (maxL := maxL) (ret := ret) hM hp.1 hrc hrs hfr hlo hws hcw (fun a' U hW => word_at hW (Or.inl (by first | rfl | simp [Cond.onTables, Cond.keeps, Cond.steady])) hini)
  obtain ⟨hx, hb, hml, ho, -⟩ := S
  obtain ⟨-, ⟨cellB, hcB, hoB, hclB⟩, hPc⟩ := hp
  intro T hT X
  rcases vx_callVX X hx (C := C) (hh := hh) (bytes := bytes) (maxL := maxL) (ret := ret) ho hl hin hse hcode hy hK (by rw [hT]; exact hcB) hoB hclB hg (hsize.trans hml.symm) (argsL := As) (rest := rest) (fun sig h => hn.trans (hlen sig h)) hstack hW (by rw [hb]; exact hdg)
    (fun vm₁ hW₁ => ⟨hf.1, hf.2, hPc (T.setVm vm₁) hT hW₁⟩) with ⟨v, vm₁, ⟨U', l2, c2, s2⟩, hW₁, X', ⟨g', mk, t, L, e1, e2, hq, h1, hL, h2, h3⟩, st⟩ | ⟨q, vm₁, ⟨U', l2, c2, s2⟩, hW₁, X', ⟨g', mk, t, L, E, ce, e1, e2, hq, hce, hcv, hcl, h1, hL, h2, h3⟩, st⟩
  · dsimp only [Pt.U, Pt.locs, Pt.cells, Pt.slots] at X' e1 e2 h1 h2 h3 st
    subst h1; subst h2; subst h3
    exact Or.inl ⟨v, (T.setVm vm₁).calling g' mk (Value.ref b :: As).toArray, t, U', L, hT, X', hL, e1, e2, hq, st⟩
  · dsimp only [Pt.U, Pt.locs, Pt.cells, Pt.slots] at X' e1 e2 h1 h2 h3 st hcl
    subst h1; subst h2; subst h3
    exact Or.inr ⟨q, (T.setVm vm₁).calling g' mk (Value.ref b :: As).toArray, t, U', L, E, ce, hT, X', hL, e1, e2, hq, hce, hcv, vx_cls hW₁ hcl, st⟩
theorem vx_runSX {hh : List (Nat × Nat × Nat × Nat)} (S : CallFix p m c cc nL s args Ts own) (hM : vx_Met l y ws rm Pc Qc XC mc ms free) (cw : vx_CSW R s args own index y bytes maxL ret hh ws rm mc ms n) (hp : PreS s H Pc As)
    (hg : g.method = m) (hn : As.length = n) (hsize : g.locals.size = nL) (hstack : g.stack = As.reverse ++ rest) (hW : 2 * g.monitorRoom + (rest.map fun v => v.category).sum ≤ 8) (hdg : decode cc g.pc = .ok (.invokestatic index, 3)) (hf : cells + mc ≤ R.cells ∧ slots + ms ≤ R.slots) :
    vx_Run p l e R s m args below meth c H locs cells slots mc ms g rest (Qc As.toArray) XC free := by
  obtain ⟨⟨hrc, hrs, hfr, hlo, hws, hcw⟩, hcode, hini, hy, hlen, hl, hstt⟩ := cw
  have hK : vx_Back l R p e below s args y 3 8 (PreOf R mc ms Pc) (PostOf Qc mc ms free) (vx_Post XC mc ms free) := vx_backW (hh := hh) (bytes := bytes) (maxL := maxL) (ret := ret) hM hp.1 hrc hrs hfr hlo hws hcw (fun a' U hW => word_at hW (Or.inl (by first | rfl | simp [Cond.onTables, Cond.keeps, Cond.steady])) hini)
  obtain ⟨hx, hb, hml, ho, -⟩ := S
  intro T hT X
  rcases vx_callSX X hx (hh := hh) (bytes := bytes) (maxL := maxL) (ret := ret) ho hl hstt hini hcode hy hK hg (hsize.trans hml.symm) (argsL := As) (rest := rest) (fun sig h => hn.trans (hlen sig h)) hstack hW (by rw [hb]; exact hdg)
    (fun vm₁ hW₁ => ⟨hf.1, hf.2, hp.2 (T.setVm vm₁) hT hW₁⟩) with ⟨v, vm₁, ⟨U', l2, c2, s2⟩, hW₁, X', ⟨g', mk, t, L, e1, e2, hq, h1, hL, h2, h3⟩, st⟩ | ⟨q, vm₁, ⟨U', l2, c2, s2⟩, hW₁, X', ⟨g', mk, t, L, E, ce, e1, e2, hq, hce, hcv, hcl, h1, hL, h2, h3⟩, st⟩
  · dsimp only [Pt.U, Pt.locs, Pt.cells, Pt.slots] at X' e1 e2 h1 h2 h3 st
    subst h1; subst h2; subst h3
    exact Or.inl ⟨v, (T.setVm vm₁).calling g' mk As.toArray, t, U', L, hT, X', hL, e1, e2, hq, st⟩
  · dsimp only [Pt.U, Pt.locs, Pt.cells, Pt.slots] at X' e1 e2 h1 h2 h3 st hcl
    subst h1; subst h2; subst h3
    exact Or.inr ⟨q, (T.setVm vm₁).calling g' mk As.toArray, t, U', L, E, ce, hT, X', hL, e1, e2, hq, hce, hcv, vx_cls hW₁ hcl, st⟩
end
end VXH
theorem vx_ofWH {l : Launch} {y : MethodName} {ws ws' : List Cond} {rm : Room} {Pc : Array Value → State → Prop} {Qc : Array Value → State → Outcome → State → Prop} {XC : String → State → State → Prop} {mc ms : Nat} {free : Addr → Prop} {cc : ByteArray} {maxL : Nat} {ret : Option FieldType} {hh : List (Nat × Nat × Nat × Nat)}
    (hy : plainName y.cls = true) (hw : ws = Cond.codeWith y cc maxL ret hh :: ws')
    (body : ∀ p e s m args below meth c s₁, BodyLoose p l y (headSpec ws rm) cc maxL ret e s m args below meth c s₁ → c.maxLocals = maxL → Pc args s →
      W p l e (headSpec ws rm).room s m args below meth c s.heap [] 0 0 (vx_MQ below Qc XC args s mc ms free) (entryFrame m args maxL)) : vx_Met l y ws rm Pc Qc XC mc ms free := by
  refine MetFree.of_bodyS (code := cc) (maxLocals := maxL) (ret := ret) hy ?_ ?_
  · intro args s m h hn
    obtain ⟨m9, meth, c, hn9, h1, h2, h3, h4, -, h5, h6, -⟩ := Cond.codeWith_spec (atoms_spec (ws := ws) h _ (by rw [hw]; exact List.mem_cons_self))
    cases hn.symm.trans hn9
    exact ⟨meth, c, h1, h2, h3, h4, h5, h6⟩
  · intro p e s m args below meth c s₁ B hml hP _
    have hh0 : s₁.heap = s.heap := by rw [B.state]; rfl
    obtain ⟨t, a1, o, b1, b2, b3⟩ := body p e s m args below meth c s₁ B hml hP s₁ hh0 (Stand.of_body B)
    exact ⟨t, o, a1, b1, b2, b3⟩
/-! ===== END ===== -/
end
section
-- ===== PART A: goes FIRST, ahead of the names: the tables' words, and 'selects' of the private methods out of them =====
/-- a private method of a class that the tables say can be made, by its rows of tables_1 -/
def lw_okq (q : MethodName × Nat) : Prop := (q.1.cls ≠ "java/lang/invoke/MethodHandle" ∧ q.1.cls ≠ "java/lang/invoke/VarHandle") ∧ Cond.instantiable q.1.cls q.2 ∈ tables_1 ∧ Cond.privateMethod q.1 ∈ tables_1 ∧ Cond.instanceMethod q.1 ∈ tables_1
theorem lw_p0 : lw_okq (⟨"CanteenPlan$Menu", "deal", "()I"⟩, 4) := ⟨⟨by decide +kernel, by decide +kernel⟩, List.mem_of_getElem? (i := 26) (by decide +kernel), List.mem_of_getElem? (i := 198) (by decide +kernel), List.mem_of_getElem? (i := 199) (by decide +kernel)⟩
theorem lw_p1 : lw_okq (⟨"CanteenPlan$Menu", "canMeet", "(II)Z"⟩, 4) := ⟨⟨by decide +kernel, by decide +kernel⟩, List.mem_of_getElem? (i := 26) (by decide +kernel), List.mem_of_getElem? (i := 202) (by decide +kernel), List.mem_of_getElem? (i := 203) (by decide +kernel)⟩
theorem lw_p2 : lw_okq (⟨"CanteenPlan$Menu", "dealFrom", "(III)Z"⟩, 4) := ⟨⟨by decide +kernel, by decide +kernel⟩, List.mem_of_getElem? (i := 26) (by decide +kernel), List.mem_of_getElem? (i := 206) (by decide +kernel), List.mem_of_getElem? (i := 207) (by decide +kernel)⟩
theorem lw_p3 : lw_okq (⟨"CanteenPlan$Menu", "canTake", "(II)Z"⟩, 4) := ⟨⟨by decide +kernel, by decide +kernel⟩, List.mem_of_getElem? (i := 26) (by decide +kernel), List.mem_of_getElem? (i := 210) (by decide +kernel), List.mem_of_getElem? (i := 211) (by decide +kernel)⟩
theorem lw_p4 : lw_okq (⟨"CanteenPlan$Hatch", "clear", "()I"⟩, 3) := ⟨⟨by decide +kernel, by decide +kernel⟩, List.mem_of_getElem? (i := 161) (by decide +kernel), List.mem_of_getElem? (i := 221) (by decide +kernel), List.mem_of_getElem? (i := 222) (by decide +kernel)⟩
theorem lw_p5 : lw_okq (⟨"java/lang/Throwable", "fillInStackTrace", "(I)Ljava/lang/Throwable;"⟩, 6) := ⟨⟨by decide +kernel, by decide +kernel⟩, List.mem_of_getElem? (i := 279) (by decide +kernel), List.mem_of_getElem? (i := 277) (by decide +kernel), List.mem_of_getElem? (i := 278) (by decide +kernel)⟩
theorem lw_p6 : lw_okq (⟨"CanteenPlan$Menu", "add", "(II)I"⟩, 4) := ⟨⟨by decide +kernel, by decide +kernel⟩, List.mem_of_getElem? (i := 26) (by decide +kernel), List.mem_of_getElem? (i := 325) (by decide +kernel), List.mem_of_getElem? (i := 326) (by decide +kernel)⟩
theorem lw_p7 : lw_okq (⟨"CanteenPlan", "needMeal", "(I)V"⟩, 5) := ⟨⟨by decide +kernel, by decide +kernel⟩, List.mem_of_getElem? (i := 18) (by decide +kernel), List.mem_of_getElem? (i := 337) (by decide +kernel), List.mem_of_getElem? (i := 338) (by decide +kernel)⟩
theorem lw_p8 : lw_okq (⟨"CanteenPlan$Diary", "tell", "(II)I"⟩, 7) := ⟨⟨by decide +kernel, by decide +kernel⟩, List.mem_of_getElem? (i := 48) (by decide +kernel), List.mem_of_getElem? (i := 357) (by decide +kernel), List.mem_of_getElem? (i := 358) (by decide +kernel)⟩
theorem lw_p9 : lw_okq (⟨"CanteenPlan$Diary", "add", "(I)I"⟩, 7) := ⟨⟨by decide +kernel, by decide +kernel⟩, List.mem_of_getElem? (i := 48) (by decide +kernel), List.mem_of_getElem? (i := 369) (by decide +kernel), List.mem_of_getElem? (i := 370) (by decide +kernel)⟩
theorem lw_p10 : lw_okq (⟨"CanteenPlan$Diary", "takeAway", "(I)Z"⟩, 7) := ⟨⟨by decide +kernel, by decide +kernel⟩, List.mem_of_getElem? (i := 48) (by decide +kernel), List.mem_of_getElem? (i := 381) (by decide +kernel), List.mem_of_getElem? (i := 382) (by decide +kernel)⟩
theorem lw_p11 : lw_okq (⟨"CanteenPlan$Tree", "leavesBelow", "(IIII)I"⟩, 5) := ⟨⟨by decide +kernel, by decide +kernel⟩, List.mem_of_getElem? (i := 82) (by decide +kernel), List.mem_of_getElem? (i := 392) (by decide +kernel), List.mem_of_getElem? (i := 393) (by decide +kernel)⟩
theorem lw_p12 : lw_okq (⟨"CanteenPlan$Tree", "markThatParts", "(III)I"⟩, 5) := ⟨⟨by decide +kernel, by decide +kernel⟩, List.mem_of_getElem? (i := 82) (by decide +kernel), List.mem_of_getElem? (i := 396) (by decide +kernel), List.mem_of_getElem? (i := 397) (by decide +kernel)⟩
theorem lw_p13 : lw_okq (⟨"CanteenPlan$Tree", "readKnot", "(III)V"⟩, 5) := ⟨⟨by decide +kernel, by decide +kernel⟩, List.mem_of_getElem? (i := 82) (by decide +kernel), List.mem_of_getElem? (i := 400) (by decide +kernel), List.mem_of_getElem? (i := 401) (by decide +kernel)⟩
theorem lw_p14 : lw_okq (⟨"CanteenPlan$Diary", "isInKnot", "(III)Z"⟩, 7) := ⟨⟨by decide +kernel, by decide +kernel⟩, List.mem_of_getElem? (i := 48) (by decide +kernel), List.mem_of_getElem? (i := 407) (by decide +kernel), List.mem_of_getElem? (i := 408) (by decide +kernel)⟩
theorem lw_p15 : lw_okq (⟨"CanteenPlan$Diary", "eatenOn", "(II)I"⟩, 7) := ⟨⟨by decide +kernel, by decide +kernel⟩, List.mem_of_getElem? (i := 48) (by decide +kernel), List.mem_of_getElem? (i := 411) (by decide +kernel), List.mem_of_getElem? (i := 412) (by decide +kernel)⟩
def lw_privs_1 : List (MethodName × Nat) := [(⟨"CanteenPlan$Menu", "deal", "()I"⟩, 4), (⟨"CanteenPlan$Menu", "canMeet", "(II)Z"⟩, 4), (⟨"CanteenPlan$Menu", "dealFrom", "(III)Z"⟩, 4), (⟨"CanteenPlan$Menu", "canTake", "(II)Z"⟩, 4), (⟨"CanteenPlan$Hatch", "clear", "()I"⟩, 3), (⟨"java/lang/Throwable", "fillInStackTrace", "(I)Ljava/lang/Throwable;"⟩, 6), (⟨"CanteenPlan$Menu", "add", "(II)I"⟩, 4), (⟨"CanteenPlan", "needMeal", "(I)V"⟩, 5), (⟨"CanteenPlan$Diary", "tell", "(II)I"⟩, 7), (⟨"CanteenPlan$Diary", "add", "(I)I"⟩, 7), (⟨"CanteenPlan$Diary", "takeAway", "(I)Z"⟩, 7), (⟨"CanteenPlan$Tree", "leavesBelow", "(IIII)I"⟩, 5), (⟨"CanteenPlan$Tree", "markThatParts", "(III)I"⟩, 5), (⟨"CanteenPlan$Tree", "readKnot", "(III)V"⟩, 5), (⟨"CanteenPlan$Diary", "isInKnot", "(III)Z"⟩, 7), (⟨"CanteenPlan$Diary", "eatenOn", "(II)I"⟩, 7)]
theorem lw_r1 : ∀ q ∈ lw_privs_1, lw_okq q := List.forall_mem_cons.mpr ⟨lw_p0, List.forall_mem_cons.mpr ⟨lw_p1, List.forall_mem_cons.mpr ⟨lw_p2, List.forall_mem_cons.mpr ⟨lw_p3, List.forall_mem_cons.mpr ⟨lw_p4, List.forall_mem_cons.mpr ⟨lw_p5, List.forall_mem_cons.mpr ⟨lw_p6, List.forall_mem_cons.mpr ⟨lw_p7, List.forall_mem_cons.mpr ⟨lw_p8, List.forall_mem_cons.mpr ⟨lw_p9, List.forall_mem_cons.mpr ⟨lw_p10, List.forall_mem_cons.mpr ⟨lw_p11, List.forall_mem_cons.mpr ⟨lw_p12, List.forall_mem_cons.mpr ⟨lw_p13, List.forall_mem_cons.mpr ⟨lw_p14, List.forall_mem_cons.mpr ⟨lw_p15, fun _ h => absurd h List.not_mem_nil⟩⟩⟩⟩⟩⟩⟩⟩⟩⟩⟩⟩⟩⟩⟩⟩
theorem lw_p16 : lw_okq (⟨"CanteenPlan$Tree", "readDay", "(II)V"⟩, 5) := ⟨⟨by decide +kernel, by decide +kernel⟩, List.mem_of_getElem? (i := 82) (by decide +kernel), List.mem_of_getElem? (i := 415) (by decide +kernel), List.mem_of_getElem? (i := 416) (by decide +kernel)⟩
theorem lw_p17 : lw_okq (⟨"CanteenPlan$Tree", "markOnTheWay", "(III)I"⟩, 5) := ⟨⟨by decide +kernel, by decide +kernel⟩, List.mem_of_getElem? (i := 82) (by decide +kernel), List.mem_of_getElem? (i := 430) (by decide +kernel), List.mem_of_getElem? (i := 431) (by decide +kernel)⟩
theorem lw_p18 : lw_okq (⟨"CanteenPlan$Tree", "askedOnTheWay", "(II)I"⟩, 5) := ⟨⟨by decide +kernel, by decide +kernel⟩, List.mem_of_getElem? (i := 82) (by decide +kernel), List.mem_of_getElem? (i := 441) (by decide +kernel), List.mem_of_getElem? (i := 442) (by decide +kernel)⟩
theorem lw_p19 : lw_okq (⟨"CanteenPlan$Diary", "factOf", "(IIII)I"⟩, 7) := ⟨⟨by decide +kernel, by decide +kernel⟩, List.mem_of_getElem? (i := 48) (by decide +kernel), List.mem_of_getElem? (i := 445) (by decide +kernel), List.mem_of_getElem? (i := 446) (by decide +kernel)⟩
theorem lw_p20 : lw_okq (⟨"CanteenPlan$Diary", "noteFacts", "(I)V"⟩, 7) := ⟨⟨by decide +kernel, by decide +kernel⟩, List.mem_of_getElem? (i := 48) (by decide +kernel), List.mem_of_getElem? (i := 452) (by decide +kernel), List.mem_of_getElem? (i := 453) (by decide +kernel)⟩
theorem lw_p21 : lw_okq (⟨"CanteenPlan$Kitchen", "add", "(II)I"⟩, 15) := ⟨⟨by decide +kernel, by decide +kernel⟩, List.mem_of_getElem? (i := 104) (by decide +kernel), List.mem_of_getElem? (i := 466) (by decide +kernel), List.mem_of_getElem? (i := 467) (by decide +kernel)⟩
theorem lw_p22 : lw_okq (⟨"CanteenPlan", "findBestSet", "(III)Z"⟩, 5) := ⟨⟨by decide +kernel, by decide +kernel⟩, List.mem_of_getElem? (i := 18) (by decide +kernel), List.mem_of_getElem? (i := 484) (by decide +kernel), List.mem_of_getElem? (i := 485) (by decide +kernel)⟩
theorem lw_p23 : lw_okq (⟨"CanteenPlan$Kitchen", "readLeaf", "(LCanteenPlan$Diary;III)V"⟩, 15) := ⟨⟨by decide +kernel, by decide +kernel⟩, List.mem_of_getElem? (i := 104) (by decide +kernel), List.mem_of_getElem? (i := 488) (by decide +kernel), List.mem_of_getElem? (i := 489) (by decide +kernel)⟩
theorem lw_p24 : lw_okq (⟨"CanteenPlan$Kitchen", "findBest", "(I)V"⟩, 15) := ⟨⟨by decide +kernel, by decide +kernel⟩, List.mem_of_getElem? (i := 104) (by decide +kernel), List.mem_of_getElem? (i := 495) (by decide +kernel), List.mem_of_getElem? (i := 496) (by decide +kernel)⟩
theorem lw_p25 : lw_okq (⟨"CanteenPlan$Kitchen", "mostPots", "(II)I"⟩, 15) := ⟨⟨by decide +kernel, by decide +kernel⟩, List.mem_of_getElem? (i := 104) (by decide +kernel), List.mem_of_getElem? (i := 499) (by decide +kernel), List.mem_of_getElem? (i := 500) (by decide +kernel)⟩
theorem lw_p26 : lw_okq (⟨"CanteenPlan$Kitchen", "weighTried", "(I)V"⟩, 15) := ⟨⟨by decide +kernel, by decide +kernel⟩, List.mem_of_getElem? (i := 104) (by decide +kernel), List.mem_of_getElem? (i := 503) (by decide +kernel), List.mem_of_getElem? (i := 504) (by decide +kernel)⟩
theorem lw_p27 : lw_okq (⟨"CanteenPlan$Kitchen", "wasteAndWant", "(I)J"⟩, 15) := ⟨⟨by decide +kernel, by decide +kernel⟩, List.mem_of_getElem? (i := 104) (by decide +kernel), List.mem_of_getElem? (i := 507) (by decide +kernel), List.mem_of_getElem? (i := 508) (by decide +kernel)⟩
theorem lw_p28 : lw_okq (⟨"CanteenPlan$Kitchen", "isBetter", "(JII)Z"⟩, 15) := ⟨⟨by decide +kernel, by decide +kernel⟩, List.mem_of_getElem? (i := 104) (by decide +kernel), List.mem_of_getElem? (i := 512) (by decide +kernel), List.mem_of_getElem? (i := 513) (by decide +kernel)⟩
theorem lw_p29 : lw_okq (⟨"CanteenPlan$Kitchen", "bestPotsOf", "(I)I"⟩, 15) := ⟨⟨by decide +kernel, by decide +kernel⟩, List.mem_of_getElem? (i := 104) (by decide +kernel), List.mem_of_getElem? (i := 527) (by decide +kernel), List.mem_of_getElem? (i := 528) (by decide +kernel)⟩
theorem lw_p30 : lw_okq (⟨"CanteenPlan$Hatch", "add", "(I)I"⟩, 3) := ⟨⟨by decide +kernel, by decide +kernel⟩, List.mem_of_getElem? (i := 161) (by decide +kernel), List.mem_of_getElem? (i := 545) (by decide +kernel), List.mem_of_getElem? (i := 546) (by decide +kernel)⟩
theorem lw_p31 : lw_okq (⟨"CanteenPlan$Hatch", "factOf", "(II)I"⟩, 3) := ⟨⟨by decide +kernel, by decide +kernel⟩, List.mem_of_getElem? (i := 161) (by decide +kernel), List.mem_of_getElem? (i := 556) (by decide +kernel), List.mem_of_getElem? (i := 557) (by decide +kernel)⟩
def lw_privs_2 : List (MethodName × Nat) := [(⟨"CanteenPlan$Tree", "readDay", "(II)V"⟩, 5), (⟨"CanteenPlan$Tree", "markOnTheWay", "(III)I"⟩, 5), (⟨"CanteenPlan$Tree", "askedOnTheWay", "(II)I"⟩, 5), (⟨"CanteenPlan$Diary", "factOf", "(IIII)I"⟩, 7), (⟨"CanteenPlan$Diary", "noteFacts", "(I)V"⟩, 7), (⟨"CanteenPlan$Kitchen", "add", "(II)I"⟩, 15), (⟨"CanteenPlan", "findBestSet", "(III)Z"⟩, 5), (⟨"CanteenPlan$Kitchen", "readLeaf", "(LCanteenPlan$Diary;III)V"⟩, 15), (⟨"CanteenPlan$Kitchen", "findBest", "(I)V"⟩, 15), (⟨"CanteenPlan$Kitchen", "mostPots", "(II)I"⟩, 15), (⟨"CanteenPlan$Kitchen", "weighTried", "(I)V"⟩, 15), (⟨"CanteenPlan$Kitchen", "wasteAndWant", "(I)J"⟩, 15), (⟨"CanteenPlan$Kitchen", "isBetter", "(JII)Z"⟩, 15), (⟨"CanteenPlan$Kitchen", "bestPotsOf", "(I)I"⟩, 15), (⟨"CanteenPlan$Hatch", "add", "(I)I"⟩, 3), (⟨"CanteenPlan$Hatch", "factOf", "(II)I"⟩, 3)]
theorem lw_r2 : ∀ q ∈ lw_privs_2, lw_okq q := List.forall_mem_cons.mpr ⟨lw_p16, List.forall_mem_cons.mpr ⟨lw_p17, List.forall_mem_cons.mpr ⟨lw_p18, List.forall_mem_cons.mpr ⟨lw_p19, List.forall_mem_cons.mpr ⟨lw_p20, List.forall_mem_cons.mpr ⟨lw_p21, List.forall_mem_cons.mpr ⟨lw_p22, List.forall_mem_cons.mpr ⟨lw_p23, List.forall_mem_cons.mpr ⟨lw_p24, List.forall_mem_cons.mpr ⟨lw_p25, List.forall_mem_cons.mpr ⟨lw_p26, List.forall_mem_cons.mpr ⟨lw_p27, List.forall_mem_cons.mpr ⟨lw_p28, List.forall_mem_cons.mpr ⟨lw_p29, List.forall_mem_cons.mpr ⟨lw_p30, List.forall_mem_cons.mpr ⟨lw_p31, fun _ h => absurd h List.not_mem_nil⟩⟩⟩⟩⟩⟩⟩⟩⟩⟩⟩⟩⟩⟩⟩⟩
theorem lw_p32 : lw_okq (⟨"CanteenPlan$Hatch", "noteWaits", "(III)V"⟩, 3) := ⟨⟨by decide +kernel, by decide +kernel⟩, List.mem_of_getElem? (i := 161) (by decide +kernel), List.mem_of_getElem? (i := 561) (by decide +kernel), List.mem_of_getElem? (i := 562) (by decide +kernel)⟩
theorem lw_p33 : lw_okq (⟨"CanteenPlan$Hatch", "leastServed", "(I)I"⟩, 3) := ⟨⟨by decide +kernel, by decide +kernel⟩, List.mem_of_getElem? (i := 161) (by decide +kernel), List.mem_of_getElem? (i := 577) (by decide +kernel), List.mem_of_getElem? (i := 578) (by decide +kernel)⟩
theorem lw_p34 : lw_okq (⟨"CanteenPlanModel", "bad", "(ZI)Z"⟩, 36) := ⟨⟨by decide +kernel, by decide +kernel⟩, List.mem_of_getElem? (i := 582) (by decide +kernel), List.mem_of_getElem? (i := 708) (by decide +kernel), List.mem_of_getElem? (i := 709) (by decide +kernel)⟩
theorem lw_p35 : lw_okq (⟨"CanteenPlanModel", "isMeal", "(I)Z"⟩, 36) := ⟨⟨by decide +kernel, by decide +kernel⟩, List.mem_of_getElem? (i := 582) (by decide +kernel), List.mem_of_getElem? (i := 716) (by decide +kernel), List.mem_of_getElem? (i := 717) (by decide +kernel)⟩
theorem lw_p36 : lw_okq (⟨"CanteenPlanModel", "leavesOf", "(IIII)I"⟩, 36) := ⟨⟨by decide +kernel, by decide +kernel⟩, List.mem_of_getElem? (i := 582) (by decide +kernel), List.mem_of_getElem? (i := 732) (by decide +kernel), List.mem_of_getElem? (i := 733) (by decide +kernel)⟩
theorem lw_p37 : lw_okq (⟨"CanteenPlanModel", "markOf", "(IIII)I"⟩, 36) := ⟨⟨by decide +kernel, by decide +kernel⟩, List.mem_of_getElem? (i := 582) (by decide +kernel), List.mem_of_getElem? (i := 736) (by decide +kernel), List.mem_of_getElem? (i := 737) (by decide +kernel)⟩
theorem lw_p38 : lw_okq (⟨"CanteenPlanModel", "counts", "(IIII)V"⟩, 36) := ⟨⟨by decide +kernel, by decide +kernel⟩, List.mem_of_getElem? (i := 582) (by decide +kernel), List.mem_of_getElem? (i := 740) (by decide +kernel), List.mem_of_getElem? (i := 741) (by decide +kernel)⟩
theorem lw_p39 : lw_okq (⟨"CanteenPlanModel", "goes", "(II)V"⟩, 36) := ⟨⟨by decide +kernel, by decide +kernel⟩, List.mem_of_getElem? (i := 582) (by decide +kernel), List.mem_of_getElem? (i := 749) (by decide +kernel), List.mem_of_getElem? (i := 750) (by decide +kernel)⟩
theorem lw_p40 : lw_okq (⟨"CanteenPlanModel", "isLeafOf", "(I)Z"⟩, 36) := ⟨⟨by decide +kernel, by decide +kernel⟩, List.mem_of_getElem? (i := 582) (by decide +kernel), List.mem_of_getElem? (i := 757) (by decide +kernel), List.mem_of_getElem? (i := 758) (by decide +kernel)⟩
theorem lw_p41 : lw_okq (⟨"CanteenPlanModel", "isAsked", "(III)Z"⟩, 36) := ⟨⟨by decide +kernel, by decide +kernel⟩, List.mem_of_getElem? (i := 582) (by decide +kernel), List.mem_of_getElem? (i := 773) (by decide +kernel), List.mem_of_getElem? (i := 774) (by decide +kernel)⟩
theorem lw_p42 : lw_okq (⟨"CanteenPlanModel", "chooses", "(III)Z"⟩, 36) := ⟨⟨by decide +kernel, by decide +kernel⟩, List.mem_of_getElem? (i := 582) (by decide +kernel), List.mem_of_getElem? (i := 777) (by decide +kernel), List.mem_of_getElem? (i := 778) (by decide +kernel)⟩
theorem lw_p43 : lw_okq (⟨"CanteenPlanModel", "costOf", "(IIII)J"⟩, 36) := ⟨⟨by decide +kernel, by decide +kernel⟩, List.mem_of_getElem? (i := 582) (by decide +kernel), List.mem_of_getElem? (i := 782) (by decide +kernel), List.mem_of_getElem? (i := 783) (by decide +kernel)⟩
theorem lw_p44 : lw_okq (⟨"CanteenPlanModel", "takes", "(JII)V"⟩, 36) := ⟨⟨by decide +kernel, by decide +kernel⟩, List.mem_of_getElem? (i := 582) (by decide +kernel), List.mem_of_getElem? (i := 786) (by decide +kernel), List.mem_of_getElem? (i := 787) (by decide +kernel)⟩
theorem lw_p45 : lw_okq (⟨"CanteenPlanModel", "isMore", "()Z"⟩, 36) := ⟨⟨by decide +kernel, by decide +kernel⟩, List.mem_of_getElem? (i := 582) (by decide +kernel), List.mem_of_getElem? (i := 790) (by decide +kernel), List.mem_of_getElem? (i := 791) (by decide +kernel)⟩
theorem lw_p46 : lw_okq (⟨"CanteenPlanModel", "upTo", "(I)I"⟩, 36) := ⟨⟨by decide +kernel, by decide +kernel⟩, List.mem_of_getElem? (i := 582) (by decide +kernel), List.mem_of_getElem? (i := 794) (by decide +kernel), List.mem_of_getElem? (i := 795) (by decide +kernel)⟩
theorem lw_p47 : lw_okq (⟨"CanteenPlanModel", "ladlesAnew", "()Z"⟩, 36) := ⟨⟨by decide +kernel, by decide +kernel⟩, List.mem_of_getElem? (i := 582) (by decide +kernel), List.mem_of_getElem? (i := 806) (by decide +kernel), List.mem_of_getElem? (i := 807) (by decide +kernel)⟩
def lw_privs_3 : List (MethodName × Nat) := [(⟨"CanteenPlan$Hatch", "noteWaits", "(III)V"⟩, 3), (⟨"CanteenPlan$Hatch", "leastServed", "(I)I"⟩, 3), (⟨"CanteenPlanModel", "bad", "(ZI)Z"⟩, 36), (⟨"CanteenPlanModel", "isMeal", "(I)Z"⟩, 36), (⟨"CanteenPlanModel", "leavesOf", "(IIII)I"⟩, 36), (⟨"CanteenPlanModel", "markOf", "(IIII)I"⟩, 36), (⟨"CanteenPlanModel", "counts", "(IIII)V"⟩, 36), (⟨"CanteenPlanModel", "goes", "(II)V"⟩, 36), (⟨"CanteenPlanModel", "isLeafOf", "(I)Z"⟩, 36), (⟨"CanteenPlanModel", "isAsked", "(III)Z"⟩, 36), (⟨"CanteenPlanModel", "chooses", "(III)Z"⟩, 36), (⟨"CanteenPlanModel", "costOf", "(IIII)J"⟩, 36), (⟨"CanteenPlanModel", "takes", "(JII)V"⟩, 36), (⟨"CanteenPlanModel", "isMore", "()Z"⟩, 36), (⟨"CanteenPlanModel", "upTo", "(I)I"⟩, 36), (⟨"CanteenPlanModel", "ladlesAnew", "()Z"⟩, 36)]
theorem lw_r3 : ∀ q ∈ lw_privs_3, lw_okq q := List.forall_mem_cons.mpr ⟨lw_p32, List.forall_mem_cons.mpr ⟨lw_p33, List.forall_mem_cons.mpr ⟨lw_p34, List.forall_mem_cons.mpr ⟨lw_p35, List.forall_mem_cons.mpr ⟨lw_p36, List.forall_mem_cons.mpr ⟨lw_p37, List.forall_mem_cons.mpr ⟨lw_p38, List.forall_mem_cons.mpr ⟨lw_p39, List.forall_mem_cons.mpr ⟨lw_p40, List.forall_mem_cons.mpr ⟨lw_p41, List.forall_mem_cons.mpr ⟨lw_p42, List.forall_mem_cons.mpr ⟨lw_p43, List.forall_mem_cons.mpr ⟨lw_p44, List.forall_mem_cons.mpr ⟨lw_p45, List.forall_mem_cons.mpr ⟨lw_p46, List.forall_mem_cons.mpr ⟨lw_p47, fun _ h => absurd h List.not_mem_nil⟩⟩⟩⟩⟩⟩⟩⟩⟩⟩⟩⟩⟩⟩⟩⟩
theorem lw_p48 : lw_okq (⟨"CanteenPlanModel", "shares", "(II)V"⟩, 36) := ⟨⟨by decide +kernel, by decide +kernel⟩, List.mem_of_getElem? (i := 582) (by decide +kernel), List.mem_of_getElem? (i := 810) (by decide +kernel), List.mem_of_getElem? (i := 811) (by decide +kernel)⟩
theorem lw_p49 : lw_okq (⟨"CanteenPlanModel", "isUnlike", "(II)Z"⟩, 36) := ⟨⟨by decide +kernel, by decide +kernel⟩, List.mem_of_getElem? (i := 582) (by decide +kernel), List.mem_of_getElem? (i := 814) (by decide +kernel), List.mem_of_getElem? (i := 815) (by decide +kernel)⟩
theorem lw_p50 : lw_okq (⟨"CanteenPlanModel", "stands", "(I)V"⟩, 36) := ⟨⟨by decide +kernel, by decide +kernel⟩, List.mem_of_getElem? (i := 582) (by decide +kernel), List.mem_of_getElem? (i := 830) (by decide +kernel), List.mem_of_getElem? (i := 831) (by decide +kernel)⟩
def lw_privs_4 : List (MethodName × Nat) := [(⟨"CanteenPlanModel", "shares", "(II)V"⟩, 36), (⟨"CanteenPlanModel", "isUnlike", "(II)Z"⟩, 36), (⟨"CanteenPlanModel", "stands", "(I)V"⟩, 36)]
theorem lw_r4 : ∀ q ∈ lw_privs_4, lw_okq q := List.forall_mem_cons.mpr ⟨lw_p48, List.forall_mem_cons.mpr ⟨lw_p49, List.forall_mem_cons.mpr ⟨lw_p50, fun _ h => absurd h List.not_mem_nil⟩⟩⟩
def lw_privs : List (MethodName × Nat) := lw_privs_1 ++ (lw_privs_2 ++ (lw_privs_3 ++ (lw_privs_4)))
def lw_tbl : List Cond := k2_sels lw_privs ++ tables_1
theorem lw_privs_ok : ∀ q ∈ lw_privs, lw_okq q := by
  show ∀ q ∈ lw_privs_1 ++ (lw_privs_2 ++ (lw_privs_3 ++ (lw_privs_4))), lw_okq q
  exact List.forall_mem_append.mpr ⟨lw_r1, List.forall_mem_append.mpr ⟨lw_r2, List.forall_mem_append.mpr ⟨lw_r3, lw_r4⟩⟩⟩
end
section
def RX0 : String := "CanteenPlan$Diary"
def TX0 : u_T := fun k => match k with
  | 0 => ("CanteenPlan$Diary", "told", "[I", true)
  | 1 => ("CanteenPlan$Diary", "marksOf", "[I", true)
  | 2 => ("CanteenPlan$Diary", "isAway", "[Z", true)
  | 3 => ("CanteenPlan$Diary", "eaten", "[I", true)
  | 4 => ("CanteenPlan$Diary", "facts", "[I", true)
  | 5 => ("CanteenPlan$Diary", "inAll", "I", false)
  | _ => ("CanteenPlan$Diary", "away", "I", false)
def tyX0 : Nat → FieldType := fun k => match k with
  | 0 => .array .int
  | 1 => .array .int
  | 2 => .array .boolean
  | 3 => .array .int
  | 4 => .array .int
  | 5 => .int
  | _ => .int
abbrev wsX00 : List Cond := u_ws RX0 TX0 7
theorem nmX0 : ∀ a, a < 7 → ∀ b, b < 7 → a ≠ b → (TX0 a).2.1 ≠ (TX0 b).2.1 := by decide +kernel
theorem tyX0_ok : ∀ k, k < 7 → parseFieldDescriptor (TX0 k).2.2.1 = some (tyX0 k) := by decide +kernel
abbrev cX0_init : ByteArray := prog_2_method_1_code
def yX0_init : MethodName := ⟨RX0, "<init>", "()V"⟩
abbrev cX0_tell : ByteArray := prog_2_method_2_code
def yX0_tell : MethodName := ⟨RX0, "tell", "(II)I"⟩
abbrev cX0_add : ByteArray := prog_2_method_3_code
def yX0_add : MethodName := ⟨RX0, "add", "(I)I"⟩
abbrev cX0_takeAway : ByteArray := prog_2_method_4_code
def yX0_takeAway : MethodName := ⟨RX0, "takeAway", "(I)Z"⟩
abbrev cX0_isInKnot : ByteArray := prog_2_method_5_code
def yX0_isInKnot : MethodName := ⟨RX0, "isInKnot", "(III)Z"⟩
abbrev cX0_eatenOn : ByteArray := prog_2_method_6_code
def yX0_eatenOn : MethodName := ⟨RX0, "eatenOn", "(II)I"⟩
abbrev cX0_factOf : ByteArray := prog_2_method_7_code
def yX0_factOf : MethodName := ⟨RX0, "factOf", "(IIII)I"⟩
abbrev cX0_noteFacts : ByteArray := prog_2_method_8_code
def yX0_noteFacts : MethodName := ⟨RX0, "noteFacts", "(I)V"⟩
def RX1 : String := "CanteenPlan$Hatch"
def TX1 : u_T := fun k => match k with
  | 0 => ("CanteenPlan$Hatch", "coming", "[I", true)
  | 1 => ("CanteenPlan$Hatch", "facts", "[I", true)
  | _ => ("CanteenPlan$Hatch", "minutes", "I", false)
def tyX1 : Nat → FieldType := fun k => match k with
  | 0 => .array .int
  | 1 => .array .int
  | _ => .int
abbrev wsX10 : List Cond := u_ws RX1 TX1 3
theorem nmX1 : ∀ a, a < 3 → ∀ b, b < 3 → a ≠ b → (TX1 a).2.1 ≠ (TX1 b).2.1 := by decide +kernel
theorem tyX1_ok : ∀ k, k < 3 → parseFieldDescriptor (TX1 k).2.2.1 = some (tyX1 k) := by decide +kernel
abbrev cX1_init : ByteArray := prog_3_method_1_code
def yX1_init : MethodName := ⟨RX1, "<init>", "()V"⟩
abbrev cX1_add : ByteArray := prog_3_method_2_code
def yX1_add : MethodName := ⟨RX1, "add", "(I)I"⟩
abbrev cX1_clear : ByteArray := prog_3_method_3_code
def yX1_clear : MethodName := ⟨RX1, "clear", "()I"⟩
abbrev cX1_leastServed : ByteArray := prog_3_method_4_code
def yX1_leastServed : MethodName := ⟨RX1, "leastServed", "(I)I"⟩
abbrev cX1_factOf : ByteArray := prog_3_method_5_code
def yX1_factOf : MethodName := ⟨RX1, "factOf", "(II)I"⟩
abbrev cX1_noteWaits : ByteArray := prog_3_method_6_code
def yX1_noteWaits : MethodName := ⟨RX1, "noteWaits", "(III)V"⟩
abbrev cX1_waitsOfFirst : ByteArray := prog_3_method_7_code
def yX1_waitsOfFirst : MethodName := ⟨RX1, "waitsOfFirst", "(II)I"⟩
def RX2 : String := "CanteenPlan$Kitchen"
def TX2 : u_T := fun k => match k with
  | 0 => ("CanteenPlan$Kitchen", "portions", "[I", true)
  | 1 => ("CanteenPlan$Kitchen", "price", "[I", true)
  | 2 => ("CanteenPlan$Kitchen", "sizes", "I", false)
  | 3 => ("CanteenPlan$Kitchen", "waste", "I", false)
  | 4 => ("CanteenPlan$Kitchen", "want", "I", false)
  | 5 => ("CanteenPlan$Kitchen", "daysUpTo", "[I", true)
  | 6 => ("CanteenPlan$Kitchen", "sumUpTo", "[I", true)
  | 7 => ("CanteenPlan$Kitchen", "days", "I", false)
  | 8 => ("CanteenPlan$Kitchen", "sum", "I", false)
  | 9 => ("CanteenPlan$Kitchen", "tried", "[I", true)
  | 10 => ("CanteenPlan$Kitchen", "best", "[I", true)
  | 11 => ("CanteenPlan$Kitchen", "hasBest", "Z", false)
  | 12 => ("CanteenPlan$Kitchen", "bestCost", "J", false)
  | 13 => ("CanteenPlan$Kitchen", "bestPortions", "I", false)
  | _ => ("CanteenPlan$Kitchen", "bestPots", "I", false)
def tyX2 : Nat → FieldType := fun k => match k with
  | 0 => .array .int
  | 1 => .array .int
  | 2 => .int
  | 3 => .int
  | 4 => .int
  | 5 => .array .int
  | 6 => .array .int
  | 7 => .int
  | 8 => .int
  | 9 => .array .int
  | 10 => .array .int
  | 11 => .boolean
  | 12 => .long
  | 13 => .int
  | _ => .int
abbrev wsX20 : List Cond := u_ws RX2 TX2 15
theorem nmX2 : ∀ a, a < 15 → ∀ b, b < 15 → a ≠ b → (TX2 a).2.1 ≠ (TX2 b).2.1 := by decide +kernel
theorem tyX2_ok : ∀ k, k < 15 → parseFieldDescriptor (TX2 k).2.2.1 = some (tyX2 k) := by decide +kernel
abbrev cX2_init : ByteArray := prog_4_method_1_code
def yX2_init : MethodName := ⟨RX2, "<init>", "()V"⟩
abbrev cX2_add : ByteArray := prog_4_method_2_code
def yX2_add : MethodName := ⟨RX2, "add", "(II)I"⟩
abbrev cX2_bestPotsOf : ByteArray := prog_4_method_3_code
def yX2_bestPotsOf : MethodName := ⟨RX2, "bestPotsOf", "(I)I"⟩
abbrev cX2_readLeaf : ByteArray := prog_4_method_4_code
def yX2_readLeaf : MethodName := ⟨RX2, "readLeaf", "(LCanteenPlan$Diary;III)V"⟩
abbrev cX2_findBest : ByteArray := prog_4_method_5_code
def yX2_findBest : MethodName := ⟨RX2, "findBest", "(I)V"⟩
abbrev cX2_mostPots : ByteArray := prog_4_method_6_code
def yX2_mostPots : MethodName := ⟨RX2, "mostPots", "(II)I"⟩
abbrev cX2_weighTried : ByteArray := prog_4_method_7_code
def yX2_weighTried : MethodName := ⟨RX2, "weighTried", "(I)V"⟩
abbrev cX2_isBetter : ByteArray := prog_4_method_8_code
def yX2_isBetter : MethodName := ⟨RX2, "isBetter", "(JII)Z"⟩
abbrev cX2_wasteAndWant : ByteArray := prog_4_method_9_code
def yX2_wasteAndWant : MethodName := ⟨RX2, "wasteAndWant", "(I)J"⟩
def RX3 : String := "CanteenPlan$Menu"
def TX3 : u_T := fun k => match k with
  | 0 => ("CanteenPlan$Menu", "in", "[I", true)
  | 1 => ("CanteenPlan$Menu", "barred", "[I", true)
  | 2 => ("CanteenPlan$Menu", "ladleOf", "[I", true)
  | _ => ("CanteenPlan$Menu", "meals", "I", false)
def tyX3 : Nat → FieldType := fun k => match k with
  | 0 => .array .int
  | 1 => .array .int
  | 2 => .array .int
  | _ => .int
abbrev wsX30 : List Cond := u_ws RX3 TX3 4
theorem nmX3 : ∀ a, a < 4 → ∀ b, b < 4 → a ≠ b → (TX3 a).2.1 ≠ (TX3 b).2.1 := by decide +kernel
theorem tyX3_ok : ∀ k, k < 4 → parseFieldDescriptor (TX3 k).2.2.1 = some (tyX3 k) := by decide +kernel
abbrev cX3_init : ByteArray := prog_5_method_1_code
def yX3_init : MethodName := ⟨RX3, "<init>", "()V"⟩
abbrev cX3_add : ByteArray := prog_5_method_2_code
def yX3_add : MethodName := ⟨RX3, "add", "(II)I"⟩
abbrev cX3_deal : ByteArray := prog_5_method_3_code
def yX3_deal : MethodName := ⟨RX3, "deal", "()I"⟩
abbrev cX3_dealFrom : ByteArray := prog_5_method_4_code
def yX3_dealFrom : MethodName := ⟨RX3, "dealFrom", "(III)Z"⟩
abbrev cX3_canTake : ByteArray := prog_5_method_5_code
def yX3_canTake : MethodName := ⟨RX3, "canTake", "(II)Z"⟩
abbrev cX3_canMeet : ByteArray := prog_5_method_6_code
def yX3_canMeet : MethodName := ⟨RX3, "canMeet", "(II)Z"⟩
def RX4 : String := "CanteenPlan$Tree"
def TX4 : u_T := fun k => match k with
  | 0 => ("CanteenPlan$Tree", "diary", "LCanteenPlan$Diary;", true)
  | 1 => ("CanteenPlan$Tree", "daysWith", "[I", true)
  | 2 => ("CanteenPlan$Tree", "sumWith", "[I", true)
  | 3 => ("CanteenPlan$Tree", "days", "I", false)
  | _ => ("CanteenPlan$Tree", "sum", "I", false)
def tyX4 : Nat → FieldType := fun k => match k with
  | 0 => .object "CanteenPlan$Diary"
  | 1 => .array .int
  | 2 => .array .int
  | 3 => .int
  | _ => .int
abbrev wsX40 : List Cond := u_ws RX4 TX4 5
theorem nmX4 : ∀ a, a < 5 → ∀ b, b < 5 → a ≠ b → (TX4 a).2.1 ≠ (TX4 b).2.1 := by decide +kernel
theorem tyX4_ok : ∀ k, k < 5 → parseFieldDescriptor (TX4 k).2.2.1 = some (tyX4 k) := by decide +kernel
abbrev cX4_init : ByteArray := prog_6_method_1_code
def yX4_init : MethodName := ⟨RX4, "<init>", "(LCanteenPlan$Diary;)V"⟩
abbrev cX4_leavesBelow : ByteArray := prog_6_method_2_code
def yX4_leavesBelow : MethodName := ⟨RX4, "leavesBelow", "(IIII)I"⟩
abbrev cX4_markOnTheWay : ByteArray := prog_6_method_3_code
def yX4_markOnTheWay : MethodName := ⟨RX4, "markOnTheWay", "(III)I"⟩
abbrev cX4_askedOnTheWay : ByteArray := prog_6_method_4_code
def yX4_askedOnTheWay : MethodName := ⟨RX4, "askedOnTheWay", "(II)I"⟩
abbrev cX4_markThatParts : ByteArray := prog_6_method_5_code
def yX4_markThatParts : MethodName := ⟨RX4, "markThatParts", "(III)I"⟩
abbrev cX4_readKnot : ByteArray := prog_6_method_6_code
def yX4_readKnot : MethodName := ⟨RX4, "readKnot", "(III)V"⟩
abbrev cX4_readDay : ByteArray := prog_6_method_7_code
def yX4_readDay : MethodName := ⟨RX4, "readDay", "(II)V"⟩
def RX5 : String := "CanteenPlan"
def TX5 : u_T := fun k => match k with
  | 0 => ("CanteenPlan", "menu", "LCanteenPlan$Menu;", true)
  | 1 => ("CanteenPlan", "diary", "LCanteenPlan$Diary;", true)
  | 2 => ("CanteenPlan", "tree", "LCanteenPlan$Tree;", true)
  | 3 => ("CanteenPlan", "kitchen", "LCanteenPlan$Kitchen;", true)
  | _ => ("CanteenPlan", "line", "LCanteenPlan$Hatch;", true)
def tyX5 : Nat → FieldType := fun k => match k with
  | 0 => .object "CanteenPlan$Menu"
  | 1 => .object "CanteenPlan$Diary"
  | 2 => .object "CanteenPlan$Tree"
  | 3 => .object "CanteenPlan$Kitchen"
  | _ => .object "CanteenPlan$Hatch"
abbrev wsX50 : List Cond := u_ws RX5 TX5 5
theorem nmX5 : ∀ a, a < 5 → ∀ b, b < 5 → a ≠ b → (TX5 a).2.1 ≠ (TX5 b).2.1 := by decide +kernel
theorem tyX5_ok : ∀ k, k < 5 → parseFieldDescriptor (TX5 k).2.2.1 = some (tyX5 k) := by decide +kernel
abbrev cX5_init : ByteArray := prog_1_method_1_code
def yX5_init : MethodName := ⟨RX5, "<init>", "()V"⟩
abbrev cX5_meal : ByteArray := prog_1_method_2_code
def yX5_meal : MethodName := ⟨RX5, "meal", "(II)I"⟩
abbrev cX5_ate : ByteArray := prog_1_method_3_code
def yX5_ate : MethodName := ⟨RX5, "ate", "(II)I"⟩
abbrev cX5_day : ByteArray := prog_1_method_4_code
def yX5_day : MethodName := ⟨RX5, "day", "(I)I"⟩
abbrev cX5_drop : ByteArray := prog_1_method_5_code
def yX5_drop : MethodName := ⟨RX5, "drop", "(I)Z"⟩
abbrev cX5_leaves : ByteArray := prog_1_method_6_code
def yX5_leaves : MethodName := ⟨RX5, "leaves", "(I)I"⟩
abbrev cX5_split : ByteArray := prog_1_method_7_code
def yX5_split : MethodName := ⟨RX5, "split", "(III)I"⟩
abbrev cX5_leaf : ByteArray := prog_1_method_8_code
def yX5_leaf : MethodName := ⟨RX5, "leaf", "(III)I"⟩
abbrev cX5_size : ByteArray := prog_1_method_9_code
def yX5_size : MethodName := ⟨RX5, "size", "(II)I"⟩
abbrev cX5_prices : ByteArray := prog_1_method_10_code
def yX5_prices : MethodName := ⟨RX5, "prices", "(II)V"⟩
abbrev cX5_cost : ByteArray := prog_1_method_11_code
def yX5_cost : MethodName := ⟨RX5, "cost", "(III)J"⟩
abbrev cX5_pots : ByteArray := prog_1_method_12_code
def yX5_pots : MethodName := ⟨RX5, "pots", "(IIII)I"⟩
abbrev cX5_ladles : ByteArray := prog_1_method_13_code
def yX5_ladles : MethodName := ⟨RX5, "ladles", "()I"⟩
abbrev cX5_ladle : ByteArray := prog_1_method_14_code
def yX5_ladle : MethodName := ⟨RX5, "ladle", "(I)I"⟩
abbrev cX5_come : ByteArray := prog_1_method_15_code
def yX5_come : MethodName := ⟨RX5, "come", "(I)I"⟩
abbrev cX5_hatch : ByteArray := prog_1_method_16_code
def yX5_hatch : MethodName := ⟨RX5, "hatch", "(II)I"⟩
abbrev cX5_serve : ByteArray := prog_1_method_17_code
def yX5_serve : MethodName := ⟨RX5, "serve", "(I)I"⟩
abbrev cX5_empty : ByteArray := prog_1_method_18_code
def yX5_empty : MethodName := ⟨RX5, "empty", "()I"⟩
abbrev cX5_count : ByteArray := prog_1_method_19_code
def yX5_count : MethodName := ⟨RX5, "count", "(I)I"⟩
abbrev cX5_needWithin : ByteArray := prog_1_method_20_code
def yX5_needWithin : MethodName := ⟨RX5, "needWithin", "(III)V"⟩
abbrev cX5_needMeal : ByteArray := prog_1_method_21_code
def yX5_needMeal : MethodName := ⟨RX5, "needMeal", "(I)V"⟩
abbrev cX5_findBestSet : ByteArray := prog_1_method_22_code
def yX5_findBestSet : MethodName := ⟨RX5, "findBestSet", "(III)Z"⟩
def RX6 : String := "CanteenPlanModel"
def TX6 : u_T := fun k => match k with
  | 0 => ("CanteenPlanModel", "thrown", "I", false)
  | 1 => ("CanteenPlanModel", "in", "[I", true)
  | 2 => ("CanteenPlanModel", "bars", "[I", true)
  | 3 => ("CanteenPlanModel", "next", "[I", true)
  | 4 => ("CanteenPlanModel", "meals", "I", false)
  | 5 => ("CanteenPlanModel", "marks", "[I", true)
  | 6 => ("CanteenPlanModel", "eaten", "[I", true)
  | 7 => ("CanteenPlanModel", "isThere", "[Z", true)
  | 8 => ("CanteenPlanModel", "days", "I", false)
  | 9 => ("CanteenPlanModel", "hasMany", "I", false)
  | 10 => ("CanteenPlanModel", "allMany", "I", false)
  | 11 => ("CanteenPlanModel", "hasSum", "J", false)
  | 12 => ("CanteenPlanModel", "allSum", "J", false)
  | 13 => ("CanteenPlanModel", "way", "[I", true)
  | 14 => ("CanteenPlanModel", "wayMany", "I", false)
  | 15 => ("CanteenPlanModel", "leafMask", "I", false)
  | 16 => ("CanteenPlanModel", "leafBits", "I", false)
  | 17 => ("CanteenPlanModel", "portions", "[I", true)
  | 18 => ("CanteenPlanModel", "price", "[I", true)
  | 19 => ("CanteenPlanModel", "sizes", "I", false)
  | 20 => ("CanteenPlanModel", "waste", "I", false)
  | 21 => ("CanteenPlanModel", "want", "I", false)
  | 22 => ("CanteenPlanModel", "set", "[I", true)
  | 23 => ("CanteenPlanModel", "best", "[I", true)
  | 24 => ("CanteenPlanModel", "bestCost", "J", false)
  | 25 => ("CanteenPlanModel", "bestPortions", "I", false)
  | 26 => ("CanteenPlanModel", "bestPots", "I", false)
  | 27 => ("CanteenPlanModel", "row", "[I", true)
  | 28 => ("CanteenPlanModel", "ladleOf", "[I", true)
  | 29 => ("CanteenPlanModel", "ladleMany", "I", false)
  | 30 => ("CanteenPlanModel", "came", "[I", true)
  | 31 => ("CanteenPlanModel", "minutes", "I", false)
  | 32 => ("CanteenPlanModel", "greatest", "I", false)
  | 33 => ("CanteenPlanModel", "waits", "I", false)
  | 34 => ("CanteenPlanModel", "lastWent", "I", false)
  | _ => ("CanteenPlanModel", "longest", "I", false)
def tyX6 : Nat → FieldType := fun k => match k with
  | 0 => .int
  | 1 => .array .int
  | 2 => .array .int
  | 3 => .array .int
  | 4 => .int
  | 5 => .array .int
  | 6 => .array .int
  | 7 => .array .boolean
  | 8 => .int
  | 9 => .int
  | 10 => .int
  | 11 => .long
  | 12 => .long
  | 13 => .array .int
  | 14 => .int
  | 15 => .int
  | 16 => .int
  | 17 => .array .int
  | 18 => .array .int
  | 19 => .int
  | 20 => .int
  | 21 => .int
  | 22 => .array .int
  | 23 => .array .int
  | 24 => .long
  | 25 => .int
  | 26 => .int
  | 27 => .array .int
  | 28 => .array .int
  | 29 => .int
  | 30 => .array .int
  | 31 => .int
  | 32 => .int
  | 33 => .int
  | 34 => .int
  | _ => .int
abbrev wsX60 : List Cond := u_ws RX6 TX6 36
theorem nmX6 : ∀ a, a < 36 → ∀ b, b < 36 → a ≠ b → (TX6 a).2.1 ≠ (TX6 b).2.1 := by decide +kernel
theorem tyX6_ok : ∀ k, k < 36 → parseFieldDescriptor (TX6 k).2.2.1 = some (tyX6 k) := by decide +kernel
abbrev cX6_init : ByteArray := prog_8_method_1_code
def yX6_init : MethodName := ⟨RX6, "<init>", "()V"⟩
abbrev cX6_thrown : ByteArray := prog_8_method_2_code
def yX6_thrown : MethodName := ⟨RX6, "thrown", "()I"⟩
abbrev cX6_bad : ByteArray := prog_8_method_3_code
def yX6_bad : MethodName := ⟨RX6, "bad", "(ZI)Z"⟩
abbrev cX6_isBits : ByteArray := prog_8_method_4_code
def yX6_isBits : MethodName := ⟨RX6, "isBits", "(I)Z"⟩
abbrev cX6_meal : ByteArray := prog_8_method_5_code
def yX6_meal : MethodName := ⟨RX6, "meal", "(II)I"⟩
abbrev cX6_isMeal : ByteArray := prog_8_method_6_code
def yX6_isMeal : MethodName := ⟨RX6, "isMeal", "(I)Z"⟩
abbrev cX6_ate : ByteArray := prog_8_method_7_code
def yX6_ate : MethodName := ⟨RX6, "ate", "(II)I"⟩
abbrev cX6_day : ByteArray := prog_8_method_8_code
def yX6_day : MethodName := ⟨RX6, "day", "(I)I"⟩
abbrev cX6_drop : ByteArray := prog_8_method_9_code
def yX6_drop : MethodName := ⟨RX6, "drop", "(I)Z"⟩
abbrev cX6_counts : ByteArray := prog_8_method_10_code
def yX6_counts : MethodName := ⟨RX6, "counts", "(IIII)V"⟩
abbrev cX6_markOf : ByteArray := prog_8_method_11_code
def yX6_markOf : MethodName := ⟨RX6, "markOf", "(IIII)I"⟩
abbrev cX6_leavesOf : ByteArray := prog_8_method_12_code
def yX6_leavesOf : MethodName := ⟨RX6, "leavesOf", "(IIII)I"⟩
abbrev cX6_leaves : ByteArray := prog_8_method_13_code
def yX6_leaves : MethodName := ⟨RX6, "leaves", "(I)I"⟩
abbrev cX6_goes : ByteArray := prog_8_method_14_code
def yX6_goes : MethodName := ⟨RX6, "goes", "(II)V"⟩
abbrev cX6_isLeafOf : ByteArray := prog_8_method_15_code
def yX6_isLeafOf : MethodName := ⟨RX6, "isLeafOf", "(I)Z"⟩
abbrev cX6_split : ByteArray := prog_8_method_16_code
def yX6_split : MethodName := ⟨RX6, "split", "(III)I"⟩
abbrev cX6_leaf : ByteArray := prog_8_method_17_code
def yX6_leaf : MethodName := ⟨RX6, "leaf", "(III)I"⟩
abbrev cX6_size : ByteArray := prog_8_method_18_code
def yX6_size : MethodName := ⟨RX6, "size", "(II)I"⟩
abbrev cX6_prices : ByteArray := prog_8_method_19_code
def yX6_prices : MethodName := ⟨RX6, "prices", "(II)V"⟩
abbrev cX6_costOf : ByteArray := prog_8_method_20_code
def yX6_costOf : MethodName := ⟨RX6, "costOf", "(IIII)J"⟩
abbrev cX6_chooses : ByteArray := prog_8_method_21_code
def yX6_chooses : MethodName := ⟨RX6, "chooses", "(III)Z"⟩
abbrev cX6_upTo : ByteArray := prog_8_method_22_code
def yX6_upTo : MethodName := ⟨RX6, "upTo", "(I)I"⟩
abbrev cX6_takes : ByteArray := prog_8_method_23_code
def yX6_takes : MethodName := ⟨RX6, "takes", "(JII)V"⟩
abbrev cX6_isMore : ByteArray := prog_8_method_24_code
def yX6_isMore : MethodName := ⟨RX6, "isMore", "()Z"⟩
abbrev cX6_isAsked : ByteArray := prog_8_method_25_code
def yX6_isAsked : MethodName := ⟨RX6, "isAsked", "(III)Z"⟩
abbrev cX6_cost : ByteArray := prog_8_method_26_code
def yX6_cost : MethodName := ⟨RX6, "cost", "(III)J"⟩
abbrev cX6_pots : ByteArray := prog_8_method_27_code
def yX6_pots : MethodName := ⟨RX6, "pots", "(IIII)I"⟩
abbrev cX6_isUnlike : ByteArray := prog_8_method_28_code
def yX6_isUnlike : MethodName := ⟨RX6, "isUnlike", "(II)Z"⟩
abbrev cX6_shares : ByteArray := prog_8_method_29_code
def yX6_shares : MethodName := ⟨RX6, "shares", "(II)V"⟩
abbrev cX6_ladlesAnew : ByteArray := prog_8_method_30_code
def yX6_ladlesAnew : MethodName := ⟨RX6, "ladlesAnew", "()Z"⟩
abbrev cX6_ladles : ByteArray := prog_8_method_31_code
def yX6_ladles : MethodName := ⟨RX6, "ladles", "()I"⟩
abbrev cX6_ladle : ByteArray := prog_8_method_32_code
def yX6_ladle : MethodName := ⟨RX6, "ladle", "(I)I"⟩
abbrev cX6_come : ByteArray := prog_8_method_33_code
def yX6_come : MethodName := ⟨RX6, "come", "(I)I"⟩
abbrev cX6_stands : ByteArray := prog_8_method_34_code
def yX6_stands : MethodName := ⟨RX6, "stands", "(I)V"⟩
abbrev cX6_hatch : ByteArray := prog_8_method_35_code
def yX6_hatch : MethodName := ⟨RX6, "hatch", "(II)I"⟩
abbrev cX6_serve : ByteArray := prog_8_method_36_code
def yX6_serve : MethodName := ⟨RX6, "serve", "(I)I"⟩
abbrev cX6_empty : ByteArray := prog_8_method_37_code
def yX6_empty : MethodName := ⟨RX6, "empty", "()I"⟩
abbrev cX6_count : ByteArray := prog_8_method_38_code
def yX6_count : MethodName := ⟨RX6, "count", "(I)I"⟩
def RJ9 : String := "java/lang/Math"
def TJ9 : u_T := fun k => match k with
  | _ => ("", "", "", false)
def tyJ9 : Nat → FieldType := fun k => match k with
  | _ => .int
abbrev wsJ90 : List Cond := u_ws RJ9 TJ9 0
theorem nmJ9 : ∀ a, a < 0 → ∀ b, b < 0 → a ≠ b → (TJ9 a).2.1 ≠ (TJ9 b).2.1 := by decide +kernel
theorem tyJ9_ok : ∀ k, k < 0 → parseFieldDescriptor (TJ9 k).2.2.1 = some (tyJ9 k) := by decide +kernel
abbrev cJ9_max_7cf53 : ByteArray := prog_13_method_65_code
def yJ9_max_7cf53 : MethodName := ⟨RJ9, "max", "(II)I"⟩
abbrev cJ9_min_7cf53 : ByteArray := prog_13_method_69_code
def yJ9_min_7cf53 : MethodName := ⟨RJ9, "min", "(II)I"⟩
def RJ0 : String := "java/lang/String"
def TJ0 : u_T := fun k => match k with
  | _ => ("", "", "", false)
def tyJ0 : Nat → FieldType := fun k => match k with
  | _ => .int
abbrev wsJ00 : List Cond := u_ws RJ0 TJ0 0
theorem nmJ0 : ∀ a, a < 0 → ∀ b, b < 0 → a ≠ b → (TJ0 a).2.1 ≠ (TJ0 b).2.1 := by decide +kernel
theorem tyJ0_ok : ∀ k, k < 0 → parseFieldDescriptor (TJ0 k).2.2.1 = some (tyJ0 k) := by decide +kernel
def RJ10 : String := "java/lang/System"
def TJ10 : u_T := fun k => match k with
  | _ => ("", "", "", false)
def tyJ10 : Nat → FieldType := fun k => match k with
  | _ => .int
abbrev wsJ100 : List Cond := u_ws RJ10 TJ10 0
theorem nmJ10 : ∀ a, a < 0 → ∀ b, b < 0 → a ≠ b → (TJ10 a).2.1 ≠ (TJ10 b).2.1 := by decide +kernel
theorem tyJ10_ok : ∀ k, k < 0 → parseFieldDescriptor (TJ10 k).2.2.1 = some (tyJ10 k) := by decide +kernel
def RJ7 : String := "java/util/Arrays"
def TJ7 : u_T := fun k => match k with
  | _ => ("", "", "", false)
def tyJ7 : Nat → FieldType := fun k => match k with
  | _ => .int
abbrev wsJ70 : List Cond := u_ws RJ7 TJ7 0
theorem nmJ7 : ∀ a, a < 0 → ∀ b, b < 0 → a ≠ b → (TJ7 a).2.1 ≠ (TJ7 b).2.1 := by decide +kernel
theorem tyJ7_ok : ∀ k, k < 0 → parseFieldDescriptor (TJ7 k).2.2.1 = some (tyJ7 k) := by decide +kernel
abbrev cJ7_fill_53178 : ByteArray := prog_18_method_103_code
def yJ7_fill_53178 : MethodName := ⟨RJ7, "fill", "([II)V"⟩
def RL : String := "CanteenPlanLaw"
abbrev cL_meal : ByteArray := method_3_code
def yL_meal : MethodName := ⟨RL, "meal", "(LCanteenPlan;II[J)I"⟩
abbrev cL_ate : ByteArray := method_4_code
def yL_ate : MethodName := ⟨RL, "ate", "(LCanteenPlan;II[J)I"⟩
abbrev cL_day : ByteArray := method_5_code
def yL_day : MethodName := ⟨RL, "day", "(LCanteenPlan;I[J)I"⟩
abbrev cL_drop : ByteArray := method_6_code
def yL_drop : MethodName := ⟨RL, "drop", "(LCanteenPlan;I[J)I"⟩
abbrev cL_leaves : ByteArray := method_7_code
def yL_leaves : MethodName := ⟨RL, "leaves", "(LCanteenPlan;I[J)I"⟩
abbrev cL_split : ByteArray := method_8_code
def yL_split : MethodName := ⟨RL, "split", "(LCanteenPlan;III[J)I"⟩
abbrev cL_leaf : ByteArray := method_9_code
def yL_leaf : MethodName := ⟨RL, "leaf", "(LCanteenPlan;III[J)I"⟩
abbrev cL_size : ByteArray := method_10_code
def yL_size : MethodName := ⟨RL, "size", "(LCanteenPlan;II[J)I"⟩
abbrev cL_prices : ByteArray := method_11_code
def yL_prices : MethodName := ⟨RL, "prices", "(LCanteenPlan;II)I"⟩
abbrev cL_cost : ByteArray := method_12_code
def yL_cost : MethodName := ⟨RL, "cost", "(LCanteenPlan;III[J)I"⟩
abbrev cL_pots : ByteArray := method_13_code
def yL_pots : MethodName := ⟨RL, "pots", "(LCanteenPlan;IIII[J)I"⟩
abbrev cL_ladle : ByteArray := method_14_code
def yL_ladle : MethodName := ⟨RL, "ladle", "(LCanteenPlan;I[J)I"⟩
abbrev cL_come : ByteArray := method_15_code
def yL_come : MethodName := ⟨RL, "come", "(LCanteenPlan;I[J)I"⟩
abbrev cL_hatch : ByteArray := method_16_code
def yL_hatch : MethodName := ⟨RL, "hatch", "(LCanteenPlan;II[J)I"⟩
abbrev cL_serve : ByteArray := method_17_code
def yL_serve : MethodName := ⟨RL, "serve", "(LCanteenPlan;I[J)I"⟩
abbrev cL_law : ByteArray := code
def yL_law : MethodName := ⟨RL, "law", "([I)Z"⟩
def wsX0_init : List Cond := .code yX0_init cX0_init 1 none :: ([.methodLink RX0 3 objectInit, .instanceMethod objectInit, .code objectInit ⟨#[0xb1]⟩ 1 none, .arrayClass .int, .fieldLink RX0 9 "CanteenPlan$Diary" "told" "[I", .fieldLink RX0 15 "CanteenPlan$Diary" "marksOf" "[I", .arrayClass .boolean, .fieldLink RX0 18 "CanteenPlan$Diary" "isAway" "[Z", .fieldLink RX0 22 "CanteenPlan$Diary" "eaten" "[I", .fieldLink RX0 25 "CanteenPlan$Diary" "facts" "[I"] ++ wsX00)
def wsX0_tell : List Cond := .code yX0_tell cX0_tell 4 (some .int) :: ([.fieldLink RX0 9 "CanteenPlan$Diary" "told" "[I"] ++ wsX00)
def wsX0_add : List Cond := .code yX0_add cX0_add 3 (some .int) :: ([.fieldLink RX0 15 "CanteenPlan$Diary" "marksOf" "[I", .fieldLink RX0 28 "CanteenPlan$Diary" "inAll" "I", .fieldLink RX0 22 "CanteenPlan$Diary" "eaten" "[I", .fieldLink RX0 9 "CanteenPlan$Diary" "told" "[I"] ++ wsX00)
def wsX0_takeAway : List Cond := .code yX0_takeAway cX0_takeAway 2 (some .boolean) :: ([.fieldLink RX0 18 "CanteenPlan$Diary" "isAway" "[Z", .fieldLink RX0 32 "CanteenPlan$Diary" "away" "I"] ++ wsX00)
def wsX0_isInKnot : List Cond := .code yX0_isInKnot cX0_isInKnot 4 (some .boolean) :: ([.fieldLink RX0 18 "CanteenPlan$Diary" "isAway" "[Z", .fieldLink RX0 15 "CanteenPlan$Diary" "marksOf" "[I"] ++ wsX00)
def wsX0_eatenOn : List Cond := .code yX0_eatenOn cX0_eatenOn 3 (some .int) :: ([.fieldLink RX0 22 "CanteenPlan$Diary" "eaten" "[I"] ++ wsX00)
def wsJ7_fill_53178 : List Cond := .code yJ7_fill_53178 cJ7_fill_53178 4 none :: ([])
def wsX0_noteFacts : List Cond := .code yX0_noteFacts cX0_noteFacts 3 none :: ([.fieldLink RX0 25 "CanteenPlan$Diary" "facts" "[I", .methodLink RX0 53 Lib.Math.min.name, .static Lib.Math.min.name, .initialized "java/lang/Math", .code Lib.Math.min.name Lib.Math.min.code 2 (some .int), .methodLink RX0 58 Lib.Math.max.name, .static Lib.Math.max.name, .code Lib.Math.max.name Lib.Math.max.code 2 (some .int)] ++ wsX00)
def wsX0_factOf_r1 : List Cond := [Cond.fieldLink RX0 25 "CanteenPlan$Diary" "facts" "[I", Cond.fieldLink RX0 28 "CanteenPlan$Diary" "inAll" "I", Cond.methodLink RX0 35 yJ7_fill_53178, Cond.static yJ7_fill_53178, Cond.initialized RJ7, Cond.code yJ7_fill_53178 cJ7_fill_53178 4 none, Cond.methodLink RX0 41 yX0_isInKnot, Cond.instanceMethod yX0_isInKnot, Cond.selects RX0 yX0_isInKnot yX0_isInKnot, Cond.initialized RX0, Cond.code yX0_isInKnot cX0_isInKnot 4 (some .boolean), Cond.fieldLink RX0 18 "CanteenPlan$Diary" "isAway" "[Z", Cond.fieldLink RX0 15 "CanteenPlan$Diary" "marksOf" "[I", Cond.methodLink RX0 45 yX0_eatenOn, Cond.instanceMethod yX0_eatenOn, Cond.selects RX0 yX0_eatenOn yX0_eatenOn, Cond.code yX0_eatenOn cX0_eatenOn 3 (some .int), Cond.fieldLink RX0 22 "CanteenPlan$Diary" "eaten" "[I", Cond.methodLink RX0 49 yX0_noteFacts, Cond.instanceMethod yX0_noteFacts, Cond.selects RX0 yX0_noteFacts yX0_noteFacts, Cond.code yX0_noteFacts cX0_noteFacts 3 none, Cond.methodLink RX0 53 Lib.Math.min.name, Cond.static Lib.Math.min.name]
def wsX0_factOf_r2 : List Cond := [Cond.initialized "java/lang/Math", Cond.code Lib.Math.min.name Lib.Math.min.code 2 (some .int), Cond.methodLink RX0 58 Lib.Math.max.name, Cond.static Lib.Math.max.name, Cond.code Lib.Math.max.name Lib.Math.max.code 2 (some .int)]
def wsX0_factOf : List Cond := .code yX0_factOf cX0_factOf 6 (some .int) :: ((wsX0_factOf_r1 ++ wsX0_factOf_r2) ++ wsX00)
def wsX1_init : List Cond := .code yX1_init cX1_init 1 none :: ([.methodLink RX1 3 objectInit, .instanceMethod objectInit, .code objectInit ⟨#[0xb1]⟩ 1 none, .arrayClass .int, .fieldLink RX1 9 "CanteenPlan$Hatch" "coming" "[I", .fieldLink RX1 15 "CanteenPlan$Hatch" "facts" "[I"] ++ wsX10)
def wsX1_add : List Cond := .code yX1_add cX1_add 2 (some .int) :: ([.fieldLink RX1 9 "CanteenPlan$Hatch" "coming" "[I", .fieldLink RX1 18 "CanteenPlan$Hatch" "minutes" "I"] ++ wsX10)
def wsX1_clear : List Cond := .code yX1_clear cX1_clear 2 (some .int) :: ([.fieldLink RX1 18 "CanteenPlan$Hatch" "minutes" "I"] ++ wsX10)
def wsX1_waitsOfFirst : List Cond := .code yX1_waitsOfFirst cX1_waitsOfFirst 4 (some .int) :: ([])
def wsX1_noteWaits : List Cond := .code yX1_noteWaits cX1_noteWaits 6 none :: ([.fieldLink RX1 9 "CanteenPlan$Hatch" "coming" "[I", .fieldLink RX1 15 "CanteenPlan$Hatch" "facts" "[I", .methodLink RX1 36 Lib.Math.max.name, .static Lib.Math.max.name, .initialized "java/lang/Math", .code Lib.Math.max.name Lib.Math.max.code 2 (some .int), .methodLink RX1 41 yX1_waitsOfFirst, .static yX1_waitsOfFirst, .initialized RX1, .code yX1_waitsOfFirst cX1_waitsOfFirst 4 (some .int)] ++ wsX10)
def wsX1_factOf : List Cond := .code yX1_factOf cX1_factOf 5 (some .int) :: ([.fieldLink RX1 15 "CanteenPlan$Hatch" "facts" "[I", .fieldLink RX1 18 "CanteenPlan$Hatch" "minutes" "I", .fieldLink RX1 9 "CanteenPlan$Hatch" "coming" "[I", .methodLink RX1 36 Lib.Math.max.name, .static Lib.Math.max.name, .initialized "java/lang/Math", .code Lib.Math.max.name Lib.Math.max.code 2 (some .int), .methodLink RX1 26 yJ7_fill_53178, .static yJ7_fill_53178, .initialized RJ7, .code yJ7_fill_53178 cJ7_fill_53178 4 none, .methodLink RX1 32 yX1_noteWaits, .instanceMethod yX1_noteWaits, .selects RX1 yX1_noteWaits yX1_noteWaits, .initialized RX1, .code yX1_noteWaits cX1_noteWaits 6 none, .methodLink RX1 41 yX1_waitsOfFirst, .static yX1_waitsOfFirst, .code yX1_waitsOfFirst cX1_waitsOfFirst 4 (some .int)] ++ wsX10)
def wsX1_leastServed : List Cond := .code yX1_leastServed cX1_leastServed 3 (some .int) :: ([.methodLink RX1 22 yX1_factOf, .instanceMethod yX1_factOf, .selects RX1 yX1_factOf yX1_factOf, .initialized RX1, .code yX1_factOf cX1_factOf 5 (some .int), .fieldLink RX1 15 "CanteenPlan$Hatch" "facts" "[I", .fieldLink RX1 18 "CanteenPlan$Hatch" "minutes" "I", .fieldLink RX1 9 "CanteenPlan$Hatch" "coming" "[I", .methodLink RX1 36 Lib.Math.max.name, .static Lib.Math.max.name, .initialized "java/lang/Math", .code Lib.Math.max.name Lib.Math.max.code 2 (some .int), .methodLink RX1 26 yJ7_fill_53178, .static yJ7_fill_53178, .initialized RJ7, .code yJ7_fill_53178 cJ7_fill_53178 4 none, .methodLink RX1 32 yX1_noteWaits, .instanceMethod yX1_noteWaits, .selects RX1 yX1_noteWaits yX1_noteWaits, .code yX1_noteWaits cX1_noteWaits 6 none, .methodLink RX1 41 yX1_waitsOfFirst, .static yX1_waitsOfFirst, .code yX1_waitsOfFirst cX1_waitsOfFirst 4 (some .int)] ++ wsX10)
def wsX2_init : List Cond := .code yX2_init cX2_init 1 none :: ([.methodLink RX2 3 objectInit, .instanceMethod objectInit, .code objectInit ⟨#[0xb1]⟩ 1 none, .arrayClass .int, .fieldLink RX2 9 "CanteenPlan$Kitchen" "portions" "[I", .fieldLink RX2 15 "CanteenPlan$Kitchen" "price" "[I", .fieldLink RX2 18 "CanteenPlan$Kitchen" "waste" "I", .fieldLink RX2 22 "CanteenPlan$Kitchen" "want" "I", .fieldLink RX2 25 "CanteenPlan$Kitchen" "daysUpTo" "[I", .fieldLink RX2 28 "CanteenPlan$Kitchen" "sumUpTo" "[I", .fieldLink RX2 31 "CanteenPlan$Kitchen" "tried" "[I", .fieldLink RX2 34 "CanteenPlan$Kitchen" "best" "[I"] ++ wsX20)
def wsX2_add : List Cond := .code yX2_add cX2_add 3 (some .int) :: ([.fieldLink RX2 9 "CanteenPlan$Kitchen" "portions" "[I", .fieldLink RX2 37 "CanteenPlan$Kitchen" "sizes" "I", .fieldLink RX2 15 "CanteenPlan$Kitchen" "price" "[I"] ++ wsX20)
def wsX2_bestPotsOf : List Cond := .code yX2_bestPotsOf cX2_bestPotsOf 2 (some .int) :: ([.fieldLink RX2 37 "CanteenPlan$Kitchen" "sizes" "I", .fieldLink RX2 34 "CanteenPlan$Kitchen" "best" "[I"] ++ wsX20)
def wsX2_readLeaf : List Cond := .code yX2_readLeaf cX2_readLeaf 6 none :: ([.fieldLink RX2 25 "CanteenPlan$Kitchen" "daysUpTo" "[I", .fieldLink RX2 59 "CanteenPlan$Kitchen" "days" "I", .fieldLink RX2 62 "CanteenPlan$Kitchen" "sum" "I", .fieldLink RX2 28 "CanteenPlan$Kitchen" "sumUpTo" "[I", .methodLink RX2 40 yJ7_fill_53178, .static yJ7_fill_53178, .initialized RJ7, .code yJ7_fill_53178 cJ7_fill_53178 4 none, .instanceMethod yX0_isInKnot, .initialized RX0, .selects RX0 yX0_isInKnot yX0_isInKnot, .code yX0_isInKnot cX0_isInKnot 4 (some .boolean), .fieldLink RX0 18 "CanteenPlan$Diary" "isAway" "[Z", .fieldLink RX0 15 "CanteenPlan$Diary" "marksOf" "[I", .instanceMethod yX0_eatenOn, .selects RX0 yX0_eatenOn yX0_eatenOn, .code yX0_eatenOn cX0_eatenOn 3 (some .int), .fieldLink RX0 22 "CanteenPlan$Diary" "eaten" "[I"] ++ wsX20 ++ wsX00)
def wsX2_mostPots : List Cond := .code yX2_mostPots cX2_mostPots 3 (some .int) :: ([.fieldLink RX2 37 "CanteenPlan$Kitchen" "sizes" "I"] ++ wsX20)
def wsX2_wasteAndWant : List Cond := .code yX2_wasteAndWant cX2_wasteAndWant 7 (some .long) :: ([.methodLink RX2 100 Lib.Math.min.name, .static Lib.Math.min.name, .initialized "java/lang/Math", .code Lib.Math.min.name Lib.Math.min.code 2 (some .int), .fieldLink RX2 25 "CanteenPlan$Kitchen" "daysUpTo" "[I", .fieldLink RX2 28 "CanteenPlan$Kitchen" "sumUpTo" "[I", .fieldLink RX2 62 "CanteenPlan$Kitchen" "sum" "I", .fieldLink RX2 59 "CanteenPlan$Kitchen" "days" "I", .fieldLink RX2 18 "CanteenPlan$Kitchen" "waste" "I", .fieldLink RX2 22 "CanteenPlan$Kitchen" "want" "I"] ++ wsX20)
def wsX2_isBetter : List Cond := .code yX2_isBetter cX2_isBetter 5 (some .boolean) :: ([.fieldLink RX2 84 "CanteenPlan$Kitchen" "bestCost" "J", .fieldLink RX2 88 "CanteenPlan$Kitchen" "bestPortions" "I", .fieldLink RX2 91 "CanteenPlan$Kitchen" "bestPots" "I"] ++ wsX20)
def wsX2_weighTried_r1 : List Cond := [Cond.fieldLink RX2 37 "CanteenPlan$Kitchen" "sizes" "I", Cond.fieldLink RX2 31 "CanteenPlan$Kitchen" "tried" "[I", Cond.fieldLink RX2 9 "CanteenPlan$Kitchen" "portions" "[I", Cond.fieldLink RX2 15 "CanteenPlan$Kitchen" "price" "[I", Cond.fieldLink RX2 59 "CanteenPlan$Kitchen" "days" "I", Cond.fieldLink RX2 65 "CanteenPlan$Kitchen" "hasBest" "Z", Cond.fieldLink RX2 84 "CanteenPlan$Kitchen" "bestCost" "J", Cond.fieldLink RX2 88 "CanteenPlan$Kitchen" "bestPortions" "I", Cond.fieldLink RX2 91 "CanteenPlan$Kitchen" "bestPots" "I", Cond.fieldLink RX2 34 "CanteenPlan$Kitchen" "best" "[I", Cond.methodLink RX2 94 arraycopyName, Cond.native arraycopyName, Cond.static arraycopyName, Cond.initialized "java/lang/System", Cond.methodLink RX2 76 yX2_wasteAndWant, Cond.instanceMethod yX2_wasteAndWant, Cond.selects RX2 yX2_wasteAndWant yX2_wasteAndWant, Cond.initialized RX2, Cond.code yX2_wasteAndWant cX2_wasteAndWant 7 (some .long), Cond.methodLink RX2 100 Lib.Math.min.name, Cond.static Lib.Math.min.name, Cond.initialized "java/lang/Math", Cond.code Lib.Math.min.name Lib.Math.min.code 2 (some .int), Cond.fieldLink RX2 25 "CanteenPlan$Kitchen" "daysUpTo" "[I"]
def wsX2_weighTried_r2 : List Cond := [Cond.fieldLink RX2 28 "CanteenPlan$Kitchen" "sumUpTo" "[I", Cond.fieldLink RX2 62 "CanteenPlan$Kitchen" "sum" "I", Cond.fieldLink RX2 18 "CanteenPlan$Kitchen" "waste" "I", Cond.fieldLink RX2 22 "CanteenPlan$Kitchen" "want" "I", Cond.methodLink RX2 80 yX2_isBetter, Cond.instanceMethod yX2_isBetter, Cond.selects RX2 yX2_isBetter yX2_isBetter, Cond.code yX2_isBetter cX2_isBetter 5 (some .boolean)]
def wsX2_weighTried : List Cond := .code yX2_weighTried cX2_weighTried 8 none :: ((wsX2_weighTried_r1 ++ wsX2_weighTried_r2) ++ wsX20)
def wsX2_findBest_r1 : List Cond := [Cond.fieldLink RX2 65 "CanteenPlan$Kitchen" "hasBest" "Z", Cond.fieldLink RX2 31 "CanteenPlan$Kitchen" "tried" "[I", Cond.methodLink RX2 69 yX2_mostPots, Cond.instanceMethod yX2_mostPots, Cond.selects RX2 yX2_mostPots yX2_mostPots, Cond.initialized RX2, Cond.code yX2_mostPots cX2_mostPots 3 (some .int), Cond.fieldLink RX2 37 "CanteenPlan$Kitchen" "sizes" "I", Cond.methodLink RX2 72 yX2_weighTried, Cond.instanceMethod yX2_weighTried, Cond.selects RX2 yX2_weighTried yX2_weighTried, Cond.code yX2_weighTried cX2_weighTried 8 none, Cond.fieldLink RX2 9 "CanteenPlan$Kitchen" "portions" "[I", Cond.fieldLink RX2 15 "CanteenPlan$Kitchen" "price" "[I", Cond.fieldLink RX2 59 "CanteenPlan$Kitchen" "days" "I", Cond.fieldLink RX2 84 "CanteenPlan$Kitchen" "bestCost" "J", Cond.fieldLink RX2 88 "CanteenPlan$Kitchen" "bestPortions" "I", Cond.fieldLink RX2 91 "CanteenPlan$Kitchen" "bestPots" "I", Cond.fieldLink RX2 34 "CanteenPlan$Kitchen" "best" "[I", Cond.methodLink RX2 94 arraycopyName, Cond.native arraycopyName, Cond.static arraycopyName, Cond.initialized "java/lang/System", Cond.methodLink RX2 76 yX2_wasteAndWant]
def wsX2_findBest_r2 : List Cond := [Cond.instanceMethod yX2_wasteAndWant, Cond.selects RX2 yX2_wasteAndWant yX2_wasteAndWant, Cond.code yX2_wasteAndWant cX2_wasteAndWant 7 (some .long), Cond.methodLink RX2 100 Lib.Math.min.name, Cond.static Lib.Math.min.name, Cond.initialized "java/lang/Math", Cond.code Lib.Math.min.name Lib.Math.min.code 2 (some .int), Cond.fieldLink RX2 25 "CanteenPlan$Kitchen" "daysUpTo" "[I", Cond.fieldLink RX2 28 "CanteenPlan$Kitchen" "sumUpTo" "[I", Cond.fieldLink RX2 62 "CanteenPlan$Kitchen" "sum" "I", Cond.fieldLink RX2 18 "CanteenPlan$Kitchen" "waste" "I", Cond.fieldLink RX2 22 "CanteenPlan$Kitchen" "want" "I", Cond.methodLink RX2 80 yX2_isBetter, Cond.instanceMethod yX2_isBetter, Cond.selects RX2 yX2_isBetter yX2_isBetter, Cond.code yX2_isBetter cX2_isBetter 5 (some .boolean)]
def wsX2_findBest : List Cond := .code yX2_findBest cX2_findBest 6 none :: ((wsX2_findBest_r1 ++ wsX2_findBest_r2) ++ wsX20)
def wsX3_init : List Cond := .code yX3_init cX3_init 1 none :: ([.methodLink RX3 3 objectInit, .instanceMethod objectInit, .code objectInit ⟨#[0xb1]⟩ 1 none, .arrayClass .int, .fieldLink RX3 9 "CanteenPlan$Menu" "in" "[I", .fieldLink RX3 15 "CanteenPlan$Menu" "barred" "[I", .fieldLink RX3 18 "CanteenPlan$Menu" "ladleOf" "[I"] ++ wsX30)
def wsX3_add : List Cond := .code yX3_add cX3_add 3 (some .int) :: ([.fieldLink RX3 9 "CanteenPlan$Menu" "in" "[I", .fieldLink RX3 21 "CanteenPlan$Menu" "meals" "I", .fieldLink RX3 15 "CanteenPlan$Menu" "barred" "[I"] ++ wsX30)
def wsX3_canMeet : List Cond := .code yX3_canMeet cX3_canMeet 3 (some .boolean) :: ([.fieldLink RX3 9 "CanteenPlan$Menu" "in" "[I", .fieldLink RX3 15 "CanteenPlan$Menu" "barred" "[I"] ++ wsX30)
def wsX3_canTake : List Cond := .code yX3_canTake cX3_canTake 4 (some .boolean) :: ([.fieldLink RX3 18 "CanteenPlan$Menu" "ladleOf" "[I", .methodLink RX3 25 yX3_canMeet, .instanceMethod yX3_canMeet, .selects RX3 yX3_canMeet yX3_canMeet, .initialized RX3, .code yX3_canMeet cX3_canMeet 3 (some .boolean), .fieldLink RX3 9 "CanteenPlan$Menu" "in" "[I", .fieldLink RX3 15 "CanteenPlan$Menu" "barred" "[I"] ++ wsX30)
def wsX3_dealFrom : List Cond := .code yX3_dealFrom cX3_dealFrom 5 (some .boolean) :: ([.fieldLink RX3 21 "CanteenPlan$Menu" "meals" "I", .fieldLink RX3 18 "CanteenPlan$Menu" "ladleOf" "[I", .methodLink RX3 36 Lib.Math.max.name, .static Lib.Math.max.name, .initialized "java/lang/Math", .code Lib.Math.max.name Lib.Math.max.code 2 (some .int), .methodLink RX3 33 yX3_canTake, .instanceMethod yX3_canTake, .selects RX3 yX3_canTake yX3_canTake, .initialized RX3, .code yX3_canTake cX3_canTake 4 (some .boolean), .methodLink RX3 25 yX3_canMeet, .instanceMethod yX3_canMeet, .selects RX3 yX3_canMeet yX3_canMeet, .code yX3_canMeet cX3_canMeet 3 (some .boolean), .fieldLink RX3 9 "CanteenPlan$Menu" "in" "[I", .fieldLink RX3 15 "CanteenPlan$Menu" "barred" "[I", .methodLink RX3 29 yX3_dealFrom, .instanceMethod yX3_dealFrom, .selects RX3 yX3_dealFrom yX3_dealFrom] ++ wsX30)
def wsX3_deal : List Cond := .code yX3_deal cX3_deal 2 (some .int) :: ([.fieldLink RX3 21 "CanteenPlan$Menu" "meals" "I", .methodLink RX3 25 yX3_canMeet, .instanceMethod yX3_canMeet, .selects RX3 yX3_canMeet yX3_canMeet, .initialized RX3, .code yX3_canMeet cX3_canMeet 3 (some .boolean), .fieldLink RX3 9 "CanteenPlan$Menu" "in" "[I", .fieldLink RX3 15 "CanteenPlan$Menu" "barred" "[I", .methodLink RX3 29 yX3_dealFrom, .instanceMethod yX3_dealFrom, .selects RX3 yX3_dealFrom yX3_dealFrom, .code yX3_dealFrom cX3_dealFrom 5 (some .boolean), .fieldLink RX3 18 "CanteenPlan$Menu" "ladleOf" "[I", .methodLink RX3 36 Lib.Math.max.name, .static Lib.Math.max.name, .initialized "java/lang/Math", .code Lib.Math.max.name Lib.Math.max.code 2 (some .int), .methodLink RX3 33 yX3_canTake, .instanceMethod yX3_canTake, .selects RX3 yX3_canTake yX3_canTake, .code yX3_canTake cX3_canTake 4 (some .boolean)] ++ wsX30)
def wsX4_init : List Cond := .code yX4_init cX4_init 2 none :: ([.methodLink RX4 3 objectInit, .instanceMethod objectInit, .code objectInit ⟨#[0xb1]⟩ 1 none, .arrayClass .int, .fieldLink RX4 9 "CanteenPlan$Tree" "daysWith" "[I", .fieldLink RX4 15 "CanteenPlan$Tree" "sumWith" "[I", .fieldLink RX4 18 "CanteenPlan$Tree" "diary" "LCanteenPlan$Diary;"] ++ wsX40)
def wsX4_readDay : List Cond := .code yX4_readDay cX4_readDay 4 none :: ([.fieldLink RX4 34 "CanteenPlan$Tree" "days" "I", .fieldLink RX4 44 "CanteenPlan$Tree" "sum" "I", .fieldLink RX4 9 "CanteenPlan$Tree" "daysWith" "[I", .fieldLink RX4 15 "CanteenPlan$Tree" "sumWith" "[I"] ++ wsX40)
def wsX4_readKnot : List Cond := .code yX4_readKnot cX4_readKnot 5 none :: ([.fieldLink RX4 34 "CanteenPlan$Tree" "days" "I", .fieldLink RX4 44 "CanteenPlan$Tree" "sum" "I", .fieldLink RX4 9 "CanteenPlan$Tree" "daysWith" "[I", .fieldLink RX4 15 "CanteenPlan$Tree" "sumWith" "[I", .fieldLink RX4 18 "CanteenPlan$Tree" "diary" "LCanteenPlan$Diary;", .methodLink RX4 47 yJ7_fill_53178, .static yJ7_fill_53178, .initialized RJ7, .code yJ7_fill_53178 cJ7_fill_53178 4 none, .instanceMethod yX0_isInKnot, .initialized RX0, .selects RX0 yX0_isInKnot yX0_isInKnot, .code yX0_isInKnot cX0_isInKnot 4 (some .boolean), .fieldLink RX0 18 "CanteenPlan$Diary" "isAway" "[Z", .fieldLink RX0 15 "CanteenPlan$Diary" "marksOf" "[I", .instanceMethod yX0_eatenOn, .selects RX0 yX0_eatenOn yX0_eatenOn, .code yX0_eatenOn cX0_eatenOn 3 (some .int), .fieldLink RX0 22 "CanteenPlan$Diary" "eaten" "[I", .methodLink RX4 68 yX4_readDay, .instanceMethod yX4_readDay, .selects RX4 yX4_readDay yX4_readDay, .initialized RX4, .code yX4_readDay cX4_readDay 4 none] ++ wsX40 ++ wsX00)
def wsX4_markThatParts_r1 : List Cond := [Cond.fieldLink RX4 34 "CanteenPlan$Tree" "days" "I", Cond.fieldLink RX4 9 "CanteenPlan$Tree" "daysWith" "[I", Cond.methodLink RX4 38 Lib.Math.min.name, Cond.static Lib.Math.min.name, Cond.initialized "java/lang/Math", Cond.code Lib.Math.min.name Lib.Math.min.code 2 (some .int), Cond.fieldLink RX4 15 "CanteenPlan$Tree" "sumWith" "[I", Cond.fieldLink RX4 44 "CanteenPlan$Tree" "sum" "I", Cond.methodLink RX4 30 yX4_readKnot, Cond.instanceMethod yX4_readKnot, Cond.selects RX4 yX4_readKnot yX4_readKnot, Cond.initialized RX4, Cond.code yX4_readKnot cX4_readKnot 5 none, Cond.fieldLink RX4 18 "CanteenPlan$Tree" "diary" "LCanteenPlan$Diary;", Cond.methodLink RX4 47 yJ7_fill_53178, Cond.static yJ7_fill_53178, Cond.initialized RJ7, Cond.code yJ7_fill_53178 cJ7_fill_53178 4 none, Cond.instanceMethod yX0_isInKnot, Cond.initialized RX0, Cond.selects RX0 yX0_isInKnot yX0_isInKnot, Cond.code yX0_isInKnot cX0_isInKnot 4 (some .boolean), Cond.fieldLink RX0 18 "CanteenPlan$Diary" "isAway" "[Z", Cond.fieldLink RX0 15 "CanteenPlan$Diary" "marksOf" "[I"]
def wsX4_markThatParts_r2 : List Cond := [Cond.instanceMethod yX0_eatenOn, Cond.selects RX0 yX0_eatenOn yX0_eatenOn, Cond.code yX0_eatenOn cX0_eatenOn 3 (some .int), Cond.fieldLink RX0 22 "CanteenPlan$Diary" "eaten" "[I", Cond.methodLink RX4 68 yX4_readDay, Cond.instanceMethod yX4_readDay, Cond.selects RX4 yX4_readDay yX4_readDay, Cond.code yX4_readDay cX4_readDay 4 none]
def wsX4_markThatParts : List Cond := .code yX4_markThatParts cX4_markThatParts 18 (some .int) :: ((wsX4_markThatParts_r1 ++ wsX4_markThatParts_r2) ++ wsX40 ++ wsX00)
def wsX4_leavesBelow_r1 : List Cond := [Cond.methodLink RX4 22 yX4_markThatParts, Cond.instanceMethod yX4_markThatParts, Cond.selects RX4 yX4_markThatParts yX4_markThatParts, Cond.initialized RX4, Cond.code yX4_markThatParts cX4_markThatParts 18 (some .int), Cond.fieldLink RX4 34 "CanteenPlan$Tree" "days" "I", Cond.fieldLink RX4 9 "CanteenPlan$Tree" "daysWith" "[I", Cond.methodLink RX4 38 Lib.Math.min.name, Cond.static Lib.Math.min.name, Cond.initialized "java/lang/Math", Cond.code Lib.Math.min.name Lib.Math.min.code 2 (some .int), Cond.fieldLink RX4 15 "CanteenPlan$Tree" "sumWith" "[I", Cond.fieldLink RX4 44 "CanteenPlan$Tree" "sum" "I", Cond.methodLink RX4 30 yX4_readKnot, Cond.instanceMethod yX4_readKnot, Cond.selects RX4 yX4_readKnot yX4_readKnot, Cond.code yX4_readKnot cX4_readKnot 5 none, Cond.fieldLink RX4 18 "CanteenPlan$Tree" "diary" "LCanteenPlan$Diary;", Cond.methodLink RX4 47 yJ7_fill_53178, Cond.static yJ7_fill_53178, Cond.initialized RJ7, Cond.code yJ7_fill_53178 cJ7_fill_53178 4 none, Cond.instanceMethod yX0_isInKnot, Cond.initialized RX0]
def wsX4_leavesBelow_r2 : List Cond := [Cond.selects RX0 yX0_isInKnot yX0_isInKnot, Cond.code yX0_isInKnot cX0_isInKnot 4 (some .boolean), Cond.fieldLink RX0 18 "CanteenPlan$Diary" "isAway" "[Z", Cond.fieldLink RX0 15 "CanteenPlan$Diary" "marksOf" "[I", Cond.instanceMethod yX0_eatenOn, Cond.selects RX0 yX0_eatenOn yX0_eatenOn, Cond.code yX0_eatenOn cX0_eatenOn 3 (some .int), Cond.fieldLink RX0 22 "CanteenPlan$Diary" "eaten" "[I", Cond.methodLink RX4 68 yX4_readDay, Cond.instanceMethod yX4_readDay, Cond.selects RX4 yX4_readDay yX4_readDay, Cond.code yX4_readDay cX4_readDay 4 none, Cond.methodLink RX4 26 yX4_leavesBelow, Cond.instanceMethod yX4_leavesBelow, Cond.selects RX4 yX4_leavesBelow yX4_leavesBelow]
def wsX4_leavesBelow : List Cond := .code yX4_leavesBelow cX4_leavesBelow 7 (some .int) :: ((wsX4_leavesBelow_r1 ++ wsX4_leavesBelow_r2) ++ wsX40 ++ wsX00)
def wsX4_markOnTheWay_r1 : List Cond := [Cond.methodLink RX4 22 yX4_markThatParts, Cond.instanceMethod yX4_markThatParts, Cond.selects RX4 yX4_markThatParts yX4_markThatParts, Cond.initialized RX4, Cond.code yX4_markThatParts cX4_markThatParts 18 (some .int), Cond.fieldLink RX4 34 "CanteenPlan$Tree" "days" "I", Cond.fieldLink RX4 9 "CanteenPlan$Tree" "daysWith" "[I", Cond.methodLink RX4 38 Lib.Math.min.name, Cond.static Lib.Math.min.name, Cond.initialized "java/lang/Math", Cond.code Lib.Math.min.name Lib.Math.min.code 2 (some .int), Cond.fieldLink RX4 15 "CanteenPlan$Tree" "sumWith" "[I", Cond.fieldLink RX4 44 "CanteenPlan$Tree" "sum" "I", Cond.methodLink RX4 30 yX4_readKnot, Cond.instanceMethod yX4_readKnot, Cond.selects RX4 yX4_readKnot yX4_readKnot, Cond.code yX4_readKnot cX4_readKnot 5 none, Cond.fieldLink RX4 18 "CanteenPlan$Tree" "diary" "LCanteenPlan$Diary;", Cond.methodLink RX4 47 yJ7_fill_53178, Cond.static yJ7_fill_53178, Cond.initialized RJ7, Cond.code yJ7_fill_53178 cJ7_fill_53178 4 none, Cond.instanceMethod yX0_isInKnot, Cond.initialized RX0]
def wsX4_markOnTheWay_r2 : List Cond := [Cond.selects RX0 yX0_isInKnot yX0_isInKnot, Cond.code yX0_isInKnot cX0_isInKnot 4 (some .boolean), Cond.fieldLink RX0 18 "CanteenPlan$Diary" "isAway" "[Z", Cond.fieldLink RX0 15 "CanteenPlan$Diary" "marksOf" "[I", Cond.instanceMethod yX0_eatenOn, Cond.selects RX0 yX0_eatenOn yX0_eatenOn, Cond.code yX0_eatenOn cX0_eatenOn 3 (some .int), Cond.fieldLink RX0 22 "CanteenPlan$Diary" "eaten" "[I", Cond.methodLink RX4 68 yX4_readDay, Cond.instanceMethod yX4_readDay, Cond.selects RX4 yX4_readDay yX4_readDay, Cond.code yX4_readDay cX4_readDay 4 none]
def wsX4_markOnTheWay : List Cond := .code yX4_markOnTheWay cX4_markOnTheWay 7 (some .int) :: ((wsX4_markOnTheWay_r1 ++ wsX4_markOnTheWay_r2) ++ wsX40 ++ wsX00)
def wsX4_askedOnTheWay_r1 : List Cond := [Cond.methodLink RX4 22 yX4_markThatParts, Cond.instanceMethod yX4_markThatParts, Cond.selects RX4 yX4_markThatParts yX4_markThatParts, Cond.initialized RX4, Cond.code yX4_markThatParts cX4_markThatParts 18 (some .int), Cond.fieldLink RX4 34 "CanteenPlan$Tree" "days" "I", Cond.fieldLink RX4 9 "CanteenPlan$Tree" "daysWith" "[I", Cond.methodLink RX4 38 Lib.Math.min.name, Cond.static Lib.Math.min.name, Cond.initialized "java/lang/Math", Cond.code Lib.Math.min.name Lib.Math.min.code 2 (some .int), Cond.fieldLink RX4 15 "CanteenPlan$Tree" "sumWith" "[I", Cond.fieldLink RX4 44 "CanteenPlan$Tree" "sum" "I", Cond.methodLink RX4 30 yX4_readKnot, Cond.instanceMethod yX4_readKnot, Cond.selects RX4 yX4_readKnot yX4_readKnot, Cond.code yX4_readKnot cX4_readKnot 5 none, Cond.fieldLink RX4 18 "CanteenPlan$Tree" "diary" "LCanteenPlan$Diary;", Cond.methodLink RX4 47 yJ7_fill_53178, Cond.static yJ7_fill_53178, Cond.initialized RJ7, Cond.code yJ7_fill_53178 cJ7_fill_53178 4 none, Cond.instanceMethod yX0_isInKnot, Cond.initialized RX0]
def wsX4_askedOnTheWay_r2 : List Cond := [Cond.selects RX0 yX0_isInKnot yX0_isInKnot, Cond.code yX0_isInKnot cX0_isInKnot 4 (some .boolean), Cond.fieldLink RX0 18 "CanteenPlan$Diary" "isAway" "[Z", Cond.fieldLink RX0 15 "CanteenPlan$Diary" "marksOf" "[I", Cond.instanceMethod yX0_eatenOn, Cond.selects RX0 yX0_eatenOn yX0_eatenOn, Cond.code yX0_eatenOn cX0_eatenOn 3 (some .int), Cond.fieldLink RX0 22 "CanteenPlan$Diary" "eaten" "[I", Cond.methodLink RX4 68 yX4_readDay, Cond.instanceMethod yX4_readDay, Cond.selects RX4 yX4_readDay yX4_readDay, Cond.code yX4_readDay cX4_readDay 4 none]
def wsX4_askedOnTheWay : List Cond := .code yX4_askedOnTheWay cX4_askedOnTheWay 6 (some .int) :: ((wsX4_askedOnTheWay_r1 ++ wsX4_askedOnTheWay_r2) ++ wsX40 ++ wsX00)
def wsX5_init_r1 : List Cond := [Cond.methodLink RX5 1 objectInit, Cond.instanceMethod objectInit, Cond.code objectInit ⟨#[0xb1]⟩ 1 none, Cond.classLink RX5 7 RX3, Cond.instantiable RX3 4, Cond.initialized RX3, Cond.fieldLink RX5 10 "CanteenPlan" "menu" "LCanteenPlan$Menu;", Cond.classLink RX5 16 RX0, Cond.instantiable RX0 7, Cond.initialized RX0, Cond.fieldLink RX5 19 "CanteenPlan" "diary" "LCanteenPlan$Diary;", Cond.classLink RX5 23 RX4, Cond.instantiable RX4 5, Cond.initialized RX4, Cond.fieldLink RX5 28 "CanteenPlan" "tree" "LCanteenPlan$Tree;", Cond.classLink RX5 32 RX2, Cond.instantiable RX2 15, Cond.initialized RX2, Cond.fieldLink RX5 35 "CanteenPlan" "kitchen" "LCanteenPlan$Kitchen;", Cond.classLink RX5 39 RX1, Cond.instantiable RX1 3, Cond.initialized RX1, Cond.fieldLink RX5 42 "CanteenPlan" "line" "LCanteenPlan$Hatch;", Cond.instanceMethod yX3_init]
def wsX5_init_r2 : List Cond := [Cond.code yX3_init cX3_init 1 none, Cond.methodLink RX3 3 objectInit, Cond.arrayClass .int, Cond.fieldLink RX3 9 "CanteenPlan$Menu" "in" "[I", Cond.fieldLink RX3 15 "CanteenPlan$Menu" "barred" "[I", Cond.fieldLink RX3 18 "CanteenPlan$Menu" "ladleOf" "[I", Cond.instanceMethod yX0_init, Cond.code yX0_init cX0_init 1 none, Cond.methodLink RX0 3 objectInit, Cond.fieldLink RX0 9 "CanteenPlan$Diary" "told" "[I", Cond.fieldLink RX0 15 "CanteenPlan$Diary" "marksOf" "[I", Cond.arrayClass .boolean, Cond.fieldLink RX0 18 "CanteenPlan$Diary" "isAway" "[Z", Cond.fieldLink RX0 22 "CanteenPlan$Diary" "eaten" "[I", Cond.fieldLink RX0 25 "CanteenPlan$Diary" "facts" "[I", Cond.instanceMethod yX4_init, Cond.code yX4_init cX4_init 2 none, Cond.methodLink RX4 3 objectInit, Cond.fieldLink RX4 9 "CanteenPlan$Tree" "daysWith" "[I", Cond.fieldLink RX4 15 "CanteenPlan$Tree" "sumWith" "[I", Cond.fieldLink RX4 18 "CanteenPlan$Tree" "diary" "LCanteenPlan$Diary;", Cond.instanceMethod yX2_init, Cond.code yX2_init cX2_init 1 none, Cond.methodLink RX2 3 objectInit]
def wsX5_init_r3 : List Cond := [Cond.fieldLink RX2 9 "CanteenPlan$Kitchen" "portions" "[I", Cond.fieldLink RX2 15 "CanteenPlan$Kitchen" "price" "[I", Cond.fieldLink RX2 18 "CanteenPlan$Kitchen" "waste" "I", Cond.fieldLink RX2 22 "CanteenPlan$Kitchen" "want" "I", Cond.fieldLink RX2 25 "CanteenPlan$Kitchen" "daysUpTo" "[I", Cond.fieldLink RX2 28 "CanteenPlan$Kitchen" "sumUpTo" "[I", Cond.fieldLink RX2 31 "CanteenPlan$Kitchen" "tried" "[I", Cond.fieldLink RX2 34 "CanteenPlan$Kitchen" "best" "[I", Cond.instanceMethod yX1_init, Cond.code yX1_init cX1_init 1 none, Cond.methodLink RX1 3 objectInit, Cond.fieldLink RX1 9 "CanteenPlan$Hatch" "coming" "[I", Cond.fieldLink RX1 15 "CanteenPlan$Hatch" "facts" "[I"]
def wsX5_init : List Cond := .code yX5_init cX5_init 1 none :: ((wsX5_init_r1 ++ (wsX5_init_r2 ++ wsX5_init_r3)) ++ wsX30 ++ wsX50 ++ wsX00 ++ wsX40 ++ wsX20 ++ wsX10)
def wsX5_needWithin : List Cond := .code yX5_needWithin cX5_needWithin 3 none :: ([.classLink RX5 142 "java/lang/IllegalArgumentException", .initialized "java/lang/IllegalArgumentException"] ++ (vx_atS RX5 146 "java/lang/IllegalArgumentException" ["java/lang/RuntimeException", "java/lang/Exception"]).filter goodWord)
def wsX5_meal : List Cond := .code yX5_meal cX5_meal 3 (some .int) :: ([.classLink RX5 54 "java/lang/IllegalStateException", .initialized "java/lang/IllegalStateException", .fieldLink RX5 10 "CanteenPlan" "menu" "LCanteenPlan$Menu;", .methodLink RX5 46 yX5_needWithin, .static yX5_needWithin, .initialized RX5, .code yX5_needWithin cX5_needWithin 3 none, .classLink RX5 142 "java/lang/IllegalArgumentException", .initialized "java/lang/IllegalArgumentException", .instanceMethod yX3_add, .initialized RX3, .selects RX3 yX3_add yX3_add, .code yX3_add cX3_add 3 (some .int), .fieldLink RX3 9 "CanteenPlan$Menu" "in" "[I", .fieldLink RX3 21 "CanteenPlan$Menu" "meals" "I", .fieldLink RX3 15 "CanteenPlan$Menu" "barred" "[I"] ++ wsX50 ++ wsX30 ++ (vx_atS RX5 58 "java/lang/IllegalStateException" ["java/lang/RuntimeException", "java/lang/Exception"]).filter goodWord ++ (vx_atS RX5 146 "java/lang/IllegalArgumentException" ["java/lang/RuntimeException", "java/lang/Exception"]).filter goodWord)
def wsX5_needMeal : List Cond := .code yX5_needMeal cX5_needMeal 2 none :: ([.classLink RX5 80 "java/lang/IndexOutOfBoundsException", .initialized "java/lang/IndexOutOfBoundsException", .fieldLink RX5 10 "CanteenPlan" "menu" "LCanteenPlan$Menu;"] ++ wsX50 ++ wsX30 ++ (vx_atS RX5 84 "java/lang/IndexOutOfBoundsException" ["java/lang/RuntimeException", "java/lang/Exception"]).filter goodWord)
def wsX5_ate : List Cond := .code yX5_ate cX5_ate 3 (some .int) :: ([.fieldLink RX5 19 "CanteenPlan" "diary" "LCanteenPlan$Diary;", .methodLink RX5 65 yX5_needMeal, .instanceMethod yX5_needMeal, .selects RX5 yX5_needMeal yX5_needMeal, .initialized RX5, .code yX5_needMeal cX5_needMeal 2 none, .classLink RX5 80 "java/lang/IndexOutOfBoundsException", .initialized "java/lang/IndexOutOfBoundsException", .fieldLink RX5 10 "CanteenPlan" "menu" "LCanteenPlan$Menu;", .methodLink RX5 46 yX5_needWithin, .static yX5_needWithin, .code yX5_needWithin cX5_needWithin 3 none, .classLink RX5 142 "java/lang/IllegalArgumentException", .initialized "java/lang/IllegalArgumentException", .instanceMethod yX0_tell, .initialized RX0, .selects RX0 yX0_tell yX0_tell, .code yX0_tell cX0_tell 4 (some .int), .fieldLink RX0 9 "CanteenPlan$Diary" "told" "[I"] ++ wsX50 ++ wsX30 ++ wsX00 ++ (vx_atS RX5 84 "java/lang/IndexOutOfBoundsException" ["java/lang/RuntimeException", "java/lang/Exception"]).filter goodWord ++ (vx_atS RX5 146 "java/lang/IllegalArgumentException" ["java/lang/RuntimeException", "java/lang/Exception"]).filter goodWord)
def wsX5_day : List Cond := .code yX5_day cX5_day 2 (some .int) :: ([.classLink RX5 54 "java/lang/IllegalStateException", .initialized "java/lang/IllegalStateException", .fieldLink RX5 19 "CanteenPlan" "diary" "LCanteenPlan$Diary;", .methodLink RX5 46 yX5_needWithin, .static yX5_needWithin, .initialized RX5, .code yX5_needWithin cX5_needWithin 3 none, .classLink RX5 142 "java/lang/IllegalArgumentException", .initialized "java/lang/IllegalArgumentException", .instanceMethod yX0_add, .initialized RX0, .selects RX0 yX0_add yX0_add, .code yX0_add cX0_add 3 (some .int), .fieldLink RX0 15 "CanteenPlan$Diary" "marksOf" "[I", .fieldLink RX0 28 "CanteenPlan$Diary" "inAll" "I", .fieldLink RX0 22 "CanteenPlan$Diary" "eaten" "[I", .fieldLink RX0 9 "CanteenPlan$Diary" "told" "[I"] ++ wsX50 ++ wsX00 ++ (vx_atS RX5 58 "java/lang/IllegalStateException" ["java/lang/RuntimeException", "java/lang/Exception"]).filter goodWord ++ (vx_atS RX5 146 "java/lang/IllegalArgumentException" ["java/lang/RuntimeException", "java/lang/Exception"]).filter goodWord)
def wsX5_drop : List Cond := .code yX5_drop cX5_drop 2 (some .boolean) :: ([.classLink RX5 80 "java/lang/IndexOutOfBoundsException", .initialized "java/lang/IndexOutOfBoundsException", .fieldLink RX5 19 "CanteenPlan" "diary" "LCanteenPlan$Diary;", .instanceMethod yX0_takeAway, .initialized RX0, .selects RX0 yX0_takeAway yX0_takeAway, .code yX0_takeAway cX0_takeAway 2 (some .boolean), .fieldLink RX0 18 "CanteenPlan$Diary" "isAway" "[Z", .fieldLink RX0 32 "CanteenPlan$Diary" "away" "I"] ++ wsX50 ++ wsX00 ++ (vx_atS RX5 84 "java/lang/IndexOutOfBoundsException" ["java/lang/RuntimeException", "java/lang/Exception"]).filter goodWord)
def wsX5_leaves_r1 : List Cond := [Cond.fieldLink RX5 28 "CanteenPlan" "tree" "LCanteenPlan$Tree;", Cond.methodLink RX5 65 yX5_needMeal, Cond.instanceMethod yX5_needMeal, Cond.selects RX5 yX5_needMeal yX5_needMeal, Cond.initialized RX5, Cond.code yX5_needMeal cX5_needMeal 2 none, Cond.classLink RX5 80 "java/lang/IndexOutOfBoundsException", Cond.initialized "java/lang/IndexOutOfBoundsException", Cond.fieldLink RX5 10 "CanteenPlan" "menu" "LCanteenPlan$Menu;", Cond.instanceMethod yX4_leavesBelow, Cond.initialized RX4, Cond.selects RX4 yX4_leavesBelow yX4_leavesBelow, Cond.code yX4_leavesBelow cX4_leavesBelow 7 (some .int), Cond.methodLink RX4 22 yX4_markThatParts, Cond.instanceMethod yX4_markThatParts, Cond.selects RX4 yX4_markThatParts yX4_markThatParts, Cond.code yX4_markThatParts cX4_markThatParts 18 (some .int), Cond.fieldLink RX4 34 "CanteenPlan$Tree" "days" "I", Cond.fieldLink RX4 9 "CanteenPlan$Tree" "daysWith" "[I", Cond.methodLink RX4 38 Lib.Math.min.name, Cond.static Lib.Math.min.name, Cond.initialized "java/lang/Math", Cond.code Lib.Math.min.name Lib.Math.min.code 2 (some .int), Cond.fieldLink RX4 15 "CanteenPlan$Tree" "sumWith" "[I"]
def wsX5_leaves_r2 : List Cond := [Cond.fieldLink RX4 44 "CanteenPlan$Tree" "sum" "I", Cond.methodLink RX4 30 yX4_readKnot, Cond.instanceMethod yX4_readKnot, Cond.selects RX4 yX4_readKnot yX4_readKnot, Cond.code yX4_readKnot cX4_readKnot 5 none, Cond.fieldLink RX4 18 "CanteenPlan$Tree" "diary" "LCanteenPlan$Diary;", Cond.methodLink RX4 47 yJ7_fill_53178, Cond.static yJ7_fill_53178, Cond.initialized RJ7, Cond.code yJ7_fill_53178 cJ7_fill_53178 4 none, Cond.instanceMethod yX0_isInKnot, Cond.initialized RX0, Cond.selects RX0 yX0_isInKnot yX0_isInKnot, Cond.code yX0_isInKnot cX0_isInKnot 4 (some .boolean), Cond.fieldLink RX0 18 "CanteenPlan$Diary" "isAway" "[Z", Cond.fieldLink RX0 15 "CanteenPlan$Diary" "marksOf" "[I", Cond.instanceMethod yX0_eatenOn, Cond.selects RX0 yX0_eatenOn yX0_eatenOn, Cond.code yX0_eatenOn cX0_eatenOn 3 (some .int), Cond.fieldLink RX0 22 "CanteenPlan$Diary" "eaten" "[I", Cond.methodLink RX4 68 yX4_readDay, Cond.instanceMethod yX4_readDay, Cond.selects RX4 yX4_readDay yX4_readDay, Cond.code yX4_readDay cX4_readDay 4 none]
def wsX5_leaves_r3 : List Cond := [Cond.methodLink RX4 26 yX4_leavesBelow]
def wsX5_leaves : List Cond := .code yX5_leaves cX5_leaves 2 (some .int) :: ((wsX5_leaves_r1 ++ (wsX5_leaves_r2 ++ wsX5_leaves_r3)) ++ wsX50 ++ wsX30 ++ wsX40 ++ wsX00 ++ (vx_atS RX5 84 "java/lang/IndexOutOfBoundsException" ["java/lang/RuntimeException", "java/lang/Exception"]).filter goodWord)
def wsX5_split_r1 : List Cond := [Cond.fieldLink RX5 28 "CanteenPlan" "tree" "LCanteenPlan$Tree;", Cond.methodLink RX5 65 yX5_needMeal, Cond.instanceMethod yX5_needMeal, Cond.selects RX5 yX5_needMeal yX5_needMeal, Cond.initialized RX5, Cond.code yX5_needMeal cX5_needMeal 2 none, Cond.classLink RX5 80 "java/lang/IndexOutOfBoundsException", Cond.initialized "java/lang/IndexOutOfBoundsException", Cond.fieldLink RX5 10 "CanteenPlan" "menu" "LCanteenPlan$Menu;", Cond.methodLink RX5 46 yX5_needWithin, Cond.static yX5_needWithin, Cond.code yX5_needWithin cX5_needWithin 3 none, Cond.classLink RX5 142 "java/lang/IllegalArgumentException", Cond.initialized "java/lang/IllegalArgumentException", Cond.instanceMethod yX4_markOnTheWay, Cond.initialized RX4, Cond.selects RX4 yX4_markOnTheWay yX4_markOnTheWay, Cond.code yX4_markOnTheWay cX4_markOnTheWay 7 (some .int), Cond.methodLink RX4 22 yX4_markThatParts, Cond.instanceMethod yX4_markThatParts, Cond.selects RX4 yX4_markThatParts yX4_markThatParts, Cond.code yX4_markThatParts cX4_markThatParts 18 (some .int), Cond.fieldLink RX4 34 "CanteenPlan$Tree" "days" "I", Cond.fieldLink RX4 9 "CanteenPlan$Tree" "daysWith" "[I"]
def wsX5_split_r2 : List Cond := [Cond.methodLink RX4 38 Lib.Math.min.name, Cond.static Lib.Math.min.name, Cond.initialized "java/lang/Math", Cond.code Lib.Math.min.name Lib.Math.min.code 2 (some .int), Cond.fieldLink RX4 15 "CanteenPlan$Tree" "sumWith" "[I", Cond.fieldLink RX4 44 "CanteenPlan$Tree" "sum" "I", Cond.methodLink RX4 30 yX4_readKnot, Cond.instanceMethod yX4_readKnot, Cond.selects RX4 yX4_readKnot yX4_readKnot, Cond.code yX4_readKnot cX4_readKnot 5 none, Cond.fieldLink RX4 18 "CanteenPlan$Tree" "diary" "LCanteenPlan$Diary;", Cond.methodLink RX4 47 yJ7_fill_53178, Cond.static yJ7_fill_53178, Cond.initialized RJ7, Cond.code yJ7_fill_53178 cJ7_fill_53178 4 none, Cond.instanceMethod yX0_isInKnot, Cond.initialized RX0, Cond.selects RX0 yX0_isInKnot yX0_isInKnot, Cond.code yX0_isInKnot cX0_isInKnot 4 (some .boolean), Cond.fieldLink RX0 18 "CanteenPlan$Diary" "isAway" "[Z", Cond.fieldLink RX0 15 "CanteenPlan$Diary" "marksOf" "[I", Cond.instanceMethod yX0_eatenOn, Cond.selects RX0 yX0_eatenOn yX0_eatenOn, Cond.code yX0_eatenOn cX0_eatenOn 3 (some .int)]
def wsX5_split_r3 : List Cond := [Cond.fieldLink RX0 22 "CanteenPlan$Diary" "eaten" "[I", Cond.methodLink RX4 68 yX4_readDay, Cond.instanceMethod yX4_readDay, Cond.selects RX4 yX4_readDay yX4_readDay, Cond.code yX4_readDay cX4_readDay 4 none]
def wsX5_split : List Cond := .code yX5_split cX5_split 4 (some .int) :: ((wsX5_split_r1 ++ (wsX5_split_r2 ++ wsX5_split_r3)) ++ wsX50 ++ wsX30 ++ wsX40 ++ wsX00 ++ (vx_atS RX5 84 "java/lang/IndexOutOfBoundsException" ["java/lang/RuntimeException", "java/lang/Exception"]).filter goodWord ++ (vx_atS RX5 146 "java/lang/IllegalArgumentException" ["java/lang/RuntimeException", "java/lang/Exception"]).filter goodWord)
def wsX5_leaf_r1 : List Cond := [Cond.fieldLink RX5 19 "CanteenPlan" "diary" "LCanteenPlan$Diary;", Cond.fieldLink RX5 28 "CanteenPlan" "tree" "LCanteenPlan$Tree;", Cond.methodLink RX5 65 yX5_needMeal, Cond.instanceMethod yX5_needMeal, Cond.selects RX5 yX5_needMeal yX5_needMeal, Cond.initialized RX5, Cond.code yX5_needMeal cX5_needMeal 2 none, Cond.classLink RX5 80 "java/lang/IndexOutOfBoundsException", Cond.initialized "java/lang/IndexOutOfBoundsException", Cond.fieldLink RX5 10 "CanteenPlan" "menu" "LCanteenPlan$Menu;", Cond.methodLink RX5 46 yX5_needWithin, Cond.static yX5_needWithin, Cond.code yX5_needWithin cX5_needWithin 3 none, Cond.classLink RX5 142 "java/lang/IllegalArgumentException", Cond.initialized "java/lang/IllegalArgumentException", Cond.instanceMethod yX4_askedOnTheWay, Cond.initialized RX4, Cond.selects RX4 yX4_askedOnTheWay yX4_askedOnTheWay, Cond.code yX4_askedOnTheWay cX4_askedOnTheWay 6 (some .int), Cond.methodLink RX4 22 yX4_markThatParts, Cond.instanceMethod yX4_markThatParts, Cond.selects RX4 yX4_markThatParts yX4_markThatParts, Cond.code yX4_markThatParts cX4_markThatParts 18 (some .int), Cond.fieldLink RX4 34 "CanteenPlan$Tree" "days" "I"]
def wsX5_leaf_r2 : List Cond := [Cond.fieldLink RX4 9 "CanteenPlan$Tree" "daysWith" "[I", Cond.methodLink RX4 38 Lib.Math.min.name, Cond.static Lib.Math.min.name, Cond.initialized "java/lang/Math", Cond.code Lib.Math.min.name Lib.Math.min.code 2 (some .int), Cond.fieldLink RX4 15 "CanteenPlan$Tree" "sumWith" "[I", Cond.fieldLink RX4 44 "CanteenPlan$Tree" "sum" "I", Cond.methodLink RX4 30 yX4_readKnot, Cond.instanceMethod yX4_readKnot, Cond.selects RX4 yX4_readKnot yX4_readKnot, Cond.code yX4_readKnot cX4_readKnot 5 none, Cond.fieldLink RX4 18 "CanteenPlan$Tree" "diary" "LCanteenPlan$Diary;", Cond.methodLink RX4 47 yJ7_fill_53178, Cond.static yJ7_fill_53178, Cond.initialized RJ7, Cond.code yJ7_fill_53178 cJ7_fill_53178 4 none, Cond.instanceMethod yX0_isInKnot, Cond.initialized RX0, Cond.selects RX0 yX0_isInKnot yX0_isInKnot, Cond.code yX0_isInKnot cX0_isInKnot 4 (some .boolean), Cond.fieldLink RX0 18 "CanteenPlan$Diary" "isAway" "[Z", Cond.fieldLink RX0 15 "CanteenPlan$Diary" "marksOf" "[I", Cond.instanceMethod yX0_eatenOn, Cond.selects RX0 yX0_eatenOn yX0_eatenOn]
def wsX5_leaf_r3 : List Cond := [Cond.code yX0_eatenOn cX0_eatenOn 3 (some .int), Cond.fieldLink RX0 22 "CanteenPlan$Diary" "eaten" "[I", Cond.methodLink RX4 68 yX4_readDay, Cond.instanceMethod yX4_readDay, Cond.selects RX4 yX4_readDay yX4_readDay, Cond.code yX4_readDay cX4_readDay 4 none, Cond.instanceMethod yX0_factOf, Cond.selects RX0 yX0_factOf yX0_factOf, Cond.code yX0_factOf cX0_factOf 6 (some .int), Cond.fieldLink RX0 25 "CanteenPlan$Diary" "facts" "[I", Cond.fieldLink RX0 28 "CanteenPlan$Diary" "inAll" "I", Cond.methodLink RX0 35 yJ7_fill_53178, Cond.methodLink RX0 41 yX0_isInKnot, Cond.methodLink RX0 45 yX0_eatenOn, Cond.methodLink RX0 49 yX0_noteFacts, Cond.instanceMethod yX0_noteFacts, Cond.selects RX0 yX0_noteFacts yX0_noteFacts, Cond.code yX0_noteFacts cX0_noteFacts 3 none, Cond.methodLink RX0 53 Lib.Math.min.name, Cond.methodLink RX0 58 Lib.Math.max.name, Cond.static Lib.Math.max.name, Cond.code Lib.Math.max.name Lib.Math.max.code 2 (some .int)]
def wsX5_leaf : List Cond := .code yX5_leaf cX5_leaf 4 (some .int) :: ((wsX5_leaf_r1 ++ (wsX5_leaf_r2 ++ wsX5_leaf_r3)) ++ wsX50 ++ wsX30 ++ wsX40 ++ wsX00 ++ (vx_atS RX5 84 "java/lang/IndexOutOfBoundsException" ["java/lang/RuntimeException", "java/lang/Exception"]).filter goodWord ++ (vx_atS RX5 146 "java/lang/IllegalArgumentException" ["java/lang/RuntimeException", "java/lang/Exception"]).filter goodWord)
def wsX5_size : List Cond := .code yX5_size cX5_size 3 (some .int) :: ([.classLink RX5 54 "java/lang/IllegalStateException", .initialized "java/lang/IllegalStateException", .fieldLink RX5 35 "CanteenPlan" "kitchen" "LCanteenPlan$Kitchen;", .methodLink RX5 46 yX5_needWithin, .static yX5_needWithin, .initialized RX5, .code yX5_needWithin cX5_needWithin 3 none, .classLink RX5 142 "java/lang/IllegalArgumentException", .initialized "java/lang/IllegalArgumentException", .instanceMethod yX2_add, .initialized RX2, .selects RX2 yX2_add yX2_add, .code yX2_add cX2_add 3 (some .int), .fieldLink RX2 9 "CanteenPlan$Kitchen" "portions" "[I", .fieldLink RX2 37 "CanteenPlan$Kitchen" "sizes" "I", .fieldLink RX2 15 "CanteenPlan$Kitchen" "price" "[I"] ++ wsX50 ++ wsX20 ++ (vx_atS RX5 58 "java/lang/IllegalStateException" ["java/lang/RuntimeException", "java/lang/Exception"]).filter goodWord ++ (vx_atS RX5 146 "java/lang/IllegalArgumentException" ["java/lang/RuntimeException", "java/lang/Exception"]).filter goodWord)
def wsX5_prices : List Cond := .code yX5_prices cX5_prices 3 none :: ([.fieldLink RX5 35 "CanteenPlan" "kitchen" "LCanteenPlan$Kitchen;", .methodLink RX5 46 yX5_needWithin, .static yX5_needWithin, .initialized RX5, .code yX5_needWithin cX5_needWithin 3 none, .classLink RX5 142 "java/lang/IllegalArgumentException", .initialized "java/lang/IllegalArgumentException"] ++ wsX50 ++ wsX20 ++ (vx_atS RX5 146 "java/lang/IllegalArgumentException" ["java/lang/RuntimeException", "java/lang/Exception"]).filter goodWord)
def wsX5_findBestSet_r1 : List Cond := [Cond.fieldLink RX5 35 "CanteenPlan" "kitchen" "LCanteenPlan$Kitchen;", Cond.fieldLink RX5 19 "CanteenPlan" "diary" "LCanteenPlan$Diary;", Cond.fieldLink RX5 28 "CanteenPlan" "tree" "LCanteenPlan$Tree;", Cond.methodLink RX5 65 yX5_needMeal, Cond.instanceMethod yX5_needMeal, Cond.selects RX5 yX5_needMeal yX5_needMeal, Cond.initialized RX5, Cond.code yX5_needMeal cX5_needMeal 2 none, Cond.classLink RX5 80 "java/lang/IndexOutOfBoundsException", Cond.initialized "java/lang/IndexOutOfBoundsException", Cond.fieldLink RX5 10 "CanteenPlan" "menu" "LCanteenPlan$Menu;", Cond.methodLink RX5 46 yX5_needWithin, Cond.static yX5_needWithin, Cond.code yX5_needWithin cX5_needWithin 3 none, Cond.classLink RX5 142 "java/lang/IllegalArgumentException", Cond.initialized "java/lang/IllegalArgumentException", Cond.instanceMethod yX4_askedOnTheWay, Cond.initialized RX4, Cond.selects RX4 yX4_askedOnTheWay yX4_askedOnTheWay, Cond.code yX4_askedOnTheWay cX4_askedOnTheWay 6 (some .int), Cond.methodLink RX4 22 yX4_markThatParts, Cond.instanceMethod yX4_markThatParts, Cond.selects RX4 yX4_markThatParts yX4_markThatParts, Cond.code yX4_markThatParts cX4_markThatParts 18 (some .int)]
def wsX5_findBestSet_r2 : List Cond := [Cond.fieldLink RX4 34 "CanteenPlan$Tree" "days" "I", Cond.fieldLink RX4 9 "CanteenPlan$Tree" "daysWith" "[I", Cond.methodLink RX4 38 Lib.Math.min.name, Cond.static Lib.Math.min.name, Cond.initialized "java/lang/Math", Cond.code Lib.Math.min.name Lib.Math.min.code 2 (some .int), Cond.fieldLink RX4 15 "CanteenPlan$Tree" "sumWith" "[I", Cond.fieldLink RX4 44 "CanteenPlan$Tree" "sum" "I", Cond.methodLink RX4 30 yX4_readKnot, Cond.instanceMethod yX4_readKnot, Cond.selects RX4 yX4_readKnot yX4_readKnot, Cond.code yX4_readKnot cX4_readKnot 5 none, Cond.fieldLink RX4 18 "CanteenPlan$Tree" "diary" "LCanteenPlan$Diary;", Cond.methodLink RX4 47 yJ7_fill_53178, Cond.static yJ7_fill_53178, Cond.initialized RJ7, Cond.code yJ7_fill_53178 cJ7_fill_53178 4 none, Cond.instanceMethod yX0_isInKnot, Cond.initialized RX0, Cond.selects RX0 yX0_isInKnot yX0_isInKnot, Cond.code yX0_isInKnot cX0_isInKnot 4 (some .boolean), Cond.fieldLink RX0 18 "CanteenPlan$Diary" "isAway" "[Z", Cond.fieldLink RX0 15 "CanteenPlan$Diary" "marksOf" "[I", Cond.instanceMethod yX0_eatenOn]
def wsX5_findBestSet_r3 : List Cond := [Cond.selects RX0 yX0_eatenOn yX0_eatenOn, Cond.code yX0_eatenOn cX0_eatenOn 3 (some .int), Cond.fieldLink RX0 22 "CanteenPlan$Diary" "eaten" "[I", Cond.methodLink RX4 68 yX4_readDay, Cond.instanceMethod yX4_readDay, Cond.selects RX4 yX4_readDay yX4_readDay, Cond.code yX4_readDay cX4_readDay 4 none, Cond.instanceMethod yX2_readLeaf, Cond.initialized RX2, Cond.selects RX2 yX2_readLeaf yX2_readLeaf, Cond.code yX2_readLeaf cX2_readLeaf 6 none, Cond.fieldLink RX2 25 "CanteenPlan$Kitchen" "daysUpTo" "[I", Cond.fieldLink RX2 59 "CanteenPlan$Kitchen" "days" "I", Cond.fieldLink RX2 62 "CanteenPlan$Kitchen" "sum" "I", Cond.fieldLink RX2 28 "CanteenPlan$Kitchen" "sumUpTo" "[I", Cond.methodLink RX2 40 yJ7_fill_53178, Cond.instanceMethod yX2_findBest, Cond.selects RX2 yX2_findBest yX2_findBest, Cond.code yX2_findBest cX2_findBest 6 none, Cond.fieldLink RX2 65 "CanteenPlan$Kitchen" "hasBest" "Z", Cond.fieldLink RX2 31 "CanteenPlan$Kitchen" "tried" "[I", Cond.methodLink RX2 69 yX2_mostPots, Cond.instanceMethod yX2_mostPots, Cond.selects RX2 yX2_mostPots yX2_mostPots]
def wsX5_findBestSet_r4 : List Cond := [Cond.code yX2_mostPots cX2_mostPots 3 (some .int), Cond.fieldLink RX2 37 "CanteenPlan$Kitchen" "sizes" "I", Cond.methodLink RX2 72 yX2_weighTried, Cond.instanceMethod yX2_weighTried, Cond.selects RX2 yX2_weighTried yX2_weighTried, Cond.code yX2_weighTried cX2_weighTried 8 none, Cond.fieldLink RX2 9 "CanteenPlan$Kitchen" "portions" "[I", Cond.fieldLink RX2 15 "CanteenPlan$Kitchen" "price" "[I", Cond.fieldLink RX2 84 "CanteenPlan$Kitchen" "bestCost" "J", Cond.fieldLink RX2 88 "CanteenPlan$Kitchen" "bestPortions" "I", Cond.fieldLink RX2 91 "CanteenPlan$Kitchen" "bestPots" "I", Cond.fieldLink RX2 34 "CanteenPlan$Kitchen" "best" "[I", Cond.methodLink RX2 94 arraycopyName, Cond.native arraycopyName, Cond.static arraycopyName, Cond.initialized "java/lang/System", Cond.methodLink RX2 76 yX2_wasteAndWant, Cond.instanceMethod yX2_wasteAndWant, Cond.selects RX2 yX2_wasteAndWant yX2_wasteAndWant, Cond.code yX2_wasteAndWant cX2_wasteAndWant 7 (some .long), Cond.methodLink RX2 100 Lib.Math.min.name, Cond.fieldLink RX2 18 "CanteenPlan$Kitchen" "waste" "I", Cond.fieldLink RX2 22 "CanteenPlan$Kitchen" "want" "I", Cond.methodLink RX2 80 yX2_isBetter]
def wsX5_findBestSet_r5 : List Cond := [Cond.instanceMethod yX2_isBetter, Cond.selects RX2 yX2_isBetter yX2_isBetter, Cond.code yX2_isBetter cX2_isBetter 5 (some .boolean)]
def wsX5_findBestSet : List Cond := .code yX5_findBestSet cX5_findBestSet 4 (some .boolean) :: ((wsX5_findBestSet_r1 ++ (wsX5_findBestSet_r2 ++ (wsX5_findBestSet_r3 ++ (wsX5_findBestSet_r4 ++ wsX5_findBestSet_r5)))) ++ wsX50 ++ wsX20 ++ wsX30 ++ wsX40 ++ wsX00 ++ (vx_atS RX5 84 "java/lang/IndexOutOfBoundsException" ["java/lang/RuntimeException", "java/lang/Exception"]).filter goodWord ++ (vx_atS RX5 146 "java/lang/IllegalArgumentException" ["java/lang/RuntimeException", "java/lang/Exception"]).filter goodWord)
def wsX5_cost_r1 : List Cond := [Cond.fieldLink RX5 35 "CanteenPlan" "kitchen" "LCanteenPlan$Kitchen;", Cond.constantLong RX5 123 (-1), Cond.methodLink RX5 115 yX5_findBestSet, Cond.instanceMethod yX5_findBestSet, Cond.selects RX5 yX5_findBestSet yX5_findBestSet, Cond.initialized RX5, Cond.code yX5_findBestSet cX5_findBestSet 4 (some .boolean), Cond.fieldLink RX5 19 "CanteenPlan" "diary" "LCanteenPlan$Diary;", Cond.fieldLink RX5 28 "CanteenPlan" "tree" "LCanteenPlan$Tree;", Cond.methodLink RX5 65 yX5_needMeal, Cond.instanceMethod yX5_needMeal, Cond.selects RX5 yX5_needMeal yX5_needMeal, Cond.code yX5_needMeal cX5_needMeal 2 none, Cond.classLink RX5 80 "java/lang/IndexOutOfBoundsException", Cond.initialized "java/lang/IndexOutOfBoundsException", Cond.fieldLink RX5 10 "CanteenPlan" "menu" "LCanteenPlan$Menu;", Cond.methodLink RX5 46 yX5_needWithin, Cond.static yX5_needWithin, Cond.code yX5_needWithin cX5_needWithin 3 none, Cond.classLink RX5 142 "java/lang/IllegalArgumentException", Cond.initialized "java/lang/IllegalArgumentException", Cond.instanceMethod yX4_askedOnTheWay, Cond.initialized RX4, Cond.selects RX4 yX4_askedOnTheWay yX4_askedOnTheWay]
def wsX5_cost_r2 : List Cond := [Cond.code yX4_askedOnTheWay cX4_askedOnTheWay 6 (some .int), Cond.methodLink RX4 22 yX4_markThatParts, Cond.instanceMethod yX4_markThatParts, Cond.selects RX4 yX4_markThatParts yX4_markThatParts, Cond.code yX4_markThatParts cX4_markThatParts 18 (some .int), Cond.fieldLink RX4 34 "CanteenPlan$Tree" "days" "I", Cond.fieldLink RX4 9 "CanteenPlan$Tree" "daysWith" "[I", Cond.methodLink RX4 38 Lib.Math.min.name, Cond.static Lib.Math.min.name, Cond.initialized "java/lang/Math", Cond.code Lib.Math.min.name Lib.Math.min.code 2 (some .int), Cond.fieldLink RX4 15 "CanteenPlan$Tree" "sumWith" "[I", Cond.fieldLink RX4 44 "CanteenPlan$Tree" "sum" "I", Cond.methodLink RX4 30 yX4_readKnot, Cond.instanceMethod yX4_readKnot, Cond.selects RX4 yX4_readKnot yX4_readKnot, Cond.code yX4_readKnot cX4_readKnot 5 none, Cond.fieldLink RX4 18 "CanteenPlan$Tree" "diary" "LCanteenPlan$Diary;", Cond.methodLink RX4 47 yJ7_fill_53178, Cond.static yJ7_fill_53178, Cond.initialized RJ7, Cond.code yJ7_fill_53178 cJ7_fill_53178 4 none, Cond.instanceMethod yX0_isInKnot, Cond.initialized RX0]
def wsX5_cost_r3 : List Cond := [Cond.selects RX0 yX0_isInKnot yX0_isInKnot, Cond.code yX0_isInKnot cX0_isInKnot 4 (some .boolean), Cond.fieldLink RX0 18 "CanteenPlan$Diary" "isAway" "[Z", Cond.fieldLink RX0 15 "CanteenPlan$Diary" "marksOf" "[I", Cond.instanceMethod yX0_eatenOn, Cond.selects RX0 yX0_eatenOn yX0_eatenOn, Cond.code yX0_eatenOn cX0_eatenOn 3 (some .int), Cond.fieldLink RX0 22 "CanteenPlan$Diary" "eaten" "[I", Cond.methodLink RX4 68 yX4_readDay, Cond.instanceMethod yX4_readDay, Cond.selects RX4 yX4_readDay yX4_readDay, Cond.code yX4_readDay cX4_readDay 4 none, Cond.instanceMethod yX2_readLeaf, Cond.initialized RX2, Cond.selects RX2 yX2_readLeaf yX2_readLeaf, Cond.code yX2_readLeaf cX2_readLeaf 6 none, Cond.fieldLink RX2 25 "CanteenPlan$Kitchen" "daysUpTo" "[I", Cond.fieldLink RX2 59 "CanteenPlan$Kitchen" "days" "I", Cond.fieldLink RX2 62 "CanteenPlan$Kitchen" "sum" "I", Cond.fieldLink RX2 28 "CanteenPlan$Kitchen" "sumUpTo" "[I", Cond.methodLink RX2 40 yJ7_fill_53178, Cond.instanceMethod yX2_findBest, Cond.selects RX2 yX2_findBest yX2_findBest, Cond.code yX2_findBest cX2_findBest 6 none]
def wsX5_cost_r4 : List Cond := [Cond.fieldLink RX2 65 "CanteenPlan$Kitchen" "hasBest" "Z", Cond.fieldLink RX2 31 "CanteenPlan$Kitchen" "tried" "[I", Cond.methodLink RX2 69 yX2_mostPots, Cond.instanceMethod yX2_mostPots, Cond.selects RX2 yX2_mostPots yX2_mostPots, Cond.code yX2_mostPots cX2_mostPots 3 (some .int), Cond.fieldLink RX2 37 "CanteenPlan$Kitchen" "sizes" "I", Cond.methodLink RX2 72 yX2_weighTried, Cond.instanceMethod yX2_weighTried, Cond.selects RX2 yX2_weighTried yX2_weighTried, Cond.code yX2_weighTried cX2_weighTried 8 none, Cond.fieldLink RX2 9 "CanteenPlan$Kitchen" "portions" "[I", Cond.fieldLink RX2 15 "CanteenPlan$Kitchen" "price" "[I", Cond.fieldLink RX2 84 "CanteenPlan$Kitchen" "bestCost" "J", Cond.fieldLink RX2 88 "CanteenPlan$Kitchen" "bestPortions" "I", Cond.fieldLink RX2 91 "CanteenPlan$Kitchen" "bestPots" "I", Cond.fieldLink RX2 34 "CanteenPlan$Kitchen" "best" "[I", Cond.methodLink RX2 94 arraycopyName, Cond.native arraycopyName, Cond.static arraycopyName, Cond.initialized "java/lang/System", Cond.methodLink RX2 76 yX2_wasteAndWant, Cond.instanceMethod yX2_wasteAndWant, Cond.selects RX2 yX2_wasteAndWant yX2_wasteAndWant]
def wsX5_cost_r5 : List Cond := [Cond.code yX2_wasteAndWant cX2_wasteAndWant 7 (some .long), Cond.methodLink RX2 100 Lib.Math.min.name, Cond.fieldLink RX2 18 "CanteenPlan$Kitchen" "waste" "I", Cond.fieldLink RX2 22 "CanteenPlan$Kitchen" "want" "I", Cond.methodLink RX2 80 yX2_isBetter, Cond.instanceMethod yX2_isBetter, Cond.selects RX2 yX2_isBetter yX2_isBetter, Cond.code yX2_isBetter cX2_isBetter 5 (some .boolean)]
def wsX5_cost : List Cond := .code yX5_cost cX5_cost 4 (some .long) :: ((wsX5_cost_r1 ++ (wsX5_cost_r2 ++ (wsX5_cost_r3 ++ (wsX5_cost_r4 ++ wsX5_cost_r5)))) ++ wsX50 ++ wsX20 ++ wsX30 ++ wsX40 ++ wsX00 ++ (vx_atS RX5 84 "java/lang/IndexOutOfBoundsException" ["java/lang/RuntimeException", "java/lang/Exception"]).filter goodWord ++ (vx_atS RX5 146 "java/lang/IllegalArgumentException" ["java/lang/RuntimeException", "java/lang/Exception"]).filter goodWord)
def wsX5_pots_r1 : List Cond := [Cond.fieldLink RX5 35 "CanteenPlan" "kitchen" "LCanteenPlan$Kitchen;", Cond.methodLink RX5 115 yX5_findBestSet, Cond.instanceMethod yX5_findBestSet, Cond.selects RX5 yX5_findBestSet yX5_findBestSet, Cond.initialized RX5, Cond.code yX5_findBestSet cX5_findBestSet 4 (some .boolean), Cond.fieldLink RX5 19 "CanteenPlan" "diary" "LCanteenPlan$Diary;", Cond.fieldLink RX5 28 "CanteenPlan" "tree" "LCanteenPlan$Tree;", Cond.methodLink RX5 65 yX5_needMeal, Cond.instanceMethod yX5_needMeal, Cond.selects RX5 yX5_needMeal yX5_needMeal, Cond.code yX5_needMeal cX5_needMeal 2 none, Cond.classLink RX5 80 "java/lang/IndexOutOfBoundsException", Cond.initialized "java/lang/IndexOutOfBoundsException", Cond.fieldLink RX5 10 "CanteenPlan" "menu" "LCanteenPlan$Menu;", Cond.methodLink RX5 46 yX5_needWithin, Cond.static yX5_needWithin, Cond.code yX5_needWithin cX5_needWithin 3 none, Cond.classLink RX5 142 "java/lang/IllegalArgumentException", Cond.initialized "java/lang/IllegalArgumentException", Cond.instanceMethod yX4_askedOnTheWay, Cond.initialized RX4, Cond.selects RX4 yX4_askedOnTheWay yX4_askedOnTheWay, Cond.code yX4_askedOnTheWay cX4_askedOnTheWay 6 (some .int)]
def wsX5_pots_r2 : List Cond := [Cond.methodLink RX4 22 yX4_markThatParts, Cond.instanceMethod yX4_markThatParts, Cond.selects RX4 yX4_markThatParts yX4_markThatParts, Cond.code yX4_markThatParts cX4_markThatParts 18 (some .int), Cond.fieldLink RX4 34 "CanteenPlan$Tree" "days" "I", Cond.fieldLink RX4 9 "CanteenPlan$Tree" "daysWith" "[I", Cond.methodLink RX4 38 Lib.Math.min.name, Cond.static Lib.Math.min.name, Cond.initialized "java/lang/Math", Cond.code Lib.Math.min.name Lib.Math.min.code 2 (some .int), Cond.fieldLink RX4 15 "CanteenPlan$Tree" "sumWith" "[I", Cond.fieldLink RX4 44 "CanteenPlan$Tree" "sum" "I", Cond.methodLink RX4 30 yX4_readKnot, Cond.instanceMethod yX4_readKnot, Cond.selects RX4 yX4_readKnot yX4_readKnot, Cond.code yX4_readKnot cX4_readKnot 5 none, Cond.fieldLink RX4 18 "CanteenPlan$Tree" "diary" "LCanteenPlan$Diary;", Cond.methodLink RX4 47 yJ7_fill_53178, Cond.static yJ7_fill_53178, Cond.initialized RJ7, Cond.code yJ7_fill_53178 cJ7_fill_53178 4 none, Cond.instanceMethod yX0_isInKnot, Cond.initialized RX0, Cond.selects RX0 yX0_isInKnot yX0_isInKnot]
def wsX5_pots_r3 : List Cond := [Cond.code yX0_isInKnot cX0_isInKnot 4 (some .boolean), Cond.fieldLink RX0 18 "CanteenPlan$Diary" "isAway" "[Z", Cond.fieldLink RX0 15 "CanteenPlan$Diary" "marksOf" "[I", Cond.instanceMethod yX0_eatenOn, Cond.selects RX0 yX0_eatenOn yX0_eatenOn, Cond.code yX0_eatenOn cX0_eatenOn 3 (some .int), Cond.fieldLink RX0 22 "CanteenPlan$Diary" "eaten" "[I", Cond.methodLink RX4 68 yX4_readDay, Cond.instanceMethod yX4_readDay, Cond.selects RX4 yX4_readDay yX4_readDay, Cond.code yX4_readDay cX4_readDay 4 none, Cond.instanceMethod yX2_readLeaf, Cond.initialized RX2, Cond.selects RX2 yX2_readLeaf yX2_readLeaf, Cond.code yX2_readLeaf cX2_readLeaf 6 none, Cond.fieldLink RX2 25 "CanteenPlan$Kitchen" "daysUpTo" "[I", Cond.fieldLink RX2 59 "CanteenPlan$Kitchen" "days" "I", Cond.fieldLink RX2 62 "CanteenPlan$Kitchen" "sum" "I", Cond.fieldLink RX2 28 "CanteenPlan$Kitchen" "sumUpTo" "[I", Cond.methodLink RX2 40 yJ7_fill_53178, Cond.instanceMethod yX2_findBest, Cond.selects RX2 yX2_findBest yX2_findBest, Cond.code yX2_findBest cX2_findBest 6 none, Cond.fieldLink RX2 65 "CanteenPlan$Kitchen" "hasBest" "Z"]
def wsX5_pots_r4 : List Cond := [Cond.fieldLink RX2 31 "CanteenPlan$Kitchen" "tried" "[I", Cond.methodLink RX2 69 yX2_mostPots, Cond.instanceMethod yX2_mostPots, Cond.selects RX2 yX2_mostPots yX2_mostPots, Cond.code yX2_mostPots cX2_mostPots 3 (some .int), Cond.fieldLink RX2 37 "CanteenPlan$Kitchen" "sizes" "I", Cond.methodLink RX2 72 yX2_weighTried, Cond.instanceMethod yX2_weighTried, Cond.selects RX2 yX2_weighTried yX2_weighTried, Cond.code yX2_weighTried cX2_weighTried 8 none, Cond.fieldLink RX2 9 "CanteenPlan$Kitchen" "portions" "[I", Cond.fieldLink RX2 15 "CanteenPlan$Kitchen" "price" "[I", Cond.fieldLink RX2 84 "CanteenPlan$Kitchen" "bestCost" "J", Cond.fieldLink RX2 88 "CanteenPlan$Kitchen" "bestPortions" "I", Cond.fieldLink RX2 91 "CanteenPlan$Kitchen" "bestPots" "I", Cond.fieldLink RX2 34 "CanteenPlan$Kitchen" "best" "[I", Cond.methodLink RX2 94 arraycopyName, Cond.native arraycopyName, Cond.static arraycopyName, Cond.initialized "java/lang/System", Cond.methodLink RX2 76 yX2_wasteAndWant, Cond.instanceMethod yX2_wasteAndWant, Cond.selects RX2 yX2_wasteAndWant yX2_wasteAndWant, Cond.code yX2_wasteAndWant cX2_wasteAndWant 7 (some .long)]
def wsX5_pots_r5 : List Cond := [Cond.methodLink RX2 100 Lib.Math.min.name, Cond.fieldLink RX2 18 "CanteenPlan$Kitchen" "waste" "I", Cond.fieldLink RX2 22 "CanteenPlan$Kitchen" "want" "I", Cond.methodLink RX2 80 yX2_isBetter, Cond.instanceMethod yX2_isBetter, Cond.selects RX2 yX2_isBetter yX2_isBetter, Cond.code yX2_isBetter cX2_isBetter 5 (some .boolean), Cond.instanceMethod yX2_bestPotsOf, Cond.selects RX2 yX2_bestPotsOf yX2_bestPotsOf, Cond.code yX2_bestPotsOf cX2_bestPotsOf 2 (some .int)]
def wsX5_pots : List Cond := .code yX5_pots cX5_pots 5 (some .int) :: ((wsX5_pots_r1 ++ (wsX5_pots_r2 ++ (wsX5_pots_r3 ++ (wsX5_pots_r4 ++ wsX5_pots_r5)))) ++ wsX50 ++ wsX20 ++ wsX30 ++ wsX40 ++ wsX00 ++ (vx_atS RX5 84 "java/lang/IndexOutOfBoundsException" ["java/lang/RuntimeException", "java/lang/Exception"]).filter goodWord ++ (vx_atS RX5 146 "java/lang/IllegalArgumentException" ["java/lang/RuntimeException", "java/lang/Exception"]).filter goodWord)
def wsX5_ladles_r1 : List Cond := [Cond.fieldLink RX5 10 "CanteenPlan" "menu" "LCanteenPlan$Menu;", Cond.instanceMethod yX3_deal, Cond.initialized RX3, Cond.selects RX3 yX3_deal yX3_deal, Cond.code yX3_deal cX3_deal 2 (some .int), Cond.fieldLink RX3 21 "CanteenPlan$Menu" "meals" "I", Cond.methodLink RX3 25 yX3_canMeet, Cond.instanceMethod yX3_canMeet, Cond.selects RX3 yX3_canMeet yX3_canMeet, Cond.code yX3_canMeet cX3_canMeet 3 (some .boolean), Cond.fieldLink RX3 9 "CanteenPlan$Menu" "in" "[I", Cond.fieldLink RX3 15 "CanteenPlan$Menu" "barred" "[I", Cond.methodLink RX3 29 yX3_dealFrom, Cond.instanceMethod yX3_dealFrom, Cond.selects RX3 yX3_dealFrom yX3_dealFrom, Cond.code yX3_dealFrom cX3_dealFrom 5 (some .boolean), Cond.fieldLink RX3 18 "CanteenPlan$Menu" "ladleOf" "[I", Cond.methodLink RX3 36 Lib.Math.max.name, Cond.static Lib.Math.max.name, Cond.initialized "java/lang/Math", Cond.code Lib.Math.max.name Lib.Math.max.code 2 (some .int), Cond.methodLink RX3 33 yX3_canTake, Cond.instanceMethod yX3_canTake, Cond.selects RX3 yX3_canTake yX3_canTake]
def wsX5_ladles_r2 : List Cond := [Cond.code yX3_canTake cX3_canTake 4 (some .boolean)]
def wsX5_ladles : List Cond := .code yX5_ladles cX5_ladles 1 (some .int) :: ((wsX5_ladles_r1 ++ wsX5_ladles_r2) ++ wsX50 ++ wsX30)
def wsX5_ladle_r1 : List Cond := [Cond.fieldLink RX5 10 "CanteenPlan" "menu" "LCanteenPlan$Menu;", Cond.methodLink RX5 65 yX5_needMeal, Cond.instanceMethod yX5_needMeal, Cond.selects RX5 yX5_needMeal yX5_needMeal, Cond.initialized RX5, Cond.code yX5_needMeal cX5_needMeal 2 none, Cond.classLink RX5 80 "java/lang/IndexOutOfBoundsException", Cond.initialized "java/lang/IndexOutOfBoundsException", Cond.instanceMethod yX3_deal, Cond.initialized RX3, Cond.selects RX3 yX3_deal yX3_deal, Cond.code yX3_deal cX3_deal 2 (some .int), Cond.fieldLink RX3 21 "CanteenPlan$Menu" "meals" "I", Cond.methodLink RX3 25 yX3_canMeet, Cond.instanceMethod yX3_canMeet, Cond.selects RX3 yX3_canMeet yX3_canMeet, Cond.code yX3_canMeet cX3_canMeet 3 (some .boolean), Cond.fieldLink RX3 9 "CanteenPlan$Menu" "in" "[I", Cond.fieldLink RX3 15 "CanteenPlan$Menu" "barred" "[I", Cond.methodLink RX3 29 yX3_dealFrom, Cond.instanceMethod yX3_dealFrom, Cond.selects RX3 yX3_dealFrom yX3_dealFrom, Cond.code yX3_dealFrom cX3_dealFrom 5 (some .boolean), Cond.fieldLink RX3 18 "CanteenPlan$Menu" "ladleOf" "[I"]
def wsX5_ladle_r2 : List Cond := [Cond.methodLink RX3 36 Lib.Math.max.name, Cond.static Lib.Math.max.name, Cond.initialized "java/lang/Math", Cond.code Lib.Math.max.name Lib.Math.max.code 2 (some .int), Cond.methodLink RX3 33 yX3_canTake, Cond.instanceMethod yX3_canTake, Cond.selects RX3 yX3_canTake yX3_canTake, Cond.code yX3_canTake cX3_canTake 4 (some .boolean)]
def wsX5_ladle : List Cond := .code yX5_ladle cX5_ladle 2 (some .int) :: ((wsX5_ladle_r1 ++ wsX5_ladle_r2) ++ wsX50 ++ wsX30 ++ (vx_atS RX5 84 "java/lang/IndexOutOfBoundsException" ["java/lang/RuntimeException", "java/lang/Exception"]).filter goodWord)
def wsX5_come : List Cond := .code yX5_come cX5_come 2 (some .int) :: ([.fieldLink RX5 42 "CanteenPlan" "line" "LCanteenPlan$Hatch;", .methodLink RX5 46 yX5_needWithin, .static yX5_needWithin, .initialized RX5, .code yX5_needWithin cX5_needWithin 3 none, .classLink RX5 142 "java/lang/IllegalArgumentException", .initialized "java/lang/IllegalArgumentException", .instanceMethod yX1_add, .initialized RX1, .selects RX1 yX1_add yX1_add, .code yX1_add cX1_add 2 (some .int), .fieldLink RX1 9 "CanteenPlan$Hatch" "coming" "[I", .fieldLink RX1 18 "CanteenPlan$Hatch" "minutes" "I"] ++ wsX50 ++ wsX10 ++ (vx_atS RX5 146 "java/lang/IllegalArgumentException" ["java/lang/RuntimeException", "java/lang/Exception"]).filter goodWord)
def wsX5_hatch_r1 : List Cond := [Cond.fieldLink RX5 42 "CanteenPlan" "line" "LCanteenPlan$Hatch;", Cond.methodLink RX5 46 yX5_needWithin, Cond.static yX5_needWithin, Cond.initialized RX5, Cond.code yX5_needWithin cX5_needWithin 3 none, Cond.classLink RX5 142 "java/lang/IllegalArgumentException", Cond.initialized "java/lang/IllegalArgumentException", Cond.instanceMethod yX1_factOf, Cond.initialized RX1, Cond.selects RX1 yX1_factOf yX1_factOf, Cond.code yX1_factOf cX1_factOf 5 (some .int), Cond.fieldLink RX1 15 "CanteenPlan$Hatch" "facts" "[I", Cond.fieldLink RX1 18 "CanteenPlan$Hatch" "minutes" "I", Cond.fieldLink RX1 9 "CanteenPlan$Hatch" "coming" "[I", Cond.methodLink RX1 36 Lib.Math.max.name, Cond.static Lib.Math.max.name, Cond.initialized "java/lang/Math", Cond.code Lib.Math.max.name Lib.Math.max.code 2 (some .int), Cond.methodLink RX1 26 yJ7_fill_53178, Cond.static yJ7_fill_53178, Cond.initialized RJ7, Cond.code yJ7_fill_53178 cJ7_fill_53178 4 none, Cond.methodLink RX1 32 yX1_noteWaits, Cond.instanceMethod yX1_noteWaits]
def wsX5_hatch_r2 : List Cond := [Cond.selects RX1 yX1_noteWaits yX1_noteWaits, Cond.code yX1_noteWaits cX1_noteWaits 6 none, Cond.methodLink RX1 41 yX1_waitsOfFirst, Cond.static yX1_waitsOfFirst, Cond.code yX1_waitsOfFirst cX1_waitsOfFirst 4 (some .int)]
def wsX5_hatch : List Cond := .code yX5_hatch cX5_hatch 3 (some .int) :: ((wsX5_hatch_r1 ++ wsX5_hatch_r2) ++ wsX50 ++ wsX10 ++ (vx_atS RX5 146 "java/lang/IllegalArgumentException" ["java/lang/RuntimeException", "java/lang/Exception"]).filter goodWord)
def wsX5_serve_r1 : List Cond := [Cond.classLink RX5 142 "java/lang/IllegalArgumentException", Cond.initialized "java/lang/IllegalArgumentException", Cond.fieldLink RX5 42 "CanteenPlan" "line" "LCanteenPlan$Hatch;", Cond.instanceMethod yX1_leastServed, Cond.initialized RX1, Cond.selects RX1 yX1_leastServed yX1_leastServed, Cond.code yX1_leastServed cX1_leastServed 3 (some .int), Cond.methodLink RX1 22 yX1_factOf, Cond.instanceMethod yX1_factOf, Cond.selects RX1 yX1_factOf yX1_factOf, Cond.code yX1_factOf cX1_factOf 5 (some .int), Cond.fieldLink RX1 15 "CanteenPlan$Hatch" "facts" "[I", Cond.fieldLink RX1 18 "CanteenPlan$Hatch" "minutes" "I", Cond.fieldLink RX1 9 "CanteenPlan$Hatch" "coming" "[I", Cond.methodLink RX1 36 Lib.Math.max.name, Cond.static Lib.Math.max.name, Cond.initialized "java/lang/Math", Cond.code Lib.Math.max.name Lib.Math.max.code 2 (some .int), Cond.methodLink RX1 26 yJ7_fill_53178, Cond.static yJ7_fill_53178, Cond.initialized RJ7, Cond.code yJ7_fill_53178 cJ7_fill_53178 4 none, Cond.methodLink RX1 32 yX1_noteWaits, Cond.instanceMethod yX1_noteWaits]
def wsX5_serve_r2 : List Cond := [Cond.selects RX1 yX1_noteWaits yX1_noteWaits, Cond.code yX1_noteWaits cX1_noteWaits 6 none, Cond.methodLink RX1 41 yX1_waitsOfFirst, Cond.static yX1_waitsOfFirst, Cond.code yX1_waitsOfFirst cX1_waitsOfFirst 4 (some .int)]
def wsX5_serve : List Cond := .code yX5_serve cX5_serve 2 (some .int) :: ((wsX5_serve_r1 ++ wsX5_serve_r2) ++ wsX50 ++ wsX10 ++ (vx_atS RX5 146 "java/lang/IllegalArgumentException" ["java/lang/RuntimeException", "java/lang/Exception"]).filter goodWord)
def wsX5_empty : List Cond := .code yX5_empty cX5_empty 1 (some .int) :: ([.fieldLink RX5 42 "CanteenPlan" "line" "LCanteenPlan$Hatch;", .instanceMethod yX1_clear, .initialized RX1, .selects RX1 yX1_clear yX1_clear, .code yX1_clear cX1_clear 2 (some .int), .fieldLink RX1 18 "CanteenPlan$Hatch" "minutes" "I"] ++ wsX50 ++ wsX10)
def wsX5_count : List Cond := .code yX5_count cX5_count 2 (some .int) :: ([.fieldLink RX5 10 "CanteenPlan" "menu" "LCanteenPlan$Menu;", .fieldLink RX5 19 "CanteenPlan" "diary" "LCanteenPlan$Diary;", .fieldLink RX5 35 "CanteenPlan" "kitchen" "LCanteenPlan$Kitchen;", .fieldLink RX5 42 "CanteenPlan" "line" "LCanteenPlan$Hatch;"] ++ wsX50 ++ wsX30 ++ wsX00 ++ wsX20 ++ wsX10)
def wsX6_init : List Cond := .code yX6_init cX6_init 1 none :: ([.methodLink RX6 1 objectInit, .instanceMethod objectInit, .code objectInit ⟨#[0xb1]⟩ 1 none, .arrayClass .int, .fieldLink RX6 9 "CanteenPlanModel" "in" "[I", .fieldLink RX6 13 "CanteenPlanModel" "bars" "[I", .fieldLink RX6 16 "CanteenPlanModel" "next" "[I", .fieldLink RX6 19 "CanteenPlanModel" "marks" "[I", .fieldLink RX6 22 "CanteenPlanModel" "eaten" "[I", .arrayClass .boolean, .fieldLink RX6 25 "CanteenPlanModel" "isThere" "[Z", .fieldLink RX6 29 "CanteenPlanModel" "way" "[I", .fieldLink RX6 32 "CanteenPlanModel" "portions" "[I", .fieldLink RX6 35 "CanteenPlanModel" "price" "[I", .fieldLink RX6 38 "CanteenPlanModel" "waste" "I", .fieldLink RX6 42 "CanteenPlanModel" "want" "I", .fieldLink RX6 45 "CanteenPlanModel" "set" "[I", .fieldLink RX6 48 "CanteenPlanModel" "best" "[I", .fieldLink RX6 51 "CanteenPlanModel" "row" "[I", .fieldLink RX6 54 "CanteenPlanModel" "ladleOf" "[I", .fieldLink RX6 57 "CanteenPlanModel" "came" "[I"] ++ wsX60)
def wsX6_thrown : List Cond := .code yX6_thrown cX6_thrown 1 (some .int) :: ([.fieldLink RX6 60 "CanteenPlanModel" "thrown" "I"] ++ wsX60)
def wsX6_bad : List Cond := .code yX6_bad cX6_bad 3 (some .boolean) :: ([.fieldLink RX6 60 "CanteenPlanModel" "thrown" "I"] ++ wsX60)
def wsX6_isBits : List Cond := .code yX6_isBits cX6_isBits 1 (some .boolean) :: ([])
def wsX6_meal : List Cond := .code yX6_meal cX6_meal 3 (some .int) :: ([.fieldLink RX6 60 "CanteenPlanModel" "thrown" "I", .fieldLink RX6 71 "CanteenPlanModel" "meals" "I", .fieldLink RX6 9 "CanteenPlanModel" "in" "[I", .fieldLink RX6 13 "CanteenPlanModel" "bars" "[I", .methodLink RX6 63 yX6_isBits, .static yX6_isBits, .initialized RX6, .code yX6_isBits cX6_isBits 1 (some .boolean), .methodLink RX6 67 yX6_bad, .instanceMethod yX6_bad, .selects RX6 yX6_bad yX6_bad, .code yX6_bad cX6_bad 3 (some .boolean)] ++ wsX60)
def wsX6_isMeal : List Cond := .code yX6_isMeal cX6_isMeal 2 (some .boolean) :: ([.fieldLink RX6 71 "CanteenPlanModel" "meals" "I", .fieldLink RX6 60 "CanteenPlanModel" "thrown" "I"] ++ wsX60)
def wsX6_ate : List Cond := .code yX6_ate cX6_ate 4 (some .int) :: ([.fieldLink RX6 16 "CanteenPlanModel" "next" "[I", .methodLink RX6 74 yX6_isMeal, .instanceMethod yX6_isMeal, .selects RX6 yX6_isMeal yX6_isMeal, .initialized RX6, .code yX6_isMeal cX6_isMeal 2 (some .boolean), .fieldLink RX6 71 "CanteenPlanModel" "meals" "I", .fieldLink RX6 60 "CanteenPlanModel" "thrown" "I", .methodLink RX6 67 yX6_bad, .instanceMethod yX6_bad, .selects RX6 yX6_bad yX6_bad, .code yX6_bad cX6_bad 3 (some .boolean)] ++ wsX60)
def wsX6_day : List Cond := .code yX6_day cX6_day 3 (some .int) :: ([.fieldLink RX6 60 "CanteenPlanModel" "thrown" "I", .fieldLink RX6 77 "CanteenPlanModel" "days" "I", .fieldLink RX6 19 "CanteenPlanModel" "marks" "[I", .fieldLink RX6 25 "CanteenPlanModel" "isThere" "[Z", .fieldLink RX6 22 "CanteenPlanModel" "eaten" "[I", .fieldLink RX6 71 "CanteenPlanModel" "meals" "I", .fieldLink RX6 16 "CanteenPlanModel" "next" "[I", .methodLink RX6 63 yX6_isBits, .static yX6_isBits, .initialized RX6, .code yX6_isBits cX6_isBits 1 (some .boolean), .methodLink RX6 67 yX6_bad, .instanceMethod yX6_bad, .selects RX6 yX6_bad yX6_bad, .code yX6_bad cX6_bad 3 (some .boolean)] ++ wsX60)
def wsX6_drop : List Cond := .code yX6_drop cX6_drop 3 (some .boolean) :: ([.fieldLink RX6 60 "CanteenPlanModel" "thrown" "I", .fieldLink RX6 77 "CanteenPlanModel" "days" "I", .fieldLink RX6 25 "CanteenPlanModel" "isThere" "[Z", .methodLink RX6 67 yX6_bad, .instanceMethod yX6_bad, .selects RX6 yX6_bad yX6_bad, .initialized RX6, .code yX6_bad cX6_bad 3 (some .boolean)] ++ wsX60)
def wsX6_counts : List Cond := .code yX6_counts cX6_counts 7 none :: ([.fieldLink RX6 80 "CanteenPlanModel" "hasMany" "I", .fieldLink RX6 83 "CanteenPlanModel" "allMany" "I", .fieldLink RX6 86 "CanteenPlanModel" "hasSum" "J", .fieldLink RX6 90 "CanteenPlanModel" "allSum" "J", .fieldLink RX6 77 "CanteenPlanModel" "days" "I", .fieldLink RX6 25 "CanteenPlanModel" "isThere" "[Z", .fieldLink RX6 19 "CanteenPlanModel" "marks" "[I", .fieldLink RX6 22 "CanteenPlanModel" "eaten" "[I"] ++ wsX60)
def wsX6_markOf : List Cond := .code yX6_markOf cX6_markOf 23 (some .int) :: ([.fieldLink RX6 80 "CanteenPlanModel" "hasMany" "I", .fieldLink RX6 83 "CanteenPlanModel" "allMany" "I", .fieldLink RX6 86 "CanteenPlanModel" "hasSum" "J", .fieldLink RX6 90 "CanteenPlanModel" "allSum" "J", .constantLong RX6 97 (2), .methodLink RX6 93 yX6_counts, .instanceMethod yX6_counts, .selects RX6 yX6_counts yX6_counts, .initialized RX6, .code yX6_counts cX6_counts 7 none, .fieldLink RX6 77 "CanteenPlanModel" "days" "I", .fieldLink RX6 25 "CanteenPlanModel" "isThere" "[Z", .fieldLink RX6 19 "CanteenPlanModel" "marks" "[I", .fieldLink RX6 22 "CanteenPlanModel" "eaten" "[I"] ++ wsX60)
def wsX6_leavesOf : List Cond := .code yX6_leavesOf cX6_leavesOf 6 (some .int) :: ([.methodLink RX6 99 yX6_markOf, .instanceMethod yX6_markOf, .selects RX6 yX6_markOf yX6_markOf, .initialized RX6, .code yX6_markOf cX6_markOf 23 (some .int), .fieldLink RX6 80 "CanteenPlanModel" "hasMany" "I", .fieldLink RX6 83 "CanteenPlanModel" "allMany" "I", .fieldLink RX6 86 "CanteenPlanModel" "hasSum" "J", .fieldLink RX6 90 "CanteenPlanModel" "allSum" "J", .constantLong RX6 97 (2), .methodLink RX6 93 yX6_counts, .instanceMethod yX6_counts, .selects RX6 yX6_counts yX6_counts, .code yX6_counts cX6_counts 7 none, .fieldLink RX6 77 "CanteenPlanModel" "days" "I", .fieldLink RX6 25 "CanteenPlanModel" "isThere" "[Z", .fieldLink RX6 19 "CanteenPlanModel" "marks" "[I", .fieldLink RX6 22 "CanteenPlanModel" "eaten" "[I", .methodLink RX6 103 yX6_leavesOf, .instanceMethod yX6_leavesOf, .selects RX6 yX6_leavesOf yX6_leavesOf] ++ wsX60)
def wsX6_leaves_r1 : List Cond := [Cond.methodLink RX6 74 yX6_isMeal, Cond.instanceMethod yX6_isMeal, Cond.selects RX6 yX6_isMeal yX6_isMeal, Cond.initialized RX6, Cond.code yX6_isMeal cX6_isMeal 2 (some .boolean), Cond.fieldLink RX6 71 "CanteenPlanModel" "meals" "I", Cond.fieldLink RX6 60 "CanteenPlanModel" "thrown" "I", Cond.methodLink RX6 103 yX6_leavesOf, Cond.instanceMethod yX6_leavesOf, Cond.selects RX6 yX6_leavesOf yX6_leavesOf, Cond.code yX6_leavesOf cX6_leavesOf 6 (some .int), Cond.methodLink RX6 99 yX6_markOf, Cond.instanceMethod yX6_markOf, Cond.selects RX6 yX6_markOf yX6_markOf, Cond.code yX6_markOf cX6_markOf 23 (some .int), Cond.fieldLink RX6 80 "CanteenPlanModel" "hasMany" "I", Cond.fieldLink RX6 83 "CanteenPlanModel" "allMany" "I", Cond.fieldLink RX6 86 "CanteenPlanModel" "hasSum" "J", Cond.fieldLink RX6 90 "CanteenPlanModel" "allSum" "J", Cond.constantLong RX6 97 (2), Cond.methodLink RX6 93 yX6_counts, Cond.instanceMethod yX6_counts, Cond.selects RX6 yX6_counts yX6_counts, Cond.code yX6_counts cX6_counts 7 none]
def wsX6_leaves_r2 : List Cond := [Cond.fieldLink RX6 77 "CanteenPlanModel" "days" "I", Cond.fieldLink RX6 25 "CanteenPlanModel" "isThere" "[Z", Cond.fieldLink RX6 19 "CanteenPlanModel" "marks" "[I", Cond.fieldLink RX6 22 "CanteenPlanModel" "eaten" "[I"]
def wsX6_leaves : List Cond := .code yX6_leaves cX6_leaves 2 (some .int) :: ((wsX6_leaves_r1 ++ wsX6_leaves_r2) ++ wsX60)
def wsX6_goes : List Cond := .code yX6_goes cX6_goes 4 none :: ([.fieldLink RX6 106 "CanteenPlanModel" "leafMask" "I", .fieldLink RX6 109 "CanteenPlanModel" "leafBits" "I", .fieldLink RX6 112 "CanteenPlanModel" "wayMany" "I", .fieldLink RX6 29 "CanteenPlanModel" "way" "[I", .methodLink RX6 99 yX6_markOf, .instanceMethod yX6_markOf, .selects RX6 yX6_markOf yX6_markOf, .initialized RX6, .code yX6_markOf cX6_markOf 23 (some .int), .fieldLink RX6 80 "CanteenPlanModel" "hasMany" "I", .fieldLink RX6 83 "CanteenPlanModel" "allMany" "I", .fieldLink RX6 86 "CanteenPlanModel" "hasSum" "J", .fieldLink RX6 90 "CanteenPlanModel" "allSum" "J", .constantLong RX6 97 (2), .methodLink RX6 93 yX6_counts, .instanceMethod yX6_counts, .selects RX6 yX6_counts yX6_counts, .code yX6_counts cX6_counts 7 none, .fieldLink RX6 77 "CanteenPlanModel" "days" "I", .fieldLink RX6 25 "CanteenPlanModel" "isThere" "[Z", .fieldLink RX6 19 "CanteenPlanModel" "marks" "[I", .fieldLink RX6 22 "CanteenPlanModel" "eaten" "[I"] ++ wsX60)
def wsX6_isLeafOf : List Cond := .code yX6_isLeafOf cX6_isLeafOf 2 (some .boolean) :: ([.fieldLink RX6 25 "CanteenPlanModel" "isThere" "[Z", .fieldLink RX6 19 "CanteenPlanModel" "marks" "[I", .fieldLink RX6 106 "CanteenPlanModel" "leafMask" "I", .fieldLink RX6 109 "CanteenPlanModel" "leafBits" "I"] ++ wsX60)
def wsX6_split_r1 : List Cond := [Cond.fieldLink RX6 112 "CanteenPlanModel" "wayMany" "I", Cond.fieldLink RX6 29 "CanteenPlanModel" "way" "[I", Cond.methodLink RX6 74 yX6_isMeal, Cond.instanceMethod yX6_isMeal, Cond.selects RX6 yX6_isMeal yX6_isMeal, Cond.initialized RX6, Cond.code yX6_isMeal cX6_isMeal 2 (some .boolean), Cond.fieldLink RX6 71 "CanteenPlanModel" "meals" "I", Cond.fieldLink RX6 60 "CanteenPlanModel" "thrown" "I", Cond.methodLink RX6 63 yX6_isBits, Cond.static yX6_isBits, Cond.code yX6_isBits cX6_isBits 1 (some .boolean), Cond.methodLink RX6 67 yX6_bad, Cond.instanceMethod yX6_bad, Cond.selects RX6 yX6_bad yX6_bad, Cond.code yX6_bad cX6_bad 3 (some .boolean), Cond.methodLink RX6 115 yX6_goes, Cond.instanceMethod yX6_goes, Cond.selects RX6 yX6_goes yX6_goes, Cond.code yX6_goes cX6_goes 4 none, Cond.fieldLink RX6 106 "CanteenPlanModel" "leafMask" "I", Cond.fieldLink RX6 109 "CanteenPlanModel" "leafBits" "I", Cond.methodLink RX6 99 yX6_markOf, Cond.instanceMethod yX6_markOf]
def wsX6_split_r2 : List Cond := [Cond.selects RX6 yX6_markOf yX6_markOf, Cond.code yX6_markOf cX6_markOf 23 (some .int), Cond.fieldLink RX6 80 "CanteenPlanModel" "hasMany" "I", Cond.fieldLink RX6 83 "CanteenPlanModel" "allMany" "I", Cond.fieldLink RX6 86 "CanteenPlanModel" "hasSum" "J", Cond.fieldLink RX6 90 "CanteenPlanModel" "allSum" "J", Cond.constantLong RX6 97 (2), Cond.methodLink RX6 93 yX6_counts, Cond.instanceMethod yX6_counts, Cond.selects RX6 yX6_counts yX6_counts, Cond.code yX6_counts cX6_counts 7 none, Cond.fieldLink RX6 77 "CanteenPlanModel" "days" "I", Cond.fieldLink RX6 25 "CanteenPlanModel" "isThere" "[Z", Cond.fieldLink RX6 19 "CanteenPlanModel" "marks" "[I", Cond.fieldLink RX6 22 "CanteenPlanModel" "eaten" "[I"]
def wsX6_split : List Cond := .code yX6_split cX6_split 4 (some .int) :: ((wsX6_split_r1 ++ wsX6_split_r2) ++ wsX60)
def wsX6_leaf_r1 : List Cond := [Cond.fieldLink RX6 77 "CanteenPlanModel" "days" "I", Cond.fieldLink RX6 22 "CanteenPlanModel" "eaten" "[I", Cond.methodLink RX6 74 yX6_isMeal, Cond.instanceMethod yX6_isMeal, Cond.selects RX6 yX6_isMeal yX6_isMeal, Cond.initialized RX6, Cond.code yX6_isMeal cX6_isMeal 2 (some .boolean), Cond.fieldLink RX6 71 "CanteenPlanModel" "meals" "I", Cond.fieldLink RX6 60 "CanteenPlanModel" "thrown" "I", Cond.methodLink RX6 63 yX6_isBits, Cond.static yX6_isBits, Cond.code yX6_isBits cX6_isBits 1 (some .boolean), Cond.methodLink RX6 67 yX6_bad, Cond.instanceMethod yX6_bad, Cond.selects RX6 yX6_bad yX6_bad, Cond.code yX6_bad cX6_bad 3 (some .boolean), Cond.methodLink RX6 115 yX6_goes, Cond.instanceMethod yX6_goes, Cond.selects RX6 yX6_goes yX6_goes, Cond.code yX6_goes cX6_goes 4 none, Cond.fieldLink RX6 106 "CanteenPlanModel" "leafMask" "I", Cond.fieldLink RX6 109 "CanteenPlanModel" "leafBits" "I", Cond.fieldLink RX6 112 "CanteenPlanModel" "wayMany" "I", Cond.fieldLink RX6 29 "CanteenPlanModel" "way" "[I"]
def wsX6_leaf_r2 : List Cond := [Cond.methodLink RX6 99 yX6_markOf, Cond.instanceMethod yX6_markOf, Cond.selects RX6 yX6_markOf yX6_markOf, Cond.code yX6_markOf cX6_markOf 23 (some .int), Cond.fieldLink RX6 80 "CanteenPlanModel" "hasMany" "I", Cond.fieldLink RX6 83 "CanteenPlanModel" "allMany" "I", Cond.fieldLink RX6 86 "CanteenPlanModel" "hasSum" "J", Cond.fieldLink RX6 90 "CanteenPlanModel" "allSum" "J", Cond.constantLong RX6 97 (2), Cond.methodLink RX6 93 yX6_counts, Cond.instanceMethod yX6_counts, Cond.selects RX6 yX6_counts yX6_counts, Cond.code yX6_counts cX6_counts 7 none, Cond.fieldLink RX6 25 "CanteenPlanModel" "isThere" "[Z", Cond.fieldLink RX6 19 "CanteenPlanModel" "marks" "[I", Cond.methodLink RX6 119 yX6_isLeafOf, Cond.instanceMethod yX6_isLeafOf, Cond.selects RX6 yX6_isLeafOf yX6_isLeafOf, Cond.code yX6_isLeafOf cX6_isLeafOf 2 (some .boolean)]
def wsX6_leaf : List Cond := .code yX6_leaf cX6_leaf 10 (some .int) :: ((wsX6_leaf_r1 ++ wsX6_leaf_r2) ++ wsX60)
def wsX6_size : List Cond := .code yX6_size cX6_size 3 (some .int) :: ([.fieldLink RX6 60 "CanteenPlanModel" "thrown" "I", .fieldLink RX6 122 "CanteenPlanModel" "sizes" "I", .fieldLink RX6 32 "CanteenPlanModel" "portions" "[I", .fieldLink RX6 35 "CanteenPlanModel" "price" "[I", .methodLink RX6 67 yX6_bad, .instanceMethod yX6_bad, .selects RX6 yX6_bad yX6_bad, .initialized RX6, .code yX6_bad cX6_bad 3 (some .boolean)] ++ wsX60)
def wsX6_prices : List Cond := .code yX6_prices cX6_prices 3 none :: ([.fieldLink RX6 60 "CanteenPlanModel" "thrown" "I", .fieldLink RX6 38 "CanteenPlanModel" "waste" "I", .fieldLink RX6 42 "CanteenPlanModel" "want" "I", .methodLink RX6 67 yX6_bad, .instanceMethod yX6_bad, .selects RX6 yX6_bad yX6_bad, .initialized RX6, .code yX6_bad cX6_bad 3 (some .boolean)] ++ wsX60)
def wsX6_costOf : List Cond := .code yX6_costOf cX6_costOf 9 (some .long) :: ([.fieldLink RX6 77 "CanteenPlanModel" "days" "I", .fieldLink RX6 22 "CanteenPlanModel" "eaten" "[I", .fieldLink RX6 38 "CanteenPlanModel" "waste" "I", .fieldLink RX6 42 "CanteenPlanModel" "want" "I", .methodLink RX6 119 yX6_isLeafOf, .instanceMethod yX6_isLeafOf, .selects RX6 yX6_isLeafOf yX6_isLeafOf, .initialized RX6, .code yX6_isLeafOf cX6_isLeafOf 2 (some .boolean), .fieldLink RX6 25 "CanteenPlanModel" "isThere" "[Z", .fieldLink RX6 19 "CanteenPlanModel" "marks" "[I", .fieldLink RX6 106 "CanteenPlanModel" "leafMask" "I", .fieldLink RX6 109 "CanteenPlanModel" "leafBits" "I"] ++ wsX60)
def wsX6_isMore : List Cond := .code yX6_isMore cX6_isMore 2 (some .boolean) :: ([.fieldLink RX6 122 "CanteenPlanModel" "sizes" "I", .fieldLink RX6 45 "CanteenPlanModel" "set" "[I", .fieldLink RX6 48 "CanteenPlanModel" "best" "[I"] ++ wsX60)
def wsX6_takes : List Cond := .code yX6_takes cX6_takes 7 none :: ([.fieldLink RX6 127 "CanteenPlanModel" "bestCost" "J", .fieldLink RX6 142 "CanteenPlanModel" "bestPortions" "I", .fieldLink RX6 145 "CanteenPlanModel" "bestPots" "I", .fieldLink RX6 48 "CanteenPlanModel" "best" "[I", .fieldLink RX6 45 "CanteenPlanModel" "set" "[I", .methodLink RX6 148 yX6_isMore, .instanceMethod yX6_isMore, .selects RX6 yX6_isMore yX6_isMore, .initialized RX6, .code yX6_isMore cX6_isMore 2 (some .boolean), .fieldLink RX6 122 "CanteenPlanModel" "sizes" "I"] ++ wsX60)
def wsX6_upTo : List Cond := .code yX6_upTo cX6_upTo 4 (some .int) :: ([.fieldLink RX6 45 "CanteenPlanModel" "set" "[I"] ++ wsX60)
def wsX6_chooses_r1 : List Cond := [Cond.fieldLink RX6 77 "CanteenPlanModel" "days" "I", Cond.constantLong RX6 125 (-1), Cond.fieldLink RX6 127 "CanteenPlanModel" "bestCost" "J", Cond.fieldLink RX6 45 "CanteenPlanModel" "set" "[I", Cond.fieldLink RX6 122 "CanteenPlanModel" "sizes" "I", Cond.fieldLink RX6 32 "CanteenPlanModel" "portions" "[I", Cond.fieldLink RX6 35 "CanteenPlanModel" "price" "[I", Cond.methodLink RX6 115 yX6_goes, Cond.instanceMethod yX6_goes, Cond.selects RX6 yX6_goes yX6_goes, Cond.initialized RX6, Cond.code yX6_goes cX6_goes 4 none, Cond.fieldLink RX6 106 "CanteenPlanModel" "leafMask" "I", Cond.fieldLink RX6 109 "CanteenPlanModel" "leafBits" "I", Cond.fieldLink RX6 112 "CanteenPlanModel" "wayMany" "I", Cond.fieldLink RX6 29 "CanteenPlanModel" "way" "[I", Cond.methodLink RX6 99 yX6_markOf, Cond.instanceMethod yX6_markOf, Cond.selects RX6 yX6_markOf yX6_markOf, Cond.code yX6_markOf cX6_markOf 23 (some .int), Cond.fieldLink RX6 80 "CanteenPlanModel" "hasMany" "I", Cond.fieldLink RX6 83 "CanteenPlanModel" "allMany" "I", Cond.fieldLink RX6 86 "CanteenPlanModel" "hasSum" "J", Cond.fieldLink RX6 90 "CanteenPlanModel" "allSum" "J"]
def wsX6_chooses_r2 : List Cond := [Cond.constantLong RX6 97 (2), Cond.methodLink RX6 93 yX6_counts, Cond.instanceMethod yX6_counts, Cond.selects RX6 yX6_counts yX6_counts, Cond.code yX6_counts cX6_counts 7 none, Cond.fieldLink RX6 25 "CanteenPlanModel" "isThere" "[Z", Cond.fieldLink RX6 19 "CanteenPlanModel" "marks" "[I", Cond.fieldLink RX6 22 "CanteenPlanModel" "eaten" "[I", Cond.methodLink RX6 119 yX6_isLeafOf, Cond.instanceMethod yX6_isLeafOf, Cond.selects RX6 yX6_isLeafOf yX6_isLeafOf, Cond.code yX6_isLeafOf cX6_isLeafOf 2 (some .boolean), Cond.methodLink RX6 130 yX6_costOf, Cond.instanceMethod yX6_costOf, Cond.selects RX6 yX6_costOf yX6_costOf, Cond.code yX6_costOf cX6_costOf 9 (some .long), Cond.fieldLink RX6 38 "CanteenPlanModel" "waste" "I", Cond.fieldLink RX6 42 "CanteenPlanModel" "want" "I", Cond.methodLink RX6 134 yX6_takes, Cond.instanceMethod yX6_takes, Cond.selects RX6 yX6_takes yX6_takes, Cond.code yX6_takes cX6_takes 7 none, Cond.fieldLink RX6 142 "CanteenPlanModel" "bestPortions" "I", Cond.fieldLink RX6 145 "CanteenPlanModel" "bestPots" "I"]
def wsX6_chooses_r3 : List Cond := [Cond.fieldLink RX6 48 "CanteenPlanModel" "best" "[I", Cond.methodLink RX6 148 yX6_isMore, Cond.instanceMethod yX6_isMore, Cond.selects RX6 yX6_isMore yX6_isMore, Cond.code yX6_isMore cX6_isMore 2 (some .boolean), Cond.methodLink RX6 138 yX6_upTo, Cond.instanceMethod yX6_upTo, Cond.selects RX6 yX6_upTo yX6_upTo, Cond.code yX6_upTo cX6_upTo 4 (some .int)]
def wsX6_chooses : List Cond := .code yX6_chooses cX6_chooses 10 (some .boolean) :: ((wsX6_chooses_r1 ++ (wsX6_chooses_r2 ++ wsX6_chooses_r3)) ++ wsX60)
def wsX6_isAsked : List Cond := .code yX6_isAsked cX6_isAsked 4 (some .boolean) :: ([.methodLink RX6 74 yX6_isMeal, .instanceMethod yX6_isMeal, .selects RX6 yX6_isMeal yX6_isMeal, .initialized RX6, .code yX6_isMeal cX6_isMeal 2 (some .boolean), .fieldLink RX6 71 "CanteenPlanModel" "meals" "I", .fieldLink RX6 60 "CanteenPlanModel" "thrown" "I", .methodLink RX6 63 yX6_isBits, .static yX6_isBits, .code yX6_isBits cX6_isBits 1 (some .boolean), .methodLink RX6 67 yX6_bad, .instanceMethod yX6_bad, .selects RX6 yX6_bad yX6_bad, .code yX6_bad cX6_bad 3 (some .boolean)] ++ wsX60)
def wsX6_cost_r1 : List Cond := [Cond.fieldLink RX6 127 "CanteenPlanModel" "bestCost" "J", Cond.constantLong RX6 125 (-1), Cond.methodLink RX6 152 yX6_isAsked, Cond.instanceMethod yX6_isAsked, Cond.selects RX6 yX6_isAsked yX6_isAsked, Cond.initialized RX6, Cond.code yX6_isAsked cX6_isAsked 4 (some .boolean), Cond.methodLink RX6 74 yX6_isMeal, Cond.instanceMethod yX6_isMeal, Cond.selects RX6 yX6_isMeal yX6_isMeal, Cond.code yX6_isMeal cX6_isMeal 2 (some .boolean), Cond.fieldLink RX6 71 "CanteenPlanModel" "meals" "I", Cond.fieldLink RX6 60 "CanteenPlanModel" "thrown" "I", Cond.methodLink RX6 63 yX6_isBits, Cond.static yX6_isBits, Cond.code yX6_isBits cX6_isBits 1 (some .boolean), Cond.methodLink RX6 67 yX6_bad, Cond.instanceMethod yX6_bad, Cond.selects RX6 yX6_bad yX6_bad, Cond.code yX6_bad cX6_bad 3 (some .boolean), Cond.methodLink RX6 156 yX6_chooses, Cond.instanceMethod yX6_chooses, Cond.selects RX6 yX6_chooses yX6_chooses, Cond.code yX6_chooses cX6_chooses 10 (some .boolean)]
def wsX6_cost_r2 : List Cond := [Cond.fieldLink RX6 77 "CanteenPlanModel" "days" "I", Cond.fieldLink RX6 45 "CanteenPlanModel" "set" "[I", Cond.fieldLink RX6 122 "CanteenPlanModel" "sizes" "I", Cond.fieldLink RX6 32 "CanteenPlanModel" "portions" "[I", Cond.fieldLink RX6 35 "CanteenPlanModel" "price" "[I", Cond.methodLink RX6 115 yX6_goes, Cond.instanceMethod yX6_goes, Cond.selects RX6 yX6_goes yX6_goes, Cond.code yX6_goes cX6_goes 4 none, Cond.fieldLink RX6 106 "CanteenPlanModel" "leafMask" "I", Cond.fieldLink RX6 109 "CanteenPlanModel" "leafBits" "I", Cond.fieldLink RX6 112 "CanteenPlanModel" "wayMany" "I", Cond.fieldLink RX6 29 "CanteenPlanModel" "way" "[I", Cond.methodLink RX6 99 yX6_markOf, Cond.instanceMethod yX6_markOf, Cond.selects RX6 yX6_markOf yX6_markOf, Cond.code yX6_markOf cX6_markOf 23 (some .int), Cond.fieldLink RX6 80 "CanteenPlanModel" "hasMany" "I", Cond.fieldLink RX6 83 "CanteenPlanModel" "allMany" "I", Cond.fieldLink RX6 86 "CanteenPlanModel" "hasSum" "J", Cond.fieldLink RX6 90 "CanteenPlanModel" "allSum" "J", Cond.constantLong RX6 97 (2), Cond.methodLink RX6 93 yX6_counts, Cond.instanceMethod yX6_counts]
def wsX6_cost_r3 : List Cond := [Cond.selects RX6 yX6_counts yX6_counts, Cond.code yX6_counts cX6_counts 7 none, Cond.fieldLink RX6 25 "CanteenPlanModel" "isThere" "[Z", Cond.fieldLink RX6 19 "CanteenPlanModel" "marks" "[I", Cond.fieldLink RX6 22 "CanteenPlanModel" "eaten" "[I", Cond.methodLink RX6 119 yX6_isLeafOf, Cond.instanceMethod yX6_isLeafOf, Cond.selects RX6 yX6_isLeafOf yX6_isLeafOf, Cond.code yX6_isLeafOf cX6_isLeafOf 2 (some .boolean), Cond.methodLink RX6 130 yX6_costOf, Cond.instanceMethod yX6_costOf, Cond.selects RX6 yX6_costOf yX6_costOf, Cond.code yX6_costOf cX6_costOf 9 (some .long), Cond.fieldLink RX6 38 "CanteenPlanModel" "waste" "I", Cond.fieldLink RX6 42 "CanteenPlanModel" "want" "I", Cond.methodLink RX6 134 yX6_takes, Cond.instanceMethod yX6_takes, Cond.selects RX6 yX6_takes yX6_takes, Cond.code yX6_takes cX6_takes 7 none, Cond.fieldLink RX6 142 "CanteenPlanModel" "bestPortions" "I", Cond.fieldLink RX6 145 "CanteenPlanModel" "bestPots" "I", Cond.fieldLink RX6 48 "CanteenPlanModel" "best" "[I", Cond.methodLink RX6 148 yX6_isMore, Cond.instanceMethod yX6_isMore]
def wsX6_cost_r4 : List Cond := [Cond.selects RX6 yX6_isMore yX6_isMore, Cond.code yX6_isMore cX6_isMore 2 (some .boolean), Cond.methodLink RX6 138 yX6_upTo, Cond.instanceMethod yX6_upTo, Cond.selects RX6 yX6_upTo yX6_upTo, Cond.code yX6_upTo cX6_upTo 4 (some .int)]
def wsX6_cost : List Cond := .code yX6_cost cX6_cost 4 (some .long) :: ((wsX6_cost_r1 ++ (wsX6_cost_r2 ++ (wsX6_cost_r3 ++ wsX6_cost_r4))) ++ wsX60)
def wsX6_pots_r1 : List Cond := [Cond.fieldLink RX6 122 "CanteenPlanModel" "sizes" "I", Cond.fieldLink RX6 48 "CanteenPlanModel" "best" "[I", Cond.methodLink RX6 152 yX6_isAsked, Cond.instanceMethod yX6_isAsked, Cond.selects RX6 yX6_isAsked yX6_isAsked, Cond.initialized RX6, Cond.code yX6_isAsked cX6_isAsked 4 (some .boolean), Cond.methodLink RX6 74 yX6_isMeal, Cond.instanceMethod yX6_isMeal, Cond.selects RX6 yX6_isMeal yX6_isMeal, Cond.code yX6_isMeal cX6_isMeal 2 (some .boolean), Cond.fieldLink RX6 71 "CanteenPlanModel" "meals" "I", Cond.fieldLink RX6 60 "CanteenPlanModel" "thrown" "I", Cond.methodLink RX6 63 yX6_isBits, Cond.static yX6_isBits, Cond.code yX6_isBits cX6_isBits 1 (some .boolean), Cond.methodLink RX6 67 yX6_bad, Cond.instanceMethod yX6_bad, Cond.selects RX6 yX6_bad yX6_bad, Cond.code yX6_bad cX6_bad 3 (some .boolean), Cond.methodLink RX6 156 yX6_chooses, Cond.instanceMethod yX6_chooses, Cond.selects RX6 yX6_chooses yX6_chooses, Cond.code yX6_chooses cX6_chooses 10 (some .boolean)]
def wsX6_pots_r2 : List Cond := [Cond.fieldLink RX6 77 "CanteenPlanModel" "days" "I", Cond.constantLong RX6 125 (-1), Cond.fieldLink RX6 127 "CanteenPlanModel" "bestCost" "J", Cond.fieldLink RX6 45 "CanteenPlanModel" "set" "[I", Cond.fieldLink RX6 32 "CanteenPlanModel" "portions" "[I", Cond.fieldLink RX6 35 "CanteenPlanModel" "price" "[I", Cond.methodLink RX6 115 yX6_goes, Cond.instanceMethod yX6_goes, Cond.selects RX6 yX6_goes yX6_goes, Cond.code yX6_goes cX6_goes 4 none, Cond.fieldLink RX6 106 "CanteenPlanModel" "leafMask" "I", Cond.fieldLink RX6 109 "CanteenPlanModel" "leafBits" "I", Cond.fieldLink RX6 112 "CanteenPlanModel" "wayMany" "I", Cond.fieldLink RX6 29 "CanteenPlanModel" "way" "[I", Cond.methodLink RX6 99 yX6_markOf, Cond.instanceMethod yX6_markOf, Cond.selects RX6 yX6_markOf yX6_markOf, Cond.code yX6_markOf cX6_markOf 23 (some .int), Cond.fieldLink RX6 80 "CanteenPlanModel" "hasMany" "I", Cond.fieldLink RX6 83 "CanteenPlanModel" "allMany" "I", Cond.fieldLink RX6 86 "CanteenPlanModel" "hasSum" "J", Cond.fieldLink RX6 90 "CanteenPlanModel" "allSum" "J", Cond.constantLong RX6 97 (2), Cond.methodLink RX6 93 yX6_counts]
def wsX6_pots_r3 : List Cond := [Cond.instanceMethod yX6_counts, Cond.selects RX6 yX6_counts yX6_counts, Cond.code yX6_counts cX6_counts 7 none, Cond.fieldLink RX6 25 "CanteenPlanModel" "isThere" "[Z", Cond.fieldLink RX6 19 "CanteenPlanModel" "marks" "[I", Cond.fieldLink RX6 22 "CanteenPlanModel" "eaten" "[I", Cond.methodLink RX6 119 yX6_isLeafOf, Cond.instanceMethod yX6_isLeafOf, Cond.selects RX6 yX6_isLeafOf yX6_isLeafOf, Cond.code yX6_isLeafOf cX6_isLeafOf 2 (some .boolean), Cond.methodLink RX6 130 yX6_costOf, Cond.instanceMethod yX6_costOf, Cond.selects RX6 yX6_costOf yX6_costOf, Cond.code yX6_costOf cX6_costOf 9 (some .long), Cond.fieldLink RX6 38 "CanteenPlanModel" "waste" "I", Cond.fieldLink RX6 42 "CanteenPlanModel" "want" "I", Cond.methodLink RX6 134 yX6_takes, Cond.instanceMethod yX6_takes, Cond.selects RX6 yX6_takes yX6_takes, Cond.code yX6_takes cX6_takes 7 none, Cond.fieldLink RX6 142 "CanteenPlanModel" "bestPortions" "I", Cond.fieldLink RX6 145 "CanteenPlanModel" "bestPots" "I", Cond.methodLink RX6 148 yX6_isMore, Cond.instanceMethod yX6_isMore]
def wsX6_pots_r4 : List Cond := [Cond.selects RX6 yX6_isMore yX6_isMore, Cond.code yX6_isMore cX6_isMore 2 (some .boolean), Cond.methodLink RX6 138 yX6_upTo, Cond.instanceMethod yX6_upTo, Cond.selects RX6 yX6_upTo yX6_upTo, Cond.code yX6_upTo cX6_upTo 4 (some .int)]
def wsX6_pots : List Cond := .code yX6_pots cX6_pots 5 (some .int) :: ((wsX6_pots_r1 ++ (wsX6_pots_r2 ++ (wsX6_pots_r3 ++ wsX6_pots_r4))) ++ wsX60)
def wsX6_isUnlike : List Cond := .code yX6_isUnlike cX6_isUnlike 3 (some .boolean) :: ([.fieldLink RX6 9 "CanteenPlanModel" "in" "[I", .fieldLink RX6 13 "CanteenPlanModel" "bars" "[I"] ++ wsX60)
def wsX6_shares : List Cond := .code yX6_shares cX6_shares 6 none :: ([.fieldLink RX6 159 "CanteenPlanModel" "ladleMany" "I", .fieldLink RX6 71 "CanteenPlanModel" "meals" "I", .fieldLink RX6 54 "CanteenPlanModel" "ladleOf" "[I", .fieldLink RX6 51 "CanteenPlanModel" "row" "[I", .methodLink RX6 162 yX6_isUnlike, .instanceMethod yX6_isUnlike, .selects RX6 yX6_isUnlike yX6_isUnlike, .initialized RX6, .code yX6_isUnlike cX6_isUnlike 3 (some .boolean), .fieldLink RX6 9 "CanteenPlanModel" "in" "[I", .fieldLink RX6 13 "CanteenPlanModel" "bars" "[I", .methodLink RX6 166 yX6_shares, .instanceMethod yX6_shares, .selects RX6 yX6_shares yX6_shares] ++ wsX60)
def wsX6_ladlesAnew : List Cond := .code yX6_ladlesAnew cX6_ladlesAnew 3 (some .boolean) :: ([.fieldLink RX6 71 "CanteenPlanModel" "meals" "I", .fieldLink RX6 9 "CanteenPlanModel" "in" "[I", .fieldLink RX6 13 "CanteenPlanModel" "bars" "[I", .fieldLink RX6 159 "CanteenPlanModel" "ladleMany" "I", .methodLink RX6 166 yX6_shares, .instanceMethod yX6_shares, .selects RX6 yX6_shares yX6_shares, .initialized RX6, .code yX6_shares cX6_shares 6 none, .fieldLink RX6 54 "CanteenPlanModel" "ladleOf" "[I", .fieldLink RX6 51 "CanteenPlanModel" "row" "[I", .methodLink RX6 162 yX6_isUnlike, .instanceMethod yX6_isUnlike, .selects RX6 yX6_isUnlike yX6_isUnlike, .code yX6_isUnlike cX6_isUnlike 3 (some .boolean)] ++ wsX60)
def wsX6_ladles : List Cond := .code yX6_ladles cX6_ladles 1 (some .int) :: ([.fieldLink RX6 60 "CanteenPlanModel" "thrown" "I", .fieldLink RX6 159 "CanteenPlanModel" "ladleMany" "I", .methodLink RX6 169 yX6_ladlesAnew, .instanceMethod yX6_ladlesAnew, .selects RX6 yX6_ladlesAnew yX6_ladlesAnew, .initialized RX6, .code yX6_ladlesAnew cX6_ladlesAnew 3 (some .boolean), .fieldLink RX6 71 "CanteenPlanModel" "meals" "I", .fieldLink RX6 9 "CanteenPlanModel" "in" "[I", .fieldLink RX6 13 "CanteenPlanModel" "bars" "[I", .methodLink RX6 166 yX6_shares, .instanceMethod yX6_shares, .selects RX6 yX6_shares yX6_shares, .code yX6_shares cX6_shares 6 none, .fieldLink RX6 54 "CanteenPlanModel" "ladleOf" "[I", .fieldLink RX6 51 "CanteenPlanModel" "row" "[I", .methodLink RX6 162 yX6_isUnlike, .instanceMethod yX6_isUnlike, .selects RX6 yX6_isUnlike yX6_isUnlike, .code yX6_isUnlike cX6_isUnlike 3 (some .boolean)] ++ wsX60)
def wsX6_ladle : List Cond := .code yX6_ladle cX6_ladle 2 (some .int) :: ([.fieldLink RX6 54 "CanteenPlanModel" "ladleOf" "[I", .methodLink RX6 74 yX6_isMeal, .instanceMethod yX6_isMeal, .selects RX6 yX6_isMeal yX6_isMeal, .initialized RX6, .code yX6_isMeal cX6_isMeal 2 (some .boolean), .fieldLink RX6 71 "CanteenPlanModel" "meals" "I", .fieldLink RX6 60 "CanteenPlanModel" "thrown" "I", .methodLink RX6 169 yX6_ladlesAnew, .instanceMethod yX6_ladlesAnew, .selects RX6 yX6_ladlesAnew yX6_ladlesAnew, .code yX6_ladlesAnew cX6_ladlesAnew 3 (some .boolean), .fieldLink RX6 9 "CanteenPlanModel" "in" "[I", .fieldLink RX6 13 "CanteenPlanModel" "bars" "[I", .fieldLink RX6 159 "CanteenPlanModel" "ladleMany" "I", .methodLink RX6 166 yX6_shares, .instanceMethod yX6_shares, .selects RX6 yX6_shares yX6_shares, .code yX6_shares cX6_shares 6 none, .fieldLink RX6 51 "CanteenPlanModel" "row" "[I", .methodLink RX6 162 yX6_isUnlike, .instanceMethod yX6_isUnlike, .selects RX6 yX6_isUnlike yX6_isUnlike, .code yX6_isUnlike cX6_isUnlike 3 (some .boolean)] ++ wsX60)
def wsX6_come : List Cond := .code yX6_come cX6_come 2 (some .int) :: ([.fieldLink RX6 60 "CanteenPlanModel" "thrown" "I", .fieldLink RX6 172 "CanteenPlanModel" "minutes" "I", .fieldLink RX6 57 "CanteenPlanModel" "came" "[I", .methodLink RX6 67 yX6_bad, .instanceMethod yX6_bad, .selects RX6 yX6_bad yX6_bad, .initialized RX6, .code yX6_bad cX6_bad 3 (some .boolean)] ++ wsX60)
def wsX6_stands : List Cond := .code yX6_stands cX6_stands 9 none :: ([.fieldLink RX6 175 "CanteenPlanModel" "greatest" "I", .fieldLink RX6 178 "CanteenPlanModel" "waits" "I", .fieldLink RX6 181 "CanteenPlanModel" "lastWent" "I", .fieldLink RX6 184 "CanteenPlanModel" "longest" "I", .fieldLink RX6 172 "CanteenPlanModel" "minutes" "I", .fieldLink RX6 57 "CanteenPlanModel" "came" "[I"] ++ wsX60)
def wsX6_hatch : List Cond := .code yX6_hatch cX6_hatch 3 (some .int) :: ([.fieldLink RX6 60 "CanteenPlanModel" "thrown" "I", .fieldLink RX6 175 "CanteenPlanModel" "greatest" "I", .fieldLink RX6 178 "CanteenPlanModel" "waits" "I", .fieldLink RX6 181 "CanteenPlanModel" "lastWent" "I", .fieldLink RX6 184 "CanteenPlanModel" "longest" "I", .methodLink RX6 67 yX6_bad, .instanceMethod yX6_bad, .selects RX6 yX6_bad yX6_bad, .initialized RX6, .code yX6_bad cX6_bad 3 (some .boolean), .methodLink RX6 187 yX6_stands, .instanceMethod yX6_stands, .selects RX6 yX6_stands yX6_stands, .code yX6_stands cX6_stands 9 none, .fieldLink RX6 172 "CanteenPlanModel" "minutes" "I", .fieldLink RX6 57 "CanteenPlanModel" "came" "[I"] ++ wsX60)
def wsX6_serve : List Cond := .code yX6_serve cX6_serve 3 (some .int) :: ([.fieldLink RX6 60 "CanteenPlanModel" "thrown" "I", .fieldLink RX6 175 "CanteenPlanModel" "greatest" "I", .methodLink RX6 67 yX6_bad, .instanceMethod yX6_bad, .selects RX6 yX6_bad yX6_bad, .initialized RX6, .code yX6_bad cX6_bad 3 (some .boolean), .methodLink RX6 187 yX6_stands, .instanceMethod yX6_stands, .selects RX6 yX6_stands yX6_stands, .code yX6_stands cX6_stands 9 none, .fieldLink RX6 178 "CanteenPlanModel" "waits" "I", .fieldLink RX6 181 "CanteenPlanModel" "lastWent" "I", .fieldLink RX6 184 "CanteenPlanModel" "longest" "I", .fieldLink RX6 172 "CanteenPlanModel" "minutes" "I", .fieldLink RX6 57 "CanteenPlanModel" "came" "[I"] ++ wsX60)
def wsX6_empty : List Cond := .code yX6_empty cX6_empty 2 (some .int) :: ([.fieldLink RX6 60 "CanteenPlanModel" "thrown" "I", .fieldLink RX6 172 "CanteenPlanModel" "minutes" "I"] ++ wsX60)
def wsX6_count : List Cond := .code yX6_count cX6_count 4 (some .int) :: ([.fieldLink RX6 60 "CanteenPlanModel" "thrown" "I", .fieldLink RX6 71 "CanteenPlanModel" "meals" "I", .fieldLink RX6 77 "CanteenPlanModel" "days" "I", .fieldLink RX6 25 "CanteenPlanModel" "isThere" "[Z", .fieldLink RX6 122 "CanteenPlanModel" "sizes" "I", .fieldLink RX6 172 "CanteenPlanModel" "minutes" "I"] ++ wsX60)
def wsJ9_max_7cf53 : List Cond := .code yJ9_max_7cf53 cJ9_max_7cf53 2 (some .int) :: ([])
def wsJ9_min_7cf53 : List Cond := .code yJ9_min_7cf53 cJ9_min_7cf53 2 (some .int) :: ([])
def wsL_meal : List Cond := .codeWith yL_meal cL_meal 5 (some .int) [(0, 10, 13, 13), (0, 10, 17, 15)] :: ([.classLink RL 13 "java/lang/IllegalArgumentException", .classLink RL 15 "java/lang/IllegalStateException", .methodLink RL 7 yX5_meal, .instanceMethod yX5_meal, .selects RX5 yX5_meal yX5_meal, .initialized RX5, .code yX5_meal cX5_meal 3 (some .int), .classLink RX5 54 "java/lang/IllegalStateException", .initialized "java/lang/IllegalStateException", .fieldLink RX5 10 "CanteenPlan" "menu" "LCanteenPlan$Menu;", .methodLink RX5 46 yX5_needWithin, .static yX5_needWithin, .code yX5_needWithin cX5_needWithin 3 none, .classLink RX5 142 "java/lang/IllegalArgumentException", .initialized "java/lang/IllegalArgumentException", .instanceMethod yX3_add, .initialized RX3, .selects RX3 yX3_add yX3_add, .code yX3_add cX3_add 3 (some .int), .fieldLink RX3 9 "CanteenPlan$Menu" "in" "[I", .fieldLink RX3 21 "CanteenPlan$Menu" "meals" "I", .fieldLink RX3 15 "CanteenPlan$Menu" "barred" "[I"] ++ wsX50 ++ wsX30 ++ (vx_atS RX5 58 "java/lang/IllegalStateException" ["java/lang/RuntimeException", "java/lang/Exception"]).filter goodWord ++ (vx_atS RX5 146 "java/lang/IllegalArgumentException" ["java/lang/RuntimeException", "java/lang/Exception"]).filter goodWord)
def wsL_ate_r1 : List Cond := [Cond.classLink RL 20 "java/lang/IndexOutOfBoundsException", Cond.classLink RL 13 "java/lang/IllegalArgumentException", Cond.methodLink RL 17 yX5_ate, Cond.instanceMethod yX5_ate, Cond.selects RX5 yX5_ate yX5_ate, Cond.initialized RX5, Cond.code yX5_ate cX5_ate 3 (some .int), Cond.fieldLink RX5 19 "CanteenPlan" "diary" "LCanteenPlan$Diary;", Cond.methodLink RX5 65 yX5_needMeal, Cond.instanceMethod yX5_needMeal, Cond.selects RX5 yX5_needMeal yX5_needMeal, Cond.code yX5_needMeal cX5_needMeal 2 none, Cond.classLink RX5 80 "java/lang/IndexOutOfBoundsException", Cond.initialized "java/lang/IndexOutOfBoundsException", Cond.fieldLink RX5 10 "CanteenPlan" "menu" "LCanteenPlan$Menu;", Cond.methodLink RX5 46 yX5_needWithin, Cond.static yX5_needWithin, Cond.code yX5_needWithin cX5_needWithin 3 none, Cond.classLink RX5 142 "java/lang/IllegalArgumentException", Cond.initialized "java/lang/IllegalArgumentException", Cond.instanceMethod yX0_tell, Cond.initialized RX0, Cond.selects RX0 yX0_tell yX0_tell, Cond.code yX0_tell cX0_tell 4 (some .int)]
def wsL_ate_r2 : List Cond := [Cond.fieldLink RX0 9 "CanteenPlan$Diary" "told" "[I"]
def wsL_ate : List Cond := .codeWith yL_ate cL_ate 5 (some .int) [(0, 10, 13, 20), (0, 10, 17, 13)] :: ((wsL_ate_r1 ++ wsL_ate_r2) ++ wsX50 ++ wsX30 ++ wsX00 ++ (vx_atS RX5 84 "java/lang/IndexOutOfBoundsException" ["java/lang/RuntimeException", "java/lang/Exception"]).filter goodWord ++ (vx_atS RX5 146 "java/lang/IllegalArgumentException" ["java/lang/RuntimeException", "java/lang/Exception"]).filter goodWord)
def wsL_day : List Cond := .codeWith yL_day cL_day 4 (some .int) [(0, 9, 12, 13), (0, 9, 15, 15)] :: ([.classLink RL 13 "java/lang/IllegalArgumentException", .classLink RL 15 "java/lang/IllegalStateException", .methodLink RL 22 yX5_day, .instanceMethod yX5_day, .selects RX5 yX5_day yX5_day, .initialized RX5, .code yX5_day cX5_day 2 (some .int), .classLink RX5 54 "java/lang/IllegalStateException", .initialized "java/lang/IllegalStateException", .fieldLink RX5 19 "CanteenPlan" "diary" "LCanteenPlan$Diary;", .methodLink RX5 46 yX5_needWithin, .static yX5_needWithin, .code yX5_needWithin cX5_needWithin 3 none, .classLink RX5 142 "java/lang/IllegalArgumentException", .initialized "java/lang/IllegalArgumentException", .instanceMethod yX0_add, .initialized RX0, .selects RX0 yX0_add yX0_add, .code yX0_add cX0_add 3 (some .int), .fieldLink RX0 15 "CanteenPlan$Diary" "marksOf" "[I", .fieldLink RX0 28 "CanteenPlan$Diary" "inAll" "I", .fieldLink RX0 22 "CanteenPlan$Diary" "eaten" "[I", .fieldLink RX0 9 "CanteenPlan$Diary" "told" "[I"] ++ wsX50 ++ wsX00 ++ (vx_atS RX5 58 "java/lang/IllegalStateException" ["java/lang/RuntimeException", "java/lang/Exception"]).filter goodWord ++ (vx_atS RX5 146 "java/lang/IllegalArgumentException" ["java/lang/RuntimeException", "java/lang/Exception"]).filter goodWord)
def wsL_drop : List Cond := .codeWith yL_drop cL_drop 4 (some .int) [(0, 16, 19, 20)] :: ([.classLink RL 20 "java/lang/IndexOutOfBoundsException", .methodLink RL 26 yX5_drop, .instanceMethod yX5_drop, .selects RX5 yX5_drop yX5_drop, .initialized RX5, .code yX5_drop cX5_drop 2 (some .boolean), .classLink RX5 80 "java/lang/IndexOutOfBoundsException", .initialized "java/lang/IndexOutOfBoundsException", .fieldLink RX5 19 "CanteenPlan" "diary" "LCanteenPlan$Diary;", .instanceMethod yX0_takeAway, .initialized RX0, .selects RX0 yX0_takeAway yX0_takeAway, .code yX0_takeAway cX0_takeAway 2 (some .boolean), .fieldLink RX0 18 "CanteenPlan$Diary" "isAway" "[Z", .fieldLink RX0 32 "CanteenPlan$Diary" "away" "I"] ++ wsX50 ++ wsX00 ++ (vx_atS RX5 84 "java/lang/IndexOutOfBoundsException" ["java/lang/RuntimeException", "java/lang/Exception"]).filter goodWord)
def wsL_leaves_r1 : List Cond := [Cond.classLink RL 20 "java/lang/IndexOutOfBoundsException", Cond.methodLink RL 30 yX5_leaves, Cond.instanceMethod yX5_leaves, Cond.selects RX5 yX5_leaves yX5_leaves, Cond.initialized RX5, Cond.code yX5_leaves cX5_leaves 2 (some .int), Cond.fieldLink RX5 28 "CanteenPlan" "tree" "LCanteenPlan$Tree;", Cond.methodLink RX5 65 yX5_needMeal, Cond.instanceMethod yX5_needMeal, Cond.selects RX5 yX5_needMeal yX5_needMeal, Cond.code yX5_needMeal cX5_needMeal 2 none, Cond.classLink RX5 80 "java/lang/IndexOutOfBoundsException", Cond.initialized "java/lang/IndexOutOfBoundsException", Cond.fieldLink RX5 10 "CanteenPlan" "menu" "LCanteenPlan$Menu;", Cond.instanceMethod yX4_leavesBelow, Cond.initialized RX4, Cond.selects RX4 yX4_leavesBelow yX4_leavesBelow, Cond.code yX4_leavesBelow cX4_leavesBelow 7 (some .int), Cond.methodLink RX4 22 yX4_markThatParts, Cond.instanceMethod yX4_markThatParts, Cond.selects RX4 yX4_markThatParts yX4_markThatParts, Cond.code yX4_markThatParts cX4_markThatParts 18 (some .int), Cond.fieldLink RX4 34 "CanteenPlan$Tree" "days" "I", Cond.fieldLink RX4 9 "CanteenPlan$Tree" "daysWith" "[I"]
def wsL_leaves_r2 : List Cond := [Cond.methodLink RX4 38 Lib.Math.min.name, Cond.static Lib.Math.min.name, Cond.initialized "java/lang/Math", Cond.code Lib.Math.min.name Lib.Math.min.code 2 (some .int), Cond.fieldLink RX4 15 "CanteenPlan$Tree" "sumWith" "[I", Cond.fieldLink RX4 44 "CanteenPlan$Tree" "sum" "I", Cond.methodLink RX4 30 yX4_readKnot, Cond.instanceMethod yX4_readKnot, Cond.selects RX4 yX4_readKnot yX4_readKnot, Cond.code yX4_readKnot cX4_readKnot 5 none, Cond.fieldLink RX4 18 "CanteenPlan$Tree" "diary" "LCanteenPlan$Diary;", Cond.methodLink RX4 47 yJ7_fill_53178, Cond.static yJ7_fill_53178, Cond.initialized RJ7, Cond.code yJ7_fill_53178 cJ7_fill_53178 4 none, Cond.instanceMethod yX0_isInKnot, Cond.initialized RX0, Cond.selects RX0 yX0_isInKnot yX0_isInKnot, Cond.code yX0_isInKnot cX0_isInKnot 4 (some .boolean), Cond.fieldLink RX0 18 "CanteenPlan$Diary" "isAway" "[Z", Cond.fieldLink RX0 15 "CanteenPlan$Diary" "marksOf" "[I", Cond.instanceMethod yX0_eatenOn, Cond.selects RX0 yX0_eatenOn yX0_eatenOn, Cond.code yX0_eatenOn cX0_eatenOn 3 (some .int)]
def wsL_leaves_r3 : List Cond := [Cond.fieldLink RX0 22 "CanteenPlan$Diary" "eaten" "[I", Cond.methodLink RX4 68 yX4_readDay, Cond.instanceMethod yX4_readDay, Cond.selects RX4 yX4_readDay yX4_readDay, Cond.code yX4_readDay cX4_readDay 4 none, Cond.methodLink RX4 26 yX4_leavesBelow]
def wsL_leaves : List Cond := .codeWith yL_leaves cL_leaves 4 (some .int) [(0, 9, 12, 20)] :: ((wsL_leaves_r1 ++ (wsL_leaves_r2 ++ wsL_leaves_r3)) ++ wsX50 ++ wsX30 ++ wsX40 ++ wsX00 ++ (vx_atS RX5 84 "java/lang/IndexOutOfBoundsException" ["java/lang/RuntimeException", "java/lang/Exception"]).filter goodWord)
def wsL_split_r1 : List Cond := [Cond.classLink RL 20 "java/lang/IndexOutOfBoundsException", Cond.classLink RL 13 "java/lang/IllegalArgumentException", Cond.methodLink RL 33 yX5_split, Cond.instanceMethod yX5_split, Cond.selects RX5 yX5_split yX5_split, Cond.initialized RX5, Cond.code yX5_split cX5_split 4 (some .int), Cond.fieldLink RX5 28 "CanteenPlan" "tree" "LCanteenPlan$Tree;", Cond.methodLink RX5 65 yX5_needMeal, Cond.instanceMethod yX5_needMeal, Cond.selects RX5 yX5_needMeal yX5_needMeal, Cond.code yX5_needMeal cX5_needMeal 2 none, Cond.classLink RX5 80 "java/lang/IndexOutOfBoundsException", Cond.initialized "java/lang/IndexOutOfBoundsException", Cond.fieldLink RX5 10 "CanteenPlan" "menu" "LCanteenPlan$Menu;", Cond.methodLink RX5 46 yX5_needWithin, Cond.static yX5_needWithin, Cond.code yX5_needWithin cX5_needWithin 3 none, Cond.classLink RX5 142 "java/lang/IllegalArgumentException", Cond.initialized "java/lang/IllegalArgumentException", Cond.instanceMethod yX4_markOnTheWay, Cond.initialized RX4, Cond.selects RX4 yX4_markOnTheWay yX4_markOnTheWay, Cond.code yX4_markOnTheWay cX4_markOnTheWay 7 (some .int)]
def wsL_split_r2 : List Cond := [Cond.methodLink RX4 22 yX4_markThatParts, Cond.instanceMethod yX4_markThatParts, Cond.selects RX4 yX4_markThatParts yX4_markThatParts, Cond.code yX4_markThatParts cX4_markThatParts 18 (some .int), Cond.fieldLink RX4 34 "CanteenPlan$Tree" "days" "I", Cond.fieldLink RX4 9 "CanteenPlan$Tree" "daysWith" "[I", Cond.methodLink RX4 38 Lib.Math.min.name, Cond.static Lib.Math.min.name, Cond.initialized "java/lang/Math", Cond.code Lib.Math.min.name Lib.Math.min.code 2 (some .int), Cond.fieldLink RX4 15 "CanteenPlan$Tree" "sumWith" "[I", Cond.fieldLink RX4 44 "CanteenPlan$Tree" "sum" "I", Cond.methodLink RX4 30 yX4_readKnot, Cond.instanceMethod yX4_readKnot, Cond.selects RX4 yX4_readKnot yX4_readKnot, Cond.code yX4_readKnot cX4_readKnot 5 none, Cond.fieldLink RX4 18 "CanteenPlan$Tree" "diary" "LCanteenPlan$Diary;", Cond.methodLink RX4 47 yJ7_fill_53178, Cond.static yJ7_fill_53178, Cond.initialized RJ7, Cond.code yJ7_fill_53178 cJ7_fill_53178 4 none, Cond.instanceMethod yX0_isInKnot, Cond.initialized RX0, Cond.selects RX0 yX0_isInKnot yX0_isInKnot]
def wsL_split_r3 : List Cond := [Cond.code yX0_isInKnot cX0_isInKnot 4 (some .boolean), Cond.fieldLink RX0 18 "CanteenPlan$Diary" "isAway" "[Z", Cond.fieldLink RX0 15 "CanteenPlan$Diary" "marksOf" "[I", Cond.instanceMethod yX0_eatenOn, Cond.selects RX0 yX0_eatenOn yX0_eatenOn, Cond.code yX0_eatenOn cX0_eatenOn 3 (some .int), Cond.fieldLink RX0 22 "CanteenPlan$Diary" "eaten" "[I", Cond.methodLink RX4 68 yX4_readDay, Cond.instanceMethod yX4_readDay, Cond.selects RX4 yX4_readDay yX4_readDay, Cond.code yX4_readDay cX4_readDay 4 none]
def wsL_split : List Cond := .codeWith yL_split cL_split 6 (some .int) [(0, 12, 15, 20), (0, 12, 19, 13)] :: ((wsL_split_r1 ++ (wsL_split_r2 ++ wsL_split_r3)) ++ wsX50 ++ wsX30 ++ wsX40 ++ wsX00 ++ (vx_atS RX5 84 "java/lang/IndexOutOfBoundsException" ["java/lang/RuntimeException", "java/lang/Exception"]).filter goodWord ++ (vx_atS RX5 146 "java/lang/IllegalArgumentException" ["java/lang/RuntimeException", "java/lang/Exception"]).filter goodWord)
def wsL_leaf_r1 : List Cond := [Cond.classLink RL 20 "java/lang/IndexOutOfBoundsException", Cond.classLink RL 13 "java/lang/IllegalArgumentException", Cond.methodLink RL 37 yX5_leaf, Cond.instanceMethod yX5_leaf, Cond.selects RX5 yX5_leaf yX5_leaf, Cond.initialized RX5, Cond.code yX5_leaf cX5_leaf 4 (some .int), Cond.fieldLink RX5 19 "CanteenPlan" "diary" "LCanteenPlan$Diary;", Cond.fieldLink RX5 28 "CanteenPlan" "tree" "LCanteenPlan$Tree;", Cond.methodLink RX5 65 yX5_needMeal, Cond.instanceMethod yX5_needMeal, Cond.selects RX5 yX5_needMeal yX5_needMeal, Cond.code yX5_needMeal cX5_needMeal 2 none, Cond.classLink RX5 80 "java/lang/IndexOutOfBoundsException", Cond.initialized "java/lang/IndexOutOfBoundsException", Cond.fieldLink RX5 10 "CanteenPlan" "menu" "LCanteenPlan$Menu;", Cond.methodLink RX5 46 yX5_needWithin, Cond.static yX5_needWithin, Cond.code yX5_needWithin cX5_needWithin 3 none, Cond.classLink RX5 142 "java/lang/IllegalArgumentException", Cond.initialized "java/lang/IllegalArgumentException", Cond.instanceMethod yX4_askedOnTheWay, Cond.initialized RX4, Cond.selects RX4 yX4_askedOnTheWay yX4_askedOnTheWay]
def wsL_leaf_r2 : List Cond := [Cond.code yX4_askedOnTheWay cX4_askedOnTheWay 6 (some .int), Cond.methodLink RX4 22 yX4_markThatParts, Cond.instanceMethod yX4_markThatParts, Cond.selects RX4 yX4_markThatParts yX4_markThatParts, Cond.code yX4_markThatParts cX4_markThatParts 18 (some .int), Cond.fieldLink RX4 34 "CanteenPlan$Tree" "days" "I", Cond.fieldLink RX4 9 "CanteenPlan$Tree" "daysWith" "[I", Cond.methodLink RX4 38 Lib.Math.min.name, Cond.static Lib.Math.min.name, Cond.initialized "java/lang/Math", Cond.code Lib.Math.min.name Lib.Math.min.code 2 (some .int), Cond.fieldLink RX4 15 "CanteenPlan$Tree" "sumWith" "[I", Cond.fieldLink RX4 44 "CanteenPlan$Tree" "sum" "I", Cond.methodLink RX4 30 yX4_readKnot, Cond.instanceMethod yX4_readKnot, Cond.selects RX4 yX4_readKnot yX4_readKnot, Cond.code yX4_readKnot cX4_readKnot 5 none, Cond.fieldLink RX4 18 "CanteenPlan$Tree" "diary" "LCanteenPlan$Diary;", Cond.methodLink RX4 47 yJ7_fill_53178, Cond.static yJ7_fill_53178, Cond.initialized RJ7, Cond.code yJ7_fill_53178 cJ7_fill_53178 4 none, Cond.instanceMethod yX0_isInKnot, Cond.initialized RX0]
def wsL_leaf_r3 : List Cond := [Cond.selects RX0 yX0_isInKnot yX0_isInKnot, Cond.code yX0_isInKnot cX0_isInKnot 4 (some .boolean), Cond.fieldLink RX0 18 "CanteenPlan$Diary" "isAway" "[Z", Cond.fieldLink RX0 15 "CanteenPlan$Diary" "marksOf" "[I", Cond.instanceMethod yX0_eatenOn, Cond.selects RX0 yX0_eatenOn yX0_eatenOn, Cond.code yX0_eatenOn cX0_eatenOn 3 (some .int), Cond.fieldLink RX0 22 "CanteenPlan$Diary" "eaten" "[I", Cond.methodLink RX4 68 yX4_readDay, Cond.instanceMethod yX4_readDay, Cond.selects RX4 yX4_readDay yX4_readDay, Cond.code yX4_readDay cX4_readDay 4 none, Cond.instanceMethod yX0_factOf, Cond.selects RX0 yX0_factOf yX0_factOf, Cond.code yX0_factOf cX0_factOf 6 (some .int), Cond.fieldLink RX0 25 "CanteenPlan$Diary" "facts" "[I", Cond.fieldLink RX0 28 "CanteenPlan$Diary" "inAll" "I", Cond.methodLink RX0 35 yJ7_fill_53178, Cond.methodLink RX0 41 yX0_isInKnot, Cond.methodLink RX0 45 yX0_eatenOn, Cond.methodLink RX0 49 yX0_noteFacts, Cond.instanceMethod yX0_noteFacts, Cond.selects RX0 yX0_noteFacts yX0_noteFacts, Cond.code yX0_noteFacts cX0_noteFacts 3 none]
def wsL_leaf_r4 : List Cond := [Cond.methodLink RX0 53 Lib.Math.min.name, Cond.methodLink RX0 58 Lib.Math.max.name, Cond.static Lib.Math.max.name, Cond.code Lib.Math.max.name Lib.Math.max.code 2 (some .int)]
def wsL_leaf : List Cond := .codeWith yL_leaf cL_leaf 6 (some .int) [(0, 12, 15, 20), (0, 12, 19, 13)] :: ((wsL_leaf_r1 ++ (wsL_leaf_r2 ++ (wsL_leaf_r3 ++ wsL_leaf_r4))) ++ wsX50 ++ wsX30 ++ wsX40 ++ wsX00 ++ (vx_atS RX5 84 "java/lang/IndexOutOfBoundsException" ["java/lang/RuntimeException", "java/lang/Exception"]).filter goodWord ++ (vx_atS RX5 146 "java/lang/IllegalArgumentException" ["java/lang/RuntimeException", "java/lang/Exception"]).filter goodWord)
def wsL_size : List Cond := .codeWith yL_size cL_size 5 (some .int) [(0, 10, 13, 13), (0, 10, 17, 15)] :: ([.classLink RL 13 "java/lang/IllegalArgumentException", .classLink RL 15 "java/lang/IllegalStateException", .methodLink RL 40 yX5_size, .instanceMethod yX5_size, .selects RX5 yX5_size yX5_size, .initialized RX5, .code yX5_size cX5_size 3 (some .int), .classLink RX5 54 "java/lang/IllegalStateException", .initialized "java/lang/IllegalStateException", .fieldLink RX5 35 "CanteenPlan" "kitchen" "LCanteenPlan$Kitchen;", .methodLink RX5 46 yX5_needWithin, .static yX5_needWithin, .code yX5_needWithin cX5_needWithin 3 none, .classLink RX5 142 "java/lang/IllegalArgumentException", .initialized "java/lang/IllegalArgumentException", .instanceMethod yX2_add, .initialized RX2, .selects RX2 yX2_add yX2_add, .code yX2_add cX2_add 3 (some .int), .fieldLink RX2 9 "CanteenPlan$Kitchen" "portions" "[I", .fieldLink RX2 37 "CanteenPlan$Kitchen" "sizes" "I", .fieldLink RX2 15 "CanteenPlan$Kitchen" "price" "[I"] ++ wsX50 ++ wsX20 ++ (vx_atS RX5 58 "java/lang/IllegalStateException" ["java/lang/RuntimeException", "java/lang/Exception"]).filter goodWord ++ (vx_atS RX5 146 "java/lang/IllegalArgumentException" ["java/lang/RuntimeException", "java/lang/Exception"]).filter goodWord)
def wsL_prices : List Cond := .codeWith yL_prices cL_prices 4 (some .int) [(0, 6, 9, 13)] :: ([.classLink RL 13 "java/lang/IllegalArgumentException", .methodLink RL 43 yX5_prices, .instanceMethod yX5_prices, .selects RX5 yX5_prices yX5_prices, .initialized RX5, .code yX5_prices cX5_prices 3 none, .fieldLink RX5 35 "CanteenPlan" "kitchen" "LCanteenPlan$Kitchen;", .methodLink RX5 46 yX5_needWithin, .static yX5_needWithin, .code yX5_needWithin cX5_needWithin 3 none, .classLink RX5 142 "java/lang/IllegalArgumentException", .initialized "java/lang/IllegalArgumentException"] ++ wsX50 ++ wsX20 ++ (vx_atS RX5 146 "java/lang/IllegalArgumentException" ["java/lang/RuntimeException", "java/lang/Exception"]).filter goodWord)
def wsL_cost_r1 : List Cond := [Cond.classLink RL 20 "java/lang/IndexOutOfBoundsException", Cond.classLink RL 13 "java/lang/IllegalArgumentException", Cond.methodLink RL 47 yX5_cost, Cond.instanceMethod yX5_cost, Cond.selects RX5 yX5_cost yX5_cost, Cond.initialized RX5, Cond.code yX5_cost cX5_cost 4 (some .long), Cond.fieldLink RX5 35 "CanteenPlan" "kitchen" "LCanteenPlan$Kitchen;", Cond.constantLong RX5 123 (-1), Cond.methodLink RX5 115 yX5_findBestSet, Cond.instanceMethod yX5_findBestSet, Cond.selects RX5 yX5_findBestSet yX5_findBestSet, Cond.code yX5_findBestSet cX5_findBestSet 4 (some .boolean), Cond.fieldLink RX5 19 "CanteenPlan" "diary" "LCanteenPlan$Diary;", Cond.fieldLink RX5 28 "CanteenPlan" "tree" "LCanteenPlan$Tree;", Cond.methodLink RX5 65 yX5_needMeal, Cond.instanceMethod yX5_needMeal, Cond.selects RX5 yX5_needMeal yX5_needMeal, Cond.code yX5_needMeal cX5_needMeal 2 none, Cond.classLink RX5 80 "java/lang/IndexOutOfBoundsException", Cond.initialized "java/lang/IndexOutOfBoundsException", Cond.fieldLink RX5 10 "CanteenPlan" "menu" "LCanteenPlan$Menu;", Cond.methodLink RX5 46 yX5_needWithin, Cond.static yX5_needWithin]
def wsL_cost_r2 : List Cond := [Cond.code yX5_needWithin cX5_needWithin 3 none, Cond.classLink RX5 142 "java/lang/IllegalArgumentException", Cond.initialized "java/lang/IllegalArgumentException", Cond.instanceMethod yX4_askedOnTheWay, Cond.initialized RX4, Cond.selects RX4 yX4_askedOnTheWay yX4_askedOnTheWay, Cond.code yX4_askedOnTheWay cX4_askedOnTheWay 6 (some .int), Cond.methodLink RX4 22 yX4_markThatParts, Cond.instanceMethod yX4_markThatParts, Cond.selects RX4 yX4_markThatParts yX4_markThatParts, Cond.code yX4_markThatParts cX4_markThatParts 18 (some .int), Cond.fieldLink RX4 34 "CanteenPlan$Tree" "days" "I", Cond.fieldLink RX4 9 "CanteenPlan$Tree" "daysWith" "[I", Cond.methodLink RX4 38 Lib.Math.min.name, Cond.static Lib.Math.min.name, Cond.initialized "java/lang/Math", Cond.code Lib.Math.min.name Lib.Math.min.code 2 (some .int), Cond.fieldLink RX4 15 "CanteenPlan$Tree" "sumWith" "[I", Cond.fieldLink RX4 44 "CanteenPlan$Tree" "sum" "I", Cond.methodLink RX4 30 yX4_readKnot, Cond.instanceMethod yX4_readKnot, Cond.selects RX4 yX4_readKnot yX4_readKnot, Cond.code yX4_readKnot cX4_readKnot 5 none, Cond.fieldLink RX4 18 "CanteenPlan$Tree" "diary" "LCanteenPlan$Diary;"]
def wsL_cost_r3 : List Cond := [Cond.methodLink RX4 47 yJ7_fill_53178, Cond.static yJ7_fill_53178, Cond.initialized RJ7, Cond.code yJ7_fill_53178 cJ7_fill_53178 4 none, Cond.instanceMethod yX0_isInKnot, Cond.initialized RX0, Cond.selects RX0 yX0_isInKnot yX0_isInKnot, Cond.code yX0_isInKnot cX0_isInKnot 4 (some .boolean), Cond.fieldLink RX0 18 "CanteenPlan$Diary" "isAway" "[Z", Cond.fieldLink RX0 15 "CanteenPlan$Diary" "marksOf" "[I", Cond.instanceMethod yX0_eatenOn, Cond.selects RX0 yX0_eatenOn yX0_eatenOn, Cond.code yX0_eatenOn cX0_eatenOn 3 (some .int), Cond.fieldLink RX0 22 "CanteenPlan$Diary" "eaten" "[I", Cond.methodLink RX4 68 yX4_readDay, Cond.instanceMethod yX4_readDay, Cond.selects RX4 yX4_readDay yX4_readDay, Cond.code yX4_readDay cX4_readDay 4 none, Cond.instanceMethod yX2_readLeaf, Cond.initialized RX2, Cond.selects RX2 yX2_readLeaf yX2_readLeaf, Cond.code yX2_readLeaf cX2_readLeaf 6 none, Cond.fieldLink RX2 25 "CanteenPlan$Kitchen" "daysUpTo" "[I", Cond.fieldLink RX2 59 "CanteenPlan$Kitchen" "days" "I"]
def wsL_cost_r4 : List Cond := [Cond.fieldLink RX2 62 "CanteenPlan$Kitchen" "sum" "I", Cond.fieldLink RX2 28 "CanteenPlan$Kitchen" "sumUpTo" "[I", Cond.methodLink RX2 40 yJ7_fill_53178, Cond.instanceMethod yX2_findBest, Cond.selects RX2 yX2_findBest yX2_findBest, Cond.code yX2_findBest cX2_findBest 6 none, Cond.fieldLink RX2 65 "CanteenPlan$Kitchen" "hasBest" "Z", Cond.fieldLink RX2 31 "CanteenPlan$Kitchen" "tried" "[I", Cond.methodLink RX2 69 yX2_mostPots, Cond.instanceMethod yX2_mostPots, Cond.selects RX2 yX2_mostPots yX2_mostPots, Cond.code yX2_mostPots cX2_mostPots 3 (some .int), Cond.fieldLink RX2 37 "CanteenPlan$Kitchen" "sizes" "I", Cond.methodLink RX2 72 yX2_weighTried, Cond.instanceMethod yX2_weighTried, Cond.selects RX2 yX2_weighTried yX2_weighTried, Cond.code yX2_weighTried cX2_weighTried 8 none, Cond.fieldLink RX2 9 "CanteenPlan$Kitchen" "portions" "[I", Cond.fieldLink RX2 15 "CanteenPlan$Kitchen" "price" "[I", Cond.fieldLink RX2 84 "CanteenPlan$Kitchen" "bestCost" "J", Cond.fieldLink RX2 88 "CanteenPlan$Kitchen" "bestPortions" "I", Cond.fieldLink RX2 91 "CanteenPlan$Kitchen" "bestPots" "I", Cond.fieldLink RX2 34 "CanteenPlan$Kitchen" "best" "[I", Cond.methodLink RX2 94 arraycopyName]
def wsL_cost_r5 : List Cond := [Cond.native arraycopyName, Cond.static arraycopyName, Cond.initialized "java/lang/System", Cond.methodLink RX2 76 yX2_wasteAndWant, Cond.instanceMethod yX2_wasteAndWant, Cond.selects RX2 yX2_wasteAndWant yX2_wasteAndWant, Cond.code yX2_wasteAndWant cX2_wasteAndWant 7 (some .long), Cond.methodLink RX2 100 Lib.Math.min.name, Cond.fieldLink RX2 18 "CanteenPlan$Kitchen" "waste" "I", Cond.fieldLink RX2 22 "CanteenPlan$Kitchen" "want" "I", Cond.methodLink RX2 80 yX2_isBetter, Cond.instanceMethod yX2_isBetter, Cond.selects RX2 yX2_isBetter yX2_isBetter, Cond.code yX2_isBetter cX2_isBetter 5 (some .boolean)]
def wsL_cost : List Cond := .codeWith yL_cost cL_cost 6 (some .int) [(0, 11, 14, 20), (0, 11, 18, 13)] :: ((wsL_cost_r1 ++ (wsL_cost_r2 ++ (wsL_cost_r3 ++ (wsL_cost_r4 ++ wsL_cost_r5)))) ++ wsX50 ++ wsX20 ++ wsX30 ++ wsX40 ++ wsX00 ++ (vx_atS RX5 84 "java/lang/IndexOutOfBoundsException" ["java/lang/RuntimeException", "java/lang/Exception"]).filter goodWord ++ (vx_atS RX5 146 "java/lang/IllegalArgumentException" ["java/lang/RuntimeException", "java/lang/Exception"]).filter goodWord)
def wsL_pots_r1 : List Cond := [Cond.classLink RL 20 "java/lang/IndexOutOfBoundsException", Cond.classLink RL 13 "java/lang/IllegalArgumentException", Cond.methodLink RL 51 yX5_pots, Cond.instanceMethod yX5_pots, Cond.selects RX5 yX5_pots yX5_pots, Cond.initialized RX5, Cond.code yX5_pots cX5_pots 5 (some .int), Cond.fieldLink RX5 35 "CanteenPlan" "kitchen" "LCanteenPlan$Kitchen;", Cond.methodLink RX5 115 yX5_findBestSet, Cond.instanceMethod yX5_findBestSet, Cond.selects RX5 yX5_findBestSet yX5_findBestSet, Cond.code yX5_findBestSet cX5_findBestSet 4 (some .boolean), Cond.fieldLink RX5 19 "CanteenPlan" "diary" "LCanteenPlan$Diary;", Cond.fieldLink RX5 28 "CanteenPlan" "tree" "LCanteenPlan$Tree;", Cond.methodLink RX5 65 yX5_needMeal, Cond.instanceMethod yX5_needMeal, Cond.selects RX5 yX5_needMeal yX5_needMeal, Cond.code yX5_needMeal cX5_needMeal 2 none, Cond.classLink RX5 80 "java/lang/IndexOutOfBoundsException", Cond.initialized "java/lang/IndexOutOfBoundsException", Cond.fieldLink RX5 10 "CanteenPlan" "menu" "LCanteenPlan$Menu;", Cond.methodLink RX5 46 yX5_needWithin, Cond.static yX5_needWithin, Cond.code yX5_needWithin cX5_needWithin 3 none]
def wsL_pots_r2 : List Cond := [Cond.classLink RX5 142 "java/lang/IllegalArgumentException", Cond.initialized "java/lang/IllegalArgumentException", Cond.instanceMethod yX4_askedOnTheWay, Cond.initialized RX4, Cond.selects RX4 yX4_askedOnTheWay yX4_askedOnTheWay, Cond.code yX4_askedOnTheWay cX4_askedOnTheWay 6 (some .int), Cond.methodLink RX4 22 yX4_markThatParts, Cond.instanceMethod yX4_markThatParts, Cond.selects RX4 yX4_markThatParts yX4_markThatParts, Cond.code yX4_markThatParts cX4_markThatParts 18 (some .int), Cond.fieldLink RX4 34 "CanteenPlan$Tree" "days" "I", Cond.fieldLink RX4 9 "CanteenPlan$Tree" "daysWith" "[I", Cond.methodLink RX4 38 Lib.Math.min.name, Cond.static Lib.Math.min.name, Cond.initialized "java/lang/Math", Cond.code Lib.Math.min.name Lib.Math.min.code 2 (some .int), Cond.fieldLink RX4 15 "CanteenPlan$Tree" "sumWith" "[I", Cond.fieldLink RX4 44 "CanteenPlan$Tree" "sum" "I", Cond.methodLink RX4 30 yX4_readKnot, Cond.instanceMethod yX4_readKnot, Cond.selects RX4 yX4_readKnot yX4_readKnot, Cond.code yX4_readKnot cX4_readKnot 5 none, Cond.fieldLink RX4 18 "CanteenPlan$Tree" "diary" "LCanteenPlan$Diary;", Cond.methodLink RX4 47 yJ7_fill_53178]
def wsL_pots_r3 : List Cond := [Cond.static yJ7_fill_53178, Cond.initialized RJ7, Cond.code yJ7_fill_53178 cJ7_fill_53178 4 none, Cond.instanceMethod yX0_isInKnot, Cond.initialized RX0, Cond.selects RX0 yX0_isInKnot yX0_isInKnot, Cond.code yX0_isInKnot cX0_isInKnot 4 (some .boolean), Cond.fieldLink RX0 18 "CanteenPlan$Diary" "isAway" "[Z", Cond.fieldLink RX0 15 "CanteenPlan$Diary" "marksOf" "[I", Cond.instanceMethod yX0_eatenOn, Cond.selects RX0 yX0_eatenOn yX0_eatenOn, Cond.code yX0_eatenOn cX0_eatenOn 3 (some .int), Cond.fieldLink RX0 22 "CanteenPlan$Diary" "eaten" "[I", Cond.methodLink RX4 68 yX4_readDay, Cond.instanceMethod yX4_readDay, Cond.selects RX4 yX4_readDay yX4_readDay, Cond.code yX4_readDay cX4_readDay 4 none, Cond.instanceMethod yX2_readLeaf, Cond.initialized RX2, Cond.selects RX2 yX2_readLeaf yX2_readLeaf, Cond.code yX2_readLeaf cX2_readLeaf 6 none, Cond.fieldLink RX2 25 "CanteenPlan$Kitchen" "daysUpTo" "[I", Cond.fieldLink RX2 59 "CanteenPlan$Kitchen" "days" "I", Cond.fieldLink RX2 62 "CanteenPlan$Kitchen" "sum" "I"]
def wsL_pots_r4 : List Cond := [Cond.fieldLink RX2 28 "CanteenPlan$Kitchen" "sumUpTo" "[I", Cond.methodLink RX2 40 yJ7_fill_53178, Cond.instanceMethod yX2_findBest, Cond.selects RX2 yX2_findBest yX2_findBest, Cond.code yX2_findBest cX2_findBest 6 none, Cond.fieldLink RX2 65 "CanteenPlan$Kitchen" "hasBest" "Z", Cond.fieldLink RX2 31 "CanteenPlan$Kitchen" "tried" "[I", Cond.methodLink RX2 69 yX2_mostPots, Cond.instanceMethod yX2_mostPots, Cond.selects RX2 yX2_mostPots yX2_mostPots, Cond.code yX2_mostPots cX2_mostPots 3 (some .int), Cond.fieldLink RX2 37 "CanteenPlan$Kitchen" "sizes" "I", Cond.methodLink RX2 72 yX2_weighTried, Cond.instanceMethod yX2_weighTried, Cond.selects RX2 yX2_weighTried yX2_weighTried, Cond.code yX2_weighTried cX2_weighTried 8 none, Cond.fieldLink RX2 9 "CanteenPlan$Kitchen" "portions" "[I", Cond.fieldLink RX2 15 "CanteenPlan$Kitchen" "price" "[I", Cond.fieldLink RX2 84 "CanteenPlan$Kitchen" "bestCost" "J", Cond.fieldLink RX2 88 "CanteenPlan$Kitchen" "bestPortions" "I", Cond.fieldLink RX2 91 "CanteenPlan$Kitchen" "bestPots" "I", Cond.fieldLink RX2 34 "CanteenPlan$Kitchen" "best" "[I", Cond.methodLink RX2 94 arraycopyName, Cond.native arraycopyName]
def wsL_pots_r5 : List Cond := [Cond.static arraycopyName, Cond.initialized "java/lang/System", Cond.methodLink RX2 76 yX2_wasteAndWant, Cond.instanceMethod yX2_wasteAndWant, Cond.selects RX2 yX2_wasteAndWant yX2_wasteAndWant, Cond.code yX2_wasteAndWant cX2_wasteAndWant 7 (some .long), Cond.methodLink RX2 100 Lib.Math.min.name, Cond.fieldLink RX2 18 "CanteenPlan$Kitchen" "waste" "I", Cond.fieldLink RX2 22 "CanteenPlan$Kitchen" "want" "I", Cond.methodLink RX2 80 yX2_isBetter, Cond.instanceMethod yX2_isBetter, Cond.selects RX2 yX2_isBetter yX2_isBetter, Cond.code yX2_isBetter cX2_isBetter 5 (some .boolean), Cond.instanceMethod yX2_bestPotsOf, Cond.selects RX2 yX2_bestPotsOf yX2_bestPotsOf, Cond.code yX2_bestPotsOf cX2_bestPotsOf 2 (some .int)]
def wsL_pots : List Cond := .codeWith yL_pots cL_pots 7 (some .int) [(0, 14, 17, 20), (0, 14, 21, 13)] :: ((wsL_pots_r1 ++ (wsL_pots_r2 ++ (wsL_pots_r3 ++ (wsL_pots_r4 ++ wsL_pots_r5)))) ++ wsX50 ++ wsX20 ++ wsX30 ++ wsX40 ++ wsX00 ++ (vx_atS RX5 84 "java/lang/IndexOutOfBoundsException" ["java/lang/RuntimeException", "java/lang/Exception"]).filter goodWord ++ (vx_atS RX5 146 "java/lang/IllegalArgumentException" ["java/lang/RuntimeException", "java/lang/Exception"]).filter goodWord)
def wsL_ladle_r1 : List Cond := [Cond.classLink RL 20 "java/lang/IndexOutOfBoundsException", Cond.methodLink RL 55 yX5_ladle, Cond.instanceMethod yX5_ladle, Cond.selects RX5 yX5_ladle yX5_ladle, Cond.initialized RX5, Cond.code yX5_ladle cX5_ladle 2 (some .int), Cond.fieldLink RX5 10 "CanteenPlan" "menu" "LCanteenPlan$Menu;", Cond.methodLink RX5 65 yX5_needMeal, Cond.instanceMethod yX5_needMeal, Cond.selects RX5 yX5_needMeal yX5_needMeal, Cond.code yX5_needMeal cX5_needMeal 2 none, Cond.classLink RX5 80 "java/lang/IndexOutOfBoundsException", Cond.initialized "java/lang/IndexOutOfBoundsException", Cond.instanceMethod yX3_deal, Cond.initialized RX3, Cond.selects RX3 yX3_deal yX3_deal, Cond.code yX3_deal cX3_deal 2 (some .int), Cond.fieldLink RX3 21 "CanteenPlan$Menu" "meals" "I", Cond.methodLink RX3 25 yX3_canMeet, Cond.instanceMethod yX3_canMeet, Cond.selects RX3 yX3_canMeet yX3_canMeet, Cond.code yX3_canMeet cX3_canMeet 3 (some .boolean), Cond.fieldLink RX3 9 "CanteenPlan$Menu" "in" "[I", Cond.fieldLink RX3 15 "CanteenPlan$Menu" "barred" "[I"]
def wsL_ladle_r2 : List Cond := [Cond.methodLink RX3 29 yX3_dealFrom, Cond.instanceMethod yX3_dealFrom, Cond.selects RX3 yX3_dealFrom yX3_dealFrom, Cond.code yX3_dealFrom cX3_dealFrom 5 (some .boolean), Cond.fieldLink RX3 18 "CanteenPlan$Menu" "ladleOf" "[I", Cond.methodLink RX3 36 Lib.Math.max.name, Cond.static Lib.Math.max.name, Cond.initialized "java/lang/Math", Cond.code Lib.Math.max.name Lib.Math.max.code 2 (some .int), Cond.methodLink RX3 33 yX3_canTake, Cond.instanceMethod yX3_canTake, Cond.selects RX3 yX3_canTake yX3_canTake, Cond.code yX3_canTake cX3_canTake 4 (some .boolean)]
def wsL_ladle : List Cond := .codeWith yL_ladle cL_ladle 4 (some .int) [(0, 9, 12, 20)] :: ((wsL_ladle_r1 ++ wsL_ladle_r2) ++ wsX50 ++ wsX30 ++ (vx_atS RX5 84 "java/lang/IndexOutOfBoundsException" ["java/lang/RuntimeException", "java/lang/Exception"]).filter goodWord)
def wsL_come : List Cond := .codeWith yL_come cL_come 4 (some .int) [(0, 9, 12, 13)] :: ([.classLink RL 13 "java/lang/IllegalArgumentException", .methodLink RL 58 yX5_come, .instanceMethod yX5_come, .selects RX5 yX5_come yX5_come, .initialized RX5, .code yX5_come cX5_come 2 (some .int), .fieldLink RX5 42 "CanteenPlan" "line" "LCanteenPlan$Hatch;", .methodLink RX5 46 yX5_needWithin, .static yX5_needWithin, .code yX5_needWithin cX5_needWithin 3 none, .classLink RX5 142 "java/lang/IllegalArgumentException", .initialized "java/lang/IllegalArgumentException", .instanceMethod yX1_add, .initialized RX1, .selects RX1 yX1_add yX1_add, .code yX1_add cX1_add 2 (some .int), .fieldLink RX1 9 "CanteenPlan$Hatch" "coming" "[I", .fieldLink RX1 18 "CanteenPlan$Hatch" "minutes" "I"] ++ wsX50 ++ wsX10 ++ (vx_atS RX5 146 "java/lang/IllegalArgumentException" ["java/lang/RuntimeException", "java/lang/Exception"]).filter goodWord)
def wsL_hatch_r1 : List Cond := [Cond.classLink RL 13 "java/lang/IllegalArgumentException", Cond.methodLink RL 61 yX5_hatch, Cond.instanceMethod yX5_hatch, Cond.selects RX5 yX5_hatch yX5_hatch, Cond.initialized RX5, Cond.code yX5_hatch cX5_hatch 3 (some .int), Cond.fieldLink RX5 42 "CanteenPlan" "line" "LCanteenPlan$Hatch;", Cond.methodLink RX5 46 yX5_needWithin, Cond.static yX5_needWithin, Cond.code yX5_needWithin cX5_needWithin 3 none, Cond.classLink RX5 142 "java/lang/IllegalArgumentException", Cond.initialized "java/lang/IllegalArgumentException", Cond.instanceMethod yX1_factOf, Cond.initialized RX1, Cond.selects RX1 yX1_factOf yX1_factOf, Cond.code yX1_factOf cX1_factOf 5 (some .int), Cond.fieldLink RX1 15 "CanteenPlan$Hatch" "facts" "[I", Cond.fieldLink RX1 18 "CanteenPlan$Hatch" "minutes" "I", Cond.fieldLink RX1 9 "CanteenPlan$Hatch" "coming" "[I", Cond.methodLink RX1 36 Lib.Math.max.name, Cond.static Lib.Math.max.name, Cond.initialized "java/lang/Math", Cond.code Lib.Math.max.name Lib.Math.max.code 2 (some .int), Cond.methodLink RX1 26 yJ7_fill_53178]
def wsL_hatch_r2 : List Cond := [Cond.static yJ7_fill_53178, Cond.initialized RJ7, Cond.code yJ7_fill_53178 cJ7_fill_53178 4 none, Cond.methodLink RX1 32 yX1_noteWaits, Cond.instanceMethod yX1_noteWaits, Cond.selects RX1 yX1_noteWaits yX1_noteWaits, Cond.code yX1_noteWaits cX1_noteWaits 6 none, Cond.methodLink RX1 41 yX1_waitsOfFirst, Cond.static yX1_waitsOfFirst, Cond.code yX1_waitsOfFirst cX1_waitsOfFirst 4 (some .int)]
def wsL_hatch : List Cond := .codeWith yL_hatch cL_hatch 5 (some .int) [(0, 10, 13, 13)] :: ((wsL_hatch_r1 ++ wsL_hatch_r2) ++ wsX50 ++ wsX10 ++ (vx_atS RX5 146 "java/lang/IllegalArgumentException" ["java/lang/RuntimeException", "java/lang/Exception"]).filter goodWord)
def wsL_serve_r1 : List Cond := [Cond.classLink RL 13 "java/lang/IllegalArgumentException", Cond.methodLink RL 64 yX5_serve, Cond.instanceMethod yX5_serve, Cond.selects RX5 yX5_serve yX5_serve, Cond.initialized RX5, Cond.code yX5_serve cX5_serve 2 (some .int), Cond.classLink RX5 142 "java/lang/IllegalArgumentException", Cond.initialized "java/lang/IllegalArgumentException", Cond.fieldLink RX5 42 "CanteenPlan" "line" "LCanteenPlan$Hatch;", Cond.instanceMethod yX1_leastServed, Cond.initialized RX1, Cond.selects RX1 yX1_leastServed yX1_leastServed, Cond.code yX1_leastServed cX1_leastServed 3 (some .int), Cond.methodLink RX1 22 yX1_factOf, Cond.instanceMethod yX1_factOf, Cond.selects RX1 yX1_factOf yX1_factOf, Cond.code yX1_factOf cX1_factOf 5 (some .int), Cond.fieldLink RX1 15 "CanteenPlan$Hatch" "facts" "[I", Cond.fieldLink RX1 18 "CanteenPlan$Hatch" "minutes" "I", Cond.fieldLink RX1 9 "CanteenPlan$Hatch" "coming" "[I", Cond.methodLink RX1 36 Lib.Math.max.name, Cond.static Lib.Math.max.name, Cond.initialized "java/lang/Math", Cond.code Lib.Math.max.name Lib.Math.max.code 2 (some .int)]
def wsL_serve_r2 : List Cond := [Cond.methodLink RX1 26 yJ7_fill_53178, Cond.static yJ7_fill_53178, Cond.initialized RJ7, Cond.code yJ7_fill_53178 cJ7_fill_53178 4 none, Cond.methodLink RX1 32 yX1_noteWaits, Cond.instanceMethod yX1_noteWaits, Cond.selects RX1 yX1_noteWaits yX1_noteWaits, Cond.code yX1_noteWaits cX1_noteWaits 6 none, Cond.methodLink RX1 41 yX1_waitsOfFirst, Cond.static yX1_waitsOfFirst, Cond.code yX1_waitsOfFirst cX1_waitsOfFirst 4 (some .int)]
def wsL_serve : List Cond := .codeWith yL_serve cL_serve 4 (some .int) [(0, 9, 12, 13)] :: ((wsL_serve_r1 ++ wsL_serve_r2) ++ wsX50 ++ wsX10 ++ (vx_atS RX5 146 "java/lang/IllegalArgumentException" ["java/lang/RuntimeException", "java/lang/Exception"]).filter goodWord)
theorem inJ9 : ∀ w ∈ wsJ90, w ∈ lw_tbl := by decide +kernel
theorem inJ0 : ∀ w ∈ wsJ00, w ∈ lw_tbl := by decide +kernel
theorem inJ10 : ∀ w ∈ wsJ100, w ∈ lw_tbl := by decide +kernel
theorem inJ7 : ∀ w ∈ wsJ70, w ∈ lw_tbl := by decide +kernel
abbrev vwCl : List vw_C := [(RX0, TX0, 7), (RX1, TX1, 3), (RX2, TX2, 15), (RX3, TX3, 4), (RX4, TX4, 5), (RX5, TX5, 5), (RX6, TX6, 36)]
end
section
set_option maxRecDepth 20000 in
theorem ggX0_factOf_J7_fill_53178 : GoodIn wsX0_factOf wsJ7_fill_53178 := goodIn_r _ [6] (by decide +kernel) (by decide +kernel)
set_option maxRecDepth 20000 in
theorem gX0_factOf_J7_fill_53178 : GoodIn wsX0_factOf (va_wsS RX0 35 yJ7_fill_53178 wsJ7_fill_53178) := goodIn_app (goodIn_of _ (by decide +kernel)) ggX0_factOf_J7_fill_53178
set_option maxRecDepth 20000 in
theorem ggX0_factOf_X0_isInKnot : GoodIn wsX0_factOf wsX0_isInKnot := goodIn_r _ [11, 12, 13, 30, 31, 32, 33, 34, 35, 36] (by decide +kernel) (by decide +kernel)
set_option maxRecDepth 20000 in
theorem gX0_factOf_X0_isInKnot : GoodIn wsX0_factOf (wsV RX0 41 RX0 yX0_isInKnot wsX0_isInKnot) := goodIn_app (goodIn_of _ (by decide +kernel)) ggX0_factOf_X0_isInKnot
set_option maxRecDepth 20000 in
theorem ggX0_factOf_X0_eatenOn : GoodIn wsX0_factOf wsX0_eatenOn := goodIn_r _ [17, 18, 30, 31, 32, 33, 34, 35, 36] (by decide +kernel) (by decide +kernel)
set_option maxRecDepth 20000 in
theorem gX0_factOf_X0_eatenOn : GoodIn wsX0_factOf (wsV RX0 45 RX0 yX0_eatenOn wsX0_eatenOn) := goodIn_app (goodIn_of _ (by decide +kernel)) ggX0_factOf_X0_eatenOn
set_option maxRecDepth 20000 in
theorem ggX0_factOf_X0_noteFacts : GoodIn wsX0_factOf wsX0_noteFacts := goodIn_r _ [22, 1, 23, 24, 25, 26, 27, 28, 29, 30, 31, 32, 33, 34, 35, 36] (by decide +kernel) (by decide +kernel)
set_option maxRecDepth 20000 in
theorem gX0_factOf_X0_noteFacts : GoodIn wsX0_factOf (wsV RX0 49 RX0 yX0_noteFacts wsX0_noteFacts) := goodIn_app (goodIn_of _ (by decide +kernel)) ggX0_factOf_X0_noteFacts
set_option maxRecDepth 20000 in
theorem ggX1_leastServed_X1_factOf : GoodIn wsX1_leastServed wsX1_factOf := goodIn_r _ [5, 6, 7, 8, 9, 10, 11, 12, 13, 14, 15, 16, 17, 18, 19, 4, 20, 21, 22, 23, 24, 25, 26] (by decide +kernel) (by decide +kernel)
set_option maxRecDepth 20000 in
theorem gX1_leastServed_X1_factOf : GoodIn wsX1_leastServed (wsV RX1 22 RX1 yX1_factOf wsX1_factOf) := goodIn_app (goodIn_of _ (by decide +kernel)) ggX1_leastServed_X1_factOf
set_option maxRecDepth 20000 in
theorem ggX1_factOf_J7_fill_53178 : GoodIn wsX1_factOf wsJ7_fill_53178 := goodIn_r _ [11] (by decide +kernel) (by decide +kernel)
set_option maxRecDepth 20000 in
theorem gX1_factOf_J7_fill_53178 : GoodIn wsX1_factOf (va_wsS RX1 26 yJ7_fill_53178 wsJ7_fill_53178) := goodIn_app (goodIn_of _ (by decide +kernel)) ggX1_factOf_J7_fill_53178
set_option maxRecDepth 20000 in
theorem ggX1_factOf_X1_noteWaits : GoodIn wsX1_factOf wsX1_noteWaits := goodIn_r _ [16, 3, 1, 4, 5, 6, 7, 17, 18, 15, 19, 20, 21, 22] (by decide +kernel) (by decide +kernel)
set_option maxRecDepth 20000 in
theorem gX1_factOf_X1_noteWaits : GoodIn wsX1_factOf (wsV RX1 32 RX1 yX1_noteWaits wsX1_noteWaits) := goodIn_app (goodIn_of _ (by decide +kernel)) ggX1_factOf_X1_noteWaits
set_option maxRecDepth 20000 in
theorem ggX1_noteWaits_X1_waitsOfFirst : GoodIn wsX1_noteWaits wsX1_waitsOfFirst := goodIn_r _ [10] (by decide +kernel) (by decide +kernel)
set_option maxRecDepth 20000 in
theorem gX1_noteWaits_X1_waitsOfFirst : GoodIn wsX1_noteWaits (va_wsS RX1 41 yX1_waitsOfFirst wsX1_waitsOfFirst) := goodIn_app (goodIn_of _ (by decide +kernel)) ggX1_noteWaits_X1_waitsOfFirst
set_option maxRecDepth 20000 in
theorem ggX2_readLeaf_J7_fill_53178 : GoodIn wsX2_readLeaf wsJ7_fill_53178 := goodIn_r _ [8] (by decide +kernel) (by decide +kernel)
set_option maxRecDepth 20000 in
theorem gX2_readLeaf_J7_fill_53178 : GoodIn wsX2_readLeaf (va_wsS RX2 40 yJ7_fill_53178 wsJ7_fill_53178) := goodIn_app (goodIn_of _ (by decide +kernel)) ggX2_readLeaf_J7_fill_53178
set_option maxRecDepth 20000 in
theorem ggX2_readLeaf_X0_isInKnot : GoodIn wsX2_readLeaf wsX0_isInKnot := goodIn_r _ [12, 13, 14, 34, 35, 36, 37, 38, 39, 40] (by decide +kernel) (by decide +kernel)
set_option maxRecDepth 20000 in
theorem gX2_readLeaf_X0_isInKnot_n51 : GoodIn wsX2_readLeaf (wsX0_isInKnot) := ggX2_readLeaf_X0_isInKnot
set_option maxRecDepth 20000 in
theorem ggX2_readLeaf_X0_eatenOn : GoodIn wsX2_readLeaf wsX0_eatenOn := goodIn_r _ [17, 18, 34, 35, 36, 37, 38, 39, 40] (by decide +kernel) (by decide +kernel)
set_option maxRecDepth 20000 in
theorem gX2_readLeaf_X0_eatenOn_n55 : GoodIn wsX2_readLeaf (wsX0_eatenOn) := ggX2_readLeaf_X0_eatenOn
set_option maxRecDepth 20000 in
theorem ggX2_findBest_X2_mostPots : GoodIn wsX2_findBest wsX2_mostPots := goodIn_r _ [7, 8, 41, 42, 43, 44, 45, 46, 47, 48, 49, 50, 51, 52, 53, 54, 55] (by decide +kernel) (by decide +kernel)
set_option maxRecDepth 20000 in
theorem gX2_findBest_X2_mostPots : GoodIn wsX2_findBest (wsV RX2 69 RX2 yX2_mostPots wsX2_mostPots) := goodIn_app (goodIn_of _ (by decide +kernel)) ggX2_findBest_X2_mostPots
set_option maxRecDepth 20000 in
theorem ggX2_findBest_X2_weighTried : GoodIn wsX2_findBest wsX2_weighTried := goodIn_r _ [12, 8, 2, 13, 14, 15, 1, 16, 17, 18, 19, 20, 21, 22, 23, 24, 25, 26, 6, 27, 28, 29, 30, 31, 32, 33, 34, 35, 36, 37, 38, 39, 40, 41, 42, 43, 44, 45, 46, 47, 48, 49, 50, 51, 52, 53, 54, 55] (by decide +kernel) (by decide +kernel)
set_option maxRecDepth 20000 in
theorem gX2_findBest_X2_weighTried : GoodIn wsX2_findBest (wsV RX2 72 RX2 yX2_weighTried wsX2_weighTried) := goodIn_app (goodIn_of _ (by decide +kernel)) ggX2_findBest_X2_weighTried
set_option maxRecDepth 20000 in
theorem ggX2_weighTried_X2_wasteAndWant : GoodIn wsX2_weighTried wsX2_wasteAndWant := goodIn_r _ [19, 20, 21, 22, 23, 24, 25, 26, 5, 27, 28, 33, 34, 35, 36, 37, 38, 39, 40, 41, 42, 43, 44, 45, 46, 47] (by decide +kernel) (by decide +kernel)
set_option maxRecDepth 20000 in
theorem gX2_weighTried_X2_wasteAndWant : GoodIn wsX2_weighTried (wsV RX2 76 RX2 yX2_wasteAndWant wsX2_wasteAndWant) := goodIn_app (goodIn_of _ (by decide +kernel)) ggX2_weighTried_X2_wasteAndWant
set_option maxRecDepth 20000 in
theorem ggX2_weighTried_X2_isBetter : GoodIn wsX2_weighTried wsX2_isBetter := goodIn_r _ [32, 7, 8, 9, 33, 34, 35, 36, 37, 38, 39, 40, 41, 42, 43, 44, 45, 46, 47] (by decide +kernel) (by decide +kernel)
set_option maxRecDepth 20000 in
theorem gX2_weighTried_X2_isBetter : GoodIn wsX2_weighTried (wsV RX2 80 RX2 yX2_isBetter wsX2_isBetter) := goodIn_app (goodIn_of _ (by decide +kernel)) ggX2_weighTried_X2_isBetter
set_option maxRecDepth 20000 in
theorem ggX3_deal_X3_canMeet : GoodIn wsX3_deal wsX3_canMeet := goodIn_r _ [6, 7, 8, 22, 23, 24, 25] (by decide +kernel) (by decide +kernel)
set_option maxRecDepth 20000 in
theorem gX3_deal_X3_canMeet : GoodIn wsX3_deal (wsV RX3 25 RX3 yX3_canMeet wsX3_canMeet) := goodIn_app (goodIn_of _ (by decide +kernel)) ggX3_deal_X3_canMeet
set_option maxRecDepth 20000 in
theorem ggX3_deal_X3_dealFrom : GoodIn wsX3_deal wsX3_dealFrom := goodIn_r _ [12, 1, 13, 14, 15, 16, 17, 18, 19, 20, 5, 21, 2, 3, 4, 6, 7, 8, 9, 10, 11, 22, 23, 24, 25] (by decide +kernel) (by decide +kernel)
set_option maxRecDepth 20000 in
theorem gX3_deal_X3_dealFrom : GoodIn wsX3_deal (wsV RX3 29 RX3 yX3_dealFrom wsX3_dealFrom) := goodIn_app (goodIn_of _ (by decide +kernel)) ggX3_deal_X3_dealFrom
set_option maxRecDepth 20000 in
theorem ggX3_dealFrom_X3_canTake : GoodIn wsX3_dealFrom wsX3_canTake := goodIn_r _ [11, 2, 12, 13, 14, 10, 15, 16, 17, 21, 22, 23, 24] (by decide +kernel) (by decide +kernel)
set_option maxRecDepth 20000 in
theorem gX3_dealFrom_X3_canTake : GoodIn wsX3_dealFrom (wsV RX3 33 RX3 yX3_canTake wsX3_canTake) := goodIn_app (goodIn_of _ (by decide +kernel)) ggX3_dealFrom_X3_canTake
set_option maxRecDepth 20000 in
theorem ggX3_dealFrom_X3_dealFrom : GoodIn wsX3_dealFrom wsX3_dealFrom := goodIn_r _ [0, 1, 2, 3, 4, 5, 6, 7, 8, 9, 10, 11, 12, 13, 14, 15, 16, 17, 18, 19, 20, 21, 22, 23, 24] (by decide +kernel) (by decide +kernel)
set_option maxRecDepth 20000 in
theorem gX3_dealFrom_X3_dealFrom : GoodIn wsX3_dealFrom (wsV RX3 29 RX3 yX3_dealFrom wsX3_dealFrom) := goodIn_app (goodIn_of _ (by decide +kernel)) ggX3_dealFrom_X3_dealFrom
set_option maxRecDepth 20000 in
theorem ggX3_canTake_X3_canMeet : GoodIn wsX3_canTake wsX3_canMeet := goodIn_r _ [6, 7, 8, 9, 10, 11, 12] (by decide +kernel) (by decide +kernel)
set_option maxRecDepth 20000 in
theorem gX3_canTake_X3_canMeet : GoodIn wsX3_canTake (wsV RX3 25 RX3 yX3_canMeet wsX3_canMeet) := goodIn_app (goodIn_of _ (by decide +kernel)) ggX3_canTake_X3_canMeet
set_option maxRecDepth 20000 in
theorem ggX4_leavesBelow_X4_markThatParts : GoodIn wsX4_leavesBelow wsX4_markThatParts := goodIn_r _ [5, 6, 7, 8, 9, 10, 11, 12, 13, 14, 15, 16, 4, 17, 18, 19, 20, 21, 22, 23, 24, 25, 26, 27, 28, 29, 30, 31, 32, 33, 34, 35, 36, 40, 41, 42, 43, 44, 45, 46, 47, 48, 49, 50, 51] (by decide +kernel) (by decide +kernel)
set_option maxRecDepth 20000 in
theorem gX4_leavesBelow_X4_markThatParts : GoodIn wsX4_leavesBelow (wsV RX4 22 RX4 yX4_markThatParts wsX4_markThatParts) := goodIn_app (goodIn_of _ (by decide +kernel)) ggX4_leavesBelow_X4_markThatParts
set_option maxRecDepth 20000 in
theorem ggX4_leavesBelow_X4_leavesBelow : GoodIn wsX4_leavesBelow wsX4_leavesBelow := goodIn_r _ [0, 1, 2, 3, 4, 5, 6, 7, 8, 9, 10, 11, 12, 13, 14, 15, 16, 17, 18, 19, 20, 21, 22, 23, 24, 25, 26, 27, 28, 29, 30, 31, 32, 33, 34, 35, 36, 37, 38, 39, 40, 41, 42, 43, 44, 45, 46, 47, 48, 49, 50, 51] (by decide +kernel) (by decide +kernel)
set_option maxRecDepth 20000 in
theorem gX4_leavesBelow_X4_leavesBelow : GoodIn wsX4_leavesBelow (wsV RX4 26 RX4 yX4_leavesBelow wsX4_leavesBelow) := goodIn_app (goodIn_of _ (by decide +kernel)) ggX4_leavesBelow_X4_leavesBelow
set_option maxRecDepth 20000 in
theorem ggX4_markOnTheWay_X4_markThatParts : GoodIn wsX4_markOnTheWay wsX4_markThatParts := goodIn_r _ [5, 6, 7, 8, 9, 10, 11, 12, 13, 14, 15, 16, 4, 17, 18, 19, 20, 21, 22, 23, 24, 25, 26, 27, 28, 29, 30, 31, 32, 33, 34, 35, 36, 37, 38, 39, 40, 41, 42, 43, 44, 45, 46, 47, 48] (by decide +kernel) (by decide +kernel)
set_option maxRecDepth 20000 in
theorem gX4_markOnTheWay_X4_markThatParts : GoodIn wsX4_markOnTheWay (wsV RX4 22 RX4 yX4_markThatParts wsX4_markThatParts) := goodIn_app (goodIn_of _ (by decide +kernel)) ggX4_markOnTheWay_X4_markThatParts
set_option maxRecDepth 20000 in
theorem ggX4_askedOnTheWay_X4_markThatParts : GoodIn wsX4_askedOnTheWay wsX4_markThatParts := goodIn_r _ [5, 6, 7, 8, 9, 10, 11, 12, 13, 14, 15, 16, 4, 17, 18, 19, 20, 21, 22, 23, 24, 25, 26, 27, 28, 29, 30, 31, 32, 33, 34, 35, 36, 37, 38, 39, 40, 41, 42, 43, 44, 45, 46, 47, 48] (by decide +kernel) (by decide +kernel)
set_option maxRecDepth 20000 in
theorem gX4_askedOnTheWay_X4_markThatParts : GoodIn wsX4_askedOnTheWay (wsV RX4 22 RX4 yX4_markThatParts wsX4_markThatParts) := goodIn_app (goodIn_of _ (by decide +kernel)) ggX4_askedOnTheWay_X4_markThatParts
set_option maxRecDepth 20000 in
theorem ggX4_markThatParts_X4_readKnot : GoodIn wsX4_markThatParts wsX4_readKnot := goodIn_r _ [13, 1, 8, 2, 7, 14, 15, 16, 17, 18, 19, 20, 21, 22, 23, 24, 25, 26, 27, 28, 29, 30, 31, 12, 32, 33, 34, 35, 36, 37, 38, 39, 40, 41, 42, 43, 44] (by decide +kernel) (by decide +kernel)
set_option maxRecDepth 20000 in
theorem gX4_markThatParts_X4_readKnot : GoodIn wsX4_markThatParts (wsV RX4 30 RX4 yX4_readKnot wsX4_readKnot) := goodIn_app (goodIn_of _ (by decide +kernel)) ggX4_markThatParts_X4_readKnot
set_option maxRecDepth 20000 in
theorem ggX4_readKnot_J7_fill_53178 : GoodIn wsX4_readKnot wsJ7_fill_53178 := goodIn_r _ [9] (by decide +kernel) (by decide +kernel)
set_option maxRecDepth 20000 in
theorem gX4_readKnot_J7_fill_53178 : GoodIn wsX4_readKnot (va_wsS RX4 47 yJ7_fill_53178 wsJ7_fill_53178) := goodIn_app (goodIn_of _ (by decide +kernel)) ggX4_readKnot_J7_fill_53178
set_option maxRecDepth 20000 in
theorem ggX4_readKnot_X0_isInKnot : GoodIn wsX4_readKnot wsX0_isInKnot := goodIn_r _ [13, 14, 15, 30, 31, 32, 33, 34, 35, 36] (by decide +kernel) (by decide +kernel)
set_option maxRecDepth 20000 in
theorem gX4_readKnot_X0_isInKnot_n58 : GoodIn wsX4_readKnot (wsX0_isInKnot) := ggX4_readKnot_X0_isInKnot
set_option maxRecDepth 20000 in
theorem ggX4_readKnot_X0_eatenOn : GoodIn wsX4_readKnot wsX0_eatenOn := goodIn_r _ [18, 19, 30, 31, 32, 33, 34, 35, 36] (by decide +kernel) (by decide +kernel)
set_option maxRecDepth 20000 in
theorem gX4_readKnot_X0_eatenOn_n65 : GoodIn wsX4_readKnot (wsX0_eatenOn) := ggX4_readKnot_X0_eatenOn
set_option maxRecDepth 20000 in
theorem ggX4_readKnot_X4_readDay : GoodIn wsX4_readKnot wsX4_readDay := goodIn_r _ [24, 1, 2, 3, 4, 25, 26, 27, 28, 29] (by decide +kernel) (by decide +kernel)
set_option maxRecDepth 20000 in
theorem gX4_readKnot_X4_readDay : GoodIn wsX4_readKnot (wsV RX4 68 RX4 yX4_readDay wsX4_readDay) := goodIn_app (goodIn_of _ (by decide +kernel)) ggX4_readKnot_X4_readDay
set_option maxRecDepth 20000 in
theorem ggX5_init_X3_init : GoodIn wsX5_init wsX3_init := goodIn_r _ [25, 26, 2, 3, 27, 28, 29, 30, 62, 63, 64, 65] (by decide +kernel) (by decide +kernel)
set_option maxRecDepth 20000 in
theorem gX5_init_X3_init_n9 : GoodIn wsX5_init (wsX3_init) := ggX5_init_X3_init
set_option maxRecDepth 20000 in
theorem ggX5_init_X0_init : GoodIn wsX5_init wsX0_init := goodIn_r _ [32, 33, 2, 3, 27, 34, 35, 36, 37, 38, 39, 71, 72, 73, 74, 75, 76, 77] (by decide +kernel) (by decide +kernel)
set_option maxRecDepth 20000 in
theorem gX5_init_X0_init_n18 : GoodIn wsX5_init (wsX0_init) := ggX5_init_X0_init
set_option maxRecDepth 20000 in
theorem ggX5_init_X4_init : GoodIn wsX5_init wsX4_init := goodIn_r _ [41, 42, 2, 3, 27, 43, 44, 45, 78, 79, 80, 81, 82] (by decide +kernel) (by decide +kernel)
set_option maxRecDepth 20000 in
theorem gX5_init_X4_init_n25 : GoodIn wsX5_init (wsX4_init) := ggX5_init_X4_init
set_option maxRecDepth 20000 in
theorem ggX5_init_X2_init : GoodIn wsX5_init wsX2_init := goodIn_r _ [47, 48, 2, 3, 27, 49, 50, 51, 52, 53, 54, 55, 56, 83, 84, 85, 86, 87, 88, 89, 90, 91, 92, 93, 94, 95, 96, 97] (by decide +kernel) (by decide +kernel)
set_option maxRecDepth 20000 in
theorem gX5_init_X2_init_n34 : GoodIn wsX5_init (wsX2_init) := ggX5_init_X2_init
set_option maxRecDepth 20000 in
theorem ggX5_init_X1_init : GoodIn wsX5_init wsX1_init := goodIn_r _ [58, 59, 2, 3, 27, 60, 61, 98, 99, 100] (by decide +kernel) (by decide +kernel)
set_option maxRecDepth 20000 in
theorem gX5_init_X1_init_n41 : GoodIn wsX5_init (wsX1_init) := ggX5_init_X1_init
set_option maxRecDepth 20000 in
theorem ggX5_meal_X5_needWithin : GoodIn wsX5_meal wsX5_needWithin := goodIn_ca (goodIn_r _ [7, 8, 9] (by decide +kernel) (by decide +kernel)) (goodIn_sub (fun _ h => List.mem_cons_of_mem _ (List.mem_append_right _ h)) (by decide +kernel))
set_option maxRecDepth 20000 in
theorem gX5_meal_X5_needWithin : GoodIn wsX5_meal (va_wsS RX5 46 yX5_needWithin wsX5_needWithin) := goodIn_app (goodIn_of _ (by decide +kernel)) ggX5_meal_X5_needWithin
set_option maxRecDepth 20000 in
theorem ggX5_meal_X3_add : GoodIn wsX5_meal wsX3_add := goodIn_r _ [13, 14, 15, 16, 22, 23, 24, 25] (by decide +kernel) (by decide +kernel)
set_option maxRecDepth 20000 in
theorem gX5_meal_X3_add_n61 : GoodIn wsX5_meal (wsX3_add) := ggX5_meal_X3_add
set_option maxRecDepth 20000 in
theorem ggX5_ate_X5_needMeal : GoodIn wsX5_ate wsX5_needMeal := goodIn_ca (goodIn_r _ [6, 7, 8, 9, 20, 21, 22, 23, 24, 25, 26, 27, 28] (by decide +kernel) (by decide +kernel)) (goodIn_sub (fun _ h => List.mem_cons_of_mem _ (List.mem_append_left _ (List.mem_append_right _ h))) (by decide +kernel))
set_option maxRecDepth 20000 in
theorem gX5_ate_X5_needMeal : GoodIn wsX5_ate (wsV RX5 65 RX5 yX5_needMeal wsX5_needMeal) := goodIn_app (goodIn_of _ (by decide +kernel)) ggX5_ate_X5_needMeal
set_option maxRecDepth 20000 in
theorem ggX5_ate_X5_needWithin : GoodIn wsX5_ate wsX5_needWithin := goodIn_ca (goodIn_r _ [12, 13, 14] (by decide +kernel) (by decide +kernel)) (goodIn_sub (fun _ h => List.mem_cons_of_mem _ (List.mem_append_right _ h)) (by decide +kernel))
set_option maxRecDepth 20000 in
theorem gX5_ate_X5_needWithin : GoodIn wsX5_ate (va_wsS RX5 46 yX5_needWithin wsX5_needWithin) := goodIn_app (goodIn_of _ (by decide +kernel)) ggX5_ate_X5_needWithin
set_option maxRecDepth 20000 in
theorem ggX5_ate_X0_tell : GoodIn wsX5_ate wsX0_tell := goodIn_r _ [18, 19, 29, 30, 31, 32, 33, 34, 35] (by decide +kernel) (by decide +kernel)
set_option maxRecDepth 20000 in
theorem gX5_ate_X0_tell_n69 : GoodIn wsX5_ate (wsX0_tell) := ggX5_ate_X0_tell
set_option maxRecDepth 20000 in
theorem ggX5_day_X5_needWithin : GoodIn wsX5_day wsX5_needWithin := goodIn_ca (goodIn_r _ [7, 8, 9] (by decide +kernel) (by decide +kernel)) (goodIn_sub (fun _ h => List.mem_cons_of_mem _ (List.mem_append_right _ h)) (by decide +kernel))
set_option maxRecDepth 20000 in
theorem gX5_day_X5_needWithin : GoodIn wsX5_day (va_wsS RX5 46 yX5_needWithin wsX5_needWithin) := goodIn_app (goodIn_of _ (by decide +kernel)) ggX5_day_X5_needWithin
set_option maxRecDepth 20000 in
theorem ggX5_day_X0_add : GoodIn wsX5_day wsX0_add := goodIn_r _ [13, 14, 15, 16, 17, 23, 24, 25, 26, 27, 28, 29] (by decide +kernel) (by decide +kernel)
set_option maxRecDepth 20000 in
theorem gX5_day_X0_add_n77 : GoodIn wsX5_day (wsX0_add) := ggX5_day_X0_add
set_option maxRecDepth 20000 in
theorem ggX5_drop_X0_takeAway : GoodIn wsX5_drop wsX0_takeAway := goodIn_r _ [7, 8, 9, 15, 16, 17, 18, 19, 20, 21] (by decide +kernel) (by decide +kernel)
set_option maxRecDepth 20000 in
theorem gX5_drop_X0_takeAway_n85 : GoodIn wsX5_drop (wsX0_takeAway) := ggX5_drop_X0_takeAway
set_option maxRecDepth 20000 in
theorem ggX5_leaves_X5_needMeal : GoodIn wsX5_leaves wsX5_needMeal := goodIn_ca (goodIn_r _ [6, 7, 8, 9, 50, 51, 52, 53, 54, 55, 56, 57, 58] (by decide +kernel) (by decide +kernel)) (goodIn_sub (fun _ h => List.mem_cons_of_mem _ (List.mem_append_right _ h)) (by decide +kernel))
set_option maxRecDepth 20000 in
theorem gX5_leaves_X5_needMeal : GoodIn wsX5_leaves (wsV RX5 65 RX5 yX5_needMeal wsX5_needMeal) := goodIn_app (goodIn_of _ (by decide +kernel)) ggX5_leaves_X5_needMeal
set_option maxRecDepth 20000 in
theorem ggX5_leaves_X4_leavesBelow : GoodIn wsX5_leaves wsX4_leavesBelow := goodIn_r _ [13, 14, 15, 16, 11, 17, 18, 19, 20, 21, 22, 23, 24, 25, 26, 27, 28, 29, 30, 31, 32, 33, 34, 35, 36, 37, 38, 39, 40, 41, 42, 43, 44, 45, 46, 47, 48, 49, 10, 12, 59, 60, 61, 62, 63, 64, 65, 66, 67, 68, 69, 70] (by decide +kernel) (by decide +kernel)
set_option maxRecDepth 20000 in
theorem gX5_leaves_X4_leavesBelow_n89 : GoodIn wsX5_leaves (wsX4_leavesBelow) := ggX5_leaves_X4_leavesBelow
set_option maxRecDepth 20000 in
theorem ggX5_split_X5_needMeal : GoodIn wsX5_split wsX5_needMeal := goodIn_ca (goodIn_r _ [6, 7, 8, 9, 54, 55, 56, 57, 58, 59, 60, 61, 62] (by decide +kernel) (by decide +kernel)) (goodIn_sub (fun _ h => List.mem_cons_of_mem _ (List.mem_append_left _ (List.mem_append_right _ h))) (by decide +kernel))
set_option maxRecDepth 20000 in
theorem gX5_split_X5_needMeal : GoodIn wsX5_split (wsV RX5 65 RX5 yX5_needMeal wsX5_needMeal) := goodIn_app (goodIn_of _ (by decide +kernel)) ggX5_split_X5_needMeal
set_option maxRecDepth 20000 in
theorem ggX5_split_X5_needWithin : GoodIn wsX5_split wsX5_needWithin := goodIn_ca (goodIn_r _ [12, 13, 14] (by decide +kernel) (by decide +kernel)) (goodIn_sub (fun _ h => List.mem_cons_of_mem _ (List.mem_append_right _ h)) (by decide +kernel))
set_option maxRecDepth 20000 in
theorem gX5_split_X5_needWithin : GoodIn wsX5_split (va_wsS RX5 46 yX5_needWithin wsX5_needWithin) := goodIn_app (goodIn_of _ (by decide +kernel)) ggX5_split_X5_needWithin
set_option maxRecDepth 20000 in
theorem ggX5_split_X4_markOnTheWay : GoodIn wsX5_split wsX4_markOnTheWay := goodIn_r _ [18, 19, 20, 21, 16, 22, 23, 24, 25, 26, 27, 28, 29, 30, 31, 32, 33, 34, 35, 36, 37, 38, 39, 40, 41, 42, 43, 44, 45, 46, 47, 48, 49, 50, 51, 52, 53, 63, 64, 65, 66, 67, 68, 69, 70, 71, 72, 73, 74] (by decide +kernel) (by decide +kernel)
set_option maxRecDepth 20000 in
theorem gX5_split_X4_markOnTheWay_n93 : GoodIn wsX5_split (wsX4_markOnTheWay) := ggX5_split_X4_markOnTheWay
set_option maxRecDepth 20000 in
theorem ggX5_leaf_X5_needMeal : GoodIn wsX5_leaf wsX5_needMeal := goodIn_ca (goodIn_r _ [7, 8, 9, 10, 71, 72, 73, 74, 75, 76, 77, 78, 79] (by decide +kernel) (by decide +kernel)) (goodIn_sub (fun _ h => List.mem_cons_of_mem _ (List.mem_append_left _ (List.mem_append_right _ h))) (by decide +kernel))
set_option maxRecDepth 20000 in
theorem gX5_leaf_X5_needMeal : GoodIn wsX5_leaf (wsV RX5 65 RX5 yX5_needMeal wsX5_needMeal) := goodIn_app (goodIn_of _ (by decide +kernel)) ggX5_leaf_X5_needMeal
set_option maxRecDepth 20000 in
theorem ggX5_leaf_X5_needWithin : GoodIn wsX5_leaf wsX5_needWithin := goodIn_ca (goodIn_r _ [13, 14, 15] (by decide +kernel) (by decide +kernel)) (goodIn_sub (fun _ h => List.mem_cons_of_mem _ (List.mem_append_right _ h)) (by decide +kernel))
set_option maxRecDepth 20000 in
theorem gX5_leaf_X5_needWithin : GoodIn wsX5_leaf (va_wsS RX5 46 yX5_needWithin wsX5_needWithin) := goodIn_app (goodIn_of _ (by decide +kernel)) ggX5_leaf_X5_needWithin
set_option maxRecDepth 20000 in
theorem ggX5_leaf_X4_askedOnTheWay : GoodIn wsX5_leaf wsX4_askedOnTheWay := goodIn_r _ [19, 20, 21, 22, 17, 23, 24, 25, 26, 27, 28, 29, 30, 31, 32, 33, 34, 35, 36, 37, 38, 39, 40, 41, 42, 43, 44, 45, 46, 47, 48, 49, 50, 51, 52, 53, 54, 80, 81, 82, 83, 84, 85, 86, 87, 88, 89, 90, 91] (by decide +kernel) (by decide +kernel)
set_option maxRecDepth 20000 in
theorem gX5_leaf_X4_askedOnTheWay_n97 : GoodIn wsX5_leaf (wsX4_askedOnTheWay) := ggX5_leaf_X4_askedOnTheWay
set_option maxRecDepth 20000 in
theorem ggX5_leaf_X0_factOf : GoodIn wsX5_leaf wsX0_factOf := goodIn_r _ [57, 58, 59, 60, 38, 39, 40, 61, 41, 43, 42, 44, 45, 46, 62, 47, 48, 49, 50, 63, 64, 65, 66, 67, 27, 28, 29, 68, 69, 70, 85, 86, 87, 88, 89, 90, 91] (by decide +kernel) (by decide +kernel)
set_option maxRecDepth 20000 in
theorem gX5_leaf_X0_factOf_n100 : GoodIn wsX5_leaf (wsX0_factOf) := ggX5_leaf_X0_factOf
set_option maxRecDepth 20000 in
theorem ggX5_size_X5_needWithin : GoodIn wsX5_size wsX5_needWithin := goodIn_ca (goodIn_r _ [7, 8, 9] (by decide +kernel) (by decide +kernel)) (goodIn_sub (fun _ h => List.mem_cons_of_mem _ (List.mem_append_right _ h)) (by decide +kernel))
set_option maxRecDepth 20000 in
theorem gX5_size_X5_needWithin : GoodIn wsX5_size (va_wsS RX5 46 yX5_needWithin wsX5_needWithin) := goodIn_app (goodIn_of _ (by decide +kernel)) ggX5_size_X5_needWithin
set_option maxRecDepth 20000 in
theorem ggX5_size_X2_add : GoodIn wsX5_size wsX2_add := goodIn_r _ [13, 14, 15, 16, 22, 23, 24, 25, 26, 27, 28, 29, 30, 31, 32, 33, 34, 35, 36] (by decide +kernel) (by decide +kernel)
set_option maxRecDepth 20000 in
theorem gX5_size_X2_add_n108 : GoodIn wsX5_size (wsX2_add) := ggX5_size_X2_add
set_option maxRecDepth 20000 in
theorem ggX5_prices_X5_needWithin : GoodIn wsX5_prices wsX5_needWithin := goodIn_ca (goodIn_r _ [5, 6, 7] (by decide +kernel) (by decide +kernel)) (goodIn_sub (fun _ h => List.mem_cons_of_mem _ (List.mem_append_right _ h)) (by decide +kernel))
set_option maxRecDepth 20000 in
theorem gX5_prices_X5_needWithin : GoodIn wsX5_prices (va_wsS RX5 46 yX5_needWithin wsX5_needWithin) := goodIn_app (goodIn_of _ (by decide +kernel)) ggX5_prices_X5_needWithin
set_option maxRecDepth 20000 in
theorem ggX5_cost_X5_findBestSet : GoodIn wsX5_cost wsX5_findBestSet := goodIn_ca (goodIn_ca (goodIn_r _ [7, 1, 8, 9, 10, 11, 12, 6, 13, 14, 15, 16, 17, 18, 19, 20, 21, 22, 23, 24, 25, 26, 27, 28, 29, 30, 31, 32, 33, 34, 35, 36, 37, 38, 39, 40, 41, 42, 43, 44, 45, 46, 47, 48, 49, 50, 51, 52, 53, 54, 55, 56, 57, 58, 59, 60, 61, 62, 63, 64, 65, 66, 67, 68, 69, 70, 71, 72, 73, 74, 75, 76, 77, 78, 79, 80, 81, 82, 83, 84, 85, 86, 87, 88, 89, 90, 91, 92, 93, 94, 95, 96, 97, 98, 99, 100, 101, 102, 103, 104, 105, 106, 107, 108, 109, 110, 111, 112, 113, 114, 115, 116, 117, 118, 119, 120, 121, 122, 123, 124, 125, 126, 127, 128, 129, 130, 131, 132, 133, 134, 135, 136, 137, 138, 139, 140] (by decide +kernel) (by decide +kernel)) (goodIn_sub (fun _ h => List.mem_cons_of_mem _ (List.mem_append_left _ (List.mem_append_right _ h))) (by decide +kernel))) (goodIn_sub (fun _ h => List.mem_cons_of_mem _ (List.mem_append_right _ h)) (by decide +kernel))
set_option maxRecDepth 20000 in
theorem gX5_cost_X5_findBestSet : GoodIn wsX5_cost (wsV RX5 115 RX5 yX5_findBestSet wsX5_findBestSet) := goodIn_app (goodIn_of _ (by decide +kernel)) ggX5_cost_X5_findBestSet
set_option maxRecDepth 20000 in
theorem ggX5_pots_X5_findBestSet : GoodIn wsX5_pots wsX5_findBestSet := goodIn_ca (goodIn_ca (goodIn_r _ [6, 1, 7, 8, 9, 10, 11, 5, 12, 13, 14, 15, 16, 17, 18, 19, 20, 21, 22, 23, 24, 25, 26, 27, 28, 29, 30, 31, 32, 33, 34, 35, 36, 37, 38, 39, 40, 41, 42, 43, 44, 45, 46, 47, 48, 49, 50, 51, 52, 53, 54, 55, 56, 57, 58, 59, 60, 61, 62, 63, 64, 65, 66, 67, 68, 69, 70, 71, 72, 73, 74, 75, 76, 77, 78, 79, 80, 81, 82, 83, 84, 85, 86, 87, 88, 89, 90, 91, 92, 93, 94, 95, 96, 97, 98, 99, 100, 101, 102, 103, 107, 108, 109, 110, 111, 112, 113, 114, 115, 116, 117, 118, 119, 120, 121, 122, 123, 124, 125, 126, 127, 128, 129, 130, 131, 132, 133, 134, 135, 136, 137, 138, 139, 140, 141, 142] (by decide +kernel) (by decide +kernel)) (goodIn_sub (fun _ h => List.mem_cons_of_mem _ (List.mem_append_left _ (List.mem_append_right _ h))) (by decide +kernel))) (goodIn_sub (fun _ h => List.mem_cons_of_mem _ (List.mem_append_right _ h)) (by decide +kernel))
set_option maxRecDepth 20000 in
theorem gX5_pots_X5_findBestSet : GoodIn wsX5_pots (wsV RX5 115 RX5 yX5_findBestSet wsX5_findBestSet) := goodIn_app (goodIn_of _ (by decide +kernel)) ggX5_pots_X5_findBestSet
set_option maxRecDepth 20000 in
theorem ggX5_pots_X2_bestPotsOf : GoodIn wsX5_pots wsX2_bestPotsOf := goodIn_r _ [106, 78, 88, 112, 113, 114, 115, 116, 117, 118, 119, 120, 121, 122, 123, 124, 125, 126] (by decide +kernel) (by decide +kernel)
set_option maxRecDepth 20000 in
theorem gX5_pots_X2_bestPotsOf_n125 : GoodIn wsX5_pots (wsX2_bestPotsOf) := ggX5_pots_X2_bestPotsOf
set_option maxRecDepth 20000 in
theorem ggX5_ladles_X3_deal : GoodIn wsX5_ladles wsX3_deal := goodIn_r _ [5, 6, 7, 8, 9, 3, 10, 11, 12, 13, 14, 15, 16, 17, 18, 19, 20, 21, 22, 23, 24, 25, 31, 32, 33, 34] (by decide +kernel) (by decide +kernel)
set_option maxRecDepth 20000 in
theorem gX5_ladles_X3_deal_n128 : GoodIn wsX5_ladles (wsX3_deal) := ggX5_ladles_X3_deal
set_option maxRecDepth 20000 in
theorem ggX5_ladle_X5_needMeal : GoodIn wsX5_ladle wsX5_needMeal := goodIn_ca (goodIn_r _ [6, 7, 8, 1, 33, 34, 35, 36, 37, 38, 39, 40, 41] (by decide +kernel) (by decide +kernel)) (goodIn_sub (fun _ h => List.mem_cons_of_mem _ (List.mem_append_right _ h)) (by decide +kernel))
set_option maxRecDepth 20000 in
theorem gX5_ladle_X5_needMeal : GoodIn wsX5_ladle (wsV RX5 65 RX5 yX5_needMeal wsX5_needMeal) := goodIn_app (goodIn_of _ (by decide +kernel)) ggX5_ladle_X5_needMeal
set_option maxRecDepth 20000 in
theorem ggX5_ladle_X3_deal : GoodIn wsX5_ladle wsX3_deal := goodIn_r _ [12, 13, 14, 15, 16, 10, 17, 18, 19, 20, 21, 22, 23, 24, 25, 26, 27, 28, 29, 30, 31, 32, 38, 39, 40, 41] (by decide +kernel) (by decide +kernel)
set_option maxRecDepth 20000 in
theorem gX5_ladle_X3_deal_n128 : GoodIn wsX5_ladle (wsX3_deal) := ggX5_ladle_X3_deal
set_option maxRecDepth 20000 in
theorem ggX5_come_X5_needWithin : GoodIn wsX5_come wsX5_needWithin := goodIn_ca (goodIn_r _ [5, 6, 7] (by decide +kernel) (by decide +kernel)) (goodIn_sub (fun _ h => List.mem_cons_of_mem _ (List.mem_append_right _ h)) (by decide +kernel))
set_option maxRecDepth 20000 in
theorem gX5_come_X5_needWithin : GoodIn wsX5_come (va_wsS RX5 46 yX5_needWithin wsX5_needWithin) := goodIn_app (goodIn_of _ (by decide +kernel)) ggX5_come_X5_needWithin
set_option maxRecDepth 20000 in
theorem ggX5_come_X1_add : GoodIn wsX5_come wsX1_add := goodIn_r _ [11, 12, 13, 19, 20, 21] (by decide +kernel) (by decide +kernel)
set_option maxRecDepth 20000 in
theorem gX5_come_X1_add_n139 : GoodIn wsX5_come (wsX1_add) := ggX5_come_X1_add
set_option maxRecDepth 20000 in
theorem ggX5_hatch_X5_needWithin : GoodIn wsX5_hatch wsX5_needWithin := goodIn_ca (goodIn_r _ [5, 6, 7] (by decide +kernel) (by decide +kernel)) (goodIn_sub (fun _ h => List.mem_cons_of_mem _ (List.mem_append_right _ h)) (by decide +kernel))
set_option maxRecDepth 20000 in
theorem gX5_hatch_X5_needWithin : GoodIn wsX5_hatch (va_wsS RX5 46 yX5_needWithin wsX5_needWithin) := goodIn_app (goodIn_of _ (by decide +kernel)) ggX5_hatch_X5_needWithin
set_option maxRecDepth 20000 in
theorem ggX5_hatch_X1_factOf : GoodIn wsX5_hatch wsX1_factOf := goodIn_r _ [11, 12, 13, 14, 15, 16, 17, 18, 19, 20, 21, 22, 23, 24, 25, 9, 26, 27, 28, 29, 35, 36, 37] (by decide +kernel) (by decide +kernel)
set_option maxRecDepth 20000 in
theorem gX5_hatch_X1_factOf_n140 : GoodIn wsX5_hatch (wsX1_factOf) := ggX5_hatch_X1_factOf
set_option maxRecDepth 20000 in
theorem ggX5_serve_X1_leastServed : GoodIn wsX5_serve wsX1_leastServed := goodIn_r _ [7, 8, 9, 10, 5, 11, 12, 13, 14, 15, 16, 17, 18, 19, 20, 21, 22, 23, 24, 25, 26, 27, 28, 29, 35, 36, 37] (by decide +kernel) (by decide +kernel)
set_option maxRecDepth 20000 in
theorem gX5_serve_X1_leastServed_n147 : GoodIn wsX5_serve (wsX1_leastServed) := ggX5_serve_X1_leastServed
set_option maxRecDepth 20000 in
theorem ggX5_empty_X1_clear : GoodIn wsX5_empty wsX1_clear := goodIn_r _ [5, 6, 12, 13, 14] (by decide +kernel) (by decide +kernel)
set_option maxRecDepth 20000 in
theorem gX5_empty_X1_clear_n150 : GoodIn wsX5_empty (wsX1_clear) := ggX5_empty_X1_clear
set_option maxRecDepth 20000 in
theorem ggX5_findBestSet_X5_needMeal : GoodIn wsX5_findBestSet wsX5_needMeal := goodIn_ca (goodIn_r _ [8, 9, 10, 11, 100, 101, 102, 103, 104, 120, 121, 122, 123] (by decide +kernel) (by decide +kernel)) (goodIn_sub (fun _ h => List.mem_cons_of_mem _ (List.mem_append_left _ (List.mem_append_right _ h))) (by decide +kernel))
set_option maxRecDepth 20000 in
theorem gX5_findBestSet_X5_needMeal : GoodIn wsX5_findBestSet (wsV RX5 65 RX5 yX5_needMeal wsX5_needMeal) := goodIn_app (goodIn_of _ (by decide +kernel)) ggX5_findBestSet_X5_needMeal
set_option maxRecDepth 20000 in
theorem ggX5_findBestSet_X5_needWithin : GoodIn wsX5_findBestSet wsX5_needWithin := goodIn_ca (goodIn_r _ [14, 15, 16] (by decide +kernel) (by decide +kernel)) (goodIn_sub (fun _ h => List.mem_cons_of_mem _ (List.mem_append_right _ h)) (by decide +kernel))
set_option maxRecDepth 20000 in
theorem gX5_findBestSet_X5_needWithin : GoodIn wsX5_findBestSet (va_wsS RX5 46 yX5_needWithin wsX5_needWithin) := goodIn_app (goodIn_of _ (by decide +kernel)) ggX5_findBestSet_X5_needWithin
set_option maxRecDepth 20000 in
theorem ggX5_findBestSet_X4_askedOnTheWay : GoodIn wsX5_findBestSet wsX4_askedOnTheWay := goodIn_r _ [20, 21, 22, 23, 18, 24, 25, 26, 27, 28, 29, 30, 31, 32, 33, 34, 35, 36, 37, 38, 39, 40, 41, 42, 43, 44, 45, 46, 47, 48, 49, 50, 51, 52, 53, 54, 55, 124, 125, 126, 127, 128, 129, 130, 131, 132, 133, 134, 135] (by decide +kernel) (by decide +kernel)
set_option maxRecDepth 20000 in
theorem gX5_findBestSet_X4_askedOnTheWay_n97 : GoodIn wsX5_findBestSet (wsX4_askedOnTheWay) := ggX5_findBestSet_X4_askedOnTheWay
set_option maxRecDepth 20000 in
theorem ggX5_findBestSet_X2_readLeaf : GoodIn wsX5_findBestSet wsX2_readLeaf := goodIn_r _ [59, 60, 61, 62, 63, 64, 39, 40, 41, 42, 43, 44, 45, 46, 47, 48, 49, 50, 51, 105, 106, 107, 108, 109, 110, 111, 112, 113, 114, 115, 116, 117, 118, 119, 129, 130, 131, 132, 133, 134, 135] (by decide +kernel) (by decide +kernel)
set_option maxRecDepth 20000 in
theorem gX5_findBestSet_X2_readLeaf_n160 : GoodIn wsX5_findBestSet (wsX2_readLeaf) := ggX5_findBestSet_X2_readLeaf
set_option maxRecDepth 20000 in
theorem ggX5_findBestSet_X2_findBest : GoodIn wsX5_findBestSet wsX2_findBest := goodIn_r _ [67, 68, 69, 70, 71, 72, 57, 73, 74, 75, 76, 77, 78, 79, 80, 61, 81, 82, 83, 84, 85, 86, 87, 88, 89, 90, 91, 92, 93, 28, 29, 30, 60, 63, 62, 94, 95, 96, 97, 98, 99, 105, 106, 107, 108, 109, 110, 111, 112, 113, 114, 115, 116, 117, 118, 119] (by decide +kernel) (by decide +kernel)
set_option maxRecDepth 20000 in
theorem gX5_findBestSet_X2_findBest_n167 : GoodIn wsX5_findBestSet (wsX2_findBest) := ggX5_findBestSet_X2_findBest
set_option maxRecDepth 20000 in
theorem ggX6_meal_X6_isBits : GoodIn wsX6_meal wsX6_isBits := goodIn_r _ [8] (by decide +kernel) (by decide +kernel)
set_option maxRecDepth 20000 in
theorem gX6_meal_X6_isBits : GoodIn wsX6_meal (va_wsS RX6 63 yX6_isBits wsX6_isBits) := goodIn_app (goodIn_of _ (by decide +kernel)) ggX6_meal_X6_isBits
set_option maxRecDepth 20000 in
theorem ggX6_meal_X6_bad : GoodIn wsX6_meal wsX6_bad := goodIn_r _ [12, 1, 13, 14, 15, 16, 17, 18, 19, 20, 21, 22, 23, 24, 25, 26, 27, 28, 29, 30, 31, 32, 33, 34, 35, 36, 37, 38, 39, 40, 41, 42, 43, 44, 45, 46, 47, 48] (by decide +kernel) (by decide +kernel)
set_option maxRecDepth 20000 in
theorem gX6_meal_X6_bad : GoodIn wsX6_meal (wsV RX6 67 RX6 yX6_bad wsX6_bad) := goodIn_app (goodIn_of _ (by decide +kernel)) ggX6_meal_X6_bad
set_option maxRecDepth 20000 in
theorem ggX6_ate_X6_isMeal : GoodIn wsX6_ate wsX6_isMeal := goodIn_r _ [6, 7, 8, 13, 14, 15, 16, 17, 18, 19, 20, 21, 22, 23, 24, 25, 26, 27, 28, 29, 30, 31, 32, 33, 34, 35, 36, 37, 38, 39, 40, 41, 42, 43, 44, 45, 46, 47, 48] (by decide +kernel) (by decide +kernel)
set_option maxRecDepth 20000 in
theorem gX6_ate_X6_isMeal : GoodIn wsX6_ate (wsV RX6 74 RX6 yX6_isMeal wsX6_isMeal) := goodIn_app (goodIn_of _ (by decide +kernel)) ggX6_ate_X6_isMeal
set_option maxRecDepth 20000 in
theorem ggX6_ate_X6_bad : GoodIn wsX6_ate wsX6_bad := goodIn_r _ [12, 8, 13, 14, 15, 16, 17, 18, 19, 20, 21, 22, 23, 24, 25, 26, 27, 28, 29, 30, 31, 32, 33, 34, 35, 36, 37, 38, 39, 40, 41, 42, 43, 44, 45, 46, 47, 48] (by decide +kernel) (by decide +kernel)
set_option maxRecDepth 20000 in
theorem gX6_ate_X6_bad : GoodIn wsX6_ate (wsV RX6 67 RX6 yX6_bad wsX6_bad) := goodIn_app (goodIn_of _ (by decide +kernel)) ggX6_ate_X6_bad
set_option maxRecDepth 20000 in
theorem ggX6_day_X6_isBits : GoodIn wsX6_day wsX6_isBits := goodIn_r _ [11] (by decide +kernel) (by decide +kernel)
set_option maxRecDepth 20000 in
theorem gX6_day_X6_isBits : GoodIn wsX6_day (va_wsS RX6 63 yX6_isBits wsX6_isBits) := goodIn_app (goodIn_of _ (by decide +kernel)) ggX6_day_X6_isBits
set_option maxRecDepth 20000 in
theorem ggX6_day_X6_bad : GoodIn wsX6_day wsX6_bad := goodIn_r _ [15, 1, 16, 17, 18, 19, 20, 21, 22, 23, 24, 25, 26, 27, 28, 29, 30, 31, 32, 33, 34, 35, 36, 37, 38, 39, 40, 41, 42, 43, 44, 45, 46, 47, 48, 49, 50, 51] (by decide +kernel) (by decide +kernel)
set_option maxRecDepth 20000 in
theorem gX6_day_X6_bad : GoodIn wsX6_day (wsV RX6 67 RX6 yX6_bad wsX6_bad) := goodIn_app (goodIn_of _ (by decide +kernel)) ggX6_day_X6_bad
set_option maxRecDepth 20000 in
theorem ggX6_drop_X6_bad : GoodIn wsX6_drop wsX6_bad := goodIn_r _ [8, 1, 9, 10, 11, 12, 13, 14, 15, 16, 17, 18, 19, 20, 21, 22, 23, 24, 25, 26, 27, 28, 29, 30, 31, 32, 33, 34, 35, 36, 37, 38, 39, 40, 41, 42, 43, 44] (by decide +kernel) (by decide +kernel)
set_option maxRecDepth 20000 in
theorem gX6_drop_X6_bad : GoodIn wsX6_drop (wsV RX6 67 RX6 yX6_bad wsX6_bad) := goodIn_app (goodIn_of _ (by decide +kernel)) ggX6_drop_X6_bad
set_option maxRecDepth 20000 in
theorem ggX6_markOf_X6_counts : GoodIn wsX6_markOf wsX6_counts := goodIn_r _ [10, 1, 2, 3, 4, 11, 12, 13, 14, 15, 16, 17, 18, 19, 20, 21, 22, 23, 24, 25, 26, 27, 28, 29, 30, 31, 32, 33, 34, 35, 36, 37, 38, 39, 40, 41, 42, 43, 44, 45, 46, 47, 48, 49, 50] (by decide +kernel) (by decide +kernel)
set_option maxRecDepth 20000 in
theorem gX6_markOf_X6_counts : GoodIn wsX6_markOf (wsV RX6 93 RX6 yX6_counts wsX6_counts) := goodIn_app (goodIn_of _ (by decide +kernel)) ggX6_markOf_X6_counts
set_option maxRecDepth 20000 in
theorem ggX6_leavesOf_X6_markOf : GoodIn wsX6_leavesOf wsX6_markOf := goodIn_r _ [5, 6, 7, 8, 9, 10, 11, 12, 13, 4, 14, 15, 16, 17, 18, 22, 23, 24, 25, 26, 27, 28, 29, 30, 31, 32, 33, 34, 35, 36, 37, 38, 39, 40, 41, 42, 43, 44, 45, 46, 47, 48, 49, 50, 51, 52, 53, 54, 55, 56, 57] (by decide +kernel) (by decide +kernel)
set_option maxRecDepth 20000 in
theorem gX6_leavesOf_X6_markOf : GoodIn wsX6_leavesOf (wsV RX6 99 RX6 yX6_markOf wsX6_markOf) := goodIn_app (goodIn_of _ (by decide +kernel)) ggX6_leavesOf_X6_markOf
set_option maxRecDepth 20000 in
theorem ggX6_leavesOf_X6_leavesOf : GoodIn wsX6_leavesOf wsX6_leavesOf := goodIn_r _ [0, 1, 2, 3, 4, 5, 6, 7, 8, 9, 10, 11, 12, 13, 14, 15, 16, 17, 18, 19, 20, 21, 22, 23, 24, 25, 26, 27, 28, 29, 30, 31, 32, 33, 34, 35, 36, 37, 38, 39, 40, 41, 42, 43, 44, 45, 46, 47, 48, 49, 50, 51, 52, 53, 54, 55, 56, 57] (by decide +kernel) (by decide +kernel)
set_option maxRecDepth 20000 in
theorem gX6_leavesOf_X6_leavesOf : GoodIn wsX6_leavesOf (wsV RX6 103 RX6 yX6_leavesOf wsX6_leavesOf) := goodIn_app (goodIn_of _ (by decide +kernel)) ggX6_leavesOf_X6_leavesOf
set_option maxRecDepth 20000 in
theorem ggX6_leaves_X6_isMeal : GoodIn wsX6_leaves wsX6_isMeal := goodIn_r _ [5, 6, 7, 29, 30, 31, 32, 33, 34, 35, 36, 37, 38, 39, 40, 41, 42, 43, 44, 45, 46, 47, 48, 49, 50, 51, 52, 53, 54, 55, 56, 57, 58, 59, 60, 61, 62, 63, 64] (by decide +kernel) (by decide +kernel)
set_option maxRecDepth 20000 in
theorem gX6_leaves_X6_isMeal : GoodIn wsX6_leaves (wsV RX6 74 RX6 yX6_isMeal wsX6_isMeal) := goodIn_app (goodIn_of _ (by decide +kernel)) ggX6_leaves_X6_isMeal
set_option maxRecDepth 20000 in
theorem ggX6_leaves_X6_leavesOf : GoodIn wsX6_leaves wsX6_leavesOf := goodIn_r _ [11, 12, 13, 14, 4, 15, 16, 17, 18, 19, 20, 21, 22, 23, 24, 25, 26, 27, 28, 8, 9, 10, 29, 30, 31, 32, 33, 34, 35, 36, 37, 38, 39, 40, 41, 42, 43, 44, 45, 46, 47, 48, 49, 50, 51, 52, 53, 54, 55, 56, 57, 58, 59, 60, 61, 62, 63, 64] (by decide +kernel) (by decide +kernel)
set_option maxRecDepth 20000 in
theorem gX6_leaves_X6_leavesOf : GoodIn wsX6_leaves (wsV RX6 103 RX6 yX6_leavesOf wsX6_leavesOf) := goodIn_app (goodIn_of _ (by decide +kernel)) ggX6_leaves_X6_leavesOf
set_option maxRecDepth 20000 in
theorem ggX6_goes_X6_markOf : GoodIn wsX6_goes wsX6_markOf := goodIn_r _ [9, 10, 11, 12, 13, 14, 15, 16, 17, 8, 18, 19, 20, 21, 22, 23, 24, 25, 26, 27, 28, 29, 30, 31, 32, 33, 34, 35, 36, 37, 38, 39, 40, 41, 42, 43, 44, 45, 46, 47, 48, 49, 50, 51, 52, 53, 54, 55, 56, 57, 58] (by decide +kernel) (by decide +kernel)
set_option maxRecDepth 20000 in
theorem gX6_goes_X6_markOf : GoodIn wsX6_goes (wsV RX6 99 RX6 yX6_markOf wsX6_markOf) := goodIn_app (goodIn_of _ (by decide +kernel)) ggX6_goes_X6_markOf
set_option maxRecDepth 20000 in
theorem ggX6_split_X6_isMeal : GoodIn wsX6_split wsX6_isMeal := goodIn_r _ [7, 8, 9, 40, 41, 42, 43, 44, 45, 46, 47, 48, 49, 50, 51, 52, 53, 54, 55, 56, 57, 58, 59, 60, 61, 62, 63, 64, 65, 66, 67, 68, 69, 70, 71, 72, 73, 74, 75] (by decide +kernel) (by decide +kernel)
set_option maxRecDepth 20000 in
theorem gX6_split_X6_isMeal : GoodIn wsX6_split (wsV RX6 74 RX6 yX6_isMeal wsX6_isMeal) := goodIn_app (goodIn_of _ (by decide +kernel)) ggX6_split_X6_isMeal
set_option maxRecDepth 20000 in
theorem ggX6_split_X6_isBits : GoodIn wsX6_split wsX6_isBits := goodIn_r _ [12] (by decide +kernel) (by decide +kernel)
set_option maxRecDepth 20000 in
theorem gX6_split_X6_isBits : GoodIn wsX6_split (va_wsS RX6 63 yX6_isBits wsX6_isBits) := goodIn_app (goodIn_of _ (by decide +kernel)) ggX6_split_X6_isBits
set_option maxRecDepth 20000 in
theorem ggX6_split_X6_bad : GoodIn wsX6_split wsX6_bad := goodIn_r _ [16, 9, 40, 41, 42, 43, 44, 45, 46, 47, 48, 49, 50, 51, 52, 53, 54, 55, 56, 57, 58, 59, 60, 61, 62, 63, 64, 65, 66, 67, 68, 69, 70, 71, 72, 73, 74, 75] (by decide +kernel) (by decide +kernel)
set_option maxRecDepth 20000 in
theorem gX6_split_X6_bad : GoodIn wsX6_split (wsV RX6 67 RX6 yX6_bad wsX6_bad) := goodIn_app (goodIn_of _ (by decide +kernel)) ggX6_split_X6_bad
set_option maxRecDepth 20000 in
theorem ggX6_split_X6_goes : GoodIn wsX6_split wsX6_goes := goodIn_r _ [20, 21, 22, 1, 2, 23, 24, 25, 6, 26, 27, 28, 29, 30, 31, 32, 33, 34, 35, 36, 37, 38, 39, 40, 41, 42, 43, 44, 45, 46, 47, 48, 49, 50, 51, 52, 53, 54, 55, 56, 57, 58, 59, 60, 61, 62, 63, 64, 65, 66, 67, 68, 69, 70, 71, 72, 73, 74, 75] (by decide +kernel) (by decide +kernel)
set_option maxRecDepth 20000 in
theorem gX6_split_X6_goes : GoodIn wsX6_split (wsV RX6 115 RX6 yX6_goes wsX6_goes) := goodIn_app (goodIn_of _ (by decide +kernel)) ggX6_split_X6_goes
set_option maxRecDepth 20000 in
theorem ggX6_leaf_X6_isMeal : GoodIn wsX6_leaf wsX6_isMeal := goodIn_r _ [7, 8, 9, 44, 45, 46, 47, 48, 49, 50, 51, 52, 53, 54, 55, 56, 57, 58, 59, 60, 61, 62, 63, 64, 65, 66, 67, 68, 69, 70, 71, 72, 73, 74, 75, 76, 77, 78, 79] (by decide +kernel) (by decide +kernel)
set_option maxRecDepth 20000 in
theorem gX6_leaf_X6_isMeal : GoodIn wsX6_leaf (wsV RX6 74 RX6 yX6_isMeal wsX6_isMeal) := goodIn_app (goodIn_of _ (by decide +kernel)) ggX6_leaf_X6_isMeal
set_option maxRecDepth 20000 in
theorem ggX6_leaf_X6_isBits : GoodIn wsX6_leaf wsX6_isBits := goodIn_r _ [12] (by decide +kernel) (by decide +kernel)
set_option maxRecDepth 20000 in
theorem gX6_leaf_X6_isBits : GoodIn wsX6_leaf (va_wsS RX6 63 yX6_isBits wsX6_isBits) := goodIn_app (goodIn_of _ (by decide +kernel)) ggX6_leaf_X6_isBits
set_option maxRecDepth 20000 in
theorem ggX6_leaf_X6_bad : GoodIn wsX6_leaf wsX6_bad := goodIn_r _ [16, 9, 44, 45, 46, 47, 48, 49, 50, 51, 52, 53, 54, 55, 56, 57, 58, 59, 60, 61, 62, 63, 64, 65, 66, 67, 68, 69, 70, 71, 72, 73, 74, 75, 76, 77, 78, 79] (by decide +kernel) (by decide +kernel)
set_option maxRecDepth 20000 in
theorem gX6_leaf_X6_bad : GoodIn wsX6_leaf (wsV RX6 67 RX6 yX6_bad wsX6_bad) := goodIn_app (goodIn_of _ (by decide +kernel)) ggX6_leaf_X6_bad
set_option maxRecDepth 20000 in
theorem ggX6_leaf_X6_goes : GoodIn wsX6_leaf wsX6_goes := goodIn_r _ [20, 21, 22, 23, 24, 25, 26, 27, 6, 28, 29, 30, 31, 32, 33, 34, 35, 36, 37, 1, 38, 39, 2, 44, 45, 46, 47, 48, 49, 50, 51, 52, 53, 54, 55, 56, 57, 58, 59, 60, 61, 62, 63, 64, 65, 66, 67, 68, 69, 70, 71, 72, 73, 74, 75, 76, 77, 78, 79] (by decide +kernel) (by decide +kernel)
set_option maxRecDepth 20000 in
theorem gX6_leaf_X6_goes : GoodIn wsX6_leaf (wsV RX6 115 RX6 yX6_goes wsX6_goes) := goodIn_app (goodIn_of _ (by decide +kernel)) ggX6_leaf_X6_goes
set_option maxRecDepth 20000 in
theorem ggX6_leaf_X6_isLeafOf : GoodIn wsX6_leaf wsX6_isLeafOf := goodIn_r _ [43, 38, 39, 21, 22, 44, 45, 46, 47, 48, 49, 50, 51, 52, 53, 54, 55, 56, 57, 58, 59, 60, 61, 62, 63, 64, 65, 66, 67, 68, 69, 70, 71, 72, 73, 74, 75, 76, 77, 78, 79] (by decide +kernel) (by decide +kernel)
set_option maxRecDepth 20000 in
theorem gX6_leaf_X6_isLeafOf : GoodIn wsX6_leaf (wsV RX6 119 RX6 yX6_isLeafOf wsX6_isLeafOf) := goodIn_app (goodIn_of _ (by decide +kernel)) ggX6_leaf_X6_isLeafOf
set_option maxRecDepth 20000 in
theorem ggX6_size_X6_bad : GoodIn wsX6_size wsX6_bad := goodIn_r _ [9, 1, 10, 11, 12, 13, 14, 15, 16, 17, 18, 19, 20, 21, 22, 23, 24, 25, 26, 27, 28, 29, 30, 31, 32, 33, 34, 35, 36, 37, 38, 39, 40, 41, 42, 43, 44, 45] (by decide +kernel) (by decide +kernel)
set_option maxRecDepth 20000 in
theorem gX6_size_X6_bad : GoodIn wsX6_size (wsV RX6 67 RX6 yX6_bad wsX6_bad) := goodIn_app (goodIn_of _ (by decide +kernel)) ggX6_size_X6_bad
set_option maxRecDepth 20000 in
theorem ggX6_prices_X6_bad : GoodIn wsX6_prices wsX6_bad := goodIn_r _ [8, 1, 9, 10, 11, 12, 13, 14, 15, 16, 17, 18, 19, 20, 21, 22, 23, 24, 25, 26, 27, 28, 29, 30, 31, 32, 33, 34, 35, 36, 37, 38, 39, 40, 41, 42, 43, 44] (by decide +kernel) (by decide +kernel)
set_option maxRecDepth 20000 in
theorem gX6_prices_X6_bad : GoodIn wsX6_prices (wsV RX6 67 RX6 yX6_bad wsX6_bad) := goodIn_app (goodIn_of _ (by decide +kernel)) ggX6_prices_X6_bad
set_option maxRecDepth 20000 in
theorem ggX6_costOf_X6_isLeafOf : GoodIn wsX6_costOf wsX6_isLeafOf := goodIn_r _ [9, 10, 11, 12, 13, 14, 15, 16, 17, 18, 19, 20, 21, 22, 23, 24, 25, 26, 27, 28, 29, 30, 31, 32, 33, 34, 35, 36, 37, 38, 39, 40, 41, 42, 43, 44, 45, 46, 47, 48, 49] (by decide +kernel) (by decide +kernel)
set_option maxRecDepth 20000 in
theorem gX6_costOf_X6_isLeafOf : GoodIn wsX6_costOf (wsV RX6 119 RX6 yX6_isLeafOf wsX6_isLeafOf) := goodIn_app (goodIn_of _ (by decide +kernel)) ggX6_costOf_X6_isLeafOf
set_option maxRecDepth 20000 in
theorem ggX6_chooses_X6_goes : GoodIn wsX6_chooses wsX6_goes := goodIn_r _ [12, 13, 14, 15, 16, 17, 18, 19, 11, 20, 21, 22, 23, 24, 25, 26, 27, 28, 29, 1, 30, 31, 32, 58, 59, 60, 61, 62, 63, 64, 65, 66, 67, 68, 69, 70, 71, 72, 73, 74, 75, 76, 77, 78, 79, 80, 81, 82, 83, 84, 85, 86, 87, 88, 89, 90, 91, 92, 93] (by decide +kernel) (by decide +kernel)
set_option maxRecDepth 20000 in
theorem gX6_chooses_X6_goes : GoodIn wsX6_chooses (wsV RX6 115 RX6 yX6_goes wsX6_goes) := goodIn_app (goodIn_of _ (by decide +kernel)) ggX6_chooses_X6_goes
set_option maxRecDepth 20000 in
theorem ggX6_chooses_X6_isLeafOf : GoodIn wsX6_chooses wsX6_isLeafOf := goodIn_r _ [36, 30, 31, 13, 14, 58, 59, 60, 61, 62, 63, 64, 65, 66, 67, 68, 69, 70, 71, 72, 73, 74, 75, 76, 77, 78, 79, 80, 81, 82, 83, 84, 85, 86, 87, 88, 89, 90, 91, 92, 93] (by decide +kernel) (by decide +kernel)
set_option maxRecDepth 20000 in
theorem gX6_chooses_X6_isLeafOf : GoodIn wsX6_chooses (wsV RX6 119 RX6 yX6_isLeafOf wsX6_isLeafOf) := goodIn_app (goodIn_of _ (by decide +kernel)) ggX6_chooses_X6_isLeafOf
set_option maxRecDepth 20000 in
theorem ggX6_chooses_X6_costOf : GoodIn wsX6_chooses wsX6_costOf := goodIn_r _ [40, 1, 32, 41, 42, 33, 34, 35, 11, 36, 30, 31, 13, 14, 58, 59, 60, 61, 62, 63, 64, 65, 66, 67, 68, 69, 70, 71, 72, 73, 74, 75, 76, 77, 78, 79, 80, 81, 82, 83, 84, 85, 86, 87, 88, 89, 90, 91, 92, 93] (by decide +kernel) (by decide +kernel)
set_option maxRecDepth 20000 in
theorem gX6_chooses_X6_costOf : GoodIn wsX6_chooses (wsV RX6 130 RX6 yX6_costOf wsX6_costOf) := goodIn_app (goodIn_of _ (by decide +kernel)) ggX6_chooses_X6_costOf
set_option maxRecDepth 20000 in
theorem ggX6_chooses_X6_takes : GoodIn wsX6_chooses wsX6_takes := goodIn_r _ [46, 3, 47, 48, 49, 4, 50, 51, 52, 11, 53, 5, 58, 59, 60, 61, 62, 63, 64, 65, 66, 67, 68, 69, 70, 71, 72, 73, 74, 75, 76, 77, 78, 79, 80, 81, 82, 83, 84, 85, 86, 87, 88, 89, 90, 91, 92, 93] (by decide +kernel) (by decide +kernel)
set_option maxRecDepth 20000 in
theorem gX6_chooses_X6_takes : GoodIn wsX6_chooses (wsV RX6 134 RX6 yX6_takes wsX6_takes) := goodIn_app (goodIn_of _ (by decide +kernel)) ggX6_chooses_X6_takes
set_option maxRecDepth 20000 in
theorem ggX6_chooses_X6_upTo : GoodIn wsX6_chooses wsX6_upTo := goodIn_r _ [57, 4, 58, 59, 60, 61, 62, 63, 64, 65, 66, 67, 68, 69, 70, 71, 72, 73, 74, 75, 76, 77, 78, 79, 80, 81, 82, 83, 84, 85, 86, 87, 88, 89, 90, 91, 92, 93] (by decide +kernel) (by decide +kernel)
set_option maxRecDepth 20000 in
theorem gX6_chooses_X6_upTo : GoodIn wsX6_chooses (wsV RX6 138 RX6 yX6_upTo wsX6_upTo) := goodIn_app (goodIn_of _ (by decide +kernel)) ggX6_chooses_X6_upTo
set_option maxRecDepth 20000 in
theorem ggX6_takes_X6_isMore : GoodIn wsX6_takes wsX6_isMore := goodIn_r _ [10, 11, 5, 4, 12, 13, 14, 15, 16, 17, 18, 19, 20, 21, 22, 23, 24, 25, 26, 27, 28, 29, 30, 31, 32, 33, 34, 35, 36, 37, 38, 39, 40, 41, 42, 43, 44, 45, 46, 47] (by decide +kernel) (by decide +kernel)
set_option maxRecDepth 20000 in
theorem gX6_takes_X6_isMore : GoodIn wsX6_takes (wsV RX6 148 RX6 yX6_isMore wsX6_isMore) := goodIn_app (goodIn_of _ (by decide +kernel)) ggX6_takes_X6_isMore
set_option maxRecDepth 20000 in
theorem ggX6_isAsked_X6_isMeal : GoodIn wsX6_isAsked wsX6_isMeal := goodIn_r _ [5, 6, 7, 15, 16, 17, 18, 19, 20, 21, 22, 23, 24, 25, 26, 27, 28, 29, 30, 31, 32, 33, 34, 35, 36, 37, 38, 39, 40, 41, 42, 43, 44, 45, 46, 47, 48, 49, 50] (by decide +kernel) (by decide +kernel)
set_option maxRecDepth 20000 in
theorem gX6_isAsked_X6_isMeal : GoodIn wsX6_isAsked (wsV RX6 74 RX6 yX6_isMeal wsX6_isMeal) := goodIn_app (goodIn_of _ (by decide +kernel)) ggX6_isAsked_X6_isMeal
set_option maxRecDepth 20000 in
theorem ggX6_isAsked_X6_isBits : GoodIn wsX6_isAsked wsX6_isBits := goodIn_r _ [10] (by decide +kernel) (by decide +kernel)
set_option maxRecDepth 20000 in
theorem gX6_isAsked_X6_isBits : GoodIn wsX6_isAsked (va_wsS RX6 63 yX6_isBits wsX6_isBits) := goodIn_app (goodIn_of _ (by decide +kernel)) ggX6_isAsked_X6_isBits
set_option maxRecDepth 20000 in
theorem ggX6_isAsked_X6_bad : GoodIn wsX6_isAsked wsX6_bad := goodIn_r _ [14, 7, 15, 16, 17, 18, 19, 20, 21, 22, 23, 24, 25, 26, 27, 28, 29, 30, 31, 32, 33, 34, 35, 36, 37, 38, 39, 40, 41, 42, 43, 44, 45, 46, 47, 48, 49, 50] (by decide +kernel) (by decide +kernel)
set_option maxRecDepth 20000 in
theorem gX6_isAsked_X6_bad : GoodIn wsX6_isAsked (wsV RX6 67 RX6 yX6_bad wsX6_bad) := goodIn_app (goodIn_of _ (by decide +kernel)) ggX6_isAsked_X6_bad
set_option maxRecDepth 20000 in
theorem ggX6_cost_X6_isAsked : GoodIn wsX6_cost wsX6_isAsked := goodIn_r _ [7, 8, 9, 10, 6, 11, 12, 13, 14, 15, 16, 17, 18, 19, 20, 79, 80, 81, 82, 83, 84, 85, 86, 87, 88, 89, 90, 91, 92, 93, 94, 95, 96, 97, 98, 99, 100, 101, 102, 103, 104, 105, 106, 107, 108, 109, 110, 111, 112, 113, 114] (by decide +kernel) (by decide +kernel)
set_option maxRecDepth 20000 in
theorem gX6_cost_X6_isAsked : GoodIn wsX6_cost (wsV RX6 152 RX6 yX6_isAsked wsX6_isAsked) := goodIn_app (goodIn_of _ (by decide +kernel)) ggX6_cost_X6_isAsked
set_option maxRecDepth 20000 in
theorem ggX6_cost_X6_chooses : GoodIn wsX6_cost wsX6_chooses := goodIn_r _ [24, 25, 2, 1, 26, 27, 28, 29, 30, 31, 32, 6, 33, 34, 35, 36, 37, 38, 39, 40, 41, 42, 43, 44, 45, 46, 47, 48, 49, 50, 51, 52, 53, 54, 55, 56, 57, 58, 59, 60, 61, 62, 63, 64, 65, 66, 67, 68, 69, 70, 71, 72, 73, 74, 75, 76, 77, 78, 79, 80, 81, 82, 83, 84, 85, 86, 87, 88, 89, 90, 91, 92, 93, 94, 95, 96, 97, 98, 99, 100, 101, 102, 103, 104, 105, 106, 107, 108, 109, 110, 111, 112, 113, 114] (by decide +kernel) (by decide +kernel)
set_option maxRecDepth 20000 in
theorem gX6_cost_X6_chooses : GoodIn wsX6_cost (wsV RX6 156 RX6 yX6_chooses wsX6_chooses) := goodIn_app (goodIn_of _ (by decide +kernel)) ggX6_cost_X6_chooses
set_option maxRecDepth 20000 in
theorem ggX6_pots_X6_isAsked : GoodIn wsX6_pots wsX6_isAsked := goodIn_r _ [7, 8, 9, 10, 6, 11, 12, 13, 14, 15, 16, 17, 18, 19, 20, 79, 80, 81, 82, 83, 84, 85, 86, 87, 88, 89, 90, 91, 92, 93, 94, 95, 96, 97, 98, 99, 100, 101, 102, 103, 104, 105, 106, 107, 108, 109, 110, 111, 112, 113, 114] (by decide +kernel) (by decide +kernel)
set_option maxRecDepth 20000 in
theorem gX6_pots_X6_isAsked : GoodIn wsX6_pots (wsV RX6 152 RX6 yX6_isAsked wsX6_isAsked) := goodIn_app (goodIn_of _ (by decide +kernel)) ggX6_pots_X6_isAsked
set_option maxRecDepth 20000 in
theorem ggX6_pots_X6_chooses : GoodIn wsX6_pots wsX6_chooses := goodIn_r _ [24, 25, 26, 27, 28, 1, 29, 30, 31, 32, 33, 6, 34, 35, 36, 37, 38, 39, 40, 41, 42, 43, 44, 45, 46, 47, 48, 49, 50, 51, 52, 53, 54, 55, 56, 57, 58, 59, 60, 61, 62, 63, 64, 65, 66, 67, 68, 69, 70, 2, 71, 72, 73, 74, 75, 76, 77, 78, 79, 80, 81, 82, 83, 84, 85, 86, 87, 88, 89, 90, 91, 92, 93, 94, 95, 96, 97, 98, 99, 100, 101, 102, 103, 104, 105, 106, 107, 108, 109, 110, 111, 112, 113, 114] (by decide +kernel) (by decide +kernel)
set_option maxRecDepth 20000 in
theorem gX6_pots_X6_chooses : GoodIn wsX6_pots (wsV RX6 156 RX6 yX6_chooses wsX6_chooses) := goodIn_app (goodIn_of _ (by decide +kernel)) ggX6_pots_X6_chooses
set_option maxRecDepth 20000 in
theorem ggX6_shares_X6_isUnlike : GoodIn wsX6_shares wsX6_isUnlike := goodIn_r _ [9, 10, 11, 15, 16, 17, 18, 19, 20, 21, 22, 23, 24, 25, 26, 27, 28, 29, 30, 31, 32, 33, 34, 35, 36, 37, 38, 39, 40, 41, 42, 43, 44, 45, 46, 47, 48, 49, 50] (by decide +kernel) (by decide +kernel)
set_option maxRecDepth 20000 in
theorem gX6_shares_X6_isUnlike : GoodIn wsX6_shares (wsV RX6 162 RX6 yX6_isUnlike wsX6_isUnlike) := goodIn_app (goodIn_of _ (by decide +kernel)) ggX6_shares_X6_isUnlike
set_option maxRecDepth 20000 in
theorem ggX6_shares_X6_shares : GoodIn wsX6_shares wsX6_shares := goodIn_r _ [0, 1, 2, 3, 4, 5, 6, 7, 8, 9, 10, 11, 12, 13, 14, 15, 16, 17, 18, 19, 20, 21, 22, 23, 24, 25, 26, 27, 28, 29, 30, 31, 32, 33, 34, 35, 36, 37, 38, 39, 40, 41, 42, 43, 44, 45, 46, 47, 48, 49, 50] (by decide +kernel) (by decide +kernel)
set_option maxRecDepth 20000 in
theorem gX6_shares_X6_shares : GoodIn wsX6_shares (wsV RX6 166 RX6 yX6_shares wsX6_shares) := goodIn_app (goodIn_of _ (by decide +kernel)) ggX6_shares_X6_shares
set_option maxRecDepth 20000 in
theorem ggX6_ladlesAnew_X6_shares : GoodIn wsX6_ladlesAnew wsX6_shares := goodIn_r _ [9, 4, 1, 10, 11, 12, 13, 14, 8, 15, 2, 3, 5, 6, 7, 16, 17, 18, 19, 20, 21, 22, 23, 24, 25, 26, 27, 28, 29, 30, 31, 32, 33, 34, 35, 36, 37, 38, 39, 40, 41, 42, 43, 44, 45, 46, 47, 48, 49, 50, 51] (by decide +kernel) (by decide +kernel)
set_option maxRecDepth 20000 in
theorem gX6_ladlesAnew_X6_shares : GoodIn wsX6_ladlesAnew (wsV RX6 166 RX6 yX6_shares wsX6_shares) := goodIn_app (goodIn_of _ (by decide +kernel)) ggX6_ladlesAnew_X6_shares
set_option maxRecDepth 20000 in
theorem ggX6_ladles_X6_ladlesAnew : GoodIn wsX6_ladles wsX6_ladlesAnew := goodIn_r _ [7, 8, 9, 10, 2, 11, 12, 13, 6, 14, 15, 16, 17, 18, 19, 20, 21, 22, 23, 24, 25, 26, 27, 28, 29, 30, 31, 32, 33, 34, 35, 36, 37, 38, 39, 40, 41, 42, 43, 44, 45, 46, 47, 48, 49, 50, 51, 52, 53, 54, 55, 56] (by decide +kernel) (by decide +kernel)
set_option maxRecDepth 20000 in
theorem gX6_ladles_X6_ladlesAnew : GoodIn wsX6_ladles (wsV RX6 169 RX6 yX6_ladlesAnew wsX6_ladlesAnew) := goodIn_app (goodIn_of _ (by decide +kernel)) ggX6_ladles_X6_ladlesAnew
set_option maxRecDepth 20000 in
theorem ggX6_ladle_X6_isMeal : GoodIn wsX6_ladle wsX6_isMeal := goodIn_r _ [6, 7, 8, 25, 26, 27, 28, 29, 30, 31, 32, 33, 34, 35, 36, 37, 38, 39, 40, 41, 42, 43, 44, 45, 46, 47, 48, 49, 50, 51, 52, 53, 54, 55, 56, 57, 58, 59, 60] (by decide +kernel) (by decide +kernel)
set_option maxRecDepth 20000 in
theorem gX6_ladle_X6_isMeal : GoodIn wsX6_ladle (wsV RX6 74 RX6 yX6_isMeal wsX6_isMeal) := goodIn_app (goodIn_of _ (by decide +kernel)) ggX6_ladle_X6_isMeal
set_option maxRecDepth 20000 in
theorem ggX6_ladle_X6_ladlesAnew : GoodIn wsX6_ladle wsX6_ladlesAnew := goodIn_r _ [12, 7, 13, 14, 15, 16, 17, 18, 5, 19, 1, 20, 21, 22, 23, 24, 25, 26, 27, 28, 29, 30, 31, 32, 33, 34, 35, 36, 37, 38, 39, 40, 41, 42, 43, 44, 45, 46, 47, 48, 49, 50, 51, 52, 53, 54, 55, 56, 57, 58, 59, 60] (by decide +kernel) (by decide +kernel)
set_option maxRecDepth 20000 in
theorem gX6_ladle_X6_ladlesAnew : GoodIn wsX6_ladle (wsV RX6 169 RX6 yX6_ladlesAnew wsX6_ladlesAnew) := goodIn_app (goodIn_of _ (by decide +kernel)) ggX6_ladle_X6_ladlesAnew
set_option maxRecDepth 20000 in
theorem ggX6_come_X6_bad : GoodIn wsX6_come wsX6_bad := goodIn_r _ [8, 1, 9, 10, 11, 12, 13, 14, 15, 16, 17, 18, 19, 20, 21, 22, 23, 24, 25, 26, 27, 28, 29, 30, 31, 32, 33, 34, 35, 36, 37, 38, 39, 40, 41, 42, 43, 44] (by decide +kernel) (by decide +kernel)
set_option maxRecDepth 20000 in
theorem gX6_come_X6_bad : GoodIn wsX6_come (wsV RX6 67 RX6 yX6_bad wsX6_bad) := goodIn_app (goodIn_of _ (by decide +kernel)) ggX6_come_X6_bad
set_option maxRecDepth 20000 in
theorem ggX6_hatch_X6_bad : GoodIn wsX6_hatch wsX6_bad := goodIn_r _ [10, 1, 17, 18, 19, 20, 21, 22, 23, 24, 25, 26, 27, 28, 29, 30, 31, 32, 33, 34, 35, 36, 37, 38, 39, 40, 41, 42, 43, 44, 45, 46, 47, 48, 49, 50, 51, 52] (by decide +kernel) (by decide +kernel)
set_option maxRecDepth 20000 in
theorem gX6_hatch_X6_bad : GoodIn wsX6_hatch (wsV RX6 67 RX6 yX6_bad wsX6_bad) := goodIn_app (goodIn_of _ (by decide +kernel)) ggX6_hatch_X6_bad
set_option maxRecDepth 20000 in
theorem ggX6_hatch_X6_stands : GoodIn wsX6_hatch wsX6_stands := goodIn_r _ [14, 2, 3, 4, 5, 15, 16, 17, 18, 19, 20, 21, 22, 23, 24, 25, 26, 27, 28, 29, 30, 31, 32, 33, 34, 35, 36, 37, 38, 39, 40, 41, 42, 43, 44, 45, 46, 47, 48, 49, 50, 51, 52] (by decide +kernel) (by decide +kernel)
set_option maxRecDepth 20000 in
theorem gX6_hatch_X6_stands : GoodIn wsX6_hatch (wsV RX6 187 RX6 yX6_stands wsX6_stands) := goodIn_app (goodIn_of _ (by decide +kernel)) ggX6_hatch_X6_stands
set_option maxRecDepth 20000 in
theorem ggX6_serve_X6_bad : GoodIn wsX6_serve wsX6_bad := goodIn_r _ [7, 1, 17, 18, 19, 20, 21, 22, 23, 24, 25, 26, 27, 28, 29, 30, 31, 32, 33, 34, 35, 36, 37, 38, 39, 40, 41, 42, 43, 44, 45, 46, 47, 48, 49, 50, 51, 52] (by decide +kernel) (by decide +kernel)
set_option maxRecDepth 20000 in
theorem gX6_serve_X6_bad : GoodIn wsX6_serve (wsV RX6 67 RX6 yX6_bad wsX6_bad) := goodIn_app (goodIn_of _ (by decide +kernel)) ggX6_serve_X6_bad
set_option maxRecDepth 20000 in
theorem ggX6_serve_X6_stands : GoodIn wsX6_serve wsX6_stands := goodIn_r _ [11, 2, 12, 13, 14, 15, 16, 17, 18, 19, 20, 21, 22, 23, 24, 25, 26, 27, 28, 29, 30, 31, 32, 33, 34, 35, 36, 37, 38, 39, 40, 41, 42, 43, 44, 45, 46, 47, 48, 49, 50, 51, 52] (by decide +kernel) (by decide +kernel)
set_option maxRecDepth 20000 in
theorem gX6_serve_X6_stands : GoodIn wsX6_serve (wsV RX6 187 RX6 yX6_stands wsX6_stands) := goodIn_app (goodIn_of _ (by decide +kernel)) ggX6_serve_X6_stands
set_option maxRecDepth 20000 in
theorem ggL_meal_X5_meal : GoodIn wsL_meal wsX5_meal := goodIn_ca (goodIn_ca (goodIn_r _ [7, 8, 9, 10, 11, 12, 6, 13, 14, 15, 16, 17, 18, 19, 20, 21, 22, 23, 24, 25, 26, 27, 28, 29, 30, 31] (by decide +kernel) (by decide +kernel)) (goodIn_sub (fun _ h => List.mem_cons_of_mem _ (List.mem_append_left _ (List.mem_append_right _ h))) (by decide +kernel))) (goodIn_sub (fun _ h => List.mem_cons_of_mem _ (List.mem_append_right _ h)) (by decide +kernel))
set_option maxRecDepth 20000 in
theorem gL_meal_X5_meal : GoodIn wsL_meal (wsV RL 7 RX5 yX5_meal wsX5_meal) := goodIn_app (goodIn_of _ (by decide +kernel)) ggL_meal_X5_meal
set_option maxRecDepth 20000 in
theorem ggL_ate_X5_ate : GoodIn wsL_ate wsX5_ate := goodIn_ca (goodIn_ca (goodIn_r _ [7, 8, 9, 10, 11, 6, 12, 13, 14, 15, 16, 17, 18, 19, 20, 21, 22, 23, 24, 25, 26, 27, 28, 29, 30, 31, 32, 33, 34, 35, 36, 37, 38, 39, 40, 41] (by decide +kernel) (by decide +kernel)) (goodIn_sub (fun _ h => List.mem_cons_of_mem _ (List.mem_append_left _ (List.mem_append_right _ h))) (by decide +kernel))) (goodIn_sub (fun _ h => List.mem_cons_of_mem _ (List.mem_append_right _ h)) (by decide +kernel))
set_option maxRecDepth 20000 in
theorem gL_ate_X5_ate : GoodIn wsL_ate (wsV RL 17 RX5 yX5_ate wsX5_ate) := goodIn_app (goodIn_of _ (by decide +kernel)) ggL_ate_X5_ate
set_option maxRecDepth 20000 in
theorem ggL_day_X5_day : GoodIn wsL_day wsX5_day := goodIn_ca (goodIn_ca (goodIn_r _ [7, 8, 9, 10, 11, 12, 6, 13, 14, 15, 16, 17, 18, 19, 20, 21, 22, 23, 24, 25, 26, 27, 28, 29, 30, 31, 32, 33, 34, 35] (by decide +kernel) (by decide +kernel)) (goodIn_sub (fun _ h => List.mem_cons_of_mem _ (List.mem_append_left _ (List.mem_append_right _ h))) (by decide +kernel))) (goodIn_sub (fun _ h => List.mem_cons_of_mem _ (List.mem_append_right _ h)) (by decide +kernel))
set_option maxRecDepth 20000 in
theorem gL_day_X5_day : GoodIn wsL_day (wsV RL 22 RX5 yX5_day wsX5_day) := goodIn_app (goodIn_of _ (by decide +kernel)) ggL_day_X5_day
set_option maxRecDepth 20000 in
theorem ggL_drop_X5_drop : GoodIn wsL_drop wsX5_drop := goodIn_ca (goodIn_r _ [6, 7, 8, 9, 10, 11, 12, 13, 14, 15, 16, 17, 18, 19, 20, 21, 22, 23, 24, 25, 26, 27] (by decide +kernel) (by decide +kernel)) (goodIn_sub (fun _ h => List.mem_cons_of_mem _ (List.mem_append_right _ h)) (by decide +kernel))
set_option maxRecDepth 20000 in
theorem gL_drop_X5_drop : GoodIn wsL_drop (wsV RL 26 RX5 yX5_drop wsX5_drop) := goodIn_app (goodIn_of _ (by decide +kernel)) ggL_drop_X5_drop
set_option maxRecDepth 20000 in
theorem ggL_leaves_X5_leaves : GoodIn wsL_leaves wsX5_leaves := goodIn_ca (goodIn_r _ [6, 7, 8, 9, 10, 5, 11, 12, 13, 14, 15, 16, 17, 18, 19, 20, 21, 22, 23, 24, 25, 26, 27, 28, 29, 30, 31, 32, 33, 34, 35, 36, 37, 38, 39, 40, 41, 42, 43, 44, 45, 46, 47, 48, 49, 50, 51, 52, 53, 54, 55, 56, 57, 58, 59, 60, 61, 62, 63, 64, 65, 66, 67, 68, 69, 70, 71, 72, 73, 74, 75] (by decide +kernel) (by decide +kernel)) (goodIn_sub (fun _ h => List.mem_cons_of_mem _ (List.mem_append_right _ h)) (by decide +kernel))
set_option maxRecDepth 20000 in
theorem gL_leaves_X5_leaves : GoodIn wsL_leaves (wsV RL 30 RX5 yX5_leaves wsX5_leaves) := goodIn_app (goodIn_of _ (by decide +kernel)) ggL_leaves_X5_leaves
set_option maxRecDepth 20000 in
theorem ggL_split_X5_split : GoodIn wsL_split wsX5_split := goodIn_ca (goodIn_ca (goodIn_r _ [7, 8, 9, 10, 11, 6, 12, 13, 14, 15, 16, 17, 18, 19, 20, 21, 22, 23, 24, 25, 26, 27, 28, 29, 30, 31, 32, 33, 34, 35, 36, 37, 38, 39, 40, 41, 42, 43, 44, 45, 46, 47, 48, 49, 50, 51, 52, 53, 54, 55, 56, 57, 58, 59, 60, 61, 62, 63, 64, 65, 66, 67, 68, 69, 70, 71, 72, 73, 74, 75, 76, 77, 78, 79, 80] (by decide +kernel) (by decide +kernel)) (goodIn_sub (fun _ h => List.mem_cons_of_mem _ (List.mem_append_left _ (List.mem_append_right _ h))) (by decide +kernel))) (goodIn_sub (fun _ h => List.mem_cons_of_mem _ (List.mem_append_right _ h)) (by decide +kernel))
set_option maxRecDepth 20000 in
theorem gL_split_X5_split : GoodIn wsL_split (wsV RL 33 RX5 yX5_split wsX5_split) := goodIn_app (goodIn_of _ (by decide +kernel)) ggL_split_X5_split
set_option maxRecDepth 20000 in
theorem ggL_leaf_X5_leaf : GoodIn wsL_leaf wsX5_leaf := goodIn_ca (goodIn_ca (goodIn_r _ [7, 8, 9, 10, 11, 12, 6, 13, 14, 15, 16, 17, 18, 19, 20, 21, 22, 23, 24, 25, 26, 27, 28, 29, 30, 31, 32, 33, 34, 35, 36, 37, 38, 39, 40, 41, 42, 43, 44, 45, 46, 47, 48, 49, 50, 51, 52, 53, 54, 55, 56, 57, 58, 59, 60, 61, 62, 63, 64, 65, 66, 67, 68, 69, 70, 71, 72, 73, 74, 75, 76, 77, 78, 79, 80, 81, 82, 83, 84, 85, 86, 87, 88, 89, 90, 91, 92, 93, 94, 95, 96, 97] (by decide +kernel) (by decide +kernel)) (goodIn_sub (fun _ h => List.mem_cons_of_mem _ (List.mem_append_left _ (List.mem_append_right _ h))) (by decide +kernel))) (goodIn_sub (fun _ h => List.mem_cons_of_mem _ (List.mem_append_right _ h)) (by decide +kernel))
set_option maxRecDepth 20000 in
theorem gL_leaf_X5_leaf : GoodIn wsL_leaf (wsV RL 37 RX5 yX5_leaf wsX5_leaf) := goodIn_app (goodIn_of _ (by decide +kernel)) ggL_leaf_X5_leaf
set_option maxRecDepth 20000 in
theorem ggL_size_X5_size : GoodIn wsL_size wsX5_size := goodIn_ca (goodIn_ca (goodIn_r _ [7, 8, 9, 10, 11, 12, 6, 13, 14, 15, 16, 17, 18, 19, 20, 21, 22, 23, 24, 25, 26, 27, 28, 29, 30, 31, 32, 33, 34, 35, 36, 37, 38, 39, 40, 41, 42] (by decide +kernel) (by decide +kernel)) (goodIn_sub (fun _ h => List.mem_cons_of_mem _ (List.mem_append_left _ (List.mem_append_right _ h))) (by decide +kernel))) (goodIn_sub (fun _ h => List.mem_cons_of_mem _ (List.mem_append_right _ h)) (by decide +kernel))
set_option maxRecDepth 20000 in
theorem gL_size_X5_size : GoodIn wsL_size (wsV RL 40 RX5 yX5_size wsX5_size) := goodIn_app (goodIn_of _ (by decide +kernel)) ggL_size_X5_size
set_option maxRecDepth 20000 in
theorem ggL_prices_X5_prices : GoodIn wsL_prices wsX5_prices := goodIn_ca (goodIn_r _ [6, 7, 8, 9, 5, 10, 11, 12, 13, 14, 15, 16, 17, 18, 19, 20, 21, 22, 23, 24, 25, 26, 27, 28, 29, 30, 31, 32] (by decide +kernel) (by decide +kernel)) (goodIn_sub (fun _ h => List.mem_cons_of_mem _ (List.mem_append_right _ h)) (by decide +kernel))
set_option maxRecDepth 20000 in
theorem gL_prices_X5_prices : GoodIn wsL_prices (wsV RL 43 RX5 yX5_prices wsX5_prices) := goodIn_app (goodIn_of _ (by decide +kernel)) ggL_prices_X5_prices
set_option maxRecDepth 20000 in
theorem ggL_cost_X5_cost : GoodIn wsL_cost wsX5_cost := goodIn_ca (goodIn_ca (goodIn_r _ [7, 8, 9, 10, 11, 12, 6, 13, 14, 15, 16, 17, 18, 19, 20, 21, 22, 23, 24, 25, 26, 27, 28, 29, 30, 31, 32, 33, 34, 35, 36, 37, 38, 39, 40, 41, 42, 43, 44, 45, 46, 47, 48, 49, 50, 51, 52, 53, 54, 55, 56, 57, 58, 59, 60, 61, 62, 63, 64, 65, 66, 67, 68, 69, 70, 71, 72, 73, 74, 75, 76, 77, 78, 79, 80, 81, 82, 83, 84, 85, 86, 87, 88, 89, 90, 91, 92, 93, 94, 95, 96, 97, 98, 99, 100, 101, 102, 103, 104, 105, 106, 107, 108, 109, 110, 111, 112, 113, 114, 115, 116, 117, 118, 119, 120, 121, 122, 123, 124, 125, 126, 127, 128, 129, 130, 131, 132, 133, 134, 135, 136, 137, 138, 139, 140, 141, 142, 143, 144, 145, 146] (by decide +kernel) (by decide +kernel)) (goodIn_sub (fun _ h => List.mem_cons_of_mem _ (List.mem_append_left _ (List.mem_append_right _ h))) (by decide +kernel))) (goodIn_sub (fun _ h => List.mem_cons_of_mem _ (List.mem_append_right _ h)) (by decide +kernel))
set_option maxRecDepth 20000 in
theorem gL_cost_X5_cost : GoodIn wsL_cost (wsV RL 47 RX5 yX5_cost wsX5_cost) := goodIn_app (goodIn_of _ (by decide +kernel)) ggL_cost_X5_cost
set_option maxRecDepth 20000 in
theorem ggL_pots_X5_pots : GoodIn wsL_pots wsX5_pots := goodIn_ca (goodIn_ca (goodIn_r _ [7, 8, 9, 10, 11, 6, 12, 13, 14, 15, 16, 17, 18, 19, 20, 21, 22, 23, 24, 25, 26, 27, 28, 29, 30, 31, 32, 33, 34, 35, 36, 37, 38, 39, 40, 41, 42, 43, 44, 45, 46, 47, 48, 49, 50, 51, 52, 53, 54, 55, 56, 57, 58, 59, 60, 61, 62, 63, 64, 65, 66, 67, 68, 69, 70, 71, 72, 73, 74, 75, 76, 77, 78, 79, 80, 81, 82, 83, 84, 85, 86, 87, 88, 89, 90, 91, 92, 93, 94, 95, 96, 97, 98, 99, 100, 101, 102, 103, 104, 105, 106, 107, 108, 109, 110, 111, 112, 113, 114, 115, 116, 117, 118, 119, 120, 121, 122, 123, 124, 125, 126, 127, 128, 129, 130, 131, 132, 133, 134, 135, 136, 137, 138, 139, 140, 141, 142, 143, 144, 145, 146, 147, 148] (by decide +kernel) (by decide +kernel)) (goodIn_sub (fun _ h => List.mem_cons_of_mem _ (List.mem_append_left _ (List.mem_append_right _ h))) (by decide +kernel))) (goodIn_sub (fun _ h => List.mem_cons_of_mem _ (List.mem_append_right _ h)) (by decide +kernel))
set_option maxRecDepth 20000 in
theorem gL_pots_X5_pots : GoodIn wsL_pots (wsV RL 51 RX5 yX5_pots wsX5_pots) := goodIn_app (goodIn_of _ (by decide +kernel)) ggL_pots_X5_pots
set_option maxRecDepth 20000 in
theorem ggL_ladle_X5_ladle : GoodIn wsL_ladle wsX5_ladle := goodIn_ca (goodIn_r _ [6, 7, 8, 9, 10, 5, 11, 12, 13, 14, 15, 16, 17, 18, 19, 20, 21, 22, 23, 24, 25, 26, 27, 28, 29, 30, 31, 32, 33, 34, 35, 36, 37, 38, 39, 40, 41, 42, 43, 44, 45, 46] (by decide +kernel) (by decide +kernel)) (goodIn_sub (fun _ h => List.mem_cons_of_mem _ (List.mem_append_right _ h)) (by decide +kernel))
set_option maxRecDepth 20000 in
theorem gL_ladle_X5_ladle : GoodIn wsL_ladle (wsV RL 55 RX5 yX5_ladle wsX5_ladle) := goodIn_app (goodIn_of _ (by decide +kernel)) ggL_ladle_X5_ladle
set_option maxRecDepth 20000 in
theorem ggL_come_X5_come : GoodIn wsL_come wsX5_come := goodIn_ca (goodIn_r _ [6, 7, 8, 9, 5, 10, 11, 12, 13, 14, 15, 16, 17, 18, 19, 20, 21, 22, 23, 24, 25, 26] (by decide +kernel) (by decide +kernel)) (goodIn_sub (fun _ h => List.mem_cons_of_mem _ (List.mem_append_right _ h)) (by decide +kernel))
set_option maxRecDepth 20000 in
theorem gL_come_X5_come : GoodIn wsL_come (wsV RL 58 RX5 yX5_come wsX5_come) := goodIn_app (goodIn_of _ (by decide +kernel)) ggL_come_X5_come
set_option maxRecDepth 20000 in
theorem ggL_hatch_X5_hatch : GoodIn wsL_hatch wsX5_hatch := goodIn_ca (goodIn_r _ [6, 7, 8, 9, 5, 10, 11, 12, 13, 14, 15, 16, 17, 18, 19, 20, 21, 22, 23, 24, 25, 26, 27, 28, 29, 30, 31, 32, 33, 34, 35, 36, 37, 38, 39, 40, 41, 42] (by decide +kernel) (by decide +kernel)) (goodIn_sub (fun _ h => List.mem_cons_of_mem _ (List.mem_append_right _ h)) (by decide +kernel))
set_option maxRecDepth 20000 in
theorem gL_hatch_X5_hatch : GoodIn wsL_hatch (wsV RL 61 RX5 yX5_hatch wsX5_hatch) := goodIn_app (goodIn_of _ (by decide +kernel)) ggL_hatch_X5_hatch
set_option maxRecDepth 20000 in
theorem ggL_serve_X5_serve : GoodIn wsL_serve wsX5_serve := goodIn_ca (goodIn_r _ [6, 7, 8, 9, 10, 11, 12, 13, 14, 15, 16, 17, 18, 19, 20, 21, 22, 23, 24, 25, 26, 27, 28, 29, 30, 31, 32, 33, 34, 35, 36, 37, 38, 39, 40, 41, 42, 43] (by decide +kernel) (by decide +kernel)) (goodIn_sub (fun _ h => List.mem_cons_of_mem _ (List.mem_append_right _ h)) (by decide +kernel))
set_option maxRecDepth 20000 in
theorem gL_serve_X5_serve : GoodIn wsL_serve (wsV RL 64 RX5 yX5_serve wsX5_serve) := goodIn_app (goodIn_of _ (by decide +kernel)) ggL_serve_X5_serve
end
section
theorem dX0_init_0 : decode cX0_init 0 = .ok (.aload_n 0, 1) := by decide +kernel
theorem dX0_init_1 : decode cX0_init 1 = .ok (.invokespecial 3, 3) := by decide +kernel
theorem dX0_init_4 : decode cX0_init 4 = .ok (.aload_n 0, 1) := by decide +kernel
theorem dX0_init_5 : decode cX0_init 5 = .ok (.bipush 6, 2) := by decide +kernel
theorem dX0_init_7 : decode cX0_init 7 = .ok (.newarray .int, 2) := by decide +kernel
theorem dX0_init_9 : decode cX0_init 9 = .ok (.putfield 9, 3) := by decide +kernel
theorem dX0_init_12 : decode cX0_init 12 = .ok (.aload_n 0, 1) := by decide +kernel
theorem dX0_init_13 : decode cX0_init 13 = .ok (.sipush 150, 3) := by decide +kernel
theorem dX0_init_16 : decode cX0_init 16 = .ok (.newarray .int, 2) := by decide +kernel
theorem dX0_init_18 : decode cX0_init 18 = .ok (.putfield 15, 3) := by decide +kernel
theorem dX0_init_21 : decode cX0_init 21 = .ok (.aload_n 0, 1) := by decide +kernel
theorem dX0_init_22 : decode cX0_init 22 = .ok (.sipush 150, 3) := by decide +kernel
theorem dX0_init_25 : decode cX0_init 25 = .ok (.newarray .boolean, 2) := by decide +kernel
theorem dX0_init_27 : decode cX0_init 27 = .ok (.putfield 18, 3) := by decide +kernel
theorem dX0_init_30 : decode cX0_init 30 = .ok (.aload_n 0, 1) := by decide +kernel
theorem dX0_init_31 : decode cX0_init 31 = .ok (.sipush 900, 3) := by decide +kernel
theorem dX0_init_34 : decode cX0_init 34 = .ok (.newarray .int, 2) := by decide +kernel
theorem dX0_init_36 : decode cX0_init 36 = .ok (.putfield 22, 3) := by decide +kernel
theorem dX0_init_39 : decode cX0_init 39 = .ok (.aload_n 0, 1) := by decide +kernel
theorem dX0_init_40 : decode cX0_init 40 = .ok (.iconst 4, 1) := by decide +kernel
theorem dX0_init_41 : decode cX0_init 41 = .ok (.newarray .int, 2) := by decide +kernel
theorem dX0_init_43 : decode cX0_init 43 = .ok (.putfield 25, 3) := by decide +kernel
theorem dX0_init_46 : decode cX0_init 46 = .ok (.return_, 1) := by decide +kernel
theorem dX0_tell_0 : decode cX0_tell 0 = .ok (.aload_n 0, 1) := by decide +kernel
theorem dX0_tell_1 : decode cX0_tell 1 = .ok (.getfield 9, 3) := by decide +kernel
theorem dX0_tell_4 : decode cX0_tell 4 = .ok (.iload_n 1, 1) := by decide +kernel
theorem dX0_tell_5 : decode cX0_tell 5 = .ok (.iaload, 1) := by decide +kernel
theorem dX0_tell_6 : decode cX0_tell 6 = .ok (.istore_n 3, 1) := by decide +kernel
theorem dX0_tell_7 : decode cX0_tell 7 = .ok (.aload_n 0, 1) := by decide +kernel
theorem dX0_tell_8 : decode cX0_tell 8 = .ok (.getfield 9, 3) := by decide +kernel
theorem dX0_tell_11 : decode cX0_tell 11 = .ok (.iload_n 1, 1) := by decide +kernel
theorem dX0_tell_12 : decode cX0_tell 12 = .ok (.iload_n 2, 1) := by decide +kernel
theorem dX0_tell_13 : decode cX0_tell 13 = .ok (.iastore, 1) := by decide +kernel
theorem dX0_tell_14 : decode cX0_tell 14 = .ok (.iload_n 3, 1) := by decide +kernel
theorem dX0_tell_15 : decode cX0_tell 15 = .ok (.ireturn, 1) := by decide +kernel
theorem dX0_add_0 : decode cX0_add 0 = .ok (.aload_n 0, 1) := by decide +kernel
theorem dX0_add_1 : decode cX0_add 1 = .ok (.getfield 15, 3) := by decide +kernel
theorem dX0_add_4 : decode cX0_add 4 = .ok (.aload_n 0, 1) := by decide +kernel
theorem dX0_add_5 : decode cX0_add 5 = .ok (.getfield 28, 3) := by decide +kernel
theorem dX0_add_8 : decode cX0_add 8 = .ok (.iload_n 1, 1) := by decide +kernel
theorem dX0_add_9 : decode cX0_add 9 = .ok (.iastore, 1) := by decide +kernel
theorem dX0_add_10 : decode cX0_add 10 = .ok (.iconst 0, 1) := by decide +kernel
theorem dX0_add_11 : decode cX0_add 11 = .ok (.istore_n 2, 1) := by decide +kernel
theorem dX0_add_12 : decode cX0_add 12 = .ok (.iload_n 2, 1) := by decide +kernel
theorem dX0_add_13 : decode cX0_add 13 = .ok (.bipush 6, 2) := by decide +kernel
theorem dX0_add_15 : decode cX0_add 15 = .ok (.if_icmp .ge 36, 3) := by decide +kernel
theorem dX0_add_18 : decode cX0_add 18 = .ok (.aload_n 0, 1) := by decide +kernel
theorem dX0_add_19 : decode cX0_add 19 = .ok (.getfield 22, 3) := by decide +kernel
theorem dX0_add_22 : decode cX0_add 22 = .ok (.aload_n 0, 1) := by decide +kernel
theorem dX0_add_23 : decode cX0_add 23 = .ok (.getfield 28, 3) := by decide +kernel
theorem dX0_add_26 : decode cX0_add 26 = .ok (.bipush 6, 2) := by decide +kernel
theorem dX0_add_28 : decode cX0_add 28 = .ok (.imul, 1) := by decide +kernel
theorem dX0_add_29 : decode cX0_add 29 = .ok (.iload_n 2, 1) := by decide +kernel
theorem dX0_add_30 : decode cX0_add 30 = .ok (.iadd, 1) := by decide +kernel
theorem dX0_add_31 : decode cX0_add 31 = .ok (.aload_n 0, 1) := by decide +kernel
theorem dX0_add_32 : decode cX0_add 32 = .ok (.getfield 9, 3) := by decide +kernel
theorem dX0_add_35 : decode cX0_add 35 = .ok (.iload_n 2, 1) := by decide +kernel
theorem dX0_add_36 : decode cX0_add 36 = .ok (.iaload, 1) := by decide +kernel
theorem dX0_add_37 : decode cX0_add 37 = .ok (.iastore, 1) := by decide +kernel
theorem dX0_add_38 : decode cX0_add 38 = .ok (.aload_n 0, 1) := by decide +kernel
theorem dX0_add_39 : decode cX0_add 39 = .ok (.getfield 9, 3) := by decide +kernel
theorem dX0_add_42 : decode cX0_add 42 = .ok (.iload_n 2, 1) := by decide +kernel
theorem dX0_add_43 : decode cX0_add 43 = .ok (.iconst 0, 1) := by decide +kernel
theorem dX0_add_44 : decode cX0_add 44 = .ok (.iastore, 1) := by decide +kernel
theorem dX0_add_45 : decode cX0_add 45 = .ok (.iinc 2 1, 3) := by decide +kernel
theorem dX0_add_48 : decode cX0_add 48 = .ok (.goto (-36), 3) := by decide +kernel
theorem dX0_add_51 : decode cX0_add 51 = .ok (.aload_n 0, 1) := by decide +kernel
theorem dX0_add_52 : decode cX0_add 52 = .ok (.dup, 1) := by decide +kernel
theorem dX0_add_53 : decode cX0_add 53 = .ok (.getfield 28, 3) := by decide +kernel
theorem dX0_add_56 : decode cX0_add 56 = .ok (.iconst 1, 1) := by decide +kernel
theorem dX0_add_57 : decode cX0_add 57 = .ok (.iadd, 1) := by decide +kernel
theorem dX0_add_58 : decode cX0_add 58 = .ok (.putfield 28, 3) := by decide +kernel
theorem dX0_add_61 : decode cX0_add 61 = .ok (.aload_n 0, 1) := by decide +kernel
theorem dX0_add_62 : decode cX0_add 62 = .ok (.getfield 28, 3) := by decide +kernel
theorem dX0_add_65 : decode cX0_add 65 = .ok (.iconst 1, 1) := by decide +kernel
theorem dX0_add_66 : decode cX0_add 66 = .ok (.isub, 1) := by decide +kernel
theorem dX0_add_67 : decode cX0_add 67 = .ok (.ireturn, 1) := by decide +kernel
theorem dX0_takeAway_0 : decode cX0_takeAway 0 = .ok (.aload_n 0, 1) := by decide +kernel
theorem dX0_takeAway_1 : decode cX0_takeAway 1 = .ok (.getfield 18, 3) := by decide +kernel
theorem dX0_takeAway_4 : decode cX0_takeAway 4 = .ok (.iload_n 1, 1) := by decide +kernel
theorem dX0_takeAway_5 : decode cX0_takeAway 5 = .ok (.baload, 1) := by decide +kernel
theorem dX0_takeAway_6 : decode cX0_takeAway 6 = .ok (.ifCond .eq 5, 3) := by decide +kernel
theorem dX0_takeAway_9 : decode cX0_takeAway 9 = .ok (.iconst 0, 1) := by decide +kernel
theorem dX0_takeAway_10 : decode cX0_takeAway 10 = .ok (.ireturn, 1) := by decide +kernel
theorem dX0_takeAway_11 : decode cX0_takeAway 11 = .ok (.aload_n 0, 1) := by decide +kernel
theorem dX0_takeAway_12 : decode cX0_takeAway 12 = .ok (.getfield 18, 3) := by decide +kernel
theorem dX0_takeAway_15 : decode cX0_takeAway 15 = .ok (.iload_n 1, 1) := by decide +kernel
theorem dX0_takeAway_16 : decode cX0_takeAway 16 = .ok (.iconst 1, 1) := by decide +kernel
theorem dX0_takeAway_17 : decode cX0_takeAway 17 = .ok (.bastore, 1) := by decide +kernel
theorem dX0_takeAway_18 : decode cX0_takeAway 18 = .ok (.aload_n 0, 1) := by decide +kernel
theorem dX0_takeAway_19 : decode cX0_takeAway 19 = .ok (.dup, 1) := by decide +kernel
theorem dX0_takeAway_20 : decode cX0_takeAway 20 = .ok (.getfield 32, 3) := by decide +kernel
theorem dX0_takeAway_23 : decode cX0_takeAway 23 = .ok (.iconst 1, 1) := by decide +kernel
theorem dX0_takeAway_24 : decode cX0_takeAway 24 = .ok (.iadd, 1) := by decide +kernel
theorem dX0_takeAway_25 : decode cX0_takeAway 25 = .ok (.putfield 32, 3) := by decide +kernel
theorem dX0_takeAway_28 : decode cX0_takeAway 28 = .ok (.iconst 1, 1) := by decide +kernel
theorem dX0_takeAway_29 : decode cX0_takeAway 29 = .ok (.ireturn, 1) := by decide +kernel
theorem dX0_isInKnot_0 : decode cX0_isInKnot 0 = .ok (.aload_n 0, 1) := by decide +kernel
theorem dX0_isInKnot_1 : decode cX0_isInKnot 1 = .ok (.getfield 18, 3) := by decide +kernel
theorem dX0_isInKnot_4 : decode cX0_isInKnot 4 = .ok (.iload_n 1, 1) := by decide +kernel
theorem dX0_isInKnot_5 : decode cX0_isInKnot 5 = .ok (.baload, 1) := by decide +kernel
theorem dX0_isInKnot_6 : decode cX0_isInKnot 6 = .ok (.ifCond .ne 20, 3) := by decide +kernel
theorem dX0_isInKnot_9 : decode cX0_isInKnot 9 = .ok (.aload_n 0, 1) := by decide +kernel
theorem dX0_isInKnot_10 : decode cX0_isInKnot 10 = .ok (.getfield 15, 3) := by decide +kernel
theorem dX0_isInKnot_13 : decode cX0_isInKnot 13 = .ok (.iload_n 1, 1) := by decide +kernel
theorem dX0_isInKnot_14 : decode cX0_isInKnot 14 = .ok (.iaload, 1) := by decide +kernel
theorem dX0_isInKnot_15 : decode cX0_isInKnot 15 = .ok (.iload_n 3, 1) := by decide +kernel
theorem dX0_isInKnot_16 : decode cX0_isInKnot 16 = .ok (.ixor, 1) := by decide +kernel
theorem dX0_isInKnot_17 : decode cX0_isInKnot 17 = .ok (.iload_n 2, 1) := by decide +kernel
theorem dX0_isInKnot_18 : decode cX0_isInKnot 18 = .ok (.iand, 1) := by decide +kernel
theorem dX0_isInKnot_19 : decode cX0_isInKnot 19 = .ok (.ifCond .ne 7, 3) := by decide +kernel
theorem dX0_isInKnot_22 : decode cX0_isInKnot 22 = .ok (.iconst 1, 1) := by decide +kernel
theorem dX0_isInKnot_23 : decode cX0_isInKnot 23 = .ok (.goto 4, 3) := by decide +kernel
theorem dX0_isInKnot_26 : decode cX0_isInKnot 26 = .ok (.iconst 0, 1) := by decide +kernel
theorem dX0_isInKnot_27 : decode cX0_isInKnot 27 = .ok (.ireturn, 1) := by decide +kernel
theorem dX0_eatenOn_0 : decode cX0_eatenOn 0 = .ok (.aload_n 0, 1) := by decide +kernel
theorem dX0_eatenOn_1 : decode cX0_eatenOn 1 = .ok (.getfield 22, 3) := by decide +kernel
theorem dX0_eatenOn_4 : decode cX0_eatenOn 4 = .ok (.iload_n 1, 1) := by decide +kernel
theorem dX0_eatenOn_5 : decode cX0_eatenOn 5 = .ok (.bipush 6, 2) := by decide +kernel
theorem dX0_eatenOn_7 : decode cX0_eatenOn 7 = .ok (.imul, 1) := by decide +kernel
theorem dX0_eatenOn_8 : decode cX0_eatenOn 8 = .ok (.iload_n 2, 1) := by decide +kernel
theorem dX0_eatenOn_9 : decode cX0_eatenOn 9 = .ok (.iadd, 1) := by decide +kernel
theorem dX0_eatenOn_10 : decode cX0_eatenOn 10 = .ok (.iaload, 1) := by decide +kernel
theorem dX0_eatenOn_11 : decode cX0_eatenOn 11 = .ok (.ireturn, 1) := by decide +kernel
theorem dX0_factOf_0 : decode cX0_factOf 0 = .ok (.aload_n 0, 1) := by decide +kernel
theorem dX0_factOf_1 : decode cX0_factOf 1 = .ok (.getfield 25, 3) := by decide +kernel
theorem dX0_factOf_4 : decode cX0_factOf 4 = .ok (.iconst 0, 1) := by decide +kernel
theorem dX0_factOf_5 : decode cX0_factOf 5 = .ok (.invokestatic 35, 3) := by decide +kernel
theorem dX0_factOf_8 : decode cX0_factOf 8 = .ok (.iconst 0, 1) := by decide +kernel
theorem dX0_factOf_9 : decode cX0_factOf 9 = .ok (.istore 5, 2) := by decide +kernel
theorem dX0_factOf_11 : decode cX0_factOf 11 = .ok (.iload 5, 2) := by decide +kernel
theorem dX0_factOf_13 : decode cX0_factOf 13 = .ok (.aload_n 0, 1) := by decide +kernel
theorem dX0_factOf_14 : decode cX0_factOf 14 = .ok (.getfield 28, 3) := by decide +kernel
theorem dX0_factOf_17 : decode cX0_factOf 17 = .ok (.if_icmp .ge 31, 3) := by decide +kernel
theorem dX0_factOf_20 : decode cX0_factOf 20 = .ok (.aload_n 0, 1) := by decide +kernel
theorem dX0_factOf_21 : decode cX0_factOf 21 = .ok (.iload 5, 2) := by decide +kernel
theorem dX0_factOf_23 : decode cX0_factOf 23 = .ok (.iload_n 2, 1) := by decide +kernel
theorem dX0_factOf_24 : decode cX0_factOf 24 = .ok (.iload_n 3, 1) := by decide +kernel
theorem dX0_factOf_25 : decode cX0_factOf 25 = .ok (.invokevirtual 41, 3) := by decide +kernel
theorem dX0_factOf_28 : decode cX0_factOf 28 = .ok (.ifCond .eq 14, 3) := by decide +kernel
theorem dX0_factOf_31 : decode cX0_factOf 31 = .ok (.aload_n 0, 1) := by decide +kernel
theorem dX0_factOf_32 : decode cX0_factOf 32 = .ok (.aload_n 0, 1) := by decide +kernel
theorem dX0_factOf_33 : decode cX0_factOf 33 = .ok (.iload 5, 2) := by decide +kernel
theorem dX0_factOf_35 : decode cX0_factOf 35 = .ok (.iload_n 1, 1) := by decide +kernel
theorem dX0_factOf_36 : decode cX0_factOf 36 = .ok (.invokevirtual 45, 3) := by decide +kernel
theorem dX0_factOf_39 : decode cX0_factOf 39 = .ok (.invokevirtual 49, 3) := by decide +kernel
theorem dX0_factOf_42 : decode cX0_factOf 42 = .ok (.iinc 5 1, 3) := by decide +kernel
theorem dX0_factOf_45 : decode cX0_factOf 45 = .ok (.goto (-34), 3) := by decide +kernel
theorem dX0_factOf_48 : decode cX0_factOf 48 = .ok (.aload_n 0, 1) := by decide +kernel
theorem dX0_factOf_49 : decode cX0_factOf 49 = .ok (.getfield 25, 3) := by decide +kernel
theorem dX0_factOf_52 : decode cX0_factOf 52 = .ok (.iload 4, 2) := by decide +kernel
theorem dX0_factOf_54 : decode cX0_factOf 54 = .ok (.iaload, 1) := by decide +kernel
theorem dX0_factOf_55 : decode cX0_factOf 55 = .ok (.ireturn, 1) := by decide +kernel
theorem dX0_noteFacts_0 : decode cX0_noteFacts 0 = .ok (.aload_n 0, 1) := by decide +kernel
theorem dX0_noteFacts_1 : decode cX0_noteFacts 1 = .ok (.getfield 25, 3) := by decide +kernel
theorem dX0_noteFacts_4 : decode cX0_noteFacts 4 = .ok (.iconst 0, 1) := by decide +kernel
theorem dX0_noteFacts_5 : decode cX0_noteFacts 5 = .ok (.iaload, 1) := by decide +kernel
theorem dX0_noteFacts_6 : decode cX0_noteFacts 6 = .ok (.ifCond .ne 7, 3) := by decide +kernel
theorem dX0_noteFacts_9 : decode cX0_noteFacts 9 = .ok (.iconst 1, 1) := by decide +kernel
theorem dX0_noteFacts_10 : decode cX0_noteFacts 10 = .ok (.goto 4, 3) := by decide +kernel
theorem dX0_noteFacts_13 : decode cX0_noteFacts 13 = .ok (.iconst 0, 1) := by decide +kernel
theorem dX0_noteFacts_14 : decode cX0_noteFacts 14 = .ok (.istore_n 2, 1) := by decide +kernel
theorem dX0_noteFacts_15 : decode cX0_noteFacts 15 = .ok (.aload_n 0, 1) := by decide +kernel
theorem dX0_noteFacts_16 : decode cX0_noteFacts 16 = .ok (.getfield 25, 3) := by decide +kernel
theorem dX0_noteFacts_19 : decode cX0_noteFacts 19 = .ok (.iconst 0, 1) := by decide +kernel
theorem dX0_noteFacts_20 : decode cX0_noteFacts 20 = .ok (.dup2, 1) := by decide +kernel
theorem dX0_noteFacts_21 : decode cX0_noteFacts 21 = .ok (.iaload, 1) := by decide +kernel
theorem dX0_noteFacts_22 : decode cX0_noteFacts 22 = .ok (.iconst 1, 1) := by decide +kernel
theorem dX0_noteFacts_23 : decode cX0_noteFacts 23 = .ok (.iadd, 1) := by decide +kernel
theorem dX0_noteFacts_24 : decode cX0_noteFacts 24 = .ok (.iastore, 1) := by decide +kernel
theorem dX0_noteFacts_25 : decode cX0_noteFacts 25 = .ok (.aload_n 0, 1) := by decide +kernel
theorem dX0_noteFacts_26 : decode cX0_noteFacts 26 = .ok (.getfield 25, 3) := by decide +kernel
theorem dX0_noteFacts_29 : decode cX0_noteFacts 29 = .ok (.iconst 1, 1) := by decide +kernel
theorem dX0_noteFacts_30 : decode cX0_noteFacts 30 = .ok (.dup2, 1) := by decide +kernel
theorem dX0_noteFacts_31 : decode cX0_noteFacts 31 = .ok (.iaload, 1) := by decide +kernel
theorem dX0_noteFacts_32 : decode cX0_noteFacts 32 = .ok (.iload_n 1, 1) := by decide +kernel
theorem dX0_noteFacts_33 : decode cX0_noteFacts 33 = .ok (.iadd, 1) := by decide +kernel
theorem dX0_noteFacts_34 : decode cX0_noteFacts 34 = .ok (.iastore, 1) := by decide +kernel
theorem dX0_noteFacts_35 : decode cX0_noteFacts 35 = .ok (.aload_n 0, 1) := by decide +kernel
theorem dX0_noteFacts_36 : decode cX0_noteFacts 36 = .ok (.getfield 25, 3) := by decide +kernel
theorem dX0_noteFacts_39 : decode cX0_noteFacts 39 = .ok (.iconst 2, 1) := by decide +kernel
theorem dX0_noteFacts_40 : decode cX0_noteFacts 40 = .ok (.iload_n 2, 1) := by decide +kernel
theorem dX0_noteFacts_41 : decode cX0_noteFacts 41 = .ok (.ifCond .eq 7, 3) := by decide +kernel
theorem dX0_noteFacts_44 : decode cX0_noteFacts 44 = .ok (.iload_n 1, 1) := by decide +kernel
theorem dX0_noteFacts_45 : decode cX0_noteFacts 45 = .ok (.goto 13, 3) := by decide +kernel
theorem dX0_noteFacts_48 : decode cX0_noteFacts 48 = .ok (.aload_n 0, 1) := by decide +kernel
theorem dX0_noteFacts_49 : decode cX0_noteFacts 49 = .ok (.getfield 25, 3) := by decide +kernel
theorem dX0_noteFacts_52 : decode cX0_noteFacts 52 = .ok (.iconst 2, 1) := by decide +kernel
theorem dX0_noteFacts_53 : decode cX0_noteFacts 53 = .ok (.iaload, 1) := by decide +kernel
theorem dX0_noteFacts_54 : decode cX0_noteFacts 54 = .ok (.iload_n 1, 1) := by decide +kernel
theorem dX0_noteFacts_55 : decode cX0_noteFacts 55 = .ok (.invokestatic 53, 3) := by decide +kernel
theorem dX0_noteFacts_58 : decode cX0_noteFacts 58 = .ok (.iastore, 1) := by decide +kernel
theorem dX0_noteFacts_59 : decode cX0_noteFacts 59 = .ok (.aload_n 0, 1) := by decide +kernel
theorem dX0_noteFacts_60 : decode cX0_noteFacts 60 = .ok (.getfield 25, 3) := by decide +kernel
theorem dX0_noteFacts_63 : decode cX0_noteFacts 63 = .ok (.iconst 3, 1) := by decide +kernel
theorem dX0_noteFacts_64 : decode cX0_noteFacts 64 = .ok (.aload_n 0, 1) := by decide +kernel
theorem dX0_noteFacts_65 : decode cX0_noteFacts 65 = .ok (.getfield 25, 3) := by decide +kernel
theorem dX0_noteFacts_68 : decode cX0_noteFacts 68 = .ok (.iconst 3, 1) := by decide +kernel
theorem dX0_noteFacts_69 : decode cX0_noteFacts 69 = .ok (.iaload, 1) := by decide +kernel
theorem dX0_noteFacts_70 : decode cX0_noteFacts 70 = .ok (.iload_n 1, 1) := by decide +kernel
theorem dX0_noteFacts_71 : decode cX0_noteFacts 71 = .ok (.invokestatic 58, 3) := by decide +kernel
theorem dX0_noteFacts_74 : decode cX0_noteFacts 74 = .ok (.iastore, 1) := by decide +kernel
theorem dX0_noteFacts_75 : decode cX0_noteFacts 75 = .ok (.return_, 1) := by decide +kernel
theorem dX1_init_0 : decode cX1_init 0 = .ok (.aload_n 0, 1) := by decide +kernel
theorem dX1_init_1 : decode cX1_init 1 = .ok (.invokespecial 3, 3) := by decide +kernel
theorem dX1_init_4 : decode cX1_init 4 = .ok (.aload_n 0, 1) := by decide +kernel
theorem dX1_init_5 : decode cX1_init 5 = .ok (.bipush 60, 2) := by decide +kernel
theorem dX1_init_7 : decode cX1_init 7 = .ok (.newarray .int, 2) := by decide +kernel
theorem dX1_init_9 : decode cX1_init 9 = .ok (.putfield 9, 3) := by decide +kernel
theorem dX1_init_12 : decode cX1_init 12 = .ok (.aload_n 0, 1) := by decide +kernel
theorem dX1_init_13 : decode cX1_init 13 = .ok (.iconst 4, 1) := by decide +kernel
theorem dX1_init_14 : decode cX1_init 14 = .ok (.newarray .int, 2) := by decide +kernel
theorem dX1_init_16 : decode cX1_init 16 = .ok (.putfield 15, 3) := by decide +kernel
theorem dX1_init_19 : decode cX1_init 19 = .ok (.return_, 1) := by decide +kernel
theorem dX1_add_0 : decode cX1_add 0 = .ok (.aload_n 0, 1) := by decide +kernel
theorem dX1_add_1 : decode cX1_add 1 = .ok (.getfield 9, 3) := by decide +kernel
theorem dX1_add_4 : decode cX1_add 4 = .ok (.aload_n 0, 1) := by decide +kernel
theorem dX1_add_5 : decode cX1_add 5 = .ok (.getfield 18, 3) := by decide +kernel
theorem dX1_add_8 : decode cX1_add 8 = .ok (.iload_n 1, 1) := by decide +kernel
theorem dX1_add_9 : decode cX1_add 9 = .ok (.iastore, 1) := by decide +kernel
theorem dX1_add_10 : decode cX1_add 10 = .ok (.aload_n 0, 1) := by decide +kernel
theorem dX1_add_11 : decode cX1_add 11 = .ok (.dup, 1) := by decide +kernel
theorem dX1_add_12 : decode cX1_add 12 = .ok (.getfield 18, 3) := by decide +kernel
theorem dX1_add_15 : decode cX1_add 15 = .ok (.iconst 1, 1) := by decide +kernel
theorem dX1_add_16 : decode cX1_add 16 = .ok (.iadd, 1) := by decide +kernel
theorem dX1_add_17 : decode cX1_add 17 = .ok (.putfield 18, 3) := by decide +kernel
theorem dX1_add_20 : decode cX1_add 20 = .ok (.aload_n 0, 1) := by decide +kernel
theorem dX1_add_21 : decode cX1_add 21 = .ok (.getfield 18, 3) := by decide +kernel
theorem dX1_add_24 : decode cX1_add 24 = .ok (.ireturn, 1) := by decide +kernel
theorem dX1_clear_0 : decode cX1_clear 0 = .ok (.aload_n 0, 1) := by decide +kernel
theorem dX1_clear_1 : decode cX1_clear 1 = .ok (.getfield 18, 3) := by decide +kernel
theorem dX1_clear_4 : decode cX1_clear 4 = .ok (.istore_n 1, 1) := by decide +kernel
theorem dX1_clear_5 : decode cX1_clear 5 = .ok (.aload_n 0, 1) := by decide +kernel
theorem dX1_clear_6 : decode cX1_clear 6 = .ok (.iconst 0, 1) := by decide +kernel
theorem dX1_clear_7 : decode cX1_clear 7 = .ok (.putfield 18, 3) := by decide +kernel
theorem dX1_clear_10 : decode cX1_clear 10 = .ok (.iload_n 1, 1) := by decide +kernel
theorem dX1_clear_11 : decode cX1_clear 11 = .ok (.ireturn, 1) := by decide +kernel
theorem dX1_leastServed_0 : decode cX1_leastServed 0 = .ok (.iconst 1, 1) := by decide +kernel
theorem dX1_leastServed_1 : decode cX1_leastServed 1 = .ok (.istore_n 2, 1) := by decide +kernel
theorem dX1_leastServed_2 : decode cX1_leastServed 2 = .ok (.iload_n 2, 1) := by decide +kernel
theorem dX1_leastServed_3 : decode cX1_leastServed 3 = .ok (.bipush 100, 2) := by decide +kernel
theorem dX1_leastServed_5 : decode cX1_leastServed 5 = .ok (.if_icmp .ge 21, 3) := by decide +kernel
theorem dX1_leastServed_8 : decode cX1_leastServed 8 = .ok (.aload_n 0, 1) := by decide +kernel
theorem dX1_leastServed_9 : decode cX1_leastServed 9 = .ok (.iload_n 2, 1) := by decide +kernel
theorem dX1_leastServed_10 : decode cX1_leastServed 10 = .ok (.iconst 0, 1) := by decide +kernel
theorem dX1_leastServed_11 : decode cX1_leastServed 11 = .ok (.invokevirtual 22, 3) := by decide +kernel
theorem dX1_leastServed_14 : decode cX1_leastServed 14 = .ok (.iload_n 1, 1) := by decide +kernel
theorem dX1_leastServed_15 : decode cX1_leastServed 15 = .ok (.if_icmp .gt 5, 3) := by decide +kernel
theorem dX1_leastServed_18 : decode cX1_leastServed 18 = .ok (.iload_n 2, 1) := by decide +kernel
theorem dX1_leastServed_19 : decode cX1_leastServed 19 = .ok (.ireturn, 1) := by decide +kernel
theorem dX1_leastServed_20 : decode cX1_leastServed 20 = .ok (.iinc 2 1, 3) := by decide +kernel
theorem dX1_leastServed_23 : decode cX1_leastServed 23 = .ok (.goto (-21), 3) := by decide +kernel
theorem dX1_leastServed_26 : decode cX1_leastServed 26 = .ok (.bipush 100, 2) := by decide +kernel
theorem dX1_leastServed_28 : decode cX1_leastServed 28 = .ok (.ireturn, 1) := by decide +kernel
theorem dX1_factOf_0 : decode cX1_factOf 0 = .ok (.aload_n 0, 1) := by decide +kernel
theorem dX1_factOf_1 : decode cX1_factOf 1 = .ok (.getfield 15, 3) := by decide +kernel
theorem dX1_factOf_4 : decode cX1_factOf 4 = .ok (.iconst 0, 1) := by decide +kernel
theorem dX1_factOf_5 : decode cX1_factOf 5 = .ok (.invokestatic 26, 3) := by decide +kernel
theorem dX1_factOf_8 : decode cX1_factOf 8 = .ok (.aload_n 0, 1) := by decide +kernel
theorem dX1_factOf_9 : decode cX1_factOf 9 = .ok (.getfield 15, 3) := by decide +kernel
theorem dX1_factOf_12 : decode cX1_factOf 12 = .ok (.iconst 2, 1) := by decide +kernel
theorem dX1_factOf_13 : decode cX1_factOf 13 = .ok (.iconst (-1), 1) := by decide +kernel
theorem dX1_factOf_14 : decode cX1_factOf 14 = .ok (.iastore, 1) := by decide +kernel
theorem dX1_factOf_15 : decode cX1_factOf 15 = .ok (.iconst 0, 1) := by decide +kernel
theorem dX1_factOf_16 : decode cX1_factOf 16 = .ok (.istore_n 3, 1) := by decide +kernel
theorem dX1_factOf_17 : decode cX1_factOf 17 = .ok (.iconst 0, 1) := by decide +kernel
theorem dX1_factOf_18 : decode cX1_factOf 18 = .ok (.istore 4, 2) := by decide +kernel
theorem dX1_factOf_20 : decode cX1_factOf 20 = .ok (.iload 4, 2) := by decide +kernel
theorem dX1_factOf_22 : decode cX1_factOf 22 = .ok (.aload_n 0, 1) := by decide +kernel
theorem dX1_factOf_23 : decode cX1_factOf 23 = .ok (.getfield 18, 3) := by decide +kernel
theorem dX1_factOf_26 : decode cX1_factOf 26 = .ok (.if_icmp .ge 59, 3) := by decide +kernel
theorem dX1_factOf_29 : decode cX1_factOf 29 = .ok (.aload_n 0, 1) := by decide +kernel
theorem dX1_factOf_30 : decode cX1_factOf 30 = .ok (.getfield 9, 3) := by decide +kernel
theorem dX1_factOf_33 : decode cX1_factOf 33 = .ok (.iload 4, 2) := by decide +kernel
theorem dX1_factOf_35 : decode cX1_factOf 35 = .ok (.iaload, 1) := by decide +kernel
theorem dX1_factOf_36 : decode cX1_factOf 36 = .ok (.ifCond .le 11, 3) := by decide +kernel
theorem dX1_factOf_39 : decode cX1_factOf 39 = .ok (.aload_n 0, 1) := by decide +kernel
theorem dX1_factOf_40 : decode cX1_factOf 40 = .ok (.iload 4, 2) := by decide +kernel
theorem dX1_factOf_42 : decode cX1_factOf 42 = .ok (.iload_n 3, 1) := by decide +kernel
theorem dX1_factOf_43 : decode cX1_factOf 43 = .ok (.iload_n 1, 1) := by decide +kernel
theorem dX1_factOf_44 : decode cX1_factOf 44 = .ok (.invokevirtual 32, 3) := by decide +kernel
theorem dX1_factOf_47 : decode cX1_factOf 47 = .ok (.iload_n 3, 1) := by decide +kernel
theorem dX1_factOf_48 : decode cX1_factOf 48 = .ok (.aload_n 0, 1) := by decide +kernel
theorem dX1_factOf_49 : decode cX1_factOf 49 = .ok (.getfield 9, 3) := by decide +kernel
theorem dX1_factOf_52 : decode cX1_factOf 52 = .ok (.iload 4, 2) := by decide +kernel
theorem dX1_factOf_54 : decode cX1_factOf 54 = .ok (.iaload, 1) := by decide +kernel
theorem dX1_factOf_55 : decode cX1_factOf 55 = .ok (.iadd, 1) := by decide +kernel
theorem dX1_factOf_56 : decode cX1_factOf 56 = .ok (.iload_n 1, 1) := by decide +kernel
theorem dX1_factOf_57 : decode cX1_factOf 57 = .ok (.isub, 1) := by decide +kernel
theorem dX1_factOf_58 : decode cX1_factOf 58 = .ok (.iconst 0, 1) := by decide +kernel
theorem dX1_factOf_59 : decode cX1_factOf 59 = .ok (.invokestatic 36, 3) := by decide +kernel
theorem dX1_factOf_62 : decode cX1_factOf 62 = .ok (.istore_n 3, 1) := by decide +kernel
theorem dX1_factOf_63 : decode cX1_factOf 63 = .ok (.aload_n 0, 1) := by decide +kernel
theorem dX1_factOf_64 : decode cX1_factOf 64 = .ok (.getfield 15, 3) := by decide +kernel
theorem dX1_factOf_67 : decode cX1_factOf 67 = .ok (.iconst 3, 1) := by decide +kernel
theorem dX1_factOf_68 : decode cX1_factOf 68 = .ok (.aload_n 0, 1) := by decide +kernel
theorem dX1_factOf_69 : decode cX1_factOf 69 = .ok (.getfield 15, 3) := by decide +kernel
theorem dX1_factOf_72 : decode cX1_factOf 72 = .ok (.iconst 3, 1) := by decide +kernel
theorem dX1_factOf_73 : decode cX1_factOf 73 = .ok (.iaload, 1) := by decide +kernel
theorem dX1_factOf_74 : decode cX1_factOf 74 = .ok (.iload_n 3, 1) := by decide +kernel
theorem dX1_factOf_75 : decode cX1_factOf 75 = .ok (.invokestatic 36, 3) := by decide +kernel
theorem dX1_factOf_78 : decode cX1_factOf 78 = .ok (.iastore, 1) := by decide +kernel
theorem dX1_factOf_79 : decode cX1_factOf 79 = .ok (.iinc 4 1, 3) := by decide +kernel
theorem dX1_factOf_82 : decode cX1_factOf 82 = .ok (.goto (-62), 3) := by decide +kernel
theorem dX1_factOf_85 : decode cX1_factOf 85 = .ok (.aload_n 0, 1) := by decide +kernel
theorem dX1_factOf_86 : decode cX1_factOf 86 = .ok (.getfield 15, 3) := by decide +kernel
theorem dX1_factOf_89 : decode cX1_factOf 89 = .ok (.iload_n 2, 1) := by decide +kernel
theorem dX1_factOf_90 : decode cX1_factOf 90 = .ok (.iaload, 1) := by decide +kernel
theorem dX1_factOf_91 : decode cX1_factOf 91 = .ok (.ireturn, 1) := by decide +kernel
theorem dX1_noteWaits_0 : decode cX1_noteWaits 0 = .ok (.iload_n 2, 1) := by decide +kernel
theorem dX1_noteWaits_1 : decode cX1_noteWaits 1 = .ok (.aload_n 0, 1) := by decide +kernel
theorem dX1_noteWaits_2 : decode cX1_noteWaits 2 = .ok (.getfield 9, 3) := by decide +kernel
theorem dX1_noteWaits_5 : decode cX1_noteWaits 5 = .ok (.iload_n 1, 1) := by decide +kernel
theorem dX1_noteWaits_6 : decode cX1_noteWaits 6 = .ok (.iaload, 1) := by decide +kernel
theorem dX1_noteWaits_7 : decode cX1_noteWaits 7 = .ok (.iadd, 1) := by decide +kernel
theorem dX1_noteWaits_8 : decode cX1_noteWaits 8 = .ok (.istore 4, 2) := by decide +kernel
theorem dX1_noteWaits_10 : decode cX1_noteWaits 10 = .ok (.iload_n 3, 1) := by decide +kernel
theorem dX1_noteWaits_11 : decode cX1_noteWaits 11 = .ok (.ifCond .le 12, 3) := by decide +kernel
theorem dX1_noteWaits_14 : decode cX1_noteWaits 14 = .ok (.iload 4, 2) := by decide +kernel
theorem dX1_noteWaits_16 : decode cX1_noteWaits 16 = .ok (.iconst 1, 1) := by decide +kernel
theorem dX1_noteWaits_17 : decode cX1_noteWaits 17 = .ok (.isub, 1) := by decide +kernel
theorem dX1_noteWaits_18 : decode cX1_noteWaits 18 = .ok (.iload_n 3, 1) := by decide +kernel
theorem dX1_noteWaits_19 : decode cX1_noteWaits 19 = .ok (.idiv, 1) := by decide +kernel
theorem dX1_noteWaits_20 : decode cX1_noteWaits 20 = .ok (.goto 4, 3) := by decide +kernel
theorem dX1_noteWaits_23 : decode cX1_noteWaits 23 = .ok (.iconst 0, 1) := by decide +kernel
theorem dX1_noteWaits_24 : decode cX1_noteWaits 24 = .ok (.istore 5, 2) := by decide +kernel
theorem dX1_noteWaits_26 : decode cX1_noteWaits 26 = .ok (.aload_n 0, 1) := by decide +kernel
theorem dX1_noteWaits_27 : decode cX1_noteWaits 27 = .ok (.getfield 15, 3) := by decide +kernel
theorem dX1_noteWaits_30 : decode cX1_noteWaits 30 = .ok (.iconst 0, 1) := by decide +kernel
theorem dX1_noteWaits_31 : decode cX1_noteWaits 31 = .ok (.aload_n 0, 1) := by decide +kernel
theorem dX1_noteWaits_32 : decode cX1_noteWaits 32 = .ok (.getfield 15, 3) := by decide +kernel
theorem dX1_noteWaits_35 : decode cX1_noteWaits 35 = .ok (.iconst 0, 1) := by decide +kernel
theorem dX1_noteWaits_36 : decode cX1_noteWaits 36 = .ok (.iaload, 1) := by decide +kernel
theorem dX1_noteWaits_37 : decode cX1_noteWaits 37 = .ok (.iload 5, 2) := by decide +kernel
theorem dX1_noteWaits_39 : decode cX1_noteWaits 39 = .ok (.invokestatic 36, 3) := by decide +kernel
theorem dX1_noteWaits_42 : decode cX1_noteWaits 42 = .ok (.iastore, 1) := by decide +kernel
theorem dX1_noteWaits_43 : decode cX1_noteWaits 43 = .ok (.aload_n 0, 1) := by decide +kernel
theorem dX1_noteWaits_44 : decode cX1_noteWaits 44 = .ok (.getfield 15, 3) := by decide +kernel
theorem dX1_noteWaits_47 : decode cX1_noteWaits 47 = .ok (.iconst 1, 1) := by decide +kernel
theorem dX1_noteWaits_48 : decode cX1_noteWaits 48 = .ok (.dup2, 1) := by decide +kernel
theorem dX1_noteWaits_49 : decode cX1_noteWaits 49 = .ok (.iaload, 1) := by decide +kernel
theorem dX1_noteWaits_50 : decode cX1_noteWaits 50 = .ok (.iload 4, 2) := by decide +kernel
theorem dX1_noteWaits_52 : decode cX1_noteWaits 52 = .ok (.iload_n 3, 1) := by decide +kernel
theorem dX1_noteWaits_53 : decode cX1_noteWaits 53 = .ok (.invokestatic 41, 3) := by decide +kernel
theorem dX1_noteWaits_56 : decode cX1_noteWaits 56 = .ok (.iload_n 2, 1) := by decide +kernel
theorem dX1_noteWaits_57 : decode cX1_noteWaits 57 = .ok (.iload_n 3, 1) := by decide +kernel
theorem dX1_noteWaits_58 : decode cX1_noteWaits 58 = .ok (.invokestatic 41, 3) := by decide +kernel
theorem dX1_noteWaits_61 : decode cX1_noteWaits 61 = .ok (.isub, 1) := by decide +kernel
theorem dX1_noteWaits_62 : decode cX1_noteWaits 62 = .ok (.iadd, 1) := by decide +kernel
theorem dX1_noteWaits_63 : decode cX1_noteWaits 63 = .ok (.iastore, 1) := by decide +kernel
theorem dX1_noteWaits_64 : decode cX1_noteWaits 64 = .ok (.aload_n 0, 1) := by decide +kernel
theorem dX1_noteWaits_65 : decode cX1_noteWaits 65 = .ok (.getfield 15, 3) := by decide +kernel
theorem dX1_noteWaits_68 : decode cX1_noteWaits 68 = .ok (.iconst 2, 1) := by decide +kernel
theorem dX1_noteWaits_69 : decode cX1_noteWaits 69 = .ok (.iload_n 1, 1) := by decide +kernel
theorem dX1_noteWaits_70 : decode cX1_noteWaits 70 = .ok (.iload 5, 2) := by decide +kernel
theorem dX1_noteWaits_72 : decode cX1_noteWaits 72 = .ok (.iadd, 1) := by decide +kernel
theorem dX1_noteWaits_73 : decode cX1_noteWaits 73 = .ok (.iastore, 1) := by decide +kernel
theorem dX1_noteWaits_74 : decode cX1_noteWaits 74 = .ok (.return_, 1) := by decide +kernel
theorem dX1_waitsOfFirst_0 : decode cX1_waitsOfFirst 0 = .ok (.iload_n 1, 1) := by decide +kernel
theorem dX1_waitsOfFirst_1 : decode cX1_waitsOfFirst 1 = .ok (.ifCond .le 9, 3) := by decide +kernel
theorem dX1_waitsOfFirst_4 : decode cX1_waitsOfFirst 4 = .ok (.iload_n 0, 1) := by decide +kernel
theorem dX1_waitsOfFirst_5 : decode cX1_waitsOfFirst 5 = .ok (.iload_n 1, 1) := by decide +kernel
theorem dX1_waitsOfFirst_6 : decode cX1_waitsOfFirst 6 = .ok (.idiv, 1) := by decide +kernel
theorem dX1_waitsOfFirst_7 : decode cX1_waitsOfFirst 7 = .ok (.goto 4, 3) := by decide +kernel
theorem dX1_waitsOfFirst_10 : decode cX1_waitsOfFirst 10 = .ok (.iconst 0, 1) := by decide +kernel
theorem dX1_waitsOfFirst_11 : decode cX1_waitsOfFirst 11 = .ok (.istore_n 2, 1) := by decide +kernel
theorem dX1_waitsOfFirst_12 : decode cX1_waitsOfFirst 12 = .ok (.iload_n 0, 1) := by decide +kernel
theorem dX1_waitsOfFirst_13 : decode cX1_waitsOfFirst 13 = .ok (.iload_n 2, 1) := by decide +kernel
theorem dX1_waitsOfFirst_14 : decode cX1_waitsOfFirst 14 = .ok (.iload_n 1, 1) := by decide +kernel
theorem dX1_waitsOfFirst_15 : decode cX1_waitsOfFirst 15 = .ok (.imul, 1) := by decide +kernel
theorem dX1_waitsOfFirst_16 : decode cX1_waitsOfFirst 16 = .ok (.isub, 1) := by decide +kernel
theorem dX1_waitsOfFirst_17 : decode cX1_waitsOfFirst 17 = .ok (.istore_n 3, 1) := by decide +kernel
theorem dX1_waitsOfFirst_18 : decode cX1_waitsOfFirst 18 = .ok (.iload_n 1, 1) := by decide +kernel
theorem dX1_waitsOfFirst_19 : decode cX1_waitsOfFirst 19 = .ok (.iload_n 2, 1) := by decide +kernel
theorem dX1_waitsOfFirst_20 : decode cX1_waitsOfFirst 20 = .ok (.iload_n 2, 1) := by decide +kernel
theorem dX1_waitsOfFirst_21 : decode cX1_waitsOfFirst 21 = .ok (.iconst 1, 1) := by decide +kernel
theorem dX1_waitsOfFirst_22 : decode cX1_waitsOfFirst 22 = .ok (.isub, 1) := by decide +kernel
theorem dX1_waitsOfFirst_23 : decode cX1_waitsOfFirst 23 = .ok (.imul, 1) := by decide +kernel
theorem dX1_waitsOfFirst_24 : decode cX1_waitsOfFirst 24 = .ok (.iconst 2, 1) := by decide +kernel
theorem dX1_waitsOfFirst_25 : decode cX1_waitsOfFirst 25 = .ok (.idiv, 1) := by decide +kernel
theorem dX1_waitsOfFirst_26 : decode cX1_waitsOfFirst 26 = .ok (.imul, 1) := by decide +kernel
theorem dX1_waitsOfFirst_27 : decode cX1_waitsOfFirst 27 = .ok (.iload_n 3, 1) := by decide +kernel
theorem dX1_waitsOfFirst_28 : decode cX1_waitsOfFirst 28 = .ok (.iload_n 2, 1) := by decide +kernel
theorem dX1_waitsOfFirst_29 : decode cX1_waitsOfFirst 29 = .ok (.imul, 1) := by decide +kernel
theorem dX1_waitsOfFirst_30 : decode cX1_waitsOfFirst 30 = .ok (.iadd, 1) := by decide +kernel
theorem dX1_waitsOfFirst_31 : decode cX1_waitsOfFirst 31 = .ok (.ireturn, 1) := by decide +kernel
theorem dX2_init_0 : decode cX2_init 0 = .ok (.aload_n 0, 1) := by decide +kernel
theorem dX2_init_1 : decode cX2_init 1 = .ok (.invokespecial 3, 3) := by decide +kernel
theorem dX2_init_4 : decode cX2_init 4 = .ok (.aload_n 0, 1) := by decide +kernel
theorem dX2_init_5 : decode cX2_init 5 = .ok (.iconst 4, 1) := by decide +kernel
theorem dX2_init_6 : decode cX2_init 6 = .ok (.newarray .int, 2) := by decide +kernel
theorem dX2_init_8 : decode cX2_init 8 = .ok (.putfield 9, 3) := by decide +kernel
theorem dX2_init_11 : decode cX2_init 11 = .ok (.aload_n 0, 1) := by decide +kernel
theorem dX2_init_12 : decode cX2_init 12 = .ok (.iconst 4, 1) := by decide +kernel
theorem dX2_init_13 : decode cX2_init 13 = .ok (.newarray .int, 2) := by decide +kernel
theorem dX2_init_15 : decode cX2_init 15 = .ok (.putfield 15, 3) := by decide +kernel
theorem dX2_init_18 : decode cX2_init 18 = .ok (.aload_n 0, 1) := by decide +kernel
theorem dX2_init_19 : decode cX2_init 19 = .ok (.iconst 1, 1) := by decide +kernel
theorem dX2_init_20 : decode cX2_init 20 = .ok (.putfield 18, 3) := by decide +kernel
theorem dX2_init_23 : decode cX2_init 23 = .ok (.aload_n 0, 1) := by decide +kernel
theorem dX2_init_24 : decode cX2_init 24 = .ok (.iconst 3, 1) := by decide +kernel
theorem dX2_init_25 : decode cX2_init 25 = .ok (.putfield 22, 3) := by decide +kernel
theorem dX2_init_28 : decode cX2_init 28 = .ok (.aload_n 0, 1) := by decide +kernel
theorem dX2_init_29 : decode cX2_init 29 = .ok (.sipush 1001, 3) := by decide +kernel
theorem dX2_init_32 : decode cX2_init 32 = .ok (.newarray .int, 2) := by decide +kernel
theorem dX2_init_34 : decode cX2_init 34 = .ok (.putfield 25, 3) := by decide +kernel
theorem dX2_init_37 : decode cX2_init 37 = .ok (.aload_n 0, 1) := by decide +kernel
theorem dX2_init_38 : decode cX2_init 38 = .ok (.sipush 1001, 3) := by decide +kernel
theorem dX2_init_41 : decode cX2_init 41 = .ok (.newarray .int, 2) := by decide +kernel
theorem dX2_init_43 : decode cX2_init 43 = .ok (.putfield 28, 3) := by decide +kernel
theorem dX2_init_46 : decode cX2_init 46 = .ok (.aload_n 0, 1) := by decide +kernel
theorem dX2_init_47 : decode cX2_init 47 = .ok (.iconst 4, 1) := by decide +kernel
theorem dX2_init_48 : decode cX2_init 48 = .ok (.newarray .int, 2) := by decide +kernel
theorem dX2_init_50 : decode cX2_init 50 = .ok (.putfield 31, 3) := by decide +kernel
theorem dX2_init_53 : decode cX2_init 53 = .ok (.aload_n 0, 1) := by decide +kernel
theorem dX2_init_54 : decode cX2_init 54 = .ok (.iconst 4, 1) := by decide +kernel
theorem dX2_init_55 : decode cX2_init 55 = .ok (.newarray .int, 2) := by decide +kernel
theorem dX2_init_57 : decode cX2_init 57 = .ok (.putfield 34, 3) := by decide +kernel
theorem dX2_init_60 : decode cX2_init 60 = .ok (.return_, 1) := by decide +kernel
theorem dX2_add_0 : decode cX2_add 0 = .ok (.aload_n 0, 1) := by decide +kernel
theorem dX2_add_1 : decode cX2_add 1 = .ok (.getfield 9, 3) := by decide +kernel
theorem dX2_add_4 : decode cX2_add 4 = .ok (.aload_n 0, 1) := by decide +kernel
theorem dX2_add_5 : decode cX2_add 5 = .ok (.getfield 37, 3) := by decide +kernel
theorem dX2_add_8 : decode cX2_add 8 = .ok (.iload_n 1, 1) := by decide +kernel
theorem dX2_add_9 : decode cX2_add 9 = .ok (.iastore, 1) := by decide +kernel
theorem dX2_add_10 : decode cX2_add 10 = .ok (.aload_n 0, 1) := by decide +kernel
theorem dX2_add_11 : decode cX2_add 11 = .ok (.getfield 15, 3) := by decide +kernel
theorem dX2_add_14 : decode cX2_add 14 = .ok (.aload_n 0, 1) := by decide +kernel
theorem dX2_add_15 : decode cX2_add 15 = .ok (.getfield 37, 3) := by decide +kernel
theorem dX2_add_18 : decode cX2_add 18 = .ok (.iload_n 2, 1) := by decide +kernel
theorem dX2_add_19 : decode cX2_add 19 = .ok (.iastore, 1) := by decide +kernel
theorem dX2_add_20 : decode cX2_add 20 = .ok (.aload_n 0, 1) := by decide +kernel
theorem dX2_add_21 : decode cX2_add 21 = .ok (.dup, 1) := by decide +kernel
theorem dX2_add_22 : decode cX2_add 22 = .ok (.getfield 37, 3) := by decide +kernel
theorem dX2_add_25 : decode cX2_add 25 = .ok (.iconst 1, 1) := by decide +kernel
theorem dX2_add_26 : decode cX2_add 26 = .ok (.iadd, 1) := by decide +kernel
theorem dX2_add_27 : decode cX2_add 27 = .ok (.putfield 37, 3) := by decide +kernel
theorem dX2_add_30 : decode cX2_add 30 = .ok (.aload_n 0, 1) := by decide +kernel
theorem dX2_add_31 : decode cX2_add 31 = .ok (.getfield 37, 3) := by decide +kernel
theorem dX2_add_34 : decode cX2_add 34 = .ok (.iconst 1, 1) := by decide +kernel
theorem dX2_add_35 : decode cX2_add 35 = .ok (.isub, 1) := by decide +kernel
theorem dX2_add_36 : decode cX2_add 36 = .ok (.ireturn, 1) := by decide +kernel
theorem dX2_bestPotsOf_0 : decode cX2_bestPotsOf 0 = .ok (.iload_n 1, 1) := by decide +kernel
theorem dX2_bestPotsOf_1 : decode cX2_bestPotsOf 1 = .ok (.ifCond .lt 11, 3) := by decide +kernel
theorem dX2_bestPotsOf_4 : decode cX2_bestPotsOf 4 = .ok (.iload_n 1, 1) := by decide +kernel
theorem dX2_bestPotsOf_5 : decode cX2_bestPotsOf 5 = .ok (.aload_n 0, 1) := by decide +kernel
theorem dX2_bestPotsOf_6 : decode cX2_bestPotsOf 6 = .ok (.getfield 37, 3) := by decide +kernel
theorem dX2_bestPotsOf_9 : decode cX2_bestPotsOf 9 = .ok (.if_icmp .lt 7, 3) := by decide +kernel
theorem dX2_bestPotsOf_12 : decode cX2_bestPotsOf 12 = .ok (.iconst 0, 1) := by decide +kernel
theorem dX2_bestPotsOf_13 : decode cX2_bestPotsOf 13 = .ok (.goto 9, 3) := by decide +kernel
theorem dX2_bestPotsOf_16 : decode cX2_bestPotsOf 16 = .ok (.aload_n 0, 1) := by decide +kernel
theorem dX2_bestPotsOf_17 : decode cX2_bestPotsOf 17 = .ok (.getfield 34, 3) := by decide +kernel
theorem dX2_bestPotsOf_20 : decode cX2_bestPotsOf 20 = .ok (.iload_n 1, 1) := by decide +kernel
theorem dX2_bestPotsOf_21 : decode cX2_bestPotsOf 21 = .ok (.iaload, 1) := by decide +kernel
theorem dX2_bestPotsOf_22 : decode cX2_bestPotsOf 22 = .ok (.ireturn, 1) := by decide +kernel
theorem dX2_readLeaf_0 : decode cX2_readLeaf 0 = .ok (.aload_n 0, 1) := by decide +kernel
theorem dX2_readLeaf_1 : decode cX2_readLeaf 1 = .ok (.getfield 25, 3) := by decide +kernel
theorem dX2_readLeaf_4 : decode cX2_readLeaf 4 = .ok (.iconst 0, 1) := by decide +kernel
theorem dX2_readLeaf_5 : decode cX2_readLeaf 5 = .ok (.invokestatic 40, 3) := by decide +kernel
theorem dX2_readLeaf_8 : decode cX2_readLeaf 8 = .ok (.iconst 0, 1) := by decide +kernel
theorem dX2_readLeaf_9 : decode cX2_readLeaf 9 = .ok (.istore 5, 2) := by decide +kernel
theorem dX2_readLeaf_11 : decode cX2_readLeaf 11 = .ok (.iload 5, 2) := by decide +kernel
theorem dX2_readLeaf_13 : decode cX2_readLeaf 13 = .ok (.aload_n 1, 1) := by decide +kernel
theorem dX2_readLeaf_14 : decode cX2_readLeaf 14 = .ok (.getfield 46, 3) := by decide +kernel
theorem dX2_readLeaf_17 : decode cX2_readLeaf 17 = .ok (.if_icmp .ge 37, 3) := by decide +kernel
theorem dX2_readLeaf_20 : decode cX2_readLeaf 20 = .ok (.aload_n 1, 1) := by decide +kernel
theorem dX2_readLeaf_21 : decode cX2_readLeaf 21 = .ok (.iload 5, 2) := by decide +kernel
theorem dX2_readLeaf_23 : decode cX2_readLeaf 23 = .ok (.iload_n 3, 1) := by decide +kernel
theorem dX2_readLeaf_24 : decode cX2_readLeaf 24 = .ok (.iload 4, 2) := by decide +kernel
theorem dX2_readLeaf_26 : decode cX2_readLeaf 26 = .ok (.invokevirtual 51, 3) := by decide +kernel
theorem dX2_readLeaf_29 : decode cX2_readLeaf 29 = .ok (.ifCond .eq 19, 3) := by decide +kernel
theorem dX2_readLeaf_32 : decode cX2_readLeaf 32 = .ok (.aload_n 0, 1) := by decide +kernel
theorem dX2_readLeaf_33 : decode cX2_readLeaf 33 = .ok (.getfield 25, 3) := by decide +kernel
theorem dX2_readLeaf_36 : decode cX2_readLeaf 36 = .ok (.aload_n 1, 1) := by decide +kernel
theorem dX2_readLeaf_37 : decode cX2_readLeaf 37 = .ok (.iload 5, 2) := by decide +kernel
theorem dX2_readLeaf_39 : decode cX2_readLeaf 39 = .ok (.iload_n 2, 1) := by decide +kernel
theorem dX2_readLeaf_40 : decode cX2_readLeaf 40 = .ok (.invokevirtual 55, 3) := by decide +kernel
theorem dX2_readLeaf_43 : decode cX2_readLeaf 43 = .ok (.dup2, 1) := by decide +kernel
theorem dX2_readLeaf_44 : decode cX2_readLeaf 44 = .ok (.iaload, 1) := by decide +kernel
theorem dX2_readLeaf_45 : decode cX2_readLeaf 45 = .ok (.iconst 1, 1) := by decide +kernel
theorem dX2_readLeaf_46 : decode cX2_readLeaf 46 = .ok (.iadd, 1) := by decide +kernel
theorem dX2_readLeaf_47 : decode cX2_readLeaf 47 = .ok (.iastore, 1) := by decide +kernel
theorem dX2_readLeaf_48 : decode cX2_readLeaf 48 = .ok (.iinc 5 1, 3) := by decide +kernel
theorem dX2_readLeaf_51 : decode cX2_readLeaf 51 = .ok (.goto (-40), 3) := by decide +kernel
theorem dX2_readLeaf_54 : decode cX2_readLeaf 54 = .ok (.aload_n 0, 1) := by decide +kernel
theorem dX2_readLeaf_55 : decode cX2_readLeaf 55 = .ok (.iconst 0, 1) := by decide +kernel
theorem dX2_readLeaf_56 : decode cX2_readLeaf 56 = .ok (.putfield 59, 3) := by decide +kernel
theorem dX2_readLeaf_59 : decode cX2_readLeaf 59 = .ok (.aload_n 0, 1) := by decide +kernel
theorem dX2_readLeaf_60 : decode cX2_readLeaf 60 = .ok (.iconst 0, 1) := by decide +kernel
theorem dX2_readLeaf_61 : decode cX2_readLeaf 61 = .ok (.putfield 62, 3) := by decide +kernel
theorem dX2_readLeaf_64 : decode cX2_readLeaf 64 = .ok (.iconst 0, 1) := by decide +kernel
theorem dX2_readLeaf_65 : decode cX2_readLeaf 65 = .ok (.istore 5, 2) := by decide +kernel
theorem dX2_readLeaf_67 : decode cX2_readLeaf 67 = .ok (.iload 5, 2) := by decide +kernel
theorem dX2_readLeaf_69 : decode cX2_readLeaf 69 = .ok (.sipush 1000, 3) := by decide +kernel
theorem dX2_readLeaf_72 : decode cX2_readLeaf 72 = .ok (.if_icmp .gt 66, 3) := by decide +kernel
theorem dX2_readLeaf_75 : decode cX2_readLeaf 75 = .ok (.aload_n 0, 1) := by decide +kernel
theorem dX2_readLeaf_76 : decode cX2_readLeaf 76 = .ok (.dup, 1) := by decide +kernel
theorem dX2_readLeaf_77 : decode cX2_readLeaf 77 = .ok (.getfield 59, 3) := by decide +kernel
theorem dX2_readLeaf_80 : decode cX2_readLeaf 80 = .ok (.aload_n 0, 1) := by decide +kernel
theorem dX2_readLeaf_81 : decode cX2_readLeaf 81 = .ok (.getfield 25, 3) := by decide +kernel
theorem dX2_readLeaf_84 : decode cX2_readLeaf 84 = .ok (.iload 5, 2) := by decide +kernel
theorem dX2_readLeaf_86 : decode cX2_readLeaf 86 = .ok (.iaload, 1) := by decide +kernel
theorem dX2_readLeaf_87 : decode cX2_readLeaf 87 = .ok (.iadd, 1) := by decide +kernel
theorem dX2_readLeaf_88 : decode cX2_readLeaf 88 = .ok (.putfield 59, 3) := by decide +kernel
theorem dX2_readLeaf_91 : decode cX2_readLeaf 91 = .ok (.aload_n 0, 1) := by decide +kernel
theorem dX2_readLeaf_92 : decode cX2_readLeaf 92 = .ok (.dup, 1) := by decide +kernel
theorem dX2_readLeaf_93 : decode cX2_readLeaf 93 = .ok (.getfield 62, 3) := by decide +kernel
theorem dX2_readLeaf_96 : decode cX2_readLeaf 96 = .ok (.aload_n 0, 1) := by decide +kernel
theorem dX2_readLeaf_97 : decode cX2_readLeaf 97 = .ok (.getfield 25, 3) := by decide +kernel
theorem dX2_readLeaf_100 : decode cX2_readLeaf 100 = .ok (.iload 5, 2) := by decide +kernel
theorem dX2_readLeaf_102 : decode cX2_readLeaf 102 = .ok (.iaload, 1) := by decide +kernel
theorem dX2_readLeaf_103 : decode cX2_readLeaf 103 = .ok (.iload 5, 2) := by decide +kernel
theorem dX2_readLeaf_105 : decode cX2_readLeaf 105 = .ok (.imul, 1) := by decide +kernel
theorem dX2_readLeaf_106 : decode cX2_readLeaf 106 = .ok (.iadd, 1) := by decide +kernel
theorem dX2_readLeaf_107 : decode cX2_readLeaf 107 = .ok (.putfield 62, 3) := by decide +kernel
theorem dX2_readLeaf_110 : decode cX2_readLeaf 110 = .ok (.aload_n 0, 1) := by decide +kernel
theorem dX2_readLeaf_111 : decode cX2_readLeaf 111 = .ok (.getfield 25, 3) := by decide +kernel
theorem dX2_readLeaf_114 : decode cX2_readLeaf 114 = .ok (.iload 5, 2) := by decide +kernel
theorem dX2_readLeaf_116 : decode cX2_readLeaf 116 = .ok (.aload_n 0, 1) := by decide +kernel
theorem dX2_readLeaf_117 : decode cX2_readLeaf 117 = .ok (.getfield 59, 3) := by decide +kernel
theorem dX2_readLeaf_120 : decode cX2_readLeaf 120 = .ok (.iastore, 1) := by decide +kernel
theorem dX2_readLeaf_121 : decode cX2_readLeaf 121 = .ok (.aload_n 0, 1) := by decide +kernel
theorem dX2_readLeaf_122 : decode cX2_readLeaf 122 = .ok (.getfield 28, 3) := by decide +kernel
theorem dX2_readLeaf_125 : decode cX2_readLeaf 125 = .ok (.iload 5, 2) := by decide +kernel
theorem dX2_readLeaf_127 : decode cX2_readLeaf 127 = .ok (.aload_n 0, 1) := by decide +kernel
theorem dX2_readLeaf_128 : decode cX2_readLeaf 128 = .ok (.getfield 62, 3) := by decide +kernel
theorem dX2_readLeaf_131 : decode cX2_readLeaf 131 = .ok (.iastore, 1) := by decide +kernel
theorem dX2_readLeaf_132 : decode cX2_readLeaf 132 = .ok (.iinc 5 1, 3) := by decide +kernel
theorem dX2_readLeaf_135 : decode cX2_readLeaf 135 = .ok (.goto (-68), 3) := by decide +kernel
theorem dX2_readLeaf_138 : decode cX2_readLeaf 138 = .ok (.return_, 1) := by decide +kernel
theorem dX2_findBest_0 : decode cX2_findBest 0 = .ok (.aload_n 0, 1) := by decide +kernel
theorem dX2_findBest_1 : decode cX2_findBest 1 = .ok (.iconst 0, 1) := by decide +kernel
theorem dX2_findBest_2 : decode cX2_findBest 2 = .ok (.putfield 65, 3) := by decide +kernel
theorem dX2_findBest_5 : decode cX2_findBest 5 = .ok (.aload_n 0, 1) := by decide +kernel
theorem dX2_findBest_6 : decode cX2_findBest 6 = .ok (.iconst 0, 1) := by decide +kernel
theorem dX2_findBest_7 : decode cX2_findBest 7 = .ok (.bipush 12, 2) := by decide +kernel
theorem dX2_findBest_9 : decode cX2_findBest 9 = .ok (.invokevirtual 69, 3) := by decide +kernel
theorem dX2_findBest_12 : decode cX2_findBest 12 = .ok (.istore_n 2, 1) := by decide +kernel
theorem dX2_findBest_13 : decode cX2_findBest 13 = .ok (.iload_n 2, 1) := by decide +kernel
theorem dX2_findBest_14 : decode cX2_findBest 14 = .ok (.ifCond .lt 115, 3) := by decide +kernel
theorem dX2_findBest_17 : decode cX2_findBest 17 = .ok (.aload_n 0, 1) := by decide +kernel
theorem dX2_findBest_18 : decode cX2_findBest 18 = .ok (.getfield 31, 3) := by decide +kernel
theorem dX2_findBest_21 : decode cX2_findBest 21 = .ok (.iconst 0, 1) := by decide +kernel
theorem dX2_findBest_22 : decode cX2_findBest 22 = .ok (.iload_n 2, 1) := by decide +kernel
theorem dX2_findBest_23 : decode cX2_findBest 23 = .ok (.iastore, 1) := by decide +kernel
theorem dX2_findBest_24 : decode cX2_findBest 24 = .ok (.aload_n 0, 1) := by decide +kernel
theorem dX2_findBest_25 : decode cX2_findBest 25 = .ok (.iconst 1, 1) := by decide +kernel
theorem dX2_findBest_26 : decode cX2_findBest 26 = .ok (.bipush 12, 2) := by decide +kernel
theorem dX2_findBest_28 : decode cX2_findBest 28 = .ok (.iload_n 2, 1) := by decide +kernel
theorem dX2_findBest_29 : decode cX2_findBest 29 = .ok (.isub, 1) := by decide +kernel
theorem dX2_findBest_30 : decode cX2_findBest 30 = .ok (.invokevirtual 69, 3) := by decide +kernel
theorem dX2_findBest_33 : decode cX2_findBest 33 = .ok (.istore_n 3, 1) := by decide +kernel
theorem dX2_findBest_34 : decode cX2_findBest 34 = .ok (.iload_n 3, 1) := by decide +kernel
theorem dX2_findBest_35 : decode cX2_findBest 35 = .ok (.ifCond .lt 88, 3) := by decide +kernel
theorem dX2_findBest_38 : decode cX2_findBest 38 = .ok (.aload_n 0, 1) := by decide +kernel
theorem dX2_findBest_39 : decode cX2_findBest 39 = .ok (.getfield 31, 3) := by decide +kernel
theorem dX2_findBest_42 : decode cX2_findBest 42 = .ok (.iconst 1, 1) := by decide +kernel
theorem dX2_findBest_43 : decode cX2_findBest 43 = .ok (.iload_n 3, 1) := by decide +kernel
theorem dX2_findBest_44 : decode cX2_findBest 44 = .ok (.iastore, 1) := by decide +kernel
theorem dX2_findBest_45 : decode cX2_findBest 45 = .ok (.aload_n 0, 1) := by decide +kernel
theorem dX2_findBest_46 : decode cX2_findBest 46 = .ok (.iconst 2, 1) := by decide +kernel
theorem dX2_findBest_47 : decode cX2_findBest 47 = .ok (.bipush 12, 2) := by decide +kernel
theorem dX2_findBest_49 : decode cX2_findBest 49 = .ok (.iload_n 2, 1) := by decide +kernel
theorem dX2_findBest_50 : decode cX2_findBest 50 = .ok (.isub, 1) := by decide +kernel
theorem dX2_findBest_51 : decode cX2_findBest 51 = .ok (.iload_n 3, 1) := by decide +kernel
theorem dX2_findBest_52 : decode cX2_findBest 52 = .ok (.isub, 1) := by decide +kernel
theorem dX2_findBest_53 : decode cX2_findBest 53 = .ok (.invokevirtual 69, 3) := by decide +kernel
theorem dX2_findBest_56 : decode cX2_findBest 56 = .ok (.istore 4, 2) := by decide +kernel
theorem dX2_findBest_58 : decode cX2_findBest 58 = .ok (.iload 4, 2) := by decide +kernel
theorem dX2_findBest_60 : decode cX2_findBest 60 = .ok (.ifCond .lt 57, 3) := by decide +kernel
theorem dX2_findBest_63 : decode cX2_findBest 63 = .ok (.aload_n 0, 1) := by decide +kernel
theorem dX2_findBest_64 : decode cX2_findBest 64 = .ok (.getfield 31, 3) := by decide +kernel
theorem dX2_findBest_67 : decode cX2_findBest 67 = .ok (.iconst 2, 1) := by decide +kernel
theorem dX2_findBest_68 : decode cX2_findBest 68 = .ok (.iload 4, 2) := by decide +kernel
theorem dX2_findBest_70 : decode cX2_findBest 70 = .ok (.iastore, 1) := by decide +kernel
theorem dX2_findBest_71 : decode cX2_findBest 71 = .ok (.aload_n 0, 1) := by decide +kernel
theorem dX2_findBest_72 : decode cX2_findBest 72 = .ok (.iconst 3, 1) := by decide +kernel
theorem dX2_findBest_73 : decode cX2_findBest 73 = .ok (.bipush 12, 2) := by decide +kernel
theorem dX2_findBest_75 : decode cX2_findBest 75 = .ok (.iload_n 2, 1) := by decide +kernel
theorem dX2_findBest_76 : decode cX2_findBest 76 = .ok (.isub, 1) := by decide +kernel
theorem dX2_findBest_77 : decode cX2_findBest 77 = .ok (.iload_n 3, 1) := by decide +kernel
theorem dX2_findBest_78 : decode cX2_findBest 78 = .ok (.isub, 1) := by decide +kernel
theorem dX2_findBest_79 : decode cX2_findBest 79 = .ok (.iload 4, 2) := by decide +kernel
theorem dX2_findBest_81 : decode cX2_findBest 81 = .ok (.isub, 1) := by decide +kernel
theorem dX2_findBest_82 : decode cX2_findBest 82 = .ok (.invokevirtual 69, 3) := by decide +kernel
theorem dX2_findBest_85 : decode cX2_findBest 85 = .ok (.istore 5, 2) := by decide +kernel
theorem dX2_findBest_87 : decode cX2_findBest 87 = .ok (.iload 5, 2) := by decide +kernel
theorem dX2_findBest_89 : decode cX2_findBest 89 = .ok (.ifCond .lt 22, 3) := by decide +kernel
theorem dX2_findBest_92 : decode cX2_findBest 92 = .ok (.aload_n 0, 1) := by decide +kernel
theorem dX2_findBest_93 : decode cX2_findBest 93 = .ok (.getfield 31, 3) := by decide +kernel
theorem dX2_findBest_96 : decode cX2_findBest 96 = .ok (.iconst 3, 1) := by decide +kernel
theorem dX2_findBest_97 : decode cX2_findBest 97 = .ok (.iload 5, 2) := by decide +kernel
theorem dX2_findBest_99 : decode cX2_findBest 99 = .ok (.iastore, 1) := by decide +kernel
theorem dX2_findBest_100 : decode cX2_findBest 100 = .ok (.aload_n 0, 1) := by decide +kernel
theorem dX2_findBest_101 : decode cX2_findBest 101 = .ok (.iload_n 1, 1) := by decide +kernel
theorem dX2_findBest_102 : decode cX2_findBest 102 = .ok (.invokevirtual 72, 3) := by decide +kernel
theorem dX2_findBest_105 : decode cX2_findBest 105 = .ok (.iinc 5 (-1), 3) := by decide +kernel
theorem dX2_findBest_108 : decode cX2_findBest 108 = .ok (.goto (-21), 3) := by decide +kernel
theorem dX2_findBest_111 : decode cX2_findBest 111 = .ok (.iinc 4 (-1), 3) := by decide +kernel
theorem dX2_findBest_114 : decode cX2_findBest 114 = .ok (.goto (-56), 3) := by decide +kernel
theorem dX2_findBest_117 : decode cX2_findBest 117 = .ok (.iinc 3 (-1), 3) := by decide +kernel
theorem dX2_findBest_120 : decode cX2_findBest 120 = .ok (.goto (-86), 3) := by decide +kernel
theorem dX2_findBest_123 : decode cX2_findBest 123 = .ok (.iinc 2 (-1), 3) := by decide +kernel
theorem dX2_findBest_126 : decode cX2_findBest 126 = .ok (.goto (-113), 3) := by decide +kernel
theorem dX2_findBest_129 : decode cX2_findBest 129 = .ok (.return_, 1) := by decide +kernel
theorem dX2_mostPots_0 : decode cX2_mostPots 0 = .ok (.iload_n 1, 1) := by decide +kernel
theorem dX2_mostPots_1 : decode cX2_mostPots 1 = .ok (.aload_n 0, 1) := by decide +kernel
theorem dX2_mostPots_2 : decode cX2_mostPots 2 = .ok (.getfield 37, 3) := by decide +kernel
theorem dX2_mostPots_5 : decode cX2_mostPots 5 = .ok (.if_icmp .ge 7, 3) := by decide +kernel
theorem dX2_mostPots_8 : decode cX2_mostPots 8 = .ok (.iload_n 2, 1) := by decide +kernel
theorem dX2_mostPots_9 : decode cX2_mostPots 9 = .ok (.goto 4, 3) := by decide +kernel
theorem dX2_mostPots_12 : decode cX2_mostPots 12 = .ok (.iconst 0, 1) := by decide +kernel
theorem dX2_mostPots_13 : decode cX2_mostPots 13 = .ok (.ireturn, 1) := by decide +kernel
theorem dX2_weighTried_0 : decode cX2_weighTried 0 = .ok (.iconst 0, 1) := by decide +kernel
theorem dX2_weighTried_1 : decode cX2_weighTried 1 = .ok (.istore_n 2, 1) := by decide +kernel
theorem dX2_weighTried_2 : decode cX2_weighTried 2 = .ok (.iconst 0, 1) := by decide +kernel
theorem dX2_weighTried_3 : decode cX2_weighTried 3 = .ok (.istore_n 3, 1) := by decide +kernel
theorem dX2_weighTried_4 : decode cX2_weighTried 4 = .ok (.lconst 0, 1) := by decide +kernel
theorem dX2_weighTried_5 : decode cX2_weighTried 5 = .ok (.lstore 4, 2) := by decide +kernel
theorem dX2_weighTried_7 : decode cX2_weighTried 7 = .ok (.iconst 0, 1) := by decide +kernel
theorem dX2_weighTried_8 : decode cX2_weighTried 8 = .ok (.istore 6, 2) := by decide +kernel
theorem dX2_weighTried_10 : decode cX2_weighTried 10 = .ok (.iload 6, 2) := by decide +kernel
theorem dX2_weighTried_12 : decode cX2_weighTried 12 = .ok (.aload_n 0, 1) := by decide +kernel
theorem dX2_weighTried_13 : decode cX2_weighTried 13 = .ok (.getfield 37, 3) := by decide +kernel
theorem dX2_weighTried_16 : decode cX2_weighTried 16 = .ok (.if_icmp .ge 59, 3) := by decide +kernel
theorem dX2_weighTried_19 : decode cX2_weighTried 19 = .ok (.iload_n 2, 1) := by decide +kernel
theorem dX2_weighTried_20 : decode cX2_weighTried 20 = .ok (.aload_n 0, 1) := by decide +kernel
theorem dX2_weighTried_21 : decode cX2_weighTried 21 = .ok (.getfield 31, 3) := by decide +kernel
theorem dX2_weighTried_24 : decode cX2_weighTried 24 = .ok (.iload 6, 2) := by decide +kernel
theorem dX2_weighTried_26 : decode cX2_weighTried 26 = .ok (.iaload, 1) := by decide +kernel
theorem dX2_weighTried_27 : decode cX2_weighTried 27 = .ok (.iadd, 1) := by decide +kernel
theorem dX2_weighTried_28 : decode cX2_weighTried 28 = .ok (.istore_n 2, 1) := by decide +kernel
theorem dX2_weighTried_29 : decode cX2_weighTried 29 = .ok (.iload_n 3, 1) := by decide +kernel
theorem dX2_weighTried_30 : decode cX2_weighTried 30 = .ok (.aload_n 0, 1) := by decide +kernel
theorem dX2_weighTried_31 : decode cX2_weighTried 31 = .ok (.getfield 31, 3) := by decide +kernel
theorem dX2_weighTried_34 : decode cX2_weighTried 34 = .ok (.iload 6, 2) := by decide +kernel
theorem dX2_weighTried_36 : decode cX2_weighTried 36 = .ok (.iaload, 1) := by decide +kernel
theorem dX2_weighTried_37 : decode cX2_weighTried 37 = .ok (.aload_n 0, 1) := by decide +kernel
theorem dX2_weighTried_38 : decode cX2_weighTried 38 = .ok (.getfield 9, 3) := by decide +kernel
theorem dX2_weighTried_41 : decode cX2_weighTried 41 = .ok (.iload 6, 2) := by decide +kernel
theorem dX2_weighTried_43 : decode cX2_weighTried 43 = .ok (.iaload, 1) := by decide +kernel
theorem dX2_weighTried_44 : decode cX2_weighTried 44 = .ok (.imul, 1) := by decide +kernel
theorem dX2_weighTried_45 : decode cX2_weighTried 45 = .ok (.iadd, 1) := by decide +kernel
theorem dX2_weighTried_46 : decode cX2_weighTried 46 = .ok (.istore_n 3, 1) := by decide +kernel
theorem dX2_weighTried_47 : decode cX2_weighTried 47 = .ok (.lload 4, 2) := by decide +kernel
theorem dX2_weighTried_49 : decode cX2_weighTried 49 = .ok (.aload_n 0, 1) := by decide +kernel
theorem dX2_weighTried_50 : decode cX2_weighTried 50 = .ok (.getfield 31, 3) := by decide +kernel
theorem dX2_weighTried_53 : decode cX2_weighTried 53 = .ok (.iload 6, 2) := by decide +kernel
theorem dX2_weighTried_55 : decode cX2_weighTried 55 = .ok (.iaload, 1) := by decide +kernel
theorem dX2_weighTried_56 : decode cX2_weighTried 56 = .ok (.i2l, 1) := by decide +kernel
theorem dX2_weighTried_57 : decode cX2_weighTried 57 = .ok (.aload_n 0, 1) := by decide +kernel
theorem dX2_weighTried_58 : decode cX2_weighTried 58 = .ok (.getfield 15, 3) := by decide +kernel
theorem dX2_weighTried_61 : decode cX2_weighTried 61 = .ok (.iload 6, 2) := by decide +kernel
theorem dX2_weighTried_63 : decode cX2_weighTried 63 = .ok (.iaload, 1) := by decide +kernel
theorem dX2_weighTried_64 : decode cX2_weighTried 64 = .ok (.i2l, 1) := by decide +kernel
theorem dX2_weighTried_65 : decode cX2_weighTried 65 = .ok (.lmul, 1) := by decide +kernel
theorem dX2_weighTried_66 : decode cX2_weighTried 66 = .ok (.ladd, 1) := by decide +kernel
theorem dX2_weighTried_67 : decode cX2_weighTried 67 = .ok (.lstore 4, 2) := by decide +kernel
theorem dX2_weighTried_69 : decode cX2_weighTried 69 = .ok (.iinc 6 1, 3) := by decide +kernel
theorem dX2_weighTried_72 : decode cX2_weighTried 72 = .ok (.goto (-62), 3) := by decide +kernel
theorem dX2_weighTried_75 : decode cX2_weighTried 75 = .ok (.lload 4, 2) := by decide +kernel
theorem dX2_weighTried_77 : decode cX2_weighTried 77 = .ok (.aload_n 0, 1) := by decide +kernel
theorem dX2_weighTried_78 : decode cX2_weighTried 78 = .ok (.getfield 59, 3) := by decide +kernel
theorem dX2_weighTried_81 : decode cX2_weighTried 81 = .ok (.i2l, 1) := by decide +kernel
theorem dX2_weighTried_82 : decode cX2_weighTried 82 = .ok (.lmul, 1) := by decide +kernel
theorem dX2_weighTried_83 : decode cX2_weighTried 83 = .ok (.aload_n 0, 1) := by decide +kernel
theorem dX2_weighTried_84 : decode cX2_weighTried 84 = .ok (.iload_n 3, 1) := by decide +kernel
theorem dX2_weighTried_85 : decode cX2_weighTried 85 = .ok (.iload_n 1, 1) := by decide +kernel
theorem dX2_weighTried_86 : decode cX2_weighTried 86 = .ok (.iadd, 1) := by decide +kernel
theorem dX2_weighTried_87 : decode cX2_weighTried 87 = .ok (.invokevirtual 76, 3) := by decide +kernel
theorem dX2_weighTried_90 : decode cX2_weighTried 90 = .ok (.ladd, 1) := by decide +kernel
theorem dX2_weighTried_91 : decode cX2_weighTried 91 = .ok (.lstore 6, 2) := by decide +kernel
theorem dX2_weighTried_93 : decode cX2_weighTried 93 = .ok (.aload_n 0, 1) := by decide +kernel
theorem dX2_weighTried_94 : decode cX2_weighTried 94 = .ok (.getfield 65, 3) := by decide +kernel
theorem dX2_weighTried_97 : decode cX2_weighTried 97 = .ok (.ifCond .eq 14, 3) := by decide +kernel
theorem dX2_weighTried_100 : decode cX2_weighTried 100 = .ok (.aload_n 0, 1) := by decide +kernel
theorem dX2_weighTried_101 : decode cX2_weighTried 101 = .ok (.lload 6, 2) := by decide +kernel
theorem dX2_weighTried_103 : decode cX2_weighTried 103 = .ok (.iload_n 3, 1) := by decide +kernel
theorem dX2_weighTried_104 : decode cX2_weighTried 104 = .ok (.iload_n 2, 1) := by decide +kernel
theorem dX2_weighTried_105 : decode cX2_weighTried 105 = .ok (.invokevirtual 80, 3) := by decide +kernel
theorem dX2_weighTried_108 : decode cX2_weighTried 108 = .ok (.ifCond .eq 38, 3) := by decide +kernel
theorem dX2_weighTried_111 : decode cX2_weighTried 111 = .ok (.aload_n 0, 1) := by decide +kernel
theorem dX2_weighTried_112 : decode cX2_weighTried 112 = .ok (.iconst 1, 1) := by decide +kernel
theorem dX2_weighTried_113 : decode cX2_weighTried 113 = .ok (.putfield 65, 3) := by decide +kernel
theorem dX2_weighTried_116 : decode cX2_weighTried 116 = .ok (.aload_n 0, 1) := by decide +kernel
theorem dX2_weighTried_117 : decode cX2_weighTried 117 = .ok (.lload 6, 2) := by decide +kernel
theorem dX2_weighTried_119 : decode cX2_weighTried 119 = .ok (.putfield 84, 3) := by decide +kernel
theorem dX2_weighTried_122 : decode cX2_weighTried 122 = .ok (.aload_n 0, 1) := by decide +kernel
theorem dX2_weighTried_123 : decode cX2_weighTried 123 = .ok (.iload_n 3, 1) := by decide +kernel
theorem dX2_weighTried_124 : decode cX2_weighTried 124 = .ok (.putfield 88, 3) := by decide +kernel
theorem dX2_weighTried_127 : decode cX2_weighTried 127 = .ok (.aload_n 0, 1) := by decide +kernel
theorem dX2_weighTried_128 : decode cX2_weighTried 128 = .ok (.iload_n 2, 1) := by decide +kernel
theorem dX2_weighTried_129 : decode cX2_weighTried 129 = .ok (.putfield 91, 3) := by decide +kernel
theorem dX2_weighTried_132 : decode cX2_weighTried 132 = .ok (.aload_n 0, 1) := by decide +kernel
theorem dX2_weighTried_133 : decode cX2_weighTried 133 = .ok (.getfield 31, 3) := by decide +kernel
theorem dX2_weighTried_136 : decode cX2_weighTried 136 = .ok (.iconst 0, 1) := by decide +kernel
theorem dX2_weighTried_137 : decode cX2_weighTried 137 = .ok (.aload_n 0, 1) := by decide +kernel
theorem dX2_weighTried_138 : decode cX2_weighTried 138 = .ok (.getfield 34, 3) := by decide +kernel
theorem dX2_weighTried_141 : decode cX2_weighTried 141 = .ok (.iconst 0, 1) := by decide +kernel
theorem dX2_weighTried_142 : decode cX2_weighTried 142 = .ok (.iconst 4, 1) := by decide +kernel
theorem dX2_weighTried_143 : decode cX2_weighTried 143 = .ok (.invokestatic 94, 3) := by decide +kernel
theorem dX2_weighTried_146 : decode cX2_weighTried 146 = .ok (.return_, 1) := by decide +kernel
theorem dX2_isBetter_0 : decode cX2_isBetter 0 = .ok (.lload_n 1, 1) := by decide +kernel
theorem dX2_isBetter_1 : decode cX2_isBetter 1 = .ok (.aload_n 0, 1) := by decide +kernel
theorem dX2_isBetter_2 : decode cX2_isBetter 2 = .ok (.getfield 84, 3) := by decide +kernel
theorem dX2_isBetter_5 : decode cX2_isBetter 5 = .ok (.lcmp, 1) := by decide +kernel
theorem dX2_isBetter_6 : decode cX2_isBetter 6 = .ok (.ifCond .eq 18, 3) := by decide +kernel
theorem dX2_isBetter_9 : decode cX2_isBetter 9 = .ok (.lload_n 1, 1) := by decide +kernel
theorem dX2_isBetter_10 : decode cX2_isBetter 10 = .ok (.aload_n 0, 1) := by decide +kernel
theorem dX2_isBetter_11 : decode cX2_isBetter 11 = .ok (.getfield 84, 3) := by decide +kernel
theorem dX2_isBetter_14 : decode cX2_isBetter 14 = .ok (.lcmp, 1) := by decide +kernel
theorem dX2_isBetter_15 : decode cX2_isBetter 15 = .ok (.ifCond .ge 7, 3) := by decide +kernel
theorem dX2_isBetter_18 : decode cX2_isBetter 18 = .ok (.iconst 1, 1) := by decide +kernel
theorem dX2_isBetter_19 : decode cX2_isBetter 19 = .ok (.goto 4, 3) := by decide +kernel
theorem dX2_isBetter_22 : decode cX2_isBetter 22 = .ok (.iconst 0, 1) := by decide +kernel
theorem dX2_isBetter_23 : decode cX2_isBetter 23 = .ok (.ireturn, 1) := by decide +kernel
theorem dX2_isBetter_24 : decode cX2_isBetter 24 = .ok (.iload_n 3, 1) := by decide +kernel
theorem dX2_isBetter_25 : decode cX2_isBetter 25 = .ok (.aload_n 0, 1) := by decide +kernel
theorem dX2_isBetter_26 : decode cX2_isBetter 26 = .ok (.getfield 88, 3) := by decide +kernel
theorem dX2_isBetter_29 : decode cX2_isBetter 29 = .ok (.if_icmp .eq 19, 3) := by decide +kernel
theorem dX2_isBetter_32 : decode cX2_isBetter 32 = .ok (.iload_n 3, 1) := by decide +kernel
theorem dX2_isBetter_33 : decode cX2_isBetter 33 = .ok (.aload_n 0, 1) := by decide +kernel
theorem dX2_isBetter_34 : decode cX2_isBetter 34 = .ok (.getfield 88, 3) := by decide +kernel
theorem dX2_isBetter_37 : decode cX2_isBetter 37 = .ok (.if_icmp .ge 7, 3) := by decide +kernel
theorem dX2_isBetter_40 : decode cX2_isBetter 40 = .ok (.iconst 1, 1) := by decide +kernel
theorem dX2_isBetter_41 : decode cX2_isBetter 41 = .ok (.goto 21, 3) := by decide +kernel
theorem dX2_isBetter_44 : decode cX2_isBetter 44 = .ok (.iconst 0, 1) := by decide +kernel
theorem dX2_isBetter_45 : decode cX2_isBetter 45 = .ok (.goto 17, 3) := by decide +kernel
theorem dX2_isBetter_48 : decode cX2_isBetter 48 = .ok (.iload 4, 2) := by decide +kernel
theorem dX2_isBetter_50 : decode cX2_isBetter 50 = .ok (.aload_n 0, 1) := by decide +kernel
theorem dX2_isBetter_51 : decode cX2_isBetter 51 = .ok (.getfield 91, 3) := by decide +kernel
theorem dX2_isBetter_54 : decode cX2_isBetter 54 = .ok (.if_icmp .ge 7, 3) := by decide +kernel
theorem dX2_isBetter_57 : decode cX2_isBetter 57 = .ok (.iconst 1, 1) := by decide +kernel
theorem dX2_isBetter_58 : decode cX2_isBetter 58 = .ok (.goto 4, 3) := by decide +kernel
theorem dX2_isBetter_61 : decode cX2_isBetter 61 = .ok (.iconst 0, 1) := by decide +kernel
theorem dX2_isBetter_62 : decode cX2_isBetter 62 = .ok (.ireturn, 1) := by decide +kernel
theorem dX2_wasteAndWant_0 : decode cX2_wasteAndWant 0 = .ok (.iload_n 1, 1) := by decide +kernel
theorem dX2_wasteAndWant_1 : decode cX2_wasteAndWant 1 = .ok (.sipush 1000, 3) := by decide +kernel
theorem dX2_wasteAndWant_4 : decode cX2_wasteAndWant 4 = .ok (.invokestatic 100, 3) := by decide +kernel
theorem dX2_wasteAndWant_7 : decode cX2_wasteAndWant 7 = .ok (.istore_n 2, 1) := by decide +kernel
theorem dX2_wasteAndWant_8 : decode cX2_wasteAndWant 8 = .ok (.iload_n 1, 1) := by decide +kernel
theorem dX2_wasteAndWant_9 : decode cX2_wasteAndWant 9 = .ok (.i2l, 1) := by decide +kernel
theorem dX2_wasteAndWant_10 : decode cX2_wasteAndWant 10 = .ok (.aload_n 0, 1) := by decide +kernel
theorem dX2_wasteAndWant_11 : decode cX2_wasteAndWant 11 = .ok (.getfield 25, 3) := by decide +kernel
theorem dX2_wasteAndWant_14 : decode cX2_wasteAndWant 14 = .ok (.iload_n 2, 1) := by decide +kernel
theorem dX2_wasteAndWant_15 : decode cX2_wasteAndWant 15 = .ok (.iaload, 1) := by decide +kernel
theorem dX2_wasteAndWant_16 : decode cX2_wasteAndWant 16 = .ok (.i2l, 1) := by decide +kernel
theorem dX2_wasteAndWant_17 : decode cX2_wasteAndWant 17 = .ok (.lmul, 1) := by decide +kernel
theorem dX2_wasteAndWant_18 : decode cX2_wasteAndWant 18 = .ok (.aload_n 0, 1) := by decide +kernel
theorem dX2_wasteAndWant_19 : decode cX2_wasteAndWant 19 = .ok (.getfield 28, 3) := by decide +kernel
theorem dX2_wasteAndWant_22 : decode cX2_wasteAndWant 22 = .ok (.iload_n 2, 1) := by decide +kernel
theorem dX2_wasteAndWant_23 : decode cX2_wasteAndWant 23 = .ok (.iaload, 1) := by decide +kernel
theorem dX2_wasteAndWant_24 : decode cX2_wasteAndWant 24 = .ok (.i2l, 1) := by decide +kernel
theorem dX2_wasteAndWant_25 : decode cX2_wasteAndWant 25 = .ok (.lsub, 1) := by decide +kernel
theorem dX2_wasteAndWant_26 : decode cX2_wasteAndWant 26 = .ok (.lstore_n 3, 1) := by decide +kernel
theorem dX2_wasteAndWant_27 : decode cX2_wasteAndWant 27 = .ok (.aload_n 0, 1) := by decide +kernel
theorem dX2_wasteAndWant_28 : decode cX2_wasteAndWant 28 = .ok (.getfield 62, 3) := by decide +kernel
theorem dX2_wasteAndWant_31 : decode cX2_wasteAndWant 31 = .ok (.aload_n 0, 1) := by decide +kernel
theorem dX2_wasteAndWant_32 : decode cX2_wasteAndWant 32 = .ok (.getfield 28, 3) := by decide +kernel
theorem dX2_wasteAndWant_35 : decode cX2_wasteAndWant 35 = .ok (.iload_n 2, 1) := by decide +kernel
theorem dX2_wasteAndWant_36 : decode cX2_wasteAndWant 36 = .ok (.iaload, 1) := by decide +kernel
theorem dX2_wasteAndWant_37 : decode cX2_wasteAndWant 37 = .ok (.isub, 1) := by decide +kernel
theorem dX2_wasteAndWant_38 : decode cX2_wasteAndWant 38 = .ok (.i2l, 1) := by decide +kernel
theorem dX2_wasteAndWant_39 : decode cX2_wasteAndWant 39 = .ok (.iload_n 1, 1) := by decide +kernel
theorem dX2_wasteAndWant_40 : decode cX2_wasteAndWant 40 = .ok (.i2l, 1) := by decide +kernel
theorem dX2_wasteAndWant_41 : decode cX2_wasteAndWant 41 = .ok (.aload_n 0, 1) := by decide +kernel
theorem dX2_wasteAndWant_42 : decode cX2_wasteAndWant 42 = .ok (.getfield 59, 3) := by decide +kernel
theorem dX2_wasteAndWant_45 : decode cX2_wasteAndWant 45 = .ok (.aload_n 0, 1) := by decide +kernel
theorem dX2_wasteAndWant_46 : decode cX2_wasteAndWant 46 = .ok (.getfield 25, 3) := by decide +kernel
theorem dX2_wasteAndWant_49 : decode cX2_wasteAndWant 49 = .ok (.iload_n 2, 1) := by decide +kernel
theorem dX2_wasteAndWant_50 : decode cX2_wasteAndWant 50 = .ok (.iaload, 1) := by decide +kernel
theorem dX2_wasteAndWant_51 : decode cX2_wasteAndWant 51 = .ok (.isub, 1) := by decide +kernel
theorem dX2_wasteAndWant_52 : decode cX2_wasteAndWant 52 = .ok (.i2l, 1) := by decide +kernel
theorem dX2_wasteAndWant_53 : decode cX2_wasteAndWant 53 = .ok (.lmul, 1) := by decide +kernel
theorem dX2_wasteAndWant_54 : decode cX2_wasteAndWant 54 = .ok (.lsub, 1) := by decide +kernel
theorem dX2_wasteAndWant_55 : decode cX2_wasteAndWant 55 = .ok (.lstore 5, 2) := by decide +kernel
theorem dX2_wasteAndWant_57 : decode cX2_wasteAndWant 57 = .ok (.aload_n 0, 1) := by decide +kernel
theorem dX2_wasteAndWant_58 : decode cX2_wasteAndWant 58 = .ok (.getfield 18, 3) := by decide +kernel
theorem dX2_wasteAndWant_61 : decode cX2_wasteAndWant 61 = .ok (.i2l, 1) := by decide +kernel
theorem dX2_wasteAndWant_62 : decode cX2_wasteAndWant 62 = .ok (.lload_n 3, 1) := by decide +kernel
theorem dX2_wasteAndWant_63 : decode cX2_wasteAndWant 63 = .ok (.lmul, 1) := by decide +kernel
theorem dX2_wasteAndWant_64 : decode cX2_wasteAndWant 64 = .ok (.aload_n 0, 1) := by decide +kernel
theorem dX2_wasteAndWant_65 : decode cX2_wasteAndWant 65 = .ok (.getfield 22, 3) := by decide +kernel
theorem dX2_wasteAndWant_68 : decode cX2_wasteAndWant 68 = .ok (.i2l, 1) := by decide +kernel
theorem dX2_wasteAndWant_69 : decode cX2_wasteAndWant 69 = .ok (.lload 5, 2) := by decide +kernel
theorem dX2_wasteAndWant_71 : decode cX2_wasteAndWant 71 = .ok (.lmul, 1) := by decide +kernel
theorem dX2_wasteAndWant_72 : decode cX2_wasteAndWant 72 = .ok (.ladd, 1) := by decide +kernel
theorem dX2_wasteAndWant_73 : decode cX2_wasteAndWant 73 = .ok (.lreturn, 1) := by decide +kernel
theorem dX3_init_0 : decode cX3_init 0 = .ok (.aload_n 0, 1) := by decide +kernel
theorem dX3_init_1 : decode cX3_init 1 = .ok (.invokespecial 3, 3) := by decide +kernel
theorem dX3_init_4 : decode cX3_init 4 = .ok (.aload_n 0, 1) := by decide +kernel
theorem dX3_init_5 : decode cX3_init 5 = .ok (.bipush 6, 2) := by decide +kernel
theorem dX3_init_7 : decode cX3_init 7 = .ok (.newarray .int, 2) := by decide +kernel
theorem dX3_init_9 : decode cX3_init 9 = .ok (.putfield 9, 3) := by decide +kernel
theorem dX3_init_12 : decode cX3_init 12 = .ok (.aload_n 0, 1) := by decide +kernel
theorem dX3_init_13 : decode cX3_init 13 = .ok (.bipush 6, 2) := by decide +kernel
theorem dX3_init_15 : decode cX3_init 15 = .ok (.newarray .int, 2) := by decide +kernel
theorem dX3_init_17 : decode cX3_init 17 = .ok (.putfield 15, 3) := by decide +kernel
theorem dX3_init_20 : decode cX3_init 20 = .ok (.aload_n 0, 1) := by decide +kernel
theorem dX3_init_21 : decode cX3_init 21 = .ok (.bipush 6, 2) := by decide +kernel
theorem dX3_init_23 : decode cX3_init 23 = .ok (.newarray .int, 2) := by decide +kernel
theorem dX3_init_25 : decode cX3_init 25 = .ok (.putfield 18, 3) := by decide +kernel
theorem dX3_init_28 : decode cX3_init 28 = .ok (.return_, 1) := by decide +kernel
theorem dX3_add_0 : decode cX3_add 0 = .ok (.aload_n 0, 1) := by decide +kernel
theorem dX3_add_1 : decode cX3_add 1 = .ok (.getfield 9, 3) := by decide +kernel
theorem dX3_add_4 : decode cX3_add 4 = .ok (.aload_n 0, 1) := by decide +kernel
theorem dX3_add_5 : decode cX3_add 5 = .ok (.getfield 21, 3) := by decide +kernel
theorem dX3_add_8 : decode cX3_add 8 = .ok (.iload_n 1, 1) := by decide +kernel
theorem dX3_add_9 : decode cX3_add 9 = .ok (.iastore, 1) := by decide +kernel
theorem dX3_add_10 : decode cX3_add 10 = .ok (.aload_n 0, 1) := by decide +kernel
theorem dX3_add_11 : decode cX3_add 11 = .ok (.getfield 15, 3) := by decide +kernel
theorem dX3_add_14 : decode cX3_add 14 = .ok (.aload_n 0, 1) := by decide +kernel
theorem dX3_add_15 : decode cX3_add 15 = .ok (.getfield 21, 3) := by decide +kernel
theorem dX3_add_18 : decode cX3_add 18 = .ok (.iload_n 2, 1) := by decide +kernel
theorem dX3_add_19 : decode cX3_add 19 = .ok (.iastore, 1) := by decide +kernel
theorem dX3_add_20 : decode cX3_add 20 = .ok (.aload_n 0, 1) := by decide +kernel
theorem dX3_add_21 : decode cX3_add 21 = .ok (.dup, 1) := by decide +kernel
theorem dX3_add_22 : decode cX3_add 22 = .ok (.getfield 21, 3) := by decide +kernel
theorem dX3_add_25 : decode cX3_add 25 = .ok (.iconst 1, 1) := by decide +kernel
theorem dX3_add_26 : decode cX3_add 26 = .ok (.iadd, 1) := by decide +kernel
theorem dX3_add_27 : decode cX3_add 27 = .ok (.putfield 21, 3) := by decide +kernel
theorem dX3_add_30 : decode cX3_add 30 = .ok (.aload_n 0, 1) := by decide +kernel
theorem dX3_add_31 : decode cX3_add 31 = .ok (.getfield 21, 3) := by decide +kernel
theorem dX3_add_34 : decode cX3_add 34 = .ok (.iconst 1, 1) := by decide +kernel
theorem dX3_add_35 : decode cX3_add 35 = .ok (.isub, 1) := by decide +kernel
theorem dX3_add_36 : decode cX3_add 36 = .ok (.ireturn, 1) := by decide +kernel
theorem dX3_deal_0 : decode cX3_deal 0 = .ok (.iconst 0, 1) := by decide +kernel
theorem dX3_deal_1 : decode cX3_deal 1 = .ok (.istore_n 1, 1) := by decide +kernel
theorem dX3_deal_2 : decode cX3_deal 2 = .ok (.iload_n 1, 1) := by decide +kernel
theorem dX3_deal_3 : decode cX3_deal 3 = .ok (.aload_n 0, 1) := by decide +kernel
theorem dX3_deal_4 : decode cX3_deal 4 = .ok (.getfield 21, 3) := by decide +kernel
theorem dX3_deal_7 : decode cX3_deal 7 = .ok (.if_icmp .ge 20, 3) := by decide +kernel
theorem dX3_deal_10 : decode cX3_deal 10 = .ok (.aload_n 0, 1) := by decide +kernel
theorem dX3_deal_11 : decode cX3_deal 11 = .ok (.iload_n 1, 1) := by decide +kernel
theorem dX3_deal_12 : decode cX3_deal 12 = .ok (.iload_n 1, 1) := by decide +kernel
theorem dX3_deal_13 : decode cX3_deal 13 = .ok (.invokevirtual 25, 3) := by decide +kernel
theorem dX3_deal_16 : decode cX3_deal 16 = .ok (.ifCond .ne 5, 3) := by decide +kernel
theorem dX3_deal_19 : decode cX3_deal 19 = .ok (.iconst (-1), 1) := by decide +kernel
theorem dX3_deal_20 : decode cX3_deal 20 = .ok (.ireturn, 1) := by decide +kernel
theorem dX3_deal_21 : decode cX3_deal 21 = .ok (.iinc 1 1, 3) := by decide +kernel
theorem dX3_deal_24 : decode cX3_deal 24 = .ok (.goto (-22), 3) := by decide +kernel
theorem dX3_deal_27 : decode cX3_deal 27 = .ok (.iconst 0, 1) := by decide +kernel
theorem dX3_deal_28 : decode cX3_deal 28 = .ok (.istore_n 1, 1) := by decide +kernel
theorem dX3_deal_29 : decode cX3_deal 29 = .ok (.iload_n 1, 1) := by decide +kernel
theorem dX3_deal_30 : decode cX3_deal 30 = .ok (.aload_n 0, 1) := by decide +kernel
theorem dX3_deal_31 : decode cX3_deal 31 = .ok (.getfield 21, 3) := by decide +kernel
theorem dX3_deal_34 : decode cX3_deal 34 = .ok (.if_icmp .gt 21, 3) := by decide +kernel
theorem dX3_deal_37 : decode cX3_deal 37 = .ok (.aload_n 0, 1) := by decide +kernel
theorem dX3_deal_38 : decode cX3_deal 38 = .ok (.iconst 0, 1) := by decide +kernel
theorem dX3_deal_39 : decode cX3_deal 39 = .ok (.iconst 0, 1) := by decide +kernel
theorem dX3_deal_40 : decode cX3_deal 40 = .ok (.iload_n 1, 1) := by decide +kernel
theorem dX3_deal_41 : decode cX3_deal 41 = .ok (.invokevirtual 29, 3) := by decide +kernel
theorem dX3_deal_44 : decode cX3_deal 44 = .ok (.ifCond .eq 5, 3) := by decide +kernel
theorem dX3_deal_47 : decode cX3_deal 47 = .ok (.iload_n 1, 1) := by decide +kernel
theorem dX3_deal_48 : decode cX3_deal 48 = .ok (.ireturn, 1) := by decide +kernel
theorem dX3_deal_49 : decode cX3_deal 49 = .ok (.iinc 1 1, 3) := by decide +kernel
theorem dX3_deal_52 : decode cX3_deal 52 = .ok (.goto (-23), 3) := by decide +kernel
theorem dX3_deal_55 : decode cX3_deal 55 = .ok (.iconst (-1), 1) := by decide +kernel
theorem dX3_deal_56 : decode cX3_deal 56 = .ok (.ireturn, 1) := by decide +kernel
theorem dX3_dealFrom_0 : decode cX3_dealFrom 0 = .ok (.iload_n 1, 1) := by decide +kernel
theorem dX3_dealFrom_1 : decode cX3_dealFrom 1 = .ok (.aload_n 0, 1) := by decide +kernel
theorem dX3_dealFrom_2 : decode cX3_dealFrom 2 = .ok (.getfield 21, 3) := by decide +kernel
theorem dX3_dealFrom_5 : decode cX3_dealFrom 5 = .ok (.if_icmp .lt 5, 3) := by decide +kernel
theorem dX3_dealFrom_8 : decode cX3_dealFrom 8 = .ok (.iconst 1, 1) := by decide +kernel
theorem dX3_dealFrom_9 : decode cX3_dealFrom 9 = .ok (.ireturn, 1) := by decide +kernel
theorem dX3_dealFrom_10 : decode cX3_dealFrom 10 = .ok (.iconst 0, 1) := by decide +kernel
theorem dX3_dealFrom_11 : decode cX3_dealFrom 11 = .ok (.istore 4, 2) := by decide +kernel
theorem dX3_dealFrom_13 : decode cX3_dealFrom 13 = .ok (.iload 4, 2) := by decide +kernel
theorem dX3_dealFrom_15 : decode cX3_dealFrom 15 = .ok (.iload_n 2, 1) := by decide +kernel
theorem dX3_dealFrom_16 : decode cX3_dealFrom 16 = .ok (.if_icmp .gt 54, 3) := by decide +kernel
theorem dX3_dealFrom_19 : decode cX3_dealFrom 19 = .ok (.iload 4, 2) := by decide +kernel
theorem dX3_dealFrom_21 : decode cX3_dealFrom 21 = .ok (.iload_n 3, 1) := by decide +kernel
theorem dX3_dealFrom_22 : decode cX3_dealFrom 22 = .ok (.if_icmp .ge 48, 3) := by decide +kernel
theorem dX3_dealFrom_25 : decode cX3_dealFrom 25 = .ok (.aload_n 0, 1) := by decide +kernel
theorem dX3_dealFrom_26 : decode cX3_dealFrom 26 = .ok (.iload_n 1, 1) := by decide +kernel
theorem dX3_dealFrom_27 : decode cX3_dealFrom 27 = .ok (.iload 4, 2) := by decide +kernel
theorem dX3_dealFrom_29 : decode cX3_dealFrom 29 = .ok (.invokevirtual 33, 3) := by decide +kernel
theorem dX3_dealFrom_32 : decode cX3_dealFrom 32 = .ok (.ifCond .eq 32, 3) := by decide +kernel
theorem dX3_dealFrom_35 : decode cX3_dealFrom 35 = .ok (.aload_n 0, 1) := by decide +kernel
theorem dX3_dealFrom_36 : decode cX3_dealFrom 36 = .ok (.getfield 18, 3) := by decide +kernel
theorem dX3_dealFrom_39 : decode cX3_dealFrom 39 = .ok (.iload_n 1, 1) := by decide +kernel
theorem dX3_dealFrom_40 : decode cX3_dealFrom 40 = .ok (.iload 4, 2) := by decide +kernel
theorem dX3_dealFrom_42 : decode cX3_dealFrom 42 = .ok (.iastore, 1) := by decide +kernel
theorem dX3_dealFrom_43 : decode cX3_dealFrom 43 = .ok (.aload_n 0, 1) := by decide +kernel
theorem dX3_dealFrom_44 : decode cX3_dealFrom 44 = .ok (.iload_n 1, 1) := by decide +kernel
theorem dX3_dealFrom_45 : decode cX3_dealFrom 45 = .ok (.iconst 1, 1) := by decide +kernel
theorem dX3_dealFrom_46 : decode cX3_dealFrom 46 = .ok (.iadd, 1) := by decide +kernel
theorem dX3_dealFrom_47 : decode cX3_dealFrom 47 = .ok (.iload_n 2, 1) := by decide +kernel
theorem dX3_dealFrom_48 : decode cX3_dealFrom 48 = .ok (.iload 4, 2) := by decide +kernel
theorem dX3_dealFrom_50 : decode cX3_dealFrom 50 = .ok (.iconst 1, 1) := by decide +kernel
theorem dX3_dealFrom_51 : decode cX3_dealFrom 51 = .ok (.iadd, 1) := by decide +kernel
theorem dX3_dealFrom_52 : decode cX3_dealFrom 52 = .ok (.invokestatic 36, 3) := by decide +kernel
theorem dX3_dealFrom_55 : decode cX3_dealFrom 55 = .ok (.iload_n 3, 1) := by decide +kernel
theorem dX3_dealFrom_56 : decode cX3_dealFrom 56 = .ok (.invokevirtual 29, 3) := by decide +kernel
theorem dX3_dealFrom_59 : decode cX3_dealFrom 59 = .ok (.ifCond .eq 5, 3) := by decide +kernel
theorem dX3_dealFrom_62 : decode cX3_dealFrom 62 = .ok (.iconst 1, 1) := by decide +kernel
theorem dX3_dealFrom_63 : decode cX3_dealFrom 63 = .ok (.ireturn, 1) := by decide +kernel
theorem dX3_dealFrom_64 : decode cX3_dealFrom 64 = .ok (.iinc 4 1, 3) := by decide +kernel
theorem dX3_dealFrom_67 : decode cX3_dealFrom 67 = .ok (.goto (-54), 3) := by decide +kernel
theorem dX3_dealFrom_70 : decode cX3_dealFrom 70 = .ok (.iconst 0, 1) := by decide +kernel
theorem dX3_dealFrom_71 : decode cX3_dealFrom 71 = .ok (.ireturn, 1) := by decide +kernel
theorem dX3_canTake_0 : decode cX3_canTake 0 = .ok (.iconst 0, 1) := by decide +kernel
theorem dX3_canTake_1 : decode cX3_canTake 1 = .ok (.istore_n 3, 1) := by decide +kernel
theorem dX3_canTake_2 : decode cX3_canTake 2 = .ok (.iload_n 3, 1) := by decide +kernel
theorem dX3_canTake_3 : decode cX3_canTake 3 = .ok (.iload_n 1, 1) := by decide +kernel
theorem dX3_canTake_4 : decode cX3_canTake 4 = .ok (.if_icmp .ge 30, 3) := by decide +kernel
theorem dX3_canTake_7 : decode cX3_canTake 7 = .ok (.aload_n 0, 1) := by decide +kernel
theorem dX3_canTake_8 : decode cX3_canTake 8 = .ok (.getfield 18, 3) := by decide +kernel
theorem dX3_canTake_11 : decode cX3_canTake 11 = .ok (.iload_n 3, 1) := by decide +kernel
theorem dX3_canTake_12 : decode cX3_canTake 12 = .ok (.iaload, 1) := by decide +kernel
theorem dX3_canTake_13 : decode cX3_canTake 13 = .ok (.iload_n 2, 1) := by decide +kernel
theorem dX3_canTake_14 : decode cX3_canTake 14 = .ok (.if_icmp .ne 14, 3) := by decide +kernel
theorem dX3_canTake_17 : decode cX3_canTake 17 = .ok (.aload_n 0, 1) := by decide +kernel
theorem dX3_canTake_18 : decode cX3_canTake 18 = .ok (.iload_n 1, 1) := by decide +kernel
theorem dX3_canTake_19 : decode cX3_canTake 19 = .ok (.iload_n 3, 1) := by decide +kernel
theorem dX3_canTake_20 : decode cX3_canTake 20 = .ok (.invokevirtual 25, 3) := by decide +kernel
theorem dX3_canTake_23 : decode cX3_canTake 23 = .ok (.ifCond .ne 5, 3) := by decide +kernel
theorem dX3_canTake_26 : decode cX3_canTake 26 = .ok (.iconst 0, 1) := by decide +kernel
theorem dX3_canTake_27 : decode cX3_canTake 27 = .ok (.ireturn, 1) := by decide +kernel
theorem dX3_canTake_28 : decode cX3_canTake 28 = .ok (.iinc 3 1, 3) := by decide +kernel
theorem dX3_canTake_31 : decode cX3_canTake 31 = .ok (.goto (-29), 3) := by decide +kernel
theorem dX3_canTake_34 : decode cX3_canTake 34 = .ok (.iconst 1, 1) := by decide +kernel
theorem dX3_canTake_35 : decode cX3_canTake 35 = .ok (.ireturn, 1) := by decide +kernel
theorem dX3_canMeet_0 : decode cX3_canMeet 0 = .ok (.aload_n 0, 1) := by decide +kernel
theorem dX3_canMeet_1 : decode cX3_canMeet 1 = .ok (.getfield 9, 3) := by decide +kernel
theorem dX3_canMeet_4 : decode cX3_canMeet 4 = .ok (.iload_n 1, 1) := by decide +kernel
theorem dX3_canMeet_5 : decode cX3_canMeet 5 = .ok (.iaload, 1) := by decide +kernel
theorem dX3_canMeet_6 : decode cX3_canMeet 6 = .ok (.aload_n 0, 1) := by decide +kernel
theorem dX3_canMeet_7 : decode cX3_canMeet 7 = .ok (.getfield 15, 3) := by decide +kernel
theorem dX3_canMeet_10 : decode cX3_canMeet 10 = .ok (.iload_n 2, 1) := by decide +kernel
theorem dX3_canMeet_11 : decode cX3_canMeet 11 = .ok (.iaload, 1) := by decide +kernel
theorem dX3_canMeet_12 : decode cX3_canMeet 12 = .ok (.iand, 1) := by decide +kernel
theorem dX3_canMeet_13 : decode cX3_canMeet 13 = .ok (.ifCond .ne 23, 3) := by decide +kernel
theorem dX3_canMeet_16 : decode cX3_canMeet 16 = .ok (.aload_n 0, 1) := by decide +kernel
theorem dX3_canMeet_17 : decode cX3_canMeet 17 = .ok (.getfield 9, 3) := by decide +kernel
theorem dX3_canMeet_20 : decode cX3_canMeet 20 = .ok (.iload_n 2, 1) := by decide +kernel
theorem dX3_canMeet_21 : decode cX3_canMeet 21 = .ok (.iaload, 1) := by decide +kernel
theorem dX3_canMeet_22 : decode cX3_canMeet 22 = .ok (.aload_n 0, 1) := by decide +kernel
theorem dX3_canMeet_23 : decode cX3_canMeet 23 = .ok (.getfield 15, 3) := by decide +kernel
theorem dX3_canMeet_26 : decode cX3_canMeet 26 = .ok (.iload_n 1, 1) := by decide +kernel
theorem dX3_canMeet_27 : decode cX3_canMeet 27 = .ok (.iaload, 1) := by decide +kernel
theorem dX3_canMeet_28 : decode cX3_canMeet 28 = .ok (.iand, 1) := by decide +kernel
theorem dX3_canMeet_29 : decode cX3_canMeet 29 = .ok (.ifCond .ne 7, 3) := by decide +kernel
theorem dX3_canMeet_32 : decode cX3_canMeet 32 = .ok (.iconst 1, 1) := by decide +kernel
theorem dX3_canMeet_33 : decode cX3_canMeet 33 = .ok (.goto 4, 3) := by decide +kernel
theorem dX3_canMeet_36 : decode cX3_canMeet 36 = .ok (.iconst 0, 1) := by decide +kernel
theorem dX3_canMeet_37 : decode cX3_canMeet 37 = .ok (.ireturn, 1) := by decide +kernel
theorem dX4_init_0 : decode cX4_init 0 = .ok (.aload_n 0, 1) := by decide +kernel
theorem dX4_init_1 : decode cX4_init 1 = .ok (.invokespecial 3, 3) := by decide +kernel
theorem dX4_init_4 : decode cX4_init 4 = .ok (.aload_n 0, 1) := by decide +kernel
theorem dX4_init_5 : decode cX4_init 5 = .ok (.bipush 8, 2) := by decide +kernel
theorem dX4_init_7 : decode cX4_init 7 = .ok (.newarray .int, 2) := by decide +kernel
theorem dX4_init_9 : decode cX4_init 9 = .ok (.putfield 9, 3) := by decide +kernel
theorem dX4_init_12 : decode cX4_init 12 = .ok (.aload_n 0, 1) := by decide +kernel
theorem dX4_init_13 : decode cX4_init 13 = .ok (.bipush 8, 2) := by decide +kernel
theorem dX4_init_15 : decode cX4_init 15 = .ok (.newarray .int, 2) := by decide +kernel
theorem dX4_init_17 : decode cX4_init 17 = .ok (.putfield 15, 3) := by decide +kernel
theorem dX4_init_20 : decode cX4_init 20 = .ok (.aload_n 0, 1) := by decide +kernel
theorem dX4_init_21 : decode cX4_init 21 = .ok (.aload_n 1, 1) := by decide +kernel
theorem dX4_init_22 : decode cX4_init 22 = .ok (.putfield 18, 3) := by decide +kernel
theorem dX4_init_25 : decode cX4_init 25 = .ok (.return_, 1) := by decide +kernel
theorem dX4_leavesBelow_0 : decode cX4_leavesBelow 0 = .ok (.iload 4, 2) := by decide +kernel
theorem dX4_leavesBelow_2 : decode cX4_leavesBelow 2 = .ok (.iconst 4, 1) := by decide +kernel
theorem dX4_leavesBelow_3 : decode cX4_leavesBelow 3 = .ok (.if_icmp .ge 13, 3) := by decide +kernel
theorem dX4_leavesBelow_6 : decode cX4_leavesBelow 6 = .ok (.aload_n 0, 1) := by decide +kernel
theorem dX4_leavesBelow_7 : decode cX4_leavesBelow 7 = .ok (.iload_n 1, 1) := by decide +kernel
theorem dX4_leavesBelow_8 : decode cX4_leavesBelow 8 = .ok (.iload_n 2, 1) := by decide +kernel
theorem dX4_leavesBelow_9 : decode cX4_leavesBelow 9 = .ok (.iload_n 3, 1) := by decide +kernel
theorem dX4_leavesBelow_10 : decode cX4_leavesBelow 10 = .ok (.invokevirtual 22, 3) := by decide +kernel
theorem dX4_leavesBelow_13 : decode cX4_leavesBelow 13 = .ok (.goto 4, 3) := by decide +kernel
theorem dX4_leavesBelow_16 : decode cX4_leavesBelow 16 = .ok (.iconst (-1), 1) := by decide +kernel
theorem dX4_leavesBelow_17 : decode cX4_leavesBelow 17 = .ok (.istore 5, 2) := by decide +kernel
theorem dX4_leavesBelow_19 : decode cX4_leavesBelow 19 = .ok (.iload 5, 2) := by decide +kernel
theorem dX4_leavesBelow_21 : decode cX4_leavesBelow 21 = .ok (.iconst (-1), 1) := by decide +kernel
theorem dX4_leavesBelow_22 : decode cX4_leavesBelow 22 = .ok (.if_icmp .ne 5, 3) := by decide +kernel
theorem dX4_leavesBelow_25 : decode cX4_leavesBelow 25 = .ok (.iconst 1, 1) := by decide +kernel
theorem dX4_leavesBelow_26 : decode cX4_leavesBelow 26 = .ok (.ireturn, 1) := by decide +kernel
theorem dX4_leavesBelow_27 : decode cX4_leavesBelow 27 = .ok (.iconst 1, 1) := by decide +kernel
theorem dX4_leavesBelow_28 : decode cX4_leavesBelow 28 = .ok (.iload 5, 2) := by decide +kernel
theorem dX4_leavesBelow_30 : decode cX4_leavesBelow 30 = .ok (.ishl, 1) := by decide +kernel
theorem dX4_leavesBelow_31 : decode cX4_leavesBelow 31 = .ok (.istore 6, 2) := by decide +kernel
theorem dX4_leavesBelow_33 : decode cX4_leavesBelow 33 = .ok (.aload_n 0, 1) := by decide +kernel
theorem dX4_leavesBelow_34 : decode cX4_leavesBelow 34 = .ok (.iload_n 1, 1) := by decide +kernel
theorem dX4_leavesBelow_35 : decode cX4_leavesBelow 35 = .ok (.iload_n 2, 1) := by decide +kernel
theorem dX4_leavesBelow_36 : decode cX4_leavesBelow 36 = .ok (.iload 6, 2) := by decide +kernel
theorem dX4_leavesBelow_38 : decode cX4_leavesBelow 38 = .ok (.ior, 1) := by decide +kernel
theorem dX4_leavesBelow_39 : decode cX4_leavesBelow 39 = .ok (.iload_n 3, 1) := by decide +kernel
theorem dX4_leavesBelow_40 : decode cX4_leavesBelow 40 = .ok (.iload 4, 2) := by decide +kernel
theorem dX4_leavesBelow_42 : decode cX4_leavesBelow 42 = .ok (.iconst 1, 1) := by decide +kernel
theorem dX4_leavesBelow_43 : decode cX4_leavesBelow 43 = .ok (.iadd, 1) := by decide +kernel
theorem dX4_leavesBelow_44 : decode cX4_leavesBelow 44 = .ok (.invokevirtual 26, 3) := by decide +kernel
theorem dX4_leavesBelow_47 : decode cX4_leavesBelow 47 = .ok (.aload_n 0, 1) := by decide +kernel
theorem dX4_leavesBelow_48 : decode cX4_leavesBelow 48 = .ok (.iload_n 1, 1) := by decide +kernel
theorem dX4_leavesBelow_49 : decode cX4_leavesBelow 49 = .ok (.iload_n 2, 1) := by decide +kernel
theorem dX4_leavesBelow_50 : decode cX4_leavesBelow 50 = .ok (.iload 6, 2) := by decide +kernel
theorem dX4_leavesBelow_52 : decode cX4_leavesBelow 52 = .ok (.ior, 1) := by decide +kernel
theorem dX4_leavesBelow_53 : decode cX4_leavesBelow 53 = .ok (.iload_n 3, 1) := by decide +kernel
theorem dX4_leavesBelow_54 : decode cX4_leavesBelow 54 = .ok (.iload 6, 2) := by decide +kernel
theorem dX4_leavesBelow_56 : decode cX4_leavesBelow 56 = .ok (.ior, 1) := by decide +kernel
theorem dX4_leavesBelow_57 : decode cX4_leavesBelow 57 = .ok (.iload 4, 2) := by decide +kernel
theorem dX4_leavesBelow_59 : decode cX4_leavesBelow 59 = .ok (.iconst 1, 1) := by decide +kernel
theorem dX4_leavesBelow_60 : decode cX4_leavesBelow 60 = .ok (.iadd, 1) := by decide +kernel
theorem dX4_leavesBelow_61 : decode cX4_leavesBelow 61 = .ok (.invokevirtual 26, 3) := by decide +kernel
theorem dX4_leavesBelow_64 : decode cX4_leavesBelow 64 = .ok (.iadd, 1) := by decide +kernel
theorem dX4_leavesBelow_65 : decode cX4_leavesBelow 65 = .ok (.ireturn, 1) := by decide +kernel
theorem dX4_markOnTheWay_0 : decode cX4_markOnTheWay 0 = .ok (.iload_n 3, 1) := by decide +kernel
theorem dX4_markOnTheWay_1 : decode cX4_markOnTheWay 1 = .ok (.ifCond .lt 8, 3) := by decide +kernel
theorem dX4_markOnTheWay_4 : decode cX4_markOnTheWay 4 = .ok (.iload_n 3, 1) := by decide +kernel
theorem dX4_markOnTheWay_5 : decode cX4_markOnTheWay 5 = .ok (.iconst 4, 1) := by decide +kernel
theorem dX4_markOnTheWay_6 : decode cX4_markOnTheWay 6 = .ok (.if_icmp .lt 5, 3) := by decide +kernel
theorem dX4_markOnTheWay_9 : decode cX4_markOnTheWay 9 = .ok (.iconst (-1), 1) := by decide +kernel
theorem dX4_markOnTheWay_10 : decode cX4_markOnTheWay 10 = .ok (.ireturn, 1) := by decide +kernel
theorem dX4_markOnTheWay_11 : decode cX4_markOnTheWay 11 = .ok (.iconst 0, 1) := by decide +kernel
theorem dX4_markOnTheWay_12 : decode cX4_markOnTheWay 12 = .ok (.istore 4, 2) := by decide +kernel
theorem dX4_markOnTheWay_14 : decode cX4_markOnTheWay 14 = .ok (.iconst 0, 1) := by decide +kernel
theorem dX4_markOnTheWay_15 : decode cX4_markOnTheWay 15 = .ok (.istore 5, 2) := by decide +kernel
theorem dX4_markOnTheWay_17 : decode cX4_markOnTheWay 17 = .ok (.iload 5, 2) := by decide +kernel
theorem dX4_markOnTheWay_19 : decode cX4_markOnTheWay 19 = .ok (.iload_n 3, 1) := by decide +kernel
theorem dX4_markOnTheWay_20 : decode cX4_markOnTheWay 20 = .ok (.if_icmp .ge 36, 3) := by decide +kernel
theorem dX4_markOnTheWay_23 : decode cX4_markOnTheWay 23 = .ok (.aload_n 0, 1) := by decide +kernel
theorem dX4_markOnTheWay_24 : decode cX4_markOnTheWay 24 = .ok (.iload_n 1, 1) := by decide +kernel
theorem dX4_markOnTheWay_25 : decode cX4_markOnTheWay 25 = .ok (.iload 4, 2) := by decide +kernel
theorem dX4_markOnTheWay_27 : decode cX4_markOnTheWay 27 = .ok (.iload_n 2, 1) := by decide +kernel
theorem dX4_markOnTheWay_28 : decode cX4_markOnTheWay 28 = .ok (.invokevirtual 22, 3) := by decide +kernel
theorem dX4_markOnTheWay_31 : decode cX4_markOnTheWay 31 = .ok (.istore 6, 2) := by decide +kernel
theorem dX4_markOnTheWay_33 : decode cX4_markOnTheWay 33 = .ok (.iload 6, 2) := by decide +kernel
theorem dX4_markOnTheWay_35 : decode cX4_markOnTheWay 35 = .ok (.iconst (-1), 1) := by decide +kernel
theorem dX4_markOnTheWay_36 : decode cX4_markOnTheWay 36 = .ok (.if_icmp .ne 5, 3) := by decide +kernel
theorem dX4_markOnTheWay_39 : decode cX4_markOnTheWay 39 = .ok (.iconst (-1), 1) := by decide +kernel
theorem dX4_markOnTheWay_40 : decode cX4_markOnTheWay 40 = .ok (.ireturn, 1) := by decide +kernel
theorem dX4_markOnTheWay_41 : decode cX4_markOnTheWay 41 = .ok (.iload 4, 2) := by decide +kernel
theorem dX4_markOnTheWay_43 : decode cX4_markOnTheWay 43 = .ok (.iconst 1, 1) := by decide +kernel
theorem dX4_markOnTheWay_44 : decode cX4_markOnTheWay 44 = .ok (.iload 6, 2) := by decide +kernel
theorem dX4_markOnTheWay_46 : decode cX4_markOnTheWay 46 = .ok (.ishl, 1) := by decide +kernel
theorem dX4_markOnTheWay_47 : decode cX4_markOnTheWay 47 = .ok (.ior, 1) := by decide +kernel
theorem dX4_markOnTheWay_48 : decode cX4_markOnTheWay 48 = .ok (.istore 4, 2) := by decide +kernel
theorem dX4_markOnTheWay_50 : decode cX4_markOnTheWay 50 = .ok (.iinc 5 1, 3) := by decide +kernel
theorem dX4_markOnTheWay_53 : decode cX4_markOnTheWay 53 = .ok (.goto (-36), 3) := by decide +kernel
theorem dX4_markOnTheWay_56 : decode cX4_markOnTheWay 56 = .ok (.aload_n 0, 1) := by decide +kernel
theorem dX4_markOnTheWay_57 : decode cX4_markOnTheWay 57 = .ok (.iload_n 1, 1) := by decide +kernel
theorem dX4_markOnTheWay_58 : decode cX4_markOnTheWay 58 = .ok (.iload 4, 2) := by decide +kernel
theorem dX4_markOnTheWay_60 : decode cX4_markOnTheWay 60 = .ok (.iload_n 2, 1) := by decide +kernel
theorem dX4_markOnTheWay_61 : decode cX4_markOnTheWay 61 = .ok (.invokevirtual 22, 3) := by decide +kernel
theorem dX4_markOnTheWay_64 : decode cX4_markOnTheWay 64 = .ok (.ireturn, 1) := by decide +kernel
theorem dX4_askedOnTheWay_0 : decode cX4_askedOnTheWay 0 = .ok (.iconst 0, 1) := by decide +kernel
theorem dX4_askedOnTheWay_1 : decode cX4_askedOnTheWay 1 = .ok (.istore_n 3, 1) := by decide +kernel
theorem dX4_askedOnTheWay_2 : decode cX4_askedOnTheWay 2 = .ok (.iconst 0, 1) := by decide +kernel
theorem dX4_askedOnTheWay_3 : decode cX4_askedOnTheWay 3 = .ok (.istore 4, 2) := by decide +kernel
theorem dX4_askedOnTheWay_5 : decode cX4_askedOnTheWay 5 = .ok (.iload 4, 2) := by decide +kernel
theorem dX4_askedOnTheWay_7 : decode cX4_askedOnTheWay 7 = .ok (.iconst 4, 1) := by decide +kernel
theorem dX4_askedOnTheWay_8 : decode cX4_askedOnTheWay 8 = .ok (.if_icmp .ge 33, 3) := by decide +kernel
theorem dX4_askedOnTheWay_11 : decode cX4_askedOnTheWay 11 = .ok (.aload_n 0, 1) := by decide +kernel
theorem dX4_askedOnTheWay_12 : decode cX4_askedOnTheWay 12 = .ok (.iload_n 1, 1) := by decide +kernel
theorem dX4_askedOnTheWay_13 : decode cX4_askedOnTheWay 13 = .ok (.iload_n 3, 1) := by decide +kernel
theorem dX4_askedOnTheWay_14 : decode cX4_askedOnTheWay 14 = .ok (.iload_n 2, 1) := by decide +kernel
theorem dX4_askedOnTheWay_15 : decode cX4_askedOnTheWay 15 = .ok (.invokevirtual 22, 3) := by decide +kernel
theorem dX4_askedOnTheWay_18 : decode cX4_askedOnTheWay 18 = .ok (.istore 5, 2) := by decide +kernel
theorem dX4_askedOnTheWay_20 : decode cX4_askedOnTheWay 20 = .ok (.iload 5, 2) := by decide +kernel
theorem dX4_askedOnTheWay_22 : decode cX4_askedOnTheWay 22 = .ok (.iconst (-1), 1) := by decide +kernel
theorem dX4_askedOnTheWay_23 : decode cX4_askedOnTheWay 23 = .ok (.if_icmp .ne 5, 3) := by decide +kernel
theorem dX4_askedOnTheWay_26 : decode cX4_askedOnTheWay 26 = .ok (.iload_n 3, 1) := by decide +kernel
theorem dX4_askedOnTheWay_27 : decode cX4_askedOnTheWay 27 = .ok (.ireturn, 1) := by decide +kernel
theorem dX4_askedOnTheWay_28 : decode cX4_askedOnTheWay 28 = .ok (.iload_n 3, 1) := by decide +kernel
theorem dX4_askedOnTheWay_29 : decode cX4_askedOnTheWay 29 = .ok (.iconst 1, 1) := by decide +kernel
theorem dX4_askedOnTheWay_30 : decode cX4_askedOnTheWay 30 = .ok (.iload 5, 2) := by decide +kernel
theorem dX4_askedOnTheWay_32 : decode cX4_askedOnTheWay 32 = .ok (.ishl, 1) := by decide +kernel
theorem dX4_askedOnTheWay_33 : decode cX4_askedOnTheWay 33 = .ok (.ior, 1) := by decide +kernel
theorem dX4_askedOnTheWay_34 : decode cX4_askedOnTheWay 34 = .ok (.istore_n 3, 1) := by decide +kernel
theorem dX4_askedOnTheWay_35 : decode cX4_askedOnTheWay 35 = .ok (.iinc 4 1, 3) := by decide +kernel
theorem dX4_askedOnTheWay_38 : decode cX4_askedOnTheWay 38 = .ok (.goto (-33), 3) := by decide +kernel
theorem dX4_askedOnTheWay_41 : decode cX4_askedOnTheWay 41 = .ok (.iload_n 3, 1) := by decide +kernel
theorem dX4_askedOnTheWay_42 : decode cX4_askedOnTheWay 42 = .ok (.ireturn, 1) := by decide +kernel
theorem dX4_markThatParts_0 : decode cX4_markThatParts 0 = .ok (.aload_n 0, 1) := by decide +kernel
theorem dX4_markThatParts_1 : decode cX4_markThatParts 1 = .ok (.iload_n 1, 1) := by decide +kernel
theorem dX4_markThatParts_2 : decode cX4_markThatParts 2 = .ok (.iload_n 2, 1) := by decide +kernel
theorem dX4_markThatParts_3 : decode cX4_markThatParts 3 = .ok (.iload_n 3, 1) := by decide +kernel
theorem dX4_markThatParts_4 : decode cX4_markThatParts 4 = .ok (.invokevirtual 30, 3) := by decide +kernel
theorem dX4_markThatParts_7 : decode cX4_markThatParts 7 = .ok (.iconst (-1), 1) := by decide +kernel
theorem dX4_markThatParts_8 : decode cX4_markThatParts 8 = .ok (.istore 4, 2) := by decide +kernel
theorem dX4_markThatParts_10 : decode cX4_markThatParts 10 = .ok (.lconst 0, 1) := by decide +kernel
theorem dX4_markThatParts_11 : decode cX4_markThatParts 11 = .ok (.lstore 5, 2) := by decide +kernel
theorem dX4_markThatParts_13 : decode cX4_markThatParts 13 = .ok (.lconst 1, 1) := by decide +kernel
theorem dX4_markThatParts_14 : decode cX4_markThatParts 14 = .ok (.lstore 7, 2) := by decide +kernel
theorem dX4_markThatParts_16 : decode cX4_markThatParts 16 = .ok (.iconst 0, 1) := by decide +kernel
theorem dX4_markThatParts_17 : decode cX4_markThatParts 17 = .ok (.istore 9, 2) := by decide +kernel
theorem dX4_markThatParts_19 : decode cX4_markThatParts 19 = .ok (.iload 9, 2) := by decide +kernel
theorem dX4_markThatParts_21 : decode cX4_markThatParts 21 = .ok (.bipush 8, 2) := by decide +kernel
theorem dX4_markThatParts_23 : decode cX4_markThatParts 23 = .ok (.if_icmp .ge 144, 3) := by decide +kernel
theorem dX4_markThatParts_26 : decode cX4_markThatParts 26 = .ok (.aload_n 0, 1) := by decide +kernel
theorem dX4_markThatParts_27 : decode cX4_markThatParts 27 = .ok (.getfield 34, 3) := by decide +kernel
theorem dX4_markThatParts_30 : decode cX4_markThatParts 30 = .ok (.aload_n 0, 1) := by decide +kernel
theorem dX4_markThatParts_31 : decode cX4_markThatParts 31 = .ok (.getfield 9, 3) := by decide +kernel
theorem dX4_markThatParts_34 : decode cX4_markThatParts 34 = .ok (.iload 9, 2) := by decide +kernel
theorem dX4_markThatParts_36 : decode cX4_markThatParts 36 = .ok (.iaload, 1) := by decide +kernel
theorem dX4_markThatParts_37 : decode cX4_markThatParts 37 = .ok (.isub, 1) := by decide +kernel
theorem dX4_markThatParts_38 : decode cX4_markThatParts 38 = .ok (.istore 10, 2) := by decide +kernel
theorem dX4_markThatParts_40 : decode cX4_markThatParts 40 = .ok (.iload_n 2, 1) := by decide +kernel
theorem dX4_markThatParts_41 : decode cX4_markThatParts 41 = .ok (.iload 9, 2) := by decide +kernel
theorem dX4_markThatParts_43 : decode cX4_markThatParts 43 = .ok (.ishr, 1) := by decide +kernel
theorem dX4_markThatParts_44 : decode cX4_markThatParts 44 = .ok (.iconst 1, 1) := by decide +kernel
theorem dX4_markThatParts_45 : decode cX4_markThatParts 45 = .ok (.iand, 1) := by decide +kernel
theorem dX4_markThatParts_46 : decode cX4_markThatParts 46 = .ok (.ifCond .eq 7, 3) := by decide +kernel
theorem dX4_markThatParts_49 : decode cX4_markThatParts 49 = .ok (.iconst 1, 1) := by decide +kernel
theorem dX4_markThatParts_50 : decode cX4_markThatParts 50 = .ok (.goto 4, 3) := by decide +kernel
theorem dX4_markThatParts_53 : decode cX4_markThatParts 53 = .ok (.iconst 0, 1) := by decide +kernel
theorem dX4_markThatParts_54 : decode cX4_markThatParts 54 = .ok (.istore 11, 2) := by decide +kernel
theorem dX4_markThatParts_56 : decode cX4_markThatParts 56 = .ok (.iload 11, 2) := by decide +kernel
theorem dX4_markThatParts_58 : decode cX4_markThatParts 58 = .ok (.ifCond .ne 103, 3) := by decide +kernel
theorem dX4_markThatParts_61 : decode cX4_markThatParts 61 = .ok (.aload_n 0, 1) := by decide +kernel
theorem dX4_markThatParts_62 : decode cX4_markThatParts 62 = .ok (.getfield 9, 3) := by decide +kernel
theorem dX4_markThatParts_65 : decode cX4_markThatParts 65 = .ok (.iload 9, 2) := by decide +kernel
theorem dX4_markThatParts_67 : decode cX4_markThatParts 67 = .ok (.iaload, 1) := by decide +kernel
theorem dX4_markThatParts_68 : decode cX4_markThatParts 68 = .ok (.iload 10, 2) := by decide +kernel
theorem dX4_markThatParts_70 : decode cX4_markThatParts 70 = .ok (.invokestatic 38, 3) := by decide +kernel
theorem dX4_markThatParts_73 : decode cX4_markThatParts 73 = .ok (.iconst 2, 1) := by decide +kernel
theorem dX4_markThatParts_74 : decode cX4_markThatParts 74 = .ok (.if_icmp .lt 87, 3) := by decide +kernel
theorem dX4_markThatParts_77 : decode cX4_markThatParts 77 = .ok (.aload_n 0, 1) := by decide +kernel
theorem dX4_markThatParts_78 : decode cX4_markThatParts 78 = .ok (.getfield 15, 3) := by decide +kernel
theorem dX4_markThatParts_81 : decode cX4_markThatParts 81 = .ok (.iload 9, 2) := by decide +kernel
theorem dX4_markThatParts_83 : decode cX4_markThatParts 83 = .ok (.iaload, 1) := by decide +kernel
theorem dX4_markThatParts_84 : decode cX4_markThatParts 84 = .ok (.i2l, 1) := by decide +kernel
theorem dX4_markThatParts_85 : decode cX4_markThatParts 85 = .ok (.iload 10, 2) := by decide +kernel
theorem dX4_markThatParts_87 : decode cX4_markThatParts 87 = .ok (.i2l, 1) := by decide +kernel
theorem dX4_markThatParts_88 : decode cX4_markThatParts 88 = .ok (.lmul, 1) := by decide +kernel
theorem dX4_markThatParts_89 : decode cX4_markThatParts 89 = .ok (.aload_n 0, 1) := by decide +kernel
theorem dX4_markThatParts_90 : decode cX4_markThatParts 90 = .ok (.getfield 44, 3) := by decide +kernel
theorem dX4_markThatParts_93 : decode cX4_markThatParts 93 = .ok (.aload_n 0, 1) := by decide +kernel
theorem dX4_markThatParts_94 : decode cX4_markThatParts 94 = .ok (.getfield 15, 3) := by decide +kernel
theorem dX4_markThatParts_97 : decode cX4_markThatParts 97 = .ok (.iload 9, 2) := by decide +kernel
theorem dX4_markThatParts_99 : decode cX4_markThatParts 99 = .ok (.iaload, 1) := by decide +kernel
theorem dX4_markThatParts_100 : decode cX4_markThatParts 100 = .ok (.isub, 1) := by decide +kernel
theorem dX4_markThatParts_101 : decode cX4_markThatParts 101 = .ok (.i2l, 1) := by decide +kernel
theorem dX4_markThatParts_102 : decode cX4_markThatParts 102 = .ok (.aload_n 0, 1) := by decide +kernel
theorem dX4_markThatParts_103 : decode cX4_markThatParts 103 = .ok (.getfield 9, 3) := by decide +kernel
theorem dX4_markThatParts_106 : decode cX4_markThatParts 106 = .ok (.iload 9, 2) := by decide +kernel
theorem dX4_markThatParts_108 : decode cX4_markThatParts 108 = .ok (.iaload, 1) := by decide +kernel
theorem dX4_markThatParts_109 : decode cX4_markThatParts 109 = .ok (.i2l, 1) := by decide +kernel
theorem dX4_markThatParts_110 : decode cX4_markThatParts 110 = .ok (.lmul, 1) := by decide +kernel
theorem dX4_markThatParts_111 : decode cX4_markThatParts 111 = .ok (.lsub, 1) := by decide +kernel
theorem dX4_markThatParts_112 : decode cX4_markThatParts 112 = .ok (.lstore 12, 2) := by decide +kernel
theorem dX4_markThatParts_114 : decode cX4_markThatParts 114 = .ok (.lload 12, 2) := by decide +kernel
theorem dX4_markThatParts_116 : decode cX4_markThatParts 116 = .ok (.lload 12, 2) := by decide +kernel
theorem dX4_markThatParts_118 : decode cX4_markThatParts 118 = .ok (.lmul, 1) := by decide +kernel
theorem dX4_markThatParts_119 : decode cX4_markThatParts 119 = .ok (.lstore 14, 2) := by decide +kernel
theorem dX4_markThatParts_121 : decode cX4_markThatParts 121 = .ok (.aload_n 0, 1) := by decide +kernel
theorem dX4_markThatParts_122 : decode cX4_markThatParts 122 = .ok (.getfield 9, 3) := by decide +kernel
theorem dX4_markThatParts_125 : decode cX4_markThatParts 125 = .ok (.iload 9, 2) := by decide +kernel
theorem dX4_markThatParts_127 : decode cX4_markThatParts 127 = .ok (.iaload, 1) := by decide +kernel
theorem dX4_markThatParts_128 : decode cX4_markThatParts 128 = .ok (.i2l, 1) := by decide +kernel
theorem dX4_markThatParts_129 : decode cX4_markThatParts 129 = .ok (.iload 10, 2) := by decide +kernel
theorem dX4_markThatParts_131 : decode cX4_markThatParts 131 = .ok (.i2l, 1) := by decide +kernel
theorem dX4_markThatParts_132 : decode cX4_markThatParts 132 = .ok (.lmul, 1) := by decide +kernel
theorem dX4_markThatParts_133 : decode cX4_markThatParts 133 = .ok (.lstore 16, 2) := by decide +kernel
theorem dX4_markThatParts_135 : decode cX4_markThatParts 135 = .ok (.lload 14, 2) := by decide +kernel
theorem dX4_markThatParts_137 : decode cX4_markThatParts 137 = .ok (.lload 7, 2) := by decide +kernel
theorem dX4_markThatParts_139 : decode cX4_markThatParts 139 = .ok (.lmul, 1) := by decide +kernel
theorem dX4_markThatParts_140 : decode cX4_markThatParts 140 = .ok (.lload 5, 2) := by decide +kernel
theorem dX4_markThatParts_142 : decode cX4_markThatParts 142 = .ok (.lload 16, 2) := by decide +kernel
theorem dX4_markThatParts_144 : decode cX4_markThatParts 144 = .ok (.lmul, 1) := by decide +kernel
theorem dX4_markThatParts_145 : decode cX4_markThatParts 145 = .ok (.lcmp, 1) := by decide +kernel
theorem dX4_markThatParts_146 : decode cX4_markThatParts 146 = .ok (.ifCond .le 15, 3) := by decide +kernel
theorem dX4_markThatParts_149 : decode cX4_markThatParts 149 = .ok (.iload 9, 2) := by decide +kernel
theorem dX4_markThatParts_151 : decode cX4_markThatParts 151 = .ok (.istore 4, 2) := by decide +kernel
theorem dX4_markThatParts_153 : decode cX4_markThatParts 153 = .ok (.lload 14, 2) := by decide +kernel
theorem dX4_markThatParts_155 : decode cX4_markThatParts 155 = .ok (.lstore 5, 2) := by decide +kernel
theorem dX4_markThatParts_157 : decode cX4_markThatParts 157 = .ok (.lload 16, 2) := by decide +kernel
theorem dX4_markThatParts_159 : decode cX4_markThatParts 159 = .ok (.lstore 7, 2) := by decide +kernel
theorem dX4_markThatParts_161 : decode cX4_markThatParts 161 = .ok (.iinc 9 1, 3) := by decide +kernel
theorem dX4_markThatParts_164 : decode cX4_markThatParts 164 = .ok (.goto (-145), 3) := by decide +kernel
theorem dX4_markThatParts_167 : decode cX4_markThatParts 167 = .ok (.iload 4, 2) := by decide +kernel
theorem dX4_markThatParts_169 : decode cX4_markThatParts 169 = .ok (.ireturn, 1) := by decide +kernel
theorem dX4_readKnot_0 : decode cX4_readKnot 0 = .ok (.aload_n 0, 1) := by decide +kernel
theorem dX4_readKnot_1 : decode cX4_readKnot 1 = .ok (.iconst 0, 1) := by decide +kernel
theorem dX4_readKnot_2 : decode cX4_readKnot 2 = .ok (.putfield 34, 3) := by decide +kernel
theorem dX4_readKnot_5 : decode cX4_readKnot 5 = .ok (.aload_n 0, 1) := by decide +kernel
theorem dX4_readKnot_6 : decode cX4_readKnot 6 = .ok (.iconst 0, 1) := by decide +kernel
theorem dX4_readKnot_7 : decode cX4_readKnot 7 = .ok (.putfield 44, 3) := by decide +kernel
theorem dX4_readKnot_10 : decode cX4_readKnot 10 = .ok (.aload_n 0, 1) := by decide +kernel
theorem dX4_readKnot_11 : decode cX4_readKnot 11 = .ok (.getfield 9, 3) := by decide +kernel
theorem dX4_readKnot_14 : decode cX4_readKnot 14 = .ok (.iconst 0, 1) := by decide +kernel
theorem dX4_readKnot_15 : decode cX4_readKnot 15 = .ok (.invokestatic 47, 3) := by decide +kernel
theorem dX4_readKnot_18 : decode cX4_readKnot 18 = .ok (.aload_n 0, 1) := by decide +kernel
theorem dX4_readKnot_19 : decode cX4_readKnot 19 = .ok (.getfield 15, 3) := by decide +kernel
theorem dX4_readKnot_22 : decode cX4_readKnot 22 = .ok (.iconst 0, 1) := by decide +kernel
theorem dX4_readKnot_23 : decode cX4_readKnot 23 = .ok (.invokestatic 47, 3) := by decide +kernel
theorem dX4_readKnot_26 : decode cX4_readKnot 26 = .ok (.iconst 0, 1) := by decide +kernel
theorem dX4_readKnot_27 : decode cX4_readKnot 27 = .ok (.istore 4, 2) := by decide +kernel
theorem dX4_readKnot_29 : decode cX4_readKnot 29 = .ok (.iload 4, 2) := by decide +kernel
theorem dX4_readKnot_31 : decode cX4_readKnot 31 = .ok (.aload_n 0, 1) := by decide +kernel
theorem dX4_readKnot_32 : decode cX4_readKnot 32 = .ok (.getfield 18, 3) := by decide +kernel
theorem dX4_readKnot_35 : decode cX4_readKnot 35 = .ok (.getfield 53, 3) := by decide +kernel
theorem dX4_readKnot_38 : decode cX4_readKnot 38 = .ok (.if_icmp .ge 47, 3) := by decide +kernel
theorem dX4_readKnot_41 : decode cX4_readKnot 41 = .ok (.aload_n 0, 1) := by decide +kernel
theorem dX4_readKnot_42 : decode cX4_readKnot 42 = .ok (.getfield 18, 3) := by decide +kernel
theorem dX4_readKnot_45 : decode cX4_readKnot 45 = .ok (.iload 4, 2) := by decide +kernel
theorem dX4_readKnot_47 : decode cX4_readKnot 47 = .ok (.iload_n 2, 1) := by decide +kernel
theorem dX4_readKnot_48 : decode cX4_readKnot 48 = .ok (.iload_n 3, 1) := by decide +kernel
theorem dX4_readKnot_49 : decode cX4_readKnot 49 = .ok (.invokevirtual 58, 3) := by decide +kernel
theorem dX4_readKnot_52 : decode cX4_readKnot 52 = .ok (.ifCond .eq 27, 3) := by decide +kernel
theorem dX4_readKnot_55 : decode cX4_readKnot 55 = .ok (.aload_n 0, 1) := by decide +kernel
theorem dX4_readKnot_56 : decode cX4_readKnot 56 = .ok (.aload_n 0, 1) := by decide +kernel
theorem dX4_readKnot_57 : decode cX4_readKnot 57 = .ok (.getfield 18, 3) := by decide +kernel
theorem dX4_readKnot_60 : decode cX4_readKnot 60 = .ok (.getfield 62, 3) := by decide +kernel
theorem dX4_readKnot_63 : decode cX4_readKnot 63 = .ok (.iload 4, 2) := by decide +kernel
theorem dX4_readKnot_65 : decode cX4_readKnot 65 = .ok (.iaload, 1) := by decide +kernel
theorem dX4_readKnot_66 : decode cX4_readKnot 66 = .ok (.aload_n 0, 1) := by decide +kernel
theorem dX4_readKnot_67 : decode cX4_readKnot 67 = .ok (.getfield 18, 3) := by decide +kernel
theorem dX4_readKnot_70 : decode cX4_readKnot 70 = .ok (.iload 4, 2) := by decide +kernel
theorem dX4_readKnot_72 : decode cX4_readKnot 72 = .ok (.iload_n 1, 1) := by decide +kernel
theorem dX4_readKnot_73 : decode cX4_readKnot 73 = .ok (.invokevirtual 65, 3) := by decide +kernel
theorem dX4_readKnot_76 : decode cX4_readKnot 76 = .ok (.invokevirtual 68, 3) := by decide +kernel
theorem dX4_readKnot_79 : decode cX4_readKnot 79 = .ok (.iinc 4 1, 3) := by decide +kernel
theorem dX4_readKnot_82 : decode cX4_readKnot 82 = .ok (.goto (-53), 3) := by decide +kernel
theorem dX4_readKnot_85 : decode cX4_readKnot 85 = .ok (.return_, 1) := by decide +kernel
theorem dX4_readDay_0 : decode cX4_readDay 0 = .ok (.aload_n 0, 1) := by decide +kernel
theorem dX4_readDay_1 : decode cX4_readDay 1 = .ok (.dup, 1) := by decide +kernel
theorem dX4_readDay_2 : decode cX4_readDay 2 = .ok (.getfield 34, 3) := by decide +kernel
theorem dX4_readDay_5 : decode cX4_readDay 5 = .ok (.iconst 1, 1) := by decide +kernel
theorem dX4_readDay_6 : decode cX4_readDay 6 = .ok (.iadd, 1) := by decide +kernel
theorem dX4_readDay_7 : decode cX4_readDay 7 = .ok (.putfield 34, 3) := by decide +kernel
theorem dX4_readDay_10 : decode cX4_readDay 10 = .ok (.aload_n 0, 1) := by decide +kernel
theorem dX4_readDay_11 : decode cX4_readDay 11 = .ok (.dup, 1) := by decide +kernel
theorem dX4_readDay_12 : decode cX4_readDay 12 = .ok (.getfield 44, 3) := by decide +kernel
theorem dX4_readDay_15 : decode cX4_readDay 15 = .ok (.iload_n 2, 1) := by decide +kernel
theorem dX4_readDay_16 : decode cX4_readDay 16 = .ok (.iadd, 1) := by decide +kernel
theorem dX4_readDay_17 : decode cX4_readDay 17 = .ok (.putfield 44, 3) := by decide +kernel
theorem dX4_readDay_20 : decode cX4_readDay 20 = .ok (.iconst 0, 1) := by decide +kernel
theorem dX4_readDay_21 : decode cX4_readDay 21 = .ok (.istore_n 3, 1) := by decide +kernel
theorem dX4_readDay_22 : decode cX4_readDay 22 = .ok (.iload_n 3, 1) := by decide +kernel
theorem dX4_readDay_23 : decode cX4_readDay 23 = .ok (.bipush 8, 2) := by decide +kernel
theorem dX4_readDay_25 : decode cX4_readDay 25 = .ok (.if_icmp .ge 37, 3) := by decide +kernel
theorem dX4_readDay_28 : decode cX4_readDay 28 = .ok (.iload_n 1, 1) := by decide +kernel
theorem dX4_readDay_29 : decode cX4_readDay 29 = .ok (.iload_n 3, 1) := by decide +kernel
theorem dX4_readDay_30 : decode cX4_readDay 30 = .ok (.ishr, 1) := by decide +kernel
theorem dX4_readDay_31 : decode cX4_readDay 31 = .ok (.iconst 1, 1) := by decide +kernel
theorem dX4_readDay_32 : decode cX4_readDay 32 = .ok (.iand, 1) := by decide +kernel
theorem dX4_readDay_33 : decode cX4_readDay 33 = .ok (.ifCond .eq 23, 3) := by decide +kernel
theorem dX4_readDay_36 : decode cX4_readDay 36 = .ok (.aload_n 0, 1) := by decide +kernel
theorem dX4_readDay_37 : decode cX4_readDay 37 = .ok (.getfield 9, 3) := by decide +kernel
theorem dX4_readDay_40 : decode cX4_readDay 40 = .ok (.iload_n 3, 1) := by decide +kernel
theorem dX4_readDay_41 : decode cX4_readDay 41 = .ok (.dup2, 1) := by decide +kernel
theorem dX4_readDay_42 : decode cX4_readDay 42 = .ok (.iaload, 1) := by decide +kernel
theorem dX4_readDay_43 : decode cX4_readDay 43 = .ok (.iconst 1, 1) := by decide +kernel
theorem dX4_readDay_44 : decode cX4_readDay 44 = .ok (.iadd, 1) := by decide +kernel
theorem dX4_readDay_45 : decode cX4_readDay 45 = .ok (.iastore, 1) := by decide +kernel
theorem dX4_readDay_46 : decode cX4_readDay 46 = .ok (.aload_n 0, 1) := by decide +kernel
theorem dX4_readDay_47 : decode cX4_readDay 47 = .ok (.getfield 15, 3) := by decide +kernel
theorem dX4_readDay_50 : decode cX4_readDay 50 = .ok (.iload_n 3, 1) := by decide +kernel
theorem dX4_readDay_51 : decode cX4_readDay 51 = .ok (.dup2, 1) := by decide +kernel
theorem dX4_readDay_52 : decode cX4_readDay 52 = .ok (.iaload, 1) := by decide +kernel
theorem dX4_readDay_53 : decode cX4_readDay 53 = .ok (.iload_n 2, 1) := by decide +kernel
theorem dX4_readDay_54 : decode cX4_readDay 54 = .ok (.iadd, 1) := by decide +kernel
theorem dX4_readDay_55 : decode cX4_readDay 55 = .ok (.iastore, 1) := by decide +kernel
theorem dX4_readDay_56 : decode cX4_readDay 56 = .ok (.iinc 3 1, 3) := by decide +kernel
theorem dX4_readDay_59 : decode cX4_readDay 59 = .ok (.goto (-37), 3) := by decide +kernel
theorem dX4_readDay_62 : decode cX4_readDay 62 = .ok (.return_, 1) := by decide +kernel
theorem dX5_init_0 : decode cX5_init 0 = .ok (.aload_n 0, 1) := by decide +kernel
theorem dX5_init_1 : decode cX5_init 1 = .ok (.invokespecial 1, 3) := by decide +kernel
theorem dX5_init_4 : decode cX5_init 4 = .ok (.aload_n 0, 1) := by decide +kernel
theorem dX5_init_5 : decode cX5_init 5 = .ok (.new 7, 3) := by decide +kernel
theorem dX5_init_8 : decode cX5_init 8 = .ok (.dup, 1) := by decide +kernel
theorem dX5_init_9 : decode cX5_init 9 = .ok (.invokespecial 9, 3) := by decide +kernel
theorem dX5_init_12 : decode cX5_init 12 = .ok (.putfield 10, 3) := by decide +kernel
theorem dX5_init_15 : decode cX5_init 15 = .ok (.aload_n 0, 1) := by decide +kernel
theorem dX5_init_16 : decode cX5_init 16 = .ok (.new 16, 3) := by decide +kernel
theorem dX5_init_19 : decode cX5_init 19 = .ok (.dup, 1) := by decide +kernel
theorem dX5_init_20 : decode cX5_init 20 = .ok (.invokespecial 18, 3) := by decide +kernel
theorem dX5_init_23 : decode cX5_init 23 = .ok (.putfield 19, 3) := by decide +kernel
theorem dX5_init_26 : decode cX5_init 26 = .ok (.aload_n 0, 1) := by decide +kernel
theorem dX5_init_27 : decode cX5_init 27 = .ok (.new 23, 3) := by decide +kernel
theorem dX5_init_30 : decode cX5_init 30 = .ok (.dup, 1) := by decide +kernel
theorem dX5_init_31 : decode cX5_init 31 = .ok (.aload_n 0, 1) := by decide +kernel
theorem dX5_init_32 : decode cX5_init 32 = .ok (.getfield 19, 3) := by decide +kernel
theorem dX5_init_35 : decode cX5_init 35 = .ok (.invokespecial 25, 3) := by decide +kernel
theorem dX5_init_38 : decode cX5_init 38 = .ok (.putfield 28, 3) := by decide +kernel
theorem dX5_init_41 : decode cX5_init 41 = .ok (.aload_n 0, 1) := by decide +kernel
theorem dX5_init_42 : decode cX5_init 42 = .ok (.new 32, 3) := by decide +kernel
theorem dX5_init_45 : decode cX5_init 45 = .ok (.dup, 1) := by decide +kernel
theorem dX5_init_46 : decode cX5_init 46 = .ok (.invokespecial 34, 3) := by decide +kernel
theorem dX5_init_49 : decode cX5_init 49 = .ok (.putfield 35, 3) := by decide +kernel
theorem dX5_init_52 : decode cX5_init 52 = .ok (.aload_n 0, 1) := by decide +kernel
theorem dX5_init_53 : decode cX5_init 53 = .ok (.new 39, 3) := by decide +kernel
theorem dX5_init_56 : decode cX5_init 56 = .ok (.dup, 1) := by decide +kernel
theorem dX5_init_57 : decode cX5_init 57 = .ok (.invokespecial 41, 3) := by decide +kernel
theorem dX5_init_60 : decode cX5_init 60 = .ok (.putfield 42, 3) := by decide +kernel
theorem dX5_init_63 : decode cX5_init 63 = .ok (.return_, 1) := by decide +kernel
theorem dX5_meal_0 : decode cX5_meal 0 = .ok (.iload_n 1, 1) := by decide +kernel
theorem dX5_meal_1 : decode cX5_meal 1 = .ok (.iconst 0, 1) := by decide +kernel
theorem dX5_meal_2 : decode cX5_meal 2 = .ok (.sipush 255, 3) := by decide +kernel
theorem dX5_meal_5 : decode cX5_meal 5 = .ok (.invokestatic 46, 3) := by decide +kernel
theorem dX5_meal_8 : decode cX5_meal 8 = .ok (.iload_n 2, 1) := by decide +kernel
theorem dX5_meal_9 : decode cX5_meal 9 = .ok (.iconst 0, 1) := by decide +kernel
theorem dX5_meal_10 : decode cX5_meal 10 = .ok (.sipush 255, 3) := by decide +kernel
theorem dX5_meal_13 : decode cX5_meal 13 = .ok (.invokestatic 46, 3) := by decide +kernel
theorem dX5_meal_16 : decode cX5_meal 16 = .ok (.aload_n 0, 1) := by decide +kernel
theorem dX5_meal_17 : decode cX5_meal 17 = .ok (.getfield 10, 3) := by decide +kernel
theorem dX5_meal_20 : decode cX5_meal 20 = .ok (.getfield 50, 3) := by decide +kernel
theorem dX5_meal_23 : decode cX5_meal 23 = .ok (.bipush 6, 2) := by decide +kernel
theorem dX5_meal_25 : decode cX5_meal 25 = .ok (.if_icmp .lt 13, 3) := by decide +kernel
theorem dX5_meal_28 : decode cX5_meal 28 = .ok (.new 54, 3) := by decide +kernel
theorem dX5_meal_31 : decode cX5_meal 31 = .ok (.dup, 1) := by decide +kernel
theorem dX5_meal_32 : decode cX5_meal 32 = .ok (.ldc 56, 2) := by decide +kernel
theorem dX5_meal_34 : decode cX5_meal 34 = .ok (.invokespecial 58, 3) := by decide +kernel
theorem dX5_meal_37 : decode cX5_meal 37 = .ok (.athrow, 1) := by decide +kernel
theorem dX5_meal_38 : decode cX5_meal 38 = .ok (.aload_n 0, 1) := by decide +kernel
theorem dX5_meal_39 : decode cX5_meal 39 = .ok (.getfield 10, 3) := by decide +kernel
theorem dX5_meal_42 : decode cX5_meal 42 = .ok (.iload_n 1, 1) := by decide +kernel
theorem dX5_meal_43 : decode cX5_meal 43 = .ok (.iload_n 2, 1) := by decide +kernel
theorem dX5_meal_44 : decode cX5_meal 44 = .ok (.invokevirtual 61, 3) := by decide +kernel
theorem dX5_meal_47 : decode cX5_meal 47 = .ok (.ireturn, 1) := by decide +kernel
theorem dX5_ate_0 : decode cX5_ate 0 = .ok (.aload_n 0, 1) := by decide +kernel
theorem dX5_ate_1 : decode cX5_ate 1 = .ok (.iload_n 1, 1) := by decide +kernel
theorem dX5_ate_2 : decode cX5_ate 2 = .ok (.invokevirtual 65, 3) := by decide +kernel
theorem dX5_ate_5 : decode cX5_ate 5 = .ok (.iload_n 2, 1) := by decide +kernel
theorem dX5_ate_6 : decode cX5_ate 6 = .ok (.iconst 0, 1) := by decide +kernel
theorem dX5_ate_7 : decode cX5_ate 7 = .ok (.sipush 1000, 3) := by decide +kernel
theorem dX5_ate_10 : decode cX5_ate 10 = .ok (.invokestatic 46, 3) := by decide +kernel
theorem dX5_ate_13 : decode cX5_ate 13 = .ok (.aload_n 0, 1) := by decide +kernel
theorem dX5_ate_14 : decode cX5_ate 14 = .ok (.getfield 19, 3) := by decide +kernel
theorem dX5_ate_17 : decode cX5_ate 17 = .ok (.iload_n 1, 1) := by decide +kernel
theorem dX5_ate_18 : decode cX5_ate 18 = .ok (.iload_n 2, 1) := by decide +kernel
theorem dX5_ate_19 : decode cX5_ate 19 = .ok (.invokevirtual 69, 3) := by decide +kernel
theorem dX5_ate_22 : decode cX5_ate 22 = .ok (.ireturn, 1) := by decide +kernel
theorem dX5_day_0 : decode cX5_day 0 = .ok (.iload_n 1, 1) := by decide +kernel
theorem dX5_day_1 : decode cX5_day 1 = .ok (.iconst 0, 1) := by decide +kernel
theorem dX5_day_2 : decode cX5_day 2 = .ok (.sipush 255, 3) := by decide +kernel
theorem dX5_day_5 : decode cX5_day 5 = .ok (.invokestatic 46, 3) := by decide +kernel
theorem dX5_day_8 : decode cX5_day 8 = .ok (.aload_n 0, 1) := by decide +kernel
theorem dX5_day_9 : decode cX5_day 9 = .ok (.getfield 19, 3) := by decide +kernel
theorem dX5_day_12 : decode cX5_day 12 = .ok (.getfield 72, 3) := by decide +kernel
theorem dX5_day_15 : decode cX5_day 15 = .ok (.sipush 150, 3) := by decide +kernel
theorem dX5_day_18 : decode cX5_day 18 = .ok (.if_icmp .lt 13, 3) := by decide +kernel
theorem dX5_day_21 : decode cX5_day 21 = .ok (.new 54, 3) := by decide +kernel
theorem dX5_day_24 : decode cX5_day 24 = .ok (.dup, 1) := by decide +kernel
theorem dX5_day_25 : decode cX5_day 25 = .ok (.ldc 75, 2) := by decide +kernel
theorem dX5_day_27 : decode cX5_day 27 = .ok (.invokespecial 58, 3) := by decide +kernel
theorem dX5_day_30 : decode cX5_day 30 = .ok (.athrow, 1) := by decide +kernel
theorem dX5_day_31 : decode cX5_day 31 = .ok (.aload_n 0, 1) := by decide +kernel
theorem dX5_day_32 : decode cX5_day 32 = .ok (.getfield 19, 3) := by decide +kernel
theorem dX5_day_35 : decode cX5_day 35 = .ok (.iload_n 1, 1) := by decide +kernel
theorem dX5_day_36 : decode cX5_day 36 = .ok (.invokevirtual 77, 3) := by decide +kernel
theorem dX5_day_39 : decode cX5_day 39 = .ok (.ireturn, 1) := by decide +kernel
theorem dX5_drop_0 : decode cX5_drop 0 = .ok (.iload_n 1, 1) := by decide +kernel
theorem dX5_drop_1 : decode cX5_drop 1 = .ok (.ifCond .lt 14, 3) := by decide +kernel
theorem dX5_drop_4 : decode cX5_drop 4 = .ok (.iload_n 1, 1) := by decide +kernel
theorem dX5_drop_5 : decode cX5_drop 5 = .ok (.aload_n 0, 1) := by decide +kernel
theorem dX5_drop_6 : decode cX5_drop 6 = .ok (.getfield 19, 3) := by decide +kernel
theorem dX5_drop_9 : decode cX5_drop 9 = .ok (.getfield 72, 3) := by decide +kernel
theorem dX5_drop_12 : decode cX5_drop 12 = .ok (.if_icmp .lt 13, 3) := by decide +kernel
theorem dX5_drop_15 : decode cX5_drop 15 = .ok (.new 80, 3) := by decide +kernel
theorem dX5_drop_18 : decode cX5_drop 18 = .ok (.dup, 1) := by decide +kernel
theorem dX5_drop_19 : decode cX5_drop 19 = .ok (.ldc 82, 2) := by decide +kernel
theorem dX5_drop_21 : decode cX5_drop 21 = .ok (.invokespecial 84, 3) := by decide +kernel
theorem dX5_drop_24 : decode cX5_drop 24 = .ok (.athrow, 1) := by decide +kernel
theorem dX5_drop_25 : decode cX5_drop 25 = .ok (.aload_n 0, 1) := by decide +kernel
theorem dX5_drop_26 : decode cX5_drop 26 = .ok (.getfield 19, 3) := by decide +kernel
theorem dX5_drop_29 : decode cX5_drop 29 = .ok (.iload_n 1, 1) := by decide +kernel
theorem dX5_drop_30 : decode cX5_drop 30 = .ok (.invokevirtual 85, 3) := by decide +kernel
theorem dX5_drop_33 : decode cX5_drop 33 = .ok (.ireturn, 1) := by decide +kernel
theorem dX5_leaves_0 : decode cX5_leaves 0 = .ok (.aload_n 0, 1) := by decide +kernel
theorem dX5_leaves_1 : decode cX5_leaves 1 = .ok (.iload_n 1, 1) := by decide +kernel
theorem dX5_leaves_2 : decode cX5_leaves 2 = .ok (.invokevirtual 65, 3) := by decide +kernel
theorem dX5_leaves_5 : decode cX5_leaves 5 = .ok (.aload_n 0, 1) := by decide +kernel
theorem dX5_leaves_6 : decode cX5_leaves 6 = .ok (.getfield 28, 3) := by decide +kernel
theorem dX5_leaves_9 : decode cX5_leaves 9 = .ok (.iload_n 1, 1) := by decide +kernel
theorem dX5_leaves_10 : decode cX5_leaves 10 = .ok (.iconst 0, 1) := by decide +kernel
theorem dX5_leaves_11 : decode cX5_leaves 11 = .ok (.iconst 0, 1) := by decide +kernel
theorem dX5_leaves_12 : decode cX5_leaves 12 = .ok (.iconst 0, 1) := by decide +kernel
theorem dX5_leaves_13 : decode cX5_leaves 13 = .ok (.invokevirtual 89, 3) := by decide +kernel
theorem dX5_leaves_16 : decode cX5_leaves 16 = .ok (.ireturn, 1) := by decide +kernel
theorem dX5_split_0 : decode cX5_split 0 = .ok (.aload_n 0, 1) := by decide +kernel
theorem dX5_split_1 : decode cX5_split 1 = .ok (.iload_n 1, 1) := by decide +kernel
theorem dX5_split_2 : decode cX5_split 2 = .ok (.invokevirtual 65, 3) := by decide +kernel
theorem dX5_split_5 : decode cX5_split 5 = .ok (.iload_n 2, 1) := by decide +kernel
theorem dX5_split_6 : decode cX5_split 6 = .ok (.iconst 0, 1) := by decide +kernel
theorem dX5_split_7 : decode cX5_split 7 = .ok (.sipush 255, 3) := by decide +kernel
theorem dX5_split_10 : decode cX5_split 10 = .ok (.invokestatic 46, 3) := by decide +kernel
theorem dX5_split_13 : decode cX5_split 13 = .ok (.aload_n 0, 1) := by decide +kernel
theorem dX5_split_14 : decode cX5_split 14 = .ok (.getfield 28, 3) := by decide +kernel
theorem dX5_split_17 : decode cX5_split 17 = .ok (.iload_n 1, 1) := by decide +kernel
theorem dX5_split_18 : decode cX5_split 18 = .ok (.iload_n 2, 1) := by decide +kernel
theorem dX5_split_19 : decode cX5_split 19 = .ok (.iload_n 3, 1) := by decide +kernel
theorem dX5_split_20 : decode cX5_split 20 = .ok (.invokevirtual 93, 3) := by decide +kernel
theorem dX5_split_23 : decode cX5_split 23 = .ok (.ireturn, 1) := by decide +kernel
theorem dX5_leaf_0 : decode cX5_leaf 0 = .ok (.aload_n 0, 1) := by decide +kernel
theorem dX5_leaf_1 : decode cX5_leaf 1 = .ok (.iload_n 1, 1) := by decide +kernel
theorem dX5_leaf_2 : decode cX5_leaf 2 = .ok (.invokevirtual 65, 3) := by decide +kernel
theorem dX5_leaf_5 : decode cX5_leaf 5 = .ok (.iload_n 2, 1) := by decide +kernel
theorem dX5_leaf_6 : decode cX5_leaf 6 = .ok (.iconst 0, 1) := by decide +kernel
theorem dX5_leaf_7 : decode cX5_leaf 7 = .ok (.sipush 255, 3) := by decide +kernel
theorem dX5_leaf_10 : decode cX5_leaf 10 = .ok (.invokestatic 46, 3) := by decide +kernel
theorem dX5_leaf_13 : decode cX5_leaf 13 = .ok (.iload_n 3, 1) := by decide +kernel
theorem dX5_leaf_14 : decode cX5_leaf 14 = .ok (.iconst 0, 1) := by decide +kernel
theorem dX5_leaf_15 : decode cX5_leaf 15 = .ok (.iconst 3, 1) := by decide +kernel
theorem dX5_leaf_16 : decode cX5_leaf 16 = .ok (.invokestatic 46, 3) := by decide +kernel
theorem dX5_leaf_19 : decode cX5_leaf 19 = .ok (.aload_n 0, 1) := by decide +kernel
theorem dX5_leaf_20 : decode cX5_leaf 20 = .ok (.getfield 19, 3) := by decide +kernel
theorem dX5_leaf_23 : decode cX5_leaf 23 = .ok (.iload_n 1, 1) := by decide +kernel
theorem dX5_leaf_24 : decode cX5_leaf 24 = .ok (.aload_n 0, 1) := by decide +kernel
theorem dX5_leaf_25 : decode cX5_leaf 25 = .ok (.getfield 28, 3) := by decide +kernel
theorem dX5_leaf_28 : decode cX5_leaf 28 = .ok (.iload_n 1, 1) := by decide +kernel
theorem dX5_leaf_29 : decode cX5_leaf 29 = .ok (.iload_n 2, 1) := by decide +kernel
theorem dX5_leaf_30 : decode cX5_leaf 30 = .ok (.invokevirtual 97, 3) := by decide +kernel
theorem dX5_leaf_33 : decode cX5_leaf 33 = .ok (.iload_n 2, 1) := by decide +kernel
theorem dX5_leaf_34 : decode cX5_leaf 34 = .ok (.iload_n 3, 1) := by decide +kernel
theorem dX5_leaf_35 : decode cX5_leaf 35 = .ok (.invokevirtual 100, 3) := by decide +kernel
theorem dX5_leaf_38 : decode cX5_leaf 38 = .ok (.ireturn, 1) := by decide +kernel
theorem dX5_size_0 : decode cX5_size 0 = .ok (.iload_n 1, 1) := by decide +kernel
theorem dX5_size_1 : decode cX5_size 1 = .ok (.iconst 1, 1) := by decide +kernel
theorem dX5_size_2 : decode cX5_size 2 = .ok (.sipush 200, 3) := by decide +kernel
theorem dX5_size_5 : decode cX5_size 5 = .ok (.invokestatic 46, 3) := by decide +kernel
theorem dX5_size_8 : decode cX5_size 8 = .ok (.iload_n 2, 1) := by decide +kernel
theorem dX5_size_9 : decode cX5_size 9 = .ok (.iconst 1, 1) := by decide +kernel
theorem dX5_size_10 : decode cX5_size 10 = .ok (.sipush 10000, 3) := by decide +kernel
theorem dX5_size_13 : decode cX5_size 13 = .ok (.invokestatic 46, 3) := by decide +kernel
theorem dX5_size_16 : decode cX5_size 16 = .ok (.aload_n 0, 1) := by decide +kernel
theorem dX5_size_17 : decode cX5_size 17 = .ok (.getfield 35, 3) := by decide +kernel
theorem dX5_size_20 : decode cX5_size 20 = .ok (.getfield 103, 3) := by decide +kernel
theorem dX5_size_23 : decode cX5_size 23 = .ok (.iconst 4, 1) := by decide +kernel
theorem dX5_size_24 : decode cX5_size 24 = .ok (.if_icmp .lt 13, 3) := by decide +kernel
theorem dX5_size_27 : decode cX5_size 27 = .ok (.new 54, 3) := by decide +kernel
theorem dX5_size_30 : decode cX5_size 30 = .ok (.dup, 1) := by decide +kernel
theorem dX5_size_31 : decode cX5_size 31 = .ok (.ldc 106, 2) := by decide +kernel
theorem dX5_size_33 : decode cX5_size 33 = .ok (.invokespecial 58, 3) := by decide +kernel
theorem dX5_size_36 : decode cX5_size 36 = .ok (.athrow, 1) := by decide +kernel
theorem dX5_size_37 : decode cX5_size 37 = .ok (.aload_n 0, 1) := by decide +kernel
theorem dX5_size_38 : decode cX5_size 38 = .ok (.getfield 35, 3) := by decide +kernel
theorem dX5_size_41 : decode cX5_size 41 = .ok (.iload_n 1, 1) := by decide +kernel
theorem dX5_size_42 : decode cX5_size 42 = .ok (.iload_n 2, 1) := by decide +kernel
theorem dX5_size_43 : decode cX5_size 43 = .ok (.invokevirtual 108, 3) := by decide +kernel
theorem dX5_size_46 : decode cX5_size 46 = .ok (.ireturn, 1) := by decide +kernel
theorem dX5_prices_0 : decode cX5_prices 0 = .ok (.iload_n 1, 1) := by decide +kernel
theorem dX5_prices_1 : decode cX5_prices 1 = .ok (.iconst 0, 1) := by decide +kernel
theorem dX5_prices_2 : decode cX5_prices 2 = .ok (.sipush 1000, 3) := by decide +kernel
theorem dX5_prices_5 : decode cX5_prices 5 = .ok (.invokestatic 46, 3) := by decide +kernel
theorem dX5_prices_8 : decode cX5_prices 8 = .ok (.iload_n 2, 1) := by decide +kernel
theorem dX5_prices_9 : decode cX5_prices 9 = .ok (.iconst 0, 1) := by decide +kernel
theorem dX5_prices_10 : decode cX5_prices 10 = .ok (.sipush 1000, 3) := by decide +kernel
theorem dX5_prices_13 : decode cX5_prices 13 = .ok (.invokestatic 46, 3) := by decide +kernel
theorem dX5_prices_16 : decode cX5_prices 16 = .ok (.aload_n 0, 1) := by decide +kernel
theorem dX5_prices_17 : decode cX5_prices 17 = .ok (.getfield 35, 3) := by decide +kernel
theorem dX5_prices_20 : decode cX5_prices 20 = .ok (.iload_n 1, 1) := by decide +kernel
theorem dX5_prices_21 : decode cX5_prices 21 = .ok (.putfield 109, 3) := by decide +kernel
theorem dX5_prices_24 : decode cX5_prices 24 = .ok (.aload_n 0, 1) := by decide +kernel
theorem dX5_prices_25 : decode cX5_prices 25 = .ok (.getfield 35, 3) := by decide +kernel
theorem dX5_prices_28 : decode cX5_prices 28 = .ok (.iload_n 2, 1) := by decide +kernel
theorem dX5_prices_29 : decode cX5_prices 29 = .ok (.putfield 112, 3) := by decide +kernel
theorem dX5_prices_32 : decode cX5_prices 32 = .ok (.return_, 1) := by decide +kernel
theorem dX5_cost_0 : decode cX5_cost 0 = .ok (.aload_n 0, 1) := by decide +kernel
theorem dX5_cost_1 : decode cX5_cost 1 = .ok (.iload_n 1, 1) := by decide +kernel
theorem dX5_cost_2 : decode cX5_cost 2 = .ok (.iload_n 2, 1) := by decide +kernel
theorem dX5_cost_3 : decode cX5_cost 3 = .ok (.iload_n 3, 1) := by decide +kernel
theorem dX5_cost_4 : decode cX5_cost 4 = .ok (.invokevirtual 115, 3) := by decide +kernel
theorem dX5_cost_7 : decode cX5_cost 7 = .ok (.ifCond .eq 13, 3) := by decide +kernel
theorem dX5_cost_10 : decode cX5_cost 10 = .ok (.aload_n 0, 1) := by decide +kernel
theorem dX5_cost_11 : decode cX5_cost 11 = .ok (.getfield 35, 3) := by decide +kernel
theorem dX5_cost_14 : decode cX5_cost 14 = .ok (.getfield 119, 3) := by decide +kernel
theorem dX5_cost_17 : decode cX5_cost 17 = .ok (.goto 6, 3) := by decide +kernel
theorem dX5_cost_20 : decode cX5_cost 20 = .ok (.ldc2_w 123, 3) := by decide +kernel
theorem dX5_cost_23 : decode cX5_cost 23 = .ok (.lreturn, 1) := by decide +kernel
theorem dX5_pots_0 : decode cX5_pots 0 = .ok (.aload_n 0, 1) := by decide +kernel
theorem dX5_pots_1 : decode cX5_pots 1 = .ok (.iload_n 1, 1) := by decide +kernel
theorem dX5_pots_2 : decode cX5_pots 2 = .ok (.iload_n 2, 1) := by decide +kernel
theorem dX5_pots_3 : decode cX5_pots 3 = .ok (.iload_n 3, 1) := by decide +kernel
theorem dX5_pots_4 : decode cX5_pots 4 = .ok (.invokevirtual 115, 3) := by decide +kernel
theorem dX5_pots_7 : decode cX5_pots 7 = .ok (.ifCond .eq 15, 3) := by decide +kernel
theorem dX5_pots_10 : decode cX5_pots 10 = .ok (.aload_n 0, 1) := by decide +kernel
theorem dX5_pots_11 : decode cX5_pots 11 = .ok (.getfield 35, 3) := by decide +kernel
theorem dX5_pots_14 : decode cX5_pots 14 = .ok (.iload 4, 2) := by decide +kernel
theorem dX5_pots_16 : decode cX5_pots 16 = .ok (.invokevirtual 125, 3) := by decide +kernel
theorem dX5_pots_19 : decode cX5_pots 19 = .ok (.goto 4, 3) := by decide +kernel
theorem dX5_pots_22 : decode cX5_pots 22 = .ok (.iconst (-1), 1) := by decide +kernel
theorem dX5_pots_23 : decode cX5_pots 23 = .ok (.ireturn, 1) := by decide +kernel
theorem dX5_ladles_0 : decode cX5_ladles 0 = .ok (.aload_n 0, 1) := by decide +kernel
theorem dX5_ladles_1 : decode cX5_ladles 1 = .ok (.getfield 10, 3) := by decide +kernel
theorem dX5_ladles_4 : decode cX5_ladles 4 = .ok (.invokevirtual 128, 3) := by decide +kernel
theorem dX5_ladles_7 : decode cX5_ladles 7 = .ok (.ireturn, 1) := by decide +kernel
theorem dX5_ladle_0 : decode cX5_ladle 0 = .ok (.aload_n 0, 1) := by decide +kernel
theorem dX5_ladle_1 : decode cX5_ladle 1 = .ok (.iload_n 1, 1) := by decide +kernel
theorem dX5_ladle_2 : decode cX5_ladle 2 = .ok (.invokevirtual 65, 3) := by decide +kernel
theorem dX5_ladle_5 : decode cX5_ladle 5 = .ok (.aload_n 0, 1) := by decide +kernel
theorem dX5_ladle_6 : decode cX5_ladle 6 = .ok (.getfield 10, 3) := by decide +kernel
theorem dX5_ladle_9 : decode cX5_ladle 9 = .ok (.invokevirtual 128, 3) := by decide +kernel
theorem dX5_ladle_12 : decode cX5_ladle 12 = .ok (.iconst (-1), 1) := by decide +kernel
theorem dX5_ladle_13 : decode cX5_ladle 13 = .ok (.if_icmp .ne 7, 3) := by decide +kernel
theorem dX5_ladle_16 : decode cX5_ladle 16 = .ok (.iconst (-1), 1) := by decide +kernel
theorem dX5_ladle_17 : decode cX5_ladle 17 = .ok (.goto 12, 3) := by decide +kernel
theorem dX5_ladle_20 : decode cX5_ladle 20 = .ok (.aload_n 0, 1) := by decide +kernel
theorem dX5_ladle_21 : decode cX5_ladle 21 = .ok (.getfield 10, 3) := by decide +kernel
theorem dX5_ladle_24 : decode cX5_ladle 24 = .ok (.getfield 132, 3) := by decide +kernel
theorem dX5_ladle_27 : decode cX5_ladle 27 = .ok (.iload_n 1, 1) := by decide +kernel
theorem dX5_ladle_28 : decode cX5_ladle 28 = .ok (.iaload, 1) := by decide +kernel
theorem dX5_ladle_29 : decode cX5_ladle 29 = .ok (.ireturn, 1) := by decide +kernel
theorem dX5_come_0 : decode cX5_come 0 = .ok (.iload_n 1, 1) := by decide +kernel
theorem dX5_come_1 : decode cX5_come 1 = .ok (.iconst 0, 1) := by decide +kernel
theorem dX5_come_2 : decode cX5_come 2 = .ok (.bipush 100, 2) := by decide +kernel
theorem dX5_come_4 : decode cX5_come 4 = .ok (.invokestatic 46, 3) := by decide +kernel
theorem dX5_come_7 : decode cX5_come 7 = .ok (.aload_n 0, 1) := by decide +kernel
theorem dX5_come_8 : decode cX5_come 8 = .ok (.getfield 42, 3) := by decide +kernel
theorem dX5_come_11 : decode cX5_come 11 = .ok (.getfield 136, 3) := by decide +kernel
theorem dX5_come_14 : decode cX5_come 14 = .ok (.bipush 60, 2) := by decide +kernel
theorem dX5_come_16 : decode cX5_come 16 = .ok (.if_icmp .lt 7, 3) := by decide +kernel
theorem dX5_come_19 : decode cX5_come 19 = .ok (.iconst (-1), 1) := by decide +kernel
theorem dX5_come_20 : decode cX5_come 20 = .ok (.goto 11, 3) := by decide +kernel
theorem dX5_come_23 : decode cX5_come 23 = .ok (.aload_n 0, 1) := by decide +kernel
theorem dX5_come_24 : decode cX5_come 24 = .ok (.getfield 42, 3) := by decide +kernel
theorem dX5_come_27 : decode cX5_come 27 = .ok (.iload_n 1, 1) := by decide +kernel
theorem dX5_come_28 : decode cX5_come 28 = .ok (.invokevirtual 139, 3) := by decide +kernel
theorem dX5_come_31 : decode cX5_come 31 = .ok (.ireturn, 1) := by decide +kernel
theorem dX5_hatch_0 : decode cX5_hatch 0 = .ok (.iload_n 1, 1) := by decide +kernel
theorem dX5_hatch_1 : decode cX5_hatch 1 = .ok (.iconst 1, 1) := by decide +kernel
theorem dX5_hatch_2 : decode cX5_hatch 2 = .ok (.bipush 100, 2) := by decide +kernel
theorem dX5_hatch_4 : decode cX5_hatch 4 = .ok (.invokestatic 46, 3) := by decide +kernel
theorem dX5_hatch_7 : decode cX5_hatch 7 = .ok (.iload_n 2, 1) := by decide +kernel
theorem dX5_hatch_8 : decode cX5_hatch 8 = .ok (.iconst 0, 1) := by decide +kernel
theorem dX5_hatch_9 : decode cX5_hatch 9 = .ok (.iconst 3, 1) := by decide +kernel
theorem dX5_hatch_10 : decode cX5_hatch 10 = .ok (.invokestatic 46, 3) := by decide +kernel
theorem dX5_hatch_13 : decode cX5_hatch 13 = .ok (.aload_n 0, 1) := by decide +kernel
theorem dX5_hatch_14 : decode cX5_hatch 14 = .ok (.getfield 42, 3) := by decide +kernel
theorem dX5_hatch_17 : decode cX5_hatch 17 = .ok (.iload_n 1, 1) := by decide +kernel
theorem dX5_hatch_18 : decode cX5_hatch 18 = .ok (.iload_n 2, 1) := by decide +kernel
theorem dX5_hatch_19 : decode cX5_hatch 19 = .ok (.invokevirtual 140, 3) := by decide +kernel
theorem dX5_hatch_22 : decode cX5_hatch 22 = .ok (.ireturn, 1) := by decide +kernel
theorem dX5_serve_0 : decode cX5_serve 0 = .ok (.iload_n 1, 1) := by decide +kernel
theorem dX5_serve_1 : decode cX5_serve 1 = .ok (.ifCond .ge 13, 3) := by decide +kernel
theorem dX5_serve_4 : decode cX5_serve 4 = .ok (.new 142, 3) := by decide +kernel
theorem dX5_serve_7 : decode cX5_serve 7 = .ok (.dup, 1) := by decide +kernel
theorem dX5_serve_8 : decode cX5_serve 8 = .ok (.ldc 144, 2) := by decide +kernel
theorem dX5_serve_10 : decode cX5_serve 10 = .ok (.invokespecial 146, 3) := by decide +kernel
theorem dX5_serve_13 : decode cX5_serve 13 = .ok (.athrow, 1) := by decide +kernel
theorem dX5_serve_14 : decode cX5_serve 14 = .ok (.aload_n 0, 1) := by decide +kernel
theorem dX5_serve_15 : decode cX5_serve 15 = .ok (.getfield 42, 3) := by decide +kernel
theorem dX5_serve_18 : decode cX5_serve 18 = .ok (.iload_n 1, 1) := by decide +kernel
theorem dX5_serve_19 : decode cX5_serve 19 = .ok (.invokevirtual 147, 3) := by decide +kernel
theorem dX5_serve_22 : decode cX5_serve 22 = .ok (.ireturn, 1) := by decide +kernel
theorem dX5_empty_0 : decode cX5_empty 0 = .ok (.aload_n 0, 1) := by decide +kernel
theorem dX5_empty_1 : decode cX5_empty 1 = .ok (.getfield 42, 3) := by decide +kernel
theorem dX5_empty_4 : decode cX5_empty 4 = .ok (.invokevirtual 150, 3) := by decide +kernel
theorem dX5_empty_7 : decode cX5_empty 7 = .ok (.ireturn, 1) := by decide +kernel
theorem dX5_count_0 : decode cX5_count 0 = .ok (.iload_n 1, 1) := by decide +kernel
theorem dX5_count_1 : decode cX5_count 1 = .ok (.tableswitch 83 0 4 #[35, 43, 59, 67, 75], 35) := by decide +kernel
theorem dX5_count_36 : decode cX5_count 36 = .ok (.aload_n 0, 1) := by decide +kernel
theorem dX5_count_37 : decode cX5_count 37 = .ok (.getfield 10, 3) := by decide +kernel
theorem dX5_count_40 : decode cX5_count 40 = .ok (.getfield 50, 3) := by decide +kernel
theorem dX5_count_43 : decode cX5_count 43 = .ok (.ireturn, 1) := by decide +kernel
theorem dX5_count_44 : decode cX5_count 44 = .ok (.aload_n 0, 1) := by decide +kernel
theorem dX5_count_45 : decode cX5_count 45 = .ok (.getfield 19, 3) := by decide +kernel
theorem dX5_count_48 : decode cX5_count 48 = .ok (.getfield 72, 3) := by decide +kernel
theorem dX5_count_51 : decode cX5_count 51 = .ok (.aload_n 0, 1) := by decide +kernel
theorem dX5_count_52 : decode cX5_count 52 = .ok (.getfield 19, 3) := by decide +kernel
theorem dX5_count_55 : decode cX5_count 55 = .ok (.getfield 153, 3) := by decide +kernel
theorem dX5_count_58 : decode cX5_count 58 = .ok (.isub, 1) := by decide +kernel
theorem dX5_count_59 : decode cX5_count 59 = .ok (.ireturn, 1) := by decide +kernel
theorem dX5_count_60 : decode cX5_count 60 = .ok (.aload_n 0, 1) := by decide +kernel
theorem dX5_count_61 : decode cX5_count 61 = .ok (.getfield 19, 3) := by decide +kernel
theorem dX5_count_64 : decode cX5_count 64 = .ok (.getfield 72, 3) := by decide +kernel
theorem dX5_count_67 : decode cX5_count 67 = .ok (.ireturn, 1) := by decide +kernel
theorem dX5_count_68 : decode cX5_count 68 = .ok (.aload_n 0, 1) := by decide +kernel
theorem dX5_count_69 : decode cX5_count 69 = .ok (.getfield 35, 3) := by decide +kernel
theorem dX5_count_72 : decode cX5_count 72 = .ok (.getfield 103, 3) := by decide +kernel
theorem dX5_count_75 : decode cX5_count 75 = .ok (.ireturn, 1) := by decide +kernel
theorem dX5_count_76 : decode cX5_count 76 = .ok (.aload_n 0, 1) := by decide +kernel
theorem dX5_count_77 : decode cX5_count 77 = .ok (.getfield 42, 3) := by decide +kernel
theorem dX5_count_80 : decode cX5_count 80 = .ok (.getfield 136, 3) := by decide +kernel
theorem dX5_count_83 : decode cX5_count 83 = .ok (.ireturn, 1) := by decide +kernel
theorem dX5_count_84 : decode cX5_count 84 = .ok (.iconst (-1), 1) := by decide +kernel
theorem dX5_count_85 : decode cX5_count 85 = .ok (.ireturn, 1) := by decide +kernel
theorem dX5_needWithin_0 : decode cX5_needWithin 0 = .ok (.iload_n 0, 1) := by decide +kernel
theorem dX5_needWithin_1 : decode cX5_needWithin 1 = .ok (.iload_n 1, 1) := by decide +kernel
theorem dX5_needWithin_2 : decode cX5_needWithin 2 = .ok (.if_icmp .lt 8, 3) := by decide +kernel
theorem dX5_needWithin_5 : decode cX5_needWithin 5 = .ok (.iload_n 0, 1) := by decide +kernel
theorem dX5_needWithin_6 : decode cX5_needWithin 6 = .ok (.iload_n 2, 1) := by decide +kernel
theorem dX5_needWithin_7 : decode cX5_needWithin 7 = .ok (.if_icmp .le 13, 3) := by decide +kernel
theorem dX5_needWithin_10 : decode cX5_needWithin 10 = .ok (.new 142, 3) := by decide +kernel
theorem dX5_needWithin_13 : decode cX5_needWithin 13 = .ok (.dup, 1) := by decide +kernel
theorem dX5_needWithin_14 : decode cX5_needWithin 14 = .ok (.ldc 156, 2) := by decide +kernel
theorem dX5_needWithin_16 : decode cX5_needWithin 16 = .ok (.invokespecial 146, 3) := by decide +kernel
theorem dX5_needWithin_19 : decode cX5_needWithin 19 = .ok (.athrow, 1) := by decide +kernel
theorem dX5_needWithin_20 : decode cX5_needWithin 20 = .ok (.return_, 1) := by decide +kernel
theorem dX5_needMeal_0 : decode cX5_needMeal 0 = .ok (.iload_n 1, 1) := by decide +kernel
theorem dX5_needMeal_1 : decode cX5_needMeal 1 = .ok (.ifCond .lt 14, 3) := by decide +kernel
theorem dX5_needMeal_4 : decode cX5_needMeal 4 = .ok (.iload_n 1, 1) := by decide +kernel
theorem dX5_needMeal_5 : decode cX5_needMeal 5 = .ok (.aload_n 0, 1) := by decide +kernel
theorem dX5_needMeal_6 : decode cX5_needMeal 6 = .ok (.getfield 10, 3) := by decide +kernel
theorem dX5_needMeal_9 : decode cX5_needMeal 9 = .ok (.getfield 50, 3) := by decide +kernel
theorem dX5_needMeal_12 : decode cX5_needMeal 12 = .ok (.if_icmp .lt 13, 3) := by decide +kernel
theorem dX5_needMeal_15 : decode cX5_needMeal 15 = .ok (.new 80, 3) := by decide +kernel
theorem dX5_needMeal_18 : decode cX5_needMeal 18 = .ok (.dup, 1) := by decide +kernel
theorem dX5_needMeal_19 : decode cX5_needMeal 19 = .ok (.ldc 158, 2) := by decide +kernel
theorem dX5_needMeal_21 : decode cX5_needMeal 21 = .ok (.invokespecial 84, 3) := by decide +kernel
theorem dX5_needMeal_24 : decode cX5_needMeal 24 = .ok (.athrow, 1) := by decide +kernel
theorem dX5_needMeal_25 : decode cX5_needMeal 25 = .ok (.return_, 1) := by decide +kernel
theorem dX5_findBestSet_0 : decode cX5_findBestSet 0 = .ok (.aload_n 0, 1) := by decide +kernel
theorem dX5_findBestSet_1 : decode cX5_findBestSet 1 = .ok (.iload_n 1, 1) := by decide +kernel
theorem dX5_findBestSet_2 : decode cX5_findBestSet 2 = .ok (.invokevirtual 65, 3) := by decide +kernel
theorem dX5_findBestSet_5 : decode cX5_findBestSet 5 = .ok (.iload_n 2, 1) := by decide +kernel
theorem dX5_findBestSet_6 : decode cX5_findBestSet 6 = .ok (.iconst 0, 1) := by decide +kernel
theorem dX5_findBestSet_7 : decode cX5_findBestSet 7 = .ok (.sipush 255, 3) := by decide +kernel
theorem dX5_findBestSet_10 : decode cX5_findBestSet 10 = .ok (.invokestatic 46, 3) := by decide +kernel
theorem dX5_findBestSet_13 : decode cX5_findBestSet 13 = .ok (.iload_n 3, 1) := by decide +kernel
theorem dX5_findBestSet_14 : decode cX5_findBestSet 14 = .ok (.iconst 0, 1) := by decide +kernel
theorem dX5_findBestSet_15 : decode cX5_findBestSet 15 = .ok (.sipush 10000, 3) := by decide +kernel
theorem dX5_findBestSet_18 : decode cX5_findBestSet 18 = .ok (.invokestatic 46, 3) := by decide +kernel
theorem dX5_findBestSet_21 : decode cX5_findBestSet 21 = .ok (.aload_n 0, 1) := by decide +kernel
theorem dX5_findBestSet_22 : decode cX5_findBestSet 22 = .ok (.getfield 35, 3) := by decide +kernel
theorem dX5_findBestSet_25 : decode cX5_findBestSet 25 = .ok (.aload_n 0, 1) := by decide +kernel
theorem dX5_findBestSet_26 : decode cX5_findBestSet 26 = .ok (.getfield 19, 3) := by decide +kernel
theorem dX5_findBestSet_29 : decode cX5_findBestSet 29 = .ok (.iload_n 1, 1) := by decide +kernel
theorem dX5_findBestSet_30 : decode cX5_findBestSet 30 = .ok (.aload_n 0, 1) := by decide +kernel
theorem dX5_findBestSet_31 : decode cX5_findBestSet 31 = .ok (.getfield 28, 3) := by decide +kernel
theorem dX5_findBestSet_34 : decode cX5_findBestSet 34 = .ok (.iload_n 1, 1) := by decide +kernel
theorem dX5_findBestSet_35 : decode cX5_findBestSet 35 = .ok (.iload_n 2, 1) := by decide +kernel
theorem dX5_findBestSet_36 : decode cX5_findBestSet 36 = .ok (.invokevirtual 97, 3) := by decide +kernel
theorem dX5_findBestSet_39 : decode cX5_findBestSet 39 = .ok (.iload_n 2, 1) := by decide +kernel
theorem dX5_findBestSet_40 : decode cX5_findBestSet 40 = .ok (.invokevirtual 160, 3) := by decide +kernel
theorem dX5_findBestSet_43 : decode cX5_findBestSet 43 = .ok (.aload_n 0, 1) := by decide +kernel
theorem dX5_findBestSet_44 : decode cX5_findBestSet 44 = .ok (.getfield 35, 3) := by decide +kernel
theorem dX5_findBestSet_47 : decode cX5_findBestSet 47 = .ok (.getfield 164, 3) := by decide +kernel
theorem dX5_findBestSet_50 : decode cX5_findBestSet 50 = .ok (.ifCond .ne 5, 3) := by decide +kernel
theorem dX5_findBestSet_53 : decode cX5_findBestSet 53 = .ok (.iconst 0, 1) := by decide +kernel
theorem dX5_findBestSet_54 : decode cX5_findBestSet 54 = .ok (.ireturn, 1) := by decide +kernel
theorem dX5_findBestSet_55 : decode cX5_findBestSet 55 = .ok (.aload_n 0, 1) := by decide +kernel
theorem dX5_findBestSet_56 : decode cX5_findBestSet 56 = .ok (.getfield 35, 3) := by decide +kernel
theorem dX5_findBestSet_59 : decode cX5_findBestSet 59 = .ok (.iload_n 3, 1) := by decide +kernel
theorem dX5_findBestSet_60 : decode cX5_findBestSet 60 = .ok (.invokevirtual 167, 3) := by decide +kernel
theorem dX5_findBestSet_63 : decode cX5_findBestSet 63 = .ok (.iconst 1, 1) := by decide +kernel
theorem dX5_findBestSet_64 : decode cX5_findBestSet 64 = .ok (.ireturn, 1) := by decide +kernel
theorem dX6_init_0 : decode cX6_init 0 = .ok (.aload_n 0, 1) := by decide +kernel
theorem dX6_init_1 : decode cX6_init 1 = .ok (.invokespecial 1, 3) := by decide +kernel
theorem dX6_init_4 : decode cX6_init 4 = .ok (.aload_n 0, 1) := by decide +kernel
theorem dX6_init_5 : decode cX6_init 5 = .ok (.bipush 6, 2) := by decide +kernel
theorem dX6_init_7 : decode cX6_init 7 = .ok (.newarray .int, 2) := by decide +kernel
theorem dX6_init_9 : decode cX6_init 9 = .ok (.putfield 9, 3) := by decide +kernel
theorem dX6_init_12 : decode cX6_init 12 = .ok (.aload_n 0, 1) := by decide +kernel
theorem dX6_init_13 : decode cX6_init 13 = .ok (.bipush 6, 2) := by decide +kernel
theorem dX6_init_15 : decode cX6_init 15 = .ok (.newarray .int, 2) := by decide +kernel
theorem dX6_init_17 : decode cX6_init 17 = .ok (.putfield 13, 3) := by decide +kernel
theorem dX6_init_20 : decode cX6_init 20 = .ok (.aload_n 0, 1) := by decide +kernel
theorem dX6_init_21 : decode cX6_init 21 = .ok (.bipush 6, 2) := by decide +kernel
theorem dX6_init_23 : decode cX6_init 23 = .ok (.newarray .int, 2) := by decide +kernel
theorem dX6_init_25 : decode cX6_init 25 = .ok (.putfield 16, 3) := by decide +kernel
theorem dX6_init_28 : decode cX6_init 28 = .ok (.aload_n 0, 1) := by decide +kernel
theorem dX6_init_29 : decode cX6_init 29 = .ok (.sipush 150, 3) := by decide +kernel
theorem dX6_init_32 : decode cX6_init 32 = .ok (.newarray .int, 2) := by decide +kernel
theorem dX6_init_34 : decode cX6_init 34 = .ok (.putfield 19, 3) := by decide +kernel
theorem dX6_init_37 : decode cX6_init 37 = .ok (.aload_n 0, 1) := by decide +kernel
theorem dX6_init_38 : decode cX6_init 38 = .ok (.sipush 900, 3) := by decide +kernel
theorem dX6_init_41 : decode cX6_init 41 = .ok (.newarray .int, 2) := by decide +kernel
theorem dX6_init_43 : decode cX6_init 43 = .ok (.putfield 22, 3) := by decide +kernel
theorem dX6_init_46 : decode cX6_init 46 = .ok (.aload_n 0, 1) := by decide +kernel
theorem dX6_init_47 : decode cX6_init 47 = .ok (.sipush 150, 3) := by decide +kernel
theorem dX6_init_50 : decode cX6_init 50 = .ok (.newarray .boolean, 2) := by decide +kernel
theorem dX6_init_52 : decode cX6_init 52 = .ok (.putfield 25, 3) := by decide +kernel
theorem dX6_init_55 : decode cX6_init 55 = .ok (.aload_n 0, 1) := by decide +kernel
theorem dX6_init_56 : decode cX6_init 56 = .ok (.iconst 5, 1) := by decide +kernel
theorem dX6_init_57 : decode cX6_init 57 = .ok (.newarray .int, 2) := by decide +kernel
theorem dX6_init_59 : decode cX6_init 59 = .ok (.putfield 29, 3) := by decide +kernel
theorem dX6_init_62 : decode cX6_init 62 = .ok (.aload_n 0, 1) := by decide +kernel
theorem dX6_init_63 : decode cX6_init 63 = .ok (.iconst 4, 1) := by decide +kernel
theorem dX6_init_64 : decode cX6_init 64 = .ok (.newarray .int, 2) := by decide +kernel
theorem dX6_init_66 : decode cX6_init 66 = .ok (.putfield 32, 3) := by decide +kernel
theorem dX6_init_69 : decode cX6_init 69 = .ok (.aload_n 0, 1) := by decide +kernel
theorem dX6_init_70 : decode cX6_init 70 = .ok (.iconst 4, 1) := by decide +kernel
theorem dX6_init_71 : decode cX6_init 71 = .ok (.newarray .int, 2) := by decide +kernel
theorem dX6_init_73 : decode cX6_init 73 = .ok (.putfield 35, 3) := by decide +kernel
theorem dX6_init_76 : decode cX6_init 76 = .ok (.aload_n 0, 1) := by decide +kernel
theorem dX6_init_77 : decode cX6_init 77 = .ok (.iconst 1, 1) := by decide +kernel
theorem dX6_init_78 : decode cX6_init 78 = .ok (.putfield 38, 3) := by decide +kernel
theorem dX6_init_81 : decode cX6_init 81 = .ok (.aload_n 0, 1) := by decide +kernel
theorem dX6_init_82 : decode cX6_init 82 = .ok (.iconst 3, 1) := by decide +kernel
theorem dX6_init_83 : decode cX6_init 83 = .ok (.putfield 42, 3) := by decide +kernel
theorem dX6_init_86 : decode cX6_init 86 = .ok (.aload_n 0, 1) := by decide +kernel
theorem dX6_init_87 : decode cX6_init 87 = .ok (.iconst 4, 1) := by decide +kernel
theorem dX6_init_88 : decode cX6_init 88 = .ok (.newarray .int, 2) := by decide +kernel
theorem dX6_init_90 : decode cX6_init 90 = .ok (.putfield 45, 3) := by decide +kernel
theorem dX6_init_93 : decode cX6_init 93 = .ok (.aload_n 0, 1) := by decide +kernel
theorem dX6_init_94 : decode cX6_init 94 = .ok (.iconst 4, 1) := by decide +kernel
theorem dX6_init_95 : decode cX6_init 95 = .ok (.newarray .int, 2) := by decide +kernel
theorem dX6_init_97 : decode cX6_init 97 = .ok (.putfield 48, 3) := by decide +kernel
theorem dX6_init_100 : decode cX6_init 100 = .ok (.aload_n 0, 1) := by decide +kernel
theorem dX6_init_101 : decode cX6_init 101 = .ok (.bipush 6, 2) := by decide +kernel
theorem dX6_init_103 : decode cX6_init 103 = .ok (.newarray .int, 2) := by decide +kernel
theorem dX6_init_105 : decode cX6_init 105 = .ok (.putfield 51, 3) := by decide +kernel
theorem dX6_init_108 : decode cX6_init 108 = .ok (.aload_n 0, 1) := by decide +kernel
theorem dX6_init_109 : decode cX6_init 109 = .ok (.bipush 6, 2) := by decide +kernel
theorem dX6_init_111 : decode cX6_init 111 = .ok (.newarray .int, 2) := by decide +kernel
theorem dX6_init_113 : decode cX6_init 113 = .ok (.putfield 54, 3) := by decide +kernel
theorem dX6_init_116 : decode cX6_init 116 = .ok (.aload_n 0, 1) := by decide +kernel
theorem dX6_init_117 : decode cX6_init 117 = .ok (.bipush 60, 2) := by decide +kernel
theorem dX6_init_119 : decode cX6_init 119 = .ok (.newarray .int, 2) := by decide +kernel
theorem dX6_init_121 : decode cX6_init 121 = .ok (.putfield 57, 3) := by decide +kernel
theorem dX6_init_124 : decode cX6_init 124 = .ok (.return_, 1) := by decide +kernel
theorem dX6_thrown_0 : decode cX6_thrown 0 = .ok (.aload_n 0, 1) := by decide +kernel
theorem dX6_thrown_1 : decode cX6_thrown 1 = .ok (.getfield 60, 3) := by decide +kernel
theorem dX6_thrown_4 : decode cX6_thrown 4 = .ok (.ireturn, 1) := by decide +kernel
theorem dX6_bad_0 : decode cX6_bad 0 = .ok (.iload_n 1, 1) := by decide +kernel
theorem dX6_bad_1 : decode cX6_bad 1 = .ok (.ifCond .eq 8, 3) := by decide +kernel
theorem dX6_bad_4 : decode cX6_bad 4 = .ok (.aload_n 0, 1) := by decide +kernel
theorem dX6_bad_5 : decode cX6_bad 5 = .ok (.iload_n 2, 1) := by decide +kernel
theorem dX6_bad_6 : decode cX6_bad 6 = .ok (.putfield 60, 3) := by decide +kernel
theorem dX6_bad_9 : decode cX6_bad 9 = .ok (.iload_n 1, 1) := by decide +kernel
theorem dX6_bad_10 : decode cX6_bad 10 = .ok (.ireturn, 1) := by decide +kernel
theorem dX6_isBits_0 : decode cX6_isBits 0 = .ok (.iload_n 0, 1) := by decide +kernel
theorem dX6_isBits_1 : decode cX6_isBits 1 = .ok (.ifCond .lt 14, 3) := by decide +kernel
theorem dX6_isBits_4 : decode cX6_isBits 4 = .ok (.iload_n 0, 1) := by decide +kernel
theorem dX6_isBits_5 : decode cX6_isBits 5 = .ok (.sipush 255, 3) := by decide +kernel
theorem dX6_isBits_8 : decode cX6_isBits 8 = .ok (.if_icmp .gt 7, 3) := by decide +kernel
theorem dX6_isBits_11 : decode cX6_isBits 11 = .ok (.iconst 1, 1) := by decide +kernel
theorem dX6_isBits_12 : decode cX6_isBits 12 = .ok (.goto 4, 3) := by decide +kernel
theorem dX6_isBits_15 : decode cX6_isBits 15 = .ok (.iconst 0, 1) := by decide +kernel
theorem dX6_isBits_16 : decode cX6_isBits 16 = .ok (.ireturn, 1) := by decide +kernel
theorem dX6_meal_0 : decode cX6_meal 0 = .ok (.aload_n 0, 1) := by decide +kernel
theorem dX6_meal_1 : decode cX6_meal 1 = .ok (.iconst 0, 1) := by decide +kernel
theorem dX6_meal_2 : decode cX6_meal 2 = .ok (.putfield 60, 3) := by decide +kernel
theorem dX6_meal_5 : decode cX6_meal 5 = .ok (.aload_n 0, 1) := by decide +kernel
theorem dX6_meal_6 : decode cX6_meal 6 = .ok (.iload_n 1, 1) := by decide +kernel
theorem dX6_meal_7 : decode cX6_meal 7 = .ok (.invokestatic 63, 3) := by decide +kernel
theorem dX6_meal_10 : decode cX6_meal 10 = .ok (.ifCond .eq 10, 3) := by decide +kernel
theorem dX6_meal_13 : decode cX6_meal 13 = .ok (.iload_n 2, 1) := by decide +kernel
theorem dX6_meal_14 : decode cX6_meal 14 = .ok (.invokestatic 63, 3) := by decide +kernel
theorem dX6_meal_17 : decode cX6_meal 17 = .ok (.ifCond .ne 7, 3) := by decide +kernel
theorem dX6_meal_20 : decode cX6_meal 20 = .ok (.iconst 1, 1) := by decide +kernel
theorem dX6_meal_21 : decode cX6_meal 21 = .ok (.goto 4, 3) := by decide +kernel
theorem dX6_meal_24 : decode cX6_meal 24 = .ok (.iconst 0, 1) := by decide +kernel
theorem dX6_meal_25 : decode cX6_meal 25 = .ok (.iconst 1, 1) := by decide +kernel
theorem dX6_meal_26 : decode cX6_meal 26 = .ok (.invokevirtual 67, 3) := by decide +kernel
theorem dX6_meal_29 : decode cX6_meal 29 = .ok (.ifCond .ne 25, 3) := by decide +kernel
theorem dX6_meal_32 : decode cX6_meal 32 = .ok (.aload_n 0, 1) := by decide +kernel
theorem dX6_meal_33 : decode cX6_meal 33 = .ok (.aload_n 0, 1) := by decide +kernel
theorem dX6_meal_34 : decode cX6_meal 34 = .ok (.getfield 71, 3) := by decide +kernel
theorem dX6_meal_37 : decode cX6_meal 37 = .ok (.bipush 6, 2) := by decide +kernel
theorem dX6_meal_39 : decode cX6_meal 39 = .ok (.if_icmp .ne 7, 3) := by decide +kernel
theorem dX6_meal_42 : decode cX6_meal 42 = .ok (.iconst 1, 1) := by decide +kernel
theorem dX6_meal_43 : decode cX6_meal 43 = .ok (.goto 4, 3) := by decide +kernel
theorem dX6_meal_46 : decode cX6_meal 46 = .ok (.iconst 0, 1) := by decide +kernel
theorem dX6_meal_47 : decode cX6_meal 47 = .ok (.iconst 2, 1) := by decide +kernel
theorem dX6_meal_48 : decode cX6_meal 48 = .ok (.invokevirtual 67, 3) := by decide +kernel
theorem dX6_meal_51 : decode cX6_meal 51 = .ok (.ifCond .eq 5, 3) := by decide +kernel
theorem dX6_meal_54 : decode cX6_meal 54 = .ok (.iconst 0, 1) := by decide +kernel
theorem dX6_meal_55 : decode cX6_meal 55 = .ok (.ireturn, 1) := by decide +kernel
theorem dX6_meal_56 : decode cX6_meal 56 = .ok (.aload_n 0, 1) := by decide +kernel
theorem dX6_meal_57 : decode cX6_meal 57 = .ok (.getfield 9, 3) := by decide +kernel
theorem dX6_meal_60 : decode cX6_meal 60 = .ok (.aload_n 0, 1) := by decide +kernel
theorem dX6_meal_61 : decode cX6_meal 61 = .ok (.getfield 71, 3) := by decide +kernel
theorem dX6_meal_64 : decode cX6_meal 64 = .ok (.iload_n 1, 1) := by decide +kernel
theorem dX6_meal_65 : decode cX6_meal 65 = .ok (.iastore, 1) := by decide +kernel
theorem dX6_meal_66 : decode cX6_meal 66 = .ok (.aload_n 0, 1) := by decide +kernel
theorem dX6_meal_67 : decode cX6_meal 67 = .ok (.getfield 13, 3) := by decide +kernel
theorem dX6_meal_70 : decode cX6_meal 70 = .ok (.aload_n 0, 1) := by decide +kernel
theorem dX6_meal_71 : decode cX6_meal 71 = .ok (.getfield 71, 3) := by decide +kernel
theorem dX6_meal_74 : decode cX6_meal 74 = .ok (.iload_n 2, 1) := by decide +kernel
theorem dX6_meal_75 : decode cX6_meal 75 = .ok (.iastore, 1) := by decide +kernel
theorem dX6_meal_76 : decode cX6_meal 76 = .ok (.aload_n 0, 1) := by decide +kernel
theorem dX6_meal_77 : decode cX6_meal 77 = .ok (.dup, 1) := by decide +kernel
theorem dX6_meal_78 : decode cX6_meal 78 = .ok (.getfield 71, 3) := by decide +kernel
theorem dX6_meal_81 : decode cX6_meal 81 = .ok (.iconst 1, 1) := by decide +kernel
theorem dX6_meal_82 : decode cX6_meal 82 = .ok (.iadd, 1) := by decide +kernel
theorem dX6_meal_83 : decode cX6_meal 83 = .ok (.putfield 71, 3) := by decide +kernel
theorem dX6_meal_86 : decode cX6_meal 86 = .ok (.aload_n 0, 1) := by decide +kernel
theorem dX6_meal_87 : decode cX6_meal 87 = .ok (.getfield 71, 3) := by decide +kernel
theorem dX6_meal_90 : decode cX6_meal 90 = .ok (.iconst 1, 1) := by decide +kernel
theorem dX6_meal_91 : decode cX6_meal 91 = .ok (.isub, 1) := by decide +kernel
theorem dX6_meal_92 : decode cX6_meal 92 = .ok (.ireturn, 1) := by decide +kernel
theorem dX6_isMeal_0 : decode cX6_isMeal 0 = .ok (.aload_n 0, 1) := by decide +kernel
theorem dX6_isMeal_1 : decode cX6_isMeal 1 = .ok (.iload_n 1, 1) := by decide +kernel
theorem dX6_isMeal_2 : decode cX6_isMeal 2 = .ok (.ifCond .lt 11, 3) := by decide +kernel
theorem dX6_isMeal_5 : decode cX6_isMeal 5 = .ok (.iload_n 1, 1) := by decide +kernel
theorem dX6_isMeal_6 : decode cX6_isMeal 6 = .ok (.aload_n 0, 1) := by decide +kernel
theorem dX6_isMeal_7 : decode cX6_isMeal 7 = .ok (.getfield 71, 3) := by decide +kernel
theorem dX6_isMeal_10 : decode cX6_isMeal 10 = .ok (.if_icmp .lt 7, 3) := by decide +kernel
theorem dX6_isMeal_13 : decode cX6_isMeal 13 = .ok (.iconst 1, 1) := by decide +kernel
theorem dX6_isMeal_14 : decode cX6_isMeal 14 = .ok (.goto 4, 3) := by decide +kernel
theorem dX6_isMeal_17 : decode cX6_isMeal 17 = .ok (.iconst 0, 1) := by decide +kernel
theorem dX6_isMeal_18 : decode cX6_isMeal 18 = .ok (.putfield 60, 3) := by decide +kernel
theorem dX6_isMeal_21 : decode cX6_isMeal 21 = .ok (.aload_n 0, 1) := by decide +kernel
theorem dX6_isMeal_22 : decode cX6_isMeal 22 = .ok (.getfield 60, 3) := by decide +kernel
theorem dX6_isMeal_25 : decode cX6_isMeal 25 = .ok (.ifCond .ne 7, 3) := by decide +kernel
theorem dX6_isMeal_28 : decode cX6_isMeal 28 = .ok (.iconst 1, 1) := by decide +kernel
theorem dX6_isMeal_29 : decode cX6_isMeal 29 = .ok (.goto 4, 3) := by decide +kernel
theorem dX6_isMeal_32 : decode cX6_isMeal 32 = .ok (.iconst 0, 1) := by decide +kernel
theorem dX6_isMeal_33 : decode cX6_isMeal 33 = .ok (.ireturn, 1) := by decide +kernel
theorem dX6_ate_0 : decode cX6_ate 0 = .ok (.aload_n 0, 1) := by decide +kernel
theorem dX6_ate_1 : decode cX6_ate 1 = .ok (.iload_n 1, 1) := by decide +kernel
theorem dX6_ate_2 : decode cX6_ate 2 = .ok (.invokevirtual 74, 3) := by decide +kernel
theorem dX6_ate_5 : decode cX6_ate 5 = .ok (.ifCond .eq 27, 3) := by decide +kernel
theorem dX6_ate_8 : decode cX6_ate 8 = .ok (.aload_n 0, 1) := by decide +kernel
theorem dX6_ate_9 : decode cX6_ate 9 = .ok (.iload_n 2, 1) := by decide +kernel
theorem dX6_ate_10 : decode cX6_ate 10 = .ok (.ifCond .lt 10, 3) := by decide +kernel
theorem dX6_ate_13 : decode cX6_ate 13 = .ok (.iload_n 2, 1) := by decide +kernel
theorem dX6_ate_14 : decode cX6_ate 14 = .ok (.sipush 1000, 3) := by decide +kernel
theorem dX6_ate_17 : decode cX6_ate 17 = .ok (.if_icmp .le 7, 3) := by decide +kernel
theorem dX6_ate_20 : decode cX6_ate 20 = .ok (.iconst 1, 1) := by decide +kernel
theorem dX6_ate_21 : decode cX6_ate 21 = .ok (.goto 4, 3) := by decide +kernel
theorem dX6_ate_24 : decode cX6_ate 24 = .ok (.iconst 0, 1) := by decide +kernel
theorem dX6_ate_25 : decode cX6_ate 25 = .ok (.iconst 2, 1) := by decide +kernel
theorem dX6_ate_26 : decode cX6_ate 26 = .ok (.invokevirtual 67, 3) := by decide +kernel
theorem dX6_ate_29 : decode cX6_ate 29 = .ok (.ifCond .eq 5, 3) := by decide +kernel
theorem dX6_ate_32 : decode cX6_ate 32 = .ok (.iconst 0, 1) := by decide +kernel
theorem dX6_ate_33 : decode cX6_ate 33 = .ok (.ireturn, 1) := by decide +kernel
theorem dX6_ate_34 : decode cX6_ate 34 = .ok (.aload_n 0, 1) := by decide +kernel
theorem dX6_ate_35 : decode cX6_ate 35 = .ok (.getfield 16, 3) := by decide +kernel
theorem dX6_ate_38 : decode cX6_ate 38 = .ok (.iload_n 1, 1) := by decide +kernel
theorem dX6_ate_39 : decode cX6_ate 39 = .ok (.iaload, 1) := by decide +kernel
theorem dX6_ate_40 : decode cX6_ate 40 = .ok (.istore_n 3, 1) := by decide +kernel
theorem dX6_ate_41 : decode cX6_ate 41 = .ok (.aload_n 0, 1) := by decide +kernel
theorem dX6_ate_42 : decode cX6_ate 42 = .ok (.getfield 16, 3) := by decide +kernel
theorem dX6_ate_45 : decode cX6_ate 45 = .ok (.iload_n 1, 1) := by decide +kernel
theorem dX6_ate_46 : decode cX6_ate 46 = .ok (.iload_n 2, 1) := by decide +kernel
theorem dX6_ate_47 : decode cX6_ate 47 = .ok (.iastore, 1) := by decide +kernel
theorem dX6_ate_48 : decode cX6_ate 48 = .ok (.iload_n 3, 1) := by decide +kernel
theorem dX6_ate_49 : decode cX6_ate 49 = .ok (.ireturn, 1) := by decide +kernel
theorem dX6_day_0 : decode cX6_day 0 = .ok (.aload_n 0, 1) := by decide +kernel
theorem dX6_day_1 : decode cX6_day 1 = .ok (.iconst 0, 1) := by decide +kernel
theorem dX6_day_2 : decode cX6_day 2 = .ok (.putfield 60, 3) := by decide +kernel
theorem dX6_day_5 : decode cX6_day 5 = .ok (.aload_n 0, 1) := by decide +kernel
theorem dX6_day_6 : decode cX6_day 6 = .ok (.iload_n 1, 1) := by decide +kernel
theorem dX6_day_7 : decode cX6_day 7 = .ok (.invokestatic 63, 3) := by decide +kernel
theorem dX6_day_10 : decode cX6_day 10 = .ok (.ifCond .ne 7, 3) := by decide +kernel
theorem dX6_day_13 : decode cX6_day 13 = .ok (.iconst 1, 1) := by decide +kernel
theorem dX6_day_14 : decode cX6_day 14 = .ok (.goto 4, 3) := by decide +kernel
theorem dX6_day_17 : decode cX6_day 17 = .ok (.iconst 0, 1) := by decide +kernel
theorem dX6_day_18 : decode cX6_day 18 = .ok (.iconst 1, 1) := by decide +kernel
theorem dX6_day_19 : decode cX6_day 19 = .ok (.invokevirtual 67, 3) := by decide +kernel
theorem dX6_day_22 : decode cX6_day 22 = .ok (.ifCond .ne 26, 3) := by decide +kernel
theorem dX6_day_25 : decode cX6_day 25 = .ok (.aload_n 0, 1) := by decide +kernel
theorem dX6_day_26 : decode cX6_day 26 = .ok (.aload_n 0, 1) := by decide +kernel
theorem dX6_day_27 : decode cX6_day 27 = .ok (.getfield 77, 3) := by decide +kernel
theorem dX6_day_30 : decode cX6_day 30 = .ok (.sipush 150, 3) := by decide +kernel
theorem dX6_day_33 : decode cX6_day 33 = .ok (.if_icmp .ne 7, 3) := by decide +kernel
theorem dX6_day_36 : decode cX6_day 36 = .ok (.iconst 1, 1) := by decide +kernel
theorem dX6_day_37 : decode cX6_day 37 = .ok (.goto 4, 3) := by decide +kernel
theorem dX6_day_40 : decode cX6_day 40 = .ok (.iconst 0, 1) := by decide +kernel
theorem dX6_day_41 : decode cX6_day 41 = .ok (.iconst 2, 1) := by decide +kernel
theorem dX6_day_42 : decode cX6_day 42 = .ok (.invokevirtual 67, 3) := by decide +kernel
theorem dX6_day_45 : decode cX6_day 45 = .ok (.ifCond .eq 5, 3) := by decide +kernel
theorem dX6_day_48 : decode cX6_day 48 = .ok (.iconst 0, 1) := by decide +kernel
theorem dX6_day_49 : decode cX6_day 49 = .ok (.ireturn, 1) := by decide +kernel
theorem dX6_day_50 : decode cX6_day 50 = .ok (.aload_n 0, 1) := by decide +kernel
theorem dX6_day_51 : decode cX6_day 51 = .ok (.getfield 19, 3) := by decide +kernel
theorem dX6_day_54 : decode cX6_day 54 = .ok (.aload_n 0, 1) := by decide +kernel
theorem dX6_day_55 : decode cX6_day 55 = .ok (.getfield 77, 3) := by decide +kernel
theorem dX6_day_58 : decode cX6_day 58 = .ok (.iload_n 1, 1) := by decide +kernel
theorem dX6_day_59 : decode cX6_day 59 = .ok (.iastore, 1) := by decide +kernel
theorem dX6_day_60 : decode cX6_day 60 = .ok (.aload_n 0, 1) := by decide +kernel
theorem dX6_day_61 : decode cX6_day 61 = .ok (.getfield 25, 3) := by decide +kernel
theorem dX6_day_64 : decode cX6_day 64 = .ok (.aload_n 0, 1) := by decide +kernel
theorem dX6_day_65 : decode cX6_day 65 = .ok (.getfield 77, 3) := by decide +kernel
theorem dX6_day_68 : decode cX6_day 68 = .ok (.iconst 1, 1) := by decide +kernel
theorem dX6_day_69 : decode cX6_day 69 = .ok (.bastore, 1) := by decide +kernel
theorem dX6_day_70 : decode cX6_day 70 = .ok (.iconst 0, 1) := by decide +kernel
theorem dX6_day_71 : decode cX6_day 71 = .ok (.istore_n 2, 1) := by decide +kernel
theorem dX6_day_72 : decode cX6_day 72 = .ok (.iload_n 2, 1) := by decide +kernel
theorem dX6_day_73 : decode cX6_day 73 = .ok (.bipush 6, 2) := by decide +kernel
theorem dX6_day_75 : decode cX6_day 75 = .ok (.if_icmp .ge 48, 3) := by decide +kernel
theorem dX6_day_78 : decode cX6_day 78 = .ok (.aload_n 0, 1) := by decide +kernel
theorem dX6_day_79 : decode cX6_day 79 = .ok (.getfield 22, 3) := by decide +kernel
theorem dX6_day_82 : decode cX6_day 82 = .ok (.bipush 6, 2) := by decide +kernel
theorem dX6_day_84 : decode cX6_day 84 = .ok (.aload_n 0, 1) := by decide +kernel
theorem dX6_day_85 : decode cX6_day 85 = .ok (.getfield 77, 3) := by decide +kernel
theorem dX6_day_88 : decode cX6_day 88 = .ok (.imul, 1) := by decide +kernel
theorem dX6_day_89 : decode cX6_day 89 = .ok (.iload_n 2, 1) := by decide +kernel
theorem dX6_day_90 : decode cX6_day 90 = .ok (.iadd, 1) := by decide +kernel
theorem dX6_day_91 : decode cX6_day 91 = .ok (.iload_n 2, 1) := by decide +kernel
theorem dX6_day_92 : decode cX6_day 92 = .ok (.aload_n 0, 1) := by decide +kernel
theorem dX6_day_93 : decode cX6_day 93 = .ok (.getfield 71, 3) := by decide +kernel
theorem dX6_day_96 : decode cX6_day 96 = .ok (.if_icmp .ge 12, 3) := by decide +kernel
theorem dX6_day_99 : decode cX6_day 99 = .ok (.aload_n 0, 1) := by decide +kernel
theorem dX6_day_100 : decode cX6_day 100 = .ok (.getfield 16, 3) := by decide +kernel
theorem dX6_day_103 : decode cX6_day 103 = .ok (.iload_n 2, 1) := by decide +kernel
theorem dX6_day_104 : decode cX6_day 104 = .ok (.iaload, 1) := by decide +kernel
theorem dX6_day_105 : decode cX6_day 105 = .ok (.goto 4, 3) := by decide +kernel
theorem dX6_day_108 : decode cX6_day 108 = .ok (.iconst 0, 1) := by decide +kernel
theorem dX6_day_109 : decode cX6_day 109 = .ok (.iastore, 1) := by decide +kernel
theorem dX6_day_110 : decode cX6_day 110 = .ok (.aload_n 0, 1) := by decide +kernel
theorem dX6_day_111 : decode cX6_day 111 = .ok (.getfield 16, 3) := by decide +kernel
theorem dX6_day_114 : decode cX6_day 114 = .ok (.iload_n 2, 1) := by decide +kernel
theorem dX6_day_115 : decode cX6_day 115 = .ok (.iconst 0, 1) := by decide +kernel
theorem dX6_day_116 : decode cX6_day 116 = .ok (.iastore, 1) := by decide +kernel
theorem dX6_day_117 : decode cX6_day 117 = .ok (.iinc 2 1, 3) := by decide +kernel
theorem dX6_day_120 : decode cX6_day 120 = .ok (.goto (-48), 3) := by decide +kernel
theorem dX6_day_123 : decode cX6_day 123 = .ok (.aload_n 0, 1) := by decide +kernel
theorem dX6_day_124 : decode cX6_day 124 = .ok (.dup, 1) := by decide +kernel
theorem dX6_day_125 : decode cX6_day 125 = .ok (.getfield 77, 3) := by decide +kernel
theorem dX6_day_128 : decode cX6_day 128 = .ok (.iconst 1, 1) := by decide +kernel
theorem dX6_day_129 : decode cX6_day 129 = .ok (.iadd, 1) := by decide +kernel
theorem dX6_day_130 : decode cX6_day 130 = .ok (.putfield 77, 3) := by decide +kernel
theorem dX6_day_133 : decode cX6_day 133 = .ok (.aload_n 0, 1) := by decide +kernel
theorem dX6_day_134 : decode cX6_day 134 = .ok (.getfield 77, 3) := by decide +kernel
theorem dX6_day_137 : decode cX6_day 137 = .ok (.iconst 1, 1) := by decide +kernel
theorem dX6_day_138 : decode cX6_day 138 = .ok (.isub, 1) := by decide +kernel
theorem dX6_day_139 : decode cX6_day 139 = .ok (.ireturn, 1) := by decide +kernel
theorem dX6_drop_0 : decode cX6_drop 0 = .ok (.aload_n 0, 1) := by decide +kernel
theorem dX6_drop_1 : decode cX6_drop 1 = .ok (.iconst 0, 1) := by decide +kernel
theorem dX6_drop_2 : decode cX6_drop 2 = .ok (.putfield 60, 3) := by decide +kernel
theorem dX6_drop_5 : decode cX6_drop 5 = .ok (.aload_n 0, 1) := by decide +kernel
theorem dX6_drop_6 : decode cX6_drop 6 = .ok (.iload_n 1, 1) := by decide +kernel
theorem dX6_drop_7 : decode cX6_drop 7 = .ok (.ifCond .lt 11, 3) := by decide +kernel
theorem dX6_drop_10 : decode cX6_drop 10 = .ok (.iload_n 1, 1) := by decide +kernel
theorem dX6_drop_11 : decode cX6_drop 11 = .ok (.aload_n 0, 1) := by decide +kernel
theorem dX6_drop_12 : decode cX6_drop 12 = .ok (.getfield 77, 3) := by decide +kernel
theorem dX6_drop_15 : decode cX6_drop 15 = .ok (.if_icmp .lt 7, 3) := by decide +kernel
theorem dX6_drop_18 : decode cX6_drop 18 = .ok (.iconst 1, 1) := by decide +kernel
theorem dX6_drop_19 : decode cX6_drop 19 = .ok (.goto 4, 3) := by decide +kernel
theorem dX6_drop_22 : decode cX6_drop 22 = .ok (.iconst 0, 1) := by decide +kernel
theorem dX6_drop_23 : decode cX6_drop 23 = .ok (.iconst 1, 1) := by decide +kernel
theorem dX6_drop_24 : decode cX6_drop 24 = .ok (.invokevirtual 67, 3) := by decide +kernel
theorem dX6_drop_27 : decode cX6_drop 27 = .ok (.ifCond .eq 5, 3) := by decide +kernel
theorem dX6_drop_30 : decode cX6_drop 30 = .ok (.iconst 0, 1) := by decide +kernel
theorem dX6_drop_31 : decode cX6_drop 31 = .ok (.ireturn, 1) := by decide +kernel
theorem dX6_drop_32 : decode cX6_drop 32 = .ok (.aload_n 0, 1) := by decide +kernel
theorem dX6_drop_33 : decode cX6_drop 33 = .ok (.getfield 25, 3) := by decide +kernel
theorem dX6_drop_36 : decode cX6_drop 36 = .ok (.iload_n 1, 1) := by decide +kernel
theorem dX6_drop_37 : decode cX6_drop 37 = .ok (.baload, 1) := by decide +kernel
theorem dX6_drop_38 : decode cX6_drop 38 = .ok (.istore_n 2, 1) := by decide +kernel
theorem dX6_drop_39 : decode cX6_drop 39 = .ok (.aload_n 0, 1) := by decide +kernel
theorem dX6_drop_40 : decode cX6_drop 40 = .ok (.getfield 25, 3) := by decide +kernel
theorem dX6_drop_43 : decode cX6_drop 43 = .ok (.iload_n 1, 1) := by decide +kernel
theorem dX6_drop_44 : decode cX6_drop 44 = .ok (.iconst 0, 1) := by decide +kernel
theorem dX6_drop_45 : decode cX6_drop 45 = .ok (.bastore, 1) := by decide +kernel
theorem dX6_drop_46 : decode cX6_drop 46 = .ok (.iload_n 2, 1) := by decide +kernel
theorem dX6_drop_47 : decode cX6_drop 47 = .ok (.ireturn, 1) := by decide +kernel
theorem dX6_counts_0 : decode cX6_counts 0 = .ok (.aload_n 0, 1) := by decide +kernel
theorem dX6_counts_1 : decode cX6_counts 1 = .ok (.iconst 0, 1) := by decide +kernel
theorem dX6_counts_2 : decode cX6_counts 2 = .ok (.putfield 80, 3) := by decide +kernel
theorem dX6_counts_5 : decode cX6_counts 5 = .ok (.aload_n 0, 1) := by decide +kernel
theorem dX6_counts_6 : decode cX6_counts 6 = .ok (.iconst 0, 1) := by decide +kernel
theorem dX6_counts_7 : decode cX6_counts 7 = .ok (.putfield 83, 3) := by decide +kernel
theorem dX6_counts_10 : decode cX6_counts 10 = .ok (.aload_n 0, 1) := by decide +kernel
theorem dX6_counts_11 : decode cX6_counts 11 = .ok (.lconst 0, 1) := by decide +kernel
theorem dX6_counts_12 : decode cX6_counts 12 = .ok (.putfield 86, 3) := by decide +kernel
theorem dX6_counts_15 : decode cX6_counts 15 = .ok (.aload_n 0, 1) := by decide +kernel
theorem dX6_counts_16 : decode cX6_counts 16 = .ok (.lconst 0, 1) := by decide +kernel
theorem dX6_counts_17 : decode cX6_counts 17 = .ok (.putfield 90, 3) := by decide +kernel
theorem dX6_counts_20 : decode cX6_counts 20 = .ok (.iconst 0, 1) := by decide +kernel
theorem dX6_counts_21 : decode cX6_counts 21 = .ok (.istore 5, 2) := by decide +kernel
theorem dX6_counts_23 : decode cX6_counts 23 = .ok (.iload 5, 2) := by decide +kernel
theorem dX6_counts_25 : decode cX6_counts 25 = .ok (.aload_n 0, 1) := by decide +kernel
theorem dX6_counts_26 : decode cX6_counts 26 = .ok (.getfield 77, 3) := by decide +kernel
theorem dX6_counts_29 : decode cX6_counts 29 = .ok (.if_icmp .ge 111, 3) := by decide +kernel
theorem dX6_counts_32 : decode cX6_counts 32 = .ok (.aload_n 0, 1) := by decide +kernel
theorem dX6_counts_33 : decode cX6_counts 33 = .ok (.getfield 25, 3) := by decide +kernel
theorem dX6_counts_36 : decode cX6_counts 36 = .ok (.iload 5, 2) := by decide +kernel
theorem dX6_counts_38 : decode cX6_counts 38 = .ok (.baload, 1) := by decide +kernel
theorem dX6_counts_39 : decode cX6_counts 39 = .ok (.ifCond .eq 95, 3) := by decide +kernel
theorem dX6_counts_42 : decode cX6_counts 42 = .ok (.aload_n 0, 1) := by decide +kernel
theorem dX6_counts_43 : decode cX6_counts 43 = .ok (.getfield 19, 3) := by decide +kernel
theorem dX6_counts_46 : decode cX6_counts 46 = .ok (.iload 5, 2) := by decide +kernel
theorem dX6_counts_48 : decode cX6_counts 48 = .ok (.iaload, 1) := by decide +kernel
theorem dX6_counts_49 : decode cX6_counts 49 = .ok (.iload_n 2, 1) := by decide +kernel
theorem dX6_counts_50 : decode cX6_counts 50 = .ok (.iand, 1) := by decide +kernel
theorem dX6_counts_51 : decode cX6_counts 51 = .ok (.iload_n 3, 1) := by decide +kernel
theorem dX6_counts_52 : decode cX6_counts 52 = .ok (.if_icmp .eq 6, 3) := by decide +kernel
theorem dX6_counts_55 : decode cX6_counts 55 = .ok (.goto 79, 3) := by decide +kernel
theorem dX6_counts_58 : decode cX6_counts 58 = .ok (.aload_n 0, 1) := by decide +kernel
theorem dX6_counts_59 : decode cX6_counts 59 = .ok (.getfield 22, 3) := by decide +kernel
theorem dX6_counts_62 : decode cX6_counts 62 = .ok (.bipush 6, 2) := by decide +kernel
theorem dX6_counts_64 : decode cX6_counts 64 = .ok (.iload 5, 2) := by decide +kernel
theorem dX6_counts_66 : decode cX6_counts 66 = .ok (.imul, 1) := by decide +kernel
theorem dX6_counts_67 : decode cX6_counts 67 = .ok (.iload_n 1, 1) := by decide +kernel
theorem dX6_counts_68 : decode cX6_counts 68 = .ok (.iadd, 1) := by decide +kernel
theorem dX6_counts_69 : decode cX6_counts 69 = .ok (.iaload, 1) := by decide +kernel
theorem dX6_counts_70 : decode cX6_counts 70 = .ok (.istore 6, 2) := by decide +kernel
theorem dX6_counts_72 : decode cX6_counts 72 = .ok (.aload_n 0, 1) := by decide +kernel
theorem dX6_counts_73 : decode cX6_counts 73 = .ok (.dup, 1) := by decide +kernel
theorem dX6_counts_74 : decode cX6_counts 74 = .ok (.getfield 83, 3) := by decide +kernel
theorem dX6_counts_77 : decode cX6_counts 77 = .ok (.iconst 1, 1) := by decide +kernel
theorem dX6_counts_78 : decode cX6_counts 78 = .ok (.iadd, 1) := by decide +kernel
theorem dX6_counts_79 : decode cX6_counts 79 = .ok (.putfield 83, 3) := by decide +kernel
theorem dX6_counts_82 : decode cX6_counts 82 = .ok (.aload_n 0, 1) := by decide +kernel
theorem dX6_counts_83 : decode cX6_counts 83 = .ok (.dup, 1) := by decide +kernel
theorem dX6_counts_84 : decode cX6_counts 84 = .ok (.getfield 90, 3) := by decide +kernel
theorem dX6_counts_87 : decode cX6_counts 87 = .ok (.iload 6, 2) := by decide +kernel
theorem dX6_counts_89 : decode cX6_counts 89 = .ok (.i2l, 1) := by decide +kernel
theorem dX6_counts_90 : decode cX6_counts 90 = .ok (.ladd, 1) := by decide +kernel
theorem dX6_counts_91 : decode cX6_counts 91 = .ok (.putfield 90, 3) := by decide +kernel
theorem dX6_counts_94 : decode cX6_counts 94 = .ok (.aload_n 0, 1) := by decide +kernel
theorem dX6_counts_95 : decode cX6_counts 95 = .ok (.getfield 19, 3) := by decide +kernel
theorem dX6_counts_98 : decode cX6_counts 98 = .ok (.iload 5, 2) := by decide +kernel
theorem dX6_counts_100 : decode cX6_counts 100 = .ok (.iaload, 1) := by decide +kernel
theorem dX6_counts_101 : decode cX6_counts 101 = .ok (.iload 4, 2) := by decide +kernel
theorem dX6_counts_103 : decode cX6_counts 103 = .ok (.ishr, 1) := by decide +kernel
theorem dX6_counts_104 : decode cX6_counts 104 = .ok (.iconst 1, 1) := by decide +kernel
theorem dX6_counts_105 : decode cX6_counts 105 = .ok (.iand, 1) := by decide +kernel
theorem dX6_counts_106 : decode cX6_counts 106 = .ok (.ifCond .ne 6, 3) := by decide +kernel
theorem dX6_counts_109 : decode cX6_counts 109 = .ok (.goto 25, 3) := by decide +kernel
theorem dX6_counts_112 : decode cX6_counts 112 = .ok (.aload_n 0, 1) := by decide +kernel
theorem dX6_counts_113 : decode cX6_counts 113 = .ok (.dup, 1) := by decide +kernel
theorem dX6_counts_114 : decode cX6_counts 114 = .ok (.getfield 80, 3) := by decide +kernel
theorem dX6_counts_117 : decode cX6_counts 117 = .ok (.iconst 1, 1) := by decide +kernel
theorem dX6_counts_118 : decode cX6_counts 118 = .ok (.iadd, 1) := by decide +kernel
theorem dX6_counts_119 : decode cX6_counts 119 = .ok (.putfield 80, 3) := by decide +kernel
theorem dX6_counts_122 : decode cX6_counts 122 = .ok (.aload_n 0, 1) := by decide +kernel
theorem dX6_counts_123 : decode cX6_counts 123 = .ok (.dup, 1) := by decide +kernel
theorem dX6_counts_124 : decode cX6_counts 124 = .ok (.getfield 86, 3) := by decide +kernel
theorem dX6_counts_127 : decode cX6_counts 127 = .ok (.iload 6, 2) := by decide +kernel
theorem dX6_counts_129 : decode cX6_counts 129 = .ok (.i2l, 1) := by decide +kernel
theorem dX6_counts_130 : decode cX6_counts 130 = .ok (.ladd, 1) := by decide +kernel
theorem dX6_counts_131 : decode cX6_counts 131 = .ok (.putfield 86, 3) := by decide +kernel
theorem dX6_counts_134 : decode cX6_counts 134 = .ok (.iinc 5 1, 3) := by decide +kernel
theorem dX6_counts_137 : decode cX6_counts 137 = .ok (.goto (-114), 3) := by decide +kernel
theorem dX6_counts_140 : decode cX6_counts 140 = .ok (.return_, 1) := by decide +kernel
theorem dX6_markOf_0 : decode cX6_markOf 0 = .ok (.iload 4, 2) := by decide +kernel
theorem dX6_markOf_2 : decode cX6_markOf 2 = .ok (.iconst 4, 1) := by decide +kernel
theorem dX6_markOf_3 : decode cX6_markOf 3 = .ok (.if_icmp .ne 5, 3) := by decide +kernel
theorem dX6_markOf_6 : decode cX6_markOf 6 = .ok (.iconst (-1), 1) := by decide +kernel
theorem dX6_markOf_7 : decode cX6_markOf 7 = .ok (.ireturn, 1) := by decide +kernel
theorem dX6_markOf_8 : decode cX6_markOf 8 = .ok (.iconst (-1), 1) := by decide +kernel
theorem dX6_markOf_9 : decode cX6_markOf 9 = .ok (.istore 5, 2) := by decide +kernel
theorem dX6_markOf_11 : decode cX6_markOf 11 = .ok (.lconst 0, 1) := by decide +kernel
theorem dX6_markOf_12 : decode cX6_markOf 12 = .ok (.lstore 6, 2) := by decide +kernel
theorem dX6_markOf_14 : decode cX6_markOf 14 = .ok (.lconst 1, 1) := by decide +kernel
theorem dX6_markOf_15 : decode cX6_markOf 15 = .ok (.lstore 8, 2) := by decide +kernel
theorem dX6_markOf_17 : decode cX6_markOf 17 = .ok (.iconst 0, 1) := by decide +kernel
theorem dX6_markOf_18 : decode cX6_markOf 18 = .ok (.istore 10, 2) := by decide +kernel
theorem dX6_markOf_20 : decode cX6_markOf 20 = .ok (.iload 10, 2) := by decide +kernel
theorem dX6_markOf_22 : decode cX6_markOf 22 = .ok (.bipush 8, 2) := by decide +kernel
theorem dX6_markOf_24 : decode cX6_markOf 24 = .ok (.if_icmp .ge 175, 3) := by decide +kernel
theorem dX6_markOf_27 : decode cX6_markOf 27 = .ok (.iload_n 2, 1) := by decide +kernel
theorem dX6_markOf_28 : decode cX6_markOf 28 = .ok (.iload 10, 2) := by decide +kernel
theorem dX6_markOf_30 : decode cX6_markOf 30 = .ok (.ishr, 1) := by decide +kernel
theorem dX6_markOf_31 : decode cX6_markOf 31 = .ok (.iconst 1, 1) := by decide +kernel
theorem dX6_markOf_32 : decode cX6_markOf 32 = .ok (.iand, 1) := by decide +kernel
theorem dX6_markOf_33 : decode cX6_markOf 33 = .ok (.iconst 1, 1) := by decide +kernel
theorem dX6_markOf_34 : decode cX6_markOf 34 = .ok (.if_icmp .ne 6, 3) := by decide +kernel
theorem dX6_markOf_37 : decode cX6_markOf 37 = .ok (.goto 156, 3) := by decide +kernel
theorem dX6_markOf_40 : decode cX6_markOf 40 = .ok (.aload_n 0, 1) := by decide +kernel
theorem dX6_markOf_41 : decode cX6_markOf 41 = .ok (.iload_n 1, 1) := by decide +kernel
theorem dX6_markOf_42 : decode cX6_markOf 42 = .ok (.iload_n 2, 1) := by decide +kernel
theorem dX6_markOf_43 : decode cX6_markOf 43 = .ok (.iload_n 3, 1) := by decide +kernel
theorem dX6_markOf_44 : decode cX6_markOf 44 = .ok (.iload 10, 2) := by decide +kernel
theorem dX6_markOf_46 : decode cX6_markOf 46 = .ok (.invokevirtual 93, 3) := by decide +kernel
theorem dX6_markOf_49 : decode cX6_markOf 49 = .ok (.aload_n 0, 1) := by decide +kernel
theorem dX6_markOf_50 : decode cX6_markOf 50 = .ok (.getfield 80, 3) := by decide +kernel
theorem dX6_markOf_53 : decode cX6_markOf 53 = .ok (.i2l, 1) := by decide +kernel
theorem dX6_markOf_54 : decode cX6_markOf 54 = .ok (.lstore 11, 2) := by decide +kernel
theorem dX6_markOf_56 : decode cX6_markOf 56 = .ok (.aload_n 0, 1) := by decide +kernel
theorem dX6_markOf_57 : decode cX6_markOf 57 = .ok (.getfield 83, 3) := by decide +kernel
theorem dX6_markOf_60 : decode cX6_markOf 60 = .ok (.aload_n 0, 1) := by decide +kernel
theorem dX6_markOf_61 : decode cX6_markOf 61 = .ok (.getfield 80, 3) := by decide +kernel
theorem dX6_markOf_64 : decode cX6_markOf 64 = .ok (.isub, 1) := by decide +kernel
theorem dX6_markOf_65 : decode cX6_markOf 65 = .ok (.i2l, 1) := by decide +kernel
theorem dX6_markOf_66 : decode cX6_markOf 66 = .ok (.lstore 13, 2) := by decide +kernel
theorem dX6_markOf_68 : decode cX6_markOf 68 = .ok (.aload_n 0, 1) := by decide +kernel
theorem dX6_markOf_69 : decode cX6_markOf 69 = .ok (.getfield 86, 3) := by decide +kernel
theorem dX6_markOf_72 : decode cX6_markOf 72 = .ok (.lstore 15, 2) := by decide +kernel
theorem dX6_markOf_74 : decode cX6_markOf 74 = .ok (.aload_n 0, 1) := by decide +kernel
theorem dX6_markOf_75 : decode cX6_markOf 75 = .ok (.getfield 90, 3) := by decide +kernel
theorem dX6_markOf_78 : decode cX6_markOf 78 = .ok (.aload_n 0, 1) := by decide +kernel
theorem dX6_markOf_79 : decode cX6_markOf 79 = .ok (.getfield 86, 3) := by decide +kernel
theorem dX6_markOf_82 : decode cX6_markOf 82 = .ok (.lsub, 1) := by decide +kernel
theorem dX6_markOf_83 : decode cX6_markOf 83 = .ok (.lstore 17, 2) := by decide +kernel
theorem dX6_markOf_85 : decode cX6_markOf 85 = .ok (.lload 11, 2) := by decide +kernel
theorem dX6_markOf_87 : decode cX6_markOf 87 = .ok (.ldc2_w 97, 3) := by decide +kernel
theorem dX6_markOf_90 : decode cX6_markOf 90 = .ok (.lcmp, 1) := by decide +kernel
theorem dX6_markOf_91 : decode cX6_markOf 91 = .ok (.ifCond .lt 102, 3) := by decide +kernel
theorem dX6_markOf_94 : decode cX6_markOf 94 = .ok (.lload 13, 2) := by decide +kernel
theorem dX6_markOf_96 : decode cX6_markOf 96 = .ok (.ldc2_w 97, 3) := by decide +kernel
theorem dX6_markOf_99 : decode cX6_markOf 99 = .ok (.lcmp, 1) := by decide +kernel
theorem dX6_markOf_100 : decode cX6_markOf 100 = .ok (.ifCond .ge 6, 3) := by decide +kernel
theorem dX6_markOf_103 : decode cX6_markOf 103 = .ok (.goto 90, 3) := by decide +kernel
theorem dX6_markOf_106 : decode cX6_markOf 106 = .ok (.lload 15, 2) := by decide +kernel
theorem dX6_markOf_108 : decode cX6_markOf 108 = .ok (.lload 15, 2) := by decide +kernel
theorem dX6_markOf_110 : decode cX6_markOf 110 = .ok (.lmul, 1) := by decide +kernel
theorem dX6_markOf_111 : decode cX6_markOf 111 = .ok (.lload 13, 2) := by decide +kernel
theorem dX6_markOf_113 : decode cX6_markOf 113 = .ok (.lmul, 1) := by decide +kernel
theorem dX6_markOf_114 : decode cX6_markOf 114 = .ok (.lload 17, 2) := by decide +kernel
theorem dX6_markOf_116 : decode cX6_markOf 116 = .ok (.lload 17, 2) := by decide +kernel
theorem dX6_markOf_118 : decode cX6_markOf 118 = .ok (.lmul, 1) := by decide +kernel
theorem dX6_markOf_119 : decode cX6_markOf 119 = .ok (.lload 11, 2) := by decide +kernel
theorem dX6_markOf_121 : decode cX6_markOf 121 = .ok (.lmul, 1) := by decide +kernel
theorem dX6_markOf_122 : decode cX6_markOf 122 = .ok (.ladd, 1) := by decide +kernel
theorem dX6_markOf_123 : decode cX6_markOf 123 = .ok (.lstore 19, 2) := by decide +kernel
theorem dX6_markOf_125 : decode cX6_markOf 125 = .ok (.lload 11, 2) := by decide +kernel
theorem dX6_markOf_127 : decode cX6_markOf 127 = .ok (.lload 13, 2) := by decide +kernel
theorem dX6_markOf_129 : decode cX6_markOf 129 = .ok (.lmul, 1) := by decide +kernel
theorem dX6_markOf_130 : decode cX6_markOf 130 = .ok (.lstore 21, 2) := by decide +kernel
theorem dX6_markOf_132 : decode cX6_markOf 132 = .ok (.lload 19, 2) := by decide +kernel
theorem dX6_markOf_134 : decode cX6_markOf 134 = .ok (.lload 11, 2) := by decide +kernel
theorem dX6_markOf_136 : decode cX6_markOf 136 = .ok (.lload 13, 2) := by decide +kernel
theorem dX6_markOf_138 : decode cX6_markOf 138 = .ok (.ladd, 1) := by decide +kernel
theorem dX6_markOf_139 : decode cX6_markOf 139 = .ok (.lmul, 1) := by decide +kernel
theorem dX6_markOf_140 : decode cX6_markOf 140 = .ok (.aload_n 0, 1) := by decide +kernel
theorem dX6_markOf_141 : decode cX6_markOf 141 = .ok (.getfield 90, 3) := by decide +kernel
theorem dX6_markOf_144 : decode cX6_markOf 144 = .ok (.aload_n 0, 1) := by decide +kernel
theorem dX6_markOf_145 : decode cX6_markOf 145 = .ok (.getfield 90, 3) := by decide +kernel
theorem dX6_markOf_148 : decode cX6_markOf 148 = .ok (.lmul, 1) := by decide +kernel
theorem dX6_markOf_149 : decode cX6_markOf 149 = .ok (.lload 21, 2) := by decide +kernel
theorem dX6_markOf_151 : decode cX6_markOf 151 = .ok (.lmul, 1) := by decide +kernel
theorem dX6_markOf_152 : decode cX6_markOf 152 = .ok (.lcmp, 1) := by decide +kernel
theorem dX6_markOf_153 : decode cX6_markOf 153 = .ok (.ifCond .gt 6, 3) := by decide +kernel
theorem dX6_markOf_156 : decode cX6_markOf 156 = .ok (.goto 37, 3) := by decide +kernel
theorem dX6_markOf_159 : decode cX6_markOf 159 = .ok (.iload 5, 2) := by decide +kernel
theorem dX6_markOf_161 : decode cX6_markOf 161 = .ok (.ifCond .lt 20, 3) := by decide +kernel
theorem dX6_markOf_164 : decode cX6_markOf 164 = .ok (.lload 19, 2) := by decide +kernel
theorem dX6_markOf_166 : decode cX6_markOf 166 = .ok (.lload 8, 2) := by decide +kernel
theorem dX6_markOf_168 : decode cX6_markOf 168 = .ok (.lmul, 1) := by decide +kernel
theorem dX6_markOf_169 : decode cX6_markOf 169 = .ok (.lload 6, 2) := by decide +kernel
theorem dX6_markOf_171 : decode cX6_markOf 171 = .ok (.lload 21, 2) := by decide +kernel
theorem dX6_markOf_173 : decode cX6_markOf 173 = .ok (.lmul, 1) := by decide +kernel
theorem dX6_markOf_174 : decode cX6_markOf 174 = .ok (.lcmp, 1) := by decide +kernel
theorem dX6_markOf_175 : decode cX6_markOf 175 = .ok (.ifCond .gt 6, 3) := by decide +kernel
theorem dX6_markOf_178 : decode cX6_markOf 178 = .ok (.goto 15, 3) := by decide +kernel
theorem dX6_markOf_181 : decode cX6_markOf 181 = .ok (.iload 10, 2) := by decide +kernel
theorem dX6_markOf_183 : decode cX6_markOf 183 = .ok (.istore 5, 2) := by decide +kernel
theorem dX6_markOf_185 : decode cX6_markOf 185 = .ok (.lload 19, 2) := by decide +kernel
theorem dX6_markOf_187 : decode cX6_markOf 187 = .ok (.lstore 6, 2) := by decide +kernel
theorem dX6_markOf_189 : decode cX6_markOf 189 = .ok (.lload 21, 2) := by decide +kernel
theorem dX6_markOf_191 : decode cX6_markOf 191 = .ok (.lstore 8, 2) := by decide +kernel
theorem dX6_markOf_193 : decode cX6_markOf 193 = .ok (.iinc 10 1, 3) := by decide +kernel
theorem dX6_markOf_196 : decode cX6_markOf 196 = .ok (.goto (-176), 3) := by decide +kernel
theorem dX6_markOf_199 : decode cX6_markOf 199 = .ok (.iload 5, 2) := by decide +kernel
theorem dX6_markOf_201 : decode cX6_markOf 201 = .ok (.ireturn, 1) := by decide +kernel
theorem dX6_leavesOf_0 : decode cX6_leavesOf 0 = .ok (.aload_n 0, 1) := by decide +kernel
theorem dX6_leavesOf_1 : decode cX6_leavesOf 1 = .ok (.iload_n 1, 1) := by decide +kernel
theorem dX6_leavesOf_2 : decode cX6_leavesOf 2 = .ok (.iload_n 2, 1) := by decide +kernel
theorem dX6_leavesOf_3 : decode cX6_leavesOf 3 = .ok (.iload_n 3, 1) := by decide +kernel
theorem dX6_leavesOf_4 : decode cX6_leavesOf 4 = .ok (.iload 4, 2) := by decide +kernel
theorem dX6_leavesOf_6 : decode cX6_leavesOf 6 = .ok (.invokevirtual 99, 3) := by decide +kernel
theorem dX6_leavesOf_9 : decode cX6_leavesOf 9 = .ok (.istore 5, 2) := by decide +kernel
theorem dX6_leavesOf_11 : decode cX6_leavesOf 11 = .ok (.iload 5, 2) := by decide +kernel
theorem dX6_leavesOf_13 : decode cX6_leavesOf 13 = .ok (.ifCond .ge 5, 3) := by decide +kernel
theorem dX6_leavesOf_16 : decode cX6_leavesOf 16 = .ok (.iconst 1, 1) := by decide +kernel
theorem dX6_leavesOf_17 : decode cX6_leavesOf 17 = .ok (.ireturn, 1) := by decide +kernel
theorem dX6_leavesOf_18 : decode cX6_leavesOf 18 = .ok (.aload_n 0, 1) := by decide +kernel
theorem dX6_leavesOf_19 : decode cX6_leavesOf 19 = .ok (.iload_n 1, 1) := by decide +kernel
theorem dX6_leavesOf_20 : decode cX6_leavesOf 20 = .ok (.iload_n 2, 1) := by decide +kernel
theorem dX6_leavesOf_21 : decode cX6_leavesOf 21 = .ok (.iconst 1, 1) := by decide +kernel
theorem dX6_leavesOf_22 : decode cX6_leavesOf 22 = .ok (.iload 5, 2) := by decide +kernel
theorem dX6_leavesOf_24 : decode cX6_leavesOf 24 = .ok (.ishl, 1) := by decide +kernel
theorem dX6_leavesOf_25 : decode cX6_leavesOf 25 = .ok (.ior, 1) := by decide +kernel
theorem dX6_leavesOf_26 : decode cX6_leavesOf 26 = .ok (.iload_n 3, 1) := by decide +kernel
theorem dX6_leavesOf_27 : decode cX6_leavesOf 27 = .ok (.iload 4, 2) := by decide +kernel
theorem dX6_leavesOf_29 : decode cX6_leavesOf 29 = .ok (.iconst 1, 1) := by decide +kernel
theorem dX6_leavesOf_30 : decode cX6_leavesOf 30 = .ok (.iadd, 1) := by decide +kernel
theorem dX6_leavesOf_31 : decode cX6_leavesOf 31 = .ok (.invokevirtual 103, 3) := by decide +kernel
theorem dX6_leavesOf_34 : decode cX6_leavesOf 34 = .ok (.aload_n 0, 1) := by decide +kernel
theorem dX6_leavesOf_35 : decode cX6_leavesOf 35 = .ok (.iload_n 1, 1) := by decide +kernel
theorem dX6_leavesOf_36 : decode cX6_leavesOf 36 = .ok (.iload_n 2, 1) := by decide +kernel
theorem dX6_leavesOf_37 : decode cX6_leavesOf 37 = .ok (.iconst 1, 1) := by decide +kernel
theorem dX6_leavesOf_38 : decode cX6_leavesOf 38 = .ok (.iload 5, 2) := by decide +kernel
theorem dX6_leavesOf_40 : decode cX6_leavesOf 40 = .ok (.ishl, 1) := by decide +kernel
theorem dX6_leavesOf_41 : decode cX6_leavesOf 41 = .ok (.ior, 1) := by decide +kernel
theorem dX6_leavesOf_42 : decode cX6_leavesOf 42 = .ok (.iload_n 3, 1) := by decide +kernel
theorem dX6_leavesOf_43 : decode cX6_leavesOf 43 = .ok (.iconst 1, 1) := by decide +kernel
theorem dX6_leavesOf_44 : decode cX6_leavesOf 44 = .ok (.iload 5, 2) := by decide +kernel
theorem dX6_leavesOf_46 : decode cX6_leavesOf 46 = .ok (.ishl, 1) := by decide +kernel
end
section
theorem dX6_leavesOf_47 : decode cX6_leavesOf 47 = .ok (.ior, 1) := by decide +kernel
theorem dX6_leavesOf_48 : decode cX6_leavesOf 48 = .ok (.iload 4, 2) := by decide +kernel
theorem dX6_leavesOf_50 : decode cX6_leavesOf 50 = .ok (.iconst 1, 1) := by decide +kernel
theorem dX6_leavesOf_51 : decode cX6_leavesOf 51 = .ok (.iadd, 1) := by decide +kernel
theorem dX6_leavesOf_52 : decode cX6_leavesOf 52 = .ok (.invokevirtual 103, 3) := by decide +kernel
theorem dX6_leavesOf_55 : decode cX6_leavesOf 55 = .ok (.iadd, 1) := by decide +kernel
theorem dX6_leavesOf_56 : decode cX6_leavesOf 56 = .ok (.ireturn, 1) := by decide +kernel
theorem dX6_leaves_0 : decode cX6_leaves 0 = .ok (.aload_n 0, 1) := by decide +kernel
theorem dX6_leaves_1 : decode cX6_leaves 1 = .ok (.iload_n 1, 1) := by decide +kernel
theorem dX6_leaves_2 : decode cX6_leaves 2 = .ok (.invokevirtual 74, 3) := by decide +kernel
theorem dX6_leaves_5 : decode cX6_leaves 5 = .ok (.ifCond .eq 14, 3) := by decide +kernel
theorem dX6_leaves_8 : decode cX6_leaves 8 = .ok (.aload_n 0, 1) := by decide +kernel
theorem dX6_leaves_9 : decode cX6_leaves 9 = .ok (.iload_n 1, 1) := by decide +kernel
theorem dX6_leaves_10 : decode cX6_leaves 10 = .ok (.iconst 0, 1) := by decide +kernel
theorem dX6_leaves_11 : decode cX6_leaves 11 = .ok (.iconst 0, 1) := by decide +kernel
theorem dX6_leaves_12 : decode cX6_leaves 12 = .ok (.iconst 0, 1) := by decide +kernel
theorem dX6_leaves_13 : decode cX6_leaves 13 = .ok (.invokevirtual 103, 3) := by decide +kernel
theorem dX6_leaves_16 : decode cX6_leaves 16 = .ok (.goto 4, 3) := by decide +kernel
theorem dX6_leaves_19 : decode cX6_leaves 19 = .ok (.iconst 0, 1) := by decide +kernel
theorem dX6_leaves_20 : decode cX6_leaves 20 = .ok (.ireturn, 1) := by decide +kernel
theorem dX6_goes_0 : decode cX6_goes 0 = .ok (.aload_n 0, 1) := by decide +kernel
theorem dX6_goes_1 : decode cX6_goes 1 = .ok (.iconst 0, 1) := by decide +kernel
theorem dX6_goes_2 : decode cX6_goes 2 = .ok (.putfield 106, 3) := by decide +kernel
theorem dX6_goes_5 : decode cX6_goes 5 = .ok (.aload_n 0, 1) := by decide +kernel
theorem dX6_goes_6 : decode cX6_goes 6 = .ok (.iconst 0, 1) := by decide +kernel
theorem dX6_goes_7 : decode cX6_goes 7 = .ok (.putfield 109, 3) := by decide +kernel
theorem dX6_goes_10 : decode cX6_goes 10 = .ok (.aload_n 0, 1) := by decide +kernel
theorem dX6_goes_11 : decode cX6_goes 11 = .ok (.iconst 0, 1) := by decide +kernel
theorem dX6_goes_12 : decode cX6_goes 12 = .ok (.putfield 112, 3) := by decide +kernel
theorem dX6_goes_15 : decode cX6_goes 15 = .ok (.aload_n 0, 1) := by decide +kernel
theorem dX6_goes_16 : decode cX6_goes 16 = .ok (.iload_n 1, 1) := by decide +kernel
theorem dX6_goes_17 : decode cX6_goes 17 = .ok (.iconst 0, 1) := by decide +kernel
theorem dX6_goes_18 : decode cX6_goes 18 = .ok (.iconst 0, 1) := by decide +kernel
theorem dX6_goes_19 : decode cX6_goes 19 = .ok (.iconst 0, 1) := by decide +kernel
theorem dX6_goes_20 : decode cX6_goes 20 = .ok (.invokevirtual 99, 3) := by decide +kernel
theorem dX6_goes_23 : decode cX6_goes 23 = .ok (.istore_n 3, 1) := by decide +kernel
theorem dX6_goes_24 : decode cX6_goes 24 = .ok (.iload_n 3, 1) := by decide +kernel
theorem dX6_goes_25 : decode cX6_goes 25 = .ok (.ifCond .lt 70, 3) := by decide +kernel
theorem dX6_goes_28 : decode cX6_goes 28 = .ok (.aload_n 0, 1) := by decide +kernel
theorem dX6_goes_29 : decode cX6_goes 29 = .ok (.getfield 29, 3) := by decide +kernel
theorem dX6_goes_32 : decode cX6_goes 32 = .ok (.aload_n 0, 1) := by decide +kernel
theorem dX6_goes_33 : decode cX6_goes 33 = .ok (.getfield 112, 3) := by decide +kernel
theorem dX6_goes_36 : decode cX6_goes 36 = .ok (.iload_n 3, 1) := by decide +kernel
theorem dX6_goes_37 : decode cX6_goes 37 = .ok (.iastore, 1) := by decide +kernel
theorem dX6_goes_38 : decode cX6_goes 38 = .ok (.aload_n 0, 1) := by decide +kernel
theorem dX6_goes_39 : decode cX6_goes 39 = .ok (.dup, 1) := by decide +kernel
theorem dX6_goes_40 : decode cX6_goes 40 = .ok (.getfield 112, 3) := by decide +kernel
theorem dX6_goes_43 : decode cX6_goes 43 = .ok (.iconst 1, 1) := by decide +kernel
theorem dX6_goes_44 : decode cX6_goes 44 = .ok (.iadd, 1) := by decide +kernel
theorem dX6_goes_45 : decode cX6_goes 45 = .ok (.putfield 112, 3) := by decide +kernel
theorem dX6_goes_48 : decode cX6_goes 48 = .ok (.aload_n 0, 1) := by decide +kernel
theorem dX6_goes_49 : decode cX6_goes 49 = .ok (.dup, 1) := by decide +kernel
theorem dX6_goes_50 : decode cX6_goes 50 = .ok (.getfield 106, 3) := by decide +kernel
theorem dX6_goes_53 : decode cX6_goes 53 = .ok (.iconst 1, 1) := by decide +kernel
theorem dX6_goes_54 : decode cX6_goes 54 = .ok (.iload_n 3, 1) := by decide +kernel
theorem dX6_goes_55 : decode cX6_goes 55 = .ok (.ishl, 1) := by decide +kernel
theorem dX6_goes_56 : decode cX6_goes 56 = .ok (.ior, 1) := by decide +kernel
theorem dX6_goes_57 : decode cX6_goes 57 = .ok (.putfield 106, 3) := by decide +kernel
theorem dX6_goes_60 : decode cX6_goes 60 = .ok (.aload_n 0, 1) := by decide +kernel
theorem dX6_goes_61 : decode cX6_goes 61 = .ok (.dup, 1) := by decide +kernel
theorem dX6_goes_62 : decode cX6_goes 62 = .ok (.getfield 109, 3) := by decide +kernel
theorem dX6_goes_65 : decode cX6_goes 65 = .ok (.iload_n 2, 1) := by decide +kernel
theorem dX6_goes_66 : decode cX6_goes 66 = .ok (.iconst 1, 1) := by decide +kernel
theorem dX6_goes_67 : decode cX6_goes 67 = .ok (.iload_n 3, 1) := by decide +kernel
theorem dX6_goes_68 : decode cX6_goes 68 = .ok (.ishl, 1) := by decide +kernel
theorem dX6_goes_69 : decode cX6_goes 69 = .ok (.iand, 1) := by decide +kernel
theorem dX6_goes_70 : decode cX6_goes 70 = .ok (.ior, 1) := by decide +kernel
theorem dX6_goes_71 : decode cX6_goes 71 = .ok (.putfield 109, 3) := by decide +kernel
theorem dX6_goes_74 : decode cX6_goes 74 = .ok (.aload_n 0, 1) := by decide +kernel
theorem dX6_goes_75 : decode cX6_goes 75 = .ok (.iload_n 1, 1) := by decide +kernel
theorem dX6_goes_76 : decode cX6_goes 76 = .ok (.aload_n 0, 1) := by decide +kernel
theorem dX6_goes_77 : decode cX6_goes 77 = .ok (.getfield 106, 3) := by decide +kernel
theorem dX6_goes_80 : decode cX6_goes 80 = .ok (.aload_n 0, 1) := by decide +kernel
theorem dX6_goes_81 : decode cX6_goes 81 = .ok (.getfield 109, 3) := by decide +kernel
theorem dX6_goes_84 : decode cX6_goes 84 = .ok (.aload_n 0, 1) := by decide +kernel
theorem dX6_goes_85 : decode cX6_goes 85 = .ok (.getfield 112, 3) := by decide +kernel
theorem dX6_goes_88 : decode cX6_goes 88 = .ok (.invokevirtual 99, 3) := by decide +kernel
theorem dX6_goes_91 : decode cX6_goes 91 = .ok (.istore_n 3, 1) := by decide +kernel
theorem dX6_goes_92 : decode cX6_goes 92 = .ok (.goto (-68), 3) := by decide +kernel
theorem dX6_goes_95 : decode cX6_goes 95 = .ok (.return_, 1) := by decide +kernel
theorem dX6_isLeafOf_0 : decode cX6_isLeafOf 0 = .ok (.aload_n 0, 1) := by decide +kernel
theorem dX6_isLeafOf_1 : decode cX6_isLeafOf 1 = .ok (.getfield 25, 3) := by decide +kernel
theorem dX6_isLeafOf_4 : decode cX6_isLeafOf 4 = .ok (.iload_n 1, 1) := by decide +kernel
theorem dX6_isLeafOf_5 : decode cX6_isLeafOf 5 = .ok (.baload, 1) := by decide +kernel
theorem dX6_isLeafOf_6 : decode cX6_isLeafOf 6 = .ok (.ifCond .eq 25, 3) := by decide +kernel
theorem dX6_isLeafOf_9 : decode cX6_isLeafOf 9 = .ok (.aload_n 0, 1) := by decide +kernel
theorem dX6_isLeafOf_10 : decode cX6_isLeafOf 10 = .ok (.getfield 19, 3) := by decide +kernel
theorem dX6_isLeafOf_13 : decode cX6_isLeafOf 13 = .ok (.iload_n 1, 1) := by decide +kernel
theorem dX6_isLeafOf_14 : decode cX6_isLeafOf 14 = .ok (.iaload, 1) := by decide +kernel
theorem dX6_isLeafOf_15 : decode cX6_isLeafOf 15 = .ok (.aload_n 0, 1) := by decide +kernel
theorem dX6_isLeafOf_16 : decode cX6_isLeafOf 16 = .ok (.getfield 106, 3) := by decide +kernel
theorem dX6_isLeafOf_19 : decode cX6_isLeafOf 19 = .ok (.iand, 1) := by decide +kernel
theorem dX6_isLeafOf_20 : decode cX6_isLeafOf 20 = .ok (.aload_n 0, 1) := by decide +kernel
theorem dX6_isLeafOf_21 : decode cX6_isLeafOf 21 = .ok (.getfield 109, 3) := by decide +kernel
theorem dX6_isLeafOf_24 : decode cX6_isLeafOf 24 = .ok (.if_icmp .ne 7, 3) := by decide +kernel
theorem dX6_isLeafOf_27 : decode cX6_isLeafOf 27 = .ok (.iconst 1, 1) := by decide +kernel
theorem dX6_isLeafOf_28 : decode cX6_isLeafOf 28 = .ok (.goto 4, 3) := by decide +kernel
theorem dX6_isLeafOf_31 : decode cX6_isLeafOf 31 = .ok (.iconst 0, 1) := by decide +kernel
theorem dX6_isLeafOf_32 : decode cX6_isLeafOf 32 = .ok (.ireturn, 1) := by decide +kernel
theorem dX6_split_0 : decode cX6_split 0 = .ok (.aload_n 0, 1) := by decide +kernel
theorem dX6_split_1 : decode cX6_split 1 = .ok (.iload_n 1, 1) := by decide +kernel
theorem dX6_split_2 : decode cX6_split 2 = .ok (.invokevirtual 74, 3) := by decide +kernel
theorem dX6_split_5 : decode cX6_split 5 = .ok (.ifCond .eq 23, 3) := by decide +kernel
theorem dX6_split_8 : decode cX6_split 8 = .ok (.aload_n 0, 1) := by decide +kernel
theorem dX6_split_9 : decode cX6_split 9 = .ok (.iload_n 2, 1) := by decide +kernel
theorem dX6_split_10 : decode cX6_split 10 = .ok (.invokestatic 63, 3) := by decide +kernel
theorem dX6_split_13 : decode cX6_split 13 = .ok (.ifCond .ne 7, 3) := by decide +kernel
theorem dX6_split_16 : decode cX6_split 16 = .ok (.iconst 1, 1) := by decide +kernel
theorem dX6_split_17 : decode cX6_split 17 = .ok (.goto 4, 3) := by decide +kernel
theorem dX6_split_20 : decode cX6_split 20 = .ok (.iconst 0, 1) := by decide +kernel
theorem dX6_split_21 : decode cX6_split 21 = .ok (.iconst 2, 1) := by decide +kernel
theorem dX6_split_22 : decode cX6_split 22 = .ok (.invokevirtual 67, 3) := by decide +kernel
theorem dX6_split_25 : decode cX6_split 25 = .ok (.ifCond .eq 5, 3) := by decide +kernel
theorem dX6_split_28 : decode cX6_split 28 = .ok (.iconst 0, 1) := by decide +kernel
theorem dX6_split_29 : decode cX6_split 29 = .ok (.ireturn, 1) := by decide +kernel
theorem dX6_split_30 : decode cX6_split 30 = .ok (.aload_n 0, 1) := by decide +kernel
theorem dX6_split_31 : decode cX6_split 31 = .ok (.iload_n 1, 1) := by decide +kernel
theorem dX6_split_32 : decode cX6_split 32 = .ok (.iload_n 2, 1) := by decide +kernel
theorem dX6_split_33 : decode cX6_split 33 = .ok (.invokevirtual 115, 3) := by decide +kernel
theorem dX6_split_36 : decode cX6_split 36 = .ok (.iload_n 3, 1) := by decide +kernel
theorem dX6_split_37 : decode cX6_split 37 = .ok (.ifCond .lt 20, 3) := by decide +kernel
theorem dX6_split_40 : decode cX6_split 40 = .ok (.iload_n 3, 1) := by decide +kernel
theorem dX6_split_41 : decode cX6_split 41 = .ok (.aload_n 0, 1) := by decide +kernel
theorem dX6_split_42 : decode cX6_split 42 = .ok (.getfield 112, 3) := by decide +kernel
theorem dX6_split_45 : decode cX6_split 45 = .ok (.if_icmp .ge 12, 3) := by decide +kernel
theorem dX6_split_48 : decode cX6_split 48 = .ok (.aload_n 0, 1) := by decide +kernel
theorem dX6_split_49 : decode cX6_split 49 = .ok (.getfield 29, 3) := by decide +kernel
theorem dX6_split_52 : decode cX6_split 52 = .ok (.iload_n 3, 1) := by decide +kernel
theorem dX6_split_53 : decode cX6_split 53 = .ok (.iaload, 1) := by decide +kernel
theorem dX6_split_54 : decode cX6_split 54 = .ok (.goto 4, 3) := by decide +kernel
theorem dX6_split_57 : decode cX6_split 57 = .ok (.iconst (-1), 1) := by decide +kernel
theorem dX6_split_58 : decode cX6_split 58 = .ok (.ireturn, 1) := by decide +kernel
theorem dX6_leaf_0 : decode cX6_leaf 0 = .ok (.aload_n 0, 1) := by decide +kernel
theorem dX6_leaf_1 : decode cX6_leaf 1 = .ok (.iload_n 1, 1) := by decide +kernel
theorem dX6_leaf_2 : decode cX6_leaf 2 = .ok (.invokevirtual 74, 3) := by decide +kernel
theorem dX6_leaf_5 : decode cX6_leaf 5 = .ok (.ifCond .eq 32, 3) := by decide +kernel
theorem dX6_leaf_8 : decode cX6_leaf 8 = .ok (.aload_n 0, 1) := by decide +kernel
theorem dX6_leaf_9 : decode cX6_leaf 9 = .ok (.iload_n 2, 1) := by decide +kernel
theorem dX6_leaf_10 : decode cX6_leaf 10 = .ok (.invokestatic 63, 3) := by decide +kernel
theorem dX6_leaf_13 : decode cX6_leaf 13 = .ok (.ifCond .eq 12, 3) := by decide +kernel
theorem dX6_leaf_16 : decode cX6_leaf 16 = .ok (.iload_n 3, 1) := by decide +kernel
theorem dX6_leaf_17 : decode cX6_leaf 17 = .ok (.ifCond .lt 8, 3) := by decide +kernel
theorem dX6_leaf_20 : decode cX6_leaf 20 = .ok (.iload_n 3, 1) := by decide +kernel
theorem dX6_leaf_21 : decode cX6_leaf 21 = .ok (.iconst 3, 1) := by decide +kernel
theorem dX6_leaf_22 : decode cX6_leaf 22 = .ok (.if_icmp .le 7, 3) := by decide +kernel
theorem dX6_leaf_25 : decode cX6_leaf 25 = .ok (.iconst 1, 1) := by decide +kernel
theorem dX6_leaf_26 : decode cX6_leaf 26 = .ok (.goto 4, 3) := by decide +kernel
theorem dX6_leaf_29 : decode cX6_leaf 29 = .ok (.iconst 0, 1) := by decide +kernel
theorem dX6_leaf_30 : decode cX6_leaf 30 = .ok (.iconst 2, 1) := by decide +kernel
theorem dX6_leaf_31 : decode cX6_leaf 31 = .ok (.invokevirtual 67, 3) := by decide +kernel
theorem dX6_leaf_34 : decode cX6_leaf 34 = .ok (.ifCond .eq 5, 3) := by decide +kernel
theorem dX6_leaf_37 : decode cX6_leaf 37 = .ok (.iconst 0, 1) := by decide +kernel
theorem dX6_leaf_38 : decode cX6_leaf 38 = .ok (.ireturn, 1) := by decide +kernel
theorem dX6_leaf_39 : decode cX6_leaf 39 = .ok (.aload_n 0, 1) := by decide +kernel
theorem dX6_leaf_40 : decode cX6_leaf 40 = .ok (.iload_n 1, 1) := by decide +kernel
theorem dX6_leaf_41 : decode cX6_leaf 41 = .ok (.iload_n 2, 1) := by decide +kernel
theorem dX6_leaf_42 : decode cX6_leaf 42 = .ok (.invokevirtual 115, 3) := by decide +kernel
theorem dX6_leaf_45 : decode cX6_leaf 45 = .ok (.iconst 0, 1) := by decide +kernel
theorem dX6_leaf_46 : decode cX6_leaf 46 = .ok (.istore 4, 2) := by decide +kernel
theorem dX6_leaf_48 : decode cX6_leaf 48 = .ok (.iconst 0, 1) := by decide +kernel
theorem dX6_leaf_49 : decode cX6_leaf 49 = .ok (.istore 5, 2) := by decide +kernel
theorem dX6_leaf_51 : decode cX6_leaf 51 = .ok (.iconst 0, 1) := by decide +kernel
theorem dX6_leaf_52 : decode cX6_leaf 52 = .ok (.istore 6, 2) := by decide +kernel
theorem dX6_leaf_54 : decode cX6_leaf 54 = .ok (.iconst 0, 1) := by decide +kernel
theorem dX6_leaf_55 : decode cX6_leaf 55 = .ok (.istore 7, 2) := by decide +kernel
theorem dX6_leaf_57 : decode cX6_leaf 57 = .ok (.iconst 0, 1) := by decide +kernel
theorem dX6_leaf_58 : decode cX6_leaf 58 = .ok (.istore 8, 2) := by decide +kernel
theorem dX6_leaf_60 : decode cX6_leaf 60 = .ok (.iload 8, 2) := by decide +kernel
theorem dX6_leaf_62 : decode cX6_leaf 62 = .ok (.aload_n 0, 1) := by decide +kernel
theorem dX6_leaf_63 : decode cX6_leaf 63 = .ok (.getfield 77, 3) := by decide +kernel
theorem dX6_leaf_66 : decode cX6_leaf 66 = .ok (.if_icmp .ge 87, 3) := by decide +kernel
theorem dX6_leaf_69 : decode cX6_leaf 69 = .ok (.aload_n 0, 1) := by decide +kernel
theorem dX6_leaf_70 : decode cX6_leaf 70 = .ok (.iload 8, 2) := by decide +kernel
theorem dX6_leaf_72 : decode cX6_leaf 72 = .ok (.invokevirtual 119, 3) := by decide +kernel
theorem dX6_leaf_75 : decode cX6_leaf 75 = .ok (.ifCond .ne 6, 3) := by decide +kernel
theorem dX6_leaf_78 : decode cX6_leaf 78 = .ok (.goto 69, 3) := by decide +kernel
theorem dX6_leaf_81 : decode cX6_leaf 81 = .ok (.aload_n 0, 1) := by decide +kernel
theorem dX6_leaf_82 : decode cX6_leaf 82 = .ok (.getfield 22, 3) := by decide +kernel
theorem dX6_leaf_85 : decode cX6_leaf 85 = .ok (.bipush 6, 2) := by decide +kernel
theorem dX6_leaf_87 : decode cX6_leaf 87 = .ok (.iload 8, 2) := by decide +kernel
theorem dX6_leaf_89 : decode cX6_leaf 89 = .ok (.imul, 1) := by decide +kernel
theorem dX6_leaf_90 : decode cX6_leaf 90 = .ok (.iload_n 1, 1) := by decide +kernel
theorem dX6_leaf_91 : decode cX6_leaf 91 = .ok (.iadd, 1) := by decide +kernel
theorem dX6_leaf_92 : decode cX6_leaf 92 = .ok (.iaload, 1) := by decide +kernel
theorem dX6_leaf_93 : decode cX6_leaf 93 = .ok (.istore 9, 2) := by decide +kernel
theorem dX6_leaf_95 : decode cX6_leaf 95 = .ok (.iload 4, 2) := by decide +kernel
theorem dX6_leaf_97 : decode cX6_leaf 97 = .ok (.ifCond .eq 10, 3) := by decide +kernel
theorem dX6_leaf_100 : decode cX6_leaf 100 = .ok (.iload 9, 2) := by decide +kernel
theorem dX6_leaf_102 : decode cX6_leaf 102 = .ok (.iload 6, 2) := by decide +kernel
theorem dX6_leaf_104 : decode cX6_leaf 104 = .ok (.if_icmp .ge 8, 3) := by decide +kernel
theorem dX6_leaf_107 : decode cX6_leaf 107 = .ok (.iload 9, 2) := by decide +kernel
theorem dX6_leaf_109 : decode cX6_leaf 109 = .ok (.goto 5, 3) := by decide +kernel
theorem dX6_leaf_112 : decode cX6_leaf 112 = .ok (.iload 6, 2) := by decide +kernel
theorem dX6_leaf_114 : decode cX6_leaf 114 = .ok (.istore 6, 2) := by decide +kernel
theorem dX6_leaf_116 : decode cX6_leaf 116 = .ok (.iload 4, 2) := by decide +kernel
theorem dX6_leaf_118 : decode cX6_leaf 118 = .ok (.ifCond .eq 10, 3) := by decide +kernel
theorem dX6_leaf_121 : decode cX6_leaf 121 = .ok (.iload 9, 2) := by decide +kernel
theorem dX6_leaf_123 : decode cX6_leaf 123 = .ok (.iload 7, 2) := by decide +kernel
theorem dX6_leaf_125 : decode cX6_leaf 125 = .ok (.if_icmp .le 8, 3) := by decide +kernel
theorem dX6_leaf_128 : decode cX6_leaf 128 = .ok (.iload 9, 2) := by decide +kernel
theorem dX6_leaf_130 : decode cX6_leaf 130 = .ok (.goto 5, 3) := by decide +kernel
theorem dX6_leaf_133 : decode cX6_leaf 133 = .ok (.iload 7, 2) := by decide +kernel
theorem dX6_leaf_135 : decode cX6_leaf 135 = .ok (.istore 7, 2) := by decide +kernel
theorem dX6_leaf_137 : decode cX6_leaf 137 = .ok (.iinc 4 1, 3) := by decide +kernel
theorem dX6_leaf_140 : decode cX6_leaf 140 = .ok (.iload 5, 2) := by decide +kernel
theorem dX6_leaf_142 : decode cX6_leaf 142 = .ok (.iload 9, 2) := by decide +kernel
theorem dX6_leaf_144 : decode cX6_leaf 144 = .ok (.iadd, 1) := by decide +kernel
theorem dX6_leaf_145 : decode cX6_leaf 145 = .ok (.istore 5, 2) := by decide +kernel
theorem dX6_leaf_147 : decode cX6_leaf 147 = .ok (.iinc 8 1, 3) := by decide +kernel
theorem dX6_leaf_150 : decode cX6_leaf 150 = .ok (.goto (-90), 3) := by decide +kernel
theorem dX6_leaf_153 : decode cX6_leaf 153 = .ok (.iload_n 3, 1) := by decide +kernel
theorem dX6_leaf_154 : decode cX6_leaf 154 = .ok (.ifCond .ne 8, 3) := by decide +kernel
theorem dX6_leaf_157 : decode cX6_leaf 157 = .ok (.iload 4, 2) := by decide +kernel
theorem dX6_leaf_159 : decode cX6_leaf 159 = .ok (.goto 25, 3) := by decide +kernel
theorem dX6_leaf_162 : decode cX6_leaf 162 = .ok (.iload_n 3, 1) := by decide +kernel
theorem dX6_leaf_163 : decode cX6_leaf 163 = .ok (.iconst 1, 1) := by decide +kernel
theorem dX6_leaf_164 : decode cX6_leaf 164 = .ok (.if_icmp .ne 8, 3) := by decide +kernel
theorem dX6_leaf_167 : decode cX6_leaf 167 = .ok (.iload 5, 2) := by decide +kernel
theorem dX6_leaf_169 : decode cX6_leaf 169 = .ok (.goto 15, 3) := by decide +kernel
theorem dX6_leaf_172 : decode cX6_leaf 172 = .ok (.iload_n 3, 1) := by decide +kernel
theorem dX6_leaf_173 : decode cX6_leaf 173 = .ok (.iconst 2, 1) := by decide +kernel
theorem dX6_leaf_174 : decode cX6_leaf 174 = .ok (.if_icmp .ne 8, 3) := by decide +kernel
theorem dX6_leaf_177 : decode cX6_leaf 177 = .ok (.iload 6, 2) := by decide +kernel
theorem dX6_leaf_179 : decode cX6_leaf 179 = .ok (.goto 5, 3) := by decide +kernel
theorem dX6_leaf_182 : decode cX6_leaf 182 = .ok (.iload 7, 2) := by decide +kernel
theorem dX6_leaf_184 : decode cX6_leaf 184 = .ok (.ireturn, 1) := by decide +kernel
theorem dX6_size_0 : decode cX6_size 0 = .ok (.aload_n 0, 1) := by decide +kernel
theorem dX6_size_1 : decode cX6_size 1 = .ok (.iconst 0, 1) := by decide +kernel
theorem dX6_size_2 : decode cX6_size 2 = .ok (.putfield 60, 3) := by decide +kernel
theorem dX6_size_5 : decode cX6_size 5 = .ok (.aload_n 0, 1) := by decide +kernel
theorem dX6_size_6 : decode cX6_size 6 = .ok (.iload_n 1, 1) := by decide +kernel
theorem dX6_size_7 : decode cX6_size 7 = .ok (.iconst 1, 1) := by decide +kernel
theorem dX6_size_8 : decode cX6_size 8 = .ok (.if_icmp .lt 22, 3) := by decide +kernel
theorem dX6_size_11 : decode cX6_size 11 = .ok (.iload_n 1, 1) := by decide +kernel
theorem dX6_size_12 : decode cX6_size 12 = .ok (.sipush 200, 3) := by decide +kernel
theorem dX6_size_15 : decode cX6_size 15 = .ok (.if_icmp .gt 15, 3) := by decide +kernel
theorem dX6_size_18 : decode cX6_size 18 = .ok (.iload_n 2, 1) := by decide +kernel
theorem dX6_size_19 : decode cX6_size 19 = .ok (.iconst 1, 1) := by decide +kernel
theorem dX6_size_20 : decode cX6_size 20 = .ok (.if_icmp .lt 10, 3) := by decide +kernel
theorem dX6_size_23 : decode cX6_size 23 = .ok (.iload_n 2, 1) := by decide +kernel
theorem dX6_size_24 : decode cX6_size 24 = .ok (.sipush 10000, 3) := by decide +kernel
theorem dX6_size_27 : decode cX6_size 27 = .ok (.if_icmp .le 7, 3) := by decide +kernel
theorem dX6_size_30 : decode cX6_size 30 = .ok (.iconst 1, 1) := by decide +kernel
theorem dX6_size_31 : decode cX6_size 31 = .ok (.goto 4, 3) := by decide +kernel
theorem dX6_size_34 : decode cX6_size 34 = .ok (.iconst 0, 1) := by decide +kernel
theorem dX6_size_35 : decode cX6_size 35 = .ok (.iconst 1, 1) := by decide +kernel
theorem dX6_size_36 : decode cX6_size 36 = .ok (.invokevirtual 67, 3) := by decide +kernel
theorem dX6_size_39 : decode cX6_size 39 = .ok (.ifCond .ne 24, 3) := by decide +kernel
theorem dX6_size_42 : decode cX6_size 42 = .ok (.aload_n 0, 1) := by decide +kernel
theorem dX6_size_43 : decode cX6_size 43 = .ok (.aload_n 0, 1) := by decide +kernel
theorem dX6_size_44 : decode cX6_size 44 = .ok (.getfield 122, 3) := by decide +kernel
theorem dX6_size_47 : decode cX6_size 47 = .ok (.iconst 4, 1) := by decide +kernel
theorem dX6_size_48 : decode cX6_size 48 = .ok (.if_icmp .ne 7, 3) := by decide +kernel
theorem dX6_size_51 : decode cX6_size 51 = .ok (.iconst 1, 1) := by decide +kernel
theorem dX6_size_52 : decode cX6_size 52 = .ok (.goto 4, 3) := by decide +kernel
theorem dX6_size_55 : decode cX6_size 55 = .ok (.iconst 0, 1) := by decide +kernel
theorem dX6_size_56 : decode cX6_size 56 = .ok (.iconst 2, 1) := by decide +kernel
theorem dX6_size_57 : decode cX6_size 57 = .ok (.invokevirtual 67, 3) := by decide +kernel
theorem dX6_size_60 : decode cX6_size 60 = .ok (.ifCond .eq 5, 3) := by decide +kernel
theorem dX6_size_63 : decode cX6_size 63 = .ok (.iconst 0, 1) := by decide +kernel
theorem dX6_size_64 : decode cX6_size 64 = .ok (.ireturn, 1) := by decide +kernel
theorem dX6_size_65 : decode cX6_size 65 = .ok (.aload_n 0, 1) := by decide +kernel
theorem dX6_size_66 : decode cX6_size 66 = .ok (.getfield 32, 3) := by decide +kernel
theorem dX6_size_69 : decode cX6_size 69 = .ok (.aload_n 0, 1) := by decide +kernel
theorem dX6_size_70 : decode cX6_size 70 = .ok (.getfield 122, 3) := by decide +kernel
theorem dX6_size_73 : decode cX6_size 73 = .ok (.iload_n 1, 1) := by decide +kernel
theorem dX6_size_74 : decode cX6_size 74 = .ok (.iastore, 1) := by decide +kernel
theorem dX6_size_75 : decode cX6_size 75 = .ok (.aload_n 0, 1) := by decide +kernel
theorem dX6_size_76 : decode cX6_size 76 = .ok (.getfield 35, 3) := by decide +kernel
theorem dX6_size_79 : decode cX6_size 79 = .ok (.aload_n 0, 1) := by decide +kernel
theorem dX6_size_80 : decode cX6_size 80 = .ok (.getfield 122, 3) := by decide +kernel
theorem dX6_size_83 : decode cX6_size 83 = .ok (.iload_n 2, 1) := by decide +kernel
theorem dX6_size_84 : decode cX6_size 84 = .ok (.iastore, 1) := by decide +kernel
theorem dX6_size_85 : decode cX6_size 85 = .ok (.aload_n 0, 1) := by decide +kernel
theorem dX6_size_86 : decode cX6_size 86 = .ok (.dup, 1) := by decide +kernel
theorem dX6_size_87 : decode cX6_size 87 = .ok (.getfield 122, 3) := by decide +kernel
theorem dX6_size_90 : decode cX6_size 90 = .ok (.iconst 1, 1) := by decide +kernel
theorem dX6_size_91 : decode cX6_size 91 = .ok (.iadd, 1) := by decide +kernel
theorem dX6_size_92 : decode cX6_size 92 = .ok (.putfield 122, 3) := by decide +kernel
theorem dX6_size_95 : decode cX6_size 95 = .ok (.aload_n 0, 1) := by decide +kernel
theorem dX6_size_96 : decode cX6_size 96 = .ok (.getfield 122, 3) := by decide +kernel
theorem dX6_size_99 : decode cX6_size 99 = .ok (.iconst 1, 1) := by decide +kernel
theorem dX6_size_100 : decode cX6_size 100 = .ok (.isub, 1) := by decide +kernel
theorem dX6_size_101 : decode cX6_size 101 = .ok (.ireturn, 1) := by decide +kernel
theorem dX6_prices_0 : decode cX6_prices 0 = .ok (.aload_n 0, 1) := by decide +kernel
theorem dX6_prices_1 : decode cX6_prices 1 = .ok (.iconst 0, 1) := by decide +kernel
theorem dX6_prices_2 : decode cX6_prices 2 = .ok (.putfield 60, 3) := by decide +kernel
theorem dX6_prices_5 : decode cX6_prices 5 = .ok (.aload_n 0, 1) := by decide +kernel
theorem dX6_prices_6 : decode cX6_prices 6 = .ok (.iload_n 1, 1) := by decide +kernel
theorem dX6_prices_7 : decode cX6_prices 7 = .ok (.ifCond .lt 21, 3) := by decide +kernel
theorem dX6_prices_10 : decode cX6_prices 10 = .ok (.iload_n 1, 1) := by decide +kernel
theorem dX6_prices_11 : decode cX6_prices 11 = .ok (.sipush 1000, 3) := by decide +kernel
theorem dX6_prices_14 : decode cX6_prices 14 = .ok (.if_icmp .gt 14, 3) := by decide +kernel
theorem dX6_prices_17 : decode cX6_prices 17 = .ok (.iload_n 2, 1) := by decide +kernel
theorem dX6_prices_18 : decode cX6_prices 18 = .ok (.ifCond .lt 10, 3) := by decide +kernel
theorem dX6_prices_21 : decode cX6_prices 21 = .ok (.iload_n 2, 1) := by decide +kernel
theorem dX6_prices_22 : decode cX6_prices 22 = .ok (.sipush 1000, 3) := by decide +kernel
theorem dX6_prices_25 : decode cX6_prices 25 = .ok (.if_icmp .le 7, 3) := by decide +kernel
theorem dX6_prices_28 : decode cX6_prices 28 = .ok (.iconst 1, 1) := by decide +kernel
theorem dX6_prices_29 : decode cX6_prices 29 = .ok (.goto 4, 3) := by decide +kernel
theorem dX6_prices_32 : decode cX6_prices 32 = .ok (.iconst 0, 1) := by decide +kernel
theorem dX6_prices_33 : decode cX6_prices 33 = .ok (.iconst 1, 1) := by decide +kernel
theorem dX6_prices_34 : decode cX6_prices 34 = .ok (.invokevirtual 67, 3) := by decide +kernel
theorem dX6_prices_37 : decode cX6_prices 37 = .ok (.ifCond .eq 4, 3) := by decide +kernel
theorem dX6_prices_40 : decode cX6_prices 40 = .ok (.return_, 1) := by decide +kernel
theorem dX6_prices_41 : decode cX6_prices 41 = .ok (.aload_n 0, 1) := by decide +kernel
theorem dX6_prices_42 : decode cX6_prices 42 = .ok (.iload_n 1, 1) := by decide +kernel
theorem dX6_prices_43 : decode cX6_prices 43 = .ok (.putfield 38, 3) := by decide +kernel
theorem dX6_prices_46 : decode cX6_prices 46 = .ok (.aload_n 0, 1) := by decide +kernel
theorem dX6_prices_47 : decode cX6_prices 47 = .ok (.iload_n 2, 1) := by decide +kernel
theorem dX6_prices_48 : decode cX6_prices 48 = .ok (.putfield 42, 3) := by decide +kernel
theorem dX6_prices_51 : decode cX6_prices 51 = .ok (.return_, 1) := by decide +kernel
theorem dX6_costOf_0 : decode cX6_costOf 0 = .ok (.lconst 0, 1) := by decide +kernel
theorem dX6_costOf_1 : decode cX6_costOf 1 = .ok (.lstore 5, 2) := by decide +kernel
theorem dX6_costOf_3 : decode cX6_costOf 3 = .ok (.iconst 0, 1) := by decide +kernel
theorem dX6_costOf_4 : decode cX6_costOf 4 = .ok (.istore 7, 2) := by decide +kernel
theorem dX6_costOf_6 : decode cX6_costOf 6 = .ok (.iload 7, 2) := by decide +kernel
theorem dX6_costOf_8 : decode cX6_costOf 8 = .ok (.aload_n 0, 1) := by decide +kernel
theorem dX6_costOf_9 : decode cX6_costOf 9 = .ok (.getfield 77, 3) := by decide +kernel
theorem dX6_costOf_12 : decode cX6_costOf 12 = .ok (.if_icmp .ge 75, 3) := by decide +kernel
theorem dX6_costOf_15 : decode cX6_costOf 15 = .ok (.aload_n 0, 1) := by decide +kernel
theorem dX6_costOf_16 : decode cX6_costOf 16 = .ok (.iload 7, 2) := by decide +kernel
theorem dX6_costOf_18 : decode cX6_costOf 18 = .ok (.invokevirtual 119, 3) := by decide +kernel
theorem dX6_costOf_21 : decode cX6_costOf 21 = .ok (.ifCond .ne 6, 3) := by decide +kernel
theorem dX6_costOf_24 : decode cX6_costOf 24 = .ok (.goto 57, 3) := by decide +kernel
theorem dX6_costOf_27 : decode cX6_costOf 27 = .ok (.iload_n 3, 1) := by decide +kernel
theorem dX6_costOf_28 : decode cX6_costOf 28 = .ok (.iload_n 2, 1) := by decide +kernel
theorem dX6_costOf_29 : decode cX6_costOf 29 = .ok (.iadd, 1) := by decide +kernel
theorem dX6_costOf_30 : decode cX6_costOf 30 = .ok (.aload_n 0, 1) := by decide +kernel
theorem dX6_costOf_31 : decode cX6_costOf 31 = .ok (.getfield 22, 3) := by decide +kernel
theorem dX6_costOf_34 : decode cX6_costOf 34 = .ok (.bipush 6, 2) := by decide +kernel
theorem dX6_costOf_36 : decode cX6_costOf 36 = .ok (.iload 7, 2) := by decide +kernel
theorem dX6_costOf_38 : decode cX6_costOf 38 = .ok (.imul, 1) := by decide +kernel
theorem dX6_costOf_39 : decode cX6_costOf 39 = .ok (.iload_n 1, 1) := by decide +kernel
theorem dX6_costOf_40 : decode cX6_costOf 40 = .ok (.iadd, 1) := by decide +kernel
theorem dX6_costOf_41 : decode cX6_costOf 41 = .ok (.iaload, 1) := by decide +kernel
theorem dX6_costOf_42 : decode cX6_costOf 42 = .ok (.isub, 1) := by decide +kernel
theorem dX6_costOf_43 : decode cX6_costOf 43 = .ok (.istore 8, 2) := by decide +kernel
theorem dX6_costOf_45 : decode cX6_costOf 45 = .ok (.lload 5, 2) := by decide +kernel
theorem dX6_costOf_47 : decode cX6_costOf 47 = .ok (.iload 4, 2) := by decide +kernel
theorem dX6_costOf_49 : decode cX6_costOf 49 = .ok (.i2l, 1) := by decide +kernel
theorem dX6_costOf_50 : decode cX6_costOf 50 = .ok (.iload 8, 2) := by decide +kernel
theorem dX6_costOf_52 : decode cX6_costOf 52 = .ok (.ifCond .le 15, 3) := by decide +kernel
theorem dX6_costOf_55 : decode cX6_costOf 55 = .ok (.iload 8, 2) := by decide +kernel
theorem dX6_costOf_57 : decode cX6_costOf 57 = .ok (.i2l, 1) := by decide +kernel
theorem dX6_costOf_58 : decode cX6_costOf 58 = .ok (.aload_n 0, 1) := by decide +kernel
theorem dX6_costOf_59 : decode cX6_costOf 59 = .ok (.getfield 38, 3) := by decide +kernel
theorem dX6_costOf_62 : decode cX6_costOf 62 = .ok (.i2l, 1) := by decide +kernel
theorem dX6_costOf_63 : decode cX6_costOf 63 = .ok (.lmul, 1) := by decide +kernel
theorem dX6_costOf_64 : decode cX6_costOf 64 = .ok (.goto 13, 3) := by decide +kernel
theorem dX6_costOf_67 : decode cX6_costOf 67 = .ok (.iload 8, 2) := by decide +kernel
theorem dX6_costOf_69 : decode cX6_costOf 69 = .ok (.ineg, 1) := by decide +kernel
theorem dX6_costOf_70 : decode cX6_costOf 70 = .ok (.i2l, 1) := by decide +kernel
theorem dX6_costOf_71 : decode cX6_costOf 71 = .ok (.aload_n 0, 1) := by decide +kernel
theorem dX6_costOf_72 : decode cX6_costOf 72 = .ok (.getfield 42, 3) := by decide +kernel
theorem dX6_costOf_75 : decode cX6_costOf 75 = .ok (.i2l, 1) := by decide +kernel
theorem dX6_costOf_76 : decode cX6_costOf 76 = .ok (.lmul, 1) := by decide +kernel
theorem dX6_costOf_77 : decode cX6_costOf 77 = .ok (.ladd, 1) := by decide +kernel
theorem dX6_costOf_78 : decode cX6_costOf 78 = .ok (.ladd, 1) := by decide +kernel
theorem dX6_costOf_79 : decode cX6_costOf 79 = .ok (.lstore 5, 2) := by decide +kernel
theorem dX6_costOf_81 : decode cX6_costOf 81 = .ok (.iinc 7 1, 3) := by decide +kernel
theorem dX6_costOf_84 : decode cX6_costOf 84 = .ok (.goto (-78), 3) := by decide +kernel
theorem dX6_costOf_87 : decode cX6_costOf 87 = .ok (.lload 5, 2) := by decide +kernel
theorem dX6_costOf_89 : decode cX6_costOf 89 = .ok (.lreturn, 1) := by decide +kernel
theorem dX6_chooses_0 : decode cX6_chooses 0 = .ok (.aload_n 0, 1) := by decide +kernel
theorem dX6_chooses_1 : decode cX6_chooses 1 = .ok (.iload_n 1, 1) := by decide +kernel
theorem dX6_chooses_2 : decode cX6_chooses 2 = .ok (.iload_n 2, 1) := by decide +kernel
theorem dX6_chooses_3 : decode cX6_chooses 3 = .ok (.invokevirtual 115, 3) := by decide +kernel
theorem dX6_chooses_6 : decode cX6_chooses 6 = .ok (.iconst 0, 1) := by decide +kernel
theorem dX6_chooses_7 : decode cX6_chooses 7 = .ok (.istore 4, 2) := by decide +kernel
theorem dX6_chooses_9 : decode cX6_chooses 9 = .ok (.iconst 0, 1) := by decide +kernel
theorem dX6_chooses_10 : decode cX6_chooses 10 = .ok (.istore 5, 2) := by decide +kernel
theorem dX6_chooses_12 : decode cX6_chooses 12 = .ok (.iload 5, 2) := by decide +kernel
theorem dX6_chooses_14 : decode cX6_chooses 14 = .ok (.aload_n 0, 1) := by decide +kernel
theorem dX6_chooses_15 : decode cX6_chooses 15 = .ok (.getfield 77, 3) := by decide +kernel
theorem dX6_chooses_18 : decode cX6_chooses 18 = .ok (.if_icmp .ge 30, 3) := by decide +kernel
theorem dX6_chooses_21 : decode cX6_chooses 21 = .ok (.iload 4, 2) := by decide +kernel
theorem dX6_chooses_23 : decode cX6_chooses 23 = .ok (.ifCond .ne 12, 3) := by decide +kernel
theorem dX6_chooses_26 : decode cX6_chooses 26 = .ok (.aload_n 0, 1) := by decide +kernel
theorem dX6_chooses_27 : decode cX6_chooses 27 = .ok (.iload 5, 2) := by decide +kernel
theorem dX6_chooses_29 : decode cX6_chooses 29 = .ok (.invokevirtual 119, 3) := by decide +kernel
theorem dX6_chooses_32 : decode cX6_chooses 32 = .ok (.ifCond .eq 7, 3) := by decide +kernel
theorem dX6_chooses_35 : decode cX6_chooses 35 = .ok (.iconst 1, 1) := by decide +kernel
theorem dX6_chooses_36 : decode cX6_chooses 36 = .ok (.goto 4, 3) := by decide +kernel
theorem dX6_chooses_39 : decode cX6_chooses 39 = .ok (.iconst 0, 1) := by decide +kernel
theorem dX6_chooses_40 : decode cX6_chooses 40 = .ok (.istore 4, 2) := by decide +kernel
theorem dX6_chooses_42 : decode cX6_chooses 42 = .ok (.iinc 5 1, 3) := by decide +kernel
theorem dX6_chooses_45 : decode cX6_chooses 45 = .ok (.goto (-33), 3) := by decide +kernel
theorem dX6_chooses_48 : decode cX6_chooses 48 = .ok (.iload 4, 2) := by decide +kernel
theorem dX6_chooses_50 : decode cX6_chooses 50 = .ok (.ifCond .ne 5, 3) := by decide +kernel
theorem dX6_chooses_53 : decode cX6_chooses 53 = .ok (.iconst 0, 1) := by decide +kernel
theorem dX6_chooses_54 : decode cX6_chooses 54 = .ok (.ireturn, 1) := by decide +kernel
theorem dX6_chooses_55 : decode cX6_chooses 55 = .ok (.aload_n 0, 1) := by decide +kernel
theorem dX6_chooses_56 : decode cX6_chooses 56 = .ok (.ldc2_w 125, 3) := by decide +kernel
theorem dX6_chooses_59 : decode cX6_chooses 59 = .ok (.putfield 127, 3) := by decide +kernel
theorem dX6_chooses_62 : decode cX6_chooses 62 = .ok (.iconst 0, 1) := by decide +kernel
theorem dX6_chooses_63 : decode cX6_chooses 63 = .ok (.istore 5, 2) := by decide +kernel
theorem dX6_chooses_65 : decode cX6_chooses 65 = .ok (.iload 5, 2) := by decide +kernel
theorem dX6_chooses_67 : decode cX6_chooses 67 = .ok (.iconst 4, 1) := by decide +kernel
theorem dX6_chooses_68 : decode cX6_chooses 68 = .ok (.if_icmp .ge 17, 3) := by decide +kernel
theorem dX6_chooses_71 : decode cX6_chooses 71 = .ok (.aload_n 0, 1) := by decide +kernel
theorem dX6_chooses_72 : decode cX6_chooses 72 = .ok (.getfield 45, 3) := by decide +kernel
theorem dX6_chooses_75 : decode cX6_chooses 75 = .ok (.iload 5, 2) := by decide +kernel
theorem dX6_chooses_77 : decode cX6_chooses 77 = .ok (.iconst 0, 1) := by decide +kernel
theorem dX6_chooses_78 : decode cX6_chooses 78 = .ok (.iastore, 1) := by decide +kernel
theorem dX6_chooses_79 : decode cX6_chooses 79 = .ok (.iinc 5 1, 3) := by decide +kernel
theorem dX6_chooses_82 : decode cX6_chooses 82 = .ok (.goto (-17), 3) := by decide +kernel
theorem dX6_chooses_85 : decode cX6_chooses 85 = .ok (.iconst 1, 1) := by decide +kernel
theorem dX6_chooses_86 : decode cX6_chooses 86 = .ok (.istore 5, 2) := by decide +kernel
theorem dX6_chooses_88 : decode cX6_chooses 88 = .ok (.iload 5, 2) := by decide +kernel
theorem dX6_chooses_90 : decode cX6_chooses 90 = .ok (.ifCond .eq 176, 3) := by decide +kernel
theorem dX6_chooses_93 : decode cX6_chooses 93 = .ok (.iconst 0, 1) := by decide +kernel
theorem dX6_chooses_94 : decode cX6_chooses 94 = .ok (.istore 6, 2) := by decide +kernel
theorem dX6_chooses_96 : decode cX6_chooses 96 = .ok (.iconst 0, 1) := by decide +kernel
theorem dX6_chooses_97 : decode cX6_chooses 97 = .ok (.istore 7, 2) := by decide +kernel
theorem dX6_chooses_99 : decode cX6_chooses 99 = .ok (.iconst 0, 1) := by decide +kernel
theorem dX6_chooses_100 : decode cX6_chooses 100 = .ok (.istore 8, 2) := by decide +kernel
theorem dX6_chooses_102 : decode cX6_chooses 102 = .ok (.iconst 0, 1) := by decide +kernel
theorem dX6_chooses_103 : decode cX6_chooses 103 = .ok (.istore 9, 2) := by decide +kernel
theorem dX6_chooses_105 : decode cX6_chooses 105 = .ok (.iload 9, 2) := by decide +kernel
theorem dX6_chooses_107 : decode cX6_chooses 107 = .ok (.aload_n 0, 1) := by decide +kernel
theorem dX6_chooses_108 : decode cX6_chooses 108 = .ok (.getfield 122, 3) := by decide +kernel
theorem dX6_chooses_111 : decode cX6_chooses 111 = .ok (.if_icmp .ge 61, 3) := by decide +kernel
theorem dX6_chooses_114 : decode cX6_chooses 114 = .ok (.iload 6, 2) := by decide +kernel
theorem dX6_chooses_116 : decode cX6_chooses 116 = .ok (.aload_n 0, 1) := by decide +kernel
theorem dX6_chooses_117 : decode cX6_chooses 117 = .ok (.getfield 45, 3) := by decide +kernel
theorem dX6_chooses_120 : decode cX6_chooses 120 = .ok (.iload 9, 2) := by decide +kernel
theorem dX6_chooses_122 : decode cX6_chooses 122 = .ok (.iaload, 1) := by decide +kernel
theorem dX6_chooses_123 : decode cX6_chooses 123 = .ok (.iadd, 1) := by decide +kernel
theorem dX6_chooses_124 : decode cX6_chooses 124 = .ok (.istore 6, 2) := by decide +kernel
theorem dX6_chooses_126 : decode cX6_chooses 126 = .ok (.iload 7, 2) := by decide +kernel
theorem dX6_chooses_128 : decode cX6_chooses 128 = .ok (.aload_n 0, 1) := by decide +kernel
theorem dX6_chooses_129 : decode cX6_chooses 129 = .ok (.getfield 45, 3) := by decide +kernel
theorem dX6_chooses_132 : decode cX6_chooses 132 = .ok (.iload 9, 2) := by decide +kernel
theorem dX6_chooses_134 : decode cX6_chooses 134 = .ok (.iaload, 1) := by decide +kernel
theorem dX6_chooses_135 : decode cX6_chooses 135 = .ok (.aload_n 0, 1) := by decide +kernel
theorem dX6_chooses_136 : decode cX6_chooses 136 = .ok (.getfield 32, 3) := by decide +kernel
theorem dX6_chooses_139 : decode cX6_chooses 139 = .ok (.iload 9, 2) := by decide +kernel
theorem dX6_chooses_141 : decode cX6_chooses 141 = .ok (.iaload, 1) := by decide +kernel
theorem dX6_chooses_142 : decode cX6_chooses 142 = .ok (.imul, 1) := by decide +kernel
theorem dX6_chooses_143 : decode cX6_chooses 143 = .ok (.iadd, 1) := by decide +kernel
theorem dX6_chooses_144 : decode cX6_chooses 144 = .ok (.istore 7, 2) := by decide +kernel
theorem dX6_chooses_146 : decode cX6_chooses 146 = .ok (.iload 8, 2) := by decide +kernel
theorem dX6_chooses_148 : decode cX6_chooses 148 = .ok (.aload_n 0, 1) := by decide +kernel
theorem dX6_chooses_149 : decode cX6_chooses 149 = .ok (.getfield 45, 3) := by decide +kernel
theorem dX6_chooses_152 : decode cX6_chooses 152 = .ok (.iload 9, 2) := by decide +kernel
theorem dX6_chooses_154 : decode cX6_chooses 154 = .ok (.iaload, 1) := by decide +kernel
theorem dX6_chooses_155 : decode cX6_chooses 155 = .ok (.aload_n 0, 1) := by decide +kernel
theorem dX6_chooses_156 : decode cX6_chooses 156 = .ok (.getfield 35, 3) := by decide +kernel
theorem dX6_chooses_159 : decode cX6_chooses 159 = .ok (.iload 9, 2) := by decide +kernel
theorem dX6_chooses_161 : decode cX6_chooses 161 = .ok (.iaload, 1) := by decide +kernel
theorem dX6_chooses_162 : decode cX6_chooses 162 = .ok (.imul, 1) := by decide +kernel
theorem dX6_chooses_163 : decode cX6_chooses 163 = .ok (.iadd, 1) := by decide +kernel
theorem dX6_chooses_164 : decode cX6_chooses 164 = .ok (.istore 8, 2) := by decide +kernel
theorem dX6_chooses_166 : decode cX6_chooses 166 = .ok (.iinc 9 1, 3) := by decide +kernel
theorem dX6_chooses_169 : decode cX6_chooses 169 = .ok (.goto (-64), 3) := by decide +kernel
theorem dX6_chooses_172 : decode cX6_chooses 172 = .ok (.iload 6, 2) := by decide +kernel
theorem dX6_chooses_174 : decode cX6_chooses 174 = .ok (.bipush 12, 2) := by decide +kernel
theorem dX6_chooses_176 : decode cX6_chooses 176 = .ok (.if_icmp .gt 21, 3) := by decide +kernel
theorem dX6_chooses_179 : decode cX6_chooses 179 = .ok (.aload_n 0, 1) := by decide +kernel
theorem dX6_chooses_180 : decode cX6_chooses 180 = .ok (.aload_n 0, 1) := by decide +kernel
theorem dX6_chooses_181 : decode cX6_chooses 181 = .ok (.iload_n 1, 1) := by decide +kernel
theorem dX6_chooses_182 : decode cX6_chooses 182 = .ok (.iload_n 3, 1) := by decide +kernel
theorem dX6_chooses_183 : decode cX6_chooses 183 = .ok (.iload 7, 2) := by decide +kernel
theorem dX6_chooses_185 : decode cX6_chooses 185 = .ok (.iload 8, 2) := by decide +kernel
theorem dX6_chooses_187 : decode cX6_chooses 187 = .ok (.invokevirtual 130, 3) := by decide +kernel
theorem dX6_chooses_190 : decode cX6_chooses 190 = .ok (.iload 7, 2) := by decide +kernel
theorem dX6_chooses_192 : decode cX6_chooses 192 = .ok (.iload 6, 2) := by decide +kernel
theorem dX6_chooses_194 : decode cX6_chooses 194 = .ok (.invokevirtual 134, 3) := by decide +kernel
theorem dX6_chooses_197 : decode cX6_chooses 197 = .ok (.aload_n 0, 1) := by decide +kernel
theorem dX6_chooses_198 : decode cX6_chooses 198 = .ok (.getfield 122, 3) := by decide +kernel
theorem dX6_chooses_201 : decode cX6_chooses 201 = .ok (.iconst 1, 1) := by decide +kernel
theorem dX6_chooses_202 : decode cX6_chooses 202 = .ok (.isub, 1) := by decide +kernel
theorem dX6_chooses_203 : decode cX6_chooses 203 = .ok (.istore 9, 2) := by decide +kernel
theorem dX6_chooses_205 : decode cX6_chooses 205 = .ok (.iload 9, 2) := by decide +kernel
theorem dX6_chooses_207 : decode cX6_chooses 207 = .ok (.ifCond .lt 28, 3) := by decide +kernel
theorem dX6_chooses_210 : decode cX6_chooses 210 = .ok (.aload_n 0, 1) := by decide +kernel
theorem dX6_chooses_211 : decode cX6_chooses 211 = .ok (.iload 9, 2) := by decide +kernel
theorem dX6_chooses_213 : decode cX6_chooses 213 = .ok (.invokevirtual 138, 3) := by decide +kernel
theorem dX6_chooses_216 : decode cX6_chooses 216 = .ok (.bipush 12, 2) := by decide +kernel
theorem dX6_chooses_218 : decode cX6_chooses 218 = .ok (.if_icmp .lt 17, 3) := by decide +kernel
theorem dX6_chooses_221 : decode cX6_chooses 221 = .ok (.aload_n 0, 1) := by decide +kernel
theorem dX6_chooses_222 : decode cX6_chooses 222 = .ok (.getfield 45, 3) := by decide +kernel
theorem dX6_chooses_225 : decode cX6_chooses 225 = .ok (.iload 9, 2) := by decide +kernel
theorem dX6_chooses_227 : decode cX6_chooses 227 = .ok (.iconst 0, 1) := by decide +kernel
theorem dX6_chooses_228 : decode cX6_chooses 228 = .ok (.iastore, 1) := by decide +kernel
theorem dX6_chooses_229 : decode cX6_chooses 229 = .ok (.iinc 9 (-1), 3) := by decide +kernel
theorem dX6_chooses_232 : decode cX6_chooses 232 = .ok (.goto (-27), 3) := by decide +kernel
theorem dX6_chooses_235 : decode cX6_chooses 235 = .ok (.iload 9, 2) := by decide +kernel
theorem dX6_chooses_237 : decode cX6_chooses 237 = .ok (.ifCond .lt 7, 3) := by decide +kernel
theorem dX6_chooses_240 : decode cX6_chooses 240 = .ok (.iconst 1, 1) := by decide +kernel
theorem dX6_chooses_241 : decode cX6_chooses 241 = .ok (.goto 4, 3) := by decide +kernel
theorem dX6_chooses_244 : decode cX6_chooses 244 = .ok (.iconst 0, 1) := by decide +kernel
theorem dX6_chooses_245 : decode cX6_chooses 245 = .ok (.istore 5, 2) := by decide +kernel
theorem dX6_chooses_247 : decode cX6_chooses 247 = .ok (.iload 5, 2) := by decide +kernel
theorem dX6_chooses_249 : decode cX6_chooses 249 = .ok (.ifCond .eq 14, 3) := by decide +kernel
theorem dX6_chooses_252 : decode cX6_chooses 252 = .ok (.aload_n 0, 1) := by decide +kernel
theorem dX6_chooses_253 : decode cX6_chooses 253 = .ok (.getfield 45, 3) := by decide +kernel
theorem dX6_chooses_256 : decode cX6_chooses 256 = .ok (.iload 9, 2) := by decide +kernel
theorem dX6_chooses_258 : decode cX6_chooses 258 = .ok (.dup2, 1) := by decide +kernel
theorem dX6_chooses_259 : decode cX6_chooses 259 = .ok (.iaload, 1) := by decide +kernel
theorem dX6_chooses_260 : decode cX6_chooses 260 = .ok (.iconst 1, 1) := by decide +kernel
theorem dX6_chooses_261 : decode cX6_chooses 261 = .ok (.iadd, 1) := by decide +kernel
theorem dX6_chooses_262 : decode cX6_chooses 262 = .ok (.iastore, 1) := by decide +kernel
theorem dX6_chooses_263 : decode cX6_chooses 263 = .ok (.goto (-175), 3) := by decide +kernel
theorem dX6_chooses_266 : decode cX6_chooses 266 = .ok (.iconst 1, 1) := by decide +kernel
theorem dX6_chooses_267 : decode cX6_chooses 267 = .ok (.ireturn, 1) := by decide +kernel
theorem dX6_upTo_0 : decode cX6_upTo 0 = .ok (.iconst 0, 1) := by decide +kernel
theorem dX6_upTo_1 : decode cX6_upTo 1 = .ok (.istore_n 2, 1) := by decide +kernel
theorem dX6_upTo_2 : decode cX6_upTo 2 = .ok (.iconst 0, 1) := by decide +kernel
theorem dX6_upTo_3 : decode cX6_upTo 3 = .ok (.istore_n 3, 1) := by decide +kernel
theorem dX6_upTo_4 : decode cX6_upTo 4 = .ok (.iload_n 3, 1) := by decide +kernel
theorem dX6_upTo_5 : decode cX6_upTo 5 = .ok (.iload_n 1, 1) := by decide +kernel
theorem dX6_upTo_6 : decode cX6_upTo 6 = .ok (.if_icmp .gt 18, 3) := by decide +kernel
theorem dX6_upTo_9 : decode cX6_upTo 9 = .ok (.iload_n 2, 1) := by decide +kernel
theorem dX6_upTo_10 : decode cX6_upTo 10 = .ok (.aload_n 0, 1) := by decide +kernel
theorem dX6_upTo_11 : decode cX6_upTo 11 = .ok (.getfield 45, 3) := by decide +kernel
theorem dX6_upTo_14 : decode cX6_upTo 14 = .ok (.iload_n 3, 1) := by decide +kernel
theorem dX6_upTo_15 : decode cX6_upTo 15 = .ok (.iaload, 1) := by decide +kernel
theorem dX6_upTo_16 : decode cX6_upTo 16 = .ok (.iadd, 1) := by decide +kernel
theorem dX6_upTo_17 : decode cX6_upTo 17 = .ok (.istore_n 2, 1) := by decide +kernel
theorem dX6_upTo_18 : decode cX6_upTo 18 = .ok (.iinc 3 1, 3) := by decide +kernel
theorem dX6_upTo_21 : decode cX6_upTo 21 = .ok (.goto (-17), 3) := by decide +kernel
theorem dX6_upTo_24 : decode cX6_upTo 24 = .ok (.iload_n 2, 1) := by decide +kernel
theorem dX6_upTo_25 : decode cX6_upTo 25 = .ok (.ireturn, 1) := by decide +kernel
theorem dX6_takes_0 : decode cX6_takes 0 = .ok (.aload_n 0, 1) := by decide +kernel
theorem dX6_takes_1 : decode cX6_takes 1 = .ok (.getfield 127, 3) := by decide +kernel
theorem dX6_takes_4 : decode cX6_takes 4 = .ok (.lconst 0, 1) := by decide +kernel
theorem dX6_takes_5 : decode cX6_takes 5 = .ok (.lcmp, 1) := by decide +kernel
theorem dX6_takes_6 : decode cX6_takes 6 = .ok (.ifCond .lt 12, 3) := by decide +kernel
theorem dX6_takes_9 : decode cX6_takes 9 = .ok (.lload_n 1, 1) := by decide +kernel
theorem dX6_takes_10 : decode cX6_takes 10 = .ok (.aload_n 0, 1) := by decide +kernel
theorem dX6_takes_11 : decode cX6_takes 11 = .ok (.getfield 127, 3) := by decide +kernel
theorem dX6_takes_14 : decode cX6_takes 14 = .ok (.lcmp, 1) := by decide +kernel
theorem dX6_takes_15 : decode cX6_takes 15 = .ok (.ifCond .ge 7, 3) := by decide +kernel
theorem dX6_takes_18 : decode cX6_takes 18 = .ok (.iconst 1, 1) := by decide +kernel
theorem dX6_takes_19 : decode cX6_takes 19 = .ok (.goto 4, 3) := by decide +kernel
theorem dX6_takes_22 : decode cX6_takes 22 = .ok (.iconst 0, 1) := by decide +kernel
theorem dX6_takes_23 : decode cX6_takes 23 = .ok (.istore 5, 2) := by decide +kernel
theorem dX6_takes_25 : decode cX6_takes 25 = .ok (.iload 5, 2) := by decide +kernel
theorem dX6_takes_27 : decode cX6_takes 27 = .ok (.ifCond .ne 68, 3) := by decide +kernel
theorem dX6_takes_30 : decode cX6_takes 30 = .ok (.lload_n 1, 1) := by decide +kernel
theorem dX6_takes_31 : decode cX6_takes 31 = .ok (.aload_n 0, 1) := by decide +kernel
theorem dX6_takes_32 : decode cX6_takes 32 = .ok (.getfield 127, 3) := by decide +kernel
theorem dX6_takes_35 : decode cX6_takes 35 = .ok (.lcmp, 1) := by decide +kernel
theorem dX6_takes_36 : decode cX6_takes 36 = .ok (.ifCond .ne 59, 3) := by decide +kernel
theorem dX6_takes_39 : decode cX6_takes 39 = .ok (.iload_n 3, 1) := by decide +kernel
theorem dX6_takes_40 : decode cX6_takes 40 = .ok (.aload_n 0, 1) := by decide +kernel
theorem dX6_takes_41 : decode cX6_takes 41 = .ok (.getfield 142, 3) := by decide +kernel
theorem dX6_takes_44 : decode cX6_takes 44 = .ok (.if_icmp .eq 19, 3) := by decide +kernel
theorem dX6_takes_47 : decode cX6_takes 47 = .ok (.iload_n 3, 1) := by decide +kernel
theorem dX6_takes_48 : decode cX6_takes 48 = .ok (.aload_n 0, 1) := by decide +kernel
theorem dX6_takes_49 : decode cX6_takes 49 = .ok (.getfield 142, 3) := by decide +kernel
theorem dX6_takes_52 : decode cX6_takes 52 = .ok (.if_icmp .ge 7, 3) := by decide +kernel
theorem dX6_takes_55 : decode cX6_takes 55 = .ok (.iconst 1, 1) := by decide +kernel
theorem dX6_takes_56 : decode cX6_takes 56 = .ok (.goto 37, 3) := by decide +kernel
theorem dX6_takes_59 : decode cX6_takes 59 = .ok (.iconst 0, 1) := by decide +kernel
theorem dX6_takes_60 : decode cX6_takes 60 = .ok (.goto 33, 3) := by decide +kernel
theorem dX6_takes_63 : decode cX6_takes 63 = .ok (.iload 4, 2) := by decide +kernel
theorem dX6_takes_65 : decode cX6_takes 65 = .ok (.aload_n 0, 1) := by decide +kernel
theorem dX6_takes_66 : decode cX6_takes 66 = .ok (.getfield 145, 3) := by decide +kernel
theorem dX6_takes_69 : decode cX6_takes 69 = .ok (.if_icmp .eq 20, 3) := by decide +kernel
theorem dX6_takes_72 : decode cX6_takes 72 = .ok (.iload 4, 2) := by decide +kernel
theorem dX6_takes_74 : decode cX6_takes 74 = .ok (.aload_n 0, 1) := by decide +kernel
theorem dX6_takes_75 : decode cX6_takes 75 = .ok (.getfield 145, 3) := by decide +kernel
theorem dX6_takes_78 : decode cX6_takes 78 = .ok (.if_icmp .ge 7, 3) := by decide +kernel
theorem dX6_takes_81 : decode cX6_takes 81 = .ok (.iconst 1, 1) := by decide +kernel
theorem dX6_takes_82 : decode cX6_takes 82 = .ok (.goto 11, 3) := by decide +kernel
theorem dX6_takes_85 : decode cX6_takes 85 = .ok (.iconst 0, 1) := by decide +kernel
theorem dX6_takes_86 : decode cX6_takes 86 = .ok (.goto 7, 3) := by decide +kernel
theorem dX6_takes_89 : decode cX6_takes 89 = .ok (.aload_n 0, 1) := by decide +kernel
theorem dX6_takes_90 : decode cX6_takes 90 = .ok (.invokevirtual 148, 3) := by decide +kernel
theorem dX6_takes_93 : decode cX6_takes 93 = .ok (.istore 5, 2) := by decide +kernel
theorem dX6_takes_95 : decode cX6_takes 95 = .ok (.iload 5, 2) := by decide +kernel
theorem dX6_takes_97 : decode cX6_takes 97 = .ok (.ifCond .ne 4, 3) := by decide +kernel
theorem dX6_takes_100 : decode cX6_takes 100 = .ok (.return_, 1) := by decide +kernel
theorem dX6_takes_101 : decode cX6_takes 101 = .ok (.aload_n 0, 1) := by decide +kernel
theorem dX6_takes_102 : decode cX6_takes 102 = .ok (.lload_n 1, 1) := by decide +kernel
theorem dX6_takes_103 : decode cX6_takes 103 = .ok (.putfield 127, 3) := by decide +kernel
theorem dX6_takes_106 : decode cX6_takes 106 = .ok (.aload_n 0, 1) := by decide +kernel
theorem dX6_takes_107 : decode cX6_takes 107 = .ok (.iload_n 3, 1) := by decide +kernel
theorem dX6_takes_108 : decode cX6_takes 108 = .ok (.putfield 142, 3) := by decide +kernel
theorem dX6_takes_111 : decode cX6_takes 111 = .ok (.aload_n 0, 1) := by decide +kernel
theorem dX6_takes_112 : decode cX6_takes 112 = .ok (.iload 4, 2) := by decide +kernel
theorem dX6_takes_114 : decode cX6_takes 114 = .ok (.putfield 145, 3) := by decide +kernel
theorem dX6_takes_117 : decode cX6_takes 117 = .ok (.iconst 0, 1) := by decide +kernel
theorem dX6_takes_118 : decode cX6_takes 118 = .ok (.istore 6, 2) := by decide +kernel
theorem dX6_takes_120 : decode cX6_takes 120 = .ok (.iload 6, 2) := by decide +kernel
theorem dX6_takes_122 : decode cX6_takes 122 = .ok (.iconst 4, 1) := by decide +kernel
theorem dX6_takes_123 : decode cX6_takes 123 = .ok (.if_icmp .ge 23, 3) := by decide +kernel
theorem dX6_takes_126 : decode cX6_takes 126 = .ok (.aload_n 0, 1) := by decide +kernel
theorem dX6_takes_127 : decode cX6_takes 127 = .ok (.getfield 48, 3) := by decide +kernel
theorem dX6_takes_130 : decode cX6_takes 130 = .ok (.iload 6, 2) := by decide +kernel
theorem dX6_takes_132 : decode cX6_takes 132 = .ok (.aload_n 0, 1) := by decide +kernel
theorem dX6_takes_133 : decode cX6_takes 133 = .ok (.getfield 45, 3) := by decide +kernel
theorem dX6_takes_136 : decode cX6_takes 136 = .ok (.iload 6, 2) := by decide +kernel
theorem dX6_takes_138 : decode cX6_takes 138 = .ok (.iaload, 1) := by decide +kernel
theorem dX6_takes_139 : decode cX6_takes 139 = .ok (.iastore, 1) := by decide +kernel
theorem dX6_takes_140 : decode cX6_takes 140 = .ok (.iinc 6 1, 3) := by decide +kernel
theorem dX6_takes_143 : decode cX6_takes 143 = .ok (.goto (-23), 3) := by decide +kernel
theorem dX6_takes_146 : decode cX6_takes 146 = .ok (.return_, 1) := by decide +kernel
theorem dX6_isMore_0 : decode cX6_isMore 0 = .ok (.iconst 0, 1) := by decide +kernel
theorem dX6_isMore_1 : decode cX6_isMore 1 = .ok (.istore_n 1, 1) := by decide +kernel
theorem dX6_isMore_2 : decode cX6_isMore 2 = .ok (.iload_n 1, 1) := by decide +kernel
theorem dX6_isMore_3 : decode cX6_isMore 3 = .ok (.aload_n 0, 1) := by decide +kernel
theorem dX6_isMore_4 : decode cX6_isMore 4 = .ok (.getfield 122, 3) := by decide +kernel
theorem dX6_isMore_7 : decode cX6_isMore 7 = .ok (.if_icmp .ge 45, 3) := by decide +kernel
theorem dX6_isMore_10 : decode cX6_isMore 10 = .ok (.aload_n 0, 1) := by decide +kernel
theorem dX6_isMore_11 : decode cX6_isMore 11 = .ok (.getfield 45, 3) := by decide +kernel
theorem dX6_isMore_14 : decode cX6_isMore 14 = .ok (.iload_n 1, 1) := by decide +kernel
theorem dX6_isMore_15 : decode cX6_isMore 15 = .ok (.iaload, 1) := by decide +kernel
theorem dX6_isMore_16 : decode cX6_isMore 16 = .ok (.aload_n 0, 1) := by decide +kernel
theorem dX6_isMore_17 : decode cX6_isMore 17 = .ok (.getfield 48, 3) := by decide +kernel
theorem dX6_isMore_20 : decode cX6_isMore 20 = .ok (.iload_n 1, 1) := by decide +kernel
theorem dX6_isMore_21 : decode cX6_isMore 21 = .ok (.iaload, 1) := by decide +kernel
theorem dX6_isMore_22 : decode cX6_isMore 22 = .ok (.if_icmp .eq 24, 3) := by decide +kernel
theorem dX6_isMore_25 : decode cX6_isMore 25 = .ok (.aload_n 0, 1) := by decide +kernel
theorem dX6_isMore_26 : decode cX6_isMore 26 = .ok (.getfield 45, 3) := by decide +kernel
theorem dX6_isMore_29 : decode cX6_isMore 29 = .ok (.iload_n 1, 1) := by decide +kernel
theorem dX6_isMore_30 : decode cX6_isMore 30 = .ok (.iaload, 1) := by decide +kernel
theorem dX6_isMore_31 : decode cX6_isMore 31 = .ok (.aload_n 0, 1) := by decide +kernel
theorem dX6_isMore_32 : decode cX6_isMore 32 = .ok (.getfield 48, 3) := by decide +kernel
theorem dX6_isMore_35 : decode cX6_isMore 35 = .ok (.iload_n 1, 1) := by decide +kernel
theorem dX6_isMore_36 : decode cX6_isMore 36 = .ok (.iaload, 1) := by decide +kernel
theorem dX6_isMore_37 : decode cX6_isMore 37 = .ok (.if_icmp .le 7, 3) := by decide +kernel
theorem dX6_isMore_40 : decode cX6_isMore 40 = .ok (.iconst 1, 1) := by decide +kernel
theorem dX6_isMore_41 : decode cX6_isMore 41 = .ok (.goto 4, 3) := by decide +kernel
theorem dX6_isMore_44 : decode cX6_isMore 44 = .ok (.iconst 0, 1) := by decide +kernel
theorem dX6_isMore_45 : decode cX6_isMore 45 = .ok (.ireturn, 1) := by decide +kernel
theorem dX6_isMore_46 : decode cX6_isMore 46 = .ok (.iinc 1 1, 3) := by decide +kernel
theorem dX6_isMore_49 : decode cX6_isMore 49 = .ok (.goto (-47), 3) := by decide +kernel
theorem dX6_isMore_52 : decode cX6_isMore 52 = .ok (.iconst 0, 1) := by decide +kernel
theorem dX6_isMore_53 : decode cX6_isMore 53 = .ok (.ireturn, 1) := by decide +kernel
theorem dX6_isAsked_0 : decode cX6_isAsked 0 = .ok (.aload_n 0, 1) := by decide +kernel
theorem dX6_isAsked_1 : decode cX6_isAsked 1 = .ok (.iload_n 1, 1) := by decide +kernel
theorem dX6_isAsked_2 : decode cX6_isAsked 2 = .ok (.invokevirtual 74, 3) := by decide +kernel
theorem dX6_isAsked_5 : decode cX6_isAsked 5 = .ok (.ifCond .eq 38, 3) := by decide +kernel
theorem dX6_isAsked_8 : decode cX6_isAsked 8 = .ok (.aload_n 0, 1) := by decide +kernel
theorem dX6_isAsked_9 : decode cX6_isAsked 9 = .ok (.iload_n 2, 1) := by decide +kernel
theorem dX6_isAsked_10 : decode cX6_isAsked 10 = .ok (.invokestatic 63, 3) := by decide +kernel
theorem dX6_isAsked_13 : decode cX6_isAsked 13 = .ok (.ifCond .eq 14, 3) := by decide +kernel
theorem dX6_isAsked_16 : decode cX6_isAsked 16 = .ok (.iload_n 3, 1) := by decide +kernel
theorem dX6_isAsked_17 : decode cX6_isAsked 17 = .ok (.ifCond .lt 10, 3) := by decide +kernel
theorem dX6_isAsked_20 : decode cX6_isAsked 20 = .ok (.iload_n 3, 1) := by decide +kernel
theorem dX6_isAsked_21 : decode cX6_isAsked 21 = .ok (.sipush 10000, 3) := by decide +kernel
theorem dX6_isAsked_24 : decode cX6_isAsked 24 = .ok (.if_icmp .le 7, 3) := by decide +kernel
theorem dX6_isAsked_27 : decode cX6_isAsked 27 = .ok (.iconst 1, 1) := by decide +kernel
theorem dX6_isAsked_28 : decode cX6_isAsked 28 = .ok (.goto 4, 3) := by decide +kernel
theorem dX6_isAsked_31 : decode cX6_isAsked 31 = .ok (.iconst 0, 1) := by decide +kernel
theorem dX6_isAsked_32 : decode cX6_isAsked 32 = .ok (.iconst 2, 1) := by decide +kernel
theorem dX6_isAsked_33 : decode cX6_isAsked 33 = .ok (.invokevirtual 67, 3) := by decide +kernel
theorem dX6_isAsked_36 : decode cX6_isAsked 36 = .ok (.ifCond .ne 7, 3) := by decide +kernel
theorem dX6_isAsked_39 : decode cX6_isAsked 39 = .ok (.iconst 1, 1) := by decide +kernel
theorem dX6_isAsked_40 : decode cX6_isAsked 40 = .ok (.goto 4, 3) := by decide +kernel
theorem dX6_isAsked_43 : decode cX6_isAsked 43 = .ok (.iconst 0, 1) := by decide +kernel
theorem dX6_isAsked_44 : decode cX6_isAsked 44 = .ok (.ireturn, 1) := by decide +kernel
theorem dX6_cost_0 : decode cX6_cost 0 = .ok (.aload_n 0, 1) := by decide +kernel
theorem dX6_cost_1 : decode cX6_cost 1 = .ok (.iload_n 1, 1) := by decide +kernel
theorem dX6_cost_2 : decode cX6_cost 2 = .ok (.iload_n 2, 1) := by decide +kernel
theorem dX6_cost_3 : decode cX6_cost 3 = .ok (.iload_n 3, 1) := by decide +kernel
theorem dX6_cost_4 : decode cX6_cost 4 = .ok (.invokevirtual 152, 3) := by decide +kernel
theorem dX6_cost_7 : decode cX6_cost 7 = .ok (.ifCond .ne 5, 3) := by decide +kernel
theorem dX6_cost_10 : decode cX6_cost 10 = .ok (.lconst 0, 1) := by decide +kernel
theorem dX6_cost_11 : decode cX6_cost 11 = .ok (.lreturn, 1) := by decide +kernel
theorem dX6_cost_12 : decode cX6_cost 12 = .ok (.aload_n 0, 1) := by decide +kernel
theorem dX6_cost_13 : decode cX6_cost 13 = .ok (.iload_n 1, 1) := by decide +kernel
theorem dX6_cost_14 : decode cX6_cost 14 = .ok (.iload_n 2, 1) := by decide +kernel
theorem dX6_cost_15 : decode cX6_cost 15 = .ok (.iload_n 3, 1) := by decide +kernel
theorem dX6_cost_16 : decode cX6_cost 16 = .ok (.invokevirtual 156, 3) := by decide +kernel
theorem dX6_cost_19 : decode cX6_cost 19 = .ok (.ifCond .eq 10, 3) := by decide +kernel
theorem dX6_cost_22 : decode cX6_cost 22 = .ok (.aload_n 0, 1) := by decide +kernel
theorem dX6_cost_23 : decode cX6_cost 23 = .ok (.getfield 127, 3) := by decide +kernel
theorem dX6_cost_26 : decode cX6_cost 26 = .ok (.goto 6, 3) := by decide +kernel
theorem dX6_cost_29 : decode cX6_cost 29 = .ok (.ldc2_w 125, 3) := by decide +kernel
theorem dX6_cost_32 : decode cX6_cost 32 = .ok (.lreturn, 1) := by decide +kernel
theorem dX6_pots_0 : decode cX6_pots 0 = .ok (.aload_n 0, 1) := by decide +kernel
theorem dX6_pots_1 : decode cX6_pots 1 = .ok (.iload_n 1, 1) := by decide +kernel
theorem dX6_pots_2 : decode cX6_pots 2 = .ok (.iload_n 2, 1) := by decide +kernel
theorem dX6_pots_3 : decode cX6_pots 3 = .ok (.iload_n 3, 1) := by decide +kernel
theorem dX6_pots_4 : decode cX6_pots 4 = .ok (.invokevirtual 152, 3) := by decide +kernel
theorem dX6_pots_7 : decode cX6_pots 7 = .ok (.ifCond .ne 5, 3) := by decide +kernel
theorem dX6_pots_10 : decode cX6_pots 10 = .ok (.iconst 0, 1) := by decide +kernel
theorem dX6_pots_11 : decode cX6_pots 11 = .ok (.ireturn, 1) := by decide +kernel
theorem dX6_pots_12 : decode cX6_pots 12 = .ok (.aload_n 0, 1) := by decide +kernel
theorem dX6_pots_13 : decode cX6_pots 13 = .ok (.iload_n 1, 1) := by decide +kernel
theorem dX6_pots_14 : decode cX6_pots 14 = .ok (.iload_n 2, 1) := by decide +kernel
theorem dX6_pots_15 : decode cX6_pots 15 = .ok (.iload_n 3, 1) := by decide +kernel
theorem dX6_pots_16 : decode cX6_pots 16 = .ok (.invokevirtual 156, 3) := by decide +kernel
theorem dX6_pots_19 : decode cX6_pots 19 = .ok (.ifCond .ne 5, 3) := by decide +kernel
theorem dX6_pots_22 : decode cX6_pots 22 = .ok (.iconst (-1), 1) := by decide +kernel
theorem dX6_pots_23 : decode cX6_pots 23 = .ok (.ireturn, 1) := by decide +kernel
theorem dX6_pots_24 : decode cX6_pots 24 = .ok (.iload 4, 2) := by decide +kernel
theorem dX6_pots_26 : decode cX6_pots 26 = .ok (.ifCond .lt 22, 3) := by decide +kernel
theorem dX6_pots_29 : decode cX6_pots 29 = .ok (.iload 4, 2) := by decide +kernel
theorem dX6_pots_31 : decode cX6_pots 31 = .ok (.aload_n 0, 1) := by decide +kernel
theorem dX6_pots_32 : decode cX6_pots 32 = .ok (.getfield 122, 3) := by decide +kernel
theorem dX6_pots_35 : decode cX6_pots 35 = .ok (.if_icmp .ge 13, 3) := by decide +kernel
theorem dX6_pots_38 : decode cX6_pots 38 = .ok (.aload_n 0, 1) := by decide +kernel
theorem dX6_pots_39 : decode cX6_pots 39 = .ok (.getfield 48, 3) := by decide +kernel
theorem dX6_pots_42 : decode cX6_pots 42 = .ok (.iload 4, 2) := by decide +kernel
theorem dX6_pots_44 : decode cX6_pots 44 = .ok (.iaload, 1) := by decide +kernel
theorem dX6_pots_45 : decode cX6_pots 45 = .ok (.goto 4, 3) := by decide +kernel
theorem dX6_pots_48 : decode cX6_pots 48 = .ok (.iconst 0, 1) := by decide +kernel
theorem dX6_pots_49 : decode cX6_pots 49 = .ok (.ireturn, 1) := by decide +kernel
theorem dX6_isUnlike_0 : decode cX6_isUnlike 0 = .ok (.aload_n 0, 1) := by decide +kernel
theorem dX6_isUnlike_1 : decode cX6_isUnlike 1 = .ok (.getfield 9, 3) := by decide +kernel
theorem dX6_isUnlike_4 : decode cX6_isUnlike 4 = .ok (.iload_n 1, 1) := by decide +kernel
theorem dX6_isUnlike_5 : decode cX6_isUnlike 5 = .ok (.iaload, 1) := by decide +kernel
theorem dX6_isUnlike_6 : decode cX6_isUnlike 6 = .ok (.aload_n 0, 1) := by decide +kernel
theorem dX6_isUnlike_7 : decode cX6_isUnlike 7 = .ok (.getfield 13, 3) := by decide +kernel
theorem dX6_isUnlike_10 : decode cX6_isUnlike 10 = .ok (.iload_n 2, 1) := by decide +kernel
theorem dX6_isUnlike_11 : decode cX6_isUnlike 11 = .ok (.iaload, 1) := by decide +kernel
theorem dX6_isUnlike_12 : decode cX6_isUnlike 12 = .ok (.iand, 1) := by decide +kernel
theorem dX6_isUnlike_13 : decode cX6_isUnlike 13 = .ok (.ifCond .ne 19, 3) := by decide +kernel
theorem dX6_isUnlike_16 : decode cX6_isUnlike 16 = .ok (.aload_n 0, 1) := by decide +kernel
theorem dX6_isUnlike_17 : decode cX6_isUnlike 17 = .ok (.getfield 9, 3) := by decide +kernel
theorem dX6_isUnlike_20 : decode cX6_isUnlike 20 = .ok (.iload_n 2, 1) := by decide +kernel
theorem dX6_isUnlike_21 : decode cX6_isUnlike 21 = .ok (.iaload, 1) := by decide +kernel
theorem dX6_isUnlike_22 : decode cX6_isUnlike 22 = .ok (.aload_n 0, 1) := by decide +kernel
theorem dX6_isUnlike_23 : decode cX6_isUnlike 23 = .ok (.getfield 13, 3) := by decide +kernel
theorem dX6_isUnlike_26 : decode cX6_isUnlike 26 = .ok (.iload_n 1, 1) := by decide +kernel
theorem dX6_isUnlike_27 : decode cX6_isUnlike 27 = .ok (.iaload, 1) := by decide +kernel
theorem dX6_isUnlike_28 : decode cX6_isUnlike 28 = .ok (.iand, 1) := by decide +kernel
theorem dX6_isUnlike_29 : decode cX6_isUnlike 29 = .ok (.ifCond .eq 7, 3) := by decide +kernel
theorem dX6_isUnlike_32 : decode cX6_isUnlike 32 = .ok (.iconst 1, 1) := by decide +kernel
theorem dX6_isUnlike_33 : decode cX6_isUnlike 33 = .ok (.goto 4, 3) := by decide +kernel
theorem dX6_isUnlike_36 : decode cX6_isUnlike 36 = .ok (.iconst 0, 1) := by decide +kernel
theorem dX6_isUnlike_37 : decode cX6_isUnlike 37 = .ok (.ireturn, 1) := by decide +kernel
theorem dX6_shares_0 : decode cX6_shares 0 = .ok (.aload_n 0, 1) := by decide +kernel
theorem dX6_shares_1 : decode cX6_shares 1 = .ok (.getfield 159, 3) := by decide +kernel
theorem dX6_shares_4 : decode cX6_shares 4 = .ok (.ifCond .lt 12, 3) := by decide +kernel
theorem dX6_shares_7 : decode cX6_shares 7 = .ok (.iload_n 2, 1) := by decide +kernel
theorem dX6_shares_8 : decode cX6_shares 8 = .ok (.aload_n 0, 1) := by decide +kernel
theorem dX6_shares_9 : decode cX6_shares 9 = .ok (.getfield 159, 3) := by decide +kernel
theorem dX6_shares_12 : decode cX6_shares 12 = .ok (.if_icmp .lt 4, 3) := by decide +kernel
theorem dX6_shares_15 : decode cX6_shares 15 = .ok (.return_, 1) := by decide +kernel
theorem dX6_shares_16 : decode cX6_shares 16 = .ok (.iload_n 1, 1) := by decide +kernel
theorem dX6_shares_17 : decode cX6_shares 17 = .ok (.aload_n 0, 1) := by decide +kernel
theorem dX6_shares_18 : decode cX6_shares 18 = .ok (.getfield 71, 3) := by decide +kernel
theorem dX6_shares_21 : decode cX6_shares 21 = .ok (.if_icmp .ne 37, 3) := by decide +kernel
theorem dX6_shares_24 : decode cX6_shares 24 = .ok (.aload_n 0, 1) := by decide +kernel
theorem dX6_shares_25 : decode cX6_shares 25 = .ok (.iload_n 2, 1) := by decide +kernel
theorem dX6_shares_26 : decode cX6_shares 26 = .ok (.putfield 159, 3) := by decide +kernel
theorem dX6_shares_29 : decode cX6_shares 29 = .ok (.iconst 0, 1) := by decide +kernel
theorem dX6_shares_30 : decode cX6_shares 30 = .ok (.istore_n 3, 1) := by decide +kernel
theorem dX6_shares_31 : decode cX6_shares 31 = .ok (.iload_n 3, 1) := by decide +kernel
theorem dX6_shares_32 : decode cX6_shares 32 = .ok (.aload_n 0, 1) := by decide +kernel
theorem dX6_shares_33 : decode cX6_shares 33 = .ok (.getfield 71, 3) := by decide +kernel
theorem dX6_shares_36 : decode cX6_shares 36 = .ok (.if_icmp .ge 21, 3) := by decide +kernel
theorem dX6_shares_39 : decode cX6_shares 39 = .ok (.aload_n 0, 1) := by decide +kernel
theorem dX6_shares_40 : decode cX6_shares 40 = .ok (.getfield 54, 3) := by decide +kernel
theorem dX6_shares_43 : decode cX6_shares 43 = .ok (.iload_n 3, 1) := by decide +kernel
theorem dX6_shares_44 : decode cX6_shares 44 = .ok (.aload_n 0, 1) := by decide +kernel
theorem dX6_shares_45 : decode cX6_shares 45 = .ok (.getfield 51, 3) := by decide +kernel
theorem dX6_shares_48 : decode cX6_shares 48 = .ok (.iload_n 3, 1) := by decide +kernel
theorem dX6_shares_49 : decode cX6_shares 49 = .ok (.iaload, 1) := by decide +kernel
theorem dX6_shares_50 : decode cX6_shares 50 = .ok (.iastore, 1) := by decide +kernel
theorem dX6_shares_51 : decode cX6_shares 51 = .ok (.iinc 3 1, 3) := by decide +kernel
theorem dX6_shares_54 : decode cX6_shares 54 = .ok (.goto (-23), 3) := by decide +kernel
theorem dX6_shares_57 : decode cX6_shares 57 = .ok (.return_, 1) := by decide +kernel
theorem dX6_shares_58 : decode cX6_shares 58 = .ok (.iconst 0, 1) := by decide +kernel
theorem dX6_shares_59 : decode cX6_shares 59 = .ok (.istore_n 3, 1) := by decide +kernel
theorem dX6_shares_60 : decode cX6_shares 60 = .ok (.iload_n 3, 1) := by decide +kernel
theorem dX6_shares_61 : decode cX6_shares 61 = .ok (.iload_n 2, 1) := by decide +kernel
theorem dX6_shares_62 : decode cX6_shares 62 = .ok (.if_icmp .gt 94, 3) := by decide +kernel
theorem dX6_shares_65 : decode cX6_shares 65 = .ok (.iconst 1, 1) := by decide +kernel
theorem dX6_shares_66 : decode cX6_shares 66 = .ok (.istore 4, 2) := by decide +kernel
theorem dX6_shares_68 : decode cX6_shares 68 = .ok (.iconst 0, 1) := by decide +kernel
theorem dX6_shares_69 : decode cX6_shares 69 = .ok (.istore 5, 2) := by decide +kernel
theorem dX6_shares_71 : decode cX6_shares 71 = .ok (.iload 5, 2) := by decide +kernel
theorem dX6_shares_73 : decode cX6_shares 73 = .ok (.iload_n 1, 1) := by decide +kernel
theorem dX6_shares_74 : decode cX6_shares 74 = .ok (.if_icmp .ge 42, 3) := by decide +kernel
theorem dX6_shares_77 : decode cX6_shares 77 = .ok (.iload 4, 2) := by decide +kernel
theorem dX6_shares_79 : decode cX6_shares 79 = .ok (.ifCond .eq 28, 3) := by decide +kernel
theorem dX6_shares_82 : decode cX6_shares 82 = .ok (.aload_n 0, 1) := by decide +kernel
theorem dX6_shares_83 : decode cX6_shares 83 = .ok (.getfield 51, 3) := by decide +kernel
theorem dX6_shares_86 : decode cX6_shares 86 = .ok (.iload 5, 2) := by decide +kernel
theorem dX6_shares_88 : decode cX6_shares 88 = .ok (.iaload, 1) := by decide +kernel
theorem dX6_shares_89 : decode cX6_shares 89 = .ok (.iload_n 3, 1) := by decide +kernel
theorem dX6_shares_90 : decode cX6_shares 90 = .ok (.if_icmp .ne 13, 3) := by decide +kernel
theorem dX6_shares_93 : decode cX6_shares 93 = .ok (.aload_n 0, 1) := by decide +kernel
theorem dX6_shares_94 : decode cX6_shares 94 = .ok (.iload 5, 2) := by decide +kernel
theorem dX6_shares_96 : decode cX6_shares 96 = .ok (.iload_n 1, 1) := by decide +kernel
theorem dX6_shares_97 : decode cX6_shares 97 = .ok (.invokevirtual 162, 3) := by decide +kernel
theorem dX6_shares_100 : decode cX6_shares 100 = .ok (.ifCond .ne 7, 3) := by decide +kernel
theorem dX6_shares_103 : decode cX6_shares 103 = .ok (.iconst 1, 1) := by decide +kernel
theorem dX6_shares_104 : decode cX6_shares 104 = .ok (.goto 4, 3) := by decide +kernel
theorem dX6_shares_107 : decode cX6_shares 107 = .ok (.iconst 0, 1) := by decide +kernel
theorem dX6_shares_108 : decode cX6_shares 108 = .ok (.istore 4, 2) := by decide +kernel
theorem dX6_shares_110 : decode cX6_shares 110 = .ok (.iinc 5 1, 3) := by decide +kernel
theorem dX6_shares_113 : decode cX6_shares 113 = .ok (.goto (-42), 3) := by decide +kernel
theorem dX6_shares_116 : decode cX6_shares 116 = .ok (.iload 4, 2) := by decide +kernel
theorem dX6_shares_118 : decode cX6_shares 118 = .ok (.ifCond .ne 6, 3) := by decide +kernel
theorem dX6_shares_121 : decode cX6_shares 121 = .ok (.goto 29, 3) := by decide +kernel
theorem dX6_shares_124 : decode cX6_shares 124 = .ok (.aload_n 0, 1) := by decide +kernel
theorem dX6_shares_125 : decode cX6_shares 125 = .ok (.getfield 51, 3) := by decide +kernel
theorem dX6_shares_128 : decode cX6_shares 128 = .ok (.iload_n 1, 1) := by decide +kernel
theorem dX6_shares_129 : decode cX6_shares 129 = .ok (.iload_n 3, 1) := by decide +kernel
theorem dX6_shares_130 : decode cX6_shares 130 = .ok (.iastore, 1) := by decide +kernel
theorem dX6_shares_131 : decode cX6_shares 131 = .ok (.aload_n 0, 1) := by decide +kernel
theorem dX6_shares_132 : decode cX6_shares 132 = .ok (.iload_n 1, 1) := by decide +kernel
theorem dX6_shares_133 : decode cX6_shares 133 = .ok (.iconst 1, 1) := by decide +kernel
theorem dX6_shares_134 : decode cX6_shares 134 = .ok (.iadd, 1) := by decide +kernel
theorem dX6_shares_135 : decode cX6_shares 135 = .ok (.iload_n 3, 1) := by decide +kernel
theorem dX6_shares_136 : decode cX6_shares 136 = .ok (.iload_n 2, 1) := by decide +kernel
theorem dX6_shares_137 : decode cX6_shares 137 = .ok (.if_icmp .ne 9, 3) := by decide +kernel
theorem dX6_shares_140 : decode cX6_shares 140 = .ok (.iload_n 2, 1) := by decide +kernel
theorem dX6_shares_141 : decode cX6_shares 141 = .ok (.iconst 1, 1) := by decide +kernel
theorem dX6_shares_142 : decode cX6_shares 142 = .ok (.iadd, 1) := by decide +kernel
theorem dX6_shares_143 : decode cX6_shares 143 = .ok (.goto 4, 3) := by decide +kernel
theorem dX6_shares_146 : decode cX6_shares 146 = .ok (.iload_n 2, 1) := by decide +kernel
theorem dX6_shares_147 : decode cX6_shares 147 = .ok (.invokevirtual 166, 3) := by decide +kernel
theorem dX6_shares_150 : decode cX6_shares 150 = .ok (.iinc 3 1, 3) := by decide +kernel
theorem dX6_shares_153 : decode cX6_shares 153 = .ok (.goto (-93), 3) := by decide +kernel
theorem dX6_shares_156 : decode cX6_shares 156 = .ok (.return_, 1) := by decide +kernel
theorem dX6_ladlesAnew_0 : decode cX6_ladlesAnew 0 = .ok (.iconst 1, 1) := by decide +kernel
theorem dX6_ladlesAnew_1 : decode cX6_ladlesAnew 1 = .ok (.istore_n 1, 1) := by decide +kernel
theorem dX6_ladlesAnew_2 : decode cX6_ladlesAnew 2 = .ok (.iconst 0, 1) := by decide +kernel
theorem dX6_ladlesAnew_3 : decode cX6_ladlesAnew 3 = .ok (.istore_n 2, 1) := by decide +kernel
theorem dX6_ladlesAnew_4 : decode cX6_ladlesAnew 4 = .ok (.iload_n 2, 1) := by decide +kernel
theorem dX6_ladlesAnew_5 : decode cX6_ladlesAnew 5 = .ok (.aload_n 0, 1) := by decide +kernel
theorem dX6_ladlesAnew_6 : decode cX6_ladlesAnew 6 = .ok (.getfield 71, 3) := by decide +kernel
theorem dX6_ladlesAnew_9 : decode cX6_ladlesAnew 9 = .ok (.if_icmp .ge 35, 3) := by decide +kernel
theorem dX6_ladlesAnew_12 : decode cX6_ladlesAnew 12 = .ok (.iload_n 1, 1) := by decide +kernel
theorem dX6_ladlesAnew_13 : decode cX6_ladlesAnew 13 = .ok (.ifCond .eq 23, 3) := by decide +kernel
theorem dX6_ladlesAnew_16 : decode cX6_ladlesAnew 16 = .ok (.aload_n 0, 1) := by decide +kernel
theorem dX6_ladlesAnew_17 : decode cX6_ladlesAnew 17 = .ok (.getfield 9, 3) := by decide +kernel
theorem dX6_ladlesAnew_20 : decode cX6_ladlesAnew 20 = .ok (.iload_n 2, 1) := by decide +kernel
theorem dX6_ladlesAnew_21 : decode cX6_ladlesAnew 21 = .ok (.iaload, 1) := by decide +kernel
theorem dX6_ladlesAnew_22 : decode cX6_ladlesAnew 22 = .ok (.aload_n 0, 1) := by decide +kernel
theorem dX6_ladlesAnew_23 : decode cX6_ladlesAnew 23 = .ok (.getfield 13, 3) := by decide +kernel
theorem dX6_ladlesAnew_26 : decode cX6_ladlesAnew 26 = .ok (.iload_n 2, 1) := by decide +kernel
theorem dX6_ladlesAnew_27 : decode cX6_ladlesAnew 27 = .ok (.iaload, 1) := by decide +kernel
theorem dX6_ladlesAnew_28 : decode cX6_ladlesAnew 28 = .ok (.iand, 1) := by decide +kernel
theorem dX6_ladlesAnew_29 : decode cX6_ladlesAnew 29 = .ok (.ifCond .ne 7, 3) := by decide +kernel
theorem dX6_ladlesAnew_32 : decode cX6_ladlesAnew 32 = .ok (.iconst 1, 1) := by decide +kernel
theorem dX6_ladlesAnew_33 : decode cX6_ladlesAnew 33 = .ok (.goto 4, 3) := by decide +kernel
theorem dX6_ladlesAnew_36 : decode cX6_ladlesAnew 36 = .ok (.iconst 0, 1) := by decide +kernel
theorem dX6_ladlesAnew_37 : decode cX6_ladlesAnew 37 = .ok (.istore_n 1, 1) := by decide +kernel
theorem dX6_ladlesAnew_38 : decode cX6_ladlesAnew 38 = .ok (.iinc 2 1, 3) := by decide +kernel
theorem dX6_ladlesAnew_41 : decode cX6_ladlesAnew 41 = .ok (.goto (-37), 3) := by decide +kernel
theorem dX6_ladlesAnew_44 : decode cX6_ladlesAnew 44 = .ok (.aload_n 0, 1) := by decide +kernel
theorem dX6_ladlesAnew_45 : decode cX6_ladlesAnew 45 = .ok (.iconst (-1), 1) := by decide +kernel
theorem dX6_ladlesAnew_46 : decode cX6_ladlesAnew 46 = .ok (.putfield 159, 3) := by decide +kernel
theorem dX6_ladlesAnew_49 : decode cX6_ladlesAnew 49 = .ok (.iload_n 1, 1) := by decide +kernel
theorem dX6_ladlesAnew_50 : decode cX6_ladlesAnew 50 = .ok (.ifCond .eq 9, 3) := by decide +kernel
theorem dX6_ladlesAnew_53 : decode cX6_ladlesAnew 53 = .ok (.aload_n 0, 1) := by decide +kernel
theorem dX6_ladlesAnew_54 : decode cX6_ladlesAnew 54 = .ok (.iconst 0, 1) := by decide +kernel
theorem dX6_ladlesAnew_55 : decode cX6_ladlesAnew 55 = .ok (.iconst 0, 1) := by decide +kernel
theorem dX6_ladlesAnew_56 : decode cX6_ladlesAnew 56 = .ok (.invokevirtual 166, 3) := by decide +kernel
theorem dX6_ladlesAnew_59 : decode cX6_ladlesAnew 59 = .ok (.iload_n 1, 1) := by decide +kernel
theorem dX6_ladlesAnew_60 : decode cX6_ladlesAnew 60 = .ok (.ireturn, 1) := by decide +kernel
theorem dX6_ladles_0 : decode cX6_ladles 0 = .ok (.aload_n 0, 1) := by decide +kernel
theorem dX6_ladles_1 : decode cX6_ladles 1 = .ok (.iconst 0, 1) := by decide +kernel
theorem dX6_ladles_2 : decode cX6_ladles 2 = .ok (.putfield 60, 3) := by decide +kernel
theorem dX6_ladles_5 : decode cX6_ladles 5 = .ok (.aload_n 0, 1) := by decide +kernel
theorem dX6_ladles_6 : decode cX6_ladles 6 = .ok (.invokevirtual 169, 3) := by decide +kernel
theorem dX6_ladles_9 : decode cX6_ladles 9 = .ok (.ifCond .eq 10, 3) := by decide +kernel
theorem dX6_ladles_12 : decode cX6_ladles 12 = .ok (.aload_n 0, 1) := by decide +kernel
theorem dX6_ladles_13 : decode cX6_ladles 13 = .ok (.getfield 159, 3) := by decide +kernel
theorem dX6_ladles_16 : decode cX6_ladles 16 = .ok (.goto 4, 3) := by decide +kernel
theorem dX6_ladles_19 : decode cX6_ladles 19 = .ok (.iconst (-1), 1) := by decide +kernel
theorem dX6_ladles_20 : decode cX6_ladles 20 = .ok (.ireturn, 1) := by decide +kernel
theorem dX6_ladle_0 : decode cX6_ladle 0 = .ok (.aload_n 0, 1) := by decide +kernel
theorem dX6_ladle_1 : decode cX6_ladle 1 = .ok (.iload_n 1, 1) := by decide +kernel
theorem dX6_ladle_2 : decode cX6_ladle 2 = .ok (.invokevirtual 74, 3) := by decide +kernel
theorem dX6_ladle_5 : decode cX6_ladle 5 = .ok (.ifCond .ne 5, 3) := by decide +kernel
theorem dX6_ladle_8 : decode cX6_ladle 8 = .ok (.iconst 0, 1) := by decide +kernel
theorem dX6_ladle_9 : decode cX6_ladle 9 = .ok (.ireturn, 1) := by decide +kernel
theorem dX6_ladle_10 : decode cX6_ladle 10 = .ok (.aload_n 0, 1) := by decide +kernel
theorem dX6_ladle_11 : decode cX6_ladle 11 = .ok (.invokevirtual 169, 3) := by decide +kernel
theorem dX6_ladle_14 : decode cX6_ladle 14 = .ok (.ifCond .eq 12, 3) := by decide +kernel
theorem dX6_ladle_17 : decode cX6_ladle 17 = .ok (.aload_n 0, 1) := by decide +kernel
theorem dX6_ladle_18 : decode cX6_ladle 18 = .ok (.getfield 54, 3) := by decide +kernel
theorem dX6_ladle_21 : decode cX6_ladle 21 = .ok (.iload_n 1, 1) := by decide +kernel
theorem dX6_ladle_22 : decode cX6_ladle 22 = .ok (.iaload, 1) := by decide +kernel
theorem dX6_ladle_23 : decode cX6_ladle 23 = .ok (.goto 4, 3) := by decide +kernel
theorem dX6_ladle_26 : decode cX6_ladle 26 = .ok (.iconst (-1), 1) := by decide +kernel
theorem dX6_ladle_27 : decode cX6_ladle 27 = .ok (.ireturn, 1) := by decide +kernel
theorem dX6_come_0 : decode cX6_come 0 = .ok (.aload_n 0, 1) := by decide +kernel
theorem dX6_come_1 : decode cX6_come 1 = .ok (.iconst 0, 1) := by decide +kernel
theorem dX6_come_2 : decode cX6_come 2 = .ok (.putfield 60, 3) := by decide +kernel
theorem dX6_come_5 : decode cX6_come 5 = .ok (.aload_n 0, 1) := by decide +kernel
theorem dX6_come_6 : decode cX6_come 6 = .ok (.iload_n 1, 1) := by decide +kernel
theorem dX6_come_7 : decode cX6_come 7 = .ok (.ifCond .lt 9, 3) := by decide +kernel
theorem dX6_come_10 : decode cX6_come 10 = .ok (.iload_n 1, 1) := by decide +kernel
theorem dX6_come_11 : decode cX6_come 11 = .ok (.bipush 100, 2) := by decide +kernel
theorem dX6_come_13 : decode cX6_come 13 = .ok (.if_icmp .le 7, 3) := by decide +kernel
theorem dX6_come_16 : decode cX6_come 16 = .ok (.iconst 1, 1) := by decide +kernel
theorem dX6_come_17 : decode cX6_come 17 = .ok (.goto 4, 3) := by decide +kernel
theorem dX6_come_20 : decode cX6_come 20 = .ok (.iconst 0, 1) := by decide +kernel
theorem dX6_come_21 : decode cX6_come 21 = .ok (.iconst 1, 1) := by decide +kernel
theorem dX6_come_22 : decode cX6_come 22 = .ok (.invokevirtual 67, 3) := by decide +kernel
theorem dX6_come_25 : decode cX6_come 25 = .ok (.ifCond .eq 5, 3) := by decide +kernel
theorem dX6_come_28 : decode cX6_come 28 = .ok (.iconst 0, 1) := by decide +kernel
theorem dX6_come_29 : decode cX6_come 29 = .ok (.ireturn, 1) := by decide +kernel
theorem dX6_come_30 : decode cX6_come 30 = .ok (.aload_n 0, 1) := by decide +kernel
theorem dX6_come_31 : decode cX6_come 31 = .ok (.getfield 172, 3) := by decide +kernel
theorem dX6_come_34 : decode cX6_come 34 = .ok (.bipush 60, 2) := by decide +kernel
theorem dX6_come_36 : decode cX6_come 36 = .ok (.if_icmp .ne 5, 3) := by decide +kernel
theorem dX6_come_39 : decode cX6_come 39 = .ok (.iconst (-1), 1) := by decide +kernel
theorem dX6_come_40 : decode cX6_come 40 = .ok (.ireturn, 1) := by decide +kernel
theorem dX6_come_41 : decode cX6_come 41 = .ok (.aload_n 0, 1) := by decide +kernel
theorem dX6_come_42 : decode cX6_come 42 = .ok (.getfield 57, 3) := by decide +kernel
theorem dX6_come_45 : decode cX6_come 45 = .ok (.aload_n 0, 1) := by decide +kernel
theorem dX6_come_46 : decode cX6_come 46 = .ok (.getfield 172, 3) := by decide +kernel
theorem dX6_come_49 : decode cX6_come 49 = .ok (.iload_n 1, 1) := by decide +kernel
theorem dX6_come_50 : decode cX6_come 50 = .ok (.iastore, 1) := by decide +kernel
theorem dX6_come_51 : decode cX6_come 51 = .ok (.aload_n 0, 1) := by decide +kernel
theorem dX6_come_52 : decode cX6_come 52 = .ok (.dup, 1) := by decide +kernel
theorem dX6_come_53 : decode cX6_come 53 = .ok (.getfield 172, 3) := by decide +kernel
theorem dX6_come_56 : decode cX6_come 56 = .ok (.iconst 1, 1) := by decide +kernel
theorem dX6_come_57 : decode cX6_come 57 = .ok (.iadd, 1) := by decide +kernel
theorem dX6_come_58 : decode cX6_come 58 = .ok (.putfield 172, 3) := by decide +kernel
theorem dX6_come_61 : decode cX6_come 61 = .ok (.aload_n 0, 1) := by decide +kernel
theorem dX6_come_62 : decode cX6_come 62 = .ok (.getfield 172, 3) := by decide +kernel
theorem dX6_come_65 : decode cX6_come 65 = .ok (.ireturn, 1) := by decide +kernel
theorem dX6_stands_0 : decode cX6_stands 0 = .ok (.aload_n 0, 1) := by decide +kernel
theorem dX6_stands_1 : decode cX6_stands 1 = .ok (.iconst 0, 1) := by decide +kernel
theorem dX6_stands_2 : decode cX6_stands 2 = .ok (.putfield 175, 3) := by decide +kernel
theorem dX6_stands_5 : decode cX6_stands 5 = .ok (.aload_n 0, 1) := by decide +kernel
theorem dX6_stands_6 : decode cX6_stands 6 = .ok (.iconst 0, 1) := by decide +kernel
theorem dX6_stands_7 : decode cX6_stands 7 = .ok (.putfield 178, 3) := by decide +kernel
theorem dX6_stands_10 : decode cX6_stands 10 = .ok (.aload_n 0, 1) := by decide +kernel
theorem dX6_stands_11 : decode cX6_stands 11 = .ok (.iconst (-1), 1) := by decide +kernel
theorem dX6_stands_12 : decode cX6_stands 12 = .ok (.putfield 181, 3) := by decide +kernel
theorem dX6_stands_15 : decode cX6_stands 15 = .ok (.aload_n 0, 1) := by decide +kernel
theorem dX6_stands_16 : decode cX6_stands 16 = .ok (.iconst 0, 1) := by decide +kernel
theorem dX6_stands_17 : decode cX6_stands 17 = .ok (.putfield 184, 3) := by decide +kernel
theorem dX6_stands_20 : decode cX6_stands 20 = .ok (.iconst 0, 1) := by decide +kernel
theorem dX6_stands_21 : decode cX6_stands 21 = .ok (.istore_n 2, 1) := by decide +kernel
theorem dX6_stands_22 : decode cX6_stands 22 = .ok (.aload_n 0, 1) := by decide +kernel
theorem dX6_stands_23 : decode cX6_stands 23 = .ok (.getfield 172, 3) := by decide +kernel
theorem dX6_stands_26 : decode cX6_stands 26 = .ok (.ifCond .le 12, 3) := by decide +kernel
theorem dX6_stands_29 : decode cX6_stands 29 = .ok (.aload_n 0, 1) := by decide +kernel
theorem dX6_stands_30 : decode cX6_stands 30 = .ok (.getfield 57, 3) := by decide +kernel
theorem dX6_stands_33 : decode cX6_stands 33 = .ok (.iconst 0, 1) := by decide +kernel
theorem dX6_stands_34 : decode cX6_stands 34 = .ok (.iaload, 1) := by decide +kernel
theorem dX6_stands_35 : decode cX6_stands 35 = .ok (.goto 4, 3) := by decide +kernel
theorem dX6_stands_38 : decode cX6_stands 38 = .ok (.iconst 0, 1) := by decide +kernel
theorem dX6_stands_39 : decode cX6_stands 39 = .ok (.istore_n 3, 1) := by decide +kernel
theorem dX6_stands_40 : decode cX6_stands 40 = .ok (.iconst 0, 1) := by decide +kernel
theorem dX6_stands_41 : decode cX6_stands 41 = .ok (.istore 4, 2) := by decide +kernel
theorem dX6_stands_43 : decode cX6_stands 43 = .ok (.aload_n 0, 1) := by decide +kernel
theorem dX6_stands_44 : decode cX6_stands 44 = .ok (.getfield 172, 3) := by decide +kernel
theorem dX6_stands_47 : decode cX6_stands 47 = .ok (.istore 5, 2) := by decide +kernel
theorem dX6_stands_49 : decode cX6_stands 49 = .ok (.iconst 0, 1) := by decide +kernel
theorem dX6_stands_50 : decode cX6_stands 50 = .ok (.istore 6, 2) := by decide +kernel
theorem dX6_stands_52 : decode cX6_stands 52 = .ok (.iload 6, 2) := by decide +kernel
theorem dX6_stands_54 : decode cX6_stands 54 = .ok (.iload 5, 2) := by decide +kernel
theorem dX6_stands_56 : decode cX6_stands 56 = .ok (.if_icmp .lt 8, 3) := by decide +kernel
theorem dX6_stands_59 : decode cX6_stands 59 = .ok (.iload 4, 2) := by decide +kernel
theorem dX6_stands_61 : decode cX6_stands 61 = .ok (.ifCond .le 176, 3) := by decide +kernel
theorem dX6_stands_64 : decode cX6_stands 64 = .ok (.iload 4, 2) := by decide +kernel
theorem dX6_stands_66 : decode cX6_stands 66 = .ok (.iload 6, 2) := by decide +kernel
theorem dX6_stands_68 : decode cX6_stands 68 = .ok (.aload_n 0, 1) := by decide +kernel
theorem dX6_stands_69 : decode cX6_stands 69 = .ok (.getfield 172, 3) := by decide +kernel
theorem dX6_stands_72 : decode cX6_stands 72 = .ok (.if_icmp .ge 13, 3) := by decide +kernel
theorem dX6_stands_75 : decode cX6_stands 75 = .ok (.aload_n 0, 1) := by decide +kernel
theorem dX6_stands_76 : decode cX6_stands 76 = .ok (.getfield 57, 3) := by decide +kernel
theorem dX6_stands_79 : decode cX6_stands 79 = .ok (.iload 6, 2) := by decide +kernel
theorem dX6_stands_81 : decode cX6_stands 81 = .ok (.iaload, 1) := by decide +kernel
theorem dX6_stands_82 : decode cX6_stands 82 = .ok (.goto 4, 3) := by decide +kernel
theorem dX6_stands_85 : decode cX6_stands 85 = .ok (.iconst 0, 1) := by decide +kernel
theorem dX6_stands_86 : decode cX6_stands 86 = .ok (.iadd, 1) := by decide +kernel
theorem dX6_stands_87 : decode cX6_stands 87 = .ok (.istore 4, 2) := by decide +kernel
theorem dX6_stands_89 : decode cX6_stands 89 = .ok (.iload 4, 2) := by decide +kernel
theorem dX6_stands_91 : decode cX6_stands 91 = .ok (.iload_n 1, 1) := by decide +kernel
theorem dX6_stands_92 : decode cX6_stands 92 = .ok (.if_icmp .ge 8, 3) := by decide +kernel
theorem dX6_stands_95 : decode cX6_stands 95 = .ok (.iload 4, 2) := by decide +kernel
theorem dX6_stands_97 : decode cX6_stands 97 = .ok (.goto 4, 3) := by decide +kernel
theorem dX6_stands_100 : decode cX6_stands 100 = .ok (.iload_n 1, 1) := by decide +kernel
theorem dX6_stands_101 : decode cX6_stands 101 = .ok (.istore 7, 2) := by decide +kernel
theorem dX6_stands_103 : decode cX6_stands 103 = .ok (.iload 4, 2) := by decide +kernel
theorem dX6_stands_105 : decode cX6_stands 105 = .ok (.iload 7, 2) := by decide +kernel
theorem dX6_stands_107 : decode cX6_stands 107 = .ok (.isub, 1) := by decide +kernel
theorem dX6_stands_108 : decode cX6_stands 108 = .ok (.istore 4, 2) := by decide +kernel
theorem dX6_stands_110 : decode cX6_stands 110 = .ok (.iload 7, 2) := by decide +kernel
theorem dX6_stands_112 : decode cX6_stands 112 = .ok (.ifCond .le 97, 3) := by decide +kernel
theorem dX6_stands_115 : decode cX6_stands 115 = .ok (.iload_n 3, 1) := by decide +kernel
theorem dX6_stands_116 : decode cX6_stands 116 = .ok (.ifCond .ne 16, 3) := by decide +kernel
theorem dX6_stands_119 : decode cX6_stands 119 = .ok (.iinc 2 1, 3) := by decide +kernel
theorem dX6_stands_122 : decode cX6_stands 122 = .ok (.aload_n 0, 1) := by decide +kernel
theorem dX6_stands_123 : decode cX6_stands 123 = .ok (.getfield 57, 3) := by decide +kernel
theorem dX6_stands_126 : decode cX6_stands 126 = .ok (.iload_n 2, 1) := by decide +kernel
theorem dX6_stands_127 : decode cX6_stands 127 = .ok (.iaload, 1) := by decide +kernel
theorem dX6_stands_128 : decode cX6_stands 128 = .ok (.istore_n 3, 1) := by decide +kernel
theorem dX6_stands_129 : decode cX6_stands 129 = .ok (.goto (-14), 3) := by decide +kernel
theorem dX6_stands_132 : decode cX6_stands 132 = .ok (.iload_n 3, 1) := by decide +kernel
theorem dX6_stands_133 : decode cX6_stands 133 = .ok (.iload 7, 2) := by decide +kernel
theorem dX6_stands_135 : decode cX6_stands 135 = .ok (.if_icmp .ge 7, 3) := by decide +kernel
theorem dX6_stands_138 : decode cX6_stands 138 = .ok (.iload_n 3, 1) := by decide +kernel
theorem dX6_stands_139 : decode cX6_stands 139 = .ok (.goto 5, 3) := by decide +kernel
theorem dX6_stands_142 : decode cX6_stands 142 = .ok (.iload 7, 2) := by decide +kernel
theorem dX6_stands_144 : decode cX6_stands 144 = .ok (.istore 8, 2) := by decide +kernel
theorem dX6_stands_146 : decode cX6_stands 146 = .ok (.iload_n 3, 1) := by decide +kernel
theorem dX6_stands_147 : decode cX6_stands 147 = .ok (.iload 8, 2) := by decide +kernel
theorem dX6_stands_149 : decode cX6_stands 149 = .ok (.isub, 1) := by decide +kernel
theorem dX6_stands_150 : decode cX6_stands 150 = .ok (.istore_n 3, 1) := by decide +kernel
theorem dX6_stands_151 : decode cX6_stands 151 = .ok (.iload 7, 2) := by decide +kernel
theorem dX6_stands_153 : decode cX6_stands 153 = .ok (.iload 8, 2) := by decide +kernel
theorem dX6_stands_155 : decode cX6_stands 155 = .ok (.isub, 1) := by decide +kernel
theorem dX6_stands_156 : decode cX6_stands 156 = .ok (.istore 7, 2) := by decide +kernel
theorem dX6_stands_158 : decode cX6_stands 158 = .ok (.aload_n 0, 1) := by decide +kernel
theorem dX6_stands_159 : decode cX6_stands 159 = .ok (.dup, 1) := by decide +kernel
theorem dX6_stands_160 : decode cX6_stands 160 = .ok (.getfield 178, 3) := by decide +kernel
theorem dX6_stands_163 : decode cX6_stands 163 = .ok (.iload 8, 2) := by decide +kernel
theorem dX6_stands_165 : decode cX6_stands 165 = .ok (.iload 6, 2) := by decide +kernel
theorem dX6_stands_167 : decode cX6_stands 167 = .ok (.iload_n 2, 1) := by decide +kernel
theorem dX6_stands_168 : decode cX6_stands 168 = .ok (.isub, 1) := by decide +kernel
theorem dX6_stands_169 : decode cX6_stands 169 = .ok (.imul, 1) := by decide +kernel
theorem dX6_stands_170 : decode cX6_stands 170 = .ok (.iadd, 1) := by decide +kernel
theorem dX6_stands_171 : decode cX6_stands 171 = .ok (.putfield 178, 3) := by decide +kernel
theorem dX6_stands_174 : decode cX6_stands 174 = .ok (.aload_n 0, 1) := by decide +kernel
theorem dX6_stands_175 : decode cX6_stands 175 = .ok (.iload 6, 2) := by decide +kernel
theorem dX6_stands_177 : decode cX6_stands 177 = .ok (.iload_n 2, 1) := by decide +kernel
theorem dX6_stands_178 : decode cX6_stands 178 = .ok (.isub, 1) := by decide +kernel
theorem dX6_stands_179 : decode cX6_stands 179 = .ok (.aload_n 0, 1) := by decide +kernel
theorem dX6_stands_180 : decode cX6_stands 180 = .ok (.getfield 175, 3) := by decide +kernel
theorem dX6_stands_183 : decode cX6_stands 183 = .ok (.if_icmp .le 10, 3) := by decide +kernel
theorem dX6_stands_186 : decode cX6_stands 186 = .ok (.iload 6, 2) := by decide +kernel
theorem dX6_stands_188 : decode cX6_stands 188 = .ok (.iload_n 2, 1) := by decide +kernel
theorem dX6_stands_189 : decode cX6_stands 189 = .ok (.isub, 1) := by decide +kernel
theorem dX6_stands_190 : decode cX6_stands 190 = .ok (.goto 7, 3) := by decide +kernel
theorem dX6_stands_193 : decode cX6_stands 193 = .ok (.aload_n 0, 1) := by decide +kernel
theorem dX6_stands_194 : decode cX6_stands 194 = .ok (.getfield 175, 3) := by decide +kernel
theorem dX6_stands_197 : decode cX6_stands 197 = .ok (.putfield 175, 3) := by decide +kernel
theorem dX6_stands_200 : decode cX6_stands 200 = .ok (.aload_n 0, 1) := by decide +kernel
theorem dX6_stands_201 : decode cX6_stands 201 = .ok (.iload 6, 2) := by decide +kernel
theorem dX6_stands_203 : decode cX6_stands 203 = .ok (.putfield 181, 3) := by decide +kernel
theorem dX6_stands_206 : decode cX6_stands 206 = .ok (.goto (-96), 3) := by decide +kernel
theorem dX6_stands_209 : decode cX6_stands 209 = .ok (.aload_n 0, 1) := by decide +kernel
theorem dX6_stands_210 : decode cX6_stands 210 = .ok (.iload 4, 2) := by decide +kernel
theorem dX6_stands_212 : decode cX6_stands 212 = .ok (.aload_n 0, 1) := by decide +kernel
theorem dX6_stands_213 : decode cX6_stands 213 = .ok (.getfield 184, 3) := by decide +kernel
theorem dX6_stands_216 : decode cX6_stands 216 = .ok (.if_icmp .le 8, 3) := by decide +kernel
theorem dX6_stands_219 : decode cX6_stands 219 = .ok (.iload 4, 2) := by decide +kernel
theorem dX6_stands_221 : decode cX6_stands 221 = .ok (.goto 7, 3) := by decide +kernel
theorem dX6_stands_224 : decode cX6_stands 224 = .ok (.aload_n 0, 1) := by decide +kernel
theorem dX6_stands_225 : decode cX6_stands 225 = .ok (.getfield 184, 3) := by decide +kernel
theorem dX6_stands_228 : decode cX6_stands 228 = .ok (.putfield 184, 3) := by decide +kernel
theorem dX6_stands_231 : decode cX6_stands 231 = .ok (.iinc 6 1, 3) := by decide +kernel
theorem dX6_stands_234 : decode cX6_stands 234 = .ok (.goto (-182), 3) := by decide +kernel
theorem dX6_stands_237 : decode cX6_stands 237 = .ok (.return_, 1) := by decide +kernel
theorem dX6_hatch_0 : decode cX6_hatch 0 = .ok (.aload_n 0, 1) := by decide +kernel
theorem dX6_hatch_1 : decode cX6_hatch 1 = .ok (.iconst 0, 1) := by decide +kernel
theorem dX6_hatch_2 : decode cX6_hatch 2 = .ok (.putfield 60, 3) := by decide +kernel
theorem dX6_hatch_5 : decode cX6_hatch 5 = .ok (.aload_n 0, 1) := by decide +kernel
theorem dX6_hatch_6 : decode cX6_hatch 6 = .ok (.iload_n 1, 1) := by decide +kernel
theorem dX6_hatch_7 : decode cX6_hatch 7 = .ok (.iconst 1, 1) := by decide +kernel
theorem dX6_hatch_8 : decode cX6_hatch 8 = .ok (.if_icmp .lt 18, 3) := by decide +kernel
theorem dX6_hatch_11 : decode cX6_hatch 11 = .ok (.iload_n 1, 1) := by decide +kernel
theorem dX6_hatch_12 : decode cX6_hatch 12 = .ok (.bipush 100, 2) := by decide +kernel
theorem dX6_hatch_14 : decode cX6_hatch 14 = .ok (.if_icmp .gt 12, 3) := by decide +kernel
theorem dX6_hatch_17 : decode cX6_hatch 17 = .ok (.iload_n 2, 1) := by decide +kernel
theorem dX6_hatch_18 : decode cX6_hatch 18 = .ok (.ifCond .lt 8, 3) := by decide +kernel
theorem dX6_hatch_21 : decode cX6_hatch 21 = .ok (.iload_n 2, 1) := by decide +kernel
theorem dX6_hatch_22 : decode cX6_hatch 22 = .ok (.iconst 3, 1) := by decide +kernel
theorem dX6_hatch_23 : decode cX6_hatch 23 = .ok (.if_icmp .le 7, 3) := by decide +kernel
theorem dX6_hatch_26 : decode cX6_hatch 26 = .ok (.iconst 1, 1) := by decide +kernel
theorem dX6_hatch_27 : decode cX6_hatch 27 = .ok (.goto 4, 3) := by decide +kernel
theorem dX6_hatch_30 : decode cX6_hatch 30 = .ok (.iconst 0, 1) := by decide +kernel
theorem dX6_hatch_31 : decode cX6_hatch 31 = .ok (.iconst 1, 1) := by decide +kernel
theorem dX6_hatch_32 : decode cX6_hatch 32 = .ok (.invokevirtual 67, 3) := by decide +kernel
theorem dX6_hatch_35 : decode cX6_hatch 35 = .ok (.ifCond .eq 5, 3) := by decide +kernel
theorem dX6_hatch_38 : decode cX6_hatch 38 = .ok (.iconst 0, 1) := by decide +kernel
theorem dX6_hatch_39 : decode cX6_hatch 39 = .ok (.ireturn, 1) := by decide +kernel
theorem dX6_hatch_40 : decode cX6_hatch 40 = .ok (.aload_n 0, 1) := by decide +kernel
theorem dX6_hatch_41 : decode cX6_hatch 41 = .ok (.iload_n 1, 1) := by decide +kernel
theorem dX6_hatch_42 : decode cX6_hatch 42 = .ok (.invokevirtual 187, 3) := by decide +kernel
theorem dX6_hatch_45 : decode cX6_hatch 45 = .ok (.iload_n 2, 1) := by decide +kernel
theorem dX6_hatch_46 : decode cX6_hatch 46 = .ok (.ifCond .ne 10, 3) := by decide +kernel
theorem dX6_hatch_49 : decode cX6_hatch 49 = .ok (.aload_n 0, 1) := by decide +kernel
theorem dX6_hatch_50 : decode cX6_hatch 50 = .ok (.getfield 175, 3) := by decide +kernel
theorem dX6_hatch_53 : decode cX6_hatch 53 = .ok (.goto 31, 3) := by decide +kernel
theorem dX6_hatch_56 : decode cX6_hatch 56 = .ok (.iload_n 2, 1) := by decide +kernel
theorem dX6_hatch_57 : decode cX6_hatch 57 = .ok (.iconst 1, 1) := by decide +kernel
theorem dX6_hatch_58 : decode cX6_hatch 58 = .ok (.if_icmp .ne 10, 3) := by decide +kernel
theorem dX6_hatch_61 : decode cX6_hatch 61 = .ok (.aload_n 0, 1) := by decide +kernel
theorem dX6_hatch_62 : decode cX6_hatch 62 = .ok (.getfield 178, 3) := by decide +kernel
theorem dX6_hatch_65 : decode cX6_hatch 65 = .ok (.goto 19, 3) := by decide +kernel
theorem dX6_hatch_68 : decode cX6_hatch 68 = .ok (.iload_n 2, 1) := by decide +kernel
theorem dX6_hatch_69 : decode cX6_hatch 69 = .ok (.iconst 2, 1) := by decide +kernel
theorem dX6_hatch_70 : decode cX6_hatch 70 = .ok (.if_icmp .ne 10, 3) := by decide +kernel
theorem dX6_hatch_73 : decode cX6_hatch 73 = .ok (.aload_n 0, 1) := by decide +kernel
theorem dX6_hatch_74 : decode cX6_hatch 74 = .ok (.getfield 181, 3) := by decide +kernel
theorem dX6_hatch_77 : decode cX6_hatch 77 = .ok (.goto 7, 3) := by decide +kernel
theorem dX6_hatch_80 : decode cX6_hatch 80 = .ok (.aload_n 0, 1) := by decide +kernel
theorem dX6_hatch_81 : decode cX6_hatch 81 = .ok (.getfield 184, 3) := by decide +kernel
theorem dX6_hatch_84 : decode cX6_hatch 84 = .ok (.ireturn, 1) := by decide +kernel
theorem dX6_serve_0 : decode cX6_serve 0 = .ok (.aload_n 0, 1) := by decide +kernel
theorem dX6_serve_1 : decode cX6_serve 1 = .ok (.iconst 0, 1) := by decide +kernel
theorem dX6_serve_2 : decode cX6_serve 2 = .ok (.putfield 60, 3) := by decide +kernel
theorem dX6_serve_5 : decode cX6_serve 5 = .ok (.aload_n 0, 1) := by decide +kernel
theorem dX6_serve_6 : decode cX6_serve 6 = .ok (.iload_n 1, 1) := by decide +kernel
theorem dX6_serve_7 : decode cX6_serve 7 = .ok (.ifCond .ge 7, 3) := by decide +kernel
theorem dX6_serve_10 : decode cX6_serve 10 = .ok (.iconst 1, 1) := by decide +kernel
theorem dX6_serve_11 : decode cX6_serve 11 = .ok (.goto 4, 3) := by decide +kernel
theorem dX6_serve_14 : decode cX6_serve 14 = .ok (.iconst 0, 1) := by decide +kernel
theorem dX6_serve_15 : decode cX6_serve 15 = .ok (.iconst 1, 1) := by decide +kernel
theorem dX6_serve_16 : decode cX6_serve 16 = .ok (.invokevirtual 67, 3) := by decide +kernel
theorem dX6_serve_19 : decode cX6_serve 19 = .ok (.ifCond .eq 5, 3) := by decide +kernel
theorem dX6_serve_22 : decode cX6_serve 22 = .ok (.iconst 0, 1) := by decide +kernel
theorem dX6_serve_23 : decode cX6_serve 23 = .ok (.ireturn, 1) := by decide +kernel
theorem dX6_serve_24 : decode cX6_serve 24 = .ok (.iconst 1, 1) := by decide +kernel
theorem dX6_serve_25 : decode cX6_serve 25 = .ok (.istore_n 2, 1) := by decide +kernel
theorem dX6_serve_26 : decode cX6_serve 26 = .ok (.aload_n 0, 1) := by decide +kernel
theorem dX6_serve_27 : decode cX6_serve 27 = .ok (.iload_n 2, 1) := by decide +kernel
theorem dX6_serve_28 : decode cX6_serve 28 = .ok (.invokevirtual 187, 3) := by decide +kernel
theorem dX6_serve_31 : decode cX6_serve 31 = .ok (.aload_n 0, 1) := by decide +kernel
theorem dX6_serve_32 : decode cX6_serve 32 = .ok (.getfield 175, 3) := by decide +kernel
theorem dX6_serve_35 : decode cX6_serve 35 = .ok (.iload_n 1, 1) := by decide +kernel
theorem dX6_serve_36 : decode cX6_serve 36 = .ok (.if_icmp .le 14, 3) := by decide +kernel
theorem dX6_serve_39 : decode cX6_serve 39 = .ok (.iinc 2 1, 3) := by decide +kernel
theorem dX6_serve_42 : decode cX6_serve 42 = .ok (.aload_n 0, 1) := by decide +kernel
theorem dX6_serve_43 : decode cX6_serve 43 = .ok (.iload_n 2, 1) := by decide +kernel
theorem dX6_serve_44 : decode cX6_serve 44 = .ok (.invokevirtual 187, 3) := by decide +kernel
theorem dX6_serve_47 : decode cX6_serve 47 = .ok (.goto (-16), 3) := by decide +kernel
theorem dX6_serve_50 : decode cX6_serve 50 = .ok (.iload_n 2, 1) := by decide +kernel
theorem dX6_serve_51 : decode cX6_serve 51 = .ok (.ireturn, 1) := by decide +kernel
theorem dX6_empty_0 : decode cX6_empty 0 = .ok (.aload_n 0, 1) := by decide +kernel
theorem dX6_empty_1 : decode cX6_empty 1 = .ok (.iconst 0, 1) := by decide +kernel
theorem dX6_empty_2 : decode cX6_empty 2 = .ok (.putfield 60, 3) := by decide +kernel
theorem dX6_empty_5 : decode cX6_empty 5 = .ok (.aload_n 0, 1) := by decide +kernel
theorem dX6_empty_6 : decode cX6_empty 6 = .ok (.getfield 172, 3) := by decide +kernel
theorem dX6_empty_9 : decode cX6_empty 9 = .ok (.istore_n 1, 1) := by decide +kernel
theorem dX6_empty_10 : decode cX6_empty 10 = .ok (.aload_n 0, 1) := by decide +kernel
theorem dX6_empty_11 : decode cX6_empty 11 = .ok (.iconst 0, 1) := by decide +kernel
theorem dX6_empty_12 : decode cX6_empty 12 = .ok (.putfield 172, 3) := by decide +kernel
theorem dX6_empty_15 : decode cX6_empty 15 = .ok (.iload_n 1, 1) := by decide +kernel
theorem dX6_empty_16 : decode cX6_empty 16 = .ok (.ireturn, 1) := by decide +kernel
theorem dX6_count_0 : decode cX6_count 0 = .ok (.aload_n 0, 1) := by decide +kernel
theorem dX6_count_1 : decode cX6_count 1 = .ok (.iconst 0, 1) := by decide +kernel
theorem dX6_count_2 : decode cX6_count 2 = .ok (.putfield 60, 3) := by decide +kernel
theorem dX6_count_5 : decode cX6_count 5 = .ok (.iload_n 1, 1) := by decide +kernel
theorem dX6_count_6 : decode cX6_count 6 = .ok (.tableswitch 91 0 4 #[34, 39, 76, 81, 86], 34) := by decide +kernel
theorem dX6_count_40 : decode cX6_count 40 = .ok (.aload_n 0, 1) := by decide +kernel
theorem dX6_count_41 : decode cX6_count 41 = .ok (.getfield 71, 3) := by decide +kernel
theorem dX6_count_44 : decode cX6_count 44 = .ok (.ireturn, 1) := by decide +kernel
theorem dX6_count_45 : decode cX6_count 45 = .ok (.iconst 0, 1) := by decide +kernel
theorem dX6_count_46 : decode cX6_count 46 = .ok (.istore_n 2, 1) := by decide +kernel
theorem dX6_count_47 : decode cX6_count 47 = .ok (.iconst 0, 1) := by decide +kernel
theorem dX6_count_48 : decode cX6_count 48 = .ok (.istore_n 3, 1) := by decide +kernel
theorem dX6_count_49 : decode cX6_count 49 = .ok (.iload_n 3, 1) := by decide +kernel
theorem dX6_count_50 : decode cX6_count 50 = .ok (.aload_n 0, 1) := by decide +kernel
theorem dX6_count_51 : decode cX6_count 51 = .ok (.getfield 77, 3) := by decide +kernel
theorem dX6_count_54 : decode cX6_count 54 = .ok (.if_icmp .ge 26, 3) := by decide +kernel
theorem dX6_count_57 : decode cX6_count 57 = .ok (.iload_n 2, 1) := by decide +kernel
theorem dX6_count_58 : decode cX6_count 58 = .ok (.aload_n 0, 1) := by decide +kernel
theorem dX6_count_59 : decode cX6_count 59 = .ok (.getfield 25, 3) := by decide +kernel
theorem dX6_count_62 : decode cX6_count 62 = .ok (.iload_n 3, 1) := by decide +kernel
theorem dX6_count_63 : decode cX6_count 63 = .ok (.baload, 1) := by decide +kernel
theorem dX6_count_64 : decode cX6_count 64 = .ok (.ifCond .eq 7, 3) := by decide +kernel
theorem dX6_count_67 : decode cX6_count 67 = .ok (.iconst 1, 1) := by decide +kernel
theorem dX6_count_68 : decode cX6_count 68 = .ok (.goto 4, 3) := by decide +kernel
theorem dX6_count_71 : decode cX6_count 71 = .ok (.iconst 0, 1) := by decide +kernel
theorem dX6_count_72 : decode cX6_count 72 = .ok (.iadd, 1) := by decide +kernel
theorem dX6_count_73 : decode cX6_count 73 = .ok (.istore_n 2, 1) := by decide +kernel
theorem dX6_count_74 : decode cX6_count 74 = .ok (.iinc 3 1, 3) := by decide +kernel
theorem dX6_count_77 : decode cX6_count 77 = .ok (.goto (-28), 3) := by decide +kernel
theorem dX6_count_80 : decode cX6_count 80 = .ok (.iload_n 2, 1) := by decide +kernel
theorem dX6_count_81 : decode cX6_count 81 = .ok (.ireturn, 1) := by decide +kernel
theorem dX6_count_82 : decode cX6_count 82 = .ok (.aload_n 0, 1) := by decide +kernel
theorem dX6_count_83 : decode cX6_count 83 = .ok (.getfield 77, 3) := by decide +kernel
theorem dX6_count_86 : decode cX6_count 86 = .ok (.ireturn, 1) := by decide +kernel
theorem dX6_count_87 : decode cX6_count 87 = .ok (.aload_n 0, 1) := by decide +kernel
theorem dX6_count_88 : decode cX6_count 88 = .ok (.getfield 122, 3) := by decide +kernel
theorem dX6_count_91 : decode cX6_count 91 = .ok (.ireturn, 1) := by decide +kernel
theorem dX6_count_92 : decode cX6_count 92 = .ok (.aload_n 0, 1) := by decide +kernel
theorem dX6_count_93 : decode cX6_count 93 = .ok (.getfield 172, 3) := by decide +kernel
theorem dX6_count_96 : decode cX6_count 96 = .ok (.ireturn, 1) := by decide +kernel
theorem dX6_count_97 : decode cX6_count 97 = .ok (.iconst (-1), 1) := by decide +kernel
theorem dX6_count_98 : decode cX6_count 98 = .ok (.ireturn, 1) := by decide +kernel
theorem dJ9_max_7cf53_0 : decode cJ9_max_7cf53 0 = .ok (.iload_n 0, 1) := by decide +kernel
theorem dJ9_max_7cf53_1 : decode cJ9_max_7cf53 1 = .ok (.iload_n 1, 1) := by decide +kernel
theorem dJ9_max_7cf53_2 : decode cJ9_max_7cf53 2 = .ok (.if_icmp .lt 7, 3) := by decide +kernel
theorem dJ9_max_7cf53_5 : decode cJ9_max_7cf53 5 = .ok (.iload_n 0, 1) := by decide +kernel
theorem dJ9_max_7cf53_6 : decode cJ9_max_7cf53 6 = .ok (.goto 4, 3) := by decide +kernel
theorem dJ9_max_7cf53_9 : decode cJ9_max_7cf53 9 = .ok (.iload_n 1, 1) := by decide +kernel
theorem dJ9_max_7cf53_10 : decode cJ9_max_7cf53 10 = .ok (.ireturn, 1) := by decide +kernel
theorem dJ9_min_7cf53_0 : decode cJ9_min_7cf53 0 = .ok (.iload_n 0, 1) := by decide +kernel
theorem dJ9_min_7cf53_1 : decode cJ9_min_7cf53 1 = .ok (.iload_n 1, 1) := by decide +kernel
theorem dJ9_min_7cf53_2 : decode cJ9_min_7cf53 2 = .ok (.if_icmp .gt 7, 3) := by decide +kernel
theorem dJ9_min_7cf53_5 : decode cJ9_min_7cf53 5 = .ok (.iload_n 0, 1) := by decide +kernel
theorem dJ9_min_7cf53_6 : decode cJ9_min_7cf53 6 = .ok (.goto 4, 3) := by decide +kernel
theorem dJ9_min_7cf53_9 : decode cJ9_min_7cf53 9 = .ok (.iload_n 1, 1) := by decide +kernel
theorem dJ9_min_7cf53_10 : decode cJ9_min_7cf53 10 = .ok (.ireturn, 1) := by decide +kernel
theorem dJ7_fill_53178_0 : decode cJ7_fill_53178 0 = .ok (.iconst 0, 1) := by decide +kernel
theorem dJ7_fill_53178_1 : decode cJ7_fill_53178 1 = .ok (.istore_n 2, 1) := by decide +kernel
theorem dJ7_fill_53178_2 : decode cJ7_fill_53178 2 = .ok (.aload_n 0, 1) := by decide +kernel
theorem dJ7_fill_53178_3 : decode cJ7_fill_53178 3 = .ok (.arraylength, 1) := by decide +kernel
theorem dJ7_fill_53178_4 : decode cJ7_fill_53178 4 = .ok (.istore_n 3, 1) := by decide +kernel
theorem dJ7_fill_53178_5 : decode cJ7_fill_53178 5 = .ok (.iload_n 2, 1) := by decide +kernel
theorem dJ7_fill_53178_6 : decode cJ7_fill_53178 6 = .ok (.iload_n 3, 1) := by decide +kernel
theorem dJ7_fill_53178_7 : decode cJ7_fill_53178 7 = .ok (.if_icmp .ge 13, 3) := by decide +kernel
theorem dJ7_fill_53178_10 : decode cJ7_fill_53178 10 = .ok (.aload_n 0, 1) := by decide +kernel
theorem dJ7_fill_53178_11 : decode cJ7_fill_53178 11 = .ok (.iload_n 2, 1) := by decide +kernel
theorem dJ7_fill_53178_12 : decode cJ7_fill_53178 12 = .ok (.iload_n 1, 1) := by decide +kernel
theorem dJ7_fill_53178_13 : decode cJ7_fill_53178 13 = .ok (.iastore, 1) := by decide +kernel
theorem dJ7_fill_53178_14 : decode cJ7_fill_53178 14 = .ok (.iinc 2 1, 3) := by decide +kernel
theorem dJ7_fill_53178_17 : decode cJ7_fill_53178 17 = .ok (.goto (-12), 3) := by decide +kernel
theorem dJ7_fill_53178_20 : decode cJ7_fill_53178 20 = .ok (.return_, 1) := by decide +kernel
theorem dL_meal_0 : decode cL_meal 0 = .ok (.aload_n 3, 1) := by decide +kernel
theorem dL_meal_1 : decode cL_meal 1 = .ok (.iconst 0, 1) := by decide +kernel
theorem dL_meal_2 : decode cL_meal 2 = .ok (.aload_n 0, 1) := by decide +kernel
theorem dL_meal_3 : decode cL_meal 3 = .ok (.iload_n 1, 1) := by decide +kernel
theorem dL_meal_4 : decode cL_meal 4 = .ok (.iload_n 2, 1) := by decide +kernel
theorem dL_meal_5 : decode cL_meal 5 = .ok (.invokevirtual 7, 3) := by decide +kernel
theorem dL_meal_8 : decode cL_meal 8 = .ok (.i2l, 1) := by decide +kernel
theorem dL_meal_9 : decode cL_meal 9 = .ok (.lastore, 1) := by decide +kernel
theorem dL_meal_10 : decode cL_meal 10 = .ok (.goto 11, 3) := by decide +kernel
theorem dL_meal_13 : decode cL_meal 13 = .ok (.astore 4, 2) := by decide +kernel
theorem dL_meal_15 : decode cL_meal 15 = .ok (.iconst 1, 1) := by decide +kernel
theorem dL_meal_16 : decode cL_meal 16 = .ok (.ireturn, 1) := by decide +kernel
theorem dL_meal_17 : decode cL_meal 17 = .ok (.astore 4, 2) := by decide +kernel
theorem dL_meal_19 : decode cL_meal 19 = .ok (.iconst 2, 1) := by decide +kernel
theorem dL_meal_20 : decode cL_meal 20 = .ok (.ireturn, 1) := by decide +kernel
theorem dL_meal_21 : decode cL_meal 21 = .ok (.iconst 0, 1) := by decide +kernel
theorem dL_meal_22 : decode cL_meal 22 = .ok (.ireturn, 1) := by decide +kernel
theorem dL_ate_0 : decode cL_ate 0 = .ok (.aload_n 3, 1) := by decide +kernel
theorem dL_ate_1 : decode cL_ate 1 = .ok (.iconst 0, 1) := by decide +kernel
theorem dL_ate_2 : decode cL_ate 2 = .ok (.aload_n 0, 1) := by decide +kernel
theorem dL_ate_3 : decode cL_ate 3 = .ok (.iload_n 1, 1) := by decide +kernel
theorem dL_ate_4 : decode cL_ate 4 = .ok (.iload_n 2, 1) := by decide +kernel
theorem dL_ate_5 : decode cL_ate 5 = .ok (.invokevirtual 17, 3) := by decide +kernel
theorem dL_ate_8 : decode cL_ate 8 = .ok (.i2l, 1) := by decide +kernel
theorem dL_ate_9 : decode cL_ate 9 = .ok (.lastore, 1) := by decide +kernel
theorem dL_ate_10 : decode cL_ate 10 = .ok (.goto 11, 3) := by decide +kernel
theorem dL_ate_13 : decode cL_ate 13 = .ok (.astore 4, 2) := by decide +kernel
theorem dL_ate_15 : decode cL_ate 15 = .ok (.iconst 1, 1) := by decide +kernel
theorem dL_ate_16 : decode cL_ate 16 = .ok (.ireturn, 1) := by decide +kernel
theorem dL_ate_17 : decode cL_ate 17 = .ok (.astore 4, 2) := by decide +kernel
theorem dL_ate_19 : decode cL_ate 19 = .ok (.iconst 2, 1) := by decide +kernel
theorem dL_ate_20 : decode cL_ate 20 = .ok (.ireturn, 1) := by decide +kernel
theorem dL_ate_21 : decode cL_ate 21 = .ok (.iconst 0, 1) := by decide +kernel
theorem dL_ate_22 : decode cL_ate 22 = .ok (.ireturn, 1) := by decide +kernel
theorem dL_day_0 : decode cL_day 0 = .ok (.aload_n 2, 1) := by decide +kernel
theorem dL_day_1 : decode cL_day 1 = .ok (.iconst 0, 1) := by decide +kernel
theorem dL_day_2 : decode cL_day 2 = .ok (.aload_n 0, 1) := by decide +kernel
theorem dL_day_3 : decode cL_day 3 = .ok (.iload_n 1, 1) := by decide +kernel
theorem dL_day_4 : decode cL_day 4 = .ok (.invokevirtual 22, 3) := by decide +kernel
theorem dL_day_7 : decode cL_day 7 = .ok (.i2l, 1) := by decide +kernel
theorem dL_day_8 : decode cL_day 8 = .ok (.lastore, 1) := by decide +kernel
theorem dL_day_9 : decode cL_day 9 = .ok (.goto 9, 3) := by decide +kernel
theorem dL_day_12 : decode cL_day 12 = .ok (.astore_n 3, 1) := by decide +kernel
theorem dL_day_13 : decode cL_day 13 = .ok (.iconst 1, 1) := by decide +kernel
theorem dL_day_14 : decode cL_day 14 = .ok (.ireturn, 1) := by decide +kernel
theorem dL_day_15 : decode cL_day 15 = .ok (.astore_n 3, 1) := by decide +kernel
theorem dL_day_16 : decode cL_day 16 = .ok (.iconst 2, 1) := by decide +kernel
theorem dL_day_17 : decode cL_day 17 = .ok (.ireturn, 1) := by decide +kernel
theorem dL_day_18 : decode cL_day 18 = .ok (.iconst 0, 1) := by decide +kernel
theorem dL_day_19 : decode cL_day 19 = .ok (.ireturn, 1) := by decide +kernel
theorem dL_drop_0 : decode cL_drop 0 = .ok (.aload_n 2, 1) := by decide +kernel
theorem dL_drop_1 : decode cL_drop 1 = .ok (.iconst 0, 1) := by decide +kernel
theorem dL_drop_2 : decode cL_drop 2 = .ok (.aload_n 0, 1) := by decide +kernel
theorem dL_drop_3 : decode cL_drop 3 = .ok (.iload_n 1, 1) := by decide +kernel
theorem dL_drop_4 : decode cL_drop 4 = .ok (.invokevirtual 26, 3) := by decide +kernel
theorem dL_drop_7 : decode cL_drop 7 = .ok (.ifCond .eq 7, 3) := by decide +kernel
theorem dL_drop_10 : decode cL_drop 10 = .ok (.lconst 1, 1) := by decide +kernel
theorem dL_drop_11 : decode cL_drop 11 = .ok (.goto 4, 3) := by decide +kernel
theorem dL_drop_14 : decode cL_drop 14 = .ok (.lconst 0, 1) := by decide +kernel
theorem dL_drop_15 : decode cL_drop 15 = .ok (.lastore, 1) := by decide +kernel
theorem dL_drop_16 : decode cL_drop 16 = .ok (.goto 6, 3) := by decide +kernel
theorem dL_drop_19 : decode cL_drop 19 = .ok (.astore_n 3, 1) := by decide +kernel
theorem dL_drop_20 : decode cL_drop 20 = .ok (.iconst 1, 1) := by decide +kernel
theorem dL_drop_21 : decode cL_drop 21 = .ok (.ireturn, 1) := by decide +kernel
theorem dL_drop_22 : decode cL_drop 22 = .ok (.iconst 0, 1) := by decide +kernel
theorem dL_drop_23 : decode cL_drop 23 = .ok (.ireturn, 1) := by decide +kernel
theorem dL_leaves_0 : decode cL_leaves 0 = .ok (.aload_n 2, 1) := by decide +kernel
theorem dL_leaves_1 : decode cL_leaves 1 = .ok (.iconst 0, 1) := by decide +kernel
theorem dL_leaves_2 : decode cL_leaves 2 = .ok (.aload_n 0, 1) := by decide +kernel
theorem dL_leaves_3 : decode cL_leaves 3 = .ok (.iload_n 1, 1) := by decide +kernel
theorem dL_leaves_4 : decode cL_leaves 4 = .ok (.invokevirtual 30, 3) := by decide +kernel
theorem dL_leaves_7 : decode cL_leaves 7 = .ok (.i2l, 1) := by decide +kernel
theorem dL_leaves_8 : decode cL_leaves 8 = .ok (.lastore, 1) := by decide +kernel
theorem dL_leaves_9 : decode cL_leaves 9 = .ok (.goto 6, 3) := by decide +kernel
theorem dL_leaves_12 : decode cL_leaves 12 = .ok (.astore_n 3, 1) := by decide +kernel
theorem dL_leaves_13 : decode cL_leaves 13 = .ok (.iconst 1, 1) := by decide +kernel
theorem dL_leaves_14 : decode cL_leaves 14 = .ok (.ireturn, 1) := by decide +kernel
theorem dL_leaves_15 : decode cL_leaves 15 = .ok (.iconst 0, 1) := by decide +kernel
theorem dL_leaves_16 : decode cL_leaves 16 = .ok (.ireturn, 1) := by decide +kernel
theorem dL_split_0 : decode cL_split 0 = .ok (.aload 4, 2) := by decide +kernel
theorem dL_split_2 : decode cL_split 2 = .ok (.iconst 0, 1) := by decide +kernel
theorem dL_split_3 : decode cL_split 3 = .ok (.aload_n 0, 1) := by decide +kernel
theorem dL_split_4 : decode cL_split 4 = .ok (.iload_n 1, 1) := by decide +kernel
theorem dL_split_5 : decode cL_split 5 = .ok (.iload_n 2, 1) := by decide +kernel
theorem dL_split_6 : decode cL_split 6 = .ok (.iload_n 3, 1) := by decide +kernel
theorem dL_split_7 : decode cL_split 7 = .ok (.invokevirtual 33, 3) := by decide +kernel
theorem dL_split_10 : decode cL_split 10 = .ok (.i2l, 1) := by decide +kernel
theorem dL_split_11 : decode cL_split 11 = .ok (.lastore, 1) := by decide +kernel
theorem dL_split_12 : decode cL_split 12 = .ok (.goto 11, 3) := by decide +kernel
theorem dL_split_15 : decode cL_split 15 = .ok (.astore 5, 2) := by decide +kernel
theorem dL_split_17 : decode cL_split 17 = .ok (.iconst 1, 1) := by decide +kernel
theorem dL_split_18 : decode cL_split 18 = .ok (.ireturn, 1) := by decide +kernel
theorem dL_split_19 : decode cL_split 19 = .ok (.astore 5, 2) := by decide +kernel
theorem dL_split_21 : decode cL_split 21 = .ok (.iconst 2, 1) := by decide +kernel
theorem dL_split_22 : decode cL_split 22 = .ok (.ireturn, 1) := by decide +kernel
theorem dL_split_23 : decode cL_split 23 = .ok (.iconst 0, 1) := by decide +kernel
theorem dL_split_24 : decode cL_split 24 = .ok (.ireturn, 1) := by decide +kernel
theorem dL_leaf_0 : decode cL_leaf 0 = .ok (.aload 4, 2) := by decide +kernel
theorem dL_leaf_2 : decode cL_leaf 2 = .ok (.iconst 0, 1) := by decide +kernel
theorem dL_leaf_3 : decode cL_leaf 3 = .ok (.aload_n 0, 1) := by decide +kernel
theorem dL_leaf_4 : decode cL_leaf 4 = .ok (.iload_n 1, 1) := by decide +kernel
theorem dL_leaf_5 : decode cL_leaf 5 = .ok (.iload_n 2, 1) := by decide +kernel
theorem dL_leaf_6 : decode cL_leaf 6 = .ok (.iload_n 3, 1) := by decide +kernel
theorem dL_leaf_7 : decode cL_leaf 7 = .ok (.invokevirtual 37, 3) := by decide +kernel
theorem dL_leaf_10 : decode cL_leaf 10 = .ok (.i2l, 1) := by decide +kernel
theorem dL_leaf_11 : decode cL_leaf 11 = .ok (.lastore, 1) := by decide +kernel
theorem dL_leaf_12 : decode cL_leaf 12 = .ok (.goto 11, 3) := by decide +kernel
theorem dL_leaf_15 : decode cL_leaf 15 = .ok (.astore 5, 2) := by decide +kernel
theorem dL_leaf_17 : decode cL_leaf 17 = .ok (.iconst 1, 1) := by decide +kernel
theorem dL_leaf_18 : decode cL_leaf 18 = .ok (.ireturn, 1) := by decide +kernel
theorem dL_leaf_19 : decode cL_leaf 19 = .ok (.astore 5, 2) := by decide +kernel
theorem dL_leaf_21 : decode cL_leaf 21 = .ok (.iconst 2, 1) := by decide +kernel
theorem dL_leaf_22 : decode cL_leaf 22 = .ok (.ireturn, 1) := by decide +kernel
theorem dL_leaf_23 : decode cL_leaf 23 = .ok (.iconst 0, 1) := by decide +kernel
theorem dL_leaf_24 : decode cL_leaf 24 = .ok (.ireturn, 1) := by decide +kernel
theorem dL_size_0 : decode cL_size 0 = .ok (.aload_n 3, 1) := by decide +kernel
theorem dL_size_1 : decode cL_size 1 = .ok (.iconst 0, 1) := by decide +kernel
theorem dL_size_2 : decode cL_size 2 = .ok (.aload_n 0, 1) := by decide +kernel
theorem dL_size_3 : decode cL_size 3 = .ok (.iload_n 1, 1) := by decide +kernel
theorem dL_size_4 : decode cL_size 4 = .ok (.iload_n 2, 1) := by decide +kernel
theorem dL_size_5 : decode cL_size 5 = .ok (.invokevirtual 40, 3) := by decide +kernel
theorem dL_size_8 : decode cL_size 8 = .ok (.i2l, 1) := by decide +kernel
theorem dL_size_9 : decode cL_size 9 = .ok (.lastore, 1) := by decide +kernel
theorem dL_size_10 : decode cL_size 10 = .ok (.goto 11, 3) := by decide +kernel
theorem dL_size_13 : decode cL_size 13 = .ok (.astore 4, 2) := by decide +kernel
theorem dL_size_15 : decode cL_size 15 = .ok (.iconst 1, 1) := by decide +kernel
theorem dL_size_16 : decode cL_size 16 = .ok (.ireturn, 1) := by decide +kernel
theorem dL_size_17 : decode cL_size 17 = .ok (.astore 4, 2) := by decide +kernel
theorem dL_size_19 : decode cL_size 19 = .ok (.iconst 2, 1) := by decide +kernel
theorem dL_size_20 : decode cL_size 20 = .ok (.ireturn, 1) := by decide +kernel
theorem dL_size_21 : decode cL_size 21 = .ok (.iconst 0, 1) := by decide +kernel
theorem dL_size_22 : decode cL_size 22 = .ok (.ireturn, 1) := by decide +kernel
theorem dL_prices_0 : decode cL_prices 0 = .ok (.aload_n 0, 1) := by decide +kernel
theorem dL_prices_1 : decode cL_prices 1 = .ok (.iload_n 1, 1) := by decide +kernel
theorem dL_prices_2 : decode cL_prices 2 = .ok (.iload_n 2, 1) := by decide +kernel
theorem dL_prices_3 : decode cL_prices 3 = .ok (.invokevirtual 43, 3) := by decide +kernel
theorem dL_prices_6 : decode cL_prices 6 = .ok (.goto 6, 3) := by decide +kernel
theorem dL_prices_9 : decode cL_prices 9 = .ok (.astore_n 3, 1) := by decide +kernel
theorem dL_prices_10 : decode cL_prices 10 = .ok (.iconst 1, 1) := by decide +kernel
theorem dL_prices_11 : decode cL_prices 11 = .ok (.ireturn, 1) := by decide +kernel
theorem dL_prices_12 : decode cL_prices 12 = .ok (.iconst 0, 1) := by decide +kernel
theorem dL_prices_13 : decode cL_prices 13 = .ok (.ireturn, 1) := by decide +kernel
theorem dL_cost_0 : decode cL_cost 0 = .ok (.aload 4, 2) := by decide +kernel
theorem dL_cost_2 : decode cL_cost 2 = .ok (.iconst 0, 1) := by decide +kernel
theorem dL_cost_3 : decode cL_cost 3 = .ok (.aload_n 0, 1) := by decide +kernel
theorem dL_cost_4 : decode cL_cost 4 = .ok (.iload_n 1, 1) := by decide +kernel
theorem dL_cost_5 : decode cL_cost 5 = .ok (.iload_n 2, 1) := by decide +kernel
theorem dL_cost_6 : decode cL_cost 6 = .ok (.iload_n 3, 1) := by decide +kernel
theorem dL_cost_7 : decode cL_cost 7 = .ok (.invokevirtual 47, 3) := by decide +kernel
theorem dL_cost_10 : decode cL_cost 10 = .ok (.lastore, 1) := by decide +kernel
theorem dL_cost_11 : decode cL_cost 11 = .ok (.goto 11, 3) := by decide +kernel
theorem dL_cost_14 : decode cL_cost 14 = .ok (.astore 5, 2) := by decide +kernel
theorem dL_cost_16 : decode cL_cost 16 = .ok (.iconst 1, 1) := by decide +kernel
theorem dL_cost_17 : decode cL_cost 17 = .ok (.ireturn, 1) := by decide +kernel
theorem dL_cost_18 : decode cL_cost 18 = .ok (.astore 5, 2) := by decide +kernel
theorem dL_cost_20 : decode cL_cost 20 = .ok (.iconst 2, 1) := by decide +kernel
theorem dL_cost_21 : decode cL_cost 21 = .ok (.ireturn, 1) := by decide +kernel
theorem dL_cost_22 : decode cL_cost 22 = .ok (.iconst 0, 1) := by decide +kernel
theorem dL_cost_23 : decode cL_cost 23 = .ok (.ireturn, 1) := by decide +kernel
theorem dL_pots_0 : decode cL_pots 0 = .ok (.aload 5, 2) := by decide +kernel
theorem dL_pots_2 : decode cL_pots 2 = .ok (.iconst 0, 1) := by decide +kernel
theorem dL_pots_3 : decode cL_pots 3 = .ok (.aload_n 0, 1) := by decide +kernel
theorem dL_pots_4 : decode cL_pots 4 = .ok (.iload_n 1, 1) := by decide +kernel
theorem dL_pots_5 : decode cL_pots 5 = .ok (.iload_n 2, 1) := by decide +kernel
theorem dL_pots_6 : decode cL_pots 6 = .ok (.iload_n 3, 1) := by decide +kernel
theorem dL_pots_7 : decode cL_pots 7 = .ok (.iload 4, 2) := by decide +kernel
theorem dL_pots_9 : decode cL_pots 9 = .ok (.invokevirtual 51, 3) := by decide +kernel
theorem dL_pots_12 : decode cL_pots 12 = .ok (.i2l, 1) := by decide +kernel
theorem dL_pots_13 : decode cL_pots 13 = .ok (.lastore, 1) := by decide +kernel
theorem dL_pots_14 : decode cL_pots 14 = .ok (.goto 11, 3) := by decide +kernel
theorem dL_pots_17 : decode cL_pots 17 = .ok (.astore 6, 2) := by decide +kernel
theorem dL_pots_19 : decode cL_pots 19 = .ok (.iconst 1, 1) := by decide +kernel
theorem dL_pots_20 : decode cL_pots 20 = .ok (.ireturn, 1) := by decide +kernel
theorem dL_pots_21 : decode cL_pots 21 = .ok (.astore 6, 2) := by decide +kernel
theorem dL_pots_23 : decode cL_pots 23 = .ok (.iconst 2, 1) := by decide +kernel
theorem dL_pots_24 : decode cL_pots 24 = .ok (.ireturn, 1) := by decide +kernel
theorem dL_pots_25 : decode cL_pots 25 = .ok (.iconst 0, 1) := by decide +kernel
theorem dL_pots_26 : decode cL_pots 26 = .ok (.ireturn, 1) := by decide +kernel
theorem dL_ladle_0 : decode cL_ladle 0 = .ok (.aload_n 2, 1) := by decide +kernel
theorem dL_ladle_1 : decode cL_ladle 1 = .ok (.iconst 0, 1) := by decide +kernel
theorem dL_ladle_2 : decode cL_ladle 2 = .ok (.aload_n 0, 1) := by decide +kernel
theorem dL_ladle_3 : decode cL_ladle 3 = .ok (.iload_n 1, 1) := by decide +kernel
theorem dL_ladle_4 : decode cL_ladle 4 = .ok (.invokevirtual 55, 3) := by decide +kernel
theorem dL_ladle_7 : decode cL_ladle 7 = .ok (.i2l, 1) := by decide +kernel
theorem dL_ladle_8 : decode cL_ladle 8 = .ok (.lastore, 1) := by decide +kernel
theorem dL_ladle_9 : decode cL_ladle 9 = .ok (.goto 6, 3) := by decide +kernel
theorem dL_ladle_12 : decode cL_ladle 12 = .ok (.astore_n 3, 1) := by decide +kernel
theorem dL_ladle_13 : decode cL_ladle 13 = .ok (.iconst 1, 1) := by decide +kernel
theorem dL_ladle_14 : decode cL_ladle 14 = .ok (.ireturn, 1) := by decide +kernel
theorem dL_ladle_15 : decode cL_ladle 15 = .ok (.iconst 0, 1) := by decide +kernel
theorem dL_ladle_16 : decode cL_ladle 16 = .ok (.ireturn, 1) := by decide +kernel
theorem dL_come_0 : decode cL_come 0 = .ok (.aload_n 2, 1) := by decide +kernel
theorem dL_come_1 : decode cL_come 1 = .ok (.iconst 0, 1) := by decide +kernel
theorem dL_come_2 : decode cL_come 2 = .ok (.aload_n 0, 1) := by decide +kernel
theorem dL_come_3 : decode cL_come 3 = .ok (.iload_n 1, 1) := by decide +kernel
theorem dL_come_4 : decode cL_come 4 = .ok (.invokevirtual 58, 3) := by decide +kernel
theorem dL_come_7 : decode cL_come 7 = .ok (.i2l, 1) := by decide +kernel
theorem dL_come_8 : decode cL_come 8 = .ok (.lastore, 1) := by decide +kernel
theorem dL_come_9 : decode cL_come 9 = .ok (.goto 6, 3) := by decide +kernel
theorem dL_come_12 : decode cL_come 12 = .ok (.astore_n 3, 1) := by decide +kernel
theorem dL_come_13 : decode cL_come 13 = .ok (.iconst 1, 1) := by decide +kernel
theorem dL_come_14 : decode cL_come 14 = .ok (.ireturn, 1) := by decide +kernel
theorem dL_come_15 : decode cL_come 15 = .ok (.iconst 0, 1) := by decide +kernel
theorem dL_come_16 : decode cL_come 16 = .ok (.ireturn, 1) := by decide +kernel
theorem dL_hatch_0 : decode cL_hatch 0 = .ok (.aload_n 3, 1) := by decide +kernel
theorem dL_hatch_1 : decode cL_hatch 1 = .ok (.iconst 0, 1) := by decide +kernel
theorem dL_hatch_2 : decode cL_hatch 2 = .ok (.aload_n 0, 1) := by decide +kernel
theorem dL_hatch_3 : decode cL_hatch 3 = .ok (.iload_n 1, 1) := by decide +kernel
theorem dL_hatch_4 : decode cL_hatch 4 = .ok (.iload_n 2, 1) := by decide +kernel
theorem dL_hatch_5 : decode cL_hatch 5 = .ok (.invokevirtual 61, 3) := by decide +kernel
theorem dL_hatch_8 : decode cL_hatch 8 = .ok (.i2l, 1) := by decide +kernel
theorem dL_hatch_9 : decode cL_hatch 9 = .ok (.lastore, 1) := by decide +kernel
theorem dL_hatch_10 : decode cL_hatch 10 = .ok (.goto 7, 3) := by decide +kernel
theorem dL_hatch_13 : decode cL_hatch 13 = .ok (.astore 4, 2) := by decide +kernel
theorem dL_hatch_15 : decode cL_hatch 15 = .ok (.iconst 1, 1) := by decide +kernel
theorem dL_hatch_16 : decode cL_hatch 16 = .ok (.ireturn, 1) := by decide +kernel
theorem dL_hatch_17 : decode cL_hatch 17 = .ok (.iconst 0, 1) := by decide +kernel
theorem dL_hatch_18 : decode cL_hatch 18 = .ok (.ireturn, 1) := by decide +kernel
theorem dL_serve_0 : decode cL_serve 0 = .ok (.aload_n 2, 1) := by decide +kernel
theorem dL_serve_1 : decode cL_serve 1 = .ok (.iconst 0, 1) := by decide +kernel
theorem dL_serve_2 : decode cL_serve 2 = .ok (.aload_n 0, 1) := by decide +kernel
theorem dL_serve_3 : decode cL_serve 3 = .ok (.iload_n 1, 1) := by decide +kernel
theorem dL_serve_4 : decode cL_serve 4 = .ok (.invokevirtual 64, 3) := by decide +kernel
theorem dL_serve_7 : decode cL_serve 7 = .ok (.i2l, 1) := by decide +kernel
theorem dL_serve_8 : decode cL_serve 8 = .ok (.lastore, 1) := by decide +kernel
theorem dL_serve_9 : decode cL_serve 9 = .ok (.goto 6, 3) := by decide +kernel
theorem dL_serve_12 : decode cL_serve 12 = .ok (.astore_n 3, 1) := by decide +kernel
theorem dL_serve_13 : decode cL_serve 13 = .ok (.iconst 1, 1) := by decide +kernel
theorem dL_serve_14 : decode cL_serve 14 = .ok (.ireturn, 1) := by decide +kernel
theorem dL_serve_15 : decode cL_serve 15 = .ok (.iconst 0, 1) := by decide +kernel
theorem dL_serve_16 : decode cL_serve 16 = .ok (.ireturn, 1) := by decide +kernel
theorem dL_law_0 : decode cL_law 0 = .ok (.new 8, 3) := by decide +kernel
theorem dL_law_3 : decode cL_law 3 = .ok (.dup, 1) := by decide +kernel
theorem dL_law_4 : decode cL_law 4 = .ok (.invokespecial 67, 3) := by decide +kernel
theorem dL_law_7 : decode cL_law 7 = .ok (.astore_n 1, 1) := by decide +kernel
theorem dL_law_8 : decode cL_law 8 = .ok (.new 68, 3) := by decide +kernel
theorem dL_law_11 : decode cL_law 11 = .ok (.dup, 1) := by decide +kernel
theorem dL_law_12 : decode cL_law 12 = .ok (.invokespecial 70, 3) := by decide +kernel
theorem dL_law_15 : decode cL_law 15 = .ok (.astore_n 2, 1) := by decide +kernel
theorem dL_law_16 : decode cL_law 16 = .ok (.iconst 1, 1) := by decide +kernel
theorem dL_law_17 : decode cL_law 17 = .ok (.newarray .long, 2) := by decide +kernel
theorem dL_law_19 : decode cL_law 19 = .ok (.astore_n 3, 1) := by decide +kernel
theorem dL_law_20 : decode cL_law 20 = .ok (.iconst 0, 1) := by decide +kernel
theorem dL_law_21 : decode cL_law 21 = .ok (.istore 4, 2) := by decide +kernel
theorem dL_law_23 : decode cL_law 23 = .ok (.iload 4, 2) := by decide +kernel
theorem dL_law_25 : decode cL_law 25 = .ok (.aload_n 0, 1) := by decide +kernel
theorem dL_law_26 : decode cL_law 26 = .ok (.arraylength, 1) := by decide +kernel
theorem dL_law_27 : decode cL_law 27 = .ok (.iconst 5, 1) := by decide +kernel
theorem dL_law_28 : decode cL_law 28 = .ok (.isub, 1) := by decide +kernel
theorem dL_law_29 : decode cL_law 29 = .ok (.if_icmp .gt 1146, 3) := by decide +kernel
theorem dL_law_32 : decode cL_law 32 = .ok (.aload_n 0, 1) := by decide +kernel
theorem dL_law_33 : decode cL_law 33 = .ok (.iload 4, 2) := by decide +kernel
theorem dL_law_35 : decode cL_law 35 = .ok (.iaload, 1) := by decide +kernel
theorem dL_law_36 : decode cL_law 36 = .ok (.bipush 31, 2) := by decide +kernel
theorem dL_law_38 : decode cL_law 38 = .ok (.iand, 1) := by decide +kernel
theorem dL_law_39 : decode cL_law 39 = .ok (.tableswitch 1130 0 17 #[85, 153, 221, 277, 340, 396, 476, 556, 624, 672, 751, 843, 856, 912, 968, 1036, 1092, 1105], 85) := by decide +kernel
theorem dL_law_124 : decode cL_law 124 = .ok (.aload_n 1, 1) := by decide +kernel
theorem dL_law_125 : decode cL_law 125 = .ok (.aload_n 0, 1) := by decide +kernel
theorem dL_law_126 : decode cL_law 126 = .ok (.iload 4, 2) := by decide +kernel
theorem dL_law_128 : decode cL_law 128 = .ok (.iconst 1, 1) := by decide +kernel
theorem dL_law_129 : decode cL_law 129 = .ok (.iadd, 1) := by decide +kernel
theorem dL_law_130 : decode cL_law 130 = .ok (.iaload, 1) := by decide +kernel
theorem dL_law_131 : decode cL_law 131 = .ok (.aload_n 0, 1) := by decide +kernel
theorem dL_law_132 : decode cL_law 132 = .ok (.iload 4, 2) := by decide +kernel
theorem dL_law_134 : decode cL_law 134 = .ok (.iconst 2, 1) := by decide +kernel
theorem dL_law_135 : decode cL_law 135 = .ok (.iadd, 1) := by decide +kernel
theorem dL_law_136 : decode cL_law 136 = .ok (.iaload, 1) := by decide +kernel
theorem dL_law_137 : decode cL_law 137 = .ok (.aload_n 3, 1) := by decide +kernel
theorem dL_law_138 : decode cL_law 138 = .ok (.invokestatic 71, 3) := by decide +kernel
theorem dL_law_141 : decode cL_law 141 = .ok (.istore 5, 2) := by decide +kernel
theorem dL_law_143 : decode cL_law 143 = .ok (.aload_n 2, 1) := by decide +kernel
theorem dL_law_144 : decode cL_law 144 = .ok (.aload_n 0, 1) := by decide +kernel
theorem dL_law_145 : decode cL_law 145 = .ok (.iload 4, 2) := by decide +kernel
theorem dL_law_147 : decode cL_law 147 = .ok (.iconst 1, 1) := by decide +kernel
theorem dL_law_148 : decode cL_law 148 = .ok (.iadd, 1) := by decide +kernel
theorem dL_law_149 : decode cL_law 149 = .ok (.iaload, 1) := by decide +kernel
theorem dL_law_150 : decode cL_law 150 = .ok (.aload_n 0, 1) := by decide +kernel
theorem dL_law_151 : decode cL_law 151 = .ok (.iload 4, 2) := by decide +kernel
theorem dL_law_153 : decode cL_law 153 = .ok (.iconst 2, 1) := by decide +kernel
theorem dL_law_154 : decode cL_law 154 = .ok (.iadd, 1) := by decide +kernel
theorem dL_law_155 : decode cL_law 155 = .ok (.iaload, 1) := by decide +kernel
theorem dL_law_156 : decode cL_law 156 = .ok (.invokevirtual 76, 3) := by decide +kernel
theorem dL_law_159 : decode cL_law 159 = .ok (.istore 6, 2) := by decide +kernel
theorem dL_law_161 : decode cL_law 161 = .ok (.aload_n 2, 1) := by decide +kernel
theorem dL_law_162 : decode cL_law 162 = .ok (.invokevirtual 77, 3) := by decide +kernel
theorem dL_law_165 : decode cL_law 165 = .ok (.iload 5, 2) := by decide +kernel
theorem dL_law_167 : decode cL_law 167 = .ok (.if_icmp .eq 5, 3) := by decide +kernel
theorem dL_law_170 : decode cL_law 170 = .ok (.iconst 0, 1) := by decide +kernel
theorem dL_law_171 : decode cL_law 171 = .ok (.ireturn, 1) := by decide +kernel
theorem dL_law_172 : decode cL_law 172 = .ok (.iload 5, 2) := by decide +kernel
theorem dL_law_174 : decode cL_law 174 = .ok (.ifCond .ne 15, 3) := by decide +kernel
theorem dL_law_177 : decode cL_law 177 = .ok (.aload_n 3, 1) := by decide +kernel
theorem dL_law_178 : decode cL_law 178 = .ok (.iconst 0, 1) := by decide +kernel
theorem dL_law_179 : decode cL_law 179 = .ok (.laload, 1) := by decide +kernel
theorem dL_law_180 : decode cL_law 180 = .ok (.iload 6, 2) := by decide +kernel
theorem dL_law_182 : decode cL_law 182 = .ok (.i2l, 1) := by decide +kernel
theorem dL_law_183 : decode cL_law 183 = .ok (.lcmp, 1) := by decide +kernel
theorem dL_law_184 : decode cL_law 184 = .ok (.ifCond .eq 5, 3) := by decide +kernel
theorem dL_law_187 : decode cL_law 187 = .ok (.iconst 0, 1) := by decide +kernel
theorem dL_law_188 : decode cL_law 188 = .ok (.ireturn, 1) := by decide +kernel
theorem dL_law_189 : decode cL_law 189 = .ok (.goto 980, 3) := by decide +kernel
theorem dL_law_192 : decode cL_law 192 = .ok (.aload_n 1, 1) := by decide +kernel
theorem dL_law_193 : decode cL_law 193 = .ok (.aload_n 0, 1) := by decide +kernel
theorem dL_law_194 : decode cL_law 194 = .ok (.iload 4, 2) := by decide +kernel
theorem dL_law_196 : decode cL_law 196 = .ok (.iconst 1, 1) := by decide +kernel
theorem dL_law_197 : decode cL_law 197 = .ok (.iadd, 1) := by decide +kernel
theorem dL_law_198 : decode cL_law 198 = .ok (.iaload, 1) := by decide +kernel
theorem dL_law_199 : decode cL_law 199 = .ok (.aload_n 0, 1) := by decide +kernel
theorem dL_law_200 : decode cL_law 200 = .ok (.iload 4, 2) := by decide +kernel
theorem dL_law_202 : decode cL_law 202 = .ok (.iconst 2, 1) := by decide +kernel
theorem dL_law_203 : decode cL_law 203 = .ok (.iadd, 1) := by decide +kernel
theorem dL_law_204 : decode cL_law 204 = .ok (.iaload, 1) := by decide +kernel
theorem dL_law_205 : decode cL_law 205 = .ok (.aload_n 3, 1) := by decide +kernel
theorem dL_law_206 : decode cL_law 206 = .ok (.invokestatic 81, 3) := by decide +kernel
theorem dL_law_209 : decode cL_law 209 = .ok (.istore 5, 2) := by decide +kernel
theorem dL_law_211 : decode cL_law 211 = .ok (.aload_n 2, 1) := by decide +kernel
theorem dL_law_212 : decode cL_law 212 = .ok (.aload_n 0, 1) := by decide +kernel
theorem dL_law_213 : decode cL_law 213 = .ok (.iload 4, 2) := by decide +kernel
theorem dL_law_215 : decode cL_law 215 = .ok (.iconst 1, 1) := by decide +kernel
theorem dL_law_216 : decode cL_law 216 = .ok (.iadd, 1) := by decide +kernel
theorem dL_law_217 : decode cL_law 217 = .ok (.iaload, 1) := by decide +kernel
theorem dL_law_218 : decode cL_law 218 = .ok (.aload_n 0, 1) := by decide +kernel
theorem dL_law_219 : decode cL_law 219 = .ok (.iload 4, 2) := by decide +kernel
theorem dL_law_221 : decode cL_law 221 = .ok (.iconst 2, 1) := by decide +kernel
theorem dL_law_222 : decode cL_law 222 = .ok (.iadd, 1) := by decide +kernel
theorem dL_law_223 : decode cL_law 223 = .ok (.iaload, 1) := by decide +kernel
theorem dL_law_224 : decode cL_law 224 = .ok (.invokevirtual 83, 3) := by decide +kernel
theorem dL_law_227 : decode cL_law 227 = .ok (.istore 6, 2) := by decide +kernel
theorem dL_law_229 : decode cL_law 229 = .ok (.aload_n 2, 1) := by decide +kernel
theorem dL_law_230 : decode cL_law 230 = .ok (.invokevirtual 77, 3) := by decide +kernel
theorem dL_law_233 : decode cL_law 233 = .ok (.iload 5, 2) := by decide +kernel
theorem dL_law_235 : decode cL_law 235 = .ok (.if_icmp .eq 5, 3) := by decide +kernel
theorem dL_law_238 : decode cL_law 238 = .ok (.iconst 0, 1) := by decide +kernel
theorem dL_law_239 : decode cL_law 239 = .ok (.ireturn, 1) := by decide +kernel
theorem dL_law_240 : decode cL_law 240 = .ok (.iload 5, 2) := by decide +kernel
theorem dL_law_242 : decode cL_law 242 = .ok (.ifCond .ne 15, 3) := by decide +kernel
theorem dL_law_245 : decode cL_law 245 = .ok (.aload_n 3, 1) := by decide +kernel
theorem dL_law_246 : decode cL_law 246 = .ok (.iconst 0, 1) := by decide +kernel
theorem dL_law_247 : decode cL_law 247 = .ok (.laload, 1) := by decide +kernel
theorem dL_law_248 : decode cL_law 248 = .ok (.iload 6, 2) := by decide +kernel
theorem dL_law_250 : decode cL_law 250 = .ok (.i2l, 1) := by decide +kernel
theorem dL_law_251 : decode cL_law 251 = .ok (.lcmp, 1) := by decide +kernel
theorem dL_law_252 : decode cL_law 252 = .ok (.ifCond .eq 5, 3) := by decide +kernel
theorem dL_law_255 : decode cL_law 255 = .ok (.iconst 0, 1) := by decide +kernel
theorem dL_law_256 : decode cL_law 256 = .ok (.ireturn, 1) := by decide +kernel
theorem dL_law_257 : decode cL_law 257 = .ok (.goto 912, 3) := by decide +kernel
theorem dL_law_260 : decode cL_law 260 = .ok (.aload_n 1, 1) := by decide +kernel
theorem dL_law_261 : decode cL_law 261 = .ok (.aload_n 0, 1) := by decide +kernel
theorem dL_law_262 : decode cL_law 262 = .ok (.iload 4, 2) := by decide +kernel
theorem dL_law_264 : decode cL_law 264 = .ok (.iconst 1, 1) := by decide +kernel
theorem dL_law_265 : decode cL_law 265 = .ok (.iadd, 1) := by decide +kernel
theorem dL_law_266 : decode cL_law 266 = .ok (.iaload, 1) := by decide +kernel
theorem dL_law_267 : decode cL_law 267 = .ok (.aload_n 3, 1) := by decide +kernel
theorem dL_law_268 : decode cL_law 268 = .ok (.invokestatic 84, 3) := by decide +kernel
theorem dL_law_271 : decode cL_law 271 = .ok (.istore 5, 2) := by decide +kernel
theorem dL_law_273 : decode cL_law 273 = .ok (.aload_n 2, 1) := by decide +kernel
theorem dL_law_274 : decode cL_law 274 = .ok (.aload_n 0, 1) := by decide +kernel
theorem dL_law_275 : decode cL_law 275 = .ok (.iload 4, 2) := by decide +kernel
theorem dL_law_277 : decode cL_law 277 = .ok (.iconst 1, 1) := by decide +kernel
theorem dL_law_278 : decode cL_law 278 = .ok (.iadd, 1) := by decide +kernel
theorem dL_law_279 : decode cL_law 279 = .ok (.iaload, 1) := by decide +kernel
theorem dL_law_280 : decode cL_law 280 = .ok (.invokevirtual 87, 3) := by decide +kernel
theorem dL_law_283 : decode cL_law 283 = .ok (.istore 6, 2) := by decide +kernel
theorem dL_law_285 : decode cL_law 285 = .ok (.aload_n 2, 1) := by decide +kernel
theorem dL_law_286 : decode cL_law 286 = .ok (.invokevirtual 77, 3) := by decide +kernel
theorem dL_law_289 : decode cL_law 289 = .ok (.iload 5, 2) := by decide +kernel
theorem dL_law_291 : decode cL_law 291 = .ok (.if_icmp .eq 5, 3) := by decide +kernel
theorem dL_law_294 : decode cL_law 294 = .ok (.iconst 0, 1) := by decide +kernel
theorem dL_law_295 : decode cL_law 295 = .ok (.ireturn, 1) := by decide +kernel
theorem dL_law_296 : decode cL_law 296 = .ok (.iload 5, 2) := by decide +kernel
theorem dL_law_298 : decode cL_law 298 = .ok (.ifCond .ne 15, 3) := by decide +kernel
theorem dL_law_301 : decode cL_law 301 = .ok (.aload_n 3, 1) := by decide +kernel
theorem dL_law_302 : decode cL_law 302 = .ok (.iconst 0, 1) := by decide +kernel
theorem dL_law_303 : decode cL_law 303 = .ok (.laload, 1) := by decide +kernel
theorem dL_law_304 : decode cL_law 304 = .ok (.iload 6, 2) := by decide +kernel
theorem dL_law_306 : decode cL_law 306 = .ok (.i2l, 1) := by decide +kernel
theorem dL_law_307 : decode cL_law 307 = .ok (.lcmp, 1) := by decide +kernel
theorem dL_law_308 : decode cL_law 308 = .ok (.ifCond .eq 5, 3) := by decide +kernel
theorem dL_law_311 : decode cL_law 311 = .ok (.iconst 0, 1) := by decide +kernel
theorem dL_law_312 : decode cL_law 312 = .ok (.ireturn, 1) := by decide +kernel
theorem dL_law_313 : decode cL_law 313 = .ok (.goto 856, 3) := by decide +kernel
theorem dL_law_316 : decode cL_law 316 = .ok (.aload_n 1, 1) := by decide +kernel
theorem dL_law_317 : decode cL_law 317 = .ok (.aload_n 0, 1) := by decide +kernel
theorem dL_law_318 : decode cL_law 318 = .ok (.iload 4, 2) := by decide +kernel
theorem dL_law_320 : decode cL_law 320 = .ok (.iconst 1, 1) := by decide +kernel
theorem dL_law_321 : decode cL_law 321 = .ok (.iadd, 1) := by decide +kernel
theorem dL_law_322 : decode cL_law 322 = .ok (.iaload, 1) := by decide +kernel
theorem dL_law_323 : decode cL_law 323 = .ok (.aload_n 3, 1) := by decide +kernel
theorem dL_law_324 : decode cL_law 324 = .ok (.invokestatic 88, 3) := by decide +kernel
theorem dL_law_327 : decode cL_law 327 = .ok (.istore 5, 2) := by decide +kernel
theorem dL_law_329 : decode cL_law 329 = .ok (.aload_n 2, 1) := by decide +kernel
theorem dL_law_330 : decode cL_law 330 = .ok (.aload_n 0, 1) := by decide +kernel
theorem dL_law_331 : decode cL_law 331 = .ok (.iload 4, 2) := by decide +kernel
theorem dL_law_333 : decode cL_law 333 = .ok (.iconst 1, 1) := by decide +kernel
theorem dL_law_334 : decode cL_law 334 = .ok (.iadd, 1) := by decide +kernel
theorem dL_law_335 : decode cL_law 335 = .ok (.iaload, 1) := by decide +kernel
theorem dL_law_336 : decode cL_law 336 = .ok (.invokevirtual 90, 3) := by decide +kernel
theorem dL_law_339 : decode cL_law 339 = .ok (.istore 6, 2) := by decide +kernel
theorem dL_law_341 : decode cL_law 341 = .ok (.aload_n 2, 1) := by decide +kernel
theorem dL_law_342 : decode cL_law 342 = .ok (.invokevirtual 77, 3) := by decide +kernel
theorem dL_law_345 : decode cL_law 345 = .ok (.iload 5, 2) := by decide +kernel
theorem dL_law_347 : decode cL_law 347 = .ok (.if_icmp .eq 5, 3) := by decide +kernel
theorem dL_law_350 : decode cL_law 350 = .ok (.iconst 0, 1) := by decide +kernel
theorem dL_law_351 : decode cL_law 351 = .ok (.ireturn, 1) := by decide +kernel
theorem dL_law_352 : decode cL_law 352 = .ok (.iload 5, 2) := by decide +kernel
theorem dL_law_354 : decode cL_law 354 = .ok (.ifCond .ne 22, 3) := by decide +kernel
theorem dL_law_357 : decode cL_law 357 = .ok (.aload_n 3, 1) := by decide +kernel
theorem dL_law_358 : decode cL_law 358 = .ok (.iconst 0, 1) := by decide +kernel
theorem dL_law_359 : decode cL_law 359 = .ok (.laload, 1) := by decide +kernel
theorem dL_law_360 : decode cL_law 360 = .ok (.iload 6, 2) := by decide +kernel
theorem dL_law_362 : decode cL_law 362 = .ok (.ifCond .eq 7, 3) := by decide +kernel
theorem dL_law_365 : decode cL_law 365 = .ok (.lconst 1, 1) := by decide +kernel
theorem dL_law_366 : decode cL_law 366 = .ok (.goto 4, 3) := by decide +kernel
theorem dL_law_369 : decode cL_law 369 = .ok (.lconst 0, 1) := by decide +kernel
theorem dL_law_370 : decode cL_law 370 = .ok (.lcmp, 1) := by decide +kernel
theorem dL_law_371 : decode cL_law 371 = .ok (.ifCond .eq 5, 3) := by decide +kernel
theorem dL_law_374 : decode cL_law 374 = .ok (.iconst 0, 1) := by decide +kernel
theorem dL_law_375 : decode cL_law 375 = .ok (.ireturn, 1) := by decide +kernel
theorem dL_law_376 : decode cL_law 376 = .ok (.goto 793, 3) := by decide +kernel
theorem dL_law_379 : decode cL_law 379 = .ok (.aload_n 1, 1) := by decide +kernel
theorem dL_law_380 : decode cL_law 380 = .ok (.aload_n 0, 1) := by decide +kernel
theorem dL_law_381 : decode cL_law 381 = .ok (.iload 4, 2) := by decide +kernel
theorem dL_law_383 : decode cL_law 383 = .ok (.iconst 1, 1) := by decide +kernel
theorem dL_law_384 : decode cL_law 384 = .ok (.iadd, 1) := by decide +kernel
theorem dL_law_385 : decode cL_law 385 = .ok (.iaload, 1) := by decide +kernel
theorem dL_law_386 : decode cL_law 386 = .ok (.aload_n 3, 1) := by decide +kernel
theorem dL_law_387 : decode cL_law 387 = .ok (.invokestatic 91, 3) := by decide +kernel
theorem dL_law_390 : decode cL_law 390 = .ok (.istore 5, 2) := by decide +kernel
theorem dL_law_392 : decode cL_law 392 = .ok (.aload_n 2, 1) := by decide +kernel
theorem dL_law_393 : decode cL_law 393 = .ok (.aload_n 0, 1) := by decide +kernel
theorem dL_law_394 : decode cL_law 394 = .ok (.iload 4, 2) := by decide +kernel
theorem dL_law_396 : decode cL_law 396 = .ok (.iconst 1, 1) := by decide +kernel
theorem dL_law_397 : decode cL_law 397 = .ok (.iadd, 1) := by decide +kernel
theorem dL_law_398 : decode cL_law 398 = .ok (.iaload, 1) := by decide +kernel
theorem dL_law_399 : decode cL_law 399 = .ok (.invokevirtual 93, 3) := by decide +kernel
theorem dL_law_402 : decode cL_law 402 = .ok (.istore 6, 2) := by decide +kernel
theorem dL_law_404 : decode cL_law 404 = .ok (.aload_n 2, 1) := by decide +kernel
theorem dL_law_405 : decode cL_law 405 = .ok (.invokevirtual 77, 3) := by decide +kernel
theorem dL_law_408 : decode cL_law 408 = .ok (.iload 5, 2) := by decide +kernel
theorem dL_law_410 : decode cL_law 410 = .ok (.if_icmp .eq 5, 3) := by decide +kernel
theorem dL_law_413 : decode cL_law 413 = .ok (.iconst 0, 1) := by decide +kernel
theorem dL_law_414 : decode cL_law 414 = .ok (.ireturn, 1) := by decide +kernel
theorem dL_law_415 : decode cL_law 415 = .ok (.iload 5, 2) := by decide +kernel
theorem dL_law_417 : decode cL_law 417 = .ok (.ifCond .ne 15, 3) := by decide +kernel
theorem dL_law_420 : decode cL_law 420 = .ok (.aload_n 3, 1) := by decide +kernel
theorem dL_law_421 : decode cL_law 421 = .ok (.iconst 0, 1) := by decide +kernel
theorem dL_law_422 : decode cL_law 422 = .ok (.laload, 1) := by decide +kernel
theorem dL_law_423 : decode cL_law 423 = .ok (.iload 6, 2) := by decide +kernel
theorem dL_law_425 : decode cL_law 425 = .ok (.i2l, 1) := by decide +kernel
theorem dL_law_426 : decode cL_law 426 = .ok (.lcmp, 1) := by decide +kernel
theorem dL_law_427 : decode cL_law 427 = .ok (.ifCond .eq 5, 3) := by decide +kernel
theorem dL_law_430 : decode cL_law 430 = .ok (.iconst 0, 1) := by decide +kernel
theorem dL_law_431 : decode cL_law 431 = .ok (.ireturn, 1) := by decide +kernel
theorem dL_law_432 : decode cL_law 432 = .ok (.goto 737, 3) := by decide +kernel
theorem dL_law_435 : decode cL_law 435 = .ok (.aload_n 1, 1) := by decide +kernel
theorem dL_law_436 : decode cL_law 436 = .ok (.aload_n 0, 1) := by decide +kernel
theorem dL_law_437 : decode cL_law 437 = .ok (.iload 4, 2) := by decide +kernel
theorem dL_law_439 : decode cL_law 439 = .ok (.iconst 1, 1) := by decide +kernel
theorem dL_law_440 : decode cL_law 440 = .ok (.iadd, 1) := by decide +kernel
theorem dL_law_441 : decode cL_law 441 = .ok (.iaload, 1) := by decide +kernel
theorem dL_law_442 : decode cL_law 442 = .ok (.aload_n 0, 1) := by decide +kernel
theorem dL_law_443 : decode cL_law 443 = .ok (.iload 4, 2) := by decide +kernel
theorem dL_law_445 : decode cL_law 445 = .ok (.iconst 2, 1) := by decide +kernel
theorem dL_law_446 : decode cL_law 446 = .ok (.iadd, 1) := by decide +kernel
theorem dL_law_447 : decode cL_law 447 = .ok (.iaload, 1) := by decide +kernel
theorem dL_law_448 : decode cL_law 448 = .ok (.aload_n 0, 1) := by decide +kernel
theorem dL_law_449 : decode cL_law 449 = .ok (.iload 4, 2) := by decide +kernel
theorem dL_law_451 : decode cL_law 451 = .ok (.iconst 3, 1) := by decide +kernel
theorem dL_law_452 : decode cL_law 452 = .ok (.iadd, 1) := by decide +kernel
theorem dL_law_453 : decode cL_law 453 = .ok (.iaload, 1) := by decide +kernel
theorem dL_law_454 : decode cL_law 454 = .ok (.aload_n 3, 1) := by decide +kernel
theorem dL_law_455 : decode cL_law 455 = .ok (.invokestatic 94, 3) := by decide +kernel
theorem dL_law_458 : decode cL_law 458 = .ok (.istore 5, 2) := by decide +kernel
theorem dL_law_460 : decode cL_law 460 = .ok (.aload_n 2, 1) := by decide +kernel
theorem dL_law_461 : decode cL_law 461 = .ok (.aload_n 0, 1) := by decide +kernel
theorem dL_law_462 : decode cL_law 462 = .ok (.iload 4, 2) := by decide +kernel
theorem dL_law_464 : decode cL_law 464 = .ok (.iconst 1, 1) := by decide +kernel
theorem dL_law_465 : decode cL_law 465 = .ok (.iadd, 1) := by decide +kernel
theorem dL_law_466 : decode cL_law 466 = .ok (.iaload, 1) := by decide +kernel
theorem dL_law_467 : decode cL_law 467 = .ok (.aload_n 0, 1) := by decide +kernel
theorem dL_law_468 : decode cL_law 468 = .ok (.iload 4, 2) := by decide +kernel
theorem dL_law_470 : decode cL_law 470 = .ok (.iconst 2, 1) := by decide +kernel
theorem dL_law_471 : decode cL_law 471 = .ok (.iadd, 1) := by decide +kernel
theorem dL_law_472 : decode cL_law 472 = .ok (.iaload, 1) := by decide +kernel
theorem dL_law_473 : decode cL_law 473 = .ok (.aload_n 0, 1) := by decide +kernel
theorem dL_law_474 : decode cL_law 474 = .ok (.iload 4, 2) := by decide +kernel
theorem dL_law_476 : decode cL_law 476 = .ok (.iconst 3, 1) := by decide +kernel
theorem dL_law_477 : decode cL_law 477 = .ok (.iadd, 1) := by decide +kernel
theorem dL_law_478 : decode cL_law 478 = .ok (.iaload, 1) := by decide +kernel
theorem dL_law_479 : decode cL_law 479 = .ok (.invokevirtual 97, 3) := by decide +kernel
theorem dL_law_482 : decode cL_law 482 = .ok (.istore 6, 2) := by decide +kernel
theorem dL_law_484 : decode cL_law 484 = .ok (.aload_n 2, 1) := by decide +kernel
theorem dL_law_485 : decode cL_law 485 = .ok (.invokevirtual 77, 3) := by decide +kernel
theorem dL_law_488 : decode cL_law 488 = .ok (.iload 5, 2) := by decide +kernel
theorem dL_law_490 : decode cL_law 490 = .ok (.if_icmp .eq 5, 3) := by decide +kernel
theorem dL_law_493 : decode cL_law 493 = .ok (.iconst 0, 1) := by decide +kernel
theorem dL_law_494 : decode cL_law 494 = .ok (.ireturn, 1) := by decide +kernel
theorem dL_law_495 : decode cL_law 495 = .ok (.iload 5, 2) := by decide +kernel
theorem dL_law_497 : decode cL_law 497 = .ok (.ifCond .ne 15, 3) := by decide +kernel
theorem dL_law_500 : decode cL_law 500 = .ok (.aload_n 3, 1) := by decide +kernel
theorem dL_law_501 : decode cL_law 501 = .ok (.iconst 0, 1) := by decide +kernel
theorem dL_law_502 : decode cL_law 502 = .ok (.laload, 1) := by decide +kernel
theorem dL_law_503 : decode cL_law 503 = .ok (.iload 6, 2) := by decide +kernel
theorem dL_law_505 : decode cL_law 505 = .ok (.i2l, 1) := by decide +kernel
theorem dL_law_506 : decode cL_law 506 = .ok (.lcmp, 1) := by decide +kernel
theorem dL_law_507 : decode cL_law 507 = .ok (.ifCond .eq 5, 3) := by decide +kernel
theorem dL_law_510 : decode cL_law 510 = .ok (.iconst 0, 1) := by decide +kernel
theorem dL_law_511 : decode cL_law 511 = .ok (.ireturn, 1) := by decide +kernel
theorem dL_law_512 : decode cL_law 512 = .ok (.goto 657, 3) := by decide +kernel
theorem dL_law_515 : decode cL_law 515 = .ok (.aload_n 1, 1) := by decide +kernel
theorem dL_law_516 : decode cL_law 516 = .ok (.aload_n 0, 1) := by decide +kernel
theorem dL_law_517 : decode cL_law 517 = .ok (.iload 4, 2) := by decide +kernel
theorem dL_law_519 : decode cL_law 519 = .ok (.iconst 1, 1) := by decide +kernel
theorem dL_law_520 : decode cL_law 520 = .ok (.iadd, 1) := by decide +kernel
theorem dL_law_521 : decode cL_law 521 = .ok (.iaload, 1) := by decide +kernel
theorem dL_law_522 : decode cL_law 522 = .ok (.aload_n 0, 1) := by decide +kernel
theorem dL_law_523 : decode cL_law 523 = .ok (.iload 4, 2) := by decide +kernel
theorem dL_law_525 : decode cL_law 525 = .ok (.iconst 2, 1) := by decide +kernel
theorem dL_law_526 : decode cL_law 526 = .ok (.iadd, 1) := by decide +kernel
theorem dL_law_527 : decode cL_law 527 = .ok (.iaload, 1) := by decide +kernel
theorem dL_law_528 : decode cL_law 528 = .ok (.aload_n 0, 1) := by decide +kernel
theorem dL_law_529 : decode cL_law 529 = .ok (.iload 4, 2) := by decide +kernel
theorem dL_law_531 : decode cL_law 531 = .ok (.iconst 3, 1) := by decide +kernel
theorem dL_law_532 : decode cL_law 532 = .ok (.iadd, 1) := by decide +kernel
theorem dL_law_533 : decode cL_law 533 = .ok (.iaload, 1) := by decide +kernel
theorem dL_law_534 : decode cL_law 534 = .ok (.aload_n 3, 1) := by decide +kernel
theorem dL_law_535 : decode cL_law 535 = .ok (.invokestatic 98, 3) := by decide +kernel
theorem dL_law_538 : decode cL_law 538 = .ok (.istore 5, 2) := by decide +kernel
theorem dL_law_540 : decode cL_law 540 = .ok (.aload_n 2, 1) := by decide +kernel
theorem dL_law_541 : decode cL_law 541 = .ok (.aload_n 0, 1) := by decide +kernel
theorem dL_law_542 : decode cL_law 542 = .ok (.iload 4, 2) := by decide +kernel
theorem dL_law_544 : decode cL_law 544 = .ok (.iconst 1, 1) := by decide +kernel
theorem dL_law_545 : decode cL_law 545 = .ok (.iadd, 1) := by decide +kernel
theorem dL_law_546 : decode cL_law 546 = .ok (.iaload, 1) := by decide +kernel
theorem dL_law_547 : decode cL_law 547 = .ok (.aload_n 0, 1) := by decide +kernel
theorem dL_law_548 : decode cL_law 548 = .ok (.iload 4, 2) := by decide +kernel
theorem dL_law_550 : decode cL_law 550 = .ok (.iconst 2, 1) := by decide +kernel
theorem dL_law_551 : decode cL_law 551 = .ok (.iadd, 1) := by decide +kernel
theorem dL_law_552 : decode cL_law 552 = .ok (.iaload, 1) := by decide +kernel
theorem dL_law_553 : decode cL_law 553 = .ok (.aload_n 0, 1) := by decide +kernel
theorem dL_law_554 : decode cL_law 554 = .ok (.iload 4, 2) := by decide +kernel
theorem dL_law_556 : decode cL_law 556 = .ok (.iconst 3, 1) := by decide +kernel
theorem dL_law_557 : decode cL_law 557 = .ok (.iadd, 1) := by decide +kernel
theorem dL_law_558 : decode cL_law 558 = .ok (.iaload, 1) := by decide +kernel
theorem dL_law_559 : decode cL_law 559 = .ok (.invokevirtual 100, 3) := by decide +kernel
theorem dL_law_562 : decode cL_law 562 = .ok (.istore 6, 2) := by decide +kernel
theorem dL_law_564 : decode cL_law 564 = .ok (.aload_n 2, 1) := by decide +kernel
theorem dL_law_565 : decode cL_law 565 = .ok (.invokevirtual 77, 3) := by decide +kernel
theorem dL_law_568 : decode cL_law 568 = .ok (.iload 5, 2) := by decide +kernel
theorem dL_law_570 : decode cL_law 570 = .ok (.if_icmp .eq 5, 3) := by decide +kernel
theorem dL_law_573 : decode cL_law 573 = .ok (.iconst 0, 1) := by decide +kernel
theorem dL_law_574 : decode cL_law 574 = .ok (.ireturn, 1) := by decide +kernel
theorem dL_law_575 : decode cL_law 575 = .ok (.iload 5, 2) := by decide +kernel
theorem dL_law_577 : decode cL_law 577 = .ok (.ifCond .ne 15, 3) := by decide +kernel
theorem dL_law_580 : decode cL_law 580 = .ok (.aload_n 3, 1) := by decide +kernel
theorem dL_law_581 : decode cL_law 581 = .ok (.iconst 0, 1) := by decide +kernel
theorem dL_law_582 : decode cL_law 582 = .ok (.laload, 1) := by decide +kernel
theorem dL_law_583 : decode cL_law 583 = .ok (.iload 6, 2) := by decide +kernel
theorem dL_law_585 : decode cL_law 585 = .ok (.i2l, 1) := by decide +kernel
theorem dL_law_586 : decode cL_law 586 = .ok (.lcmp, 1) := by decide +kernel
theorem dL_law_587 : decode cL_law 587 = .ok (.ifCond .eq 5, 3) := by decide +kernel
theorem dL_law_590 : decode cL_law 590 = .ok (.iconst 0, 1) := by decide +kernel
theorem dL_law_591 : decode cL_law 591 = .ok (.ireturn, 1) := by decide +kernel
theorem dL_law_592 : decode cL_law 592 = .ok (.goto 577, 3) := by decide +kernel
theorem dL_law_595 : decode cL_law 595 = .ok (.aload_n 1, 1) := by decide +kernel
theorem dL_law_596 : decode cL_law 596 = .ok (.aload_n 0, 1) := by decide +kernel
theorem dL_law_597 : decode cL_law 597 = .ok (.iload 4, 2) := by decide +kernel
theorem dL_law_599 : decode cL_law 599 = .ok (.iconst 1, 1) := by decide +kernel
theorem dL_law_600 : decode cL_law 600 = .ok (.iadd, 1) := by decide +kernel
theorem dL_law_601 : decode cL_law 601 = .ok (.iaload, 1) := by decide +kernel
theorem dL_law_602 : decode cL_law 602 = .ok (.aload_n 0, 1) := by decide +kernel
theorem dL_law_603 : decode cL_law 603 = .ok (.iload 4, 2) := by decide +kernel
theorem dL_law_605 : decode cL_law 605 = .ok (.iconst 2, 1) := by decide +kernel
theorem dL_law_606 : decode cL_law 606 = .ok (.iadd, 1) := by decide +kernel
theorem dL_law_607 : decode cL_law 607 = .ok (.iaload, 1) := by decide +kernel
theorem dL_law_608 : decode cL_law 608 = .ok (.aload_n 3, 1) := by decide +kernel
theorem dL_law_609 : decode cL_law 609 = .ok (.invokestatic 101, 3) := by decide +kernel
theorem dL_law_612 : decode cL_law 612 = .ok (.istore 5, 2) := by decide +kernel
theorem dL_law_614 : decode cL_law 614 = .ok (.aload_n 2, 1) := by decide +kernel
theorem dL_law_615 : decode cL_law 615 = .ok (.aload_n 0, 1) := by decide +kernel
theorem dL_law_616 : decode cL_law 616 = .ok (.iload 4, 2) := by decide +kernel
theorem dL_law_618 : decode cL_law 618 = .ok (.iconst 1, 1) := by decide +kernel
theorem dL_law_619 : decode cL_law 619 = .ok (.iadd, 1) := by decide +kernel
theorem dL_law_620 : decode cL_law 620 = .ok (.iaload, 1) := by decide +kernel
theorem dL_law_621 : decode cL_law 621 = .ok (.aload_n 0, 1) := by decide +kernel
theorem dL_law_622 : decode cL_law 622 = .ok (.iload 4, 2) := by decide +kernel
theorem dL_law_624 : decode cL_law 624 = .ok (.iconst 2, 1) := by decide +kernel
theorem dL_law_625 : decode cL_law 625 = .ok (.iadd, 1) := by decide +kernel
theorem dL_law_626 : decode cL_law 626 = .ok (.iaload, 1) := by decide +kernel
theorem dL_law_627 : decode cL_law 627 = .ok (.invokevirtual 103, 3) := by decide +kernel
theorem dL_law_630 : decode cL_law 630 = .ok (.istore 6, 2) := by decide +kernel
theorem dL_law_632 : decode cL_law 632 = .ok (.aload_n 2, 1) := by decide +kernel
theorem dL_law_633 : decode cL_law 633 = .ok (.invokevirtual 77, 3) := by decide +kernel
theorem dL_law_636 : decode cL_law 636 = .ok (.iload 5, 2) := by decide +kernel
theorem dL_law_638 : decode cL_law 638 = .ok (.if_icmp .eq 5, 3) := by decide +kernel
theorem dL_law_641 : decode cL_law 641 = .ok (.iconst 0, 1) := by decide +kernel
theorem dL_law_642 : decode cL_law 642 = .ok (.ireturn, 1) := by decide +kernel
theorem dL_law_643 : decode cL_law 643 = .ok (.iload 5, 2) := by decide +kernel
theorem dL_law_645 : decode cL_law 645 = .ok (.ifCond .ne 15, 3) := by decide +kernel
theorem dL_law_648 : decode cL_law 648 = .ok (.aload_n 3, 1) := by decide +kernel
theorem dL_law_649 : decode cL_law 649 = .ok (.iconst 0, 1) := by decide +kernel
theorem dL_law_650 : decode cL_law 650 = .ok (.laload, 1) := by decide +kernel
theorem dL_law_651 : decode cL_law 651 = .ok (.iload 6, 2) := by decide +kernel
theorem dL_law_653 : decode cL_law 653 = .ok (.i2l, 1) := by decide +kernel
theorem dL_law_654 : decode cL_law 654 = .ok (.lcmp, 1) := by decide +kernel
theorem dL_law_655 : decode cL_law 655 = .ok (.ifCond .eq 5, 3) := by decide +kernel
theorem dL_law_658 : decode cL_law 658 = .ok (.iconst 0, 1) := by decide +kernel
theorem dL_law_659 : decode cL_law 659 = .ok (.ireturn, 1) := by decide +kernel
theorem dL_law_660 : decode cL_law 660 = .ok (.goto 509, 3) := by decide +kernel
theorem dL_law_663 : decode cL_law 663 = .ok (.aload_n 1, 1) := by decide +kernel
theorem dL_law_664 : decode cL_law 664 = .ok (.aload_n 0, 1) := by decide +kernel
theorem dL_law_665 : decode cL_law 665 = .ok (.iload 4, 2) := by decide +kernel
theorem dL_law_667 : decode cL_law 667 = .ok (.iconst 1, 1) := by decide +kernel
theorem dL_law_668 : decode cL_law 668 = .ok (.iadd, 1) := by decide +kernel
theorem dL_law_669 : decode cL_law 669 = .ok (.iaload, 1) := by decide +kernel
theorem dL_law_670 : decode cL_law 670 = .ok (.aload_n 0, 1) := by decide +kernel
theorem dL_law_671 : decode cL_law 671 = .ok (.iload 4, 2) := by decide +kernel
theorem dL_law_673 : decode cL_law 673 = .ok (.iconst 2, 1) := by decide +kernel
theorem dL_law_674 : decode cL_law 674 = .ok (.iadd, 1) := by decide +kernel
theorem dL_law_675 : decode cL_law 675 = .ok (.iaload, 1) := by decide +kernel
theorem dL_law_676 : decode cL_law 676 = .ok (.invokestatic 104, 3) := by decide +kernel
theorem dL_law_679 : decode cL_law 679 = .ok (.istore 5, 2) := by decide +kernel
theorem dL_law_681 : decode cL_law 681 = .ok (.aload_n 2, 1) := by decide +kernel
theorem dL_law_682 : decode cL_law 682 = .ok (.aload_n 0, 1) := by decide +kernel
theorem dL_law_683 : decode cL_law 683 = .ok (.iload 4, 2) := by decide +kernel
theorem dL_law_685 : decode cL_law 685 = .ok (.iconst 1, 1) := by decide +kernel
theorem dL_law_686 : decode cL_law 686 = .ok (.iadd, 1) := by decide +kernel
theorem dL_law_687 : decode cL_law 687 = .ok (.iaload, 1) := by decide +kernel
theorem dL_law_688 : decode cL_law 688 = .ok (.aload_n 0, 1) := by decide +kernel
theorem dL_law_689 : decode cL_law 689 = .ok (.iload 4, 2) := by decide +kernel
theorem dL_law_691 : decode cL_law 691 = .ok (.iconst 2, 1) := by decide +kernel
theorem dL_law_692 : decode cL_law 692 = .ok (.iadd, 1) := by decide +kernel
theorem dL_law_693 : decode cL_law 693 = .ok (.iaload, 1) := by decide +kernel
theorem dL_law_694 : decode cL_law 694 = .ok (.invokevirtual 107, 3) := by decide +kernel
theorem dL_law_697 : decode cL_law 697 = .ok (.aload_n 2, 1) := by decide +kernel
theorem dL_law_698 : decode cL_law 698 = .ok (.invokevirtual 77, 3) := by decide +kernel
theorem dL_law_701 : decode cL_law 701 = .ok (.iload 5, 2) := by decide +kernel
theorem dL_law_703 : decode cL_law 703 = .ok (.if_icmp .eq 5, 3) := by decide +kernel
theorem dL_law_706 : decode cL_law 706 = .ok (.iconst 0, 1) := by decide +kernel
theorem dL_law_707 : decode cL_law 707 = .ok (.ireturn, 1) := by decide +kernel
theorem dL_law_708 : decode cL_law 708 = .ok (.goto 461, 3) := by decide +kernel
theorem dL_law_711 : decode cL_law 711 = .ok (.aload_n 1, 1) := by decide +kernel
theorem dL_law_712 : decode cL_law 712 = .ok (.aload_n 0, 1) := by decide +kernel
theorem dL_law_713 : decode cL_law 713 = .ok (.iload 4, 2) := by decide +kernel
theorem dL_law_715 : decode cL_law 715 = .ok (.iconst 1, 1) := by decide +kernel
theorem dL_law_716 : decode cL_law 716 = .ok (.iadd, 1) := by decide +kernel
theorem dL_law_717 : decode cL_law 717 = .ok (.iaload, 1) := by decide +kernel
theorem dL_law_718 : decode cL_law 718 = .ok (.aload_n 0, 1) := by decide +kernel
theorem dL_law_719 : decode cL_law 719 = .ok (.iload 4, 2) := by decide +kernel
theorem dL_law_721 : decode cL_law 721 = .ok (.iconst 2, 1) := by decide +kernel
theorem dL_law_722 : decode cL_law 722 = .ok (.iadd, 1) := by decide +kernel
theorem dL_law_723 : decode cL_law 723 = .ok (.iaload, 1) := by decide +kernel
theorem dL_law_724 : decode cL_law 724 = .ok (.aload_n 0, 1) := by decide +kernel
theorem dL_law_725 : decode cL_law 725 = .ok (.iload 4, 2) := by decide +kernel
theorem dL_law_727 : decode cL_law 727 = .ok (.iconst 3, 1) := by decide +kernel
theorem dL_law_728 : decode cL_law 728 = .ok (.iadd, 1) := by decide +kernel
theorem dL_law_729 : decode cL_law 729 = .ok (.iaload, 1) := by decide +kernel
theorem dL_law_730 : decode cL_law 730 = .ok (.aload_n 3, 1) := by decide +kernel
theorem dL_law_731 : decode cL_law 731 = .ok (.invokestatic 108, 3) := by decide +kernel
theorem dL_law_734 : decode cL_law 734 = .ok (.istore 5, 2) := by decide +kernel
theorem dL_law_736 : decode cL_law 736 = .ok (.aload_n 2, 1) := by decide +kernel
theorem dL_law_737 : decode cL_law 737 = .ok (.aload_n 0, 1) := by decide +kernel
theorem dL_law_738 : decode cL_law 738 = .ok (.iload 4, 2) := by decide +kernel
theorem dL_law_740 : decode cL_law 740 = .ok (.iconst 1, 1) := by decide +kernel
theorem dL_law_741 : decode cL_law 741 = .ok (.iadd, 1) := by decide +kernel
theorem dL_law_742 : decode cL_law 742 = .ok (.iaload, 1) := by decide +kernel
theorem dL_law_743 : decode cL_law 743 = .ok (.aload_n 0, 1) := by decide +kernel
theorem dL_law_744 : decode cL_law 744 = .ok (.iload 4, 2) := by decide +kernel
theorem dL_law_746 : decode cL_law 746 = .ok (.iconst 2, 1) := by decide +kernel
theorem dL_law_747 : decode cL_law 747 = .ok (.iadd, 1) := by decide +kernel
theorem dL_law_748 : decode cL_law 748 = .ok (.iaload, 1) := by decide +kernel
theorem dL_law_749 : decode cL_law 749 = .ok (.aload_n 0, 1) := by decide +kernel
theorem dL_law_750 : decode cL_law 750 = .ok (.iload 4, 2) := by decide +kernel
theorem dL_law_752 : decode cL_law 752 = .ok (.iconst 3, 1) := by decide +kernel
theorem dL_law_753 : decode cL_law 753 = .ok (.iadd, 1) := by decide +kernel
theorem dL_law_754 : decode cL_law 754 = .ok (.iaload, 1) := by decide +kernel
theorem dL_law_755 : decode cL_law 755 = .ok (.invokevirtual 110, 3) := by decide +kernel
theorem dL_law_758 : decode cL_law 758 = .ok (.lstore 6, 2) := by decide +kernel
theorem dL_law_760 : decode cL_law 760 = .ok (.aload_n 2, 1) := by decide +kernel
theorem dL_law_761 : decode cL_law 761 = .ok (.invokevirtual 77, 3) := by decide +kernel
theorem dL_law_764 : decode cL_law 764 = .ok (.iload 5, 2) := by decide +kernel
theorem dL_law_766 : decode cL_law 766 = .ok (.if_icmp .eq 5, 3) := by decide +kernel
theorem dL_law_769 : decode cL_law 769 = .ok (.iconst 0, 1) := by decide +kernel
theorem dL_law_770 : decode cL_law 770 = .ok (.ireturn, 1) := by decide +kernel
theorem dL_law_771 : decode cL_law 771 = .ok (.iload 5, 2) := by decide +kernel
theorem dL_law_773 : decode cL_law 773 = .ok (.ifCond .ne 14, 3) := by decide +kernel
theorem dL_law_776 : decode cL_law 776 = .ok (.aload_n 3, 1) := by decide +kernel
theorem dL_law_777 : decode cL_law 777 = .ok (.iconst 0, 1) := by decide +kernel
theorem dL_law_778 : decode cL_law 778 = .ok (.laload, 1) := by decide +kernel
theorem dL_law_779 : decode cL_law 779 = .ok (.lload 6, 2) := by decide +kernel
theorem dL_law_781 : decode cL_law 781 = .ok (.lcmp, 1) := by decide +kernel
theorem dL_law_782 : decode cL_law 782 = .ok (.ifCond .eq 5, 3) := by decide +kernel
theorem dL_law_785 : decode cL_law 785 = .ok (.iconst 0, 1) := by decide +kernel
theorem dL_law_786 : decode cL_law 786 = .ok (.ireturn, 1) := by decide +kernel
theorem dL_law_787 : decode cL_law 787 = .ok (.goto 382, 3) := by decide +kernel
theorem dL_law_790 : decode cL_law 790 = .ok (.aload_n 1, 1) := by decide +kernel
theorem dL_law_791 : decode cL_law 791 = .ok (.aload_n 0, 1) := by decide +kernel
theorem dL_law_792 : decode cL_law 792 = .ok (.iload 4, 2) := by decide +kernel
theorem dL_law_794 : decode cL_law 794 = .ok (.iconst 1, 1) := by decide +kernel
theorem dL_law_795 : decode cL_law 795 = .ok (.iadd, 1) := by decide +kernel
theorem dL_law_796 : decode cL_law 796 = .ok (.iaload, 1) := by decide +kernel
theorem dL_law_797 : decode cL_law 797 = .ok (.aload_n 0, 1) := by decide +kernel
theorem dL_law_798 : decode cL_law 798 = .ok (.iload 4, 2) := by decide +kernel
theorem dL_law_800 : decode cL_law 800 = .ok (.iconst 2, 1) := by decide +kernel
theorem dL_law_801 : decode cL_law 801 = .ok (.iadd, 1) := by decide +kernel
theorem dL_law_802 : decode cL_law 802 = .ok (.iaload, 1) := by decide +kernel
theorem dL_law_803 : decode cL_law 803 = .ok (.aload_n 0, 1) := by decide +kernel
theorem dL_law_804 : decode cL_law 804 = .ok (.iload 4, 2) := by decide +kernel
theorem dL_law_806 : decode cL_law 806 = .ok (.iconst 3, 1) := by decide +kernel
theorem dL_law_807 : decode cL_law 807 = .ok (.iadd, 1) := by decide +kernel
theorem dL_law_808 : decode cL_law 808 = .ok (.iaload, 1) := by decide +kernel
theorem dL_law_809 : decode cL_law 809 = .ok (.aload_n 0, 1) := by decide +kernel
theorem dL_law_810 : decode cL_law 810 = .ok (.iload 4, 2) := by decide +kernel
theorem dL_law_812 : decode cL_law 812 = .ok (.iconst 4, 1) := by decide +kernel
theorem dL_law_813 : decode cL_law 813 = .ok (.iadd, 1) := by decide +kernel
theorem dL_law_814 : decode cL_law 814 = .ok (.iaload, 1) := by decide +kernel
theorem dL_law_815 : decode cL_law 815 = .ok (.aload_n 3, 1) := by decide +kernel
theorem dL_law_816 : decode cL_law 816 = .ok (.invokestatic 111, 3) := by decide +kernel
theorem dL_law_819 : decode cL_law 819 = .ok (.istore 5, 2) := by decide +kernel
theorem dL_law_821 : decode cL_law 821 = .ok (.aload_n 2, 1) := by decide +kernel
theorem dL_law_822 : decode cL_law 822 = .ok (.aload_n 0, 1) := by decide +kernel
theorem dL_law_823 : decode cL_law 823 = .ok (.iload 4, 2) := by decide +kernel
theorem dL_law_825 : decode cL_law 825 = .ok (.iconst 1, 1) := by decide +kernel
theorem dL_law_826 : decode cL_law 826 = .ok (.iadd, 1) := by decide +kernel
theorem dL_law_827 : decode cL_law 827 = .ok (.iaload, 1) := by decide +kernel
theorem dL_law_828 : decode cL_law 828 = .ok (.aload_n 0, 1) := by decide +kernel
theorem dL_law_829 : decode cL_law 829 = .ok (.iload 4, 2) := by decide +kernel
theorem dL_law_831 : decode cL_law 831 = .ok (.iconst 2, 1) := by decide +kernel
theorem dL_law_832 : decode cL_law 832 = .ok (.iadd, 1) := by decide +kernel
theorem dL_law_833 : decode cL_law 833 = .ok (.iaload, 1) := by decide +kernel
theorem dL_law_834 : decode cL_law 834 = .ok (.aload_n 0, 1) := by decide +kernel
theorem dL_law_835 : decode cL_law 835 = .ok (.iload 4, 2) := by decide +kernel
theorem dL_law_837 : decode cL_law 837 = .ok (.iconst 3, 1) := by decide +kernel
theorem dL_law_838 : decode cL_law 838 = .ok (.iadd, 1) := by decide +kernel
theorem dL_law_839 : decode cL_law 839 = .ok (.iaload, 1) := by decide +kernel
theorem dL_law_840 : decode cL_law 840 = .ok (.aload_n 0, 1) := by decide +kernel
theorem dL_law_841 : decode cL_law 841 = .ok (.iload 4, 2) := by decide +kernel
theorem dL_law_843 : decode cL_law 843 = .ok (.iconst 4, 1) := by decide +kernel
theorem dL_law_844 : decode cL_law 844 = .ok (.iadd, 1) := by decide +kernel
theorem dL_law_845 : decode cL_law 845 = .ok (.iaload, 1) := by decide +kernel
theorem dL_law_846 : decode cL_law 846 = .ok (.invokevirtual 114, 3) := by decide +kernel
theorem dL_law_849 : decode cL_law 849 = .ok (.istore 6, 2) := by decide +kernel
theorem dL_law_851 : decode cL_law 851 = .ok (.aload_n 2, 1) := by decide +kernel
theorem dL_law_852 : decode cL_law 852 = .ok (.invokevirtual 77, 3) := by decide +kernel
theorem dL_law_855 : decode cL_law 855 = .ok (.iload 5, 2) := by decide +kernel
theorem dL_law_857 : decode cL_law 857 = .ok (.if_icmp .eq 5, 3) := by decide +kernel
theorem dL_law_860 : decode cL_law 860 = .ok (.iconst 0, 1) := by decide +kernel
theorem dL_law_861 : decode cL_law 861 = .ok (.ireturn, 1) := by decide +kernel
theorem dL_law_862 : decode cL_law 862 = .ok (.iload 5, 2) := by decide +kernel
theorem dL_law_864 : decode cL_law 864 = .ok (.ifCond .ne 15, 3) := by decide +kernel
theorem dL_law_867 : decode cL_law 867 = .ok (.aload_n 3, 1) := by decide +kernel
theorem dL_law_868 : decode cL_law 868 = .ok (.iconst 0, 1) := by decide +kernel
theorem dL_law_869 : decode cL_law 869 = .ok (.laload, 1) := by decide +kernel
theorem dL_law_870 : decode cL_law 870 = .ok (.iload 6, 2) := by decide +kernel
theorem dL_law_872 : decode cL_law 872 = .ok (.i2l, 1) := by decide +kernel
theorem dL_law_873 : decode cL_law 873 = .ok (.lcmp, 1) := by decide +kernel
theorem dL_law_874 : decode cL_law 874 = .ok (.ifCond .eq 5, 3) := by decide +kernel
theorem dL_law_877 : decode cL_law 877 = .ok (.iconst 0, 1) := by decide +kernel
theorem dL_law_878 : decode cL_law 878 = .ok (.ireturn, 1) := by decide +kernel
theorem dL_law_879 : decode cL_law 879 = .ok (.goto 290, 3) := by decide +kernel
theorem dL_law_882 : decode cL_law 882 = .ok (.aload_n 1, 1) := by decide +kernel
theorem dL_law_883 : decode cL_law 883 = .ok (.invokevirtual 115, 3) := by decide +kernel
theorem dL_law_886 : decode cL_law 886 = .ok (.aload_n 2, 1) := by decide +kernel
theorem dL_law_887 : decode cL_law 887 = .ok (.invokevirtual 118, 3) := by decide +kernel
theorem dL_law_890 : decode cL_law 890 = .ok (.if_icmp .eq 279, 3) := by decide +kernel
theorem dL_law_893 : decode cL_law 893 = .ok (.iconst 0, 1) := by decide +kernel
theorem dL_law_894 : decode cL_law 894 = .ok (.ireturn, 1) := by decide +kernel
theorem dL_law_895 : decode cL_law 895 = .ok (.aload_n 1, 1) := by decide +kernel
theorem dL_law_896 : decode cL_law 896 = .ok (.aload_n 0, 1) := by decide +kernel
theorem dL_law_897 : decode cL_law 897 = .ok (.iload 4, 2) := by decide +kernel
theorem dL_law_899 : decode cL_law 899 = .ok (.iconst 1, 1) := by decide +kernel
theorem dL_law_900 : decode cL_law 900 = .ok (.iadd, 1) := by decide +kernel
theorem dL_law_901 : decode cL_law 901 = .ok (.iaload, 1) := by decide +kernel
theorem dL_law_902 : decode cL_law 902 = .ok (.aload_n 3, 1) := by decide +kernel
theorem dL_law_903 : decode cL_law 903 = .ok (.invokestatic 119, 3) := by decide +kernel
theorem dL_law_906 : decode cL_law 906 = .ok (.istore 5, 2) := by decide +kernel
theorem dL_law_908 : decode cL_law 908 = .ok (.aload_n 2, 1) := by decide +kernel
theorem dL_law_909 : decode cL_law 909 = .ok (.aload_n 0, 1) := by decide +kernel
theorem dL_law_910 : decode cL_law 910 = .ok (.iload 4, 2) := by decide +kernel
theorem dL_law_912 : decode cL_law 912 = .ok (.iconst 1, 1) := by decide +kernel
theorem dL_law_913 : decode cL_law 913 = .ok (.iadd, 1) := by decide +kernel
theorem dL_law_914 : decode cL_law 914 = .ok (.iaload, 1) := by decide +kernel
theorem dL_law_915 : decode cL_law 915 = .ok (.invokevirtual 121, 3) := by decide +kernel
theorem dL_law_918 : decode cL_law 918 = .ok (.istore 6, 2) := by decide +kernel
theorem dL_law_920 : decode cL_law 920 = .ok (.aload_n 2, 1) := by decide +kernel
theorem dL_law_921 : decode cL_law 921 = .ok (.invokevirtual 77, 3) := by decide +kernel
theorem dL_law_924 : decode cL_law 924 = .ok (.iload 5, 2) := by decide +kernel
theorem dL_law_926 : decode cL_law 926 = .ok (.if_icmp .eq 5, 3) := by decide +kernel
theorem dL_law_929 : decode cL_law 929 = .ok (.iconst 0, 1) := by decide +kernel
theorem dL_law_930 : decode cL_law 930 = .ok (.ireturn, 1) := by decide +kernel
theorem dL_law_931 : decode cL_law 931 = .ok (.iload 5, 2) := by decide +kernel
theorem dL_law_933 : decode cL_law 933 = .ok (.ifCond .ne 15, 3) := by decide +kernel
theorem dL_law_936 : decode cL_law 936 = .ok (.aload_n 3, 1) := by decide +kernel
theorem dL_law_937 : decode cL_law 937 = .ok (.iconst 0, 1) := by decide +kernel
theorem dL_law_938 : decode cL_law 938 = .ok (.laload, 1) := by decide +kernel
theorem dL_law_939 : decode cL_law 939 = .ok (.iload 6, 2) := by decide +kernel
theorem dL_law_941 : decode cL_law 941 = .ok (.i2l, 1) := by decide +kernel
theorem dL_law_942 : decode cL_law 942 = .ok (.lcmp, 1) := by decide +kernel
theorem dL_law_943 : decode cL_law 943 = .ok (.ifCond .eq 5, 3) := by decide +kernel
theorem dL_law_946 : decode cL_law 946 = .ok (.iconst 0, 1) := by decide +kernel
theorem dL_law_947 : decode cL_law 947 = .ok (.ireturn, 1) := by decide +kernel
theorem dL_law_948 : decode cL_law 948 = .ok (.goto 221, 3) := by decide +kernel
theorem dL_law_951 : decode cL_law 951 = .ok (.aload_n 1, 1) := by decide +kernel
theorem dL_law_952 : decode cL_law 952 = .ok (.aload_n 0, 1) := by decide +kernel
theorem dL_law_953 : decode cL_law 953 = .ok (.iload 4, 2) := by decide +kernel
theorem dL_law_955 : decode cL_law 955 = .ok (.iconst 1, 1) := by decide +kernel
theorem dL_law_956 : decode cL_law 956 = .ok (.iadd, 1) := by decide +kernel
theorem dL_law_957 : decode cL_law 957 = .ok (.iaload, 1) := by decide +kernel
theorem dL_law_958 : decode cL_law 958 = .ok (.aload_n 3, 1) := by decide +kernel
theorem dL_law_959 : decode cL_law 959 = .ok (.invokestatic 122, 3) := by decide +kernel
theorem dL_law_962 : decode cL_law 962 = .ok (.istore 5, 2) := by decide +kernel
theorem dL_law_964 : decode cL_law 964 = .ok (.aload_n 2, 1) := by decide +kernel
theorem dL_law_965 : decode cL_law 965 = .ok (.aload_n 0, 1) := by decide +kernel
theorem dL_law_966 : decode cL_law 966 = .ok (.iload 4, 2) := by decide +kernel
theorem dL_law_968 : decode cL_law 968 = .ok (.iconst 1, 1) := by decide +kernel
theorem dL_law_969 : decode cL_law 969 = .ok (.iadd, 1) := by decide +kernel
theorem dL_law_970 : decode cL_law 970 = .ok (.iaload, 1) := by decide +kernel
theorem dL_law_971 : decode cL_law 971 = .ok (.invokevirtual 124, 3) := by decide +kernel
theorem dL_law_974 : decode cL_law 974 = .ok (.istore 6, 2) := by decide +kernel
theorem dL_law_976 : decode cL_law 976 = .ok (.aload_n 2, 1) := by decide +kernel
theorem dL_law_977 : decode cL_law 977 = .ok (.invokevirtual 77, 3) := by decide +kernel
theorem dL_law_980 : decode cL_law 980 = .ok (.iload 5, 2) := by decide +kernel
theorem dL_law_982 : decode cL_law 982 = .ok (.if_icmp .eq 5, 3) := by decide +kernel
theorem dL_law_985 : decode cL_law 985 = .ok (.iconst 0, 1) := by decide +kernel
theorem dL_law_986 : decode cL_law 986 = .ok (.ireturn, 1) := by decide +kernel
theorem dL_law_987 : decode cL_law 987 = .ok (.iload 5, 2) := by decide +kernel
theorem dL_law_989 : decode cL_law 989 = .ok (.ifCond .ne 15, 3) := by decide +kernel
theorem dL_law_992 : decode cL_law 992 = .ok (.aload_n 3, 1) := by decide +kernel
theorem dL_law_993 : decode cL_law 993 = .ok (.iconst 0, 1) := by decide +kernel
theorem dL_law_994 : decode cL_law 994 = .ok (.laload, 1) := by decide +kernel
theorem dL_law_995 : decode cL_law 995 = .ok (.iload 6, 2) := by decide +kernel
theorem dL_law_997 : decode cL_law 997 = .ok (.i2l, 1) := by decide +kernel
theorem dL_law_998 : decode cL_law 998 = .ok (.lcmp, 1) := by decide +kernel
theorem dL_law_999 : decode cL_law 999 = .ok (.ifCond .eq 5, 3) := by decide +kernel
theorem dL_law_1002 : decode cL_law 1002 = .ok (.iconst 0, 1) := by decide +kernel
theorem dL_law_1003 : decode cL_law 1003 = .ok (.ireturn, 1) := by decide +kernel
theorem dL_law_1004 : decode cL_law 1004 = .ok (.goto 165, 3) := by decide +kernel
theorem dL_law_1007 : decode cL_law 1007 = .ok (.aload_n 1, 1) := by decide +kernel
theorem dL_law_1008 : decode cL_law 1008 = .ok (.aload_n 0, 1) := by decide +kernel
theorem dL_law_1009 : decode cL_law 1009 = .ok (.iload 4, 2) := by decide +kernel
theorem dL_law_1011 : decode cL_law 1011 = .ok (.iconst 1, 1) := by decide +kernel
theorem dL_law_1012 : decode cL_law 1012 = .ok (.iadd, 1) := by decide +kernel
theorem dL_law_1013 : decode cL_law 1013 = .ok (.iaload, 1) := by decide +kernel
theorem dL_law_1014 : decode cL_law 1014 = .ok (.aload_n 0, 1) := by decide +kernel
theorem dL_law_1015 : decode cL_law 1015 = .ok (.iload 4, 2) := by decide +kernel
theorem dL_law_1017 : decode cL_law 1017 = .ok (.iconst 2, 1) := by decide +kernel
theorem dL_law_1018 : decode cL_law 1018 = .ok (.iadd, 1) := by decide +kernel
theorem dL_law_1019 : decode cL_law 1019 = .ok (.iaload, 1) := by decide +kernel
theorem dL_law_1020 : decode cL_law 1020 = .ok (.aload_n 3, 1) := by decide +kernel
theorem dL_law_1021 : decode cL_law 1021 = .ok (.invokestatic 125, 3) := by decide +kernel
theorem dL_law_1024 : decode cL_law 1024 = .ok (.istore 5, 2) := by decide +kernel
theorem dL_law_1026 : decode cL_law 1026 = .ok (.aload_n 2, 1) := by decide +kernel
theorem dL_law_1027 : decode cL_law 1027 = .ok (.aload_n 0, 1) := by decide +kernel
theorem dL_law_1028 : decode cL_law 1028 = .ok (.iload 4, 2) := by decide +kernel
theorem dL_law_1030 : decode cL_law 1030 = .ok (.iconst 1, 1) := by decide +kernel
theorem dL_law_1031 : decode cL_law 1031 = .ok (.iadd, 1) := by decide +kernel
theorem dL_law_1032 : decode cL_law 1032 = .ok (.iaload, 1) := by decide +kernel
theorem dL_law_1033 : decode cL_law 1033 = .ok (.aload_n 0, 1) := by decide +kernel
theorem dL_law_1034 : decode cL_law 1034 = .ok (.iload 4, 2) := by decide +kernel
theorem dL_law_1036 : decode cL_law 1036 = .ok (.iconst 2, 1) := by decide +kernel
theorem dL_law_1037 : decode cL_law 1037 = .ok (.iadd, 1) := by decide +kernel
theorem dL_law_1038 : decode cL_law 1038 = .ok (.iaload, 1) := by decide +kernel
theorem dL_law_1039 : decode cL_law 1039 = .ok (.invokevirtual 127, 3) := by decide +kernel
theorem dL_law_1042 : decode cL_law 1042 = .ok (.istore 6, 2) := by decide +kernel
theorem dL_law_1044 : decode cL_law 1044 = .ok (.aload_n 2, 1) := by decide +kernel
theorem dL_law_1045 : decode cL_law 1045 = .ok (.invokevirtual 77, 3) := by decide +kernel
theorem dL_law_1048 : decode cL_law 1048 = .ok (.iload 5, 2) := by decide +kernel
theorem dL_law_1050 : decode cL_law 1050 = .ok (.if_icmp .eq 5, 3) := by decide +kernel
theorem dL_law_1053 : decode cL_law 1053 = .ok (.iconst 0, 1) := by decide +kernel
theorem dL_law_1054 : decode cL_law 1054 = .ok (.ireturn, 1) := by decide +kernel
theorem dL_law_1055 : decode cL_law 1055 = .ok (.iload 5, 2) := by decide +kernel
theorem dL_law_1057 : decode cL_law 1057 = .ok (.ifCond .ne 15, 3) := by decide +kernel
theorem dL_law_1060 : decode cL_law 1060 = .ok (.aload_n 3, 1) := by decide +kernel
theorem dL_law_1061 : decode cL_law 1061 = .ok (.iconst 0, 1) := by decide +kernel
theorem dL_law_1062 : decode cL_law 1062 = .ok (.laload, 1) := by decide +kernel
theorem dL_law_1063 : decode cL_law 1063 = .ok (.iload 6, 2) := by decide +kernel
theorem dL_law_1065 : decode cL_law 1065 = .ok (.i2l, 1) := by decide +kernel
theorem dL_law_1066 : decode cL_law 1066 = .ok (.lcmp, 1) := by decide +kernel
theorem dL_law_1067 : decode cL_law 1067 = .ok (.ifCond .eq 5, 3) := by decide +kernel
theorem dL_law_1070 : decode cL_law 1070 = .ok (.iconst 0, 1) := by decide +kernel
theorem dL_law_1071 : decode cL_law 1071 = .ok (.ireturn, 1) := by decide +kernel
theorem dL_law_1072 : decode cL_law 1072 = .ok (.goto 97, 3) := by decide +kernel
theorem dL_law_1075 : decode cL_law 1075 = .ok (.aload_n 1, 1) := by decide +kernel
theorem dL_law_1076 : decode cL_law 1076 = .ok (.aload_n 0, 1) := by decide +kernel
theorem dL_law_1077 : decode cL_law 1077 = .ok (.iload 4, 2) := by decide +kernel
theorem dL_law_1079 : decode cL_law 1079 = .ok (.iconst 1, 1) := by decide +kernel
theorem dL_law_1080 : decode cL_law 1080 = .ok (.iadd, 1) := by decide +kernel
theorem dL_law_1081 : decode cL_law 1081 = .ok (.iaload, 1) := by decide +kernel
theorem dL_law_1082 : decode cL_law 1082 = .ok (.aload_n 3, 1) := by decide +kernel
theorem dL_law_1083 : decode cL_law 1083 = .ok (.invokestatic 128, 3) := by decide +kernel
theorem dL_law_1086 : decode cL_law 1086 = .ok (.istore 5, 2) := by decide +kernel
theorem dL_law_1088 : decode cL_law 1088 = .ok (.aload_n 2, 1) := by decide +kernel
theorem dL_law_1089 : decode cL_law 1089 = .ok (.aload_n 0, 1) := by decide +kernel
theorem dL_law_1090 : decode cL_law 1090 = .ok (.iload 4, 2) := by decide +kernel
theorem dL_law_1092 : decode cL_law 1092 = .ok (.iconst 1, 1) := by decide +kernel
theorem dL_law_1093 : decode cL_law 1093 = .ok (.iadd, 1) := by decide +kernel
theorem dL_law_1094 : decode cL_law 1094 = .ok (.iaload, 1) := by decide +kernel
theorem dL_law_1095 : decode cL_law 1095 = .ok (.invokevirtual 130, 3) := by decide +kernel
theorem dL_law_1098 : decode cL_law 1098 = .ok (.istore 6, 2) := by decide +kernel
theorem dL_law_1100 : decode cL_law 1100 = .ok (.aload_n 2, 1) := by decide +kernel
theorem dL_law_1101 : decode cL_law 1101 = .ok (.invokevirtual 77, 3) := by decide +kernel
theorem dL_law_1104 : decode cL_law 1104 = .ok (.iload 5, 2) := by decide +kernel
theorem dL_law_1106 : decode cL_law 1106 = .ok (.if_icmp .eq 5, 3) := by decide +kernel
theorem dL_law_1109 : decode cL_law 1109 = .ok (.iconst 0, 1) := by decide +kernel
theorem dL_law_1110 : decode cL_law 1110 = .ok (.ireturn, 1) := by decide +kernel
theorem dL_law_1111 : decode cL_law 1111 = .ok (.iload 5, 2) := by decide +kernel
theorem dL_law_1113 : decode cL_law 1113 = .ok (.ifCond .ne 15, 3) := by decide +kernel
theorem dL_law_1116 : decode cL_law 1116 = .ok (.aload_n 3, 1) := by decide +kernel
theorem dL_law_1117 : decode cL_law 1117 = .ok (.iconst 0, 1) := by decide +kernel
theorem dL_law_1118 : decode cL_law 1118 = .ok (.laload, 1) := by decide +kernel
theorem dL_law_1119 : decode cL_law 1119 = .ok (.iload 6, 2) := by decide +kernel
theorem dL_law_1121 : decode cL_law 1121 = .ok (.i2l, 1) := by decide +kernel
theorem dL_law_1122 : decode cL_law 1122 = .ok (.lcmp, 1) := by decide +kernel
theorem dL_law_1123 : decode cL_law 1123 = .ok (.ifCond .eq 5, 3) := by decide +kernel
theorem dL_law_1126 : decode cL_law 1126 = .ok (.iconst 0, 1) := by decide +kernel
theorem dL_law_1127 : decode cL_law 1127 = .ok (.ireturn, 1) := by decide +kernel
theorem dL_law_1128 : decode cL_law 1128 = .ok (.goto 41, 3) := by decide +kernel
theorem dL_law_1131 : decode cL_law 1131 = .ok (.aload_n 1, 1) := by decide +kernel
theorem dL_law_1132 : decode cL_law 1132 = .ok (.invokevirtual 131, 3) := by decide +kernel
theorem dL_law_1135 : decode cL_law 1135 = .ok (.aload_n 2, 1) := by decide +kernel
theorem dL_law_1136 : decode cL_law 1136 = .ok (.invokevirtual 134, 3) := by decide +kernel
theorem dL_law_1139 : decode cL_law 1139 = .ok (.if_icmp .eq 30, 3) := by decide +kernel
theorem dL_law_1142 : decode cL_law 1142 = .ok (.iconst 0, 1) := by decide +kernel
theorem dL_law_1143 : decode cL_law 1143 = .ok (.ireturn, 1) := by decide +kernel
theorem dL_law_1144 : decode cL_law 1144 = .ok (.aload_n 1, 1) := by decide +kernel
theorem dL_law_1145 : decode cL_law 1145 = .ok (.aload_n 0, 1) := by decide +kernel
theorem dL_law_1146 : decode cL_law 1146 = .ok (.iload 4, 2) := by decide +kernel
theorem dL_law_1148 : decode cL_law 1148 = .ok (.iconst 1, 1) := by decide +kernel
theorem dL_law_1149 : decode cL_law 1149 = .ok (.iadd, 1) := by decide +kernel
theorem dL_law_1150 : decode cL_law 1150 = .ok (.iaload, 1) := by decide +kernel
theorem dL_law_1151 : decode cL_law 1151 = .ok (.invokevirtual 135, 3) := by decide +kernel
theorem dL_law_1154 : decode cL_law 1154 = .ok (.aload_n 2, 1) := by decide +kernel
theorem dL_law_1155 : decode cL_law 1155 = .ok (.aload_n 0, 1) := by decide +kernel
theorem dL_law_1156 : decode cL_law 1156 = .ok (.iload 4, 2) := by decide +kernel
theorem dL_law_1158 : decode cL_law 1158 = .ok (.iconst 1, 1) := by decide +kernel
theorem dL_law_1159 : decode cL_law 1159 = .ok (.iadd, 1) := by decide +kernel
theorem dL_law_1160 : decode cL_law 1160 = .ok (.iaload, 1) := by decide +kernel
theorem dL_law_1161 : decode cL_law 1161 = .ok (.invokevirtual 138, 3) := by decide +kernel
theorem dL_law_1164 : decode cL_law 1164 = .ok (.if_icmp .eq 5, 3) := by decide +kernel
theorem dL_law_1167 : decode cL_law 1167 = .ok (.iconst 0, 1) := by decide +kernel
theorem dL_law_1168 : decode cL_law 1168 = .ok (.ireturn, 1) := by decide +kernel
theorem dL_law_1169 : decode cL_law 1169 = .ok (.iinc 4 5, 3) := by decide +kernel
theorem dL_law_1172 : decode cL_law 1172 = .ok (.goto (-1149), 3) := by decide +kernel
theorem dL_law_1175 : decode cL_law 1175 = .ok (.iconst 1, 1) := by decide +kernel
theorem dL_law_1176 : decode cL_law 1176 = .ok (.ireturn, 1) := by decide +kernel
end
section
/-! a state of one side: its ints, its longs, its rows; the world that holds it; contracts over it -/
abbrev St : Type := (Nat → Int32) × (Nat → Int64) × (Nat → Nat → Int32)
def sI (S : St) (k : Nat) (v : Int32) : St := (upd S.1 k v, S.2)
def sJ (S : St) (k : Nat) (v : Int64) : St := (S.1, vp_updL S.2.1 k v, S.2.2)
def sR (S : St) (k : Nat) (f : Nat → Int32) : St := (S.1, S.2.1, fun j => if j = k then f else S.2.2 j)
def cw (a : Nat → Nat) (c : Nat → ClassId) (S : St) : va_W := [(a 0, .inr (5, [.ref (a 1), .ref (a 2), .ref (a 3), .ref (a 4), .ref (a 5)])),
  (a 1, .inr (3, [.ref (a 6), .ref (a 7), .ref (a 8), .int (S.1 0)])),
  (a 2, .inr (0, [.ref (a 9), .ref (a 10), .ref (a 11), .ref (a 12), .ref (a 13), .int (S.1 1), .int (S.1 2)])),
  (a 3, .inr (4, [.ref (a 2), .ref (a 14), .ref (a 15), .int (S.1 3), .int (S.1 4)])),
  (a 4, .inr (2, [.ref (a 16), .ref (a 17), .int (S.1 5), .int (S.1 6), .int (S.1 7), .ref (a 18), .ref (a 19), .int (S.1 8), .int (S.1 9), .ref (a 20), .ref (a 21), .int (S.1 10), .long (S.2.1 0), .int (S.1 11), .int (S.1 12)])),
  (a 5, .inr (1, [.ref (a 22), .ref (a 23), .int (S.1 13)])),
  (a 6, .inl (c 0, 6, .inl (S.2.2 0))),
  (a 7, .inl (c 1, 6, .inl (S.2.2 1))),
  (a 8, .inl (c 2, 6, .inl (S.2.2 2))),
  (a 9, .inl (c 3, 6, .inl (S.2.2 3))),
  (a 10, .inl (c 4, 150, .inl (S.2.2 4))),
  (a 11, .inl (c 5, 150, .inl (S.2.2 5))),
  (a 12, .inl (c 6, 900, .inl (S.2.2 6))),
  (a 13, .inl (c 7, 4, .inl (S.2.2 7))),
  (a 14, .inl (c 8, 8, .inl (S.2.2 8))),
  (a 15, .inl (c 9, 8, .inl (S.2.2 9))),
  (a 16, .inl (c 10, 4, .inl (S.2.2 10))),
  (a 17, .inl (c 11, 4, .inl (S.2.2 11))),
  (a 18, .inl (c 12, 1001, .inl (S.2.2 12))),
  (a 19, .inl (c 13, 1001, .inl (S.2.2 13))),
  (a 20, .inl (c 14, 4, .inl (S.2.2 14))),
  (a 21, .inl (c 15, 4, .inl (S.2.2 15))),
  (a 22, .inl (c 16, 60, .inl (S.2.2 16))),
  (a 23, .inl (c 17, 4, .inl (S.2.2 17)))]
def cty (c : Nat → ClassId) : List (ClassId × FieldType) := [(c 0, .int), (c 1, .int), (c 2, .int), (c 3, .int), (c 4, .int), (c 5, .boolean), (c 6, .int), (c 7, .int), (c 8, .int), (c 9, .int), (c 10, .int), (c 11, .int), (c 12, .int), (c 13, .int), (c 14, .int), (c 15, .int), (c 16, .int), (c 17, .int)]
def mw (a : Nat → Nat) (c : Nat → ClassId) (S : St) : va_W := [(a 0, .inr (6, [.int (S.1 0), .ref (a 1), .ref (a 2), .ref (a 3), .int (S.1 1), .ref (a 4), .ref (a 5), .ref (a 6), .int (S.1 2), .int (S.1 3), .int (S.1 4), .long (S.2.1 0), .long (S.2.1 1), .ref (a 7), .int (S.1 5), .int (S.1 6), .int (S.1 7), .ref (a 8), .ref (a 9), .int (S.1 8), .int (S.1 9), .int (S.1 10), .ref (a 10), .ref (a 11), .long (S.2.1 2), .int (S.1 11), .int (S.1 12), .ref (a 12), .ref (a 13), .int (S.1 13), .ref (a 14), .int (S.1 14), .int (S.1 15), .int (S.1 16), .int (S.1 17), .int (S.1 18)])),
  (a 1, .inl (c 0, 6, .inl (S.2.2 0))),
  (a 2, .inl (c 1, 6, .inl (S.2.2 1))),
  (a 3, .inl (c 2, 6, .inl (S.2.2 2))),
  (a 4, .inl (c 3, 150, .inl (S.2.2 3))),
  (a 5, .inl (c 4, 900, .inl (S.2.2 4))),
  (a 6, .inl (c 5, 150, .inl (S.2.2 5))),
  (a 7, .inl (c 6, 5, .inl (S.2.2 6))),
  (a 8, .inl (c 7, 4, .inl (S.2.2 7))),
  (a 9, .inl (c 8, 4, .inl (S.2.2 8))),
  (a 10, .inl (c 9, 4, .inl (S.2.2 9))),
  (a 11, .inl (c 10, 4, .inl (S.2.2 10))),
  (a 12, .inl (c 11, 6, .inl (S.2.2 11))),
  (a 13, .inl (c 12, 6, .inl (S.2.2 12))),
  (a 14, .inl (c 13, 60, .inl (S.2.2 13)))]
def mty (c : Nat → ClassId) : List (ClassId × FieldType) := [(c 0, .int), (c 1, .int), (c 2, .int), (c 3, .int), (c 4, .int), (c 5, .boolean), (c 6, .int), (c 7, .int), (c 8, .int), (c 9, .int), (c 10, .int), (c 11, .int), (c 12, .int), (c 13, .int)]
def cns : List Cond := [.fieldLinkNest RX5 132 "CanteenPlan$Menu" "ladleOf" "[I" "CanteenPlan",
  .fieldLinkNest RX5 50 "CanteenPlan$Menu" "meals" "I" "CanteenPlan",
  .fieldLinkNest RX4 62 "CanteenPlan$Diary" "marksOf" "[I" "CanteenPlan",
  .fieldLinkNest RX5 72 "CanteenPlan$Diary" "inAll" "I" "CanteenPlan",
  .fieldLinkNest RX2 46 "CanteenPlan$Diary" "inAll" "I" "CanteenPlan",
  .fieldLinkNest RX4 53 "CanteenPlan$Diary" "inAll" "I" "CanteenPlan",
  .fieldLinkNest RX5 153 "CanteenPlan$Diary" "away" "I" "CanteenPlan",
  .fieldLinkNest RX5 103 "CanteenPlan$Kitchen" "sizes" "I" "CanteenPlan",
  .fieldLinkNest RX5 109 "CanteenPlan$Kitchen" "waste" "I" "CanteenPlan",
  .fieldLinkNest RX5 112 "CanteenPlan$Kitchen" "want" "I" "CanteenPlan",
  .fieldLinkNest RX5 164 "CanteenPlan$Kitchen" "days" "I" "CanteenPlan",
  .fieldLinkNest RX5 119 "CanteenPlan$Kitchen" "bestCost" "J" "CanteenPlan",
  .fieldLinkNest RX5 136 "CanteenPlan$Hatch" "minutes" "I" "CanteenPlan",
  .methodLinkNest RX5 9 yX3_init "CanteenPlan",
  .methodLinkNest RX5 18 yX0_init "CanteenPlan",
  .methodLinkNest RX5 25 yX4_init "CanteenPlan",
  .methodLinkNest RX5 34 yX2_init "CanteenPlan",
  .methodLinkNest RX5 41 yX1_init "CanteenPlan",
  .methodLinkNest RX5 128 yX3_deal "CanteenPlan",
  .methodLinkNest RX5 150 yX1_clear "CanteenPlan",
  .methodLinkNest RX5 61 yX3_add "CanteenPlan",
  .methodLinkNest RX5 69 yX0_tell "CanteenPlan",
  .methodLinkNest RX5 77 yX0_add "CanteenPlan",
  .methodLinkNest RX5 85 yX0_takeAway "CanteenPlan",
  .methodLinkNest RX5 89 yX4_leavesBelow "CanteenPlan",
  .methodLinkNest RX4 58 yX0_isInKnot "CanteenPlan",
  .methodLinkNest RX4 65 yX0_eatenOn "CanteenPlan",
  .methodLinkNest RX5 93 yX4_markOnTheWay "CanteenPlan",
  .methodLinkNest RX5 97 yX4_askedOnTheWay "CanteenPlan",
  .methodLinkNest RX5 100 yX0_factOf "CanteenPlan",
  .methodLinkNest RX5 108 yX2_add "CanteenPlan",
  .methodLinkNest RX5 160 yX2_readLeaf "CanteenPlan",
  .methodLinkNest RX2 51 yX0_isInKnot "CanteenPlan",
  .methodLinkNest RX2 55 yX0_eatenOn "CanteenPlan",
  .methodLinkNest RX5 167 yX2_findBest "CanteenPlan",
  .methodLinkNest RX5 125 yX2_bestPotsOf "CanteenPlan",
  .methodLinkNest RX5 139 yX1_add "CanteenPlan",
  .methodLinkNest RX5 140 yX1_factOf "CanteenPlan",
  .methodLinkNest RX5 147 yX1_leastServed "CanteenPlan"]
def mns : List Cond := []
def gN (ns : List Cond) (U : State) : Prop := ∀ w ∈ ns, va_Nw w U
def gNest : Cond → Bool
  | .fieldLinkNest .. => true
  | .methodLinkNest .. => true
  | _ => false
theorem gN.warm {ns : List Cond} (hn : ns.all gNest = true) {s U : State} (hW : s.WarmedH U.vm) (h : gN ns s) : gN ns U := by
  intro w hw
  have h1 := List.all_eq_true.mp hn w hw
  have h2 := h w hw
  cases w <;> first | exact va_Nw.warmF hW h2 | exact va_Nw.warmM hW h2 | (exact Bool.noConfusion h1)
theorem gN.same {ns : List Cond} (hn : ns.all gNest = true) {s U : State} (hv : s.vm = U.vm) (h : gN ns s) : gN ns U := by
  intro w hw
  have h1 := List.all_eq_true.mp hn w hw
  have h2 := h w hw
  cases w <;> first | exact va_Nw.same rfl hv h2 | (exact Bool.noConfusion h1)
theorem cns_ok : cns.all gNest = true := by decide +kernel
theorem mns_ok : mns.all gNest = true := by decide +kernel
def gF (w : St → va_W) : Prop := ∀ S S', (w S).map Prod.fst = (w S').map Prod.fst
theorem cw_F {a : Nat → Nat} {c : Nat → ClassId} : gF (cw a c) := fun _ _ => rfl
theorem mw_F {a : Nat → Nat} {c : Nat → ClassId} : gF (mw a c) := fun _ _ => rfl
theorem gD {w : St → va_W} (hF : gF w) {A : Nat → Prop} {S : St} (h : va_D A (w S)) (S' : St) : va_D A (w S') := by
  have key : ∀ (k : Nat) (q : Nat × va_E), (w S')[k]? = some q → ∃ q0, (w S)[k]? = some q0 ∧ q0.1 = q.1 := by
    intro k q hk
    have e : ((w S').map Prod.fst)[k]? = some q.1 := by rw [List.getElem?_map, hk]; rfl
    rw [← hF S S', List.getElem?_map, Option.map_eq_some_iff] at e
    exact e
  refine ⟨fun i j p q hi hj hpq => ?_, fun k q hk => ?_⟩
  · obtain ⟨p0, h1, e1⟩ := key i p hi
    obtain ⟨q0, h2, e2⟩ := key j q hj
    exact h.1 i j p0 q0 h1 h2 (by rw [e1, e2, hpq])
  · obtain ⟨q0, h1, e1⟩ := key k q hk
    rw [← e1]
    exact h.2 k q0 h1
def gP (D : va_G) (w : St → va_W) (tys : List (ClassId × FieldType)) (ns : List Cond) (S : St) (sz : Nat) (U : State) : Prop :=
  U.heap.size = sz ∧ va_P D vwCl (w S) U.heap ∧ va_K D vwCl tys U ∧ va_D (fun _ => True) (w S) ∧ gN ns U
def gB (D : va_G) (w : St → va_W) (S : St) (t : State) : Prop := va_P D vwCl (w S) t.heap
theorem gP.blind {D : va_G} {w : St → va_W} {tys : List (ClassId × FieldType)} {ns : List Cond} (hn : ns.all gNest = true) {S : St} {sz : Nat} {As : List Value} : FrameBlind (va_Pc As (gP D w tys ns S sz)) := fun a U g mk q => by
  obtain ⟨q0, q1, qP, qK, qD, qN⟩ := q
  exact ⟨q0, q1, qP, va_K.moved (u := U) (U := U.calling g mk a) (Vm.Alike.refl U.vm) qK, qD, gN.same (s := U) (U := U.calling g mk a) hn rfl qN⟩
theorem gP.of {D : va_G} {w : St → va_W} {tys : List (ClassId × FieldType)} {ns : List Cond} (hn : ns.all gNest = true) {S : St} {H : Heap} {s U : State} {A : Nat → Prop} (hU : U.heap = H) (hW : s.WarmedH U.vm) (hP : va_P D vwCl (w S) H) (hK : va_K D vwCl tys s) (hD : va_D A (w S)) (hN : gN ns s) : gP D w tys ns S H.size U :=
  ⟨by rw [hU], by rw [hU]; exact hP, va_K.moved hW.alike hK, hD.weaken (fun _ _ _ _ => trivial), hN.warm hn hW⟩
theorem gFree {w : St → va_W} {S : St} {A : Nat → Prop} {H0 H : Heap} {locs : List Loc} (hS : va_S A H0 H locs) (hD : va_D A (w S)) (hA : ∀ q, H0.size ≤ q → A q) : ∀ q, va_A (w S) H.size q → A q := fun q h => h.elim (fun ⟨k, e, hk⟩ => hD.2 k (q, e) hk) (fun h => hA q (Nat.le_trans hS.1 h))
section GR
variable {p : Program} {l : Launch} {e : Env} {R : Room} {s : State} {m : MethodId} {args : Array Value} {below : List Frame} {meth : Method} {c : Code} {H : Heap} {locs : List Loc} {cells slots : Nat} {Q : State → Prop}
variable {y : MethodName} {bytes cc : ByteArray} {maxL nL n index : Nat} {ret : Option FieldType} {ws : List Cond} {rm : Room} {Qc : Array Value → State → Outcome → State → Prop} {Ts : List Cond} {own C host : String} {b : Addr} {As rest st0 : List Value} {g : JFrame} {pc : Nat} {ls : Array Slot} {a : Array Value}
variable {D : va_G} {w : St → va_W} {tys : List (ClassId × FieldType)} {ns : List Cond} {S : St} {A : Nat → Prop} {H0 : Heap}
theorem k_runV (hn : ns.all gNest = true) (S0 : CallFix p m c cc nL s args Ts own) (hM : Met l y ws rm (va_Pc (.ref b :: As) (gP D w tys ns S H.size)) Qc 0 0 (va_A (w S) H.size)) (cw : CallW R s args own C index y bytes maxL ret ws rm 0 0 n)
    (hrc : ∃ cell : Cell, H[b]? = some cell ∧ cell.vm.isStatics = false ∧ s.vm.findClass C = some cell.cls) (hP : va_P D vwCl (w S) H) (hK : va_K D vwCl tys s) (hD : va_D A (w S)) (hN : gN ns s)
    (hg : g.method = m) (hl : As.length = n) (hsize : g.locals.size = nL) (hstack : g.stack = As.reverse ++ .ref b :: rest) (hW : 2 * g.monitorRoom + (rest.map fun v => v.category).sum ≤ 8) (hdg : decode cc g.pc = .ok (.invokevirtual index, 3)) (hf : cells + 0 ≤ R.cells ∧ slots + 0 ≤ R.slots) :
    va_Run p l e R s m args below meth c H locs cells slots 0 0 g rest (Qc (Value.ref b :: As).toArray) (va_A (w S) H.size) :=
  va_runV S0 hM cw ⟨gP.blind hn, hrc, fun U hU hW => ⟨rfl, gP.of hn hU hW hP hK hD hN⟩⟩ hg hl hsize hstack hW hdg hf
theorem k_runVN (hn : ns.all gNest = true) (S0 : CallFix p m c cc nL s args Ts own) (hM : Met l y ws rm (va_Pc (.ref b :: As) (gP D w tys ns S H.size)) Qc 0 0 (va_A (w S) H.size)) (cw : va_CN R s args own index y host bytes maxL ret ws rm 0 0 n ∧ (Cond.instanceMethod y).before args s = true ∧ (Cond.selects C y y).before args s = true)
    (hrc : ∃ cell : Cell, H[b]? = some cell ∧ cell.vm.isStatics = false ∧ s.vm.findClass C = some cell.cls) (hP : va_P D vwCl (w S) H) (hK : va_K D vwCl tys s) (hD : va_D A (w S)) (hN : gN ns s)
    (hg : g.method = m) (hl : As.length = n) (hsize : g.locals.size = nL) (hstack : g.stack = As.reverse ++ .ref b :: rest) (hW : 2 * g.monitorRoom + (rest.map fun v => v.category).sum ≤ 8) (hdg : decode cc g.pc = .ok (.invokevirtual index, 3)) (hf : cells + 0 ≤ R.cells ∧ slots + 0 ≤ R.slots) :
    va_Run p l e R s m args below meth c H locs cells slots 0 0 g rest (Qc (Value.ref b :: As).toArray) (va_A (w S) H.size) :=
  va_runVN S0 hM cw ⟨gP.blind hn, hrc, fun U hU hW => ⟨rfl, gP.of hn hU hW hP hK hD hN⟩⟩ hg hl hsize hstack hW hdg hf
theorem k_runS (hn : ns.all gNest = true) (S0 : CallFix p m c cc nL s args Ts own) (hM : Met l y ws rm (va_Pc As (gP D w tys ns S H.size)) Qc 0 0 (va_A (w S) H.size)) (cw : CallB R s args own index y bytes maxL ret ws rm 0 0 n ∧ (Cond.static y).before args s = true)
    (hP : va_P D vwCl (w S) H) (hK : va_K D vwCl tys s) (hD : va_D A (w S)) (hN : gN ns s)
    (hg : g.method = m) (hl : As.length = n) (hsize : g.locals.size = nL) (hstack : g.stack = As.reverse ++ rest) (hW : 2 * g.monitorRoom + (rest.map fun v => v.category).sum ≤ 8) (hdg : decode cc g.pc = .ok (.invokestatic index, 3)) (hf : cells + 0 ≤ R.cells ∧ slots + 0 ≤ R.slots) :
    va_Run p l e R s m args below meth c H locs cells slots 0 0 g rest (Qc As.toArray) (va_A (w S) H.size) :=
  va_runS S0 hM cw ⟨gP.blind hn, fun U hU hW => ⟨rfl, gP.of hn hU hW hP hK hD hN⟩⟩ hg hl hsize hstack hW hdg hf
theorem k_i {post : Int32 → St → Prop} (hr : va_Run p l e R s m args below meth c H locs cells slots 0 0 (F0 m pc ls st0) rest (va_Qi post (gB D w) (va_A (w S) H.size) a) (va_A (w S) H.size)) (hS : va_S A H0 H locs) (hD : va_D A (w S)) (hA : ∀ q, H0.size ≤ q → A q)
    (kk : ∀ (r : Int32) (S' : St) (H1 : Heap) (locs1 : List Loc), post r S' → va_P D vwCl (w S') H1 → va_S A H0 H1 locs1 → W p l e R s m args below meth c H1 locs1 cells slots Q (F0 m (pc + 3) ls (.int r :: rest))) : W p l e R s m args below meth c H locs cells slots Q (F0 m pc ls st0) :=
  va_calli hr hS (fun q _ h => gFree hS hD hA q h) (gFree hS hD hA) (fun r u t H1 locs1 ht _ hw hB _ _ hS1 => kk r u H1 locs1 hw (by rw [← ht]; exact hB) hS1)
theorem k_l {post : Int64 → St → Prop} (hr : va_Run p l e R s m args below meth c H locs cells slots 0 0 (F0 m pc ls st0) rest (va_Ql post (gB D w) (va_A (w S) H.size) a) (va_A (w S) H.size)) (hS : va_S A H0 H locs) (hD : va_D A (w S)) (hA : ∀ q, H0.size ≤ q → A q)
    (kk : ∀ (r : Int64) (S' : St) (H1 : Heap) (locs1 : List Loc), post r S' → va_P D vwCl (w S') H1 → va_S A H0 H1 locs1 → W p l e R s m args below meth c H1 locs1 cells slots Q (F0 m (pc + 3) ls (.long r :: rest))) : W p l e R s m args below meth c H locs cells slots Q (F0 m pc ls st0) :=
  va_calll hr hS (fun q _ h => gFree hS hD hA q h) (gFree hS hD hA) (fun r u t H1 locs1 ht _ hw hB _ _ hS1 => kk r u H1 locs1 hw (by rw [← ht]; exact hB) hS1)
theorem k_v {post : St → Prop} (hr : va_Run p l e R s m args below meth c H locs cells slots 0 0 (F0 m pc ls st0) rest (va_Qv post (gB D w) (va_A (w S) H.size) a) (va_A (w S) H.size)) (hS : va_S A H0 H locs) (hD : va_D A (w S)) (hA : ∀ q, H0.size ≤ q → A q)
    (kk : ∀ (S' : St) (H1 : Heap) (locs1 : List Loc), post S' → va_P D vwCl (w S') H1 → va_S A H0 H1 locs1 → W p l e R s m args below meth c H1 locs1 cells slots Q (F0 m (pc + 3) ls rest)) : W p l e R s m args below meth c H locs cells slots Q (F0 m pc ls st0) :=
  va_callv hr hS (fun q _ h => gFree hS hD hA q h) (gFree hS hD hA) (fun u t H1 locs1 ht _ hw hB _ _ hS1 => kk u H1 locs1 hw (by rw [← ht]; exact hB) hS1)
theorem g_reti {post : Int32 → St → Prop} {v : Int32} (hx : p.tables.exec = Jvm.exec) (hb : c.code = cc) (hr : meth.sig.returnType = some .int) (hlocks : meth.locks = false) (h : post v S) (hP : va_P D vwCl (w S) H) (hS : va_S A s.heap H locs) (hdg : decode cc pc = .ok (.ireturn, 1)) :
    W p l e R s m args below meth c H locs cells slots (MQ below (va_Qi post (gB D w) A) args s cells slots A) (F0 m pc ls [.int v]) :=
  W.iret hx hb hr (fun t ht _ => ⟨⟨v, S, rfl, h, (by show va_P D vwCl (w S) t.heap; rw [ht]; exact hP)⟩, hS.F ht⟩) hS.2.2 hdg hlocks
theorem g_nb {v : Int32} (h : v = 0 ∨ v = 1) : narrow .boolean (.int v) = .int v := by
  rcases h with rfl | rfl <;> rfl
theorem g_retz {post : Int32 → St → Prop} {v : Int32} (hx : p.tables.exec = Jvm.exec) (hb : c.code = cc) (hr : meth.sig.returnType = some .boolean) (hlocks : meth.locks = false) (hv : v = 0 ∨ v = 1) (h : post v S) (hP : va_P D vwCl (w S) H) (hS : va_S A s.heap H locs) (hdg : decode cc pc = .ok (.ireturn, 1)) :
    W p l e R s m args below meth c H locs cells slots (MQ below (va_Qi post (gB D w) A) args s cells slots A) (F0 m pc ls [.int v]) :=
  W.zret hx hb hr (g_nb hv) (fun t ht _ => ⟨⟨v, S, rfl, h, (by show va_P D vwCl (w S) t.heap; rw [ht]; exact hP)⟩, hS.F ht⟩) hS.2.2 hdg hlocks
theorem g_retl {post : Int64 → St → Prop} {v : Int64} (hx : p.tables.exec = Jvm.exec) (hb : c.code = cc) (hr : meth.sig.returnType = some .long) (hlocks : meth.locks = false) (h : post v S) (hP : va_P D vwCl (w S) H) (hS : va_S A s.heap H locs) (hdg : decode cc pc = .ok (.lreturn, 1)) :
    W p l e R s m args below meth c H locs cells slots (MQ below (va_Ql post (gB D w) A) args s cells slots A) (F0 m pc ls [.long v]) :=
  W.lret hx hb hr (fun t ht _ => ⟨⟨v, S, rfl, h, (by show va_P D vwCl (w S) t.heap; rw [ht]; exact hP)⟩, hS.F ht⟩) hS.2.2 hdg hlocks
theorem g_retv {post : St → Prop} (hx : p.tables.exec = Jvm.exec) (hb : c.code = cc) (hr : meth.sig.returnType = none) (hlocks : meth.locks = false) (h : post S) (hP : va_P D vwCl (w S) H) (hS : va_S A s.heap H locs) (hdg : decode cc pc = .ok (.return_, 1)) :
    W p l e R s m args below meth c H locs cells slots (MQ below (va_Qv post (gB D w) A) args s cells slots A) (F0 m pc ls []) :=
  W.vret hx hb hr (fun t ht _ => ⟨⟨S, rfl, h, (by show va_P D vwCl (w S) t.heap; rw [ht]; exact hP)⟩, hS.F ht⟩) hS.2.2 hdg hlocks
end GR
/-! java.util.Arrays.fill over a row of any world -/
def g_fill (f : Nat → Int32) (k : Nat) (v : Int32) : Nat → Int32 := fun j => if j < k then v else f j
theorem g_fill_0 (f : Nat → Int32) (v : Int32) : g_fill f 0 v = f := by
  funext j
  simp [g_fill]
theorem g_fill_s (f : Nat → Int32) (i : Nat) (v : Int32) : upd (g_fill f i v) i v = g_fill f (i + 1) v := by
  funext j
  unfold upd g_fill
  by_cases h : j = i
  · subst h; simp
  · have h1 : (j < i + 1) ↔ (j < i) := by omega
    simp [h, h1]
theorem g_set_same {w : va_W} {q : Nat} {x : Nat × va_E} (h : w[q]? = some x) : w.set q x = w := by
  apply List.ext_getElem?
  intro k
  by_cases hk : q = k
  · subst hk
    rw [List.getElem?_set_self (List.getElem?_eq_some_iff.mp h).1, h]
  · rw [List.getElem?_set_ne hk]
abbrev rmF : Room := { frames := 0, cells := 0, slots := 0, locals := 0 }
set_option maxHeartbeats 4000000 in
set_option maxRecDepth 100000 in
theorem cJ7_fill (l : Launch) (D : va_G) {w : St → va_W} {tys : List (ClassId × FieldType)} {ns : List Cond} (hF : gF w) {S : St} (u : (Nat → Int32) → St) {b : Nat} {cA : ClassId} {len : Nat} (q0 t0 : Nat) {f : Nat → Int32} (ha : (w S)[q0]? = some (b, .inl (cA, len, .inl f))) (ht : tys[t0]? = some (cA, .int)) (hu : ∀ f', (w S).set q0 (b, .inl (cA, len, .inl f')) = w (u f')) (hlen : len < 2 ^ 31) (sz : Nat) (v : Int32) :
    Met l yJ7_fill_53178 wsJ7_fill_53178 rmF (va_Pc [.ref b, .int v] (gP D w tys ns S sz)) (va_Qv (fun S' => S' = u (g_fill f len v)) (gB D w) (va_A (w S) sz)) 0 0 (va_A (w S) sz) := by
  refine Met.ofW (cc := cJ7_fill_53178) (maxL := 4) (ret := none) (by decide) rfl ?_
  intro p e s m args below meth c9 s₁ B hml hv
  obtain ⟨rfl, hsz, hP, hK, hD0, hN⟩ := hv
  have hx := B.exec
  have hb := B.bytes
  have hr := B.returns
  have hlocks := B.notSynchronized
  subst hsz
  have hD1 := hD0.self (sz := s.heap.size)
  generalize hAe : va_A (w S) s.heap.size = A at hD1 ⊢
  have hD : ∀ S2 : St, va_D A (w S2) := gD hF hD1
  have hS : va_S A s.heap s.heap [] := va_S.rf
  have hq : q0 < (w S).length := (List.getElem?_eq_some_iff.mp ha).1
  have hat : ∀ f', (w (u f'))[q0]? = some (b, .inl (cA, len, .inl f')) := fun f' => by rw [← hu f', List.getElem?_set_self hq]
  have hset : ∀ f' f'', (w (u f')).set q0 (b, .inl (cA, len, .inl f'')) = w (u f'') := fun f' f'' => by rw [← hu f', List.set_set, hu f'']
  have hl := lv_entry ([.ref b, .int v]) (n := 4) (Nat.le_of_ble_eq_true rfl)
  rw [lg_entry_eq]
  generalize (lg_sl ([.ref b, .int v]) ++ List.replicate (4 - (lg_sl ([.ref b, .int v])).length) Slot.unset).toArray = ls at hl ⊢
  have hl : lv_has ls 4 [(0, .ref b), (1, .int v)] := hl
  have key : ∀ (n i : Nat) (H : Heap) (locs : List Loc) (ls : Array Slot), i ≤ len → len ≤ i + n → va_P D vwCl (w (u (g_fill f i v))) H → va_S A s.heap H locs → lv_has ls 4 [(0, .ref b), (1, .int v), (2, .int (nI i)), (3, .int (nI len))] → W p l e ((headSpec wsJ7_fill_53178 rmF).room) s m ([.ref b, .int v] : List Value).toArray below meth c9 H locs 0 0 (MQ below (va_Qv (fun S' => S' = u (g_fill f len v)) (gB D w) A) ([.ref b, .int v] : List Value).toArray s 0 0 A) (F0 m 5 ls []) := by
    intro n
    induction n with
    | zero =>
      intro i H locs ls hi hin hP hS hl
      have hil : i = len := by omega
      subst hil
      refine lv_iload_n hx hb dJ7_fill_53178_5 rfl (lv_at hl 2 rfl) ?_
      refine lv_iload_n hx hb dJ7_fill_53178_6 rfl (lv_at hl 3 rfl) ?_
      refine lv_icmp_ge (tgt := 20) hx hb dJ7_fill_53178_7 (by decide) (fun _ => ?_) (fun c1 => ?_)
      · exact g_retv hx hb hr hlocks rfl hP hS dJ7_fill_53178_20
      · exact absurd (nI_le (Nat.le_refl i) hlen) c1
    | succ n ih =>
      intro i H locs ls hi hin hP hS hl
      refine lv_iload_n hx hb dJ7_fill_53178_5 rfl (lv_at hl 2 rfl) ?_
      refine lv_iload_n hx hb dJ7_fill_53178_6 rfl (lv_at hl 3 rfl) ?_
      refine lv_icmp_ge (tgt := 20) hx hb dJ7_fill_53178_7 (by decide) (fun c1 => ?_) (fun c1 => ?_)
      · have hil : i = len := by
          have := (nI_leI hlen (by omega)).mp c1
          omega
        subst hil
        exact g_retv hx hb hr hlocks rfl hP hS dJ7_fill_53178_20
      · have hlt : i < len := by
          rcases Nat.lt_or_ge i len with q | q
          · exact q
          · exact absurd (nI_le q (by omega)) c1
        refine lv_aload_n hx hb dJ7_fill_53178_10 rfl (lv_at hl 0 rfl) ?_
        refine lv_iload_n hx hb dJ7_fill_53178_11 rfl (lv_at hl 2 rfl) ?_
        refine lv_iload_n hx hb dJ7_fill_53178_12 rfl (lv_at hl 1 rfl) ?_
        refine va_iast hx hb hK hP (hD _) hS q0 t0 (hat _) ht (vp_in_nI hlt hlen) dJ7_fill_53178_13 (fun H locs hP _ hS => ?_)
        rw [hset, nI_clamp (by omega), g_fill_s] at hP
        refine lv_iinc (v := nI (i + 1)) (lv' := [(2, .int (nI (i + 1))), (0, .ref b), (1, .int v), (3, .int (nI len))]) hx hb dJ7_fill_53178_14 hl (k := 2) rfl (by rw [← nI_1 i]; rfl) (by decide) rfl (fun ls hl => ?_)
        refine lv_goto (tgt := 5) hx hb dJ7_fill_53178_17 (by decide) ?_
        exact ih (i + 1) H locs ls hlt (by omega) hP hS (lv_sub hl [1, 2, 0, 3] rfl)
  refine lv_iconst (v := 0) hx hb dJ7_fill_53178_0 (by decide) ?_
  refine lv_istore_n (lv' := [(2, .int 0), (0, .ref b), (1, .int v)]) hx hb dJ7_fill_53178_1 rfl hl (by decide) rfl (fun ls hl => ?_)
  refine lv_aload_n hx hb dJ7_fill_53178_2 rfl (lv_at hl 1 rfl) ?_
  refine va_alen hx hb hK hP q0 t0 ha ht (v := nI len) rfl dJ7_fill_53178_3 ?_
  refine lv_istore_n (lv' := [(3, .int (nI len)), (2, .int 0), (0, .ref b), (1, .int v)]) hx hb dJ7_fill_53178_4 rfl hl (by decide) rfl (fun ls hl => ?_)
  exact key len 0 _ _ ls (Nat.zero_le _) (by omega) (by rw [g_fill_0, ← hu, g_set_same ha]; exact hP) hS (lv_sub hl [2, 3, 1, 0] rfl)
section GF
variable {p : Program} {l : Launch} {e : Env} {R : Room} {s : State} {m : MethodId} {args : Array Value} {below : List Frame} {meth : Method} {c : Code} {H : Heap} {locs : List Loc} {cells slots : Nat} {Q : State → Prop}
variable {cc : ByteArray} {nL index : Nat} {Ts : List Cond} {own : String} {rest : List Value} {pc : Nat} {ls : Array Slot}
variable {D : va_G} {w : St → va_W} {tys : List (ClassId × FieldType)} {ns : List Cond} {S : St} {A : Nat → Prop} {H0 : Heap}
theorem k_fill (hn : ns.all gNest = true) (hF : gF w) (S0 : CallFix p m c cc nL s args Ts own) (cw : CallB R s args own index yJ7_fill_53178 cJ7_fill_53178 4 none wsJ7_fill_53178 rmF 0 0 2 ∧ (Cond.static yJ7_fill_53178).before args s = true)
    {u : (Nat → Int32) → St} {b : Nat} {cA : ClassId} {len : Nat} {f : Nat → Int32} {v : Int32} (q0 t0 : Nat) (ha : (w S)[q0]? = some (b, .inl (cA, len, .inl f))) (ht : tys[t0]? = some (cA, .int)) (hu : ∀ f', (w S).set q0 (b, .inl (cA, len, .inl f')) = w (u f'))
    (hP : va_P D vwCl (w S) H) (hK : va_K D vwCl tys s) (hD : va_D A (w S)) (hN : gN ns s) (hS : va_S A H0 H locs) (hA : ∀ q, H0.size ≤ q → A q) (hsize : ls.size = nL) (hlen : len < 2 ^ 31) (hW : (rest.map fun v => v.category).sum ≤ 8) (hdg : decode cc pc = .ok (.invokestatic index, 3)) (hf : cells + 0 ≤ R.cells ∧ slots + 0 ≤ R.slots)
    (kk : ∀ (H1 : Heap) (locs1 : List Loc), va_P D vwCl (w (u (g_fill f len v))) H1 → va_S A H0 H1 locs1 → W p l e R s m args below meth c H1 locs1 cells slots Q (F0 m (pc + 3) ls rest)) : W p l e R s m args below meth c H locs cells slots Q (F0 m pc ls (.int v :: .ref b :: rest)) :=
  k_v (k_runS (As := [.ref b, .int v]) hn S0 (cJ7_fill l D hF u q0 t0 ha ht hu hlen H.size v) cw hP hK hD hN rfl rfl hsize rfl (lv_room hW) hdg hf) hS hD hA (fun S' H1 locs1 e1 hP1 hS1 => kk H1 locs1 (by rw [← e1]; exact hP1) hS1)
end GF
/-! methods of the class that may throw -/
def xExc : List String := ["java/lang/IllegalArgumentException", "java/lang/IllegalStateException", "java/lang/IndexOutOfBoundsException"]
abbrev xNms : List String := ["java/lang/RuntimeException", "java/lang/Exception"]
def xStr : List (Nat × String) := [(56, "there are 6 meals"), (75, "there were 150 days"), (82, "there was no such day"), (106, "there are 4 sizes"), (144, "minutes are below 0"), (156, "a number is beyond what the document allows"), (158, "there is no such meal")]
def xT (A : Nat → Prop) (U : State) (H : Heap) : Prop :=
  vx_Zq Bundle.tN "UNASSIGNED_STACK" Bundle.steD A U H ∧ vx_Zq Bundle.tN "SUPPRESSED_SENTINEL" Bundle.listD A U H ∧ (∀ q ∈ xStr, ∃ sa : Nat, vk_R RX5 q.1 q.2 sa U) ∧ ∀ X ∈ xExc, va_Nw (.castable X X) U
theorem xT.same {A : Nat → Prop} {s U : State} {H : Heap} (hv : s.vm = U.vm) (h : xT A s H) : xT A U H :=
  ⟨vx_Zq.moved (by rw [← hv]; exact Vm.Alike.refl s.vm) h.1, vx_Zq.moved (by rw [← hv]; exact Vm.Alike.refl s.vm) h.2.1, fun q hq => (h.2.2.1 q hq).imp fun _ k => vk_R.same hv.symm k, fun X hX => va_Nw.same rfl hv (h.2.2.2 X hX)⟩
theorem xT.of {A B : Nat → Prop} {s U : State} {H : Heap} {locs : List Loc} (hT : xT A s s.heap) (hS : va_S A s.heap H locs) (hB : ∀ q, B q → A q) (hW : s.WarmedH U.vm) : xT B U H :=
  ⟨vx_Zq.moved hW.alike ((vx_Zq.kept hT.1 (fun a h1 h2 => hS.2.1 a h1 h2)).narrow hB), vx_Zq.moved hW.alike ((vx_Zq.kept hT.2.1 (fun a h1 h2 => hS.2.1 a h1 h2)).narrow hB), fun q hq => (hT.2.2.1 q hq).imp fun _ k => vk_R.warm hW k, fun X hX => va_Nw.warmC hW (hT.2.2.2 X hX)⟩
def xP (D : va_G) (w : St → va_W) (tys : List (ClassId × FieldType)) (ns : List Cond) (S : St) (sz : Nat) (U : State) : Prop :=
  U.heap.size = sz ∧ va_P D vwCl (w S) U.heap ∧ va_K D vwCl tys U ∧ va_D (fun _ => True) (w S) ∧ gN ns U ∧ xT (va_A (w S) sz) U U.heap
theorem xP.blind {D : va_G} {w : St → va_W} {tys : List (ClassId × FieldType)} {ns : List Cond} (hn : ns.all gNest = true) {S : St} {sz : Nat} {As : List Value} : FrameBlind (va_Pc As (xP D w tys ns S sz)) := fun a U g mk q => by
  obtain ⟨q0, q1, qP, qK, qD, qN, qT⟩ := q
  exact ⟨q0, q1, qP, va_K.moved (u := U) (U := U.calling g mk a) (Vm.Alike.refl U.vm) qK, qD, gN.same (s := U) (U := U.calling g mk a) hn rfl qN, xT.same (s := U) (U := U.calling g mk a) rfl qT⟩
theorem xP.of {D : va_G} {w : St → va_W} {tys : List (ClassId × FieldType)} {ns : List Cond} (hn : ns.all gNest = true) {S : St} {H : Heap} {locs : List Loc} {s U : State} {A : Nat → Prop} (hU : U.heap = H) (hW : s.WarmedH U.vm) (hP : va_P D vwCl (w S) H) (hK : va_K D vwCl tys s) (hD : va_D A (w S)) (hN : gN ns s) (hT : xT A s s.heap) (hS : va_S A s.heap H locs) (hA : ∀ q, s.heap.size ≤ q → A q) : xP D w tys ns S H.size U :=
  ⟨by rw [hU], by rw [hU]; exact hP, va_K.moved hW.alike hK, hD.weaken (fun _ _ _ _ => trivial), hN.warm hn hW, by rw [hU]; exact hT.of hS (gFree hS hD hA) hW⟩
def xX (D : va_G) (w : St → va_W) (postx : String → St → Prop) (A : Nat → Prop) : String → State → State → Prop :=
  vx_X (fun u : String × St => postx u.1 u.2) (fun E u t => E = u.1 ∧ va_P D vwCl (w u.2) t.heap) A
section GX
variable {p : Program} {l : Launch} {e : Env} {R : Room} {s : State} {m : MethodId} {args : Array Value} {below : List Frame} {meth : Method} {c : Code} {H : Heap} {locs : List Loc} {cells slots mc ms mc0 ms0 : Nat} {Q : State → Prop}
variable {y : MethodName} {bytes cc : ByteArray} {maxL nL n index : Nat} {ret : Option FieldType} {ws : List Cond} {rm : Room} {Qc : Array Value → State → Outcome → State → Prop} {XC : String → State → State → Prop} {Ts : List Cond} {own C host : String} {b : Addr} {As rest st0 : List Value} {g : JFrame} {pc : Nat} {ls : Array Slot} {a : Array Value}
variable {D : va_G} {w : St → va_W} {tys : List (ClassId × FieldType)} {ns : List Cond} {S : St} {A : Nat → Prop} {postx : String → St → Prop}
theorem x_runV (hn : ns.all gNest = true) (S0 : CallFix p m c cc nL s args Ts own) (hM : vx_Met l y ws rm (va_Pc (.ref b :: As) (xP D w tys ns S H.size)) Qc XC mc ms (va_A (w S) H.size)) (cw : CallW R s args own C index y bytes maxL ret ws rm mc ms n)
    (hrc : ∃ cell : Cell, H[b]? = some cell ∧ cell.vm.isStatics = false ∧ s.vm.findClass C = some cell.cls) (hP : va_P D vwCl (w S) H) (hK : va_K D vwCl tys s) (hD : va_D A (w S)) (hN : gN ns s) (hT : xT A s s.heap) (hS : va_S A s.heap H locs) (hA : ∀ q, s.heap.size ≤ q → A q)
    (hg : g.method = m) (hl : As.length = n) (hsize : g.locals.size = nL) (hstack : g.stack = As.reverse ++ .ref b :: rest) (hW : 2 * g.monitorRoom + (rest.map fun v => v.category).sum ≤ 8) (hdg : decode cc g.pc = .ok (.invokevirtual index, 3)) (hf : cells + mc ≤ R.cells ∧ slots + ms ≤ R.slots) :
    vx_Run p l e R s m args below meth c H locs cells slots mc ms g rest (Qc (Value.ref b :: As).toArray) XC (va_A (w S) H.size) :=
  vx_runV S0 hM cw ⟨xP.blind hn, hrc, fun U hU hW => ⟨rfl, xP.of hn hU hW hP hK hD hN hT hS hA⟩⟩ hg hl hsize hstack hW hdg hf
theorem x_runS (hn : ns.all gNest = true) (S0 : CallFix p m c cc nL s args Ts own) (hM : vx_Met l y ws rm (va_Pc As (xP D w tys ns S H.size)) Qc XC mc ms (va_A (w S) H.size)) (cw : CallB R s args own index y bytes maxL ret ws rm mc ms n ∧ (Cond.static y).before args s = true)
    (hP : va_P D vwCl (w S) H) (hK : va_K D vwCl tys s) (hD : va_D A (w S)) (hN : gN ns s) (hT : xT A s s.heap) (hS : va_S A s.heap H locs) (hA : ∀ q, s.heap.size ≤ q → A q)
    (hg : g.method = m) (hl : As.length = n) (hsize : g.locals.size = nL) (hstack : g.stack = As.reverse ++ rest) (hW : 2 * g.monitorRoom + (rest.map fun v => v.category).sum ≤ 8) (hdg : decode cc g.pc = .ok (.invokestatic index, 3)) (hf : cells + mc ≤ R.cells ∧ slots + ms ≤ R.slots) :
    vx_Run p l e R s m args below meth c H locs cells slots mc ms g rest (Qc As.toArray) XC (va_A (w S) H.size) :=
  vx_runS S0 hM cw ⟨xP.blind hn, fun U hU hW => ⟨rfl, xP.of hn hU hW hP hK hD hN hT hS hA⟩⟩ hg hl hsize hstack hW hdg hf
theorem x_i {post : Int32 → St → Prop} (hr : vx_Run p l e R s m args below meth c H locs cells slots mc ms (F0 m pc ls st0) rest (va_Qi post (gB D w) (va_A (w S) H.size) a) (xX D w postx (va_A (w S) H.size)) (va_A (w S) H.size)) (hS : va_S A s.heap H locs) (hD : va_D A (w S)) (hA : ∀ q, s.heap.size ≤ q → A q)
    (kx : ∀ (E : String) (q9 : Addr) (ce : Cell) (S9 : St) (H1 : Heap) (locs1 : List Loc), postx E S9 → va_P D vwCl (w S9) H1 → va_S A s.heap H1 locs1 → H1[q9]? = some ce → ce.vm = .none → s.vm.findClass E = some ce.cls → vx_W p l e R s m args below meth c H1 locs1 (cells + mc) (slots + ms) Q (F0 m pc ls rest) q9)
    (kk : ∀ (r : Int32) (S' : St) (H1 : Heap) (locs1 : List Loc), post r S' → va_P D vwCl (w S') H1 → va_S A s.heap H1 locs1 → W p l e R s m args below meth c H1 locs1 (cells + mc) (slots + ms) Q (F0 m (pc + 3) ls (.int r :: rest))) : W p l e R s m args below meth c H locs cells slots Q (F0 m pc ls st0) :=
  vx_calli hr hS (fun q _ h => gFree hS hD hA q h) (gFree hS hD hA) (fun q _ h => gFree hS hD hA q h)
    (fun E ce q9 u t H1 locs1 ht _ hp hB _ _ hS1 hq hv hcl => kx E q9 ce u.2 H1 locs1 (by rw [hB.1]; exact hp) (by rw [← ht]; exact hB.2) hS1 hq hv hcl)
    (fun r u t H1 locs1 ht _ hw hB _ _ hS1 => kk r u H1 locs1 hw (by rw [← ht]; exact hB) hS1)
theorem x_v {post : St → Prop} (hr : vx_Run p l e R s m args below meth c H locs cells slots mc ms (F0 m pc ls st0) rest (va_Qv post (gB D w) (va_A (w S) H.size) a) (xX D w postx (va_A (w S) H.size)) (va_A (w S) H.size)) (hS : va_S A s.heap H locs) (hD : va_D A (w S)) (hA : ∀ q, s.heap.size ≤ q → A q)
    (kx : ∀ (E : String) (q9 : Addr) (ce : Cell) (S9 : St) (H1 : Heap) (locs1 : List Loc), postx E S9 → va_P D vwCl (w S9) H1 → va_S A s.heap H1 locs1 → H1[q9]? = some ce → ce.vm = .none → s.vm.findClass E = some ce.cls → vx_W p l e R s m args below meth c H1 locs1 (cells + mc) (slots + ms) Q (F0 m pc ls rest) q9)
    (kk : ∀ (S' : St) (H1 : Heap) (locs1 : List Loc), post S' → va_P D vwCl (w S') H1 → va_S A s.heap H1 locs1 → W p l e R s m args below meth c H1 locs1 (cells + mc) (slots + ms) Q (F0 m (pc + 3) ls rest)) : W p l e R s m args below meth c H locs cells slots Q (F0 m pc ls st0) :=
  vx_callv hr hS (fun q _ h => gFree hS hD hA q h) (gFree hS hD hA) (fun q _ h => gFree hS hD hA q h)
    (fun E ce q9 u t H1 locs1 ht _ hp hB _ _ hS1 hq hv hcl => kx E q9 ce u.2 H1 locs1 (by rw [hB.1]; exact hp) (by rw [← ht]; exact hB.2) hS1 hq hv hcl)
    (fun u t H1 locs1 ht _ hw hB _ _ hS1 => kk u H1 locs1 hw (by rw [← ht]; exact hB) hS1)
theorem x_out {E : String} {ce : Cell} {q : Addr} {S9 : St} (hout : ∀ x ∈ c.exceptionTable.toList, False) (hlocks : meth.locks = false) (hq : H[q]? = some ce) (hv : ce.vm = .none) (hcl : s.vm.findClass E = some ce.cls) (h : postx E S9) (hP : va_P D vwCl (w S9) H) (hS : va_S A s.heap H locs) (hc : cells ≤ mc) (hs : slots ≤ ms) :
    vx_W p l e R s m args below meth c H locs cells slots (vx_MQ below Qc (xX D w postx A) args s mc ms A) (F0 m pc ls rest) q :=
  vx_out (fun x hx => (hout x hx).elim) hlocks hq hv hcl (fun t ht _ => ⟨(E, S9), h, ⟨rfl, by rw [ht]; exact hP⟩, hS.F ht⟩) hS.2.2 hc hs
theorem x_throw {E text : String} {ik is ic : Nat} (hx : p.tables.exec = Jvm.exec) (hb : c.code = cc) (hl0 : l.stackTraces = false) (hown : s.vm.findClass RX5 = some m.cls)
    (hgood : ∀ w ∈ (vx_atS RX5 ic E xNms).filter goodWord, w.before args s = true) (hnot : ∀ w ∈ (vx_atS RX5 ic E xNms).filter (fun w => !goodWord w), w ∈ [Cond.castable E E]) (hE : E ∈ xExc) (hstr : (is, text) ∈ xStr) (hfit : Bundle.fit E = true)
    (hk : (Cond.classLink RX5 ik E).before args s = true) (hini : (Cond.initialized E).before args s = true) (hok : ∀ w ∈ Cond.classLink RX5 ik E :: Cond.initialized E :: vx_atS RX5 ic E xNms, vx_ot w = true)
    (hT : xT A s s.heap) (hS : va_S A s.heap H locs) (hsize : ls.size = nL) (hml : c.maxLocals = nL)
    (d0 : decode cc pc = .ok (.new ik, 3)) (d3 : decode cc (pc + 3) = .ok (.dup, 1)) (d4 : decode cc (pc + 4) = .ok (.ldc is, 2)) (d6 : decode cc (pc + 6) = .ok (.invokespecial ic, 3)) (d9 : decode cc (pc + 9) = .ok (.athrow, 1))
    (hout : ∀ x ∈ c.exceptionTable.toList, False) (hlocks : meth.locks = false) (h : postx E S) (hP : va_P D vwCl (w S) H)
    (hR1 : 5 < R.frames) (hR2 : (rest.map fun v => v.category).sum + 82 ≤ R.locals) (hR3 : cells + 1 ≤ R.cells) (hR4 : slots + 6 ≤ R.slots) (hc : cells + 1 ≤ mc) (hs : slots + 6 ≤ ms) :
    W p l e R s m args below meth c H locs cells slots (vx_MQ below Qc (xX D w postx A) args s mc ms A) (F0 m pc ls rest) := by
  obtain ⟨sa, hsa⟩ := hT.2.2.1 _ hstr
  refine vx_throwS (names := xNms) (text := text) (sa := sa) hx hb hl0 hown hfit (by decide +kernel) hk hini hsa (vx_hat hgood hnot (fun w hw => ?_)) hok hT.1 hT.2.1 hS (by rw [hml]; exact hsize) d0 d3 d4 d6 d9 (fun x hx => (hout x hx).elim) hR1 hR2 hR3 hR4 hlocks (fun t _ hz ht => ⟨(E, S), h, ⟨rfl, ?_⟩, ?_⟩) hS.2.2 hc hs
  · rw [List.mem_singleton] at hw
    subst hw
    exact va_Nw.use rfl (hT.2.2.2 E hE)
  · exact hP.kept (fun k q hk => ht q.1 (hP k q hk).lt)
  · exact ⟨Nat.le_trans hS.1 hz, fun q h1 h2 => by rw [ht q (Nat.lt_of_lt_of_le h1 hS.1)]; exact hS.2.1 q h1 h2⟩
end GX
end
section
def PX6_thrown  (S : St) (post : Int32 → St → Prop) : Prop := post (S.1 0) S
set_option maxHeartbeats 4000000 in
set_option maxRecDepth 100000 in
theorem tX6_thrown (l : Launch) (D : va_G) (a : Nat → Nat) (c : Nat → ClassId) (sz : Nat)  (S : St) (post : Int32 → St → Prop) (h : PX6_thrown  S post) : Met l yX6_thrown wsX6_thrown ({ frames := 0, cells := 0, slots := 0, locals := 0 }) (va_Pc [.ref (a 0)] (gP D (mw a c) (mty c) mns S sz)) (va_Qi post (gB D (mw a c)) (va_A (mw a c S) sz)) 0 0 (va_A (mw a c S) sz) := by
  refine Met.ofW (cc := cX6_thrown) (maxL := 1) (ret := (some .int)) (by decide) rfl ?_
  intro p e s m args below meth c9 s₁ B hml hv
  obtain ⟨rfl, hsz, hP, hK, hD0, hN⟩ := hv
  have hx := B.exec
  have hb := B.bytes
  have hr := B.returns
  have hts := atoms_spec (ws := wsX6_thrown) B.pre
  have hown : s.vm.findClass RX6 = some m.cls := findClass_of_methodNamed B.named
  have hlocks := B.notSynchronized
  subst hsz
  have hD1 := hD0.self (sz := s.heap.size)
  generalize hAe : va_A (mw a c S) s.heap.size = A at hD1 ⊢
  have hA : ∀ q : Nat, s.heap.size ≤ q → A q := fun q h => by rw [← hAe]; exact Or.inr h
  have hD : ∀ S2 : St, va_D A (mw a c S2) := gD mw_F hD1
  have hS : va_S A s.heap s.heap [] := va_S.rf
  have hinX6 : ∀ w ∈ wsX60, w ∈ wsX6_thrown := by decide +kernel
  have kf60 := hts (.fieldLink RX6 60 "CanteenPlanModel" "thrown" "I") (by decide +kernel)
  have hl := lv_entry ([.ref (a 0)]) (n := 1) (Nat.le_of_ble_eq_true rfl)
  rw [lg_entry_eq]
  generalize (lg_sl ([.ref (a 0)]) ++ List.replicate (1 - (lg_sl ([.ref (a 0)])).length) Slot.unset).toArray = ls at hl ⊢
  have hl : lv_has ls 1 [(0, .ref (a 0))] := hl
  unfold PX6_thrown at h
  refine lv_aload_n hx hb dX6_thrown_0 rfl (lv_at hl 0 rfl) ?_
  refine va_get (D := D) (ci := 6) (v := .int (S.1 0)) (C := RX6) (T := TX6) (N := 36) hx hb hts hinX6 hown hK hP 0 rfl rfl 0 (by decide) kf60 (fun _ h9 => h9) rfl dX6_thrown_1 ?_
  exact g_reti hx hb hr hlocks h hP hS dX6_thrown_4
def PX6_bad (p0 : Int32) (p1 : Int32) (S : St) (post : Int32 → St → Prop) : Prop := ((p0 = 0 → ((p0 = 0 ∨ p0 = 1) ∧ post p0 S)) ∧ (¬ p0 = 0 → ∀ S2 : St, S2 = sI S 0 p1 → ((p0 = 0 ∨ p0 = 1) ∧ post p0 S2)))
set_option maxHeartbeats 4000000 in
set_option maxRecDepth 100000 in
theorem tX6_bad (l : Launch) (D : va_G) (a : Nat → Nat) (c : Nat → ClassId) (sz : Nat) (p0 : Int32) (p1 : Int32) (S : St) (post : Int32 → St → Prop) (h : PX6_bad p0 p1 S post) : Met l yX6_bad wsX6_bad ({ frames := 0, cells := 0, slots := 0, locals := 0 }) (va_Pc [.ref (a 0), .int p0, .int p1] (gP D (mw a c) (mty c) mns S sz)) (va_Qi post (gB D (mw a c)) (va_A (mw a c S) sz)) 0 0 (va_A (mw a c S) sz) := by
  refine Met.ofW (cc := cX6_bad) (maxL := 3) (ret := (some .boolean)) (by decide) rfl ?_
  intro p e s m args below meth c9 s₁ B hml hv
  obtain ⟨rfl, hsz, hP, hK, hD0, hN⟩ := hv
  have hx := B.exec
  have hb := B.bytes
  have hr := B.returns
  have hts := atoms_spec (ws := wsX6_bad) B.pre
  have hown : s.vm.findClass RX6 = some m.cls := findClass_of_methodNamed B.named
  have hlocks := B.notSynchronized
  subst hsz
  have hD1 := hD0.self (sz := s.heap.size)
  generalize hAe : va_A (mw a c S) s.heap.size = A at hD1 ⊢
  have hA : ∀ q : Nat, s.heap.size ≤ q → A q := fun q h => by rw [← hAe]; exact Or.inr h
  have hD : ∀ S2 : St, va_D A (mw a c S2) := gD mw_F hD1
  have hS : va_S A s.heap s.heap [] := va_S.rf
  have hinX6 : ∀ w ∈ wsX60, w ∈ wsX6_bad := by decide +kernel
  have kf60 := hts (.fieldLink RX6 60 "CanteenPlanModel" "thrown" "I") (by decide +kernel)
  have hl := lv_entry ([.ref (a 0), .int p0, .int p1]) (n := 3) (Nat.le_of_ble_eq_true rfl)
  rw [lg_entry_eq]
  generalize (lg_sl ([.ref (a 0), .int p0, .int p1]) ++ List.replicate (3 - (lg_sl ([.ref (a 0), .int p0, .int p1])).length) Slot.unset).toArray = ls at hl ⊢
  have hl : lv_has ls 3 [(0, .ref (a 0)), (1, .int p0), (2, .int p1)] := hl
  unfold PX6_bad at h
  refine lv_iload_n hx hb dX6_bad_0 rfl (lv_at hl 1 rfl) ?_
  refine lv_if_eq (tgt := 9) hx hb dX6_bad_1 (by decide) (fun c1 => ?_) (fun c1 => ?_)
  · have h := h.1 c1
    refine lv_iload_n hx hb dX6_bad_9 rfl (lv_at hl 1 rfl) ?_
    exact g_retz hx hb hr hlocks h.1 h.2 hP hS dX6_bad_10
  · have h := h.2 c1
    refine lv_aload_n hx hb dX6_bad_4 rfl (lv_at hl 0 rfl) ?_
    refine lv_iload_n hx hb dX6_bad_5 rfl (lv_at hl 2 rfl) ?_
    refine va_put (D := D) (ci := 6) (v := .int p1) (ty := .int) (C := RX6) (T := TX6) (N := 36) hx hb hts hinX6 tyX6 tyX6_ok nmX6 hown hK hP (hD S) hS 0 rfl rfl 0 (by decide) kf60 (fun _ h9 => h9) rfl (by decide +kernel) rfl rfl (Nat.le_of_ble_eq_true rfl) dX6_bad_6 (fun H locs hP _ hS => ?_)
    obtain ⟨S2, eS2⟩ : ∃ z : St, z = sI S 0 p1 := ⟨_, rfl⟩
    have hP : va_P D vwCl (mw a c S2) H := by rw [eS2]; exact hP
    have h := h S2 eS2
    refine lv_iload_n hx hb dX6_bad_9 rfl (lv_at hl 1 rfl) ?_
    exact g_retz hx hb hr hlocks h.1 h.2 hP hS dX6_bad_10
def PX6_isBits (p0 : Int32) (S : St) (post : Int32 → St → Prop) : Prop := ((p0 < 0 → post 0 S) ∧ (¬ p0 < 0 → ((255 < p0 → post 0 S) ∧ (¬ 255 < p0 → post 1 S))))
set_option maxHeartbeats 4000000 in
set_option maxRecDepth 100000 in
theorem tX6_isBits (l : Launch) (D : va_G) (a : Nat → Nat) (c : Nat → ClassId) (sz : Nat) (p0 : Int32) (S : St) (post : Int32 → St → Prop) (h : PX6_isBits p0 S post) : Met l yX6_isBits wsX6_isBits ({ frames := 0, cells := 0, slots := 0, locals := 0 }) (va_Pc [.int p0] (gP D (mw a c) (mty c) mns S sz)) (va_Qi post (gB D (mw a c)) (va_A (mw a c S) sz)) 0 0 (va_A (mw a c S) sz) := by
  refine Met.ofW (cc := cX6_isBits) (maxL := 1) (ret := (some .boolean)) (by decide) rfl ?_
  intro p e s m args below meth c9 s₁ B hml hv
  obtain ⟨rfl, hsz, hP, hK, hD0, hN⟩ := hv
  have hx := B.exec
  have hb := B.bytes
  have hr := B.returns
  have hts := atoms_spec (ws := wsX6_isBits) B.pre
  have hown : s.vm.findClass RX6 = some m.cls := findClass_of_methodNamed B.named
  have hlocks := B.notSynchronized
  subst hsz
  have hD1 := hD0.self (sz := s.heap.size)
  generalize hAe : va_A (mw a c S) s.heap.size = A at hD1 ⊢
  have hA : ∀ q : Nat, s.heap.size ≤ q → A q := fun q h => by rw [← hAe]; exact Or.inr h
  have hD : ∀ S2 : St, va_D A (mw a c S2) := gD mw_F hD1
  have hS : va_S A s.heap s.heap [] := va_S.rf
  have hl := lv_entry ([.int p0]) (n := 1) (Nat.le_of_ble_eq_true rfl)
  rw [lg_entry_eq]
  generalize (lg_sl ([.int p0]) ++ List.replicate (1 - (lg_sl ([.int p0])).length) Slot.unset).toArray = ls at hl ⊢
  have hl : lv_has ls 1 [(0, .int p0)] := hl
  unfold PX6_isBits at h
  refine lv_iload_n hx hb dX6_isBits_0 rfl (lv_at hl 0 rfl) ?_
  refine lv_if_lt (tgt := 15) hx hb dX6_isBits_1 (by decide) (fun c1 => ?_) (fun c1 => ?_)
  · have h := h.1 c1
    refine lv_iconst (v := 0) hx hb dX6_isBits_15 (by decide) ?_
    exact g_retz hx hb hr hlocks (Or.inl rfl) h hP hS dX6_isBits_16
  · have h := h.2 c1
    refine lv_iload_n hx hb dX6_isBits_4 rfl (lv_at hl 0 rfl) ?_
    refine lv_sipush (v := 255) hx hb dX6_isBits_5 (by decide) ?_
    refine lv_icmp_gt (tgt := 15) hx hb dX6_isBits_8 (by decide) (fun c2 => ?_) (fun c2 => ?_)
    · have h := h.1 c2
      refine lv_iconst (v := 0) hx hb dX6_isBits_15 (by decide) ?_
      exact g_retz hx hb hr hlocks (Or.inl rfl) h hP hS dX6_isBits_16
    · have h := h.2 c2
      refine lv_iconst (v := 1) hx hb dX6_isBits_11 (by decide) ?_
      refine lv_goto (tgt := 16) hx hb dX6_isBits_12 (by decide) ?_
      exact g_retz hx hb hr hlocks (Or.inr rfl) h hP hS dX6_isBits_16
def BX6_meal_0 (X : Int32 → Int32 → Int32 → St → Prop) (post : Int32 → St → Prop) (xl1 : Int32) (xl2 : Int32) (xs0 : Int32) (S : St) : Prop := PX6_bad xs0 2 S (fun x21 S20 => ((x21 = 0 → (vp_in (S20.1 1) 6 ∧ ∀ S24 : St, S24 = sR S20 0 (upd (S20.2.2 0) (S20.1 1).toNatClampNeg xl1) → (vp_in (S24.1 1) 6 ∧ ∀ S26 : St, S26 = sR S24 1 (upd (S24.2.2 1) (S24.1 1).toNatClampNeg xl2) → ∀ S27 : St, S27 = sI S26 1 ((S26.1 1) + 1) → post ((S27.1 1) - 1) S27))) ∧ (¬ x21 = 0 → post 0 S20)))
def LX6_meal (post : Int32 → St → Prop) : Nat → Int32 → Int32 → Int32 → St → Prop
  | 0, _, _, _, _ => False
  | n + 1, xl1, xl2, xs0, S => BX6_meal_0 (LX6_meal post n) post xl1 xl2 xs0 S
def PX6_meal (n : Nat) (p0 : Int32) (p1 : Int32) (S : St) (post : Int32 → St → Prop) : Prop := ∀ S1 : St, S1 = sI S 0 0 → PX6_isBits p0 S1 (fun x3 S2 => ((x3 = 0 → PX6_bad 1 1 S2 (fun x6 S5 => ((x6 = 0 → (((S5.1 1) = 6 → LX6_meal post n p0 p1 1 S5) ∧ (¬ (S5.1 1) = 6 → LX6_meal post n p0 p1 0 S5))) ∧ (¬ x6 = 0 → post 0 S5)))) ∧ (¬ x3 = 0 → PX6_isBits p1 S2 (fun x10 S9 => ((x10 = 0 → PX6_bad 1 1 S9 (fun x17 S16 => ((x17 = 0 → (((S16.1 1) = 6 → LX6_meal post n p0 p1 1 S16) ∧ (¬ (S16.1 1) = 6 → LX6_meal post n p0 p1 0 S16))) ∧ (¬ x17 = 0 → post 0 S16)))) ∧ (¬ x10 = 0 → PX6_bad 0 1 S9 (fun x13 S12 => ((x13 = 0 → (((S12.1 1) = 6 → LX6_meal post n p0 p1 1 S12) ∧ (¬ (S12.1 1) = 6 → LX6_meal post n p0 p1 0 S12))) ∧ (¬ x13 = 0 → post 0 S12)))))))))
set_option maxHeartbeats 4000000 in
set_option maxRecDepth 100000 in
theorem tX6_meal (l : Launch) (D : va_G) (a : Nat → Nat) (c : Nat → ClassId) (sz : Nat) (n : Nat) (p0 : Int32) (p1 : Int32) (S : St) (post : Int32 → St → Prop) (h : PX6_meal n p0 p1 S post) : Met l yX6_meal wsX6_meal ({ frames := 1, cells := 0, slots := 0, locals := 22 }) (va_Pc [.ref (a 0), .int p0, .int p1] (gP D (mw a c) (mty c) mns S sz)) (va_Qi post (gB D (mw a c)) (va_A (mw a c S) sz)) 0 0 (va_A (mw a c S) sz) := by
  refine Met.ofW (cc := cX6_meal) (maxL := 3) (ret := (some .int)) (by decide) rfl ?_
  intro p e s m args below meth c9 s₁ B hml hv
  obtain ⟨rfl, hsz, hP, hK, hD0, hN⟩ := hv
  have hx := B.exec
  have hb := B.bytes
  have hr := B.returns
  have hts := atoms_spec (ws := wsX6_meal) B.pre
  have hown : s.vm.findClass RX6 = some m.cls := findClass_of_methodNamed B.named
  have hlocks := B.notSynchronized
  subst hsz
  have hD1 := hD0.self (sz := s.heap.size)
  generalize hAe : va_A (mw a c S) s.heap.size = A at hD1 ⊢
  have hA : ∀ q : Nat, s.heap.size ≤ q → A q := fun q h => by rw [← hAe]; exact Or.inr h
  have hD : ∀ S2 : St, va_D A (mw a c S2) := gD mw_F hD1
  have hS : va_S A s.heap s.heap [] := va_S.rf
  have hinX6 : ∀ w ∈ wsX60, w ∈ wsX6_meal := by decide +kernel
  have kf13 := hts (.fieldLink RX6 13 "CanteenPlanModel" "bars" "[I") (by decide +kernel)
  have kf60 := hts (.fieldLink RX6 60 "CanteenPlanModel" "thrown" "I") (by decide +kernel)
  have kf71 := hts (.fieldLink RX6 71 "CanteenPlanModel" "meals" "I") (by decide +kernel)
  have kf9 := hts (.fieldLink RX6 9 "CanteenPlanModel" "in" "[I") (by decide +kernel)
  have hl := lv_entry ([.ref (a 0), .int p0, .int p1]) (n := 3) (Nat.le_of_ble_eq_true rfl)
  rw [lg_entry_eq]
  generalize (lg_sl ([.ref (a 0), .int p0, .int p1]) ++ List.replicate (3 - (lg_sl ([.ref (a 0), .int p0, .int p1])).length) Slot.unset).toArray = ls at hl ⊢
  have hl : lv_has ls 3 [(0, .ref (a 0)), (1, .int p0), (2, .int p1)] := hl
  have key : ∀ n : Nat, (∀ (xl1 : Int32) (xl2 : Int32) (xs0 : Int32) (S : St) (H : Heap) (locs : List Loc) (ls : Array Slot), LX6_meal post n xl1 xl2 xs0 S → va_P D vwCl (mw a c S) H → va_S A s.heap H locs → lv_has ls 3 [(0, .ref (a 0)), (1, .int xl1), (2, .int xl2)] → W p l e ((headSpec wsX6_meal ({ frames := 1, cells := 0, slots := 0, locals := 22 })).room) s m ([.ref (a 0), .int p0, .int p1]).toArray below meth c9 H locs 0 0 (MQ below (va_Qi post (gB D (mw a c)) A) ([.ref (a 0), .int p0, .int p1]).toArray s 0 0 A) (F0 m 47 ls [.int xs0, .ref (a 0)])) := by
    intro n
    induction n with
    | zero => exact fun xl1 xl2 xs0 S H locs ls h => h.elim
    | succ n ih =>
      intro xl1 xl2 xs0 S H locs ls h hP hS hl
      have h : BX6_meal_0 (LX6_meal post n) post xl1 xl2 xs0 S := h
      unfold BX6_meal_0 at h
      refine lv_iconst (v := 2) hx hb dX6_meal_47 (by decide) ?_
      refine k_i (k_runV mns_ok ⟨hx, hb, hml, hown, hts⟩ (tX6_bad l D a c _ xs0 2 S _ h) (cwV 2 hts gX6_meal_X6_bad rfl rfl rfl (by decide +kernel) ⟨Nat.le_of_ble_eq_true rfl, Nat.le_of_ble_eq_true rfl⟩) (va_recv hK hP (ci := 6) (q0 := 0) rfl rfl) hP hK (hD S) hN rfl rfl hl.1 rfl (lv_room (Nat.le_of_ble_eq_true rfl)) dX6_meal_48 ⟨Nat.le_of_ble_eq_true rfl, Nat.le_of_ble_eq_true rfl⟩) hS (hD S) hA (fun x21 S20 H locs h hP hS => ?_)
      refine lv_if_eq (tgt := 56) hx hb dX6_meal_51 (by decide) (fun c22 => ?_) (fun c22 => ?_)
      · have h := h.1 c22
        refine lv_aload_n hx hb dX6_meal_56 rfl (lv_at hl 0 rfl) ?_
        refine va_get (D := D) (ci := 6) (v := .ref (a 1)) (C := RX6) (T := TX6) (N := 36) hx hb hts hinX6 hown hK hP 0 rfl rfl 1 (by decide) kf9 (fun _ h9 => h9) rfl dX6_meal_57 ?_
        refine lv_aload_n hx hb dX6_meal_60 rfl (lv_at hl 0 rfl) ?_
        refine va_get (D := D) (ci := 6) (v := .int (S20.1 1)) (C := RX6) (T := TX6) (N := 36) hx hb hts hinX6 hown hK hP 0 rfl rfl 4 (by decide) kf71 (fun _ h9 => h9) rfl dX6_meal_61 ?_
        refine lv_iload_n hx hb dX6_meal_64 rfl (lv_at hl 1 rfl) ?_
        obtain ⟨b23, h⟩ := h
        refine va_iast hx hb hK hP (hD S20) hS 1 0 rfl rfl b23 dX6_meal_65 (fun H locs hP _ hS => ?_)
        obtain ⟨S24, eS24⟩ : ∃ z : St, z = sR S20 0 (upd (S20.2.2 0) (S20.1 1).toNatClampNeg xl1) := ⟨_, rfl⟩
        have hP : va_P D vwCl (mw a c S24) H := by rw [eS24]; exact hP
        have h := h S24 eS24
        refine lv_aload_n hx hb dX6_meal_66 rfl (lv_at hl 0 rfl) ?_
        refine va_get (D := D) (ci := 6) (v := .ref (a 2)) (C := RX6) (T := TX6) (N := 36) hx hb hts hinX6 hown hK hP 0 rfl rfl 2 (by decide) kf13 (fun _ h9 => h9) rfl dX6_meal_67 ?_
        refine lv_aload_n hx hb dX6_meal_70 rfl (lv_at hl 0 rfl) ?_
        refine va_get (D := D) (ci := 6) (v := .int (S24.1 1)) (C := RX6) (T := TX6) (N := 36) hx hb hts hinX6 hown hK hP 0 rfl rfl 4 (by decide) kf71 (fun _ h9 => h9) rfl dX6_meal_71 ?_
        refine lv_iload_n hx hb dX6_meal_74 rfl (lv_at hl 2 rfl) ?_
        obtain ⟨b25, h⟩ := h
        refine va_iast hx hb hK hP (hD S24) hS 2 1 rfl rfl b25 dX6_meal_75 (fun H locs hP _ hS => ?_)
        obtain ⟨S26, eS26⟩ : ∃ z : St, z = sR S24 1 (upd (S24.2.2 1) (S24.1 1).toNatClampNeg xl2) := ⟨_, rfl⟩
        have hP : va_P D vwCl (mw a c S26) H := by rw [eS26]; exact hP
        have h := h S26 eS26
        refine lv_aload_n hx hb dX6_meal_76 rfl (lv_at hl 0 rfl) ?_
        refine lv_dup hx hb dX6_meal_77 rfl ?_
        refine va_get (D := D) (ci := 6) (v := .int (S26.1 1)) (C := RX6) (T := TX6) (N := 36) hx hb hts hinX6 hown hK hP 0 rfl rfl 4 (by decide) kf71 (fun _ h9 => h9) rfl dX6_meal_78 ?_
        refine lv_iconst (v := 1) hx hb dX6_meal_81 (by decide) ?_
        refine lv_iadd hx hb dX6_meal_82 ?_
        refine va_put (D := D) (ci := 6) (v := .int ((S26.1 1) + 1)) (ty := .int) (C := RX6) (T := TX6) (N := 36) hx hb hts hinX6 tyX6 tyX6_ok nmX6 hown hK hP (hD S26) hS 0 rfl rfl 4 (by decide) kf71 (fun _ h9 => h9) rfl (by decide +kernel) rfl rfl (Nat.le_of_ble_eq_true rfl) dX6_meal_83 (fun H locs hP _ hS => ?_)
        obtain ⟨S27, eS27⟩ : ∃ z : St, z = sI S26 1 ((S26.1 1) + 1) := ⟨_, rfl⟩
        have hP : va_P D vwCl (mw a c S27) H := by rw [eS27]; exact hP
        have h := h S27 eS27
        refine lv_aload_n hx hb dX6_meal_86 rfl (lv_at hl 0 rfl) ?_
        refine va_get (D := D) (ci := 6) (v := .int (S27.1 1)) (C := RX6) (T := TX6) (N := 36) hx hb hts hinX6 hown hK hP 0 rfl rfl 4 (by decide) kf71 (fun _ h9 => h9) rfl dX6_meal_87 ?_
        refine lv_iconst (v := 1) hx hb dX6_meal_90 (by decide) ?_
        refine lv_isub hx hb dX6_meal_91 ?_
        exact g_reti hx hb hr hlocks h hP hS dX6_meal_92
      · have h := h.2 c22
        refine lv_iconst (v := 0) hx hb dX6_meal_54 (by decide) ?_
        exact g_reti hx hb hr hlocks h hP hS dX6_meal_55
  unfold PX6_meal at h
  refine lv_aload_n hx hb dX6_meal_0 rfl (lv_at hl 0 rfl) ?_
  refine lv_iconst (v := 0) hx hb dX6_meal_1 (by decide) ?_
  refine va_put (D := D) (ci := 6) (v := .int 0) (ty := .int) (C := RX6) (T := TX6) (N := 36) hx hb hts hinX6 tyX6 tyX6_ok nmX6 hown hK hP (hD S) hS 0 rfl rfl 0 (by decide) kf60 (fun _ h9 => h9) rfl (by decide +kernel) rfl rfl (Nat.le_of_ble_eq_true rfl) dX6_meal_2 (fun H locs hP _ hS => ?_)
  obtain ⟨S1, eS1⟩ : ∃ z : St, z = sI S 0 0 := ⟨_, rfl⟩
  have hP : va_P D vwCl (mw a c S1) H := by rw [eS1]; exact hP
  have h := h S1 eS1
  refine lv_aload_n hx hb dX6_meal_5 rfl (lv_at hl 0 rfl) ?_
  refine lv_iload_n hx hb dX6_meal_6 rfl (lv_at hl 1 rfl) ?_
  refine k_i (k_runS mns_ok ⟨hx, hb, hml, hown, hts⟩ (tX6_isBits l D a c _ p0 S1 _ h) (va_cwS 1 hts gX6_meal_X6_isBits rfl rfl rfl (by decide +kernel) ⟨Nat.le_of_ble_eq_true rfl, Nat.le_of_ble_eq_true rfl⟩) hP hK (hD S1) hN rfl rfl hl.1 rfl (lv_room (Nat.le_of_ble_eq_true rfl)) dX6_meal_7 ⟨Nat.le_of_ble_eq_true rfl, Nat.le_of_ble_eq_true rfl⟩) hS (hD S1) hA (fun x3 S2 H locs h hP hS => ?_)
  refine lv_if_eq (tgt := 20) hx hb dX6_meal_10 (by decide) (fun c4 => ?_) (fun c4 => ?_)
  · have h := h.1 c4
    refine lv_iconst (v := 1) hx hb dX6_meal_20 (by decide) ?_
    refine lv_goto (tgt := 25) hx hb dX6_meal_21 (by decide) ?_
    refine lv_iconst (v := 1) hx hb dX6_meal_25 (by decide) ?_
    refine k_i (k_runV mns_ok ⟨hx, hb, hml, hown, hts⟩ (tX6_bad l D a c _ 1 1 S2 _ h) (cwV 2 hts gX6_meal_X6_bad rfl rfl rfl (by decide +kernel) ⟨Nat.le_of_ble_eq_true rfl, Nat.le_of_ble_eq_true rfl⟩) (va_recv hK hP (ci := 6) (q0 := 0) rfl rfl) hP hK (hD S2) hN rfl rfl hl.1 rfl (lv_room (Nat.le_of_ble_eq_true rfl)) dX6_meal_26 ⟨Nat.le_of_ble_eq_true rfl, Nat.le_of_ble_eq_true rfl⟩) hS (hD S2) hA (fun x6 S5 H locs h hP hS => ?_)
    refine lv_if_ne (tgt := 54) hx hb dX6_meal_29 (by decide) (fun c7 => ?_) (fun c7 => ?_)
    · have h := h.2 c7
      refine lv_iconst (v := 0) hx hb dX6_meal_54 (by decide) ?_
      exact g_reti hx hb hr hlocks h hP hS dX6_meal_55
    · have h := h.1 c7
      refine lv_aload_n hx hb dX6_meal_32 rfl (lv_at hl 0 rfl) ?_
      refine lv_aload_n hx hb dX6_meal_33 rfl (lv_at hl 0 rfl) ?_
      refine va_get (D := D) (ci := 6) (v := .int (S5.1 1)) (C := RX6) (T := TX6) (N := 36) hx hb hts hinX6 hown hK hP 0 rfl rfl 4 (by decide) kf71 (fun _ h9 => h9) rfl dX6_meal_34 ?_
      refine lv_bipush (v := 6) hx hb dX6_meal_37 (by decide) ?_
      refine lv_icmp_ne (tgt := 46) hx hb dX6_meal_39 (by decide) (fun c8 => ?_) (fun c8 => ?_)
      · have h := h.2 c8
        refine lv_iconst (v := 0) hx hb dX6_meal_46 (by decide) ?_
        exact (key n) p0 p1 0 S5 _ _ _ h hP hS (lv_sub hl [0, 1, 2] rfl)
      · have h := h.1 c8
        refine lv_iconst (v := 1) hx hb dX6_meal_42 (by decide) ?_
        refine lv_goto (tgt := 47) hx hb dX6_meal_43 (by decide) ?_
        exact (key n) p0 p1 1 S5 _ _ _ h hP hS (lv_sub hl [0, 1, 2] rfl)
  · have h := h.2 c4
    refine lv_iload_n hx hb dX6_meal_13 rfl (lv_at hl 2 rfl) ?_
    refine k_i (k_runS mns_ok ⟨hx, hb, hml, hown, hts⟩ (tX6_isBits l D a c _ p1 S2 _ h) (va_cwS 1 hts gX6_meal_X6_isBits rfl rfl rfl (by decide +kernel) ⟨Nat.le_of_ble_eq_true rfl, Nat.le_of_ble_eq_true rfl⟩) hP hK (hD S2) hN rfl rfl hl.1 rfl (lv_room (Nat.le_of_ble_eq_true rfl)) dX6_meal_14 ⟨Nat.le_of_ble_eq_true rfl, Nat.le_of_ble_eq_true rfl⟩) hS (hD S2) hA (fun x10 S9 H locs h hP hS => ?_)
    refine lv_if_ne (tgt := 24) hx hb dX6_meal_17 (by decide) (fun c11 => ?_) (fun c11 => ?_)
    · have h := h.2 c11
      refine lv_iconst (v := 0) hx hb dX6_meal_24 (by decide) ?_
      refine lv_iconst (v := 1) hx hb dX6_meal_25 (by decide) ?_
      refine k_i (k_runV mns_ok ⟨hx, hb, hml, hown, hts⟩ (tX6_bad l D a c _ 0 1 S9 _ h) (cwV 2 hts gX6_meal_X6_bad rfl rfl rfl (by decide +kernel) ⟨Nat.le_of_ble_eq_true rfl, Nat.le_of_ble_eq_true rfl⟩) (va_recv hK hP (ci := 6) (q0 := 0) rfl rfl) hP hK (hD S9) hN rfl rfl hl.1 rfl (lv_room (Nat.le_of_ble_eq_true rfl)) dX6_meal_26 ⟨Nat.le_of_ble_eq_true rfl, Nat.le_of_ble_eq_true rfl⟩) hS (hD S9) hA (fun x13 S12 H locs h hP hS => ?_)
      refine lv_if_ne (tgt := 54) hx hb dX6_meal_29 (by decide) (fun c14 => ?_) (fun c14 => ?_)
      · have h := h.2 c14
        refine lv_iconst (v := 0) hx hb dX6_meal_54 (by decide) ?_
        exact g_reti hx hb hr hlocks h hP hS dX6_meal_55
      · have h := h.1 c14
        refine lv_aload_n hx hb dX6_meal_32 rfl (lv_at hl 0 rfl) ?_
        refine lv_aload_n hx hb dX6_meal_33 rfl (lv_at hl 0 rfl) ?_
        refine va_get (D := D) (ci := 6) (v := .int (S12.1 1)) (C := RX6) (T := TX6) (N := 36) hx hb hts hinX6 hown hK hP 0 rfl rfl 4 (by decide) kf71 (fun _ h9 => h9) rfl dX6_meal_34 ?_
        refine lv_bipush (v := 6) hx hb dX6_meal_37 (by decide) ?_
        refine lv_icmp_ne (tgt := 46) hx hb dX6_meal_39 (by decide) (fun c15 => ?_) (fun c15 => ?_)
        · have h := h.2 c15
          refine lv_iconst (v := 0) hx hb dX6_meal_46 (by decide) ?_
          exact (key n) p0 p1 0 S12 _ _ _ h hP hS (lv_sub hl [0, 1, 2] rfl)
        · have h := h.1 c15
          refine lv_iconst (v := 1) hx hb dX6_meal_42 (by decide) ?_
          refine lv_goto (tgt := 47) hx hb dX6_meal_43 (by decide) ?_
          exact (key n) p0 p1 1 S12 _ _ _ h hP hS (lv_sub hl [0, 1, 2] rfl)
    · have h := h.1 c11
      refine lv_iconst (v := 1) hx hb dX6_meal_20 (by decide) ?_
      refine lv_goto (tgt := 25) hx hb dX6_meal_21 (by decide) ?_
      refine lv_iconst (v := 1) hx hb dX6_meal_25 (by decide) ?_
      refine k_i (k_runV mns_ok ⟨hx, hb, hml, hown, hts⟩ (tX6_bad l D a c _ 1 1 S9 _ h) (cwV 2 hts gX6_meal_X6_bad rfl rfl rfl (by decide +kernel) ⟨Nat.le_of_ble_eq_true rfl, Nat.le_of_ble_eq_true rfl⟩) (va_recv hK hP (ci := 6) (q0 := 0) rfl rfl) hP hK (hD S9) hN rfl rfl hl.1 rfl (lv_room (Nat.le_of_ble_eq_true rfl)) dX6_meal_26 ⟨Nat.le_of_ble_eq_true rfl, Nat.le_of_ble_eq_true rfl⟩) hS (hD S9) hA (fun x17 S16 H locs h hP hS => ?_)
      refine lv_if_ne (tgt := 54) hx hb dX6_meal_29 (by decide) (fun c18 => ?_) (fun c18 => ?_)
      · have h := h.2 c18
        refine lv_iconst (v := 0) hx hb dX6_meal_54 (by decide) ?_
        exact g_reti hx hb hr hlocks h hP hS dX6_meal_55
      · have h := h.1 c18
        refine lv_aload_n hx hb dX6_meal_32 rfl (lv_at hl 0 rfl) ?_
        refine lv_aload_n hx hb dX6_meal_33 rfl (lv_at hl 0 rfl) ?_
        refine va_get (D := D) (ci := 6) (v := .int (S16.1 1)) (C := RX6) (T := TX6) (N := 36) hx hb hts hinX6 hown hK hP 0 rfl rfl 4 (by decide) kf71 (fun _ h9 => h9) rfl dX6_meal_34 ?_
        refine lv_bipush (v := 6) hx hb dX6_meal_37 (by decide) ?_
        refine lv_icmp_ne (tgt := 46) hx hb dX6_meal_39 (by decide) (fun c19 => ?_) (fun c19 => ?_)
        · have h := h.2 c19
          refine lv_iconst (v := 0) hx hb dX6_meal_46 (by decide) ?_
          exact (key n) p0 p1 0 S16 _ _ _ h hP hS (lv_sub hl [0, 1, 2] rfl)
        · have h := h.1 c19
          refine lv_iconst (v := 1) hx hb dX6_meal_42 (by decide) ?_
          refine lv_goto (tgt := 47) hx hb dX6_meal_43 (by decide) ?_
          exact (key n) p0 p1 1 S16 _ _ _ h hP hS (lv_sub hl [0, 1, 2] rfl)
def PX6_isMeal (p0 : Int32) (S : St) (post : Int32 → St → Prop) : Prop := ((p0 < 0 → ∀ S2 : St, S2 = sI S 0 1 → (((S2.1 0) = 0 → post 1 S2) ∧ (¬ (S2.1 0) = 0 → post 0 S2))) ∧ (¬ p0 < 0 → ((p0 < (S.1 1) → ∀ S5 : St, S5 = sI S 0 0 → (((S5.1 0) = 0 → post 1 S5) ∧ (¬ (S5.1 0) = 0 → post 0 S5))) ∧ (¬ p0 < (S.1 1) → ∀ S7 : St, S7 = sI S 0 1 → (((S7.1 0) = 0 → post 1 S7) ∧ (¬ (S7.1 0) = 0 → post 0 S7))))))
set_option maxHeartbeats 4000000 in
set_option maxRecDepth 100000 in
theorem tX6_isMeal (l : Launch) (D : va_G) (a : Nat → Nat) (c : Nat → ClassId) (sz : Nat) (p0 : Int32) (S : St) (post : Int32 → St → Prop) (h : PX6_isMeal p0 S post) : Met l yX6_isMeal wsX6_isMeal ({ frames := 0, cells := 0, slots := 0, locals := 0 }) (va_Pc [.ref (a 0), .int p0] (gP D (mw a c) (mty c) mns S sz)) (va_Qi post (gB D (mw a c)) (va_A (mw a c S) sz)) 0 0 (va_A (mw a c S) sz) := by
  refine Met.ofW (cc := cX6_isMeal) (maxL := 2) (ret := (some .boolean)) (by decide) rfl ?_
  intro p e s m args below meth c9 s₁ B hml hv
  obtain ⟨rfl, hsz, hP, hK, hD0, hN⟩ := hv
  have hx := B.exec
  have hb := B.bytes
  have hr := B.returns
  have hts := atoms_spec (ws := wsX6_isMeal) B.pre
  have hown : s.vm.findClass RX6 = some m.cls := findClass_of_methodNamed B.named
  have hlocks := B.notSynchronized
  subst hsz
  have hD1 := hD0.self (sz := s.heap.size)
  generalize hAe : va_A (mw a c S) s.heap.size = A at hD1 ⊢
  have hA : ∀ q : Nat, s.heap.size ≤ q → A q := fun q h => by rw [← hAe]; exact Or.inr h
  have hD : ∀ S2 : St, va_D A (mw a c S2) := gD mw_F hD1
  have hS : va_S A s.heap s.heap [] := va_S.rf
  have hinX6 : ∀ w ∈ wsX60, w ∈ wsX6_isMeal := by decide +kernel
  have kf60 := hts (.fieldLink RX6 60 "CanteenPlanModel" "thrown" "I") (by decide +kernel)
  have kf71 := hts (.fieldLink RX6 71 "CanteenPlanModel" "meals" "I") (by decide +kernel)
  have hl := lv_entry ([.ref (a 0), .int p0]) (n := 2) (Nat.le_of_ble_eq_true rfl)
  rw [lg_entry_eq]
  generalize (lg_sl ([.ref (a 0), .int p0]) ++ List.replicate (2 - (lg_sl ([.ref (a 0), .int p0])).length) Slot.unset).toArray = ls at hl ⊢
  have hl : lv_has ls 2 [(0, .ref (a 0)), (1, .int p0)] := hl
  unfold PX6_isMeal at h
  refine lv_aload_n hx hb dX6_isMeal_0 rfl (lv_at hl 0 rfl) ?_
  refine lv_iload_n hx hb dX6_isMeal_1 rfl (lv_at hl 1 rfl) ?_
  refine lv_if_lt (tgt := 13) hx hb dX6_isMeal_2 (by decide) (fun c1 => ?_) (fun c1 => ?_)
  · have h := h.1 c1
    refine lv_iconst (v := 1) hx hb dX6_isMeal_13 (by decide) ?_
    refine lv_goto (tgt := 18) hx hb dX6_isMeal_14 (by decide) ?_
    refine va_put (D := D) (ci := 6) (v := .int 1) (ty := .int) (C := RX6) (T := TX6) (N := 36) hx hb hts hinX6 tyX6 tyX6_ok nmX6 hown hK hP (hD S) hS 0 rfl rfl 0 (by decide) kf60 (fun _ h9 => h9) rfl (by decide +kernel) rfl rfl (Nat.le_of_ble_eq_true rfl) dX6_isMeal_18 (fun H locs hP _ hS => ?_)
    obtain ⟨S2, eS2⟩ : ∃ z : St, z = sI S 0 1 := ⟨_, rfl⟩
    have hP : va_P D vwCl (mw a c S2) H := by rw [eS2]; exact hP
    have h := h S2 eS2
    refine lv_aload_n hx hb dX6_isMeal_21 rfl (lv_at hl 0 rfl) ?_
    refine va_get (D := D) (ci := 6) (v := .int (S2.1 0)) (C := RX6) (T := TX6) (N := 36) hx hb hts hinX6 hown hK hP 0 rfl rfl 0 (by decide) kf60 (fun _ h9 => h9) rfl dX6_isMeal_22 ?_
    refine lv_if_ne (tgt := 32) hx hb dX6_isMeal_25 (by decide) (fun c3 => ?_) (fun c3 => ?_)
    · have h := h.2 c3
      refine lv_iconst (v := 0) hx hb dX6_isMeal_32 (by decide) ?_
      exact g_retz hx hb hr hlocks (Or.inl rfl) h hP hS dX6_isMeal_33
    · have h := h.1 c3
      refine lv_iconst (v := 1) hx hb dX6_isMeal_28 (by decide) ?_
      refine lv_goto (tgt := 33) hx hb dX6_isMeal_29 (by decide) ?_
      exact g_retz hx hb hr hlocks (Or.inr rfl) h hP hS dX6_isMeal_33
  · have h := h.2 c1
    refine lv_iload_n hx hb dX6_isMeal_5 rfl (lv_at hl 1 rfl) ?_
    refine lv_aload_n hx hb dX6_isMeal_6 rfl (lv_at hl 0 rfl) ?_
    refine va_get (D := D) (ci := 6) (v := .int (S.1 1)) (C := RX6) (T := TX6) (N := 36) hx hb hts hinX6 hown hK hP 0 rfl rfl 4 (by decide) kf71 (fun _ h9 => h9) rfl dX6_isMeal_7 ?_
    refine lv_icmp_lt (tgt := 17) hx hb dX6_isMeal_10 (by decide) (fun c4 => ?_) (fun c4 => ?_)
    · have h := h.1 c4
      refine lv_iconst (v := 0) hx hb dX6_isMeal_17 (by decide) ?_
      refine va_put (D := D) (ci := 6) (v := .int 0) (ty := .int) (C := RX6) (T := TX6) (N := 36) hx hb hts hinX6 tyX6 tyX6_ok nmX6 hown hK hP (hD S) hS 0 rfl rfl 0 (by decide) kf60 (fun _ h9 => h9) rfl (by decide +kernel) rfl rfl (Nat.le_of_ble_eq_true rfl) dX6_isMeal_18 (fun H locs hP _ hS => ?_)
      obtain ⟨S5, eS5⟩ : ∃ z : St, z = sI S 0 0 := ⟨_, rfl⟩
      have hP : va_P D vwCl (mw a c S5) H := by rw [eS5]; exact hP
      have h := h S5 eS5
      refine lv_aload_n hx hb dX6_isMeal_21 rfl (lv_at hl 0 rfl) ?_
      refine va_get (D := D) (ci := 6) (v := .int (S5.1 0)) (C := RX6) (T := TX6) (N := 36) hx hb hts hinX6 hown hK hP 0 rfl rfl 0 (by decide) kf60 (fun _ h9 => h9) rfl dX6_isMeal_22 ?_
      refine lv_if_ne (tgt := 32) hx hb dX6_isMeal_25 (by decide) (fun c6 => ?_) (fun c6 => ?_)
      · have h := h.2 c6
        refine lv_iconst (v := 0) hx hb dX6_isMeal_32 (by decide) ?_
        exact g_retz hx hb hr hlocks (Or.inl rfl) h hP hS dX6_isMeal_33
      · have h := h.1 c6
        refine lv_iconst (v := 1) hx hb dX6_isMeal_28 (by decide) ?_
        refine lv_goto (tgt := 33) hx hb dX6_isMeal_29 (by decide) ?_
        exact g_retz hx hb hr hlocks (Or.inr rfl) h hP hS dX6_isMeal_33
    · have h := h.2 c4
      refine lv_iconst (v := 1) hx hb dX6_isMeal_13 (by decide) ?_
      refine lv_goto (tgt := 18) hx hb dX6_isMeal_14 (by decide) ?_
      refine va_put (D := D) (ci := 6) (v := .int 1) (ty := .int) (C := RX6) (T := TX6) (N := 36) hx hb hts hinX6 tyX6 tyX6_ok nmX6 hown hK hP (hD S) hS 0 rfl rfl 0 (by decide) kf60 (fun _ h9 => h9) rfl (by decide +kernel) rfl rfl (Nat.le_of_ble_eq_true rfl) dX6_isMeal_18 (fun H locs hP _ hS => ?_)
      obtain ⟨S7, eS7⟩ : ∃ z : St, z = sI S 0 1 := ⟨_, rfl⟩
      have hP : va_P D vwCl (mw a c S7) H := by rw [eS7]; exact hP
      have h := h S7 eS7
      refine lv_aload_n hx hb dX6_isMeal_21 rfl (lv_at hl 0 rfl) ?_
      refine va_get (D := D) (ci := 6) (v := .int (S7.1 0)) (C := RX6) (T := TX6) (N := 36) hx hb hts hinX6 hown hK hP 0 rfl rfl 0 (by decide) kf60 (fun _ h9 => h9) rfl dX6_isMeal_22 ?_
      refine lv_if_ne (tgt := 32) hx hb dX6_isMeal_25 (by decide) (fun c8 => ?_) (fun c8 => ?_)
      · have h := h.2 c8
        refine lv_iconst (v := 0) hx hb dX6_isMeal_32 (by decide) ?_
        exact g_retz hx hb hr hlocks (Or.inl rfl) h hP hS dX6_isMeal_33
      · have h := h.1 c8
        refine lv_iconst (v := 1) hx hb dX6_isMeal_28 (by decide) ?_
        refine lv_goto (tgt := 33) hx hb dX6_isMeal_29 (by decide) ?_
        exact g_retz hx hb hr hlocks (Or.inr rfl) h hP hS dX6_isMeal_33
def BX6_ate_0 (X : Int32 → Int32 → Int32 → St → Prop) (post : Int32 → St → Prop) (xl1 : Int32) (xl2 : Int32) (xs0 : Int32) (S : St) : Prop := PX6_bad xs0 2 S (fun x7 S6 => ((x7 = 0 → (vp_in xl1 6 ∧ ∀ x10 : Int32, x10 = (S6.2.2 2 xl1.toNatClampNeg) → (vp_in xl1 6 ∧ ∀ S12 : St, S12 = sR S6 2 (upd (S6.2.2 2) xl1.toNatClampNeg xl2) → post x10 S12))) ∧ (¬ x7 = 0 → post 0 S6)))
def LX6_ate (post : Int32 → St → Prop) : Nat → Int32 → Int32 → Int32 → St → Prop
  | 0, _, _, _, _ => False
  | n + 1, xl1, xl2, xs0, S => BX6_ate_0 (LX6_ate post n) post xl1 xl2 xs0 S
def PX6_ate (n : Nat) (p0 : Int32) (p1 : Int32) (S : St) (post : Int32 → St → Prop) : Prop := PX6_isMeal p0 S (fun x2 S1 => ((x2 = 0 → post 0 S1) ∧ (¬ x2 = 0 → ((p1 < 0 → LX6_ate post n p0 p1 1 S1) ∧ (¬ p1 < 0 → ((p1 ≤ 1000 → LX6_ate post n p0 p1 0 S1) ∧ (¬ p1 ≤ 1000 → LX6_ate post n p0 p1 1 S1)))))))
set_option maxHeartbeats 4000000 in
set_option maxRecDepth 100000 in
theorem tX6_ate (l : Launch) (D : va_G) (a : Nat → Nat) (c : Nat → ClassId) (sz : Nat) (n : Nat) (p0 : Int32) (p1 : Int32) (S : St) (post : Int32 → St → Prop) (h : PX6_ate n p0 p1 S post) : Met l yX6_ate wsX6_ate ({ frames := 1, cells := 0, slots := 0, locals := 22 }) (va_Pc [.ref (a 0), .int p0, .int p1] (gP D (mw a c) (mty c) mns S sz)) (va_Qi post (gB D (mw a c)) (va_A (mw a c S) sz)) 0 0 (va_A (mw a c S) sz) := by
  refine Met.ofW (cc := cX6_ate) (maxL := 4) (ret := (some .int)) (by decide) rfl ?_
  intro p e s m args below meth c9 s₁ B hml hv
  obtain ⟨rfl, hsz, hP, hK, hD0, hN⟩ := hv
  have hx := B.exec
  have hb := B.bytes
  have hr := B.returns
  have hts := atoms_spec (ws := wsX6_ate) B.pre
  have hown : s.vm.findClass RX6 = some m.cls := findClass_of_methodNamed B.named
  have hlocks := B.notSynchronized
  subst hsz
  have hD1 := hD0.self (sz := s.heap.size)
  generalize hAe : va_A (mw a c S) s.heap.size = A at hD1 ⊢
  have hA : ∀ q : Nat, s.heap.size ≤ q → A q := fun q h => by rw [← hAe]; exact Or.inr h
  have hD : ∀ S2 : St, va_D A (mw a c S2) := gD mw_F hD1
  have hS : va_S A s.heap s.heap [] := va_S.rf
  have hinX6 : ∀ w ∈ wsX60, w ∈ wsX6_ate := by decide +kernel
  have kf16 := hts (.fieldLink RX6 16 "CanteenPlanModel" "next" "[I") (by decide +kernel)
  have hl := lv_entry ([.ref (a 0), .int p0, .int p1]) (n := 4) (Nat.le_of_ble_eq_true rfl)
  rw [lg_entry_eq]
  generalize (lg_sl ([.ref (a 0), .int p0, .int p1]) ++ List.replicate (4 - (lg_sl ([.ref (a 0), .int p0, .int p1])).length) Slot.unset).toArray = ls at hl ⊢
  have hl : lv_has ls 4 [(0, .ref (a 0)), (1, .int p0), (2, .int p1)] := hl
  have key : ∀ n : Nat, (∀ (xl1 : Int32) (xl2 : Int32) (xs0 : Int32) (S : St) (H : Heap) (locs : List Loc) (ls : Array Slot), LX6_ate post n xl1 xl2 xs0 S → va_P D vwCl (mw a c S) H → va_S A s.heap H locs → lv_has ls 4 [(0, .ref (a 0)), (1, .int xl1), (2, .int xl2)] → W p l e ((headSpec wsX6_ate ({ frames := 1, cells := 0, slots := 0, locals := 22 })).room) s m ([.ref (a 0), .int p0, .int p1]).toArray below meth c9 H locs 0 0 (MQ below (va_Qi post (gB D (mw a c)) A) ([.ref (a 0), .int p0, .int p1]).toArray s 0 0 A) (F0 m 25 ls [.int xs0, .ref (a 0)])) := by
    intro n
    induction n with
    | zero => exact fun xl1 xl2 xs0 S H locs ls h => h.elim
    | succ n ih =>
      intro xl1 xl2 xs0 S H locs ls h hP hS hl
      have h : BX6_ate_0 (LX6_ate post n) post xl1 xl2 xs0 S := h
      unfold BX6_ate_0 at h
      refine lv_iconst (v := 2) hx hb dX6_ate_25 (by decide) ?_
      refine k_i (k_runV mns_ok ⟨hx, hb, hml, hown, hts⟩ (tX6_bad l D a c _ xs0 2 S _ h) (cwV 2 hts gX6_ate_X6_bad rfl rfl rfl (by decide +kernel) ⟨Nat.le_of_ble_eq_true rfl, Nat.le_of_ble_eq_true rfl⟩) (va_recv hK hP (ci := 6) (q0 := 0) rfl rfl) hP hK (hD S) hN rfl rfl hl.1 rfl (lv_room (Nat.le_of_ble_eq_true rfl)) dX6_ate_26 ⟨Nat.le_of_ble_eq_true rfl, Nat.le_of_ble_eq_true rfl⟩) hS (hD S) hA (fun x7 S6 H locs h hP hS => ?_)
      refine lv_if_eq (tgt := 34) hx hb dX6_ate_29 (by decide) (fun c8 => ?_) (fun c8 => ?_)
      · have h := h.1 c8
        refine lv_aload_n hx hb dX6_ate_34 rfl (lv_at hl 0 rfl) ?_
        refine va_get (D := D) (ci := 6) (v := .ref (a 3)) (C := RX6) (T := TX6) (N := 36) hx hb hts hinX6 hown hK hP 0 rfl rfl 3 (by decide) kf16 (fun _ h9 => h9) rfl dX6_ate_35 ?_
        refine lv_iload_n hx hb dX6_ate_38 rfl (lv_at hl 1 rfl) ?_
        obtain ⟨b9, h⟩ := h
        refine va_iald hx hb hK hP 3 2 rfl rfl b9 dX6_ate_39 ?_
        refine lv_topi (fun x10 ex10 => ?_)
        have h := h x10 ex10
        refine lv_istore_n (lv' := [(3, .int x10), (0, .ref (a 0)), (1, .int xl1), (2, .int xl2)]) hx hb dX6_ate_40 rfl hl (by decide) rfl (fun ls hl => ?_)
        refine lv_aload_n hx hb dX6_ate_41 rfl (lv_at hl 1 rfl) ?_
        refine va_get (D := D) (ci := 6) (v := .ref (a 3)) (C := RX6) (T := TX6) (N := 36) hx hb hts hinX6 hown hK hP 0 rfl rfl 3 (by decide) kf16 (fun _ h9 => h9) rfl dX6_ate_42 ?_
        refine lv_iload_n hx hb dX6_ate_45 rfl (lv_at hl 2 rfl) ?_
        refine lv_iload_n hx hb dX6_ate_46 rfl (lv_at hl 3 rfl) ?_
        obtain ⟨b11, h⟩ := h
        refine va_iast hx hb hK hP (hD S6) hS 3 2 rfl rfl b11 dX6_ate_47 (fun H locs hP _ hS => ?_)
        obtain ⟨S12, eS12⟩ : ∃ z : St, z = sR S6 2 (upd (S6.2.2 2) xl1.toNatClampNeg xl2) := ⟨_, rfl⟩
        have hP : va_P D vwCl (mw a c S12) H := by rw [eS12]; exact hP
        have h := h S12 eS12
        refine lv_iload_n hx hb dX6_ate_48 rfl (lv_at hl 0 rfl) ?_
        exact g_reti hx hb hr hlocks h hP hS dX6_ate_49
      · have h := h.2 c8
        refine lv_iconst (v := 0) hx hb dX6_ate_32 (by decide) ?_
        exact g_reti hx hb hr hlocks h hP hS dX6_ate_33
  unfold PX6_ate at h
  refine lv_aload_n hx hb dX6_ate_0 rfl (lv_at hl 0 rfl) ?_
  refine lv_iload_n hx hb dX6_ate_1 rfl (lv_at hl 1 rfl) ?_
  refine k_i (k_runV mns_ok ⟨hx, hb, hml, hown, hts⟩ (tX6_isMeal l D a c _ p0 S _ h) (cwV 1 hts gX6_ate_X6_isMeal rfl rfl rfl (by decide +kernel) ⟨Nat.le_of_ble_eq_true rfl, Nat.le_of_ble_eq_true rfl⟩) (va_recv hK hP (ci := 6) (q0 := 0) rfl rfl) hP hK (hD S) hN rfl rfl hl.1 rfl (lv_room (Nat.le_of_ble_eq_true rfl)) dX6_ate_2 ⟨Nat.le_of_ble_eq_true rfl, Nat.le_of_ble_eq_true rfl⟩) hS (hD S) hA (fun x2 S1 H locs h hP hS => ?_)
  refine lv_if_eq (tgt := 32) hx hb dX6_ate_5 (by decide) (fun c3 => ?_) (fun c3 => ?_)
  · have h := h.1 c3
    refine lv_iconst (v := 0) hx hb dX6_ate_32 (by decide) ?_
    exact g_reti hx hb hr hlocks h hP hS dX6_ate_33
  · have h := h.2 c3
    refine lv_aload_n hx hb dX6_ate_8 rfl (lv_at hl 0 rfl) ?_
    refine lv_iload_n hx hb dX6_ate_9 rfl (lv_at hl 2 rfl) ?_
    refine lv_if_lt (tgt := 20) hx hb dX6_ate_10 (by decide) (fun c4 => ?_) (fun c4 => ?_)
    · have h := h.1 c4
      refine lv_iconst (v := 1) hx hb dX6_ate_20 (by decide) ?_
      refine lv_goto (tgt := 25) hx hb dX6_ate_21 (by decide) ?_
      exact (key n) p0 p1 1 S1 _ _ _ h hP hS (lv_sub hl [0, 1, 2] rfl)
    · have h := h.2 c4
      refine lv_iload_n hx hb dX6_ate_13 rfl (lv_at hl 2 rfl) ?_
      refine lv_sipush (v := 1000) hx hb dX6_ate_14 (by decide) ?_
      refine lv_icmp_le (tgt := 24) hx hb dX6_ate_17 (by decide) (fun c5 => ?_) (fun c5 => ?_)
      · have h := h.1 c5
        refine lv_iconst (v := 0) hx hb dX6_ate_24 (by decide) ?_
        exact (key n) p0 p1 0 S1 _ _ _ h hP hS (lv_sub hl [0, 1, 2] rfl)
      · have h := h.2 c5
        refine lv_iconst (v := 1) hx hb dX6_ate_20 (by decide) ?_
        refine lv_goto (tgt := 25) hx hb dX6_ate_21 (by decide) ?_
        exact (key n) p0 p1 1 S1 _ _ _ h hP hS (lv_sub hl [0, 1, 2] rfl)
def BX6_day_0 (X : Nat → Int32 → Int32 → Int32 → St → Prop) (post : Int32 → St → Prop) (xl1 : Int32) (xl2 : Int32) (xs0 : Int32) (S : St) : Prop := PX6_bad xs0 2 S (fun x14 S13 => ((x14 = 0 → (vp_in (S13.1 2) 150 ∧ ∀ S17 : St, S17 = sR S13 3 (upd (S13.2.2 3) (S13.1 2).toNatClampNeg xl1) → (vp_in (S17.1 2) 150 ∧ ∀ S19 : St, S19 = sR S17 5 (upd (S17.2.2 5) (S17.1 2).toNatClampNeg (vp_nar .boolean 1)) → X 1 0 0 0 S19))) ∧ (¬ x14 = 0 → post 0 S13)))
def BX6_day_1 (X : Nat → Int32 → Int32 → Int32 → St → Prop) (post : Int32 → St → Prop) (xl1 : Int32) (xl2 : Int32) (xs0 : Int32) (S : St) : Prop := ((6 ≤ xl2 → ∀ S21 : St, S21 = sI S 2 ((S.1 2) + 1) → post ((S21.1 2) - 1) S21) ∧ (¬ 6 ≤ xl2 → (((S.1 1) ≤ xl2 → (vp_in ((6 * (S.1 2)) + xl2) 900 ∧ ∀ S24 : St, S24 = sR S 4 (upd (S.2.2 4) ((6 * (S.1 2)) + xl2).toNatClampNeg 0) → (vp_in xl2 6 ∧ ∀ S26 : St, S26 = sR S24 2 (upd (S24.2.2 2) xl2.toNatClampNeg 0) → ∀ x27 : Int32, x27 = xl2 + 1 → X 1 0 x27 0 S26))) ∧ (¬ (S.1 1) ≤ xl2 → (vp_in xl2 6 ∧ (vp_in ((6 * (S.1 2)) + xl2) 900 ∧ ∀ S30 : St, S30 = sR S 4 (upd (S.2.2 4) ((6 * (S.1 2)) + xl2).toNatClampNeg (S.2.2 2 xl2.toNatClampNeg)) → (vp_in xl2 6 ∧ ∀ S32 : St, S32 = sR S30 2 (upd (S30.2.2 2) xl2.toNatClampNeg 0) → ∀ x33 : Int32, x33 = xl2 + 1 → X 1 0 x33 0 S32)))))))
def LX6_day (post : Int32 → St → Prop) : Nat → Nat → Int32 → Int32 → Int32 → St → Prop
  | 0, _, _, _, _, _ => False
  | n + 1, 0, xl1, xl2, xs0, S => BX6_day_0 (LX6_day post n) post xl1 xl2 xs0 S
  | n + 1, 1, xl1, xl2, xs0, S => BX6_day_1 (LX6_day post n) post xl1 xl2 xs0 S
  | _ + 1, _ + 2, _, _, _, _ => False
def PX6_day (n : Nat) (p0 : Int32) (S : St) (post : Int32 → St → Prop) : Prop := ∀ S1 : St, S1 = sI S 0 0 → PX6_isBits p0 S1 (fun x3 S2 => ((x3 = 0 → PX6_bad 1 1 S2 (fun x10 S9 => ((x10 = 0 → (((S9.1 2) = 150 → LX6_day post n 0 p0 0 1 S9) ∧ (¬ (S9.1 2) = 150 → LX6_day post n 0 p0 0 0 S9))) ∧ (¬ x10 = 0 → post 0 S9)))) ∧ (¬ x3 = 0 → PX6_bad 0 1 S2 (fun x6 S5 => ((x6 = 0 → (((S5.1 2) = 150 → LX6_day post n 0 p0 0 1 S5) ∧ (¬ (S5.1 2) = 150 → LX6_day post n 0 p0 0 0 S5))) ∧ (¬ x6 = 0 → post 0 S5))))))
set_option maxHeartbeats 4000000 in
set_option maxRecDepth 100000 in
theorem tX6_day (l : Launch) (D : va_G) (a : Nat → Nat) (c : Nat → ClassId) (sz : Nat) (n : Nat) (p0 : Int32) (S : St) (post : Int32 → St → Prop) (h : PX6_day n p0 S post) : Met l yX6_day wsX6_day ({ frames := 1, cells := 0, slots := 0, locals := 22 }) (va_Pc [.ref (a 0), .int p0] (gP D (mw a c) (mty c) mns S sz)) (va_Qi post (gB D (mw a c)) (va_A (mw a c S) sz)) 0 0 (va_A (mw a c S) sz) := by
  refine Met.ofW (cc := cX6_day) (maxL := 3) (ret := (some .int)) (by decide) rfl ?_
  intro p e s m args below meth c9 s₁ B hml hv
  obtain ⟨rfl, hsz, hP, hK, hD0, hN⟩ := hv
  have hx := B.exec
  have hb := B.bytes
  have hr := B.returns
  have hts := atoms_spec (ws := wsX6_day) B.pre
  have hown : s.vm.findClass RX6 = some m.cls := findClass_of_methodNamed B.named
  have hlocks := B.notSynchronized
  subst hsz
  have hD1 := hD0.self (sz := s.heap.size)
  generalize hAe : va_A (mw a c S) s.heap.size = A at hD1 ⊢
  have hA : ∀ q : Nat, s.heap.size ≤ q → A q := fun q h => by rw [← hAe]; exact Or.inr h
  have hD : ∀ S2 : St, va_D A (mw a c S2) := gD mw_F hD1
  have hS : va_S A s.heap s.heap [] := va_S.rf
  have hinX6 : ∀ w ∈ wsX60, w ∈ wsX6_day := by decide +kernel
  have kf16 := hts (.fieldLink RX6 16 "CanteenPlanModel" "next" "[I") (by decide +kernel)
  have kf19 := hts (.fieldLink RX6 19 "CanteenPlanModel" "marks" "[I") (by decide +kernel)
  have kf22 := hts (.fieldLink RX6 22 "CanteenPlanModel" "eaten" "[I") (by decide +kernel)
  have kf25 := hts (.fieldLink RX6 25 "CanteenPlanModel" "isThere" "[Z") (by decide +kernel)
  have kf60 := hts (.fieldLink RX6 60 "CanteenPlanModel" "thrown" "I") (by decide +kernel)
  have kf71 := hts (.fieldLink RX6 71 "CanteenPlanModel" "meals" "I") (by decide +kernel)
  have kf77 := hts (.fieldLink RX6 77 "CanteenPlanModel" "days" "I") (by decide +kernel)
  have hl := lv_entry ([.ref (a 0), .int p0]) (n := 3) (Nat.le_of_ble_eq_true rfl)
  rw [lg_entry_eq]
  generalize (lg_sl ([.ref (a 0), .int p0]) ++ List.replicate (3 - (lg_sl ([.ref (a 0), .int p0])).length) Slot.unset).toArray = ls at hl ⊢
  have hl : lv_has ls 3 [(0, .ref (a 0)), (1, .int p0)] := hl
  have key : ∀ n : Nat, (∀ (xl1 : Int32) (xs0 : Int32) (S : St) (H : Heap) (locs : List Loc) (ls : Array Slot), LX6_day post n 0 xl1 0 xs0 S → va_P D vwCl (mw a c S) H → va_S A s.heap H locs → lv_has ls 3 [(0, .ref (a 0)), (1, .int xl1)] → W p l e ((headSpec wsX6_day ({ frames := 1, cells := 0, slots := 0, locals := 22 })).room) s m ([.ref (a 0), .int p0]).toArray below meth c9 H locs 0 0 (MQ below (va_Qi post (gB D (mw a c)) A) ([.ref (a 0), .int p0]).toArray s 0 0 A) (F0 m 41 ls [.int xs0, .ref (a 0)])) ∧ (∀ (xl2 : Int32) (S : St) (H : Heap) (locs : List Loc) (ls : Array Slot), LX6_day post n 1 0 xl2 0 S → va_P D vwCl (mw a c S) H → va_S A s.heap H locs → lv_has ls 3 [(0, .ref (a 0)), (2, .int xl2)] → W p l e ((headSpec wsX6_day ({ frames := 1, cells := 0, slots := 0, locals := 22 })).room) s m ([.ref (a 0), .int p0]).toArray below meth c9 H locs 0 0 (MQ below (va_Qi post (gB D (mw a c)) A) ([.ref (a 0), .int p0]).toArray s 0 0 A) (F0 m 72 ls [])) := by
    intro n
    induction n with
    | zero => exact ⟨fun xl1 xs0 S H locs ls h => h.elim, fun xl2 S H locs ls h => h.elim⟩
    | succ n ih =>
      refine ⟨?_, ?_⟩
      · intro xl1 xs0 S H locs ls h hP hS hl
        have h : BX6_day_0 (LX6_day post n) post xl1 0 xs0 S := h
        unfold BX6_day_0 at h
        refine lv_iconst (v := 2) hx hb dX6_day_41 (by decide) ?_
        refine k_i (k_runV mns_ok ⟨hx, hb, hml, hown, hts⟩ (tX6_bad l D a c _ xs0 2 S _ h) (cwV 2 hts gX6_day_X6_bad rfl rfl rfl (by decide +kernel) ⟨Nat.le_of_ble_eq_true rfl, Nat.le_of_ble_eq_true rfl⟩) (va_recv hK hP (ci := 6) (q0 := 0) rfl rfl) hP hK (hD S) hN rfl rfl hl.1 rfl (lv_room (Nat.le_of_ble_eq_true rfl)) dX6_day_42 ⟨Nat.le_of_ble_eq_true rfl, Nat.le_of_ble_eq_true rfl⟩) hS (hD S) hA (fun x14 S13 H locs h hP hS => ?_)
        refine lv_if_eq (tgt := 50) hx hb dX6_day_45 (by decide) (fun c15 => ?_) (fun c15 => ?_)
        · have h := h.1 c15
          refine lv_aload_n hx hb dX6_day_50 rfl (lv_at hl 0 rfl) ?_
          refine va_get (D := D) (ci := 6) (v := .ref (a 4)) (C := RX6) (T := TX6) (N := 36) hx hb hts hinX6 hown hK hP 0 rfl rfl 5 (by decide) kf19 (fun _ h9 => h9) rfl dX6_day_51 ?_
          refine lv_aload_n hx hb dX6_day_54 rfl (lv_at hl 0 rfl) ?_
          refine va_get (D := D) (ci := 6) (v := .int (S13.1 2)) (C := RX6) (T := TX6) (N := 36) hx hb hts hinX6 hown hK hP 0 rfl rfl 8 (by decide) kf77 (fun _ h9 => h9) rfl dX6_day_55 ?_
          refine lv_iload_n hx hb dX6_day_58 rfl (lv_at hl 1 rfl) ?_
          obtain ⟨b16, h⟩ := h
          refine va_iast hx hb hK hP (hD S13) hS 4 3 rfl rfl b16 dX6_day_59 (fun H locs hP _ hS => ?_)
          obtain ⟨S17, eS17⟩ : ∃ z : St, z = sR S13 3 (upd (S13.2.2 3) (S13.1 2).toNatClampNeg xl1) := ⟨_, rfl⟩
          have hP : va_P D vwCl (mw a c S17) H := by rw [eS17]; exact hP
          have h := h S17 eS17
          refine lv_aload_n hx hb dX6_day_60 rfl (lv_at hl 0 rfl) ?_
          refine va_get (D := D) (ci := 6) (v := .ref (a 6)) (C := RX6) (T := TX6) (N := 36) hx hb hts hinX6 hown hK hP 0 rfl rfl 7 (by decide) kf25 (fun _ h9 => h9) rfl dX6_day_61 ?_
          refine lv_aload_n hx hb dX6_day_64 rfl (lv_at hl 0 rfl) ?_
          refine va_get (D := D) (ci := 6) (v := .int (S17.1 2)) (C := RX6) (T := TX6) (N := 36) hx hb hts hinX6 hown hK hP 0 rfl rfl 8 (by decide) kf77 (fun _ h9 => h9) rfl dX6_day_65 ?_
          refine lv_iconst (v := 1) hx hb dX6_day_68 (by decide) ?_
          obtain ⟨b18, h⟩ := h
          refine va_zast hx hb hK hP (hD S17) hS 6 5 rfl rfl b18 dX6_day_69 (fun H locs hP _ hS => ?_)
          obtain ⟨S19, eS19⟩ : ∃ z : St, z = sR S17 5 (upd (S17.2.2 5) (S17.1 2).toNatClampNeg (vp_nar .boolean 1)) := ⟨_, rfl⟩
          have hP : va_P D vwCl (mw a c S19) H := by rw [eS19]; exact hP
          have h := h S19 eS19
          refine lv_iconst (v := 0) hx hb dX6_day_70 (by decide) ?_
          refine lv_istore_n (lv' := [(2, .int 0), (0, .ref (a 0)), (1, .int xl1)]) hx hb dX6_day_71 rfl hl (by decide) rfl (fun ls hl => ?_)
          exact (ih).2 0 S19 _ _ _ h hP hS (lv_sub hl [1, 0] rfl)
        · have h := h.2 c15
          refine lv_iconst (v := 0) hx hb dX6_day_48 (by decide) ?_
          exact g_reti hx hb hr hlocks h hP hS dX6_day_49
      · intro xl2 S H locs ls h hP hS hl
        have h : BX6_day_1 (LX6_day post n) post 0 xl2 0 S := h
        unfold BX6_day_1 at h
        refine lv_iload_n hx hb dX6_day_72 rfl (lv_at hl 1 rfl) ?_
        refine lv_bipush (v := 6) hx hb dX6_day_73 (by decide) ?_
        refine lv_icmp_ge (tgt := 123) hx hb dX6_day_75 (by decide) (fun c20 => ?_) (fun c20 => ?_)
        · have h := h.1 c20
          refine lv_aload_n hx hb dX6_day_123 rfl (lv_at hl 0 rfl) ?_
          refine lv_dup hx hb dX6_day_124 rfl ?_
          refine va_get (D := D) (ci := 6) (v := .int (S.1 2)) (C := RX6) (T := TX6) (N := 36) hx hb hts hinX6 hown hK hP 0 rfl rfl 8 (by decide) kf77 (fun _ h9 => h9) rfl dX6_day_125 ?_
          refine lv_iconst (v := 1) hx hb dX6_day_128 (by decide) ?_
          refine lv_iadd hx hb dX6_day_129 ?_
          refine va_put (D := D) (ci := 6) (v := .int ((S.1 2) + 1)) (ty := .int) (C := RX6) (T := TX6) (N := 36) hx hb hts hinX6 tyX6 tyX6_ok nmX6 hown hK hP (hD S) hS 0 rfl rfl 8 (by decide) kf77 (fun _ h9 => h9) rfl (by decide +kernel) rfl rfl (Nat.le_of_ble_eq_true rfl) dX6_day_130 (fun H locs hP _ hS => ?_)
          obtain ⟨S21, eS21⟩ : ∃ z : St, z = sI S 2 ((S.1 2) + 1) := ⟨_, rfl⟩
          have hP : va_P D vwCl (mw a c S21) H := by rw [eS21]; exact hP
          have h := h S21 eS21
          refine lv_aload_n hx hb dX6_day_133 rfl (lv_at hl 0 rfl) ?_
          refine va_get (D := D) (ci := 6) (v := .int (S21.1 2)) (C := RX6) (T := TX6) (N := 36) hx hb hts hinX6 hown hK hP 0 rfl rfl 8 (by decide) kf77 (fun _ h9 => h9) rfl dX6_day_134 ?_
          refine lv_iconst (v := 1) hx hb dX6_day_137 (by decide) ?_
          refine lv_isub hx hb dX6_day_138 ?_
          exact g_reti hx hb hr hlocks h hP hS dX6_day_139
        · have h := h.2 c20
          refine lv_aload_n hx hb dX6_day_78 rfl (lv_at hl 0 rfl) ?_
          refine va_get (D := D) (ci := 6) (v := .ref (a 5)) (C := RX6) (T := TX6) (N := 36) hx hb hts hinX6 hown hK hP 0 rfl rfl 6 (by decide) kf22 (fun _ h9 => h9) rfl dX6_day_79 ?_
          refine lv_bipush (v := 6) hx hb dX6_day_82 (by decide) ?_
          refine lv_aload_n hx hb dX6_day_84 rfl (lv_at hl 0 rfl) ?_
          refine va_get (D := D) (ci := 6) (v := .int (S.1 2)) (C := RX6) (T := TX6) (N := 36) hx hb hts hinX6 hown hK hP 0 rfl rfl 8 (by decide) kf77 (fun _ h9 => h9) rfl dX6_day_85 ?_
          refine lv_imul hx hb dX6_day_88 ?_
          refine lv_iload_n hx hb dX6_day_89 rfl (lv_at hl 1 rfl) ?_
          refine lv_iadd hx hb dX6_day_90 ?_
          refine lv_iload_n hx hb dX6_day_91 rfl (lv_at hl 1 rfl) ?_
          refine lv_aload_n hx hb dX6_day_92 rfl (lv_at hl 0 rfl) ?_
          refine va_get (D := D) (ci := 6) (v := .int (S.1 1)) (C := RX6) (T := TX6) (N := 36) hx hb hts hinX6 hown hK hP 0 rfl rfl 4 (by decide) kf71 (fun _ h9 => h9) rfl dX6_day_93 ?_
          refine lv_icmp_ge (tgt := 108) hx hb dX6_day_96 (by decide) (fun c22 => ?_) (fun c22 => ?_)
          · have h := h.1 c22
            refine lv_iconst (v := 0) hx hb dX6_day_108 (by decide) ?_
            obtain ⟨b23, h⟩ := h
            refine va_iast hx hb hK hP (hD S) hS 5 4 rfl rfl b23 dX6_day_109 (fun H locs hP _ hS => ?_)
            obtain ⟨S24, eS24⟩ : ∃ z : St, z = sR S 4 (upd (S.2.2 4) ((6 * (S.1 2)) + xl2).toNatClampNeg 0) := ⟨_, rfl⟩
            have hP : va_P D vwCl (mw a c S24) H := by rw [eS24]; exact hP
            have h := h S24 eS24
            refine lv_aload_n hx hb dX6_day_110 rfl (lv_at hl 0 rfl) ?_
            refine va_get (D := D) (ci := 6) (v := .ref (a 3)) (C := RX6) (T := TX6) (N := 36) hx hb hts hinX6 hown hK hP 0 rfl rfl 3 (by decide) kf16 (fun _ h9 => h9) rfl dX6_day_111 ?_
            refine lv_iload_n hx hb dX6_day_114 rfl (lv_at hl 1 rfl) ?_
            refine lv_iconst (v := 0) hx hb dX6_day_115 (by decide) ?_
            obtain ⟨b25, h⟩ := h
            refine va_iast hx hb hK hP (hD S24) hS 3 2 rfl rfl b25 dX6_day_116 (fun H locs hP _ hS => ?_)
            obtain ⟨S26, eS26⟩ : ∃ z : St, z = sR S24 2 (upd (S24.2.2 2) xl2.toNatClampNeg 0) := ⟨_, rfl⟩
            have hP : va_P D vwCl (mw a c S26) H := by rw [eS26]; exact hP
            have h := h S26 eS26
            obtain ⟨x27, ex27⟩ : ∃ y : Int32, y = xl2 + 1 := ⟨_, rfl⟩
            have h := h x27 ex27
            refine lv_iinc (v := x27) (lv' := [(2, .int x27), (0, .ref (a 0))]) hx hb dX6_day_117 hl (k := 1) rfl (by rw [ex27]; rfl) (by decide) rfl (fun ls hl => ?_)
            refine lv_goto (tgt := 72) hx hb dX6_day_120 (by decide) ?_
            exact (ih).2 x27 S26 _ _ _ h hP hS (lv_sub hl [1, 0] rfl)
          · have h := h.2 c22
            refine lv_aload_n hx hb dX6_day_99 rfl (lv_at hl 0 rfl) ?_
            refine va_get (D := D) (ci := 6) (v := .ref (a 3)) (C := RX6) (T := TX6) (N := 36) hx hb hts hinX6 hown hK hP 0 rfl rfl 3 (by decide) kf16 (fun _ h9 => h9) rfl dX6_day_100 ?_
            refine lv_iload_n hx hb dX6_day_103 rfl (lv_at hl 1 rfl) ?_
            obtain ⟨b28, h⟩ := h
            refine va_iald hx hb hK hP 3 2 rfl rfl b28 dX6_day_104 ?_
            refine lv_goto (tgt := 109) hx hb dX6_day_105 (by decide) ?_
            obtain ⟨b29, h⟩ := h
            refine va_iast hx hb hK hP (hD S) hS 5 4 rfl rfl b29 dX6_day_109 (fun H locs hP _ hS => ?_)
            obtain ⟨S30, eS30⟩ : ∃ z : St, z = sR S 4 (upd (S.2.2 4) ((6 * (S.1 2)) + xl2).toNatClampNeg (S.2.2 2 xl2.toNatClampNeg)) := ⟨_, rfl⟩
            have hP : va_P D vwCl (mw a c S30) H := by rw [eS30]; exact hP
            have h := h S30 eS30
            refine lv_aload_n hx hb dX6_day_110 rfl (lv_at hl 0 rfl) ?_
            refine va_get (D := D) (ci := 6) (v := .ref (a 3)) (C := RX6) (T := TX6) (N := 36) hx hb hts hinX6 hown hK hP 0 rfl rfl 3 (by decide) kf16 (fun _ h9 => h9) rfl dX6_day_111 ?_
            refine lv_iload_n hx hb dX6_day_114 rfl (lv_at hl 1 rfl) ?_
            refine lv_iconst (v := 0) hx hb dX6_day_115 (by decide) ?_
            obtain ⟨b31, h⟩ := h
            refine va_iast hx hb hK hP (hD S30) hS 3 2 rfl rfl b31 dX6_day_116 (fun H locs hP _ hS => ?_)
            obtain ⟨S32, eS32⟩ : ∃ z : St, z = sR S30 2 (upd (S30.2.2 2) xl2.toNatClampNeg 0) := ⟨_, rfl⟩
            have hP : va_P D vwCl (mw a c S32) H := by rw [eS32]; exact hP
            have h := h S32 eS32
            obtain ⟨x33, ex33⟩ : ∃ y : Int32, y = xl2 + 1 := ⟨_, rfl⟩
            have h := h x33 ex33
            refine lv_iinc (v := x33) (lv' := [(2, .int x33), (0, .ref (a 0))]) hx hb dX6_day_117 hl (k := 1) rfl (by rw [ex33]; rfl) (by decide) rfl (fun ls hl => ?_)
            refine lv_goto (tgt := 72) hx hb dX6_day_120 (by decide) ?_
            exact (ih).2 x33 S32 _ _ _ h hP hS (lv_sub hl [1, 0] rfl)
  unfold PX6_day at h
  refine lv_aload_n hx hb dX6_day_0 rfl (lv_at hl 0 rfl) ?_
  refine lv_iconst (v := 0) hx hb dX6_day_1 (by decide) ?_
  refine va_put (D := D) (ci := 6) (v := .int 0) (ty := .int) (C := RX6) (T := TX6) (N := 36) hx hb hts hinX6 tyX6 tyX6_ok nmX6 hown hK hP (hD S) hS 0 rfl rfl 0 (by decide) kf60 (fun _ h9 => h9) rfl (by decide +kernel) rfl rfl (Nat.le_of_ble_eq_true rfl) dX6_day_2 (fun H locs hP _ hS => ?_)
  obtain ⟨S1, eS1⟩ : ∃ z : St, z = sI S 0 0 := ⟨_, rfl⟩
  have hP : va_P D vwCl (mw a c S1) H := by rw [eS1]; exact hP
  have h := h S1 eS1
  refine lv_aload_n hx hb dX6_day_5 rfl (lv_at hl 0 rfl) ?_
  refine lv_iload_n hx hb dX6_day_6 rfl (lv_at hl 1 rfl) ?_
  refine k_i (k_runS mns_ok ⟨hx, hb, hml, hown, hts⟩ (tX6_isBits l D a c _ p0 S1 _ h) (va_cwS 1 hts gX6_day_X6_isBits rfl rfl rfl (by decide +kernel) ⟨Nat.le_of_ble_eq_true rfl, Nat.le_of_ble_eq_true rfl⟩) hP hK (hD S1) hN rfl rfl hl.1 rfl (lv_room (Nat.le_of_ble_eq_true rfl)) dX6_day_7 ⟨Nat.le_of_ble_eq_true rfl, Nat.le_of_ble_eq_true rfl⟩) hS (hD S1) hA (fun x3 S2 H locs h hP hS => ?_)
  refine lv_if_ne (tgt := 17) hx hb dX6_day_10 (by decide) (fun c4 => ?_) (fun c4 => ?_)
  · have h := h.2 c4
    refine lv_iconst (v := 0) hx hb dX6_day_17 (by decide) ?_
    refine lv_iconst (v := 1) hx hb dX6_day_18 (by decide) ?_
    refine k_i (k_runV mns_ok ⟨hx, hb, hml, hown, hts⟩ (tX6_bad l D a c _ 0 1 S2 _ h) (cwV 2 hts gX6_day_X6_bad rfl rfl rfl (by decide +kernel) ⟨Nat.le_of_ble_eq_true rfl, Nat.le_of_ble_eq_true rfl⟩) (va_recv hK hP (ci := 6) (q0 := 0) rfl rfl) hP hK (hD S2) hN rfl rfl hl.1 rfl (lv_room (Nat.le_of_ble_eq_true rfl)) dX6_day_19 ⟨Nat.le_of_ble_eq_true rfl, Nat.le_of_ble_eq_true rfl⟩) hS (hD S2) hA (fun x6 S5 H locs h hP hS => ?_)
    refine lv_if_ne (tgt := 48) hx hb dX6_day_22 (by decide) (fun c7 => ?_) (fun c7 => ?_)
    · have h := h.2 c7
      refine lv_iconst (v := 0) hx hb dX6_day_48 (by decide) ?_
      exact g_reti hx hb hr hlocks h hP hS dX6_day_49
    · have h := h.1 c7
      refine lv_aload_n hx hb dX6_day_25 rfl (lv_at hl 0 rfl) ?_
      refine lv_aload_n hx hb dX6_day_26 rfl (lv_at hl 0 rfl) ?_
      refine va_get (D := D) (ci := 6) (v := .int (S5.1 2)) (C := RX6) (T := TX6) (N := 36) hx hb hts hinX6 hown hK hP 0 rfl rfl 8 (by decide) kf77 (fun _ h9 => h9) rfl dX6_day_27 ?_
      refine lv_sipush (v := 150) hx hb dX6_day_30 (by decide) ?_
      refine lv_icmp_ne (tgt := 40) hx hb dX6_day_33 (by decide) (fun c8 => ?_) (fun c8 => ?_)
      · have h := h.2 c8
        refine lv_iconst (v := 0) hx hb dX6_day_40 (by decide) ?_
        exact (key n).1 p0 0 S5 _ _ _ h hP hS (lv_sub hl [0, 1] rfl)
      · have h := h.1 c8
        refine lv_iconst (v := 1) hx hb dX6_day_36 (by decide) ?_
        refine lv_goto (tgt := 41) hx hb dX6_day_37 (by decide) ?_
        exact (key n).1 p0 1 S5 _ _ _ h hP hS (lv_sub hl [0, 1] rfl)
  · have h := h.1 c4
    refine lv_iconst (v := 1) hx hb dX6_day_13 (by decide) ?_
    refine lv_goto (tgt := 18) hx hb dX6_day_14 (by decide) ?_
    refine lv_iconst (v := 1) hx hb dX6_day_18 (by decide) ?_
    refine k_i (k_runV mns_ok ⟨hx, hb, hml, hown, hts⟩ (tX6_bad l D a c _ 1 1 S2 _ h) (cwV 2 hts gX6_day_X6_bad rfl rfl rfl (by decide +kernel) ⟨Nat.le_of_ble_eq_true rfl, Nat.le_of_ble_eq_true rfl⟩) (va_recv hK hP (ci := 6) (q0 := 0) rfl rfl) hP hK (hD S2) hN rfl rfl hl.1 rfl (lv_room (Nat.le_of_ble_eq_true rfl)) dX6_day_19 ⟨Nat.le_of_ble_eq_true rfl, Nat.le_of_ble_eq_true rfl⟩) hS (hD S2) hA (fun x10 S9 H locs h hP hS => ?_)
    refine lv_if_ne (tgt := 48) hx hb dX6_day_22 (by decide) (fun c11 => ?_) (fun c11 => ?_)
    · have h := h.2 c11
      refine lv_iconst (v := 0) hx hb dX6_day_48 (by decide) ?_
      exact g_reti hx hb hr hlocks h hP hS dX6_day_49
    · have h := h.1 c11
      refine lv_aload_n hx hb dX6_day_25 rfl (lv_at hl 0 rfl) ?_
      refine lv_aload_n hx hb dX6_day_26 rfl (lv_at hl 0 rfl) ?_
      refine va_get (D := D) (ci := 6) (v := .int (S9.1 2)) (C := RX6) (T := TX6) (N := 36) hx hb hts hinX6 hown hK hP 0 rfl rfl 8 (by decide) kf77 (fun _ h9 => h9) rfl dX6_day_27 ?_
      refine lv_sipush (v := 150) hx hb dX6_day_30 (by decide) ?_
      refine lv_icmp_ne (tgt := 40) hx hb dX6_day_33 (by decide) (fun c12 => ?_) (fun c12 => ?_)
      · have h := h.2 c12
        refine lv_iconst (v := 0) hx hb dX6_day_40 (by decide) ?_
        exact (key n).1 p0 0 S9 _ _ _ h hP hS (lv_sub hl [0, 1] rfl)
      · have h := h.1 c12
        refine lv_iconst (v := 1) hx hb dX6_day_36 (by decide) ?_
        refine lv_goto (tgt := 41) hx hb dX6_day_37 (by decide) ?_
        exact (key n).1 p0 1 S9 _ _ _ h hP hS (lv_sub hl [0, 1] rfl)
def BX6_drop_0 (X : Int32 → Int32 → St → Prop) (post : Int32 → St → Prop) (xl1 : Int32) (xs0 : Int32) (S : St) : Prop := PX6_bad xs0 1 S (fun x5 S4 => ((x5 = 0 → (vp_in xl1 150 ∧ ∀ x8 : Int32, x8 = (S4.2.2 5 xl1.toNatClampNeg) → (vp_in xl1 150 ∧ ∀ S10 : St, S10 = sR S4 5 (upd (S4.2.2 5) xl1.toNatClampNeg (vp_nar .boolean 0)) → ((x8 = 0 ∨ x8 = 1) ∧ post x8 S10)))) ∧ (¬ x5 = 0 → post 0 S4)))
def LX6_drop (post : Int32 → St → Prop) : Nat → Int32 → Int32 → St → Prop
  | 0, _, _, _ => False
  | n + 1, xl1, xs0, S => BX6_drop_0 (LX6_drop post n) post xl1 xs0 S
def PX6_drop (n : Nat) (p0 : Int32) (S : St) (post : Int32 → St → Prop) : Prop := ∀ S1 : St, S1 = sI S 0 0 → ((p0 < 0 → LX6_drop post n p0 1 S1) ∧ (¬ p0 < 0 → ((p0 < (S1.1 2) → LX6_drop post n p0 0 S1) ∧ (¬ p0 < (S1.1 2) → LX6_drop post n p0 1 S1))))
set_option maxHeartbeats 4000000 in
set_option maxRecDepth 100000 in
theorem tX6_drop (l : Launch) (D : va_G) (a : Nat → Nat) (c : Nat → ClassId) (sz : Nat) (n : Nat) (p0 : Int32) (S : St) (post : Int32 → St → Prop) (h : PX6_drop n p0 S post) : Met l yX6_drop wsX6_drop ({ frames := 1, cells := 0, slots := 0, locals := 22 }) (va_Pc [.ref (a 0), .int p0] (gP D (mw a c) (mty c) mns S sz)) (va_Qi post (gB D (mw a c)) (va_A (mw a c S) sz)) 0 0 (va_A (mw a c S) sz) := by
  refine Met.ofW (cc := cX6_drop) (maxL := 3) (ret := (some .boolean)) (by decide) rfl ?_
  intro p e s m args below meth c9 s₁ B hml hv
  obtain ⟨rfl, hsz, hP, hK, hD0, hN⟩ := hv
  have hx := B.exec
  have hb := B.bytes
  have hr := B.returns
  have hts := atoms_spec (ws := wsX6_drop) B.pre
  have hown : s.vm.findClass RX6 = some m.cls := findClass_of_methodNamed B.named
  have hlocks := B.notSynchronized
  subst hsz
  have hD1 := hD0.self (sz := s.heap.size)
  generalize hAe : va_A (mw a c S) s.heap.size = A at hD1 ⊢
  have hA : ∀ q : Nat, s.heap.size ≤ q → A q := fun q h => by rw [← hAe]; exact Or.inr h
  have hD : ∀ S2 : St, va_D A (mw a c S2) := gD mw_F hD1
  have hS : va_S A s.heap s.heap [] := va_S.rf
  have hinX6 : ∀ w ∈ wsX60, w ∈ wsX6_drop := by decide +kernel
  have kf25 := hts (.fieldLink RX6 25 "CanteenPlanModel" "isThere" "[Z") (by decide +kernel)
  have kf60 := hts (.fieldLink RX6 60 "CanteenPlanModel" "thrown" "I") (by decide +kernel)
  have kf77 := hts (.fieldLink RX6 77 "CanteenPlanModel" "days" "I") (by decide +kernel)
  have hl := lv_entry ([.ref (a 0), .int p0]) (n := 3) (Nat.le_of_ble_eq_true rfl)
  rw [lg_entry_eq]
  generalize (lg_sl ([.ref (a 0), .int p0]) ++ List.replicate (3 - (lg_sl ([.ref (a 0), .int p0])).length) Slot.unset).toArray = ls at hl ⊢
  have hl : lv_has ls 3 [(0, .ref (a 0)), (1, .int p0)] := hl
  have key : ∀ n : Nat, (∀ (xl1 : Int32) (xs0 : Int32) (S : St) (H : Heap) (locs : List Loc) (ls : Array Slot), LX6_drop post n xl1 xs0 S → va_P D vwCl (mw a c S) H → va_S A s.heap H locs → lv_has ls 3 [(0, .ref (a 0)), (1, .int xl1)] → W p l e ((headSpec wsX6_drop ({ frames := 1, cells := 0, slots := 0, locals := 22 })).room) s m ([.ref (a 0), .int p0]).toArray below meth c9 H locs 0 0 (MQ below (va_Qi post (gB D (mw a c)) A) ([.ref (a 0), .int p0]).toArray s 0 0 A) (F0 m 23 ls [.int xs0, .ref (a 0)])) := by
    intro n
    induction n with
    | zero => exact fun xl1 xs0 S H locs ls h => h.elim
    | succ n ih =>
      intro xl1 xs0 S H locs ls h hP hS hl
      have h : BX6_drop_0 (LX6_drop post n) post xl1 xs0 S := h
      unfold BX6_drop_0 at h
      refine lv_iconst (v := 1) hx hb dX6_drop_23 (by decide) ?_
      refine k_i (k_runV mns_ok ⟨hx, hb, hml, hown, hts⟩ (tX6_bad l D a c _ xs0 1 S _ h) (cwV 2 hts gX6_drop_X6_bad rfl rfl rfl (by decide +kernel) ⟨Nat.le_of_ble_eq_true rfl, Nat.le_of_ble_eq_true rfl⟩) (va_recv hK hP (ci := 6) (q0 := 0) rfl rfl) hP hK (hD S) hN rfl rfl hl.1 rfl (lv_room (Nat.le_of_ble_eq_true rfl)) dX6_drop_24 ⟨Nat.le_of_ble_eq_true rfl, Nat.le_of_ble_eq_true rfl⟩) hS (hD S) hA (fun x5 S4 H locs h hP hS => ?_)
      refine lv_if_eq (tgt := 32) hx hb dX6_drop_27 (by decide) (fun c6 => ?_) (fun c6 => ?_)
      · have h := h.1 c6
        refine lv_aload_n hx hb dX6_drop_32 rfl (lv_at hl 0 rfl) ?_
        refine va_get (D := D) (ci := 6) (v := .ref (a 6)) (C := RX6) (T := TX6) (N := 36) hx hb hts hinX6 hown hK hP 0 rfl rfl 7 (by decide) kf25 (fun _ h9 => h9) rfl dX6_drop_33 ?_
        refine lv_iload_n hx hb dX6_drop_36 rfl (lv_at hl 1 rfl) ?_
        obtain ⟨b7, h⟩ := h
        refine va_zald hx hb hK hP 6 5 rfl rfl b7 dX6_drop_37 ?_
        refine lv_topi (fun x8 ex8 => ?_)
        have h := h x8 ex8
        refine lv_istore_n (lv' := [(2, .int x8), (0, .ref (a 0)), (1, .int xl1)]) hx hb dX6_drop_38 rfl hl (by decide) rfl (fun ls hl => ?_)
        refine lv_aload_n hx hb dX6_drop_39 rfl (lv_at hl 1 rfl) ?_
        refine va_get (D := D) (ci := 6) (v := .ref (a 6)) (C := RX6) (T := TX6) (N := 36) hx hb hts hinX6 hown hK hP 0 rfl rfl 7 (by decide) kf25 (fun _ h9 => h9) rfl dX6_drop_40 ?_
        refine lv_iload_n hx hb dX6_drop_43 rfl (lv_at hl 2 rfl) ?_
        refine lv_iconst (v := 0) hx hb dX6_drop_44 (by decide) ?_
        obtain ⟨b9, h⟩ := h
        refine va_zast hx hb hK hP (hD S4) hS 6 5 rfl rfl b9 dX6_drop_45 (fun H locs hP _ hS => ?_)
        obtain ⟨S10, eS10⟩ : ∃ z : St, z = sR S4 5 (upd (S4.2.2 5) xl1.toNatClampNeg (vp_nar .boolean 0)) := ⟨_, rfl⟩
        have hP : va_P D vwCl (mw a c S10) H := by rw [eS10]; exact hP
        have h := h S10 eS10
        refine lv_iload_n hx hb dX6_drop_46 rfl (lv_at hl 0 rfl) ?_
        exact g_retz hx hb hr hlocks h.1 h.2 hP hS dX6_drop_47
      · have h := h.2 c6
        refine lv_iconst (v := 0) hx hb dX6_drop_30 (by decide) ?_
        exact g_retz hx hb hr hlocks (Or.inl rfl) h hP hS dX6_drop_31
  unfold PX6_drop at h
  refine lv_aload_n hx hb dX6_drop_0 rfl (lv_at hl 0 rfl) ?_
  refine lv_iconst (v := 0) hx hb dX6_drop_1 (by decide) ?_
  refine va_put (D := D) (ci := 6) (v := .int 0) (ty := .int) (C := RX6) (T := TX6) (N := 36) hx hb hts hinX6 tyX6 tyX6_ok nmX6 hown hK hP (hD S) hS 0 rfl rfl 0 (by decide) kf60 (fun _ h9 => h9) rfl (by decide +kernel) rfl rfl (Nat.le_of_ble_eq_true rfl) dX6_drop_2 (fun H locs hP _ hS => ?_)
  obtain ⟨S1, eS1⟩ : ∃ z : St, z = sI S 0 0 := ⟨_, rfl⟩
  have hP : va_P D vwCl (mw a c S1) H := by rw [eS1]; exact hP
  have h := h S1 eS1
  refine lv_aload_n hx hb dX6_drop_5 rfl (lv_at hl 0 rfl) ?_
  refine lv_iload_n hx hb dX6_drop_6 rfl (lv_at hl 1 rfl) ?_
  refine lv_if_lt (tgt := 18) hx hb dX6_drop_7 (by decide) (fun c2 => ?_) (fun c2 => ?_)
  · have h := h.1 c2
    refine lv_iconst (v := 1) hx hb dX6_drop_18 (by decide) ?_
    refine lv_goto (tgt := 23) hx hb dX6_drop_19 (by decide) ?_
    exact (key n) p0 1 S1 _ _ _ h hP hS (lv_sub hl [0, 1] rfl)
  · have h := h.2 c2
    refine lv_iload_n hx hb dX6_drop_10 rfl (lv_at hl 1 rfl) ?_
    refine lv_aload_n hx hb dX6_drop_11 rfl (lv_at hl 0 rfl) ?_
    refine va_get (D := D) (ci := 6) (v := .int (S1.1 2)) (C := RX6) (T := TX6) (N := 36) hx hb hts hinX6 hown hK hP 0 rfl rfl 8 (by decide) kf77 (fun _ h9 => h9) rfl dX6_drop_12 ?_
    refine lv_icmp_lt (tgt := 22) hx hb dX6_drop_15 (by decide) (fun c3 => ?_) (fun c3 => ?_)
    · have h := h.1 c3
      refine lv_iconst (v := 0) hx hb dX6_drop_22 (by decide) ?_
      exact (key n) p0 0 S1 _ _ _ h hP hS (lv_sub hl [0, 1] rfl)
    · have h := h.2 c3
      refine lv_iconst (v := 1) hx hb dX6_drop_18 (by decide) ?_
      refine lv_goto (tgt := 23) hx hb dX6_drop_19 (by decide) ?_
      exact (key n) p0 1 S1 _ _ _ h hP hS (lv_sub hl [0, 1] rfl)
def BX6_counts_0 (X : Int32 → Int32 → Int32 → Int32 → Int32 → St → Prop) (post : St → Prop) (xl1 : Int32) (xl2 : Int32) (xl3 : Int32) (xl4 : Int32) (xl5 : Int32) (S : St) : Prop := (((S.1 2) ≤ xl5 → post S) ∧ (¬ (S.1 2) ≤ xl5 → (vp_in xl5 150 ∧ (((S.2.2 5 xl5.toNatClampNeg) = 0 → ∀ x8 : Int32, x8 = xl5 + 1 → X xl1 xl2 xl3 xl4 x8 S) ∧ (¬ (S.2.2 5 xl5.toNatClampNeg) = 0 → (vp_in xl5 150 ∧ ((((S.2.2 3 xl5.toNatClampNeg) &&& xl2) = xl3 → (vp_in ((6 * xl5) + xl1) 900 ∧ ∀ x12 : Int32, x12 = (S.2.2 4 ((6 * xl5) + xl1).toNatClampNeg) → ∀ S13 : St, S13 = sI S 4 ((S.1 4) + 1) → ∀ S14 : St, S14 = sJ S13 1 ((S13.2.1 1) + x12.toInt64) → (vp_in xl5 150 ∧ (((((S14.2.2 3 xl5.toNatClampNeg) >>> (xl4 &&& 31)) &&& 1) = 0 → ∀ x20 : Int32, x20 = xl5 + 1 → X xl1 xl2 xl3 xl4 x20 S14) ∧ (¬ (((S14.2.2 3 xl5.toNatClampNeg) >>> (xl4 &&& 31)) &&& 1) = 0 → ∀ S17 : St, S17 = sI S14 3 ((S14.1 3) + 1) → ∀ S18 : St, S18 = sJ S17 0 ((S17.2.1 0) + x12.toInt64) → ∀ x19 : Int32, x19 = xl5 + 1 → X xl1 xl2 xl3 xl4 x19 S18))))) ∧ (¬ ((S.2.2 3 xl5.toNatClampNeg) &&& xl2) = xl3 → ∀ x21 : Int32, x21 = xl5 + 1 → X xl1 xl2 xl3 xl4 x21 S))))))))
def LX6_counts (post : St → Prop) : Nat → Int32 → Int32 → Int32 → Int32 → Int32 → St → Prop
  | 0, _, _, _, _, _, _ => False
  | n + 1, xl1, xl2, xl3, xl4, xl5, S => BX6_counts_0 (LX6_counts post n) post xl1 xl2 xl3 xl4 xl5 S
def PX6_counts (n : Nat) (p0 : Int32) (p1 : Int32) (p2 : Int32) (p3 : Int32) (S : St) (post : St → Prop) : Prop := ∀ S1 : St, S1 = sI S 3 0 → ∀ S2 : St, S2 = sI S1 4 0 → ∀ S3 : St, S3 = sJ S2 0 0 → ∀ S4 : St, S4 = sJ S3 1 0 → LX6_counts post n p0 p1 p2 p3 0 S4
set_option maxHeartbeats 4000000 in
set_option maxRecDepth 100000 in
theorem tX6_counts (l : Launch) (D : va_G) (a : Nat → Nat) (c : Nat → ClassId) (sz : Nat) (n : Nat) (p0 : Int32) (p1 : Int32) (p2 : Int32) (p3 : Int32) (S : St) (post : St → Prop) (h : PX6_counts n p0 p1 p2 p3 S post) : Met l yX6_counts wsX6_counts ({ frames := 0, cells := 0, slots := 0, locals := 0 }) (va_Pc [.ref (a 0), .int p0, .int p1, .int p2, .int p3] (gP D (mw a c) (mty c) mns S sz)) (va_Qv post (gB D (mw a c)) (va_A (mw a c S) sz)) 0 0 (va_A (mw a c S) sz) := by
  refine Met.ofW (cc := cX6_counts) (maxL := 7) (ret := none) (by decide) rfl ?_
  intro p e s m args below meth c9 s₁ B hml hv
  obtain ⟨rfl, hsz, hP, hK, hD0, hN⟩ := hv
  have hx := B.exec
  have hb := B.bytes
  have hr := B.returns
  have hts := atoms_spec (ws := wsX6_counts) B.pre
  have hown : s.vm.findClass RX6 = some m.cls := findClass_of_methodNamed B.named
  have hlocks := B.notSynchronized
  subst hsz
  have hD1 := hD0.self (sz := s.heap.size)
  generalize hAe : va_A (mw a c S) s.heap.size = A at hD1 ⊢
  have hA : ∀ q : Nat, s.heap.size ≤ q → A q := fun q h => by rw [← hAe]; exact Or.inr h
  have hD : ∀ S2 : St, va_D A (mw a c S2) := gD mw_F hD1
  have hS : va_S A s.heap s.heap [] := va_S.rf
  have hinX6 : ∀ w ∈ wsX60, w ∈ wsX6_counts := by decide +kernel
  have kf19 := hts (.fieldLink RX6 19 "CanteenPlanModel" "marks" "[I") (by decide +kernel)
  have kf22 := hts (.fieldLink RX6 22 "CanteenPlanModel" "eaten" "[I") (by decide +kernel)
  have kf25 := hts (.fieldLink RX6 25 "CanteenPlanModel" "isThere" "[Z") (by decide +kernel)
  have kf77 := hts (.fieldLink RX6 77 "CanteenPlanModel" "days" "I") (by decide +kernel)
  have kf80 := hts (.fieldLink RX6 80 "CanteenPlanModel" "hasMany" "I") (by decide +kernel)
  have kf83 := hts (.fieldLink RX6 83 "CanteenPlanModel" "allMany" "I") (by decide +kernel)
  have kf86 := hts (.fieldLink RX6 86 "CanteenPlanModel" "hasSum" "J") (by decide +kernel)
  have kf90 := hts (.fieldLink RX6 90 "CanteenPlanModel" "allSum" "J") (by decide +kernel)
  have hl := lv_entry ([.ref (a 0), .int p0, .int p1, .int p2, .int p3]) (n := 7) (Nat.le_of_ble_eq_true rfl)
  rw [lg_entry_eq]
  generalize (lg_sl ([.ref (a 0), .int p0, .int p1, .int p2, .int p3]) ++ List.replicate (7 - (lg_sl ([.ref (a 0), .int p0, .int p1, .int p2, .int p3])).length) Slot.unset).toArray = ls at hl ⊢
  have hl : lv_has ls 7 [(0, .ref (a 0)), (1, .int p0), (2, .int p1), (3, .int p2), (4, .int p3)] := hl
  have key : ∀ n : Nat, (∀ (xl1 : Int32) (xl2 : Int32) (xl3 : Int32) (xl4 : Int32) (xl5 : Int32) (S : St) (H : Heap) (locs : List Loc) (ls : Array Slot), LX6_counts post n xl1 xl2 xl3 xl4 xl5 S → va_P D vwCl (mw a c S) H → va_S A s.heap H locs → lv_has ls 7 [(0, .ref (a 0)), (1, .int xl1), (2, .int xl2), (3, .int xl3), (4, .int xl4), (5, .int xl5)] → W p l e ((headSpec wsX6_counts ({ frames := 0, cells := 0, slots := 0, locals := 0 })).room) s m ([.ref (a 0), .int p0, .int p1, .int p2, .int p3]).toArray below meth c9 H locs 0 0 (MQ below (va_Qv post (gB D (mw a c)) A) ([.ref (a 0), .int p0, .int p1, .int p2, .int p3]).toArray s 0 0 A) (F0 m 23 ls [])) := by
    intro n
    induction n with
    | zero => exact fun xl1 xl2 xl3 xl4 xl5 S H locs ls h => h.elim
    | succ n ih =>
      intro xl1 xl2 xl3 xl4 xl5 S H locs ls h hP hS hl
      have h : BX6_counts_0 (LX6_counts post n) post xl1 xl2 xl3 xl4 xl5 S := h
      unfold BX6_counts_0 at h
      refine lv_iload hx hb dX6_counts_23 (lv_at hl 5 rfl) ?_
      refine lv_aload_n hx hb dX6_counts_25 rfl (lv_at hl 0 rfl) ?_
      refine va_get (D := D) (ci := 6) (v := .int (S.1 2)) (C := RX6) (T := TX6) (N := 36) hx hb hts hinX6 hown hK hP 0 rfl rfl 8 (by decide) kf77 (fun _ h9 => h9) rfl dX6_counts_26 ?_
      refine lv_icmp_ge (tgt := 140) hx hb dX6_counts_29 (by decide) (fun c5 => ?_) (fun c5 => ?_)
      · have h := h.1 c5
        exact g_retv hx hb hr hlocks h hP hS dX6_counts_140
      · have h := h.2 c5
        refine lv_aload_n hx hb dX6_counts_32 rfl (lv_at hl 0 rfl) ?_
        refine va_get (D := D) (ci := 6) (v := .ref (a 6)) (C := RX6) (T := TX6) (N := 36) hx hb hts hinX6 hown hK hP 0 rfl rfl 7 (by decide) kf25 (fun _ h9 => h9) rfl dX6_counts_33 ?_
        refine lv_iload hx hb dX6_counts_36 (lv_at hl 5 rfl) ?_
        obtain ⟨b6, h⟩ := h
        refine va_zald hx hb hK hP 6 5 rfl rfl b6 dX6_counts_38 ?_
        refine lv_if_eq (tgt := 134) hx hb dX6_counts_39 (by decide) (fun c7 => ?_) (fun c7 => ?_)
        · have h := h.1 c7
          obtain ⟨x8, ex8⟩ : ∃ y : Int32, y = xl5 + 1 := ⟨_, rfl⟩
          have h := h x8 ex8
          refine lv_iinc (v := x8) (lv' := [(5, .int x8), (0, .ref (a 0)), (1, .int xl1), (2, .int xl2), (3, .int xl3), (4, .int xl4)]) hx hb dX6_counts_134 hl (k := 5) rfl (by rw [ex8]; rfl) (by decide) rfl (fun ls hl => ?_)
          refine lv_goto (tgt := 23) hx hb dX6_counts_137 (by decide) ?_
          exact (ih) xl1 xl2 xl3 xl4 x8 S _ _ _ h hP hS (lv_sub hl [1, 2, 3, 4, 5, 0] rfl)
        · have h := h.2 c7
          refine lv_aload_n hx hb dX6_counts_42 rfl (lv_at hl 0 rfl) ?_
          refine va_get (D := D) (ci := 6) (v := .ref (a 4)) (C := RX6) (T := TX6) (N := 36) hx hb hts hinX6 hown hK hP 0 rfl rfl 5 (by decide) kf19 (fun _ h9 => h9) rfl dX6_counts_43 ?_
          refine lv_iload hx hb dX6_counts_46 (lv_at hl 5 rfl) ?_
          obtain ⟨b9, h⟩ := h
          refine va_iald hx hb hK hP 4 3 rfl rfl b9 dX6_counts_48 ?_
          refine lv_iload_n hx hb dX6_counts_49 rfl (lv_at hl 2 rfl) ?_
          refine lv_iand hx hb dX6_counts_50 ?_
          refine lv_iload_n hx hb dX6_counts_51 rfl (lv_at hl 3 rfl) ?_
          refine lv_icmp_eq (tgt := 58) hx hb dX6_counts_52 (by decide) (fun c10 => ?_) (fun c10 => ?_)
          · have h := h.1 c10
            refine lv_aload_n hx hb dX6_counts_58 rfl (lv_at hl 0 rfl) ?_
            refine va_get (D := D) (ci := 6) (v := .ref (a 5)) (C := RX6) (T := TX6) (N := 36) hx hb hts hinX6 hown hK hP 0 rfl rfl 6 (by decide) kf22 (fun _ h9 => h9) rfl dX6_counts_59 ?_
            refine lv_bipush (v := 6) hx hb dX6_counts_62 (by decide) ?_
            refine lv_iload hx hb dX6_counts_64 (lv_at hl 5 rfl) ?_
            refine lv_imul hx hb dX6_counts_66 ?_
            refine lv_iload_n hx hb dX6_counts_67 rfl (lv_at hl 1 rfl) ?_
            refine lv_iadd hx hb dX6_counts_68 ?_
            obtain ⟨b11, h⟩ := h
            refine va_iald hx hb hK hP 5 4 rfl rfl b11 dX6_counts_69 ?_
            refine lv_topi (fun x12 ex12 => ?_)
            have h := h x12 ex12
            refine lv_istore (lv' := [(6, .int x12), (0, .ref (a 0)), (1, .int xl1), (2, .int xl2), (3, .int xl3), (4, .int xl4), (5, .int xl5)]) hx hb dX6_counts_70 hl (by decide) rfl (fun ls hl => ?_)
            refine lv_aload_n hx hb dX6_counts_72 rfl (lv_at hl 1 rfl) ?_
            refine lv_dup hx hb dX6_counts_73 rfl ?_
            refine va_get (D := D) (ci := 6) (v := .int (S.1 4)) (C := RX6) (T := TX6) (N := 36) hx hb hts hinX6 hown hK hP 0 rfl rfl 10 (by decide) kf83 (fun _ h9 => h9) rfl dX6_counts_74 ?_
            refine lv_iconst (v := 1) hx hb dX6_counts_77 (by decide) ?_
            refine lv_iadd hx hb dX6_counts_78 ?_
            refine va_put (D := D) (ci := 6) (v := .int ((S.1 4) + 1)) (ty := .int) (C := RX6) (T := TX6) (N := 36) hx hb hts hinX6 tyX6 tyX6_ok nmX6 hown hK hP (hD S) hS 0 rfl rfl 10 (by decide) kf83 (fun _ h9 => h9) rfl (by decide +kernel) rfl rfl (Nat.le_of_ble_eq_true rfl) dX6_counts_79 (fun H locs hP _ hS => ?_)
            obtain ⟨S13, eS13⟩ : ∃ z : St, z = sI S 4 ((S.1 4) + 1) := ⟨_, rfl⟩
            have hP : va_P D vwCl (mw a c S13) H := by rw [eS13]; exact hP
            have h := h S13 eS13
            refine lv_aload_n hx hb dX6_counts_82 rfl (lv_at hl 1 rfl) ?_
            refine lv_dup hx hb dX6_counts_83 rfl ?_
            refine va_get (D := D) (ci := 6) (v := .long (S13.2.1 1)) (C := RX6) (T := TX6) (N := 36) hx hb hts hinX6 hown hK hP 0 rfl rfl 12 (by decide) kf90 (fun _ h9 => h9) rfl dX6_counts_84 ?_
            refine lv_iload hx hb dX6_counts_87 (lv_at hl 0 rfl) ?_
            refine lv_i2l hx hb dX6_counts_89 rfl ?_
            refine lv_ladd hx hb dX6_counts_90 ?_
            refine va_put (D := D) (ci := 6) (v := .long ((S13.2.1 1) + x12.toInt64)) (ty := .long) (C := RX6) (T := TX6) (N := 36) hx hb hts hinX6 tyX6 tyX6_ok nmX6 hown hK hP (hD S13) hS 0 rfl rfl 12 (by decide) kf90 (fun _ h9 => h9) rfl (by decide +kernel) rfl rfl (Nat.le_of_ble_eq_true rfl) dX6_counts_91 (fun H locs hP _ hS => ?_)
            obtain ⟨S14, eS14⟩ : ∃ z : St, z = sJ S13 1 ((S13.2.1 1) + x12.toInt64) := ⟨_, rfl⟩
            have hP : va_P D vwCl (mw a c S14) H := by rw [eS14]; exact hP
            have h := h S14 eS14
            refine lv_aload_n hx hb dX6_counts_94 rfl (lv_at hl 1 rfl) ?_
            refine va_get (D := D) (ci := 6) (v := .ref (a 4)) (C := RX6) (T := TX6) (N := 36) hx hb hts hinX6 hown hK hP 0 rfl rfl 5 (by decide) kf19 (fun _ h9 => h9) rfl dX6_counts_95 ?_
            refine lv_iload hx hb dX6_counts_98 (lv_at hl 6 rfl) ?_
            obtain ⟨b15, h⟩ := h
            refine va_iald hx hb hK hP 4 3 rfl rfl b15 dX6_counts_100 ?_
            refine lv_iload hx hb dX6_counts_101 (lv_at hl 5 rfl) ?_
            refine lv_ishr hx hb dX6_counts_103 ?_
            refine lv_iconst (v := 1) hx hb dX6_counts_104 (by decide) ?_
            refine lv_iand hx hb dX6_counts_105 ?_
            refine lv_if_ne (tgt := 112) hx hb dX6_counts_106 (by decide) (fun c16 => ?_) (fun c16 => ?_)
            · have h := h.2 c16
              refine lv_aload_n hx hb dX6_counts_112 rfl (lv_at hl 1 rfl) ?_
              refine lv_dup hx hb dX6_counts_113 rfl ?_
              refine va_get (D := D) (ci := 6) (v := .int (S14.1 3)) (C := RX6) (T := TX6) (N := 36) hx hb hts hinX6 hown hK hP 0 rfl rfl 9 (by decide) kf80 (fun _ h9 => h9) rfl dX6_counts_114 ?_
              refine lv_iconst (v := 1) hx hb dX6_counts_117 (by decide) ?_
              refine lv_iadd hx hb dX6_counts_118 ?_
              refine va_put (D := D) (ci := 6) (v := .int ((S14.1 3) + 1)) (ty := .int) (C := RX6) (T := TX6) (N := 36) hx hb hts hinX6 tyX6 tyX6_ok nmX6 hown hK hP (hD S14) hS 0 rfl rfl 9 (by decide) kf80 (fun _ h9 => h9) rfl (by decide +kernel) rfl rfl (Nat.le_of_ble_eq_true rfl) dX6_counts_119 (fun H locs hP _ hS => ?_)
              obtain ⟨S17, eS17⟩ : ∃ z : St, z = sI S14 3 ((S14.1 3) + 1) := ⟨_, rfl⟩
              have hP : va_P D vwCl (mw a c S17) H := by rw [eS17]; exact hP
              have h := h S17 eS17
              refine lv_aload_n hx hb dX6_counts_122 rfl (lv_at hl 1 rfl) ?_
              refine lv_dup hx hb dX6_counts_123 rfl ?_
              refine va_get (D := D) (ci := 6) (v := .long (S17.2.1 0)) (C := RX6) (T := TX6) (N := 36) hx hb hts hinX6 hown hK hP 0 rfl rfl 11 (by decide) kf86 (fun _ h9 => h9) rfl dX6_counts_124 ?_
              refine lv_iload hx hb dX6_counts_127 (lv_at hl 0 rfl) ?_
              refine lv_i2l hx hb dX6_counts_129 rfl ?_
              refine lv_ladd hx hb dX6_counts_130 ?_
              refine va_put (D := D) (ci := 6) (v := .long ((S17.2.1 0) + x12.toInt64)) (ty := .long) (C := RX6) (T := TX6) (N := 36) hx hb hts hinX6 tyX6 tyX6_ok nmX6 hown hK hP (hD S17) hS 0 rfl rfl 11 (by decide) kf86 (fun _ h9 => h9) rfl (by decide +kernel) rfl rfl (Nat.le_of_ble_eq_true rfl) dX6_counts_131 (fun H locs hP _ hS => ?_)
              obtain ⟨S18, eS18⟩ : ∃ z : St, z = sJ S17 0 ((S17.2.1 0) + x12.toInt64) := ⟨_, rfl⟩
              have hP : va_P D vwCl (mw a c S18) H := by rw [eS18]; exact hP
              have h := h S18 eS18
              obtain ⟨x19, ex19⟩ : ∃ y : Int32, y = xl5 + 1 := ⟨_, rfl⟩
              have h := h x19 ex19
              refine lv_iinc (v := x19) (lv' := [(5, .int x19), (6, .int x12), (0, .ref (a 0)), (1, .int xl1), (2, .int xl2), (3, .int xl3), (4, .int xl4)]) hx hb dX6_counts_134 hl (k := 6) rfl (by rw [ex19]; rfl) (by decide) rfl (fun ls hl => ?_)
              refine lv_goto (tgt := 23) hx hb dX6_counts_137 (by decide) ?_
              exact (ih) xl1 xl2 xl3 xl4 x19 S18 _ _ _ h hP hS (lv_sub hl [2, 3, 4, 5, 6, 0] rfl)
            · have h := h.1 c16
              refine lv_goto (tgt := 134) hx hb dX6_counts_109 (by decide) ?_
              obtain ⟨x20, ex20⟩ : ∃ y : Int32, y = xl5 + 1 := ⟨_, rfl⟩
              have h := h x20 ex20
              refine lv_iinc (v := x20) (lv' := [(5, .int x20), (6, .int x12), (0, .ref (a 0)), (1, .int xl1), (2, .int xl2), (3, .int xl3), (4, .int xl4)]) hx hb dX6_counts_134 hl (k := 6) rfl (by rw [ex20]; rfl) (by decide) rfl (fun ls hl => ?_)
              refine lv_goto (tgt := 23) hx hb dX6_counts_137 (by decide) ?_
              exact (ih) xl1 xl2 xl3 xl4 x20 S14 _ _ _ h hP hS (lv_sub hl [2, 3, 4, 5, 6, 0] rfl)
          · have h := h.2 c10
            refine lv_goto (tgt := 134) hx hb dX6_counts_55 (by decide) ?_
            obtain ⟨x21, ex21⟩ : ∃ y : Int32, y = xl5 + 1 := ⟨_, rfl⟩
            have h := h x21 ex21
            refine lv_iinc (v := x21) (lv' := [(5, .int x21), (0, .ref (a 0)), (1, .int xl1), (2, .int xl2), (3, .int xl3), (4, .int xl4)]) hx hb dX6_counts_134 hl (k := 5) rfl (by rw [ex21]; rfl) (by decide) rfl (fun ls hl => ?_)
            refine lv_goto (tgt := 23) hx hb dX6_counts_137 (by decide) ?_
            exact (ih) xl1 xl2 xl3 xl4 x21 S _ _ _ h hP hS (lv_sub hl [1, 2, 3, 4, 5, 0] rfl)
  unfold PX6_counts at h
  refine lv_aload_n hx hb dX6_counts_0 rfl (lv_at hl 0 rfl) ?_
  refine lv_iconst (v := 0) hx hb dX6_counts_1 (by decide) ?_
  refine va_put (D := D) (ci := 6) (v := .int 0) (ty := .int) (C := RX6) (T := TX6) (N := 36) hx hb hts hinX6 tyX6 tyX6_ok nmX6 hown hK hP (hD S) hS 0 rfl rfl 9 (by decide) kf80 (fun _ h9 => h9) rfl (by decide +kernel) rfl rfl (Nat.le_of_ble_eq_true rfl) dX6_counts_2 (fun H locs hP _ hS => ?_)
  obtain ⟨S1, eS1⟩ : ∃ z : St, z = sI S 3 0 := ⟨_, rfl⟩
  have hP : va_P D vwCl (mw a c S1) H := by rw [eS1]; exact hP
  have h := h S1 eS1
  refine lv_aload_n hx hb dX6_counts_5 rfl (lv_at hl 0 rfl) ?_
  refine lv_iconst (v := 0) hx hb dX6_counts_6 (by decide) ?_
  refine va_put (D := D) (ci := 6) (v := .int 0) (ty := .int) (C := RX6) (T := TX6) (N := 36) hx hb hts hinX6 tyX6 tyX6_ok nmX6 hown hK hP (hD S1) hS 0 rfl rfl 10 (by decide) kf83 (fun _ h9 => h9) rfl (by decide +kernel) rfl rfl (Nat.le_of_ble_eq_true rfl) dX6_counts_7 (fun H locs hP _ hS => ?_)
  obtain ⟨S2, eS2⟩ : ∃ z : St, z = sI S1 4 0 := ⟨_, rfl⟩
  have hP : va_P D vwCl (mw a c S2) H := by rw [eS2]; exact hP
  have h := h S2 eS2
  refine lv_aload_n hx hb dX6_counts_10 rfl (lv_at hl 0 rfl) ?_
  refine lv_lconst (v := 0) hx hb dX6_counts_11 (by decide) ?_
  refine va_put (D := D) (ci := 6) (v := .long 0) (ty := .long) (C := RX6) (T := TX6) (N := 36) hx hb hts hinX6 tyX6 tyX6_ok nmX6 hown hK hP (hD S2) hS 0 rfl rfl 11 (by decide) kf86 (fun _ h9 => h9) rfl (by decide +kernel) rfl rfl (Nat.le_of_ble_eq_true rfl) dX6_counts_12 (fun H locs hP _ hS => ?_)
  obtain ⟨S3, eS3⟩ : ∃ z : St, z = sJ S2 0 0 := ⟨_, rfl⟩
  have hP : va_P D vwCl (mw a c S3) H := by rw [eS3]; exact hP
  have h := h S3 eS3
  refine lv_aload_n hx hb dX6_counts_15 rfl (lv_at hl 0 rfl) ?_
  refine lv_lconst (v := 0) hx hb dX6_counts_16 (by decide) ?_
  refine va_put (D := D) (ci := 6) (v := .long 0) (ty := .long) (C := RX6) (T := TX6) (N := 36) hx hb hts hinX6 tyX6 tyX6_ok nmX6 hown hK hP (hD S3) hS 0 rfl rfl 12 (by decide) kf90 (fun _ h9 => h9) rfl (by decide +kernel) rfl rfl (Nat.le_of_ble_eq_true rfl) dX6_counts_17 (fun H locs hP _ hS => ?_)
  obtain ⟨S4, eS4⟩ : ∃ z : St, z = sJ S3 1 0 := ⟨_, rfl⟩
  have hP : va_P D vwCl (mw a c S4) H := by rw [eS4]; exact hP
  have h := h S4 eS4
  refine lv_iconst (v := 0) hx hb dX6_counts_20 (by decide) ?_
  refine lv_istore (lv' := [(5, .int 0), (0, .ref (a 0)), (1, .int p0), (2, .int p1), (3, .int p2), (4, .int p3)]) hx hb dX6_counts_21 hl (by decide) rfl (fun ls hl => ?_)
  exact (key n) p0 p1 p2 p3 0 S4 _ _ _ h hP hS (lv_sub hl [1, 2, 3, 4, 5, 0] rfl)
def BX6_markOf_0 (X : Int32 → Int32 → Int32 → Int32 → Int32 → Int64 → Int64 → St → Prop) (post : Int32 → St → Prop) (xl1 : Int32) (xl10 : Int32) (xl2 : Int32) (xl3 : Int32) (xl5 : Int32) (yl6 : Int64) (yl8 : Int64) (S : St) : Prop := ((8 ≤ xl10 → post xl5 S) ∧ (¬ 8 ≤ xl10 → ((((xl2 >>> (xl10 &&& 31)) &&& 1) = 1 → ∀ x23 : Int32, x23 = xl10 + 1 → X xl1 x23 xl2 xl3 xl5 yl6 yl8 S) ∧ (¬ ((xl2 >>> (xl10 &&& 31)) &&& 1) = 1 → ∃ k : Nat, PX6_counts k xl1 xl2 xl3 xl10 S (fun S4 => ∀ y6 : Int64, y6 = (S4.1 3).toInt64 → ∀ y7 : Int64, y7 = ((S4.1 4) - (S4.1 3)).toInt64 → ∀ y8 : Int64, y8 = (S4.2.1 0) → ∀ y9 : Int64, y9 = ((S4.2.1 1) - (S4.2.1 0)) → (((lg_cmp y6 2) < 0 → ∀ x11 : Int32, x11 = xl10 + 1 → X xl1 x11 xl2 xl3 xl5 yl6 yl8 S4) ∧ (¬ (lg_cmp y6 2) < 0 → ((0 ≤ (lg_cmp y7 2) → ∀ y13 : Int64, y13 = (((y8 * y8) * y7) + ((y9 * y9) * y6)) → ∀ y14 : Int64, y14 = (y6 * y7) → ((0 < (lg_cmp (y13 * (y6 + y7)) (((S4.2.1 1) * (S4.2.1 1)) * y14)) → ((xl5 < 0 → ∀ x17 : Int32, x17 = xl10 + 1 → X xl1 x17 xl2 xl3 xl10 y13 y14 S4) ∧ (¬ xl5 < 0 → ((0 < (lg_cmp (y13 * yl8) (yl6 * y14)) → ∀ x19 : Int32, x19 = xl10 + 1 → X xl1 x19 xl2 xl3 xl10 y13 y14 S4) ∧ (¬ 0 < (lg_cmp (y13 * yl8) (yl6 * y14)) → ∀ x20 : Int32, x20 = xl10 + 1 → X xl1 x20 xl2 xl3 xl5 yl6 yl8 S4))))) ∧ (¬ 0 < (lg_cmp (y13 * (y6 + y7)) (((S4.2.1 1) * (S4.2.1 1)) * y14)) → ∀ x21 : Int32, x21 = xl10 + 1 → X xl1 x21 xl2 xl3 xl5 yl6 yl8 S4))) ∧ (¬ 0 ≤ (lg_cmp y7 2) → ∀ x22 : Int32, x22 = xl10 + 1 → X xl1 x22 xl2 xl3 xl5 yl6 yl8 S4)))))))))
def LX6_markOf (post : Int32 → St → Prop) : Nat → Int32 → Int32 → Int32 → Int32 → Int32 → Int64 → Int64 → St → Prop
  | 0, _, _, _, _, _, _, _, _ => False
  | n + 1, xl1, xl10, xl2, xl3, xl5, yl6, yl8, S => BX6_markOf_0 (LX6_markOf post n) post xl1 xl10 xl2 xl3 xl5 yl6 yl8 S
def PX6_markOf (n : Nat) (p0 : Int32) (p1 : Int32) (p2 : Int32) (p3 : Int32) (S : St) (post : Int32 → St → Prop) : Prop := ((p3 = 4 → post (-1) S) ∧ (¬ p3 = 4 → LX6_markOf post n p0 0 p1 p2 (-1) 0 1 S))
set_option maxHeartbeats 4000000 in
set_option maxRecDepth 100000 in
theorem tX6_markOf (l : Launch) (D : va_G) (a : Nat → Nat) (c : Nat → ClassId) (sz : Nat) (n : Nat) (p0 : Int32) (p1 : Int32) (p2 : Int32) (p3 : Int32) (S : St) (post : Int32 → St → Prop) (h : PX6_markOf n p0 p1 p2 p3 S post) : Met l yX6_markOf wsX6_markOf ({ frames := 1, cells := 0, slots := 0, locals := 26 }) (va_Pc [.ref (a 0), .int p0, .int p1, .int p2, .int p3] (gP D (mw a c) (mty c) mns S sz)) (va_Qi post (gB D (mw a c)) (va_A (mw a c S) sz)) 0 0 (va_A (mw a c S) sz) := by
  refine Met.ofW (cc := cX6_markOf) (maxL := 23) (ret := (some .int)) (by decide) rfl ?_
  intro p e s m args below meth c9 s₁ B hml hv
  obtain ⟨rfl, hsz, hP, hK, hD0, hN⟩ := hv
  have hx := B.exec
  have hb := B.bytes
  have hr := B.returns
  have hts := atoms_spec (ws := wsX6_markOf) B.pre
  have hown : s.vm.findClass RX6 = some m.cls := findClass_of_methodNamed B.named
  have hlocks := B.notSynchronized
  subst hsz
  have hD1 := hD0.self (sz := s.heap.size)
  generalize hAe : va_A (mw a c S) s.heap.size = A at hD1 ⊢
  have hA : ∀ q : Nat, s.heap.size ≤ q → A q := fun q h => by rw [← hAe]; exact Or.inr h
  have hD : ∀ S2 : St, va_D A (mw a c S2) := gD mw_F hD1
  have hS : va_S A s.heap s.heap [] := va_S.rf
  have hinX6 : ∀ w ∈ wsX60, w ∈ wsX6_markOf := by decide +kernel
  have kc97 := hts (.constantLong RX6 97 2) (by decide +kernel)
  have kf80 := hts (.fieldLink RX6 80 "CanteenPlanModel" "hasMany" "I") (by decide +kernel)
  have kf83 := hts (.fieldLink RX6 83 "CanteenPlanModel" "allMany" "I") (by decide +kernel)
  have kf86 := hts (.fieldLink RX6 86 "CanteenPlanModel" "hasSum" "J") (by decide +kernel)
  have kf90 := hts (.fieldLink RX6 90 "CanteenPlanModel" "allSum" "J") (by decide +kernel)
  have hl := lv_entry ([.ref (a 0), .int p0, .int p1, .int p2, .int p3]) (n := 23) (Nat.le_of_ble_eq_true rfl)
  rw [lg_entry_eq]
  generalize (lg_sl ([.ref (a 0), .int p0, .int p1, .int p2, .int p3]) ++ List.replicate (23 - (lg_sl ([.ref (a 0), .int p0, .int p1, .int p2, .int p3])).length) Slot.unset).toArray = ls at hl ⊢
  have hl : lv_has ls 23 [(0, .ref (a 0)), (1, .int p0), (2, .int p1), (3, .int p2), (4, .int p3)] := hl
  have key : ∀ n : Nat, (∀ (xl1 : Int32) (xl2 : Int32) (xl3 : Int32) (xl5 : Int32) (yl6 : Int64) (yl8 : Int64) (xl10 : Int32) (S : St) (H : Heap) (locs : List Loc) (ls : Array Slot), LX6_markOf post n xl1 xl10 xl2 xl3 xl5 yl6 yl8 S → va_P D vwCl (mw a c S) H → va_S A s.heap H locs → lv_has ls 23 [(0, .ref (a 0)), (1, .int xl1), (2, .int xl2), (3, .int xl3), (5, .int xl5), (6, .long yl6), (8, .long yl8), (10, .int xl10)] → W p l e ((headSpec wsX6_markOf ({ frames := 1, cells := 0, slots := 0, locals := 26 })).room) s m ([.ref (a 0), .int p0, .int p1, .int p2, .int p3]).toArray below meth c9 H locs 0 0 (MQ below (va_Qi post (gB D (mw a c)) A) ([.ref (a 0), .int p0, .int p1, .int p2, .int p3]).toArray s 0 0 A) (F0 m 20 ls [])) := by
    intro n
    induction n with
    | zero => exact fun xl1 xl2 xl3 xl5 yl6 yl8 xl10 S H locs ls h => h.elim
    | succ n ih =>
      intro xl1 xl2 xl3 xl5 yl6 yl8 xl10 S H locs ls h hP hS hl
      have h : BX6_markOf_0 (LX6_markOf post n) post xl1 xl10 xl2 xl3 xl5 yl6 yl8 S := h
      unfold BX6_markOf_0 at h
      refine lv_iload hx hb dX6_markOf_20 (lv_at hl 7 rfl) ?_
      refine lv_bipush (v := 8) hx hb dX6_markOf_22 (by decide) ?_
      refine lv_icmp_ge (tgt := 199) hx hb dX6_markOf_24 (by decide) (fun c2 => ?_) (fun c2 => ?_)
      · have h := h.1 c2
        refine lv_iload hx hb dX6_markOf_199 (lv_at hl 4 rfl) ?_
        exact g_reti hx hb hr hlocks h hP hS dX6_markOf_201
      · have h := h.2 c2
        refine lv_iload_n hx hb dX6_markOf_27 rfl (lv_at hl 2 rfl) ?_
        refine lv_iload hx hb dX6_markOf_28 (lv_at hl 7 rfl) ?_
        refine lv_ishr hx hb dX6_markOf_30 ?_
        refine lv_iconst (v := 1) hx hb dX6_markOf_31 (by decide) ?_
        refine lv_iand hx hb dX6_markOf_32 ?_
        refine lv_iconst (v := 1) hx hb dX6_markOf_33 (by decide) ?_
        refine lv_icmp_ne (tgt := 40) hx hb dX6_markOf_34 (by decide) (fun c3 => ?_) (fun c3 => ?_)
        · have h := h.2 c3
          refine lv_aload_n hx hb dX6_markOf_40 rfl (lv_at hl 0 rfl) ?_
          refine lv_iload_n hx hb dX6_markOf_41 rfl (lv_at hl 1 rfl) ?_
          refine lv_iload_n hx hb dX6_markOf_42 rfl (lv_at hl 2 rfl) ?_
          refine lv_iload_n hx hb dX6_markOf_43 rfl (lv_at hl 3 rfl) ?_
          refine lv_iload hx hb dX6_markOf_44 (lv_at hl 7 rfl) ?_
          obtain ⟨k5, h⟩ := h
          refine k_v (k_runV mns_ok ⟨hx, hb, hml, hown, hts⟩ (tX6_counts l D a c _ k5 xl1 xl2 xl3 xl10 S _ h) (cwV 4 hts gX6_markOf_X6_counts rfl rfl rfl (by decide +kernel) ⟨Nat.le_of_ble_eq_true rfl, Nat.le_of_ble_eq_true rfl⟩) (va_recv hK hP (ci := 6) (q0 := 0) rfl rfl) hP hK (hD S) hN rfl rfl hl.1 rfl (lv_room (Nat.le_of_ble_eq_true rfl)) dX6_markOf_46 ⟨Nat.le_of_ble_eq_true rfl, Nat.le_of_ble_eq_true rfl⟩) hS (hD S) hA (fun S4 H locs h hP hS => ?_)
          refine lv_aload_n hx hb dX6_markOf_49 rfl (lv_at hl 0 rfl) ?_
          refine va_get (D := D) (ci := 6) (v := .int (S4.1 3)) (C := RX6) (T := TX6) (N := 36) hx hb hts hinX6 hown hK hP 0 rfl rfl 9 (by decide) kf80 (fun _ h9 => h9) rfl dX6_markOf_50 ?_
          refine lv_i2l hx hb dX6_markOf_53 rfl ?_
          refine lv_topl (fun y6 ey6 => ?_)
          have h := h y6 ey6
          refine lv_lstore (lv' := [(11, .long y6), (0, .ref (a 0)), (1, .int xl1), (2, .int xl2), (3, .int xl3), (5, .int xl5), (6, .long yl6), (8, .long yl8), (10, .int xl10)]) hx hb dX6_markOf_54 hl (by decide) rfl (fun ls hl => ?_)
          refine lv_aload_n hx hb dX6_markOf_56 rfl (lv_at hl 1 rfl) ?_
          refine va_get (D := D) (ci := 6) (v := .int (S4.1 4)) (C := RX6) (T := TX6) (N := 36) hx hb hts hinX6 hown hK hP 0 rfl rfl 10 (by decide) kf83 (fun _ h9 => h9) rfl dX6_markOf_57 ?_
          refine lv_aload_n hx hb dX6_markOf_60 rfl (lv_at hl 1 rfl) ?_
          refine va_get (D := D) (ci := 6) (v := .int (S4.1 3)) (C := RX6) (T := TX6) (N := 36) hx hb hts hinX6 hown hK hP 0 rfl rfl 9 (by decide) kf80 (fun _ h9 => h9) rfl dX6_markOf_61 ?_
          refine lv_isub hx hb dX6_markOf_64 ?_
          refine lv_i2l hx hb dX6_markOf_65 rfl ?_
          refine lv_topl (fun y7 ey7 => ?_)
          have h := h y7 ey7
          refine lv_lstore (lv' := [(13, .long y7), (11, .long y6), (0, .ref (a 0)), (1, .int xl1), (2, .int xl2), (3, .int xl3), (5, .int xl5), (6, .long yl6), (8, .long yl8), (10, .int xl10)]) hx hb dX6_markOf_66 hl (by decide) rfl (fun ls hl => ?_)
          refine lv_aload_n hx hb dX6_markOf_68 rfl (lv_at hl 2 rfl) ?_
          refine va_get (D := D) (ci := 6) (v := .long (S4.2.1 0)) (C := RX6) (T := TX6) (N := 36) hx hb hts hinX6 hown hK hP 0 rfl rfl 11 (by decide) kf86 (fun _ h9 => h9) rfl dX6_markOf_69 ?_
          refine lv_topl (fun y8 ey8 => ?_)
          have h := h y8 ey8
          refine lv_lstore (lv' := [(15, .long y8), (13, .long y7), (11, .long y6), (0, .ref (a 0)), (1, .int xl1), (2, .int xl2), (3, .int xl3), (5, .int xl5), (6, .long yl6), (8, .long yl8), (10, .int xl10)]) hx hb dX6_markOf_72 hl (by decide) rfl (fun ls hl => ?_)
          refine lv_aload_n hx hb dX6_markOf_74 rfl (lv_at hl 3 rfl) ?_
          refine va_get (D := D) (ci := 6) (v := .long (S4.2.1 1)) (C := RX6) (T := TX6) (N := 36) hx hb hts hinX6 hown hK hP 0 rfl rfl 12 (by decide) kf90 (fun _ h9 => h9) rfl dX6_markOf_75 ?_
          refine lv_aload_n hx hb dX6_markOf_78 rfl (lv_at hl 3 rfl) ?_
          refine va_get (D := D) (ci := 6) (v := .long (S4.2.1 0)) (C := RX6) (T := TX6) (N := 36) hx hb hts hinX6 hown hK hP 0 rfl rfl 11 (by decide) kf86 (fun _ h9 => h9) rfl dX6_markOf_79 ?_
          refine lv_lsub hx hb dX6_markOf_82 ?_
          refine lv_topl (fun y9 ey9 => ?_)
          have h := h y9 ey9
          refine lv_lstore (lv' := [(17, .long y9), (15, .long y8), (13, .long y7), (11, .long y6), (0, .ref (a 0)), (1, .int xl1), (2, .int xl2), (3, .int xl3), (5, .int xl5), (6, .long yl6), (8, .long yl8), (10, .int xl10)]) hx hb dX6_markOf_83 hl (by decide) rfl (fun ls hl => ?_)
          refine lv_lload hx hb dX6_markOf_85 (lv_at hl 3 rfl) ?_
          refine lv_ldc2 (v := 2) hx hb hown kc97 dX6_markOf_87 ?_
          refine W.lcmp hx hb dX6_markOf_90 ?_
          refine lv_if_lt (tgt := 193) hx hb dX6_markOf_91 (by decide) (fun c10 => ?_) (fun c10 => ?_)
          · have h := h.1 c10
            obtain ⟨x11, ex11⟩ : ∃ y : Int32, y = xl10 + 1 := ⟨_, rfl⟩
            have h := h x11 ex11
            refine lv_iinc (v := x11) (lv' := [(10, .int x11), (17, .long y9), (15, .long y8), (13, .long y7), (11, .long y6), (0, .ref (a 0)), (1, .int xl1), (2, .int xl2), (3, .int xl3), (5, .int xl5), (6, .long yl6), (8, .long yl8)]) hx hb dX6_markOf_193 hl (k := 11) rfl (by rw [ex11]; rfl) (by decide) rfl (fun ls hl => ?_)
            refine lv_goto (tgt := 20) hx hb dX6_markOf_196 (by decide) ?_
            exact (ih) xl1 xl2 xl3 xl5 yl6 yl8 x11 S4 _ _ _ h hP hS (lv_sub hl [5, 6, 7, 8, 9, 10, 11, 0] rfl)
          · have h := h.2 c10
            refine lv_lload hx hb dX6_markOf_94 (lv_at hl 2 rfl) ?_
            refine lv_ldc2 (v := 2) hx hb hown kc97 dX6_markOf_96 ?_
            refine W.lcmp hx hb dX6_markOf_99 ?_
            refine lv_if_ge (tgt := 106) hx hb dX6_markOf_100 (by decide) (fun c12 => ?_) (fun c12 => ?_)
            · have h := h.1 c12
              refine lv_lload hx hb dX6_markOf_106 (lv_at hl 1 rfl) ?_
              refine lv_lload hx hb dX6_markOf_108 (lv_at hl 1 rfl) ?_
              refine lv_lmul hx hb dX6_markOf_110 ?_
              refine lv_lload hx hb dX6_markOf_111 (lv_at hl 2 rfl) ?_
              refine lv_lmul hx hb dX6_markOf_113 ?_
              refine lv_lload hx hb dX6_markOf_114 (lv_at hl 0 rfl) ?_
              refine lv_lload hx hb dX6_markOf_116 (lv_at hl 0 rfl) ?_
              refine lv_lmul hx hb dX6_markOf_118 ?_
              refine lv_lload hx hb dX6_markOf_119 (lv_at hl 3 rfl) ?_
              refine lv_lmul hx hb dX6_markOf_121 ?_
              refine lv_ladd hx hb dX6_markOf_122 ?_
              refine lv_topl (fun y13 ey13 => ?_)
              have h := h y13 ey13
              refine lv_lstore (lv' := [(19, .long y13), (17, .long y9), (15, .long y8), (13, .long y7), (11, .long y6), (0, .ref (a 0)), (1, .int xl1), (2, .int xl2), (3, .int xl3), (5, .int xl5), (6, .long yl6), (8, .long yl8), (10, .int xl10)]) hx hb dX6_markOf_123 hl (by decide) rfl (fun ls hl => ?_)
              refine lv_lload hx hb dX6_markOf_125 (lv_at hl 4 rfl) ?_
              refine lv_lload hx hb dX6_markOf_127 (lv_at hl 3 rfl) ?_
              refine lv_lmul hx hb dX6_markOf_129 ?_
              refine lv_topl (fun y14 ey14 => ?_)
              have h := h y14 ey14
              refine lv_lstore (lv' := [(21, .long y14), (19, .long y13), (17, .long y9), (15, .long y8), (13, .long y7), (11, .long y6), (0, .ref (a 0)), (1, .int xl1), (2, .int xl2), (3, .int xl3), (5, .int xl5), (6, .long yl6), (8, .long yl8), (10, .int xl10)]) hx hb dX6_markOf_130 hl (by decide) rfl (fun ls hl => ?_)
              refine lv_lload hx hb dX6_markOf_132 (lv_at hl 1 rfl) ?_
              refine lv_lload hx hb dX6_markOf_134 (lv_at hl 5 rfl) ?_
              refine lv_lload hx hb dX6_markOf_136 (lv_at hl 4 rfl) ?_
              refine lv_ladd hx hb dX6_markOf_138 ?_
              refine lv_lmul hx hb dX6_markOf_139 ?_
              refine lv_aload_n hx hb dX6_markOf_140 rfl (lv_at hl 6 rfl) ?_
              refine va_get (D := D) (ci := 6) (v := .long (S4.2.1 1)) (C := RX6) (T := TX6) (N := 36) hx hb hts hinX6 hown hK hP 0 rfl rfl 12 (by decide) kf90 (fun _ h9 => h9) rfl dX6_markOf_141 ?_
              refine lv_aload_n hx hb dX6_markOf_144 rfl (lv_at hl 6 rfl) ?_
              refine va_get (D := D) (ci := 6) (v := .long (S4.2.1 1)) (C := RX6) (T := TX6) (N := 36) hx hb hts hinX6 hown hK hP 0 rfl rfl 12 (by decide) kf90 (fun _ h9 => h9) rfl dX6_markOf_145 ?_
              refine lv_lmul hx hb dX6_markOf_148 ?_
              refine lv_lload hx hb dX6_markOf_149 (lv_at hl 0 rfl) ?_
              refine lv_lmul hx hb dX6_markOf_151 ?_
              refine W.lcmp hx hb dX6_markOf_152 ?_
              refine lv_if_gt (tgt := 159) hx hb dX6_markOf_153 (by decide) (fun c15 => ?_) (fun c15 => ?_)
              · have h := h.1 c15
                refine lv_iload hx hb dX6_markOf_159 (lv_at hl 10 rfl) ?_
                refine lv_if_lt (tgt := 181) hx hb dX6_markOf_161 (by decide) (fun c16 => ?_) (fun c16 => ?_)
                · have h := h.1 c16
                  refine lv_iload hx hb dX6_markOf_181 (lv_at hl 13 rfl) ?_
                  refine lv_istore (lv' := [(5, .int xl10), (21, .long y14), (19, .long y13), (17, .long y9), (15, .long y8), (13, .long y7), (11, .long y6), (0, .ref (a 0)), (1, .int xl1), (2, .int xl2), (3, .int xl3), (6, .long yl6), (8, .long yl8), (10, .int xl10)]) hx hb dX6_markOf_183 hl (by decide) rfl (fun ls hl => ?_)
                  refine lv_lload hx hb dX6_markOf_185 (lv_at hl 2 rfl) ?_
                  refine lv_lstore (lv' := [(6, .long y13), (5, .int xl10), (21, .long y14), (19, .long y13), (17, .long y9), (15, .long y8), (13, .long y7), (11, .long y6), (0, .ref (a 0)), (1, .int xl1), (2, .int xl2), (3, .int xl3), (8, .long yl8), (10, .int xl10)]) hx hb dX6_markOf_187 hl (by decide) rfl (fun ls hl => ?_)
                  refine lv_lload hx hb dX6_markOf_189 (lv_at hl 2 rfl) ?_
                  refine lv_lstore (lv' := [(8, .long y14), (6, .long y13), (5, .int xl10), (21, .long y14), (19, .long y13), (17, .long y9), (15, .long y8), (13, .long y7), (11, .long y6), (0, .ref (a 0)), (1, .int xl1), (2, .int xl2), (3, .int xl3), (10, .int xl10)]) hx hb dX6_markOf_191 hl (by decide) rfl (fun ls hl => ?_)
                  obtain ⟨x17, ex17⟩ : ∃ y : Int32, y = xl10 + 1 := ⟨_, rfl⟩
                  have h := h x17 ex17
                  refine lv_iinc (v := x17) (lv' := [(10, .int x17), (8, .long y14), (6, .long y13), (5, .int xl10), (21, .long y14), (19, .long y13), (17, .long y9), (15, .long y8), (13, .long y7), (11, .long y6), (0, .ref (a 0)), (1, .int xl1), (2, .int xl2), (3, .int xl3)]) hx hb dX6_markOf_193 hl (k := 13) rfl (by rw [ex17]; rfl) (by decide) rfl (fun ls hl => ?_)
                  refine lv_goto (tgt := 20) hx hb dX6_markOf_196 (by decide) ?_
                  exact (ih) xl1 xl2 xl3 xl10 y13 y14 x17 S4 _ _ _ h hP hS (lv_sub hl [10, 11, 12, 13, 3, 2, 1, 0] rfl)
                · have h := h.2 c16
                  refine lv_lload hx hb dX6_markOf_164 (lv_at hl 1 rfl) ?_
                  refine lv_lload hx hb dX6_markOf_166 (lv_at hl 12 rfl) ?_
                  refine lv_lmul hx hb dX6_markOf_168 ?_
                  refine lv_lload hx hb dX6_markOf_169 (lv_at hl 11 rfl) ?_
                  refine lv_lload hx hb dX6_markOf_171 (lv_at hl 0 rfl) ?_
                  refine lv_lmul hx hb dX6_markOf_173 ?_
                  refine W.lcmp hx hb dX6_markOf_174 ?_
                  refine lv_if_gt (tgt := 181) hx hb dX6_markOf_175 (by decide) (fun c18 => ?_) (fun c18 => ?_)
                  · have h := h.1 c18
                    refine lv_iload hx hb dX6_markOf_181 (lv_at hl 13 rfl) ?_
                    refine lv_istore (lv' := [(5, .int xl10), (21, .long y14), (19, .long y13), (17, .long y9), (15, .long y8), (13, .long y7), (11, .long y6), (0, .ref (a 0)), (1, .int xl1), (2, .int xl2), (3, .int xl3), (6, .long yl6), (8, .long yl8), (10, .int xl10)]) hx hb dX6_markOf_183 hl (by decide) rfl (fun ls hl => ?_)
                    refine lv_lload hx hb dX6_markOf_185 (lv_at hl 2 rfl) ?_
                    refine lv_lstore (lv' := [(6, .long y13), (5, .int xl10), (21, .long y14), (19, .long y13), (17, .long y9), (15, .long y8), (13, .long y7), (11, .long y6), (0, .ref (a 0)), (1, .int xl1), (2, .int xl2), (3, .int xl3), (8, .long yl8), (10, .int xl10)]) hx hb dX6_markOf_187 hl (by decide) rfl (fun ls hl => ?_)
                    refine lv_lload hx hb dX6_markOf_189 (lv_at hl 2 rfl) ?_
                    refine lv_lstore (lv' := [(8, .long y14), (6, .long y13), (5, .int xl10), (21, .long y14), (19, .long y13), (17, .long y9), (15, .long y8), (13, .long y7), (11, .long y6), (0, .ref (a 0)), (1, .int xl1), (2, .int xl2), (3, .int xl3), (10, .int xl10)]) hx hb dX6_markOf_191 hl (by decide) rfl (fun ls hl => ?_)
                    obtain ⟨x19, ex19⟩ : ∃ y : Int32, y = xl10 + 1 := ⟨_, rfl⟩
                    have h := h x19 ex19
                    refine lv_iinc (v := x19) (lv' := [(10, .int x19), (8, .long y14), (6, .long y13), (5, .int xl10), (21, .long y14), (19, .long y13), (17, .long y9), (15, .long y8), (13, .long y7), (11, .long y6), (0, .ref (a 0)), (1, .int xl1), (2, .int xl2), (3, .int xl3)]) hx hb dX6_markOf_193 hl (k := 13) rfl (by rw [ex19]; rfl) (by decide) rfl (fun ls hl => ?_)
                    refine lv_goto (tgt := 20) hx hb dX6_markOf_196 (by decide) ?_
                    exact (ih) xl1 xl2 xl3 xl10 y13 y14 x19 S4 _ _ _ h hP hS (lv_sub hl [10, 11, 12, 13, 3, 2, 1, 0] rfl)
                  · have h := h.2 c18
                    refine lv_goto (tgt := 193) hx hb dX6_markOf_178 (by decide) ?_
                    obtain ⟨x20, ex20⟩ : ∃ y : Int32, y = xl10 + 1 := ⟨_, rfl⟩
                    have h := h x20 ex20
                    refine lv_iinc (v := x20) (lv' := [(10, .int x20), (21, .long y14), (19, .long y13), (17, .long y9), (15, .long y8), (13, .long y7), (11, .long y6), (0, .ref (a 0)), (1, .int xl1), (2, .int xl2), (3, .int xl3), (5, .int xl5), (6, .long yl6), (8, .long yl8)]) hx hb dX6_markOf_193 hl (k := 13) rfl (by rw [ex20]; rfl) (by decide) rfl (fun ls hl => ?_)
                    refine lv_goto (tgt := 20) hx hb dX6_markOf_196 (by decide) ?_
                    exact (ih) xl1 xl2 xl3 xl5 yl6 yl8 x20 S4 _ _ _ h hP hS (lv_sub hl [7, 8, 9, 10, 11, 12, 13, 0] rfl)
              · have h := h.2 c15
                refine lv_goto (tgt := 193) hx hb dX6_markOf_156 (by decide) ?_
                obtain ⟨x21, ex21⟩ : ∃ y : Int32, y = xl10 + 1 := ⟨_, rfl⟩
                have h := h x21 ex21
                refine lv_iinc (v := x21) (lv' := [(10, .int x21), (21, .long y14), (19, .long y13), (17, .long y9), (15, .long y8), (13, .long y7), (11, .long y6), (0, .ref (a 0)), (1, .int xl1), (2, .int xl2), (3, .int xl3), (5, .int xl5), (6, .long yl6), (8, .long yl8)]) hx hb dX6_markOf_193 hl (k := 13) rfl (by rw [ex21]; rfl) (by decide) rfl (fun ls hl => ?_)
                refine lv_goto (tgt := 20) hx hb dX6_markOf_196 (by decide) ?_
                exact (ih) xl1 xl2 xl3 xl5 yl6 yl8 x21 S4 _ _ _ h hP hS (lv_sub hl [7, 8, 9, 10, 11, 12, 13, 0] rfl)
            · have h := h.2 c12
              refine lv_goto (tgt := 193) hx hb dX6_markOf_103 (by decide) ?_
              obtain ⟨x22, ex22⟩ : ∃ y : Int32, y = xl10 + 1 := ⟨_, rfl⟩
              have h := h x22 ex22
              refine lv_iinc (v := x22) (lv' := [(10, .int x22), (17, .long y9), (15, .long y8), (13, .long y7), (11, .long y6), (0, .ref (a 0)), (1, .int xl1), (2, .int xl2), (3, .int xl3), (5, .int xl5), (6, .long yl6), (8, .long yl8)]) hx hb dX6_markOf_193 hl (k := 11) rfl (by rw [ex22]; rfl) (by decide) rfl (fun ls hl => ?_)
              refine lv_goto (tgt := 20) hx hb dX6_markOf_196 (by decide) ?_
              exact (ih) xl1 xl2 xl3 xl5 yl6 yl8 x22 S4 _ _ _ h hP hS (lv_sub hl [5, 6, 7, 8, 9, 10, 11, 0] rfl)
        · have h := h.1 c3
          refine lv_goto (tgt := 193) hx hb dX6_markOf_37 (by decide) ?_
          obtain ⟨x23, ex23⟩ : ∃ y : Int32, y = xl10 + 1 := ⟨_, rfl⟩
          have h := h x23 ex23
          refine lv_iinc (v := x23) (lv' := [(10, .int x23), (0, .ref (a 0)), (1, .int xl1), (2, .int xl2), (3, .int xl3), (5, .int xl5), (6, .long yl6), (8, .long yl8)]) hx hb dX6_markOf_193 hl (k := 7) rfl (by rw [ex23]; rfl) (by decide) rfl (fun ls hl => ?_)
          refine lv_goto (tgt := 20) hx hb dX6_markOf_196 (by decide) ?_
          exact (ih) xl1 xl2 xl3 xl5 yl6 yl8 x23 S _ _ _ h hP hS (lv_sub hl [1, 2, 3, 4, 5, 6, 7, 0] rfl)
  unfold PX6_markOf at h
  refine lv_iload hx hb dX6_markOf_0 (lv_at hl 4 rfl) ?_
  refine lv_iconst (v := 4) hx hb dX6_markOf_2 (by decide) ?_
  refine lv_icmp_ne (tgt := 8) hx hb dX6_markOf_3 (by decide) (fun c1 => ?_) (fun c1 => ?_)
  · have h := h.2 c1
    refine lv_iconst (v := (-1)) hx hb dX6_markOf_8 (by decide) ?_
    refine lv_istore (lv' := [(5, .int (-1)), (0, .ref (a 0)), (1, .int p0), (2, .int p1), (3, .int p2), (4, .int p3)]) hx hb dX6_markOf_9 hl (by decide) rfl (fun ls hl => ?_)
    refine lv_lconst (v := 0) hx hb dX6_markOf_11 (by decide) ?_
    refine lv_lstore (lv' := [(6, .long 0), (5, .int (-1)), (0, .ref (a 0)), (1, .int p0), (2, .int p1), (3, .int p2), (4, .int p3)]) hx hb dX6_markOf_12 hl (by decide) rfl (fun ls hl => ?_)
    refine lv_lconst (v := 1) hx hb dX6_markOf_14 (by decide) ?_
    refine lv_lstore (lv' := [(8, .long 1), (6, .long 0), (5, .int (-1)), (0, .ref (a 0)), (1, .int p0), (2, .int p1), (3, .int p2), (4, .int p3)]) hx hb dX6_markOf_15 hl (by decide) rfl (fun ls hl => ?_)
    refine lv_iconst (v := 0) hx hb dX6_markOf_17 (by decide) ?_
    refine lv_istore (lv' := [(10, .int 0), (8, .long 1), (6, .long 0), (5, .int (-1)), (0, .ref (a 0)), (1, .int p0), (2, .int p1), (3, .int p2), (4, .int p3)]) hx hb dX6_markOf_18 hl (by decide) rfl (fun ls hl => ?_)
    exact (key n) p0 p1 p2 (-1) 0 1 0 S _ _ _ h hP hS (lv_sub hl [4, 5, 6, 7, 3, 2, 1, 0] rfl)
  · have h := h.1 c1
    refine lv_iconst (v := (-1)) hx hb dX6_markOf_6 (by decide) ?_
    exact g_reti hx hb hr hlocks h hP hS dX6_markOf_7
def EX6_leavesOf (rc : Int32 → Int32 → Int32 → Int32 → St → (Int32 → St → Prop) → Prop) (p0 : Int32) (p1 : Int32) (p2 : Int32) (p3 : Int32) (S : St) (post : Int32 → St → Prop) : Prop := ∃ k : Nat, PX6_markOf k p0 p1 p2 p3 S (fun x2 S1 => ((0 ≤ x2 → rc p0 (p1 ||| ((1 : Int32) <<< (x2 &&& 31))) p2 (p3 + 1) S1 (fun x6 S5 => rc p0 (p1 ||| ((1 : Int32) <<< (x2 &&& 31))) (p2 ||| ((1 : Int32) <<< (x2 &&& 31))) (p3 + 1) S5 (fun x8 S7 => post (x6 + x8) S7))) ∧ (¬ 0 ≤ x2 → post 1 S1)))
def PX6_leavesOf : Nat → Int32 → Int32 → Int32 → Int32 → St → (Int32 → St → Prop) → Prop
  | 0, _, _, _, _, _, _ => False
  | d + 1, p0, p1, p2, p3, S, post => EX6_leavesOf (PX6_leavesOf d) p0 p1 p2 p3 S post
abbrev rmX6_leavesOf (d : Nat) : Room := { frames := 2 + d, cells := 0, slots := 0, locals := 68 + 25 * d }
set_option maxHeartbeats 4000000 in
set_option maxRecDepth 100000 in
theorem tX6_leavesOf (l : Launch) (D : va_G) (a : Nat → Nat) (c : Nat → ClassId) : ∀ (d : Nat) (sz : Nat) (p0 : Int32) (p1 : Int32) (p2 : Int32) (p3 : Int32) (S : St) (post : Int32 → St → Prop), PX6_leavesOf d p0 p1 p2 p3 S post → Met l yX6_leavesOf wsX6_leavesOf (rmX6_leavesOf d) (va_Pc [.ref (a 0), .int p0, .int p1, .int p2, .int p3] (gP D (mw a c) (mty c) mns S sz)) (va_Qi post (gB D (mw a c)) (va_A (mw a c S) sz)) 0 0 (va_A (mw a c S) sz) := by
  intro d
  induction d with
  | zero => intro sz p0 p1 p2 p3 S post h; exact h.elim
  | succ d hrc0 =>
  intro sz p0 p1 p2 p3 S post h
  have hrc : ∀ (p0 : Int32) (p1 : Int32) (p2 : Int32) (p3 : Int32) (S : St) (sz : Nat) (post : Int32 → St → Prop), PX6_leavesOf d p0 p1 p2 p3 S post → Met l yX6_leavesOf wsX6_leavesOf (rmX6_leavesOf d) (va_Pc [.ref (a 0), .int p0, .int p1, .int p2, .int p3] (gP D (mw a c) (mty c) mns S sz)) (va_Qi post (gB D (mw a c)) (va_A (mw a c S) sz)) 0 0 (va_A (mw a c S) sz) := fun p0 p1 p2 p3 S sz post h => hrc0 sz p0 p1 p2 p3 S post h
  refine Met.ofW (cc := cX6_leavesOf) (maxL := 6) (ret := (some .int)) (by decide) rfl ?_
  intro p e s m args below meth c9 s₁ B hml hv
  obtain ⟨rfl, hsz, hP, hK, hD0, hN⟩ := hv
  have hx := B.exec
  have hb := B.bytes
  have hr := B.returns
  have hts := atoms_spec (ws := wsX6_leavesOf) B.pre
  have hown : s.vm.findClass RX6 = some m.cls := findClass_of_methodNamed B.named
  have hlocks := B.notSynchronized
  subst hsz
  have hD1 := hD0.self (sz := s.heap.size)
  generalize hAe : va_A (mw a c S) s.heap.size = A at hD1 ⊢
  have hA : ∀ q : Nat, s.heap.size ≤ q → A q := fun q h => by rw [← hAe]; exact Or.inr h
  have hD : ∀ S2 : St, va_D A (mw a c S2) := gD mw_F hD1
  have hS : va_S A s.heap s.heap [] := va_S.rf
  have hl := lv_entry ([.ref (a 0), .int p0, .int p1, .int p2, .int p3]) (n := 6) (Nat.le_of_ble_eq_true rfl)
  rw [lg_entry_eq]
  generalize (lg_sl ([.ref (a 0), .int p0, .int p1, .int p2, .int p3]) ++ List.replicate (6 - (lg_sl ([.ref (a 0), .int p0, .int p1, .int p2, .int p3])).length) Slot.unset).toArray = ls at hl ⊢
  have hl : lv_has ls 6 [(0, .ref (a 0)), (1, .int p0), (2, .int p1), (3, .int p2), (4, .int p3)] := hl
  have hroom : (rmX6_leavesOf d).frames + 1 ≤ ((headSpec wsX6_leavesOf (rmX6_leavesOf (d + 1))).room).frames ∧ 8 + (6 + 11) + (rmX6_leavesOf d).locals ≤ ((headSpec wsX6_leavesOf (rmX6_leavesOf (d + 1))).room).locals := ⟨by simp only [headSpec, rmX6_leavesOf]; omega, by simp only [headSpec, rmX6_leavesOf]; omega⟩
  have h : EX6_leavesOf (PX6_leavesOf d) p0 p1 p2 p3 S post := h
  unfold EX6_leavesOf at h
  refine lv_aload_n hx hb dX6_leavesOf_0 rfl (lv_at hl 0 rfl) ?_
  refine lv_iload_n hx hb dX6_leavesOf_1 rfl (lv_at hl 1 rfl) ?_
  refine lv_iload_n hx hb dX6_leavesOf_2 rfl (lv_at hl 2 rfl) ?_
  refine lv_iload_n hx hb dX6_leavesOf_3 rfl (lv_at hl 3 rfl) ?_
  refine lv_iload hx hb dX6_leavesOf_4 (lv_at hl 4 rfl) ?_
  obtain ⟨k3, h⟩ := h
  refine k_i (k_runV mns_ok ⟨hx, hb, hml, hown, hts⟩ (tX6_markOf l D a c _ k3 p0 p1 p2 p3 S _ h) (cwV 4 hts gX6_leavesOf_X6_markOf rfl rfl rfl (by decide +kernel) ⟨by show 1 + 1 ≤ 2 + (d + 1); omega, by show 8 + (23 + 11) + 26 ≤ 68 + 25 * (d + 1); omega⟩) (va_recv hK hP (ci := 6) (q0 := 0) rfl rfl) hP hK (hD S) hN rfl rfl hl.1 rfl (lv_room (Nat.le_of_ble_eq_true rfl)) dX6_leavesOf_6 ⟨Nat.le_refl _, Nat.le_refl _⟩) hS (hD S) hA (fun x2 S1 H locs h hP hS => ?_)
  refine lv_istore (lv' := [(5, .int x2), (0, .ref (a 0)), (1, .int p0), (2, .int p1), (3, .int p2), (4, .int p3)]) hx hb dX6_leavesOf_9 hl (by decide) rfl (fun ls hl => ?_)
  refine lv_iload hx hb dX6_leavesOf_11 (lv_at hl 0 rfl) ?_
  refine lv_if_ge (tgt := 18) hx hb dX6_leavesOf_13 (by decide) (fun c4 => ?_) (fun c4 => ?_)
  · have h := h.1 c4
    refine lv_aload_n hx hb dX6_leavesOf_18 rfl (lv_at hl 1 rfl) ?_
    refine lv_iload_n hx hb dX6_leavesOf_19 rfl (lv_at hl 2 rfl) ?_
    refine lv_iload_n hx hb dX6_leavesOf_20 rfl (lv_at hl 3 rfl) ?_
    refine lv_iconst (v := 1) hx hb dX6_leavesOf_21 (by decide) ?_
    refine lv_iload hx hb dX6_leavesOf_22 (lv_at hl 0 rfl) ?_
    refine lv_ishl hx hb dX6_leavesOf_24 ?_
    refine lv_ior hx hb dX6_leavesOf_25 ?_
    refine lv_iload_n hx hb dX6_leavesOf_26 rfl (lv_at hl 4 rfl) ?_
    refine lv_iload hx hb dX6_leavesOf_27 (lv_at hl 5 rfl) ?_
    refine lv_iconst (v := 1) hx hb dX6_leavesOf_29 (by decide) ?_
    refine lv_iadd hx hb dX6_leavesOf_30 ?_
    refine k_i (k_runV mns_ok ⟨hx, hb, hml, hown, hts⟩ (hrc p0 (p1 ||| ((1 : Int32) <<< (x2 &&& 31))) p2 (p3 + 1) S1 _ _ h) (cwV 4 hts gX6_leavesOf_X6_leavesOf rfl rfl rfl (by decide +kernel) hroom) (va_recv hK hP (ci := 6) (q0 := 0) rfl rfl) hP hK (hD S1) hN rfl rfl hl.1 rfl (lv_room (Nat.le_of_ble_eq_true rfl)) dX6_leavesOf_31 ⟨Nat.le_refl _, Nat.le_refl _⟩) hS (hD S1) hA (fun x6 S5 H locs h hP hS => ?_)
    refine lv_aload_n hx hb dX6_leavesOf_34 rfl (lv_at hl 1 rfl) ?_
    refine lv_iload_n hx hb dX6_leavesOf_35 rfl (lv_at hl 2 rfl) ?_
    refine lv_iload_n hx hb dX6_leavesOf_36 rfl (lv_at hl 3 rfl) ?_
    refine lv_iconst (v := 1) hx hb dX6_leavesOf_37 (by decide) ?_
    refine lv_iload hx hb dX6_leavesOf_38 (lv_at hl 0 rfl) ?_
    refine lv_ishl hx hb dX6_leavesOf_40 ?_
    refine lv_ior hx hb dX6_leavesOf_41 ?_
    refine lv_iload_n hx hb dX6_leavesOf_42 rfl (lv_at hl 4 rfl) ?_
    refine lv_iconst (v := 1) hx hb dX6_leavesOf_43 (by decide) ?_
    refine lv_iload hx hb dX6_leavesOf_44 (lv_at hl 0 rfl) ?_
    refine lv_ishl hx hb dX6_leavesOf_46 ?_
    refine lv_ior hx hb dX6_leavesOf_47 ?_
    refine lv_iload hx hb dX6_leavesOf_48 (lv_at hl 5 rfl) ?_
    refine lv_iconst (v := 1) hx hb dX6_leavesOf_50 (by decide) ?_
    refine lv_iadd hx hb dX6_leavesOf_51 ?_
    refine k_i (k_runV mns_ok ⟨hx, hb, hml, hown, hts⟩ (hrc p0 (p1 ||| ((1 : Int32) <<< (x2 &&& 31))) (p2 ||| ((1 : Int32) <<< (x2 &&& 31))) (p3 + 1) S5 _ _ h) (cwV 4 hts gX6_leavesOf_X6_leavesOf rfl rfl rfl (by decide +kernel) hroom) (va_recv hK hP (ci := 6) (q0 := 0) rfl rfl) hP hK (hD S5) hN rfl rfl hl.1 rfl (lv_room (Nat.le_of_ble_eq_true rfl)) dX6_leavesOf_52 ⟨Nat.le_refl _, Nat.le_refl _⟩) hS (hD S5) hA (fun x8 S7 H locs h hP hS => ?_)
    refine lv_iadd hx hb dX6_leavesOf_55 ?_
    exact g_reti hx hb hr hlocks h hP hS dX6_leavesOf_56
  · have h := h.2 c4
    refine lv_iconst (v := 1) hx hb dX6_leavesOf_16 (by decide) ?_
    exact g_reti hx hb hr hlocks h hP hS dX6_leavesOf_17
def PX6_leaves (p0 : Int32) (S : St) (post : Int32 → St → Prop) : Prop := PX6_isMeal p0 S (fun x2 S1 => ((x2 = 0 → post 0 S1) ∧ (¬ x2 = 0 → PX6_leavesOf 8 p0 0 0 0 S1 (fun x5 S4 => post x5 S4))))
set_option maxHeartbeats 4000000 in
set_option maxRecDepth 100000 in
theorem tX6_leaves (l : Launch) (D : va_G) (a : Nat → Nat) (c : Nat → ClassId) (sz : Nat) (p0 : Int32) (S : St) (post : Int32 → St → Prop) (h : PX6_leaves p0 S post) : Met l yX6_leaves wsX6_leaves ({ frames := 11, cells := 0, slots := 0, locals := 293 }) (va_Pc [.ref (a 0), .int p0] (gP D (mw a c) (mty c) mns S sz)) (va_Qi post (gB D (mw a c)) (va_A (mw a c S) sz)) 0 0 (va_A (mw a c S) sz) := by
  refine Met.ofW (cc := cX6_leaves) (maxL := 2) (ret := (some .int)) (by decide) rfl ?_
  intro p e s m args below meth c9 s₁ B hml hv
  obtain ⟨rfl, hsz, hP, hK, hD0, hN⟩ := hv
  have hx := B.exec
  have hb := B.bytes
  have hr := B.returns
  have hts := atoms_spec (ws := wsX6_leaves) B.pre
  have hown : s.vm.findClass RX6 = some m.cls := findClass_of_methodNamed B.named
  have hlocks := B.notSynchronized
  subst hsz
  have hD1 := hD0.self (sz := s.heap.size)
  generalize hAe : va_A (mw a c S) s.heap.size = A at hD1 ⊢
  have hA : ∀ q : Nat, s.heap.size ≤ q → A q := fun q h => by rw [← hAe]; exact Or.inr h
  have hD : ∀ S2 : St, va_D A (mw a c S2) := gD mw_F hD1
  have hS : va_S A s.heap s.heap [] := va_S.rf
  have hl := lv_entry ([.ref (a 0), .int p0]) (n := 2) (Nat.le_of_ble_eq_true rfl)
  rw [lg_entry_eq]
  generalize (lg_sl ([.ref (a 0), .int p0]) ++ List.replicate (2 - (lg_sl ([.ref (a 0), .int p0])).length) Slot.unset).toArray = ls at hl ⊢
  have hl : lv_has ls 2 [(0, .ref (a 0)), (1, .int p0)] := hl
  unfold PX6_leaves at h
  refine lv_aload_n hx hb dX6_leaves_0 rfl (lv_at hl 0 rfl) ?_
  refine lv_iload_n hx hb dX6_leaves_1 rfl (lv_at hl 1 rfl) ?_
  refine k_i (k_runV mns_ok ⟨hx, hb, hml, hown, hts⟩ (tX6_isMeal l D a c _ p0 S _ h) (cwV 1 hts gX6_leaves_X6_isMeal rfl rfl rfl (by decide +kernel) ⟨Nat.le_of_ble_eq_true rfl, Nat.le_of_ble_eq_true rfl⟩) (va_recv hK hP (ci := 6) (q0 := 0) rfl rfl) hP hK (hD S) hN rfl rfl hl.1 rfl (lv_room (Nat.le_of_ble_eq_true rfl)) dX6_leaves_2 ⟨Nat.le_of_ble_eq_true rfl, Nat.le_of_ble_eq_true rfl⟩) hS (hD S) hA (fun x2 S1 H locs h hP hS => ?_)
  refine lv_if_eq (tgt := 19) hx hb dX6_leaves_5 (by decide) (fun c3 => ?_) (fun c3 => ?_)
  · have h := h.1 c3
    refine lv_iconst (v := 0) hx hb dX6_leaves_19 (by decide) ?_
    exact g_reti hx hb hr hlocks h hP hS dX6_leaves_20
  · have h := h.2 c3
    refine lv_aload_n hx hb dX6_leaves_8 rfl (lv_at hl 0 rfl) ?_
    refine lv_iload_n hx hb dX6_leaves_9 rfl (lv_at hl 1 rfl) ?_
    refine lv_iconst (v := 0) hx hb dX6_leaves_10 (by decide) ?_
    refine lv_iconst (v := 0) hx hb dX6_leaves_11 (by decide) ?_
    refine lv_iconst (v := 0) hx hb dX6_leaves_12 (by decide) ?_
    refine k_i (k_runV mns_ok ⟨hx, hb, hml, hown, hts⟩ (tX6_leavesOf l D a c 8 _ p0 0 0 0 S1 _ h) (cwV 4 hts gX6_leaves_X6_leavesOf rfl rfl rfl (by decide +kernel) ⟨Nat.le_of_ble_eq_true rfl, Nat.le_of_ble_eq_true rfl⟩) (va_recv hK hP (ci := 6) (q0 := 0) rfl rfl) hP hK (hD S1) hN rfl rfl hl.1 rfl (lv_room (Nat.le_of_ble_eq_true rfl)) dX6_leaves_13 ⟨Nat.le_of_ble_eq_true rfl, Nat.le_of_ble_eq_true rfl⟩) hS (hD S1) hA (fun x5 S4 H locs h hP hS => ?_)
    refine lv_goto (tgt := 20) hx hb dX6_leaves_16 (by decide) ?_
    exact g_reti hx hb hr hlocks h hP hS dX6_leaves_20
def BX6_goes_0 (X : Int32 → Int32 → Int32 → St → Prop) (post : St → Prop) (xl1 : Int32) (xl2 : Int32) (xl3 : Int32) (S : St) : Prop := ((xl3 < 0 → post S) ∧ (¬ xl3 < 0 → (vp_in (S.1 5) 5 ∧ ∀ S9 : St, S9 = sR S 6 (upd (S.2.2 6) (S.1 5).toNatClampNeg xl3) → ∀ S10 : St, S10 = sI S9 5 ((S9.1 5) + 1) → ∀ S11 : St, S11 = sI S10 6 ((S10.1 6) ||| ((1 : Int32) <<< (xl3 &&& 31))) → ∀ S12 : St, S12 = sI S11 7 ((S11.1 7) ||| (xl2 &&& ((1 : Int32) <<< (xl3 &&& 31)))) → ∃ k : Nat, PX6_markOf k xl1 (S12.1 6) (S12.1 7) (S12.1 5) S12 (fun x14 S13 => X xl1 xl2 x14 S13))))
def LX6_goes (post : St → Prop) : Nat → Int32 → Int32 → Int32 → St → Prop
  | 0, _, _, _, _ => False
  | n + 1, xl1, xl2, xl3, S => BX6_goes_0 (LX6_goes post n) post xl1 xl2 xl3 S
def PX6_goes (n : Nat) (p0 : Int32) (p1 : Int32) (S : St) (post : St → Prop) : Prop := ∀ S1 : St, S1 = sI S 6 0 → ∀ S2 : St, S2 = sI S1 7 0 → ∀ S3 : St, S3 = sI S2 5 0 → ∃ k : Nat, PX6_markOf k p0 0 0 0 S3 (fun x5 S4 => LX6_goes post n p0 p1 x5 S4)
set_option maxHeartbeats 4000000 in
set_option maxRecDepth 100000 in
theorem tX6_goes (l : Launch) (D : va_G) (a : Nat → Nat) (c : Nat → ClassId) (sz : Nat) (n : Nat) (p0 : Int32) (p1 : Int32) (S : St) (post : St → Prop) (h : PX6_goes n p0 p1 S post) : Met l yX6_goes wsX6_goes ({ frames := 2, cells := 0, slots := 0, locals := 68 }) (va_Pc [.ref (a 0), .int p0, .int p1] (gP D (mw a c) (mty c) mns S sz)) (va_Qv post (gB D (mw a c)) (va_A (mw a c S) sz)) 0 0 (va_A (mw a c S) sz) := by
  refine Met.ofW (cc := cX6_goes) (maxL := 4) (ret := none) (by decide) rfl ?_
  intro p e s m args below meth c9 s₁ B hml hv
  obtain ⟨rfl, hsz, hP, hK, hD0, hN⟩ := hv
  have hx := B.exec
  have hb := B.bytes
  have hr := B.returns
  have hts := atoms_spec (ws := wsX6_goes) B.pre
  have hown : s.vm.findClass RX6 = some m.cls := findClass_of_methodNamed B.named
  have hlocks := B.notSynchronized
  subst hsz
  have hD1 := hD0.self (sz := s.heap.size)
  generalize hAe : va_A (mw a c S) s.heap.size = A at hD1 ⊢
  have hA : ∀ q : Nat, s.heap.size ≤ q → A q := fun q h => by rw [← hAe]; exact Or.inr h
  have hD : ∀ S2 : St, va_D A (mw a c S2) := gD mw_F hD1
  have hS : va_S A s.heap s.heap [] := va_S.rf
  have hinX6 : ∀ w ∈ wsX60, w ∈ wsX6_goes := by decide +kernel
  have kf106 := hts (.fieldLink RX6 106 "CanteenPlanModel" "leafMask" "I") (by decide +kernel)
  have kf109 := hts (.fieldLink RX6 109 "CanteenPlanModel" "leafBits" "I") (by decide +kernel)
  have kf112 := hts (.fieldLink RX6 112 "CanteenPlanModel" "wayMany" "I") (by decide +kernel)
  have kf29 := hts (.fieldLink RX6 29 "CanteenPlanModel" "way" "[I") (by decide +kernel)
  have hl := lv_entry ([.ref (a 0), .int p0, .int p1]) (n := 4) (Nat.le_of_ble_eq_true rfl)
  rw [lg_entry_eq]
  generalize (lg_sl ([.ref (a 0), .int p0, .int p1]) ++ List.replicate (4 - (lg_sl ([.ref (a 0), .int p0, .int p1])).length) Slot.unset).toArray = ls at hl ⊢
  have hl : lv_has ls 4 [(0, .ref (a 0)), (1, .int p0), (2, .int p1)] := hl
  have key : ∀ n : Nat, (∀ (xl1 : Int32) (xl2 : Int32) (xl3 : Int32) (S : St) (H : Heap) (locs : List Loc) (ls : Array Slot), LX6_goes post n xl1 xl2 xl3 S → va_P D vwCl (mw a c S) H → va_S A s.heap H locs → lv_has ls 4 [(0, .ref (a 0)), (1, .int xl1), (2, .int xl2), (3, .int xl3)] → W p l e ((headSpec wsX6_goes ({ frames := 2, cells := 0, slots := 0, locals := 68 })).room) s m ([.ref (a 0), .int p0, .int p1]).toArray below meth c9 H locs 0 0 (MQ below (va_Qv post (gB D (mw a c)) A) ([.ref (a 0), .int p0, .int p1]).toArray s 0 0 A) (F0 m 24 ls [])) := by
    intro n
    induction n with
    | zero => exact fun xl1 xl2 xl3 S H locs ls h => h.elim
    | succ n ih =>
      intro xl1 xl2 xl3 S H locs ls h hP hS hl
      have h : BX6_goes_0 (LX6_goes post n) post xl1 xl2 xl3 S := h
      unfold BX6_goes_0 at h
      refine lv_iload_n hx hb dX6_goes_24 rfl (lv_at hl 3 rfl) ?_
      refine lv_if_lt (tgt := 95) hx hb dX6_goes_25 (by decide) (fun c7 => ?_) (fun c7 => ?_)
      · have h := h.1 c7
        exact g_retv hx hb hr hlocks h hP hS dX6_goes_95
      · have h := h.2 c7
        refine lv_aload_n hx hb dX6_goes_28 rfl (lv_at hl 0 rfl) ?_
        refine va_get (D := D) (ci := 6) (v := .ref (a 7)) (C := RX6) (T := TX6) (N := 36) hx hb hts hinX6 hown hK hP 0 rfl rfl 13 (by decide) kf29 (fun _ h9 => h9) rfl dX6_goes_29 ?_
        refine lv_aload_n hx hb dX6_goes_32 rfl (lv_at hl 0 rfl) ?_
        refine va_get (D := D) (ci := 6) (v := .int (S.1 5)) (C := RX6) (T := TX6) (N := 36) hx hb hts hinX6 hown hK hP 0 rfl rfl 14 (by decide) kf112 (fun _ h9 => h9) rfl dX6_goes_33 ?_
        refine lv_iload_n hx hb dX6_goes_36 rfl (lv_at hl 3 rfl) ?_
        obtain ⟨b8, h⟩ := h
        refine va_iast hx hb hK hP (hD S) hS 7 6 rfl rfl b8 dX6_goes_37 (fun H locs hP _ hS => ?_)
        obtain ⟨S9, eS9⟩ : ∃ z : St, z = sR S 6 (upd (S.2.2 6) (S.1 5).toNatClampNeg xl3) := ⟨_, rfl⟩
        have hP : va_P D vwCl (mw a c S9) H := by rw [eS9]; exact hP
        have h := h S9 eS9
        refine lv_aload_n hx hb dX6_goes_38 rfl (lv_at hl 0 rfl) ?_
        refine lv_dup hx hb dX6_goes_39 rfl ?_
        refine va_get (D := D) (ci := 6) (v := .int (S9.1 5)) (C := RX6) (T := TX6) (N := 36) hx hb hts hinX6 hown hK hP 0 rfl rfl 14 (by decide) kf112 (fun _ h9 => h9) rfl dX6_goes_40 ?_
        refine lv_iconst (v := 1) hx hb dX6_goes_43 (by decide) ?_
        refine lv_iadd hx hb dX6_goes_44 ?_
        refine va_put (D := D) (ci := 6) (v := .int ((S9.1 5) + 1)) (ty := .int) (C := RX6) (T := TX6) (N := 36) hx hb hts hinX6 tyX6 tyX6_ok nmX6 hown hK hP (hD S9) hS 0 rfl rfl 14 (by decide) kf112 (fun _ h9 => h9) rfl (by decide +kernel) rfl rfl (Nat.le_of_ble_eq_true rfl) dX6_goes_45 (fun H locs hP _ hS => ?_)
        obtain ⟨S10, eS10⟩ : ∃ z : St, z = sI S9 5 ((S9.1 5) + 1) := ⟨_, rfl⟩
        have hP : va_P D vwCl (mw a c S10) H := by rw [eS10]; exact hP
        have h := h S10 eS10
        refine lv_aload_n hx hb dX6_goes_48 rfl (lv_at hl 0 rfl) ?_
        refine lv_dup hx hb dX6_goes_49 rfl ?_
        refine va_get (D := D) (ci := 6) (v := .int (S10.1 6)) (C := RX6) (T := TX6) (N := 36) hx hb hts hinX6 hown hK hP 0 rfl rfl 15 (by decide) kf106 (fun _ h9 => h9) rfl dX6_goes_50 ?_
        refine lv_iconst (v := 1) hx hb dX6_goes_53 (by decide) ?_
        refine lv_iload_n hx hb dX6_goes_54 rfl (lv_at hl 3 rfl) ?_
        refine lv_ishl hx hb dX6_goes_55 ?_
        refine lv_ior hx hb dX6_goes_56 ?_
        refine va_put (D := D) (ci := 6) (v := .int ((S10.1 6) ||| ((1 : Int32) <<< (xl3 &&& 31)))) (ty := .int) (C := RX6) (T := TX6) (N := 36) hx hb hts hinX6 tyX6 tyX6_ok nmX6 hown hK hP (hD S10) hS 0 rfl rfl 15 (by decide) kf106 (fun _ h9 => h9) rfl (by decide +kernel) rfl rfl (Nat.le_of_ble_eq_true rfl) dX6_goes_57 (fun H locs hP _ hS => ?_)
        obtain ⟨S11, eS11⟩ : ∃ z : St, z = sI S10 6 ((S10.1 6) ||| ((1 : Int32) <<< (xl3 &&& 31))) := ⟨_, rfl⟩
        have hP : va_P D vwCl (mw a c S11) H := by rw [eS11]; exact hP
        have h := h S11 eS11
        refine lv_aload_n hx hb dX6_goes_60 rfl (lv_at hl 0 rfl) ?_
        refine lv_dup hx hb dX6_goes_61 rfl ?_
        refine va_get (D := D) (ci := 6) (v := .int (S11.1 7)) (C := RX6) (T := TX6) (N := 36) hx hb hts hinX6 hown hK hP 0 rfl rfl 16 (by decide) kf109 (fun _ h9 => h9) rfl dX6_goes_62 ?_
        refine lv_iload_n hx hb dX6_goes_65 rfl (lv_at hl 2 rfl) ?_
        refine lv_iconst (v := 1) hx hb dX6_goes_66 (by decide) ?_
        refine lv_iload_n hx hb dX6_goes_67 rfl (lv_at hl 3 rfl) ?_
        refine lv_ishl hx hb dX6_goes_68 ?_
        refine lv_iand hx hb dX6_goes_69 ?_
        refine lv_ior hx hb dX6_goes_70 ?_
        refine va_put (D := D) (ci := 6) (v := .int ((S11.1 7) ||| (xl2 &&& ((1 : Int32) <<< (xl3 &&& 31))))) (ty := .int) (C := RX6) (T := TX6) (N := 36) hx hb hts hinX6 tyX6 tyX6_ok nmX6 hown hK hP (hD S11) hS 0 rfl rfl 16 (by decide) kf109 (fun _ h9 => h9) rfl (by decide +kernel) rfl rfl (Nat.le_of_ble_eq_true rfl) dX6_goes_71 (fun H locs hP _ hS => ?_)
        obtain ⟨S12, eS12⟩ : ∃ z : St, z = sI S11 7 ((S11.1 7) ||| (xl2 &&& ((1 : Int32) <<< (xl3 &&& 31)))) := ⟨_, rfl⟩
        have hP : va_P D vwCl (mw a c S12) H := by rw [eS12]; exact hP
        have h := h S12 eS12
        refine lv_aload_n hx hb dX6_goes_74 rfl (lv_at hl 0 rfl) ?_
        refine lv_iload_n hx hb dX6_goes_75 rfl (lv_at hl 1 rfl) ?_
        refine lv_aload_n hx hb dX6_goes_76 rfl (lv_at hl 0 rfl) ?_
        refine va_get (D := D) (ci := 6) (v := .int (S12.1 6)) (C := RX6) (T := TX6) (N := 36) hx hb hts hinX6 hown hK hP 0 rfl rfl 15 (by decide) kf106 (fun _ h9 => h9) rfl dX6_goes_77 ?_
        refine lv_aload_n hx hb dX6_goes_80 rfl (lv_at hl 0 rfl) ?_
        refine va_get (D := D) (ci := 6) (v := .int (S12.1 7)) (C := RX6) (T := TX6) (N := 36) hx hb hts hinX6 hown hK hP 0 rfl rfl 16 (by decide) kf109 (fun _ h9 => h9) rfl dX6_goes_81 ?_
        refine lv_aload_n hx hb dX6_goes_84 rfl (lv_at hl 0 rfl) ?_
        refine va_get (D := D) (ci := 6) (v := .int (S12.1 5)) (C := RX6) (T := TX6) (N := 36) hx hb hts hinX6 hown hK hP 0 rfl rfl 14 (by decide) kf112 (fun _ h9 => h9) rfl dX6_goes_85 ?_
        obtain ⟨k15, h⟩ := h
        refine k_i (k_runV mns_ok ⟨hx, hb, hml, hown, hts⟩ (tX6_markOf l D a c _ k15 xl1 (S12.1 6) (S12.1 7) (S12.1 5) S12 _ h) (cwV 4 hts gX6_goes_X6_markOf rfl rfl rfl (by decide +kernel) ⟨Nat.le_of_ble_eq_true rfl, Nat.le_of_ble_eq_true rfl⟩) (va_recv hK hP (ci := 6) (q0 := 0) rfl rfl) hP hK (hD S12) hN rfl rfl hl.1 rfl (lv_room (Nat.le_of_ble_eq_true rfl)) dX6_goes_88 ⟨Nat.le_of_ble_eq_true rfl, Nat.le_of_ble_eq_true rfl⟩) hS (hD S12) hA (fun x14 S13 H locs h hP hS => ?_)
        refine lv_istore_n (lv' := [(3, .int x14), (0, .ref (a 0)), (1, .int xl1), (2, .int xl2)]) hx hb dX6_goes_91 rfl hl (by decide) rfl (fun ls hl => ?_)
        refine lv_goto (tgt := 24) hx hb dX6_goes_92 (by decide) ?_
        exact (ih) xl1 xl2 x14 S13 _ _ _ h hP hS (lv_sub hl [1, 2, 3, 0] rfl)
  unfold PX6_goes at h
  refine lv_aload_n hx hb dX6_goes_0 rfl (lv_at hl 0 rfl) ?_
  refine lv_iconst (v := 0) hx hb dX6_goes_1 (by decide) ?_
  refine va_put (D := D) (ci := 6) (v := .int 0) (ty := .int) (C := RX6) (T := TX6) (N := 36) hx hb hts hinX6 tyX6 tyX6_ok nmX6 hown hK hP (hD S) hS 0 rfl rfl 15 (by decide) kf106 (fun _ h9 => h9) rfl (by decide +kernel) rfl rfl (Nat.le_of_ble_eq_true rfl) dX6_goes_2 (fun H locs hP _ hS => ?_)
  obtain ⟨S1, eS1⟩ : ∃ z : St, z = sI S 6 0 := ⟨_, rfl⟩
  have hP : va_P D vwCl (mw a c S1) H := by rw [eS1]; exact hP
  have h := h S1 eS1
  refine lv_aload_n hx hb dX6_goes_5 rfl (lv_at hl 0 rfl) ?_
  refine lv_iconst (v := 0) hx hb dX6_goes_6 (by decide) ?_
  refine va_put (D := D) (ci := 6) (v := .int 0) (ty := .int) (C := RX6) (T := TX6) (N := 36) hx hb hts hinX6 tyX6 tyX6_ok nmX6 hown hK hP (hD S1) hS 0 rfl rfl 16 (by decide) kf109 (fun _ h9 => h9) rfl (by decide +kernel) rfl rfl (Nat.le_of_ble_eq_true rfl) dX6_goes_7 (fun H locs hP _ hS => ?_)
  obtain ⟨S2, eS2⟩ : ∃ z : St, z = sI S1 7 0 := ⟨_, rfl⟩
  have hP : va_P D vwCl (mw a c S2) H := by rw [eS2]; exact hP
  have h := h S2 eS2
  refine lv_aload_n hx hb dX6_goes_10 rfl (lv_at hl 0 rfl) ?_
  refine lv_iconst (v := 0) hx hb dX6_goes_11 (by decide) ?_
  refine va_put (D := D) (ci := 6) (v := .int 0) (ty := .int) (C := RX6) (T := TX6) (N := 36) hx hb hts hinX6 tyX6 tyX6_ok nmX6 hown hK hP (hD S2) hS 0 rfl rfl 14 (by decide) kf112 (fun _ h9 => h9) rfl (by decide +kernel) rfl rfl (Nat.le_of_ble_eq_true rfl) dX6_goes_12 (fun H locs hP _ hS => ?_)
  obtain ⟨S3, eS3⟩ : ∃ z : St, z = sI S2 5 0 := ⟨_, rfl⟩
  have hP : va_P D vwCl (mw a c S3) H := by rw [eS3]; exact hP
  have h := h S3 eS3
  refine lv_aload_n hx hb dX6_goes_15 rfl (lv_at hl 0 rfl) ?_
  refine lv_iload_n hx hb dX6_goes_16 rfl (lv_at hl 1 rfl) ?_
  refine lv_iconst (v := 0) hx hb dX6_goes_17 (by decide) ?_
  refine lv_iconst (v := 0) hx hb dX6_goes_18 (by decide) ?_
  refine lv_iconst (v := 0) hx hb dX6_goes_19 (by decide) ?_
  obtain ⟨k6, h⟩ := h
  refine k_i (k_runV mns_ok ⟨hx, hb, hml, hown, hts⟩ (tX6_markOf l D a c _ k6 p0 0 0 0 S3 _ h) (cwV 4 hts gX6_goes_X6_markOf rfl rfl rfl (by decide +kernel) ⟨Nat.le_of_ble_eq_true rfl, Nat.le_of_ble_eq_true rfl⟩) (va_recv hK hP (ci := 6) (q0 := 0) rfl rfl) hP hK (hD S3) hN rfl rfl hl.1 rfl (lv_room (Nat.le_of_ble_eq_true rfl)) dX6_goes_20 ⟨Nat.le_of_ble_eq_true rfl, Nat.le_of_ble_eq_true rfl⟩) hS (hD S3) hA (fun x5 S4 H locs h hP hS => ?_)
  refine lv_istore_n (lv' := [(3, .int x5), (0, .ref (a 0)), (1, .int p0), (2, .int p1)]) hx hb dX6_goes_23 rfl hl (by decide) rfl (fun ls hl => ?_)
  exact (key n) p0 p1 x5 S4 _ _ _ h hP hS (lv_sub hl [1, 2, 3, 0] rfl)
def PX6_isLeafOf (p0 : Int32) (S : St) (post : Int32 → St → Prop) : Prop := (vp_in p0 150 ∧ (((S.2.2 5 p0.toNatClampNeg) = 0 → post 0 S) ∧ (¬ (S.2.2 5 p0.toNatClampNeg) = 0 → (vp_in p0 150 ∧ ((((S.2.2 3 p0.toNatClampNeg) &&& (S.1 6)) = (S.1 7) → post 1 S) ∧ (¬ ((S.2.2 3 p0.toNatClampNeg) &&& (S.1 6)) = (S.1 7) → post 0 S))))))
set_option maxHeartbeats 4000000 in
set_option maxRecDepth 100000 in
theorem tX6_isLeafOf (l : Launch) (D : va_G) (a : Nat → Nat) (c : Nat → ClassId) (sz : Nat) (p0 : Int32) (S : St) (post : Int32 → St → Prop) (h : PX6_isLeafOf p0 S post) : Met l yX6_isLeafOf wsX6_isLeafOf ({ frames := 0, cells := 0, slots := 0, locals := 0 }) (va_Pc [.ref (a 0), .int p0] (gP D (mw a c) (mty c) mns S sz)) (va_Qi post (gB D (mw a c)) (va_A (mw a c S) sz)) 0 0 (va_A (mw a c S) sz) := by
  refine Met.ofW (cc := cX6_isLeafOf) (maxL := 2) (ret := (some .boolean)) (by decide) rfl ?_
  intro p e s m args below meth c9 s₁ B hml hv
  obtain ⟨rfl, hsz, hP, hK, hD0, hN⟩ := hv
  have hx := B.exec
  have hb := B.bytes
  have hr := B.returns
  have hts := atoms_spec (ws := wsX6_isLeafOf) B.pre
  have hown : s.vm.findClass RX6 = some m.cls := findClass_of_methodNamed B.named
  have hlocks := B.notSynchronized
  subst hsz
  have hD1 := hD0.self (sz := s.heap.size)
  generalize hAe : va_A (mw a c S) s.heap.size = A at hD1 ⊢
  have hA : ∀ q : Nat, s.heap.size ≤ q → A q := fun q h => by rw [← hAe]; exact Or.inr h
  have hD : ∀ S2 : St, va_D A (mw a c S2) := gD mw_F hD1
  have hS : va_S A s.heap s.heap [] := va_S.rf
  have hinX6 : ∀ w ∈ wsX60, w ∈ wsX6_isLeafOf := by decide +kernel
  have kf106 := hts (.fieldLink RX6 106 "CanteenPlanModel" "leafMask" "I") (by decide +kernel)
  have kf109 := hts (.fieldLink RX6 109 "CanteenPlanModel" "leafBits" "I") (by decide +kernel)
  have kf19 := hts (.fieldLink RX6 19 "CanteenPlanModel" "marks" "[I") (by decide +kernel)
  have kf25 := hts (.fieldLink RX6 25 "CanteenPlanModel" "isThere" "[Z") (by decide +kernel)
  have hl := lv_entry ([.ref (a 0), .int p0]) (n := 2) (Nat.le_of_ble_eq_true rfl)
  rw [lg_entry_eq]
  generalize (lg_sl ([.ref (a 0), .int p0]) ++ List.replicate (2 - (lg_sl ([.ref (a 0), .int p0])).length) Slot.unset).toArray = ls at hl ⊢
  have hl : lv_has ls 2 [(0, .ref (a 0)), (1, .int p0)] := hl
  unfold PX6_isLeafOf at h
  refine lv_aload_n hx hb dX6_isLeafOf_0 rfl (lv_at hl 0 rfl) ?_
  refine va_get (D := D) (ci := 6) (v := .ref (a 6)) (C := RX6) (T := TX6) (N := 36) hx hb hts hinX6 hown hK hP 0 rfl rfl 7 (by decide) kf25 (fun _ h9 => h9) rfl dX6_isLeafOf_1 ?_
  refine lv_iload_n hx hb dX6_isLeafOf_4 rfl (lv_at hl 1 rfl) ?_
  obtain ⟨b1, h⟩ := h
  refine va_zald hx hb hK hP 6 5 rfl rfl b1 dX6_isLeafOf_5 ?_
  refine lv_if_eq (tgt := 31) hx hb dX6_isLeafOf_6 (by decide) (fun c2 => ?_) (fun c2 => ?_)
  · have h := h.1 c2
    refine lv_iconst (v := 0) hx hb dX6_isLeafOf_31 (by decide) ?_
    exact g_retz hx hb hr hlocks (Or.inl rfl) h hP hS dX6_isLeafOf_32
  · have h := h.2 c2
    refine lv_aload_n hx hb dX6_isLeafOf_9 rfl (lv_at hl 0 rfl) ?_
    refine va_get (D := D) (ci := 6) (v := .ref (a 4)) (C := RX6) (T := TX6) (N := 36) hx hb hts hinX6 hown hK hP 0 rfl rfl 5 (by decide) kf19 (fun _ h9 => h9) rfl dX6_isLeafOf_10 ?_
    refine lv_iload_n hx hb dX6_isLeafOf_13 rfl (lv_at hl 1 rfl) ?_
    obtain ⟨b3, h⟩ := h
    refine va_iald hx hb hK hP 4 3 rfl rfl b3 dX6_isLeafOf_14 ?_
    refine lv_aload_n hx hb dX6_isLeafOf_15 rfl (lv_at hl 0 rfl) ?_
    refine va_get (D := D) (ci := 6) (v := .int (S.1 6)) (C := RX6) (T := TX6) (N := 36) hx hb hts hinX6 hown hK hP 0 rfl rfl 15 (by decide) kf106 (fun _ h9 => h9) rfl dX6_isLeafOf_16 ?_
    refine lv_iand hx hb dX6_isLeafOf_19 ?_
    refine lv_aload_n hx hb dX6_isLeafOf_20 rfl (lv_at hl 0 rfl) ?_
    refine va_get (D := D) (ci := 6) (v := .int (S.1 7)) (C := RX6) (T := TX6) (N := 36) hx hb hts hinX6 hown hK hP 0 rfl rfl 16 (by decide) kf109 (fun _ h9 => h9) rfl dX6_isLeafOf_21 ?_
    refine lv_icmp_ne (tgt := 31) hx hb dX6_isLeafOf_24 (by decide) (fun c4 => ?_) (fun c4 => ?_)
    · have h := h.2 c4
      refine lv_iconst (v := 0) hx hb dX6_isLeafOf_31 (by decide) ?_
      exact g_retz hx hb hr hlocks (Or.inl rfl) h hP hS dX6_isLeafOf_32
    · have h := h.1 c4
      refine lv_iconst (v := 1) hx hb dX6_isLeafOf_27 (by decide) ?_
      refine lv_goto (tgt := 32) hx hb dX6_isLeafOf_28 (by decide) ?_
      exact g_retz hx hb hr hlocks (Or.inr rfl) h hP hS dX6_isLeafOf_32
def PX6_split (p0 : Int32) (p1 : Int32) (p2 : Int32) (S : St) (post : Int32 → St → Prop) : Prop := PX6_isMeal p0 S (fun x2 S1 => ((x2 = 0 → post 0 S1) ∧ (¬ x2 = 0 → PX6_isBits p1 S1 (fun x5 S4 => ((x5 = 0 → PX6_bad 1 2 S4 (fun x16 S15 => ((x16 = 0 → ∃ k : Nat, PX6_goes k p0 p1 S15 (fun S18 => ((p2 < 0 → post (-1) S18) ∧ (¬ p2 < 0 → (((S18.1 5) ≤ p2 → post (-1) S18) ∧ (¬ (S18.1 5) ≤ p2 → (vp_in p2 5 ∧ post (S18.2.2 6 p2.toNatClampNeg) S18))))))) ∧ (¬ x16 = 0 → post 0 S15)))) ∧ (¬ x5 = 0 → PX6_bad 0 2 S4 (fun x8 S7 => ((x8 = 0 → ∃ k : Nat, PX6_goes k p0 p1 S7 (fun S10 => ((p2 < 0 → post (-1) S10) ∧ (¬ p2 < 0 → (((S10.1 5) ≤ p2 → post (-1) S10) ∧ (¬ (S10.1 5) ≤ p2 → (vp_in p2 5 ∧ post (S10.2.2 6 p2.toNatClampNeg) S10))))))) ∧ (¬ x8 = 0 → post 0 S7)))))))))
set_option maxHeartbeats 4000000 in
set_option maxRecDepth 100000 in
theorem tX6_split (l : Launch) (D : va_G) (a : Nat → Nat) (c : Nat → ClassId) (sz : Nat) (p0 : Int32) (p1 : Int32) (p2 : Int32) (S : St) (post : Int32 → St → Prop) (h : PX6_split p0 p1 p2 S post) : Met l yX6_split wsX6_split ({ frames := 3, cells := 0, slots := 0, locals := 91 }) (va_Pc [.ref (a 0), .int p0, .int p1, .int p2] (gP D (mw a c) (mty c) mns S sz)) (va_Qi post (gB D (mw a c)) (va_A (mw a c S) sz)) 0 0 (va_A (mw a c S) sz) := by
  refine Met.ofW (cc := cX6_split) (maxL := 4) (ret := (some .int)) (by decide) rfl ?_
  intro p e s m args below meth c9 s₁ B hml hv
  obtain ⟨rfl, hsz, hP, hK, hD0, hN⟩ := hv
  have hx := B.exec
  have hb := B.bytes
  have hr := B.returns
  have hts := atoms_spec (ws := wsX6_split) B.pre
  have hown : s.vm.findClass RX6 = some m.cls := findClass_of_methodNamed B.named
  have hlocks := B.notSynchronized
  subst hsz
  have hD1 := hD0.self (sz := s.heap.size)
  generalize hAe : va_A (mw a c S) s.heap.size = A at hD1 ⊢
  have hA : ∀ q : Nat, s.heap.size ≤ q → A q := fun q h => by rw [← hAe]; exact Or.inr h
  have hD : ∀ S2 : St, va_D A (mw a c S2) := gD mw_F hD1
  have hS : va_S A s.heap s.heap [] := va_S.rf
  have hinX6 : ∀ w ∈ wsX60, w ∈ wsX6_split := by decide +kernel
  have kf112 := hts (.fieldLink RX6 112 "CanteenPlanModel" "wayMany" "I") (by decide +kernel)
  have kf29 := hts (.fieldLink RX6 29 "CanteenPlanModel" "way" "[I") (by decide +kernel)
  have hl := lv_entry ([.ref (a 0), .int p0, .int p1, .int p2]) (n := 4) (Nat.le_of_ble_eq_true rfl)
  rw [lg_entry_eq]
  generalize (lg_sl ([.ref (a 0), .int p0, .int p1, .int p2]) ++ List.replicate (4 - (lg_sl ([.ref (a 0), .int p0, .int p1, .int p2])).length) Slot.unset).toArray = ls at hl ⊢
  have hl : lv_has ls 4 [(0, .ref (a 0)), (1, .int p0), (2, .int p1), (3, .int p2)] := hl
  unfold PX6_split at h
  refine lv_aload_n hx hb dX6_split_0 rfl (lv_at hl 0 rfl) ?_
  refine lv_iload_n hx hb dX6_split_1 rfl (lv_at hl 1 rfl) ?_
  refine k_i (k_runV mns_ok ⟨hx, hb, hml, hown, hts⟩ (tX6_isMeal l D a c _ p0 S _ h) (cwV 1 hts gX6_split_X6_isMeal rfl rfl rfl (by decide +kernel) ⟨Nat.le_of_ble_eq_true rfl, Nat.le_of_ble_eq_true rfl⟩) (va_recv hK hP (ci := 6) (q0 := 0) rfl rfl) hP hK (hD S) hN rfl rfl hl.1 rfl (lv_room (Nat.le_of_ble_eq_true rfl)) dX6_split_2 ⟨Nat.le_of_ble_eq_true rfl, Nat.le_of_ble_eq_true rfl⟩) hS (hD S) hA (fun x2 S1 H locs h hP hS => ?_)
  refine lv_if_eq (tgt := 28) hx hb dX6_split_5 (by decide) (fun c3 => ?_) (fun c3 => ?_)
  · have h := h.1 c3
    refine lv_iconst (v := 0) hx hb dX6_split_28 (by decide) ?_
    exact g_reti hx hb hr hlocks h hP hS dX6_split_29
  · have h := h.2 c3
    refine lv_aload_n hx hb dX6_split_8 rfl (lv_at hl 0 rfl) ?_
    refine lv_iload_n hx hb dX6_split_9 rfl (lv_at hl 2 rfl) ?_
    refine k_i (k_runS mns_ok ⟨hx, hb, hml, hown, hts⟩ (tX6_isBits l D a c _ p1 S1 _ h) (va_cwS 1 hts gX6_split_X6_isBits rfl rfl rfl (by decide +kernel) ⟨Nat.le_of_ble_eq_true rfl, Nat.le_of_ble_eq_true rfl⟩) hP hK (hD S1) hN rfl rfl hl.1 rfl (lv_room (Nat.le_of_ble_eq_true rfl)) dX6_split_10 ⟨Nat.le_of_ble_eq_true rfl, Nat.le_of_ble_eq_true rfl⟩) hS (hD S1) hA (fun x5 S4 H locs h hP hS => ?_)
    refine lv_if_ne (tgt := 20) hx hb dX6_split_13 (by decide) (fun c6 => ?_) (fun c6 => ?_)
    · have h := h.2 c6
      refine lv_iconst (v := 0) hx hb dX6_split_20 (by decide) ?_
      refine lv_iconst (v := 2) hx hb dX6_split_21 (by decide) ?_
      refine k_i (k_runV mns_ok ⟨hx, hb, hml, hown, hts⟩ (tX6_bad l D a c _ 0 2 S4 _ h) (cwV 2 hts gX6_split_X6_bad rfl rfl rfl (by decide +kernel) ⟨Nat.le_of_ble_eq_true rfl, Nat.le_of_ble_eq_true rfl⟩) (va_recv hK hP (ci := 6) (q0 := 0) rfl rfl) hP hK (hD S4) hN rfl rfl hl.1 rfl (lv_room (Nat.le_of_ble_eq_true rfl)) dX6_split_22 ⟨Nat.le_of_ble_eq_true rfl, Nat.le_of_ble_eq_true rfl⟩) hS (hD S4) hA (fun x8 S7 H locs h hP hS => ?_)
      refine lv_if_eq (tgt := 30) hx hb dX6_split_25 (by decide) (fun c9 => ?_) (fun c9 => ?_)
      · have h := h.1 c9
        refine lv_aload_n hx hb dX6_split_30 rfl (lv_at hl 0 rfl) ?_
        refine lv_iload_n hx hb dX6_split_31 rfl (lv_at hl 1 rfl) ?_
        refine lv_iload_n hx hb dX6_split_32 rfl (lv_at hl 2 rfl) ?_
        obtain ⟨k11, h⟩ := h
        refine k_v (k_runV mns_ok ⟨hx, hb, hml, hown, hts⟩ (tX6_goes l D a c _ k11 p0 p1 S7 _ h) (cwV 2 hts gX6_split_X6_goes rfl rfl rfl (by decide +kernel) ⟨Nat.le_of_ble_eq_true rfl, Nat.le_of_ble_eq_true rfl⟩) (va_recv hK hP (ci := 6) (q0 := 0) rfl rfl) hP hK (hD S7) hN rfl rfl hl.1 rfl (lv_room (Nat.le_of_ble_eq_true rfl)) dX6_split_33 ⟨Nat.le_of_ble_eq_true rfl, Nat.le_of_ble_eq_true rfl⟩) hS (hD S7) hA (fun S10 H locs h hP hS => ?_)
        refine lv_iload_n hx hb dX6_split_36 rfl (lv_at hl 3 rfl) ?_
        refine lv_if_lt (tgt := 57) hx hb dX6_split_37 (by decide) (fun c12 => ?_) (fun c12 => ?_)
        · have h := h.1 c12
          refine lv_iconst (v := (-1)) hx hb dX6_split_57 (by decide) ?_
          exact g_reti hx hb hr hlocks h hP hS dX6_split_58
        · have h := h.2 c12
          refine lv_iload_n hx hb dX6_split_40 rfl (lv_at hl 3 rfl) ?_
          refine lv_aload_n hx hb dX6_split_41 rfl (lv_at hl 0 rfl) ?_
          refine va_get (D := D) (ci := 6) (v := .int (S10.1 5)) (C := RX6) (T := TX6) (N := 36) hx hb hts hinX6 hown hK hP 0 rfl rfl 14 (by decide) kf112 (fun _ h9 => h9) rfl dX6_split_42 ?_
          refine lv_icmp_ge (tgt := 57) hx hb dX6_split_45 (by decide) (fun c13 => ?_) (fun c13 => ?_)
          · have h := h.1 c13
            refine lv_iconst (v := (-1)) hx hb dX6_split_57 (by decide) ?_
            exact g_reti hx hb hr hlocks h hP hS dX6_split_58
          · have h := h.2 c13
            refine lv_aload_n hx hb dX6_split_48 rfl (lv_at hl 0 rfl) ?_
            refine va_get (D := D) (ci := 6) (v := .ref (a 7)) (C := RX6) (T := TX6) (N := 36) hx hb hts hinX6 hown hK hP 0 rfl rfl 13 (by decide) kf29 (fun _ h9 => h9) rfl dX6_split_49 ?_
            refine lv_iload_n hx hb dX6_split_52 rfl (lv_at hl 3 rfl) ?_
            obtain ⟨b14, h⟩ := h
            refine va_iald hx hb hK hP 7 6 rfl rfl b14 dX6_split_53 ?_
            refine lv_goto (tgt := 58) hx hb dX6_split_54 (by decide) ?_
            exact g_reti hx hb hr hlocks h hP hS dX6_split_58
      · have h := h.2 c9
        refine lv_iconst (v := 0) hx hb dX6_split_28 (by decide) ?_
        exact g_reti hx hb hr hlocks h hP hS dX6_split_29
    · have h := h.1 c6
      refine lv_iconst (v := 1) hx hb dX6_split_16 (by decide) ?_
      refine lv_goto (tgt := 21) hx hb dX6_split_17 (by decide) ?_
      refine lv_iconst (v := 2) hx hb dX6_split_21 (by decide) ?_
      refine k_i (k_runV mns_ok ⟨hx, hb, hml, hown, hts⟩ (tX6_bad l D a c _ 1 2 S4 _ h) (cwV 2 hts gX6_split_X6_bad rfl rfl rfl (by decide +kernel) ⟨Nat.le_of_ble_eq_true rfl, Nat.le_of_ble_eq_true rfl⟩) (va_recv hK hP (ci := 6) (q0 := 0) rfl rfl) hP hK (hD S4) hN rfl rfl hl.1 rfl (lv_room (Nat.le_of_ble_eq_true rfl)) dX6_split_22 ⟨Nat.le_of_ble_eq_true rfl, Nat.le_of_ble_eq_true rfl⟩) hS (hD S4) hA (fun x16 S15 H locs h hP hS => ?_)
      refine lv_if_eq (tgt := 30) hx hb dX6_split_25 (by decide) (fun c17 => ?_) (fun c17 => ?_)
      · have h := h.1 c17
        refine lv_aload_n hx hb dX6_split_30 rfl (lv_at hl 0 rfl) ?_
        refine lv_iload_n hx hb dX6_split_31 rfl (lv_at hl 1 rfl) ?_
        refine lv_iload_n hx hb dX6_split_32 rfl (lv_at hl 2 rfl) ?_
        obtain ⟨k19, h⟩ := h
        refine k_v (k_runV mns_ok ⟨hx, hb, hml, hown, hts⟩ (tX6_goes l D a c _ k19 p0 p1 S15 _ h) (cwV 2 hts gX6_split_X6_goes rfl rfl rfl (by decide +kernel) ⟨Nat.le_of_ble_eq_true rfl, Nat.le_of_ble_eq_true rfl⟩) (va_recv hK hP (ci := 6) (q0 := 0) rfl rfl) hP hK (hD S15) hN rfl rfl hl.1 rfl (lv_room (Nat.le_of_ble_eq_true rfl)) dX6_split_33 ⟨Nat.le_of_ble_eq_true rfl, Nat.le_of_ble_eq_true rfl⟩) hS (hD S15) hA (fun S18 H locs h hP hS => ?_)
        refine lv_iload_n hx hb dX6_split_36 rfl (lv_at hl 3 rfl) ?_
        refine lv_if_lt (tgt := 57) hx hb dX6_split_37 (by decide) (fun c20 => ?_) (fun c20 => ?_)
        · have h := h.1 c20
          refine lv_iconst (v := (-1)) hx hb dX6_split_57 (by decide) ?_
          exact g_reti hx hb hr hlocks h hP hS dX6_split_58
        · have h := h.2 c20
          refine lv_iload_n hx hb dX6_split_40 rfl (lv_at hl 3 rfl) ?_
          refine lv_aload_n hx hb dX6_split_41 rfl (lv_at hl 0 rfl) ?_
          refine va_get (D := D) (ci := 6) (v := .int (S18.1 5)) (C := RX6) (T := TX6) (N := 36) hx hb hts hinX6 hown hK hP 0 rfl rfl 14 (by decide) kf112 (fun _ h9 => h9) rfl dX6_split_42 ?_
          refine lv_icmp_ge (tgt := 57) hx hb dX6_split_45 (by decide) (fun c21 => ?_) (fun c21 => ?_)
          · have h := h.1 c21
            refine lv_iconst (v := (-1)) hx hb dX6_split_57 (by decide) ?_
            exact g_reti hx hb hr hlocks h hP hS dX6_split_58
          · have h := h.2 c21
            refine lv_aload_n hx hb dX6_split_48 rfl (lv_at hl 0 rfl) ?_
            refine va_get (D := D) (ci := 6) (v := .ref (a 7)) (C := RX6) (T := TX6) (N := 36) hx hb hts hinX6 hown hK hP 0 rfl rfl 13 (by decide) kf29 (fun _ h9 => h9) rfl dX6_split_49 ?_
            refine lv_iload_n hx hb dX6_split_52 rfl (lv_at hl 3 rfl) ?_
            obtain ⟨b22, h⟩ := h
            refine va_iald hx hb hK hP 7 6 rfl rfl b22 dX6_split_53 ?_
            refine lv_goto (tgt := 58) hx hb dX6_split_54 (by decide) ?_
            exact g_reti hx hb hr hlocks h hP hS dX6_split_58
      · have h := h.2 c17
        refine lv_iconst (v := 0) hx hb dX6_split_28 (by decide) ?_
        exact g_reti hx hb hr hlocks h hP hS dX6_split_29
def BX6_leaf_0 (X : Nat → Int32 → Int32 → Int32 → Int32 → Int32 → Int32 → Int32 → Int32 → Int32 → Int32 → St → Prop) (post : Int32 → St → Prop) (xl1 : Int32) (xl2 : Int32) (xl3 : Int32) (xl4 : Int32) (xl5 : Int32) (xl6 : Int32) (xl7 : Int32) (xl8 : Int32) (xl9 : Int32) (xs0 : Int32) (S : St) : Prop := PX6_bad xs0 2 S (fun x10 S9 => ((x10 = 0 → ∃ k : Nat, PX6_goes k xl1 xl2 S9 (fun S12 => X 1 xl1 0 xl3 0 0 0 0 0 0 0 S12)) ∧ (¬ x10 = 0 → post 0 S9)))
def BX6_leaf_1 (X : Nat → Int32 → Int32 → Int32 → Int32 → Int32 → Int32 → Int32 → Int32 → Int32 → Int32 → St → Prop) (post : Int32 → St → Prop) (xl1 : Int32) (xl2 : Int32) (xl3 : Int32) (xl4 : Int32) (xl5 : Int32) (xl6 : Int32) (xl7 : Int32) (xl8 : Int32) (xl9 : Int32) (xs0 : Int32) (S : St) : Prop := (((S.1 2) ≤ xl8 → ((xl3 = 0 → post xl4 S) ∧ (¬ xl3 = 0 → ((xl3 = 1 → post xl5 S) ∧ (¬ xl3 = 1 → ((xl3 = 2 → post xl6 S) ∧ (¬ xl3 = 2 → post xl7 S))))))) ∧ (¬ (S.1 2) ≤ xl8 → PX6_isLeafOf xl8 S (fun x19 S18 => ((x19 = 0 → ∀ x25 : Int32, x25 = xl8 + 1 → X 1 xl1 0 xl3 xl4 xl5 xl6 xl7 x25 0 0 S18) ∧ (¬ x19 = 0 → (vp_in ((6 * xl8) + xl1) 900 ∧ ∀ x22 : Int32, x22 = (S18.2.2 4 ((6 * xl8) + xl1).toNatClampNeg) → ((xl4 = 0 → X 2 xl1 0 xl3 xl4 xl5 0 xl7 xl8 x22 x22 S18) ∧ (¬ xl4 = 0 → ((xl6 ≤ x22 → X 2 xl1 0 xl3 xl4 xl5 0 xl7 xl8 x22 xl6 S18) ∧ (¬ xl6 ≤ x22 → X 2 xl1 0 xl3 xl4 xl5 0 xl7 xl8 x22 x22 S18))))))))))
def BX6_leaf_2 (X : Nat → Int32 → Int32 → Int32 → Int32 → Int32 → Int32 → Int32 → Int32 → Int32 → Int32 → St → Prop) (post : Int32 → St → Prop) (xl1 : Int32) (xl2 : Int32) (xl3 : Int32) (xl4 : Int32) (xl5 : Int32) (xl6 : Int32) (xl7 : Int32) (xl8 : Int32) (xl9 : Int32) (xs0 : Int32) (S : St) : Prop := ((xl4 = 0 → ∀ x27 : Int32, x27 = xl4 + 1 → ∀ x28 : Int32, x28 = (xl5 + xl9) → ∀ x29 : Int32, x29 = xl8 + 1 → X 1 xl1 0 xl3 x27 x28 xs0 xl9 x29 0 0 S) ∧ (¬ xl4 = 0 → ((xl9 ≤ xl7 → ∀ x31 : Int32, x31 = xl4 + 1 → ∀ x32 : Int32, x32 = (xl5 + xl9) → ∀ x33 : Int32, x33 = xl8 + 1 → X 1 xl1 0 xl3 x31 x32 xs0 xl7 x33 0 0 S) ∧ (¬ xl9 ≤ xl7 → ∀ x34 : Int32, x34 = xl4 + 1 → ∀ x35 : Int32, x35 = (xl5 + xl9) → ∀ x36 : Int32, x36 = xl8 + 1 → X 1 xl1 0 xl3 x34 x35 xs0 xl9 x36 0 0 S))))
def LX6_leaf (post : Int32 → St → Prop) : Nat → Nat → Int32 → Int32 → Int32 → Int32 → Int32 → Int32 → Int32 → Int32 → Int32 → Int32 → St → Prop
  | 0, _, _, _, _, _, _, _, _, _, _, _, _ => False
  | n + 1, 0, xl1, xl2, xl3, xl4, xl5, xl6, xl7, xl8, xl9, xs0, S => BX6_leaf_0 (LX6_leaf post n) post xl1 xl2 xl3 xl4 xl5 xl6 xl7 xl8 xl9 xs0 S
  | n + 1, 1, xl1, xl2, xl3, xl4, xl5, xl6, xl7, xl8, xl9, xs0, S => BX6_leaf_1 (LX6_leaf post n) post xl1 xl2 xl3 xl4 xl5 xl6 xl7 xl8 xl9 xs0 S
  | n + 1, 2, xl1, xl2, xl3, xl4, xl5, xl6, xl7, xl8, xl9, xs0, S => BX6_leaf_2 (LX6_leaf post n) post xl1 xl2 xl3 xl4 xl5 xl6 xl7 xl8 xl9 xs0 S
  | _ + 1, _ + 3, _, _, _, _, _, _, _, _, _, _, _ => False
def PX6_leaf (n : Nat) (p0 : Int32) (p1 : Int32) (p2 : Int32) (S : St) (post : Int32 → St → Prop) : Prop := PX6_isMeal p0 S (fun x2 S1 => ((x2 = 0 → post 0 S1) ∧ (¬ x2 = 0 → PX6_isBits p1 S1 (fun x5 S4 => ((x5 = 0 → LX6_leaf post n 0 p0 p1 p2 0 0 0 0 0 0 1 S4) ∧ (¬ x5 = 0 → ((p2 < 0 → LX6_leaf post n 0 p0 p1 p2 0 0 0 0 0 0 1 S4) ∧ (¬ p2 < 0 → ((p2 ≤ 3 → LX6_leaf post n 0 p0 p1 p2 0 0 0 0 0 0 0 S4) ∧ (¬ p2 ≤ 3 → LX6_leaf post n 0 p0 p1 p2 0 0 0 0 0 0 1 S4))))))))))
set_option maxHeartbeats 4000000 in
set_option maxRecDepth 100000 in
theorem tX6_leaf (l : Launch) (D : va_G) (a : Nat → Nat) (c : Nat → ClassId) (sz : Nat) (n : Nat) (p0 : Int32) (p1 : Int32) (p2 : Int32) (S : St) (post : Int32 → St → Prop) (h : PX6_leaf n p0 p1 p2 S post) : Met l yX6_leaf wsX6_leaf ({ frames := 3, cells := 0, slots := 0, locals := 91 }) (va_Pc [.ref (a 0), .int p0, .int p1, .int p2] (gP D (mw a c) (mty c) mns S sz)) (va_Qi post (gB D (mw a c)) (va_A (mw a c S) sz)) 0 0 (va_A (mw a c S) sz) := by
  refine Met.ofW (cc := cX6_leaf) (maxL := 10) (ret := (some .int)) (by decide) rfl ?_
  intro p e s m args below meth c9 s₁ B hml hv
  obtain ⟨rfl, hsz, hP, hK, hD0, hN⟩ := hv
  have hx := B.exec
  have hb := B.bytes
  have hr := B.returns
  have hts := atoms_spec (ws := wsX6_leaf) B.pre
  have hown : s.vm.findClass RX6 = some m.cls := findClass_of_methodNamed B.named
  have hlocks := B.notSynchronized
  subst hsz
  have hD1 := hD0.self (sz := s.heap.size)
  generalize hAe : va_A (mw a c S) s.heap.size = A at hD1 ⊢
  have hA : ∀ q : Nat, s.heap.size ≤ q → A q := fun q h => by rw [← hAe]; exact Or.inr h
  have hD : ∀ S2 : St, va_D A (mw a c S2) := gD mw_F hD1
  have hS : va_S A s.heap s.heap [] := va_S.rf
  have hinX6 : ∀ w ∈ wsX60, w ∈ wsX6_leaf := by decide +kernel
  have kf22 := hts (.fieldLink RX6 22 "CanteenPlanModel" "eaten" "[I") (by decide +kernel)
  have kf77 := hts (.fieldLink RX6 77 "CanteenPlanModel" "days" "I") (by decide +kernel)
  have hl := lv_entry ([.ref (a 0), .int p0, .int p1, .int p2]) (n := 10) (Nat.le_of_ble_eq_true rfl)
  rw [lg_entry_eq]
  generalize (lg_sl ([.ref (a 0), .int p0, .int p1, .int p2]) ++ List.replicate (10 - (lg_sl ([.ref (a 0), .int p0, .int p1, .int p2])).length) Slot.unset).toArray = ls at hl ⊢
  have hl : lv_has ls 10 [(0, .ref (a 0)), (1, .int p0), (2, .int p1), (3, .int p2)] := hl
  have key : ∀ n : Nat, (∀ (xl1 : Int32) (xl2 : Int32) (xl3 : Int32) (xs0 : Int32) (S : St) (H : Heap) (locs : List Loc) (ls : Array Slot), LX6_leaf post n 0 xl1 xl2 xl3 0 0 0 0 0 0 xs0 S → va_P D vwCl (mw a c S) H → va_S A s.heap H locs → lv_has ls 10 [(0, .ref (a 0)), (1, .int xl1), (2, .int xl2), (3, .int xl3)] → W p l e ((headSpec wsX6_leaf ({ frames := 3, cells := 0, slots := 0, locals := 91 })).room) s m ([.ref (a 0), .int p0, .int p1, .int p2]).toArray below meth c9 H locs 0 0 (MQ below (va_Qi post (gB D (mw a c)) A) ([.ref (a 0), .int p0, .int p1, .int p2]).toArray s 0 0 A) (F0 m 30 ls [.int xs0, .ref (a 0)])) ∧ (∀ (xl1 : Int32) (xl3 : Int32) (xl4 : Int32) (xl5 : Int32) (xl6 : Int32) (xl7 : Int32) (xl8 : Int32) (S : St) (H : Heap) (locs : List Loc) (ls : Array Slot), LX6_leaf post n 1 xl1 0 xl3 xl4 xl5 xl6 xl7 xl8 0 0 S → va_P D vwCl (mw a c S) H → va_S A s.heap H locs → lv_has ls 10 [(0, .ref (a 0)), (1, .int xl1), (3, .int xl3), (4, .int xl4), (5, .int xl5), (6, .int xl6), (7, .int xl7), (8, .int xl8)] → W p l e ((headSpec wsX6_leaf ({ frames := 3, cells := 0, slots := 0, locals := 91 })).room) s m ([.ref (a 0), .int p0, .int p1, .int p2]).toArray below meth c9 H locs 0 0 (MQ below (va_Qi post (gB D (mw a c)) A) ([.ref (a 0), .int p0, .int p1, .int p2]).toArray s 0 0 A) (F0 m 60 ls [])) ∧ (∀ (xl1 : Int32) (xl3 : Int32) (xl4 : Int32) (xl5 : Int32) (xl7 : Int32) (xl8 : Int32) (xl9 : Int32) (xs0 : Int32) (S : St) (H : Heap) (locs : List Loc) (ls : Array Slot), LX6_leaf post n 2 xl1 0 xl3 xl4 xl5 0 xl7 xl8 xl9 xs0 S → va_P D vwCl (mw a c S) H → va_S A s.heap H locs → lv_has ls 10 [(0, .ref (a 0)), (1, .int xl1), (3, .int xl3), (4, .int xl4), (5, .int xl5), (7, .int xl7), (8, .int xl8), (9, .int xl9)] → W p l e ((headSpec wsX6_leaf ({ frames := 3, cells := 0, slots := 0, locals := 91 })).room) s m ([.ref (a 0), .int p0, .int p1, .int p2]).toArray below meth c9 H locs 0 0 (MQ below (va_Qi post (gB D (mw a c)) A) ([.ref (a 0), .int p0, .int p1, .int p2]).toArray s 0 0 A) (F0 m 114 ls [.int xs0])) := by
    intro n
    induction n with
    | zero => exact ⟨fun xl1 xl2 xl3 xs0 S H locs ls h => h.elim, fun xl1 xl3 xl4 xl5 xl6 xl7 xl8 S H locs ls h => h.elim, fun xl1 xl3 xl4 xl5 xl7 xl8 xl9 xs0 S H locs ls h => h.elim⟩
    | succ n ih =>
      refine ⟨?_, ?_, ?_⟩
      · intro xl1 xl2 xl3 xs0 S H locs ls h hP hS hl
        have h : BX6_leaf_0 (LX6_leaf post n) post xl1 xl2 xl3 0 0 0 0 0 0 xs0 S := h
        unfold BX6_leaf_0 at h
        refine lv_iconst (v := 2) hx hb dX6_leaf_30 (by decide) ?_
        refine k_i (k_runV mns_ok ⟨hx, hb, hml, hown, hts⟩ (tX6_bad l D a c _ xs0 2 S _ h) (cwV 2 hts gX6_leaf_X6_bad rfl rfl rfl (by decide +kernel) ⟨Nat.le_of_ble_eq_true rfl, Nat.le_of_ble_eq_true rfl⟩) (va_recv hK hP (ci := 6) (q0 := 0) rfl rfl) hP hK (hD S) hN rfl rfl hl.1 rfl (lv_room (Nat.le_of_ble_eq_true rfl)) dX6_leaf_31 ⟨Nat.le_of_ble_eq_true rfl, Nat.le_of_ble_eq_true rfl⟩) hS (hD S) hA (fun x10 S9 H locs h hP hS => ?_)
        refine lv_if_eq (tgt := 39) hx hb dX6_leaf_34 (by decide) (fun c11 => ?_) (fun c11 => ?_)
        · have h := h.1 c11
          refine lv_aload_n hx hb dX6_leaf_39 rfl (lv_at hl 0 rfl) ?_
          refine lv_iload_n hx hb dX6_leaf_40 rfl (lv_at hl 1 rfl) ?_
          refine lv_iload_n hx hb dX6_leaf_41 rfl (lv_at hl 2 rfl) ?_
          obtain ⟨k13, h⟩ := h
          refine k_v (k_runV mns_ok ⟨hx, hb, hml, hown, hts⟩ (tX6_goes l D a c _ k13 xl1 xl2 S9 _ h) (cwV 2 hts gX6_leaf_X6_goes rfl rfl rfl (by decide +kernel) ⟨Nat.le_of_ble_eq_true rfl, Nat.le_of_ble_eq_true rfl⟩) (va_recv hK hP (ci := 6) (q0 := 0) rfl rfl) hP hK (hD S9) hN rfl rfl hl.1 rfl (lv_room (Nat.le_of_ble_eq_true rfl)) dX6_leaf_42 ⟨Nat.le_of_ble_eq_true rfl, Nat.le_of_ble_eq_true rfl⟩) hS (hD S9) hA (fun S12 H locs h hP hS => ?_)
          refine lv_iconst (v := 0) hx hb dX6_leaf_45 (by decide) ?_
          refine lv_istore (lv' := [(4, .int 0), (0, .ref (a 0)), (1, .int xl1), (2, .int xl2), (3, .int xl3)]) hx hb dX6_leaf_46 hl (by decide) rfl (fun ls hl => ?_)
          refine lv_iconst (v := 0) hx hb dX6_leaf_48 (by decide) ?_
          refine lv_istore (lv' := [(5, .int 0), (4, .int 0), (0, .ref (a 0)), (1, .int xl1), (2, .int xl2), (3, .int xl3)]) hx hb dX6_leaf_49 hl (by decide) rfl (fun ls hl => ?_)
          refine lv_iconst (v := 0) hx hb dX6_leaf_51 (by decide) ?_
          refine lv_istore (lv' := [(6, .int 0), (5, .int 0), (4, .int 0), (0, .ref (a 0)), (1, .int xl1), (2, .int xl2), (3, .int xl3)]) hx hb dX6_leaf_52 hl (by decide) rfl (fun ls hl => ?_)
          refine lv_iconst (v := 0) hx hb dX6_leaf_54 (by decide) ?_
          refine lv_istore (lv' := [(7, .int 0), (6, .int 0), (5, .int 0), (4, .int 0), (0, .ref (a 0)), (1, .int xl1), (2, .int xl2), (3, .int xl3)]) hx hb dX6_leaf_55 hl (by decide) rfl (fun ls hl => ?_)
          refine lv_iconst (v := 0) hx hb dX6_leaf_57 (by decide) ?_
          refine lv_istore (lv' := [(8, .int 0), (7, .int 0), (6, .int 0), (5, .int 0), (4, .int 0), (0, .ref (a 0)), (1, .int xl1), (2, .int xl2), (3, .int xl3)]) hx hb dX6_leaf_58 hl (by decide) rfl (fun ls hl => ?_)
          exact (ih).2.1 xl1 xl3 0 0 0 0 0 S12 _ _ _ h hP hS (lv_sub hl [5, 6, 8, 4, 3, 2, 1, 0] rfl)
        · have h := h.2 c11
          refine lv_iconst (v := 0) hx hb dX6_leaf_37 (by decide) ?_
          exact g_reti hx hb hr hlocks h hP hS dX6_leaf_38
      · intro xl1 xl3 xl4 xl5 xl6 xl7 xl8 S H locs ls h hP hS hl
        have h : BX6_leaf_1 (LX6_leaf post n) post xl1 0 xl3 xl4 xl5 xl6 xl7 xl8 0 0 S := h
        unfold BX6_leaf_1 at h
        refine lv_iload hx hb dX6_leaf_60 (lv_at hl 7 rfl) ?_
        refine lv_aload_n hx hb dX6_leaf_62 rfl (lv_at hl 0 rfl) ?_
        refine va_get (D := D) (ci := 6) (v := .int (S.1 2)) (C := RX6) (T := TX6) (N := 36) hx hb hts hinX6 hown hK hP 0 rfl rfl 8 (by decide) kf77 (fun _ h9 => h9) rfl dX6_leaf_63 ?_
        refine lv_icmp_ge (tgt := 153) hx hb dX6_leaf_66 (by decide) (fun c14 => ?_) (fun c14 => ?_)
        · have h := h.1 c14
          refine lv_iload_n hx hb dX6_leaf_153 rfl (lv_at hl 2 rfl) ?_
          refine lv_if_ne (tgt := 162) hx hb dX6_leaf_154 (by decide) (fun c15 => ?_) (fun c15 => ?_)
          · have h := h.2 c15
            refine lv_iload_n hx hb dX6_leaf_162 rfl (lv_at hl 2 rfl) ?_
            refine lv_iconst (v := 1) hx hb dX6_leaf_163 (by decide) ?_
            refine lv_icmp_ne (tgt := 172) hx hb dX6_leaf_164 (by decide) (fun c16 => ?_) (fun c16 => ?_)
            · have h := h.2 c16
              refine lv_iload_n hx hb dX6_leaf_172 rfl (lv_at hl 2 rfl) ?_
              refine lv_iconst (v := 2) hx hb dX6_leaf_173 (by decide) ?_
              refine lv_icmp_ne (tgt := 182) hx hb dX6_leaf_174 (by decide) (fun c17 => ?_) (fun c17 => ?_)
              · have h := h.2 c17
                refine lv_iload hx hb dX6_leaf_182 (lv_at hl 6 rfl) ?_
                exact g_reti hx hb hr hlocks h hP hS dX6_leaf_184
              · have h := h.1 c17
                refine lv_iload hx hb dX6_leaf_177 (lv_at hl 5 rfl) ?_
                refine lv_goto (tgt := 184) hx hb dX6_leaf_179 (by decide) ?_
                exact g_reti hx hb hr hlocks h hP hS dX6_leaf_184
            · have h := h.1 c16
              refine lv_iload hx hb dX6_leaf_167 (lv_at hl 4 rfl) ?_
              refine lv_goto (tgt := 184) hx hb dX6_leaf_169 (by decide) ?_
              exact g_reti hx hb hr hlocks h hP hS dX6_leaf_184
          · have h := h.1 c15
            refine lv_iload hx hb dX6_leaf_157 (lv_at hl 3 rfl) ?_
            refine lv_goto (tgt := 184) hx hb dX6_leaf_159 (by decide) ?_
            exact g_reti hx hb hr hlocks h hP hS dX6_leaf_184
        · have h := h.2 c14
          refine lv_aload_n hx hb dX6_leaf_69 rfl (lv_at hl 0 rfl) ?_
          refine lv_iload hx hb dX6_leaf_70 (lv_at hl 7 rfl) ?_
          refine k_i (k_runV mns_ok ⟨hx, hb, hml, hown, hts⟩ (tX6_isLeafOf l D a c _ xl8 S _ h) (cwV 1 hts gX6_leaf_X6_isLeafOf rfl rfl rfl (by decide +kernel) ⟨Nat.le_of_ble_eq_true rfl, Nat.le_of_ble_eq_true rfl⟩) (va_recv hK hP (ci := 6) (q0 := 0) rfl rfl) hP hK (hD S) hN rfl rfl hl.1 rfl (lv_room (Nat.le_of_ble_eq_true rfl)) dX6_leaf_72 ⟨Nat.le_of_ble_eq_true rfl, Nat.le_of_ble_eq_true rfl⟩) hS (hD S) hA (fun x19 S18 H locs h hP hS => ?_)
          refine lv_if_ne (tgt := 81) hx hb dX6_leaf_75 (by decide) (fun c20 => ?_) (fun c20 => ?_)
          · have h := h.2 c20
            refine lv_aload_n hx hb dX6_leaf_81 rfl (lv_at hl 0 rfl) ?_
            refine va_get (D := D) (ci := 6) (v := .ref (a 5)) (C := RX6) (T := TX6) (N := 36) hx hb hts hinX6 hown hK hP 0 rfl rfl 6 (by decide) kf22 (fun _ h9 => h9) rfl dX6_leaf_82 ?_
            refine lv_bipush (v := 6) hx hb dX6_leaf_85 (by decide) ?_
            refine lv_iload hx hb dX6_leaf_87 (lv_at hl 7 rfl) ?_
            refine lv_imul hx hb dX6_leaf_89 ?_
            refine lv_iload_n hx hb dX6_leaf_90 rfl (lv_at hl 1 rfl) ?_
            refine lv_iadd hx hb dX6_leaf_91 ?_
            obtain ⟨b21, h⟩ := h
            refine va_iald hx hb hK hP 5 4 rfl rfl b21 dX6_leaf_92 ?_
            refine lv_topi (fun x22 ex22 => ?_)
            have h := h x22 ex22
            refine lv_istore (lv' := [(9, .int x22), (0, .ref (a 0)), (1, .int xl1), (3, .int xl3), (4, .int xl4), (5, .int xl5), (6, .int xl6), (7, .int xl7), (8, .int xl8)]) hx hb dX6_leaf_93 hl (by decide) rfl (fun ls hl => ?_)
            refine lv_iload hx hb dX6_leaf_95 (lv_at hl 4 rfl) ?_
            refine lv_if_eq (tgt := 107) hx hb dX6_leaf_97 (by decide) (fun c23 => ?_) (fun c23 => ?_)
            · have h := h.1 c23
              refine lv_iload hx hb dX6_leaf_107 (lv_at hl 0 rfl) ?_
              refine lv_goto (tgt := 114) hx hb dX6_leaf_109 (by decide) ?_
              exact (ih).2.2 xl1 xl3 xl4 xl5 xl7 xl8 x22 x22 S18 _ _ _ h hP hS (lv_sub hl [1, 2, 3, 4, 5, 7, 8, 0] rfl)
            · have h := h.2 c23
              refine lv_iload hx hb dX6_leaf_100 (lv_at hl 0 rfl) ?_
              refine lv_iload hx hb dX6_leaf_102 (lv_at hl 6 rfl) ?_
              refine lv_icmp_ge (tgt := 112) hx hb dX6_leaf_104 (by decide) (fun c24 => ?_) (fun c24 => ?_)
              · have h := h.1 c24
                refine lv_iload hx hb dX6_leaf_112 (lv_at hl 6 rfl) ?_
                exact (ih).2.2 xl1 xl3 xl4 xl5 xl7 xl8 x22 xl6 S18 _ _ _ h hP hS (lv_sub hl [1, 2, 3, 4, 5, 7, 8, 0] rfl)
              · have h := h.2 c24
                refine lv_iload hx hb dX6_leaf_107 (lv_at hl 0 rfl) ?_
                refine lv_goto (tgt := 114) hx hb dX6_leaf_109 (by decide) ?_
                exact (ih).2.2 xl1 xl3 xl4 xl5 xl7 xl8 x22 x22 S18 _ _ _ h hP hS (lv_sub hl [1, 2, 3, 4, 5, 7, 8, 0] rfl)
          · have h := h.1 c20
            refine lv_goto (tgt := 147) hx hb dX6_leaf_78 (by decide) ?_
            obtain ⟨x25, ex25⟩ : ∃ y : Int32, y = xl8 + 1 := ⟨_, rfl⟩
            have h := h x25 ex25
            refine lv_iinc (v := x25) (lv' := [(8, .int x25), (0, .ref (a 0)), (1, .int xl1), (3, .int xl3), (4, .int xl4), (5, .int xl5), (6, .int xl6), (7, .int xl7)]) hx hb dX6_leaf_147 hl (k := 7) rfl (by rw [ex25]; rfl) (by decide) rfl (fun ls hl => ?_)
            refine lv_goto (tgt := 60) hx hb dX6_leaf_150 (by decide) ?_
            exact (ih).2.1 xl1 xl3 xl4 xl5 xl6 xl7 x25 S18 _ _ _ h hP hS (lv_sub hl [1, 2, 3, 4, 5, 6, 7, 0] rfl)
      · intro xl1 xl3 xl4 xl5 xl7 xl8 xl9 xs0 S H locs ls h hP hS hl
        have h : BX6_leaf_2 (LX6_leaf post n) post xl1 0 xl3 xl4 xl5 0 xl7 xl8 xl9 xs0 S := h
        unfold BX6_leaf_2 at h
        refine lv_istore (lv' := [(6, .int xs0), (0, .ref (a 0)), (1, .int xl1), (3, .int xl3), (4, .int xl4), (5, .int xl5), (7, .int xl7), (8, .int xl8), (9, .int xl9)]) hx hb dX6_leaf_114 hl (by decide) rfl (fun ls hl => ?_)
        refine lv_iload hx hb dX6_leaf_116 (lv_at hl 4 rfl) ?_
        refine lv_if_eq (tgt := 128) hx hb dX6_leaf_118 (by decide) (fun c26 => ?_) (fun c26 => ?_)
        · have h := h.1 c26
          refine lv_iload hx hb dX6_leaf_128 (lv_at hl 8 rfl) ?_
          refine lv_goto (tgt := 135) hx hb dX6_leaf_130 (by decide) ?_
          refine lv_istore (lv' := [(7, .int xl9), (6, .int xs0), (0, .ref (a 0)), (1, .int xl1), (3, .int xl3), (4, .int xl4), (5, .int xl5), (8, .int xl8), (9, .int xl9)]) hx hb dX6_leaf_135 hl (by decide) rfl (fun ls hl => ?_)
          obtain ⟨x27, ex27⟩ : ∃ y : Int32, y = xl4 + 1 := ⟨_, rfl⟩
          have h := h x27 ex27
          refine lv_iinc (v := x27) (lv' := [(4, .int x27), (7, .int xl9), (6, .int xs0), (0, .ref (a 0)), (1, .int xl1), (3, .int xl3), (5, .int xl5), (8, .int xl8), (9, .int xl9)]) hx hb dX6_leaf_137 hl (k := 5) rfl (by rw [ex27]; rfl) (by decide) rfl (fun ls hl => ?_)
          refine lv_iload hx hb dX6_leaf_140 (lv_at hl 6 rfl) ?_
          refine lv_iload hx hb dX6_leaf_142 (lv_at hl 8 rfl) ?_
          refine lv_iadd hx hb dX6_leaf_144 ?_
          refine lv_topi (fun x28 ex28 => ?_)
          have h := h x28 ex28
          refine lv_istore (lv' := [(5, .int x28), (4, .int x27), (7, .int xl9), (6, .int xs0), (0, .ref (a 0)), (1, .int xl1), (3, .int xl3), (8, .int xl8), (9, .int xl9)]) hx hb dX6_leaf_145 hl (by decide) rfl (fun ls hl => ?_)
          obtain ⟨x29, ex29⟩ : ∃ y : Int32, y = xl8 + 1 := ⟨_, rfl⟩
          have h := h x29 ex29
          refine lv_iinc (v := x29) (lv' := [(8, .int x29), (5, .int x28), (4, .int x27), (7, .int xl9), (6, .int xs0), (0, .ref (a 0)), (1, .int xl1), (3, .int xl3), (9, .int xl9)]) hx hb dX6_leaf_147 hl (k := 7) rfl (by rw [ex29]; rfl) (by decide) rfl (fun ls hl => ?_)
          refine lv_goto (tgt := 60) hx hb dX6_leaf_150 (by decide) ?_
          exact (ih).2.1 xl1 xl3 x27 x28 xs0 xl9 x29 S _ _ _ h hP hS (lv_sub hl [5, 6, 7, 2, 1, 4, 3, 0] rfl)
        · have h := h.2 c26
          refine lv_iload hx hb dX6_leaf_121 (lv_at hl 8 rfl) ?_
          refine lv_iload hx hb dX6_leaf_123 (lv_at hl 6 rfl) ?_
          refine lv_icmp_le (tgt := 133) hx hb dX6_leaf_125 (by decide) (fun c30 => ?_) (fun c30 => ?_)
          · have h := h.1 c30
            refine lv_iload hx hb dX6_leaf_133 (lv_at hl 6 rfl) ?_
            refine lv_istore (lv' := [(7, .int xl7), (6, .int xs0), (0, .ref (a 0)), (1, .int xl1), (3, .int xl3), (4, .int xl4), (5, .int xl5), (8, .int xl8), (9, .int xl9)]) hx hb dX6_leaf_135 hl (by decide) rfl (fun ls hl => ?_)
            obtain ⟨x31, ex31⟩ : ∃ y : Int32, y = xl4 + 1 := ⟨_, rfl⟩
            have h := h x31 ex31
            refine lv_iinc (v := x31) (lv' := [(4, .int x31), (7, .int xl7), (6, .int xs0), (0, .ref (a 0)), (1, .int xl1), (3, .int xl3), (5, .int xl5), (8, .int xl8), (9, .int xl9)]) hx hb dX6_leaf_137 hl (k := 5) rfl (by rw [ex31]; rfl) (by decide) rfl (fun ls hl => ?_)
            refine lv_iload hx hb dX6_leaf_140 (lv_at hl 6 rfl) ?_
            refine lv_iload hx hb dX6_leaf_142 (lv_at hl 8 rfl) ?_
            refine lv_iadd hx hb dX6_leaf_144 ?_
            refine lv_topi (fun x32 ex32 => ?_)
            have h := h x32 ex32
            refine lv_istore (lv' := [(5, .int x32), (4, .int x31), (7, .int xl7), (6, .int xs0), (0, .ref (a 0)), (1, .int xl1), (3, .int xl3), (8, .int xl8), (9, .int xl9)]) hx hb dX6_leaf_145 hl (by decide) rfl (fun ls hl => ?_)
            obtain ⟨x33, ex33⟩ : ∃ y : Int32, y = xl8 + 1 := ⟨_, rfl⟩
            have h := h x33 ex33
            refine lv_iinc (v := x33) (lv' := [(8, .int x33), (5, .int x32), (4, .int x31), (7, .int xl7), (6, .int xs0), (0, .ref (a 0)), (1, .int xl1), (3, .int xl3), (9, .int xl9)]) hx hb dX6_leaf_147 hl (k := 7) rfl (by rw [ex33]; rfl) (by decide) rfl (fun ls hl => ?_)
            refine lv_goto (tgt := 60) hx hb dX6_leaf_150 (by decide) ?_
            exact (ih).2.1 xl1 xl3 x31 x32 xs0 xl7 x33 S _ _ _ h hP hS (lv_sub hl [5, 6, 7, 2, 1, 4, 3, 0] rfl)
          · have h := h.2 c30
            refine lv_iload hx hb dX6_leaf_128 (lv_at hl 8 rfl) ?_
            refine lv_goto (tgt := 135) hx hb dX6_leaf_130 (by decide) ?_
            refine lv_istore (lv' := [(7, .int xl9), (6, .int xs0), (0, .ref (a 0)), (1, .int xl1), (3, .int xl3), (4, .int xl4), (5, .int xl5), (8, .int xl8), (9, .int xl9)]) hx hb dX6_leaf_135 hl (by decide) rfl (fun ls hl => ?_)
            obtain ⟨x34, ex34⟩ : ∃ y : Int32, y = xl4 + 1 := ⟨_, rfl⟩
            have h := h x34 ex34
            refine lv_iinc (v := x34) (lv' := [(4, .int x34), (7, .int xl9), (6, .int xs0), (0, .ref (a 0)), (1, .int xl1), (3, .int xl3), (5, .int xl5), (8, .int xl8), (9, .int xl9)]) hx hb dX6_leaf_137 hl (k := 5) rfl (by rw [ex34]; rfl) (by decide) rfl (fun ls hl => ?_)
            refine lv_iload hx hb dX6_leaf_140 (lv_at hl 6 rfl) ?_
            refine lv_iload hx hb dX6_leaf_142 (lv_at hl 8 rfl) ?_
            refine lv_iadd hx hb dX6_leaf_144 ?_
            refine lv_topi (fun x35 ex35 => ?_)
            have h := h x35 ex35
            refine lv_istore (lv' := [(5, .int x35), (4, .int x34), (7, .int xl9), (6, .int xs0), (0, .ref (a 0)), (1, .int xl1), (3, .int xl3), (8, .int xl8), (9, .int xl9)]) hx hb dX6_leaf_145 hl (by decide) rfl (fun ls hl => ?_)
            obtain ⟨x36, ex36⟩ : ∃ y : Int32, y = xl8 + 1 := ⟨_, rfl⟩
            have h := h x36 ex36
            refine lv_iinc (v := x36) (lv' := [(8, .int x36), (5, .int x35), (4, .int x34), (7, .int xl9), (6, .int xs0), (0, .ref (a 0)), (1, .int xl1), (3, .int xl3), (9, .int xl9)]) hx hb dX6_leaf_147 hl (k := 7) rfl (by rw [ex36]; rfl) (by decide) rfl (fun ls hl => ?_)
            refine lv_goto (tgt := 60) hx hb dX6_leaf_150 (by decide) ?_
            exact (ih).2.1 xl1 xl3 x34 x35 xs0 xl9 x36 S _ _ _ h hP hS (lv_sub hl [5, 6, 7, 2, 1, 4, 3, 0] rfl)
  unfold PX6_leaf at h
  refine lv_aload_n hx hb dX6_leaf_0 rfl (lv_at hl 0 rfl) ?_
  refine lv_iload_n hx hb dX6_leaf_1 rfl (lv_at hl 1 rfl) ?_
  refine k_i (k_runV mns_ok ⟨hx, hb, hml, hown, hts⟩ (tX6_isMeal l D a c _ p0 S _ h) (cwV 1 hts gX6_leaf_X6_isMeal rfl rfl rfl (by decide +kernel) ⟨Nat.le_of_ble_eq_true rfl, Nat.le_of_ble_eq_true rfl⟩) (va_recv hK hP (ci := 6) (q0 := 0) rfl rfl) hP hK (hD S) hN rfl rfl hl.1 rfl (lv_room (Nat.le_of_ble_eq_true rfl)) dX6_leaf_2 ⟨Nat.le_of_ble_eq_true rfl, Nat.le_of_ble_eq_true rfl⟩) hS (hD S) hA (fun x2 S1 H locs h hP hS => ?_)
  refine lv_if_eq (tgt := 37) hx hb dX6_leaf_5 (by decide) (fun c3 => ?_) (fun c3 => ?_)
  · have h := h.1 c3
    refine lv_iconst (v := 0) hx hb dX6_leaf_37 (by decide) ?_
    exact g_reti hx hb hr hlocks h hP hS dX6_leaf_38
  · have h := h.2 c3
    refine lv_aload_n hx hb dX6_leaf_8 rfl (lv_at hl 0 rfl) ?_
    refine lv_iload_n hx hb dX6_leaf_9 rfl (lv_at hl 2 rfl) ?_
    refine k_i (k_runS mns_ok ⟨hx, hb, hml, hown, hts⟩ (tX6_isBits l D a c _ p1 S1 _ h) (va_cwS 1 hts gX6_leaf_X6_isBits rfl rfl rfl (by decide +kernel) ⟨Nat.le_of_ble_eq_true rfl, Nat.le_of_ble_eq_true rfl⟩) hP hK (hD S1) hN rfl rfl hl.1 rfl (lv_room (Nat.le_of_ble_eq_true rfl)) dX6_leaf_10 ⟨Nat.le_of_ble_eq_true rfl, Nat.le_of_ble_eq_true rfl⟩) hS (hD S1) hA (fun x5 S4 H locs h hP hS => ?_)
    refine lv_if_eq (tgt := 25) hx hb dX6_leaf_13 (by decide) (fun c6 => ?_) (fun c6 => ?_)
    · have h := h.1 c6
      refine lv_iconst (v := 1) hx hb dX6_leaf_25 (by decide) ?_
      refine lv_goto (tgt := 30) hx hb dX6_leaf_26 (by decide) ?_
      exact (key n).1 p0 p1 p2 1 S4 _ _ _ h hP hS (lv_sub hl [0, 1, 2, 3] rfl)
    · have h := h.2 c6
      refine lv_iload_n hx hb dX6_leaf_16 rfl (lv_at hl 3 rfl) ?_
      refine lv_if_lt (tgt := 25) hx hb dX6_leaf_17 (by decide) (fun c7 => ?_) (fun c7 => ?_)
      · have h := h.1 c7
        refine lv_iconst (v := 1) hx hb dX6_leaf_25 (by decide) ?_
        refine lv_goto (tgt := 30) hx hb dX6_leaf_26 (by decide) ?_
        exact (key n).1 p0 p1 p2 1 S4 _ _ _ h hP hS (lv_sub hl [0, 1, 2, 3] rfl)
      · have h := h.2 c7
        refine lv_iload_n hx hb dX6_leaf_20 rfl (lv_at hl 3 rfl) ?_
        refine lv_iconst (v := 3) hx hb dX6_leaf_21 (by decide) ?_
        refine lv_icmp_le (tgt := 29) hx hb dX6_leaf_22 (by decide) (fun c8 => ?_) (fun c8 => ?_)
        · have h := h.1 c8
          refine lv_iconst (v := 0) hx hb dX6_leaf_29 (by decide) ?_
          exact (key n).1 p0 p1 p2 0 S4 _ _ _ h hP hS (lv_sub hl [0, 1, 2, 3] rfl)
        · have h := h.2 c8
          refine lv_iconst (v := 1) hx hb dX6_leaf_25 (by decide) ?_
          refine lv_goto (tgt := 30) hx hb dX6_leaf_26 (by decide) ?_
          exact (key n).1 p0 p1 p2 1 S4 _ _ _ h hP hS (lv_sub hl [0, 1, 2, 3] rfl)
def BX6_size_0 (X : Int32 → Int32 → Int32 → St → Prop) (post : Int32 → St → Prop) (xl1 : Int32) (xl2 : Int32) (xs0 : Int32) (S : St) : Prop := PX6_bad xs0 1 S (fun x7 S6 => ((x7 = 0 → (((S6.1 8) = 4 → PX6_bad 1 2 S6 (fun x19 S18 => ((x19 = 0 → (vp_in (S18.1 8) 4 ∧ ∀ S22 : St, S22 = sR S18 7 (upd (S18.2.2 7) (S18.1 8).toNatClampNeg xl1) → (vp_in (S22.1 8) 4 ∧ ∀ S24 : St, S24 = sR S22 8 (upd (S22.2.2 8) (S22.1 8).toNatClampNeg xl2) → ∀ S25 : St, S25 = sI S24 8 ((S24.1 8) + 1) → post ((S25.1 8) - 1) S25))) ∧ (¬ x19 = 0 → post 0 S18)))) ∧ (¬ (S6.1 8) = 4 → PX6_bad 0 2 S6 (fun x11 S10 => ((x11 = 0 → (vp_in (S10.1 8) 4 ∧ ∀ S14 : St, S14 = sR S10 7 (upd (S10.2.2 7) (S10.1 8).toNatClampNeg xl1) → (vp_in (S14.1 8) 4 ∧ ∀ S16 : St, S16 = sR S14 8 (upd (S14.2.2 8) (S14.1 8).toNatClampNeg xl2) → ∀ S17 : St, S17 = sI S16 8 ((S16.1 8) + 1) → post ((S17.1 8) - 1) S17))) ∧ (¬ x11 = 0 → post 0 S10)))))) ∧ (¬ x7 = 0 → post 0 S6)))
def LX6_size (post : Int32 → St → Prop) : Nat → Int32 → Int32 → Int32 → St → Prop
  | 0, _, _, _, _ => False
  | n + 1, xl1, xl2, xs0, S => BX6_size_0 (LX6_size post n) post xl1 xl2 xs0 S
def PX6_size (n : Nat) (p0 : Int32) (p1 : Int32) (S : St) (post : Int32 → St → Prop) : Prop := ∀ S1 : St, S1 = sI S 0 0 → ((p0 < 1 → LX6_size post n p0 p1 1 S1) ∧ (¬ p0 < 1 → ((200 < p0 → LX6_size post n p0 p1 1 S1) ∧ (¬ 200 < p0 → ((p1 < 1 → LX6_size post n p0 p1 1 S1) ∧ (¬ p1 < 1 → ((p1 ≤ 10000 → LX6_size post n p0 p1 0 S1) ∧ (¬ p1 ≤ 10000 → LX6_size post n p0 p1 1 S1))))))))
set_option maxHeartbeats 4000000 in
set_option maxRecDepth 100000 in
theorem tX6_size (l : Launch) (D : va_G) (a : Nat → Nat) (c : Nat → ClassId) (sz : Nat) (n : Nat) (p0 : Int32) (p1 : Int32) (S : St) (post : Int32 → St → Prop) (h : PX6_size n p0 p1 S post) : Met l yX6_size wsX6_size ({ frames := 1, cells := 0, slots := 0, locals := 22 }) (va_Pc [.ref (a 0), .int p0, .int p1] (gP D (mw a c) (mty c) mns S sz)) (va_Qi post (gB D (mw a c)) (va_A (mw a c S) sz)) 0 0 (va_A (mw a c S) sz) := by
  refine Met.ofW (cc := cX6_size) (maxL := 3) (ret := (some .int)) (by decide) rfl ?_
  intro p e s m args below meth c9 s₁ B hml hv
  obtain ⟨rfl, hsz, hP, hK, hD0, hN⟩ := hv
  have hx := B.exec
  have hb := B.bytes
  have hr := B.returns
  have hts := atoms_spec (ws := wsX6_size) B.pre
  have hown : s.vm.findClass RX6 = some m.cls := findClass_of_methodNamed B.named
  have hlocks := B.notSynchronized
  subst hsz
  have hD1 := hD0.self (sz := s.heap.size)
  generalize hAe : va_A (mw a c S) s.heap.size = A at hD1 ⊢
  have hA : ∀ q : Nat, s.heap.size ≤ q → A q := fun q h => by rw [← hAe]; exact Or.inr h
  have hD : ∀ S2 : St, va_D A (mw a c S2) := gD mw_F hD1
  have hS : va_S A s.heap s.heap [] := va_S.rf
  have hinX6 : ∀ w ∈ wsX60, w ∈ wsX6_size := by decide +kernel
  have kf122 := hts (.fieldLink RX6 122 "CanteenPlanModel" "sizes" "I") (by decide +kernel)
  have kf32 := hts (.fieldLink RX6 32 "CanteenPlanModel" "portions" "[I") (by decide +kernel)
  have kf35 := hts (.fieldLink RX6 35 "CanteenPlanModel" "price" "[I") (by decide +kernel)
  have kf60 := hts (.fieldLink RX6 60 "CanteenPlanModel" "thrown" "I") (by decide +kernel)
  have hl := lv_entry ([.ref (a 0), .int p0, .int p1]) (n := 3) (Nat.le_of_ble_eq_true rfl)
  rw [lg_entry_eq]
  generalize (lg_sl ([.ref (a 0), .int p0, .int p1]) ++ List.replicate (3 - (lg_sl ([.ref (a 0), .int p0, .int p1])).length) Slot.unset).toArray = ls at hl ⊢
  have hl : lv_has ls 3 [(0, .ref (a 0)), (1, .int p0), (2, .int p1)] := hl
  have key : ∀ n : Nat, (∀ (xl1 : Int32) (xl2 : Int32) (xs0 : Int32) (S : St) (H : Heap) (locs : List Loc) (ls : Array Slot), LX6_size post n xl1 xl2 xs0 S → va_P D vwCl (mw a c S) H → va_S A s.heap H locs → lv_has ls 3 [(0, .ref (a 0)), (1, .int xl1), (2, .int xl2)] → W p l e ((headSpec wsX6_size ({ frames := 1, cells := 0, slots := 0, locals := 22 })).room) s m ([.ref (a 0), .int p0, .int p1]).toArray below meth c9 H locs 0 0 (MQ below (va_Qi post (gB D (mw a c)) A) ([.ref (a 0), .int p0, .int p1]).toArray s 0 0 A) (F0 m 35 ls [.int xs0, .ref (a 0)])) := by
    intro n
    induction n with
    | zero => exact fun xl1 xl2 xs0 S H locs ls h => h.elim
    | succ n ih =>
      intro xl1 xl2 xs0 S H locs ls h hP hS hl
      have h : BX6_size_0 (LX6_size post n) post xl1 xl2 xs0 S := h
      unfold BX6_size_0 at h
      refine lv_iconst (v := 1) hx hb dX6_size_35 (by decide) ?_
      refine k_i (k_runV mns_ok ⟨hx, hb, hml, hown, hts⟩ (tX6_bad l D a c _ xs0 1 S _ h) (cwV 2 hts gX6_size_X6_bad rfl rfl rfl (by decide +kernel) ⟨Nat.le_of_ble_eq_true rfl, Nat.le_of_ble_eq_true rfl⟩) (va_recv hK hP (ci := 6) (q0 := 0) rfl rfl) hP hK (hD S) hN rfl rfl hl.1 rfl (lv_room (Nat.le_of_ble_eq_true rfl)) dX6_size_36 ⟨Nat.le_of_ble_eq_true rfl, Nat.le_of_ble_eq_true rfl⟩) hS (hD S) hA (fun x7 S6 H locs h hP hS => ?_)
      refine lv_if_ne (tgt := 63) hx hb dX6_size_39 (by decide) (fun c8 => ?_) (fun c8 => ?_)
      · have h := h.2 c8
        refine lv_iconst (v := 0) hx hb dX6_size_63 (by decide) ?_
        exact g_reti hx hb hr hlocks h hP hS dX6_size_64
      · have h := h.1 c8
        refine lv_aload_n hx hb dX6_size_42 rfl (lv_at hl 0 rfl) ?_
        refine lv_aload_n hx hb dX6_size_43 rfl (lv_at hl 0 rfl) ?_
        refine va_get (D := D) (ci := 6) (v := .int (S6.1 8)) (C := RX6) (T := TX6) (N := 36) hx hb hts hinX6 hown hK hP 0 rfl rfl 19 (by decide) kf122 (fun _ h9 => h9) rfl dX6_size_44 ?_
        refine lv_iconst (v := 4) hx hb dX6_size_47 (by decide) ?_
        refine lv_icmp_ne (tgt := 55) hx hb dX6_size_48 (by decide) (fun c9 => ?_) (fun c9 => ?_)
        · have h := h.2 c9
          refine lv_iconst (v := 0) hx hb dX6_size_55 (by decide) ?_
          refine lv_iconst (v := 2) hx hb dX6_size_56 (by decide) ?_
          refine k_i (k_runV mns_ok ⟨hx, hb, hml, hown, hts⟩ (tX6_bad l D a c _ 0 2 S6 _ h) (cwV 2 hts gX6_size_X6_bad rfl rfl rfl (by decide +kernel) ⟨Nat.le_of_ble_eq_true rfl, Nat.le_of_ble_eq_true rfl⟩) (va_recv hK hP (ci := 6) (q0 := 0) rfl rfl) hP hK (hD S6) hN rfl rfl hl.1 rfl (lv_room (Nat.le_of_ble_eq_true rfl)) dX6_size_57 ⟨Nat.le_of_ble_eq_true rfl, Nat.le_of_ble_eq_true rfl⟩) hS (hD S6) hA (fun x11 S10 H locs h hP hS => ?_)
          refine lv_if_eq (tgt := 65) hx hb dX6_size_60 (by decide) (fun c12 => ?_) (fun c12 => ?_)
          · have h := h.1 c12
            refine lv_aload_n hx hb dX6_size_65 rfl (lv_at hl 0 rfl) ?_
            refine va_get (D := D) (ci := 6) (v := .ref (a 8)) (C := RX6) (T := TX6) (N := 36) hx hb hts hinX6 hown hK hP 0 rfl rfl 17 (by decide) kf32 (fun _ h9 => h9) rfl dX6_size_66 ?_
            refine lv_aload_n hx hb dX6_size_69 rfl (lv_at hl 0 rfl) ?_
            refine va_get (D := D) (ci := 6) (v := .int (S10.1 8)) (C := RX6) (T := TX6) (N := 36) hx hb hts hinX6 hown hK hP 0 rfl rfl 19 (by decide) kf122 (fun _ h9 => h9) rfl dX6_size_70 ?_
            refine lv_iload_n hx hb dX6_size_73 rfl (lv_at hl 1 rfl) ?_
            obtain ⟨b13, h⟩ := h
            refine va_iast hx hb hK hP (hD S10) hS 8 7 rfl rfl b13 dX6_size_74 (fun H locs hP _ hS => ?_)
            obtain ⟨S14, eS14⟩ : ∃ z : St, z = sR S10 7 (upd (S10.2.2 7) (S10.1 8).toNatClampNeg xl1) := ⟨_, rfl⟩
            have hP : va_P D vwCl (mw a c S14) H := by rw [eS14]; exact hP
            have h := h S14 eS14
            refine lv_aload_n hx hb dX6_size_75 rfl (lv_at hl 0 rfl) ?_
            refine va_get (D := D) (ci := 6) (v := .ref (a 9)) (C := RX6) (T := TX6) (N := 36) hx hb hts hinX6 hown hK hP 0 rfl rfl 18 (by decide) kf35 (fun _ h9 => h9) rfl dX6_size_76 ?_
            refine lv_aload_n hx hb dX6_size_79 rfl (lv_at hl 0 rfl) ?_
            refine va_get (D := D) (ci := 6) (v := .int (S14.1 8)) (C := RX6) (T := TX6) (N := 36) hx hb hts hinX6 hown hK hP 0 rfl rfl 19 (by decide) kf122 (fun _ h9 => h9) rfl dX6_size_80 ?_
            refine lv_iload_n hx hb dX6_size_83 rfl (lv_at hl 2 rfl) ?_
            obtain ⟨b15, h⟩ := h
            refine va_iast hx hb hK hP (hD S14) hS 9 8 rfl rfl b15 dX6_size_84 (fun H locs hP _ hS => ?_)
            obtain ⟨S16, eS16⟩ : ∃ z : St, z = sR S14 8 (upd (S14.2.2 8) (S14.1 8).toNatClampNeg xl2) := ⟨_, rfl⟩
            have hP : va_P D vwCl (mw a c S16) H := by rw [eS16]; exact hP
            have h := h S16 eS16
            refine lv_aload_n hx hb dX6_size_85 rfl (lv_at hl 0 rfl) ?_
            refine lv_dup hx hb dX6_size_86 rfl ?_
            refine va_get (D := D) (ci := 6) (v := .int (S16.1 8)) (C := RX6) (T := TX6) (N := 36) hx hb hts hinX6 hown hK hP 0 rfl rfl 19 (by decide) kf122 (fun _ h9 => h9) rfl dX6_size_87 ?_
            refine lv_iconst (v := 1) hx hb dX6_size_90 (by decide) ?_
            refine lv_iadd hx hb dX6_size_91 ?_
            refine va_put (D := D) (ci := 6) (v := .int ((S16.1 8) + 1)) (ty := .int) (C := RX6) (T := TX6) (N := 36) hx hb hts hinX6 tyX6 tyX6_ok nmX6 hown hK hP (hD S16) hS 0 rfl rfl 19 (by decide) kf122 (fun _ h9 => h9) rfl (by decide +kernel) rfl rfl (Nat.le_of_ble_eq_true rfl) dX6_size_92 (fun H locs hP _ hS => ?_)
            obtain ⟨S17, eS17⟩ : ∃ z : St, z = sI S16 8 ((S16.1 8) + 1) := ⟨_, rfl⟩
            have hP : va_P D vwCl (mw a c S17) H := by rw [eS17]; exact hP
            have h := h S17 eS17
            refine lv_aload_n hx hb dX6_size_95 rfl (lv_at hl 0 rfl) ?_
            refine va_get (D := D) (ci := 6) (v := .int (S17.1 8)) (C := RX6) (T := TX6) (N := 36) hx hb hts hinX6 hown hK hP 0 rfl rfl 19 (by decide) kf122 (fun _ h9 => h9) rfl dX6_size_96 ?_
            refine lv_iconst (v := 1) hx hb dX6_size_99 (by decide) ?_
            refine lv_isub hx hb dX6_size_100 ?_
            exact g_reti hx hb hr hlocks h hP hS dX6_size_101
          · have h := h.2 c12
            refine lv_iconst (v := 0) hx hb dX6_size_63 (by decide) ?_
            exact g_reti hx hb hr hlocks h hP hS dX6_size_64
        · have h := h.1 c9
          refine lv_iconst (v := 1) hx hb dX6_size_51 (by decide) ?_
          refine lv_goto (tgt := 56) hx hb dX6_size_52 (by decide) ?_
          refine lv_iconst (v := 2) hx hb dX6_size_56 (by decide) ?_
          refine k_i (k_runV mns_ok ⟨hx, hb, hml, hown, hts⟩ (tX6_bad l D a c _ 1 2 S6 _ h) (cwV 2 hts gX6_size_X6_bad rfl rfl rfl (by decide +kernel) ⟨Nat.le_of_ble_eq_true rfl, Nat.le_of_ble_eq_true rfl⟩) (va_recv hK hP (ci := 6) (q0 := 0) rfl rfl) hP hK (hD S6) hN rfl rfl hl.1 rfl (lv_room (Nat.le_of_ble_eq_true rfl)) dX6_size_57 ⟨Nat.le_of_ble_eq_true rfl, Nat.le_of_ble_eq_true rfl⟩) hS (hD S6) hA (fun x19 S18 H locs h hP hS => ?_)
          refine lv_if_eq (tgt := 65) hx hb dX6_size_60 (by decide) (fun c20 => ?_) (fun c20 => ?_)
          · have h := h.1 c20
            refine lv_aload_n hx hb dX6_size_65 rfl (lv_at hl 0 rfl) ?_
            refine va_get (D := D) (ci := 6) (v := .ref (a 8)) (C := RX6) (T := TX6) (N := 36) hx hb hts hinX6 hown hK hP 0 rfl rfl 17 (by decide) kf32 (fun _ h9 => h9) rfl dX6_size_66 ?_
            refine lv_aload_n hx hb dX6_size_69 rfl (lv_at hl 0 rfl) ?_
            refine va_get (D := D) (ci := 6) (v := .int (S18.1 8)) (C := RX6) (T := TX6) (N := 36) hx hb hts hinX6 hown hK hP 0 rfl rfl 19 (by decide) kf122 (fun _ h9 => h9) rfl dX6_size_70 ?_
            refine lv_iload_n hx hb dX6_size_73 rfl (lv_at hl 1 rfl) ?_
            obtain ⟨b21, h⟩ := h
            refine va_iast hx hb hK hP (hD S18) hS 8 7 rfl rfl b21 dX6_size_74 (fun H locs hP _ hS => ?_)
            obtain ⟨S22, eS22⟩ : ∃ z : St, z = sR S18 7 (upd (S18.2.2 7) (S18.1 8).toNatClampNeg xl1) := ⟨_, rfl⟩
            have hP : va_P D vwCl (mw a c S22) H := by rw [eS22]; exact hP
            have h := h S22 eS22
            refine lv_aload_n hx hb dX6_size_75 rfl (lv_at hl 0 rfl) ?_
            refine va_get (D := D) (ci := 6) (v := .ref (a 9)) (C := RX6) (T := TX6) (N := 36) hx hb hts hinX6 hown hK hP 0 rfl rfl 18 (by decide) kf35 (fun _ h9 => h9) rfl dX6_size_76 ?_
            refine lv_aload_n hx hb dX6_size_79 rfl (lv_at hl 0 rfl) ?_
            refine va_get (D := D) (ci := 6) (v := .int (S22.1 8)) (C := RX6) (T := TX6) (N := 36) hx hb hts hinX6 hown hK hP 0 rfl rfl 19 (by decide) kf122 (fun _ h9 => h9) rfl dX6_size_80 ?_
            refine lv_iload_n hx hb dX6_size_83 rfl (lv_at hl 2 rfl) ?_
            obtain ⟨b23, h⟩ := h
            refine va_iast hx hb hK hP (hD S22) hS 9 8 rfl rfl b23 dX6_size_84 (fun H locs hP _ hS => ?_)
            obtain ⟨S24, eS24⟩ : ∃ z : St, z = sR S22 8 (upd (S22.2.2 8) (S22.1 8).toNatClampNeg xl2) := ⟨_, rfl⟩
            have hP : va_P D vwCl (mw a c S24) H := by rw [eS24]; exact hP
            have h := h S24 eS24
            refine lv_aload_n hx hb dX6_size_85 rfl (lv_at hl 0 rfl) ?_
            refine lv_dup hx hb dX6_size_86 rfl ?_
            refine va_get (D := D) (ci := 6) (v := .int (S24.1 8)) (C := RX6) (T := TX6) (N := 36) hx hb hts hinX6 hown hK hP 0 rfl rfl 19 (by decide) kf122 (fun _ h9 => h9) rfl dX6_size_87 ?_
            refine lv_iconst (v := 1) hx hb dX6_size_90 (by decide) ?_
            refine lv_iadd hx hb dX6_size_91 ?_
            refine va_put (D := D) (ci := 6) (v := .int ((S24.1 8) + 1)) (ty := .int) (C := RX6) (T := TX6) (N := 36) hx hb hts hinX6 tyX6 tyX6_ok nmX6 hown hK hP (hD S24) hS 0 rfl rfl 19 (by decide) kf122 (fun _ h9 => h9) rfl (by decide +kernel) rfl rfl (Nat.le_of_ble_eq_true rfl) dX6_size_92 (fun H locs hP _ hS => ?_)
            obtain ⟨S25, eS25⟩ : ∃ z : St, z = sI S24 8 ((S24.1 8) + 1) := ⟨_, rfl⟩
            have hP : va_P D vwCl (mw a c S25) H := by rw [eS25]; exact hP
            have h := h S25 eS25
            refine lv_aload_n hx hb dX6_size_95 rfl (lv_at hl 0 rfl) ?_
            refine va_get (D := D) (ci := 6) (v := .int (S25.1 8)) (C := RX6) (T := TX6) (N := 36) hx hb hts hinX6 hown hK hP 0 rfl rfl 19 (by decide) kf122 (fun _ h9 => h9) rfl dX6_size_96 ?_
            refine lv_iconst (v := 1) hx hb dX6_size_99 (by decide) ?_
            refine lv_isub hx hb dX6_size_100 ?_
            exact g_reti hx hb hr hlocks h hP hS dX6_size_101
          · have h := h.2 c20
            refine lv_iconst (v := 0) hx hb dX6_size_63 (by decide) ?_
            exact g_reti hx hb hr hlocks h hP hS dX6_size_64
  unfold PX6_size at h
  refine lv_aload_n hx hb dX6_size_0 rfl (lv_at hl 0 rfl) ?_
  refine lv_iconst (v := 0) hx hb dX6_size_1 (by decide) ?_
  refine va_put (D := D) (ci := 6) (v := .int 0) (ty := .int) (C := RX6) (T := TX6) (N := 36) hx hb hts hinX6 tyX6 tyX6_ok nmX6 hown hK hP (hD S) hS 0 rfl rfl 0 (by decide) kf60 (fun _ h9 => h9) rfl (by decide +kernel) rfl rfl (Nat.le_of_ble_eq_true rfl) dX6_size_2 (fun H locs hP _ hS => ?_)
  obtain ⟨S1, eS1⟩ : ∃ z : St, z = sI S 0 0 := ⟨_, rfl⟩
  have hP : va_P D vwCl (mw a c S1) H := by rw [eS1]; exact hP
  have h := h S1 eS1
  refine lv_aload_n hx hb dX6_size_5 rfl (lv_at hl 0 rfl) ?_
  refine lv_iload_n hx hb dX6_size_6 rfl (lv_at hl 1 rfl) ?_
  refine lv_iconst (v := 1) hx hb dX6_size_7 (by decide) ?_
  refine lv_icmp_lt (tgt := 30) hx hb dX6_size_8 (by decide) (fun c2 => ?_) (fun c2 => ?_)
  · have h := h.1 c2
    refine lv_iconst (v := 1) hx hb dX6_size_30 (by decide) ?_
    refine lv_goto (tgt := 35) hx hb dX6_size_31 (by decide) ?_
    exact (key n) p0 p1 1 S1 _ _ _ h hP hS (lv_sub hl [0, 1, 2] rfl)
  · have h := h.2 c2
    refine lv_iload_n hx hb dX6_size_11 rfl (lv_at hl 1 rfl) ?_
    refine lv_sipush (v := 200) hx hb dX6_size_12 (by decide) ?_
    refine lv_icmp_gt (tgt := 30) hx hb dX6_size_15 (by decide) (fun c3 => ?_) (fun c3 => ?_)
    · have h := h.1 c3
      refine lv_iconst (v := 1) hx hb dX6_size_30 (by decide) ?_
      refine lv_goto (tgt := 35) hx hb dX6_size_31 (by decide) ?_
      exact (key n) p0 p1 1 S1 _ _ _ h hP hS (lv_sub hl [0, 1, 2] rfl)
    · have h := h.2 c3
      refine lv_iload_n hx hb dX6_size_18 rfl (lv_at hl 2 rfl) ?_
      refine lv_iconst (v := 1) hx hb dX6_size_19 (by decide) ?_
      refine lv_icmp_lt (tgt := 30) hx hb dX6_size_20 (by decide) (fun c4 => ?_) (fun c4 => ?_)
      · have h := h.1 c4
        refine lv_iconst (v := 1) hx hb dX6_size_30 (by decide) ?_
        refine lv_goto (tgt := 35) hx hb dX6_size_31 (by decide) ?_
        exact (key n) p0 p1 1 S1 _ _ _ h hP hS (lv_sub hl [0, 1, 2] rfl)
      · have h := h.2 c4
        refine lv_iload_n hx hb dX6_size_23 rfl (lv_at hl 2 rfl) ?_
        refine lv_sipush (v := 10000) hx hb dX6_size_24 (by decide) ?_
        refine lv_icmp_le (tgt := 34) hx hb dX6_size_27 (by decide) (fun c5 => ?_) (fun c5 => ?_)
        · have h := h.1 c5
          refine lv_iconst (v := 0) hx hb dX6_size_34 (by decide) ?_
          exact (key n) p0 p1 0 S1 _ _ _ h hP hS (lv_sub hl [0, 1, 2] rfl)
        · have h := h.2 c5
          refine lv_iconst (v := 1) hx hb dX6_size_30 (by decide) ?_
          refine lv_goto (tgt := 35) hx hb dX6_size_31 (by decide) ?_
          exact (key n) p0 p1 1 S1 _ _ _ h hP hS (lv_sub hl [0, 1, 2] rfl)
def BX6_prices_0 (X : Int32 → Int32 → Int32 → St → Prop) (post : St → Prop) (xl1 : Int32) (xl2 : Int32) (xs0 : Int32) (S : St) : Prop := PX6_bad xs0 1 S (fun x7 S6 => ((x7 = 0 → ∀ S9 : St, S9 = sI S6 9 xl1 → ∀ S10 : St, S10 = sI S9 10 xl2 → post S10) ∧ (¬ x7 = 0 → post S6)))
def LX6_prices (post : St → Prop) : Nat → Int32 → Int32 → Int32 → St → Prop
  | 0, _, _, _, _ => False
  | n + 1, xl1, xl2, xs0, S => BX6_prices_0 (LX6_prices post n) post xl1 xl2 xs0 S
def PX6_prices (n : Nat) (p0 : Int32) (p1 : Int32) (S : St) (post : St → Prop) : Prop := ∀ S1 : St, S1 = sI S 0 0 → ((p0 < 0 → LX6_prices post n p0 p1 1 S1) ∧ (¬ p0 < 0 → ((1000 < p0 → LX6_prices post n p0 p1 1 S1) ∧ (¬ 1000 < p0 → ((p1 < 0 → LX6_prices post n p0 p1 1 S1) ∧ (¬ p1 < 0 → ((p1 ≤ 1000 → LX6_prices post n p0 p1 0 S1) ∧ (¬ p1 ≤ 1000 → LX6_prices post n p0 p1 1 S1))))))))
set_option maxHeartbeats 4000000 in
set_option maxRecDepth 100000 in
theorem tX6_prices (l : Launch) (D : va_G) (a : Nat → Nat) (c : Nat → ClassId) (sz : Nat) (n : Nat) (p0 : Int32) (p1 : Int32) (S : St) (post : St → Prop) (h : PX6_prices n p0 p1 S post) : Met l yX6_prices wsX6_prices ({ frames := 1, cells := 0, slots := 0, locals := 22 }) (va_Pc [.ref (a 0), .int p0, .int p1] (gP D (mw a c) (mty c) mns S sz)) (va_Qv post (gB D (mw a c)) (va_A (mw a c S) sz)) 0 0 (va_A (mw a c S) sz) := by
  refine Met.ofW (cc := cX6_prices) (maxL := 3) (ret := none) (by decide) rfl ?_
  intro p e s m args below meth c9 s₁ B hml hv
  obtain ⟨rfl, hsz, hP, hK, hD0, hN⟩ := hv
  have hx := B.exec
  have hb := B.bytes
  have hr := B.returns
  have hts := atoms_spec (ws := wsX6_prices) B.pre
  have hown : s.vm.findClass RX6 = some m.cls := findClass_of_methodNamed B.named
  have hlocks := B.notSynchronized
  subst hsz
  have hD1 := hD0.self (sz := s.heap.size)
  generalize hAe : va_A (mw a c S) s.heap.size = A at hD1 ⊢
  have hA : ∀ q : Nat, s.heap.size ≤ q → A q := fun q h => by rw [← hAe]; exact Or.inr h
  have hD : ∀ S2 : St, va_D A (mw a c S2) := gD mw_F hD1
  have hS : va_S A s.heap s.heap [] := va_S.rf
  have hinX6 : ∀ w ∈ wsX60, w ∈ wsX6_prices := by decide +kernel
  have kf38 := hts (.fieldLink RX6 38 "CanteenPlanModel" "waste" "I") (by decide +kernel)
  have kf42 := hts (.fieldLink RX6 42 "CanteenPlanModel" "want" "I") (by decide +kernel)
  have kf60 := hts (.fieldLink RX6 60 "CanteenPlanModel" "thrown" "I") (by decide +kernel)
  have hl := lv_entry ([.ref (a 0), .int p0, .int p1]) (n := 3) (Nat.le_of_ble_eq_true rfl)
  rw [lg_entry_eq]
  generalize (lg_sl ([.ref (a 0), .int p0, .int p1]) ++ List.replicate (3 - (lg_sl ([.ref (a 0), .int p0, .int p1])).length) Slot.unset).toArray = ls at hl ⊢
  have hl : lv_has ls 3 [(0, .ref (a 0)), (1, .int p0), (2, .int p1)] := hl
  have key : ∀ n : Nat, (∀ (xl1 : Int32) (xl2 : Int32) (xs0 : Int32) (S : St) (H : Heap) (locs : List Loc) (ls : Array Slot), LX6_prices post n xl1 xl2 xs0 S → va_P D vwCl (mw a c S) H → va_S A s.heap H locs → lv_has ls 3 [(0, .ref (a 0)), (1, .int xl1), (2, .int xl2)] → W p l e ((headSpec wsX6_prices ({ frames := 1, cells := 0, slots := 0, locals := 22 })).room) s m ([.ref (a 0), .int p0, .int p1]).toArray below meth c9 H locs 0 0 (MQ below (va_Qv post (gB D (mw a c)) A) ([.ref (a 0), .int p0, .int p1]).toArray s 0 0 A) (F0 m 33 ls [.int xs0, .ref (a 0)])) := by
    intro n
    induction n with
    | zero => exact fun xl1 xl2 xs0 S H locs ls h => h.elim
    | succ n ih =>
      intro xl1 xl2 xs0 S H locs ls h hP hS hl
      have h : BX6_prices_0 (LX6_prices post n) post xl1 xl2 xs0 S := h
      unfold BX6_prices_0 at h
      refine lv_iconst (v := 1) hx hb dX6_prices_33 (by decide) ?_
      refine k_i (k_runV mns_ok ⟨hx, hb, hml, hown, hts⟩ (tX6_bad l D a c _ xs0 1 S _ h) (cwV 2 hts gX6_prices_X6_bad rfl rfl rfl (by decide +kernel) ⟨Nat.le_of_ble_eq_true rfl, Nat.le_of_ble_eq_true rfl⟩) (va_recv hK hP (ci := 6) (q0 := 0) rfl rfl) hP hK (hD S) hN rfl rfl hl.1 rfl (lv_room (Nat.le_of_ble_eq_true rfl)) dX6_prices_34 ⟨Nat.le_of_ble_eq_true rfl, Nat.le_of_ble_eq_true rfl⟩) hS (hD S) hA (fun x7 S6 H locs h hP hS => ?_)
      refine lv_if_eq (tgt := 41) hx hb dX6_prices_37 (by decide) (fun c8 => ?_) (fun c8 => ?_)
      · have h := h.1 c8
        refine lv_aload_n hx hb dX6_prices_41 rfl (lv_at hl 0 rfl) ?_
        refine lv_iload_n hx hb dX6_prices_42 rfl (lv_at hl 1 rfl) ?_
        refine va_put (D := D) (ci := 6) (v := .int xl1) (ty := .int) (C := RX6) (T := TX6) (N := 36) hx hb hts hinX6 tyX6 tyX6_ok nmX6 hown hK hP (hD S6) hS 0 rfl rfl 20 (by decide) kf38 (fun _ h9 => h9) rfl (by decide +kernel) rfl rfl (Nat.le_of_ble_eq_true rfl) dX6_prices_43 (fun H locs hP _ hS => ?_)
        obtain ⟨S9, eS9⟩ : ∃ z : St, z = sI S6 9 xl1 := ⟨_, rfl⟩
        have hP : va_P D vwCl (mw a c S9) H := by rw [eS9]; exact hP
        have h := h S9 eS9
        refine lv_aload_n hx hb dX6_prices_46 rfl (lv_at hl 0 rfl) ?_
        refine lv_iload_n hx hb dX6_prices_47 rfl (lv_at hl 2 rfl) ?_
        refine va_put (D := D) (ci := 6) (v := .int xl2) (ty := .int) (C := RX6) (T := TX6) (N := 36) hx hb hts hinX6 tyX6 tyX6_ok nmX6 hown hK hP (hD S9) hS 0 rfl rfl 21 (by decide) kf42 (fun _ h9 => h9) rfl (by decide +kernel) rfl rfl (Nat.le_of_ble_eq_true rfl) dX6_prices_48 (fun H locs hP _ hS => ?_)
        obtain ⟨S10, eS10⟩ : ∃ z : St, z = sI S9 10 xl2 := ⟨_, rfl⟩
        have hP : va_P D vwCl (mw a c S10) H := by rw [eS10]; exact hP
        have h := h S10 eS10
        exact g_retv hx hb hr hlocks h hP hS dX6_prices_51
      · have h := h.2 c8
        exact g_retv hx hb hr hlocks h hP hS dX6_prices_40
  unfold PX6_prices at h
  refine lv_aload_n hx hb dX6_prices_0 rfl (lv_at hl 0 rfl) ?_
  refine lv_iconst (v := 0) hx hb dX6_prices_1 (by decide) ?_
  refine va_put (D := D) (ci := 6) (v := .int 0) (ty := .int) (C := RX6) (T := TX6) (N := 36) hx hb hts hinX6 tyX6 tyX6_ok nmX6 hown hK hP (hD S) hS 0 rfl rfl 0 (by decide) kf60 (fun _ h9 => h9) rfl (by decide +kernel) rfl rfl (Nat.le_of_ble_eq_true rfl) dX6_prices_2 (fun H locs hP _ hS => ?_)
  obtain ⟨S1, eS1⟩ : ∃ z : St, z = sI S 0 0 := ⟨_, rfl⟩
  have hP : va_P D vwCl (mw a c S1) H := by rw [eS1]; exact hP
  have h := h S1 eS1
  refine lv_aload_n hx hb dX6_prices_5 rfl (lv_at hl 0 rfl) ?_
  refine lv_iload_n hx hb dX6_prices_6 rfl (lv_at hl 1 rfl) ?_
  refine lv_if_lt (tgt := 28) hx hb dX6_prices_7 (by decide) (fun c2 => ?_) (fun c2 => ?_)
  · have h := h.1 c2
    refine lv_iconst (v := 1) hx hb dX6_prices_28 (by decide) ?_
    refine lv_goto (tgt := 33) hx hb dX6_prices_29 (by decide) ?_
    exact (key n) p0 p1 1 S1 _ _ _ h hP hS (lv_sub hl [0, 1, 2] rfl)
  · have h := h.2 c2
    refine lv_iload_n hx hb dX6_prices_10 rfl (lv_at hl 1 rfl) ?_
    refine lv_sipush (v := 1000) hx hb dX6_prices_11 (by decide) ?_
    refine lv_icmp_gt (tgt := 28) hx hb dX6_prices_14 (by decide) (fun c3 => ?_) (fun c3 => ?_)
    · have h := h.1 c3
      refine lv_iconst (v := 1) hx hb dX6_prices_28 (by decide) ?_
      refine lv_goto (tgt := 33) hx hb dX6_prices_29 (by decide) ?_
      exact (key n) p0 p1 1 S1 _ _ _ h hP hS (lv_sub hl [0, 1, 2] rfl)
    · have h := h.2 c3
      refine lv_iload_n hx hb dX6_prices_17 rfl (lv_at hl 2 rfl) ?_
      refine lv_if_lt (tgt := 28) hx hb dX6_prices_18 (by decide) (fun c4 => ?_) (fun c4 => ?_)
      · have h := h.1 c4
        refine lv_iconst (v := 1) hx hb dX6_prices_28 (by decide) ?_
        refine lv_goto (tgt := 33) hx hb dX6_prices_29 (by decide) ?_
        exact (key n) p0 p1 1 S1 _ _ _ h hP hS (lv_sub hl [0, 1, 2] rfl)
      · have h := h.2 c4
        refine lv_iload_n hx hb dX6_prices_21 rfl (lv_at hl 2 rfl) ?_
        refine lv_sipush (v := 1000) hx hb dX6_prices_22 (by decide) ?_
        refine lv_icmp_le (tgt := 32) hx hb dX6_prices_25 (by decide) (fun c5 => ?_) (fun c5 => ?_)
        · have h := h.1 c5
          refine lv_iconst (v := 0) hx hb dX6_prices_32 (by decide) ?_
          exact (key n) p0 p1 0 S1 _ _ _ h hP hS (lv_sub hl [0, 1, 2] rfl)
        · have h := h.2 c5
          refine lv_iconst (v := 1) hx hb dX6_prices_28 (by decide) ?_
          refine lv_goto (tgt := 33) hx hb dX6_prices_29 (by decide) ?_
          exact (key n) p0 p1 1 S1 _ _ _ h hP hS (lv_sub hl [0, 1, 2] rfl)
end
