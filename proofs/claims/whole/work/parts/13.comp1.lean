def PX3_add (p0 : Int32) (p1 : Int32) (S : St) (post : Int32 → St → Prop) : Prop := (vp_in (S.1 0) 6 ∧ ∀ S2 : St, S2 = sR S 0 (upd (S.2.2 0) (S.1 0).toNatClampNeg p0) → (vp_in (S2.1 0) 6 ∧ ∀ S4 : St, S4 = sR S2 1 (upd (S2.2.2 1) (S2.1 0).toNatClampNeg p1) → ∀ S5 : St, S5 = sI S4 0 ((S4.1 0) + 1) → post ((S5.1 0) - 1) S5))
set_option maxHeartbeats 4000000 in
set_option maxRecDepth 100000 in
theorem tX3_add (l : Launch) (D : va_G) (a : Nat → Nat) (c : Nat → ClassId) (sz : Nat) (p0 : Int32) (p1 : Int32) (S : St) (post : Int32 → St → Prop) (h : PX3_add p0 p1 S post) : Met l yX3_add wsX3_add ({ frames := 0, cells := 0, slots := 0, locals := 0 }) (va_Pc [.ref (a 1), .int p0, .int p1] (gP D (cw a c) (cty c) cns S sz)) (va_Qi post (gB D (cw a c)) (va_A (cw a c S) sz)) 0 0 (va_A (cw a c S) sz) := by
  refine Met.ofW (cc := cX3_add) (maxL := 3) (ret := (some .int)) (by decide) rfl ?_
  intro p e s m args below meth c9 s₁ B hml hv
  obtain ⟨rfl, hsz, hP, hK, hD0, hN⟩ := hv
  have hx := B.exec
  have hb := B.bytes
  have hr := B.returns
  have hts := atoms_spec (ws := wsX3_add) B.pre
  have hown : s.vm.findClass RX3 = some m.cls := findClass_of_methodNamed B.named
  have hlocks := B.notSynchronized
  subst hsz
  have hD1 := hD0.self (sz := s.heap.size)
  generalize hAe : va_A (cw a c S) s.heap.size = A at hD1 ⊢
  have hA : ∀ q : Nat, s.heap.size ≤ q → A q := fun q h => by rw [← hAe]; exact Or.inr h
  have hD : ∀ S2 : St, va_D A (cw a c S2) := gD cw_F hD1
  have hS : va_S A s.heap s.heap [] := va_S.rf
  have hinX3 : ∀ w ∈ wsX30, w ∈ wsX3_add := by decide +kernel
  have kf15 := hts (.fieldLink RX3 15 "CanteenPlan$Menu" "barred" "[I") (by decide +kernel)
  have kf21 := hts (.fieldLink RX3 21 "CanteenPlan$Menu" "meals" "I") (by decide +kernel)
  have kf9 := hts (.fieldLink RX3 9 "CanteenPlan$Menu" "in" "[I") (by decide +kernel)
  have hl := lv_entry ([.ref (a 1), .int p0, .int p1]) (n := 3) (Nat.le_of_ble_eq_true rfl)
  rw [lg_entry_eq]
  generalize (lg_sl ([.ref (a 1), .int p0, .int p1]) ++ List.replicate (3 - (lg_sl ([.ref (a 1), .int p0, .int p1])).length) Slot.unset).toArray = ls at hl ⊢
  have hl : lv_has ls 3 [(0, .ref (a 1)), (1, .int p0), (2, .int p1)] := hl
  unfold PX3_add at h
  refine lv_aload_n hx hb dX3_add_0 rfl (lv_at hl 0 rfl) ?_
  refine va_get (D := D) (ci := 3) (v := .ref (a 6)) (C := RX3) (T := TX3) (N := 4) hx hb hts hinX3 hown hK hP 1 rfl rfl 0 (by decide) kf9 (fun _ h9 => h9) rfl dX3_add_1 ?_
  refine lv_aload_n hx hb dX3_add_4 rfl (lv_at hl 0 rfl) ?_
  refine va_get (D := D) (ci := 3) (v := .int (S.1 0)) (C := RX3) (T := TX3) (N := 4) hx hb hts hinX3 hown hK hP 1 rfl rfl 3 (by decide) kf21 (fun _ h9 => h9) rfl dX3_add_5 ?_
  refine lv_iload_n hx hb dX3_add_8 rfl (lv_at hl 1 rfl) ?_
  obtain ⟨b1, h⟩ := h
  refine va_iast hx hb hK hP (hD S) hS 6 0 rfl rfl b1 dX3_add_9 (fun H locs hP _ hS => ?_)
  obtain ⟨S2, eS2⟩ : ∃ z : St, z = sR S 0 (upd (S.2.2 0) (S.1 0).toNatClampNeg p0) := ⟨_, rfl⟩
  have hP : va_P D vwCl (cw a c S2) H := by rw [eS2]; exact hP
  have h := h S2 eS2
  refine lv_aload_n hx hb dX3_add_10 rfl (lv_at hl 0 rfl) ?_
  refine va_get (D := D) (ci := 3) (v := .ref (a 7)) (C := RX3) (T := TX3) (N := 4) hx hb hts hinX3 hown hK hP 1 rfl rfl 1 (by decide) kf15 (fun _ h9 => h9) rfl dX3_add_11 ?_
  refine lv_aload_n hx hb dX3_add_14 rfl (lv_at hl 0 rfl) ?_
  refine va_get (D := D) (ci := 3) (v := .int (S2.1 0)) (C := RX3) (T := TX3) (N := 4) hx hb hts hinX3 hown hK hP 1 rfl rfl 3 (by decide) kf21 (fun _ h9 => h9) rfl dX3_add_15 ?_
  refine lv_iload_n hx hb dX3_add_18 rfl (lv_at hl 2 rfl) ?_
  obtain ⟨b3, h⟩ := h
  refine va_iast hx hb hK hP (hD S2) hS 7 1 rfl rfl b3 dX3_add_19 (fun H locs hP _ hS => ?_)
  obtain ⟨S4, eS4⟩ : ∃ z : St, z = sR S2 1 (upd (S2.2.2 1) (S2.1 0).toNatClampNeg p1) := ⟨_, rfl⟩
  have hP : va_P D vwCl (cw a c S4) H := by rw [eS4]; exact hP
  have h := h S4 eS4
  refine lv_aload_n hx hb dX3_add_20 rfl (lv_at hl 0 rfl) ?_
  refine lv_dup hx hb dX3_add_21 rfl ?_
  refine va_get (D := D) (ci := 3) (v := .int (S4.1 0)) (C := RX3) (T := TX3) (N := 4) hx hb hts hinX3 hown hK hP 1 rfl rfl 3 (by decide) kf21 (fun _ h9 => h9) rfl dX3_add_22 ?_
  refine lv_iconst (v := 1) hx hb dX3_add_25 (by decide) ?_
  refine lv_iadd hx hb dX3_add_26 ?_
  refine va_put (D := D) (ci := 3) (v := .int ((S4.1 0) + 1)) (ty := .int) (C := RX3) (T := TX3) (N := 4) hx hb hts hinX3 tyX3 tyX3_ok nmX3 hown hK hP (hD S4) hS 1 rfl rfl 3 (by decide) kf21 (fun _ h9 => h9) rfl (by decide +kernel) rfl rfl (Nat.le_of_ble_eq_true rfl) dX3_add_27 (fun H locs hP _ hS => ?_)
  obtain ⟨S5, eS5⟩ : ∃ z : St, z = sI S4 0 ((S4.1 0) + 1) := ⟨_, rfl⟩
  have hP : va_P D vwCl (cw a c S5) H := by rw [eS5]; exact hP
  have h := h S5 eS5
  refine lv_aload_n hx hb dX3_add_30 rfl (lv_at hl 0 rfl) ?_
  refine va_get (D := D) (ci := 3) (v := .int (S5.1 0)) (C := RX3) (T := TX3) (N := 4) hx hb hts hinX3 hown hK hP 1 rfl rfl 3 (by decide) kf21 (fun _ h9 => h9) rfl dX3_add_31 ?_
  refine lv_iconst (v := 1) hx hb dX3_add_34 (by decide) ?_
  refine lv_isub hx hb dX3_add_35 ?_
  exact g_reti hx hb hr hlocks h hP hS dX3_add_36
def PX3_canMeet (p0 : Int32) (p1 : Int32) (S : St) (post : Int32 → St → Prop) : Prop := (vp_in p0 6 ∧ (vp_in p1 6 ∧ ((((S.2.2 0 p0.toNatClampNeg) &&& (S.2.2 1 p1.toNatClampNeg)) = 0 → (vp_in p1 6 ∧ (vp_in p0 6 ∧ ((((S.2.2 0 p1.toNatClampNeg) &&& (S.2.2 1 p0.toNatClampNeg)) = 0 → post 1 S) ∧ (¬ ((S.2.2 0 p1.toNatClampNeg) &&& (S.2.2 1 p0.toNatClampNeg)) = 0 → post 0 S))))) ∧ (¬ ((S.2.2 0 p0.toNatClampNeg) &&& (S.2.2 1 p1.toNatClampNeg)) = 0 → post 0 S))))
set_option maxHeartbeats 4000000 in
set_option maxRecDepth 100000 in
theorem tX3_canMeet (l : Launch) (D : va_G) (a : Nat → Nat) (c : Nat → ClassId) (sz : Nat) (p0 : Int32) (p1 : Int32) (S : St) (post : Int32 → St → Prop) (h : PX3_canMeet p0 p1 S post) : Met l yX3_canMeet wsX3_canMeet ({ frames := 0, cells := 0, slots := 0, locals := 0 }) (va_Pc [.ref (a 1), .int p0, .int p1] (gP D (cw a c) (cty c) cns S sz)) (va_Qi post (gB D (cw a c)) (va_A (cw a c S) sz)) 0 0 (va_A (cw a c S) sz) := by
  refine Met.ofW (cc := cX3_canMeet) (maxL := 3) (ret := (some .boolean)) (by decide) rfl ?_
  intro p e s m args below meth c9 s₁ B hml hv
  obtain ⟨rfl, hsz, hP, hK, hD0, hN⟩ := hv
  have hx := B.exec
  have hb := B.bytes
  have hr := B.returns
  have hts := atoms_spec (ws := wsX3_canMeet) B.pre
  have hown : s.vm.findClass RX3 = some m.cls := findClass_of_methodNamed B.named
  have hlocks := B.notSynchronized
  subst hsz
  have hD1 := hD0.self (sz := s.heap.size)
  generalize hAe : va_A (cw a c S) s.heap.size = A at hD1 ⊢
  have hA : ∀ q : Nat, s.heap.size ≤ q → A q := fun q h => by rw [← hAe]; exact Or.inr h
  have hD : ∀ S2 : St, va_D A (cw a c S2) := gD cw_F hD1
  have hS : va_S A s.heap s.heap [] := va_S.rf
  have hinX3 : ∀ w ∈ wsX30, w ∈ wsX3_canMeet := by decide +kernel
  have kf15 := hts (.fieldLink RX3 15 "CanteenPlan$Menu" "barred" "[I") (by decide +kernel)
  have kf9 := hts (.fieldLink RX3 9 "CanteenPlan$Menu" "in" "[I") (by decide +kernel)
  have hl := lv_entry ([.ref (a 1), .int p0, .int p1]) (n := 3) (Nat.le_of_ble_eq_true rfl)
  rw [lg_entry_eq]
  generalize (lg_sl ([.ref (a 1), .int p0, .int p1]) ++ List.replicate (3 - (lg_sl ([.ref (a 1), .int p0, .int p1])).length) Slot.unset).toArray = ls at hl ⊢
  have hl : lv_has ls 3 [(0, .ref (a 1)), (1, .int p0), (2, .int p1)] := hl
  unfold PX3_canMeet at h
  refine lv_aload_n hx hb dX3_canMeet_0 rfl (lv_at hl 0 rfl) ?_
  refine va_get (D := D) (ci := 3) (v := .ref (a 6)) (C := RX3) (T := TX3) (N := 4) hx hb hts hinX3 hown hK hP 1 rfl rfl 0 (by decide) kf9 (fun _ h9 => h9) rfl dX3_canMeet_1 ?_
  refine lv_iload_n hx hb dX3_canMeet_4 rfl (lv_at hl 1 rfl) ?_
  obtain ⟨b1, h⟩ := h
  refine va_iald hx hb hK hP 6 0 rfl rfl b1 dX3_canMeet_5 ?_
  refine lv_aload_n hx hb dX3_canMeet_6 rfl (lv_at hl 0 rfl) ?_
  refine va_get (D := D) (ci := 3) (v := .ref (a 7)) (C := RX3) (T := TX3) (N := 4) hx hb hts hinX3 hown hK hP 1 rfl rfl 1 (by decide) kf15 (fun _ h9 => h9) rfl dX3_canMeet_7 ?_
  refine lv_iload_n hx hb dX3_canMeet_10 rfl (lv_at hl 2 rfl) ?_
  obtain ⟨b2, h⟩ := h
  refine va_iald hx hb hK hP 7 1 rfl rfl b2 dX3_canMeet_11 ?_
  refine lv_iand hx hb dX3_canMeet_12 ?_
  refine lv_if_ne (tgt := 36) hx hb dX3_canMeet_13 (by decide) (fun c3 => ?_) (fun c3 => ?_)
  · have h := h.2 c3
    refine lv_iconst (v := 0) hx hb dX3_canMeet_36 (by decide) ?_
    exact g_retz hx hb hr hlocks (Or.inl rfl) h hP hS dX3_canMeet_37
  · have h := h.1 c3
    refine lv_aload_n hx hb dX3_canMeet_16 rfl (lv_at hl 0 rfl) ?_
    refine va_get (D := D) (ci := 3) (v := .ref (a 6)) (C := RX3) (T := TX3) (N := 4) hx hb hts hinX3 hown hK hP 1 rfl rfl 0 (by decide) kf9 (fun _ h9 => h9) rfl dX3_canMeet_17 ?_
    refine lv_iload_n hx hb dX3_canMeet_20 rfl (lv_at hl 2 rfl) ?_
    obtain ⟨b4, h⟩ := h
    refine va_iald hx hb hK hP 6 0 rfl rfl b4 dX3_canMeet_21 ?_
    refine lv_aload_n hx hb dX3_canMeet_22 rfl (lv_at hl 0 rfl) ?_
    refine va_get (D := D) (ci := 3) (v := .ref (a 7)) (C := RX3) (T := TX3) (N := 4) hx hb hts hinX3 hown hK hP 1 rfl rfl 1 (by decide) kf15 (fun _ h9 => h9) rfl dX3_canMeet_23 ?_
    refine lv_iload_n hx hb dX3_canMeet_26 rfl (lv_at hl 1 rfl) ?_
    obtain ⟨b5, h⟩ := h
    refine va_iald hx hb hK hP 7 1 rfl rfl b5 dX3_canMeet_27 ?_
    refine lv_iand hx hb dX3_canMeet_28 ?_
    refine lv_if_ne (tgt := 36) hx hb dX3_canMeet_29 (by decide) (fun c6 => ?_) (fun c6 => ?_)
    · have h := h.2 c6
      refine lv_iconst (v := 0) hx hb dX3_canMeet_36 (by decide) ?_
      exact g_retz hx hb hr hlocks (Or.inl rfl) h hP hS dX3_canMeet_37
    · have h := h.1 c6
      refine lv_iconst (v := 1) hx hb dX3_canMeet_32 (by decide) ?_
      refine lv_goto (tgt := 37) hx hb dX3_canMeet_33 (by decide) ?_
      exact g_retz hx hb hr hlocks (Or.inr rfl) h hP hS dX3_canMeet_37
def BX3_canTake_0 (X : Int32 → Int32 → Int32 → St → Prop) (post : Int32 → St → Prop) (xl1 : Int32) (xl2 : Int32) (xl3 : Int32) (S : St) : Prop := ((xl1 ≤ xl3 → post 1 S) ∧ (¬ xl1 ≤ xl3 → (vp_in xl3 6 ∧ (((S.2.2 2 xl3.toNatClampNeg) = xl2 → PX3_canMeet xl1 xl3 S (fun x6 S5 => ((x6 = 0 → post 0 S5) ∧ (¬ x6 = 0 → ∀ x8 : Int32, x8 = xl3 + 1 → X xl1 xl2 x8 S5)))) ∧ (¬ (S.2.2 2 xl3.toNatClampNeg) = xl2 → ∀ x4 : Int32, x4 = xl3 + 1 → X xl1 xl2 x4 S)))))
def LX3_canTake (post : Int32 → St → Prop) : Nat → Int32 → Int32 → Int32 → St → Prop
  | 0, _, _, _, _ => False
  | n + 1, xl1, xl2, xl3, S => BX3_canTake_0 (LX3_canTake post n) post xl1 xl2 xl3 S
def PX3_canTake (n : Nat) (p0 : Int32) (p1 : Int32) (S : St) (post : Int32 → St → Prop) : Prop := LX3_canTake post n p0 p1 0 S
set_option maxHeartbeats 4000000 in
set_option maxRecDepth 100000 in
theorem tX3_canTake (l : Launch) (D : va_G) (a : Nat → Nat) (c : Nat → ClassId) (sz : Nat) (n : Nat) (p0 : Int32) (p1 : Int32) (S : St) (post : Int32 → St → Prop) (h : PX3_canTake n p0 p1 S post) : Met l yX3_canTake wsX3_canTake ({ frames := 1, cells := 0, slots := 0, locals := 22 }) (va_Pc [.ref (a 1), .int p0, .int p1] (gP D (cw a c) (cty c) cns S sz)) (va_Qi post (gB D (cw a c)) (va_A (cw a c S) sz)) 0 0 (va_A (cw a c S) sz) := by
  refine Met.ofW (cc := cX3_canTake) (maxL := 4) (ret := (some .boolean)) (by decide) rfl ?_
  intro p e s m args below meth c9 s₁ B hml hv
  obtain ⟨rfl, hsz, hP, hK, hD0, hN⟩ := hv
  have hx := B.exec
  have hb := B.bytes
  have hr := B.returns
  have hts := atoms_spec (ws := wsX3_canTake) B.pre
  have hown : s.vm.findClass RX3 = some m.cls := findClass_of_methodNamed B.named
  have hlocks := B.notSynchronized
  subst hsz
  have hD1 := hD0.self (sz := s.heap.size)
  generalize hAe : va_A (cw a c S) s.heap.size = A at hD1 ⊢
  have hA : ∀ q : Nat, s.heap.size ≤ q → A q := fun q h => by rw [← hAe]; exact Or.inr h
  have hD : ∀ S2 : St, va_D A (cw a c S2) := gD cw_F hD1
  have hS : va_S A s.heap s.heap [] := va_S.rf
  have hinX3 : ∀ w ∈ wsX30, w ∈ wsX3_canTake := by decide +kernel
  have kf18 := hts (.fieldLink RX3 18 "CanteenPlan$Menu" "ladleOf" "[I") (by decide +kernel)
  have hl := lv_entry ([.ref (a 1), .int p0, .int p1]) (n := 4) (Nat.le_of_ble_eq_true rfl)
  rw [lg_entry_eq]
  generalize (lg_sl ([.ref (a 1), .int p0, .int p1]) ++ List.replicate (4 - (lg_sl ([.ref (a 1), .int p0, .int p1])).length) Slot.unset).toArray = ls at hl ⊢
  have hl : lv_has ls 4 [(0, .ref (a 1)), (1, .int p0), (2, .int p1)] := hl
  have key : ∀ n : Nat, (∀ (xl1 : Int32) (xl2 : Int32) (xl3 : Int32) (S : St) (H : Heap) (locs : List Loc) (ls : Array Slot), LX3_canTake post n xl1 xl2 xl3 S → va_P D vwCl (cw a c S) H → va_S A s.heap H locs → lv_has ls 4 [(0, .ref (a 1)), (1, .int xl1), (2, .int xl2), (3, .int xl3)] → W p l e ((headSpec wsX3_canTake ({ frames := 1, cells := 0, slots := 0, locals := 22 })).room) s m ([.ref (a 1), .int p0, .int p1]).toArray below meth c9 H locs 0 0 (MQ below (va_Qi post (gB D (cw a c)) A) ([.ref (a 1), .int p0, .int p1]).toArray s 0 0 A) (F0 m 2 ls [])) := by
    intro n
    induction n with
    | zero => exact fun xl1 xl2 xl3 S H locs ls h => h.elim
    | succ n ih =>
      intro xl1 xl2 xl3 S H locs ls h hP hS hl
      have h : BX3_canTake_0 (LX3_canTake post n) post xl1 xl2 xl3 S := h
      unfold BX3_canTake_0 at h
      refine lv_iload_n hx hb dX3_canTake_2 rfl (lv_at hl 3 rfl) ?_
      refine lv_iload_n hx hb dX3_canTake_3 rfl (lv_at hl 1 rfl) ?_
      refine lv_icmp_ge (tgt := 34) hx hb dX3_canTake_4 (by decide) (fun c1 => ?_) (fun c1 => ?_)
      · have h := h.1 c1
        refine lv_iconst (v := 1) hx hb dX3_canTake_34 (by decide) ?_
        exact g_retz hx hb hr hlocks (Or.inr rfl) h hP hS dX3_canTake_35
      · have h := h.2 c1
        refine lv_aload_n hx hb dX3_canTake_7 rfl (lv_at hl 0 rfl) ?_
        refine va_get (D := D) (ci := 3) (v := .ref (a 8)) (C := RX3) (T := TX3) (N := 4) hx hb hts hinX3 hown hK hP 1 rfl rfl 2 (by decide) kf18 (fun _ h9 => h9) rfl dX3_canTake_8 ?_
        refine lv_iload_n hx hb dX3_canTake_11 rfl (lv_at hl 3 rfl) ?_
        obtain ⟨b2, h⟩ := h
        refine va_iald hx hb hK hP 8 2 rfl rfl b2 dX3_canTake_12 ?_
        refine lv_iload_n hx hb dX3_canTake_13 rfl (lv_at hl 2 rfl) ?_
        refine lv_icmp_ne (tgt := 28) hx hb dX3_canTake_14 (by decide) (fun c3 => ?_) (fun c3 => ?_)
        · have h := h.2 c3
          obtain ⟨x4, ex4⟩ : ∃ y : Int32, y = xl3 + 1 := ⟨_, rfl⟩
          have h := h x4 ex4
          refine lv_iinc (v := x4) (lv' := [(3, .int x4), (0, .ref (a 1)), (1, .int xl1), (2, .int xl2)]) hx hb dX3_canTake_28 hl (k := 3) rfl (by rw [ex4]; rfl) (by decide) rfl (fun ls hl => ?_)
          refine lv_goto (tgt := 2) hx hb dX3_canTake_31 (by decide) ?_
          exact (ih) xl1 xl2 x4 S _ _ _ h hP hS (lv_sub hl [1, 2, 3, 0] rfl)
        · have h := h.1 c3
          refine lv_aload_n hx hb dX3_canTake_17 rfl (lv_at hl 0 rfl) ?_
          refine lv_iload_n hx hb dX3_canTake_18 rfl (lv_at hl 1 rfl) ?_
          refine lv_iload_n hx hb dX3_canTake_19 rfl (lv_at hl 3 rfl) ?_
          refine k_i (k_runV cns_ok ⟨hx, hb, hml, hown, hts⟩ (tX3_canMeet l D a c _ xl1 xl3 S _ h) (cwV 2 hts gX3_canTake_X3_canMeet rfl rfl rfl (by decide +kernel) ⟨Nat.le_of_ble_eq_true rfl, Nat.le_of_ble_eq_true rfl⟩) (va_recv hK hP (ci := 3) (q0 := 1) rfl rfl) hP hK (hD S) hN rfl rfl hl.1 rfl (lv_room (Nat.le_of_ble_eq_true rfl)) dX3_canTake_20 ⟨Nat.le_of_ble_eq_true rfl, Nat.le_of_ble_eq_true rfl⟩) hS (hD S) hA (fun x6 S5 H locs h hP hS => ?_)
          refine lv_if_ne (tgt := 28) hx hb dX3_canTake_23 (by decide) (fun c7 => ?_) (fun c7 => ?_)
          · have h := h.2 c7
            obtain ⟨x8, ex8⟩ : ∃ y : Int32, y = xl3 + 1 := ⟨_, rfl⟩
            have h := h x8 ex8
            refine lv_iinc (v := x8) (lv' := [(3, .int x8), (0, .ref (a 1)), (1, .int xl1), (2, .int xl2)]) hx hb dX3_canTake_28 hl (k := 3) rfl (by rw [ex8]; rfl) (by decide) rfl (fun ls hl => ?_)
            refine lv_goto (tgt := 2) hx hb dX3_canTake_31 (by decide) ?_
            exact (ih) xl1 xl2 x8 S5 _ _ _ h hP hS (lv_sub hl [1, 2, 3, 0] rfl)
          · have h := h.1 c7
            refine lv_iconst (v := 0) hx hb dX3_canTake_26 (by decide) ?_
            exact g_retz hx hb hr hlocks (Or.inl rfl) h hP hS dX3_canTake_27
  unfold PX3_canTake at h
  refine lv_iconst (v := 0) hx hb dX3_canTake_0 (by decide) ?_
  refine lv_istore_n (lv' := [(3, .int 0), (0, .ref (a 1)), (1, .int p0), (2, .int p1)]) hx hb dX3_canTake_1 rfl hl (by decide) rfl (fun ls hl => ?_)
  exact (key n) p0 p1 0 S _ _ _ h hP hS (lv_sub hl [1, 2, 3, 0] rfl)
def BX3_dealFrom_0 (rc : Int32 → Int32 → Int32 → St → (Int32 → St → Prop) → Prop) (X : Int32 → Int32 → Int32 → Int32 → St → Prop) (post : Int32 → St → Prop) (xl1 : Int32) (xl2 : Int32) (xl3 : Int32) (xl4 : Int32) (S : St) : Prop := ((xl2 < xl4 → post 0 S) ∧ (¬ xl2 < xl4 → ((xl3 ≤ xl4 → post 0 S) ∧ (¬ xl3 ≤ xl4 → ∃ k : Nat, PX3_canTake k xl1 xl4 S (fun x5 S4 => ((x5 = 0 → ∀ x8 : Int32, x8 = xl4 + 1 → X xl1 xl2 xl3 x8 S4) ∧ (¬ x5 = 0 → (vp_in xl1 6 ∧ ∀ S10 : St, S10 = sR S4 2 (upd (S4.2.2 2) xl1.toNatClampNeg xl4) → rc (xl1 + 1) (if xl2 < (xl4 + 1) then (xl4 + 1) else xl2) xl3 S10 (fun x12 S11 => ((x12 = 0 → ∀ x14 : Int32, x14 = xl4 + 1 → X xl1 xl2 xl3 x14 S11) ∧ (¬ x12 = 0 → post 1 S11)))))))))))
def LX3_dealFrom (rc : Int32 → Int32 → Int32 → St → (Int32 → St → Prop) → Prop) (post : Int32 → St → Prop) : Nat → Int32 → Int32 → Int32 → Int32 → St → Prop
  | 0, _, _, _, _, _ => False
  | n + 1, xl1, xl2, xl3, xl4, S => BX3_dealFrom_0 rc (LX3_dealFrom rc post n) post xl1 xl2 xl3 xl4 S
def EX3_dealFrom (rc : Int32 → Int32 → Int32 → St → (Int32 → St → Prop) → Prop) (n : Nat) (p0 : Int32) (p1 : Int32) (p2 : Int32) (S : St) (post : Int32 → St → Prop) : Prop := ((p0 < (S.1 0) → LX3_dealFrom rc post n p0 p1 p2 0 S) ∧ (¬ p0 < (S.1 0) → post 1 S))
def PX3_dealFrom : Nat → Int32 → Int32 → Int32 → St → (Int32 → St → Prop) → Prop
  | 0, _, _, _, _, _ => False
  | d + 1, p0, p1, p2, S, post => ∃ n, EX3_dealFrom (PX3_dealFrom d) n p0 p1 p2 S post
abbrev rmX3_dealFrom (d : Nat) : Room := { frames := 2 + d, cells := 0, slots := 0, locals := 45 + 24 * d }
set_option maxHeartbeats 4000000 in
set_option maxRecDepth 100000 in
theorem tX3_dealFrom (l : Launch) (D : va_G) (a : Nat → Nat) (c : Nat → ClassId) : ∀ (d : Nat) (sz : Nat) (p0 : Int32) (p1 : Int32) (p2 : Int32) (S : St) (post : Int32 → St → Prop), PX3_dealFrom d p0 p1 p2 S post → Met l yX3_dealFrom wsX3_dealFrom (rmX3_dealFrom d) (va_Pc [.ref (a 1), .int p0, .int p1, .int p2] (gP D (cw a c) (cty c) cns S sz)) (va_Qi post (gB D (cw a c)) (va_A (cw a c S) sz)) 0 0 (va_A (cw a c S) sz) := by
  intro d
  induction d with
  | zero => intro sz p0 p1 p2 S post h; exact h.elim
  | succ d hrc0 =>
  intro sz p0 p1 p2 S post h
  have hrc : ∀ (p0 : Int32) (p1 : Int32) (p2 : Int32) (S : St) (sz : Nat) (post : Int32 → St → Prop), PX3_dealFrom d p0 p1 p2 S post → Met l yX3_dealFrom wsX3_dealFrom (rmX3_dealFrom d) (va_Pc [.ref (a 1), .int p0, .int p1, .int p2] (gP D (cw a c) (cty c) cns S sz)) (va_Qi post (gB D (cw a c)) (va_A (cw a c S) sz)) 0 0 (va_A (cw a c S) sz) := fun p0 p1 p2 S sz post h => hrc0 sz p0 p1 p2 S post h
  refine Met.ofW (cc := cX3_dealFrom) (maxL := 5) (ret := (some .boolean)) (by decide) rfl ?_
  intro p e s m args below meth c9 s₁ B hml hv
  obtain ⟨rfl, hsz, hP, hK, hD0, hN⟩ := hv
  have hx := B.exec
  have hb := B.bytes
  have hr := B.returns
  have hts := atoms_spec (ws := wsX3_dealFrom) B.pre
  have hown : s.vm.findClass RX3 = some m.cls := findClass_of_methodNamed B.named
  have hlocks := B.notSynchronized
  subst hsz
  have hD1 := hD0.self (sz := s.heap.size)
  generalize hAe : va_A (cw a c S) s.heap.size = A at hD1 ⊢
  have hA : ∀ q : Nat, s.heap.size ≤ q → A q := fun q h => by rw [← hAe]; exact Or.inr h
  have hD : ∀ S2 : St, va_D A (cw a c S2) := gD cw_F hD1
  have hS : va_S A s.heap s.heap [] := va_S.rf
  have hinX3 : ∀ w ∈ wsX30, w ∈ wsX3_dealFrom := by decide +kernel
  have kMath := hts (.initialized "java/lang/Math") (by decide +kernel)
  have kdmax := hts (.code Lib.Math.max.name Lib.Math.max.code 2 (some .int)) (by decide +kernel)
  have kf18 := hts (.fieldLink RX3 18 "CanteenPlan$Menu" "ladleOf" "[I") (by decide +kernel)
  have kf21 := hts (.fieldLink RX3 21 "CanteenPlan$Menu" "meals" "I") (by decide +kernel)
  have km36 := hts (.methodLink RX3 36 Lib.Math.max.name) (by decide +kernel)
  have ksmax := hts (.static Lib.Math.max.name) (by decide +kernel)
  have hl := lv_entry ([.ref (a 1), .int p0, .int p1, .int p2]) (n := 5) (Nat.le_of_ble_eq_true rfl)
  rw [lg_entry_eq]
  generalize (lg_sl ([.ref (a 1), .int p0, .int p1, .int p2]) ++ List.replicate (5 - (lg_sl ([.ref (a 1), .int p0, .int p1, .int p2])).length) Slot.unset).toArray = ls at hl ⊢
  have hl : lv_has ls 5 [(0, .ref (a 1)), (1, .int p0), (2, .int p1), (3, .int p2)] := hl
  have hroom : (rmX3_dealFrom d).frames + 1 ≤ ((headSpec wsX3_dealFrom (rmX3_dealFrom (d + 1))).room).frames ∧ 8 + (5 + 11) + (rmX3_dealFrom d).locals ≤ ((headSpec wsX3_dealFrom (rmX3_dealFrom (d + 1))).room).locals := ⟨by simp only [headSpec, rmX3_dealFrom]; omega, by simp only [headSpec, rmX3_dealFrom]; omega⟩
  have key : ∀ n : Nat, (∀ (xl1 : Int32) (xl2 : Int32) (xl3 : Int32) (xl4 : Int32) (S : St) (H : Heap) (locs : List Loc) (ls : Array Slot), LX3_dealFrom (PX3_dealFrom d) post n xl1 xl2 xl3 xl4 S → va_P D vwCl (cw a c S) H → va_S A s.heap H locs → lv_has ls 5 [(0, .ref (a 1)), (1, .int xl1), (2, .int xl2), (3, .int xl3), (4, .int xl4)] → W p l e ((headSpec wsX3_dealFrom (rmX3_dealFrom (d + 1))).room) s m ([.ref (a 1), .int p0, .int p1, .int p2]).toArray below meth c9 H locs 0 0 (MQ below (va_Qi post (gB D (cw a c)) A) ([.ref (a 1), .int p0, .int p1, .int p2]).toArray s 0 0 A) (F0 m 13 ls [])) := by
    intro n
    induction n with
    | zero => exact fun xl1 xl2 xl3 xl4 S H locs ls h => h.elim
    | succ n ih =>
      intro xl1 xl2 xl3 xl4 S H locs ls h hP hS hl
      have h : BX3_dealFrom_0 (PX3_dealFrom d) (LX3_dealFrom (PX3_dealFrom d) post n) post xl1 xl2 xl3 xl4 S := h
      unfold BX3_dealFrom_0 at h
      refine lv_iload hx hb dX3_dealFrom_13 (lv_at hl 4 rfl) ?_
      refine lv_iload_n hx hb dX3_dealFrom_15 rfl (lv_at hl 2 rfl) ?_
      refine lv_icmp_gt (tgt := 70) hx hb dX3_dealFrom_16 (by decide) (fun c2 => ?_) (fun c2 => ?_)
      · have h := h.1 c2
        refine lv_iconst (v := 0) hx hb dX3_dealFrom_70 (by decide) ?_
        exact g_retz hx hb hr hlocks (Or.inl rfl) h hP hS dX3_dealFrom_71
      · have h := h.2 c2
        refine lv_iload hx hb dX3_dealFrom_19 (lv_at hl 4 rfl) ?_
        refine lv_iload_n hx hb dX3_dealFrom_21 rfl (lv_at hl 3 rfl) ?_
        refine lv_icmp_ge (tgt := 70) hx hb dX3_dealFrom_22 (by decide) (fun c3 => ?_) (fun c3 => ?_)
        · have h := h.1 c3
          refine lv_iconst (v := 0) hx hb dX3_dealFrom_70 (by decide) ?_
          exact g_retz hx hb hr hlocks (Or.inl rfl) h hP hS dX3_dealFrom_71
        · have h := h.2 c3
          refine lv_aload_n hx hb dX3_dealFrom_25 rfl (lv_at hl 0 rfl) ?_
          refine lv_iload_n hx hb dX3_dealFrom_26 rfl (lv_at hl 1 rfl) ?_
          refine lv_iload hx hb dX3_dealFrom_27 (lv_at hl 4 rfl) ?_
          obtain ⟨k6, h⟩ := h
          refine k_i (k_runV cns_ok ⟨hx, hb, hml, hown, hts⟩ (tX3_canTake l D a c _ k6 xl1 xl4 S _ h) (cwV 2 hts gX3_dealFrom_X3_canTake rfl rfl rfl (by decide +kernel) ⟨by show 1 + 1 ≤ 2 + (d + 1); omega, by show 8 + (4 + 11) + 22 ≤ 45 + 24 * (d + 1); omega⟩) (va_recv hK hP (ci := 3) (q0 := 1) rfl rfl) hP hK (hD S) hN rfl rfl hl.1 rfl (lv_room (Nat.le_of_ble_eq_true rfl)) dX3_dealFrom_29 ⟨Nat.le_refl _, Nat.le_refl _⟩) hS (hD S) hA (fun x5 S4 H locs h hP hS => ?_)
          refine lv_if_eq (tgt := 64) hx hb dX3_dealFrom_32 (by decide) (fun c7 => ?_) (fun c7 => ?_)
          · have h := h.1 c7
            obtain ⟨x8, ex8⟩ : ∃ y : Int32, y = xl4 + 1 := ⟨_, rfl⟩
            have h := h x8 ex8
            refine lv_iinc (v := x8) (lv' := [(4, .int x8), (0, .ref (a 1)), (1, .int xl1), (2, .int xl2), (3, .int xl3)]) hx hb dX3_dealFrom_64 hl (k := 4) rfl (by rw [ex8]; rfl) (by decide) rfl (fun ls hl => ?_)
            refine lv_goto (tgt := 13) hx hb dX3_dealFrom_67 (by decide) ?_
            exact (ih) xl1 xl2 xl3 x8 S4 _ _ _ h hP hS (lv_sub hl [1, 2, 3, 4, 0] rfl)
          · have h := h.2 c7
            refine lv_aload_n hx hb dX3_dealFrom_35 rfl (lv_at hl 0 rfl) ?_
            refine va_get (D := D) (ci := 3) (v := .ref (a 8)) (C := RX3) (T := TX3) (N := 4) hx hb hts hinX3 hown hK hP 1 rfl rfl 2 (by decide) kf18 (fun _ h9 => h9) rfl dX3_dealFrom_36 ?_
            refine lv_iload_n hx hb dX3_dealFrom_39 rfl (lv_at hl 1 rfl) ?_
            refine lv_iload hx hb dX3_dealFrom_40 (lv_at hl 4 rfl) ?_
            obtain ⟨b9, h⟩ := h
            refine va_iast hx hb hK hP (hD S4) hS 8 2 rfl rfl b9 dX3_dealFrom_42 (fun H locs hP _ hS => ?_)
            obtain ⟨S10, eS10⟩ : ∃ z : St, z = sR S4 2 (upd (S4.2.2 2) xl1.toNatClampNeg xl4) := ⟨_, rfl⟩
            have hP : va_P D vwCl (cw a c S10) H := by rw [eS10]; exact hP
            have h := h S10 eS10
            refine lv_aload_n hx hb dX3_dealFrom_43 rfl (lv_at hl 0 rfl) ?_
            refine lv_iload_n hx hb dX3_dealFrom_44 rfl (lv_at hl 1 rfl) ?_
            refine lv_iconst (v := 1) hx hb dX3_dealFrom_45 (by decide) ?_
            refine lv_iadd hx hb dX3_dealFrom_46 ?_
            refine lv_iload_n hx hb dX3_dealFrom_47 rfl (lv_at hl 2 rfl) ?_
            refine lv_iload hx hb dX3_dealFrom_48 (lv_at hl 4 rfl) ?_
            refine lv_iconst (v := 1) hx hb dX3_dealFrom_50 (by decide) ?_
            refine lv_iadd hx hb dX3_dealFrom_51 ?_
            refine va_mmax hx hb (hml.trans hl.1.symm) hown km36 ksmax kMath kdmax (Nat.le_of_ble_eq_true rfl) (Nat.le_of_ble_eq_true rfl) (Nat.le_of_ble_eq_true rfl) (Nat.le_of_ble_eq_true rfl) dX3_dealFrom_52 ?_
            refine lv_iload_n hx hb dX3_dealFrom_55 rfl (lv_at hl 3 rfl) ?_
            refine k_i (k_runV cns_ok ⟨hx, hb, hml, hown, hts⟩ (hrc (xl1 + 1) (if xl2 < (xl4 + 1) then (xl4 + 1) else xl2) xl3 S10 _ _ h) (cwV 3 hts gX3_dealFrom_X3_dealFrom rfl rfl rfl (by decide +kernel) hroom) (va_recv hK hP (ci := 3) (q0 := 1) rfl rfl) hP hK (hD S10) hN rfl rfl hl.1 rfl (lv_room (Nat.le_of_ble_eq_true rfl)) dX3_dealFrom_56 ⟨Nat.le_refl _, Nat.le_refl _⟩) hS (hD S10) hA (fun x12 S11 H locs h hP hS => ?_)
            refine lv_if_eq (tgt := 64) hx hb dX3_dealFrom_59 (by decide) (fun c13 => ?_) (fun c13 => ?_)
            · have h := h.1 c13
              obtain ⟨x14, ex14⟩ : ∃ y : Int32, y = xl4 + 1 := ⟨_, rfl⟩
              have h := h x14 ex14
              refine lv_iinc (v := x14) (lv' := [(4, .int x14), (0, .ref (a 1)), (1, .int xl1), (2, .int xl2), (3, .int xl3)]) hx hb dX3_dealFrom_64 hl (k := 4) rfl (by rw [ex14]; rfl) (by decide) rfl (fun ls hl => ?_)
              refine lv_goto (tgt := 13) hx hb dX3_dealFrom_67 (by decide) ?_
              exact (ih) xl1 xl2 xl3 x14 S11 _ _ _ h hP hS (lv_sub hl [1, 2, 3, 4, 0] rfl)
            · have h := h.2 c13
              refine lv_iconst (v := 1) hx hb dX3_dealFrom_62 (by decide) ?_
              exact g_retz hx hb hr hlocks (Or.inr rfl) h hP hS dX3_dealFrom_63
  obtain ⟨n, h⟩ : ∃ n, EX3_dealFrom (PX3_dealFrom d) n p0 p1 p2 S post := h
  unfold EX3_dealFrom at h
  refine lv_iload_n hx hb dX3_dealFrom_0 rfl (lv_at hl 1 rfl) ?_
  refine lv_aload_n hx hb dX3_dealFrom_1 rfl (lv_at hl 0 rfl) ?_
  refine va_get (D := D) (ci := 3) (v := .int (S.1 0)) (C := RX3) (T := TX3) (N := 4) hx hb hts hinX3 hown hK hP 1 rfl rfl 3 (by decide) kf21 (fun _ h9 => h9) rfl dX3_dealFrom_2 ?_
  refine lv_icmp_lt (tgt := 10) hx hb dX3_dealFrom_5 (by decide) (fun c1 => ?_) (fun c1 => ?_)
  · have h := h.1 c1
    refine lv_iconst (v := 0) hx hb dX3_dealFrom_10 (by decide) ?_
    refine lv_istore (lv' := [(4, .int 0), (0, .ref (a 1)), (1, .int p0), (2, .int p1), (3, .int p2)]) hx hb dX3_dealFrom_11 hl (by decide) rfl (fun ls hl => ?_)
    exact (key n) p0 p1 p2 0 S _ _ _ h hP hS (lv_sub hl [1, 2, 3, 4, 0] rfl)
  · have h := h.2 c1
    refine lv_iconst (v := 1) hx hb dX3_dealFrom_8 (by decide) ?_
    exact g_retz hx hb hr hlocks (Or.inr rfl) h hP hS dX3_dealFrom_9
def BX3_deal_0 (X : Nat → Int32 → St → Prop) (post : Int32 → St → Prop) (xl1 : Int32) (S : St) : Prop := (((S.1 0) ≤ xl1 → X 1 0 S) ∧ (¬ (S.1 0) ≤ xl1 → PX3_canMeet xl1 xl1 S (fun x3 S2 => ((x3 = 0 → post (-1) S2) ∧ (¬ x3 = 0 → ∀ x5 : Int32, x5 = xl1 + 1 → X 0 x5 S2)))))
def BX3_deal_1 (X : Nat → Int32 → St → Prop) (post : Int32 → St → Prop) (xl1 : Int32) (S : St) : Prop := (((S.1 0) < xl1 → post (-1) S) ∧ (¬ (S.1 0) < xl1 → PX3_dealFrom 8 0 0 xl1 S (fun x8 S7 => ((x8 = 0 → ∀ x10 : Int32, x10 = xl1 + 1 → X 1 x10 S7) ∧ (¬ x8 = 0 → post xl1 S7)))))
def LX3_deal (post : Int32 → St → Prop) : Nat → Nat → Int32 → St → Prop
  | 0, _, _, _ => False
  | n + 1, 0, xl1, S => BX3_deal_0 (LX3_deal post n) post xl1 S
  | n + 1, 1, xl1, S => BX3_deal_1 (LX3_deal post n) post xl1 S
  | _ + 1, _ + 2, _, _ => False
def PX3_deal (n : Nat)  (S : St) (post : Int32 → St → Prop) : Prop := LX3_deal post n 0 0 S
set_option maxHeartbeats 4000000 in
set_option maxRecDepth 100000 in
theorem tX3_deal (l : Launch) (D : va_G) (a : Nat → Nat) (c : Nat → ClassId) (sz : Nat) (n : Nat)  (S : St) (post : Int32 → St → Prop) (h : PX3_deal n  S post) : Met l yX3_deal wsX3_deal ({ frames := 11, cells := 0, slots := 0, locals := 261 }) (va_Pc [.ref (a 1)] (gP D (cw a c) (cty c) cns S sz)) (va_Qi post (gB D (cw a c)) (va_A (cw a c S) sz)) 0 0 (va_A (cw a c S) sz) := by
  refine Met.ofW (cc := cX3_deal) (maxL := 2) (ret := (some .int)) (by decide) rfl ?_
  intro p e s m args below meth c9 s₁ B hml hv
  obtain ⟨rfl, hsz, hP, hK, hD0, hN⟩ := hv
  have hx := B.exec
  have hb := B.bytes
  have hr := B.returns
  have hts := atoms_spec (ws := wsX3_deal) B.pre
  have hown : s.vm.findClass RX3 = some m.cls := findClass_of_methodNamed B.named
  have hlocks := B.notSynchronized
  subst hsz
  have hD1 := hD0.self (sz := s.heap.size)
  generalize hAe : va_A (cw a c S) s.heap.size = A at hD1 ⊢
  have hA : ∀ q : Nat, s.heap.size ≤ q → A q := fun q h => by rw [← hAe]; exact Or.inr h
  have hD : ∀ S2 : St, va_D A (cw a c S2) := gD cw_F hD1
  have hS : va_S A s.heap s.heap [] := va_S.rf
  have hinX3 : ∀ w ∈ wsX30, w ∈ wsX3_deal := by decide +kernel
  have kf21 := hts (.fieldLink RX3 21 "CanteenPlan$Menu" "meals" "I") (by decide +kernel)
  have hl := lv_entry ([.ref (a 1)]) (n := 2) (Nat.le_of_ble_eq_true rfl)
  rw [lg_entry_eq]
  generalize (lg_sl ([.ref (a 1)]) ++ List.replicate (2 - (lg_sl ([.ref (a 1)])).length) Slot.unset).toArray = ls at hl ⊢
  have hl : lv_has ls 2 [(0, .ref (a 1))] := hl
  have key : ∀ n : Nat, (∀ (xl1 : Int32) (S : St) (H : Heap) (locs : List Loc) (ls : Array Slot), LX3_deal post n 0 xl1 S → va_P D vwCl (cw a c S) H → va_S A s.heap H locs → lv_has ls 2 [(0, .ref (a 1)), (1, .int xl1)] → W p l e ((headSpec wsX3_deal ({ frames := 11, cells := 0, slots := 0, locals := 261 })).room) s m ([.ref (a 1)]).toArray below meth c9 H locs 0 0 (MQ below (va_Qi post (gB D (cw a c)) A) ([.ref (a 1)]).toArray s 0 0 A) (F0 m 2 ls [])) ∧ (∀ (xl1 : Int32) (S : St) (H : Heap) (locs : List Loc) (ls : Array Slot), LX3_deal post n 1 xl1 S → va_P D vwCl (cw a c S) H → va_S A s.heap H locs → lv_has ls 2 [(0, .ref (a 1)), (1, .int xl1)] → W p l e ((headSpec wsX3_deal ({ frames := 11, cells := 0, slots := 0, locals := 261 })).room) s m ([.ref (a 1)]).toArray below meth c9 H locs 0 0 (MQ below (va_Qi post (gB D (cw a c)) A) ([.ref (a 1)]).toArray s 0 0 A) (F0 m 29 ls [])) := by
    intro n
    induction n with
    | zero => exact ⟨fun xl1 S H locs ls h => h.elim, fun xl1 S H locs ls h => h.elim⟩
    | succ n ih =>
      refine ⟨?_, ?_⟩
      · intro xl1 S H locs ls h hP hS hl
        have h : BX3_deal_0 (LX3_deal post n) post xl1 S := h
        unfold BX3_deal_0 at h
        refine lv_iload_n hx hb dX3_deal_2 rfl (lv_at hl 1 rfl) ?_
        refine lv_aload_n hx hb dX3_deal_3 rfl (lv_at hl 0 rfl) ?_
        refine va_get (D := D) (ci := 3) (v := .int (S.1 0)) (C := RX3) (T := TX3) (N := 4) hx hb hts hinX3 hown hK hP 1 rfl rfl 3 (by decide) kf21 (fun _ h9 => h9) rfl dX3_deal_4 ?_
        refine lv_icmp_ge (tgt := 27) hx hb dX3_deal_7 (by decide) (fun c1 => ?_) (fun c1 => ?_)
        · have h := h.1 c1
          refine lv_iconst (v := 0) hx hb dX3_deal_27 (by decide) ?_
          refine lv_istore_n (lv' := [(1, .int 0), (0, .ref (a 1))]) hx hb dX3_deal_28 rfl hl (by decide) rfl (fun ls hl => ?_)
          exact (ih).2 0 S _ _ _ h hP hS (lv_sub hl [1, 0] rfl)
        · have h := h.2 c1
          refine lv_aload_n hx hb dX3_deal_10 rfl (lv_at hl 0 rfl) ?_
          refine lv_iload_n hx hb dX3_deal_11 rfl (lv_at hl 1 rfl) ?_
          refine lv_iload_n hx hb dX3_deal_12 rfl (lv_at hl 1 rfl) ?_
          refine k_i (k_runV cns_ok ⟨hx, hb, hml, hown, hts⟩ (tX3_canMeet l D a c _ xl1 xl1 S _ h) (cwV 2 hts gX3_deal_X3_canMeet rfl rfl rfl (by decide +kernel) ⟨Nat.le_of_ble_eq_true rfl, Nat.le_of_ble_eq_true rfl⟩) (va_recv hK hP (ci := 3) (q0 := 1) rfl rfl) hP hK (hD S) hN rfl rfl hl.1 rfl (lv_room (Nat.le_of_ble_eq_true rfl)) dX3_deal_13 ⟨Nat.le_of_ble_eq_true rfl, Nat.le_of_ble_eq_true rfl⟩) hS (hD S) hA (fun x3 S2 H locs h hP hS => ?_)
          refine lv_if_ne (tgt := 21) hx hb dX3_deal_16 (by decide) (fun c4 => ?_) (fun c4 => ?_)
          · have h := h.2 c4
            obtain ⟨x5, ex5⟩ : ∃ y : Int32, y = xl1 + 1 := ⟨_, rfl⟩
            have h := h x5 ex5
            refine lv_iinc (v := x5) (lv' := [(1, .int x5), (0, .ref (a 1))]) hx hb dX3_deal_21 hl (k := 1) rfl (by rw [ex5]; rfl) (by decide) rfl (fun ls hl => ?_)
            refine lv_goto (tgt := 2) hx hb dX3_deal_24 (by decide) ?_
            exact (ih).1 x5 S2 _ _ _ h hP hS (lv_sub hl [1, 0] rfl)
          · have h := h.1 c4
            refine lv_iconst (v := (-1)) hx hb dX3_deal_19 (by decide) ?_
            exact g_reti hx hb hr hlocks h hP hS dX3_deal_20
      · intro xl1 S H locs ls h hP hS hl
        have h : BX3_deal_1 (LX3_deal post n) post xl1 S := h
        unfold BX3_deal_1 at h
        refine lv_iload_n hx hb dX3_deal_29 rfl (lv_at hl 1 rfl) ?_
        refine lv_aload_n hx hb dX3_deal_30 rfl (lv_at hl 0 rfl) ?_
        refine va_get (D := D) (ci := 3) (v := .int (S.1 0)) (C := RX3) (T := TX3) (N := 4) hx hb hts hinX3 hown hK hP 1 rfl rfl 3 (by decide) kf21 (fun _ h9 => h9) rfl dX3_deal_31 ?_
        refine lv_icmp_gt (tgt := 55) hx hb dX3_deal_34 (by decide) (fun c6 => ?_) (fun c6 => ?_)
        · have h := h.1 c6
          refine lv_iconst (v := (-1)) hx hb dX3_deal_55 (by decide) ?_
          exact g_reti hx hb hr hlocks h hP hS dX3_deal_56
        · have h := h.2 c6
          refine lv_aload_n hx hb dX3_deal_37 rfl (lv_at hl 0 rfl) ?_
          refine lv_iconst (v := 0) hx hb dX3_deal_38 (by decide) ?_
          refine lv_iconst (v := 0) hx hb dX3_deal_39 (by decide) ?_
          refine lv_iload_n hx hb dX3_deal_40 rfl (lv_at hl 1 rfl) ?_
          refine k_i (k_runV cns_ok ⟨hx, hb, hml, hown, hts⟩ (tX3_dealFrom l D a c 8 _ 0 0 xl1 S _ h) (cwV 3 hts gX3_deal_X3_dealFrom rfl rfl rfl (by decide +kernel) ⟨Nat.le_of_ble_eq_true rfl, Nat.le_of_ble_eq_true rfl⟩) (va_recv hK hP (ci := 3) (q0 := 1) rfl rfl) hP hK (hD S) hN rfl rfl hl.1 rfl (lv_room (Nat.le_of_ble_eq_true rfl)) dX3_deal_41 ⟨Nat.le_of_ble_eq_true rfl, Nat.le_of_ble_eq_true rfl⟩) hS (hD S) hA (fun x8 S7 H locs h hP hS => ?_)
          refine lv_if_eq (tgt := 49) hx hb dX3_deal_44 (by decide) (fun c9 => ?_) (fun c9 => ?_)
          · have h := h.1 c9
            obtain ⟨x10, ex10⟩ : ∃ y : Int32, y = xl1 + 1 := ⟨_, rfl⟩
            have h := h x10 ex10
            refine lv_iinc (v := x10) (lv' := [(1, .int x10), (0, .ref (a 1))]) hx hb dX3_deal_49 hl (k := 1) rfl (by rw [ex10]; rfl) (by decide) rfl (fun ls hl => ?_)
            refine lv_goto (tgt := 29) hx hb dX3_deal_52 (by decide) ?_
            exact (ih).2 x10 S7 _ _ _ h hP hS (lv_sub hl [1, 0] rfl)
          · have h := h.2 c9
            refine lv_iload_n hx hb dX3_deal_47 rfl (lv_at hl 1 rfl) ?_
            exact g_reti hx hb hr hlocks h hP hS dX3_deal_48
  unfold PX3_deal at h
  refine lv_iconst (v := 0) hx hb dX3_deal_0 (by decide) ?_
  refine lv_istore_n (lv' := [(1, .int 0), (0, .ref (a 1))]) hx hb dX3_deal_1 rfl hl (by decide) rfl (fun ls hl => ?_)
  exact (key n).1 0 S _ _ _ h hP hS (lv_sub hl [1, 0] rfl)
def PX0_tell (p0 : Int32) (p1 : Int32) (S : St) (post : Int32 → St → Prop) : Prop := (vp_in p0 6 ∧ ∀ x2 : Int32, x2 = (S.2.2 3 p0.toNatClampNeg) → (vp_in p0 6 ∧ ∀ S4 : St, S4 = sR S 3 (upd (S.2.2 3) p0.toNatClampNeg p1) → post x2 S4))
set_option maxHeartbeats 4000000 in
set_option maxRecDepth 100000 in
theorem tX0_tell (l : Launch) (D : va_G) (a : Nat → Nat) (c : Nat → ClassId) (sz : Nat) (p0 : Int32) (p1 : Int32) (S : St) (post : Int32 → St → Prop) (h : PX0_tell p0 p1 S post) : Met l yX0_tell wsX0_tell ({ frames := 0, cells := 0, slots := 0, locals := 0 }) (va_Pc [.ref (a 2), .int p0, .int p1] (gP D (cw a c) (cty c) cns S sz)) (va_Qi post (gB D (cw a c)) (va_A (cw a c S) sz)) 0 0 (va_A (cw a c S) sz) := by
  refine Met.ofW (cc := cX0_tell) (maxL := 4) (ret := (some .int)) (by decide) rfl ?_
  intro p e s m args below meth c9 s₁ B hml hv
  obtain ⟨rfl, hsz, hP, hK, hD0, hN⟩ := hv
  have hx := B.exec
  have hb := B.bytes
  have hr := B.returns
  have hts := atoms_spec (ws := wsX0_tell) B.pre
  have hown : s.vm.findClass RX0 = some m.cls := findClass_of_methodNamed B.named
  have hlocks := B.notSynchronized
  subst hsz
  have hD1 := hD0.self (sz := s.heap.size)
  generalize hAe : va_A (cw a c S) s.heap.size = A at hD1 ⊢
  have hA : ∀ q : Nat, s.heap.size ≤ q → A q := fun q h => by rw [← hAe]; exact Or.inr h
  have hD : ∀ S2 : St, va_D A (cw a c S2) := gD cw_F hD1
  have hS : va_S A s.heap s.heap [] := va_S.rf
  have hinX0 : ∀ w ∈ wsX00, w ∈ wsX0_tell := by decide +kernel
  have kf9 := hts (.fieldLink RX0 9 "CanteenPlan$Diary" "told" "[I") (by decide +kernel)
  have hl := lv_entry ([.ref (a 2), .int p0, .int p1]) (n := 4) (Nat.le_of_ble_eq_true rfl)
  rw [lg_entry_eq]
  generalize (lg_sl ([.ref (a 2), .int p0, .int p1]) ++ List.replicate (4 - (lg_sl ([.ref (a 2), .int p0, .int p1])).length) Slot.unset).toArray = ls at hl ⊢
  have hl : lv_has ls 4 [(0, .ref (a 2)), (1, .int p0), (2, .int p1)] := hl
  unfold PX0_tell at h
  refine lv_aload_n hx hb dX0_tell_0 rfl (lv_at hl 0 rfl) ?_
  refine va_get (D := D) (ci := 0) (v := .ref (a 9)) (C := RX0) (T := TX0) (N := 7) hx hb hts hinX0 hown hK hP 2 rfl rfl 0 (by decide) kf9 (fun _ h9 => h9) rfl dX0_tell_1 ?_
  refine lv_iload_n hx hb dX0_tell_4 rfl (lv_at hl 1 rfl) ?_
  obtain ⟨b1, h⟩ := h
  refine va_iald hx hb hK hP 9 3 rfl rfl b1 dX0_tell_5 ?_
  refine lv_topi (fun x2 ex2 => ?_)
  have h := h x2 ex2
  refine lv_istore_n (lv' := [(3, .int x2), (0, .ref (a 2)), (1, .int p0), (2, .int p1)]) hx hb dX0_tell_6 rfl hl (by decide) rfl (fun ls hl => ?_)
  refine lv_aload_n hx hb dX0_tell_7 rfl (lv_at hl 1 rfl) ?_
  refine va_get (D := D) (ci := 0) (v := .ref (a 9)) (C := RX0) (T := TX0) (N := 7) hx hb hts hinX0 hown hK hP 2 rfl rfl 0 (by decide) kf9 (fun _ h9 => h9) rfl dX0_tell_8 ?_
  refine lv_iload_n hx hb dX0_tell_11 rfl (lv_at hl 2 rfl) ?_
  refine lv_iload_n hx hb dX0_tell_12 rfl (lv_at hl 3 rfl) ?_
  obtain ⟨b3, h⟩ := h
  refine va_iast hx hb hK hP (hD S) hS 9 3 rfl rfl b3 dX0_tell_13 (fun H locs hP _ hS => ?_)
  obtain ⟨S4, eS4⟩ : ∃ z : St, z = sR S 3 (upd (S.2.2 3) p0.toNatClampNeg p1) := ⟨_, rfl⟩
  have hP : va_P D vwCl (cw a c S4) H := by rw [eS4]; exact hP
  have h := h S4 eS4
  refine lv_iload_n hx hb dX0_tell_14 rfl (lv_at hl 0 rfl) ?_
  exact g_reti hx hb hr hlocks h hP hS dX0_tell_15
def BX0_add_0 (X : Int32 → St → Prop) (post : Int32 → St → Prop) (xl2 : Int32) (S : St) : Prop := ((6 ≤ xl2 → ∀ S4 : St, S4 = sI S 1 ((S.1 1) + 1) → post ((S4.1 1) - 1) S4) ∧ (¬ 6 ≤ xl2 → (vp_in xl2 6 ∧ (vp_in (((S.1 1) * 6) + xl2) 900 ∧ ∀ S7 : St, S7 = sR S 6 (upd (S.2.2 6) (((S.1 1) * 6) + xl2).toNatClampNeg (S.2.2 3 xl2.toNatClampNeg)) → (vp_in xl2 6 ∧ ∀ S9 : St, S9 = sR S7 3 (upd (S7.2.2 3) xl2.toNatClampNeg 0) → ∀ x10 : Int32, x10 = xl2 + 1 → X x10 S9)))))
def LX0_add (post : Int32 → St → Prop) : Nat → Int32 → St → Prop
  | 0, _, _ => False
  | n + 1, xl2, S => BX0_add_0 (LX0_add post n) post xl2 S
def PX0_add (n : Nat) (p0 : Int32) (S : St) (post : Int32 → St → Prop) : Prop := (vp_in (S.1 1) 150 ∧ ∀ S2 : St, S2 = sR S 4 (upd (S.2.2 4) (S.1 1).toNatClampNeg p0) → LX0_add post n 0 S2)
set_option maxHeartbeats 4000000 in
set_option maxRecDepth 100000 in
theorem tX0_add (l : Launch) (D : va_G) (a : Nat → Nat) (c : Nat → ClassId) (sz : Nat) (n : Nat) (p0 : Int32) (S : St) (post : Int32 → St → Prop) (h : PX0_add n p0 S post) : Met l yX0_add wsX0_add ({ frames := 0, cells := 0, slots := 0, locals := 0 }) (va_Pc [.ref (a 2), .int p0] (gP D (cw a c) (cty c) cns S sz)) (va_Qi post (gB D (cw a c)) (va_A (cw a c S) sz)) 0 0 (va_A (cw a c S) sz) := by
  refine Met.ofW (cc := cX0_add) (maxL := 3) (ret := (some .int)) (by decide) rfl ?_
  intro p e s m args below meth c9 s₁ B hml hv
  obtain ⟨rfl, hsz, hP, hK, hD0, hN⟩ := hv
  have hx := B.exec
  have hb := B.bytes
  have hr := B.returns
  have hts := atoms_spec (ws := wsX0_add) B.pre
  have hown : s.vm.findClass RX0 = some m.cls := findClass_of_methodNamed B.named
  have hlocks := B.notSynchronized
  subst hsz
  have hD1 := hD0.self (sz := s.heap.size)
  generalize hAe : va_A (cw a c S) s.heap.size = A at hD1 ⊢
  have hA : ∀ q : Nat, s.heap.size ≤ q → A q := fun q h => by rw [← hAe]; exact Or.inr h
  have hD : ∀ S2 : St, va_D A (cw a c S2) := gD cw_F hD1
  have hS : va_S A s.heap s.heap [] := va_S.rf
  have hinX0 : ∀ w ∈ wsX00, w ∈ wsX0_add := by decide +kernel
  have kf15 := hts (.fieldLink RX0 15 "CanteenPlan$Diary" "marksOf" "[I") (by decide +kernel)
  have kf22 := hts (.fieldLink RX0 22 "CanteenPlan$Diary" "eaten" "[I") (by decide +kernel)
  have kf28 := hts (.fieldLink RX0 28 "CanteenPlan$Diary" "inAll" "I") (by decide +kernel)
  have kf9 := hts (.fieldLink RX0 9 "CanteenPlan$Diary" "told" "[I") (by decide +kernel)
  have hl := lv_entry ([.ref (a 2), .int p0]) (n := 3) (Nat.le_of_ble_eq_true rfl)
  rw [lg_entry_eq]
  generalize (lg_sl ([.ref (a 2), .int p0]) ++ List.replicate (3 - (lg_sl ([.ref (a 2), .int p0])).length) Slot.unset).toArray = ls at hl ⊢
  have hl : lv_has ls 3 [(0, .ref (a 2)), (1, .int p0)] := hl
  have key : ∀ n : Nat, (∀ (xl2 : Int32) (S : St) (H : Heap) (locs : List Loc) (ls : Array Slot), LX0_add post n xl2 S → va_P D vwCl (cw a c S) H → va_S A s.heap H locs → lv_has ls 3 [(0, .ref (a 2)), (2, .int xl2)] → W p l e ((headSpec wsX0_add ({ frames := 0, cells := 0, slots := 0, locals := 0 })).room) s m ([.ref (a 2), .int p0]).toArray below meth c9 H locs 0 0 (MQ below (va_Qi post (gB D (cw a c)) A) ([.ref (a 2), .int p0]).toArray s 0 0 A) (F0 m 12 ls [])) := by
    intro n
    induction n with
    | zero => exact fun xl2 S H locs ls h => h.elim
    | succ n ih =>
      intro xl2 S H locs ls h hP hS hl
      have h : BX0_add_0 (LX0_add post n) post xl2 S := h
      unfold BX0_add_0 at h
      refine lv_iload_n hx hb dX0_add_12 rfl (lv_at hl 1 rfl) ?_
      refine lv_bipush (v := 6) hx hb dX0_add_13 (by decide) ?_
      refine lv_icmp_ge (tgt := 51) hx hb dX0_add_15 (by decide) (fun c3 => ?_) (fun c3 => ?_)
      · have h := h.1 c3
        refine lv_aload_n hx hb dX0_add_51 rfl (lv_at hl 0 rfl) ?_
        refine lv_dup hx hb dX0_add_52 rfl ?_
        refine va_get (D := D) (ci := 0) (v := .int (S.1 1)) (C := RX0) (T := TX0) (N := 7) hx hb hts hinX0 hown hK hP 2 rfl rfl 5 (by decide) kf28 (fun _ h9 => h9) rfl dX0_add_53 ?_
        refine lv_iconst (v := 1) hx hb dX0_add_56 (by decide) ?_
        refine lv_iadd hx hb dX0_add_57 ?_
        refine va_put (D := D) (ci := 0) (v := .int ((S.1 1) + 1)) (ty := .int) (C := RX0) (T := TX0) (N := 7) hx hb hts hinX0 tyX0 tyX0_ok nmX0 hown hK hP (hD S) hS 2 rfl rfl 5 (by decide) kf28 (fun _ h9 => h9) rfl (by decide +kernel) rfl rfl (Nat.le_of_ble_eq_true rfl) dX0_add_58 (fun H locs hP _ hS => ?_)
        obtain ⟨S4, eS4⟩ : ∃ z : St, z = sI S 1 ((S.1 1) + 1) := ⟨_, rfl⟩
        have hP : va_P D vwCl (cw a c S4) H := by rw [eS4]; exact hP
        have h := h S4 eS4
        refine lv_aload_n hx hb dX0_add_61 rfl (lv_at hl 0 rfl) ?_
        refine va_get (D := D) (ci := 0) (v := .int (S4.1 1)) (C := RX0) (T := TX0) (N := 7) hx hb hts hinX0 hown hK hP 2 rfl rfl 5 (by decide) kf28 (fun _ h9 => h9) rfl dX0_add_62 ?_
        refine lv_iconst (v := 1) hx hb dX0_add_65 (by decide) ?_
        refine lv_isub hx hb dX0_add_66 ?_
        exact g_reti hx hb hr hlocks h hP hS dX0_add_67
      · have h := h.2 c3
        refine lv_aload_n hx hb dX0_add_18 rfl (lv_at hl 0 rfl) ?_
        refine va_get (D := D) (ci := 0) (v := .ref (a 12)) (C := RX0) (T := TX0) (N := 7) hx hb hts hinX0 hown hK hP 2 rfl rfl 3 (by decide) kf22 (fun _ h9 => h9) rfl dX0_add_19 ?_
        refine lv_aload_n hx hb dX0_add_22 rfl (lv_at hl 0 rfl) ?_
        refine va_get (D := D) (ci := 0) (v := .int (S.1 1)) (C := RX0) (T := TX0) (N := 7) hx hb hts hinX0 hown hK hP 2 rfl rfl 5 (by decide) kf28 (fun _ h9 => h9) rfl dX0_add_23 ?_
        refine lv_bipush (v := 6) hx hb dX0_add_26 (by decide) ?_
        refine lv_imul hx hb dX0_add_28 ?_
        refine lv_iload_n hx hb dX0_add_29 rfl (lv_at hl 1 rfl) ?_
        refine lv_iadd hx hb dX0_add_30 ?_
        refine lv_aload_n hx hb dX0_add_31 rfl (lv_at hl 0 rfl) ?_
        refine va_get (D := D) (ci := 0) (v := .ref (a 9)) (C := RX0) (T := TX0) (N := 7) hx hb hts hinX0 hown hK hP 2 rfl rfl 0 (by decide) kf9 (fun _ h9 => h9) rfl dX0_add_32 ?_
        refine lv_iload_n hx hb dX0_add_35 rfl (lv_at hl 1 rfl) ?_
        obtain ⟨b5, h⟩ := h
        refine va_iald hx hb hK hP 9 3 rfl rfl b5 dX0_add_36 ?_
        obtain ⟨b6, h⟩ := h
        refine va_iast hx hb hK hP (hD S) hS 12 6 rfl rfl b6 dX0_add_37 (fun H locs hP _ hS => ?_)
        obtain ⟨S7, eS7⟩ : ∃ z : St, z = sR S 6 (upd (S.2.2 6) (((S.1 1) * 6) + xl2).toNatClampNeg (S.2.2 3 xl2.toNatClampNeg)) := ⟨_, rfl⟩
        have hP : va_P D vwCl (cw a c S7) H := by rw [eS7]; exact hP
        have h := h S7 eS7
        refine lv_aload_n hx hb dX0_add_38 rfl (lv_at hl 0 rfl) ?_
        refine va_get (D := D) (ci := 0) (v := .ref (a 9)) (C := RX0) (T := TX0) (N := 7) hx hb hts hinX0 hown hK hP 2 rfl rfl 0 (by decide) kf9 (fun _ h9 => h9) rfl dX0_add_39 ?_
        refine lv_iload_n hx hb dX0_add_42 rfl (lv_at hl 1 rfl) ?_
        refine lv_iconst (v := 0) hx hb dX0_add_43 (by decide) ?_
        obtain ⟨b8, h⟩ := h
        refine va_iast hx hb hK hP (hD S7) hS 9 3 rfl rfl b8 dX0_add_44 (fun H locs hP _ hS => ?_)
        obtain ⟨S9, eS9⟩ : ∃ z : St, z = sR S7 3 (upd (S7.2.2 3) xl2.toNatClampNeg 0) := ⟨_, rfl⟩
        have hP : va_P D vwCl (cw a c S9) H := by rw [eS9]; exact hP
        have h := h S9 eS9
        obtain ⟨x10, ex10⟩ : ∃ y : Int32, y = xl2 + 1 := ⟨_, rfl⟩
        have h := h x10 ex10
        refine lv_iinc (v := x10) (lv' := [(2, .int x10), (0, .ref (a 2))]) hx hb dX0_add_45 hl (k := 1) rfl (by rw [ex10]; rfl) (by decide) rfl (fun ls hl => ?_)
        refine lv_goto (tgt := 12) hx hb dX0_add_48 (by decide) ?_
        exact (ih) x10 S9 _ _ _ h hP hS (lv_sub hl [1, 0] rfl)
  unfold PX0_add at h
  refine lv_aload_n hx hb dX0_add_0 rfl (lv_at hl 0 rfl) ?_
  refine va_get (D := D) (ci := 0) (v := .ref (a 10)) (C := RX0) (T := TX0) (N := 7) hx hb hts hinX0 hown hK hP 2 rfl rfl 1 (by decide) kf15 (fun _ h9 => h9) rfl dX0_add_1 ?_
  refine lv_aload_n hx hb dX0_add_4 rfl (lv_at hl 0 rfl) ?_
  refine va_get (D := D) (ci := 0) (v := .int (S.1 1)) (C := RX0) (T := TX0) (N := 7) hx hb hts hinX0 hown hK hP 2 rfl rfl 5 (by decide) kf28 (fun _ h9 => h9) rfl dX0_add_5 ?_
  refine lv_iload_n hx hb dX0_add_8 rfl (lv_at hl 1 rfl) ?_
  obtain ⟨b1, h⟩ := h
  refine va_iast hx hb hK hP (hD S) hS 10 4 rfl rfl b1 dX0_add_9 (fun H locs hP _ hS => ?_)
  obtain ⟨S2, eS2⟩ : ∃ z : St, z = sR S 4 (upd (S.2.2 4) (S.1 1).toNatClampNeg p0) := ⟨_, rfl⟩
  have hP : va_P D vwCl (cw a c S2) H := by rw [eS2]; exact hP
  have h := h S2 eS2
  refine lv_iconst (v := 0) hx hb dX0_add_10 (by decide) ?_
  refine lv_istore_n (lv' := [(2, .int 0), (0, .ref (a 2)), (1, .int p0)]) hx hb dX0_add_11 rfl hl (by decide) rfl (fun ls hl => ?_)
  exact (key n) 0 S2 _ _ _ h hP hS (lv_sub hl [1, 0] rfl)
def PX0_takeAway (p0 : Int32) (S : St) (post : Int32 → St → Prop) : Prop := (vp_in p0 150 ∧ (((S.2.2 5 p0.toNatClampNeg) = 0 → (vp_in p0 150 ∧ ∀ S4 : St, S4 = sR S 5 (upd (S.2.2 5) p0.toNatClampNeg (vp_nar .boolean 1)) → ∀ S5 : St, S5 = sI S4 2 ((S4.1 2) + 1) → post 1 S5)) ∧ (¬ (S.2.2 5 p0.toNatClampNeg) = 0 → post 0 S)))
set_option maxHeartbeats 4000000 in
set_option maxRecDepth 100000 in
theorem tX0_takeAway (l : Launch) (D : va_G) (a : Nat → Nat) (c : Nat → ClassId) (sz : Nat) (p0 : Int32) (S : St) (post : Int32 → St → Prop) (h : PX0_takeAway p0 S post) : Met l yX0_takeAway wsX0_takeAway ({ frames := 0, cells := 0, slots := 0, locals := 0 }) (va_Pc [.ref (a 2), .int p0] (gP D (cw a c) (cty c) cns S sz)) (va_Qi post (gB D (cw a c)) (va_A (cw a c S) sz)) 0 0 (va_A (cw a c S) sz) := by
  refine Met.ofW (cc := cX0_takeAway) (maxL := 2) (ret := (some .boolean)) (by decide) rfl ?_
  intro p e s m args below meth c9 s₁ B hml hv
  obtain ⟨rfl, hsz, hP, hK, hD0, hN⟩ := hv
  have hx := B.exec
  have hb := B.bytes
  have hr := B.returns
  have hts := atoms_spec (ws := wsX0_takeAway) B.pre
  have hown : s.vm.findClass RX0 = some m.cls := findClass_of_methodNamed B.named
  have hlocks := B.notSynchronized
  subst hsz
  have hD1 := hD0.self (sz := s.heap.size)
  generalize hAe : va_A (cw a c S) s.heap.size = A at hD1 ⊢
  have hA : ∀ q : Nat, s.heap.size ≤ q → A q := fun q h => by rw [← hAe]; exact Or.inr h
  have hD : ∀ S2 : St, va_D A (cw a c S2) := gD cw_F hD1
  have hS : va_S A s.heap s.heap [] := va_S.rf
  have hinX0 : ∀ w ∈ wsX00, w ∈ wsX0_takeAway := by decide +kernel
  have kf18 := hts (.fieldLink RX0 18 "CanteenPlan$Diary" "isAway" "[Z") (by decide +kernel)
  have kf32 := hts (.fieldLink RX0 32 "CanteenPlan$Diary" "away" "I") (by decide +kernel)
  have hl := lv_entry ([.ref (a 2), .int p0]) (n := 2) (Nat.le_of_ble_eq_true rfl)
  rw [lg_entry_eq]
  generalize (lg_sl ([.ref (a 2), .int p0]) ++ List.replicate (2 - (lg_sl ([.ref (a 2), .int p0])).length) Slot.unset).toArray = ls at hl ⊢
  have hl : lv_has ls 2 [(0, .ref (a 2)), (1, .int p0)] := hl
  unfold PX0_takeAway at h
  refine lv_aload_n hx hb dX0_takeAway_0 rfl (lv_at hl 0 rfl) ?_
  refine va_get (D := D) (ci := 0) (v := .ref (a 11)) (C := RX0) (T := TX0) (N := 7) hx hb hts hinX0 hown hK hP 2 rfl rfl 2 (by decide) kf18 (fun _ h9 => h9) rfl dX0_takeAway_1 ?_
  refine lv_iload_n hx hb dX0_takeAway_4 rfl (lv_at hl 1 rfl) ?_
  obtain ⟨b1, h⟩ := h
  refine va_zald hx hb hK hP 11 5 rfl rfl b1 dX0_takeAway_5 ?_
  refine lv_if_eq (tgt := 11) hx hb dX0_takeAway_6 (by decide) (fun c2 => ?_) (fun c2 => ?_)
  · have h := h.1 c2
    refine lv_aload_n hx hb dX0_takeAway_11 rfl (lv_at hl 0 rfl) ?_
    refine va_get (D := D) (ci := 0) (v := .ref (a 11)) (C := RX0) (T := TX0) (N := 7) hx hb hts hinX0 hown hK hP 2 rfl rfl 2 (by decide) kf18 (fun _ h9 => h9) rfl dX0_takeAway_12 ?_
    refine lv_iload_n hx hb dX0_takeAway_15 rfl (lv_at hl 1 rfl) ?_
    refine lv_iconst (v := 1) hx hb dX0_takeAway_16 (by decide) ?_
    obtain ⟨b3, h⟩ := h
    refine va_zast hx hb hK hP (hD S) hS 11 5 rfl rfl b3 dX0_takeAway_17 (fun H locs hP _ hS => ?_)
    obtain ⟨S4, eS4⟩ : ∃ z : St, z = sR S 5 (upd (S.2.2 5) p0.toNatClampNeg (vp_nar .boolean 1)) := ⟨_, rfl⟩
    have hP : va_P D vwCl (cw a c S4) H := by rw [eS4]; exact hP
    have h := h S4 eS4
    refine lv_aload_n hx hb dX0_takeAway_18 rfl (lv_at hl 0 rfl) ?_
    refine lv_dup hx hb dX0_takeAway_19 rfl ?_
    refine va_get (D := D) (ci := 0) (v := .int (S4.1 2)) (C := RX0) (T := TX0) (N := 7) hx hb hts hinX0 hown hK hP 2 rfl rfl 6 (by decide) kf32 (fun _ h9 => h9) rfl dX0_takeAway_20 ?_
    refine lv_iconst (v := 1) hx hb dX0_takeAway_23 (by decide) ?_
    refine lv_iadd hx hb dX0_takeAway_24 ?_
    refine va_put (D := D) (ci := 0) (v := .int ((S4.1 2) + 1)) (ty := .int) (C := RX0) (T := TX0) (N := 7) hx hb hts hinX0 tyX0 tyX0_ok nmX0 hown hK hP (hD S4) hS 2 rfl rfl 6 (by decide) kf32 (fun _ h9 => h9) rfl (by decide +kernel) rfl rfl (Nat.le_of_ble_eq_true rfl) dX0_takeAway_25 (fun H locs hP _ hS => ?_)
    obtain ⟨S5, eS5⟩ : ∃ z : St, z = sI S4 2 ((S4.1 2) + 1) := ⟨_, rfl⟩
    have hP : va_P D vwCl (cw a c S5) H := by rw [eS5]; exact hP
    have h := h S5 eS5
    refine lv_iconst (v := 1) hx hb dX0_takeAway_28 (by decide) ?_
    exact g_retz hx hb hr hlocks (Or.inr rfl) h hP hS dX0_takeAway_29
  · have h := h.2 c2
    refine lv_iconst (v := 0) hx hb dX0_takeAway_9 (by decide) ?_
    exact g_retz hx hb hr hlocks (Or.inl rfl) h hP hS dX0_takeAway_10
def PX0_isInKnot (p0 : Int32) (p1 : Int32) (p2 : Int32) (S : St) (post : Int32 → St → Prop) : Prop := (vp_in p0 150 ∧ (((S.2.2 5 p0.toNatClampNeg) = 0 → (vp_in p0 150 ∧ (((((S.2.2 4 p0.toNatClampNeg) ^^^ p2) &&& p1) = 0 → post 1 S) ∧ (¬ (((S.2.2 4 p0.toNatClampNeg) ^^^ p2) &&& p1) = 0 → post 0 S)))) ∧ (¬ (S.2.2 5 p0.toNatClampNeg) = 0 → post 0 S)))
set_option maxHeartbeats 4000000 in
set_option maxRecDepth 100000 in
theorem tX0_isInKnot (l : Launch) (D : va_G) (a : Nat → Nat) (c : Nat → ClassId) (sz : Nat) (p0 : Int32) (p1 : Int32) (p2 : Int32) (S : St) (post : Int32 → St → Prop) (h : PX0_isInKnot p0 p1 p2 S post) : Met l yX0_isInKnot wsX0_isInKnot ({ frames := 0, cells := 0, slots := 0, locals := 0 }) (va_Pc [.ref (a 2), .int p0, .int p1, .int p2] (gP D (cw a c) (cty c) cns S sz)) (va_Qi post (gB D (cw a c)) (va_A (cw a c S) sz)) 0 0 (va_A (cw a c S) sz) := by
  refine Met.ofW (cc := cX0_isInKnot) (maxL := 4) (ret := (some .boolean)) (by decide) rfl ?_
  intro p e s m args below meth c9 s₁ B hml hv
  obtain ⟨rfl, hsz, hP, hK, hD0, hN⟩ := hv
  have hx := B.exec
  have hb := B.bytes
  have hr := B.returns
  have hts := atoms_spec (ws := wsX0_isInKnot) B.pre
  have hown : s.vm.findClass RX0 = some m.cls := findClass_of_methodNamed B.named
  have hlocks := B.notSynchronized
  subst hsz
  have hD1 := hD0.self (sz := s.heap.size)
  generalize hAe : va_A (cw a c S) s.heap.size = A at hD1 ⊢
  have hA : ∀ q : Nat, s.heap.size ≤ q → A q := fun q h => by rw [← hAe]; exact Or.inr h
  have hD : ∀ S2 : St, va_D A (cw a c S2) := gD cw_F hD1
  have hS : va_S A s.heap s.heap [] := va_S.rf
  have hinX0 : ∀ w ∈ wsX00, w ∈ wsX0_isInKnot := by decide +kernel
  have kf15 := hts (.fieldLink RX0 15 "CanteenPlan$Diary" "marksOf" "[I") (by decide +kernel)
  have kf18 := hts (.fieldLink RX0 18 "CanteenPlan$Diary" "isAway" "[Z") (by decide +kernel)
  have hl := lv_entry ([.ref (a 2), .int p0, .int p1, .int p2]) (n := 4) (Nat.le_of_ble_eq_true rfl)
  rw [lg_entry_eq]
  generalize (lg_sl ([.ref (a 2), .int p0, .int p1, .int p2]) ++ List.replicate (4 - (lg_sl ([.ref (a 2), .int p0, .int p1, .int p2])).length) Slot.unset).toArray = ls at hl ⊢
  have hl : lv_has ls 4 [(0, .ref (a 2)), (1, .int p0), (2, .int p1), (3, .int p2)] := hl
  unfold PX0_isInKnot at h
  refine lv_aload_n hx hb dX0_isInKnot_0 rfl (lv_at hl 0 rfl) ?_
  refine va_get (D := D) (ci := 0) (v := .ref (a 11)) (C := RX0) (T := TX0) (N := 7) hx hb hts hinX0 hown hK hP 2 rfl rfl 2 (by decide) kf18 (fun _ h9 => h9) rfl dX0_isInKnot_1 ?_
  refine lv_iload_n hx hb dX0_isInKnot_4 rfl (lv_at hl 1 rfl) ?_
  obtain ⟨b1, h⟩ := h
  refine va_zald hx hb hK hP 11 5 rfl rfl b1 dX0_isInKnot_5 ?_
  refine lv_if_ne (tgt := 26) hx hb dX0_isInKnot_6 (by decide) (fun c2 => ?_) (fun c2 => ?_)
  · have h := h.2 c2
    refine lv_iconst (v := 0) hx hb dX0_isInKnot_26 (by decide) ?_
    exact g_retz hx hb hr hlocks (Or.inl rfl) h hP hS dX0_isInKnot_27
  · have h := h.1 c2
    refine lv_aload_n hx hb dX0_isInKnot_9 rfl (lv_at hl 0 rfl) ?_
    refine va_get (D := D) (ci := 0) (v := .ref (a 10)) (C := RX0) (T := TX0) (N := 7) hx hb hts hinX0 hown hK hP 2 rfl rfl 1 (by decide) kf15 (fun _ h9 => h9) rfl dX0_isInKnot_10 ?_
    refine lv_iload_n hx hb dX0_isInKnot_13 rfl (lv_at hl 1 rfl) ?_
    obtain ⟨b3, h⟩ := h
    refine va_iald hx hb hK hP 10 4 rfl rfl b3 dX0_isInKnot_14 ?_
    refine lv_iload_n hx hb dX0_isInKnot_15 rfl (lv_at hl 3 rfl) ?_
    refine lv_ixor hx hb dX0_isInKnot_16 ?_
    refine lv_iload_n hx hb dX0_isInKnot_17 rfl (lv_at hl 2 rfl) ?_
    refine lv_iand hx hb dX0_isInKnot_18 ?_
    refine lv_if_ne (tgt := 26) hx hb dX0_isInKnot_19 (by decide) (fun c4 => ?_) (fun c4 => ?_)
    · have h := h.2 c4
      refine lv_iconst (v := 0) hx hb dX0_isInKnot_26 (by decide) ?_
      exact g_retz hx hb hr hlocks (Or.inl rfl) h hP hS dX0_isInKnot_27
    · have h := h.1 c4
      refine lv_iconst (v := 1) hx hb dX0_isInKnot_22 (by decide) ?_
      refine lv_goto (tgt := 27) hx hb dX0_isInKnot_23 (by decide) ?_
      exact g_retz hx hb hr hlocks (Or.inr rfl) h hP hS dX0_isInKnot_27
def PX0_eatenOn (p0 : Int32) (p1 : Int32) (S : St) (post : Int32 → St → Prop) : Prop := (vp_in ((p0 * 6) + p1) 900 ∧ post (S.2.2 6 ((p0 * 6) + p1).toNatClampNeg) S)
set_option maxHeartbeats 4000000 in
set_option maxRecDepth 100000 in
theorem tX0_eatenOn (l : Launch) (D : va_G) (a : Nat → Nat) (c : Nat → ClassId) (sz : Nat) (p0 : Int32) (p1 : Int32) (S : St) (post : Int32 → St → Prop) (h : PX0_eatenOn p0 p1 S post) : Met l yX0_eatenOn wsX0_eatenOn ({ frames := 0, cells := 0, slots := 0, locals := 0 }) (va_Pc [.ref (a 2), .int p0, .int p1] (gP D (cw a c) (cty c) cns S sz)) (va_Qi post (gB D (cw a c)) (va_A (cw a c S) sz)) 0 0 (va_A (cw a c S) sz) := by
  refine Met.ofW (cc := cX0_eatenOn) (maxL := 3) (ret := (some .int)) (by decide) rfl ?_
  intro p e s m args below meth c9 s₁ B hml hv
  obtain ⟨rfl, hsz, hP, hK, hD0, hN⟩ := hv
  have hx := B.exec
  have hb := B.bytes
  have hr := B.returns
  have hts := atoms_spec (ws := wsX0_eatenOn) B.pre
  have hown : s.vm.findClass RX0 = some m.cls := findClass_of_methodNamed B.named
  have hlocks := B.notSynchronized
  subst hsz
  have hD1 := hD0.self (sz := s.heap.size)
  generalize hAe : va_A (cw a c S) s.heap.size = A at hD1 ⊢
  have hA : ∀ q : Nat, s.heap.size ≤ q → A q := fun q h => by rw [← hAe]; exact Or.inr h
  have hD : ∀ S2 : St, va_D A (cw a c S2) := gD cw_F hD1
  have hS : va_S A s.heap s.heap [] := va_S.rf
  have hinX0 : ∀ w ∈ wsX00, w ∈ wsX0_eatenOn := by decide +kernel
  have kf22 := hts (.fieldLink RX0 22 "CanteenPlan$Diary" "eaten" "[I") (by decide +kernel)
  have hl := lv_entry ([.ref (a 2), .int p0, .int p1]) (n := 3) (Nat.le_of_ble_eq_true rfl)
  rw [lg_entry_eq]
  generalize (lg_sl ([.ref (a 2), .int p0, .int p1]) ++ List.replicate (3 - (lg_sl ([.ref (a 2), .int p0, .int p1])).length) Slot.unset).toArray = ls at hl ⊢
  have hl : lv_has ls 3 [(0, .ref (a 2)), (1, .int p0), (2, .int p1)] := hl
  unfold PX0_eatenOn at h
  refine lv_aload_n hx hb dX0_eatenOn_0 rfl (lv_at hl 0 rfl) ?_
  refine va_get (D := D) (ci := 0) (v := .ref (a 12)) (C := RX0) (T := TX0) (N := 7) hx hb hts hinX0 hown hK hP 2 rfl rfl 3 (by decide) kf22 (fun _ h9 => h9) rfl dX0_eatenOn_1 ?_
  refine lv_iload_n hx hb dX0_eatenOn_4 rfl (lv_at hl 1 rfl) ?_
  refine lv_bipush (v := 6) hx hb dX0_eatenOn_5 (by decide) ?_
  refine lv_imul hx hb dX0_eatenOn_7 ?_
  refine lv_iload_n hx hb dX0_eatenOn_8 rfl (lv_at hl 2 rfl) ?_
  refine lv_iadd hx hb dX0_eatenOn_9 ?_
  obtain ⟨b1, h⟩ := h
  refine va_iald hx hb hK hP 12 6 rfl rfl b1 dX0_eatenOn_10 ?_
  exact g_reti hx hb hr hlocks h hP hS dX0_eatenOn_11
def BX0_noteFacts_0 (X : Int32 → Int32 → St → Prop) (post : St → Prop) (xl1 : Int32) (xs0 : Int32) (S : St) : Prop := (vp_in 0 4 ∧ (vp_in 0 4 ∧ ∀ S5 : St, S5 = sR S 7 (upd (S.2.2 7) (0 : Int32).toNatClampNeg ((S.2.2 7 (0 : Int32).toNatClampNeg) + 1)) → (vp_in 1 4 ∧ (vp_in 1 4 ∧ ∀ S8 : St, S8 = sR S5 7 (upd (S5.2.2 7) (1 : Int32).toNatClampNeg ((S5.2.2 7 (1 : Int32).toNatClampNeg) + xl1)) → ((xs0 = 0 → (vp_in 2 4 ∧ (vp_in 2 4 ∧ ∀ S12 : St, S12 = sR S8 7 (upd (S8.2.2 7) (2 : Int32).toNatClampNeg (if xl1 < (S8.2.2 7 (2 : Int32).toNatClampNeg) then xl1 else (S8.2.2 7 (2 : Int32).toNatClampNeg))) → (vp_in 3 4 ∧ (vp_in 3 4 ∧ ∀ S15 : St, S15 = sR S12 7 (upd (S12.2.2 7) (3 : Int32).toNatClampNeg (if (S12.2.2 7 (3 : Int32).toNatClampNeg) < xl1 then xl1 else (S12.2.2 7 (3 : Int32).toNatClampNeg))) → post S15))))) ∧ (¬ xs0 = 0 → (vp_in 2 4 ∧ ∀ S17 : St, S17 = sR S8 7 (upd (S8.2.2 7) (2 : Int32).toNatClampNeg xl1) → (vp_in 3 4 ∧ (vp_in 3 4 ∧ ∀ S20 : St, S20 = sR S17 7 (upd (S17.2.2 7) (3 : Int32).toNatClampNeg (if (S17.2.2 7 (3 : Int32).toNatClampNeg) < xl1 then xl1 else (S17.2.2 7 (3 : Int32).toNatClampNeg))) → post S20)))))))))
def LX0_noteFacts (post : St → Prop) : Nat → Int32 → Int32 → St → Prop
  | 0, _, _, _ => False
  | n + 1, xl1, xs0, S => BX0_noteFacts_0 (LX0_noteFacts post n) post xl1 xs0 S
def PX0_noteFacts (n : Nat) (p0 : Int32) (S : St) (post : St → Prop) : Prop := (vp_in 0 4 ∧ (((S.2.2 7 (0 : Int32).toNatClampNeg) = 0 → LX0_noteFacts post n p0 1 S) ∧ (¬ (S.2.2 7 (0 : Int32).toNatClampNeg) = 0 → LX0_noteFacts post n p0 0 S)))
set_option maxHeartbeats 4000000 in
set_option maxRecDepth 100000 in
theorem tX0_noteFacts (l : Launch) (D : va_G) (a : Nat → Nat) (c : Nat → ClassId) (sz : Nat) (n : Nat) (p0 : Int32) (S : St) (post : St → Prop) (h : PX0_noteFacts n p0 S post) : Met l yX0_noteFacts wsX0_noteFacts ({ frames := 1, cells := 0, slots := 0, locals := 24 }) (va_Pc [.ref (a 2), .int p0] (gP D (cw a c) (cty c) cns S sz)) (va_Qv post (gB D (cw a c)) (va_A (cw a c S) sz)) 0 0 (va_A (cw a c S) sz) := by
  refine Met.ofW (cc := cX0_noteFacts) (maxL := 3) (ret := none) (by decide) rfl ?_
  intro p e s m args below meth c9 s₁ B hml hv
  obtain ⟨rfl, hsz, hP, hK, hD0, hN⟩ := hv
  have hx := B.exec
  have hb := B.bytes
  have hr := B.returns
  have hts := atoms_spec (ws := wsX0_noteFacts) B.pre
  have hown : s.vm.findClass RX0 = some m.cls := findClass_of_methodNamed B.named
  have hlocks := B.notSynchronized
  subst hsz
  have hD1 := hD0.self (sz := s.heap.size)
  generalize hAe : va_A (cw a c S) s.heap.size = A at hD1 ⊢
  have hA : ∀ q : Nat, s.heap.size ≤ q → A q := fun q h => by rw [← hAe]; exact Or.inr h
  have hD : ∀ S2 : St, va_D A (cw a c S2) := gD cw_F hD1
  have hS : va_S A s.heap s.heap [] := va_S.rf
  have hinX0 : ∀ w ∈ wsX00, w ∈ wsX0_noteFacts := by decide +kernel
  have kMath := hts (.initialized "java/lang/Math") (by decide +kernel)
  have kdmax := hts (.code Lib.Math.max.name Lib.Math.max.code 2 (some .int)) (by decide +kernel)
  have kdmin := hts (.code Lib.Math.min.name Lib.Math.min.code 2 (some .int)) (by decide +kernel)
  have kf25 := hts (.fieldLink RX0 25 "CanteenPlan$Diary" "facts" "[I") (by decide +kernel)
  have km53 := hts (.methodLink RX0 53 Lib.Math.min.name) (by decide +kernel)
  have km58 := hts (.methodLink RX0 58 Lib.Math.max.name) (by decide +kernel)
  have ksmax := hts (.static Lib.Math.max.name) (by decide +kernel)
  have ksmin := hts (.static Lib.Math.min.name) (by decide +kernel)
  have hl := lv_entry ([.ref (a 2), .int p0]) (n := 3) (Nat.le_of_ble_eq_true rfl)
  rw [lg_entry_eq]
  generalize (lg_sl ([.ref (a 2), .int p0]) ++ List.replicate (3 - (lg_sl ([.ref (a 2), .int p0])).length) Slot.unset).toArray = ls at hl ⊢
  have hl : lv_has ls 3 [(0, .ref (a 2)), (1, .int p0)] := hl
  have key : ∀ n : Nat, (∀ (xl1 : Int32) (xs0 : Int32) (S : St) (H : Heap) (locs : List Loc) (ls : Array Slot), LX0_noteFacts post n xl1 xs0 S → va_P D vwCl (cw a c S) H → va_S A s.heap H locs → lv_has ls 3 [(0, .ref (a 2)), (1, .int xl1)] → W p l e ((headSpec wsX0_noteFacts ({ frames := 1, cells := 0, slots := 0, locals := 24 })).room) s m ([.ref (a 2), .int p0]).toArray below meth c9 H locs 0 0 (MQ below (va_Qv post (gB D (cw a c)) A) ([.ref (a 2), .int p0]).toArray s 0 0 A) (F0 m 14 ls [.int xs0])) := by
    intro n
    induction n with
    | zero => exact fun xl1 xs0 S H locs ls h => h.elim
    | succ n ih =>
      intro xl1 xs0 S H locs ls h hP hS hl
      have h : BX0_noteFacts_0 (LX0_noteFacts post n) post xl1 xs0 S := h
      unfold BX0_noteFacts_0 at h
      refine lv_istore_n (lv' := [(2, .int xs0), (0, .ref (a 2)), (1, .int xl1)]) hx hb dX0_noteFacts_14 rfl hl (by decide) rfl (fun ls hl => ?_)
      refine lv_aload_n hx hb dX0_noteFacts_15 rfl (lv_at hl 1 rfl) ?_
      refine va_get (D := D) (ci := 0) (v := .ref (a 13)) (C := RX0) (T := TX0) (N := 7) hx hb hts hinX0 hown hK hP 2 rfl rfl 4 (by decide) kf25 (fun _ h9 => h9) rfl dX0_noteFacts_16 ?_
      refine lv_iconst (v := 0) hx hb dX0_noteFacts_19 (by decide) ?_
      refine lv_dup2_11 hx hb dX0_noteFacts_20 rfl rfl ?_
      obtain ⟨b3, h⟩ := h
      refine va_iald hx hb hK hP 13 7 rfl rfl b3 dX0_noteFacts_21 ?_
      refine lv_iconst (v := 1) hx hb dX0_noteFacts_22 (by decide) ?_
      refine lv_iadd hx hb dX0_noteFacts_23 ?_
      obtain ⟨b4, h⟩ := h
      refine va_iast hx hb hK hP (hD S) hS 13 7 rfl rfl b4 dX0_noteFacts_24 (fun H locs hP _ hS => ?_)
      obtain ⟨S5, eS5⟩ : ∃ z : St, z = sR S 7 (upd (S.2.2 7) (0 : Int32).toNatClampNeg ((S.2.2 7 (0 : Int32).toNatClampNeg) + 1)) := ⟨_, rfl⟩
      have hP : va_P D vwCl (cw a c S5) H := by rw [eS5]; exact hP
      have h := h S5 eS5
      refine lv_aload_n hx hb dX0_noteFacts_25 rfl (lv_at hl 1 rfl) ?_
      refine va_get (D := D) (ci := 0) (v := .ref (a 13)) (C := RX0) (T := TX0) (N := 7) hx hb hts hinX0 hown hK hP 2 rfl rfl 4 (by decide) kf25 (fun _ h9 => h9) rfl dX0_noteFacts_26 ?_
      refine lv_iconst (v := 1) hx hb dX0_noteFacts_29 (by decide) ?_
      refine lv_dup2_11 hx hb dX0_noteFacts_30 rfl rfl ?_
      obtain ⟨b6, h⟩ := h
      refine va_iald hx hb hK hP 13 7 rfl rfl b6 dX0_noteFacts_31 ?_
      refine lv_iload_n hx hb dX0_noteFacts_32 rfl (lv_at hl 2 rfl) ?_
      refine lv_iadd hx hb dX0_noteFacts_33 ?_
      obtain ⟨b7, h⟩ := h
      refine va_iast hx hb hK hP (hD S5) hS 13 7 rfl rfl b7 dX0_noteFacts_34 (fun H locs hP _ hS => ?_)
      obtain ⟨S8, eS8⟩ : ∃ z : St, z = sR S5 7 (upd (S5.2.2 7) (1 : Int32).toNatClampNeg ((S5.2.2 7 (1 : Int32).toNatClampNeg) + xl1)) := ⟨_, rfl⟩
      have hP : va_P D vwCl (cw a c S8) H := by rw [eS8]; exact hP
      have h := h S8 eS8
      refine lv_aload_n hx hb dX0_noteFacts_35 rfl (lv_at hl 1 rfl) ?_
      refine va_get (D := D) (ci := 0) (v := .ref (a 13)) (C := RX0) (T := TX0) (N := 7) hx hb hts hinX0 hown hK hP 2 rfl rfl 4 (by decide) kf25 (fun _ h9 => h9) rfl dX0_noteFacts_36 ?_
      refine lv_iconst (v := 2) hx hb dX0_noteFacts_39 (by decide) ?_
      refine lv_iload_n hx hb dX0_noteFacts_40 rfl (lv_at hl 0 rfl) ?_
      refine lv_if_eq (tgt := 48) hx hb dX0_noteFacts_41 (by decide) (fun c9 => ?_) (fun c9 => ?_)
      · have h := h.1 c9
        refine lv_aload_n hx hb dX0_noteFacts_48 rfl (lv_at hl 1 rfl) ?_
        refine va_get (D := D) (ci := 0) (v := .ref (a 13)) (C := RX0) (T := TX0) (N := 7) hx hb hts hinX0 hown hK hP 2 rfl rfl 4 (by decide) kf25 (fun _ h9 => h9) rfl dX0_noteFacts_49 ?_
        refine lv_iconst (v := 2) hx hb dX0_noteFacts_52 (by decide) ?_
        obtain ⟨b10, h⟩ := h
        refine va_iald hx hb hK hP 13 7 rfl rfl b10 dX0_noteFacts_53 ?_
        refine lv_iload_n hx hb dX0_noteFacts_54 rfl (lv_at hl 2 rfl) ?_
        refine va_mmin hx hb (hml.trans hl.1.symm) hown km53 ksmin kMath kdmin (Nat.le_of_ble_eq_true rfl) (Nat.le_of_ble_eq_true rfl) (Nat.le_of_ble_eq_true rfl) (Nat.le_of_ble_eq_true rfl) dX0_noteFacts_55 ?_
        obtain ⟨b11, h⟩ := h
        refine va_iast hx hb hK hP (hD S8) hS 13 7 rfl rfl b11 dX0_noteFacts_58 (fun H locs hP _ hS => ?_)
        obtain ⟨S12, eS12⟩ : ∃ z : St, z = sR S8 7 (upd (S8.2.2 7) (2 : Int32).toNatClampNeg (if xl1 < (S8.2.2 7 (2 : Int32).toNatClampNeg) then xl1 else (S8.2.2 7 (2 : Int32).toNatClampNeg))) := ⟨_, rfl⟩
        have hP : va_P D vwCl (cw a c S12) H := by rw [eS12]; exact hP
        have h := h S12 eS12
        refine lv_aload_n hx hb dX0_noteFacts_59 rfl (lv_at hl 1 rfl) ?_
        refine va_get (D := D) (ci := 0) (v := .ref (a 13)) (C := RX0) (T := TX0) (N := 7) hx hb hts hinX0 hown hK hP 2 rfl rfl 4 (by decide) kf25 (fun _ h9 => h9) rfl dX0_noteFacts_60 ?_
        refine lv_iconst (v := 3) hx hb dX0_noteFacts_63 (by decide) ?_
        refine lv_aload_n hx hb dX0_noteFacts_64 rfl (lv_at hl 1 rfl) ?_
        refine va_get (D := D) (ci := 0) (v := .ref (a 13)) (C := RX0) (T := TX0) (N := 7) hx hb hts hinX0 hown hK hP 2 rfl rfl 4 (by decide) kf25 (fun _ h9 => h9) rfl dX0_noteFacts_65 ?_
        refine lv_iconst (v := 3) hx hb dX0_noteFacts_68 (by decide) ?_
        obtain ⟨b13, h⟩ := h
        refine va_iald hx hb hK hP 13 7 rfl rfl b13 dX0_noteFacts_69 ?_
        refine lv_iload_n hx hb dX0_noteFacts_70 rfl (lv_at hl 2 rfl) ?_
        refine va_mmax hx hb (hml.trans hl.1.symm) hown km58 ksmax kMath kdmax (Nat.le_of_ble_eq_true rfl) (Nat.le_of_ble_eq_true rfl) (Nat.le_of_ble_eq_true rfl) (Nat.le_of_ble_eq_true rfl) dX0_noteFacts_71 ?_
        obtain ⟨b14, h⟩ := h
        refine va_iast hx hb hK hP (hD S12) hS 13 7 rfl rfl b14 dX0_noteFacts_74 (fun H locs hP _ hS => ?_)
        obtain ⟨S15, eS15⟩ : ∃ z : St, z = sR S12 7 (upd (S12.2.2 7) (3 : Int32).toNatClampNeg (if (S12.2.2 7 (3 : Int32).toNatClampNeg) < xl1 then xl1 else (S12.2.2 7 (3 : Int32).toNatClampNeg))) := ⟨_, rfl⟩
        have hP : va_P D vwCl (cw a c S15) H := by rw [eS15]; exact hP
        have h := h S15 eS15
        exact g_retv hx hb hr hlocks h hP hS dX0_noteFacts_75
      · have h := h.2 c9
        refine lv_iload_n hx hb dX0_noteFacts_44 rfl (lv_at hl 2 rfl) ?_
        refine lv_goto (tgt := 58) hx hb dX0_noteFacts_45 (by decide) ?_
        obtain ⟨b16, h⟩ := h
        refine va_iast hx hb hK hP (hD S8) hS 13 7 rfl rfl b16 dX0_noteFacts_58 (fun H locs hP _ hS => ?_)
        obtain ⟨S17, eS17⟩ : ∃ z : St, z = sR S8 7 (upd (S8.2.2 7) (2 : Int32).toNatClampNeg xl1) := ⟨_, rfl⟩
        have hP : va_P D vwCl (cw a c S17) H := by rw [eS17]; exact hP
        have h := h S17 eS17
        refine lv_aload_n hx hb dX0_noteFacts_59 rfl (lv_at hl 1 rfl) ?_
        refine va_get (D := D) (ci := 0) (v := .ref (a 13)) (C := RX0) (T := TX0) (N := 7) hx hb hts hinX0 hown hK hP 2 rfl rfl 4 (by decide) kf25 (fun _ h9 => h9) rfl dX0_noteFacts_60 ?_
        refine lv_iconst (v := 3) hx hb dX0_noteFacts_63 (by decide) ?_
        refine lv_aload_n hx hb dX0_noteFacts_64 rfl (lv_at hl 1 rfl) ?_
        refine va_get (D := D) (ci := 0) (v := .ref (a 13)) (C := RX0) (T := TX0) (N := 7) hx hb hts hinX0 hown hK hP 2 rfl rfl 4 (by decide) kf25 (fun _ h9 => h9) rfl dX0_noteFacts_65 ?_
        refine lv_iconst (v := 3) hx hb dX0_noteFacts_68 (by decide) ?_
        obtain ⟨b18, h⟩ := h
        refine va_iald hx hb hK hP 13 7 rfl rfl b18 dX0_noteFacts_69 ?_
        refine lv_iload_n hx hb dX0_noteFacts_70 rfl (lv_at hl 2 rfl) ?_
        refine va_mmax hx hb (hml.trans hl.1.symm) hown km58 ksmax kMath kdmax (Nat.le_of_ble_eq_true rfl) (Nat.le_of_ble_eq_true rfl) (Nat.le_of_ble_eq_true rfl) (Nat.le_of_ble_eq_true rfl) dX0_noteFacts_71 ?_
        obtain ⟨b19, h⟩ := h
        refine va_iast hx hb hK hP (hD S17) hS 13 7 rfl rfl b19 dX0_noteFacts_74 (fun H locs hP _ hS => ?_)
        obtain ⟨S20, eS20⟩ : ∃ z : St, z = sR S17 7 (upd (S17.2.2 7) (3 : Int32).toNatClampNeg (if (S17.2.2 7 (3 : Int32).toNatClampNeg) < xl1 then xl1 else (S17.2.2 7 (3 : Int32).toNatClampNeg))) := ⟨_, rfl⟩
        have hP : va_P D vwCl (cw a c S20) H := by rw [eS20]; exact hP
        have h := h S20 eS20
        exact g_retv hx hb hr hlocks h hP hS dX0_noteFacts_75
  unfold PX0_noteFacts at h
  refine lv_aload_n hx hb dX0_noteFacts_0 rfl (lv_at hl 0 rfl) ?_
  refine va_get (D := D) (ci := 0) (v := .ref (a 13)) (C := RX0) (T := TX0) (N := 7) hx hb hts hinX0 hown hK hP 2 rfl rfl 4 (by decide) kf25 (fun _ h9 => h9) rfl dX0_noteFacts_1 ?_
  refine lv_iconst (v := 0) hx hb dX0_noteFacts_4 (by decide) ?_
  obtain ⟨b1, h⟩ := h
  refine va_iald hx hb hK hP 13 7 rfl rfl b1 dX0_noteFacts_5 ?_
  refine lv_if_ne (tgt := 13) hx hb dX0_noteFacts_6 (by decide) (fun c2 => ?_) (fun c2 => ?_)
  · have h := h.2 c2
    refine lv_iconst (v := 0) hx hb dX0_noteFacts_13 (by decide) ?_
    exact (key n) p0 0 S _ _ _ h hP hS (lv_sub hl [0, 1] rfl)
  · have h := h.1 c2
    refine lv_iconst (v := 1) hx hb dX0_noteFacts_9 (by decide) ?_
    refine lv_goto (tgt := 14) hx hb dX0_noteFacts_10 (by decide) ?_
    exact (key n) p0 1 S _ _ _ h hP hS (lv_sub hl [0, 1] rfl)
def BX0_factOf_0 (X : Int32 → Int32 → Int32 → Int32 → Int32 → St → Prop) (post : Int32 → St → Prop) (xl1 : Int32) (xl2 : Int32) (xl3 : Int32) (xl4 : Int32) (xl5 : Int32) (S : St) : Prop := (((S.1 1) ≤ xl5 → (vp_in xl4 4 ∧ post (S.2.2 7 xl4.toNatClampNeg) S)) ∧ (¬ (S.1 1) ≤ xl5 → PX0_isInKnot xl5 xl2 xl3 S (fun x5 S4 => ((x5 = 0 → ∀ x7 : Int32, x7 = xl5 + 1 → X xl1 xl2 xl3 xl4 x7 S4) ∧ (¬ x5 = 0 → PX0_eatenOn xl5 xl1 S4 (fun x9 S8 => ∃ k : Nat, PX0_noteFacts k x9 S8 (fun S10 => ∀ x12 : Int32, x12 = xl5 + 1 → X xl1 xl2 xl3 xl4 x12 S10)))))))
def LX0_factOf (post : Int32 → St → Prop) : Nat → Int32 → Int32 → Int32 → Int32 → Int32 → St → Prop
  | 0, _, _, _, _, _, _ => False
  | n + 1, xl1, xl2, xl3, xl4, xl5, S => BX0_factOf_0 (LX0_factOf post n) post xl1 xl2 xl3 xl4 xl5 S
def PX0_factOf (n : Nat) (p0 : Int32) (p1 : Int32) (p2 : Int32) (p3 : Int32) (S : St) (post : Int32 → St → Prop) : Prop := ∀ S1 : St, S1 = sR S 7 (g_fill (S.2.2 7) 4 0) → LX0_factOf post n p0 p1 p2 p3 0 S1
set_option maxHeartbeats 4000000 in
set_option maxRecDepth 100000 in
theorem tX0_factOf (l : Launch) (D : va_G) (a : Nat → Nat) (c : Nat → ClassId) (sz : Nat) (n : Nat) (p0 : Int32) (p1 : Int32) (p2 : Int32) (p3 : Int32) (S : St) (post : Int32 → St → Prop) (h : PX0_factOf n p0 p1 p2 p3 S post) : Met l yX0_factOf wsX0_factOf ({ frames := 2, cells := 0, slots := 0, locals := 46 }) (va_Pc [.ref (a 2), .int p0, .int p1, .int p2, .int p3] (gP D (cw a c) (cty c) cns S sz)) (va_Qi post (gB D (cw a c)) (va_A (cw a c S) sz)) 0 0 (va_A (cw a c S) sz) := by
  refine Met.ofW (cc := cX0_factOf) (maxL := 6) (ret := (some .int)) (by decide) rfl ?_
  intro p e s m args below meth c9 s₁ B hml hv
  obtain ⟨rfl, hsz, hP, hK, hD0, hN⟩ := hv
  have hx := B.exec
  have hb := B.bytes
  have hr := B.returns
  have hts := atoms_spec (ws := wsX0_factOf) B.pre
  have hown : s.vm.findClass RX0 = some m.cls := findClass_of_methodNamed B.named
  have hlocks := B.notSynchronized
  subst hsz
  have hD1 := hD0.self (sz := s.heap.size)
  generalize hAe : va_A (cw a c S) s.heap.size = A at hD1 ⊢
  have hA : ∀ q : Nat, s.heap.size ≤ q → A q := fun q h => by rw [← hAe]; exact Or.inr h
  have hD : ∀ S2 : St, va_D A (cw a c S2) := gD cw_F hD1
  have hS : va_S A s.heap s.heap [] := va_S.rf
  have hinX0 : ∀ w ∈ wsX00, w ∈ wsX0_factOf := by decide +kernel
  have kf25 := hts (.fieldLink RX0 25 "CanteenPlan$Diary" "facts" "[I") (by decide +kernel)
  have kf28 := hts (.fieldLink RX0 28 "CanteenPlan$Diary" "inAll" "I") (by decide +kernel)
  have hl := lv_entry ([.ref (a 2), .int p0, .int p1, .int p2, .int p3]) (n := 6) (Nat.le_of_ble_eq_true rfl)
  rw [lg_entry_eq]
  generalize (lg_sl ([.ref (a 2), .int p0, .int p1, .int p2, .int p3]) ++ List.replicate (6 - (lg_sl ([.ref (a 2), .int p0, .int p1, .int p2, .int p3])).length) Slot.unset).toArray = ls at hl ⊢
  have hl : lv_has ls 6 [(0, .ref (a 2)), (1, .int p0), (2, .int p1), (3, .int p2), (4, .int p3)] := hl
  have key : ∀ n : Nat, (∀ (xl1 : Int32) (xl2 : Int32) (xl3 : Int32) (xl4 : Int32) (xl5 : Int32) (S : St) (H : Heap) (locs : List Loc) (ls : Array Slot), LX0_factOf post n xl1 xl2 xl3 xl4 xl5 S → va_P D vwCl (cw a c S) H → va_S A s.heap H locs → lv_has ls 6 [(0, .ref (a 2)), (1, .int xl1), (2, .int xl2), (3, .int xl3), (4, .int xl4), (5, .int xl5)] → W p l e ((headSpec wsX0_factOf ({ frames := 2, cells := 0, slots := 0, locals := 46 })).room) s m ([.ref (a 2), .int p0, .int p1, .int p2, .int p3]).toArray below meth c9 H locs 0 0 (MQ below (va_Qi post (gB D (cw a c)) A) ([.ref (a 2), .int p0, .int p1, .int p2, .int p3]).toArray s 0 0 A) (F0 m 11 ls [])) := by
    intro n
    induction n with
    | zero => exact fun xl1 xl2 xl3 xl4 xl5 S H locs ls h => h.elim
    | succ n ih =>
      intro xl1 xl2 xl3 xl4 xl5 S H locs ls h hP hS hl
      have h : BX0_factOf_0 (LX0_factOf post n) post xl1 xl2 xl3 xl4 xl5 S := h
      unfold BX0_factOf_0 at h
      refine lv_iload hx hb dX0_factOf_11 (lv_at hl 5 rfl) ?_
      refine lv_aload_n hx hb dX0_factOf_13 rfl (lv_at hl 0 rfl) ?_
      refine va_get (D := D) (ci := 0) (v := .int (S.1 1)) (C := RX0) (T := TX0) (N := 7) hx hb hts hinX0 hown hK hP 2 rfl rfl 5 (by decide) kf28 (fun _ h9 => h9) rfl dX0_factOf_14 ?_
      refine lv_icmp_ge (tgt := 48) hx hb dX0_factOf_17 (by decide) (fun c2 => ?_) (fun c2 => ?_)
      · have h := h.1 c2
        refine lv_aload_n hx hb dX0_factOf_48 rfl (lv_at hl 0 rfl) ?_
        refine va_get (D := D) (ci := 0) (v := .ref (a 13)) (C := RX0) (T := TX0) (N := 7) hx hb hts hinX0 hown hK hP 2 rfl rfl 4 (by decide) kf25 (fun _ h9 => h9) rfl dX0_factOf_49 ?_
        refine lv_iload hx hb dX0_factOf_52 (lv_at hl 4 rfl) ?_
        obtain ⟨b3, h⟩ := h
        refine va_iald hx hb hK hP 13 7 rfl rfl b3 dX0_factOf_54 ?_
        exact g_reti hx hb hr hlocks h hP hS dX0_factOf_55
      · have h := h.2 c2
        refine lv_aload_n hx hb dX0_factOf_20 rfl (lv_at hl 0 rfl) ?_
        refine lv_iload hx hb dX0_factOf_21 (lv_at hl 5 rfl) ?_
        refine lv_iload_n hx hb dX0_factOf_23 rfl (lv_at hl 2 rfl) ?_
        refine lv_iload_n hx hb dX0_factOf_24 rfl (lv_at hl 3 rfl) ?_
        refine k_i (k_runV cns_ok ⟨hx, hb, hml, hown, hts⟩ (tX0_isInKnot l D a c _ xl5 xl2 xl3 S _ h) (cwV 3 hts gX0_factOf_X0_isInKnot rfl rfl rfl (by decide +kernel) ⟨Nat.le_of_ble_eq_true rfl, Nat.le_of_ble_eq_true rfl⟩) (va_recv hK hP (ci := 0) (q0 := 2) rfl rfl) hP hK (hD S) hN rfl rfl hl.1 rfl (lv_room (Nat.le_of_ble_eq_true rfl)) dX0_factOf_25 ⟨Nat.le_of_ble_eq_true rfl, Nat.le_of_ble_eq_true rfl⟩) hS (hD S) hA (fun x5 S4 H locs h hP hS => ?_)
        refine lv_if_eq (tgt := 42) hx hb dX0_factOf_28 (by decide) (fun c6 => ?_) (fun c6 => ?_)
        · have h := h.1 c6
          obtain ⟨x7, ex7⟩ : ∃ y : Int32, y = xl5 + 1 := ⟨_, rfl⟩
          have h := h x7 ex7
          refine lv_iinc (v := x7) (lv' := [(5, .int x7), (0, .ref (a 2)), (1, .int xl1), (2, .int xl2), (3, .int xl3), (4, .int xl4)]) hx hb dX0_factOf_42 hl (k := 5) rfl (by rw [ex7]; rfl) (by decide) rfl (fun ls hl => ?_)
          refine lv_goto (tgt := 11) hx hb dX0_factOf_45 (by decide) ?_
          exact (ih) xl1 xl2 xl3 xl4 x7 S4 _ _ _ h hP hS (lv_sub hl [1, 2, 3, 4, 5, 0] rfl)
        · have h := h.2 c6
          refine lv_aload_n hx hb dX0_factOf_31 rfl (lv_at hl 0 rfl) ?_
          refine lv_aload_n hx hb dX0_factOf_32 rfl (lv_at hl 0 rfl) ?_
          refine lv_iload hx hb dX0_factOf_33 (lv_at hl 5 rfl) ?_
          refine lv_iload_n hx hb dX0_factOf_35 rfl (lv_at hl 1 rfl) ?_
          refine k_i (k_runV cns_ok ⟨hx, hb, hml, hown, hts⟩ (tX0_eatenOn l D a c _ xl5 xl1 S4 _ h) (cwV 2 hts gX0_factOf_X0_eatenOn rfl rfl rfl (by decide +kernel) ⟨Nat.le_of_ble_eq_true rfl, Nat.le_of_ble_eq_true rfl⟩) (va_recv hK hP (ci := 0) (q0 := 2) rfl rfl) hP hK (hD S4) hN rfl rfl hl.1 rfl (lv_room (Nat.le_of_ble_eq_true rfl)) dX0_factOf_36 ⟨Nat.le_of_ble_eq_true rfl, Nat.le_of_ble_eq_true rfl⟩) hS (hD S4) hA (fun x9 S8 H locs h hP hS => ?_)
          obtain ⟨k11, h⟩ := h
          refine k_v (k_runV cns_ok ⟨hx, hb, hml, hown, hts⟩ (tX0_noteFacts l D a c _ k11 x9 S8 _ h) (cwV 1 hts gX0_factOf_X0_noteFacts rfl rfl rfl (by decide +kernel) ⟨Nat.le_of_ble_eq_true rfl, Nat.le_of_ble_eq_true rfl⟩) (va_recv hK hP (ci := 0) (q0 := 2) rfl rfl) hP hK (hD S8) hN rfl rfl hl.1 rfl (lv_room (Nat.le_of_ble_eq_true rfl)) dX0_factOf_39 ⟨Nat.le_of_ble_eq_true rfl, Nat.le_of_ble_eq_true rfl⟩) hS (hD S8) hA (fun S10 H locs h hP hS => ?_)
          obtain ⟨x12, ex12⟩ : ∃ y : Int32, y = xl5 + 1 := ⟨_, rfl⟩
          have h := h x12 ex12
          refine lv_iinc (v := x12) (lv' := [(5, .int x12), (0, .ref (a 2)), (1, .int xl1), (2, .int xl2), (3, .int xl3), (4, .int xl4)]) hx hb dX0_factOf_42 hl (k := 5) rfl (by rw [ex12]; rfl) (by decide) rfl (fun ls hl => ?_)
          refine lv_goto (tgt := 11) hx hb dX0_factOf_45 (by decide) ?_
          exact (ih) xl1 xl2 xl3 xl4 x12 S10 _ _ _ h hP hS (lv_sub hl [1, 2, 3, 4, 5, 0] rfl)
  unfold PX0_factOf at h
  refine lv_aload_n hx hb dX0_factOf_0 rfl (lv_at hl 0 rfl) ?_
  refine va_get (D := D) (ci := 0) (v := .ref (a 13)) (C := RX0) (T := TX0) (N := 7) hx hb hts hinX0 hown hK hP 2 rfl rfl 4 (by decide) kf25 (fun _ h9 => h9) rfl dX0_factOf_1 ?_
  refine lv_iconst (v := 0) hx hb dX0_factOf_4 (by decide) ?_
  refine k_fill cns_ok cw_F ⟨hx, hb, hml, hown, hts⟩ (va_cwS 2 hts gX0_factOf_J7_fill_53178 rfl rfl rfl (by decide +kernel) ⟨Nat.le_of_ble_eq_true rfl, Nat.le_of_ble_eq_true rfl⟩) (u := fun f => sR S 7 f) 13 7 rfl rfl (fun _ => rfl) hP hK (hD S) hN hS hA hl.1 (by decide) (Nat.le_of_ble_eq_true rfl) dX0_factOf_5 ⟨Nat.le_of_ble_eq_true rfl, Nat.le_of_ble_eq_true rfl⟩ (fun H locs hP hS => ?_)
  obtain ⟨S1, eS1⟩ : ∃ z : St, z = sR S 7 (g_fill (S.2.2 7) 4 0) := ⟨_, rfl⟩
  have hP : va_P D vwCl (cw a c S1) H := by rw [eS1]; exact hP
  have h := h S1 eS1
  refine lv_iconst (v := 0) hx hb dX0_factOf_8 (by decide) ?_
  refine lv_istore (lv' := [(5, .int 0), (0, .ref (a 2)), (1, .int p0), (2, .int p1), (3, .int p2), (4, .int p3)]) hx hb dX0_factOf_9 hl (by decide) rfl (fun ls hl => ?_)
  exact (key n) p0 p1 p2 p3 0 S1 _ _ _ h hP hS (lv_sub hl [1, 2, 3, 4, 5, 0] rfl)
