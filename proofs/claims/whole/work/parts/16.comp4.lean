def PX5_needWithin (p0 : Int32) (p1 : Int32) (p2 : Int32) (S : St) (post : St → Prop) (postx : String → St → Prop) : Prop := ((p0 < p1 → postx "java/lang/IllegalArgumentException" S) ∧ (¬ p0 < p1 → ((p0 ≤ p2 → post S) ∧ (¬ p0 ≤ p2 → postx "java/lang/IllegalArgumentException" S))))
set_option maxHeartbeats 4000000 in
set_option maxRecDepth 100000 in
theorem tX5_needWithin (l : Launch) (D : va_G) (a : Nat → Nat) (c : Nat → ClassId) (sz : Nat) (p0 : Int32) (p1 : Int32) (p2 : Int32) (S : St) (post : St → Prop) (postx : String → St → Prop) (hl0 : l.stackTraces = false) (h : PX5_needWithin p0 p1 p2 S post postx) : vx_Met l yX5_needWithin wsX5_needWithin ({ frames := 7, cells := 1, slots := 6, locals := 140 }) (va_Pc [.int p0, .int p1, .int p2] (xP D (cw a c) (cty c) cns S sz)) (va_Qv post (gB D (cw a c)) (va_A (cw a c S) sz)) (xX D (cw a c) postx (va_A (cw a c S) sz)) 1 6 (va_A (cw a c S) sz) := by
  refine vx_ofW (cc := cX5_needWithin) (maxL := 3) (ret := none) (by decide) rfl ?_
  intro p e s m args below meth c9 s₁ B hml hout hv
  obtain ⟨rfl, hsz, hP, hK, hD0, hN, hT⟩ := hv
  have hx := B.exec
  have hb := B.bytes
  have hr := B.returns
  have hts := atoms_spec (ws := wsX5_needWithin) B.pre
  have hown : s.vm.findClass RX5 = some m.cls := findClass_of_methodNamed B.named
  have hlocks := B.notSynchronized
  subst hsz
  have hD1 := hD0.self (sz := s.heap.size)
  generalize hAe : va_A (cw a c S) s.heap.size = A at hD1 hT ⊢
  have hA : ∀ q : Nat, s.heap.size ≤ q → A q := fun q h => by rw [← hAe]; exact Or.inr h
  have hD : ∀ S2 : St, va_D A (cw a c S2) := gD cw_F hD1
  have hS : va_S A s.heap s.heap [] := va_S.rf
  have kx142 := hts (.classLink RX5 142 "java/lang/IllegalArgumentException") (by decide +kernel)
  have ky142 := hts (.initialized "java/lang/IllegalArgumentException") (by decide +kernel)
  have hl := lv_entry ([.int p0, .int p1, .int p2]) (n := 3) (Nat.le_of_ble_eq_true rfl)
  rw [lg_entry_eq]
  generalize (lg_sl ([.int p0, .int p1, .int p2]) ++ List.replicate (3 - (lg_sl ([.int p0, .int p1, .int p2])).length) Slot.unset).toArray = ls at hl ⊢
  have hl : lv_has ls 3 [(0, .int p0), (1, .int p1), (2, .int p2)] := hl
  unfold PX5_needWithin at h
  refine lv_iload_n hx hb dX5_needWithin_0 rfl (lv_at hl 0 rfl) ?_
  refine lv_iload_n hx hb dX5_needWithin_1 rfl (lv_at hl 1 rfl) ?_
  refine lv_icmp_lt (tgt := 10) hx hb dX5_needWithin_2 (by decide) (fun c1 => ?_) (fun c1 => ?_)
  · have h := h.1 c1
    exact x_throw (E := "java/lang/IllegalArgumentException") (text := "a number is beyond what the document allows") (ik := 142) (is := 156) (ic := 146) hx hb hl0 hown (fun w hw => hts w (List.mem_cons_of_mem _ (List.mem_append_right _ hw))) (by decide +kernel) (by decide) (by decide +kernel) kx142 ky142 (by decide +kernel) hT hS hl.1 hml dX5_needWithin_10 dX5_needWithin_13 dX5_needWithin_14 dX5_needWithin_16 dX5_needWithin_19 hout hlocks h hP (Nat.le_of_ble_eq_true rfl) (Nat.le_of_ble_eq_true rfl) (Nat.le_of_ble_eq_true rfl) (Nat.le_of_ble_eq_true rfl) (Nat.le_of_ble_eq_true rfl) (Nat.le_of_ble_eq_true rfl)
  · have h := h.2 c1
    refine lv_iload_n hx hb dX5_needWithin_5 rfl (lv_at hl 0 rfl) ?_
    refine lv_iload_n hx hb dX5_needWithin_6 rfl (lv_at hl 2 rfl) ?_
    refine lv_icmp_le (tgt := 20) hx hb dX5_needWithin_7 (by decide) (fun c2 => ?_) (fun c2 => ?_)
    · have h := h.1 c2
      refine vx_ret ?_
      refine W.widen (k := 1) (n := 6) (Nat.le_of_ble_eq_true rfl) (Nat.le_of_ble_eq_true rfl) ?_
      exact g_retv hx hb hr hlocks h hP hS dX5_needWithin_20
    · have h := h.2 c2
      exact x_throw (E := "java/lang/IllegalArgumentException") (text := "a number is beyond what the document allows") (ik := 142) (is := 156) (ic := 146) hx hb hl0 hown (fun w hw => hts w (List.mem_cons_of_mem _ (List.mem_append_right _ hw))) (by decide +kernel) (by decide) (by decide +kernel) kx142 ky142 (by decide +kernel) hT hS hl.1 hml dX5_needWithin_10 dX5_needWithin_13 dX5_needWithin_14 dX5_needWithin_16 dX5_needWithin_19 hout hlocks h hP (Nat.le_of_ble_eq_true rfl) (Nat.le_of_ble_eq_true rfl) (Nat.le_of_ble_eq_true rfl) (Nat.le_of_ble_eq_true rfl) (Nat.le_of_ble_eq_true rfl) (Nat.le_of_ble_eq_true rfl)
def PX5_needMeal (p0 : Int32) (S : St) (post : St → Prop) (postx : String → St → Prop) : Prop := ((p0 < 0 → postx "java/lang/IndexOutOfBoundsException" S) ∧ (¬ p0 < 0 → ((p0 < (S.1 0) → post S) ∧ (¬ p0 < (S.1 0) → postx "java/lang/IndexOutOfBoundsException" S))))
set_option maxHeartbeats 4000000 in
set_option maxRecDepth 100000 in
theorem tX5_needMeal (l : Launch) (D : va_G) (a : Nat → Nat) (c : Nat → ClassId) (sz : Nat) (p0 : Int32) (S : St) (post : St → Prop) (postx : String → St → Prop) (hl0 : l.stackTraces = false) (h : PX5_needMeal p0 S post postx) : vx_Met l yX5_needMeal wsX5_needMeal ({ frames := 7, cells := 1, slots := 6, locals := 140 }) (va_Pc [.ref (a 0), .int p0] (xP D (cw a c) (cty c) cns S sz)) (va_Qv post (gB D (cw a c)) (va_A (cw a c S) sz)) (xX D (cw a c) postx (va_A (cw a c S) sz)) 1 6 (va_A (cw a c S) sz) := by
  refine vx_ofW (cc := cX5_needMeal) (maxL := 2) (ret := none) (by decide) rfl ?_
  intro p e s m args below meth c9 s₁ B hml hout hv
  obtain ⟨rfl, hsz, hP, hK, hD0, hN, hT⟩ := hv
  have hx := B.exec
  have hb := B.bytes
  have hr := B.returns
  have hts := atoms_spec (ws := wsX5_needMeal) B.pre
  have hown : s.vm.findClass RX5 = some m.cls := findClass_of_methodNamed B.named
  have hlocks := B.notSynchronized
  subst hsz
  have hD1 := hD0.self (sz := s.heap.size)
  generalize hAe : va_A (cw a c S) s.heap.size = A at hD1 hT ⊢
  have hA : ∀ q : Nat, s.heap.size ≤ q → A q := fun q h => by rw [← hAe]; exact Or.inr h
  have hD : ∀ S2 : St, va_D A (cw a c S2) := gD cw_F hD1
  have hS : va_S A s.heap s.heap [] := va_S.rf
  have hinX3 : ∀ w ∈ wsX30, w ∈ wsX5_needMeal := by decide +kernel
  have hinX5 : ∀ w ∈ wsX50, w ∈ wsX5_needMeal := by decide +kernel
  have kf10 := hts (.fieldLink RX5 10 "CanteenPlan" "menu" "LCanteenPlan$Menu;") (by decide +kernel)
  have kf50 := hN (.fieldLinkNest RX5 50 "CanteenPlan$Menu" "meals" "I" "CanteenPlan") (by decide +kernel)
  have kx80 := hts (.classLink RX5 80 "java/lang/IndexOutOfBoundsException") (by decide +kernel)
  have ky80 := hts (.initialized "java/lang/IndexOutOfBoundsException") (by decide +kernel)
  have hl := lv_entry ([.ref (a 0), .int p0]) (n := 2) (Nat.le_of_ble_eq_true rfl)
  rw [lg_entry_eq]
  generalize (lg_sl ([.ref (a 0), .int p0]) ++ List.replicate (2 - (lg_sl ([.ref (a 0), .int p0])).length) Slot.unset).toArray = ls at hl ⊢
  have hl : lv_has ls 2 [(0, .ref (a 0)), (1, .int p0)] := hl
  unfold PX5_needMeal at h
  refine lv_iload_n hx hb dX5_needMeal_0 rfl (lv_at hl 1 rfl) ?_
  refine lv_if_lt (tgt := 15) hx hb dX5_needMeal_1 (by decide) (fun c1 => ?_) (fun c1 => ?_)
  · have h := h.1 c1
    exact x_throw (E := "java/lang/IndexOutOfBoundsException") (text := "there is no such meal") (ik := 80) (is := 158) (ic := 84) hx hb hl0 hown (fun w hw => hts w (List.mem_cons_of_mem _ (List.mem_append_right _ hw))) (by decide +kernel) (by decide) (by decide +kernel) kx80 ky80 (by decide +kernel) hT hS hl.1 hml dX5_needMeal_15 dX5_needMeal_18 dX5_needMeal_19 dX5_needMeal_21 dX5_needMeal_24 hout hlocks h hP (Nat.le_of_ble_eq_true rfl) (Nat.le_of_ble_eq_true rfl) (Nat.le_of_ble_eq_true rfl) (Nat.le_of_ble_eq_true rfl) (Nat.le_of_ble_eq_true rfl) (Nat.le_of_ble_eq_true rfl)
  · have h := h.2 c1
    refine lv_iload_n hx hb dX5_needMeal_4 rfl (lv_at hl 1 rfl) ?_
    refine lv_aload_n hx hb dX5_needMeal_5 rfl (lv_at hl 0 rfl) ?_
    refine va_get (D := D) (ci := 5) (v := .ref (a 1)) (C := RX5) (T := TX5) (N := 5) hx hb hts hinX5 hown hK hP 0 rfl rfl 0 (by decide) kf10 (fun _ h9 => h9) rfl dX5_needMeal_6 ?_
    refine va_getN (D := D) (ci := 3) (v := .int (S.1 0)) (C := RX3) (T := TX3) (N := 4) hx hb hts hinX3 hown hK hP 1 rfl rfl 3 (by decide) (va_Nw.use rfl kf50) (fun _ h9 => h9) rfl dX5_needMeal_9 ?_
    refine lv_icmp_lt (tgt := 25) hx hb dX5_needMeal_12 (by decide) (fun c2 => ?_) (fun c2 => ?_)
    · have h := h.1 c2
      refine vx_ret ?_
      refine W.widen (k := 1) (n := 6) (Nat.le_of_ble_eq_true rfl) (Nat.le_of_ble_eq_true rfl) ?_
      exact g_retv hx hb hr hlocks h hP hS dX5_needMeal_25
    · have h := h.2 c2
      exact x_throw (E := "java/lang/IndexOutOfBoundsException") (text := "there is no such meal") (ik := 80) (is := 158) (ic := 84) hx hb hl0 hown (fun w hw => hts w (List.mem_cons_of_mem _ (List.mem_append_right _ hw))) (by decide +kernel) (by decide) (by decide +kernel) kx80 ky80 (by decide +kernel) hT hS hl.1 hml dX5_needMeal_15 dX5_needMeal_18 dX5_needMeal_19 dX5_needMeal_21 dX5_needMeal_24 hout hlocks h hP (Nat.le_of_ble_eq_true rfl) (Nat.le_of_ble_eq_true rfl) (Nat.le_of_ble_eq_true rfl) (Nat.le_of_ble_eq_true rfl) (Nat.le_of_ble_eq_true rfl) (Nat.le_of_ble_eq_true rfl)
def PX5_meal (p0 : Int32) (p1 : Int32) (S : St) (post : Int32 → St → Prop) (postx : String → St → Prop) : Prop := PX5_needWithin p0 0 255 S (fun S1 => PX5_needWithin p1 0 255 S1 (fun S2 => (((S2.1 0) < 6 → PX3_add p0 p1 S2 (fun x5 S4 => post x5 S4)) ∧ (¬ (S2.1 0) < 6 → postx "java/lang/IllegalStateException" S2))) postx) postx
set_option maxHeartbeats 4000000 in
set_option maxRecDepth 100000 in
theorem tX5_meal (l : Launch) (D : va_G) (a : Nat → Nat) (c : Nat → ClassId) (sz : Nat) (p0 : Int32) (p1 : Int32) (S : St) (post : Int32 → St → Prop) (postx : String → St → Prop) (hl0 : l.stackTraces = false) (h : PX5_meal p0 p1 S post postx) : vx_Met l yX5_meal wsX5_meal ({ frames := 8, cells := 3, slots := 18, locals := 162 }) (va_Pc [.ref (a 0), .int p0, .int p1] (xP D (cw a c) (cty c) cns S sz)) (va_Qi post (gB D (cw a c)) (va_A (cw a c S) sz)) (xX D (cw a c) postx (va_A (cw a c S) sz)) 3 18 (va_A (cw a c S) sz) := by
  refine vx_ofW (cc := cX5_meal) (maxL := 3) (ret := (some .int)) (by decide) rfl ?_
  intro p e s m args below meth c9 s₁ B hml hout hv
  obtain ⟨rfl, hsz, hP, hK, hD0, hN, hT⟩ := hv
  have hx := B.exec
  have hb := B.bytes
  have hr := B.returns
  have hts := atoms_spec (ws := wsX5_meal) B.pre
  have hown : s.vm.findClass RX5 = some m.cls := findClass_of_methodNamed B.named
  have hlocks := B.notSynchronized
  subst hsz
  have hD1 := hD0.self (sz := s.heap.size)
  generalize hAe : va_A (cw a c S) s.heap.size = A at hD1 hT ⊢
  have hA : ∀ q : Nat, s.heap.size ≤ q → A q := fun q h => by rw [← hAe]; exact Or.inr h
  have hD : ∀ S2 : St, va_D A (cw a c S2) := gD cw_F hD1
  have hS : va_S A s.heap s.heap [] := va_S.rf
  have hinX3 : ∀ w ∈ wsX30, w ∈ wsX5_meal := by decide +kernel
  have hinX5 : ∀ w ∈ wsX50, w ∈ wsX5_meal := by decide +kernel
  have kI61 := hts (.instanceMethod yX3_add) (by decide +kernel)
  have kS61 := hts (.selects RX3 yX3_add yX3_add) (by decide +kernel)
  have kf10 := hts (.fieldLink RX5 10 "CanteenPlan" "menu" "LCanteenPlan$Menu;") (by decide +kernel)
  have kf50 := hN (.fieldLinkNest RX5 50 "CanteenPlan$Menu" "meals" "I" "CanteenPlan") (by decide +kernel)
  have kiX3 := hts (.initialized RX3) (by decide +kernel)
  have kn61 := hN (.methodLinkNest RX5 61 yX3_add "CanteenPlan") (by decide +kernel)
  have kx54 := hts (.classLink RX5 54 "java/lang/IllegalStateException") (by decide +kernel)
  have ky54 := hts (.initialized "java/lang/IllegalStateException") (by decide +kernel)
  have hl := lv_entry ([.ref (a 0), .int p0, .int p1]) (n := 3) (Nat.le_of_ble_eq_true rfl)
  rw [lg_entry_eq]
  generalize (lg_sl ([.ref (a 0), .int p0, .int p1]) ++ List.replicate (3 - (lg_sl ([.ref (a 0), .int p0, .int p1])).length) Slot.unset).toArray = ls at hl ⊢
  have hl : lv_has ls 3 [(0, .ref (a 0)), (1, .int p0), (2, .int p1)] := hl
  unfold PX5_meal at h
  refine lv_iload_n hx hb dX5_meal_0 rfl (lv_at hl 1 rfl) ?_
  refine lv_iconst (v := 0) hx hb dX5_meal_1 (by decide) ?_
  refine lv_sipush (v := 255) hx hb dX5_meal_2 (by decide) ?_
  refine x_v (x_runS cns_ok ⟨hx, hb, hml, hown, hts⟩ (tX5_needWithin l D a c _ p0 0 255 S _ _ hl0 h) (va_cwS 3 hts gX5_meal_X5_needWithin rfl rfl rfl (by decide +kernel) ⟨Nat.le_of_ble_eq_true rfl, Nat.le_of_ble_eq_true rfl⟩) hP hK (hD S) hN hT hS hA rfl rfl hl.1 rfl (lv_room (Nat.le_of_ble_eq_true rfl)) dX5_meal_5 ⟨Nat.le_of_ble_eq_true rfl, Nat.le_of_ble_eq_true rfl⟩) hS (hD S) hA (fun E q9 ce S9 H locs hw hP hS hq hv hcl => x_out hout hlocks hq hv hcl hw hP hS (Nat.le_of_ble_eq_true rfl) (Nat.le_of_ble_eq_true rfl)) (fun S1 H locs h hP hS => ?_)
  refine lv_iload_n hx hb dX5_meal_8 rfl (lv_at hl 2 rfl) ?_
  refine lv_iconst (v := 0) hx hb dX5_meal_9 (by decide) ?_
  refine lv_sipush (v := 255) hx hb dX5_meal_10 (by decide) ?_
  refine x_v (x_runS cns_ok ⟨hx, hb, hml, hown, hts⟩ (tX5_needWithin l D a c _ p1 0 255 S1 _ _ hl0 h) (va_cwS 3 hts gX5_meal_X5_needWithin rfl rfl rfl (by decide +kernel) ⟨Nat.le_of_ble_eq_true rfl, Nat.le_of_ble_eq_true rfl⟩) hP hK (hD S1) hN hT hS hA rfl rfl hl.1 rfl (lv_room (Nat.le_of_ble_eq_true rfl)) dX5_meal_13 ⟨Nat.le_of_ble_eq_true rfl, Nat.le_of_ble_eq_true rfl⟩) hS (hD S1) hA (fun E q9 ce S9 H locs hw hP hS hq hv hcl => x_out hout hlocks hq hv hcl hw hP hS (Nat.le_of_ble_eq_true rfl) (Nat.le_of_ble_eq_true rfl)) (fun S2 H locs h hP hS => ?_)
  refine lv_aload_n hx hb dX5_meal_16 rfl (lv_at hl 0 rfl) ?_
  refine va_get (D := D) (ci := 5) (v := .ref (a 1)) (C := RX5) (T := TX5) (N := 5) hx hb hts hinX5 hown hK hP 0 rfl rfl 0 (by decide) kf10 (fun _ h9 => h9) rfl dX5_meal_17 ?_
  refine va_getN (D := D) (ci := 3) (v := .int (S2.1 0)) (C := RX3) (T := TX3) (N := 4) hx hb hts hinX3 hown hK hP 1 rfl rfl 3 (by decide) (va_Nw.use rfl kf50) (fun _ h9 => h9) rfl dX5_meal_20 ?_
  refine lv_bipush (v := 6) hx hb dX5_meal_23 (by decide) ?_
  refine lv_icmp_lt (tgt := 38) hx hb dX5_meal_25 (by decide) (fun c3 => ?_) (fun c3 => ?_)
  · have h := h.1 c3
    refine lv_aload_n hx hb dX5_meal_38 rfl (lv_at hl 0 rfl) ?_
    refine va_get (D := D) (ci := 5) (v := .ref (a 1)) (C := RX5) (T := TX5) (N := 5) hx hb hts hinX5 hown hK hP 0 rfl rfl 0 (by decide) kf10 (fun _ h9 => h9) rfl dX5_meal_39 ?_
    refine lv_iload_n hx hb dX5_meal_42 rfl (lv_at hl 1 rfl) ?_
    refine lv_iload_n hx hb dX5_meal_43 rfl (lv_at hl 2 rfl) ?_
    refine k_i (k_runVN cns_ok ⟨hx, hb, hml, hown, hts⟩ (tX3_add l D a c _ p0 p1 S2 _ h) ⟨va_cnB 2 hts gX5_meal_X3_add_n61 rfl rfl rfl kn61 kiX3 (by decide +kernel) ⟨Nat.le_of_ble_eq_true rfl, Nat.le_of_ble_eq_true rfl⟩, kI61, kS61⟩ (va_recv hK hP (ci := 3) (q0 := 1) rfl rfl) hP hK (hD S2) hN rfl rfl hl.1 rfl (lv_room (Nat.le_of_ble_eq_true rfl)) dX5_meal_44 ⟨Nat.le_of_ble_eq_true rfl, Nat.le_of_ble_eq_true rfl⟩) hS (hD S2) hA (fun x5 S4 H locs h hP hS => ?_)
    refine vx_ret ?_
    refine W.widen (k := 3) (n := 18) (Nat.le_of_ble_eq_true rfl) (Nat.le_of_ble_eq_true rfl) ?_
    exact g_reti hx hb hr hlocks h hP hS dX5_meal_47
  · have h := h.2 c3
    exact x_throw (E := "java/lang/IllegalStateException") (text := "there are 6 meals") (ik := 54) (is := 56) (ic := 58) hx hb hl0 hown (fun w hw => hts w (List.mem_cons_of_mem _ (List.mem_append_left _ (List.mem_append_right _ hw)))) (by decide +kernel) (by decide) (by decide +kernel) kx54 ky54 (by decide +kernel) hT hS hl.1 hml dX5_meal_28 dX5_meal_31 dX5_meal_32 dX5_meal_34 dX5_meal_37 hout hlocks h hP (Nat.le_of_ble_eq_true rfl) (Nat.le_of_ble_eq_true rfl) (Nat.le_of_ble_eq_true rfl) (Nat.le_of_ble_eq_true rfl) (Nat.le_of_ble_eq_true rfl) (Nat.le_of_ble_eq_true rfl)
def PX5_ate (p0 : Int32) (p1 : Int32) (S : St) (post : Int32 → St → Prop) (postx : String → St → Prop) : Prop := PX5_needMeal p0 S (fun S1 => PX5_needWithin p1 0 1000 S1 (fun S2 => PX0_tell p0 p1 S2 (fun x4 S3 => post x4 S3)) postx) postx
set_option maxHeartbeats 4000000 in
set_option maxRecDepth 100000 in
theorem tX5_ate (l : Launch) (D : va_G) (a : Nat → Nat) (c : Nat → ClassId) (sz : Nat) (p0 : Int32) (p1 : Int32) (S : St) (post : Int32 → St → Prop) (postx : String → St → Prop) (hl0 : l.stackTraces = false) (h : PX5_ate p0 p1 S post postx) : vx_Met l yX5_ate wsX5_ate ({ frames := 8, cells := 2, slots := 12, locals := 162 }) (va_Pc [.ref (a 0), .int p0, .int p1] (xP D (cw a c) (cty c) cns S sz)) (va_Qi post (gB D (cw a c)) (va_A (cw a c S) sz)) (xX D (cw a c) postx (va_A (cw a c S) sz)) 2 12 (va_A (cw a c S) sz) := by
  refine vx_ofW (cc := cX5_ate) (maxL := 3) (ret := (some .int)) (by decide) rfl ?_
  intro p e s m args below meth c9 s₁ B hml hout hv
  obtain ⟨rfl, hsz, hP, hK, hD0, hN, hT⟩ := hv
  have hx := B.exec
  have hb := B.bytes
  have hr := B.returns
  have hts := atoms_spec (ws := wsX5_ate) B.pre
  have hown : s.vm.findClass RX5 = some m.cls := findClass_of_methodNamed B.named
  have hlocks := B.notSynchronized
  subst hsz
  have hD1 := hD0.self (sz := s.heap.size)
  generalize hAe : va_A (cw a c S) s.heap.size = A at hD1 hT ⊢
  have hA : ∀ q : Nat, s.heap.size ≤ q → A q := fun q h => by rw [← hAe]; exact Or.inr h
  have hD : ∀ S2 : St, va_D A (cw a c S2) := gD cw_F hD1
  have hS : va_S A s.heap s.heap [] := va_S.rf
  have hinX5 : ∀ w ∈ wsX50, w ∈ wsX5_ate := by decide +kernel
  have kI69 := hts (.instanceMethod yX0_tell) (by decide +kernel)
  have kS69 := hts (.selects RX0 yX0_tell yX0_tell) (by decide +kernel)
  have kf19 := hts (.fieldLink RX5 19 "CanteenPlan" "diary" "LCanteenPlan$Diary;") (by decide +kernel)
  have kiX0 := hts (.initialized RX0) (by decide +kernel)
  have kn69 := hN (.methodLinkNest RX5 69 yX0_tell "CanteenPlan") (by decide +kernel)
  have hl := lv_entry ([.ref (a 0), .int p0, .int p1]) (n := 3) (Nat.le_of_ble_eq_true rfl)
  rw [lg_entry_eq]
  generalize (lg_sl ([.ref (a 0), .int p0, .int p1]) ++ List.replicate (3 - (lg_sl ([.ref (a 0), .int p0, .int p1])).length) Slot.unset).toArray = ls at hl ⊢
  have hl : lv_has ls 3 [(0, .ref (a 0)), (1, .int p0), (2, .int p1)] := hl
  unfold PX5_ate at h
  refine lv_aload_n hx hb dX5_ate_0 rfl (lv_at hl 0 rfl) ?_
  refine lv_iload_n hx hb dX5_ate_1 rfl (lv_at hl 1 rfl) ?_
  refine x_v (x_runV cns_ok ⟨hx, hb, hml, hown, hts⟩ (tX5_needMeal l D a c _ p0 S _ _ hl0 h) (cwV 1 hts gX5_ate_X5_needMeal rfl rfl rfl (by decide +kernel) ⟨Nat.le_of_ble_eq_true rfl, Nat.le_of_ble_eq_true rfl⟩) (va_recv hK hP (ci := 5) (q0 := 0) rfl rfl) hP hK (hD S) hN hT hS hA rfl rfl hl.1 rfl (lv_room (Nat.le_of_ble_eq_true rfl)) dX5_ate_2 ⟨Nat.le_of_ble_eq_true rfl, Nat.le_of_ble_eq_true rfl⟩) hS (hD S) hA (fun E q9 ce S9 H locs hw hP hS hq hv hcl => x_out hout hlocks hq hv hcl hw hP hS (Nat.le_of_ble_eq_true rfl) (Nat.le_of_ble_eq_true rfl)) (fun S1 H locs h hP hS => ?_)
  refine lv_iload_n hx hb dX5_ate_5 rfl (lv_at hl 2 rfl) ?_
  refine lv_iconst (v := 0) hx hb dX5_ate_6 (by decide) ?_
  refine lv_sipush (v := 1000) hx hb dX5_ate_7 (by decide) ?_
  refine x_v (x_runS cns_ok ⟨hx, hb, hml, hown, hts⟩ (tX5_needWithin l D a c _ p1 0 1000 S1 _ _ hl0 h) (va_cwS 3 hts gX5_ate_X5_needWithin rfl rfl rfl (by decide +kernel) ⟨Nat.le_of_ble_eq_true rfl, Nat.le_of_ble_eq_true rfl⟩) hP hK (hD S1) hN hT hS hA rfl rfl hl.1 rfl (lv_room (Nat.le_of_ble_eq_true rfl)) dX5_ate_10 ⟨Nat.le_of_ble_eq_true rfl, Nat.le_of_ble_eq_true rfl⟩) hS (hD S1) hA (fun E q9 ce S9 H locs hw hP hS hq hv hcl => x_out hout hlocks hq hv hcl hw hP hS (Nat.le_of_ble_eq_true rfl) (Nat.le_of_ble_eq_true rfl)) (fun S2 H locs h hP hS => ?_)
  refine lv_aload_n hx hb dX5_ate_13 rfl (lv_at hl 0 rfl) ?_
  refine va_get (D := D) (ci := 5) (v := .ref (a 2)) (C := RX5) (T := TX5) (N := 5) hx hb hts hinX5 hown hK hP 0 rfl rfl 1 (by decide) kf19 (fun _ h9 => h9) rfl dX5_ate_14 ?_
  refine lv_iload_n hx hb dX5_ate_17 rfl (lv_at hl 1 rfl) ?_
  refine lv_iload_n hx hb dX5_ate_18 rfl (lv_at hl 2 rfl) ?_
  refine k_i (k_runVN cns_ok ⟨hx, hb, hml, hown, hts⟩ (tX0_tell l D a c _ p0 p1 S2 _ h) ⟨va_cnB 2 hts gX5_ate_X0_tell_n69 rfl rfl rfl kn69 kiX0 (by decide +kernel) ⟨Nat.le_of_ble_eq_true rfl, Nat.le_of_ble_eq_true rfl⟩, kI69, kS69⟩ (va_recv hK hP (ci := 0) (q0 := 2) rfl rfl) hP hK (hD S2) hN rfl rfl hl.1 rfl (lv_room (Nat.le_of_ble_eq_true rfl)) dX5_ate_19 ⟨Nat.le_of_ble_eq_true rfl, Nat.le_of_ble_eq_true rfl⟩) hS (hD S2) hA (fun x4 S3 H locs h hP hS => ?_)
  refine vx_ret ?_
  refine W.widen (k := 2) (n := 12) (Nat.le_of_ble_eq_true rfl) (Nat.le_of_ble_eq_true rfl) ?_
  exact g_reti hx hb hr hlocks h hP hS dX5_ate_22
def PX5_day (p0 : Int32) (S : St) (post : Int32 → St → Prop) (postx : String → St → Prop) : Prop := PX5_needWithin p0 0 255 S (fun S1 => (((S1.1 1) < 150 → ∃ k : Nat, PX0_add k p0 S1 (fun x4 S3 => post x4 S3)) ∧ (¬ (S1.1 1) < 150 → postx "java/lang/IllegalStateException" S1))) postx
set_option maxHeartbeats 4000000 in
set_option maxRecDepth 100000 in
theorem tX5_day (l : Launch) (D : va_G) (a : Nat → Nat) (c : Nat → ClassId) (sz : Nat) (p0 : Int32) (S : St) (post : Int32 → St → Prop) (postx : String → St → Prop) (hl0 : l.stackTraces = false) (h : PX5_day p0 S post postx) : vx_Met l yX5_day wsX5_day ({ frames := 8, cells := 2, slots := 12, locals := 162 }) (va_Pc [.ref (a 0), .int p0] (xP D (cw a c) (cty c) cns S sz)) (va_Qi post (gB D (cw a c)) (va_A (cw a c S) sz)) (xX D (cw a c) postx (va_A (cw a c S) sz)) 2 12 (va_A (cw a c S) sz) := by
  refine vx_ofW (cc := cX5_day) (maxL := 2) (ret := (some .int)) (by decide) rfl ?_
  intro p e s m args below meth c9 s₁ B hml hout hv
  obtain ⟨rfl, hsz, hP, hK, hD0, hN, hT⟩ := hv
  have hx := B.exec
  have hb := B.bytes
  have hr := B.returns
  have hts := atoms_spec (ws := wsX5_day) B.pre
  have hown : s.vm.findClass RX5 = some m.cls := findClass_of_methodNamed B.named
  have hlocks := B.notSynchronized
  subst hsz
  have hD1 := hD0.self (sz := s.heap.size)
  generalize hAe : va_A (cw a c S) s.heap.size = A at hD1 hT ⊢
  have hA : ∀ q : Nat, s.heap.size ≤ q → A q := fun q h => by rw [← hAe]; exact Or.inr h
  have hD : ∀ S2 : St, va_D A (cw a c S2) := gD cw_F hD1
  have hS : va_S A s.heap s.heap [] := va_S.rf
  have hinX0 : ∀ w ∈ wsX00, w ∈ wsX5_day := by decide +kernel
  have hinX5 : ∀ w ∈ wsX50, w ∈ wsX5_day := by decide +kernel
  have kI77 := hts (.instanceMethod yX0_add) (by decide +kernel)
  have kS77 := hts (.selects RX0 yX0_add yX0_add) (by decide +kernel)
  have kf19 := hts (.fieldLink RX5 19 "CanteenPlan" "diary" "LCanteenPlan$Diary;") (by decide +kernel)
  have kf72 := hN (.fieldLinkNest RX5 72 "CanteenPlan$Diary" "inAll" "I" "CanteenPlan") (by decide +kernel)
  have kiX0 := hts (.initialized RX0) (by decide +kernel)
  have kn77 := hN (.methodLinkNest RX5 77 yX0_add "CanteenPlan") (by decide +kernel)
  have kx54 := hts (.classLink RX5 54 "java/lang/IllegalStateException") (by decide +kernel)
  have ky54 := hts (.initialized "java/lang/IllegalStateException") (by decide +kernel)
  have hl := lv_entry ([.ref (a 0), .int p0]) (n := 2) (Nat.le_of_ble_eq_true rfl)
  rw [lg_entry_eq]
  generalize (lg_sl ([.ref (a 0), .int p0]) ++ List.replicate (2 - (lg_sl ([.ref (a 0), .int p0])).length) Slot.unset).toArray = ls at hl ⊢
  have hl : lv_has ls 2 [(0, .ref (a 0)), (1, .int p0)] := hl
  unfold PX5_day at h
  refine lv_iload_n hx hb dX5_day_0 rfl (lv_at hl 1 rfl) ?_
  refine lv_iconst (v := 0) hx hb dX5_day_1 (by decide) ?_
  refine lv_sipush (v := 255) hx hb dX5_day_2 (by decide) ?_
  refine x_v (x_runS cns_ok ⟨hx, hb, hml, hown, hts⟩ (tX5_needWithin l D a c _ p0 0 255 S _ _ hl0 h) (va_cwS 3 hts gX5_day_X5_needWithin rfl rfl rfl (by decide +kernel) ⟨Nat.le_of_ble_eq_true rfl, Nat.le_of_ble_eq_true rfl⟩) hP hK (hD S) hN hT hS hA rfl rfl hl.1 rfl (lv_room (Nat.le_of_ble_eq_true rfl)) dX5_day_5 ⟨Nat.le_of_ble_eq_true rfl, Nat.le_of_ble_eq_true rfl⟩) hS (hD S) hA (fun E q9 ce S9 H locs hw hP hS hq hv hcl => x_out hout hlocks hq hv hcl hw hP hS (Nat.le_of_ble_eq_true rfl) (Nat.le_of_ble_eq_true rfl)) (fun S1 H locs h hP hS => ?_)
  refine lv_aload_n hx hb dX5_day_8 rfl (lv_at hl 0 rfl) ?_
  refine va_get (D := D) (ci := 5) (v := .ref (a 2)) (C := RX5) (T := TX5) (N := 5) hx hb hts hinX5 hown hK hP 0 rfl rfl 1 (by decide) kf19 (fun _ h9 => h9) rfl dX5_day_9 ?_
  refine va_getN (D := D) (ci := 0) (v := .int (S1.1 1)) (C := RX0) (T := TX0) (N := 7) hx hb hts hinX0 hown hK hP 2 rfl rfl 5 (by decide) (va_Nw.use rfl kf72) (fun _ h9 => h9) rfl dX5_day_12 ?_
  refine lv_sipush (v := 150) hx hb dX5_day_15 (by decide) ?_
  refine lv_icmp_lt (tgt := 31) hx hb dX5_day_18 (by decide) (fun c2 => ?_) (fun c2 => ?_)
  · have h := h.1 c2
    refine lv_aload_n hx hb dX5_day_31 rfl (lv_at hl 0 rfl) ?_
    refine va_get (D := D) (ci := 5) (v := .ref (a 2)) (C := RX5) (T := TX5) (N := 5) hx hb hts hinX5 hown hK hP 0 rfl rfl 1 (by decide) kf19 (fun _ h9 => h9) rfl dX5_day_32 ?_
    refine lv_iload_n hx hb dX5_day_35 rfl (lv_at hl 1 rfl) ?_
    obtain ⟨k5, h⟩ := h
    refine k_i (k_runVN cns_ok ⟨hx, hb, hml, hown, hts⟩ (tX0_add l D a c _ k5 p0 S1 _ h) ⟨va_cnB 1 hts gX5_day_X0_add_n77 rfl rfl rfl kn77 kiX0 (by decide +kernel) ⟨Nat.le_of_ble_eq_true rfl, Nat.le_of_ble_eq_true rfl⟩, kI77, kS77⟩ (va_recv hK hP (ci := 0) (q0 := 2) rfl rfl) hP hK (hD S1) hN rfl rfl hl.1 rfl (lv_room (Nat.le_of_ble_eq_true rfl)) dX5_day_36 ⟨Nat.le_of_ble_eq_true rfl, Nat.le_of_ble_eq_true rfl⟩) hS (hD S1) hA (fun x4 S3 H locs h hP hS => ?_)
    refine vx_ret ?_
    refine W.widen (k := 2) (n := 12) (Nat.le_of_ble_eq_true rfl) (Nat.le_of_ble_eq_true rfl) ?_
    exact g_reti hx hb hr hlocks h hP hS dX5_day_39
  · have h := h.2 c2
    exact x_throw (E := "java/lang/IllegalStateException") (text := "there were 150 days") (ik := 54) (is := 75) (ic := 58) hx hb hl0 hown (fun w hw => hts w (List.mem_cons_of_mem _ (List.mem_append_left _ (List.mem_append_right _ hw)))) (by decide +kernel) (by decide) (by decide +kernel) kx54 ky54 (by decide +kernel) hT hS hl.1 hml dX5_day_21 dX5_day_24 dX5_day_25 dX5_day_27 dX5_day_30 hout hlocks h hP (Nat.le_of_ble_eq_true rfl) (Nat.le_of_ble_eq_true rfl) (Nat.le_of_ble_eq_true rfl) (Nat.le_of_ble_eq_true rfl) (Nat.le_of_ble_eq_true rfl) (Nat.le_of_ble_eq_true rfl)
def PX5_drop (p0 : Int32) (S : St) (post : Int32 → St → Prop) (postx : String → St → Prop) : Prop := ((p0 < 0 → postx "java/lang/IndexOutOfBoundsException" S) ∧ (¬ p0 < 0 → ((p0 < (S.1 1) → PX0_takeAway p0 S (fun x4 S3 => ((x4 = 0 ∨ x4 = 1) ∧ post x4 S3))) ∧ (¬ p0 < (S.1 1) → postx "java/lang/IndexOutOfBoundsException" S))))
set_option maxHeartbeats 4000000 in
set_option maxRecDepth 100000 in
theorem tX5_drop (l : Launch) (D : va_G) (a : Nat → Nat) (c : Nat → ClassId) (sz : Nat) (p0 : Int32) (S : St) (post : Int32 → St → Prop) (postx : String → St → Prop) (hl0 : l.stackTraces = false) (h : PX5_drop p0 S post postx) : vx_Met l yX5_drop wsX5_drop ({ frames := 7, cells := 1, slots := 6, locals := 140 }) (va_Pc [.ref (a 0), .int p0] (xP D (cw a c) (cty c) cns S sz)) (va_Qi post (gB D (cw a c)) (va_A (cw a c S) sz)) (xX D (cw a c) postx (va_A (cw a c S) sz)) 1 6 (va_A (cw a c S) sz) := by
  refine vx_ofW (cc := cX5_drop) (maxL := 2) (ret := (some .boolean)) (by decide) rfl ?_
  intro p e s m args below meth c9 s₁ B hml hout hv
  obtain ⟨rfl, hsz, hP, hK, hD0, hN, hT⟩ := hv
  have hx := B.exec
  have hb := B.bytes
  have hr := B.returns
  have hts := atoms_spec (ws := wsX5_drop) B.pre
  have hown : s.vm.findClass RX5 = some m.cls := findClass_of_methodNamed B.named
  have hlocks := B.notSynchronized
  subst hsz
  have hD1 := hD0.self (sz := s.heap.size)
  generalize hAe : va_A (cw a c S) s.heap.size = A at hD1 hT ⊢
  have hA : ∀ q : Nat, s.heap.size ≤ q → A q := fun q h => by rw [← hAe]; exact Or.inr h
  have hD : ∀ S2 : St, va_D A (cw a c S2) := gD cw_F hD1
  have hS : va_S A s.heap s.heap [] := va_S.rf
  have hinX0 : ∀ w ∈ wsX00, w ∈ wsX5_drop := by decide +kernel
  have hinX5 : ∀ w ∈ wsX50, w ∈ wsX5_drop := by decide +kernel
  have kI85 := hts (.instanceMethod yX0_takeAway) (by decide +kernel)
  have kS85 := hts (.selects RX0 yX0_takeAway yX0_takeAway) (by decide +kernel)
  have kf19 := hts (.fieldLink RX5 19 "CanteenPlan" "diary" "LCanteenPlan$Diary;") (by decide +kernel)
  have kf72 := hN (.fieldLinkNest RX5 72 "CanteenPlan$Diary" "inAll" "I" "CanteenPlan") (by decide +kernel)
  have kiX0 := hts (.initialized RX0) (by decide +kernel)
  have kn85 := hN (.methodLinkNest RX5 85 yX0_takeAway "CanteenPlan") (by decide +kernel)
  have kx80 := hts (.classLink RX5 80 "java/lang/IndexOutOfBoundsException") (by decide +kernel)
  have ky80 := hts (.initialized "java/lang/IndexOutOfBoundsException") (by decide +kernel)
  have hl := lv_entry ([.ref (a 0), .int p0]) (n := 2) (Nat.le_of_ble_eq_true rfl)
  rw [lg_entry_eq]
  generalize (lg_sl ([.ref (a 0), .int p0]) ++ List.replicate (2 - (lg_sl ([.ref (a 0), .int p0])).length) Slot.unset).toArray = ls at hl ⊢
  have hl : lv_has ls 2 [(0, .ref (a 0)), (1, .int p0)] := hl
  unfold PX5_drop at h
  refine lv_iload_n hx hb dX5_drop_0 rfl (lv_at hl 1 rfl) ?_
  refine lv_if_lt (tgt := 15) hx hb dX5_drop_1 (by decide) (fun c1 => ?_) (fun c1 => ?_)
  · have h := h.1 c1
    exact x_throw (E := "java/lang/IndexOutOfBoundsException") (text := "there was no such day") (ik := 80) (is := 82) (ic := 84) hx hb hl0 hown (fun w hw => hts w (List.mem_cons_of_mem _ (List.mem_append_right _ hw))) (by decide +kernel) (by decide) (by decide +kernel) kx80 ky80 (by decide +kernel) hT hS hl.1 hml dX5_drop_15 dX5_drop_18 dX5_drop_19 dX5_drop_21 dX5_drop_24 hout hlocks h hP (Nat.le_of_ble_eq_true rfl) (Nat.le_of_ble_eq_true rfl) (Nat.le_of_ble_eq_true rfl) (Nat.le_of_ble_eq_true rfl) (Nat.le_of_ble_eq_true rfl) (Nat.le_of_ble_eq_true rfl)
  · have h := h.2 c1
    refine lv_iload_n hx hb dX5_drop_4 rfl (lv_at hl 1 rfl) ?_
    refine lv_aload_n hx hb dX5_drop_5 rfl (lv_at hl 0 rfl) ?_
    refine va_get (D := D) (ci := 5) (v := .ref (a 2)) (C := RX5) (T := TX5) (N := 5) hx hb hts hinX5 hown hK hP 0 rfl rfl 1 (by decide) kf19 (fun _ h9 => h9) rfl dX5_drop_6 ?_
    refine va_getN (D := D) (ci := 0) (v := .int (S.1 1)) (C := RX0) (T := TX0) (N := 7) hx hb hts hinX0 hown hK hP 2 rfl rfl 5 (by decide) (va_Nw.use rfl kf72) (fun _ h9 => h9) rfl dX5_drop_9 ?_
    refine lv_icmp_lt (tgt := 25) hx hb dX5_drop_12 (by decide) (fun c2 => ?_) (fun c2 => ?_)
    · have h := h.1 c2
      refine lv_aload_n hx hb dX5_drop_25 rfl (lv_at hl 0 rfl) ?_
      refine va_get (D := D) (ci := 5) (v := .ref (a 2)) (C := RX5) (T := TX5) (N := 5) hx hb hts hinX5 hown hK hP 0 rfl rfl 1 (by decide) kf19 (fun _ h9 => h9) rfl dX5_drop_26 ?_
      refine lv_iload_n hx hb dX5_drop_29 rfl (lv_at hl 1 rfl) ?_
      refine k_i (k_runVN cns_ok ⟨hx, hb, hml, hown, hts⟩ (tX0_takeAway l D a c _ p0 S _ h) ⟨va_cnB 1 hts gX5_drop_X0_takeAway_n85 rfl rfl rfl kn85 kiX0 (by decide +kernel) ⟨Nat.le_of_ble_eq_true rfl, Nat.le_of_ble_eq_true rfl⟩, kI85, kS85⟩ (va_recv hK hP (ci := 0) (q0 := 2) rfl rfl) hP hK (hD S) hN rfl rfl hl.1 rfl (lv_room (Nat.le_of_ble_eq_true rfl)) dX5_drop_30 ⟨Nat.le_of_ble_eq_true rfl, Nat.le_of_ble_eq_true rfl⟩) hS (hD S) hA (fun x4 S3 H locs h hP hS => ?_)
      refine vx_ret ?_
      refine W.widen (k := 1) (n := 6) (Nat.le_of_ble_eq_true rfl) (Nat.le_of_ble_eq_true rfl) ?_
      exact g_retz hx hb hr hlocks h.1 h.2 hP hS dX5_drop_33
    · have h := h.2 c2
      exact x_throw (E := "java/lang/IndexOutOfBoundsException") (text := "there was no such day") (ik := 80) (is := 82) (ic := 84) hx hb hl0 hown (fun w hw => hts w (List.mem_cons_of_mem _ (List.mem_append_right _ hw))) (by decide +kernel) (by decide) (by decide +kernel) kx80 ky80 (by decide +kernel) hT hS hl.1 hml dX5_drop_15 dX5_drop_18 dX5_drop_19 dX5_drop_21 dX5_drop_24 hout hlocks h hP (Nat.le_of_ble_eq_true rfl) (Nat.le_of_ble_eq_true rfl) (Nat.le_of_ble_eq_true rfl) (Nat.le_of_ble_eq_true rfl) (Nat.le_of_ble_eq_true rfl) (Nat.le_of_ble_eq_true rfl)
def PX5_leaves (p0 : Int32) (S : St) (post : Int32 → St → Prop) (postx : String → St → Prop) : Prop := PX5_needMeal p0 S (fun S1 => PX4_leavesBelow 8 p0 0 0 0 S1 (fun x3 S2 => post x3 S2)) postx
set_option maxHeartbeats 4000000 in
set_option maxRecDepth 100000 in
theorem tX5_leaves (l : Launch) (D : va_G) (a : Nat → Nat) (c : Nat → ClassId) (sz : Nat) (p0 : Int32) (S : St) (post : Int32 → St → Prop) (postx : String → St → Prop) (hl0 : l.stackTraces = false) (h : PX5_leaves p0 S post postx) : vx_Met l yX5_leaves wsX5_leaves ({ frames := 12, cells := 1, slots := 6, locals := 319 }) (va_Pc [.ref (a 0), .int p0] (xP D (cw a c) (cty c) cns S sz)) (va_Qi post (gB D (cw a c)) (va_A (cw a c S) sz)) (xX D (cw a c) postx (va_A (cw a c S) sz)) 1 6 (va_A (cw a c S) sz) := by
  refine vx_ofW (cc := cX5_leaves) (maxL := 2) (ret := (some .int)) (by decide) rfl ?_
  intro p e s m args below meth c9 s₁ B hml hout hv
  obtain ⟨rfl, hsz, hP, hK, hD0, hN, hT⟩ := hv
  have hx := B.exec
  have hb := B.bytes
  have hr := B.returns
  have hts := atoms_spec (ws := wsX5_leaves) B.pre
  have hown : s.vm.findClass RX5 = some m.cls := findClass_of_methodNamed B.named
  have hlocks := B.notSynchronized
  subst hsz
  have hD1 := hD0.self (sz := s.heap.size)
  generalize hAe : va_A (cw a c S) s.heap.size = A at hD1 hT ⊢
  have hA : ∀ q : Nat, s.heap.size ≤ q → A q := fun q h => by rw [← hAe]; exact Or.inr h
  have hD : ∀ S2 : St, va_D A (cw a c S2) := gD cw_F hD1
  have hS : va_S A s.heap s.heap [] := va_S.rf
  have hinX5 : ∀ w ∈ wsX50, w ∈ wsX5_leaves := by decide +kernel
  have kI89 := hts (.instanceMethod yX4_leavesBelow) (by decide +kernel)
  have kS89 := hts (.selects RX4 yX4_leavesBelow yX4_leavesBelow) (by decide +kernel)
  have kf28 := hts (.fieldLink RX5 28 "CanteenPlan" "tree" "LCanteenPlan$Tree;") (by decide +kernel)
  have kiX4 := hts (.initialized RX4) (by decide +kernel)
  have kn89 := hN (.methodLinkNest RX5 89 yX4_leavesBelow "CanteenPlan") (by decide +kernel)
  have hl := lv_entry ([.ref (a 0), .int p0]) (n := 2) (Nat.le_of_ble_eq_true rfl)
  rw [lg_entry_eq]
  generalize (lg_sl ([.ref (a 0), .int p0]) ++ List.replicate (2 - (lg_sl ([.ref (a 0), .int p0])).length) Slot.unset).toArray = ls at hl ⊢
  have hl : lv_has ls 2 [(0, .ref (a 0)), (1, .int p0)] := hl
  unfold PX5_leaves at h
  refine lv_aload_n hx hb dX5_leaves_0 rfl (lv_at hl 0 rfl) ?_
  refine lv_iload_n hx hb dX5_leaves_1 rfl (lv_at hl 1 rfl) ?_
  refine x_v (x_runV cns_ok ⟨hx, hb, hml, hown, hts⟩ (tX5_needMeal l D a c _ p0 S _ _ hl0 h) (cwV 1 hts gX5_leaves_X5_needMeal rfl rfl rfl (by decide +kernel) ⟨Nat.le_of_ble_eq_true rfl, Nat.le_of_ble_eq_true rfl⟩) (va_recv hK hP (ci := 5) (q0 := 0) rfl rfl) hP hK (hD S) hN hT hS hA rfl rfl hl.1 rfl (lv_room (Nat.le_of_ble_eq_true rfl)) dX5_leaves_2 ⟨Nat.le_of_ble_eq_true rfl, Nat.le_of_ble_eq_true rfl⟩) hS (hD S) hA (fun E q9 ce S9 H locs hw hP hS hq hv hcl => x_out hout hlocks hq hv hcl hw hP hS (Nat.le_of_ble_eq_true rfl) (Nat.le_of_ble_eq_true rfl)) (fun S1 H locs h hP hS => ?_)
  refine lv_aload_n hx hb dX5_leaves_5 rfl (lv_at hl 0 rfl) ?_
  refine va_get (D := D) (ci := 5) (v := .ref (a 3)) (C := RX5) (T := TX5) (N := 5) hx hb hts hinX5 hown hK hP 0 rfl rfl 2 (by decide) kf28 (fun _ h9 => h9) rfl dX5_leaves_6 ?_
  refine lv_iload_n hx hb dX5_leaves_9 rfl (lv_at hl 1 rfl) ?_
  refine lv_iconst (v := 0) hx hb dX5_leaves_10 (by decide) ?_
  refine lv_iconst (v := 0) hx hb dX5_leaves_11 (by decide) ?_
  refine lv_iconst (v := 0) hx hb dX5_leaves_12 (by decide) ?_
  refine k_i (k_runVN cns_ok ⟨hx, hb, hml, hown, hts⟩ (tX4_leavesBelow l D a c 8 _ p0 0 0 0 S1 _ h) ⟨va_cnB 4 hts gX5_leaves_X4_leavesBelow_n89 rfl rfl rfl kn89 kiX4 (by decide +kernel) ⟨Nat.le_of_ble_eq_true rfl, Nat.le_of_ble_eq_true rfl⟩, kI89, kS89⟩ (va_recv hK hP (ci := 4) (q0 := 3) rfl rfl) hP hK (hD S1) hN rfl rfl hl.1 rfl (lv_room (Nat.le_of_ble_eq_true rfl)) dX5_leaves_13 ⟨Nat.le_of_ble_eq_true rfl, Nat.le_of_ble_eq_true rfl⟩) hS (hD S1) hA (fun x3 S2 H locs h hP hS => ?_)
  refine vx_ret ?_
  refine W.widen (k := 1) (n := 6) (Nat.le_of_ble_eq_true rfl) (Nat.le_of_ble_eq_true rfl) ?_
  exact g_reti hx hb hr hlocks h hP hS dX5_leaves_16
def PX5_split (p0 : Int32) (p1 : Int32) (p2 : Int32) (S : St) (post : Int32 → St → Prop) (postx : String → St → Prop) : Prop := PX5_needMeal p0 S (fun S1 => PX5_needWithin p1 0 255 S1 (fun S2 => ∃ k : Nat, PX4_markOnTheWay k p0 p1 p2 S2 (fun x4 S3 => post x4 S3)) postx) postx
set_option maxHeartbeats 4000000 in
set_option maxRecDepth 100000 in
theorem tX5_split (l : Launch) (D : va_G) (a : Nat → Nat) (c : Nat → ClassId) (sz : Nat) (p0 : Int32) (p1 : Int32) (p2 : Int32) (S : St) (post : Int32 → St → Prop) (postx : String → St → Prop) (hl0 : l.stackTraces = false) (h : PX5_split p0 p1 p2 S post postx) : vx_Met l yX5_split wsX5_split ({ frames := 8, cells := 2, slots := 12, locals := 162 }) (va_Pc [.ref (a 0), .int p0, .int p1, .int p2] (xP D (cw a c) (cty c) cns S sz)) (va_Qi post (gB D (cw a c)) (va_A (cw a c S) sz)) (xX D (cw a c) postx (va_A (cw a c S) sz)) 2 12 (va_A (cw a c S) sz) := by
  refine vx_ofW (cc := cX5_split) (maxL := 4) (ret := (some .int)) (by decide) rfl ?_
  intro p e s m args below meth c9 s₁ B hml hout hv
  obtain ⟨rfl, hsz, hP, hK, hD0, hN, hT⟩ := hv
  have hx := B.exec
  have hb := B.bytes
  have hr := B.returns
  have hts := atoms_spec (ws := wsX5_split) B.pre
  have hown : s.vm.findClass RX5 = some m.cls := findClass_of_methodNamed B.named
  have hlocks := B.notSynchronized
  subst hsz
  have hD1 := hD0.self (sz := s.heap.size)
  generalize hAe : va_A (cw a c S) s.heap.size = A at hD1 hT ⊢
  have hA : ∀ q : Nat, s.heap.size ≤ q → A q := fun q h => by rw [← hAe]; exact Or.inr h
  have hD : ∀ S2 : St, va_D A (cw a c S2) := gD cw_F hD1
  have hS : va_S A s.heap s.heap [] := va_S.rf
  have hinX5 : ∀ w ∈ wsX50, w ∈ wsX5_split := by decide +kernel
  have kI93 := hts (.instanceMethod yX4_markOnTheWay) (by decide +kernel)
  have kS93 := hts (.selects RX4 yX4_markOnTheWay yX4_markOnTheWay) (by decide +kernel)
  have kf28 := hts (.fieldLink RX5 28 "CanteenPlan" "tree" "LCanteenPlan$Tree;") (by decide +kernel)
  have kiX4 := hts (.initialized RX4) (by decide +kernel)
  have kn93 := hN (.methodLinkNest RX5 93 yX4_markOnTheWay "CanteenPlan") (by decide +kernel)
  have hl := lv_entry ([.ref (a 0), .int p0, .int p1, .int p2]) (n := 4) (Nat.le_of_ble_eq_true rfl)
  rw [lg_entry_eq]
  generalize (lg_sl ([.ref (a 0), .int p0, .int p1, .int p2]) ++ List.replicate (4 - (lg_sl ([.ref (a 0), .int p0, .int p1, .int p2])).length) Slot.unset).toArray = ls at hl ⊢
  have hl : lv_has ls 4 [(0, .ref (a 0)), (1, .int p0), (2, .int p1), (3, .int p2)] := hl
  unfold PX5_split at h
  refine lv_aload_n hx hb dX5_split_0 rfl (lv_at hl 0 rfl) ?_
  refine lv_iload_n hx hb dX5_split_1 rfl (lv_at hl 1 rfl) ?_
  refine x_v (x_runV cns_ok ⟨hx, hb, hml, hown, hts⟩ (tX5_needMeal l D a c _ p0 S _ _ hl0 h) (cwV 1 hts gX5_split_X5_needMeal rfl rfl rfl (by decide +kernel) ⟨Nat.le_of_ble_eq_true rfl, Nat.le_of_ble_eq_true rfl⟩) (va_recv hK hP (ci := 5) (q0 := 0) rfl rfl) hP hK (hD S) hN hT hS hA rfl rfl hl.1 rfl (lv_room (Nat.le_of_ble_eq_true rfl)) dX5_split_2 ⟨Nat.le_of_ble_eq_true rfl, Nat.le_of_ble_eq_true rfl⟩) hS (hD S) hA (fun E q9 ce S9 H locs hw hP hS hq hv hcl => x_out hout hlocks hq hv hcl hw hP hS (Nat.le_of_ble_eq_true rfl) (Nat.le_of_ble_eq_true rfl)) (fun S1 H locs h hP hS => ?_)
  refine lv_iload_n hx hb dX5_split_5 rfl (lv_at hl 2 rfl) ?_
  refine lv_iconst (v := 0) hx hb dX5_split_6 (by decide) ?_
  refine lv_sipush (v := 255) hx hb dX5_split_7 (by decide) ?_
  refine x_v (x_runS cns_ok ⟨hx, hb, hml, hown, hts⟩ (tX5_needWithin l D a c _ p1 0 255 S1 _ _ hl0 h) (va_cwS 3 hts gX5_split_X5_needWithin rfl rfl rfl (by decide +kernel) ⟨Nat.le_of_ble_eq_true rfl, Nat.le_of_ble_eq_true rfl⟩) hP hK (hD S1) hN hT hS hA rfl rfl hl.1 rfl (lv_room (Nat.le_of_ble_eq_true rfl)) dX5_split_10 ⟨Nat.le_of_ble_eq_true rfl, Nat.le_of_ble_eq_true rfl⟩) hS (hD S1) hA (fun E q9 ce S9 H locs hw hP hS hq hv hcl => x_out hout hlocks hq hv hcl hw hP hS (Nat.le_of_ble_eq_true rfl) (Nat.le_of_ble_eq_true rfl)) (fun S2 H locs h hP hS => ?_)
  refine lv_aload_n hx hb dX5_split_13 rfl (lv_at hl 0 rfl) ?_
  refine va_get (D := D) (ci := 5) (v := .ref (a 3)) (C := RX5) (T := TX5) (N := 5) hx hb hts hinX5 hown hK hP 0 rfl rfl 2 (by decide) kf28 (fun _ h9 => h9) rfl dX5_split_14 ?_
  refine lv_iload_n hx hb dX5_split_17 rfl (lv_at hl 1 rfl) ?_
  refine lv_iload_n hx hb dX5_split_18 rfl (lv_at hl 2 rfl) ?_
  refine lv_iload_n hx hb dX5_split_19 rfl (lv_at hl 3 rfl) ?_
  obtain ⟨k5, h⟩ := h
  refine k_i (k_runVN cns_ok ⟨hx, hb, hml, hown, hts⟩ (tX4_markOnTheWay l D a c _ k5 p0 p1 p2 S2 _ h) ⟨va_cnB 3 hts gX5_split_X4_markOnTheWay_n93 rfl rfl rfl kn93 kiX4 (by decide +kernel) ⟨Nat.le_of_ble_eq_true rfl, Nat.le_of_ble_eq_true rfl⟩, kI93, kS93⟩ (va_recv hK hP (ci := 4) (q0 := 3) rfl rfl) hP hK (hD S2) hN rfl rfl hl.1 rfl (lv_room (Nat.le_of_ble_eq_true rfl)) dX5_split_20 ⟨Nat.le_of_ble_eq_true rfl, Nat.le_of_ble_eq_true rfl⟩) hS (hD S2) hA (fun x4 S3 H locs h hP hS => ?_)
  refine vx_ret ?_
  refine W.widen (k := 2) (n := 12) (Nat.le_of_ble_eq_true rfl) (Nat.le_of_ble_eq_true rfl) ?_
  exact g_reti hx hb hr hlocks h hP hS dX5_split_23
def PX5_leaf (p0 : Int32) (p1 : Int32) (p2 : Int32) (S : St) (post : Int32 → St → Prop) (postx : String → St → Prop) : Prop := PX5_needMeal p0 S (fun S1 => PX5_needWithin p1 0 255 S1 (fun S2 => PX5_needWithin p2 0 3 S2 (fun S3 => ∃ k : Nat, PX4_askedOnTheWay k p0 p1 S3 (fun x5 S4 => ∃ k : Nat, PX0_factOf k p0 x5 p1 p2 S4 (fun x8 S7 => post x8 S7))) postx) postx) postx
set_option maxHeartbeats 4000000 in
set_option maxRecDepth 100000 in
theorem tX5_leaf (l : Launch) (D : va_G) (a : Nat → Nat) (c : Nat → ClassId) (sz : Nat) (p0 : Int32) (p1 : Int32) (p2 : Int32) (S : St) (post : Int32 → St → Prop) (postx : String → St → Prop) (hl0 : l.stackTraces = false) (h : PX5_leaf p0 p1 p2 S post postx) : vx_Met l yX5_leaf wsX5_leaf ({ frames := 8, cells := 3, slots := 18, locals := 162 }) (va_Pc [.ref (a 0), .int p0, .int p1, .int p2] (xP D (cw a c) (cty c) cns S sz)) (va_Qi post (gB D (cw a c)) (va_A (cw a c S) sz)) (xX D (cw a c) postx (va_A (cw a c S) sz)) 3 18 (va_A (cw a c S) sz) := by
  refine vx_ofW (cc := cX5_leaf) (maxL := 4) (ret := (some .int)) (by decide) rfl ?_
  intro p e s m args below meth c9 s₁ B hml hout hv
  obtain ⟨rfl, hsz, hP, hK, hD0, hN, hT⟩ := hv
  have hx := B.exec
  have hb := B.bytes
  have hr := B.returns
  have hts := atoms_spec (ws := wsX5_leaf) B.pre
  have hown : s.vm.findClass RX5 = some m.cls := findClass_of_methodNamed B.named
  have hlocks := B.notSynchronized
  subst hsz
  have hD1 := hD0.self (sz := s.heap.size)
  generalize hAe : va_A (cw a c S) s.heap.size = A at hD1 hT ⊢
  have hA : ∀ q : Nat, s.heap.size ≤ q → A q := fun q h => by rw [← hAe]; exact Or.inr h
  have hD : ∀ S2 : St, va_D A (cw a c S2) := gD cw_F hD1
  have hS : va_S A s.heap s.heap [] := va_S.rf
  have hinX5 : ∀ w ∈ wsX50, w ∈ wsX5_leaf := by decide +kernel
  have kI100 := hts (.instanceMethod yX0_factOf) (by decide +kernel)
  have kI97 := hts (.instanceMethod yX4_askedOnTheWay) (by decide +kernel)
  have kS100 := hts (.selects RX0 yX0_factOf yX0_factOf) (by decide +kernel)
  have kS97 := hts (.selects RX4 yX4_askedOnTheWay yX4_askedOnTheWay) (by decide +kernel)
  have kf19 := hts (.fieldLink RX5 19 "CanteenPlan" "diary" "LCanteenPlan$Diary;") (by decide +kernel)
  have kf28 := hts (.fieldLink RX5 28 "CanteenPlan" "tree" "LCanteenPlan$Tree;") (by decide +kernel)
  have kiX0 := hts (.initialized RX0) (by decide +kernel)
  have kiX4 := hts (.initialized RX4) (by decide +kernel)
  have kn100 := hN (.methodLinkNest RX5 100 yX0_factOf "CanteenPlan") (by decide +kernel)
  have kn97 := hN (.methodLinkNest RX5 97 yX4_askedOnTheWay "CanteenPlan") (by decide +kernel)
  have hl := lv_entry ([.ref (a 0), .int p0, .int p1, .int p2]) (n := 4) (Nat.le_of_ble_eq_true rfl)
  rw [lg_entry_eq]
  generalize (lg_sl ([.ref (a 0), .int p0, .int p1, .int p2]) ++ List.replicate (4 - (lg_sl ([.ref (a 0), .int p0, .int p1, .int p2])).length) Slot.unset).toArray = ls at hl ⊢
  have hl : lv_has ls 4 [(0, .ref (a 0)), (1, .int p0), (2, .int p1), (3, .int p2)] := hl
  unfold PX5_leaf at h
  refine lv_aload_n hx hb dX5_leaf_0 rfl (lv_at hl 0 rfl) ?_
  refine lv_iload_n hx hb dX5_leaf_1 rfl (lv_at hl 1 rfl) ?_
  refine x_v (x_runV cns_ok ⟨hx, hb, hml, hown, hts⟩ (tX5_needMeal l D a c _ p0 S _ _ hl0 h) (cwV 1 hts gX5_leaf_X5_needMeal rfl rfl rfl (by decide +kernel) ⟨Nat.le_of_ble_eq_true rfl, Nat.le_of_ble_eq_true rfl⟩) (va_recv hK hP (ci := 5) (q0 := 0) rfl rfl) hP hK (hD S) hN hT hS hA rfl rfl hl.1 rfl (lv_room (Nat.le_of_ble_eq_true rfl)) dX5_leaf_2 ⟨Nat.le_of_ble_eq_true rfl, Nat.le_of_ble_eq_true rfl⟩) hS (hD S) hA (fun E q9 ce S9 H locs hw hP hS hq hv hcl => x_out hout hlocks hq hv hcl hw hP hS (Nat.le_of_ble_eq_true rfl) (Nat.le_of_ble_eq_true rfl)) (fun S1 H locs h hP hS => ?_)
  refine lv_iload_n hx hb dX5_leaf_5 rfl (lv_at hl 2 rfl) ?_
  refine lv_iconst (v := 0) hx hb dX5_leaf_6 (by decide) ?_
  refine lv_sipush (v := 255) hx hb dX5_leaf_7 (by decide) ?_
  refine x_v (x_runS cns_ok ⟨hx, hb, hml, hown, hts⟩ (tX5_needWithin l D a c _ p1 0 255 S1 _ _ hl0 h) (va_cwS 3 hts gX5_leaf_X5_needWithin rfl rfl rfl (by decide +kernel) ⟨Nat.le_of_ble_eq_true rfl, Nat.le_of_ble_eq_true rfl⟩) hP hK (hD S1) hN hT hS hA rfl rfl hl.1 rfl (lv_room (Nat.le_of_ble_eq_true rfl)) dX5_leaf_10 ⟨Nat.le_of_ble_eq_true rfl, Nat.le_of_ble_eq_true rfl⟩) hS (hD S1) hA (fun E q9 ce S9 H locs hw hP hS hq hv hcl => x_out hout hlocks hq hv hcl hw hP hS (Nat.le_of_ble_eq_true rfl) (Nat.le_of_ble_eq_true rfl)) (fun S2 H locs h hP hS => ?_)
  refine lv_iload_n hx hb dX5_leaf_13 rfl (lv_at hl 3 rfl) ?_
  refine lv_iconst (v := 0) hx hb dX5_leaf_14 (by decide) ?_
  refine lv_iconst (v := 3) hx hb dX5_leaf_15 (by decide) ?_
  refine x_v (x_runS cns_ok ⟨hx, hb, hml, hown, hts⟩ (tX5_needWithin l D a c _ p2 0 3 S2 _ _ hl0 h) (va_cwS 3 hts gX5_leaf_X5_needWithin rfl rfl rfl (by decide +kernel) ⟨Nat.le_of_ble_eq_true rfl, Nat.le_of_ble_eq_true rfl⟩) hP hK (hD S2) hN hT hS hA rfl rfl hl.1 rfl (lv_room (Nat.le_of_ble_eq_true rfl)) dX5_leaf_16 ⟨Nat.le_of_ble_eq_true rfl, Nat.le_of_ble_eq_true rfl⟩) hS (hD S2) hA (fun E q9 ce S9 H locs hw hP hS hq hv hcl => x_out hout hlocks hq hv hcl hw hP hS (Nat.le_of_ble_eq_true rfl) (Nat.le_of_ble_eq_true rfl)) (fun S3 H locs h hP hS => ?_)
  refine lv_aload_n hx hb dX5_leaf_19 rfl (lv_at hl 0 rfl) ?_
  refine va_get (D := D) (ci := 5) (v := .ref (a 2)) (C := RX5) (T := TX5) (N := 5) hx hb hts hinX5 hown hK hP 0 rfl rfl 1 (by decide) kf19 (fun _ h9 => h9) rfl dX5_leaf_20 ?_
  refine lv_iload_n hx hb dX5_leaf_23 rfl (lv_at hl 1 rfl) ?_
  refine lv_aload_n hx hb dX5_leaf_24 rfl (lv_at hl 0 rfl) ?_
  refine va_get (D := D) (ci := 5) (v := .ref (a 3)) (C := RX5) (T := TX5) (N := 5) hx hb hts hinX5 hown hK hP 0 rfl rfl 2 (by decide) kf28 (fun _ h9 => h9) rfl dX5_leaf_25 ?_
  refine lv_iload_n hx hb dX5_leaf_28 rfl (lv_at hl 1 rfl) ?_
  refine lv_iload_n hx hb dX5_leaf_29 rfl (lv_at hl 2 rfl) ?_
  obtain ⟨k6, h⟩ := h
  refine k_i (k_runVN cns_ok ⟨hx, hb, hml, hown, hts⟩ (tX4_askedOnTheWay l D a c _ k6 p0 p1 S3 _ h) ⟨va_cnB 2 hts gX5_leaf_X4_askedOnTheWay_n97 rfl rfl rfl kn97 kiX4 (by decide +kernel) ⟨Nat.le_of_ble_eq_true rfl, Nat.le_of_ble_eq_true rfl⟩, kI97, kS97⟩ (va_recv hK hP (ci := 4) (q0 := 3) rfl rfl) hP hK (hD S3) hN rfl rfl hl.1 rfl (lv_room (Nat.le_of_ble_eq_true rfl)) dX5_leaf_30 ⟨Nat.le_of_ble_eq_true rfl, Nat.le_of_ble_eq_true rfl⟩) hS (hD S3) hA (fun x5 S4 H locs h hP hS => ?_)
  refine lv_iload_n hx hb dX5_leaf_33 rfl (lv_at hl 2 rfl) ?_
  refine lv_iload_n hx hb dX5_leaf_34 rfl (lv_at hl 3 rfl) ?_
  obtain ⟨k9, h⟩ := h
  refine k_i (k_runVN cns_ok ⟨hx, hb, hml, hown, hts⟩ (tX0_factOf l D a c _ k9 p0 x5 p1 p2 S4 _ h) ⟨va_cnB 4 hts gX5_leaf_X0_factOf_n100 rfl rfl rfl kn100 kiX0 (by decide +kernel) ⟨Nat.le_of_ble_eq_true rfl, Nat.le_of_ble_eq_true rfl⟩, kI100, kS100⟩ (va_recv hK hP (ci := 0) (q0 := 2) rfl rfl) hP hK (hD S4) hN rfl rfl hl.1 rfl (lv_room (Nat.le_of_ble_eq_true rfl)) dX5_leaf_35 ⟨Nat.le_of_ble_eq_true rfl, Nat.le_of_ble_eq_true rfl⟩) hS (hD S4) hA (fun x8 S7 H locs h hP hS => ?_)
  refine vx_ret ?_
  refine W.widen (k := 3) (n := 18) (Nat.le_of_ble_eq_true rfl) (Nat.le_of_ble_eq_true rfl) ?_
  exact g_reti hx hb hr hlocks h hP hS dX5_leaf_38
def PX5_size (p0 : Int32) (p1 : Int32) (S : St) (post : Int32 → St → Prop) (postx : String → St → Prop) : Prop := PX5_needWithin p0 1 200 S (fun S1 => PX5_needWithin p1 1 10000 S1 (fun S2 => (((S2.1 5) < 4 → PX2_add p0 p1 S2 (fun x5 S4 => post x5 S4)) ∧ (¬ (S2.1 5) < 4 → postx "java/lang/IllegalStateException" S2))) postx) postx
set_option maxHeartbeats 4000000 in
set_option maxRecDepth 100000 in
theorem tX5_size (l : Launch) (D : va_G) (a : Nat → Nat) (c : Nat → ClassId) (sz : Nat) (p0 : Int32) (p1 : Int32) (S : St) (post : Int32 → St → Prop) (postx : String → St → Prop) (hl0 : l.stackTraces = false) (h : PX5_size p0 p1 S post postx) : vx_Met l yX5_size wsX5_size ({ frames := 8, cells := 3, slots := 18, locals := 162 }) (va_Pc [.ref (a 0), .int p0, .int p1] (xP D (cw a c) (cty c) cns S sz)) (va_Qi post (gB D (cw a c)) (va_A (cw a c S) sz)) (xX D (cw a c) postx (va_A (cw a c S) sz)) 3 18 (va_A (cw a c S) sz) := by
  refine vx_ofW (cc := cX5_size) (maxL := 3) (ret := (some .int)) (by decide) rfl ?_
  intro p e s m args below meth c9 s₁ B hml hout hv
  obtain ⟨rfl, hsz, hP, hK, hD0, hN, hT⟩ := hv
  have hx := B.exec
  have hb := B.bytes
  have hr := B.returns
  have hts := atoms_spec (ws := wsX5_size) B.pre
  have hown : s.vm.findClass RX5 = some m.cls := findClass_of_methodNamed B.named
  have hlocks := B.notSynchronized
  subst hsz
  have hD1 := hD0.self (sz := s.heap.size)
  generalize hAe : va_A (cw a c S) s.heap.size = A at hD1 hT ⊢
  have hA : ∀ q : Nat, s.heap.size ≤ q → A q := fun q h => by rw [← hAe]; exact Or.inr h
  have hD : ∀ S2 : St, va_D A (cw a c S2) := gD cw_F hD1
  have hS : va_S A s.heap s.heap [] := va_S.rf
  have hinX2 : ∀ w ∈ wsX20, w ∈ wsX5_size := by decide +kernel
  have hinX5 : ∀ w ∈ wsX50, w ∈ wsX5_size := by decide +kernel
  have kI108 := hts (.instanceMethod yX2_add) (by decide +kernel)
  have kS108 := hts (.selects RX2 yX2_add yX2_add) (by decide +kernel)
  have kf103 := hN (.fieldLinkNest RX5 103 "CanteenPlan$Kitchen" "sizes" "I" "CanteenPlan") (by decide +kernel)
  have kf35 := hts (.fieldLink RX5 35 "CanteenPlan" "kitchen" "LCanteenPlan$Kitchen;") (by decide +kernel)
  have kiX2 := hts (.initialized RX2) (by decide +kernel)
  have kn108 := hN (.methodLinkNest RX5 108 yX2_add "CanteenPlan") (by decide +kernel)
  have kx54 := hts (.classLink RX5 54 "java/lang/IllegalStateException") (by decide +kernel)
  have ky54 := hts (.initialized "java/lang/IllegalStateException") (by decide +kernel)
  have hl := lv_entry ([.ref (a 0), .int p0, .int p1]) (n := 3) (Nat.le_of_ble_eq_true rfl)
  rw [lg_entry_eq]
  generalize (lg_sl ([.ref (a 0), .int p0, .int p1]) ++ List.replicate (3 - (lg_sl ([.ref (a 0), .int p0, .int p1])).length) Slot.unset).toArray = ls at hl ⊢
  have hl : lv_has ls 3 [(0, .ref (a 0)), (1, .int p0), (2, .int p1)] := hl
  unfold PX5_size at h
  refine lv_iload_n hx hb dX5_size_0 rfl (lv_at hl 1 rfl) ?_
  refine lv_iconst (v := 1) hx hb dX5_size_1 (by decide) ?_
  refine lv_sipush (v := 200) hx hb dX5_size_2 (by decide) ?_
  refine x_v (x_runS cns_ok ⟨hx, hb, hml, hown, hts⟩ (tX5_needWithin l D a c _ p0 1 200 S _ _ hl0 h) (va_cwS 3 hts gX5_size_X5_needWithin rfl rfl rfl (by decide +kernel) ⟨Nat.le_of_ble_eq_true rfl, Nat.le_of_ble_eq_true rfl⟩) hP hK (hD S) hN hT hS hA rfl rfl hl.1 rfl (lv_room (Nat.le_of_ble_eq_true rfl)) dX5_size_5 ⟨Nat.le_of_ble_eq_true rfl, Nat.le_of_ble_eq_true rfl⟩) hS (hD S) hA (fun E q9 ce S9 H locs hw hP hS hq hv hcl => x_out hout hlocks hq hv hcl hw hP hS (Nat.le_of_ble_eq_true rfl) (Nat.le_of_ble_eq_true rfl)) (fun S1 H locs h hP hS => ?_)
  refine lv_iload_n hx hb dX5_size_8 rfl (lv_at hl 2 rfl) ?_
  refine lv_iconst (v := 1) hx hb dX5_size_9 (by decide) ?_
  refine lv_sipush (v := 10000) hx hb dX5_size_10 (by decide) ?_
  refine x_v (x_runS cns_ok ⟨hx, hb, hml, hown, hts⟩ (tX5_needWithin l D a c _ p1 1 10000 S1 _ _ hl0 h) (va_cwS 3 hts gX5_size_X5_needWithin rfl rfl rfl (by decide +kernel) ⟨Nat.le_of_ble_eq_true rfl, Nat.le_of_ble_eq_true rfl⟩) hP hK (hD S1) hN hT hS hA rfl rfl hl.1 rfl (lv_room (Nat.le_of_ble_eq_true rfl)) dX5_size_13 ⟨Nat.le_of_ble_eq_true rfl, Nat.le_of_ble_eq_true rfl⟩) hS (hD S1) hA (fun E q9 ce S9 H locs hw hP hS hq hv hcl => x_out hout hlocks hq hv hcl hw hP hS (Nat.le_of_ble_eq_true rfl) (Nat.le_of_ble_eq_true rfl)) (fun S2 H locs h hP hS => ?_)
  refine lv_aload_n hx hb dX5_size_16 rfl (lv_at hl 0 rfl) ?_
  refine va_get (D := D) (ci := 5) (v := .ref (a 4)) (C := RX5) (T := TX5) (N := 5) hx hb hts hinX5 hown hK hP 0 rfl rfl 3 (by decide) kf35 (fun _ h9 => h9) rfl dX5_size_17 ?_
  refine va_getN (D := D) (ci := 2) (v := .int (S2.1 5)) (C := RX2) (T := TX2) (N := 15) hx hb hts hinX2 hown hK hP 4 rfl rfl 2 (by decide) (va_Nw.use rfl kf103) (fun _ h9 => h9) rfl dX5_size_20 ?_
  refine lv_iconst (v := 4) hx hb dX5_size_23 (by decide) ?_
  refine lv_icmp_lt (tgt := 37) hx hb dX5_size_24 (by decide) (fun c3 => ?_) (fun c3 => ?_)
  · have h := h.1 c3
    refine lv_aload_n hx hb dX5_size_37 rfl (lv_at hl 0 rfl) ?_
    refine va_get (D := D) (ci := 5) (v := .ref (a 4)) (C := RX5) (T := TX5) (N := 5) hx hb hts hinX5 hown hK hP 0 rfl rfl 3 (by decide) kf35 (fun _ h9 => h9) rfl dX5_size_38 ?_
    refine lv_iload_n hx hb dX5_size_41 rfl (lv_at hl 1 rfl) ?_
    refine lv_iload_n hx hb dX5_size_42 rfl (lv_at hl 2 rfl) ?_
    refine k_i (k_runVN cns_ok ⟨hx, hb, hml, hown, hts⟩ (tX2_add l D a c _ p0 p1 S2 _ h) ⟨va_cnB 2 hts gX5_size_X2_add_n108 rfl rfl rfl kn108 kiX2 (by decide +kernel) ⟨Nat.le_of_ble_eq_true rfl, Nat.le_of_ble_eq_true rfl⟩, kI108, kS108⟩ (va_recv hK hP (ci := 2) (q0 := 4) rfl rfl) hP hK (hD S2) hN rfl rfl hl.1 rfl (lv_room (Nat.le_of_ble_eq_true rfl)) dX5_size_43 ⟨Nat.le_of_ble_eq_true rfl, Nat.le_of_ble_eq_true rfl⟩) hS (hD S2) hA (fun x5 S4 H locs h hP hS => ?_)
    refine vx_ret ?_
    refine W.widen (k := 3) (n := 18) (Nat.le_of_ble_eq_true rfl) (Nat.le_of_ble_eq_true rfl) ?_
    exact g_reti hx hb hr hlocks h hP hS dX5_size_46
  · have h := h.2 c3
    exact x_throw (E := "java/lang/IllegalStateException") (text := "there are 4 sizes") (ik := 54) (is := 106) (ic := 58) hx hb hl0 hown (fun w hw => hts w (List.mem_cons_of_mem _ (List.mem_append_left _ (List.mem_append_right _ hw)))) (by decide +kernel) (by decide) (by decide +kernel) kx54 ky54 (by decide +kernel) hT hS hl.1 hml dX5_size_27 dX5_size_30 dX5_size_31 dX5_size_33 dX5_size_36 hout hlocks h hP (Nat.le_of_ble_eq_true rfl) (Nat.le_of_ble_eq_true rfl) (Nat.le_of_ble_eq_true rfl) (Nat.le_of_ble_eq_true rfl) (Nat.le_of_ble_eq_true rfl) (Nat.le_of_ble_eq_true rfl)
def PX5_prices (p0 : Int32) (p1 : Int32) (S : St) (post : St → Prop) (postx : String → St → Prop) : Prop := PX5_needWithin p0 0 1000 S (fun S1 => PX5_needWithin p1 0 1000 S1 (fun S2 => ∀ S3 : St, S3 = sI S2 6 p0 → ∀ S4 : St, S4 = sI S3 7 p1 → post S4) postx) postx
set_option maxHeartbeats 4000000 in
set_option maxRecDepth 100000 in
theorem tX5_prices (l : Launch) (D : va_G) (a : Nat → Nat) (c : Nat → ClassId) (sz : Nat) (p0 : Int32) (p1 : Int32) (S : St) (post : St → Prop) (postx : String → St → Prop) (hl0 : l.stackTraces = false) (h : PX5_prices p0 p1 S post postx) : vx_Met l yX5_prices wsX5_prices ({ frames := 8, cells := 2, slots := 12, locals := 162 }) (va_Pc [.ref (a 0), .int p0, .int p1] (xP D (cw a c) (cty c) cns S sz)) (va_Qv post (gB D (cw a c)) (va_A (cw a c S) sz)) (xX D (cw a c) postx (va_A (cw a c S) sz)) 2 12 (va_A (cw a c S) sz) := by
  refine vx_ofW (cc := cX5_prices) (maxL := 3) (ret := none) (by decide) rfl ?_
  intro p e s m args below meth c9 s₁ B hml hout hv
  obtain ⟨rfl, hsz, hP, hK, hD0, hN, hT⟩ := hv
  have hx := B.exec
  have hb := B.bytes
  have hr := B.returns
  have hts := atoms_spec (ws := wsX5_prices) B.pre
  have hown : s.vm.findClass RX5 = some m.cls := findClass_of_methodNamed B.named
  have hlocks := B.notSynchronized
  subst hsz
  have hD1 := hD0.self (sz := s.heap.size)
  generalize hAe : va_A (cw a c S) s.heap.size = A at hD1 hT ⊢
  have hA : ∀ q : Nat, s.heap.size ≤ q → A q := fun q h => by rw [← hAe]; exact Or.inr h
  have hD : ∀ S2 : St, va_D A (cw a c S2) := gD cw_F hD1
  have hS : va_S A s.heap s.heap [] := va_S.rf
  have hinX2 : ∀ w ∈ wsX20, w ∈ wsX5_prices := by decide +kernel
  have hinX5 : ∀ w ∈ wsX50, w ∈ wsX5_prices := by decide +kernel
  have kf109 := hN (.fieldLinkNest RX5 109 "CanteenPlan$Kitchen" "waste" "I" "CanteenPlan") (by decide +kernel)
  have kf112 := hN (.fieldLinkNest RX5 112 "CanteenPlan$Kitchen" "want" "I" "CanteenPlan") (by decide +kernel)
  have kf35 := hts (.fieldLink RX5 35 "CanteenPlan" "kitchen" "LCanteenPlan$Kitchen;") (by decide +kernel)
  have hl := lv_entry ([.ref (a 0), .int p0, .int p1]) (n := 3) (Nat.le_of_ble_eq_true rfl)
  rw [lg_entry_eq]
  generalize (lg_sl ([.ref (a 0), .int p0, .int p1]) ++ List.replicate (3 - (lg_sl ([.ref (a 0), .int p0, .int p1])).length) Slot.unset).toArray = ls at hl ⊢
  have hl : lv_has ls 3 [(0, .ref (a 0)), (1, .int p0), (2, .int p1)] := hl
  unfold PX5_prices at h
  refine lv_iload_n hx hb dX5_prices_0 rfl (lv_at hl 1 rfl) ?_
  refine lv_iconst (v := 0) hx hb dX5_prices_1 (by decide) ?_
  refine lv_sipush (v := 1000) hx hb dX5_prices_2 (by decide) ?_
  refine x_v (x_runS cns_ok ⟨hx, hb, hml, hown, hts⟩ (tX5_needWithin l D a c _ p0 0 1000 S _ _ hl0 h) (va_cwS 3 hts gX5_prices_X5_needWithin rfl rfl rfl (by decide +kernel) ⟨Nat.le_of_ble_eq_true rfl, Nat.le_of_ble_eq_true rfl⟩) hP hK (hD S) hN hT hS hA rfl rfl hl.1 rfl (lv_room (Nat.le_of_ble_eq_true rfl)) dX5_prices_5 ⟨Nat.le_of_ble_eq_true rfl, Nat.le_of_ble_eq_true rfl⟩) hS (hD S) hA (fun E q9 ce S9 H locs hw hP hS hq hv hcl => x_out hout hlocks hq hv hcl hw hP hS (Nat.le_of_ble_eq_true rfl) (Nat.le_of_ble_eq_true rfl)) (fun S1 H locs h hP hS => ?_)
  refine lv_iload_n hx hb dX5_prices_8 rfl (lv_at hl 2 rfl) ?_
  refine lv_iconst (v := 0) hx hb dX5_prices_9 (by decide) ?_
  refine lv_sipush (v := 1000) hx hb dX5_prices_10 (by decide) ?_
  refine x_v (x_runS cns_ok ⟨hx, hb, hml, hown, hts⟩ (tX5_needWithin l D a c _ p1 0 1000 S1 _ _ hl0 h) (va_cwS 3 hts gX5_prices_X5_needWithin rfl rfl rfl (by decide +kernel) ⟨Nat.le_of_ble_eq_true rfl, Nat.le_of_ble_eq_true rfl⟩) hP hK (hD S1) hN hT hS hA rfl rfl hl.1 rfl (lv_room (Nat.le_of_ble_eq_true rfl)) dX5_prices_13 ⟨Nat.le_of_ble_eq_true rfl, Nat.le_of_ble_eq_true rfl⟩) hS (hD S1) hA (fun E q9 ce S9 H locs hw hP hS hq hv hcl => x_out hout hlocks hq hv hcl hw hP hS (Nat.le_of_ble_eq_true rfl) (Nat.le_of_ble_eq_true rfl)) (fun S2 H locs h hP hS => ?_)
  refine lv_aload_n hx hb dX5_prices_16 rfl (lv_at hl 0 rfl) ?_
  refine va_get (D := D) (ci := 5) (v := .ref (a 4)) (C := RX5) (T := TX5) (N := 5) hx hb hts hinX5 hown hK hP 0 rfl rfl 3 (by decide) kf35 (fun _ h9 => h9) rfl dX5_prices_17 ?_
  refine lv_iload_n hx hb dX5_prices_20 rfl (lv_at hl 1 rfl) ?_
  refine va_putN (D := D) (ci := 2) (v := .int p0) (ty := .int) (C := RX2) (T := TX2) (N := 15) hx hb hts hinX2 tyX2 tyX2_ok nmX2 hown hK hP (hD S2) hS 4 rfl rfl 3 (by decide) (va_Nw.use rfl kf109) (fun _ h9 => h9) rfl (by decide +kernel) rfl rfl (Nat.le_of_ble_eq_true rfl) dX5_prices_21 (fun H locs hP _ hS => ?_)
  obtain ⟨S3, eS3⟩ : ∃ z : St, z = sI S2 6 p0 := ⟨_, rfl⟩
  have hP : va_P D vwCl (cw a c S3) H := by rw [eS3]; exact hP
  have h := h S3 eS3
  refine lv_aload_n hx hb dX5_prices_24 rfl (lv_at hl 0 rfl) ?_
  refine va_get (D := D) (ci := 5) (v := .ref (a 4)) (C := RX5) (T := TX5) (N := 5) hx hb hts hinX5 hown hK hP 0 rfl rfl 3 (by decide) kf35 (fun _ h9 => h9) rfl dX5_prices_25 ?_
  refine lv_iload_n hx hb dX5_prices_28 rfl (lv_at hl 2 rfl) ?_
  refine va_putN (D := D) (ci := 2) (v := .int p1) (ty := .int) (C := RX2) (T := TX2) (N := 15) hx hb hts hinX2 tyX2 tyX2_ok nmX2 hown hK hP (hD S3) hS 4 rfl rfl 4 (by decide) (va_Nw.use rfl kf112) (fun _ h9 => h9) rfl (by decide +kernel) rfl rfl (Nat.le_of_ble_eq_true rfl) dX5_prices_29 (fun H locs hP _ hS => ?_)
  obtain ⟨S4, eS4⟩ : ∃ z : St, z = sI S3 7 p1 := ⟨_, rfl⟩
  have hP : va_P D vwCl (cw a c S4) H := by rw [eS4]; exact hP
  have h := h S4 eS4
  refine vx_ret ?_
  refine W.widen (k := 2) (n := 12) (Nat.le_of_ble_eq_true rfl) (Nat.le_of_ble_eq_true rfl) ?_
  exact g_retv hx hb hr hlocks h hP hS dX5_prices_32
def PX5_findBestSet (p0 : Int32) (p1 : Int32) (p2 : Int32) (S : St) (post : Int32 → St → Prop) (postx : String → St → Prop) : Prop := PX5_needMeal p0 S (fun S1 => PX5_needWithin p1 0 255 S1 (fun S2 => PX5_needWithin p2 0 10000 S2 (fun S3 => ∃ k : Nat, PX4_askedOnTheWay k p0 p1 S3 (fun x5 S4 => ∃ k : Nat, PX2_readLeaf k p0 x5 p1 S4 (fun S7 => (((S7.1 8) = 0 → post 0 S7) ∧ (¬ (S7.1 8) = 0 → ∃ k : Nat, PX2_findBest k p2 S7 (fun S10 => post 1 S10)))))) postx) postx) postx
set_option maxHeartbeats 4000000 in
set_option maxRecDepth 100000 in
theorem tX5_findBestSet (l : Launch) (D : va_G) (a : Nat → Nat) (c : Nat → ClassId) (sz : Nat) (p0 : Int32) (p1 : Int32) (p2 : Int32) (S : St) (post : Int32 → St → Prop) (postx : String → St → Prop) (hl0 : l.stackTraces = false) (h : PX5_findBestSet p0 p1 p2 S post postx) : vx_Met l yX5_findBestSet wsX5_findBestSet ({ frames := 8, cells := 3, slots := 18, locals := 162 }) (va_Pc [.ref (a 0), .int p0, .int p1, .int p2] (xP D (cw a c) (cty c) cns S sz)) (va_Qi post (gB D (cw a c)) (va_A (cw a c S) sz)) (xX D (cw a c) postx (va_A (cw a c S) sz)) 3 18 (va_A (cw a c S) sz) := by
  refine vx_ofW (cc := cX5_findBestSet) (maxL := 4) (ret := (some .boolean)) (by decide) rfl ?_
  intro p e s m args below meth c9 s₁ B hml hout hv
  obtain ⟨rfl, hsz, hP, hK, hD0, hN, hT⟩ := hv
  have hx := B.exec
  have hb := B.bytes
  have hr := B.returns
  have hts := atoms_spec (ws := wsX5_findBestSet) B.pre
  have hown : s.vm.findClass RX5 = some m.cls := findClass_of_methodNamed B.named
  have hlocks := B.notSynchronized
  subst hsz
  have hD1 := hD0.self (sz := s.heap.size)
  generalize hAe : va_A (cw a c S) s.heap.size = A at hD1 hT ⊢
  have hA : ∀ q : Nat, s.heap.size ≤ q → A q := fun q h => by rw [← hAe]; exact Or.inr h
  have hD : ∀ S2 : St, va_D A (cw a c S2) := gD cw_F hD1
  have hS : va_S A s.heap s.heap [] := va_S.rf
  have hinX2 : ∀ w ∈ wsX20, w ∈ wsX5_findBestSet := by decide +kernel
  have hinX5 : ∀ w ∈ wsX50, w ∈ wsX5_findBestSet := by decide +kernel
  have kI160 := hts (.instanceMethod yX2_readLeaf) (by decide +kernel)
  have kI167 := hts (.instanceMethod yX2_findBest) (by decide +kernel)
  have kI97 := hts (.instanceMethod yX4_askedOnTheWay) (by decide +kernel)
  have kS160 := hts (.selects RX2 yX2_readLeaf yX2_readLeaf) (by decide +kernel)
  have kS167 := hts (.selects RX2 yX2_findBest yX2_findBest) (by decide +kernel)
  have kS97 := hts (.selects RX4 yX4_askedOnTheWay yX4_askedOnTheWay) (by decide +kernel)
  have kf164 := hN (.fieldLinkNest RX5 164 "CanteenPlan$Kitchen" "days" "I" "CanteenPlan") (by decide +kernel)
  have kf19 := hts (.fieldLink RX5 19 "CanteenPlan" "diary" "LCanteenPlan$Diary;") (by decide +kernel)
  have kf28 := hts (.fieldLink RX5 28 "CanteenPlan" "tree" "LCanteenPlan$Tree;") (by decide +kernel)
  have kf35 := hts (.fieldLink RX5 35 "CanteenPlan" "kitchen" "LCanteenPlan$Kitchen;") (by decide +kernel)
  have kiX2 := hts (.initialized RX2) (by decide +kernel)
  have kiX4 := hts (.initialized RX4) (by decide +kernel)
  have kn160 := hN (.methodLinkNest RX5 160 yX2_readLeaf "CanteenPlan") (by decide +kernel)
  have kn167 := hN (.methodLinkNest RX5 167 yX2_findBest "CanteenPlan") (by decide +kernel)
  have kn97 := hN (.methodLinkNest RX5 97 yX4_askedOnTheWay "CanteenPlan") (by decide +kernel)
  have hl := lv_entry ([.ref (a 0), .int p0, .int p1, .int p2]) (n := 4) (Nat.le_of_ble_eq_true rfl)
  rw [lg_entry_eq]
  generalize (lg_sl ([.ref (a 0), .int p0, .int p1, .int p2]) ++ List.replicate (4 - (lg_sl ([.ref (a 0), .int p0, .int p1, .int p2])).length) Slot.unset).toArray = ls at hl ⊢
  have hl : lv_has ls 4 [(0, .ref (a 0)), (1, .int p0), (2, .int p1), (3, .int p2)] := hl
  unfold PX5_findBestSet at h
  refine lv_aload_n hx hb dX5_findBestSet_0 rfl (lv_at hl 0 rfl) ?_
  refine lv_iload_n hx hb dX5_findBestSet_1 rfl (lv_at hl 1 rfl) ?_
  refine x_v (x_runV cns_ok ⟨hx, hb, hml, hown, hts⟩ (tX5_needMeal l D a c _ p0 S _ _ hl0 h) (cwV 1 hts gX5_findBestSet_X5_needMeal rfl rfl rfl (by decide +kernel) ⟨Nat.le_of_ble_eq_true rfl, Nat.le_of_ble_eq_true rfl⟩) (va_recv hK hP (ci := 5) (q0 := 0) rfl rfl) hP hK (hD S) hN hT hS hA rfl rfl hl.1 rfl (lv_room (Nat.le_of_ble_eq_true rfl)) dX5_findBestSet_2 ⟨Nat.le_of_ble_eq_true rfl, Nat.le_of_ble_eq_true rfl⟩) hS (hD S) hA (fun E q9 ce S9 H locs hw hP hS hq hv hcl => x_out hout hlocks hq hv hcl hw hP hS (Nat.le_of_ble_eq_true rfl) (Nat.le_of_ble_eq_true rfl)) (fun S1 H locs h hP hS => ?_)
  refine lv_iload_n hx hb dX5_findBestSet_5 rfl (lv_at hl 2 rfl) ?_
  refine lv_iconst (v := 0) hx hb dX5_findBestSet_6 (by decide) ?_
  refine lv_sipush (v := 255) hx hb dX5_findBestSet_7 (by decide) ?_
  refine x_v (x_runS cns_ok ⟨hx, hb, hml, hown, hts⟩ (tX5_needWithin l D a c _ p1 0 255 S1 _ _ hl0 h) (va_cwS 3 hts gX5_findBestSet_X5_needWithin rfl rfl rfl (by decide +kernel) ⟨Nat.le_of_ble_eq_true rfl, Nat.le_of_ble_eq_true rfl⟩) hP hK (hD S1) hN hT hS hA rfl rfl hl.1 rfl (lv_room (Nat.le_of_ble_eq_true rfl)) dX5_findBestSet_10 ⟨Nat.le_of_ble_eq_true rfl, Nat.le_of_ble_eq_true rfl⟩) hS (hD S1) hA (fun E q9 ce S9 H locs hw hP hS hq hv hcl => x_out hout hlocks hq hv hcl hw hP hS (Nat.le_of_ble_eq_true rfl) (Nat.le_of_ble_eq_true rfl)) (fun S2 H locs h hP hS => ?_)
  refine lv_iload_n hx hb dX5_findBestSet_13 rfl (lv_at hl 3 rfl) ?_
  refine lv_iconst (v := 0) hx hb dX5_findBestSet_14 (by decide) ?_
  refine lv_sipush (v := 10000) hx hb dX5_findBestSet_15 (by decide) ?_
  refine x_v (x_runS cns_ok ⟨hx, hb, hml, hown, hts⟩ (tX5_needWithin l D a c _ p2 0 10000 S2 _ _ hl0 h) (va_cwS 3 hts gX5_findBestSet_X5_needWithin rfl rfl rfl (by decide +kernel) ⟨Nat.le_of_ble_eq_true rfl, Nat.le_of_ble_eq_true rfl⟩) hP hK (hD S2) hN hT hS hA rfl rfl hl.1 rfl (lv_room (Nat.le_of_ble_eq_true rfl)) dX5_findBestSet_18 ⟨Nat.le_of_ble_eq_true rfl, Nat.le_of_ble_eq_true rfl⟩) hS (hD S2) hA (fun E q9 ce S9 H locs hw hP hS hq hv hcl => x_out hout hlocks hq hv hcl hw hP hS (Nat.le_of_ble_eq_true rfl) (Nat.le_of_ble_eq_true rfl)) (fun S3 H locs h hP hS => ?_)
  refine lv_aload_n hx hb dX5_findBestSet_21 rfl (lv_at hl 0 rfl) ?_
  refine va_get (D := D) (ci := 5) (v := .ref (a 4)) (C := RX5) (T := TX5) (N := 5) hx hb hts hinX5 hown hK hP 0 rfl rfl 3 (by decide) kf35 (fun _ h9 => h9) rfl dX5_findBestSet_22 ?_
  refine lv_aload_n hx hb dX5_findBestSet_25 rfl (lv_at hl 0 rfl) ?_
  refine va_get (D := D) (ci := 5) (v := .ref (a 2)) (C := RX5) (T := TX5) (N := 5) hx hb hts hinX5 hown hK hP 0 rfl rfl 1 (by decide) kf19 (fun _ h9 => h9) rfl dX5_findBestSet_26 ?_
  refine lv_iload_n hx hb dX5_findBestSet_29 rfl (lv_at hl 1 rfl) ?_
  refine lv_aload_n hx hb dX5_findBestSet_30 rfl (lv_at hl 0 rfl) ?_
  refine va_get (D := D) (ci := 5) (v := .ref (a 3)) (C := RX5) (T := TX5) (N := 5) hx hb hts hinX5 hown hK hP 0 rfl rfl 2 (by decide) kf28 (fun _ h9 => h9) rfl dX5_findBestSet_31 ?_
  refine lv_iload_n hx hb dX5_findBestSet_34 rfl (lv_at hl 1 rfl) ?_
  refine lv_iload_n hx hb dX5_findBestSet_35 rfl (lv_at hl 2 rfl) ?_
  obtain ⟨k6, h⟩ := h
  refine k_i (k_runVN cns_ok ⟨hx, hb, hml, hown, hts⟩ (tX4_askedOnTheWay l D a c _ k6 p0 p1 S3 _ h) ⟨va_cnB 2 hts gX5_findBestSet_X4_askedOnTheWay_n97 rfl rfl rfl kn97 kiX4 (by decide +kernel) ⟨Nat.le_of_ble_eq_true rfl, Nat.le_of_ble_eq_true rfl⟩, kI97, kS97⟩ (va_recv hK hP (ci := 4) (q0 := 3) rfl rfl) hP hK (hD S3) hN rfl rfl hl.1 rfl (lv_room (Nat.le_of_ble_eq_true rfl)) dX5_findBestSet_36 ⟨Nat.le_of_ble_eq_true rfl, Nat.le_of_ble_eq_true rfl⟩) hS (hD S3) hA (fun x5 S4 H locs h hP hS => ?_)
  refine lv_iload_n hx hb dX5_findBestSet_39 rfl (lv_at hl 2 rfl) ?_
  obtain ⟨k8, h⟩ := h
  refine k_v (k_runVN cns_ok ⟨hx, hb, hml, hown, hts⟩ (tX2_readLeaf l D a c _ k8 p0 x5 p1 S4 _ h) ⟨va_cnB 4 hts gX5_findBestSet_X2_readLeaf_n160 rfl rfl rfl kn160 kiX2 (by decide +kernel) ⟨Nat.le_of_ble_eq_true rfl, Nat.le_of_ble_eq_true rfl⟩, kI160, kS160⟩ (va_recv hK hP (ci := 2) (q0 := 4) rfl rfl) hP hK (hD S4) hN rfl rfl hl.1 rfl (lv_room (Nat.le_of_ble_eq_true rfl)) dX5_findBestSet_40 ⟨Nat.le_of_ble_eq_true rfl, Nat.le_of_ble_eq_true rfl⟩) hS (hD S4) hA (fun S7 H locs h hP hS => ?_)
  refine lv_aload_n hx hb dX5_findBestSet_43 rfl (lv_at hl 0 rfl) ?_
  refine va_get (D := D) (ci := 5) (v := .ref (a 4)) (C := RX5) (T := TX5) (N := 5) hx hb hts hinX5 hown hK hP 0 rfl rfl 3 (by decide) kf35 (fun _ h9 => h9) rfl dX5_findBestSet_44 ?_
  refine va_getN (D := D) (ci := 2) (v := .int (S7.1 8)) (C := RX2) (T := TX2) (N := 15) hx hb hts hinX2 hown hK hP 4 rfl rfl 7 (by decide) (va_Nw.use rfl kf164) (fun _ h9 => h9) rfl dX5_findBestSet_47 ?_
  refine lv_if_ne (tgt := 55) hx hb dX5_findBestSet_50 (by decide) (fun c9 => ?_) (fun c9 => ?_)
  · have h := h.2 c9
    refine lv_aload_n hx hb dX5_findBestSet_55 rfl (lv_at hl 0 rfl) ?_
    refine va_get (D := D) (ci := 5) (v := .ref (a 4)) (C := RX5) (T := TX5) (N := 5) hx hb hts hinX5 hown hK hP 0 rfl rfl 3 (by decide) kf35 (fun _ h9 => h9) rfl dX5_findBestSet_56 ?_
    refine lv_iload_n hx hb dX5_findBestSet_59 rfl (lv_at hl 3 rfl) ?_
    obtain ⟨k11, h⟩ := h
    refine k_v (k_runVN cns_ok ⟨hx, hb, hml, hown, hts⟩ (tX2_findBest l D a c _ k11 p2 S7 _ h) ⟨va_cnB 1 hts gX5_findBestSet_X2_findBest_n167 rfl rfl rfl kn167 kiX2 (by decide +kernel) ⟨Nat.le_of_ble_eq_true rfl, Nat.le_of_ble_eq_true rfl⟩, kI167, kS167⟩ (va_recv hK hP (ci := 2) (q0 := 4) rfl rfl) hP hK (hD S7) hN rfl rfl hl.1 rfl (lv_room (Nat.le_of_ble_eq_true rfl)) dX5_findBestSet_60 ⟨Nat.le_of_ble_eq_true rfl, Nat.le_of_ble_eq_true rfl⟩) hS (hD S7) hA (fun S10 H locs h hP hS => ?_)
    refine lv_iconst (v := 1) hx hb dX5_findBestSet_63 (by decide) ?_
    refine vx_ret ?_
    refine W.widen (k := 3) (n := 18) (Nat.le_of_ble_eq_true rfl) (Nat.le_of_ble_eq_true rfl) ?_
    exact g_retz hx hb hr hlocks (Or.inr rfl) h hP hS dX5_findBestSet_64
  · have h := h.1 c9
    refine lv_iconst (v := 0) hx hb dX5_findBestSet_53 (by decide) ?_
    refine vx_ret ?_
    refine W.widen (k := 3) (n := 18) (Nat.le_of_ble_eq_true rfl) (Nat.le_of_ble_eq_true rfl) ?_
    exact g_retz hx hb hr hlocks (Or.inl rfl) h hP hS dX5_findBestSet_54
def PX5_cost (p0 : Int32) (p1 : Int32) (p2 : Int32) (S : St) (post : Int64 → St → Prop) (postx : String → St → Prop) : Prop := PX5_findBestSet p0 p1 p2 S (fun x2 S1 => ((x2 = 0 → post (-1) S1) ∧ (¬ x2 = 0 → post (S1.2.1 0) S1))) postx
set_option maxHeartbeats 4000000 in
set_option maxRecDepth 100000 in
theorem tX5_cost (l : Launch) (D : va_G) (a : Nat → Nat) (c : Nat → ClassId) (sz : Nat) (p0 : Int32) (p1 : Int32) (p2 : Int32) (S : St) (post : Int64 → St → Prop) (postx : String → St → Prop) (hl0 : l.stackTraces = false) (h : PX5_cost p0 p1 p2 S post postx) : vx_Met l yX5_cost wsX5_cost ({ frames := 9, cells := 3, slots := 18, locals := 185 }) (va_Pc [.ref (a 0), .int p0, .int p1, .int p2] (xP D (cw a c) (cty c) cns S sz)) (va_Ql post (gB D (cw a c)) (va_A (cw a c S) sz)) (xX D (cw a c) postx (va_A (cw a c S) sz)) 3 18 (va_A (cw a c S) sz) := by
  refine vx_ofW (cc := cX5_cost) (maxL := 4) (ret := (some .long)) (by decide) rfl ?_
  intro p e s m args below meth c9 s₁ B hml hout hv
  obtain ⟨rfl, hsz, hP, hK, hD0, hN, hT⟩ := hv
  have hx := B.exec
  have hb := B.bytes
  have hr := B.returns
  have hts := atoms_spec (ws := wsX5_cost) B.pre
  have hown : s.vm.findClass RX5 = some m.cls := findClass_of_methodNamed B.named
  have hlocks := B.notSynchronized
  subst hsz
  have hD1 := hD0.self (sz := s.heap.size)
  generalize hAe : va_A (cw a c S) s.heap.size = A at hD1 hT ⊢
  have hA : ∀ q : Nat, s.heap.size ≤ q → A q := fun q h => by rw [← hAe]; exact Or.inr h
  have hD : ∀ S2 : St, va_D A (cw a c S2) := gD cw_F hD1
  have hS : va_S A s.heap s.heap [] := va_S.rf
  have hinX2 : ∀ w ∈ wsX20, w ∈ wsX5_cost := by decide +kernel
  have hinX5 : ∀ w ∈ wsX50, w ∈ wsX5_cost := by decide +kernel
  have kc123 := hts (.constantLong RX5 123 (-1)) (by decide +kernel)
  have kf119 := hN (.fieldLinkNest RX5 119 "CanteenPlan$Kitchen" "bestCost" "J" "CanteenPlan") (by decide +kernel)
  have kf35 := hts (.fieldLink RX5 35 "CanteenPlan" "kitchen" "LCanteenPlan$Kitchen;") (by decide +kernel)
  have hl := lv_entry ([.ref (a 0), .int p0, .int p1, .int p2]) (n := 4) (Nat.le_of_ble_eq_true rfl)
  rw [lg_entry_eq]
  generalize (lg_sl ([.ref (a 0), .int p0, .int p1, .int p2]) ++ List.replicate (4 - (lg_sl ([.ref (a 0), .int p0, .int p1, .int p2])).length) Slot.unset).toArray = ls at hl ⊢
  have hl : lv_has ls 4 [(0, .ref (a 0)), (1, .int p0), (2, .int p1), (3, .int p2)] := hl
  unfold PX5_cost at h
  refine lv_aload_n hx hb dX5_cost_0 rfl (lv_at hl 0 rfl) ?_
  refine lv_iload_n hx hb dX5_cost_1 rfl (lv_at hl 1 rfl) ?_
  refine lv_iload_n hx hb dX5_cost_2 rfl (lv_at hl 2 rfl) ?_
  refine lv_iload_n hx hb dX5_cost_3 rfl (lv_at hl 3 rfl) ?_
  refine x_i (x_runV cns_ok ⟨hx, hb, hml, hown, hts⟩ (tX5_findBestSet l D a c _ p0 p1 p2 S _ _ hl0 h) (cwV 3 hts gX5_cost_X5_findBestSet rfl rfl rfl (by decide +kernel) ⟨Nat.le_of_ble_eq_true rfl, Nat.le_of_ble_eq_true rfl⟩) (va_recv hK hP (ci := 5) (q0 := 0) rfl rfl) hP hK (hD S) hN hT hS hA rfl rfl hl.1 rfl (lv_room (Nat.le_of_ble_eq_true rfl)) dX5_cost_4 ⟨Nat.le_of_ble_eq_true rfl, Nat.le_of_ble_eq_true rfl⟩) hS (hD S) hA (fun E q9 ce S9 H locs hw hP hS hq hv hcl => x_out hout hlocks hq hv hcl hw hP hS (Nat.le_of_ble_eq_true rfl) (Nat.le_of_ble_eq_true rfl)) (fun x2 S1 H locs h hP hS => ?_)
  refine lv_if_eq (tgt := 20) hx hb dX5_cost_7 (by decide) (fun c3 => ?_) (fun c3 => ?_)
  · have h := h.1 c3
    refine lv_ldc2 (v := (-1)) hx hb hown kc123 dX5_cost_20 ?_
    refine vx_ret ?_
    refine W.widen (k := 3) (n := 18) (Nat.le_of_ble_eq_true rfl) (Nat.le_of_ble_eq_true rfl) ?_
    exact g_retl hx hb hr hlocks h hP hS dX5_cost_23
  · have h := h.2 c3
    refine lv_aload_n hx hb dX5_cost_10 rfl (lv_at hl 0 rfl) ?_
    refine va_get (D := D) (ci := 5) (v := .ref (a 4)) (C := RX5) (T := TX5) (N := 5) hx hb hts hinX5 hown hK hP 0 rfl rfl 3 (by decide) kf35 (fun _ h9 => h9) rfl dX5_cost_11 ?_
    refine va_getN (D := D) (ci := 2) (v := .long (S1.2.1 0)) (C := RX2) (T := TX2) (N := 15) hx hb hts hinX2 hown hK hP 4 rfl rfl 12 (by decide) (va_Nw.use rfl kf119) (fun _ h9 => h9) rfl dX5_cost_14 ?_
    refine lv_goto (tgt := 23) hx hb dX5_cost_17 (by decide) ?_
    refine vx_ret ?_
    refine W.widen (k := 3) (n := 18) (Nat.le_of_ble_eq_true rfl) (Nat.le_of_ble_eq_true rfl) ?_
    exact g_retl hx hb hr hlocks h hP hS dX5_cost_23
def PX5_pots (p0 : Int32) (p1 : Int32) (p2 : Int32) (p3 : Int32) (S : St) (post : Int32 → St → Prop) (postx : String → St → Prop) : Prop := PX5_findBestSet p0 p1 p2 S (fun x2 S1 => ((x2 = 0 → post (-1) S1) ∧ (¬ x2 = 0 → PX2_bestPotsOf p3 S1 (fun x5 S4 => post x5 S4)))) postx
set_option maxHeartbeats 4000000 in
set_option maxRecDepth 100000 in
theorem tX5_pots (l : Launch) (D : va_G) (a : Nat → Nat) (c : Nat → ClassId) (sz : Nat) (p0 : Int32) (p1 : Int32) (p2 : Int32) (p3 : Int32) (S : St) (post : Int32 → St → Prop) (postx : String → St → Prop) (hl0 : l.stackTraces = false) (h : PX5_pots p0 p1 p2 p3 S post postx) : vx_Met l yX5_pots wsX5_pots ({ frames := 9, cells := 3, slots := 18, locals := 185 }) (va_Pc [.ref (a 0), .int p0, .int p1, .int p2, .int p3] (xP D (cw a c) (cty c) cns S sz)) (va_Qi post (gB D (cw a c)) (va_A (cw a c S) sz)) (xX D (cw a c) postx (va_A (cw a c S) sz)) 3 18 (va_A (cw a c S) sz) := by
  refine vx_ofW (cc := cX5_pots) (maxL := 5) (ret := (some .int)) (by decide) rfl ?_
  intro p e s m args below meth c9 s₁ B hml hout hv
  obtain ⟨rfl, hsz, hP, hK, hD0, hN, hT⟩ := hv
  have hx := B.exec
  have hb := B.bytes
  have hr := B.returns
  have hts := atoms_spec (ws := wsX5_pots) B.pre
  have hown : s.vm.findClass RX5 = some m.cls := findClass_of_methodNamed B.named
  have hlocks := B.notSynchronized
  subst hsz
  have hD1 := hD0.self (sz := s.heap.size)
  generalize hAe : va_A (cw a c S) s.heap.size = A at hD1 hT ⊢
  have hA : ∀ q : Nat, s.heap.size ≤ q → A q := fun q h => by rw [← hAe]; exact Or.inr h
  have hD : ∀ S2 : St, va_D A (cw a c S2) := gD cw_F hD1
  have hS : va_S A s.heap s.heap [] := va_S.rf
  have hinX5 : ∀ w ∈ wsX50, w ∈ wsX5_pots := by decide +kernel
  have kI125 := hts (.instanceMethod yX2_bestPotsOf) (by decide +kernel)
  have kS125 := hts (.selects RX2 yX2_bestPotsOf yX2_bestPotsOf) (by decide +kernel)
  have kf35 := hts (.fieldLink RX5 35 "CanteenPlan" "kitchen" "LCanteenPlan$Kitchen;") (by decide +kernel)
  have kiX2 := hts (.initialized RX2) (by decide +kernel)
  have kn125 := hN (.methodLinkNest RX5 125 yX2_bestPotsOf "CanteenPlan") (by decide +kernel)
  have hl := lv_entry ([.ref (a 0), .int p0, .int p1, .int p2, .int p3]) (n := 5) (Nat.le_of_ble_eq_true rfl)
  rw [lg_entry_eq]
  generalize (lg_sl ([.ref (a 0), .int p0, .int p1, .int p2, .int p3]) ++ List.replicate (5 - (lg_sl ([.ref (a 0), .int p0, .int p1, .int p2, .int p3])).length) Slot.unset).toArray = ls at hl ⊢
  have hl : lv_has ls 5 [(0, .ref (a 0)), (1, .int p0), (2, .int p1), (3, .int p2), (4, .int p3)] := hl
  unfold PX5_pots at h
  refine lv_aload_n hx hb dX5_pots_0 rfl (lv_at hl 0 rfl) ?_
  refine lv_iload_n hx hb dX5_pots_1 rfl (lv_at hl 1 rfl) ?_
  refine lv_iload_n hx hb dX5_pots_2 rfl (lv_at hl 2 rfl) ?_
  refine lv_iload_n hx hb dX5_pots_3 rfl (lv_at hl 3 rfl) ?_
  refine x_i (x_runV cns_ok ⟨hx, hb, hml, hown, hts⟩ (tX5_findBestSet l D a c _ p0 p1 p2 S _ _ hl0 h) (cwV 3 hts gX5_pots_X5_findBestSet rfl rfl rfl (by decide +kernel) ⟨Nat.le_of_ble_eq_true rfl, Nat.le_of_ble_eq_true rfl⟩) (va_recv hK hP (ci := 5) (q0 := 0) rfl rfl) hP hK (hD S) hN hT hS hA rfl rfl hl.1 rfl (lv_room (Nat.le_of_ble_eq_true rfl)) dX5_pots_4 ⟨Nat.le_of_ble_eq_true rfl, Nat.le_of_ble_eq_true rfl⟩) hS (hD S) hA (fun E q9 ce S9 H locs hw hP hS hq hv hcl => x_out hout hlocks hq hv hcl hw hP hS (Nat.le_of_ble_eq_true rfl) (Nat.le_of_ble_eq_true rfl)) (fun x2 S1 H locs h hP hS => ?_)
  refine lv_if_eq (tgt := 22) hx hb dX5_pots_7 (by decide) (fun c3 => ?_) (fun c3 => ?_)
  · have h := h.1 c3
    refine lv_iconst (v := (-1)) hx hb dX5_pots_22 (by decide) ?_
    refine vx_ret ?_
    refine W.widen (k := 3) (n := 18) (Nat.le_of_ble_eq_true rfl) (Nat.le_of_ble_eq_true rfl) ?_
    exact g_reti hx hb hr hlocks h hP hS dX5_pots_23
  · have h := h.2 c3
    refine lv_aload_n hx hb dX5_pots_10 rfl (lv_at hl 0 rfl) ?_
    refine va_get (D := D) (ci := 5) (v := .ref (a 4)) (C := RX5) (T := TX5) (N := 5) hx hb hts hinX5 hown hK hP 0 rfl rfl 3 (by decide) kf35 (fun _ h9 => h9) rfl dX5_pots_11 ?_
    refine lv_iload hx hb dX5_pots_14 (lv_at hl 4 rfl) ?_
    refine k_i (k_runVN cns_ok ⟨hx, hb, hml, hown, hts⟩ (tX2_bestPotsOf l D a c _ p3 S1 _ h) ⟨va_cnB 1 hts gX5_pots_X2_bestPotsOf_n125 rfl rfl rfl kn125 kiX2 (by decide +kernel) ⟨Nat.le_of_ble_eq_true rfl, Nat.le_of_ble_eq_true rfl⟩, kI125, kS125⟩ (va_recv hK hP (ci := 2) (q0 := 4) rfl rfl) hP hK (hD S1) hN rfl rfl hl.1 rfl (lv_room (Nat.le_of_ble_eq_true rfl)) dX5_pots_16 ⟨Nat.le_of_ble_eq_true rfl, Nat.le_of_ble_eq_true rfl⟩) hS (hD S1) hA (fun x5 S4 H locs h hP hS => ?_)
    refine lv_goto (tgt := 23) hx hb dX5_pots_19 (by decide) ?_
    refine vx_ret ?_
    refine W.widen (k := 3) (n := 18) (Nat.le_of_ble_eq_true rfl) (Nat.le_of_ble_eq_true rfl) ?_
    exact g_reti hx hb hr hlocks h hP hS dX5_pots_23
def PX5_ladles  (S : St) (post : Int32 → St → Prop) : Prop := ∃ k : Nat, PX3_deal k  S (fun x2 S1 => post x2 S1)
set_option maxHeartbeats 4000000 in
set_option maxRecDepth 100000 in
theorem tX5_ladles (l : Launch) (D : va_G) (a : Nat → Nat) (c : Nat → ClassId) (sz : Nat)  (S : St) (post : Int32 → St → Prop) (h : PX5_ladles  S post) : Met l yX5_ladles wsX5_ladles ({ frames := 12, cells := 0, slots := 0, locals := 282 }) (va_Pc [.ref (a 0)] (gP D (cw a c) (cty c) cns S sz)) (va_Qi post (gB D (cw a c)) (va_A (cw a c S) sz)) 0 0 (va_A (cw a c S) sz) := by
  refine Met.ofW (cc := cX5_ladles) (maxL := 1) (ret := (some .int)) (by decide) rfl ?_
  intro p e s m args below meth c9 s₁ B hml hv
  obtain ⟨rfl, hsz, hP, hK, hD0, hN⟩ := hv
  have hx := B.exec
  have hb := B.bytes
  have hr := B.returns
  have hts := atoms_spec (ws := wsX5_ladles) B.pre
  have hown : s.vm.findClass RX5 = some m.cls := findClass_of_methodNamed B.named
  have hlocks := B.notSynchronized
  subst hsz
  have hD1 := hD0.self (sz := s.heap.size)
  generalize hAe : va_A (cw a c S) s.heap.size = A at hD1 ⊢
  have hA : ∀ q : Nat, s.heap.size ≤ q → A q := fun q h => by rw [← hAe]; exact Or.inr h
  have hD : ∀ S2 : St, va_D A (cw a c S2) := gD cw_F hD1
  have hS : va_S A s.heap s.heap [] := va_S.rf
  have hinX5 : ∀ w ∈ wsX50, w ∈ wsX5_ladles := by decide +kernel
  have kI128 := hts (.instanceMethod yX3_deal) (by decide +kernel)
  have kS128 := hts (.selects RX3 yX3_deal yX3_deal) (by decide +kernel)
  have kf10 := hts (.fieldLink RX5 10 "CanteenPlan" "menu" "LCanteenPlan$Menu;") (by decide +kernel)
  have kiX3 := hts (.initialized RX3) (by decide +kernel)
  have kn128 := hN (.methodLinkNest RX5 128 yX3_deal "CanteenPlan") (by decide +kernel)
  have hl := lv_entry ([.ref (a 0)]) (n := 1) (Nat.le_of_ble_eq_true rfl)
  rw [lg_entry_eq]
  generalize (lg_sl ([.ref (a 0)]) ++ List.replicate (1 - (lg_sl ([.ref (a 0)])).length) Slot.unset).toArray = ls at hl ⊢
  have hl : lv_has ls 1 [(0, .ref (a 0))] := hl
  unfold PX5_ladles at h
  refine lv_aload_n hx hb dX5_ladles_0 rfl (lv_at hl 0 rfl) ?_
  refine va_get (D := D) (ci := 5) (v := .ref (a 1)) (C := RX5) (T := TX5) (N := 5) hx hb hts hinX5 hown hK hP 0 rfl rfl 0 (by decide) kf10 (fun _ h9 => h9) rfl dX5_ladles_1 ?_
  obtain ⟨k3, h⟩ := h
  refine k_i (k_runVN cns_ok ⟨hx, hb, hml, hown, hts⟩ (tX3_deal l D a c _ k3  S _ h) ⟨va_cnB 0 hts gX5_ladles_X3_deal_n128 rfl rfl rfl kn128 kiX3 (by decide +kernel) ⟨Nat.le_of_ble_eq_true rfl, Nat.le_of_ble_eq_true rfl⟩, kI128, kS128⟩ (va_recv hK hP (ci := 3) (q0 := 1) rfl rfl) hP hK (hD S) hN rfl rfl hl.1 rfl (lv_room (Nat.le_of_ble_eq_true rfl)) dX5_ladles_4 ⟨Nat.le_of_ble_eq_true rfl, Nat.le_of_ble_eq_true rfl⟩) hS (hD S) hA (fun x2 S1 H locs h hP hS => ?_)
  exact g_reti hx hb hr hlocks h hP hS dX5_ladles_7
def PX5_ladle (p0 : Int32) (S : St) (post : Int32 → St → Prop) (postx : String → St → Prop) : Prop := PX5_needMeal p0 S (fun S1 => ∃ k : Nat, PX3_deal k  S1 (fun x3 S2 => ((x3 = (-1) → post (-1) S2) ∧ (¬ x3 = (-1) → (vp_in p0 6 ∧ post (S2.2.2 2 p0.toNatClampNeg) S2))))) postx
set_option maxHeartbeats 4000000 in
set_option maxRecDepth 100000 in
theorem tX5_ladle (l : Launch) (D : va_G) (a : Nat → Nat) (c : Nat → ClassId) (sz : Nat) (p0 : Int32) (S : St) (post : Int32 → St → Prop) (postx : String → St → Prop) (hl0 : l.stackTraces = false) (h : PX5_ladle p0 S post postx) : vx_Met l yX5_ladle wsX5_ladle ({ frames := 12, cells := 1, slots := 6, locals := 282 }) (va_Pc [.ref (a 0), .int p0] (xP D (cw a c) (cty c) cns S sz)) (va_Qi post (gB D (cw a c)) (va_A (cw a c S) sz)) (xX D (cw a c) postx (va_A (cw a c S) sz)) 1 6 (va_A (cw a c S) sz) := by
  refine vx_ofW (cc := cX5_ladle) (maxL := 2) (ret := (some .int)) (by decide) rfl ?_
  intro p e s m args below meth c9 s₁ B hml hout hv
  obtain ⟨rfl, hsz, hP, hK, hD0, hN, hT⟩ := hv
  have hx := B.exec
  have hb := B.bytes
  have hr := B.returns
  have hts := atoms_spec (ws := wsX5_ladle) B.pre
  have hown : s.vm.findClass RX5 = some m.cls := findClass_of_methodNamed B.named
  have hlocks := B.notSynchronized
  subst hsz
  have hD1 := hD0.self (sz := s.heap.size)
  generalize hAe : va_A (cw a c S) s.heap.size = A at hD1 hT ⊢
  have hA : ∀ q : Nat, s.heap.size ≤ q → A q := fun q h => by rw [← hAe]; exact Or.inr h
  have hD : ∀ S2 : St, va_D A (cw a c S2) := gD cw_F hD1
  have hS : va_S A s.heap s.heap [] := va_S.rf
  have hinX3 : ∀ w ∈ wsX30, w ∈ wsX5_ladle := by decide +kernel
  have hinX5 : ∀ w ∈ wsX50, w ∈ wsX5_ladle := by decide +kernel
  have kI128 := hts (.instanceMethod yX3_deal) (by decide +kernel)
  have kS128 := hts (.selects RX3 yX3_deal yX3_deal) (by decide +kernel)
  have kf10 := hts (.fieldLink RX5 10 "CanteenPlan" "menu" "LCanteenPlan$Menu;") (by decide +kernel)
  have kf132 := hN (.fieldLinkNest RX5 132 "CanteenPlan$Menu" "ladleOf" "[I" "CanteenPlan") (by decide +kernel)
  have kiX3 := hts (.initialized RX3) (by decide +kernel)
  have kn128 := hN (.methodLinkNest RX5 128 yX3_deal "CanteenPlan") (by decide +kernel)
  have hl := lv_entry ([.ref (a 0), .int p0]) (n := 2) (Nat.le_of_ble_eq_true rfl)
  rw [lg_entry_eq]
  generalize (lg_sl ([.ref (a 0), .int p0]) ++ List.replicate (2 - (lg_sl ([.ref (a 0), .int p0])).length) Slot.unset).toArray = ls at hl ⊢
  have hl : lv_has ls 2 [(0, .ref (a 0)), (1, .int p0)] := hl
  unfold PX5_ladle at h
  refine lv_aload_n hx hb dX5_ladle_0 rfl (lv_at hl 0 rfl) ?_
  refine lv_iload_n hx hb dX5_ladle_1 rfl (lv_at hl 1 rfl) ?_
  refine x_v (x_runV cns_ok ⟨hx, hb, hml, hown, hts⟩ (tX5_needMeal l D a c _ p0 S _ _ hl0 h) (cwV 1 hts gX5_ladle_X5_needMeal rfl rfl rfl (by decide +kernel) ⟨Nat.le_of_ble_eq_true rfl, Nat.le_of_ble_eq_true rfl⟩) (va_recv hK hP (ci := 5) (q0 := 0) rfl rfl) hP hK (hD S) hN hT hS hA rfl rfl hl.1 rfl (lv_room (Nat.le_of_ble_eq_true rfl)) dX5_ladle_2 ⟨Nat.le_of_ble_eq_true rfl, Nat.le_of_ble_eq_true rfl⟩) hS (hD S) hA (fun E q9 ce S9 H locs hw hP hS hq hv hcl => x_out hout hlocks hq hv hcl hw hP hS (Nat.le_of_ble_eq_true rfl) (Nat.le_of_ble_eq_true rfl)) (fun S1 H locs h hP hS => ?_)
  refine lv_aload_n hx hb dX5_ladle_5 rfl (lv_at hl 0 rfl) ?_
  refine va_get (D := D) (ci := 5) (v := .ref (a 1)) (C := RX5) (T := TX5) (N := 5) hx hb hts hinX5 hown hK hP 0 rfl rfl 0 (by decide) kf10 (fun _ h9 => h9) rfl dX5_ladle_6 ?_
  obtain ⟨k4, h⟩ := h
  refine k_i (k_runVN cns_ok ⟨hx, hb, hml, hown, hts⟩ (tX3_deal l D a c _ k4  S1 _ h) ⟨va_cnB 0 hts gX5_ladle_X3_deal_n128 rfl rfl rfl kn128 kiX3 (by decide +kernel) ⟨Nat.le_of_ble_eq_true rfl, Nat.le_of_ble_eq_true rfl⟩, kI128, kS128⟩ (va_recv hK hP (ci := 3) (q0 := 1) rfl rfl) hP hK (hD S1) hN rfl rfl hl.1 rfl (lv_room (Nat.le_of_ble_eq_true rfl)) dX5_ladle_9 ⟨Nat.le_of_ble_eq_true rfl, Nat.le_of_ble_eq_true rfl⟩) hS (hD S1) hA (fun x3 S2 H locs h hP hS => ?_)
  refine lv_iconst (v := (-1)) hx hb dX5_ladle_12 (by decide) ?_
  refine lv_icmp_ne (tgt := 20) hx hb dX5_ladle_13 (by decide) (fun c5 => ?_) (fun c5 => ?_)
  · have h := h.2 c5
    refine lv_aload_n hx hb dX5_ladle_20 rfl (lv_at hl 0 rfl) ?_
    refine va_get (D := D) (ci := 5) (v := .ref (a 1)) (C := RX5) (T := TX5) (N := 5) hx hb hts hinX5 hown hK hP 0 rfl rfl 0 (by decide) kf10 (fun _ h9 => h9) rfl dX5_ladle_21 ?_
    refine va_getN (D := D) (ci := 3) (v := .ref (a 8)) (C := RX3) (T := TX3) (N := 4) hx hb hts hinX3 hown hK hP 1 rfl rfl 2 (by decide) (va_Nw.use rfl kf132) (fun _ h9 => h9) rfl dX5_ladle_24 ?_
    refine lv_iload_n hx hb dX5_ladle_27 rfl (lv_at hl 1 rfl) ?_
    obtain ⟨b6, h⟩ := h
    refine va_iald hx hb hK hP 8 2 rfl rfl b6 dX5_ladle_28 ?_
    refine vx_ret ?_
    refine W.widen (k := 1) (n := 6) (Nat.le_of_ble_eq_true rfl) (Nat.le_of_ble_eq_true rfl) ?_
    exact g_reti hx hb hr hlocks h hP hS dX5_ladle_29
  · have h := h.1 c5
    refine lv_iconst (v := (-1)) hx hb dX5_ladle_16 (by decide) ?_
    refine lv_goto (tgt := 29) hx hb dX5_ladle_17 (by decide) ?_
    refine vx_ret ?_
    refine W.widen (k := 1) (n := 6) (Nat.le_of_ble_eq_true rfl) (Nat.le_of_ble_eq_true rfl) ?_
    exact g_reti hx hb hr hlocks h hP hS dX5_ladle_29
def PX5_come (p0 : Int32) (S : St) (post : Int32 → St → Prop) (postx : String → St → Prop) : Prop := PX5_needWithin p0 0 100 S (fun S1 => (((S1.1 13) < 60 → PX1_add p0 S1 (fun x4 S3 => post x4 S3)) ∧ (¬ (S1.1 13) < 60 → post (-1) S1))) postx
set_option maxHeartbeats 4000000 in
set_option maxRecDepth 100000 in
theorem tX5_come (l : Launch) (D : va_G) (a : Nat → Nat) (c : Nat → ClassId) (sz : Nat) (p0 : Int32) (S : St) (post : Int32 → St → Prop) (postx : String → St → Prop) (hl0 : l.stackTraces = false) (h : PX5_come p0 S post postx) : vx_Met l yX5_come wsX5_come ({ frames := 8, cells := 1, slots := 6, locals := 162 }) (va_Pc [.ref (a 0), .int p0] (xP D (cw a c) (cty c) cns S sz)) (va_Qi post (gB D (cw a c)) (va_A (cw a c S) sz)) (xX D (cw a c) postx (va_A (cw a c S) sz)) 1 6 (va_A (cw a c S) sz) := by
  refine vx_ofW (cc := cX5_come) (maxL := 2) (ret := (some .int)) (by decide) rfl ?_
  intro p e s m args below meth c9 s₁ B hml hout hv
  obtain ⟨rfl, hsz, hP, hK, hD0, hN, hT⟩ := hv
  have hx := B.exec
  have hb := B.bytes
  have hr := B.returns
  have hts := atoms_spec (ws := wsX5_come) B.pre
  have hown : s.vm.findClass RX5 = some m.cls := findClass_of_methodNamed B.named
  have hlocks := B.notSynchronized
  subst hsz
  have hD1 := hD0.self (sz := s.heap.size)
  generalize hAe : va_A (cw a c S) s.heap.size = A at hD1 hT ⊢
  have hA : ∀ q : Nat, s.heap.size ≤ q → A q := fun q h => by rw [← hAe]; exact Or.inr h
  have hD : ∀ S2 : St, va_D A (cw a c S2) := gD cw_F hD1
  have hS : va_S A s.heap s.heap [] := va_S.rf
  have hinX1 : ∀ w ∈ wsX10, w ∈ wsX5_come := by decide +kernel
  have hinX5 : ∀ w ∈ wsX50, w ∈ wsX5_come := by decide +kernel
  have kI139 := hts (.instanceMethod yX1_add) (by decide +kernel)
  have kS139 := hts (.selects RX1 yX1_add yX1_add) (by decide +kernel)
  have kf136 := hN (.fieldLinkNest RX5 136 "CanteenPlan$Hatch" "minutes" "I" "CanteenPlan") (by decide +kernel)
  have kf42 := hts (.fieldLink RX5 42 "CanteenPlan" "line" "LCanteenPlan$Hatch;") (by decide +kernel)
  have kiX1 := hts (.initialized RX1) (by decide +kernel)
  have kn139 := hN (.methodLinkNest RX5 139 yX1_add "CanteenPlan") (by decide +kernel)
  have hl := lv_entry ([.ref (a 0), .int p0]) (n := 2) (Nat.le_of_ble_eq_true rfl)
  rw [lg_entry_eq]
  generalize (lg_sl ([.ref (a 0), .int p0]) ++ List.replicate (2 - (lg_sl ([.ref (a 0), .int p0])).length) Slot.unset).toArray = ls at hl ⊢
  have hl : lv_has ls 2 [(0, .ref (a 0)), (1, .int p0)] := hl
  unfold PX5_come at h
  refine lv_iload_n hx hb dX5_come_0 rfl (lv_at hl 1 rfl) ?_
  refine lv_iconst (v := 0) hx hb dX5_come_1 (by decide) ?_
  refine lv_bipush (v := 100) hx hb dX5_come_2 (by decide) ?_
  refine x_v (x_runS cns_ok ⟨hx, hb, hml, hown, hts⟩ (tX5_needWithin l D a c _ p0 0 100 S _ _ hl0 h) (va_cwS 3 hts gX5_come_X5_needWithin rfl rfl rfl (by decide +kernel) ⟨Nat.le_of_ble_eq_true rfl, Nat.le_of_ble_eq_true rfl⟩) hP hK (hD S) hN hT hS hA rfl rfl hl.1 rfl (lv_room (Nat.le_of_ble_eq_true rfl)) dX5_come_4 ⟨Nat.le_of_ble_eq_true rfl, Nat.le_of_ble_eq_true rfl⟩) hS (hD S) hA (fun E q9 ce S9 H locs hw hP hS hq hv hcl => x_out hout hlocks hq hv hcl hw hP hS (Nat.le_of_ble_eq_true rfl) (Nat.le_of_ble_eq_true rfl)) (fun S1 H locs h hP hS => ?_)
  refine lv_aload_n hx hb dX5_come_7 rfl (lv_at hl 0 rfl) ?_
  refine va_get (D := D) (ci := 5) (v := .ref (a 5)) (C := RX5) (T := TX5) (N := 5) hx hb hts hinX5 hown hK hP 0 rfl rfl 4 (by decide) kf42 (fun _ h9 => h9) rfl dX5_come_8 ?_
  refine va_getN (D := D) (ci := 1) (v := .int (S1.1 13)) (C := RX1) (T := TX1) (N := 3) hx hb hts hinX1 hown hK hP 5 rfl rfl 2 (by decide) (va_Nw.use rfl kf136) (fun _ h9 => h9) rfl dX5_come_11 ?_
  refine lv_bipush (v := 60) hx hb dX5_come_14 (by decide) ?_
  refine lv_icmp_lt (tgt := 23) hx hb dX5_come_16 (by decide) (fun c2 => ?_) (fun c2 => ?_)
  · have h := h.1 c2
    refine lv_aload_n hx hb dX5_come_23 rfl (lv_at hl 0 rfl) ?_
    refine va_get (D := D) (ci := 5) (v := .ref (a 5)) (C := RX5) (T := TX5) (N := 5) hx hb hts hinX5 hown hK hP 0 rfl rfl 4 (by decide) kf42 (fun _ h9 => h9) rfl dX5_come_24 ?_
    refine lv_iload_n hx hb dX5_come_27 rfl (lv_at hl 1 rfl) ?_
    refine k_i (k_runVN cns_ok ⟨hx, hb, hml, hown, hts⟩ (tX1_add l D a c _ p0 S1 _ h) ⟨va_cnB 1 hts gX5_come_X1_add_n139 rfl rfl rfl kn139 kiX1 (by decide +kernel) ⟨Nat.le_of_ble_eq_true rfl, Nat.le_of_ble_eq_true rfl⟩, kI139, kS139⟩ (va_recv hK hP (ci := 1) (q0 := 5) rfl rfl) hP hK (hD S1) hN rfl rfl hl.1 rfl (lv_room (Nat.le_of_ble_eq_true rfl)) dX5_come_28 ⟨Nat.le_of_ble_eq_true rfl, Nat.le_of_ble_eq_true rfl⟩) hS (hD S1) hA (fun x4 S3 H locs h hP hS => ?_)
    refine vx_ret ?_
    refine W.widen (k := 1) (n := 6) (Nat.le_of_ble_eq_true rfl) (Nat.le_of_ble_eq_true rfl) ?_
    exact g_reti hx hb hr hlocks h hP hS dX5_come_31
  · have h := h.2 c2
    refine lv_iconst (v := (-1)) hx hb dX5_come_19 (by decide) ?_
    refine lv_goto (tgt := 31) hx hb dX5_come_20 (by decide) ?_
    refine vx_ret ?_
    refine W.widen (k := 1) (n := 6) (Nat.le_of_ble_eq_true rfl) (Nat.le_of_ble_eq_true rfl) ?_
    exact g_reti hx hb hr hlocks h hP hS dX5_come_31
def PX5_hatch (p0 : Int32) (p1 : Int32) (S : St) (post : Int32 → St → Prop) (postx : String → St → Prop) : Prop := PX5_needWithin p0 1 100 S (fun S1 => PX5_needWithin p1 0 3 S1 (fun S2 => ∃ k : Nat, PX1_factOf k p0 p1 S2 (fun x4 S3 => post x4 S3)) postx) postx
set_option maxHeartbeats 4000000 in
set_option maxRecDepth 100000 in
theorem tX5_hatch (l : Launch) (D : va_G) (a : Nat → Nat) (c : Nat → ClassId) (sz : Nat) (p0 : Int32) (p1 : Int32) (S : St) (post : Int32 → St → Prop) (postx : String → St → Prop) (hl0 : l.stackTraces = false) (h : PX5_hatch p0 p1 S post postx) : vx_Met l yX5_hatch wsX5_hatch ({ frames := 8, cells := 2, slots := 12, locals := 162 }) (va_Pc [.ref (a 0), .int p0, .int p1] (xP D (cw a c) (cty c) cns S sz)) (va_Qi post (gB D (cw a c)) (va_A (cw a c S) sz)) (xX D (cw a c) postx (va_A (cw a c S) sz)) 2 12 (va_A (cw a c S) sz) := by
  refine vx_ofW (cc := cX5_hatch) (maxL := 3) (ret := (some .int)) (by decide) rfl ?_
  intro p e s m args below meth c9 s₁ B hml hout hv
  obtain ⟨rfl, hsz, hP, hK, hD0, hN, hT⟩ := hv
  have hx := B.exec
  have hb := B.bytes
  have hr := B.returns
  have hts := atoms_spec (ws := wsX5_hatch) B.pre
  have hown : s.vm.findClass RX5 = some m.cls := findClass_of_methodNamed B.named
  have hlocks := B.notSynchronized
  subst hsz
  have hD1 := hD0.self (sz := s.heap.size)
  generalize hAe : va_A (cw a c S) s.heap.size = A at hD1 hT ⊢
  have hA : ∀ q : Nat, s.heap.size ≤ q → A q := fun q h => by rw [← hAe]; exact Or.inr h
  have hD : ∀ S2 : St, va_D A (cw a c S2) := gD cw_F hD1
  have hS : va_S A s.heap s.heap [] := va_S.rf
  have hinX5 : ∀ w ∈ wsX50, w ∈ wsX5_hatch := by decide +kernel
  have kI140 := hts (.instanceMethod yX1_factOf) (by decide +kernel)
  have kS140 := hts (.selects RX1 yX1_factOf yX1_factOf) (by decide +kernel)
  have kf42 := hts (.fieldLink RX5 42 "CanteenPlan" "line" "LCanteenPlan$Hatch;") (by decide +kernel)
  have kiX1 := hts (.initialized RX1) (by decide +kernel)
  have kn140 := hN (.methodLinkNest RX5 140 yX1_factOf "CanteenPlan") (by decide +kernel)
  have hl := lv_entry ([.ref (a 0), .int p0, .int p1]) (n := 3) (Nat.le_of_ble_eq_true rfl)
  rw [lg_entry_eq]
  generalize (lg_sl ([.ref (a 0), .int p0, .int p1]) ++ List.replicate (3 - (lg_sl ([.ref (a 0), .int p0, .int p1])).length) Slot.unset).toArray = ls at hl ⊢
  have hl : lv_has ls 3 [(0, .ref (a 0)), (1, .int p0), (2, .int p1)] := hl
  unfold PX5_hatch at h
  refine lv_iload_n hx hb dX5_hatch_0 rfl (lv_at hl 1 rfl) ?_
  refine lv_iconst (v := 1) hx hb dX5_hatch_1 (by decide) ?_
  refine lv_bipush (v := 100) hx hb dX5_hatch_2 (by decide) ?_
  refine x_v (x_runS cns_ok ⟨hx, hb, hml, hown, hts⟩ (tX5_needWithin l D a c _ p0 1 100 S _ _ hl0 h) (va_cwS 3 hts gX5_hatch_X5_needWithin rfl rfl rfl (by decide +kernel) ⟨Nat.le_of_ble_eq_true rfl, Nat.le_of_ble_eq_true rfl⟩) hP hK (hD S) hN hT hS hA rfl rfl hl.1 rfl (lv_room (Nat.le_of_ble_eq_true rfl)) dX5_hatch_4 ⟨Nat.le_of_ble_eq_true rfl, Nat.le_of_ble_eq_true rfl⟩) hS (hD S) hA (fun E q9 ce S9 H locs hw hP hS hq hv hcl => x_out hout hlocks hq hv hcl hw hP hS (Nat.le_of_ble_eq_true rfl) (Nat.le_of_ble_eq_true rfl)) (fun S1 H locs h hP hS => ?_)
  refine lv_iload_n hx hb dX5_hatch_7 rfl (lv_at hl 2 rfl) ?_
  refine lv_iconst (v := 0) hx hb dX5_hatch_8 (by decide) ?_
  refine lv_iconst (v := 3) hx hb dX5_hatch_9 (by decide) ?_
  refine x_v (x_runS cns_ok ⟨hx, hb, hml, hown, hts⟩ (tX5_needWithin l D a c _ p1 0 3 S1 _ _ hl0 h) (va_cwS 3 hts gX5_hatch_X5_needWithin rfl rfl rfl (by decide +kernel) ⟨Nat.le_of_ble_eq_true rfl, Nat.le_of_ble_eq_true rfl⟩) hP hK (hD S1) hN hT hS hA rfl rfl hl.1 rfl (lv_room (Nat.le_of_ble_eq_true rfl)) dX5_hatch_10 ⟨Nat.le_of_ble_eq_true rfl, Nat.le_of_ble_eq_true rfl⟩) hS (hD S1) hA (fun E q9 ce S9 H locs hw hP hS hq hv hcl => x_out hout hlocks hq hv hcl hw hP hS (Nat.le_of_ble_eq_true rfl) (Nat.le_of_ble_eq_true rfl)) (fun S2 H locs h hP hS => ?_)
  refine lv_aload_n hx hb dX5_hatch_13 rfl (lv_at hl 0 rfl) ?_
  refine va_get (D := D) (ci := 5) (v := .ref (a 5)) (C := RX5) (T := TX5) (N := 5) hx hb hts hinX5 hown hK hP 0 rfl rfl 4 (by decide) kf42 (fun _ h9 => h9) rfl dX5_hatch_14 ?_
  refine lv_iload_n hx hb dX5_hatch_17 rfl (lv_at hl 1 rfl) ?_
  refine lv_iload_n hx hb dX5_hatch_18 rfl (lv_at hl 2 rfl) ?_
  obtain ⟨k5, h⟩ := h
  refine k_i (k_runVN cns_ok ⟨hx, hb, hml, hown, hts⟩ (tX1_factOf l D a c _ k5 p0 p1 S2 _ h) ⟨va_cnB 2 hts gX5_hatch_X1_factOf_n140 rfl rfl rfl kn140 kiX1 (by decide +kernel) ⟨Nat.le_of_ble_eq_true rfl, Nat.le_of_ble_eq_true rfl⟩, kI140, kS140⟩ (va_recv hK hP (ci := 1) (q0 := 5) rfl rfl) hP hK (hD S2) hN rfl rfl hl.1 rfl (lv_room (Nat.le_of_ble_eq_true rfl)) dX5_hatch_19 ⟨Nat.le_of_ble_eq_true rfl, Nat.le_of_ble_eq_true rfl⟩) hS (hD S2) hA (fun x4 S3 H locs h hP hS => ?_)
  refine vx_ret ?_
  refine W.widen (k := 2) (n := 12) (Nat.le_of_ble_eq_true rfl) (Nat.le_of_ble_eq_true rfl) ?_
  exact g_reti hx hb hr hlocks h hP hS dX5_hatch_22
def PX5_serve (p0 : Int32) (S : St) (post : Int32 → St → Prop) (postx : String → St → Prop) : Prop := ((0 ≤ p0 → ∃ k : Nat, PX1_leastServed k p0 S (fun x3 S2 => post x3 S2)) ∧ (¬ 0 ≤ p0 → postx "java/lang/IllegalArgumentException" S))
set_option maxHeartbeats 4000000 in
set_option maxRecDepth 100000 in
theorem tX5_serve (l : Launch) (D : va_G) (a : Nat → Nat) (c : Nat → ClassId) (sz : Nat) (p0 : Int32) (S : St) (post : Int32 → St → Prop) (postx : String → St → Prop) (hl0 : l.stackTraces = false) (h : PX5_serve p0 S post postx) : vx_Met l yX5_serve wsX5_serve ({ frames := 7, cells := 1, slots := 6, locals := 140 }) (va_Pc [.ref (a 0), .int p0] (xP D (cw a c) (cty c) cns S sz)) (va_Qi post (gB D (cw a c)) (va_A (cw a c S) sz)) (xX D (cw a c) postx (va_A (cw a c S) sz)) 1 6 (va_A (cw a c S) sz) := by
  refine vx_ofW (cc := cX5_serve) (maxL := 2) (ret := (some .int)) (by decide) rfl ?_
  intro p e s m args below meth c9 s₁ B hml hout hv
  obtain ⟨rfl, hsz, hP, hK, hD0, hN, hT⟩ := hv
  have hx := B.exec
  have hb := B.bytes
  have hr := B.returns
  have hts := atoms_spec (ws := wsX5_serve) B.pre
  have hown : s.vm.findClass RX5 = some m.cls := findClass_of_methodNamed B.named
  have hlocks := B.notSynchronized
  subst hsz
  have hD1 := hD0.self (sz := s.heap.size)
  generalize hAe : va_A (cw a c S) s.heap.size = A at hD1 hT ⊢
  have hA : ∀ q : Nat, s.heap.size ≤ q → A q := fun q h => by rw [← hAe]; exact Or.inr h
  have hD : ∀ S2 : St, va_D A (cw a c S2) := gD cw_F hD1
  have hS : va_S A s.heap s.heap [] := va_S.rf
  have hinX5 : ∀ w ∈ wsX50, w ∈ wsX5_serve := by decide +kernel
  have kI147 := hts (.instanceMethod yX1_leastServed) (by decide +kernel)
  have kS147 := hts (.selects RX1 yX1_leastServed yX1_leastServed) (by decide +kernel)
  have kf42 := hts (.fieldLink RX5 42 "CanteenPlan" "line" "LCanteenPlan$Hatch;") (by decide +kernel)
  have kiX1 := hts (.initialized RX1) (by decide +kernel)
  have kn147 := hN (.methodLinkNest RX5 147 yX1_leastServed "CanteenPlan") (by decide +kernel)
  have kx142 := hts (.classLink RX5 142 "java/lang/IllegalArgumentException") (by decide +kernel)
  have ky142 := hts (.initialized "java/lang/IllegalArgumentException") (by decide +kernel)
  have hl := lv_entry ([.ref (a 0), .int p0]) (n := 2) (Nat.le_of_ble_eq_true rfl)
  rw [lg_entry_eq]
  generalize (lg_sl ([.ref (a 0), .int p0]) ++ List.replicate (2 - (lg_sl ([.ref (a 0), .int p0])).length) Slot.unset).toArray = ls at hl ⊢
  have hl : lv_has ls 2 [(0, .ref (a 0)), (1, .int p0)] := hl
  unfold PX5_serve at h
  refine lv_iload_n hx hb dX5_serve_0 rfl (lv_at hl 1 rfl) ?_
  refine lv_if_ge (tgt := 14) hx hb dX5_serve_1 (by decide) (fun c1 => ?_) (fun c1 => ?_)
  · have h := h.1 c1
    refine lv_aload_n hx hb dX5_serve_14 rfl (lv_at hl 0 rfl) ?_
    refine va_get (D := D) (ci := 5) (v := .ref (a 5)) (C := RX5) (T := TX5) (N := 5) hx hb hts hinX5 hown hK hP 0 rfl rfl 4 (by decide) kf42 (fun _ h9 => h9) rfl dX5_serve_15 ?_
    refine lv_iload_n hx hb dX5_serve_18 rfl (lv_at hl 1 rfl) ?_
    obtain ⟨k4, h⟩ := h
    refine k_i (k_runVN cns_ok ⟨hx, hb, hml, hown, hts⟩ (tX1_leastServed l D a c _ k4 p0 S _ h) ⟨va_cnB 1 hts gX5_serve_X1_leastServed_n147 rfl rfl rfl kn147 kiX1 (by decide +kernel) ⟨Nat.le_of_ble_eq_true rfl, Nat.le_of_ble_eq_true rfl⟩, kI147, kS147⟩ (va_recv hK hP (ci := 1) (q0 := 5) rfl rfl) hP hK (hD S) hN rfl rfl hl.1 rfl (lv_room (Nat.le_of_ble_eq_true rfl)) dX5_serve_19 ⟨Nat.le_of_ble_eq_true rfl, Nat.le_of_ble_eq_true rfl⟩) hS (hD S) hA (fun x3 S2 H locs h hP hS => ?_)
    refine vx_ret ?_
    refine W.widen (k := 1) (n := 6) (Nat.le_of_ble_eq_true rfl) (Nat.le_of_ble_eq_true rfl) ?_
    exact g_reti hx hb hr hlocks h hP hS dX5_serve_22
  · have h := h.2 c1
    exact x_throw (E := "java/lang/IllegalArgumentException") (text := "minutes are below 0") (ik := 142) (is := 144) (ic := 146) hx hb hl0 hown (fun w hw => hts w (List.mem_cons_of_mem _ (List.mem_append_right _ hw))) (by decide +kernel) (by decide) (by decide +kernel) kx142 ky142 (by decide +kernel) hT hS hl.1 hml dX5_serve_4 dX5_serve_7 dX5_serve_8 dX5_serve_10 dX5_serve_13 hout hlocks h hP (Nat.le_of_ble_eq_true rfl) (Nat.le_of_ble_eq_true rfl) (Nat.le_of_ble_eq_true rfl) (Nat.le_of_ble_eq_true rfl) (Nat.le_of_ble_eq_true rfl) (Nat.le_of_ble_eq_true rfl)
def PX5_empty  (S : St) (post : Int32 → St → Prop) : Prop := PX1_clear  S (fun x2 S1 => post x2 S1)
set_option maxHeartbeats 4000000 in
set_option maxRecDepth 100000 in
theorem tX5_empty (l : Launch) (D : va_G) (a : Nat → Nat) (c : Nat → ClassId) (sz : Nat)  (S : St) (post : Int32 → St → Prop) (h : PX5_empty  S post) : Met l yX5_empty wsX5_empty ({ frames := 1, cells := 0, slots := 0, locals := 21 }) (va_Pc [.ref (a 0)] (gP D (cw a c) (cty c) cns S sz)) (va_Qi post (gB D (cw a c)) (va_A (cw a c S) sz)) 0 0 (va_A (cw a c S) sz) := by
  refine Met.ofW (cc := cX5_empty) (maxL := 1) (ret := (some .int)) (by decide) rfl ?_
  intro p e s m args below meth c9 s₁ B hml hv
  obtain ⟨rfl, hsz, hP, hK, hD0, hN⟩ := hv
  have hx := B.exec
  have hb := B.bytes
  have hr := B.returns
  have hts := atoms_spec (ws := wsX5_empty) B.pre
  have hown : s.vm.findClass RX5 = some m.cls := findClass_of_methodNamed B.named
  have hlocks := B.notSynchronized
  subst hsz
  have hD1 := hD0.self (sz := s.heap.size)
  generalize hAe : va_A (cw a c S) s.heap.size = A at hD1 ⊢
  have hA : ∀ q : Nat, s.heap.size ≤ q → A q := fun q h => by rw [← hAe]; exact Or.inr h
  have hD : ∀ S2 : St, va_D A (cw a c S2) := gD cw_F hD1
  have hS : va_S A s.heap s.heap [] := va_S.rf
  have hinX5 : ∀ w ∈ wsX50, w ∈ wsX5_empty := by decide +kernel
  have kI150 := hts (.instanceMethod yX1_clear) (by decide +kernel)
  have kS150 := hts (.selects RX1 yX1_clear yX1_clear) (by decide +kernel)
  have kf42 := hts (.fieldLink RX5 42 "CanteenPlan" "line" "LCanteenPlan$Hatch;") (by decide +kernel)
  have kiX1 := hts (.initialized RX1) (by decide +kernel)
  have kn150 := hN (.methodLinkNest RX5 150 yX1_clear "CanteenPlan") (by decide +kernel)
  have hl := lv_entry ([.ref (a 0)]) (n := 1) (Nat.le_of_ble_eq_true rfl)
  rw [lg_entry_eq]
  generalize (lg_sl ([.ref (a 0)]) ++ List.replicate (1 - (lg_sl ([.ref (a 0)])).length) Slot.unset).toArray = ls at hl ⊢
  have hl : lv_has ls 1 [(0, .ref (a 0))] := hl
  unfold PX5_empty at h
  refine lv_aload_n hx hb dX5_empty_0 rfl (lv_at hl 0 rfl) ?_
  refine va_get (D := D) (ci := 5) (v := .ref (a 5)) (C := RX5) (T := TX5) (N := 5) hx hb hts hinX5 hown hK hP 0 rfl rfl 4 (by decide) kf42 (fun _ h9 => h9) rfl dX5_empty_1 ?_
  refine k_i (k_runVN cns_ok ⟨hx, hb, hml, hown, hts⟩ (tX1_clear l D a c _  S _ h) ⟨va_cnB 0 hts gX5_empty_X1_clear_n150 rfl rfl rfl kn150 kiX1 (by decide +kernel) ⟨Nat.le_of_ble_eq_true rfl, Nat.le_of_ble_eq_true rfl⟩, kI150, kS150⟩ (va_recv hK hP (ci := 1) (q0 := 5) rfl rfl) hP hK (hD S) hN rfl rfl hl.1 rfl (lv_room (Nat.le_of_ble_eq_true rfl)) dX5_empty_4 ⟨Nat.le_of_ble_eq_true rfl, Nat.le_of_ble_eq_true rfl⟩) hS (hD S) hA (fun x2 S1 H locs h hP hS => ?_)
  exact g_reti hx hb hr hlocks h hP hS dX5_empty_7
def PX5_count (p0 : Int32) (S : St) (post : Int32 → St → Prop) : Prop := ((p0 = 0 → post (S.1 0) S) ∧ (¬ p0 = 0 → ((p0 = 1 → post ((S.1 1) - (S.1 2)) S) ∧ (¬ p0 = 1 → ((p0 = 2 → post (S.1 1) S) ∧ (¬ p0 = 2 → ((p0 = 3 → post (S.1 5) S) ∧ (¬ p0 = 3 → ((p0 = 4 → post (S.1 13) S) ∧ (¬ p0 = 4 → post (-1) S))))))))))
set_option maxHeartbeats 4000000 in
set_option maxRecDepth 100000 in
theorem tX5_count (l : Launch) (D : va_G) (a : Nat → Nat) (c : Nat → ClassId) (sz : Nat) (p0 : Int32) (S : St) (post : Int32 → St → Prop) (h : PX5_count p0 S post) : Met l yX5_count wsX5_count ({ frames := 0, cells := 0, slots := 0, locals := 0 }) (va_Pc [.ref (a 0), .int p0] (gP D (cw a c) (cty c) cns S sz)) (va_Qi post (gB D (cw a c)) (va_A (cw a c S) sz)) 0 0 (va_A (cw a c S) sz) := by
  refine Met.ofW (cc := cX5_count) (maxL := 2) (ret := (some .int)) (by decide) rfl ?_
  intro p e s m args below meth c9 s₁ B hml hv
  obtain ⟨rfl, hsz, hP, hK, hD0, hN⟩ := hv
  have hx := B.exec
  have hb := B.bytes
  have hr := B.returns
  have hts := atoms_spec (ws := wsX5_count) B.pre
  have hown : s.vm.findClass RX5 = some m.cls := findClass_of_methodNamed B.named
  have hlocks := B.notSynchronized
  subst hsz
  have hD1 := hD0.self (sz := s.heap.size)
  generalize hAe : va_A (cw a c S) s.heap.size = A at hD1 ⊢
  have hA : ∀ q : Nat, s.heap.size ≤ q → A q := fun q h => by rw [← hAe]; exact Or.inr h
  have hD : ∀ S2 : St, va_D A (cw a c S2) := gD cw_F hD1
  have hS : va_S A s.heap s.heap [] := va_S.rf
  have hinX0 : ∀ w ∈ wsX00, w ∈ wsX5_count := by decide +kernel
  have hinX1 : ∀ w ∈ wsX10, w ∈ wsX5_count := by decide +kernel
  have hinX2 : ∀ w ∈ wsX20, w ∈ wsX5_count := by decide +kernel
  have hinX3 : ∀ w ∈ wsX30, w ∈ wsX5_count := by decide +kernel
  have hinX5 : ∀ w ∈ wsX50, w ∈ wsX5_count := by decide +kernel
  have kf10 := hts (.fieldLink RX5 10 "CanteenPlan" "menu" "LCanteenPlan$Menu;") (by decide +kernel)
  have kf103 := hN (.fieldLinkNest RX5 103 "CanteenPlan$Kitchen" "sizes" "I" "CanteenPlan") (by decide +kernel)
  have kf136 := hN (.fieldLinkNest RX5 136 "CanteenPlan$Hatch" "minutes" "I" "CanteenPlan") (by decide +kernel)
  have kf153 := hN (.fieldLinkNest RX5 153 "CanteenPlan$Diary" "away" "I" "CanteenPlan") (by decide +kernel)
  have kf19 := hts (.fieldLink RX5 19 "CanteenPlan" "diary" "LCanteenPlan$Diary;") (by decide +kernel)
  have kf35 := hts (.fieldLink RX5 35 "CanteenPlan" "kitchen" "LCanteenPlan$Kitchen;") (by decide +kernel)
  have kf42 := hts (.fieldLink RX5 42 "CanteenPlan" "line" "LCanteenPlan$Hatch;") (by decide +kernel)
  have kf50 := hN (.fieldLinkNest RX5 50 "CanteenPlan$Menu" "meals" "I" "CanteenPlan") (by decide +kernel)
  have kf72 := hN (.fieldLinkNest RX5 72 "CanteenPlan$Diary" "inAll" "I" "CanteenPlan") (by decide +kernel)
  have hl := lv_entry ([.ref (a 0), .int p0]) (n := 2) (Nat.le_of_ble_eq_true rfl)
  rw [lg_entry_eq]
  generalize (lg_sl ([.ref (a 0), .int p0]) ++ List.replicate (2 - (lg_sl ([.ref (a 0), .int p0])).length) Slot.unset).toArray = ls at hl ⊢
  have hl : lv_has ls 2 [(0, .ref (a 0)), (1, .int p0)] := hl
  unfold PX5_count at h
  refine lv_iload_n hx hb dX5_count_0 rfl (lv_at hl 1 rfl) ?_
  by_cases c1 : p0 = 0
  · have h := h.1 c1
    refine lv_tableIn (off := 35) (tgt := 36) hx hb dX5_count_1 (by rw [c1]; decide) (by rw [c1]; decide) (by rw [c1]; decide) (by decide) ?_
    refine lv_aload_n hx hb dX5_count_36 rfl (lv_at hl 0 rfl) ?_
    refine va_get (D := D) (ci := 5) (v := .ref (a 1)) (C := RX5) (T := TX5) (N := 5) hx hb hts hinX5 hown hK hP 0 rfl rfl 0 (by decide) kf10 (fun _ h9 => h9) rfl dX5_count_37 ?_
    refine va_getN (D := D) (ci := 3) (v := .int (S.1 0)) (C := RX3) (T := TX3) (N := 4) hx hb hts hinX3 hown hK hP 1 rfl rfl 3 (by decide) (va_Nw.use rfl kf50) (fun _ h9 => h9) rfl dX5_count_40 ?_
    exact g_reti hx hb hr hlocks h hP hS dX5_count_43
  · have h := h.2 c1
    by_cases c2 : p0 = 1
    · have h := h.1 c2
      refine lv_tableIn (off := 43) (tgt := 44) hx hb dX5_count_1 (by rw [c2]; decide) (by rw [c2]; decide) (by rw [c2]; decide) (by decide) ?_
      refine lv_aload_n hx hb dX5_count_44 rfl (lv_at hl 0 rfl) ?_
      refine va_get (D := D) (ci := 5) (v := .ref (a 2)) (C := RX5) (T := TX5) (N := 5) hx hb hts hinX5 hown hK hP 0 rfl rfl 1 (by decide) kf19 (fun _ h9 => h9) rfl dX5_count_45 ?_
      refine va_getN (D := D) (ci := 0) (v := .int (S.1 1)) (C := RX0) (T := TX0) (N := 7) hx hb hts hinX0 hown hK hP 2 rfl rfl 5 (by decide) (va_Nw.use rfl kf72) (fun _ h9 => h9) rfl dX5_count_48 ?_
      refine lv_aload_n hx hb dX5_count_51 rfl (lv_at hl 0 rfl) ?_
      refine va_get (D := D) (ci := 5) (v := .ref (a 2)) (C := RX5) (T := TX5) (N := 5) hx hb hts hinX5 hown hK hP 0 rfl rfl 1 (by decide) kf19 (fun _ h9 => h9) rfl dX5_count_52 ?_
      refine va_getN (D := D) (ci := 0) (v := .int (S.1 2)) (C := RX0) (T := TX0) (N := 7) hx hb hts hinX0 hown hK hP 2 rfl rfl 6 (by decide) (va_Nw.use rfl kf153) (fun _ h9 => h9) rfl dX5_count_55 ?_
      refine lv_isub hx hb dX5_count_58 ?_
      exact g_reti hx hb hr hlocks h hP hS dX5_count_59
    · have h := h.2 c2
      by_cases c3 : p0 = 2
      · have h := h.1 c3
        refine lv_tableIn (off := 59) (tgt := 60) hx hb dX5_count_1 (by rw [c3]; decide) (by rw [c3]; decide) (by rw [c3]; decide) (by decide) ?_
        refine lv_aload_n hx hb dX5_count_60 rfl (lv_at hl 0 rfl) ?_
        refine va_get (D := D) (ci := 5) (v := .ref (a 2)) (C := RX5) (T := TX5) (N := 5) hx hb hts hinX5 hown hK hP 0 rfl rfl 1 (by decide) kf19 (fun _ h9 => h9) rfl dX5_count_61 ?_
        refine va_getN (D := D) (ci := 0) (v := .int (S.1 1)) (C := RX0) (T := TX0) (N := 7) hx hb hts hinX0 hown hK hP 2 rfl rfl 5 (by decide) (va_Nw.use rfl kf72) (fun _ h9 => h9) rfl dX5_count_64 ?_
        exact g_reti hx hb hr hlocks h hP hS dX5_count_67
      · have h := h.2 c3
        by_cases c4 : p0 = 3
        · have h := h.1 c4
          refine lv_tableIn (off := 67) (tgt := 68) hx hb dX5_count_1 (by rw [c4]; decide) (by rw [c4]; decide) (by rw [c4]; decide) (by decide) ?_
          refine lv_aload_n hx hb dX5_count_68 rfl (lv_at hl 0 rfl) ?_
          refine va_get (D := D) (ci := 5) (v := .ref (a 4)) (C := RX5) (T := TX5) (N := 5) hx hb hts hinX5 hown hK hP 0 rfl rfl 3 (by decide) kf35 (fun _ h9 => h9) rfl dX5_count_69 ?_
          refine va_getN (D := D) (ci := 2) (v := .int (S.1 5)) (C := RX2) (T := TX2) (N := 15) hx hb hts hinX2 hown hK hP 4 rfl rfl 2 (by decide) (va_Nw.use rfl kf103) (fun _ h9 => h9) rfl dX5_count_72 ?_
          exact g_reti hx hb hr hlocks h hP hS dX5_count_75
        · have h := h.2 c4
          by_cases c5 : p0 = 4
          · have h := h.1 c5
            refine lv_tableIn (off := 75) (tgt := 76) hx hb dX5_count_1 (by rw [c5]; decide) (by rw [c5]; decide) (by rw [c5]; decide) (by decide) ?_
            refine lv_aload_n hx hb dX5_count_76 rfl (lv_at hl 0 rfl) ?_
            refine va_get (D := D) (ci := 5) (v := .ref (a 5)) (C := RX5) (T := TX5) (N := 5) hx hb hts hinX5 hown hK hP 0 rfl rfl 4 (by decide) kf42 (fun _ h9 => h9) rfl dX5_count_77 ?_
            refine va_getN (D := D) (ci := 1) (v := .int (S.1 13)) (C := RX1) (T := TX1) (N := 3) hx hb hts hinX1 hown hK hP 5 rfl rfl 2 (by decide) (va_Nw.use rfl kf136) (fun _ h9 => h9) rfl dX5_count_80 ?_
            exact g_reti hx hb hr hlocks h hP hS dX5_count_83
          · have h := h.2 c5
            refine lv_tableOut (tgt := 84) hx hb dX5_count_1 (by have q0 : p0.toInt ≠ 0 := fun e9 => c1 (Int32.toInt_inj.mp e9); have q1 : p0.toInt ≠ 1 := fun e9 => c2 (Int32.toInt_inj.mp e9); have q2 : p0.toInt ≠ 2 := fun e9 => c3 (Int32.toInt_inj.mp e9); have q3 : p0.toInt ≠ 3 := fun e9 => c4 (Int32.toInt_inj.mp e9); have q4 : p0.toInt ≠ 4 := fun e9 => c5 (Int32.toInt_inj.mp e9); omega) (by decide) ?_
            refine lv_iconst (v := (-1)) hx hb dX5_count_84 (by decide) ?_
            exact g_reti hx hb hr hlocks h hP hS dX5_count_85
