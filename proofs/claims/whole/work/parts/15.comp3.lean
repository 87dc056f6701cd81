def PX1_add (p0 : Int32) (S : St) (post : Int32 → St → Prop) : Prop := (vp_in (S.1 13) 60 ∧ ∀ S2 : St, S2 = sR S 16 (upd (S.2.2 16) (S.1 13).toNatClampNeg p0) → ∀ S3 : St, S3 = sI S2 13 ((S2.1 13) + 1) → post (S3.1 13) S3)
set_option maxHeartbeats 4000000 in
set_option maxRecDepth 100000 in
theorem tX1_add (l : Launch) (D : va_G) (a : Nat → Nat) (c : Nat → ClassId) (sz : Nat) (p0 : Int32) (S : St) (post : Int32 → St → Prop) (h : PX1_add p0 S post) : Met l yX1_add wsX1_add ({ frames := 0, cells := 0, slots := 0, locals := 0 }) (va_Pc [.ref (a 5), .int p0] (gP D (cw a c) (cty c) cns S sz)) (va_Qi post (gB D (cw a c)) (va_A (cw a c S) sz)) 0 0 (va_A (cw a c S) sz) := by
  refine Met.ofW (cc := cX1_add) (maxL := 2) (ret := (some .int)) (by decide) rfl ?_
  intro p e s m args below meth c9 s₁ B hml hv
  obtain ⟨rfl, hsz, hP, hK, hD0, hN⟩ := hv
  have hx := B.exec
  have hb := B.bytes
  have hr := B.returns
  have hts := atoms_spec (ws := wsX1_add) B.pre
  have hown : s.vm.findClass RX1 = some m.cls := findClass_of_methodNamed B.named
  have hlocks := B.notSynchronized
  subst hsz
  have hD1 := hD0.self (sz := s.heap.size)
  generalize hAe : va_A (cw a c S) s.heap.size = A at hD1 ⊢
  have hA : ∀ q : Nat, s.heap.size ≤ q → A q := fun q h => by rw [← hAe]; exact Or.inr h
  have hD : ∀ S2 : St, va_D A (cw a c S2) := gD cw_F hD1
  have hS : va_S A s.heap s.heap [] := va_S.rf
  have hinX1 : ∀ w ∈ wsX10, w ∈ wsX1_add := by decide +kernel
  have kf18 := hts (.fieldLink RX1 18 "CanteenPlan$Hatch" "minutes" "I") (by decide +kernel)
  have kf9 := hts (.fieldLink RX1 9 "CanteenPlan$Hatch" "coming" "[I") (by decide +kernel)
  have hl := lv_entry ([.ref (a 5), .int p0]) (n := 2) (Nat.le_of_ble_eq_true rfl)
  rw [lg_entry_eq]
  generalize (lg_sl ([.ref (a 5), .int p0]) ++ List.replicate (2 - (lg_sl ([.ref (a 5), .int p0])).length) Slot.unset).toArray = ls at hl ⊢
  have hl : lv_has ls 2 [(0, .ref (a 5)), (1, .int p0)] := hl
  unfold PX1_add at h
  refine lv_aload_n hx hb dX1_add_0 rfl (lv_at hl 0 rfl) ?_
  refine va_get (D := D) (ci := 1) (v := .ref (a 22)) (C := RX1) (T := TX1) (N := 3) hx hb hts hinX1 hown hK hP 5 rfl rfl 0 (by decide) kf9 (fun _ h9 => h9) rfl dX1_add_1 ?_
  refine lv_aload_n hx hb dX1_add_4 rfl (lv_at hl 0 rfl) ?_
  refine va_get (D := D) (ci := 1) (v := .int (S.1 13)) (C := RX1) (T := TX1) (N := 3) hx hb hts hinX1 hown hK hP 5 rfl rfl 2 (by decide) kf18 (fun _ h9 => h9) rfl dX1_add_5 ?_
  refine lv_iload_n hx hb dX1_add_8 rfl (lv_at hl 1 rfl) ?_
  obtain ⟨b1, h⟩ := h
  refine va_iast hx hb hK hP (hD S) hS 22 16 rfl rfl b1 dX1_add_9 (fun H locs hP _ hS => ?_)
  obtain ⟨S2, eS2⟩ : ∃ z : St, z = sR S 16 (upd (S.2.2 16) (S.1 13).toNatClampNeg p0) := ⟨_, rfl⟩
  have hP : va_P D vwCl (cw a c S2) H := by rw [eS2]; exact hP
  have h := h S2 eS2
  refine lv_aload_n hx hb dX1_add_10 rfl (lv_at hl 0 rfl) ?_
  refine lv_dup hx hb dX1_add_11 rfl ?_
  refine va_get (D := D) (ci := 1) (v := .int (S2.1 13)) (C := RX1) (T := TX1) (N := 3) hx hb hts hinX1 hown hK hP 5 rfl rfl 2 (by decide) kf18 (fun _ h9 => h9) rfl dX1_add_12 ?_
  refine lv_iconst (v := 1) hx hb dX1_add_15 (by decide) ?_
  refine lv_iadd hx hb dX1_add_16 ?_
  refine va_put (D := D) (ci := 1) (v := .int ((S2.1 13) + 1)) (ty := .int) (C := RX1) (T := TX1) (N := 3) hx hb hts hinX1 tyX1 tyX1_ok nmX1 hown hK hP (hD S2) hS 5 rfl rfl 2 (by decide) kf18 (fun _ h9 => h9) rfl (by decide +kernel) rfl rfl (Nat.le_of_ble_eq_true rfl) dX1_add_17 (fun H locs hP _ hS => ?_)
  obtain ⟨S3, eS3⟩ : ∃ z : St, z = sI S2 13 ((S2.1 13) + 1) := ⟨_, rfl⟩
  have hP : va_P D vwCl (cw a c S3) H := by rw [eS3]; exact hP
  have h := h S3 eS3
  refine lv_aload_n hx hb dX1_add_20 rfl (lv_at hl 0 rfl) ?_
  refine va_get (D := D) (ci := 1) (v := .int (S3.1 13)) (C := RX1) (T := TX1) (N := 3) hx hb hts hinX1 hown hK hP 5 rfl rfl 2 (by decide) kf18 (fun _ h9 => h9) rfl dX1_add_21 ?_
  exact g_reti hx hb hr hlocks h hP hS dX1_add_24
def PX1_clear  (S : St) (post : Int32 → St → Prop) : Prop := ∀ x1 : Int32, x1 = (S.1 13) → ∀ S2 : St, S2 = sI S 13 0 → post x1 S2
set_option maxHeartbeats 4000000 in
set_option maxRecDepth 100000 in
theorem tX1_clear (l : Launch) (D : va_G) (a : Nat → Nat) (c : Nat → ClassId) (sz : Nat)  (S : St) (post : Int32 → St → Prop) (h : PX1_clear  S post) : Met l yX1_clear wsX1_clear ({ frames := 0, cells := 0, slots := 0, locals := 0 }) (va_Pc [.ref (a 5)] (gP D (cw a c) (cty c) cns S sz)) (va_Qi post (gB D (cw a c)) (va_A (cw a c S) sz)) 0 0 (va_A (cw a c S) sz) := by
  refine Met.ofW (cc := cX1_clear) (maxL := 2) (ret := (some .int)) (by decide) rfl ?_
  intro p e s m args below meth c9 s₁ B hml hv
  obtain ⟨rfl, hsz, hP, hK, hD0, hN⟩ := hv
  have hx := B.exec
  have hb := B.bytes
  have hr := B.returns
  have hts := atoms_spec (ws := wsX1_clear) B.pre
  have hown : s.vm.findClass RX1 = some m.cls := findClass_of_methodNamed B.named
  have hlocks := B.notSynchronized
  subst hsz
  have hD1 := hD0.self (sz := s.heap.size)
  generalize hAe : va_A (cw a c S) s.heap.size = A at hD1 ⊢
  have hA : ∀ q : Nat, s.heap.size ≤ q → A q := fun q h => by rw [← hAe]; exact Or.inr h
  have hD : ∀ S2 : St, va_D A (cw a c S2) := gD cw_F hD1
  have hS : va_S A s.heap s.heap [] := va_S.rf
  have hinX1 : ∀ w ∈ wsX10, w ∈ wsX1_clear := by decide +kernel
  have kf18 := hts (.fieldLink RX1 18 "CanteenPlan$Hatch" "minutes" "I") (by decide +kernel)
  have hl := lv_entry ([.ref (a 5)]) (n := 2) (Nat.le_of_ble_eq_true rfl)
  rw [lg_entry_eq]
  generalize (lg_sl ([.ref (a 5)]) ++ List.replicate (2 - (lg_sl ([.ref (a 5)])).length) Slot.unset).toArray = ls at hl ⊢
  have hl : lv_has ls 2 [(0, .ref (a 5))] := hl
  unfold PX1_clear at h
  refine lv_aload_n hx hb dX1_clear_0 rfl (lv_at hl 0 rfl) ?_
  refine va_get (D := D) (ci := 1) (v := .int (S.1 13)) (C := RX1) (T := TX1) (N := 3) hx hb hts hinX1 hown hK hP 5 rfl rfl 2 (by decide) kf18 (fun _ h9 => h9) rfl dX1_clear_1 ?_
  refine lv_topi (fun x1 ex1 => ?_)
  have h := h x1 ex1
  refine lv_istore_n (lv' := [(1, .int x1), (0, .ref (a 5))]) hx hb dX1_clear_4 rfl hl (by decide) rfl (fun ls hl => ?_)
  refine lv_aload_n hx hb dX1_clear_5 rfl (lv_at hl 1 rfl) ?_
  refine lv_iconst (v := 0) hx hb dX1_clear_6 (by decide) ?_
  refine va_put (D := D) (ci := 1) (v := .int 0) (ty := .int) (C := RX1) (T := TX1) (N := 3) hx hb hts hinX1 tyX1 tyX1_ok nmX1 hown hK hP (hD S) hS 5 rfl rfl 2 (by decide) kf18 (fun _ h9 => h9) rfl (by decide +kernel) rfl rfl (Nat.le_of_ble_eq_true rfl) dX1_clear_7 (fun H locs hP _ hS => ?_)
  obtain ⟨S2, eS2⟩ : ∃ z : St, z = sI S 13 0 := ⟨_, rfl⟩
  have hP : va_P D vwCl (cw a c S2) H := by rw [eS2]; exact hP
  have h := h S2 eS2
  refine lv_iload_n hx hb dX1_clear_10 rfl (lv_at hl 0 rfl) ?_
  exact g_reti hx hb hr hlocks h hP hS dX1_clear_11
def PX1_waitsOfFirst (p0 : Int32) (p1 : Int32) (S : St) (post : Int32 → St → Prop) : Prop := ((p1 ≤ 0 → ∀ x2 : Int32, x2 = (p0 - (0 * p1)) → (¬ (2 : Int32) = 0 ∧ post ((p1 * ((0 * (0 - 1)) / 2)) + (x2 * 0)) S)) ∧ (¬ p1 ≤ 0 → (¬ p1 = 0 ∧ ∀ x5 : Int32, x5 = (p0 / p1) → ∀ x6 : Int32, x6 = (p0 - (x5 * p1)) → (¬ (2 : Int32) = 0 ∧ post ((p1 * ((x5 * (x5 - 1)) / 2)) + (x6 * x5)) S))))
set_option maxHeartbeats 4000000 in
set_option maxRecDepth 100000 in
theorem tX1_waitsOfFirst (l : Launch) (D : va_G) (a : Nat → Nat) (c : Nat → ClassId) (sz : Nat) (p0 : Int32) (p1 : Int32) (S : St) (post : Int32 → St → Prop) (h : PX1_waitsOfFirst p0 p1 S post) : Met l yX1_waitsOfFirst wsX1_waitsOfFirst ({ frames := 0, cells := 0, slots := 0, locals := 0 }) (va_Pc [.int p0, .int p1] (gP D (cw a c) (cty c) cns S sz)) (va_Qi post (gB D (cw a c)) (va_A (cw a c S) sz)) 0 0 (va_A (cw a c S) sz) := by
  refine Met.ofW (cc := cX1_waitsOfFirst) (maxL := 4) (ret := (some .int)) (by decide) rfl ?_
  intro p e s m args below meth c9 s₁ B hml hv
  obtain ⟨rfl, hsz, hP, hK, hD0, hN⟩ := hv
  have hx := B.exec
  have hb := B.bytes
  have hr := B.returns
  have hts := atoms_spec (ws := wsX1_waitsOfFirst) B.pre
  have hown : s.vm.findClass RX1 = some m.cls := findClass_of_methodNamed B.named
  have hlocks := B.notSynchronized
  subst hsz
  have hD1 := hD0.self (sz := s.heap.size)
  generalize hAe : va_A (cw a c S) s.heap.size = A at hD1 ⊢
  have hA : ∀ q : Nat, s.heap.size ≤ q → A q := fun q h => by rw [← hAe]; exact Or.inr h
  have hD : ∀ S2 : St, va_D A (cw a c S2) := gD cw_F hD1
  have hS : va_S A s.heap s.heap [] := va_S.rf
  have hl := lv_entry ([.int p0, .int p1]) (n := 4) (Nat.le_of_ble_eq_true rfl)
  rw [lg_entry_eq]
  generalize (lg_sl ([.int p0, .int p1]) ++ List.replicate (4 - (lg_sl ([.int p0, .int p1])).length) Slot.unset).toArray = ls at hl ⊢
  have hl : lv_has ls 4 [(0, .int p0), (1, .int p1)] := hl
  unfold PX1_waitsOfFirst at h
  refine lv_iload_n hx hb dX1_waitsOfFirst_0 rfl (lv_at hl 1 rfl) ?_
  refine lv_if_le (tgt := 10) hx hb dX1_waitsOfFirst_1 (by decide) (fun c1 => ?_) (fun c1 => ?_)
  · have h := h.1 c1
    refine lv_iconst (v := 0) hx hb dX1_waitsOfFirst_10 (by decide) ?_
    refine lv_istore_n (lv' := [(2, .int 0), (0, .int p0), (1, .int p1)]) hx hb dX1_waitsOfFirst_11 rfl hl (by decide) rfl (fun ls hl => ?_)
    refine lv_iload_n hx hb dX1_waitsOfFirst_12 rfl (lv_at hl 1 rfl) ?_
    refine lv_iload_n hx hb dX1_waitsOfFirst_13 rfl (lv_at hl 0 rfl) ?_
    refine lv_iload_n hx hb dX1_waitsOfFirst_14 rfl (lv_at hl 2 rfl) ?_
    refine lv_imul hx hb dX1_waitsOfFirst_15 ?_
    refine lv_isub hx hb dX1_waitsOfFirst_16 ?_
    refine lv_topi (fun x2 ex2 => ?_)
    have h := h x2 ex2
    refine lv_istore_n (lv' := [(3, .int x2), (2, .int 0), (0, .int p0), (1, .int p1)]) hx hb dX1_waitsOfFirst_17 rfl hl (by decide) rfl (fun ls hl => ?_)
    refine lv_iload_n hx hb dX1_waitsOfFirst_18 rfl (lv_at hl 3 rfl) ?_
    refine lv_iload_n hx hb dX1_waitsOfFirst_19 rfl (lv_at hl 1 rfl) ?_
    refine lv_iload_n hx hb dX1_waitsOfFirst_20 rfl (lv_at hl 1 rfl) ?_
    refine lv_iconst (v := 1) hx hb dX1_waitsOfFirst_21 (by decide) ?_
    refine lv_isub hx hb dX1_waitsOfFirst_22 ?_
    refine lv_imul hx hb dX1_waitsOfFirst_23 ?_
    refine lv_iconst (v := 2) hx hb dX1_waitsOfFirst_24 (by decide) ?_
    obtain ⟨b3, h⟩ := h
    refine lv_idiv hx hb dX1_waitsOfFirst_25 b3 ?_
    refine lv_imul hx hb dX1_waitsOfFirst_26 ?_
    refine lv_iload_n hx hb dX1_waitsOfFirst_27 rfl (lv_at hl 0 rfl) ?_
    refine lv_iload_n hx hb dX1_waitsOfFirst_28 rfl (lv_at hl 1 rfl) ?_
    refine lv_imul hx hb dX1_waitsOfFirst_29 ?_
    refine lv_iadd hx hb dX1_waitsOfFirst_30 ?_
    exact g_reti hx hb hr hlocks h hP hS dX1_waitsOfFirst_31
  · have h := h.2 c1
    refine lv_iload_n hx hb dX1_waitsOfFirst_4 rfl (lv_at hl 0 rfl) ?_
    refine lv_iload_n hx hb dX1_waitsOfFirst_5 rfl (lv_at hl 1 rfl) ?_
    obtain ⟨b4, h⟩ := h
    refine lv_idiv hx hb dX1_waitsOfFirst_6 b4 ?_
    refine lv_goto (tgt := 11) hx hb dX1_waitsOfFirst_7 (by decide) ?_
    refine lv_topi (fun x5 ex5 => ?_)
    have h := h x5 ex5
    refine lv_istore_n (lv' := [(2, .int x5), (0, .int p0), (1, .int p1)]) hx hb dX1_waitsOfFirst_11 rfl hl (by decide) rfl (fun ls hl => ?_)
    refine lv_iload_n hx hb dX1_waitsOfFirst_12 rfl (lv_at hl 1 rfl) ?_
    refine lv_iload_n hx hb dX1_waitsOfFirst_13 rfl (lv_at hl 0 rfl) ?_
    refine lv_iload_n hx hb dX1_waitsOfFirst_14 rfl (lv_at hl 2 rfl) ?_
    refine lv_imul hx hb dX1_waitsOfFirst_15 ?_
    refine lv_isub hx hb dX1_waitsOfFirst_16 ?_
    refine lv_topi (fun x6 ex6 => ?_)
    have h := h x6 ex6
    refine lv_istore_n (lv' := [(3, .int x6), (2, .int x5), (0, .int p0), (1, .int p1)]) hx hb dX1_waitsOfFirst_17 rfl hl (by decide) rfl (fun ls hl => ?_)
    refine lv_iload_n hx hb dX1_waitsOfFirst_18 rfl (lv_at hl 3 rfl) ?_
    refine lv_iload_n hx hb dX1_waitsOfFirst_19 rfl (lv_at hl 1 rfl) ?_
    refine lv_iload_n hx hb dX1_waitsOfFirst_20 rfl (lv_at hl 1 rfl) ?_
    refine lv_iconst (v := 1) hx hb dX1_waitsOfFirst_21 (by decide) ?_
    refine lv_isub hx hb dX1_waitsOfFirst_22 ?_
    refine lv_imul hx hb dX1_waitsOfFirst_23 ?_
    refine lv_iconst (v := 2) hx hb dX1_waitsOfFirst_24 (by decide) ?_
    obtain ⟨b7, h⟩ := h
    refine lv_idiv hx hb dX1_waitsOfFirst_25 b7 ?_
    refine lv_imul hx hb dX1_waitsOfFirst_26 ?_
    refine lv_iload_n hx hb dX1_waitsOfFirst_27 rfl (lv_at hl 0 rfl) ?_
    refine lv_iload_n hx hb dX1_waitsOfFirst_28 rfl (lv_at hl 1 rfl) ?_
    refine lv_imul hx hb dX1_waitsOfFirst_29 ?_
    refine lv_iadd hx hb dX1_waitsOfFirst_30 ?_
    exact g_reti hx hb hr hlocks h hP hS dX1_waitsOfFirst_31
def PX1_noteWaits (p0 : Int32) (p1 : Int32) (p2 : Int32) (S : St) (post : St → Prop) : Prop := (vp_in p0 60 ∧ ∀ x2 : Int32, x2 = (p1 + (S.2.2 16 p0.toNatClampNeg)) → ((p2 ≤ 0 → (vp_in 0 4 ∧ (vp_in 0 4 ∧ ∀ S6 : St, S6 = sR S 17 (upd (S.2.2 17) (0 : Int32).toNatClampNeg (if (S.2.2 17 (0 : Int32).toNatClampNeg) < 0 then 0 else (S.2.2 17 (0 : Int32).toNatClampNeg))) → (vp_in 1 4 ∧ PX1_waitsOfFirst x2 p2 S6 (fun x9 S8 => PX1_waitsOfFirst p1 p2 S8 (fun x11 S10 => (vp_in 1 4 ∧ ∀ S13 : St, S13 = sR S10 17 (upd (S10.2.2 17) (1 : Int32).toNatClampNeg ((S6.2.2 17 (1 : Int32).toNatClampNeg) + (x9 - x11))) → (vp_in 2 4 ∧ ∀ S15 : St, S15 = sR S13 17 (upd (S13.2.2 17) (2 : Int32).toNatClampNeg (p0 + 0)) → post S15)))))))) ∧ (¬ p2 ≤ 0 → (¬ p2 = 0 ∧ ∀ x17 : Int32, x17 = ((x2 - 1) / p2) → (vp_in 0 4 ∧ (vp_in 0 4 ∧ ∀ S20 : St, S20 = sR S 17 (upd (S.2.2 17) (0 : Int32).toNatClampNeg (if (S.2.2 17 (0 : Int32).toNatClampNeg) < x17 then x17 else (S.2.2 17 (0 : Int32).toNatClampNeg))) → (vp_in 1 4 ∧ PX1_waitsOfFirst x2 p2 S20 (fun x23 S22 => PX1_waitsOfFirst p1 p2 S22 (fun x25 S24 => (vp_in 1 4 ∧ ∀ S27 : St, S27 = sR S24 17 (upd (S24.2.2 17) (1 : Int32).toNatClampNeg ((S20.2.2 17 (1 : Int32).toNatClampNeg) + (x23 - x25))) → (vp_in 2 4 ∧ ∀ S29 : St, S29 = sR S27 17 (upd (S27.2.2 17) (2 : Int32).toNatClampNeg (p0 + x17)) → post S29)))))))))))
set_option maxHeartbeats 4000000 in
set_option maxRecDepth 100000 in
theorem tX1_noteWaits (l : Launch) (D : va_G) (a : Nat → Nat) (c : Nat → ClassId) (sz : Nat) (p0 : Int32) (p1 : Int32) (p2 : Int32) (S : St) (post : St → Prop) (h : PX1_noteWaits p0 p1 p2 S post) : Met l yX1_noteWaits wsX1_noteWaits ({ frames := 1, cells := 0, slots := 0, locals := 24 }) (va_Pc [.ref (a 5), .int p0, .int p1, .int p2] (gP D (cw a c) (cty c) cns S sz)) (va_Qv post (gB D (cw a c)) (va_A (cw a c S) sz)) 0 0 (va_A (cw a c S) sz) := by
  refine Met.ofW (cc := cX1_noteWaits) (maxL := 6) (ret := none) (by decide) rfl ?_
  intro p e s m args below meth c9 s₁ B hml hv
  obtain ⟨rfl, hsz, hP, hK, hD0, hN⟩ := hv
  have hx := B.exec
  have hb := B.bytes
  have hr := B.returns
  have hts := atoms_spec (ws := wsX1_noteWaits) B.pre
  have hown : s.vm.findClass RX1 = some m.cls := findClass_of_methodNamed B.named
  have hlocks := B.notSynchronized
  subst hsz
  have hD1 := hD0.self (sz := s.heap.size)
  generalize hAe : va_A (cw a c S) s.heap.size = A at hD1 ⊢
  have hA : ∀ q : Nat, s.heap.size ≤ q → A q := fun q h => by rw [← hAe]; exact Or.inr h
  have hD : ∀ S2 : St, va_D A (cw a c S2) := gD cw_F hD1
  have hS : va_S A s.heap s.heap [] := va_S.rf
  have hinX1 : ∀ w ∈ wsX10, w ∈ wsX1_noteWaits := by decide +kernel
  have kMath := hts (.initialized "java/lang/Math") (by decide +kernel)
  have kdmax := hts (.code Lib.Math.max.name Lib.Math.max.code 2 (some .int)) (by decide +kernel)
  have kf15 := hts (.fieldLink RX1 15 "CanteenPlan$Hatch" "facts" "[I") (by decide +kernel)
  have kf9 := hts (.fieldLink RX1 9 "CanteenPlan$Hatch" "coming" "[I") (by decide +kernel)
  have km36 := hts (.methodLink RX1 36 Lib.Math.max.name) (by decide +kernel)
  have ksmax := hts (.static Lib.Math.max.name) (by decide +kernel)
  have hl := lv_entry ([.ref (a 5), .int p0, .int p1, .int p2]) (n := 6) (Nat.le_of_ble_eq_true rfl)
  rw [lg_entry_eq]
  generalize (lg_sl ([.ref (a 5), .int p0, .int p1, .int p2]) ++ List.replicate (6 - (lg_sl ([.ref (a 5), .int p0, .int p1, .int p2])).length) Slot.unset).toArray = ls at hl ⊢
  have hl : lv_has ls 6 [(0, .ref (a 5)), (1, .int p0), (2, .int p1), (3, .int p2)] := hl
  unfold PX1_noteWaits at h
  refine lv_iload_n hx hb dX1_noteWaits_0 rfl (lv_at hl 2 rfl) ?_
  refine lv_aload_n hx hb dX1_noteWaits_1 rfl (lv_at hl 0 rfl) ?_
  refine va_get (D := D) (ci := 1) (v := .ref (a 22)) (C := RX1) (T := TX1) (N := 3) hx hb hts hinX1 hown hK hP 5 rfl rfl 0 (by decide) kf9 (fun _ h9 => h9) rfl dX1_noteWaits_2 ?_
  refine lv_iload_n hx hb dX1_noteWaits_5 rfl (lv_at hl 1 rfl) ?_
  obtain ⟨b1, h⟩ := h
  refine va_iald hx hb hK hP 22 16 rfl rfl b1 dX1_noteWaits_6 ?_
  refine lv_iadd hx hb dX1_noteWaits_7 ?_
  refine lv_topi (fun x2 ex2 => ?_)
  have h := h x2 ex2
  refine lv_istore (lv' := [(4, .int x2), (0, .ref (a 5)), (1, .int p0), (2, .int p1), (3, .int p2)]) hx hb dX1_noteWaits_8 hl (by decide) rfl (fun ls hl => ?_)
  refine lv_iload_n hx hb dX1_noteWaits_10 rfl (lv_at hl 4 rfl) ?_
  refine lv_if_le (tgt := 23) hx hb dX1_noteWaits_11 (by decide) (fun c3 => ?_) (fun c3 => ?_)
  · have h := h.1 c3
    refine lv_iconst (v := 0) hx hb dX1_noteWaits_23 (by decide) ?_
    refine lv_istore (lv' := [(5, .int 0), (4, .int x2), (0, .ref (a 5)), (1, .int p0), (2, .int p1), (3, .int p2)]) hx hb dX1_noteWaits_24 hl (by decide) rfl (fun ls hl => ?_)
    refine lv_aload_n hx hb dX1_noteWaits_26 rfl (lv_at hl 2 rfl) ?_
    refine va_get (D := D) (ci := 1) (v := .ref (a 23)) (C := RX1) (T := TX1) (N := 3) hx hb hts hinX1 hown hK hP 5 rfl rfl 1 (by decide) kf15 (fun _ h9 => h9) rfl dX1_noteWaits_27 ?_
    refine lv_iconst (v := 0) hx hb dX1_noteWaits_30 (by decide) ?_
    refine lv_aload_n hx hb dX1_noteWaits_31 rfl (lv_at hl 2 rfl) ?_
    refine va_get (D := D) (ci := 1) (v := .ref (a 23)) (C := RX1) (T := TX1) (N := 3) hx hb hts hinX1 hown hK hP 5 rfl rfl 1 (by decide) kf15 (fun _ h9 => h9) rfl dX1_noteWaits_32 ?_
    refine lv_iconst (v := 0) hx hb dX1_noteWaits_35 (by decide) ?_
    obtain ⟨b4, h⟩ := h
    refine va_iald hx hb hK hP 23 17 rfl rfl b4 dX1_noteWaits_36 ?_
    refine lv_iload hx hb dX1_noteWaits_37 (lv_at hl 0 rfl) ?_
    refine va_mmax hx hb (hml.trans hl.1.symm) hown km36 ksmax kMath kdmax (Nat.le_of_ble_eq_true rfl) (Nat.le_of_ble_eq_true rfl) (Nat.le_of_ble_eq_true rfl) (Nat.le_of_ble_eq_true rfl) dX1_noteWaits_39 ?_
    obtain ⟨b5, h⟩ := h
    refine va_iast hx hb hK hP (hD S) hS 23 17 rfl rfl b5 dX1_noteWaits_42 (fun H locs hP _ hS => ?_)
    obtain ⟨S6, eS6⟩ : ∃ z : St, z = sR S 17 (upd (S.2.2 17) (0 : Int32).toNatClampNeg (if (S.2.2 17 (0 : Int32).toNatClampNeg) < 0 then 0 else (S.2.2 17 (0 : Int32).toNatClampNeg))) := ⟨_, rfl⟩
    have hP : va_P D vwCl (cw a c S6) H := by rw [eS6]; exact hP
    have h := h S6 eS6
    refine lv_aload_n hx hb dX1_noteWaits_43 rfl (lv_at hl 2 rfl) ?_
    refine va_get (D := D) (ci := 1) (v := .ref (a 23)) (C := RX1) (T := TX1) (N := 3) hx hb hts hinX1 hown hK hP 5 rfl rfl 1 (by decide) kf15 (fun _ h9 => h9) rfl dX1_noteWaits_44 ?_
    refine lv_iconst (v := 1) hx hb dX1_noteWaits_47 (by decide) ?_
    refine lv_dup2_11 hx hb dX1_noteWaits_48 rfl rfl ?_
    obtain ⟨b7, h⟩ := h
    refine va_iald hx hb hK hP 23 17 rfl rfl b7 dX1_noteWaits_49 ?_
    refine lv_iload hx hb dX1_noteWaits_50 (lv_at hl 1 rfl) ?_
    refine lv_iload_n hx hb dX1_noteWaits_52 rfl (lv_at hl 5 rfl) ?_
    refine k_i (k_runS cns_ok ⟨hx, hb, hml, hown, hts⟩ (tX1_waitsOfFirst l D a c _ x2 p2 S6 _ h) (va_cwS 2 hts gX1_noteWaits_X1_waitsOfFirst rfl rfl rfl (by decide +kernel) ⟨Nat.le_of_ble_eq_true rfl, Nat.le_of_ble_eq_true rfl⟩) hP hK (hD S6) hN rfl rfl hl.1 rfl (lv_room (Nat.le_of_ble_eq_true rfl)) dX1_noteWaits_53 ⟨Nat.le_of_ble_eq_true rfl, Nat.le_of_ble_eq_true rfl⟩) hS (hD S6) hA (fun x9 S8 H locs h hP hS => ?_)
    refine lv_iload_n hx hb dX1_noteWaits_56 rfl (lv_at hl 4 rfl) ?_
    refine lv_iload_n hx hb dX1_noteWaits_57 rfl (lv_at hl 5 rfl) ?_
    refine k_i (k_runS cns_ok ⟨hx, hb, hml, hown, hts⟩ (tX1_waitsOfFirst l D a c _ p1 p2 S8 _ h) (va_cwS 2 hts gX1_noteWaits_X1_waitsOfFirst rfl rfl rfl (by decide +kernel) ⟨Nat.le_of_ble_eq_true rfl, Nat.le_of_ble_eq_true rfl⟩) hP hK (hD S8) hN rfl rfl hl.1 rfl (lv_room (Nat.le_of_ble_eq_true rfl)) dX1_noteWaits_58 ⟨Nat.le_of_ble_eq_true rfl, Nat.le_of_ble_eq_true rfl⟩) hS (hD S8) hA (fun x11 S10 H locs h hP hS => ?_)
    refine lv_isub hx hb dX1_noteWaits_61 ?_
    refine lv_iadd hx hb dX1_noteWaits_62 ?_
    obtain ⟨b12, h⟩ := h
    refine va_iast hx hb hK hP (hD S10) hS 23 17 rfl rfl b12 dX1_noteWaits_63 (fun H locs hP _ hS => ?_)
    obtain ⟨S13, eS13⟩ : ∃ z : St, z = sR S10 17 (upd (S10.2.2 17) (1 : Int32).toNatClampNeg ((S6.2.2 17 (1 : Int32).toNatClampNeg) + (x9 - x11))) := ⟨_, rfl⟩
    have hP : va_P D vwCl (cw a c S13) H := by rw [eS13]; exact hP
    have h := h S13 eS13
    refine lv_aload_n hx hb dX1_noteWaits_64 rfl (lv_at hl 2 rfl) ?_
    refine va_get (D := D) (ci := 1) (v := .ref (a 23)) (C := RX1) (T := TX1) (N := 3) hx hb hts hinX1 hown hK hP 5 rfl rfl 1 (by decide) kf15 (fun _ h9 => h9) rfl dX1_noteWaits_65 ?_
    refine lv_iconst (v := 2) hx hb dX1_noteWaits_68 (by decide) ?_
    refine lv_iload_n hx hb dX1_noteWaits_69 rfl (lv_at hl 3 rfl) ?_
    refine lv_iload hx hb dX1_noteWaits_70 (lv_at hl 0 rfl) ?_
    refine lv_iadd hx hb dX1_noteWaits_72 ?_
    obtain ⟨b14, h⟩ := h
    refine va_iast hx hb hK hP (hD S13) hS 23 17 rfl rfl b14 dX1_noteWaits_73 (fun H locs hP _ hS => ?_)
    obtain ⟨S15, eS15⟩ : ∃ z : St, z = sR S13 17 (upd (S13.2.2 17) (2 : Int32).toNatClampNeg (p0 + 0)) := ⟨_, rfl⟩
    have hP : va_P D vwCl (cw a c S15) H := by rw [eS15]; exact hP
    have h := h S15 eS15
    exact g_retv hx hb hr hlocks h hP hS dX1_noteWaits_74
  · have h := h.2 c3
    refine lv_iload hx hb dX1_noteWaits_14 (lv_at hl 0 rfl) ?_
    refine lv_iconst (v := 1) hx hb dX1_noteWaits_16 (by decide) ?_
    refine lv_isub hx hb dX1_noteWaits_17 ?_
    refine lv_iload_n hx hb dX1_noteWaits_18 rfl (lv_at hl 4 rfl) ?_
    obtain ⟨b16, h⟩ := h
    refine lv_idiv hx hb dX1_noteWaits_19 b16 ?_
    refine lv_goto (tgt := 24) hx hb dX1_noteWaits_20 (by decide) ?_
    refine lv_topi (fun x17 ex17 => ?_)
    have h := h x17 ex17
    refine lv_istore (lv' := [(5, .int x17), (4, .int x2), (0, .ref (a 5)), (1, .int p0), (2, .int p1), (3, .int p2)]) hx hb dX1_noteWaits_24 hl (by decide) rfl (fun ls hl => ?_)
    refine lv_aload_n hx hb dX1_noteWaits_26 rfl (lv_at hl 2 rfl) ?_
    refine va_get (D := D) (ci := 1) (v := .ref (a 23)) (C := RX1) (T := TX1) (N := 3) hx hb hts hinX1 hown hK hP 5 rfl rfl 1 (by decide) kf15 (fun _ h9 => h9) rfl dX1_noteWaits_27 ?_
    refine lv_iconst (v := 0) hx hb dX1_noteWaits_30 (by decide) ?_
    refine lv_aload_n hx hb dX1_noteWaits_31 rfl (lv_at hl 2 rfl) ?_
    refine va_get (D := D) (ci := 1) (v := .ref (a 23)) (C := RX1) (T := TX1) (N := 3) hx hb hts hinX1 hown hK hP 5 rfl rfl 1 (by decide) kf15 (fun _ h9 => h9) rfl dX1_noteWaits_32 ?_
    refine lv_iconst (v := 0) hx hb dX1_noteWaits_35 (by decide) ?_
    obtain ⟨b18, h⟩ := h
    refine va_iald hx hb hK hP 23 17 rfl rfl b18 dX1_noteWaits_36 ?_
    refine lv_iload hx hb dX1_noteWaits_37 (lv_at hl 0 rfl) ?_
    refine va_mmax hx hb (hml.trans hl.1.symm) hown km36 ksmax kMath kdmax (Nat.le_of_ble_eq_true rfl) (Nat.le_of_ble_eq_true rfl) (Nat.le_of_ble_eq_true rfl) (Nat.le_of_ble_eq_true rfl) dX1_noteWaits_39 ?_
    obtain ⟨b19, h⟩ := h
    refine va_iast hx hb hK hP (hD S) hS 23 17 rfl rfl b19 dX1_noteWaits_42 (fun H locs hP _ hS => ?_)
    obtain ⟨S20, eS20⟩ : ∃ z : St, z = sR S 17 (upd (S.2.2 17) (0 : Int32).toNatClampNeg (if (S.2.2 17 (0 : Int32).toNatClampNeg) < x17 then x17 else (S.2.2 17 (0 : Int32).toNatClampNeg))) := ⟨_, rfl⟩
    have hP : va_P D vwCl (cw a c S20) H := by rw [eS20]; exact hP
    have h := h S20 eS20
    refine lv_aload_n hx hb dX1_noteWaits_43 rfl (lv_at hl 2 rfl) ?_
    refine va_get (D := D) (ci := 1) (v := .ref (a 23)) (C := RX1) (T := TX1) (N := 3) hx hb hts hinX1 hown hK hP 5 rfl rfl 1 (by decide) kf15 (fun _ h9 => h9) rfl dX1_noteWaits_44 ?_
    refine lv_iconst (v := 1) hx hb dX1_noteWaits_47 (by decide) ?_
    refine lv_dup2_11 hx hb dX1_noteWaits_48 rfl rfl ?_
    obtain ⟨b21, h⟩ := h
    refine va_iald hx hb hK hP 23 17 rfl rfl b21 dX1_noteWaits_49 ?_
    refine lv_iload hx hb dX1_noteWaits_50 (lv_at hl 1 rfl) ?_
    refine lv_iload_n hx hb dX1_noteWaits_52 rfl (lv_at hl 5 rfl) ?_
    refine k_i (k_runS cns_ok ⟨hx, hb, hml, hown, hts⟩ (tX1_waitsOfFirst l D a c _ x2 p2 S20 _ h) (va_cwS 2 hts gX1_noteWaits_X1_waitsOfFirst rfl rfl rfl (by decide +kernel) ⟨Nat.le_of_ble_eq_true rfl, Nat.le_of_ble_eq_true rfl⟩) hP hK (hD S20) hN rfl rfl hl.1 rfl (lv_room (Nat.le_of_ble_eq_true rfl)) dX1_noteWaits_53 ⟨Nat.le_of_ble_eq_true rfl, Nat.le_of_ble_eq_true rfl⟩) hS (hD S20) hA (fun x23 S22 H locs h hP hS => ?_)
    refine lv_iload_n hx hb dX1_noteWaits_56 rfl (lv_at hl 4 rfl) ?_
    refine lv_iload_n hx hb dX1_noteWaits_57 rfl (lv_at hl 5 rfl) ?_
    refine k_i (k_runS cns_ok ⟨hx, hb, hml, hown, hts⟩ (tX1_waitsOfFirst l D a c _ p1 p2 S22 _ h) (va_cwS 2 hts gX1_noteWaits_X1_waitsOfFirst rfl rfl rfl (by decide +kernel) ⟨Nat.le_of_ble_eq_true rfl, Nat.le_of_ble_eq_true rfl⟩) hP hK (hD S22) hN rfl rfl hl.1 rfl (lv_room (Nat.le_of_ble_eq_true rfl)) dX1_noteWaits_58 ⟨Nat.le_of_ble_eq_true rfl, Nat.le_of_ble_eq_true rfl⟩) hS (hD S22) hA (fun x25 S24 H locs h hP hS => ?_)
    refine lv_isub hx hb dX1_noteWaits_61 ?_
    refine lv_iadd hx hb dX1_noteWaits_62 ?_
    obtain ⟨b26, h⟩ := h
    refine va_iast hx hb hK hP (hD S24) hS 23 17 rfl rfl b26 dX1_noteWaits_63 (fun H locs hP _ hS => ?_)
    obtain ⟨S27, eS27⟩ : ∃ z : St, z = sR S24 17 (upd (S24.2.2 17) (1 : Int32).toNatClampNeg ((S20.2.2 17 (1 : Int32).toNatClampNeg) + (x23 - x25))) := ⟨_, rfl⟩
    have hP : va_P D vwCl (cw a c S27) H := by rw [eS27]; exact hP
    have h := h S27 eS27
    refine lv_aload_n hx hb dX1_noteWaits_64 rfl (lv_at hl 2 rfl) ?_
    refine va_get (D := D) (ci := 1) (v := .ref (a 23)) (C := RX1) (T := TX1) (N := 3) hx hb hts hinX1 hown hK hP 5 rfl rfl 1 (by decide) kf15 (fun _ h9 => h9) rfl dX1_noteWaits_65 ?_
    refine lv_iconst (v := 2) hx hb dX1_noteWaits_68 (by decide) ?_
    refine lv_iload_n hx hb dX1_noteWaits_69 rfl (lv_at hl 3 rfl) ?_
    refine lv_iload hx hb dX1_noteWaits_70 (lv_at hl 0 rfl) ?_
    refine lv_iadd hx hb dX1_noteWaits_72 ?_
    obtain ⟨b28, h⟩ := h
    refine va_iast hx hb hK hP (hD S27) hS 23 17 rfl rfl b28 dX1_noteWaits_73 (fun H locs hP _ hS => ?_)
    obtain ⟨S29, eS29⟩ : ∃ z : St, z = sR S27 17 (upd (S27.2.2 17) (2 : Int32).toNatClampNeg (p0 + x17)) := ⟨_, rfl⟩
    have hP : va_P D vwCl (cw a c S29) H := by rw [eS29]; exact hP
    have h := h S29 eS29
    exact g_retv hx hb hr hlocks h hP hS dX1_noteWaits_74
def BX1_factOf_0 (X : Int32 → Int32 → Int32 → Int32 → St → Prop) (post : Int32 → St → Prop) (xl1 : Int32) (xl2 : Int32) (xl3 : Int32) (xl4 : Int32) (S : St) : Prop := (((S.1 13) ≤ xl4 → (vp_in xl2 4 ∧ post (S.2.2 17 xl2.toNatClampNeg) S)) ∧ (¬ (S.1 13) ≤ xl4 → (vp_in xl4 60 ∧ (((S.2.2 16 xl4.toNatClampNeg) ≤ 0 → (vp_in xl4 60 ∧ ∀ x9 : Int32, x9 = (if ((xl3 + (S.2.2 16 xl4.toNatClampNeg)) - xl1) < 0 then 0 else ((xl3 + (S.2.2 16 xl4.toNatClampNeg)) - xl1)) → (vp_in 3 4 ∧ (vp_in 3 4 ∧ ∀ S12 : St, S12 = sR S 17 (upd (S.2.2 17) (3 : Int32).toNatClampNeg (if (S.2.2 17 (3 : Int32).toNatClampNeg) < x9 then x9 else (S.2.2 17 (3 : Int32).toNatClampNeg))) → ∀ x13 : Int32, x13 = xl4 + 1 → X xl1 xl2 x9 x13 S12)))) ∧ (¬ (S.2.2 16 xl4.toNatClampNeg) ≤ 0 → PX1_noteWaits xl4 xl3 xl1 S (fun S14 => (vp_in xl4 60 ∧ ∀ x16 : Int32, x16 = (if ((xl3 + (S14.2.2 16 xl4.toNatClampNeg)) - xl1) < 0 then 0 else ((xl3 + (S14.2.2 16 xl4.toNatClampNeg)) - xl1)) → (vp_in 3 4 ∧ (vp_in 3 4 ∧ ∀ S19 : St, S19 = sR S14 17 (upd (S14.2.2 17) (3 : Int32).toNatClampNeg (if (S14.2.2 17 (3 : Int32).toNatClampNeg) < x16 then x16 else (S14.2.2 17 (3 : Int32).toNatClampNeg))) → ∀ x20 : Int32, x20 = xl4 + 1 → X xl1 xl2 x16 x20 S19)))))))))
def LX1_factOf (post : Int32 → St → Prop) : Nat → Int32 → Int32 → Int32 → Int32 → St → Prop
  | 0, _, _, _, _, _ => False
  | n + 1, xl1, xl2, xl3, xl4, S => BX1_factOf_0 (LX1_factOf post n) post xl1 xl2 xl3 xl4 S
def PX1_factOf (n : Nat) (p0 : Int32) (p1 : Int32) (S : St) (post : Int32 → St → Prop) : Prop := ∀ S1 : St, S1 = sR S 17 (g_fill (S.2.2 17) 4 0) → (vp_in 2 4 ∧ ∀ S3 : St, S3 = sR S1 17 (upd (S1.2.2 17) (2 : Int32).toNatClampNeg (-1)) → LX1_factOf post n p0 p1 0 0 S3)
set_option maxHeartbeats 4000000 in
set_option maxRecDepth 100000 in
theorem tX1_factOf (l : Launch) (D : va_G) (a : Nat → Nat) (c : Nat → ClassId) (sz : Nat) (n : Nat) (p0 : Int32) (p1 : Int32) (S : St) (post : Int32 → St → Prop) (h : PX1_factOf n p0 p1 S post) : Met l yX1_factOf wsX1_factOf ({ frames := 2, cells := 0, slots := 0, locals := 49 }) (va_Pc [.ref (a 5), .int p0, .int p1] (gP D (cw a c) (cty c) cns S sz)) (va_Qi post (gB D (cw a c)) (va_A (cw a c S) sz)) 0 0 (va_A (cw a c S) sz) := by
  refine Met.ofW (cc := cX1_factOf) (maxL := 5) (ret := (some .int)) (by decide) rfl ?_
  intro p e s m args below meth c9 s₁ B hml hv
  obtain ⟨rfl, hsz, hP, hK, hD0, hN⟩ := hv
  have hx := B.exec
  have hb := B.bytes
  have hr := B.returns
  have hts := atoms_spec (ws := wsX1_factOf) B.pre
  have hown : s.vm.findClass RX1 = some m.cls := findClass_of_methodNamed B.named
  have hlocks := B.notSynchronized
  subst hsz
  have hD1 := hD0.self (sz := s.heap.size)
  generalize hAe : va_A (cw a c S) s.heap.size = A at hD1 ⊢
  have hA : ∀ q : Nat, s.heap.size ≤ q → A q := fun q h => by rw [← hAe]; exact Or.inr h
  have hD : ∀ S2 : St, va_D A (cw a c S2) := gD cw_F hD1
  have hS : va_S A s.heap s.heap [] := va_S.rf
  have hinX1 : ∀ w ∈ wsX10, w ∈ wsX1_factOf := by decide +kernel
  have kMath := hts (.initialized "java/lang/Math") (by decide +kernel)
  have kdmax := hts (.code Lib.Math.max.name Lib.Math.max.code 2 (some .int)) (by decide +kernel)
  have kf15 := hts (.fieldLink RX1 15 "CanteenPlan$Hatch" "facts" "[I") (by decide +kernel)
  have kf18 := hts (.fieldLink RX1 18 "CanteenPlan$Hatch" "minutes" "I") (by decide +kernel)
  have kf9 := hts (.fieldLink RX1 9 "CanteenPlan$Hatch" "coming" "[I") (by decide +kernel)
  have km36 := hts (.methodLink RX1 36 Lib.Math.max.name) (by decide +kernel)
  have ksmax := hts (.static Lib.Math.max.name) (by decide +kernel)
  have hl := lv_entry ([.ref (a 5), .int p0, .int p1]) (n := 5) (Nat.le_of_ble_eq_true rfl)
  rw [lg_entry_eq]
  generalize (lg_sl ([.ref (a 5), .int p0, .int p1]) ++ List.replicate (5 - (lg_sl ([.ref (a 5), .int p0, .int p1])).length) Slot.unset).toArray = ls at hl ⊢
  have hl : lv_has ls 5 [(0, .ref (a 5)), (1, .int p0), (2, .int p1)] := hl
  have key : ∀ n : Nat, (∀ (xl1 : Int32) (xl2 : Int32) (xl3 : Int32) (xl4 : Int32) (S : St) (H : Heap) (locs : List Loc) (ls : Array Slot), LX1_factOf post n xl1 xl2 xl3 xl4 S → va_P D vwCl (cw a c S) H → va_S A s.heap H locs → lv_has ls 5 [(0, .ref (a 5)), (1, .int xl1), (2, .int xl2), (3, .int xl3), (4, .int xl4)] → W p l e ((headSpec wsX1_factOf ({ frames := 2, cells := 0, slots := 0, locals := 49 })).room) s m ([.ref (a 5), .int p0, .int p1]).toArray below meth c9 H locs 0 0 (MQ below (va_Qi post (gB D (cw a c)) A) ([.ref (a 5), .int p0, .int p1]).toArray s 0 0 A) (F0 m 20 ls [])) := by
    intro n
    induction n with
    | zero => exact fun xl1 xl2 xl3 xl4 S H locs ls h => h.elim
    | succ n ih =>
      intro xl1 xl2 xl3 xl4 S H locs ls h hP hS hl
      have h : BX1_factOf_0 (LX1_factOf post n) post xl1 xl2 xl3 xl4 S := h
      unfold BX1_factOf_0 at h
      refine lv_iload hx hb dX1_factOf_20 (lv_at hl 4 rfl) ?_
      refine lv_aload_n hx hb dX1_factOf_22 rfl (lv_at hl 0 rfl) ?_
      refine va_get (D := D) (ci := 1) (v := .int (S.1 13)) (C := RX1) (T := TX1) (N := 3) hx hb hts hinX1 hown hK hP 5 rfl rfl 2 (by decide) kf18 (fun _ h9 => h9) rfl dX1_factOf_23 ?_
      refine lv_icmp_ge (tgt := 85) hx hb dX1_factOf_26 (by decide) (fun c4 => ?_) (fun c4 => ?_)
      · have h := h.1 c4
        refine lv_aload_n hx hb dX1_factOf_85 rfl (lv_at hl 0 rfl) ?_
        refine va_get (D := D) (ci := 1) (v := .ref (a 23)) (C := RX1) (T := TX1) (N := 3) hx hb hts hinX1 hown hK hP 5 rfl rfl 1 (by decide) kf15 (fun _ h9 => h9) rfl dX1_factOf_86 ?_
        refine lv_iload_n hx hb dX1_factOf_89 rfl (lv_at hl 2 rfl) ?_
        obtain ⟨b5, h⟩ := h
        refine va_iald hx hb hK hP 23 17 rfl rfl b5 dX1_factOf_90 ?_
        exact g_reti hx hb hr hlocks h hP hS dX1_factOf_91
      · have h := h.2 c4
        refine lv_aload_n hx hb dX1_factOf_29 rfl (lv_at hl 0 rfl) ?_
        refine va_get (D := D) (ci := 1) (v := .ref (a 22)) (C := RX1) (T := TX1) (N := 3) hx hb hts hinX1 hown hK hP 5 rfl rfl 0 (by decide) kf9 (fun _ h9 => h9) rfl dX1_factOf_30 ?_
        refine lv_iload hx hb dX1_factOf_33 (lv_at hl 4 rfl) ?_
        obtain ⟨b6, h⟩ := h
        refine va_iald hx hb hK hP 22 16 rfl rfl b6 dX1_factOf_35 ?_
        refine lv_if_le (tgt := 47) hx hb dX1_factOf_36 (by decide) (fun c7 => ?_) (fun c7 => ?_)
        · have h := h.1 c7
          refine lv_iload_n hx hb dX1_factOf_47 rfl (lv_at hl 3 rfl) ?_
          refine lv_aload_n hx hb dX1_factOf_48 rfl (lv_at hl 0 rfl) ?_
          refine va_get (D := D) (ci := 1) (v := .ref (a 22)) (C := RX1) (T := TX1) (N := 3) hx hb hts hinX1 hown hK hP 5 rfl rfl 0 (by decide) kf9 (fun _ h9 => h9) rfl dX1_factOf_49 ?_
          refine lv_iload hx hb dX1_factOf_52 (lv_at hl 4 rfl) ?_
          obtain ⟨b8, h⟩ := h
          refine va_iald hx hb hK hP 22 16 rfl rfl b8 dX1_factOf_54 ?_
          refine lv_iadd hx hb dX1_factOf_55 ?_
          refine lv_iload_n hx hb dX1_factOf_56 rfl (lv_at hl 1 rfl) ?_
          refine lv_isub hx hb dX1_factOf_57 ?_
          refine lv_iconst (v := 0) hx hb dX1_factOf_58 (by decide) ?_
          refine va_mmax hx hb (hml.trans hl.1.symm) hown km36 ksmax kMath kdmax (Nat.le_of_ble_eq_true rfl) (Nat.le_of_ble_eq_true rfl) (Nat.le_of_ble_eq_true rfl) (Nat.le_of_ble_eq_true rfl) dX1_factOf_59 ?_
          refine lv_topi (fun x9 ex9 => ?_)
          have h := h x9 ex9
          refine lv_istore_n (lv' := [(3, .int x9), (0, .ref (a 5)), (1, .int xl1), (2, .int xl2), (4, .int xl4)]) hx hb dX1_factOf_62 rfl hl (by decide) rfl (fun ls hl => ?_)
          refine lv_aload_n hx hb dX1_factOf_63 rfl (lv_at hl 1 rfl) ?_
          refine va_get (D := D) (ci := 1) (v := .ref (a 23)) (C := RX1) (T := TX1) (N := 3) hx hb hts hinX1 hown hK hP 5 rfl rfl 1 (by decide) kf15 (fun _ h9 => h9) rfl dX1_factOf_64 ?_
          refine lv_iconst (v := 3) hx hb dX1_factOf_67 (by decide) ?_
          refine lv_aload_n hx hb dX1_factOf_68 rfl (lv_at hl 1 rfl) ?_
          refine va_get (D := D) (ci := 1) (v := .ref (a 23)) (C := RX1) (T := TX1) (N := 3) hx hb hts hinX1 hown hK hP 5 rfl rfl 1 (by decide) kf15 (fun _ h9 => h9) rfl dX1_factOf_69 ?_
          refine lv_iconst (v := 3) hx hb dX1_factOf_72 (by decide) ?_
          obtain ⟨b10, h⟩ := h
          refine va_iald hx hb hK hP 23 17 rfl rfl b10 dX1_factOf_73 ?_
          refine lv_iload_n hx hb dX1_factOf_74 rfl (lv_at hl 0 rfl) ?_
          refine va_mmax hx hb (hml.trans hl.1.symm) hown km36 ksmax kMath kdmax (Nat.le_of_ble_eq_true rfl) (Nat.le_of_ble_eq_true rfl) (Nat.le_of_ble_eq_true rfl) (Nat.le_of_ble_eq_true rfl) dX1_factOf_75 ?_
          obtain ⟨b11, h⟩ := h
          refine va_iast hx hb hK hP (hD S) hS 23 17 rfl rfl b11 dX1_factOf_78 (fun H locs hP _ hS => ?_)
          obtain ⟨S12, eS12⟩ : ∃ z : St, z = sR S 17 (upd (S.2.2 17) (3 : Int32).toNatClampNeg (if (S.2.2 17 (3 : Int32).toNatClampNeg) < x9 then x9 else (S.2.2 17 (3 : Int32).toNatClampNeg))) := ⟨_, rfl⟩
          have hP : va_P D vwCl (cw a c S12) H := by rw [eS12]; exact hP
          have h := h S12 eS12
          obtain ⟨x13, ex13⟩ : ∃ y : Int32, y = xl4 + 1 := ⟨_, rfl⟩
          have h := h x13 ex13
          refine lv_iinc (v := x13) (lv' := [(4, .int x13), (3, .int x9), (0, .ref (a 5)), (1, .int xl1), (2, .int xl2)]) hx hb dX1_factOf_79 hl (k := 4) rfl (by rw [ex13]; rfl) (by decide) rfl (fun ls hl => ?_)
          refine lv_goto (tgt := 20) hx hb dX1_factOf_82 (by decide) ?_
          exact (ih) xl1 xl2 x9 x13 S12 _ _ _ h hP hS (lv_sub hl [2, 3, 4, 1, 0] rfl)
        · have h := h.2 c7
          refine lv_aload_n hx hb dX1_factOf_39 rfl (lv_at hl 0 rfl) ?_
          refine lv_iload hx hb dX1_factOf_40 (lv_at hl 4 rfl) ?_
          refine lv_iload_n hx hb dX1_factOf_42 rfl (lv_at hl 3 rfl) ?_
          refine lv_iload_n hx hb dX1_factOf_43 rfl (lv_at hl 1 rfl) ?_
          refine k_v (k_runV cns_ok ⟨hx, hb, hml, hown, hts⟩ (tX1_noteWaits l D a c _ xl4 xl3 xl1 S _ h) (cwV 3 hts gX1_factOf_X1_noteWaits rfl rfl rfl (by decide +kernel) ⟨Nat.le_of_ble_eq_true rfl, Nat.le_of_ble_eq_true rfl⟩) (va_recv hK hP (ci := 1) (q0 := 5) rfl rfl) hP hK (hD S) hN rfl rfl hl.1 rfl (lv_room (Nat.le_of_ble_eq_true rfl)) dX1_factOf_44 ⟨Nat.le_of_ble_eq_true rfl, Nat.le_of_ble_eq_true rfl⟩) hS (hD S) hA (fun S14 H locs h hP hS => ?_)
          refine lv_iload_n hx hb dX1_factOf_47 rfl (lv_at hl 3 rfl) ?_
          refine lv_aload_n hx hb dX1_factOf_48 rfl (lv_at hl 0 rfl) ?_
          refine va_get (D := D) (ci := 1) (v := .ref (a 22)) (C := RX1) (T := TX1) (N := 3) hx hb hts hinX1 hown hK hP 5 rfl rfl 0 (by decide) kf9 (fun _ h9 => h9) rfl dX1_factOf_49 ?_
          refine lv_iload hx hb dX1_factOf_52 (lv_at hl 4 rfl) ?_
          obtain ⟨b15, h⟩ := h
          refine va_iald hx hb hK hP 22 16 rfl rfl b15 dX1_factOf_54 ?_
          refine lv_iadd hx hb dX1_factOf_55 ?_
          refine lv_iload_n hx hb dX1_factOf_56 rfl (lv_at hl 1 rfl) ?_
          refine lv_isub hx hb dX1_factOf_57 ?_
          refine lv_iconst (v := 0) hx hb dX1_factOf_58 (by decide) ?_
          refine va_mmax hx hb (hml.trans hl.1.symm) hown km36 ksmax kMath kdmax (Nat.le_of_ble_eq_true rfl) (Nat.le_of_ble_eq_true rfl) (Nat.le_of_ble_eq_true rfl) (Nat.le_of_ble_eq_true rfl) dX1_factOf_59 ?_
          refine lv_topi (fun x16 ex16 => ?_)
          have h := h x16 ex16
          refine lv_istore_n (lv' := [(3, .int x16), (0, .ref (a 5)), (1, .int xl1), (2, .int xl2), (4, .int xl4)]) hx hb dX1_factOf_62 rfl hl (by decide) rfl (fun ls hl => ?_)
          refine lv_aload_n hx hb dX1_factOf_63 rfl (lv_at hl 1 rfl) ?_
          refine va_get (D := D) (ci := 1) (v := .ref (a 23)) (C := RX1) (T := TX1) (N := 3) hx hb hts hinX1 hown hK hP 5 rfl rfl 1 (by decide) kf15 (fun _ h9 => h9) rfl dX1_factOf_64 ?_
          refine lv_iconst (v := 3) hx hb dX1_factOf_67 (by decide) ?_
          refine lv_aload_n hx hb dX1_factOf_68 rfl (lv_at hl 1 rfl) ?_
          refine va_get (D := D) (ci := 1) (v := .ref (a 23)) (C := RX1) (T := TX1) (N := 3) hx hb hts hinX1 hown hK hP 5 rfl rfl 1 (by decide) kf15 (fun _ h9 => h9) rfl dX1_factOf_69 ?_
          refine lv_iconst (v := 3) hx hb dX1_factOf_72 (by decide) ?_
          obtain ⟨b17, h⟩ := h
          refine va_iald hx hb hK hP 23 17 rfl rfl b17 dX1_factOf_73 ?_
          refine lv_iload_n hx hb dX1_factOf_74 rfl (lv_at hl 0 rfl) ?_
          refine va_mmax hx hb (hml.trans hl.1.symm) hown km36 ksmax kMath kdmax (Nat.le_of_ble_eq_true rfl) (Nat.le_of_ble_eq_true rfl) (Nat.le_of_ble_eq_true rfl) (Nat.le_of_ble_eq_true rfl) dX1_factOf_75 ?_
          obtain ⟨b18, h⟩ := h
          refine va_iast hx hb hK hP (hD S14) hS 23 17 rfl rfl b18 dX1_factOf_78 (fun H locs hP _ hS => ?_)
          obtain ⟨S19, eS19⟩ : ∃ z : St, z = sR S14 17 (upd (S14.2.2 17) (3 : Int32).toNatClampNeg (if (S14.2.2 17 (3 : Int32).toNatClampNeg) < x16 then x16 else (S14.2.2 17 (3 : Int32).toNatClampNeg))) := ⟨_, rfl⟩
          have hP : va_P D vwCl (cw a c S19) H := by rw [eS19]; exact hP
          have h := h S19 eS19
          obtain ⟨x20, ex20⟩ : ∃ y : Int32, y = xl4 + 1 := ⟨_, rfl⟩
          have h := h x20 ex20
          refine lv_iinc (v := x20) (lv' := [(4, .int x20), (3, .int x16), (0, .ref (a 5)), (1, .int xl1), (2, .int xl2)]) hx hb dX1_factOf_79 hl (k := 4) rfl (by rw [ex20]; rfl) (by decide) rfl (fun ls hl => ?_)
          refine lv_goto (tgt := 20) hx hb dX1_factOf_82 (by decide) ?_
          exact (ih) xl1 xl2 x16 x20 S19 _ _ _ h hP hS (lv_sub hl [2, 3, 4, 1, 0] rfl)
  unfold PX1_factOf at h
  refine lv_aload_n hx hb dX1_factOf_0 rfl (lv_at hl 0 rfl) ?_
  refine va_get (D := D) (ci := 1) (v := .ref (a 23)) (C := RX1) (T := TX1) (N := 3) hx hb hts hinX1 hown hK hP 5 rfl rfl 1 (by decide) kf15 (fun _ h9 => h9) rfl dX1_factOf_1 ?_
  refine lv_iconst (v := 0) hx hb dX1_factOf_4 (by decide) ?_
  refine k_fill cns_ok cw_F ⟨hx, hb, hml, hown, hts⟩ (va_cwS 2 hts gX1_factOf_J7_fill_53178 rfl rfl rfl (by decide +kernel) ⟨Nat.le_of_ble_eq_true rfl, Nat.le_of_ble_eq_true rfl⟩) (u := fun f => sR S 17 f) 23 17 rfl rfl (fun _ => rfl) hP hK (hD S) hN hS hA hl.1 (by decide) (Nat.le_of_ble_eq_true rfl) dX1_factOf_5 ⟨Nat.le_of_ble_eq_true rfl, Nat.le_of_ble_eq_true rfl⟩ (fun H locs hP hS => ?_)
  obtain ⟨S1, eS1⟩ : ∃ z : St, z = sR S 17 (g_fill (S.2.2 17) 4 0) := ⟨_, rfl⟩
  have hP : va_P D vwCl (cw a c S1) H := by rw [eS1]; exact hP
  have h := h S1 eS1
  refine lv_aload_n hx hb dX1_factOf_8 rfl (lv_at hl 0 rfl) ?_
  refine va_get (D := D) (ci := 1) (v := .ref (a 23)) (C := RX1) (T := TX1) (N := 3) hx hb hts hinX1 hown hK hP 5 rfl rfl 1 (by decide) kf15 (fun _ h9 => h9) rfl dX1_factOf_9 ?_
  refine lv_iconst (v := 2) hx hb dX1_factOf_12 (by decide) ?_
  refine lv_iconst (v := (-1)) hx hb dX1_factOf_13 (by decide) ?_
  obtain ⟨b2, h⟩ := h
  refine va_iast hx hb hK hP (hD S1) hS 23 17 rfl rfl b2 dX1_factOf_14 (fun H locs hP _ hS => ?_)
  obtain ⟨S3, eS3⟩ : ∃ z : St, z = sR S1 17 (upd (S1.2.2 17) (2 : Int32).toNatClampNeg (-1)) := ⟨_, rfl⟩
  have hP : va_P D vwCl (cw a c S3) H := by rw [eS3]; exact hP
  have h := h S3 eS3
  refine lv_iconst (v := 0) hx hb dX1_factOf_15 (by decide) ?_
  refine lv_istore_n (lv' := [(3, .int 0), (0, .ref (a 5)), (1, .int p0), (2, .int p1)]) hx hb dX1_factOf_16 rfl hl (by decide) rfl (fun ls hl => ?_)
  refine lv_iconst (v := 0) hx hb dX1_factOf_17 (by decide) ?_
  refine lv_istore (lv' := [(4, .int 0), (3, .int 0), (0, .ref (a 5)), (1, .int p0), (2, .int p1)]) hx hb dX1_factOf_18 hl (by decide) rfl (fun ls hl => ?_)
  exact (key n) p0 p1 0 0 S3 _ _ _ h hP hS (lv_sub hl [2, 3, 4, 1, 0] rfl)
def BX1_leastServed_0 (X : Int32 → Int32 → St → Prop) (post : Int32 → St → Prop) (xl1 : Int32) (xl2 : Int32) (S : St) : Prop := ((100 ≤ xl2 → post 100 S) ∧ (¬ 100 ≤ xl2 → ∃ k : Nat, PX1_factOf k xl2 0 S (fun x3 S2 => ((xl1 < x3 → ∀ x6 : Int32, x6 = xl2 + 1 → X xl1 x6 S2) ∧ (¬ xl1 < x3 → post xl2 S2)))))
def LX1_leastServed (post : Int32 → St → Prop) : Nat → Int32 → Int32 → St → Prop
  | 0, _, _, _ => False
  | n + 1, xl1, xl2, S => BX1_leastServed_0 (LX1_leastServed post n) post xl1 xl2 S
def PX1_leastServed (n : Nat) (p0 : Int32) (S : St) (post : Int32 → St → Prop) : Prop := LX1_leastServed post n p0 1 S
set_option maxHeartbeats 4000000 in
set_option maxRecDepth 100000 in
theorem tX1_leastServed (l : Launch) (D : va_G) (a : Nat → Nat) (c : Nat → ClassId) (sz : Nat) (n : Nat) (p0 : Int32) (S : St) (post : Int32 → St → Prop) (h : PX1_leastServed n p0 S post) : Met l yX1_leastServed wsX1_leastServed ({ frames := 3, cells := 0, slots := 0, locals := 73 }) (va_Pc [.ref (a 5), .int p0] (gP D (cw a c) (cty c) cns S sz)) (va_Qi post (gB D (cw a c)) (va_A (cw a c S) sz)) 0 0 (va_A (cw a c S) sz) := by
  refine Met.ofW (cc := cX1_leastServed) (maxL := 3) (ret := (some .int)) (by decide) rfl ?_
  intro p e s m args below meth c9 s₁ B hml hv
  obtain ⟨rfl, hsz, hP, hK, hD0, hN⟩ := hv
  have hx := B.exec
  have hb := B.bytes
  have hr := B.returns
  have hts := atoms_spec (ws := wsX1_leastServed) B.pre
  have hown : s.vm.findClass RX1 = some m.cls := findClass_of_methodNamed B.named
  have hlocks := B.notSynchronized
  subst hsz
  have hD1 := hD0.self (sz := s.heap.size)
  generalize hAe : va_A (cw a c S) s.heap.size = A at hD1 ⊢
  have hA : ∀ q : Nat, s.heap.size ≤ q → A q := fun q h => by rw [← hAe]; exact Or.inr h
  have hD : ∀ S2 : St, va_D A (cw a c S2) := gD cw_F hD1
  have hS : va_S A s.heap s.heap [] := va_S.rf
  have hl := lv_entry ([.ref (a 5), .int p0]) (n := 3) (Nat.le_of_ble_eq_true rfl)
  rw [lg_entry_eq]
  generalize (lg_sl ([.ref (a 5), .int p0]) ++ List.replicate (3 - (lg_sl ([.ref (a 5), .int p0])).length) Slot.unset).toArray = ls at hl ⊢
  have hl : lv_has ls 3 [(0, .ref (a 5)), (1, .int p0)] := hl
  have key : ∀ n : Nat, (∀ (xl1 : Int32) (xl2 : Int32) (S : St) (H : Heap) (locs : List Loc) (ls : Array Slot), LX1_leastServed post n xl1 xl2 S → va_P D vwCl (cw a c S) H → va_S A s.heap H locs → lv_has ls 3 [(0, .ref (a 5)), (1, .int xl1), (2, .int xl2)] → W p l e ((headSpec wsX1_leastServed ({ frames := 3, cells := 0, slots := 0, locals := 73 })).room) s m ([.ref (a 5), .int p0]).toArray below meth c9 H locs 0 0 (MQ below (va_Qi post (gB D (cw a c)) A) ([.ref (a 5), .int p0]).toArray s 0 0 A) (F0 m 2 ls [])) := by
    intro n
    induction n with
    | zero => exact fun xl1 xl2 S H locs ls h => h.elim
    | succ n ih =>
      intro xl1 xl2 S H locs ls h hP hS hl
      have h : BX1_leastServed_0 (LX1_leastServed post n) post xl1 xl2 S := h
      unfold BX1_leastServed_0 at h
      refine lv_iload_n hx hb dX1_leastServed_2 rfl (lv_at hl 2 rfl) ?_
      refine lv_bipush (v := 100) hx hb dX1_leastServed_3 (by decide) ?_
      refine lv_icmp_ge (tgt := 26) hx hb dX1_leastServed_5 (by decide) (fun c1 => ?_) (fun c1 => ?_)
      · have h := h.1 c1
        refine lv_bipush (v := 100) hx hb dX1_leastServed_26 (by decide) ?_
        exact g_reti hx hb hr hlocks h hP hS dX1_leastServed_28
      · have h := h.2 c1
        refine lv_aload_n hx hb dX1_leastServed_8 rfl (lv_at hl 0 rfl) ?_
        refine lv_iload_n hx hb dX1_leastServed_9 rfl (lv_at hl 2 rfl) ?_
        refine lv_iconst (v := 0) hx hb dX1_leastServed_10 (by decide) ?_
        obtain ⟨k4, h⟩ := h
        refine k_i (k_runV cns_ok ⟨hx, hb, hml, hown, hts⟩ (tX1_factOf l D a c _ k4 xl2 0 S _ h) (cwV 2 hts gX1_leastServed_X1_factOf rfl rfl rfl (by decide +kernel) ⟨Nat.le_of_ble_eq_true rfl, Nat.le_of_ble_eq_true rfl⟩) (va_recv hK hP (ci := 1) (q0 := 5) rfl rfl) hP hK (hD S) hN rfl rfl hl.1 rfl (lv_room (Nat.le_of_ble_eq_true rfl)) dX1_leastServed_11 ⟨Nat.le_of_ble_eq_true rfl, Nat.le_of_ble_eq_true rfl⟩) hS (hD S) hA (fun x3 S2 H locs h hP hS => ?_)
        refine lv_iload_n hx hb dX1_leastServed_14 rfl (lv_at hl 1 rfl) ?_
        refine lv_icmp_gt (tgt := 20) hx hb dX1_leastServed_15 (by decide) (fun c5 => ?_) (fun c5 => ?_)
        · have h := h.1 c5
          obtain ⟨x6, ex6⟩ : ∃ y : Int32, y = xl2 + 1 := ⟨_, rfl⟩
          have h := h x6 ex6
          refine lv_iinc (v := x6) (lv' := [(2, .int x6), (0, .ref (a 5)), (1, .int xl1)]) hx hb dX1_leastServed_20 hl (k := 2) rfl (by rw [ex6]; rfl) (by decide) rfl (fun ls hl => ?_)
          refine lv_goto (tgt := 2) hx hb dX1_leastServed_23 (by decide) ?_
          exact (ih) xl1 x6 S2 _ _ _ h hP hS (lv_sub hl [1, 2, 0] rfl)
        · have h := h.2 c5
          refine lv_iload_n hx hb dX1_leastServed_18 rfl (lv_at hl 2 rfl) ?_
          exact g_reti hx hb hr hlocks h hP hS dX1_leastServed_19
  unfold PX1_leastServed at h
  refine lv_iconst (v := 1) hx hb dX1_leastServed_0 (by decide) ?_
  refine lv_istore_n (lv' := [(2, .int 1), (0, .ref (a 5)), (1, .int p0)]) hx hb dX1_leastServed_1 rfl hl (by decide) rfl (fun ls hl => ?_)
  exact (key n) p0 1 S _ _ _ h hP hS (lv_sub hl [1, 2, 0] rfl)
