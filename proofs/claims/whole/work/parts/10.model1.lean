def PX6_thrown  (S : St) (post : Int32 → St → Prop) : Prop := post (S.1 0) S
set_option maxHeartbeats 4000000 in
set_option maxRecDepth 100000 in
theorem tX6_thrown (l : Launch) (D : va_G) (a : Nat → Nat) (c : Nat → ClassId) (sz : Nat)  (S : St) (post : Int32 → St → Prop) (h : PX6_thrown  S post) : Met l yX6_thrown wsX6_thrown ({ frames := 0, cells := 0, slots := 0, locals := 0 }) (va_Pc [.ref (a 0)] (gP D (mw a c) (mty c) mns S sz)) (va_Qi post (gB D (mw a c)) (va_A (mw a c S) sz)) 0 0 (va_A (mw a c S) sz) := by
  refine Met.ofW (cc := cX6_thrown) (maxL := 1) (ret := (some .int)) (by decide) rfl ?_
  intro p e s m args below meth c9 s₁ B hml hv
  obtain ⟨rfl, hsz, hP, hK, hD0, hN⟩ := hv
  have hx := B.exec
  have hb := B.bytes
  have hr := B.returns
  have hts := atoms_spec (ws := wsX6_thrown) B.pre
  have hown : s.vm.findClass RX6 = some m.cls := findClass_of_methodNamed B.named
  have hlocks := B.notSynchronized
  subst hsz
  have hD1 := hD0.self (sz := s.heap.size)
  generalize hAe : va_A (mw a c S) s.heap.size = A at hD1 ⊢
  have hA : ∀ q : Nat, s.heap.size ≤ q → A q := fun q h => by rw [← hAe]; exact Or.inr h
  have hD : ∀ S2 : St, va_D A (mw a c S2) := gD mw_F hD1
  have hS : va_S A s.heap s.heap [] := va_S.rf
  have hinX6 : ∀ w ∈ wsX60, w ∈ wsX6_thrown := by decide +kernel
  have kf60 := hts (.fieldLink RX6 60 "CanteenPlanModel" "thrown" "I") (by decide +kernel)
  have hl := lv_entry ([.ref (a 0)]) (n := 1) (Nat.le_of_ble_eq_true rfl)
  rw [lg_entry_eq]
  generalize (lg_sl ([.ref (a 0)]) ++ List.replicate (1 - (lg_sl ([.ref (a 0)])).length) Slot.unset).toArray = ls at hl ⊢
  have hl : lv_has ls 1 [(0, .ref (a 0))] := hl
  unfold PX6_thrown at h
  refine lv_aload_n hx hb dX6_thrown_0 rfl (lv_at hl 0 rfl) ?_
  refine va_get (D := D) (ci := 6) (v := .int (S.1 0)) (C := RX6) (T := TX6) (N := 36) hx hb hts hinX6 hown hK hP 0 rfl rfl 0 (by decide) kf60 (fun _ h9 => h9) rfl dX6_thrown_1 ?_
  exact g_reti hx hb hr hlocks h hP hS dX6_thrown_4
def PX6_bad (p0 : Int32) (p1 : Int32) (S : St) (post : Int32 → St → Prop) : Prop := ((p0 = 0 → ((p0 = 0 ∨ p0 = 1) ∧ post p0 S)) ∧ (¬ p0 = 0 → ∀ S2 : St, S2 = sI S 0 p1 → ((p0 = 0 ∨ p0 = 1) ∧ post p0 S2)))
set_option maxHeartbeats 4000000 in
set_option maxRecDepth 100000 in
theorem tX6_bad (l : Launch) (D : va_G) (a : Nat → Nat) (c : Nat → ClassId) (sz : Nat) (p0 : Int32) (p1 : Int32) (S : St) (post : Int32 → St → Prop) (h : PX6_bad p0 p1 S post) : Met l yX6_bad wsX6_bad ({ frames := 0, cells := 0, slots := 0, locals := 0 }) (va_Pc [.ref (a 0), .int p0, .int p1] (gP D (mw a c) (mty c) mns S sz)) (va_Qi post (gB D (mw a c)) (va_A (mw a c S) sz)) 0 0 (va_A (mw a c S) sz) := by
  refine Met.ofW (cc := cX6_bad) (maxL := 3) (ret := (some .boolean)) (by decide) rfl ?_
  intro p e s m args below meth c9 s₁ B hml hv
  obtain ⟨rfl, hsz, hP, hK, hD0, hN⟩ := hv
  have hx := B.exec
  have hb := B.bytes
  have hr := B.returns
  have hts := atoms_spec (ws := wsX6_bad) B.pre
  have hown : s.vm.findClass RX6 = some m.cls := findClass_of_methodNamed B.named
  have hlocks := B.notSynchronized
  subst hsz
  have hD1 := hD0.self (sz := s.heap.size)
  generalize hAe : va_A (mw a c S) s.heap.size = A at hD1 ⊢
  have hA : ∀ q : Nat, s.heap.size ≤ q → A q := fun q h => by rw [← hAe]; exact Or.inr h
  have hD : ∀ S2 : St, va_D A (mw a c S2) := gD mw_F hD1
  have hS : va_S A s.heap s.heap [] := va_S.rf
  have hinX6 : ∀ w ∈ wsX60, w ∈ wsX6_bad := by decide +kernel
  have kf60 := hts (.fieldLink RX6 60 "CanteenPlanModel" "thrown" "I") (by decide +kernel)
  have hl := lv_entry ([.ref (a 0), .int p0, .int p1]) (n := 3) (Nat.le_of_ble_eq_true rfl)
  rw [lg_entry_eq]
  generalize (lg_sl ([.ref (a 0), .int p0, .int p1]) ++ List.replicate (3 - (lg_sl ([.ref (a 0), .int p0, .int p1])).length) Slot.unset).toArray = ls at hl ⊢
  have hl : lv_has ls 3 [(0, .ref (a 0)), (1, .int p0), (2, .int p1)] := hl
  unfold PX6_bad at h
  refine lv_iload_n hx hb dX6_bad_0 rfl (lv_at hl 1 rfl) ?_
  refine lv_if_eq (tgt := 9) hx hb dX6_bad_1 (by decide) (fun c1 => ?_) (fun c1 => ?_)
  · have h := h.1 c1
    refine lv_iload_n hx hb dX6_bad_9 rfl (lv_at hl 1 rfl) ?_
    exact g_retz hx hb hr hlocks h.1 h.2 hP hS dX6_bad_10
  · have h := h.2 c1
    refine lv_aload_n hx hb dX6_bad_4 rfl (lv_at hl 0 rfl) ?_
    refine lv_iload_n hx hb dX6_bad_5 rfl (lv_at hl 2 rfl) ?_
    refine va_put (D := D) (ci := 6) (v := .int p1) (ty := .int) (C := RX6) (T := TX6) (N := 36) hx hb hts hinX6 tyX6 tyX6_ok nmX6 hown hK hP (hD S) hS 0 rfl rfl 0 (by decide) kf60 (fun _ h9 => h9) rfl (by decide +kernel) rfl rfl (Nat.le_of_ble_eq_true rfl) dX6_bad_6 (fun H locs hP _ hS => ?_)
    obtain ⟨S2, eS2⟩ : ∃ z : St, z = sI S 0 p1 := ⟨_, rfl⟩
    have hP : va_P D vwCl (mw a c S2) H := by rw [eS2]; exact hP
    have h := h S2 eS2
    refine lv_iload_n hx hb dX6_bad_9 rfl (lv_at hl 1 rfl) ?_
    exact g_retz hx hb hr hlocks h.1 h.2 hP hS dX6_bad_10
def PX6_isBits (p0 : Int32) (S : St) (post : Int32 → St → Prop) : Prop := ((p0 < 0 → post 0 S) ∧ (¬ p0 < 0 → ((255 < p0 → post 0 S) ∧ (¬ 255 < p0 → post 1 S))))
set_option maxHeartbeats 4000000 in
set_option maxRecDepth 100000 in
theorem tX6_isBits (l : Launch) (D : va_G) (a : Nat → Nat) (c : Nat → ClassId) (sz : Nat) (p0 : Int32) (S : St) (post : Int32 → St → Prop) (h : PX6_isBits p0 S post) : Met l yX6_isBits wsX6_isBits ({ frames := 0, cells := 0, slots := 0, locals := 0 }) (va_Pc [.int p0] (gP D (mw a c) (mty c) mns S sz)) (va_Qi post (gB D (mw a c)) (va_A (mw a c S) sz)) 0 0 (va_A (mw a c S) sz) := by
  refine Met.ofW (cc := cX6_isBits) (maxL := 1) (ret := (some .boolean)) (by decide) rfl ?_
  intro p e s m args below meth c9 s₁ B hml hv
  obtain ⟨rfl, hsz, hP, hK, hD0, hN⟩ := hv
  have hx := B.exec
  have hb := B.bytes
  have hr := B.returns
  have hts := atoms_spec (ws := wsX6_isBits) B.pre
  have hown : s.vm.findClass RX6 = some m.cls := findClass_of_methodNamed B.named
  have hlocks := B.notSynchronized
  subst hsz
  have hD1 := hD0.self (sz := s.heap.size)
  generalize hAe : va_A (mw a c S) s.heap.size = A at hD1 ⊢
  have hA : ∀ q : Nat, s.heap.size ≤ q → A q := fun q h => by rw [← hAe]; exact Or.inr h
  have hD : ∀ S2 : St, va_D A (mw a c S2) := gD mw_F hD1
  have hS : va_S A s.heap s.heap [] := va_S.rf
  have hl := lv_entry ([.int p0]) (n := 1) (Nat.le_of_ble_eq_true rfl)
  rw [lg_entry_eq]
  generalize (lg_sl ([.int p0]) ++ List.replicate (1 - (lg_sl ([.int p0])).length) Slot.unset).toArray = ls at hl ⊢
  have hl : lv_has ls 1 [(0, .int p0)] := hl
  unfold PX6_isBits at h
  refine lv_iload_n hx hb dX6_isBits_0 rfl (lv_at hl 0 rfl) ?_
  refine lv_if_lt (tgt := 15) hx hb dX6_isBits_1 (by decide) (fun c1 => ?_) (fun c1 => ?_)
  · have h := h.1 c1
    refine lv_iconst (v := 0) hx hb dX6_isBits_15 (by decide) ?_
    exact g_retz hx hb hr hlocks (Or.inl rfl) h hP hS dX6_isBits_16
  · have h := h.2 c1
    refine lv_iload_n hx hb dX6_isBits_4 rfl (lv_at hl 0 rfl) ?_
    refine lv_sipush (v := 255) hx hb dX6_isBits_5 (by decide) ?_
    refine lv_icmp_gt (tgt := 15) hx hb dX6_isBits_8 (by decide) (fun c2 => ?_) (fun c2 => ?_)
    · have h := h.1 c2
      refine lv_iconst (v := 0) hx hb dX6_isBits_15 (by decide) ?_
      exact g_retz hx hb hr hlocks (Or.inl rfl) h hP hS dX6_isBits_16
    · have h := h.2 c2
      refine lv_iconst (v := 1) hx hb dX6_isBits_11 (by decide) ?_
      refine lv_goto (tgt := 16) hx hb dX6_isBits_12 (by decide) ?_
      exact g_retz hx hb hr hlocks (Or.inr rfl) h hP hS dX6_isBits_16
def BX6_meal_0 (X : Int32 → Int32 → Int32 → St → Prop) (post : Int32 → St → Prop) (xl1 : Int32) (xl2 : Int32) (xs0 : Int32) (S : St) : Prop := PX6_bad xs0 2 S (fun x21 S20 => ((x21 = 0 → (vp_in (S20.1 1) 6 ∧ ∀ S24 : St, S24 = sR S20 0 (upd (S20.2.2 0) (S20.1 1).toNatClampNeg xl1) → (vp_in (S24.1 1) 6 ∧ ∀ S26 : St, S26 = sR S24 1 (upd (S24.2.2 1) (S24.1 1).toNatClampNeg xl2) → ∀ S27 : St, S27 = sI S26 1 ((S26.1 1) + 1) → post ((S27.1 1) - 1) S27))) ∧ (¬ x21 = 0 → post 0 S20)))
def LX6_meal (post : Int32 → St → Prop) : Nat → Int32 → Int32 → Int32 → St → Prop
  | 0, _, _, _, _ => False
  | n + 1, xl1, xl2, xs0, S => BX6_meal_0 (LX6_meal post n) post xl1 xl2 xs0 S
def PX6_meal (n : Nat) (p0 : Int32) (p1 : Int32) (S : St) (post : Int32 → St → Prop) : Prop := ∀ S1 : St, S1 = sI S 0 0 → PX6_isBits p0 S1 (fun x3 S2 => ((x3 = 0 → PX6_bad 1 1 S2 (fun x6 S5 => ((x6 = 0 → (((S5.1 1) = 6 → LX6_meal post n p0 p1 1 S5) ∧ (¬ (S5.1 1) = 6 → LX6_meal post n p0 p1 0 S5))) ∧ (¬ x6 = 0 → post 0 S5)))) ∧ (¬ x3 = 0 → PX6_isBits p1 S2 (fun x10 S9 => ((x10 = 0 → PX6_bad 1 1 S9 (fun x17 S16 => ((x17 = 0 → (((S16.1 1) = 6 → LX6_meal post n p0 p1 1 S16) ∧ (¬ (S16.1 1) = 6 → LX6_meal post n p0 p1 0 S16))) ∧ (¬ x17 = 0 → post 0 S16)))) ∧ (¬ x10 = 0 → PX6_bad 0 1 S9 (fun x13 S12 => ((x13 = 0 → (((S12.1 1) = 6 → LX6_meal post n p0 p1 1 S12) ∧ (¬ (S12.1 1) = 6 → LX6_meal post n p0 p1 0 S12))) ∧ (¬ x13 = 0 → post 0 S12)))))))))
set_option maxHeartbeats 4000000 in
set_option maxRecDepth 100000 in
theorem tX6_meal (l : Launch) (D : va_G) (a : Nat → Nat) (c : Nat → ClassId) (sz : Nat) (n : Nat) (p0 : Int32) (p1 : Int32) (S : St) (post : Int32 → St → Prop) (h : PX6_meal n p0 p1 S post) : Met l yX6_meal wsX6_meal ({ frames := 1, cells := 0, slots := 0, locals := 22 }) (va_Pc [.ref (a 0), .int p0, .int p1] (gP D (mw a c) (mty c) mns S sz)) (va_Qi post (gB D (mw a c)) (va_A (mw a c S) sz)) 0 0 (va_A (mw a c S) sz) := by
  refine Met.ofW (cc := cX6_meal) (maxL := 3) (ret := (some .int)) (by decide) rfl ?_
  intro p e s m args below meth c9 s₁ B hml hv
  obtain ⟨rfl, hsz, hP, hK, hD0, hN⟩ := hv
  have hx := B.exec
  have hb := B.bytes
  have hr := B.returns
  have hts := atoms_spec (ws := wsX6_meal) B.pre
  have hown : s.vm.findClass RX6 = some m.cls := findClass_of_methodNamed B.named
  have hlocks := B.notSynchronized
  subst hsz
  have hD1 := hD0.self (sz := s.heap.size)
  generalize hAe : va_A (mw a c S) s.heap.size = A at hD1 ⊢
  have hA : ∀ q : Nat, s.heap.size ≤ q → A q := fun q h => by rw [← hAe]; exact Or.inr h
  have hD : ∀ S2 : St, va_D A (mw a c S2) := gD mw_F hD1
  have hS : va_S A s.heap s.heap [] := va_S.rf
  have hinX6 : ∀ w ∈ wsX60, w ∈ wsX6_meal := by decide +kernel
  have kf13 := hts (.fieldLink RX6 13 "CanteenPlanModel" "bars" "[I") (by decide +kernel)
  have kf60 := hts (.fieldLink RX6 60 "CanteenPlanModel" "thrown" "I") (by decide +kernel)
  have kf71 := hts (.fieldLink RX6 71 "CanteenPlanModel" "meals" "I") (by decide +kernel)
  have kf9 := hts (.fieldLink RX6 9 "CanteenPlanModel" "in" "[I") (by decide +kernel)
  have hl := lv_entry ([.ref (a 0), .int p0, .int p1]) (n := 3) (Nat.le_of_ble_eq_true rfl)
  rw [lg_entry_eq]
  generalize (lg_sl ([.ref (a 0), .int p0, .int p1]) ++ List.replicate (3 - (lg_sl ([.ref (a 0), .int p0, .int p1])).length) Slot.unset).toArray = ls at hl ⊢
  have hl : lv_has ls 3 [(0, .ref (a 0)), (1, .int p0), (2, .int p1)] := hl
  have key : ∀ n : Nat, (∀ (xl1 : Int32) (xl2 : Int32) (xs0 : Int32) (S : St) (H : Heap) (locs : List Loc) (ls : Array Slot), LX6_meal post n xl1 xl2 xs0 S → va_P D vwCl (mw a c S) H → va_S A s.heap H locs → lv_has ls 3 [(0, .ref (a 0)), (1, .int xl1), (2, .int xl2)] → W p l e ((headSpec wsX6_meal ({ frames := 1, cells := 0, slots := 0, locals := 22 })).room) s m ([.ref (a 0), .int p0, .int p1]).toArray below meth c9 H locs 0 0 (MQ below (va_Qi post (gB D (mw a c)) A) ([.ref (a 0), .int p0, .int p1]).toArray s 0 0 A) (F0 m 47 ls [.int xs0, .ref (a 0)])) := by
    intro n
    induction n with
    | zero => exact fun xl1 xl2 xs0 S H locs ls h => h.elim
    | succ n ih =>
      intro xl1 xl2 xs0 S H locs ls h hP hS hl
      have h : BX6_meal_0 (LX6_meal post n) post xl1 xl2 xs0 S := h
      unfold BX6_meal_0 at h
      refine lv_iconst (v := 2) hx hb dX6_meal_47 (by decide) ?_
      refine k_i (k_runV mns_ok ⟨hx, hb, hml, hown, hts⟩ (tX6_bad l D a c _ xs0 2 S _ h) (cwV 2 hts gX6_meal_X6_bad rfl rfl rfl (by decide +kernel) ⟨Nat.le_of_ble_eq_true rfl, Nat.le_of_ble_eq_true rfl⟩) (va_recv hK hP (ci := 6) (q0 := 0) rfl rfl) hP hK (hD S) hN rfl rfl hl.1 rfl (lv_room (Nat.le_of_ble_eq_true rfl)) dX6_meal_48 ⟨Nat.le_of_ble_eq_true rfl, Nat.le_of_ble_eq_true rfl⟩) hS (hD S) hA (fun x21 S20 H locs h hP hS => ?_)
      refine lv_if_eq (tgt := 56) hx hb dX6_meal_51 (by decide) (fun c22 => ?_) (fun c22 => ?_)
      · have h := h.1 c22
        refine lv_aload_n hx hb dX6_meal_56 rfl (lv_at hl 0 rfl) ?_
        refine va_get (D := D) (ci := 6) (v := .ref (a 1)) (C := RX6) (T := TX6) (N := 36) hx hb hts hinX6 hown hK hP 0 rfl rfl 1 (by decide) kf9 (fun _ h9 => h9) rfl dX6_meal_57 ?_
        refine lv_aload_n hx hb dX6_meal_60 rfl (lv_at hl 0 rfl) ?_
        refine va_get (D := D) (ci := 6) (v := .int (S20.1 1)) (C := RX6) (T := TX6) (N := 36) hx hb hts hinX6 hown hK hP 0 rfl rfl 4 (by decide) kf71 (fun _ h9 => h9) rfl dX6_meal_61 ?_
        refine lv_iload_n hx hb dX6_meal_64 rfl (lv_at hl 1 rfl) ?_
        obtain ⟨b23, h⟩ := h
        refine va_iast hx hb hK hP (hD S20) hS 1 0 rfl rfl b23 dX6_meal_65 (fun H locs hP _ hS => ?_)
        obtain ⟨S24, eS24⟩ : ∃ z : St, z = sR S20 0 (upd (S20.2.2 0) (S20.1 1).toNatClampNeg xl1) := ⟨_, rfl⟩
        have hP : va_P D vwCl (mw a c S24) H := by rw [eS24]; exact hP
        have h := h S24 eS24
        refine lv_aload_n hx hb dX6_meal_66 rfl (lv_at hl 0 rfl) ?_
        refine va_get (D := D) (ci := 6) (v := .ref (a 2)) (C := RX6) (T := TX6) (N := 36) hx hb hts hinX6 hown hK hP 0 rfl rfl 2 (by decide) kf13 (fun _ h9 => h9) rfl dX6_meal_67 ?_
        refine lv_aload_n hx hb dX6_meal_70 rfl (lv_at hl 0 rfl) ?_
        refine va_get (D := D) (ci := 6) (v := .int (S24.1 1)) (C := RX6) (T := TX6) (N := 36) hx hb hts hinX6 hown hK hP 0 rfl rfl 4 (by decide) kf71 (fun _ h9 => h9) rfl dX6_meal_71 ?_
        refine lv_iload_n hx hb dX6_meal_74 rfl (lv_at hl 2 rfl) ?_
        obtain ⟨b25, h⟩ := h
        refine va_iast hx hb hK hP (hD S24) hS 2 1 rfl rfl b25 dX6_meal_75 (fun H locs hP _ hS => ?_)
        obtain ⟨S26, eS26⟩ : ∃ z : St, z = sR S24 1 (upd (S24.2.2 1) (S24.1 1).toNatClampNeg xl2) := ⟨_, rfl⟩
        have hP : va_P D vwCl (mw a c S26) H := by rw [eS26]; exact hP
        have h := h S26 eS26
        refine lv_aload_n hx hb dX6_meal_76 rfl (lv_at hl 0 rfl) ?_
        refine lv_dup hx hb dX6_meal_77 rfl ?_
        refine va_get (D := D) (ci := 6) (v := .int (S26.1 1)) (C := RX6) (T := TX6) (N := 36) hx hb hts hinX6 hown hK hP 0 rfl rfl 4 (by decide) kf71 (fun _ h9 => h9) rfl dX6_meal_78 ?_
        refine lv_iconst (v := 1) hx hb dX6_meal_81 (by decide) ?_
        refine lv_iadd hx hb dX6_meal_82 ?_
        refine va_put (D := D) (ci := 6) (v := .int ((S26.1 1) + 1)) (ty := .int) (C := RX6) (T := TX6) (N := 36) hx hb hts hinX6 tyX6 tyX6_ok nmX6 hown hK hP (hD S26) hS 0 rfl rfl 4 (by decide) kf71 (fun _ h9 => h9) rfl (by decide +kernel) rfl rfl (Nat.le_of_ble_eq_true rfl) dX6_meal_83 (fun H locs hP _ hS => ?_)
        obtain ⟨S27, eS27⟩ : ∃ z : St, z = sI S26 1 ((S26.1 1) + 1) := ⟨_, rfl⟩
        have hP : va_P D vwCl (mw a c S27) H := by rw [eS27]; exact hP
        have h := h S27 eS27
        refine lv_aload_n hx hb dX6_meal_86 rfl (lv_at hl 0 rfl) ?_
        refine va_get (D := D) (ci := 6) (v := .int (S27.1 1)) (C := RX6) (T := TX6) (N := 36) hx hb hts hinX6 hown hK hP 0 rfl rfl 4 (by decide) kf71 (fun _ h9 => h9) rfl dX6_meal_87 ?_
        refine lv_iconst (v := 1) hx hb dX6_meal_90 (by decide) ?_
        refine lv_isub hx hb dX6_meal_91 ?_
        exact g_reti hx hb hr hlocks h hP hS dX6_meal_92
      · have h := h.2 c22
        refine lv_iconst (v := 0) hx hb dX6_meal_54 (by decide) ?_
        exact g_reti hx hb hr hlocks h hP hS dX6_meal_55
  unfold PX6_meal at h
  refine lv_aload_n hx hb dX6_meal_0 rfl (lv_at hl 0 rfl) ?_
  refine lv_iconst (v := 0) hx hb dX6_meal_1 (by decide) ?_
  refine va_put (D := D) (ci := 6) (v := .int 0) (ty := .int) (C := RX6) (T := TX6) (N := 36) hx hb hts hinX6 tyX6 tyX6_ok nmX6 hown hK hP (hD S) hS 0 rfl rfl 0 (by decide) kf60 (fun _ h9 => h9) rfl (by decide +kernel) rfl rfl (Nat.le_of_ble_eq_true rfl) dX6_meal_2 (fun H locs hP _ hS => ?_)
  obtain ⟨S1, eS1⟩ : ∃ z : St, z = sI S 0 0 := ⟨_, rfl⟩
  have hP : va_P D vwCl (mw a c S1) H := by rw [eS1]; exact hP
  have h := h S1 eS1
  refine lv_aload_n hx hb dX6_meal_5 rfl (lv_at hl 0 rfl) ?_
  refine lv_iload_n hx hb dX6_meal_6 rfl (lv_at hl 1 rfl) ?_
  refine k_i (k_runS mns_ok ⟨hx, hb, hml, hown, hts⟩ (tX6_isBits l D a c _ p0 S1 _ h) (va_cwS 1 hts gX6_meal_X6_isBits rfl rfl rfl (by decide +kernel) ⟨Nat.le_of_ble_eq_true rfl, Nat.le_of_ble_eq_true rfl⟩) hP hK (hD S1) hN rfl rfl hl.1 rfl (lv_room (Nat.le_of_ble_eq_true rfl)) dX6_meal_7 ⟨Nat.le_of_ble_eq_true rfl, Nat.le_of_ble_eq_true rfl⟩) hS (hD S1) hA (fun x3 S2 H locs h hP hS => ?_)
  refine lv_if_eq (tgt := 20) hx hb dX6_meal_10 (by decide) (fun c4 => ?_) (fun c4 => ?_)
  · have h := h.1 c4
    refine lv_iconst (v := 1) hx hb dX6_meal_20 (by decide) ?_
    refine lv_goto (tgt := 25) hx hb dX6_meal_21 (by decide) ?_
    refine lv_iconst (v := 1) hx hb dX6_meal_25 (by decide) ?_
    refine k_i (k_runV mns_ok ⟨hx, hb, hml, hown, hts⟩ (tX6_bad l D a c _ 1 1 S2 _ h) (cwV 2 hts gX6_meal_X6_bad rfl rfl rfl (by decide +kernel) ⟨Nat.le_of_ble_eq_true rfl, Nat.le_of_ble_eq_true rfl⟩) (va_recv hK hP (ci := 6) (q0 := 0) rfl rfl) hP hK (hD S2) hN rfl rfl hl.1 rfl (lv_room (Nat.le_of_ble_eq_true rfl)) dX6_meal_26 ⟨Nat.le_of_ble_eq_true rfl, Nat.le_of_ble_eq_true rfl⟩) hS (hD S2) hA (fun x6 S5 H locs h hP hS => ?_)
    refine lv_if_ne (tgt := 54) hx hb dX6_meal_29 (by decide) (fun c7 => ?_) (fun c7 => ?_)
    · have h := h.2 c7
      refine lv_iconst (v := 0) hx hb dX6_meal_54 (by decide) ?_
      exact g_reti hx hb hr hlocks h hP hS dX6_meal_55
    · have h := h.1 c7
      refine lv_aload_n hx hb dX6_meal_32 rfl (lv_at hl 0 rfl) ?_
      refine lv_aload_n hx hb dX6_meal_33 rfl (lv_at hl 0 rfl) ?_
      refine va_get (D := D) (ci := 6) (v := .int (S5.1 1)) (C := RX6) (T := TX6) (N := 36) hx hb hts hinX6 hown hK hP 0 rfl rfl 4 (by decide) kf71 (fun _ h9 => h9) rfl dX6_meal_34 ?_
      refine lv_bipush (v := 6) hx hb dX6_meal_37 (by decide) ?_
      refine lv_icmp_ne (tgt := 46) hx hb dX6_meal_39 (by decide) (fun c8 => ?_) (fun c8 => ?_)
      · have h := h.2 c8
        refine lv_iconst (v := 0) hx hb dX6_meal_46 (by decide) ?_
        exact (key n) p0 p1 0 S5 _ _ _ h hP hS (lv_sub hl [0, 1, 2] rfl)
      · have h := h.1 c8
        refine lv_iconst (v := 1) hx hb dX6_meal_42 (by decide) ?_
        refine lv_goto (tgt := 47) hx hb dX6_meal_43 (by decide) ?_
        exact (key n) p0 p1 1 S5 _ _ _ h hP hS (lv_sub hl [0, 1, 2] rfl)
  · have h := h.2 c4
    refine lv_iload_n hx hb dX6_meal_13 rfl (lv_at hl 2 rfl) ?_
    refine k_i (k_runS mns_ok ⟨hx, hb, hml, hown, hts⟩ (tX6_isBits l D a c _ p1 S2 _ h) (va_cwS 1 hts gX6_meal_X6_isBits rfl rfl rfl (by decide +kernel) ⟨Nat.le_of_ble_eq_true rfl, Nat.le_of_ble_eq_true rfl⟩) hP hK (hD S2) hN rfl rfl hl.1 rfl (lv_room (Nat.le_of_ble_eq_true rfl)) dX6_meal_14 ⟨Nat.le_of_ble_eq_true rfl, Nat.le_of_ble_eq_true rfl⟩) hS (hD S2) hA (fun x10 S9 H locs h hP hS => ?_)
    refine lv_if_ne (tgt := 24) hx hb dX6_meal_17 (by decide) (fun c11 => ?_) (fun c11 => ?_)
    · have h := h.2 c11
      refine lv_iconst (v := 0) hx hb dX6_meal_24 (by decide) ?_
      refine lv_iconst (v := 1) hx hb dX6_meal_25 (by decide) ?_
      refine k_i (k_runV mns_ok ⟨hx, hb, hml, hown, hts⟩ (tX6_bad l D a c _ 0 1 S9 _ h) (cwV 2 hts gX6_meal_X6_bad rfl rfl rfl (by decide +kernel) ⟨Nat.le_of_ble_eq_true rfl, Nat.le_of_ble_eq_true rfl⟩) (va_recv hK hP (ci := 6) (q0 := 0) rfl rfl) hP hK (hD S9) hN rfl rfl hl.1 rfl (lv_room (Nat.le_of_ble_eq_true rfl)) dX6_meal_26 ⟨Nat.le_of_ble_eq_true rfl, Nat.le_of_ble_eq_true rfl⟩) hS (hD S9) hA (fun x13 S12 H locs h hP hS => ?_)
      refine lv_if_ne (tgt := 54) hx hb dX6_meal_29 (by decide) (fun c14 => ?_) (fun c14 => ?_)
      · have h := h.2 c14
        refine lv_iconst (v := 0) hx hb dX6_meal_54 (by decide) ?_
        exact g_reti hx hb hr hlocks h hP hS dX6_meal_55
      · have h := h.1 c14
        refine lv_aload_n hx hb dX6_meal_32 rfl (lv_at hl 0 rfl) ?_
        refine lv_aload_n hx hb dX6_meal_33 rfl (lv_at hl 0 rfl) ?_
        refine va_get (D := D) (ci := 6) (v := .int (S12.1 1)) (C := RX6) (T := TX6) (N := 36) hx hb hts hinX6 hown hK hP 0 rfl rfl 4 (by decide) kf71 (fun _ h9 => h9) rfl dX6_meal_34 ?_
        refine lv_bipush (v := 6) hx hb dX6_meal_37 (by decide) ?_
        refine lv_icmp_ne (tgt := 46) hx hb dX6_meal_39 (by decide) (fun c15 => ?_) (fun c15 => ?_)
        · have h := h.2 c15
          refine lv_iconst (v := 0) hx hb dX6_meal_46 (by decide) ?_
          exact (key n) p0 p1 0 S12 _ _ _ h hP hS (lv_sub hl [0, 1, 2] rfl)
        · have h := h.1 c15
          refine lv_iconst (v := 1) hx hb dX6_meal_42 (by decide) ?_
          refine lv_goto (tgt := 47) hx hb dX6_meal_43 (by decide) ?_
          exact (key n) p0 p1 1 S12 _ _ _ h hP hS (lv_sub hl [0, 1, 2] rfl)
    · have h := h.1 c11
      refine lv_iconst (v := 1) hx hb dX6_meal_20 (by decide) ?_
      refine lv_goto (tgt := 25) hx hb dX6_meal_21 (by decide) ?_
      refine lv_iconst (v := 1) hx hb dX6_meal_25 (by decide) ?_
      refine k_i (k_runV mns_ok ⟨hx, hb, hml, hown, hts⟩ (tX6_bad l D a c _ 1 1 S9 _ h) (cwV 2 hts gX6_meal_X6_bad rfl rfl rfl (by decide +kernel) ⟨Nat.le_of_ble_eq_true rfl, Nat.le_of_ble_eq_true rfl⟩) (va_recv hK hP (ci := 6) (q0 := 0) rfl rfl) hP hK (hD S9) hN rfl rfl hl.1 rfl (lv_room (Nat.le_of_ble_eq_true rfl)) dX6_meal_26 ⟨Nat.le_of_ble_eq_true rfl, Nat.le_of_ble_eq_true rfl⟩) hS (hD S9) hA (fun x17 S16 H locs h hP hS => ?_)
      refine lv_if_ne (tgt := 54) hx hb dX6_meal_29 (by decide) (fun c18 => ?_) (fun c18 => ?_)
      · have h := h.2 c18
        refine lv_iconst (v := 0) hx hb dX6_meal_54 (by decide) ?_
        exact g_reti hx hb hr hlocks h hP hS dX6_meal_55
      · have h := h.1 c18
        refine lv_aload_n hx hb dX6_meal_32 rfl (lv_at hl 0 rfl) ?_
        refine lv_aload_n hx hb dX6_meal_33 rfl (lv_at hl 0 rfl) ?_
        refine va_get (D := D) (ci := 6) (v := .int (S16.1 1)) (C := RX6) (T := TX6) (N := 36) hx hb hts hinX6 hown hK hP 0 rfl rfl 4 (by decide) kf71 (fun _ h9 => h9) rfl dX6_meal_34 ?_
        refine lv_bipush (v := 6) hx hb dX6_meal_37 (by decide) ?_
        refine lv_icmp_ne (tgt := 46) hx hb dX6_meal_39 (by decide) (fun c19 => ?_) (fun c19 => ?_)
        · have h := h.2 c19
          refine lv_iconst (v := 0) hx hb dX6_meal_46 (by decide) ?_
          exact (key n) p0 p1 0 S16 _ _ _ h hP hS (lv_sub hl [0, 1, 2] rfl)
        · have h := h.1 c19
          refine lv_iconst (v := 1) hx hb dX6_meal_42 (by decide) ?_
          refine lv_goto (tgt := 47) hx hb dX6_meal_43 (by decide) ?_
          exact (key n) p0 p1 1 S16 _ _ _ h hP hS (lv_sub hl [0, 1, 2] rfl)
def PX6_isMeal (p0 : Int32) (S : St) (post : Int32 → St → Prop) : Prop := ((p0 < 0 → ∀ S2 : St, S2 = sI S 0 1 → (((S2.1 0) = 0 → post 1 S2) ∧ (¬ (S2.1 0) = 0 → post 0 S2))) ∧ (¬ p0 < 0 → ((p0 < (S.1 1) → ∀ S5 : St, S5 = sI S 0 0 → (((S5.1 0) = 0 → post 1 S5) ∧ (¬ (S5.1 0) = 0 → post 0 S5))) ∧ (¬ p0 < (S.1 1) → ∀ S7 : St, S7 = sI S 0 1 → (((S7.1 0) = 0 → post 1 S7) ∧ (¬ (S7.1 0) = 0 → post 0 S7))))))
set_option maxHeartbeats 4000000 in
set_option maxRecDepth 100000 in
theorem tX6_isMeal (l : Launch) (D : va_G) (a : Nat → Nat) (c : Nat → ClassId) (sz : Nat) (p0 : Int32) (S : St) (post : Int32 → St → Prop) (h : PX6_isMeal p0 S post) : Met l yX6_isMeal wsX6_isMeal ({ frames := 0, cells := 0, slots := 0, locals := 0 }) (va_Pc [.ref (a 0), .int p0] (gP D (mw a c) (mty c) mns S sz)) (va_Qi post (gB D (mw a c)) (va_A (mw a c S) sz)) 0 0 (va_A (mw a c S) sz) := by
  refine Met.ofW (cc := cX6_isMeal) (maxL := 2) (ret := (some .boolean)) (by decide) rfl ?_
  intro p e s m args below meth c9 s₁ B hml hv
  obtain ⟨rfl, hsz, hP, hK, hD0, hN⟩ := hv
  have hx := B.exec
  have hb := B.bytes
  have hr := B.returns
  have hts := atoms_spec (ws := wsX6_isMeal) B.pre
  have hown : s.vm.findClass RX6 = some m.cls := findClass_of_methodNamed B.named
  have hlocks := B.notSynchronized
  subst hsz
  have hD1 := hD0.self (sz := s.heap.size)
  generalize hAe : va_A (mw a c S) s.heap.size = A at hD1 ⊢
  have hA : ∀ q : Nat, s.heap.size ≤ q → A q := fun q h => by rw [← hAe]; exact Or.inr h
  have hD : ∀ S2 : St, va_D A (mw a c S2) := gD mw_F hD1
  have hS : va_S A s.heap s.heap [] := va_S.rf
  have hinX6 : ∀ w ∈ wsX60, w ∈ wsX6_isMeal := by decide +kernel
  have kf60 := hts (.fieldLink RX6 60 "CanteenPlanModel" "thrown" "I") (by decide +kernel)
  have kf71 := hts (.fieldLink RX6 71 "CanteenPlanModel" "meals" "I") (by decide +kernel)
  have hl := lv_entry ([.ref (a 0), .int p0]) (n := 2) (Nat.le_of_ble_eq_true rfl)
  rw [lg_entry_eq]
  generalize (lg_sl ([.ref (a 0), .int p0]) ++ List.replicate (2 - (lg_sl ([.ref (a 0), .int p0])).length) Slot.unset).toArray = ls at hl ⊢
  have hl : lv_has ls 2 [(0, .ref (a 0)), (1, .int p0)] := hl
  unfold PX6_isMeal at h
  refine lv_aload_n hx hb dX6_isMeal_0 rfl (lv_at hl 0 rfl) ?_
  refine lv_iload_n hx hb dX6_isMeal_1 rfl (lv_at hl 1 rfl) ?_
  refine lv_if_lt (tgt := 13) hx hb dX6_isMeal_2 (by decide) (fun c1 => ?_) (fun c1 => ?_)
  · have h := h.1 c1
    refine lv_iconst (v := 1) hx hb dX6_isMeal_13 (by decide) ?_
    refine lv_goto (tgt := 18) hx hb dX6_isMeal_14 (by decide) ?_
    refine va_put (D := D) (ci := 6) (v := .int 1) (ty := .int) (C := RX6) (T := TX6) (N := 36) hx hb hts hinX6 tyX6 tyX6_ok nmX6 hown hK hP (hD S) hS 0 rfl rfl 0 (by decide) kf60 (fun _ h9 => h9) rfl (by decide +kernel) rfl rfl (Nat.le_of_ble_eq_true rfl) dX6_isMeal_18 (fun H locs hP _ hS => ?_)
    obtain ⟨S2, eS2⟩ : ∃ z : St, z = sI S 0 1 := ⟨_, rfl⟩
    have hP : va_P D vwCl (mw a c S2) H := by rw [eS2]; exact hP
    have h := h S2 eS2
    refine lv_aload_n hx hb dX6_isMeal_21 rfl (lv_at hl 0 rfl) ?_
    refine va_get (D := D) (ci := 6) (v := .int (S2.1 0)) (C := RX6) (T := TX6) (N := 36) hx hb hts hinX6 hown hK hP 0 rfl rfl 0 (by decide) kf60 (fun _ h9 => h9) rfl dX6_isMeal_22 ?_
    refine lv_if_ne (tgt := 32) hx hb dX6_isMeal_25 (by decide) (fun c3 => ?_) (fun c3 => ?_)
    · have h := h.2 c3
      refine lv_iconst (v := 0) hx hb dX6_isMeal_32 (by decide) ?_
      exact g_retz hx hb hr hlocks (Or.inl rfl) h hP hS dX6_isMeal_33
    · have h := h.1 c3
      refine lv_iconst (v := 1) hx hb dX6_isMeal_28 (by decide) ?_
      refine lv_goto (tgt := 33) hx hb dX6_isMeal_29 (by decide) ?_
      exact g_retz hx hb hr hlocks (Or.inr rfl) h hP hS dX6_isMeal_33
  · have h := h.2 c1
    refine lv_iload_n hx hb dX6_isMeal_5 rfl (lv_at hl 1 rfl) ?_
    refine lv_aload_n hx hb dX6_isMeal_6 rfl (lv_at hl 0 rfl) ?_
    refine va_get (D := D) (ci := 6) (v := .int (S.1 1)) (C := RX6) (T := TX6) (N := 36) hx hb hts hinX6 hown hK hP 0 rfl rfl 4 (by decide) kf71 (fun _ h9 => h9) rfl dX6_isMeal_7 ?_
    refine lv_icmp_lt (tgt := 17) hx hb dX6_isMeal_10 (by decide) (fun c4 => ?_) (fun c4 => ?_)
    · have h := h.1 c4
      refine lv_iconst (v := 0) hx hb dX6_isMeal_17 (by decide) ?_
      refine va_put (D := D) (ci := 6) (v := .int 0) (ty := .int) (C := RX6) (T := TX6) (N := 36) hx hb hts hinX6 tyX6 tyX6_ok nmX6 hown hK hP (hD S) hS 0 rfl rfl 0 (by decide) kf60 (fun _ h9 => h9) rfl (by decide +kernel) rfl rfl (Nat.le_of_ble_eq_true rfl) dX6_isMeal_18 (fun H locs hP _ hS => ?_)
      obtain ⟨S5, eS5⟩ : ∃ z : St, z = sI S 0 0 := ⟨_, rfl⟩
      have hP : va_P D vwCl (mw a c S5) H := by rw [eS5]; exact hP
      have h := h S5 eS5
      refine lv_aload_n hx hb dX6_isMeal_21 rfl (lv_at hl 0 rfl) ?_
      refine va_get (D := D) (ci := 6) (v := .int (S5.1 0)) (C := RX6) (T := TX6) (N := 36) hx hb hts hinX6 hown hK hP 0 rfl rfl 0 (by decide) kf60 (fun _ h9 => h9) rfl dX6_isMeal_22 ?_
      refine lv_if_ne (tgt := 32) hx hb dX6_isMeal_25 (by decide) (fun c6 => ?_) (fun c6 => ?_)
      · have h := h.2 c6
        refine lv_iconst (v := 0) hx hb dX6_isMeal_32 (by decide) ?_
        exact g_retz hx hb hr hlocks (Or.inl rfl) h hP hS dX6_isMeal_33
      · have h := h.1 c6
        refine lv_iconst (v := 1) hx hb dX6_isMeal_28 (by decide) ?_
        refine lv_goto (tgt := 33) hx hb dX6_isMeal_29 (by decide) ?_
        exact g_retz hx hb hr hlocks (Or.inr rfl) h hP hS dX6_isMeal_33
    · have h := h.2 c4
      refine lv_iconst (v := 1) hx hb dX6_isMeal_13 (by decide) ?_
      refine lv_goto (tgt := 18) hx hb dX6_isMeal_14 (by decide) ?_
      refine va_put (D := D) (ci := 6) (v := .int 1) (ty := .int) (C := RX6) (T := TX6) (N := 36) hx hb hts hinX6 tyX6 tyX6_ok nmX6 hown hK hP (hD S) hS 0 rfl rfl 0 (by decide) kf60 (fun _ h9 => h9) rfl (by decide +kernel) rfl rfl (Nat.le_of_ble_eq_true rfl) dX6_isMeal_18 (fun H locs hP _ hS => ?_)
      obtain ⟨S7, eS7⟩ : ∃ z : St, z = sI S 0 1 := ⟨_, rfl⟩
      have hP : va_P D vwCl (mw a c S7) H := by rw [eS7]; exact hP
      have h := h S7 eS7
      refine lv_aload_n hx hb dX6_isMeal_21 rfl (lv_at hl 0 rfl) ?_
      refine va_get (D := D) (ci := 6) (v := .int (S7.1 0)) (C := RX6) (T := TX6) (N := 36) hx hb hts hinX6 hown hK hP 0 rfl rfl 0 (by decide) kf60 (fun _ h9 => h9) rfl dX6_isMeal_22 ?_
      refine lv_if_ne (tgt := 32) hx hb dX6_isMeal_25 (by decide) (fun c8 => ?_) (fun c8 => ?_)
      · have h := h.2 c8
        refine lv_iconst (v := 0) hx hb dX6_isMeal_32 (by decide) ?_
        exact g_retz hx hb hr hlocks (Or.inl rfl) h hP hS dX6_isMeal_33
      · have h := h.1 c8
        refine lv_iconst (v := 1) hx hb dX6_isMeal_28 (by decide) ?_
        refine lv_goto (tgt := 33) hx hb dX6_isMeal_29 (by decide) ?_
        exact g_retz hx hb hr hlocks (Or.inr rfl) h hP hS dX6_isMeal_33
def BX6_ate_0 (X : Int32 → Int32 → Int32 → St → Prop) (post : Int32 → St → Prop) (xl1 : Int32) (xl2 : Int32) (xs0 : Int32) (S : St) : Prop := PX6_bad xs0 2 S (fun x7 S6 => ((x7 = 0 → (vp_in xl1 6 ∧ ∀ x10 : Int32, x10 = (S6.2.2 2 xl1.toNatClampNeg) → (vp_in xl1 6 ∧ ∀ S12 : St, S12 = sR S6 2 (upd (S6.2.2 2) xl1.toNatClampNeg xl2) → post x10 S12))) ∧ (¬ x7 = 0 → post 0 S6)))
def LX6_ate (post : Int32 → St → Prop) : Nat → Int32 → Int32 → Int32 → St → Prop
  | 0, _, _, _, _ => False
  | n + 1, xl1, xl2, xs0, S => BX6_ate_0 (LX6_ate post n) post xl1 xl2 xs0 S
def PX6_ate (n : Nat) (p0 : Int32) (p1 : Int32) (S : St) (post : Int32 → St → Prop) : Prop := PX6_isMeal p0 S (fun x2 S1 => ((x2 = 0 → post 0 S1) ∧ (¬ x2 = 0 → ((p1 < 0 → LX6_ate post n p0 p1 1 S1) ∧ (¬ p1 < 0 → ((p1 ≤ 1000 → LX6_ate post n p0 p1 0 S1) ∧ (¬ p1 ≤ 1000 → LX6_ate post n p0 p1 1 S1)))))))
set_option maxHeartbeats 4000000 in
set_option maxRecDepth 100000 in
theorem tX6_ate (l : Launch) (D : va_G) (a : Nat → Nat) (c : Nat → ClassId) (sz : Nat) (n : Nat) (p0 : Int32) (p1 : Int32) (S : St) (post : Int32 → St → Prop) (h : PX6_ate n p0 p1 S post) : Met l yX6_ate wsX6_ate ({ frames := 1, cells := 0, slots := 0, locals := 22 }) (va_Pc [.ref (a 0), .int p0, .int p1] (gP D (mw a c) (mty c) mns S sz)) (va_Qi post (gB D (mw a c)) (va_A (mw a c S) sz)) 0 0 (va_A (mw a c S) sz) := by
  refine Met.ofW (cc := cX6_ate) (maxL := 4) (ret := (some .int)) (by decide) rfl ?_
  intro p e s m args below meth c9 s₁ B hml hv
  obtain ⟨rfl, hsz, hP, hK, hD0, hN⟩ := hv
  have hx := B.exec
  have hb := B.bytes
  have hr := B.returns
  have hts := atoms_spec (ws := wsX6_ate) B.pre
  have hown : s.vm.findClass RX6 = some m.cls := findClass_of_methodNamed B.named
  have hlocks := B.notSynchronized
  subst hsz
  have hD1 := hD0.self (sz := s.heap.size)
  generalize hAe : va_A (mw a c S) s.heap.size = A at hD1 ⊢
  have hA : ∀ q : Nat, s.heap.size ≤ q → A q := fun q h => by rw [← hAe]; exact Or.inr h
  have hD : ∀ S2 : St, va_D A (mw a c S2) := gD mw_F hD1
  have hS : va_S A s.heap s.heap [] := va_S.rf
  have hinX6 : ∀ w ∈ wsX60, w ∈ wsX6_ate := by decide +kernel
  have kf16 := hts (.fieldLink RX6 16 "CanteenPlanModel" "next" "[I") (by decide +kernel)
  have hl := lv_entry ([.ref (a 0), .int p0, .int p1]) (n := 4) (Nat.le_of_ble_eq_true rfl)
  rw [lg_entry_eq]
  generalize (lg_sl ([.ref (a 0), .int p0, .int p1]) ++ List.replicate (4 - (lg_sl ([.ref (a 0), .int p0, .int p1])).length) Slot.unset).toArray = ls at hl ⊢
  have hl : lv_has ls 4 [(0, .ref (a 0)), (1, .int p0), (2, .int p1)] := hl
  have key : ∀ n : Nat, (∀ (xl1 : Int32) (xl2 : Int32) (xs0 : Int32) (S : St) (H : Heap) (locs : List Loc) (ls : Array Slot), LX6_ate post n xl1 xl2 xs0 S → va_P D vwCl (mw a c S) H → va_S A s.heap H locs → lv_has ls 4 [(0, .ref (a 0)), (1, .int xl1), (2, .int xl2)] → W p l e ((headSpec wsX6_ate ({ frames := 1, cells := 0, slots := 0, locals := 22 })).room) s m ([.ref (a 0), .int p0, .int p1]).toArray below meth c9 H locs 0 0 (MQ below (va_Qi post (gB D (mw a c)) A) ([.ref (a 0), .int p0, .int p1]).toArray s 0 0 A) (F0 m 25 ls [.int xs0, .ref (a 0)])) := by
    intro n
    induction n with
    | zero => exact fun xl1 xl2 xs0 S H locs ls h => h.elim
    | succ n ih =>
      intro xl1 xl2 xs0 S H locs ls h hP hS hl
      have h : BX6_ate_0 (LX6_ate post n) post xl1 xl2 xs0 S := h
      unfold BX6_ate_0 at h
      refine lv_iconst (v := 2) hx hb dX6_ate_25 (by decide) ?_
      refine k_i (k_runV mns_ok ⟨hx, hb, hml, hown, hts⟩ (tX6_bad l D a c _ xs0 2 S _ h) (cwV 2 hts gX6_ate_X6_bad rfl rfl rfl (by decide +kernel) ⟨Nat.le_of_ble_eq_true rfl, Nat.le_of_ble_eq_true rfl⟩) (va_recv hK hP (ci := 6) (q0 := 0) rfl rfl) hP hK (hD S) hN rfl rfl hl.1 rfl (lv_room (Nat.le_of_ble_eq_true rfl)) dX6_ate_26 ⟨Nat.le_of_ble_eq_true rfl, Nat.le_of_ble_eq_true rfl⟩) hS (hD S) hA (fun x7 S6 H locs h hP hS => ?_)
      refine lv_if_eq (tgt := 34) hx hb dX6_ate_29 (by decide) (fun c8 => ?_) (fun c8 => ?_)
      · have h := h.1 c8
        refine lv_aload_n hx hb dX6_ate_34 rfl (lv_at hl 0 rfl) ?_
        refine va_get (D := D) (ci := 6) (v := .ref (a 3)) (C := RX6) (T := TX6) (N := 36) hx hb hts hinX6 hown hK hP 0 rfl rfl 3 (by decide) kf16 (fun _ h9 => h9) rfl dX6_ate_35 ?_
        refine lv_iload_n hx hb dX6_ate_38 rfl (lv_at hl 1 rfl) ?_
        obtain ⟨b9, h⟩ := h
        refine va_iald hx hb hK hP 3 2 rfl rfl b9 dX6_ate_39 ?_
        refine lv_topi (fun x10 ex10 => ?_)
        have h := h x10 ex10
        refine lv_istore_n (lv' := [(3, .int x10), (0, .ref (a 0)), (1, .int xl1), (2, .int xl2)]) hx hb dX6_ate_40 rfl hl (by decide) rfl (fun ls hl => ?_)
        refine lv_aload_n hx hb dX6_ate_41 rfl (lv_at hl 1 rfl) ?_
        refine va_get (D := D) (ci := 6) (v := .ref (a 3)) (C := RX6) (T := TX6) (N := 36) hx hb hts hinX6 hown hK hP 0 rfl rfl 3 (by decide) kf16 (fun _ h9 => h9) rfl dX6_ate_42 ?_
        refine lv_iload_n hx hb dX6_ate_45 rfl (lv_at hl 2 rfl) ?_
        refine lv_iload_n hx hb dX6_ate_46 rfl (lv_at hl 3 rfl) ?_
        obtain ⟨b11, h⟩ := h
        refine va_iast hx hb hK hP (hD S6) hS 3 2 rfl rfl b11 dX6_ate_47 (fun H locs hP _ hS => ?_)
        obtain ⟨S12, eS12⟩ : ∃ z : St, z = sR S6 2 (upd (S6.2.2 2) xl1.toNatClampNeg xl2) := ⟨_, rfl⟩
        have hP : va_P D vwCl (mw a c S12) H := by rw [eS12]; exact hP
        have h := h S12 eS12
        refine lv_iload_n hx hb dX6_ate_48 rfl (lv_at hl 0 rfl) ?_
        exact g_reti hx hb hr hlocks h hP hS dX6_ate_49
      · have h := h.2 c8
        refine lv_iconst (v := 0) hx hb dX6_ate_32 (by decide) ?_
        exact g_reti hx hb hr hlocks h hP hS dX6_ate_33
  unfold PX6_ate at h
  refine lv_aload_n hx hb dX6_ate_0 rfl (lv_at hl 0 rfl) ?_
  refine lv_iload_n hx hb dX6_ate_1 rfl (lv_at hl 1 rfl) ?_
  refine k_i (k_runV mns_ok ⟨hx, hb, hml, hown, hts⟩ (tX6_isMeal l D a c _ p0 S _ h) (cwV 1 hts gX6_ate_X6_isMeal rfl rfl rfl (by decide +kernel) ⟨Nat.le_of_ble_eq_true rfl, Nat.le_of_ble_eq_true rfl⟩) (va_recv hK hP (ci := 6) (q0 := 0) rfl rfl) hP hK (hD S) hN rfl rfl hl.1 rfl (lv_room (Nat.le_of_ble_eq_true rfl)) dX6_ate_2 ⟨Nat.le_of_ble_eq_true rfl, Nat.le_of_ble_eq_true rfl⟩) hS (hD S) hA (fun x2 S1 H locs h hP hS => ?_)
  refine lv_if_eq (tgt := 32) hx hb dX6_ate_5 (by decide) (fun c3 => ?_) (fun c3 => ?_)
  · have h := h.1 c3
    refine lv_iconst (v := 0) hx hb dX6_ate_32 (by decide) ?_
    exact g_reti hx hb hr hlocks h hP hS dX6_ate_33
  · have h := h.2 c3
    refine lv_aload_n hx hb dX6_ate_8 rfl (lv_at hl 0 rfl) ?_
    refine lv_iload_n hx hb dX6_ate_9 rfl (lv_at hl 2 rfl) ?_
    refine lv_if_lt (tgt := 20) hx hb dX6_ate_10 (by decide) (fun c4 => ?_) (fun c4 => ?_)
    · have h := h.1 c4
      refine lv_iconst (v := 1) hx hb dX6_ate_20 (by decide) ?_
      refine lv_goto (tgt := 25) hx hb dX6_ate_21 (by decide) ?_
      exact (key n) p0 p1 1 S1 _ _ _ h hP hS (lv_sub hl [0, 1, 2] rfl)
    · have h := h.2 c4
      refine lv_iload_n hx hb dX6_ate_13 rfl (lv_at hl 2 rfl) ?_
      refine lv_sipush (v := 1000) hx hb dX6_ate_14 (by decide) ?_
      refine lv_icmp_le (tgt := 24) hx hb dX6_ate_17 (by decide) (fun c5 => ?_) (fun c5 => ?_)
      · have h := h.1 c5
        refine lv_iconst (v := 0) hx hb dX6_ate_24 (by decide) ?_
        exact (key n) p0 p1 0 S1 _ _ _ h hP hS (lv_sub hl [0, 1, 2] rfl)
      · have h := h.2 c5
        refine lv_iconst (v := 1) hx hb dX6_ate_20 (by decide) ?_
        refine lv_goto (tgt := 25) hx hb dX6_ate_21 (by decide) ?_
        exact (key n) p0 p1 1 S1 _ _ _ h hP hS (lv_sub hl [0, 1, 2] rfl)
def BX6_day_0 (X : Nat → Int32 → Int32 → Int32 → St → Prop) (post : Int32 → St → Prop) (xl1 : Int32) (xl2 : Int32) (xs0 : Int32) (S : St) : Prop := PX6_bad xs0 2 S (fun x14 S13 => ((x14 = 0 → (vp_in (S13.1 2) 150 ∧ ∀ S17 : St, S17 = sR S13 3 (upd (S13.2.2 3) (S13.1 2).toNatClampNeg xl1) → (vp_in (S17.1 2) 150 ∧ ∀ S19 : St, S19 = sR S17 5 (upd (S17.2.2 5) (S17.1 2).toNatClampNeg (vp_nar .boolean 1)) → X 1 0 0 0 S19))) ∧ (¬ x14 = 0 → post 0 S13)))
def BX6_day_1 (X : Nat → Int32 → Int32 → Int32 → St → Prop) (post : Int32 → St → Prop) (xl1 : Int32) (xl2 : Int32) (xs0 : Int32) (S : St) : Prop := ((6 ≤ xl2 → ∀ S21 : St, S21 = sI S 2 ((S.1 2) + 1) → post ((S21.1 2) - 1) S21) ∧ (¬ 6 ≤ xl2 → (((S.1 1) ≤ xl2 → (vp_in ((6 * (S.1 2)) + xl2) 900 ∧ ∀ S24 : St, S24 = sR S 4 (upd (S.2.2 4) ((6 * (S.1 2)) + xl2).toNatClampNeg 0) → (vp_in xl2 6 ∧ ∀ S26 : St, S26 = sR S24 2 (upd (S24.2.2 2) xl2.toNatClampNeg 0) → ∀ x27 : Int32, x27 = xl2 + 1 → X 1 0 x27 0 S26))) ∧ (¬ (S.1 1) ≤ xl2 → (vp_in xl2 6 ∧ (vp_in ((6 * (S.1 2)) + xl2) 900 ∧ ∀ S30 : St, S30 = sR S 4 (upd (S.2.2 4) ((6 * (S.1 2)) + xl2).toNatClampNeg (S.2.2 2 xl2.toNatClampNeg)) → (vp_in xl2 6 ∧ ∀ S32 : St, S32 = sR S30 2 (upd (S30.2.2 2) xl2.toNatClampNeg 0) → ∀ x33 : Int32, x33 = xl2 + 1 → X 1 0 x33 0 S32)))))))
def LX6_day (post : Int32 → St → Prop) : Nat → Nat → Int32 → Int32 → Int32 → St → Prop
  | 0, _, _, _, _, _ => False
  | n + 1, 0, xl1, xl2, xs0, S => BX6_day_0 (LX6_day post n) post xl1 xl2 xs0 S
  | n + 1, 1, xl1, xl2, xs0, S => BX6_day_1 (LX6_day post n) post xl1 xl2 xs0 S
  | _ + 1, _ + 2, _, _, _, _ => False
def PX6_day (n : Nat) (p0 : Int32) (S : St) (post : Int32 → St → Prop) : Prop := ∀ S1 : St, S1 = sI S 0 0 → PX6_isBits p0 S1 (fun x3 S2 => ((x3 = 0 → PX6_bad 1 1 S2 (fun x10 S9 => ((x10 = 0 → (((S9.1 2) = 150 → LX6_day post n 0 p0 0 1 S9) ∧ (¬ (S9.1 2) = 150 → LX6_day post n 0 p0 0 0 S9))) ∧ (¬ x10 = 0 → post 0 S9)))) ∧ (¬ x3 = 0 → PX6_bad 0 1 S2 (fun x6 S5 => ((x6 = 0 → (((S5.1 2) = 150 → LX6_day post n 0 p0 0 1 S5) ∧ (¬ (S5.1 2) = 150 → LX6_day post n 0 p0 0 0 S5))) ∧ (¬ x6 = 0 → post 0 S5))))))
set_option maxHeartbeats 4000000 in
set_option maxRecDepth 100000 in
theorem tX6_day (l : Launch) (D : va_G) (a : Nat → Nat) (c : Nat → ClassId) (sz : Nat) (n : Nat) (p0 : Int32) (S : St) (post : Int32 → St → Prop) (h : PX6_day n p0 S post) : Met l yX6_day wsX6_day ({ frames := 1, cells := 0, slots := 0, locals := 22 }) (va_Pc [.ref (a 0), .int p0] (gP D (mw a c) (mty c) mns S sz)) (va_Qi post (gB D (mw a c)) (va_A (mw a c S) sz)) 0 0 (va_A (mw a c S) sz) := by
  refine Met.ofW (cc := cX6_day) (maxL := 3) (ret := (some .int)) (by decide) rfl ?_
  intro p e s m args below meth c9 s₁ B hml hv
  obtain ⟨rfl, hsz, hP, hK, hD0, hN⟩ := hv
  have hx := B.exec
  have hb := B.bytes
  have hr := B.returns
  have hts := atoms_spec (ws := wsX6_day) B.pre
  have hown : s.vm.findClass RX6 = some m.cls := findClass_of_methodNamed B.named
  have hlocks := B.notSynchronized
  subst hsz
  have hD1 := hD0.self (sz := s.heap.size)
  generalize hAe : va_A (mw a c S) s.heap.size = A at hD1 ⊢
  have hA : ∀ q : Nat, s.heap.size ≤ q → A q := fun q h => by rw [← hAe]; exact Or.inr h
  have hD : ∀ S2 : St, va_D A (mw a c S2) := gD mw_F hD1
  have hS : va_S A s.heap s.heap [] := va_S.rf
  have hinX6 : ∀ w ∈ wsX60, w ∈ wsX6_day := by decide +kernel
  have kf16 := hts (.fieldLink RX6 16 "CanteenPlanModel" "next" "[I") (by decide +kernel)
  have kf19 := hts (.fieldLink RX6 19 "CanteenPlanModel" "marks" "[I") (by decide +kernel)
  have kf22 := hts (.fieldLink RX6 22 "CanteenPlanModel" "eaten" "[I") (by decide +kernel)
  have kf25 := hts (.fieldLink RX6 25 "CanteenPlanModel" "isThere" "[Z") (by decide +kernel)
  have kf60 := hts (.fieldLink RX6 60 "CanteenPlanModel" "thrown" "I") (by decide +kernel)
  have kf71 := hts (.fieldLink RX6 71 "CanteenPlanModel" "meals" "I") (by decide +kernel)
  have kf77 := hts (.fieldLink RX6 77 "CanteenPlanModel" "days" "I") (by decide +kernel)
  have hl := lv_entry ([.ref (a 0), .int p0]) (n := 3) (Nat.le_of_ble_eq_true rfl)
  rw [lg_entry_eq]
  generalize (lg_sl ([.ref (a 0), .int p0]) ++ List.replicate (3 - (lg_sl ([.ref (a 0), .int p0])).length) Slot.unset).toArray = ls at hl ⊢
  have hl : lv_has ls 3 [(0, .ref (a 0)), (1, .int p0)] := hl
  have key : ∀ n : Nat, (∀ (xl1 : Int32) (xs0 : Int32) (S : St) (H : Heap) (locs : List Loc) (ls : Array Slot), LX6_day post n 0 xl1 0 xs0 S → va_P D vwCl (mw a c S) H → va_S A s.heap H locs → lv_has ls 3 [(0, .ref (a 0)), (1, .int xl1)] → W p l e ((headSpec wsX6_day ({ frames := 1, cells := 0, slots := 0, locals := 22 })).room) s m ([.ref (a 0), .int p0]).toArray below meth c9 H locs 0 0 (MQ below (va_Qi post (gB D (mw a c)) A) ([.ref (a 0), .int p0]).toArray s 0 0 A) (F0 m 41 ls [.int xs0, .ref (a 0)])) ∧ (∀ (xl2 : Int32) (S : St) (H : Heap) (locs : List Loc) (ls : Array Slot), LX6_day post n 1 0 xl2 0 S → va_P D vwCl (mw a c S) H → va_S A s.heap H locs → lv_has ls 3 [(0, .ref (a 0)), (2, .int xl2)] → W p l e ((headSpec wsX6_day ({ frames := 1, cells := 0, slots := 0, locals := 22 })).room) s m ([.ref (a 0), .int p0]).toArray below meth c9 H locs 0 0 (MQ below (va_Qi post (gB D (mw a c)) A) ([.ref (a 0), .int p0]).toArray s 0 0 A) (F0 m 72 ls [])) := by
    intro n
    induction n with
    | zero => exact ⟨fun xl1 xs0 S H locs ls h => h.elim, fun xl2 S H locs ls h => h.elim⟩
    | succ n ih =>
      refine ⟨?_, ?_⟩
      · intro xl1 xs0 S H locs ls h hP hS hl
        have h : BX6_day_0 (LX6_day post n) post xl1 0 xs0 S := h
        unfold BX6_day_0 at h
        refine lv_iconst (v := 2) hx hb dX6_day_41 (by decide) ?_
        refine k_i (k_runV mns_ok ⟨hx, hb, hml, hown, hts⟩ (tX6_bad l D a c _ xs0 2 S _ h) (cwV 2 hts gX6_day_X6_bad rfl rfl rfl (by decide +kernel) ⟨Nat.le_of_ble_eq_true rfl, Nat.le_of_ble_eq_true rfl⟩) (va_recv hK hP (ci := 6) (q0 := 0) rfl rfl) hP hK (hD S) hN rfl rfl hl.1 rfl (lv_room (Nat.le_of_ble_eq_true rfl)) dX6_day_42 ⟨Nat.le_of_ble_eq_true rfl, Nat.le_of_ble_eq_true rfl⟩) hS (hD S) hA (fun x14 S13 H locs h hP hS => ?_)
        refine lv_if_eq (tgt := 50) hx hb dX6_day_45 (by decide) (fun c15 => ?_) (fun c15 => ?_)
        · have h := h.1 c15
          refine lv_aload_n hx hb dX6_day_50 rfl (lv_at hl 0 rfl) ?_
          refine va_get (D := D) (ci := 6) (v := .ref (a 4)) (C := RX6) (T := TX6) (N := 36) hx hb hts hinX6 hown hK hP 0 rfl rfl 5 (by decide) kf19 (fun _ h9 => h9) rfl dX6_day_51 ?_
          refine lv_aload_n hx hb dX6_day_54 rfl (lv_at hl 0 rfl) ?_
          refine va_get (D := D) (ci := 6) (v := .int (S13.1 2)) (C := RX6) (T := TX6) (N := 36) hx hb hts hinX6 hown hK hP 0 rfl rfl 8 (by decide) kf77 (fun _ h9 => h9) rfl dX6_day_55 ?_
          refine lv_iload_n hx hb dX6_day_58 rfl (lv_at hl 1 rfl) ?_
          obtain ⟨b16, h⟩ := h
          refine va_iast hx hb hK hP (hD S13) hS 4 3 rfl rfl b16 dX6_day_59 (fun H locs hP _ hS => ?_)
          obtain ⟨S17, eS17⟩ : ∃ z : St, z = sR S13 3 (upd (S13.2.2 3) (S13.1 2).toNatClampNeg xl1) := ⟨_, rfl⟩
          have hP : va_P D vwCl (mw a c S17) H := by rw [eS17]; exact hP
          have h := h S17 eS17
          refine lv_aload_n hx hb dX6_day_60 rfl (lv_at hl 0 rfl) ?_
          refine va_get (D := D) (ci := 6) (v := .ref (a 6)) (C := RX6) (T := TX6) (N := 36) hx hb hts hinX6 hown hK hP 0 rfl rfl 7 (by decide) kf25 (fun _ h9 => h9) rfl dX6_day_61 ?_
          refine lv_aload_n hx hb dX6_day_64 rfl (lv_at hl 0 rfl) ?_
          refine va_get (D := D) (ci := 6) (v := .int (S17.1 2)) (C := RX6) (T := TX6) (N := 36) hx hb hts hinX6 hown hK hP 0 rfl rfl 8 (by decide) kf77 (fun _ h9 => h9) rfl dX6_day_65 ?_
          refine lv_iconst (v := 1) hx hb dX6_day_68 (by decide) ?_
          obtain ⟨b18, h⟩ := h
          refine va_zast hx hb hK hP (hD S17) hS 6 5 rfl rfl b18 dX6_day_69 (fun H locs hP _ hS => ?_)
          obtain ⟨S19, eS19⟩ : ∃ z : St, z = sR S17 5 (upd (S17.2.2 5) (S17.1 2).toNatClampNeg (vp_nar .boolean 1)) := ⟨_, rfl⟩
          have hP : va_P D vwCl (mw a c S19) H := by rw [eS19]; exact hP
          have h := h S19 eS19
          refine lv_iconst (v := 0) hx hb dX6_day_70 (by decide) ?_
          refine lv_istore_n (lv' := [(2, .int 0), (0, .ref (a 0)), (1, .int xl1)]) hx hb dX6_day_71 rfl hl (by decide) rfl (fun ls hl => ?_)
          exact (ih).2 0 S19 _ _ _ h hP hS (lv_sub hl [1, 0] rfl)
        · have h := h.2 c15
          refine lv_iconst (v := 0) hx hb dX6_day_48 (by decide) ?_
          exact g_reti hx hb hr hlocks h hP hS dX6_day_49
      · intro xl2 S H locs ls h hP hS hl
        have h : BX6_day_1 (LX6_day post n) post 0 xl2 0 S := h
        unfold BX6_day_1 at h
        refine lv_iload_n hx hb dX6_day_72 rfl (lv_at hl 1 rfl) ?_
        refine lv_bipush (v := 6) hx hb dX6_day_73 (by decide) ?_
        refine lv_icmp_ge (tgt := 123) hx hb dX6_day_75 (by decide) (fun c20 => ?_) (fun c20 => ?_)
        · have h := h.1 c20
          refine lv_aload_n hx hb dX6_day_123 rfl (lv_at hl 0 rfl) ?_
          refine lv_dup hx hb dX6_day_124 rfl ?_
          refine va_get (D := D) (ci := 6) (v := .int (S.1 2)) (C := RX6) (T := TX6) (N := 36) hx hb hts hinX6 hown hK hP 0 rfl rfl 8 (by decide) kf77 (fun _ h9 => h9) rfl dX6_day_125 ?_
          refine lv_iconst (v := 1) hx hb dX6_day_128 (by decide) ?_
          refine lv_iadd hx hb dX6_day_129 ?_
          refine va_put (D := D) (ci := 6) (v := .int ((S.1 2) + 1)) (ty := .int) (C := RX6) (T := TX6) (N := 36) hx hb hts hinX6 tyX6 tyX6_ok nmX6 hown hK hP (hD S) hS 0 rfl rfl 8 (by decide) kf77 (fun _ h9 => h9) rfl (by decide +kernel) rfl rfl (Nat.le_of_ble_eq_true rfl) dX6_day_130 (fun H locs hP _ hS => ?_)
          obtain ⟨S21, eS21⟩ : ∃ z : St, z = sI S 2 ((S.1 2) + 1) := ⟨_, rfl⟩
          have hP : va_P D vwCl (mw a c S21) H := by rw [eS21]; exact hP
          have h := h S21 eS21
          refine lv_aload_n hx hb dX6_day_133 rfl (lv_at hl 0 rfl) ?_
          refine va_get (D := D) (ci := 6) (v := .int (S21.1 2)) (C := RX6) (T := TX6) (N := 36) hx hb hts hinX6 hown hK hP 0 rfl rfl 8 (by decide) kf77 (fun _ h9 => h9) rfl dX6_day_134 ?_
          refine lv_iconst (v := 1) hx hb dX6_day_137 (by decide) ?_
          refine lv_isub hx hb dX6_day_138 ?_
          exact g_reti hx hb hr hlocks h hP hS dX6_day_139
        · have h := h.2 c20
          refine lv_aload_n hx hb dX6_day_78 rfl (lv_at hl 0 rfl) ?_
          refine va_get (D := D) (ci := 6) (v := .ref (a 5)) (C := RX6) (T := TX6) (N := 36) hx hb hts hinX6 hown hK hP 0 rfl rfl 6 (by decide) kf22 (fun _ h9 => h9) rfl dX6_day_79 ?_
          refine lv_bipush (v := 6) hx hb dX6_day_82 (by decide) ?_
          refine lv_aload_n hx hb dX6_day_84 rfl (lv_at hl 0 rfl) ?_
          refine va_get (D := D) (ci := 6) (v := .int (S.1 2)) (C := RX6) (T := TX6) (N := 36) hx hb hts hinX6 hown hK hP 0 rfl rfl 8 (by decide) kf77 (fun _ h9 => h9) rfl dX6_day_85 ?_
          refine lv_imul hx hb dX6_day_88 ?_
          refine lv_iload_n hx hb dX6_day_89 rfl (lv_at hl 1 rfl) ?_
          refine lv_iadd hx hb dX6_day_90 ?_
          refine lv_iload_n hx hb dX6_day_91 rfl (lv_at hl 1 rfl) ?_
          refine lv_aload_n hx hb dX6_day_92 rfl (lv_at hl 0 rfl) ?_
          refine va_get (D := D) (ci := 6) (v := .int (S.1 1)) (C := RX6) (T := TX6) (N := 36) hx hb hts hinX6 hown hK hP 0 rfl rfl 4 (by decide) kf71 (fun _ h9 => h9) rfl dX6_day_93 ?_
          refine lv_icmp_ge (tgt := 108) hx hb dX6_day_96 (by decide) (fun c22 => ?_) (fun c22 => ?_)
          · have h := h.1 c22
            refine lv_iconst (v := 0) hx hb dX6_day_108 (by decide) ?_
            obtain ⟨b23, h⟩ := h
            refine va_iast hx hb hK hP (hD S) hS 5 4 rfl rfl b23 dX6_day_109 (fun H locs hP _ hS => ?_)
            obtain ⟨S24, eS24⟩ : ∃ z : St, z = sR S 4 (upd (S.2.2 4) ((6 * (S.1 2)) + xl2).toNatClampNeg 0) := ⟨_, rfl⟩
            have hP : va_P D vwCl (mw a c S24) H := by rw [eS24]; exact hP
            have h := h S24 eS24
            refine lv_aload_n hx hb dX6_day_110 rfl (lv_at hl 0 rfl) ?_
            refine va_get (D := D) (ci := 6) (v := .ref (a 3)) (C := RX6) (T := TX6) (N := 36) hx hb hts hinX6 hown hK hP 0 rfl rfl 3 (by decide) kf16 (fun _ h9 => h9) rfl dX6_day_111 ?_
            refine lv_iload_n hx hb dX6_day_114 rfl (lv_at hl 1 rfl) ?_
            refine lv_iconst (v := 0) hx hb dX6_day_115 (by decide) ?_
            obtain ⟨b25, h⟩ := h
            refine va_iast hx hb hK hP (hD S24) hS 3 2 rfl rfl b25 dX6_day_116 (fun H locs hP _ hS => ?_)
            obtain ⟨S26, eS26⟩ : ∃ z : St, z = sR S24 2 (upd (S24.2.2 2) xl2.toNatClampNeg 0) := ⟨_, rfl⟩
            have hP : va_P D vwCl (mw a c S26) H := by rw [eS26]; exact hP
            have h := h S26 eS26
            obtain ⟨x27, ex27⟩ : ∃ y : Int32, y = xl2 + 1 := ⟨_, rfl⟩
            have h := h x27 ex27
            refine lv_iinc (v := x27) (lv' := [(2, .int x27), (0, .ref (a 0))]) hx hb dX6_day_117 hl (k := 1) rfl (by rw [ex27]; rfl) (by decide) rfl (fun ls hl => ?_)
            refine lv_goto (tgt := 72) hx hb dX6_day_120 (by decide) ?_
            exact (ih).2 x27 S26 _ _ _ h hP hS (lv_sub hl [1, 0] rfl)
          · have h := h.2 c22
            refine lv_aload_n hx hb dX6_day_99 rfl (lv_at hl 0 rfl) ?_
            refine va_get (D := D) (ci := 6) (v := .ref (a 3)) (C := RX6) (T := TX6) (N := 36) hx hb hts hinX6 hown hK hP 0 rfl rfl 3 (by decide) kf16 (fun _ h9 => h9) rfl dX6_day_100 ?_
            refine lv_iload_n hx hb dX6_day_103 rfl (lv_at hl 1 rfl) ?_
            obtain ⟨b28, h⟩ := h
            refine va_iald hx hb hK hP 3 2 rfl rfl b28 dX6_day_104 ?_
            refine lv_goto (tgt := 109) hx hb dX6_day_105 (by decide) ?_
            obtain ⟨b29, h⟩ := h
            refine va_iast hx hb hK hP (hD S) hS 5 4 rfl rfl b29 dX6_day_109 (fun H locs hP _ hS => ?_)
            obtain ⟨S30, eS30⟩ : ∃ z : St, z = sR S 4 (upd (S.2.2 4) ((6 * (S.1 2)) + xl2).toNatClampNeg (S.2.2 2 xl2.toNatClampNeg)) := ⟨_, rfl⟩
            have hP : va_P D vwCl (mw a c S30) H := by rw [eS30]; exact hP
            have h := h S30 eS30
            refine lv_aload_n hx hb dX6_day_110 rfl (lv_at hl 0 rfl) ?_
            refine va_get (D := D) (ci := 6) (v := .ref (a 3)) (C := RX6) (T := TX6) (N := 36) hx hb hts hinX6 hown hK hP 0 rfl rfl 3 (by decide) kf16 (fun _ h9 => h9) rfl dX6_day_111 ?_
            refine lv_iload_n hx hb dX6_day_114 rfl (lv_at hl 1 rfl) ?_
            refine lv_iconst (v := 0) hx hb dX6_day_115 (by decide) ?_
            obtain ⟨b31, h⟩ := h
            refine va_iast hx hb hK hP (hD S30) hS 3 2 rfl rfl b31 dX6_day_116 (fun H locs hP _ hS => ?_)
            obtain ⟨S32, eS32⟩ : ∃ z : St, z = sR S30 2 (upd (S30.2.2 2) xl2.toNatClampNeg 0) := ⟨_, rfl⟩
            have hP : va_P D vwCl (mw a c S32) H := by rw [eS32]; exact hP
            have h := h S32 eS32
            obtain ⟨x33, ex33⟩ : ∃ y : Int32, y = xl2 + 1 := ⟨_, rfl⟩
            have h := h x33 ex33
            refine lv_iinc (v := x33) (lv' := [(2, .int x33), (0, .ref (a 0))]) hx hb dX6_day_117 hl (k := 1) rfl (by rw [ex33]; rfl) (by decide) rfl (fun ls hl => ?_)
            refine lv_goto (tgt := 72) hx hb dX6_day_120 (by decide) ?_
            exact (ih).2 x33 S32 _ _ _ h hP hS (lv_sub hl [1, 0] rfl)
  unfold PX6_day at h
  refine lv_aload_n hx hb dX6_day_0 rfl (lv_at hl 0 rfl) ?_
  refine lv_iconst (v := 0) hx hb dX6_day_1 (by decide) ?_
  refine va_put (D := D) (ci := 6) (v := .int 0) (ty := .int) (C := RX6) (T := TX6) (N := 36) hx hb hts hinX6 tyX6 tyX6_ok nmX6 hown hK hP (hD S) hS 0 rfl rfl 0 (by decide) kf60 (fun _ h9 => h9) rfl (by decide +kernel) rfl rfl (Nat.le_of_ble_eq_true rfl) dX6_day_2 (fun H locs hP _ hS => ?_)
  obtain ⟨S1, eS1⟩ : ∃ z : St, z = sI S 0 0 := ⟨_, rfl⟩
  have hP : va_P D vwCl (mw a c S1) H := by rw [eS1]; exact hP
  have h := h S1 eS1
  refine lv_aload_n hx hb dX6_day_5 rfl (lv_at hl 0 rfl) ?_
  refine lv_iload_n hx hb dX6_day_6 rfl (lv_at hl 1 rfl) ?_
  refine k_i (k_runS mns_ok ⟨hx, hb, hml, hown, hts⟩ (tX6_isBits l D a c _ p0 S1 _ h) (va_cwS 1 hts gX6_day_X6_isBits rfl rfl rfl (by decide +kernel) ⟨Nat.le_of_ble_eq_true rfl, Nat.le_of_ble_eq_true rfl⟩) hP hK (hD S1) hN rfl rfl hl.1 rfl (lv_room (Nat.le_of_ble_eq_true rfl)) dX6_day_7 ⟨Nat.le_of_ble_eq_true rfl, Nat.le_of_ble_eq_true rfl⟩) hS (hD S1) hA (fun x3 S2 H locs h hP hS => ?_)
  refine lv_if_ne (tgt := 17) hx hb dX6_day_10 (by decide) (fun c4 => ?_) (fun c4 => ?_)
  · have h := h.2 c4
    refine lv_iconst (v := 0) hx hb dX6_day_17 (by decide) ?_
    refine lv_iconst (v := 1) hx hb dX6_day_18 (by decide) ?_
    refine k_i (k_runV mns_ok ⟨hx, hb, hml, hown, hts⟩ (tX6_bad l D a c _ 0 1 S2 _ h) (cwV 2 hts gX6_day_X6_bad rfl rfl rfl (by decide +kernel) ⟨Nat.le_of_ble_eq_true rfl, Nat.le_of_ble_eq_true rfl⟩) (va_recv hK hP (ci := 6) (q0 := 0) rfl rfl) hP hK (hD S2) hN rfl rfl hl.1 rfl (lv_room (Nat.le_of_ble_eq_true rfl)) dX6_day_19 ⟨Nat.le_of_ble_eq_true rfl, Nat.le_of_ble_eq_true rfl⟩) hS (hD S2) hA (fun x6 S5 H locs h hP hS => ?_)
    refine lv_if_ne (tgt := 48) hx hb dX6_day_22 (by decide) (fun c7 => ?_) (fun c7 => ?_)
    · have h := h.2 c7
      refine lv_iconst (v := 0) hx hb dX6_day_48 (by decide) ?_
      exact g_reti hx hb hr hlocks h hP hS dX6_day_49
    · have h := h.1 c7
      refine lv_aload_n hx hb dX6_day_25 rfl (lv_at hl 0 rfl) ?_
      refine lv_aload_n hx hb dX6_day_26 rfl (lv_at hl 0 rfl) ?_
      refine va_get (D := D) (ci := 6) (v := .int (S5.1 2)) (C := RX6) (T := TX6) (N := 36) hx hb hts hinX6 hown hK hP 0 rfl rfl 8 (by decide) kf77 (fun _ h9 => h9) rfl dX6_day_27 ?_
      refine lv_sipush (v := 150) hx hb dX6_day_30 (by decide) ?_
      refine lv_icmp_ne (tgt := 40) hx hb dX6_day_33 (by decide) (fun c8 => ?_) (fun c8 => ?_)
      · have h := h.2 c8
        refine lv_iconst (v := 0) hx hb dX6_day_40 (by decide) ?_
        exact (key n).1 p0 0 S5 _ _ _ h hP hS (lv_sub hl [0, 1] rfl)
      · have h := h.1 c8
        refine lv_iconst (v := 1) hx hb dX6_day_36 (by decide) ?_
        refine lv_goto (tgt := 41) hx hb dX6_day_37 (by decide) ?_
        exact (key n).1 p0 1 S5 _ _ _ h hP hS (lv_sub hl [0, 1] rfl)
  · have h := h.1 c4
    refine lv_iconst (v := 1) hx hb dX6_day_13 (by decide) ?_
    refine lv_goto (tgt := 18) hx hb dX6_day_14 (by decide) ?_
    refine lv_iconst (v := 1) hx hb dX6_day_18 (by decide) ?_
    refine k_i (k_runV mns_ok ⟨hx, hb, hml, hown, hts⟩ (tX6_bad l D a c _ 1 1 S2 _ h) (cwV 2 hts gX6_day_X6_bad rfl rfl rfl (by decide +kernel) ⟨Nat.le_of_ble_eq_true rfl, Nat.le_of_ble_eq_true rfl⟩) (va_recv hK hP (ci := 6) (q0 := 0) rfl rfl) hP hK (hD S2) hN rfl rfl hl.1 rfl (lv_room (Nat.le_of_ble_eq_true rfl)) dX6_day_19 ⟨Nat.le_of_ble_eq_true rfl, Nat.le_of_ble_eq_true rfl⟩) hS (hD S2) hA (fun x10 S9 H locs h hP hS => ?_)
    refine lv_if_ne (tgt := 48) hx hb dX6_day_22 (by decide) (fun c11 => ?_) (fun c11 => ?_)
    · have h := h.2 c11
      refine lv_iconst (v := 0) hx hb dX6_day_48 (by decide) ?_
      exact g_reti hx hb hr hlocks h hP hS dX6_day_49
    · have h := h.1 c11
      refine lv_aload_n hx hb dX6_day_25 rfl (lv_at hl 0 rfl) ?_
      refine lv_aload_n hx hb dX6_day_26 rfl (lv_at hl 0 rfl) ?_
      refine va_get (D := D) (ci := 6) (v := .int (S9.1 2)) (C := RX6) (T := TX6) (N := 36) hx hb hts hinX6 hown hK hP 0 rfl rfl 8 (by decide) kf77 (fun _ h9 => h9) rfl dX6_day_27 ?_
      refine lv_sipush (v := 150) hx hb dX6_day_30 (by decide) ?_
      refine lv_icmp_ne (tgt := 40) hx hb dX6_day_33 (by decide) (fun c12 => ?_) (fun c12 => ?_)
      · have h := h.2 c12
        refine lv_iconst (v := 0) hx hb dX6_day_40 (by decide) ?_
        exact (key n).1 p0 0 S9 _ _ _ h hP hS (lv_sub hl [0, 1] rfl)
      · have h := h.1 c12
        refine lv_iconst (v := 1) hx hb dX6_day_36 (by decide) ?_
        refine lv_goto (tgt := 41) hx hb dX6_day_37 (by decide) ?_
        exact (key n).1 p0 1 S9 _ _ _ h hP hS (lv_sub hl [0, 1] rfl)
def BX6_drop_0 (X : Int32 → Int32 → St → Prop) (post : Int32 → St → Prop) (xl1 : Int32) (xs0 : Int32) (S : St) : Prop := PX6_bad xs0 1 S (fun x5 S4 => ((x5 = 0 → (vp_in xl1 150 ∧ ∀ x8 : Int32, x8 = (S4.2.2 5 xl1.toNatClampNeg) → (vp_in xl1 150 ∧ ∀ S10 : St, S10 = sR S4 5 (upd (S4.2.2 5) xl1.toNatClampNeg (vp_nar .boolean 0)) → ((x8 = 0 ∨ x8 = 1) ∧ post x8 S10)))) ∧ (¬ x5 = 0 → post 0 S4)))
def LX6_drop (post : Int32 → St → Prop) : Nat → Int32 → Int32 → St → Prop
  | 0, _, _, _ => False
  | n + 1, xl1, xs0, S => BX6_drop_0 (LX6_drop post n) post xl1 xs0 S
def PX6_drop (n : Nat) (p0 : Int32) (S : St) (post : Int32 → St → Prop) : Prop := ∀ S1 : St, S1 = sI S 0 0 → ((p0 < 0 → LX6_drop post n p0 1 S1) ∧ (¬ p0 < 0 → ((p0 < (S1.1 2) → LX6_drop post n p0 0 S1) ∧ (¬ p0 < (S1.1 2) → LX6_drop post n p0 1 S1))))
set_option maxHeartbeats 4000000 in
set_option maxRecDepth 100000 in
theorem tX6_drop (l : Launch) (D : va_G) (a : Nat → Nat) (c : Nat → ClassId) (sz : Nat) (n : Nat) (p0 : Int32) (S : St) (post : Int32 → St → Prop) (h : PX6_drop n p0 S post) : Met l yX6_drop wsX6_drop ({ frames := 1, cells := 0, slots := 0, locals := 22 }) (va_Pc [.ref (a 0), .int p0] (gP D (mw a c) (mty c) mns S sz)) (va_Qi post (gB D (mw a c)) (va_A (mw a c S) sz)) 0 0 (va_A (mw a c S) sz) := by
  refine Met.ofW (cc := cX6_drop) (maxL := 3) (ret := (some .boolean)) (by decide) rfl ?_
  intro p e s m args below meth c9 s₁ B hml hv
  obtain ⟨rfl, hsz, hP, hK, hD0, hN⟩ := hv
  have hx := B.exec
  have hb := B.bytes
  have hr := B.returns
  have hts := atoms_spec (ws := wsX6_drop) B.pre
  have hown : s.vm.findClass RX6 = some m.cls := findClass_of_methodNamed B.named
  have hlocks := B.notSynchronized
  subst hsz
  have hD1 := hD0.self (sz := s.heap.size)
  generalize hAe : va_A (mw a c S) s.heap.size = A at hD1 ⊢
  have hA : ∀ q : Nat, s.heap.size ≤ q → A q := fun q h => by rw [← hAe]; exact Or.inr h
  have hD : ∀ S2 : St, va_D A (mw a c S2) := gD mw_F hD1
  have hS : va_S A s.heap s.heap [] := va_S.rf
  have hinX6 : ∀ w ∈ wsX60, w ∈ wsX6_drop := by decide +kernel
  have kf25 := hts (.fieldLink RX6 25 "CanteenPlanModel" "isThere" "[Z") (by decide +kernel)
  have kf60 := hts (.fieldLink RX6 60 "CanteenPlanModel" "thrown" "I") (by decide +kernel)
  have kf77 := hts (.fieldLink RX6 77 "CanteenPlanModel" "days" "I") (by decide +kernel)
  have hl := lv_entry ([.ref (a 0), .int p0]) (n := 3) (Nat.le_of_ble_eq_true rfl)
  rw [lg_entry_eq]
  generalize (lg_sl ([.ref (a 0), .int p0]) ++ List.replicate (3 - (lg_sl ([.ref (a 0), .int p0])).length) Slot.unset).toArray = ls at hl ⊢
  have hl : lv_has ls 3 [(0, .ref (a 0)), (1, .int p0)] := hl
  have key : ∀ n : Nat, (∀ (xl1 : Int32) (xs0 : Int32) (S : St) (H : Heap) (locs : List Loc) (ls : Array Slot), LX6_drop post n xl1 xs0 S → va_P D vwCl (mw a c S) H → va_S A s.heap H locs → lv_has ls 3 [(0, .ref (a 0)), (1, .int xl1)] → W p l e ((headSpec wsX6_drop ({ frames := 1, cells := 0, slots := 0, locals := 22 })).room) s m ([.ref (a 0), .int p0]).toArray below meth c9 H locs 0 0 (MQ below (va_Qi post (gB D (mw a c)) A) ([.ref (a 0), .int p0]).toArray s 0 0 A) (F0 m 23 ls [.int xs0, .ref (a 0)])) := by
    intro n
    induction n with
    | zero => exact fun xl1 xs0 S H locs ls h => h.elim
    | succ n ih =>
      intro xl1 xs0 S H locs ls h hP hS hl
      have h : BX6_drop_0 (LX6_drop post n) post xl1 xs0 S := h
      unfold BX6_drop_0 at h
      refine lv_iconst (v := 1) hx hb dX6_drop_23 (by decide) ?_
      refine k_i (k_runV mns_ok ⟨hx, hb, hml, hown, hts⟩ (tX6_bad l D a c _ xs0 1 S _ h) (cwV 2 hts gX6_drop_X6_bad rfl rfl rfl (by decide +kernel) ⟨Nat.le_of_ble_eq_true rfl, Nat.le_of_ble_eq_true rfl⟩) (va_recv hK hP (ci := 6) (q0 := 0) rfl rfl) hP hK (hD S) hN rfl rfl hl.1 rfl (lv_room (Nat.le_of_ble_eq_true rfl)) dX6_drop_24 ⟨Nat.le_of_ble_eq_true rfl, Nat.le_of_ble_eq_true rfl⟩) hS (hD S) hA (fun x5 S4 H locs h hP hS => ?_)
      refine lv_if_eq (tgt := 32) hx hb dX6_drop_27 (by decide) (fun c6 => ?_) (fun c6 => ?_)
      · have h := h.1 c6
        refine lv_aload_n hx hb dX6_drop_32 rfl (lv_at hl 0 rfl) ?_
        refine va_get (D := D) (ci := 6) (v := .ref (a 6)) (C := RX6) (T := TX6) (N := 36) hx hb hts hinX6 hown hK hP 0 rfl rfl 7 (by decide) kf25 (fun _ h9 => h9) rfl dX6_drop_33 ?_
        refine lv_iload_n hx hb dX6_drop_36 rfl (lv_at hl 1 rfl) ?_
        obtain ⟨b7, h⟩ := h
        refine va_zald hx hb hK hP 6 5 rfl rfl b7 dX6_drop_37 ?_
        refine lv_topi (fun x8 ex8 => ?_)
        have h := h x8 ex8
        refine lv_istore_n (lv' := [(2, .int x8), (0, .ref (a 0)), (1, .int xl1)]) hx hb dX6_drop_38 rfl hl (by decide) rfl (fun ls hl => ?_)
        refine lv_aload_n hx hb dX6_drop_39 rfl (lv_at hl 1 rfl) ?_
        refine va_get (D := D) (ci := 6) (v := .ref (a 6)) (C := RX6) (T := TX6) (N := 36) hx hb hts hinX6 hown hK hP 0 rfl rfl 7 (by decide) kf25 (fun _ h9 => h9) rfl dX6_drop_40 ?_
        refine lv_iload_n hx hb dX6_drop_43 rfl (lv_at hl 2 rfl) ?_
        refine lv_iconst (v := 0) hx hb dX6_drop_44 (by decide) ?_
        obtain ⟨b9, h⟩ := h
        refine va_zast hx hb hK hP (hD S4) hS 6 5 rfl rfl b9 dX6_drop_45 (fun H locs hP _ hS => ?_)
        obtain ⟨S10, eS10⟩ : ∃ z : St, z = sR S4 5 (upd (S4.2.2 5) xl1.toNatClampNeg (vp_nar .boolean 0)) := ⟨_, rfl⟩
        have hP : va_P D vwCl (mw a c S10) H := by rw [eS10]; exact hP
        have h := h S10 eS10
        refine lv_iload_n hx hb dX6_drop_46 rfl (lv_at hl 0 rfl) ?_
        exact g_retz hx hb hr hlocks h.1 h.2 hP hS dX6_drop_47
      · have h := h.2 c6
        refine lv_iconst (v := 0) hx hb dX6_drop_30 (by decide) ?_
        exact g_retz hx hb hr hlocks (Or.inl rfl) h hP hS dX6_drop_31
  unfold PX6_drop at h
  refine lv_aload_n hx hb dX6_drop_0 rfl (lv_at hl 0 rfl) ?_
  refine lv_iconst (v := 0) hx hb dX6_drop_1 (by decide) ?_
  refine va_put (D := D) (ci := 6) (v := .int 0) (ty := .int) (C := RX6) (T := TX6) (N := 36) hx hb hts hinX6 tyX6 tyX6_ok nmX6 hown hK hP (hD S) hS 0 rfl rfl 0 (by decide) kf60 (fun _ h9 => h9) rfl (by decide +kernel) rfl rfl (Nat.le_of_ble_eq_true rfl) dX6_drop_2 (fun H locs hP _ hS => ?_)
  obtain ⟨S1, eS1⟩ : ∃ z : St, z = sI S 0 0 := ⟨_, rfl⟩
  have hP : va_P D vwCl (mw a c S1) H := by rw [eS1]; exact hP
  have h := h S1 eS1
  refine lv_aload_n hx hb dX6_drop_5 rfl (lv_at hl 0 rfl) ?_
  refine lv_iload_n hx hb dX6_drop_6 rfl (lv_at hl 1 rfl) ?_
  refine lv_if_lt (tgt := 18) hx hb dX6_drop_7 (by decide) (fun c2 => ?_) (fun c2 => ?_)
  · have h := h.1 c2
    refine lv_iconst (v := 1) hx hb dX6_drop_18 (by decide) ?_
    refine lv_goto (tgt := 23) hx hb dX6_drop_19 (by decide) ?_
    exact (key n) p0 1 S1 _ _ _ h hP hS (lv_sub hl [0, 1] rfl)
  · have h := h.2 c2
    refine lv_iload_n hx hb dX6_drop_10 rfl (lv_at hl 1 rfl) ?_
    refine lv_aload_n hx hb dX6_drop_11 rfl (lv_at hl 0 rfl) ?_
    refine va_get (D := D) (ci := 6) (v := .int (S1.1 2)) (C := RX6) (T := TX6) (N := 36) hx hb hts hinX6 hown hK hP 0 rfl rfl 8 (by decide) kf77 (fun _ h9 => h9) rfl dX6_drop_12 ?_
    refine lv_icmp_lt (tgt := 22) hx hb dX6_drop_15 (by decide) (fun c3 => ?_) (fun c3 => ?_)
    · have h := h.1 c3
      refine lv_iconst (v := 0) hx hb dX6_drop_22 (by decide) ?_
      exact (key n) p0 0 S1 _ _ _ h hP hS (lv_sub hl [0, 1] rfl)
    · have h := h.2 c3
      refine lv_iconst (v := 1) hx hb dX6_drop_18 (by decide) ?_
      refine lv_goto (tgt := 23) hx hb dX6_drop_19 (by decide) ?_
      exact (key n) p0 1 S1 _ _ _ h hP hS (lv_sub hl [0, 1] rfl)
def BX6_counts_0 (X : Int32 → Int32 → Int32 → Int32 → Int32 → St → Prop) (post : St → Prop) (xl1 : Int32) (xl2 : Int32) (xl3 : Int32) (xl4 : Int32) (xl5 : Int32) (S : St) : Prop := (((S.1 2) ≤ xl5 → post S) ∧ (¬ (S.1 2) ≤ xl5 → (vp_in xl5 150 ∧ (((S.2.2 5 xl5.toNatClampNeg) = 0 → ∀ x8 : Int32, x8 = xl5 + 1 → X xl1 xl2 xl3 xl4 x8 S) ∧ (¬ (S.2.2 5 xl5.toNatClampNeg) = 0 → (vp_in xl5 150 ∧ ((((S.2.2 3 xl5.toNatClampNeg) &&& xl2) = xl3 → (vp_in ((6 * xl5) + xl1) 900 ∧ ∀ x12 : Int32, x12 = (S.2.2 4 ((6 * xl5) + xl1).toNatClampNeg) → ∀ S13 : St, S13 = sI S 4 ((S.1 4) + 1) → ∀ S14 : St, S14 = sJ S13 1 ((S13.2.1 1) + x12.toInt64) → (vp_in xl5 150 ∧ (((((S14.2.2 3 xl5.toNatClampNeg) >>> (xl4 &&& 31)) &&& 1) = 0 → ∀ x20 : Int32, x20 = xl5 + 1 → X xl1 xl2 xl3 xl4 x20 S14) ∧ (¬ (((S14.2.2 3 xl5.toNatClampNeg) >>> (xl4 &&& 31)) &&& 1) = 0 → ∀ S17 : St, S17 = sI S14 3 ((S14.1 3) + 1) → ∀ S18 : St, S18 = sJ S17 0 ((S17.2.1 0) + x12.toInt64) → ∀ x19 : Int32, x19 = xl5 + 1 → X xl1 xl2 xl3 xl4 x19 S18))))) ∧ (¬ ((S.2.2 3 xl5.toNatClampNeg) &&& xl2) = xl3 → ∀ x21 : Int32, x21 = xl5 + 1 → X xl1 xl2 xl3 xl4 x21 S))))))))
def LX6_counts (post : St → Prop) : Nat → Int32 → Int32 → Int32 → Int32 → Int32 → St → Prop
  | 0, _, _, _, _, _, _ => False
  | n + 1, xl1, xl2, xl3, xl4, xl5, S => BX6_counts_0 (LX6_counts post n) post xl1 xl2 xl3 xl4 xl5 S
def PX6_counts (n : Nat) (p0 : Int32) (p1 : Int32) (p2 : Int32) (p3 : Int32) (S : St) (post : St → Prop) : Prop := ∀ S1 : St, S1 = sI S 3 0 → ∀ S2 : St, S2 = sI S1 4 0 → ∀ S3 : St, S3 = sJ S2 0 0 → ∀ S4 : St, S4 = sJ S3 1 0 → LX6_counts post n p0 p1 p2 p3 0 S4
set_option maxHeartbeats 4000000 in
set_option maxRecDepth 100000 in
theorem tX6_counts (l : Launch) (D : va_G) (a : Nat → Nat) (c : Nat → ClassId) (sz : Nat) (n : Nat) (p0 : Int32) (p1 : Int32) (p2 : Int32) (p3 : Int32) (S : St) (post : St → Prop) (h : PX6_counts n p0 p1 p2 p3 S post) : Met l yX6_counts wsX6_counts ({ frames := 0, cells := 0, slots := 0, locals := 0 }) (va_Pc [.ref (a 0), .int p0, .int p1, .int p2, .int p3] (gP D (mw a c) (mty c) mns S sz)) (va_Qv post (gB D (mw a c)) (va_A (mw a c S) sz)) 0 0 (va_A (mw a c S) sz) := by
  refine Met.ofW (cc := cX6_counts) (maxL := 7) (ret := none) (by decide) rfl ?_
  intro p e s m args below meth c9 s₁ B hml hv
  obtain ⟨rfl, hsz, hP, hK, hD0, hN⟩ := hv
  have hx := B.exec
  have hb := B.bytes
  have hr := B.returns
  have hts := atoms_spec (ws := wsX6_counts) B.pre
  have hown : s.vm.findClass RX6 = some m.cls := findClass_of_methodNamed B.named
  have hlocks := B.notSynchronized
  subst hsz
  have hD1 := hD0.self (sz := s.heap.size)
  generalize hAe : va_A (mw a c S) s.heap.size = A at hD1 ⊢
  have hA : ∀ q : Nat, s.heap.size ≤ q → A q := fun q h => by rw [← hAe]; exact Or.inr h
  have hD : ∀ S2 : St, va_D A (mw a c S2) := gD mw_F hD1
  have hS : va_S A s.heap s.heap [] := va_S.rf
  have hinX6 : ∀ w ∈ wsX60, w ∈ wsX6_counts := by decide +kernel
  have kf19 := hts (.fieldLink RX6 19 "CanteenPlanModel" "marks" "[I") (by decide +kernel)
  have kf22 := hts (.fieldLink RX6 22 "CanteenPlanModel" "eaten" "[I") (by decide +kernel)
  have kf25 := hts (.fieldLink RX6 25 "CanteenPlanModel" "isThere" "[Z") (by decide +kernel)
  have kf77 := hts (.fieldLink RX6 77 "CanteenPlanModel" "days" "I") (by decide +kernel)
  have kf80 := hts (.fieldLink RX6 80 "CanteenPlanModel" "hasMany" "I") (by decide +kernel)
  have kf83 := hts (.fieldLink RX6 83 "CanteenPlanModel" "allMany" "I") (by decide +kernel)
  have kf86 := hts (.fieldLink RX6 86 "CanteenPlanModel" "hasSum" "J") (by decide +kernel)
  have kf90 := hts (.fieldLink RX6 90 "CanteenPlanModel" "allSum" "J") (by decide +kernel)
  have hl := lv_entry ([.ref (a 0), .int p0, .int p1, .int p2, .int p3]) (n := 7) (Nat.le_of_ble_eq_true rfl)
  rw [lg_entry_eq]
  generalize (lg_sl ([.ref (a 0), .int p0, .int p1, .int p2, .int p3]) ++ List.replicate (7 - (lg_sl ([.ref (a 0), .int p0, .int p1, .int p2, .int p3])).length) Slot.unset).toArray = ls at hl ⊢
  have hl : lv_has ls 7 [(0, .ref (a 0)), (1, .int p0), (2, .int p1), (3, .int p2), (4, .int p3)] := hl
  have key : ∀ n : Nat, (∀ (xl1 : Int32) (xl2 : Int32) (xl3 : Int32) (xl4 : Int32) (xl5 : Int32) (S : St) (H : Heap) (locs : List Loc) (ls : Array Slot), LX6_counts post n xl1 xl2 xl3 xl4 xl5 S → va_P D vwCl (mw a c S) H → va_S A s.heap H locs → lv_has ls 7 [(0, .ref (a 0)), (1, .int xl1), (2, .int xl2), (3, .int xl3), (4, .int xl4), (5, .int xl5)] → W p l e ((headSpec wsX6_counts ({ frames := 0, cells := 0, slots := 0, locals := 0 })).room) s m ([.ref (a 0), .int p0, .int p1, .int p2, .int p3]).toArray below meth c9 H locs 0 0 (MQ below (va_Qv post (gB D (mw a c)) A) ([.ref (a 0), .int p0, .int p1, .int p2, .int p3]).toArray s 0 0 A) (F0 m 23 ls [])) := by
    intro n
    induction n with
    | zero => exact fun xl1 xl2 xl3 xl4 xl5 S H locs ls h => h.elim
    | succ n ih =>
      intro xl1 xl2 xl3 xl4 xl5 S H locs ls h hP hS hl
      have h : BX6_counts_0 (LX6_counts post n) post xl1 xl2 xl3 xl4 xl5 S := h
      unfold BX6_counts_0 at h
      refine lv_iload hx hb dX6_counts_23 (lv_at hl 5 rfl) ?_
      refine lv_aload_n hx hb dX6_counts_25 rfl (lv_at hl 0 rfl) ?_
      refine va_get (D := D) (ci := 6) (v := .int (S.1 2)) (C := RX6) (T := TX6) (N := 36) hx hb hts hinX6 hown hK hP 0 rfl rfl 8 (by decide) kf77 (fun _ h9 => h9) rfl dX6_counts_26 ?_
      refine lv_icmp_ge (tgt := 140) hx hb dX6_counts_29 (by decide) (fun c5 => ?_) (fun c5 => ?_)
      · have h := h.1 c5
        exact g_retv hx hb hr hlocks h hP hS dX6_counts_140
      · have h := h.2 c5
        refine lv_aload_n hx hb dX6_counts_32 rfl (lv_at hl 0 rfl) ?_
        refine va_get (D := D) (ci := 6) (v := .ref (a 6)) (C := RX6) (T := TX6) (N := 36) hx hb hts hinX6 hown hK hP 0 rfl rfl 7 (by decide) kf25 (fun _ h9 => h9) rfl dX6_counts_33 ?_
        refine lv_iload hx hb dX6_counts_36 (lv_at hl 5 rfl) ?_
        obtain ⟨b6, h⟩ := h
        refine va_zald hx hb hK hP 6 5 rfl rfl b6 dX6_counts_38 ?_
        refine lv_if_eq (tgt := 134) hx hb dX6_counts_39 (by decide) (fun c7 => ?_) (fun c7 => ?_)
        · have h := h.1 c7
          obtain ⟨x8, ex8⟩ : ∃ y : Int32, y = xl5 + 1 := ⟨_, rfl⟩
          have h := h x8 ex8
          refine lv_iinc (v := x8) (lv' := [(5, .int x8), (0, .ref (a 0)), (1, .int xl1), (2, .int xl2), (3, .int xl3), (4, .int xl4)]) hx hb dX6_counts_134 hl (k := 5) rfl (by rw [ex8]; rfl) (by decide) rfl (fun ls hl => ?_)
          refine lv_goto (tgt := 23) hx hb dX6_counts_137 (by decide) ?_
          exact (ih) xl1 xl2 xl3 xl4 x8 S _ _ _ h hP hS (lv_sub hl [1, 2, 3, 4, 5, 0] rfl)
        · have h := h.2 c7
          refine lv_aload_n hx hb dX6_counts_42 rfl (lv_at hl 0 rfl) ?_
          refine va_get (D := D) (ci := 6) (v := .ref (a 4)) (C := RX6) (T := TX6) (N := 36) hx hb hts hinX6 hown hK hP 0 rfl rfl 5 (by decide) kf19 (fun _ h9 => h9) rfl dX6_counts_43 ?_
          refine lv_iload hx hb dX6_counts_46 (lv_at hl 5 rfl) ?_
          obtain ⟨b9, h⟩ := h
          refine va_iald hx hb hK hP 4 3 rfl rfl b9 dX6_counts_48 ?_
          refine lv_iload_n hx hb dX6_counts_49 rfl (lv_at hl 2 rfl) ?_
          refine lv_iand hx hb dX6_counts_50 ?_
          refine lv_iload_n hx hb dX6_counts_51 rfl (lv_at hl 3 rfl) ?_
          refine lv_icmp_eq (tgt := 58) hx hb dX6_counts_52 (by decide) (fun c10 => ?_) (fun c10 => ?_)
          · have h := h.1 c10
            refine lv_aload_n hx hb dX6_counts_58 rfl (lv_at hl 0 rfl) ?_
            refine va_get (D := D) (ci := 6) (v := .ref (a 5)) (C := RX6) (T := TX6) (N := 36) hx hb hts hinX6 hown hK hP 0 rfl rfl 6 (by decide) kf22 (fun _ h9 => h9) rfl dX6_counts_59 ?_
            refine lv_bipush (v := 6) hx hb dX6_counts_62 (by decide) ?_
            refine lv_iload hx hb dX6_counts_64 (lv_at hl 5 rfl) ?_
            refine lv_imul hx hb dX6_counts_66 ?_
            refine lv_iload_n hx hb dX6_counts_67 rfl (lv_at hl 1 rfl) ?_
            refine lv_iadd hx hb dX6_counts_68 ?_
            obtain ⟨b11, h⟩ := h
            refine va_iald hx hb hK hP 5 4 rfl rfl b11 dX6_counts_69 ?_
            refine lv_topi (fun x12 ex12 => ?_)
            have h := h x12 ex12
            refine lv_istore (lv' := [(6, .int x12), (0, .ref (a 0)), (1, .int xl1), (2, .int xl2), (3, .int xl3), (4, .int xl4), (5, .int xl5)]) hx hb dX6_counts_70 hl (by decide) rfl (fun ls hl => ?_)
            refine lv_aload_n hx hb dX6_counts_72 rfl (lv_at hl 1 rfl) ?_
            refine lv_dup hx hb dX6_counts_73 rfl ?_
            refine va_get (D := D) (ci := 6) (v := .int (S.1 4)) (C := RX6) (T := TX6) (N := 36) hx hb hts hinX6 hown hK hP 0 rfl rfl 10 (by decide) kf83 (fun _ h9 => h9) rfl dX6_counts_74 ?_
            refine lv_iconst (v := 1) hx hb dX6_counts_77 (by decide) ?_
            refine lv_iadd hx hb dX6_counts_78 ?_
            refine va_put (D := D) (ci := 6) (v := .int ((S.1 4) + 1)) (ty := .int) (C := RX6) (T := TX6) (N := 36) hx hb hts hinX6 tyX6 tyX6_ok nmX6 hown hK hP (hD S) hS 0 rfl rfl 10 (by decide) kf83 (fun _ h9 => h9) rfl (by decide +kernel) rfl rfl (Nat.le_of_ble_eq_true rfl) dX6_counts_79 (fun H locs hP _ hS => ?_)
            obtain ⟨S13, eS13⟩ : ∃ z : St, z = sI S 4 ((S.1 4) + 1) := ⟨_, rfl⟩
            have hP : va_P D vwCl (mw a c S13) H := by rw [eS13]; exact hP
            have h := h S13 eS13
            refine lv_aload_n hx hb dX6_counts_82 rfl (lv_at hl 1 rfl) ?_
            refine lv_dup hx hb dX6_counts_83 rfl ?_
            refine va_get (D := D) (ci := 6) (v := .long (S13.2.1 1)) (C := RX6) (T := TX6) (N := 36) hx hb hts hinX6 hown hK hP 0 rfl rfl 12 (by decide) kf90 (fun _ h9 => h9) rfl dX6_counts_84 ?_
            refine lv_iload hx hb dX6_counts_87 (lv_at hl 0 rfl) ?_
            refine lv_i2l hx hb dX6_counts_89 rfl ?_
            refine lv_ladd hx hb dX6_counts_90 ?_
            refine va_put (D := D) (ci := 6) (v := .long ((S13.2.1 1) + x12.toInt64)) (ty := .long) (C := RX6) (T := TX6) (N := 36) hx hb hts hinX6 tyX6 tyX6_ok nmX6 hown hK hP (hD S13) hS 0 rfl rfl 12 (by decide) kf90 (fun _ h9 => h9) rfl (by decide +kernel) rfl rfl (Nat.le_of_ble_eq_true rfl) dX6_counts_91 (fun H locs hP _ hS => ?_)
            obtain ⟨S14, eS14⟩ : ∃ z : St, z = sJ S13 1 ((S13.2.1 1) + x12.toInt64) := ⟨_, rfl⟩
            have hP : va_P D vwCl (mw a c S14) H := by rw [eS14]; exact hP
            have h := h S14 eS14
            refine lv_aload_n hx hb dX6_counts_94 rfl (lv_at hl 1 rfl) ?_
            refine va_get (D := D) (ci := 6) (v := .ref (a 4)) (C := RX6) (T := TX6) (N := 36) hx hb hts hinX6 hown hK hP 0 rfl rfl 5 (by decide) kf19 (fun _ h9 => h9) rfl dX6_counts_95 ?_
            refine lv_iload hx hb dX6_counts_98 (lv_at hl 6 rfl) ?_
            obtain ⟨b15, h⟩ := h
            refine va_iald hx hb hK hP 4 3 rfl rfl b15 dX6_counts_100 ?_
            refine lv_iload hx hb dX6_counts_101 (lv_at hl 5 rfl) ?_
            refine lv_ishr hx hb dX6_counts_103 ?_
            refine lv_iconst (v := 1) hx hb dX6_counts_104 (by decide) ?_
            refine lv_iand hx hb dX6_counts_105 ?_
            refine lv_if_ne (tgt := 112) hx hb dX6_counts_106 (by decide) (fun c16 => ?_) (fun c16 => ?_)
            · have h := h.2 c16
              refine lv_aload_n hx hb dX6_counts_112 rfl (lv_at hl 1 rfl) ?_
              refine lv_dup hx hb dX6_counts_113 rfl ?_
              refine va_get (D := D) (ci := 6) (v := .int (S14.1 3)) (C := RX6) (T := TX6) (N := 36) hx hb hts hinX6 hown hK hP 0 rfl rfl 9 (by decide) kf80 (fun _ h9 => h9) rfl dX6_counts_114 ?_
              refine lv_iconst (v := 1) hx hb dX6_counts_117 (by decide) ?_
              refine lv_iadd hx hb dX6_counts_118 ?_
              refine va_put (D := D) (ci := 6) (v := .int ((S14.1 3) + 1)) (ty := .int) (C := RX6) (T := TX6) (N := 36) hx hb hts hinX6 tyX6 tyX6_ok nmX6 hown hK hP (hD S14) hS 0 rfl rfl 9 (by decide) kf80 (fun _ h9 => h9) rfl (by decide +kernel) rfl rfl (Nat.le_of_ble_eq_true rfl) dX6_counts_119 (fun H locs hP _ hS => ?_)
              obtain ⟨S17, eS17⟩ : ∃ z : St, z = sI S14 3 ((S14.1 3) + 1) := ⟨_, rfl⟩
              have hP : va_P D vwCl (mw a c S17) H := by rw [eS17]; exact hP
              have h := h S17 eS17
              refine lv_aload_n hx hb dX6_counts_122 rfl (lv_at hl 1 rfl) ?_
              refine lv_dup hx hb dX6_counts_123 rfl ?_
              refine va_get (D := D) (ci := 6) (v := .long (S17.2.1 0)) (C := RX6) (T := TX6) (N := 36) hx hb hts hinX6 hown hK hP 0 rfl rfl 11 (by decide) kf86 (fun _ h9 => h9) rfl dX6_counts_124 ?_
              refine lv_iload hx hb dX6_counts_127 (lv_at hl 0 rfl) ?_
              refine lv_i2l hx hb dX6_counts_129 rfl ?_
              refine lv_ladd hx hb dX6_counts_130 ?_
              refine va_put (D := D) (ci := 6) (v := .long ((S17.2.1 0) + x12.toInt64)) (ty := .long) (C := RX6) (T := TX6) (N := 36) hx hb hts hinX6 tyX6 tyX6_ok nmX6 hown hK hP (hD S17) hS 0 rfl rfl 11 (by decide) kf86 (fun _ h9 => h9) rfl (by decide +kernel) rfl rfl (Nat.le_of_ble_eq_true rfl) dX6_counts_131 (fun H locs hP _ hS => ?_)
              obtain ⟨S18, eS18⟩ : ∃ z : St, z = sJ S17 0 ((S17.2.1 0) + x12.toInt64) := ⟨_, rfl⟩
              have hP : va_P D vwCl (mw a c S18) H := by rw [eS18]; exact hP
              have h := h S18 eS18
              obtain ⟨x19, ex19⟩ : ∃ y : Int32, y = xl5 + 1 := ⟨_, rfl⟩
              have h := h x19 ex19
              refine lv_iinc (v := x19) (lv' := [(5, .int x19), (6, .int x12), (0, .ref (a 0)), (1, .int xl1), (2, .int xl2), (3, .int xl3), (4, .int xl4)]) hx hb dX6_counts_134 hl (k := 6) rfl (by rw [ex19]; rfl) (by decide) rfl (fun ls hl => ?_)
              refine lv_goto (tgt := 23) hx hb dX6_counts_137 (by decide) ?_
              exact (ih) xl1 xl2 xl3 xl4 x19 S18 _ _ _ h hP hS (lv_sub hl [2, 3, 4, 5, 6, 0] rfl)
            · have h := h.1 c16
              refine lv_goto (tgt := 134) hx hb dX6_counts_109 (by decide) ?_
              obtain ⟨x20, ex20⟩ : ∃ y : Int32, y = xl5 + 1 := ⟨_, rfl⟩
              have h := h x20 ex20
              refine lv_iinc (v := x20) (lv' := [(5, .int x20), (6, .int x12), (0, .ref (a 0)), (1, .int xl1), (2, .int xl2), (3, .int xl3), (4, .int xl4)]) hx hb dX6_counts_134 hl (k := 6) rfl (by rw [ex20]; rfl) (by decide) rfl (fun ls hl => ?_)
              refine lv_goto (tgt := 23) hx hb dX6_counts_137 (by decide) ?_
              exact (ih) xl1 xl2 xl3 xl4 x20 S14 _ _ _ h hP hS (lv_sub hl [2, 3, 4, 5, 6, 0] rfl)
          · have h := h.2 c10
            refine lv_goto (tgt := 134) hx hb dX6_counts_55 (by decide) ?_
            obtain ⟨x21, ex21⟩ : ∃ y : Int32, y = xl5 + 1 := ⟨_, rfl⟩
            have h := h x21 ex21
            refine lv_iinc (v := x21) (lv' := [(5, .int x21), (0, .ref (a 0)), (1, .int xl1), (2, .int xl2), (3, .int xl3), (4, .int xl4)]) hx hb dX6_counts_134 hl (k := 5) rfl (by rw [ex21]; rfl) (by decide) rfl (fun ls hl => ?_)
            refine lv_goto (tgt := 23) hx hb dX6_counts_137 (by decide) ?_
            exact (ih) xl1 xl2 xl3 xl4 x21 S _ _ _ h hP hS (lv_sub hl [1, 2, 3, 4, 5, 0] rfl)
  unfold PX6_counts at h
  refine lv_aload_n hx hb dX6_counts_0 rfl (lv_at hl 0 rfl) ?_
  refine lv_iconst (v := 0) hx hb dX6_counts_1 (by decide) ?_
  refine va_put (D := D) (ci := 6) (v := .int 0) (ty := .int) (C := RX6) (T := TX6) (N := 36) hx hb hts hinX6 tyX6 tyX6_ok nmX6 hown hK hP (hD S) hS 0 rfl rfl 9 (by decide) kf80 (fun _ h9 => h9) rfl (by decide +kernel) rfl rfl (Nat.le_of_ble_eq_true rfl) dX6_counts_2 (fun H locs hP _ hS => ?_)
  obtain ⟨S1, eS1⟩ : ∃ z : St, z = sI S 3 0 := ⟨_, rfl⟩
  have hP : va_P D vwCl (mw a c S1) H := by rw [eS1]; exact hP
  have h := h S1 eS1
  refine lv_aload_n hx hb dX6_counts_5 rfl (lv_at hl 0 rfl) ?_
  refine lv_iconst (v := 0) hx hb dX6_counts_6 (by decide) ?_
  refine va_put (D := D) (ci := 6) (v := .int 0) (ty := .int) (C := RX6) (T := TX6) (N := 36) hx hb hts hinX6 tyX6 tyX6_ok nmX6 hown hK hP (hD S1) hS 0 rfl rfl 10 (by decide) kf83 (fun _ h9 => h9) rfl (by decide +kernel) rfl rfl (Nat.le_of_ble_eq_true rfl) dX6_counts_7 (fun H locs hP _ hS => ?_)
  obtain ⟨S2, eS2⟩ : ∃ z : St, z = sI S1 4 0 := ⟨_, rfl⟩
  have hP : va_P D vwCl (mw a c S2) H := by rw [eS2]; exact hP
  have h := h S2 eS2
  refine lv_aload_n hx hb dX6_counts_10 rfl (lv_at hl 0 rfl) ?_
  refine lv_lconst (v := 0) hx hb dX6_counts_11 (by decide) ?_
  refine va_put (D := D) (ci := 6) (v := .long 0) (ty := .long) (C := RX6) (T := TX6) (N := 36) hx hb hts hinX6 tyX6 tyX6_ok nmX6 hown hK hP (hD S2) hS 0 rfl rfl 11 (by decide) kf86 (fun _ h9 => h9) rfl (by decide +kernel) rfl rfl (Nat.le_of_ble_eq_true rfl) dX6_counts_12 (fun H locs hP _ hS => ?_)
  obtain ⟨S3, eS3⟩ : ∃ z : St, z = sJ S2 0 0 := ⟨_, rfl⟩
  have hP : va_P D vwCl (mw a c S3) H := by rw [eS3]; exact hP
  have h := h S3 eS3
  refine lv_aload_n hx hb dX6_counts_15 rfl (lv_at hl 0 rfl) ?_
  refine lv_lconst (v := 0) hx hb dX6_counts_16 (by decide) ?_
  refine va_put (D := D) (ci := 6) (v := .long 0) (ty := .long) (C := RX6) (T := TX6) (N := 36) hx hb hts hinX6 tyX6 tyX6_ok nmX6 hown hK hP (hD S3) hS 0 rfl rfl 12 (by decide) kf90 (fun _ h9 => h9) rfl (by decide +kernel) rfl rfl (Nat.le_of_ble_eq_true rfl) dX6_counts_17 (fun H locs hP _ hS => ?_)
  obtain ⟨S4, eS4⟩ : ∃ z : St, z = sJ S3 1 0 := ⟨_, rfl⟩
  have hP : va_P D vwCl (mw a c S4) H := by rw [eS4]; exact hP
  have h := h S4 eS4
  refine lv_iconst (v := 0) hx hb dX6_counts_20 (by decide) ?_
  refine lv_istore (lv' := [(5, .int 0), (0, .ref (a 0)), (1, .int p0), (2, .int p1), (3, .int p2), (4, .int p3)]) hx hb dX6_counts_21 hl (by decide) rfl (fun ls hl => ?_)
  exact (key n) p0 p1 p2 p3 0 S4 _ _ _ h hP hS (lv_sub hl [1, 2, 3, 4, 5, 0] rfl)
def BX6_markOf_0 (X : Int32 → Int32 → Int32 → Int32 → Int32 → Int64 → Int64 → St → Prop) (post : Int32 → St → Prop) (xl1 : Int32) (xl10 : Int32) (xl2 : Int32) (xl3 : Int32) (xl5 : Int32) (yl6 : Int64) (yl8 : Int64) (S : St) : Prop := ((8 ≤ xl10 → post xl5 S) ∧ (¬ 8 ≤ xl10 → ((((xl2 >>> (xl10 &&& 31)) &&& 1) = 1 → ∀ x23 : Int32, x23 = xl10 + 1 → X xl1 x23 xl2 xl3 xl5 yl6 yl8 S) ∧ (¬ ((xl2 >>> (xl10 &&& 31)) &&& 1) = 1 → ∃ k : Nat, PX6_counts k xl1 xl2 xl3 xl10 S (fun S4 => ∀ y6 : Int64, y6 = (S4.1 3).toInt64 → ∀ y7 : Int64, y7 = ((S4.1 4) - (S4.1 3)).toInt64 → ∀ y8 : Int64, y8 = (S4.2.1 0) → ∀ y9 : Int64, y9 = ((S4.2.1 1) - (S4.2.1 0)) → (((lg_cmp y6 2) < 0 → ∀ x11 : Int32, x11 = xl10 + 1 → X xl1 x11 xl2 xl3 xl5 yl6 yl8 S4) ∧ (¬ (lg_cmp y6 2) < 0 → ((0 ≤ (lg_cmp y7 2) → ∀ y13 : Int64, y13 = (((y8 * y8) * y7) + ((y9 * y9) * y6)) → ∀ y14 : Int64, y14 = (y6 * y7) → ((0 < (lg_cmp (y13 * (y6 + y7)) (((S4.2.1 1) * (S4.2.1 1)) * y14)) → ((xl5 < 0 → ∀ x17 : Int32, x17 = xl10 + 1 → X xl1 x17 xl2 xl3 xl10 y13 y14 S4) ∧ (¬ xl5 < 0 → ((0 < (lg_cmp (y13 * yl8) (yl6 * y14)) → ∀ x19 : Int32, x19 = xl10 + 1 → X xl1 x19 xl2 xl3 xl10 y13 y14 S4) ∧ (¬ 0 < (lg_cmp (y13 * yl8) (yl6 * y14)) → ∀ x20 : Int32, x20 = xl10 + 1 → X xl1 x20 xl2 xl3 xl5 yl6 yl8 S4))))) ∧ (¬ 0 < (lg_cmp (y13 * (y6 + y7)) (((S4.2.1 1) * (S4.2.1 1)) * y14)) → ∀ x21 : Int32, x21 = xl10 + 1 → X xl1 x21 xl2 xl3 xl5 yl6 yl8 S4))) ∧ (¬ 0 ≤ (lg_cmp y7 2) → ∀ x22 : Int32, x22 = xl10 + 1 → X xl1 x22 xl2 xl3 xl5 yl6 yl8 S4)))))))))
def LX6_markOf (post : Int32 → St → Prop) : Nat → Int32 → Int32 → Int32 → Int32 → Int32 → Int64 → Int64 → St → Prop
  | 0, _, _, _, _, _, _, _, _ => False
  | n + 1, xl1, xl10, xl2, xl3, xl5, yl6, yl8, S => BX6_markOf_0 (LX6_markOf post n) post xl1 xl10 xl2 xl3 xl5 yl6 yl8 S
def PX6_markOf (n : Nat) (p0 : Int32) (p1 : Int32) (p2 : Int32) (p3 : Int32) (S : St) (post : Int32 → St → Prop) : Prop := ((p3 = 4 → post (-1) S) ∧ (¬ p3 = 4 → LX6_markOf post n p0 0 p1 p2 (-1) 0 1 S))
set_option maxHeartbeats 4000000 in
set_option maxRecDepth 100000 in
theorem tX6_markOf (l : Launch) (D : va_G) (a : Nat → Nat) (c : Nat → ClassId) (sz : Nat) (n : Nat) (p0 : Int32) (p1 : Int32) (p2 : Int32) (p3 : Int32) (S : St) (post : Int32 → St → Prop) (h : PX6_markOf n p0 p1 p2 p3 S post) : Met l yX6_markOf wsX6_markOf ({ frames := 1, cells := 0, slots := 0, locals := 26 }) (va_Pc [.ref (a 0), .int p0, .int p1, .int p2, .int p3] (gP D (mw a c) (mty c) mns S sz)) (va_Qi post (gB D (mw a c)) (va_A (mw a c S) sz)) 0 0 (va_A (mw a c S) sz) := by
  refine Met.ofW (cc := cX6_markOf) (maxL := 23) (ret := (some .int)) (by decide) rfl ?_
  intro p e s m args below meth c9 s₁ B hml hv
  obtain ⟨rfl, hsz, hP, hK, hD0, hN⟩ := hv
  have hx := B.exec
  have hb := B.bytes
  have hr := B.returns
  have hts := atoms_spec (ws := wsX6_markOf) B.pre
  have hown : s.vm.findClass RX6 = some m.cls := findClass_of_methodNamed B.named
  have hlocks := B.notSynchronized
  subst hsz
  have hD1 := hD0.self (sz := s.heap.size)
  generalize hAe : va_A (mw a c S) s.heap.size = A at hD1 ⊢
  have hA : ∀ q : Nat, s.heap.size ≤ q → A q := fun q h => by rw [← hAe]; exact Or.inr h
  have hD : ∀ S2 : St, va_D A (mw a c S2) := gD mw_F hD1
  have hS : va_S A s.heap s.heap [] := va_S.rf
  have hinX6 : ∀ w ∈ wsX60, w ∈ wsX6_markOf := by decide +kernel
  have kc97 := hts (.constantLong RX6 97 2) (by decide +kernel)
  have kf80 := hts (.fieldLink RX6 80 "CanteenPlanModel" "hasMany" "I") (by decide +kernel)
  have kf83 := hts (.fieldLink RX6 83 "CanteenPlanModel" "allMany" "I") (by decide +kernel)
  have kf86 := hts (.fieldLink RX6 86 "CanteenPlanModel" "hasSum" "J") (by decide +kernel)
  have kf90 := hts (.fieldLink RX6 90 "CanteenPlanModel" "allSum" "J") (by decide +kernel)
  have hl := lv_entry ([.ref (a 0), .int p0, .int p1, .int p2, .int p3]) (n := 23) (Nat.le_of_ble_eq_true rfl)
  rw [lg_entry_eq]
  generalize (lg_sl ([.ref (a 0), .int p0, .int p1, .int p2, .int p3]) ++ List.replicate (23 - (lg_sl ([.ref (a 0), .int p0, .int p1, .int p2, .int p3])).length) Slot.unset).toArray = ls at hl ⊢
  have hl : lv_has ls 23 [(0, .ref (a 0)), (1, .int p0), (2, .int p1), (3, .int p2), (4, .int p3)] := hl
  have key : ∀ n : Nat, (∀ (xl1 : Int32) (xl2 : Int32) (xl3 : Int32) (xl5 : Int32) (yl6 : Int64) (yl8 : Int64) (xl10 : Int32) (S : St) (H : Heap) (locs : List Loc) (ls : Array Slot), LX6_markOf post n xl1 xl10 xl2 xl3 xl5 yl6 yl8 S → va_P D vwCl (mw a c S) H → va_S A s.heap H locs → lv_has ls 23 [(0, .ref (a 0)), (1, .int xl1), (2, .int xl2), (3, .int xl3), (5, .int xl5), (6, .long yl6), (8, .long yl8), (10, .int xl10)] → W p l e ((headSpec wsX6_markOf ({ frames := 1, cells := 0, slots := 0, locals := 26 })).room) s m ([.ref (a 0), .int p0, .int p1, .int p2, .int p3]).toArray below meth c9 H locs 0 0 (MQ below (va_Qi post (gB D (mw a c)) A) ([.ref (a 0), .int p0, .int p1, .int p2, .int p3]).toArray s 0 0 A) (F0 m 20 ls [])) := by
    intro n
    induction n with
    | zero => exact fun xl1 xl2 xl3 xl5 yl6 yl8 xl10 S H locs ls h => h.elim
    | succ n ih =>
      intro xl1 xl2 xl3 xl5 yl6 yl8 xl10 S H locs ls h hP hS hl
      have h : BX6_markOf_0 (LX6_markOf post n) post xl1 xl10 xl2 xl3 xl5 yl6 yl8 S := h
      unfold BX6_markOf_0 at h
      refine lv_iload hx hb dX6_markOf_20 (lv_at hl 7 rfl) ?_
      refine lv_bipush (v := 8) hx hb dX6_markOf_22 (by decide) ?_
      refine lv_icmp_ge (tgt := 199) hx hb dX6_markOf_24 (by decide) (fun c2 => ?_) (fun c2 => ?_)
      · have h := h.1 c2
        refine lv_iload hx hb dX6_markOf_199 (lv_at hl 4 rfl) ?_
        exact g_reti hx hb hr hlocks h hP hS dX6_markOf_201
      · have h := h.2 c2
        refine lv_iload_n hx hb dX6_markOf_27 rfl (lv_at hl 2 rfl) ?_
        refine lv_iload hx hb dX6_markOf_28 (lv_at hl 7 rfl) ?_
        refine lv_ishr hx hb dX6_markOf_30 ?_
        refine lv_iconst (v := 1) hx hb dX6_markOf_31 (by decide) ?_
        refine lv_iand hx hb dX6_markOf_32 ?_
        refine lv_iconst (v := 1) hx hb dX6_markOf_33 (by decide) ?_
        refine lv_icmp_ne (tgt := 40) hx hb dX6_markOf_34 (by decide) (fun c3 => ?_) (fun c3 => ?_)
        · have h := h.2 c3
          refine lv_aload_n hx hb dX6_markOf_40 rfl (lv_at hl 0 rfl) ?_
          refine lv_iload_n hx hb dX6_markOf_41 rfl (lv_at hl 1 rfl) ?_
          refine lv_iload_n hx hb dX6_markOf_42 rfl (lv_at hl 2 rfl) ?_
          refine lv_iload_n hx hb dX6_markOf_43 rfl (lv_at hl 3 rfl) ?_
          refine lv_iload hx hb dX6_markOf_44 (lv_at hl 7 rfl) ?_
          obtain ⟨k5, h⟩ := h
          refine k_v (k_runV mns_ok ⟨hx, hb, hml, hown, hts⟩ (tX6_counts l D a c _ k5 xl1 xl2 xl3 xl10 S _ h) (cwV 4 hts gX6_markOf_X6_counts rfl rfl rfl (by decide +kernel) ⟨Nat.le_of_ble_eq_true rfl, Nat.le_of_ble_eq_true rfl⟩) (va_recv hK hP (ci := 6) (q0 := 0) rfl rfl) hP hK (hD S) hN rfl rfl hl.1 rfl (lv_room (Nat.le_of_ble_eq_true rfl)) dX6_markOf_46 ⟨Nat.le_of_ble_eq_true rfl, Nat.le_of_ble_eq_true rfl⟩) hS (hD S) hA (fun S4 H locs h hP hS => ?_)
          refine lv_aload_n hx hb dX6_markOf_49 rfl (lv_at hl 0 rfl) ?_
          refine va_get (D := D) (ci := 6) (v := .int (S4.1 3)) (C := RX6) (T := TX6) (N := 36) hx hb hts hinX6 hown hK hP 0 rfl rfl 9 (by decide) kf80 (fun _ h9 => h9) rfl dX6_markOf_50 ?_
          refine lv_i2l hx hb dX6_markOf_53 rfl ?_
          refine lv_topl (fun y6 ey6 => ?_)
          have h := h y6 ey6
          refine lv_lstore (lv' := [(11, .long y6), (0, .ref (a 0)), (1, .int xl1), (2, .int xl2), (3, .int xl3), (5, .int xl5), (6, .long yl6), (8, .long yl8), (10, .int xl10)]) hx hb dX6_markOf_54 hl (by decide) rfl (fun ls hl => ?_)
          refine lv_aload_n hx hb dX6_markOf_56 rfl (lv_at hl 1 rfl) ?_
          refine va_get (D := D) (ci := 6) (v := .int (S4.1 4)) (C := RX6) (T := TX6) (N := 36) hx hb hts hinX6 hown hK hP 0 rfl rfl 10 (by decide) kf83 (fun _ h9 => h9) rfl dX6_markOf_57 ?_
          refine lv_aload_n hx hb dX6_markOf_60 rfl (lv_at hl 1 rfl) ?_
          refine va_get (D := D) (ci := 6) (v := .int (S4.1 3)) (C := RX6) (T := TX6) (N := 36) hx hb hts hinX6 hown hK hP 0 rfl rfl 9 (by decide) kf80 (fun _ h9 => h9) rfl dX6_markOf_61 ?_
          refine lv_isub hx hb dX6_markOf_64 ?_
          refine lv_i2l hx hb dX6_markOf_65 rfl ?_
          refine lv_topl (fun y7 ey7 => ?_)
          have h := h y7 ey7
          refine lv_lstore (lv' := [(13, .long y7), (11, .long y6), (0, .ref (a 0)), (1, .int xl1), (2, .int xl2), (3, .int xl3), (5, .int xl5), (6, .long yl6), (8, .long yl8), (10, .int xl10)]) hx hb dX6_markOf_66 hl (by decide) rfl (fun ls hl => ?_)
          refine lv_aload_n hx hb dX6_markOf_68 rfl (lv_at hl 2 rfl) ?_
          refine va_get (D := D) (ci := 6) (v := .long (S4.2.1 0)) (C := RX6) (T := TX6) (N := 36) hx hb hts hinX6 hown hK hP 0 rfl rfl 11 (by decide) kf86 (fun _ h9 => h9) rfl dX6_markOf_69 ?_
          refine lv_topl (fun y8 ey8 => ?_)
          have h := h y8 ey8
          refine lv_lstore (lv' := [(15, .long y8), (13, .long y7), (11, .long y6), (0, .ref (a 0)), (1, .int xl1), (2, .int xl2), (3, .int xl3), (5, .int xl5), (6, .long yl6), (8, .long yl8), (10, .int xl10)]) hx hb dX6_markOf_72 hl (by decide) rfl (fun ls hl => ?_)
          refine lv_aload_n hx hb dX6_markOf_74 rfl (lv_at hl 3 rfl) ?_
          refine va_get (D := D) (ci := 6) (v := .long (S4.2.1 1)) (C := RX6) (T := TX6) (N := 36) hx hb hts hinX6 hown hK hP 0 rfl rfl 12 (by decide) kf90 (fun _ h9 => h9) rfl dX6_markOf_75 ?_
          refine lv_aload_n hx hb dX6_markOf_78 rfl (lv_at hl 3 rfl) ?_
          refine va_get (D := D) (ci := 6) (v := .long (S4.2.1 0)) (C := RX6) (T := TX6) (N := 36) hx hb hts hinX6 hown hK hP 0 rfl rfl 11 (by decide) kf86 (fun _ h9 => h9) rfl dX6_markOf_79 ?_
          refine lv_lsub hx hb dX6_markOf_82 ?_
          refine lv_topl (fun y9 ey9 => ?_)
          have h := h y9 ey9
          refine lv_lstore (lv' := [(17, .long y9), (15, .long y8), (13, .long y7), (11, .long y6), (0, .ref (a 0)), (1, .int xl1), (2, .int xl2), (3, .int xl3), (5, .int xl5), (6, .long yl6), (8, .long yl8), (10, .int xl10)]) hx hb dX6_markOf_83 hl (by decide) rfl (fun ls hl => ?_)
          refine lv_lload hx hb dX6_markOf_85 (lv_at hl 3 rfl) ?_
          refine lv_ldc2 (v := 2) hx hb hown kc97 dX6_markOf_87 ?_
          refine W.lcmp hx hb dX6_markOf_90 ?_
          refine lv_if_lt (tgt := 193) hx hb dX6_markOf_91 (by decide) (fun c10 => ?_) (fun c10 => ?_)
          · have h := h.1 c10
            obtain ⟨x11, ex11⟩ : ∃ y : Int32, y = xl10 + 1 := ⟨_, rfl⟩
            have h := h x11 ex11
            refine lv_iinc (v := x11) (lv' := [(10, .int x11), (17, .long y9), (15, .long y8), (13, .long y7), (11, .long y6), (0, .ref (a 0)), (1, .int xl1), (2, .int xl2), (3, .int xl3), (5, .int xl5), (6, .long yl6), (8, .long yl8)]) hx hb dX6_markOf_193 hl (k := 11) rfl (by rw [ex11]; rfl) (by decide) rfl (fun ls hl => ?_)
            refine lv_goto (tgt := 20) hx hb dX6_markOf_196 (by decide) ?_
            exact (ih) xl1 xl2 xl3 xl5 yl6 yl8 x11 S4 _ _ _ h hP hS (lv_sub hl [5, 6, 7, 8, 9, 10, 11, 0] rfl)
          · have h := h.2 c10
            refine lv_lload hx hb dX6_markOf_94 (lv_at hl 2 rfl) ?_
            refine lv_ldc2 (v := 2) hx hb hown kc97 dX6_markOf_96 ?_
            refine W.lcmp hx hb dX6_markOf_99 ?_
            refine lv_if_ge (tgt := 106) hx hb dX6_markOf_100 (by decide) (fun c12 => ?_) (fun c12 => ?_)
            · have h := h.1 c12
              refine lv_lload hx hb dX6_markOf_106 (lv_at hl 1 rfl) ?_
              refine lv_lload hx hb dX6_markOf_108 (lv_at hl 1 rfl) ?_
              refine lv_lmul hx hb dX6_markOf_110 ?_
              refine lv_lload hx hb dX6_markOf_111 (lv_at hl 2 rfl) ?_
              refine lv_lmul hx hb dX6_markOf_113 ?_
              refine lv_lload hx hb dX6_markOf_114 (lv_at hl 0 rfl) ?_
              refine lv_lload hx hb dX6_markOf_116 (lv_at hl 0 rfl) ?_
              refine lv_lmul hx hb dX6_markOf_118 ?_
              refine lv_lload hx hb dX6_markOf_119 (lv_at hl 3 rfl) ?_
              refine lv_lmul hx hb dX6_markOf_121 ?_
              refine lv_ladd hx hb dX6_markOf_122 ?_
              refine lv_topl (fun y13 ey13 => ?_)
              have h := h y13 ey13
              refine lv_lstore (lv' := [(19, .long y13), (17, .long y9), (15, .long y8), (13, .long y7), (11, .long y6), (0, .ref (a 0)), (1, .int xl1), (2, .int xl2), (3, .int xl3), (5, .int xl5), (6, .long yl6), (8, .long yl8), (10, .int xl10)]) hx hb dX6_markOf_123 hl (by decide) rfl (fun ls hl => ?_)
              refine lv_lload hx hb dX6_markOf_125 (lv_at hl 4 rfl) ?_
              refine lv_lload hx hb dX6_markOf_127 (lv_at hl 3 rfl) ?_
              refine lv_lmul hx hb dX6_markOf_129 ?_
              refine lv_topl (fun y14 ey14 => ?_)
              have h := h y14 ey14
              refine lv_lstore (lv' := [(21, .long y14), (19, .long y13), (17, .long y9), (15, .long y8), (13, .long y7), (11, .long y6), (0, .ref (a 0)), (1, .int xl1), (2, .int xl2), (3, .int xl3), (5, .int xl5), (6, .long yl6), (8, .long yl8), (10, .int xl10)]) hx hb dX6_markOf_130 hl (by decide) rfl (fun ls hl => ?_)
              refine lv_lload hx hb dX6_markOf_132 (lv_at hl 1 rfl) ?_
              refine lv_lload hx hb dX6_markOf_134 (lv_at hl 5 rfl) ?_
              refine lv_lload hx hb dX6_markOf_136 (lv_at hl 4 rfl) ?_
              refine lv_ladd hx hb dX6_markOf_138 ?_
              refine lv_lmul hx hb dX6_markOf_139 ?_
              refine lv_aload_n hx hb dX6_markOf_140 rfl (lv_at hl 6 rfl) ?_
              refine va_get (D := D) (ci := 6) (v := .long (S4.2.1 1)) (C := RX6) (T := TX6) (N := 36) hx hb hts hinX6 hown hK hP 0 rfl rfl 12 (by decide) kf90 (fun _ h9 => h9) rfl dX6_markOf_141 ?_
              refine lv_aload_n hx hb dX6_markOf_144 rfl (lv_at hl 6 rfl) ?_
              refine va_get (D := D) (ci := 6) (v := .long (S4.2.1 1)) (C := RX6) (T := TX6) (N := 36) hx hb hts hinX6 hown hK hP 0 rfl rfl 12 (by decide) kf90 (fun _ h9 => h9) rfl dX6_markOf_145 ?_
              refine lv_lmul hx hb dX6_markOf_148 ?_
              refine lv_lload hx hb dX6_markOf_149 (lv_at hl 0 rfl) ?_
              refine lv_lmul hx hb dX6_markOf_151 ?_
              refine W.lcmp hx hb dX6_markOf_152 ?_
              refine lv_if_gt (tgt := 159) hx hb dX6_markOf_153 (by decide) (fun c15 => ?_) (fun c15 => ?_)
              · have h := h.1 c15
                refine lv_iload hx hb dX6_markOf_159 (lv_at hl 10 rfl) ?_
                refine lv_if_lt (tgt := 181) hx hb dX6_markOf_161 (by decide) (fun c16 => ?_) (fun c16 => ?_)
                · have h := h.1 c16
                  refine lv_iload hx hb dX6_markOf_181 (lv_at hl 13 rfl) ?_
                  refine lv_istore (lv' := [(5, .int xl10), (21, .long y14), (19, .long y13), (17, .long y9), (15, .long y8), (13, .long y7), (11, .long y6), (0, .ref (a 0)), (1, .int xl1), (2, .int xl2), (3, .int xl3), (6, .long yl6), (8, .long yl8), (10, .int xl10)]) hx hb dX6_markOf_183 hl (by decide) rfl (fun ls hl => ?_)
                  refine lv_lload hx hb dX6_markOf_185 (lv_at hl 2 rfl) ?_
                  refine lv_lstore (lv' := [(6, .long y13), (5, .int xl10), (21, .long y14), (19, .long y13), (17, .long y9), (15, .long y8), (13, .long y7), (11, .long y6), (0, .ref (a 0)), (1, .int xl1), (2, .int xl2), (3, .int xl3), (8, .long yl8), (10, .int xl10)]) hx hb dX6_markOf_187 hl (by decide) rfl (fun ls hl => ?_)
                  refine lv_lload hx hb dX6_markOf_189 (lv_at hl 2 rfl) ?_
                  refine lv_lstore (lv' := [(8, .long y14), (6, .long y13), (5, .int xl10), (21, .long y14), (19, .long y13), (17, .long y9), (15, .long y8), (13, .long y7), (11, .long y6), (0, .ref (a 0)), (1, .int xl1), (2, .int xl2), (3, .int xl3), (10, .int xl10)]) hx hb dX6_markOf_191 hl (by decide) rfl (fun ls hl => ?_)
                  obtain ⟨x17, ex17⟩ : ∃ y : Int32, y = xl10 + 1 := ⟨_, rfl⟩
                  have h := h x17 ex17
                  refine lv_iinc (v := x17) (lv' := [(10, .int x17), (8, .long y14), (6, .long y13), (5, .int xl10), (21, .long y14), (19, .long y13), (17, .long y9), (15, .long y8), (13, .long y7), (11, .long y6), (0, .ref (a 0)), (1, .int xl1), (2, .int xl2), (3, .int xl3)]) hx hb dX6_markOf_193 hl (k := 13) rfl (by rw [ex17]; rfl) (by decide) rfl (fun ls hl => ?_)
                  refine lv_goto (tgt := 20) hx hb dX6_markOf_196 (by decide) ?_
                  exact (ih) xl1 xl2 xl3 xl10 y13 y14 x17 S4 _ _ _ h hP hS (lv_sub hl [10, 11, 12, 13, 3, 2, 1, 0] rfl)
                · have h := h.2 c16
                  refine lv_lload hx hb dX6_markOf_164 (lv_at hl 1 rfl) ?_
                  refine lv_lload hx hb dX6_markOf_166 (lv_at hl 12 rfl) ?_
                  refine lv_lmul hx hb dX6_markOf_168 ?_
                  refine lv_lload hx hb dX6_markOf_169 (lv_at hl 11 rfl) ?_
                  refine lv_lload hx hb dX6_markOf_171 (lv_at hl 0 rfl) ?_
                  refine lv_lmul hx hb dX6_markOf_173 ?_
                  refine W.lcmp hx hb dX6_markOf_174 ?_
                  refine lv_if_gt (tgt := 181) hx hb dX6_markOf_175 (by decide) (fun c18 => ?_) (fun c18 => ?_)
                  · have h := h.1 c18
                    refine lv_iload hx hb dX6_markOf_181 (lv_at hl 13 rfl) ?_
                    refine lv_istore (lv' := [(5, .int xl10), (21, .long y14), (19, .long y13), (17, .long y9), (15, .long y8), (13, .long y7), (11, .long y6), (0, .ref (a 0)), (1, .int xl1), (2, .int xl2), (3, .int xl3), (6, .long yl6), (8, .long yl8), (10, .int xl10)]) hx hb dX6_markOf_183 hl (by decide) rfl (fun ls hl => ?_)
                    refine lv_lload hx hb dX6_markOf_185 (lv_at hl 2 rfl) ?_
                    refine lv_lstore (lv' := [(6, .long y13), (5, .int xl10), (21, .long y14), (19, .long y13), (17, .long y9), (15, .long y8), (13, .long y7), (11, .long y6), (0, .ref (a 0)), (1, .int xl1), (2, .int xl2), (3, .int xl3), (8, .long yl8), (10, .int xl10)]) hx hb dX6_markOf_187 hl (by decide) rfl (fun ls hl => ?_)
                    refine lv_lload hx hb dX6_markOf_189 (lv_at hl 2 rfl) ?_
                    refine lv_lstore (lv' := [(8, .long y14), (6, .long y13), (5, .int xl10), (21, .long y14), (19, .long y13), (17, .long y9), (15, .long y8), (13, .long y7), (11, .long y6), (0, .ref (a 0)), (1, .int xl1), (2, .int xl2), (3, .int xl3), (10, .int xl10)]) hx hb dX6_markOf_191 hl (by decide) rfl (fun ls hl => ?_)
                    obtain ⟨x19, ex19⟩ : ∃ y : Int32, y = xl10 + 1 := ⟨_, rfl⟩
                    have h := h x19 ex19
                    refine lv_iinc (v := x19) (lv' := [(10, .int x19), (8, .long y14), (6, .long y13), (5, .int xl10), (21, .long y14), (19, .long y13), (17, .long y9), (15, .long y8), (13, .long y7), (11, .long y6), (0, .ref (a 0)), (1, .int xl1), (2, .int xl2), (3, .int xl3)]) hx hb dX6_markOf_193 hl (k := 13) rfl (by rw [ex19]; rfl) (by decide) rfl (fun ls hl => ?_)
                    refine lv_goto (tgt := 20) hx hb dX6_markOf_196 (by decide) ?_
                    exact (ih) xl1 xl2 xl3 xl10 y13 y14 x19 S4 _ _ _ h hP hS (lv_sub hl [10, 11, 12, 13, 3, 2, 1, 0] rfl)
                  · have h := h.2 c18
                    refine lv_goto (tgt := 193) hx hb dX6_markOf_178 (by decide) ?_
                    obtain ⟨x20, ex20⟩ : ∃ y : Int32, y = xl10 + 1 := ⟨_, rfl⟩
                    have h := h x20 ex20
                    refine lv_iinc (v := x20) (lv' := [(10, .int x20), (21, .long y14), (19, .long y13), (17, .long y9), (15, .long y8), (13, .long y7), (11, .long y6), (0, .ref (a 0)), (1, .int xl1), (2, .int xl2), (3, .int xl3), (5, .int xl5), (6, .long yl6), (8, .long yl8)]) hx hb dX6_markOf_193 hl (k := 13) rfl (by rw [ex20]; rfl) (by decide) rfl (fun ls hl => ?_)
                    refine lv_goto (tgt := 20) hx hb dX6_markOf_196 (by decide) ?_
                    exact (ih) xl1 xl2 xl3 xl5 yl6 yl8 x20 S4 _ _ _ h hP hS (lv_sub hl [7, 8, 9, 10, 11, 12, 13, 0] rfl)
              · have h := h.2 c15
                refine lv_goto (tgt := 193) hx hb dX6_markOf_156 (by decide) ?_
                obtain ⟨x21, ex21⟩ : ∃ y : Int32, y = xl10 + 1 := ⟨_, rfl⟩
                have h := h x21 ex21
                refine lv_iinc (v := x21) (lv' := [(10, .int x21), (21, .long y14), (19, .long y13), (17, .long y9), (15, .long y8), (13, .long y7), (11, .long y6), (0, .ref (a 0)), (1, .int xl1), (2, .int xl2), (3, .int xl3), (5, .int xl5), (6, .long yl6), (8, .long yl8)]) hx hb dX6_markOf_193 hl (k := 13) rfl (by rw [ex21]; rfl) (by decide) rfl (fun ls hl => ?_)
                refine lv_goto (tgt := 20) hx hb dX6_markOf_196 (by decide) ?_
                exact (ih) xl1 xl2 xl3 xl5 yl6 yl8 x21 S4 _ _ _ h hP hS (lv_sub hl [7, 8, 9, 10, 11, 12, 13, 0] rfl)
            · have h := h.2 c12
              refine lv_goto (tgt := 193) hx hb dX6_markOf_103 (by decide) ?_
              obtain ⟨x22, ex22⟩ : ∃ y : Int32, y = xl10 + 1 := ⟨_, rfl⟩
              have h := h x22 ex22
              refine lv_iinc (v := x22) (lv' := [(10, .int x22), (17, .long y9), (15, .long y8), (13, .long y7), (11, .long y6), (0, .ref (a 0)), (1, .int xl1), (2, .int xl2), (3, .int xl3), (5, .int xl5), (6, .long yl6), (8, .long yl8)]) hx hb dX6_markOf_193 hl (k := 11) rfl (by rw [ex22]; rfl) (by decide) rfl (fun ls hl => ?_)
              refine lv_goto (tgt := 20) hx hb dX6_markOf_196 (by decide) ?_
              exact (ih) xl1 xl2 xl3 xl5 yl6 yl8 x22 S4 _ _ _ h hP hS (lv_sub hl [5, 6, 7, 8, 9, 10, 11, 0] rfl)
        · have h := h.1 c3
          refine lv_goto (tgt := 193) hx hb dX6_markOf_37 (by decide) ?_
          obtain ⟨x23, ex23⟩ : ∃ y : Int32, y = xl10 + 1 := ⟨_, rfl⟩
          have h := h x23 ex23
          refine lv_iinc (v := x23) (lv' := [(10, .int x23), (0, .ref (a 0)), (1, .int xl1), (2, .int xl2), (3, .int xl3), (5, .int xl5), (6, .long yl6), (8, .long yl8)]) hx hb dX6_markOf_193 hl (k := 7) rfl (by rw [ex23]; rfl) (by decide) rfl (fun ls hl => ?_)
          refine lv_goto (tgt := 20) hx hb dX6_markOf_196 (by decide) ?_
          exact (ih) xl1 xl2 xl3 xl5 yl6 yl8 x23 S _ _ _ h hP hS (lv_sub hl [1, 2, 3, 4, 5, 6, 7, 0] rfl)
  unfold PX6_markOf at h
  refine lv_iload hx hb dX6_markOf_0 (lv_at hl 4 rfl) ?_
  refine lv_iconst (v := 4) hx hb dX6_markOf_2 (by decide) ?_
  refine lv_icmp_ne (tgt := 8) hx hb dX6_markOf_3 (by decide) (fun c1 => ?_) (fun c1 => ?_)
  · have h := h.2 c1
    refine lv_iconst (v := (-1)) hx hb dX6_markOf_8 (by decide) ?_
    refine lv_istore (lv' := [(5, .int (-1)), (0, .ref (a 0)), (1, .int p0), (2, .int p1), (3, .int p2), (4, .int p3)]) hx hb dX6_markOf_9 hl (by decide) rfl (fun ls hl => ?_)
    refine lv_lconst (v := 0) hx hb dX6_markOf_11 (by decide) ?_
    refine lv_lstore (lv' := [(6, .long 0), (5, .int (-1)), (0, .ref (a 0)), (1, .int p0), (2, .int p1), (3, .int p2), (4, .int p3)]) hx hb dX6_markOf_12 hl (by decide) rfl (fun ls hl => ?_)
    refine lv_lconst (v := 1) hx hb dX6_markOf_14 (by decide) ?_
    refine lv_lstore (lv' := [(8, .long 1), (6, .long 0), (5, .int (-1)), (0, .ref (a 0)), (1, .int p0), (2, .int p1), (3, .int p2), (4, .int p3)]) hx hb dX6_markOf_15 hl (by decide) rfl (fun ls hl => ?_)
    refine lv_iconst (v := 0) hx hb dX6_markOf_17 (by decide) ?_
    refine lv_istore (lv' := [(10, .int 0), (8, .long 1), (6, .long 0), (5, .int (-1)), (0, .ref (a 0)), (1, .int p0), (2, .int p1), (3, .int p2), (4, .int p3)]) hx hb dX6_markOf_18 hl (by decide) rfl (fun ls hl => ?_)
    exact (key n) p0 p1 p2 (-1) 0 1 0 S _ _ _ h hP hS (lv_sub hl [4, 5, 6, 7, 3, 2, 1, 0] rfl)
  · have h := h.1 c1
    refine lv_iconst (v := (-1)) hx hb dX6_markOf_6 (by decide) ?_
    exact g_reti hx hb hr hlocks h hP hS dX6_markOf_7
def EX6_leavesOf (rc : Int32 → Int32 → Int32 → Int32 → St → (Int32 → St → Prop) → Prop) (p0 : Int32) (p1 : Int32) (p2 : Int32) (p3 : Int32) (S : St) (post : Int32 → St → Prop) : Prop := ∃ k : Nat, PX6_markOf k p0 p1 p2 p3 S (fun x2 S1 => ((0 ≤ x2 → rc p0 (p1 ||| ((1 : Int32) <<< (x2 &&& 31))) p2 (p3 + 1) S1 (fun x6 S5 => rc p0 (p1 ||| ((1 : Int32) <<< (x2 &&& 31))) (p2 ||| ((1 : Int32) <<< (x2 &&& 31))) (p3 + 1) S5 (fun x8 S7 => post (x6 + x8) S7))) ∧ (¬ 0 ≤ x2 → post 1 S1)))
def PX6_leavesOf : Nat → Int32 → Int32 → Int32 → Int32 → St → (Int32 → St → Prop) → Prop
  | 0, _, _, _, _, _, _ => False
  | d + 1, p0, p1, p2, p3, S, post => EX6_leavesOf (PX6_leavesOf d) p0 p1 p2 p3 S post
abbrev rmX6_leavesOf (d : Nat) : Room := { frames := 2 + d, cells := 0, slots := 0, locals := 68 + 25 * d }
set_option maxHeartbeats 4000000 in
set_option maxRecDepth 100000 in
theorem tX6_leavesOf (l : Launch) (D : va_G) (a : Nat → Nat) (c : Nat → ClassId) : ∀ (d : Nat) (sz : Nat) (p0 : Int32) (p1 : Int32) (p2 : Int32) (p3 : Int32) (S : St) (post : Int32 → St → Prop), PX6_leavesOf d p0 p1 p2 p3 S post → Met l yX6_leavesOf wsX6_leavesOf (rmX6_leavesOf d) (va_Pc [.ref (a 0), .int p0, .int p1, .int p2, .int p3] (gP D (mw a c) (mty c) mns S sz)) (va_Qi post (gB D (mw a c)) (va_A (mw a c S) sz)) 0 0 (va_A (mw a c S) sz) := by
  intro d
  induction d with
  | zero => intro sz p0 p1 p2 p3 S post h; exact h.elim
  | succ d hrc0 =>
  intro sz p0 p1 p2 p3 S post h
  have hrc : ∀ (p0 : Int32) (p1 : Int32) (p2 : Int32) (p3 : Int32) (S : St) (sz : Nat) (post : Int32 → St → Prop), PX6_leavesOf d p0 p1 p2 p3 S post → Met l yX6_leavesOf wsX6_leavesOf (rmX6_leavesOf d) (va_Pc [.ref (a 0), .int p0, .int p1, .int p2, .int p3] (gP D (mw a c) (mty c) mns S sz)) (va_Qi post (gB D (mw a c)) (va_A (mw a c S) sz)) 0 0 (va_A (mw a c S) sz) := fun p0 p1 p2 p3 S sz post h => hrc0 sz p0 p1 p2 p3 S post h
  refine Met.ofW (cc := cX6_leavesOf) (maxL := 6) (ret := (some .int)) (by decide) rfl ?_
  intro p e s m args below meth c9 s₁ B hml hv
  obtain ⟨rfl, hsz, hP, hK, hD0, hN⟩ := hv
  have hx := B.exec
  have hb := B.bytes
  have hr := B.returns
  have hts := atoms_spec (ws := wsX6_leavesOf) B.pre
  have hown : s.vm.findClass RX6 = some m.cls := findClass_of_methodNamed B.named
  have hlocks := B.notSynchronized
  subst hsz
  have hD1 := hD0.self (sz := s.heap.size)
  generalize hAe : va_A (mw a c S) s.heap.size = A at hD1 ⊢
  have hA : ∀ q : Nat, s.heap.size ≤ q → A q := fun q h => by rw [← hAe]; exact Or.inr h
  have hD : ∀ S2 : St, va_D A (mw a c S2) := gD mw_F hD1
  have hS : va_S A s.heap s.heap [] := va_S.rf
  have hl := lv_entry ([.ref (a 0), .int p0, .int p1, .int p2, .int p3]) (n := 6) (Nat.le_of_ble_eq_true rfl)
  rw [lg_entry_eq]
  generalize (lg_sl ([.ref (a 0), .int p0, .int p1, .int p2, .int p3]) ++ List.replicate (6 - (lg_sl ([.ref (a 0), .int p0, .int p1, .int p2, .int p3])).length) Slot.unset).toArray = ls at hl ⊢
  have hl : lv_has ls 6 [(0, .ref (a 0)), (1, .int p0), (2, .int p1), (3, .int p2), (4, .int p3)] := hl
  have hroom : (rmX6_leavesOf d).frames + 1 ≤ ((headSpec wsX6_leavesOf (rmX6_leavesOf (d + 1))).room).frames ∧ 8 + (6 + 11) + (rmX6_leavesOf d).locals ≤ ((headSpec wsX6_leavesOf (rmX6_leavesOf (d + 1))).room).locals := ⟨by simp only [headSpec, rmX6_leavesOf]; omega, by simp only [headSpec, rmX6_leavesOf]; omega⟩
  have h : EX6_leavesOf (PX6_leavesOf d) p0 p1 p2 p3 S post := h
  unfold EX6_leavesOf at h
  refine lv_aload_n hx hb dX6_leavesOf_0 rfl (lv_at hl 0 rfl) ?_
  refine lv_iload_n hx hb dX6_leavesOf_1 rfl (lv_at hl 1 rfl) ?_
  refine lv_iload_n hx hb dX6_leavesOf_2 rfl (lv_at hl 2 rfl) ?_
  refine lv_iload_n hx hb dX6_leavesOf_3 rfl (lv_at hl 3 rfl) ?_
  refine lv_iload hx hb dX6_leavesOf_4 (lv_at hl 4 rfl) ?_
  obtain ⟨k3, h⟩ := h
  refine k_i (k_runV mns_ok ⟨hx, hb, hml, hown, hts⟩ (tX6_markOf l D a c _ k3 p0 p1 p2 p3 S _ h) (cwV 4 hts gX6_leavesOf_X6_markOf rfl rfl rfl (by decide +kernel) ⟨by show 1 + 1 ≤ 2 + (d + 1); omega, by show 8 + (23 + 11) + 26 ≤ 68 + 25 * (d + 1); omega⟩) (va_recv hK hP (ci := 6) (q0 := 0) rfl rfl) hP hK (hD S) hN rfl rfl hl.1 rfl (lv_room (Nat.le_of_ble_eq_true rfl)) dX6_leavesOf_6 ⟨Nat.le_refl _, Nat.le_refl _⟩) hS (hD S) hA (fun x2 S1 H locs h hP hS => ?_)
  refine lv_istore (lv' := [(5, .int x2), (0, .ref (a 0)), (1, .int p0), (2, .int p1), (3, .int p2), (4, .int p3)]) hx hb dX6_leavesOf_9 hl (by decide) rfl (fun ls hl => ?_)
  refine lv_iload hx hb dX6_leavesOf_11 (lv_at hl 0 rfl) ?_
  refine lv_if_ge (tgt := 18) hx hb dX6_leavesOf_13 (by decide) (fun c4 => ?_) (fun c4 => ?_)
  · have h := h.1 c4
    refine lv_aload_n hx hb dX6_leavesOf_18 rfl (lv_at hl 1 rfl) ?_
    refine lv_iload_n hx hb dX6_leavesOf_19 rfl (lv_at hl 2 rfl) ?_
    refine lv_iload_n hx hb dX6_leavesOf_20 rfl (lv_at hl 3 rfl) ?_
    refine lv_iconst (v := 1) hx hb dX6_leavesOf_21 (by decide) ?_
    refine lv_iload hx hb dX6_leavesOf_22 (lv_at hl 0 rfl) ?_
    refine lv_ishl hx hb dX6_leavesOf_24 ?_
    refine lv_ior hx hb dX6_leavesOf_25 ?_
    refine lv_iload_n hx hb dX6_leavesOf_26 rfl (lv_at hl 4 rfl) ?_
    refine lv_iload hx hb dX6_leavesOf_27 (lv_at hl 5 rfl) ?_
    refine lv_iconst (v := 1) hx hb dX6_leavesOf_29 (by decide) ?_
    refine lv_iadd hx hb dX6_leavesOf_30 ?_
    refine k_i (k_runV mns_ok ⟨hx, hb, hml, hown, hts⟩ (hrc p0 (p1 ||| ((1 : Int32) <<< (x2 &&& 31))) p2 (p3 + 1) S1 _ _ h) (cwV 4 hts gX6_leavesOf_X6_leavesOf rfl rfl rfl (by decide +kernel) hroom) (va_recv hK hP (ci := 6) (q0 := 0) rfl rfl) hP hK (hD S1) hN rfl rfl hl.1 rfl (lv_room (Nat.le_of_ble_eq_true rfl)) dX6_leavesOf_31 ⟨Nat.le_refl _, Nat.le_refl _⟩) hS (hD S1) hA (fun x6 S5 H locs h hP hS => ?_)
    refine lv_aload_n hx hb dX6_leavesOf_34 rfl (lv_at hl 1 rfl) ?_
    refine lv_iload_n hx hb dX6_leavesOf_35 rfl (lv_at hl 2 rfl) ?_
    refine lv_iload_n hx hb dX6_leavesOf_36 rfl (lv_at hl 3 rfl) ?_
    refine lv_iconst (v := 1) hx hb dX6_leavesOf_37 (by decide) ?_
    refine lv_iload hx hb dX6_leavesOf_38 (lv_at hl 0 rfl) ?_
    refine lv_ishl hx hb dX6_leavesOf_40 ?_
    refine lv_ior hx hb dX6_leavesOf_41 ?_
    refine lv_iload_n hx hb dX6_leavesOf_42 rfl (lv_at hl 4 rfl) ?_
    refine lv_iconst (v := 1) hx hb dX6_leavesOf_43 (by decide) ?_
    refine lv_iload hx hb dX6_leavesOf_44 (lv_at hl 0 rfl) ?_
    refine lv_ishl hx hb dX6_leavesOf_46 ?_
    refine lv_ior hx hb dX6_leavesOf_47 ?_
    refine lv_iload hx hb dX6_leavesOf_48 (lv_at hl 5 rfl) ?_
    refine lv_iconst (v := 1) hx hb dX6_leavesOf_50 (by decide) ?_
    refine lv_iadd hx hb dX6_leavesOf_51 ?_
    refine k_i (k_runV mns_ok ⟨hx, hb, hml, hown, hts⟩ (hrc p0 (p1 ||| ((1 : Int32) <<< (x2 &&& 31))) (p2 ||| ((1 : Int32) <<< (x2 &&& 31))) (p3 + 1) S5 _ _ h) (cwV 4 hts gX6_leavesOf_X6_leavesOf rfl rfl rfl (by decide +kernel) hroom) (va_recv hK hP (ci := 6) (q0 := 0) rfl rfl) hP hK (hD S5) hN rfl rfl hl.1 rfl (lv_room (Nat.le_of_ble_eq_true rfl)) dX6_leavesOf_52 ⟨Nat.le_refl _, Nat.le_refl _⟩) hS (hD S5) hA (fun x8 S7 H locs h hP hS => ?_)
    refine lv_iadd hx hb dX6_leavesOf_55 ?_
    exact g_reti hx hb hr hlocks h hP hS dX6_leavesOf_56
  · have h := h.2 c4
    refine lv_iconst (v := 1) hx hb dX6_leavesOf_16 (by decide) ?_
    exact g_reti hx hb hr hlocks h hP hS dX6_leavesOf_17
def PX6_leaves (p0 : Int32) (S : St) (post : Int32 → St → Prop) : Prop := PX6_isMeal p0 S (fun x2 S1 => ((x2 = 0 → post 0 S1) ∧ (¬ x2 = 0 → PX6_leavesOf 8 p0 0 0 0 S1 (fun x5 S4 => post x5 S4))))
set_option maxHeartbeats 4000000 in
set_option maxRecDepth 100000 in
theorem tX6_leaves (l : Launch) (D : va_G) (a : Nat → Nat) (c : Nat → ClassId) (sz : Nat) (p0 : Int32) (S : St) (post : Int32 → St → Prop) (h : PX6_leaves p0 S post) : Met l yX6_leaves wsX6_leaves ({ frames := 11, cells := 0, slots := 0, locals := 293 }) (va_Pc [.ref (a 0), .int p0] (gP D (mw a c) (mty c) mns S sz)) (va_Qi post (gB D (mw a c)) (va_A (mw a c S) sz)) 0 0 (va_A (mw a c S) sz) := by
  refine Met.ofW (cc := cX6_leaves) (maxL := 2) (ret := (some .int)) (by decide) rfl ?_
  intro p e s m args below meth c9 s₁ B hml hv
  obtain ⟨rfl, hsz, hP, hK, hD0, hN⟩ := hv
  have hx := B.exec
  have hb := B.bytes
  have hr := B.returns
  have hts := atoms_spec (ws := wsX6_leaves) B.pre
  have hown : s.vm.findClass RX6 = some m.cls := findClass_of_methodNamed B.named
  have hlocks := B.notSynchronized
  subst hsz
  have hD1 := hD0.self (sz := s.heap.size)
  generalize hAe : va_A (mw a c S) s.heap.size = A at hD1 ⊢
  have hA : ∀ q : Nat, s.heap.size ≤ q → A q := fun q h => by rw [← hAe]; exact Or.inr h
  have hD : ∀ S2 : St, va_D A (mw a c S2) := gD mw_F hD1
  have hS : va_S A s.heap s.heap [] := va_S.rf
  have hl := lv_entry ([.ref (a 0), .int p0]) (n := 2) (Nat.le_of_ble_eq_true rfl)
  rw [lg_entry_eq]
  generalize (lg_sl ([.ref (a 0), .int p0]) ++ List.replicate (2 - (lg_sl ([.ref (a 0), .int p0])).length) Slot.unset).toArray = ls at hl ⊢
  have hl : lv_has ls 2 [(0, .ref (a 0)), (1, .int p0)] := hl
  unfold PX6_leaves at h
  refine lv_aload_n hx hb dX6_leaves_0 rfl (lv_at hl 0 rfl) ?_
  refine lv_iload_n hx hb dX6_leaves_1 rfl (lv_at hl 1 rfl) ?_
  refine k_i (k_runV mns_ok ⟨hx, hb, hml, hown, hts⟩ (tX6_isMeal l D a c _ p0 S _ h) (cwV 1 hts gX6_leaves_X6_isMeal rfl rfl rfl (by decide +kernel) ⟨Nat.le_of_ble_eq_true rfl, Nat.le_of_ble_eq_true rfl⟩) (va_recv hK hP (ci := 6) (q0 := 0) rfl rfl) hP hK (hD S) hN rfl rfl hl.1 rfl (lv_room (Nat.le_of_ble_eq_true rfl)) dX6_leaves_2 ⟨Nat.le_of_ble_eq_true rfl, Nat.le_of_ble_eq_true rfl⟩) hS (hD S) hA (fun x2 S1 H locs h hP hS => ?_)
  refine lv_if_eq (tgt := 19) hx hb dX6_leaves_5 (by decide) (fun c3 => ?_) (fun c3 => ?_)
  · have h := h.1 c3
    refine lv_iconst (v := 0) hx hb dX6_leaves_19 (by decide) ?_
    exact g_reti hx hb hr hlocks h hP hS dX6_leaves_20
  · have h := h.2 c3
    refine lv_aload_n hx hb dX6_leaves_8 rfl (lv_at hl 0 rfl) ?_
    refine lv_iload_n hx hb dX6_leaves_9 rfl (lv_at hl 1 rfl) ?_
    refine lv_iconst (v := 0) hx hb dX6_leaves_10 (by decide) ?_
    refine lv_iconst (v := 0) hx hb dX6_leaves_11 (by decide) ?_
    refine lv_iconst (v := 0) hx hb dX6_leaves_12 (by decide) ?_
    refine k_i (k_runV mns_ok ⟨hx, hb, hml, hown, hts⟩ (tX6_leavesOf l D a c 8 _ p0 0 0 0 S1 _ h) (cwV 4 hts gX6_leaves_X6_leavesOf rfl rfl rfl (by decide +kernel) ⟨Nat.le_of_ble_eq_true rfl, Nat.le_of_ble_eq_true rfl⟩) (va_recv hK hP (ci := 6) (q0 := 0) rfl rfl) hP hK (hD S1) hN rfl rfl hl.1 rfl (lv_room (Nat.le_of_ble_eq_true rfl)) dX6_leaves_13 ⟨Nat.le_of_ble_eq_true rfl, Nat.le_of_ble_eq_true rfl⟩) hS (hD S1) hA (fun x5 S4 H locs h hP hS => ?_)
    refine lv_goto (tgt := 20) hx hb dX6_leaves_16 (by decide) ?_
    exact g_reti hx hb hr hlocks h hP hS dX6_leaves_20
def BX6_goes_0 (X : Int32 → Int32 → Int32 → St → Prop) (post : St → Prop) (xl1 : Int32) (xl2 : Int32) (xl3 : Int32) (S : St) : Prop := ((xl3 < 0 → post S) ∧ (¬ xl3 < 0 → (vp_in (S.1 5) 5 ∧ ∀ S9 : St, S9 = sR S 6 (upd (S.2.2 6) (S.1 5).toNatClampNeg xl3) → ∀ S10 : St, S10 = sI S9 5 ((S9.1 5) + 1) → ∀ S11 : St, S11 = sI S10 6 ((S10.1 6) ||| ((1 : Int32) <<< (xl3 &&& 31))) → ∀ S12 : St, S12 = sI S11 7 ((S11.1 7) ||| (xl2 &&& ((1 : Int32) <<< (xl3 &&& 31)))) → ∃ k : Nat, PX6_markOf k xl1 (S12.1 6) (S12.1 7) (S12.1 5) S12 (fun x14 S13 => X xl1 xl2 x14 S13))))
def LX6_goes (post : St → Prop) : Nat → Int32 → Int32 → Int32 → St → Prop
  | 0, _, _, _, _ => False
  | n + 1, xl1, xl2, xl3, S => BX6_goes_0 (LX6_goes post n) post xl1 xl2 xl3 S
def PX6_goes (n : Nat) (p0 : Int32) (p1 : Int32) (S : St) (post : St → Prop) : Prop := ∀ S1 : St, S1 = sI S 6 0 → ∀ S2 : St, S2 = sI S1 7 0 → ∀ S3 : St, S3 = sI S2 5 0 → ∃ k : Nat, PX6_markOf k p0 0 0 0 S3 (fun x5 S4 => LX6_goes post n p0 p1 x5 S4)
set_option maxHeartbeats 4000000 in
set_option maxRecDepth 100000 in
theorem tX6_goes (l : Launch) (D : va_G) (a : Nat → Nat) (c : Nat → ClassId) (sz : Nat) (n : Nat) (p0 : Int32) (p1 : Int32) (S : St) (post : St → Prop) (h : PX6_goes n p0 p1 S post) : Met l yX6_goes wsX6_goes ({ frames := 2, cells := 0, slots := 0, locals := 68 }) (va_Pc [.ref (a 0), .int p0, .int p1] (gP D (mw a c) (mty c) mns S sz)) (va_Qv post (gB D (mw a c)) (va_A (mw a c S) sz)) 0 0 (va_A (mw a c S) sz) := by
  refine Met.ofW (cc := cX6_goes) (maxL := 4) (ret := none) (by decide) rfl ?_
  intro p e s m args below meth c9 s₁ B hml hv
  obtain ⟨rfl, hsz, hP, hK, hD0, hN⟩ := hv
  have hx := B.exec
  have hb := B.bytes
  have hr := B.returns
  have hts := atoms_spec (ws := wsX6_goes) B.pre
  have hown : s.vm.findClass RX6 = some m.cls := findClass_of_methodNamed B.named
  have hlocks := B.notSynchronized
  subst hsz
  have hD1 := hD0.self (sz := s.heap.size)
  generalize hAe : va_A (mw a c S) s.heap.size = A at hD1 ⊢
  have hA : ∀ q : Nat, s.heap.size ≤ q → A q := fun q h => by rw [← hAe]; exact Or.inr h
  have hD : ∀ S2 : St, va_D A (mw a c S2) := gD mw_F hD1
  have hS : va_S A s.heap s.heap [] := va_S.rf
  have hinX6 : ∀ w ∈ wsX60, w ∈ wsX6_goes := by decide +kernel
  have kf106 := hts (.fieldLink RX6 106 "CanteenPlanModel" "leafMask" "I") (by decide +kernel)
  have kf109 := hts (.fieldLink RX6 109 "CanteenPlanModel" "leafBits" "I") (by decide +kernel)
  have kf112 := hts (.fieldLink RX6 112 "CanteenPlanModel" "wayMany" "I") (by decide +kernel)
  have kf29 := hts (.fieldLink RX6 29 "CanteenPlanModel" "way" "[I") (by decide +kernel)
  have hl := lv_entry ([.ref (a 0), .int p0, .int p1]) (n := 4) (Nat.le_of_ble_eq_true rfl)
  rw [lg_entry_eq]
  generalize (lg_sl ([.ref (a 0), .int p0, .int p1]) ++ List.replicate (4 - (lg_sl ([.ref (a 0), .int p0, .int p1])).length) Slot.unset).toArray = ls at hl ⊢
  have hl : lv_has ls 4 [(0, .ref (a 0)), (1, .int p0), (2, .int p1)] := hl
  have key : ∀ n : Nat, (∀ (xl1 : Int32) (xl2 : Int32) (xl3 : Int32) (S : St) (H : Heap) (locs : List Loc) (ls : Array Slot), LX6_goes post n xl1 xl2 xl3 S → va_P D vwCl (mw a c S) H → va_S A s.heap H locs → lv_has ls 4 [(0, .ref (a 0)), (1, .int xl1), (2, .int xl2), (3, .int xl3)] → W p l e ((headSpec wsX6_goes ({ frames := 2, cells := 0, slots := 0, locals := 68 })).room) s m ([.ref (a 0), .int p0, .int p1]).toArray below meth c9 H locs 0 0 (MQ below (va_Qv post (gB D (mw a c)) A) ([.ref (a 0), .int p0, .int p1]).toArray s 0 0 A) (F0 m 24 ls [])) := by
    intro n
    induction n with
    | zero => exact fun xl1 xl2 xl3 S H locs ls h => h.elim
    | succ n ih =>
      intro xl1 xl2 xl3 S H locs ls h hP hS hl
      have h : BX6_goes_0 (LX6_goes post n) post xl1 xl2 xl3 S := h
      unfold BX6_goes_0 at h
      refine lv_iload_n hx hb dX6_goes_24 rfl (lv_at hl 3 rfl) ?_
      refine lv_if_lt (tgt := 95) hx hb dX6_goes_25 (by decide) (fun c7 => ?_) (fun c7 => ?_)
      · have h := h.1 c7
        exact g_retv hx hb hr hlocks h hP hS dX6_goes_95
      · have h := h.2 c7
        refine lv_aload_n hx hb dX6_goes_28 rfl (lv_at hl 0 rfl) ?_
        refine va_get (D := D) (ci := 6) (v := .ref (a 7)) (C := RX6) (T := TX6) (N := 36) hx hb hts hinX6 hown hK hP 0 rfl rfl 13 (by decide) kf29 (fun _ h9 => h9) rfl dX6_goes_29 ?_
        refine lv_aload_n hx hb dX6_goes_32 rfl (lv_at hl 0 rfl) ?_
        refine va_get (D := D) (ci := 6) (v := .int (S.1 5)) (C := RX6) (T := TX6) (N := 36) hx hb hts hinX6 hown hK hP 0 rfl rfl 14 (by decide) kf112 (fun _ h9 => h9) rfl dX6_goes_33 ?_
        refine lv_iload_n hx hb dX6_goes_36 rfl (lv_at hl 3 rfl) ?_
        obtain ⟨b8, h⟩ := h
        refine va_iast hx hb hK hP (hD S) hS 7 6 rfl rfl b8 dX6_goes_37 (fun H locs hP _ hS => ?_)
        obtain ⟨S9, eS9⟩ : ∃ z : St, z = sR S 6 (upd (S.2.2 6) (S.1 5).toNatClampNeg xl3) := ⟨_, rfl⟩
        have hP : va_P D vwCl (mw a c S9) H := by rw [eS9]; exact hP
        have h := h S9 eS9
        refine lv_aload_n hx hb dX6_goes_38 rfl (lv_at hl 0 rfl) ?_
        refine lv_dup hx hb dX6_goes_39 rfl ?_
        refine va_get (D := D) (ci := 6) (v := .int (S9.1 5)) (C := RX6) (T := TX6) (N := 36) hx hb hts hinX6 hown hK hP 0 rfl rfl 14 (by decide) kf112 (fun _ h9 => h9) rfl dX6_goes_40 ?_
        refine lv_iconst (v := 1) hx hb dX6_goes_43 (by decide) ?_
        refine lv_iadd hx hb dX6_goes_44 ?_
        refine va_put (D := D) (ci := 6) (v := .int ((S9.1 5) + 1)) (ty := .int) (C := RX6) (T := TX6) (N := 36) hx hb hts hinX6 tyX6 tyX6_ok nmX6 hown hK hP (hD S9) hS 0 rfl rfl 14 (by decide) kf112 (fun _ h9 => h9) rfl (by decide +kernel) rfl rfl (Nat.le_of_ble_eq_true rfl) dX6_goes_45 (fun H locs hP _ hS => ?_)
        obtain ⟨S10, eS10⟩ : ∃ z : St, z = sI S9 5 ((S9.1 5) + 1) := ⟨_, rfl⟩
        have hP : va_P D vwCl (mw a c S10) H := by rw [eS10]; exact hP
        have h := h S10 eS10
        refine lv_aload_n hx hb dX6_goes_48 rfl (lv_at hl 0 rfl) ?_
        refine lv_dup hx hb dX6_goes_49 rfl ?_
        refine va_get (D := D) (ci := 6) (v := .int (S10.1 6)) (C := RX6) (T := TX6) (N := 36) hx hb hts hinX6 hown hK hP 0 rfl rfl 15 (by decide) kf106 (fun _ h9 => h9) rfl dX6_goes_50 ?_
        refine lv_iconst (v := 1) hx hb dX6_goes_53 (by decide) ?_
        refine lv_iload_n hx hb dX6_goes_54 rfl (lv_at hl 3 rfl) ?_
        refine lv_ishl hx hb dX6_goes_55 ?_
        refine lv_ior hx hb dX6_goes_56 ?_
        refine va_put (D := D) (ci := 6) (v := .int ((S10.1 6) ||| ((1 : Int32) <<< (xl3 &&& 31)))) (ty := .int) (C := RX6) (T := TX6) (N := 36) hx hb hts hinX6 tyX6 tyX6_ok nmX6 hown hK hP (hD S10) hS 0 rfl rfl 15 (by decide) kf106 (fun _ h9 => h9) rfl (by decide +kernel) rfl rfl (Nat.le_of_ble_eq_true rfl) dX6_goes_57 (fun H locs hP _ hS => ?_)
        obtain ⟨S11, eS11⟩ : ∃ z : St, z = sI S10 6 ((S10.1 6) ||| ((1 : Int32) <<< (xl3 &&& 31))) := ⟨_, rfl⟩
        have hP : va_P D vwCl (mw a c S11) H := by rw [eS11]; exact hP
        have h := h S11 eS11
        refine lv_aload_n hx hb dX6_goes_60 rfl (lv_at hl 0 rfl) ?_
        refine lv_dup hx hb dX6_goes_61 rfl ?_
        refine va_get (D := D) (ci := 6) (v := .int (S11.1 7)) (C := RX6) (T := TX6) (N := 36) hx hb hts hinX6 hown hK hP 0 rfl rfl 16 (by decide) kf109 (fun _ h9 => h9) rfl dX6_goes_62 ?_
        refine lv_iload_n hx hb dX6_goes_65 rfl (lv_at hl 2 rfl) ?_
        refine lv_iconst (v := 1) hx hb dX6_goes_66 (by decide) ?_
        refine lv_iload_n hx hb dX6_goes_67 rfl (lv_at hl 3 rfl) ?_
        refine lv_ishl hx hb dX6_goes_68 ?_
        refine lv_iand hx hb dX6_goes_69 ?_
        refine lv_ior hx hb dX6_goes_70 ?_
        refine va_put (D := D) (ci := 6) (v := .int ((S11.1 7) ||| (xl2 &&& ((1 : Int32) <<< (xl3 &&& 31))))) (ty := .int) (C := RX6) (T := TX6) (N := 36) hx hb hts hinX6 tyX6 tyX6_ok nmX6 hown hK hP (hD S11) hS 0 rfl rfl 16 (by decide) kf109 (fun _ h9 => h9) rfl (by decide +kernel) rfl rfl (Nat.le_of_ble_eq_true rfl) dX6_goes_71 (fun H locs hP _ hS => ?_)
        obtain ⟨S12, eS12⟩ : ∃ z : St, z = sI S11 7 ((S11.1 7) ||| (xl2 &&& ((1 : Int32) <<< (xl3 &&& 31)))) := ⟨_, rfl⟩
        have hP : va_P D vwCl (mw a c S12) H := by rw [eS12]; exact hP
        have h := h S12 eS12
        refine lv_aload_n hx hb dX6_goes_74 rfl (lv_at hl 0 rfl) ?_
        refine lv_iload_n hx hb dX6_goes_75 rfl (lv_at hl 1 rfl) ?_
        refine lv_aload_n hx hb dX6_goes_76 rfl (lv_at hl 0 rfl) ?_
        refine va_get (D := D) (ci := 6) (v := .int (S12.1 6)) (C := RX6) (T := TX6) (N := 36) hx hb hts hinX6 hown hK hP 0 rfl rfl 15 (by decide) kf106 (fun _ h9 => h9) rfl dX6_goes_77 ?_
        refine lv_aload_n hx hb dX6_goes_80 rfl (lv_at hl 0 rfl) ?_
        refine va_get (D := D) (ci := 6) (v := .int (S12.1 7)) (C := RX6) (T := TX6) (N := 36) hx hb hts hinX6 hown hK hP 0 rfl rfl 16 (by decide) kf109 (fun _ h9 => h9) rfl dX6_goes_81 ?_
        refine lv_aload_n hx hb dX6_goes_84 rfl (lv_at hl 0 rfl) ?_
        refine va_get (D := D) (ci := 6) (v := .int (S12.1 5)) (C := RX6) (T := TX6) (N := 36) hx hb hts hinX6 hown hK hP 0 rfl rfl 14 (by decide) kf112 (fun _ h9 => h9) rfl dX6_goes_85 ?_
        obtain ⟨k15, h⟩ := h
        refine k_i (k_runV mns_ok ⟨hx, hb, hml, hown, hts⟩ (tX6_markOf l D a c _ k15 xl1 (S12.1 6) (S12.1 7) (S12.1 5) S12 _ h) (cwV 4 hts gX6_goes_X6_markOf rfl rfl rfl (by decide +kernel) ⟨Nat.le_of_ble_eq_true rfl, Nat.le_of_ble_eq_true rfl⟩) (va_recv hK hP (ci := 6) (q0 := 0) rfl rfl) hP hK (hD S12) hN rfl rfl hl.1 rfl (lv_room (Nat.le_of_ble_eq_true rfl)) dX6_goes_88 ⟨Nat.le_of_ble_eq_true rfl, Nat.le_of_ble_eq_true rfl⟩) hS (hD S12) hA (fun x14 S13 H locs h hP hS => ?_)
        refine lv_istore_n (lv' := [(3, .int x14), (0, .ref (a 0)), (1, .int xl1), (2, .int xl2)]) hx hb dX6_goes_91 rfl hl (by decide) rfl (fun ls hl => ?_)
        refine lv_goto (tgt := 24) hx hb dX6_goes_92 (by decide) ?_
        exact (ih) xl1 xl2 x14 S13 _ _ _ h hP hS (lv_sub hl [1, 2, 3, 0] rfl)
  unfold PX6_goes at h
  refine lv_aload_n hx hb dX6_goes_0 rfl (lv_at hl 0 rfl) ?_
  refine lv_iconst (v := 0) hx hb dX6_goes_1 (by decide) ?_
  refine va_put (D := D) (ci := 6) (v := .int 0) (ty := .int) (C := RX6) (T := TX6) (N := 36) hx hb hts hinX6 tyX6 tyX6_ok nmX6 hown hK hP (hD S) hS 0 rfl rfl 15 (by decide) kf106 (fun _ h9 => h9) rfl (by decide +kernel) rfl rfl (Nat.le_of_ble_eq_true rfl) dX6_goes_2 (fun H locs hP _ hS => ?_)
  obtain ⟨S1, eS1⟩ : ∃ z : St, z = sI S 6 0 := ⟨_, rfl⟩
  have hP : va_P D vwCl (mw a c S1) H := by rw [eS1]; exact hP
  have h := h S1 eS1
  refine lv_aload_n hx hb dX6_goes_5 rfl (lv_at hl 0 rfl) ?_
  refine lv_iconst (v := 0) hx hb dX6_goes_6 (by decide) ?_
  refine va_put (D := D) (ci := 6) (v := .int 0) (ty := .int) (C := RX6) (T := TX6) (N := 36) hx hb hts hinX6 tyX6 tyX6_ok nmX6 hown hK hP (hD S1) hS 0 rfl rfl 16 (by decide) kf109 (fun _ h9 => h9) rfl (by decide +kernel) rfl rfl (Nat.le_of_ble_eq_true rfl) dX6_goes_7 (fun H locs hP _ hS => ?_)
  obtain ⟨S2, eS2⟩ : ∃ z : St, z = sI S1 7 0 := ⟨_, rfl⟩
  have hP : va_P D vwCl (mw a c S2) H := by rw [eS2]; exact hP
  have h := h S2 eS2
  refine lv_aload_n hx hb dX6_goes_10 rfl (lv_at hl 0 rfl) ?_
  refine lv_iconst (v := 0) hx hb dX6_goes_11 (by decide) ?_
  refine va_put (D := D) (ci := 6) (v := .int 0) (ty := .int) (C := RX6) (T := TX6) (N := 36) hx hb hts hinX6 tyX6 tyX6_ok nmX6 hown hK hP (hD S2) hS 0 rfl rfl 14 (by decide) kf112 (fun _ h9 => h9) rfl (by decide +kernel) rfl rfl (Nat.le_of_ble_eq_true rfl) dX6_goes_12 (fun H locs hP _ hS => ?_)
  obtain ⟨S3, eS3⟩ : ∃ z : St, z = sI S2 5 0 := ⟨_, rfl⟩
  have hP : va_P D vwCl (mw a c S3) H := by rw [eS3]; exact hP
  have h := h S3 eS3
  refine lv_aload_n hx hb dX6_goes_15 rfl (lv_at hl 0 rfl) ?_
  refine lv_iload_n hx hb dX6_goes_16 rfl (lv_at hl 1 rfl) ?_
  refine lv_iconst (v := 0) hx hb dX6_goes_17 (by decide) ?_
  refine lv_iconst (v := 0) hx hb dX6_goes_18 (by decide) ?_
  refine lv_iconst (v := 0) hx hb dX6_goes_19 (by decide) ?_
  obtain ⟨k6, h⟩ := h
  refine k_i (k_runV mns_ok ⟨hx, hb, hml, hown, hts⟩ (tX6_markOf l D a c _ k6 p0 0 0 0 S3 _ h) (cwV 4 hts gX6_goes_X6_markOf rfl rfl rfl (by decide +kernel) ⟨Nat.le_of_ble_eq_true rfl, Nat.le_of_ble_eq_true rfl⟩) (va_recv hK hP (ci := 6) (q0 := 0) rfl rfl) hP hK (hD S3) hN rfl rfl hl.1 rfl (lv_room (Nat.le_of_ble_eq_true rfl)) dX6_goes_20 ⟨Nat.le_of_ble_eq_true rfl, Nat.le_of_ble_eq_true rfl⟩) hS (hD S3) hA (fun x5 S4 H locs h hP hS => ?_)
  refine lv_istore_n (lv' := [(3, .int x5), (0, .ref (a 0)), (1, .int p0), (2, .int p1)]) hx hb dX6_goes_23 rfl hl (by decide) rfl (fun ls hl => ?_)
  exact (key n) p0 p1 x5 S4 _ _ _ h hP hS (lv_sub hl [1, 2, 3, 0] rfl)
def PX6_isLeafOf (p0 : Int32) (S : St) (post : Int32 → St → Prop) : Prop := (vp_in p0 150 ∧ (((S.2.2 5 p0.toNatClampNeg) = 0 → post 0 S) ∧ (¬ (S.2.2 5 p0.toNatClampNeg) = 0 → (vp_in p0 150 ∧ ((((S.2.2 3 p0.toNatClampNeg) &&& (S.1 6)) = (S.1 7) → post 1 S) ∧ (¬ ((S.2.2 3 p0.toNatClampNeg) &&& (S.1 6)) = (S.1 7) → post 0 S))))))
set_option maxHeartbeats 4000000 in
set_option maxRecDepth 100000 in
theorem tX6_isLeafOf (l : Launch) (D : va_G) (a : Nat → Nat) (c : Nat → ClassId) (sz : Nat) (p0 : Int32) (S : St) (post : Int32 → St → Prop) (h : PX6_isLeafOf p0 S post) : Met l yX6_isLeafOf wsX6_isLeafOf ({ frames := 0, cells := 0, slots := 0, locals := 0 }) (va_Pc [.ref (a 0), .int p0] (gP D (mw a c) (mty c) mns S sz)) (va_Qi post (gB D (mw a c)) (va_A (mw a c S) sz)) 0 0 (va_A (mw a c S) sz) := by
  refine Met.ofW (cc := cX6_isLeafOf) (maxL := 2) (ret := (some .boolean)) (by decide) rfl ?_
  intro p e s m args below meth c9 s₁ B hml hv
  obtain ⟨rfl, hsz, hP, hK, hD0, hN⟩ := hv
  have hx := B.exec
  have hb := B.bytes
  have hr := B.returns
  have hts := atoms_spec (ws := wsX6_isLeafOf) B.pre
  have hown : s.vm.findClass RX6 = some m.cls := findClass_of_methodNamed B.named
  have hlocks := B.notSynchronized
  subst hsz
  have hD1 := hD0.self (sz := s.heap.size)
  generalize hAe : va_A (mw a c S) s.heap.size = A at hD1 ⊢
  have hA : ∀ q : Nat, s.heap.size ≤ q → A q := fun q h => by rw [← hAe]; exact Or.inr h
  have hD : ∀ S2 : St, va_D A (mw a c S2) := gD mw_F hD1
  have hS : va_S A s.heap s.heap [] := va_S.rf
  have hinX6 : ∀ w ∈ wsX60, w ∈ wsX6_isLeafOf := by decide +kernel
  have kf106 := hts (.fieldLink RX6 106 "CanteenPlanModel" "leafMask" "I") (by decide +kernel)
  have kf109 := hts (.fieldLink RX6 109 "CanteenPlanModel" "leafBits" "I") (by decide +kernel)
  have kf19 := hts (.fieldLink RX6 19 "CanteenPlanModel" "marks" "[I") (by decide +kernel)
  have kf25 := hts (.fieldLink RX6 25 "CanteenPlanModel" "isThere" "[Z") (by decide +kernel)
  have hl := lv_entry ([.ref (a 0), .int p0]) (n := 2) (Nat.le_of_ble_eq_true rfl)
  rw [lg_entry_eq]
  generalize (lg_sl ([.ref (a 0), .int p0]) ++ List.replicate (2 - (lg_sl ([.ref (a 0), .int p0])).length) Slot.unset).toArray = ls at hl ⊢
  have hl : lv_has ls 2 [(0, .ref (a 0)), (1, .int p0)] := hl
  unfold PX6_isLeafOf at h
  refine lv_aload_n hx hb dX6_isLeafOf_0 rfl (lv_at hl 0 rfl) ?_
  refine va_get (D := D) (ci := 6) (v := .ref (a 6)) (C := RX6) (T := TX6) (N := 36) hx hb hts hinX6 hown hK hP 0 rfl rfl 7 (by decide) kf25 (fun _ h9 => h9) rfl dX6_isLeafOf_1 ?_
  refine lv_iload_n hx hb dX6_isLeafOf_4 rfl (lv_at hl 1 rfl) ?_
  obtain ⟨b1, h⟩ := h
  refine va_zald hx hb hK hP 6 5 rfl rfl b1 dX6_isLeafOf_5 ?_
  refine lv_if_eq (tgt := 31) hx hb dX6_isLeafOf_6 (by decide) (fun c2 => ?_) (fun c2 => ?_)
  · have h := h.1 c2
    refine lv_iconst (v := 0) hx hb dX6_isLeafOf_31 (by decide) ?_
    exact g_retz hx hb hr hlocks (Or.inl rfl) h hP hS dX6_isLeafOf_32
  · have h := h.2 c2
    refine lv_aload_n hx hb dX6_isLeafOf_9 rfl (lv_at hl 0 rfl) ?_
    refine va_get (D := D) (ci := 6) (v := .ref (a 4)) (C := RX6) (T := TX6) (N := 36) hx hb hts hinX6 hown hK hP 0 rfl rfl 5 (by decide) kf19 (fun _ h9 => h9) rfl dX6_isLeafOf_10 ?_
    refine lv_iload_n hx hb dX6_isLeafOf_13 rfl (lv_at hl 1 rfl) ?_
    obtain ⟨b3, h⟩ := h
    refine va_iald hx hb hK hP 4 3 rfl rfl b3 dX6_isLeafOf_14 ?_
    refine lv_aload_n hx hb dX6_isLeafOf_15 rfl (lv_at hl 0 rfl) ?_
    refine va_get (D := D) (ci := 6) (v := .int (S.1 6)) (C := RX6) (T := TX6) (N := 36) hx hb hts hinX6 hown hK hP 0 rfl rfl 15 (by decide) kf106 (fun _ h9 => h9) rfl dX6_isLeafOf_16 ?_
    refine lv_iand hx hb dX6_isLeafOf_19 ?_
    refine lv_aload_n hx hb dX6_isLeafOf_20 rfl (lv_at hl 0 rfl) ?_
    refine va_get (D := D) (ci := 6) (v := .int (S.1 7)) (C := RX6) (T := TX6) (N := 36) hx hb hts hinX6 hown hK hP 0 rfl rfl 16 (by decide) kf109 (fun _ h9 => h9) rfl dX6_isLeafOf_21 ?_
    refine lv_icmp_ne (tgt := 31) hx hb dX6_isLeafOf_24 (by decide) (fun c4 => ?_) (fun c4 => ?_)
    · have h := h.2 c4
      refine lv_iconst (v := 0) hx hb dX6_isLeafOf_31 (by decide) ?_
      exact g_retz hx hb hr hlocks (Or.inl rfl) h hP hS dX6_isLeafOf_32
    · have h := h.1 c4
      refine lv_iconst (v := 1) hx hb dX6_isLeafOf_27 (by decide) ?_
      refine lv_goto (tgt := 32) hx hb dX6_isLeafOf_28 (by decide) ?_
      exact g_retz hx hb hr hlocks (Or.inr rfl) h hP hS dX6_isLeafOf_32
def PX6_split (p0 : Int32) (p1 : Int32) (p2 : Int32) (S : St) (post : Int32 → St → Prop) : Prop := PX6_isMeal p0 S (fun x2 S1 => ((x2 = 0 → post 0 S1) ∧ (¬ x2 = 0 → PX6_isBits p1 S1 (fun x5 S4 => ((x5 = 0 → PX6_bad 1 2 S4 (fun x16 S15 => ((x16 = 0 → ∃ k : Nat, PX6_goes k p0 p1 S15 (fun S18 => ((p2 < 0 → post (-1) S18) ∧ (¬ p2 < 0 → (((S18.1 5) ≤ p2 → post (-1) S18) ∧ (¬ (S18.1 5) ≤ p2 → (vp_in p2 5 ∧ post (S18.2.2 6 p2.toNatClampNeg) S18))))))) ∧ (¬ x16 = 0 → post 0 S15)))) ∧ (¬ x5 = 0 → PX6_bad 0 2 S4 (fun x8 S7 => ((x8 = 0 → ∃ k : Nat, PX6_goes k p0 p1 S7 (fun S10 => ((p2 < 0 → post (-1) S10) ∧ (¬ p2 < 0 → (((S10.1 5) ≤ p2 → post (-1) S10) ∧ (¬ (S10.1 5) ≤ p2 → (vp_in p2 5 ∧ post (S10.2.2 6 p2.toNatClampNeg) S10))))))) ∧ (¬ x8 = 0 → post 0 S7)))))))))
set_option maxHeartbeats 4000000 in
set_option maxRecDepth 100000 in
theorem tX6_split (l : Launch) (D : va_G) (a : Nat → Nat) (c : Nat → ClassId) (sz : Nat) (p0 : Int32) (p1 : Int32) (p2 : Int32) (S : St) (post : Int32 → St → Prop) (h : PX6_split p0 p1 p2 S post) : Met l yX6_split wsX6_split ({ frames := 3, cells := 0, slots := 0, locals := 91 }) (va_Pc [.ref (a 0), .int p0, .int p1, .int p2] (gP D (mw a c) (mty c) mns S sz)) (va_Qi post (gB D (mw a c)) (va_A (mw a c S) sz)) 0 0 (va_A (mw a c S) sz) := by
  refine Met.ofW (cc := cX6_split) (maxL := 4) (ret := (some .int)) (by decide) rfl ?_
  intro p e s m args below meth c9 s₁ B hml hv
  obtain ⟨rfl, hsz, hP, hK, hD0, hN⟩ := hv
  have hx := B.exec
  have hb := B.bytes
  have hr := B.returns
  have hts := atoms_spec (ws := wsX6_split) B.pre
  have hown : s.vm.findClass RX6 = some m.cls := findClass_of_methodNamed B.named
  have hlocks := B.notSynchronized
  subst hsz
  have hD1 := hD0.self (sz := s.heap.size)
  generalize hAe : va_A (mw a c S) s.heap.size = A at hD1 ⊢
  have hA : ∀ q : Nat, s.heap.size ≤ q → A q := fun q h => by rw [← hAe]; exact Or.inr h
  have hD : ∀ S2 : St, va_D A (mw a c S2) := gD mw_F hD1
  have hS : va_S A s.heap s.heap [] := va_S.rf
  have hinX6 : ∀ w ∈ wsX60, w ∈ wsX6_split := by decide +kernel
  have kf112 := hts (.fieldLink RX6 112 "CanteenPlanModel" "wayMany" "I") (by decide +kernel)
  have kf29 := hts (.fieldLink RX6 29 "CanteenPlanModel" "way" "[I") (by decide +kernel)
  have hl := lv_entry ([.ref (a 0), .int p0, .int p1, .int p2]) (n := 4) (Nat.le_of_ble_eq_true rfl)
  rw [lg_entry_eq]
  generalize (lg_sl ([.ref (a 0), .int p0, .int p1, .int p2]) ++ List.replicate (4 - (lg_sl ([.ref (a 0), .int p0, .int p1, .int p2])).length) Slot.unset).toArray = ls at hl ⊢
  have hl : lv_has ls 4 [(0, .ref (a 0)), (1, .int p0), (2, .int p1), (3, .int p2)] := hl
  unfold PX6_split at h
  refine lv_aload_n hx hb dX6_split_0 rfl (lv_at hl 0 rfl) ?_
  refine lv_iload_n hx hb dX6_split_1 rfl (lv_at hl 1 rfl) ?_
  refine k_i (k_runV mns_ok ⟨hx, hb, hml, hown, hts⟩ (tX6_isMeal l D a c _ p0 S _ h) (cwV 1 hts gX6_split_X6_isMeal rfl rfl rfl (by decide +kernel) ⟨Nat.le_of_ble_eq_true rfl, Nat.le_of_ble_eq_true rfl⟩) (va_recv hK hP (ci := 6) (q0 := 0) rfl rfl) hP hK (hD S) hN rfl rfl hl.1 rfl (lv_room (Nat.le_of_ble_eq_true rfl)) dX6_split_2 ⟨Nat.le_of_ble_eq_true rfl, Nat.le_of_ble_eq_true rfl⟩) hS (hD S) hA (fun x2 S1 H locs h hP hS => ?_)
  refine lv_if_eq (tgt := 28) hx hb dX6_split_5 (by decide) (fun c3 => ?_) (fun c3 => ?_)
  · have h := h.1 c3
    refine lv_iconst (v := 0) hx hb dX6_split_28 (by decide) ?_
    exact g_reti hx hb hr hlocks h hP hS dX6_split_29
  · have h := h.2 c3
    refine lv_aload_n hx hb dX6_split_8 rfl (lv_at hl 0 rfl) ?_
    refine lv_iload_n hx hb dX6_split_9 rfl (lv_at hl 2 rfl) ?_
    refine k_i (k_runS mns_ok ⟨hx, hb, hml, hown, hts⟩ (tX6_isBits l D a c _ p1 S1 _ h) (va_cwS 1 hts gX6_split_X6_isBits rfl rfl rfl (by decide +kernel) ⟨Nat.le_of_ble_eq_true rfl, Nat.le_of_ble_eq_true rfl⟩) hP hK (hD S1) hN rfl rfl hl.1 rfl (lv_room (Nat.le_of_ble_eq_true rfl)) dX6_split_10 ⟨Nat.le_of_ble_eq_true rfl, Nat.le_of_ble_eq_true rfl⟩) hS (hD S1) hA (fun x5 S4 H locs h hP hS => ?_)
    refine lv_if_ne (tgt := 20) hx hb dX6_split_13 (by decide) (fun c6 => ?_) (fun c6 => ?_)
    · have h := h.2 c6
      refine lv_iconst (v := 0) hx hb dX6_split_20 (by decide) ?_
      refine lv_iconst (v := 2) hx hb dX6_split_21 (by decide) ?_
      refine k_i (k_runV mns_ok ⟨hx, hb, hml, hown, hts⟩ (tX6_bad l D a c _ 0 2 S4 _ h) (cwV 2 hts gX6_split_X6_bad rfl rfl rfl (by decide +kernel) ⟨Nat.le_of_ble_eq_true rfl, Nat.le_of_ble_eq_true rfl⟩) (va_recv hK hP (ci := 6) (q0 := 0) rfl rfl) hP hK (hD S4) hN rfl rfl hl.1 rfl (lv_room (Nat.le_of_ble_eq_true rfl)) dX6_split_22 ⟨Nat.le_of_ble_eq_true rfl, Nat.le_of_ble_eq_true rfl⟩) hS (hD S4) hA (fun x8 S7 H locs h hP hS => ?_)
      refine lv_if_eq (tgt := 30) hx hb dX6_split_25 (by decide) (fun c9 => ?_) (fun c9 => ?_)
      · have h := h.1 c9
        refine lv_aload_n hx hb dX6_split_30 rfl (lv_at hl 0 rfl) ?_
        refine lv_iload_n hx hb dX6_split_31 rfl (lv_at hl 1 rfl) ?_
        refine lv_iload_n hx hb dX6_split_32 rfl (lv_at hl 2 rfl) ?_
        obtain ⟨k11, h⟩ := h
        refine k_v (k_runV mns_ok ⟨hx, hb, hml, hown, hts⟩ (tX6_goes l D a c _ k11 p0 p1 S7 _ h) (cwV 2 hts gX6_split_X6_goes rfl rfl rfl (by decide +kernel) ⟨Nat.le_of_ble_eq_true rfl, Nat.le_of_ble_eq_true rfl⟩) (va_recv hK hP (ci := 6) (q0 := 0) rfl rfl) hP hK (hD S7) hN rfl rfl hl.1 rfl (lv_room (Nat.le_of_ble_eq_true rfl)) dX6_split_33 ⟨Nat.le_of_ble_eq_true rfl, Nat.le_of_ble_eq_true rfl⟩) hS (hD S7) hA (fun S10 H locs h hP hS => ?_)
        refine lv_iload_n hx hb dX6_split_36 rfl (lv_at hl 3 rfl) ?_
        refine lv_if_lt (tgt := 57) hx hb dX6_split_37 (by decide) (fun c12 => ?_) (fun c12 => ?_)
        · have h := h.1 c12
          refine lv_iconst (v := (-1)) hx hb dX6_split_57 (by decide) ?_
          exact g_reti hx hb hr hlocks h hP hS dX6_split_58
        · have h := h.2 c12
          refine lv_iload_n hx hb dX6_split_40 rfl (lv_at hl 3 rfl) ?_
          refine lv_aload_n hx hb dX6_split_41 rfl (lv_at hl 0 rfl) ?_
          refine va_get (D := D) (ci := 6) (v := .int (S10.1 5)) (C := RX6) (T := TX6) (N := 36) hx hb hts hinX6 hown hK hP 0 rfl rfl 14 (by decide) kf112 (fun _ h9 => h9) rfl dX6_split_42 ?_
          refine lv_icmp_ge (tgt := 57) hx hb dX6_split_45 (by decide) (fun c13 => ?_) (fun c13 => ?_)
          · have h := h.1 c13
            refine lv_iconst (v := (-1)) hx hb dX6_split_57 (by decide) ?_
            exact g_reti hx hb hr hlocks h hP hS dX6_split_58
          · have h := h.2 c13
            refine lv_aload_n hx hb dX6_split_48 rfl (lv_at hl 0 rfl) ?_
            refine va_get (D := D) (ci := 6) (v := .ref (a 7)) (C := RX6) (T := TX6) (N := 36) hx hb hts hinX6 hown hK hP 0 rfl rfl 13 (by decide) kf29 (fun _ h9 => h9) rfl dX6_split_49 ?_
            refine lv_iload_n hx hb dX6_split_52 rfl (lv_at hl 3 rfl) ?_
            obtain ⟨b14, h⟩ := h
            refine va_iald hx hb hK hP 7 6 rfl rfl b14 dX6_split_53 ?_
            refine lv_goto (tgt := 58) hx hb dX6_split_54 (by decide) ?_
            exact g_reti hx hb hr hlocks h hP hS dX6_split_58
      · have h := h.2 c9
        refine lv_iconst (v := 0) hx hb dX6_split_28 (by decide) ?_
        exact g_reti hx hb hr hlocks h hP hS dX6_split_29
    · have h := h.1 c6
      refine lv_iconst (v := 1) hx hb dX6_split_16 (by decide) ?_
      refine lv_goto (tgt := 21) hx hb dX6_split_17 (by decide) ?_
      refine lv_iconst (v := 2) hx hb dX6_split_21 (by decide) ?_
      refine k_i (k_runV mns_ok ⟨hx, hb, hml, hown, hts⟩ (tX6_bad l D a c _ 1 2 S4 _ h) (cwV 2 hts gX6_split_X6_bad rfl rfl rfl (by decide +kernel) ⟨Nat.le_of_ble_eq_true rfl, Nat.le_of_ble_eq_true rfl⟩) (va_recv hK hP (ci := 6) (q0 := 0) rfl rfl) hP hK (hD S4) hN rfl rfl hl.1 rfl (lv_room (Nat.le_of_ble_eq_true rfl)) dX6_split_22 ⟨Nat.le_of_ble_eq_true rfl, Nat.le_of_ble_eq_true rfl⟩) hS (hD S4) hA (fun x16 S15 H locs h hP hS => ?_)
      refine lv_if_eq (tgt := 30) hx hb dX6_split_25 (by decide) (fun c17 => ?_) (fun c17 => ?_)
      · have h := h.1 c17
        refine lv_aload_n hx hb dX6_split_30 rfl (lv_at hl 0 rfl) ?_
        refine lv_iload_n hx hb dX6_split_31 rfl (lv_at hl 1 rfl) ?_
        refine lv_iload_n hx hb dX6_split_32 rfl (lv_at hl 2 rfl) ?_
        obtain ⟨k19, h⟩ := h
        refine k_v (k_runV mns_ok ⟨hx, hb, hml, hown, hts⟩ (tX6_goes l D a c _ k19 p0 p1 S15 _ h) (cwV 2 hts gX6_split_X6_goes rfl rfl rfl (by decide +kernel) ⟨Nat.le_of_ble_eq_true rfl, Nat.le_of_ble_eq_true rfl⟩) (va_recv hK hP (ci := 6) (q0 := 0) rfl rfl) hP hK (hD S15) hN rfl rfl hl.1 rfl (lv_room (Nat.le_of_ble_eq_true rfl)) dX6_split_33 ⟨Nat.le_of_ble_eq_true rfl, Nat.le_of_ble_eq_true rfl⟩) hS (hD S15) hA (fun S18 H locs h hP hS => ?_)
        refine lv_iload_n hx hb dX6_split_36 rfl (lv_at hl 3 rfl) ?_
        refine lv_if_lt (tgt := 57) hx hb dX6_split_37 (by decide) (fun c20 => ?_) (fun c20 => ?_)
        · have h := h.1 c20
          refine lv_iconst (v := (-1)) hx hb dX6_split_57 (by decide) ?_
          exact g_reti hx hb hr hlocks h hP hS dX6_split_58
        · have h := h.2 c20
          refine lv_iload_n hx hb dX6_split_40 rfl (lv_at hl 3 rfl) ?_
          refine lv_aload_n hx hb dX6_split_41 rfl (lv_at hl 0 rfl) ?_
          refine va_get (D := D) (ci := 6) (v := .int (S18.1 5)) (C := RX6) (T := TX6) (N := 36) hx hb hts hinX6 hown hK hP 0 rfl rfl 14 (by decide) kf112 (fun _ h9 => h9) rfl dX6_split_42 ?_
          refine lv_icmp_ge (tgt := 57) hx hb dX6_split_45 (by decide) (fun c21 => ?_) (fun c21 => ?_)
          · have h := h.1 c21
            refine lv_iconst (v := (-1)) hx hb dX6_split_57 (by decide) ?_
            exact g_reti hx hb hr hlocks h hP hS dX6_split_58
          · have h := h.2 c21
            refine lv_aload_n hx hb dX6_split_48 rfl (lv_at hl 0 rfl) ?_
            refine va_get (D := D) (ci := 6) (v := .ref (a 7)) (C := RX6) (T := TX6) (N := 36) hx hb hts hinX6 hown hK hP 0 rfl rfl 13 (by decide) kf29 (fun _ h9 => h9) rfl dX6_split_49 ?_
            refine lv_iload_n hx hb dX6_split_52 rfl (lv_at hl 3 rfl) ?_
            obtain ⟨b22, h⟩ := h
            refine va_iald hx hb hK hP 7 6 rfl rfl b22 dX6_split_53 ?_
            refine lv_goto (tgt := 58) hx hb dX6_split_54 (by decide) ?_
            exact g_reti hx hb hr hlocks h hP hS dX6_split_58
      · have h := h.2 c17
        refine lv_iconst (v := 0) hx hb dX6_split_28 (by decide) ?_
        exact g_reti hx hb hr hlocks h hP hS dX6_split_29
def BX6_leaf_0 (X : Nat → Int32 → Int32 → Int32 → Int32 → Int32 → Int32 → Int32 → Int32 → Int32 → Int32 → St → Prop) (post : Int32 → St → Prop) (xl1 : Int32) (xl2 : Int32) (xl3 : Int32) (xl4 : Int32) (xl5 : Int32) (xl6 : Int32) (xl7 : Int32) (xl8 : Int32) (xl9 : Int32) (xs0 : Int32) (S : St) : Prop := PX6_bad xs0 2 S (fun x10 S9 => ((x10 = 0 → ∃ k : Nat, PX6_goes k xl1 xl2 S9 (fun S12 => X 1 xl1 0 xl3 0 0 0 0 0 0 0 S12)) ∧ (¬ x10 = 0 → post 0 S9)))
def BX6_leaf_1 (X : Nat → Int32 → Int32 → Int32 → Int32 → Int32 → Int32 → Int32 → Int32 → Int32 → Int32 → St → Prop) (post : Int32 → St → Prop) (xl1 : Int32) (xl2 : Int32) (xl3 : Int32) (xl4 : Int32) (xl5 : Int32) (xl6 : Int32) (xl7 : Int32) (xl8 : Int32) (xl9 : Int32) (xs0 : Int32) (S : St) : Prop := (((S.1 2) ≤ xl8 → ((xl3 = 0 → post xl4 S) ∧ (¬ xl3 = 0 → ((xl3 = 1 → post xl5 S) ∧ (¬ xl3 = 1 → ((xl3 = 2 → post xl6 S) ∧ (¬ xl3 = 2 → post xl7 S))))))) ∧ (¬ (S.1 2) ≤ xl8 → PX6_isLeafOf xl8 S (fun x19 S18 => ((x19 = 0 → ∀ x25 : Int32, x25 = xl8 + 1 → X 1 xl1 0 xl3 xl4 xl5 xl6 xl7 x25 0 0 S18) ∧ (¬ x19 = 0 → (vp_in ((6 * xl8) + xl1) 900 ∧ ∀ x22 : Int32, x22 = (S18.2.2 4 ((6 * xl8) + xl1).toNatClampNeg) → ((xl4 = 0 → X 2 xl1 0 xl3 xl4 xl5 0 xl7 xl8 x22 x22 S18) ∧ (¬ xl4 = 0 → ((xl6 ≤ x22 → X 2 xl1 0 xl3 xl4 xl5 0 xl7 xl8 x22 xl6 S18) ∧ (¬ xl6 ≤ x22 → X 2 xl1 0 xl3 xl4 xl5 0 xl7 xl8 x22 x22 S18))))))))))
def BX6_leaf_2 (X : Nat → Int32 → Int32 → Int32 → Int32 → Int32 → Int32 → Int32 → Int32 → Int32 → Int32 → St → Prop) (post : Int32 → St → Prop) (xl1 : Int32) (xl2 : Int32) (xl3 : Int32) (xl4 : Int32) (xl5 : Int32) (xl6 : Int32) (xl7 : Int32) (xl8 : Int32) (xl9 : Int32) (xs0 : Int32) (S : St) : Prop := ((xl4 = 0 → ∀ x27 : Int32, x27 = xl4 + 1 → ∀ x28 : Int32, x28 = (xl5 + xl9) → ∀ x29 : Int32, x29 = xl8 + 1 → X 1 xl1 0 xl3 x27 x28 xs0 xl9 x29 0 0 S) ∧ (¬ xl4 = 0 → ((xl9 ≤ xl7 → ∀ x31 : Int32, x31 = xl4 + 1 → ∀ x32 : Int32, x32 = (xl5 + xl9) → ∀ x33 : Int32, x33 = xl8 + 1 → X 1 xl1 0 xl3 x31 x32 xs0 xl7 x33 0 0 S) ∧ (¬ xl9 ≤ xl7 → ∀ x34 : Int32, x34 = xl4 + 1 → ∀ x35 : Int32, x35 = (xl5 + xl9) → ∀ x36 : Int32, x36 = xl8 + 1 → X 1 xl1 0 xl3 x34 x35 xs0 xl9 x36 0 0 S))))
def LX6_leaf (post : Int32 → St → Prop) : Nat → Nat → Int32 → Int32 → Int32 → Int32 → Int32 → Int32 → Int32 → Int32 → Int32 → Int32 → St → Prop
  | 0, _, _, _, _, _, _, _, _, _, _, _, _ => False
  | n + 1, 0, xl1, xl2, xl3, xl4, xl5, xl6, xl7, xl8, xl9, xs0, S => BX6_leaf_0 (LX6_leaf post n) post xl1 xl2 xl3 xl4 xl5 xl6 xl7 xl8 xl9 xs0 S
  | n + 1, 1, xl1, xl2, xl3, xl4, xl5, xl6, xl7, xl8, xl9, xs0, S => BX6_leaf_1 (LX6_leaf post n) post xl1 xl2 xl3 xl4 xl5 xl6 xl7 xl8 xl9 xs0 S
  | n + 1, 2, xl1, xl2, xl3, xl4, xl5, xl6, xl7, xl8, xl9, xs0, S => BX6_leaf_2 (LX6_leaf post n) post xl1 xl2 xl3 xl4 xl5 xl6 xl7 xl8 xl9 xs0 S
  | _ + 1, _ + 3, _, _, _, _, _, _, _, _, _, _, _ => False
def PX6_leaf (n : Nat) (p0 : Int32) (p1 : Int32) (p2 : Int32) (S : St) (post : Int32 → St → Prop) : Prop := PX6_isMeal p0 S (fun x2 S1 => ((x2 = 0 → post 0 S1) ∧ (¬ x2 = 0 → PX6_isBits p1 S1 (fun x5 S4 => ((x5 = 0 → LX6_leaf post n 0 p0 p1 p2 0 0 0 0 0 0 1 S4) ∧ (¬ x5 = 0 → ((p2 < 0 → LX6_leaf post n 0 p0 p1 p2 0 0 0 0 0 0 1 S4) ∧ (¬ p2 < 0 → ((p2 ≤ 3 → LX6_leaf post n 0 p0 p1 p2 0 0 0 0 0 0 0 S4) ∧ (¬ p2 ≤ 3 → LX6_leaf post n 0 p0 p1 p2 0 0 0 0 0 0 1 S4))))))))))
set_option maxHeartbeats 4000000 in
set_option maxRecDepth 100000 in
theorem tX6_leaf (l : Launch) (D : va_G) (a : Nat → Nat) (c : Nat → ClassId) (sz : Nat) (n : Nat) (p0 : Int32) (p1 : Int32) (p2 : Int32) (S : St) (post : Int32 → St → Prop) (h : PX6_leaf n p0 p1 p2 S post) : Met l yX6_leaf wsX6_leaf ({ frames := 3, cells := 0, slots := 0, locals := 91 }) (va_Pc [.ref (a 0), .int p0, .int p1, .int p2] (gP D (mw a c) (mty c) mns S sz)) (va_Qi post (gB D (mw a c)) (va_A (mw a c S) sz)) 0 0 (va_A (mw a c S) sz) := by
  refine Met.ofW (cc := cX6_leaf) (maxL := 10) (ret := (some .int)) (by decide) rfl ?_
  intro p e s m args below meth c9 s₁ B hml hv
  obtain ⟨rfl, hsz, hP, hK, hD0, hN⟩ := hv
  have hx := B.exec
  have hb := B.bytes
  have hr := B.returns
  have hts := atoms_spec (ws := wsX6_leaf) B.pre
  have hown : s.vm.findClass RX6 = some m.cls := findClass_of_methodNamed B.named
  have hlocks := B.notSynchronized
  subst hsz
  have hD1 := hD0.self (sz := s.heap.size)
  generalize hAe : va_A (mw a c S) s.heap.size = A at hD1 ⊢
  have hA : ∀ q : Nat, s.heap.size ≤ q → A q := fun q h => by rw [← hAe]; exact Or.inr h
  have hD : ∀ S2 : St, va_D A (mw a c S2) := gD mw_F hD1
  have hS : va_S A s.heap s.heap [] := va_S.rf
  have hinX6 : ∀ w ∈ wsX60, w ∈ wsX6_leaf := by decide +kernel
  have kf22 := hts (.fieldLink RX6 22 "CanteenPlanModel" "eaten" "[I") (by decide +kernel)
  have kf77 := hts (.fieldLink RX6 77 "CanteenPlanModel" "days" "I") (by decide +kernel)
  have hl := lv_entry ([.ref (a 0), .int p0, .int p1, .int p2]) (n := 10) (Nat.le_of_ble_eq_true rfl)
  rw [lg_entry_eq]
  generalize (lg_sl ([.ref (a 0), .int p0, .int p1, .int p2]) ++ List.replicate (10 - (lg_sl ([.ref (a 0), .int p0, .int p1, .int p2])).length) Slot.unset).toArray = ls at hl ⊢
  have hl : lv_has ls 10 [(0, .ref (a 0)), (1, .int p0), (2, .int p1), (3, .int p2)] := hl
  have key : ∀ n : Nat, (∀ (xl1 : Int32) (xl2 : Int32) (xl3 : Int32) (xs0 : Int32) (S : St) (H : Heap) (locs : List Loc) (ls : Array Slot), LX6_leaf post n 0 xl1 xl2 xl3 0 0 0 0 0 0 xs0 S → va_P D vwCl (mw a c S) H → va_S A s.heap H locs → lv_has ls 10 [(0, .ref (a 0)), (1, .int xl1), (2, .int xl2), (3, .int xl3)] → W p l e ((headSpec wsX6_leaf ({ frames := 3, cells := 0, slots := 0, locals := 91 })).room) s m ([.ref (a 0), .int p0, .int p1, .int p2]).toArray below meth c9 H locs 0 0 (MQ below (va_Qi post (gB D (mw a c)) A) ([.ref (a 0), .int p0, .int p1, .int p2]).toArray s 0 0 A) (F0 m 30 ls [.int xs0, .ref (a 0)])) ∧ (∀ (xl1 : Int32) (xl3 : Int32) (xl4 : Int32) (xl5 : Int32) (xl6 : Int32) (xl7 : Int32) (xl8 : Int32) (S : St) (H : Heap) (locs : List Loc) (ls : Array Slot), LX6_leaf post n 1 xl1 0 xl3 xl4 xl5 xl6 xl7 xl8 0 0 S → va_P D vwCl (mw a c S) H → va_S A s.heap H locs → lv_has ls 10 [(0, .ref (a 0)), (1, .int xl1), (3, .int xl3), (4, .int xl4), (5, .int xl5), (6, .int xl6), (7, .int xl7), (8, .int xl8)] → W p l e ((headSpec wsX6_leaf ({ frames := 3, cells := 0, slots := 0, locals := 91 })).room) s m ([.ref (a 0), .int p0, .int p1, .int p2]).toArray below meth c9 H locs 0 0 (MQ below (va_Qi post (gB D (mw a c)) A) ([.ref (a 0), .int p0, .int p1, .int p2]).toArray s 0 0 A) (F0 m 60 ls [])) ∧ (∀ (xl1 : Int32) (xl3 : Int32) (xl4 : Int32) (xl5 : Int32) (xl7 : Int32) (xl8 : Int32) (xl9 : Int32) (xs0 : Int32) (S : St) (H : Heap) (locs : List Loc) (ls : Array Slot), LX6_leaf post n 2 xl1 0 xl3 xl4 xl5 0 xl7 xl8 xl9 xs0 S → va_P D vwCl (mw a c S) H → va_S A s.heap H locs → lv_has ls 10 [(0, .ref (a 0)), (1, .int xl1), (3, .int xl3), (4, .int xl4), (5, .int xl5), (7, .int xl7), (8, .int xl8), (9, .int xl9)] → W p l e ((headSpec wsX6_leaf ({ frames := 3, cells := 0, slots := 0, locals := 91 })).room) s m ([.ref (a 0), .int p0, .int p1, .int p2]).toArray below meth c9 H locs 0 0 (MQ below (va_Qi post (gB D (mw a c)) A) ([.ref (a 0), .int p0, .int p1, .int p2]).toArray s 0 0 A) (F0 m 114 ls [.int xs0])) := by
    intro n
    induction n with
    | zero => exact ⟨fun xl1 xl2 xl3 xs0 S H locs ls h => h.elim, fun xl1 xl3 xl4 xl5 xl6 xl7 xl8 S H locs ls h => h.elim, fun xl1 xl3 xl4 xl5 xl7 xl8 xl9 xs0 S H locs ls h => h.elim⟩
    | succ n ih =>
      refine ⟨?_, ?_, ?_⟩
      · intro xl1 xl2 xl3 xs0 S H locs ls h hP hS hl
        have h : BX6_leaf_0 (LX6_leaf post n) post xl1 xl2 xl3 0 0 0 0 0 0 xs0 S := h
        unfold BX6_leaf_0 at h
        refine lv_iconst (v := 2) hx hb dX6_leaf_30 (by decide) ?_
        refine k_i (k_runV mns_ok ⟨hx, hb, hml, hown, hts⟩ (tX6_bad l D a c _ xs0 2 S _ h) (cwV 2 hts gX6_leaf_X6_bad rfl rfl rfl (by decide +kernel) ⟨Nat.le_of_ble_eq_true rfl, Nat.le_of_ble_eq_true rfl⟩) (va_recv hK hP (ci := 6) (q0 := 0) rfl rfl) hP hK (hD S) hN rfl rfl hl.1 rfl (lv_room (Nat.le_of_ble_eq_true rfl)) dX6_leaf_31 ⟨Nat.le_of_ble_eq_true rfl, Nat.le_of_ble_eq_true rfl⟩) hS (hD S) hA (fun x10 S9 H locs h hP hS => ?_)
        refine lv_if_eq (tgt := 39) hx hb dX6_leaf_34 (by decide) (fun c11 => ?_) (fun c11 => ?_)
        · have h := h.1 c11
          refine lv_aload_n hx hb dX6_leaf_39 rfl (lv_at hl 0 rfl) ?_
          refine lv_iload_n hx hb dX6_leaf_40 rfl (lv_at hl 1 rfl) ?_
          refine lv_iload_n hx hb dX6_leaf_41 rfl (lv_at hl 2 rfl) ?_
          obtain ⟨k13, h⟩ := h
          refine k_v (k_runV mns_ok ⟨hx, hb, hml, hown, hts⟩ (tX6_goes l D a c _ k13 xl1 xl2 S9 _ h) (cwV 2 hts gX6_leaf_X6_goes rfl rfl rfl (by decide +kernel) ⟨Nat.le_of_ble_eq_true rfl, Nat.le_of_ble_eq_true rfl⟩) (va_recv hK hP (ci := 6) (q0 := 0) rfl rfl) hP hK (hD S9) hN rfl rfl hl.1 rfl (lv_room (Nat.le_of_ble_eq_true rfl)) dX6_leaf_42 ⟨Nat.le_of_ble_eq_true rfl, Nat.le_of_ble_eq_true rfl⟩) hS (hD S9) hA (fun S12 H locs h hP hS => ?_)
          refine lv_iconst (v := 0) hx hb dX6_leaf_45 (by decide) ?_
          refine lv_istore (lv' := [(4, .int 0), (0, .ref (a 0)), (1, .int xl1), (2, .int xl2), (3, .int xl3)]) hx hb dX6_leaf_46 hl (by decide) rfl (fun ls hl => ?_)
          refine lv_iconst (v := 0) hx hb dX6_leaf_48 (by decide) ?_
          refine lv_istore (lv' := [(5, .int 0), (4, .int 0), (0, .ref (a 0)), (1, .int xl1), (2, .int xl2), (3, .int xl3)]) hx hb dX6_leaf_49 hl (by decide) rfl (fun ls hl => ?_)
          refine lv_iconst (v := 0) hx hb dX6_leaf_51 (by decide) ?_
          refine lv_istore (lv' := [(6, .int 0), (5, .int 0), (4, .int 0), (0, .ref (a 0)), (1, .int xl1), (2, .int xl2), (3, .int xl3)]) hx hb dX6_leaf_52 hl (by decide) rfl (fun ls hl => ?_)
          refine lv_iconst (v := 0) hx hb dX6_leaf_54 (by decide) ?_
          refine lv_istore (lv' := [(7, .int 0), (6, .int 0), (5, .int 0), (4, .int 0), (0, .ref (a 0)), (1, .int xl1), (2, .int xl2), (3, .int xl3)]) hx hb dX6_leaf_55 hl (by decide) rfl (fun ls hl => ?_)
          refine lv_iconst (v := 0) hx hb dX6_leaf_57 (by decide) ?_
          refine lv_istore (lv' := [(8, .int 0), (7, .int 0), (6, .int 0), (5, .int 0), (4, .int 0), (0, .ref (a 0)), (1, .int xl1), (2, .int xl2), (3, .int xl3)]) hx hb dX6_leaf_58 hl (by decide) rfl (fun ls hl => ?_)
          exact (ih).2.1 xl1 xl3 0 0 0 0 0 S12 _ _ _ h hP hS (lv_sub hl [5, 6, 8, 4, 3, 2, 1, 0] rfl)
        · have h := h.2 c11
          refine lv_iconst (v := 0) hx hb dX6_leaf_37 (by decide) ?_
          exact g_reti hx hb hr hlocks h hP hS dX6_leaf_38
      · intro xl1 xl3 xl4 xl5 xl6 xl7 xl8 S H locs ls h hP hS hl
        have h : BX6_leaf_1 (LX6_leaf post n) post xl1 0 xl3 xl4 xl5 xl6 xl7 xl8 0 0 S := h
        unfold BX6_leaf_1 at h
        refine lv_iload hx hb dX6_leaf_60 (lv_at hl 7 rfl) ?_
        refine lv_aload_n hx hb dX6_leaf_62 rfl (lv_at hl 0 rfl) ?_
        refine va_get (D := D) (ci := 6) (v := .int (S.1 2)) (C := RX6) (T := TX6) (N := 36) hx hb hts hinX6 hown hK hP 0 rfl rfl 8 (by decide) kf77 (fun _ h9 => h9) rfl dX6_leaf_63 ?_
        refine lv_icmp_ge (tgt := 153) hx hb dX6_leaf_66 (by decide) (fun c14 => ?_) (fun c14 => ?_)
        · have h := h.1 c14
          refine lv_iload_n hx hb dX6_leaf_153 rfl (lv_at hl 2 rfl) ?_
          refine lv_if_ne (tgt := 162) hx hb dX6_leaf_154 (by decide) (fun c15 => ?_) (fun c15 => ?_)
          · have h := h.2 c15
            refine lv_iload_n hx hb dX6_leaf_162 rfl (lv_at hl 2 rfl) ?_
            refine lv_iconst (v := 1) hx hb dX6_leaf_163 (by decide) ?_
            refine lv_icmp_ne (tgt := 172) hx hb dX6_leaf_164 (by decide) (fun c16 => ?_) (fun c16 => ?_)
            · have h := h.2 c16
              refine lv_iload_n hx hb dX6_leaf_172 rfl (lv_at hl 2 rfl) ?_
              refine lv_iconst (v := 2) hx hb dX6_leaf_173 (by decide) ?_
              refine lv_icmp_ne (tgt := 182) hx hb dX6_leaf_174 (by decide) (fun c17 => ?_) (fun c17 => ?_)
              · have h := h.2 c17
                refine lv_iload hx hb dX6_leaf_182 (lv_at hl 6 rfl) ?_
                exact g_reti hx hb hr hlocks h hP hS dX6_leaf_184
              · have h := h.1 c17
                refine lv_iload hx hb dX6_leaf_177 (lv_at hl 5 rfl) ?_
                refine lv_goto (tgt := 184) hx hb dX6_leaf_179 (by decide) ?_
                exact g_reti hx hb hr hlocks h hP hS dX6_leaf_184
            · have h := h.1 c16
              refine lv_iload hx hb dX6_leaf_167 (lv_at hl 4 rfl) ?_
              refine lv_goto (tgt := 184) hx hb dX6_leaf_169 (by decide) ?_
              exact g_reti hx hb hr hlocks h hP hS dX6_leaf_184
          · have h := h.1 c15
            refine lv_iload hx hb dX6_leaf_157 (lv_at hl 3 rfl) ?_
            refine lv_goto (tgt := 184) hx hb dX6_leaf_159 (by decide) ?_
            exact g_reti hx hb hr hlocks h hP hS dX6_leaf_184
        · have h := h.2 c14
          refine lv_aload_n hx hb dX6_leaf_69 rfl (lv_at hl 0 rfl) ?_
          refine lv_iload hx hb dX6_leaf_70 (lv_at hl 7 rfl) ?_
          refine k_i (k_runV mns_ok ⟨hx, hb, hml, hown, hts⟩ (tX6_isLeafOf l D a c _ xl8 S _ h) (cwV 1 hts gX6_leaf_X6_isLeafOf rfl rfl rfl (by decide +kernel) ⟨Nat.le_of_ble_eq_true rfl, Nat.le_of_ble_eq_true rfl⟩) (va_recv hK hP (ci := 6) (q0 := 0) rfl rfl) hP hK (hD S) hN rfl rfl hl.1 rfl (lv_room (Nat.le_of_ble_eq_true rfl)) dX6_leaf_72 ⟨Nat.le_of_ble_eq_true rfl, Nat.le_of_ble_eq_true rfl⟩) hS (hD S) hA (fun x19 S18 H locs h hP hS => ?_)
          refine lv_if_ne (tgt := 81) hx hb dX6_leaf_75 (by decide) (fun c20 => ?_) (fun c20 => ?_)
          · have h := h.2 c20
            refine lv_aload_n hx hb dX6_leaf_81 rfl (lv_at hl 0 rfl) ?_
            refine va_get (D := D) (ci := 6) (v := .ref (a 5)) (C := RX6) (T := TX6) (N := 36) hx hb hts hinX6 hown hK hP 0 rfl rfl 6 (by decide) kf22 (fun _ h9 => h9) rfl dX6_leaf_82 ?_
            refine lv_bipush (v := 6) hx hb dX6_leaf_85 (by decide) ?_
            refine lv_iload hx hb dX6_leaf_87 (lv_at hl 7 rfl) ?_
            refine lv_imul hx hb dX6_leaf_89 ?_
            refine lv_iload_n hx hb dX6_leaf_90 rfl (lv_at hl 1 rfl) ?_
            refine lv_iadd hx hb dX6_leaf_91 ?_
            obtain ⟨b21, h⟩ := h
            refine va_iald hx hb hK hP 5 4 rfl rfl b21 dX6_leaf_92 ?_
            refine lv_topi (fun x22 ex22 => ?_)
            have h := h x22 ex22
            refine lv_istore (lv' := [(9, .int x22), (0, .ref (a 0)), (1, .int xl1), (3, .int xl3), (4, .int xl4), (5, .int xl5), (6, .int xl6), (7, .int xl7), (8, .int xl8)]) hx hb dX6_leaf_93 hl (by decide) rfl (fun ls hl => ?_)
            refine lv_iload hx hb dX6_leaf_95 (lv_at hl 4 rfl) ?_
            refine lv_if_eq (tgt := 107) hx hb dX6_leaf_97 (by decide) (fun c23 => ?_) (fun c23 => ?_)
            · have h := h.1 c23
              refine lv_iload hx hb dX6_leaf_107 (lv_at hl 0 rfl) ?_
              refine lv_goto (tgt := 114) hx hb dX6_leaf_109 (by decide) ?_
              exact (ih).2.2 xl1 xl3 xl4 xl5 xl7 xl8 x22 x22 S18 _ _ _ h hP hS (lv_sub hl [1, 2, 3, 4, 5, 7, 8, 0] rfl)
            · have h := h.2 c23
              refine lv_iload hx hb dX6_leaf_100 (lv_at hl 0 rfl) ?_
              refine lv_iload hx hb dX6_leaf_102 (lv_at hl 6 rfl) ?_
              refine lv_icmp_ge (tgt := 112) hx hb dX6_leaf_104 (by decide) (fun c24 => ?_) (fun c24 => ?_)
              · have h := h.1 c24
                refine lv_iload hx hb dX6_leaf_112 (lv_at hl 6 rfl) ?_
                exact (ih).2.2 xl1 xl3 xl4 xl5 xl7 xl8 x22 xl6 S18 _ _ _ h hP hS (lv_sub hl [1, 2, 3, 4, 5, 7, 8, 0] rfl)
              · have h := h.2 c24
                refine lv_iload hx hb dX6_leaf_107 (lv_at hl 0 rfl) ?_
                refine lv_goto (tgt := 114) hx hb dX6_leaf_109 (by decide) ?_
                exact (ih).2.2 xl1 xl3 xl4 xl5 xl7 xl8 x22 x22 S18 _ _ _ h hP hS (lv_sub hl [1, 2, 3, 4, 5, 7, 8, 0] rfl)
          · have h := h.1 c20
            refine lv_goto (tgt := 147) hx hb dX6_leaf_78 (by decide) ?_
            obtain ⟨x25, ex25⟩ : ∃ y : Int32, y = xl8 + 1 := ⟨_, rfl⟩
            have h := h x25 ex25
            refine lv_iinc (v := x25) (lv' := [(8, .int x25), (0, .ref (a 0)), (1, .int xl1), (3, .int xl3), (4, .int xl4), (5, .int xl5), (6, .int xl6), (7, .int xl7)]) hx hb dX6_leaf_147 hl (k := 7) rfl (by rw [ex25]; rfl) (by decide) rfl (fun ls hl => ?_)
            refine lv_goto (tgt := 60) hx hb dX6_leaf_150 (by decide) ?_
            exact (ih).2.1 xl1 xl3 xl4 xl5 xl6 xl7 x25 S18 _ _ _ h hP hS (lv_sub hl [1, 2, 3, 4, 5, 6, 7, 0] rfl)
      · intro xl1 xl3 xl4 xl5 xl7 xl8 xl9 xs0 S H locs ls h hP hS hl
        have h : BX6_leaf_2 (LX6_leaf post n) post xl1 0 xl3 xl4 xl5 0 xl7 xl8 xl9 xs0 S := h
        unfold BX6_leaf_2 at h
        refine lv_istore (lv' := [(6, .int xs0), (0, .ref (a 0)), (1, .int xl1), (3, .int xl3), (4, .int xl4), (5, .int xl5), (7, .int xl7), (8, .int xl8), (9, .int xl9)]) hx hb dX6_leaf_114 hl (by decide) rfl (fun ls hl => ?_)
        refine lv_iload hx hb dX6_leaf_116 (lv_at hl 4 rfl) ?_
        refine lv_if_eq (tgt := 128) hx hb dX6_leaf_118 (by decide) (fun c26 => ?_) (fun c26 => ?_)
        · have h := h.1 c26
          refine lv_iload hx hb dX6_leaf_128 (lv_at hl 8 rfl) ?_
          refine lv_goto (tgt := 135) hx hb dX6_leaf_130 (by decide) ?_
          refine lv_istore (lv' := [(7, .int xl9), (6, .int xs0), (0, .ref (a 0)), (1, .int xl1), (3, .int xl3), (4, .int xl4), (5, .int xl5), (8, .int xl8), (9, .int xl9)]) hx hb dX6_leaf_135 hl (by decide) rfl (fun ls hl => ?_)
          obtain ⟨x27, ex27⟩ : ∃ y : Int32, y = xl4 + 1 := ⟨_, rfl⟩
          have h := h x27 ex27
          refine lv_iinc (v := x27) (lv' := [(4, .int x27), (7, .int xl9), (6, .int xs0), (0, .ref (a 0)), (1, .int xl1), (3, .int xl3), (5, .int xl5), (8, .int xl8), (9, .int xl9)]) hx hb dX6_leaf_137 hl (k := 5) rfl (by rw [ex27]; rfl) (by decide) rfl (fun ls hl => ?_)
          refine lv_iload hx hb dX6_leaf_140 (lv_at hl 6 rfl) ?_
          refine lv_iload hx hb dX6_leaf_142 (lv_at hl 8 rfl) ?_
          refine lv_iadd hx hb dX6_leaf_144 ?_
          refine lv_topi (fun x28 ex28 => ?_)
          have h := h x28 ex28
          refine lv_istore (lv' := [(5, .int x28), (4, .int x27), (7, .int xl9), (6, .int xs0), (0, .ref (a 0)), (1, .int xl1), (3, .int xl3), (8, .int xl8), (9, .int xl9)]) hx hb dX6_leaf_145 hl (by decide) rfl (fun ls hl => ?_)
          obtain ⟨x29, ex29⟩ : ∃ y : Int32, y = xl8 + 1 := ⟨_, rfl⟩
          have h := h x29 ex29
          refine lv_iinc (v := x29) (lv' := [(8, .int x29), (5, .int x28), (4, .int x27), (7, .int xl9), (6, .int xs0), (0, .ref (a 0)), (1, .int xl1), (3, .int xl3), (9, .int xl9)]) hx hb dX6_leaf_147 hl (k := 7) rfl (by rw [ex29]; rfl) (by decide) rfl (fun ls hl => ?_)
          refine lv_goto (tgt := 60) hx hb dX6_leaf_150 (by decide) ?_
          exact (ih).2.1 xl1 xl3 x27 x28 xs0 xl9 x29 S _ _ _ h hP hS (lv_sub hl [5, 6, 7, 2, 1, 4, 3, 0] rfl)
        · have h := h.2 c26
          refine lv_iload hx hb dX6_leaf_121 (lv_at hl 8 rfl) ?_
          refine lv_iload hx hb dX6_leaf_123 (lv_at hl 6 rfl) ?_
          refine lv_icmp_le (tgt := 133) hx hb dX6_leaf_125 (by decide) (fun c30 => ?_) (fun c30 => ?_)
          · have h := h.1 c30
            refine lv_iload hx hb dX6_leaf_133 (lv_at hl 6 rfl) ?_
            refine lv_istore (lv' := [(7, .int xl7), (6, .int xs0), (0, .ref (a 0)), (1, .int xl1), (3, .int xl3), (4, .int xl4), (5, .int xl5), (8, .int xl8), (9, .int xl9)]) hx hb dX6_leaf_135 hl (by decide) rfl (fun ls hl => ?_)
            obtain ⟨x31, ex31⟩ : ∃ y : Int32, y = xl4 + 1 := ⟨_, rfl⟩
            have h := h x31 ex31
            refine lv_iinc (v := x31) (lv' := [(4, .int x31), (7, .int xl7), (6, .int xs0), (0, .ref (a 0)), (1, .int xl1), (3, .int xl3), (5, .int xl5), (8, .int xl8), (9, .int xl9)]) hx hb dX6_leaf_137 hl (k := 5) rfl (by rw [ex31]; rfl) (by decide) rfl (fun ls hl => ?_)
            refine lv_iload hx hb dX6_leaf_140 (lv_at hl 6 rfl) ?_
            refine lv_iload hx hb dX6_leaf_142 (lv_at hl 8 rfl) ?_
            refine lv_iadd hx hb dX6_leaf_144 ?_
            refine lv_topi (fun x32 ex32 => ?_)
            have h := h x32 ex32
            refine lv_istore (lv' := [(5, .int x32), (4, .int x31), (7, .int xl7), (6, .int xs0), (0, .ref (a 0)), (1, .int xl1), (3, .int xl3), (8, .int xl8), (9, .int xl9)]) hx hb dX6_leaf_145 hl (by decide) rfl (fun ls hl => ?_)
            obtain ⟨x33, ex33⟩ : ∃ y : Int32, y = xl8 + 1 := ⟨_, rfl⟩
            have h := h x33 ex33
            refine lv_iinc (v := x33) (lv' := [(8, .int x33), (5, .int x32), (4, .int x31), (7, .int xl7), (6, .int xs0), (0, .ref (a 0)), (1, .int xl1), (3, .int xl3), (9, .int xl9)]) hx hb dX6_leaf_147 hl (k := 7) rfl (by rw [ex33]; rfl) (by decide) rfl (fun ls hl => ?_)
            refine lv_goto (tgt := 60) hx hb dX6_leaf_150 (by decide) ?_
            exact (ih).2.1 xl1 xl3 x31 x32 xs0 xl7 x33 S _ _ _ h hP hS (lv_sub hl [5, 6, 7, 2, 1, 4, 3, 0] rfl)
          · have h := h.2 c30
            refine lv_iload hx hb dX6_leaf_128 (lv_at hl 8 rfl) ?_
            refine lv_goto (tgt := 135) hx hb dX6_leaf_130 (by decide) ?_
            refine lv_istore (lv' := [(7, .int xl9), (6, .int xs0), (0, .ref (a 0)), (1, .int xl1), (3, .int xl3), (4, .int xl4), (5, .int xl5), (8, .int xl8), (9, .int xl9)]) hx hb dX6_leaf_135 hl (by decide) rfl (fun ls hl => ?_)
            obtain ⟨x34, ex34⟩ : ∃ y : Int32, y = xl4 + 1 := ⟨_, rfl⟩
            have h := h x34 ex34
            refine lv_iinc (v := x34) (lv' := [(4, .int x34), (7, .int xl9), (6, .int xs0), (0, .ref (a 0)), (1, .int xl1), (3, .int xl3), (5, .int xl5), (8, .int xl8), (9, .int xl9)]) hx hb dX6_leaf_137 hl (k := 5) rfl (by rw [ex34]; rfl) (by decide) rfl (fun ls hl => ?_)
            refine lv_iload hx hb dX6_leaf_140 (lv_at hl 6 rfl) ?_
            refine lv_iload hx hb dX6_leaf_142 (lv_at hl 8 rfl) ?_
            refine lv_iadd hx hb dX6_leaf_144 ?_
            refine lv_topi (fun x35 ex35 => ?_)
            have h := h x35 ex35
            refine lv_istore (lv' := [(5, .int x35), (4, .int x34), (7, .int xl9), (6, .int xs0), (0, .ref (a 0)), (1, .int xl1), (3, .int xl3), (8, .int xl8), (9, .int xl9)]) hx hb dX6_leaf_145 hl (by decide) rfl (fun ls hl => ?_)
            obtain ⟨x36, ex36⟩ : ∃ y : Int32, y = xl8 + 1 := ⟨_, rfl⟩
            have h := h x36 ex36
            refine lv_iinc (v := x36) (lv' := [(8, .int x36), (5, .int x35), (4, .int x34), (7, .int xl9), (6, .int xs0), (0, .ref (a 0)), (1, .int xl1), (3, .int xl3), (9, .int xl9)]) hx hb dX6_leaf_147 hl (k := 7) rfl (by rw [ex36]; rfl) (by decide) rfl (fun ls hl => ?_)
            refine lv_goto (tgt := 60) hx hb dX6_leaf_150 (by decide) ?_
            exact (ih).2.1 xl1 xl3 x34 x35 xs0 xl9 x36 S _ _ _ h hP hS (lv_sub hl [5, 6, 7, 2, 1, 4, 3, 0] rfl)
  unfold PX6_leaf at h
  refine lv_aload_n hx hb dX6_leaf_0 rfl (lv_at hl 0 rfl) ?_
  refine lv_iload_n hx hb dX6_leaf_1 rfl (lv_at hl 1 rfl) ?_
  refine k_i (k_runV mns_ok ⟨hx, hb, hml, hown, hts⟩ (tX6_isMeal l D a c _ p0 S _ h) (cwV 1 hts gX6_leaf_X6_isMeal rfl rfl rfl (by decide +kernel) ⟨Nat.le_of_ble_eq_true rfl, Nat.le_of_ble_eq_true rfl⟩) (va_recv hK hP (ci := 6) (q0 := 0) rfl rfl) hP hK (hD S) hN rfl rfl hl.1 rfl (lv_room (Nat.le_of_ble_eq_true rfl)) dX6_leaf_2 ⟨Nat.le_of_ble_eq_true rfl, Nat.le_of_ble_eq_true rfl⟩) hS (hD S) hA (fun x2 S1 H locs h hP hS => ?_)
  refine lv_if_eq (tgt := 37) hx hb dX6_leaf_5 (by decide) (fun c3 => ?_) (fun c3 => ?_)
  · have h := h.1 c3
    refine lv_iconst (v := 0) hx hb dX6_leaf_37 (by decide) ?_
    exact g_reti hx hb hr hlocks h hP hS dX6_leaf_38
  · have h := h.2 c3
    refine lv_aload_n hx hb dX6_leaf_8 rfl (lv_at hl 0 rfl) ?_
    refine lv_iload_n hx hb dX6_leaf_9 rfl (lv_at hl 2 rfl) ?_
    refine k_i (k_runS mns_ok ⟨hx, hb, hml, hown, hts⟩ (tX6_isBits l D a c _ p1 S1 _ h) (va_cwS 1 hts gX6_leaf_X6_isBits rfl rfl rfl (by decide +kernel) ⟨Nat.le_of_ble_eq_true rfl, Nat.le_of_ble_eq_true rfl⟩) hP hK (hD S1) hN rfl rfl hl.1 rfl (lv_room (Nat.le_of_ble_eq_true rfl)) dX6_leaf_10 ⟨Nat.le_of_ble_eq_true rfl, Nat.le_of_ble_eq_true rfl⟩) hS (hD S1) hA (fun x5 S4 H locs h hP hS => ?_)
    refine lv_if_eq (tgt := 25) hx hb dX6_leaf_13 (by decide) (fun c6 => ?_) (fun c6 => ?_)
    · have h := h.1 c6
      refine lv_iconst (v := 1) hx hb dX6_leaf_25 (by decide) ?_
      refine lv_goto (tgt := 30) hx hb dX6_leaf_26 (by decide) ?_
      exact (key n).1 p0 p1 p2 1 S4 _ _ _ h hP hS (lv_sub hl [0, 1, 2, 3] rfl)
    · have h := h.2 c6
      refine lv_iload_n hx hb dX6_leaf_16 rfl (lv_at hl 3 rfl) ?_
      refine lv_if_lt (tgt := 25) hx hb dX6_leaf_17 (by decide) (fun c7 => ?_) (fun c7 => ?_)
      · have h := h.1 c7
        refine lv_iconst (v := 1) hx hb dX6_leaf_25 (by decide) ?_
        refine lv_goto (tgt := 30) hx hb dX6_leaf_26 (by decide) ?_
        exact (key n).1 p0 p1 p2 1 S4 _ _ _ h hP hS (lv_sub hl [0, 1, 2, 3] rfl)
      · have h := h.2 c7
        refine lv_iload_n hx hb dX6_leaf_20 rfl (lv_at hl 3 rfl) ?_
        refine lv_iconst (v := 3) hx hb dX6_leaf_21 (by decide) ?_
        refine lv_icmp_le (tgt := 29) hx hb dX6_leaf_22 (by decide) (fun c8 => ?_) (fun c8 => ?_)
        · have h := h.1 c8
          refine lv_iconst (v := 0) hx hb dX6_leaf_29 (by decide) ?_
          exact (key n).1 p0 p1 p2 0 S4 _ _ _ h hP hS (lv_sub hl [0, 1, 2, 3] rfl)
        · have h := h.2 c8
          refine lv_iconst (v := 1) hx hb dX6_leaf_25 (by decide) ?_
          refine lv_goto (tgt := 30) hx hb dX6_leaf_26 (by decide) ?_
          exact (key n).1 p0 p1 p2 1 S4 _ _ _ h hP hS (lv_sub hl [0, 1, 2, 3] rfl)
def BX6_size_0 (X : Int32 → Int32 → Int32 → St → Prop) (post : Int32 → St → Prop) (xl1 : Int32) (xl2 : Int32) (xs0 : Int32) (S : St) : Prop := PX6_bad xs0 1 S (fun x7 S6 => ((x7 = 0 → (((S6.1 8) = 4 → PX6_bad 1 2 S6 (fun x19 S18 => ((x19 = 0 → (vp_in (S18.1 8) 4 ∧ ∀ S22 : St, S22 = sR S18 7 (upd (S18.2.2 7) (S18.1 8).toNatClampNeg xl1) → (vp_in (S22.1 8) 4 ∧ ∀ S24 : St, S24 = sR S22 8 (upd (S22.2.2 8) (S22.1 8).toNatClampNeg xl2) → ∀ S25 : St, S25 = sI S24 8 ((S24.1 8) + 1) → post ((S25.1 8) - 1) S25))) ∧ (¬ x19 = 0 → post 0 S18)))) ∧ (¬ (S6.1 8) = 4 → PX6_bad 0 2 S6 (fun x11 S10 => ((x11 = 0 → (vp_in (S10.1 8) 4 ∧ ∀ S14 : St, S14 = sR S10 7 (upd (S10.2.2 7) (S10.1 8).toNatClampNeg xl1) → (vp_in (S14.1 8) 4 ∧ ∀ S16 : St, S16 = sR S14 8 (upd (S14.2.2 8) (S14.1 8).toNatClampNeg xl2) → ∀ S17 : St, S17 = sI S16 8 ((S16.1 8) + 1) → post ((S17.1 8) - 1) S17))) ∧ (¬ x11 = 0 → post 0 S10)))))) ∧ (¬ x7 = 0 → post 0 S6)))
def LX6_size (post : Int32 → St → Prop) : Nat → Int32 → Int32 → Int32 → St → Prop
  | 0, _, _, _, _ => False
  | n + 1, xl1, xl2, xs0, S => BX6_size_0 (LX6_size post n) post xl1 xl2 xs0 S
def PX6_size (n : Nat) (p0 : Int32) (p1 : Int32) (S : St) (post : Int32 → St → Prop) : Prop := ∀ S1 : St, S1 = sI S 0 0 → ((p0 < 1 → LX6_size post n p0 p1 1 S1) ∧ (¬ p0 < 1 → ((200 < p0 → LX6_size post n p0 p1 1 S1) ∧ (¬ 200 < p0 → ((p1 < 1 → LX6_size post n p0 p1 1 S1) ∧ (¬ p1 < 1 → ((p1 ≤ 10000 → LX6_size post n p0 p1 0 S1) ∧ (¬ p1 ≤ 10000 → LX6_size post n p0 p1 1 S1))))))))
set_option maxHeartbeats 4000000 in
set_option maxRecDepth 100000 in
theorem tX6_size (l : Launch) (D : va_G) (a : Nat → Nat) (c : Nat → ClassId) (sz : Nat) (n : Nat) (p0 : Int32) (p1 : Int32) (S : St) (post : Int32 → St → Prop) (h : PX6_size n p0 p1 S post) : Met l yX6_size wsX6_size ({ frames := 1, cells := 0, slots := 0, locals := 22 }) (va_Pc [.ref (a 0), .int p0, .int p1] (gP D (mw a c) (mty c) mns S sz)) (va_Qi post (gB D (mw a c)) (va_A (mw a c S) sz)) 0 0 (va_A (mw a c S) sz) := by
  refine Met.ofW (cc := cX6_size) (maxL := 3) (ret := (some .int)) (by decide) rfl ?_
  intro p e s m args below meth c9 s₁ B hml hv
  obtain ⟨rfl, hsz, hP, hK, hD0, hN⟩ := hv
  have hx := B.exec
  have hb := B.bytes
  have hr := B.returns
  have hts := atoms_spec (ws := wsX6_size) B.pre
  have hown : s.vm.findClass RX6 = some m.cls := findClass_of_methodNamed B.named
  have hlocks := B.notSynchronized
  subst hsz
  have hD1 := hD0.self (sz := s.heap.size)
  generalize hAe : va_A (mw a c S) s.heap.size = A at hD1 ⊢
  have hA : ∀ q : Nat, s.heap.size ≤ q → A q := fun q h => by rw [← hAe]; exact Or.inr h
  have hD : ∀ S2 : St, va_D A (mw a c S2) := gD mw_F hD1
  have hS : va_S A s.heap s.heap [] := va_S.rf
  have hinX6 : ∀ w ∈ wsX60, w ∈ wsX6_size := by decide +kernel
  have kf122 := hts (.fieldLink RX6 122 "CanteenPlanModel" "sizes" "I") (by decide +kernel)
  have kf32 := hts (.fieldLink RX6 32 "CanteenPlanModel" "portions" "[I") (by decide +kernel)
  have kf35 := hts (.fieldLink RX6 35 "CanteenPlanModel" "price" "[I") (by decide +kernel)
  have kf60 := hts (.fieldLink RX6 60 "CanteenPlanModel" "thrown" "I") (by decide +kernel)
  have hl := lv_entry ([.ref (a 0), .int p0, .int p1]) (n := 3) (Nat.le_of_ble_eq_true rfl)
  rw [lg_entry_eq]
  generalize (lg_sl ([.ref (a 0), .int p0, .int p1]) ++ List.replicate (3 - (lg_sl ([.ref (a 0), .int p0, .int p1])).length) Slot.unset).toArray = ls at hl ⊢
  have hl : lv_has ls 3 [(0, .ref (a 0)), (1, .int p0), (2, .int p1)] := hl
  have key : ∀ n : Nat, (∀ (xl1 : Int32) (xl2 : Int32) (xs0 : Int32) (S : St) (H : Heap) (locs : List Loc) (ls : Array Slot), LX6_size post n xl1 xl2 xs0 S → va_P D vwCl (mw a c S) H → va_S A s.heap H locs → lv_has ls 3 [(0, .ref (a 0)), (1, .int xl1), (2, .int xl2)] → W p l e ((headSpec wsX6_size ({ frames := 1, cells := 0, slots := 0, locals := 22 })).room) s m ([.ref (a 0), .int p0, .int p1]).toArray below meth c9 H locs 0 0 (MQ below (va_Qi post (gB D (mw a c)) A) ([.ref (a 0), .int p0, .int p1]).toArray s 0 0 A) (F0 m 35 ls [.int xs0, .ref (a 0)])) := by
    intro n
    induction n with
    | zero => exact fun xl1 xl2 xs0 S H locs ls h => h.elim
    | succ n ih =>
      intro xl1 xl2 xs0 S H locs ls h hP hS hl
      have h : BX6_size_0 (LX6_size post n) post xl1 xl2 xs0 S := h
      unfold BX6_size_0 at h
      refine lv_iconst (v := 1) hx hb dX6_size_35 (by decide) ?_
      refine k_i (k_runV mns_ok ⟨hx, hb, hml, hown, hts⟩ (tX6_bad l D a c _ xs0 1 S _ h) (cwV 2 hts gX6_size_X6_bad rfl rfl rfl (by decide +kernel) ⟨Nat.le_of_ble_eq_true rfl, Nat.le_of_ble_eq_true rfl⟩) (va_recv hK hP (ci := 6) (q0 := 0) rfl rfl) hP hK (hD S) hN rfl rfl hl.1 rfl (lv_room (Nat.le_of_ble_eq_true rfl)) dX6_size_36 ⟨Nat.le_of_ble_eq_true rfl, Nat.le_of_ble_eq_true rfl⟩) hS (hD S) hA (fun x7 S6 H locs h hP hS => ?_)
      refine lv_if_ne (tgt := 63) hx hb dX6_size_39 (by decide) (fun c8 => ?_) (fun c8 => ?_)
      · have h := h.2 c8
        refine lv_iconst (v := 0) hx hb dX6_size_63 (by decide) ?_
        exact g_reti hx hb hr hlocks h hP hS dX6_size_64
      · have h := h.1 c8
        refine lv_aload_n hx hb dX6_size_42 rfl (lv_at hl 0 rfl) ?_
        refine lv_aload_n hx hb dX6_size_43 rfl (lv_at hl 0 rfl) ?_
        refine va_get (D := D) (ci := 6) (v := .int (S6.1 8)) (C := RX6) (T := TX6) (N := 36) hx hb hts hinX6 hown hK hP 0 rfl rfl 19 (by decide) kf122 (fun _ h9 => h9) rfl dX6_size_44 ?_
        refine lv_iconst (v := 4) hx hb dX6_size_47 (by decide) ?_
        refine lv_icmp_ne (tgt := 55) hx hb dX6_size_48 (by decide) (fun c9 => ?_) (fun c9 => ?_)
        · have h := h.2 c9
          refine lv_iconst (v := 0) hx hb dX6_size_55 (by decide) ?_
          refine lv_iconst (v := 2) hx hb dX6_size_56 (by decide) ?_
          refine k_i (k_runV mns_ok ⟨hx, hb, hml, hown, hts⟩ (tX6_bad l D a c _ 0 2 S6 _ h) (cwV 2 hts gX6_size_X6_bad rfl rfl rfl (by decide +kernel) ⟨Nat.le_of_ble_eq_true rfl, Nat.le_of_ble_eq_true rfl⟩) (va_recv hK hP (ci := 6) (q0 := 0) rfl rfl) hP hK (hD S6) hN rfl rfl hl.1 rfl (lv_room (Nat.le_of_ble_eq_true rfl)) dX6_size_57 ⟨Nat.le_of_ble_eq_true rfl, Nat.le_of_ble_eq_true rfl⟩) hS (hD S6) hA (fun x11 S10 H locs h hP hS => ?_)
          refine lv_if_eq (tgt := 65) hx hb dX6_size_60 (by decide) (fun c12 => ?_) (fun c12 => ?_)
          · have h := h.1 c12
            refine lv_aload_n hx hb dX6_size_65 rfl (lv_at hl 0 rfl) ?_
            refine va_get (D := D) (ci := 6) (v := .ref (a 8)) (C := RX6) (T := TX6) (N := 36) hx hb hts hinX6 hown hK hP 0 rfl rfl 17 (by decide) kf32 (fun _ h9 => h9) rfl dX6_size_66 ?_
            refine lv_aload_n hx hb dX6_size_69 rfl (lv_at hl 0 rfl) ?_
            refine va_get (D := D) (ci := 6) (v := .int (S10.1 8)) (C := RX6) (T := TX6) (N := 36) hx hb hts hinX6 hown hK hP 0 rfl rfl 19 (by decide) kf122 (fun _ h9 => h9) rfl dX6_size_70 ?_
            refine lv_iload_n hx hb dX6_size_73 rfl (lv_at hl 1 rfl) ?_
            obtain ⟨b13, h⟩ := h
            refine va_iast hx hb hK hP (hD S10) hS 8 7 rfl rfl b13 dX6_size_74 (fun H locs hP _ hS => ?_)
            obtain ⟨S14, eS14⟩ : ∃ z : St, z = sR S10 7 (upd (S10.2.2 7) (S10.1 8).toNatClampNeg xl1) := ⟨_, rfl⟩
            have hP : va_P D vwCl (mw a c S14) H := by rw [eS14]; exact hP
            have h := h S14 eS14
            refine lv_aload_n hx hb dX6_size_75 rfl (lv_at hl 0 rfl) ?_
            refine va_get (D := D) (ci := 6) (v := .ref (a 9)) (C := RX6) (T := TX6) (N := 36) hx hb hts hinX6 hown hK hP 0 rfl rfl 18 (by decide) kf35 (fun _ h9 => h9) rfl dX6_size_76 ?_
            refine lv_aload_n hx hb dX6_size_79 rfl (lv_at hl 0 rfl) ?_
            refine va_get (D := D) (ci := 6) (v := .int (S14.1 8)) (C := RX6) (T := TX6) (N := 36) hx hb hts hinX6 hown hK hP 0 rfl rfl 19 (by decide) kf122 (fun _ h9 => h9) rfl dX6_size_80 ?_
            refine lv_iload_n hx hb dX6_size_83 rfl (lv_at hl 2 rfl) ?_
            obtain ⟨b15, h⟩ := h
            refine va_iast hx hb hK hP (hD S14) hS 9 8 rfl rfl b15 dX6_size_84 (fun H locs hP _ hS => ?_)
            obtain ⟨S16, eS16⟩ : ∃ z : St, z = sR S14 8 (upd (S14.2.2 8) (S14.1 8).toNatClampNeg xl2) := ⟨_, rfl⟩
            have hP : va_P D vwCl (mw a c S16) H := by rw [eS16]; exact hP
            have h := h S16 eS16
            refine lv_aload_n hx hb dX6_size_85 rfl (lv_at hl 0 rfl) ?_
            refine lv_dup hx hb dX6_size_86 rfl ?_
            refine va_get (D := D) (ci := 6) (v := .int (S16.1 8)) (C := RX6) (T := TX6) (N := 36) hx hb hts hinX6 hown hK hP 0 rfl rfl 19 (by decide) kf122 (fun _ h9 => h9) rfl dX6_size_87 ?_
            refine lv_iconst (v := 1) hx hb dX6_size_90 (by decide) ?_
            refine lv_iadd hx hb dX6_size_91 ?_
            refine va_put (D := D) (ci := 6) (v := .int ((S16.1 8) + 1)) (ty := .int) (C := RX6) (T := TX6) (N := 36) hx hb hts hinX6 tyX6 tyX6_ok nmX6 hown hK hP (hD S16) hS 0 rfl rfl 19 (by decide) kf122 (fun _ h9 => h9) rfl (by decide +kernel) rfl rfl (Nat.le_of_ble_eq_true rfl) dX6_size_92 (fun H locs hP _ hS => ?_)
            obtain ⟨S17, eS17⟩ : ∃ z : St, z = sI S16 8 ((S16.1 8) + 1) := ⟨_, rfl⟩
            have hP : va_P D vwCl (mw a c S17) H := by rw [eS17]; exact hP
            have h := h S17 eS17
            refine lv_aload_n hx hb dX6_size_95 rfl (lv_at hl 0 rfl) ?_
            refine va_get (D := D) (ci := 6) (v := .int (S17.1 8)) (C := RX6) (T := TX6) (N := 36) hx hb hts hinX6 hown hK hP 0 rfl rfl 19 (by decide) kf122 (fun _ h9 => h9) rfl dX6_size_96 ?_
            refine lv_iconst (v := 1) hx hb dX6_size_99 (by decide) ?_
            refine lv_isub hx hb dX6_size_100 ?_
            exact g_reti hx hb hr hlocks h hP hS dX6_size_101
          · have h := h.2 c12
            refine lv_iconst (v := 0) hx hb dX6_size_63 (by decide) ?_
            exact g_reti hx hb hr hlocks h hP hS dX6_size_64
        · have h := h.1 c9
          refine lv_iconst (v := 1) hx hb dX6_size_51 (by decide) ?_
          refine lv_goto (tgt := 56) hx hb dX6_size_52 (by decide) ?_
          refine lv_iconst (v := 2) hx hb dX6_size_56 (by decide) ?_
          refine k_i (k_runV mns_ok ⟨hx, hb, hml, hown, hts⟩ (tX6_bad l D a c _ 1 2 S6 _ h) (cwV 2 hts gX6_size_X6_bad rfl rfl rfl (by decide +kernel) ⟨Nat.le_of_ble_eq_true rfl, Nat.le_of_ble_eq_true rfl⟩) (va_recv hK hP (ci := 6) (q0 := 0) rfl rfl) hP hK (hD S6) hN rfl rfl hl.1 rfl (lv_room (Nat.le_of_ble_eq_true rfl)) dX6_size_57 ⟨Nat.le_of_ble_eq_true rfl, Nat.le_of_ble_eq_true rfl⟩) hS (hD S6) hA (fun x19 S18 H locs h hP hS => ?_)
          refine lv_if_eq (tgt := 65) hx hb dX6_size_60 (by decide) (fun c20 => ?_) (fun c20 => ?_)
          · have h := h.1 c20
            refine lv_aload_n hx hb dX6_size_65 rfl (lv_at hl 0 rfl) ?_
            refine va_get (D := D) (ci := 6) (v := .ref (a 8)) (C := RX6) (T := TX6) (N := 36) hx hb hts hinX6 hown hK hP 0 rfl rfl 17 (by decide) kf32 (fun _ h9 => h9) rfl dX6_size_66 ?_
            refine lv_aload_n hx hb dX6_size_69 rfl (lv_at hl 0 rfl) ?_
            refine va_get (D := D) (ci := 6) (v := .int (S18.1 8)) (C := RX6) (T := TX6) (N := 36) hx hb hts hinX6 hown hK hP 0 rfl rfl 19 (by decide) kf122 (fun _ h9 => h9) rfl dX6_size_70 ?_
            refine lv_iload_n hx hb dX6_size_73 rfl (lv_at hl 1 rfl) ?_
            obtain ⟨b21, h⟩ := h
            refine va_iast hx hb hK hP (hD S18) hS 8 7 rfl rfl b21 dX6_size_74 (fun H locs hP _ hS => ?_)
            obtain ⟨S22, eS22⟩ : ∃ z : St, z = sR S18 7 (upd (S18.2.2 7) (S18.1 8).toNatClampNeg xl1) := ⟨_, rfl⟩
            have hP : va_P D vwCl (mw a c S22) H := by rw [eS22]; exact hP
            have h := h S22 eS22
            refine lv_aload_n hx hb dX6_size_75 rfl (lv_at hl 0 rfl) ?_
            refine va_get (D := D) (ci := 6) (v := .ref (a 9)) (C := RX6) (T := TX6) (N := 36) hx hb hts hinX6 hown hK hP 0 rfl rfl 18 (by decide) kf35 (fun _ h9 => h9) rfl dX6_size_76 ?_
            refine lv_aload_n hx hb dX6_size_79 rfl (lv_at hl 0 rfl) ?_
            refine va_get (D := D) (ci := 6) (v := .int (S22.1 8)) (C := RX6) (T := TX6) (N := 36) hx hb hts hinX6 hown hK hP 0 rfl rfl 19 (by decide) kf122 (fun _ h9 => h9) rfl dX6_size_80 ?_
            refine lv_iload_n hx hb dX6_size_83 rfl (lv_at hl 2 rfl) ?_
            obtain ⟨b23, h⟩ := h
            refine va_iast hx hb hK hP (hD S22) hS 9 8 rfl rfl b23 dX6_size_84 (fun H locs hP _ hS => ?_)
            obtain ⟨S24, eS24⟩ : ∃ z : St, z = sR S22 8 (upd (S22.2.2 8) (S22.1 8).toNatClampNeg xl2) := ⟨_, rfl⟩
            have hP : va_P D vwCl (mw a c S24) H := by rw [eS24]; exact hP
            have h := h S24 eS24
            refine lv_aload_n hx hb dX6_size_85 rfl (lv_at hl 0 rfl) ?_
            refine lv_dup hx hb dX6_size_86 rfl ?_
            refine va_get (D := D) (ci := 6) (v := .int (S24.1 8)) (C := RX6) (T := TX6) (N := 36) hx hb hts hinX6 hown hK hP 0 rfl rfl 19 (by decide) kf122 (fun _ h9 => h9) rfl dX6_size_87 ?_
            refine lv_iconst (v := 1) hx hb dX6_size_90 (by decide) ?_
            refine lv_iadd hx hb dX6_size_91 ?_
            refine va_put (D := D) (ci := 6) (v := .int ((S24.1 8) + 1)) (ty := .int) (C := RX6) (T := TX6) (N := 36) hx hb hts hinX6 tyX6 tyX6_ok nmX6 hown hK hP (hD S24) hS 0 rfl rfl 19 (by decide) kf122 (fun _ h9 => h9) rfl (by decide +kernel) rfl rfl (Nat.le_of_ble_eq_true rfl) dX6_size_92 (fun H locs hP _ hS => ?_)
            obtain ⟨S25, eS25⟩ : ∃ z : St, z = sI S24 8 ((S24.1 8) + 1) := ⟨_, rfl⟩
            have hP : va_P D vwCl (mw a c S25) H := by rw [eS25]; exact hP
            have h := h S25 eS25
            refine lv_aload_n hx hb dX6_size_95 rfl (lv_at hl 0 rfl) ?_
            refine va_get (D := D) (ci := 6) (v := .int (S25.1 8)) (C := RX6) (T := TX6) (N := 36) hx hb hts hinX6 hown hK hP 0 rfl rfl 19 (by decide) kf122 (fun _ h9 => h9) rfl dX6_size_96 ?_
            refine lv_iconst (v := 1) hx hb dX6_size_99 (by decide) ?_
            refine lv_isub hx hb dX6_size_100 ?_
            exact g_reti hx hb hr hlocks h hP hS dX6_size_101
          · have h := h.2 c20
            refine lv_iconst (v := 0) hx hb dX6_size_63 (by decide) ?_
            exact g_reti hx hb hr hlocks h hP hS dX6_size_64
  unfold PX6_size at h
  refine lv_aload_n hx hb dX6_size_0 rfl (lv_at hl 0 rfl) ?_
  refine lv_iconst (v := 0) hx hb dX6_size_1 (by decide) ?_
  refine va_put (D := D) (ci := 6) (v := .int 0) (ty := .int) (C := RX6) (T := TX6) (N := 36) hx hb hts hinX6 tyX6 tyX6_ok nmX6 hown hK hP (hD S) hS 0 rfl rfl 0 (by decide) kf60 (fun _ h9 => h9) rfl (by decide +kernel) rfl rfl (Nat.le_of_ble_eq_true rfl) dX6_size_2 (fun H locs hP _ hS => ?_)
  obtain ⟨S1, eS1⟩ : ∃ z : St, z = sI S 0 0 := ⟨_, rfl⟩
  have hP : va_P D vwCl (mw a c S1) H := by rw [eS1]; exact hP
  have h := h S1 eS1
  refine lv_aload_n hx hb dX6_size_5 rfl (lv_at hl 0 rfl) ?_
  refine lv_iload_n hx hb dX6_size_6 rfl (lv_at hl 1 rfl) ?_
  refine lv_iconst (v := 1) hx hb dX6_size_7 (by decide) ?_
  refine lv_icmp_lt (tgt := 30) hx hb dX6_size_8 (by decide) (fun c2 => ?_) (fun c2 => ?_)
  · have h := h.1 c2
    refine lv_iconst (v := 1) hx hb dX6_size_30 (by decide) ?_
    refine lv_goto (tgt := 35) hx hb dX6_size_31 (by decide) ?_
    exact (key n) p0 p1 1 S1 _ _ _ h hP hS (lv_sub hl [0, 1, 2] rfl)
  · have h := h.2 c2
    refine lv_iload_n hx hb dX6_size_11 rfl (lv_at hl 1 rfl) ?_
    refine lv_sipush (v := 200) hx hb dX6_size_12 (by decide) ?_
    refine lv_icmp_gt (tgt := 30) hx hb dX6_size_15 (by decide) (fun c3 => ?_) (fun c3 => ?_)
    · have h := h.1 c3
      refine lv_iconst (v := 1) hx hb dX6_size_30 (by decide) ?_
      refine lv_goto (tgt := 35) hx hb dX6_size_31 (by decide) ?_
      exact (key n) p0 p1 1 S1 _ _ _ h hP hS (lv_sub hl [0, 1, 2] rfl)
    · have h := h.2 c3
      refine lv_iload_n hx hb dX6_size_18 rfl (lv_at hl 2 rfl) ?_
      refine lv_iconst (v := 1) hx hb dX6_size_19 (by decide) ?_
      refine lv_icmp_lt (tgt := 30) hx hb dX6_size_20 (by decide) (fun c4 => ?_) (fun c4 => ?_)
      · have h := h.1 c4
        refine lv_iconst (v := 1) hx hb dX6_size_30 (by decide) ?_
        refine lv_goto (tgt := 35) hx hb dX6_size_31 (by decide) ?_
        exact (key n) p0 p1 1 S1 _ _ _ h hP hS (lv_sub hl [0, 1, 2] rfl)
      · have h := h.2 c4
        refine lv_iload_n hx hb dX6_size_23 rfl (lv_at hl 2 rfl) ?_
        refine lv_sipush (v := 10000) hx hb dX6_size_24 (by decide) ?_
        refine lv_icmp_le (tgt := 34) hx hb dX6_size_27 (by decide) (fun c5 => ?_) (fun c5 => ?_)
        · have h := h.1 c5
          refine lv_iconst (v := 0) hx hb dX6_size_34 (by decide) ?_
          exact (key n) p0 p1 0 S1 _ _ _ h hP hS (lv_sub hl [0, 1, 2] rfl)
        · have h := h.2 c5
          refine lv_iconst (v := 1) hx hb dX6_size_30 (by decide) ?_
          refine lv_goto (tgt := 35) hx hb dX6_size_31 (by decide) ?_
          exact (key n) p0 p1 1 S1 _ _ _ h hP hS (lv_sub hl [0, 1, 2] rfl)
def BX6_prices_0 (X : Int32 → Int32 → Int32 → St → Prop) (post : St → Prop) (xl1 : Int32) (xl2 : Int32) (xs0 : Int32) (S : St) : Prop := PX6_bad xs0 1 S (fun x7 S6 => ((x7 = 0 → ∀ S9 : St, S9 = sI S6 9 xl1 → ∀ S10 : St, S10 = sI S9 10 xl2 → post S10) ∧ (¬ x7 = 0 → post S6)))
def LX6_prices (post : St → Prop) : Nat → Int32 → Int32 → Int32 → St → Prop
  | 0, _, _, _, _ => False
  | n + 1, xl1, xl2, xs0, S => BX6_prices_0 (LX6_prices post n) post xl1 xl2 xs0 S
def PX6_prices (n : Nat) (p0 : Int32) (p1 : Int32) (S : St) (post : St → Prop) : Prop := ∀ S1 : St, S1 = sI S 0 0 → ((p0 < 0 → LX6_prices post n p0 p1 1 S1) ∧ (¬ p0 < 0 → ((1000 < p0 → LX6_prices post n p0 p1 1 S1) ∧ (¬ 1000 < p0 → ((p1 < 0 → LX6_prices post n p0 p1 1 S1) ∧ (¬ p1 < 0 → ((p1 ≤ 1000 → LX6_prices post n p0 p1 0 S1) ∧ (¬ p1 ≤ 1000 → LX6_prices post n p0 p1 1 S1))))))))
set_option maxHeartbeats 4000000 in
set_option maxRecDepth 100000 in
theorem tX6_prices (l : Launch) (D : va_G) (a : Nat → Nat) (c : Nat → ClassId) (sz : Nat) (n : Nat) (p0 : Int32) (p1 : Int32) (S : St) (post : St → Prop) (h : PX6_prices n p0 p1 S post) : Met l yX6_prices wsX6_prices ({ frames := 1, cells := 0, slots := 0, locals := 22 }) (va_Pc [.ref (a 0), .int p0, .int p1] (gP D (mw a c) (mty c) mns S sz)) (va_Qv post (gB D (mw a c)) (va_A (mw a c S) sz)) 0 0 (va_A (mw a c S) sz) := by
  refine Met.ofW (cc := cX6_prices) (maxL := 3) (ret := none) (by decide) rfl ?_
  intro p e s m args below meth c9 s₁ B hml hv
  obtain ⟨rfl, hsz, hP, hK, hD0, hN⟩ := hv
  have hx := B.exec
  have hb := B.bytes
  have hr := B.returns
  have hts := atoms_spec (ws := wsX6_prices) B.pre
  have hown : s.vm.findClass RX6 = some m.cls := findClass_of_methodNamed B.named
  have hlocks := B.notSynchronized
  subst hsz
  have hD1 := hD0.self (sz := s.heap.size)
  generalize hAe : va_A (mw a c S) s.heap.size = A at hD1 ⊢
  have hA : ∀ q : Nat, s.heap.size ≤ q → A q := fun q h => by rw [← hAe]; exact Or.inr h
  have hD : ∀ S2 : St, va_D A (mw a c S2) := gD mw_F hD1
  have hS : va_S A s.heap s.heap [] := va_S.rf
  have hinX6 : ∀ w ∈ wsX60, w ∈ wsX6_prices := by decide +kernel
  have kf38 := hts (.fieldLink RX6 38 "CanteenPlanModel" "waste" "I") (by decide +kernel)
  have kf42 := hts (.fieldLink RX6 42 "CanteenPlanModel" "want" "I") (by decide +kernel)
  have kf60 := hts (.fieldLink RX6 60 "CanteenPlanModel" "thrown" "I") (by decide +kernel)
  have hl := lv_entry ([.ref (a 0), .int p0, .int p1]) (n := 3) (Nat.le_of_ble_eq_true rfl)
  rw [lg_entry_eq]
  generalize (lg_sl ([.ref (a 0), .int p0, .int p1]) ++ List.replicate (3 - (lg_sl ([.ref (a 0), .int p0, .int p1])).length) Slot.unset).toArray = ls at hl ⊢
  have hl : lv_has ls 3 [(0, .ref (a 0)), (1, .int p0), (2, .int p1)] := hl
  have key : ∀ n : Nat, (∀ (xl1 : Int32) (xl2 : Int32) (xs0 : Int32) (S : St) (H : Heap) (locs : List Loc) (ls : Array Slot), LX6_prices post n xl1 xl2 xs0 S → va_P D vwCl (mw a c S) H → va_S A s.heap H locs → lv_has ls 3 [(0, .ref (a 0)), (1, .int xl1), (2, .int xl2)] → W p l e ((headSpec wsX6_prices ({ frames := 1, cells := 0, slots := 0, locals := 22 })).room) s m ([.ref (a 0), .int p0, .int p1]).toArray below meth c9 H locs 0 0 (MQ below (va_Qv post (gB D (mw a c)) A) ([.ref (a 0), .int p0, .int p1]).toArray s 0 0 A) (F0 m 33 ls [.int xs0, .ref (a 0)])) := by
    intro n
    induction n with
    | zero => exact fun xl1 xl2 xs0 S H locs ls h => h.elim
    | succ n ih =>
      intro xl1 xl2 xs0 S H locs ls h hP hS hl
      have h : BX6_prices_0 (LX6_prices post n) post xl1 xl2 xs0 S := h
      unfold BX6_prices_0 at h
      refine lv_iconst (v := 1) hx hb dX6_prices_33 (by decide) ?_
      refine k_i (k_runV mns_ok ⟨hx, hb, hml, hown, hts⟩ (tX6_bad l D a c _ xs0 1 S _ h) (cwV 2 hts gX6_prices_X6_bad rfl rfl rfl (by decide +kernel) ⟨Nat.le_of_ble_eq_true rfl, Nat.le_of_ble_eq_true rfl⟩) (va_recv hK hP (ci := 6) (q0 := 0) rfl rfl) hP hK (hD S) hN rfl rfl hl.1 rfl (lv_room (Nat.le_of_ble_eq_true rfl)) dX6_prices_34 ⟨Nat.le_of_ble_eq_true rfl, Nat.le_of_ble_eq_true rfl⟩) hS (hD S) hA (fun x7 S6 H locs h hP hS => ?_)
      refine lv_if_eq (tgt := 41) hx hb dX6_prices_37 (by decide) (fun c8 => ?_) (fun c8 => ?_)
      · have h := h.1 c8
        refine lv_aload_n hx hb dX6_prices_41 rfl (lv_at hl 0 rfl) ?_
        refine lv_iload_n hx hb dX6_prices_42 rfl (lv_at hl 1 rfl) ?_
        refine va_put (D := D) (ci := 6) (v := .int xl1) (ty := .int) (C := RX6) (T := TX6) (N := 36) hx hb hts hinX6 tyX6 tyX6_ok nmX6 hown hK hP (hD S6) hS 0 rfl rfl 20 (by decide) kf38 (fun _ h9 => h9) rfl (by decide +kernel) rfl rfl (Nat.le_of_ble_eq_true rfl) dX6_prices_43 (fun H locs hP _ hS => ?_)
        obtain ⟨S9, eS9⟩ : ∃ z : St, z = sI S6 9 xl1 := ⟨_, rfl⟩
        have hP : va_P D vwCl (mw a c S9) H := by rw [eS9]; exact hP
        have h := h S9 eS9
        refine lv_aload_n hx hb dX6_prices_46 rfl (lv_at hl 0 rfl) ?_
        refine lv_iload_n hx hb dX6_prices_47 rfl (lv_at hl 2 rfl) ?_
        refine va_put (D := D) (ci := 6) (v := .int xl2) (ty := .int) (C := RX6) (T := TX6) (N := 36) hx hb hts hinX6 tyX6 tyX6_ok nmX6 hown hK hP (hD S9) hS 0 rfl rfl 21 (by decide) kf42 (fun _ h9 => h9) rfl (by decide +kernel) rfl rfl (Nat.le_of_ble_eq_true rfl) dX6_prices_48 (fun H locs hP _ hS => ?_)
        obtain ⟨S10, eS10⟩ : ∃ z : St, z = sI S9 10 xl2 := ⟨_, rfl⟩
        have hP : va_P D vwCl (mw a c S10) H := by rw [eS10]; exact hP
        have h := h S10 eS10
        exact g_retv hx hb hr hlocks h hP hS dX6_prices_51
      · have h := h.2 c8
        exact g_retv hx hb hr hlocks h hP hS dX6_prices_40
  unfold PX6_prices at h
  refine lv_aload_n hx hb dX6_prices_0 rfl (lv_at hl 0 rfl) ?_
  refine lv_iconst (v := 0) hx hb dX6_prices_1 (by decide) ?_
  refine va_put (D := D) (ci := 6) (v := .int 0) (ty := .int) (C := RX6) (T := TX6) (N := 36) hx hb hts hinX6 tyX6 tyX6_ok nmX6 hown hK hP (hD S) hS 0 rfl rfl 0 (by decide) kf60 (fun _ h9 => h9) rfl (by decide +kernel) rfl rfl (Nat.le_of_ble_eq_true rfl) dX6_prices_2 (fun H locs hP _ hS => ?_)
  obtain ⟨S1, eS1⟩ : ∃ z : St, z = sI S 0 0 := ⟨_, rfl⟩
  have hP : va_P D vwCl (mw a c S1) H := by rw [eS1]; exact hP
  have h := h S1 eS1
  refine lv_aload_n hx hb dX6_prices_5 rfl (lv_at hl 0 rfl) ?_
  refine lv_iload_n hx hb dX6_prices_6 rfl (lv_at hl 1 rfl) ?_
  refine lv_if_lt (tgt := 28) hx hb dX6_prices_7 (by decide) (fun c2 => ?_) (fun c2 => ?_)
  · have h := h.1 c2
    refine lv_iconst (v := 1) hx hb dX6_prices_28 (by decide) ?_
    refine lv_goto (tgt := 33) hx hb dX6_prices_29 (by decide) ?_
    exact (key n) p0 p1 1 S1 _ _ _ h hP hS (lv_sub hl [0, 1, 2] rfl)
  · have h := h.2 c2
    refine lv_iload_n hx hb dX6_prices_10 rfl (lv_at hl 1 rfl) ?_
    refine lv_sipush (v := 1000) hx hb dX6_prices_11 (by decide) ?_
    refine lv_icmp_gt (tgt := 28) hx hb dX6_prices_14 (by decide) (fun c3 => ?_) (fun c3 => ?_)
    · have h := h.1 c3
      refine lv_iconst (v := 1) hx hb dX6_prices_28 (by decide) ?_
      refine lv_goto (tgt := 33) hx hb dX6_prices_29 (by decide) ?_
      exact (key n) p0 p1 1 S1 _ _ _ h hP hS (lv_sub hl [0, 1, 2] rfl)
    · have h := h.2 c3
      refine lv_iload_n hx hb dX6_prices_17 rfl (lv_at hl 2 rfl) ?_
      refine lv_if_lt (tgt := 28) hx hb dX6_prices_18 (by decide) (fun c4 => ?_) (fun c4 => ?_)
      · have h := h.1 c4
        refine lv_iconst (v := 1) hx hb dX6_prices_28 (by decide) ?_
        refine lv_goto (tgt := 33) hx hb dX6_prices_29 (by decide) ?_
        exact (key n) p0 p1 1 S1 _ _ _ h hP hS (lv_sub hl [0, 1, 2] rfl)
      · have h := h.2 c4
        refine lv_iload_n hx hb dX6_prices_21 rfl (lv_at hl 2 rfl) ?_
        refine lv_sipush (v := 1000) hx hb dX6_prices_22 (by decide) ?_
        refine lv_icmp_le (tgt := 32) hx hb dX6_prices_25 (by decide) (fun c5 => ?_) (fun c5 => ?_)
        · have h := h.1 c5
          refine lv_iconst (v := 0) hx hb dX6_prices_32 (by decide) ?_
          exact (key n) p0 p1 0 S1 _ _ _ h hP hS (lv_sub hl [0, 1, 2] rfl)
        · have h := h.2 c5
          refine lv_iconst (v := 1) hx hb dX6_prices_28 (by decide) ?_
          refine lv_goto (tgt := 33) hx hb dX6_prices_29 (by decide) ?_
          exact (key n) p0 p1 1 S1 _ _ _ h hP hS (lv_sub hl [0, 1, 2] rfl)
