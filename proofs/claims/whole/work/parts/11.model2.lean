def BX6_costOf_0 (X : Int32 → Int32 → Int32 → Int32 → Int32 → Int64 → St → Prop) (post : Int64 → St → Prop) (xl1 : Int32) (xl2 : Int32) (xl3 : Int32) (xl4 : Int32) (xl7 : Int32) (yl5 : Int64) (S : St) : Prop := (((S.1 2) ≤ xl7 → post yl5 S) ∧ (¬ (S.1 2) ≤ xl7 → PX6_isLeafOf xl7 S (fun x3 S2 => ((x3 = 0 → ∀ x12 : Int32, x12 = xl7 + 1 → X xl1 xl2 xl3 xl4 x12 yl5 S2) ∧ (¬ x3 = 0 → (vp_in ((6 * xl7) + xl1) 900 ∧ ∀ x6 : Int32, x6 = ((xl3 + xl2) - (S2.2.2 4 ((6 * xl7) + xl1).toNatClampNeg)) → ((x6 ≤ 0 → ∀ y8 : Int64, y8 = (yl5 + (xl4.toInt64 + ((-x6).toInt64 * (S2.1 10).toInt64))) → ∀ x9 : Int32, x9 = xl7 + 1 → X xl1 xl2 xl3 xl4 x9 y8 S2) ∧ (¬ x6 ≤ 0 → ∀ y10 : Int64, y10 = (yl5 + (xl4.toInt64 + (x6.toInt64 * (S2.1 9).toInt64))) → ∀ x11 : Int32, x11 = xl7 + 1 → X xl1 xl2 xl3 xl4 x11 y10 S2))))))))
def LX6_costOf (post : Int64 → St → Prop) : Nat → Int32 → Int32 → Int32 → Int32 → Int32 → Int64 → St → Prop
  | 0, _, _, _, _, _, _, _ => False
  | n + 1, xl1, xl2, xl3, xl4, xl7, yl5, S => BX6_costOf_0 (LX6_costOf post n) post xl1 xl2 xl3 xl4 xl7 yl5 S
def PX6_costOf (n : Nat) (p0 : Int32) (p1 : Int32) (p2 : Int32) (p3 : Int32) (S : St) (post : Int64 → St → Prop) : Prop := LX6_costOf post n p0 p1 p2 p3 0 0 S
set_option maxHeartbeats 4000000 in
set_option maxRecDepth 100000 in
theorem tX6_costOf (l : Launch) (D : va_G) (a : Nat → Nat) (c : Nat → ClassId) (sz : Nat) (n : Nat) (p0 : Int32) (p1 : Int32) (p2 : Int32) (p3 : Int32) (S : St) (post : Int64 → St → Prop) (h : PX6_costOf n p0 p1 p2 p3 S post) : Met l yX6_costOf wsX6_costOf ({ frames := 1, cells := 0, slots := 0, locals := 21 }) (va_Pc [.ref (a 0), .int p0, .int p1, .int p2, .int p3] (gP D (mw a c) (mty c) mns S sz)) (va_Ql post (gB D (mw a c)) (va_A (mw a c S) sz)) 0 0 (va_A (mw a c S) sz) := by
  refine Met.ofW (cc := cX6_costOf) (maxL := 9) (ret := (some .long)) (by decide) rfl ?_
  intro p e s m args below meth c9 s₁ B hml hv
  obtain ⟨rfl, hsz, hP, hK, hD0, hN⟩ := hv
  have hx := B.exec
  have hb := B.bytes
  have hr := B.returns
  have hts := atoms_spec (ws := wsX6_costOf) B.pre
  have hown : s.vm.findClass RX6 = some m.cls := findClass_of_methodNamed B.named
  have hlocks := B.notSynchronized
  subst hsz
  have hD1 := hD0.self (sz := s.heap.size)
  generalize hAe : va_A (mw a c S) s.heap.size = A at hD1 ⊢
  have hA : ∀ q : Nat, s.heap.size ≤ q → A q := fun q h => by rw [← hAe]; exact Or.inr h
  have hD : ∀ S2 : St, va_D A (mw a c S2) := gD mw_F hD1
  have hS : va_S A s.heap s.heap [] := va_S.rf
  have hinX6 : ∀ w ∈ wsX60, w ∈ wsX6_costOf := by decide +kernel
  have kf22 := hts (.fieldLink RX6 22 "CanteenPlanModel" "eaten" "[I") (by decide +kernel)
  have kf38 := hts (.fieldLink RX6 38 "CanteenPlanModel" "waste" "I") (by decide +kernel)
  have kf42 := hts (.fieldLink RX6 42 "CanteenPlanModel" "want" "I") (by decide +kernel)
  have kf77 := hts (.fieldLink RX6 77 "CanteenPlanModel" "days" "I") (by decide +kernel)
  have hl := lv_entry ([.ref (a 0), .int p0, .int p1, .int p2, .int p3]) (n := 9) (Nat.le_of_ble_eq_true rfl)
  rw [lg_entry_eq]
  generalize (lg_sl ([.ref (a 0), .int p0, .int p1, .int p2, .int p3]) ++ List.replicate (9 - (lg_sl ([.ref (a 0), .int p0, .int p1, .int p2, .int p3])).length) Slot.unset).toArray = ls at hl ⊢
  have hl : lv_has ls 9 [(0, .ref (a 0)), (1, .int p0), (2, .int p1), (3, .int p2), (4, .int p3)] := hl
  have key : ∀ n : Nat, (∀ (xl1 : Int32) (xl2 : Int32) (xl3 : Int32) (xl4 : Int32) (yl5 : Int64) (xl7 : Int32) (S : St) (H : Heap) (locs : List Loc) (ls : Array Slot), LX6_costOf post n xl1 xl2 xl3 xl4 xl7 yl5 S → va_P D vwCl (mw a c S) H → va_S A s.heap H locs → lv_has ls 9 [(0, .ref (a 0)), (1, .int xl1), (2, .int xl2), (3, .int xl3), (4, .int xl4), (5, .long yl5), (7, .int xl7)] → W p l e ((headSpec wsX6_costOf ({ frames := 1, cells := 0, slots := 0, locals := 21 })).room) s m ([.ref (a 0), .int p0, .int p1, .int p2, .int p3]).toArray below meth c9 H locs 0 0 (MQ below (va_Ql post (gB D (mw a c)) A) ([.ref (a 0), .int p0, .int p1, .int p2, .int p3]).toArray s 0 0 A) (F0 m 6 ls [])) := by
    intro n
    induction n with
    | zero => exact fun xl1 xl2 xl3 xl4 yl5 xl7 S H locs ls h => h.elim
    | succ n ih =>
      intro xl1 xl2 xl3 xl4 yl5 xl7 S H locs ls h hP hS hl
      have h : BX6_costOf_0 (LX6_costOf post n) post xl1 xl2 xl3 xl4 xl7 yl5 S := h
      unfold BX6_costOf_0 at h
      refine lv_iload hx hb dX6_costOf_6 (lv_at hl 6 rfl) ?_
      refine lv_aload_n hx hb dX6_costOf_8 rfl (lv_at hl 0 rfl) ?_
      refine va_get (D := D) (ci := 6) (v := .int (S.1 2)) (C := RX6) (T := TX6) (N := 36) hx hb hts hinX6 hown hK hP 0 rfl rfl 8 (by decide) kf77 (fun _ h9 => h9) rfl dX6_costOf_9 ?_
      refine lv_icmp_ge (tgt := 87) hx hb dX6_costOf_12 (by decide) (fun c1 => ?_) (fun c1 => ?_)
      · have h := h.1 c1
        refine lv_lload hx hb dX6_costOf_87 (lv_at hl 5 rfl) ?_
        exact g_retl hx hb hr hlocks h hP hS dX6_costOf_89
      · have h := h.2 c1
        refine lv_aload_n hx hb dX6_costOf_15 rfl (lv_at hl 0 rfl) ?_
        refine lv_iload hx hb dX6_costOf_16 (lv_at hl 6 rfl) ?_
        refine k_i (k_runV mns_ok ⟨hx, hb, hml, hown, hts⟩ (tX6_isLeafOf l D a c _ xl7 S _ h) (cwV 1 hts gX6_costOf_X6_isLeafOf rfl rfl rfl (by decide +kernel) ⟨Nat.le_of_ble_eq_true rfl, Nat.le_of_ble_eq_true rfl⟩) (va_recv hK hP (ci := 6) (q0 := 0) rfl rfl) hP hK (hD S) hN rfl rfl hl.1 rfl (lv_room (Nat.le_of_ble_eq_true rfl)) dX6_costOf_18 ⟨Nat.le_of_ble_eq_true rfl, Nat.le_of_ble_eq_true rfl⟩) hS (hD S) hA (fun x3 S2 H locs h hP hS => ?_)
        refine lv_if_ne (tgt := 27) hx hb dX6_costOf_21 (by decide) (fun c4 => ?_) (fun c4 => ?_)
        · have h := h.2 c4
          refine lv_iload_n hx hb dX6_costOf_27 rfl (lv_at hl 3 rfl) ?_
          refine lv_iload_n hx hb dX6_costOf_28 rfl (lv_at hl 2 rfl) ?_
          refine lv_iadd hx hb dX6_costOf_29 ?_
          refine lv_aload_n hx hb dX6_costOf_30 rfl (lv_at hl 0 rfl) ?_
          refine va_get (D := D) (ci := 6) (v := .ref (a 5)) (C := RX6) (T := TX6) (N := 36) hx hb hts hinX6 hown hK hP 0 rfl rfl 6 (by decide) kf22 (fun _ h9 => h9) rfl dX6_costOf_31 ?_
          refine lv_bipush (v := 6) hx hb dX6_costOf_34 (by decide) ?_
          refine lv_iload hx hb dX6_costOf_36 (lv_at hl 6 rfl) ?_
          refine lv_imul hx hb dX6_costOf_38 ?_
          refine lv_iload_n hx hb dX6_costOf_39 rfl (lv_at hl 1 rfl) ?_
          refine lv_iadd hx hb dX6_costOf_40 ?_
          obtain ⟨b5, h⟩ := h
          refine va_iald hx hb hK hP 5 4 rfl rfl b5 dX6_costOf_41 ?_
          refine lv_isub hx hb dX6_costOf_42 ?_
          refine lv_topi (fun x6 ex6 => ?_)
          have h := h x6 ex6
          refine lv_istore (lv' := [(8, .int x6), (0, .ref (a 0)), (1, .int xl1), (2, .int xl2), (3, .int xl3), (4, .int xl4), (5, .long yl5), (7, .int xl7)]) hx hb dX6_costOf_43 hl (by decide) rfl (fun ls hl => ?_)
          refine lv_lload hx hb dX6_costOf_45 (lv_at hl 6 rfl) ?_
          refine lv_iload hx hb dX6_costOf_47 (lv_at hl 5 rfl) ?_
          refine lv_i2l hx hb dX6_costOf_49 rfl ?_
          refine lv_iload hx hb dX6_costOf_50 (lv_at hl 0 rfl) ?_
          refine lv_if_le (tgt := 67) hx hb dX6_costOf_52 (by decide) (fun c7 => ?_) (fun c7 => ?_)
          · have h := h.1 c7
            refine lv_iload hx hb dX6_costOf_67 (lv_at hl 0 rfl) ?_
            refine lv_ineg hx hb dX6_costOf_69 ?_
            refine lv_i2l hx hb dX6_costOf_70 rfl ?_
            refine lv_aload_n hx hb dX6_costOf_71 rfl (lv_at hl 1 rfl) ?_
            refine va_get (D := D) (ci := 6) (v := .int (S2.1 10)) (C := RX6) (T := TX6) (N := 36) hx hb hts hinX6 hown hK hP 0 rfl rfl 21 (by decide) kf42 (fun _ h9 => h9) rfl dX6_costOf_72 ?_
            refine lv_i2l hx hb dX6_costOf_75 rfl ?_
            refine lv_lmul hx hb dX6_costOf_76 ?_
            refine lv_ladd hx hb dX6_costOf_77 ?_
            refine lv_ladd hx hb dX6_costOf_78 ?_
            refine lv_topl (fun y8 ey8 => ?_)
            have h := h y8 ey8
            refine lv_lstore (lv' := [(5, .long y8), (8, .int x6), (0, .ref (a 0)), (1, .int xl1), (2, .int xl2), (3, .int xl3), (4, .int xl4), (7, .int xl7)]) hx hb dX6_costOf_79 hl (by decide) rfl (fun ls hl => ?_)
            obtain ⟨x9, ex9⟩ : ∃ y : Int32, y = xl7 + 1 := ⟨_, rfl⟩
            have h := h x9 ex9
            refine lv_iinc (v := x9) (lv' := [(7, .int x9), (5, .long y8), (8, .int x6), (0, .ref (a 0)), (1, .int xl1), (2, .int xl2), (3, .int xl3), (4, .int xl4)]) hx hb dX6_costOf_81 hl (k := 7) rfl (by rw [ex9]; rfl) (by decide) rfl (fun ls hl => ?_)
            refine lv_goto (tgt := 6) hx hb dX6_costOf_84 (by decide) ?_
            exact (ih) xl1 xl2 xl3 xl4 y8 x9 S2 _ _ _ h hP hS (lv_sub hl [3, 4, 5, 6, 7, 1, 0] rfl)
          · have h := h.2 c7
            refine lv_iload hx hb dX6_costOf_55 (lv_at hl 0 rfl) ?_
            refine lv_i2l hx hb dX6_costOf_57 rfl ?_
            refine lv_aload_n hx hb dX6_costOf_58 rfl (lv_at hl 1 rfl) ?_
            refine va_get (D := D) (ci := 6) (v := .int (S2.1 9)) (C := RX6) (T := TX6) (N := 36) hx hb hts hinX6 hown hK hP 0 rfl rfl 20 (by decide) kf38 (fun _ h9 => h9) rfl dX6_costOf_59 ?_
            refine lv_i2l hx hb dX6_costOf_62 rfl ?_
            refine lv_lmul hx hb dX6_costOf_63 ?_
            refine lv_goto (tgt := 77) hx hb dX6_costOf_64 (by decide) ?_
            refine lv_ladd hx hb dX6_costOf_77 ?_
            refine lv_ladd hx hb dX6_costOf_78 ?_
            refine lv_topl (fun y10 ey10 => ?_)
            have h := h y10 ey10
            refine lv_lstore (lv' := [(5, .long y10), (8, .int x6), (0, .ref (a 0)), (1, .int xl1), (2, .int xl2), (3, .int xl3), (4, .int xl4), (7, .int xl7)]) hx hb dX6_costOf_79 hl (by decide) rfl (fun ls hl => ?_)
            obtain ⟨x11, ex11⟩ : ∃ y : Int32, y = xl7 + 1 := ⟨_, rfl⟩
            have h := h x11 ex11
            refine lv_iinc (v := x11) (lv' := [(7, .int x11), (5, .long y10), (8, .int x6), (0, .ref (a 0)), (1, .int xl1), (2, .int xl2), (3, .int xl3), (4, .int xl4)]) hx hb dX6_costOf_81 hl (k := 7) rfl (by rw [ex11]; rfl) (by decide) rfl (fun ls hl => ?_)
            refine lv_goto (tgt := 6) hx hb dX6_costOf_84 (by decide) ?_
            exact (ih) xl1 xl2 xl3 xl4 y10 x11 S2 _ _ _ h hP hS (lv_sub hl [3, 4, 5, 6, 7, 1, 0] rfl)
        · have h := h.1 c4
          refine lv_goto (tgt := 81) hx hb dX6_costOf_24 (by decide) ?_
          obtain ⟨x12, ex12⟩ : ∃ y : Int32, y = xl7 + 1 := ⟨_, rfl⟩
          have h := h x12 ex12
          refine lv_iinc (v := x12) (lv' := [(7, .int x12), (0, .ref (a 0)), (1, .int xl1), (2, .int xl2), (3, .int xl3), (4, .int xl4), (5, .long yl5)]) hx hb dX6_costOf_81 hl (k := 6) rfl (by rw [ex12]; rfl) (by decide) rfl (fun ls hl => ?_)
          refine lv_goto (tgt := 6) hx hb dX6_costOf_84 (by decide) ?_
          exact (ih) xl1 xl2 xl3 xl4 yl5 x12 S2 _ _ _ h hP hS (lv_sub hl [1, 2, 3, 4, 5, 6, 0] rfl)
  unfold PX6_costOf at h
  refine lv_lconst (v := 0) hx hb dX6_costOf_0 (by decide) ?_
  refine lv_lstore (lv' := [(5, .long 0), (0, .ref (a 0)), (1, .int p0), (2, .int p1), (3, .int p2), (4, .int p3)]) hx hb dX6_costOf_1 hl (by decide) rfl (fun ls hl => ?_)
  refine lv_iconst (v := 0) hx hb dX6_costOf_3 (by decide) ?_
  refine lv_istore (lv' := [(7, .int 0), (5, .long 0), (0, .ref (a 0)), (1, .int p0), (2, .int p1), (3, .int p2), (4, .int p3)]) hx hb dX6_costOf_4 hl (by decide) rfl (fun ls hl => ?_)
  exact (key n) p0 p1 p2 p3 0 0 S _ _ _ h hP hS (lv_sub hl [2, 3, 4, 5, 6, 1, 0] rfl)
def BX6_upTo_0 (X : Int32 → Int32 → Int32 → St → Prop) (post : Int32 → St → Prop) (xl1 : Int32) (xl2 : Int32) (xl3 : Int32) (S : St) : Prop := ((xl1 < xl3 → post xl2 S) ∧ (¬ xl1 < xl3 → (vp_in xl3 4 ∧ ∀ x3 : Int32, x3 = (xl2 + (S.2.2 9 xl3.toNatClampNeg)) → ∀ x4 : Int32, x4 = xl3 + 1 → X xl1 x3 x4 S)))
def LX6_upTo (post : Int32 → St → Prop) : Nat → Int32 → Int32 → Int32 → St → Prop
  | 0, _, _, _, _ => False
  | n + 1, xl1, xl2, xl3, S => BX6_upTo_0 (LX6_upTo post n) post xl1 xl2 xl3 S
def PX6_upTo (n : Nat) (p0 : Int32) (S : St) (post : Int32 → St → Prop) : Prop := LX6_upTo post n p0 0 0 S
set_option maxHeartbeats 4000000 in
set_option maxRecDepth 100000 in
theorem tX6_upTo (l : Launch) (D : va_G) (a : Nat → Nat) (c : Nat → ClassId) (sz : Nat) (n : Nat) (p0 : Int32) (S : St) (post : Int32 → St → Prop) (h : PX6_upTo n p0 S post) : Met l yX6_upTo wsX6_upTo ({ frames := 0, cells := 0, slots := 0, locals := 0 }) (va_Pc [.ref (a 0), .int p0] (gP D (mw a c) (mty c) mns S sz)) (va_Qi post (gB D (mw a c)) (va_A (mw a c S) sz)) 0 0 (va_A (mw a c S) sz) := by
  refine Met.ofW (cc := cX6_upTo) (maxL := 4) (ret := (some .int)) (by decide) rfl ?_
  intro p e s m args below meth c9 s₁ B hml hv
  obtain ⟨rfl, hsz, hP, hK, hD0, hN⟩ := hv
  have hx := B.exec
  have hb := B.bytes
  have hr := B.returns
  have hts := atoms_spec (ws := wsX6_upTo) B.pre
  have hown : s.vm.findClass RX6 = some m.cls := findClass_of_methodNamed B.named
  have hlocks := B.notSynchronized
  subst hsz
  have hD1 := hD0.self (sz := s.heap.size)
  generalize hAe : va_A (mw a c S) s.heap.size = A at hD1 ⊢
  have hA : ∀ q : Nat, s.heap.size ≤ q → A q := fun q h => by rw [← hAe]; exact Or.inr h
  have hD : ∀ S2 : St, va_D A (mw a c S2) := gD mw_F hD1
  have hS : va_S A s.heap s.heap [] := va_S.rf
  have hinX6 : ∀ w ∈ wsX60, w ∈ wsX6_upTo := by decide +kernel
  have kf45 := hts (.fieldLink RX6 45 "CanteenPlanModel" "set" "[I") (by decide +kernel)
  have hl := lv_entry ([.ref (a 0), .int p0]) (n := 4) (Nat.le_of_ble_eq_true rfl)
  rw [lg_entry_eq]
  generalize (lg_sl ([.ref (a 0), .int p0]) ++ List.replicate (4 - (lg_sl ([.ref (a 0), .int p0])).length) Slot.unset).toArray = ls at hl ⊢
  have hl : lv_has ls 4 [(0, .ref (a 0)), (1, .int p0)] := hl
  have key : ∀ n : Nat, (∀ (xl1 : Int32) (xl2 : Int32) (xl3 : Int32) (S : St) (H : Heap) (locs : List Loc) (ls : Array Slot), LX6_upTo post n xl1 xl2 xl3 S → va_P D vwCl (mw a c S) H → va_S A s.heap H locs → lv_has ls 4 [(0, .ref (a 0)), (1, .int xl1), (2, .int xl2), (3, .int xl3)] → W p l e ((headSpec wsX6_upTo ({ frames := 0, cells := 0, slots := 0, locals := 0 })).room) s m ([.ref (a 0), .int p0]).toArray below meth c9 H locs 0 0 (MQ below (va_Qi post (gB D (mw a c)) A) ([.ref (a 0), .int p0]).toArray s 0 0 A) (F0 m 4 ls [])) := by
    intro n
    induction n with
    | zero => exact fun xl1 xl2 xl3 S H locs ls h => h.elim
    | succ n ih =>
      intro xl1 xl2 xl3 S H locs ls h hP hS hl
      have h : BX6_upTo_0 (LX6_upTo post n) post xl1 xl2 xl3 S := h
      unfold BX6_upTo_0 at h
      refine lv_iload_n hx hb dX6_upTo_4 rfl (lv_at hl 3 rfl) ?_
      refine lv_iload_n hx hb dX6_upTo_5 rfl (lv_at hl 1 rfl) ?_
      refine lv_icmp_gt (tgt := 24) hx hb dX6_upTo_6 (by decide) (fun c1 => ?_) (fun c1 => ?_)
      · have h := h.1 c1
        refine lv_iload_n hx hb dX6_upTo_24 rfl (lv_at hl 2 rfl) ?_
        exact g_reti hx hb hr hlocks h hP hS dX6_upTo_25
      · have h := h.2 c1
        refine lv_iload_n hx hb dX6_upTo_9 rfl (lv_at hl 2 rfl) ?_
        refine lv_aload_n hx hb dX6_upTo_10 rfl (lv_at hl 0 rfl) ?_
        refine va_get (D := D) (ci := 6) (v := .ref (a 10)) (C := RX6) (T := TX6) (N := 36) hx hb hts hinX6 hown hK hP 0 rfl rfl 22 (by decide) kf45 (fun _ h9 => h9) rfl dX6_upTo_11 ?_
        refine lv_iload_n hx hb dX6_upTo_14 rfl (lv_at hl 3 rfl) ?_
        obtain ⟨b2, h⟩ := h
        refine va_iald hx hb hK hP 10 9 rfl rfl b2 dX6_upTo_15 ?_
        refine lv_iadd hx hb dX6_upTo_16 ?_
        refine lv_topi (fun x3 ex3 => ?_)
        have h := h x3 ex3
        refine lv_istore_n (lv' := [(2, .int x3), (0, .ref (a 0)), (1, .int xl1), (3, .int xl3)]) hx hb dX6_upTo_17 rfl hl (by decide) rfl (fun ls hl => ?_)
        obtain ⟨x4, ex4⟩ : ∃ y : Int32, y = xl3 + 1 := ⟨_, rfl⟩
        have h := h x4 ex4
        refine lv_iinc (v := x4) (lv' := [(3, .int x4), (2, .int x3), (0, .ref (a 0)), (1, .int xl1)]) hx hb dX6_upTo_18 hl (k := 3) rfl (by rw [ex4]; rfl) (by decide) rfl (fun ls hl => ?_)
        refine lv_goto (tgt := 4) hx hb dX6_upTo_21 (by decide) ?_
        exact (ih) xl1 x3 x4 S _ _ _ h hP hS (lv_sub hl [2, 3, 1, 0] rfl)
  unfold PX6_upTo at h
  refine lv_iconst (v := 0) hx hb dX6_upTo_0 (by decide) ?_
  refine lv_istore_n (lv' := [(2, .int 0), (0, .ref (a 0)), (1, .int p0)]) hx hb dX6_upTo_1 rfl hl (by decide) rfl (fun ls hl => ?_)
  refine lv_iconst (v := 0) hx hb dX6_upTo_2 (by decide) ?_
  refine lv_istore_n (lv' := [(3, .int 0), (2, .int 0), (0, .ref (a 0)), (1, .int p0)]) hx hb dX6_upTo_3 rfl hl (by decide) rfl (fun ls hl => ?_)
  exact (key n) p0 0 0 S _ _ _ h hP hS (lv_sub hl [2, 3, 1, 0] rfl)
def BX6_isMore_0 (X : Int32 → St → Prop) (post : Int32 → St → Prop) (xl1 : Int32) (S : St) : Prop := (((S.1 8) ≤ xl1 → post 0 S) ∧ (¬ (S.1 8) ≤ xl1 → (vp_in xl1 4 ∧ (vp_in xl1 4 ∧ (((S.2.2 9 xl1.toNatClampNeg) = (S.2.2 10 xl1.toNatClampNeg) → ∀ x5 : Int32, x5 = xl1 + 1 → X x5 S) ∧ (¬ (S.2.2 9 xl1.toNatClampNeg) = (S.2.2 10 xl1.toNatClampNeg) → (vp_in xl1 4 ∧ (vp_in xl1 4 ∧ (((S.2.2 9 xl1.toNatClampNeg) ≤ (S.2.2 10 xl1.toNatClampNeg) → post 0 S) ∧ (¬ (S.2.2 9 xl1.toNatClampNeg) ≤ (S.2.2 10 xl1.toNatClampNeg) → post 1 S))))))))))
def LX6_isMore (post : Int32 → St → Prop) : Nat → Int32 → St → Prop
  | 0, _, _ => False
  | n + 1, xl1, S => BX6_isMore_0 (LX6_isMore post n) post xl1 S
def PX6_isMore (n : Nat)  (S : St) (post : Int32 → St → Prop) : Prop := LX6_isMore post n 0 S
set_option maxHeartbeats 4000000 in
set_option maxRecDepth 100000 in
theorem tX6_isMore (l : Launch) (D : va_G) (a : Nat → Nat) (c : Nat → ClassId) (sz : Nat) (n : Nat)  (S : St) (post : Int32 → St → Prop) (h : PX6_isMore n  S post) : Met l yX6_isMore wsX6_isMore ({ frames := 0, cells := 0, slots := 0, locals := 0 }) (va_Pc [.ref (a 0)] (gP D (mw a c) (mty c) mns S sz)) (va_Qi post (gB D (mw a c)) (va_A (mw a c S) sz)) 0 0 (va_A (mw a c S) sz) := by
  refine Met.ofW (cc := cX6_isMore) (maxL := 2) (ret := (some .boolean)) (by decide) rfl ?_
  intro p e s m args below meth c9 s₁ B hml hv
  obtain ⟨rfl, hsz, hP, hK, hD0, hN⟩ := hv
  have hx := B.exec
  have hb := B.bytes
  have hr := B.returns
  have hts := atoms_spec (ws := wsX6_isMore) B.pre
  have hown : s.vm.findClass RX6 = some m.cls := findClass_of_methodNamed B.named
  have hlocks := B.notSynchronized
  subst hsz
  have hD1 := hD0.self (sz := s.heap.size)
  generalize hAe : va_A (mw a c S) s.heap.size = A at hD1 ⊢
  have hA : ∀ q : Nat, s.heap.size ≤ q → A q := fun q h => by rw [← hAe]; exact Or.inr h
  have hD : ∀ S2 : St, va_D A (mw a c S2) := gD mw_F hD1
  have hS : va_S A s.heap s.heap [] := va_S.rf
  have hinX6 : ∀ w ∈ wsX60, w ∈ wsX6_isMore := by decide +kernel
  have kf122 := hts (.fieldLink RX6 122 "CanteenPlanModel" "sizes" "I") (by decide +kernel)
  have kf45 := hts (.fieldLink RX6 45 "CanteenPlanModel" "set" "[I") (by decide +kernel)
  have kf48 := hts (.fieldLink RX6 48 "CanteenPlanModel" "best" "[I") (by decide +kernel)
  have hl := lv_entry ([.ref (a 0)]) (n := 2) (Nat.le_of_ble_eq_true rfl)
  rw [lg_entry_eq]
  generalize (lg_sl ([.ref (a 0)]) ++ List.replicate (2 - (lg_sl ([.ref (a 0)])).length) Slot.unset).toArray = ls at hl ⊢
  have hl : lv_has ls 2 [(0, .ref (a 0))] := hl
  have key : ∀ n : Nat, (∀ (xl1 : Int32) (S : St) (H : Heap) (locs : List Loc) (ls : Array Slot), LX6_isMore post n xl1 S → va_P D vwCl (mw a c S) H → va_S A s.heap H locs → lv_has ls 2 [(0, .ref (a 0)), (1, .int xl1)] → W p l e ((headSpec wsX6_isMore ({ frames := 0, cells := 0, slots := 0, locals := 0 })).room) s m ([.ref (a 0)]).toArray below meth c9 H locs 0 0 (MQ below (va_Qi post (gB D (mw a c)) A) ([.ref (a 0)]).toArray s 0 0 A) (F0 m 2 ls [])) := by
    intro n
    induction n with
    | zero => exact fun xl1 S H locs ls h => h.elim
    | succ n ih =>
      intro xl1 S H locs ls h hP hS hl
      have h : BX6_isMore_0 (LX6_isMore post n) post xl1 S := h
      unfold BX6_isMore_0 at h
      refine lv_iload_n hx hb dX6_isMore_2 rfl (lv_at hl 1 rfl) ?_
      refine lv_aload_n hx hb dX6_isMore_3 rfl (lv_at hl 0 rfl) ?_
      refine va_get (D := D) (ci := 6) (v := .int (S.1 8)) (C := RX6) (T := TX6) (N := 36) hx hb hts hinX6 hown hK hP 0 rfl rfl 19 (by decide) kf122 (fun _ h9 => h9) rfl dX6_isMore_4 ?_
      refine lv_icmp_ge (tgt := 52) hx hb dX6_isMore_7 (by decide) (fun c1 => ?_) (fun c1 => ?_)
      · have h := h.1 c1
        refine lv_iconst (v := 0) hx hb dX6_isMore_52 (by decide) ?_
        exact g_retz hx hb hr hlocks (Or.inl rfl) h hP hS dX6_isMore_53
      · have h := h.2 c1
        refine lv_aload_n hx hb dX6_isMore_10 rfl (lv_at hl 0 rfl) ?_
        refine va_get (D := D) (ci := 6) (v := .ref (a 10)) (C := RX6) (T := TX6) (N := 36) hx hb hts hinX6 hown hK hP 0 rfl rfl 22 (by decide) kf45 (fun _ h9 => h9) rfl dX6_isMore_11 ?_
        refine lv_iload_n hx hb dX6_isMore_14 rfl (lv_at hl 1 rfl) ?_
        obtain ⟨b2, h⟩ := h
        refine va_iald hx hb hK hP 10 9 rfl rfl b2 dX6_isMore_15 ?_
        refine lv_aload_n hx hb dX6_isMore_16 rfl (lv_at hl 0 rfl) ?_
        refine va_get (D := D) (ci := 6) (v := .ref (a 11)) (C := RX6) (T := TX6) (N := 36) hx hb hts hinX6 hown hK hP 0 rfl rfl 23 (by decide) kf48 (fun _ h9 => h9) rfl dX6_isMore_17 ?_
        refine lv_iload_n hx hb dX6_isMore_20 rfl (lv_at hl 1 rfl) ?_
        obtain ⟨b3, h⟩ := h
        refine va_iald hx hb hK hP 11 10 rfl rfl b3 dX6_isMore_21 ?_
        refine lv_icmp_eq (tgt := 46) hx hb dX6_isMore_22 (by decide) (fun c4 => ?_) (fun c4 => ?_)
        · have h := h.1 c4
          obtain ⟨x5, ex5⟩ : ∃ y : Int32, y = xl1 + 1 := ⟨_, rfl⟩
          have h := h x5 ex5
          refine lv_iinc (v := x5) (lv' := [(1, .int x5), (0, .ref (a 0))]) hx hb dX6_isMore_46 hl (k := 1) rfl (by rw [ex5]; rfl) (by decide) rfl (fun ls hl => ?_)
          refine lv_goto (tgt := 2) hx hb dX6_isMore_49 (by decide) ?_
          exact (ih) x5 S _ _ _ h hP hS (lv_sub hl [1, 0] rfl)
        · have h := h.2 c4
          refine lv_aload_n hx hb dX6_isMore_25 rfl (lv_at hl 0 rfl) ?_
          refine va_get (D := D) (ci := 6) (v := .ref (a 10)) (C := RX6) (T := TX6) (N := 36) hx hb hts hinX6 hown hK hP 0 rfl rfl 22 (by decide) kf45 (fun _ h9 => h9) rfl dX6_isMore_26 ?_
          refine lv_iload_n hx hb dX6_isMore_29 rfl (lv_at hl 1 rfl) ?_
          obtain ⟨b6, h⟩ := h
          refine va_iald hx hb hK hP 10 9 rfl rfl b6 dX6_isMore_30 ?_
          refine lv_aload_n hx hb dX6_isMore_31 rfl (lv_at hl 0 rfl) ?_
          refine va_get (D := D) (ci := 6) (v := .ref (a 11)) (C := RX6) (T := TX6) (N := 36) hx hb hts hinX6 hown hK hP 0 rfl rfl 23 (by decide) kf48 (fun _ h9 => h9) rfl dX6_isMore_32 ?_
          refine lv_iload_n hx hb dX6_isMore_35 rfl (lv_at hl 1 rfl) ?_
          obtain ⟨b7, h⟩ := h
          refine va_iald hx hb hK hP 11 10 rfl rfl b7 dX6_isMore_36 ?_
          refine lv_icmp_le (tgt := 44) hx hb dX6_isMore_37 (by decide) (fun c8 => ?_) (fun c8 => ?_)
          · have h := h.1 c8
            refine lv_iconst (v := 0) hx hb dX6_isMore_44 (by decide) ?_
            exact g_retz hx hb hr hlocks (Or.inl rfl) h hP hS dX6_isMore_45
          · have h := h.2 c8
            refine lv_iconst (v := 1) hx hb dX6_isMore_40 (by decide) ?_
            refine lv_goto (tgt := 45) hx hb dX6_isMore_41 (by decide) ?_
            exact g_retz hx hb hr hlocks (Or.inr rfl) h hP hS dX6_isMore_45
  unfold PX6_isMore at h
  refine lv_iconst (v := 0) hx hb dX6_isMore_0 (by decide) ?_
  refine lv_istore_n (lv' := [(1, .int 0), (0, .ref (a 0))]) hx hb dX6_isMore_1 rfl hl (by decide) rfl (fun ls hl => ?_)
  exact (key n) 0 S _ _ _ h hP hS (lv_sub hl [1, 0] rfl)
def BX6_takes_0 (X : Nat → Int32 → Int32 → Int32 → Int32 → Int32 → Int64 → St → Prop) (post : St → Prop) (xl3 : Int32) (xl4 : Int32) (xl5 : Int32) (xl6 : Int32) (xs0 : Int32) (yl1 : Int64) (S : St) : Prop := ((xs0 = 0 → (((lg_cmp yl1 (S.2.1 2)) = 0 → ((xl3 = (S.1 11) → ((xl4 = (S.1 12) → ∃ k : Nat, PX6_isMore k  S (fun x8 S7 => X 1 xl3 xl4 x8 0 0 yl1 S7)) ∧ (¬ xl4 = (S.1 12) → (((S.1 12) ≤ xl4 → X 1 xl3 xl4 0 0 0 yl1 S) ∧ (¬ (S.1 12) ≤ xl4 → X 1 xl3 xl4 1 0 0 yl1 S))))) ∧ (¬ xl3 = (S.1 11) → (((S.1 11) ≤ xl3 → X 1 xl3 xl4 0 0 0 yl1 S) ∧ (¬ (S.1 11) ≤ xl3 → X 1 xl3 xl4 1 0 0 yl1 S))))) ∧ (¬ (lg_cmp yl1 (S.2.1 2)) = 0 → X 1 xl3 xl4 xs0 0 0 yl1 S))) ∧ (¬ xs0 = 0 → X 1 xl3 xl4 xs0 0 0 yl1 S))
def BX6_takes_1 (X : Nat → Int32 → Int32 → Int32 → Int32 → Int32 → Int64 → St → Prop) (post : St → Prop) (xl3 : Int32) (xl4 : Int32) (xl5 : Int32) (xl6 : Int32) (xs0 : Int32) (yl1 : Int64) (S : St) : Prop := ((xl5 = 0 → post S) ∧ (¬ xl5 = 0 → ∀ S13 : St, S13 = sJ S 2 yl1 → ∀ S14 : St, S14 = sI S13 11 xl3 → ∀ S15 : St, S15 = sI S14 12 xl4 → X 2 0 0 0 0 0 0 S15))
def BX6_takes_2 (X : Nat → Int32 → Int32 → Int32 → Int32 → Int32 → Int64 → St → Prop) (post : St → Prop) (xl3 : Int32) (xl4 : Int32) (xl5 : Int32) (xl6 : Int32) (xs0 : Int32) (yl1 : Int64) (S : St) : Prop := ((4 ≤ xl6 → post S) ∧ (¬ 4 ≤ xl6 → (vp_in xl6 4 ∧ (vp_in xl6 4 ∧ ∀ S19 : St, S19 = sR S 10 (upd (S.2.2 10) xl6.toNatClampNeg (S.2.2 9 xl6.toNatClampNeg)) → ∀ x20 : Int32, x20 = xl6 + 1 → X 2 0 0 0 x20 0 0 S19))))
def LX6_takes (post : St → Prop) : Nat → Nat → Int32 → Int32 → Int32 → Int32 → Int32 → Int64 → St → Prop
  | 0, _, _, _, _, _, _, _, _ => False
  | n + 1, 0, xl3, xl4, xl5, xl6, xs0, yl1, S => BX6_takes_0 (LX6_takes post n) post xl3 xl4 xl5 xl6 xs0 yl1 S
  | n + 1, 1, xl3, xl4, xl5, xl6, xs0, yl1, S => BX6_takes_1 (LX6_takes post n) post xl3 xl4 xl5 xl6 xs0 yl1 S
  | n + 1, 2, xl3, xl4, xl5, xl6, xs0, yl1, S => BX6_takes_2 (LX6_takes post n) post xl3 xl4 xl5 xl6 xs0 yl1 S
  | _ + 1, _ + 3, _, _, _, _, _, _, _ => False
def PX6_takes (n : Nat) (p0 : Int64) (p1 : Int32) (p2 : Int32) (S : St) (post : St → Prop) : Prop := (((lg_cmp (S.2.1 2) 0) < 0 → LX6_takes post n 0 p1 p2 0 0 1 p0 S) ∧ (¬ (lg_cmp (S.2.1 2) 0) < 0 → ((0 ≤ (lg_cmp p0 (S.2.1 2)) → LX6_takes post n 0 p1 p2 0 0 0 p0 S) ∧ (¬ 0 ≤ (lg_cmp p0 (S.2.1 2)) → LX6_takes post n 0 p1 p2 0 0 1 p0 S))))
set_option maxHeartbeats 4000000 in
set_option maxRecDepth 100000 in
theorem tX6_takes (l : Launch) (D : va_G) (a : Nat → Nat) (c : Nat → ClassId) (sz : Nat) (n : Nat) (p0 : Int64) (p1 : Int32) (p2 : Int32) (S : St) (post : St → Prop) (h : PX6_takes n p0 p1 p2 S post) : Met l yX6_takes wsX6_takes ({ frames := 1, cells := 0, slots := 0, locals := 21 }) (va_Pc [.ref (a 0), .long p0, .int p1, .int p2] (gP D (mw a c) (mty c) mns S sz)) (va_Qv post (gB D (mw a c)) (va_A (mw a c S) sz)) 0 0 (va_A (mw a c S) sz) := by
  refine Met.ofW (cc := cX6_takes) (maxL := 7) (ret := none) (by decide) rfl ?_
  intro p e s m args below meth c9 s₁ B hml hv
  obtain ⟨rfl, hsz, hP, hK, hD0, hN⟩ := hv
  have hx := B.exec
  have hb := B.bytes
  have hr := B.returns
  have hts := atoms_spec (ws := wsX6_takes) B.pre
  have hown : s.vm.findClass RX6 = some m.cls := findClass_of_methodNamed B.named
  have hlocks := B.notSynchronized
  subst hsz
  have hD1 := hD0.self (sz := s.heap.size)
  generalize hAe : va_A (mw a c S) s.heap.size = A at hD1 ⊢
  have hA : ∀ q : Nat, s.heap.size ≤ q → A q := fun q h => by rw [← hAe]; exact Or.inr h
  have hD : ∀ S2 : St, va_D A (mw a c S2) := gD mw_F hD1
  have hS : va_S A s.heap s.heap [] := va_S.rf
  have hinX6 : ∀ w ∈ wsX60, w ∈ wsX6_takes := by decide +kernel
  have kf127 := hts (.fieldLink RX6 127 "CanteenPlanModel" "bestCost" "J") (by decide +kernel)
  have kf142 := hts (.fieldLink RX6 142 "CanteenPlanModel" "bestPortions" "I") (by decide +kernel)
  have kf145 := hts (.fieldLink RX6 145 "CanteenPlanModel" "bestPots" "I") (by decide +kernel)
  have kf45 := hts (.fieldLink RX6 45 "CanteenPlanModel" "set" "[I") (by decide +kernel)
  have kf48 := hts (.fieldLink RX6 48 "CanteenPlanModel" "best" "[I") (by decide +kernel)
  have hl := lv_entry ([.ref (a 0), .long p0, .int p1, .int p2]) (n := 7) (Nat.le_of_ble_eq_true rfl)
  rw [lg_entry_eq]
  generalize (lg_sl ([.ref (a 0), .long p0, .int p1, .int p2]) ++ List.replicate (7 - (lg_sl ([.ref (a 0), .long p0, .int p1, .int p2])).length) Slot.unset).toArray = ls at hl ⊢
  have hl : lv_has ls 7 [(0, .ref (a 0)), (1, .long p0), (3, .int p1), (4, .int p2)] := hl
  have key : ∀ n : Nat, (∀ (yl1 : Int64) (xl3 : Int32) (xl4 : Int32) (xs0 : Int32) (S : St) (H : Heap) (locs : List Loc) (ls : Array Slot), LX6_takes post n 0 xl3 xl4 0 0 xs0 yl1 S → va_P D vwCl (mw a c S) H → va_S A s.heap H locs → lv_has ls 7 [(0, .ref (a 0)), (1, .long yl1), (3, .int xl3), (4, .int xl4)] → W p l e ((headSpec wsX6_takes ({ frames := 1, cells := 0, slots := 0, locals := 21 })).room) s m ([.ref (a 0), .long p0, .int p1, .int p2]).toArray below meth c9 H locs 0 0 (MQ below (va_Qv post (gB D (mw a c)) A) ([.ref (a 0), .long p0, .int p1, .int p2]).toArray s 0 0 A) (F0 m 23 ls [.int xs0])) ∧ (∀ (yl1 : Int64) (xl3 : Int32) (xl4 : Int32) (xl5 : Int32) (S : St) (H : Heap) (locs : List Loc) (ls : Array Slot), LX6_takes post n 1 xl3 xl4 xl5 0 0 yl1 S → va_P D vwCl (mw a c S) H → va_S A s.heap H locs → lv_has ls 7 [(0, .ref (a 0)), (1, .long yl1), (3, .int xl3), (4, .int xl4), (5, .int xl5)] → W p l e ((headSpec wsX6_takes ({ frames := 1, cells := 0, slots := 0, locals := 21 })).room) s m ([.ref (a 0), .long p0, .int p1, .int p2]).toArray below meth c9 H locs 0 0 (MQ below (va_Qv post (gB D (mw a c)) A) ([.ref (a 0), .long p0, .int p1, .int p2]).toArray s 0 0 A) (F0 m 95 ls [])) ∧ (∀ (xl6 : Int32) (S : St) (H : Heap) (locs : List Loc) (ls : Array Slot), LX6_takes post n 2 0 0 0 xl6 0 0 S → va_P D vwCl (mw a c S) H → va_S A s.heap H locs → lv_has ls 7 [(0, .ref (a 0)), (6, .int xl6)] → W p l e ((headSpec wsX6_takes ({ frames := 1, cells := 0, slots := 0, locals := 21 })).room) s m ([.ref (a 0), .long p0, .int p1, .int p2]).toArray below meth c9 H locs 0 0 (MQ below (va_Qv post (gB D (mw a c)) A) ([.ref (a 0), .long p0, .int p1, .int p2]).toArray s 0 0 A) (F0 m 120 ls [])) := by
    intro n
    induction n with
    | zero => exact ⟨fun yl1 xl3 xl4 xs0 S H locs ls h => h.elim, fun yl1 xl3 xl4 xl5 S H locs ls h => h.elim, fun xl6 S H locs ls h => h.elim⟩
    | succ n ih =>
      refine ⟨?_, ?_, ?_⟩
      · intro yl1 xl3 xl4 xs0 S H locs ls h hP hS hl
        have h : BX6_takes_0 (LX6_takes post n) post xl3 xl4 0 0 xs0 yl1 S := h
        unfold BX6_takes_0 at h
        refine lv_istore (lv' := [(5, .int xs0), (0, .ref (a 0)), (1, .long yl1), (3, .int xl3), (4, .int xl4)]) hx hb dX6_takes_23 hl (by decide) rfl (fun ls hl => ?_)
        refine lv_iload hx hb dX6_takes_25 (lv_at hl 0 rfl) ?_
        refine lv_if_ne (tgt := 95) hx hb dX6_takes_27 (by decide) (fun c3 => ?_) (fun c3 => ?_)
        · have h := h.2 c3
          exact (ih).2.1 yl1 xl3 xl4 xs0 S _ _ _ h hP hS (lv_sub hl [1, 2, 3, 4, 0] rfl)
        · have h := h.1 c3
          refine lv_lload_n hx hb dX6_takes_30 rfl (lv_at hl 2 rfl) ?_
          refine lv_aload_n hx hb dX6_takes_31 rfl (lv_at hl 1 rfl) ?_
          refine va_get (D := D) (ci := 6) (v := .long (S.2.1 2)) (C := RX6) (T := TX6) (N := 36) hx hb hts hinX6 hown hK hP 0 rfl rfl 24 (by decide) kf127 (fun _ h9 => h9) rfl dX6_takes_32 ?_
          refine W.lcmp hx hb dX6_takes_35 ?_
          refine lv_if_ne (tgt := 95) hx hb dX6_takes_36 (by decide) (fun c4 => ?_) (fun c4 => ?_)
          · have h := h.2 c4
            exact (ih).2.1 yl1 xl3 xl4 xs0 S _ _ _ h hP hS (lv_sub hl [1, 2, 3, 4, 0] rfl)
          · have h := h.1 c4
            refine lv_iload_n hx hb dX6_takes_39 rfl (lv_at hl 3 rfl) ?_
            refine lv_aload_n hx hb dX6_takes_40 rfl (lv_at hl 1 rfl) ?_
            refine va_get (D := D) (ci := 6) (v := .int (S.1 11)) (C := RX6) (T := TX6) (N := 36) hx hb hts hinX6 hown hK hP 0 rfl rfl 25 (by decide) kf142 (fun _ h9 => h9) rfl dX6_takes_41 ?_
            refine lv_icmp_eq (tgt := 63) hx hb dX6_takes_44 (by decide) (fun c5 => ?_) (fun c5 => ?_)
            · have h := h.1 c5
              refine lv_iload hx hb dX6_takes_63 (lv_at hl 4 rfl) ?_
              refine lv_aload_n hx hb dX6_takes_65 rfl (lv_at hl 1 rfl) ?_
              refine va_get (D := D) (ci := 6) (v := .int (S.1 12)) (C := RX6) (T := TX6) (N := 36) hx hb hts hinX6 hown hK hP 0 rfl rfl 26 (by decide) kf145 (fun _ h9 => h9) rfl dX6_takes_66 ?_
              refine lv_icmp_eq (tgt := 89) hx hb dX6_takes_69 (by decide) (fun c6 => ?_) (fun c6 => ?_)
              · have h := h.1 c6
                refine lv_aload_n hx hb dX6_takes_89 rfl (lv_at hl 1 rfl) ?_
                obtain ⟨k9, h⟩ := h
                refine k_i (k_runV mns_ok ⟨hx, hb, hml, hown, hts⟩ (tX6_isMore l D a c _ k9  S _ h) (cwV 0 hts gX6_takes_X6_isMore rfl rfl rfl (by decide +kernel) ⟨Nat.le_of_ble_eq_true rfl, Nat.le_of_ble_eq_true rfl⟩) (va_recv hK hP (ci := 6) (q0 := 0) rfl rfl) hP hK (hD S) hN rfl rfl hl.1 rfl (lv_room (Nat.le_of_ble_eq_true rfl)) dX6_takes_90 ⟨Nat.le_of_ble_eq_true rfl, Nat.le_of_ble_eq_true rfl⟩) hS (hD S) hA (fun x8 S7 H locs h hP hS => ?_)
                refine lv_istore (lv' := [(5, .int x8), (0, .ref (a 0)), (1, .long yl1), (3, .int xl3), (4, .int xl4)]) hx hb dX6_takes_93 hl (by decide) rfl (fun ls hl => ?_)
                exact (ih).2.1 yl1 xl3 xl4 x8 S7 _ _ _ h hP hS (lv_sub hl [1, 2, 3, 4, 0] rfl)
              · have h := h.2 c6
                refine lv_iload hx hb dX6_takes_72 (lv_at hl 4 rfl) ?_
                refine lv_aload_n hx hb dX6_takes_74 rfl (lv_at hl 1 rfl) ?_
                refine va_get (D := D) (ci := 6) (v := .int (S.1 12)) (C := RX6) (T := TX6) (N := 36) hx hb hts hinX6 hown hK hP 0 rfl rfl 26 (by decide) kf145 (fun _ h9 => h9) rfl dX6_takes_75 ?_
                refine lv_icmp_ge (tgt := 85) hx hb dX6_takes_78 (by decide) (fun c10 => ?_) (fun c10 => ?_)
                · have h := h.1 c10
                  refine lv_iconst (v := 0) hx hb dX6_takes_85 (by decide) ?_
                  refine lv_goto (tgt := 93) hx hb dX6_takes_86 (by decide) ?_
                  refine lv_istore (lv' := [(5, .int 0), (0, .ref (a 0)), (1, .long yl1), (3, .int xl3), (4, .int xl4)]) hx hb dX6_takes_93 hl (by decide) rfl (fun ls hl => ?_)
                  exact (ih).2.1 yl1 xl3 xl4 0 S _ _ _ h hP hS (lv_sub hl [1, 2, 3, 4, 0] rfl)
                · have h := h.2 c10
                  refine lv_iconst (v := 1) hx hb dX6_takes_81 (by decide) ?_
                  refine lv_goto (tgt := 93) hx hb dX6_takes_82 (by decide) ?_
                  refine lv_istore (lv' := [(5, .int 1), (0, .ref (a 0)), (1, .long yl1), (3, .int xl3), (4, .int xl4)]) hx hb dX6_takes_93 hl (by decide) rfl (fun ls hl => ?_)
                  exact (ih).2.1 yl1 xl3 xl4 1 S _ _ _ h hP hS (lv_sub hl [1, 2, 3, 4, 0] rfl)
            · have h := h.2 c5
              refine lv_iload_n hx hb dX6_takes_47 rfl (lv_at hl 3 rfl) ?_
              refine lv_aload_n hx hb dX6_takes_48 rfl (lv_at hl 1 rfl) ?_
              refine va_get (D := D) (ci := 6) (v := .int (S.1 11)) (C := RX6) (T := TX6) (N := 36) hx hb hts hinX6 hown hK hP 0 rfl rfl 25 (by decide) kf142 (fun _ h9 => h9) rfl dX6_takes_49 ?_
              refine lv_icmp_ge (tgt := 59) hx hb dX6_takes_52 (by decide) (fun c11 => ?_) (fun c11 => ?_)
              · have h := h.1 c11
                refine lv_iconst (v := 0) hx hb dX6_takes_59 (by decide) ?_
                refine lv_goto (tgt := 93) hx hb dX6_takes_60 (by decide) ?_
                refine lv_istore (lv' := [(5, .int 0), (0, .ref (a 0)), (1, .long yl1), (3, .int xl3), (4, .int xl4)]) hx hb dX6_takes_93 hl (by decide) rfl (fun ls hl => ?_)
                exact (ih).2.1 yl1 xl3 xl4 0 S _ _ _ h hP hS (lv_sub hl [1, 2, 3, 4, 0] rfl)
              · have h := h.2 c11
                refine lv_iconst (v := 1) hx hb dX6_takes_55 (by decide) ?_
                refine lv_goto (tgt := 93) hx hb dX6_takes_56 (by decide) ?_
                refine lv_istore (lv' := [(5, .int 1), (0, .ref (a 0)), (1, .long yl1), (3, .int xl3), (4, .int xl4)]) hx hb dX6_takes_93 hl (by decide) rfl (fun ls hl => ?_)
                exact (ih).2.1 yl1 xl3 xl4 1 S _ _ _ h hP hS (lv_sub hl [1, 2, 3, 4, 0] rfl)
      · intro yl1 xl3 xl4 xl5 S H locs ls h hP hS hl
        have h : BX6_takes_1 (LX6_takes post n) post xl3 xl4 xl5 0 0 yl1 S := h
        unfold BX6_takes_1 at h
        refine lv_iload hx hb dX6_takes_95 (lv_at hl 4 rfl) ?_
        refine lv_if_ne (tgt := 101) hx hb dX6_takes_97 (by decide) (fun c12 => ?_) (fun c12 => ?_)
        · have h := h.2 c12
          refine lv_aload_n hx hb dX6_takes_101 rfl (lv_at hl 0 rfl) ?_
          refine lv_lload_n hx hb dX6_takes_102 rfl (lv_at hl 1 rfl) ?_
          refine va_put (D := D) (ci := 6) (v := .long yl1) (ty := .long) (C := RX6) (T := TX6) (N := 36) hx hb hts hinX6 tyX6 tyX6_ok nmX6 hown hK hP (hD S) hS 0 rfl rfl 24 (by decide) kf127 (fun _ h9 => h9) rfl (by decide +kernel) rfl rfl (Nat.le_of_ble_eq_true rfl) dX6_takes_103 (fun H locs hP _ hS => ?_)
          obtain ⟨S13, eS13⟩ : ∃ z : St, z = sJ S 2 yl1 := ⟨_, rfl⟩
          have hP : va_P D vwCl (mw a c S13) H := by rw [eS13]; exact hP
          have h := h S13 eS13
          refine lv_aload_n hx hb dX6_takes_106 rfl (lv_at hl 0 rfl) ?_
          refine lv_iload_n hx hb dX6_takes_107 rfl (lv_at hl 2 rfl) ?_
          refine va_put (D := D) (ci := 6) (v := .int xl3) (ty := .int) (C := RX6) (T := TX6) (N := 36) hx hb hts hinX6 tyX6 tyX6_ok nmX6 hown hK hP (hD S13) hS 0 rfl rfl 25 (by decide) kf142 (fun _ h9 => h9) rfl (by decide +kernel) rfl rfl (Nat.le_of_ble_eq_true rfl) dX6_takes_108 (fun H locs hP _ hS => ?_)
          obtain ⟨S14, eS14⟩ : ∃ z : St, z = sI S13 11 xl3 := ⟨_, rfl⟩
          have hP : va_P D vwCl (mw a c S14) H := by rw [eS14]; exact hP
          have h := h S14 eS14
          refine lv_aload_n hx hb dX6_takes_111 rfl (lv_at hl 0 rfl) ?_
          refine lv_iload hx hb dX6_takes_112 (lv_at hl 3 rfl) ?_
          refine va_put (D := D) (ci := 6) (v := .int xl4) (ty := .int) (C := RX6) (T := TX6) (N := 36) hx hb hts hinX6 tyX6 tyX6_ok nmX6 hown hK hP (hD S14) hS 0 rfl rfl 26 (by decide) kf145 (fun _ h9 => h9) rfl (by decide +kernel) rfl rfl (Nat.le_of_ble_eq_true rfl) dX6_takes_114 (fun H locs hP _ hS => ?_)
          obtain ⟨S15, eS15⟩ : ∃ z : St, z = sI S14 12 xl4 := ⟨_, rfl⟩
          have hP : va_P D vwCl (mw a c S15) H := by rw [eS15]; exact hP
          have h := h S15 eS15
          refine lv_iconst (v := 0) hx hb dX6_takes_117 (by decide) ?_
          refine lv_istore (lv' := [(6, .int 0), (0, .ref (a 0)), (1, .long yl1), (3, .int xl3), (4, .int xl4), (5, .int xl5)]) hx hb dX6_takes_118 hl (by decide) rfl (fun ls hl => ?_)
          exact (ih).2.2 0 S15 _ _ _ h hP hS (lv_sub hl [1, 0] rfl)
        · have h := h.1 c12
          exact g_retv hx hb hr hlocks h hP hS dX6_takes_100
      · intro xl6 S H locs ls h hP hS hl
        have h : BX6_takes_2 (LX6_takes post n) post 0 0 0 xl6 0 0 S := h
        unfold BX6_takes_2 at h
        refine lv_iload hx hb dX6_takes_120 (lv_at hl 1 rfl) ?_
        refine lv_iconst (v := 4) hx hb dX6_takes_122 (by decide) ?_
        refine lv_icmp_ge (tgt := 146) hx hb dX6_takes_123 (by decide) (fun c16 => ?_) (fun c16 => ?_)
        · have h := h.1 c16
          exact g_retv hx hb hr hlocks h hP hS dX6_takes_146
        · have h := h.2 c16
          refine lv_aload_n hx hb dX6_takes_126 rfl (lv_at hl 0 rfl) ?_
          refine va_get (D := D) (ci := 6) (v := .ref (a 11)) (C := RX6) (T := TX6) (N := 36) hx hb hts hinX6 hown hK hP 0 rfl rfl 23 (by decide) kf48 (fun _ h9 => h9) rfl dX6_takes_127 ?_
          refine lv_iload hx hb dX6_takes_130 (lv_at hl 1 rfl) ?_
          refine lv_aload_n hx hb dX6_takes_132 rfl (lv_at hl 0 rfl) ?_
          refine va_get (D := D) (ci := 6) (v := .ref (a 10)) (C := RX6) (T := TX6) (N := 36) hx hb hts hinX6 hown hK hP 0 rfl rfl 22 (by decide) kf45 (fun _ h9 => h9) rfl dX6_takes_133 ?_
          refine lv_iload hx hb dX6_takes_136 (lv_at hl 1 rfl) ?_
          obtain ⟨b17, h⟩ := h
          refine va_iald hx hb hK hP 10 9 rfl rfl b17 dX6_takes_138 ?_
          obtain ⟨b18, h⟩ := h
          refine va_iast hx hb hK hP (hD S) hS 11 10 rfl rfl b18 dX6_takes_139 (fun H locs hP _ hS => ?_)
          obtain ⟨S19, eS19⟩ : ∃ z : St, z = sR S 10 (upd (S.2.2 10) xl6.toNatClampNeg (S.2.2 9 xl6.toNatClampNeg)) := ⟨_, rfl⟩
          have hP : va_P D vwCl (mw a c S19) H := by rw [eS19]; exact hP
          have h := h S19 eS19
          obtain ⟨x20, ex20⟩ : ∃ y : Int32, y = xl6 + 1 := ⟨_, rfl⟩
          have h := h x20 ex20
          refine lv_iinc (v := x20) (lv' := [(6, .int x20), (0, .ref (a 0))]) hx hb dX6_takes_140 hl (k := 1) rfl (by rw [ex20]; rfl) (by decide) rfl (fun ls hl => ?_)
          refine lv_goto (tgt := 120) hx hb dX6_takes_143 (by decide) ?_
          exact (ih).2.2 x20 S19 _ _ _ h hP hS (lv_sub hl [1, 0] rfl)
  unfold PX6_takes at h
  refine lv_aload_n hx hb dX6_takes_0 rfl (lv_at hl 0 rfl) ?_
  refine va_get (D := D) (ci := 6) (v := .long (S.2.1 2)) (C := RX6) (T := TX6) (N := 36) hx hb hts hinX6 hown hK hP 0 rfl rfl 24 (by decide) kf127 (fun _ h9 => h9) rfl dX6_takes_1 ?_
  refine lv_lconst (v := 0) hx hb dX6_takes_4 (by decide) ?_
  refine W.lcmp hx hb dX6_takes_5 ?_
  refine lv_if_lt (tgt := 18) hx hb dX6_takes_6 (by decide) (fun c1 => ?_) (fun c1 => ?_)
  · have h := h.1 c1
    refine lv_iconst (v := 1) hx hb dX6_takes_18 (by decide) ?_
    refine lv_goto (tgt := 23) hx hb dX6_takes_19 (by decide) ?_
    exact (key n).1 p0 p1 p2 1 S _ _ _ h hP hS (lv_sub hl [0, 1, 2, 3] rfl)
  · have h := h.2 c1
    refine lv_lload_n hx hb dX6_takes_9 rfl (lv_at hl 1 rfl) ?_
    refine lv_aload_n hx hb dX6_takes_10 rfl (lv_at hl 0 rfl) ?_
    refine va_get (D := D) (ci := 6) (v := .long (S.2.1 2)) (C := RX6) (T := TX6) (N := 36) hx hb hts hinX6 hown hK hP 0 rfl rfl 24 (by decide) kf127 (fun _ h9 => h9) rfl dX6_takes_11 ?_
    refine W.lcmp hx hb dX6_takes_14 ?_
    refine lv_if_ge (tgt := 22) hx hb dX6_takes_15 (by decide) (fun c2 => ?_) (fun c2 => ?_)
    · have h := h.1 c2
      refine lv_iconst (v := 0) hx hb dX6_takes_22 (by decide) ?_
      exact (key n).1 p0 p1 p2 0 S _ _ _ h hP hS (lv_sub hl [0, 1, 2, 3] rfl)
    · have h := h.2 c2
      refine lv_iconst (v := 1) hx hb dX6_takes_18 (by decide) ?_
      refine lv_goto (tgt := 23) hx hb dX6_takes_19 (by decide) ?_
      exact (key n).1 p0 p1 p2 1 S _ _ _ h hP hS (lv_sub hl [0, 1, 2, 3] rfl)
def BX6_chooses_0 (X : Nat → Int32 → Int32 → Int32 → Int32 → Int32 → Int32 → Int32 → Int32 → St → Prop) (post : Int32 → St → Prop) (xl1 : Int32) (xl3 : Int32) (xl4 : Int32) (xl5 : Int32) (xl6 : Int32) (xl7 : Int32) (xl8 : Int32) (xl9 : Int32) (S : St) : Prop := (((S.1 2) ≤ xl5 → ((xl4 = 0 → post 0 S) ∧ (¬ xl4 = 0 → ∀ S5 : St, S5 = sJ S 2 (-1) → X 1 xl1 xl3 0 0 0 0 0 0 S5))) ∧ (¬ (S.1 2) ≤ xl5 → ((xl4 = 0 → PX6_isLeafOf xl5 S (fun x9 S8 => ((x9 = 0 → ∀ x11 : Int32, x11 = xl5 + 1 → X 0 xl1 xl3 0 x11 0 0 0 0 S8) ∧ (¬ x9 = 0 → ∀ x12 : Int32, x12 = xl5 + 1 → X 0 xl1 xl3 1 x12 0 0 0 0 S8)))) ∧ (¬ xl4 = 0 → ∀ x7 : Int32, x7 = xl5 + 1 → X 0 xl1 xl3 1 x7 0 0 0 0 S))))
def BX6_chooses_1 (X : Nat → Int32 → Int32 → Int32 → Int32 → Int32 → Int32 → Int32 → Int32 → St → Prop) (post : Int32 → St → Prop) (xl1 : Int32) (xl3 : Int32) (xl4 : Int32) (xl5 : Int32) (xl6 : Int32) (xl7 : Int32) (xl8 : Int32) (xl9 : Int32) (S : St) : Prop := ((4 ≤ xl5 → X 2 xl1 xl3 0 1 0 0 0 0 S) ∧ (¬ 4 ≤ xl5 → (vp_in xl5 4 ∧ ∀ S15 : St, S15 = sR S 9 (upd (S.2.2 9) xl5.toNatClampNeg 0) → ∀ x16 : Int32, x16 = xl5 + 1 → X 1 xl1 xl3 0 x16 0 0 0 0 S15)))
def BX6_chooses_2 (X : Nat → Int32 → Int32 → Int32 → Int32 → Int32 → Int32 → Int32 → Int32 → St → Prop) (post : Int32 → St → Prop) (xl1 : Int32) (xl3 : Int32) (xl4 : Int32) (xl5 : Int32) (xl6 : Int32) (xl7 : Int32) (xl8 : Int32) (xl9 : Int32) (S : St) : Prop := ((xl5 = 0 → post 1 S) ∧ (¬ xl5 = 0 → X 3 xl1 xl3 0 0 0 0 0 0 S))
def BX6_chooses_3 (X : Nat → Int32 → Int32 → Int32 → Int32 → Int32 → Int32 → Int32 → Int32 → St → Prop) (post : Int32 → St → Prop) (xl1 : Int32) (xl3 : Int32) (xl4 : Int32) (xl5 : Int32) (xl6 : Int32) (xl7 : Int32) (xl8 : Int32) (xl9 : Int32) (S : St) : Prop := (((S.1 8) ≤ xl9 → ((12 < xl6 → ∀ x20 : Int32, x20 = ((S.1 8) - 1) → X 4 xl1 xl3 0 0 0 0 0 x20 S) ∧ (¬ 12 < xl6 → ∃ k : Nat, PX6_costOf k xl1 xl3 xl7 xl8 S (fun y22 S21 => ∃ k : Nat, PX6_takes k y22 xl7 xl6 S21 (fun S24 => ∀ x26 : Int32, x26 = ((S24.1 8) - 1) → X 4 xl1 xl3 0 0 0 0 0 x26 S24))))) ∧ (¬ (S.1 8) ≤ xl9 → (vp_in xl9 4 ∧ ∀ x28 : Int32, x28 = (xl6 + (S.2.2 9 xl9.toNatClampNeg)) → (vp_in xl9 4 ∧ (vp_in xl9 4 ∧ ∀ x31 : Int32, x31 = (xl7 + ((S.2.2 9 xl9.toNatClampNeg) * (S.2.2 7 xl9.toNatClampNeg))) → (vp_in xl9 4 ∧ (vp_in xl9 4 ∧ ∀ x34 : Int32, x34 = (xl8 + ((S.2.2 9 xl9.toNatClampNeg) * (S.2.2 8 xl9.toNatClampNeg))) → ∀ x35 : Int32, x35 = xl9 + 1 → X 3 xl1 xl3 0 0 x28 x31 x34 x35 S)))))))
def BX6_chooses_4 (X : Nat → Int32 → Int32 → Int32 → Int32 → Int32 → Int32 → Int32 → Int32 → St → Prop) (post : Int32 → St → Prop) (xl1 : Int32) (xl3 : Int32) (xl4 : Int32) (xl5 : Int32) (xl6 : Int32) (xl7 : Int32) (xl8 : Int32) (xl9 : Int32) (S : St) : Prop := ((xl9 < 0 → ((xl9 < 0 → (((0 : Int32) = 0 → X 2 xl1 xl3 0 0 0 0 0 0 S) ∧ (¬ (0 : Int32) = 0 → (vp_in xl9 4 ∧ (vp_in xl9 4 ∧ ∀ S41 : St, S41 = sR S 9 (upd (S.2.2 9) xl9.toNatClampNeg ((S.2.2 9 xl9.toNatClampNeg) + 1)) → X 2 xl1 xl3 0 0 0 0 0 0 S41))))) ∧ (¬ xl9 < 0 → (((1 : Int32) = 0 → X 2 xl1 xl3 0 1 0 0 0 0 S) ∧ (¬ (1 : Int32) = 0 → (vp_in xl9 4 ∧ (vp_in xl9 4 ∧ ∀ S45 : St, S45 = sR S 9 (upd (S.2.2 9) xl9.toNatClampNeg ((S.2.2 9 xl9.toNatClampNeg) + 1)) → X 2 xl1 xl3 0 1 0 0 0 0 S45))))))) ∧ (¬ xl9 < 0 → ∃ k : Nat, PX6_upTo k xl9 S (fun x47 S46 => ((x47 < 12 → ((xl9 < 0 → (((0 : Int32) = 0 → X 2 xl1 xl3 0 0 0 0 0 0 S46) ∧ (¬ (0 : Int32) = 0 → (vp_in xl9 4 ∧ (vp_in xl9 4 ∧ ∀ S54 : St, S54 = sR S46 9 (upd (S46.2.2 9) xl9.toNatClampNeg ((S46.2.2 9 xl9.toNatClampNeg) + 1)) → X 2 xl1 xl3 0 0 0 0 0 0 S54))))) ∧ (¬ xl9 < 0 → (((1 : Int32) = 0 → X 2 xl1 xl3 0 1 0 0 0 0 S46) ∧ (¬ (1 : Int32) = 0 → (vp_in xl9 4 ∧ (vp_in xl9 4 ∧ ∀ S58 : St, S58 = sR S46 9 (upd (S46.2.2 9) xl9.toNatClampNeg ((S46.2.2 9 xl9.toNatClampNeg) + 1)) → X 2 xl1 xl3 0 1 0 0 0 0 S58))))))) ∧ (¬ x47 < 12 → (vp_in xl9 4 ∧ ∀ S60 : St, S60 = sR S46 9 (upd (S46.2.2 9) xl9.toNatClampNeg 0) → ∀ x61 : Int32, x61 = xl9 + (-1) → X 4 xl1 xl3 0 0 0 0 0 x61 S60))))))
def LX6_chooses (post : Int32 → St → Prop) : Nat → Nat → Int32 → Int32 → Int32 → Int32 → Int32 → Int32 → Int32 → Int32 → St → Prop
  | 0, _, _, _, _, _, _, _, _, _, _ => False
  | n + 1, 0, xl1, xl3, xl4, xl5, xl6, xl7, xl8, xl9, S => BX6_chooses_0 (LX6_chooses post n) post xl1 xl3 xl4 xl5 xl6 xl7 xl8 xl9 S
  | n + 1, 1, xl1, xl3, xl4, xl5, xl6, xl7, xl8, xl9, S => BX6_chooses_1 (LX6_chooses post n) post xl1 xl3 xl4 xl5 xl6 xl7 xl8 xl9 S
  | n + 1, 2, xl1, xl3, xl4, xl5, xl6, xl7, xl8, xl9, S => BX6_chooses_2 (LX6_chooses post n) post xl1 xl3 xl4 xl5 xl6 xl7 xl8 xl9 S
  | n + 1, 3, xl1, xl3, xl4, xl5, xl6, xl7, xl8, xl9, S => BX6_chooses_3 (LX6_chooses post n) post xl1 xl3 xl4 xl5 xl6 xl7 xl8 xl9 S
  | n + 1, 4, xl1, xl3, xl4, xl5, xl6, xl7, xl8, xl9, S => BX6_chooses_4 (LX6_chooses post n) post xl1 xl3 xl4 xl5 xl6 xl7 xl8 xl9 S
  | _ + 1, _ + 5, _, _, _, _, _, _, _, _, _ => False
def PX6_chooses (n : Nat) (p0 : Int32) (p1 : Int32) (p2 : Int32) (S : St) (post : Int32 → St → Prop) : Prop := ∃ k : Nat, PX6_goes k p0 p1 S (fun S1 => LX6_chooses post n 0 p0 p2 0 0 0 0 0 0 S1)
set_option maxHeartbeats 4000000 in
set_option maxRecDepth 100000 in
theorem tX6_chooses (l : Launch) (D : va_G) (a : Nat → Nat) (c : Nat → ClassId) (sz : Nat) (n : Nat) (p0 : Int32) (p1 : Int32) (p2 : Int32) (S : St) (post : Int32 → St → Prop) (h : PX6_chooses n p0 p1 p2 S post) : Met l yX6_chooses wsX6_chooses ({ frames := 3, cells := 0, slots := 0, locals := 91 }) (va_Pc [.ref (a 0), .int p0, .int p1, .int p2] (gP D (mw a c) (mty c) mns S sz)) (va_Qi post (gB D (mw a c)) (va_A (mw a c S) sz)) 0 0 (va_A (mw a c S) sz) := by
  refine Met.ofW (cc := cX6_chooses) (maxL := 10) (ret := (some .boolean)) (by decide) rfl ?_
  intro p e s m args below meth c9 s₁ B hml hv
  obtain ⟨rfl, hsz, hP, hK, hD0, hN⟩ := hv
  have hx := B.exec
  have hb := B.bytes
  have hr := B.returns
  have hts := atoms_spec (ws := wsX6_chooses) B.pre
  have hown : s.vm.findClass RX6 = some m.cls := findClass_of_methodNamed B.named
  have hlocks := B.notSynchronized
  subst hsz
  have hD1 := hD0.self (sz := s.heap.size)
  generalize hAe : va_A (mw a c S) s.heap.size = A at hD1 ⊢
  have hA : ∀ q : Nat, s.heap.size ≤ q → A q := fun q h => by rw [← hAe]; exact Or.inr h
  have hD : ∀ S2 : St, va_D A (mw a c S2) := gD mw_F hD1
  have hS : va_S A s.heap s.heap [] := va_S.rf
  have hinX6 : ∀ w ∈ wsX60, w ∈ wsX6_chooses := by decide +kernel
  have kc125 := hts (.constantLong RX6 125 (-1)) (by decide +kernel)
  have kf122 := hts (.fieldLink RX6 122 "CanteenPlanModel" "sizes" "I") (by decide +kernel)
  have kf127 := hts (.fieldLink RX6 127 "CanteenPlanModel" "bestCost" "J") (by decide +kernel)
  have kf32 := hts (.fieldLink RX6 32 "CanteenPlanModel" "portions" "[I") (by decide +kernel)
  have kf35 := hts (.fieldLink RX6 35 "CanteenPlanModel" "price" "[I") (by decide +kernel)
  have kf45 := hts (.fieldLink RX6 45 "CanteenPlanModel" "set" "[I") (by decide +kernel)
  have kf77 := hts (.fieldLink RX6 77 "CanteenPlanModel" "days" "I") (by decide +kernel)
  have hl := lv_entry ([.ref (a 0), .int p0, .int p1, .int p2]) (n := 10) (Nat.le_of_ble_eq_true rfl)
  rw [lg_entry_eq]
  generalize (lg_sl ([.ref (a 0), .int p0, .int p1, .int p2]) ++ List.replicate (10 - (lg_sl ([.ref (a 0), .int p0, .int p1, .int p2])).length) Slot.unset).toArray = ls at hl ⊢
  have hl : lv_has ls 10 [(0, .ref (a 0)), (1, .int p0), (2, .int p1), (3, .int p2)] := hl
  have key : ∀ n : Nat, (∀ (xl1 : Int32) (xl3 : Int32) (xl4 : Int32) (xl5 : Int32) (S : St) (H : Heap) (locs : List Loc) (ls : Array Slot), LX6_chooses post n 0 xl1 xl3 xl4 xl5 0 0 0 0 S → va_P D vwCl (mw a c S) H → va_S A s.heap H locs → lv_has ls 10 [(0, .ref (a 0)), (1, .int xl1), (3, .int xl3), (4, .int xl4), (5, .int xl5)] → W p l e ((headSpec wsX6_chooses ({ frames := 3, cells := 0, slots := 0, locals := 91 })).room) s m ([.ref (a 0), .int p0, .int p1, .int p2]).toArray below meth c9 H locs 0 0 (MQ below (va_Qi post (gB D (mw a c)) A) ([.ref (a 0), .int p0, .int p1, .int p2]).toArray s 0 0 A) (F0 m 12 ls [])) ∧ (∀ (xl1 : Int32) (xl3 : Int32) (xl5 : Int32) (S : St) (H : Heap) (locs : List Loc) (ls : Array Slot), LX6_chooses post n 1 xl1 xl3 0 xl5 0 0 0 0 S → va_P D vwCl (mw a c S) H → va_S A s.heap H locs → lv_has ls 10 [(0, .ref (a 0)), (1, .int xl1), (3, .int xl3), (5, .int xl5)] → W p l e ((headSpec wsX6_chooses ({ frames := 3, cells := 0, slots := 0, locals := 91 })).room) s m ([.ref (a 0), .int p0, .int p1, .int p2]).toArray below meth c9 H locs 0 0 (MQ below (va_Qi post (gB D (mw a c)) A) ([.ref (a 0), .int p0, .int p1, .int p2]).toArray s 0 0 A) (F0 m 65 ls [])) ∧ (∀ (xl1 : Int32) (xl3 : Int32) (xl5 : Int32) (S : St) (H : Heap) (locs : List Loc) (ls : Array Slot), LX6_chooses post n 2 xl1 xl3 0 xl5 0 0 0 0 S → va_P D vwCl (mw a c S) H → va_S A s.heap H locs → lv_has ls 10 [(0, .ref (a 0)), (1, .int xl1), (3, .int xl3), (5, .int xl5)] → W p l e ((headSpec wsX6_chooses ({ frames := 3, cells := 0, slots := 0, locals := 91 })).room) s m ([.ref (a 0), .int p0, .int p1, .int p2]).toArray below meth c9 H locs 0 0 (MQ below (va_Qi post (gB D (mw a c)) A) ([.ref (a 0), .int p0, .int p1, .int p2]).toArray s 0 0 A) (F0 m 88 ls [])) ∧ (∀ (xl1 : Int32) (xl3 : Int32) (xl6 : Int32) (xl7 : Int32) (xl8 : Int32) (xl9 : Int32) (S : St) (H : Heap) (locs : List Loc) (ls : Array Slot), LX6_chooses post n 3 xl1 xl3 0 0 xl6 xl7 xl8 xl9 S → va_P D vwCl (mw a c S) H → va_S A s.heap H locs → lv_has ls 10 [(0, .ref (a 0)), (1, .int xl1), (3, .int xl3), (6, .int xl6), (7, .int xl7), (8, .int xl8), (9, .int xl9)] → W p l e ((headSpec wsX6_chooses ({ frames := 3, cells := 0, slots := 0, locals := 91 })).room) s m ([.ref (a 0), .int p0, .int p1, .int p2]).toArray below meth c9 H locs 0 0 (MQ below (va_Qi post (gB D (mw a c)) A) ([.ref (a 0), .int p0, .int p1, .int p2]).toArray s 0 0 A) (F0 m 105 ls [])) ∧ (∀ (xl1 : Int32) (xl3 : Int32) (xl9 : Int32) (S : St) (H : Heap) (locs : List Loc) (ls : Array Slot), LX6_chooses post n 4 xl1 xl3 0 0 0 0 0 xl9 S → va_P D vwCl (mw a c S) H → va_S A s.heap H locs → lv_has ls 10 [(0, .ref (a 0)), (1, .int xl1), (3, .int xl3), (9, .int xl9)] → W p l e ((headSpec wsX6_chooses ({ frames := 3, cells := 0, slots := 0, locals := 91 })).room) s m ([.ref (a 0), .int p0, .int p1, .int p2]).toArray below meth c9 H locs 0 0 (MQ below (va_Qi post (gB D (mw a c)) A) ([.ref (a 0), .int p0, .int p1, .int p2]).toArray s 0 0 A) (F0 m 205 ls [])) := by
    intro n
    induction n with
    | zero => exact ⟨fun xl1 xl3 xl4 xl5 S H locs ls h => h.elim, fun xl1 xl3 xl5 S H locs ls h => h.elim, fun xl1 xl3 xl5 S H locs ls h => h.elim, fun xl1 xl3 xl6 xl7 xl8 xl9 S H locs ls h => h.elim, fun xl1 xl3 xl9 S H locs ls h => h.elim⟩
    | succ n ih =>
      refine ⟨?_, ?_, ?_, ?_, ?_⟩
      · intro xl1 xl3 xl4 xl5 S H locs ls h hP hS hl
        have h : BX6_chooses_0 (LX6_chooses post n) post xl1 xl3 xl4 xl5 0 0 0 0 S := h
        unfold BX6_chooses_0 at h
        refine lv_iload hx hb dX6_chooses_12 (lv_at hl 4 rfl) ?_
        refine lv_aload_n hx hb dX6_chooses_14 rfl (lv_at hl 0 rfl) ?_
        refine va_get (D := D) (ci := 6) (v := .int (S.1 2)) (C := RX6) (T := TX6) (N := 36) hx hb hts hinX6 hown hK hP 0 rfl rfl 8 (by decide) kf77 (fun _ h9 => h9) rfl dX6_chooses_15 ?_
        refine lv_icmp_ge (tgt := 48) hx hb dX6_chooses_18 (by decide) (fun c3 => ?_) (fun c3 => ?_)
        · have h := h.1 c3
          refine lv_iload hx hb dX6_chooses_48 (lv_at hl 3 rfl) ?_
          refine lv_if_ne (tgt := 55) hx hb dX6_chooses_50 (by decide) (fun c4 => ?_) (fun c4 => ?_)
          · have h := h.2 c4
            refine lv_aload_n hx hb dX6_chooses_55 rfl (lv_at hl 0 rfl) ?_
            refine lv_ldc2 (v := (-1)) hx hb hown kc125 dX6_chooses_56 ?_
            refine va_put (D := D) (ci := 6) (v := .long (-1)) (ty := .long) (C := RX6) (T := TX6) (N := 36) hx hb hts hinX6 tyX6 tyX6_ok nmX6 hown hK hP (hD S) hS 0 rfl rfl 24 (by decide) kf127 (fun _ h9 => h9) rfl (by decide +kernel) rfl rfl (Nat.le_of_ble_eq_true rfl) dX6_chooses_59 (fun H locs hP _ hS => ?_)
            obtain ⟨S5, eS5⟩ : ∃ z : St, z = sJ S 2 (-1) := ⟨_, rfl⟩
            have hP : va_P D vwCl (mw a c S5) H := by rw [eS5]; exact hP
            have h := h S5 eS5
            refine lv_iconst (v := 0) hx hb dX6_chooses_62 (by decide) ?_
            refine lv_istore (lv' := [(5, .int 0), (0, .ref (a 0)), (1, .int xl1), (3, .int xl3), (4, .int xl4)]) hx hb dX6_chooses_63 hl (by decide) rfl (fun ls hl => ?_)
            exact (ih).2.1 xl1 xl3 0 S5 _ _ _ h hP hS (lv_sub hl [1, 2, 3, 0] rfl)
          · have h := h.1 c4
            refine lv_iconst (v := 0) hx hb dX6_chooses_53 (by decide) ?_
            exact g_retz hx hb hr hlocks (Or.inl rfl) h hP hS dX6_chooses_54
        · have h := h.2 c3
          refine lv_iload hx hb dX6_chooses_21 (lv_at hl 3 rfl) ?_
          refine lv_if_ne (tgt := 35) hx hb dX6_chooses_23 (by decide) (fun c6 => ?_) (fun c6 => ?_)
          · have h := h.2 c6
            refine lv_iconst (v := 1) hx hb dX6_chooses_35 (by decide) ?_
            refine lv_goto (tgt := 40) hx hb dX6_chooses_36 (by decide) ?_
            refine lv_istore (lv' := [(4, .int 1), (0, .ref (a 0)), (1, .int xl1), (3, .int xl3), (5, .int xl5)]) hx hb dX6_chooses_40 hl (by decide) rfl (fun ls hl => ?_)
            obtain ⟨x7, ex7⟩ : ∃ y : Int32, y = xl5 + 1 := ⟨_, rfl⟩
            have h := h x7 ex7
            refine lv_iinc (v := x7) (lv' := [(5, .int x7), (4, .int 1), (0, .ref (a 0)), (1, .int xl1), (3, .int xl3)]) hx hb dX6_chooses_42 hl (k := 4) rfl (by rw [ex7]; rfl) (by decide) rfl (fun ls hl => ?_)
            refine lv_goto (tgt := 12) hx hb dX6_chooses_45 (by decide) ?_
            exact (ih).1 xl1 xl3 1 x7 S _ _ _ h hP hS (lv_sub hl [2, 3, 4, 1, 0] rfl)
          · have h := h.1 c6
            refine lv_aload_n hx hb dX6_chooses_26 rfl (lv_at hl 0 rfl) ?_
            refine lv_iload hx hb dX6_chooses_27 (lv_at hl 4 rfl) ?_
            refine k_i (k_runV mns_ok ⟨hx, hb, hml, hown, hts⟩ (tX6_isLeafOf l D a c _ xl5 S _ h) (cwV 1 hts gX6_chooses_X6_isLeafOf rfl rfl rfl (by decide +kernel) ⟨Nat.le_of_ble_eq_true rfl, Nat.le_of_ble_eq_true rfl⟩) (va_recv hK hP (ci := 6) (q0 := 0) rfl rfl) hP hK (hD S) hN rfl rfl hl.1 rfl (lv_room (Nat.le_of_ble_eq_true rfl)) dX6_chooses_29 ⟨Nat.le_of_ble_eq_true rfl, Nat.le_of_ble_eq_true rfl⟩) hS (hD S) hA (fun x9 S8 H locs h hP hS => ?_)
            refine lv_if_eq (tgt := 39) hx hb dX6_chooses_32 (by decide) (fun c10 => ?_) (fun c10 => ?_)
            · have h := h.1 c10
              refine lv_iconst (v := 0) hx hb dX6_chooses_39 (by decide) ?_
              refine lv_istore (lv' := [(4, .int 0), (0, .ref (a 0)), (1, .int xl1), (3, .int xl3), (5, .int xl5)]) hx hb dX6_chooses_40 hl (by decide) rfl (fun ls hl => ?_)
              obtain ⟨x11, ex11⟩ : ∃ y : Int32, y = xl5 + 1 := ⟨_, rfl⟩
              have h := h x11 ex11
              refine lv_iinc (v := x11) (lv' := [(5, .int x11), (4, .int 0), (0, .ref (a 0)), (1, .int xl1), (3, .int xl3)]) hx hb dX6_chooses_42 hl (k := 4) rfl (by rw [ex11]; rfl) (by decide) rfl (fun ls hl => ?_)
              refine lv_goto (tgt := 12) hx hb dX6_chooses_45 (by decide) ?_
              exact (ih).1 xl1 xl3 0 x11 S8 _ _ _ h hP hS (lv_sub hl [2, 3, 4, 1, 0] rfl)
            · have h := h.2 c10
              refine lv_iconst (v := 1) hx hb dX6_chooses_35 (by decide) ?_
              refine lv_goto (tgt := 40) hx hb dX6_chooses_36 (by decide) ?_
              refine lv_istore (lv' := [(4, .int 1), (0, .ref (a 0)), (1, .int xl1), (3, .int xl3), (5, .int xl5)]) hx hb dX6_chooses_40 hl (by decide) rfl (fun ls hl => ?_)
              obtain ⟨x12, ex12⟩ : ∃ y : Int32, y = xl5 + 1 := ⟨_, rfl⟩
              have h := h x12 ex12
              refine lv_iinc (v := x12) (lv' := [(5, .int x12), (4, .int 1), (0, .ref (a 0)), (1, .int xl1), (3, .int xl3)]) hx hb dX6_chooses_42 hl (k := 4) rfl (by rw [ex12]; rfl) (by decide) rfl (fun ls hl => ?_)
              refine lv_goto (tgt := 12) hx hb dX6_chooses_45 (by decide) ?_
              exact (ih).1 xl1 xl3 1 x12 S8 _ _ _ h hP hS (lv_sub hl [2, 3, 4, 1, 0] rfl)
      · intro xl1 xl3 xl5 S H locs ls h hP hS hl
        have h : BX6_chooses_1 (LX6_chooses post n) post xl1 xl3 0 xl5 0 0 0 0 S := h
        unfold BX6_chooses_1 at h
        refine lv_iload hx hb dX6_chooses_65 (lv_at hl 3 rfl) ?_
        refine lv_iconst (v := 4) hx hb dX6_chooses_67 (by decide) ?_
        refine lv_icmp_ge (tgt := 85) hx hb dX6_chooses_68 (by decide) (fun c13 => ?_) (fun c13 => ?_)
        · have h := h.1 c13
          refine lv_iconst (v := 1) hx hb dX6_chooses_85 (by decide) ?_
          refine lv_istore (lv' := [(5, .int 1), (0, .ref (a 0)), (1, .int xl1), (3, .int xl3)]) hx hb dX6_chooses_86 hl (by decide) rfl (fun ls hl => ?_)
          exact (ih).2.2.1 xl1 xl3 1 S _ _ _ h hP hS (lv_sub hl [1, 2, 3, 0] rfl)
        · have h := h.2 c13
          refine lv_aload_n hx hb dX6_chooses_71 rfl (lv_at hl 0 rfl) ?_
          refine va_get (D := D) (ci := 6) (v := .ref (a 10)) (C := RX6) (T := TX6) (N := 36) hx hb hts hinX6 hown hK hP 0 rfl rfl 22 (by decide) kf45 (fun _ h9 => h9) rfl dX6_chooses_72 ?_
          refine lv_iload hx hb dX6_chooses_75 (lv_at hl 3 rfl) ?_
          refine lv_iconst (v := 0) hx hb dX6_chooses_77 (by decide) ?_
          obtain ⟨b14, h⟩ := h
          refine va_iast hx hb hK hP (hD S) hS 10 9 rfl rfl b14 dX6_chooses_78 (fun H locs hP _ hS => ?_)
          obtain ⟨S15, eS15⟩ : ∃ z : St, z = sR S 9 (upd (S.2.2 9) xl5.toNatClampNeg 0) := ⟨_, rfl⟩
          have hP : va_P D vwCl (mw a c S15) H := by rw [eS15]; exact hP
          have h := h S15 eS15
          obtain ⟨x16, ex16⟩ : ∃ y : Int32, y = xl5 + 1 := ⟨_, rfl⟩
          have h := h x16 ex16
          refine lv_iinc (v := x16) (lv' := [(5, .int x16), (0, .ref (a 0)), (1, .int xl1), (3, .int xl3)]) hx hb dX6_chooses_79 hl (k := 3) rfl (by rw [ex16]; rfl) (by decide) rfl (fun ls hl => ?_)
          refine lv_goto (tgt := 65) hx hb dX6_chooses_82 (by decide) ?_
          exact (ih).2.1 xl1 xl3 x16 S15 _ _ _ h hP hS (lv_sub hl [1, 2, 3, 0] rfl)
      · intro xl1 xl3 xl5 S H locs ls h hP hS hl
        have h : BX6_chooses_2 (LX6_chooses post n) post xl1 xl3 0 xl5 0 0 0 0 S := h
        unfold BX6_chooses_2 at h
        refine lv_iload hx hb dX6_chooses_88 (lv_at hl 3 rfl) ?_
        refine lv_if_eq (tgt := 266) hx hb dX6_chooses_90 (by decide) (fun c17 => ?_) (fun c17 => ?_)
        · have h := h.1 c17
          refine lv_iconst (v := 1) hx hb dX6_chooses_266 (by decide) ?_
          exact g_retz hx hb hr hlocks (Or.inr rfl) h hP hS dX6_chooses_267
        · have h := h.2 c17
          refine lv_iconst (v := 0) hx hb dX6_chooses_93 (by decide) ?_
          refine lv_istore (lv' := [(6, .int 0), (0, .ref (a 0)), (1, .int xl1), (3, .int xl3), (5, .int xl5)]) hx hb dX6_chooses_94 hl (by decide) rfl (fun ls hl => ?_)
          refine lv_iconst (v := 0) hx hb dX6_chooses_96 (by decide) ?_
          refine lv_istore (lv' := [(7, .int 0), (6, .int 0), (0, .ref (a 0)), (1, .int xl1), (3, .int xl3), (5, .int xl5)]) hx hb dX6_chooses_97 hl (by decide) rfl (fun ls hl => ?_)
          refine lv_iconst (v := 0) hx hb dX6_chooses_99 (by decide) ?_
          refine lv_istore (lv' := [(8, .int 0), (7, .int 0), (6, .int 0), (0, .ref (a 0)), (1, .int xl1), (3, .int xl3), (5, .int xl5)]) hx hb dX6_chooses_100 hl (by decide) rfl (fun ls hl => ?_)
          refine lv_iconst (v := 0) hx hb dX6_chooses_102 (by decide) ?_
          refine lv_istore (lv' := [(9, .int 0), (8, .int 0), (7, .int 0), (6, .int 0), (0, .ref (a 0)), (1, .int xl1), (3, .int xl3), (5, .int xl5)]) hx hb dX6_chooses_103 hl (by decide) rfl (fun ls hl => ?_)
          exact (ih).2.2.2.1 xl1 xl3 0 0 0 0 S _ _ _ h hP hS (lv_sub hl [4, 5, 6, 3, 2, 1, 0] rfl)
      · intro xl1 xl3 xl6 xl7 xl8 xl9 S H locs ls h hP hS hl
        have h : BX6_chooses_3 (LX6_chooses post n) post xl1 xl3 0 0 xl6 xl7 xl8 xl9 S := h
        unfold BX6_chooses_3 at h
        refine lv_iload hx hb dX6_chooses_105 (lv_at hl 6 rfl) ?_
        refine lv_aload_n hx hb dX6_chooses_107 rfl (lv_at hl 0 rfl) ?_
        refine va_get (D := D) (ci := 6) (v := .int (S.1 8)) (C := RX6) (T := TX6) (N := 36) hx hb hts hinX6 hown hK hP 0 rfl rfl 19 (by decide) kf122 (fun _ h9 => h9) rfl dX6_chooses_108 ?_
        refine lv_icmp_ge (tgt := 172) hx hb dX6_chooses_111 (by decide) (fun c18 => ?_) (fun c18 => ?_)
        · have h := h.1 c18
          refine lv_iload hx hb dX6_chooses_172 (lv_at hl 3 rfl) ?_
          refine lv_bipush (v := 12) hx hb dX6_chooses_174 (by decide) ?_
          refine lv_icmp_gt (tgt := 197) hx hb dX6_chooses_176 (by decide) (fun c19 => ?_) (fun c19 => ?_)
          · have h := h.1 c19
            refine lv_aload_n hx hb dX6_chooses_197 rfl (lv_at hl 0 rfl) ?_
            refine va_get (D := D) (ci := 6) (v := .int (S.1 8)) (C := RX6) (T := TX6) (N := 36) hx hb hts hinX6 hown hK hP 0 rfl rfl 19 (by decide) kf122 (fun _ h9 => h9) rfl dX6_chooses_198 ?_
            refine lv_iconst (v := 1) hx hb dX6_chooses_201 (by decide) ?_
            refine lv_isub hx hb dX6_chooses_202 ?_
            refine lv_topi (fun x20 ex20 => ?_)
            have h := h x20 ex20
            refine lv_istore (lv' := [(9, .int x20), (0, .ref (a 0)), (1, .int xl1), (3, .int xl3), (6, .int xl6), (7, .int xl7), (8, .int xl8)]) hx hb dX6_chooses_203 hl (by decide) rfl (fun ls hl => ?_)
            exact (ih).2.2.2.2 xl1 xl3 x20 S _ _ _ h hP hS (lv_sub hl [1, 2, 3, 0] rfl)
          · have h := h.2 c19
            refine lv_aload_n hx hb dX6_chooses_179 rfl (lv_at hl 0 rfl) ?_
            refine lv_aload_n hx hb dX6_chooses_180 rfl (lv_at hl 0 rfl) ?_
            refine lv_iload_n hx hb dX6_chooses_181 rfl (lv_at hl 1 rfl) ?_
            refine lv_iload_n hx hb dX6_chooses_182 rfl (lv_at hl 2 rfl) ?_
            refine lv_iload hx hb dX6_chooses_183 (lv_at hl 4 rfl) ?_
            refine lv_iload hx hb dX6_chooses_185 (lv_at hl 5 rfl) ?_
            obtain ⟨k23, h⟩ := h
            refine k_l (k_runV mns_ok ⟨hx, hb, hml, hown, hts⟩ (tX6_costOf l D a c _ k23 xl1 xl3 xl7 xl8 S _ h) (cwV 4 hts gX6_chooses_X6_costOf rfl rfl rfl (by decide +kernel) ⟨Nat.le_of_ble_eq_true rfl, Nat.le_of_ble_eq_true rfl⟩) (va_recv hK hP (ci := 6) (q0 := 0) rfl rfl) hP hK (hD S) hN rfl rfl hl.1 rfl (lv_room (Nat.le_of_ble_eq_true rfl)) dX6_chooses_187 ⟨Nat.le_of_ble_eq_true rfl, Nat.le_of_ble_eq_true rfl⟩) hS (hD S) hA (fun y22 S21 H locs h hP hS => ?_)
            refine lv_iload hx hb dX6_chooses_190 (lv_at hl 4 rfl) ?_
            refine lv_iload hx hb dX6_chooses_192 (lv_at hl 3 rfl) ?_
            obtain ⟨k25, h⟩ := h
            refine k_v (k_runV mns_ok ⟨hx, hb, hml, hown, hts⟩ (tX6_takes l D a c _ k25 y22 xl7 xl6 S21 _ h) (cwV 3 hts gX6_chooses_X6_takes rfl rfl rfl (by decide +kernel) ⟨Nat.le_of_ble_eq_true rfl, Nat.le_of_ble_eq_true rfl⟩) (va_recv hK hP (ci := 6) (q0 := 0) rfl rfl) hP hK (hD S21) hN rfl rfl hl.1 rfl (lv_room (Nat.le_of_ble_eq_true rfl)) dX6_chooses_194 ⟨Nat.le_of_ble_eq_true rfl, Nat.le_of_ble_eq_true rfl⟩) hS (hD S21) hA (fun S24 H locs h hP hS => ?_)
            refine lv_aload_n hx hb dX6_chooses_197 rfl (lv_at hl 0 rfl) ?_
            refine va_get (D := D) (ci := 6) (v := .int (S24.1 8)) (C := RX6) (T := TX6) (N := 36) hx hb hts hinX6 hown hK hP 0 rfl rfl 19 (by decide) kf122 (fun _ h9 => h9) rfl dX6_chooses_198 ?_
            refine lv_iconst (v := 1) hx hb dX6_chooses_201 (by decide) ?_
            refine lv_isub hx hb dX6_chooses_202 ?_
            refine lv_topi (fun x26 ex26 => ?_)
            have h := h x26 ex26
            refine lv_istore (lv' := [(9, .int x26), (0, .ref (a 0)), (1, .int xl1), (3, .int xl3), (6, .int xl6), (7, .int xl7), (8, .int xl8)]) hx hb dX6_chooses_203 hl (by decide) rfl (fun ls hl => ?_)
            exact (ih).2.2.2.2 xl1 xl3 x26 S24 _ _ _ h hP hS (lv_sub hl [1, 2, 3, 0] rfl)
        · have h := h.2 c18
          refine lv_iload hx hb dX6_chooses_114 (lv_at hl 3 rfl) ?_
          refine lv_aload_n hx hb dX6_chooses_116 rfl (lv_at hl 0 rfl) ?_
          refine va_get (D := D) (ci := 6) (v := .ref (a 10)) (C := RX6) (T := TX6) (N := 36) hx hb hts hinX6 hown hK hP 0 rfl rfl 22 (by decide) kf45 (fun _ h9 => h9) rfl dX6_chooses_117 ?_
          refine lv_iload hx hb dX6_chooses_120 (lv_at hl 6 rfl) ?_
          obtain ⟨b27, h⟩ := h
          refine va_iald hx hb hK hP 10 9 rfl rfl b27 dX6_chooses_122 ?_
          refine lv_iadd hx hb dX6_chooses_123 ?_
          refine lv_topi (fun x28 ex28 => ?_)
          have h := h x28 ex28
          refine lv_istore (lv' := [(6, .int x28), (0, .ref (a 0)), (1, .int xl1), (3, .int xl3), (7, .int xl7), (8, .int xl8), (9, .int xl9)]) hx hb dX6_chooses_124 hl (by decide) rfl (fun ls hl => ?_)
          refine lv_iload hx hb dX6_chooses_126 (lv_at hl 4 rfl) ?_
          refine lv_aload_n hx hb dX6_chooses_128 rfl (lv_at hl 1 rfl) ?_
          refine va_get (D := D) (ci := 6) (v := .ref (a 10)) (C := RX6) (T := TX6) (N := 36) hx hb hts hinX6 hown hK hP 0 rfl rfl 22 (by decide) kf45 (fun _ h9 => h9) rfl dX6_chooses_129 ?_
          refine lv_iload hx hb dX6_chooses_132 (lv_at hl 6 rfl) ?_
          obtain ⟨b29, h⟩ := h
          refine va_iald hx hb hK hP 10 9 rfl rfl b29 dX6_chooses_134 ?_
          refine lv_aload_n hx hb dX6_chooses_135 rfl (lv_at hl 1 rfl) ?_
          refine va_get (D := D) (ci := 6) (v := .ref (a 8)) (C := RX6) (T := TX6) (N := 36) hx hb hts hinX6 hown hK hP 0 rfl rfl 17 (by decide) kf32 (fun _ h9 => h9) rfl dX6_chooses_136 ?_
          refine lv_iload hx hb dX6_chooses_139 (lv_at hl 6 rfl) ?_
          obtain ⟨b30, h⟩ := h
          refine va_iald hx hb hK hP 8 7 rfl rfl b30 dX6_chooses_141 ?_
          refine lv_imul hx hb dX6_chooses_142 ?_
          refine lv_iadd hx hb dX6_chooses_143 ?_
          refine lv_topi (fun x31 ex31 => ?_)
          have h := h x31 ex31
          refine lv_istore (lv' := [(7, .int x31), (6, .int x28), (0, .ref (a 0)), (1, .int xl1), (3, .int xl3), (8, .int xl8), (9, .int xl9)]) hx hb dX6_chooses_144 hl (by decide) rfl (fun ls hl => ?_)
          refine lv_iload hx hb dX6_chooses_146 (lv_at hl 5 rfl) ?_
          refine lv_aload_n hx hb dX6_chooses_148 rfl (lv_at hl 2 rfl) ?_
          refine va_get (D := D) (ci := 6) (v := .ref (a 10)) (C := RX6) (T := TX6) (N := 36) hx hb hts hinX6 hown hK hP 0 rfl rfl 22 (by decide) kf45 (fun _ h9 => h9) rfl dX6_chooses_149 ?_
          refine lv_iload hx hb dX6_chooses_152 (lv_at hl 6 rfl) ?_
          obtain ⟨b32, h⟩ := h
          refine va_iald hx hb hK hP 10 9 rfl rfl b32 dX6_chooses_154 ?_
          refine lv_aload_n hx hb dX6_chooses_155 rfl (lv_at hl 2 rfl) ?_
          refine va_get (D := D) (ci := 6) (v := .ref (a 9)) (C := RX6) (T := TX6) (N := 36) hx hb hts hinX6 hown hK hP 0 rfl rfl 18 (by decide) kf35 (fun _ h9 => h9) rfl dX6_chooses_156 ?_
          refine lv_iload hx hb dX6_chooses_159 (lv_at hl 6 rfl) ?_
          obtain ⟨b33, h⟩ := h
          refine va_iald hx hb hK hP 9 8 rfl rfl b33 dX6_chooses_161 ?_
          refine lv_imul hx hb dX6_chooses_162 ?_
          refine lv_iadd hx hb dX6_chooses_163 ?_
          refine lv_topi (fun x34 ex34 => ?_)
          have h := h x34 ex34
          refine lv_istore (lv' := [(8, .int x34), (7, .int x31), (6, .int x28), (0, .ref (a 0)), (1, .int xl1), (3, .int xl3), (9, .int xl9)]) hx hb dX6_chooses_164 hl (by decide) rfl (fun ls hl => ?_)
          obtain ⟨x35, ex35⟩ : ∃ y : Int32, y = xl9 + 1 := ⟨_, rfl⟩
          have h := h x35 ex35
          refine lv_iinc (v := x35) (lv' := [(9, .int x35), (8, .int x34), (7, .int x31), (6, .int x28), (0, .ref (a 0)), (1, .int xl1), (3, .int xl3)]) hx hb dX6_chooses_166 hl (k := 6) rfl (by rw [ex35]; rfl) (by decide) rfl (fun ls hl => ?_)
          refine lv_goto (tgt := 105) hx hb dX6_chooses_169 (by decide) ?_
          exact (ih).2.2.2.1 xl1 xl3 x28 x31 x34 x35 S _ _ _ h hP hS (lv_sub hl [4, 5, 6, 3, 2, 1, 0] rfl)
      · intro xl1 xl3 xl9 S H locs ls h hP hS hl
        have h : BX6_chooses_4 (LX6_chooses post n) post xl1 xl3 0 0 0 0 0 xl9 S := h
        unfold BX6_chooses_4 at h
        refine lv_iload hx hb dX6_chooses_205 (lv_at hl 3 rfl) ?_
        refine lv_if_lt (tgt := 235) hx hb dX6_chooses_207 (by decide) (fun c36 => ?_) (fun c36 => ?_)
        · have h := h.1 c36
          refine lv_iload hx hb dX6_chooses_235 (lv_at hl 3 rfl) ?_
          refine lv_if_lt (tgt := 244) hx hb dX6_chooses_237 (by decide) (fun c37 => ?_) (fun c37 => ?_)
          · have h := h.1 c37
            refine lv_iconst (v := 0) hx hb dX6_chooses_244 (by decide) ?_
            refine lv_istore (lv' := [(5, .int 0), (0, .ref (a 0)), (1, .int xl1), (3, .int xl3), (9, .int xl9)]) hx hb dX6_chooses_245 hl (by decide) rfl (fun ls hl => ?_)
            refine lv_iload hx hb dX6_chooses_247 (lv_at hl 0 rfl) ?_
            refine lv_if_eq (tgt := 263) hx hb dX6_chooses_249 (by decide) (fun c38 => ?_) (fun c38 => ?_)
            · have h := h.1 c38
              refine lv_goto (tgt := 88) hx hb dX6_chooses_263 (by decide) ?_
              exact (ih).2.2.1 xl1 xl3 0 S _ _ _ h hP hS (lv_sub hl [1, 2, 3, 0] rfl)
            · have h := h.2 c38
              refine lv_aload_n hx hb dX6_chooses_252 rfl (lv_at hl 1 rfl) ?_
              refine va_get (D := D) (ci := 6) (v := .ref (a 10)) (C := RX6) (T := TX6) (N := 36) hx hb hts hinX6 hown hK hP 0 rfl rfl 22 (by decide) kf45 (fun _ h9 => h9) rfl dX6_chooses_253 ?_
              refine lv_iload hx hb dX6_chooses_256 (lv_at hl 4 rfl) ?_
              refine lv_dup2_11 hx hb dX6_chooses_258 rfl rfl ?_
              obtain ⟨b39, h⟩ := h
              refine va_iald hx hb hK hP 10 9 rfl rfl b39 dX6_chooses_259 ?_
              refine lv_iconst (v := 1) hx hb dX6_chooses_260 (by decide) ?_
              refine lv_iadd hx hb dX6_chooses_261 ?_
              obtain ⟨b40, h⟩ := h
              refine va_iast hx hb hK hP (hD S) hS 10 9 rfl rfl b40 dX6_chooses_262 (fun H locs hP _ hS => ?_)
              obtain ⟨S41, eS41⟩ : ∃ z : St, z = sR S 9 (upd (S.2.2 9) xl9.toNatClampNeg ((S.2.2 9 xl9.toNatClampNeg) + 1)) := ⟨_, rfl⟩
              have hP : va_P D vwCl (mw a c S41) H := by rw [eS41]; exact hP
              have h := h S41 eS41
              refine lv_goto (tgt := 88) hx hb dX6_chooses_263 (by decide) ?_
              exact (ih).2.2.1 xl1 xl3 0 S41 _ _ _ h hP hS (lv_sub hl [1, 2, 3, 0] rfl)
          · have h := h.2 c37
            refine lv_iconst (v := 1) hx hb dX6_chooses_240 (by decide) ?_
            refine lv_goto (tgt := 245) hx hb dX6_chooses_241 (by decide) ?_
            refine lv_istore (lv' := [(5, .int 1), (0, .ref (a 0)), (1, .int xl1), (3, .int xl3), (9, .int xl9)]) hx hb dX6_chooses_245 hl (by decide) rfl (fun ls hl => ?_)
            refine lv_iload hx hb dX6_chooses_247 (lv_at hl 0 rfl) ?_
            refine lv_if_eq (tgt := 263) hx hb dX6_chooses_249 (by decide) (fun c42 => ?_) (fun c42 => ?_)
            · have h := h.1 c42
              refine lv_goto (tgt := 88) hx hb dX6_chooses_263 (by decide) ?_
              exact (ih).2.2.1 xl1 xl3 1 S _ _ _ h hP hS (lv_sub hl [1, 2, 3, 0] rfl)
            · have h := h.2 c42
              refine lv_aload_n hx hb dX6_chooses_252 rfl (lv_at hl 1 rfl) ?_
              refine va_get (D := D) (ci := 6) (v := .ref (a 10)) (C := RX6) (T := TX6) (N := 36) hx hb hts hinX6 hown hK hP 0 rfl rfl 22 (by decide) kf45 (fun _ h9 => h9) rfl dX6_chooses_253 ?_
              refine lv_iload hx hb dX6_chooses_256 (lv_at hl 4 rfl) ?_
              refine lv_dup2_11 hx hb dX6_chooses_258 rfl rfl ?_
              obtain ⟨b43, h⟩ := h
              refine va_iald hx hb hK hP 10 9 rfl rfl b43 dX6_chooses_259 ?_
              refine lv_iconst (v := 1) hx hb dX6_chooses_260 (by decide) ?_
              refine lv_iadd hx hb dX6_chooses_261 ?_
              obtain ⟨b44, h⟩ := h
              refine va_iast hx hb hK hP (hD S) hS 10 9 rfl rfl b44 dX6_chooses_262 (fun H locs hP _ hS => ?_)
              obtain ⟨S45, eS45⟩ : ∃ z : St, z = sR S 9 (upd (S.2.2 9) xl9.toNatClampNeg ((S.2.2 9 xl9.toNatClampNeg) + 1)) := ⟨_, rfl⟩
              have hP : va_P D vwCl (mw a c S45) H := by rw [eS45]; exact hP
              have h := h S45 eS45
              refine lv_goto (tgt := 88) hx hb dX6_chooses_263 (by decide) ?_
              exact (ih).2.2.1 xl1 xl3 1 S45 _ _ _ h hP hS (lv_sub hl [1, 2, 3, 0] rfl)
        · have h := h.2 c36
          refine lv_aload_n hx hb dX6_chooses_210 rfl (lv_at hl 0 rfl) ?_
          refine lv_iload hx hb dX6_chooses_211 (lv_at hl 3 rfl) ?_
          obtain ⟨k48, h⟩ := h
          refine k_i (k_runV mns_ok ⟨hx, hb, hml, hown, hts⟩ (tX6_upTo l D a c _ k48 xl9 S _ h) (cwV 1 hts gX6_chooses_X6_upTo rfl rfl rfl (by decide +kernel) ⟨Nat.le_of_ble_eq_true rfl, Nat.le_of_ble_eq_true rfl⟩) (va_recv hK hP (ci := 6) (q0 := 0) rfl rfl) hP hK (hD S) hN rfl rfl hl.1 rfl (lv_room (Nat.le_of_ble_eq_true rfl)) dX6_chooses_213 ⟨Nat.le_of_ble_eq_true rfl, Nat.le_of_ble_eq_true rfl⟩) hS (hD S) hA (fun x47 S46 H locs h hP hS => ?_)
          refine lv_bipush (v := 12) hx hb dX6_chooses_216 (by decide) ?_
          refine lv_icmp_lt (tgt := 235) hx hb dX6_chooses_218 (by decide) (fun c49 => ?_) (fun c49 => ?_)
          · have h := h.1 c49
            refine lv_iload hx hb dX6_chooses_235 (lv_at hl 3 rfl) ?_
            refine lv_if_lt (tgt := 244) hx hb dX6_chooses_237 (by decide) (fun c50 => ?_) (fun c50 => ?_)
            · have h := h.1 c50
              refine lv_iconst (v := 0) hx hb dX6_chooses_244 (by decide) ?_
              refine lv_istore (lv' := [(5, .int 0), (0, .ref (a 0)), (1, .int xl1), (3, .int xl3), (9, .int xl9)]) hx hb dX6_chooses_245 hl (by decide) rfl (fun ls hl => ?_)
              refine lv_iload hx hb dX6_chooses_247 (lv_at hl 0 rfl) ?_
              refine lv_if_eq (tgt := 263) hx hb dX6_chooses_249 (by decide) (fun c51 => ?_) (fun c51 => ?_)
              · have h := h.1 c51
                refine lv_goto (tgt := 88) hx hb dX6_chooses_263 (by decide) ?_
                exact (ih).2.2.1 xl1 xl3 0 S46 _ _ _ h hP hS (lv_sub hl [1, 2, 3, 0] rfl)
              · have h := h.2 c51
                refine lv_aload_n hx hb dX6_chooses_252 rfl (lv_at hl 1 rfl) ?_
                refine va_get (D := D) (ci := 6) (v := .ref (a 10)) (C := RX6) (T := TX6) (N := 36) hx hb hts hinX6 hown hK hP 0 rfl rfl 22 (by decide) kf45 (fun _ h9 => h9) rfl dX6_chooses_253 ?_
                refine lv_iload hx hb dX6_chooses_256 (lv_at hl 4 rfl) ?_
                refine lv_dup2_11 hx hb dX6_chooses_258 rfl rfl ?_
                obtain ⟨b52, h⟩ := h
                refine va_iald hx hb hK hP 10 9 rfl rfl b52 dX6_chooses_259 ?_
                refine lv_iconst (v := 1) hx hb dX6_chooses_260 (by decide) ?_
                refine lv_iadd hx hb dX6_chooses_261 ?_
                obtain ⟨b53, h⟩ := h
                refine va_iast hx hb hK hP (hD S46) hS 10 9 rfl rfl b53 dX6_chooses_262 (fun H locs hP _ hS => ?_)
                obtain ⟨S54, eS54⟩ : ∃ z : St, z = sR S46 9 (upd (S46.2.2 9) xl9.toNatClampNeg ((S46.2.2 9 xl9.toNatClampNeg) + 1)) := ⟨_, rfl⟩
                have hP : va_P D vwCl (mw a c S54) H := by rw [eS54]; exact hP
                have h := h S54 eS54
                refine lv_goto (tgt := 88) hx hb dX6_chooses_263 (by decide) ?_
                exact (ih).2.2.1 xl1 xl3 0 S54 _ _ _ h hP hS (lv_sub hl [1, 2, 3, 0] rfl)
            · have h := h.2 c50
              refine lv_iconst (v := 1) hx hb dX6_chooses_240 (by decide) ?_
              refine lv_goto (tgt := 245) hx hb dX6_chooses_241 (by decide) ?_
              refine lv_istore (lv' := [(5, .int 1), (0, .ref (a 0)), (1, .int xl1), (3, .int xl3), (9, .int xl9)]) hx hb dX6_chooses_245 hl (by decide) rfl (fun ls hl => ?_)
              refine lv_iload hx hb dX6_chooses_247 (lv_at hl 0 rfl) ?_
              refine lv_if_eq (tgt := 263) hx hb dX6_chooses_249 (by decide) (fun c55 => ?_) (fun c55 => ?_)
              · have h := h.1 c55
                refine lv_goto (tgt := 88) hx hb dX6_chooses_263 (by decide) ?_
                exact (ih).2.2.1 xl1 xl3 1 S46 _ _ _ h hP hS (lv_sub hl [1, 2, 3, 0] rfl)
              · have h := h.2 c55
                refine lv_aload_n hx hb dX6_chooses_252 rfl (lv_at hl 1 rfl) ?_
                refine va_get (D := D) (ci := 6) (v := .ref (a 10)) (C := RX6) (T := TX6) (N := 36) hx hb hts hinX6 hown hK hP 0 rfl rfl 22 (by decide) kf45 (fun _ h9 => h9) rfl dX6_chooses_253 ?_
                refine lv_iload hx hb dX6_chooses_256 (lv_at hl 4 rfl) ?_
                refine lv_dup2_11 hx hb dX6_chooses_258 rfl rfl ?_
                obtain ⟨b56, h⟩ := h
                refine va_iald hx hb hK hP 10 9 rfl rfl b56 dX6_chooses_259 ?_
                refine lv_iconst (v := 1) hx hb dX6_chooses_260 (by decide) ?_
                refine lv_iadd hx hb dX6_chooses_261 ?_
                obtain ⟨b57, h⟩ := h
                refine va_iast hx hb hK hP (hD S46) hS 10 9 rfl rfl b57 dX6_chooses_262 (fun H locs hP _ hS => ?_)
                obtain ⟨S58, eS58⟩ : ∃ z : St, z = sR S46 9 (upd (S46.2.2 9) xl9.toNatClampNeg ((S46.2.2 9 xl9.toNatClampNeg) + 1)) := ⟨_, rfl⟩
                have hP : va_P D vwCl (mw a c S58) H := by rw [eS58]; exact hP
                have h := h S58 eS58
                refine lv_goto (tgt := 88) hx hb dX6_chooses_263 (by decide) ?_
                exact (ih).2.2.1 xl1 xl3 1 S58 _ _ _ h hP hS (lv_sub hl [1, 2, 3, 0] rfl)
          · have h := h.2 c49
            refine lv_aload_n hx hb dX6_chooses_221 rfl (lv_at hl 0 rfl) ?_
            refine va_get (D := D) (ci := 6) (v := .ref (a 10)) (C := RX6) (T := TX6) (N := 36) hx hb hts hinX6 hown hK hP 0 rfl rfl 22 (by decide) kf45 (fun _ h9 => h9) rfl dX6_chooses_222 ?_
            refine lv_iload hx hb dX6_chooses_225 (lv_at hl 3 rfl) ?_
            refine lv_iconst (v := 0) hx hb dX6_chooses_227 (by decide) ?_
            obtain ⟨b59, h⟩ := h
            refine va_iast hx hb hK hP (hD S46) hS 10 9 rfl rfl b59 dX6_chooses_228 (fun H locs hP _ hS => ?_)
            obtain ⟨S60, eS60⟩ : ∃ z : St, z = sR S46 9 (upd (S46.2.2 9) xl9.toNatClampNeg 0) := ⟨_, rfl⟩
            have hP : va_P D vwCl (mw a c S60) H := by rw [eS60]; exact hP
            have h := h S60 eS60
            obtain ⟨x61, ex61⟩ : ∃ y : Int32, y = xl9 + (-1) := ⟨_, rfl⟩
            have h := h x61 ex61
            refine lv_iinc (v := x61) (lv' := [(9, .int x61), (0, .ref (a 0)), (1, .int xl1), (3, .int xl3)]) hx hb dX6_chooses_229 hl (k := 3) rfl (by rw [ex61]; rfl) (by decide) rfl (fun ls hl => ?_)
            refine lv_goto (tgt := 205) hx hb dX6_chooses_232 (by decide) ?_
            exact (ih).2.2.2.2 xl1 xl3 x61 S60 _ _ _ h hP hS (lv_sub hl [1, 2, 3, 0] rfl)
  unfold PX6_chooses at h
  refine lv_aload_n hx hb dX6_chooses_0 rfl (lv_at hl 0 rfl) ?_
  refine lv_iload_n hx hb dX6_chooses_1 rfl (lv_at hl 1 rfl) ?_
  refine lv_iload_n hx hb dX6_chooses_2 rfl (lv_at hl 2 rfl) ?_
  obtain ⟨k2, h⟩ := h
  refine k_v (k_runV mns_ok ⟨hx, hb, hml, hown, hts⟩ (tX6_goes l D a c _ k2 p0 p1 S _ h) (cwV 2 hts gX6_chooses_X6_goes rfl rfl rfl (by decide +kernel) ⟨Nat.le_of_ble_eq_true rfl, Nat.le_of_ble_eq_true rfl⟩) (va_recv hK hP (ci := 6) (q0 := 0) rfl rfl) hP hK (hD S) hN rfl rfl hl.1 rfl (lv_room (Nat.le_of_ble_eq_true rfl)) dX6_chooses_3 ⟨Nat.le_of_ble_eq_true rfl, Nat.le_of_ble_eq_true rfl⟩) hS (hD S) hA (fun S1 H locs h hP hS => ?_)
  refine lv_iconst (v := 0) hx hb dX6_chooses_6 (by decide) ?_
  refine lv_istore (lv' := [(4, .int 0), (0, .ref (a 0)), (1, .int p0), (2, .int p1), (3, .int p2)]) hx hb dX6_chooses_7 hl (by decide) rfl (fun ls hl => ?_)
  refine lv_iconst (v := 0) hx hb dX6_chooses_9 (by decide) ?_
  refine lv_istore (lv' := [(5, .int 0), (4, .int 0), (0, .ref (a 0)), (1, .int p0), (2, .int p1), (3, .int p2)]) hx hb dX6_chooses_10 hl (by decide) rfl (fun ls hl => ?_)
  exact (key n).1 p0 p2 0 0 S1 _ _ _ h hP hS (lv_sub hl [2, 3, 5, 1, 0] rfl)
def BX6_isAsked_0 (X : St → Prop) (post : Int32 → St → Prop)  (S : St) : Prop := PX6_bad 1 2 S (fun x13 S12 => ((x13 = 0 → post 1 S12) ∧ (¬ x13 = 0 → post 0 S12)))
def LX6_isAsked (post : Int32 → St → Prop) : Nat → St → Prop
  | 0, _ => False
  | n + 1, S => BX6_isAsked_0 (LX6_isAsked post n) post  S
def PX6_isAsked (n : Nat) (p0 : Int32) (p1 : Int32) (p2 : Int32) (S : St) (post : Int32 → St → Prop) : Prop := PX6_isMeal p0 S (fun x2 S1 => ((x2 = 0 → post 0 S1) ∧ (¬ x2 = 0 → PX6_isBits p1 S1 (fun x5 S4 => ((x5 = 0 → LX6_isAsked post n  S4) ∧ (¬ x5 = 0 → ((p2 < 0 → LX6_isAsked post n  S4) ∧ (¬ p2 < 0 → ((p2 ≤ 10000 → PX6_bad 0 2 S4 (fun x10 S9 => ((x10 = 0 → post 1 S9) ∧ (¬ x10 = 0 → post 0 S9)))) ∧ (¬ p2 ≤ 10000 → LX6_isAsked post n  S4))))))))))
set_option maxHeartbeats 4000000 in
set_option maxRecDepth 100000 in
theorem tX6_isAsked (l : Launch) (D : va_G) (a : Nat → Nat) (c : Nat → ClassId) (sz : Nat) (n : Nat) (p0 : Int32) (p1 : Int32) (p2 : Int32) (S : St) (post : Int32 → St → Prop) (h : PX6_isAsked n p0 p1 p2 S post) : Met l yX6_isAsked wsX6_isAsked ({ frames := 1, cells := 0, slots := 0, locals := 22 }) (va_Pc [.ref (a 0), .int p0, .int p1, .int p2] (gP D (mw a c) (mty c) mns S sz)) (va_Qi post (gB D (mw a c)) (va_A (mw a c S) sz)) 0 0 (va_A (mw a c S) sz) := by
  refine Met.ofW (cc := cX6_isAsked) (maxL := 4) (ret := (some .boolean)) (by decide) rfl ?_
  intro p e s m args below meth c9 s₁ B hml hv
  obtain ⟨rfl, hsz, hP, hK, hD0, hN⟩ := hv
  have hx := B.exec
  have hb := B.bytes
  have hr := B.returns
  have hts := atoms_spec (ws := wsX6_isAsked) B.pre
  have hown : s.vm.findClass RX6 = some m.cls := findClass_of_methodNamed B.named
  have hlocks := B.notSynchronized
  subst hsz
  have hD1 := hD0.self (sz := s.heap.size)
  generalize hAe : va_A (mw a c S) s.heap.size = A at hD1 ⊢
  have hA : ∀ q : Nat, s.heap.size ≤ q → A q := fun q h => by rw [← hAe]; exact Or.inr h
  have hD : ∀ S2 : St, va_D A (mw a c S2) := gD mw_F hD1
  have hS : va_S A s.heap s.heap [] := va_S.rf
  have hl := lv_entry ([.ref (a 0), .int p0, .int p1, .int p2]) (n := 4) (Nat.le_of_ble_eq_true rfl)
  rw [lg_entry_eq]
  generalize (lg_sl ([.ref (a 0), .int p0, .int p1, .int p2]) ++ List.replicate (4 - (lg_sl ([.ref (a 0), .int p0, .int p1, .int p2])).length) Slot.unset).toArray = ls at hl ⊢
  have hl : lv_has ls 4 [(0, .ref (a 0)), (1, .int p0), (2, .int p1), (3, .int p2)] := hl
  have key : ∀ n : Nat, (∀  (S : St) (H : Heap) (locs : List Loc) (ls : Array Slot), LX6_isAsked post n  S → va_P D vwCl (mw a c S) H → va_S A s.heap H locs → lv_has ls 4 [] → W p l e ((headSpec wsX6_isAsked ({ frames := 1, cells := 0, slots := 0, locals := 22 })).room) s m ([.ref (a 0), .int p0, .int p1, .int p2]).toArray below meth c9 H locs 0 0 (MQ below (va_Qi post (gB D (mw a c)) A) ([.ref (a 0), .int p0, .int p1, .int p2]).toArray s 0 0 A) (F0 m 27 ls [.ref (a 0)])) := by
    intro n
    induction n with
    | zero => exact fun  S H locs ls h => h.elim
    | succ n ih =>
      intro  S H locs ls h hP hS hl
      have h : BX6_isAsked_0 (LX6_isAsked post n) post  S := h
      unfold BX6_isAsked_0 at h
      refine lv_iconst (v := 1) hx hb dX6_isAsked_27 (by decide) ?_
      refine lv_goto (tgt := 32) hx hb dX6_isAsked_28 (by decide) ?_
      refine lv_iconst (v := 2) hx hb dX6_isAsked_32 (by decide) ?_
      refine k_i (k_runV mns_ok ⟨hx, hb, hml, hown, hts⟩ (tX6_bad l D a c _ 1 2 S _ h) (cwV 2 hts gX6_isAsked_X6_bad rfl rfl rfl (by decide +kernel) ⟨Nat.le_of_ble_eq_true rfl, Nat.le_of_ble_eq_true rfl⟩) (va_recv hK hP (ci := 6) (q0 := 0) rfl rfl) hP hK (hD S) hN rfl rfl hl.1 rfl (lv_room (Nat.le_of_ble_eq_true rfl)) dX6_isAsked_33 ⟨Nat.le_of_ble_eq_true rfl, Nat.le_of_ble_eq_true rfl⟩) hS (hD S) hA (fun x13 S12 H locs h hP hS => ?_)
      refine lv_if_ne (tgt := 43) hx hb dX6_isAsked_36 (by decide) (fun c14 => ?_) (fun c14 => ?_)
      · have h := h.2 c14
        refine lv_iconst (v := 0) hx hb dX6_isAsked_43 (by decide) ?_
        exact g_retz hx hb hr hlocks (Or.inl rfl) h hP hS dX6_isAsked_44
      · have h := h.1 c14
        refine lv_iconst (v := 1) hx hb dX6_isAsked_39 (by decide) ?_
        refine lv_goto (tgt := 44) hx hb dX6_isAsked_40 (by decide) ?_
        exact g_retz hx hb hr hlocks (Or.inr rfl) h hP hS dX6_isAsked_44
  unfold PX6_isAsked at h
  refine lv_aload_n hx hb dX6_isAsked_0 rfl (lv_at hl 0 rfl) ?_
  refine lv_iload_n hx hb dX6_isAsked_1 rfl (lv_at hl 1 rfl) ?_
  refine k_i (k_runV mns_ok ⟨hx, hb, hml, hown, hts⟩ (tX6_isMeal l D a c _ p0 S _ h) (cwV 1 hts gX6_isAsked_X6_isMeal rfl rfl rfl (by decide +kernel) ⟨Nat.le_of_ble_eq_true rfl, Nat.le_of_ble_eq_true rfl⟩) (va_recv hK hP (ci := 6) (q0 := 0) rfl rfl) hP hK (hD S) hN rfl rfl hl.1 rfl (lv_room (Nat.le_of_ble_eq_true rfl)) dX6_isAsked_2 ⟨Nat.le_of_ble_eq_true rfl, Nat.le_of_ble_eq_true rfl⟩) hS (hD S) hA (fun x2 S1 H locs h hP hS => ?_)
  refine lv_if_eq (tgt := 43) hx hb dX6_isAsked_5 (by decide) (fun c3 => ?_) (fun c3 => ?_)
  · have h := h.1 c3
    refine lv_iconst (v := 0) hx hb dX6_isAsked_43 (by decide) ?_
    exact g_retz hx hb hr hlocks (Or.inl rfl) h hP hS dX6_isAsked_44
  · have h := h.2 c3
    refine lv_aload_n hx hb dX6_isAsked_8 rfl (lv_at hl 0 rfl) ?_
    refine lv_iload_n hx hb dX6_isAsked_9 rfl (lv_at hl 2 rfl) ?_
    refine k_i (k_runS mns_ok ⟨hx, hb, hml, hown, hts⟩ (tX6_isBits l D a c _ p1 S1 _ h) (va_cwS 1 hts gX6_isAsked_X6_isBits rfl rfl rfl (by decide +kernel) ⟨Nat.le_of_ble_eq_true rfl, Nat.le_of_ble_eq_true rfl⟩) hP hK (hD S1) hN rfl rfl hl.1 rfl (lv_room (Nat.le_of_ble_eq_true rfl)) dX6_isAsked_10 ⟨Nat.le_of_ble_eq_true rfl, Nat.le_of_ble_eq_true rfl⟩) hS (hD S1) hA (fun x5 S4 H locs h hP hS => ?_)
    refine lv_if_eq (tgt := 27) hx hb dX6_isAsked_13 (by decide) (fun c6 => ?_) (fun c6 => ?_)
    · have h := h.1 c6
      exact (key n)  S4 _ _ _ h hP hS (lv_sub hl [] rfl)
    · have h := h.2 c6
      refine lv_iload_n hx hb dX6_isAsked_16 rfl (lv_at hl 3 rfl) ?_
      refine lv_if_lt (tgt := 27) hx hb dX6_isAsked_17 (by decide) (fun c7 => ?_) (fun c7 => ?_)
      · have h := h.1 c7
        exact (key n)  S4 _ _ _ h hP hS (lv_sub hl [] rfl)
      · have h := h.2 c7
        refine lv_iload_n hx hb dX6_isAsked_20 rfl (lv_at hl 3 rfl) ?_
        refine lv_sipush (v := 10000) hx hb dX6_isAsked_21 (by decide) ?_
        refine lv_icmp_le (tgt := 31) hx hb dX6_isAsked_24 (by decide) (fun c8 => ?_) (fun c8 => ?_)
        · have h := h.1 c8
          refine lv_iconst (v := 0) hx hb dX6_isAsked_31 (by decide) ?_
          refine lv_iconst (v := 2) hx hb dX6_isAsked_32 (by decide) ?_
          refine k_i (k_runV mns_ok ⟨hx, hb, hml, hown, hts⟩ (tX6_bad l D a c _ 0 2 S4 _ h) (cwV 2 hts gX6_isAsked_X6_bad rfl rfl rfl (by decide +kernel) ⟨Nat.le_of_ble_eq_true rfl, Nat.le_of_ble_eq_true rfl⟩) (va_recv hK hP (ci := 6) (q0 := 0) rfl rfl) hP hK (hD S4) hN rfl rfl hl.1 rfl (lv_room (Nat.le_of_ble_eq_true rfl)) dX6_isAsked_33 ⟨Nat.le_of_ble_eq_true rfl, Nat.le_of_ble_eq_true rfl⟩) hS (hD S4) hA (fun x10 S9 H locs h hP hS => ?_)
          refine lv_if_ne (tgt := 43) hx hb dX6_isAsked_36 (by decide) (fun c11 => ?_) (fun c11 => ?_)
          · have h := h.2 c11
            refine lv_iconst (v := 0) hx hb dX6_isAsked_43 (by decide) ?_
            exact g_retz hx hb hr hlocks (Or.inl rfl) h hP hS dX6_isAsked_44
          · have h := h.1 c11
            refine lv_iconst (v := 1) hx hb dX6_isAsked_39 (by decide) ?_
            refine lv_goto (tgt := 44) hx hb dX6_isAsked_40 (by decide) ?_
            exact g_retz hx hb hr hlocks (Or.inr rfl) h hP hS dX6_isAsked_44
        · have h := h.2 c8
          exact (key n)  S4 _ _ _ h hP hS (lv_sub hl [] rfl)
def PX6_cost (p0 : Int32) (p1 : Int32) (p2 : Int32) (S : St) (post : Int64 → St → Prop) : Prop := ∃ k : Nat, PX6_isAsked k p0 p1 p2 S (fun x2 S1 => ((x2 = 0 → post 0 S1) ∧ (¬ x2 = 0 → ∃ k : Nat, PX6_chooses k p0 p1 p2 S1 (fun x6 S5 => ((x6 = 0 → post (-1) S5) ∧ (¬ x6 = 0 → post (S5.2.1 2) S5))))))
set_option maxHeartbeats 4000000 in
set_option maxRecDepth 100000 in
theorem tX6_cost (l : Launch) (D : va_G) (a : Nat → Nat) (c : Nat → ClassId) (sz : Nat) (p0 : Int32) (p1 : Int32) (p2 : Int32) (S : St) (post : Int64 → St → Prop) (h : PX6_cost p0 p1 p2 S post) : Met l yX6_cost wsX6_cost ({ frames := 4, cells := 0, slots := 0, locals := 120 }) (va_Pc [.ref (a 0), .int p0, .int p1, .int p2] (gP D (mw a c) (mty c) mns S sz)) (va_Ql post (gB D (mw a c)) (va_A (mw a c S) sz)) 0 0 (va_A (mw a c S) sz) := by
  refine Met.ofW (cc := cX6_cost) (maxL := 4) (ret := (some .long)) (by decide) rfl ?_
  intro p e s m args below meth c9 s₁ B hml hv
  obtain ⟨rfl, hsz, hP, hK, hD0, hN⟩ := hv
  have hx := B.exec
  have hb := B.bytes
  have hr := B.returns
  have hts := atoms_spec (ws := wsX6_cost) B.pre
  have hown : s.vm.findClass RX6 = some m.cls := findClass_of_methodNamed B.named
  have hlocks := B.notSynchronized
  subst hsz
  have hD1 := hD0.self (sz := s.heap.size)
  generalize hAe : va_A (mw a c S) s.heap.size = A at hD1 ⊢
  have hA : ∀ q : Nat, s.heap.size ≤ q → A q := fun q h => by rw [← hAe]; exact Or.inr h
  have hD : ∀ S2 : St, va_D A (mw a c S2) := gD mw_F hD1
  have hS : va_S A s.heap s.heap [] := va_S.rf
  have hinX6 : ∀ w ∈ wsX60, w ∈ wsX6_cost := by decide +kernel
  have kc125 := hts (.constantLong RX6 125 (-1)) (by decide +kernel)
  have kf127 := hts (.fieldLink RX6 127 "CanteenPlanModel" "bestCost" "J") (by decide +kernel)
  have hl := lv_entry ([.ref (a 0), .int p0, .int p1, .int p2]) (n := 4) (Nat.le_of_ble_eq_true rfl)
  rw [lg_entry_eq]
  generalize (lg_sl ([.ref (a 0), .int p0, .int p1, .int p2]) ++ List.replicate (4 - (lg_sl ([.ref (a 0), .int p0, .int p1, .int p2])).length) Slot.unset).toArray = ls at hl ⊢
  have hl : lv_has ls 4 [(0, .ref (a 0)), (1, .int p0), (2, .int p1), (3, .int p2)] := hl
  unfold PX6_cost at h
  refine lv_aload_n hx hb dX6_cost_0 rfl (lv_at hl 0 rfl) ?_
  refine lv_iload_n hx hb dX6_cost_1 rfl (lv_at hl 1 rfl) ?_
  refine lv_iload_n hx hb dX6_cost_2 rfl (lv_at hl 2 rfl) ?_
  refine lv_iload_n hx hb dX6_cost_3 rfl (lv_at hl 3 rfl) ?_
  obtain ⟨k3, h⟩ := h
  refine k_i (k_runV mns_ok ⟨hx, hb, hml, hown, hts⟩ (tX6_isAsked l D a c _ k3 p0 p1 p2 S _ h) (cwV 3 hts gX6_cost_X6_isAsked rfl rfl rfl (by decide +kernel) ⟨Nat.le_of_ble_eq_true rfl, Nat.le_of_ble_eq_true rfl⟩) (va_recv hK hP (ci := 6) (q0 := 0) rfl rfl) hP hK (hD S) hN rfl rfl hl.1 rfl (lv_room (Nat.le_of_ble_eq_true rfl)) dX6_cost_4 ⟨Nat.le_of_ble_eq_true rfl, Nat.le_of_ble_eq_true rfl⟩) hS (hD S) hA (fun x2 S1 H locs h hP hS => ?_)
  refine lv_if_ne (tgt := 12) hx hb dX6_cost_7 (by decide) (fun c4 => ?_) (fun c4 => ?_)
  · have h := h.2 c4
    refine lv_aload_n hx hb dX6_cost_12 rfl (lv_at hl 0 rfl) ?_
    refine lv_iload_n hx hb dX6_cost_13 rfl (lv_at hl 1 rfl) ?_
    refine lv_iload_n hx hb dX6_cost_14 rfl (lv_at hl 2 rfl) ?_
    refine lv_iload_n hx hb dX6_cost_15 rfl (lv_at hl 3 rfl) ?_
    obtain ⟨k7, h⟩ := h
    refine k_i (k_runV mns_ok ⟨hx, hb, hml, hown, hts⟩ (tX6_chooses l D a c _ k7 p0 p1 p2 S1 _ h) (cwV 3 hts gX6_cost_X6_chooses rfl rfl rfl (by decide +kernel) ⟨Nat.le_of_ble_eq_true rfl, Nat.le_of_ble_eq_true rfl⟩) (va_recv hK hP (ci := 6) (q0 := 0) rfl rfl) hP hK (hD S1) hN rfl rfl hl.1 rfl (lv_room (Nat.le_of_ble_eq_true rfl)) dX6_cost_16 ⟨Nat.le_of_ble_eq_true rfl, Nat.le_of_ble_eq_true rfl⟩) hS (hD S1) hA (fun x6 S5 H locs h hP hS => ?_)
    refine lv_if_eq (tgt := 29) hx hb dX6_cost_19 (by decide) (fun c8 => ?_) (fun c8 => ?_)
    · have h := h.1 c8
      refine lv_ldc2 (v := (-1)) hx hb hown kc125 dX6_cost_29 ?_
      exact g_retl hx hb hr hlocks h hP hS dX6_cost_32
    · have h := h.2 c8
      refine lv_aload_n hx hb dX6_cost_22 rfl (lv_at hl 0 rfl) ?_
      refine va_get (D := D) (ci := 6) (v := .long (S5.2.1 2)) (C := RX6) (T := TX6) (N := 36) hx hb hts hinX6 hown hK hP 0 rfl rfl 24 (by decide) kf127 (fun _ h9 => h9) rfl dX6_cost_23 ?_
      refine lv_goto (tgt := 32) hx hb dX6_cost_26 (by decide) ?_
      exact g_retl hx hb hr hlocks h hP hS dX6_cost_32
  · have h := h.1 c4
    refine lv_lconst (v := 0) hx hb dX6_cost_10 (by decide) ?_
    exact g_retl hx hb hr hlocks h hP hS dX6_cost_11
def PX6_pots (p0 : Int32) (p1 : Int32) (p2 : Int32) (p3 : Int32) (S : St) (post : Int32 → St → Prop) : Prop := ∃ k : Nat, PX6_isAsked k p0 p1 p2 S (fun x2 S1 => ((x2 = 0 → post 0 S1) ∧ (¬ x2 = 0 → ∃ k : Nat, PX6_chooses k p0 p1 p2 S1 (fun x6 S5 => ((x6 = 0 → post (-1) S5) ∧ (¬ x6 = 0 → ((p3 < 0 → post 0 S5) ∧ (¬ p3 < 0 → (((S5.1 8) ≤ p3 → post 0 S5) ∧ (¬ (S5.1 8) ≤ p3 → (vp_in p3 4 ∧ post (S5.2.2 10 p3.toNatClampNeg) S5)))))))))))
set_option maxHeartbeats 4000000 in
set_option maxRecDepth 100000 in
theorem tX6_pots (l : Launch) (D : va_G) (a : Nat → Nat) (c : Nat → ClassId) (sz : Nat) (p0 : Int32) (p1 : Int32) (p2 : Int32) (p3 : Int32) (S : St) (post : Int32 → St → Prop) (h : PX6_pots p0 p1 p2 p3 S post) : Met l yX6_pots wsX6_pots ({ frames := 4, cells := 0, slots := 0, locals := 120 }) (va_Pc [.ref (a 0), .int p0, .int p1, .int p2, .int p3] (gP D (mw a c) (mty c) mns S sz)) (va_Qi post (gB D (mw a c)) (va_A (mw a c S) sz)) 0 0 (va_A (mw a c S) sz) := by
  refine Met.ofW (cc := cX6_pots) (maxL := 5) (ret := (some .int)) (by decide) rfl ?_
  intro p e s m args below meth c9 s₁ B hml hv
  obtain ⟨rfl, hsz, hP, hK, hD0, hN⟩ := hv
  have hx := B.exec
  have hb := B.bytes
  have hr := B.returns
  have hts := atoms_spec (ws := wsX6_pots) B.pre
  have hown : s.vm.findClass RX6 = some m.cls := findClass_of_methodNamed B.named
  have hlocks := B.notSynchronized
  subst hsz
  have hD1 := hD0.self (sz := s.heap.size)
  generalize hAe : va_A (mw a c S) s.heap.size = A at hD1 ⊢
  have hA : ∀ q : Nat, s.heap.size ≤ q → A q := fun q h => by rw [← hAe]; exact Or.inr h
  have hD : ∀ S2 : St, va_D A (mw a c S2) := gD mw_F hD1
  have hS : va_S A s.heap s.heap [] := va_S.rf
  have hinX6 : ∀ w ∈ wsX60, w ∈ wsX6_pots := by decide +kernel
  have kf122 := hts (.fieldLink RX6 122 "CanteenPlanModel" "sizes" "I") (by decide +kernel)
  have kf48 := hts (.fieldLink RX6 48 "CanteenPlanModel" "best" "[I") (by decide +kernel)
  have hl := lv_entry ([.ref (a 0), .int p0, .int p1, .int p2, .int p3]) (n := 5) (Nat.le_of_ble_eq_true rfl)
  rw [lg_entry_eq]
  generalize (lg_sl ([.ref (a 0), .int p0, .int p1, .int p2, .int p3]) ++ List.replicate (5 - (lg_sl ([.ref (a 0), .int p0, .int p1, .int p2, .int p3])).length) Slot.unset).toArray = ls at hl ⊢
  have hl : lv_has ls 5 [(0, .ref (a 0)), (1, .int p0), (2, .int p1), (3, .int p2), (4, .int p3)] := hl
  unfold PX6_pots at h
  refine lv_aload_n hx hb dX6_pots_0 rfl (lv_at hl 0 rfl) ?_
  refine lv_iload_n hx hb dX6_pots_1 rfl (lv_at hl 1 rfl) ?_
  refine lv_iload_n hx hb dX6_pots_2 rfl (lv_at hl 2 rfl) ?_
  refine lv_iload_n hx hb dX6_pots_3 rfl (lv_at hl 3 rfl) ?_
  obtain ⟨k3, h⟩ := h
  refine k_i (k_runV mns_ok ⟨hx, hb, hml, hown, hts⟩ (tX6_isAsked l D a c _ k3 p0 p1 p2 S _ h) (cwV 3 hts gX6_pots_X6_isAsked rfl rfl rfl (by decide +kernel) ⟨Nat.le_of_ble_eq_true rfl, Nat.le_of_ble_eq_true rfl⟩) (va_recv hK hP (ci := 6) (q0 := 0) rfl rfl) hP hK (hD S) hN rfl rfl hl.1 rfl (lv_room (Nat.le_of_ble_eq_true rfl)) dX6_pots_4 ⟨Nat.le_of_ble_eq_true rfl, Nat.le_of_ble_eq_true rfl⟩) hS (hD S) hA (fun x2 S1 H locs h hP hS => ?_)
  refine lv_if_ne (tgt := 12) hx hb dX6_pots_7 (by decide) (fun c4 => ?_) (fun c4 => ?_)
  · have h := h.2 c4
    refine lv_aload_n hx hb dX6_pots_12 rfl (lv_at hl 0 rfl) ?_
    refine lv_iload_n hx hb dX6_pots_13 rfl (lv_at hl 1 rfl) ?_
    refine lv_iload_n hx hb dX6_pots_14 rfl (lv_at hl 2 rfl) ?_
    refine lv_iload_n hx hb dX6_pots_15 rfl (lv_at hl 3 rfl) ?_
    obtain ⟨k7, h⟩ := h
    refine k_i (k_runV mns_ok ⟨hx, hb, hml, hown, hts⟩ (tX6_chooses l D a c _ k7 p0 p1 p2 S1 _ h) (cwV 3 hts gX6_pots_X6_chooses rfl rfl rfl (by decide +kernel) ⟨Nat.le_of_ble_eq_true rfl, Nat.le_of_ble_eq_true rfl⟩) (va_recv hK hP (ci := 6) (q0 := 0) rfl rfl) hP hK (hD S1) hN rfl rfl hl.1 rfl (lv_room (Nat.le_of_ble_eq_true rfl)) dX6_pots_16 ⟨Nat.le_of_ble_eq_true rfl, Nat.le_of_ble_eq_true rfl⟩) hS (hD S1) hA (fun x6 S5 H locs h hP hS => ?_)
    refine lv_if_ne (tgt := 24) hx hb dX6_pots_19 (by decide) (fun c8 => ?_) (fun c8 => ?_)
    · have h := h.2 c8
      refine lv_iload hx hb dX6_pots_24 (lv_at hl 4 rfl) ?_
      refine lv_if_lt (tgt := 48) hx hb dX6_pots_26 (by decide) (fun c9 => ?_) (fun c9 => ?_)
      · have h := h.1 c9
        refine lv_iconst (v := 0) hx hb dX6_pots_48 (by decide) ?_
        exact g_reti hx hb hr hlocks h hP hS dX6_pots_49
      · have h := h.2 c9
        refine lv_iload hx hb dX6_pots_29 (lv_at hl 4 rfl) ?_
        refine lv_aload_n hx hb dX6_pots_31 rfl (lv_at hl 0 rfl) ?_
        refine va_get (D := D) (ci := 6) (v := .int (S5.1 8)) (C := RX6) (T := TX6) (N := 36) hx hb hts hinX6 hown hK hP 0 rfl rfl 19 (by decide) kf122 (fun _ h9 => h9) rfl dX6_pots_32 ?_
        refine lv_icmp_ge (tgt := 48) hx hb dX6_pots_35 (by decide) (fun c10 => ?_) (fun c10 => ?_)
        · have h := h.1 c10
          refine lv_iconst (v := 0) hx hb dX6_pots_48 (by decide) ?_
          exact g_reti hx hb hr hlocks h hP hS dX6_pots_49
        · have h := h.2 c10
          refine lv_aload_n hx hb dX6_pots_38 rfl (lv_at hl 0 rfl) ?_
          refine va_get (D := D) (ci := 6) (v := .ref (a 11)) (C := RX6) (T := TX6) (N := 36) hx hb hts hinX6 hown hK hP 0 rfl rfl 23 (by decide) kf48 (fun _ h9 => h9) rfl dX6_pots_39 ?_
          refine lv_iload hx hb dX6_pots_42 (lv_at hl 4 rfl) ?_
          obtain ⟨b11, h⟩ := h
          refine va_iald hx hb hK hP 11 10 rfl rfl b11 dX6_pots_44 ?_
          refine lv_goto (tgt := 49) hx hb dX6_pots_45 (by decide) ?_
          exact g_reti hx hb hr hlocks h hP hS dX6_pots_49
    · have h := h.1 c8
      refine lv_iconst (v := (-1)) hx hb dX6_pots_22 (by decide) ?_
      exact g_reti hx hb hr hlocks h hP hS dX6_pots_23
  · have h := h.1 c4
    refine lv_iconst (v := 0) hx hb dX6_pots_10 (by decide) ?_
    exact g_reti hx hb hr hlocks h hP hS dX6_pots_11
