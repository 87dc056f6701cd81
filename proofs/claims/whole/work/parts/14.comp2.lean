def BX4_readDay_0 (X : Int32 → Int32 → Int32 → St → Prop) (post : St → Prop) (xl1 : Int32) (xl2 : Int32) (xl3 : Int32) (S : St) : Prop := ((8 ≤ xl3 → post S) ∧ (¬ 8 ≤ xl3 → ((((xl1 >>> (xl3 &&& 31)) &&& 1) = 0 → ∀ x5 : Int32, x5 = xl3 + 1 → X xl1 xl2 x5 S) ∧ (¬ ((xl1 >>> (xl3 &&& 31)) &&& 1) = 0 → (vp_in xl3 8 ∧ (vp_in xl3 8 ∧ ∀ S8 : St, S8 = sR S 8 (upd (S.2.2 8) xl3.toNatClampNeg ((S.2.2 8 xl3.toNatClampNeg) + 1)) → (vp_in xl3 8 ∧ (vp_in xl3 8 ∧ ∀ S11 : St, S11 = sR S8 9 (upd (S8.2.2 9) xl3.toNatClampNeg ((S8.2.2 9 xl3.toNatClampNeg) + xl2)) → ∀ x12 : Int32, x12 = xl3 + 1 → X xl1 xl2 x12 S11))))))))
def LX4_readDay (post : St → Prop) : Nat → Int32 → Int32 → Int32 → St → Prop
  | 0, _, _, _, _ => False
  | n + 1, xl1, xl2, xl3, S => BX4_readDay_0 (LX4_readDay post n) post xl1 xl2 xl3 S
def PX4_readDay (n : Nat) (p0 : Int32) (p1 : Int32) (S : St) (post : St → Prop) : Prop := ∀ S1 : St, S1 = sI S 3 ((S.1 3) + 1) → ∀ S2 : St, S2 = sI S1 4 ((S1.1 4) + p1) → LX4_readDay post n p0 p1 0 S2
set_option maxHeartbeats 4000000 in
set_option maxRecDepth 100000 in
theorem tX4_readDay (l : Launch) (D : va_G) (a : Nat → Nat) (c : Nat → ClassId) (sz : Nat) (n : Nat) (p0 : Int32) (p1 : Int32) (S : St) (post : St → Prop) (h : PX4_readDay n p0 p1 S post) : Met l yX4_readDay wsX4_readDay ({ frames := 0, cells := 0, slots := 0, locals := 0 }) (va_Pc [.ref (a 3), .int p0, .int p1] (gP D (cw a c) (cty c) cns S sz)) (va_Qv post (gB D (cw a c)) (va_A (cw a c S) sz)) 0 0 (va_A (cw a c S) sz) := by
  refine Met.ofW (cc := cX4_readDay) (maxL := 4) (ret := none) (by decide) rfl ?_
  intro p e s m args below meth c9 s₁ B hml hv
  obtain ⟨rfl, hsz, hP, hK, hD0, hN⟩ := hv
  have hx := B.exec
  have hb := B.bytes
  have hr := B.returns
  have hts := atoms_spec (ws := wsX4_readDay) B.pre
  have hown : s.vm.findClass RX4 = some m.cls := findClass_of_methodNamed B.named
  have hlocks := B.notSynchronized
  subst hsz
  have hD1 := hD0.self (sz := s.heap.size)
  generalize hAe : va_A (cw a c S) s.heap.size = A at hD1 ⊢
  have hA : ∀ q : Nat, s.heap.size ≤ q → A q := fun q h => by rw [← hAe]; exact Or.inr h
  have hD : ∀ S2 : St, va_D A (cw a c S2) := gD cw_F hD1
  have hS : va_S A s.heap s.heap [] := va_S.rf
  have hinX4 : ∀ w ∈ wsX40, w ∈ wsX4_readDay := by decide +kernel
  have kf15 := hts (.fieldLink RX4 15 "CanteenPlan$Tree" "sumWith" "[I") (by decide +kernel)
  have kf34 := hts (.fieldLink RX4 34 "CanteenPlan$Tree" "days" "I") (by decide +kernel)
  have kf44 := hts (.fieldLink RX4 44 "CanteenPlan$Tree" "sum" "I") (by decide +kernel)
  have kf9 := hts (.fieldLink RX4 9 "CanteenPlan$Tree" "daysWith" "[I") (by decide +kernel)
  have hl := lv_entry ([.ref (a 3), .int p0, .int p1]) (n := 4) (Nat.le_of_ble_eq_true rfl)
  rw [lg_entry_eq]
  generalize (lg_sl ([.ref (a 3), .int p0, .int p1]) ++ List.replicate (4 - (lg_sl ([.ref (a 3), .int p0, .int p1])).length) Slot.unset).toArray = ls at hl ⊢
  have hl : lv_has ls 4 [(0, .ref (a 3)), (1, .int p0), (2, .int p1)] := hl
  have key : ∀ n : Nat, (∀ (xl1 : Int32) (xl2 : Int32) (xl3 : Int32) (S : St) (H : Heap) (locs : List Loc) (ls : Array Slot), LX4_readDay post n xl1 xl2 xl3 S → va_P D vwCl (cw a c S) H → va_S A s.heap H locs → lv_has ls 4 [(0, .ref (a 3)), (1, .int xl1), (2, .int xl2), (3, .int xl3)] → W p l e ((headSpec wsX4_readDay ({ frames := 0, cells := 0, slots := 0, locals := 0 })).room) s m ([.ref (a 3), .int p0, .int p1]).toArray below meth c9 H locs 0 0 (MQ below (va_Qv post (gB D (cw a c)) A) ([.ref (a 3), .int p0, .int p1]).toArray s 0 0 A) (F0 m 22 ls [])) := by
    intro n
    induction n with
    | zero => exact fun xl1 xl2 xl3 S H locs ls h => h.elim
    | succ n ih =>
      intro xl1 xl2 xl3 S H locs ls h hP hS hl
      have h : BX4_readDay_0 (LX4_readDay post n) post xl1 xl2 xl3 S := h
      unfold BX4_readDay_0 at h
      refine lv_iload_n hx hb dX4_readDay_22 rfl (lv_at hl 3 rfl) ?_
      refine lv_bipush (v := 8) hx hb dX4_readDay_23 (by decide) ?_
      refine lv_icmp_ge (tgt := 62) hx hb dX4_readDay_25 (by decide) (fun c3 => ?_) (fun c3 => ?_)
      · have h := h.1 c3
        exact g_retv hx hb hr hlocks h hP hS dX4_readDay_62
      · have h := h.2 c3
        refine lv_iload_n hx hb dX4_readDay_28 rfl (lv_at hl 1 rfl) ?_
        refine lv_iload_n hx hb dX4_readDay_29 rfl (lv_at hl 3 rfl) ?_
        refine lv_ishr hx hb dX4_readDay_30 ?_
        refine lv_iconst (v := 1) hx hb dX4_readDay_31 (by decide) ?_
        refine lv_iand hx hb dX4_readDay_32 ?_
        refine lv_if_eq (tgt := 56) hx hb dX4_readDay_33 (by decide) (fun c4 => ?_) (fun c4 => ?_)
        · have h := h.1 c4
          obtain ⟨x5, ex5⟩ : ∃ y : Int32, y = xl3 + 1 := ⟨_, rfl⟩
          have h := h x5 ex5
          refine lv_iinc (v := x5) (lv' := [(3, .int x5), (0, .ref (a 3)), (1, .int xl1), (2, .int xl2)]) hx hb dX4_readDay_56 hl (k := 3) rfl (by rw [ex5]; rfl) (by decide) rfl (fun ls hl => ?_)
          refine lv_goto (tgt := 22) hx hb dX4_readDay_59 (by decide) ?_
          exact (ih) xl1 xl2 x5 S _ _ _ h hP hS (lv_sub hl [1, 2, 3, 0] rfl)
        · have h := h.2 c4
          refine lv_aload_n hx hb dX4_readDay_36 rfl (lv_at hl 0 rfl) ?_
          refine va_get (D := D) (ci := 4) (v := .ref (a 14)) (C := RX4) (T := TX4) (N := 5) hx hb hts hinX4 hown hK hP 3 rfl rfl 1 (by decide) kf9 (fun _ h9 => h9) rfl dX4_readDay_37 ?_
          refine lv_iload_n hx hb dX4_readDay_40 rfl (lv_at hl 3 rfl) ?_
          refine lv_dup2_11 hx hb dX4_readDay_41 rfl rfl ?_
          obtain ⟨b6, h⟩ := h
          refine va_iald hx hb hK hP 14 8 rfl rfl b6 dX4_readDay_42 ?_
          refine lv_iconst (v := 1) hx hb dX4_readDay_43 (by decide) ?_
          refine lv_iadd hx hb dX4_readDay_44 ?_
          obtain ⟨b7, h⟩ := h
          refine va_iast hx hb hK hP (hD S) hS 14 8 rfl rfl b7 dX4_readDay_45 (fun H locs hP _ hS => ?_)
          obtain ⟨S8, eS8⟩ : ∃ z : St, z = sR S 8 (upd (S.2.2 8) xl3.toNatClampNeg ((S.2.2 8 xl3.toNatClampNeg) + 1)) := ⟨_, rfl⟩
          have hP : va_P D vwCl (cw a c S8) H := by rw [eS8]; exact hP
          have h := h S8 eS8
          refine lv_aload_n hx hb dX4_readDay_46 rfl (lv_at hl 0 rfl) ?_
          refine va_get (D := D) (ci := 4) (v := .ref (a 15)) (C := RX4) (T := TX4) (N := 5) hx hb hts hinX4 hown hK hP 3 rfl rfl 2 (by decide) kf15 (fun _ h9 => h9) rfl dX4_readDay_47 ?_
          refine lv_iload_n hx hb dX4_readDay_50 rfl (lv_at hl 3 rfl) ?_
          refine lv_dup2_11 hx hb dX4_readDay_51 rfl rfl ?_
          obtain ⟨b9, h⟩ := h
          refine va_iald hx hb hK hP 15 9 rfl rfl b9 dX4_readDay_52 ?_
          refine lv_iload_n hx hb dX4_readDay_53 rfl (lv_at hl 2 rfl) ?_
          refine lv_iadd hx hb dX4_readDay_54 ?_
          obtain ⟨b10, h⟩ := h
          refine va_iast hx hb hK hP (hD S8) hS 15 9 rfl rfl b10 dX4_readDay_55 (fun H locs hP _ hS => ?_)
          obtain ⟨S11, eS11⟩ : ∃ z : St, z = sR S8 9 (upd (S8.2.2 9) xl3.toNatClampNeg ((S8.2.2 9 xl3.toNatClampNeg) + xl2)) := ⟨_, rfl⟩
          have hP : va_P D vwCl (cw a c S11) H := by rw [eS11]; exact hP
          have h := h S11 eS11
          obtain ⟨x12, ex12⟩ : ∃ y : Int32, y = xl3 + 1 := ⟨_, rfl⟩
          have h := h x12 ex12
          refine lv_iinc (v := x12) (lv' := [(3, .int x12), (0, .ref (a 3)), (1, .int xl1), (2, .int xl2)]) hx hb dX4_readDay_56 hl (k := 3) rfl (by rw [ex12]; rfl) (by decide) rfl (fun ls hl => ?_)
          refine lv_goto (tgt := 22) hx hb dX4_readDay_59 (by decide) ?_
          exact (ih) xl1 xl2 x12 S11 _ _ _ h hP hS (lv_sub hl [1, 2, 3, 0] rfl)
  unfold PX4_readDay at h
  refine lv_aload_n hx hb dX4_readDay_0 rfl (lv_at hl 0 rfl) ?_
  refine lv_dup hx hb dX4_readDay_1 rfl ?_
  refine va_get (D := D) (ci := 4) (v := .int (S.1 3)) (C := RX4) (T := TX4) (N := 5) hx hb hts hinX4 hown hK hP 3 rfl rfl 3 (by decide) kf34 (fun _ h9 => h9) rfl dX4_readDay_2 ?_
  refine lv_iconst (v := 1) hx hb dX4_readDay_5 (by decide) ?_
  refine lv_iadd hx hb dX4_readDay_6 ?_
  refine va_put (D := D) (ci := 4) (v := .int ((S.1 3) + 1)) (ty := .int) (C := RX4) (T := TX4) (N := 5) hx hb hts hinX4 tyX4 tyX4_ok nmX4 hown hK hP (hD S) hS 3 rfl rfl 3 (by decide) kf34 (fun _ h9 => h9) rfl (by decide +kernel) rfl rfl (Nat.le_of_ble_eq_true rfl) dX4_readDay_7 (fun H locs hP _ hS => ?_)
  obtain ⟨S1, eS1⟩ : ∃ z : St, z = sI S 3 ((S.1 3) + 1) := ⟨_, rfl⟩
  have hP : va_P D vwCl (cw a c S1) H := by rw [eS1]; exact hP
  have h := h S1 eS1
  refine lv_aload_n hx hb dX4_readDay_10 rfl (lv_at hl 0 rfl) ?_
  refine lv_dup hx hb dX4_readDay_11 rfl ?_
  refine va_get (D := D) (ci := 4) (v := .int (S1.1 4)) (C := RX4) (T := TX4) (N := 5) hx hb hts hinX4 hown hK hP 3 rfl rfl 4 (by decide) kf44 (fun _ h9 => h9) rfl dX4_readDay_12 ?_
  refine lv_iload_n hx hb dX4_readDay_15 rfl (lv_at hl 2 rfl) ?_
  refine lv_iadd hx hb dX4_readDay_16 ?_
  refine va_put (D := D) (ci := 4) (v := .int ((S1.1 4) + p1)) (ty := .int) (C := RX4) (T := TX4) (N := 5) hx hb hts hinX4 tyX4 tyX4_ok nmX4 hown hK hP (hD S1) hS 3 rfl rfl 4 (by decide) kf44 (fun _ h9 => h9) rfl (by decide +kernel) rfl rfl (Nat.le_of_ble_eq_true rfl) dX4_readDay_17 (fun H locs hP _ hS => ?_)
  obtain ⟨S2, eS2⟩ : ∃ z : St, z = sI S1 4 ((S1.1 4) + p1) := ⟨_, rfl⟩
  have hP : va_P D vwCl (cw a c S2) H := by rw [eS2]; exact hP
  have h := h S2 eS2
  refine lv_iconst (v := 0) hx hb dX4_readDay_20 (by decide) ?_
  refine lv_istore_n (lv' := [(3, .int 0), (0, .ref (a 3)), (1, .int p0), (2, .int p1)]) hx hb dX4_readDay_21 rfl hl (by decide) rfl (fun ls hl => ?_)
  exact (key n) p0 p1 0 S2 _ _ _ h hP hS (lv_sub hl [1, 2, 3, 0] rfl)
def BX4_readKnot_0 (X : Int32 → Int32 → Int32 → Int32 → St → Prop) (post : St → Prop) (xl1 : Int32) (xl2 : Int32) (xl3 : Int32) (xl4 : Int32) (S : St) : Prop := (((S.1 1) ≤ xl4 → post S) ∧ (¬ (S.1 1) ≤ xl4 → PX0_isInKnot xl4 xl2 xl3 S (fun x7 S6 => ((x7 = 0 → ∀ x9 : Int32, x9 = xl4 + 1 → X xl1 xl2 xl3 x9 S6) ∧ (¬ x7 = 0 → (vp_in xl4 150 ∧ PX0_eatenOn xl4 xl1 S6 (fun x12 S11 => ∃ k : Nat, PX4_readDay k (S6.2.2 4 xl4.toNatClampNeg) x12 S11 (fun S13 => ∀ x15 : Int32, x15 = xl4 + 1 → X xl1 xl2 xl3 x15 S13))))))))
def LX4_readKnot (post : St → Prop) : Nat → Int32 → Int32 → Int32 → Int32 → St → Prop
  | 0, _, _, _, _, _ => False
  | n + 1, xl1, xl2, xl3, xl4, S => BX4_readKnot_0 (LX4_readKnot post n) post xl1 xl2 xl3 xl4 S
def PX4_readKnot (n : Nat) (p0 : Int32) (p1 : Int32) (p2 : Int32) (S : St) (post : St → Prop) : Prop := ∀ S1 : St, S1 = sI S 3 0 → ∀ S2 : St, S2 = sI S1 4 0 → ∀ S3 : St, S3 = sR S2 8 (g_fill (S2.2.2 8) 8 0) → ∀ S4 : St, S4 = sR S3 9 (g_fill (S3.2.2 9) 8 0) → LX4_readKnot post n p0 p1 p2 0 S4
set_option maxHeartbeats 4000000 in
set_option maxRecDepth 100000 in
theorem tX4_readKnot (l : Launch) (D : va_G) (a : Nat → Nat) (c : Nat → ClassId) (sz : Nat) (n : Nat) (p0 : Int32) (p1 : Int32) (p2 : Int32) (S : St) (post : St → Prop) (h : PX4_readKnot n p0 p1 p2 S post) : Met l yX4_readKnot wsX4_readKnot ({ frames := 1, cells := 0, slots := 0, locals := 24 }) (va_Pc [.ref (a 3), .int p0, .int p1, .int p2] (gP D (cw a c) (cty c) cns S sz)) (va_Qv post (gB D (cw a c)) (va_A (cw a c S) sz)) 0 0 (va_A (cw a c S) sz) := by
  refine Met.ofW (cc := cX4_readKnot) (maxL := 5) (ret := none) (by decide) rfl ?_
  intro p e s m args below meth c9 s₁ B hml hv
  obtain ⟨rfl, hsz, hP, hK, hD0, hN⟩ := hv
  have hx := B.exec
  have hb := B.bytes
  have hr := B.returns
  have hts := atoms_spec (ws := wsX4_readKnot) B.pre
  have hown : s.vm.findClass RX4 = some m.cls := findClass_of_methodNamed B.named
  have hlocks := B.notSynchronized
  subst hsz
  have hD1 := hD0.self (sz := s.heap.size)
  generalize hAe : va_A (cw a c S) s.heap.size = A at hD1 ⊢
  have hA : ∀ q : Nat, s.heap.size ≤ q → A q := fun q h => by rw [← hAe]; exact Or.inr h
  have hD : ∀ S2 : St, va_D A (cw a c S2) := gD cw_F hD1
  have hS : va_S A s.heap s.heap [] := va_S.rf
  have hinX0 : ∀ w ∈ wsX00, w ∈ wsX4_readKnot := by decide +kernel
  have hinX4 : ∀ w ∈ wsX40, w ∈ wsX4_readKnot := by decide +kernel
  have kI58 := hts (.instanceMethod yX0_isInKnot) (by decide +kernel)
  have kI65 := hts (.instanceMethod yX0_eatenOn) (by decide +kernel)
  have kS58 := hts (.selects RX0 yX0_isInKnot yX0_isInKnot) (by decide +kernel)
  have kS65 := hts (.selects RX0 yX0_eatenOn yX0_eatenOn) (by decide +kernel)
  have kf15 := hts (.fieldLink RX4 15 "CanteenPlan$Tree" "sumWith" "[I") (by decide +kernel)
  have kf18 := hts (.fieldLink RX4 18 "CanteenPlan$Tree" "diary" "LCanteenPlan$Diary;") (by decide +kernel)
  have kf34 := hts (.fieldLink RX4 34 "CanteenPlan$Tree" "days" "I") (by decide +kernel)
  have kf44 := hts (.fieldLink RX4 44 "CanteenPlan$Tree" "sum" "I") (by decide +kernel)
  have kf53 := hN (.fieldLinkNest RX4 53 "CanteenPlan$Diary" "inAll" "I" "CanteenPlan") (by decide +kernel)
  have kf62 := hN (.fieldLinkNest RX4 62 "CanteenPlan$Diary" "marksOf" "[I" "CanteenPlan") (by decide +kernel)
  have kf9 := hts (.fieldLink RX4 9 "CanteenPlan$Tree" "daysWith" "[I") (by decide +kernel)
  have kiX0 := hts (.initialized RX0) (by decide +kernel)
  have kn58 := hN (.methodLinkNest RX4 58 yX0_isInKnot "CanteenPlan") (by decide +kernel)
  have kn65 := hN (.methodLinkNest RX4 65 yX0_eatenOn "CanteenPlan") (by decide +kernel)
  have hl := lv_entry ([.ref (a 3), .int p0, .int p1, .int p2]) (n := 5) (Nat.le_of_ble_eq_true rfl)
  rw [lg_entry_eq]
  generalize (lg_sl ([.ref (a 3), .int p0, .int p1, .int p2]) ++ List.replicate (5 - (lg_sl ([.ref (a 3), .int p0, .int p1, .int p2])).length) Slot.unset).toArray = ls at hl ⊢
  have hl : lv_has ls 5 [(0, .ref (a 3)), (1, .int p0), (2, .int p1), (3, .int p2)] := hl
  have key : ∀ n : Nat, (∀ (xl1 : Int32) (xl2 : Int32) (xl3 : Int32) (xl4 : Int32) (S : St) (H : Heap) (locs : List Loc) (ls : Array Slot), LX4_readKnot post n xl1 xl2 xl3 xl4 S → va_P D vwCl (cw a c S) H → va_S A s.heap H locs → lv_has ls 5 [(0, .ref (a 3)), (1, .int xl1), (2, .int xl2), (3, .int xl3), (4, .int xl4)] → W p l e ((headSpec wsX4_readKnot ({ frames := 1, cells := 0, slots := 0, locals := 24 })).room) s m ([.ref (a 3), .int p0, .int p1, .int p2]).toArray below meth c9 H locs 0 0 (MQ below (va_Qv post (gB D (cw a c)) A) ([.ref (a 3), .int p0, .int p1, .int p2]).toArray s 0 0 A) (F0 m 29 ls [])) := by
    intro n
    induction n with
    | zero => exact fun xl1 xl2 xl3 xl4 S H locs ls h => h.elim
    | succ n ih =>
      intro xl1 xl2 xl3 xl4 S H locs ls h hP hS hl
      have h : BX4_readKnot_0 (LX4_readKnot post n) post xl1 xl2 xl3 xl4 S := h
      unfold BX4_readKnot_0 at h
      refine lv_iload hx hb dX4_readKnot_29 (lv_at hl 4 rfl) ?_
      refine lv_aload_n hx hb dX4_readKnot_31 rfl (lv_at hl 0 rfl) ?_
      refine va_get (D := D) (ci := 4) (v := .ref (a 2)) (C := RX4) (T := TX4) (N := 5) hx hb hts hinX4 hown hK hP 3 rfl rfl 0 (by decide) kf18 (fun _ h9 => h9) rfl dX4_readKnot_32 ?_
      refine va_getN (D := D) (ci := 0) (v := .int (S.1 1)) (C := RX0) (T := TX0) (N := 7) hx hb hts hinX0 hown hK hP 2 rfl rfl 5 (by decide) (va_Nw.use rfl kf53) (fun _ h9 => h9) rfl dX4_readKnot_35 ?_
      refine lv_icmp_ge (tgt := 85) hx hb dX4_readKnot_38 (by decide) (fun c5 => ?_) (fun c5 => ?_)
      · have h := h.1 c5
        exact g_retv hx hb hr hlocks h hP hS dX4_readKnot_85
      · have h := h.2 c5
        refine lv_aload_n hx hb dX4_readKnot_41 rfl (lv_at hl 0 rfl) ?_
        refine va_get (D := D) (ci := 4) (v := .ref (a 2)) (C := RX4) (T := TX4) (N := 5) hx hb hts hinX4 hown hK hP 3 rfl rfl 0 (by decide) kf18 (fun _ h9 => h9) rfl dX4_readKnot_42 ?_
        refine lv_iload hx hb dX4_readKnot_45 (lv_at hl 4 rfl) ?_
        refine lv_iload_n hx hb dX4_readKnot_47 rfl (lv_at hl 2 rfl) ?_
        refine lv_iload_n hx hb dX4_readKnot_48 rfl (lv_at hl 3 rfl) ?_
        refine k_i (k_runVN cns_ok ⟨hx, hb, hml, hown, hts⟩ (tX0_isInKnot l D a c _ xl4 xl2 xl3 S _ h) ⟨va_cnB 3 hts gX4_readKnot_X0_isInKnot_n58 rfl rfl rfl kn58 kiX0 (by decide +kernel) ⟨Nat.le_of_ble_eq_true rfl, Nat.le_of_ble_eq_true rfl⟩, kI58, kS58⟩ (va_recv hK hP (ci := 0) (q0 := 2) rfl rfl) hP hK (hD S) hN rfl rfl hl.1 rfl (lv_room (Nat.le_of_ble_eq_true rfl)) dX4_readKnot_49 ⟨Nat.le_of_ble_eq_true rfl, Nat.le_of_ble_eq_true rfl⟩) hS (hD S) hA (fun x7 S6 H locs h hP hS => ?_)
        refine lv_if_eq (tgt := 79) hx hb dX4_readKnot_52 (by decide) (fun c8 => ?_) (fun c8 => ?_)
        · have h := h.1 c8
          obtain ⟨x9, ex9⟩ : ∃ y : Int32, y = xl4 + 1 := ⟨_, rfl⟩
          have h := h x9 ex9
          refine lv_iinc (v := x9) (lv' := [(4, .int x9), (0, .ref (a 3)), (1, .int xl1), (2, .int xl2), (3, .int xl3)]) hx hb dX4_readKnot_79 hl (k := 4) rfl (by rw [ex9]; rfl) (by decide) rfl (fun ls hl => ?_)
          refine lv_goto (tgt := 29) hx hb dX4_readKnot_82 (by decide) ?_
          exact (ih) xl1 xl2 xl3 x9 S6 _ _ _ h hP hS (lv_sub hl [1, 2, 3, 4, 0] rfl)
        · have h := h.2 c8
          refine lv_aload_n hx hb dX4_readKnot_55 rfl (lv_at hl 0 rfl) ?_
          refine lv_aload_n hx hb dX4_readKnot_56 rfl (lv_at hl 0 rfl) ?_
          refine va_get (D := D) (ci := 4) (v := .ref (a 2)) (C := RX4) (T := TX4) (N := 5) hx hb hts hinX4 hown hK hP 3 rfl rfl 0 (by decide) kf18 (fun _ h9 => h9) rfl dX4_readKnot_57 ?_
          refine va_getN (D := D) (ci := 0) (v := .ref (a 10)) (C := RX0) (T := TX0) (N := 7) hx hb hts hinX0 hown hK hP 2 rfl rfl 1 (by decide) (va_Nw.use rfl kf62) (fun _ h9 => h9) rfl dX4_readKnot_60 ?_
          refine lv_iload hx hb dX4_readKnot_63 (lv_at hl 4 rfl) ?_
          obtain ⟨b10, h⟩ := h
          refine va_iald hx hb hK hP 10 4 rfl rfl b10 dX4_readKnot_65 ?_
          refine lv_aload_n hx hb dX4_readKnot_66 rfl (lv_at hl 0 rfl) ?_
          refine va_get (D := D) (ci := 4) (v := .ref (a 2)) (C := RX4) (T := TX4) (N := 5) hx hb hts hinX4 hown hK hP 3 rfl rfl 0 (by decide) kf18 (fun _ h9 => h9) rfl dX4_readKnot_67 ?_
          refine lv_iload hx hb dX4_readKnot_70 (lv_at hl 4 rfl) ?_
          refine lv_iload_n hx hb dX4_readKnot_72 rfl (lv_at hl 1 rfl) ?_
          refine k_i (k_runVN cns_ok ⟨hx, hb, hml, hown, hts⟩ (tX0_eatenOn l D a c _ xl4 xl1 S6 _ h) ⟨va_cnB 2 hts gX4_readKnot_X0_eatenOn_n65 rfl rfl rfl kn65 kiX0 (by decide +kernel) ⟨Nat.le_of_ble_eq_true rfl, Nat.le_of_ble_eq_true rfl⟩, kI65, kS65⟩ (va_recv hK hP (ci := 0) (q0 := 2) rfl rfl) hP hK (hD S6) hN rfl rfl hl.1 rfl (lv_room (Nat.le_of_ble_eq_true rfl)) dX4_readKnot_73 ⟨Nat.le_of_ble_eq_true rfl, Nat.le_of_ble_eq_true rfl⟩) hS (hD S6) hA (fun x12 S11 H locs h hP hS => ?_)
          obtain ⟨k14, h⟩ := h
          refine k_v (k_runV cns_ok ⟨hx, hb, hml, hown, hts⟩ (tX4_readDay l D a c _ k14 (S6.2.2 4 xl4.toNatClampNeg) x12 S11 _ h) (cwV 2 hts gX4_readKnot_X4_readDay rfl rfl rfl (by decide +kernel) ⟨Nat.le_of_ble_eq_true rfl, Nat.le_of_ble_eq_true rfl⟩) (va_recv hK hP (ci := 4) (q0 := 3) rfl rfl) hP hK (hD S11) hN rfl rfl hl.1 rfl (lv_room (Nat.le_of_ble_eq_true rfl)) dX4_readKnot_76 ⟨Nat.le_of_ble_eq_true rfl, Nat.le_of_ble_eq_true rfl⟩) hS (hD S11) hA (fun S13 H locs h hP hS => ?_)
          obtain ⟨x15, ex15⟩ : ∃ y : Int32, y = xl4 + 1 := ⟨_, rfl⟩
          have h := h x15 ex15
          refine lv_iinc (v := x15) (lv' := [(4, .int x15), (0, .ref (a 3)), (1, .int xl1), (2, .int xl2), (3, .int xl3)]) hx hb dX4_readKnot_79 hl (k := 4) rfl (by rw [ex15]; rfl) (by decide) rfl (fun ls hl => ?_)
          refine lv_goto (tgt := 29) hx hb dX4_readKnot_82 (by decide) ?_
          exact (ih) xl1 xl2 xl3 x15 S13 _ _ _ h hP hS (lv_sub hl [1, 2, 3, 4, 0] rfl)
  unfold PX4_readKnot at h
  refine lv_aload_n hx hb dX4_readKnot_0 rfl (lv_at hl 0 rfl) ?_
  refine lv_iconst (v := 0) hx hb dX4_readKnot_1 (by decide) ?_
  refine va_put (D := D) (ci := 4) (v := .int 0) (ty := .int) (C := RX4) (T := TX4) (N := 5) hx hb hts hinX4 tyX4 tyX4_ok nmX4 hown hK hP (hD S) hS 3 rfl rfl 3 (by decide) kf34 (fun _ h9 => h9) rfl (by decide +kernel) rfl rfl (Nat.le_of_ble_eq_true rfl) dX4_readKnot_2 (fun H locs hP _ hS => ?_)
  obtain ⟨S1, eS1⟩ : ∃ z : St, z = sI S 3 0 := ⟨_, rfl⟩
  have hP : va_P D vwCl (cw a c S1) H := by rw [eS1]; exact hP
  have h := h S1 eS1
  refine lv_aload_n hx hb dX4_readKnot_5 rfl (lv_at hl 0 rfl) ?_
  refine lv_iconst (v := 0) hx hb dX4_readKnot_6 (by decide) ?_
  refine va_put (D := D) (ci := 4) (v := .int 0) (ty := .int) (C := RX4) (T := TX4) (N := 5) hx hb hts hinX4 tyX4 tyX4_ok nmX4 hown hK hP (hD S1) hS 3 rfl rfl 4 (by decide) kf44 (fun _ h9 => h9) rfl (by decide +kernel) rfl rfl (Nat.le_of_ble_eq_true rfl) dX4_readKnot_7 (fun H locs hP _ hS => ?_)
  obtain ⟨S2, eS2⟩ : ∃ z : St, z = sI S1 4 0 := ⟨_, rfl⟩
  have hP : va_P D vwCl (cw a c S2) H := by rw [eS2]; exact hP
  have h := h S2 eS2
  refine lv_aload_n hx hb dX4_readKnot_10 rfl (lv_at hl 0 rfl) ?_
  refine va_get (D := D) (ci := 4) (v := .ref (a 14)) (C := RX4) (T := TX4) (N := 5) hx hb hts hinX4 hown hK hP 3 rfl rfl 1 (by decide) kf9 (fun _ h9 => h9) rfl dX4_readKnot_11 ?_
  refine lv_iconst (v := 0) hx hb dX4_readKnot_14 (by decide) ?_
  refine k_fill cns_ok cw_F ⟨hx, hb, hml, hown, hts⟩ (va_cwS 2 hts gX4_readKnot_J7_fill_53178 rfl rfl rfl (by decide +kernel) ⟨Nat.le_of_ble_eq_true rfl, Nat.le_of_ble_eq_true rfl⟩) (u := fun f => sR S2 8 f) 14 8 rfl rfl (fun _ => rfl) hP hK (hD S2) hN hS hA hl.1 (by decide) (Nat.le_of_ble_eq_true rfl) dX4_readKnot_15 ⟨Nat.le_of_ble_eq_true rfl, Nat.le_of_ble_eq_true rfl⟩ (fun H locs hP hS => ?_)
  obtain ⟨S3, eS3⟩ : ∃ z : St, z = sR S2 8 (g_fill (S2.2.2 8) 8 0) := ⟨_, rfl⟩
  have hP : va_P D vwCl (cw a c S3) H := by rw [eS3]; exact hP
  have h := h S3 eS3
  refine lv_aload_n hx hb dX4_readKnot_18 rfl (lv_at hl 0 rfl) ?_
  refine va_get (D := D) (ci := 4) (v := .ref (a 15)) (C := RX4) (T := TX4) (N := 5) hx hb hts hinX4 hown hK hP 3 rfl rfl 2 (by decide) kf15 (fun _ h9 => h9) rfl dX4_readKnot_19 ?_
  refine lv_iconst (v := 0) hx hb dX4_readKnot_22 (by decide) ?_
  refine k_fill cns_ok cw_F ⟨hx, hb, hml, hown, hts⟩ (va_cwS 2 hts gX4_readKnot_J7_fill_53178 rfl rfl rfl (by decide +kernel) ⟨Nat.le_of_ble_eq_true rfl, Nat.le_of_ble_eq_true rfl⟩) (u := fun f => sR S3 9 f) 15 9 rfl rfl (fun _ => rfl) hP hK (hD S3) hN hS hA hl.1 (by decide) (Nat.le_of_ble_eq_true rfl) dX4_readKnot_23 ⟨Nat.le_of_ble_eq_true rfl, Nat.le_of_ble_eq_true rfl⟩ (fun H locs hP hS => ?_)
  obtain ⟨S4, eS4⟩ : ∃ z : St, z = sR S3 9 (g_fill (S3.2.2 9) 8 0) := ⟨_, rfl⟩
  have hP : va_P D vwCl (cw a c S4) H := by rw [eS4]; exact hP
  have h := h S4 eS4
  refine lv_iconst (v := 0) hx hb dX4_readKnot_26 (by decide) ?_
  refine lv_istore (lv' := [(4, .int 0), (0, .ref (a 3)), (1, .int p0), (2, .int p1), (3, .int p2)]) hx hb dX4_readKnot_27 hl (by decide) rfl (fun ls hl => ?_)
  exact (key n) p0 p1 p2 0 S4 _ _ _ h hP hS (lv_sub hl [1, 2, 3, 4, 0] rfl)
def BX4_markThatParts_0 (X : Nat → Int32 → Int32 → Int32 → Int32 → Int32 → Int64 → Int64 → St → Prop) (post : Int32 → St → Prop) (xl10 : Int32) (xl2 : Int32) (xl4 : Int32) (xl9 : Int32) (xs0 : Int32) (yl5 : Int64) (yl7 : Int64) (S : St) : Prop := ((8 ≤ xl9 → post xl4 S) ∧ (¬ 8 ≤ xl9 → (vp_in xl9 8 ∧ ∀ x5 : Int32, x5 = ((S.1 3) - (S.2.2 8 xl9.toNatClampNeg)) → ((((xl2 >>> (xl9 &&& 31)) &&& 1) = 0 → X 1 x5 xl2 xl4 xl9 0 yl5 yl7 S) ∧ (¬ ((xl2 >>> (xl9 &&& 31)) &&& 1) = 0 → X 1 x5 xl2 xl4 xl9 1 yl5 yl7 S)))))
def BX4_markThatParts_1 (X : Nat → Int32 → Int32 → Int32 → Int32 → Int32 → Int64 → Int64 → St → Prop) (post : Int32 → St → Prop) (xl10 : Int32) (xl2 : Int32) (xl4 : Int32) (xl9 : Int32) (xs0 : Int32) (yl5 : Int64) (yl7 : Int64) (S : St) : Prop := ((xs0 = 0 → (vp_in xl9 8 ∧ (((if xl10 < (S.2.2 8 xl9.toNatClampNeg) then xl10 else (S.2.2 8 xl9.toNatClampNeg)) < 2 → ∀ x11 : Int32, x11 = xl9 + 1 → X 0 0 xl2 xl4 x11 0 yl5 yl7 S) ∧ (¬ (if xl10 < (S.2.2 8 xl9.toNatClampNeg) then xl10 else (S.2.2 8 xl9.toNatClampNeg)) < 2 → (vp_in xl9 8 ∧ (vp_in xl9 8 ∧ (vp_in xl9 8 ∧ ∀ y15 : Int64, y15 = (((S.2.2 9 xl9.toNatClampNeg).toInt64 * xl10.toInt64) - (((S.1 4) - (S.2.2 9 xl9.toNatClampNeg)).toInt64 * (S.2.2 8 xl9.toNatClampNeg).toInt64)) → ∀ y16 : Int64, y16 = (y15 * y15) → (vp_in xl9 8 ∧ ∀ y18 : Int64, y18 = ((S.2.2 8 xl9.toNatClampNeg).toInt64 * xl10.toInt64) → (((lg_cmp (y16 * yl7) (yl5 * y18)) ≤ 0 → ∀ x20 : Int32, x20 = xl9 + 1 → X 0 0 xl2 xl4 x20 0 yl5 yl7 S) ∧ (¬ (lg_cmp (y16 * yl7) (yl5 * y18)) ≤ 0 → ∀ x21 : Int32, x21 = xl9 + 1 → X 0 0 xl2 xl9 x21 0 y16 y18 S)))))))))) ∧ (¬ xs0 = 0 → ∀ x8 : Int32, x8 = xl9 + 1 → X 0 0 xl2 xl4 x8 0 yl5 yl7 S))
def LX4_markThatParts (post : Int32 → St → Prop) : Nat → Nat → Int32 → Int32 → Int32 → Int32 → Int32 → Int64 → Int64 → St → Prop
  | 0, _, _, _, _, _, _, _, _, _ => False
  | n + 1, 0, xl10, xl2, xl4, xl9, xs0, yl5, yl7, S => BX4_markThatParts_0 (LX4_markThatParts post n) post xl10 xl2 xl4 xl9 xs0 yl5 yl7 S
  | n + 1, 1, xl10, xl2, xl4, xl9, xs0, yl5, yl7, S => BX4_markThatParts_1 (LX4_markThatParts post n) post xl10 xl2 xl4 xl9 xs0 yl5 yl7 S
  | _ + 1, _ + 2, _, _, _, _, _, _, _, _ => False
def PX4_markThatParts (n : Nat) (p0 : Int32) (p1 : Int32) (p2 : Int32) (S : St) (post : Int32 → St → Prop) : Prop := ∃ k : Nat, PX4_readKnot k p0 p1 p2 S (fun S1 => LX4_markThatParts post n 0 0 p1 (-1) 0 0 0 1 S1)
set_option maxHeartbeats 4000000 in
set_option maxRecDepth 100000 in
theorem tX4_markThatParts (l : Launch) (D : va_G) (a : Nat → Nat) (c : Nat → ClassId) (sz : Nat) (n : Nat) (p0 : Int32) (p1 : Int32) (p2 : Int32) (S : St) (post : Int32 → St → Prop) (h : PX4_markThatParts n p0 p1 p2 S post) : Met l yX4_markThatParts wsX4_markThatParts ({ frames := 2, cells := 0, slots := 0, locals := 48 }) (va_Pc [.ref (a 3), .int p0, .int p1, .int p2] (gP D (cw a c) (cty c) cns S sz)) (va_Qi post (gB D (cw a c)) (va_A (cw a c S) sz)) 0 0 (va_A (cw a c S) sz) := by
  refine Met.ofW (cc := cX4_markThatParts) (maxL := 18) (ret := (some .int)) (by decide) rfl ?_
  intro p e s m args below meth c9 s₁ B hml hv
  obtain ⟨rfl, hsz, hP, hK, hD0, hN⟩ := hv
  have hx := B.exec
  have hb := B.bytes
  have hr := B.returns
  have hts := atoms_spec (ws := wsX4_markThatParts) B.pre
  have hown : s.vm.findClass RX4 = some m.cls := findClass_of_methodNamed B.named
  have hlocks := B.notSynchronized
  subst hsz
  have hD1 := hD0.self (sz := s.heap.size)
  generalize hAe : va_A (cw a c S) s.heap.size = A at hD1 ⊢
  have hA : ∀ q : Nat, s.heap.size ≤ q → A q := fun q h => by rw [← hAe]; exact Or.inr h
  have hD : ∀ S2 : St, va_D A (cw a c S2) := gD cw_F hD1
  have hS : va_S A s.heap s.heap [] := va_S.rf
  have hinX4 : ∀ w ∈ wsX40, w ∈ wsX4_markThatParts := by decide +kernel
  have kMath := hts (.initialized "java/lang/Math") (by decide +kernel)
  have kdmin := hts (.code Lib.Math.min.name Lib.Math.min.code 2 (some .int)) (by decide +kernel)
  have kf15 := hts (.fieldLink RX4 15 "CanteenPlan$Tree" "sumWith" "[I") (by decide +kernel)
  have kf34 := hts (.fieldLink RX4 34 "CanteenPlan$Tree" "days" "I") (by decide +kernel)
  have kf44 := hts (.fieldLink RX4 44 "CanteenPlan$Tree" "sum" "I") (by decide +kernel)
  have kf9 := hts (.fieldLink RX4 9 "CanteenPlan$Tree" "daysWith" "[I") (by decide +kernel)
  have km38 := hts (.methodLink RX4 38 Lib.Math.min.name) (by decide +kernel)
  have ksmin := hts (.static Lib.Math.min.name) (by decide +kernel)
  have hl := lv_entry ([.ref (a 3), .int p0, .int p1, .int p2]) (n := 18) (Nat.le_of_ble_eq_true rfl)
  rw [lg_entry_eq]
  generalize (lg_sl ([.ref (a 3), .int p0, .int p1, .int p2]) ++ List.replicate (18 - (lg_sl ([.ref (a 3), .int p0, .int p1, .int p2])).length) Slot.unset).toArray = ls at hl ⊢
  have hl : lv_has ls 18 [(0, .ref (a 3)), (1, .int p0), (2, .int p1), (3, .int p2)] := hl
  have key : ∀ n : Nat, (∀ (xl2 : Int32) (xl4 : Int32) (yl5 : Int64) (yl7 : Int64) (xl9 : Int32) (S : St) (H : Heap) (locs : List Loc) (ls : Array Slot), LX4_markThatParts post n 0 0 xl2 xl4 xl9 0 yl5 yl7 S → va_P D vwCl (cw a c S) H → va_S A s.heap H locs → lv_has ls 18 [(0, .ref (a 3)), (2, .int xl2), (4, .int xl4), (5, .long yl5), (7, .long yl7), (9, .int xl9)] → W p l e ((headSpec wsX4_markThatParts ({ frames := 2, cells := 0, slots := 0, locals := 48 })).room) s m ([.ref (a 3), .int p0, .int p1, .int p2]).toArray below meth c9 H locs 0 0 (MQ below (va_Qi post (gB D (cw a c)) A) ([.ref (a 3), .int p0, .int p1, .int p2]).toArray s 0 0 A) (F0 m 19 ls [])) ∧ (∀ (xl2 : Int32) (xl4 : Int32) (yl5 : Int64) (yl7 : Int64) (xl9 : Int32) (xl10 : Int32) (xs0 : Int32) (S : St) (H : Heap) (locs : List Loc) (ls : Array Slot), LX4_markThatParts post n 1 xl10 xl2 xl4 xl9 xs0 yl5 yl7 S → va_P D vwCl (cw a c S) H → va_S A s.heap H locs → lv_has ls 18 [(0, .ref (a 3)), (2, .int xl2), (4, .int xl4), (5, .long yl5), (7, .long yl7), (9, .int xl9), (10, .int xl10)] → W p l e ((headSpec wsX4_markThatParts ({ frames := 2, cells := 0, slots := 0, locals := 48 })).room) s m ([.ref (a 3), .int p0, .int p1, .int p2]).toArray below meth c9 H locs 0 0 (MQ below (va_Qi post (gB D (cw a c)) A) ([.ref (a 3), .int p0, .int p1, .int p2]).toArray s 0 0 A) (F0 m 54 ls [.int xs0])) := by
    intro n
    induction n with
    | zero => exact ⟨fun xl2 xl4 yl5 yl7 xl9 S H locs ls h => h.elim, fun xl2 xl4 yl5 yl7 xl9 xl10 xs0 S H locs ls h => h.elim⟩
    | succ n ih =>
      refine ⟨?_, ?_⟩
      · intro xl2 xl4 yl5 yl7 xl9 S H locs ls h hP hS hl
        have h : BX4_markThatParts_0 (LX4_markThatParts post n) post 0 xl2 xl4 xl9 0 yl5 yl7 S := h
        unfold BX4_markThatParts_0 at h
        refine lv_iload hx hb dX4_markThatParts_19 (lv_at hl 5 rfl) ?_
        refine lv_bipush (v := 8) hx hb dX4_markThatParts_21 (by decide) ?_
        refine lv_icmp_ge (tgt := 167) hx hb dX4_markThatParts_23 (by decide) (fun c3 => ?_) (fun c3 => ?_)
        · have h := h.1 c3
          refine lv_iload hx hb dX4_markThatParts_167 (lv_at hl 2 rfl) ?_
          exact g_reti hx hb hr hlocks h hP hS dX4_markThatParts_169
        · have h := h.2 c3
          refine lv_aload_n hx hb dX4_markThatParts_26 rfl (lv_at hl 0 rfl) ?_
          refine va_get (D := D) (ci := 4) (v := .int (S.1 3)) (C := RX4) (T := TX4) (N := 5) hx hb hts hinX4 hown hK hP 3 rfl rfl 3 (by decide) kf34 (fun _ h9 => h9) rfl dX4_markThatParts_27 ?_
          refine lv_aload_n hx hb dX4_markThatParts_30 rfl (lv_at hl 0 rfl) ?_
          refine va_get (D := D) (ci := 4) (v := .ref (a 14)) (C := RX4) (T := TX4) (N := 5) hx hb hts hinX4 hown hK hP 3 rfl rfl 1 (by decide) kf9 (fun _ h9 => h9) rfl dX4_markThatParts_31 ?_
          refine lv_iload hx hb dX4_markThatParts_34 (lv_at hl 5 rfl) ?_
          obtain ⟨b4, h⟩ := h
          refine va_iald hx hb hK hP 14 8 rfl rfl b4 dX4_markThatParts_36 ?_
          refine lv_isub hx hb dX4_markThatParts_37 ?_
          refine lv_topi (fun x5 ex5 => ?_)
          have h := h x5 ex5
          refine lv_istore (lv' := [(10, .int x5), (0, .ref (a 3)), (2, .int xl2), (4, .int xl4), (5, .long yl5), (7, .long yl7), (9, .int xl9)]) hx hb dX4_markThatParts_38 hl (by decide) rfl (fun ls hl => ?_)
          refine lv_iload_n hx hb dX4_markThatParts_40 rfl (lv_at hl 2 rfl) ?_
          refine lv_iload hx hb dX4_markThatParts_41 (lv_at hl 6 rfl) ?_
          refine lv_ishr hx hb dX4_markThatParts_43 ?_
          refine lv_iconst (v := 1) hx hb dX4_markThatParts_44 (by decide) ?_
          refine lv_iand hx hb dX4_markThatParts_45 ?_
          refine lv_if_eq (tgt := 53) hx hb dX4_markThatParts_46 (by decide) (fun c6 => ?_) (fun c6 => ?_)
          · have h := h.1 c6
            refine lv_iconst (v := 0) hx hb dX4_markThatParts_53 (by decide) ?_
            exact (ih).2 xl2 xl4 yl5 yl7 xl9 x5 0 S _ _ _ h hP hS (lv_sub hl [1, 2, 3, 4, 5, 6, 0] rfl)
          · have h := h.2 c6
            refine lv_iconst (v := 1) hx hb dX4_markThatParts_49 (by decide) ?_
            refine lv_goto (tgt := 54) hx hb dX4_markThatParts_50 (by decide) ?_
            exact (ih).2 xl2 xl4 yl5 yl7 xl9 x5 1 S _ _ _ h hP hS (lv_sub hl [1, 2, 3, 4, 5, 6, 0] rfl)
      · intro xl2 xl4 yl5 yl7 xl9 xl10 xs0 S H locs ls h hP hS hl
        have h : BX4_markThatParts_1 (LX4_markThatParts post n) post xl10 xl2 xl4 xl9 xs0 yl5 yl7 S := h
        unfold BX4_markThatParts_1 at h
        refine lv_istore (lv' := [(11, .int xs0), (0, .ref (a 3)), (2, .int xl2), (4, .int xl4), (5, .long yl5), (7, .long yl7), (9, .int xl9), (10, .int xl10)]) hx hb dX4_markThatParts_54 hl (by decide) rfl (fun ls hl => ?_)
        refine lv_iload hx hb dX4_markThatParts_56 (lv_at hl 0 rfl) ?_
        refine lv_if_ne (tgt := 161) hx hb dX4_markThatParts_58 (by decide) (fun c7 => ?_) (fun c7 => ?_)
        · have h := h.2 c7
          obtain ⟨x8, ex8⟩ : ∃ y : Int32, y = xl9 + 1 := ⟨_, rfl⟩
          have h := h x8 ex8
          refine lv_iinc (v := x8) (lv' := [(9, .int x8), (11, .int xs0), (0, .ref (a 3)), (2, .int xl2), (4, .int xl4), (5, .long yl5), (7, .long yl7), (10, .int xl10)]) hx hb dX4_markThatParts_161 hl (k := 6) rfl (by rw [ex8]; rfl) (by decide) rfl (fun ls hl => ?_)
          refine lv_goto (tgt := 19) hx hb dX4_markThatParts_164 (by decide) ?_
          exact (ih).1 xl2 xl4 yl5 yl7 x8 S _ _ _ h hP hS (lv_sub hl [2, 3, 4, 5, 6, 0] rfl)
        · have h := h.1 c7
          refine lv_aload_n hx hb dX4_markThatParts_61 rfl (lv_at hl 1 rfl) ?_
          refine va_get (D := D) (ci := 4) (v := .ref (a 14)) (C := RX4) (T := TX4) (N := 5) hx hb hts hinX4 hown hK hP 3 rfl rfl 1 (by decide) kf9 (fun _ h9 => h9) rfl dX4_markThatParts_62 ?_
          refine lv_iload hx hb dX4_markThatParts_65 (lv_at hl 6 rfl) ?_
          obtain ⟨b9, h⟩ := h
          refine va_iald hx hb hK hP 14 8 rfl rfl b9 dX4_markThatParts_67 ?_
          refine lv_iload hx hb dX4_markThatParts_68 (lv_at hl 7 rfl) ?_
          refine va_mmin hx hb (hml.trans hl.1.symm) hown km38 ksmin kMath kdmin (Nat.le_of_ble_eq_true rfl) (Nat.le_of_ble_eq_true rfl) (Nat.le_of_ble_eq_true rfl) (Nat.le_of_ble_eq_true rfl) dX4_markThatParts_70 ?_
          refine lv_iconst (v := 2) hx hb dX4_markThatParts_73 (by decide) ?_
          refine lv_icmp_lt (tgt := 161) hx hb dX4_markThatParts_74 (by decide) (fun c10 => ?_) (fun c10 => ?_)
          · have h := h.1 c10
            obtain ⟨x11, ex11⟩ : ∃ y : Int32, y = xl9 + 1 := ⟨_, rfl⟩
            have h := h x11 ex11
            refine lv_iinc (v := x11) (lv' := [(9, .int x11), (11, .int xs0), (0, .ref (a 3)), (2, .int xl2), (4, .int xl4), (5, .long yl5), (7, .long yl7), (10, .int xl10)]) hx hb dX4_markThatParts_161 hl (k := 6) rfl (by rw [ex11]; rfl) (by decide) rfl (fun ls hl => ?_)
            refine lv_goto (tgt := 19) hx hb dX4_markThatParts_164 (by decide) ?_
            exact (ih).1 xl2 xl4 yl5 yl7 x11 S _ _ _ h hP hS (lv_sub hl [2, 3, 4, 5, 6, 0] rfl)
          · have h := h.2 c10
            refine lv_aload_n hx hb dX4_markThatParts_77 rfl (lv_at hl 1 rfl) ?_
            refine va_get (D := D) (ci := 4) (v := .ref (a 15)) (C := RX4) (T := TX4) (N := 5) hx hb hts hinX4 hown hK hP 3 rfl rfl 2 (by decide) kf15 (fun _ h9 => h9) rfl dX4_markThatParts_78 ?_
            refine lv_iload hx hb dX4_markThatParts_81 (lv_at hl 6 rfl) ?_
            obtain ⟨b12, h⟩ := h
            refine va_iald hx hb hK hP 15 9 rfl rfl b12 dX4_markThatParts_83 ?_
            refine lv_i2l hx hb dX4_markThatParts_84 rfl ?_
            refine lv_iload hx hb dX4_markThatParts_85 (lv_at hl 7 rfl) ?_
            refine lv_i2l hx hb dX4_markThatParts_87 rfl ?_
            refine lv_lmul hx hb dX4_markThatParts_88 ?_
            refine lv_aload_n hx hb dX4_markThatParts_89 rfl (lv_at hl 1 rfl) ?_
            refine va_get (D := D) (ci := 4) (v := .int (S.1 4)) (C := RX4) (T := TX4) (N := 5) hx hb hts hinX4 hown hK hP 3 rfl rfl 4 (by decide) kf44 (fun _ h9 => h9) rfl dX4_markThatParts_90 ?_
            refine lv_aload_n hx hb dX4_markThatParts_93 rfl (lv_at hl 1 rfl) ?_
            refine va_get (D := D) (ci := 4) (v := .ref (a 15)) (C := RX4) (T := TX4) (N := 5) hx hb hts hinX4 hown hK hP 3 rfl rfl 2 (by decide) kf15 (fun _ h9 => h9) rfl dX4_markThatParts_94 ?_
            refine lv_iload hx hb dX4_markThatParts_97 (lv_at hl 6 rfl) ?_
            obtain ⟨b13, h⟩ := h
            refine va_iald hx hb hK hP 15 9 rfl rfl b13 dX4_markThatParts_99 ?_
            refine lv_isub hx hb dX4_markThatParts_100 ?_
            refine lv_i2l hx hb dX4_markThatParts_101 rfl ?_
            refine lv_aload_n hx hb dX4_markThatParts_102 rfl (lv_at hl 1 rfl) ?_
            refine va_get (D := D) (ci := 4) (v := .ref (a 14)) (C := RX4) (T := TX4) (N := 5) hx hb hts hinX4 hown hK hP 3 rfl rfl 1 (by decide) kf9 (fun _ h9 => h9) rfl dX4_markThatParts_103 ?_
            refine lv_iload hx hb dX4_markThatParts_106 (lv_at hl 6 rfl) ?_
            obtain ⟨b14, h⟩ := h
            refine va_iald hx hb hK hP 14 8 rfl rfl b14 dX4_markThatParts_108 ?_
            refine lv_i2l hx hb dX4_markThatParts_109 rfl ?_
            refine lv_lmul hx hb dX4_markThatParts_110 ?_
            refine lv_lsub hx hb dX4_markThatParts_111 ?_
            refine lv_topl (fun y15 ey15 => ?_)
            have h := h y15 ey15
            refine lv_lstore (lv' := [(12, .long y15), (11, .int xs0), (0, .ref (a 3)), (2, .int xl2), (4, .int xl4), (5, .long yl5), (7, .long yl7), (9, .int xl9), (10, .int xl10)]) hx hb dX4_markThatParts_112 hl (by decide) rfl (fun ls hl => ?_)
            refine lv_lload hx hb dX4_markThatParts_114 (lv_at hl 0 rfl) ?_
            refine lv_lload hx hb dX4_markThatParts_116 (lv_at hl 0 rfl) ?_
            refine lv_lmul hx hb dX4_markThatParts_118 ?_
            refine lv_topl (fun y16 ey16 => ?_)
            have h := h y16 ey16
            refine lv_lstore (lv' := [(14, .long y16), (12, .long y15), (11, .int xs0), (0, .ref (a 3)), (2, .int xl2), (4, .int xl4), (5, .long yl5), (7, .long yl7), (9, .int xl9), (10, .int xl10)]) hx hb dX4_markThatParts_119 hl (by decide) rfl (fun ls hl => ?_)
            refine lv_aload_n hx hb dX4_markThatParts_121 rfl (lv_at hl 3 rfl) ?_
            refine va_get (D := D) (ci := 4) (v := .ref (a 14)) (C := RX4) (T := TX4) (N := 5) hx hb hts hinX4 hown hK hP 3 rfl rfl 1 (by decide) kf9 (fun _ h9 => h9) rfl dX4_markThatParts_122 ?_
            refine lv_iload hx hb dX4_markThatParts_125 (lv_at hl 8 rfl) ?_
            obtain ⟨b17, h⟩ := h
            refine va_iald hx hb hK hP 14 8 rfl rfl b17 dX4_markThatParts_127 ?_
            refine lv_i2l hx hb dX4_markThatParts_128 rfl ?_
            refine lv_iload hx hb dX4_markThatParts_129 (lv_at hl 9 rfl) ?_
            refine lv_i2l hx hb dX4_markThatParts_131 rfl ?_
            refine lv_lmul hx hb dX4_markThatParts_132 ?_
            refine lv_topl (fun y18 ey18 => ?_)
            have h := h y18 ey18
            refine lv_lstore (lv' := [(16, .long y18), (14, .long y16), (12, .long y15), (11, .int xs0), (0, .ref (a 3)), (2, .int xl2), (4, .int xl4), (5, .long yl5), (7, .long yl7), (9, .int xl9), (10, .int xl10)]) hx hb dX4_markThatParts_133 hl (by decide) rfl (fun ls hl => ?_)
            refine lv_lload hx hb dX4_markThatParts_135 (lv_at hl 1 rfl) ?_
            refine lv_lload hx hb dX4_markThatParts_137 (lv_at hl 8 rfl) ?_
            refine lv_lmul hx hb dX4_markThatParts_139 ?_
            refine lv_lload hx hb dX4_markThatParts_140 (lv_at hl 7 rfl) ?_
            refine lv_lload hx hb dX4_markThatParts_142 (lv_at hl 0 rfl) ?_
            refine lv_lmul hx hb dX4_markThatParts_144 ?_
            refine W.lcmp hx hb dX4_markThatParts_145 ?_
            refine lv_if_le (tgt := 161) hx hb dX4_markThatParts_146 (by decide) (fun c19 => ?_) (fun c19 => ?_)
            · have h := h.1 c19
              obtain ⟨x20, ex20⟩ : ∃ y : Int32, y = xl9 + 1 := ⟨_, rfl⟩
              have h := h x20 ex20
              refine lv_iinc (v := x20) (lv' := [(9, .int x20), (16, .long y18), (14, .long y16), (12, .long y15), (11, .int xs0), (0, .ref (a 3)), (2, .int xl2), (4, .int xl4), (5, .long yl5), (7, .long yl7), (10, .int xl10)]) hx hb dX4_markThatParts_161 hl (k := 9) rfl (by rw [ex20]; rfl) (by decide) rfl (fun ls hl => ?_)
              refine lv_goto (tgt := 19) hx hb dX4_markThatParts_164 (by decide) ?_
              exact (ih).1 xl2 xl4 yl5 yl7 x20 S _ _ _ h hP hS (lv_sub hl [5, 6, 7, 8, 9, 0] rfl)
            · have h := h.2 c19
              refine lv_iload hx hb dX4_markThatParts_149 (lv_at hl 9 rfl) ?_
              refine lv_istore (lv' := [(4, .int xl9), (16, .long y18), (14, .long y16), (12, .long y15), (11, .int xs0), (0, .ref (a 3)), (2, .int xl2), (5, .long yl5), (7, .long yl7), (9, .int xl9), (10, .int xl10)]) hx hb dX4_markThatParts_151 hl (by decide) rfl (fun ls hl => ?_)
              refine lv_lload hx hb dX4_markThatParts_153 (lv_at hl 2 rfl) ?_
              refine lv_lstore (lv' := [(5, .long y16), (4, .int xl9), (16, .long y18), (14, .long y16), (12, .long y15), (11, .int xs0), (0, .ref (a 3)), (2, .int xl2), (7, .long yl7), (9, .int xl9), (10, .int xl10)]) hx hb dX4_markThatParts_155 hl (by decide) rfl (fun ls hl => ?_)
              refine lv_lload hx hb dX4_markThatParts_157 (lv_at hl 2 rfl) ?_
              refine lv_lstore (lv' := [(7, .long y18), (5, .long y16), (4, .int xl9), (16, .long y18), (14, .long y16), (12, .long y15), (11, .int xs0), (0, .ref (a 3)), (2, .int xl2), (9, .int xl9), (10, .int xl10)]) hx hb dX4_markThatParts_159 hl (by decide) rfl (fun ls hl => ?_)
              obtain ⟨x21, ex21⟩ : ∃ y : Int32, y = xl9 + 1 := ⟨_, rfl⟩
              have h := h x21 ex21
              refine lv_iinc (v := x21) (lv' := [(9, .int x21), (7, .long y18), (5, .long y16), (4, .int xl9), (16, .long y18), (14, .long y16), (12, .long y15), (11, .int xs0), (0, .ref (a 3)), (2, .int xl2), (10, .int xl10)]) hx hb dX4_markThatParts_161 hl (k := 9) rfl (by rw [ex21]; rfl) (by decide) rfl (fun ls hl => ?_)
              refine lv_goto (tgt := 19) hx hb dX4_markThatParts_164 (by decide) ?_
              exact (ih).1 xl2 xl9 y16 y18 x21 S _ _ _ h hP hS (lv_sub hl [8, 9, 3, 2, 1, 0] rfl)
  unfold PX4_markThatParts at h
  refine lv_aload_n hx hb dX4_markThatParts_0 rfl (lv_at hl 0 rfl) ?_
  refine lv_iload_n hx hb dX4_markThatParts_1 rfl (lv_at hl 1 rfl) ?_
  refine lv_iload_n hx hb dX4_markThatParts_2 rfl (lv_at hl 2 rfl) ?_
  refine lv_iload_n hx hb dX4_markThatParts_3 rfl (lv_at hl 3 rfl) ?_
  obtain ⟨k2, h⟩ := h
  refine k_v (k_runV cns_ok ⟨hx, hb, hml, hown, hts⟩ (tX4_readKnot l D a c _ k2 p0 p1 p2 S _ h) (cwV 3 hts gX4_markThatParts_X4_readKnot rfl rfl rfl (by decide +kernel) ⟨Nat.le_of_ble_eq_true rfl, Nat.le_of_ble_eq_true rfl⟩) (va_recv hK hP (ci := 4) (q0 := 3) rfl rfl) hP hK (hD S) hN rfl rfl hl.1 rfl (lv_room (Nat.le_of_ble_eq_true rfl)) dX4_markThatParts_4 ⟨Nat.le_of_ble_eq_true rfl, Nat.le_of_ble_eq_true rfl⟩) hS (hD S) hA (fun S1 H locs h hP hS => ?_)
  refine lv_iconst (v := (-1)) hx hb dX4_markThatParts_7 (by decide) ?_
  refine lv_istore (lv' := [(4, .int (-1)), (0, .ref (a 3)), (1, .int p0), (2, .int p1), (3, .int p2)]) hx hb dX4_markThatParts_8 hl (by decide) rfl (fun ls hl => ?_)
  refine lv_lconst (v := 0) hx hb dX4_markThatParts_10 (by decide) ?_
  refine lv_lstore (lv' := [(5, .long 0), (4, .int (-1)), (0, .ref (a 3)), (1, .int p0), (2, .int p1), (3, .int p2)]) hx hb dX4_markThatParts_11 hl (by decide) rfl (fun ls hl => ?_)
  refine lv_lconst (v := 1) hx hb dX4_markThatParts_13 (by decide) ?_
  refine lv_lstore (lv' := [(7, .long 1), (5, .long 0), (4, .int (-1)), (0, .ref (a 3)), (1, .int p0), (2, .int p1), (3, .int p2)]) hx hb dX4_markThatParts_14 hl (by decide) rfl (fun ls hl => ?_)
  refine lv_iconst (v := 0) hx hb dX4_markThatParts_16 (by decide) ?_
  refine lv_istore (lv' := [(9, .int 0), (7, .long 1), (5, .long 0), (4, .int (-1)), (0, .ref (a 3)), (1, .int p0), (2, .int p1), (3, .int p2)]) hx hb dX4_markThatParts_17 hl (by decide) rfl (fun ls hl => ?_)
  exact (key n).1 p1 (-1) 0 1 0 S1 _ _ _ h hP hS (lv_sub hl [4, 6, 3, 2, 1, 0] rfl)
def BX4_askedOnTheWay_0 (X : Int32 → Int32 → Int32 → Int32 → St → Prop) (post : Int32 → St → Prop) (xl1 : Int32) (xl2 : Int32) (xl3 : Int32) (xl4 : Int32) (S : St) : Prop := ((4 ≤ xl4 → post xl3 S) ∧ (¬ 4 ≤ xl4 → ∃ k : Nat, PX4_markThatParts k xl1 xl3 xl2 S (fun x3 S2 => ((x3 = (-1) → post xl3 S2) ∧ (¬ x3 = (-1) → ∀ x6 : Int32, x6 = (xl3 ||| ((1 : Int32) <<< (x3 &&& 31))) → ∀ x7 : Int32, x7 = xl4 + 1 → X xl1 xl2 x6 x7 S2)))))
def LX4_askedOnTheWay (post : Int32 → St → Prop) : Nat → Int32 → Int32 → Int32 → Int32 → St → Prop
  | 0, _, _, _, _, _ => False
  | n + 1, xl1, xl2, xl3, xl4, S => BX4_askedOnTheWay_0 (LX4_askedOnTheWay post n) post xl1 xl2 xl3 xl4 S
def PX4_askedOnTheWay (n : Nat) (p0 : Int32) (p1 : Int32) (S : St) (post : Int32 → St → Prop) : Prop := LX4_askedOnTheWay post n p0 p1 0 0 S
set_option maxHeartbeats 4000000 in
set_option maxRecDepth 100000 in
theorem tX4_askedOnTheWay (l : Launch) (D : va_G) (a : Nat → Nat) (c : Nat → ClassId) (sz : Nat) (n : Nat) (p0 : Int32) (p1 : Int32) (S : St) (post : Int32 → St → Prop) (h : PX4_askedOnTheWay n p0 p1 S post) : Met l yX4_askedOnTheWay wsX4_askedOnTheWay ({ frames := 3, cells := 0, slots := 0, locals := 85 }) (va_Pc [.ref (a 3), .int p0, .int p1] (gP D (cw a c) (cty c) cns S sz)) (va_Qi post (gB D (cw a c)) (va_A (cw a c S) sz)) 0 0 (va_A (cw a c S) sz) := by
  refine Met.ofW (cc := cX4_askedOnTheWay) (maxL := 6) (ret := (some .int)) (by decide) rfl ?_
  intro p e s m args below meth c9 s₁ B hml hv
  obtain ⟨rfl, hsz, hP, hK, hD0, hN⟩ := hv
  have hx := B.exec
  have hb := B.bytes
  have hr := B.returns
  have hts := atoms_spec (ws := wsX4_askedOnTheWay) B.pre
  have hown : s.vm.findClass RX4 = some m.cls := findClass_of_methodNamed B.named
  have hlocks := B.notSynchronized
  subst hsz
  have hD1 := hD0.self (sz := s.heap.size)
  generalize hAe : va_A (cw a c S) s.heap.size = A at hD1 ⊢
  have hA : ∀ q : Nat, s.heap.size ≤ q → A q := fun q h => by rw [← hAe]; exact Or.inr h
  have hD : ∀ S2 : St, va_D A (cw a c S2) := gD cw_F hD1
  have hS : va_S A s.heap s.heap [] := va_S.rf
  have hl := lv_entry ([.ref (a 3), .int p0, .int p1]) (n := 6) (Nat.le_of_ble_eq_true rfl)
  rw [lg_entry_eq]
  generalize (lg_sl ([.ref (a 3), .int p0, .int p1]) ++ List.replicate (6 - (lg_sl ([.ref (a 3), .int p0, .int p1])).length) Slot.unset).toArray = ls at hl ⊢
  have hl : lv_has ls 6 [(0, .ref (a 3)), (1, .int p0), (2, .int p1)] := hl
  have key : ∀ n : Nat, (∀ (xl1 : Int32) (xl2 : Int32) (xl3 : Int32) (xl4 : Int32) (S : St) (H : Heap) (locs : List Loc) (ls : Array Slot), LX4_askedOnTheWay post n xl1 xl2 xl3 xl4 S → va_P D vwCl (cw a c S) H → va_S A s.heap H locs → lv_has ls 6 [(0, .ref (a 3)), (1, .int xl1), (2, .int xl2), (3, .int xl3), (4, .int xl4)] → W p l e ((headSpec wsX4_askedOnTheWay ({ frames := 3, cells := 0, slots := 0, locals := 85 })).room) s m ([.ref (a 3), .int p0, .int p1]).toArray below meth c9 H locs 0 0 (MQ below (va_Qi post (gB D (cw a c)) A) ([.ref (a 3), .int p0, .int p1]).toArray s 0 0 A) (F0 m 5 ls [])) := by
    intro n
    induction n with
    | zero => exact fun xl1 xl2 xl3 xl4 S H locs ls h => h.elim
    | succ n ih =>
      intro xl1 xl2 xl3 xl4 S H locs ls h hP hS hl
      have h : BX4_askedOnTheWay_0 (LX4_askedOnTheWay post n) post xl1 xl2 xl3 xl4 S := h
      unfold BX4_askedOnTheWay_0 at h
      refine lv_iload hx hb dX4_askedOnTheWay_5 (lv_at hl 4 rfl) ?_
      refine lv_iconst (v := 4) hx hb dX4_askedOnTheWay_7 (by decide) ?_
      refine lv_icmp_ge (tgt := 41) hx hb dX4_askedOnTheWay_8 (by decide) (fun c1 => ?_) (fun c1 => ?_)
      · have h := h.1 c1
        refine lv_iload_n hx hb dX4_askedOnTheWay_41 rfl (lv_at hl 3 rfl) ?_
        exact g_reti hx hb hr hlocks h hP hS dX4_askedOnTheWay_42
      · have h := h.2 c1
        refine lv_aload_n hx hb dX4_askedOnTheWay_11 rfl (lv_at hl 0 rfl) ?_
        refine lv_iload_n hx hb dX4_askedOnTheWay_12 rfl (lv_at hl 1 rfl) ?_
        refine lv_iload_n hx hb dX4_askedOnTheWay_13 rfl (lv_at hl 3 rfl) ?_
        refine lv_iload_n hx hb dX4_askedOnTheWay_14 rfl (lv_at hl 2 rfl) ?_
        obtain ⟨k4, h⟩ := h
        refine k_i (k_runV cns_ok ⟨hx, hb, hml, hown, hts⟩ (tX4_markThatParts l D a c _ k4 xl1 xl3 xl2 S _ h) (cwV 3 hts gX4_askedOnTheWay_X4_markThatParts rfl rfl rfl (by decide +kernel) ⟨Nat.le_of_ble_eq_true rfl, Nat.le_of_ble_eq_true rfl⟩) (va_recv hK hP (ci := 4) (q0 := 3) rfl rfl) hP hK (hD S) hN rfl rfl hl.1 rfl (lv_room (Nat.le_of_ble_eq_true rfl)) dX4_askedOnTheWay_15 ⟨Nat.le_of_ble_eq_true rfl, Nat.le_of_ble_eq_true rfl⟩) hS (hD S) hA (fun x3 S2 H locs h hP hS => ?_)
        refine lv_istore (lv' := [(5, .int x3), (0, .ref (a 3)), (1, .int xl1), (2, .int xl2), (3, .int xl3), (4, .int xl4)]) hx hb dX4_askedOnTheWay_18 hl (by decide) rfl (fun ls hl => ?_)
        refine lv_iload hx hb dX4_askedOnTheWay_20 (lv_at hl 0 rfl) ?_
        refine lv_iconst (v := (-1)) hx hb dX4_askedOnTheWay_22 (by decide) ?_
        refine lv_icmp_ne (tgt := 28) hx hb dX4_askedOnTheWay_23 (by decide) (fun c5 => ?_) (fun c5 => ?_)
        · have h := h.2 c5
          refine lv_iload_n hx hb dX4_askedOnTheWay_28 rfl (lv_at hl 4 rfl) ?_
          refine lv_iconst (v := 1) hx hb dX4_askedOnTheWay_29 (by decide) ?_
          refine lv_iload hx hb dX4_askedOnTheWay_30 (lv_at hl 0 rfl) ?_
          refine lv_ishl hx hb dX4_askedOnTheWay_32 ?_
          refine lv_ior hx hb dX4_askedOnTheWay_33 ?_
          refine lv_topi (fun x6 ex6 => ?_)
          have h := h x6 ex6
          refine lv_istore_n (lv' := [(3, .int x6), (5, .int x3), (0, .ref (a 3)), (1, .int xl1), (2, .int xl2), (4, .int xl4)]) hx hb dX4_askedOnTheWay_34 rfl hl (by decide) rfl (fun ls hl => ?_)
          obtain ⟨x7, ex7⟩ : ∃ y : Int32, y = xl4 + 1 := ⟨_, rfl⟩
          have h := h x7 ex7
          refine lv_iinc (v := x7) (lv' := [(4, .int x7), (3, .int x6), (5, .int x3), (0, .ref (a 3)), (1, .int xl1), (2, .int xl2)]) hx hb dX4_askedOnTheWay_35 hl (k := 5) rfl (by rw [ex7]; rfl) (by decide) rfl (fun ls hl => ?_)
          refine lv_goto (tgt := 5) hx hb dX4_askedOnTheWay_38 (by decide) ?_
          exact (ih) xl1 xl2 x6 x7 S2 _ _ _ h hP hS (lv_sub hl [3, 4, 5, 1, 0] rfl)
        · have h := h.1 c5
          refine lv_iload_n hx hb dX4_askedOnTheWay_26 rfl (lv_at hl 4 rfl) ?_
          exact g_reti hx hb hr hlocks h hP hS dX4_askedOnTheWay_27
  unfold PX4_askedOnTheWay at h
  refine lv_iconst (v := 0) hx hb dX4_askedOnTheWay_0 (by decide) ?_
  refine lv_istore_n (lv' := [(3, .int 0), (0, .ref (a 3)), (1, .int p0), (2, .int p1)]) hx hb dX4_askedOnTheWay_1 rfl hl (by decide) rfl (fun ls hl => ?_)
  refine lv_iconst (v := 0) hx hb dX4_askedOnTheWay_2 (by decide) ?_
  refine lv_istore (lv' := [(4, .int 0), (3, .int 0), (0, .ref (a 3)), (1, .int p0), (2, .int p1)]) hx hb dX4_askedOnTheWay_3 hl (by decide) rfl (fun ls hl => ?_)
  exact (key n) p0 p1 0 0 S _ _ _ h hP hS (lv_sub hl [2, 3, 4, 1, 0] rfl)
def BX4_markOnTheWay_0 (X : Int32 → Int32 → Int32 → Int32 → Int32 → St → Prop) (post : Int32 → St → Prop) (xl1 : Int32) (xl2 : Int32) (xl3 : Int32) (xl4 : Int32) (xl5 : Int32) (S : St) : Prop := ((xl3 ≤ xl5 → ∃ k : Nat, PX4_markThatParts k xl1 xl4 xl2 S (fun x5 S4 => post x5 S4)) ∧ (¬ xl3 ≤ xl5 → ∃ k : Nat, PX4_markThatParts k xl1 xl4 xl2 S (fun x8 S7 => ((x8 = (-1) → post (-1) S7) ∧ (¬ x8 = (-1) → ∀ x11 : Int32, x11 = (xl4 ||| ((1 : Int32) <<< (x8 &&& 31))) → ∀ x12 : Int32, x12 = xl5 + 1 → X xl1 xl2 xl3 x11 x12 S7)))))
def LX4_markOnTheWay (post : Int32 → St → Prop) : Nat → Int32 → Int32 → Int32 → Int32 → Int32 → St → Prop
  | 0, _, _, _, _, _, _ => False
  | n + 1, xl1, xl2, xl3, xl4, xl5, S => BX4_markOnTheWay_0 (LX4_markOnTheWay post n) post xl1 xl2 xl3 xl4 xl5 S
def PX4_markOnTheWay (n : Nat) (p0 : Int32) (p1 : Int32) (p2 : Int32) (S : St) (post : Int32 → St → Prop) : Prop := ((p2 < 0 → post (-1) S) ∧ (¬ p2 < 0 → ((p2 < 4 → LX4_markOnTheWay post n p0 p1 p2 0 0 S) ∧ (¬ p2 < 4 → post (-1) S))))
set_option maxHeartbeats 4000000 in
set_option maxRecDepth 100000 in
theorem tX4_markOnTheWay (l : Launch) (D : va_G) (a : Nat → Nat) (c : Nat → ClassId) (sz : Nat) (n : Nat) (p0 : Int32) (p1 : Int32) (p2 : Int32) (S : St) (post : Int32 → St → Prop) (h : PX4_markOnTheWay n p0 p1 p2 S post) : Met l yX4_markOnTheWay wsX4_markOnTheWay ({ frames := 3, cells := 0, slots := 0, locals := 85 }) (va_Pc [.ref (a 3), .int p0, .int p1, .int p2] (gP D (cw a c) (cty c) cns S sz)) (va_Qi post (gB D (cw a c)) (va_A (cw a c S) sz)) 0 0 (va_A (cw a c S) sz) := by
  refine Met.ofW (cc := cX4_markOnTheWay) (maxL := 7) (ret := (some .int)) (by decide) rfl ?_
  intro p e s m args below meth c9 s₁ B hml hv
  obtain ⟨rfl, hsz, hP, hK, hD0, hN⟩ := hv
  have hx := B.exec
  have hb := B.bytes
  have hr := B.returns
  have hts := atoms_spec (ws := wsX4_markOnTheWay) B.pre
  have hown : s.vm.findClass RX4 = some m.cls := findClass_of_methodNamed B.named
  have hlocks := B.notSynchronized
  subst hsz
  have hD1 := hD0.self (sz := s.heap.size)
  generalize hAe : va_A (cw a c S) s.heap.size = A at hD1 ⊢
  have hA : ∀ q : Nat, s.heap.size ≤ q → A q := fun q h => by rw [← hAe]; exact Or.inr h
  have hD : ∀ S2 : St, va_D A (cw a c S2) := gD cw_F hD1
  have hS : va_S A s.heap s.heap [] := va_S.rf
  have hl := lv_entry ([.ref (a 3), .int p0, .int p1, .int p2]) (n := 7) (Nat.le_of_ble_eq_true rfl)
  rw [lg_entry_eq]
  generalize (lg_sl ([.ref (a 3), .int p0, .int p1, .int p2]) ++ List.replicate (7 - (lg_sl ([.ref (a 3), .int p0, .int p1, .int p2])).length) Slot.unset).toArray = ls at hl ⊢
  have hl : lv_has ls 7 [(0, .ref (a 3)), (1, .int p0), (2, .int p1), (3, .int p2)] := hl
  have key : ∀ n : Nat, (∀ (xl1 : Int32) (xl2 : Int32) (xl3 : Int32) (xl4 : Int32) (xl5 : Int32) (S : St) (H : Heap) (locs : List Loc) (ls : Array Slot), LX4_markOnTheWay post n xl1 xl2 xl3 xl4 xl5 S → va_P D vwCl (cw a c S) H → va_S A s.heap H locs → lv_has ls 7 [(0, .ref (a 3)), (1, .int xl1), (2, .int xl2), (3, .int xl3), (4, .int xl4), (5, .int xl5)] → W p l e ((headSpec wsX4_markOnTheWay ({ frames := 3, cells := 0, slots := 0, locals := 85 })).room) s m ([.ref (a 3), .int p0, .int p1, .int p2]).toArray below meth c9 H locs 0 0 (MQ below (va_Qi post (gB D (cw a c)) A) ([.ref (a 3), .int p0, .int p1, .int p2]).toArray s 0 0 A) (F0 m 17 ls [])) := by
    intro n
    induction n with
    | zero => exact fun xl1 xl2 xl3 xl4 xl5 S H locs ls h => h.elim
    | succ n ih =>
      intro xl1 xl2 xl3 xl4 xl5 S H locs ls h hP hS hl
      have h : BX4_markOnTheWay_0 (LX4_markOnTheWay post n) post xl1 xl2 xl3 xl4 xl5 S := h
      unfold BX4_markOnTheWay_0 at h
      refine lv_iload hx hb dX4_markOnTheWay_17 (lv_at hl 5 rfl) ?_
      refine lv_iload_n hx hb dX4_markOnTheWay_19 rfl (lv_at hl 3 rfl) ?_
      refine lv_icmp_ge (tgt := 56) hx hb dX4_markOnTheWay_20 (by decide) (fun c3 => ?_) (fun c3 => ?_)
      · have h := h.1 c3
        refine lv_aload_n hx hb dX4_markOnTheWay_56 rfl (lv_at hl 0 rfl) ?_
        refine lv_iload_n hx hb dX4_markOnTheWay_57 rfl (lv_at hl 1 rfl) ?_
        refine lv_iload hx hb dX4_markOnTheWay_58 (lv_at hl 4 rfl) ?_
        refine lv_iload_n hx hb dX4_markOnTheWay_60 rfl (lv_at hl 2 rfl) ?_
        obtain ⟨k6, h⟩ := h
        refine k_i (k_runV cns_ok ⟨hx, hb, hml, hown, hts⟩ (tX4_markThatParts l D a c _ k6 xl1 xl4 xl2 S _ h) (cwV 3 hts gX4_markOnTheWay_X4_markThatParts rfl rfl rfl (by decide +kernel) ⟨Nat.le_of_ble_eq_true rfl, Nat.le_of_ble_eq_true rfl⟩) (va_recv hK hP (ci := 4) (q0 := 3) rfl rfl) hP hK (hD S) hN rfl rfl hl.1 rfl (lv_room (Nat.le_of_ble_eq_true rfl)) dX4_markOnTheWay_61 ⟨Nat.le_of_ble_eq_true rfl, Nat.le_of_ble_eq_true rfl⟩) hS (hD S) hA (fun x5 S4 H locs h hP hS => ?_)
        exact g_reti hx hb hr hlocks h hP hS dX4_markOnTheWay_64
      · have h := h.2 c3
        refine lv_aload_n hx hb dX4_markOnTheWay_23 rfl (lv_at hl 0 rfl) ?_
        refine lv_iload_n hx hb dX4_markOnTheWay_24 rfl (lv_at hl 1 rfl) ?_
        refine lv_iload hx hb dX4_markOnTheWay_25 (lv_at hl 4 rfl) ?_
        refine lv_iload_n hx hb dX4_markOnTheWay_27 rfl (lv_at hl 2 rfl) ?_
        obtain ⟨k9, h⟩ := h
        refine k_i (k_runV cns_ok ⟨hx, hb, hml, hown, hts⟩ (tX4_markThatParts l D a c _ k9 xl1 xl4 xl2 S _ h) (cwV 3 hts gX4_markOnTheWay_X4_markThatParts rfl rfl rfl (by decide +kernel) ⟨Nat.le_of_ble_eq_true rfl, Nat.le_of_ble_eq_true rfl⟩) (va_recv hK hP (ci := 4) (q0 := 3) rfl rfl) hP hK (hD S) hN rfl rfl hl.1 rfl (lv_room (Nat.le_of_ble_eq_true rfl)) dX4_markOnTheWay_28 ⟨Nat.le_of_ble_eq_true rfl, Nat.le_of_ble_eq_true rfl⟩) hS (hD S) hA (fun x8 S7 H locs h hP hS => ?_)
        refine lv_istore (lv' := [(6, .int x8), (0, .ref (a 3)), (1, .int xl1), (2, .int xl2), (3, .int xl3), (4, .int xl4), (5, .int xl5)]) hx hb dX4_markOnTheWay_31 hl (by decide) rfl (fun ls hl => ?_)
        refine lv_iload hx hb dX4_markOnTheWay_33 (lv_at hl 0 rfl) ?_
        refine lv_iconst (v := (-1)) hx hb dX4_markOnTheWay_35 (by decide) ?_
        refine lv_icmp_ne (tgt := 41) hx hb dX4_markOnTheWay_36 (by decide) (fun c10 => ?_) (fun c10 => ?_)
        · have h := h.2 c10
          refine lv_iload hx hb dX4_markOnTheWay_41 (lv_at hl 5 rfl) ?_
          refine lv_iconst (v := 1) hx hb dX4_markOnTheWay_43 (by decide) ?_
          refine lv_iload hx hb dX4_markOnTheWay_44 (lv_at hl 0 rfl) ?_
          refine lv_ishl hx hb dX4_markOnTheWay_46 ?_
          refine lv_ior hx hb dX4_markOnTheWay_47 ?_
          refine lv_topi (fun x11 ex11 => ?_)
          have h := h x11 ex11
          refine lv_istore (lv' := [(4, .int x11), (6, .int x8), (0, .ref (a 3)), (1, .int xl1), (2, .int xl2), (3, .int xl3), (5, .int xl5)]) hx hb dX4_markOnTheWay_48 hl (by decide) rfl (fun ls hl => ?_)
          obtain ⟨x12, ex12⟩ : ∃ y : Int32, y = xl5 + 1 := ⟨_, rfl⟩
          have h := h x12 ex12
          refine lv_iinc (v := x12) (lv' := [(5, .int x12), (4, .int x11), (6, .int x8), (0, .ref (a 3)), (1, .int xl1), (2, .int xl2), (3, .int xl3)]) hx hb dX4_markOnTheWay_50 hl (k := 6) rfl (by rw [ex12]; rfl) (by decide) rfl (fun ls hl => ?_)
          refine lv_goto (tgt := 17) hx hb dX4_markOnTheWay_53 (by decide) ?_
          exact (ih) xl1 xl2 xl3 x11 x12 S7 _ _ _ h hP hS (lv_sub hl [3, 4, 5, 6, 1, 0] rfl)
        · have h := h.1 c10
          refine lv_iconst (v := (-1)) hx hb dX4_markOnTheWay_39 (by decide) ?_
          exact g_reti hx hb hr hlocks h hP hS dX4_markOnTheWay_40
  unfold PX4_markOnTheWay at h
  refine lv_iload_n hx hb dX4_markOnTheWay_0 rfl (lv_at hl 3 rfl) ?_
  refine lv_if_lt (tgt := 9) hx hb dX4_markOnTheWay_1 (by decide) (fun c1 => ?_) (fun c1 => ?_)
  · have h := h.1 c1
    refine lv_iconst (v := (-1)) hx hb dX4_markOnTheWay_9 (by decide) ?_
    exact g_reti hx hb hr hlocks h hP hS dX4_markOnTheWay_10
  · have h := h.2 c1
    refine lv_iload_n hx hb dX4_markOnTheWay_4 rfl (lv_at hl 3 rfl) ?_
    refine lv_iconst (v := 4) hx hb dX4_markOnTheWay_5 (by decide) ?_
    refine lv_icmp_lt (tgt := 11) hx hb dX4_markOnTheWay_6 (by decide) (fun c2 => ?_) (fun c2 => ?_)
    · have h := h.1 c2
      refine lv_iconst (v := 0) hx hb dX4_markOnTheWay_11 (by decide) ?_
      refine lv_istore (lv' := [(4, .int 0), (0, .ref (a 3)), (1, .int p0), (2, .int p1), (3, .int p2)]) hx hb dX4_markOnTheWay_12 hl (by decide) rfl (fun ls hl => ?_)
      refine lv_iconst (v := 0) hx hb dX4_markOnTheWay_14 (by decide) ?_
      refine lv_istore (lv' := [(5, .int 0), (4, .int 0), (0, .ref (a 3)), (1, .int p0), (2, .int p1), (3, .int p2)]) hx hb dX4_markOnTheWay_15 hl (by decide) rfl (fun ls hl => ?_)
      exact (key n) p0 p1 p2 0 0 S _ _ _ h hP hS (lv_sub hl [2, 3, 4, 5, 1, 0] rfl)
    · have h := h.2 c2
      refine lv_iconst (v := (-1)) hx hb dX4_markOnTheWay_9 (by decide) ?_
      exact g_reti hx hb hr hlocks h hP hS dX4_markOnTheWay_10
def EX4_leavesBelow (rc : Int32 → Int32 → Int32 → Int32 → St → (Int32 → St → Prop) → Prop) (p0 : Int32) (p1 : Int32) (p2 : Int32) (p3 : Int32) (S : St) (post : Int32 → St → Prop) : Prop := ((4 ≤ p3 → (((-1 : Int32) = (-1) → post 1 S) ∧ (¬ (-1 : Int32) = (-1) → ∀ x3 : Int32, x3 = ((1 : Int32) <<< ((-1 : Int32) &&& 31)) → rc p0 (p1 ||| x3) p2 (p3 + 1) S (fun x5 S4 => rc p0 (p1 ||| x3) (p2 ||| x3) (p3 + 1) S4 (fun x7 S6 => post (x5 + x7) S6))))) ∧ (¬ 4 ≤ p3 → ∃ k : Nat, PX4_markThatParts k p0 p1 p2 S (fun x9 S8 => ((x9 = (-1) → post 1 S8) ∧ (¬ x9 = (-1) → ∀ x12 : Int32, x12 = ((1 : Int32) <<< (x9 &&& 31)) → rc p0 (p1 ||| x12) p2 (p3 + 1) S8 (fun x14 S13 => rc p0 (p1 ||| x12) (p2 ||| x12) (p3 + 1) S13 (fun x16 S15 => post (x14 + x16) S15)))))))
def PX4_leavesBelow : Nat → Int32 → Int32 → Int32 → Int32 → St → (Int32 → St → Prop) → Prop
  | 0, _, _, _, _, _, _ => False
  | d + 1, p0, p1, p2, p3, S, post => EX4_leavesBelow (PX4_leavesBelow d) p0 p1 p2 p3 S post
abbrev rmX4_leavesBelow (d : Nat) : Room := { frames := 3 + d, cells := 0, slots := 0, locals := 85 + 26 * d }
set_option maxHeartbeats 4000000 in
set_option maxRecDepth 100000 in
theorem tX4_leavesBelow (l : Launch) (D : va_G) (a : Nat → Nat) (c : Nat → ClassId) : ∀ (d : Nat) (sz : Nat) (p0 : Int32) (p1 : Int32) (p2 : Int32) (p3 : Int32) (S : St) (post : Int32 → St → Prop), PX4_leavesBelow d p0 p1 p2 p3 S post → Met l yX4_leavesBelow wsX4_leavesBelow (rmX4_leavesBelow d) (va_Pc [.ref (a 3), .int p0, .int p1, .int p2, .int p3] (gP D (cw a c) (cty c) cns S sz)) (va_Qi post (gB D (cw a c)) (va_A (cw a c S) sz)) 0 0 (va_A (cw a c S) sz) := by
  intro d
  induction d with
  | zero => intro sz p0 p1 p2 p3 S post h; exact h.elim
  | succ d hrc0 =>
  intro sz p0 p1 p2 p3 S post h
  have hrc : ∀ (p0 : Int32) (p1 : Int32) (p2 : Int32) (p3 : Int32) (S : St) (sz : Nat) (post : Int32 → St → Prop), PX4_leavesBelow d p0 p1 p2 p3 S post → Met l yX4_leavesBelow wsX4_leavesBelow (rmX4_leavesBelow d) (va_Pc [.ref (a 3), .int p0, .int p1, .int p2, .int p3] (gP D (cw a c) (cty c) cns S sz)) (va_Qi post (gB D (cw a c)) (va_A (cw a c S) sz)) 0 0 (va_A (cw a c S) sz) := fun p0 p1 p2 p3 S sz post h => hrc0 sz p0 p1 p2 p3 S post h
  refine Met.ofW (cc := cX4_leavesBelow) (maxL := 7) (ret := (some .int)) (by decide) rfl ?_
  intro p e s m args below meth c9 s₁ B hml hv
  obtain ⟨rfl, hsz, hP, hK, hD0, hN⟩ := hv
  have hx := B.exec
  have hb := B.bytes
  have hr := B.returns
  have hts := atoms_spec (ws := wsX4_leavesBelow) B.pre
  have hown : s.vm.findClass RX4 = some m.cls := findClass_of_methodNamed B.named
  have hlocks := B.notSynchronized
  subst hsz
  have hD1 := hD0.self (sz := s.heap.size)
  generalize hAe : va_A (cw a c S) s.heap.size = A at hD1 ⊢
  have hA : ∀ q : Nat, s.heap.size ≤ q → A q := fun q h => by rw [← hAe]; exact Or.inr h
  have hD : ∀ S2 : St, va_D A (cw a c S2) := gD cw_F hD1
  have hS : va_S A s.heap s.heap [] := va_S.rf
  have hl := lv_entry ([.ref (a 3), .int p0, .int p1, .int p2, .int p3]) (n := 7) (Nat.le_of_ble_eq_true rfl)
  rw [lg_entry_eq]
  generalize (lg_sl ([.ref (a 3), .int p0, .int p1, .int p2, .int p3]) ++ List.replicate (7 - (lg_sl ([.ref (a 3), .int p0, .int p1, .int p2, .int p3])).length) Slot.unset).toArray = ls at hl ⊢
  have hl : lv_has ls 7 [(0, .ref (a 3)), (1, .int p0), (2, .int p1), (3, .int p2), (4, .int p3)] := hl
  have hroom : (rmX4_leavesBelow d).frames + 1 ≤ ((headSpec wsX4_leavesBelow (rmX4_leavesBelow (d + 1))).room).frames ∧ 8 + (7 + 11) + (rmX4_leavesBelow d).locals ≤ ((headSpec wsX4_leavesBelow (rmX4_leavesBelow (d + 1))).room).locals := ⟨by simp only [headSpec, rmX4_leavesBelow]; omega, by simp only [headSpec, rmX4_leavesBelow]; omega⟩
  have h : EX4_leavesBelow (PX4_leavesBelow d) p0 p1 p2 p3 S post := h
  unfold EX4_leavesBelow at h
  refine lv_iload hx hb dX4_leavesBelow_0 (lv_at hl 4 rfl) ?_
  refine lv_iconst (v := 4) hx hb dX4_leavesBelow_2 (by decide) ?_
  refine lv_icmp_ge (tgt := 16) hx hb dX4_leavesBelow_3 (by decide) (fun c1 => ?_) (fun c1 => ?_)
  · have h := h.1 c1
    refine lv_iconst (v := (-1)) hx hb dX4_leavesBelow_16 (by decide) ?_
    refine lv_istore (lv' := [(5, .int (-1)), (0, .ref (a 3)), (1, .int p0), (2, .int p1), (3, .int p2), (4, .int p3)]) hx hb dX4_leavesBelow_17 hl (by decide) rfl (fun ls hl => ?_)
    refine lv_iload hx hb dX4_leavesBelow_19 (lv_at hl 0 rfl) ?_
    refine lv_iconst (v := (-1)) hx hb dX4_leavesBelow_21 (by decide) ?_
    refine lv_icmp_ne (tgt := 27) hx hb dX4_leavesBelow_22 (by decide) (fun c2 => ?_) (fun c2 => ?_)
    · have h := h.2 c2
      refine lv_iconst (v := 1) hx hb dX4_leavesBelow_27 (by decide) ?_
      refine lv_iload hx hb dX4_leavesBelow_28 (lv_at hl 0 rfl) ?_
      refine lv_ishl hx hb dX4_leavesBelow_30 ?_
      refine lv_topi (fun x3 ex3 => ?_)
      have h := h x3 ex3
      refine lv_istore (lv' := [(6, .int x3), (5, .int (-1)), (0, .ref (a 3)), (1, .int p0), (2, .int p1), (3, .int p2), (4, .int p3)]) hx hb dX4_leavesBelow_31 hl (by decide) rfl (fun ls hl => ?_)
      refine lv_aload_n hx hb dX4_leavesBelow_33 rfl (lv_at hl 2 rfl) ?_
      refine lv_iload_n hx hb dX4_leavesBelow_34 rfl (lv_at hl 3 rfl) ?_
      refine lv_iload_n hx hb dX4_leavesBelow_35 rfl (lv_at hl 4 rfl) ?_
      refine lv_iload hx hb dX4_leavesBelow_36 (lv_at hl 0 rfl) ?_
      refine lv_ior hx hb dX4_leavesBelow_38 ?_
      refine lv_iload_n hx hb dX4_leavesBelow_39 rfl (lv_at hl 5 rfl) ?_
      refine lv_iload hx hb dX4_leavesBelow_40 (lv_at hl 6 rfl) ?_
      refine lv_iconst (v := 1) hx hb dX4_leavesBelow_42 (by decide) ?_
      refine lv_iadd hx hb dX4_leavesBelow_43 ?_
      refine k_i (k_runV cns_ok ⟨hx, hb, hml, hown, hts⟩ (hrc p0 (p1 ||| x3) p2 (p3 + 1) S _ _ h) (cwV 4 hts gX4_leavesBelow_X4_leavesBelow rfl rfl rfl (by decide +kernel) hroom) (va_recv hK hP (ci := 4) (q0 := 3) rfl rfl) hP hK (hD S) hN rfl rfl hl.1 rfl (lv_room (Nat.le_of_ble_eq_true rfl)) dX4_leavesBelow_44 ⟨Nat.le_refl _, Nat.le_refl _⟩) hS (hD S) hA (fun x5 S4 H locs h hP hS => ?_)
      refine lv_aload_n hx hb dX4_leavesBelow_47 rfl (lv_at hl 2 rfl) ?_
      refine lv_iload_n hx hb dX4_leavesBelow_48 rfl (lv_at hl 3 rfl) ?_
      refine lv_iload_n hx hb dX4_leavesBelow_49 rfl (lv_at hl 4 rfl) ?_
      refine lv_iload hx hb dX4_leavesBelow_50 (lv_at hl 0 rfl) ?_
      refine lv_ior hx hb dX4_leavesBelow_52 ?_
      refine lv_iload_n hx hb dX4_leavesBelow_53 rfl (lv_at hl 5 rfl) ?_
      refine lv_iload hx hb dX4_leavesBelow_54 (lv_at hl 0 rfl) ?_
      refine lv_ior hx hb dX4_leavesBelow_56 ?_
      refine lv_iload hx hb dX4_leavesBelow_57 (lv_at hl 6 rfl) ?_
      refine lv_iconst (v := 1) hx hb dX4_leavesBelow_59 (by decide) ?_
      refine lv_iadd hx hb dX4_leavesBelow_60 ?_
      refine k_i (k_runV cns_ok ⟨hx, hb, hml, hown, hts⟩ (hrc p0 (p1 ||| x3) (p2 ||| x3) (p3 + 1) S4 _ _ h) (cwV 4 hts gX4_leavesBelow_X4_leavesBelow rfl rfl rfl (by decide +kernel) hroom) (va_recv hK hP (ci := 4) (q0 := 3) rfl rfl) hP hK (hD S4) hN rfl rfl hl.1 rfl (lv_room (Nat.le_of_ble_eq_true rfl)) dX4_leavesBelow_61 ⟨Nat.le_refl _, Nat.le_refl _⟩) hS (hD S4) hA (fun x7 S6 H locs h hP hS => ?_)
      refine lv_iadd hx hb dX4_leavesBelow_64 ?_
      exact g_reti hx hb hr hlocks h hP hS dX4_leavesBelow_65
    · have h := h.1 c2
      refine lv_iconst (v := 1) hx hb dX4_leavesBelow_25 (by decide) ?_
      exact g_reti hx hb hr hlocks h hP hS dX4_leavesBelow_26
  · have h := h.2 c1
    refine lv_aload_n hx hb dX4_leavesBelow_6 rfl (lv_at hl 0 rfl) ?_
    refine lv_iload_n hx hb dX4_leavesBelow_7 rfl (lv_at hl 1 rfl) ?_
    refine lv_iload_n hx hb dX4_leavesBelow_8 rfl (lv_at hl 2 rfl) ?_
    refine lv_iload_n hx hb dX4_leavesBelow_9 rfl (lv_at hl 3 rfl) ?_
    obtain ⟨k10, h⟩ := h
    refine k_i (k_runV cns_ok ⟨hx, hb, hml, hown, hts⟩ (tX4_markThatParts l D a c _ k10 p0 p1 p2 S _ h) (cwV 3 hts gX4_leavesBelow_X4_markThatParts rfl rfl rfl (by decide +kernel) ⟨by show 2 + 1 ≤ 3 + (d + 1); omega, by show 8 + (18 + 11) + 48 ≤ 85 + 26 * (d + 1); omega⟩) (va_recv hK hP (ci := 4) (q0 := 3) rfl rfl) hP hK (hD S) hN rfl rfl hl.1 rfl (lv_room (Nat.le_of_ble_eq_true rfl)) dX4_leavesBelow_10 ⟨Nat.le_refl _, Nat.le_refl _⟩) hS (hD S) hA (fun x9 S8 H locs h hP hS => ?_)
    refine lv_goto (tgt := 17) hx hb dX4_leavesBelow_13 (by decide) ?_
    refine lv_istore (lv' := [(5, .int x9), (0, .ref (a 3)), (1, .int p0), (2, .int p1), (3, .int p2), (4, .int p3)]) hx hb dX4_leavesBelow_17 hl (by decide) rfl (fun ls hl => ?_)
    refine lv_iload hx hb dX4_leavesBelow_19 (lv_at hl 0 rfl) ?_
    refine lv_iconst (v := (-1)) hx hb dX4_leavesBelow_21 (by decide) ?_
    refine lv_icmp_ne (tgt := 27) hx hb dX4_leavesBelow_22 (by decide) (fun c11 => ?_) (fun c11 => ?_)
    · have h := h.2 c11
      refine lv_iconst (v := 1) hx hb dX4_leavesBelow_27 (by decide) ?_
      refine lv_iload hx hb dX4_leavesBelow_28 (lv_at hl 0 rfl) ?_
      refine lv_ishl hx hb dX4_leavesBelow_30 ?_
      refine lv_topi (fun x12 ex12 => ?_)
      have h := h x12 ex12
      refine lv_istore (lv' := [(6, .int x12), (5, .int x9), (0, .ref (a 3)), (1, .int p0), (2, .int p1), (3, .int p2), (4, .int p3)]) hx hb dX4_leavesBelow_31 hl (by decide) rfl (fun ls hl => ?_)
      refine lv_aload_n hx hb dX4_leavesBelow_33 rfl (lv_at hl 2 rfl) ?_
      refine lv_iload_n hx hb dX4_leavesBelow_34 rfl (lv_at hl 3 rfl) ?_
      refine lv_iload_n hx hb dX4_leavesBelow_35 rfl (lv_at hl 4 rfl) ?_
      refine lv_iload hx hb dX4_leavesBelow_36 (lv_at hl 0 rfl) ?_
      refine lv_ior hx hb dX4_leavesBelow_38 ?_
      refine lv_iload_n hx hb dX4_leavesBelow_39 rfl (lv_at hl 5 rfl) ?_
      refine lv_iload hx hb dX4_leavesBelow_40 (lv_at hl 6 rfl) ?_
      refine lv_iconst (v := 1) hx hb dX4_leavesBelow_42 (by decide) ?_
      refine lv_iadd hx hb dX4_leavesBelow_43 ?_
      refine k_i (k_runV cns_ok ⟨hx, hb, hml, hown, hts⟩ (hrc p0 (p1 ||| x12) p2 (p3 + 1) S8 _ _ h) (cwV 4 hts gX4_leavesBelow_X4_leavesBelow rfl rfl rfl (by decide +kernel) hroom) (va_recv hK hP (ci := 4) (q0 := 3) rfl rfl) hP hK (hD S8) hN rfl rfl hl.1 rfl (lv_room (Nat.le_of_ble_eq_true rfl)) dX4_leavesBelow_44 ⟨Nat.le_refl _, Nat.le_refl _⟩) hS (hD S8) hA (fun x14 S13 H locs h hP hS => ?_)
      refine lv_aload_n hx hb dX4_leavesBelow_47 rfl (lv_at hl 2 rfl) ?_
      refine lv_iload_n hx hb dX4_leavesBelow_48 rfl (lv_at hl 3 rfl) ?_
      refine lv_iload_n hx hb dX4_leavesBelow_49 rfl (lv_at hl 4 rfl) ?_
      refine lv_iload hx hb dX4_leavesBelow_50 (lv_at hl 0 rfl) ?_
      refine lv_ior hx hb dX4_leavesBelow_52 ?_
      refine lv_iload_n hx hb dX4_leavesBelow_53 rfl (lv_at hl 5 rfl) ?_
      refine lv_iload hx hb dX4_leavesBelow_54 (lv_at hl 0 rfl) ?_
      refine lv_ior hx hb dX4_leavesBelow_56 ?_
      refine lv_iload hx hb dX4_leavesBelow_57 (lv_at hl 6 rfl) ?_
      refine lv_iconst (v := 1) hx hb dX4_leavesBelow_59 (by decide) ?_
      refine lv_iadd hx hb dX4_leavesBelow_60 ?_
      refine k_i (k_runV cns_ok ⟨hx, hb, hml, hown, hts⟩ (hrc p0 (p1 ||| x12) (p2 ||| x12) (p3 + 1) S13 _ _ h) (cwV 4 hts gX4_leavesBelow_X4_leavesBelow rfl rfl rfl (by decide +kernel) hroom) (va_recv hK hP (ci := 4) (q0 := 3) rfl rfl) hP hK (hD S13) hN rfl rfl hl.1 rfl (lv_room (Nat.le_of_ble_eq_true rfl)) dX4_leavesBelow_61 ⟨Nat.le_refl _, Nat.le_refl _⟩) hS (hD S13) hA (fun x16 S15 H locs h hP hS => ?_)
      refine lv_iadd hx hb dX4_leavesBelow_64 ?_
      exact g_reti hx hb hr hlocks h hP hS dX4_leavesBelow_65
    · have h := h.1 c11
      refine lv_iconst (v := 1) hx hb dX4_leavesBelow_25 (by decide) ?_
      exact g_reti hx hb hr hlocks h hP hS dX4_leavesBelow_26
def PX2_add (p0 : Int32) (p1 : Int32) (S : St) (post : Int32 → St → Prop) : Prop := (vp_in (S.1 5) 4 ∧ ∀ S2 : St, S2 = sR S 10 (upd (S.2.2 10) (S.1 5).toNatClampNeg p0) → (vp_in (S2.1 5) 4 ∧ ∀ S4 : St, S4 = sR S2 11 (upd (S2.2.2 11) (S2.1 5).toNatClampNeg p1) → ∀ S5 : St, S5 = sI S4 5 ((S4.1 5) + 1) → post ((S5.1 5) - 1) S5))
set_option maxHeartbeats 4000000 in
set_option maxRecDepth 100000 in
theorem tX2_add (l : Launch) (D : va_G) (a : Nat → Nat) (c : Nat → ClassId) (sz : Nat) (p0 : Int32) (p1 : Int32) (S : St) (post : Int32 → St → Prop) (h : PX2_add p0 p1 S post) : Met l yX2_add wsX2_add ({ frames := 0, cells := 0, slots := 0, locals := 0 }) (va_Pc [.ref (a 4), .int p0, .int p1] (gP D (cw a c) (cty c) cns S sz)) (va_Qi post (gB D (cw a c)) (va_A (cw a c S) sz)) 0 0 (va_A (cw a c S) sz) := by
  refine Met.ofW (cc := cX2_add) (maxL := 3) (ret := (some .int)) (by decide) rfl ?_
  intro p e s m args below meth c9 s₁ B hml hv
  obtain ⟨rfl, hsz, hP, hK, hD0, hN⟩ := hv
  have hx := B.exec
  have hb := B.bytes
  have hr := B.returns
  have hts := atoms_spec (ws := wsX2_add) B.pre
  have hown : s.vm.findClass RX2 = some m.cls := findClass_of_methodNamed B.named
  have hlocks := B.notSynchronized
  subst hsz
  have hD1 := hD0.self (sz := s.heap.size)
  generalize hAe : va_A (cw a c S) s.heap.size = A at hD1 ⊢
  have hA : ∀ q : Nat, s.heap.size ≤ q → A q := fun q h => by rw [← hAe]; exact Or.inr h
  have hD : ∀ S2 : St, va_D A (cw a c S2) := gD cw_F hD1
  have hS : va_S A s.heap s.heap [] := va_S.rf
  have hinX2 : ∀ w ∈ wsX20, w ∈ wsX2_add := by decide +kernel
  have kf15 := hts (.fieldLink RX2 15 "CanteenPlan$Kitchen" "price" "[I") (by decide +kernel)
  have kf37 := hts (.fieldLink RX2 37 "CanteenPlan$Kitchen" "sizes" "I") (by decide +kernel)
  have kf9 := hts (.fieldLink RX2 9 "CanteenPlan$Kitchen" "portions" "[I") (by decide +kernel)
  have hl := lv_entry ([.ref (a 4), .int p0, .int p1]) (n := 3) (Nat.le_of_ble_eq_true rfl)
  rw [lg_entry_eq]
  generalize (lg_sl ([.ref (a 4), .int p0, .int p1]) ++ List.replicate (3 - (lg_sl ([.ref (a 4), .int p0, .int p1])).length) Slot.unset).toArray = ls at hl ⊢
  have hl : lv_has ls 3 [(0, .ref (a 4)), (1, .int p0), (2, .int p1)] := hl
  unfold PX2_add at h
  refine lv_aload_n hx hb dX2_add_0 rfl (lv_at hl 0 rfl) ?_
  refine va_get (D := D) (ci := 2) (v := .ref (a 16)) (C := RX2) (T := TX2) (N := 15) hx hb hts hinX2 hown hK hP 4 rfl rfl 0 (by decide) kf9 (fun _ h9 => h9) rfl dX2_add_1 ?_
  refine lv_aload_n hx hb dX2_add_4 rfl (lv_at hl 0 rfl) ?_
  refine va_get (D := D) (ci := 2) (v := .int (S.1 5)) (C := RX2) (T := TX2) (N := 15) hx hb hts hinX2 hown hK hP 4 rfl rfl 2 (by decide) kf37 (fun _ h9 => h9) rfl dX2_add_5 ?_
  refine lv_iload_n hx hb dX2_add_8 rfl (lv_at hl 1 rfl) ?_
  obtain ⟨b1, h⟩ := h
  refine va_iast hx hb hK hP (hD S) hS 16 10 rfl rfl b1 dX2_add_9 (fun H locs hP _ hS => ?_)
  obtain ⟨S2, eS2⟩ : ∃ z : St, z = sR S 10 (upd (S.2.2 10) (S.1 5).toNatClampNeg p0) := ⟨_, rfl⟩
  have hP : va_P D vwCl (cw a c S2) H := by rw [eS2]; exact hP
  have h := h S2 eS2
  refine lv_aload_n hx hb dX2_add_10 rfl (lv_at hl 0 rfl) ?_
  refine va_get (D := D) (ci := 2) (v := .ref (a 17)) (C := RX2) (T := TX2) (N := 15) hx hb hts hinX2 hown hK hP 4 rfl rfl 1 (by decide) kf15 (fun _ h9 => h9) rfl dX2_add_11 ?_
  refine lv_aload_n hx hb dX2_add_14 rfl (lv_at hl 0 rfl) ?_
  refine va_get (D := D) (ci := 2) (v := .int (S2.1 5)) (C := RX2) (T := TX2) (N := 15) hx hb hts hinX2 hown hK hP 4 rfl rfl 2 (by decide) kf37 (fun _ h9 => h9) rfl dX2_add_15 ?_
  refine lv_iload_n hx hb dX2_add_18 rfl (lv_at hl 2 rfl) ?_
  obtain ⟨b3, h⟩ := h
  refine va_iast hx hb hK hP (hD S2) hS 17 11 rfl rfl b3 dX2_add_19 (fun H locs hP _ hS => ?_)
  obtain ⟨S4, eS4⟩ : ∃ z : St, z = sR S2 11 (upd (S2.2.2 11) (S2.1 5).toNatClampNeg p1) := ⟨_, rfl⟩
  have hP : va_P D vwCl (cw a c S4) H := by rw [eS4]; exact hP
  have h := h S4 eS4
  refine lv_aload_n hx hb dX2_add_20 rfl (lv_at hl 0 rfl) ?_
  refine lv_dup hx hb dX2_add_21 rfl ?_
  refine va_get (D := D) (ci := 2) (v := .int (S4.1 5)) (C := RX2) (T := TX2) (N := 15) hx hb hts hinX2 hown hK hP 4 rfl rfl 2 (by decide) kf37 (fun _ h9 => h9) rfl dX2_add_22 ?_
  refine lv_iconst (v := 1) hx hb dX2_add_25 (by decide) ?_
  refine lv_iadd hx hb dX2_add_26 ?_
  refine va_put (D := D) (ci := 2) (v := .int ((S4.1 5) + 1)) (ty := .int) (C := RX2) (T := TX2) (N := 15) hx hb hts hinX2 tyX2 tyX2_ok nmX2 hown hK hP (hD S4) hS 4 rfl rfl 2 (by decide) kf37 (fun _ h9 => h9) rfl (by decide +kernel) rfl rfl (Nat.le_of_ble_eq_true rfl) dX2_add_27 (fun H locs hP _ hS => ?_)
  obtain ⟨S5, eS5⟩ : ∃ z : St, z = sI S4 5 ((S4.1 5) + 1) := ⟨_, rfl⟩
  have hP : va_P D vwCl (cw a c S5) H := by rw [eS5]; exact hP
  have h := h S5 eS5
  refine lv_aload_n hx hb dX2_add_30 rfl (lv_at hl 0 rfl) ?_
  refine va_get (D := D) (ci := 2) (v := .int (S5.1 5)) (C := RX2) (T := TX2) (N := 15) hx hb hts hinX2 hown hK hP 4 rfl rfl 2 (by decide) kf37 (fun _ h9 => h9) rfl dX2_add_31 ?_
  refine lv_iconst (v := 1) hx hb dX2_add_34 (by decide) ?_
  refine lv_isub hx hb dX2_add_35 ?_
  exact g_reti hx hb hr hlocks h hP hS dX2_add_36
def PX2_bestPotsOf (p0 : Int32) (S : St) (post : Int32 → St → Prop) : Prop := ((p0 < 0 → post 0 S) ∧ (¬ p0 < 0 → ((p0 < (S.1 5) → (vp_in p0 4 ∧ post (S.2.2 15 p0.toNatClampNeg) S)) ∧ (¬ p0 < (S.1 5) → post 0 S))))
set_option maxHeartbeats 4000000 in
set_option maxRecDepth 100000 in
theorem tX2_bestPotsOf (l : Launch) (D : va_G) (a : Nat → Nat) (c : Nat → ClassId) (sz : Nat) (p0 : Int32) (S : St) (post : Int32 → St → Prop) (h : PX2_bestPotsOf p0 S post) : Met l yX2_bestPotsOf wsX2_bestPotsOf ({ frames := 0, cells := 0, slots := 0, locals := 0 }) (va_Pc [.ref (a 4), .int p0] (gP D (cw a c) (cty c) cns S sz)) (va_Qi post (gB D (cw a c)) (va_A (cw a c S) sz)) 0 0 (va_A (cw a c S) sz) := by
  refine Met.ofW (cc := cX2_bestPotsOf) (maxL := 2) (ret := (some .int)) (by decide) rfl ?_
  intro p e s m args below meth c9 s₁ B hml hv
  obtain ⟨rfl, hsz, hP, hK, hD0, hN⟩ := hv
  have hx := B.exec
  have hb := B.bytes
  have hr := B.returns
  have hts := atoms_spec (ws := wsX2_bestPotsOf) B.pre
  have hown : s.vm.findClass RX2 = some m.cls := findClass_of_methodNamed B.named
  have hlocks := B.notSynchronized
  subst hsz
  have hD1 := hD0.self (sz := s.heap.size)
  generalize hAe : va_A (cw a c S) s.heap.size = A at hD1 ⊢
  have hA : ∀ q : Nat, s.heap.size ≤ q → A q := fun q h => by rw [← hAe]; exact Or.inr h
  have hD : ∀ S2 : St, va_D A (cw a c S2) := gD cw_F hD1
  have hS : va_S A s.heap s.heap [] := va_S.rf
  have hinX2 : ∀ w ∈ wsX20, w ∈ wsX2_bestPotsOf := by decide +kernel
  have kf34 := hts (.fieldLink RX2 34 "CanteenPlan$Kitchen" "best" "[I") (by decide +kernel)
  have kf37 := hts (.fieldLink RX2 37 "CanteenPlan$Kitchen" "sizes" "I") (by decide +kernel)
  have hl := lv_entry ([.ref (a 4), .int p0]) (n := 2) (Nat.le_of_ble_eq_true rfl)
  rw [lg_entry_eq]
  generalize (lg_sl ([.ref (a 4), .int p0]) ++ List.replicate (2 - (lg_sl ([.ref (a 4), .int p0])).length) Slot.unset).toArray = ls at hl ⊢
  have hl : lv_has ls 2 [(0, .ref (a 4)), (1, .int p0)] := hl
  unfold PX2_bestPotsOf at h
  refine lv_iload_n hx hb dX2_bestPotsOf_0 rfl (lv_at hl 1 rfl) ?_
  refine lv_if_lt (tgt := 12) hx hb dX2_bestPotsOf_1 (by decide) (fun c1 => ?_) (fun c1 => ?_)
  · have h := h.1 c1
    refine lv_iconst (v := 0) hx hb dX2_bestPotsOf_12 (by decide) ?_
    refine lv_goto (tgt := 22) hx hb dX2_bestPotsOf_13 (by decide) ?_
    exact g_reti hx hb hr hlocks h hP hS dX2_bestPotsOf_22
  · have h := h.2 c1
    refine lv_iload_n hx hb dX2_bestPotsOf_4 rfl (lv_at hl 1 rfl) ?_
    refine lv_aload_n hx hb dX2_bestPotsOf_5 rfl (lv_at hl 0 rfl) ?_
    refine va_get (D := D) (ci := 2) (v := .int (S.1 5)) (C := RX2) (T := TX2) (N := 15) hx hb hts hinX2 hown hK hP 4 rfl rfl 2 (by decide) kf37 (fun _ h9 => h9) rfl dX2_bestPotsOf_6 ?_
    refine lv_icmp_lt (tgt := 16) hx hb dX2_bestPotsOf_9 (by decide) (fun c2 => ?_) (fun c2 => ?_)
    · have h := h.1 c2
      refine lv_aload_n hx hb dX2_bestPotsOf_16 rfl (lv_at hl 0 rfl) ?_
      refine va_get (D := D) (ci := 2) (v := .ref (a 21)) (C := RX2) (T := TX2) (N := 15) hx hb hts hinX2 hown hK hP 4 rfl rfl 10 (by decide) kf34 (fun _ h9 => h9) rfl dX2_bestPotsOf_17 ?_
      refine lv_iload_n hx hb dX2_bestPotsOf_20 rfl (lv_at hl 1 rfl) ?_
      obtain ⟨b3, h⟩ := h
      refine va_iald hx hb hK hP 21 15 rfl rfl b3 dX2_bestPotsOf_21 ?_
      exact g_reti hx hb hr hlocks h hP hS dX2_bestPotsOf_22
    · have h := h.2 c2
      refine lv_iconst (v := 0) hx hb dX2_bestPotsOf_12 (by decide) ?_
      refine lv_goto (tgt := 22) hx hb dX2_bestPotsOf_13 (by decide) ?_
      exact g_reti hx hb hr hlocks h hP hS dX2_bestPotsOf_22
def BX2_readLeaf_0 (X : Nat → Int32 → Int32 → Int32 → Int32 → St → Prop) (post : St → Prop) (xl2 : Int32) (xl3 : Int32) (xl4 : Int32) (xl5 : Int32) (S : St) : Prop := (((S.1 1) ≤ xl5 → ∀ S3 : St, S3 = sI S 8 0 → ∀ S4 : St, S4 = sI S3 9 0 → X 1 0 0 0 0 S4) ∧ (¬ (S.1 1) ≤ xl5 → PX0_isInKnot xl5 xl3 xl4 S (fun x6 S5 => ((x6 = 0 → ∀ x8 : Int32, x8 = xl5 + 1 → X 0 xl2 xl3 xl4 x8 S5) ∧ (¬ x6 = 0 → PX0_eatenOn xl5 xl2 S5 (fun x10 S9 => (vp_in x10 1001 ∧ (vp_in x10 1001 ∧ ∀ S13 : St, S13 = sR S9 12 (upd (S9.2.2 12) x10.toNatClampNeg ((S9.2.2 12 x10.toNatClampNeg) + 1)) → ∀ x14 : Int32, x14 = xl5 + 1 → X 0 xl2 xl3 xl4 x14 S13))))))))
def BX2_readLeaf_1 (X : Nat → Int32 → Int32 → Int32 → Int32 → St → Prop) (post : St → Prop) (xl2 : Int32) (xl3 : Int32) (xl4 : Int32) (xl5 : Int32) (S : St) : Prop := ((1000 < xl5 → post S) ∧ (¬ 1000 < xl5 → (vp_in xl5 1001 ∧ ∀ S17 : St, S17 = sI S 8 ((S.1 8) + (S.2.2 12 xl5.toNatClampNeg)) → (vp_in xl5 1001 ∧ ∀ S19 : St, S19 = sI S17 9 ((S17.1 9) + ((S17.2.2 12 xl5.toNatClampNeg) * xl5)) → (vp_in xl5 1001 ∧ ∀ S21 : St, S21 = sR S19 12 (upd (S19.2.2 12) xl5.toNatClampNeg (S19.1 8)) → (vp_in xl5 1001 ∧ ∀ S23 : St, S23 = sR S21 13 (upd (S21.2.2 13) xl5.toNatClampNeg (S21.1 9)) → ∀ x24 : Int32, x24 = xl5 + 1 → X 1 0 0 0 x24 S23))))))
def LX2_readLeaf (post : St → Prop) : Nat → Nat → Int32 → Int32 → Int32 → Int32 → St → Prop
  | 0, _, _, _, _, _, _ => False
  | n + 1, 0, xl2, xl3, xl4, xl5, S => BX2_readLeaf_0 (LX2_readLeaf post n) post xl2 xl3 xl4 xl5 S
  | n + 1, 1, xl2, xl3, xl4, xl5, S => BX2_readLeaf_1 (LX2_readLeaf post n) post xl2 xl3 xl4 xl5 S
  | _ + 1, _ + 2, _, _, _, _, _ => False
def PX2_readLeaf (n : Nat) (p1 : Int32) (p2 : Int32) (p3 : Int32) (S : St) (post : St → Prop) : Prop := ∀ S1 : St, S1 = sR S 12 (g_fill (S.2.2 12) 1001 0) → LX2_readLeaf post n 0 p1 p2 p3 0 S1
set_option maxHeartbeats 4000000 in
set_option maxRecDepth 100000 in
theorem tX2_readLeaf (l : Launch) (D : va_G) (a : Nat → Nat) (c : Nat → ClassId) (sz : Nat) (n : Nat) (p1 : Int32) (p2 : Int32) (p3 : Int32) (S : St) (post : St → Prop) (h : PX2_readLeaf n p1 p2 p3 S post) : Met l yX2_readLeaf wsX2_readLeaf ({ frames := 1, cells := 0, slots := 0, locals := 24 }) (va_Pc [.ref (a 4), .ref (a 2), .int p1, .int p2, .int p3] (gP D (cw a c) (cty c) cns S sz)) (va_Qv post (gB D (cw a c)) (va_A (cw a c S) sz)) 0 0 (va_A (cw a c S) sz) := by
  refine Met.ofW (cc := cX2_readLeaf) (maxL := 6) (ret := none) (by decide) rfl ?_
  intro p e s m args below meth c9 s₁ B hml hv
  obtain ⟨rfl, hsz, hP, hK, hD0, hN⟩ := hv
  have hx := B.exec
  have hb := B.bytes
  have hr := B.returns
  have hts := atoms_spec (ws := wsX2_readLeaf) B.pre
  have hown : s.vm.findClass RX2 = some m.cls := findClass_of_methodNamed B.named
  have hlocks := B.notSynchronized
  subst hsz
  have hD1 := hD0.self (sz := s.heap.size)
  generalize hAe : va_A (cw a c S) s.heap.size = A at hD1 ⊢
  have hA : ∀ q : Nat, s.heap.size ≤ q → A q := fun q h => by rw [← hAe]; exact Or.inr h
  have hD : ∀ S2 : St, va_D A (cw a c S2) := gD cw_F hD1
  have hS : va_S A s.heap s.heap [] := va_S.rf
  have hinX0 : ∀ w ∈ wsX00, w ∈ wsX2_readLeaf := by decide +kernel
  have hinX2 : ∀ w ∈ wsX20, w ∈ wsX2_readLeaf := by decide +kernel
  have kI51 := hts (.instanceMethod yX0_isInKnot) (by decide +kernel)
  have kI55 := hts (.instanceMethod yX0_eatenOn) (by decide +kernel)
  have kS51 := hts (.selects RX0 yX0_isInKnot yX0_isInKnot) (by decide +kernel)
  have kS55 := hts (.selects RX0 yX0_eatenOn yX0_eatenOn) (by decide +kernel)
  have kf25 := hts (.fieldLink RX2 25 "CanteenPlan$Kitchen" "daysUpTo" "[I") (by decide +kernel)
  have kf28 := hts (.fieldLink RX2 28 "CanteenPlan$Kitchen" "sumUpTo" "[I") (by decide +kernel)
  have kf46 := hN (.fieldLinkNest RX2 46 "CanteenPlan$Diary" "inAll" "I" "CanteenPlan") (by decide +kernel)
  have kf59 := hts (.fieldLink RX2 59 "CanteenPlan$Kitchen" "days" "I") (by decide +kernel)
  have kf62 := hts (.fieldLink RX2 62 "CanteenPlan$Kitchen" "sum" "I") (by decide +kernel)
  have kiX0 := hts (.initialized RX0) (by decide +kernel)
  have kn51 := hN (.methodLinkNest RX2 51 yX0_isInKnot "CanteenPlan") (by decide +kernel)
  have kn55 := hN (.methodLinkNest RX2 55 yX0_eatenOn "CanteenPlan") (by decide +kernel)
  have hl := lv_entry ([.ref (a 4), .ref (a 2), .int p1, .int p2, .int p3]) (n := 6) (Nat.le_of_ble_eq_true rfl)
  rw [lg_entry_eq]
  generalize (lg_sl ([.ref (a 4), .ref (a 2), .int p1, .int p2, .int p3]) ++ List.replicate (6 - (lg_sl ([.ref (a 4), .ref (a 2), .int p1, .int p2, .int p3])).length) Slot.unset).toArray = ls at hl ⊢
  have hl : lv_has ls 6 [(0, .ref (a 4)), (1, .ref (a 2)), (2, .int p1), (3, .int p2), (4, .int p3)] := hl
  have key : ∀ n : Nat, (∀ (xl2 : Int32) (xl3 : Int32) (xl4 : Int32) (xl5 : Int32) (S : St) (H : Heap) (locs : List Loc) (ls : Array Slot), LX2_readLeaf post n 0 xl2 xl3 xl4 xl5 S → va_P D vwCl (cw a c S) H → va_S A s.heap H locs → lv_has ls 6 [(0, .ref (a 4)), (1, .ref (a 2)), (2, .int xl2), (3, .int xl3), (4, .int xl4), (5, .int xl5)] → W p l e ((headSpec wsX2_readLeaf ({ frames := 1, cells := 0, slots := 0, locals := 24 })).room) s m ([.ref (a 4), .ref (a 2), .int p1, .int p2, .int p3]).toArray below meth c9 H locs 0 0 (MQ below (va_Qv post (gB D (cw a c)) A) ([.ref (a 4), .ref (a 2), .int p1, .int p2, .int p3]).toArray s 0 0 A) (F0 m 11 ls [])) ∧ (∀ (xl5 : Int32) (S : St) (H : Heap) (locs : List Loc) (ls : Array Slot), LX2_readLeaf post n 1 0 0 0 xl5 S → va_P D vwCl (cw a c S) H → va_S A s.heap H locs → lv_has ls 6 [(0, .ref (a 4)), (5, .int xl5)] → W p l e ((headSpec wsX2_readLeaf ({ frames := 1, cells := 0, slots := 0, locals := 24 })).room) s m ([.ref (a 4), .ref (a 2), .int p1, .int p2, .int p3]).toArray below meth c9 H locs 0 0 (MQ below (va_Qv post (gB D (cw a c)) A) ([.ref (a 4), .ref (a 2), .int p1, .int p2, .int p3]).toArray s 0 0 A) (F0 m 67 ls [])) := by
    intro n
    induction n with
    | zero => exact ⟨fun xl2 xl3 xl4 xl5 S H locs ls h => h.elim, fun xl5 S H locs ls h => h.elim⟩
    | succ n ih =>
      refine ⟨?_, ?_⟩
      · intro xl2 xl3 xl4 xl5 S H locs ls h hP hS hl
        have h : BX2_readLeaf_0 (LX2_readLeaf post n) post xl2 xl3 xl4 xl5 S := h
        unfold BX2_readLeaf_0 at h
        refine lv_iload hx hb dX2_readLeaf_11 (lv_at hl 5 rfl) ?_
        refine lv_aload_n hx hb dX2_readLeaf_13 rfl (lv_at hl 1 rfl) ?_
        refine va_getN (D := D) (ci := 0) (v := .int (S.1 1)) (C := RX0) (T := TX0) (N := 7) hx hb hts hinX0 hown hK hP 2 rfl rfl 5 (by decide) (va_Nw.use rfl kf46) (fun _ h9 => h9) rfl dX2_readLeaf_14 ?_
        refine lv_icmp_ge (tgt := 54) hx hb dX2_readLeaf_17 (by decide) (fun c2 => ?_) (fun c2 => ?_)
        · have h := h.1 c2
          refine lv_aload_n hx hb dX2_readLeaf_54 rfl (lv_at hl 0 rfl) ?_
          refine lv_iconst (v := 0) hx hb dX2_readLeaf_55 (by decide) ?_
          refine va_put (D := D) (ci := 2) (v := .int 0) (ty := .int) (C := RX2) (T := TX2) (N := 15) hx hb hts hinX2 tyX2 tyX2_ok nmX2 hown hK hP (hD S) hS 4 rfl rfl 7 (by decide) kf59 (fun _ h9 => h9) rfl (by decide +kernel) rfl rfl (Nat.le_of_ble_eq_true rfl) dX2_readLeaf_56 (fun H locs hP _ hS => ?_)
          obtain ⟨S3, eS3⟩ : ∃ z : St, z = sI S 8 0 := ⟨_, rfl⟩
          have hP : va_P D vwCl (cw a c S3) H := by rw [eS3]; exact hP
          have h := h S3 eS3
          refine lv_aload_n hx hb dX2_readLeaf_59 rfl (lv_at hl 0 rfl) ?_
          refine lv_iconst (v := 0) hx hb dX2_readLeaf_60 (by decide) ?_
          refine va_put (D := D) (ci := 2) (v := .int 0) (ty := .int) (C := RX2) (T := TX2) (N := 15) hx hb hts hinX2 tyX2 tyX2_ok nmX2 hown hK hP (hD S3) hS 4 rfl rfl 8 (by decide) kf62 (fun _ h9 => h9) rfl (by decide +kernel) rfl rfl (Nat.le_of_ble_eq_true rfl) dX2_readLeaf_61 (fun H locs hP _ hS => ?_)
          obtain ⟨S4, eS4⟩ : ∃ z : St, z = sI S3 9 0 := ⟨_, rfl⟩
          have hP : va_P D vwCl (cw a c S4) H := by rw [eS4]; exact hP
          have h := h S4 eS4
          refine lv_iconst (v := 0) hx hb dX2_readLeaf_64 (by decide) ?_
          refine lv_istore (lv' := [(5, .int 0), (0, .ref (a 4)), (1, .ref (a 2)), (2, .int xl2), (3, .int xl3), (4, .int xl4)]) hx hb dX2_readLeaf_65 hl (by decide) rfl (fun ls hl => ?_)
          exact (ih).2 0 S4 _ _ _ h hP hS (lv_sub hl [1, 0] rfl)
        · have h := h.2 c2
          refine lv_aload_n hx hb dX2_readLeaf_20 rfl (lv_at hl 1 rfl) ?_
          refine lv_iload hx hb dX2_readLeaf_21 (lv_at hl 5 rfl) ?_
          refine lv_iload_n hx hb dX2_readLeaf_23 rfl (lv_at hl 3 rfl) ?_
          refine lv_iload hx hb dX2_readLeaf_24 (lv_at hl 4 rfl) ?_
          refine k_i (k_runVN cns_ok ⟨hx, hb, hml, hown, hts⟩ (tX0_isInKnot l D a c _ xl5 xl3 xl4 S _ h) ⟨va_cnB 3 hts gX2_readLeaf_X0_isInKnot_n51 rfl rfl rfl kn51 kiX0 (by decide +kernel) ⟨Nat.le_of_ble_eq_true rfl, Nat.le_of_ble_eq_true rfl⟩, kI51, kS51⟩ (va_recv hK hP (ci := 0) (q0 := 2) rfl rfl) hP hK (hD S) hN rfl rfl hl.1 rfl (lv_room (Nat.le_of_ble_eq_true rfl)) dX2_readLeaf_26 ⟨Nat.le_of_ble_eq_true rfl, Nat.le_of_ble_eq_true rfl⟩) hS (hD S) hA (fun x6 S5 H locs h hP hS => ?_)
          refine lv_if_eq (tgt := 48) hx hb dX2_readLeaf_29 (by decide) (fun c7 => ?_) (fun c7 => ?_)
          · have h := h.1 c7
            obtain ⟨x8, ex8⟩ : ∃ y : Int32, y = xl5 + 1 := ⟨_, rfl⟩
            have h := h x8 ex8
            refine lv_iinc (v := x8) (lv' := [(5, .int x8), (0, .ref (a 4)), (1, .ref (a 2)), (2, .int xl2), (3, .int xl3), (4, .int xl4)]) hx hb dX2_readLeaf_48 hl (k := 5) rfl (by rw [ex8]; rfl) (by decide) rfl (fun ls hl => ?_)
            refine lv_goto (tgt := 11) hx hb dX2_readLeaf_51 (by decide) ?_
            exact (ih).1 xl2 xl3 xl4 x8 S5 _ _ _ h hP hS (lv_sub hl [1, 2, 3, 4, 5, 0] rfl)
          · have h := h.2 c7
            refine lv_aload_n hx hb dX2_readLeaf_32 rfl (lv_at hl 0 rfl) ?_
            refine va_get (D := D) (ci := 2) (v := .ref (a 18)) (C := RX2) (T := TX2) (N := 15) hx hb hts hinX2 hown hK hP 4 rfl rfl 5 (by decide) kf25 (fun _ h9 => h9) rfl dX2_readLeaf_33 ?_
            refine lv_aload_n hx hb dX2_readLeaf_36 rfl (lv_at hl 1 rfl) ?_
            refine lv_iload hx hb dX2_readLeaf_37 (lv_at hl 5 rfl) ?_
            refine lv_iload_n hx hb dX2_readLeaf_39 rfl (lv_at hl 2 rfl) ?_
            refine k_i (k_runVN cns_ok ⟨hx, hb, hml, hown, hts⟩ (tX0_eatenOn l D a c _ xl5 xl2 S5 _ h) ⟨va_cnB 2 hts gX2_readLeaf_X0_eatenOn_n55 rfl rfl rfl kn55 kiX0 (by decide +kernel) ⟨Nat.le_of_ble_eq_true rfl, Nat.le_of_ble_eq_true rfl⟩, kI55, kS55⟩ (va_recv hK hP (ci := 0) (q0 := 2) rfl rfl) hP hK (hD S5) hN rfl rfl hl.1 rfl (lv_room (Nat.le_of_ble_eq_true rfl)) dX2_readLeaf_40 ⟨Nat.le_of_ble_eq_true rfl, Nat.le_of_ble_eq_true rfl⟩) hS (hD S5) hA (fun x10 S9 H locs h hP hS => ?_)
            refine lv_dup2_11 hx hb dX2_readLeaf_43 rfl rfl ?_
            obtain ⟨b11, h⟩ := h
            refine va_iald hx hb hK hP 18 12 rfl rfl b11 dX2_readLeaf_44 ?_
            refine lv_iconst (v := 1) hx hb dX2_readLeaf_45 (by decide) ?_
            refine lv_iadd hx hb dX2_readLeaf_46 ?_
            obtain ⟨b12, h⟩ := h
            refine va_iast hx hb hK hP (hD S9) hS 18 12 rfl rfl b12 dX2_readLeaf_47 (fun H locs hP _ hS => ?_)
            obtain ⟨S13, eS13⟩ : ∃ z : St, z = sR S9 12 (upd (S9.2.2 12) x10.toNatClampNeg ((S9.2.2 12 x10.toNatClampNeg) + 1)) := ⟨_, rfl⟩
            have hP : va_P D vwCl (cw a c S13) H := by rw [eS13]; exact hP
            have h := h S13 eS13
            obtain ⟨x14, ex14⟩ : ∃ y : Int32, y = xl5 + 1 := ⟨_, rfl⟩
            have h := h x14 ex14
            refine lv_iinc (v := x14) (lv' := [(5, .int x14), (0, .ref (a 4)), (1, .ref (a 2)), (2, .int xl2), (3, .int xl3), (4, .int xl4)]) hx hb dX2_readLeaf_48 hl (k := 5) rfl (by rw [ex14]; rfl) (by decide) rfl (fun ls hl => ?_)
            refine lv_goto (tgt := 11) hx hb dX2_readLeaf_51 (by decide) ?_
            exact (ih).1 xl2 xl3 xl4 x14 S13 _ _ _ h hP hS (lv_sub hl [1, 2, 3, 4, 5, 0] rfl)
      · intro xl5 S H locs ls h hP hS hl
        have h : BX2_readLeaf_1 (LX2_readLeaf post n) post 0 0 0 xl5 S := h
        unfold BX2_readLeaf_1 at h
        refine lv_iload hx hb dX2_readLeaf_67 (lv_at hl 1 rfl) ?_
        refine lv_sipush (v := 1000) hx hb dX2_readLeaf_69 (by decide) ?_
        refine lv_icmp_gt (tgt := 138) hx hb dX2_readLeaf_72 (by decide) (fun c15 => ?_) (fun c15 => ?_)
        · have h := h.1 c15
          exact g_retv hx hb hr hlocks h hP hS dX2_readLeaf_138
        · have h := h.2 c15
          refine lv_aload_n hx hb dX2_readLeaf_75 rfl (lv_at hl 0 rfl) ?_
          refine lv_dup hx hb dX2_readLeaf_76 rfl ?_
          refine va_get (D := D) (ci := 2) (v := .int (S.1 8)) (C := RX2) (T := TX2) (N := 15) hx hb hts hinX2 hown hK hP 4 rfl rfl 7 (by decide) kf59 (fun _ h9 => h9) rfl dX2_readLeaf_77 ?_
          refine lv_aload_n hx hb dX2_readLeaf_80 rfl (lv_at hl 0 rfl) ?_
          refine va_get (D := D) (ci := 2) (v := .ref (a 18)) (C := RX2) (T := TX2) (N := 15) hx hb hts hinX2 hown hK hP 4 rfl rfl 5 (by decide) kf25 (fun _ h9 => h9) rfl dX2_readLeaf_81 ?_
          refine lv_iload hx hb dX2_readLeaf_84 (lv_at hl 1 rfl) ?_
          obtain ⟨b16, h⟩ := h
          refine va_iald hx hb hK hP 18 12 rfl rfl b16 dX2_readLeaf_86 ?_
          refine lv_iadd hx hb dX2_readLeaf_87 ?_
          refine va_put (D := D) (ci := 2) (v := .int ((S.1 8) + (S.2.2 12 xl5.toNatClampNeg))) (ty := .int) (C := RX2) (T := TX2) (N := 15) hx hb hts hinX2 tyX2 tyX2_ok nmX2 hown hK hP (hD S) hS 4 rfl rfl 7 (by decide) kf59 (fun _ h9 => h9) rfl (by decide +kernel) rfl rfl (Nat.le_of_ble_eq_true rfl) dX2_readLeaf_88 (fun H locs hP _ hS => ?_)
          obtain ⟨S17, eS17⟩ : ∃ z : St, z = sI S 8 ((S.1 8) + (S.2.2 12 xl5.toNatClampNeg)) := ⟨_, rfl⟩
          have hP : va_P D vwCl (cw a c S17) H := by rw [eS17]; exact hP
          have h := h S17 eS17
          refine lv_aload_n hx hb dX2_readLeaf_91 rfl (lv_at hl 0 rfl) ?_
          refine lv_dup hx hb dX2_readLeaf_92 rfl ?_
          refine va_get (D := D) (ci := 2) (v := .int (S17.1 9)) (C := RX2) (T := TX2) (N := 15) hx hb hts hinX2 hown hK hP 4 rfl rfl 8 (by decide) kf62 (fun _ h9 => h9) rfl dX2_readLeaf_93 ?_
          refine lv_aload_n hx hb dX2_readLeaf_96 rfl (lv_at hl 0 rfl) ?_
          refine va_get (D := D) (ci := 2) (v := .ref (a 18)) (C := RX2) (T := TX2) (N := 15) hx hb hts hinX2 hown hK hP 4 rfl rfl 5 (by decide) kf25 (fun _ h9 => h9) rfl dX2_readLeaf_97 ?_
          refine lv_iload hx hb dX2_readLeaf_100 (lv_at hl 1 rfl) ?_
          obtain ⟨b18, h⟩ := h
          refine va_iald hx hb hK hP 18 12 rfl rfl b18 dX2_readLeaf_102 ?_
          refine lv_iload hx hb dX2_readLeaf_103 (lv_at hl 1 rfl) ?_
          refine lv_imul hx hb dX2_readLeaf_105 ?_
          refine lv_iadd hx hb dX2_readLeaf_106 ?_
          refine va_put (D := D) (ci := 2) (v := .int ((S17.1 9) + ((S17.2.2 12 xl5.toNatClampNeg) * xl5))) (ty := .int) (C := RX2) (T := TX2) (N := 15) hx hb hts hinX2 tyX2 tyX2_ok nmX2 hown hK hP (hD S17) hS 4 rfl rfl 8 (by decide) kf62 (fun _ h9 => h9) rfl (by decide +kernel) rfl rfl (Nat.le_of_ble_eq_true rfl) dX2_readLeaf_107 (fun H locs hP _ hS => ?_)
          obtain ⟨S19, eS19⟩ : ∃ z : St, z = sI S17 9 ((S17.1 9) + ((S17.2.2 12 xl5.toNatClampNeg) * xl5)) := ⟨_, rfl⟩
          have hP : va_P D vwCl (cw a c S19) H := by rw [eS19]; exact hP
          have h := h S19 eS19
          refine lv_aload_n hx hb dX2_readLeaf_110 rfl (lv_at hl 0 rfl) ?_
          refine va_get (D := D) (ci := 2) (v := .ref (a 18)) (C := RX2) (T := TX2) (N := 15) hx hb hts hinX2 hown hK hP 4 rfl rfl 5 (by decide) kf25 (fun _ h9 => h9) rfl dX2_readLeaf_111 ?_
          refine lv_iload hx hb dX2_readLeaf_114 (lv_at hl 1 rfl) ?_
          refine lv_aload_n hx hb dX2_readLeaf_116 rfl (lv_at hl 0 rfl) ?_
          refine va_get (D := D) (ci := 2) (v := .int (S19.1 8)) (C := RX2) (T := TX2) (N := 15) hx hb hts hinX2 hown hK hP 4 rfl rfl 7 (by decide) kf59 (fun _ h9 => h9) rfl dX2_readLeaf_117 ?_
          obtain ⟨b20, h⟩ := h
          refine va_iast hx hb hK hP (hD S19) hS 18 12 rfl rfl b20 dX2_readLeaf_120 (fun H locs hP _ hS => ?_)
          obtain ⟨S21, eS21⟩ : ∃ z : St, z = sR S19 12 (upd (S19.2.2 12) xl5.toNatClampNeg (S19.1 8)) := ⟨_, rfl⟩
          have hP : va_P D vwCl (cw a c S21) H := by rw [eS21]; exact hP
          have h := h S21 eS21
          refine lv_aload_n hx hb dX2_readLeaf_121 rfl (lv_at hl 0 rfl) ?_
          refine va_get (D := D) (ci := 2) (v := .ref (a 19)) (C := RX2) (T := TX2) (N := 15) hx hb hts hinX2 hown hK hP 4 rfl rfl 6 (by decide) kf28 (fun _ h9 => h9) rfl dX2_readLeaf_122 ?_
          refine lv_iload hx hb dX2_readLeaf_125 (lv_at hl 1 rfl) ?_
          refine lv_aload_n hx hb dX2_readLeaf_127 rfl (lv_at hl 0 rfl) ?_
          refine va_get (D := D) (ci := 2) (v := .int (S21.1 9)) (C := RX2) (T := TX2) (N := 15) hx hb hts hinX2 hown hK hP 4 rfl rfl 8 (by decide) kf62 (fun _ h9 => h9) rfl dX2_readLeaf_128 ?_
          obtain ⟨b22, h⟩ := h
          refine va_iast hx hb hK hP (hD S21) hS 19 13 rfl rfl b22 dX2_readLeaf_131 (fun H locs hP _ hS => ?_)
          obtain ⟨S23, eS23⟩ : ∃ z : St, z = sR S21 13 (upd (S21.2.2 13) xl5.toNatClampNeg (S21.1 9)) := ⟨_, rfl⟩
          have hP : va_P D vwCl (cw a c S23) H := by rw [eS23]; exact hP
          have h := h S23 eS23
          obtain ⟨x24, ex24⟩ : ∃ y : Int32, y = xl5 + 1 := ⟨_, rfl⟩
          have h := h x24 ex24
          refine lv_iinc (v := x24) (lv' := [(5, .int x24), (0, .ref (a 4))]) hx hb dX2_readLeaf_132 hl (k := 1) rfl (by rw [ex24]; rfl) (by decide) rfl (fun ls hl => ?_)
          refine lv_goto (tgt := 67) hx hb dX2_readLeaf_135 (by decide) ?_
          exact (ih).2 x24 S23 _ _ _ h hP hS (lv_sub hl [1, 0] rfl)
  unfold PX2_readLeaf at h
  refine lv_aload_n hx hb dX2_readLeaf_0 rfl (lv_at hl 0 rfl) ?_
  refine va_get (D := D) (ci := 2) (v := .ref (a 18)) (C := RX2) (T := TX2) (N := 15) hx hb hts hinX2 hown hK hP 4 rfl rfl 5 (by decide) kf25 (fun _ h9 => h9) rfl dX2_readLeaf_1 ?_
  refine lv_iconst (v := 0) hx hb dX2_readLeaf_4 (by decide) ?_
  refine k_fill cns_ok cw_F ⟨hx, hb, hml, hown, hts⟩ (va_cwS 2 hts gX2_readLeaf_J7_fill_53178 rfl rfl rfl (by decide +kernel) ⟨Nat.le_of_ble_eq_true rfl, Nat.le_of_ble_eq_true rfl⟩) (u := fun f => sR S 12 f) 18 12 rfl rfl (fun _ => rfl) hP hK (hD S) hN hS hA hl.1 (by decide) (Nat.le_of_ble_eq_true rfl) dX2_readLeaf_5 ⟨Nat.le_of_ble_eq_true rfl, Nat.le_of_ble_eq_true rfl⟩ (fun H locs hP hS => ?_)
  obtain ⟨S1, eS1⟩ : ∃ z : St, z = sR S 12 (g_fill (S.2.2 12) 1001 0) := ⟨_, rfl⟩
  have hP : va_P D vwCl (cw a c S1) H := by rw [eS1]; exact hP
  have h := h S1 eS1
  refine lv_iconst (v := 0) hx hb dX2_readLeaf_8 (by decide) ?_
  refine lv_istore (lv' := [(5, .int 0), (0, .ref (a 4)), (1, .ref (a 2)), (2, .int p1), (3, .int p2), (4, .int p3)]) hx hb dX2_readLeaf_9 hl (by decide) rfl (fun ls hl => ?_)
  exact (key n).1 p1 p2 p3 0 S1 _ _ _ h hP hS (lv_sub hl [1, 2, 3, 4, 5, 0] rfl)
def PX2_mostPots (p0 : Int32) (p1 : Int32) (S : St) (post : Int32 → St → Prop) : Prop := (((S.1 5) ≤ p0 → post 0 S) ∧ (¬ (S.1 5) ≤ p0 → post p1 S))
set_option maxHeartbeats 4000000 in
set_option maxRecDepth 100000 in
theorem tX2_mostPots (l : Launch) (D : va_G) (a : Nat → Nat) (c : Nat → ClassId) (sz : Nat) (p0 : Int32) (p1 : Int32) (S : St) (post : Int32 → St → Prop) (h : PX2_mostPots p0 p1 S post) : Met l yX2_mostPots wsX2_mostPots ({ frames := 0, cells := 0, slots := 0, locals := 0 }) (va_Pc [.ref (a 4), .int p0, .int p1] (gP D (cw a c) (cty c) cns S sz)) (va_Qi post (gB D (cw a c)) (va_A (cw a c S) sz)) 0 0 (va_A (cw a c S) sz) := by
  refine Met.ofW (cc := cX2_mostPots) (maxL := 3) (ret := (some .int)) (by decide) rfl ?_
  intro p e s m args below meth c9 s₁ B hml hv
  obtain ⟨rfl, hsz, hP, hK, hD0, hN⟩ := hv
  have hx := B.exec
  have hb := B.bytes
  have hr := B.returns
  have hts := atoms_spec (ws := wsX2_mostPots) B.pre
  have hown : s.vm.findClass RX2 = some m.cls := findClass_of_methodNamed B.named
  have hlocks := B.notSynchronized
  subst hsz
  have hD1 := hD0.self (sz := s.heap.size)
  generalize hAe : va_A (cw a c S) s.heap.size = A at hD1 ⊢
  have hA : ∀ q : Nat, s.heap.size ≤ q → A q := fun q h => by rw [← hAe]; exact Or.inr h
  have hD : ∀ S2 : St, va_D A (cw a c S2) := gD cw_F hD1
  have hS : va_S A s.heap s.heap [] := va_S.rf
  have hinX2 : ∀ w ∈ wsX20, w ∈ wsX2_mostPots := by decide +kernel
  have kf37 := hts (.fieldLink RX2 37 "CanteenPlan$Kitchen" "sizes" "I") (by decide +kernel)
  have hl := lv_entry ([.ref (a 4), .int p0, .int p1]) (n := 3) (Nat.le_of_ble_eq_true rfl)
  rw [lg_entry_eq]
  generalize (lg_sl ([.ref (a 4), .int p0, .int p1]) ++ List.replicate (3 - (lg_sl ([.ref (a 4), .int p0, .int p1])).length) Slot.unset).toArray = ls at hl ⊢
  have hl : lv_has ls 3 [(0, .ref (a 4)), (1, .int p0), (2, .int p1)] := hl
  unfold PX2_mostPots at h
  refine lv_iload_n hx hb dX2_mostPots_0 rfl (lv_at hl 1 rfl) ?_
  refine lv_aload_n hx hb dX2_mostPots_1 rfl (lv_at hl 0 rfl) ?_
  refine va_get (D := D) (ci := 2) (v := .int (S.1 5)) (C := RX2) (T := TX2) (N := 15) hx hb hts hinX2 hown hK hP 4 rfl rfl 2 (by decide) kf37 (fun _ h9 => h9) rfl dX2_mostPots_2 ?_
  refine lv_icmp_ge (tgt := 12) hx hb dX2_mostPots_5 (by decide) (fun c1 => ?_) (fun c1 => ?_)
  · have h := h.1 c1
    refine lv_iconst (v := 0) hx hb dX2_mostPots_12 (by decide) ?_
    exact g_reti hx hb hr hlocks h hP hS dX2_mostPots_13
  · have h := h.2 c1
    refine lv_iload_n hx hb dX2_mostPots_8 rfl (lv_at hl 2 rfl) ?_
    refine lv_goto (tgt := 13) hx hb dX2_mostPots_9 (by decide) ?_
    exact g_reti hx hb hr hlocks h hP hS dX2_mostPots_13
def PX2_isBetter (p0 : Int64) (p1 : Int32) (p2 : Int32) (S : St) (post : Int32 → St → Prop) : Prop := (((lg_cmp p0 (S.2.1 0)) = 0 → ((p1 = (S.1 11) → (((S.1 12) ≤ p2 → post 0 S) ∧ (¬ (S.1 12) ≤ p2 → post 1 S))) ∧ (¬ p1 = (S.1 11) → (((S.1 11) ≤ p1 → post 0 S) ∧ (¬ (S.1 11) ≤ p1 → post 1 S))))) ∧ (¬ (lg_cmp p0 (S.2.1 0)) = 0 → ((0 ≤ (lg_cmp p0 (S.2.1 0)) → post 0 S) ∧ (¬ 0 ≤ (lg_cmp p0 (S.2.1 0)) → post 1 S))))
set_option maxHeartbeats 4000000 in
set_option maxRecDepth 100000 in
theorem tX2_isBetter (l : Launch) (D : va_G) (a : Nat → Nat) (c : Nat → ClassId) (sz : Nat) (p0 : Int64) (p1 : Int32) (p2 : Int32) (S : St) (post : Int32 → St → Prop) (h : PX2_isBetter p0 p1 p2 S post) : Met l yX2_isBetter wsX2_isBetter ({ frames := 0, cells := 0, slots := 0, locals := 0 }) (va_Pc [.ref (a 4), .long p0, .int p1, .int p2] (gP D (cw a c) (cty c) cns S sz)) (va_Qi post (gB D (cw a c)) (va_A (cw a c S) sz)) 0 0 (va_A (cw a c S) sz) := by
  refine Met.ofW (cc := cX2_isBetter) (maxL := 5) (ret := (some .boolean)) (by decide) rfl ?_
  intro p e s m args below meth c9 s₁ B hml hv
  obtain ⟨rfl, hsz, hP, hK, hD0, hN⟩ := hv
  have hx := B.exec
  have hb := B.bytes
  have hr := B.returns
  have hts := atoms_spec (ws := wsX2_isBetter) B.pre
  have hown : s.vm.findClass RX2 = some m.cls := findClass_of_methodNamed B.named
  have hlocks := B.notSynchronized
  subst hsz
  have hD1 := hD0.self (sz := s.heap.size)
  generalize hAe : va_A (cw a c S) s.heap.size = A at hD1 ⊢
  have hA : ∀ q : Nat, s.heap.size ≤ q → A q := fun q h => by rw [← hAe]; exact Or.inr h
  have hD : ∀ S2 : St, va_D A (cw a c S2) := gD cw_F hD1
  have hS : va_S A s.heap s.heap [] := va_S.rf
  have hinX2 : ∀ w ∈ wsX20, w ∈ wsX2_isBetter := by decide +kernel
  have kf84 := hts (.fieldLink RX2 84 "CanteenPlan$Kitchen" "bestCost" "J") (by decide +kernel)
  have kf88 := hts (.fieldLink RX2 88 "CanteenPlan$Kitchen" "bestPortions" "I") (by decide +kernel)
  have kf91 := hts (.fieldLink RX2 91 "CanteenPlan$Kitchen" "bestPots" "I") (by decide +kernel)
  have hl := lv_entry ([.ref (a 4), .long p0, .int p1, .int p2]) (n := 5) (Nat.le_of_ble_eq_true rfl)
  rw [lg_entry_eq]
  generalize (lg_sl ([.ref (a 4), .long p0, .int p1, .int p2]) ++ List.replicate (5 - (lg_sl ([.ref (a 4), .long p0, .int p1, .int p2])).length) Slot.unset).toArray = ls at hl ⊢
  have hl : lv_has ls 5 [(0, .ref (a 4)), (1, .long p0), (3, .int p1), (4, .int p2)] := hl
  unfold PX2_isBetter at h
  refine lv_lload_n hx hb dX2_isBetter_0 rfl (lv_at hl 1 rfl) ?_
  refine lv_aload_n hx hb dX2_isBetter_1 rfl (lv_at hl 0 rfl) ?_
  refine va_get (D := D) (ci := 2) (v := .long (S.2.1 0)) (C := RX2) (T := TX2) (N := 15) hx hb hts hinX2 hown hK hP 4 rfl rfl 12 (by decide) kf84 (fun _ h9 => h9) rfl dX2_isBetter_2 ?_
  refine W.lcmp hx hb dX2_isBetter_5 ?_
  refine lv_if_eq (tgt := 24) hx hb dX2_isBetter_6 (by decide) (fun c1 => ?_) (fun c1 => ?_)
  · have h := h.1 c1
    refine lv_iload_n hx hb dX2_isBetter_24 rfl (lv_at hl 2 rfl) ?_
    refine lv_aload_n hx hb dX2_isBetter_25 rfl (lv_at hl 0 rfl) ?_
    refine va_get (D := D) (ci := 2) (v := .int (S.1 11)) (C := RX2) (T := TX2) (N := 15) hx hb hts hinX2 hown hK hP 4 rfl rfl 13 (by decide) kf88 (fun _ h9 => h9) rfl dX2_isBetter_26 ?_
    refine lv_icmp_eq (tgt := 48) hx hb dX2_isBetter_29 (by decide) (fun c2 => ?_) (fun c2 => ?_)
    · have h := h.1 c2
      refine lv_iload hx hb dX2_isBetter_48 (lv_at hl 3 rfl) ?_
      refine lv_aload_n hx hb dX2_isBetter_50 rfl (lv_at hl 0 rfl) ?_
      refine va_get (D := D) (ci := 2) (v := .int (S.1 12)) (C := RX2) (T := TX2) (N := 15) hx hb hts hinX2 hown hK hP 4 rfl rfl 14 (by decide) kf91 (fun _ h9 => h9) rfl dX2_isBetter_51 ?_
      refine lv_icmp_ge (tgt := 61) hx hb dX2_isBetter_54 (by decide) (fun c3 => ?_) (fun c3 => ?_)
      · have h := h.1 c3
        refine lv_iconst (v := 0) hx hb dX2_isBetter_61 (by decide) ?_
        exact g_retz hx hb hr hlocks (Or.inl rfl) h hP hS dX2_isBetter_62
      · have h := h.2 c3
        refine lv_iconst (v := 1) hx hb dX2_isBetter_57 (by decide) ?_
        refine lv_goto (tgt := 62) hx hb dX2_isBetter_58 (by decide) ?_
        exact g_retz hx hb hr hlocks (Or.inr rfl) h hP hS dX2_isBetter_62
    · have h := h.2 c2
      refine lv_iload_n hx hb dX2_isBetter_32 rfl (lv_at hl 2 rfl) ?_
      refine lv_aload_n hx hb dX2_isBetter_33 rfl (lv_at hl 0 rfl) ?_
      refine va_get (D := D) (ci := 2) (v := .int (S.1 11)) (C := RX2) (T := TX2) (N := 15) hx hb hts hinX2 hown hK hP 4 rfl rfl 13 (by decide) kf88 (fun _ h9 => h9) rfl dX2_isBetter_34 ?_
      refine lv_icmp_ge (tgt := 44) hx hb dX2_isBetter_37 (by decide) (fun c4 => ?_) (fun c4 => ?_)
      · have h := h.1 c4
        refine lv_iconst (v := 0) hx hb dX2_isBetter_44 (by decide) ?_
        refine lv_goto (tgt := 62) hx hb dX2_isBetter_45 (by decide) ?_
        exact g_retz hx hb hr hlocks (Or.inl rfl) h hP hS dX2_isBetter_62
      · have h := h.2 c4
        refine lv_iconst (v := 1) hx hb dX2_isBetter_40 (by decide) ?_
        refine lv_goto (tgt := 62) hx hb dX2_isBetter_41 (by decide) ?_
        exact g_retz hx hb hr hlocks (Or.inr rfl) h hP hS dX2_isBetter_62
  · have h := h.2 c1
    refine lv_lload_n hx hb dX2_isBetter_9 rfl (lv_at hl 1 rfl) ?_
    refine lv_aload_n hx hb dX2_isBetter_10 rfl (lv_at hl 0 rfl) ?_
    refine va_get (D := D) (ci := 2) (v := .long (S.2.1 0)) (C := RX2) (T := TX2) (N := 15) hx hb hts hinX2 hown hK hP 4 rfl rfl 12 (by decide) kf84 (fun _ h9 => h9) rfl dX2_isBetter_11 ?_
    refine W.lcmp hx hb dX2_isBetter_14 ?_
    refine lv_if_ge (tgt := 22) hx hb dX2_isBetter_15 (by decide) (fun c5 => ?_) (fun c5 => ?_)
    · have h := h.1 c5
      refine lv_iconst (v := 0) hx hb dX2_isBetter_22 (by decide) ?_
      exact g_retz hx hb hr hlocks (Or.inl rfl) h hP hS dX2_isBetter_23
    · have h := h.2 c5
      refine lv_iconst (v := 1) hx hb dX2_isBetter_18 (by decide) ?_
      refine lv_goto (tgt := 23) hx hb dX2_isBetter_19 (by decide) ?_
      exact g_retz hx hb hr hlocks (Or.inr rfl) h hP hS dX2_isBetter_23
def PX2_wasteAndWant (p0 : Int32) (S : St) (post : Int64 → St → Prop) : Prop := ∀ x1 : Int32, x1 = (if 1000 < p0 then 1000 else p0) → (vp_in x1 1001 ∧ (vp_in x1 1001 ∧ ∀ y4 : Int64, y4 = ((p0.toInt64 * (S.2.2 12 x1.toNatClampNeg).toInt64) - (S.2.2 13 x1.toNatClampNeg).toInt64) → (vp_in x1 1001 ∧ (vp_in x1 1001 ∧ ∀ y7 : Int64, y7 = (((S.1 9) - (S.2.2 13 x1.toNatClampNeg)).toInt64 - (p0.toInt64 * ((S.1 8) - (S.2.2 12 x1.toNatClampNeg)).toInt64)) → post (((S.1 6).toInt64 * y4) + ((S.1 7).toInt64 * y7)) S))))
set_option maxHeartbeats 4000000 in
set_option maxRecDepth 100000 in
theorem tX2_wasteAndWant (l : Launch) (D : va_G) (a : Nat → Nat) (c : Nat → ClassId) (sz : Nat) (p0 : Int32) (S : St) (post : Int64 → St → Prop) (h : PX2_wasteAndWant p0 S post) : Met l yX2_wasteAndWant wsX2_wasteAndWant ({ frames := 1, cells := 0, slots := 0, locals := 24 }) (va_Pc [.ref (a 4), .int p0] (gP D (cw a c) (cty c) cns S sz)) (va_Ql post (gB D (cw a c)) (va_A (cw a c S) sz)) 0 0 (va_A (cw a c S) sz) := by
  refine Met.ofW (cc := cX2_wasteAndWant) (maxL := 7) (ret := (some .long)) (by decide) rfl ?_
  intro p e s m args below meth c9 s₁ B hml hv
  obtain ⟨rfl, hsz, hP, hK, hD0, hN⟩ := hv
  have hx := B.exec
  have hb := B.bytes
  have hr := B.returns
  have hts := atoms_spec (ws := wsX2_wasteAndWant) B.pre
  have hown : s.vm.findClass RX2 = some m.cls := findClass_of_methodNamed B.named
  have hlocks := B.notSynchronized
  subst hsz
  have hD1 := hD0.self (sz := s.heap.size)
  generalize hAe : va_A (cw a c S) s.heap.size = A at hD1 ⊢
  have hA : ∀ q : Nat, s.heap.size ≤ q → A q := fun q h => by rw [← hAe]; exact Or.inr h
  have hD : ∀ S2 : St, va_D A (cw a c S2) := gD cw_F hD1
  have hS : va_S A s.heap s.heap [] := va_S.rf
  have hinX2 : ∀ w ∈ wsX20, w ∈ wsX2_wasteAndWant := by decide +kernel
  have kMath := hts (.initialized "java/lang/Math") (by decide +kernel)
  have kdmin := hts (.code Lib.Math.min.name Lib.Math.min.code 2 (some .int)) (by decide +kernel)
  have kf18 := hts (.fieldLink RX2 18 "CanteenPlan$Kitchen" "waste" "I") (by decide +kernel)
  have kf22 := hts (.fieldLink RX2 22 "CanteenPlan$Kitchen" "want" "I") (by decide +kernel)
  have kf25 := hts (.fieldLink RX2 25 "CanteenPlan$Kitchen" "daysUpTo" "[I") (by decide +kernel)
  have kf28 := hts (.fieldLink RX2 28 "CanteenPlan$Kitchen" "sumUpTo" "[I") (by decide +kernel)
  have kf59 := hts (.fieldLink RX2 59 "CanteenPlan$Kitchen" "days" "I") (by decide +kernel)
  have kf62 := hts (.fieldLink RX2 62 "CanteenPlan$Kitchen" "sum" "I") (by decide +kernel)
  have km100 := hts (.methodLink RX2 100 Lib.Math.min.name) (by decide +kernel)
  have ksmin := hts (.static Lib.Math.min.name) (by decide +kernel)
  have hl := lv_entry ([.ref (a 4), .int p0]) (n := 7) (Nat.le_of_ble_eq_true rfl)
  rw [lg_entry_eq]
  generalize (lg_sl ([.ref (a 4), .int p0]) ++ List.replicate (7 - (lg_sl ([.ref (a 4), .int p0])).length) Slot.unset).toArray = ls at hl ⊢
  have hl : lv_has ls 7 [(0, .ref (a 4)), (1, .int p0)] := hl
  unfold PX2_wasteAndWant at h
  refine lv_iload_n hx hb dX2_wasteAndWant_0 rfl (lv_at hl 1 rfl) ?_
  refine lv_sipush (v := 1000) hx hb dX2_wasteAndWant_1 (by decide) ?_
  refine va_mmin hx hb (hml.trans hl.1.symm) hown km100 ksmin kMath kdmin (Nat.le_of_ble_eq_true rfl) (Nat.le_of_ble_eq_true rfl) (Nat.le_of_ble_eq_true rfl) (Nat.le_of_ble_eq_true rfl) dX2_wasteAndWant_4 ?_
  refine lv_topi (fun x1 ex1 => ?_)
  have h := h x1 ex1
  refine lv_istore_n (lv' := [(2, .int x1), (0, .ref (a 4)), (1, .int p0)]) hx hb dX2_wasteAndWant_7 rfl hl (by decide) rfl (fun ls hl => ?_)
  refine lv_iload_n hx hb dX2_wasteAndWant_8 rfl (lv_at hl 2 rfl) ?_
  refine lv_i2l hx hb dX2_wasteAndWant_9 rfl ?_
  refine lv_aload_n hx hb dX2_wasteAndWant_10 rfl (lv_at hl 1 rfl) ?_
  refine va_get (D := D) (ci := 2) (v := .ref (a 18)) (C := RX2) (T := TX2) (N := 15) hx hb hts hinX2 hown hK hP 4 rfl rfl 5 (by decide) kf25 (fun _ h9 => h9) rfl dX2_wasteAndWant_11 ?_
  refine lv_iload_n hx hb dX2_wasteAndWant_14 rfl (lv_at hl 0 rfl) ?_
  obtain ⟨b2, h⟩ := h
  refine va_iald hx hb hK hP 18 12 rfl rfl b2 dX2_wasteAndWant_15 ?_
  refine lv_i2l hx hb dX2_wasteAndWant_16 rfl ?_
  refine lv_lmul hx hb dX2_wasteAndWant_17 ?_
  refine lv_aload_n hx hb dX2_wasteAndWant_18 rfl (lv_at hl 1 rfl) ?_
  refine va_get (D := D) (ci := 2) (v := .ref (a 19)) (C := RX2) (T := TX2) (N := 15) hx hb hts hinX2 hown hK hP 4 rfl rfl 6 (by decide) kf28 (fun _ h9 => h9) rfl dX2_wasteAndWant_19 ?_
  refine lv_iload_n hx hb dX2_wasteAndWant_22 rfl (lv_at hl 0 rfl) ?_
  obtain ⟨b3, h⟩ := h
  refine va_iald hx hb hK hP 19 13 rfl rfl b3 dX2_wasteAndWant_23 ?_
  refine lv_i2l hx hb dX2_wasteAndWant_24 rfl ?_
  refine lv_lsub hx hb dX2_wasteAndWant_25 ?_
  refine lv_topl (fun y4 ey4 => ?_)
  have h := h y4 ey4
  refine lv_lstore_n (lv' := [(3, .long y4), (2, .int x1), (0, .ref (a 4)), (1, .int p0)]) hx hb dX2_wasteAndWant_26 rfl hl (by decide) rfl (fun ls hl => ?_)
  refine lv_aload_n hx hb dX2_wasteAndWant_27 rfl (lv_at hl 2 rfl) ?_
  refine va_get (D := D) (ci := 2) (v := .int (S.1 9)) (C := RX2) (T := TX2) (N := 15) hx hb hts hinX2 hown hK hP 4 rfl rfl 8 (by decide) kf62 (fun _ h9 => h9) rfl dX2_wasteAndWant_28 ?_
  refine lv_aload_n hx hb dX2_wasteAndWant_31 rfl (lv_at hl 2 rfl) ?_
  refine va_get (D := D) (ci := 2) (v := .ref (a 19)) (C := RX2) (T := TX2) (N := 15) hx hb hts hinX2 hown hK hP 4 rfl rfl 6 (by decide) kf28 (fun _ h9 => h9) rfl dX2_wasteAndWant_32 ?_
  refine lv_iload_n hx hb dX2_wasteAndWant_35 rfl (lv_at hl 1 rfl) ?_
  obtain ⟨b5, h⟩ := h
  refine va_iald hx hb hK hP 19 13 rfl rfl b5 dX2_wasteAndWant_36 ?_
  refine lv_isub hx hb dX2_wasteAndWant_37 ?_
  refine lv_i2l hx hb dX2_wasteAndWant_38 rfl ?_
  refine lv_iload_n hx hb dX2_wasteAndWant_39 rfl (lv_at hl 3 rfl) ?_
  refine lv_i2l hx hb dX2_wasteAndWant_40 rfl ?_
  refine lv_aload_n hx hb dX2_wasteAndWant_41 rfl (lv_at hl 2 rfl) ?_
  refine va_get (D := D) (ci := 2) (v := .int (S.1 8)) (C := RX2) (T := TX2) (N := 15) hx hb hts hinX2 hown hK hP 4 rfl rfl 7 (by decide) kf59 (fun _ h9 => h9) rfl dX2_wasteAndWant_42 ?_
  refine lv_aload_n hx hb dX2_wasteAndWant_45 rfl (lv_at hl 2 rfl) ?_
  refine va_get (D := D) (ci := 2) (v := .ref (a 18)) (C := RX2) (T := TX2) (N := 15) hx hb hts hinX2 hown hK hP 4 rfl rfl 5 (by decide) kf25 (fun _ h9 => h9) rfl dX2_wasteAndWant_46 ?_
  refine lv_iload_n hx hb dX2_wasteAndWant_49 rfl (lv_at hl 1 rfl) ?_
  obtain ⟨b6, h⟩ := h
  refine va_iald hx hb hK hP 18 12 rfl rfl b6 dX2_wasteAndWant_50 ?_
  refine lv_isub hx hb dX2_wasteAndWant_51 ?_
  refine lv_i2l hx hb dX2_wasteAndWant_52 rfl ?_
  refine lv_lmul hx hb dX2_wasteAndWant_53 ?_
  refine lv_lsub hx hb dX2_wasteAndWant_54 ?_
  refine lv_topl (fun y7 ey7 => ?_)
  have h := h y7 ey7
  refine lv_lstore (lv' := [(5, .long y7), (3, .long y4), (2, .int x1), (0, .ref (a 4)), (1, .int p0)]) hx hb dX2_wasteAndWant_55 hl (by decide) rfl (fun ls hl => ?_)
  refine lv_aload_n hx hb dX2_wasteAndWant_57 rfl (lv_at hl 3 rfl) ?_
  refine va_get (D := D) (ci := 2) (v := .int (S.1 6)) (C := RX2) (T := TX2) (N := 15) hx hb hts hinX2 hown hK hP 4 rfl rfl 3 (by decide) kf18 (fun _ h9 => h9) rfl dX2_wasteAndWant_58 ?_
  refine lv_i2l hx hb dX2_wasteAndWant_61 rfl ?_
  refine lv_lload_n hx hb dX2_wasteAndWant_62 rfl (lv_at hl 1 rfl) ?_
  refine lv_lmul hx hb dX2_wasteAndWant_63 ?_
  refine lv_aload_n hx hb dX2_wasteAndWant_64 rfl (lv_at hl 3 rfl) ?_
  refine va_get (D := D) (ci := 2) (v := .int (S.1 7)) (C := RX2) (T := TX2) (N := 15) hx hb hts hinX2 hown hK hP 4 rfl rfl 4 (by decide) kf22 (fun _ h9 => h9) rfl dX2_wasteAndWant_65 ?_
  refine lv_i2l hx hb dX2_wasteAndWant_68 rfl ?_
  refine lv_lload hx hb dX2_wasteAndWant_69 (lv_at hl 0 rfl) ?_
  refine lv_lmul hx hb dX2_wasteAndWant_71 ?_
  refine lv_ladd hx hb dX2_wasteAndWant_72 ?_
  exact g_retl hx hb hr hlocks h hP hS dX2_wasteAndWant_73
def BX2_weighTried_0 (X : Int32 → Int32 → Int32 → Int32 → Int64 → St → Prop) (post : St → Prop) (xl1 : Int32) (xl2 : Int32) (xl3 : Int32) (xl6 : Int32) (yl4 : Int64) (S : St) : Prop := (((S.1 5) ≤ xl6 → PX2_wasteAndWant (xl3 + xl1) S (fun y3 S2 => ∀ y4 : Int64, y4 = ((yl4 * (S.1 8).toInt64) + y3) → (((S2.1 10) = 0 → ∀ S6 : St, S6 = sI S2 10 1 → ∀ S7 : St, S7 = sJ S6 0 y4 → ∀ S8 : St, S8 = sI S7 11 xl3 → ∀ S9 : St, S9 = sI S8 12 xl2 → ∀ S10 : St, S10 = sR S9 15 (va_cpy (S9.2.2 14) (S9.2.2 15) 0 0 4) → post S10) ∧ (¬ (S2.1 10) = 0 → PX2_isBetter y4 xl3 xl2 S2 (fun x12 S11 => ((x12 = 0 → post S11) ∧ (¬ x12 = 0 → ∀ S14 : St, S14 = sI S11 10 1 → ∀ S15 : St, S15 = sJ S14 0 y4 → ∀ S16 : St, S16 = sI S15 11 xl3 → ∀ S17 : St, S17 = sI S16 12 xl2 → ∀ S18 : St, S18 = sR S17 15 (va_cpy (S17.2.2 14) (S17.2.2 15) 0 0 4) → post S18))))))) ∧ (¬ (S.1 5) ≤ xl6 → (vp_in xl6 4 ∧ ∀ x20 : Int32, x20 = (xl2 + (S.2.2 14 xl6.toNatClampNeg)) → (vp_in xl6 4 ∧ (vp_in xl6 4 ∧ ∀ x23 : Int32, x23 = (xl3 + ((S.2.2 14 xl6.toNatClampNeg) * (S.2.2 10 xl6.toNatClampNeg))) → (vp_in xl6 4 ∧ (vp_in xl6 4 ∧ ∀ y26 : Int64, y26 = (yl4 + ((S.2.2 14 xl6.toNatClampNeg).toInt64 * (S.2.2 11 xl6.toNatClampNeg).toInt64)) → ∀ x27 : Int32, x27 = xl6 + 1 → X xl1 x20 x23 x27 y26 S)))))))
def LX2_weighTried (post : St → Prop) : Nat → Int32 → Int32 → Int32 → Int32 → Int64 → St → Prop
  | 0, _, _, _, _, _, _ => False
  | n + 1, xl1, xl2, xl3, xl6, yl4, S => BX2_weighTried_0 (LX2_weighTried post n) post xl1 xl2 xl3 xl6 yl4 S
def PX2_weighTried (n : Nat) (p0 : Int32) (S : St) (post : St → Prop) : Prop := LX2_weighTried post n p0 0 0 0 0 S
set_option maxHeartbeats 4000000 in
set_option maxRecDepth 100000 in
theorem tX2_weighTried (l : Launch) (D : va_G) (a : Nat → Nat) (c : Nat → ClassId) (sz : Nat) (n : Nat) (p0 : Int32) (S : St) (post : St → Prop) (h : PX2_weighTried n p0 S post) : Met l yX2_weighTried wsX2_weighTried ({ frames := 2, cells := 0, slots := 0, locals := 64 }) (va_Pc [.ref (a 4), .int p0] (gP D (cw a c) (cty c) cns S sz)) (va_Qv post (gB D (cw a c)) (va_A (cw a c S) sz)) 0 0 (va_A (cw a c S) sz) := by
  refine Met.ofW (cc := cX2_weighTried) (maxL := 8) (ret := none) (by decide) rfl ?_
  intro p e s m args below meth c9 s₁ B hml hv
  obtain ⟨rfl, hsz, hP, hK, hD0, hN⟩ := hv
  have hx := B.exec
  have hb := B.bytes
  have hr := B.returns
  have hts := atoms_spec (ws := wsX2_weighTried) B.pre
  have hown : s.vm.findClass RX2 = some m.cls := findClass_of_methodNamed B.named
  have hlocks := B.notSynchronized
  subst hsz
  have hD1 := hD0.self (sz := s.heap.size)
  generalize hAe : va_A (cw a c S) s.heap.size = A at hD1 ⊢
  have hA : ∀ q : Nat, s.heap.size ≤ q → A q := fun q h => by rw [← hAe]; exact Or.inr h
  have hD : ∀ S2 : St, va_D A (cw a c S2) := gD cw_F hD1
  have hS : va_S A s.heap s.heap [] := va_S.rf
  have hinX2 : ∀ w ∈ wsX20, w ∈ wsX2_weighTried := by decide +kernel
  have kai := hts (.initialized "java/lang/System") (by decide +kernel)
  have kal := hts (.methodLink RX2 94 arraycopyName) (by decide +kernel)
  have kan := hts (.native arraycopyName) (by decide +kernel)
  have kas := hts (.static arraycopyName) (by decide +kernel)
  have kf15 := hts (.fieldLink RX2 15 "CanteenPlan$Kitchen" "price" "[I") (by decide +kernel)
  have kf31 := hts (.fieldLink RX2 31 "CanteenPlan$Kitchen" "tried" "[I") (by decide +kernel)
  have kf34 := hts (.fieldLink RX2 34 "CanteenPlan$Kitchen" "best" "[I") (by decide +kernel)
  have kf37 := hts (.fieldLink RX2 37 "CanteenPlan$Kitchen" "sizes" "I") (by decide +kernel)
  have kf59 := hts (.fieldLink RX2 59 "CanteenPlan$Kitchen" "days" "I") (by decide +kernel)
  have kf65 := hts (.fieldLink RX2 65 "CanteenPlan$Kitchen" "hasBest" "Z") (by decide +kernel)
  have kf84 := hts (.fieldLink RX2 84 "CanteenPlan$Kitchen" "bestCost" "J") (by decide +kernel)
  have kf88 := hts (.fieldLink RX2 88 "CanteenPlan$Kitchen" "bestPortions" "I") (by decide +kernel)
  have kf9 := hts (.fieldLink RX2 9 "CanteenPlan$Kitchen" "portions" "[I") (by decide +kernel)
  have kf91 := hts (.fieldLink RX2 91 "CanteenPlan$Kitchen" "bestPots" "I") (by decide +kernel)
  have hl := lv_entry ([.ref (a 4), .int p0]) (n := 8) (Nat.le_of_ble_eq_true rfl)
  rw [lg_entry_eq]
  generalize (lg_sl ([.ref (a 4), .int p0]) ++ List.replicate (8 - (lg_sl ([.ref (a 4), .int p0])).length) Slot.unset).toArray = ls at hl ⊢
  have hl : lv_has ls 8 [(0, .ref (a 4)), (1, .int p0)] := hl
  have key : ∀ n : Nat, (∀ (xl1 : Int32) (xl2 : Int32) (xl3 : Int32) (yl4 : Int64) (xl6 : Int32) (S : St) (H : Heap) (locs : List Loc) (ls : Array Slot), LX2_weighTried post n xl1 xl2 xl3 xl6 yl4 S → va_P D vwCl (cw a c S) H → va_S A s.heap H locs → lv_has ls 8 [(0, .ref (a 4)), (1, .int xl1), (2, .int xl2), (3, .int xl3), (4, .long yl4), (6, .int xl6)] → W p l e ((headSpec wsX2_weighTried ({ frames := 2, cells := 0, slots := 0, locals := 64 })).room) s m ([.ref (a 4), .int p0]).toArray below meth c9 H locs 0 0 (MQ below (va_Qv post (gB D (cw a c)) A) ([.ref (a 4), .int p0]).toArray s 0 0 A) (F0 m 10 ls [])) := by
    intro n
    induction n with
    | zero => exact fun xl1 xl2 xl3 yl4 xl6 S H locs ls h => h.elim
    | succ n ih =>
      intro xl1 xl2 xl3 yl4 xl6 S H locs ls h hP hS hl
      have h : BX2_weighTried_0 (LX2_weighTried post n) post xl1 xl2 xl3 xl6 yl4 S := h
      unfold BX2_weighTried_0 at h
      refine lv_iload hx hb dX2_weighTried_10 (lv_at hl 5 rfl) ?_
      refine lv_aload_n hx hb dX2_weighTried_12 rfl (lv_at hl 0 rfl) ?_
      refine va_get (D := D) (ci := 2) (v := .int (S.1 5)) (C := RX2) (T := TX2) (N := 15) hx hb hts hinX2 hown hK hP 4 rfl rfl 2 (by decide) kf37 (fun _ h9 => h9) rfl dX2_weighTried_13 ?_
      refine lv_icmp_ge (tgt := 75) hx hb dX2_weighTried_16 (by decide) (fun c1 => ?_) (fun c1 => ?_)
      · have h := h.1 c1
        refine lv_lload hx hb dX2_weighTried_75 (lv_at hl 4 rfl) ?_
        refine lv_aload_n hx hb dX2_weighTried_77 rfl (lv_at hl 0 rfl) ?_
        refine va_get (D := D) (ci := 2) (v := .int (S.1 8)) (C := RX2) (T := TX2) (N := 15) hx hb hts hinX2 hown hK hP 4 rfl rfl 7 (by decide) kf59 (fun _ h9 => h9) rfl dX2_weighTried_78 ?_
        refine lv_i2l hx hb dX2_weighTried_81 rfl ?_
        refine lv_lmul hx hb dX2_weighTried_82 ?_
        refine lv_aload_n hx hb dX2_weighTried_83 rfl (lv_at hl 0 rfl) ?_
        refine lv_iload_n hx hb dX2_weighTried_84 rfl (lv_at hl 3 rfl) ?_
        refine lv_iload_n hx hb dX2_weighTried_85 rfl (lv_at hl 1 rfl) ?_
        refine lv_iadd hx hb dX2_weighTried_86 ?_
        refine k_l (k_runV cns_ok ⟨hx, hb, hml, hown, hts⟩ (tX2_wasteAndWant l D a c _ (xl3 + xl1) S _ h) (cwV 1 hts gX2_weighTried_X2_wasteAndWant rfl rfl rfl (by decide +kernel) ⟨Nat.le_of_ble_eq_true rfl, Nat.le_of_ble_eq_true rfl⟩) (va_recv hK hP (ci := 2) (q0 := 4) rfl rfl) hP hK (hD S) hN rfl rfl hl.1 rfl (lv_room (Nat.le_of_ble_eq_true rfl)) dX2_weighTried_87 ⟨Nat.le_of_ble_eq_true rfl, Nat.le_of_ble_eq_true rfl⟩) hS (hD S) hA (fun y3 S2 H locs h hP hS => ?_)
        refine lv_ladd hx hb dX2_weighTried_90 ?_
        refine lv_topl (fun y4 ey4 => ?_)
        have h := h y4 ey4
        refine lv_lstore (lv' := [(6, .long y4), (0, .ref (a 4)), (1, .int xl1), (2, .int xl2), (3, .int xl3), (4, .long yl4)]) hx hb dX2_weighTried_91 hl (by decide) rfl (fun ls hl => ?_)
        refine lv_aload_n hx hb dX2_weighTried_93 rfl (lv_at hl 1 rfl) ?_
        refine va_get (D := D) (ci := 2) (v := .int (S2.1 10)) (C := RX2) (T := TX2) (N := 15) hx hb hts hinX2 hown hK hP 4 rfl rfl 11 (by decide) kf65 (fun _ h9 => h9) rfl dX2_weighTried_94 ?_
        refine lv_if_eq (tgt := 111) hx hb dX2_weighTried_97 (by decide) (fun c5 => ?_) (fun c5 => ?_)
        · have h := h.1 c5
          refine lv_aload_n hx hb dX2_weighTried_111 rfl (lv_at hl 1 rfl) ?_
          refine lv_iconst (v := 1) hx hb dX2_weighTried_112 (by decide) ?_
          refine va_put (D := D) (ci := 2) (v := .int 1) (ty := .boolean) (C := RX2) (T := TX2) (N := 15) hx hb hts hinX2 tyX2 tyX2_ok nmX2 hown hK hP (hD S2) hS 4 rfl rfl 11 (by decide) kf65 (fun _ h9 => h9) rfl (by decide +kernel) rfl rfl (Nat.le_of_ble_eq_true rfl) dX2_weighTried_113 (fun H locs hP _ hS => ?_)
          obtain ⟨S6, eS6⟩ : ∃ z : St, z = sI S2 10 1 := ⟨_, rfl⟩
          have hP : va_P D vwCl (cw a c S6) H := by rw [eS6]; exact hP
          have h := h S6 eS6
          refine lv_aload_n hx hb dX2_weighTried_116 rfl (lv_at hl 1 rfl) ?_
          refine lv_lload hx hb dX2_weighTried_117 (lv_at hl 0 rfl) ?_
          refine va_put (D := D) (ci := 2) (v := .long y4) (ty := .long) (C := RX2) (T := TX2) (N := 15) hx hb hts hinX2 tyX2 tyX2_ok nmX2 hown hK hP (hD S6) hS 4 rfl rfl 12 (by decide) kf84 (fun _ h9 => h9) rfl (by decide +kernel) rfl rfl (Nat.le_of_ble_eq_true rfl) dX2_weighTried_119 (fun H locs hP _ hS => ?_)
          obtain ⟨S7, eS7⟩ : ∃ z : St, z = sJ S6 0 y4 := ⟨_, rfl⟩
          have hP : va_P D vwCl (cw a c S7) H := by rw [eS7]; exact hP
          have h := h S7 eS7
          refine lv_aload_n hx hb dX2_weighTried_122 rfl (lv_at hl 1 rfl) ?_
          refine lv_iload_n hx hb dX2_weighTried_123 rfl (lv_at hl 4 rfl) ?_
          refine va_put (D := D) (ci := 2) (v := .int xl3) (ty := .int) (C := RX2) (T := TX2) (N := 15) hx hb hts hinX2 tyX2 tyX2_ok nmX2 hown hK hP (hD S7) hS 4 rfl rfl 13 (by decide) kf88 (fun _ h9 => h9) rfl (by decide +kernel) rfl rfl (Nat.le_of_ble_eq_true rfl) dX2_weighTried_124 (fun H locs hP _ hS => ?_)
          obtain ⟨S8, eS8⟩ : ∃ z : St, z = sI S7 11 xl3 := ⟨_, rfl⟩
          have hP : va_P D vwCl (cw a c S8) H := by rw [eS8]; exact hP
          have h := h S8 eS8
          refine lv_aload_n hx hb dX2_weighTried_127 rfl (lv_at hl 1 rfl) ?_
          refine lv_iload_n hx hb dX2_weighTried_128 rfl (lv_at hl 3 rfl) ?_
          refine va_put (D := D) (ci := 2) (v := .int xl2) (ty := .int) (C := RX2) (T := TX2) (N := 15) hx hb hts hinX2 tyX2 tyX2_ok nmX2 hown hK hP (hD S8) hS 4 rfl rfl 14 (by decide) kf91 (fun _ h9 => h9) rfl (by decide +kernel) rfl rfl (Nat.le_of_ble_eq_true rfl) dX2_weighTried_129 (fun H locs hP _ hS => ?_)
          obtain ⟨S9, eS9⟩ : ∃ z : St, z = sI S8 12 xl2 := ⟨_, rfl⟩
          have hP : va_P D vwCl (cw a c S9) H := by rw [eS9]; exact hP
          have h := h S9 eS9
          refine lv_aload_n hx hb dX2_weighTried_132 rfl (lv_at hl 1 rfl) ?_
          refine va_get (D := D) (ci := 2) (v := .ref (a 20)) (C := RX2) (T := TX2) (N := 15) hx hb hts hinX2 hown hK hP 4 rfl rfl 9 (by decide) kf31 (fun _ h9 => h9) rfl dX2_weighTried_133 ?_
          refine lv_iconst (v := 0) hx hb dX2_weighTried_136 (by decide) ?_
          refine lv_aload_n hx hb dX2_weighTried_137 rfl (lv_at hl 1 rfl) ?_
          refine va_get (D := D) (ci := 2) (v := .ref (a 21)) (C := RX2) (T := TX2) (N := 15) hx hb hts hinX2 hown hK hP 4 rfl rfl 10 (by decide) kf34 (fun _ h9 => h9) rfl dX2_weighTried_138 ?_
          refine lv_iconst (v := 0) hx hb dX2_weighTried_141 (by decide) ?_
          refine lv_iconst (v := 4) hx hb dX2_weighTried_142 (by decide) ?_
          refine va_copyi (ty := .int) hx hb (hml.trans hl.1.symm) hown kal kan kas kai hK hP (hD S9) hS 20 21 14 15 rfl rfl rfl rfl rfl (by decide) (by decide) (by decide) (by decide) (by decide) (fun _ _ => rfl) (by decide) (by decide +kernel) dX2_weighTried_143 (fun H locs hP _ hS => ?_)
          obtain ⟨S10, eS10⟩ : ∃ z : St, z = sR S9 15 (va_cpy (S9.2.2 14) (S9.2.2 15) 0 0 4) := ⟨_, rfl⟩
          have hP : va_P D vwCl (cw a c S10) H := by rw [eS10]; exact hP
          have h := h S10 eS10
          exact g_retv hx hb hr hlocks h hP hS dX2_weighTried_146
        · have h := h.2 c5
          refine lv_aload_n hx hb dX2_weighTried_100 rfl (lv_at hl 1 rfl) ?_
          refine lv_lload hx hb dX2_weighTried_101 (lv_at hl 0 rfl) ?_
          refine lv_iload_n hx hb dX2_weighTried_103 rfl (lv_at hl 4 rfl) ?_
          refine lv_iload_n hx hb dX2_weighTried_104 rfl (lv_at hl 3 rfl) ?_
          refine k_i (k_runV cns_ok ⟨hx, hb, hml, hown, hts⟩ (tX2_isBetter l D a c _ y4 xl3 xl2 S2 _ h) (cwV 3 hts gX2_weighTried_X2_isBetter rfl rfl rfl (by decide +kernel) ⟨Nat.le_of_ble_eq_true rfl, Nat.le_of_ble_eq_true rfl⟩) (va_recv hK hP (ci := 2) (q0 := 4) rfl rfl) hP hK (hD S2) hN rfl rfl hl.1 rfl (lv_room (Nat.le_of_ble_eq_true rfl)) dX2_weighTried_105 ⟨Nat.le_of_ble_eq_true rfl, Nat.le_of_ble_eq_true rfl⟩) hS (hD S2) hA (fun x12 S11 H locs h hP hS => ?_)
          refine lv_if_eq (tgt := 146) hx hb dX2_weighTried_108 (by decide) (fun c13 => ?_) (fun c13 => ?_)
          · have h := h.1 c13
            exact g_retv hx hb hr hlocks h hP hS dX2_weighTried_146
          · have h := h.2 c13
            refine lv_aload_n hx hb dX2_weighTried_111 rfl (lv_at hl 1 rfl) ?_
            refine lv_iconst (v := 1) hx hb dX2_weighTried_112 (by decide) ?_
            refine va_put (D := D) (ci := 2) (v := .int 1) (ty := .boolean) (C := RX2) (T := TX2) (N := 15) hx hb hts hinX2 tyX2 tyX2_ok nmX2 hown hK hP (hD S11) hS 4 rfl rfl 11 (by decide) kf65 (fun _ h9 => h9) rfl (by decide +kernel) rfl rfl (Nat.le_of_ble_eq_true rfl) dX2_weighTried_113 (fun H locs hP _ hS => ?_)
            obtain ⟨S14, eS14⟩ : ∃ z : St, z = sI S11 10 1 := ⟨_, rfl⟩
            have hP : va_P D vwCl (cw a c S14) H := by rw [eS14]; exact hP
            have h := h S14 eS14
            refine lv_aload_n hx hb dX2_weighTried_116 rfl (lv_at hl 1 rfl) ?_
            refine lv_lload hx hb dX2_weighTried_117 (lv_at hl 0 rfl) ?_
            refine va_put (D := D) (ci := 2) (v := .long y4) (ty := .long) (C := RX2) (T := TX2) (N := 15) hx hb hts hinX2 tyX2 tyX2_ok nmX2 hown hK hP (hD S14) hS 4 rfl rfl 12 (by decide) kf84 (fun _ h9 => h9) rfl (by decide +kernel) rfl rfl (Nat.le_of_ble_eq_true rfl) dX2_weighTried_119 (fun H locs hP _ hS => ?_)
            obtain ⟨S15, eS15⟩ : ∃ z : St, z = sJ S14 0 y4 := ⟨_, rfl⟩
            have hP : va_P D vwCl (cw a c S15) H := by rw [eS15]; exact hP
            have h := h S15 eS15
            refine lv_aload_n hx hb dX2_weighTried_122 rfl (lv_at hl 1 rfl) ?_
            refine lv_iload_n hx hb dX2_weighTried_123 rfl (lv_at hl 4 rfl) ?_
            refine va_put (D := D) (ci := 2) (v := .int xl3) (ty := .int) (C := RX2) (T := TX2) (N := 15) hx hb hts hinX2 tyX2 tyX2_ok nmX2 hown hK hP (hD S15) hS 4 rfl rfl 13 (by decide) kf88 (fun _ h9 => h9) rfl (by decide +kernel) rfl rfl (Nat.le_of_ble_eq_true rfl) dX2_weighTried_124 (fun H locs hP _ hS => ?_)
            obtain ⟨S16, eS16⟩ : ∃ z : St, z = sI S15 11 xl3 := ⟨_, rfl⟩
            have hP : va_P D vwCl (cw a c S16) H := by rw [eS16]; exact hP
            have h := h S16 eS16
            refine lv_aload_n hx hb dX2_weighTried_127 rfl (lv_at hl 1 rfl) ?_
            refine lv_iload_n hx hb dX2_weighTried_128 rfl (lv_at hl 3 rfl) ?_
            refine va_put (D := D) (ci := 2) (v := .int xl2) (ty := .int) (C := RX2) (T := TX2) (N := 15) hx hb hts hinX2 tyX2 tyX2_ok nmX2 hown hK hP (hD S16) hS 4 rfl rfl 14 (by decide) kf91 (fun _ h9 => h9) rfl (by decide +kernel) rfl rfl (Nat.le_of_ble_eq_true rfl) dX2_weighTried_129 (fun H locs hP _ hS => ?_)
            obtain ⟨S17, eS17⟩ : ∃ z : St, z = sI S16 12 xl2 := ⟨_, rfl⟩
            have hP : va_P D vwCl (cw a c S17) H := by rw [eS17]; exact hP
            have h := h S17 eS17
            refine lv_aload_n hx hb dX2_weighTried_132 rfl (lv_at hl 1 rfl) ?_
            refine va_get (D := D) (ci := 2) (v := .ref (a 20)) (C := RX2) (T := TX2) (N := 15) hx hb hts hinX2 hown hK hP 4 rfl rfl 9 (by decide) kf31 (fun _ h9 => h9) rfl dX2_weighTried_133 ?_
            refine lv_iconst (v := 0) hx hb dX2_weighTried_136 (by decide) ?_
            refine lv_aload_n hx hb dX2_weighTried_137 rfl (lv_at hl 1 rfl) ?_
            refine va_get (D := D) (ci := 2) (v := .ref (a 21)) (C := RX2) (T := TX2) (N := 15) hx hb hts hinX2 hown hK hP 4 rfl rfl 10 (by decide) kf34 (fun _ h9 => h9) rfl dX2_weighTried_138 ?_
            refine lv_iconst (v := 0) hx hb dX2_weighTried_141 (by decide) ?_
            refine lv_iconst (v := 4) hx hb dX2_weighTried_142 (by decide) ?_
            refine va_copyi (ty := .int) hx hb (hml.trans hl.1.symm) hown kal kan kas kai hK hP (hD S17) hS 20 21 14 15 rfl rfl rfl rfl rfl (by decide) (by decide) (by decide) (by decide) (by decide) (fun _ _ => rfl) (by decide) (by decide +kernel) dX2_weighTried_143 (fun H locs hP _ hS => ?_)
            obtain ⟨S18, eS18⟩ : ∃ z : St, z = sR S17 15 (va_cpy (S17.2.2 14) (S17.2.2 15) 0 0 4) := ⟨_, rfl⟩
            have hP : va_P D vwCl (cw a c S18) H := by rw [eS18]; exact hP
            have h := h S18 eS18
            exact g_retv hx hb hr hlocks h hP hS dX2_weighTried_146
      · have h := h.2 c1
        refine lv_iload_n hx hb dX2_weighTried_19 rfl (lv_at hl 2 rfl) ?_
        refine lv_aload_n hx hb dX2_weighTried_20 rfl (lv_at hl 0 rfl) ?_
        refine va_get (D := D) (ci := 2) (v := .ref (a 20)) (C := RX2) (T := TX2) (N := 15) hx hb hts hinX2 hown hK hP 4 rfl rfl 9 (by decide) kf31 (fun _ h9 => h9) rfl dX2_weighTried_21 ?_
        refine lv_iload hx hb dX2_weighTried_24 (lv_at hl 5 rfl) ?_
        obtain ⟨b19, h⟩ := h
        refine va_iald hx hb hK hP 20 14 rfl rfl b19 dX2_weighTried_26 ?_
        refine lv_iadd hx hb dX2_weighTried_27 ?_
        refine lv_topi (fun x20 ex20 => ?_)
        have h := h x20 ex20
        refine lv_istore_n (lv' := [(2, .int x20), (0, .ref (a 4)), (1, .int xl1), (3, .int xl3), (4, .long yl4), (6, .int xl6)]) hx hb dX2_weighTried_28 rfl hl (by decide) rfl (fun ls hl => ?_)
        refine lv_iload_n hx hb dX2_weighTried_29 rfl (lv_at hl 3 rfl) ?_
        refine lv_aload_n hx hb dX2_weighTried_30 rfl (lv_at hl 1 rfl) ?_
        refine va_get (D := D) (ci := 2) (v := .ref (a 20)) (C := RX2) (T := TX2) (N := 15) hx hb hts hinX2 hown hK hP 4 rfl rfl 9 (by decide) kf31 (fun _ h9 => h9) rfl dX2_weighTried_31 ?_
        refine lv_iload hx hb dX2_weighTried_34 (lv_at hl 5 rfl) ?_
        obtain ⟨b21, h⟩ := h
        refine va_iald hx hb hK hP 20 14 rfl rfl b21 dX2_weighTried_36 ?_
        refine lv_aload_n hx hb dX2_weighTried_37 rfl (lv_at hl 1 rfl) ?_
        refine va_get (D := D) (ci := 2) (v := .ref (a 16)) (C := RX2) (T := TX2) (N := 15) hx hb hts hinX2 hown hK hP 4 rfl rfl 0 (by decide) kf9 (fun _ h9 => h9) rfl dX2_weighTried_38 ?_
        refine lv_iload hx hb dX2_weighTried_41 (lv_at hl 5 rfl) ?_
        obtain ⟨b22, h⟩ := h
        refine va_iald hx hb hK hP 16 10 rfl rfl b22 dX2_weighTried_43 ?_
        refine lv_imul hx hb dX2_weighTried_44 ?_
        refine lv_iadd hx hb dX2_weighTried_45 ?_
        refine lv_topi (fun x23 ex23 => ?_)
        have h := h x23 ex23
        refine lv_istore_n (lv' := [(3, .int x23), (2, .int x20), (0, .ref (a 4)), (1, .int xl1), (4, .long yl4), (6, .int xl6)]) hx hb dX2_weighTried_46 rfl hl (by decide) rfl (fun ls hl => ?_)
        refine lv_lload hx hb dX2_weighTried_47 (lv_at hl 4 rfl) ?_
        refine lv_aload_n hx hb dX2_weighTried_49 rfl (lv_at hl 2 rfl) ?_
        refine va_get (D := D) (ci := 2) (v := .ref (a 20)) (C := RX2) (T := TX2) (N := 15) hx hb hts hinX2 hown hK hP 4 rfl rfl 9 (by decide) kf31 (fun _ h9 => h9) rfl dX2_weighTried_50 ?_
        refine lv_iload hx hb dX2_weighTried_53 (lv_at hl 5 rfl) ?_
        obtain ⟨b24, h⟩ := h
        refine va_iald hx hb hK hP 20 14 rfl rfl b24 dX2_weighTried_55 ?_
        refine lv_i2l hx hb dX2_weighTried_56 rfl ?_
        refine lv_aload_n hx hb dX2_weighTried_57 rfl (lv_at hl 2 rfl) ?_
        refine va_get (D := D) (ci := 2) (v := .ref (a 17)) (C := RX2) (T := TX2) (N := 15) hx hb hts hinX2 hown hK hP 4 rfl rfl 1 (by decide) kf15 (fun _ h9 => h9) rfl dX2_weighTried_58 ?_
        refine lv_iload hx hb dX2_weighTried_61 (lv_at hl 5 rfl) ?_
        obtain ⟨b25, h⟩ := h
        refine va_iald hx hb hK hP 17 11 rfl rfl b25 dX2_weighTried_63 ?_
        refine lv_i2l hx hb dX2_weighTried_64 rfl ?_
        refine lv_lmul hx hb dX2_weighTried_65 ?_
        refine lv_ladd hx hb dX2_weighTried_66 ?_
        refine lv_topl (fun y26 ey26 => ?_)
        have h := h y26 ey26
        refine lv_lstore (lv' := [(4, .long y26), (3, .int x23), (2, .int x20), (0, .ref (a 4)), (1, .int xl1), (6, .int xl6)]) hx hb dX2_weighTried_67 hl (by decide) rfl (fun ls hl => ?_)
        obtain ⟨x27, ex27⟩ : ∃ y : Int32, y = xl6 + 1 := ⟨_, rfl⟩
        have h := h x27 ex27
        refine lv_iinc (v := x27) (lv' := [(6, .int x27), (4, .long y26), (3, .int x23), (2, .int x20), (0, .ref (a 4)), (1, .int xl1)]) hx hb dX2_weighTried_69 hl (k := 5) rfl (by rw [ex27]; rfl) (by decide) rfl (fun ls hl => ?_)
        refine lv_goto (tgt := 10) hx hb dX2_weighTried_72 (by decide) ?_
        exact (ih) xl1 x20 x23 y26 x27 S _ _ _ h hP hS (lv_sub hl [4, 5, 3, 2, 1, 0] rfl)
  unfold PX2_weighTried at h
  refine lv_iconst (v := 0) hx hb dX2_weighTried_0 (by decide) ?_
  refine lv_istore_n (lv' := [(2, .int 0), (0, .ref (a 4)), (1, .int p0)]) hx hb dX2_weighTried_1 rfl hl (by decide) rfl (fun ls hl => ?_)
  refine lv_iconst (v := 0) hx hb dX2_weighTried_2 (by decide) ?_
  refine lv_istore_n (lv' := [(3, .int 0), (2, .int 0), (0, .ref (a 4)), (1, .int p0)]) hx hb dX2_weighTried_3 rfl hl (by decide) rfl (fun ls hl => ?_)
  refine lv_lconst (v := 0) hx hb dX2_weighTried_4 (by decide) ?_
  refine lv_lstore (lv' := [(4, .long 0), (3, .int 0), (2, .int 0), (0, .ref (a 4)), (1, .int p0)]) hx hb dX2_weighTried_5 hl (by decide) rfl (fun ls hl => ?_)
  refine lv_iconst (v := 0) hx hb dX2_weighTried_7 (by decide) ?_
  refine lv_istore (lv' := [(6, .int 0), (4, .long 0), (3, .int 0), (2, .int 0), (0, .ref (a 4)), (1, .int p0)]) hx hb dX2_weighTried_8 hl (by decide) rfl (fun ls hl => ?_)
  exact (key n) p0 0 0 0 0 S _ _ _ h hP hS (lv_sub hl [4, 5, 3, 2, 1, 0] rfl)
def BX2_findBest_0 (X : Nat → Int32 → Int32 → Int32 → Int32 → Int32 → St → Prop) (post : St → Prop) (xl1 : Int32) (xl2 : Int32) (xl3 : Int32) (xl4 : Int32) (xl5 : Int32) (S : St) : Prop := ((xl2 < 0 → post S) ∧ (¬ xl2 < 0 → (vp_in 0 4 ∧ ∀ S6 : St, S6 = sR S 14 (upd (S.2.2 14) (0 : Int32).toNatClampNeg xl2) → PX2_mostPots 1 (12 - xl2) S6 (fun x8 S7 => X 1 xl1 xl2 x8 0 0 S7))))
def BX2_findBest_1 (X : Nat → Int32 → Int32 → Int32 → Int32 → Int32 → St → Prop) (post : St → Prop) (xl1 : Int32) (xl2 : Int32) (xl3 : Int32) (xl4 : Int32) (xl5 : Int32) (S : St) : Prop := ((xl3 < 0 → ∀ x10 : Int32, x10 = xl2 + (-1) → X 0 xl1 x10 0 0 0 S) ∧ (¬ xl3 < 0 → (vp_in 1 4 ∧ ∀ S12 : St, S12 = sR S 14 (upd (S.2.2 14) (1 : Int32).toNatClampNeg xl3) → PX2_mostPots 2 ((12 - xl2) - xl3) S12 (fun x14 S13 => X 2 xl1 xl2 xl3 x14 0 S13))))
def BX2_findBest_2 (X : Nat → Int32 → Int32 → Int32 → Int32 → Int32 → St → Prop) (post : St → Prop) (xl1 : Int32) (xl2 : Int32) (xl3 : Int32) (xl4 : Int32) (xl5 : Int32) (S : St) : Prop := ((xl4 < 0 → ∀ x16 : Int32, x16 = xl3 + (-1) → X 1 xl1 xl2 x16 0 0 S) ∧ (¬ xl4 < 0 → (vp_in 2 4 ∧ ∀ S18 : St, S18 = sR S 14 (upd (S.2.2 14) (2 : Int32).toNatClampNeg xl4) → PX2_mostPots 3 (((12 - xl2) - xl3) - xl4) S18 (fun x20 S19 => X 3 xl1 xl2 xl3 xl4 x20 S19))))
def BX2_findBest_3 (X : Nat → Int32 → Int32 → Int32 → Int32 → Int32 → St → Prop) (post : St → Prop) (xl1 : Int32) (xl2 : Int32) (xl3 : Int32) (xl4 : Int32) (xl5 : Int32) (S : St) : Prop := ((xl5 < 0 → ∀ x22 : Int32, x22 = xl4 + (-1) → X 2 xl1 xl2 xl3 x22 0 S) ∧ (¬ xl5 < 0 → (vp_in 3 4 ∧ ∀ S24 : St, S24 = sR S 14 (upd (S.2.2 14) (3 : Int32).toNatClampNeg xl5) → ∃ k : Nat, PX2_weighTried k xl1 S24 (fun S25 => ∀ x27 : Int32, x27 = xl5 + (-1) → X 3 xl1 xl2 xl3 xl4 x27 S25))))
def LX2_findBest (post : St → Prop) : Nat → Nat → Int32 → Int32 → Int32 → Int32 → Int32 → St → Prop
  | 0, _, _, _, _, _, _, _ => False
  | n + 1, 0, xl1, xl2, xl3, xl4, xl5, S => BX2_findBest_0 (LX2_findBest post n) post xl1 xl2 xl3 xl4 xl5 S
  | n + 1, 1, xl1, xl2, xl3, xl4, xl5, S => BX2_findBest_1 (LX2_findBest post n) post xl1 xl2 xl3 xl4 xl5 S
  | n + 1, 2, xl1, xl2, xl3, xl4, xl5, S => BX2_findBest_2 (LX2_findBest post n) post xl1 xl2 xl3 xl4 xl5 S
  | n + 1, 3, xl1, xl2, xl3, xl4, xl5, S => BX2_findBest_3 (LX2_findBest post n) post xl1 xl2 xl3 xl4 xl5 S
  | _ + 1, _ + 4, _, _, _, _, _, _ => False
def PX2_findBest (n : Nat) (p0 : Int32) (S : St) (post : St → Prop) : Prop := ∀ S1 : St, S1 = sI S 10 0 → PX2_mostPots 0 12 S1 (fun x3 S2 => LX2_findBest post n 0 p0 x3 0 0 0 S2)
set_option maxHeartbeats 4000000 in
set_option maxRecDepth 100000 in
theorem tX2_findBest (l : Launch) (D : va_G) (a : Nat → Nat) (c : Nat → ClassId) (sz : Nat) (n : Nat) (p0 : Int32) (S : St) (post : St → Prop) (h : PX2_findBest n p0 S post) : Met l yX2_findBest wsX2_findBest ({ frames := 3, cells := 0, slots := 0, locals := 91 }) (va_Pc [.ref (a 4), .int p0] (gP D (cw a c) (cty c) cns S sz)) (va_Qv post (gB D (cw a c)) (va_A (cw a c S) sz)) 0 0 (va_A (cw a c S) sz) := by
  refine Met.ofW (cc := cX2_findBest) (maxL := 6) (ret := none) (by decide) rfl ?_
  intro p e s m args below meth c9 s₁ B hml hv
  obtain ⟨rfl, hsz, hP, hK, hD0, hN⟩ := hv
  have hx := B.exec
  have hb := B.bytes
  have hr := B.returns
  have hts := atoms_spec (ws := wsX2_findBest) B.pre
  have hown : s.vm.findClass RX2 = some m.cls := findClass_of_methodNamed B.named
  have hlocks := B.notSynchronized
  subst hsz
  have hD1 := hD0.self (sz := s.heap.size)
  generalize hAe : va_A (cw a c S) s.heap.size = A at hD1 ⊢
  have hA : ∀ q : Nat, s.heap.size ≤ q → A q := fun q h => by rw [← hAe]; exact Or.inr h
  have hD : ∀ S2 : St, va_D A (cw a c S2) := gD cw_F hD1
  have hS : va_S A s.heap s.heap [] := va_S.rf
  have hinX2 : ∀ w ∈ wsX20, w ∈ wsX2_findBest := by decide +kernel
  have kf31 := hts (.fieldLink RX2 31 "CanteenPlan$Kitchen" "tried" "[I") (by decide +kernel)
  have kf65 := hts (.fieldLink RX2 65 "CanteenPlan$Kitchen" "hasBest" "Z") (by decide +kernel)
  have hl := lv_entry ([.ref (a 4), .int p0]) (n := 6) (Nat.le_of_ble_eq_true rfl)
  rw [lg_entry_eq]
  generalize (lg_sl ([.ref (a 4), .int p0]) ++ List.replicate (6 - (lg_sl ([.ref (a 4), .int p0])).length) Slot.unset).toArray = ls at hl ⊢
  have hl : lv_has ls 6 [(0, .ref (a 4)), (1, .int p0)] := hl
  have key : ∀ n : Nat, (∀ (xl1 : Int32) (xl2 : Int32) (S : St) (H : Heap) (locs : List Loc) (ls : Array Slot), LX2_findBest post n 0 xl1 xl2 0 0 0 S → va_P D vwCl (cw a c S) H → va_S A s.heap H locs → lv_has ls 6 [(0, .ref (a 4)), (1, .int xl1), (2, .int xl2)] → W p l e ((headSpec wsX2_findBest ({ frames := 3, cells := 0, slots := 0, locals := 91 })).room) s m ([.ref (a 4), .int p0]).toArray below meth c9 H locs 0 0 (MQ below (va_Qv post (gB D (cw a c)) A) ([.ref (a 4), .int p0]).toArray s 0 0 A) (F0 m 13 ls [])) ∧ (∀ (xl1 : Int32) (xl2 : Int32) (xl3 : Int32) (S : St) (H : Heap) (locs : List Loc) (ls : Array Slot), LX2_findBest post n 1 xl1 xl2 xl3 0 0 S → va_P D vwCl (cw a c S) H → va_S A s.heap H locs → lv_has ls 6 [(0, .ref (a 4)), (1, .int xl1), (2, .int xl2), (3, .int xl3)] → W p l e ((headSpec wsX2_findBest ({ frames := 3, cells := 0, slots := 0, locals := 91 })).room) s m ([.ref (a 4), .int p0]).toArray below meth c9 H locs 0 0 (MQ below (va_Qv post (gB D (cw a c)) A) ([.ref (a 4), .int p0]).toArray s 0 0 A) (F0 m 34 ls [])) ∧ (∀ (xl1 : Int32) (xl2 : Int32) (xl3 : Int32) (xl4 : Int32) (S : St) (H : Heap) (locs : List Loc) (ls : Array Slot), LX2_findBest post n 2 xl1 xl2 xl3 xl4 0 S → va_P D vwCl (cw a c S) H → va_S A s.heap H locs → lv_has ls 6 [(0, .ref (a 4)), (1, .int xl1), (2, .int xl2), (3, .int xl3), (4, .int xl4)] → W p l e ((headSpec wsX2_findBest ({ frames := 3, cells := 0, slots := 0, locals := 91 })).room) s m ([.ref (a 4), .int p0]).toArray below meth c9 H locs 0 0 (MQ below (va_Qv post (gB D (cw a c)) A) ([.ref (a 4), .int p0]).toArray s 0 0 A) (F0 m 58 ls [])) ∧ (∀ (xl1 : Int32) (xl2 : Int32) (xl3 : Int32) (xl4 : Int32) (xl5 : Int32) (S : St) (H : Heap) (locs : List Loc) (ls : Array Slot), LX2_findBest post n 3 xl1 xl2 xl3 xl4 xl5 S → va_P D vwCl (cw a c S) H → va_S A s.heap H locs → lv_has ls 6 [(0, .ref (a 4)), (1, .int xl1), (2, .int xl2), (3, .int xl3), (4, .int xl4), (5, .int xl5)] → W p l e ((headSpec wsX2_findBest ({ frames := 3, cells := 0, slots := 0, locals := 91 })).room) s m ([.ref (a 4), .int p0]).toArray below meth c9 H locs 0 0 (MQ below (va_Qv post (gB D (cw a c)) A) ([.ref (a 4), .int p0]).toArray s 0 0 A) (F0 m 87 ls [])) := by
    intro n
    induction n with
    | zero => exact ⟨fun xl1 xl2 S H locs ls h => h.elim, fun xl1 xl2 xl3 S H locs ls h => h.elim, fun xl1 xl2 xl3 xl4 S H locs ls h => h.elim, fun xl1 xl2 xl3 xl4 xl5 S H locs ls h => h.elim⟩
    | succ n ih =>
      refine ⟨?_, ?_, ?_, ?_⟩
      · intro xl1 xl2 S H locs ls h hP hS hl
        have h : BX2_findBest_0 (LX2_findBest post n) post xl1 xl2 0 0 0 S := h
        unfold BX2_findBest_0 at h
        refine lv_iload_n hx hb dX2_findBest_13 rfl (lv_at hl 2 rfl) ?_
        refine lv_if_lt (tgt := 129) hx hb dX2_findBest_14 (by decide) (fun c4 => ?_) (fun c4 => ?_)
        · have h := h.1 c4
          exact g_retv hx hb hr hlocks h hP hS dX2_findBest_129
        · have h := h.2 c4
          refine lv_aload_n hx hb dX2_findBest_17 rfl (lv_at hl 0 rfl) ?_
          refine va_get (D := D) (ci := 2) (v := .ref (a 20)) (C := RX2) (T := TX2) (N := 15) hx hb hts hinX2 hown hK hP 4 rfl rfl 9 (by decide) kf31 (fun _ h9 => h9) rfl dX2_findBest_18 ?_
          refine lv_iconst (v := 0) hx hb dX2_findBest_21 (by decide) ?_
          refine lv_iload_n hx hb dX2_findBest_22 rfl (lv_at hl 2 rfl) ?_
          obtain ⟨b5, h⟩ := h
          refine va_iast hx hb hK hP (hD S) hS 20 14 rfl rfl b5 dX2_findBest_23 (fun H locs hP _ hS => ?_)
          obtain ⟨S6, eS6⟩ : ∃ z : St, z = sR S 14 (upd (S.2.2 14) (0 : Int32).toNatClampNeg xl2) := ⟨_, rfl⟩
          have hP : va_P D vwCl (cw a c S6) H := by rw [eS6]; exact hP
          have h := h S6 eS6
          refine lv_aload_n hx hb dX2_findBest_24 rfl (lv_at hl 0 rfl) ?_
          refine lv_iconst (v := 1) hx hb dX2_findBest_25 (by decide) ?_
          refine lv_bipush (v := 12) hx hb dX2_findBest_26 (by decide) ?_
          refine lv_iload_n hx hb dX2_findBest_28 rfl (lv_at hl 2 rfl) ?_
          refine lv_isub hx hb dX2_findBest_29 ?_
          refine k_i (k_runV cns_ok ⟨hx, hb, hml, hown, hts⟩ (tX2_mostPots l D a c _ 1 (12 - xl2) S6 _ h) (cwV 2 hts gX2_findBest_X2_mostPots rfl rfl rfl (by decide +kernel) ⟨Nat.le_of_ble_eq_true rfl, Nat.le_of_ble_eq_true rfl⟩) (va_recv hK hP (ci := 2) (q0 := 4) rfl rfl) hP hK (hD S6) hN rfl rfl hl.1 rfl (lv_room (Nat.le_of_ble_eq_true rfl)) dX2_findBest_30 ⟨Nat.le_of_ble_eq_true rfl, Nat.le_of_ble_eq_true rfl⟩) hS (hD S6) hA (fun x8 S7 H locs h hP hS => ?_)
          refine lv_istore_n (lv' := [(3, .int x8), (0, .ref (a 4)), (1, .int xl1), (2, .int xl2)]) hx hb dX2_findBest_33 rfl hl (by decide) rfl (fun ls hl => ?_)
          exact (ih).2.1 xl1 xl2 x8 S7 _ _ _ h hP hS (lv_sub hl [1, 2, 3, 0] rfl)
      · intro xl1 xl2 xl3 S H locs ls h hP hS hl
        have h : BX2_findBest_1 (LX2_findBest post n) post xl1 xl2 xl3 0 0 S := h
        unfold BX2_findBest_1 at h
        refine lv_iload_n hx hb dX2_findBest_34 rfl (lv_at hl 3 rfl) ?_
        refine lv_if_lt (tgt := 123) hx hb dX2_findBest_35 (by decide) (fun c9 => ?_) (fun c9 => ?_)
        · have h := h.1 c9
          obtain ⟨x10, ex10⟩ : ∃ y : Int32, y = xl2 + (-1) := ⟨_, rfl⟩
          have h := h x10 ex10
          refine lv_iinc (v := x10) (lv' := [(2, .int x10), (0, .ref (a 4)), (1, .int xl1), (3, .int xl3)]) hx hb dX2_findBest_123 hl (k := 2) rfl (by rw [ex10]; rfl) (by decide) rfl (fun ls hl => ?_)
          refine lv_goto (tgt := 13) hx hb dX2_findBest_126 (by decide) ?_
          exact (ih).1 xl1 x10 S _ _ _ h hP hS (lv_sub hl [1, 2, 0] rfl)
        · have h := h.2 c9
          refine lv_aload_n hx hb dX2_findBest_38 rfl (lv_at hl 0 rfl) ?_
          refine va_get (D := D) (ci := 2) (v := .ref (a 20)) (C := RX2) (T := TX2) (N := 15) hx hb hts hinX2 hown hK hP 4 rfl rfl 9 (by decide) kf31 (fun _ h9 => h9) rfl dX2_findBest_39 ?_
          refine lv_iconst (v := 1) hx hb dX2_findBest_42 (by decide) ?_
          refine lv_iload_n hx hb dX2_findBest_43 rfl (lv_at hl 3 rfl) ?_
          obtain ⟨b11, h⟩ := h
          refine va_iast hx hb hK hP (hD S) hS 20 14 rfl rfl b11 dX2_findBest_44 (fun H locs hP _ hS => ?_)
          obtain ⟨S12, eS12⟩ : ∃ z : St, z = sR S 14 (upd (S.2.2 14) (1 : Int32).toNatClampNeg xl3) := ⟨_, rfl⟩
          have hP : va_P D vwCl (cw a c S12) H := by rw [eS12]; exact hP
          have h := h S12 eS12
          refine lv_aload_n hx hb dX2_findBest_45 rfl (lv_at hl 0 rfl) ?_
          refine lv_iconst (v := 2) hx hb dX2_findBest_46 (by decide) ?_
          refine lv_bipush (v := 12) hx hb dX2_findBest_47 (by decide) ?_
          refine lv_iload_n hx hb dX2_findBest_49 rfl (lv_at hl 2 rfl) ?_
          refine lv_isub hx hb dX2_findBest_50 ?_
          refine lv_iload_n hx hb dX2_findBest_51 rfl (lv_at hl 3 rfl) ?_
          refine lv_isub hx hb dX2_findBest_52 ?_
          refine k_i (k_runV cns_ok ⟨hx, hb, hml, hown, hts⟩ (tX2_mostPots l D a c _ 2 ((12 - xl2) - xl3) S12 _ h) (cwV 2 hts gX2_findBest_X2_mostPots rfl rfl rfl (by decide +kernel) ⟨Nat.le_of_ble_eq_true rfl, Nat.le_of_ble_eq_true rfl⟩) (va_recv hK hP (ci := 2) (q0 := 4) rfl rfl) hP hK (hD S12) hN rfl rfl hl.1 rfl (lv_room (Nat.le_of_ble_eq_true rfl)) dX2_findBest_53 ⟨Nat.le_of_ble_eq_true rfl, Nat.le_of_ble_eq_true rfl⟩) hS (hD S12) hA (fun x14 S13 H locs h hP hS => ?_)
          refine lv_istore (lv' := [(4, .int x14), (0, .ref (a 4)), (1, .int xl1), (2, .int xl2), (3, .int xl3)]) hx hb dX2_findBest_56 hl (by decide) rfl (fun ls hl => ?_)
          exact (ih).2.2.1 xl1 xl2 xl3 x14 S13 _ _ _ h hP hS (lv_sub hl [1, 2, 3, 4, 0] rfl)
      · intro xl1 xl2 xl3 xl4 S H locs ls h hP hS hl
        have h : BX2_findBest_2 (LX2_findBest post n) post xl1 xl2 xl3 xl4 0 S := h
        unfold BX2_findBest_2 at h
        refine lv_iload hx hb dX2_findBest_58 (lv_at hl 4 rfl) ?_
        refine lv_if_lt (tgt := 117) hx hb dX2_findBest_60 (by decide) (fun c15 => ?_) (fun c15 => ?_)
        · have h := h.1 c15
          obtain ⟨x16, ex16⟩ : ∃ y : Int32, y = xl3 + (-1) := ⟨_, rfl⟩
          have h := h x16 ex16
          refine lv_iinc (v := x16) (lv' := [(3, .int x16), (0, .ref (a 4)), (1, .int xl1), (2, .int xl2), (4, .int xl4)]) hx hb dX2_findBest_117 hl (k := 3) rfl (by rw [ex16]; rfl) (by decide) rfl (fun ls hl => ?_)
          refine lv_goto (tgt := 34) hx hb dX2_findBest_120 (by decide) ?_
          exact (ih).2.1 xl1 xl2 x16 S _ _ _ h hP hS (lv_sub hl [1, 2, 3, 0] rfl)
        · have h := h.2 c15
          refine lv_aload_n hx hb dX2_findBest_63 rfl (lv_at hl 0 rfl) ?_
          refine va_get (D := D) (ci := 2) (v := .ref (a 20)) (C := RX2) (T := TX2) (N := 15) hx hb hts hinX2 hown hK hP 4 rfl rfl 9 (by decide) kf31 (fun _ h9 => h9) rfl dX2_findBest_64 ?_
          refine lv_iconst (v := 2) hx hb dX2_findBest_67 (by decide) ?_
          refine lv_iload hx hb dX2_findBest_68 (lv_at hl 4 rfl) ?_
          obtain ⟨b17, h⟩ := h
          refine va_iast hx hb hK hP (hD S) hS 20 14 rfl rfl b17 dX2_findBest_70 (fun H locs hP _ hS => ?_)
          obtain ⟨S18, eS18⟩ : ∃ z : St, z = sR S 14 (upd (S.2.2 14) (2 : Int32).toNatClampNeg xl4) := ⟨_, rfl⟩
          have hP : va_P D vwCl (cw a c S18) H := by rw [eS18]; exact hP
          have h := h S18 eS18
          refine lv_aload_n hx hb dX2_findBest_71 rfl (lv_at hl 0 rfl) ?_
          refine lv_iconst (v := 3) hx hb dX2_findBest_72 (by decide) ?_
          refine lv_bipush (v := 12) hx hb dX2_findBest_73 (by decide) ?_
          refine lv_iload_n hx hb dX2_findBest_75 rfl (lv_at hl 2 rfl) ?_
          refine lv_isub hx hb dX2_findBest_76 ?_
          refine lv_iload_n hx hb dX2_findBest_77 rfl (lv_at hl 3 rfl) ?_
          refine lv_isub hx hb dX2_findBest_78 ?_
          refine lv_iload hx hb dX2_findBest_79 (lv_at hl 4 rfl) ?_
          refine lv_isub hx hb dX2_findBest_81 ?_
          refine k_i (k_runV cns_ok ⟨hx, hb, hml, hown, hts⟩ (tX2_mostPots l D a c _ 3 (((12 - xl2) - xl3) - xl4) S18 _ h) (cwV 2 hts gX2_findBest_X2_mostPots rfl rfl rfl (by decide +kernel) ⟨Nat.le_of_ble_eq_true rfl, Nat.le_of_ble_eq_true rfl⟩) (va_recv hK hP (ci := 2) (q0 := 4) rfl rfl) hP hK (hD S18) hN rfl rfl hl.1 rfl (lv_room (Nat.le_of_ble_eq_true rfl)) dX2_findBest_82 ⟨Nat.le_of_ble_eq_true rfl, Nat.le_of_ble_eq_true rfl⟩) hS (hD S18) hA (fun x20 S19 H locs h hP hS => ?_)
          refine lv_istore (lv' := [(5, .int x20), (0, .ref (a 4)), (1, .int xl1), (2, .int xl2), (3, .int xl3), (4, .int xl4)]) hx hb dX2_findBest_85 hl (by decide) rfl (fun ls hl => ?_)
          exact (ih).2.2.2 xl1 xl2 xl3 xl4 x20 S19 _ _ _ h hP hS (lv_sub hl [1, 2, 3, 4, 5, 0] rfl)
      · intro xl1 xl2 xl3 xl4 xl5 S H locs ls h hP hS hl
        have h : BX2_findBest_3 (LX2_findBest post n) post xl1 xl2 xl3 xl4 xl5 S := h
        unfold BX2_findBest_3 at h
        refine lv_iload hx hb dX2_findBest_87 (lv_at hl 5 rfl) ?_
        refine lv_if_lt (tgt := 111) hx hb dX2_findBest_89 (by decide) (fun c21 => ?_) (fun c21 => ?_)
        · have h := h.1 c21
          obtain ⟨x22, ex22⟩ : ∃ y : Int32, y = xl4 + (-1) := ⟨_, rfl⟩
          have h := h x22 ex22
          refine lv_iinc (v := x22) (lv' := [(4, .int x22), (0, .ref (a 4)), (1, .int xl1), (2, .int xl2), (3, .int xl3), (5, .int xl5)]) hx hb dX2_findBest_111 hl (k := 4) rfl (by rw [ex22]; rfl) (by decide) rfl (fun ls hl => ?_)
          refine lv_goto (tgt := 58) hx hb dX2_findBest_114 (by decide) ?_
          exact (ih).2.2.1 xl1 xl2 xl3 x22 S _ _ _ h hP hS (lv_sub hl [1, 2, 3, 4, 0] rfl)
        · have h := h.2 c21
          refine lv_aload_n hx hb dX2_findBest_92 rfl (lv_at hl 0 rfl) ?_
          refine va_get (D := D) (ci := 2) (v := .ref (a 20)) (C := RX2) (T := TX2) (N := 15) hx hb hts hinX2 hown hK hP 4 rfl rfl 9 (by decide) kf31 (fun _ h9 => h9) rfl dX2_findBest_93 ?_
          refine lv_iconst (v := 3) hx hb dX2_findBest_96 (by decide) ?_
          refine lv_iload hx hb dX2_findBest_97 (lv_at hl 5 rfl) ?_
          obtain ⟨b23, h⟩ := h
          refine va_iast hx hb hK hP (hD S) hS 20 14 rfl rfl b23 dX2_findBest_99 (fun H locs hP _ hS => ?_)
          obtain ⟨S24, eS24⟩ : ∃ z : St, z = sR S 14 (upd (S.2.2 14) (3 : Int32).toNatClampNeg xl5) := ⟨_, rfl⟩
          have hP : va_P D vwCl (cw a c S24) H := by rw [eS24]; exact hP
          have h := h S24 eS24
          refine lv_aload_n hx hb dX2_findBest_100 rfl (lv_at hl 0 rfl) ?_
          refine lv_iload_n hx hb dX2_findBest_101 rfl (lv_at hl 1 rfl) ?_
          obtain ⟨k26, h⟩ := h
          refine k_v (k_runV cns_ok ⟨hx, hb, hml, hown, hts⟩ (tX2_weighTried l D a c _ k26 xl1 S24 _ h) (cwV 1 hts gX2_findBest_X2_weighTried rfl rfl rfl (by decide +kernel) ⟨Nat.le_of_ble_eq_true rfl, Nat.le_of_ble_eq_true rfl⟩) (va_recv hK hP (ci := 2) (q0 := 4) rfl rfl) hP hK (hD S24) hN rfl rfl hl.1 rfl (lv_room (Nat.le_of_ble_eq_true rfl)) dX2_findBest_102 ⟨Nat.le_of_ble_eq_true rfl, Nat.le_of_ble_eq_true rfl⟩) hS (hD S24) hA (fun S25 H locs h hP hS => ?_)
          obtain ⟨x27, ex27⟩ : ∃ y : Int32, y = xl5 + (-1) := ⟨_, rfl⟩
          have h := h x27 ex27
          refine lv_iinc (v := x27) (lv' := [(5, .int x27), (0, .ref (a 4)), (1, .int xl1), (2, .int xl2), (3, .int xl3), (4, .int xl4)]) hx hb dX2_findBest_105 hl (k := 5) rfl (by rw [ex27]; rfl) (by decide) rfl (fun ls hl => ?_)
          refine lv_goto (tgt := 87) hx hb dX2_findBest_108 (by decide) ?_
          exact (ih).2.2.2 xl1 xl2 xl3 xl4 x27 S25 _ _ _ h hP hS (lv_sub hl [1, 2, 3, 4, 5, 0] rfl)
  unfold PX2_findBest at h
  refine lv_aload_n hx hb dX2_findBest_0 rfl (lv_at hl 0 rfl) ?_
  refine lv_iconst (v := 0) hx hb dX2_findBest_1 (by decide) ?_
  refine va_put (D := D) (ci := 2) (v := .int 0) (ty := .boolean) (C := RX2) (T := TX2) (N := 15) hx hb hts hinX2 tyX2 tyX2_ok nmX2 hown hK hP (hD S) hS 4 rfl rfl 11 (by decide) kf65 (fun _ h9 => h9) rfl (by decide +kernel) rfl rfl (Nat.le_of_ble_eq_true rfl) dX2_findBest_2 (fun H locs hP _ hS => ?_)
  obtain ⟨S1, eS1⟩ : ∃ z : St, z = sI S 10 0 := ⟨_, rfl⟩
  have hP : va_P D vwCl (cw a c S1) H := by rw [eS1]; exact hP
  have h := h S1 eS1
  refine lv_aload_n hx hb dX2_findBest_5 rfl (lv_at hl 0 rfl) ?_
  refine lv_iconst (v := 0) hx hb dX2_findBest_6 (by decide) ?_
  refine lv_bipush (v := 12) hx hb dX2_findBest_7 (by decide) ?_
  refine k_i (k_runV cns_ok ⟨hx, hb, hml, hown, hts⟩ (tX2_mostPots l D a c _ 0 12 S1 _ h) (cwV 2 hts gX2_findBest_X2_mostPots rfl rfl rfl (by decide +kernel) ⟨Nat.le_of_ble_eq_true rfl, Nat.le_of_ble_eq_true rfl⟩) (va_recv hK hP (ci := 2) (q0 := 4) rfl rfl) hP hK (hD S1) hN rfl rfl hl.1 rfl (lv_room (Nat.le_of_ble_eq_true rfl)) dX2_findBest_9 ⟨Nat.le_of_ble_eq_true rfl, Nat.le_of_ble_eq_true rfl⟩) hS (hD S1) hA (fun x3 S2 H locs h hP hS => ?_)
  refine lv_istore_n (lv' := [(2, .int x3), (0, .ref (a 4)), (1, .int p0)]) hx hb dX2_findBest_12 rfl hl (by decide) rfl (fun ls hl => ?_)
  exact (key n).1 p0 x3 S2 _ _ _ h hP hS (lv_sub hl [1, 2, 0] rfl)
