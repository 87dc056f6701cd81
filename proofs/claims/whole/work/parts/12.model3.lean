def PX6_isUnlike (p0 : Int32) (p1 : Int32) (S : St) (post : Int32 → St → Prop) : Prop := (vp_in p0 6 ∧ (vp_in p1 6 ∧ ((((S.2.2 0 p0.toNatClampNeg) &&& (S.2.2 1 p1.toNatClampNeg)) = 0 → (vp_in p1 6 ∧ (vp_in p0 6 ∧ ((((S.2.2 0 p1.toNatClampNeg) &&& (S.2.2 1 p0.toNatClampNeg)) = 0 → post 0 S) ∧ (¬ ((S.2.2 0 p1.toNatClampNeg) &&& (S.2.2 1 p0.toNatClampNeg)) = 0 → post 1 S))))) ∧ (¬ ((S.2.2 0 p0.toNatClampNeg) &&& (S.2.2 1 p1.toNatClampNeg)) = 0 → post 1 S))))
set_option maxHeartbeats 4000000 in
set_option maxRecDepth 100000 in
theorem tX6_isUnlike (l : Launch) (D : va_G) (a : Nat → Nat) (c : Nat → ClassId) (sz : Nat) (p0 : Int32) (p1 : Int32) (S : St) (post : Int32 → St → Prop) (h : PX6_isUnlike p0 p1 S post) : Met l yX6_isUnlike wsX6_isUnlike ({ frames := 0, cells := 0, slots := 0, locals := 0 }) (va_Pc [.ref (a 0), .int p0, .int p1] (gP D (mw a c) (mty c) mns S sz)) (va_Qi post (gB D (mw a c)) (va_A (mw a c S) sz)) 0 0 (va_A (mw a c S) sz) := by
  refine Met.ofW (cc := cX6_isUnlike) (maxL := 3) (ret := (some .boolean)) (by decide) rfl ?_
  intro p e s m args below meth c9 s₁ B hml hv
  obtain ⟨rfl, hsz, hP, hK, hD0, hN⟩ := hv
  have hx := B.exec
  have hb := B.bytes
  have hr := B.returns
  have hts := atoms_spec (ws := wsX6_isUnlike) B.pre
  have hown : s.vm.findClass RX6 = some m.cls := findClass_of_methodNamed B.named
  have hlocks := B.notSynchronized
  subst hsz
  have hD1 := hD0.self (sz := s.heap.size)
  generalize hAe : va_A (mw a c S) s.heap.size = A at hD1 ⊢
  have hA : ∀ q : Nat, s.heap.size ≤ q → A q := fun q h => by rw [← hAe]; exact Or.inr h
  have hD : ∀ S2 : St, va_D A (mw a c S2) := gD mw_F hD1
  have hS : va_S A s.heap s.heap [] := va_S.rf
  have hinX6 : ∀ w ∈ wsX60, w ∈ wsX6_isUnlike := by decide +kernel
  have kf13 := hts (.fieldLink RX6 13 "CanteenPlanModel" "bars" "[I") (by decide +kernel)
  have kf9 := hts (.fieldLink RX6 9 "CanteenPlanModel" "in" "[I") (by decide +kernel)
  have hl := lv_entry ([.ref (a 0), .int p0, .int p1]) (n := 3) (Nat.le_of_ble_eq_true rfl)
  rw [lg_entry_eq]
  generalize (lg_sl ([.ref (a 0), .int p0, .int p1]) ++ List.replicate (3 - (lg_sl ([.ref (a 0), .int p0, .int p1])).length) Slot.unset).toArray = ls at hl ⊢
  have hl : lv_has ls 3 [(0, .ref (a 0)), (1, .int p0), (2, .int p1)] := hl
  unfold PX6_isUnlike at h
  refine lv_aload_n hx hb dX6_isUnlike_0 rfl (lv_at hl 0 rfl) ?_
  refine va_get (D := D) (ci := 6) (v := .ref (a 1)) (C := RX6) (T := TX6) (N := 36) hx hb hts hinX6 hown hK hP 0 rfl rfl 1 (by decide) kf9 (fun _ h9 => h9) rfl dX6_isUnlike_1 ?_
  refine lv_iload_n hx hb dX6_isUnlike_4 rfl (lv_at hl 1 rfl) ?_
  obtain ⟨b1, h⟩ := h
  refine va_iald hx hb hK hP 1 0 rfl rfl b1 dX6_isUnlike_5 ?_
  refine lv_aload_n hx hb dX6_isUnlike_6 rfl (lv_at hl 0 rfl) ?_
  refine va_get (D := D) (ci := 6) (v := .ref (a 2)) (C := RX6) (T := TX6) (N := 36) hx hb hts hinX6 hown hK hP 0 rfl rfl 2 (by decide) kf13 (fun _ h9 => h9) rfl dX6_isUnlike_7 ?_
  refine lv_iload_n hx hb dX6_isUnlike_10 rfl (lv_at hl 2 rfl) ?_
  obtain ⟨b2, h⟩ := h
  refine va_iald hx hb hK hP 2 1 rfl rfl b2 dX6_isUnlike_11 ?_
  refine lv_iand hx hb dX6_isUnlike_12 ?_
  refine lv_if_ne (tgt := 32) hx hb dX6_isUnlike_13 (by decide) (fun c3 => ?_) (fun c3 => ?_)
  · have h := h.2 c3
    refine lv_iconst (v := 1) hx hb dX6_isUnlike_32 (by decide) ?_
    refine lv_goto (tgt := 37) hx hb dX6_isUnlike_33 (by decide) ?_
    exact g_retz hx hb hr hlocks (Or.inr rfl) h hP hS dX6_isUnlike_37
  · have h := h.1 c3
    refine lv_aload_n hx hb dX6_isUnlike_16 rfl (lv_at hl 0 rfl) ?_
    refine va_get (D := D) (ci := 6) (v := .ref (a 1)) (C := RX6) (T := TX6) (N := 36) hx hb hts hinX6 hown hK hP 0 rfl rfl 1 (by decide) kf9 (fun _ h9 => h9) rfl dX6_isUnlike_17 ?_
    refine lv_iload_n hx hb dX6_isUnlike_20 rfl (lv_at hl 2 rfl) ?_
    obtain ⟨b4, h⟩ := h
    refine va_iald hx hb hK hP 1 0 rfl rfl b4 dX6_isUnlike_21 ?_
    refine lv_aload_n hx hb dX6_isUnlike_22 rfl (lv_at hl 0 rfl) ?_
    refine va_get (D := D) (ci := 6) (v := .ref (a 2)) (C := RX6) (T := TX6) (N := 36) hx hb hts hinX6 hown hK hP 0 rfl rfl 2 (by decide) kf13 (fun _ h9 => h9) rfl dX6_isUnlike_23 ?_
    refine lv_iload_n hx hb dX6_isUnlike_26 rfl (lv_at hl 1 rfl) ?_
    obtain ⟨b5, h⟩ := h
    refine va_iald hx hb hK hP 2 1 rfl rfl b5 dX6_isUnlike_27 ?_
    refine lv_iand hx hb dX6_isUnlike_28 ?_
    refine lv_if_eq (tgt := 36) hx hb dX6_isUnlike_29 (by decide) (fun c6 => ?_) (fun c6 => ?_)
    · have h := h.1 c6
      refine lv_iconst (v := 0) hx hb dX6_isUnlike_36 (by decide) ?_
      exact g_retz hx hb hr hlocks (Or.inl rfl) h hP hS dX6_isUnlike_37
    · have h := h.2 c6
      refine lv_iconst (v := 1) hx hb dX6_isUnlike_32 (by decide) ?_
      refine lv_goto (tgt := 37) hx hb dX6_isUnlike_33 (by decide) ?_
      exact g_retz hx hb hr hlocks (Or.inr rfl) h hP hS dX6_isUnlike_37
def BX6_shares_0 (rc : Int32 → Int32 → St → (St → Prop) → Prop) (X : Nat → Int32 → Int32 → Int32 → Int32 → Int32 → St → Prop) (post : St → Prop) (xl1 : Int32) (xl2 : Int32) (xl3 : Int32) (xl4 : Int32) (xl5 : Int32) (S : St) : Prop := (((S.1 1) ≤ xl3 → post S) ∧ (¬ (S.1 1) ≤ xl3 → (vp_in xl3 6 ∧ (vp_in xl3 6 ∧ ∀ S11 : St, S11 = sR S 12 (upd (S.2.2 12) xl3.toNatClampNeg (S.2.2 11 xl3.toNatClampNeg)) → ∀ x12 : Int32, x12 = xl3 + 1 → X 0 0 0 x12 0 0 S11))))
def BX6_shares_1 (rc : Int32 → Int32 → St → (St → Prop) → Prop) (X : Nat → Int32 → Int32 → Int32 → Int32 → Int32 → St → Prop) (post : St → Prop) (xl1 : Int32) (xl2 : Int32) (xl3 : Int32) (xl4 : Int32) (xl5 : Int32) (S : St) : Prop := ((xl2 < xl3 → post S) ∧ (¬ xl2 < xl3 → X 2 xl1 xl2 xl3 1 0 S))
def BX6_shares_2 (rc : Int32 → Int32 → St → (St → Prop) → Prop) (X : Nat → Int32 → Int32 → Int32 → Int32 → Int32 → St → Prop) (post : St → Prop) (xl1 : Int32) (xl2 : Int32) (xl3 : Int32) (xl4 : Int32) (xl5 : Int32) (S : St) : Prop := ((xl1 ≤ xl5 → ((xl4 = 0 → ∀ x22 : Int32, x22 = xl3 + 1 → X 1 xl1 xl2 x22 0 0 S) ∧ (¬ xl4 = 0 → (vp_in xl1 6 ∧ ∀ S16 : St, S16 = sR S 11 (upd (S.2.2 11) xl1.toNatClampNeg xl3) → ((xl3 = xl2 → rc (xl1 + 1) (xl2 + 1) S16 (fun S20 => ∀ x21 : Int32, x21 = xl3 + 1 → X 1 xl1 xl2 x21 0 0 S20)) ∧ (¬ xl3 = xl2 → rc (xl1 + 1) xl2 S16 (fun S18 => ∀ x19 : Int32, x19 = xl3 + 1 → X 1 xl1 xl2 x19 0 0 S18))))))) ∧ (¬ xl1 ≤ xl5 → ((xl4 = 0 → ∀ x24 : Int32, x24 = xl5 + 1 → X 2 xl1 xl2 xl3 0 x24 S) ∧ (¬ xl4 = 0 → (vp_in xl5 6 ∧ (((S.2.2 11 xl5.toNatClampNeg) = xl3 → PX6_isUnlike xl5 xl1 S (fun x29 S28 => ((x29 = 0 → ∀ x32 : Int32, x32 = xl5 + 1 → X 2 xl1 xl2 xl3 1 x32 S28) ∧ (¬ x29 = 0 → ∀ x31 : Int32, x31 = xl5 + 1 → X 2 xl1 xl2 xl3 0 x31 S28)))) ∧ (¬ (S.2.2 11 xl5.toNatClampNeg) = xl3 → ∀ x27 : Int32, x27 = xl5 + 1 → X 2 xl1 xl2 xl3 1 x27 S)))))))
def LX6_shares (rc : Int32 → Int32 → St → (St → Prop) → Prop) (post : St → Prop) : Nat → Nat → Int32 → Int32 → Int32 → Int32 → Int32 → St → Prop
  | 0, _, _, _, _, _, _, _ => False
  | n + 1, 0, xl1, xl2, xl3, xl4, xl5, S => BX6_shares_0 rc (LX6_shares rc post n) post xl1 xl2 xl3 xl4 xl5 S
  | n + 1, 1, xl1, xl2, xl3, xl4, xl5, S => BX6_shares_1 rc (LX6_shares rc post n) post xl1 xl2 xl3 xl4 xl5 S
  | n + 1, 2, xl1, xl2, xl3, xl4, xl5, S => BX6_shares_2 rc (LX6_shares rc post n) post xl1 xl2 xl3 xl4 xl5 S
  | _ + 1, _ + 3, _, _, _, _, _, _ => False
def EX6_shares (rc : Int32 → Int32 → St → (St → Prop) → Prop) (n : Nat) (p0 : Int32) (p1 : Int32) (S : St) (post : St → Prop) : Prop := (((S.1 13) < 0 → ((p0 = (S.1 1) → ∀ S3 : St, S3 = sI S 13 p1 → LX6_shares rc post n 0 0 0 0 0 0 S3) ∧ (¬ p0 = (S.1 1) → LX6_shares rc post n 1 p0 p1 0 0 0 S))) ∧ (¬ (S.1 13) < 0 → ((p1 < (S.1 13) → ((p0 = (S.1 1) → ∀ S6 : St, S6 = sI S 13 p1 → LX6_shares rc post n 0 0 0 0 0 0 S6) ∧ (¬ p0 = (S.1 1) → LX6_shares rc post n 1 p0 p1 0 0 0 S))) ∧ (¬ p1 < (S.1 13) → post S))))
def PX6_shares : Nat → Int32 → Int32 → St → (St → Prop) → Prop
  | 0, _, _, _, _ => False
  | d + 1, p0, p1, S, post => ∃ n, EX6_shares (PX6_shares d) n p0 p1 S post
abbrev rmX6_shares (d : Nat) : Room := { frames := 1 + d, cells := 0, slots := 0, locals := 22 + 25 * d }
set_option maxHeartbeats 4000000 in
set_option maxRecDepth 100000 in
theorem tX6_shares (l : Launch) (D : va_G) (a : Nat → Nat) (c : Nat → ClassId) : ∀ (d : Nat) (sz : Nat) (p0 : Int32) (p1 : Int32) (S : St) (post : St → Prop), PX6_shares d p0 p1 S post → Met l yX6_shares wsX6_shares (rmX6_shares d) (va_Pc [.ref (a 0), .int p0, .int p1] (gP D (mw a c) (mty c) mns S sz)) (va_Qv post (gB D (mw a c)) (va_A (mw a c S) sz)) 0 0 (va_A (mw a c S) sz) := by
  intro d
  induction d with
  | zero => intro sz p0 p1 S post h; exact h.elim
  | succ d hrc0 =>
  intro sz p0 p1 S post h
  have hrc : ∀ (p0 : Int32) (p1 : Int32) (S : St) (sz : Nat) (post : St → Prop), PX6_shares d p0 p1 S post → Met l yX6_shares wsX6_shares (rmX6_shares d) (va_Pc [.ref (a 0), .int p0, .int p1] (gP D (mw a c) (mty c) mns S sz)) (va_Qv post (gB D (mw a c)) (va_A (mw a c S) sz)) 0 0 (va_A (mw a c S) sz) := fun p0 p1 S sz post h => hrc0 sz p0 p1 S post h
  refine Met.ofW (cc := cX6_shares) (maxL := 6) (ret := none) (by decide) rfl ?_
  intro p e s m args below meth c9 s₁ B hml hv
  obtain ⟨rfl, hsz, hP, hK, hD0, hN⟩ := hv
  have hx := B.exec
  have hb := B.bytes
  have hr := B.returns
  have hts := atoms_spec (ws := wsX6_shares) B.pre
  have hown : s.vm.findClass RX6 = some m.cls := findClass_of_methodNamed B.named
  have hlocks := B.notSynchronized
  subst hsz
  have hD1 := hD0.self (sz := s.heap.size)
  generalize hAe : va_A (mw a c S) s.heap.size = A at hD1 ⊢
  have hA : ∀ q : Nat, s.heap.size ≤ q → A q := fun q h => by rw [← hAe]; exact Or.inr h
  have hD : ∀ S2 : St, va_D A (mw a c S2) := gD mw_F hD1
  have hS : va_S A s.heap s.heap [] := va_S.rf
  have hinX6 : ∀ w ∈ wsX60, w ∈ wsX6_shares := by decide +kernel
  have kf159 := hts (.fieldLink RX6 159 "CanteenPlanModel" "ladleMany" "I") (by decide +kernel)
  have kf51 := hts (.fieldLink RX6 51 "CanteenPlanModel" "row" "[I") (by decide +kernel)
  have kf54 := hts (.fieldLink RX6 54 "CanteenPlanModel" "ladleOf" "[I") (by decide +kernel)
  have kf71 := hts (.fieldLink RX6 71 "CanteenPlanModel" "meals" "I") (by decide +kernel)
  have hl := lv_entry ([.ref (a 0), .int p0, .int p1]) (n := 6) (Nat.le_of_ble_eq_true rfl)
  rw [lg_entry_eq]
  generalize (lg_sl ([.ref (a 0), .int p0, .int p1]) ++ List.replicate (6 - (lg_sl ([.ref (a 0), .int p0, .int p1])).length) Slot.unset).toArray = ls at hl ⊢
  have hl : lv_has ls 6 [(0, .ref (a 0)), (1, .int p0), (2, .int p1)] := hl
  have hroom : (rmX6_shares d).frames + 1 ≤ ((headSpec wsX6_shares (rmX6_shares (d + 1))).room).frames ∧ 8 + (6 + 11) + (rmX6_shares d).locals ≤ ((headSpec wsX6_shares (rmX6_shares (d + 1))).room).locals := ⟨by simp only [headSpec, rmX6_shares]; omega, by simp only [headSpec, rmX6_shares]; omega⟩
  have key : ∀ n : Nat, (∀ (xl3 : Int32) (S : St) (H : Heap) (locs : List Loc) (ls : Array Slot), LX6_shares (PX6_shares d) post n 0 0 0 xl3 0 0 S → va_P D vwCl (mw a c S) H → va_S A s.heap H locs → lv_has ls 6 [(0, .ref (a 0)), (3, .int xl3)] → W p l e ((headSpec wsX6_shares (rmX6_shares (d + 1))).room) s m ([.ref (a 0), .int p0, .int p1]).toArray below meth c9 H locs 0 0 (MQ below (va_Qv post (gB D (mw a c)) A) ([.ref (a 0), .int p0, .int p1]).toArray s 0 0 A) (F0 m 31 ls [])) ∧ (∀ (xl1 : Int32) (xl2 : Int32) (xl3 : Int32) (S : St) (H : Heap) (locs : List Loc) (ls : Array Slot), LX6_shares (PX6_shares d) post n 1 xl1 xl2 xl3 0 0 S → va_P D vwCl (mw a c S) H → va_S A s.heap H locs → lv_has ls 6 [(0, .ref (a 0)), (1, .int xl1), (2, .int xl2), (3, .int xl3)] → W p l e ((headSpec wsX6_shares (rmX6_shares (d + 1))).room) s m ([.ref (a 0), .int p0, .int p1]).toArray below meth c9 H locs 0 0 (MQ below (va_Qv post (gB D (mw a c)) A) ([.ref (a 0), .int p0, .int p1]).toArray s 0 0 A) (F0 m 60 ls [])) ∧ (∀ (xl1 : Int32) (xl2 : Int32) (xl3 : Int32) (xl4 : Int32) (xl5 : Int32) (S : St) (H : Heap) (locs : List Loc) (ls : Array Slot), LX6_shares (PX6_shares d) post n 2 xl1 xl2 xl3 xl4 xl5 S → va_P D vwCl (mw a c S) H → va_S A s.heap H locs → lv_has ls 6 [(0, .ref (a 0)), (1, .int xl1), (2, .int xl2), (3, .int xl3), (4, .int xl4), (5, .int xl5)] → W p l e ((headSpec wsX6_shares (rmX6_shares (d + 1))).room) s m ([.ref (a 0), .int p0, .int p1]).toArray below meth c9 H locs 0 0 (MQ below (va_Qv post (gB D (mw a c)) A) ([.ref (a 0), .int p0, .int p1]).toArray s 0 0 A) (F0 m 71 ls [])) := by
    intro n
    induction n with
    | zero => exact ⟨fun xl3 S H locs ls h => h.elim, fun xl1 xl2 xl3 S H locs ls h => h.elim, fun xl1 xl2 xl3 xl4 xl5 S H locs ls h => h.elim⟩
    | succ n ih =>
      refine ⟨?_, ?_, ?_⟩
      · intro xl3 S H locs ls h hP hS hl
        have h : BX6_shares_0 (PX6_shares d) (LX6_shares (PX6_shares d) post n) post 0 0 xl3 0 0 S := h
        unfold BX6_shares_0 at h
        refine lv_iload_n hx hb dX6_shares_31 rfl (lv_at hl 1 rfl) ?_
        refine lv_aload_n hx hb dX6_shares_32 rfl (lv_at hl 0 rfl) ?_
        refine va_get (D := D) (ci := 6) (v := .int (S.1 1)) (C := RX6) (T := TX6) (N := 36) hx hb hts hinX6 hown hK hP 0 rfl rfl 4 (by decide) kf71 (fun _ h9 => h9) rfl dX6_shares_33 ?_
        refine lv_icmp_ge (tgt := 57) hx hb dX6_shares_36 (by decide) (fun c8 => ?_) (fun c8 => ?_)
        · have h := h.1 c8
          exact g_retv hx hb hr hlocks h hP hS dX6_shares_57
        · have h := h.2 c8
          refine lv_aload_n hx hb dX6_shares_39 rfl (lv_at hl 0 rfl) ?_
          refine va_get (D := D) (ci := 6) (v := .ref (a 13)) (C := RX6) (T := TX6) (N := 36) hx hb hts hinX6 hown hK hP 0 rfl rfl 28 (by decide) kf54 (fun _ h9 => h9) rfl dX6_shares_40 ?_
          refine lv_iload_n hx hb dX6_shares_43 rfl (lv_at hl 1 rfl) ?_
          refine lv_aload_n hx hb dX6_shares_44 rfl (lv_at hl 0 rfl) ?_
          refine va_get (D := D) (ci := 6) (v := .ref (a 12)) (C := RX6) (T := TX6) (N := 36) hx hb hts hinX6 hown hK hP 0 rfl rfl 27 (by decide) kf51 (fun _ h9 => h9) rfl dX6_shares_45 ?_
          refine lv_iload_n hx hb dX6_shares_48 rfl (lv_at hl 1 rfl) ?_
          obtain ⟨b9, h⟩ := h
          refine va_iald hx hb hK hP 12 11 rfl rfl b9 dX6_shares_49 ?_
          obtain ⟨b10, h⟩ := h
          refine va_iast hx hb hK hP (hD S) hS 13 12 rfl rfl b10 dX6_shares_50 (fun H locs hP _ hS => ?_)
          obtain ⟨S11, eS11⟩ : ∃ z : St, z = sR S 12 (upd (S.2.2 12) xl3.toNatClampNeg (S.2.2 11 xl3.toNatClampNeg)) := ⟨_, rfl⟩
          have hP : va_P D vwCl (mw a c S11) H := by rw [eS11]; exact hP
          have h := h S11 eS11
          obtain ⟨x12, ex12⟩ : ∃ y : Int32, y = xl3 + 1 := ⟨_, rfl⟩
          have h := h x12 ex12
          refine lv_iinc (v := x12) (lv' := [(3, .int x12), (0, .ref (a 0))]) hx hb dX6_shares_51 hl (k := 1) rfl (by rw [ex12]; rfl) (by decide) rfl (fun ls hl => ?_)
          refine lv_goto (tgt := 31) hx hb dX6_shares_54 (by decide) ?_
          exact (ih).1 x12 S11 _ _ _ h hP hS (lv_sub hl [1, 0] rfl)
      · intro xl1 xl2 xl3 S H locs ls h hP hS hl
        have h : BX6_shares_1 (PX6_shares d) (LX6_shares (PX6_shares d) post n) post xl1 xl2 xl3 0 0 S := h
        unfold BX6_shares_1 at h
        refine lv_iload_n hx hb dX6_shares_60 rfl (lv_at hl 3 rfl) ?_
        refine lv_iload_n hx hb dX6_shares_61 rfl (lv_at hl 2 rfl) ?_
        refine lv_icmp_gt (tgt := 156) hx hb dX6_shares_62 (by decide) (fun c7 => ?_) (fun c7 => ?_)
        · have h := h.1 c7
          exact g_retv hx hb hr hlocks h hP hS dX6_shares_156
        · have h := h.2 c7
          refine lv_iconst (v := 1) hx hb dX6_shares_65 (by decide) ?_
          refine lv_istore (lv' := [(4, .int 1), (0, .ref (a 0)), (1, .int xl1), (2, .int xl2), (3, .int xl3)]) hx hb dX6_shares_66 hl (by decide) rfl (fun ls hl => ?_)
          refine lv_iconst (v := 0) hx hb dX6_shares_68 (by decide) ?_
          refine lv_istore (lv' := [(5, .int 0), (4, .int 1), (0, .ref (a 0)), (1, .int xl1), (2, .int xl2), (3, .int xl3)]) hx hb dX6_shares_69 hl (by decide) rfl (fun ls hl => ?_)
          exact (ih).2.2 xl1 xl2 xl3 1 0 S _ _ _ h hP hS (lv_sub hl [2, 3, 4, 5, 1, 0] rfl)
      · intro xl1 xl2 xl3 xl4 xl5 S H locs ls h hP hS hl
        have h : BX6_shares_2 (PX6_shares d) (LX6_shares (PX6_shares d) post n) post xl1 xl2 xl3 xl4 xl5 S := h
        unfold BX6_shares_2 at h
        refine lv_iload hx hb dX6_shares_71 (lv_at hl 5 rfl) ?_
        refine lv_iload_n hx hb dX6_shares_73 rfl (lv_at hl 1 rfl) ?_
        refine lv_icmp_ge (tgt := 116) hx hb dX6_shares_74 (by decide) (fun c13 => ?_) (fun c13 => ?_)
        · have h := h.1 c13
          refine lv_iload hx hb dX6_shares_116 (lv_at hl 4 rfl) ?_
          refine lv_if_ne (tgt := 124) hx hb dX6_shares_118 (by decide) (fun c14 => ?_) (fun c14 => ?_)
          · have h := h.2 c14
            refine lv_aload_n hx hb dX6_shares_124 rfl (lv_at hl 0 rfl) ?_
            refine va_get (D := D) (ci := 6) (v := .ref (a 12)) (C := RX6) (T := TX6) (N := 36) hx hb hts hinX6 hown hK hP 0 rfl rfl 27 (by decide) kf51 (fun _ h9 => h9) rfl dX6_shares_125 ?_
            refine lv_iload_n hx hb dX6_shares_128 rfl (lv_at hl 1 rfl) ?_
            refine lv_iload_n hx hb dX6_shares_129 rfl (lv_at hl 3 rfl) ?_
            obtain ⟨b15, h⟩ := h
            refine va_iast hx hb hK hP (hD S) hS 12 11 rfl rfl b15 dX6_shares_130 (fun H locs hP _ hS => ?_)
            obtain ⟨S16, eS16⟩ : ∃ z : St, z = sR S 11 (upd (S.2.2 11) xl1.toNatClampNeg xl3) := ⟨_, rfl⟩
            have hP : va_P D vwCl (mw a c S16) H := by rw [eS16]; exact hP
            have h := h S16 eS16
            refine lv_aload_n hx hb dX6_shares_131 rfl (lv_at hl 0 rfl) ?_
            refine lv_iload_n hx hb dX6_shares_132 rfl (lv_at hl 1 rfl) ?_
            refine lv_iconst (v := 1) hx hb dX6_shares_133 (by decide) ?_
            refine lv_iadd hx hb dX6_shares_134 ?_
            refine lv_iload_n hx hb dX6_shares_135 rfl (lv_at hl 3 rfl) ?_
            refine lv_iload_n hx hb dX6_shares_136 rfl (lv_at hl 2 rfl) ?_
            refine lv_icmp_ne (tgt := 146) hx hb dX6_shares_137 (by decide) (fun c17 => ?_) (fun c17 => ?_)
            · have h := h.2 c17
              refine lv_iload_n hx hb dX6_shares_146 rfl (lv_at hl 2 rfl) ?_
              refine k_v (k_runV mns_ok ⟨hx, hb, hml, hown, hts⟩ (hrc (xl1 + 1) xl2 S16 _ _ h) (cwV 2 hts gX6_shares_X6_shares rfl rfl rfl (by decide +kernel) hroom) (va_recv hK hP (ci := 6) (q0 := 0) rfl rfl) hP hK (hD S16) hN rfl rfl hl.1 rfl (lv_room (Nat.le_of_ble_eq_true rfl)) dX6_shares_147 ⟨Nat.le_refl _, Nat.le_refl _⟩) hS (hD S16) hA (fun S18 H locs h hP hS => ?_)
              obtain ⟨x19, ex19⟩ : ∃ y : Int32, y = xl3 + 1 := ⟨_, rfl⟩
              have h := h x19 ex19
              refine lv_iinc (v := x19) (lv' := [(3, .int x19), (0, .ref (a 0)), (1, .int xl1), (2, .int xl2), (4, .int xl4), (5, .int xl5)]) hx hb dX6_shares_150 hl (k := 3) rfl (by rw [ex19]; rfl) (by decide) rfl (fun ls hl => ?_)
              refine lv_goto (tgt := 60) hx hb dX6_shares_153 (by decide) ?_
              exact (ih).2.1 xl1 xl2 x19 S18 _ _ _ h hP hS (lv_sub hl [1, 2, 3, 0] rfl)
            · have h := h.1 c17
              refine lv_iload_n hx hb dX6_shares_140 rfl (lv_at hl 2 rfl) ?_
              refine lv_iconst (v := 1) hx hb dX6_shares_141 (by decide) ?_
              refine lv_iadd hx hb dX6_shares_142 ?_
              refine lv_goto (tgt := 147) hx hb dX6_shares_143 (by decide) ?_
              refine k_v (k_runV mns_ok ⟨hx, hb, hml, hown, hts⟩ (hrc (xl1 + 1) (xl2 + 1) S16 _ _ h) (cwV 2 hts gX6_shares_X6_shares rfl rfl rfl (by decide +kernel) hroom) (va_recv hK hP (ci := 6) (q0 := 0) rfl rfl) hP hK (hD S16) hN rfl rfl hl.1 rfl (lv_room (Nat.le_of_ble_eq_true rfl)) dX6_shares_147 ⟨Nat.le_refl _, Nat.le_refl _⟩) hS (hD S16) hA (fun S20 H locs h hP hS => ?_)
              obtain ⟨x21, ex21⟩ : ∃ y : Int32, y = xl3 + 1 := ⟨_, rfl⟩
              have h := h x21 ex21
              refine lv_iinc (v := x21) (lv' := [(3, .int x21), (0, .ref (a 0)), (1, .int xl1), (2, .int xl2), (4, .int xl4), (5, .int xl5)]) hx hb dX6_shares_150 hl (k := 3) rfl (by rw [ex21]; rfl) (by decide) rfl (fun ls hl => ?_)
              refine lv_goto (tgt := 60) hx hb dX6_shares_153 (by decide) ?_
              exact (ih).2.1 xl1 xl2 x21 S20 _ _ _ h hP hS (lv_sub hl [1, 2, 3, 0] rfl)
          · have h := h.1 c14
            refine lv_goto (tgt := 150) hx hb dX6_shares_121 (by decide) ?_
            obtain ⟨x22, ex22⟩ : ∃ y : Int32, y = xl3 + 1 := ⟨_, rfl⟩
            have h := h x22 ex22
            refine lv_iinc (v := x22) (lv' := [(3, .int x22), (0, .ref (a 0)), (1, .int xl1), (2, .int xl2), (4, .int xl4), (5, .int xl5)]) hx hb dX6_shares_150 hl (k := 3) rfl (by rw [ex22]; rfl) (by decide) rfl (fun ls hl => ?_)
            refine lv_goto (tgt := 60) hx hb dX6_shares_153 (by decide) ?_
            exact (ih).2.1 xl1 xl2 x22 S _ _ _ h hP hS (lv_sub hl [1, 2, 3, 0] rfl)
        · have h := h.2 c13
          refine lv_iload hx hb dX6_shares_77 (lv_at hl 4 rfl) ?_
          refine lv_if_eq (tgt := 107) hx hb dX6_shares_79 (by decide) (fun c23 => ?_) (fun c23 => ?_)
          · have h := h.1 c23
            refine lv_iconst (v := 0) hx hb dX6_shares_107 (by decide) ?_
            refine lv_istore (lv' := [(4, .int 0), (0, .ref (a 0)), (1, .int xl1), (2, .int xl2), (3, .int xl3), (5, .int xl5)]) hx hb dX6_shares_108 hl (by decide) rfl (fun ls hl => ?_)
            obtain ⟨x24, ex24⟩ : ∃ y : Int32, y = xl5 + 1 := ⟨_, rfl⟩
            have h := h x24 ex24
            refine lv_iinc (v := x24) (lv' := [(5, .int x24), (4, .int 0), (0, .ref (a 0)), (1, .int xl1), (2, .int xl2), (3, .int xl3)]) hx hb dX6_shares_110 hl (k := 5) rfl (by rw [ex24]; rfl) (by decide) rfl (fun ls hl => ?_)
            refine lv_goto (tgt := 71) hx hb dX6_shares_113 (by decide) ?_
            exact (ih).2.2 xl1 xl2 xl3 0 x24 S _ _ _ h hP hS (lv_sub hl [2, 3, 4, 5, 1, 0] rfl)
          · have h := h.2 c23
            refine lv_aload_n hx hb dX6_shares_82 rfl (lv_at hl 0 rfl) ?_
            refine va_get (D := D) (ci := 6) (v := .ref (a 12)) (C := RX6) (T := TX6) (N := 36) hx hb hts hinX6 hown hK hP 0 rfl rfl 27 (by decide) kf51 (fun _ h9 => h9) rfl dX6_shares_83 ?_
            refine lv_iload hx hb dX6_shares_86 (lv_at hl 5 rfl) ?_
            obtain ⟨b25, h⟩ := h
            refine va_iald hx hb hK hP 12 11 rfl rfl b25 dX6_shares_88 ?_
            refine lv_iload_n hx hb dX6_shares_89 rfl (lv_at hl 3 rfl) ?_
            refine lv_icmp_ne (tgt := 103) hx hb dX6_shares_90 (by decide) (fun c26 => ?_) (fun c26 => ?_)
            · have h := h.2 c26
              refine lv_iconst (v := 1) hx hb dX6_shares_103 (by decide) ?_
              refine lv_goto (tgt := 108) hx hb dX6_shares_104 (by decide) ?_
              refine lv_istore (lv' := [(4, .int 1), (0, .ref (a 0)), (1, .int xl1), (2, .int xl2), (3, .int xl3), (5, .int xl5)]) hx hb dX6_shares_108 hl (by decide) rfl (fun ls hl => ?_)
              obtain ⟨x27, ex27⟩ : ∃ y : Int32, y = xl5 + 1 := ⟨_, rfl⟩
              have h := h x27 ex27
              refine lv_iinc (v := x27) (lv' := [(5, .int x27), (4, .int 1), (0, .ref (a 0)), (1, .int xl1), (2, .int xl2), (3, .int xl3)]) hx hb dX6_shares_110 hl (k := 5) rfl (by rw [ex27]; rfl) (by decide) rfl (fun ls hl => ?_)
              refine lv_goto (tgt := 71) hx hb dX6_shares_113 (by decide) ?_
              exact (ih).2.2 xl1 xl2 xl3 1 x27 S _ _ _ h hP hS (lv_sub hl [2, 3, 4, 5, 1, 0] rfl)
            · have h := h.1 c26
              refine lv_aload_n hx hb dX6_shares_93 rfl (lv_at hl 0 rfl) ?_
              refine lv_iload hx hb dX6_shares_94 (lv_at hl 5 rfl) ?_
              refine lv_iload_n hx hb dX6_shares_96 rfl (lv_at hl 1 rfl) ?_
              refine k_i (k_runV mns_ok ⟨hx, hb, hml, hown, hts⟩ (tX6_isUnlike l D a c _ xl5 xl1 S _ h) (cwV 2 hts gX6_shares_X6_isUnlike rfl rfl rfl (by decide +kernel) ⟨by show 0 + 1 ≤ 1 + (d + 1); omega, by show 8 + (3 + 11) + 0 ≤ 22 + 25 * (d + 1); omega⟩) (va_recv hK hP (ci := 6) (q0 := 0) rfl rfl) hP hK (hD S) hN rfl rfl hl.1 rfl (lv_room (Nat.le_of_ble_eq_true rfl)) dX6_shares_97 ⟨Nat.le_refl _, Nat.le_refl _⟩) hS (hD S) hA (fun x29 S28 H locs h hP hS => ?_)
              refine lv_if_ne (tgt := 107) hx hb dX6_shares_100 (by decide) (fun c30 => ?_) (fun c30 => ?_)
              · have h := h.2 c30
                refine lv_iconst (v := 0) hx hb dX6_shares_107 (by decide) ?_
                refine lv_istore (lv' := [(4, .int 0), (0, .ref (a 0)), (1, .int xl1), (2, .int xl2), (3, .int xl3), (5, .int xl5)]) hx hb dX6_shares_108 hl (by decide) rfl (fun ls hl => ?_)
                obtain ⟨x31, ex31⟩ : ∃ y : Int32, y = xl5 + 1 := ⟨_, rfl⟩
                have h := h x31 ex31
                refine lv_iinc (v := x31) (lv' := [(5, .int x31), (4, .int 0), (0, .ref (a 0)), (1, .int xl1), (2, .int xl2), (3, .int xl3)]) hx hb dX6_shares_110 hl (k := 5) rfl (by rw [ex31]; rfl) (by decide) rfl (fun ls hl => ?_)
                refine lv_goto (tgt := 71) hx hb dX6_shares_113 (by decide) ?_
                exact (ih).2.2 xl1 xl2 xl3 0 x31 S28 _ _ _ h hP hS (lv_sub hl [2, 3, 4, 5, 1, 0] rfl)
              · have h := h.1 c30
                refine lv_iconst (v := 1) hx hb dX6_shares_103 (by decide) ?_
                refine lv_goto (tgt := 108) hx hb dX6_shares_104 (by decide) ?_
                refine lv_istore (lv' := [(4, .int 1), (0, .ref (a 0)), (1, .int xl1), (2, .int xl2), (3, .int xl3), (5, .int xl5)]) hx hb dX6_shares_108 hl (by decide) rfl (fun ls hl => ?_)
                obtain ⟨x32, ex32⟩ : ∃ y : Int32, y = xl5 + 1 := ⟨_, rfl⟩
                have h := h x32 ex32
                refine lv_iinc (v := x32) (lv' := [(5, .int x32), (4, .int 1), (0, .ref (a 0)), (1, .int xl1), (2, .int xl2), (3, .int xl3)]) hx hb dX6_shares_110 hl (k := 5) rfl (by rw [ex32]; rfl) (by decide) rfl (fun ls hl => ?_)
                refine lv_goto (tgt := 71) hx hb dX6_shares_113 (by decide) ?_
                exact (ih).2.2 xl1 xl2 xl3 1 x32 S28 _ _ _ h hP hS (lv_sub hl [2, 3, 4, 5, 1, 0] rfl)
  obtain ⟨n, h⟩ : ∃ n, EX6_shares (PX6_shares d) n p0 p1 S post := h
  unfold EX6_shares at h
  refine lv_aload_n hx hb dX6_shares_0 rfl (lv_at hl 0 rfl) ?_
  refine va_get (D := D) (ci := 6) (v := .int (S.1 13)) (C := RX6) (T := TX6) (N := 36) hx hb hts hinX6 hown hK hP 0 rfl rfl 29 (by decide) kf159 (fun _ h9 => h9) rfl dX6_shares_1 ?_
  refine lv_if_lt (tgt := 16) hx hb dX6_shares_4 (by decide) (fun c1 => ?_) (fun c1 => ?_)
  · have h := h.1 c1
    refine lv_iload_n hx hb dX6_shares_16 rfl (lv_at hl 1 rfl) ?_
    refine lv_aload_n hx hb dX6_shares_17 rfl (lv_at hl 0 rfl) ?_
    refine va_get (D := D) (ci := 6) (v := .int (S.1 1)) (C := RX6) (T := TX6) (N := 36) hx hb hts hinX6 hown hK hP 0 rfl rfl 4 (by decide) kf71 (fun _ h9 => h9) rfl dX6_shares_18 ?_
    refine lv_icmp_ne (tgt := 58) hx hb dX6_shares_21 (by decide) (fun c2 => ?_) (fun c2 => ?_)
    · have h := h.2 c2
      refine lv_iconst (v := 0) hx hb dX6_shares_58 (by decide) ?_
      refine lv_istore_n (lv' := [(3, .int 0), (0, .ref (a 0)), (1, .int p0), (2, .int p1)]) hx hb dX6_shares_59 rfl hl (by decide) rfl (fun ls hl => ?_)
      exact (key n).2.1 p0 p1 0 S _ _ _ h hP hS (lv_sub hl [1, 2, 3, 0] rfl)
    · have h := h.1 c2
      refine lv_aload_n hx hb dX6_shares_24 rfl (lv_at hl 0 rfl) ?_
      refine lv_iload_n hx hb dX6_shares_25 rfl (lv_at hl 2 rfl) ?_
      refine va_put (D := D) (ci := 6) (v := .int p1) (ty := .int) (C := RX6) (T := TX6) (N := 36) hx hb hts hinX6 tyX6 tyX6_ok nmX6 hown hK hP (hD S) hS 0 rfl rfl 29 (by decide) kf159 (fun _ h9 => h9) rfl (by decide +kernel) rfl rfl (Nat.le_of_ble_eq_true rfl) dX6_shares_26 (fun H locs hP _ hS => ?_)
      obtain ⟨S3, eS3⟩ : ∃ z : St, z = sI S 13 p1 := ⟨_, rfl⟩
      have hP : va_P D vwCl (mw a c S3) H := by rw [eS3]; exact hP
      have h := h S3 eS3
      refine lv_iconst (v := 0) hx hb dX6_shares_29 (by decide) ?_
      refine lv_istore_n (lv' := [(3, .int 0), (0, .ref (a 0)), (1, .int p0), (2, .int p1)]) hx hb dX6_shares_30 rfl hl (by decide) rfl (fun ls hl => ?_)
      exact (key n).1 0 S3 _ _ _ h hP hS (lv_sub hl [1, 0] rfl)
  · have h := h.2 c1
    refine lv_iload_n hx hb dX6_shares_7 rfl (lv_at hl 2 rfl) ?_
    refine lv_aload_n hx hb dX6_shares_8 rfl (lv_at hl 0 rfl) ?_
    refine va_get (D := D) (ci := 6) (v := .int (S.1 13)) (C := RX6) (T := TX6) (N := 36) hx hb hts hinX6 hown hK hP 0 rfl rfl 29 (by decide) kf159 (fun _ h9 => h9) rfl dX6_shares_9 ?_
    refine lv_icmp_lt (tgt := 16) hx hb dX6_shares_12 (by decide) (fun c4 => ?_) (fun c4 => ?_)
    · have h := h.1 c4
      refine lv_iload_n hx hb dX6_shares_16 rfl (lv_at hl 1 rfl) ?_
      refine lv_aload_n hx hb dX6_shares_17 rfl (lv_at hl 0 rfl) ?_
      refine va_get (D := D) (ci := 6) (v := .int (S.1 1)) (C := RX6) (T := TX6) (N := 36) hx hb hts hinX6 hown hK hP 0 rfl rfl 4 (by decide) kf71 (fun _ h9 => h9) rfl dX6_shares_18 ?_
      refine lv_icmp_ne (tgt := 58) hx hb dX6_shares_21 (by decide) (fun c5 => ?_) (fun c5 => ?_)
      · have h := h.2 c5
        refine lv_iconst (v := 0) hx hb dX6_shares_58 (by decide) ?_
        refine lv_istore_n (lv' := [(3, .int 0), (0, .ref (a 0)), (1, .int p0), (2, .int p1)]) hx hb dX6_shares_59 rfl hl (by decide) rfl (fun ls hl => ?_)
        exact (key n).2.1 p0 p1 0 S _ _ _ h hP hS (lv_sub hl [1, 2, 3, 0] rfl)
      · have h := h.1 c5
        refine lv_aload_n hx hb dX6_shares_24 rfl (lv_at hl 0 rfl) ?_
        refine lv_iload_n hx hb dX6_shares_25 rfl (lv_at hl 2 rfl) ?_
        refine va_put (D := D) (ci := 6) (v := .int p1) (ty := .int) (C := RX6) (T := TX6) (N := 36) hx hb hts hinX6 tyX6 tyX6_ok nmX6 hown hK hP (hD S) hS 0 rfl rfl 29 (by decide) kf159 (fun _ h9 => h9) rfl (by decide +kernel) rfl rfl (Nat.le_of_ble_eq_true rfl) dX6_shares_26 (fun H locs hP _ hS => ?_)
        obtain ⟨S6, eS6⟩ : ∃ z : St, z = sI S 13 p1 := ⟨_, rfl⟩
        have hP : va_P D vwCl (mw a c S6) H := by rw [eS6]; exact hP
        have h := h S6 eS6
        refine lv_iconst (v := 0) hx hb dX6_shares_29 (by decide) ?_
        refine lv_istore_n (lv' := [(3, .int 0), (0, .ref (a 0)), (1, .int p0), (2, .int p1)]) hx hb dX6_shares_30 rfl hl (by decide) rfl (fun ls hl => ?_)
        exact (key n).1 0 S6 _ _ _ h hP hS (lv_sub hl [1, 0] rfl)
    · have h := h.2 c4
      exact g_retv hx hb hr hlocks h hP hS dX6_shares_15
def BX6_ladlesAnew_0 (X : Int32 → Int32 → St → Prop) (post : Int32 → St → Prop) (xl1 : Int32) (xl2 : Int32) (S : St) : Prop := (((S.1 1) ≤ xl2 → ∀ S2 : St, S2 = sI S 13 (-1) → ((xl1 = 0 → ((xl1 = 0 ∨ xl1 = 1) ∧ post xl1 S2)) ∧ (¬ xl1 = 0 → PX6_shares 8 0 0 S2 (fun S4 => ((xl1 = 0 ∨ xl1 = 1) ∧ post xl1 S4))))) ∧ (¬ (S.1 1) ≤ xl2 → ((xl1 = 0 → ∀ x6 : Int32, x6 = xl2 + 1 → X 0 x6 S) ∧ (¬ xl1 = 0 → (vp_in xl2 6 ∧ (vp_in xl2 6 ∧ ((((S.2.2 0 xl2.toNatClampNeg) &&& (S.2.2 1 xl2.toNatClampNeg)) = 0 → ∀ x11 : Int32, x11 = xl2 + 1 → X 1 x11 S) ∧ (¬ ((S.2.2 0 xl2.toNatClampNeg) &&& (S.2.2 1 xl2.toNatClampNeg)) = 0 → ∀ x10 : Int32, x10 = xl2 + 1 → X 0 x10 S))))))))
def LX6_ladlesAnew (post : Int32 → St → Prop) : Nat → Int32 → Int32 → St → Prop
  | 0, _, _, _ => False
  | n + 1, xl1, xl2, S => BX6_ladlesAnew_0 (LX6_ladlesAnew post n) post xl1 xl2 S
def PX6_ladlesAnew (n : Nat)  (S : St) (post : Int32 → St → Prop) : Prop := LX6_ladlesAnew post n 1 0 S
set_option maxHeartbeats 4000000 in
set_option maxRecDepth 100000 in
theorem tX6_ladlesAnew (l : Launch) (D : va_G) (a : Nat → Nat) (c : Nat → ClassId) (sz : Nat) (n : Nat)  (S : St) (post : Int32 → St → Prop) (h : PX6_ladlesAnew n  S post) : Met l yX6_ladlesAnew wsX6_ladlesAnew ({ frames := 10, cells := 0, slots := 0, locals := 247 }) (va_Pc [.ref (a 0)] (gP D (mw a c) (mty c) mns S sz)) (va_Qi post (gB D (mw a c)) (va_A (mw a c S) sz)) 0 0 (va_A (mw a c S) sz) := by
  refine Met.ofW (cc := cX6_ladlesAnew) (maxL := 3) (ret := (some .boolean)) (by decide) rfl ?_
  intro p e s m args below meth c9 s₁ B hml hv
  obtain ⟨rfl, hsz, hP, hK, hD0, hN⟩ := hv
  have hx := B.exec
  have hb := B.bytes
  have hr := B.returns
  have hts := atoms_spec (ws := wsX6_ladlesAnew) B.pre
  have hown : s.vm.findClass RX6 = some m.cls := findClass_of_methodNamed B.named
  have hlocks := B.notSynchronized
  subst hsz
  have hD1 := hD0.self (sz := s.heap.size)
  generalize hAe : va_A (mw a c S) s.heap.size = A at hD1 ⊢
  have hA : ∀ q : Nat, s.heap.size ≤ q → A q := fun q h => by rw [← hAe]; exact Or.inr h
  have hD : ∀ S2 : St, va_D A (mw a c S2) := gD mw_F hD1
  have hS : va_S A s.heap s.heap [] := va_S.rf
  have hinX6 : ∀ w ∈ wsX60, w ∈ wsX6_ladlesAnew := by decide +kernel
  have kf13 := hts (.fieldLink RX6 13 "CanteenPlanModel" "bars" "[I") (by decide +kernel)
  have kf159 := hts (.fieldLink RX6 159 "CanteenPlanModel" "ladleMany" "I") (by decide +kernel)
  have kf71 := hts (.fieldLink RX6 71 "CanteenPlanModel" "meals" "I") (by decide +kernel)
  have kf9 := hts (.fieldLink RX6 9 "CanteenPlanModel" "in" "[I") (by decide +kernel)
  have hl := lv_entry ([.ref (a 0)]) (n := 3) (Nat.le_of_ble_eq_true rfl)
  rw [lg_entry_eq]
  generalize (lg_sl ([.ref (a 0)]) ++ List.replicate (3 - (lg_sl ([.ref (a 0)])).length) Slot.unset).toArray = ls at hl ⊢
  have hl : lv_has ls 3 [(0, .ref (a 0))] := hl
  have key : ∀ n : Nat, (∀ (xl1 : Int32) (xl2 : Int32) (S : St) (H : Heap) (locs : List Loc) (ls : Array Slot), LX6_ladlesAnew post n xl1 xl2 S → va_P D vwCl (mw a c S) H → va_S A s.heap H locs → lv_has ls 3 [(0, .ref (a 0)), (1, .int xl1), (2, .int xl2)] → W p l e ((headSpec wsX6_ladlesAnew ({ frames := 10, cells := 0, slots := 0, locals := 247 })).room) s m ([.ref (a 0)]).toArray below meth c9 H locs 0 0 (MQ below (va_Qi post (gB D (mw a c)) A) ([.ref (a 0)]).toArray s 0 0 A) (F0 m 4 ls [])) := by
    intro n
    induction n with
    | zero => exact fun xl1 xl2 S H locs ls h => h.elim
    | succ n ih =>
      intro xl1 xl2 S H locs ls h hP hS hl
      have h : BX6_ladlesAnew_0 (LX6_ladlesAnew post n) post xl1 xl2 S := h
      unfold BX6_ladlesAnew_0 at h
      refine lv_iload_n hx hb dX6_ladlesAnew_4 rfl (lv_at hl 2 rfl) ?_
      refine lv_aload_n hx hb dX6_ladlesAnew_5 rfl (lv_at hl 0 rfl) ?_
      refine va_get (D := D) (ci := 6) (v := .int (S.1 1)) (C := RX6) (T := TX6) (N := 36) hx hb hts hinX6 hown hK hP 0 rfl rfl 4 (by decide) kf71 (fun _ h9 => h9) rfl dX6_ladlesAnew_6 ?_
      refine lv_icmp_ge (tgt := 44) hx hb dX6_ladlesAnew_9 (by decide) (fun c1 => ?_) (fun c1 => ?_)
      · have h := h.1 c1
        refine lv_aload_n hx hb dX6_ladlesAnew_44 rfl (lv_at hl 0 rfl) ?_
        refine lv_iconst (v := (-1)) hx hb dX6_ladlesAnew_45 (by decide) ?_
        refine va_put (D := D) (ci := 6) (v := .int (-1)) (ty := .int) (C := RX6) (T := TX6) (N := 36) hx hb hts hinX6 tyX6 tyX6_ok nmX6 hown hK hP (hD S) hS 0 rfl rfl 29 (by decide) kf159 (fun _ h9 => h9) rfl (by decide +kernel) rfl rfl (Nat.le_of_ble_eq_true rfl) dX6_ladlesAnew_46 (fun H locs hP _ hS => ?_)
        obtain ⟨S2, eS2⟩ : ∃ z : St, z = sI S 13 (-1) := ⟨_, rfl⟩
        have hP : va_P D vwCl (mw a c S2) H := by rw [eS2]; exact hP
        have h := h S2 eS2
        refine lv_iload_n hx hb dX6_ladlesAnew_49 rfl (lv_at hl 1 rfl) ?_
        refine lv_if_eq (tgt := 59) hx hb dX6_ladlesAnew_50 (by decide) (fun c3 => ?_) (fun c3 => ?_)
        · have h := h.1 c3
          refine lv_iload_n hx hb dX6_ladlesAnew_59 rfl (lv_at hl 1 rfl) ?_
          exact g_retz hx hb hr hlocks h.1 h.2 hP hS dX6_ladlesAnew_60
        · have h := h.2 c3
          refine lv_aload_n hx hb dX6_ladlesAnew_53 rfl (lv_at hl 0 rfl) ?_
          refine lv_iconst (v := 0) hx hb dX6_ladlesAnew_54 (by decide) ?_
          refine lv_iconst (v := 0) hx hb dX6_ladlesAnew_55 (by decide) ?_
          refine k_v (k_runV mns_ok ⟨hx, hb, hml, hown, hts⟩ (tX6_shares l D a c 8 _ 0 0 S2 _ h) (cwV 2 hts gX6_ladlesAnew_X6_shares rfl rfl rfl (by decide +kernel) ⟨Nat.le_of_ble_eq_true rfl, Nat.le_of_ble_eq_true rfl⟩) (va_recv hK hP (ci := 6) (q0 := 0) rfl rfl) hP hK (hD S2) hN rfl rfl hl.1 rfl (lv_room (Nat.le_of_ble_eq_true rfl)) dX6_ladlesAnew_56 ⟨Nat.le_of_ble_eq_true rfl, Nat.le_of_ble_eq_true rfl⟩) hS (hD S2) hA (fun S4 H locs h hP hS => ?_)
          refine lv_iload_n hx hb dX6_ladlesAnew_59 rfl (lv_at hl 1 rfl) ?_
          exact g_retz hx hb hr hlocks h.1 h.2 hP hS dX6_ladlesAnew_60
      · have h := h.2 c1
        refine lv_iload_n hx hb dX6_ladlesAnew_12 rfl (lv_at hl 1 rfl) ?_
        refine lv_if_eq (tgt := 36) hx hb dX6_ladlesAnew_13 (by decide) (fun c5 => ?_) (fun c5 => ?_)
        · have h := h.1 c5
          refine lv_iconst (v := 0) hx hb dX6_ladlesAnew_36 (by decide) ?_
          refine lv_istore_n (lv' := [(1, .int 0), (0, .ref (a 0)), (2, .int xl2)]) hx hb dX6_ladlesAnew_37 rfl hl (by decide) rfl (fun ls hl => ?_)
          obtain ⟨x6, ex6⟩ : ∃ y : Int32, y = xl2 + 1 := ⟨_, rfl⟩
          have h := h x6 ex6
          refine lv_iinc (v := x6) (lv' := [(2, .int x6), (1, .int 0), (0, .ref (a 0))]) hx hb dX6_ladlesAnew_38 hl (k := 2) rfl (by rw [ex6]; rfl) (by decide) rfl (fun ls hl => ?_)
          refine lv_goto (tgt := 4) hx hb dX6_ladlesAnew_41 (by decide) ?_
          exact (ih) 0 x6 S _ _ _ h hP hS (lv_sub hl [2, 1, 0] rfl)
        · have h := h.2 c5
          refine lv_aload_n hx hb dX6_ladlesAnew_16 rfl (lv_at hl 0 rfl) ?_
          refine va_get (D := D) (ci := 6) (v := .ref (a 1)) (C := RX6) (T := TX6) (N := 36) hx hb hts hinX6 hown hK hP 0 rfl rfl 1 (by decide) kf9 (fun _ h9 => h9) rfl dX6_ladlesAnew_17 ?_
          refine lv_iload_n hx hb dX6_ladlesAnew_20 rfl (lv_at hl 2 rfl) ?_
          obtain ⟨b7, h⟩ := h
          refine va_iald hx hb hK hP 1 0 rfl rfl b7 dX6_ladlesAnew_21 ?_
          refine lv_aload_n hx hb dX6_ladlesAnew_22 rfl (lv_at hl 0 rfl) ?_
          refine va_get (D := D) (ci := 6) (v := .ref (a 2)) (C := RX6) (T := TX6) (N := 36) hx hb hts hinX6 hown hK hP 0 rfl rfl 2 (by decide) kf13 (fun _ h9 => h9) rfl dX6_ladlesAnew_23 ?_
          refine lv_iload_n hx hb dX6_ladlesAnew_26 rfl (lv_at hl 2 rfl) ?_
          obtain ⟨b8, h⟩ := h
          refine va_iald hx hb hK hP 2 1 rfl rfl b8 dX6_ladlesAnew_27 ?_
          refine lv_iand hx hb dX6_ladlesAnew_28 ?_
          refine lv_if_ne (tgt := 36) hx hb dX6_ladlesAnew_29 (by decide) (fun c9 => ?_) (fun c9 => ?_)
          · have h := h.2 c9
            refine lv_iconst (v := 0) hx hb dX6_ladlesAnew_36 (by decide) ?_
            refine lv_istore_n (lv' := [(1, .int 0), (0, .ref (a 0)), (2, .int xl2)]) hx hb dX6_ladlesAnew_37 rfl hl (by decide) rfl (fun ls hl => ?_)
            obtain ⟨x10, ex10⟩ : ∃ y : Int32, y = xl2 + 1 := ⟨_, rfl⟩
            have h := h x10 ex10
            refine lv_iinc (v := x10) (lv' := [(2, .int x10), (1, .int 0), (0, .ref (a 0))]) hx hb dX6_ladlesAnew_38 hl (k := 2) rfl (by rw [ex10]; rfl) (by decide) rfl (fun ls hl => ?_)
            refine lv_goto (tgt := 4) hx hb dX6_ladlesAnew_41 (by decide) ?_
            exact (ih) 0 x10 S _ _ _ h hP hS (lv_sub hl [2, 1, 0] rfl)
          · have h := h.1 c9
            refine lv_iconst (v := 1) hx hb dX6_ladlesAnew_32 (by decide) ?_
            refine lv_goto (tgt := 37) hx hb dX6_ladlesAnew_33 (by decide) ?_
            refine lv_istore_n (lv' := [(1, .int 1), (0, .ref (a 0)), (2, .int xl2)]) hx hb dX6_ladlesAnew_37 rfl hl (by decide) rfl (fun ls hl => ?_)
            obtain ⟨x11, ex11⟩ : ∃ y : Int32, y = xl2 + 1 := ⟨_, rfl⟩
            have h := h x11 ex11
            refine lv_iinc (v := x11) (lv' := [(2, .int x11), (1, .int 1), (0, .ref (a 0))]) hx hb dX6_ladlesAnew_38 hl (k := 2) rfl (by rw [ex11]; rfl) (by decide) rfl (fun ls hl => ?_)
            refine lv_goto (tgt := 4) hx hb dX6_ladlesAnew_41 (by decide) ?_
            exact (ih) 1 x11 S _ _ _ h hP hS (lv_sub hl [2, 1, 0] rfl)
  unfold PX6_ladlesAnew at h
  refine lv_iconst (v := 1) hx hb dX6_ladlesAnew_0 (by decide) ?_
  refine lv_istore_n (lv' := [(1, .int 1), (0, .ref (a 0))]) hx hb dX6_ladlesAnew_1 rfl hl (by decide) rfl (fun ls hl => ?_)
  refine lv_iconst (v := 0) hx hb dX6_ladlesAnew_2 (by decide) ?_
  refine lv_istore_n (lv' := [(2, .int 0), (1, .int 1), (0, .ref (a 0))]) hx hb dX6_ladlesAnew_3 rfl hl (by decide) rfl (fun ls hl => ?_)
  exact (key n) 1 0 S _ _ _ h hP hS (lv_sub hl [2, 1, 0] rfl)
def PX6_ladles  (S : St) (post : Int32 → St → Prop) : Prop := ∀ S1 : St, S1 = sI S 0 0 → ∃ k : Nat, PX6_ladlesAnew k  S1 (fun x3 S2 => ((x3 = 0 → post (-1) S2) ∧ (¬ x3 = 0 → post (S2.1 13) S2)))
set_option maxHeartbeats 4000000 in
set_option maxRecDepth 100000 in
theorem tX6_ladles (l : Launch) (D : va_G) (a : Nat → Nat) (c : Nat → ClassId) (sz : Nat)  (S : St) (post : Int32 → St → Prop) (h : PX6_ladles  S post) : Met l yX6_ladles wsX6_ladles ({ frames := 11, cells := 0, slots := 0, locals := 269 }) (va_Pc [.ref (a 0)] (gP D (mw a c) (mty c) mns S sz)) (va_Qi post (gB D (mw a c)) (va_A (mw a c S) sz)) 0 0 (va_A (mw a c S) sz) := by
  refine Met.ofW (cc := cX6_ladles) (maxL := 1) (ret := (some .int)) (by decide) rfl ?_
  intro p e s m args below meth c9 s₁ B hml hv
  obtain ⟨rfl, hsz, hP, hK, hD0, hN⟩ := hv
  have hx := B.exec
  have hb := B.bytes
  have hr := B.returns
  have hts := atoms_spec (ws := wsX6_ladles) B.pre
  have hown : s.vm.findClass RX6 = some m.cls := findClass_of_methodNamed B.named
  have hlocks := B.notSynchronized
  subst hsz
  have hD1 := hD0.self (sz := s.heap.size)
  generalize hAe : va_A (mw a c S) s.heap.size = A at hD1 ⊢
  have hA : ∀ q : Nat, s.heap.size ≤ q → A q := fun q h => by rw [← hAe]; exact Or.inr h
  have hD : ∀ S2 : St, va_D A (mw a c S2) := gD mw_F hD1
  have hS : va_S A s.heap s.heap [] := va_S.rf
  have hinX6 : ∀ w ∈ wsX60, w ∈ wsX6_ladles := by decide +kernel
  have kf159 := hts (.fieldLink RX6 159 "CanteenPlanModel" "ladleMany" "I") (by decide +kernel)
  have kf60 := hts (.fieldLink RX6 60 "CanteenPlanModel" "thrown" "I") (by decide +kernel)
  have hl := lv_entry ([.ref (a 0)]) (n := 1) (Nat.le_of_ble_eq_true rfl)
  rw [lg_entry_eq]
  generalize (lg_sl ([.ref (a 0)]) ++ List.replicate (1 - (lg_sl ([.ref (a 0)])).length) Slot.unset).toArray = ls at hl ⊢
  have hl : lv_has ls 1 [(0, .ref (a 0))] := hl
  unfold PX6_ladles at h
  refine lv_aload_n hx hb dX6_ladles_0 rfl (lv_at hl 0 rfl) ?_
  refine lv_iconst (v := 0) hx hb dX6_ladles_1 (by decide) ?_
  refine va_put (D := D) (ci := 6) (v := .int 0) (ty := .int) (C := RX6) (T := TX6) (N := 36) hx hb hts hinX6 tyX6 tyX6_ok nmX6 hown hK hP (hD S) hS 0 rfl rfl 0 (by decide) kf60 (fun _ h9 => h9) rfl (by decide +kernel) rfl rfl (Nat.le_of_ble_eq_true rfl) dX6_ladles_2 (fun H locs hP _ hS => ?_)
  obtain ⟨S1, eS1⟩ : ∃ z : St, z = sI S 0 0 := ⟨_, rfl⟩
  have hP : va_P D vwCl (mw a c S1) H := by rw [eS1]; exact hP
  have h := h S1 eS1
  refine lv_aload_n hx hb dX6_ladles_5 rfl (lv_at hl 0 rfl) ?_
  obtain ⟨k4, h⟩ := h
  refine k_i (k_runV mns_ok ⟨hx, hb, hml, hown, hts⟩ (tX6_ladlesAnew l D a c _ k4  S1 _ h) (cwV 0 hts gX6_ladles_X6_ladlesAnew rfl rfl rfl (by decide +kernel) ⟨Nat.le_of_ble_eq_true rfl, Nat.le_of_ble_eq_true rfl⟩) (va_recv hK hP (ci := 6) (q0 := 0) rfl rfl) hP hK (hD S1) hN rfl rfl hl.1 rfl (lv_room (Nat.le_of_ble_eq_true rfl)) dX6_ladles_6 ⟨Nat.le_of_ble_eq_true rfl, Nat.le_of_ble_eq_true rfl⟩) hS (hD S1) hA (fun x3 S2 H locs h hP hS => ?_)
  refine lv_if_eq (tgt := 19) hx hb dX6_ladles_9 (by decide) (fun c5 => ?_) (fun c5 => ?_)
  · have h := h.1 c5
    refine lv_iconst (v := (-1)) hx hb dX6_ladles_19 (by decide) ?_
    exact g_reti hx hb hr hlocks h hP hS dX6_ladles_20
  · have h := h.2 c5
    refine lv_aload_n hx hb dX6_ladles_12 rfl (lv_at hl 0 rfl) ?_
    refine va_get (D := D) (ci := 6) (v := .int (S2.1 13)) (C := RX6) (T := TX6) (N := 36) hx hb hts hinX6 hown hK hP 0 rfl rfl 29 (by decide) kf159 (fun _ h9 => h9) rfl dX6_ladles_13 ?_
    refine lv_goto (tgt := 20) hx hb dX6_ladles_16 (by decide) ?_
    exact g_reti hx hb hr hlocks h hP hS dX6_ladles_20
def PX6_ladle (p0 : Int32) (S : St) (post : Int32 → St → Prop) : Prop := PX6_isMeal p0 S (fun x2 S1 => ((x2 = 0 → post 0 S1) ∧ (¬ x2 = 0 → ∃ k : Nat, PX6_ladlesAnew k  S1 (fun x5 S4 => ((x5 = 0 → post (-1) S4) ∧ (¬ x5 = 0 → (vp_in p0 6 ∧ post (S4.2.2 12 p0.toNatClampNeg) S4)))))))
set_option maxHeartbeats 4000000 in
set_option maxRecDepth 100000 in
theorem tX6_ladle (l : Launch) (D : va_G) (a : Nat → Nat) (c : Nat → ClassId) (sz : Nat) (p0 : Int32) (S : St) (post : Int32 → St → Prop) (h : PX6_ladle p0 S post) : Met l yX6_ladle wsX6_ladle ({ frames := 11, cells := 0, slots := 0, locals := 269 }) (va_Pc [.ref (a 0), .int p0] (gP D (mw a c) (mty c) mns S sz)) (va_Qi post (gB D (mw a c)) (va_A (mw a c S) sz)) 0 0 (va_A (mw a c S) sz) := by
  refine Met.ofW (cc := cX6_ladle) (maxL := 2) (ret := (some .int)) (by decide) rfl ?_
  intro p e s m args below meth c9 s₁ B hml hv
  obtain ⟨rfl, hsz, hP, hK, hD0, hN⟩ := hv
  have hx := B.exec
  have hb := B.bytes
  have hr := B.returns
  have hts := atoms_spec (ws := wsX6_ladle) B.pre
  have hown : s.vm.findClass RX6 = some m.cls := findClass_of_methodNamed B.named
  have hlocks := B.notSynchronized
  subst hsz
  have hD1 := hD0.self (sz := s.heap.size)
  generalize hAe : va_A (mw a c S) s.heap.size = A at hD1 ⊢
  have hA : ∀ q : Nat, s.heap.size ≤ q → A q := fun q h => by rw [← hAe]; exact Or.inr h
  have hD : ∀ S2 : St, va_D A (mw a c S2) := gD mw_F hD1
  have hS : va_S A s.heap s.heap [] := va_S.rf
  have hinX6 : ∀ w ∈ wsX60, w ∈ wsX6_ladle := by decide +kernel
  have kf54 := hts (.fieldLink RX6 54 "CanteenPlanModel" "ladleOf" "[I") (by decide +kernel)
  have hl := lv_entry ([.ref (a 0), .int p0]) (n := 2) (Nat.le_of_ble_eq_true rfl)
  rw [lg_entry_eq]
  generalize (lg_sl ([.ref (a 0), .int p0]) ++ List.replicate (2 - (lg_sl ([.ref (a 0), .int p0])).length) Slot.unset).toArray = ls at hl ⊢
  have hl : lv_has ls 2 [(0, .ref (a 0)), (1, .int p0)] := hl
  unfold PX6_ladle at h
  refine lv_aload_n hx hb dX6_ladle_0 rfl (lv_at hl 0 rfl) ?_
  refine lv_iload_n hx hb dX6_ladle_1 rfl (lv_at hl 1 rfl) ?_
  refine k_i (k_runV mns_ok ⟨hx, hb, hml, hown, hts⟩ (tX6_isMeal l D a c _ p0 S _ h) (cwV 1 hts gX6_ladle_X6_isMeal rfl rfl rfl (by decide +kernel) ⟨Nat.le_of_ble_eq_true rfl, Nat.le_of_ble_eq_true rfl⟩) (va_recv hK hP (ci := 6) (q0 := 0) rfl rfl) hP hK (hD S) hN rfl rfl hl.1 rfl (lv_room (Nat.le_of_ble_eq_true rfl)) dX6_ladle_2 ⟨Nat.le_of_ble_eq_true rfl, Nat.le_of_ble_eq_true rfl⟩) hS (hD S) hA (fun x2 S1 H locs h hP hS => ?_)
  refine lv_if_ne (tgt := 10) hx hb dX6_ladle_5 (by decide) (fun c3 => ?_) (fun c3 => ?_)
  · have h := h.2 c3
    refine lv_aload_n hx hb dX6_ladle_10 rfl (lv_at hl 0 rfl) ?_
    obtain ⟨k6, h⟩ := h
    refine k_i (k_runV mns_ok ⟨hx, hb, hml, hown, hts⟩ (tX6_ladlesAnew l D a c _ k6  S1 _ h) (cwV 0 hts gX6_ladle_X6_ladlesAnew rfl rfl rfl (by decide +kernel) ⟨Nat.le_of_ble_eq_true rfl, Nat.le_of_ble_eq_true rfl⟩) (va_recv hK hP (ci := 6) (q0 := 0) rfl rfl) hP hK (hD S1) hN rfl rfl hl.1 rfl (lv_room (Nat.le_of_ble_eq_true rfl)) dX6_ladle_11 ⟨Nat.le_of_ble_eq_true rfl, Nat.le_of_ble_eq_true rfl⟩) hS (hD S1) hA (fun x5 S4 H locs h hP hS => ?_)
    refine lv_if_eq (tgt := 26) hx hb dX6_ladle_14 (by decide) (fun c7 => ?_) (fun c7 => ?_)
    · have h := h.1 c7
      refine lv_iconst (v := (-1)) hx hb dX6_ladle_26 (by decide) ?_
      exact g_reti hx hb hr hlocks h hP hS dX6_ladle_27
    · have h := h.2 c7
      refine lv_aload_n hx hb dX6_ladle_17 rfl (lv_at hl 0 rfl) ?_
      refine va_get (D := D) (ci := 6) (v := .ref (a 13)) (C := RX6) (T := TX6) (N := 36) hx hb hts hinX6 hown hK hP 0 rfl rfl 28 (by decide) kf54 (fun _ h9 => h9) rfl dX6_ladle_18 ?_
      refine lv_iload_n hx hb dX6_ladle_21 rfl (lv_at hl 1 rfl) ?_
      obtain ⟨b8, h⟩ := h
      refine va_iald hx hb hK hP 13 12 rfl rfl b8 dX6_ladle_22 ?_
      refine lv_goto (tgt := 27) hx hb dX6_ladle_23 (by decide) ?_
      exact g_reti hx hb hr hlocks h hP hS dX6_ladle_27
  · have h := h.1 c3
    refine lv_iconst (v := 0) hx hb dX6_ladle_8 (by decide) ?_
    exact g_reti hx hb hr hlocks h hP hS dX6_ladle_9
def BX6_come_0 (X : Int32 → Int32 → St → Prop) (post : Int32 → St → Prop) (xl1 : Int32) (xs0 : Int32) (S : St) : Prop := PX6_bad xs0 1 S (fun x5 S4 => ((x5 = 0 → (((S4.1 14) = 60 → post (-1) S4) ∧ (¬ (S4.1 14) = 60 → (vp_in (S4.1 14) 60 ∧ ∀ S9 : St, S9 = sR S4 13 (upd (S4.2.2 13) (S4.1 14).toNatClampNeg xl1) → ∀ S10 : St, S10 = sI S9 14 ((S9.1 14) + 1) → post (S10.1 14) S10)))) ∧ (¬ x5 = 0 → post 0 S4)))
def LX6_come (post : Int32 → St → Prop) : Nat → Int32 → Int32 → St → Prop
  | 0, _, _, _ => False
  | n + 1, xl1, xs0, S => BX6_come_0 (LX6_come post n) post xl1 xs0 S
def PX6_come (n : Nat) (p0 : Int32) (S : St) (post : Int32 → St → Prop) : Prop := ∀ S1 : St, S1 = sI S 0 0 → ((p0 < 0 → LX6_come post n p0 1 S1) ∧ (¬ p0 < 0 → ((p0 ≤ 100 → LX6_come post n p0 0 S1) ∧ (¬ p0 ≤ 100 → LX6_come post n p0 1 S1))))
set_option maxHeartbeats 4000000 in
set_option maxRecDepth 100000 in
theorem tX6_come (l : Launch) (D : va_G) (a : Nat → Nat) (c : Nat → ClassId) (sz : Nat) (n : Nat) (p0 : Int32) (S : St) (post : Int32 → St → Prop) (h : PX6_come n p0 S post) : Met l yX6_come wsX6_come ({ frames := 1, cells := 0, slots := 0, locals := 22 }) (va_Pc [.ref (a 0), .int p0] (gP D (mw a c) (mty c) mns S sz)) (va_Qi post (gB D (mw a c)) (va_A (mw a c S) sz)) 0 0 (va_A (mw a c S) sz) := by
  refine Met.ofW (cc := cX6_come) (maxL := 2) (ret := (some .int)) (by decide) rfl ?_
  intro p e s m args below meth c9 s₁ B hml hv
  obtain ⟨rfl, hsz, hP, hK, hD0, hN⟩ := hv
  have hx := B.exec
  have hb := B.bytes
  have hr := B.returns
  have hts := atoms_spec (ws := wsX6_come) B.pre
  have hown : s.vm.findClass RX6 = some m.cls := findClass_of_methodNamed B.named
  have hlocks := B.notSynchronized
  subst hsz
  have hD1 := hD0.self (sz := s.heap.size)
  generalize hAe : va_A (mw a c S) s.heap.size = A at hD1 ⊢
  have hA : ∀ q : Nat, s.heap.size ≤ q → A q := fun q h => by rw [← hAe]; exact Or.inr h
  have hD : ∀ S2 : St, va_D A (mw a c S2) := gD mw_F hD1
  have hS : va_S A s.heap s.heap [] := va_S.rf
  have hinX6 : ∀ w ∈ wsX60, w ∈ wsX6_come := by decide +kernel
  have kf172 := hts (.fieldLink RX6 172 "CanteenPlanModel" "minutes" "I") (by decide +kernel)
  have kf57 := hts (.fieldLink RX6 57 "CanteenPlanModel" "came" "[I") (by decide +kernel)
  have kf60 := hts (.fieldLink RX6 60 "CanteenPlanModel" "thrown" "I") (by decide +kernel)
  have hl := lv_entry ([.ref (a 0), .int p0]) (n := 2) (Nat.le_of_ble_eq_true rfl)
  rw [lg_entry_eq]
  generalize (lg_sl ([.ref (a 0), .int p0]) ++ List.replicate (2 - (lg_sl ([.ref (a 0), .int p0])).length) Slot.unset).toArray = ls at hl ⊢
  have hl : lv_has ls 2 [(0, .ref (a 0)), (1, .int p0)] := hl
  have key : ∀ n : Nat, (∀ (xl1 : Int32) (xs0 : Int32) (S : St) (H : Heap) (locs : List Loc) (ls : Array Slot), LX6_come post n xl1 xs0 S → va_P D vwCl (mw a c S) H → va_S A s.heap H locs → lv_has ls 2 [(0, .ref (a 0)), (1, .int xl1)] → W p l e ((headSpec wsX6_come ({ frames := 1, cells := 0, slots := 0, locals := 22 })).room) s m ([.ref (a 0), .int p0]).toArray below meth c9 H locs 0 0 (MQ below (va_Qi post (gB D (mw a c)) A) ([.ref (a 0), .int p0]).toArray s 0 0 A) (F0 m 21 ls [.int xs0, .ref (a 0)])) := by
    intro n
    induction n with
    | zero => exact fun xl1 xs0 S H locs ls h => h.elim
    | succ n ih =>
      intro xl1 xs0 S H locs ls h hP hS hl
      have h : BX6_come_0 (LX6_come post n) post xl1 xs0 S := h
      unfold BX6_come_0 at h
      refine lv_iconst (v := 1) hx hb dX6_come_21 (by decide) ?_
      refine k_i (k_runV mns_ok ⟨hx, hb, hml, hown, hts⟩ (tX6_bad l D a c _ xs0 1 S _ h) (cwV 2 hts gX6_come_X6_bad rfl rfl rfl (by decide +kernel) ⟨Nat.le_of_ble_eq_true rfl, Nat.le_of_ble_eq_true rfl⟩) (va_recv hK hP (ci := 6) (q0 := 0) rfl rfl) hP hK (hD S) hN rfl rfl hl.1 rfl (lv_room (Nat.le_of_ble_eq_true rfl)) dX6_come_22 ⟨Nat.le_of_ble_eq_true rfl, Nat.le_of_ble_eq_true rfl⟩) hS (hD S) hA (fun x5 S4 H locs h hP hS => ?_)
      refine lv_if_eq (tgt := 30) hx hb dX6_come_25 (by decide) (fun c6 => ?_) (fun c6 => ?_)
      · have h := h.1 c6
        refine lv_aload_n hx hb dX6_come_30 rfl (lv_at hl 0 rfl) ?_
        refine va_get (D := D) (ci := 6) (v := .int (S4.1 14)) (C := RX6) (T := TX6) (N := 36) hx hb hts hinX6 hown hK hP 0 rfl rfl 31 (by decide) kf172 (fun _ h9 => h9) rfl dX6_come_31 ?_
        refine lv_bipush (v := 60) hx hb dX6_come_34 (by decide) ?_
        refine lv_icmp_ne (tgt := 41) hx hb dX6_come_36 (by decide) (fun c7 => ?_) (fun c7 => ?_)
        · have h := h.2 c7
          refine lv_aload_n hx hb dX6_come_41 rfl (lv_at hl 0 rfl) ?_
          refine va_get (D := D) (ci := 6) (v := .ref (a 14)) (C := RX6) (T := TX6) (N := 36) hx hb hts hinX6 hown hK hP 0 rfl rfl 30 (by decide) kf57 (fun _ h9 => h9) rfl dX6_come_42 ?_
          refine lv_aload_n hx hb dX6_come_45 rfl (lv_at hl 0 rfl) ?_
          refine va_get (D := D) (ci := 6) (v := .int (S4.1 14)) (C := RX6) (T := TX6) (N := 36) hx hb hts hinX6 hown hK hP 0 rfl rfl 31 (by decide) kf172 (fun _ h9 => h9) rfl dX6_come_46 ?_
          refine lv_iload_n hx hb dX6_come_49 rfl (lv_at hl 1 rfl) ?_
          obtain ⟨b8, h⟩ := h
          refine va_iast hx hb hK hP (hD S4) hS 14 13 rfl rfl b8 dX6_come_50 (fun H locs hP _ hS => ?_)
          obtain ⟨S9, eS9⟩ : ∃ z : St, z = sR S4 13 (upd (S4.2.2 13) (S4.1 14).toNatClampNeg xl1) := ⟨_, rfl⟩
          have hP : va_P D vwCl (mw a c S9) H := by rw [eS9]; exact hP
          have h := h S9 eS9
          refine lv_aload_n hx hb dX6_come_51 rfl (lv_at hl 0 rfl) ?_
          refine lv_dup hx hb dX6_come_52 rfl ?_
          refine va_get (D := D) (ci := 6) (v := .int (S9.1 14)) (C := RX6) (T := TX6) (N := 36) hx hb hts hinX6 hown hK hP 0 rfl rfl 31 (by decide) kf172 (fun _ h9 => h9) rfl dX6_come_53 ?_
          refine lv_iconst (v := 1) hx hb dX6_come_56 (by decide) ?_
          refine lv_iadd hx hb dX6_come_57 ?_
          refine va_put (D := D) (ci := 6) (v := .int ((S9.1 14) + 1)) (ty := .int) (C := RX6) (T := TX6) (N := 36) hx hb hts hinX6 tyX6 tyX6_ok nmX6 hown hK hP (hD S9) hS 0 rfl rfl 31 (by decide) kf172 (fun _ h9 => h9) rfl (by decide +kernel) rfl rfl (Nat.le_of_ble_eq_true rfl) dX6_come_58 (fun H locs hP _ hS => ?_)
          obtain ⟨S10, eS10⟩ : ∃ z : St, z = sI S9 14 ((S9.1 14) + 1) := ⟨_, rfl⟩
          have hP : va_P D vwCl (mw a c S10) H := by rw [eS10]; exact hP
          have h := h S10 eS10
          refine lv_aload_n hx hb dX6_come_61 rfl (lv_at hl 0 rfl) ?_
          refine va_get (D := D) (ci := 6) (v := .int (S10.1 14)) (C := RX6) (T := TX6) (N := 36) hx hb hts hinX6 hown hK hP 0 rfl rfl 31 (by decide) kf172 (fun _ h9 => h9) rfl dX6_come_62 ?_
          exact g_reti hx hb hr hlocks h hP hS dX6_come_65
        · have h := h.1 c7
          refine lv_iconst (v := (-1)) hx hb dX6_come_39 (by decide) ?_
          exact g_reti hx hb hr hlocks h hP hS dX6_come_40
      · have h := h.2 c6
        refine lv_iconst (v := 0) hx hb dX6_come_28 (by decide) ?_
        exact g_reti hx hb hr hlocks h hP hS dX6_come_29
  unfold PX6_come at h
  refine lv_aload_n hx hb dX6_come_0 rfl (lv_at hl 0 rfl) ?_
  refine lv_iconst (v := 0) hx hb dX6_come_1 (by decide) ?_
  refine va_put (D := D) (ci := 6) (v := .int 0) (ty := .int) (C := RX6) (T := TX6) (N := 36) hx hb hts hinX6 tyX6 tyX6_ok nmX6 hown hK hP (hD S) hS 0 rfl rfl 0 (by decide) kf60 (fun _ h9 => h9) rfl (by decide +kernel) rfl rfl (Nat.le_of_ble_eq_true rfl) dX6_come_2 (fun H locs hP _ hS => ?_)
  obtain ⟨S1, eS1⟩ : ∃ z : St, z = sI S 0 0 := ⟨_, rfl⟩
  have hP : va_P D vwCl (mw a c S1) H := by rw [eS1]; exact hP
  have h := h S1 eS1
  refine lv_aload_n hx hb dX6_come_5 rfl (lv_at hl 0 rfl) ?_
  refine lv_iload_n hx hb dX6_come_6 rfl (lv_at hl 1 rfl) ?_
  refine lv_if_lt (tgt := 16) hx hb dX6_come_7 (by decide) (fun c2 => ?_) (fun c2 => ?_)
  · have h := h.1 c2
    refine lv_iconst (v := 1) hx hb dX6_come_16 (by decide) ?_
    refine lv_goto (tgt := 21) hx hb dX6_come_17 (by decide) ?_
    exact (key n) p0 1 S1 _ _ _ h hP hS (lv_sub hl [0, 1] rfl)
  · have h := h.2 c2
    refine lv_iload_n hx hb dX6_come_10 rfl (lv_at hl 1 rfl) ?_
    refine lv_bipush (v := 100) hx hb dX6_come_11 (by decide) ?_
    refine lv_icmp_le (tgt := 20) hx hb dX6_come_13 (by decide) (fun c3 => ?_) (fun c3 => ?_)
    · have h := h.1 c3
      refine lv_iconst (v := 0) hx hb dX6_come_20 (by decide) ?_
      exact (key n) p0 0 S1 _ _ _ h hP hS (lv_sub hl [0, 1] rfl)
    · have h := h.2 c3
      refine lv_iconst (v := 1) hx hb dX6_come_16 (by decide) ?_
      refine lv_goto (tgt := 21) hx hb dX6_come_17 (by decide) ?_
      exact (key n) p0 1 S1 _ _ _ h hP hS (lv_sub hl [0, 1] rfl)
def BX6_stands_0 (X : Nat → Int32 → Int32 → Int32 → Int32 → Int32 → Int32 → Int32 → Int32 → Int32 → St → Prop) (post : St → Prop) (xl1 : Int32) (xl2 : Int32) (xl3 : Int32) (xl4 : Int32) (xl5 : Int32) (xl6 : Int32) (xl7 : Int32) (xs0 : Int32) (xs1 : Int32) (S : St) : Prop := ((xl6 < xl5 → (((S.1 14) ≤ xl6 → X 1 xl1 xl2 xl3 0 xl5 xl6 0 0 xl4 S) ∧ (¬ (S.1 14) ≤ xl6 → (vp_in xl6 60 ∧ X 1 xl1 xl2 xl3 0 xl5 xl6 0 (S.2.2 13 xl6.toNatClampNeg) xl4 S)))) ∧ (¬ xl6 < xl5 → ((xl4 ≤ 0 → post S) ∧ (¬ xl4 ≤ 0 → (((S.1 14) ≤ xl6 → X 1 xl1 xl2 xl3 0 xl5 xl6 0 0 xl4 S) ∧ (¬ (S.1 14) ≤ xl6 → (vp_in xl6 60 ∧ X 1 xl1 xl2 xl3 0 xl5 xl6 0 (S.2.2 13 xl6.toNatClampNeg) xl4 S)))))))
def BX6_stands_1 (X : Nat → Int32 → Int32 → Int32 → Int32 → Int32 → Int32 → Int32 → Int32 → Int32 → St → Prop) (post : St → Prop) (xl1 : Int32) (xl2 : Int32) (xl3 : Int32) (xl4 : Int32) (xl5 : Int32) (xl6 : Int32) (xl7 : Int32) (xs0 : Int32) (xs1 : Int32) (S : St) : Prop := ∀ x16 : Int32, x16 = (xs1 + xs0) → ((xl1 ≤ x16 → ∀ x18 : Int32, x18 = (x16 - xl1) → X 2 xl1 xl2 xl3 x18 xl5 xl6 xl1 0 0 S) ∧ (¬ xl1 ≤ x16 → ∀ x19 : Int32, x19 = (x16 - x16) → X 2 xl1 xl2 xl3 x19 xl5 xl6 x16 0 0 S))
def BX6_stands_2 (X : Nat → Int32 → Int32 → Int32 → Int32 → Int32 → Int32 → Int32 → Int32 → Int32 → St → Prop) (post : St → Prop) (xl1 : Int32) (xl2 : Int32) (xl3 : Int32) (xl4 : Int32) (xl5 : Int32) (xl6 : Int32) (xl7 : Int32) (xs0 : Int32) (xs1 : Int32) (S : St) : Prop := ((xl7 ≤ 0 → ((xl4 ≤ (S.1 18) → ∀ S22 : St, S22 = sI S 18 (S.1 18) → ∀ x23 : Int32, x23 = xl6 + 1 → X 0 xl1 xl2 xl3 xl4 xl5 x23 0 0 0 S22) ∧ (¬ xl4 ≤ (S.1 18) → ∀ S24 : St, S24 = sI S 18 xl4 → ∀ x25 : Int32, x25 = xl6 + 1 → X 0 xl1 xl2 xl3 xl4 xl5 x25 0 0 0 S24))) ∧ (¬ xl7 ≤ 0 → X 3 xl1 xl2 xl3 xl4 xl5 xl6 xl7 0 0 S))
def BX6_stands_3 (X : Nat → Int32 → Int32 → Int32 → Int32 → Int32 → Int32 → Int32 → Int32 → Int32 → St → Prop) (post : St → Prop) (xl1 : Int32) (xl2 : Int32) (xl3 : Int32) (xl4 : Int32) (xl5 : Int32) (xl6 : Int32) (xl7 : Int32) (xs0 : Int32) (xs1 : Int32) (S : St) : Prop := ((xl3 = 0 → ∀ x44 : Int32, x44 = xl2 + 1 → (vp_in x44 60 ∧ ∀ x46 : Int32, x46 = (S.2.2 13 x44.toNatClampNeg) → X 3 xl1 x44 x46 xl4 xl5 xl6 xl7 0 0 S)) ∧ (¬ xl3 = 0 → ((xl7 ≤ xl3 → ∀ x28 : Int32, x28 = (xl3 - xl7) → ∀ x29 : Int32, x29 = (xl7 - xl7) → ∀ S30 : St, S30 = sI S 16 ((S.1 16) + (xl7 * (xl6 - xl2))) → (((xl6 - xl2) ≤ (S30.1 15) → ∀ S32 : St, S32 = sI S30 15 (S30.1 15) → ∀ S33 : St, S33 = sI S32 17 xl6 → X 2 xl1 xl2 x28 xl4 xl5 xl6 x29 0 0 S33) ∧ (¬ (xl6 - xl2) ≤ (S30.1 15) → ∀ S34 : St, S34 = sI S30 15 (xl6 - xl2) → ∀ S35 : St, S35 = sI S34 17 xl6 → X 2 xl1 xl2 x28 xl4 xl5 xl6 x29 0 0 S35))) ∧ (¬ xl7 ≤ xl3 → ∀ x36 : Int32, x36 = (xl3 - xl3) → ∀ x37 : Int32, x37 = (xl7 - xl3) → ∀ S38 : St, S38 = sI S 16 ((S.1 16) + (xl3 * (xl6 - xl2))) → (((xl6 - xl2) ≤ (S38.1 15) → ∀ S40 : St, S40 = sI S38 15 (S38.1 15) → ∀ S41 : St, S41 = sI S40 17 xl6 → X 2 xl1 xl2 x36 xl4 xl5 xl6 x37 0 0 S41) ∧ (¬ (xl6 - xl2) ≤ (S38.1 15) → ∀ S42 : St, S42 = sI S38 15 (xl6 - xl2) → ∀ S43 : St, S43 = sI S42 17 xl6 → X 2 xl1 xl2 x36 xl4 xl5 xl6 x37 0 0 S43))))))
def LX6_stands (post : St → Prop) : Nat → Nat → Int32 → Int32 → Int32 → Int32 → Int32 → Int32 → Int32 → Int32 → Int32 → St → Prop
  | 0, _, _, _, _, _, _, _, _, _, _, _ => False
  | n + 1, 0, xl1, xl2, xl3, xl4, xl5, xl6, xl7, xs0, xs1, S => BX6_stands_0 (LX6_stands post n) post xl1 xl2 xl3 xl4 xl5 xl6 xl7 xs0 xs1 S
  | n + 1, 1, xl1, xl2, xl3, xl4, xl5, xl6, xl7, xs0, xs1, S => BX6_stands_1 (LX6_stands post n) post xl1 xl2 xl3 xl4 xl5 xl6 xl7 xs0 xs1 S
  | n + 1, 2, xl1, xl2, xl3, xl4, xl5, xl6, xl7, xs0, xs1, S => BX6_stands_2 (LX6_stands post n) post xl1 xl2 xl3 xl4 xl5 xl6 xl7 xs0 xs1 S
  | n + 1, 3, xl1, xl2, xl3, xl4, xl5, xl6, xl7, xs0, xs1, S => BX6_stands_3 (LX6_stands post n) post xl1 xl2 xl3 xl4 xl5 xl6 xl7 xs0 xs1 S
  | _ + 1, _ + 4, _, _, _, _, _, _, _, _, _, _ => False
def PX6_stands (n : Nat) (p0 : Int32) (S : St) (post : St → Prop) : Prop := ∀ S1 : St, S1 = sI S 15 0 → ∀ S2 : St, S2 = sI S1 16 0 → ∀ S3 : St, S3 = sI S2 17 (-1) → ∀ S4 : St, S4 = sI S3 18 0 → (((S4.1 14) ≤ 0 → ∀ x6 : Int32, x6 = (S4.1 14) → LX6_stands post n 0 p0 0 0 0 x6 0 0 0 0 S4) ∧ (¬ (S4.1 14) ≤ 0 → (vp_in 0 60 ∧ ∀ x8 : Int32, x8 = (S4.2.2 13 (0 : Int32).toNatClampNeg) → ∀ x9 : Int32, x9 = (S4.1 14) → LX6_stands post n 0 p0 0 x8 0 x9 0 0 0 0 S4)))
set_option maxHeartbeats 4000000 in
set_option maxRecDepth 100000 in
theorem tX6_stands (l : Launch) (D : va_G) (a : Nat → Nat) (c : Nat → ClassId) (sz : Nat) (n : Nat) (p0 : Int32) (S : St) (post : St → Prop) (h : PX6_stands n p0 S post) : Met l yX6_stands wsX6_stands ({ frames := 0, cells := 0, slots := 0, locals := 0 }) (va_Pc [.ref (a 0), .int p0] (gP D (mw a c) (mty c) mns S sz)) (va_Qv post (gB D (mw a c)) (va_A (mw a c S) sz)) 0 0 (va_A (mw a c S) sz) := by
  refine Met.ofW (cc := cX6_stands) (maxL := 9) (ret := none) (by decide) rfl ?_
  intro p e s m args below meth c9 s₁ B hml hv
  obtain ⟨rfl, hsz, hP, hK, hD0, hN⟩ := hv
  have hx := B.exec
  have hb := B.bytes
  have hr := B.returns
  have hts := atoms_spec (ws := wsX6_stands) B.pre
  have hown : s.vm.findClass RX6 = some m.cls := findClass_of_methodNamed B.named
  have hlocks := B.notSynchronized
  subst hsz
  have hD1 := hD0.self (sz := s.heap.size)
  generalize hAe : va_A (mw a c S) s.heap.size = A at hD1 ⊢
  have hA : ∀ q : Nat, s.heap.size ≤ q → A q := fun q h => by rw [← hAe]; exact Or.inr h
  have hD : ∀ S2 : St, va_D A (mw a c S2) := gD mw_F hD1
  have hS : va_S A s.heap s.heap [] := va_S.rf
  have hinX6 : ∀ w ∈ wsX60, w ∈ wsX6_stands := by decide +kernel
  have kf172 := hts (.fieldLink RX6 172 "CanteenPlanModel" "minutes" "I") (by decide +kernel)
  have kf175 := hts (.fieldLink RX6 175 "CanteenPlanModel" "greatest" "I") (by decide +kernel)
  have kf178 := hts (.fieldLink RX6 178 "CanteenPlanModel" "waits" "I") (by decide +kernel)
  have kf181 := hts (.fieldLink RX6 181 "CanteenPlanModel" "lastWent" "I") (by decide +kernel)
  have kf184 := hts (.fieldLink RX6 184 "CanteenPlanModel" "longest" "I") (by decide +kernel)
  have kf57 := hts (.fieldLink RX6 57 "CanteenPlanModel" "came" "[I") (by decide +kernel)
  have hl := lv_entry ([.ref (a 0), .int p0]) (n := 9) (Nat.le_of_ble_eq_true rfl)
  rw [lg_entry_eq]
  generalize (lg_sl ([.ref (a 0), .int p0]) ++ List.replicate (9 - (lg_sl ([.ref (a 0), .int p0])).length) Slot.unset).toArray = ls at hl ⊢
  have hl : lv_has ls 9 [(0, .ref (a 0)), (1, .int p0)] := hl
  have key : ∀ n : Nat, (∀ (xl1 : Int32) (xl2 : Int32) (xl3 : Int32) (xl4 : Int32) (xl5 : Int32) (xl6 : Int32) (S : St) (H : Heap) (locs : List Loc) (ls : Array Slot), LX6_stands post n 0 xl1 xl2 xl3 xl4 xl5 xl6 0 0 0 S → va_P D vwCl (mw a c S) H → va_S A s.heap H locs → lv_has ls 9 [(0, .ref (a 0)), (1, .int xl1), (2, .int xl2), (3, .int xl3), (4, .int xl4), (5, .int xl5), (6, .int xl6)] → W p l e ((headSpec wsX6_stands ({ frames := 0, cells := 0, slots := 0, locals := 0 })).room) s m ([.ref (a 0), .int p0]).toArray below meth c9 H locs 0 0 (MQ below (va_Qv post (gB D (mw a c)) A) ([.ref (a 0), .int p0]).toArray s 0 0 A) (F0 m 52 ls [])) ∧ (∀ (xl1 : Int32) (xl2 : Int32) (xl3 : Int32) (xl5 : Int32) (xl6 : Int32) (xs0 : Int32) (xs1 : Int32) (S : St) (H : Heap) (locs : List Loc) (ls : Array Slot), LX6_stands post n 1 xl1 xl2 xl3 0 xl5 xl6 0 xs0 xs1 S → va_P D vwCl (mw a c S) H → va_S A s.heap H locs → lv_has ls 9 [(0, .ref (a 0)), (1, .int xl1), (2, .int xl2), (3, .int xl3), (5, .int xl5), (6, .int xl6)] → W p l e ((headSpec wsX6_stands ({ frames := 0, cells := 0, slots := 0, locals := 0 })).room) s m ([.ref (a 0), .int p0]).toArray below meth c9 H locs 0 0 (MQ below (va_Qv post (gB D (mw a c)) A) ([.ref (a 0), .int p0]).toArray s 0 0 A) (F0 m 86 ls [.int xs0, .int xs1])) ∧ (∀ (xl1 : Int32) (xl2 : Int32) (xl3 : Int32) (xl4 : Int32) (xl5 : Int32) (xl6 : Int32) (xl7 : Int32) (S : St) (H : Heap) (locs : List Loc) (ls : Array Slot), LX6_stands post n 2 xl1 xl2 xl3 xl4 xl5 xl6 xl7 0 0 S → va_P D vwCl (mw a c S) H → va_S A s.heap H locs → lv_has ls 9 [(0, .ref (a 0)), (1, .int xl1), (2, .int xl2), (3, .int xl3), (4, .int xl4), (5, .int xl5), (6, .int xl6), (7, .int xl7)] → W p l e ((headSpec wsX6_stands ({ frames := 0, cells := 0, slots := 0, locals := 0 })).room) s m ([.ref (a 0), .int p0]).toArray below meth c9 H locs 0 0 (MQ below (va_Qv post (gB D (mw a c)) A) ([.ref (a 0), .int p0]).toArray s 0 0 A) (F0 m 110 ls [])) ∧ (∀ (xl1 : Int32) (xl2 : Int32) (xl3 : Int32) (xl4 : Int32) (xl5 : Int32) (xl6 : Int32) (xl7 : Int32) (S : St) (H : Heap) (locs : List Loc) (ls : Array Slot), LX6_stands post n 3 xl1 xl2 xl3 xl4 xl5 xl6 xl7 0 0 S → va_P D vwCl (mw a c S) H → va_S A s.heap H locs → lv_has ls 9 [(0, .ref (a 0)), (1, .int xl1), (2, .int xl2), (3, .int xl3), (4, .int xl4), (5, .int xl5), (6, .int xl6), (7, .int xl7)] → W p l e ((headSpec wsX6_stands ({ frames := 0, cells := 0, slots := 0, locals := 0 })).room) s m ([.ref (a 0), .int p0]).toArray below meth c9 H locs 0 0 (MQ below (va_Qv post (gB D (mw a c)) A) ([.ref (a 0), .int p0]).toArray s 0 0 A) (F0 m 115 ls [])) := by
    intro n
    induction n with
    | zero => exact ⟨fun xl1 xl2 xl3 xl4 xl5 xl6 S H locs ls h => h.elim, fun xl1 xl2 xl3 xl5 xl6 xs0 xs1 S H locs ls h => h.elim, fun xl1 xl2 xl3 xl4 xl5 xl6 xl7 S H locs ls h => h.elim, fun xl1 xl2 xl3 xl4 xl5 xl6 xl7 S H locs ls h => h.elim⟩
    | succ n ih =>
      refine ⟨?_, ?_, ?_, ?_⟩
      · intro xl1 xl2 xl3 xl4 xl5 xl6 S H locs ls h hP hS hl
        have h : BX6_stands_0 (LX6_stands post n) post xl1 xl2 xl3 xl4 xl5 xl6 0 0 0 S := h
        unfold BX6_stands_0 at h
        refine lv_iload hx hb dX6_stands_52 (lv_at hl 6 rfl) ?_
        refine lv_iload hx hb dX6_stands_54 (lv_at hl 5 rfl) ?_
        refine lv_icmp_lt (tgt := 64) hx hb dX6_stands_56 (by decide) (fun c10 => ?_) (fun c10 => ?_)
        · have h := h.1 c10
          refine lv_iload hx hb dX6_stands_64 (lv_at hl 4 rfl) ?_
          refine lv_iload hx hb dX6_stands_66 (lv_at hl 6 rfl) ?_
          refine lv_aload_n hx hb dX6_stands_68 rfl (lv_at hl 0 rfl) ?_
          refine va_get (D := D) (ci := 6) (v := .int (S.1 14)) (C := RX6) (T := TX6) (N := 36) hx hb hts hinX6 hown hK hP 0 rfl rfl 31 (by decide) kf172 (fun _ h9 => h9) rfl dX6_stands_69 ?_
          refine lv_icmp_ge (tgt := 85) hx hb dX6_stands_72 (by decide) (fun c11 => ?_) (fun c11 => ?_)
          · have h := h.1 c11
            refine lv_iconst (v := 0) hx hb dX6_stands_85 (by decide) ?_
            exact (ih).2.1 xl1 xl2 xl3 xl5 xl6 0 xl4 S _ _ _ h hP hS (lv_sub hl [0, 1, 2, 3, 5, 6] rfl)
          · have h := h.2 c11
            refine lv_aload_n hx hb dX6_stands_75 rfl (lv_at hl 0 rfl) ?_
            refine va_get (D := D) (ci := 6) (v := .ref (a 14)) (C := RX6) (T := TX6) (N := 36) hx hb hts hinX6 hown hK hP 0 rfl rfl 30 (by decide) kf57 (fun _ h9 => h9) rfl dX6_stands_76 ?_
            refine lv_iload hx hb dX6_stands_79 (lv_at hl 6 rfl) ?_
            obtain ⟨b12, h⟩ := h
            refine va_iald hx hb hK hP 14 13 rfl rfl b12 dX6_stands_81 ?_
            refine lv_goto (tgt := 86) hx hb dX6_stands_82 (by decide) ?_
            exact (ih).2.1 xl1 xl2 xl3 xl5 xl6 (S.2.2 13 xl6.toNatClampNeg) xl4 S _ _ _ h hP hS (lv_sub hl [0, 1, 2, 3, 5, 6] rfl)
        · have h := h.2 c10
          refine lv_iload hx hb dX6_stands_59 (lv_at hl 4 rfl) ?_
          refine lv_if_le (tgt := 237) hx hb dX6_stands_61 (by decide) (fun c13 => ?_) (fun c13 => ?_)
          · have h := h.1 c13
            exact g_retv hx hb hr hlocks h hP hS dX6_stands_237
          · have h := h.2 c13
            refine lv_iload hx hb dX6_stands_64 (lv_at hl 4 rfl) ?_
            refine lv_iload hx hb dX6_stands_66 (lv_at hl 6 rfl) ?_
            refine lv_aload_n hx hb dX6_stands_68 rfl (lv_at hl 0 rfl) ?_
            refine va_get (D := D) (ci := 6) (v := .int (S.1 14)) (C := RX6) (T := TX6) (N := 36) hx hb hts hinX6 hown hK hP 0 rfl rfl 31 (by decide) kf172 (fun _ h9 => h9) rfl dX6_stands_69 ?_
            refine lv_icmp_ge (tgt := 85) hx hb dX6_stands_72 (by decide) (fun c14 => ?_) (fun c14 => ?_)
            · have h := h.1 c14
              refine lv_iconst (v := 0) hx hb dX6_stands_85 (by decide) ?_
              exact (ih).2.1 xl1 xl2 xl3 xl5 xl6 0 xl4 S _ _ _ h hP hS (lv_sub hl [0, 1, 2, 3, 5, 6] rfl)
            · have h := h.2 c14
              refine lv_aload_n hx hb dX6_stands_75 rfl (lv_at hl 0 rfl) ?_
              refine va_get (D := D) (ci := 6) (v := .ref (a 14)) (C := RX6) (T := TX6) (N := 36) hx hb hts hinX6 hown hK hP 0 rfl rfl 30 (by decide) kf57 (fun _ h9 => h9) rfl dX6_stands_76 ?_
              refine lv_iload hx hb dX6_stands_79 (lv_at hl 6 rfl) ?_
              obtain ⟨b15, h⟩ := h
              refine va_iald hx hb hK hP 14 13 rfl rfl b15 dX6_stands_81 ?_
              refine lv_goto (tgt := 86) hx hb dX6_stands_82 (by decide) ?_
              exact (ih).2.1 xl1 xl2 xl3 xl5 xl6 (S.2.2 13 xl6.toNatClampNeg) xl4 S _ _ _ h hP hS (lv_sub hl [0, 1, 2, 3, 5, 6] rfl)
      · intro xl1 xl2 xl3 xl5 xl6 xs0 xs1 S H locs ls h hP hS hl
        have h : BX6_stands_1 (LX6_stands post n) post xl1 xl2 xl3 0 xl5 xl6 0 xs0 xs1 S := h
        unfold BX6_stands_1 at h
        refine lv_iadd hx hb dX6_stands_86 ?_
        refine lv_topi (fun x16 ex16 => ?_)
        have h := h x16 ex16
        refine lv_istore (lv' := [(4, .int x16), (0, .ref (a 0)), (1, .int xl1), (2, .int xl2), (3, .int xl3), (5, .int xl5), (6, .int xl6)]) hx hb dX6_stands_87 hl (by decide) rfl (fun ls hl => ?_)
        refine lv_iload hx hb dX6_stands_89 (lv_at hl 0 rfl) ?_
        refine lv_iload_n hx hb dX6_stands_91 rfl (lv_at hl 2 rfl) ?_
        refine lv_icmp_ge (tgt := 100) hx hb dX6_stands_92 (by decide) (fun c17 => ?_) (fun c17 => ?_)
        · have h := h.1 c17
          refine lv_iload_n hx hb dX6_stands_100 rfl (lv_at hl 2 rfl) ?_
          refine lv_istore (lv' := [(7, .int xl1), (4, .int x16), (0, .ref (a 0)), (1, .int xl1), (2, .int xl2), (3, .int xl3), (5, .int xl5), (6, .int xl6)]) hx hb dX6_stands_101 hl (by decide) rfl (fun ls hl => ?_)
          refine lv_iload hx hb dX6_stands_103 (lv_at hl 1 rfl) ?_
          refine lv_iload hx hb dX6_stands_105 (lv_at hl 0 rfl) ?_
          refine lv_isub hx hb dX6_stands_107 ?_
          refine lv_topi (fun x18 ex18 => ?_)
          have h := h x18 ex18
          refine lv_istore (lv' := [(4, .int x18), (7, .int xl1), (0, .ref (a 0)), (1, .int xl1), (2, .int xl2), (3, .int xl3), (5, .int xl5), (6, .int xl6)]) hx hb dX6_stands_108 hl (by decide) rfl (fun ls hl => ?_)
          exact (ih).2.2.1 xl1 xl2 xl3 x18 xl5 xl6 xl1 S _ _ _ h hP hS (lv_sub hl [2, 3, 4, 5, 0, 6, 7, 1] rfl)
        · have h := h.2 c17
          refine lv_iload hx hb dX6_stands_95 (lv_at hl 0 rfl) ?_
          refine lv_goto (tgt := 101) hx hb dX6_stands_97 (by decide) ?_
          refine lv_istore (lv' := [(7, .int x16), (4, .int x16), (0, .ref (a 0)), (1, .int xl1), (2, .int xl2), (3, .int xl3), (5, .int xl5), (6, .int xl6)]) hx hb dX6_stands_101 hl (by decide) rfl (fun ls hl => ?_)
          refine lv_iload hx hb dX6_stands_103 (lv_at hl 1 rfl) ?_
          refine lv_iload hx hb dX6_stands_105 (lv_at hl 0 rfl) ?_
          refine lv_isub hx hb dX6_stands_107 ?_
          refine lv_topi (fun x19 ex19 => ?_)
          have h := h x19 ex19
          refine lv_istore (lv' := [(4, .int x19), (7, .int x16), (0, .ref (a 0)), (1, .int xl1), (2, .int xl2), (3, .int xl3), (5, .int xl5), (6, .int xl6)]) hx hb dX6_stands_108 hl (by decide) rfl (fun ls hl => ?_)
          exact (ih).2.2.1 xl1 xl2 xl3 x19 xl5 xl6 x16 S _ _ _ h hP hS (lv_sub hl [2, 3, 4, 5, 0, 6, 7, 1] rfl)
      · intro xl1 xl2 xl3 xl4 xl5 xl6 xl7 S H locs ls h hP hS hl
        have h : BX6_stands_2 (LX6_stands post n) post xl1 xl2 xl3 xl4 xl5 xl6 xl7 0 0 S := h
        unfold BX6_stands_2 at h
        refine lv_iload hx hb dX6_stands_110 (lv_at hl 7 rfl) ?_
        refine lv_if_le (tgt := 209) hx hb dX6_stands_112 (by decide) (fun c20 => ?_) (fun c20 => ?_)
        · have h := h.1 c20
          refine lv_aload_n hx hb dX6_stands_209 rfl (lv_at hl 0 rfl) ?_
          refine lv_iload hx hb dX6_stands_210 (lv_at hl 4 rfl) ?_
          refine lv_aload_n hx hb dX6_stands_212 rfl (lv_at hl 0 rfl) ?_
          refine va_get (D := D) (ci := 6) (v := .int (S.1 18)) (C := RX6) (T := TX6) (N := 36) hx hb hts hinX6 hown hK hP 0 rfl rfl 35 (by decide) kf184 (fun _ h9 => h9) rfl dX6_stands_213 ?_
          refine lv_icmp_le (tgt := 224) hx hb dX6_stands_216 (by decide) (fun c21 => ?_) (fun c21 => ?_)
          · have h := h.1 c21
            refine lv_aload_n hx hb dX6_stands_224 rfl (lv_at hl 0 rfl) ?_
            refine va_get (D := D) (ci := 6) (v := .int (S.1 18)) (C := RX6) (T := TX6) (N := 36) hx hb hts hinX6 hown hK hP 0 rfl rfl 35 (by decide) kf184 (fun _ h9 => h9) rfl dX6_stands_225 ?_
            refine va_put (D := D) (ci := 6) (v := .int (S.1 18)) (ty := .int) (C := RX6) (T := TX6) (N := 36) hx hb hts hinX6 tyX6 tyX6_ok nmX6 hown hK hP (hD S) hS 0 rfl rfl 35 (by decide) kf184 (fun _ h9 => h9) rfl (by decide +kernel) rfl rfl (Nat.le_of_ble_eq_true rfl) dX6_stands_228 (fun H locs hP _ hS => ?_)
            obtain ⟨S22, eS22⟩ : ∃ z : St, z = sI S 18 (S.1 18) := ⟨_, rfl⟩
            have hP : va_P D vwCl (mw a c S22) H := by rw [eS22]; exact hP
            have h := h S22 eS22
            obtain ⟨x23, ex23⟩ : ∃ y : Int32, y = xl6 + 1 := ⟨_, rfl⟩
            have h := h x23 ex23
            refine lv_iinc (v := x23) (lv' := [(6, .int x23), (0, .ref (a 0)), (1, .int xl1), (2, .int xl2), (3, .int xl3), (4, .int xl4), (5, .int xl5), (7, .int xl7)]) hx hb dX6_stands_231 hl (k := 6) rfl (by rw [ex23]; rfl) (by decide) rfl (fun ls hl => ?_)
            refine lv_goto (tgt := 52) hx hb dX6_stands_234 (by decide) ?_
            exact (ih).1 xl1 xl2 xl3 xl4 xl5 x23 S22 _ _ _ h hP hS (lv_sub hl [1, 2, 3, 4, 5, 6, 0] rfl)
          · have h := h.2 c21
            refine lv_iload hx hb dX6_stands_219 (lv_at hl 4 rfl) ?_
            refine lv_goto (tgt := 228) hx hb dX6_stands_221 (by decide) ?_
            refine va_put (D := D) (ci := 6) (v := .int xl4) (ty := .int) (C := RX6) (T := TX6) (N := 36) hx hb hts hinX6 tyX6 tyX6_ok nmX6 hown hK hP (hD S) hS 0 rfl rfl 35 (by decide) kf184 (fun _ h9 => h9) rfl (by decide +kernel) rfl rfl (Nat.le_of_ble_eq_true rfl) dX6_stands_228 (fun H locs hP _ hS => ?_)
            obtain ⟨S24, eS24⟩ : ∃ z : St, z = sI S 18 xl4 := ⟨_, rfl⟩
            have hP : va_P D vwCl (mw a c S24) H := by rw [eS24]; exact hP
            have h := h S24 eS24
            obtain ⟨x25, ex25⟩ : ∃ y : Int32, y = xl6 + 1 := ⟨_, rfl⟩
            have h := h x25 ex25
            refine lv_iinc (v := x25) (lv' := [(6, .int x25), (0, .ref (a 0)), (1, .int xl1), (2, .int xl2), (3, .int xl3), (4, .int xl4), (5, .int xl5), (7, .int xl7)]) hx hb dX6_stands_231 hl (k := 6) rfl (by rw [ex25]; rfl) (by decide) rfl (fun ls hl => ?_)
            refine lv_goto (tgt := 52) hx hb dX6_stands_234 (by decide) ?_
            exact (ih).1 xl1 xl2 xl3 xl4 xl5 x25 S24 _ _ _ h hP hS (lv_sub hl [1, 2, 3, 4, 5, 6, 0] rfl)
        · have h := h.2 c20
          exact (ih).2.2.2 xl1 xl2 xl3 xl4 xl5 xl6 xl7 S _ _ _ h hP hS (lv_sub hl [0, 1, 2, 3, 4, 5, 6, 7] rfl)
      · intro xl1 xl2 xl3 xl4 xl5 xl6 xl7 S H locs ls h hP hS hl
        have h : BX6_stands_3 (LX6_stands post n) post xl1 xl2 xl3 xl4 xl5 xl6 xl7 0 0 S := h
        unfold BX6_stands_3 at h
        refine lv_iload_n hx hb dX6_stands_115 rfl (lv_at hl 3 rfl) ?_
        refine lv_if_ne (tgt := 132) hx hb dX6_stands_116 (by decide) (fun c26 => ?_) (fun c26 => ?_)
        · have h := h.2 c26
          refine lv_iload_n hx hb dX6_stands_132 rfl (lv_at hl 3 rfl) ?_
          refine lv_iload hx hb dX6_stands_133 (lv_at hl 7 rfl) ?_
          refine lv_icmp_ge (tgt := 142) hx hb dX6_stands_135 (by decide) (fun c27 => ?_) (fun c27 => ?_)
          · have h := h.1 c27
            refine lv_iload hx hb dX6_stands_142 (lv_at hl 7 rfl) ?_
            refine lv_istore (lv' := [(8, .int xl7), (0, .ref (a 0)), (1, .int xl1), (2, .int xl2), (3, .int xl3), (4, .int xl4), (5, .int xl5), (6, .int xl6), (7, .int xl7)]) hx hb dX6_stands_144 hl (by decide) rfl (fun ls hl => ?_)
            refine lv_iload_n hx hb dX6_stands_146 rfl (lv_at hl 4 rfl) ?_
            refine lv_iload hx hb dX6_stands_147 (lv_at hl 0 rfl) ?_
            refine lv_isub hx hb dX6_stands_149 ?_
            refine lv_topi (fun x28 ex28 => ?_)
            have h := h x28 ex28
            refine lv_istore_n (lv' := [(3, .int x28), (8, .int xl7), (0, .ref (a 0)), (1, .int xl1), (2, .int xl2), (4, .int xl4), (5, .int xl5), (6, .int xl6), (7, .int xl7)]) hx hb dX6_stands_150 rfl hl (by decide) rfl (fun ls hl => ?_)
            refine lv_iload hx hb dX6_stands_151 (lv_at hl 8 rfl) ?_
            refine lv_iload hx hb dX6_stands_153 (lv_at hl 1 rfl) ?_
            refine lv_isub hx hb dX6_stands_155 ?_
            refine lv_topi (fun x29 ex29 => ?_)
            have h := h x29 ex29
            refine lv_istore (lv' := [(7, .int x29), (3, .int x28), (8, .int xl7), (0, .ref (a 0)), (1, .int xl1), (2, .int xl2), (4, .int xl4), (5, .int xl5), (6, .int xl6)]) hx hb dX6_stands_156 hl (by decide) rfl (fun ls hl => ?_)
            refine lv_aload_n hx hb dX6_stands_158 rfl (lv_at hl 3 rfl) ?_
            refine lv_dup hx hb dX6_stands_159 rfl ?_
            refine va_get (D := D) (ci := 6) (v := .int (S.1 16)) (C := RX6) (T := TX6) (N := 36) hx hb hts hinX6 hown hK hP 0 rfl rfl 33 (by decide) kf178 (fun _ h9 => h9) rfl dX6_stands_160 ?_
            refine lv_iload hx hb dX6_stands_163 (lv_at hl 2 rfl) ?_
            refine lv_iload hx hb dX6_stands_165 (lv_at hl 8 rfl) ?_
            refine lv_iload_n hx hb dX6_stands_167 rfl (lv_at hl 5 rfl) ?_
            refine lv_isub hx hb dX6_stands_168 ?_
            refine lv_imul hx hb dX6_stands_169 ?_
            refine lv_iadd hx hb dX6_stands_170 ?_
            refine va_put (D := D) (ci := 6) (v := .int ((S.1 16) + (xl7 * (xl6 - xl2)))) (ty := .int) (C := RX6) (T := TX6) (N := 36) hx hb hts hinX6 tyX6 tyX6_ok nmX6 hown hK hP (hD S) hS 0 rfl rfl 33 (by decide) kf178 (fun _ h9 => h9) rfl (by decide +kernel) rfl rfl (Nat.le_of_ble_eq_true rfl) dX6_stands_171 (fun H locs hP _ hS => ?_)
            obtain ⟨S30, eS30⟩ : ∃ z : St, z = sI S 16 ((S.1 16) + (xl7 * (xl6 - xl2))) := ⟨_, rfl⟩
            have hP : va_P D vwCl (mw a c S30) H := by rw [eS30]; exact hP
            have h := h S30 eS30
            refine lv_aload_n hx hb dX6_stands_174 rfl (lv_at hl 3 rfl) ?_
            refine lv_iload hx hb dX6_stands_175 (lv_at hl 8 rfl) ?_
            refine lv_iload_n hx hb dX6_stands_177 rfl (lv_at hl 5 rfl) ?_
            refine lv_isub hx hb dX6_stands_178 ?_
            refine lv_aload_n hx hb dX6_stands_179 rfl (lv_at hl 3 rfl) ?_
            refine va_get (D := D) (ci := 6) (v := .int (S30.1 15)) (C := RX6) (T := TX6) (N := 36) hx hb hts hinX6 hown hK hP 0 rfl rfl 32 (by decide) kf175 (fun _ h9 => h9) rfl dX6_stands_180 ?_
            refine lv_icmp_le (tgt := 193) hx hb dX6_stands_183 (by decide) (fun c31 => ?_) (fun c31 => ?_)
            · have h := h.1 c31
              refine lv_aload_n hx hb dX6_stands_193 rfl (lv_at hl 3 rfl) ?_
              refine va_get (D := D) (ci := 6) (v := .int (S30.1 15)) (C := RX6) (T := TX6) (N := 36) hx hb hts hinX6 hown hK hP 0 rfl rfl 32 (by decide) kf175 (fun _ h9 => h9) rfl dX6_stands_194 ?_
              refine va_put (D := D) (ci := 6) (v := .int (S30.1 15)) (ty := .int) (C := RX6) (T := TX6) (N := 36) hx hb hts hinX6 tyX6 tyX6_ok nmX6 hown hK hP (hD S30) hS 0 rfl rfl 32 (by decide) kf175 (fun _ h9 => h9) rfl (by decide +kernel) rfl rfl (Nat.le_of_ble_eq_true rfl) dX6_stands_197 (fun H locs hP _ hS => ?_)
              obtain ⟨S32, eS32⟩ : ∃ z : St, z = sI S30 15 (S30.1 15) := ⟨_, rfl⟩
              have hP : va_P D vwCl (mw a c S32) H := by rw [eS32]; exact hP
              have h := h S32 eS32
              refine lv_aload_n hx hb dX6_stands_200 rfl (lv_at hl 3 rfl) ?_
              refine lv_iload hx hb dX6_stands_201 (lv_at hl 8 rfl) ?_
              refine va_put (D := D) (ci := 6) (v := .int xl6) (ty := .int) (C := RX6) (T := TX6) (N := 36) hx hb hts hinX6 tyX6 tyX6_ok nmX6 hown hK hP (hD S32) hS 0 rfl rfl 34 (by decide) kf181 (fun _ h9 => h9) rfl (by decide +kernel) rfl rfl (Nat.le_of_ble_eq_true rfl) dX6_stands_203 (fun H locs hP _ hS => ?_)
              obtain ⟨S33, eS33⟩ : ∃ z : St, z = sI S32 17 xl6 := ⟨_, rfl⟩
              have hP : va_P D vwCl (mw a c S33) H := by rw [eS33]; exact hP
              have h := h S33 eS33
              refine lv_goto (tgt := 110) hx hb dX6_stands_206 (by decide) ?_
              exact (ih).2.2.1 xl1 xl2 x28 xl4 xl5 xl6 x29 S33 _ _ _ h hP hS (lv_sub hl [3, 4, 5, 1, 6, 7, 8, 0] rfl)
            · have h := h.2 c31
              refine lv_iload hx hb dX6_stands_186 (lv_at hl 8 rfl) ?_
              refine lv_iload_n hx hb dX6_stands_188 rfl (lv_at hl 5 rfl) ?_
              refine lv_isub hx hb dX6_stands_189 ?_
              refine lv_goto (tgt := 197) hx hb dX6_stands_190 (by decide) ?_
              refine va_put (D := D) (ci := 6) (v := .int (xl6 - xl2)) (ty := .int) (C := RX6) (T := TX6) (N := 36) hx hb hts hinX6 tyX6 tyX6_ok nmX6 hown hK hP (hD S30) hS 0 rfl rfl 32 (by decide) kf175 (fun _ h9 => h9) rfl (by decide +kernel) rfl rfl (Nat.le_of_ble_eq_true rfl) dX6_stands_197 (fun H locs hP _ hS => ?_)
              obtain ⟨S34, eS34⟩ : ∃ z : St, z = sI S30 15 (xl6 - xl2) := ⟨_, rfl⟩
              have hP : va_P D vwCl (mw a c S34) H := by rw [eS34]; exact hP
              have h := h S34 eS34
              refine lv_aload_n hx hb dX6_stands_200 rfl (lv_at hl 3 rfl) ?_
              refine lv_iload hx hb dX6_stands_201 (lv_at hl 8 rfl) ?_
              refine va_put (D := D) (ci := 6) (v := .int xl6) (ty := .int) (C := RX6) (T := TX6) (N := 36) hx hb hts hinX6 tyX6 tyX6_ok nmX6 hown hK hP (hD S34) hS 0 rfl rfl 34 (by decide) kf181 (fun _ h9 => h9) rfl (by decide +kernel) rfl rfl (Nat.le_of_ble_eq_true rfl) dX6_stands_203 (fun H locs hP _ hS => ?_)
              obtain ⟨S35, eS35⟩ : ∃ z : St, z = sI S34 17 xl6 := ⟨_, rfl⟩
              have hP : va_P D vwCl (mw a c S35) H := by rw [eS35]; exact hP
              have h := h S35 eS35
              refine lv_goto (tgt := 110) hx hb dX6_stands_206 (by decide) ?_
              exact (ih).2.2.1 xl1 xl2 x28 xl4 xl5 xl6 x29 S35 _ _ _ h hP hS (lv_sub hl [3, 4, 5, 1, 6, 7, 8, 0] rfl)
          · have h := h.2 c27
            refine lv_iload_n hx hb dX6_stands_138 rfl (lv_at hl 3 rfl) ?_
            refine lv_goto (tgt := 144) hx hb dX6_stands_139 (by decide) ?_
            refine lv_istore (lv' := [(8, .int xl3), (0, .ref (a 0)), (1, .int xl1), (2, .int xl2), (3, .int xl3), (4, .int xl4), (5, .int xl5), (6, .int xl6), (7, .int xl7)]) hx hb dX6_stands_144 hl (by decide) rfl (fun ls hl => ?_)
            refine lv_iload_n hx hb dX6_stands_146 rfl (lv_at hl 4 rfl) ?_
            refine lv_iload hx hb dX6_stands_147 (lv_at hl 0 rfl) ?_
            refine lv_isub hx hb dX6_stands_149 ?_
            refine lv_topi (fun x36 ex36 => ?_)
            have h := h x36 ex36
            refine lv_istore_n (lv' := [(3, .int x36), (8, .int xl3), (0, .ref (a 0)), (1, .int xl1), (2, .int xl2), (4, .int xl4), (5, .int xl5), (6, .int xl6), (7, .int xl7)]) hx hb dX6_stands_150 rfl hl (by decide) rfl (fun ls hl => ?_)
            refine lv_iload hx hb dX6_stands_151 (lv_at hl 8 rfl) ?_
            refine lv_iload hx hb dX6_stands_153 (lv_at hl 1 rfl) ?_
            refine lv_isub hx hb dX6_stands_155 ?_
            refine lv_topi (fun x37 ex37 => ?_)
            have h := h x37 ex37
            refine lv_istore (lv' := [(7, .int x37), (3, .int x36), (8, .int xl3), (0, .ref (a 0)), (1, .int xl1), (2, .int xl2), (4, .int xl4), (5, .int xl5), (6, .int xl6)]) hx hb dX6_stands_156 hl (by decide) rfl (fun ls hl => ?_)
            refine lv_aload_n hx hb dX6_stands_158 rfl (lv_at hl 3 rfl) ?_
            refine lv_dup hx hb dX6_stands_159 rfl ?_
            refine va_get (D := D) (ci := 6) (v := .int (S.1 16)) (C := RX6) (T := TX6) (N := 36) hx hb hts hinX6 hown hK hP 0 rfl rfl 33 (by decide) kf178 (fun _ h9 => h9) rfl dX6_stands_160 ?_
            refine lv_iload hx hb dX6_stands_163 (lv_at hl 2 rfl) ?_
            refine lv_iload hx hb dX6_stands_165 (lv_at hl 8 rfl) ?_
            refine lv_iload_n hx hb dX6_stands_167 rfl (lv_at hl 5 rfl) ?_
            refine lv_isub hx hb dX6_stands_168 ?_
            refine lv_imul hx hb dX6_stands_169 ?_
            refine lv_iadd hx hb dX6_stands_170 ?_
            refine va_put (D := D) (ci := 6) (v := .int ((S.1 16) + (xl3 * (xl6 - xl2)))) (ty := .int) (C := RX6) (T := TX6) (N := 36) hx hb hts hinX6 tyX6 tyX6_ok nmX6 hown hK hP (hD S) hS 0 rfl rfl 33 (by decide) kf178 (fun _ h9 => h9) rfl (by decide +kernel) rfl rfl (Nat.le_of_ble_eq_true rfl) dX6_stands_171 (fun H locs hP _ hS => ?_)
            obtain ⟨S38, eS38⟩ : ∃ z : St, z = sI S 16 ((S.1 16) + (xl3 * (xl6 - xl2))) := ⟨_, rfl⟩
            have hP : va_P D vwCl (mw a c S38) H := by rw [eS38]; exact hP
            have h := h S38 eS38
            refine lv_aload_n hx hb dX6_stands_174 rfl (lv_at hl 3 rfl) ?_
            refine lv_iload hx hb dX6_stands_175 (lv_at hl 8 rfl) ?_
            refine lv_iload_n hx hb dX6_stands_177 rfl (lv_at hl 5 rfl) ?_
            refine lv_isub hx hb dX6_stands_178 ?_
            refine lv_aload_n hx hb dX6_stands_179 rfl (lv_at hl 3 rfl) ?_
            refine va_get (D := D) (ci := 6) (v := .int (S38.1 15)) (C := RX6) (T := TX6) (N := 36) hx hb hts hinX6 hown hK hP 0 rfl rfl 32 (by decide) kf175 (fun _ h9 => h9) rfl dX6_stands_180 ?_
            refine lv_icmp_le (tgt := 193) hx hb dX6_stands_183 (by decide) (fun c39 => ?_) (fun c39 => ?_)
            · have h := h.1 c39
              refine lv_aload_n hx hb dX6_stands_193 rfl (lv_at hl 3 rfl) ?_
              refine va_get (D := D) (ci := 6) (v := .int (S38.1 15)) (C := RX6) (T := TX6) (N := 36) hx hb hts hinX6 hown hK hP 0 rfl rfl 32 (by decide) kf175 (fun _ h9 => h9) rfl dX6_stands_194 ?_
              refine va_put (D := D) (ci := 6) (v := .int (S38.1 15)) (ty := .int) (C := RX6) (T := TX6) (N := 36) hx hb hts hinX6 tyX6 tyX6_ok nmX6 hown hK hP (hD S38) hS 0 rfl rfl 32 (by decide) kf175 (fun _ h9 => h9) rfl (by decide +kernel) rfl rfl (Nat.le_of_ble_eq_true rfl) dX6_stands_197 (fun H locs hP _ hS => ?_)
              obtain ⟨S40, eS40⟩ : ∃ z : St, z = sI S38 15 (S38.1 15) := ⟨_, rfl⟩
              have hP : va_P D vwCl (mw a c S40) H := by rw [eS40]; exact hP
              have h := h S40 eS40
              refine lv_aload_n hx hb dX6_stands_200 rfl (lv_at hl 3 rfl) ?_
              refine lv_iload hx hb dX6_stands_201 (lv_at hl 8 rfl) ?_
              refine va_put (D := D) (ci := 6) (v := .int xl6) (ty := .int) (C := RX6) (T := TX6) (N := 36) hx hb hts hinX6 tyX6 tyX6_ok nmX6 hown hK hP (hD S40) hS 0 rfl rfl 34 (by decide) kf181 (fun _ h9 => h9) rfl (by decide +kernel) rfl rfl (Nat.le_of_ble_eq_true rfl) dX6_stands_203 (fun H locs hP _ hS => ?_)
              obtain ⟨S41, eS41⟩ : ∃ z : St, z = sI S40 17 xl6 := ⟨_, rfl⟩
              have hP : va_P D vwCl (mw a c S41) H := by rw [eS41]; exact hP
              have h := h S41 eS41
              refine lv_goto (tgt := 110) hx hb dX6_stands_206 (by decide) ?_
              exact (ih).2.2.1 xl1 xl2 x36 xl4 xl5 xl6 x37 S41 _ _ _ h hP hS (lv_sub hl [3, 4, 5, 1, 6, 7, 8, 0] rfl)
            · have h := h.2 c39
              refine lv_iload hx hb dX6_stands_186 (lv_at hl 8 rfl) ?_
              refine lv_iload_n hx hb dX6_stands_188 rfl (lv_at hl 5 rfl) ?_
              refine lv_isub hx hb dX6_stands_189 ?_
              refine lv_goto (tgt := 197) hx hb dX6_stands_190 (by decide) ?_
              refine va_put (D := D) (ci := 6) (v := .int (xl6 - xl2)) (ty := .int) (C := RX6) (T := TX6) (N := 36) hx hb hts hinX6 tyX6 tyX6_ok nmX6 hown hK hP (hD S38) hS 0 rfl rfl 32 (by decide) kf175 (fun _ h9 => h9) rfl (by decide +kernel) rfl rfl (Nat.le_of_ble_eq_true rfl) dX6_stands_197 (fun H locs hP _ hS => ?_)
              obtain ⟨S42, eS42⟩ : ∃ z : St, z = sI S38 15 (xl6 - xl2) := ⟨_, rfl⟩
              have hP : va_P D vwCl (mw a c S42) H := by rw [eS42]; exact hP
              have h := h S42 eS42
              refine lv_aload_n hx hb dX6_stands_200 rfl (lv_at hl 3 rfl) ?_
              refine lv_iload hx hb dX6_stands_201 (lv_at hl 8 rfl) ?_
              refine va_put (D := D) (ci := 6) (v := .int xl6) (ty := .int) (C := RX6) (T := TX6) (N := 36) hx hb hts hinX6 tyX6 tyX6_ok nmX6 hown hK hP (hD S42) hS 0 rfl rfl 34 (by decide) kf181 (fun _ h9 => h9) rfl (by decide +kernel) rfl rfl (Nat.le_of_ble_eq_true rfl) dX6_stands_203 (fun H locs hP _ hS => ?_)
              obtain ⟨S43, eS43⟩ : ∃ z : St, z = sI S42 17 xl6 := ⟨_, rfl⟩
              have hP : va_P D vwCl (mw a c S43) H := by rw [eS43]; exact hP
              have h := h S43 eS43
              refine lv_goto (tgt := 110) hx hb dX6_stands_206 (by decide) ?_
              exact (ih).2.2.1 xl1 xl2 x36 xl4 xl5 xl6 x37 S43 _ _ _ h hP hS (lv_sub hl [3, 4, 5, 1, 6, 7, 8, 0] rfl)
        · have h := h.1 c26
          obtain ⟨x44, ex44⟩ : ∃ y : Int32, y = xl2 + 1 := ⟨_, rfl⟩
          have h := h x44 ex44
          refine lv_iinc (v := x44) (lv' := [(2, .int x44), (0, .ref (a 0)), (1, .int xl1), (3, .int xl3), (4, .int xl4), (5, .int xl5), (6, .int xl6), (7, .int xl7)]) hx hb dX6_stands_119 hl (k := 2) rfl (by rw [ex44]; rfl) (by decide) rfl (fun ls hl => ?_)
          refine lv_aload_n hx hb dX6_stands_122 rfl (lv_at hl 1 rfl) ?_
          refine va_get (D := D) (ci := 6) (v := .ref (a 14)) (C := RX6) (T := TX6) (N := 36) hx hb hts hinX6 hown hK hP 0 rfl rfl 30 (by decide) kf57 (fun _ h9 => h9) rfl dX6_stands_123 ?_
          refine lv_iload_n hx hb dX6_stands_126 rfl (lv_at hl 0 rfl) ?_
          obtain ⟨b45, h⟩ := h
          refine va_iald hx hb hK hP 14 13 rfl rfl b45 dX6_stands_127 ?_
          refine lv_topi (fun x46 ex46 => ?_)
          have h := h x46 ex46
          refine lv_istore_n (lv' := [(3, .int x46), (2, .int x44), (0, .ref (a 0)), (1, .int xl1), (4, .int xl4), (5, .int xl5), (6, .int xl6), (7, .int xl7)]) hx hb dX6_stands_128 rfl hl (by decide) rfl (fun ls hl => ?_)
          refine lv_goto (tgt := 115) hx hb dX6_stands_129 (by decide) ?_
          exact (ih).2.2.2 xl1 x44 x46 xl4 xl5 xl6 xl7 S _ _ _ h hP hS (lv_sub hl [2, 3, 1, 0, 4, 5, 6, 7] rfl)
  unfold PX6_stands at h
  refine lv_aload_n hx hb dX6_stands_0 rfl (lv_at hl 0 rfl) ?_
  refine lv_iconst (v := 0) hx hb dX6_stands_1 (by decide) ?_
  refine va_put (D := D) (ci := 6) (v := .int 0) (ty := .int) (C := RX6) (T := TX6) (N := 36) hx hb hts hinX6 tyX6 tyX6_ok nmX6 hown hK hP (hD S) hS 0 rfl rfl 32 (by decide) kf175 (fun _ h9 => h9) rfl (by decide +kernel) rfl rfl (Nat.le_of_ble_eq_true rfl) dX6_stands_2 (fun H locs hP _ hS => ?_)
  obtain ⟨S1, eS1⟩ : ∃ z : St, z = sI S 15 0 := ⟨_, rfl⟩
  have hP : va_P D vwCl (mw a c S1) H := by rw [eS1]; exact hP
  have h := h S1 eS1
  refine lv_aload_n hx hb dX6_stands_5 rfl (lv_at hl 0 rfl) ?_
  refine lv_iconst (v := 0) hx hb dX6_stands_6 (by decide) ?_
  refine va_put (D := D) (ci := 6) (v := .int 0) (ty := .int) (C := RX6) (T := TX6) (N := 36) hx hb hts hinX6 tyX6 tyX6_ok nmX6 hown hK hP (hD S1) hS 0 rfl rfl 33 (by decide) kf178 (fun _ h9 => h9) rfl (by decide +kernel) rfl rfl (Nat.le_of_ble_eq_true rfl) dX6_stands_7 (fun H locs hP _ hS => ?_)
  obtain ⟨S2, eS2⟩ : ∃ z : St, z = sI S1 16 0 := ⟨_, rfl⟩
  have hP : va_P D vwCl (mw a c S2) H := by rw [eS2]; exact hP
  have h := h S2 eS2
  refine lv_aload_n hx hb dX6_stands_10 rfl (lv_at hl 0 rfl) ?_
  refine lv_iconst (v := (-1)) hx hb dX6_stands_11 (by decide) ?_
  refine va_put (D := D) (ci := 6) (v := .int (-1)) (ty := .int) (C := RX6) (T := TX6) (N := 36) hx hb hts hinX6 tyX6 tyX6_ok nmX6 hown hK hP (hD S2) hS 0 rfl rfl 34 (by decide) kf181 (fun _ h9 => h9) rfl (by decide +kernel) rfl rfl (Nat.le_of_ble_eq_true rfl) dX6_stands_12 (fun H locs hP _ hS => ?_)
  obtain ⟨S3, eS3⟩ : ∃ z : St, z = sI S2 17 (-1) := ⟨_, rfl⟩
  have hP : va_P D vwCl (mw a c S3) H := by rw [eS3]; exact hP
  have h := h S3 eS3
  refine lv_aload_n hx hb dX6_stands_15 rfl (lv_at hl 0 rfl) ?_
  refine lv_iconst (v := 0) hx hb dX6_stands_16 (by decide) ?_
  refine va_put (D := D) (ci := 6) (v := .int 0) (ty := .int) (C := RX6) (T := TX6) (N := 36) hx hb hts hinX6 tyX6 tyX6_ok nmX6 hown hK hP (hD S3) hS 0 rfl rfl 35 (by decide) kf184 (fun _ h9 => h9) rfl (by decide +kernel) rfl rfl (Nat.le_of_ble_eq_true rfl) dX6_stands_17 (fun H locs hP _ hS => ?_)
  obtain ⟨S4, eS4⟩ : ∃ z : St, z = sI S3 18 0 := ⟨_, rfl⟩
  have hP : va_P D vwCl (mw a c S4) H := by rw [eS4]; exact hP
  have h := h S4 eS4
  refine lv_iconst (v := 0) hx hb dX6_stands_20 (by decide) ?_
  refine lv_istore_n (lv' := [(2, .int 0), (0, .ref (a 0)), (1, .int p0)]) hx hb dX6_stands_21 rfl hl (by decide) rfl (fun ls hl => ?_)
  refine lv_aload_n hx hb dX6_stands_22 rfl (lv_at hl 1 rfl) ?_
  refine va_get (D := D) (ci := 6) (v := .int (S4.1 14)) (C := RX6) (T := TX6) (N := 36) hx hb hts hinX6 hown hK hP 0 rfl rfl 31 (by decide) kf172 (fun _ h9 => h9) rfl dX6_stands_23 ?_
  refine lv_if_le (tgt := 38) hx hb dX6_stands_26 (by decide) (fun c5 => ?_) (fun c5 => ?_)
  · have h := h.1 c5
    refine lv_iconst (v := 0) hx hb dX6_stands_38 (by decide) ?_
    refine lv_istore_n (lv' := [(3, .int 0), (2, .int 0), (0, .ref (a 0)), (1, .int p0)]) hx hb dX6_stands_39 rfl hl (by decide) rfl (fun ls hl => ?_)
    refine lv_iconst (v := 0) hx hb dX6_stands_40 (by decide) ?_
    refine lv_istore (lv' := [(4, .int 0), (3, .int 0), (2, .int 0), (0, .ref (a 0)), (1, .int p0)]) hx hb dX6_stands_41 hl (by decide) rfl (fun ls hl => ?_)
    refine lv_aload_n hx hb dX6_stands_43 rfl (lv_at hl 3 rfl) ?_
    refine va_get (D := D) (ci := 6) (v := .int (S4.1 14)) (C := RX6) (T := TX6) (N := 36) hx hb hts hinX6 hown hK hP 0 rfl rfl 31 (by decide) kf172 (fun _ h9 => h9) rfl dX6_stands_44 ?_
    refine lv_topi (fun x6 ex6 => ?_)
    have h := h x6 ex6
    refine lv_istore (lv' := [(5, .int x6), (4, .int 0), (3, .int 0), (2, .int 0), (0, .ref (a 0)), (1, .int p0)]) hx hb dX6_stands_47 hl (by decide) rfl (fun ls hl => ?_)
    refine lv_iconst (v := 0) hx hb dX6_stands_49 (by decide) ?_
    refine lv_istore (lv' := [(6, .int 0), (5, .int x6), (4, .int 0), (3, .int 0), (2, .int 0), (0, .ref (a 0)), (1, .int p0)]) hx hb dX6_stands_50 hl (by decide) rfl (fun ls hl => ?_)
    exact (key n).1 p0 0 0 0 x6 0 S4 _ _ _ h hP hS (lv_sub hl [5, 6, 4, 3, 2, 1, 0] rfl)
  · have h := h.2 c5
    refine lv_aload_n hx hb dX6_stands_29 rfl (lv_at hl 1 rfl) ?_
    refine va_get (D := D) (ci := 6) (v := .ref (a 14)) (C := RX6) (T := TX6) (N := 36) hx hb hts hinX6 hown hK hP 0 rfl rfl 30 (by decide) kf57 (fun _ h9 => h9) rfl dX6_stands_30 ?_
    refine lv_iconst (v := 0) hx hb dX6_stands_33 (by decide) ?_
    obtain ⟨b7, h⟩ := h
    refine va_iald hx hb hK hP 14 13 rfl rfl b7 dX6_stands_34 ?_
    refine lv_goto (tgt := 39) hx hb dX6_stands_35 (by decide) ?_
    refine lv_topi (fun x8 ex8 => ?_)
    have h := h x8 ex8
    refine lv_istore_n (lv' := [(3, .int x8), (2, .int 0), (0, .ref (a 0)), (1, .int p0)]) hx hb dX6_stands_39 rfl hl (by decide) rfl (fun ls hl => ?_)
    refine lv_iconst (v := 0) hx hb dX6_stands_40 (by decide) ?_
    refine lv_istore (lv' := [(4, .int 0), (3, .int x8), (2, .int 0), (0, .ref (a 0)), (1, .int p0)]) hx hb dX6_stands_41 hl (by decide) rfl (fun ls hl => ?_)
    refine lv_aload_n hx hb dX6_stands_43 rfl (lv_at hl 3 rfl) ?_
    refine va_get (D := D) (ci := 6) (v := .int (S4.1 14)) (C := RX6) (T := TX6) (N := 36) hx hb hts hinX6 hown hK hP 0 rfl rfl 31 (by decide) kf172 (fun _ h9 => h9) rfl dX6_stands_44 ?_
    refine lv_topi (fun x9 ex9 => ?_)
    have h := h x9 ex9
    refine lv_istore (lv' := [(5, .int x9), (4, .int 0), (3, .int x8), (2, .int 0), (0, .ref (a 0)), (1, .int p0)]) hx hb dX6_stands_47 hl (by decide) rfl (fun ls hl => ?_)
    refine lv_iconst (v := 0) hx hb dX6_stands_49 (by decide) ?_
    refine lv_istore (lv' := [(6, .int 0), (5, .int x9), (4, .int 0), (3, .int x8), (2, .int 0), (0, .ref (a 0)), (1, .int p0)]) hx hb dX6_stands_50 hl (by decide) rfl (fun ls hl => ?_)
    exact (key n).1 p0 0 x8 0 x9 0 S4 _ _ _ h hP hS (lv_sub hl [5, 6, 4, 3, 2, 1, 0] rfl)
def BX6_hatch_0 (X : Int32 → Int32 → Int32 → St → Prop) (post : Int32 → St → Prop) (xl1 : Int32) (xl2 : Int32) (xs0 : Int32) (S : St) : Prop := PX6_bad xs0 1 S (fun x7 S6 => ((x7 = 0 → ∃ k : Nat, PX6_stands k xl1 S6 (fun S9 => ((xl2 = 0 → post (S9.1 15) S9) ∧ (¬ xl2 = 0 → ((xl2 = 1 → post (S9.1 16) S9) ∧ (¬ xl2 = 1 → ((xl2 = 2 → post (S9.1 17) S9) ∧ (¬ xl2 = 2 → post (S9.1 18) S9)))))))) ∧ (¬ x7 = 0 → post 0 S6)))
def LX6_hatch (post : Int32 → St → Prop) : Nat → Int32 → Int32 → Int32 → St → Prop
  | 0, _, _, _, _ => False
  | n + 1, xl1, xl2, xs0, S => BX6_hatch_0 (LX6_hatch post n) post xl1 xl2 xs0 S
def PX6_hatch (n : Nat) (p0 : Int32) (p1 : Int32) (S : St) (post : Int32 → St → Prop) : Prop := ∀ S1 : St, S1 = sI S 0 0 → ((p0 < 1 → LX6_hatch post n p0 p1 1 S1) ∧ (¬ p0 < 1 → ((100 < p0 → LX6_hatch post n p0 p1 1 S1) ∧ (¬ 100 < p0 → ((p1 < 0 → LX6_hatch post n p0 p1 1 S1) ∧ (¬ p1 < 0 → ((p1 ≤ 3 → LX6_hatch post n p0 p1 0 S1) ∧ (¬ p1 ≤ 3 → LX6_hatch post n p0 p1 1 S1))))))))
set_option maxHeartbeats 4000000 in
set_option maxRecDepth 100000 in
theorem tX6_hatch (l : Launch) (D : va_G) (a : Nat → Nat) (c : Nat → ClassId) (sz : Nat) (n : Nat) (p0 : Int32) (p1 : Int32) (S : St) (post : Int32 → St → Prop) (h : PX6_hatch n p0 p1 S post) : Met l yX6_hatch wsX6_hatch ({ frames := 1, cells := 0, slots := 0, locals := 28 }) (va_Pc [.ref (a 0), .int p0, .int p1] (gP D (mw a c) (mty c) mns S sz)) (va_Qi post (gB D (mw a c)) (va_A (mw a c S) sz)) 0 0 (va_A (mw a c S) sz) := by
  refine Met.ofW (cc := cX6_hatch) (maxL := 3) (ret := (some .int)) (by decide) rfl ?_
  intro p e s m args below meth c9 s₁ B hml hv
  obtain ⟨rfl, hsz, hP, hK, hD0, hN⟩ := hv
  have hx := B.exec
  have hb := B.bytes
  have hr := B.returns
  have hts := atoms_spec (ws := wsX6_hatch) B.pre
  have hown : s.vm.findClass RX6 = some m.cls := findClass_of_methodNamed B.named
  have hlocks := B.notSynchronized
  subst hsz
  have hD1 := hD0.self (sz := s.heap.size)
  generalize hAe : va_A (mw a c S) s.heap.size = A at hD1 ⊢
  have hA : ∀ q : Nat, s.heap.size ≤ q → A q := fun q h => by rw [← hAe]; exact Or.inr h
  have hD : ∀ S2 : St, va_D A (mw a c S2) := gD mw_F hD1
  have hS : va_S A s.heap s.heap [] := va_S.rf
  have hinX6 : ∀ w ∈ wsX60, w ∈ wsX6_hatch := by decide +kernel
  have kf175 := hts (.fieldLink RX6 175 "CanteenPlanModel" "greatest" "I") (by decide +kernel)
  have kf178 := hts (.fieldLink RX6 178 "CanteenPlanModel" "waits" "I") (by decide +kernel)
  have kf181 := hts (.fieldLink RX6 181 "CanteenPlanModel" "lastWent" "I") (by decide +kernel)
  have kf184 := hts (.fieldLink RX6 184 "CanteenPlanModel" "longest" "I") (by decide +kernel)
  have kf60 := hts (.fieldLink RX6 60 "CanteenPlanModel" "thrown" "I") (by decide +kernel)
  have hl := lv_entry ([.ref (a 0), .int p0, .int p1]) (n := 3) (Nat.le_of_ble_eq_true rfl)
  rw [lg_entry_eq]
  generalize (lg_sl ([.ref (a 0), .int p0, .int p1]) ++ List.replicate (3 - (lg_sl ([.ref (a 0), .int p0, .int p1])).length) Slot.unset).toArray = ls at hl ⊢
  have hl : lv_has ls 3 [(0, .ref (a 0)), (1, .int p0), (2, .int p1)] := hl
  have key : ∀ n : Nat, (∀ (xl1 : Int32) (xl2 : Int32) (xs0 : Int32) (S : St) (H : Heap) (locs : List Loc) (ls : Array Slot), LX6_hatch post n xl1 xl2 xs0 S → va_P D vwCl (mw a c S) H → va_S A s.heap H locs → lv_has ls 3 [(0, .ref (a 0)), (1, .int xl1), (2, .int xl2)] → W p l e ((headSpec wsX6_hatch ({ frames := 1, cells := 0, slots := 0, locals := 28 })).room) s m ([.ref (a 0), .int p0, .int p1]).toArray below meth c9 H locs 0 0 (MQ below (va_Qi post (gB D (mw a c)) A) ([.ref (a 0), .int p0, .int p1]).toArray s 0 0 A) (F0 m 31 ls [.int xs0, .ref (a 0)])) := by
    intro n
    induction n with
    | zero => exact fun xl1 xl2 xs0 S H locs ls h => h.elim
    | succ n ih =>
      intro xl1 xl2 xs0 S H locs ls h hP hS hl
      have h : BX6_hatch_0 (LX6_hatch post n) post xl1 xl2 xs0 S := h
      unfold BX6_hatch_0 at h
      refine lv_iconst (v := 1) hx hb dX6_hatch_31 (by decide) ?_
      refine k_i (k_runV mns_ok ⟨hx, hb, hml, hown, hts⟩ (tX6_bad l D a c _ xs0 1 S _ h) (cwV 2 hts gX6_hatch_X6_bad rfl rfl rfl (by decide +kernel) ⟨Nat.le_of_ble_eq_true rfl, Nat.le_of_ble_eq_true rfl⟩) (va_recv hK hP (ci := 6) (q0 := 0) rfl rfl) hP hK (hD S) hN rfl rfl hl.1 rfl (lv_room (Nat.le_of_ble_eq_true rfl)) dX6_hatch_32 ⟨Nat.le_of_ble_eq_true rfl, Nat.le_of_ble_eq_true rfl⟩) hS (hD S) hA (fun x7 S6 H locs h hP hS => ?_)
      refine lv_if_eq (tgt := 40) hx hb dX6_hatch_35 (by decide) (fun c8 => ?_) (fun c8 => ?_)
      · have h := h.1 c8
        refine lv_aload_n hx hb dX6_hatch_40 rfl (lv_at hl 0 rfl) ?_
        refine lv_iload_n hx hb dX6_hatch_41 rfl (lv_at hl 1 rfl) ?_
        obtain ⟨k10, h⟩ := h
        refine k_v (k_runV mns_ok ⟨hx, hb, hml, hown, hts⟩ (tX6_stands l D a c _ k10 xl1 S6 _ h) (cwV 1 hts gX6_hatch_X6_stands rfl rfl rfl (by decide +kernel) ⟨Nat.le_of_ble_eq_true rfl, Nat.le_of_ble_eq_true rfl⟩) (va_recv hK hP (ci := 6) (q0 := 0) rfl rfl) hP hK (hD S6) hN rfl rfl hl.1 rfl (lv_room (Nat.le_of_ble_eq_true rfl)) dX6_hatch_42 ⟨Nat.le_of_ble_eq_true rfl, Nat.le_of_ble_eq_true rfl⟩) hS (hD S6) hA (fun S9 H locs h hP hS => ?_)
        refine lv_iload_n hx hb dX6_hatch_45 rfl (lv_at hl 2 rfl) ?_
        refine lv_if_ne (tgt := 56) hx hb dX6_hatch_46 (by decide) (fun c11 => ?_) (fun c11 => ?_)
        · have h := h.2 c11
          refine lv_iload_n hx hb dX6_hatch_56 rfl (lv_at hl 2 rfl) ?_
          refine lv_iconst (v := 1) hx hb dX6_hatch_57 (by decide) ?_
          refine lv_icmp_ne (tgt := 68) hx hb dX6_hatch_58 (by decide) (fun c12 => ?_) (fun c12 => ?_)
          · have h := h.2 c12
            refine lv_iload_n hx hb dX6_hatch_68 rfl (lv_at hl 2 rfl) ?_
            refine lv_iconst (v := 2) hx hb dX6_hatch_69 (by decide) ?_
            refine lv_icmp_ne (tgt := 80) hx hb dX6_hatch_70 (by decide) (fun c13 => ?_) (fun c13 => ?_)
            · have h := h.2 c13
              refine lv_aload_n hx hb dX6_hatch_80 rfl (lv_at hl 0 rfl) ?_
              refine va_get (D := D) (ci := 6) (v := .int (S9.1 18)) (C := RX6) (T := TX6) (N := 36) hx hb hts hinX6 hown hK hP 0 rfl rfl 35 (by decide) kf184 (fun _ h9 => h9) rfl dX6_hatch_81 ?_
              exact g_reti hx hb hr hlocks h hP hS dX6_hatch_84
            · have h := h.1 c13
              refine lv_aload_n hx hb dX6_hatch_73 rfl (lv_at hl 0 rfl) ?_
              refine va_get (D := D) (ci := 6) (v := .int (S9.1 17)) (C := RX6) (T := TX6) (N := 36) hx hb hts hinX6 hown hK hP 0 rfl rfl 34 (by decide) kf181 (fun _ h9 => h9) rfl dX6_hatch_74 ?_
              refine lv_goto (tgt := 84) hx hb dX6_hatch_77 (by decide) ?_
              exact g_reti hx hb hr hlocks h hP hS dX6_hatch_84
          · have h := h.1 c12
            refine lv_aload_n hx hb dX6_hatch_61 rfl (lv_at hl 0 rfl) ?_
            refine va_get (D := D) (ci := 6) (v := .int (S9.1 16)) (C := RX6) (T := TX6) (N := 36) hx hb hts hinX6 hown hK hP 0 rfl rfl 33 (by decide) kf178 (fun _ h9 => h9) rfl dX6_hatch_62 ?_
            refine lv_goto (tgt := 84) hx hb dX6_hatch_65 (by decide) ?_
            exact g_reti hx hb hr hlocks h hP hS dX6_hatch_84
        · have h := h.1 c11
          refine lv_aload_n hx hb dX6_hatch_49 rfl (lv_at hl 0 rfl) ?_
          refine va_get (D := D) (ci := 6) (v := .int (S9.1 15)) (C := RX6) (T := TX6) (N := 36) hx hb hts hinX6 hown hK hP 0 rfl rfl 32 (by decide) kf175 (fun _ h9 => h9) rfl dX6_hatch_50 ?_
          refine lv_goto (tgt := 84) hx hb dX6_hatch_53 (by decide) ?_
          exact g_reti hx hb hr hlocks h hP hS dX6_hatch_84
      · have h := h.2 c8
        refine lv_iconst (v := 0) hx hb dX6_hatch_38 (by decide) ?_
        exact g_reti hx hb hr hlocks h hP hS dX6_hatch_39
  unfold PX6_hatch at h
  refine lv_aload_n hx hb dX6_hatch_0 rfl (lv_at hl 0 rfl) ?_
  refine lv_iconst (v := 0) hx hb dX6_hatch_1 (by decide) ?_
  refine va_put (D := D) (ci := 6) (v := .int 0) (ty := .int) (C := RX6) (T := TX6) (N := 36) hx hb hts hinX6 tyX6 tyX6_ok nmX6 hown hK hP (hD S) hS 0 rfl rfl 0 (by decide) kf60 (fun _ h9 => h9) rfl (by decide +kernel) rfl rfl (Nat.le_of_ble_eq_true rfl) dX6_hatch_2 (fun H locs hP _ hS => ?_)
  obtain ⟨S1, eS1⟩ : ∃ z : St, z = sI S 0 0 := ⟨_, rfl⟩
  have hP : va_P D vwCl (mw a c S1) H := by rw [eS1]; exact hP
  have h := h S1 eS1
  refine lv_aload_n hx hb dX6_hatch_5 rfl (lv_at hl 0 rfl) ?_
  refine lv_iload_n hx hb dX6_hatch_6 rfl (lv_at hl 1 rfl) ?_
  refine lv_iconst (v := 1) hx hb dX6_hatch_7 (by decide) ?_
  refine lv_icmp_lt (tgt := 26) hx hb dX6_hatch_8 (by decide) (fun c2 => ?_) (fun c2 => ?_)
  · have h := h.1 c2
    refine lv_iconst (v := 1) hx hb dX6_hatch_26 (by decide) ?_
    refine lv_goto (tgt := 31) hx hb dX6_hatch_27 (by decide) ?_
    exact (key n) p0 p1 1 S1 _ _ _ h hP hS (lv_sub hl [0, 1, 2] rfl)
  · have h := h.2 c2
    refine lv_iload_n hx hb dX6_hatch_11 rfl (lv_at hl 1 rfl) ?_
    refine lv_bipush (v := 100) hx hb dX6_hatch_12 (by decide) ?_
    refine lv_icmp_gt (tgt := 26) hx hb dX6_hatch_14 (by decide) (fun c3 => ?_) (fun c3 => ?_)
    · have h := h.1 c3
      refine lv_iconst (v := 1) hx hb dX6_hatch_26 (by decide) ?_
      refine lv_goto (tgt := 31) hx hb dX6_hatch_27 (by decide) ?_
      exact (key n) p0 p1 1 S1 _ _ _ h hP hS (lv_sub hl [0, 1, 2] rfl)
    · have h := h.2 c3
      refine lv_iload_n hx hb dX6_hatch_17 rfl (lv_at hl 2 rfl) ?_
      refine lv_if_lt (tgt := 26) hx hb dX6_hatch_18 (by decide) (fun c4 => ?_) (fun c4 => ?_)
      · have h := h.1 c4
        refine lv_iconst (v := 1) hx hb dX6_hatch_26 (by decide) ?_
        refine lv_goto (tgt := 31) hx hb dX6_hatch_27 (by decide) ?_
        exact (key n) p0 p1 1 S1 _ _ _ h hP hS (lv_sub hl [0, 1, 2] rfl)
      · have h := h.2 c4
        refine lv_iload_n hx hb dX6_hatch_21 rfl (lv_at hl 2 rfl) ?_
        refine lv_iconst (v := 3) hx hb dX6_hatch_22 (by decide) ?_
        refine lv_icmp_le (tgt := 30) hx hb dX6_hatch_23 (by decide) (fun c5 => ?_) (fun c5 => ?_)
        · have h := h.1 c5
          refine lv_iconst (v := 0) hx hb dX6_hatch_30 (by decide) ?_
          exact (key n) p0 p1 0 S1 _ _ _ h hP hS (lv_sub hl [0, 1, 2] rfl)
        · have h := h.2 c5
          refine lv_iconst (v := 1) hx hb dX6_hatch_26 (by decide) ?_
          refine lv_goto (tgt := 31) hx hb dX6_hatch_27 (by decide) ?_
          exact (key n) p0 p1 1 S1 _ _ _ h hP hS (lv_sub hl [0, 1, 2] rfl)
def BX6_serve_0 (X : Int32 → Int32 → St → Prop) (post : Int32 → St → Prop) (xl1 : Int32) (xl2 : Int32) (S : St) : Prop := (((S.1 15) ≤ xl1 → post xl2 S) ∧ (¬ (S.1 15) ≤ xl1 → ∀ x14 : Int32, x14 = xl2 + 1 → ∃ k : Nat, PX6_stands k x14 S (fun S15 => X xl1 x14 S15)))
def LX6_serve (post : Int32 → St → Prop) : Nat → Int32 → Int32 → St → Prop
  | 0, _, _, _ => False
  | n + 1, xl1, xl2, S => BX6_serve_0 (LX6_serve post n) post xl1 xl2 S
def PX6_serve (n : Nat) (p0 : Int32) (S : St) (post : Int32 → St → Prop) : Prop := ∀ S1 : St, S1 = sI S 0 0 → ((0 ≤ p0 → PX6_bad 0 1 S1 (fun x4 S3 => ((x4 = 0 → ∃ k : Nat, PX6_stands k 1 S3 (fun S6 => LX6_serve post n p0 1 S6)) ∧ (¬ x4 = 0 → post 0 S3)))) ∧ (¬ 0 ≤ p0 → PX6_bad 1 1 S1 (fun x9 S8 => ((x9 = 0 → ∃ k : Nat, PX6_stands k 1 S8 (fun S11 => LX6_serve post n p0 1 S11)) ∧ (¬ x9 = 0 → post 0 S8)))))
set_option maxHeartbeats 4000000 in
set_option maxRecDepth 100000 in
theorem tX6_serve (l : Launch) (D : va_G) (a : Nat → Nat) (c : Nat → ClassId) (sz : Nat) (n : Nat) (p0 : Int32) (S : St) (post : Int32 → St → Prop) (h : PX6_serve n p0 S post) : Met l yX6_serve wsX6_serve ({ frames := 1, cells := 0, slots := 0, locals := 28 }) (va_Pc [.ref (a 0), .int p0] (gP D (mw a c) (mty c) mns S sz)) (va_Qi post (gB D (mw a c)) (va_A (mw a c S) sz)) 0 0 (va_A (mw a c S) sz) := by
  refine Met.ofW (cc := cX6_serve) (maxL := 3) (ret := (some .int)) (by decide) rfl ?_
  intro p e s m args below meth c9 s₁ B hml hv
  obtain ⟨rfl, hsz, hP, hK, hD0, hN⟩ := hv
  have hx := B.exec
  have hb := B.bytes
  have hr := B.returns
  have hts := atoms_spec (ws := wsX6_serve) B.pre
  have hown : s.vm.findClass RX6 = some m.cls := findClass_of_methodNamed B.named
  have hlocks := B.notSynchronized
  subst hsz
  have hD1 := hD0.self (sz := s.heap.size)
  generalize hAe : va_A (mw a c S) s.heap.size = A at hD1 ⊢
  have hA : ∀ q : Nat, s.heap.size ≤ q → A q := fun q h => by rw [← hAe]; exact Or.inr h
  have hD : ∀ S2 : St, va_D A (mw a c S2) := gD mw_F hD1
  have hS : va_S A s.heap s.heap [] := va_S.rf
  have hinX6 : ∀ w ∈ wsX60, w ∈ wsX6_serve := by decide +kernel
  have kf175 := hts (.fieldLink RX6 175 "CanteenPlanModel" "greatest" "I") (by decide +kernel)
  have kf60 := hts (.fieldLink RX6 60 "CanteenPlanModel" "thrown" "I") (by decide +kernel)
  have hl := lv_entry ([.ref (a 0), .int p0]) (n := 3) (Nat.le_of_ble_eq_true rfl)
  rw [lg_entry_eq]
  generalize (lg_sl ([.ref (a 0), .int p0]) ++ List.replicate (3 - (lg_sl ([.ref (a 0), .int p0])).length) Slot.unset).toArray = ls at hl ⊢
  have hl : lv_has ls 3 [(0, .ref (a 0)), (1, .int p0)] := hl
  have key : ∀ n : Nat, (∀ (xl1 : Int32) (xl2 : Int32) (S : St) (H : Heap) (locs : List Loc) (ls : Array Slot), LX6_serve post n xl1 xl2 S → va_P D vwCl (mw a c S) H → va_S A s.heap H locs → lv_has ls 3 [(0, .ref (a 0)), (1, .int xl1), (2, .int xl2)] → W p l e ((headSpec wsX6_serve ({ frames := 1, cells := 0, slots := 0, locals := 28 })).room) s m ([.ref (a 0), .int p0]).toArray below meth c9 H locs 0 0 (MQ below (va_Qi post (gB D (mw a c)) A) ([.ref (a 0), .int p0]).toArray s 0 0 A) (F0 m 31 ls [])) := by
    intro n
    induction n with
    | zero => exact fun xl1 xl2 S H locs ls h => h.elim
    | succ n ih =>
      intro xl1 xl2 S H locs ls h hP hS hl
      have h : BX6_serve_0 (LX6_serve post n) post xl1 xl2 S := h
      unfold BX6_serve_0 at h
      refine lv_aload_n hx hb dX6_serve_31 rfl (lv_at hl 0 rfl) ?_
      refine va_get (D := D) (ci := 6) (v := .int (S.1 15)) (C := RX6) (T := TX6) (N := 36) hx hb hts hinX6 hown hK hP 0 rfl rfl 32 (by decide) kf175 (fun _ h9 => h9) rfl dX6_serve_32 ?_
      refine lv_iload_n hx hb dX6_serve_35 rfl (lv_at hl 1 rfl) ?_
      refine lv_icmp_le (tgt := 50) hx hb dX6_serve_36 (by decide) (fun c13 => ?_) (fun c13 => ?_)
      · have h := h.1 c13
        refine lv_iload_n hx hb dX6_serve_50 rfl (lv_at hl 2 rfl) ?_
        exact g_reti hx hb hr hlocks h hP hS dX6_serve_51
      · have h := h.2 c13
        obtain ⟨x14, ex14⟩ : ∃ y : Int32, y = xl2 + 1 := ⟨_, rfl⟩
        have h := h x14 ex14
        refine lv_iinc (v := x14) (lv' := [(2, .int x14), (0, .ref (a 0)), (1, .int xl1)]) hx hb dX6_serve_39 hl (k := 2) rfl (by rw [ex14]; rfl) (by decide) rfl (fun ls hl => ?_)
        refine lv_aload_n hx hb dX6_serve_42 rfl (lv_at hl 1 rfl) ?_
        refine lv_iload_n hx hb dX6_serve_43 rfl (lv_at hl 0 rfl) ?_
        obtain ⟨k16, h⟩ := h
        refine k_v (k_runV mns_ok ⟨hx, hb, hml, hown, hts⟩ (tX6_stands l D a c _ k16 x14 S _ h) (cwV 1 hts gX6_serve_X6_stands rfl rfl rfl (by decide +kernel) ⟨Nat.le_of_ble_eq_true rfl, Nat.le_of_ble_eq_true rfl⟩) (va_recv hK hP (ci := 6) (q0 := 0) rfl rfl) hP hK (hD S) hN rfl rfl hl.1 rfl (lv_room (Nat.le_of_ble_eq_true rfl)) dX6_serve_44 ⟨Nat.le_of_ble_eq_true rfl, Nat.le_of_ble_eq_true rfl⟩) hS (hD S) hA (fun S15 H locs h hP hS => ?_)
        refine lv_goto (tgt := 31) hx hb dX6_serve_47 (by decide) ?_
        exact (ih) xl1 x14 S15 _ _ _ h hP hS (lv_sub hl [1, 2, 0] rfl)
  unfold PX6_serve at h
  refine lv_aload_n hx hb dX6_serve_0 rfl (lv_at hl 0 rfl) ?_
  refine lv_iconst (v := 0) hx hb dX6_serve_1 (by decide) ?_
  refine va_put (D := D) (ci := 6) (v := .int 0) (ty := .int) (C := RX6) (T := TX6) (N := 36) hx hb hts hinX6 tyX6 tyX6_ok nmX6 hown hK hP (hD S) hS 0 rfl rfl 0 (by decide) kf60 (fun _ h9 => h9) rfl (by decide +kernel) rfl rfl (Nat.le_of_ble_eq_true rfl) dX6_serve_2 (fun H locs hP _ hS => ?_)
  obtain ⟨S1, eS1⟩ : ∃ z : St, z = sI S 0 0 := ⟨_, rfl⟩
  have hP : va_P D vwCl (mw a c S1) H := by rw [eS1]; exact hP
  have h := h S1 eS1
  refine lv_aload_n hx hb dX6_serve_5 rfl (lv_at hl 0 rfl) ?_
  refine lv_iload_n hx hb dX6_serve_6 rfl (lv_at hl 1 rfl) ?_
  refine lv_if_ge (tgt := 14) hx hb dX6_serve_7 (by decide) (fun c2 => ?_) (fun c2 => ?_)
  · have h := h.1 c2
    refine lv_iconst (v := 0) hx hb dX6_serve_14 (by decide) ?_
    refine lv_iconst (v := 1) hx hb dX6_serve_15 (by decide) ?_
    refine k_i (k_runV mns_ok ⟨hx, hb, hml, hown, hts⟩ (tX6_bad l D a c _ 0 1 S1 _ h) (cwV 2 hts gX6_serve_X6_bad rfl rfl rfl (by decide +kernel) ⟨Nat.le_of_ble_eq_true rfl, Nat.le_of_ble_eq_true rfl⟩) (va_recv hK hP (ci := 6) (q0 := 0) rfl rfl) hP hK (hD S1) hN rfl rfl hl.1 rfl (lv_room (Nat.le_of_ble_eq_true rfl)) dX6_serve_16 ⟨Nat.le_of_ble_eq_true rfl, Nat.le_of_ble_eq_true rfl⟩) hS (hD S1) hA (fun x4 S3 H locs h hP hS => ?_)
    refine lv_if_eq (tgt := 24) hx hb dX6_serve_19 (by decide) (fun c5 => ?_) (fun c5 => ?_)
    · have h := h.1 c5
      refine lv_iconst (v := 1) hx hb dX6_serve_24 (by decide) ?_
      refine lv_istore_n (lv' := [(2, .int 1), (0, .ref (a 0)), (1, .int p0)]) hx hb dX6_serve_25 rfl hl (by decide) rfl (fun ls hl => ?_)
      refine lv_aload_n hx hb dX6_serve_26 rfl (lv_at hl 1 rfl) ?_
      refine lv_iload_n hx hb dX6_serve_27 rfl (lv_at hl 0 rfl) ?_
      obtain ⟨k7, h⟩ := h
      refine k_v (k_runV mns_ok ⟨hx, hb, hml, hown, hts⟩ (tX6_stands l D a c _ k7 1 S3 _ h) (cwV 1 hts gX6_serve_X6_stands rfl rfl rfl (by decide +kernel) ⟨Nat.le_of_ble_eq_true rfl, Nat.le_of_ble_eq_true rfl⟩) (va_recv hK hP (ci := 6) (q0 := 0) rfl rfl) hP hK (hD S3) hN rfl rfl hl.1 rfl (lv_room (Nat.le_of_ble_eq_true rfl)) dX6_serve_28 ⟨Nat.le_of_ble_eq_true rfl, Nat.le_of_ble_eq_true rfl⟩) hS (hD S3) hA (fun S6 H locs h hP hS => ?_)
      exact (key n) p0 1 S6 _ _ _ h hP hS (lv_sub hl [1, 2, 0] rfl)
    · have h := h.2 c5
      refine lv_iconst (v := 0) hx hb dX6_serve_22 (by decide) ?_
      exact g_reti hx hb hr hlocks h hP hS dX6_serve_23
  · have h := h.2 c2
    refine lv_iconst (v := 1) hx hb dX6_serve_10 (by decide) ?_
    refine lv_goto (tgt := 15) hx hb dX6_serve_11 (by decide) ?_
    refine lv_iconst (v := 1) hx hb dX6_serve_15 (by decide) ?_
    refine k_i (k_runV mns_ok ⟨hx, hb, hml, hown, hts⟩ (tX6_bad l D a c _ 1 1 S1 _ h) (cwV 2 hts gX6_serve_X6_bad rfl rfl rfl (by decide +kernel) ⟨Nat.le_of_ble_eq_true rfl, Nat.le_of_ble_eq_true rfl⟩) (va_recv hK hP (ci := 6) (q0 := 0) rfl rfl) hP hK (hD S1) hN rfl rfl hl.1 rfl (lv_room (Nat.le_of_ble_eq_true rfl)) dX6_serve_16 ⟨Nat.le_of_ble_eq_true rfl, Nat.le_of_ble_eq_true rfl⟩) hS (hD S1) hA (fun x9 S8 H locs h hP hS => ?_)
    refine lv_if_eq (tgt := 24) hx hb dX6_serve_19 (by decide) (fun c10 => ?_) (fun c10 => ?_)
    · have h := h.1 c10
      refine lv_iconst (v := 1) hx hb dX6_serve_24 (by decide) ?_
      refine lv_istore_n (lv' := [(2, .int 1), (0, .ref (a 0)), (1, .int p0)]) hx hb dX6_serve_25 rfl hl (by decide) rfl (fun ls hl => ?_)
      refine lv_aload_n hx hb dX6_serve_26 rfl (lv_at hl 1 rfl) ?_
      refine lv_iload_n hx hb dX6_serve_27 rfl (lv_at hl 0 rfl) ?_
      obtain ⟨k12, h⟩ := h
      refine k_v (k_runV mns_ok ⟨hx, hb, hml, hown, hts⟩ (tX6_stands l D a c _ k12 1 S8 _ h) (cwV 1 hts gX6_serve_X6_stands rfl rfl rfl (by decide +kernel) ⟨Nat.le_of_ble_eq_true rfl, Nat.le_of_ble_eq_true rfl⟩) (va_recv hK hP (ci := 6) (q0 := 0) rfl rfl) hP hK (hD S8) hN rfl rfl hl.1 rfl (lv_room (Nat.le_of_ble_eq_true rfl)) dX6_serve_28 ⟨Nat.le_of_ble_eq_true rfl, Nat.le_of_ble_eq_true rfl⟩) hS (hD S8) hA (fun S11 H locs h hP hS => ?_)
      exact (key n) p0 1 S11 _ _ _ h hP hS (lv_sub hl [1, 2, 0] rfl)
    · have h := h.2 c10
      refine lv_iconst (v := 0) hx hb dX6_serve_22 (by decide) ?_
      exact g_reti hx hb hr hlocks h hP hS dX6_serve_23
def PX6_empty  (S : St) (post : Int32 → St → Prop) : Prop := ∀ S1 : St, S1 = sI S 0 0 → ∀ x2 : Int32, x2 = (S1.1 14) → ∀ S3 : St, S3 = sI S1 14 0 → post x2 S3
set_option maxHeartbeats 4000000 in
set_option maxRecDepth 100000 in
theorem tX6_empty (l : Launch) (D : va_G) (a : Nat → Nat) (c : Nat → ClassId) (sz : Nat)  (S : St) (post : Int32 → St → Prop) (h : PX6_empty  S post) : Met l yX6_empty wsX6_empty ({ frames := 0, cells := 0, slots := 0, locals := 0 }) (va_Pc [.ref (a 0)] (gP D (mw a c) (mty c) mns S sz)) (va_Qi post (gB D (mw a c)) (va_A (mw a c S) sz)) 0 0 (va_A (mw a c S) sz) := by
  refine Met.ofW (cc := cX6_empty) (maxL := 2) (ret := (some .int)) (by decide) rfl ?_
  intro p e s m args below meth c9 s₁ B hml hv
  obtain ⟨rfl, hsz, hP, hK, hD0, hN⟩ := hv
  have hx := B.exec
  have hb := B.bytes
  have hr := B.returns
  have hts := atoms_spec (ws := wsX6_empty) B.pre
  have hown : s.vm.findClass RX6 = some m.cls := findClass_of_methodNamed B.named
  have hlocks := B.notSynchronized
  subst hsz
  have hD1 := hD0.self (sz := s.heap.size)
  generalize hAe : va_A (mw a c S) s.heap.size = A at hD1 ⊢
  have hA : ∀ q : Nat, s.heap.size ≤ q → A q := fun q h => by rw [← hAe]; exact Or.inr h
  have hD : ∀ S2 : St, va_D A (mw a c S2) := gD mw_F hD1
  have hS : va_S A s.heap s.heap [] := va_S.rf
  have hinX6 : ∀ w ∈ wsX60, w ∈ wsX6_empty := by decide +kernel
  have kf172 := hts (.fieldLink RX6 172 "CanteenPlanModel" "minutes" "I") (by decide +kernel)
  have kf60 := hts (.fieldLink RX6 60 "CanteenPlanModel" "thrown" "I") (by decide +kernel)
  have hl := lv_entry ([.ref (a 0)]) (n := 2) (Nat.le_of_ble_eq_true rfl)
  rw [lg_entry_eq]
  generalize (lg_sl ([.ref (a 0)]) ++ List.replicate (2 - (lg_sl ([.ref (a 0)])).length) Slot.unset).toArray = ls at hl ⊢
  have hl : lv_has ls 2 [(0, .ref (a 0))] := hl
  unfold PX6_empty at h
  refine lv_aload_n hx hb dX6_empty_0 rfl (lv_at hl 0 rfl) ?_
  refine lv_iconst (v := 0) hx hb dX6_empty_1 (by decide) ?_
  refine va_put (D := D) (ci := 6) (v := .int 0) (ty := .int) (C := RX6) (T := TX6) (N := 36) hx hb hts hinX6 tyX6 tyX6_ok nmX6 hown hK hP (hD S) hS 0 rfl rfl 0 (by decide) kf60 (fun _ h9 => h9) rfl (by decide +kernel) rfl rfl (Nat.le_of_ble_eq_true rfl) dX6_empty_2 (fun H locs hP _ hS => ?_)
  obtain ⟨S1, eS1⟩ : ∃ z : St, z = sI S 0 0 := ⟨_, rfl⟩
  have hP : va_P D vwCl (mw a c S1) H := by rw [eS1]; exact hP
  have h := h S1 eS1
  refine lv_aload_n hx hb dX6_empty_5 rfl (lv_at hl 0 rfl) ?_
  refine va_get (D := D) (ci := 6) (v := .int (S1.1 14)) (C := RX6) (T := TX6) (N := 36) hx hb hts hinX6 hown hK hP 0 rfl rfl 31 (by decide) kf172 (fun _ h9 => h9) rfl dX6_empty_6 ?_
  refine lv_topi (fun x2 ex2 => ?_)
  have h := h x2 ex2
  refine lv_istore_n (lv' := [(1, .int x2), (0, .ref (a 0))]) hx hb dX6_empty_9 rfl hl (by decide) rfl (fun ls hl => ?_)
  refine lv_aload_n hx hb dX6_empty_10 rfl (lv_at hl 1 rfl) ?_
  refine lv_iconst (v := 0) hx hb dX6_empty_11 (by decide) ?_
  refine va_put (D := D) (ci := 6) (v := .int 0) (ty := .int) (C := RX6) (T := TX6) (N := 36) hx hb hts hinX6 tyX6 tyX6_ok nmX6 hown hK hP (hD S1) hS 0 rfl rfl 31 (by decide) kf172 (fun _ h9 => h9) rfl (by decide +kernel) rfl rfl (Nat.le_of_ble_eq_true rfl) dX6_empty_12 (fun H locs hP _ hS => ?_)
  obtain ⟨S3, eS3⟩ : ∃ z : St, z = sI S1 14 0 := ⟨_, rfl⟩
  have hP : va_P D vwCl (mw a c S3) H := by rw [eS3]; exact hP
  have h := h S3 eS3
  refine lv_iload_n hx hb dX6_empty_15 rfl (lv_at hl 0 rfl) ?_
  exact g_reti hx hb hr hlocks h hP hS dX6_empty_16
def BX6_count_0 (X : Int32 → Int32 → St → Prop) (post : Int32 → St → Prop) (xl2 : Int32) (xl3 : Int32) (S : St) : Prop := (((S.1 2) ≤ xl3 → post xl2 S) ∧ (¬ (S.1 2) ≤ xl3 → (vp_in xl3 150 ∧ (((S.2.2 5 xl3.toNatClampNeg) = 0 → ∀ x10 : Int32, x10 = (xl2 + 0) → ∀ x11 : Int32, x11 = xl3 + 1 → X x10 x11 S) ∧ (¬ (S.2.2 5 xl3.toNatClampNeg) = 0 → ∀ x12 : Int32, x12 = (xl2 + 1) → ∀ x13 : Int32, x13 = xl3 + 1 → X x12 x13 S)))))
def LX6_count (post : Int32 → St → Prop) : Nat → Int32 → Int32 → St → Prop
  | 0, _, _, _ => False
  | n + 1, xl2, xl3, S => BX6_count_0 (LX6_count post n) post xl2 xl3 S
def PX6_count (n : Nat) (p0 : Int32) (S : St) (post : Int32 → St → Prop) : Prop := ∀ S1 : St, S1 = sI S 0 0 → ((p0 = 0 → post (S1.1 1) S1) ∧ (¬ p0 = 0 → ((p0 = 1 → LX6_count post n 0 0 S1) ∧ (¬ p0 = 1 → ((p0 = 2 → post (S1.1 2) S1) ∧ (¬ p0 = 2 → ((p0 = 3 → post (S1.1 8) S1) ∧ (¬ p0 = 3 → ((p0 = 4 → post (S1.1 14) S1) ∧ (¬ p0 = 4 → post (-1) S1))))))))))
set_option maxHeartbeats 4000000 in
set_option maxRecDepth 100000 in
theorem tX6_count (l : Launch) (D : va_G) (a : Nat → Nat) (c : Nat → ClassId) (sz : Nat) (n : Nat) (p0 : Int32) (S : St) (post : Int32 → St → Prop) (h : PX6_count n p0 S post) : Met l yX6_count wsX6_count ({ frames := 0, cells := 0, slots := 0, locals := 0 }) (va_Pc [.ref (a 0), .int p0] (gP D (mw a c) (mty c) mns S sz)) (va_Qi post (gB D (mw a c)) (va_A (mw a c S) sz)) 0 0 (va_A (mw a c S) sz) := by
  refine Met.ofW (cc := cX6_count) (maxL := 4) (ret := (some .int)) (by decide) rfl ?_
  intro p e s m args below meth c9 s₁ B hml hv
  obtain ⟨rfl, hsz, hP, hK, hD0, hN⟩ := hv
  have hx := B.exec
  have hb := B.bytes
  have hr := B.returns
  have hts := atoms_spec (ws := wsX6_count) B.pre
  have hown : s.vm.findClass RX6 = some m.cls := findClass_of_methodNamed B.named
  have hlocks := B.notSynchronized
  subst hsz
  have hD1 := hD0.self (sz := s.heap.size)
  generalize hAe : va_A (mw a c S) s.heap.size = A at hD1 ⊢
  have hA : ∀ q : Nat, s.heap.size ≤ q → A q := fun q h => by rw [← hAe]; exact Or.inr h
  have hD : ∀ S2 : St, va_D A (mw a c S2) := gD mw_F hD1
  have hS : va_S A s.heap s.heap [] := va_S.rf
  have hinX6 : ∀ w ∈ wsX60, w ∈ wsX6_count := by decide +kernel
  have kf122 := hts (.fieldLink RX6 122 "CanteenPlanModel" "sizes" "I") (by decide +kernel)
  have kf172 := hts (.fieldLink RX6 172 "CanteenPlanModel" "minutes" "I") (by decide +kernel)
  have kf25 := hts (.fieldLink RX6 25 "CanteenPlanModel" "isThere" "[Z") (by decide +kernel)
  have kf60 := hts (.fieldLink RX6 60 "CanteenPlanModel" "thrown" "I") (by decide +kernel)
  have kf71 := hts (.fieldLink RX6 71 "CanteenPlanModel" "meals" "I") (by decide +kernel)
  have kf77 := hts (.fieldLink RX6 77 "CanteenPlanModel" "days" "I") (by decide +kernel)
  have hl := lv_entry ([.ref (a 0), .int p0]) (n := 4) (Nat.le_of_ble_eq_true rfl)
  rw [lg_entry_eq]
  generalize (lg_sl ([.ref (a 0), .int p0]) ++ List.replicate (4 - (lg_sl ([.ref (a 0), .int p0])).length) Slot.unset).toArray = ls at hl ⊢
  have hl : lv_has ls 4 [(0, .ref (a 0)), (1, .int p0)] := hl
  have key : ∀ n : Nat, (∀ (xl2 : Int32) (xl3 : Int32) (S : St) (H : Heap) (locs : List Loc) (ls : Array Slot), LX6_count post n xl2 xl3 S → va_P D vwCl (mw a c S) H → va_S A s.heap H locs → lv_has ls 4 [(0, .ref (a 0)), (2, .int xl2), (3, .int xl3)] → W p l e ((headSpec wsX6_count ({ frames := 0, cells := 0, slots := 0, locals := 0 })).room) s m ([.ref (a 0), .int p0]).toArray below meth c9 H locs 0 0 (MQ below (va_Qi post (gB D (mw a c)) A) ([.ref (a 0), .int p0]).toArray s 0 0 A) (F0 m 49 ls [])) := by
    intro n
    induction n with
    | zero => exact fun xl2 xl3 S H locs ls h => h.elim
    | succ n ih =>
      intro xl2 xl3 S H locs ls h hP hS hl
      have h : BX6_count_0 (LX6_count post n) post xl2 xl3 S := h
      unfold BX6_count_0 at h
      refine lv_iload_n hx hb dX6_count_49 rfl (lv_at hl 2 rfl) ?_
      refine lv_aload_n hx hb dX6_count_50 rfl (lv_at hl 0 rfl) ?_
      refine va_get (D := D) (ci := 6) (v := .int (S.1 2)) (C := RX6) (T := TX6) (N := 36) hx hb hts hinX6 hown hK hP 0 rfl rfl 8 (by decide) kf77 (fun _ h9 => h9) rfl dX6_count_51 ?_
      refine lv_icmp_ge (tgt := 80) hx hb dX6_count_54 (by decide) (fun c7 => ?_) (fun c7 => ?_)
      · have h := h.1 c7
        refine lv_iload_n hx hb dX6_count_80 rfl (lv_at hl 1 rfl) ?_
        exact g_reti hx hb hr hlocks h hP hS dX6_count_81
      · have h := h.2 c7
        refine lv_iload_n hx hb dX6_count_57 rfl (lv_at hl 1 rfl) ?_
        refine lv_aload_n hx hb dX6_count_58 rfl (lv_at hl 0 rfl) ?_
        refine va_get (D := D) (ci := 6) (v := .ref (a 6)) (C := RX6) (T := TX6) (N := 36) hx hb hts hinX6 hown hK hP 0 rfl rfl 7 (by decide) kf25 (fun _ h9 => h9) rfl dX6_count_59 ?_
        refine lv_iload_n hx hb dX6_count_62 rfl (lv_at hl 2 rfl) ?_
        obtain ⟨b8, h⟩ := h
        refine va_zald hx hb hK hP 6 5 rfl rfl b8 dX6_count_63 ?_
        refine lv_if_eq (tgt := 71) hx hb dX6_count_64 (by decide) (fun c9 => ?_) (fun c9 => ?_)
        · have h := h.1 c9
          refine lv_iconst (v := 0) hx hb dX6_count_71 (by decide) ?_
          refine lv_iadd hx hb dX6_count_72 ?_
          refine lv_topi (fun x10 ex10 => ?_)
          have h := h x10 ex10
          refine lv_istore_n (lv' := [(2, .int x10), (0, .ref (a 0)), (3, .int xl3)]) hx hb dX6_count_73 rfl hl (by decide) rfl (fun ls hl => ?_)
          obtain ⟨x11, ex11⟩ : ∃ y : Int32, y = xl3 + 1 := ⟨_, rfl⟩
          have h := h x11 ex11
          refine lv_iinc (v := x11) (lv' := [(3, .int x11), (2, .int x10), (0, .ref (a 0))]) hx hb dX6_count_74 hl (k := 2) rfl (by rw [ex11]; rfl) (by decide) rfl (fun ls hl => ?_)
          refine lv_goto (tgt := 49) hx hb dX6_count_77 (by decide) ?_
          exact (ih) x10 x11 S _ _ _ h hP hS (lv_sub hl [2, 1, 0] rfl)
        · have h := h.2 c9
          refine lv_iconst (v := 1) hx hb dX6_count_67 (by decide) ?_
          refine lv_goto (tgt := 72) hx hb dX6_count_68 (by decide) ?_
          refine lv_iadd hx hb dX6_count_72 ?_
          refine lv_topi (fun x12 ex12 => ?_)
          have h := h x12 ex12
          refine lv_istore_n (lv' := [(2, .int x12), (0, .ref (a 0)), (3, .int xl3)]) hx hb dX6_count_73 rfl hl (by decide) rfl (fun ls hl => ?_)
          obtain ⟨x13, ex13⟩ : ∃ y : Int32, y = xl3 + 1 := ⟨_, rfl⟩
          have h := h x13 ex13
          refine lv_iinc (v := x13) (lv' := [(3, .int x13), (2, .int x12), (0, .ref (a 0))]) hx hb dX6_count_74 hl (k := 2) rfl (by rw [ex13]; rfl) (by decide) rfl (fun ls hl => ?_)
          refine lv_goto (tgt := 49) hx hb dX6_count_77 (by decide) ?_
          exact (ih) x12 x13 S _ _ _ h hP hS (lv_sub hl [2, 1, 0] rfl)
  unfold PX6_count at h
  refine lv_aload_n hx hb dX6_count_0 rfl (lv_at hl 0 rfl) ?_
  refine lv_iconst (v := 0) hx hb dX6_count_1 (by decide) ?_
  refine va_put (D := D) (ci := 6) (v := .int 0) (ty := .int) (C := RX6) (T := TX6) (N := 36) hx hb hts hinX6 tyX6 tyX6_ok nmX6 hown hK hP (hD S) hS 0 rfl rfl 0 (by decide) kf60 (fun _ h9 => h9) rfl (by decide +kernel) rfl rfl (Nat.le_of_ble_eq_true rfl) dX6_count_2 (fun H locs hP _ hS => ?_)
  obtain ⟨S1, eS1⟩ : ∃ z : St, z = sI S 0 0 := ⟨_, rfl⟩
  have hP : va_P D vwCl (mw a c S1) H := by rw [eS1]; exact hP
  have h := h S1 eS1
  refine lv_iload_n hx hb dX6_count_5 rfl (lv_at hl 1 rfl) ?_
  by_cases c2 : p0 = 0
  · have h := h.1 c2
    refine lv_tableIn (off := 34) (tgt := 40) hx hb dX6_count_6 (by rw [c2]; decide) (by rw [c2]; decide) (by rw [c2]; decide) (by decide) ?_
    refine lv_aload_n hx hb dX6_count_40 rfl (lv_at hl 0 rfl) ?_
    refine va_get (D := D) (ci := 6) (v := .int (S1.1 1)) (C := RX6) (T := TX6) (N := 36) hx hb hts hinX6 hown hK hP 0 rfl rfl 4 (by decide) kf71 (fun _ h9 => h9) rfl dX6_count_41 ?_
    exact g_reti hx hb hr hlocks h hP hS dX6_count_44
  · have h := h.2 c2
    by_cases c3 : p0 = 1
    · have h := h.1 c3
      refine lv_tableIn (off := 39) (tgt := 45) hx hb dX6_count_6 (by rw [c3]; decide) (by rw [c3]; decide) (by rw [c3]; decide) (by decide) ?_
      refine lv_iconst (v := 0) hx hb dX6_count_45 (by decide) ?_
      refine lv_istore_n (lv' := [(2, .int 0), (0, .ref (a 0)), (1, .int p0)]) hx hb dX6_count_46 rfl hl (by decide) rfl (fun ls hl => ?_)
      refine lv_iconst (v := 0) hx hb dX6_count_47 (by decide) ?_
      refine lv_istore_n (lv' := [(3, .int 0), (2, .int 0), (0, .ref (a 0)), (1, .int p0)]) hx hb dX6_count_48 rfl hl (by decide) rfl (fun ls hl => ?_)
      exact (key n) 0 0 S1 _ _ _ h hP hS (lv_sub hl [2, 1, 0] rfl)
    · have h := h.2 c3
      by_cases c4 : p0 = 2
      · have h := h.1 c4
        refine lv_tableIn (off := 76) (tgt := 82) hx hb dX6_count_6 (by rw [c4]; decide) (by rw [c4]; decide) (by rw [c4]; decide) (by decide) ?_
        refine lv_aload_n hx hb dX6_count_82 rfl (lv_at hl 0 rfl) ?_
        refine va_get (D := D) (ci := 6) (v := .int (S1.1 2)) (C := RX6) (T := TX6) (N := 36) hx hb hts hinX6 hown hK hP 0 rfl rfl 8 (by decide) kf77 (fun _ h9 => h9) rfl dX6_count_83 ?_
        exact g_reti hx hb hr hlocks h hP hS dX6_count_86
      · have h := h.2 c4
        by_cases c5 : p0 = 3
        · have h := h.1 c5
          refine lv_tableIn (off := 81) (tgt := 87) hx hb dX6_count_6 (by rw [c5]; decide) (by rw [c5]; decide) (by rw [c5]; decide) (by decide) ?_
          refine lv_aload_n hx hb dX6_count_87 rfl (lv_at hl 0 rfl) ?_
          refine va_get (D := D) (ci := 6) (v := .int (S1.1 8)) (C := RX6) (T := TX6) (N := 36) hx hb hts hinX6 hown hK hP 0 rfl rfl 19 (by decide) kf122 (fun _ h9 => h9) rfl dX6_count_88 ?_
          exact g_reti hx hb hr hlocks h hP hS dX6_count_91
        · have h := h.2 c5
          by_cases c6 : p0 = 4
          · have h := h.1 c6
            refine lv_tableIn (off := 86) (tgt := 92) hx hb dX6_count_6 (by rw [c6]; decide) (by rw [c6]; decide) (by rw [c6]; decide) (by decide) ?_
            refine lv_aload_n hx hb dX6_count_92 rfl (lv_at hl 0 rfl) ?_
            refine va_get (D := D) (ci := 6) (v := .int (S1.1 14)) (C := RX6) (T := TX6) (N := 36) hx hb hts hinX6 hown hK hP 0 rfl rfl 31 (by decide) kf172 (fun _ h9 => h9) rfl dX6_count_93 ?_
            exact g_reti hx hb hr hlocks h hP hS dX6_count_96
          · have h := h.2 c6
            refine lv_tableOut (tgt := 97) hx hb dX6_count_6 (by have q0 : p0.toInt ≠ 0 := fun e9 => c2 (Int32.toInt_inj.mp e9); have q1 : p0.toInt ≠ 1 := fun e9 => c3 (Int32.toInt_inj.mp e9); have q2 : p0.toInt ≠ 2 := fun e9 => c4 (Int32.toInt_inj.mp e9); have q3 : p0.toInt ≠ 3 := fun e9 => c5 (Int32.toInt_inj.mp e9); have q4 : p0.toInt ≠ 4 := fun e9 => c6 (Int32.toInt_inj.mp e9); omega) (by decide) ?_
            refine lv_iconst (v := (-1)) hx hb dX6_count_97 (by decide) ?_
            exact g_reti hx hb hr hlocks h hP hS dX6_count_98
