/-! the reference goes through the sets -/
theorem q_sum {x : Nat → Nat} {k : Nat} (hk : k < 4) (hz : ∀ i, k + 1 ≤ i → i < 4 → x i = 0) : zA x (k + 1) = x 0 + x 1 + x 2 + x 3 := by
  have h4 : k = 0 ∨ k = 1 ∨ k = 2 ∨ k = 3 := by omega
  rcases h4 with rfl | rfl | rfl | rfl
  · have z1 := hz 1 (by omega) (by omega)
    have z2 := hz 2 (by omega) (by omega)
    have z3 := hz 3 (by omega) (by omega)
    simp only [zA]
    omega
  · have z2 := hz 2 (by omega) (by omega)
    have z3 := hz 3 (by omega) (by omega)
    simp only [zA]
    omega
  · have z3 := hz 3 (by omega) (by omega)
    simp only [zA]
    omega
  · simp only [zA]
    omega
theorem qU_K {ns k v : Nat} {x : Nat → Nat} (hk : k < 4) (hx : qK ns x) (hkn : k < ns) (hs : x 0 + x 1 + x 2 + x 3 + v ≤ 12 + x k) : qK ns (qU x k v) := by
  obtain ⟨h1, h2⟩ := hx
  refine ⟨?_, fun i g1 g2 => ?_⟩
  · have h4 : k = 0 ∨ k = 1 ∨ k = 2 ∨ k = 3 := by omega
    rcases h4 with rfl | rfl | rfl | rfl
    · show v + x 1 + x 2 + x 3 ≤ 12
      omega
    · show x 0 + v + x 2 + x 3 ≤ 12
      omega
    · show x 0 + x 1 + v + x 3 ≤ 12
      omega
    · show x 0 + x 1 + x 2 + v ≤ 12
      omega
  · unfold qU
    rw [if_neg (by omega)]
    exact h2 i g1 g2
section CHOOSES
variable {M : St} {nd j : Nat} {ea : Nat → Nat} {aw mk : Nat → Int32} {A marks : Int32} {p : Nat → Bool} {wa wn ns left : Nat} {po pr : Nat → Nat} {post : Int32 → St → Prop}
/-- the reference's kitchen and leaf -/
def MC (M : St) (nd j : Nat) (ea : Nat → Nat) (aw mk : Nat → Int32) (A marks : Int32) (wa wn ns : Nat) (po pr : Nat → Nat) : Prop := DM M nd j ea aw mk ∧ M.1 6 = A ∧ M.1 7 = marks &&& A ∧ M.1 8 = nI ns ∧ M.1 9 = nI wa ∧ M.1 10 = nI wn ∧ ∀ i, i < ns → M.2.2 7 i = nI (po i) ∧ M.2.2 8 i = nI (pr i)
theorem MC.kept {S : St} (h : MC M nd j ea aw mk A marks wa wn ns po pr) (hk : Kp [11, 12] [9, 10] M S) : MC S nd j ea aw mk A marks wa wn ns po pr := by
  obtain ⟨h1, h2, h3, h4, h5, h6, h7⟩ := h
  refine ⟨h1.kept (hk.mono (by decide) (by decide)), by rw [hk.1 6 (by decide), h2], by rw [hk.1 7 (by decide), h3], by rw [hk.1 8 (by decide), h4], by rw [hk.1 9 (by decide), h5], by rw [hk.1 10 (by decide), h6], fun i hi => ?_⟩
  rw [hk.2 7 (by decide), hk.2 8 (by decide)]
  exact h7 i hi
def CX (M : St) (ns : Nat) (x : Nat → Nat) (S : St) : Prop := qK ns x ∧ (∀ i, i < 4 → S.2.2 9 i = nI (x i)) ∧ Kp [11, 12] [9, 10] M S
def T2 (M : St) (p : Nat → Bool) (ea : Nat → Nat) (j wa wn nd ns left : Nat) (po pr : Nat → Nat) (post : Int32 → St → Prop) (F : Nat) : Prop := ∀ x S, CX M ns x S → mV ns (qV p ea wa wn nd ns left po pr) (qP ns po) (qN ns) (qC x) S → 20 * (30000 - qC x) + 16 < F → LX6_chooses post F 2 (nI j) (nI left) 0 1 0 0 0 0 S
def T3 (M : St) (p : Nat → Bool) (ea : Nat → Nat) (j wa wn nd ns left : Nat) (po pr : Nat → Nat) (post : Int32 → St → Prop) (F : Nat) : Prop := ∀ x S i, CX M ns x S → i ≤ ns → mV ns (qV p ea wa wn nd ns left po pr) (qP ns po) (qN ns) (qC x) S → 20 * (30000 - qC x) + 15 - i < F → LX6_chooses post F 3 (nI j) (nI left) 0 0 (nI (zA x i)) (nI (zA (fun q => x q * po q) i)) (nI (zA (fun q => x q * pr q) i)) (nI i) S
def T4 (M : St) (p : Nat → Bool) (ea : Nat → Nat) (j wa wn nd ns left : Nat) (po pr : Nat → Nat) (post : Int32 → St → Prop) (F : Nat) : Prop := ∀ x S e, CX M ns x S → e ≤ ns → (∀ i, e ≤ i → i < 4 → x i = 0) → mV ns (qV p ea wa wn nd ns left po pr) (qP ns po) (qN ns) (qC x + pw e) S → 20 * (30000 - (qC x + pw e)) + 17 + e < F → LX6_chooses post F 4 (nI j) (nI left) 0 0 0 0 0 (nI e - 1) S
theorem t_2 {F : Nat} (i3 : T3 M p ea j wa wn nd ns left po pr post F) : T2 M p ea j wa wn nd ns left po pr post (F + 1) := by
  intro x S hX hv hF
  exact b_1 (i3 x S 0 hX (Nat.zero_le _) hv (by omega))
set_option maxHeartbeats 1000000 in
theorem t_3 {F : Nat} (hG : KG ea wa wn nd ns left po pr) (hM : MC M nd j ea aw mk A marks wa wn ns po pr) (hp : p = kn aw mk A marks) (i3 : T3 M p ea j wa wn nd ns left po pr post F) (i4 : T4 M p ea j wa wn nd ns left po pr post F) : T3 M p ea j wa wn nd ns left po pr post (F + 1) := by
  intro x S i hX hi hv hF
  obtain ⟨hx, h9, hK⟩ := id hX
  obtain ⟨m1, m2, m3, m4, m5, m6, m7⟩ := hM.kept hK
  obtain ⟨g1, g2, g3, g4, g5, g6, g7, g8⟩ := id hG
  have h1 := qP_b g1 hx g6
  have h2 := qP_b g1 hx g7
  have h3 := qN_b g1 hx
  have hmx := q_max hx.1
  show BX6_chooses_3 _ _ _ _ _ _ _ _ _ _ _
  unfold BX6_chooses_3
  rw [m4]
  refine ⟨fun c => ?_, fun c => ?_⟩
  · have hin : i = ns := by
      have := (nI_leI (by omega) (by omega)).mp c
      omega
    subst hin
    have e1 : zA (fun q => x q * po q) i = qP i po x := rfl
    have e2 : zA (fun q => x q * pr q) i = qP i pr x := rfl
    have e3 : zA x i = qN i x := rfl
    rw [e1, e2, e3]
    refine b_f (fun e => absurd ((nI_ltI (a := 12) (by omega) (by omega)).mp e) (by omega)) ?_
    refine m_costOf m1 hp m2 m3 m5 m6 g3 g4 (by omega) (by omega) ?_
    refine m_takes (V := qV p ea wa wn nd i left po pr) (P := qP i po) (N := qN i) (qV_E g1) (qP_E g1) (qN_E g1) g1 (fun y hy => ⟨qV_b hG hy, by have := qP_b g1 hy g6; omega, by have := qN_b g1 hy; omega⟩) m4 hx h9 hv rfl rfl rfl (fun S24 hK24 hv24 x26 e26 => ?_)
    rw [hK24.1 8 (by decide), m4] at e26
    subst e26
    have hpw : 1 ≤ pw i := by
      have h5 : i = 0 ∨ i = 1 ∨ i = 2 ∨ i = 3 ∨ i = 4 := by omega
      rcases h5 with rfl | rfl | rfl | rfl | rfl <;> decide
    refine i4 x S24 i ⟨hx, fun q hq => by rw [hK24.2 9 (by decide)]; exact h9 q hq, hK.tr (hK24.mono (by decide) (by decide))⟩ (Nat.le_refl _) hx.2 (mV_up hv24 (by omega) (fun y hy h => q_last g1 hx hy h)) (by omega)
  · have hlt : i < ns := by
      rcases Nat.lt_or_ge i ns with h | h
      · exact h
      · exact absurd (nI_le h (by omega)) c
    have hin : vp_in (nI i) 4 := vp_in_nI (by omega) (by omega)
    rw [nI_clamp (by omega), h9 i (by omega), (m7 i hlt).1, (m7 i hlt).2]
    refine ⟨hin, fun x28 e28 => ⟨hin, hin, fun x31 e31 => ⟨hin, hin, fun x34 e34 x35 e35 => ?_⟩⟩⟩
    rw [nI_add] at e28
    rw [pk_mul, nI_add] at e31
    rw [pk_mul, nI_add] at e34
    rw [nI_1] at e35
    subst e28; subst e31; subst e34; subst e35
    exact i3 x S (i + 1) hX hlt hv (by omega)
set_option maxHeartbeats 1000000 in
theorem t_4 {F : Nat} (hn : ns ≤ 4) (kend : ∀ S, Kp [11, 12] [9, 10] M S → mV ns (qV p ea wa wn nd ns left po pr) (qP ns po) (qN ns) 28561 S → post 1 S) (i2 : T2 M p ea j wa wn nd ns left po pr post F) (i4 : T4 M p ea j wa wn nd ns left po pr post F) : T4 M p ea j wa wn nd ns left po pr post (F + 1) := by
  intro x S e hX he hz hv hF
  obtain ⟨hx, h9, hK⟩ := id hX
  show BX6_chooses_4 _ _ _ _ _ _ _ _ _ _ _
  unfold BX6_chooses_4
  cases e with
  | zero =>
    have hneg : nI 0 - 1 < 0 := by decide
    obtain ⟨F, rfl⟩ : ∃ G, F = G + 1 := ⟨F - 1, by omega⟩
    refine b_t hneg (b_t hneg (b_0 (b_t rfl (kend S hK ?_))))
    have z0 := hz 0 (by omega) (by omega)
    have z1 := hz 1 (by omega) (by omega)
    have z2 := hz 2 (by omega) (by omega)
    have z3 := hz 3 (by omega) (by omega)
    have : qC x = 0 := by unfold qC; omega
    rw [this] at hv
    exact hv
  | succ q =>
    rw [nI_pred]
    have hq : q < 4 := by omega
    have hin : vp_in (nI q) 4 := vp_in_nI hq (by omega)
    have hsum := q_sum hq hz
    have h12 := hx.1
    have hpos : ¬ nI q < 0 := nI_pos (by omega)
    refine b_f hpos (m_upTo hq h9 ?_)
    rw [hsum]
    refine ⟨fun c => b_f hpos (b_1 ?_), fun c => ?_⟩
    · have c' := (nI_ltI (b := 12) (by omega) (by omega)).mp c
      rw [nI_clamp (by omega), h9 q hq, nI_1]
      refine ⟨hin, hin, fun S58 e58 => ?_⟩
      have hup := q_up (x := x) hq
      refine i2 (qU x q (x q + 1)) S58 ⟨qU_K hq hx (by omega) (by omega), fun i hi => ?_, by rw [e58]; exact hK.sR (by decide) _⟩ (by rw [hup, e58]; exact mV_row hv _) (by omega)
      rw [e58, sR_g]
      unfold qU
      by_cases g : i = q
      · subst g
        rw [upd_g, if_pos rfl]
      · rw [upd_n _ _ _ g, if_neg g]
        exact h9 i hi
    · have c' : ¬ x 0 + x 1 + x 2 + x 3 < 12 := fun h => c (nI_lt (b := 12) h (by omega))
      rw [nI_clamp (by omega)]
      refine ⟨hin, fun S60 e60 x61 e61 => ?_⟩
      rw [← Int32.sub_eq_add_neg] at e61
      subst e61
      have hzr := q_zero (x := x) hq h12
      refine i4 (qU x q 0) S60 q ⟨qU_K hq hx (by omega) (by omega), fun i hi => ?_, by rw [e60]; exact hK.sR (by decide) _⟩ (by omega) (fun i g1 g2 => ?_) (by rw [e60]; exact mV_row (mV_up hv hzr (fun y hy h => q_carry hq (fun i g1 g2 => hz i (by omega) g2) (by omega) hy.1 h)) _) (by omega)
      · rw [e60, sR_g]
        unfold qU
        by_cases g : i = q
        · subst g
          rw [upd_g, if_pos rfl]; rfl
        · rw [upd_n _ _ _ g, if_neg g]
          exact h9 i hi
      · unfold qU
        by_cases g : i = q
        · rw [if_pos g]
        · rw [if_neg g]
          exact hz i (by omega) g2
theorem t_all (hG : KG ea wa wn nd ns left po pr) (hM : MC M nd j ea aw mk A marks wa wn ns po pr) (hp : p = kn aw mk A marks) (kend : ∀ S, Kp [11, 12] [9, 10] M S → mV ns (qV p ea wa wn nd ns left po pr) (qP ns po) (qN ns) 28561 S → post 1 S) :
    ∀ F, T2 M p ea j wa wn nd ns left po pr post F ∧ T3 M p ea j wa wn nd ns left po pr post F ∧ T4 M p ea j wa wn nd ns left po pr post F
  | 0 => ⟨fun x S _ _ h => absurd h (by omega), fun x S i _ _ _ h => absurd h (by omega), fun x S e _ _ _ _ h => absurd h (by omega)⟩
  | F + 1 => by
    obtain ⟨i2, i3, i4⟩ := t_all hG hM hp kend F
    exact ⟨t_2 i3, t_3 hG hM hp i3 i4, t_4 hG.1 kend i2 i4⟩
theorem m_choose1 {S : St} (hG : KG ea wa wn nd ns left po pr) (hM : MC M nd j ea aw mk A marks wa wn ns po pr) (hp : p = kn aw mk A marks)
    (k : ∀ S x, Kp [11, 12] [9, 10] M S → qK ns x → (∀ i, i < 4 → S.2.2 10 i = nI (x i)) → S.2.1 2 = lZ (qV p ea wa wn nd ns left po pr x : Nat) → (∀ y, qK ns y → qB (qV p ea wa wn nd ns left po pr) (qP ns po) (qN ns) x y) → post 1 S)
    (hS : Kp [11, 12] [9, 10] M S) (hj : S.2.1 2 = -1) : ∀ r i, i + r = 4 → ∀ T, Kp [] [9] S T → T.2.1 = S.2.1 → (∀ q, q < i → T.2.2 9 q = 0) → ∀ F, r + 600100 ≤ F → LX6_chooses post F 1 (nI j) (nI left) 0 (nI i) 0 0 0 0 T := by
  intro r
  induction r with
  | zero =>
    intro i hi T hT jT h9 F hF
    obtain ⟨F, rfl⟩ : ∃ G, F = G + 1 := ⟨F - 1, by omega⟩
    have : i = 4 := by omega
    subst this
    refine b_t (by decide) ((t_all hG hM hp (fun S' hK' hv' => ?_) F).1 (fun _ => 0) T ⟨qK_0, h9, hS.tr (hT.mono (by decide) (by decide))⟩ (Or.inl ⟨by rw [jT, hj], fun y hy => ?_⟩) ?_)
    · rcases hv' with ⟨-, h⟩ | ⟨x, g1, g2, g3, g4, g5, g6, g7⟩
      · exact absurd (q_max (qK_0 (ns := ns)).1) (h (fun _ => 0) qK_0)
      · exact k S' x hK' g1 g3 g4 (fun y hy => g7 y hy (q_max hy.1))
    · show ¬ qC y < 0
      omega
    · show 20 * (30000 - 0) + 16 < F
      omega
  | succ r ih =>
    intro i hi T hT jT h9 F hF
    obtain ⟨F, rfl⟩ : ∃ G, F = G + 1 := ⟨F - 1, by omega⟩
    refine b_f (fun e => absurd ((nI_leI (a := 4) (by omega) (by omega)).mp e) (by omega)) ⟨vp_in_nI (by omega) (by omega), fun S15 e15 x16 e16 => ?_⟩
    rw [nI_clamp (by omega)] at e15
    rw [nI_1] at e16
    subst e16
    refine ih (i + 1) (by omega) S15 (by rw [e15]; exact hT.sR (by decide) _) (by rw [e15, sR_J, jT]) (fun q hq => ?_) F (by omega)
    rw [e15, sR_g]
    by_cases g : q = i
    · subst g
      rw [upd_g]
    · rw [upd_n _ _ _ g]
      exact h9 q (by omega)
theorem m_choose0 (hG : KG ea wa wn nd ns left po pr) (hM : MC M nd j ea aw mk A marks wa wn ns po pr) (hp : p = kn aw mk A marks)
    (k0 : sD p (fun _ => 1) nd = 0 → post 0 M)
    (k : sD p (fun _ => 1) nd ≠ 0 → ∀ S x, Kp [11, 12] [9, 10] M S → qK ns x → (∀ i, i < 4 → S.2.2 10 i = nI (x i)) → S.2.1 2 = lZ (qV p ea wa wn nd ns left po pr x : Nat) → (∀ y, qK ns y → qB (qV p ea wa wn nd ns left po pr) (qP ns po) (qN ns) x y) → post 1 S) :
    ∀ r d, d + r = nd → ∀ F, r + 600200 ≤ F → LX6_chooses post F 0 (nI j) (nI left) (if sD p (fun _ => 1) d = 0 then 0 else 1) (nI d) 0 0 0 0 M := by
  have hD := hM.1
  have hnd := hD.1
  have hn := hD.2.2.1
  intro r
  induction r with
  | zero =>
    intro d hd F hF
    obtain ⟨F, rfl⟩ : ∃ G, F = G + 1 := ⟨F - 1, by omega⟩
    have : d = nd := by omega
    subst this
    refine b_t (by rw [hn]; exact nI_le (Nat.le_refl _) (by omega)) ?_
    by_cases c : sD p (fun _ => 1) d = 0
    · rw [if_pos c]
      exact b_0 (k0 c)
    · rw [if_neg c]
      refine b_1 (fun S5 e5 => ?_)
      exact m_choose1 hG hM hp (k c) (by rw [e5]; exact Kp.rf.sJ _) (by rw [e5, sJ_g]) 4 0 (by omega) S5 Kp.rf rfl (fun q hq => absurd hq (by omega)) F (by omega)
  | succ r ih =>
    intro d hd F hF
    obtain ⟨F, rfl⟩ : ∃ G, F = G + 1 := ⟨F - 1, by omega⟩
    have nx := ih (d + 1) (by omega) F (by omega)
    have es : sD p (fun _ => 1) (d + 1) = sD p (fun _ => 1) d + (if p d = true then 1 else 0) := rfl
    refine b_f (by rw [hn]; exact fun e => absurd ((nI_leI (by omega) (by omega)).mp e) (by omega)) ?_
    by_cases c : sD p (fun _ => 1) d = 0
    · rw [if_pos c]
      refine b_0 (m_isLeaf hD (by omega) hM.2.1 hM.2.2.1 (fun hy => b_1 (fun x12 e12 => ?_)) (fun hn0 => b_0 (fun x11 e11 => ?_)))
      · rw [← hp] at hy
        rw [if_pos hy] at es
        rw [if_neg (by omega)] at nx
        subst e12
        rw [nI_1]
        exact nx
      · rw [← hp] at hn0
        rw [if_neg (by rw [hn0]; decide)] at es
        rw [if_pos (by omega)] at nx
        subst e11
        rw [nI_1]
        exact nx
    · rw [if_neg c]
      refine b_1 (fun x7 e7 => ?_)
      rw [if_neg (by rw [es]; omega)] at nx
      subst e7
      rw [nI_1]
      exact nx
end CHOOSES
