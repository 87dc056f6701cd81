/-! the four loops of the class -/
def q5 (a b c d : Nat) : Nat → Nat := fun i => if i = 0 then a else if i = 1 then b else if i = 2 then c else d
theorem q5_C {a b c d : Nat} : qC (q5 a b c d) = 2197 * a + 169 * b + 13 * c + d := rfl
theorem c_most {ns q room : Nat} {S : St} {post : Int32 → St → Prop} (h5 : S.1 5 = nI ns) (hn : ns ≤ 4) (hq : q < 4) (k : post (nI (if q < ns then room else 0)) S) : PX2_mostPots (nI q) (nI room) S post := by
  unfold PX2_mostPots
  rw [h5]
  by_cases c : q < ns
  · rw [if_pos c] at k
    exact b_f (fun e => absurd ((nI_leI (by omega) (by omega)).mp e) (by omega)) k
  · rw [if_neg c] at k
    exact b_t (nI_le (by omega) (by omega)) k
section LOOPS
variable {C : St} {ns left : Nat} {V P N : (Nat → Nat) → Nat} {post : St → Prop}
def WG (C : St) (ns left : Nat) (V P N : (Nat → Nat) → Nat) : Prop := ∀ (S : St) (x : Nat → Nat) (post : St → Prop), qK ns x → Kp [10, 11, 12] [14, 15] C S → (∀ i, i < 4 → S.2.2 14 i = nI (x i)) → cV ns V P N (qC x + 1) S → (∀ S1 : St, Kp [10, 11, 12] [15] S S1 → cV ns V P N (qC x) S1 → post S1) → ∃ n, PX2_weighTried n (nI left) S post
theorem f_3 (hW : WG C ns left V P N) (hn : ns ≤ 4) {a b c X : Nat} (habc : a + b + c ≤ 12) (z0 : ns ≤ 0 → a = 0) (z1 : ns ≤ 1 → b = 0) (z2 : ns ≤ 2 → c = 0)
    (K : ∀ S F, X ≤ F → Kp [10, 11, 12] [14, 15] C S → S.2.2 14 0 = nI a → S.2.2 14 1 = nI b → cV ns V P N (2197 * a + 169 * b + 13 * c) S → LX2_findBest post F 2 (nI left) (nI a) (nI b) (nI c - 1) 0 S) :
    ∀ D S F, D ≤ (if 3 < ns then 12 - a - b - c else 0) + 1 → D + 1 + X ≤ F → Kp [10, 11, 12] [14, 15] C S → S.2.2 14 0 = nI a → S.2.2 14 1 = nI b → S.2.2 14 2 = nI c → cV ns V P N (2197 * a + 169 * b + 13 * c + D) S → LX2_findBest post F 3 (nI left) (nI a) (nI b) (nI c) (nI D - 1) S := by
  intro D
  induction D with
  | zero =>
    intro S F hD hF hK r0 r1 r2 hv
    obtain ⟨F, rfl⟩ : ∃ G, F = G + 1 := ⟨F - 1, by omega⟩
    refine b_t (by decide) (fun x22 e22 => ?_)
    rw [← Int32.sub_eq_add_neg] at e22
    subst e22
    exact K S F (by omega) hK r0 r1 hv
  | succ d ih =>
    intro S F hD hF hK r0 r1 r2 hv
    obtain ⟨F, rfl⟩ : ∃ G, F = G + 1 := ⟨F - 1, by omega⟩
    rw [nI_pred]
    have z3 : ns ≤ 3 → d = 0 := fun h => by
      rw [if_neg (by omega)] at hD
      omega
    have hd12 : a + b + c + d ≤ 12 := by
      by_cases g : 3 < ns
      · rw [if_pos g] at hD; omega
      · rw [if_neg g] at hD; omega
    have hx : qK ns (q5 a b c d) := ⟨hd12, fun i h1 h2 => by
      have h4 : i = 0 ∨ i = 1 ∨ i = 2 ∨ i = 3 := by omega
      rcases h4 with rfl | rfl | rfl | rfl
      · exact z0 h1
      · exact z1 h1
      · exact z2 h1
      · exact z3 h1⟩
    refine b_f (nI_pos (by omega)) ⟨vp_in_nI (n := 3) (by omega) (by omega), fun S24 e24 => ?_⟩
    rw [show (3 : Int32).toNatClampNeg = 3 from rfl] at e24
    have hK24 : Kp [10, 11, 12] [14, 15] C S24 := by rw [e24]; exact hK.sR (by decide) _
    have w0 : S24.2.2 14 0 = nI a := by rw [e24, sR_g, upd_n _ _ _ (by decide), r0]
    have w1 : S24.2.2 14 1 = nI b := by rw [e24, sR_g, upd_n _ _ _ (by decide), r1]
    have w2 : S24.2.2 14 2 = nI c := by rw [e24, sR_g, upd_n _ _ _ (by decide), r2]
    have w3 : S24.2.2 14 3 = nI d := by rw [e24, sR_g, upd_g]
    refine hW S24 (q5 a b c d) _ hx hK24 (fun i hi => ?_) (by rw [e24]; exact cV_row (by rw [q5_C, Nat.add_assoc]; exact hv) _) (fun S25 hK25 hv25 x27 e27 => ?_)
    · have h4 : i = 0 ∨ i = 1 ∨ i = 2 ∨ i = 3 := by omega
      rcases h4 with rfl | rfl | rfl | rfl
      · exact w0
      · exact w1
      · exact w2
      · exact w3
    · rw [← Int32.sub_eq_add_neg] at e27
      subst e27
      have t : S25.2.2 14 = S24.2.2 14 := hK25.2 14 (by decide)
      exact ih S25 F (by omega) (by omega) (hK24.tr (hK25.mono (by decide) (by decide))) (by rw [t, w0]) (by rw [t, w1]) (by rw [t, w2]) hv25
theorem f_2 (hW : WG C ns left V P N) (h5 : C.1 5 = nI ns) (hn : ns ≤ 4) {a b X : Nat} (hab : a + b ≤ 12) (z0 : ns ≤ 0 → a = 0) (z1 : ns ≤ 1 → b = 0)
    (K : ∀ S F, X ≤ F → Kp [10, 11, 12] [14, 15] C S → S.2.2 14 0 = nI a → cV ns V P N (2197 * a + 169 * b) S → LX2_findBest post F 1 (nI left) (nI a) (nI b - 1) 0 0 S) :
    ∀ D S F, D ≤ (if 2 < ns then 12 - a - b else 0) + 1 → 16 * D + 1 + X ≤ F → Kp [10, 11, 12] [14, 15] C S → S.2.2 14 0 = nI a → S.2.2 14 1 = nI b → cV ns V P N (2197 * a + 169 * b + 13 * D) S → LX2_findBest post F 2 (nI left) (nI a) (nI b) (nI D - 1) 0 S := by
  intro D
  induction D with
  | zero =>
    intro S F hD hF hK r0 r1 hv
    obtain ⟨F, rfl⟩ : ∃ G, F = G + 1 := ⟨F - 1, by omega⟩
    refine b_t (by decide) (fun x22 e22 => ?_)
    rw [← Int32.sub_eq_add_neg] at e22
    subst e22
    exact K S F (by omega) hK r0 hv
  | succ c ih =>
    intro S F hD hF hK r0 r1 hv
    obtain ⟨F, rfl⟩ : ∃ G, F = G + 1 := ⟨F - 1, by omega⟩
    rw [nI_pred]
    have z2 : ns ≤ 2 → c = 0 := fun h => by
      rw [if_neg (by omega)] at hD
      omega
    have hc12 : a + b + c ≤ 12 := by
      by_cases g : 2 < ns
      · rw [if_pos g] at hD; omega
      · rw [if_neg g] at hD; omega
    refine b_f (nI_pos (by omega)) ⟨vp_in_nI (n := 2) (by omega) (by omega), fun S18 e18 => ?_⟩
    rw [show (2 : Int32).toNatClampNeg = 2 from rfl] at e18
    have hK18 : Kp [10, 11, 12] [14, 15] C S18 := by rw [e18]; exact hK.sR (by decide) _
    have w0 : S18.2.2 14 0 = nI a := by rw [e18, sR_g, upd_n _ _ _ (by decide), r0]
    have w1 : S18.2.2 14 1 = nI b := by rw [e18, sR_g, upd_n _ _ _ (by decide), r1]
    have w2 : S18.2.2 14 2 = nI c := by rw [e18, sR_g, upd_g]
    have v18 : cV ns V P N (2197 * a + 169 * b + 13 * (c + 1)) S18 := by rw [e18]; exact cV_row hv _
    obtain ⟨d0, hd0⟩ : ∃ d0, d0 = if 3 < ns then 12 - a - b - c else 0 := ⟨_, rfl⟩
    have hd12 : d0 ≤ 12 := by rw [hd0]; split <;> omega
    rw [show (12 : Int32) = nI 12 from rfl, pk_sub (by omega), pk_sub (by omega), pk_sub (by omega)]
    refine c_most (q := 3) (by rw [hK18.1 5 (by decide), h5]) hn (by omega) ?_
    rw [← hd0]
    have main := f_3 (post := post) (X := 16 * c + 1 + X) hW hn hc12 z0 z1 z2 (fun S' F' hF' hK' r0' r1' hv' => ih S' F' (by omega) hF' hK' r0' r1' hv') (d0 + 1) S18 F (by rw [← hd0]; exact Nat.le_refl _) (by omega) hK18 w0 w1 w2 (cV_low v18 (by omega) (fun y hy h => q_d3 hy hc12 hd0 h))
    rw [nI_pred] at main
    exact main
theorem f_1 (hW : WG C ns left V P N) (h5 : C.1 5 = nI ns) (hn : ns ≤ 4) {a X : Nat} (ha : a ≤ 12) (z0 : ns ≤ 0 → a = 0)
    (K : ∀ S F, X ≤ F → Kp [10, 11, 12] [14, 15] C S → cV ns V P N (2197 * a) S → LX2_findBest post F 0 (nI left) (nI a - 1) 0 0 0 S) :
    ∀ D S F, D ≤ (if 1 < ns then 12 - a else 0) + 1 → 240 * D + 1 + X ≤ F → Kp [10, 11, 12] [14, 15] C S → S.2.2 14 0 = nI a → cV ns V P N (2197 * a + 169 * D) S → LX2_findBest post F 1 (nI left) (nI a) (nI D - 1) 0 0 S := by
  intro D
  induction D with
  | zero =>
    intro S F hD hF hK r0 hv
    obtain ⟨F, rfl⟩ : ∃ G, F = G + 1 := ⟨F - 1, by omega⟩
    refine b_t (by decide) (fun x22 e22 => ?_)
    rw [← Int32.sub_eq_add_neg] at e22
    subst e22
    exact K S F (by omega) hK hv
  | succ b ih =>
    intro S F hD hF hK r0 hv
    obtain ⟨F, rfl⟩ : ∃ G, F = G + 1 := ⟨F - 1, by omega⟩
    rw [nI_pred]
    have z1 : ns ≤ 1 → b = 0 := fun h => by
      rw [if_neg (by omega)] at hD
      omega
    have hb12 : a + b ≤ 12 := by
      by_cases g : 1 < ns
      · rw [if_pos g] at hD; omega
      · rw [if_neg g] at hD; omega
    refine b_f (nI_pos (by omega)) ⟨vp_in_nI (n := 1) (by omega) (by omega), fun S12 e12 => ?_⟩
    rw [show (1 : Int32).toNatClampNeg = 1 from rfl] at e12
    have hK12 : Kp [10, 11, 12] [14, 15] C S12 := by rw [e12]; exact hK.sR (by decide) _
    have w0 : S12.2.2 14 0 = nI a := by rw [e12, sR_g, upd_n _ _ _ (by decide), r0]
    have w1 : S12.2.2 14 1 = nI b := by rw [e12, sR_g, upd_g]
    have v12 : cV ns V P N (2197 * a + 169 * (b + 1)) S12 := by rw [e12]; exact cV_row hv _
    obtain ⟨c0, hc0⟩ : ∃ c0, c0 = if 2 < ns then 12 - a - b else 0 := ⟨_, rfl⟩
    have hc12 : c0 ≤ 12 := by rw [hc0]; split <;> omega
    rw [show (12 : Int32) = nI 12 from rfl, pk_sub (by omega), pk_sub (by omega)]
    refine c_most (q := 2) (by rw [hK12.1 5 (by decide), h5]) hn (by omega) ?_
    rw [← hc0]
    have main := f_2 (post := post) (X := 240 * b + 1 + X) hW h5 hn hb12 z0 z1 (fun S' F' hF' hK' r0' hv' => ih S' F' (by omega) hF' hK' r0' hv') (c0 + 1) S12 F (by rw [← hc0]; exact Nat.le_refl _) (by omega) hK12 w0 w1 (cV_low v12 (by omega) (fun y hy h => q_d2 hy hb12 hc0 h))
    rw [nI_pred] at main
    exact main
theorem f_0 (hW : WG C ns left V P N) (h5 : C.1 5 = nI ns) (hn : ns ≤ 4) (K : ∀ S, Kp [10, 11, 12] [14, 15] C S → cV ns V P N 0 S → post S) :
    ∀ D S F, D ≤ (if 0 < ns then 12 else 0) + 1 → 3400 * D + 1 ≤ F → Kp [10, 11, 12] [14, 15] C S → cV ns V P N (2197 * D) S → LX2_findBest post F 0 (nI left) (nI D - 1) 0 0 0 S := by
  intro D
  induction D with
  | zero =>
    intro S F hD hF hK hv
    obtain ⟨F, rfl⟩ : ∃ G, F = G + 1 := ⟨F - 1, by omega⟩
    exact b_t (by decide) (K S hK hv)
  | succ a ih =>
    intro S F hD hF hK hv
    obtain ⟨F, rfl⟩ : ∃ G, F = G + 1 := ⟨F - 1, by omega⟩
    rw [nI_pred]
    have z0 : ns ≤ 0 → a = 0 := fun h => by
      rw [if_neg (by omega)] at hD
      omega
    have ha12 : a ≤ 12 := by
      by_cases g : 0 < ns
      · rw [if_pos g] at hD; omega
      · rw [if_neg g] at hD; omega
    refine b_f (nI_pos (by omega)) ⟨vp_in_nI (n := 0) (by omega) (by omega), fun S6 e6 => ?_⟩
    rw [show (0 : Int32).toNatClampNeg = 0 from rfl] at e6
    have hK6 : Kp [10, 11, 12] [14, 15] C S6 := by rw [e6]; exact hK.sR (by decide) _
    have w0 : S6.2.2 14 0 = nI a := by rw [e6, sR_g, upd_g]
    have v6 : cV ns V P N (2197 * (a + 1)) S6 := by rw [e6]; exact cV_row hv _
    obtain ⟨b0, hb0⟩ : ∃ b0, b0 = if 1 < ns then 12 - a else 0 := ⟨_, rfl⟩
    have hb12 : b0 ≤ 12 := by rw [hb0]; split <;> omega
    rw [show (12 : Int32) = nI 12 from rfl, pk_sub (by omega)]
    refine c_most (q := 1) (by rw [hK6.1 5 (by decide), h5]) hn (by omega) ?_
    rw [← hb0]
    have main := f_1 (post := post) (X := 3400 * a + 1) hW h5 hn ha12 z0 (fun S' F' hF' hK' hv' => ih S' F' (by omega) hF' hK' hv') (b0 + 1) S6 F (by rw [← hb0]; exact Nat.le_refl _) (by omega) hK6 w0 (cV_low v6 (by omega) (fun y hy h => q_d1 hy ha12 hb0 h))
    rw [nI_pred] at main
    exact main
theorem c_findBest0 (hW : WG C ns left V P N) (h5 : C.1 5 = nI ns) (hn : ns ≤ 4)
    (k : ∀ S1 x, Kp [10, 11, 12] [14, 15] C S1 → qK ns x → (∀ i, i < 4 → S1.2.2 15 i = nI (x i)) → S1.2.1 0 = lZ (V x : Nat) → (∀ y, qK ns y → qB V P N x y) → post S1) : ∃ n, PX2_findBest n (nI left) C post := by
  refine ⟨3400 * 13 + 1, fun S1 e1 => ?_⟩
  have hK1 : Kp [10, 11, 12] [14, 15] C S1 := by rw [e1]; exact Kp.rf.sI (by decide) _
  obtain ⟨a0, ha0⟩ : ∃ a0, a0 = if 0 < ns then 12 else 0 := ⟨_, rfl⟩
  have ha12 : a0 ≤ 12 := by rw [ha0]; split <;> omega
  refine c_most (q := 0) (room := 12) (by rw [hK1.1 5 (by decide), h5]) hn (by omega) ?_
  rw [← ha0]
  have hv1 : cV ns V P N (2197 * (a0 + 1)) S1 := by
    refine Or.inl ⟨by rw [e1, sI_g], fun y hy => ?_⟩
    have h12 := hy.1
    by_cases c : 0 < ns
    · rw [if_pos c] at ha0
      have := q_max h12
      omega
    · rw [if_neg c] at ha0
      have y0 := hy.2 0 (by omega) (by omega)
      have y1 := hy.2 1 (by omega) (by omega)
      have y2 := hy.2 2 (by omega) (by omega)
      have y3 := hy.2 3 (by omega) (by omega)
      unfold qC
      omega
  have main := f_0 (post := post) hW h5 hn (fun S hK hv => by
    rcases hv with ⟨-, h⟩ | ⟨e, x, g1, g2, g3, g4, g5, g6, g7⟩
    · exact absurd (Nat.zero_le _) (h (fun _ => 0) qK_0)
    · exact k S x hK g1 g3 g4 (fun y hy => g7 y hy (Nat.zero_le _))) (a0 + 1) S1 (3400 * 13 + 1) (by rw [← ha0]; exact Nat.le_refl _) (by omega) hK1 hv1
  rw [nI_pred] at main
  exact main
end LOOPS
theorem c_findBest {C : St} {p : Nat → Bool} {ea : Nat → Nat} {wa wn nd ns left : Nat} {po pr : Nat → Nat} {post : St → Prop} (hG : KG ea wa wn nd ns left po pr) (hC : KC p ea wa wn nd ns po pr C)
    (k : ∀ S1 x, Kp [10, 11, 12] [14, 15] C S1 → qK ns x → (∀ i, i < 4 → S1.2.2 15 i = nI (x i)) → S1.2.1 0 = lZ (qV p ea wa wn nd ns left po pr x : Nat) → (∀ y, qK ns y → qB (qV p ea wa wn nd ns left po pr) (qP ns po) (qN ns) x y) → post S1) : ∃ n, PX2_findBest n (nI left) C post :=
  c_findBest0 (fun S x post' hx hK h14 hv kk => c_weigh hG hx (hC.kept hK (by decide) (by decide)) h14 hv kk) hC.1 hG.1 k
