/-! the reference weighs and takes -/
theorem cst_s {p : Nat → Bool} {ea : Nat → Nat} {wa wn d all each : Nat} : cst p ea wa wn (d + 1) all each = cst p ea wa wn d all each + (if p d = true then (each + (if ea d < all then (all - ea d) * wa else (ea d - all) * wn)) else 0) := rfl
set_option maxHeartbeats 1000000 in
theorem m_costOf {M : St} {nd j : Nat} {ea : Nat → Nat} {aw mk : Nat → Int32} {A marks : Int32} {wa wn left all each : Nat} {p : Nat → Bool} {post : Int64 → St → Prop} (hD : DM M nd j ea aw mk) (hp : p = kn aw mk A marks) (h6 : M.1 6 = A) (h7 : M.1 7 = marks &&& A) (h9 : M.1 9 = nI wa) (h10 : M.1 10 = nI wn)
    (hwa : wa ≤ 1000) (hwn : wn ≤ 1000) (hall : all + left ≤ 20000) (heach : each ≤ 1000000) (k : post (lZ ((cst p ea wa wn nd (all + left) each : Nat) : Int)) M) : ∃ n, PX6_costOf n (nI j) (nI left) (nI all) (nI each) M post := by
  have hnd := hD.1
  have hn := hD.2.2.1
  have key : ∀ r d, d + r = nd → LX6_costOf post (r + 1) (nI j) (nI left) (nI all) (nI each) (nI d) (lZ ((cst p ea wa wn d (all + left) each : Nat) : Int)) M := by
    intro r
    induction r with
    | zero =>
      intro d hd
      have : d = nd := by omega
      subst this
      exact b_t (by rw [hn]; exact nI_le (Nat.le_refl _) (by omega)) k
    | succ r ih =>
      intro d hd
      have ih := ih (d + 1) (by omega)
      obtain ⟨q1, q2, q3, q4⟩ := m_eaten hD (show d < nd by omega)
      refine b_f (by rw [hn]; exact fun e => absurd ((nI_leI (by omega) (by omega)).mp e) (by omega)) (m_isLeaf hD (by omega) h6 h7 (fun hy => b_1 ?_) (fun hn0 => b_0 (fun x ex => ?_)))
      · rw [q1]
        rw [← hp] at hy
        refine ⟨q2, fun x6 e6 => ?_⟩
        rw [q3, nI_add] at e6
        have hx : x6.toInt = ((all + left : Nat) : Int) - (ea d : Int) := by rw [e6]; exact pk_sub_toInt (by omega) (by omega)
        rw [cst_s, if_pos hy] at ih
        refine ⟨fun c y8 e8 x9 ex => ?_, fun c y8 e8 x9 ex => ?_⟩
        · rw [i_le, hx] at c
          have c0 : (0 : Int32).toInt = 0 := rfl
          have c' : all + left ≤ ea d := by omega
          rw [if_neg (by omega)] at ih
          rw [e6, Int32.neg_sub, pk_sub c', h10, nI_Z (by omega), nI_Z (by omega), nI_Z (by omega), lZ_mul, lZ_add, lZ_add] at e8
          rw [nI_1] at ex
          have e8' : y8 = lZ ((cst p ea wa wn d (all + left) each + (each + (ea d - (all + left)) * wn) : Nat) : Int) := by
            rw [e8, Int.natCast_add, Int.natCast_add, Int.natCast_mul]
          subst e8'; subst ex
          exact ih
        · rw [i_le, hx] at c
          have c0 : (0 : Int32).toInt = 0 := rfl
          have c' : ea d < all + left := by omega
          rw [if_pos c'] at ih
          rw [e6, pk_sub (by omega), h9, nI_Z (by omega), nI_Z (by omega), nI_Z (by omega), lZ_mul, lZ_add, lZ_add] at e8
          rw [nI_1] at ex
          have e8' : y8 = lZ ((cst p ea wa wn d (all + left) each + (each + (all + left - ea d) * wa) : Nat) : Int) := by
            rw [e8, Int.natCast_add, Int.natCast_add, Int.natCast_mul]
          subst e8'; subst ex
          exact ih
      · subst ex
        rw [← hp] at hn0
        rw [cst_s, if_neg (by rw [hn0]; decide)] at ih
        rw [nI_1]
        exact ih
  exact ⟨nd + 1, key nd 0 (by omega)⟩
theorem m_upTo {S : St} {q : Nat} {x : Nat → Nat} {post : Int32 → St → Prop} (hq : q < 4) (h9 : ∀ i, i < 4 → S.2.2 9 i = nI (x i)) (k : post (nI (zA x (q + 1))) S) : ∃ n, PX6_upTo n (nI q) S post := by
  have key : ∀ r i, i + r = q + 1 → LX6_upTo post (r + 1) (nI q) (nI (zA x i)) (nI i) S := by
    intro r
    induction r with
    | zero =>
      intro i hi
      have : i = q + 1 := by omega
      subst this
      exact b_t (nI_lt (by omega) (by omega)) k
    | succ r ih =>
      intro i hi
      refine b_f (fun e => absurd ((nI_ltI (by omega) (by omega)).mp e) (by omega)) ⟨vp_in_nI (by omega) (by omega), fun x3 e3 x4 e4 => ?_⟩
      rw [nI_clamp (by omega), h9 i (by omega), nI_add] at e3
      rw [nI_1] at e4
      subst e3; subst e4
      exact ih (i + 1) (by omega)
  exact ⟨q + 2, key (q + 1) 0 (by omega)⟩
theorem q_first {x b : Nat → Nat} {i : Nat} (hi : i < 4) (hx : x 0 + x 1 + x 2 + x 3 ≤ 12) (hb : b 0 + b 1 + b 2 + b 3 ≤ 12) (he : ∀ q, q < i → x q = b q) (h : x i < b i) : qC x < qC b := by
  have h4 : i = 0 ∨ i = 1 ∨ i = 2 ∨ i = 3 := by omega
  unfold qC
  rcases h4 with rfl | rfl | rfl | rfl
  · omega
  · have a0 := he 0 (by omega)
    omega
  · have a0 := he 0 (by omega)
    have a1 := he 1 (by omega)
    omega
  · have a0 := he 0 (by omega)
    have a1 := he 1 (by omega)
    have a2 := he 2 (by omega)
    omega
theorem m_isMore {S : St} {ns : Nat} {x b : Nat → Nat} {post : Int32 → St → Prop} (hn : ns ≤ 4) (h8 : S.1 8 = nI ns) (hx : qK ns x) (hb : qK ns b) (h9 : ∀ i, i < 4 → S.2.2 9 i = nI (x i)) (h10 : ∀ i, i < 4 → S.2.2 10 i = nI (b i))
    (k1 : qC b < qC x → post 1 S) (k0 : ¬ qC b < qC x → post 0 S) : ∃ n, PX6_isMore n S post := by
  have key : ∀ r i, i + r = ns → (∀ q, q < i → x q = b q) → LX6_isMore post (r + 1) (nI i) S := by
    intro r
    induction r with
    | zero =>
      intro i hi he
      have : i = ns := by omega
      subst this
      refine b_t (by rw [h8]; exact nI_le (Nat.le_refl _) (by omega)) (k0 ?_)
      have all : ∀ q, q < 4 → x q = b q := fun q hq => by
        rcases Nat.lt_or_ge q i with h | h
        · exact he q h
        · rw [hx.2 q h hq, hb.2 q h hq]
      unfold qC
      rw [all 0 (by omega), all 1 (by omega), all 2 (by omega), all 3 (by omega)]
      exact Nat.lt_irrefl _
    | succ r ih =>
      intro i hi he
      have hin : vp_in (nI i) 4 := vp_in_nI (by omega) (by omega)
      have x12 := qK_12 hx i (by omega)
      have b12 := qK_12 hb i (by omega)
      refine b_f (by rw [h8]; exact fun e => absurd ((nI_leI (by omega) (by omega)).mp e) (by omega)) ?_
      rw [nI_clamp (by omega), h9 i (by omega), h10 i (by omega)]
      refine ⟨hin, hin, fun c x5 e5 => ?_, fun c => ⟨hin, hin, fun c2 => k0 ?_, fun c2 => k1 ?_⟩⟩
      · have c' := nI_inj (by omega) (by omega) c
        rw [nI_1] at e5
        subst e5
        refine ih (i + 1) (by omega) (fun q hq => ?_)
        rcases Nat.lt_or_ge q i with h | h
        · exact he q h
        · have : q = i := by omega
          subst this
          exact c'
      · have c2' := (nI_leI (by omega) (by omega)).mp c2
        have c' : x i ≠ b i := fun e => c (by rw [e])
        have := q_first (i := i) (by omega) hx.1 hb.1 he (by omega)
        omega
      · have c2' : ¬ x i ≤ b i := fun e => c2 (nI_le e (by omega))
        exact q_first (i := i) (by omega) hb.1 hx.1 (fun q hq => (he q hq).symm) (by omega)
  exact ⟨ns + 1, key ns 0 (by omega) (fun q hq => absurd hq (by omega))⟩
/-- the best of the sets below a number -/
def mV (ns : Nat) (V P N : (Nat → Nat) → Nat) (T : Nat) (S : St) : Prop := (S.2.1 2 = -1 ∧ ∀ y, qK ns y → ¬ qC y < T) ∨
  (∃ x, qK ns x ∧ qC x < T ∧ (∀ i, i < 4 → S.2.2 10 i = nI (x i)) ∧ S.2.1 2 = lZ (V x : Nat) ∧ S.1 11 = nI (P x) ∧ S.1 12 = nI (N x) ∧ ∀ y, qK ns y → qC y < T → qB V P N x y)
section TAKES
variable {ns : Nat} {V P N : (Nat → Nat) → Nat}
theorem mV_up {T T' : Nat} {S : St} (h : mV ns V P N T S) (h1 : T ≤ T') (h2 : ∀ y, qK ns y → qC y < T' → qC y < T) : mV ns V P N T' S := by
  rcases h with ⟨e, h⟩ | ⟨x, g1, g2, g3, g4, g5, g6, g7⟩
  · exact Or.inl ⟨e, fun y hy hT => h y hy (h2 y hy hT)⟩
  · exact Or.inr ⟨x, g1, by omega, g3, g4, g5, g6, fun y hy hT => g7 y hy (h2 y hy hT)⟩
theorem mV_row {T : Nat} {S : St} (h : mV ns V P N T S) (f : Nat → Int32) : mV ns V P N T (sR S 9 f) := by
  unfold mV at h ⊢
  rw [sR_n _ _ _ (show (10 : Nat) ≠ 9 by decide)]
  exact h
set_option maxHeartbeats 1000000 in
theorem m_takes {S : St} {x : Nat → Nat} {v p n : Nat} {post : St → Prop} (eV : qE V) (eP : qE P) (eN : qE N) (hn : ns ≤ 4) (hVb : ∀ y, qK ns y → V y < 2 ^ 62 ∧ P y < 2 ^ 31 ∧ N y < 2 ^ 31) (h8 : S.1 8 = nI ns) (hx : qK ns x) (h9 : ∀ i, i < 4 → S.2.2 9 i = nI (x i)) (hv : mV ns V P N (qC x) S) (ev : V x = v) (ep : P x = p) (en : N x = n)
    (k : ∀ S1 : St, Kp [11, 12] [10] S S1 → mV ns V P N (qC x + 1) S1 → post S1) : ∃ m, PX6_takes m (lZ (v : Int)) (nI p) (nI n) S post := by
  subst ev; subst ep; subst en
  obtain ⟨bv, bp, bn⟩ := hVb x hx
  have same : ∀ y, qK ns y → qC y < qC x + 1 → ¬ qC y < qC x → qB V P N x y := fun y hy h1 h2 => qB_eq eV eP eN (qC_inj hx.1 hy.1 (by omega))
  -- taking it
  have yes : (∀ y, qK ns y → qC y < qC x → qB V P N x y) → ∀ F, 7 ≤ F → LX6_takes post F 1 (nI (P x)) (nI (N x)) 1 0 0 (lZ (V x : Nat)) S := by
    intro hall F hF
    obtain ⟨F, rfl⟩ : ∃ G, F = G + 1 := ⟨F - 1, by omega⟩
    refine b_1 (fun S13 e13 S14 e14 S15 e15 => ?_)
    have hK15 : Kp [11, 12] [10] S S15 := by
      rw [e15, e14, e13]
      exact ((Kp.rf.sJ _).sI (by decide) _).sI (by decide) _
    have j15 : S15.2.1 2 = lZ (V x : Nat) := by rw [e15, e14, e13, sI_J, sI_J, sJ_g]
    have i11 : S15.1 11 = nI (P x) := by rw [e15, sI_n _ _ _ (by decide), e14, sI_g]
    have i12 : S15.1 12 = nI (N x) := by rw [e15, sI_g]
    have copy : ∀ r i, i + r = 4 → ∀ T, Kp [] [10] S15 T → T.2.1 = S15.2.1 → (∀ q, q < i → T.2.2 10 q = nI (x q)) → ∀ F, r + 1 ≤ F → LX6_takes post F 2 0 0 0 (nI i) 0 0 T := by
      intro r
      induction r with
      | zero =>
        intro i hi T hT jT h10 F hF
        obtain ⟨F, rfl⟩ : ∃ G, F = G + 1 := ⟨F - 1, by omega⟩
        have : i = 4 := by omega
        subst this
        refine b_t (by decide) (k T (hK15.tr (hT.mono (by decide) (by decide))) (Or.inr ⟨x, hx, by omega, h10, by rw [jT, j15], by rw [hT.1 11 (by decide), i11], by rw [hT.1 12 (by decide), i12], fun y hy hT => ?_⟩))
        by_cases c : qC y < qC x
        · exact hall y hy c
        · exact same y hy hT c
      | succ r ih =>
        intro i hi T hT jT h10 F hF
        obtain ⟨F, rfl⟩ : ∃ G, F = G + 1 := ⟨F - 1, by omega⟩
        have hin : vp_in (nI i) 4 := vp_in_nI (by omega) (by omega)
        refine b_f (fun e => absurd ((nI_leI (a := 4) (by omega) (by omega)).mp e) (by omega)) ⟨hin, hin, fun S19 e19 x20 e20 => ?_⟩
        have r9 : T.2.2 9 i = nI (x i) := by rw [hT.2 9 (by decide), hK15.2 9 (by decide)]; exact h9 i (by omega)
        rw [nI_clamp (by omega), r9] at e19
        rw [nI_1] at e20
        subst e20
        refine ih (i + 1) (by omega) S19 (by rw [e19]; exact hT.sR (by decide) _) (by rw [e19, sR_J, jT]) (fun q hq => ?_) F (by omega)
        rw [e19, sR_g]
        by_cases c : q = i
        · subst c
          rw [upd_g]
        · rw [upd_n _ _ _ c]
          exact h10 q (by omega)
    exact copy 4 0 (by omega) S15 Kp.rf rfl (fun q hq => absurd hq (by omega)) F (by omega)
  rcases id hv with ⟨e, hnone⟩ | ⟨b, q1, q2, q3, q4, q5, q6, q7⟩
  · refine ⟨8, b_t (by rw [e]; decide) ?_⟩
    show BX6_takes_0 _ _ _ _ _ _ _ _ _
    exact b_1 (yes (fun y hy h => absurd h (hnone y hy)) 7 (Nat.le_refl _))
  · obtain ⟨bv', bp', bn'⟩ := hVb b q1
    have no : (qB V P N b x) → ∀ F, 1 ≤ F → LX6_takes post F 1 (nI (P x)) (nI (N x)) 0 0 0 (lZ (V x : Nat)) S := by
      intro hbx F hF
      obtain ⟨F, rfl⟩ : ∃ G, F = G + 1 := ⟨F - 1, by omega⟩
      refine b_0 (k S Kp.rf (Or.inr ⟨b, q1, by omega, q3, q4, q5, q6, fun y hy hT => ?_⟩))
      by_cases c : qC y < qC x
      · exact q7 y hy c
      · exact qB_tr hbx (same y hy hT c)
    have yes' : qB V P N x b → ∀ F, 7 ≤ F → LX6_takes post F 1 (nI (P x)) (nI (N x)) 1 0 0 (lZ (V x : Nat)) S := fun hxb => yes (fun y hy h => qB_tr hxb (q7 y hy h))
    refine ⟨8, ?_⟩
    unfold PX6_takes
    rw [q4]
    refine b_f (fun e => ?_) ⟨fun c => ?_, fun c => ?_⟩
    · rw [lg_cmp_lt, show (0 : Int64) = lZ 0 from rfl, lZ_lt (by omega) (by omega) (by omega) (by omega)] at e
      omega
    · rw [lg_cmp_ge, lZ_le (by omega) (by omega) (by omega) (by omega)] at c
      show BX6_takes_0 _ _ _ _ _ _ _ _ _
      unfold BX6_takes_0
      rw [q4, q5, q6]
      refine b_0 ⟨fun c1 => ⟨fun c2 => ⟨fun c3 => ?_, fun c3 => ⟨fun c4 => no ?_ 7 (by omega), fun c4 => yes' ?_ 7 (by omega)⟩⟩, fun c2 => ⟨fun c4 => no ?_ 7 (by omega), fun c4 => yes' ?_ 7 (by omega)⟩⟩, fun c1 => no ?_ 7 (by omega)⟩
      · have c1' := lZ_inj bv bv' ((lg_cmp_eq _ _).mp c1)
        have c2' := nI_inj bp bp' c2
        have c3' := nI_inj bn bn' c3
        refine m_isMore hn h8 hx q1 h9 q3 (fun hm => yes' ?_ 7 (by omega)) (fun hm => absurd q2 hm)
        unfold qB
        omega
      · have c1' := lZ_inj bv bv' ((lg_cmp_eq _ _).mp c1)
        have c2' := nI_inj bp bp' c2
        have c3' : N x ≠ N b := fun h => c3 (by rw [h])
        have c4' := (nI_leI bn' bn).mp c4
        unfold qB
        omega
      · have c1' := lZ_inj bv bv' ((lg_cmp_eq _ _).mp c1)
        have c2' := nI_inj bp bp' c2
        have c4' : ¬ N b ≤ N x := fun h => c4 (nI_le h bn)
        unfold qB
        omega
      · have c1' := lZ_inj bv bv' ((lg_cmp_eq _ _).mp c1)
        have c2' : P x ≠ P b := fun h => c2 (by rw [h])
        have c4' := (nI_leI bp' bp).mp c4
        unfold qB
        omega
      · have c1' := lZ_inj bv bv' ((lg_cmp_eq _ _).mp c1)
        have c4' : ¬ P b ≤ P x := fun h => c4 (nI_le h bp)
        unfold qB
        omega
      · have c1' : V x ≠ V b := fun h => c1 ((lg_cmp_eq _ _).mpr (by rw [h]))
        unfold qB
        omega
    · rw [lg_cmp_ge, lZ_le (by omega) (by omega) (by omega) (by omega)] at c
      show BX6_takes_0 _ _ _ _ _ _ _ _ _
      refine b_1 (yes' ?_ 7 (Nat.le_refl _))
      unfold qB
      omega
end TAKES
